/-! rows of the law's body -/
theorem isR_of : ∀ {e : va_E}, isRO e = false → isR e = false
  | .inr (_, _), h => h
  | .inl (_, _, .inl _), h => by cases h
  | .inl (_, _, .inr _), _ => rfl
/-- the loop's head: the class's state S, the reference's M, n calls behind us -/
def LI (κ : Kx) (x xm o : Nat) (bb : Nat → Nat) (S : CSt) (M : MS) (n : Nat) (L : List Nat) (f : Nat → va_E) : Prop := (∃ a, CA κ x a S.1 S.2.1 S.2.2 L f) ∧ ZR κ xm bb M L f f ∧ (o ∈ L ∧ ∃ g, f o = outE κ g) ∧ Rel S M n
theorem LI.next {κ : Kx} {x xm o n : Nat} {bb : Nat → Nat} {S1 : CSt} {M1 : MS} {a : AD} {L1 : List Nat} {f1 f2 : Nat → va_E} {g : Nat → Int64} (hca : CA κ x a S1.1 S1.2.1 S1.2.2 L1 f1) (hz : ZR κ xm bb M1 L1 f1 f2) (ho : o ∈ L1) (hfo : f1 o = outE κ g) (hR : Rel S1 M1 n) : LI κ x xm o bb S1 M1 n L1 f2 ∧ f2 o = outE κ g := by
  have e : f2 o = outE κ g := (hz.2.2.2 o (by rw [hfo]; rfl)).trans hfo
  exact ⟨⟨⟨a, hca.keep (fun q h => h) (fun q _ hr => hz.2.2.2 q (isR_of hr))⟩, ⟨hz.1, hz.2.1, hz.2.2.1, fun _ _ => rfl⟩, ⟨ho, g, e⟩, hR⟩, e⟩
section LAWROWS
variable {p : Program} {l : Launch} {e : Env} {R : Room} {s : State} {m : MethodId} {args : Array Value} {below : List Frame} {meth : Method} {c : Code} {H : Heap} {locs : List Loc} {cells slots : Nat} {Q : State → Prop}
variable {κ : Kx} {L : List Nat} {f : Nat → va_E} {cc : ByteArray} {pc : Nat} {ls : Array Slot} {rest st0 : List Value} {Ts : List Cond} {own : String}
theorem k_callSX0 {y : MethodName} {bytes : ByteArray} {maxL nL mc ms n index : Nat} {ret : Option FieldType} {ws : List Cond} {rm : Room} {post : Option Value → List Nat → (Nat → va_E) → Prop} {As : List Value} {tb : List (Nat × Nat × Nat × Nat)} (hM : PM l κ y ws rm As L f post noX mc ms) (S : CallFix p m c cc nL s args Ts own) (hh : HH κ L f s H locs) (cw : vx_CSW R s args own index y bytes maxL ret tb ws rm mc ms n) (hn : As.length = n) (hsize : ls.size = nL) (hst : st0 = As.reverse ++ rest) (hW : (rest.map fun v => v.category).sum ≤ 8) (hdg : decode cc pc = .ok (.invokestatic index, 3)) (hr : cells + mc ≤ R.cells ∧ slots + ms ≤ R.slots)
    (kk : ∀ (v : Option Value) (L1 : List Nat) (f1 : Nat → va_E) (H1 : Heap) (locs1 : List Loc), post v L1 f1 → HH κ L1 f1 s H1 locs1 → W p l e R s m args below meth c H1 locs1 (cells + mc) (slots + ms) Q (F0 m (pc + 3) ls (v.toList ++ rest))) : W p l e R s m args below meth c H locs cells slots Q (F0 m pc ls st0) :=
  k_run (av := As) (vx_runSX S hM cw (k_preS hh) rfl hn hsize hst (lv_room hW) hdg hr) hh kk (fun _ _ _ _ _ h => h.elim)
theorem l_sld {b Ln : Nat} {xs : Nat → Int32} (S : CallFix p m c cL_law 7 s args wsL_law RL) (hX : va_X b Ln xs s s.heap) (hbl : b < s.heap.size) (hbA : ¬ kA κ b) (hh : HH κ L f s H locs) {i v : Int32} {k : Nat} (hi : i = nI k) (hk : k < Ln) (hLn : Ln ≤ 2048) (hv : xs k = v) (hdg : decode cL_law pc = .ok (.iaload, 1))
    (kk : W p l e R s m args below meth c H locs cells slots Q (F0 m (pc + 1) ls (.int v :: rest))) : W p l e R s m args below meth c H locs cells slots Q (F0 m pc ls (.int i :: .ref b :: rest)) := by
  subst hi
  exact va_sld S.1 S.2.1 hX hbl hbA hh.2.2.2.1 (vp_in_nI hk (by omega)) hdg (by rw [show (nI k).toNatClampNeg = k from nI_clamp (by omega), hv]; exact kk)
/-- what comes behind a call -/
def LK (p : Program) (l : Launch) (e : Env) (s : State) (m : MethodId) (b : Nat) (below : List Frame) (meth : Method) (c : Code) (Q : State → Prop) (κ : Kx) (x xm o : Nat) (bb : Nat → Nat) (n : Nat) : Prop :=
  ∀ (S1 : CSt) (M1 : MS) (L1 : List Nat) (f1 : Nat → va_E) (H1 : Heap) (locs1 : List Loc) (ls1 : Array Slot), HH κ L1 f1 s H1 locs1 → LI κ x xm o bb S1 M1 (n + 1) L1 f1 → lv_has ls1 7 [(0, .ref b), (1, .ref x), (2, .ref xm), (3, .ref o), (4, .int (nI (4 * n)))] →
    W p l e room_1 s m #[Value.ref b] below meth c H1 locs1 (30 + 6 * (n + 1)) (2000 + 3016 * (n + 1)) Q (F0 m 1126 ls1 [])
end LAWROWS
