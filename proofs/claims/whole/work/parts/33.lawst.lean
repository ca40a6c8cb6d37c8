/-! the law's helpers: what they make of the class's state, of 'out' (the cell o), of the reference's cells (nothing) -/
def FrO (o : Nat) (L0 : List Nat) (f0 : Nat → va_E) (L : List Nat) (f : Nat → va_E) : Prop := (∀ q, q ∈ L0 → q ∈ L) ∧ ∀ q, q ∈ L0 → q ≠ o → isRO (f0 q) = true → f q = f0 q
abbrev CSt : Type := (Nat → Nat) × (Nat → Nat) × MS
abbrev outE (κ : Kx) (g : Nat → Int64) : va_E := .inl (kJ κ, 1, .inr (.inl g))
def LPo (κ : Kx) (x o : Nat) (S1 : CSt) (L : List Nat) (f : Nat → va_E) (L1 : List Nat) (f1 : Nat → va_E) (Q : Int64 → Prop) : Prop := (∃ a, CA κ x a S1.1 S1.2.1 S1.2.2 L1 f1) ∧ FrO o L f L1 f1 ∧ o ∈ L1 ∧ ∃ g, f1 o = outE κ g ∧ Q (g 0)
theorem isRO_ci {ci : Nat} {fs : List Value} (h : ci ≠ 7) : isRO (.inr (ci, fs)) = false := by simp [isRO, h]
theorem CA.keep {κ : Kx} {x : Nat} {a : AD} {N P : Nat → Nat} {C : MS} {L L1 : List Nat} {f f1 : Nat → va_E} (h : CA κ x a N P C L f) (hL : ∀ q, q ∈ L → q ∈ L1) (hf : ∀ q, q ∈ L → isRO (f q) = false → f1 q = f q) : CA κ x a N P C L1 f1 := by
  obtain ⟨⟨h1, h2⟩, h3, h4, h5, h6, h7, h8⟩ := h
  have tag : ∀ q ci fs, q ∈ L → f q = .inr (ci, fs) → ci ≠ 7 → f1 q = f q := fun q ci fs hq hq2 hc => hf q hq (by rw [hq2]; exact isRO_ci hc)
  refine ⟨⟨hL _ h1, by rw [tag x 6 _ h1 h2 (by decide)]; exact h2⟩, fun k i hk hi => ?_, fun i hi hc => ?_, h5, fun j hj => ?_, h7, h8⟩
  · obtain ⟨p1, p2⟩ := h3 k i hk hi
    have hr := ciOf_r k
    exact ⟨hL _ p1, by rw [tag _ _ _ p1 p2 (by omega)]; exact p2⟩
  · obtain ⟨p1, p2⟩ := h4 i hi hc
    exact ⟨hL _ p1, by rw [tag _ _ _ p1 p2 (by decide)]; exact p2⟩
  · obtain ⟨⟨q1, mc, q2⟩, q3⟩ := h6 j hj
    refine ⟨⟨hL _ q1, mc, by rw [tag _ 0 _ q1 q2 (by decide)]; exact q2⟩, ?_⟩
    rcases q3 with q3 | ⟨cap, g, hR, hn, hg⟩
    · exact Or.inl q3
    · refine Or.inr ⟨cap, g, ⟨hL _ hR.1, by rw [hf _ hR.1 (by rw [hR.2.1]; rfl)]; exact hR.2.1, hR.2.2.1, fun i y hi hy => ?_⟩, hn, hg⟩
      obtain ⟨y1, ci, fs, q, y2, y3, y4⟩ := hR.2.2.2 i y hi hy
      have hci : ci ≠ 7 := fun z => by
        subst z
        have e1 : q = (RX6, TX6, 22) := (Option.some.inj y3).symm
        subst e1
        revert y4
        decide +kernel
      refine ⟨hL _ y1, ?_⟩
      rw [tag y ci fs y1 y2 hci]
      exact ⟨ci, fs, q, y2, y3, y4⟩
theorem LPo.same {κ : Kx} {x o : Nat} {a : AD} {N P : Nat → Nat} {C : MS} {L0 L : List Nat} {f0 f : Nat → va_E} {g : Nat → Int64} {S1 : CSt} {Q : Int64 → Prop} (hz : ZC κ x a N P C L0 f0 L f) (ho : o ∈ L) (hfo : f o = outE κ g) (hS : S1 = (N, P, C)) (hQ : Q (g 0)) : LPo κ x o S1 L f L f Q := by
  subst hS
  exact ⟨⟨a, hz.1⟩, ⟨fun q h => h, fun q _ _ _ => rfl⟩, ho, g, hfo, hQ⟩
theorem ZC.outO {κ : Kx} {x o : Nat} {a : AD} {N P : Nat → Nat} {C : MS} {L L1 : List Nat} {f f1 : Nat → va_E} {g : Nat → Int64} (hz : ZC κ x a N P C L f L1 f1) (ho : o ∈ L) (hfo : f o = outE κ g) : o ∈ L1 ∧ f1 o = outE κ g := ⟨hz.2.1 o ho, (hz.2.2 o ho (by rw [hfo]; rfl)).trans hfo⟩
theorem LPo.keep {κ : Kx} {x o : Nat} {a : AD} {N P : Nat → Nat} {C : MS} {L L1 : List Nat} {f f1 : Nat → va_E} {g : Nat → Int64} {S1 : CSt} {Q : Int64 → Prop} (hz : ZC κ x a N P C L f L1 f1) (ho : o ∈ L) (hfo : f o = outE κ g) (hS : S1 = (N, P, C)) (hQ : Q (g 0)) : LPo κ x o S1 L f L1 f1 Q := by
  subst hS
  exact ⟨⟨a, hz.1⟩, ⟨hz.2.1, fun q h _ h2 => hz.2.2 q h h2⟩, (hz.outO ho hfo).1, g, (hz.outO ho hfo).2, hQ⟩
theorem LPo.write {κ : Kx} {x o : Nat} {a : AD} {N P : Nat → Nat} {C : MS} {L L1 : List Nat} {f f1 : Nat → va_E} {g : Nat → Int64} {S1 : CSt} {Q : Int64 → Prop} {z : Int64} (hz : ZC κ x a N P C L f L1 f1) (ho : o ∈ L) (hfo : f o = outE κ g) (hS : S1 = (N, P, C)) (hQ : Q z) : LPo κ x o S1 L f L1 (va_up f1 o (outE κ (vp_updL g (0 : Int32).toNatClampNeg z))) Q := by
  subst hS
  obtain ⟨o1, o2⟩ := hz.outO ho hfo
  refine ⟨⟨a, hz.1.keep (fun q h => h) (fun q hq hr => ?_)⟩, ⟨hz.2.1, fun q h hne h2 => ?_⟩, o1, _, by simp [va_up]; rfl, ?_⟩
  · have hne : q ≠ o := fun z => by rw [z, o2] at hr; cases hr
    simp [va_up, hne]
  · rw [show va_up f1 o (outE κ (vp_updL g (0 : Int32).toNatClampNeg z)) q = f1 q by simp [va_up, hne]]
    exact hz.2.2 q h h2
  · exact hQ
theorem ZR.keepO {κ : Kx} {xm o : Nat} {b : Nat → Nat} {M : MS} {L L1 : List Nat} {f0 f f1 : Nat → va_E} {g : Nat → Int64} (h : ZR κ xm b M L f0 f) (hfo : f o = outE κ g) (hF : FrO o L f L1 f1) : ZR κ xm b M L1 f1 f1 := by
  obtain ⟨⟨h1, h2⟩, h3, h4, -⟩ := h
  refine ⟨⟨hF.1 _ h1, ?_⟩, fun k hk => ⟨hF.1 _ (h3 k hk).1, ?_⟩, h4, fun _ _ => rfl⟩
  · rw [hF.2 xm h1 (fun z => by rw [z, hfo] at h2; cases h2) (by rw [h2]; rfl)]
    exact h2
  · rw [hF.2 (b k) (h3 k hk).1 (fun z => by have h9 := (h3 k hk).2; rw [z, hfo] at h9; simp [outE] at h9) (by rw [(h3 k hk).2]; rfl)]
    exact (h3 k hk).2
theorem PM.mkH {l : Launch} {κ : Kx} {y : MethodName} {ws ws' : List Cond} {rm : Room} {av : List Value} {L : List Nat} {f : Nat → va_E} {post : Option Value → List Nat → (Nat → va_E) → Prop} {ex : String → Prop} {mc ms : Nat} {cc : ByteArray} {maxL : Nat} {ret : Option FieldType} {tb : List (Nat × Nat × Nat × Nat)}
    (hy : plainName y.cls = true) (hw : ws = Cond.codeWith y cc maxL ret tb :: ws') (hlen : (lg_sl av).length ≤ maxL)
    (body : ∀ (p : Program) (e : Env) (s : State) (m : MethodId) (args : Array Value) (below : List Frame) (meth : Method) (c : Code) (ls : Array Slot), p.tables.exec = Jvm.exec → c.code = cc → c.maxLocals = maxL → meth.sig.returnType = ret → meth.locks = false → s.vm.findClass y.cls = some m.cls → (∀ w ∈ ws, w.before args s = true) → c.exceptionTable.toList = tableOf tb → HH κ L f s s.heap [] → lv_has ls maxL (lv_args 0 av) →
      W p l e rm s m args below meth c s.heap [] 0 0 (vx_MQ below (PQ κ post) (PX κ L f ex) args s mc ms (kA κ)) (F0 m 0 ls [])) : PM l κ y ws rm av L f post ex mc ms := by
  refine vx_ofWH (cc := cc) (maxL := maxL) (ret := ret) (hh := tb) hy hw ?_
  intro p e s m args below meth c s₁ B hml hv
  obtain ⟨rfl, hh⟩ := hv
  have ht : c.exceptionTable.toList = tableOf tb := vx_table (x := y) B (atoms_spec (ws := ws) B.pre (Cond.codeWith y cc maxL ret tb) (by rw [hw]; exact List.mem_cons_self))
  rw [lg_entry_eq]
  exact body p e s m _ below meth c _ B.exec B.bytes hml B.returns B.notSynchronized (findClass_of_methodNamed B.named) (atoms_spec (ws := ws) B.pre) ht (HH.of hh) (lv_entry av hlen)
/-- what the calls make of the class's state -/
def hulkS (S : CSt) (v : Int32) : CSt := if hulkTG S.1 v = 0 then (va_up S.1 0 (S.1 0 + 1), S.2.1, hulkC S.1 S.2.2 v) else S
def lighterS (S : CSt) (v : Int32) : CSt := if lighterTG S.1 v = 0 then (va_up S.1 1 (S.1 1 + 1), S.2.1, lighterC S.1 S.2.2 v) else S
def gangS (S : CSt) (v : Int32) : CSt := if gangTG S.1 v = 0 then (va_up S.1 2 (S.1 2 + 1), S.2.1, gangC S.1 S.2.2 v) else S
def steamerS (S : CSt) (v w : Int32) : CSt := if steamerTG S.1 S.2.1 S.2.2 v w = 0 then (va_up (va_up S.1 3 (S.1 3 + 1)) 4 (S.1 4 + 1), va_up S.2.1 (S.1 4) (S.1 3), steamerC S.1 S.2.2 v w) else S
def orderS (S : CSt) (v w u : Int32) : CSt := if orderTG S.1 S.2.2 v w u = 0 then (S.1, S.2.1, orderG S.2.2 v w u) else S
def shiftS (S : CSt) (v w : Int32) : CSt := if shiftTG S.1 S.2.2 v w = 0 then (S.1, S.2.1, shiftG S.2.2 v w) else S
def sweepS (S : CSt) (v w : Int32) : CSt := if sweepTG S.1 S.2.2 v w = 0 then (S.1, S.2.1, sweepG S.2.2 v w) else S
def hoursTG (v : Int32) : Int32 := if v < 1 then 1 else if v ≤ 500 then 0 else 1
def hoursS (S : CSt) (v : Int32) : CSt := if hoursTG v = 0 then (va_up S.1 4 (hsG S.1 S.2.1 S.2.2 (nT v)).1.1.2, (hsG S.1 S.2.1 S.2.2 (nT v)).1.1.1, (hsG S.1 S.2.1 S.2.2 (nT v)).1.2) else S
def readTG (n : Nat) (w : Int32) : Int32 := if isF w (nI n) = 0 then 1 else 0
def outTG (v : Int32) : Int32 := if v < 0 then 1 else 0
