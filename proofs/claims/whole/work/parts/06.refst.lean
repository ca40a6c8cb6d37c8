/-! the reference's state: M k for the array of field k (0 coal, 1 hold, 2 load, 3 dust, 4 place, 5 home, 6 crew, 7 bound, 8 way, 9 men, 10 counts, 11 rest, 12 want, 13 last, 14 fate), M k 0 for the numbers (15 hulks, 16 lighters, 17 gangs, 18 steamers, 19 clock, 20 delivered, 21 thrown) -/
abbrev MS : Type := Nat → Nat → Int32
def mF (b : Nat → Nat) (M : MS) : List Value := [.ref (b 0), .ref (b 1), .ref (b 2), .ref (b 3), .ref (b 4), .ref (b 5), .ref (b 6), .ref (b 7), .ref (b 8), .ref (b 9), .ref (b 10), .ref (b 11), .ref (b 12), .ref (b 13), .ref (b 14), .int (M 15 0), .int (M 16 0), .int (M 17 0), .int (M 18 0), .int (M 19 0), .int (M 20 0), .int (M 21 0)]
def lenM (k : Nat) : Nat := if k = 0 then 3 else if k < 12 then 6 else 600
theorem lenM_lt (k : Nat) : lenM k < 2 ^ 31 := by
  unfold lenM
  split
  · decide
  · split <;> decide
def isR (e : va_E) : Bool := match e with
  | .inr (ci, _) => ci == 7
  | .inl (_, _, .inl _) => true
  | _ => false
/-- the array k gets x at i -/
def stM (M : MS) (k i : Nat) (x : Int32) : MS := va_up M k (upd (M k) i x)
/-- the number j becomes x -/
def scM (M : MS) (j : Nat) (x : Int32) : MS := va_up M j (fun _ => x)
def ZR (κ : Kx) (xm : Nat) (b : Nat → Nat) (M : MS) (L : List Nat) (f0 f : Nat → va_E) : Prop :=
  (xm ∈ L ∧ f xm = .inr (7, mF b M)) ∧ (∀ k, k < 15 → b k ∈ L ∧ f (b k) = .inl (kI κ, lenM k, .inl (M k))) ∧ (∀ j k, j < 15 → k < 15 → b j = b k → j = k) ∧ ∀ q, isR (f0 q) = false → f q = f0 q
theorem ZR.putA {κ : Kx} {xm : Nat} {b : Nat → Nat} {M : MS} {L : List Nat} {f0 f : Nat → va_E} (h : ZR κ xm b M L f0 f) {k : Nat} (hk : k < 15) (g : Nat → Int32) : ZR κ xm b (va_up M k g) L f0 (va_up f (b k) (.inl (kI κ, lenM k, .inl g))) := by
  obtain ⟨⟨h1, h2⟩, h3, h4, h5⟩ := h
  have hne : xm ≠ b k := fun e => by
    have h9 := (h3 k hk).2
    rw [← e, h2] at h9
    cases h9
  refine ⟨⟨h1, ?_⟩, fun j hj => ⟨(h3 j hj).1, ?_⟩, h4, fun q hq => ?_⟩
  · have e : ∀ j, 15 ≤ j → va_up M k g j = M j := fun j hj => by
      have hjk : j ≠ k := by omega
      simp [va_up, hjk]
    have e2 : va_up f (b k) (.inl (kI κ, lenM k, .inl g)) xm = f xm := by simp [va_up, hne]
    rw [e2, h2]
    simp only [mF, e 15 (by omega), e 16 (by omega), e 17 (by omega), e 18 (by omega), e 19 (by omega), e 20 (by omega), e 21 (by omega)]
  · by_cases hjk : j = k
    · subst hjk
      simp [va_up]
    · have hb : b j ≠ b k := fun e => hjk (h4 _ _ hj hk e)
      have e2 : va_up f (b k) (.inl (kI κ, lenM k, .inl g)) (b j) = f (b j) := by simp [va_up, hb]
      have e3 : va_up M k g j = M j := by simp [va_up, hjk]
      rw [e2, e3]
      exact (h3 j hj).2
  · have hqk : q ≠ b k := fun e => by
      have e1 := h5 q hq
      rw [← e1, e, (h3 k hk).2] at hq
      cases hq
    have e2 : va_up f (b k) (.inl (kI κ, lenM k, .inl g)) q = f q := by simp [va_up, hqk]
    rw [e2]
    exact h5 q hq
theorem ZR.putF {κ : Kx} {xm : Nat} {b : Nat → Nat} {M : MS} {L : List Nat} {f0 f : Nat → va_E} (h : ZR κ xm b M L f0 f) {j : Nat} (hj : 15 ≤ j ∧ j < 22) (x : Int32) : ZR κ xm b (scM M j x) L f0 (va_up f xm (.inr (7, (mF b M).set j (.int x)))) := by
  obtain ⟨⟨h1, h2⟩, h3, h4, h5⟩ := h
  refine ⟨⟨h1, ?_⟩, fun k hk => ⟨(h3 k hk).1, ?_⟩, h4, fun q hq => ?_⟩
  · have e2 : va_up f xm (.inr (7, (mF b M).set j (.int x))) xm = .inr (7, (mF b M).set j (.int x)) := by simp [va_up]
    rw [e2]
    have hj2 : j = 15 ∨ j = 16 ∨ j = 17 ∨ j = 18 ∨ j = 19 ∨ j = 20 ∨ j = 21 := by omega
    rcases hj2 with rfl | rfl | rfl | rfl | rfl | rfl | rfl <;> simp [mF, scM, va_up]
  · have hne : b k ≠ xm := fun e => by
      have h9 := (h3 k hk).2
      rw [e, h2] at h9
      cases h9
    have e2 : va_up f xm (.inr (7, (mF b M).set j (.int x))) (b k) = f (b k) := by simp [va_up, hne]
    have hkj : k ≠ j := by omega
    have e3 : scM M j x k = M k := by simp [scM, va_up, hkj]
    rw [e2, e3]
    exact (h3 k hk).2
  · have hqk : q ≠ xm := fun e => by
      have e1 := h5 q hq
      rw [← e1, e, h2] at hq
      cases hq
    have e2 : va_up f xm (.inr (7, (mF b M).set j (.int x))) q = f q := by simp [va_up, hqk]
    rw [e2]
    exact h5 q hq
theorem ZR.self {κ : Kx} {xm : Nat} {b : Nat → Nat} {M : MS} {L : List Nat} {f0 f : Nat → va_E} (h : ZR κ xm b M L f0 f) : ZR κ xm b M L f f := ⟨h.1, h.2.1, h.2.2.1, fun _ _ => rfl⟩
theorem ZR.trans {κ : Kx} {xm : Nat} {b : Nat → Nat} {M M1 : MS} {L : List Nat} {f0 f f1 : Nat → va_E} (h : ZR κ xm b M L f0 f) (h1 : ZR κ xm b M1 L f f1) : ZR κ xm b M1 L f0 f1 :=
  ⟨h1.1, h1.2.1, h1.2.2.1, fun q hq => by
    have e := h.2.2.2 q hq
    exact (h1.2.2.2 q (by rw [e]; exact hq)).trans e⟩
section RROWS
variable {p : Program} {l : Launch} {e : Env} {R : Room} {s : State} {m : MethodId} {args : Array Value} {below : List Frame} {meth : Method} {c : Code} {H : Heap} {locs : List Loc} {cells slots : Nat} {Q : State → Prop}
variable {κ : Kx} {L : List Nat} {f0 f : Nat → va_E} {cc : ByteArray} {pc nL : Nat} {ls : Array Slot} {rest : List Value} {Ts : List Cond} {xm : Nat} {b : Nat → Nat} {M : MS}
theorem r_get (S : CallFix p m c cc nL s args Ts RX6) (hh : HH κ L f s H locs) (hz : ZR κ xm b M L f0 f) (hin : ∀ w ∈ wsX60, w ∈ Ts) (k : Nat) (hk : k < 22) {v : Value} {index : Nat} (hv : (mF b M)[k]? = some v) (hT : (TX6 k).1 = RX6) (hlink : Cond.fieldLink RX6 index RX6 (TX6 k).2.1 (TX6 k).2.2.1 ∈ Ts) (hdg : decode cc pc = .ok (.getfield index, 3))
    (kk : W p l e R s m args below meth c H locs cells slots Q (F0 m (pc + 3) ls (v :: rest))) : W p l e R s m args below meth c H locs cells slots Q (F0 m pc ls (.ref xm :: rest)) :=
  h_get S.1 S.2.1 S.2.2.2.2 S.2.2.2.1 hh hz.1.1 hz.1.2 (C := RX6) (T := TX6) (N := 22) rfl hin k hk (S.2.2.2.2 _ hlink) (fun x h => by rw [hT] at h; exact h) hv hdg kk
theorem r_put (S : CallFix p m c cc nL s args Ts RX6) (hh : HH κ L f s H locs) (hz : ZR κ xm b M L f0 f) (hin : ∀ w ∈ wsX60, w ∈ Ts) (j : Nat) (hj : 15 ≤ j ∧ j < 22) {x : Int32} {index : Nat} (hT : (TX6 j).1 = RX6) (hfin : (TX6 j).2.2.2 = false) (hty : tyX6 j = .int) (hlink : Cond.fieldLink RX6 index RX6 (TX6 j).2.1 (TX6 j).2.2.1 ∈ Ts) (hdg : decode cc pc = .ok (.putfield index, 3))
    (kk : ∀ (f1 : Nat → va_E) (H1 : Heap) (locs1 : List Loc), HH κ L f1 s H1 locs1 → ZR κ xm b (scM M j x) L f0 f1 → W p l e R s m args below meth c H1 locs1 cells slots Q (F0 m (pc + 3) ls rest)) : W p l e R s m args below meth c H locs cells slots Q (F0 m pc ls (.int x :: .ref xm :: rest)) :=
  h_put S.1 S.2.1 S.2.2.2.2 S.2.2.2.1 hh hz.1.1 hz.1.2 (C := RX6) (T := TX6) (N := 22) rfl hin tyX6 tyX6_ok nmX6 j hj.2 (S.2.2.2.2 _ hlink) (fun y h => by rw [hT] at h; exact h) hfin (ty := .int) hty rfl rfl (by rw [show (mF b M).length = 22 from rfl]; exact hj.2) hdg (fun H1 locs1 h1 => kk _ H1 locs1 h1 (hz.putF hj x))
theorem r_ald (S : CallFix p m c cc nL s args Ts RX6) (hh : HH κ L f s H locs) (hz : ZR κ xm b M L f0 f) {k i : Nat} {v : Int32} (hk : k < 15) (hv : v = nI i) (hi : i < lenM k) (hdg : decode cc pc = .ok (.iaload, 1))
    (kk : W p l e R s m args below meth c H locs cells slots Q (F0 m (pc + 1) ls (.int (M k i) :: rest))) : W p l e R s m args below meth c H locs cells slots Q (F0 m pc ls (.int v :: .ref (b k) :: rest)) := by
  subst hv
  have e : (nI i).toNatClampNeg = i := nI_clamp (Nat.lt_trans hi (lenM_lt k))
  exact h_iald S.1 S.2.1 hh (hz.2.1 k hk).1 (hz.2.1 k hk).2 (vp_in_nI hi (lenM_lt k)) hdg (by rw [e]; exact kk)
theorem r_ast (S : CallFix p m c cc nL s args Ts RX6) (hh : HH κ L f s H locs) (hz : ZR κ xm b M L f0 f) {k i : Nat} {v x : Int32} (hk : k < 15) (hv : v = nI i) (hi : i < lenM k) (hdg : decode cc pc = .ok (.iastore, 1))
    (kk : ∀ (f1 : Nat → va_E) (H1 : Heap) (locs1 : List Loc), HH κ L f1 s H1 locs1 → ZR κ xm b (stM M k i x) L f0 f1 → W p l e R s m args below meth c H1 locs1 cells slots Q (F0 m (pc + 1) ls rest)) : W p l e R s m args below meth c H locs cells slots Q (F0 m pc ls (.int x :: .int v :: .ref (b k) :: rest)) := by
  subst hv
  have e : (nI i).toNatClampNeg = i := nI_clamp (Nat.lt_trans hi (lenM_lt k))
  exact h_iast S.1 S.2.1 hh (hz.2.1 k hk).1 (hz.2.1 k hk).2 (vp_in_nI hi (lenM_lt k)) hdg (fun H1 locs1 h1 => by
    rw [e] at h1
    exact kk _ H1 locs1 h1 (hz.putA hk _))
end RROWS
