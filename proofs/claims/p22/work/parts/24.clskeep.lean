/-! what the class's hour keeps -/
def KC (C C1 : MS) : Prop := C1 5 = C 5 ∧ C1 7 = C 7 ∧ ∀ i, C1 6 i = C 6 i ∨ C1 6 i = -1
theorem KC.rf {C : MS} : KC C C := ⟨rfl, rfl, fun _ => Or.inl rfl⟩
theorem KC.st {C C1 : MS} (h : KC C C1) {k i : Nat} {v : Int32} (hk : k ≠ 5 ∧ k ≠ 7 ∧ k ≠ 6) : KC C (stM C1 k i v) := by
  have e : ∀ j, j ≠ k → stM C1 k i v j = C1 j := fun j hj => by simp [stM, va_up, hj]
  obtain ⟨h5, h6, h7⟩ := h
  obtain ⟨k5, k6, k7⟩ := hk
  exact ⟨(e 5 k5.symm).trans h5, (e 7 k6.symm).trans h6, fun i => by rw [e 6 k7.symm]; exact h7 i⟩
theorem KC.sc {C C1 : MS} (h : KC C C1) {k : Nat} {v : Int32} (hk : k ≠ 5 ∧ k ≠ 7 ∧ k ≠ 6) : KC C (scM C1 k v) := by
  have e : ∀ j, j ≠ k → scM C1 k v j = C1 j := fun j hj => by simp [scM, va_up, hj]
  obtain ⟨h5, h6, h7⟩ := h
  obtain ⟨k5, k6, k7⟩ := hk
  exact ⟨(e 5 k5.symm).trans h5, (e 7 k6.symm).trans h6, fun i => by rw [e 6 k7.symm]; exact h7 i⟩
theorem KC.free {C C1 : MS} (h : KC C C1) {i : Nat} : KC C (stM C1 6 i (-1)) := by
  have e : ∀ j, j ≠ 6 → stM C1 6 i (-1) j = C1 j := fun j hj => by simp [stM, va_up, hj]
  obtain ⟨h5, h6, h7⟩ := h
  refine ⟨(e 5 (by decide)).trans h5, (e 7 (by decide)).trans h6, fun j => ?_⟩
  by_cases hj : j = i
  · right; simp [stM, va_up, upd, hj]
  · rw [show stM C1 6 i (-1) 6 j = C1 6 j by simp [stM, va_up, upd, hj]]
    exact h7 j
theorem WC.keep {N P : Nat → Nat} {C C1 : MS} (h : WC N P C) (k : KC C C1) : WC N P C1 := by
  obtain ⟨h1, h2, h3, h4⟩ := h
  obtain ⟨k5, k7, k6⟩ := k
  refine ⟨h1, fun i hi => by rw [k5]; exact h2 i hi, fun i hi hc => ?_, h4⟩
  rcases k6 i with e | e
  · rw [e] at hc
    rw [e, k7]
    exact h3 i hi hc
  · exact absurd e hc
theorem lie_kc {C C1 : MS} (h : KC C C1) (i : Nat) : KC C (lieG C1 i) := (h.st (by decide)).st (by decide)
theorem end_kc {C C1 : MS} (h : KC C C1) (i : Nat) : KC C (endG C1 i) := by
  have h2 : KC C (stM (stM C1 6 i (-1)) 15 (nT (C1 6 i)) 0) := (h.free).st (by decide)
  unfold endG ashG
  split
  · exact h2
  · exact lie_kc h2 _
theorem cast_kc {C C1 : MS} (h : KC C C1) (i : Nat) : KC C (castG C1 i) := by
  unfold castG
  split
  · exact end_kc h i
  · exact (h.st (by decide)).st (by decide)
theorem workH_kc {C C1 : MS} (h : KC C C1) (i : Nat) : KC C (workHG C1 i) := by
  unfold workHG
  split
  · exact cast_kc h i
  · split
    · exact ((h.st (by decide)).st (by decide)).st (by decide)
    · exact cast_kc h i
theorem workS_kc {C C1 : MS} (h : KC C C1) (i : Nat) : KC C (workSG C1 i) := by
  unfold workSG
  split
  · split
    · exact (((h.st (by decide)).st (by decide)).st (by decide)).sc (by decide)
    · exact h
  · exact h.st (by decide)
theorem go_kc {C C1 : MS} (h : KC C C1) (i : Nat) : KC C (goG C1 i) := by
  unfold goG
  split
  · exact h.st (by decide)
  · exact (h.st (by decide)).st (by decide)
theorem work_kc {C C1 : MS} (h : KC C C1) (i : Nat) : KC C (workG C1 i) := by
  unfold workG
  split
  · exact workH_kc h i
  · split
    · exact go_kc h i
    · split
      · exact workS_kc h i
      · exact end_kc (h.st (by decide)) i
theorem wk_kc {C C1 : MS} (h : KC C C1) (i : Nat) : KC C (wkG C1 i) := by
  unfold wkG
  split
  · exact h
  · exact work_kc (h.st (by decide)) i
theorem wkLoop_kc {C C1 : MS} (h : KC C C1) : ∀ n, KC C (wkLoop C1 n)
  | 0 => h
  | n + 1 => wk_kc (wkLoop_kc h n) n
theorem rst_kc {C C1 : MS} (h : KC C C1) : ∀ n, KC C (rstLoop C1 n)
  | 0 => h
  | n + 1 => by
    unfold rstLoop
    split
    · exact rst_kc h n
    · exact (rst_kc h n).st (by decide)
theorem by_kc {C : MS} {P : Nat → Nat} {q : MS × Int32} (h : KC C q.1) : ∀ n, KC C (byLoop P q n).1
  | 0 => h
  | n + 1 => by
    unfold byLoop byG
    split
    · exact by_kc h n
    · split
      · exact (by_kc h n).st (by decide)
      · exact by_kc h n
theorem by_stay {P : Nat → Nat} {q : MS × Int32} {i : Nat} (h : 2 ≤ (byLoop P q i).2) : ∀ n, i ≤ n → byLoop P q n = byLoop P q i
  | 0, hn => by
    have e : i = 0 := by omega
    rw [e]
  | n + 1, hn => by
    by_cases e : i = n + 1
    · rw [e]
    · have ih := by_stay h n (by omega)
      rw [byLoop, byG, ih, if_pos h]
theorem rc_kc {C C1 : MS} (h : KC C C1) (t : Nat) : ∀ n, KC C (rcLoop C1 t n)
  | 0 => h
  | n + 1 => by
    unfold rcLoop rcG
    split
    · exact rc_kc h t n
    · split
      · unfold recG
        split
        · exact end_kc (rc_kc h t n) n
        · exact (rc_kc h t n).st (by decide)
      · exact rc_kc h t n
theorem lv_kc {C C1 : MS} (h : KC C C1) (nl : Nat) (P : Nat → Nat) : ∀ n, KC C (lvLoop nl P C1 n).1
  | 0 => h
  | n + 1 => by
    unfold lvLoop lvG
    split
    · exact rc_kc (((lv_kc h nl P n).st (by decide)).st (by decide)) _ nl
    · exact (lv_kc h nl P n).st (by decide)
theorem ZC.rem {κ : Kx} {x : Nat} {a : AD} {N P : Nat → Nat} {C : MS} {L0 L : List Nat} {f0 f f1 : Nat → va_E} (h : ZC κ x a N P C L0 f0 L f) (hTE : kTE κ ∉ L) {k : Nat} (hk : k < N 4) (hr : RemP κ L f (a 5 4) (a 6 4) (N 4) k (elm a P 4) f1) : ZC κ x a (va_up N 4 (N 4 - 1)) (remEl P k) C L0 f0 L f1 := by
  obtain ⟨⟨⟨h1, h2⟩, h3, h4, h5, h6, h7, h8⟩, hf⟩ := h
  obtain ⟨r1, r2⟩ := hr
  obtain ⟨⟨l1, lm, l2⟩, l3⟩ := h6 4 (by decide)
  have lR : ∃ cap g, RO κ L f (a 6 4) cap g := by
    rcases l3 with ⟨-, h0⟩ | ⟨cap, g, hR, -, -⟩
    · omega
    · exact ⟨cap, g, hR⟩
  obtain ⟨cap, g, hR⟩ := lR
  have tag : ∀ q ci fs, f q = .inr (ci, fs) → ci ≠ 0 → f1 q = f q := fun q ci fs hq hc => r2 q (fun z => by
    rw [z, l2] at hq
    simp only [lC, Sum.inr.injEq, Prod.mk.injEq] at hq
    exact hc hq.1.symm) (fun z => by
    rw [z, hR.2.1] at hq
    cases hq)
  have e1 : ∀ j, j ≠ 4 → va_up N 4 (N 4 - 1) j = N j := fun j hj => by simp [va_up, hj]
  refine ⟨⟨⟨h1, by rw [tag x 6 _ h2 (by decide)]; exact h2⟩, fun k2 i2 hk2 hi2 => ?_, fun i hi hc => ?_, fun k2 i j hk2 hi hj => ?_, fun j hj => ?_, h7, h8⟩, hf.1, fun q hq hro => ?_⟩
  · rw [e1 k2 (by omega)] at hi2
    have hrr := ciOf_r k2
    refine ⟨(h3 k2 i2 hk2 hi2).1, ?_⟩
    rw [tag _ _ _ (h3 k2 i2 hk2 hi2).2 (by omega)]
    exact (h3 k2 i2 hk2 hi2).2
  · rw [e1 1 (by decide)] at hi
    refine ⟨(h4 i hi hc).1, ?_⟩
    rw [tag _ _ _ (h4 i hi hc).2 (by decide)]
    exact (h4 i hi hc).2
  · rw [e1 k2 (by omega)] at hi hj
    exact h5 k2 i j hk2 hi hj
  · by_cases hj4 : j = 4
    · subst hj4
      have e2 : elm a (remEl P k) 4 = remEl (elm a P 4) k := by
        funext i
        simp only [elm, remEl, if_true]
        split <;> rfl
      rw [e2, show va_up N 4 (N 4 - 1) 4 = N 4 - 1 by simp [va_up]]
      exact r1
    · rw [e1 j hj4]
      have e2 : elm a (remEl P k) j = elm a P j := by
        funext i
        simp [elm, hj4]
      rw [e2]
      obtain ⟨⟨q1, mc, q2⟩, q3⟩ := h6 j hj
      have hne : a 5 j ≠ a 5 4 := fun z => hj4 (h7 j 4 hj (by decide) z)
      refine ⟨⟨q1, mc, ?_⟩, ?_⟩
      · rw [r2 (a 5 j) hne (fun z => by rw [z, hR.2.1] at q2; cases q2)]
        exact q2
      · rcases q3 with q3 | ⟨cap2, g2, hR2, hn2, hg2⟩
        · exact Or.inl q3
        · refine Or.inr ⟨cap2, g2, ⟨hR2.1, ?_, hR2.2.2.1, fun i y hi hy => ?_⟩, hn2, hg2⟩
          · rw [r2 (a 6 j) (fun z => by have := hR2.2.1; rw [z, l2] at this; cases this) (fun z => by
              rcases h8 j 4 hj (by decide) z with q | q
              · exact hTE (q ▸ hR2.1)
              · exact hj4 q)]
            exact hR2.2.1
          · obtain ⟨y1, ci, fs, q, y2, y3, y4⟩ := hR2.2.2.2 i y hi hy
            refine ⟨y1, ?_⟩
            have hci : ci ≠ 0 := fun z => by
              subst z
              exact isEl_n0 ⟨0, fs, q, rfl, y3, y4⟩
            rw [tag y ci fs y2 hci]
            exact ⟨ci, fs, q, y2, y3, y4⟩
  · have e3 := hf.2 q hq hro
    rw [r2 q (fun z => by rw [← e3, z, l2] at hro; cases hro) (fun z => by rw [← e3, z, hR.2.1] at hro; cases hro)]
    exact e3
