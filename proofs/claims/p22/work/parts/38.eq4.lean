theorem busy_iff (M : MS) (g : Nat) : ∀ n, busyF M g n = 0 ↔ M 11 g ≤ 0 ∧ ∀ i, i < n → ¬ M 6 i = nI g
  | 0 => by
    unfold busyF
    by_cases h : M 11 g ≤ 0
    · rw [if_pos h]
      exact ⟨fun _ => ⟨h, fun i hi => absurd hi (Nat.not_lt_zero _)⟩, fun _ => rfl⟩
    · rw [if_neg h]
      exact ⟨fun z => absurd z (by decide), fun z => absurd z.1 h⟩
  | n + 1 => by
    have ih := busy_iff M g n
    unfold busyF
    by_cases h : busyF M g n = 0
    · rw [if_pos h]
      obtain ⟨h1, h2⟩ := ih.mp h
      by_cases h3 : M 6 n = nI g
      · rw [if_pos h3]
        exact ⟨fun z => absurd z (by decide), fun z => absurd h3 (z.2 n (by omega))⟩
      · rw [if_neg h3]
        refine ⟨fun _ => ⟨h1, fun i hi => ?_⟩, fun _ => rfl⟩
        by_cases e : i = n
        · rw [e]; exact h3
        · exact h2 i (by omega)
    · rw [if_neg h]
      exact ⟨fun z => absurd z (by decide), fun z => absurd (ih.mpr ⟨z.1, fun i hi => z.2 i (by omega)⟩) h⟩
theorem busy_free {N : Nat → Nat} {C M : MS} (hj : J N C M) {g : Nat} (hg : g < N 2) : busyF M g (N 1) = 0 ↔ ¬ freeG C g = 0 := by
  have e6 : C 6 = M 6 := hj.1.1 6 rfl
  have e11 : C 11 = M 11 := hj.1.1 11 rfl
  rw [busy_iff, ← e6, ← e11, want0 (hj.2.2.1.2.1 g)]
  unfold freeG
  rcases hj.2.2.2.1.1 g hg with ⟨q1, q2⟩ | ⟨q1, i, q2, q3⟩
  · rw [if_pos q1]
    by_cases h : C 11 g = 0
    · rw [if_pos h]
      exact ⟨fun _ => by decide, fun _ => ⟨h, q2⟩⟩
    · rw [if_neg h]
      exact ⟨fun z => absurd z.1 h, fun z => absurd rfl z⟩
  · rw [if_neg q1]
    exact ⟨fun z => absurd q3 (z.2 i q2), fun z => absurd rfl z⟩
theorem fate_left {N P : Nat → Nat} {C M : MS} (hp : Pl N P (M 14)) (e14 : C 14 = M 14) {t : Nat} (ht : t < N 3) : M 14 t ≤ 1 ↔ leftG C t = 0 := by
  rw [left_01, e14]
  have h4 : M 14 t = 0 ∨ M 14 t = 1 ∨ M 14 t = 2 ∨ M 14 t = 3 := by
    rcases hp.2.2 t ht with ⟨j, hj, e⟩ | z | z
    · rw [← e]
      rcases (hp.1 j hj).2 with y | y
      · exact Or.inl y
      · exact Or.inr (Or.inl y)
    · exact Or.inr (Or.inr (Or.inl z))
    · exact Or.inr (Or.inr (Or.inr z))
  rcases h4 with z | z | z | z <;> rw [z] <;> decide
theorem notF {x : Int32} {n : Nat} (hn : n < 2 ^ 31) (h : ¬ isF x (nI n) = 0) : x = nI (nT x) ∧ nT x < n := is_ix rfl hn h
/-- the part of a test that order and sweep have in common -/
theorem gate {N : Nat → Nat} {C M : MS} (hj : J N C M) {g : Nat} (hg : g < N 2) (x y : Int32) : (if freeG C g = 0 then x else y) = if busyF M g (N 1) = 0 then y else x := by
  have h := busy_free hj hg
  by_cases z : freeG C g = 0
  · rw [if_pos z, if_neg (fun w => h.mp w z)]
  · rw [if_neg z, if_pos (h.mpr z)]
theorem orderT_eq {N P : Nat → Nat} {C M : MS} {n : Nat} {v w u : Int32} (h : Rel (N, P, C) M n) : orderTG N C v w u = orderT M (N 1) v w u := by
  obtain ⟨⟨hw, hj, hp, ht, hc⟩, ⟨c0, c1, c2, c3⟩, h3, h8, h5, h6⟩ := h.pl
  obtain ⟨b0, b1, b2, b3, b4⟩ := hw.1
  have e6 : C 6 = M 6 := hj.1.1 6 rfl
  have e14 : C 14 = M 14 := hj.1.1 14 rfl
  unfold orderTG orderT
  rw [c1, c2, c3, e6]
  by_cases q1 : isF v (nI (N 1)) = 0
  · rw [if_pos q1, if_pos q1]
  · rw [if_neg q1, if_neg q1]
    by_cases q2 : isF w (nI (N 2)) = 0
    · rw [if_pos q2, if_pos q2]
    · rw [if_neg q2, if_neg q2]
      by_cases q3 : isF u (nI (N 3)) = 0
      · rw [if_pos q3, if_pos q3]
      · rw [if_neg q3, if_neg q3]
        obtain ⟨-, l2⟩ := notF (by omega) q2
        obtain ⟨-, l3⟩ := notF (by omega) q3
        rw [gate hj l2]
        have hf := fate_left hp e14 l3
        by_cases q4 : leftG C (nT u) = 0
        · rw [if_pos q4, if_pos (hf.mpr q4)]
        · rw [if_neg q4, if_neg (fun z => q4 (hf.mp z))]
theorem orderR {N P : Nat → Nat} {C M : MS} {n : Nat} {v w u : Int32} (h : Rel (N, P, C) M n) (hv : v = nI (nT v) ∧ nT v < N 1) (hw2 : w = nI (nT w) ∧ nT w < N 2) (hu : u = nI (nT u) ∧ nT u < N 3) (hf : ¬ freeG C (nT w) = 0) (h6v : C 6 (nT v) = -1) : Rel (N, P, orderG C v w u) (stM (stM M 6 (nT v) w) 7 (nT v) u) n := by
  obtain ⟨⟨hw, hj, hp, ht, hc⟩, ⟨c0, c1, c2, c3⟩, h3, h8, h5, h6⟩ := h.pl
  obtain ⟨⟨b0, b1, b2, b3, b4⟩, w2, w3, w4⟩ := hw
  have hc15 : C 15 (nT w) = 0 ∧ ∀ i, i < N 1 → ¬ C 6 i = nI (nT w) := by
    rcases hj.2.2.2.1.1 (nT w) hw2.2 with z | ⟨z, -⟩
    · exact z
    · exact absurd (by unfold freeG; rw [if_neg z]) hf
  have u6 : ∀ i, i ≠ nT v → upd (C 6) (nT v) w i = C 6 i := fun i hi => upd_off hi
  have u6v : upd (C 6) (nT v) w (nT v) = w := by simp [upd]
  have u7 : ∀ i, i ≠ nT v → upd (C 7) (nT v) u i = C 7 i := fun i hi => upd_off hi
  have u7v : upd (C 7) (nT v) u (nT v) = u := by simp [upd]
  have key : ∀ i, i < N 1 → ¬ upd (C 6) (nT v) w i = -1 → (upd (C 6) (nT v) w i = nI (nT (upd (C 6) (nT v) w i)) ∧ nT (upd (C 6) (nT v) w i) < N 2) ∧ upd (C 7) (nT v) u i = nI (nT (upd (C 7) (nT v) u i)) ∧ nT (upd (C 7) (nT v) u i) < N 3 := fun i hi hne => by
    by_cases e : i = nT v
    · rw [e, u6v, u7v]
      exact ⟨hw2, hu⟩
    · rw [u6 i e] at hne ⊢
      rw [u7 i e]
      exact w3 i hi hne
  have hJ : J N (orderG C v w u) (stM (stM M 6 (nT v) w) 7 (nT v) u) := by
    refine ⟨((hj.1.st 6 _ w rfl).st 7 _ u rfl).l 15 _ 1 (by decide), hj.2.1, hj.2.2.1, ⟨fun g hg => ?_, fun i j hi hj2 he hne => ?_⟩, ⟨b2, key⟩, hj.2.2.2.2.2⟩
    · show (upd (C 15) (nT w) 1 g = 0 ∧ ∀ i, i < N 1 → ¬ upd (C 6) (nT v) w i = nI g) ∨ (¬ upd (C 15) (nT w) 1 g = 0 ∧ ∃ i, i < N 1 ∧ upd (C 6) (nT v) w i = nI g)
      by_cases e : g = nT w
      · rw [e, show upd (C 15) (nT w) 1 (nT w) = 1 by simp [upd]]
        exact Or.inr ⟨by decide, nT v, hv.2, by rw [u6v]; exact hw2.1⟩
      · rw [upd_off e]
        rcases hj.2.2.2.1.1 g hg with ⟨q1, q2⟩ | ⟨q1, i, q2, q3⟩
        · refine Or.inl ⟨q1, fun i hi => ?_⟩
          by_cases ei : i = nT v
          · rw [ei, u6v]
            exact fun z => e (by rw [z]; exact (nI_clamp (by omega)).symm)
          · rw [u6 i ei]; exact q2 i hi
        · refine Or.inr ⟨q1, i, q2, ?_⟩
          have ei : i ≠ nT v := fun z => by
            rw [z, h6v] at q3
            exact n1_ne (by omega) q3
          rw [u6 i ei]; exact q3
    · have he' : upd (C 6) (nT v) w i = upd (C 6) (nT v) w j := he
      have hne' : ¬ upd (C 6) (nT v) w i = -1 := hne
      by_cases ei : i = nT v
      · by_cases ej : j = nT v
        · rw [ei, ej]
        · rw [ei, u6v, u6 j ej] at he'
          exact absurd (he'.symm.trans hw2.1) (hc15.2 j hj2)
      · by_cases ej : j = nT v
        · rw [ej, u6v, u6 i ei] at he'
          exact absurd (he'.trans hw2.1) (hc15.2 i hi)
        · rw [u6 i ei, u6 j ej] at he'
          rw [u6 i ei] at hne'
          exact hj.2.2.2.1.2 i j hi hj2 he' hne'
  exact ⟨⟨⟨⟨b0, b1, b2, b3, b4⟩, w2, key, w4⟩, hJ, hp, ht, hc⟩, ⟨c0, c1, c2, c3⟩, h3, h8, h5, h6⟩
theorem order_eq {N P : Nat → Nat} {C M : MS} {n : Nat} {v w u : Int32} (h : Rel (N, P, C) M n) : orderTG N C v w u = orderF M (N 1) v w u 21 0 ∧ Rel (orderS (N, P, C) v w u) (orderF M (N 1) v w u) (n + 1) := by
  have hh := h.pl
  obtain ⟨b0, b1, b2, b3, b4⟩ := hh.1.1.1
  have hT := orderT_eq (v := v) (w := w) (u := u) h
  unfold orderS orderF
  show orderTG N C v w u = _ ∧ Rel (if orderTG N C v w u = 0 then _ else _) _ _
  rw [hT]
  by_cases hc : orderT M (N 1) v w u = 0
  · rw [if_pos hc, if_pos hc]
    refine ⟨hc, ?_⟩
    rw [← hT] at hc
    unfold orderTG at hc
    split at hc
    · exact absurd hc (by decide)
    · rename_i q1
      split at hc
      · exact absurd hc (by decide)
      · rename_i q2
        split at hc
        · exact absurd hc (by decide)
        · rename_i q3
          split at hc
          · rename_i q4
            split at hc
            · exact absurd hc (by decide)
            · rename_i q5
              exact (orderR (h.thr 0).up (notF (n := N 1) (by omega) q1) (notF (n := N 2) (by omega) q2) (notF (n := N 3) (by omega) q3) q5 q4)
          · exact absurd hc (by decide)
  · rw [if_neg hc, if_neg hc]
    exact ⟨rfl, (h.thr _).up⟩
theorem shiftR {N P : Nat → Nat} {C M : MS} {n : Nat} {v w : Int32} (h : Rel (N, P, C) M n) (hv : nT v < N 1) (hw2 : w = nI (nT w) ∧ nT w < N 0) : Rel (N, P, shiftG C v w) (stM M 5 (nT v) w) n := by
  obtain ⟨⟨hw, hj, hp, ht, hc⟩, ⟨c0, c1, c2, c3⟩, h3, h8, h5, h6⟩ := h.pl
  obtain ⟨⟨b0, b1, b2, b3, b4⟩, w2, w3, w4⟩ := hw
  unfold shiftG
  rw [← hw2.1]
  refine ⟨⟨⟨⟨b0, b1, b2, b3, b4⟩, fun i hi => ?_, w3, w4⟩, ⟨hj.1.st 5 _ w rfl, hj.2⟩, hp, ht, hc⟩, ⟨c0, c1, c2, c3⟩, h3, h8, fun i => ?_, fun i hi => ?_⟩
  · show upd (C 5) (nT v) w i = nI (nT (upd (C 5) (nT v) w i)) ∧ nT (upd (C 5) (nT v) w i) < N 0
    by_cases e : i = nT v
    · rw [e, show upd (C 5) (nT v) w (nT v) = w by simp [upd]]; exact hw2
    · rw [upd_off e]; exact w2 i hi
  · show upd (M 5) (nT v) w i = nI (nT (upd (M 5) (nT v) w i)) ∧ nT (upd (M 5) (nT v) w i) < 3
    by_cases e : i = nT v
    · rw [e, show upd (M 5) (nT v) w (nT v) = w by simp [upd]]; exact ⟨hw2.1, by omega⟩
    · rw [upd_off e]; exact h5 i
  · show upd (M 5) (nT v) w i = 0
    have hi' : N 1 ≤ i := hi
    rw [upd_off (by omega)]; exact h6 i hi'
theorem shift_eq {N P : Nat → Nat} {C M : MS} {n : Nat} {v w : Int32} (h : Rel (N, P, C) M n) : shiftTG N C v w = shiftF M v w 21 0 ∧ Rel (shiftS (N, P, C) v w) (shiftF M v w) (n + 1) := by
  obtain ⟨⟨hw, hj, hp, ht, hc⟩, ⟨c0, c1, c2, c3⟩, h3, h8, h5, h6⟩ := h.pl
  obtain ⟨b0, b1, b2, b3, b4⟩ := hw.1
  have e6 : C 6 = M 6 := hj.1.1 6 rfl
  have hT : shiftTG N C v w = shiftT M v w := by
    unfold shiftTG shiftT
    rw [c0, c1, e6]
  unfold shiftS shiftF
  show shiftTG N C v w = _ ∧ Rel (if shiftTG N C v w = 0 then _ else _) _ _
  rw [hT]
  by_cases hc : shiftT M v w = 0
  · rw [if_pos hc, if_pos hc]
    refine ⟨hc, ?_⟩
    rw [← hT] at hc
    unfold shiftTG at hc
    split at hc
    · exact absurd hc (by decide)
    · rename_i q1
      split at hc
      · exact absurd hc (by decide)
      · rename_i q2
        exact (shiftR (h.thr 0).up (notF (n := N 1) (by omega) q1).2 (notF (n := N 0) (by omega) q2))
  · rw [if_neg hc, if_neg hc]
    exact ⟨rfl, (h.thr _).up⟩
theorem sweepR {N P : Nat → Nat} {C M : MS} {n : Nat} {v w : Int32} (h : Rel (N, P, C) M n) (hv : nT v < N 1) (hw2 : nT w < N 2) : Rel (N, P, sweepG C v w) (stM (stM (stM (stM M 0 (nT (M 5 (nT v))) (M 0 (nT (M 5 (nT v))) + M 3 (nT v))) 3 (nT v) 0) 11 (nT w) 8) 10 (nT w) 0) n := by
  obtain ⟨⟨hw, hj, hp, ht, hc⟩, ⟨c0, c1, c2, c3⟩, h3, h8, h5, h6⟩ := h.pl
  have e0 : C 0 = M 0 := hj.1.1 0 rfl
  have e3 : C 3 = M 3 := hj.1.1 3 rfl
  have e5 : C 5 = M 5 := hj.1.1 5 rfl
  unfold sweepG lieG
  rw [← e0, ← e3, ← e5, st_comm M (nT (C 5 (nT v))) (nT v) (C 0 (nT (C 5 (nT v))) + C 3 (nT v)) 0 (by decide : (0 : Nat) ≠ 3)]
  exact ⟨⟨⟨hw.1, hw.2.1, hw.2.2.1, hw.2.2.2⟩, (((hj.st3 _ 0 hv).st0 _ _).st11 _ 8 (by decide) hw2).st10 _ 0 hw2, hp, ht, hc⟩, ⟨c0, c1, c2, c3⟩, h3, h8, h5, h6⟩
theorem sweep_eq {N P : Nat → Nat} {C M : MS} {n : Nat} {v w : Int32} (h : Rel (N, P, C) M n) : sweepTG N C v w = sweepF M (N 1) v w 21 0 ∧ Rel (sweepS (N, P, C) v w) (sweepF M (N 1) v w) (n + 1) ∧ (sweepTG N C v w = 0 → C 3 (nT v) = if sweepT M (N 1) v w = 0 then M 3 (nT v) else 0) := by
  obtain ⟨⟨hw, hj, hp, ht, hc⟩, ⟨c0, c1, c2, c3⟩, h3, h8, h5, h6⟩ := h.pl
  obtain ⟨b0, b1, b2, b3, b4⟩ := hw.1
  have e6 : C 6 = M 6 := hj.1.1 6 rfl
  have e3 : C 3 = M 3 := hj.1.1 3 rfl
  have hT : sweepTG N C v w = sweepT M (N 1) v w := by
    unfold sweepTG sweepT
    rw [c1, c2, e6]
    by_cases q1 : isF v (nI (N 1)) = 0
    · rw [if_pos q1, if_pos q1]
    · rw [if_neg q1, if_neg q1]
      by_cases q2 : isF w (nI (N 2)) = 0
      · rw [if_pos q2, if_pos q2]
      · rw [if_neg q2, if_neg q2, gate hj (notF (by omega) q2).2]
  unfold sweepS sweepF
  show sweepTG N C v w = _ ∧ Rel (if sweepTG N C v w = 0 then _ else _) _ _ ∧ _
  rw [hT]
  by_cases hc : sweepT M (N 1) v w = 0
  · rw [if_pos hc, if_pos hc, if_pos hc]
    refine ⟨hc, ?_, fun _ => congrFun e3 _⟩
    rw [← hT] at hc
    unfold sweepTG at hc
    split at hc
    · exact absurd hc (by decide)
    · rename_i q1
      split at hc
      · exact absurd hc (by decide)
      · rename_i q2
        exact (sweepR (h.thr 0).up (notF (by omega) q1).2 (notF (by omega) q2).2)
  · rw [if_neg hc, if_neg hc]
    exact ⟨rfl, (h.thr _).up, fun z => absurd z hc⟩
theorem hours_call {N P : Nat → Nat} {C M : MS} {n : Nat} {v : Int32} (h : Rel (N, P, C) M n) : hoursTG v = (hoursF M (N 1) (N 2) (N 3) v).1 21 0 ∧ Rel (hoursS (N, P, C) v) (hoursF M (N 1) (N 2) (N 3) v).1 (n + 1) ∧ (hoursTG v = 0 → (hsG N P C (nT v)).2 = (hoursF M (N 1) (N 2) (N 3) v).2) := by
  obtain ⟨h1, ⟨c0, c1, c2, c3⟩, h3, h8, h5, h6⟩ := h.pl
  have hT : hoursTG v = hoursT v := rfl
  unfold hoursS hoursF
  rw [hT]
  by_cases hc : hoursT v = 0
  · rw [if_pos hc, if_pos hc]
    obtain ⟨g1, g2, g3, g4⟩ := hours_eq (h1.thr 0) (nT v)
    have k := hours_keep (Keep.rf (M := scM M 21 0)) (N 1) (N 2) (N 3) (nT v)
    obtain ⟨k1, k2, k3, k4, k5, k6, k7⟩ := k
    refine ⟨by rw [hc, g4]; rfl, ⟨g1, ⟨?_, ?_, ?_, ?_⟩, ?_, ?_, fun i => ?_, fun i hi => ?_⟩, fun _ => g2⟩
    · rw [k1]; exact c0
    · rw [k2]; exact c1
    · rw [k3]; exact c2
    · rw [k4]; exact c3
    · exact Nat.le_succ_of_le h3
    · exact Nat.le_trans (cn_mono g3 _) h8
    · rw [k5]; exact h5 i
    · rw [k5]; exact h6 i hi
  · have h1T : hoursT v = 1 := by
      unfold hoursT at hc ⊢
      split
      · rfl
      · rename_i q
        rw [if_neg q] at hc
        split
        · rename_i q2
          rw [if_pos q2] at hc
          exact absurd rfl hc
        · rfl
    rw [if_neg hc, if_neg hc]
    exact ⟨by rw [h1T]; rfl, (h.thr _).up, fun z => absurd z hc⟩
theorem told_eq {N P : Nat → Nat} {C M : MS} {n : Nat} {w y : Int32} {k : Nat} (h : Rel (N, P, C) M n) (hy : y = nI k) : readTG k w = toldF M w y 21 0 ∧ Rel (N, P, C) (toldF M w y) (n + 1) := by
  subst hy
  exact ⟨rfl, (h.thr _).up⟩
theorem told_ans {C M : MS} {w y : Int32} {k f : Nat} (hy : y = nI k) (e : C f = M f) : readTG k w = 0 → C f (nT w) = if isF w y = 0 then 0 else M f (nT w) := by
  subst hy
  intro h
  unfold readTG at h
  by_cases z : isF w (nI k) = 0
  · rw [if_pos z] at h; exact absurd h (by decide)
  · rw [if_neg z, e]
theorem outT_eq (v : Int32) : outTG v = outT v := by
  unfold outTG outT
  by_cases z : v < 0
  · rw [if_pos z, if_neg (Int32.not_le.mpr z)]
  · rw [if_neg z, if_pos (Int32.not_lt.mp z)]
theorem out_go {N P : Nat → Nat} {C M : MS} (hp : Pl N P (M 14)) (e14 : C 14 = M 14) (v : Int32) : outGo2 C P v (N 4) 0 0 = outGo M (N 3) 0 v := by
  have main := walk (N4 := N 4) (N3 := N 3) (P := P) (R := fun t j => (∃ b, outGo2 C P v (N 4) 0 0 = outGo2 C P v (N 4 - j) j b ∧ outGo M (N 3) 0 v = outGo M (N 3 - t) t (v - b)) ∨ outGo2 C P v (N 4) 0 0 = outGo M (N 3) 0 v) (fun j hj => (hp.1 j hj).1) hp.2.1 (Or.inl ⟨0, rfl, by rw [Int32.sub_zero]; rfl⟩) ?_ ?_
  · rcases main with ⟨b, h1, h2⟩ | h
    · rw [h1, h2, Nat.sub_self, Nat.sub_self]
      rfl
    · exact h
  · intro j hj hR
    rcases hR with ⟨b, h1, h2⟩ | h
    · have hu := (hp.1 j hj).1
      rw [show N 4 - j = (N 4 - (j + 1)) + 1 by omega, outGo2, e14] at h1
      rw [show N 3 - P j = (N 3 - (P j + 1)) + 1 by omega, outGo] at h2
      by_cases z : M 14 (P j) = 0
      · rw [if_pos z] at h1 h2
        by_cases y : b = v
        · rw [if_pos y] at h1
          rw [if_pos (by rw [y, Int32.sub_self])] at h2
          exact Or.inr (h1.trans h2.symm)
        · rw [if_neg y] at h1
          rw [if_neg (fun q => y (by
            have h9 : v - b + b = v := Int32.sub_add_cancel v b
            rw [q, Int32.zero_add] at h9
            exact h9)), Int32.sub_sub] at h2
          exact Or.inl ⟨b + 1, h1, h2⟩
      · rw [if_neg z] at h1 h2
        rw [Int32.sub_zero] at h2
        exact Or.inl ⟨b, h1, h2⟩
    · exact Or.inr h
  · intro t j ht hn hR
    rcases hR with ⟨b, h1, h2⟩ | h
    · rw [show N 3 - t = (N 3 - (t + 1)) + 1 by omega, outGo] at h2
      have hne : ¬ M 14 t = 0 := by
        rcases hp.2.2 t ht with ⟨k, hk, e2⟩ | e2 | e2
        · exact absurd e2 (hn k hk)
        · rw [e2]; decide
        · rw [e2]; decide
      rw [if_neg hne, Int32.sub_zero] at h2
      exact Or.inl ⟨b, h1, h2⟩
    · exact Or.inr h
theorem out_eq {N P : Nat → Nat} {C M : MS} {n : Nat} {v : Int32} (h : Rel (N, P, C) M n) : outTG v = (scM M 21 (outT v)) 21 0 ∧ Rel (N, P, C) (scM M 21 (outT v)) (n + 1) ∧ (outTG v = 0 → outGo2 C P v (N 4) 0 0 = if outT v = 0 then outGo M (N 3) 0 v else 0) := by
  have hh := h.pl
  refine ⟨outT_eq v, (h.thr _).up, fun z => ?_⟩
  rw [outT_eq] at z
  rw [if_pos z]
  exact out_go hh.1.2.2.1 (hh.1.2.1.1.1 14 rfl) v
/-- a fresh class and a fresh reference -/
theorem Rel.zero : Rel ((fun _ => 0), (fun _ => 0), M00) M00 0 := by
  refine ⟨⟨⟨⟨by decide, by decide, by decide, by decide, by decide⟩, fun i hi => absurd hi (Nat.not_lt_zero _), fun i hi => absurd hi (Nat.not_lt_zero _), fun i hi => absurd hi (Nat.not_lt_zero _)⟩, ⟨⟨fun _ _ => rfl, rfl⟩, fun i => Or.inl rfl, ⟨fun i => ⟨(show (0 : Int32) ≤ 0 by decide), (show (0 : Int32) ≤ 0 by decide), (show (0 : Int32) ≤ 500 by decide)⟩, fun i => (show (0 : Int32) ≤ 0 by decide), fun i => (show (0 : Int32) ≤ 0 by decide)⟩, ⟨fun g hg => absurd hg (Nat.not_lt_zero _), fun i j hi => absurd hi (Nat.not_lt_zero _)⟩, ⟨by decide, fun i hi => absurd hi (Nat.not_lt_zero _)⟩, fun i _ => ⟨rfl, rfl, rfl⟩, fun i _ => ⟨rfl, rfl⟩, fun i _ => rfl⟩, ⟨fun j hj => absurd hj (Nat.not_lt_zero _), fun j k _ hk => absurd hk (Nat.not_lt_zero _), fun t ht => absurd ht (Nat.not_lt_zero _)⟩, fun j hj => absurd hj (Nat.not_lt_zero _), rfl⟩, ⟨rfl, rfl, rfl, rfl⟩, Nat.le_refl _, Nat.zero_le _, fun i => ⟨(show (0 : Int32) = nI (nT 0) by decide), (show nT 0 < 3 by decide)⟩, fun i _ => rfl⟩
