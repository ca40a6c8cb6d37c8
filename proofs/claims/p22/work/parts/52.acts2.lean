/-! the acts, in the class's words -/
theorem ct_mono (f : Nat → Int32) (v : Int32) {i : Nat} : ∀ j, i ≤ j → ct f v i ≤ ct f v j
  | 0, h => by
    rw [show i = 0 by omega]
    exact Nat.le_refl _
  | j + 1, h => by
    by_cases e : i = j + 1
    · rw [e]; exact Nat.le_refl _
    · have := ct_mono f v (i := i) j (by omega)
      rw [ct_succ]
      omega
theorem og_at {M : MS} {k : Nat} (hk0 : M 14 k = 0) : ∀ (n i d : Nat), i ≤ k → k < i + n → ct (M 14) 0 i + d = ct (M 14) 0 k → d < 2 ^ 31 → outGo M n i (nI d) = nI k
  | 0, i, d, h1, h2, _, _ => absurd h2 (by omega)
  | n + 1, i, d, h1, h2, h3, h4 => by
    unfold outGo
    by_cases e : i = k
    · have hd : d = 0 := by rw [e] at h3; omega
      rw [e, if_pos hk0, hd, if_pos (show nI 0 = 0 from rfl)]
    · have hm := ct_mono (M 14) 0 (i := i + 1) k (by omega)
      rw [ct_succ] at hm
      by_cases z : M 14 i = 0
      · rw [if_pos z] at hm ⊢
        obtain ⟨d', rfl⟩ : ∃ d', d = d' + 1 := ⟨d - 1, by omega⟩
        rw [if_neg (nI_ne0 (by omega) h4), nI_pred]
        exact og_at hk0 n (i + 1) d' (by omega) (by omega) (by rw [ct_succ, if_pos z]; omega) (by omega)
      · rw [if_neg z, Int32.sub_zero]
        exact og_at hk0 n (i + 1) d (by omega) (by omega) (by rw [ct_succ, if_neg z]; omega) h4
theorem og_end {M : MS} : ∀ (n i d : Nat), ct (M 14) 0 (i + n) ≤ ct (M 14) 0 i + d → d < 2 ^ 31 → outGo M n i (nI d) = -1
  | 0, i, d, _, _ => rfl
  | n + 1, i, d, h3, h4 => by
    have hm := ct_mono (M 14) 0 (i := i + 1) (i + (n + 1)) (by omega)
    rw [ct_succ] at hm
    unfold outGo
    by_cases z : M 14 i = 0
    · rw [if_pos z] at hm ⊢
      obtain ⟨d', rfl⟩ : ∃ d', d = d' + 1 := ⟨d - 1, by omega⟩
      rw [if_neg (nI_ne0 (by omega) h4), nI_pred]
      exact og_end n (i + 1) d' (by rw [ct_succ, if_pos z, show i + 1 + n = i + (n + 1) by omega]; omega) (by omega)
    · rw [if_neg z, Int32.sub_zero]
      exact og_end n (i + 1) d (by rw [ct_succ, if_neg z, show i + 1 + n = i + (n + 1) by omega]; omega) h4
theorem og_few {M : MS} : ∀ (n i d : Nat), i + n < 2 ^ 31 → d < 2 ^ 31 → outGo M n i (nI d) = -1 → ct (M 14) 0 (i + n) ≤ ct (M 14) 0 i + d
  | 0, i, d, _, _, _ => by
    rw [Nat.add_zero]
    omega
  | n + 1, i, d, h1, h4, h => by
    unfold outGo at h
    by_cases z : M 14 i = 0
    · rw [if_pos z] at h
      by_cases hd : d = 0
      · rw [hd, if_pos (show nI 0 = 0 from rfl)] at h
        exact absurd h.symm (n1_ne (by omega))
      · obtain ⟨d', rfl⟩ : ∃ d', d = d' + 1 := ⟨d - 1, by omega⟩
        rw [if_neg (nI_ne0 (by omega) h4), nI_pred] at h
        have ih := og_few n (i + 1) d' (by omega) (by omega) h
        rw [ct_succ, if_pos z, show i + 1 + n = i + (n + 1) by omega] at ih
        omega
    · rw [if_neg z, Int32.sub_zero] at h
      have ih := og_few n (i + 1) d (by omega) h4 h
      rw [ct_succ, if_neg z, show i + 1 + n = i + (n + 1) by omega] at ih
      omega
/-- between the acts: n have been, so much coal came, so much was wanted -/
def QS (S : CSt) (M : MS) (n : Nat) (came wanted : Int) : Prop := Rel S M n ∧ EX S.1 M came wanted
section LSS
variable {N P : Nat → Nat} {C M : MS} {n : Nat} {came wanted : Int}
theorem QS.f (h : QS (N, P, C) M n came wanted) : WC N P C ∧ Hu N (C 0) ∧ Li N (C 1) (C 2) (C 3) ∧ To N (C 0) (C 2) (C 3) (C 17) came ∧ Wa N (C 12) (C 17) wanted ∧ Wk N (C 4) (C 5) (C 6) (C 7) (C 11) ∧ St N (C 12) (C 14) ∧ Bu N (C 14) ∧ (∀ t, t < N 3 → C 14 t = 1 → 0 < (C 12 t).toInt) ∧ N 3 ≤ n ∧ ct (C 14) 0 (N 3) ≤ 8 := by
  obtain ⟨hr, ⟨a1, a2, a3, a4, a5, a6, a7⟩, a8⟩ := h
  obtain ⟨⟨hw, hj, -, -, -⟩, -, h3, h8, -⟩ := hr.pl
  have e0 : C 0 = M 0 := hj.1.1 0 rfl
  have e1 : C 1 = M 1 := hj.1.1 1 rfl
  have e2 : C 2 = M 2 := hj.1.1 2 rfl
  have e3 : C 3 = M 3 := hj.1.1 3 rfl
  have e4 : C 4 = M 4 := hj.1.1 4 rfl
  have e5 : C 5 = M 5 := hj.1.1 5 rfl
  have e6 : C 6 = M 6 := hj.1.1 6 rfl
  have e7 : C 7 = M 7 := hj.1.1 7 rfl
  have e11 : C 11 = M 11 := hj.1.1 11 rfl
  have e12 : C 12 = M 12 := hj.1.1 12 rfl
  have e14 : C 14 = M 14 := hj.1.1 14 rfl
  have e17 : C 17 = M 20 := hj.1.2
  rw [cn_ct] at h8
  rw [e0, e1, e2, e3, e4, e5, e6, e7, e11, e12, e14, e17]
  exact ⟨hw, a1, a2, a3, a4, a5, a6, a7, a8, h3, h8⟩
theorem QS.up (h : QS (N, P, C) M n came wanted) : QS (N, P, C) M (n + 1) came wanted := ⟨h.1.up, h.2⟩
theorem out_at (h : QS (N, P, C) M n came wanted) {k : Nat} (hk : k < N 3) (h0 : C 14 k = 0) : outGo2 C P (nI (ct (C 14) 0 k)) (N 4) 0 0 = nI k := by
  obtain ⟨hw, hj, hp, -, -⟩ := h.1.pl.1
  have b3 := hw.1.2.2.2.1
  have e14 : C 14 = M 14 := hj.1.1 14 rfl
  have hc := ct_le (M 14) 0 k
  rw [out_go hp e14]
  rw [e14] at h0 ⊢
  exact og_at h0 (N 3) 0 _ (Nat.zero_le _) (by omega) (by unfold ct; omega) (by omega)
theorem out_end (h : QS (N, P, C) M n came wanted) : outGo2 C P (nI (ct (C 14) 0 (N 3))) (N 4) 0 0 = -1 := by
  obtain ⟨hw, hj, hp, -, -⟩ := h.1.pl.1
  have b3 := hw.1.2.2.2.1
  have e14 : C 14 = M 14 := hj.1.1 14 rfl
  have hc := ct_le (M 14) 0 (N 3)
  rw [out_go hp e14]
  rw [e14]
  exact og_end (N 3) 0 _ (by rw [Nat.zero_add]; omega) (by omega)
theorem out_7 (h : QS (N, P, C) M n came wanted) (ho : outGo2 C P 7 (N 4) 0 0 = -1) : ct (C 14) 0 (N 3) ≤ 7 := by
  obtain ⟨hw, hj, hp, -, -⟩ := h.1.pl.1
  have b3 := hw.1.2.2.2.1
  have e14 : C 14 = M 14 := hj.1.1 14 rfl
  rw [out_go hp e14] at ho
  have h9 := og_few (M := M) (N 3) 0 7 (by omega) (by decide) ho
  rw [Nat.zero_add] at h9
  rw [e14]
  have h8 : ct (M 14) 0 0 = 0 := rfl
  omega
theorem six (h : QS (N, P, C) M n came wanted) {b : Nat} (hb : b < N 1) : C 6 b = -1 ∨ ∃ g, g < N 2 ∧ C 6 b = nI g := by
  by_cases hc : C 6 b = -1
  · exact Or.inl hc
  · obtain ⟨⟨q1, q2⟩, -⟩ := (h.f.2.2.2.2.2.1.1 b hb).2.2 hc
    exact Or.inr ⟨_, q2, q1⟩
theorem six_neg (h : QS (N, P, C) M n came wanted) {b : Nat} (hb : b < N 1) : C 6 b < 0 ↔ C 6 b = -1 := by
  have b2 := h.f.1.1.2.2.1
  rcases six h hb with q | ⟨g, hg, q⟩
  · rw [q]; decide
  · rw [q]
    exact ⟨fun z => absurd z (nI_pos (by omega)), fun z => absurd z.symm (n1_ne (by omega))⟩
theorem free_of (h : QS (N, P, C) M n came wanted) {g : Nat} (hg : g < N 2) (h11 : C 11 g = 0) (hno : ∀ i, i < N 1 → ¬ C 6 i = nI g) : ¬ freeG C g = 0 := by
  have hj := h.1.pl.1.2.1
  rcases hj.2.2.2.1.1 g hg with ⟨q, -⟩ | ⟨-, i, hi, q⟩
  · unfold freeG
    rw [if_pos q, if_pos h11]
    decide
  · exact absurd q (hno i hi)
theorem isF_ok {k m : Nat} (hk : k < m) (hm : m < 2 ^ 31) : ¬ isF (nI k) (nI m) = 0 := by
  unfold isF
  rw [if_neg (nI_pos (by omega)), if_neg (nI_ge hk hm)]
  decide
theorem nT_nI {k m : Nat} (hk : k < m) (hm : m < 2 ^ 31) : nT (nI k) = k := nI_clamp (by omega)
theorem i32_lt {v : Int32} {k : Int32} (h : k.toInt ≤ v.toInt) : ¬ v < k := by
  rw [Int32.lt_iff_toInt_lt]; omega
theorem i32_le {v : Int32} {k : Int32} (h : v.toInt ≤ k.toInt) : v ≤ k := by
  rw [Int32.le_iff_toInt_le]; exact h
theorem a_hulk (h : QS (N, P, C) M n came wanted) {v : Int32} (hN : N 0 < 3) (v0 : 0 ≤ v.toInt) (v4 : v.toInt ≤ 4000) : hulkTG N v = 0 ∧ QS (va_up N 0 (N 0 + 1), P, hulkC N C v) (scM (stM M 0 (N 0) v) 15 (M 15 0 + 1)) n (came + v.toInt) wanted := by
  refine ⟨?_, hulkR h.1 hN, (hulkX h.2 hN v0 v4).sc 15 _ (by decide)⟩
  unfold hulkTG
  rw [if_neg (i32_lt (k := 0) (by rw [Int32.toInt_zero]; exact v0)), if_pos (i32_le (k := 20000) (by rw [show (20000 : Int32).toInt = 20000 by decide]; omega)), if_pos (show nI (N 0) < 3 from nI_lt (b := 3) hN (by decide))]
theorem a_lighter (h : QS (N, P, C) M n came wanted) {v : Int32} (hN : N 1 < 6) (h0 : 0 < N 0) (v0 : 20 ≤ v.toInt) (v5 : v.toInt ≤ 500) : lighterTG N v = 0 ∧ QS (va_up N 1 (N 1 + 1), P, lighterC N C v) (scM (stM (stM M 1 (N 1) v) 6 (N 1) (-1)) 16 (M 16 0 + 1)) n came wanted := by
  obtain ⟨⟨hw, hj, hp, ht, hc⟩, ⟨c0, c1, c2, c3⟩, h3, h8, h5, h6⟩ := h.1.pl
  have b0 := hw.1.1
  have n20 : ¬ v < 20 := i32_lt (by rw [show (20 : Int32).toInt = 20 by decide]; omega)
  have n500 : v ≤ 500 := i32_le (by rw [show (500 : Int32).toInt = 500 by decide]; omega)
  have e2 : C 2 = M 2 := hj.1.1 2 rfl
  have e3 : C 3 = M 3 := hj.1.1 3 rfl
  have e4 : C 4 = M 4 := hj.1.1 4 rfl
  obtain ⟨f2, f3, f4⟩ := hj.2.2.2.2.2.1 (N 1) (Nat.le_refl _)
  rw [e2] at f2
  rw [e3] at f3
  rw [e4] at f4
  refine ⟨?_, lighterR h.1 hN h0 n20 n500, (lighterX h.2 h0 (by omega) v5 f2 f3 f4 (h6 _ (Nat.le_refl _))).sc 16 _ (by decide)⟩
  unfold lighterTG
  rw [if_neg n20, if_pos n500, if_pos (show nI (N 1) < 6 from nI_lt (b := 6) hN (by decide)), if_neg (nI_ne0 h0 (by omega))]
theorem a_gang (h : QS (N, P, C) M n came wanted) {v : Int32} (hN : N 2 < 6) (v0 : 1 ≤ v.toInt) (v5 : v.toInt ≤ 20) : gangTG N v = 0 ∧ QS (va_up N 2 (N 2 + 1), P, gangC N C v) (scM (stM M 9 (N 2) v) 17 (M 17 0 + 1)) n came wanted := by
  refine ⟨?_, gangR h.1 hN, (gangX h.2 v).sc 17 _ (by decide)⟩
  unfold gangTG
  rw [if_neg (i32_lt (by rw [show (1 : Int32).toInt = 1 by decide]; omega)), if_pos (i32_le (k := 20) (by rw [show (20 : Int32).toInt = 20 by decide]; omega)), if_pos (show nI (N 2) < 6 from nI_lt (b := 6) hN (by decide))]
theorem a_steamer (h : QS (N, P, C) M n came wanted) {v w : Int32} (hn : n < 512) (h7 : ct (C 14) 0 (N 3) ≤ 7) (v0 : 1 ≤ v.toInt) (v5 : v.toInt ≤ 9999) (w0 : 1 ≤ w.toInt) (w5 : w.toInt ≤ 500) : steamerTG N P C v w = 0 ∧ QS (va_up (va_up N 3 (N 3 + 1)) 4 (N 4 + 1), va_up P (N 4) (N 3), steamerC N C v w) (scM (stM (stM M 12 (N 3) v) 13 (N 3) (M 19 0 + w)) 18 (M 18 0 + 1)) (n + 1) came (wanted + v.toInt) := by
  obtain ⟨⟨hw, hj, hp, ht, hc⟩, ⟨c0, c1, c2, c3⟩, h3, h8, h5, h6⟩ := h.1.pl
  have e14 : C 14 = M 14 := hj.1.1 14 rfl
  have f14 : C 14 (N 3) = 0 := hj.2.2.2.2.2.2.2 (N 3) (Nat.le_refl _)
  rw [e14] at h7 f14
  have h7' : cn (M 14) (N 3) < 8 := by rw [cn_ct]; omega
  have i1 : (1 : Int32).toInt = 1 := by decide
  have nv1 : ¬ v < 1 := i32_lt (by omega)
  have nw1 : ¬ w < 1 := i32_lt (by omega)
  have nw5 : w ≤ 500 := i32_le (by rw [show (500 : Int32).toInt = 500 by decide]; omega)
  refine ⟨?_, steamerR h.1 (by omega) h7' nv1 nw1 nw5, (steamerX h.2 (by omega) f14).sc 18 _ (by decide)⟩
  unfold steamerTG
  rw [if_neg nv1, if_pos (i32_le (k := 9999) (by rw [show (9999 : Int32).toInt = 9999 by decide]; omega)), if_neg nw1, if_pos nw5, cnt_many hp e14 (Or.inl rfl), many_cn, if_neg (show ¬ (8 : Int32) ≤ nI (cn (M 14) (N 3)) from nI_ge (b := 8) h7' (by decide)), if_pos (show nI (N 3) < 512 from nI_lt (b := 512) (by omega) (by decide))]
theorem a_order (h : QS (N, P, C) M n came wanted) {b g k : Nat} (hb : b < N 1) (hg : g < N 2) (hk : k < N 3) (h6 : C 6 b = -1) (h11 : C 11 g = 0) (hno : ∀ i, i < N 1 → ¬ C 6 i = nI g) (h14 : ¬ 2 ≤ C 14 k) : orderTG N C (nI b) (nI g) (nI k) = 0 ∧ QS (N, P, orderG C (nI b) (nI g) (nI k)) (stM (stM M 6 b (nI g)) 7 b (nI k)) n came wanted := by
  obtain ⟨⟨hw, hj, hp, ht, hc⟩, ⟨c0, c1, c2, c3⟩, h3, h8, h5, h66⟩ := h.1.pl
  obtain ⟨b0, b1, b2, b3, b4⟩ := hw.1
  have e6 : C 6 = M 6 := hj.1.1 6 rfl
  have e11 : C 11 = M 11 := hj.1.1 11 rfl
  have tb : nT (nI b) = b := nI_clamp (by omega)
  have tg : nT (nI g) = g := nI_clamp (by omega)
  have tk : nT (nI k) = k := nI_clamp (by omega)
  have hf := free_of h hg h11 hno
  have r := orderR h.1 (v := nI b) (w := nI g) (u := nI k) ⟨by rw [tb], by rw [tb]; exact hb⟩ ⟨by rw [tg], by rw [tg]; exact hg⟩ ⟨by rw [tk], by rw [tk]; exact hk⟩ (by rw [tg]; exact hf) (by rw [tb]; exact h6)
  rw [tb] at r
  refine ⟨?_, r, orderX h.2 hb ⟨by rw [tg], by rw [tg]; exact hg⟩ (by rw [tk]; exact hk) (by rw [tg, ← e11]; exact h11) (fun i hi => by rw [← e6]; exact hno i hi) (fun z => n1_ne (by omega) z.symm)⟩
  unfold orderTG
  rw [if_neg (isF_ok hb (by omega)), if_neg (isF_ok hg (by omega)), if_neg (isF_ok hk (by omega)), tb, tg, tk, if_pos h6, if_neg hf, if_pos (left_01.mpr (fun z => by rcases z with z | z <;> rw [z] at h14 <;> exact absurd h14 (by decide)))]
theorem a_shift (h : QS (N, P, C) M n came wanted) {b k : Nat} (hb : b < N 1) (hk : k < N 0) (h6 : C 6 b = -1) : shiftTG N C (nI b) (nI k) = 0 ∧ QS (N, P, shiftG C (nI b) (nI k)) (stM M 5 b (nI k)) n came wanted := by
  obtain ⟨b0, b1, b2, b3, b4⟩ := h.f.1.1
  have tb : nT (nI b) = b := nI_clamp (by omega)
  have tk : nT (nI k) = k := nI_clamp (by omega)
  have r := shiftR h.1 (v := nI b) (w := nI k) (by rw [tb]; exact hb) ⟨by rw [tk], by rw [tk]; exact hk⟩
  rw [tb] at r
  refine ⟨?_, r, shiftX h.2 (by rw [tk]; exact hk)⟩
  unfold shiftTG
  rw [if_neg (isF_ok hb (by omega)), if_neg (isF_ok hk (by omega)), tb, if_pos h6]
theorem a_sweep (h : QS (N, P, C) M n came wanted) {b g : Nat} (hb : b < N 1) (hg : g < N 2) (h6 : C 6 b = -1) (h11 : C 11 g = 0) (hno : ∀ i, i < N 1 → ¬ C 6 i = nI g) : sweepTG N C (nI b) (nI g) = 0 ∧ QS (N, P, sweepG C (nI b) (nI g)) (stM (stM (stM (stM M 0 (nT (M 5 b)) (M 0 (nT (M 5 b)) + M 3 b)) 3 b 0) 11 g 8) 10 g 0) n came wanted := by
  obtain ⟨b0, b1, b2, b3, b4⟩ := h.f.1.1
  have e6 : C 6 = M 6 := h.1.pl.1.2.1.1.1 6 rfl
  have tb : nT (nI b) = b := nI_clamp (by omega)
  have tg : nT (nI g) = g := nI_clamp (by omega)
  have r := sweepR h.1 (v := nI b) (w := nI g) (by rw [tb]; exact hb) (by rw [tg]; exact hg)
  rw [tb, tg] at r
  refine ⟨?_, r, sweepX h.2 hb hg (fun i hi => by rw [← e6]; exact hno i hi)⟩
  unfold sweepTG
  rw [if_neg (isF_ok hb (by omega)), if_neg (isF_ok hg (by omega)), tb, tg, if_pos h6, if_neg (free_of h hg h11 hno)]
theorem gone_19 (M : MS) (nl : Nat) : ∀ n, (goneLoop M nl n).1 19 = M 19
  | 0 => rfl
  | n + 1 => by
    have ih := gone_19 M nl n
    have lv : leaveF (goneLoop M nl n).1 n nl 19 = M 19 := by
      unfold leaveF
      exact (leave_kp (Kp.rf (C := stM (goneLoop M nl n).1 14 n (if (goneLoop M nl n).1 12 n = 0 then 2 else 3))) n nl).2.2.2.1.trans ih
    unfold goneLoop goneStep
    split
    · exact ih
    · split
      · exact lv
      · split
        · exact lv
        · exact ih
theorem hour_19 (M : MS) (nl ng ns : Nat) : (hourF M nl ng ns).1 19 0 = M 19 0 + 1 := by
  have e : midF M nl ng ns 19 = M 19 := (workLoop_kp (Kp.rf (C := buoyLoop (restLoop M ng) ns ns)) nl).2.2.2.1.trans ((buoy_kb (M := restLoop M ng) (M1 := restLoop M ng) ⟨rfl, rfl, rfl, rfl⟩ ns ns).2.2.1.trans (rest_kp (Kp.rf (C := M)) ng).2.2.2.1)
  unfold hourF
  rw [gone_19, e]
  simp [scM, va_up]
theorem hours_19 (M : MS) (nl ng ns : Nat) : ∀ n, (hoursLoop M nl ng ns n).1 19 0 = M 19 0 + nI n
  | 0 => (Int32.add_zero _).symm
  | n + 1 => by
    show (hourF (hoursLoop M nl ng ns n).1 nl ng ns).1 19 0 = _
    rw [hour_19, hours_19 M nl ng ns n, Int32.add_assoc, nI_1]
theorem a_hours (h : QS (N, P, C) M n came wanted) {j : Nat} (h1 : 1 ≤ j) (h9 : j ≤ 9) : inR (nI j) 1 500 ∧ QS (va_up N 4 (hsG N P C j).1.1.2, (hsG N P C j).1.1.1, (hsG N P C j).1.2) (hoursLoop (scM M 21 0) (N 1) (N 2) (N 3) j).1 (n + 1) came wanted ∧ ¬ (hsG N P C j).2 < 0 ∧ (hsG N P C j).1.2 16 0 = C 16 0 + nI j := by
  obtain ⟨b0, b1, b2, b3, b4⟩ := h.f.1.1
  have hr : inR (nI j) 1 500 := ⟨nI_nlt (b := 1) h1 (by omega), nI_le (b := 500) (by omega) (by decide)⟩
  have hT : hoursTG (nI j) = 0 := by unfold hoursTG; rw [if_neg hr.1, if_pos hr.2]
  have tj : nT (nI j) = j := nI_clamp (by omega)
  obtain ⟨-, q2, q3⟩ := hours_call h.1 (v := nI j)
  have e1 : hoursS (N, P, C) (nI j) = (va_up N 4 (hsG N P C j).1.1.2, (hsG N P C j).1.1.1, (hsG N P C j).1.2) := by
    unfold hoursS
    rw [if_pos hT, tj]
  have e2 : hoursF M (N 1) (N 2) (N 3) (nI j) = hoursLoop (scM M 21 0) (N 1) (N 2) (N 3) j := by
    unfold hoursF
    rw [if_pos (show hoursT (nI j) = 0 from hT), tj]
  have q3 := q3 hT
  rw [tj, e2] at q3
  rw [e1, e2] at q2
  have hx := (h.2.sc 21 0 (by decide)).hours j
  obtain ⟨k, k1, k2⟩ := hours_few (scM M 21 0) (N 1) (N 2) (N 3) j
  refine ⟨hr, ⟨q2, hx⟩, ?_, ?_⟩
  · rw [q3, k2]
    have : j * N 3 ≤ 9 * N 3 := Nat.mul_le_mul_right _ h9
    exact nI_pos (by omega)
  · have c1 := h.1.pl.1.2.2.2.2
    have c2 := q2.pl.1.2.2.2.2
    rw [c1, c2, hours_19]
    rfl
end LSS
