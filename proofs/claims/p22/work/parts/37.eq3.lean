/-! call by call -/
def cn (f : Nat → Int32) : Nat → Nat
  | 0 => 0
  | n + 1 => cn f n + if f n = 0 then 1 else 0
theorem cn_le (f : Nat → Int32) : ∀ n, cn f n ≤ n
  | 0 => Nat.le_refl _
  | n + 1 => by
    have := cn_le f n
    unfold cn
    split <;> omega
theorem cn_mono {f g : Nat → Int32} (h : ∀ u, f u = 0 → g u = 0) : ∀ n, cn f n ≤ cn g n
  | 0 => Nat.le_refl _
  | n + 1 => by
    have ih := cn_mono h n
    unfold cn
    by_cases hf : f n = 0
    · rw [if_pos hf, if_pos (h n hf)]; omega
    · rw [if_neg hf]; omega
theorem many_cn (M : MS) : ∀ n, manyF M 0 n = nI (cn (M 14) n)
  | 0 => rfl
  | n + 1 => by
    unfold manyF cn
    rw [many_cn M n]
    by_cases h : M 14 n = 0
    · rw [if_pos h, if_pos h]; exact nI_1 _
    · rw [if_neg h, if_neg h, Int32.add_zero]; rfl
def Rel (S : CSt) (M : MS) (n : Nat) : Prop := HI S.1 S.2.1 S.2.2 M ∧ (M 15 0 = nI (S.1 0) ∧ M 16 0 = nI (S.1 1) ∧ M 17 0 = nI (S.1 2) ∧ M 18 0 = nI (S.1 3)) ∧ S.1 3 ≤ n ∧ cn (M 14) (S.1 3) ≤ 8 ∧ (∀ i, M 5 i = nI (nT (M 5 i)) ∧ nT (M 5 i) < 3) ∧ ∀ i, S.1 1 ≤ i → M 5 i = 0
theorem Rel.pl {N P : Nat → Nat} {C M : MS} {n : Nat} (h : Rel (N, P, C) M n) : HI N P C M ∧ (M 15 0 = nI (N 0) ∧ M 16 0 = nI (N 1) ∧ M 17 0 = nI (N 2) ∧ M 18 0 = nI (N 3)) ∧ N 3 ≤ n ∧ cn (M 14) (N 3) ≤ 8 ∧ (∀ i, M 5 i = nI (nT (M 5 i)) ∧ nT (M 5 i) < 3) ∧ ∀ i, N 1 ≤ i → M 5 i = 0 := h
theorem J.scr' {N : Nat → Nat} {C M : MS} (h : J N C M) {k : Nat} (v : Int32) (hk : 15 ≤ k ∧ k ≠ 20) : J N C (scM M k v) := ⟨h.1.scr v hk, by rw [sc_ne M v (by omega : (8 : Nat) ≠ k)]; exact h.2.1, h.2.2⟩
theorem J.congr {N N' : Nat → Nat} {C M : MS} (h : J N C M) (h1 : N' 1 = N 1) (h2 : N' 2 = N 2) (h3 : N' 3 = N 3) : J N' C M := by
  unfold J Oc IF Ix Fs
  rw [h1, h2, h3]
  exact h
theorem HI.thr {N P : Nat → Nat} {C M : MS} (h : HI N P C M) (x : Int32) : HI N P C (scM M 21 x) := ⟨h.1, h.2.1.scr' x (by decide), h.2.2.1, h.2.2.2.1, h.2.2.2.2⟩
theorem Rel.thr {S : CSt} {M : MS} {n : Nat} (h : Rel S M n) (x : Int32) : Rel S (scM M 21 x) n := ⟨h.1.thr x, h.2.1, h.2.2.1, h.2.2.2.1, h.2.2.2.2.1, h.2.2.2.2.2⟩
theorem Rel.up {S : CSt} {M : MS} {n : Nat} (h : Rel S M n) : Rel S M (n + 1) := ⟨h.1, h.2.1, Nat.le_succ_of_le h.2.2.1, h.2.2.2⟩
theorem Rel.wf {S : CSt} {M : MS} {n : Nat} (h : Rel S M n) : wfM M (S.1 0) (S.1 1) (S.1 2) (S.1 3) := by
  obtain ⟨⟨hw, hj, hp, -, -⟩, hc, -, -, h5, -⟩ := h
  have e6 : S.2.2 6 = M 6 := hj.1.1 6 rfl
  have e7 : S.2.2 7 = M 7 := hj.1.1 7 rfl
  obtain ⟨b0, b1, b2, b3, b4⟩ := hw.1
  refine ⟨hc, ⟨b0, b1, b2, by omega⟩, h5, fun i hi => ?_⟩
  rw [← e6, ← e7]
  by_cases z : S.2.2 6 i = -1
  · exact Or.inl z
  · obtain ⟨q1, q2⟩ := hw.2.2.1 i hi z
    exact Or.inr ⟨⟨q1.1, by omega⟩, q2.1, by omega⟩
theorem cap {n m : Nat} (hn : n ≤ m) (hm : m < 2 ^ 31) : (if nI n < nI m then (0 : Int32) else 2) = if nI n = nI m then 2 else 0 := by
  rcases Nat.lt_or_ge n m with q | q
  · rw [if_pos (nI_lt q hm), if_neg (fun z => by have := (nI_eq (by omega) hm).mp z; omega)]
  · rw [show n = m by omega, if_neg (nI_nlt (Nat.le_refl _) hm), if_pos rfl]
theorem n1_ne {g : Nat} (hg : g < 2 ^ 31) : ¬ (-1 : Int32) = nI g := fun z => by
  have h9 := nI_toInt hg
  rw [← z] at h9
  have h8 : (-1 : Int32).toInt = -1 := by decide
  omega
theorem hulkT_eq {N P : Nat → Nat} {C M : MS} {n : Nat} {v : Int32} (h : Rel (N, P, C) M n) : hulkTG N v = hulkT M v := by
  have h := h.pl
  unfold hulkTG hulkT
  rw [h.2.1.1, show (3 : Int32) = nI 3 from rfl, cap h.1.1.1.1 (by decide)]
theorem hulkR {N P : Nat → Nat} {C M : MS} {n : Nat} {v : Int32} (h : Rel (N, P, C) M n) (hN : N 0 < 3) : Rel (va_up N 0 (N 0 + 1), P, hulkC N C v) (scM (stM M 0 (N 0) v) 15 (M 15 0 + 1)) n := by
  obtain ⟨⟨hw, hj, hp, ht, hc⟩, ⟨c0, c1, c2, c3⟩, h3, h8, h5, h6⟩ := h.pl
  obtain ⟨⟨b0, b1, b2, b3, b4⟩, w2, w3, w4⟩ := hw
  have c0' : M 15 0 = nI (N 0) := c0
  refine ⟨⟨⟨⟨?_, b1, b2, b3, b4⟩, fun i hi => ⟨(w2 i hi).1, ?_⟩, w3, w4⟩, ((hj.st0 (N 0) v).scr' _ (by decide)).congr rfl rfl rfl, hp, ht, hc⟩, ⟨?_, c1, c2, c3⟩, h3, h8, h5, h6⟩
  · show va_up N 0 (N 0 + 1) 0 ≤ 3
    simp only [va_up, if_true]; omega
  · show nT (C 5 i) < va_up N 0 (N 0 + 1) 0
    have h9 : nT (C 5 i) < N 0 := (w2 i hi).2
    simp only [va_up, if_true]; omega
  · show M 15 0 + 1 = nI (va_up N 0 (N 0 + 1) 0)
    rw [c0', nI_1]
    simp [va_up]
theorem hulk_eq {N P : Nat → Nat} {C M : MS} {n : Nat} {v : Int32} (h : Rel (N, P, C) M n) : hulkTG N v = hulkF M v 21 0 ∧ Rel (hulkS (N, P, C) v) (hulkF M v) (n + 1) ∧ (hulkTG N v = 0 → nI (N 0) = if hulkT M v = 0 then M 15 0 else 0) := by
  have hh := h.pl
  have hT : hulkTG N v = hulkT M v := hulkT_eq h
  have c0 : M 15 0 = nI (N 0) := hh.2.1.1
  have b0 : N 0 ≤ 3 := hh.1.1.1.1
  unfold hulkS hulkF
  show hulkTG N v = _ ∧ Rel (if hulkTG N v = 0 then _ else _) _ _ ∧ _
  rw [hT]
  by_cases hc : hulkT M v = 0
  · rw [if_pos hc, if_pos hc, if_pos hc]
    have hN : N 0 < 3 := by
      rcases Nat.lt_or_ge (N 0) 3 with q | q
      · exact q
      · rw [← hT] at hc
        unfold hulkTG at hc
        rw [show N 0 = 3 by omega] at hc
        rw [if_neg (show ¬ nI 3 < 3 by decide)] at hc
        split at hc
        · exact absurd hc (by decide)
        · split at hc <;> exact absurd hc (by decide)
    rw [show nT (M 15 0) = N 0 by rw [c0]; exact nI_clamp (by omega)]
    exact ⟨hc, (hulkR (h.thr 0).up hN), fun _ => c0.symm⟩
  · rw [if_neg hc, if_neg hc]
    exact ⟨rfl, (h.thr _).up, fun z => absurd z hc⟩
theorem lighterR {N P : Nat → Nat} {C M : MS} {n : Nat} {v : Int32} (h : Rel (N, P, C) M n) (hN : N 1 < 6) (hN0 : 0 < N 0) (hv : ¬ v < 20) (hv5 : v ≤ 500) : Rel (va_up N 1 (N 1 + 1), P, lighterC N C v) (scM (stM (stM M 1 (N 1) v) 6 (N 1) (-1)) 16 (M 16 0 + 1)) n := by
  obtain ⟨⟨hw, hj, hp, ht, hc⟩, ⟨c0, c1, c2, c3⟩, h3, h8, h5, h6⟩ := h.pl
  obtain ⟨⟨b0, b1, b2, b3, b4⟩, w2, w3, w4⟩ := hw
  have c1' : M 16 0 = nI (N 1) := c1
  have h6' : ∀ i, N 1 ≤ i → M 5 i = 0 := h6
  have e5 : C 5 = M 5 := hj.1.1 5 rfl
  obtain ⟨f2, f3, f4⟩ := hj.2.2.2.2.2.1 (N 1) (Nat.le_refl _)
  have eN : va_up N 1 (N 1 + 1) 1 = N 1 + 1 := by simp [va_up]
  have eC : lighterC N C v = stM (stM (stM C 1 (N 1) v) 8 (N 1) 0) 6 (N 1) (-1) := by
    unfold lighterC
    rw [st_id (C := stM C 1 (N 1) v) (k := 2) f2, st_id (C := stM C 1 (N 1) v) (k := 3) f3, st_id (C := stM C 1 (N 1) v) (k := 4) f4, st_id (C := stM (stM C 1 (N 1) v) 8 (N 1) 0) (k := 5) (show C 5 (N 1) = 0 by rw [e5]; exact h6' _ (Nat.le_refl _))]
  have u6 : ∀ i, i ≠ N 1 → upd (C 6) (N 1) (-1) i = C 6 i := fun i hi => upd_off hi
  have u6n : upd (C 6) (N 1) (-1) (N 1) = -1 := by simp [upd]
  have hv0 : 0 ≤ v := Int32.le_trans (by decide) (Int32.not_lt.mp hv)
  rw [eC]
  have hJ : J (va_up N 1 (N 1 + 1)) (stM (stM (stM C 1 (N 1) v) 8 (N 1) 0) 6 (N 1) (-1)) (scM (stM (stM M 1 (N 1) v) 6 (N 1) (-1)) 16 (M 16 0 + 1)) := by
    refine ⟨(((hj.1.st 1 (N 1) v rfl).l 8 (N 1) 0 (by decide)).st 6 (N 1) (-1) rfl).scr _ (by decide), fun i => ?_, ⟨fun i => ?_, hj.2.2.1.2.1, hj.2.2.1.2.2⟩, ⟨fun g hg => ?_, fun i j hi hj2 he hc2 => ?_⟩, ⟨hj.2.2.2.2.1.1, fun i hi hc2 => ?_⟩, fun i hi => ?_, hj.2.2.2.2.2.2.1, hj.2.2.2.2.2.2.2⟩
    · show WyA (C 4 i) (upd (C 8) (N 1) 0 i) (M 8 i)
      by_cases e : i = N 1
      · rw [e]; exact Or.inl f4
      · rw [upd_off e]; exact hj.2.1 i
    · show 0 ≤ C 2 i ∧ C 2 i ≤ upd (C 1) (N 1) v i ∧ upd (C 1) (N 1) v i ≤ 500
      by_cases e : i = N 1
      · rw [e, f2, show upd (C 1) (N 1) v (N 1) = v by simp [upd]]
        exact ⟨by decide, hv0, hv5⟩
      · rw [upd_off e]; exact hj.2.2.1.1 i
    · show (C 15 g = 0 ∧ ∀ i, i < va_up N 1 (N 1 + 1) 1 → ¬ upd (C 6) (N 1) (-1) i = nI g) ∨ (¬ C 15 g = 0 ∧ ∃ i, i < va_up N 1 (N 1 + 1) 1 ∧ upd (C 6) (N 1) (-1) i = nI g)
      have hg' : g < N 2 := hg
      have b2' : N 2 ≤ 6 := b2
      rw [eN]
      rcases hj.2.2.2.1.1 g hg' with ⟨q1, q2⟩ | ⟨q1, i, q2, q3⟩
      · refine Or.inl ⟨q1, fun i hi => ?_⟩
        by_cases e : i = N 1
        · rw [e, u6n]; exact n1_ne (by omega)
        · rw [u6 i e]; exact q2 i (by omega)
      · exact Or.inr ⟨q1, i, by omega, by rw [u6 i (by omega)]; exact q3⟩
    · have hi' : i < N 1 + 1 := by rw [← eN]; exact hi
      have hj' : j < N 1 + 1 := by rw [← eN]; exact hj2
      have he' : upd (C 6) (N 1) (-1) i = upd (C 6) (N 1) (-1) j := he
      have hc' : ¬ upd (C 6) (N 1) (-1) i = -1 := hc2
      have hin : i ≠ N 1 := fun z => hc' (by rw [z]; exact u6n)
      have hjn : j ≠ N 1 := fun z => hc' (by rw [he', z]; exact u6n)
      rw [u6 i hin, u6 j hjn] at he'
      rw [u6 i hin] at hc'
      exact hj.2.2.2.1.2 i j (by omega) (by omega) he' hc'
    · have hi' : i < N 1 + 1 := by rw [← eN]; exact hi
      have hc' : ¬ upd (C 6) (N 1) (-1) i = -1 := hc2
      have hin : i ≠ N 1 := fun z => hc' (by rw [z]; exact u6n)
      show (upd (C 6) (N 1) (-1) i = nI (nT (upd (C 6) (N 1) (-1) i)) ∧ nT (upd (C 6) (N 1) (-1) i) < N 2) ∧ C 7 i = nI (nT (C 7 i)) ∧ nT (C 7 i) < N 3
      rw [u6 i hin] at hc' ⊢
      exact hj.2.2.2.2.1.2 i (by omega) hc'
    · have hi' : N 1 + 1 ≤ i := by rw [← eN]; exact hi
      exact hj.2.2.2.2.2.1 i (by omega)
  refine ⟨⟨⟨⟨b0, by show va_up N 1 (N 1 + 1) 1 ≤ 6; rw [eN]; omega, b2, b3, b4⟩, fun i hi => ?_, fun i hi hc2 => ?_, w4⟩, hJ, hp, ht, hc⟩, ⟨c0, ?_, c2, c3⟩, h3, h8, h5, fun i hi => ?_⟩
  · have hi' : i < N 1 + 1 := by rw [← eN]; exact hi
    show C 5 i = nI (nT (C 5 i)) ∧ nT (C 5 i) < N 0
    by_cases e : i = N 1
    · have z : C 5 i = 0 := by rw [e, e5]; exact h6' _ (Nat.le_refl _)
      rw [z]
      exact ⟨rfl, hN0⟩
    · exact w2 i (by show i < N 1; omega)
  · have hi' : i < N 1 + 1 := by rw [← eN]; exact hi
    have hc' : ¬ upd (C 6) (N 1) (-1) i = -1 := hc2
    have hin : i ≠ N 1 := fun z => hc' (by rw [z]; exact u6n)
    show (upd (C 6) (N 1) (-1) i = nI (nT (upd (C 6) (N 1) (-1) i)) ∧ nT (upd (C 6) (N 1) (-1) i) < N 2) ∧ C 7 i = nI (nT (C 7 i)) ∧ nT (C 7 i) < N 3
    rw [u6 i hin] at hc' ⊢
    exact w3 i (by show i < N 1; omega) hc'
  · show M 16 0 + 1 = nI (va_up N 1 (N 1 + 1) 1)
    rw [c1', nI_1, eN]
  · have hi' : N 1 + 1 ≤ i := by rw [← eN]; exact hi
    exact h6' i (by omega)
theorem lighter_eq {N P : Nat → Nat} {C M : MS} {n : Nat} {v : Int32} (h : Rel (N, P, C) M n) : lighterTG N v = lighterF M v 21 0 ∧ Rel (lighterS (N, P, C) v) (lighterF M v) (n + 1) ∧ (lighterTG N v = 0 → nI (N 1) = if lighterT M v = 0 then M 16 0 else 0) := by
  have hh := h.pl
  have c0 : M 15 0 = nI (N 0) := hh.2.1.1
  have c1 : M 16 0 = nI (N 1) := hh.2.1.2.1
  have b0 : N 0 ≤ 3 := hh.1.1.1.1
  have b1 : N 1 ≤ 6 := hh.1.1.1.2.1
  have hT : lighterTG N v = lighterT M v := by
    unfold lighterTG lighterT
    rw [c0, c1, show (6 : Int32) = nI 6 from rfl]
    rcases Nat.lt_or_ge (N 1) 6 with q | q
    · rw [if_pos (nI_lt q (by decide)), if_neg (show ¬ nI (N 1) = nI 6 from fun z => by have := (nI_eq (by omega) (by decide)).mp z; omega)]
    · rw [show N 1 = 6 by omega, if_neg (nI_nlt (Nat.le_refl _) (by decide)), if_pos rfl]
  unfold lighterS lighterF
  show lighterTG N v = _ ∧ Rel (if lighterTG N v = 0 then _ else _) _ _ ∧ _
  rw [hT]
  by_cases hc : lighterT M v = 0
  · rw [if_pos hc, if_pos hc, if_pos hc]
    have hf : (¬ v < 20 ∧ v ≤ 500) ∧ N 1 < 6 ∧ 0 < N 0 := by
      unfold lighterT at hc
      split at hc
      · exact absurd hc (by decide)
      · rename_i q1
        split at hc
        · rename_i q2
          split at hc
          · exact absurd hc (by decide)
          · rename_i q3
            split at hc
            · exact absurd hc (by decide)
            · rename_i q4
              refine ⟨⟨q1, q2⟩, ?_, ?_⟩
              · rcases Nat.lt_or_ge (N 1) 6 with q | q
                · exact q
                · exact absurd (by rw [c1, show N 1 = 6 by omega]; rfl) q3
              · rcases Nat.eq_zero_or_pos (N 0) with q | q
                · exact absurd (by rw [c0, q]; rfl) q4
                · exact q
        · exact absurd hc (by decide)
    rw [show nT (M 16 0) = N 1 by rw [c1]; exact nI_clamp (by omega)]
    exact ⟨hc, (lighterR (h.thr 0).up hf.2.1 hf.2.2 hf.1.1 hf.1.2), fun _ => c1.symm⟩
  · rw [if_neg hc, if_neg hc]
    exact ⟨rfl, (h.thr _).up, fun z => absurd z hc⟩
theorem gangR {N P : Nat → Nat} {C M : MS} {n : Nat} {v : Int32} (h : Rel (N, P, C) M n) (hN : N 2 < 6) : Rel (va_up N 2 (N 2 + 1), P, gangC N C v) (scM (stM M 9 (N 2) v) 17 (M 17 0 + 1)) n := by
  obtain ⟨⟨hw, hj, hp, ht, hc⟩, ⟨c0, c1, c2, c3⟩, h3, h8, h5, h6⟩ := h.pl
  obtain ⟨⟨b0, b1, b2, b3, b4⟩, w2, w3, w4⟩ := hw
  have c2' : M 17 0 = nI (N 2) := c2
  obtain ⟨f10, f11⟩ := hj.2.2.2.2.2.2.1 (N 2) (Nat.le_refl _)
  have eN : va_up N 2 (N 2 + 1) 2 = N 2 + 1 := by simp [va_up]
  have eC : gangC N C v = stM (stM C 9 (N 2) v) 15 (N 2) 0 := by
    unfold gangC
    rw [st_id (C := stM (stM C 9 (N 2) v) 15 (N 2) 0) (k := 11) f11, st_id (C := stM (stM C 9 (N 2) v) 15 (N 2) 0) (k := 10) f10]
  rw [eC]
  have w3' : ∀ i, i < N 1 → ¬ C 6 i = -1 → (C 6 i = nI (nT (C 6 i)) ∧ nT (C 6 i) < N 2) ∧ C 7 i = nI (nT (C 7 i)) ∧ nT (C 7 i) < N 3 := w3
  have hJ : J (va_up N 2 (N 2 + 1)) (stM (stM C 9 (N 2) v) 15 (N 2) 0) (scM (stM M 9 (N 2) v) 17 (M 17 0 + 1)) := by
    refine ⟨((hj.1.st 9 (N 2) v rfl).l 15 (N 2) 0 (by decide)).scr _ (by decide), hj.2.1, hj.2.2.1, ⟨fun g hg => ?_, hj.2.2.2.1.2⟩, ⟨by rw [eN]; omega, fun i hi hc2 => ?_⟩, hj.2.2.2.2.2.1, fun g hg => ?_, hj.2.2.2.2.2.2.2⟩
    · have hg' : g < N 2 + 1 := by rw [← eN]; exact hg
      show (upd (C 15) (N 2) 0 g = 0 ∧ ∀ i, i < N 1 → ¬ C 6 i = nI g) ∨ (¬ upd (C 15) (N 2) 0 g = 0 ∧ ∃ i, i < N 1 ∧ C 6 i = nI g)
      by_cases e : g = N 2
      · rw [e]
        refine Or.inl ⟨by simp [upd], fun i hi z => ?_⟩
        have hne : ¬ C 6 i = -1 := fun y => n1_ne (g := N 2) (by omega) (y.symm.trans z)
        obtain ⟨⟨-, q⟩, -⟩ := w3' i hi hne
        rw [z, show nT (nI (N 2)) = N 2 from nI_clamp (by omega)] at q
        omega
      · rw [upd_off e]
        exact hj.2.2.2.1.1 g (by omega)
    · obtain ⟨⟨q1, q2⟩, q3⟩ := w3' i hi hc2
      exact ⟨⟨q1, by rw [eN]; show nT (C 6 i) < N 2 + 1; omega⟩, q3⟩
    · have hg' : N 2 + 1 ≤ g := by rw [← eN]; exact hg
      exact hj.2.2.2.2.2.2.1 g (by omega)
  refine ⟨⟨⟨⟨b0, b1, by show va_up N 2 (N 2 + 1) 2 ≤ 6; rw [eN]; omega, b3, b4⟩, w2, fun i hi hc2 => ?_, w4⟩, hJ, hp, ht, hc⟩, ⟨c0, c1, ?_, c3⟩, h3, h8, h5, h6⟩
  · obtain ⟨⟨q1, q2⟩, q3⟩ := w3' i hi hc2
    exact ⟨⟨q1, by show nT (C 6 i) < va_up N 2 (N 2 + 1) 2; rw [eN]; omega⟩, q3⟩
  · show M 17 0 + 1 = nI (va_up N 2 (N 2 + 1) 2)
    rw [c2', nI_1, eN]
theorem gang_eq {N P : Nat → Nat} {C M : MS} {n : Nat} {v : Int32} (h : Rel (N, P, C) M n) : gangTG N v = gangF M v 21 0 ∧ Rel (gangS (N, P, C) v) (gangF M v) (n + 1) ∧ (gangTG N v = 0 → nI (N 2) = if gangT M v = 0 then M 17 0 else 0) := by
  have hh := h.pl
  have c2 : M 17 0 = nI (N 2) := hh.2.1.2.2.1
  have b2 : N 2 ≤ 6 := hh.1.1.1.2.2.1
  have hT : gangTG N v = gangT M v := by
    unfold gangTG gangT
    rw [c2, show (6 : Int32) = nI 6 from rfl, cap b2 (by decide)]
  unfold gangS gangF
  show gangTG N v = _ ∧ Rel (if gangTG N v = 0 then _ else _) _ _ ∧ _
  rw [hT]
  by_cases hc : gangT M v = 0
  · rw [if_pos hc, if_pos hc, if_pos hc]
    have hN : N 2 < 6 := by
      rcases Nat.lt_or_ge (N 2) 6 with q | q
      · exact q
      · unfold gangT at hc
        rw [c2, show N 2 = 6 by omega, if_pos (show nI 6 = 6 from rfl)] at hc
        split at hc
        · exact absurd hc (by decide)
        · split at hc <;> exact absurd hc (by decide)
    rw [show nT (M 17 0) = N 2 by rw [c2]; exact nI_clamp (by omega)]
    exact ⟨hc, (gangR (h.thr 0).up hN), fun _ => c2.symm⟩
  · rw [if_neg hc, if_neg hc]
    exact ⟨rfl, (h.thr _).up, fun z => absurd z hc⟩
theorem steamerR {N P : Nat → Nat} {C M : MS} {n : Nat} {v w : Int32} (h : Rel (N, P, C) M n) (hN : N 3 < 512) (h7 : cn (M 14) (N 3) < 8) (hv : ¬ v < 1) (hw1 : ¬ w < 1) (hw5 : w ≤ 500) : Rel (va_up (va_up N 3 (N 3 + 1)) 4 (N 4 + 1), va_up P (N 4) (N 3), steamerC N C v w) (scM (stM (stM M 12 (N 3) v) 13 (N 3) (M 19 0 + w)) 18 (M 18 0 + 1)) (n + 1) := by
  obtain ⟨⟨hw, hj, hp, ht, hc⟩, ⟨c0, c1, c2, c3⟩, h3, h8, h5, h6⟩ := h.pl
  have hp' : Pl N P (M 14) := hp
  have ht' : Pt N P (C 13) (M 13) (M 19 0) := ht
  have hle := hp'.le
  obtain ⟨⟨b0, b1, b2, b3, b4⟩, w2, w3, w4⟩ := hw
  have h3' : N 3 ≤ n := h3
  have c3' : M 18 0 = nI (N 3) := c3
  have f14 : C 14 (N 3) = 0 := hj.2.2.2.2.2.2.2 (N 3) (Nat.le_refl _)
  have e14 : C 14 = M 14 := hj.1.1 14 rfl
  have m14 : M 14 (N 3) = 0 := by rw [← e14]; exact f14
  have eC : steamerC N C v w = stM (stM C 12 (N 3) v) 13 (N 3) w := by
    unfold steamerC
    rw [st_id (C := stM (stM C 12 (N 3) v) 13 (N 3) w) (k := 14) f14]
  have e3 : va_up (va_up N 3 (N 3 + 1)) 4 (N 4 + 1) 3 = N 3 + 1 := by simp [va_up]
  have e4 : va_up (va_up N 3 (N 3 + 1)) 4 (N 4 + 1) 4 = N 4 + 1 := by simp [va_up]
  have hv0 : 0 ≤ v := Int32.le_trans (by decide) (Int32.not_lt.mp hv)
  have pN : ∀ j, j ≠ N 4 → va_up P (N 4) (N 3) j = P j := fun j hj9 => by simp [va_up, hj9]
  have pn : va_up P (N 4) (N 3) (N 4) = N 3 := by simp [va_up]
  rw [eC]
  have w3' : ∀ i, i < N 1 → ¬ C 6 i = -1 → (C 6 i = nI (nT (C 6 i)) ∧ nT (C 6 i) < N 2) ∧ C 7 i = nI (nT (C 7 i)) ∧ nT (C 7 i) < N 3 := w3
  have hJ : J (va_up (va_up N 3 (N 3 + 1)) 4 (N 4 + 1)) (stM (stM C 12 (N 3) v) 13 (N 3) w) (scM (stM (stM M 12 (N 3) v) 13 (N 3) (M 19 0 + w)) 18 (M 18 0 + 1)) := by
    have a1 := (hj.st12 (N 3) v hv0)
    refine ⟨((a1.1.l 13 (N 3) w (by decide)).r 13 (N 3) _ (by decide)).scr _ (by decide), hj.2.1, a1.2.2.1, hj.2.2.2.1, ⟨hj.2.2.2.2.1.1, fun i hi hc2 => ?_⟩, hj.2.2.2.2.2.1, hj.2.2.2.2.2.2.1, fun t ht2 => ?_⟩
    · obtain ⟨q1, q2, q3⟩ := w3' i hi hc2
      exact ⟨q1, q2, by rw [e3]; show nT (C 7 i) < N 3 + 1; omega⟩
    · have ht3 : N 3 + 1 ≤ t := by rw [← e3]; exact ht2
      exact hj.2.2.2.2.2.2.2 t (by omega)
  refine ⟨⟨⟨⟨b0, b1, b2, by show va_up (va_up N 3 (N 3 + 1)) 4 (N 4 + 1) 3 ≤ 512; rw [e3]; omega, by show va_up (va_up N 3 (N 3 + 1)) 4 (N 4 + 1) 4 ≤ 512; rw [e4]; omega⟩, w2, fun i hi hc2 => ?_, fun j hj4 => ?_⟩, hJ, ⟨fun j hj4 => ?_, fun j k hjk hk => ?_, fun t ht2 => ?_⟩, fun j hj4 => ?_, hc⟩, ⟨c0, c1, c2, ?_⟩, by show va_up (va_up N 3 (N 3 + 1)) 4 (N 4 + 1) 3 ≤ n + 1; rw [e3]; omega, ?_, h5, h6⟩
  · obtain ⟨q1, q2, q3⟩ := w3' i hi hc2
    exact ⟨q1, q2, by show nT (C 7 i) < va_up (va_up N 3 (N 3 + 1)) 4 (N 4 + 1) 3; rw [e3]; omega⟩
  · have hj' : j < N 4 + 1 := by rw [← e4]; exact hj4
    show va_up P (N 4) (N 3) j < va_up (va_up N 3 (N 3 + 1)) 4 (N 4 + 1) 3
    rw [e3]
    by_cases e : j = N 4
    · rw [e, pn]; omega
    · rw [pN j e]
      have h9 := (hp'.1 j (by omega)).1
      omega
  · have hj' : j < N 4 + 1 := by rw [← e4]; exact hj4
    show va_up P (N 4) (N 3) j < va_up (va_up N 3 (N 3 + 1)) 4 (N 4 + 1) 3 ∧ (M 14 (va_up P (N 4) (N 3) j) = 0 ∨ M 14 (va_up P (N 4) (N 3) j) = 1)
    rw [e3]
    by_cases e : j = N 4
    · rw [e, pn]; exact ⟨by omega, Or.inl m14⟩
    · rw [pN j e]
      obtain ⟨h9, h10⟩ := hp'.1 j (by omega)
      exact ⟨by omega, h10⟩
  · have hk' : k < N 4 + 1 := by rw [← e4]; exact hk
    show va_up P (N 4) (N 3) j < va_up P (N 4) (N 3) k
    rw [pN j (by omega)]
    by_cases e : k = N 4
    · rw [e, pn]; exact (hp'.1 j (by omega)).1
    · rw [pN k e]; exact hp'.2.1 j k hjk (by omega)
  · have ht3 : t < N 3 + 1 := by rw [← e3]; exact ht2
    show (∃ j, j < va_up (va_up N 3 (N 3 + 1)) 4 (N 4 + 1) 4 ∧ va_up P (N 4) (N 3) j = t) ∨ M 14 t = 2 ∨ M 14 t = 3
    rw [e4]
    by_cases e : t = N 3
    · exact Or.inl ⟨N 4, by omega, by rw [pn, e]⟩
    · rcases hp'.2.2 t (by omega) with ⟨j, hj9, e9⟩ | z
      · exact Or.inl ⟨j, by omega, by rw [pN j (by omega)]; exact e9⟩
      · exact Or.inr z
  · have hj' : j < N 4 + 1 := by rw [← e4]; exact hj4
    show upd (C 13) (N 3) w (va_up P (N 4) (N 3) j) = upd (M 13) (N 3) (M 19 0 + w) (va_up P (N 4) (N 3) j) - M 19 0 ∧ 1 ≤ upd (C 13) (N 3) w (va_up P (N 4) (N 3) j) ∧ upd (C 13) (N 3) w (va_up P (N 4) (N 3) j) ≤ 500
    by_cases e : j = N 4
    · rw [e, pn, show upd (C 13) (N 3) w (N 3) = w by simp [upd], show upd (M 13) (N 3) (M 19 0 + w) (N 3) = M 19 0 + w by simp [upd]]
      exact ⟨by rw [Int32.add_comm, Int32.add_sub_cancel], Int32.not_lt.mp hw1, hw5⟩
    · have h9 := (hp'.1 j (by omega)).1
      rw [pN j e, upd_off (by omega), upd_off (by omega)]
      exact ht' j (by omega)
  · show M 18 0 + 1 = nI (va_up (va_up N 3 (N 3 + 1)) 4 (N 4 + 1) 3)
    rw [c3', nI_1, e3]
  · show cn (M 14) (va_up (va_up N 3 (N 3 + 1)) 4 (N 4 + 1) 3) ≤ 8
    rw [e3]
    unfold cn
    rw [if_pos m14]
    omega
theorem steamer_eq {N P : Nat → Nat} {C M : MS} {n : Nat} {v w : Int32} (h : Rel (N, P, C) M n) (hn : n < 512) : steamerTG N P C v w = steamerF M (N 3) v w 21 0 ∧ Rel (steamerS (N, P, C) v w) (steamerF M (N 3) v w) (n + 1) ∧ (steamerTG N P C v w = 0 → nI (N 3) = if steamerT M (N 3) v w = 0 then M 18 0 else 0) := by
  have hh := h.pl
  have c3 : M 18 0 = nI (N 3) := hh.2.1.2.2.2
  have h3 : N 3 ≤ n := hh.2.2.1
  have h8 : cn (M 14) (N 3) ≤ 8 := hh.2.2.2.1
  have hp : Pl N P (M 14) := hh.1.2.2.1
  have e14 : C 14 = M 14 := hh.1.2.1.1.1 14 rfl
  have ec : cntG C P 0 (N 4) = nI (cn (M 14) (N 3)) := (cnt_many hp e14 (Or.inl rfl)).trans (many_cn M (N 3))
  have hT : steamerTG N P C v w = steamerT M (N 3) v w := by
    unfold steamerTG steamerT
    rw [ec, many_cn, if_pos (show nI (N 3) < 512 from nI_lt (b := 512) (by omega) (by decide))]
    have e1 : (if 8 ≤ nI (cn (M 14) (N 3)) then (2 : Int32) else 0) = if nI (cn (M 14) (N 3)) = 8 then 2 else 0 := by
      rcases Nat.lt_or_ge (cn (M 14) (N 3)) 8 with q | q
      · rw [if_neg (show ¬ (8 : Int32) ≤ nI (cn (M 14) (N 3)) from nI_ge (b := 8) q (by decide)), if_neg (show ¬ nI (cn (M 14) (N 3)) = 8 from fun z => by have := (nI_eq (b := 8) (by omega) (by decide)).mp z; omega)]
      · rw [show cn (M 14) (N 3) = 8 by omega]; rfl
    rw [e1]
    by_cases q1 : v < 1
    · rw [if_pos q1, if_pos q1]
    · rw [if_neg q1, if_neg q1]
      by_cases q2 : v ≤ 9999
      · rw [if_pos q2, if_neg (Int32.not_lt.mpr q2)]
      · rw [if_neg q2, if_pos (Int32.not_le.mp q2)]
  unfold steamerS steamerF
  show steamerTG N P C v w = _ ∧ Rel (if steamerTG N P C v w = 0 then _ else _) _ _ ∧ _
  rw [hT]
  by_cases hc : steamerT M (N 3) v w = 0
  · rw [if_pos hc, if_pos hc, if_pos hc]
    have hf : ¬ v < 1 ∧ ¬ w < 1 ∧ w ≤ 500 ∧ cn (M 14) (N 3) < 8 := by
      unfold steamerT at hc
      split at hc
      · exact absurd hc (by decide)
      · rename_i q1
        split at hc
        · exact absurd hc (by decide)
        · split at hc
          · exact absurd hc (by decide)
          · rename_i q3
            split at hc
            · rename_i q4
              split at hc
              · exact absurd hc (by decide)
              · rename_i q5
                refine ⟨q1, q3, q4, ?_⟩
                rcases Nat.lt_or_ge (cn (M 14) (N 3)) 8 with q | q
                · exact q
                · exact absurd (by rw [many_cn, show cn (M 14) (N 3) = 8 by omega]; rfl) q5
            · exact absurd hc (by decide)
    rw [show nT (M 18 0) = N 3 by rw [c3]; exact nI_clamp (by omega)]
    exact ⟨hc, (steamerR (h.thr 0) (show N 3 < 512 by omega) hf.2.2.2 hf.1 hf.2.1 hf.2.2.1), fun _ => c3.symm⟩
  · rw [if_neg hc, if_neg hc]
    exact ⟨rfl, (h.thr _).up, fun z => absurd z hc⟩
