/-! what the property asks, said of the state alone: sums of columns, and what every act keeps -/
def sI (f : Nat → Int32) : Nat → Int
  | 0 => 0
  | n + 1 => sI f n + (f n).toInt
def ct (f : Nat → Int32) (v : Int32) : Nat → Nat
  | 0 => 0
  | n + 1 => ct f v n + if f n = v then 1 else 0
theorem upd_at (f : Nat → Int32) (i : Nat) (v : Int32) : upd f i v i = v := by simp [upd]
theorem sI_ge (f : Nat → Int32) {i : Nat} (v : Int32) : ∀ n, n ≤ i → sI (upd f i v) n = sI f n
  | 0, _ => rfl
  | n + 1, h => by
    unfold sI
    rw [sI_ge f v n (by omega), upd_off (by omega)]
theorem sI_upd (f : Nat → Int32) {i : Nat} (v : Int32) : ∀ n, i < n → sI (upd f i v) n = sI f n - (f i).toInt + v.toInt
  | 0, h => absurd h (Nat.not_lt_zero _)
  | n + 1, h => by
    unfold sI
    by_cases e : n = i
    · rw [e, sI_ge f v i (Nat.le_refl _), upd_at]
      omega
    · rw [sI_upd f v n (by omega), upd_off e]
      omega
theorem sI_nn {f : Nat → Int32} : ∀ n, (∀ i, i < n → 0 ≤ (f i).toInt) → 0 ≤ sI f n
  | 0, _ => Int.le_refl 0
  | n + 1, h => by
    have h1 := sI_nn n (fun i hi => h i (by omega))
    have h2 := h n (by omega)
    unfold sI
    omega
theorem sI_le {f : Nat → Int32} {i : Nat} : ∀ n, (∀ i, i < n → 0 ≤ (f i).toInt) → i < n → (f i).toInt ≤ sI f n
  | 0, _, h => absurd h (Nat.not_lt_zero _)
  | n + 1, h, hi => by
    have h1 := sI_nn n (fun i hi => h i (by omega))
    have h2 := h n (by omega)
    unfold sI
    by_cases e : i = n
    · rw [e]; omega
    · have h3 := sI_le (i := i) n (fun i hi => h i (by omega)) (by omega)
      omega
theorem ct_le (f : Nat → Int32) (v : Int32) : ∀ n, ct f v n ≤ n
  | 0 => Nat.le_refl _
  | n + 1 => by
    have h := ct_le f v n
    unfold ct
    split <;> omega
theorem ct_ge (f : Nat → Int32) (v : Int32) {i : Nat} (w : Int32) : ∀ n, n ≤ i → ct (upd f i w) v n = ct f v n
  | 0, _ => rfl
  | n + 1, h => by
    unfold ct
    rw [ct_ge f v w n (by omega), upd_off (by omega)]
theorem ct_ne (f : Nat → Int32) (v : Int32) {i : Nat} {w : Int32} (hw : ¬ w = v) : ∀ n, ct (upd f i w) v n ≤ ct f v n
  | 0 => Nat.le_refl _
  | n + 1 => by
    have h := ct_ne f v (i := i) hw n
    unfold ct
    by_cases e : n = i
    · rw [e] at h ⊢
      rw [upd_at, if_neg hw]
      omega
    · rw [upd_off e]
      omega
theorem ct_up (f : Nat → Int32) (v : Int32) {i : Nat} : ∀ n, ct (upd f i v) v n ≤ ct f v n + 1
  | 0 => by
    unfold ct
    omega
  | n + 1 => by
    have h := ct_up f v (i := i) n
    unfold ct
    by_cases e : n = i
    · rw [e, ct_ge f v v i (Nat.le_refl _), upd_at, if_pos rfl]
      split <;> omega
    · rw [upd_off e]
      omega
theorem many_ct (M : MS) (how : Int32) : ∀ n, manyF M how n = nI (ct (M 14) how n)
  | 0 => rfl
  | n + 1 => by
    unfold manyF ct
    rw [many_ct M how n]
    by_cases h : M 14 n = how
    · rw [if_pos h, if_pos h]; exact nI_1 _
    · rw [if_neg h, if_neg h, Int32.add_zero]; rfl
theorem cn_ct (f : Nat → Int32) : ∀ n, cn f n = ct f 0 n
  | 0 => rfl
  | n + 1 => by
    unfold cn ct
    rw [cn_ct f n]
theorem mv_i {m : Int32} (h0 : 0 ≤ m.toInt) : (m / 50).toInt = m.toInt / 50 ∧ (m - m / 50).toInt = m.toInt - m.toInt / 50 := by
  have hl := Int32.toInt_lt m
  have e50 : (50 : Int32).toInt = 50 := by decide
  have e1 : (m / 50).toInt = m.toInt.tdiv 50 := by rw [Kit.i32_div (by rw [e50]; omega), e50]
  rw [Int.tdiv_eq_ediv_of_nonneg h0] at e1
  refine ⟨e1, ?_⟩
  rw [Kit.i32_sub (by omega) (by omega), e1]
def Hu (N : Nat → Nat) (c0 : Nat → Int32) : Prop := ∀ h, h < N 0 → 0 ≤ (c0 h).toInt
def Li (N : Nat → Nat) (c1 c2 c3 : Nat → Int32) : Prop := ∀ i, i < N 1 → (0 ≤ (c2 i).toInt ∧ (c2 i).toInt ≤ (c1 i).toInt ∧ (c1 i).toInt ≤ 500) ∧ 0 ≤ (c3 i).toInt
/-- all coal is somewhere -/
def To (N : Nat → Nat) (c0 c2 c3 c20 : Nat → Int32) (came : Int) : Prop := sI c0 (N 0) + sI c2 (N 1) + sI c3 (N 1) + (c20 0).toInt = came ∧ 0 ≤ (c20 0).toInt ∧ came ≤ 4000 * (N 0 : Int) ∧ N 0 ≤ 3
def Wa (N : Nat → Nat) (c12 c20 : Nat → Int32) (wanted : Int) : Prop := (c20 0).toInt + sI c12 (N 3) = wanted
def Wk (N : Nat → Nat) (c4 c5 c6 c7 c11 : Nat → Int32) : Prop := (∀ i, i < N 1 → nT (c5 i) < N 0 ∧ (c6 i = -1 → c4 i = 0) ∧ (¬ c6 i = -1 → (c6 i = nI (nT (c6 i)) ∧ nT (c6 i) < N 2) ∧ nT (c7 i) < N 3 ∧ c11 (nT (c6 i)) = 0)) ∧ ∀ i j, i < N 1 → j < N 1 → c6 i = c6 j → ¬ c6 i = -1 → i = j
def SP (f w : Int32) : Prop := (f = 2 ∧ w = 0) ∨ ((f = 0 ∨ f = 3) ∧ 0 < w.toInt) ∨ (f = 1 ∧ 0 ≤ w.toInt)
def St (N : Nat → Nat) (c12 c14 : Nat → Int32) : Prop := ∀ t, t < N 3 → SP (c14 t) (c12 t)
def Bu (N : Nat → Nat) (c14 : Nat → Int32) : Prop := ct c14 1 (N 3) ≤ 2
/-- within an hour -/
def EM (N : Nat → Nat) (M : MS) (came wanted : Int) : Prop := Hu N (M 0) ∧ Li N (M 1) (M 2) (M 3) ∧ To N (M 0) (M 2) (M 3) (M 20) came ∧ Wa N (M 12) (M 20) wanted ∧ Wk N (M 4) (M 5) (M 6) (M 7) (M 11) ∧ St N (M 12) (M 14) ∧ Bu N (M 14)
/-- between the acts -/
def EX (N : Nat → Nat) (M : MS) (came wanted : Int) : Prop := EM N M came wanted ∧ ∀ t, t < N 3 → M 14 t = 1 → 0 < (M 12 t).toInt
section INV
variable {N : Nat → Nat} {M : MS} {came wanted : Int}
theorem EM.st (h : EM N M came wanted) (k i : Nat) (v : Int32) (hk : k = 8 ∨ k = 10 ∨ k = 13 ∨ k = 9) : EM N (stM M k i v) came wanted := by
  rcases hk with rfl | rfl | rfl | rfl <;> exact ⟨h.1, h.2.1, h.2.2.1, h.2.2.2.1, h.2.2.2.2.1, h.2.2.2.2.2.1, h.2.2.2.2.2.2⟩
theorem EM.sc (h : EM N M came wanted) (k : Nat) (v : Int32) (hk : k = 19 ∨ k = 21) : EM N (scM M k v) came wanted := by
  rcases hk with rfl | rfl <;> exact ⟨h.1, h.2.1, h.2.2.1, h.2.2.2.1, h.2.2.2.2.1, h.2.2.2.2.2.1, h.2.2.2.2.2.2⟩
theorem fill_ok {c0 c1 c2 c3 c20 : Nat → Int32} {i h : Nat} {m : Int32} (hu : Hu N c0) (li : Li N c1 c2 c3) (to : To N c0 c2 c3 c20 came) (hi : i < N 1) (hh : h < N 0) (m0 : 0 ≤ m.toInt) (m1 : m.toInt ≤ (c0 h).toInt) (m2 : m.toInt ≤ (c1 i).toInt - (c2 i).toInt) :
    Hu N (upd c0 h (c0 h - m)) ∧ Li N c1 (upd c2 i (c2 i + (m - m / 50))) (upd c3 i (c3 i + m / 50)) ∧ To N (upd c0 h (c0 h - m)) (upd c2 i (c2 i + (m - m / 50))) (upd c3 i (c3 i + m / 50)) c20 came := by
  obtain ⟨t1, t2, t3, t4⟩ := to
  have b0 : (c0 h).toInt ≤ sI c0 (N 0) := sI_le _ hu hh
  have n2 : ∀ j, j < N 1 → 0 ≤ (c2 j).toInt := fun j hj => (li j hj).1.1
  have n3 : ∀ j, j < N 1 → 0 ≤ (c3 j).toInt := fun j hj => (li j hj).2
  have s0 := sI_nn _ hu
  have s2 := sI_nn _ n2
  have s3 := sI_nn _ n3
  have b3 := sI_le (N 1) n3 hi
  obtain ⟨⟨l1, l2, l3⟩, l4⟩ := li i hi
  obtain ⟨g1, g2⟩ := mv_i m0
  have e0 : (c0 h - m).toInt = (c0 h).toInt - m.toInt := Kit.i32_sub (by omega) (by omega)
  have e2 : (c2 i + (m - m / 50)).toInt = (c2 i).toInt + (m.toInt - m.toInt / 50) := by rw [Kit.i32_add (by rw [g2]; omega) (by rw [g2]; omega), g2]
  have e3 : (c3 i + m / 50).toInt = (c3 i).toInt + m.toInt / 50 := by rw [Kit.i32_add (by rw [g1]; omega) (by rw [g1]; omega), g1]
  refine ⟨fun k hk => ?_, fun k hk => ?_, ?_, t2, t3, t4⟩
  · by_cases e : k = h
    · rw [e, upd_at, e0]; omega
    · rw [upd_off e]; exact hu k hk
  · by_cases e : k = i
    · rw [e, upd_at, upd_at, e2, e3]; omega
    · rw [upd_off e, upd_off e]; exact li k hk
  · rw [sI_upd _ _ _ hh, sI_upd _ _ _ hi, sI_upd _ _ _ hi, e0, e2, e3]; omega
theorem pour_ok {c0 c1 c2 c3 c12 c14 c20 : Nat → Int32} {i t : Nat} {m : Int32} (hu : Hu N c0) (li : Li N c1 c2 c3) (to : To N c0 c2 c3 c20 came) (wa : Wa N c12 c20 wanted) (st : St N c12 c14) (hi : i < N 1) (ht : t < N 3) (hf : c14 t = 1) (m0 : 0 ≤ m.toInt) (m1 : m.toInt ≤ (c2 i).toInt) (m2 : m.toInt ≤ (c12 t).toInt) :
    Li N c1 (upd c2 i (c2 i - m)) (upd c3 i (c3 i + m / 50)) ∧ To N c0 (upd c2 i (c2 i - m)) (upd c3 i (c3 i + m / 50)) (fun _ => c20 0 + (m - m / 50)) came ∧ Wa N (upd c12 t (c12 t - (m - m / 50))) (fun _ => c20 0 + (m - m / 50)) wanted ∧ St N (upd c12 t (c12 t - (m - m / 50))) c14 := by
  obtain ⟨t1, t2, t3, t4⟩ := to
  have n2 : ∀ j, j < N 1 → 0 ≤ (c2 j).toInt := fun j hj => (li j hj).1.1
  have n3 : ∀ j, j < N 1 → 0 ≤ (c3 j).toInt := fun j hj => (li j hj).2
  have s0 := sI_nn _ hu
  have s2 := sI_nn _ n2
  have s3 := sI_nn _ n3
  have b3 := sI_le (N 1) n3 hi
  have b2 := sI_le (N 1) n2 hi
  obtain ⟨⟨l1, l2, l3⟩, l4⟩ := li i hi
  obtain ⟨g1, g2⟩ := mv_i m0
  have hl := Int32.toInt_lt (c12 t)
  have e2 : (c2 i - m).toInt = (c2 i).toInt - m.toInt := Kit.i32_sub (by omega) (by omega)
  have e3 : (c3 i + m / 50).toInt = (c3 i).toInt + m.toInt / 50 := by rw [Kit.i32_add (by rw [g1]; omega) (by rw [g1]; omega), g1]
  have e12 : (c12 t - (m - m / 50)).toInt = (c12 t).toInt - (m.toInt - m.toInt / 50) := by rw [Kit.i32_sub (by rw [g2]; omega) (by rw [g2]; omega), g2]
  have e20 : (c20 0 + (m - m / 50)).toInt = (c20 0).toInt + (m.toInt - m.toInt / 50) := by rw [Kit.i32_add (by rw [g2]; omega) (by rw [g2]; omega), g2]
  refine ⟨fun k hk => ?_, ⟨?_, ?_, t3, t4⟩, ?_, fun k hk => ?_⟩
  · by_cases e : k = i
    · rw [e, upd_at, upd_at, e2, e3]; omega
    · rw [upd_off e, upd_off e]; exact li k hk
  · rw [sI_upd _ _ _ hi, sI_upd _ _ _ hi, e2, e3, e20]; omega
  · rw [e20]; omega
  · unfold Wa at wa ⊢
    rw [sI_upd _ _ _ ht, e12, e20]; omega
  · by_cases e : k = t
    · rw [e, upd_at, hf]
      exact Or.inr (Or.inr ⟨rfl, by rw [e12]; omega⟩)
    · rw [upd_off e]; exact st k hk
theorem shov_rng {M : MS} {i : Nat} {most : Int32} (h : 0 ≤ most.toInt) : 0 ≤ (shovF M i most).toInt ∧ (shovF M i most).toInt ≤ most.toInt := by
  have e1 : (1 : Int32).toInt = 1 := by decide
  unfold shovF leastF
  by_cases h1 : 1 ≤ 4 * M 9 (nT (M 6 i)) - M 3 i / 5
  · rw [if_pos h1]
    rw [Int32.le_iff_toInt_le, e1] at h1
    by_cases h2 : most ≤ 4 * M 9 (nT (M 6 i)) - M 3 i / 5
    · rw [if_pos h2]
      exact ⟨h, Int.le_refl _⟩
    · rw [if_neg h2]
      rw [Int32.le_iff_toInt_le] at h2
      omega
  · rw [if_neg h1]
    by_cases h2 : most ≤ 1
    · rw [if_pos h2]
      exact ⟨h, Int.le_refl _⟩
    · rw [if_neg h2]
      rw [Int32.le_iff_toInt_le, e1] at h2
      omega
theorem least_rng (x y : Int32) : (leastF x y).toInt ≤ x.toInt ∧ (leastF x y).toInt ≤ y.toInt ∧ (leastF x y = x ∨ leastF x y = y) := by
  unfold leastF
  by_cases h : y ≤ x
  · rw [if_pos h]
    rw [Int32.le_iff_toInt_le] at h
    exact ⟨h, Int.le_refl _, Or.inr rfl⟩
  · rw [if_neg h]
    rw [Int32.le_iff_toInt_le] at h
    exact ⟨Int.le_refl _, by omega, Or.inl rfl⟩
theorem Wk.end {c4 c5 c6 c7 c11 : Nat → Int32} (h : Wk N c4 c5 c6 c7 c11) {i : Nat} (hi : i < N 1) (h6 : ¬ c6 i = -1) (v : Int32) : Wk N (upd c4 i 0) c5 (upd c6 i (-1)) c7 (upd c11 (nT (c6 i)) v) := by
  refine ⟨fun j hj => ⟨(h.1 j hj).1, fun hc => ?_, fun hc => ?_⟩, fun j k hj hk he hc => ?_⟩
  · by_cases e : j = i
    · rw [e, upd_at]
    · rw [upd_off e] at hc ⊢
      exact (h.1 j hj).2.1 hc
  · by_cases e : j = i
    · rw [e] at hc
      exact absurd (upd_at c6 i (-1)) hc
    · rw [upd_off e] at hc ⊢
      obtain ⟨q1, q2, q3⟩ := (h.1 j hj).2.2 hc
      have hne : nT (c6 j) ≠ nT (c6 i) := fun z => e (h.2 j i hj hi (q1.1.trans ((congrArg nI z).trans ((h.1 i hi).2.2 h6).1.1.symm)) hc)
      exact ⟨q1, q2, by rw [upd_off hne]; exact q3⟩
  · by_cases e : j = i
    · rw [e] at hc
      exact absurd (upd_at c6 i (-1)) hc
    · rw [upd_off e] at he hc
      by_cases e2 : k = i
      · rw [e2, upd_at] at he
        exact absurd he hc
      · rw [upd_off e2] at he
        exact h.2 j k hj hk he hc
theorem Wk.place {c4 c5 c6 c7 c11 : Nat → Int32} (h : Wk N c4 c5 c6 c7 c11) {i : Nat} (h6 : ¬ c6 i = -1) (v : Int32) : Wk N (upd c4 i v) c5 c6 c7 c11 := by
  refine ⟨fun j hj => ⟨(h.1 j hj).1, fun hc => ?_, (h.1 j hj).2.2⟩, h.2⟩
  by_cases e : j = i
  · rw [e] at hc
    exact absurd hc h6
  · rw [upd_off e]
    exact (h.1 j hj).2.1 hc
theorem EM.end (h : EM N M came wanted) {i : Nat} (hi : i < N 1) (h6 : ¬ M 6 i = -1) : EM N (endF M i) came wanted := by
  unfold endF
  by_cases hc : M 10 (nT (M 6 i)) < 8
  · rw [if_pos hc]
    have w := h.2.2.2.2.1.end hi h6 (M 11 (nT (M 6 i)))
    rw [upd_id rfl] at w
    exact ⟨h.1, h.2.1, h.2.2.1, h.2.2.2.1, w, h.2.2.2.2.2.1, h.2.2.2.2.2.2⟩
  · rw [if_neg hc]
    exact ⟨h.1, h.2.1, h.2.2.1, h.2.2.2.1, h.2.2.2.2.1.end hi h6 8, h.2.2.2.2.2.1, h.2.2.2.2.2.2⟩
theorem EM.place (h : EM N M came wanted) {i : Nat} (h6 : ¬ M 6 i = -1) (v : Int32) : EM N (stM M 4 i v) came wanted :=
  ⟨h.1, h.2.1, h.2.2.1, h.2.2.2.1, h.2.2.2.2.1.place h6 v, h.2.2.2.2.2.1, h.2.2.2.2.2.2⟩
theorem EM.turn (h : EM N M came wanted) {i : Nat} (h6 : ¬ M 6 i = -1) : EM N (turnF M i) came wanted := (h.place h6 3).st 8 i 1 (by decide)
theorem EM.cast (h : EM N M came wanted) {i : Nat} (hi : i < N 1) (h6 : ¬ M 6 i = -1) : EM N (castF M i) came wanted := by
  unfold castF
  split
  · exact h.end hi h6
  · exact (h.place h6 1).st 8 i 2 (by decide)
theorem EM.fill (h : EM N M came wanted) {i k : Nat} {m : Int32} (hi : i < N 1) (hh : k < N 0) (m0 : 0 ≤ m.toInt) (m1 : m.toInt ≤ (M 0 k).toInt) (m2 : m.toInt ≤ (M 1 i).toInt - (M 2 i).toInt) : EM N (fillF M i k m) came wanted := by
  obtain ⟨a, b, c⟩ := fill_ok h.1 h.2.1 h.2.2.1 hi hh m0 m1 m2
  unfold fillF
  exact ⟨a, b, c, h.2.2.2.1, h.2.2.2.2.1, h.2.2.2.2.2.1, h.2.2.2.2.2.2⟩
theorem EM.pour (h : EM N M came wanted) {i t : Nat} {m : Int32} (hi : i < N 1) (ht : t < N 3) (hf : M 14 t = 1) (m0 : 0 ≤ m.toInt) (m1 : m.toInt ≤ (M 2 i).toInt) (m2 : m.toInt ≤ (M 12 t).toInt) : EM N (pourF M i t m) came wanted := by
  obtain ⟨a, b, c, d⟩ := pour_ok h.1 h.2.1 h.2.2.1 h.2.2.2.1 h.2.2.2.2.2.1 hi ht hf m0 m1 m2
  unfold pourF
  exact ⟨h.1, a, b, c, h.2.2.2.2.1, d, h.2.2.2.2.2.2⟩
theorem EM.atHulk (h : EM N M came wanted) {i : Nat} (hi : i < N 1) (h6 : ¬ M 6 i = -1) : EM N (atHulkF M i) came wanted := by
  have hh := (h.2.2.2.2.1.1 i hi).1
  obtain ⟨⟨l1, l2, l3⟩, l4⟩ := h.2.1 i hi
  unfold atHulkF
  by_cases c0 : M 0 (nT (M 5 i)) ≤ 0
  · rw [if_pos c0]
    exact h.cast hi h6
  · rw [if_neg c0]
    by_cases c1 : M 1 i - M 2 i ≤ 0
    · rw [if_pos c1]
      exact h.cast hi h6
    · rw [if_neg c1]
      rw [Int32.le_iff_toInt_le, Int32.toInt_zero] at c0 c1
      have e : (M 1 i - M 2 i).toInt = (M 1 i).toInt - (M 2 i).toInt := Kit.i32_sub (by omega) (by omega)
      obtain ⟨r1, r2, r3⟩ := least_rng (M 0 (nT (M 5 i))) (M 1 i - M 2 i)
      have m0 : 0 ≤ (leastF (M 0 (nT (M 5 i))) (M 1 i - M 2 i)).toInt := by
        rcases r3 with q | q <;> rw [q] <;> omega
      obtain ⟨s1, s2⟩ := shov_rng (M := M) (i := i) m0
      exact h.fill hi hh s1 (by omega) (by omega)
theorem EM.atSteamer (h : EM N M came wanted) {i : Nat} (hi : i < N 1) (h6 : ¬ M 6 i = -1) : EM N (atSteamerF M i) came wanted := by
  obtain ⟨-, ht, -⟩ := (h.2.2.2.2.1.1 i hi).2.2 h6
  obtain ⟨⟨l1, l2, l3⟩, l4⟩ := h.2.1 i hi
  unfold atSteamerF
  split
  · exact h.turn h6
  · by_cases hf : M 14 (nT (M 7 i)) = 1
    · rw [if_pos hf]
      have w0 : 0 ≤ (M 12 (nT (M 7 i))).toInt := by
        rcases h.2.2.2.2.2.1 _ ht with ⟨-, q⟩ | ⟨-, q⟩ | ⟨-, q⟩
        · rw [q]; decide
        · omega
        · exact q
      obtain ⟨r1, r2, r3⟩ := least_rng (M 2 i) (M 12 (nT (M 7 i)))
      have m0 : 0 ≤ (leastF (M 2 i) (M 12 (nT (M 7 i)))).toInt := by
        rcases r3 with q | q <;> rw [q] <;> omega
      obtain ⟨s1, s2⟩ := shov_rng (M := M) (i := i) m0
      exact h.pour hi ht hf s1 (by omega) (by omega)
    · rw [if_neg hf]
      exact h
theorem EM.goOn (h : EM N M came wanted) {i : Nat} (hi : i < N 1) (h6 : ¬ M 6 i = -1) : EM N (goOnF M i) came wanted := by
  have h2 := h.st 8 i (M 8 i - 1) (by decide)
  unfold goOnF goF
  split
  · split
    · exact h2.place h6 2
    · exact h2.end hi h6
  · exact h2
theorem EM.work (h : EM N M came wanted) {i : Nat} (hi : i < N 1) (h6 : ¬ M 6 i = -1) : EM N (workF M i) came wanted := by
  have h2 := h.st 10 (nT (M 6 i)) (M 10 (nT (M 6 i)) + 1) (by decide)
  unfold workF placeF
  split
  · exact h2.atHulk hi h6
  · split
    · exact h2.atSteamer hi h6
    · exact h2.goOn hi h6
theorem EM.wkL (h : EM N M came wanted) : ∀ n, n ≤ N 1 → EM N (workLoop M n) came wanted
  | 0, _ => h
  | n + 1, hn => by
    have ih := h.wkL n (by omega)
    unfold workLoop
    by_cases hc : workLoop M n 6 n = -1
    · rw [if_pos hc]; exact ih
    · rw [if_neg hc]; exact ih.work (by omega) hc
theorem EM.lvS (h : EM N M came wanted) {i : Nat} (s : Nat) (hi : i < N 1) : EM N (leaveStep M s i) came wanted := by
  unfold leaveStep
  by_cases hc : M 6 i = -1
  · rw [if_pos hc]; exact h
  · rw [if_neg hc]
    split
    · split
      · exact h.end hi hc
      · split
        · exact h
        · exact h.turn hc
    · exact h
theorem EM.lvL (h : EM N M came wanted) (s : Nat) : ∀ n, n ≤ N 1 → EM N (leaveLoop M s n) came wanted
  | 0, _ => h
  | n + 1, hn => (h.lvL s n (by omega)).lvS s (by omega)
/-- wants and fates stay -/
def Ks (M M1 : MS) : Prop := M1 12 = M 12 ∧ M1 14 = M 14
theorem Ks.st {M M1 : MS} (h : Ks M M1) {k i : Nat} {v : Int32} (hk : k < 12) : Ks M (stM M1 k i v) := ⟨(st_ne M1 i v (by omega)).trans h.1, (st_ne M1 i v (by omega)).trans h.2⟩
theorem end_ks {M M1 : MS} (h : Ks M M1) (i : Nat) : Ks M (endF M1 i) := by
  unfold endF
  split
  · exact (h.st (by decide)).st (by decide)
  · exact (((h.st (by decide)).st (by decide)).st (by decide)).st (by decide)
theorem leave_ks {M M1 : MS} (h : Ks M M1) (s : Nat) : ∀ n, Ks M (leaveLoop M1 s n)
  | 0 => h
  | n + 1 => by
    unfold leaveLoop leaveStep
    split
    · exact leave_ks h s n
    · split
      · split
        · exact end_ks (leave_ks h s n) n
        · split
          · exact leave_ks h s n
          · exact ((leave_ks h s n).st (by decide)).st (by decide)
      · exact leave_ks h s n
theorem sp_pos {f w : Int32} (h : SP f w) (h2 : ¬ 2 ≤ f) (hw : ¬ w = 0) : 0 < w.toInt := by
  rcases h with ⟨q, -⟩ | ⟨-, q⟩ | ⟨-, q⟩
  · exact absurd (by rw [q]; decide) h2
  · exact q
  · have h9 : w.toInt ≠ 0 := fun z => hw (Int32.toInt_inj.mp (by rw [z]; rfl))
    omega
theorem EM.leave (h : EM N M came wanted) {s : Nat} (hs : s < N 3) (h2 : ¬ 2 ≤ M 14 s) : EM N (leaveF M s (N 1)) came wanted ∧ leaveF M s (N 1) 12 = M 12 ∧ leaveF M s (N 1) 14 = upd (M 14) s (if M 12 s = 0 then 2 else 3) := by
  have sp := h.2.2.2.2.2.1 s hs
  have n1 : ¬ (if M 12 s = 0 then (2 : Int32) else 3) = 1 := by split <;> decide
  have h1 : EM N (stM M 14 s (if M 12 s = 0 then 2 else 3)) came wanted := by
    refine ⟨h.1, h.2.1, h.2.2.1, h.2.2.2.1, h.2.2.2.2.1, fun t ht => ?_, ?_⟩
    · show SP (upd (M 14) s (if M 12 s = 0 then 2 else 3) t) (M 12 t)
      by_cases e : t = s
      · rw [e, upd_at]
        by_cases z : M 12 s = 0
        · rw [if_pos z]; exact Or.inl ⟨rfl, z⟩
        · rw [if_neg z]; exact Or.inr (Or.inl ⟨Or.inr rfl, sp_pos sp h2 z⟩)
      · rw [upd_off e]; exact h.2.2.2.2.2.1 t ht
    · show ct (upd (M 14) s (if M 12 s = 0 then 2 else 3)) 1 (N 3) ≤ 2
      exact Nat.le_trans (ct_ne (M 14) 1 n1 (N 3)) h.2.2.2.2.2.2
  have k := leave_ks (M := stM M 14 s (if M 12 s = 0 then 2 else 3)) ⟨rfl, rfl⟩ s (N 1)
  exact ⟨h1.lvL s (N 1) (Nat.le_refl _), k.1, k.2⟩
theorem EM.gone (h : EM N M came wanted) : ∀ n, n ≤ N 3 → EM N (goneLoop M (N 1) n).1 came wanted ∧ ∀ t, t < n → (goneLoop M (N 1) n).1 14 t = 1 → 0 < ((goneLoop M (N 1) n).1 12 t).toInt
  | 0, _ => ⟨h, fun t ht => absurd ht (Nat.not_lt_zero _)⟩
  | n + 1, hn => by
    obtain ⟨h1, h2⟩ := h.gone n (by omega)
    unfold goneLoop
    revert h1 h2
    generalize goneLoop M (N 1) n = q
    intro h1 h2
    have lv : ¬ 2 ≤ q.1 14 n → EM N (leaveF q.1 n (N 1)) came wanted ∧ ∀ t, t < n + 1 → leaveF q.1 n (N 1) 14 t = 1 → 0 < (leaveF q.1 n (N 1) 12 t).toInt := fun c => by
      obtain ⟨a, b, d⟩ := h1.leave (by omega : n < N 3) c
      refine ⟨a, fun t ht hf => ?_⟩
      rw [b]
      rw [d] at hf
      by_cases e : t = n
      · rw [e, upd_at] at hf
        exact absurd hf (by split <;> decide)
      · rw [upd_off e] at hf
        exact h2 t (by omega) hf
    unfold goneStep
    by_cases c : 2 ≤ q.1 14 n
    · rw [if_pos c]
      refine ⟨h1, fun t ht hf => ?_⟩
      by_cases e : t = n
      · rw [e] at hf
        rw [hf] at c
        exact absurd c (by decide)
      · exact h2 t (by omega) hf
    · rw [if_neg c]
      by_cases c1 : q.1 12 n = 0
      · rw [if_pos c1]
        exact lv c
      · rw [if_neg c1]
        split
        · exact lv c
        · refine ⟨h1, fun t ht hf => ?_⟩
          by_cases e : t = n
          · rw [e]
            exact sp_pos (h1.2.2.2.2.2.1 n (by omega)) c c1
          · exact h2 t (by omega) hf
end INV
