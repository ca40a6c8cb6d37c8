/-! the hour, and the acts -/
theorem sI_succ (f : Nat → Int32) (n : Nat) : sI f (n + 1) = sI f n + (f n).toInt := rfl
theorem ct_succ (f : Nat → Int32) (v : Int32) (n : Nat) : ct f v (n + 1) = ct f v n + if f n = v then 1 else 0 := rfl
section HOUR
variable {N : Nat → Nat} {M : MS} {came wanted : Int}
theorem Wk.rest {c4 c5 c6 c7 c11 : Nat → Int32} (h : Wk N c4 c5 c6 c7 c11) (n : Nat) : Wk N c4 c5 c6 c7 (upd c11 n (c11 n - (if c11 n ≤ 0 then 0 else 1))) := by
  refine ⟨fun i hi => ⟨(h.1 i hi).1, (h.1 i hi).2.1, fun hc => ?_⟩, h.2⟩
  obtain ⟨q1, q2, q3⟩ := (h.1 i hi).2.2 hc
  refine ⟨q1, q2, ?_⟩
  by_cases e : nT (c6 i) = n
  · rw [e] at q3 ⊢
    rw [upd_at, q3]
    decide
  · rw [upd_off e]
    exact q3
theorem EM.rst (h : EM N M came wanted) : ∀ n, EM N (restLoop M n) came wanted
  | 0 => h
  | n + 1 => by
    have ih := h.rst n
    unfold restLoop
    exact ⟨ih.1, ih.2.1, ih.2.2.1, ih.2.2.2.1, ih.2.2.2.2.1.rest n, ih.2.2.2.2.2.1, ih.2.2.2.2.2.2⟩
theorem EM.bst (h : EM N M came wanted) {i : Nat} (hi : i < N 3) : EM N (buoyStep M (N 3) i) came wanted := by
  unfold buoyStep
  by_cases h0 : M 14 i = 0
  · rw [if_pos h0]
    by_cases h2 : 2 ≤ manyF M 1 (N 3)
    · rw [if_pos h2, st_id rfl]
      exact h
    · rw [if_neg h2]
      refine ⟨h.1, h.2.1, h.2.2.1, h.2.2.2.1, h.2.2.2.2.1, fun t ht => ?_, ?_⟩
      · show SP (upd (M 14) i 1 t) (M 12 t)
        by_cases e : t = i
        · rw [e, upd_at]
          have sp := h.2.2.2.2.2.1 i hi
          rw [h0] at sp
          rcases sp with ⟨q, -⟩ | ⟨-, q⟩ | ⟨q, -⟩
          · exact absurd q (by decide)
          · exact Or.inr (Or.inr ⟨rfl, by omega⟩)
          · exact absurd q (by decide)
        · rw [upd_off e]
          exact h.2.2.2.2.2.1 t ht
      · show ct (upd (M 14) i 1) 1 (N 3) ≤ 2
        have h3 := ct_up (M 14) 1 (i := i) (N 3)
        have h4 : ct (M 14) 1 (N 3) ≤ 2 := h.2.2.2.2.2.2
        rcases Nat.lt_or_ge (ct (M 14) 1 (N 3)) 2 with q | q
        · omega
        · have e : ct (M 14) 1 (N 3) = 2 := by omega
          rw [many_ct, e] at h2
          exact absurd (by decide) h2
  · rw [if_neg h0, st_id rfl]
    exact h
theorem EM.buoy (h : EM N M came wanted) : ∀ n, n ≤ N 3 → EM N (buoyLoop M (N 3) n) came wanted
  | 0, _ => h
  | n + 1, hn => (h.buoy n (by omega)).bst (by omega)
theorem EX.hour (h : EX N M came wanted) : EX N (hourF M (N 1) (N 2) (N 3)).1 came wanted :=
  (((((h.1.rst (N 2)).buoy (N 3) (Nat.le_refl _)).wkL (N 1) (Nat.le_refl _)).sc 19 _ (by decide))).gone (N 3) (Nat.le_refl _)
theorem EX.hours (h : EX N M came wanted) : ∀ n, EX N (hoursLoop M (N 1) (N 2) (N 3) n).1 came wanted
  | 0 => h
  | n + 1 => (h.hours n).hour
/-- how many leave -/
theorem gone_few (M : MS) (nl : Nat) : ∀ n, ∃ k, k ≤ n ∧ (goneLoop M nl n).2 = nI k
  | 0 => ⟨0, Nat.le_refl _, rfl⟩
  | n + 1 => by
    obtain ⟨k, h1, h2⟩ := gone_few M nl n
    unfold goneLoop goneStep
    split
    · exact ⟨k, by omega, h2⟩
    · split
      · exact ⟨k + 1, by omega, by show _ + 1 = _; rw [h2]; exact nI_1 k⟩
      · split
        · exact ⟨k + 1, by omega, by show _ + 1 = _; rw [h2]; exact nI_1 k⟩
        · exact ⟨k, by omega, h2⟩
theorem hours_few (M : MS) (nl ng ns : Nat) : ∀ n, ∃ k, k ≤ n * ns ∧ (hoursLoop M nl ng ns n).2 = nI k
  | 0 => ⟨0, Nat.zero_le _, rfl⟩
  | n + 1 => by
    obtain ⟨k, h1, h2⟩ := hours_few M nl ng ns n
    obtain ⟨j, h3, h4⟩ := gone_few (scM (midF (hoursLoop M nl ng ns n).1 nl ng ns) 19 (midF (hoursLoop M nl ng ns n).1 nl ng ns 19 0 + 1)) nl ns
    refine ⟨k + j, ?_, ?_⟩
    · rw [Nat.succ_mul]
      omega
    · show (hoursLoop M nl ng ns n).2 + (hourF (hoursLoop M nl ng ns n).1 nl ng ns).2 = _
      unfold hourF
      rw [h2, h4]
      exact nI_add k j
end HOUR
section ACTS
variable {N : Nat → Nat} {M : MS} {came wanted : Int}
theorem EX.sc (h : EX N M came wanted) (k : Nat) (v : Int32) (hk : k = 19 ∨ k = 21 ∨ k = 15 ∨ k = 16 ∨ k = 17 ∨ k = 18) : EX N (scM M k v) came wanted := by
  rcases hk with rfl | rfl | rfl | rfl | rfl | rfl <;> exact ⟨⟨h.1.1, h.1.2.1, h.1.2.2.1, h.1.2.2.2.1, h.1.2.2.2.2.1, h.1.2.2.2.2.2.1, h.1.2.2.2.2.2.2⟩, h.2⟩
theorem hulkX (h : EX N M came wanted) {v : Int32} (hN : N 0 < 3) (v0 : 0 ≤ v.toInt) (v4 : v.toInt ≤ 4000) : EX (va_up N 0 (N 0 + 1)) (stM M 0 (N 0) v) (came + v.toInt) wanted := by
  obtain ⟨⟨hu, li, ⟨t1, t2, t3, t4⟩, wa, wk, st, bu⟩, hs⟩ := h
  have eN : va_up N 0 (N 0 + 1) 0 = N 0 + 1 := by simp [va_up]
  refine ⟨⟨fun k hk => ?_, li, ⟨?_, t2, ?_, ?_⟩, wa, ⟨fun i hi => ⟨?_, (wk.1 i hi).2⟩, wk.2⟩, st, bu⟩, hs⟩
  · rw [eN] at hk
    show 0 ≤ (upd (M 0) (N 0) v k).toInt
    by_cases e : k = N 0
    · rw [e, upd_at]; exact v0
    · rw [upd_off e]; exact hu k (by omega)
  · show sI (upd (M 0) (N 0) v) (va_up N 0 (N 0 + 1) 0) + sI (M 2) (N 1) + sI (M 3) (N 1) + (M 20 0).toInt = came + v.toInt
    rw [eN, sI_succ, sI_ge _ _ _ (Nat.le_refl _), upd_at]
    omega
  · rw [eN]; omega
  · rw [eN]; omega
  · rw [eN]
    have := (wk.1 i hi).1
    show nT (M 5 i) < N 0 + 1
    omega
theorem lighterX (h : EX N M came wanted) {v : Int32} (h0 : 0 < N 0) (v0 : 0 ≤ v.toInt) (v5 : v.toInt ≤ 500) (z2 : M 2 (N 1) = 0) (z3 : M 3 (N 1) = 0) (z4 : M 4 (N 1) = 0) (z5 : M 5 (N 1) = 0) : EX (va_up N 1 (N 1 + 1)) (stM (stM M 1 (N 1) v) 6 (N 1) (-1)) came wanted := by
  obtain ⟨⟨hu, li, ⟨t1, t2, t3, t4⟩, wa, wk, st, bu⟩, hs⟩ := h
  have eN : va_up N 1 (N 1 + 1) 1 = N 1 + 1 := by simp [va_up]
  have i0 : (0 : Int32).toInt = 0 := by decide
  refine ⟨⟨hu, fun i hi => ?_, ⟨?_, t2, t3, t4⟩, wa, ⟨fun i hi => ?_, fun i j hi hj he hc => ?_⟩, st, bu⟩, hs⟩
  · rw [eN] at hi
    show (0 ≤ (M 2 i).toInt ∧ (M 2 i).toInt ≤ (upd (M 1) (N 1) v i).toInt ∧ (upd (M 1) (N 1) v i).toInt ≤ 500) ∧ 0 ≤ (M 3 i).toInt
    by_cases e : i = N 1
    · rw [e, upd_at, z2, z3, i0]; omega
    · rw [upd_off e]; exact li i (by omega)
  · show sI (M 0) (N 0) + sI (M 2) (va_up N 1 (N 1 + 1) 1) + sI (M 3) (va_up N 1 (N 1 + 1) 1) + (M 20 0).toInt = came
    rw [eN, sI_succ, sI_succ, z2, z3, i0]
    omega
  · rw [eN] at hi
    show nT (M 5 i) < N 0 ∧ (upd (M 6) (N 1) (-1) i = -1 → M 4 i = 0) ∧ (¬ upd (M 6) (N 1) (-1) i = -1 → (upd (M 6) (N 1) (-1) i = nI (nT (upd (M 6) (N 1) (-1) i)) ∧ nT (upd (M 6) (N 1) (-1) i) < N 2) ∧ nT (M 7 i) < N 3 ∧ M 11 (nT (upd (M 6) (N 1) (-1) i)) = 0)
    by_cases e : i = N 1
    · rw [e, upd_at]
      exact ⟨by rw [z5]; exact h0, fun _ => z4, fun z => absurd rfl z⟩
    · rw [upd_off e]; exact wk.1 i (by omega)
  · rw [eN] at hi hj
    have he' : upd (M 6) (N 1) (-1) i = upd (M 6) (N 1) (-1) j := he
    have hc' : ¬ upd (M 6) (N 1) (-1) i = -1 := hc
    have e1 : i ≠ N 1 := fun z => hc' (by rw [z]; exact upd_at _ _ _)
    have e2 : j ≠ N 1 := fun z => hc' (by rw [he', z]; exact upd_at _ _ _)
    rw [upd_off e1] at he' hc'
    rw [upd_off e2] at he'
    exact wk.2 i j (by omega) (by omega) he' hc'
theorem gangX (h : EX N M came wanted) (v : Int32) : EX (va_up N 2 (N 2 + 1)) (stM M 9 (N 2) v) came wanted := by
  obtain ⟨⟨hu, li, to, wa, wk, st, bu⟩, hs⟩ := h
  have eN : va_up N 2 (N 2 + 1) 2 = N 2 + 1 := by simp [va_up]
  refine ⟨⟨hu, li, to, wa, ⟨fun i hi => ⟨(wk.1 i hi).1, (wk.1 i hi).2.1, fun hc => ?_⟩, wk.2⟩, st, bu⟩, hs⟩
  obtain ⟨⟨q1, q2⟩, q3⟩ := (wk.1 i hi).2.2 hc
  exact ⟨⟨q1, by rw [eN]; show nT (M 6 i) < N 2 + 1; omega⟩, q3⟩
theorem steamerX (h : EX N M came wanted) {v w : Int32} {k : Nat} (hv : 0 < v.toInt) (z14 : M 14 (N 3) = 0) : EX (va_up (va_up N 3 (N 3 + 1)) 4 k) (stM (stM M 12 (N 3) v) 13 (N 3) w) came (wanted + v.toInt) := by
  obtain ⟨⟨hu, li, to, wa, wk, st, bu⟩, hs⟩ := h
  have eN : va_up (va_up N 3 (N 3 + 1)) 4 k 3 = N 3 + 1 := by simp [va_up]
  refine ⟨⟨hu, li, to, ?_, ⟨fun i hi => ⟨(wk.1 i hi).1, (wk.1 i hi).2.1, fun hc => ?_⟩, wk.2⟩, fun t ht => ?_, ?_⟩, fun t ht hf => ?_⟩
  · show (M 20 0).toInt + sI (upd (M 12) (N 3) v) (va_up (va_up N 3 (N 3 + 1)) 4 k 3) = wanted + v.toInt
    rw [eN, sI_succ, sI_ge _ _ _ (Nat.le_refl _), upd_at]
    unfold Wa at wa
    omega
  · obtain ⟨q1, q2, q3⟩ := (wk.1 i hi).2.2 hc
    exact ⟨q1, by rw [eN]; show nT (M 7 i) < N 3 + 1; omega, q3⟩
  · rw [eN] at ht
    show SP (M 14 t) (upd (M 12) (N 3) v t)
    by_cases e : t = N 3
    · rw [e, upd_at, z14]; exact Or.inr (Or.inl ⟨Or.inl rfl, hv⟩)
    · rw [upd_off e]; exact st t (by omega)
  · show ct (M 14) 1 (va_up (va_up N 3 (N 3 + 1)) 4 k 3) ≤ 2
    rw [eN, ct_succ, if_neg (by rw [z14]; decide)]
    exact bu
  · rw [eN] at ht
    have hf' : M 14 t = 1 := hf
    show 0 < (upd (M 12) (N 3) v t).toInt
    by_cases e : t = N 3
    · rw [e, z14] at hf'; exact absurd hf' (by decide)
    · rw [upd_off e]; exact hs t (by omega) hf'
theorem orderX (h : EX N M came wanted) {b : Nat} {w u : Int32} (hb : b < N 1) (hw : w = nI (nT w) ∧ nT w < N 2) (hu : nT u < N 3) (h11 : M 11 (nT w) = 0) (hfree : ∀ i, i < N 1 → ¬ M 6 i = w) (hn1 : ¬ w = -1) : EX N (stM (stM M 6 b w) 7 b u) came wanted := by
  obtain ⟨⟨hu0, li, to, wa, wk, st, bu⟩, hs⟩ := h
  refine ⟨⟨hu0, li, to, wa, ⟨fun i hi => ?_, fun i j hi hj he hc => ?_⟩, st, bu⟩, hs⟩
  · show nT (M 5 i) < N 0 ∧ (upd (M 6) b w i = -1 → M 4 i = 0) ∧ (¬ upd (M 6) b w i = -1 → (upd (M 6) b w i = nI (nT (upd (M 6) b w i)) ∧ nT (upd (M 6) b w i) < N 2) ∧ nT (upd (M 7) b u i) < N 3 ∧ M 11 (nT (upd (M 6) b w i)) = 0)
    by_cases e : i = b
    · rw [e, upd_at, upd_at]
      exact ⟨(wk.1 b hb).1, fun z => absurd z hn1, fun _ => ⟨hw, hu, h11⟩⟩
    · rw [upd_off e, upd_off e]
      exact wk.1 i hi
  · have he' : upd (M 6) b w i = upd (M 6) b w j := he
    have hc' : ¬ upd (M 6) b w i = -1 := hc
    by_cases e : i = b
    · by_cases e2 : j = b
      · rw [e, e2]
      · rw [e, upd_at, upd_off e2] at he'
        exact absurd he'.symm (hfree j hj)
    · rw [upd_off e] at he' hc'
      by_cases e2 : j = b
      · rw [e2, upd_at] at he'
        exact absurd he' (hfree i hi)
      · rw [upd_off e2] at he'
        exact wk.2 i j hi hj he' hc'
theorem shiftX (h : EX N M came wanted) {b : Nat} {w : Int32} (hw : nT w < N 0) : EX N (stM M 5 b w) came wanted := by
  obtain ⟨⟨hu0, li, to, wa, wk, st, bu⟩, hs⟩ := h
  refine ⟨⟨hu0, li, to, wa, ⟨fun i hi => ⟨?_, (wk.1 i hi).2⟩, wk.2⟩, st, bu⟩, hs⟩
  show nT (upd (M 5) b w i) < N 0
  by_cases e : i = b
  · rw [e, upd_at]; exact hw
  · rw [upd_off e]; exact (wk.1 i hi).1
theorem sweepX (h : EX N M came wanted) {b g : Nat} (hb : b < N 1) (hg : g < N 2) (hfree : ∀ i, i < N 1 → ¬ M 6 i = nI g) : EX N (stM (stM (stM (stM M 0 (nT (M 5 b)) (M 0 (nT (M 5 b)) + M 3 b)) 3 b 0) 11 g 8) 10 g 0) came wanted := by
  obtain ⟨⟨hu0, li, ⟨t1, t2, t3, t4⟩, wa, wk, st, bu⟩, hs⟩ := h
  have hh := (wk.1 b hb).1
  have n2 : ∀ j, j < N 1 → 0 ≤ (M 2 j).toInt := fun j hj => (li j hj).1.1
  have n3 : ∀ j, j < N 1 → 0 ≤ (M 3 j).toInt := fun j hj => (li j hj).2
  have s2 := sI_nn _ n2
  have b3 := sI_le (N 1) n3 hb
  have b0 := sI_le (N 0) hu0 hh
  have p3 := n3 b hb
  have p0 := hu0 _ hh
  have i0 : (0 : Int32).toInt = 0 := by decide
  have e0 : (M 0 (nT (M 5 b)) + M 3 b).toInt = (M 0 (nT (M 5 b))).toInt + (M 3 b).toInt := Kit.i32_add (by omega) (by omega)
  refine ⟨⟨fun k hk => ?_, fun i hi => ⟨(li i hi).1, ?_⟩, ⟨?_, t2, t3, t4⟩, wa, ⟨fun i hi => ⟨(wk.1 i hi).1, (wk.1 i hi).2.1, fun hc => ?_⟩, wk.2⟩, st, bu⟩, hs⟩
  · show 0 ≤ (upd (M 0) (nT (M 5 b)) (M 0 (nT (M 5 b)) + M 3 b) k).toInt
    by_cases e : k = nT (M 5 b)
    · rw [e, upd_at, e0]; omega
    · rw [upd_off e]; exact hu0 k hk
  · show 0 ≤ (upd (M 3) b 0 i).toInt
    by_cases e : i = b
    · rw [e, upd_at]; decide
    · rw [upd_off e]; exact n3 i hi
  · show sI (upd (M 0) (nT (M 5 b)) (M 0 (nT (M 5 b)) + M 3 b)) (N 0) + sI (M 2) (N 1) + sI (upd (M 3) b 0) (N 1) + (M 20 0).toInt = came
    rw [sI_upd _ _ _ hh, sI_upd _ _ _ hb, e0, i0]
    omega
  · obtain ⟨q1, q2, q3⟩ := (wk.1 i hi).2.2 hc
    refine ⟨q1, q2, ?_⟩
    show upd (M 11) g 8 (nT (M 6 i)) = 0
    have hne : nT (M 6 i) ≠ g := fun z => hfree i hi (by rw [q1.1, z])
    rw [upd_off hne]; exact q3
theorem EX.zero : EX (fun _ => 0) M00 0 0 :=
  ⟨⟨fun _ h => absurd h (Nat.not_lt_zero _), fun _ h => absurd h (Nat.not_lt_zero _), ⟨rfl, Int.le_refl 0, Int.le_refl 0, Nat.zero_le _⟩, rfl, ⟨fun _ h => absurd h (Nat.not_lt_zero _), fun _ _ h => absurd h (Nat.not_lt_zero _)⟩, fun _ h => absurd h (Nat.not_lt_zero _), Nat.zero_le _⟩, fun _ h => absurd h (Nat.not_lt_zero _)⟩
end ACTS
