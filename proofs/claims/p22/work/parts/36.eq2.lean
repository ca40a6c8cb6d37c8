/-! the steamers: those present are the class's list, in their order -/
theorem walk {N4 N3 : Nat} {P : Nat → Nat} (hr : ∀ j, j < N4 → P j < N3) (ha : ∀ j k, j < k → k < N4 → P j < P k) {R : Nat → Nat → Prop} (h0 : R 0 0) (hin : ∀ j, j < N4 → R (P j) j → R (P j + 1) (j + 1)) (hout : ∀ t j, t < N3 → (∀ k, k < N4 → P k ≠ t) → R t j → R (t + 1) j) : R N3 N4 := by
  have key : ∀ t, t ≤ N3 → ∃ j, j ≤ N4 ∧ (∀ k, k < j → P k < t) ∧ (∀ k, j ≤ k → k < N4 → t ≤ P k) ∧ R t j := by
    intro t
    induction t with
    | zero => exact fun _ => ⟨0, Nat.zero_le _, fun k hk => absurd hk (Nat.not_lt_zero _), fun k _ _ => Nat.zero_le _, h0⟩
    | succ t ih =>
      intro ht
      obtain ⟨j, hj, h1, h2, h3⟩ := ih (by omega)
      by_cases hc : j < N4 ∧ P j = t
      · obtain ⟨hc1, hc2⟩ := hc
        refine ⟨j + 1, hc1, fun k hk => ?_, fun k hk hk4 => ?_, ?_⟩
        · by_cases hkj : k = j
          · rw [hkj]; omega
          · have := h1 k (by omega); omega
        · have := ha j k (by omega) hk4; omega
        · rw [← hc2]
          rw [← hc2] at h3
          exact hin j hc1 h3
      · have hne : ∀ k, k < N4 → P k ≠ t := fun k hk z => by
          rcases Nat.lt_or_ge k j with q | q
          · have := h1 k q; omega
          · by_cases hkj : k = j
            · subst hkj
              exact hc ⟨hk, z⟩
            · have h5 := ha j k (by omega) hk
              have h6 := h2 j (Nat.le_refl _) (by omega)
              omega
        refine ⟨j, hj, fun k hk => by have := h1 k hk; omega, fun k hk hk4 => ?_, hout t j (by omega) hne h3⟩
        have h5 := h2 k hk hk4
        have h6 := hne k hk4
        omega
  obtain ⟨j, hj, h1, h2, h3⟩ := key N3 (Nat.le_refl _)
  have e : j = N4 := by
    rcases Nat.lt_or_ge j N4 with q | q
    · have h5 := h2 j (Nat.le_refl _) q
      have h6 := hr j q
      omega
    · omega
  rw [← e]
  exact h3
def Pl (N P : Nat → Nat) (c14 : Nat → Int32) : Prop := (∀ j, j < N 4 → P j < N 3 ∧ (c14 (P j) = 0 ∨ c14 (P j) = 1)) ∧ (∀ j k, j < k → k < N 4 → P j < P k) ∧ ∀ t, t < N 3 → (∃ j, j < N 4 ∧ P j = t) ∨ c14 t = 2 ∨ c14 t = 3
def Pt (N P : Nat → Nat) (c13 m13 : Nat → Int32) (k : Int32) : Prop := ∀ j, j < N 4 → c13 (P j) = m13 (P j) - k ∧ 1 ≤ c13 (P j) ∧ c13 (P j) ≤ 500
theorem Pl.le {N P : Nat → Nat} {c14 : Nat → Int32} (h : Pl N P c14) : N 4 ≤ N 3 := by
  have key : ∀ j, j < N 4 → j ≤ P j := by
    intro j
    induction j with
    | zero => exact fun _ => Nat.zero_le _
    | succ j ih =>
      intro hj
      have h1 := ih (by omega)
      have h2 := h.2.1 j (j + 1) (by omega) hj
      omega
  by_cases h0 : N 4 = 0
  · omega
  · have h1 := key (N 4 - 1) (by omega)
    have h2 := (h.1 (N 4 - 1) (by omega)).1
    omega
/-- what an hour's work keeps -/
def Kp (C C1 : MS) : Prop := C1 13 = C 13 ∧ C1 14 = C 14 ∧ C1 16 = C 16 ∧ C1 19 = C 19 ∧ C1 21 = C 21
theorem Kp.rf {C : MS} : Kp C C := ⟨rfl, rfl, rfl, rfl, rfl⟩
theorem Kp.st {C C1 : MS} (h : Kp C C1) {k i : Nat} {v : Int32} (hk : k < 13 ∨ k = 15) : Kp C (stM C1 k i v) := by
  obtain ⟨h1, h2, h3, h4, h5⟩ := h
  refine ⟨?_, ?_, ?_, ?_, ?_⟩ <;> rw [st_ne _ _ _ (by omega)] <;> assumption
theorem Kp.sc {C C1 : MS} (h : Kp C C1) {k : Nat} {v : Int32} (hk : k = 17 ∨ k = 20) : Kp C (scM C1 k v) := by
  obtain ⟨h1, h2, h3, h4, h5⟩ := h
  refine ⟨?_, ?_, ?_, ?_, ?_⟩ <;> rw [sc_ne _ _ (by omega)] <;> assumption
theorem end_kp {C C1 : MS} (h : Kp C C1) (i : Nat) : Kp C (endG C1 i) := by
  unfold endG ashG lieG
  split
  · exact (h.st (by decide)).st (by decide)
  · exact (((h.st (by decide)).st (by decide)).st (by decide)).st (by decide)
theorem cast_kp {C C1 : MS} (h : Kp C C1) (i : Nat) : Kp C (castG C1 i) := by
  unfold castG
  split
  · exact end_kp h i
  · exact (h.st (by decide)).st (by decide)
theorem workH_kp {C C1 : MS} (h : Kp C C1) (i : Nat) : Kp C (workHG C1 i) := by
  unfold workHG
  split
  · exact cast_kp h i
  · split
    · exact ((h.st (by decide)).st (by decide)).st (by decide)
    · exact cast_kp h i
theorem workS_kp {C C1 : MS} (h : Kp C C1) (i : Nat) : Kp C (workSG C1 i) := by
  unfold workSG
  split
  · split
    · exact (((h.st (by decide)).st (by decide)).st (by decide)).sc (by decide)
    · exact h
  · exact h.st (by decide)
theorem go_kp {C C1 : MS} (h : Kp C C1) (i : Nat) : Kp C (goG C1 i) := by
  unfold goG
  split
  · exact h.st (by decide)
  · exact (h.st (by decide)).st (by decide)
theorem wk_kp {C C1 : MS} (h : Kp C C1) (i : Nat) : Kp C (wkG C1 i) := by
  unfold wkG
  split
  · exact h
  · have h2 : Kp C (stM C1 10 (nT (C1 6 i)) (C1 10 (nT (C1 6 i)) + 1)) := h.st (by decide)
    unfold workG
    split
    · exact workH_kp h2 i
    · split
      · exact go_kp h2 i
      · split
        · exact workS_kp h2 i
        · exact end_kp (h2.st (by decide)) i
theorem wkLoop_kp {C C1 : MS} (h : Kp C C1) : ∀ n, Kp C (wkLoop C1 n)
  | 0 => h
  | n + 1 => wk_kp (wkLoop_kp h n) n
theorem rst_kp {C C1 : MS} (h : Kp C C1) : ∀ n, Kp C (rstLoop C1 n)
  | 0 => h
  | n + 1 => by
    unfold rstLoop
    split
    · exact rst_kp h n
    · exact (rst_kp h n).st (by decide)
theorem rc_kp {C C1 : MS} (h : Kp C C1) (t : Nat) : ∀ n, Kp C (rcLoop C1 t n)
  | 0 => h
  | n + 1 => by
    unfold rcLoop rcG
    split
    · exact rc_kp h t n
    · split
      · unfold recG
        split
        · exact end_kp (rc_kp h t n) n
        · exact (rc_kp h t n).st (by decide)
      · exact rc_kp h t n
theorem endF_kp {M M1 : MS} (h : Kp M M1) (i : Nat) : Kp M (endF M1 i) := by
  unfold endF
  split
  · exact (h.st (by decide)).st (by decide)
  · exact (((h.st (by decide)).st (by decide)).st (by decide)).st (by decide)
theorem castF_kp {M M1 : MS} (h : Kp M M1) (i : Nat) : Kp M (castF M1 i) := by
  unfold castF
  split
  · exact endF_kp h i
  · exact (h.st (by decide)).st (by decide)
theorem atHulk_kp {M M1 : MS} (h : Kp M M1) (i : Nat) : Kp M (atHulkF M1 i) := by
  unfold atHulkF
  split
  · exact castF_kp h i
  · split
    · exact castF_kp h i
    · exact ((h.st (by decide)).st (by decide)).st (by decide)
theorem atSteamer_kp {M M1 : MS} (h : Kp M M1) (i : Nat) : Kp M (atSteamerF M1 i) := by
  unfold atSteamerF
  split
  · exact (h.st (by decide)).st (by decide)
  · split
    · exact (((h.st (by decide)).st (by decide)).st (by decide)).sc (by decide)
    · exact h
theorem goOn_kp {M M1 : MS} (h : Kp M M1) (i : Nat) : Kp M (goOnF M1 i) := by
  have h2 : Kp M (stM M1 8 i (M1 8 i - 1)) := h.st (by decide)
  unfold goOnF goF
  split
  · split
    · exact h2.st (by decide)
    · exact endF_kp h2 i
  · exact h2
theorem workF_kp {M M1 : MS} (h : Kp M M1) (i : Nat) : Kp M (workF M1 i) := by
  have h2 : Kp M (stM M1 10 (nT (M1 6 i)) (M1 10 (nT (M1 6 i)) + 1)) := h.st (by decide)
  unfold workF placeF
  split
  · exact atHulk_kp h2 i
  · split
    · exact atSteamer_kp h2 i
    · exact goOn_kp h2 i
theorem workLoop_kp {M M1 : MS} (h : Kp M M1) : ∀ n, Kp M (workLoop M1 n)
  | 0 => h
  | n + 1 => by
    unfold workLoop
    split
    · exact workLoop_kp h n
    · exact workF_kp (workLoop_kp h n) n
theorem rest_kp {M M1 : MS} (h : Kp M M1) : ∀ n, Kp M (restLoop M1 n)
  | 0 => h
  | n + 1 => (rest_kp h n).st (by decide)
theorem leave_kp {M M1 : MS} (h : Kp M M1) (s : Nat) : ∀ n, Kp M (leaveLoop M1 s n)
  | 0 => h
  | n + 1 => by
    unfold leaveLoop leaveStep
    split
    · exact leave_kp h s n
    · split
      · split
        · exact endF_kp (leave_kp h s n) n
        · split
          · exact leave_kp h s n
          · exact ((leave_kp h s n).st (by decide)).st (by decide)
      · exact leave_kp h s n
/-- all but the fates -/
def Kb (C C1 : MS) : Prop := C1 13 = C 13 ∧ C1 16 = C 16 ∧ C1 19 = C 19 ∧ C1 21 = C 21
theorem by_kb {C : MS} {P : Nat → Nat} {q : MS × Int32} (h : Kb C q.1) : ∀ n, Kb C (byLoop P q n).1
  | 0 => h
  | n + 1 => by
    have ih := by_kb (P := P) h n
    unfold byLoop byG
    split
    · exact ih
    · split
      · exact ih
      · exact ih
theorem buoy_kb {M M1 : MS} (h : Kb M M1) (ns : Nat) : ∀ n, Kb M (buoyLoop M1 ns n)
  | 0 => h
  | n + 1 => buoy_kb h ns n
theorem many_ge {M : MS} {how v : Int32} {u : Nat} : ∀ n, n ≤ u → manyF (stM M 14 u v) how n = manyF M how n
  | 0, _ => rfl
  | n + 1, h => by
    unfold manyF
    rw [many_ge n (by omega), st_off M 14 v (by omega)]
theorem many_set {M : MS} {u : Nat} (h0 : ¬ M 14 u = 1) : ∀ n, u < n → manyF (stM M 14 u 1) 1 n = manyF M 1 n + 1
  | 0, h => absurd h (Nat.not_lt_zero _)
  | n + 1, h => by
    unfold manyF
    by_cases hn : n = u
    · subst hn
      rw [many_ge n (Nat.le_refl _), st_at, if_pos rfl, if_neg h0, Int32.add_zero]
    · rw [many_set h0 n (by omega), st_off M 14 1 hn, Int32.add_assoc, Int32.add_comm 1, ← Int32.add_assoc]
theorem cnt_many {N P : Nat → Nat} {C M : MS} (hp : Pl N P (M 14)) (e14 : C 14 = M 14) {how : Int32} (hh : how = 0 ∨ how = 1) : cntG C P how (N 4) = manyF M how (N 3) := by
  refine walk (R := fun t j => cntG C P how j = manyF M how t) (fun j hj => (hp.1 j hj).1) hp.2.1 rfl (fun j hj h => ?_) (fun t j ht hn h => ?_)
  · show cntG C P how (j + 1) = manyF M how (P j + 1)
    rw [cntG, manyF, h, e14]
    split
    · rfl
    · rw [Int32.add_zero]
  · show cntG C P how j = manyF M how (t + 1)
    have hne : ¬ M 14 t = how := by
      rcases hp.2.2 t ht with ⟨k, hk, e⟩ | e | e
      · exact absurd e (hn k hk)
      · rcases hh with z | z <;> rw [e, z] <;> decide
      · rcases hh with z | z <;> rw [e, z] <;> decide
    rw [manyF, if_neg hne, Int32.add_zero]
    exact h
theorem buoys {N P : Nat → Nat} {C M : MS} (hj : J N C M) (hp : Pl N P (M 14)) : J N (byLoop P (C, cntG C P 1 (N 4)) (N 4)).1 (buoyLoop M (N 3) (N 3)) ∧ ∀ u, buoyLoop M (N 3) (N 3) 14 u = M 14 u ∨ (M 14 u = 0 ∧ buoyLoop M (N 3) (N 3) 14 u = 1) := by
  have main := walk (N4 := N 4) (N3 := N 3) (P := P) (R := fun t j => J N (byLoop P (C, cntG C P 1 (N 4)) j).1 (buoyLoop M (N 3) t) ∧ (byLoop P (C, cntG C P 1 (N 4)) j).2 = manyF (buoyLoop M (N 3) t) 1 (N 3) ∧ (∀ u, t ≤ u → buoyLoop M (N 3) t 14 u = M 14 u) ∧ ∀ u, buoyLoop M (N 3) t 14 u = M 14 u ∨ (M 14 u = 0 ∧ buoyLoop M (N 3) t 14 u = 1))
    (fun j hj => (hp.1 j hj).1) hp.2.1 ⟨hj, cnt_many hp (hj.1.1 14 rfl) (Or.inr rfl), fun _ _ => rfl, fun _ => Or.inl rfl⟩ ?_ ?_
  · exact ⟨main.1, main.2.2.2⟩
  · intro j hj4 hR
    have hu := (hp.1 j hj4).1
    show J N (byG P (byLoop P (C, cntG C P 1 (N 4)) j) j).1 (buoyStep (buoyLoop M (N 3) (P j)) (N 3) (P j)) ∧ (byG P (byLoop P (C, cntG C P 1 (N 4)) j) j).2 = manyF (buoyStep (buoyLoop M (N 3) (P j)) (N 3) (P j)) 1 (N 3) ∧ (∀ u, P j + 1 ≤ u → buoyStep (buoyLoop M (N 3) (P j)) (N 3) (P j) 14 u = M 14 u) ∧ ∀ u, buoyStep (buoyLoop M (N 3) (P j)) (N 3) (P j) 14 u = M 14 u ∨ (M 14 u = 0 ∧ buoyStep (buoyLoop M (N 3) (P j)) (N 3) (P j) 14 u = 1)
    revert hR
    generalize byLoop P (C, cntG C P 1 (N 4)) j = q
    generalize buoyLoop M (N 3) (P j) = B
    rintro ⟨a, b, c, d⟩
    have e14 : q.1 14 = B 14 := a.1.1 14 rfl
    unfold byG buoyStep
    by_cases h2 : 2 ≤ q.2
    · rw [if_pos h2]
      have hv : (if B 14 (P j) = 0 then (if 2 ≤ manyF B 1 (N 3) then B 14 (P j) else 1) else B 14 (P j)) = B 14 (P j) := by rw [← b, if_pos h2, ite_self]
      rw [hv, st_id rfl]
      exact ⟨a, b, fun u hu2 => c u (by omega), d⟩
    · rw [if_neg h2, e14]
      by_cases h0 : B 14 (P j) = 0
      · rw [if_pos h0, if_pos h0, ← b, if_neg h2]
        refine ⟨a.st14 (P j) 1 hu, ?_, fun u hu2 => ?_, fun u => ?_⟩
        · show q.2 + 1 = manyF (stM B 14 (P j) 1) 1 (N 3)
          rw [many_set (by rw [h0]; decide) (N 3) hu, b]
        · rw [st_off B 14 1 (by omega)]
          exact c u (by omega)
        · by_cases e : u = P j
          · subst e
            exact Or.inr ⟨by rw [← c (P j) (Nat.le_refl _)]; exact h0, st_at B 14 (P j) 1⟩
          · rw [st_off B 14 1 e]
            exact d u
      · rw [if_neg h0, if_neg h0, st_id rfl]
        exact ⟨a, b, fun u hu2 => c u (by omega), d⟩
  · intro t j ht hn hR
    show J N (byLoop P (C, cntG C P 1 (N 4)) j).1 (buoyStep (buoyLoop M (N 3) t) (N 3) t) ∧ (byLoop P (C, cntG C P 1 (N 4)) j).2 = manyF (buoyStep (buoyLoop M (N 3) t) (N 3) t) 1 (N 3) ∧ (∀ u, t + 1 ≤ u → buoyStep (buoyLoop M (N 3) t) (N 3) t 14 u = M 14 u) ∧ ∀ u, buoyStep (buoyLoop M (N 3) t) (N 3) t 14 u = M 14 u ∨ (M 14 u = 0 ∧ buoyStep (buoyLoop M (N 3) t) (N 3) t 14 u = 1)
    revert hR
    generalize byLoop P (C, cntG C P 1 (N 4)) j = q
    generalize buoyLoop M (N 3) t = B
    rintro ⟨a, b, c, d⟩
    have e := c t (Nat.le_refl _)
    have hne : ¬ B 14 t = 0 := by
      rcases hp.2.2 t ht with ⟨k, hk, e2⟩ | e2 | e2
      · exact absurd e2 (hn k hk)
      · rw [e, e2]; decide
      · rw [e, e2]; decide
    unfold buoyStep
    rw [if_neg hne, st_id rfl]
    exact ⟨a, b, fun u hu2 => c u (by omega), d⟩
theorem want0 {w : Int32} (h : 0 ≤ w) : w ≤ 0 ↔ w = 0 := ⟨fun z => Int32.le_antisymm z h, fun z => by rw [z]; decide⟩
theorem pat0 {x m k : Int32} (hx : x = m - k) (h1 : 1 ≤ x) : x - 1 ≤ 0 ↔ m = k + 1 := by
  have e1 : (1 : Int32).toInt = 1 := by decide
  have hl := Int32.toInt_lt x
  rw [Int32.le_iff_toInt_le, e1] at h1
  have e2 : (x - 1).toInt = x.toInt - 1 := by rw [Kit.i32_sub (by omega) (by omega), e1]
  rw [Int32.le_iff_toInt_le, Int32.toInt_zero, e2]
  constructor
  · intro z
    have e3 : x = 1 := Int32.toInt_inj.mp (by rw [e1]; omega)
    rw [e3] at hx
    rw [hx, Int32.add_comm, Int32.sub_add_cancel]
  · intro z
    have e3 : x = 1 := by rw [hx, z, Int32.add_comm, Int32.add_sub_cancel]
    rw [e3, e1]
    decide
theorem pat1 {x : Int32} (h1 : 1 ≤ x) (h5 : x ≤ 500) (h : ¬ x - 1 ≤ 0) : 1 ≤ x - 1 ∧ x - 1 ≤ 500 := by
  have e1 : (1 : Int32).toInt = 1 := by decide
  have e5 : (500 : Int32).toInt = 500 := by decide
  have hl := Int32.toInt_lt x
  rw [Int32.le_iff_toInt_le, e1] at h1
  rw [Int32.le_iff_toInt_le, e5] at h5
  have e2 : (x - 1).toInt = x.toInt - 1 := by rw [Kit.i32_sub (by omega) (by omega), e1]
  rw [Int32.le_iff_toInt_le, Int32.toInt_zero, e2] at h
  rw [Int32.le_iff_toInt_le, Int32.le_iff_toInt_le, e1, e2, e5]
  omega
theorem J.scr {N : Nat → Nat} {C M : MS} (h : J N C M) (v : Int32) : J N C (scM M 19 v) := ⟨h.1.scr v (by decide), h.2⟩
def LvR (N P : Nat → Nat) (C M : MS) (t j : Nat) (q B : MS × Int32) : Prop :=
  J N q.1 B.1 ∧ q.2 = B.2 ∧ (∀ u, t ≤ u → B.1 14 u = M 14 u) ∧ (∀ u, B.1 14 u = M 14 u ∨ B.1 14 u = 2 ∨ B.1 14 u = 3) ∧ (B.1 13 = M 13 ∧ B.1 19 0 = M 19 0 + 1 ∧ B.1 21 = M 21 ∧ q.1 16 = C 16) ∧ (∀ k, j ≤ k → k < N 4 → q.1 13 (P k) = C 13 (P k)) ∧ ∀ k, k < j → (B.1 14 (P k) = 2 ∨ B.1 14 (P k) = 3) ∨ (B.1 14 (P k) = M 14 (P k) ∧ q.1 13 (P k) = C 13 (P k) - 1 ∧ ¬ q.1 13 (P k) ≤ 0)
theorem lvs {N P : Nat → Nat} {C M : MS} (hj : J N C M) (hp : Pl N P (M 14)) (ht : Pt N P (C 13) (M 13) (M 19 0)) (hN3 : N 3 ≤ 600) : LvR N P C M (N 3) (N 4) (lvLoop (N 1) P C (N 4)) (goneLoop (scM M 19 (M 19 0 + 1)) (N 1) (N 3)) := by
  refine walk (N4 := N 4) (N3 := N 3) (P := P) (R := fun t j => LvR N P C M t j (lvLoop (N 1) P C j) (goneLoop (scM M 19 (M 19 0 + 1)) (N 1) t)) (fun j hj => (hp.1 j hj).1) hp.2.1 ⟨hj.scr _, rfl, fun _ _ => rfl, fun _ => Or.inl rfl, ⟨rfl, rfl, rfl, rfl⟩, fun _ _ _ => rfl, fun k hk => absurd hk (Nat.not_lt_zero _)⟩ ?_ ?_
  · intro j hj4 hR
    obtain ⟨hu, hf⟩ := hp.1 j hj4
    obtain ⟨t1, t2, t3⟩ := ht j hj4
    show LvR N P C M (P j + 1) (j + 1) (lvG (N 1) P (lvLoop (N 1) P C j) j) (goneStep (goneLoop (scM M 19 (M 19 0 + 1)) (N 1) (P j)) (N 1) (P j))
    revert hR
    generalize lvLoop (N 1) P C j = q
    generalize goneLoop (scM M 19 (M 19 0 + 1)) (N 1) (P j) = B
    rintro ⟨a, b, c, d, ⟨e13, e19, e21, e16⟩, f, g⟩
    have e12 : q.1 12 = B.1 12 := a.1.1 12 rfl
    have eu := c (P j) (Nat.le_refl _)
    have n2 : ¬ 2 ≤ B.1 14 (P j) := by
      rw [eu]
      rcases hf with z | z <;> rw [z] <;> decide
    have ex : q.1 13 (P j) = C 13 (P j) := f j (Nat.le_refl _) hj4
    have w1 := want0 (a.2.2.1.2.2 (P j))
    have w2 : q.1 13 (P j) - 1 ≤ 0 ↔ B.1 13 (P j) = B.1 19 0 := by
      rw [ex, e13, e19]
      exact pat0 t1 t2
    have J1 : J N (stM q.1 13 (P j) (q.1 13 (P j) - 1)) B.1 := a.l13 _ _
    have hdue : dueG (stM q.1 13 (P j) (q.1 13 (P j) - 1)) (P j) = (decide (q.1 12 (P j) ≤ 0) || decide (q.1 13 (P j) - 1 ≤ 0)) := by
      unfold dueG
      rw [st_ne q.1 _ _ (by decide : (12 : Nat) ≠ 13), st_at]
    have ev : (if q.1 12 (P j) ≤ 0 then (2 : Int32) else 3) = if B.1 12 (P j) = 0 then 2 else 3 := by
      rw [e12]
      rw [e12] at w1
      by_cases z : B.1 12 (P j) = 0
      · rw [if_pos z, if_pos (w1.mpr z)]
      · rw [if_neg z, if_neg (fun y => z (w1.mp y))]
    have v23 : (if B.1 12 (P j) = 0 then (2 : Int32) else 3) = 2 ∨ (if B.1 12 (P j) = 0 then (2 : Int32) else 3) = 3 := by
      split
      · exact Or.inl rfl
      · exact Or.inr rfl
    have left : LvR N P C M (P j + 1) (j + 1) (rcLoop (stM (stM q.1 13 (P j) (q.1 13 (P j) - 1)) 14 (P j) (if q.1 12 (P j) ≤ 0 then 2 else 3)) (P j) (N 1), q.2 + 1) (leaveF B.1 (P j) (N 1), B.2 + 1) := by
      rw [ev]
      unfold leaveF
      revert v23
      generalize (if B.1 12 (P j) = 0 then (2 : Int32) else 3) = v
      intro v23
      have J2 := (J1.st14 (P j) v hu).rcLoop (t := P j) (by omega) hN3 (N 1) (Nat.le_refl _)
      have K1 := rc_kp (Kp.rf (C := stM (stM q.1 13 (P j) (q.1 13 (P j) - 1)) 14 (P j) v)) (P j) (N 1)
      have K2 := leave_kp (Kp.rf (C := stM B.1 14 (P j) v)) (P j) (N 1)
      have k14 : ∀ u, leaveLoop (stM B.1 14 (P j) v) (P j) (N 1) 14 u = stM B.1 14 (P j) v 14 u := fun u => congrFun K2.2.1 u
      have k13 : ∀ u, rcLoop (stM (stM q.1 13 (P j) (q.1 13 (P j) - 1)) 14 (P j) v) (P j) (N 1) 13 u = stM q.1 13 (P j) (q.1 13 (P j) - 1) 13 u := fun u => congrFun K1.1 u
      refine ⟨J2, congrArg (fun z => z + 1) b, fun u hu2 => ?_, fun u => ?_, ⟨K2.1.trans e13, (congrFun K2.2.2.2.1 0).trans e19, K2.2.2.2.2.trans e21, K1.2.2.1.trans e16⟩, fun k hk hk4 => ?_, fun k hk => ?_⟩
      · show leaveLoop (stM B.1 14 (P j) v) (P j) (N 1) 14 u = _
        rw [k14, st_off _ _ _ (by omega)]
        exact c u (by omega)
      · show leaveLoop (stM B.1 14 (P j) v) (P j) (N 1) 14 u = _ ∨ leaveLoop (stM B.1 14 (P j) v) (P j) (N 1) 14 u = 2 ∨ leaveLoop (stM B.1 14 (P j) v) (P j) (N 1) 14 u = 3
        rw [k14]
        by_cases e : u = P j
        · rw [e, st_at]
          exact Or.inr v23
        · rw [st_off _ _ _ e]
          exact d u
      · show rcLoop (stM (stM q.1 13 (P j) (q.1 13 (P j) - 1)) 14 (P j) v) (P j) (N 1) 13 (P k) = _
        have h9 := hp.2.1 j k (by omega) hk4
        rw [k13, st_off _ _ _ (by omega)]
        exact f k (by omega) hk4
      · show (leaveLoop (stM B.1 14 (P j) v) (P j) (N 1) 14 (P k) = 2 ∨ leaveLoop (stM B.1 14 (P j) v) (P j) (N 1) 14 (P k) = 3) ∨ (leaveLoop (stM B.1 14 (P j) v) (P j) (N 1) 14 (P k) = M 14 (P k) ∧ rcLoop (stM (stM q.1 13 (P j) (q.1 13 (P j) - 1)) 14 (P j) v) (P j) (N 1) 13 (P k) = C 13 (P k) - 1 ∧ ¬ rcLoop (stM (stM q.1 13 (P j) (q.1 13 (P j) - 1)) 14 (P j) v) (P j) (N 1) 13 (P k) ≤ 0)
        rw [k14, k13]
        by_cases e : k = j
        · rw [e, st_at]
          exact Or.inl v23
        · have h9 := hp.2.1 k j (by omega) hj4
          rw [st_off _ _ _ (by omega), st_off _ _ _ (by omega)]
          exact g k (by omega)
    unfold lvG goneStep
    rw [hdue, if_neg n2]
    by_cases c1 : B.1 12 (P j) = 0
    · rw [if_pos c1, if_pos (by rw [decide_eq_true (w1.mpr (by rw [e12]; exact c1))]; rfl)]
      exact left
    · have c1' : ¬ q.1 12 (P j) ≤ 0 := fun z => c1 (by rw [← e12]; exact w1.mp z)
      rw [if_neg c1]
      by_cases c2 : B.1 13 (P j) = B.1 19 0
      · rw [if_pos c2, if_pos (by rw [decide_eq_true (w2.mpr c2), Bool.or_true])]
        exact left
      · have c2' : ¬ q.1 13 (P j) - 1 ≤ 0 := fun z => c2 (w2.mp z)
        rw [if_neg c2, if_neg (by rw [decide_eq_false c1', decide_eq_false c2']; decide)]
        refine ⟨J1, b, fun u hu2 => c u (by omega), d, ⟨e13, e19, e21, e16⟩, fun k hk hk4 => ?_, fun k hk => ?_⟩
        · show stM q.1 13 (P j) (q.1 13 (P j) - 1) 13 (P k) = _
          have h9 := hp.2.1 j k (by omega) hk4
          rw [st_off _ _ _ (by omega)]
          exact f k (by omega) hk4
        · show (B.1 14 (P k) = 2 ∨ B.1 14 (P k) = 3) ∨ (B.1 14 (P k) = M 14 (P k) ∧ stM q.1 13 (P j) (q.1 13 (P j) - 1) 13 (P k) = C 13 (P k) - 1 ∧ ¬ stM q.1 13 (P j) (q.1 13 (P j) - 1) 13 (P k) ≤ 0)
          by_cases e : k = j
          · rw [e, st_at]
            exact Or.inr ⟨eu, by rw [ex], c2'⟩
          · have h9 := hp.2.1 k j (by omega) hj4
            rw [st_off _ _ _ (by omega)]
            exact g k (by omega)
  · intro t j ht3 hn hR
    show LvR N P C M (t + 1) j (lvLoop (N 1) P C j) (goneStep (goneLoop (scM M 19 (M 19 0 + 1)) (N 1) t) (N 1) t)
    obtain ⟨a, b, c, d, e, f, g⟩ := hR
    have e1 := c t (Nat.le_refl _)
    have h2 : 2 ≤ (goneLoop (scM M 19 (M 19 0 + 1)) (N 1) t).1 14 t := by
      rw [e1]
      rcases hp.2.2 t ht3 with ⟨k, hk, e2⟩ | e2 | e2
      · exact absurd e2 (hn k hk)
      · rw [e2]; decide
      · rw [e2]; decide
    unfold goneStep
    rw [if_pos h2]
    exact ⟨a, b, fun u hu2 => c u (by omega), d, e, f, g⟩
theorem fg_spec {C : MS} : ∀ (i : Nat) (q : (Nat → Nat) × Nat), i ≤ q.2 → (∀ j k, j < k → k < q.2 → q.1 j < q.1 k) → (∀ j, i ≤ j → j < q.2 → leftG C (q.1 j) = 0) →
    (∀ j k, j < k → k < (fgG C i q).2 → (fgG C i q).1 j < (fgG C i q).1 k) ∧ (∀ j, j < (fgG C i q).2 → leftG C ((fgG C i q).1 j) = 0) ∧ (∀ j, j < (fgG C i q).2 → ∃ k, k < q.2 ∧ q.1 k = (fgG C i q).1 j) ∧ ∀ j, j < q.2 → leftG C (q.1 j) = 0 → ∃ k, k < (fgG C i q).2 ∧ (fgG C i q).1 k = q.1 j
  | 0, q, _, h1, h2 => ⟨h1, fun j hj => h2 j (Nat.zero_le _) hj, fun j hj => ⟨j, hj, rfl⟩, fun j hj _ => ⟨j, hj, rfl⟩⟩
  | i + 1, q, hi, h1, h2 => by
    unfold fgG
    by_cases hc : leftG C (q.1 i) = 0
    · rw [if_pos hc]
      refine fg_spec i q (by omega) h1 (fun j hj hj2 => ?_)
      by_cases e : j = i
      · rw [e]; exact hc
      · exact h2 j (by omega) hj2
    · rw [if_neg hc]
      have r1 : ∀ j, j < i → remEl q.1 i j = q.1 j := fun j hj => by simp [remEl, hj]
      have r2 : ∀ j, i ≤ j → remEl q.1 i j = q.1 (j + 1) := fun j hj => by
        have : ¬ j < i := by omega
        simp [remEl, this]
      obtain ⟨s1, s2, s3, s4⟩ := fg_spec (C := C) i (remEl q.1 i, q.2 - 1) (by show i ≤ q.2 - 1; omega) (fun j k hjk hk => by
        have hk' : k < q.2 - 1 := hk
        show remEl q.1 i j < remEl q.1 i k
        rcases Nat.lt_or_ge j i with a | a <;> rcases Nat.lt_or_ge k i with b | b
        · rw [r1 j a, r1 k b]; exact h1 j k hjk (by omega)
        · rw [r1 j a, r2 k b]; exact h1 j (k + 1) (by omega) (by omega)
        · omega
        · rw [r2 j a, r2 k b]; exact h1 (j + 1) (k + 1) (by omega) (by omega)) (fun j hj hj2 => by
        have hj' : j < q.2 - 1 := hj2
        show leftG C (remEl q.1 i j) = 0
        rw [r2 j hj]
        exact h2 (j + 1) (by omega) (by omega))
      refine ⟨s1, s2, fun j hj => ?_, fun j hj hl => ?_⟩
      · obtain ⟨k, hk, e⟩ := s3 j hj
        have hk' : k < q.2 - 1 := hk
        rcases Nat.lt_or_ge k i with a | a
        · exact ⟨k, by omega, (r1 k a).symm.trans e⟩
        · exact ⟨k + 1, by omega, (r2 k a).symm.trans e⟩
      · rcases Nat.lt_or_ge j i with a | a
        · obtain ⟨k, hk, e⟩ := s4 j (by show j < q.2 - 1; omega) (by show leftG C (remEl q.1 i j) = 0; rw [r1 j a]; exact hl)
          exact ⟨k, hk, e.trans (r1 j a)⟩
        · have hji : j ≠ i := fun z => hc (z ▸ hl)
          obtain ⟨k, hk, e⟩ := s4 (j - 1) (by show j - 1 < q.2 - 1; omega) (by
            show leftG C (remEl q.1 i (j - 1)) = 0
            rw [r2 (j - 1) (by omega), show j - 1 + 1 = j by omega]; exact hl)
          refine ⟨k, hk, e.trans ?_⟩
          show remEl q.1 i (j - 1) = q.1 j
          rw [r2 (j - 1) (by omega), show j - 1 + 1 = j by omega]
/-- the state of the one is the other's -/
def HI (N P : Nat → Nat) (C M : MS) : Prop := WC N P C ∧ J N C M ∧ Pl N P (M 14) ∧ Pt N P (C 13) (M 13) (M 19 0) ∧ C 16 0 = M 19 0
theorem left_01 {C : MS} {t : Nat} : leftG C t = 0 ↔ ¬ (C 14 t = 2 ∨ C 14 t = 3) := by
  unfold leftG
  by_cases h : C 14 t = 2
  · rw [if_pos h]
    exact ⟨fun z => absurd z (by decide), fun z => absurd (Or.inl h) z⟩
  · rw [if_neg h]
    by_cases h3 : C 14 t = 3
    · rw [if_pos h3]
      exact ⟨fun z => absurd z (by decide), fun z => absurd (Or.inr h3) z⟩
    · rw [if_neg h3]
      exact ⟨fun _ z => z.elim h h3, fun _ => rfl⟩
theorem sub_one {a b : Int32} : a - b - 1 = a - (b + 1) := by rw [Int32.sub_sub]
theorem hour_eq {N P : Nat → Nat} {C M : MS} (h : HI N P C M) : HI (va_up N 4 (hrP N P C).2) (hrP N P C).1 (hrC N P C) (hourF M (N 1) (N 2) (N 3)).1 ∧ (hr2 N P C).2 = (hourF M (N 1) (N 2) (N 3)).2 ∧ (∀ u, (hourF M (N 1) (N 2) (N 3)).1 14 u = 0 → M 14 u = 0) ∧ (hourF M (N 1) (N 2) (N 3)).1 21 = M 21 := by
  obtain ⟨hw, hj, hp, ht, hc⟩ := h
  have hN3 : N 3 ≤ 600 := by have := hw.1.2.2.2.1; omega
  -- rest
  have j1 := hj.rst (N 2) (Nat.le_refl _)
  have kC1 := rst_kp (Kp.rf (C := C)) (N 2)
  have kM1 := rest_kp (Kp.rf (C := M)) (N 2)
  have hp1 : Pl N P (restLoop M (N 2) 14) := by rw [kM1.2.1]; exact hp
  -- buoys
  obtain ⟨j2, d2⟩ := buoys j1 hp1
  have bC2 := by_kb (P := P) (q := (rstLoop C (N 2), cntG (rstLoop C (N 2)) P 1 (N 4))) (C := rstLoop C (N 2)) ⟨rfl, rfl, rfl, rfl⟩ (N 4)
  have bM2 := buoy_kb (M := restLoop M (N 2)) (M1 := restLoop M (N 2)) ⟨rfl, rfl, rfl, rfl⟩ (N 3) (N 3)
  -- work
  have j3 := j2.wkLoop (N 1) (Nat.le_refl _)
  have kC3 := wkLoop_kp (Kp.rf (C := (byLoop P (rstLoop C (N 2), cntG (rstLoop C (N 2)) P 1 (N 4)) (N 4)).1)) (N 1)
  have kM3 := workLoop_kp (Kp.rf (C := buoyLoop (restLoop M (N 2)) (N 3) (N 3))) (N 1)
  have eM : workLoop (buoyLoop (restLoop M (N 2)) (N 3) (N 3)) (N 1) = midF M (N 1) (N 2) (N 3) := rfl
  have eC : wkLoop (byLoop P (rstLoop C (N 2), cntG (rstLoop C (N 2)) P 1 (N 4)) (N 4)).1 (N 1) = hr1 N P C := rfl
  rw [eM, eC] at j3
  rw [eM] at kM3
  rw [eC] at kC3
  have m14 : ∀ u, midF M (N 1) (N 2) (N 3) 14 u = M 14 u ∨ (M 14 u = 0 ∧ midF M (N 1) (N 2) (N 3) 14 u = 1) := fun u => by
    rw [congrFun kM3.2.1 u]
    have h9 := d2 u
    rw [congrFun kM1.2.1 u] at h9
    exact h9
  have m13 : midF M (N 1) (N 2) (N 3) 13 = M 13 := kM3.1.trans (bM2.1.trans kM1.1)
  have m19 : midF M (N 1) (N 2) (N 3) 19 = M 19 := kM3.2.2.2.1.trans (bM2.2.2.1.trans kM1.2.2.2.1)
  have m21 : midF M (N 1) (N 2) (N 3) 21 = M 21 := kM3.2.2.2.2.trans (bM2.2.2.2.trans kM1.2.2.2.2)
  have c13 : hr1 N P C 13 = C 13 := kC3.1.trans (bC2.1.trans kC1.1)
  have c16 : hr1 N P C 16 = C 16 := kC3.2.2.1.trans (bC2.2.1.trans kC1.2.2.1)
  have hp3 : Pl N P (midF M (N 1) (N 2) (N 3) 14) := by
    refine ⟨fun j hj4 => ⟨(hp.1 j hj4).1, ?_⟩, hp.2.1, fun t ht3 => ?_⟩
    · rcases m14 (P j) with z | ⟨-, z⟩
      · rw [z]; exact (hp.1 j hj4).2
      · exact Or.inr z
    · rcases hp.2.2 t ht3 with z | z | z
      · exact Or.inl z
      · rcases m14 t with y | ⟨y, -⟩
        · exact Or.inr (Or.inl (y.trans z))
        · rw [z] at y; exact absurd y (by decide)
      · rcases m14 t with y | ⟨y, -⟩
        · exact Or.inr (Or.inr (y.trans z))
        · rw [z] at y; exact absurd y (by decide)
  -- leaving
  have hl := lvs j3 hp3 (by rw [c13, m13, m19]; exact ht) hN3
  have eG : goneLoop (scM (midF M (N 1) (N 2) (N 3)) 19 (midF M (N 1) (N 2) (N 3) 19 0 + 1)) (N 1) (N 3) = hourF M (N 1) (N 2) (N 3) := rfl
  have eL : lvLoop (N 1) P (hr1 N P C) (N 4) = hr2 N P C := rfl
  rw [eG, eL] at hl
  obtain ⟨j4, b4, -, d4, ⟨q13, q19, q21, q16⟩, -, g4⟩ := hl
  have e14 : (hr2 N P C).1 14 = (hourF M (N 1) (N 2) (N 3)).1 14 := j4.1.1 14 rfl
  obtain ⟨s1, s2, s3, s4⟩ := fg_spec (C := (hr2 N P C).1) (N 4) (P, N 4) (Nat.le_refl _) hp.2.1 (fun j hj1 hj2 => absurd hj2 (by show ¬ j < N 4; omega))
  have eF : fgG (hr2 N P C).1 (N 4) (P, N 4) = hrP N P C := rfl
  rw [eF] at s1 s2 s3 s4
  have eN4 : va_up N 4 (hrP N P C).2 4 = (hrP N P C).2 := by simp [va_up]
  refine ⟨⟨hw.hour, ⟨j4.1.scl _, j4.2⟩, ⟨fun j hj4 => ?_, fun j k hjk hk => s1 j k hjk (by rw [eN4] at hk; exact hk), fun t ht3 => ?_⟩, fun j hj4 => ?_, ?_⟩, b4, fun u hu => ?_, q21.trans m21⟩
  · rw [eN4] at hj4
    obtain ⟨k, hk, e⟩ := s3 j hj4
    have hk' : k < N 4 := hk
    have e' : P k = (hrP N P C).1 j := e
    have hl := left_01.mp (s2 j hj4)
    rw [e14] at hl
    refine ⟨?_, ?_⟩
    · rw [← e']; exact (hp.1 k hk').1
    · rcases d4 ((hrP N P C).1 j) with z | z
      · rw [z, ← e']; exact (hp3.1 k hk').2
      · exact absurd z hl
  · rcases hp3.2.2 t ht3 with ⟨k, hk, e⟩ | z | z
    · by_cases hl : leftG (hr2 N P C).1 (P k) = 0
      · obtain ⟨k2, hk2, e2⟩ := s4 k hk hl
        exact Or.inl ⟨k2, by rw [eN4]; exact hk2, e2.trans e⟩
      · have h9 : (hr2 N P C).1 14 (P k) = 2 ∨ (hr2 N P C).1 14 (P k) = 3 := Classical.byContradiction (fun z => hl (left_01.mpr z))
        rw [e14, e] at h9
        exact Or.inr h9
    · rcases d4 t with y | y
      · exact Or.inr (Or.inl (y.trans z))
      · exact Or.inr y
    · rcases d4 t with y | y
      · exact Or.inr (Or.inr (y.trans z))
      · exact Or.inr y
  · rw [eN4] at hj4
    obtain ⟨k, hk, e⟩ := s3 j hj4
    have hk' : k < N 4 := hk
    have e' : P k = (hrP N P C).1 j := e
    have hl := left_01.mp (s2 j hj4)
    rw [e14, ← e'] at hl
    obtain ⟨t1, t2, t3⟩ := ht k hk'
    rcases g4 k hk' with z | ⟨-, z, z0⟩
    · exact absurd z hl
    · have ec : hrC N P C 13 = (hr2 N P C).1 13 := rfl
      rw [ec, ← e', z, c13, q13, q19, m13, m19]
      rw [z, c13] at z0
      obtain ⟨z1, z2⟩ := pat1 t2 t3 z0
      exact ⟨by rw [t1, sub_one], z1, z2⟩
  · show (hr2 N P C).1 16 0 + 1 = _
    rw [q16, c16, hc, q19, m19]
  · rcases d4 u with z | z | z
    · rw [z] at hu
      rcases m14 u with y | ⟨y, y2⟩
      · rw [← y]; exact hu
      · exact y
    · rw [z] at hu; exact absurd hu (by decide)
    · rw [z] at hu; exact absurd hu (by decide)
theorem hours_eq {N P : Nat → Nat} {C M : MS} (h : HI N P C M) : ∀ n, HI (va_up N 4 (hsG N P C n).1.1.2) (hsG N P C n).1.1.1 (hsG N P C n).1.2 (hoursLoop M (N 1) (N 2) (N 3) n).1 ∧ (hsG N P C n).2 = (hoursLoop M (N 1) (N 2) (N 3) n).2 ∧ (∀ u, (hoursLoop M (N 1) (N 2) (N 3) n).1 14 u = 0 → M 14 u = 0) ∧ (hoursLoop M (N 1) (N 2) (N 3) n).1 21 = M 21
  | 0 => by
    refine ⟨?_, rfl, fun _ h => h, rfl⟩
    show HI (va_up N 4 (N 4)) P C M
    rw [va_up4]
    exact h
  | n + 1 => by
    obtain ⟨h1, h2, h3, h4⟩ := hours_eq h n
    obtain ⟨g1, g2, g3, g4⟩ := hour_eq h1
    rw [bx_uu] at g1
    refine ⟨g1, ?_, fun u hu => h3 u (g3 u hu), g4.trans h4⟩
    show (hsG N P C n).2 + (hr2 (va_up N 4 (hsG N P C n).1.1.2) (hsG N P C n).1.1.1 (hsG N P C n).1.2).2 = (hoursLoop M (N 1) (N 2) (N 3) n).2 + (hourF (hoursLoop M (N 1) (N 2) (N 3) n).1 (N 1) (N 2) (N 3)).2
    rw [h2, g2]
    rfl
