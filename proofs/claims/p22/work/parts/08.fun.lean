/-! the reference's methods as functions of its state -/
abbrev nT (x : Int32) : Nat := x.toNatClampNeg
def isF (x y : Int32) : Int32 := if x < 0 then 0 else if y ≤ x then 0 else 1
def leastF (x y : Int32) : Int32 := if y ≤ x then y else x
def manyF (M : MS) (how : Int32) : Nat → Int32
  | 0 => 0
  | n + 1 => manyF M how n + (if M 14 n = how then 1 else 0)
def hulkT (M : MS) (v : Int32) : Int32 := if v < 0 then 1 else if v ≤ 20000 then (if M 15 0 = 3 then 2 else 0) else 1
def hulkF (M : MS) (v : Int32) : MS := if hulkT M v = 0 then scM (stM (scM M 21 0) 0 (nT (M 15 0)) v) 15 (M 15 0 + 1) else scM M 21 (hulkT M v)
def lighterT (M : MS) (v : Int32) : Int32 := if v < 20 then 1 else if v ≤ 500 then (if M 16 0 = 6 then 2 else if M 15 0 = 0 then 2 else 0) else 1
def lighterF (M : MS) (v : Int32) : MS := if lighterT M v = 0 then scM (stM (stM (scM M 21 0) 1 (nT (M 16 0)) v) 6 (nT (M 16 0)) (-1)) 16 (M 16 0 + 1) else scM M 21 (lighterT M v)
def gangT (M : MS) (v : Int32) : Int32 := if v < 1 then 1 else if v ≤ 20 then (if M 17 0 = 6 then 2 else 0) else 1
def gangF (M : MS) (v : Int32) : MS := if gangT M v = 0 then scM (stM (scM M 21 0) 9 (nT (M 17 0)) v) 17 (M 17 0 + 1) else scM M 21 (gangT M v)
def steamerT (M : MS) (ns : Nat) (v w : Int32) : Int32 := if v < 1 then 1 else if 9999 < v then 1 else if w < 1 then 1 else if w ≤ 500 then (if manyF M 0 ns = 8 then 2 else 0) else 1
def steamerF (M : MS) (ns : Nat) (v w : Int32) : MS := if steamerT M ns v w = 0 then scM (stM (stM (scM M 21 0) 12 (nT (M 18 0)) v) 13 (nT (M 18 0)) (M 19 0 + w)) 18 (M 18 0 + 1) else scM M 21 (steamerT M ns v w)
/-- 1 where the gang is aboard a lighter, or rests -/
def busyF (M : MS) (g : Nat) : Nat → Int32
  | 0 => if M 11 g ≤ 0 then 0 else 1
  | n + 1 => if busyF M g n = 0 then (if M 6 n = nI g then 1 else 0) else 1
def endF (M : MS) (i : Nat) : MS := if M 10 (nT (M 6 i)) < 8 then stM (stM M 6 i (-1)) 4 i 0 else stM (stM (stM (stM M 6 i (-1)) 4 i 0) 11 (nT (M 6 i)) 8) 10 (nT (M 6 i)) 0
def shovF (M : MS) (i : Nat) (most : Int32) : Int32 := if 1 ≤ 4 * M 9 (nT (M 6 i)) - M 3 i / 5 then leastF (4 * M 9 (nT (M 6 i)) - M 3 i / 5) most else leastF 1 most
def turnF (M : MS) (i : Nat) : MS := stM (stM M 4 i 3) 8 i 1
def fillF (M : MS) (i h : Nat) (mv : Int32) : MS := stM (stM (stM M 0 h (M 0 h - mv)) 2 i (M 2 i + (mv - mv / 50))) 3 i (M 3 i + mv / 50)
def castF (M : MS) (i : Nat) : MS := if M 2 i ≤ 0 then endF M i else stM (stM M 4 i 1) 8 i 2
def atHulkF (M : MS) (i : Nat) : MS := if M 0 (nT (M 5 i)) ≤ 0 then castF M i else if M 1 i - M 2 i ≤ 0 then castF M i else fillF M i (nT (M 5 i)) (shovF M i (leastF (M 0 (nT (M 5 i))) (M 1 i - M 2 i)))
def pourF (M : MS) (i t : Nat) (mv : Int32) : MS := scM (stM (stM (stM M 2 i (M 2 i - mv)) 3 i (M 3 i + mv / 50)) 12 t (M 12 t - (mv - mv / 50))) 20 (M 20 0 + (mv - mv / 50))
def atSteamerF (M : MS) (i : Nat) : MS := if M 2 i = 0 then turnF M i else if M 14 (nT (M 7 i)) = 1 then pourF M i (nT (M 7 i)) (shovF M i (leastF (M 2 i) (M 12 (nT (M 7 i))))) else M
def goF (M : MS) (i : Nat) : MS := if M 8 i ≤ 0 then (if M 4 i = 1 then stM M 4 i 2 else endF M i) else M
def goOnF (M : MS) (i : Nat) : MS := goF (stM M 8 i (M 8 i - 1)) i
def placeF (M : MS) (i : Nat) : MS := if M 4 i = 0 then atHulkF M i else if M 4 i = 2 then atSteamerF M i else goOnF M i
def workF (M : MS) (i : Nat) : MS := placeF (stM M 10 (nT (M 6 i)) (M 10 (nT (M 6 i)) + 1)) i
def leaveStep (M : MS) (s i : Nat) : MS := if M 6 i = -1 then M else if M 7 i = nI s then (if M 4 i = 0 then endF M i else if 3 ≤ M 4 i then M else turnF M i) else M
def leaveLoop (M : MS) (s : Nat) : Nat → MS
  | 0 => M
  | n + 1 => leaveStep (leaveLoop M s n) s n
def leaveF (M : MS) (s nl : Nat) : MS := leaveLoop (stM M 14 s (if M 12 s = 0 then 2 else 3)) s nl
def restLoop (M : MS) : Nat → MS
  | 0 => M
  | n + 1 => stM (restLoop M n) 11 n (restLoop M n 11 n - (if restLoop M n 11 n ≤ 0 then 0 else 1))
def buoyStep (M : MS) (ns i : Nat) : MS := stM M 14 i (if M 14 i = 0 then (if 2 ≤ manyF M 1 ns then M 14 i else 1) else M 14 i)
def buoyLoop (M : MS) (ns : Nat) : Nat → MS
  | 0 => M
  | n + 1 => buoyStep (buoyLoop M ns n) ns n
def workLoop (M : MS) : Nat → MS
  | 0 => M
  | n + 1 => if workLoop M n 6 n = -1 then workLoop M n else workF (workLoop M n) n
/-- steamer i leaves, if it is time: the state, how many so far -/
def goneStep (q : MS × Int32) (nl i : Nat) : MS × Int32 := if 2 ≤ q.1 14 i then q else if q.1 12 i = 0 then (leaveF q.1 i nl, q.2 + 1) else if q.1 13 i = q.1 19 0 then (leaveF q.1 i nl, q.2 + 1) else q
def goneLoop (M : MS) (nl : Nat) : Nat → MS × Int32
  | 0 => (M, 0)
  | n + 1 => goneStep (goneLoop M nl n) nl n
def midF (M : MS) (nl ng ns : Nat) : MS := workLoop (buoyLoop (restLoop M ng) ns ns) nl
def hourF (M : MS) (nl ng ns : Nat) : MS × Int32 := goneLoop (scM (midF M nl ng ns) 19 (midF M nl ng ns 19 0 + 1)) nl ns
def hoursLoop (M : MS) (nl ng ns : Nat) : Nat → MS × Int32
  | 0 => (M, 0)
  | n + 1 => ((hourF (hoursLoop M nl ng ns n).1 nl ng ns).1, (hoursLoop M nl ng ns n).2 + (hourF (hoursLoop M nl ng ns n).1 nl ng ns).2)
/-- the numbers, the homes and the bounds stay; an order may end -/
def Keep (M M1 : MS) : Prop := M1 15 = M 15 ∧ M1 16 = M 16 ∧ M1 17 = M 17 ∧ M1 18 = M 18 ∧ M1 5 = M 5 ∧ M1 7 = M 7 ∧ ∀ i, M1 6 i = M 6 i ∨ M1 6 i = -1
theorem Keep.rf {M : MS} : Keep M M := ⟨rfl, rfl, rfl, rfl, rfl, rfl, fun _ => Or.inl rfl⟩
theorem Keep.tr {M M1 M2 : MS} (h : Keep M M1) (h2 : Keep M1 M2) : Keep M M2 :=
  ⟨h2.1.trans h.1, h2.2.1.trans h.2.1, h2.2.2.1.trans h.2.2.1, h2.2.2.2.1.trans h.2.2.2.1, h2.2.2.2.2.1.trans h.2.2.2.2.1, h2.2.2.2.2.2.1.trans h.2.2.2.2.2.1, fun i => by
    rcases h2.2.2.2.2.2.2 i with e | e
    · rcases h.2.2.2.2.2.2 i with e2 | e2
      · exact Or.inl (e.trans e2)
      · exact Or.inr (e.trans e2)
    · exact Or.inr e⟩
theorem Keep.st {M M1 : MS} (h : Keep M M1) {k i : Nat} {x : Int32} (hk : k ≠ 15 ∧ k ≠ 16 ∧ k ≠ 17 ∧ k ≠ 18 ∧ k ≠ 5 ∧ k ≠ 7 ∧ k ≠ 6) : Keep M (stM M1 k i x) := by
  have e : ∀ j, j ≠ k → stM M1 k i x j = M1 j := fun j hj => by simp [stM, va_up, hj]
  obtain ⟨h1, h2, h3, h4, h5, h6, h7⟩ := h
  obtain ⟨k1, k2, k3, k4, k5, k6, k7⟩ := hk
  exact ⟨(e 15 k1.symm).trans h1, (e 16 k2.symm).trans h2, (e 17 k3.symm).trans h3, (e 18 k4.symm).trans h4, (e 5 k5.symm).trans h5, (e 7 k6.symm).trans h6, fun i => by rw [e 6 k7.symm]; exact h7 i⟩
theorem Keep.sc {M M1 : MS} (h : Keep M M1) {k : Nat} {x : Int32} (hk : k ≠ 15 ∧ k ≠ 16 ∧ k ≠ 17 ∧ k ≠ 18 ∧ k ≠ 5 ∧ k ≠ 7 ∧ k ≠ 6) : Keep M (scM M1 k x) := by
  have e : ∀ j, j ≠ k → scM M1 k x j = M1 j := fun j hj => by simp [scM, va_up, hj]
  obtain ⟨h1, h2, h3, h4, h5, h6, h7⟩ := h
  obtain ⟨k1, k2, k3, k4, k5, k6, k7⟩ := hk
  exact ⟨(e 15 k1.symm).trans h1, (e 16 k2.symm).trans h2, (e 17 k3.symm).trans h3, (e 18 k4.symm).trans h4, (e 5 k5.symm).trans h5, (e 7 k6.symm).trans h6, fun i => by rw [e 6 k7.symm]; exact h7 i⟩
theorem Keep.free {M M1 : MS} (h : Keep M M1) {i : Nat} : Keep M (stM M1 6 i (-1)) := by
  have e : ∀ j, j ≠ 6 → stM M1 6 i (-1) j = M1 j := fun j hj => by simp [stM, va_up, hj]
  obtain ⟨h1, h2, h3, h4, h5, h6, h7⟩ := h
  refine ⟨(e 15 (by decide)).trans h1, (e 16 (by decide)).trans h2, (e 17 (by decide)).trans h3, (e 18 (by decide)).trans h4, (e 5 (by decide)).trans h5, (e 7 (by decide)).trans h6, fun j => ?_⟩
  by_cases hj : j = i
  · right; simp [stM, va_up, upd, hj]
  · rw [show stM M1 6 i (-1) 6 j = M1 6 j by simp [stM, va_up, upd, hj]]
    exact h7 j
theorem end_keep {M M1 : MS} (h : Keep M M1) (i : Nat) : Keep M (endF M1 i) := by
  unfold endF
  split
  · exact (h.free).st (by decide)
  · exact (((h.free).st (by decide)).st (by decide)).st (by decide)
theorem turn_keep {M M1 : MS} (h : Keep M M1) (i : Nat) : Keep M (turnF M1 i) := (h.st (by decide)).st (by decide)
theorem cast_keep {M M1 : MS} (h : Keep M M1) (i : Nat) : Keep M (castF M1 i) := by
  unfold castF
  split
  · exact end_keep h i
  · exact (h.st (by decide)).st (by decide)
theorem fill_keep {M M1 : MS} (h : Keep M M1) (i j : Nat) (x : Int32) : Keep M (fillF M1 i j x) := ((h.st (by decide)).st (by decide)).st (by decide)
theorem atHulk_keep {M M1 : MS} (h : Keep M M1) (i : Nat) : Keep M (atHulkF M1 i) := by
  unfold atHulkF
  split
  · exact cast_keep h i
  · split
    · exact cast_keep h i
    · exact fill_keep h _ _ _
theorem atSteamer_keep {M M1 : MS} (h : Keep M M1) (i : Nat) : Keep M (atSteamerF M1 i) := by
  unfold atSteamerF
  split
  · exact turn_keep h i
  · split
    · exact (((h.st (by decide)).st (by decide)).st (by decide)).sc (by decide)
    · exact h
theorem goOn_keep {M M1 : MS} (h : Keep M M1) (i : Nat) : Keep M (goOnF M1 i) := by
  have h2 : Keep M (stM M1 8 i (M1 8 i - 1)) := h.st (by decide)
  unfold goOnF goF
  split
  · split
    · exact h2.st (by decide)
    · exact end_keep h2 i
  · exact h2
theorem work_keep {M M1 : MS} (h : Keep M M1) (i : Nat) : Keep M (workF M1 i) := by
  have h2 : Keep M (stM M1 10 (nT (M1 6 i)) (M1 10 (nT (M1 6 i)) + 1)) := h.st (by decide)
  unfold workF placeF
  split
  · exact atHulk_keep h2 i
  · split
    · exact atSteamer_keep h2 i
    · exact goOn_keep h2 i
theorem leaveStep_keep {M M1 : MS} (h : Keep M M1) (s i : Nat) : Keep M (leaveStep M1 s i) := by
  unfold leaveStep
  split
  · exact h
  · split
    · split
      · exact end_keep h i
      · split
        · exact h
        · exact turn_keep h i
    · exact h
theorem leaveLoop_keep {M M1 : MS} (h : Keep M M1) (s : Nat) : ∀ n, Keep M (leaveLoop M1 s n)
  | 0 => h
  | n + 1 => leaveStep_keep (leaveLoop_keep h s n) s n
theorem leave_keep {M M1 : MS} (h : Keep M M1) (s nl : Nat) : Keep M (leaveF M1 s nl) := leaveLoop_keep (h.st (by decide)) s nl
theorem rest_keep {M M1 : MS} (h : Keep M M1) : ∀ n, Keep M (restLoop M1 n)
  | 0 => h
  | n + 1 => (rest_keep h n).st (by decide)
theorem buoy_keep {M M1 : MS} (h : Keep M M1) (ns : Nat) : ∀ n, Keep M (buoyLoop M1 ns n)
  | 0 => h
  | n + 1 => (buoy_keep h ns n).st (by decide)
theorem workLoop_keep {M M1 : MS} (h : Keep M M1) : ∀ n, Keep M (workLoop M1 n)
  | 0 => h
  | n + 1 => by
    unfold workLoop
    split
    · exact workLoop_keep h n
    · exact work_keep (workLoop_keep h n) n
theorem gone_keep {M M1 : MS} (h : Keep M M1) (nl : Nat) : ∀ n, Keep M (goneLoop M1 nl n).1
  | 0 => h
  | n + 1 => by
    unfold goneLoop goneStep
    split
    · exact gone_keep h nl n
    · split
      · exact leave_keep (gone_keep h nl n) _ _
      · split
        · exact leave_keep (gone_keep h nl n) _ _
        · exact gone_keep h nl n
theorem hour_keep {M M1 : MS} (h : Keep M M1) (nl ng ns : Nat) : Keep M (hourF M1 nl ng ns).1 := gone_keep ((workLoop_keep (buoy_keep (rest_keep h ng) ns ns) nl).sc (by decide)) nl ns
theorem hours_keep {M M1 : MS} (h : Keep M M1) (nl ng ns : Nat) : ∀ n, Keep M (hoursLoop M1 nl ng ns n).1
  | 0 => h
  | n + 1 => hour_keep (hours_keep h nl ng ns n) nl ng ns
def orderT (M : MS) (nl : Nat) (v w u : Int32) : Int32 := if isF v (M 16 0) = 0 then 1 else if isF w (M 17 0) = 0 then 1 else if isF u (M 18 0) = 0 then 1 else if M 6 (nT v) = -1 then (if busyF M (nT w) nl = 0 then (if M 14 (nT u) ≤ 1 then 0 else 2) else 2) else 2
def orderF (M : MS) (nl : Nat) (v w u : Int32) : MS := if orderT M nl v w u = 0 then stM (stM (scM M 21 0) 6 (nT v) w) 7 (nT v) u else scM M 21 (orderT M nl v w u)
def shiftT (M : MS) (v w : Int32) : Int32 := if isF v (M 16 0) = 0 then 1 else if isF w (M 15 0) = 0 then 1 else if M 6 (nT v) = -1 then 0 else 2
def shiftF (M : MS) (v w : Int32) : MS := if shiftT M v w = 0 then stM (scM M 21 0) 5 (nT v) w else scM M 21 (shiftT M v w)
def sweepT (M : MS) (nl : Nat) (v w : Int32) : Int32 := if isF v (M 16 0) = 0 then 1 else if isF w (M 17 0) = 0 then 1 else if M 6 (nT v) = -1 then (if busyF M (nT w) nl = 0 then 0 else 2) else 2
def sweepF (M : MS) (nl : Nat) (v w : Int32) : MS := if sweepT M nl v w = 0 then stM (stM (stM (stM (scM M 21 0) 0 (nT (M 5 (nT v))) (M 0 (nT (M 5 (nT v))) + M 3 (nT v))) 3 (nT v) 0) 11 (nT w) 8) 10 (nT w) 0 else scM M 21 (sweepT M nl v w)
def toldF (M : MS) (x y : Int32) : MS := scM M 21 (if isF x y = 0 then 1 else 0)
def outGo (M : MS) : Nat → Nat → Int32 → Int32
  | 0, _, _ => -1
  | n + 1, i, left => if M 14 i = 0 then (if left = 0 then nI i else outGo M n (i + 1) (left - 1)) else outGo M n (i + 1) (left - 0)
def outT (v : Int32) : Int32 := if 0 ≤ v then 0 else 1
def hoursT (v : Int32) : Int32 := if v < 1 then 1 else if v ≤ 500 then 0 else 1
def hoursF (M : MS) (nl ng ns : Nat) (v : Int32) : MS × Int32 := if hoursT v = 0 then hoursLoop (scM M 21 0) nl ng ns (nT v) else (scM M 21 1, 0)
theorem busy_01 (M : MS) (g : Nat) : ∀ n, busyF M g n = 0 ∨ busyF M g n = 1
  | 0 => by
    unfold busyF
    split
    · exact Or.inl rfl
    · exact Or.inr rfl
  | n + 1 => by
    unfold busyF
    split
    · split
      · exact Or.inr rfl
      · exact Or.inl rfl
    · exact Or.inr rfl
theorem busy_nar {M : MS} {g n : Nat} {x : Int32} (h : x = busyF M g n) : narrow .boolean (.int x) = .int x := by
  rw [h]
  rcases busy_01 M g n with e | e <;> rw [e] <;> rfl
theorem is_ix {x : Int32} {y : Int32} {n : Nat} (hy : y = nI n) (hn : n < 2 ^ 31) (h : ¬ isF x y = 0) : x = nI (nT x) ∧ nT x < n := by
  subst hy
  unfold isF at h
  split at h
  · exact absurd rfl h
  · rename_i h1
    split at h
    · exact absurd rfl h
    · rename_i h2
      obtain ⟨j, hj, rfl⟩ := nI_of h1
      have e : nT (nI j) = j := nI_clamp hj
      refine ⟨by rw [e], ?_⟩
      rw [e]
      rcases Nat.lt_or_ge j n with q | q
      · exact q
      · exact absurd (nI_le q hj) h2
/-- a lighter with an order: her gang, her steamer, her home in range -/
abbrev LW (M : MS) (i : Nat) : Prop := (M 6 i = nI (nT (M 6 i)) ∧ nT (M 6 i) < 6) ∧ (M 7 i = nI (nT (M 7 i)) ∧ nT (M 7 i) < 600) ∧ (M 5 i = nI (nT (M 5 i)) ∧ nT (M 5 i) < 3)
/-- counts and places in range -/
def wfM (M : MS) (nh nl ng ns : Nat) : Prop := (M 15 0 = nI nh ∧ M 16 0 = nI nl ∧ M 17 0 = nI ng ∧ M 18 0 = nI ns) ∧ (nh ≤ 3 ∧ nl ≤ 6 ∧ ng ≤ 6 ∧ ns ≤ 600) ∧ (∀ i, M 5 i = nI (nT (M 5 i)) ∧ nT (M 5 i) < 3) ∧ ∀ i, i < nl → M 6 i = -1 ∨ (M 6 i = nI (nT (M 6 i)) ∧ nT (M 6 i) < 6) ∧ M 7 i = nI (nT (M 7 i)) ∧ nT (M 7 i) < 600
theorem wfM.keep {M M1 : MS} {nh nl ng ns : Nat} (h : wfM M nh nl ng ns) (k : Keep M M1) : wfM M1 nh nl ng ns := by
  obtain ⟨⟨h1, h2, h3, h4⟩, h5, h6, h7⟩ := h
  obtain ⟨k1, k2, k3, k4, k5, k6, k7⟩ := k
  refine ⟨⟨by rw [k1]; exact h1, by rw [k2]; exact h2, by rw [k3]; exact h3, by rw [k4]; exact h4⟩, h5, fun i => by rw [k5]; exact h6 i, fun i hi => ?_⟩
  rcases k7 i with e | e
  · rw [e, k6]; exact h7 i hi
  · exact Or.inl e
theorem wfM.lw {M : MS} {nh nl ng ns i : Nat} (h : wfM M nh nl ng ns) (hi : i < nl) (hc : ¬ M 6 i = -1) : LW M i := by
  rcases h.2.2.2 i hi with e | e
  · exact absurd e hc
  · exact ⟨e.1, e.2, h.2.2.1 i⟩
