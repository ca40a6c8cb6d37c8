/-! one more of a kind: what a list's add makes of the class's state -/
theorem LA.mono {κ : Kx} {L L1 : List Nat} {f f1 : Nat → va_E} {lo e n : Nat} {el : Nat → Nat} (h : LA κ L f lo e n el) (hL : ∀ y, y ∈ L → y ∈ L1) (hf : ∀ y, y ∈ L → f1 y = f y) : LA κ L1 f1 lo e n el := by
  obtain ⟨⟨h1, mc, h2⟩, h3⟩ := h
  refine ⟨⟨hL _ h1, mc, by rw [hf _ h1]; exact h2⟩, ?_⟩
  rcases h3 with h3 | ⟨cap, g, ⟨r1, r2, r3, r4⟩, hn, hg⟩
  · exact Or.inl h3
  · exact Or.inr ⟨cap, g, ⟨hL _ r1, by rw [hf _ r1]; exact r2, r3, fun i y hi hy => ⟨hL _ (r4 i y hi hy).1, by rw [hf _ (r4 i y hi hy).1]; exact (r4 i y hi hy).2⟩⟩, hn, hg⟩
theorem LA.congr {κ : Kx} {L : List Nat} {f : Nat → va_E} {lo e n : Nat} {el el2 : Nat → Nat} (h : LA κ L f lo e n el) (he : ∀ i, i < n → el i = el2 i) : LA κ L f lo e n el2 := by
  refine ⟨h.1, ?_⟩
  rcases h.2 with h3 | ⟨cap, g, hR, hn, hg⟩
  · exact Or.inl h3
  · exact Or.inr ⟨cap, g, hR, hn, fun i hi => by rw [← he i hi]; exact hg i hi⟩
theorem ZC.mono {κ : Kx} {x : Nat} {a : AD} {N P : Nat → Nat} {C : MS} {L0 L L1 : List Nat} {f0 f f1 : Nat → va_E} (h : ZC κ x a N P C L0 f0 L f) (hL : ∀ y, y ∈ L → y ∈ L1) (hf : ∀ y, y ∈ L → f1 y = f y) : ZC κ x a N P C L0 f0 L1 f1 := by
  obtain ⟨⟨⟨h1, h2⟩, h3, h4, h5, h6, h7, h8⟩, hr⟩ := h
  refine ⟨⟨⟨hL _ h1, by rw [hf _ h1]; exact h2⟩, fun k i hk hi => ⟨hL _ (h3 k i hk hi).1, by rw [hf _ (h3 k i hk hi).1]; exact (h3 k i hk hi).2⟩, fun i hi hc => ⟨hL _ (h4 i hi hc).1, by rw [hf _ (h4 i hi hc).1]; exact (h4 i hi hc).2⟩, h5, fun j hj => (h6 j hj).mono hL hf, h7, h8⟩, fun q hq => hL q (hr.1 q hq), fun q hq hro => ?_⟩
  rw [hf q (hr.1 q hq)]
  exact hr.2 q hq hro
theorem add_core {κ : Kx} {x : Nat} {a : AD} {N P : Nat → Nat} {C : MS} {L0 L L1 : List Nat} {f0 f f1 : Nat → va_E} (h : ZC κ x a N P C L0 f0 L f) (hTE : kTE κ ∉ L) {j w n : Nat} {el : Nat → Nat} (hj : j < 5) (hadd : AddP κ L f (a 5 j) (a 6 j) n el w L1 f1) :
    ∃ e1, LA κ L1 f1 (a 5 j) e1 (n + 1) (va_up el n w) ∧ (∀ q, q ∈ L → q ∈ L1) ∧ (∀ q ci fs, q ∈ L → f q = .inr (ci, fs) → ci ≠ 0 → f1 q = f q) ∧ (∀ j2, j2 < 5 → j2 ≠ j → LA κ L1 f1 (a 5 j2) (a 6 j2) (N j2) (elm a P j2)) ∧ Fr L0 f0 L1 f1 ∧ ∀ i i2, i < 5 → i2 < 5 → va_up (a 6) j e1 i = va_up (a 6) j e1 i2 → va_up (a 6) j e1 i = kTE κ ∨ i = i2 := by
  obtain ⟨⟨⟨h1, h2⟩, h3, h4, h5, h6, h7, h8⟩, hr⟩ := h
  obtain ⟨e1, hA, g1, g2, g3⟩ := hadd
  obtain ⟨⟨l1, lm, l2⟩, l3⟩ := h6 j hj
  have eR : a 6 j = kTE κ ∨ ∃ cap g, RO κ L f (a 6 j) cap g := by
    rcases l3 with ⟨h0, -⟩ | ⟨cap, g, hR, -, -⟩
    · exact Or.inl h0
    · exact Or.inr ⟨cap, g, hR⟩
  have neE : ∀ q ci fs, q ∈ L → f q = .inr (ci, fs) → q ≠ a 6 j := fun q ci fs hq hf z => by
    rcases eR with h0 | ⟨cap, g, hR⟩
    · exact hTE (h0 ▸ z ▸ hq)
    · have h9 := hR.2.1
      rw [← z, hf] at h9
      cases h9
  have tag : ∀ q ci fs, q ∈ L → f q = .inr (ci, fs) → ci ≠ 0 → f1 q = f q := fun q ci fs hq hf hc => g2 q hq (fun z => by
    rw [z, l2] at hf
    simp only [lC, Sum.inr.injEq, Prod.mk.injEq] at hf
    exact hc hf.1.symm) (neE q ci fs hq hf)
  refine ⟨e1, hA, g1, tag, fun j2 hj2 hne => ?_, ⟨fun q hq => g1 q (hr.1 q hq), fun q hq hro => ?_⟩, fun i i2 hi hi2 hee => ?_⟩
  · obtain ⟨⟨q1, mc, q2⟩, q3⟩ := h6 j2 hj2
    have hne5 : a 5 j2 ≠ a 5 j := fun z => hne (h7 j2 j hj2 hj z)
    refine ⟨⟨g1 _ q1, mc, ?_⟩, ?_⟩
    · rw [g2 _ q1 hne5 (neE _ _ _ q1 q2)]
      exact q2
    · rcases q3 with q3 | ⟨cap2, gg, hR2, hn2, hg2⟩
      · exact Or.inl q3
      · refine Or.inr ⟨cap2, gg, ⟨g1 _ hR2.1, ?_, hR2.2.2.1, fun i y hi hy => ?_⟩, hn2, hg2⟩
        · rw [g2 (a 6 j2) hR2.1 (fun z => by have h9 := hR2.2.1; rw [z, l2] at h9; cases h9) (fun z => by
            rcases h8 j2 j hj2 hj z with q | q
            · exact hTE (q ▸ hR2.1)
            · exact hne q)]
          exact hR2.2.1
        · obtain ⟨y1, ci, fs, q, y2, y3, y4⟩ := hR2.2.2.2 i y hi hy
          have hci : ci ≠ 0 := fun z => by
            subst z
            exact isEl_n0 ⟨0, fs, q, rfl, y3, y4⟩
          refine ⟨g1 _ y1, ?_⟩
          rw [tag y ci fs y1 y2 hci]
          exact ⟨ci, fs, q, y2, y3, y4⟩
  · have e3 := hr.2 q hq hro
    rw [g2 q (hr.1 q hq) (fun z => by rw [← e3, z, l2] at hro; cases hro) (fun z => by
      rcases eR with h0 | ⟨cap, g, hR⟩
      · exact hTE (h0 ▸ z ▸ hr.1 q hq)
      · rw [← e3, z, hR.2.1] at hro
        cases hro)]
    exact e3
  · have key : ∀ i2, i2 < 5 → i2 ≠ j → e1 = a 6 i2 → e1 = kTE κ := fun i2 hi2 hne z => by
      rcases g3 with g3 | ⟨g4, g5⟩
      · rw [g3] at z
        rcases h8 j i2 hj hi2 z with q | q
        · rw [g3]; exact q
        · exact absurd q.symm hne
      · rcases (h6 i2 hi2).2 with ⟨h0, -⟩ | ⟨cap, g, hR, -, -⟩
        · rw [z]; exact h0
        · exact absurd (z ▸ hR.1) g4
    by_cases hij : i = j
    · by_cases hij2 : i2 = j
      · exact Or.inr (hij.trans hij2.symm)
      · left
        rw [hij]
        rw [hij] at hee
        simp only [va_up, if_true, if_neg hij2] at hee ⊢
        exact key i2 hi2 hij2 hee
    · by_cases hij2 : i2 = j
      · left
        rw [hij2] at hee
        simp only [va_up, if_true, if_neg hij] at hee ⊢
        rw [hee]
        exact key i hi hij hee.symm
      · simp only [va_up, if_neg hij, if_neg hij2] at hee ⊢
        exact h8 i i2 hi hi2 hee
def kd (K : Nat) : Nat := if K = 0 then 0 else if K < 9 then 1 else if K < 12 then 2 else if K = 15 then 2 else 3
def Agr (N : Nat → Nat) (C C1 : MS) : Prop := (∀ K i, K < 16 → i < N (kd K) → C1 K i = C K i) ∧ C1 16 = C 16 ∧ C1 17 = C 17
theorem Agr.rf {N : Nat → Nat} {C : MS} : Agr N C C := ⟨fun _ _ _ _ => rfl, rfl, rfl⟩
theorem Agr.st {N : Nat → Nat} {C C1 : MS} (h : Agr N C C1) {k n : Nat} {v : Int32} (hk : k < 16) (hn : n = N (kd k)) : Agr N C (stM C1 k n v) := by
  refine ⟨fun K i hK hi => ?_, ?_, ?_⟩
  · by_cases hKk : K = k
    · subst hKk
      have hne : i ≠ n := by omega
      rw [show stM C1 K n v K i = C1 K i by simp [stM, va_up, upd, hne]]
      exact h.1 K i hK hi
    · rw [show stM C1 k n v K i = C1 K i by simp [stM, va_up, hKk]]
      exact h.1 K i hK hi
  · rw [show stM C1 k n v 16 = C1 16 by simp [stM, va_up, show (16 : Nat) ≠ k by omega]]
    exact h.2.1
  · rw [show stM C1 k n v 17 = C1 17 by simp [stM, va_up, show (17 : Nat) ≠ k by omega]]
    exact h.2.2
def adA (a : AD) (k n w j e : Nat) : AD := fun K i => if K = k ∧ i = n then w else if K = 6 ∧ i = j then e else a K i
theorem ZC.add {κ : Kx} {x : Nat} {a : AD} {N P : Nat → Nat} {C : MS} {L0 L L1 : List Nat} {f0 f f1 : Nat → va_E} (h : ZC κ x a N P C L0 f0 L f) (hw : WC N P C) (hTE : kTE κ ∉ L) {k w : Nat} (hk : k < 4) (hwL : w ∈ L) {C1 : MS} (hfw : f w = .inr (ciOf k, fsOf a C1 k (N k))) (hnew : ∀ i, i < N k → a k i ≠ w) (hA : Agr N C C1) (hO1 : k = 1 → C1 6 (N 1) = -1) (hadd : AddP κ L f (a 5 k) (a 6 k) (N k) (elm a P k) w L1 f1) :
    ∃ e1, ZC κ x (adA a k (N k) w k e1) (va_up N k (N k + 1)) P C1 L0 f0 L1 f1 := by
  obtain ⟨e1, c1, c2, c3, c4, c5, c6⟩ := add_core h hTE (by omega) hadd
  obtain ⟨⟨⟨h1, h2⟩, h3, h4, h5, h6, h7, h8⟩, hr⟩ := h
  have eA : ∀ K i, ¬ (K = k ∧ i = N k) → K ≠ 6 → adA a k (N k) w k e1 K i = a K i := fun K i q1 q2 => by simp [adA, q1, q2]
  have eAk : adA a k (N k) w k e1 k (N k) = w := by simp [adA]
  have n5 : ∀ i, adA a k (N k) w k e1 5 i = a 5 i := fun i => eA 5 i (fun q => by omega) (by decide)
  have n4 : ∀ i, adA a k (N k) w k e1 4 i = a 4 i := fun i => eA 4 i (fun q => by omega) (by decide)
  have n6 : ∀ i, adA a k (N k) w k e1 6 i = va_up (a 6) k e1 i := fun i => by
    have hk6 : ¬ (6 = k ∧ i = N k) := fun q => by omega
    simp [adA, hk6, va_up]
  have nlt : ∀ K i, i < N K → K ≠ 6 → adA a k (N k) w k e1 K i = a K i := fun K i hi hK => eA K i (fun q => by rw [q.1] at hi; omega) hK
  have C1e : ∀ K i, K < 16 → i < N (kd K) → C1 K i = C K i := hA.1
  have fsE : ∀ k2 i2, k2 < 4 → i2 < N k2 → fsOf (adA a k (N k) w k e1) C1 k2 i2 = fsOf a C k2 i2 := fun k2 i2 hk2 hi2 => by
    have h9 : k2 = 0 ∨ k2 = 1 ∨ k2 = 2 ∨ k2 = 3 := by omega
    rcases h9 with rfl | rfl | rfl | rfl
    · simp only [fsOf, hFv]
      rw [C1e 0 i2 (by decide) hi2]
    · simp only [fsOf, lFv]
      rw [C1e 1 i2 (by decide) hi2, C1e 2 i2 (by decide) hi2, C1e 3 i2 (by decide) hi2, C1e 4 i2 (by decide) hi2, C1e 8 i2 (by decide) hi2, C1e 5 i2 (by decide) hi2, C1e 6 i2 (by decide) hi2, n4, nlt 0 _ (hw.2.1 i2 hi2).2 (by decide)]
    · simp only [fsOf, gFv]
      rw [C1e 9 i2 (by decide) hi2, C1e 15 i2 (by decide) hi2, C1e 11 i2 (by decide) hi2, C1e 10 i2 (by decide) hi2]
    · simp only [fsOf, sFv]
      rw [C1e 12 i2 (by decide) hi2, C1e 13 i2 (by decide) hi2, C1e 14 i2 (by decide) hi2]
  have fsN : fsOf (adA a k (N k) w k e1) C1 k (N k) = fsOf a C1 k (N k) := by
    have h9 : k = 0 ∨ k = 1 ∨ k = 2 ∨ k = 3 := by omega
    rcases h9 with rfl | rfl | rfl | rfl
    · rfl
    · simp only [fsOf, lFv]
      rw [n4, eA 0 _ (fun q => absurd q.1 (by decide)) (by decide)]
    · rfl
    · rfl
  have lt : ∀ k2 i2, i2 < va_up N k (N k + 1) k2 → i2 < N k2 ∨ (k2 = k ∧ i2 = N k) := fun k2 i2 hi2 => by
    by_cases hkk : k2 = k
    · subst hkk
      rw [show va_up N k2 (N k2 + 1) k2 = N k2 + 1 by simp [va_up]] at hi2
      omega
    · rw [show va_up N k (N k + 1) k2 = N k2 by simp [va_up, hkk]] at hi2
      exact Or.inl hi2
  refine ⟨e1, ⟨⟨c2 _ h1, ?_⟩, fun k2 i2 hk2 hi2 => ?_, fun i hi hc => ?_, fun k2 i j hk2 hi hj he => ?_, fun j hj => ?_, fun i j hi hj => by rw [n5, n5]; exact h7 i j hi hj, fun i j hi hj => by rw [n6, n6]; exact c6 i j hi hj⟩, c5⟩
  · rw [c3 x 6 _ h1 h2 (by decide), h2]
    simp only [xFv, n5]
    rw [hA.2.1, hA.2.2]
  · rcases lt k2 i2 hi2 with q | ⟨rfl, rfl⟩
    · obtain ⟨p1, p2⟩ := h3 k2 i2 hk2 q
      have hrr := ciOf_r k2
      rw [nlt k2 i2 q (by omega)]
      refine ⟨c2 _ p1, ?_⟩
      rw [c3 _ _ _ p1 p2 (by omega), fsE k2 i2 hk2 q]
      exact p2
    · have hrr := ciOf_r k2
      rw [eAk]
      refine ⟨c2 _ hwL, ?_⟩
      rw [c3 _ _ _ hwL hfw (by omega), fsN]
      exact hfw
  · rcases lt 1 i hi with q | ⟨q1, q2⟩
    · have e6 : C1 6 i = C 6 i := C1e 6 i (by decide) q
      rw [e6] at hc
      obtain ⟨p1, p2⟩ := h4 i q hc
      obtain ⟨w1, w2⟩ := hw.2.2.1 i q hc
      rw [n4]
      refine ⟨c2 _ p1, ?_⟩
      rw [c3 _ _ _ p1 p2 (by decide), p2]
      simp only [oFv]
      rw [e6, C1e 7 i (by decide) q, nlt 2 _ w1.2 (by decide), nlt 3 _ w2.2 (by decide)]
    · subst q1
      subst q2
      exact absurd (hO1 rfl) hc
  · rcases lt k2 i hi with q | ⟨q1, q2⟩ <;> rcases lt k2 j hj with r | ⟨r1, r2⟩
    · rw [nlt k2 i q (by omega), nlt k2 j r (by omega)] at he
      exact h5 k2 i j hk2 q r he
    · subst r1
      subst r2
      rw [nlt k2 i q (by omega), eAk] at he
      exact absurd he (hnew i q)
    · subst q1
      subst q2
      rw [nlt k2 j r (by omega), eAk] at he
      exact absurd he.symm (hnew j r)
    · omega
  · rw [n5, n6]
    by_cases hjk : j = k
    · subst hjk
      rw [show va_up (a 6) j e1 j = e1 by simp [va_up], show va_up N j (N j + 1) j = N j + 1 by simp [va_up]]
      refine c1.congr (fun i hi => ?_)
      have hj4 : j ≠ 4 := by omega
      by_cases hin : i = N j
      · subst hin
        simp only [elm, if_neg hj4, eAk]
        simp [va_up]
      · simp only [elm, if_neg hj4]
        rw [nlt j i (by omega) (by omega)]
        simp [va_up, hin, elm, hj4]
    · rw [show va_up (a 6) k e1 j = a 6 j by simp [va_up, hjk], show va_up N k (N k + 1) j = N j by simp [va_up, hjk]]
      refine (c4 j hj hjk).congr (fun i hi => ?_)
      by_cases hj4 : j = 4
      · subst hj4
        simp only [elm, if_true]
        exact (nlt 3 _ (hw.2.2.2 i hi) (by decide)).symm
      · simp only [elm, if_neg hj4]
        exact (nlt j i hi (by omega)).symm
theorem ZC.addP {κ : Kx} {x : Nat} {a : AD} {N P : Nat → Nat} {C : MS} {L0 L L1 : List Nat} {f0 f f1 : Nat → va_E} (h : ZC κ x a N P C L0 f0 L f) (hTE : kTE κ ∉ L) {t : Nat} (hadd : AddP κ L f (a 5 4) (a 6 4) (N 4) (elm a P 4) (a 3 t) L1 f1) :
    ∃ e1, ZC κ x (va_up a 6 (va_up (a 6) 4 e1)) (va_up N 4 (N 4 + 1)) (va_up P (N 4) t) C L0 f0 L1 f1 := by
  obtain ⟨e1, c1, c2, c3, c4, c5, c6⟩ := add_core h hTE (by decide) hadd
  obtain ⟨⟨⟨h1, h2⟩, h3, h4, h5, h6, h7, h8⟩, hr⟩ := h
  have eA : ∀ K, K ≠ 6 → va_up a 6 (va_up (a 6) 4 e1) K = a K := fun K q => by simp [va_up, q]
  have e6 : va_up a 6 (va_up (a 6) 4 e1) 6 = va_up (a 6) 4 e1 := by simp [va_up]
  have eN : ∀ K, K ≠ 4 → va_up N 4 (N 4 + 1) K = N K := fun K q => by simp [va_up, q]
  have fsE : ∀ k2 i2, fsOf (va_up a 6 (va_up (a 6) 4 e1)) C k2 i2 = fsOf a C k2 i2 := fun k2 i2 => by
    unfold fsOf
    split <;> first | rfl | (simp only [lFv]; rw [eA 0 (by decide), eA 4 (by decide)])
  refine ⟨e1, ⟨⟨c2 _ h1, ?_⟩, fun k2 i2 hk2 hi2 => ?_, fun i hi hc => ?_, fun k2 i j hk2 hi hj he => ?_, fun j hj => ?_, fun i j hi hj => by rw [eA 5 (by decide)]; exact h7 i j hi hj, fun i j hi hj => by rw [e6]; exact c6 i j hi hj⟩, c5⟩
  · rw [c3 x 6 _ h1 h2 (by decide), h2]
    simp only [xFv]
    rw [eA 5 (by decide)]
  · rw [eN k2 (by omega)] at hi2
    obtain ⟨p1, p2⟩ := h3 k2 i2 hk2 hi2
    have hrr := ciOf_r k2
    rw [eA k2 (by omega), fsE]
    refine ⟨c2 _ p1, ?_⟩
    rw [c3 _ _ _ p1 p2 (by omega)]
    exact p2
  · rw [eN 1 (by decide)] at hi
    obtain ⟨p1, p2⟩ := h4 i hi hc
    rw [eA 4 (by decide)]
    refine ⟨c2 _ p1, ?_⟩
    rw [c3 _ _ _ p1 p2 (by decide), p2]
    simp only [oFv]
    rw [eA 2 (by decide), eA 3 (by decide)]
  · rw [eN k2 (by omega)] at hi hj
    rw [eA k2 (by omega)] at he
    exact h5 k2 i j hk2 hi hj he
  · rw [eA 5 (by decide), e6]
    by_cases hj4 : j = 4
    · subst hj4
      rw [show va_up (a 6) 4 e1 4 = e1 by simp [va_up], show va_up N 4 (N 4 + 1) 4 = N 4 + 1 by simp [va_up]]
      refine c1.congr (fun i hi => ?_)
      simp only [elm, if_true, eA 3 (by decide)]
      by_cases hin : i = N 4
      · simp [va_up, hin, elm]
      · simp [va_up, hin, elm]
    · rw [show va_up (a 6) 4 e1 j = a 6 j by simp [va_up, hj4], eN j hj4]
      refine (c4 j hj hj4).congr (fun i hi => ?_)
      simp only [elm, if_neg hj4]
      rw [eA j (by omega)]
/-- the lighter i gets an order, the cell q -/
theorem ZC.task {κ : Kx} {x : Nat} {a : AD} {N P : Nat → Nat} {C : MS} {L0 L : List Nat} {f0 f : Nat → va_E} (h : ZC κ x a N P C L0 f0 L f) {i q : Nat} {w u : Int32} (hi : i < N 1) (h6 : C 6 i = -1) (hw : ¬ w = -1) (hq : q ∈ L) (hfq : f q = .inr (4, [.ref (a 2 (nT w)), .ref (a 3 (nT u))])) :
    ZC κ x (va_up a 4 (va_up (a 4) i q)) N P (stM (stM C 6 i w) 7 i u) L0 f0 L (va_up f (a 1 i) (.inr (3, (lFv a C i).set 6 (.ref q)))) := by
  obtain ⟨⟨⟨h1, h2⟩, h3, h4, h5, h6', h7, h8⟩, hr⟩ := h
  obtain ⟨p1, p2⟩ := h3 1 i (by decide) hi
  have tag : ∀ y ci fs, f y = .inr (ci, fs) → ci ≠ 3 → va_up f (a 1 i) (.inr (3, (lFv a C i).set 6 (.ref q))) y = f y := fun y ci fs hy hc => by
    have hne : y ≠ a 1 i := fun z => by
      rw [z, p2] at hy
      simp only [Sum.inr.injEq, Prod.mk.injEq] at hy
      exact hc hy.1.symm
    simp [va_up, hne]
  have eA : ∀ K, K ≠ 4 → va_up a 4 (va_up (a 4) i q) K = a K := fun K z => by simp [va_up, z]
  have e4 : va_up a 4 (va_up (a 4) i q) 4 = va_up (a 4) i q := by simp [va_up]
  have cE : ∀ K, K ≠ 6 → K ≠ 7 → stM (stM C 6 i w) 7 i u K = C K := fun K z1 z2 => by simp [stM, va_up, z1, z2]
  have c6 : ∀ j, j ≠ i → stM (stM C 6 i w) 7 i u 6 j = C 6 j := fun j z => by simp [stM, va_up, upd, z]
  have c7 : ∀ j, j ≠ i → stM (stM C 6 i w) 7 i u 7 j = C 7 j := fun j z => by simp [stM, va_up, upd, z]
  have c6i : stM (stM C 6 i w) 7 i u 6 i = w := by simp [stM, va_up, upd]
  have c7i : stM (stM C 6 i w) 7 i u 7 i = u := by simp [stM, va_up, upd]
  refine ⟨⟨⟨h1, ?_⟩, fun k2 i2 hk2 hi2 => ?_, fun j hj hc => ?_, fun k2 j j2 hk2 hj hj2 he => ?_, fun j hj => ?_, fun i j hi hj => by rw [eA 5 (by decide)]; exact h7 i j hi hj, fun i j hi hj => by rw [eA 6 (by decide)]; exact h8 i j hi hj⟩, hr.up (by rw [p2]; rfl)⟩
  · rw [tag x 6 _ h2 (by decide), h2]
    simp only [xFv]
    rw [eA 5 (by decide), cE 16 (by decide) (by decide), cE 17 (by decide) (by decide)]
  · rw [eA k2 (by omega)]
    obtain ⟨r1, r2⟩ := h3 k2 i2 hk2 hi2
    refine ⟨r1, ?_⟩
    have h9 : k2 = 0 ∨ k2 = 1 ∨ k2 = 2 ∨ k2 = 3 := by omega
    rcases h9 with rfl | rfl | rfl | rfl
    · rw [tag _ _ _ r2 (by decide), r2]
      simp only [fsOf, hFv]
      rw [cE 0 (by decide) (by decide)]
    · by_cases hii : i2 = i
      · subst hii
        rw [show va_up f (a 1 i2) (.inr (3, (lFv a C i2).set 6 (.ref q))) (a 1 i2) = .inr (3, (lFv a C i2).set 6 (.ref q)) by simp [va_up]]
        simp only [fsOf, lFv]
        rw [c6i, if_neg hw, e4, eA 0 (by decide), cE 1 (by decide) (by decide), cE 2 (by decide) (by decide), cE 3 (by decide) (by decide), cE 4 (by decide) (by decide), cE 8 (by decide) (by decide), cE 5 (by decide) (by decide)]
        simp [va_up, ciOf]
      · have hne : a 1 i2 ≠ a 1 i := fun z => hii (h5 1 i2 i (by decide) hi2 hi z)
        rw [show va_up f (a 1 i) (.inr (3, (lFv a C i).set 6 (.ref q))) (a 1 i2) = f (a 1 i2) by simp [va_up, hne], r2]
        simp only [fsOf, lFv]
        rw [c6 i2 hii, e4, eA 0 (by decide), cE 1 (by decide) (by decide), cE 2 (by decide) (by decide), cE 3 (by decide) (by decide), cE 4 (by decide) (by decide), cE 8 (by decide) (by decide), cE 5 (by decide) (by decide)]
        simp [va_up, hii]
    · rw [tag _ _ _ r2 (by decide), r2]
      simp only [fsOf, gFv]
      rw [cE 9 (by decide) (by decide), cE 15 (by decide) (by decide), cE 11 (by decide) (by decide), cE 10 (by decide) (by decide)]
    · rw [tag _ _ _ r2 (by decide), r2]
      simp only [fsOf, sFv]
      rw [cE 12 (by decide) (by decide), cE 13 (by decide) (by decide), cE 14 (by decide) (by decide)]
  · rw [e4]
    by_cases hji : j = i
    · subst hji
      rw [show va_up (a 4) j q j = q by simp [va_up]]
      refine ⟨hq, ?_⟩
      rw [tag q 4 _ hfq (by decide), hfq]
      simp only [oFv]
      rw [c6i, c7i, eA 2 (by decide), eA 3 (by decide)]
    · rw [c6 j hji] at hc
      obtain ⟨r1, r2⟩ := h4 j hj hc
      rw [show va_up (a 4) i q j = a 4 j by simp [va_up, hji]]
      refine ⟨r1, ?_⟩
      rw [tag _ _ _ r2 (by decide), r2]
      simp only [oFv]
      rw [c6 j hji, c7 j hji, eA 2 (by decide), eA 3 (by decide)]
  · rw [eA k2 (by omega)] at he
    exact h5 k2 j j2 hk2 hj hj2 he
  · rw [eA 5 (by decide), eA 6 (by decide)]
    refine ((h6' j hj).up p2 (by decide) (fun _ => isEl_ci (k := 1))).congr (fun i9 hi9 => ?_)
    by_cases hj4 : j = 4
    · subst hj4
      simp only [elm, if_true]
      rw [eA 3 (by decide)]
    · simp only [elm, if_neg hj4]
      rw [eA j hj4]
