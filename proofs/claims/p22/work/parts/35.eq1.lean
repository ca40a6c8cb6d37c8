/-! class and reference, as functions alone: the state of the one is the other's -/
theorem st_ne (C : MS) {k j : Nat} (i : Nat) (v : Int32) (h : j ≠ k) : stM C k i v j = C j := by simp [stM, va_up, h]
theorem st_at (C : MS) (k i : Nat) (v : Int32) : stM C k i v k i = v := by simp [stM, va_up, upd]
theorem st_off (C : MS) (k : Nat) {i j : Nat} (v : Int32) (h : j ≠ i) : stM C k i v k j = C k j := by simp [stM, va_up, upd, h]
theorem st_k (C : MS) (k i : Nat) (v : Int32) : stM C k i v k = upd (C k) i v := by simp [stM, va_up]
theorem sc_ne (C : MS) {k j : Nat} (v : Int32) (h : j ≠ k) : scM C k v j = C j := by simp [scM, va_up, h]
theorem upd_id {f : Nat → Int32} {i : Nat} {v : Int32} (h : f i = v) : upd f i v = f := by
  funext j
  by_cases hj : j = i
  · simp [upd, hj, h]
  · simp [upd, hj]
theorem st_id {C : MS} {k i : Nat} {v : Int32} (h : C k i = v) : stM C k i v = C := by
  funext j
  by_cases hj : j = k
  · subst hj
    rw [st_k]
    exact upd_id h
  · exact st_ne C i v hj
theorem st_comm (M : MS) {k j : Nat} (i n : Nat) (v w : Int32) (h : k ≠ j) : stM (stM M k i v) j n w = stM (stM M j n w) k i v := by
  funext q
  by_cases hq : q = k
  · subst hq
    rw [st_ne _ _ _ h, st_k, st_k, st_ne _ _ _ h]
  · by_cases hq2 : q = j
    · subst hq2
      rw [st_k, st_ne _ _ _ hq, st_ne _ _ _ hq, st_k]
    · rw [st_ne _ _ _ hq2, st_ne _ _ _ hq, st_ne _ _ _ hq, st_ne _ _ _ hq2]
def shK (k : Nat) : Bool := decide (k < 8) || (decide (9 ≤ k) && decide (k < 13)) || decide (k = 14)
theorem shK_lt {k : Nat} (h : shK k = true) : k < 15 ∧ k ≠ 8 ∧ k ≠ 13 := by
  simp only [shK, Bool.or_eq_true, Bool.and_eq_true, decide_eq_true_eq] at h
  omega
def Sh (C M : MS) : Prop := (∀ k, shK k = true → C k = M k) ∧ C 17 = M 20
theorem Sh.st {C M : MS} (h : Sh C M) (k i : Nat) (v : Int32) (hk : shK k = true) : Sh (stM C k i v) (stM M k i v) := by
  have hl := shK_lt hk
  refine ⟨fun j hj => ?_, ?_⟩
  · by_cases hjk : j = k
    · subst hjk
      rw [st_k, st_k, h.1 j hj]
    · rw [st_ne _ _ _ hjk, st_ne _ _ _ hjk]
      exact h.1 j hj
  · rw [st_ne _ _ _ (by omega), st_ne _ _ _ (by omega)]
    exact h.2
theorem Sh.l {C M : MS} (h : Sh C M) (k i : Nat) (v : Int32) (hk : k = 8 ∨ k = 13 ∨ k = 15) : Sh (stM C k i v) M := by
  refine ⟨fun j hj => ?_, ?_⟩
  · have hl := shK_lt hj
    rw [st_ne _ _ _ (by omega)]
    exact h.1 j hj
  · rw [st_ne _ _ _ (by omega)]
    exact h.2
theorem Sh.r {C M : MS} (h : Sh C M) (k i : Nat) (v : Int32) (hk : k = 8 ∨ k = 13) : Sh C (stM M k i v) := by
  refine ⟨fun j hj => ?_, ?_⟩
  · have hl := shK_lt hj
    rw [st_ne _ _ _ (by omega)]
    exact h.1 j hj
  · rw [st_ne _ _ _ (by omega)]
    exact h.2
theorem Sh.del {C M : MS} (h : Sh C M) (v : Int32) : Sh (scM C 17 v) (scM M 20 v) := by
  refine ⟨fun j hj => ?_, ?_⟩
  · have hl := shK_lt hj
    rw [sc_ne _ _ (by omega), sc_ne _ _ (by omega)]
    exact h.1 j hj
  · simp [scM, va_up]
theorem Sh.scl {C M : MS} (h : Sh C M) (v : Int32) : Sh (scM C 16 v) M := by
  refine ⟨fun j hj => ?_, ?_⟩
  · have hl := shK_lt hj
    rw [sc_ne _ _ (by omega)]
    exact h.1 j hj
  · rw [sc_ne _ _ (by decide)]
    exact h.2
theorem Sh.scr {C M : MS} (h : Sh C M) {k : Nat} (v : Int32) (hk : 15 ≤ k ∧ k ≠ 20) : Sh C (scM M k v) := by
  refine ⟨fun j hj => ?_, ?_⟩
  · have hl := shK_lt hj
    rw [sc_ne _ _ (by omega)]
    exact h.1 j hj
  · rw [sc_ne _ _ (by omega)]
    exact h.2
/-- a lighter's place, and how long she is still under way -/
def WyA (c4 c8 m8 : Int32) : Prop := c4 = 0 ∨ (c4 = 1 ∧ (c8 = 0 ∧ m8 = 2 ∨ c8 = 1 ∧ m8 = 1)) ∨ c4 = 2 ∨ (c4 = 3 ∧ m8 = 1)
def Wy (c4 c8 m8 : Nat → Int32) : Prop := ∀ i, WyA (c4 i) (c8 i) (m8 i)
def WyX (n : Nat) (c4 c8 m8 : Nat → Int32) : Prop := ∀ i, i ≠ n → WyA (c4 i) (c8 i) (m8 i)
def Bd (c1 c2 c11 c12 : Nat → Int32) : Prop := (∀ i, 0 ≤ c2 i ∧ c2 i ≤ c1 i ∧ c1 i ≤ 500) ∧ (∀ g, 0 ≤ c11 g) ∧ ∀ t, 0 ≤ c12 t
/-- who is aboard of what -/
def Oc (N : Nat → Nat) (c6 c15 : Nat → Int32) : Prop := (∀ g, g < N 2 → (c15 g = 0 ∧ ∀ i, i < N 1 → ¬ c6 i = nI g) ∨ (¬ c15 g = 0 ∧ ∃ i, i < N 1 ∧ c6 i = nI g)) ∧ ∀ i j, i < N 1 → j < N 1 → c6 i = c6 j → ¬ c6 i = -1 → i = j
def Ix (N : Nat → Nat) (c6 c7 : Nat → Int32) : Prop := N 2 ≤ 6 ∧ ∀ i, i < N 1 → ¬ c6 i = -1 → (c6 i = nI (nT (c6 i)) ∧ nT (c6 i) < N 2) ∧ c7 i = nI (nT (c7 i)) ∧ nT (c7 i) < N 3
/-- beyond the counts all is 0 -/
def Fs (N : Nat → Nat) (c2 c3 c4 c10 c11 c14 : Nat → Int32) : Prop := (∀ i, N 1 ≤ i → c2 i = 0 ∧ c3 i = 0 ∧ c4 i = 0) ∧ (∀ g, N 2 ≤ g → c10 g = 0 ∧ c11 g = 0) ∧ ∀ t, N 3 ≤ t → c14 t = 0
theorem upd_off {f : Nat → Int32} {i j : Nat} {v : Int32} (h : j ≠ i) : upd f i v j = f j := by simp [upd, h]
theorem Fs.u2 {N : Nat → Nat} {c2 c3 c4 c10 c11 c14 : Nat → Int32} (h : Fs N c2 c3 c4 c10 c11 c14) {i : Nat} {v : Int32} (hi : i < N 1) : Fs N (upd c2 i v) c3 c4 c10 c11 c14 := ⟨fun j hj => by rw [upd_off (by omega)]; exact h.1 j hj, h.2⟩
theorem Fs.u3 {N : Nat → Nat} {c2 c3 c4 c10 c11 c14 : Nat → Int32} (h : Fs N c2 c3 c4 c10 c11 c14) {i : Nat} {v : Int32} (hi : i < N 1) : Fs N c2 (upd c3 i v) c4 c10 c11 c14 := ⟨fun j hj => by rw [upd_off (by omega)]; exact h.1 j hj, h.2⟩
theorem Fs.u4 {N : Nat → Nat} {c2 c3 c4 c10 c11 c14 : Nat → Int32} (h : Fs N c2 c3 c4 c10 c11 c14) {i : Nat} {v : Int32} (hi : i < N 1) : Fs N c2 c3 (upd c4 i v) c10 c11 c14 := ⟨fun j hj => by rw [upd_off (by omega)]; exact h.1 j hj, h.2⟩
theorem Fs.u10 {N : Nat → Nat} {c2 c3 c4 c10 c11 c14 : Nat → Int32} (h : Fs N c2 c3 c4 c10 c11 c14) {i : Nat} {v : Int32} (hi : i < N 2) : Fs N c2 c3 c4 (upd c10 i v) c11 c14 := ⟨h.1, fun j hj => by rw [upd_off (by omega)]; exact h.2.1 j hj, h.2.2⟩
theorem Fs.u11 {N : Nat → Nat} {c2 c3 c4 c10 c11 c14 : Nat → Int32} (h : Fs N c2 c3 c4 c10 c11 c14) {i : Nat} {v : Int32} (hi : i < N 2) : Fs N c2 c3 c4 c10 (upd c11 i v) c14 := ⟨h.1, fun j hj => by rw [upd_off (by omega)]; exact h.2.1 j hj, h.2.2⟩
theorem Fs.u14 {N : Nat → Nat} {c2 c3 c4 c10 c11 c14 : Nat → Int32} (h : Fs N c2 c3 c4 c10 c11 c14) {i : Nat} {v : Int32} (hi : i < N 3) : Fs N c2 c3 c4 c10 c11 (upd c14 i v) := ⟨h.1, h.2.1, fun j hj => by rw [upd_off (by omega)]; exact h.2.2 j hj⟩
abbrev IF (N : Nat → Nat) (C : MS) : Prop := Ix N (C 6) (C 7) ∧ Fs N (C 2) (C 3) (C 4) (C 10) (C 11) (C 14)
def J (N : Nat → Nat) (C M : MS) : Prop := Sh C M ∧ Wy (C 4) (C 8) (M 8) ∧ Bd (C 1) (C 2) (C 11) (C 12) ∧ Oc N (C 6) (C 15) ∧ IF N C
def JX (N : Nat → Nat) (n : Nat) (C M : MS) : Prop := n < N 1 ∧ Sh C M ∧ WyX n (C 4) (C 8) (M 8) ∧ Bd (C 1) (C 2) (C 11) (C 12) ∧ Oc N (C 6) (C 15) ∧ IF N C
theorem J.x {N : Nat → Nat} {C M : MS} (h : J N C M) {n : Nat} (hn : n < N 1) : JX N n C M := ⟨hn, h.1, fun i _ => h.2.1 i, h.2.2⟩
theorem JX.j {N : Nat → Nat} {n : Nat} {C M : MS} (h : JX N n C M) (hw : WyA (C 4 n) (C 8 n) (M 8 n)) : J N C M := ⟨h.2.1, fun i => by
  by_cases hi : i = n
  · rw [hi]; exact hw
  · exact h.2.2.1 i hi, h.2.2.2⟩
theorem J.st10 {N : Nat → Nat} {C M : MS} (h : J N C M) (i : Nat) (v : Int32) (hi : i < N 2) : J N (stM C 10 i v) (stM M 10 i v) := ⟨h.1.st _ _ _ rfl, h.2.1, h.2.2.1, h.2.2.2.1, h.2.2.2.2.1, h.2.2.2.2.2.u10 hi⟩
theorem J.st0 {N : Nat → Nat} {C M : MS} (h : J N C M) (i : Nat) (v : Int32) : J N (stM C 0 i v) (stM M 0 i v) := ⟨h.1.st _ _ _ rfl, h.2.1, h.2.2.1, h.2.2.2.1, h.2.2.2.2⟩
theorem J.st3 {N : Nat → Nat} {C M : MS} (h : J N C M) (i : Nat) (v : Int32) (hi : i < N 1) : J N (stM C 3 i v) (stM M 3 i v) := ⟨h.1.st _ _ _ rfl, h.2.1, h.2.2.1, h.2.2.2.1, h.2.2.2.2.1, h.2.2.2.2.2.u3 hi⟩
theorem J.st14 {N : Nat → Nat} {C M : MS} (h : J N C M) (i : Nat) (v : Int32) (hi : i < N 3) : J N (stM C 14 i v) (stM M 14 i v) := ⟨h.1.st _ _ _ rfl, h.2.1, h.2.2.1, h.2.2.2.1, h.2.2.2.2.1, h.2.2.2.2.2.u14 hi⟩
theorem J.l13 {N : Nat → Nat} {C M : MS} (h : J N C M) (i : Nat) (v : Int32) : J N (stM C 13 i v) M := ⟨h.1.l _ _ _ (by decide), h.2.1, h.2.2.1, h.2.2.2.1, h.2.2.2.2⟩
theorem J.del {N : Nat → Nat} {C M : MS} (h : J N C M) (v : Int32) : J N (scM C 17 v) (scM M 20 v) := ⟨h.1.del _, h.2.1, h.2.2.1, h.2.2.2.1, h.2.2.2.2⟩
theorem J.st2 {N : Nat → Nat} {C M : MS} (h : J N C M) (i : Nat) (v : Int32) (h0 : 0 ≤ v) (h1 : v ≤ C 1 i) (hi : i < N 1) : J N (stM C 2 i v) (stM M 2 i v) := by
  refine ⟨h.1.st _ _ _ rfl, h.2.1, ⟨fun j => ?_, h.2.2.1.2⟩, h.2.2.2.1, h.2.2.2.2.1, h.2.2.2.2.2.u2 hi⟩
  obtain ⟨b1, b2, b3⟩ := h.2.2.1.1 j
  show 0 ≤ stM C 2 i v 2 j ∧ stM C 2 i v 2 j ≤ C 1 j ∧ C 1 j ≤ 500
  by_cases hj : j = i
  · subst hj
    rw [st_at]
    exact ⟨h0, h1, b3⟩
  · rw [st_off _ _ _ hj]
    exact ⟨b1, b2, b3⟩
theorem J.st11 {N : Nat → Nat} {C M : MS} (h : J N C M) (g : Nat) (v : Int32) (h0 : 0 ≤ v) (hg : g < N 2) : J N (stM C 11 g v) (stM M 11 g v) := by
  refine ⟨h.1.st _ _ _ rfl, h.2.1, ⟨h.2.2.1.1, fun j => ?_, h.2.2.1.2.2⟩, h.2.2.2.1, h.2.2.2.2.1, h.2.2.2.2.2.u11 hg⟩
  by_cases hj : j = g
  · subst hj
    rw [st_at]
    exact h0
  · rw [st_off _ _ _ hj]
    exact h.2.2.1.2.1 j
theorem J.st12 {N : Nat → Nat} {C M : MS} (h : J N C M) (t : Nat) (v : Int32) (h0 : 0 ≤ v) : J N (stM C 12 t v) (stM M 12 t v) := by
  refine ⟨h.1.st _ _ _ rfl, h.2.1, ⟨h.2.2.1.1, h.2.2.1.2.1, fun j => ?_⟩, h.2.2.2.1, h.2.2.2.2⟩
  by_cases hj : j = t
  · subst hj
    rw [st_at]
    exact h0
  · rw [st_off _ _ _ hj]
    exact h.2.2.1.2.2 j
/-- the place, and the ways, of one lighter -/
theorem JX.place {N : Nat → Nat} {C M : MS} {i : Nat} (h : JX N i C M) (v : Int32) : JX N i (stM C 4 i v) (stM M 4 i v) :=
  ⟨h.1, h.2.1.st _ _ _ rfl, fun j hj => by
    rw [st_off C 4 v hj]
    exact h.2.2.1 j hj, h.2.2.2.1, h.2.2.2.2.1, h.2.2.2.2.2.1, h.2.2.2.2.2.2.u4 h.1⟩
theorem JX.wayC {N : Nat → Nat} {C M : MS} {i : Nat} (h : JX N i C M) (v : Int32) : JX N i (stM C 8 i v) M :=
  ⟨h.1, h.2.1.l _ _ _ (by decide), fun j hj => by
    rw [st_off C 8 v hj]
    exact h.2.2.1 j hj, h.2.2.2.1, h.2.2.2.2.1, h.2.2.2.2.2⟩
theorem JX.wayM {N : Nat → Nat} {C M : MS} {i : Nat} (h : JX N i C M) (v : Int32) : JX N i C (stM M 8 i v) :=
  ⟨h.1, h.2.1.r _ _ _ (by decide), fun j hj => by
    rw [st_off M 8 v hj]
    exact h.2.2.1 j hj, h.2.2.2.1, h.2.2.2.2.1, h.2.2.2.2.2⟩
theorem Oc.end {N : Nat → Nat} {c6 c15 c7 : Nat → Int32} (h : Oc N c6 c15) (hx : Ix N c6 c7) {i : Nat} (hi : i < N 1) (h6 : ¬ c6 i = -1) : Oc N (upd c6 i (-1)) (upd c15 (nT (c6 i)) 0) := by
  obtain ⟨⟨e1, l1⟩, -, -⟩ := hx.2 i hi h6
  have b2 := hx.1
  have hn1 : ∀ g, g < N 2 → ¬ (-1 : Int32) = nI g := fun g hg z => by
    have h9 := nI_toInt (n := g) (by omega)
    rw [← z] at h9
    have h8 : (-1 : Int32).toInt = -1 := by decide
    omega
  have ui : upd c6 i (-1) i = -1 := by simp [upd]
  have uo : ∀ j, j ≠ i → upd c6 i (-1) j = c6 j := fun j hj => by simp [upd, hj]
  refine ⟨fun g hg => ?_, fun j k hj hk he hc => ?_⟩
  · by_cases hgg : g = nT (c6 i)
    · subst hgg
      refine Or.inl ⟨by simp [upd], fun j hj => ?_⟩
      by_cases hji : j = i
      · subst hji
        rw [ui]
        exact hn1 _ hg
      · rw [uo j hji]
        exact fun z => hji (h.2 j i hj hi (z.trans e1.symm) (by rw [z, ← e1]; exact h6))
    · have e15 : upd c15 (nT (c6 i)) 0 g = c15 g := by simp [upd, hgg]
      rw [e15]
      rcases h.1 g hg with ⟨q1, q2⟩ | ⟨q1, j, q2, q3⟩
      · refine Or.inl ⟨q1, fun j hj => ?_⟩
        by_cases hji : j = i
        · subst hji
          rw [ui]
          exact hn1 g hg
        · rw [uo j hji]
          exact q2 j hj
      · refine Or.inr ⟨q1, j, q2, ?_⟩
        have hji : j ≠ i := fun z => by
          subst z
          refine hgg ?_
          rw [q3]
          exact (nI_clamp (by omega)).symm
        rw [uo j hji]
        exact q3
  · by_cases hji : j = i
    · subst hji
      exact absurd ui hc
    · rw [uo j hji] at he hc
      by_cases hki : k = i
      · subst hki
        rw [ui] at he
        exact absurd he hc
      · rw [uo k hki] at he
        exact h.2 j k hj hk he hc
theorem Ix.end {N : Nat → Nat} {c6 c7 : Nat → Int32} (h : Ix N c6 c7) (i : Nat) : Ix N (upd c6 i (-1)) c7 := by
  refine ⟨h.1, fun j hj hc => ?_⟩
  by_cases hji : j = i
  · subst hji
    exact absurd (by simp [upd]) hc
  · rw [show upd c6 i (-1) j = c6 j by simp [upd, hji]] at hc ⊢
    exact h.2 j hj hc
theorem JX.end {N : Nat → Nat} {C M : MS} {i : Nat} (h : JX N i C M) (hi : i < N 1) (h6 : ¬ C 6 i = -1) : J N (endG (stM C 4 i 0) i) (endF M i) := by
  have e6 : C 6 = M 6 := h.2.1.1 6 rfl
  have e10 : C 10 = M 10 := h.2.1.1 10 rfl
  have a1 : JX N i (stM (stM (stM C 4 i 0) 6 i (-1)) 15 (nT (C 6 i)) 0) (stM (stM M 6 i (-1)) 4 i 0) := by
    rw [st_comm M i i (-1) 0 (by decide : (6 : Nat) ≠ 4)]
    refine ⟨hi, ((h.2.1.st 4 i 0 rfl).st 6 i (-1) rfl).l 15 _ _ (by decide), fun j hj => ?_, h.2.2.2.1, ?_, ?_, h.2.2.2.2.2.2.u4 hi⟩
    · show WyA (stM C 4 i 0 4 j) (C 8 j) (M 8 j)
      rw [st_off C 4 0 hj]
      exact h.2.2.1 j hj
    · have h9 := h.2.2.2.2.1.end h.2.2.2.2.2.1 hi h6
      exact h9
    · exact h.2.2.2.2.2.1.end i
  have a2 : J N (stM (stM (stM C 4 i 0) 6 i (-1)) 15 (nT (C 6 i)) 0) (stM (stM M 6 i (-1)) 4 i 0) := a1.j (Or.inl (st_at C 4 i 0))
  have eg : endG (stM C 4 i 0) i = if C 10 (nT (C 6 i)) < 8 then stM (stM (stM C 4 i 0) 6 i (-1)) 15 (nT (C 6 i)) 0 else stM (stM (stM (stM (stM C 4 i 0) 6 i (-1)) 15 (nT (C 6 i)) 0) 11 (nT (C 6 i)) 8) 10 (nT (C 6 i)) 0 := rfl
  rw [eg]
  unfold endF
  rw [← e6, ← e10]
  by_cases hc : C 10 (nT (C 6 i)) < 8
  · rw [if_pos hc, if_pos hc]
    exact a2
  · rw [if_neg hc, if_neg hc]
    have hg := (h.2.2.2.2.2.1.2 i hi h6).1.2
    exact (a2.st11 _ _ (by decide) hg).st10 _ _ hg
theorem J.end0 {N : Nat → Nat} {C M : MS} {i : Nat} (h : J N C M) (hi : i < N 1) (h6 : ¬ C 6 i = -1) (h4 : C 4 i = 0) : J N (endG C i) (endF M i) := by
  have h9 := (h.x hi).end hi h6
  rw [st_id h4] at h9
  exact h9
theorem J.cast {N : Nat → Nat} {C M : MS} {i : Nat} (h : J N C M) (hi : i < N 1) (h6 : ¬ C 6 i = -1) (h4 : C 4 i = 0) : J N (castG C i) (castF M i) := by
  have e2 : C 2 = M 2 := h.1.1 2 rfl
  unfold castG castF
  rw [← e2]
  by_cases hc : C 2 i ≤ 0
  · rw [if_pos hc, if_pos hc]
    exact h.end0 hi h6 h4
  · rw [if_neg hc, if_neg hc]
    exact ((((h.x hi).place 1).wayC 0).wayM 2).j (Or.inr (Or.inl ⟨st_at C 4 i 1, Or.inl ⟨st_at _ 8 i 0, st_at _ 8 i 2⟩⟩))
theorem str_eq {C M : MS} (h : Sh C M) (i : Nat) (x : Int32) : minG (strG C (nT (C 6 i)) (C 3 i)) x = shovF M i x := by
  have e6 : C 6 = M 6 := h.1 6 rfl
  have e3 : C 3 = M 3 := h.1 3 rfl
  have e9 : C 9 = M 9 := h.1 9 rfl
  have lm : ∀ y z : Int32, minG y z = leastF y z := fun y z => by
    unfold minG leastF
    by_cases h1 : z < y
    · rw [if_pos h1, if_pos (Int32.le_of_lt h1)]
    · rw [if_neg h1]
      by_cases h2 : z ≤ y
      · rw [if_pos h2]
        exact Int32.le_antisymm (Int32.not_lt.mp h1) h2
      · rw [if_neg h2]
  rw [lm]
  unfold shovF strG
  rw [← e6, ← e3, ← e9]
  by_cases h1 : 4 * C 9 (nT (C 6 i)) - C 3 i / 5 ≤ 1
  · rw [if_pos h1]
    by_cases h2 : 1 ≤ 4 * C 9 (nT (C 6 i)) - C 3 i / 5
    · rw [if_pos h2, Int32.le_antisymm h1 h2]
    · rw [if_neg h2]
  · rw [if_neg h1, if_pos (Int32.le_of_lt (Int32.not_le.mp h1))]
theorem minG_lm (y z : Int32) : minG y z = leastF y z := by
  unfold minG leastF
  by_cases h1 : z < y
  · rw [if_pos h1, if_pos (Int32.le_of_lt h1)]
  · rw [if_neg h1]
    by_cases h2 : z ≤ y
    · rw [if_pos h2]
      exact Int32.le_antisymm (Int32.not_lt.mp h1) h2
    · rw [if_neg h2]
theorem minG_le1 (y z : Int32) : minG y z ≤ y := by
  unfold minG
  by_cases h1 : z < y
  · rw [if_pos h1]; exact Int32.le_of_lt h1
  · rw [if_neg h1]; exact Int32.le_refl _
theorem minG_le2 (y z : Int32) : minG y z ≤ z := by
  unfold minG
  by_cases h1 : z < y
  · rw [if_pos h1]; exact Int32.le_refl _
  · rw [if_neg h1]; exact Int32.not_lt.mp h1
theorem minG_ge {x y z : Int32} (h1 : x ≤ y) (h2 : x ≤ z) : x ≤ minG y z := by
  unfold minG
  split
  · exact h2
  · exact h1
theorem str_ge (C : MS) (g : Nat) (d : Int32) : 0 ≤ strG C g d := by
  unfold strG
  split
  · decide
  · rename_i h
    exact Int32.le_of_lt (Int32.lt_trans (by decide) (Int32.not_le.mp h))
theorem grd {d : Int32} (h : 0 ≤ d) : 0 ≤ d - d / 50 ∧ d - d / 50 ≤ d := by
  have h0 := Kit.i32_nonneg.mp h
  have hl := Int32.toInt_lt d
  have e50 : (50 : Int32).toInt = 50 := by decide
  have e1 : (d / 50).toInt = d.toInt.tdiv 50 := by rw [Kit.i32_div (by rw [e50]; omega), e50]
  rw [Int.tdiv_eq_ediv_of_nonneg h0] at e1
  have e2 : (d - d / 50).toInt = d.toInt - (d / 50).toInt := Kit.i32_sub (by omega) (by omega)
  constructor
  · exact Kit.i32_nonneg.mpr (by omega)
  · rw [Int32.le_iff_toInt_le]; omega
theorem add_rng {a b d : Int32} (ha : 0 ≤ a) (hab : a ≤ b) (hb : b ≤ 500) (hd : 0 ≤ d) (hdr : d ≤ b - a) : 0 ≤ a + d ∧ a + d ≤ b := by
  have a0 := Kit.i32_nonneg.mp ha
  have d0 := Kit.i32_nonneg.mp hd
  rw [Int32.le_iff_toInt_le] at hab hb hdr ⊢
  have e5 : (500 : Int32).toInt = 500 := by decide
  have e1 : (b - a).toInt = b.toInt - a.toInt := Kit.i32_sub (by omega) (by omega)
  have e2 : (a + d).toInt = a.toInt + d.toInt := Kit.i32_add (by omega) (by omega)
  rw [Int32.le_iff_toInt_le, Int32.toInt_zero]
  omega
theorem sub_rng {a d : Int32} (hd : 0 ≤ d) (hda : d ≤ a) : 0 ≤ a - d ∧ a - d ≤ a := by
  have d0 := Kit.i32_nonneg.mp hd
  have al := Int32.toInt_lt a
  rw [Int32.le_iff_toInt_le] at hda
  have e1 : (a - d).toInt = a.toInt - d.toInt := Kit.i32_sub (by omega) (by omega)
  rw [Int32.le_iff_toInt_le, Int32.toInt_zero, Int32.le_iff_toInt_le]
  omega
theorem sub_pos {a b : Int32} (ha : 0 ≤ a) (hb : b ≤ 500) (h : ¬ b ≤ a) : 0 ≤ b - a ∧ ¬ b - a ≤ 0 := by
  have a0 := Kit.i32_nonneg.mp ha
  rw [Int32.le_iff_toInt_le] at hb h
  have e5 : (500 : Int32).toInt = 500 := by decide
  have e1 : (b - a).toInt = b.toInt - a.toInt := Kit.i32_sub (by omega) (by omega)
  rw [Int32.le_iff_toInt_le, Int32.le_iff_toInt_le, Int32.toInt_zero]
  omega
theorem sub_neg {a b : Int32} (ha : 0 ≤ a) (hab : a ≤ b) (hb : b ≤ 500) (h : b ≤ a) : b - a ≤ 0 := by
  rw [Int32.le_antisymm h hab]
  rw [Int32.sub_self]
  exact Int32.le_refl _
theorem J.workH {N : Nat → Nat} {C M : MS} {i : Nat} (h : J N C M) (hi : i < N 1) (h6 : ¬ C 6 i = -1) (h4 : C 4 i = 0) : J N (workHG C i) (atHulkF M i) := by
  have e0 : C 0 = M 0 := h.1.1 0 rfl
  have e1 : C 1 = M 1 := h.1.1 1 rfl
  have e2 : C 2 = M 2 := h.1.1 2 rfl
  have e3 : C 3 = M 3 := h.1.1 3 rfl
  have e5 : C 5 = M 5 := h.1.1 5 rfl
  obtain ⟨b1, b2, b3⟩ := h.2.2.1.1 i
  unfold workHG atHulkF
  rw [← e0, ← e1, ← e2, ← e5]
  by_cases hc : C 1 i ≤ C 2 i
  · rw [if_pos hc, if_pos (sub_neg b1 b2 b3 hc), ite_self]
    exact h.cast hi h6 h4
  · obtain ⟨s1, s2⟩ := sub_pos b1 b3 hc
    rw [if_neg hc, if_neg s2]
    by_cases hc0 : 0 < C 0 (nT (C 5 i))
    · rw [if_pos hc0, if_neg (Int32.not_le.mpr hc0), ← str_eq h.1 i, ← minG_lm]
      unfold shovHG takeG fillF
      rw [← e0, ← e2, ← e3]
      have hs0 : 0 ≤ minG (strG C (nT (C 6 i)) (C 3 i)) (minG (C 0 (nT (C 5 i))) (C 1 i - C 2 i)) := minG_ge (str_ge _ _ _) (minG_ge (Int32.le_of_lt hc0) s1)
      have hs1 : minG (strG C (nT (C 6 i)) (C 3 i)) (minG (C 0 (nT (C 5 i))) (C 1 i - C 2 i)) ≤ C 1 i - C 2 i := Int32.le_trans (minG_le2 _ _) (minG_le2 _ _)
      obtain ⟨g1, g2⟩ := grd hs0
      obtain ⟨r1, r2⟩ := add_rng b1 b2 b3 g1 (Int32.le_trans g2 hs1)
      exact ((h.st0 _ _).st2 i _ r1 r2 hi).st3 _ _ hi
    · rw [if_neg hc0, if_pos (Int32.not_lt.mp hc0)]
      exact h.cast hi h6 h4
theorem J.workS {N : Nat → Nat} {C M : MS} {i : Nat} (h : J N C M) (hi : i < N 1) (_ : ¬ C 6 i = -1) : J N (workSG C i) (atSteamerF M i) := by
  have e2 : C 2 = M 2 := h.1.1 2 rfl
  have e3 : C 3 = M 3 := h.1.1 3 rfl
  have e7 : C 7 = M 7 := h.1.1 7 rfl
  have e12 : C 12 = M 12 := h.1.1 12 rfl
  have e14 : C 14 = M 14 := h.1.1 14 rfl
  obtain ⟨b1, b2, b3⟩ := h.2.2.1.1 i
  unfold workSG atSteamerF
  rw [← e2, ← e7, ← e12, ← e14]
  by_cases hc : 0 < C 2 i
  · have hne : ¬ C 2 i = 0 := fun z => by rw [z] at hc; exact absurd hc (by decide)
    rw [if_pos hc, if_neg hne]
    by_cases hf : C 14 (nT (C 7 i)) = 1
    · rw [if_pos hf, if_pos hf, ← str_eq h.1 i, ← minG_lm]
      unfold shovSG giveG pourF
      rw [← e2, ← e3, ← e12, ← h.1.2]
      have w0 := h.2.2.1.2.2 (nT (C 7 i))
      have hs0 : 0 ≤ minG (strG C (nT (C 6 i)) (C 3 i)) (minG (C 2 i) (C 12 (nT (C 7 i)))) := minG_ge (str_ge _ _ _) (minG_ge b1 w0)
      have hs1 : minG (strG C (nT (C 6 i)) (C 3 i)) (minG (C 2 i) (C 12 (nT (C 7 i)))) ≤ C 2 i := Int32.le_trans (minG_le2 _ _) (minG_le1 _ _)
      have hs2 : minG (strG C (nT (C 6 i)) (C 3 i)) (minG (C 2 i) (C 12 (nT (C 7 i)))) ≤ C 12 (nT (C 7 i)) := Int32.le_trans (minG_le2 _ _) (minG_le2 _ _)
      obtain ⟨g1, g2⟩ := grd hs0
      obtain ⟨r1, r2⟩ := sub_rng hs0 hs1
      obtain ⟨r3, -⟩ := sub_rng g1 (Int32.le_trans g2 hs2)
      exact (((h.st2 i _ r1 (Int32.le_trans r2 b2) hi).st3 _ _ hi).st12 _ _ r3).del _
    · rw [if_neg hf, if_neg hf]
      exact h
  · have hz : C 2 i = 0 := Int32.le_antisymm (Int32.not_lt.mp hc) b1
    rw [if_neg hc, if_pos hz]
    exact (((h.x hi).place 3).wayM 1).j (Or.inr (Or.inr (Or.inr ⟨st_at C 4 i 3, st_at _ 8 i 1⟩)))
theorem J.work {N : Nat → Nat} {C M : MS} {i : Nat} (h : J N C M) (hi : i < N 1) (h6 : ¬ C 6 i = -1) : J N (workG C i) (placeF M i) := by
  have e4 : C 4 = M 4 := h.1.1 4 rfl
  unfold workG placeF
  rw [← e4]
  rcases h.2.1 i with q | ⟨q, q2⟩ | q | ⟨q, q2⟩
  · rw [if_pos q, if_pos q]
    exact h.workH hi h6 q
  · have n0 : ¬ C 4 i = 0 := by rw [q]; decide
    have n2 : ¬ C 4 i = 2 := by rw [q]; decide
    rw [if_neg n0, if_pos q, if_neg n0, if_neg n2]
    unfold goG goOnF goF
    rcases q2 with ⟨q3, q4⟩ | ⟨q3, q4⟩
    · rw [q3, q4]
      rw [if_pos (show stM C 8 i ((0 : Int32) + 1) 8 i < 2 by rw [st_at]; decide), if_neg (show ¬ stM M 8 i ((2 : Int32) - 1) 8 i ≤ 0 by rw [st_at]; decide)]
      exact (((h.x hi).wayC _).wayM _).j (Or.inr (Or.inl ⟨q, Or.inr ⟨st_at _ 8 i _, st_at _ 8 i _⟩⟩))
    · rw [q3, q4]
      rw [if_neg (show ¬ stM C 8 i ((1 : Int32) + 1) 8 i < 2 by rw [st_at]; decide), if_pos (show stM M 8 i ((1 : Int32) - 1) 8 i ≤ 0 by rw [st_at]; decide), if_pos (show stM M 8 i ((1 : Int32) - 1) 4 i = 1 from (congrFun e4 i).symm.trans q)]
      exact ((((h.x hi).wayC _).wayM _).place 2).j (Or.inr (Or.inr (Or.inl (st_at _ 4 i 2))))
  · have n0 : ¬ C 4 i = 0 := by rw [q]; decide
    have n1 : ¬ C 4 i = 1 := by rw [q]; decide
    rw [if_neg n0, if_neg n1, if_pos q, if_neg n0, if_pos q]
    exact h.workS hi h6
  · have n0 : ¬ C 4 i = 0 := by rw [q]; decide
    have n1 : ¬ C 4 i = 1 := by rw [q]; decide
    have n2 : ¬ C 4 i = 2 := by rw [q]; decide
    rw [if_neg n0, if_neg n1, if_neg n2, if_neg n0, if_neg n2]
    unfold comeG goOnF goF
    rw [q2]
    rw [if_pos (show stM M 8 i ((1 : Int32) - 1) 8 i ≤ 0 by rw [st_at]; decide), if_neg (show ¬ stM M 8 i ((1 : Int32) - 1) 4 i = 1 from fun z => n1 ((congrFun e4 i).trans z))]
    exact ((h.x hi).wayM _).end hi h6
theorem J.wk {N : Nat → Nat} {C M : MS} {i : Nat} (h : J N C M) (hi : i < N 1) : J N (wkG C i) (if M 6 i = -1 then M else workF M i) := by
  have e6 : C 6 = M 6 := h.1.1 6 rfl
  have e10 : C 10 = M 10 := h.1.1 10 rfl
  unfold wkG workF
  rw [← e6, ← e10]
  by_cases hc : C 6 i = -1
  · rw [if_pos hc, if_pos hc]
    exact h
  · rw [if_neg hc, if_neg hc]
    exact (h.st10 _ _ (h.2.2.2.2.1.2 i hi hc).1.2).work hi hc
theorem J.wkLoop {N : Nat → Nat} {C M : MS} (h : J N C M) : ∀ n, n ≤ N 1 → J N (wkLoop C n) (workLoop M n)
  | 0, _ => h
  | n + 1, hn => (h.wkLoop n (by omega)).wk (by omega)
theorem J.rec {N : Nat → Nat} {C M : MS} {t i : Nat} (h : J N C M) (ht : t < 600) (hi : i < N 1) (hN3 : N 3 ≤ 600) : J N (rcG C t i) (leaveStep M t i) := by
  have e4 : C 4 = M 4 := h.1.1 4 rfl
  have e6 : C 6 = M 6 := h.1.1 6 rfl
  have e7 : C 7 = M 7 := h.1.1 7 rfl
  unfold rcG leaveStep
  rw [← e4, ← e6, ← e7]
  by_cases hc : C 6 i = -1
  · rw [if_pos hc, if_pos hc]
    exact h
  · obtain ⟨-, x1, x2⟩ := h.2.2.2.2.1.2 i hi hc
    rw [if_neg hc, if_neg hc]
    by_cases ht7 : nT (C 7 i) = t
    · rw [if_pos ht7, if_pos (by rw [x1, ht7])]
      unfold recG
      rcases h.2.1 i with q | ⟨q, q2⟩ | q | ⟨q, q2⟩
      · rw [if_pos q, if_pos q]
        exact h.end0 hi hc q
      · rw [if_neg (by rw [q]; decide), if_neg (by rw [q]; decide), if_neg (by rw [q]; decide)]
        exact (((h.x hi).place 3).wayM 1).j (Or.inr (Or.inr (Or.inr ⟨st_at C 4 i 3, st_at _ 8 i 1⟩)))
      · rw [if_neg (by rw [q]; decide), if_neg (by rw [q]; decide), if_neg (by rw [q]; decide)]
        exact (((h.x hi).place 3).wayM 1).j (Or.inr (Or.inr (Or.inr ⟨st_at C 4 i 3, st_at _ 8 i 1⟩)))
      · rw [if_neg (by rw [q]; decide), if_neg (by rw [q]; decide), if_pos (by rw [q]; decide), st_id q]
        exact h
    · rw [if_neg ht7, if_neg (fun z => ht7 (by rw [z]; exact nI_clamp (by omega)))]
      exact h
theorem J.rcLoop {N : Nat → Nat} {C M : MS} {t : Nat} (h : J N C M) (ht : t < 600) (hN3 : N 3 ≤ 600) : ∀ n, n ≤ N 1 → J N (rcLoop C t n) (leaveLoop M t n)
  | 0, _ => h
  | n + 1, hn => (h.rcLoop ht hN3 n (by omega)).rec ht (by omega) hN3
theorem J.rst {N : Nat → Nat} {C M : MS} (h : J N C M) : ∀ n, n ≤ N 2 → J N (rstLoop C n) (restLoop M n)
  | 0, _ => h
  | n + 1, hn => by
    have ih := h.rst n (by omega)
    have e11 : rstLoop C n 11 = restLoop M n 11 := ih.1.1 11 rfl
    unfold rstLoop restLoop
    rw [← e11]
    by_cases hc : rstLoop C n 11 n ≤ 0
    · rw [if_pos hc, if_pos hc, Int32.sub_zero, e11, st_id rfl]
      exact ih
    · rw [if_neg hc, if_neg hc]
      refine ih.st11 _ _ ?_ (by omega)
      have h9 := Int32.not_le.mp hc
      rw [Int32.lt_iff_toInt_lt, Int32.toInt_zero] at h9
      have hl := Int32.toInt_lt (rstLoop C n 11 n)
      have e1 : (1 : Int32).toInt = 1 := by decide
      have e2 : (rstLoop C n 11 n - 1).toInt = (rstLoop C n 11 n).toInt - 1 := by rw [Kit.i32_sub (by omega) (by omega), e1]
      exact Kit.i32_nonneg.mpr (by omega)
