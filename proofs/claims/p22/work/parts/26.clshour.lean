/-! the class's hour, whole -/
def hr1 (N P : Nat → Nat) (C : MS) : MS := wkLoop (byLoop P (rstLoop C (N 2), cntG (rstLoop C (N 2)) P 1 (N 4)) (N 4)).1 (N 1)
def hr2 (N P : Nat → Nat) (C : MS) : MS × Int32 := lvLoop (N 1) P (hr1 N P C) (N 4)
def hrP (N P : Nat → Nat) (C : MS) : (Nat → Nat) × Nat := fgG (hr2 N P C).1 (N 4) (P, N 4)
def hrC (N P : Nat → Nat) (C : MS) : MS := scM (hr2 N P C).1 16 ((hr2 N P C).1 16 0 + 1)
/-- n hours: who is present, the state, how many have left -/
def hsG (N P : Nat → Nat) (C : MS) : Nat → (((Nat → Nat) × Nat) × MS) × Int32
  | 0 => (((P, N 4), C), 0)
  | n + 1 => ((hrP (va_up N 4 (hsG N P C n).1.1.2) (hsG N P C n).1.1.1 (hsG N P C n).1.2, hrC (va_up N 4 (hsG N P C n).1.1.2) (hsG N P C n).1.1.1 (hsG N P C n).1.2), (hsG N P C n).2 + (hr2 (va_up N 4 (hsG N P C n).1.1.2) (hsG N P C n).1.1.1 (hsG N P C n).1.2).2)
theorem fg_ok {C : MS} {n3 : Nat} : ∀ (i : Nat) (q : (Nat → Nat) × Nat), i ≤ q.2 → (∀ j, j < q.2 → q.1 j < n3) → (fgG C i q).2 ≤ q.2 ∧ ∀ j, j < (fgG C i q).2 → (fgG C i q).1 j < n3
  | 0, q, _, h => ⟨Nat.le_refl _, h⟩
  | i + 1, q, hi, h => by
    unfold fgG
    split
    · exact fg_ok i q (by omega) h
    · have h2 : ∀ j, j < q.2 - 1 → remEl q.1 i j < n3 := fun j hj => by
        unfold remEl
        split
        · exact h j (by omega)
        · exact h (j + 1) (by omega)
      obtain ⟨r1, r2⟩ := fg_ok i (remEl q.1 i, q.2 - 1) (by show i ≤ q.2 - 1; omega) h2
      exact ⟨by have h9 : (fgG C i (remEl q.1 i, q.2 - 1)).2 ≤ q.2 - 1 := r1; omega, r2⟩
theorem hr_kc (N P : Nat → Nat) (C : MS) : KC C (hr1 N P C) := wkLoop_kc (by_kc (rst_kc KC.rf _) _) _
theorem hr2_kc (N P : Nat → Nat) (C : MS) : KC C (hr2 N P C).1 := lv_kc (hr_kc N P C) _ _ _
theorem WC.hour {N P : Nat → Nat} {C : MS} (h : WC N P C) : WC (va_up N 4 (hrP N P C).2) (hrP N P C).1 (hrC N P C) := by
  have h1 : WC N P (hrC N P C) := h.keep ((hr2_kc N P C).sc (by decide))
  obtain ⟨r1, r2⟩ := fg_ok (C := (hr2 N P C).1) (n3 := N 3) (N 4) (P, N 4) (Nat.le_refl _) h.2.2.2
  obtain ⟨⟨b0, b1, b2, b3, b4⟩, h2, h3, -⟩ := h1
  refine ⟨⟨b0, b1, b2, b3, ?_⟩, h2, h3, r2⟩
  show (hrP N P C).2 ≤ 512
  have h9 : (hrP N P C).2 ≤ N 4 := r1
  omega
theorem WC.hours {N P : Nat → Nat} {C : MS} (h : WC N P C) : ∀ n, WC (va_up N 4 (hsG N P C n).1.1.2) (hsG N P C n).1.1.1 (hsG N P C n).1.2
  | 0 => by
    have e : va_up N 4 (N 4) = N := by
      funext j
      by_cases hj : j = 4
      · rw [hj]; simp [va_up]
      · simp [va_up, hj]
    show WC (va_up N 4 (N 4)) P C
    rw [e]
    exact h
  | n + 1 => by
    have h1 := (WC.hours h n).hour
    rw [bx_uu] at h1
    exact h1
theorem ZC.castN {κ : Kx} {x : Nat} {a : AD} {N N1 P : Nat → Nat} {C : MS} {L0 L : List Nat} {f0 f : Nat → va_E} (h : ZC κ x a N P C L0 f0 L f) (e : N = N1) : ZC κ x a N1 P C L0 f0 L f := e ▸ h
theorem va_up4 (N : Nat → Nat) : va_up N 4 (N 4) = N := by
  funext j
  by_cases hj : j = 4
  · rw [hj]; simp [va_up]
  · simp [va_up, hj]
