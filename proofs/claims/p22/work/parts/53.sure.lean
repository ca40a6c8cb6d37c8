/-! reading and acting, where nothing is thrown -/
theorem PM.sure {l : Launch} {κ : Kx} {y : MethodName} {ws : List Cond} {rm : Room} {av : List Value} {L : List Nat} {f : Nat → va_E} {post post' : Option Value → List Nat → (Nat → va_E) → Prop} {ex : String → Prop} {mc ms : Nat} (h : PM l κ y ws rm av L f post ex mc ms) (hex : ∀ E, ¬ ex E) (hp : ∀ v L1 f1, post v L1 f1 → post' v L1 f1) : PM l κ y ws rm av L f post' noX mc ms := by
  intro p e ha hc hk s m args below hf happ hP hK
  obtain ⟨n, o, h1, h2, h3, h4⟩ := h p e ha hc hk s m args below hf happ hP hK
  refine ⟨n, o, h1, h2, h3, ?_⟩
  rcases h4 with ⟨⟨⟨v, L1, f1, q1, q2, q3⟩, q4⟩, q5⟩ | ⟨q, q1, E, ce, L9, ⟨q2, -⟩, -⟩
  · exact Or.inl ⟨⟨⟨v, L1, f1, q1, hp v L1 f1 q2, q3⟩, q4⟩, q5⟩
  · exact absurd q2 (hex E)
theorem q_coalIn {l : Launch} (hst : l.stackTraces = false) {κ : Kx} {x : Nat} {a : AD} {N P : Nat → Nat} {C : MS} {L L0 : List Nat} {f0 f : Nat → va_E} (hz : ZC κ x a N P C L0 f0 L f) (hw : WC N P C) {w : Int32} {k : Nat} (hk : k < N 0) (hwk : w = nI k) : PM l κ yX5_coalIn wsX5_coalIn ({ frames := 7, cells := 1, slots := 6, locals := 103 } : Room) [.ref x, .int w] L f (fun v L1 f1 => v = some (.int (C 0 k)) ∧ L = L1 ∧ f = f1) noX 1 6 := by
  obtain ⟨b0, b1, b2, b3, b4⟩ := hw.1
  subst hwk
  have tk : nT (nI k) = k := nI_clamp (by omega)
  exact (g_coalIn hst hz hw).sure (fun E hE => isF_ok hk (by omega) hE.2) (fun v L1 f1 hp => ⟨by rw [hp.1, tk], hp.2.2⟩)
theorem q_placeOf {l : Launch} (hst : l.stackTraces = false) {κ : Kx} {x : Nat} {a : AD} {N P : Nat → Nat} {C : MS} {L L0 : List Nat} {f0 f : Nat → va_E} (hz : ZC κ x a N P C L0 f0 L f) (hw : WC N P C) {w : Int32} {k : Nat} (hk : k < N 1) (hwk : w = nI k) : PM l κ yX5_placeOf wsX5_placeOf ({ frames := 7, cells := 1, slots := 6, locals := 103 } : Room) [.ref x, .int w] L f (fun v L1 f1 => v = some (.int (C 4 k)) ∧ L = L1 ∧ f = f1) noX 1 6 := by
  obtain ⟨b0, b1, b2, b3, b4⟩ := hw.1
  subst hwk
  have tk : nT (nI k) = k := nI_clamp (by omega)
  exact (g_placeOf hst hz hw).sure (fun E hE => isF_ok hk (by omega) hE.2) (fun v L1 f1 hp => ⟨by rw [hp.1, tk], hp.2.2⟩)
theorem q_loadOf {l : Launch} (hst : l.stackTraces = false) {κ : Kx} {x : Nat} {a : AD} {N P : Nat → Nat} {C : MS} {L L0 : List Nat} {f0 f : Nat → va_E} (hz : ZC κ x a N P C L0 f0 L f) (hw : WC N P C) {w : Int32} {k : Nat} (hk : k < N 1) (hwk : w = nI k) : PM l κ yX5_loadOf wsX5_loadOf ({ frames := 7, cells := 1, slots := 6, locals := 103 } : Room) [.ref x, .int w] L f (fun v L1 f1 => v = some (.int (C 2 k)) ∧ L = L1 ∧ f = f1) noX 1 6 := by
  obtain ⟨b0, b1, b2, b3, b4⟩ := hw.1
  subst hwk
  have tk : nT (nI k) = k := nI_clamp (by omega)
  exact (g_loadOf hst hz hw).sure (fun E hE => isF_ok hk (by omega) hE.2) (fun v L1 f1 hp => ⟨by rw [hp.1, tk], hp.2.2⟩)
theorem q_dustIn {l : Launch} (hst : l.stackTraces = false) {κ : Kx} {x : Nat} {a : AD} {N P : Nat → Nat} {C : MS} {L L0 : List Nat} {f0 f : Nat → va_E} (hz : ZC κ x a N P C L0 f0 L f) (hw : WC N P C) {w : Int32} {k : Nat} (hk : k < N 1) (hwk : w = nI k) : PM l κ yX5_dustIn wsX5_dustIn ({ frames := 7, cells := 1, slots := 6, locals := 103 } : Room) [.ref x, .int w] L f (fun v L1 f1 => v = some (.int (C 3 k)) ∧ L = L1 ∧ f = f1) noX 1 6 := by
  obtain ⟨b0, b1, b2, b3, b4⟩ := hw.1
  subst hwk
  have tk : nT (nI k) = k := nI_clamp (by omega)
  exact (g_dustIn hst hz hw).sure (fun E hE => isF_ok hk (by omega) hE.2) (fun v L1 f1 hp => ⟨by rw [hp.1, tk], hp.2.2⟩)
theorem q_gangOn {l : Launch} (hst : l.stackTraces = false) {κ : Kx} {x : Nat} {a : AD} {N P : Nat → Nat} {C : MS} {L L0 : List Nat} {f0 f : Nat → va_E} (hz : ZC κ x a N P C L0 f0 L f) (hw : WC N P C) {w : Int32} {k : Nat} (hk : k < N 1) (hwk : w = nI k) : PM l κ yX5_gangOn wsX5_gangOn ({ frames := 7, cells := 1, slots := 6, locals := 103 } : Room) [.ref x, .int w] L f (fun v L1 f1 => v = some (.int (C 6 k)) ∧ L = L1 ∧ f = f1) noX 1 6 := by
  obtain ⟨b0, b1, b2, b3, b4⟩ := hw.1
  subst hwk
  have tk : nT (nI k) = k := nI_clamp (by omega)
  exact (g_gangOn hst hz hw).sure (fun E hE => isF_ok hk (by omega) hE.2) (fun v L1 f1 hp => ⟨by rw [hp.1, tk], hp.2.2⟩)
theorem q_restOf {l : Launch} (hst : l.stackTraces = false) {κ : Kx} {x : Nat} {a : AD} {N P : Nat → Nat} {C : MS} {L L0 : List Nat} {f0 f : Nat → va_E} (hz : ZC κ x a N P C L0 f0 L f) (hw : WC N P C) {w : Int32} {k : Nat} (hk : k < N 2) (hwk : w = nI k) : PM l κ yX5_restOf wsX5_restOf ({ frames := 7, cells := 1, slots := 6, locals := 103 } : Room) [.ref x, .int w] L f (fun v L1 f1 => v = some (.int (C 11 k)) ∧ L = L1 ∧ f = f1) noX 1 6 := by
  obtain ⟨b0, b1, b2, b3, b4⟩ := hw.1
  subst hwk
  have tk : nT (nI k) = k := nI_clamp (by omega)
  exact (g_restOf hst hz hw).sure (fun E hE => isF_ok hk (by omega) hE.2) (fun v L1 f1 hp => ⟨by rw [hp.1, tk], hp.2.2⟩)
theorem q_fateOf {l : Launch} (hst : l.stackTraces = false) {κ : Kx} {x : Nat} {a : AD} {N P : Nat → Nat} {C : MS} {L L0 : List Nat} {f0 f : Nat → va_E} (hz : ZC κ x a N P C L0 f0 L f) (hw : WC N P C) {w : Int32} {k : Nat} (hk : k < N 3) (hwk : w = nI k) : PM l κ yX5_fateOf wsX5_fateOf ({ frames := 7, cells := 1, slots := 6, locals := 103 } : Room) [.ref x, .int w] L f (fun v L1 f1 => v = some (.int (C 14 k)) ∧ L = L1 ∧ f = f1) noX 1 6 := by
  obtain ⟨b0, b1, b2, b3, b4⟩ := hw.1
  subst hwk
  have tk : nT (nI k) = k := nI_clamp (by omega)
  exact (g_fateOf hst hz hw).sure (fun E hE => isF_ok hk (by omega) hE.2) (fun v L1 f1 hp => ⟨by rw [hp.1, tk], hp.2.2⟩)
theorem q_wantOf {l : Launch} (hst : l.stackTraces = false) {κ : Kx} {x : Nat} {a : AD} {N P : Nat → Nat} {C : MS} {L L0 : List Nat} {f0 f : Nat → va_E} (hz : ZC κ x a N P C L0 f0 L f) (hw : WC N P C) {w : Int32} {k : Nat} (hk : k < N 3) (hwk : w = nI k) : PM l κ yX5_wantOf wsX5_wantOf ({ frames := 7, cells := 1, slots := 6, locals := 103 } : Room) [.ref x, .int w] L f (fun v L1 f1 => v = some (.int (C 12 k)) ∧ L = L1 ∧ f = f1) noX 1 6 := by
  obtain ⟨b0, b1, b2, b3, b4⟩ := hw.1
  subst hwk
  have tk : nT (nI k) = k := nI_clamp (by omega)
  exact (g_wantOf hst hz hw).sure (fun E hE => isF_ok hk (by omega) hE.2) (fun v L1 f1 hp => ⟨by rw [hp.1, tk], hp.2.2⟩)
theorem q_outside {l : Launch} (hst : l.stackTraces = false) {κ : Kx} {x : Nat} {a : AD} {N P : Nat → Nat} {C : MS} {L L0 : List Nat} {f0 f : Nat → va_E} (hz : ZC κ x a N P C L0 f0 L f) (hw : WC N P C) {v : Int32} (hv : ¬ v < 0) : PM l κ yX5_outside wsX5_outside ({ frames := 6, cells := 1, slots := 6, locals := 82 } : Room) [.ref x, .int v] L f (fun v9 L1 f1 => v9 = some (.int (outGo2 C P v (N 4) 0 0)) ∧ L = L1 ∧ f = f1) noX 1 6 :=
  (g_outside hst hz hw).sure (fun E hE => hv hE.2) (fun v L1 f1 hp => ⟨hp.1, hp.2.2⟩)
theorem q_hulk {l : Launch} (hst : l.stackTraces = false) {κ : Kx} {x : Nat} {a : AD} {N P : Nat → Nat} {C : MS} {L L0 : List Nat} {f0 f : Nat → va_E} (hz : ZC κ x a N P C L0 f0 L f) (hw : WC N P C) {v : Int32} (hT : hulkTG N v = 0) : PM l κ yX5_hulk wsX5_hulk ({ frames := 7, cells := 3, slots := 1507, locals := 177 } : Room) [.ref x, .int v] L f (fun v9 L1 f1 => v9 = some (.int (nI (N 0))) ∧ ∃ a1, ZC κ x a1 (va_up N 0 (N 0 + 1)) P (hulkC N C v) L f L1 f1) noX 3 1507 :=
  (g_hulk hst hz hw).sure (fun E hE => by rcases hE with ⟨-, q⟩ | ⟨-, q⟩ <;> rw [hT] at q <;> exact absurd q (by decide)) (fun v L1 f1 hp => ⟨hp.1, hp.2.2⟩)
theorem q_lighter {l : Launch} (hst : l.stackTraces = false) {κ : Kx} {x : Nat} {a : AD} {N P : Nat → Nat} {C : MS} {L L0 : List Nat} {f0 f : Nat → va_E} (hz : ZC κ x a N P C L0 f0 L f) (hw : WC N P C) {v : Int32} (hT : lighterTG N v = 0) : PM l κ yX5_lighter wsX5_lighter ({ frames := 7, cells := 3, slots := 1513, locals := 177 } : Room) [.ref x, .int v] L f (fun v9 L1 f1 => v9 = some (.int (nI (N 1))) ∧ ∃ a1, ZC κ x a1 (va_up N 1 (N 1 + 1)) P (lighterC N C v) L f L1 f1) noX 3 1513 :=
  (g_lighter hst hz hw).sure (fun E hE => by rcases hE with ⟨-, q⟩ | ⟨-, q⟩ <;> rw [hT] at q <;> exact absurd q (by decide)) (fun v L1 f1 hp => ⟨hp.1, hp.2.2⟩)
theorem q_gang {l : Launch} (hst : l.stackTraces = false) {κ : Kx} {x : Nat} {a : AD} {N P : Nat → Nat} {C : MS} {L L0 : List Nat} {f0 f : Nat → va_E} (hz : ZC κ x a N P C L0 f0 L f) (hw : WC N P C) {v : Int32} (hT : gangTG N v = 0) : PM l κ yX5_gang wsX5_gang ({ frames := 7, cells := 3, slots := 1511, locals := 177 } : Room) [.ref x, .int v] L f (fun v9 L1 f1 => v9 = some (.int (nI (N 2))) ∧ ∃ a1, ZC κ x a1 (va_up N 2 (N 2 + 1)) P (gangC N C v) L f L1 f1) noX 3 1511 :=
  (g_gang hst hz hw).sure (fun E hE => by rcases hE with ⟨-, q⟩ | ⟨-, q⟩ <;> rw [hT] at q <;> exact absurd q (by decide)) (fun v L1 f1 hp => ⟨hp.1, hp.2.2⟩)
theorem q_steamer {l : Launch} (hst : l.stackTraces = false) {κ : Kx} {x : Nat} {a : AD} {N P : Nat → Nat} {C : MS} {L L0 : List Nat} {f0 f : Nat → va_E} (hz : ZC κ x a N P C L0 f0 L f) (hw : WC N P C) {v w : Int32} (hT : steamerTG N P C v w = 0) : PM l κ yX5_steamer wsX5_steamer ({ frames := 7, cells := 5, slots := 3016, locals := 177 } : Room) [.ref x, .int v, .int w] L f (fun v9 L1 f1 => v9 = some (.int (nI (N 3))) ∧ ∃ a1, ZC κ x a1 (va_up (va_up N 3 (N 3 + 1)) 4 (N 4 + 1)) (va_up P (N 4) (N 3)) (steamerC N C v w) L f L1 f1) noX 5 3016 :=
  (g_steamer hst hz hw).sure (fun E hE => by rcases hE with ⟨-, q⟩ | ⟨-, q⟩ <;> rw [hT] at q <;> exact absurd q (by decide)) (fun v L1 f1 hp => ⟨hp.1, hp.2.2⟩)
theorem q_order {l : Launch} (hst : l.stackTraces = false) {κ : Kx} {x : Nat} {a : AD} {N P : Nat → Nat} {C : MS} {L L0 : List Nat} {f0 f : Nat → va_E} (hz : ZC κ x a N P C L0 f0 L f) (hw : WC N P C) {v w u : Int32} (hT : orderTG N C v w u = 0) : PM l κ yX5_order wsX5_order ({ frames := 7, cells := 6, slots := 36, locals := 103 } : Room) [.ref x, .int v, .int w, .int u] L f (fun v9 L1 f1 => v9 = none ∧ ∃ a1, ZC κ x a1 N P (orderG C v w u) L f L1 f1) noX 6 36 :=
  (g_order hst hz hw).sure (fun E hE => by rcases hE with ⟨-, q⟩ | ⟨-, q⟩ <;> rw [hT] at q <;> exact absurd q (by decide)) (fun v L1 f1 hp => ⟨hp.1, hp.2.2⟩)
theorem q_shift {l : Launch} (hst : l.stackTraces = false) {κ : Kx} {x : Nat} {a : AD} {N P : Nat → Nat} {C : MS} {L L0 : List Nat} {f0 f : Nat → va_E} (hz : ZC κ x a N P C L0 f0 L f) (hw : WC N P C) {v w : Int32} (hT : shiftTG N C v w = 0) : PM l κ yX5_shift wsX5_shift ({ frames := 7, cells := 3, slots := 18, locals := 103 } : Room) [.ref x, .int v, .int w] L f (fun v9 L1 f1 => v9 = none ∧ L = L1 ∧ ZC κ x a N P (shiftG C v w) L f L1 f1) noX 3 18 :=
  (g_shift hst hz hw).sure (fun E hE => by rcases hE with ⟨-, q⟩ | ⟨-, q⟩ <;> rw [hT] at q <;> exact absurd q (by decide)) (fun v L1 f1 hp => ⟨hp.1, hp.2.2⟩)
theorem q_sweep {l : Launch} (hst : l.stackTraces = false) {κ : Kx} {x : Nat} {a : AD} {N P : Nat → Nat} {C : MS} {L L0 : List Nat} {f0 f : Nat → va_E} (hz : ZC κ x a N P C L0 f0 L f) (hw : WC N P C) {v w : Int32} (hT : sweepTG N C v w = 0) : PM l κ yX5_sweep wsX5_sweep ({ frames := 7, cells := 4, slots := 24, locals := 103 } : Room) [.ref x, .int v, .int w] L f (fun v9 L1 f1 => v9 = some (.int (C 3 (nT v))) ∧ L = L1 ∧ ZC κ x a N P (sweepG C v w) L f L1 f1) noX 4 24 :=
  (g_sweep hst hz hw).sure (fun E hE => by rcases hE with ⟨-, q⟩ | ⟨-, q⟩ <;> rw [hT] at q <;> exact absurd q (by decide)) (fun v L1 f1 hp => ⟨hp.1, hp.2.2⟩)
theorem q_hours {l : Launch} (hst : l.stackTraces = false) {κ : Kx} {x : Nat} {a : AD} {N P : Nat → Nat} {C : MS} {L L0 : List Nat} {f0 f : Nat → va_E} (hz : ZC κ x a N P C L0 f0 L f) (hw : WC N P C) {v : Int32} (hT : inR v 1 500) : PM l κ yX5_hours wsX5_hours ({ frames := 7, cells := 1, slots := 6, locals := 136 } : Room) [.ref x, .int v] L f (fun v9 L1 f1 => v9 = some (.int (hsG N P C (nT v)).2) ∧ L = L1 ∧ ZC κ x a (va_up N 4 (hsG N P C (nT v)).1.1.2) (hsG N P C (nT v)).1.1.1 (hsG N P C (nT v)).1.2 L f L1 f1) noX 1 6 :=
  (g_hours hst hz hw).sure (fun E hE => hE.2 hT) (fun v L1 f1 hp => ⟨hp.1, hp.2.2⟩)
