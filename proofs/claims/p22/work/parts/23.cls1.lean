theorem x_lget {l : Launch} {κ : Kx} {x : Nat} {a : AD} {N P : Nat → Nat} {C : MS} {L L0 : List Nat} {f0 f : Nat → va_E} (hz : ZC κ x a N P C L0 f0 L f) (j : Nat) (hj : j < 5) {i : Nat} (hi : i < N j) {w : Int32} (hv : w = nI i) : PM l κ yJx4a65c_get_915e3 wsJx4a65c_get_915e3 ({ frames := 2, cells := 0, slots := 0, locals := 43 } : Room) [.ref (a 5 j), .int w] L f (fun v L1 f1 => v = some (.ref (elm a P j i)) ∧ L = L1 ∧ f = f1) noX 0 0 := by
  obtain ⟨⟨h1, mc, h2⟩, h3⟩ := hz.1.2.2.2.2.1 j hj
  rcases h3 with ⟨-, h0⟩ | ⟨cap, g, hR, hn, hg⟩
  · omega
  · exact c_get h1 h2 hR.1 hR.2.1 hv (k := i) (by omega) hR.2.2.1.2 (hg i hi) hi hn

set_option maxRecDepth 100000 in
set_option maxHeartbeats 4000000 in
theorem g_isFree {l : Launch} {κ : Kx} {x : Nat} {a : AD} {N P : Nat → Nat} {C : MS} {L L0 : List Nat} {f0 f : Nat → va_E} (hz : ZC κ x a N P C L0 f0 L f) {i : Nat} (hi : i < N 2) : PM l κ yX0_isFree wsX0_isFree ({ frames := 0, cells := 0, slots := 0, locals := 0 } : Room) [.ref (a 2 i)] L f (fun v L1 f1 => v = some (.int (freeG C i)) ∧ L = L1 ∧ f = f1) noX 0 0 := by
  refine PM.mk (cc := cX0_isFree) (maxL := 1) (ret := (some .boolean)) (by decide) rfl (Nat.le_of_ble_eq_true rfl) ?_
  intro p e s m args below meth c ls hx hb hml hr hlk hnm hown hts ht hh hl
  have hl : lv_has ls 1 [(0, .ref (a 2 i))] := hl
  have S : CallFix p m c cX0_isFree 1 s args wsX0_isFree RX0 := ⟨hx, hb, hml, hown, hts⟩
  have inX0 : ∀ w ∈ wsX00, w ∈ wsX0_isFree := by decide +kernel
  have hz := hz.self
  refine lv_aload_n hx hb dX0_isFree_0 rfl (lv_at hl 0 rfl) ?_
  refine x_get S hh hz 2 (by decide) (i := i) hi (Cn := RX0) (T := TX0) (Nn := 5) rfl inX0 2 (by decide) rfl rfl (by decide +kernel) dX0_isFree_1 ?_
  refine lv_if_ne (tgt := 18) hx hb dX0_isFree_4 (by decide) (fun c4 => ?_) (fun c4 => ?_)
  · refine lv_iconst (v := 0) hx hb dX0_isFree_18 (by decide) ?_
    exact k_zret hx hb hr hlk (rfl) hh dX0_isFree_19 (Nat.le_of_ble_eq_true rfl) (Nat.le_of_ble_eq_true rfl) ⟨congrArg (fun r => some (Value.int r)) (by unfold freeG; (repeat' split); all_goals first | rfl | contradiction), rfl, rfl⟩
  · refine lv_aload_n hx hb dX0_isFree_7 rfl (lv_at hl 0 rfl) ?_
    refine x_get S hh hz 2 (by decide) (i := i) hi (Cn := RX0) (T := TX0) (Nn := 5) rfl inX0 3 (by decide) rfl rfl (by decide +kernel) dX0_isFree_8 ?_
    refine lv_if_ne (tgt := 18) hx hb dX0_isFree_11 (by decide) (fun c11 => ?_) (fun c11 => ?_)
    · refine lv_iconst (v := 0) hx hb dX0_isFree_18 (by decide) ?_
      exact k_zret hx hb hr hlk (rfl) hh dX0_isFree_19 (Nat.le_of_ble_eq_true rfl) (Nat.le_of_ble_eq_true rfl) ⟨congrArg (fun r => some (Value.int r)) (by unfold freeG; (repeat' split); all_goals first | rfl | contradiction), rfl, rfl⟩
    · refine lv_iconst (v := 1) hx hb dX0_isFree_14 (by decide) ?_
      refine lv_goto (tgt := 19) hx hb dX0_isFree_15 (by decide) ?_
      exact k_zret hx hb hr hlk (rfl) hh dX0_isFree_19 (Nat.le_of_ble_eq_true rfl) (Nat.le_of_ble_eq_true rfl) ⟨congrArg (fun r => some (Value.int r)) (by unfold freeG; (repeat' split); all_goals first | rfl | contradiction), rfl, rfl⟩

set_option maxRecDepth 100000 in
set_option maxHeartbeats 4000000 in
theorem g_strength {l : Launch} {κ : Kx} {x : Nat} {a : AD} {N P : Nat → Nat} {C : MS} {L L0 : List Nat} {f0 f : Nat → va_E} (hz : ZC κ x a N P C L0 f0 L f) {i : Nat} {d : Int32} (hi : i < N 2) : PM l κ yX0_strength wsX0_strength ({ frames := 0, cells := 0, slots := 0, locals := 0 } : Room) [.ref (a 2 i), .int d] L f (fun v L1 f1 => v = some (.int (strG C i d)) ∧ L = L1 ∧ f = f1) noX 0 0 := by
  refine PM.mk (cc := cX0_strength) (maxL := 3) (ret := (some .int)) (by decide) rfl (Nat.le_of_ble_eq_true rfl) ?_
  intro p e s m args below meth c ls hx hb hml hr hlk hnm hown hts ht hh hl
  have hl : lv_has ls 3 [(0, .ref (a 2 i)), (1, .int d)] := hl
  have S : CallFix p m c cX0_strength 3 s args wsX0_strength RX0 := ⟨hx, hb, hml, hown, hts⟩
  have inX0 : ∀ w ∈ wsX00, w ∈ wsX0_strength := by decide +kernel
  have hz := hz.self
  refine lv_iconst (v := 4) hx hb dX0_strength_0 (by decide) ?_
  refine lv_aload_n hx hb dX0_strength_1 rfl (lv_at hl 0 rfl) ?_
  refine x_get S hh hz 2 (by decide) (i := i) hi (Cn := RX0) (T := TX0) (Nn := 5) rfl inX0 1 (by decide) rfl rfl (by decide +kernel) dX0_strength_2 ?_
  refine lv_imul hx hb dX0_strength_5 ?_
  refine lv_iload_n hx hb dX0_strength_6 rfl (lv_at hl 1 rfl) ?_
  refine lv_iconst (v := 5) hx hb dX0_strength_7 (by decide) ?_
  refine lv_idiv hx hb dX0_strength_8 (by decide) ?_
  refine lv_isub hx hb dX0_strength_9 ?_
  refine lv_topi (fun x10 e10 => ?_)
  refine lv_istore_n (lv' := [(2, .int x10), (0, .ref (a 2 i)), (1, .int d)]) hx hb dX0_strength_10 rfl hl (by decide) rfl (fun ls hl => ?_)
  refine lv_iload_n hx hb dX0_strength_11 rfl (lv_at hl 0 rfl) ?_
  refine lv_iconst (v := 1) hx hb dX0_strength_12 (by decide) ?_
  refine lv_icmp_le (tgt := 20) hx hb dX0_strength_13 (by decide) (fun c13 => ?_) (fun c13 => ?_)
  · refine lv_iconst (v := 1) hx hb dX0_strength_20 (by decide) ?_
    subst e10
    exact k_iret hx hb hr hlk hh dX0_strength_21 (Nat.le_of_ble_eq_true rfl) (Nat.le_of_ble_eq_true rfl) ⟨congrArg (fun r => some (Value.int r)) (by unfold strG; (repeat' split); all_goals first | rfl | contradiction), rfl, rfl⟩
  · refine lv_iload_n hx hb dX0_strength_16 rfl (lv_at hl 0 rfl) ?_
    refine lv_goto (tgt := 21) hx hb dX0_strength_17 (by decide) ?_
    subst e10
    exact k_iret hx hb hr hlk hh dX0_strength_21 (Nat.le_of_ble_eq_true rfl) (Nat.le_of_ble_eq_true rfl) ⟨congrArg (fun r => some (Value.int r)) (by unfold strG; (repeat' split); all_goals first | rfl | contradiction), rfl, rfl⟩

set_option maxRecDepth 100000 in
set_option maxHeartbeats 4000000 in
theorem g_lieDown {l : Launch} {κ : Kx} {x : Nat} {a : AD} {N P : Nat → Nat} {C : MS} {L L0 : List Nat} {f0 f : Nat → va_E} (hz : ZC κ x a N P C L0 f0 L f) {i : Nat} (hi : i < N 2) : PM l κ yX0_lieDown wsX0_lieDown ({ frames := 0, cells := 0, slots := 0, locals := 0 } : Room) [.ref (a 2 i)] L f (fun v L1 f1 => v = none ∧ L = L1 ∧ ZC κ x a N P (lieG C i) L f L1 f1) noX 0 0 := by
  refine PM.mk (cc := cX0_lieDown) (maxL := 1) (ret := none) (by decide) rfl (Nat.le_of_ble_eq_true rfl) ?_
  intro p e s m args below meth c ls hx hb hml hr hlk hnm hown hts ht hh hl
  have hl : lv_has ls 1 [(0, .ref (a 2 i))] := hl
  have S : CallFix p m c cX0_lieDown 1 s args wsX0_lieDown RX0 := ⟨hx, hb, hml, hown, hts⟩
  have inX0 : ∀ w ∈ wsX00, w ∈ wsX0_lieDown := by decide +kernel
  have hz := hz.self
  refine lv_aload_n hx hb dX0_lieDown_0 rfl (lv_at hl 0 rfl) ?_
  refine lv_bipush (v := 8) hx hb dX0_lieDown_1 (by decide) ?_
  refine x_put S hh hz 2 (by decide) (i := i) hi (Cn := RX0) (T := TX0) (Nn := 5) rfl inX0 tyX0 tyX0_ok nmX0 3 (by decide) (ty := .int) rfl rfl rfl rfl rfl (Nat.le_of_ble_eq_true rfl) (put2 _ _ _ _).2.1 (by decide +kernel) dX0_lieDown_3 (fun f9 H locs hh hz => ?_)
  refine lv_aload_n hx hb dX0_lieDown_6 rfl (lv_at hl 0 rfl) ?_
  refine lv_iconst (v := 0) hx hb dX0_lieDown_7 (by decide) ?_
  refine x_put S hh hz 2 (by decide) (i := i) hi (Cn := RX0) (T := TX0) (Nn := 5) rfl inX0 tyX0 tyX0_ok nmX0 4 (by decide) (ty := .int) rfl rfl rfl rfl rfl (Nat.le_of_ble_eq_true rfl) (put2 _ _ _ _).2.2 (by decide +kernel) dX0_lieDown_8 (fun f9 H locs hh hz => ?_)
  exact k_vret hx hb hr hlk hh dX0_lieDown_11 (Nat.le_of_ble_eq_true rfl) (Nat.le_of_ble_eq_true rfl) ⟨rfl, rfl, hz.cast rfl⟩

set_option maxRecDepth 100000 in
set_option maxHeartbeats 4000000 in
theorem g_hasLeft {l : Launch} {κ : Kx} {x : Nat} {a : AD} {N P : Nat → Nat} {C : MS} {L L0 : List Nat} {f0 f : Nat → va_E} (hz : ZC κ x a N P C L0 f0 L f) {i : Nat} (hi : i < N 3) : PM l κ yX4_hasLeft wsX4_hasLeft ({ frames := 0, cells := 0, slots := 0, locals := 0 } : Room) [.ref (a 3 i)] L f (fun v L1 f1 => v = some (.int (leftG C i)) ∧ L = L1 ∧ f = f1) noX 0 0 := by
  refine PM.mk (cc := cX4_hasLeft) (maxL := 1) (ret := (some .boolean)) (by decide) rfl (Nat.le_of_ble_eq_true rfl) ?_
  intro p e s m args below meth c ls hx hb hml hr hlk hnm hown hts ht hh hl
  have hl : lv_has ls 1 [(0, .ref (a 3 i))] := hl
  have S : CallFix p m c cX4_hasLeft 1 s args wsX4_hasLeft RX4 := ⟨hx, hb, hml, hown, hts⟩
  have inX4 : ∀ w ∈ wsX40, w ∈ wsX4_hasLeft := by decide +kernel
  have hz := hz.self
  refine lv_aload_n hx hb dX4_hasLeft_0 rfl (lv_at hl 0 rfl) ?_
  refine x_get S hh hz 3 (by decide) (i := i) hi (Cn := RX4) (T := TX4) (Nn := 4) rfl inX4 3 (by decide) rfl rfl (by decide +kernel) dX4_hasLeft_1 ?_
  refine lv_iconst (v := 2) hx hb dX4_hasLeft_4 (by decide) ?_
  refine lv_icmp_eq (tgt := 16) hx hb dX4_hasLeft_5 (by decide) (fun c5 => ?_) (fun c5 => ?_)
  · refine lv_iconst (v := 1) hx hb dX4_hasLeft_16 (by decide) ?_
    refine lv_goto (tgt := 21) hx hb dX4_hasLeft_17 (by decide) ?_
    exact k_zret hx hb hr hlk (rfl) hh dX4_hasLeft_21 (Nat.le_of_ble_eq_true rfl) (Nat.le_of_ble_eq_true rfl) ⟨congrArg (fun r => some (Value.int r)) (by unfold leftG; (repeat' split); all_goals first | rfl | contradiction), rfl, rfl⟩
  · refine lv_aload_n hx hb dX4_hasLeft_8 rfl (lv_at hl 0 rfl) ?_
    refine x_get S hh hz 3 (by decide) (i := i) hi (Cn := RX4) (T := TX4) (Nn := 4) rfl inX4 3 (by decide) rfl rfl (by decide +kernel) dX4_hasLeft_9 ?_
    refine lv_iconst (v := 3) hx hb dX4_hasLeft_12 (by decide) ?_
    refine lv_icmp_ne (tgt := 20) hx hb dX4_hasLeft_13 (by decide) (fun c13 => ?_) (fun c13 => ?_)
    · refine lv_iconst (v := 0) hx hb dX4_hasLeft_20 (by decide) ?_
      exact k_zret hx hb hr hlk (rfl) hh dX4_hasLeft_21 (Nat.le_of_ble_eq_true rfl) (Nat.le_of_ble_eq_true rfl) ⟨congrArg (fun r => some (Value.int r)) (by unfold leftG; (repeat' split); all_goals first | rfl | contradiction), rfl, rfl⟩
    · refine lv_iconst (v := 1) hx hb dX4_hasLeft_16 (by decide) ?_
      refine lv_goto (tgt := 21) hx hb dX4_hasLeft_17 (by decide) ?_
      exact k_zret hx hb hr hlk (rfl) hh dX4_hasLeft_21 (Nat.le_of_ble_eq_true rfl) (Nat.le_of_ble_eq_true rfl) ⟨congrArg (fun r => some (Value.int r)) (by unfold leftG; (repeat' split); all_goals first | rfl | contradiction), rfl, rfl⟩

set_option maxRecDepth 100000 in
set_option maxHeartbeats 4000000 in
theorem g_endOrder {l : Launch} {κ : Kx} {x : Nat} {a : AD} {N P : Nat → Nat} {C : MS} {L L0 : List Nat} {f0 f : Nat → va_E} (hz : ZC κ x a N P C L0 f0 L f) {i : Nat} (hi : i < N 1) (h6 : ¬ C 6 i = -1) (hg : nT (C 6 i) < N 2) (ht7 : nT (C 7 i) < N 3) (hh5 : nT (C 5 i) < N 0) : PM l κ yX5_endOrder wsX5_endOrder ({ frames := 1, cells := 0, slots := 0, locals := 20 } : Room) [.ref (a 1 i), .ref (a 4 i)] L f (fun v L1 f1 => v = none ∧ L = L1 ∧ ZC κ x a N P (endG C i) L f L1 f1) noX 0 0 := by
  refine PM.mk (cc := cX5_endOrder) (maxL := 3) (ret := none) (by decide) rfl (Nat.le_of_ble_eq_true rfl) ?_
  intro p e s m args below meth c ls hx hb hml hr hlk hnm hown hts ht hh hl
  have hl : lv_has ls 3 [(0, .ref (a 1 i)), (1, .ref (a 4 i))] := hl
  have S : CallFix p m c cX5_endOrder 3 s args wsX5_endOrder RX5 := ⟨hx, hb, hml, hown, hts⟩
  have inX0 : ∀ w ∈ wsX00, w ∈ wsX5_endOrder := by decide +kernel
  have inX2 : ∀ w ∈ wsX20, w ∈ wsX5_endOrder := by decide +kernel
  have inX3 : ∀ w ∈ wsX30, w ∈ wsX5_endOrder := by decide +kernel
  have hz := hz.self
  refine lv_aload_n hx hb dX5_endOrder_0 rfl (lv_at hl 1 rfl) ?_
  refine o_get S hh hz hi h6 inX3 0 (by decide) rfl rfl (by decide +kernel) dX5_endOrder_1 ?_
  refine lv_astore_n (lv' := [(2, .ref (a 2 (nT (C 6 i)))), (0, .ref (a 1 i)), (1, .ref (a 4 i))]) hx hb dX5_endOrder_4 rfl hl (by decide) rfl (fun ls hl => ?_)
  refine lv_aload_n hx hb dX5_endOrder_5 rfl (lv_at hl 1 rfl) ?_
  refine lv_null hx hb dX5_endOrder_6 ?_
  refine x_put S hh hz 1 (by decide) (i := i) hi (Cn := RX2) (T := TX2) (Nn := 7) rfl inX2 tyX2 tyX2_ok nmX2 6 (by decide) (ty := .object "CoalHulks$Order") rfl rfl rfl rfl rfl (Nat.le_of_ble_eq_true rfl) (put1n _ _ _) (by decide +kernel) dX5_endOrder_7 (fun f9 H locs hh hz => ?_)
  refine lv_aload_n hx hb dX5_endOrder_10 rfl (lv_at hl 0 rfl) ?_
  refine lv_iconst (v := 0) hx hb dX5_endOrder_11 (by decide) ?_
  refine x_put S hh hz 2 (by decide) (i := (nT (C 6 i))) hg (Cn := RX0) (T := TX0) (Nn := 5) rfl inX0 tyX0 tyX0_ok nmX0 2 (by decide) (ty := .boolean) rfl rfl rfl rfl rfl (Nat.le_of_ble_eq_true rfl) (put2 _ _ _ _).1 (by decide +kernel) dX5_endOrder_12 (fun f9 H locs hh hz => ?_)
  refine lv_aload_n hx hb dX5_endOrder_15 rfl (lv_at hl 0 rfl) ?_
  refine x_get S hh hz 2 (by decide) (i := (nT (C 6 i))) hg (Cn := RX0) (T := TX0) (Nn := 5) rfl inX0 4 (by decide) rfl rfl (by decide +kernel) dX5_endOrder_16 ?_
  refine lv_bipush (v := 8) hx hb dX5_endOrder_19 (by decide) ?_
  refine lv_icmp_lt (tgt := 28) hx hb dX5_endOrder_21 (by decide) (fun c21 => ?_) (fun c21 => ?_)
  · have d21 : (C 10 (nT (C 6 i))) < 8 := c21
    exact k_vret hx hb hr hlk hh dX5_endOrder_28 (Nat.le_of_ble_eq_true rfl) (Nat.le_of_ble_eq_true rfl) ⟨rfl, rfl, hz.cast (by unfold endG ashG; (repeat' split); all_goals first | rfl | contradiction)⟩
  · have d21 : ¬ (C 10 (nT (C 6 i))) < 8 := c21
    refine lv_aload_n hx hb dX5_endOrder_24 rfl (lv_at hl 0 rfl) ?_
    refine k_callV0 (As := []) (g_lieDown hz (i := (nT (C 6 i))) hg) S hh (cwV 0 hts gX5_endOrder_X0_lieDown rfl rfl rfl (by decide +kernel) ⟨(Nat.le_of_ble_eq_true rfl), (Nat.le_of_ble_eq_true rfl)⟩) (hz.1.2.1 2 (nT (C 6 i)) (by decide) hg).1 (hz.1.2.1 2 (nT (C 6 i)) (by decide) hg).2 (q := (RX0, TX0, 5)) rfl rfl rfl hl.1 rfl (Nat.le_of_ble_eq_true rfl) dX5_endOrder_25 ⟨(Nat.le_of_ble_eq_true rfl), (Nat.le_of_ble_eq_true rfl)⟩ (fun v L1 f1 H locs hp hh => ?_)
    obtain ⟨rfl, hL1, hz1⟩ := hp
    subst hL1
    have hz := hz.trans hz1
    exact k_vret hx hb hr hlk hh dX5_endOrder_28 (Nat.le_of_ble_eq_true rfl) (Nat.le_of_ble_eq_true rfl) ⟨rfl, rfl, hz.cast (by unfold endG ashG; (repeat' split); all_goals first | rfl | contradiction)⟩

set_option maxRecDepth 100000 in
set_option maxHeartbeats 4000000 in
theorem g_comeHome {l : Launch} {κ : Kx} {x : Nat} {a : AD} {N P : Nat → Nat} {C : MS} {L L0 : List Nat} {f0 f : Nat → va_E} (hz : ZC κ x a N P C L0 f0 L f) {i : Nat} (hi : i < N 1) (h6 : ¬ C 6 i = -1) (hg : nT (C 6 i) < N 2) (ht7 : nT (C 7 i) < N 3) (hh5 : nT (C 5 i) < N 0) : PM l κ yX5_comeHome wsX5_comeHome ({ frames := 2, cells := 0, slots := 0, locals := 42 } : Room) [.ref (a 1 i), .ref (a 4 i)] L f (fun v L1 f1 => v = none ∧ L = L1 ∧ ZC κ x a N P (comeG C i) L f L1 f1) noX 0 0 := by
  refine PM.mk (cc := cX5_comeHome) (maxL := 2) (ret := none) (by decide) rfl (Nat.le_of_ble_eq_true rfl) ?_
  intro p e s m args below meth c ls hx hb hml hr hlk hnm hown hts ht hh hl
  have hl : lv_has ls 2 [(0, .ref (a 1 i)), (1, .ref (a 4 i))] := hl
  have S : CallFix p m c cX5_comeHome 2 s args wsX5_comeHome RX5 := ⟨hx, hb, hml, hown, hts⟩
  have inX0 : ∀ w ∈ wsX00, w ∈ wsX5_comeHome := by decide +kernel
  have inX2 : ∀ w ∈ wsX20, w ∈ wsX5_comeHome := by decide +kernel
  have inX3 : ∀ w ∈ wsX30, w ∈ wsX5_comeHome := by decide +kernel
  have hz := hz.self
  refine lv_aload_n hx hb dX5_comeHome_0 rfl (lv_at hl 0 rfl) ?_
  refine lv_iconst (v := 0) hx hb dX5_comeHome_1 (by decide) ?_
  refine x_put S hh hz 1 (by decide) (i := i) hi (Cn := RX2) (T := TX2) (Nn := 7) rfl inX2 tyX2 tyX2_ok nmX2 3 (by decide) (ty := .int) rfl rfl rfl rfl rfl (Nat.le_of_ble_eq_true rfl) (put1 _ _ _ _).2.2.1 (by decide +kernel) dX5_comeHome_2 (fun f9 H locs hh hz => ?_)
  refine lv_aload_n hx hb dX5_comeHome_5 rfl (lv_at hl 0 rfl) ?_
  refine lv_aload_n hx hb dX5_comeHome_6 rfl (lv_at hl 1 rfl) ?_
  refine k_callS0 (As := [.ref (a 1 i), .ref (a 4 i)]) (g_endOrder hz hi h6 hg ht7 hh5) S hh (va_cwS 2 hts gX5_comeHome_X5_endOrder rfl rfl rfl (by decide +kernel) ⟨(Nat.le_of_ble_eq_true rfl), (Nat.le_of_ble_eq_true rfl)⟩) rfl hl.1 rfl (Nat.le_of_ble_eq_true rfl) dX5_comeHome_7 ⟨(Nat.le_of_ble_eq_true rfl), (Nat.le_of_ble_eq_true rfl)⟩ (fun v L1 f1 H locs hp hh => ?_)
  obtain ⟨rfl, hL1, hz1⟩ := hp
  subst hL1
  have hz := hz.trans hz1
  exact k_vret hx hb hr hlk hh dX5_comeHome_10 (Nat.le_of_ble_eq_true rfl) (Nat.le_of_ble_eq_true rfl) ⟨rfl, rfl, hz.cast rfl⟩

set_option maxRecDepth 100000 in
set_option maxHeartbeats 4000000 in
theorem g_recall {l : Launch} {κ : Kx} {x : Nat} {a : AD} {N P : Nat → Nat} {C : MS} {L L0 : List Nat} {f0 f : Nat → va_E} (hz : ZC κ x a N P C L0 f0 L f) {i : Nat} (hi : i < N 1) (h6 : ¬ C 6 i = -1) (hg : nT (C 6 i) < N 2) (ht7 : nT (C 7 i) < N 3) (hh5 : nT (C 5 i) < N 0) : PM l κ yX5_recall wsX5_recall ({ frames := 2, cells := 0, slots := 0, locals := 42 } : Room) [.ref (a 1 i), .ref (a 4 i)] L f (fun v L1 f1 => v = none ∧ L = L1 ∧ ZC κ x a N P (recG C i) L f L1 f1) noX 0 0 := by
  refine PM.mk (cc := cX5_recall) (maxL := 2) (ret := none) (by decide) rfl (Nat.le_of_ble_eq_true rfl) ?_
  intro p e s m args below meth c ls hx hb hml hr hlk hnm hown hts ht hh hl
  have hl : lv_has ls 2 [(0, .ref (a 1 i)), (1, .ref (a 4 i))] := hl
  have S : CallFix p m c cX5_recall 2 s args wsX5_recall RX5 := ⟨hx, hb, hml, hown, hts⟩
  have inX0 : ∀ w ∈ wsX00, w ∈ wsX5_recall := by decide +kernel
  have inX2 : ∀ w ∈ wsX20, w ∈ wsX5_recall := by decide +kernel
  have inX3 : ∀ w ∈ wsX30, w ∈ wsX5_recall := by decide +kernel
  have hz := hz.self
  refine lv_aload_n hx hb dX5_recall_0 rfl (lv_at hl 0 rfl) ?_
  refine x_get S hh hz 1 (by decide) (i := i) hi (Cn := RX2) (T := TX2) (Nn := 7) rfl inX2 3 (by decide) rfl rfl (by decide +kernel) dX5_recall_1 ?_
  refine lv_if_ne (tgt := 15) hx hb dX5_recall_4 (by decide) (fun c4 => ?_) (fun c4 => ?_)
  · refine lv_aload_n hx hb dX5_recall_15 rfl (lv_at hl 0 rfl) ?_
    refine lv_iconst (v := 3) hx hb dX5_recall_16 (by decide) ?_
    refine x_put S hh hz 1 (by decide) (i := i) hi (Cn := RX2) (T := TX2) (Nn := 7) rfl inX2 tyX2 tyX2_ok nmX2 3 (by decide) (ty := .int) rfl rfl rfl rfl rfl (Nat.le_of_ble_eq_true rfl) (put1 _ _ _ _).2.2.1 (by decide +kernel) dX5_recall_17 (fun f9 H locs hh hz => ?_)
    exact k_vret hx hb hr hlk hh dX5_recall_20 (Nat.le_of_ble_eq_true rfl) (Nat.le_of_ble_eq_true rfl) ⟨rfl, rfl, hz.cast (by unfold recG; (repeat' split); all_goals first | rfl | contradiction)⟩
  · refine lv_aload_n hx hb dX5_recall_7 rfl (lv_at hl 0 rfl) ?_
    refine lv_aload_n hx hb dX5_recall_8 rfl (lv_at hl 1 rfl) ?_
    refine k_callS0 (As := [.ref (a 1 i), .ref (a 4 i)]) (g_endOrder hz hi h6 hg ht7 hh5) S hh (va_cwS 2 hts gX5_recall_X5_endOrder rfl rfl rfl (by decide +kernel) ⟨(Nat.le_of_ble_eq_true rfl), (Nat.le_of_ble_eq_true rfl)⟩) rfl hl.1 rfl (Nat.le_of_ble_eq_true rfl) dX5_recall_9 ⟨(Nat.le_of_ble_eq_true rfl), (Nat.le_of_ble_eq_true rfl)⟩ (fun v L1 f1 H locs hp hh => ?_)
    obtain ⟨rfl, hL1, hz1⟩ := hp
    subst hL1
    have hz := hz.trans hz1
    refine lv_goto (tgt := 20) hx hb dX5_recall_12 (by decide) ?_
    exact k_vret hx hb hr hlk hh dX5_recall_20 (Nat.le_of_ble_eq_true rfl) (Nat.le_of_ble_eq_true rfl) ⟨rfl, rfl, hz.cast (by unfold recG; (repeat' split); all_goals first | rfl | contradiction)⟩

set_option maxRecDepth 100000 in
set_option maxHeartbeats 4000000 in
theorem g_goOutward {l : Launch} {κ : Kx} {x : Nat} {a : AD} {N P : Nat → Nat} {C : MS} {L L0 : List Nat} {f0 f : Nat → va_E} (hz : ZC κ x a N P C L0 f0 L f) {i : Nat} (hi : i < N 1) (h6 : ¬ C 6 i = -1) (hg : nT (C 6 i) < N 2) (ht7 : nT (C 7 i) < N 3) (hh5 : nT (C 5 i) < N 0) : PM l κ yX5_goOutward wsX5_goOutward ({ frames := 0, cells := 0, slots := 0, locals := 0 } : Room) [.ref (a 1 i)] L f (fun v L1 f1 => v = none ∧ L = L1 ∧ ZC κ x a N P (goG C i) L f L1 f1) noX 0 0 := by
  refine PM.mk (cc := cX5_goOutward) (maxL := 1) (ret := none) (by decide) rfl (Nat.le_of_ble_eq_true rfl) ?_
  intro p e s m args below meth c ls hx hb hml hr hlk hnm hown hts ht hh hl
  have hl : lv_has ls 1 [(0, .ref (a 1 i))] := hl
  have S : CallFix p m c cX5_goOutward 1 s args wsX5_goOutward RX5 := ⟨hx, hb, hml, hown, hts⟩
  have inX2 : ∀ w ∈ wsX20, w ∈ wsX5_goOutward := by decide +kernel
  have hz := hz.self
  refine lv_aload_n hx hb dX5_goOutward_0 rfl (lv_at hl 0 rfl) ?_
  refine lv_dup hx hb dX5_goOutward_1 rfl ?_
  refine x_get S hh hz 1 (by decide) (i := i) hi (Cn := RX2) (T := TX2) (Nn := 7) rfl inX2 4 (by decide) rfl rfl (by decide +kernel) dX5_goOutward_2 ?_
  refine lv_iconst (v := 1) hx hb dX5_goOutward_5 (by decide) ?_
  refine lv_iadd hx hb dX5_goOutward_6 ?_
  refine x_put S hh hz 1 (by decide) (i := i) hi (Cn := RX2) (T := TX2) (Nn := 7) rfl inX2 tyX2 tyX2_ok nmX2 4 (by decide) (ty := .int) rfl rfl rfl rfl rfl (Nat.le_of_ble_eq_true rfl) (put1 _ _ _ _).2.2.2 (by decide +kernel) dX5_goOutward_7 (fun f9 H locs hh hz => ?_)
  refine lv_aload_n hx hb dX5_goOutward_10 rfl (lv_at hl 0 rfl) ?_
  refine x_get S hh hz 1 (by decide) (i := i) hi (Cn := RX2) (T := TX2) (Nn := 7) rfl inX2 4 (by decide) rfl rfl (by decide +kernel) dX5_goOutward_11 ?_
  refine lv_iconst (v := 2) hx hb dX5_goOutward_14 (by decide) ?_
  refine lv_icmp_lt (tgt := 23) hx hb dX5_goOutward_15 (by decide) (fun c15 => ?_) (fun c15 => ?_)
  · have d15 : ((stM C 8 i ((C 8 i) + 1)) 8 i) < 2 := c15
    exact k_vret hx hb hr hlk hh dX5_goOutward_23 (Nat.le_of_ble_eq_true rfl) (Nat.le_of_ble_eq_true rfl) ⟨rfl, rfl, hz.cast (by unfold goG; (repeat' split); all_goals first | rfl | contradiction)⟩
  · have d15 : ¬ ((stM C 8 i ((C 8 i) + 1)) 8 i) < 2 := c15
    refine lv_aload_n hx hb dX5_goOutward_18 rfl (lv_at hl 0 rfl) ?_
    refine lv_iconst (v := 2) hx hb dX5_goOutward_19 (by decide) ?_
    refine x_put S hh hz 1 (by decide) (i := i) hi (Cn := RX2) (T := TX2) (Nn := 7) rfl inX2 tyX2 tyX2_ok nmX2 3 (by decide) (ty := .int) rfl rfl rfl rfl rfl (Nat.le_of_ble_eq_true rfl) (put1 _ _ _ _).2.2.1 (by decide +kernel) dX5_goOutward_20 (fun f9 H locs hh hz => ?_)
    exact k_vret hx hb hr hlk hh dX5_goOutward_23 (Nat.le_of_ble_eq_true rfl) (Nat.le_of_ble_eq_true rfl) ⟨rfl, rfl, hz.cast (by unfold goG; (repeat' split); all_goals first | rfl | contradiction)⟩

set_option maxRecDepth 100000 in
set_option maxHeartbeats 4000000 in
theorem g_shovH {l : Launch} {κ : Kx} {x : Nat} {a : AD} {N P : Nat → Nat} {C : MS} {L L0 : List Nat} {f0 f : Nat → va_E} (hz : ZC κ x a N P C L0 f0 L f) {i : Nat} (hi : i < N 1) (h6 : ¬ C 6 i = -1) (hg : nT (C 6 i) < N 2) (ht7 : nT (C 7 i) < N 3) (hh5 : nT (C 5 i) < N 0) : PM l κ yX5_shovelFromHulk wsX5_shovelFromHulk ({ frames := 1, cells := 0, slots := 0, locals := 22 } : Room) [.ref (a 1 i), .ref (a 2 (nT (C 6 i)))] L f (fun v L1 f1 => v = none ∧ L = L1 ∧ ZC κ x a N P (shovHG C i (nT (C 6 i))) L f L1 f1) noX 0 0 := by
  refine PM.mk (cc := cX5_shovelFromHulk) (maxL := 5) (ret := none) (by decide) rfl (Nat.le_of_ble_eq_true rfl) ?_
  intro p e s m args below meth c ls hx hb hml hr hlk hnm hown hts ht hh hl
  have hl : lv_has ls 5 [(0, .ref (a 1 i)), (1, .ref (a 2 (nT (C 6 i))))] := hl
  have S : CallFix p m c cX5_shovelFromHulk 5 s args wsX5_shovelFromHulk RX5 := ⟨hx, hb, hml, hown, hts⟩
  have inX0 : ∀ w ∈ wsX00, w ∈ wsX5_shovelFromHulk := by decide +kernel
  have inX1 : ∀ w ∈ wsX10, w ∈ wsX5_shovelFromHulk := by decide +kernel
  have inX2 : ∀ w ∈ wsX20, w ∈ wsX5_shovelFromHulk := by decide +kernel
  have hz := hz.self
  refine lv_aload_n hx hb dX5_shovelFromHulk_0 rfl (lv_at hl 0 rfl) ?_
  refine x_get S hh hz 1 (by decide) (i := i) hi (Cn := RX2) (T := TX2) (Nn := 7) rfl inX2 5 (by decide) rfl rfl (by decide +kernel) dX5_shovelFromHulk_1 ?_
  refine x_get S hh hz 0 (by decide) (i := (nT (C 5 i))) hh5 (Cn := RX1) (T := TX1) (Nn := 1) rfl inX1 0 (by decide) rfl rfl (by decide +kernel) dX5_shovelFromHulk_4 ?_
  refine lv_aload_n hx hb dX5_shovelFromHulk_7 rfl (lv_at hl 0 rfl) ?_
  refine x_get S hh hz 1 (by decide) (i := i) hi (Cn := RX2) (T := TX2) (Nn := 7) rfl inX2 0 (by decide) rfl rfl (by decide +kernel) dX5_shovelFromHulk_8 ?_
  refine lv_aload_n hx hb dX5_shovelFromHulk_11 rfl (lv_at hl 0 rfl) ?_
  refine x_get S hh hz 1 (by decide) (i := i) hi (Cn := RX2) (T := TX2) (Nn := 7) rfl inX2 1 (by decide) rfl rfl (by decide +kernel) dX5_shovelFromHulk_12 ?_
  refine lv_isub hx hb dX5_shovelFromHulk_15 ?_
  refine va_mmin hx hb (hml.trans hl.1.symm) hown (hts (.methodLink RX5 243 Lib.Math.min.name) (by decide +kernel)) (hts (.static Lib.Math.min.name) (by decide +kernel)) (hts (.initialized "java/lang/Math") (by decide +kernel)) (hts (.code Lib.Math.min.name Lib.Math.min.code 2 (some .int)) (by decide +kernel)) (Nat.le_of_ble_eq_true rfl) (Nat.le_of_ble_eq_true rfl) (Nat.le_of_ble_eq_true rfl) (Nat.le_of_ble_eq_true rfl) dX5_shovelFromHulk_16 ?_
  refine lv_topi (fun x19 e19 => ?_)
  refine lv_istore_n (lv' := [(2, .int x19), (0, .ref (a 1 i)), (1, .ref (a 2 (nT (C 6 i))))]) hx hb dX5_shovelFromHulk_19 rfl hl (by decide) rfl (fun ls hl => ?_)
  refine lv_aload_n hx hb dX5_shovelFromHulk_20 rfl (lv_at hl 2 rfl) ?_
  refine lv_aload_n hx hb dX5_shovelFromHulk_21 rfl (lv_at hl 1 rfl) ?_
  refine x_get S hh hz 1 (by decide) (i := i) hi (Cn := RX2) (T := TX2) (Nn := 7) rfl inX2 2 (by decide) rfl rfl (by decide +kernel) dX5_shovelFromHulk_22 ?_
  refine k_callV0 (As := [.int (C 3 i)]) (g_strength hz (i := (nT (C 6 i))) (d := (C 3 i)) hg) S hh (cwV 1 hts gX5_shovelFromHulk_X0_strength rfl rfl rfl (by decide +kernel) ⟨(Nat.le_of_ble_eq_true rfl), (Nat.le_of_ble_eq_true rfl)⟩) (hz.1.2.1 2 (nT (C 6 i)) (by decide) hg).1 (hz.1.2.1 2 (nT (C 6 i)) (by decide) hg).2 (q := (RX0, TX0, 5)) rfl rfl rfl hl.1 rfl (Nat.le_of_ble_eq_true rfl) dX5_shovelFromHulk_25 ⟨(Nat.le_of_ble_eq_true rfl), (Nat.le_of_ble_eq_true rfl)⟩ (fun v L1 f1 H locs hp hh => ?_)
  obtain ⟨rfl, hL1, hf1⟩ := hp
  subst hL1; subst hf1
  refine lv_iload_n hx hb dX5_shovelFromHulk_28 rfl (lv_at hl 0 rfl) ?_
  refine va_mmin hx hb (hml.trans hl.1.symm) hown (hts (.methodLink RX5 243 Lib.Math.min.name) (by decide +kernel)) (hts (.static Lib.Math.min.name) (by decide +kernel)) (hts (.initialized "java/lang/Math") (by decide +kernel)) (hts (.code Lib.Math.min.name Lib.Math.min.code 2 (some .int)) (by decide +kernel)) (Nat.le_of_ble_eq_true rfl) (Nat.le_of_ble_eq_true rfl) (Nat.le_of_ble_eq_true rfl) (Nat.le_of_ble_eq_true rfl) dX5_shovelFromHulk_29 ?_
  refine lv_topi (fun x32 e32 => ?_)
  refine lv_istore_n (lv' := [(3, .int x32), (2, .int x19), (0, .ref (a 1 i)), (1, .ref (a 2 (nT (C 6 i))))]) hx hb dX5_shovelFromHulk_32 rfl hl (by decide) rfl (fun ls hl => ?_)
  refine lv_iload_n hx hb dX5_shovelFromHulk_33 rfl (lv_at hl 0 rfl) ?_
  refine lv_bipush (v := 50) hx hb dX5_shovelFromHulk_34 (by decide) ?_
  refine lv_idiv hx hb dX5_shovelFromHulk_36 (by decide) ?_
  refine lv_topi (fun x37 e37 => ?_)
  refine lv_istore (lv' := [(4, .int x37), (3, .int x32), (2, .int x19), (0, .ref (a 1 i)), (1, .ref (a 2 (nT (C 6 i))))]) hx hb dX5_shovelFromHulk_37 hl (by decide) rfl (fun ls hl => ?_)
  refine lv_aload_n hx hb dX5_shovelFromHulk_39 rfl (lv_at hl 3 rfl) ?_
  refine x_get S hh hz 1 (by decide) (i := i) hi (Cn := RX2) (T := TX2) (Nn := 7) rfl inX2 5 (by decide) rfl rfl (by decide +kernel) dX5_shovelFromHulk_40 ?_
  refine lv_dup hx hb dX5_shovelFromHulk_43 rfl ?_
  refine x_get S hh hz 0 (by decide) (i := (nT (C 5 i))) hh5 (Cn := RX1) (T := TX1) (Nn := 1) rfl inX1 0 (by decide) rfl rfl (by decide +kernel) dX5_shovelFromHulk_44 ?_
  refine lv_iload_n hx hb dX5_shovelFromHulk_47 rfl (lv_at hl 1 rfl) ?_
  refine lv_isub hx hb dX5_shovelFromHulk_48 ?_
  refine x_put S hh hz 0 (by decide) (i := (nT (C 5 i))) hh5 (Cn := RX1) (T := TX1) (Nn := 1) rfl inX1 tyX1 tyX1_ok nmX1 0 (by decide) (ty := .int) rfl rfl rfl rfl rfl (Nat.le_of_ble_eq_true rfl) (put0 _ _ _ _) (by decide +kernel) dX5_shovelFromHulk_49 (fun f9 H locs hh hz => ?_)
  refine lv_aload_n hx hb dX5_shovelFromHulk_52 rfl (lv_at hl 3 rfl) ?_
  refine lv_dup hx hb dX5_shovelFromHulk_53 rfl ?_
  refine x_get S hh hz 1 (by decide) (i := i) hi (Cn := RX2) (T := TX2) (Nn := 7) rfl inX2 1 (by decide) rfl rfl (by decide +kernel) dX5_shovelFromHulk_54 ?_
  refine lv_iload_n hx hb dX5_shovelFromHulk_57 rfl (lv_at hl 1 rfl) ?_
  refine lv_iload hx hb dX5_shovelFromHulk_58 (lv_at hl 0 rfl) ?_
  refine lv_isub hx hb dX5_shovelFromHulk_60 ?_
  refine lv_iadd hx hb dX5_shovelFromHulk_61 ?_
  refine x_put S hh hz 1 (by decide) (i := i) hi (Cn := RX2) (T := TX2) (Nn := 7) rfl inX2 tyX2 tyX2_ok nmX2 1 (by decide) (ty := .int) rfl rfl rfl rfl rfl (Nat.le_of_ble_eq_true rfl) (put1 _ _ _ _).1 (by decide +kernel) dX5_shovelFromHulk_62 (fun f9 H locs hh hz => ?_)
  refine lv_aload_n hx hb dX5_shovelFromHulk_65 rfl (lv_at hl 3 rfl) ?_
  refine lv_dup hx hb dX5_shovelFromHulk_66 rfl ?_
  refine x_get S hh hz 1 (by decide) (i := i) hi (Cn := RX2) (T := TX2) (Nn := 7) rfl inX2 2 (by decide) rfl rfl (by decide +kernel) dX5_shovelFromHulk_67 ?_
  refine lv_iload hx hb dX5_shovelFromHulk_70 (lv_at hl 0 rfl) ?_
  refine lv_iadd hx hb dX5_shovelFromHulk_72 ?_
  refine x_put S hh hz 1 (by decide) (i := i) hi (Cn := RX2) (T := TX2) (Nn := 7) rfl inX2 tyX2 tyX2_ok nmX2 2 (by decide) (ty := .int) rfl rfl rfl rfl rfl (Nat.le_of_ble_eq_true rfl) (put1 _ _ _ _).2.1 (by decide +kernel) dX5_shovelFromHulk_73 (fun f9 H locs hh hz => ?_)
  subst e37
  subst e32
  subst e19
  exact k_vret hx hb hr hlk hh dX5_shovelFromHulk_76 (Nat.le_of_ble_eq_true rfl) (Nat.le_of_ble_eq_true rfl) ⟨rfl, rfl, hz.cast rfl⟩

set_option maxRecDepth 100000 in
set_option maxHeartbeats 4000000 in
theorem g_workH {l : Launch} {κ : Kx} {x : Nat} {a : AD} {N P : Nat → Nat} {C : MS} {L L0 : List Nat} {f0 f : Nat → va_E} (hz : ZC κ x a N P C L0 f0 L f) {i : Nat} (hi : i < N 1) (h6 : ¬ C 6 i = -1) (hg : nT (C 6 i) < N 2) (ht7 : nT (C 7 i) < N 3) (hh5 : nT (C 5 i) < N 0) : PM l κ yX5_workAtHulk wsX5_workAtHulk ({ frames := 2, cells := 0, slots := 0, locals := 46 } : Room) [.ref (a 1 i), .ref (a 4 i)] L f (fun v L1 f1 => v = none ∧ L = L1 ∧ ZC κ x a N P (workHG C i) L f L1 f1) noX 0 0 := by
  refine PM.mk (cc := cX5_workAtHulk) (maxL := 3) (ret := none) (by decide) rfl (Nat.le_of_ble_eq_true rfl) ?_
  intro p e s m args below meth c ls hx hb hml hr hlk hnm hown hts ht hh hl
  have hl : lv_has ls 3 [(0, .ref (a 1 i)), (1, .ref (a 4 i))] := hl
  have S : CallFix p m c cX5_workAtHulk 3 s args wsX5_workAtHulk RX5 := ⟨hx, hb, hml, hown, hts⟩
  have inX0 : ∀ w ∈ wsX00, w ∈ wsX5_workAtHulk := by decide +kernel
  have inX1 : ∀ w ∈ wsX10, w ∈ wsX5_workAtHulk := by decide +kernel
  have inX2 : ∀ w ∈ wsX20, w ∈ wsX5_workAtHulk := by decide +kernel
  have inX3 : ∀ w ∈ wsX30, w ∈ wsX5_workAtHulk := by decide +kernel
  have hz := hz.self
  refine lv_aload_n hx hb dX5_workAtHulk_0 rfl (lv_at hl 0 rfl) ?_
  refine x_get S hh hz 1 (by decide) (i := i) hi (Cn := RX2) (T := TX2) (Nn := 7) rfl inX2 1 (by decide) rfl rfl (by decide +kernel) dX5_workAtHulk_1 ?_
  refine lv_aload_n hx hb dX5_workAtHulk_4 rfl (lv_at hl 0 rfl) ?_
  refine x_get S hh hz 1 (by decide) (i := i) hi (Cn := RX2) (T := TX2) (Nn := 7) rfl inX2 0 (by decide) rfl rfl (by decide +kernel) dX5_workAtHulk_5 ?_
  refine lv_icmp_ge (tgt := 21) hx hb dX5_workAtHulk_8 (by decide) (fun c8 => ?_) (fun c8 => ?_)
  · refine lv_iconst (v := 1) hx hb dX5_workAtHulk_21 (by decide) ?_
    refine lv_goto (tgt := 26) hx hb dX5_workAtHulk_22 (by decide) ?_
    refine lv_istore_n (lv' := [(2, .int 1), (0, .ref (a 1 i)), (1, .ref (a 4 i))]) hx hb dX5_workAtHulk_26 rfl hl (by decide) rfl (fun ls hl => ?_)
    refine lv_iload_n hx hb dX5_workAtHulk_27 rfl (lv_at hl 0 rfl) ?_
    refine lv_if_ne (tgt := 42) hx hb dX5_workAtHulk_28 (by decide) (fun _ => ?_) (fun c => absurd (show (1 : Int32) = (0 : Int32) from c) (by decide))
    refine lv_aload_n hx hb dX5_workAtHulk_42 rfl (lv_at hl 1 rfl) ?_
    refine x_get S hh hz 1 (by decide) (i := i) hi (Cn := RX2) (T := TX2) (Nn := 7) rfl inX2 1 (by decide) rfl rfl (by decide +kernel) dX5_workAtHulk_43 ?_
    refine lv_if_le (tgt := 62) hx hb dX5_workAtHulk_46 (by decide) (fun c46 => ?_) (fun c46 => ?_)
    · refine lv_aload_n hx hb dX5_workAtHulk_62 rfl (lv_at hl 1 rfl) ?_
      refine lv_aload_n hx hb dX5_workAtHulk_63 rfl (lv_at hl 2 rfl) ?_
      refine k_callS0 (As := [.ref (a 1 i), .ref (a 4 i)]) (g_endOrder hz hi h6 hg ht7 hh5) S hh (va_cwS 2 hts gX5_workAtHulk_X5_endOrder rfl rfl rfl (by decide +kernel) ⟨(Nat.le_of_ble_eq_true rfl), (Nat.le_of_ble_eq_true rfl)⟩) rfl hl.1 rfl (Nat.le_of_ble_eq_true rfl) dX5_workAtHulk_64 ⟨(Nat.le_of_ble_eq_true rfl), (Nat.le_of_ble_eq_true rfl)⟩ (fun v L1 f1 H locs hp hh => ?_)
      obtain ⟨rfl, hL1, hz1⟩ := hp
      subst hL1
      have hz := hz.trans hz1
      exact k_vret hx hb hr hlk hh dX5_workAtHulk_67 (Nat.le_of_ble_eq_true rfl) (Nat.le_of_ble_eq_true rfl) ⟨rfl, rfl, hz.cast (by unfold workHG castG; (repeat' split); all_goals first | rfl | contradiction)⟩
    · refine lv_aload_n hx hb dX5_workAtHulk_49 rfl (lv_at hl 1 rfl) ?_
      refine lv_iconst (v := 1) hx hb dX5_workAtHulk_50 (by decide) ?_
      refine x_put S hh hz 1 (by decide) (i := i) hi (Cn := RX2) (T := TX2) (Nn := 7) rfl inX2 tyX2 tyX2_ok nmX2 3 (by decide) (ty := .int) rfl rfl rfl rfl rfl (Nat.le_of_ble_eq_true rfl) (put1 _ _ _ _).2.2.1 (by decide +kernel) dX5_workAtHulk_51 (fun f9 H locs hh hz => ?_)
      refine lv_aload_n hx hb dX5_workAtHulk_54 rfl (lv_at hl 1 rfl) ?_
      refine lv_iconst (v := 0) hx hb dX5_workAtHulk_55 (by decide) ?_
      refine x_put S hh hz 1 (by decide) (i := i) hi (Cn := RX2) (T := TX2) (Nn := 7) rfl inX2 tyX2 tyX2_ok nmX2 4 (by decide) (ty := .int) rfl rfl rfl rfl rfl (Nat.le_of_ble_eq_true rfl) (put1 _ _ _ _).2.2.2 (by decide +kernel) dX5_workAtHulk_56 (fun f9 H locs hh hz => ?_)
      refine lv_goto (tgt := 67) hx hb dX5_workAtHulk_59 (by decide) ?_
      exact k_vret hx hb hr hlk hh dX5_workAtHulk_67 (Nat.le_of_ble_eq_true rfl) (Nat.le_of_ble_eq_true rfl) ⟨rfl, rfl, hz.cast (by unfold workHG castG; (repeat' split); all_goals first | rfl | contradiction)⟩
  · refine lv_aload_n hx hb dX5_workAtHulk_11 rfl (lv_at hl 0 rfl) ?_
    refine x_get S hh hz 1 (by decide) (i := i) hi (Cn := RX2) (T := TX2) (Nn := 7) rfl inX2 5 (by decide) rfl rfl (by decide +kernel) dX5_workAtHulk_12 ?_
    refine x_get S hh hz 0 (by decide) (i := (nT (C 5 i))) hh5 (Cn := RX1) (T := TX1) (Nn := 1) rfl inX1 0 (by decide) rfl rfl (by decide +kernel) dX5_workAtHulk_15 ?_
    refine lv_if_gt (tgt := 25) hx hb dX5_workAtHulk_18 (by decide) (fun c18 => ?_) (fun c18 => ?_)
    · refine lv_iconst (v := 0) hx hb dX5_workAtHulk_25 (by decide) ?_
      refine lv_istore_n (lv' := [(2, .int 0), (0, .ref (a 1 i)), (1, .ref (a 4 i))]) hx hb dX5_workAtHulk_26 rfl hl (by decide) rfl (fun ls hl => ?_)
      refine lv_iload_n hx hb dX5_workAtHulk_27 rfl (lv_at hl 0 rfl) ?_
      refine lv_if_ne (tgt := 42) hx hb dX5_workAtHulk_28 (by decide) (fun c => absurd (show ¬ (0 : Int32) = (0 : Int32) from c) (by decide)) (fun _ => ?_)
      refine lv_aload_n hx hb dX5_workAtHulk_31 rfl (lv_at hl 1 rfl) ?_
      refine lv_aload_n hx hb dX5_workAtHulk_32 rfl (lv_at hl 2 rfl) ?_
      refine o_get S hh hz hi h6 inX3 0 (by decide) rfl rfl (by decide +kernel) dX5_workAtHulk_33 ?_
      refine k_callS0 (As := [.ref (a 1 i), .ref (a 2 (nT (C 6 i)))]) (g_shovH hz hi h6 hg ht7 hh5) S hh (va_cwS 2 hts gX5_workAtHulk_X5_shovelFromHulk rfl rfl rfl (by decide +kernel) ⟨(Nat.le_of_ble_eq_true rfl), (Nat.le_of_ble_eq_true rfl)⟩) rfl hl.1 rfl (Nat.le_of_ble_eq_true rfl) dX5_workAtHulk_36 ⟨(Nat.le_of_ble_eq_true rfl), (Nat.le_of_ble_eq_true rfl)⟩ (fun v L1 f1 H locs hp hh => ?_)
      obtain ⟨rfl, hL1, hz1⟩ := hp
      subst hL1
      have hz := hz.trans hz1
      refine lv_goto (tgt := 67) hx hb dX5_workAtHulk_39 (by decide) ?_
      exact k_vret hx hb hr hlk hh dX5_workAtHulk_67 (Nat.le_of_ble_eq_true rfl) (Nat.le_of_ble_eq_true rfl) ⟨rfl, rfl, hz.cast (by unfold workHG castG; (repeat' split); all_goals first | rfl | contradiction)⟩
    · refine lv_iconst (v := 1) hx hb dX5_workAtHulk_21 (by decide) ?_
      refine lv_goto (tgt := 26) hx hb dX5_workAtHulk_22 (by decide) ?_
      refine lv_istore_n (lv' := [(2, .int 1), (0, .ref (a 1 i)), (1, .ref (a 4 i))]) hx hb dX5_workAtHulk_26 rfl hl (by decide) rfl (fun ls hl => ?_)
      refine lv_iload_n hx hb dX5_workAtHulk_27 rfl (lv_at hl 0 rfl) ?_
      refine lv_if_ne (tgt := 42) hx hb dX5_workAtHulk_28 (by decide) (fun _ => ?_) (fun c => absurd (show (1 : Int32) = (0 : Int32) from c) (by decide))
      refine lv_aload_n hx hb dX5_workAtHulk_42 rfl (lv_at hl 1 rfl) ?_
      refine x_get S hh hz 1 (by decide) (i := i) hi (Cn := RX2) (T := TX2) (Nn := 7) rfl inX2 1 (by decide) rfl rfl (by decide +kernel) dX5_workAtHulk_43 ?_
      refine lv_if_le (tgt := 62) hx hb dX5_workAtHulk_46 (by decide) (fun c46 => ?_) (fun c46 => ?_)
      · refine lv_aload_n hx hb dX5_workAtHulk_62 rfl (lv_at hl 1 rfl) ?_
        refine lv_aload_n hx hb dX5_workAtHulk_63 rfl (lv_at hl 2 rfl) ?_
        refine k_callS0 (As := [.ref (a 1 i), .ref (a 4 i)]) (g_endOrder hz hi h6 hg ht7 hh5) S hh (va_cwS 2 hts gX5_workAtHulk_X5_endOrder rfl rfl rfl (by decide +kernel) ⟨(Nat.le_of_ble_eq_true rfl), (Nat.le_of_ble_eq_true rfl)⟩) rfl hl.1 rfl (Nat.le_of_ble_eq_true rfl) dX5_workAtHulk_64 ⟨(Nat.le_of_ble_eq_true rfl), (Nat.le_of_ble_eq_true rfl)⟩ (fun v L1 f1 H locs hp hh => ?_)
        obtain ⟨rfl, hL1, hz1⟩ := hp
        subst hL1
        have hz := hz.trans hz1
        exact k_vret hx hb hr hlk hh dX5_workAtHulk_67 (Nat.le_of_ble_eq_true rfl) (Nat.le_of_ble_eq_true rfl) ⟨rfl, rfl, hz.cast (by unfold workHG castG; (repeat' split); all_goals first | rfl | contradiction)⟩
      · refine lv_aload_n hx hb dX5_workAtHulk_49 rfl (lv_at hl 1 rfl) ?_
        refine lv_iconst (v := 1) hx hb dX5_workAtHulk_50 (by decide) ?_
        refine x_put S hh hz 1 (by decide) (i := i) hi (Cn := RX2) (T := TX2) (Nn := 7) rfl inX2 tyX2 tyX2_ok nmX2 3 (by decide) (ty := .int) rfl rfl rfl rfl rfl (Nat.le_of_ble_eq_true rfl) (put1 _ _ _ _).2.2.1 (by decide +kernel) dX5_workAtHulk_51 (fun f9 H locs hh hz => ?_)
        refine lv_aload_n hx hb dX5_workAtHulk_54 rfl (lv_at hl 1 rfl) ?_
        refine lv_iconst (v := 0) hx hb dX5_workAtHulk_55 (by decide) ?_
        refine x_put S hh hz 1 (by decide) (i := i) hi (Cn := RX2) (T := TX2) (Nn := 7) rfl inX2 tyX2 tyX2_ok nmX2 4 (by decide) (ty := .int) rfl rfl rfl rfl rfl (Nat.le_of_ble_eq_true rfl) (put1 _ _ _ _).2.2.2 (by decide +kernel) dX5_workAtHulk_56 (fun f9 H locs hh hz => ?_)
        refine lv_goto (tgt := 67) hx hb dX5_workAtHulk_59 (by decide) ?_
        exact k_vret hx hb hr hlk hh dX5_workAtHulk_67 (Nat.le_of_ble_eq_true rfl) (Nat.le_of_ble_eq_true rfl) ⟨rfl, rfl, hz.cast (by unfold workHG castG; (repeat' split); all_goals first | rfl | contradiction)⟩

set_option maxRecDepth 100000 in
set_option maxHeartbeats 4000000 in
theorem g_shovS {l : Launch} {κ : Kx} {x : Nat} {a : AD} {N P : Nat → Nat} {C : MS} {L L0 : List Nat} {f0 f : Nat → va_E} (hz : ZC κ x a N P C L0 f0 L f) {i : Nat} (hi : i < N 1) (h6 : ¬ C 6 i = -1) (hg : nT (C 6 i) < N 2) (ht7 : nT (C 7 i) < N 3) (hh5 : nT (C 5 i) < N 0) : PM l κ yX5_shovelIntoSteamer wsX5_shovelIntoSteamer ({ frames := 1, cells := 0, slots := 0, locals := 22 } : Room) [.ref x, .ref (a 1 i), .ref (a 4 i)] L f (fun v L1 f1 => v = none ∧ L = L1 ∧ ZC κ x a N P (shovSG C i) L f L1 f1) noX 0 0 := by
  refine PM.mk (cc := cX5_shovelIntoSteamer) (maxL := 7) (ret := none) (by decide) rfl (Nat.le_of_ble_eq_true rfl) ?_
  intro p e s m args below meth c ls hx hb hml hr hlk hnm hown hts ht hh hl
  have hl : lv_has ls 7 [(0, .ref x), (1, .ref (a 1 i)), (2, .ref (a 4 i))] := hl
  have S : CallFix p m c cX5_shovelIntoSteamer 7 s args wsX5_shovelIntoSteamer RX5 := ⟨hx, hb, hml, hown, hts⟩
  have inX0 : ∀ w ∈ wsX00, w ∈ wsX5_shovelIntoSteamer := by decide +kernel
  have inX2 : ∀ w ∈ wsX20, w ∈ wsX5_shovelIntoSteamer := by decide +kernel
  have inX3 : ∀ w ∈ wsX30, w ∈ wsX5_shovelIntoSteamer := by decide +kernel
  have inX4 : ∀ w ∈ wsX40, w ∈ wsX5_shovelIntoSteamer := by decide +kernel
  have inX5 : ∀ w ∈ wsX50, w ∈ wsX5_shovelIntoSteamer := by decide +kernel
  have hz := hz.self
  refine lv_aload_n hx hb dX5_shovelIntoSteamer_0 rfl (lv_at hl 2 rfl) ?_
  refine o_get S hh hz hi h6 inX3 1 (by decide) rfl rfl (by decide +kernel) dX5_shovelIntoSteamer_1 ?_
  refine lv_astore_n (lv' := [(3, .ref (a 3 (nT (C 7 i)))), (0, .ref x), (1, .ref (a 1 i)), (2, .ref (a 4 i))]) hx hb dX5_shovelIntoSteamer_4 rfl hl (by decide) rfl (fun ls hl => ?_)
  refine lv_aload_n hx hb dX5_shovelIntoSteamer_5 rfl (lv_at hl 2 rfl) ?_
  refine x_get S hh hz 1 (by decide) (i := i) hi (Cn := RX2) (T := TX2) (Nn := 7) rfl inX2 1 (by decide) rfl rfl (by decide +kernel) dX5_shovelIntoSteamer_6 ?_
  refine lv_aload_n hx hb dX5_shovelIntoSteamer_9 rfl (lv_at hl 0 rfl) ?_
  refine x_get S hh hz 3 (by decide) (i := (nT (C 7 i))) ht7 (Cn := RX4) (T := TX4) (Nn := 4) rfl inX4 1 (by decide) rfl rfl (by decide +kernel) dX5_shovelIntoSteamer_10 ?_
  refine va_mmin hx hb (hml.trans hl.1.symm) hown (hts (.methodLink RX5 243 Lib.Math.min.name) (by decide +kernel)) (hts (.static Lib.Math.min.name) (by decide +kernel)) (hts (.initialized "java/lang/Math") (by decide +kernel)) (hts (.code Lib.Math.min.name Lib.Math.min.code 2 (some .int)) (by decide +kernel)) (Nat.le_of_ble_eq_true rfl) (Nat.le_of_ble_eq_true rfl) (Nat.le_of_ble_eq_true rfl) (Nat.le_of_ble_eq_true rfl) dX5_shovelIntoSteamer_13 ?_
  refine lv_topi (fun x16 e16 => ?_)
  refine lv_istore (lv' := [(4, .int x16), (3, .ref (a 3 (nT (C 7 i)))), (0, .ref x), (1, .ref (a 1 i)), (2, .ref (a 4 i))]) hx hb dX5_shovelIntoSteamer_16 hl (by decide) rfl (fun ls hl => ?_)
  refine lv_aload_n hx hb dX5_shovelIntoSteamer_18 rfl (lv_at hl 4 rfl) ?_
  refine o_get S hh hz hi h6 inX3 0 (by decide) rfl rfl (by decide +kernel) dX5_shovelIntoSteamer_19 ?_
  refine lv_aload_n hx hb dX5_shovelIntoSteamer_22 rfl (lv_at hl 3 rfl) ?_
  refine x_get S hh hz 1 (by decide) (i := i) hi (Cn := RX2) (T := TX2) (Nn := 7) rfl inX2 2 (by decide) rfl rfl (by decide +kernel) dX5_shovelIntoSteamer_23 ?_
  refine k_callV0 (As := [.int (C 3 i)]) (g_strength hz (i := (nT (C 6 i))) (d := (C 3 i)) hg) S hh (cwV 1 hts gX5_shovelIntoSteamer_X0_strength rfl rfl rfl (by decide +kernel) ⟨(Nat.le_of_ble_eq_true rfl), (Nat.le_of_ble_eq_true rfl)⟩) (hz.1.2.1 2 (nT (C 6 i)) (by decide) hg).1 (hz.1.2.1 2 (nT (C 6 i)) (by decide) hg).2 (q := (RX0, TX0, 5)) rfl rfl rfl hl.1 rfl (Nat.le_of_ble_eq_true rfl) dX5_shovelIntoSteamer_26 ⟨(Nat.le_of_ble_eq_true rfl), (Nat.le_of_ble_eq_true rfl)⟩ (fun v L1 f1 H locs hp hh => ?_)
  obtain ⟨rfl, hL1, hf1⟩ := hp
  subst hL1; subst hf1
  refine lv_iload hx hb dX5_shovelIntoSteamer_29 (lv_at hl 0 rfl) ?_
  refine va_mmin hx hb (hml.trans hl.1.symm) hown (hts (.methodLink RX5 243 Lib.Math.min.name) (by decide +kernel)) (hts (.static Lib.Math.min.name) (by decide +kernel)) (hts (.initialized "java/lang/Math") (by decide +kernel)) (hts (.code Lib.Math.min.name Lib.Math.min.code 2 (some .int)) (by decide +kernel)) (Nat.le_of_ble_eq_true rfl) (Nat.le_of_ble_eq_true rfl) (Nat.le_of_ble_eq_true rfl) (Nat.le_of_ble_eq_true rfl) dX5_shovelIntoSteamer_31 ?_
  refine lv_topi (fun x34 e34 => ?_)
  refine lv_istore (lv' := [(5, .int x34), (4, .int x16), (3, .ref (a 3 (nT (C 7 i)))), (0, .ref x), (1, .ref (a 1 i)), (2, .ref (a 4 i))]) hx hb dX5_shovelIntoSteamer_34 hl (by decide) rfl (fun ls hl => ?_)
  refine lv_iload hx hb dX5_shovelIntoSteamer_36 (lv_at hl 0 rfl) ?_
  refine lv_bipush (v := 50) hx hb dX5_shovelIntoSteamer_38 (by decide) ?_
  refine lv_idiv hx hb dX5_shovelIntoSteamer_40 (by decide) ?_
  refine lv_topi (fun x41 e41 => ?_)
  refine lv_istore (lv' := [(6, .int x41), (5, .int x34), (4, .int x16), (3, .ref (a 3 (nT (C 7 i)))), (0, .ref x), (1, .ref (a 1 i)), (2, .ref (a 4 i))]) hx hb dX5_shovelIntoSteamer_41 hl (by decide) rfl (fun ls hl => ?_)
  refine lv_aload_n hx hb dX5_shovelIntoSteamer_43 rfl (lv_at hl 5 rfl) ?_
  refine lv_dup hx hb dX5_shovelIntoSteamer_44 rfl ?_
  refine x_get S hh hz 1 (by decide) (i := i) hi (Cn := RX2) (T := TX2) (Nn := 7) rfl inX2 1 (by decide) rfl rfl (by decide +kernel) dX5_shovelIntoSteamer_45 ?_
  refine lv_iload hx hb dX5_shovelIntoSteamer_48 (lv_at hl 1 rfl) ?_
  refine lv_isub hx hb dX5_shovelIntoSteamer_50 ?_
  refine x_put S hh hz 1 (by decide) (i := i) hi (Cn := RX2) (T := TX2) (Nn := 7) rfl inX2 tyX2 tyX2_ok nmX2 1 (by decide) (ty := .int) rfl rfl rfl rfl rfl (Nat.le_of_ble_eq_true rfl) (put1 _ _ _ _).1 (by decide +kernel) dX5_shovelIntoSteamer_51 (fun f9 H locs hh hz => ?_)
  refine lv_aload_n hx hb dX5_shovelIntoSteamer_54 rfl (lv_at hl 5 rfl) ?_
  refine lv_dup hx hb dX5_shovelIntoSteamer_55 rfl ?_
  refine x_get S hh hz 1 (by decide) (i := i) hi (Cn := RX2) (T := TX2) (Nn := 7) rfl inX2 2 (by decide) rfl rfl (by decide +kernel) dX5_shovelIntoSteamer_56 ?_
  refine lv_iload hx hb dX5_shovelIntoSteamer_59 (lv_at hl 0 rfl) ?_
  refine lv_iadd hx hb dX5_shovelIntoSteamer_61 ?_
  refine x_put S hh hz 1 (by decide) (i := i) hi (Cn := RX2) (T := TX2) (Nn := 7) rfl inX2 tyX2 tyX2_ok nmX2 2 (by decide) (ty := .int) rfl rfl rfl rfl rfl (Nat.le_of_ble_eq_true rfl) (put1 _ _ _ _).2.1 (by decide +kernel) dX5_shovelIntoSteamer_62 (fun f9 H locs hh hz => ?_)
  refine lv_aload_n hx hb dX5_shovelIntoSteamer_65 rfl (lv_at hl 3 rfl) ?_
  refine lv_dup hx hb dX5_shovelIntoSteamer_66 rfl ?_
  refine x_get S hh hz 3 (by decide) (i := (nT (C 7 i))) ht7 (Cn := RX4) (T := TX4) (Nn := 4) rfl inX4 1 (by decide) rfl rfl (by decide +kernel) dX5_shovelIntoSteamer_67 ?_
  refine lv_iload hx hb dX5_shovelIntoSteamer_70 (lv_at hl 1 rfl) ?_
  refine lv_iload hx hb dX5_shovelIntoSteamer_72 (lv_at hl 0 rfl) ?_
  refine lv_isub hx hb dX5_shovelIntoSteamer_74 ?_
  refine lv_isub hx hb dX5_shovelIntoSteamer_75 ?_
  refine x_put S hh hz 3 (by decide) (i := (nT (C 7 i))) ht7 (Cn := RX4) (T := TX4) (Nn := 4) rfl inX4 tyX4 tyX4_ok nmX4 1 (by decide) (ty := .int) rfl rfl rfl rfl rfl (Nat.le_of_ble_eq_true rfl) (put3 _ _ _ _).1 (by decide +kernel) dX5_shovelIntoSteamer_76 (fun f9 H locs hh hz => ?_)
  refine lv_aload_n hx hb dX5_shovelIntoSteamer_79 rfl (lv_at hl 4 rfl) ?_
  refine lv_dup hx hb dX5_shovelIntoSteamer_80 rfl ?_
  refine xx_get S hh hz inX5 6 (by decide) rfl rfl (by decide +kernel) dX5_shovelIntoSteamer_81 ?_
  refine lv_iload hx hb dX5_shovelIntoSteamer_84 (lv_at hl 1 rfl) ?_
  refine lv_iload hx hb dX5_shovelIntoSteamer_86 (lv_at hl 0 rfl) ?_
  refine lv_isub hx hb dX5_shovelIntoSteamer_88 ?_
  refine lv_iadd hx hb dX5_shovelIntoSteamer_89 ?_
  refine xx_put S hh hz inX5 6 17 (by decide) rfl rfl rfl (by decide +kernel) dX5_shovelIntoSteamer_90 (fun f9 H locs hh hz => ?_)
  subst e41
  subst e34
  subst e16
  exact k_vret hx hb hr hlk hh dX5_shovelIntoSteamer_93 (Nat.le_of_ble_eq_true rfl) (Nat.le_of_ble_eq_true rfl) ⟨rfl, rfl, hz.cast rfl⟩

set_option maxRecDepth 100000 in
set_option maxHeartbeats 4000000 in
theorem g_workS {l : Launch} {κ : Kx} {x : Nat} {a : AD} {N P : Nat → Nat} {C : MS} {L L0 : List Nat} {f0 f : Nat → va_E} (hz : ZC κ x a N P C L0 f0 L f) {i : Nat} (hi : i < N 1) (h6 : ¬ C 6 i = -1) (hg : nT (C 6 i) < N 2) (ht7 : nT (C 7 i) < N 3) (hh5 : nT (C 5 i) < N 0) : PM l κ yX5_workAtSteamer wsX5_workAtSteamer ({ frames := 2, cells := 0, slots := 0, locals := 48 } : Room) [.ref x, .ref (a 1 i), .ref (a 4 i)] L f (fun v L1 f1 => v = none ∧ L = L1 ∧ ZC κ x a N P (workSG C i) L f L1 f1) noX 0 0 := by
  refine PM.mk (cc := cX5_workAtSteamer) (maxL := 3) (ret := none) (by decide) rfl (Nat.le_of_ble_eq_true rfl) ?_
  intro p e s m args below meth c ls hx hb hml hr hlk hnm hown hts ht hh hl
  have hl : lv_has ls 3 [(0, .ref x), (1, .ref (a 1 i)), (2, .ref (a 4 i))] := hl
  have S : CallFix p m c cX5_workAtSteamer 3 s args wsX5_workAtSteamer RX5 := ⟨hx, hb, hml, hown, hts⟩
  have inX0 : ∀ w ∈ wsX00, w ∈ wsX5_workAtSteamer := by decide +kernel
  have inX2 : ∀ w ∈ wsX20, w ∈ wsX5_workAtSteamer := by decide +kernel
  have inX3 : ∀ w ∈ wsX30, w ∈ wsX5_workAtSteamer := by decide +kernel
  have inX4 : ∀ w ∈ wsX40, w ∈ wsX5_workAtSteamer := by decide +kernel
  have inX5 : ∀ w ∈ wsX50, w ∈ wsX5_workAtSteamer := by decide +kernel
  have hz := hz.self
  refine lv_aload_n hx hb dX5_workAtSteamer_0 rfl (lv_at hl 1 rfl) ?_
  refine x_get S hh hz 1 (by decide) (i := i) hi (Cn := RX2) (T := TX2) (Nn := 7) rfl inX2 1 (by decide) rfl rfl (by decide +kernel) dX5_workAtSteamer_1 ?_
  refine lv_if_gt (tgt := 15) hx hb dX5_workAtSteamer_4 (by decide) (fun c4 => ?_) (fun c4 => ?_)
  · refine lv_aload_n hx hb dX5_workAtSteamer_15 rfl (lv_at hl 2 rfl) ?_
    refine o_get S hh hz hi h6 inX3 1 (by decide) rfl rfl (by decide +kernel) dX5_workAtSteamer_16 ?_
    refine x_get S hh hz 3 (by decide) (i := (nT (C 7 i))) ht7 (Cn := RX4) (T := TX4) (Nn := 4) rfl inX4 3 (by decide) rfl rfl (by decide +kernel) dX5_workAtSteamer_19 ?_
    refine lv_iconst (v := 1) hx hb dX5_workAtSteamer_22 (by decide) ?_
    refine lv_icmp_ne (tgt := 32) hx hb dX5_workAtSteamer_23 (by decide) (fun c23 => ?_) (fun c23 => ?_)
    · exact k_vret hx hb hr hlk hh dX5_workAtSteamer_32 (Nat.le_of_ble_eq_true rfl) (Nat.le_of_ble_eq_true rfl) ⟨rfl, rfl, hz.cast (by unfold workSG; (repeat' split); all_goals first | rfl | contradiction)⟩
    · refine lv_aload_n hx hb dX5_workAtSteamer_26 rfl (lv_at hl 0 rfl) ?_
      refine lv_aload_n hx hb dX5_workAtSteamer_27 rfl (lv_at hl 1 rfl) ?_
      refine lv_aload_n hx hb dX5_workAtSteamer_28 rfl (lv_at hl 2 rfl) ?_
      refine k_callV0 (As := [.ref (a 1 i), .ref (a 4 i)]) (g_shovS hz hi h6 hg ht7 hh5) S hh (cwV 2 hts gX5_workAtSteamer_X5_shovelIntoSteamer rfl rfl rfl (by decide +kernel) ⟨(Nat.le_of_ble_eq_true rfl), (Nat.le_of_ble_eq_true rfl)⟩) hz.1.1.1 hz.1.1.2 (q := (RX5, TX5, 7)) rfl rfl rfl hl.1 rfl (Nat.le_of_ble_eq_true rfl) dX5_workAtSteamer_29 ⟨(Nat.le_of_ble_eq_true rfl), (Nat.le_of_ble_eq_true rfl)⟩ (fun v L1 f1 H locs hp hh => ?_)
      obtain ⟨rfl, hL1, hz1⟩ := hp
      subst hL1
      have hz := hz.trans hz1
      exact k_vret hx hb hr hlk hh dX5_workAtSteamer_32 (Nat.le_of_ble_eq_true rfl) (Nat.le_of_ble_eq_true rfl) ⟨rfl, rfl, hz.cast (by unfold workSG; (repeat' split); all_goals first | rfl | contradiction)⟩
  · refine lv_aload_n hx hb dX5_workAtSteamer_7 rfl (lv_at hl 1 rfl) ?_
    refine lv_iconst (v := 3) hx hb dX5_workAtSteamer_8 (by decide) ?_
    refine x_put S hh hz 1 (by decide) (i := i) hi (Cn := RX2) (T := TX2) (Nn := 7) rfl inX2 tyX2 tyX2_ok nmX2 3 (by decide) (ty := .int) rfl rfl rfl rfl rfl (Nat.le_of_ble_eq_true rfl) (put1 _ _ _ _).2.2.1 (by decide +kernel) dX5_workAtSteamer_9 (fun f9 H locs hh hz => ?_)
    refine lv_goto (tgt := 32) hx hb dX5_workAtSteamer_12 (by decide) ?_
    exact k_vret hx hb hr hlk hh dX5_workAtSteamer_32 (Nat.le_of_ble_eq_true rfl) (Nat.le_of_ble_eq_true rfl) ⟨rfl, rfl, hz.cast (by unfold workSG; (repeat' split); all_goals first | rfl | contradiction)⟩
