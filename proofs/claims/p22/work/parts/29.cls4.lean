set_option maxRecDepth 100000 in
set_option maxHeartbeats 4000000 in
theorem g_ror {l : Launch} (hst : l.stackTraces = false) {κ : Kx} {L : List Nat} {f : Nat → va_E} {x y z : Int32} : PM l κ yX5_refuseOutOfRange wsX5_refuseOutOfRange ({ frames := 6, cells := 1, slots := 6, locals := 82 } : Room) [.int x, .int y, .int z] L f (fun v L1 f1 => v = none ∧ inR x y z ∧ L = L1 ∧ f = f1) (fun E => E = "java/lang/IllegalArgumentException" ∧ ¬ inR x y z) 1 6 := by
  refine PM.mk (cc := cX5_refuseOutOfRange) (maxL := 3) (ret := none) (by decide) rfl (Nat.le_of_ble_eq_true rfl) ?_
  intro p e s m args below meth c ls hx hb hml hr hlk hnm hown hts ht hh hl
  have hl : lv_has ls 3 [(0, .int x), (1, .int y), (2, .int z)] := hl
  have S : CallFix p m c cX5_refuseOutOfRange 3 s args wsX5_refuseOutOfRange RX5 := ⟨hx, hb, hml, hown, hts⟩
  refine lv_iload_n hx hb dX5_refuseOutOfRange_0 rfl (lv_at hl 0 rfl) ?_
  refine lv_iload_n hx hb dX5_refuseOutOfRange_1 rfl (lv_at hl 1 rfl) ?_
  refine lv_icmp_lt (tgt := 10) hx hb dX5_refuseOutOfRange_2 (by decide) (fun c2 => ?_) (fun c2 => ?_)
  · exact k_throw (E := "java/lang/IllegalArgumentException") (text := "out of range") hx hb hst (hml.trans hl.1.symm) hown ht hlk hts hh ⟨rfl, fun q => by first | exact q.1 c2 | exact c7 q.2⟩ (by decide +kernel) (by decide +kernel) (by decide +kernel) (by decide +kernel) (by decide +kernel) (fun w h => List.mem_cons_of_mem _ (List.mem_append_right _ h)) (by decide +kernel) (by decide +kernel) dX5_refuseOutOfRange_10 dX5_refuseOutOfRange_13 dX5_refuseOutOfRange_14 dX5_refuseOutOfRange_16 dX5_refuseOutOfRange_19 (Nat.le_of_ble_eq_true rfl) (Nat.le_of_ble_eq_true rfl) (Nat.le_of_ble_eq_true rfl) (Nat.le_of_ble_eq_true rfl) (Nat.le_of_ble_eq_true rfl) (Nat.le_of_ble_eq_true rfl)
  · refine lv_iload_n hx hb dX5_refuseOutOfRange_5 rfl (lv_at hl 0 rfl) ?_
    refine lv_iload_n hx hb dX5_refuseOutOfRange_6 rfl (lv_at hl 2 rfl) ?_
    refine lv_icmp_le (tgt := 20) hx hb dX5_refuseOutOfRange_7 (by decide) (fun c7 => ?_) (fun c7 => ?_)
    · exact k_vret hx hb hr hlk hh dX5_refuseOutOfRange_20 (Nat.le_of_ble_eq_true rfl) (Nat.le_of_ble_eq_true rfl) ⟨rfl, ⟨c2, c7⟩, rfl, rfl⟩
    · exact k_throw (E := "java/lang/IllegalArgumentException") (text := "out of range") hx hb hst (hml.trans hl.1.symm) hown ht hlk hts hh ⟨rfl, fun q => by first | exact q.1 c2 | exact c7 q.2⟩ (by decide +kernel) (by decide +kernel) (by decide +kernel) (by decide +kernel) (by decide +kernel) (fun w h => List.mem_cons_of_mem _ (List.mem_append_right _ h)) (by decide +kernel) (by decide +kernel) dX5_refuseOutOfRange_10 dX5_refuseOutOfRange_13 dX5_refuseOutOfRange_14 dX5_refuseOutOfRange_16 dX5_refuseOutOfRange_19 (Nat.le_of_ble_eq_true rfl) (Nat.le_of_ble_eq_true rfl) (Nat.le_of_ble_eq_true rfl) (Nat.le_of_ble_eq_true rfl) (Nat.le_of_ble_eq_true rfl) (Nat.le_of_ble_eq_true rfl)

set_option maxRecDepth 100000 in
set_option maxHeartbeats 4000000 in
theorem g_ro {l : Launch} (hst : l.stackTraces = false) {κ : Kx} {x : Nat} {a : AD} {N P : Nat → Nat} {C : MS} {L L0 : List Nat} {f0 f : Nat → va_E} (hz : ZC κ x a N P C L0 f0 L f) {i : Nat} (hi : i < N 1) : PM l κ yX5_refuseOrdered wsX5_refuseOrdered ({ frames := 6, cells := 1, slots := 6, locals := 82 } : Room) [.ref (a 1 i)] L f (fun v L1 f1 => v = none ∧ C 6 i = -1 ∧ L = L1 ∧ f = f1) (fun E => E = "java/lang/IllegalStateException" ∧ ¬ C 6 i = -1) 1 6 := by
  refine PM.mk (cc := cX5_refuseOrdered) (maxL := 1) (ret := none) (by decide) rfl (Nat.le_of_ble_eq_true rfl) ?_
  intro p e s m args below meth c ls hx hb hml hr hlk hnm hown hts ht hh hl
  have hl : lv_has ls 1 [(0, .ref (a 1 i))] := hl
  have S : CallFix p m c cX5_refuseOrdered 1 s args wsX5_refuseOrdered RX5 := ⟨hx, hb, hml, hown, hts⟩
  have inX2 : ∀ w ∈ wsX20, w ∈ wsX5_refuseOrdered := by decide +kernel
  have hz := hz.self
  refine lv_aload_n hx hb dX5_refuseOrdered_0 rfl (lv_at hl 0 rfl) ?_
  by_cases h6_1 : (C 6 i) = -1
  · refine x_get S hh hz 1 (by decide) (i := i) hi (Cn := RX2) (T := TX2) (Nn := 7) rfl inX2 6 (by decide) (v := .null) (by simp [fsOf, lFv, h6_1]) rfl (by decide +kernel) dX5_refuseOrdered_1 ?_
    refine lv_ifnullN (tgt := 17) hx hb dX5_refuseOrdered_4 (by decide) ?_
    exact k_vret hx hb hr hlk hh dX5_refuseOrdered_17 (Nat.le_of_ble_eq_true rfl) (Nat.le_of_ble_eq_true rfl) ⟨rfl, h6_1, rfl, rfl⟩
  · refine x_get S hh hz 1 (by decide) (i := i) hi (Cn := RX2) (T := TX2) (Nn := 7) rfl inX2 6 (by decide) (v := .ref (a 4 i)) (by simp [fsOf, lFv, h6_1]) rfl (by decide +kernel) dX5_refuseOrdered_1 ?_
    refine lv_ifnull hx hb dX5_refuseOrdered_4 ?_
    exact k_throw (E := "java/lang/IllegalStateException") (text := "the lighter has an order") hx hb hst (hml.trans hl.1.symm) hown ht hlk hts hh ⟨rfl, h6_1⟩ (by decide +kernel) (by decide +kernel) (by decide +kernel) (by decide +kernel) (by decide +kernel) (fun w h => List.mem_cons_of_mem _ (List.mem_append_right _ h)) (by decide +kernel) (by decide +kernel) dX5_refuseOrdered_7 dX5_refuseOrdered_10 dX5_refuseOrdered_11 dX5_refuseOrdered_13 dX5_refuseOrdered_16 (Nat.le_of_ble_eq_true rfl) (Nat.le_of_ble_eq_true rfl) (Nat.le_of_ble_eq_true rfl) (Nat.le_of_ble_eq_true rfl) (Nat.le_of_ble_eq_true rfl) (Nat.le_of_ble_eq_true rfl)

set_option maxRecDepth 100000 in
set_option maxHeartbeats 4000000 in
theorem g_rb {l : Launch} (hst : l.stackTraces = false) {κ : Kx} {x : Nat} {a : AD} {N P : Nat → Nat} {C : MS} {L L0 : List Nat} {f0 f : Nat → va_E} (hz : ZC κ x a N P C L0 f0 L f) {i : Nat} (hi : i < N 2) : PM l κ yX5_refuseBusy wsX5_refuseBusy ({ frames := 6, cells := 1, slots := 6, locals := 82 } : Room) [.ref (a 2 i)] L f (fun v L1 f1 => v = none ∧ ¬ freeG C i = 0 ∧ L = L1 ∧ f = f1) (fun E => E = "java/lang/IllegalStateException" ∧ freeG C i = 0) 1 6 := by
  refine PM.mk (cc := cX5_refuseBusy) (maxL := 1) (ret := none) (by decide) rfl (Nat.le_of_ble_eq_true rfl) ?_
  intro p e s m args below meth c ls hx hb hml hr hlk hnm hown hts ht hh hl
  have hl : lv_has ls 1 [(0, .ref (a 2 i))] := hl
  have S : CallFix p m c cX5_refuseBusy 1 s args wsX5_refuseBusy RX5 := ⟨hx, hb, hml, hown, hts⟩
  have inX0 : ∀ w ∈ wsX00, w ∈ wsX5_refuseBusy := by decide +kernel
  have hz := hz.self
  refine lv_aload_n hx hb dX5_refuseBusy_0 rfl (lv_at hl 0 rfl) ?_
  refine k_callV0 (As := []) (g_isFree hz (i := i) hi) S hh (cwV 0 hts gX5_refuseBusy_X0_isFree rfl rfl rfl (by decide +kernel) ⟨(Nat.le_of_ble_eq_true rfl), (Nat.le_of_ble_eq_true rfl)⟩) (hz.1.2.1 2 i (by decide) hi).1 (hz.1.2.1 2 i (by decide) hi).2 (q := (RX0, TX0, 5)) rfl rfl rfl hl.1 rfl (Nat.le_of_ble_eq_true rfl) dX5_refuseBusy_1 ⟨(Nat.le_of_ble_eq_true rfl), (Nat.le_of_ble_eq_true rfl)⟩ (fun v L1 f1 H locs hp hh => ?_)
  obtain ⟨rfl, hL1, hf1⟩ := hp
  subst hL1; subst hf1
  refine lv_if_ne (tgt := 17) hx hb dX5_refuseBusy_4 (by decide) (fun c4 => ?_) (fun c4 => ?_)
  · exact k_vret hx hb hr hlk hh dX5_refuseBusy_17 (Nat.le_of_ble_eq_true rfl) (Nat.le_of_ble_eq_true rfl) ⟨rfl, c4, rfl, rfl⟩
  · exact k_throw (E := "java/lang/IllegalStateException") (text := "the gang has an order or rests") hx hb hst (hml.trans hl.1.symm) hown ht hlk hts hh ⟨rfl, c4⟩ (by decide +kernel) (by decide +kernel) (by decide +kernel) (by decide +kernel) (by decide +kernel) (fun w h => List.mem_cons_of_mem _ (List.mem_append_right _ h)) (by decide +kernel) (by decide +kernel) dX5_refuseBusy_7 dX5_refuseBusy_10 dX5_refuseBusy_11 dX5_refuseBusy_13 dX5_refuseBusy_16 (Nat.le_of_ble_eq_true rfl) (Nat.le_of_ble_eq_true rfl) (Nat.le_of_ble_eq_true rfl) (Nat.le_of_ble_eq_true rfl) (Nat.le_of_ble_eq_true rfl) (Nat.le_of_ble_eq_true rfl)

set_option maxRecDepth 100000 in
set_option maxHeartbeats 4000000 in
theorem g_findHulk {l : Launch} (hst : l.stackTraces = false) {κ : Kx} {x : Nat} {a : AD} {N P : Nat → Nat} {C : MS} {L L0 : List Nat} {f0 f : Nat → va_E} (hz : ZC κ x a N P C L0 f0 L f) (hw : WC N P C) {w : Int32} : PM l κ yX5_findHulk wsX5_findHulk ({ frames := 6, cells := 1, slots := 6, locals := 82 } : Room) [.ref x, .int w] L f (fun v L1 f1 => v = some (.ref (a 0 (nT w))) ∧ ¬ isF w (nI (N 0)) = 0 ∧ L = L1 ∧ f = f1) (fun E => E = "java/lang/IndexOutOfBoundsException" ∧ isF w (nI (N 0)) = 0) 1 6 := by
  refine PM.mk (cc := cX5_findHulk) (maxL := 2) (ret := (some (.object "CoalHulks$Hulk"))) (by decide) rfl (Nat.le_of_ble_eq_true rfl) ?_
  intro p e s m args below meth c ls hx hb hml hr hlk hnm hown hts ht hh hl
  have hl : lv_has ls 2 [(0, .ref x), (1, .int w)] := hl
  have S : CallFix p m c cX5_findHulk 2 s args wsX5_findHulk RX5 := ⟨hx, hb, hml, hown, hts⟩
  have inX5 : ∀ w ∈ wsX50, w ∈ wsX5_findHulk := by decide +kernel
  have hz := hz.self
  obtain ⟨b0, b1, b2, b3, b4⟩ := id hw.1
  refine lv_iload_n hx hb dX5_findHulk_0 rfl (lv_at hl 1 rfl) ?_
  refine lv_if_lt (tgt := 15) hx hb dX5_findHulk_1 (by decide) (fun c1 => ?_) (fun c1 => ?_)
  · exact k_throw (E := "java/lang/IndexOutOfBoundsException") (text := "no such hulk") hx hb hst (hml.trans hl.1.symm) hown ht hlk hts hh ⟨rfl, by unfold isF; first | rw [if_pos c1] | rw [if_neg c1, if_pos (Int32.not_lt.mp c12)]⟩ (by decide +kernel) (by decide +kernel) (by decide +kernel) (by decide +kernel) (by decide +kernel) (fun w h => List.mem_cons_of_mem _ (List.mem_append_right _ h)) (by decide +kernel) (by decide +kernel) dX5_findHulk_15 dX5_findHulk_18 dX5_findHulk_19 dX5_findHulk_21 dX5_findHulk_24 (Nat.le_of_ble_eq_true rfl) (Nat.le_of_ble_eq_true rfl) (Nat.le_of_ble_eq_true rfl) (Nat.le_of_ble_eq_true rfl) (Nat.le_of_ble_eq_true rfl) (Nat.le_of_ble_eq_true rfl)
  · refine lv_iload_n hx hb dX5_findHulk_4 rfl (lv_at hl 1 rfl) ?_
    refine lv_aload_n hx hb dX5_findHulk_5 rfl (lv_at hl 0 rfl) ?_
    refine xx_get S hh hz inX5 0 (by decide) rfl rfl (by decide +kernel) dX5_findHulk_6 ?_
    obtain ⟨mc9, hL9, hF9⟩ := hz.lst 0 (by decide)
    refine k_callV0 (As := []) (c_size hL9 hF9) S hh (cwV 0 hts gX5_findHulk_Jx4a65c_size_8abf5 rfl rfl rfl (by decide +kernel) ⟨(Nat.le_of_ble_eq_true rfl), (Nat.le_of_ble_eq_true rfl)⟩) hL9 hF9 (q := (RJx4a65c, TJx4a65c, 3)) rfl rfl rfl hl.1 rfl (Nat.le_of_ble_eq_true rfl) dX5_findHulk_9 ⟨(Nat.le_of_ble_eq_true rfl), (Nat.le_of_ble_eq_true rfl)⟩ (fun v L1 f1 H locs hp hh => ?_)
    obtain ⟨rfl, hL1, hf1⟩ := hp
    subst hL1; subst hf1
    refine lv_icmp_lt (tgt := 25) hx hb dX5_findHulk_12 (by decide) (fun c12 => ?_) (fun c12 => ?_)
    · have hne : ¬ isF w (nI (N 0)) = 0 := by unfold isF; rw [if_neg c1, if_neg (fun q => Int32.not_le.mpr c12 q)]; decide
      obtain ⟨hw1, hw2⟩ := is_ix rfl (by omega) hne
      refine lv_aload_n hx hb dX5_findHulk_25 rfl (lv_at hl 0 rfl) ?_
      refine xx_get S hh hz inX5 0 (by decide) rfl rfl (by decide +kernel) dX5_findHulk_26 ?_
      refine lv_iload_n hx hb dX5_findHulk_29 rfl (lv_at hl 1 rfl) ?_
      obtain ⟨mc30, hL30, hF30⟩ := hz.lst 0 (by decide)
      refine k_callV0 (As := [.int w]) (x_lget hz 0 (by decide) (i := (nT w)) hw2 hw1) S hh (cwV 1 hts gX5_findHulk_Jx4a65c_get_915e3 rfl rfl rfl (by decide +kernel) ⟨(Nat.le_of_ble_eq_true rfl), (Nat.le_of_ble_eq_true rfl)⟩) hL30 hF30 (q := (RJx4a65c, TJx4a65c, 3)) rfl rfl rfl hl.1 rfl (Nat.le_of_ble_eq_true rfl) dX5_findHulk_30 ⟨(Nat.le_of_ble_eq_true rfl), (Nat.le_of_ble_eq_true rfl)⟩ (fun v L1 f1 H locs hp hh => ?_)
      obtain ⟨rfl, hL1, hf1⟩ := hp
      subst hL1; subst hf1
      refine h_cast hx hb hown hh (hz.1.2.1 0 (nT w) (by decide) hw2).1 (hz.1.2.1 0 (nT w) (by decide) hw2).2 (C := RX1) (T := TX1) (N := 1) rfl (hts (.classLink RX5 43 RX1) (by decide +kernel)) dX5_findHulk_33 ?_
      exact k_aret hx hb hr (Or.inl ⟨_, rfl⟩) hlk hh dX5_findHulk_36 (Nat.le_of_ble_eq_true rfl) (Nat.le_of_ble_eq_true rfl) ⟨rfl, hne, rfl, rfl⟩
    · exact k_throw (E := "java/lang/IndexOutOfBoundsException") (text := "no such hulk") hx hb hst (hml.trans hl.1.symm) hown ht hlk hts hh ⟨rfl, by unfold isF; first | rw [if_pos c1] | rw [if_neg c1, if_pos (Int32.not_lt.mp c12)]⟩ (by decide +kernel) (by decide +kernel) (by decide +kernel) (by decide +kernel) (by decide +kernel) (fun w h => List.mem_cons_of_mem _ (List.mem_append_right _ h)) (by decide +kernel) (by decide +kernel) dX5_findHulk_15 dX5_findHulk_18 dX5_findHulk_19 dX5_findHulk_21 dX5_findHulk_24 (Nat.le_of_ble_eq_true rfl) (Nat.le_of_ble_eq_true rfl) (Nat.le_of_ble_eq_true rfl) (Nat.le_of_ble_eq_true rfl) (Nat.le_of_ble_eq_true rfl) (Nat.le_of_ble_eq_true rfl)

set_option maxRecDepth 100000 in
set_option maxHeartbeats 4000000 in
theorem g_findLighter {l : Launch} (hst : l.stackTraces = false) {κ : Kx} {x : Nat} {a : AD} {N P : Nat → Nat} {C : MS} {L L0 : List Nat} {f0 f : Nat → va_E} (hz : ZC κ x a N P C L0 f0 L f) (hw : WC N P C) {w : Int32} : PM l κ yX5_findLighter wsX5_findLighter ({ frames := 6, cells := 1, slots := 6, locals := 82 } : Room) [.ref x, .int w] L f (fun v L1 f1 => v = some (.ref (a 1 (nT w))) ∧ ¬ isF w (nI (N 1)) = 0 ∧ L = L1 ∧ f = f1) (fun E => E = "java/lang/IndexOutOfBoundsException" ∧ isF w (nI (N 1)) = 0) 1 6 := by
  refine PM.mk (cc := cX5_findLighter) (maxL := 2) (ret := (some (.object "CoalHulks$Lighter"))) (by decide) rfl (Nat.le_of_ble_eq_true rfl) ?_
  intro p e s m args below meth c ls hx hb hml hr hlk hnm hown hts ht hh hl
  have hl : lv_has ls 2 [(0, .ref x), (1, .int w)] := hl
  have S : CallFix p m c cX5_findLighter 2 s args wsX5_findLighter RX5 := ⟨hx, hb, hml, hown, hts⟩
  have inX5 : ∀ w ∈ wsX50, w ∈ wsX5_findLighter := by decide +kernel
  have hz := hz.self
  obtain ⟨b0, b1, b2, b3, b4⟩ := id hw.1
  refine lv_iload_n hx hb dX5_findLighter_0 rfl (lv_at hl 1 rfl) ?_
  refine lv_if_lt (tgt := 15) hx hb dX5_findLighter_1 (by decide) (fun c1 => ?_) (fun c1 => ?_)
  · exact k_throw (E := "java/lang/IndexOutOfBoundsException") (text := "no such lighter") hx hb hst (hml.trans hl.1.symm) hown ht hlk hts hh ⟨rfl, by unfold isF; first | rw [if_pos c1] | rw [if_neg c1, if_pos (Int32.not_lt.mp c12)]⟩ (by decide +kernel) (by decide +kernel) (by decide +kernel) (by decide +kernel) (by decide +kernel) (fun w h => List.mem_cons_of_mem _ (List.mem_append_right _ h)) (by decide +kernel) (by decide +kernel) dX5_findLighter_15 dX5_findLighter_18 dX5_findLighter_19 dX5_findLighter_21 dX5_findLighter_24 (Nat.le_of_ble_eq_true rfl) (Nat.le_of_ble_eq_true rfl) (Nat.le_of_ble_eq_true rfl) (Nat.le_of_ble_eq_true rfl) (Nat.le_of_ble_eq_true rfl) (Nat.le_of_ble_eq_true rfl)
  · refine lv_iload_n hx hb dX5_findLighter_4 rfl (lv_at hl 1 rfl) ?_
    refine lv_aload_n hx hb dX5_findLighter_5 rfl (lv_at hl 0 rfl) ?_
    refine xx_get S hh hz inX5 1 (by decide) rfl rfl (by decide +kernel) dX5_findLighter_6 ?_
    obtain ⟨mc9, hL9, hF9⟩ := hz.lst 1 (by decide)
    refine k_callV0 (As := []) (c_size hL9 hF9) S hh (cwV 0 hts gX5_findLighter_Jx4a65c_size_8abf5 rfl rfl rfl (by decide +kernel) ⟨(Nat.le_of_ble_eq_true rfl), (Nat.le_of_ble_eq_true rfl)⟩) hL9 hF9 (q := (RJx4a65c, TJx4a65c, 3)) rfl rfl rfl hl.1 rfl (Nat.le_of_ble_eq_true rfl) dX5_findLighter_9 ⟨(Nat.le_of_ble_eq_true rfl), (Nat.le_of_ble_eq_true rfl)⟩ (fun v L1 f1 H locs hp hh => ?_)
    obtain ⟨rfl, hL1, hf1⟩ := hp
    subst hL1; subst hf1
    refine lv_icmp_lt (tgt := 25) hx hb dX5_findLighter_12 (by decide) (fun c12 => ?_) (fun c12 => ?_)
    · have hne : ¬ isF w (nI (N 1)) = 0 := by unfold isF; rw [if_neg c1, if_neg (fun q => Int32.not_le.mpr c12 q)]; decide
      obtain ⟨hw1, hw2⟩ := is_ix rfl (by omega) hne
      refine lv_aload_n hx hb dX5_findLighter_25 rfl (lv_at hl 0 rfl) ?_
      refine xx_get S hh hz inX5 1 (by decide) rfl rfl (by decide +kernel) dX5_findLighter_26 ?_
      refine lv_iload_n hx hb dX5_findLighter_29 rfl (lv_at hl 1 rfl) ?_
      obtain ⟨mc30, hL30, hF30⟩ := hz.lst 1 (by decide)
      refine k_callV0 (As := [.int w]) (x_lget hz 1 (by decide) (i := (nT w)) hw2 hw1) S hh (cwV 1 hts gX5_findLighter_Jx4a65c_get_915e3 rfl rfl rfl (by decide +kernel) ⟨(Nat.le_of_ble_eq_true rfl), (Nat.le_of_ble_eq_true rfl)⟩) hL30 hF30 (q := (RJx4a65c, TJx4a65c, 3)) rfl rfl rfl hl.1 rfl (Nat.le_of_ble_eq_true rfl) dX5_findLighter_30 ⟨(Nat.le_of_ble_eq_true rfl), (Nat.le_of_ble_eq_true rfl)⟩ (fun v L1 f1 H locs hp hh => ?_)
      obtain ⟨rfl, hL1, hf1⟩ := hp
      subst hL1; subst hf1
      refine h_cast hx hb hown hh (hz.1.2.1 1 (nT w) (by decide) hw2).1 (hz.1.2.1 1 (nT w) (by decide) hw2).2 (C := RX2) (T := TX2) (N := 7) rfl (hts (.classLink RX5 60 RX2) (by decide +kernel)) dX5_findLighter_33 ?_
      exact k_aret hx hb hr (Or.inl ⟨_, rfl⟩) hlk hh dX5_findLighter_36 (Nat.le_of_ble_eq_true rfl) (Nat.le_of_ble_eq_true rfl) ⟨rfl, hne, rfl, rfl⟩
    · exact k_throw (E := "java/lang/IndexOutOfBoundsException") (text := "no such lighter") hx hb hst (hml.trans hl.1.symm) hown ht hlk hts hh ⟨rfl, by unfold isF; first | rw [if_pos c1] | rw [if_neg c1, if_pos (Int32.not_lt.mp c12)]⟩ (by decide +kernel) (by decide +kernel) (by decide +kernel) (by decide +kernel) (by decide +kernel) (fun w h => List.mem_cons_of_mem _ (List.mem_append_right _ h)) (by decide +kernel) (by decide +kernel) dX5_findLighter_15 dX5_findLighter_18 dX5_findLighter_19 dX5_findLighter_21 dX5_findLighter_24 (Nat.le_of_ble_eq_true rfl) (Nat.le_of_ble_eq_true rfl) (Nat.le_of_ble_eq_true rfl) (Nat.le_of_ble_eq_true rfl) (Nat.le_of_ble_eq_true rfl) (Nat.le_of_ble_eq_true rfl)

set_option maxRecDepth 100000 in
set_option maxHeartbeats 4000000 in
theorem g_findGang {l : Launch} (hst : l.stackTraces = false) {κ : Kx} {x : Nat} {a : AD} {N P : Nat → Nat} {C : MS} {L L0 : List Nat} {f0 f : Nat → va_E} (hz : ZC κ x a N P C L0 f0 L f) (hw : WC N P C) {w : Int32} : PM l κ yX5_findGang wsX5_findGang ({ frames := 6, cells := 1, slots := 6, locals := 82 } : Room) [.ref x, .int w] L f (fun v L1 f1 => v = some (.ref (a 2 (nT w))) ∧ ¬ isF w (nI (N 2)) = 0 ∧ L = L1 ∧ f = f1) (fun E => E = "java/lang/IndexOutOfBoundsException" ∧ isF w (nI (N 2)) = 0) 1 6 := by
  refine PM.mk (cc := cX5_findGang) (maxL := 2) (ret := (some (.object "CoalHulks$Gang"))) (by decide) rfl (Nat.le_of_ble_eq_true rfl) ?_
  intro p e s m args below meth c ls hx hb hml hr hlk hnm hown hts ht hh hl
  have hl : lv_has ls 2 [(0, .ref x), (1, .int w)] := hl
  have S : CallFix p m c cX5_findGang 2 s args wsX5_findGang RX5 := ⟨hx, hb, hml, hown, hts⟩
  have inX5 : ∀ w ∈ wsX50, w ∈ wsX5_findGang := by decide +kernel
  have hz := hz.self
  obtain ⟨b0, b1, b2, b3, b4⟩ := id hw.1
  refine lv_iload_n hx hb dX5_findGang_0 rfl (lv_at hl 1 rfl) ?_
  refine lv_if_lt (tgt := 15) hx hb dX5_findGang_1 (by decide) (fun c1 => ?_) (fun c1 => ?_)
  · exact k_throw (E := "java/lang/IndexOutOfBoundsException") (text := "no such gang") hx hb hst (hml.trans hl.1.symm) hown ht hlk hts hh ⟨rfl, by unfold isF; first | rw [if_pos c1] | rw [if_neg c1, if_pos (Int32.not_lt.mp c12)]⟩ (by decide +kernel) (by decide +kernel) (by decide +kernel) (by decide +kernel) (by decide +kernel) (fun w h => List.mem_cons_of_mem _ (List.mem_append_right _ h)) (by decide +kernel) (by decide +kernel) dX5_findGang_15 dX5_findGang_18 dX5_findGang_19 dX5_findGang_21 dX5_findGang_24 (Nat.le_of_ble_eq_true rfl) (Nat.le_of_ble_eq_true rfl) (Nat.le_of_ble_eq_true rfl) (Nat.le_of_ble_eq_true rfl) (Nat.le_of_ble_eq_true rfl) (Nat.le_of_ble_eq_true rfl)
  · refine lv_iload_n hx hb dX5_findGang_4 rfl (lv_at hl 1 rfl) ?_
    refine lv_aload_n hx hb dX5_findGang_5 rfl (lv_at hl 0 rfl) ?_
    refine xx_get S hh hz inX5 2 (by decide) rfl rfl (by decide +kernel) dX5_findGang_6 ?_
    obtain ⟨mc9, hL9, hF9⟩ := hz.lst 2 (by decide)
    refine k_callV0 (As := []) (c_size hL9 hF9) S hh (cwV 0 hts gX5_findGang_Jx4a65c_size_8abf5 rfl rfl rfl (by decide +kernel) ⟨(Nat.le_of_ble_eq_true rfl), (Nat.le_of_ble_eq_true rfl)⟩) hL9 hF9 (q := (RJx4a65c, TJx4a65c, 3)) rfl rfl rfl hl.1 rfl (Nat.le_of_ble_eq_true rfl) dX5_findGang_9 ⟨(Nat.le_of_ble_eq_true rfl), (Nat.le_of_ble_eq_true rfl)⟩ (fun v L1 f1 H locs hp hh => ?_)
    obtain ⟨rfl, hL1, hf1⟩ := hp
    subst hL1; subst hf1
    refine lv_icmp_lt (tgt := 25) hx hb dX5_findGang_12 (by decide) (fun c12 => ?_) (fun c12 => ?_)
    · have hne : ¬ isF w (nI (N 2)) = 0 := by unfold isF; rw [if_neg c1, if_neg (fun q => Int32.not_le.mpr c12 q)]; decide
      obtain ⟨hw1, hw2⟩ := is_ix rfl (by omega) hne
      refine lv_aload_n hx hb dX5_findGang_25 rfl (lv_at hl 0 rfl) ?_
      refine xx_get S hh hz inX5 2 (by decide) rfl rfl (by decide +kernel) dX5_findGang_26 ?_
      refine lv_iload_n hx hb dX5_findGang_29 rfl (lv_at hl 1 rfl) ?_
      obtain ⟨mc30, hL30, hF30⟩ := hz.lst 2 (by decide)
      refine k_callV0 (As := [.int w]) (x_lget hz 2 (by decide) (i := (nT w)) hw2 hw1) S hh (cwV 1 hts gX5_findGang_Jx4a65c_get_915e3 rfl rfl rfl (by decide +kernel) ⟨(Nat.le_of_ble_eq_true rfl), (Nat.le_of_ble_eq_true rfl)⟩) hL30 hF30 (q := (RJx4a65c, TJx4a65c, 3)) rfl rfl rfl hl.1 rfl (Nat.le_of_ble_eq_true rfl) dX5_findGang_30 ⟨(Nat.le_of_ble_eq_true rfl), (Nat.le_of_ble_eq_true rfl)⟩ (fun v L1 f1 H locs hp hh => ?_)
      obtain ⟨rfl, hL1, hf1⟩ := hp
      subst hL1; subst hf1
      refine h_cast hx hb hown hh (hz.1.2.1 2 (nT w) (by decide) hw2).1 (hz.1.2.1 2 (nT w) (by decide) hw2).2 (C := RX0) (T := TX0) (N := 5) rfl (hts (.classLink RX5 71 RX0) (by decide +kernel)) dX5_findGang_33 ?_
      exact k_aret hx hb hr (Or.inl ⟨_, rfl⟩) hlk hh dX5_findGang_36 (Nat.le_of_ble_eq_true rfl) (Nat.le_of_ble_eq_true rfl) ⟨rfl, hne, rfl, rfl⟩
    · exact k_throw (E := "java/lang/IndexOutOfBoundsException") (text := "no such gang") hx hb hst (hml.trans hl.1.symm) hown ht hlk hts hh ⟨rfl, by unfold isF; first | rw [if_pos c1] | rw [if_neg c1, if_pos (Int32.not_lt.mp c12)]⟩ (by decide +kernel) (by decide +kernel) (by decide +kernel) (by decide +kernel) (by decide +kernel) (fun w h => List.mem_cons_of_mem _ (List.mem_append_right _ h)) (by decide +kernel) (by decide +kernel) dX5_findGang_15 dX5_findGang_18 dX5_findGang_19 dX5_findGang_21 dX5_findGang_24 (Nat.le_of_ble_eq_true rfl) (Nat.le_of_ble_eq_true rfl) (Nat.le_of_ble_eq_true rfl) (Nat.le_of_ble_eq_true rfl) (Nat.le_of_ble_eq_true rfl) (Nat.le_of_ble_eq_true rfl)

set_option maxRecDepth 100000 in
set_option maxHeartbeats 4000000 in
theorem g_findSteamer {l : Launch} (hst : l.stackTraces = false) {κ : Kx} {x : Nat} {a : AD} {N P : Nat → Nat} {C : MS} {L L0 : List Nat} {f0 f : Nat → va_E} (hz : ZC κ x a N P C L0 f0 L f) (hw : WC N P C) {w : Int32} : PM l κ yX5_findSteamer wsX5_findSteamer ({ frames := 6, cells := 1, slots := 6, locals := 82 } : Room) [.ref x, .int w] L f (fun v L1 f1 => v = some (.ref (a 3 (nT w))) ∧ ¬ isF w (nI (N 3)) = 0 ∧ L = L1 ∧ f = f1) (fun E => E = "java/lang/IndexOutOfBoundsException" ∧ isF w (nI (N 3)) = 0) 1 6 := by
  refine PM.mk (cc := cX5_findSteamer) (maxL := 2) (ret := (some (.object "CoalHulks$Steamer"))) (by decide) rfl (Nat.le_of_ble_eq_true rfl) ?_
  intro p e s m args below meth c ls hx hb hml hr hlk hnm hown hts ht hh hl
  have hl : lv_has ls 2 [(0, .ref x), (1, .int w)] := hl
  have S : CallFix p m c cX5_findSteamer 2 s args wsX5_findSteamer RX5 := ⟨hx, hb, hml, hown, hts⟩
  have inX5 : ∀ w ∈ wsX50, w ∈ wsX5_findSteamer := by decide +kernel
  have hz := hz.self
  obtain ⟨b0, b1, b2, b3, b4⟩ := id hw.1
  refine lv_iload_n hx hb dX5_findSteamer_0 rfl (lv_at hl 1 rfl) ?_
  refine lv_if_lt (tgt := 15) hx hb dX5_findSteamer_1 (by decide) (fun c1 => ?_) (fun c1 => ?_)
  · exact k_throw (E := "java/lang/IndexOutOfBoundsException") (text := "no such steamer") hx hb hst (hml.trans hl.1.symm) hown ht hlk hts hh ⟨rfl, by unfold isF; first | rw [if_pos c1] | rw [if_neg c1, if_pos (Int32.not_lt.mp c12)]⟩ (by decide +kernel) (by decide +kernel) (by decide +kernel) (by decide +kernel) (by decide +kernel) (fun w h => List.mem_cons_of_mem _ (List.mem_append_right _ h)) (by decide +kernel) (by decide +kernel) dX5_findSteamer_15 dX5_findSteamer_18 dX5_findSteamer_19 dX5_findSteamer_21 dX5_findSteamer_24 (Nat.le_of_ble_eq_true rfl) (Nat.le_of_ble_eq_true rfl) (Nat.le_of_ble_eq_true rfl) (Nat.le_of_ble_eq_true rfl) (Nat.le_of_ble_eq_true rfl) (Nat.le_of_ble_eq_true rfl)
  · refine lv_iload_n hx hb dX5_findSteamer_4 rfl (lv_at hl 1 rfl) ?_
    refine lv_aload_n hx hb dX5_findSteamer_5 rfl (lv_at hl 0 rfl) ?_
    refine xx_get S hh hz inX5 3 (by decide) rfl rfl (by decide +kernel) dX5_findSteamer_6 ?_
    obtain ⟨mc9, hL9, hF9⟩ := hz.lst 3 (by decide)
    refine k_callV0 (As := []) (c_size hL9 hF9) S hh (cwV 0 hts gX5_findSteamer_Jx4a65c_size_8abf5 rfl rfl rfl (by decide +kernel) ⟨(Nat.le_of_ble_eq_true rfl), (Nat.le_of_ble_eq_true rfl)⟩) hL9 hF9 (q := (RJx4a65c, TJx4a65c, 3)) rfl rfl rfl hl.1 rfl (Nat.le_of_ble_eq_true rfl) dX5_findSteamer_9 ⟨(Nat.le_of_ble_eq_true rfl), (Nat.le_of_ble_eq_true rfl)⟩ (fun v L1 f1 H locs hp hh => ?_)
    obtain ⟨rfl, hL1, hf1⟩ := hp
    subst hL1; subst hf1
    refine lv_icmp_lt (tgt := 25) hx hb dX5_findSteamer_12 (by decide) (fun c12 => ?_) (fun c12 => ?_)
    · have hne : ¬ isF w (nI (N 3)) = 0 := by unfold isF; rw [if_neg c1, if_neg (fun q => Int32.not_le.mpr c12 q)]; decide
      obtain ⟨hw1, hw2⟩ := is_ix rfl (by omega) hne
      refine lv_aload_n hx hb dX5_findSteamer_25 rfl (lv_at hl 0 rfl) ?_
      refine xx_get S hh hz inX5 3 (by decide) rfl rfl (by decide +kernel) dX5_findSteamer_26 ?_
      refine lv_iload_n hx hb dX5_findSteamer_29 rfl (lv_at hl 1 rfl) ?_
      obtain ⟨mc30, hL30, hF30⟩ := hz.lst 3 (by decide)
      refine k_callV0 (As := [.int w]) (x_lget hz 3 (by decide) (i := (nT w)) hw2 hw1) S hh (cwV 1 hts gX5_findSteamer_Jx4a65c_get_915e3 rfl rfl rfl (by decide +kernel) ⟨(Nat.le_of_ble_eq_true rfl), (Nat.le_of_ble_eq_true rfl)⟩) hL30 hF30 (q := (RJx4a65c, TJx4a65c, 3)) rfl rfl rfl hl.1 rfl (Nat.le_of_ble_eq_true rfl) dX5_findSteamer_30 ⟨(Nat.le_of_ble_eq_true rfl), (Nat.le_of_ble_eq_true rfl)⟩ (fun v L1 f1 H locs hp hh => ?_)
      obtain ⟨rfl, hL1, hf1⟩ := hp
      subst hL1; subst hf1
      refine h_cast hx hb hown hh (hz.1.2.1 3 (nT w) (by decide) hw2).1 (hz.1.2.1 3 (nT w) (by decide) hw2).2 (C := RX4) (T := TX4) (N := 4) rfl (hts (.classLink RX5 82 RX4) (by decide +kernel)) dX5_findSteamer_33 ?_
      exact k_aret hx hb hr (Or.inl ⟨_, rfl⟩) hlk hh dX5_findSteamer_36 (Nat.le_of_ble_eq_true rfl) (Nat.le_of_ble_eq_true rfl) ⟨rfl, hne, rfl, rfl⟩
    · exact k_throw (E := "java/lang/IndexOutOfBoundsException") (text := "no such steamer") hx hb hst (hml.trans hl.1.symm) hown ht hlk hts hh ⟨rfl, by unfold isF; first | rw [if_pos c1] | rw [if_neg c1, if_pos (Int32.not_lt.mp c12)]⟩ (by decide +kernel) (by decide +kernel) (by decide +kernel) (by decide +kernel) (by decide +kernel) (fun w h => List.mem_cons_of_mem _ (List.mem_append_right _ h)) (by decide +kernel) (by decide +kernel) dX5_findSteamer_15 dX5_findSteamer_18 dX5_findSteamer_19 dX5_findSteamer_21 dX5_findSteamer_24 (Nat.le_of_ble_eq_true rfl) (Nat.le_of_ble_eq_true rfl) (Nat.le_of_ble_eq_true rfl) (Nat.le_of_ble_eq_true rfl) (Nat.le_of_ble_eq_true rfl) (Nat.le_of_ble_eq_true rfl)

set_option maxRecDepth 100000 in
set_option maxHeartbeats 4000000 in
theorem g_coalIn {l : Launch} (hst : l.stackTraces = false) {κ : Kx} {x : Nat} {a : AD} {N P : Nat → Nat} {C : MS} {L L0 : List Nat} {f0 f : Nat → va_E} (hz : ZC κ x a N P C L0 f0 L f) (hw : WC N P C) {w : Int32} : PM l κ yX5_coalIn wsX5_coalIn ({ frames := 7, cells := 1, slots := 6, locals := 103 } : Room) [.ref x, .int w] L f (fun v L1 f1 => v = some (.int (C 0 (nT w))) ∧ ¬ isF w (nI (N 0)) = 0 ∧ L = L1 ∧ f = f1) (fun E => E = "java/lang/IndexOutOfBoundsException" ∧ isF w (nI (N 0)) = 0) 1 6 := by
  refine PM.mk (cc := cX5_coalIn) (maxL := 2) (ret := (some .int)) (by decide) rfl (Nat.le_of_ble_eq_true rfl) ?_
  intro p e s m args below meth c ls hx hb hml hr hlk hnm hown hts ht hh hl
  have hl : lv_has ls 2 [(0, .ref x), (1, .int w)] := hl
  have S : CallFix p m c cX5_coalIn 2 s args wsX5_coalIn RX5 := ⟨hx, hb, hml, hown, hts⟩
  have inX1 : ∀ w ∈ wsX10, w ∈ wsX5_coalIn := by decide +kernel
  have inX5 : ∀ w ∈ wsX50, w ∈ wsX5_coalIn := by decide +kernel
  have hz := hz.self
  obtain ⟨b0, b1, b2, b3, b4⟩ := id hw.1
  refine lv_aload_n hx hb dX5_coalIn_0 rfl (lv_at hl 0 rfl) ?_
  refine lv_iload_n hx hb dX5_coalIn_1 rfl (lv_at hl 1 rfl) ?_
  refine k_callV (As := [.int w]) (g_findHulk hst hz hw (w := w)) S hh (cwV 1 hts gX5_coalIn_X5_findHulk rfl rfl rfl (by decide +kernel) ⟨(Nat.le_of_ble_eq_true rfl), (Nat.le_of_ble_eq_true rfl)⟩) hz.1.1.1 hz.1.1.2 (q := (RX5, TX5, 7)) rfl rfl rfl hl.1 rfl (Nat.le_of_ble_eq_true rfl) dX5_coalIn_2 ⟨(Nat.le_of_ble_eq_true rfl), (Nat.le_of_ble_eq_true rfl)⟩ (fun v L1 f1 H locs hp hh => ?_) (fun E ce q9 H locs hE hh h1 h2 h3 => k_out ht hlk hE hh h1 h2 h3 (Nat.le_of_ble_eq_true rfl) (Nat.le_of_ble_eq_true rfl))
  obtain ⟨rfl, hne2, hL1, hf1⟩ := hp
  subst hL1; subst hf1
  obtain ⟨hv2, hl2⟩ := is_ix rfl (by omega) hne2
  refine x_get S hh hz 0 (by decide) (i := (nT w)) hl2 (Cn := RX1) (T := TX1) (Nn := 1) rfl inX1 0 (by decide) rfl rfl (by decide +kernel) dX5_coalIn_5 ?_
  exact k_iret hx hb hr hlk hh dX5_coalIn_8 (Nat.le_of_ble_eq_true rfl) (Nat.le_of_ble_eq_true rfl) ⟨rfl, hne2, rfl, rfl⟩

set_option maxRecDepth 100000 in
set_option maxHeartbeats 4000000 in
theorem g_placeOf {l : Launch} (hst : l.stackTraces = false) {κ : Kx} {x : Nat} {a : AD} {N P : Nat → Nat} {C : MS} {L L0 : List Nat} {f0 f : Nat → va_E} (hz : ZC κ x a N P C L0 f0 L f) (hw : WC N P C) {w : Int32} : PM l κ yX5_placeOf wsX5_placeOf ({ frames := 7, cells := 1, slots := 6, locals := 103 } : Room) [.ref x, .int w] L f (fun v L1 f1 => v = some (.int (C 4 (nT w))) ∧ ¬ isF w (nI (N 1)) = 0 ∧ L = L1 ∧ f = f1) (fun E => E = "java/lang/IndexOutOfBoundsException" ∧ isF w (nI (N 1)) = 0) 1 6 := by
  refine PM.mk (cc := cX5_placeOf) (maxL := 2) (ret := (some .int)) (by decide) rfl (Nat.le_of_ble_eq_true rfl) ?_
  intro p e s m args below meth c ls hx hb hml hr hlk hnm hown hts ht hh hl
  have hl : lv_has ls 2 [(0, .ref x), (1, .int w)] := hl
  have S : CallFix p m c cX5_placeOf 2 s args wsX5_placeOf RX5 := ⟨hx, hb, hml, hown, hts⟩
  have inX2 : ∀ w ∈ wsX20, w ∈ wsX5_placeOf := by decide +kernel
  have inX5 : ∀ w ∈ wsX50, w ∈ wsX5_placeOf := by decide +kernel
  have hz := hz.self
  obtain ⟨b0, b1, b2, b3, b4⟩ := id hw.1
  refine lv_aload_n hx hb dX5_placeOf_0 rfl (lv_at hl 0 rfl) ?_
  refine lv_iload_n hx hb dX5_placeOf_1 rfl (lv_at hl 1 rfl) ?_
  refine k_callV (As := [.int w]) (g_findLighter hst hz hw (w := w)) S hh (cwV 1 hts gX5_placeOf_X5_findLighter rfl rfl rfl (by decide +kernel) ⟨(Nat.le_of_ble_eq_true rfl), (Nat.le_of_ble_eq_true rfl)⟩) hz.1.1.1 hz.1.1.2 (q := (RX5, TX5, 7)) rfl rfl rfl hl.1 rfl (Nat.le_of_ble_eq_true rfl) dX5_placeOf_2 ⟨(Nat.le_of_ble_eq_true rfl), (Nat.le_of_ble_eq_true rfl)⟩ (fun v L1 f1 H locs hp hh => ?_) (fun E ce q9 H locs hE hh h1 h2 h3 => k_out ht hlk hE hh h1 h2 h3 (Nat.le_of_ble_eq_true rfl) (Nat.le_of_ble_eq_true rfl))
  obtain ⟨rfl, hne2, hL1, hf1⟩ := hp
  subst hL1; subst hf1
  obtain ⟨hv2, hl2⟩ := is_ix rfl (by omega) hne2
  refine x_get S hh hz 1 (by decide) (i := (nT w)) hl2 (Cn := RX2) (T := TX2) (Nn := 7) rfl inX2 3 (by decide) rfl rfl (by decide +kernel) dX5_placeOf_5 ?_
  exact k_iret hx hb hr hlk hh dX5_placeOf_8 (Nat.le_of_ble_eq_true rfl) (Nat.le_of_ble_eq_true rfl) ⟨rfl, hne2, rfl, rfl⟩

set_option maxRecDepth 100000 in
set_option maxHeartbeats 4000000 in
theorem g_loadOf {l : Launch} (hst : l.stackTraces = false) {κ : Kx} {x : Nat} {a : AD} {N P : Nat → Nat} {C : MS} {L L0 : List Nat} {f0 f : Nat → va_E} (hz : ZC κ x a N P C L0 f0 L f) (hw : WC N P C) {w : Int32} : PM l κ yX5_loadOf wsX5_loadOf ({ frames := 7, cells := 1, slots := 6, locals := 103 } : Room) [.ref x, .int w] L f (fun v L1 f1 => v = some (.int (C 2 (nT w))) ∧ ¬ isF w (nI (N 1)) = 0 ∧ L = L1 ∧ f = f1) (fun E => E = "java/lang/IndexOutOfBoundsException" ∧ isF w (nI (N 1)) = 0) 1 6 := by
  refine PM.mk (cc := cX5_loadOf) (maxL := 2) (ret := (some .int)) (by decide) rfl (Nat.le_of_ble_eq_true rfl) ?_
  intro p e s m args below meth c ls hx hb hml hr hlk hnm hown hts ht hh hl
  have hl : lv_has ls 2 [(0, .ref x), (1, .int w)] := hl
  have S : CallFix p m c cX5_loadOf 2 s args wsX5_loadOf RX5 := ⟨hx, hb, hml, hown, hts⟩
  have inX2 : ∀ w ∈ wsX20, w ∈ wsX5_loadOf := by decide +kernel
  have inX5 : ∀ w ∈ wsX50, w ∈ wsX5_loadOf := by decide +kernel
  have hz := hz.self
  obtain ⟨b0, b1, b2, b3, b4⟩ := id hw.1
  refine lv_aload_n hx hb dX5_loadOf_0 rfl (lv_at hl 0 rfl) ?_
  refine lv_iload_n hx hb dX5_loadOf_1 rfl (lv_at hl 1 rfl) ?_
  refine k_callV (As := [.int w]) (g_findLighter hst hz hw (w := w)) S hh (cwV 1 hts gX5_loadOf_X5_findLighter rfl rfl rfl (by decide +kernel) ⟨(Nat.le_of_ble_eq_true rfl), (Nat.le_of_ble_eq_true rfl)⟩) hz.1.1.1 hz.1.1.2 (q := (RX5, TX5, 7)) rfl rfl rfl hl.1 rfl (Nat.le_of_ble_eq_true rfl) dX5_loadOf_2 ⟨(Nat.le_of_ble_eq_true rfl), (Nat.le_of_ble_eq_true rfl)⟩ (fun v L1 f1 H locs hp hh => ?_) (fun E ce q9 H locs hE hh h1 h2 h3 => k_out ht hlk hE hh h1 h2 h3 (Nat.le_of_ble_eq_true rfl) (Nat.le_of_ble_eq_true rfl))
  obtain ⟨rfl, hne2, hL1, hf1⟩ := hp
  subst hL1; subst hf1
  obtain ⟨hv2, hl2⟩ := is_ix rfl (by omega) hne2
  refine x_get S hh hz 1 (by decide) (i := (nT w)) hl2 (Cn := RX2) (T := TX2) (Nn := 7) rfl inX2 1 (by decide) rfl rfl (by decide +kernel) dX5_loadOf_5 ?_
  exact k_iret hx hb hr hlk hh dX5_loadOf_8 (Nat.le_of_ble_eq_true rfl) (Nat.le_of_ble_eq_true rfl) ⟨rfl, hne2, rfl, rfl⟩

set_option maxRecDepth 100000 in
set_option maxHeartbeats 4000000 in
theorem g_dustIn {l : Launch} (hst : l.stackTraces = false) {κ : Kx} {x : Nat} {a : AD} {N P : Nat → Nat} {C : MS} {L L0 : List Nat} {f0 f : Nat → va_E} (hz : ZC κ x a N P C L0 f0 L f) (hw : WC N P C) {w : Int32} : PM l κ yX5_dustIn wsX5_dustIn ({ frames := 7, cells := 1, slots := 6, locals := 103 } : Room) [.ref x, .int w] L f (fun v L1 f1 => v = some (.int (C 3 (nT w))) ∧ ¬ isF w (nI (N 1)) = 0 ∧ L = L1 ∧ f = f1) (fun E => E = "java/lang/IndexOutOfBoundsException" ∧ isF w (nI (N 1)) = 0) 1 6 := by
  refine PM.mk (cc := cX5_dustIn) (maxL := 2) (ret := (some .int)) (by decide) rfl (Nat.le_of_ble_eq_true rfl) ?_
  intro p e s m args below meth c ls hx hb hml hr hlk hnm hown hts ht hh hl
  have hl : lv_has ls 2 [(0, .ref x), (1, .int w)] := hl
  have S : CallFix p m c cX5_dustIn 2 s args wsX5_dustIn RX5 := ⟨hx, hb, hml, hown, hts⟩
  have inX2 : ∀ w ∈ wsX20, w ∈ wsX5_dustIn := by decide +kernel
  have inX5 : ∀ w ∈ wsX50, w ∈ wsX5_dustIn := by decide +kernel
  have hz := hz.self
  obtain ⟨b0, b1, b2, b3, b4⟩ := id hw.1
  refine lv_aload_n hx hb dX5_dustIn_0 rfl (lv_at hl 0 rfl) ?_
  refine lv_iload_n hx hb dX5_dustIn_1 rfl (lv_at hl 1 rfl) ?_
  refine k_callV (As := [.int w]) (g_findLighter hst hz hw (w := w)) S hh (cwV 1 hts gX5_dustIn_X5_findLighter rfl rfl rfl (by decide +kernel) ⟨(Nat.le_of_ble_eq_true rfl), (Nat.le_of_ble_eq_true rfl)⟩) hz.1.1.1 hz.1.1.2 (q := (RX5, TX5, 7)) rfl rfl rfl hl.1 rfl (Nat.le_of_ble_eq_true rfl) dX5_dustIn_2 ⟨(Nat.le_of_ble_eq_true rfl), (Nat.le_of_ble_eq_true rfl)⟩ (fun v L1 f1 H locs hp hh => ?_) (fun E ce q9 H locs hE hh h1 h2 h3 => k_out ht hlk hE hh h1 h2 h3 (Nat.le_of_ble_eq_true rfl) (Nat.le_of_ble_eq_true rfl))
  obtain ⟨rfl, hne2, hL1, hf1⟩ := hp
  subst hL1; subst hf1
  obtain ⟨hv2, hl2⟩ := is_ix rfl (by omega) hne2
  refine x_get S hh hz 1 (by decide) (i := (nT w)) hl2 (Cn := RX2) (T := TX2) (Nn := 7) rfl inX2 2 (by decide) rfl rfl (by decide +kernel) dX5_dustIn_5 ?_
  exact k_iret hx hb hr hlk hh dX5_dustIn_8 (Nat.le_of_ble_eq_true rfl) (Nat.le_of_ble_eq_true rfl) ⟨rfl, hne2, rfl, rfl⟩

set_option maxRecDepth 100000 in
set_option maxHeartbeats 4000000 in
theorem g_restOf {l : Launch} (hst : l.stackTraces = false) {κ : Kx} {x : Nat} {a : AD} {N P : Nat → Nat} {C : MS} {L L0 : List Nat} {f0 f : Nat → va_E} (hz : ZC κ x a N P C L0 f0 L f) (hw : WC N P C) {w : Int32} : PM l κ yX5_restOf wsX5_restOf ({ frames := 7, cells := 1, slots := 6, locals := 103 } : Room) [.ref x, .int w] L f (fun v L1 f1 => v = some (.int (C 11 (nT w))) ∧ ¬ isF w (nI (N 2)) = 0 ∧ L = L1 ∧ f = f1) (fun E => E = "java/lang/IndexOutOfBoundsException" ∧ isF w (nI (N 2)) = 0) 1 6 := by
  refine PM.mk (cc := cX5_restOf) (maxL := 2) (ret := (some .int)) (by decide) rfl (Nat.le_of_ble_eq_true rfl) ?_
  intro p e s m args below meth c ls hx hb hml hr hlk hnm hown hts ht hh hl
  have hl : lv_has ls 2 [(0, .ref x), (1, .int w)] := hl
  have S : CallFix p m c cX5_restOf 2 s args wsX5_restOf RX5 := ⟨hx, hb, hml, hown, hts⟩
  have inX0 : ∀ w ∈ wsX00, w ∈ wsX5_restOf := by decide +kernel
  have inX5 : ∀ w ∈ wsX50, w ∈ wsX5_restOf := by decide +kernel
  have hz := hz.self
  obtain ⟨b0, b1, b2, b3, b4⟩ := id hw.1
  refine lv_aload_n hx hb dX5_restOf_0 rfl (lv_at hl 0 rfl) ?_
  refine lv_iload_n hx hb dX5_restOf_1 rfl (lv_at hl 1 rfl) ?_
  refine k_callV (As := [.int w]) (g_findGang hst hz hw (w := w)) S hh (cwV 1 hts gX5_restOf_X5_findGang rfl rfl rfl (by decide +kernel) ⟨(Nat.le_of_ble_eq_true rfl), (Nat.le_of_ble_eq_true rfl)⟩) hz.1.1.1 hz.1.1.2 (q := (RX5, TX5, 7)) rfl rfl rfl hl.1 rfl (Nat.le_of_ble_eq_true rfl) dX5_restOf_2 ⟨(Nat.le_of_ble_eq_true rfl), (Nat.le_of_ble_eq_true rfl)⟩ (fun v L1 f1 H locs hp hh => ?_) (fun E ce q9 H locs hE hh h1 h2 h3 => k_out ht hlk hE hh h1 h2 h3 (Nat.le_of_ble_eq_true rfl) (Nat.le_of_ble_eq_true rfl))
  obtain ⟨rfl, hne2, hL1, hf1⟩ := hp
  subst hL1; subst hf1
  obtain ⟨hv2, hl2⟩ := is_ix rfl (by omega) hne2
  refine x_get S hh hz 2 (by decide) (i := (nT w)) hl2 (Cn := RX0) (T := TX0) (Nn := 5) rfl inX0 3 (by decide) rfl rfl (by decide +kernel) dX5_restOf_5 ?_
  exact k_iret hx hb hr hlk hh dX5_restOf_8 (Nat.le_of_ble_eq_true rfl) (Nat.le_of_ble_eq_true rfl) ⟨rfl, hne2, rfl, rfl⟩

set_option maxRecDepth 100000 in
set_option maxHeartbeats 4000000 in
theorem g_fateOf {l : Launch} (hst : l.stackTraces = false) {κ : Kx} {x : Nat} {a : AD} {N P : Nat → Nat} {C : MS} {L L0 : List Nat} {f0 f : Nat → va_E} (hz : ZC κ x a N P C L0 f0 L f) (hw : WC N P C) {w : Int32} : PM l κ yX5_fateOf wsX5_fateOf ({ frames := 7, cells := 1, slots := 6, locals := 103 } : Room) [.ref x, .int w] L f (fun v L1 f1 => v = some (.int (C 14 (nT w))) ∧ ¬ isF w (nI (N 3)) = 0 ∧ L = L1 ∧ f = f1) (fun E => E = "java/lang/IndexOutOfBoundsException" ∧ isF w (nI (N 3)) = 0) 1 6 := by
  refine PM.mk (cc := cX5_fateOf) (maxL := 2) (ret := (some .int)) (by decide) rfl (Nat.le_of_ble_eq_true rfl) ?_
  intro p e s m args below meth c ls hx hb hml hr hlk hnm hown hts ht hh hl
  have hl : lv_has ls 2 [(0, .ref x), (1, .int w)] := hl
  have S : CallFix p m c cX5_fateOf 2 s args wsX5_fateOf RX5 := ⟨hx, hb, hml, hown, hts⟩
  have inX4 : ∀ w ∈ wsX40, w ∈ wsX5_fateOf := by decide +kernel
  have inX5 : ∀ w ∈ wsX50, w ∈ wsX5_fateOf := by decide +kernel
  have hz := hz.self
  obtain ⟨b0, b1, b2, b3, b4⟩ := id hw.1
  refine lv_aload_n hx hb dX5_fateOf_0 rfl (lv_at hl 0 rfl) ?_
  refine lv_iload_n hx hb dX5_fateOf_1 rfl (lv_at hl 1 rfl) ?_
  refine k_callV (As := [.int w]) (g_findSteamer hst hz hw (w := w)) S hh (cwV 1 hts gX5_fateOf_X5_findSteamer rfl rfl rfl (by decide +kernel) ⟨(Nat.le_of_ble_eq_true rfl), (Nat.le_of_ble_eq_true rfl)⟩) hz.1.1.1 hz.1.1.2 (q := (RX5, TX5, 7)) rfl rfl rfl hl.1 rfl (Nat.le_of_ble_eq_true rfl) dX5_fateOf_2 ⟨(Nat.le_of_ble_eq_true rfl), (Nat.le_of_ble_eq_true rfl)⟩ (fun v L1 f1 H locs hp hh => ?_) (fun E ce q9 H locs hE hh h1 h2 h3 => k_out ht hlk hE hh h1 h2 h3 (Nat.le_of_ble_eq_true rfl) (Nat.le_of_ble_eq_true rfl))
  obtain ⟨rfl, hne2, hL1, hf1⟩ := hp
  subst hL1; subst hf1
  obtain ⟨hv2, hl2⟩ := is_ix rfl (by omega) hne2
  refine x_get S hh hz 3 (by decide) (i := (nT w)) hl2 (Cn := RX4) (T := TX4) (Nn := 4) rfl inX4 3 (by decide) rfl rfl (by decide +kernel) dX5_fateOf_5 ?_
  exact k_iret hx hb hr hlk hh dX5_fateOf_8 (Nat.le_of_ble_eq_true rfl) (Nat.le_of_ble_eq_true rfl) ⟨rfl, hne2, rfl, rfl⟩

set_option maxRecDepth 100000 in
set_option maxHeartbeats 4000000 in
theorem g_wantOf {l : Launch} (hst : l.stackTraces = false) {κ : Kx} {x : Nat} {a : AD} {N P : Nat → Nat} {C : MS} {L L0 : List Nat} {f0 f : Nat → va_E} (hz : ZC κ x a N P C L0 f0 L f) (hw : WC N P C) {w : Int32} : PM l κ yX5_wantOf wsX5_wantOf ({ frames := 7, cells := 1, slots := 6, locals := 103 } : Room) [.ref x, .int w] L f (fun v L1 f1 => v = some (.int (C 12 (nT w))) ∧ ¬ isF w (nI (N 3)) = 0 ∧ L = L1 ∧ f = f1) (fun E => E = "java/lang/IndexOutOfBoundsException" ∧ isF w (nI (N 3)) = 0) 1 6 := by
  refine PM.mk (cc := cX5_wantOf) (maxL := 2) (ret := (some .int)) (by decide) rfl (Nat.le_of_ble_eq_true rfl) ?_
  intro p e s m args below meth c ls hx hb hml hr hlk hnm hown hts ht hh hl
  have hl : lv_has ls 2 [(0, .ref x), (1, .int w)] := hl
  have S : CallFix p m c cX5_wantOf 2 s args wsX5_wantOf RX5 := ⟨hx, hb, hml, hown, hts⟩
  have inX4 : ∀ w ∈ wsX40, w ∈ wsX5_wantOf := by decide +kernel
  have inX5 : ∀ w ∈ wsX50, w ∈ wsX5_wantOf := by decide +kernel
  have hz := hz.self
  obtain ⟨b0, b1, b2, b3, b4⟩ := id hw.1
  refine lv_aload_n hx hb dX5_wantOf_0 rfl (lv_at hl 0 rfl) ?_
  refine lv_iload_n hx hb dX5_wantOf_1 rfl (lv_at hl 1 rfl) ?_
  refine k_callV (As := [.int w]) (g_findSteamer hst hz hw (w := w)) S hh (cwV 1 hts gX5_wantOf_X5_findSteamer rfl rfl rfl (by decide +kernel) ⟨(Nat.le_of_ble_eq_true rfl), (Nat.le_of_ble_eq_true rfl)⟩) hz.1.1.1 hz.1.1.2 (q := (RX5, TX5, 7)) rfl rfl rfl hl.1 rfl (Nat.le_of_ble_eq_true rfl) dX5_wantOf_2 ⟨(Nat.le_of_ble_eq_true rfl), (Nat.le_of_ble_eq_true rfl)⟩ (fun v L1 f1 H locs hp hh => ?_) (fun E ce q9 H locs hE hh h1 h2 h3 => k_out ht hlk hE hh h1 h2 h3 (Nat.le_of_ble_eq_true rfl) (Nat.le_of_ble_eq_true rfl))
  obtain ⟨rfl, hne2, hL1, hf1⟩ := hp
  subst hL1; subst hf1
  obtain ⟨hv2, hl2⟩ := is_ix rfl (by omega) hne2
  refine x_get S hh hz 3 (by decide) (i := (nT w)) hl2 (Cn := RX4) (T := TX4) (Nn := 4) rfl inX4 1 (by decide) rfl rfl (by decide +kernel) dX5_wantOf_5 ?_
  exact k_iret hx hb hr hlk hh dX5_wantOf_8 (Nat.le_of_ble_eq_true rfl) (Nat.le_of_ble_eq_true rfl) ⟨rfl, hne2, rfl, rfl⟩

set_option maxRecDepth 100000 in
set_option maxHeartbeats 4000000 in
theorem g_gangOn {l : Launch} (hst : l.stackTraces = false) {κ : Kx} {x : Nat} {a : AD} {N P : Nat → Nat} {C : MS} {L L0 : List Nat} {f0 f : Nat → va_E} (hz : ZC κ x a N P C L0 f0 L f) (hw : WC N P C) {w : Int32} : PM l κ yX5_gangOn wsX5_gangOn ({ frames := 7, cells := 1, slots := 6, locals := 103 } : Room) [.ref x, .int w] L f (fun v L1 f1 => v = some (.int (C 6 (nT w))) ∧ ¬ isF w (nI (N 1)) = 0 ∧ L = L1 ∧ f = f1) (fun E => E = "java/lang/IndexOutOfBoundsException" ∧ isF w (nI (N 1)) = 0) 1 6 := by
  refine PM.mk (cc := cX5_gangOn) (maxL := 3) (ret := (some .int)) (by decide) rfl (Nat.le_of_ble_eq_true rfl) ?_
  intro p e s m args below meth c ls hx hb hml hr hlk hnm hown hts ht hh hl
  have hl : lv_has ls 3 [(0, .ref x), (1, .int w)] := hl
  have S : CallFix p m c cX5_gangOn 3 s args wsX5_gangOn RX5 := ⟨hx, hb, hml, hown, hts⟩
  have inX0 : ∀ w ∈ wsX00, w ∈ wsX5_gangOn := by decide +kernel
  have inX2 : ∀ w ∈ wsX20, w ∈ wsX5_gangOn := by decide +kernel
  have inX3 : ∀ w ∈ wsX30, w ∈ wsX5_gangOn := by decide +kernel
  have inX5 : ∀ w ∈ wsX50, w ∈ wsX5_gangOn := by decide +kernel
  have hz := hz.self
  obtain ⟨b0, b1, b2, b3, b4⟩ := id hw.1
  refine lv_aload_n hx hb dX5_gangOn_0 rfl (lv_at hl 0 rfl) ?_
  refine lv_iload_n hx hb dX5_gangOn_1 rfl (lv_at hl 1 rfl) ?_
  refine k_callV (As := [.int w]) (g_findLighter hst hz hw (w := w)) S hh (cwV 1 hts gX5_gangOn_X5_findLighter rfl rfl rfl (by decide +kernel) ⟨(Nat.le_of_ble_eq_true rfl), (Nat.le_of_ble_eq_true rfl)⟩) hz.1.1.1 hz.1.1.2 (q := (RX5, TX5, 7)) rfl rfl rfl hl.1 rfl (Nat.le_of_ble_eq_true rfl) dX5_gangOn_2 ⟨(Nat.le_of_ble_eq_true rfl), (Nat.le_of_ble_eq_true rfl)⟩ (fun v L1 f1 H locs hp hh => ?_) (fun E ce q9 H locs hE hh h1 h2 h3 => k_out ht hlk hE hh h1 h2 h3 (Nat.le_of_ble_eq_true rfl) (Nat.le_of_ble_eq_true rfl))
  obtain ⟨rfl, hne2, hL1, hf1⟩ := hp
  subst hL1; subst hf1
  obtain ⟨hv2, hl2⟩ := is_ix rfl (by omega) hne2
  by_cases h6_5 : (C 6 (nT w)) = -1
  · refine x_get S hh hz 1 (by decide) (i := (nT w)) hl2 (Cn := RX2) (T := TX2) (Nn := 7) rfl inX2 6 (by decide) (v := .null) (by simp [fsOf, lFv, h6_5]) rfl (by decide +kernel) dX5_gangOn_5 ?_
    refine lv_astore_nN (lv' := [(2, .null), (0, .ref x), (1, .int w)]) hx hb dX5_gangOn_8 rfl hl (by decide) rfl (fun ls hl => ?_)
    refine lv_aload_nN hx hb dX5_gangOn_9 rfl (lv_at hl 0 rfl) ?_
    refine lv_ifnonnullN hx hb dX5_gangOn_10 ?_
    refine lv_iconst (v := (-1)) hx hb dX5_gangOn_13 (by decide) ?_
    refine lv_goto (tgt := 24) hx hb dX5_gangOn_14 (by decide) ?_
    exact k_iret hx hb hr hlk hh dX5_gangOn_24 (Nat.le_of_ble_eq_true rfl) (Nat.le_of_ble_eq_true rfl) ⟨by first | rw [h6_5] | exact congrArg (fun r => some (Value.int r)) (hw.2.2.1 _ hl2 h6_5).1.1.symm, hne2, rfl, rfl⟩
  · refine x_get S hh hz 1 (by decide) (i := (nT w)) hl2 (Cn := RX2) (T := TX2) (Nn := 7) rfl inX2 6 (by decide) (v := .ref (a 4 (nT w))) (by simp [fsOf, lFv, h6_5]) rfl (by decide +kernel) dX5_gangOn_5 ?_
    refine lv_astore_n (lv' := [(2, .ref (a 4 (nT w))), (0, .ref x), (1, .int w)]) hx hb dX5_gangOn_8 rfl hl (by decide) rfl (fun ls hl => ?_)
    refine lv_aload_n hx hb dX5_gangOn_9 rfl (lv_at hl 0 rfl) ?_
    refine lv_ifnonnull (tgt := 17) hx hb dX5_gangOn_10 (by decide) ?_
    refine lv_aload_n hx hb dX5_gangOn_17 rfl (lv_at hl 0 rfl) ?_
    refine o_get S hh hz hl2 h6_5 inX3 0 (by decide) rfl rfl (by decide +kernel) dX5_gangOn_18 ?_
    refine x_get S hh hz 2 (by decide) (i := (nT (C 6 (nT w)))) (hw.2.2.1 _ hl2 h6_5).1.2 (Cn := RX0) (T := TX0) (Nn := 5) rfl inX0 0 (by decide) rfl rfl (by decide +kernel) dX5_gangOn_21 ?_
    exact k_iret hx hb hr hlk hh dX5_gangOn_24 (Nat.le_of_ble_eq_true rfl) (Nat.le_of_ble_eq_true rfl) ⟨by first | rw [h6_5] | exact congrArg (fun r => some (Value.int r)) (hw.2.2.1 _ hl2 h6_5).1.1.symm, hne2, rfl, rfl⟩

set_option maxRecDepth 100000 in
set_option maxHeartbeats 4000000 in
theorem g_clock {l : Launch} {κ : Kx} {x : Nat} {a : AD} {N P : Nat → Nat} {C : MS} {L L0 : List Nat} {f0 f : Nat → va_E} (hz : ZC κ x a N P C L0 f0 L f) : PM l κ yX5_clock wsX5_clock ({ frames := 0, cells := 0, slots := 0, locals := 0 } : Room) [.ref x] L f (fun v L1 f1 => v = some (.int (C 16 0)) ∧ L = L1 ∧ f = f1) noX 0 0 := by
  refine PM.mk (cc := cX5_clock) (maxL := 1) (ret := (some .int)) (by decide) rfl (Nat.le_of_ble_eq_true rfl) ?_
  intro p e s m args below meth c ls hx hb hml hr hlk hnm hown hts ht hh hl
  have hl : lv_has ls 1 [(0, .ref x)] := hl
  have S : CallFix p m c cX5_clock 1 s args wsX5_clock RX5 := ⟨hx, hb, hml, hown, hts⟩
  have inX5 : ∀ w ∈ wsX50, w ∈ wsX5_clock := by decide +kernel
  have hz := hz.self
  refine lv_aload_n hx hb dX5_clock_0 rfl (lv_at hl 0 rfl) ?_
  refine xx_get S hh hz inX5 5 (by decide) rfl rfl (by decide +kernel) dX5_clock_1 ?_
  exact k_iret hx hb hr hlk hh dX5_clock_4 (Nat.le_of_ble_eq_true rfl) (Nat.le_of_ble_eq_true rfl) ⟨rfl, rfl, rfl⟩

set_option maxRecDepth 100000 in
set_option maxHeartbeats 4000000 in
theorem g_delivered {l : Launch} {κ : Kx} {x : Nat} {a : AD} {N P : Nat → Nat} {C : MS} {L L0 : List Nat} {f0 f : Nat → va_E} (hz : ZC κ x a N P C L0 f0 L f) : PM l κ yX5_delivered wsX5_delivered ({ frames := 0, cells := 0, slots := 0, locals := 0 } : Room) [.ref x] L f (fun v L1 f1 => v = some (.int (C 17 0)) ∧ L = L1 ∧ f = f1) noX 0 0 := by
  refine PM.mk (cc := cX5_delivered) (maxL := 1) (ret := (some .int)) (by decide) rfl (Nat.le_of_ble_eq_true rfl) ?_
  intro p e s m args below meth c ls hx hb hml hr hlk hnm hown hts ht hh hl
  have hl : lv_has ls 1 [(0, .ref x)] := hl
  have S : CallFix p m c cX5_delivered 1 s args wsX5_delivered RX5 := ⟨hx, hb, hml, hown, hts⟩
  have inX5 : ∀ w ∈ wsX50, w ∈ wsX5_delivered := by decide +kernel
  have hz := hz.self
  refine lv_aload_n hx hb dX5_delivered_0 rfl (lv_at hl 0 rfl) ?_
  refine xx_get S hh hz inX5 6 (by decide) rfl rfl (by decide +kernel) dX5_delivered_1 ?_
  exact k_iret hx hb hr hlk hh dX5_delivered_4 (Nat.le_of_ble_eq_true rfl) (Nat.le_of_ble_eq_true rfl) ⟨rfl, rfl, rfl⟩

set_option maxRecDepth 100000 in
set_option maxHeartbeats 4000000 in
theorem g_shift {l : Launch} (hst : l.stackTraces = false) {κ : Kx} {x : Nat} {a : AD} {N P : Nat → Nat} {C : MS} {L L0 : List Nat} {f0 f : Nat → va_E} (hz : ZC κ x a N P C L0 f0 L f) (hw : WC N P C) {v w : Int32} : PM l κ yX5_shift wsX5_shift ({ frames := 7, cells := 3, slots := 18, locals := 103 } : Room) [.ref x, .int v, .int w] L f (fun v9 L1 f1 => v9 = none ∧ shiftTG N C v w = 0 ∧ L = L1 ∧ ZC κ x a N P (shiftG C v w) L f L1 f1) (exB (shiftTG N C v w)) 3 18 := by
  refine PM.mk (cc := cX5_shift) (maxL := 5) (ret := none) (by decide) rfl (Nat.le_of_ble_eq_true rfl) ?_
  intro p e s m args below meth c ls hx hb hml hr hlk hnm hown hts ht hh hl
  have hl : lv_has ls 5 [(0, .ref x), (1, .int v), (2, .int w)] := hl
  have S : CallFix p m c cX5_shift 5 s args wsX5_shift RX5 := ⟨hx, hb, hml, hown, hts⟩
  have inX2 : ∀ w ∈ wsX20, w ∈ wsX5_shift := by decide +kernel
  have inX5 : ∀ w ∈ wsX50, w ∈ wsX5_shift := by decide +kernel
  have hz := hz.self
  obtain ⟨b0, b1, b2, b3, b4⟩ := id hw.1
  refine lv_aload_n hx hb dX5_shift_0 rfl (lv_at hl 0 rfl) ?_
  refine lv_iload_n hx hb dX5_shift_1 rfl (lv_at hl 1 rfl) ?_
  refine k_callV (As := [.int v]) (g_findLighter hst hz hw (w := v)) S hh (cwV 1 hts gX5_shift_X5_findLighter rfl rfl rfl (by decide +kernel) ⟨(Nat.le_of_ble_eq_true rfl), (Nat.le_of_ble_eq_true rfl)⟩) hz.1.1.1 hz.1.1.2 (q := (RX5, TX5, 7)) rfl rfl rfl hl.1 rfl (Nat.le_of_ble_eq_true rfl) dX5_shift_2 ⟨(Nat.le_of_ble_eq_true rfl), (Nat.le_of_ble_eq_true rfl)⟩ (fun v L1 f1 H locs hp hh => ?_) (fun E ce q9 H locs hE hh h1 h2 h3 => k_out ht hlk (by obtain ⟨rfl, hE2⟩ := hE; first | exact Or.inl ⟨rfl, by unfold shiftTG; (repeat' split); all_goals first | rfl | contradiction⟩ | exact Or.inr ⟨rfl, by unfold shiftTG; (repeat' split); all_goals first | rfl | contradiction⟩) hh h1 h2 h3 (Nat.le_of_ble_eq_true rfl) (Nat.le_of_ble_eq_true rfl))
  obtain ⟨rfl, hne2, hL1, hf1⟩ := hp
  subst hL1; subst hf1
  obtain ⟨hv2, hl2⟩ := is_ix rfl (by omega) hne2
  refine lv_astore_n (lv' := [(3, .ref (a 1 (nT v))), (0, .ref x), (1, .int v), (2, .int w)]) hx hb dX5_shift_5 rfl hl (by decide) rfl (fun ls hl => ?_)
  refine lv_aload_n hx hb dX5_shift_6 rfl (lv_at hl 1 rfl) ?_
  refine lv_iload_n hx hb dX5_shift_7 rfl (lv_at hl 3 rfl) ?_
  refine k_callV (As := [.int w]) (g_findHulk hst hz hw (w := w)) S hh (cwV 1 hts gX5_shift_X5_findHulk rfl rfl rfl (by decide +kernel) ⟨(Nat.le_of_ble_eq_true rfl), (Nat.le_of_ble_eq_true rfl)⟩) hz.1.1.1 hz.1.1.2 (q := (RX5, TX5, 7)) rfl rfl rfl hl.1 rfl (Nat.le_of_ble_eq_true rfl) dX5_shift_8 ⟨(Nat.le_of_ble_eq_true rfl), (Nat.le_of_ble_eq_true rfl)⟩ (fun v L1 f1 H locs hp hh => ?_) (fun E ce q9 H locs hE hh h1 h2 h3 => k_out ht hlk (by obtain ⟨rfl, hE2⟩ := hE; first | exact Or.inl ⟨rfl, by unfold shiftTG; (repeat' split); all_goals first | rfl | contradiction⟩ | exact Or.inr ⟨rfl, by unfold shiftTG; (repeat' split); all_goals first | rfl | contradiction⟩) hh h1 h2 h3 (Nat.le_of_ble_eq_true rfl) (Nat.le_of_ble_eq_true rfl))
  obtain ⟨rfl, hne8, hL1, hf1⟩ := hp
  subst hL1; subst hf1
  obtain ⟨hv8, hl8⟩ := is_ix rfl (by omega) hne8
  refine lv_astore (lv' := [(4, .ref (a 0 (nT w))), (3, .ref (a 1 (nT v))), (0, .ref x), (1, .int v), (2, .int w)]) hx hb dX5_shift_11 hl (by decide) rfl (fun ls hl => ?_)
  refine lv_aload_n hx hb dX5_shift_13 rfl (lv_at hl 1 rfl) ?_
  refine k_callS (As := [.ref (a 1 (nT v))]) (g_ro hst hz (i := (nT v)) hl2) S hh (va_cwS 1 hts gX5_shift_X5_refuseOrdered rfl rfl rfl (by decide +kernel) ⟨(Nat.le_of_ble_eq_true rfl), (Nat.le_of_ble_eq_true rfl)⟩) rfl hl.1 rfl (Nat.le_of_ble_eq_true rfl) dX5_shift_14 ⟨(Nat.le_of_ble_eq_true rfl), (Nat.le_of_ble_eq_true rfl)⟩ (fun v L1 f1 H locs hp hh => ?_) (fun E ce q9 H locs hE hh h1 h2 h3 => k_out ht hlk (by obtain ⟨rfl, hE2⟩ := hE; first | exact Or.inl ⟨rfl, by unfold shiftTG; (repeat' split); all_goals first | rfl | contradiction⟩ | exact Or.inr ⟨rfl, by unfold shiftTG; (repeat' split); all_goals first | rfl | contradiction⟩) hh h1 h2 h3 (Nat.le_of_ble_eq_true rfl) (Nat.le_of_ble_eq_true rfl))
  obtain ⟨rfl, hn6, hL1, hf1⟩ := hp
  subst hL1; subst hf1
  refine lv_aload_n hx hb dX5_shift_17 rfl (lv_at hl 1 rfl) ?_
  refine lv_aload hx hb dX5_shift_18 (lv_at hl 0 rfl) ?_
  refine x_put S hh hz 1 (by decide) (i := (nT v)) hl2 (Cn := RX2) (T := TX2) (Nn := 7) rfl inX2 tyX2 tyX2_ok nmX2 5 (by decide) (ty := .object "CoalHulks$Hulk") rfl rfl rfl rfl rfl (Nat.le_of_ble_eq_true rfl) (put1h _ _ _ _ (nI_clamp (by omega))) (by decide +kernel) dX5_shift_20 (fun f9 H locs hh hz => ?_)
  exact k_vret hx hb hr hlk hh dX5_shift_23 (Nat.le_of_ble_eq_true rfl) (Nat.le_of_ble_eq_true rfl) ⟨rfl, by unfold shiftTG; (repeat' split); all_goals first | rfl | contradiction, rfl, hz⟩

set_option maxRecDepth 100000 in
set_option maxHeartbeats 4000000 in
theorem g_sweep {l : Launch} (hst : l.stackTraces = false) {κ : Kx} {x : Nat} {a : AD} {N P : Nat → Nat} {C : MS} {L L0 : List Nat} {f0 f : Nat → va_E} (hz : ZC κ x a N P C L0 f0 L f) (hw : WC N P C) {v w : Int32} : PM l κ yX5_sweep wsX5_sweep ({ frames := 7, cells := 4, slots := 24, locals := 103 } : Room) [.ref x, .int v, .int w] L f (fun v9 L1 f1 => v9 = some (.int (C 3 (nT v))) ∧ sweepTG N C v w = 0 ∧ L = L1 ∧ ZC κ x a N P (sweepG C v w) L f L1 f1) (exB (sweepTG N C v w)) 4 24 := by
  refine PM.mk (cc := cX5_sweep) (maxL := 6) (ret := (some .int)) (by decide) rfl (Nat.le_of_ble_eq_true rfl) ?_
  intro p e s m args below meth c ls hx hb hml hr hlk hnm hown hts ht hh hl
  have hl : lv_has ls 6 [(0, .ref x), (1, .int v), (2, .int w)] := hl
  have S : CallFix p m c cX5_sweep 6 s args wsX5_sweep RX5 := ⟨hx, hb, hml, hown, hts⟩
  have inX0 : ∀ w ∈ wsX00, w ∈ wsX5_sweep := by decide +kernel
  have inX1 : ∀ w ∈ wsX10, w ∈ wsX5_sweep := by decide +kernel
  have inX2 : ∀ w ∈ wsX20, w ∈ wsX5_sweep := by decide +kernel
  have inX5 : ∀ w ∈ wsX50, w ∈ wsX5_sweep := by decide +kernel
  have hz := hz.self
  obtain ⟨b0, b1, b2, b3, b4⟩ := id hw.1
  refine lv_aload_n hx hb dX5_sweep_0 rfl (lv_at hl 0 rfl) ?_
  refine lv_iload_n hx hb dX5_sweep_1 rfl (lv_at hl 1 rfl) ?_
  refine k_callV (As := [.int v]) (g_findLighter hst hz hw (w := v)) S hh (cwV 1 hts gX5_sweep_X5_findLighter rfl rfl rfl (by decide +kernel) ⟨(Nat.le_of_ble_eq_true rfl), (Nat.le_of_ble_eq_true rfl)⟩) hz.1.1.1 hz.1.1.2 (q := (RX5, TX5, 7)) rfl rfl rfl hl.1 rfl (Nat.le_of_ble_eq_true rfl) dX5_sweep_2 ⟨(Nat.le_of_ble_eq_true rfl), (Nat.le_of_ble_eq_true rfl)⟩ (fun v L1 f1 H locs hp hh => ?_) (fun E ce q9 H locs hE hh h1 h2 h3 => k_out ht hlk (by obtain ⟨rfl, hE2⟩ := hE; first | exact Or.inl ⟨rfl, by unfold sweepTG; (repeat' split); all_goals first | rfl | contradiction⟩ | exact Or.inr ⟨rfl, by unfold sweepTG; (repeat' split); all_goals first | rfl | contradiction⟩) hh h1 h2 h3 (Nat.le_of_ble_eq_true rfl) (Nat.le_of_ble_eq_true rfl))
  obtain ⟨rfl, hne2, hL1, hf1⟩ := hp
  subst hL1; subst hf1
  obtain ⟨hv2, hl2⟩ := is_ix rfl (by omega) hne2
  refine lv_astore_n (lv' := [(3, .ref (a 1 (nT v))), (0, .ref x), (1, .int v), (2, .int w)]) hx hb dX5_sweep_5 rfl hl (by decide) rfl (fun ls hl => ?_)
  refine lv_aload_n hx hb dX5_sweep_6 rfl (lv_at hl 1 rfl) ?_
  refine lv_iload_n hx hb dX5_sweep_7 rfl (lv_at hl 3 rfl) ?_
  refine k_callV (As := [.int w]) (g_findGang hst hz hw (w := w)) S hh (cwV 1 hts gX5_sweep_X5_findGang rfl rfl rfl (by decide +kernel) ⟨(Nat.le_of_ble_eq_true rfl), (Nat.le_of_ble_eq_true rfl)⟩) hz.1.1.1 hz.1.1.2 (q := (RX5, TX5, 7)) rfl rfl rfl hl.1 rfl (Nat.le_of_ble_eq_true rfl) dX5_sweep_8 ⟨(Nat.le_of_ble_eq_true rfl), (Nat.le_of_ble_eq_true rfl)⟩ (fun v L1 f1 H locs hp hh => ?_) (fun E ce q9 H locs hE hh h1 h2 h3 => k_out ht hlk (by obtain ⟨rfl, hE2⟩ := hE; first | exact Or.inl ⟨rfl, by unfold sweepTG; (repeat' split); all_goals first | rfl | contradiction⟩ | exact Or.inr ⟨rfl, by unfold sweepTG; (repeat' split); all_goals first | rfl | contradiction⟩) hh h1 h2 h3 (Nat.le_of_ble_eq_true rfl) (Nat.le_of_ble_eq_true rfl))
  obtain ⟨rfl, hne8, hL1, hf1⟩ := hp
  subst hL1; subst hf1
  obtain ⟨hv8, hl8⟩ := is_ix rfl (by omega) hne8
  refine lv_astore (lv' := [(4, .ref (a 2 (nT w))), (3, .ref (a 1 (nT v))), (0, .ref x), (1, .int v), (2, .int w)]) hx hb dX5_sweep_11 hl (by decide) rfl (fun ls hl => ?_)
  refine lv_aload_n hx hb dX5_sweep_13 rfl (lv_at hl 1 rfl) ?_
  refine k_callS (As := [.ref (a 1 (nT v))]) (g_ro hst hz (i := (nT v)) hl2) S hh (va_cwS 1 hts gX5_sweep_X5_refuseOrdered rfl rfl rfl (by decide +kernel) ⟨(Nat.le_of_ble_eq_true rfl), (Nat.le_of_ble_eq_true rfl)⟩) rfl hl.1 rfl (Nat.le_of_ble_eq_true rfl) dX5_sweep_14 ⟨(Nat.le_of_ble_eq_true rfl), (Nat.le_of_ble_eq_true rfl)⟩ (fun v L1 f1 H locs hp hh => ?_) (fun E ce q9 H locs hE hh h1 h2 h3 => k_out ht hlk (by obtain ⟨rfl, hE2⟩ := hE; first | exact Or.inl ⟨rfl, by unfold sweepTG; (repeat' split); all_goals first | rfl | contradiction⟩ | exact Or.inr ⟨rfl, by unfold sweepTG; (repeat' split); all_goals first | rfl | contradiction⟩) hh h1 h2 h3 (Nat.le_of_ble_eq_true rfl) (Nat.le_of_ble_eq_true rfl))
  obtain ⟨rfl, hn6, hL1, hf1⟩ := hp
  subst hL1; subst hf1
  refine lv_aload hx hb dX5_sweep_17 (lv_at hl 0 rfl) ?_
  refine k_callS (As := [.ref (a 2 (nT w))]) (g_rb hst hz (i := (nT w)) hl8) S hh (va_cwS 1 hts gX5_sweep_X5_refuseBusy rfl rfl rfl (by decide +kernel) ⟨(Nat.le_of_ble_eq_true rfl), (Nat.le_of_ble_eq_true rfl)⟩) rfl hl.1 rfl (Nat.le_of_ble_eq_true rfl) dX5_sweep_19 ⟨(Nat.le_of_ble_eq_true rfl), (Nat.le_of_ble_eq_true rfl)⟩ (fun v L1 f1 H locs hp hh => ?_) (fun E ce q9 H locs hE hh h1 h2 h3 => k_out ht hlk (by obtain ⟨rfl, hE2⟩ := hE; first | exact Or.inl ⟨rfl, by unfold sweepTG; (repeat' split); all_goals first | rfl | contradiction⟩ | exact Or.inr ⟨rfl, by unfold sweepTG; (repeat' split); all_goals first | rfl | contradiction⟩) hh h1 h2 h3 (Nat.le_of_ble_eq_true rfl) (Nat.le_of_ble_eq_true rfl))
  obtain ⟨rfl, hnf, hL1, hf1⟩ := hp
  subst hL1; subst hf1
  refine lv_aload_n hx hb dX5_sweep_22 rfl (lv_at hl 1 rfl) ?_
  refine x_get S hh hz 1 (by decide) (i := (nT v)) hl2 (Cn := RX2) (T := TX2) (Nn := 7) rfl inX2 2 (by decide) rfl rfl (by decide +kernel) dX5_sweep_23 ?_
  refine lv_topi (fun x26 e26 => ?_)
  refine lv_istore (lv' := [(5, .int x26), (4, .ref (a 2 (nT w))), (3, .ref (a 1 (nT v))), (0, .ref x), (1, .int v), (2, .int w)]) hx hb dX5_sweep_26 hl (by decide) rfl (fun ls hl => ?_)
  refine lv_aload_n hx hb dX5_sweep_28 rfl (lv_at hl 2 rfl) ?_
  refine lv_iconst (v := 0) hx hb dX5_sweep_29 (by decide) ?_
  refine x_put S hh hz 1 (by decide) (i := (nT v)) hl2 (Cn := RX2) (T := TX2) (Nn := 7) rfl inX2 tyX2 tyX2_ok nmX2 2 (by decide) (ty := .int) rfl rfl rfl rfl rfl (Nat.le_of_ble_eq_true rfl) (put1 _ _ _ _).2.1 (by decide +kernel) dX5_sweep_30 (fun f9 H locs hh hz => ?_)
  refine lv_aload_n hx hb dX5_sweep_33 rfl (lv_at hl 2 rfl) ?_
  refine x_get S hh hz 1 (by decide) (i := (nT v)) hl2 (Cn := RX2) (T := TX2) (Nn := 7) rfl inX2 5 (by decide) rfl rfl (by decide +kernel) dX5_sweep_34 ?_
  refine lv_dup hx hb dX5_sweep_37 rfl ?_
  refine x_get S hh hz 0 (by decide) (i := (nT (C 5 (nT v)))) (hw.2.1 _ hl2).2 (Cn := RX1) (T := TX1) (Nn := 1) rfl inX1 0 (by decide) rfl rfl (by decide +kernel) dX5_sweep_38 ?_
  refine lv_iload hx hb dX5_sweep_41 (lv_at hl 0 rfl) ?_
  refine lv_iadd hx hb dX5_sweep_43 ?_
  refine x_put S hh hz 0 (by decide) (i := (nT (C 5 (nT v)))) (hw.2.1 _ hl2).2 (Cn := RX1) (T := TX1) (Nn := 1) rfl inX1 tyX1 tyX1_ok nmX1 0 (by decide) (ty := .int) rfl rfl rfl rfl rfl (Nat.le_of_ble_eq_true rfl) (put0 _ _ _ _) (by decide +kernel) dX5_sweep_44 (fun f9 H locs hh hz => ?_)
  refine lv_aload hx hb dX5_sweep_47 (lv_at hl 1 rfl) ?_
  refine k_callV0 (As := []) (g_lieDown hz (i := (nT w)) hl8) S hh (cwV 0 hts gX5_sweep_X0_lieDown rfl rfl rfl (by decide +kernel) ⟨(Nat.le_of_ble_eq_true rfl), (Nat.le_of_ble_eq_true rfl)⟩) (hz.1.2.1 2 (nT w) (by decide) hl8).1 (hz.1.2.1 2 (nT w) (by decide) hl8).2 (q := (RX0, TX0, 5)) rfl rfl rfl hl.1 rfl (Nat.le_of_ble_eq_true rfl) dX5_sweep_49 ⟨(Nat.le_of_ble_eq_true rfl), (Nat.le_of_ble_eq_true rfl)⟩ (fun v L1 f1 H locs hp hh => ?_)
  obtain ⟨rfl, hL1, hz1⟩ := hp
  subst hL1
  have hz := hz.trans hz1
  refine lv_iload hx hb dX5_sweep_52 (lv_at hl 0 rfl) ?_
  subst e26
  exact k_iret hx hb hr hlk hh dX5_sweep_54 (Nat.le_of_ble_eq_true rfl) (Nat.le_of_ble_eq_true rfl) ⟨rfl, by unfold sweepTG; (repeat' split); all_goals first | rfl | contradiction, rfl, hz⟩
