set_option maxRecDepth 100000 in
set_option maxHeartbeats 4000000 in
theorem c_told {l : Launch} {κ : Kx} {xm : Nat} {b : Nat → Nat} {M : MS} {L : List Nat} {f0 f : Nat → va_E} (hz : ZR κ xm b M L f0 f) {k : Nat} {x y : Int32} {n : Nat} (hk : k < 15) (hy : y = nI n) (hn : n ≤ lenM k) : PM l κ yX6_told wsX6_told ({ frames := 1, cells := 0, slots := 0, locals := 21 } : Room) [.ref xm, .ref (b k), .int x, .int y] L f (fun v L1 f1 => v = some (.int (if isF x y = 0 then 0 else M k (nT x))) ∧ L = L1 ∧ ZR κ xm b (toldF M x y) L f f1) noX 0 0 := by
  refine PM.mk (cc := cX6_told) (maxL := 4) (ret := (some .int)) (by decide) rfl (Nat.le_of_ble_eq_true rfl) ?_
  intro p e s m args below meth c ls hx hb hml hr hlk hnm hown hts ht hh hl
  have hl : lv_has ls 4 [(0, .ref xm), (1, .ref (b k)), (2, .int x), (3, .int y)] := hl
  have S : CallFix p m c cX6_told 4 s args wsX6_told RX6 := ⟨hx, hb, hml, hown, hts⟩
  have hin : ∀ w ∈ wsX60, w ∈ wsX6_told := by decide +kernel
  have hz := hz.self
  have hl31 := lenM_lt k
  refine lv_aload_n hx hb dX6_told_0 rfl (lv_at hl 0 rfl) ?_
  refine lv_iload_n hx hb dX6_told_1 rfl (lv_at hl 2 rfl) ?_
  refine lv_iload_n hx hb dX6_told_2 rfl (lv_at hl 3 rfl) ?_
  refine k_callS0 (As := [.int x, .int y]) (c_is (x := x) (y := y) (L := L)) S hh (va_cwS 2 hts gX6_told_X6_is rfl rfl rfl (by decide +kernel) ⟨(Nat.le_of_ble_eq_true rfl), (Nat.le_of_ble_eq_true rfl)⟩) rfl hl.1 rfl (Nat.le_of_ble_eq_true rfl) dX6_told_3 ⟨(Nat.le_of_ble_eq_true rfl), (Nat.le_of_ble_eq_true rfl)⟩ (fun v L1 f1 H locs hp hh => ?_)
  obtain ⟨rfl, hL1, hf1⟩ := hp
  subst hL1; subst hf1
  refine lv_if_eq (tgt := 13) hx hb dX6_told_6 (by decide) (fun c6 => ?_) (fun c6 => ?_)
  · refine lv_iconst (v := 1) hx hb dX6_told_13 (by decide) ?_
    refine r_put S hh hz hin 21 (by decide) rfl rfl rfl (by decide +kernel) dX6_told_14 (fun f9 H locs hh hz => ?_)
    refine lv_aload_n hx hb dX6_told_17 rfl (lv_at hl 0 rfl) ?_
    refine r_get S hh hz hin 21 (by decide) rfl rfl (by decide +kernel) dX6_told_18 ?_
    refine lv_if_ne (tgt := 30) hx hb dX6_told_21 (by decide) (fun _ => ?_) (fun c => absurd (show (1 : Int32) = (0 : Int32) from c) (by decide))
    refine lv_iconst (v := 0) hx hb dX6_told_30 (by decide) ?_
    exact k_iret hx hb hr hlk hh dX6_told_31 (Nat.le_of_ble_eq_true rfl) (Nat.le_of_ble_eq_true rfl) ⟨congrArg (fun r => some (Value.int r)) (by rw [if_pos (by assumption)]), rfl, hz.cast (by unfold toldF; rw [if_pos (by assumption)])⟩
  · obtain ⟨hx1, hx2⟩ := is_ix hy (by omega) c6
    have hk21 : k ≠ 21 := by omega
    refine lv_iconst (v := 0) hx hb dX6_told_9 (by decide) ?_
    refine lv_goto (tgt := 14) hx hb dX6_told_10 (by decide) ?_
    refine r_put S hh hz hin 21 (by decide) rfl rfl rfl (by decide +kernel) dX6_told_14 (fun f9 H locs hh hz => ?_)
    refine lv_aload_n hx hb dX6_told_17 rfl (lv_at hl 0 rfl) ?_
    refine r_get S hh hz hin 21 (by decide) rfl rfl (by decide +kernel) dX6_told_18 ?_
    refine lv_if_ne (tgt := 30) hx hb dX6_told_21 (by decide) (fun c => absurd (show ¬ (0 : Int32) = (0 : Int32) from c) (by decide)) (fun _ => ?_)
    refine lv_aload_n hx hb dX6_told_24 rfl (lv_at hl 1 rfl) ?_
    refine lv_iload_n hx hb dX6_told_25 rfl (lv_at hl 2 rfl) ?_
    refine r_ald (k := k) (i := (nT x)) S hh hz hk hx1 (by omega) dX6_told_26 ?_
    refine lv_goto (tgt := 31) hx hb dX6_told_27 (by decide) ?_
    exact k_iret hx hb hr hlk hh dX6_told_31 (Nat.le_of_ble_eq_true rfl) (Nat.le_of_ble_eq_true rfl) ⟨congrArg (fun r => some (Value.int r)) (by rw [if_neg (by assumption)]; simp [scM, va_up, show k ≠ 21 by omega]), rfl, hz.cast (by unfold toldF; rw [if_neg (by assumption)])⟩

set_option maxRecDepth 100000 in
set_option maxHeartbeats 4000000 in
theorem c_coalIn {l : Launch} {κ : Kx} {xm : Nat} {b : Nat → Nat} {M : MS} {L : List Nat} {f0 f : Nat → va_E} (hz : ZR κ xm b M L f0 f) {x : Int32} {n : Nat} (hy : M 15 0 = nI n) (hn : n ≤ 3) : PM l κ yX6_coalIn wsX6_coalIn ({ frames := 2, cells := 0, slots := 0, locals := 44 } : Room) [.ref xm, .int x] L f (fun v L1 f1 => v = some (.int (if isF x (M 15 0) = 0 then 0 else M 0 (nT x))) ∧ L = L1 ∧ ZR κ xm b (toldF M x (M 15 0)) L f f1) noX 0 0 := by
  refine PM.mk (cc := cX6_coalIn) (maxL := 2) (ret := (some .int)) (by decide) rfl (Nat.le_of_ble_eq_true rfl) ?_
  intro p e s m args below meth c ls hx hb hml hr hlk hnm hown hts ht hh hl
  have hl : lv_has ls 2 [(0, .ref xm), (1, .int x)] := hl
  have S : CallFix p m c cX6_coalIn 2 s args wsX6_coalIn RX6 := ⟨hx, hb, hml, hown, hts⟩
  have hin : ∀ w ∈ wsX60, w ∈ wsX6_coalIn := by decide +kernel
  have hz := hz.self
  refine lv_aload_n hx hb dX6_coalIn_0 rfl (lv_at hl 0 rfl) ?_
  refine lv_aload_n hx hb dX6_coalIn_1 rfl (lv_at hl 0 rfl) ?_
  refine r_get S hh hz hin 0 (by decide) rfl rfl (by decide +kernel) dX6_coalIn_2 ?_
  refine lv_iload_n hx hb dX6_coalIn_5 rfl (lv_at hl 1 rfl) ?_
  refine lv_aload_n hx hb dX6_coalIn_6 rfl (lv_at hl 0 rfl) ?_
  refine r_get S hh hz hin 15 (by decide) rfl rfl (by decide +kernel) dX6_coalIn_7 ?_
  refine k_callV0 (As := [.ref (b 0), .int x, .int (M 15 0)]) (c_told hz (k := 0) (x := x) (by decide) hy hn) S hh (cwV 3 hts gX6_coalIn_X6_told rfl rfl rfl (by decide +kernel) ⟨(Nat.le_of_ble_eq_true rfl), (Nat.le_of_ble_eq_true rfl)⟩) hz.1.1 hz.1.2 (q := (RX6, TX6, 22)) rfl rfl rfl hl.1 rfl (Nat.le_of_ble_eq_true rfl) dX6_coalIn_10 ⟨(Nat.le_of_ble_eq_true rfl), (Nat.le_of_ble_eq_true rfl)⟩ (fun v L1 f1 H locs hp hh => ?_)
  obtain ⟨rfl, hL1, hz1⟩ := hp
  subst hL1
  have hz := hz.trans hz1
  exact k_iret hx hb hr hlk hh dX6_coalIn_13 (Nat.le_of_ble_eq_true rfl) (Nat.le_of_ble_eq_true rfl) ⟨rfl, rfl, hz⟩

set_option maxRecDepth 100000 in
set_option maxHeartbeats 4000000 in
theorem c_placeOf {l : Launch} {κ : Kx} {xm : Nat} {b : Nat → Nat} {M : MS} {L : List Nat} {f0 f : Nat → va_E} (hz : ZR κ xm b M L f0 f) {x : Int32} {n : Nat} (hy : M 16 0 = nI n) (hn : n ≤ 6) : PM l κ yX6_placeOf wsX6_placeOf ({ frames := 2, cells := 0, slots := 0, locals := 44 } : Room) [.ref xm, .int x] L f (fun v L1 f1 => v = some (.int (if isF x (M 16 0) = 0 then 0 else M 4 (nT x))) ∧ L = L1 ∧ ZR κ xm b (toldF M x (M 16 0)) L f f1) noX 0 0 := by
  refine PM.mk (cc := cX6_placeOf) (maxL := 2) (ret := (some .int)) (by decide) rfl (Nat.le_of_ble_eq_true rfl) ?_
  intro p e s m args below meth c ls hx hb hml hr hlk hnm hown hts ht hh hl
  have hl : lv_has ls 2 [(0, .ref xm), (1, .int x)] := hl
  have S : CallFix p m c cX6_placeOf 2 s args wsX6_placeOf RX6 := ⟨hx, hb, hml, hown, hts⟩
  have hin : ∀ w ∈ wsX60, w ∈ wsX6_placeOf := by decide +kernel
  have hz := hz.self
  refine lv_aload_n hx hb dX6_placeOf_0 rfl (lv_at hl 0 rfl) ?_
  refine lv_aload_n hx hb dX6_placeOf_1 rfl (lv_at hl 0 rfl) ?_
  refine r_get S hh hz hin 4 (by decide) rfl rfl (by decide +kernel) dX6_placeOf_2 ?_
  refine lv_iload_n hx hb dX6_placeOf_5 rfl (lv_at hl 1 rfl) ?_
  refine lv_aload_n hx hb dX6_placeOf_6 rfl (lv_at hl 0 rfl) ?_
  refine r_get S hh hz hin 16 (by decide) rfl rfl (by decide +kernel) dX6_placeOf_7 ?_
  refine k_callV0 (As := [.ref (b 4), .int x, .int (M 16 0)]) (c_told hz (k := 4) (x := x) (by decide) hy hn) S hh (cwV 3 hts gX6_placeOf_X6_told rfl rfl rfl (by decide +kernel) ⟨(Nat.le_of_ble_eq_true rfl), (Nat.le_of_ble_eq_true rfl)⟩) hz.1.1 hz.1.2 (q := (RX6, TX6, 22)) rfl rfl rfl hl.1 rfl (Nat.le_of_ble_eq_true rfl) dX6_placeOf_10 ⟨(Nat.le_of_ble_eq_true rfl), (Nat.le_of_ble_eq_true rfl)⟩ (fun v L1 f1 H locs hp hh => ?_)
  obtain ⟨rfl, hL1, hz1⟩ := hp
  subst hL1
  have hz := hz.trans hz1
  exact k_iret hx hb hr hlk hh dX6_placeOf_13 (Nat.le_of_ble_eq_true rfl) (Nat.le_of_ble_eq_true rfl) ⟨rfl, rfl, hz⟩

set_option maxRecDepth 100000 in
set_option maxHeartbeats 4000000 in
theorem c_loadOf {l : Launch} {κ : Kx} {xm : Nat} {b : Nat → Nat} {M : MS} {L : List Nat} {f0 f : Nat → va_E} (hz : ZR κ xm b M L f0 f) {x : Int32} {n : Nat} (hy : M 16 0 = nI n) (hn : n ≤ 6) : PM l κ yX6_loadOf wsX6_loadOf ({ frames := 2, cells := 0, slots := 0, locals := 44 } : Room) [.ref xm, .int x] L f (fun v L1 f1 => v = some (.int (if isF x (M 16 0) = 0 then 0 else M 2 (nT x))) ∧ L = L1 ∧ ZR κ xm b (toldF M x (M 16 0)) L f f1) noX 0 0 := by
  refine PM.mk (cc := cX6_loadOf) (maxL := 2) (ret := (some .int)) (by decide) rfl (Nat.le_of_ble_eq_true rfl) ?_
  intro p e s m args below meth c ls hx hb hml hr hlk hnm hown hts ht hh hl
  have hl : lv_has ls 2 [(0, .ref xm), (1, .int x)] := hl
  have S : CallFix p m c cX6_loadOf 2 s args wsX6_loadOf RX6 := ⟨hx, hb, hml, hown, hts⟩
  have hin : ∀ w ∈ wsX60, w ∈ wsX6_loadOf := by decide +kernel
  have hz := hz.self
  refine lv_aload_n hx hb dX6_loadOf_0 rfl (lv_at hl 0 rfl) ?_
  refine lv_aload_n hx hb dX6_loadOf_1 rfl (lv_at hl 0 rfl) ?_
  refine r_get S hh hz hin 2 (by decide) rfl rfl (by decide +kernel) dX6_loadOf_2 ?_
  refine lv_iload_n hx hb dX6_loadOf_5 rfl (lv_at hl 1 rfl) ?_
  refine lv_aload_n hx hb dX6_loadOf_6 rfl (lv_at hl 0 rfl) ?_
  refine r_get S hh hz hin 16 (by decide) rfl rfl (by decide +kernel) dX6_loadOf_7 ?_
  refine k_callV0 (As := [.ref (b 2), .int x, .int (M 16 0)]) (c_told hz (k := 2) (x := x) (by decide) hy hn) S hh (cwV 3 hts gX6_loadOf_X6_told rfl rfl rfl (by decide +kernel) ⟨(Nat.le_of_ble_eq_true rfl), (Nat.le_of_ble_eq_true rfl)⟩) hz.1.1 hz.1.2 (q := (RX6, TX6, 22)) rfl rfl rfl hl.1 rfl (Nat.le_of_ble_eq_true rfl) dX6_loadOf_10 ⟨(Nat.le_of_ble_eq_true rfl), (Nat.le_of_ble_eq_true rfl)⟩ (fun v L1 f1 H locs hp hh => ?_)
  obtain ⟨rfl, hL1, hz1⟩ := hp
  subst hL1
  have hz := hz.trans hz1
  exact k_iret hx hb hr hlk hh dX6_loadOf_13 (Nat.le_of_ble_eq_true rfl) (Nat.le_of_ble_eq_true rfl) ⟨rfl, rfl, hz⟩

set_option maxRecDepth 100000 in
set_option maxHeartbeats 4000000 in
theorem c_dustIn {l : Launch} {κ : Kx} {xm : Nat} {b : Nat → Nat} {M : MS} {L : List Nat} {f0 f : Nat → va_E} (hz : ZR κ xm b M L f0 f) {x : Int32} {n : Nat} (hy : M 16 0 = nI n) (hn : n ≤ 6) : PM l κ yX6_dustIn wsX6_dustIn ({ frames := 2, cells := 0, slots := 0, locals := 44 } : Room) [.ref xm, .int x] L f (fun v L1 f1 => v = some (.int (if isF x (M 16 0) = 0 then 0 else M 3 (nT x))) ∧ L = L1 ∧ ZR κ xm b (toldF M x (M 16 0)) L f f1) noX 0 0 := by
  refine PM.mk (cc := cX6_dustIn) (maxL := 2) (ret := (some .int)) (by decide) rfl (Nat.le_of_ble_eq_true rfl) ?_
  intro p e s m args below meth c ls hx hb hml hr hlk hnm hown hts ht hh hl
  have hl : lv_has ls 2 [(0, .ref xm), (1, .int x)] := hl
  have S : CallFix p m c cX6_dustIn 2 s args wsX6_dustIn RX6 := ⟨hx, hb, hml, hown, hts⟩
  have hin : ∀ w ∈ wsX60, w ∈ wsX6_dustIn := by decide +kernel
  have hz := hz.self
  refine lv_aload_n hx hb dX6_dustIn_0 rfl (lv_at hl 0 rfl) ?_
  refine lv_aload_n hx hb dX6_dustIn_1 rfl (lv_at hl 0 rfl) ?_
  refine r_get S hh hz hin 3 (by decide) rfl rfl (by decide +kernel) dX6_dustIn_2 ?_
  refine lv_iload_n hx hb dX6_dustIn_5 rfl (lv_at hl 1 rfl) ?_
  refine lv_aload_n hx hb dX6_dustIn_6 rfl (lv_at hl 0 rfl) ?_
  refine r_get S hh hz hin 16 (by decide) rfl rfl (by decide +kernel) dX6_dustIn_7 ?_
  refine k_callV0 (As := [.ref (b 3), .int x, .int (M 16 0)]) (c_told hz (k := 3) (x := x) (by decide) hy hn) S hh (cwV 3 hts gX6_dustIn_X6_told rfl rfl rfl (by decide +kernel) ⟨(Nat.le_of_ble_eq_true rfl), (Nat.le_of_ble_eq_true rfl)⟩) hz.1.1 hz.1.2 (q := (RX6, TX6, 22)) rfl rfl rfl hl.1 rfl (Nat.le_of_ble_eq_true rfl) dX6_dustIn_10 ⟨(Nat.le_of_ble_eq_true rfl), (Nat.le_of_ble_eq_true rfl)⟩ (fun v L1 f1 H locs hp hh => ?_)
  obtain ⟨rfl, hL1, hz1⟩ := hp
  subst hL1
  have hz := hz.trans hz1
  exact k_iret hx hb hr hlk hh dX6_dustIn_13 (Nat.le_of_ble_eq_true rfl) (Nat.le_of_ble_eq_true rfl) ⟨rfl, rfl, hz⟩

set_option maxRecDepth 100000 in
set_option maxHeartbeats 4000000 in
theorem c_gangOn {l : Launch} {κ : Kx} {xm : Nat} {b : Nat → Nat} {M : MS} {L : List Nat} {f0 f : Nat → va_E} (hz : ZR κ xm b M L f0 f) {x : Int32} {n : Nat} (hy : M 16 0 = nI n) (hn : n ≤ 6) : PM l κ yX6_gangOn wsX6_gangOn ({ frames := 2, cells := 0, slots := 0, locals := 44 } : Room) [.ref xm, .int x] L f (fun v L1 f1 => v = some (.int (if isF x (M 16 0) = 0 then 0 else M 6 (nT x))) ∧ L = L1 ∧ ZR κ xm b (toldF M x (M 16 0)) L f f1) noX 0 0 := by
  refine PM.mk (cc := cX6_gangOn) (maxL := 2) (ret := (some .int)) (by decide) rfl (Nat.le_of_ble_eq_true rfl) ?_
  intro p e s m args below meth c ls hx hb hml hr hlk hnm hown hts ht hh hl
  have hl : lv_has ls 2 [(0, .ref xm), (1, .int x)] := hl
  have S : CallFix p m c cX6_gangOn 2 s args wsX6_gangOn RX6 := ⟨hx, hb, hml, hown, hts⟩
  have hin : ∀ w ∈ wsX60, w ∈ wsX6_gangOn := by decide +kernel
  have hz := hz.self
  refine lv_aload_n hx hb dX6_gangOn_0 rfl (lv_at hl 0 rfl) ?_
  refine lv_aload_n hx hb dX6_gangOn_1 rfl (lv_at hl 0 rfl) ?_
  refine r_get S hh hz hin 6 (by decide) rfl rfl (by decide +kernel) dX6_gangOn_2 ?_
  refine lv_iload_n hx hb dX6_gangOn_5 rfl (lv_at hl 1 rfl) ?_
  refine lv_aload_n hx hb dX6_gangOn_6 rfl (lv_at hl 0 rfl) ?_
  refine r_get S hh hz hin 16 (by decide) rfl rfl (by decide +kernel) dX6_gangOn_7 ?_
  refine k_callV0 (As := [.ref (b 6), .int x, .int (M 16 0)]) (c_told hz (k := 6) (x := x) (by decide) hy hn) S hh (cwV 3 hts gX6_gangOn_X6_told rfl rfl rfl (by decide +kernel) ⟨(Nat.le_of_ble_eq_true rfl), (Nat.le_of_ble_eq_true rfl)⟩) hz.1.1 hz.1.2 (q := (RX6, TX6, 22)) rfl rfl rfl hl.1 rfl (Nat.le_of_ble_eq_true rfl) dX6_gangOn_10 ⟨(Nat.le_of_ble_eq_true rfl), (Nat.le_of_ble_eq_true rfl)⟩ (fun v L1 f1 H locs hp hh => ?_)
  obtain ⟨rfl, hL1, hz1⟩ := hp
  subst hL1
  have hz := hz.trans hz1
  exact k_iret hx hb hr hlk hh dX6_gangOn_13 (Nat.le_of_ble_eq_true rfl) (Nat.le_of_ble_eq_true rfl) ⟨rfl, rfl, hz⟩

set_option maxRecDepth 100000 in
set_option maxHeartbeats 4000000 in
theorem c_restOf {l : Launch} {κ : Kx} {xm : Nat} {b : Nat → Nat} {M : MS} {L : List Nat} {f0 f : Nat → va_E} (hz : ZR κ xm b M L f0 f) {x : Int32} {n : Nat} (hy : M 17 0 = nI n) (hn : n ≤ 6) : PM l κ yX6_restOf wsX6_restOf ({ frames := 2, cells := 0, slots := 0, locals := 44 } : Room) [.ref xm, .int x] L f (fun v L1 f1 => v = some (.int (if isF x (M 17 0) = 0 then 0 else M 11 (nT x))) ∧ L = L1 ∧ ZR κ xm b (toldF M x (M 17 0)) L f f1) noX 0 0 := by
  refine PM.mk (cc := cX6_restOf) (maxL := 2) (ret := (some .int)) (by decide) rfl (Nat.le_of_ble_eq_true rfl) ?_
  intro p e s m args below meth c ls hx hb hml hr hlk hnm hown hts ht hh hl
  have hl : lv_has ls 2 [(0, .ref xm), (1, .int x)] := hl
  have S : CallFix p m c cX6_restOf 2 s args wsX6_restOf RX6 := ⟨hx, hb, hml, hown, hts⟩
  have hin : ∀ w ∈ wsX60, w ∈ wsX6_restOf := by decide +kernel
  have hz := hz.self
  refine lv_aload_n hx hb dX6_restOf_0 rfl (lv_at hl 0 rfl) ?_
  refine lv_aload_n hx hb dX6_restOf_1 rfl (lv_at hl 0 rfl) ?_
  refine r_get S hh hz hin 11 (by decide) rfl rfl (by decide +kernel) dX6_restOf_2 ?_
  refine lv_iload_n hx hb dX6_restOf_5 rfl (lv_at hl 1 rfl) ?_
  refine lv_aload_n hx hb dX6_restOf_6 rfl (lv_at hl 0 rfl) ?_
  refine r_get S hh hz hin 17 (by decide) rfl rfl (by decide +kernel) dX6_restOf_7 ?_
  refine k_callV0 (As := [.ref (b 11), .int x, .int (M 17 0)]) (c_told hz (k := 11) (x := x) (by decide) hy hn) S hh (cwV 3 hts gX6_restOf_X6_told rfl rfl rfl (by decide +kernel) ⟨(Nat.le_of_ble_eq_true rfl), (Nat.le_of_ble_eq_true rfl)⟩) hz.1.1 hz.1.2 (q := (RX6, TX6, 22)) rfl rfl rfl hl.1 rfl (Nat.le_of_ble_eq_true rfl) dX6_restOf_10 ⟨(Nat.le_of_ble_eq_true rfl), (Nat.le_of_ble_eq_true rfl)⟩ (fun v L1 f1 H locs hp hh => ?_)
  obtain ⟨rfl, hL1, hz1⟩ := hp
  subst hL1
  have hz := hz.trans hz1
  exact k_iret hx hb hr hlk hh dX6_restOf_13 (Nat.le_of_ble_eq_true rfl) (Nat.le_of_ble_eq_true rfl) ⟨rfl, rfl, hz⟩

set_option maxRecDepth 100000 in
set_option maxHeartbeats 4000000 in
theorem c_fateOf {l : Launch} {κ : Kx} {xm : Nat} {b : Nat → Nat} {M : MS} {L : List Nat} {f0 f : Nat → va_E} (hz : ZR κ xm b M L f0 f) {x : Int32} {n : Nat} (hy : M 18 0 = nI n) (hn : n ≤ 600) : PM l κ yX6_fateOf wsX6_fateOf ({ frames := 2, cells := 0, slots := 0, locals := 44 } : Room) [.ref xm, .int x] L f (fun v L1 f1 => v = some (.int (if isF x (M 18 0) = 0 then 0 else M 14 (nT x))) ∧ L = L1 ∧ ZR κ xm b (toldF M x (M 18 0)) L f f1) noX 0 0 := by
  refine PM.mk (cc := cX6_fateOf) (maxL := 2) (ret := (some .int)) (by decide) rfl (Nat.le_of_ble_eq_true rfl) ?_
  intro p e s m args below meth c ls hx hb hml hr hlk hnm hown hts ht hh hl
  have hl : lv_has ls 2 [(0, .ref xm), (1, .int x)] := hl
  have S : CallFix p m c cX6_fateOf 2 s args wsX6_fateOf RX6 := ⟨hx, hb, hml, hown, hts⟩
  have hin : ∀ w ∈ wsX60, w ∈ wsX6_fateOf := by decide +kernel
  have hz := hz.self
  refine lv_aload_n hx hb dX6_fateOf_0 rfl (lv_at hl 0 rfl) ?_
  refine lv_aload_n hx hb dX6_fateOf_1 rfl (lv_at hl 0 rfl) ?_
  refine r_get S hh hz hin 14 (by decide) rfl rfl (by decide +kernel) dX6_fateOf_2 ?_
  refine lv_iload_n hx hb dX6_fateOf_5 rfl (lv_at hl 1 rfl) ?_
  refine lv_aload_n hx hb dX6_fateOf_6 rfl (lv_at hl 0 rfl) ?_
  refine r_get S hh hz hin 18 (by decide) rfl rfl (by decide +kernel) dX6_fateOf_7 ?_
  refine k_callV0 (As := [.ref (b 14), .int x, .int (M 18 0)]) (c_told hz (k := 14) (x := x) (by decide) hy hn) S hh (cwV 3 hts gX6_fateOf_X6_told rfl rfl rfl (by decide +kernel) ⟨(Nat.le_of_ble_eq_true rfl), (Nat.le_of_ble_eq_true rfl)⟩) hz.1.1 hz.1.2 (q := (RX6, TX6, 22)) rfl rfl rfl hl.1 rfl (Nat.le_of_ble_eq_true rfl) dX6_fateOf_10 ⟨(Nat.le_of_ble_eq_true rfl), (Nat.le_of_ble_eq_true rfl)⟩ (fun v L1 f1 H locs hp hh => ?_)
  obtain ⟨rfl, hL1, hz1⟩ := hp
  subst hL1
  have hz := hz.trans hz1
  exact k_iret hx hb hr hlk hh dX6_fateOf_13 (Nat.le_of_ble_eq_true rfl) (Nat.le_of_ble_eq_true rfl) ⟨rfl, rfl, hz⟩

set_option maxRecDepth 100000 in
set_option maxHeartbeats 4000000 in
theorem c_wantOf {l : Launch} {κ : Kx} {xm : Nat} {b : Nat → Nat} {M : MS} {L : List Nat} {f0 f : Nat → va_E} (hz : ZR κ xm b M L f0 f) {x : Int32} {n : Nat} (hy : M 18 0 = nI n) (hn : n ≤ 600) : PM l κ yX6_wantOf wsX6_wantOf ({ frames := 2, cells := 0, slots := 0, locals := 44 } : Room) [.ref xm, .int x] L f (fun v L1 f1 => v = some (.int (if isF x (M 18 0) = 0 then 0 else M 12 (nT x))) ∧ L = L1 ∧ ZR κ xm b (toldF M x (M 18 0)) L f f1) noX 0 0 := by
  refine PM.mk (cc := cX6_wantOf) (maxL := 2) (ret := (some .int)) (by decide) rfl (Nat.le_of_ble_eq_true rfl) ?_
  intro p e s m args below meth c ls hx hb hml hr hlk hnm hown hts ht hh hl
  have hl : lv_has ls 2 [(0, .ref xm), (1, .int x)] := hl
  have S : CallFix p m c cX6_wantOf 2 s args wsX6_wantOf RX6 := ⟨hx, hb, hml, hown, hts⟩
  have hin : ∀ w ∈ wsX60, w ∈ wsX6_wantOf := by decide +kernel
  have hz := hz.self
  refine lv_aload_n hx hb dX6_wantOf_0 rfl (lv_at hl 0 rfl) ?_
  refine lv_aload_n hx hb dX6_wantOf_1 rfl (lv_at hl 0 rfl) ?_
  refine r_get S hh hz hin 12 (by decide) rfl rfl (by decide +kernel) dX6_wantOf_2 ?_
  refine lv_iload_n hx hb dX6_wantOf_5 rfl (lv_at hl 1 rfl) ?_
  refine lv_aload_n hx hb dX6_wantOf_6 rfl (lv_at hl 0 rfl) ?_
  refine r_get S hh hz hin 18 (by decide) rfl rfl (by decide +kernel) dX6_wantOf_7 ?_
  refine k_callV0 (As := [.ref (b 12), .int x, .int (M 18 0)]) (c_told hz (k := 12) (x := x) (by decide) hy hn) S hh (cwV 3 hts gX6_wantOf_X6_told rfl rfl rfl (by decide +kernel) ⟨(Nat.le_of_ble_eq_true rfl), (Nat.le_of_ble_eq_true rfl)⟩) hz.1.1 hz.1.2 (q := (RX6, TX6, 22)) rfl rfl rfl hl.1 rfl (Nat.le_of_ble_eq_true rfl) dX6_wantOf_10 ⟨(Nat.le_of_ble_eq_true rfl), (Nat.le_of_ble_eq_true rfl)⟩ (fun v L1 f1 H locs hp hh => ?_)
  obtain ⟨rfl, hL1, hz1⟩ := hp
  subst hL1
  have hz := hz.trans hz1
  exact k_iret hx hb hr hlk hh dX6_wantOf_13 (Nat.le_of_ble_eq_true rfl) (Nat.le_of_ble_eq_true rfl) ⟨rfl, rfl, hz⟩

set_option maxRecDepth 100000 in
set_option maxHeartbeats 4000000 in
theorem c_outside {l : Launch} {κ : Kx} {xm : Nat} {b : Nat → Nat} {M : MS} {L : List Nat} {f0 f : Nat → va_E} (hz : ZR κ xm b M L f0 f) {x : Int32} {ns : Nat} (hn : M 18 0 = nI ns) (hns : ns ≤ 600) : PM l κ yX6_outside wsX6_outside ({ frames := 0, cells := 0, slots := 0, locals := 0 } : Room) [.ref xm, .int x] L f (fun v L1 f1 => v = some (.int (if outT x = 0 then outGo M ns 0 x else 0)) ∧ L = L1 ∧ ZR κ xm b (scM M 21 (outT x)) L f f1) noX 0 0 := by
  refine PM.mk (cc := cX6_outside) (maxL := 4) (ret := (some .int)) (by decide) rfl (Nat.le_of_ble_eq_true rfl) ?_
  intro p e s m args below meth c ls hx hb hml hr hlk hnm hown hts ht hh hl
  have hl : lv_has ls 4 [(0, .ref xm), (1, .int x)] := hl
  have S : CallFix p m c cX6_outside 4 s args wsX6_outside RX6 := ⟨hx, hb, hml, hown, hts⟩
  have hin : ∀ w ∈ wsX60, w ∈ wsX6_outside := by decide +kernel
  have hz := hz.self
  refine lv_aload_n hx hb dX6_outside_0 rfl (lv_at hl 0 rfl) ?_
  refine lv_iload_n hx hb dX6_outside_1 rfl (lv_at hl 1 rfl) ?_
  refine lv_if_ge (tgt := 9) hx hb dX6_outside_2 (by decide) (fun c2 => ?_) (fun c2 => ?_)
  · refine lv_iconst (v := 0) hx hb dX6_outside_9 (by decide) ?_
    refine r_put S hh hz hin 21 (by decide) rfl rfl rfl (by decide +kernel) dX6_outside_10 (fun f9 H locs hh hz => ?_)
    refine lv_iload_n hx hb dX6_outside_13 rfl (lv_at hl 1 rfl) ?_
    refine lv_istore_n (lv' := [(2, .int x), (0, .ref xm), (1, .int x)]) hx hb dX6_outside_14 rfl hl (by decide) rfl (fun ls hl => ?_)
    refine lv_iconst (v := 0) hx hb dX6_outside_15 (by decide) ?_
    refine lv_istore_n (lv' := [(3, .int 0), (2, .int x), (0, .ref xm), (1, .int x)]) hx hb dX6_outside_16 rfl hl (by decide) rfl (fun ls hl => ?_)
    have loop : ∀ (n i : Nat) (x2 x3 : Int32), i ≤ ns → ns + 1 ≤ i + n → x3 = nI i → outGo M (ns - i) i x2 = outGo M ns 0 x → ∀ ls : Array Slot, lv_has ls 4 [(0, .ref xm), (1, .int x), (2, .int x2), (3, .int x3)] → W p l e ({ frames := 0, cells := 0, slots := 0, locals := 0 } : Room) s m args below meth c H locs 0 0 (vx_MQ below (PQ κ (fun v L1 f1 => v = some (.int (if outT x = 0 then outGo M ns 0 x else 0)) ∧ L = L1 ∧ ZR κ xm b (scM M 21 (outT x)) L f f1)) (PX κ L f noX) args s 0 0 (kA κ)) (F0 m 17 ls []) := by
      intro n
      induction n with
      | zero =>
        intro i x2 x3 h1 h2
        exact absurd h2 (by omega)
      | succ n ih =>
        intro i x2 x3 hi hin3 ex3 ego ls hl
        refine lv_iload_n hx hb dX6_outside_17 rfl (lv_at hl 3 rfl) ?_
        refine lv_aload_n hx hb dX6_outside_18 rfl (lv_at hl 0 rfl) ?_
        refine r_get S hh hz hin 18 (by decide) rfl rfl (by decide +kernel) dX6_outside_19 ?_
        refine lv_icmp_ge (tgt := 70) hx hb dX6_outside_22 (by decide) (fun c22 => ?_) (fun c22 => ?_)
        · have d22 : (M 18 0) ≤ x3 := c22
          have hie : i = ns := by
            rcases Nat.lt_or_ge i ns with q | q
            · exact absurd c22 (by rw [(show scM M 21 0 18 0 = nI ns from hn), ex3]; exact nI_ge q (by omega))
            · omega
          refine lv_aload_n hx hb dX6_outside_70 rfl (lv_at hl 0 rfl) ?_
          refine r_get S hh hz hin 21 (by decide) rfl rfl (by decide +kernel) dX6_outside_71 ?_
          refine lv_if_ne (tgt := 81) hx hb dX6_outside_74 (by decide) (fun c => absurd (show ¬ (0 : Int32) = (0 : Int32) from c) (by decide)) (fun _ => ?_)
          refine lv_iconst (v := (-1)) hx hb dX6_outside_77 (by decide) ?_
          refine lv_goto (tgt := 82) hx hb dX6_outside_78 (by decide) ?_
          exact k_iret hx hb hr hlk hh dX6_outside_82 (Nat.le_of_ble_eq_true rfl) (Nat.le_of_ble_eq_true rfl) (by
  have hT : outT x = 0 := if_pos (by assumption)
  exact ⟨congrArg (fun r => some (Value.int r)) (by rw [if_pos hT]; rw [← ego, hie, Nat.sub_self]; rfl), rfl, hz.cast (by rw [hT])⟩)
        · have d22 : ¬ (M 18 0) ≤ x3 := c22
          have hlt : i < ns := by
            rcases Nat.lt_or_ge i ns with q | q
            · exact q
            · exact absurd (by rw [(show scM M 21 0 18 0 = nI ns from hn), ex3]; exact nI_le q (by omega)) c22
          have hsub : ns - i = (ns - (i + 1)) + 1 := by omega
          rw [hsub, outGo] at ego
          refine lv_aload_n hx hb dX6_outside_25 rfl (lv_at hl 0 rfl) ?_
          refine r_get S hh hz hin 21 (by decide) rfl rfl (by decide +kernel) dX6_outside_26 ?_
          refine lv_if_ne (tgt := 70) hx hb dX6_outside_29 (by decide) (fun c => absurd (show ¬ (0 : Int32) = (0 : Int32) from c) (by decide)) (fun _ => ?_)
          refine lv_aload_n hx hb dX6_outside_32 rfl (lv_at hl 0 rfl) ?_
          refine r_get S hh hz hin 14 (by decide) rfl rfl (by decide +kernel) dX6_outside_33 ?_
          refine lv_iload_n hx hb dX6_outside_36 rfl (lv_at hl 3 rfl) ?_
          refine r_ald (k := 14) (i := i) S hh hz (by decide) ex3 (show i < 600 by omega) dX6_outside_37 ?_
          refine lv_if_ne (tgt := 47) hx hb dX6_outside_38 (by decide) (fun c38 => ?_) (fun c38 => ?_)
          · have d38 : ¬ (M 14 i) = 0 := c38
            refine lv_iload_n hx hb dX6_outside_47 rfl (lv_at hl 2 rfl) ?_
            refine lv_aload_n hx hb dX6_outside_48 rfl (lv_at hl 0 rfl) ?_
            refine r_get S hh hz hin 14 (by decide) rfl rfl (by decide +kernel) dX6_outside_49 ?_
            refine lv_iload_n hx hb dX6_outside_52 rfl (lv_at hl 3 rfl) ?_
            refine r_ald (k := 14) (i := i) S hh hz (by decide) ex3 (show i < 600 by omega) dX6_outside_53 ?_
            refine lv_if_ne (tgt := 61) hx hb dX6_outside_54 (by decide) (fun c54 => ?_) (fun c54 => ?_)
            · have d54 : ¬ (M 14 i) = 0 := c54
              refine lv_iconst (v := 0) hx hb dX6_outside_61 (by decide) ?_
              refine lv_isub hx hb dX6_outside_62 ?_
              refine lv_topi (fun x63 e63 => ?_)
              refine lv_istore_n (lv' := [(2, .int x63), (0, .ref xm), (1, .int x), (3, .int x3)]) hx hb dX6_outside_63 rfl hl (by decide) rfl (fun ls hl => ?_)
              obtain ⟨x64, e64⟩ : ∃ y : Int32, y = x3 + 1 := ⟨_, rfl⟩
              refine lv_iinc (v := x64) (lv' := [(3, .int x64), (2, .int x63), (0, .ref xm), (1, .int x)]) hx hb dX6_outside_64 hl (k := 3) rfl (by rw [e64]; rfl) (by decide) rfl (fun ls hl => ?_)
              refine lv_goto (tgt := 17) hx hb dX6_outside_67 (by decide) ?_
              exact ih (i + 1) x63 x64 (by omega) (by omega) (by rw [e64, ex3]; exact nI_1 i) (by first | contradiction | (rw [← ego, e63, if_pos d38, if_neg d42]; done) | (rw [← ego, e63, if_neg d38]; done)) ls (lv_sub hl [2, 3, 1, 0] rfl)
            · have d54 : (M 14 i) = 0 := c54
              refine lv_iconst (v := 1) hx hb dX6_outside_57 (by decide) ?_
              refine lv_goto (tgt := 62) hx hb dX6_outside_58 (by decide) ?_
              refine lv_isub hx hb dX6_outside_62 ?_
              refine lv_topi (fun x63 e63 => ?_)
              refine lv_istore_n (lv' := [(2, .int x63), (0, .ref xm), (1, .int x), (3, .int x3)]) hx hb dX6_outside_63 rfl hl (by decide) rfl (fun ls hl => ?_)
              obtain ⟨x64, e64⟩ : ∃ y : Int32, y = x3 + 1 := ⟨_, rfl⟩
              refine lv_iinc (v := x64) (lv' := [(3, .int x64), (2, .int x63), (0, .ref xm), (1, .int x)]) hx hb dX6_outside_64 hl (k := 3) rfl (by rw [e64]; rfl) (by decide) rfl (fun ls hl => ?_)
              refine lv_goto (tgt := 17) hx hb dX6_outside_67 (by decide) ?_
              exact ih (i + 1) x63 x64 (by omega) (by omega) (by rw [e64, ex3]; exact nI_1 i) (by first | contradiction | (rw [← ego, e63, if_pos d38, if_neg d42]; done) | (rw [← ego, e63, if_neg d38]; done)) ls (lv_sub hl [2, 3, 1, 0] rfl)
          · have d38 : (M 14 i) = 0 := c38
            refine lv_iload_n hx hb dX6_outside_41 rfl (lv_at hl 2 rfl) ?_
            refine lv_if_ne (tgt := 47) hx hb dX6_outside_42 (by decide) (fun c42 => ?_) (fun c42 => ?_)
            · have d42 : ¬ x2 = 0 := c42
              refine lv_iload_n hx hb dX6_outside_47 rfl (lv_at hl 2 rfl) ?_
              refine lv_aload_n hx hb dX6_outside_48 rfl (lv_at hl 0 rfl) ?_
              refine r_get S hh hz hin 14 (by decide) rfl rfl (by decide +kernel) dX6_outside_49 ?_
              refine lv_iload_n hx hb dX6_outside_52 rfl (lv_at hl 3 rfl) ?_
              refine r_ald (k := 14) (i := i) S hh hz (by decide) ex3 (show i < 600 by omega) dX6_outside_53 ?_
              refine lv_if_ne (tgt := 61) hx hb dX6_outside_54 (by decide) (fun c54 => ?_) (fun c54 => ?_)
              · have d54 : ¬ (M 14 i) = 0 := c54
                refine lv_iconst (v := 0) hx hb dX6_outside_61 (by decide) ?_
                refine lv_isub hx hb dX6_outside_62 ?_
                refine lv_topi (fun x63 e63 => ?_)
                refine lv_istore_n (lv' := [(2, .int x63), (0, .ref xm), (1, .int x), (3, .int x3)]) hx hb dX6_outside_63 rfl hl (by decide) rfl (fun ls hl => ?_)
                obtain ⟨x64, e64⟩ : ∃ y : Int32, y = x3 + 1 := ⟨_, rfl⟩
                refine lv_iinc (v := x64) (lv' := [(3, .int x64), (2, .int x63), (0, .ref xm), (1, .int x)]) hx hb dX6_outside_64 hl (k := 3) rfl (by rw [e64]; rfl) (by decide) rfl (fun ls hl => ?_)
                refine lv_goto (tgt := 17) hx hb dX6_outside_67 (by decide) ?_
                exact ih (i + 1) x63 x64 (by omega) (by omega) (by rw [e64, ex3]; exact nI_1 i) (by first | contradiction | (rw [← ego, e63, if_pos d38, if_neg d42]; done) | (rw [← ego, e63, if_neg d38]; done)) ls (lv_sub hl [2, 3, 1, 0] rfl)
              · have d54 : (M 14 i) = 0 := c54
                refine lv_iconst (v := 1) hx hb dX6_outside_57 (by decide) ?_
                refine lv_goto (tgt := 62) hx hb dX6_outside_58 (by decide) ?_
                refine lv_isub hx hb dX6_outside_62 ?_
                refine lv_topi (fun x63 e63 => ?_)
                refine lv_istore_n (lv' := [(2, .int x63), (0, .ref xm), (1, .int x), (3, .int x3)]) hx hb dX6_outside_63 rfl hl (by decide) rfl (fun ls hl => ?_)
                obtain ⟨x64, e64⟩ : ∃ y : Int32, y = x3 + 1 := ⟨_, rfl⟩
                refine lv_iinc (v := x64) (lv' := [(3, .int x64), (2, .int x63), (0, .ref xm), (1, .int x)]) hx hb dX6_outside_64 hl (k := 3) rfl (by rw [e64]; rfl) (by decide) rfl (fun ls hl => ?_)
                refine lv_goto (tgt := 17) hx hb dX6_outside_67 (by decide) ?_
                exact ih (i + 1) x63 x64 (by omega) (by omega) (by rw [e64, ex3]; exact nI_1 i) (by first | contradiction | (rw [← ego, e63, if_pos d38, if_neg d42]; done) | (rw [← ego, e63, if_neg d38]; done)) ls (lv_sub hl [2, 3, 1, 0] rfl)
            · have d42 : x2 = 0 := c42
              refine lv_iload_n hx hb dX6_outside_45 rfl (lv_at hl 3 rfl) ?_
              exact k_iret hx hb hr hlk hh dX6_outside_46 (Nat.le_of_ble_eq_true rfl) (Nat.le_of_ble_eq_true rfl) (by
  have hT : outT x = 0 := if_pos (by assumption)
  exact ⟨congrArg (fun r => some (Value.int r)) (by rw [if_pos hT]; rw [← ego, if_pos d38, if_pos d42, ex3]), rfl, hz.cast (by rw [hT])⟩)
    exact loop (ns + 1) 0 x 0 (Nat.zero_le _) (by omega) rfl rfl ls (lv_sub hl [2, 3, 1, 0] rfl)
  · refine lv_iconst (v := 1) hx hb dX6_outside_5 (by decide) ?_
    refine lv_goto (tgt := 10) hx hb dX6_outside_6 (by decide) ?_
    refine r_put S hh hz hin 21 (by decide) rfl rfl rfl (by decide +kernel) dX6_outside_10 (fun f9 H locs hh hz => ?_)
    refine lv_iload_n hx hb dX6_outside_13 rfl (lv_at hl 1 rfl) ?_
    refine lv_istore_n (lv' := [(2, .int x), (0, .ref xm), (1, .int x)]) hx hb dX6_outside_14 rfl hl (by decide) rfl (fun ls hl => ?_)
    refine lv_iconst (v := 0) hx hb dX6_outside_15 (by decide) ?_
    refine lv_istore_n (lv' := [(3, .int 0), (2, .int x), (0, .ref xm), (1, .int x)]) hx hb dX6_outside_16 rfl hl (by decide) rfl (fun ls hl => ?_)
    refine lv_iload_n hx hb dX6_outside_17 rfl (lv_at hl 0 rfl) ?_
    refine lv_aload_n hx hb dX6_outside_18 rfl (lv_at hl 2 rfl) ?_
    refine r_get S hh hz hin 18 (by decide) rfl rfl (by decide +kernel) dX6_outside_19 ?_
    refine lv_icmp_ge (tgt := 70) hx hb dX6_outside_22 (by decide) (fun c22 => ?_) (fun c22 => ?_)
    · have d22 : (M 18 0) ≤ 0 := c22
      refine lv_aload_n hx hb dX6_outside_70 rfl (lv_at hl 2 rfl) ?_
      refine r_get S hh hz hin 21 (by decide) rfl rfl (by decide +kernel) dX6_outside_71 ?_
      refine lv_if_ne (tgt := 81) hx hb dX6_outside_74 (by decide) (fun _ => ?_) (fun c => absurd (show (1 : Int32) = (0 : Int32) from c) (by decide))
      refine lv_iconst (v := 0) hx hb dX6_outside_81 (by decide) ?_
      exact k_iret hx hb hr hlk hh dX6_outside_82 (Nat.le_of_ble_eq_true rfl) (Nat.le_of_ble_eq_true rfl) (by
  have hT : outT x = 1 := if_neg (by assumption)
  exact ⟨congrArg (fun r => some (Value.int r)) (by rw [if_neg (by rw [hT]; decide)]), rfl, hz.cast (by rw [hT])⟩)
    · have d22 : ¬ (M 18 0) ≤ 0 := c22
      refine lv_aload_n hx hb dX6_outside_25 rfl (lv_at hl 2 rfl) ?_
      refine r_get S hh hz hin 21 (by decide) rfl rfl (by decide +kernel) dX6_outside_26 ?_
      refine lv_if_ne (tgt := 70) hx hb dX6_outside_29 (by decide) (fun _ => ?_) (fun c => absurd (show (1 : Int32) = (0 : Int32) from c) (by decide))
      refine lv_aload_n hx hb dX6_outside_70 rfl (lv_at hl 2 rfl) ?_
      refine r_get S hh hz hin 21 (by decide) rfl rfl (by decide +kernel) dX6_outside_71 ?_
      refine lv_if_ne (tgt := 81) hx hb dX6_outside_74 (by decide) (fun _ => ?_) (fun c => absurd (show (1 : Int32) = (0 : Int32) from c) (by decide))
      refine lv_iconst (v := 0) hx hb dX6_outside_81 (by decide) ?_
      exact k_iret hx hb hr hlk hh dX6_outside_82 (Nat.le_of_ble_eq_true rfl) (Nat.le_of_ble_eq_true rfl) (by
  have hT : outT x = 1 := if_neg (by assumption)
  exact ⟨congrArg (fun r => some (Value.int r)) (by rw [if_neg (by rw [hT]; decide)]), rfl, hz.cast (by rw [hT])⟩)
