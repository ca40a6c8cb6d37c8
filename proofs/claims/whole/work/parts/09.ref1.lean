set_option maxRecDepth 100000 in
set_option maxHeartbeats 4000000 in
theorem c_is {l : Launch} {κ : Kx} {L : List Nat} {f : Nat → va_E} {x y : Int32} : PM l κ yX6_is wsX6_is ({ frames := 0, cells := 0, slots := 0, locals := 0 } : Room) [.int x, .int y] L f (fun v L1 f1 => v = some (.int (isF x y)) ∧ L = L1 ∧ f = f1) noX 0 0 := by
  refine PM.mk (cc := cX6_is) (maxL := 2) (ret := (some .boolean)) (by decide) rfl (Nat.le_of_ble_eq_true rfl) ?_
  intro p e s m args below meth c ls hx hb hml hr hlk hnm hown hts ht hh hl
  have hl : lv_has ls 2 [(0, .int x), (1, .int y)] := hl
  have S : CallFix p m c cX6_is 2 s args wsX6_is RX6 := ⟨hx, hb, hml, hown, hts⟩
  refine lv_iload_n hx hb dX6_is_0 rfl (lv_at hl 0 rfl) ?_
  refine lv_if_lt (tgt := 13) hx hb dX6_is_1 (by decide) (fun c1 => ?_) (fun c1 => ?_)
  · refine lv_iconst (v := 0) hx hb dX6_is_13 (by decide) ?_
    exact k_zret hx hb hr hlk (rfl) hh dX6_is_14 (Nat.le_of_ble_eq_true rfl) (Nat.le_of_ble_eq_true rfl) ⟨congrArg (fun r => some (Value.int r)) (by unfold isF; (repeat' split); all_goals first | rfl | contradiction), rfl, rfl⟩
  · refine lv_iload_n hx hb dX6_is_4 rfl (lv_at hl 0 rfl) ?_
    refine lv_iload_n hx hb dX6_is_5 rfl (lv_at hl 1 rfl) ?_
    refine lv_icmp_ge (tgt := 13) hx hb dX6_is_6 (by decide) (fun c6 => ?_) (fun c6 => ?_)
    · refine lv_iconst (v := 0) hx hb dX6_is_13 (by decide) ?_
      exact k_zret hx hb hr hlk (rfl) hh dX6_is_14 (Nat.le_of_ble_eq_true rfl) (Nat.le_of_ble_eq_true rfl) ⟨congrArg (fun r => some (Value.int r)) (by unfold isF; (repeat' split); all_goals first | rfl | contradiction), rfl, rfl⟩
    · refine lv_iconst (v := 1) hx hb dX6_is_9 (by decide) ?_
      refine lv_goto (tgt := 14) hx hb dX6_is_10 (by decide) ?_
      exact k_zret hx hb hr hlk (rfl) hh dX6_is_14 (Nat.le_of_ble_eq_true rfl) (Nat.le_of_ble_eq_true rfl) ⟨congrArg (fun r => some (Value.int r)) (by unfold isF; (repeat' split); all_goals first | rfl | contradiction), rfl, rfl⟩

set_option maxRecDepth 100000 in
set_option maxHeartbeats 4000000 in
theorem c_least {l : Launch} {κ : Kx} {L : List Nat} {f : Nat → va_E} {x y : Int32} : PM l κ yX6_least wsX6_least ({ frames := 0, cells := 0, slots := 0, locals := 0 } : Room) [.int x, .int y] L f (fun v L1 f1 => v = some (.int (leastF x y)) ∧ L = L1 ∧ f = f1) noX 0 0 := by
  refine PM.mk (cc := cX6_least) (maxL := 2) (ret := (some .int)) (by decide) rfl (Nat.le_of_ble_eq_true rfl) ?_
  intro p e s m args below meth c ls hx hb hml hr hlk hnm hown hts ht hh hl
  have hl : lv_has ls 2 [(0, .int x), (1, .int y)] := hl
  have S : CallFix p m c cX6_least 2 s args wsX6_least RX6 := ⟨hx, hb, hml, hown, hts⟩
  refine lv_iload_n hx hb dX6_least_0 rfl (lv_at hl 0 rfl) ?_
  refine lv_iload_n hx hb dX6_least_1 rfl (lv_at hl 1 rfl) ?_
  refine lv_icmp_ge (tgt := 9) hx hb dX6_least_2 (by decide) (fun c2 => ?_) (fun c2 => ?_)
  · refine lv_iload_n hx hb dX6_least_9 rfl (lv_at hl 1 rfl) ?_
    exact k_iret hx hb hr hlk hh dX6_least_10 (Nat.le_of_ble_eq_true rfl) (Nat.le_of_ble_eq_true rfl) ⟨congrArg (fun r => some (Value.int r)) (by unfold leastF; (repeat' split); all_goals first | rfl | contradiction), rfl, rfl⟩
  · refine lv_iload_n hx hb dX6_least_5 rfl (lv_at hl 0 rfl) ?_
    refine lv_goto (tgt := 10) hx hb dX6_least_6 (by decide) ?_
    exact k_iret hx hb hr hlk hh dX6_least_10 (Nat.le_of_ble_eq_true rfl) (Nat.le_of_ble_eq_true rfl) ⟨congrArg (fun r => some (Value.int r)) (by unfold leastF; (repeat' split); all_goals first | rfl | contradiction), rfl, rfl⟩

set_option maxRecDepth 100000 in
set_option maxHeartbeats 4000000 in
theorem c_thrown {l : Launch} {κ : Kx} {xm : Nat} {b : Nat → Nat} {M : MS} {L : List Nat} {f0 f : Nat → va_E} (hz : ZR κ xm b M L f0 f) : PM l κ yX6_thrown wsX6_thrown ({ frames := 0, cells := 0, slots := 0, locals := 0 } : Room) [.ref xm] L f (fun v L1 f1 => v = some (.int (M 21 0)) ∧ L = L1 ∧ f = f1) noX 0 0 := by
  refine PM.mk (cc := cX6_thrown) (maxL := 1) (ret := (some .int)) (by decide) rfl (Nat.le_of_ble_eq_true rfl) ?_
  intro p e s m args below meth c ls hx hb hml hr hlk hnm hown hts ht hh hl
  have hl : lv_has ls 1 [(0, .ref xm)] := hl
  have S : CallFix p m c cX6_thrown 1 s args wsX6_thrown RX6 := ⟨hx, hb, hml, hown, hts⟩
  have hin : ∀ w ∈ wsX60, w ∈ wsX6_thrown := by decide +kernel
  refine lv_aload_n hx hb dX6_thrown_0 rfl (lv_at hl 0 rfl) ?_
  refine r_get S hh hz hin 21 (by decide) rfl rfl (by decide +kernel) dX6_thrown_1 ?_
  exact k_iret hx hb hr hlk hh dX6_thrown_4 (Nat.le_of_ble_eq_true rfl) (Nat.le_of_ble_eq_true rfl) ⟨rfl, rfl, rfl⟩

set_option maxRecDepth 100000 in
set_option maxHeartbeats 4000000 in
theorem c_clock {l : Launch} {κ : Kx} {xm : Nat} {b : Nat → Nat} {M : MS} {L : List Nat} {f0 f : Nat → va_E} (hz : ZR κ xm b M L f0 f) : PM l κ yX6_clock wsX6_clock ({ frames := 0, cells := 0, slots := 0, locals := 0 } : Room) [.ref xm] L f (fun v L1 f1 => v = some (.int (M 19 0)) ∧ L = L1 ∧ ZR κ xm b (scM M 21 0) L f f1) noX 0 0 := by
  refine PM.mk (cc := cX6_clock) (maxL := 1) (ret := (some .int)) (by decide) rfl (Nat.le_of_ble_eq_true rfl) ?_
  intro p e s m args below meth c ls hx hb hml hr hlk hnm hown hts ht hh hl
  have hl : lv_has ls 1 [(0, .ref xm)] := hl
  have S : CallFix p m c cX6_clock 1 s args wsX6_clock RX6 := ⟨hx, hb, hml, hown, hts⟩
  have hin : ∀ w ∈ wsX60, w ∈ wsX6_clock := by decide +kernel
  have hz := hz.self
  refine lv_aload_n hx hb dX6_clock_0 rfl (lv_at hl 0 rfl) ?_
  refine lv_iconst (v := 0) hx hb dX6_clock_1 (by decide) ?_
  refine r_put S hh hz hin 21 (by decide) rfl rfl rfl (by decide +kernel) dX6_clock_2 (fun f9 H locs hh hz => ?_)
  refine lv_aload_n hx hb dX6_clock_5 rfl (lv_at hl 0 rfl) ?_
  refine r_get S hh hz hin 19 (by decide) rfl rfl (by decide +kernel) dX6_clock_6 ?_
  exact k_iret hx hb hr hlk hh dX6_clock_9 (Nat.le_of_ble_eq_true rfl) (Nat.le_of_ble_eq_true rfl) ⟨rfl, rfl, hz⟩

set_option maxRecDepth 100000 in
set_option maxHeartbeats 4000000 in
theorem c_delivered {l : Launch} {κ : Kx} {xm : Nat} {b : Nat → Nat} {M : MS} {L : List Nat} {f0 f : Nat → va_E} (hz : ZR κ xm b M L f0 f) : PM l κ yX6_delivered wsX6_delivered ({ frames := 0, cells := 0, slots := 0, locals := 0 } : Room) [.ref xm] L f (fun v L1 f1 => v = some (.int (M 20 0)) ∧ L = L1 ∧ ZR κ xm b (scM M 21 0) L f f1) noX 0 0 := by
  refine PM.mk (cc := cX6_delivered) (maxL := 1) (ret := (some .int)) (by decide) rfl (Nat.le_of_ble_eq_true rfl) ?_
  intro p e s m args below meth c ls hx hb hml hr hlk hnm hown hts ht hh hl
  have hl : lv_has ls 1 [(0, .ref xm)] := hl
  have S : CallFix p m c cX6_delivered 1 s args wsX6_delivered RX6 := ⟨hx, hb, hml, hown, hts⟩
  have hin : ∀ w ∈ wsX60, w ∈ wsX6_delivered := by decide +kernel
  have hz := hz.self
  refine lv_aload_n hx hb dX6_delivered_0 rfl (lv_at hl 0 rfl) ?_
  refine lv_iconst (v := 0) hx hb dX6_delivered_1 (by decide) ?_
  refine r_put S hh hz hin 21 (by decide) rfl rfl rfl (by decide +kernel) dX6_delivered_2 (fun f9 H locs hh hz => ?_)
  refine lv_aload_n hx hb dX6_delivered_5 rfl (lv_at hl 0 rfl) ?_
  refine r_get S hh hz hin 20 (by decide) rfl rfl (by decide +kernel) dX6_delivered_6 ?_
  exact k_iret hx hb hr hlk hh dX6_delivered_9 (Nat.le_of_ble_eq_true rfl) (Nat.le_of_ble_eq_true rfl) ⟨rfl, rfl, hz⟩

set_option maxRecDepth 100000 in
set_option maxHeartbeats 4000000 in
theorem c_many {l : Launch} {κ : Kx} {xm : Nat} {b : Nat → Nat} {M : MS} {L : List Nat} {f0 f : Nat → va_E} (hz : ZR κ xm b M L f0 f) {how : Int32} {ns : Nat} (hn : M 18 0 = nI ns) (hns : ns ≤ 600) : PM l κ yX6_many wsX6_many ({ frames := 0, cells := 0, slots := 0, locals := 0 } : Room) [.ref xm, .int how] L f (fun v L1 f1 => v = some (.int (manyF M how ns)) ∧ L = L1 ∧ f = f1) noX 0 0 := by
  refine PM.mk (cc := cX6_many) (maxL := 4) (ret := (some .int)) (by decide) rfl (Nat.le_of_ble_eq_true rfl) ?_
  intro p e s m args below meth c ls hx hb hml hr hlk hnm hown hts ht hh hl
  have hl : lv_has ls 4 [(0, .ref xm), (1, .int how)] := hl
  have S : CallFix p m c cX6_many 4 s args wsX6_many RX6 := ⟨hx, hb, hml, hown, hts⟩
  have hin : ∀ w ∈ wsX60, w ∈ wsX6_many := by decide +kernel
  refine lv_iconst (v := 0) hx hb dX6_many_0 (by decide) ?_
  refine lv_istore_n (lv' := [(2, .int 0), (0, .ref xm), (1, .int how)]) hx hb dX6_many_1 rfl hl (by decide) rfl (fun ls hl => ?_)
  refine lv_iconst (v := 0) hx hb dX6_many_2 (by decide) ?_
  refine lv_istore_n (lv' := [(3, .int 0), (2, .int 0), (0, .ref xm), (1, .int how)]) hx hb dX6_many_3 rfl hl (by decide) rfl (fun ls hl => ?_)
  have loop : ∀ (n i : Nat) (x2 x3 : Int32), i ≤ ns → ns + 1 ≤ i + n → x3 = nI i → x2 = manyF M how i → ∀ ls : Array Slot, lv_has ls 4 [(0, .ref xm), (1, .int how), (2, .int x2), (3, .int x3)] → W p l e ({ frames := 0, cells := 0, slots := 0, locals := 0 } : Room) s m args below meth c s.heap [] 0 0 (vx_MQ below (PQ κ (fun v L1 f1 => v = some (.int (manyF M how ns)) ∧ L = L1 ∧ f = f1)) (PX κ L f noX) args s 0 0 (kA κ)) (F0 m 4 ls []) := by
    intro n
    induction n with
    | zero =>
      intro i x2 x3 h1 h2
      exact absurd h2 (by omega)
    | succ n ih =>
      intro i x2 x3 hi hin3 ex3 ex2 ls hl
      refine lv_iload_n hx hb dX6_many_4 rfl (lv_at hl 3 rfl) ?_
      refine lv_aload_n hx hb dX6_many_5 rfl (lv_at hl 0 rfl) ?_
      refine r_get S hh hz hin 18 (by decide) rfl rfl (by decide +kernel) dX6_many_6 ?_
      refine lv_icmp_ge (tgt := 36) hx hb dX6_many_9 (by decide) (fun c9 => ?_) (fun c9 => ?_)
      · have hie : i = ns := by
          rcases Nat.lt_or_ge i ns with q | q
          · exact absurd c9 (by rw [hn, ex3]; exact nI_ge q (by omega))
          · omega
        refine lv_iload_n hx hb dX6_many_36 rfl (lv_at hl 2 rfl) ?_
        exact k_iret hx hb hr hlk hh dX6_many_37 (Nat.le_of_ble_eq_true rfl) (Nat.le_of_ble_eq_true rfl) ⟨congrArg (fun r => some (Value.int r)) (by rw [ex2, hie]), rfl, rfl⟩
      · have hlt : i < ns := by
          rcases Nat.lt_or_ge i ns with q | q
          · exact q
          · exact absurd (by rw [hn, ex3]; exact nI_le q (by omega)) c9
        refine lv_iload_n hx hb dX6_many_12 rfl (lv_at hl 2 rfl) ?_
        refine lv_aload_n hx hb dX6_many_13 rfl (lv_at hl 0 rfl) ?_
        refine r_get S hh hz hin 14 (by decide) rfl rfl (by decide +kernel) dX6_many_14 ?_
        refine lv_iload_n hx hb dX6_many_17 rfl (lv_at hl 3 rfl) ?_
        refine r_ald (k := 14) (i := i) S hh hz (by decide) ex3 (show i < 600 by omega) dX6_many_18 ?_
        refine lv_iload_n hx hb dX6_many_19 rfl (lv_at hl 1 rfl) ?_
        refine lv_icmp_ne (tgt := 27) hx hb dX6_many_20 (by decide) (fun c20 => ?_) (fun c20 => ?_)
        · refine lv_iconst (v := 0) hx hb dX6_many_27 (by decide) ?_
          refine lv_iadd hx hb dX6_many_28 ?_
          refine lv_topi (fun x29 e29 => ?_)
          refine lv_istore_n (lv' := [(2, .int x29), (0, .ref xm), (1, .int how), (3, .int x3)]) hx hb dX6_many_29 rfl hl (by decide) rfl (fun ls hl => ?_)
          obtain ⟨x30, e30⟩ : ∃ y : Int32, y = x3 + 1 := ⟨_, rfl⟩
          refine lv_iinc (v := x30) (lv' := [(3, .int x30), (2, .int x29), (0, .ref xm), (1, .int how)]) hx hb dX6_many_30 hl (k := 3) rfl (by rw [e30]; rfl) (by decide) rfl (fun ls hl => ?_)
          refine lv_goto (tgt := 4) hx hb dX6_many_33 (by decide) ?_
          exact ih (i + 1) x29 x30 (by omega) (by omega) (by rw [e30, ex3]; exact nI_1 i) (by rw [e29, ex2]; simp only [manyF]; first | rw [if_pos (by assumption)] | rw [if_neg (by assumption)]) ls (lv_sub hl [2, 3, 1, 0] rfl)
        · refine lv_iconst (v := 1) hx hb dX6_many_23 (by decide) ?_
          refine lv_goto (tgt := 28) hx hb dX6_many_24 (by decide) ?_
          refine lv_iadd hx hb dX6_many_28 ?_
          refine lv_topi (fun x29 e29 => ?_)
          refine lv_istore_n (lv' := [(2, .int x29), (0, .ref xm), (1, .int how), (3, .int x3)]) hx hb dX6_many_29 rfl hl (by decide) rfl (fun ls hl => ?_)
          obtain ⟨x30, e30⟩ : ∃ y : Int32, y = x3 + 1 := ⟨_, rfl⟩
          refine lv_iinc (v := x30) (lv' := [(3, .int x30), (2, .int x29), (0, .ref xm), (1, .int how)]) hx hb dX6_many_30 hl (k := 3) rfl (by rw [e30]; rfl) (by decide) rfl (fun ls hl => ?_)
          refine lv_goto (tgt := 4) hx hb dX6_many_33 (by decide) ?_
          exact ih (i + 1) x29 x30 (by omega) (by omega) (by rw [e30, ex3]; exact nI_1 i) (by rw [e29, ex2]; simp only [manyF]; first | rw [if_pos (by assumption)] | rw [if_neg (by assumption)]) ls (lv_sub hl [2, 3, 1, 0] rfl)
  exact loop (ns + 1) 0 0 0 (Nat.zero_le _) (by omega) rfl rfl ls (lv_sub hl [2, 3, 1, 0] rfl)
