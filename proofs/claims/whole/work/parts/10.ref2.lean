theorem ix_of {x : Int32} {n : Nat} (h : x = nI n) (hn : n < 2 ^ 31) : x = nI (nT x) ∧ nT x = n := by
  have e : nT (nI n) = n := nI_clamp hn
  rw [h]
  exact ⟨by rw [e], e⟩

set_option maxRecDepth 100000 in
set_option maxHeartbeats 4000000 in
theorem c_hulk {l : Launch} {κ : Kx} {xm : Nat} {b : Nat → Nat} {M : MS} {L : List Nat} {f0 f : Nat → va_E} (hz : ZR κ xm b M L f0 f) {x : Int32} {nh : Nat} (hn : M 15 0 = nI nh) (hnh : nh ≤ 3) : PM l κ yX6_hulk wsX6_hulk ({ frames := 0, cells := 0, slots := 0, locals := 0 } : Room) [.ref xm, .int x] L f (fun v L1 f1 => v = some (.int (if hulkT M x = 0 then M 15 0 else 0)) ∧ L = L1 ∧ ZR κ xm b (hulkF M x) L f f1) noX 0 0 := by
  refine PM.mk (cc := cX6_hulk) (maxL := 2) (ret := (some .int)) (by decide) rfl (Nat.le_of_ble_eq_true rfl) ?_
  intro p e s m args below meth c ls hx hb hml hr hlk hnm hown hts ht hh hl
  have hl : lv_has ls 2 [(0, .ref xm), (1, .int x)] := hl
  have S : CallFix p m c cX6_hulk 2 s args wsX6_hulk RX6 := ⟨hx, hb, hml, hown, hts⟩
  have hin : ∀ w ∈ wsX60, w ∈ wsX6_hulk := by decide +kernel
  have hz := hz.self
  refine lv_aload_n hx hb dX6_hulk_0 rfl (lv_at hl 0 rfl) ?_
  refine lv_iload_n hx hb dX6_hulk_1 rfl (lv_at hl 1 rfl) ?_
  refine lv_if_lt (tgt := 12) hx hb dX6_hulk_2 (by decide) (fun c2 => ?_) (fun c2 => ?_)
  · refine lv_iconst (v := 1) hx hb dX6_hulk_12 (by decide) ?_
    refine lv_goto (tgt := 29) hx hb dX6_hulk_13 (by decide) ?_
    refine r_put S hh hz hin 21 (by decide) rfl rfl rfl (by decide +kernel) dX6_hulk_29 (fun f9 H locs hh hz => ?_)
    refine lv_aload_n hx hb dX6_hulk_32 rfl (lv_at hl 0 rfl) ?_
    refine r_get S hh hz hin 21 (by decide) rfl rfl (by decide +kernel) dX6_hulk_33 ?_
    refine lv_if_eq (tgt := 41) hx hb dX6_hulk_36 (by decide) (fun c => absurd (show (1 : Int32) = (0 : Int32) from c) (by decide)) (fun _ => ?_)
    refine lv_iconst (v := 0) hx hb dX6_hulk_39 (by decide) ?_
    exact k_iret hx hb hr hlk hh dX6_hulk_40 (Nat.le_of_ble_eq_true rfl) (Nat.le_of_ble_eq_true rfl) (by
  have hT : hulkT M x = 1 := by (unfold hulkT; (repeat' split); all_goals first | rfl | contradiction)
  exact ⟨congrArg (fun r => some (Value.int r)) (by rw [if_neg (by rw [hT]; decide)]; try rfl), rfl, hz.cast (by unfold hulkF; rw [if_neg (by rw [hT]; decide)]; rw [hT]; try rfl)⟩)
  · refine lv_iload_n hx hb dX6_hulk_5 rfl (lv_at hl 1 rfl) ?_
    refine lv_sipush (v := 20000) hx hb dX6_hulk_6 (by decide) ?_
    refine lv_icmp_le (tgt := 16) hx hb dX6_hulk_9 (by decide) (fun c9 => ?_) (fun c9 => ?_)
    · refine lv_aload_n hx hb dX6_hulk_16 rfl (lv_at hl 0 rfl) ?_
      refine r_get S hh hz hin 15 (by decide) rfl rfl (by decide +kernel) dX6_hulk_17 ?_
      refine lv_iconst (v := 3) hx hb dX6_hulk_20 (by decide) ?_
      refine lv_icmp_ne (tgt := 28) hx hb dX6_hulk_21 (by decide) (fun c21 => ?_) (fun c21 => ?_)
      · have hne : nh ≠ 3 := fun q => c21 (by rw [hn, q]; rfl)
        obtain ⟨hix, hie9⟩ := ix_of hn (by omega)
        have hlt : nT (M 15 0) < 3 := by omega
        refine lv_iconst (v := 0) hx hb dX6_hulk_28 (by decide) ?_
        refine r_put S hh hz hin 21 (by decide) rfl rfl rfl (by decide +kernel) dX6_hulk_29 (fun f9 H locs hh hz => ?_)
        refine lv_aload_n hx hb dX6_hulk_32 rfl (lv_at hl 0 rfl) ?_
        refine r_get S hh hz hin 21 (by decide) rfl rfl (by decide +kernel) dX6_hulk_33 ?_
        refine lv_if_eq (tgt := 41) hx hb dX6_hulk_36 (by decide) (fun _ => ?_) (fun c => absurd (show ¬ (0 : Int32) = (0 : Int32) from c) (by decide))
        refine lv_aload_n hx hb dX6_hulk_41 rfl (lv_at hl 0 rfl) ?_
        refine r_get S hh hz hin 0 (by decide) rfl rfl (by decide +kernel) dX6_hulk_42 ?_
        refine lv_aload_n hx hb dX6_hulk_45 rfl (lv_at hl 0 rfl) ?_
        refine r_get S hh hz hin 15 (by decide) rfl rfl (by decide +kernel) dX6_hulk_46 ?_
        refine lv_iload_n hx hb dX6_hulk_49 rfl (lv_at hl 1 rfl) ?_
        refine r_ast (k := 0) (i := (nT (M 15 0))) S hh hz (by decide) hix hlt dX6_hulk_50 (fun f9 H locs hh hz => ?_)
        refine lv_aload_n hx hb dX6_hulk_51 rfl (lv_at hl 0 rfl) ?_
        refine lv_dup hx hb dX6_hulk_52 rfl ?_
        refine r_get S hh hz hin 15 (by decide) rfl rfl (by decide +kernel) dX6_hulk_53 ?_
        refine lv_iconst (v := 1) hx hb dX6_hulk_56 (by decide) ?_
        refine lv_iadd hx hb dX6_hulk_57 ?_
        refine r_put S hh hz hin 15 (by decide) rfl rfl rfl (by decide +kernel) dX6_hulk_58 (fun f9 H locs hh hz => ?_)
        refine lv_aload_n hx hb dX6_hulk_61 rfl (lv_at hl 0 rfl) ?_
        refine r_get S hh hz hin 15 (by decide) rfl rfl (by decide +kernel) dX6_hulk_62 ?_
        refine lv_iconst (v := 1) hx hb dX6_hulk_65 (by decide) ?_
        refine lv_isub hx hb dX6_hulk_66 ?_
        exact k_iret hx hb hr hlk hh dX6_hulk_67 (Nat.le_of_ble_eq_true rfl) (Nat.le_of_ble_eq_true rfl) (by
  have hT : hulkT M x = 0 := by (unfold hulkT; (repeat' split); all_goals first | rfl | contradiction)
  exact ⟨congrArg (fun r => some (Value.int r)) (by rw [if_pos hT]; exact Int32.add_sub_cancel _ _), rfl, hz.cast (by unfold hulkF; rw [if_pos hT]; try rfl)⟩)
      · refine lv_iconst (v := 2) hx hb dX6_hulk_24 (by decide) ?_
        refine lv_goto (tgt := 29) hx hb dX6_hulk_25 (by decide) ?_
        refine r_put S hh hz hin 21 (by decide) rfl rfl rfl (by decide +kernel) dX6_hulk_29 (fun f9 H locs hh hz => ?_)
        refine lv_aload_n hx hb dX6_hulk_32 rfl (lv_at hl 0 rfl) ?_
        refine r_get S hh hz hin 21 (by decide) rfl rfl (by decide +kernel) dX6_hulk_33 ?_
        refine lv_if_eq (tgt := 41) hx hb dX6_hulk_36 (by decide) (fun c => absurd (show (2 : Int32) = (0 : Int32) from c) (by decide)) (fun _ => ?_)
        refine lv_iconst (v := 0) hx hb dX6_hulk_39 (by decide) ?_
        exact k_iret hx hb hr hlk hh dX6_hulk_40 (Nat.le_of_ble_eq_true rfl) (Nat.le_of_ble_eq_true rfl) (by
  have hT : hulkT M x = 2 := by (unfold hulkT; (repeat' split); all_goals first | rfl | contradiction)
  exact ⟨congrArg (fun r => some (Value.int r)) (by rw [if_neg (by rw [hT]; decide)]; try rfl), rfl, hz.cast (by unfold hulkF; rw [if_neg (by rw [hT]; decide)]; rw [hT]; try rfl)⟩)
    · refine lv_iconst (v := 1) hx hb dX6_hulk_12 (by decide) ?_
      refine lv_goto (tgt := 29) hx hb dX6_hulk_13 (by decide) ?_
      refine r_put S hh hz hin 21 (by decide) rfl rfl rfl (by decide +kernel) dX6_hulk_29 (fun f9 H locs hh hz => ?_)
      refine lv_aload_n hx hb dX6_hulk_32 rfl (lv_at hl 0 rfl) ?_
      refine r_get S hh hz hin 21 (by decide) rfl rfl (by decide +kernel) dX6_hulk_33 ?_
      refine lv_if_eq (tgt := 41) hx hb dX6_hulk_36 (by decide) (fun c => absurd (show (1 : Int32) = (0 : Int32) from c) (by decide)) (fun _ => ?_)
      refine lv_iconst (v := 0) hx hb dX6_hulk_39 (by decide) ?_
      exact k_iret hx hb hr hlk hh dX6_hulk_40 (Nat.le_of_ble_eq_true rfl) (Nat.le_of_ble_eq_true rfl) (by
  have hT : hulkT M x = 1 := by (unfold hulkT; (repeat' split); all_goals first | rfl | contradiction)
  exact ⟨congrArg (fun r => some (Value.int r)) (by rw [if_neg (by rw [hT]; decide)]; try rfl), rfl, hz.cast (by unfold hulkF; rw [if_neg (by rw [hT]; decide)]; rw [hT]; try rfl)⟩)

set_option maxRecDepth 100000 in
set_option maxHeartbeats 4000000 in
theorem c_lighter {l : Launch} {κ : Kx} {xm : Nat} {b : Nat → Nat} {M : MS} {L : List Nat} {f0 f : Nat → va_E} (hz : ZR κ xm b M L f0 f) {x : Int32} {nl : Nat} (hn : M 16 0 = nI nl) (hnl : nl ≤ 6) : PM l κ yX6_lighter wsX6_lighter ({ frames := 0, cells := 0, slots := 0, locals := 0 } : Room) [.ref xm, .int x] L f (fun v L1 f1 => v = some (.int (if lighterT M x = 0 then M 16 0 else 0)) ∧ L = L1 ∧ ZR κ xm b (lighterF M x) L f f1) noX 0 0 := by
  refine PM.mk (cc := cX6_lighter) (maxL := 2) (ret := (some .int)) (by decide) rfl (Nat.le_of_ble_eq_true rfl) ?_
  intro p e s m args below meth c ls hx hb hml hr hlk hnm hown hts ht hh hl
  have hl : lv_has ls 2 [(0, .ref xm), (1, .int x)] := hl
  have S : CallFix p m c cX6_lighter 2 s args wsX6_lighter RX6 := ⟨hx, hb, hml, hown, hts⟩
  have hin : ∀ w ∈ wsX60, w ∈ wsX6_lighter := by decide +kernel
  have hz := hz.self
  refine lv_aload_n hx hb dX6_lighter_0 rfl (lv_at hl 0 rfl) ?_
  refine lv_iload_n hx hb dX6_lighter_1 rfl (lv_at hl 1 rfl) ?_
  refine lv_bipush (v := 20) hx hb dX6_lighter_2 (by decide) ?_
  refine lv_icmp_lt (tgt := 14) hx hb dX6_lighter_4 (by decide) (fun c4 => ?_) (fun c4 => ?_)
  · refine lv_iconst (v := 1) hx hb dX6_lighter_14 (by decide) ?_
    refine lv_goto (tgt := 39) hx hb dX6_lighter_15 (by decide) ?_
    refine r_put S hh hz hin 21 (by decide) rfl rfl rfl (by decide +kernel) dX6_lighter_39 (fun f9 H locs hh hz => ?_)
    refine lv_aload_n hx hb dX6_lighter_42 rfl (lv_at hl 0 rfl) ?_
    refine r_get S hh hz hin 21 (by decide) rfl rfl (by decide +kernel) dX6_lighter_43 ?_
    refine lv_if_eq (tgt := 51) hx hb dX6_lighter_46 (by decide) (fun c => absurd (show (1 : Int32) = (0 : Int32) from c) (by decide)) (fun _ => ?_)
    refine lv_iconst (v := 0) hx hb dX6_lighter_49 (by decide) ?_
    exact k_iret hx hb hr hlk hh dX6_lighter_50 (Nat.le_of_ble_eq_true rfl) (Nat.le_of_ble_eq_true rfl) (by
  have hT : lighterT M x = 1 := by (unfold lighterT; (repeat' split); all_goals first | rfl | contradiction)
  exact ⟨congrArg (fun r => some (Value.int r)) (by rw [if_neg (by rw [hT]; decide)]; try rfl), rfl, hz.cast (by unfold lighterF; rw [if_neg (by rw [hT]; decide)]; rw [hT]; try rfl)⟩)
  · refine lv_iload_n hx hb dX6_lighter_7 rfl (lv_at hl 1 rfl) ?_
    refine lv_sipush (v := 500) hx hb dX6_lighter_8 (by decide) ?_
    refine lv_icmp_le (tgt := 18) hx hb dX6_lighter_11 (by decide) (fun c11 => ?_) (fun c11 => ?_)
    · refine lv_aload_n hx hb dX6_lighter_18 rfl (lv_at hl 0 rfl) ?_
      refine r_get S hh hz hin 16 (by decide) rfl rfl (by decide +kernel) dX6_lighter_19 ?_
      refine lv_bipush (v := 6) hx hb dX6_lighter_22 (by decide) ?_
      refine lv_icmp_eq (tgt := 34) hx hb dX6_lighter_24 (by decide) (fun c24 => ?_) (fun c24 => ?_)
      · refine lv_iconst (v := 2) hx hb dX6_lighter_34 (by decide) ?_
        refine lv_goto (tgt := 39) hx hb dX6_lighter_35 (by decide) ?_
        refine r_put S hh hz hin 21 (by decide) rfl rfl rfl (by decide +kernel) dX6_lighter_39 (fun f9 H locs hh hz => ?_)
        refine lv_aload_n hx hb dX6_lighter_42 rfl (lv_at hl 0 rfl) ?_
        refine r_get S hh hz hin 21 (by decide) rfl rfl (by decide +kernel) dX6_lighter_43 ?_
        refine lv_if_eq (tgt := 51) hx hb dX6_lighter_46 (by decide) (fun c => absurd (show (2 : Int32) = (0 : Int32) from c) (by decide)) (fun _ => ?_)
        refine lv_iconst (v := 0) hx hb dX6_lighter_49 (by decide) ?_
        exact k_iret hx hb hr hlk hh dX6_lighter_50 (Nat.le_of_ble_eq_true rfl) (Nat.le_of_ble_eq_true rfl) (by
  have hT : lighterT M x = 2 := by (unfold lighterT; (repeat' split); all_goals first | rfl | contradiction)
  exact ⟨congrArg (fun r => some (Value.int r)) (by rw [if_neg (by rw [hT]; decide)]; try rfl), rfl, hz.cast (by unfold lighterF; rw [if_neg (by rw [hT]; decide)]; rw [hT]; try rfl)⟩)
      · have hne : nl ≠ 6 := fun q => c24 (by rw [hn, q]; rfl)
        obtain ⟨hix, hie9⟩ := ix_of hn (by omega)
        have hlt : nT (M 16 0) < 6 := by omega
        refine lv_aload_n hx hb dX6_lighter_27 rfl (lv_at hl 0 rfl) ?_
        refine r_get S hh hz hin 15 (by decide) rfl rfl (by decide +kernel) dX6_lighter_28 ?_
        refine lv_if_ne (tgt := 38) hx hb dX6_lighter_31 (by decide) (fun c31 => ?_) (fun c31 => ?_)
        · refine lv_iconst (v := 0) hx hb dX6_lighter_38 (by decide) ?_
          refine r_put S hh hz hin 21 (by decide) rfl rfl rfl (by decide +kernel) dX6_lighter_39 (fun f9 H locs hh hz => ?_)
          refine lv_aload_n hx hb dX6_lighter_42 rfl (lv_at hl 0 rfl) ?_
          refine r_get S hh hz hin 21 (by decide) rfl rfl (by decide +kernel) dX6_lighter_43 ?_
          refine lv_if_eq (tgt := 51) hx hb dX6_lighter_46 (by decide) (fun _ => ?_) (fun c => absurd (show ¬ (0 : Int32) = (0 : Int32) from c) (by decide))
          refine lv_aload_n hx hb dX6_lighter_51 rfl (lv_at hl 0 rfl) ?_
          refine r_get S hh hz hin 1 (by decide) rfl rfl (by decide +kernel) dX6_lighter_52 ?_
          refine lv_aload_n hx hb dX6_lighter_55 rfl (lv_at hl 0 rfl) ?_
          refine r_get S hh hz hin 16 (by decide) rfl rfl (by decide +kernel) dX6_lighter_56 ?_
          refine lv_iload_n hx hb dX6_lighter_59 rfl (lv_at hl 1 rfl) ?_
          refine r_ast (k := 1) (i := (nT (M 16 0))) S hh hz (by decide) hix hlt dX6_lighter_60 (fun f9 H locs hh hz => ?_)
          refine lv_aload_n hx hb dX6_lighter_61 rfl (lv_at hl 0 rfl) ?_
          refine r_get S hh hz hin 6 (by decide) rfl rfl (by decide +kernel) dX6_lighter_62 ?_
          refine lv_aload_n hx hb dX6_lighter_65 rfl (lv_at hl 0 rfl) ?_
          refine r_get S hh hz hin 16 (by decide) rfl rfl (by decide +kernel) dX6_lighter_66 ?_
          refine lv_iconst (v := (-1)) hx hb dX6_lighter_69 (by decide) ?_
          refine r_ast (k := 6) (i := (nT (M 16 0))) S hh hz (by decide) hix hlt dX6_lighter_70 (fun f9 H locs hh hz => ?_)
          refine lv_aload_n hx hb dX6_lighter_71 rfl (lv_at hl 0 rfl) ?_
          refine lv_dup hx hb dX6_lighter_72 rfl ?_
          refine r_get S hh hz hin 16 (by decide) rfl rfl (by decide +kernel) dX6_lighter_73 ?_
          refine lv_iconst (v := 1) hx hb dX6_lighter_76 (by decide) ?_
          refine lv_iadd hx hb dX6_lighter_77 ?_
          refine r_put S hh hz hin 16 (by decide) rfl rfl rfl (by decide +kernel) dX6_lighter_78 (fun f9 H locs hh hz => ?_)
          refine lv_aload_n hx hb dX6_lighter_81 rfl (lv_at hl 0 rfl) ?_
          refine r_get S hh hz hin 16 (by decide) rfl rfl (by decide +kernel) dX6_lighter_82 ?_
          refine lv_iconst (v := 1) hx hb dX6_lighter_85 (by decide) ?_
          refine lv_isub hx hb dX6_lighter_86 ?_
          exact k_iret hx hb hr hlk hh dX6_lighter_87 (Nat.le_of_ble_eq_true rfl) (Nat.le_of_ble_eq_true rfl) (by
  have hT : lighterT M x = 0 := by (unfold lighterT; (repeat' split); all_goals first | rfl | contradiction)
  exact ⟨congrArg (fun r => some (Value.int r)) (by rw [if_pos hT]; exact Int32.add_sub_cancel _ _), rfl, hz.cast (by unfold lighterF; rw [if_pos hT]; try rfl)⟩)
        · refine lv_iconst (v := 2) hx hb dX6_lighter_34 (by decide) ?_
          refine lv_goto (tgt := 39) hx hb dX6_lighter_35 (by decide) ?_
          refine r_put S hh hz hin 21 (by decide) rfl rfl rfl (by decide +kernel) dX6_lighter_39 (fun f9 H locs hh hz => ?_)
          refine lv_aload_n hx hb dX6_lighter_42 rfl (lv_at hl 0 rfl) ?_
          refine r_get S hh hz hin 21 (by decide) rfl rfl (by decide +kernel) dX6_lighter_43 ?_
          refine lv_if_eq (tgt := 51) hx hb dX6_lighter_46 (by decide) (fun c => absurd (show (2 : Int32) = (0 : Int32) from c) (by decide)) (fun _ => ?_)
          refine lv_iconst (v := 0) hx hb dX6_lighter_49 (by decide) ?_
          exact k_iret hx hb hr hlk hh dX6_lighter_50 (Nat.le_of_ble_eq_true rfl) (Nat.le_of_ble_eq_true rfl) (by
  have hT : lighterT M x = 2 := by (unfold lighterT; (repeat' split); all_goals first | rfl | contradiction)
  exact ⟨congrArg (fun r => some (Value.int r)) (by rw [if_neg (by rw [hT]; decide)]; try rfl), rfl, hz.cast (by unfold lighterF; rw [if_neg (by rw [hT]; decide)]; rw [hT]; try rfl)⟩)
    · refine lv_iconst (v := 1) hx hb dX6_lighter_14 (by decide) ?_
      refine lv_goto (tgt := 39) hx hb dX6_lighter_15 (by decide) ?_
      refine r_put S hh hz hin 21 (by decide) rfl rfl rfl (by decide +kernel) dX6_lighter_39 (fun f9 H locs hh hz => ?_)
      refine lv_aload_n hx hb dX6_lighter_42 rfl (lv_at hl 0 rfl) ?_
      refine r_get S hh hz hin 21 (by decide) rfl rfl (by decide +kernel) dX6_lighter_43 ?_
      refine lv_if_eq (tgt := 51) hx hb dX6_lighter_46 (by decide) (fun c => absurd (show (1 : Int32) = (0 : Int32) from c) (by decide)) (fun _ => ?_)
      refine lv_iconst (v := 0) hx hb dX6_lighter_49 (by decide) ?_
      exact k_iret hx hb hr hlk hh dX6_lighter_50 (Nat.le_of_ble_eq_true rfl) (Nat.le_of_ble_eq_true rfl) (by
  have hT : lighterT M x = 1 := by (unfold lighterT; (repeat' split); all_goals first | rfl | contradiction)
  exact ⟨congrArg (fun r => some (Value.int r)) (by rw [if_neg (by rw [hT]; decide)]; try rfl), rfl, hz.cast (by unfold lighterF; rw [if_neg (by rw [hT]; decide)]; rw [hT]; try rfl)⟩)

set_option maxRecDepth 100000 in
set_option maxHeartbeats 4000000 in
theorem c_gang {l : Launch} {κ : Kx} {xm : Nat} {b : Nat → Nat} {M : MS} {L : List Nat} {f0 f : Nat → va_E} (hz : ZR κ xm b M L f0 f) {x : Int32} {ng : Nat} (hn : M 17 0 = nI ng) (hng : ng ≤ 6) : PM l κ yX6_gang wsX6_gang ({ frames := 0, cells := 0, slots := 0, locals := 0 } : Room) [.ref xm, .int x] L f (fun v L1 f1 => v = some (.int (if gangT M x = 0 then M 17 0 else 0)) ∧ L = L1 ∧ ZR κ xm b (gangF M x) L f f1) noX 0 0 := by
  refine PM.mk (cc := cX6_gang) (maxL := 2) (ret := (some .int)) (by decide) rfl (Nat.le_of_ble_eq_true rfl) ?_
  intro p e s m args below meth c ls hx hb hml hr hlk hnm hown hts ht hh hl
  have hl : lv_has ls 2 [(0, .ref xm), (1, .int x)] := hl
  have S : CallFix p m c cX6_gang 2 s args wsX6_gang RX6 := ⟨hx, hb, hml, hown, hts⟩
  have hin : ∀ w ∈ wsX60, w ∈ wsX6_gang := by decide +kernel
  have hz := hz.self
  refine lv_aload_n hx hb dX6_gang_0 rfl (lv_at hl 0 rfl) ?_
  refine lv_iload_n hx hb dX6_gang_1 rfl (lv_at hl 1 rfl) ?_
  refine lv_iconst (v := 1) hx hb dX6_gang_2 (by decide) ?_
  refine lv_icmp_lt (tgt := 12) hx hb dX6_gang_3 (by decide) (fun c3 => ?_) (fun c3 => ?_)
  · refine lv_iconst (v := 1) hx hb dX6_gang_12 (by decide) ?_
    refine lv_goto (tgt := 30) hx hb dX6_gang_13 (by decide) ?_
    refine r_put S hh hz hin 21 (by decide) rfl rfl rfl (by decide +kernel) dX6_gang_30 (fun f9 H locs hh hz => ?_)
    refine lv_aload_n hx hb dX6_gang_33 rfl (lv_at hl 0 rfl) ?_
    refine r_get S hh hz hin 21 (by decide) rfl rfl (by decide +kernel) dX6_gang_34 ?_
    refine lv_if_eq (tgt := 42) hx hb dX6_gang_37 (by decide) (fun c => absurd (show (1 : Int32) = (0 : Int32) from c) (by decide)) (fun _ => ?_)
    refine lv_iconst (v := 0) hx hb dX6_gang_40 (by decide) ?_
    exact k_iret hx hb hr hlk hh dX6_gang_41 (Nat.le_of_ble_eq_true rfl) (Nat.le_of_ble_eq_true rfl) (by
  have hT : gangT M x = 1 := by (unfold gangT; (repeat' split); all_goals first | rfl | contradiction)
  exact ⟨congrArg (fun r => some (Value.int r)) (by rw [if_neg (by rw [hT]; decide)]; try rfl), rfl, hz.cast (by unfold gangF; rw [if_neg (by rw [hT]; decide)]; rw [hT]; try rfl)⟩)
  · refine lv_iload_n hx hb dX6_gang_6 rfl (lv_at hl 1 rfl) ?_
    refine lv_bipush (v := 20) hx hb dX6_gang_7 (by decide) ?_
    refine lv_icmp_le (tgt := 16) hx hb dX6_gang_9 (by decide) (fun c9 => ?_) (fun c9 => ?_)
    · refine lv_aload_n hx hb dX6_gang_16 rfl (lv_at hl 0 rfl) ?_
      refine r_get S hh hz hin 17 (by decide) rfl rfl (by decide +kernel) dX6_gang_17 ?_
      refine lv_bipush (v := 6) hx hb dX6_gang_20 (by decide) ?_
      refine lv_icmp_ne (tgt := 29) hx hb dX6_gang_22 (by decide) (fun c22 => ?_) (fun c22 => ?_)
      · have hne : ng ≠ 6 := fun q => c22 (by rw [hn, q]; rfl)
        obtain ⟨hix, hie9⟩ := ix_of hn (by omega)
        have hlt : nT (M 17 0) < 6 := by omega
        refine lv_iconst (v := 0) hx hb dX6_gang_29 (by decide) ?_
        refine r_put S hh hz hin 21 (by decide) rfl rfl rfl (by decide +kernel) dX6_gang_30 (fun f9 H locs hh hz => ?_)
        refine lv_aload_n hx hb dX6_gang_33 rfl (lv_at hl 0 rfl) ?_
        refine r_get S hh hz hin 21 (by decide) rfl rfl (by decide +kernel) dX6_gang_34 ?_
        refine lv_if_eq (tgt := 42) hx hb dX6_gang_37 (by decide) (fun _ => ?_) (fun c => absurd (show ¬ (0 : Int32) = (0 : Int32) from c) (by decide))
        refine lv_aload_n hx hb dX6_gang_42 rfl (lv_at hl 0 rfl) ?_
        refine r_get S hh hz hin 9 (by decide) rfl rfl (by decide +kernel) dX6_gang_43 ?_
        refine lv_aload_n hx hb dX6_gang_46 rfl (lv_at hl 0 rfl) ?_
        refine r_get S hh hz hin 17 (by decide) rfl rfl (by decide +kernel) dX6_gang_47 ?_
        refine lv_iload_n hx hb dX6_gang_50 rfl (lv_at hl 1 rfl) ?_
        refine r_ast (k := 9) (i := (nT (M 17 0))) S hh hz (by decide) hix hlt dX6_gang_51 (fun f9 H locs hh hz => ?_)
        refine lv_aload_n hx hb dX6_gang_52 rfl (lv_at hl 0 rfl) ?_
        refine lv_dup hx hb dX6_gang_53 rfl ?_
        refine r_get S hh hz hin 17 (by decide) rfl rfl (by decide +kernel) dX6_gang_54 ?_
        refine lv_iconst (v := 1) hx hb dX6_gang_57 (by decide) ?_
        refine lv_iadd hx hb dX6_gang_58 ?_
        refine r_put S hh hz hin 17 (by decide) rfl rfl rfl (by decide +kernel) dX6_gang_59 (fun f9 H locs hh hz => ?_)
        refine lv_aload_n hx hb dX6_gang_62 rfl (lv_at hl 0 rfl) ?_
        refine r_get S hh hz hin 17 (by decide) rfl rfl (by decide +kernel) dX6_gang_63 ?_
        refine lv_iconst (v := 1) hx hb dX6_gang_66 (by decide) ?_
        refine lv_isub hx hb dX6_gang_67 ?_
        exact k_iret hx hb hr hlk hh dX6_gang_68 (Nat.le_of_ble_eq_true rfl) (Nat.le_of_ble_eq_true rfl) (by
  have hT : gangT M x = 0 := by (unfold gangT; (repeat' split); all_goals first | rfl | contradiction)
  exact ⟨congrArg (fun r => some (Value.int r)) (by rw [if_pos hT]; exact Int32.add_sub_cancel _ _), rfl, hz.cast (by unfold gangF; rw [if_pos hT]; try rfl)⟩)
      · refine lv_iconst (v := 2) hx hb dX6_gang_25 (by decide) ?_
        refine lv_goto (tgt := 30) hx hb dX6_gang_26 (by decide) ?_
        refine r_put S hh hz hin 21 (by decide) rfl rfl rfl (by decide +kernel) dX6_gang_30 (fun f9 H locs hh hz => ?_)
        refine lv_aload_n hx hb dX6_gang_33 rfl (lv_at hl 0 rfl) ?_
        refine r_get S hh hz hin 21 (by decide) rfl rfl (by decide +kernel) dX6_gang_34 ?_
        refine lv_if_eq (tgt := 42) hx hb dX6_gang_37 (by decide) (fun c => absurd (show (2 : Int32) = (0 : Int32) from c) (by decide)) (fun _ => ?_)
        refine lv_iconst (v := 0) hx hb dX6_gang_40 (by decide) ?_
        exact k_iret hx hb hr hlk hh dX6_gang_41 (Nat.le_of_ble_eq_true rfl) (Nat.le_of_ble_eq_true rfl) (by
  have hT : gangT M x = 2 := by (unfold gangT; (repeat' split); all_goals first | rfl | contradiction)
  exact ⟨congrArg (fun r => some (Value.int r)) (by rw [if_neg (by rw [hT]; decide)]; try rfl), rfl, hz.cast (by unfold gangF; rw [if_neg (by rw [hT]; decide)]; rw [hT]; try rfl)⟩)
    · refine lv_iconst (v := 1) hx hb dX6_gang_12 (by decide) ?_
      refine lv_goto (tgt := 30) hx hb dX6_gang_13 (by decide) ?_
      refine r_put S hh hz hin 21 (by decide) rfl rfl rfl (by decide +kernel) dX6_gang_30 (fun f9 H locs hh hz => ?_)
      refine lv_aload_n hx hb dX6_gang_33 rfl (lv_at hl 0 rfl) ?_
      refine r_get S hh hz hin 21 (by decide) rfl rfl (by decide +kernel) dX6_gang_34 ?_
      refine lv_if_eq (tgt := 42) hx hb dX6_gang_37 (by decide) (fun c => absurd (show (1 : Int32) = (0 : Int32) from c) (by decide)) (fun _ => ?_)
      refine lv_iconst (v := 0) hx hb dX6_gang_40 (by decide) ?_
      exact k_iret hx hb hr hlk hh dX6_gang_41 (Nat.le_of_ble_eq_true rfl) (Nat.le_of_ble_eq_true rfl) (by
  have hT : gangT M x = 1 := by (unfold gangT; (repeat' split); all_goals first | rfl | contradiction)
  exact ⟨congrArg (fun r => some (Value.int r)) (by rw [if_neg (by rw [hT]; decide)]; try rfl), rfl, hz.cast (by unfold gangF; rw [if_neg (by rw [hT]; decide)]; rw [hT]; try rfl)⟩)

set_option maxRecDepth 100000 in
set_option maxHeartbeats 4000000 in
theorem c_steamer {l : Launch} {κ : Kx} {xm : Nat} {b : Nat → Nat} {M : MS} {L : List Nat} {f0 f : Nat → va_E} (hz : ZR κ xm b M L f0 f) {x y : Int32} {ns : Nat} (hn : M 18 0 = nI ns) (hns : ns < 600) : PM l κ yX6_steamer wsX6_steamer ({ frames := 1, cells := 0, slots := 0, locals := 23 } : Room) [.ref xm, .int x, .int y] L f (fun v L1 f1 => v = some (.int (if steamerT M ns x y = 0 then M 18 0 else 0)) ∧ L = L1 ∧ ZR κ xm b (steamerF M ns x y) L f f1) noX 0 0 := by
  refine PM.mk (cc := cX6_steamer) (maxL := 3) (ret := (some .int)) (by decide) rfl (Nat.le_of_ble_eq_true rfl) ?_
  intro p e s m args below meth c ls hx hb hml hr hlk hnm hown hts ht hh hl
  have hl : lv_has ls 3 [(0, .ref xm), (1, .int x), (2, .int y)] := hl
  have S : CallFix p m c cX6_steamer 3 s args wsX6_steamer RX6 := ⟨hx, hb, hml, hown, hts⟩
  have hin : ∀ w ∈ wsX60, w ∈ wsX6_steamer := by decide +kernel
  have hz := hz.self
  obtain ⟨hix, hie9⟩ := ix_of hn (by omega)
  have hlt : nT (M 18 0) < 600 := by omega
  refine lv_aload_n hx hb dX6_steamer_0 rfl (lv_at hl 0 rfl) ?_
  refine lv_iload_n hx hb dX6_steamer_1 rfl (lv_at hl 1 rfl) ?_
  refine lv_iconst (v := 1) hx hb dX6_steamer_2 (by decide) ?_
  refine lv_icmp_lt (tgt := 25) hx hb dX6_steamer_3 (by decide) (fun c3 => ?_) (fun c3 => ?_)
  · refine lv_iconst (v := 1) hx hb dX6_steamer_25 (by decide) ?_
    refine lv_goto (tgt := 44) hx hb dX6_steamer_26 (by decide) ?_
    refine r_put S hh hz hin 21 (by decide) rfl rfl rfl (by decide +kernel) dX6_steamer_44 (fun f9 H locs hh hz => ?_)
    refine lv_aload_n hx hb dX6_steamer_47 rfl (lv_at hl 0 rfl) ?_
    refine r_get S hh hz hin 21 (by decide) rfl rfl (by decide +kernel) dX6_steamer_48 ?_
    refine lv_if_eq (tgt := 56) hx hb dX6_steamer_51 (by decide) (fun c => absurd (show (1 : Int32) = (0 : Int32) from c) (by decide)) (fun _ => ?_)
    refine lv_iconst (v := 0) hx hb dX6_steamer_54 (by decide) ?_
    exact k_iret hx hb hr hlk hh dX6_steamer_55 (Nat.le_of_ble_eq_true rfl) (Nat.le_of_ble_eq_true rfl) (by
  have hT : steamerT M ns x y = 1 := by (unfold steamerT; (repeat' split); all_goals first | rfl | contradiction)
  exact ⟨congrArg (fun r => some (Value.int r)) (by rw [if_neg (by rw [hT]; decide)]; try rfl), rfl, hz.cast (by unfold steamerF; rw [if_neg (by rw [hT]; decide)]; rw [hT]; try rfl)⟩)
  · refine lv_iload_n hx hb dX6_steamer_6 rfl (lv_at hl 1 rfl) ?_
    refine lv_sipush (v := 9999) hx hb dX6_steamer_7 (by decide) ?_
    refine lv_icmp_gt (tgt := 25) hx hb dX6_steamer_10 (by decide) (fun c10 => ?_) (fun c10 => ?_)
    · refine lv_iconst (v := 1) hx hb dX6_steamer_25 (by decide) ?_
      refine lv_goto (tgt := 44) hx hb dX6_steamer_26 (by decide) ?_
      refine r_put S hh hz hin 21 (by decide) rfl rfl rfl (by decide +kernel) dX6_steamer_44 (fun f9 H locs hh hz => ?_)
      refine lv_aload_n hx hb dX6_steamer_47 rfl (lv_at hl 0 rfl) ?_
      refine r_get S hh hz hin 21 (by decide) rfl rfl (by decide +kernel) dX6_steamer_48 ?_
      refine lv_if_eq (tgt := 56) hx hb dX6_steamer_51 (by decide) (fun c => absurd (show (1 : Int32) = (0 : Int32) from c) (by decide)) (fun _ => ?_)
      refine lv_iconst (v := 0) hx hb dX6_steamer_54 (by decide) ?_
      exact k_iret hx hb hr hlk hh dX6_steamer_55 (Nat.le_of_ble_eq_true rfl) (Nat.le_of_ble_eq_true rfl) (by
  have hT : steamerT M ns x y = 1 := by (unfold steamerT; (repeat' split); all_goals first | rfl | contradiction)
  exact ⟨congrArg (fun r => some (Value.int r)) (by rw [if_neg (by rw [hT]; decide)]; try rfl), rfl, hz.cast (by unfold steamerF; rw [if_neg (by rw [hT]; decide)]; rw [hT]; try rfl)⟩)
    · refine lv_iload_n hx hb dX6_steamer_13 rfl (lv_at hl 2 rfl) ?_
      refine lv_iconst (v := 1) hx hb dX6_steamer_14 (by decide) ?_
      refine lv_icmp_lt (tgt := 25) hx hb dX6_steamer_15 (by decide) (fun c15 => ?_) (fun c15 => ?_)
      · refine lv_iconst (v := 1) hx hb dX6_steamer_25 (by decide) ?_
        refine lv_goto (tgt := 44) hx hb dX6_steamer_26 (by decide) ?_
        refine r_put S hh hz hin 21 (by decide) rfl rfl rfl (by decide +kernel) dX6_steamer_44 (fun f9 H locs hh hz => ?_)
        refine lv_aload_n hx hb dX6_steamer_47 rfl (lv_at hl 0 rfl) ?_
        refine r_get S hh hz hin 21 (by decide) rfl rfl (by decide +kernel) dX6_steamer_48 ?_
        refine lv_if_eq (tgt := 56) hx hb dX6_steamer_51 (by decide) (fun c => absurd (show (1 : Int32) = (0 : Int32) from c) (by decide)) (fun _ => ?_)
        refine lv_iconst (v := 0) hx hb dX6_steamer_54 (by decide) ?_
        exact k_iret hx hb hr hlk hh dX6_steamer_55 (Nat.le_of_ble_eq_true rfl) (Nat.le_of_ble_eq_true rfl) (by
  have hT : steamerT M ns x y = 1 := by (unfold steamerT; (repeat' split); all_goals first | rfl | contradiction)
  exact ⟨congrArg (fun r => some (Value.int r)) (by rw [if_neg (by rw [hT]; decide)]; try rfl), rfl, hz.cast (by unfold steamerF; rw [if_neg (by rw [hT]; decide)]; rw [hT]; try rfl)⟩)
      · refine lv_iload_n hx hb dX6_steamer_18 rfl (lv_at hl 2 rfl) ?_
        refine lv_sipush (v := 500) hx hb dX6_steamer_19 (by decide) ?_
        refine lv_icmp_le (tgt := 29) hx hb dX6_steamer_22 (by decide) (fun c22 => ?_) (fun c22 => ?_)
        · refine lv_aload_n hx hb dX6_steamer_29 rfl (lv_at hl 0 rfl) ?_
          refine lv_iconst (v := 0) hx hb dX6_steamer_30 (by decide) ?_
          refine k_callV0 (As := [.int 0]) (c_many hz (how := 0) hn (by omega)) S hh (cwV 1 hts gX6_steamer_X6_many rfl rfl rfl (by decide +kernel) ⟨(Nat.le_of_ble_eq_true rfl), (Nat.le_of_ble_eq_true rfl)⟩) hz.1.1 hz.1.2 (q := (RX6, TX6, 22)) rfl rfl rfl hl.1 rfl (Nat.le_of_ble_eq_true rfl) dX6_steamer_31 ⟨(Nat.le_of_ble_eq_true rfl), (Nat.le_of_ble_eq_true rfl)⟩ (fun v L1 f1 H locs hp hh => ?_)
          obtain ⟨rfl, hL1, hf1⟩ := hp
          subst hL1; subst hf1
          refine lv_bipush (v := 8) hx hb dX6_steamer_34 (by decide) ?_
          refine lv_icmp_ne (tgt := 43) hx hb dX6_steamer_36 (by decide) (fun c36 => ?_) (fun c36 => ?_)
          · refine lv_iconst (v := 0) hx hb dX6_steamer_43 (by decide) ?_
            refine r_put S hh hz hin 21 (by decide) rfl rfl rfl (by decide +kernel) dX6_steamer_44 (fun f9 H locs hh hz => ?_)
            refine lv_aload_n hx hb dX6_steamer_47 rfl (lv_at hl 0 rfl) ?_
            refine r_get S hh hz hin 21 (by decide) rfl rfl (by decide +kernel) dX6_steamer_48 ?_
            refine lv_if_eq (tgt := 56) hx hb dX6_steamer_51 (by decide) (fun _ => ?_) (fun c => absurd (show ¬ (0 : Int32) = (0 : Int32) from c) (by decide))
            refine lv_aload_n hx hb dX6_steamer_56 rfl (lv_at hl 0 rfl) ?_
            refine r_get S hh hz hin 12 (by decide) rfl rfl (by decide +kernel) dX6_steamer_57 ?_
            refine lv_aload_n hx hb dX6_steamer_60 rfl (lv_at hl 0 rfl) ?_
            refine r_get S hh hz hin 18 (by decide) rfl rfl (by decide +kernel) dX6_steamer_61 ?_
            refine lv_iload_n hx hb dX6_steamer_64 rfl (lv_at hl 1 rfl) ?_
            refine r_ast (k := 12) (i := (nT (M 18 0))) S hh hz (by decide) hix hlt dX6_steamer_65 (fun f9 H locs hh hz => ?_)
            refine lv_aload_n hx hb dX6_steamer_66 rfl (lv_at hl 0 rfl) ?_
            refine r_get S hh hz hin 13 (by decide) rfl rfl (by decide +kernel) dX6_steamer_67 ?_
            refine lv_aload_n hx hb dX6_steamer_70 rfl (lv_at hl 0 rfl) ?_
            refine r_get S hh hz hin 18 (by decide) rfl rfl (by decide +kernel) dX6_steamer_71 ?_
            refine lv_aload_n hx hb dX6_steamer_74 rfl (lv_at hl 0 rfl) ?_
            refine r_get S hh hz hin 19 (by decide) rfl rfl (by decide +kernel) dX6_steamer_75 ?_
            refine lv_iload_n hx hb dX6_steamer_78 rfl (lv_at hl 2 rfl) ?_
            refine lv_iadd hx hb dX6_steamer_79 ?_
            refine r_ast (k := 13) (i := (nT (M 18 0))) S hh hz (by decide) hix hlt dX6_steamer_80 (fun f9 H locs hh hz => ?_)
            refine lv_aload_n hx hb dX6_steamer_81 rfl (lv_at hl 0 rfl) ?_
            refine lv_dup hx hb dX6_steamer_82 rfl ?_
            refine r_get S hh hz hin 18 (by decide) rfl rfl (by decide +kernel) dX6_steamer_83 ?_
            refine lv_iconst (v := 1) hx hb dX6_steamer_86 (by decide) ?_
            refine lv_iadd hx hb dX6_steamer_87 ?_
            refine r_put S hh hz hin 18 (by decide) rfl rfl rfl (by decide +kernel) dX6_steamer_88 (fun f9 H locs hh hz => ?_)
            refine lv_aload_n hx hb dX6_steamer_91 rfl (lv_at hl 0 rfl) ?_
            refine r_get S hh hz hin 18 (by decide) rfl rfl (by decide +kernel) dX6_steamer_92 ?_
            refine lv_iconst (v := 1) hx hb dX6_steamer_95 (by decide) ?_
            refine lv_isub hx hb dX6_steamer_96 ?_
            exact k_iret hx hb hr hlk hh dX6_steamer_97 (Nat.le_of_ble_eq_true rfl) (Nat.le_of_ble_eq_true rfl) (by
  have hT : steamerT M ns x y = 0 := by (unfold steamerT; (repeat' split); all_goals first | rfl | contradiction)
  exact ⟨congrArg (fun r => some (Value.int r)) (by rw [if_pos hT]; exact Int32.add_sub_cancel _ _), rfl, hz.cast (by unfold steamerF; rw [if_pos hT]; try rfl)⟩)
          · refine lv_iconst (v := 2) hx hb dX6_steamer_39 (by decide) ?_
            refine lv_goto (tgt := 44) hx hb dX6_steamer_40 (by decide) ?_
            refine r_put S hh hz hin 21 (by decide) rfl rfl rfl (by decide +kernel) dX6_steamer_44 (fun f9 H locs hh hz => ?_)
            refine lv_aload_n hx hb dX6_steamer_47 rfl (lv_at hl 0 rfl) ?_
            refine r_get S hh hz hin 21 (by decide) rfl rfl (by decide +kernel) dX6_steamer_48 ?_
            refine lv_if_eq (tgt := 56) hx hb dX6_steamer_51 (by decide) (fun c => absurd (show (2 : Int32) = (0 : Int32) from c) (by decide)) (fun _ => ?_)
            refine lv_iconst (v := 0) hx hb dX6_steamer_54 (by decide) ?_
            exact k_iret hx hb hr hlk hh dX6_steamer_55 (Nat.le_of_ble_eq_true rfl) (Nat.le_of_ble_eq_true rfl) (by
  have hT : steamerT M ns x y = 2 := by (unfold steamerT; (repeat' split); all_goals first | rfl | contradiction)
  exact ⟨congrArg (fun r => some (Value.int r)) (by rw [if_neg (by rw [hT]; decide)]; try rfl), rfl, hz.cast (by unfold steamerF; rw [if_neg (by rw [hT]; decide)]; rw [hT]; try rfl)⟩)
        · refine lv_iconst (v := 1) hx hb dX6_steamer_25 (by decide) ?_
          refine lv_goto (tgt := 44) hx hb dX6_steamer_26 (by decide) ?_
          refine r_put S hh hz hin 21 (by decide) rfl rfl rfl (by decide +kernel) dX6_steamer_44 (fun f9 H locs hh hz => ?_)
          refine lv_aload_n hx hb dX6_steamer_47 rfl (lv_at hl 0 rfl) ?_
          refine r_get S hh hz hin 21 (by decide) rfl rfl (by decide +kernel) dX6_steamer_48 ?_
          refine lv_if_eq (tgt := 56) hx hb dX6_steamer_51 (by decide) (fun c => absurd (show (1 : Int32) = (0 : Int32) from c) (by decide)) (fun _ => ?_)
          refine lv_iconst (v := 0) hx hb dX6_steamer_54 (by decide) ?_
          exact k_iret hx hb hr hlk hh dX6_steamer_55 (Nat.le_of_ble_eq_true rfl) (Nat.le_of_ble_eq_true rfl) (by
  have hT : steamerT M ns x y = 1 := by (unfold steamerT; (repeat' split); all_goals first | rfl | contradiction)
  exact ⟨congrArg (fun r => some (Value.int r)) (by rw [if_neg (by rw [hT]; decide)]; try rfl), rfl, hz.cast (by unfold steamerF; rw [if_neg (by rw [hT]; decide)]; rw [hT]; try rfl)⟩)

set_option maxRecDepth 100000 in
set_option maxHeartbeats 4000000 in
theorem c_isBusy {l : Launch} {κ : Kx} {xm : Nat} {b : Nat → Nat} {M : MS} {L : List Nat} {f0 f : Nat → va_E} (hz : ZR κ xm b M L f0 f) {gi nl : Nat} (hg : gi < 6) (hn : M 16 0 = nI nl) (hnl : nl ≤ 6) : PM l κ yX6_isBusy wsX6_isBusy ({ frames := 0, cells := 0, slots := 0, locals := 0 } : Room) [.ref xm, .int (nI gi)] L f (fun v L1 f1 => v = some (.int (busyF M gi nl)) ∧ L = L1 ∧ f = f1) noX 0 0 := by
  refine PM.mk (cc := cX6_isBusy) (maxL := 4) (ret := (some .boolean)) (by decide) rfl (Nat.le_of_ble_eq_true rfl) ?_
  intro p e s m args below meth c ls hx hb hml hr hlk hnm hown hts ht hh hl
  have hl : lv_has ls 4 [(0, .ref xm), (1, .int (nI gi))] := hl
  have S : CallFix p m c cX6_isBusy 4 s args wsX6_isBusy RX6 := ⟨hx, hb, hml, hown, hts⟩
  have hin : ∀ w ∈ wsX60, w ∈ wsX6_isBusy := by decide +kernel
  refine lv_aload_n hx hb dX6_isBusy_0 rfl (lv_at hl 0 rfl) ?_
  refine r_get S hh hz hin 11 (by decide) rfl rfl (by decide +kernel) dX6_isBusy_1 ?_
  refine lv_iload_n hx hb dX6_isBusy_4 rfl (lv_at hl 1 rfl) ?_
  refine r_ald (k := 11) (i := gi) S hh hz (by decide) rfl hg dX6_isBusy_5 ?_
  refine lv_if_le (tgt := 13) hx hb dX6_isBusy_6 (by decide) (fun c6 => ?_) (fun c6 => ?_)
  · refine lv_iconst (v := 0) hx hb dX6_isBusy_13 (by decide) ?_
    refine lv_istore_n (lv' := [(2, .int 0), (0, .ref xm), (1, .int (nI gi))]) hx hb dX6_isBusy_14 rfl hl (by decide) rfl (fun ls hl => ?_)
    refine lv_iconst (v := 0) hx hb dX6_isBusy_15 (by decide) ?_
    refine lv_istore_n (lv' := [(3, .int 0), (2, .int 0), (0, .ref xm), (1, .int (nI gi))]) hx hb dX6_isBusy_16 rfl hl (by decide) rfl (fun ls hl => ?_)
    have loop : ∀ (n i : Nat) (x2 x3 : Int32), i ≤ nl → nl + 1 ≤ i + n → x3 = nI i → x2 = busyF M gi i → ∀ ls : Array Slot, lv_has ls 4 [(0, .ref xm), (1, .int (nI gi)), (2, .int x2), (3, .int x3)] → W p l e ({ frames := 0, cells := 0, slots := 0, locals := 0 } : Room) s m args below meth c s.heap [] 0 0 (vx_MQ below (PQ κ (fun v L1 f1 => v = some (.int (busyF M gi nl)) ∧ L = L1 ∧ f = f1)) (PX κ L f noX) args s 0 0 (kA κ)) (F0 m 17 ls []) := by
      intro n
      induction n with
      | zero =>
        intro i x2 x3 h1 h2
        exact absurd h2 (by omega)
      | succ n ih =>
        intro i x2 x3 hi hin3 ex3 ex2 ls hl
        refine lv_iload_n hx hb dX6_isBusy_17 rfl (lv_at hl 3 rfl) ?_
        refine lv_aload_n hx hb dX6_isBusy_18 rfl (lv_at hl 0 rfl) ?_
        refine r_get S hh hz hin 16 (by decide) rfl rfl (by decide +kernel) dX6_isBusy_19 ?_
        refine lv_icmp_ge (tgt := 51) hx hb dX6_isBusy_22 (by decide) (fun c22 => ?_) (fun c22 => ?_)
        · have hie : i = nl := by
            rcases Nat.lt_or_ge i nl with q | q
            · exact absurd c22 (by rw [hn, ex3]; exact nI_ge q (by omega))
            · omega
          refine lv_iload_n hx hb dX6_isBusy_51 rfl (lv_at hl 2 rfl) ?_
          exact k_zret hx hb hr hlk (busy_nar ex2) hh dX6_isBusy_52 (Nat.le_of_ble_eq_true rfl) (Nat.le_of_ble_eq_true rfl) ⟨congrArg (fun r => some (Value.int r)) (by rw [ex2, hie]), rfl, rfl⟩
        · have hlt : i < nl := by
            rcases Nat.lt_or_ge i nl with q | q
            · exact q
            · exact absurd (by rw [hn, ex3]; exact nI_le q (by omega)) c22
          refine lv_iload_n hx hb dX6_isBusy_25 rfl (lv_at hl 2 rfl) ?_
          refine lv_if_ne (tgt := 39) hx hb dX6_isBusy_26 (by decide) (fun c26 => ?_) (fun c26 => ?_)
          · refine lv_iconst (v := 1) hx hb dX6_isBusy_39 (by decide) ?_
            refine lv_goto (tgt := 44) hx hb dX6_isBusy_40 (by decide) ?_
            refine lv_istore_n (lv' := [(2, .int 1), (0, .ref xm), (1, .int (nI gi)), (3, .int x3)]) hx hb dX6_isBusy_44 rfl hl (by decide) rfl (fun ls hl => ?_)
            obtain ⟨x45, e45⟩ : ∃ y : Int32, y = x3 + 1 := ⟨_, rfl⟩
            refine lv_iinc (v := x45) (lv' := [(3, .int x45), (2, .int 1), (0, .ref xm), (1, .int (nI gi))]) hx hb dX6_isBusy_45 hl (k := 3) rfl (by rw [e45]; rfl) (by decide) rfl (fun ls hl => ?_)
            refine lv_goto (tgt := 17) hx hb dX6_isBusy_48 (by decide) ?_
            exact ih (i + 1) 1 x45 (by omega) (by omega) (by rw [e45, ex3]; exact nI_1 i) (by first | (rw [ex2] at c26; rw [busyF, if_neg c26]) | (rw [ex2] at c26; rw [busyF, if_pos c26]; first | rw [if_pos (by assumption)] | rw [if_neg (by assumption)])) ls (lv_sub hl [2, 3, 1, 0] rfl)
          · refine lv_aload_n hx hb dX6_isBusy_29 rfl (lv_at hl 0 rfl) ?_
            refine r_get S hh hz hin 6 (by decide) rfl rfl (by decide +kernel) dX6_isBusy_30 ?_
            refine lv_iload_n hx hb dX6_isBusy_33 rfl (lv_at hl 3 rfl) ?_
            refine r_ald (k := 6) (i := i) S hh hz (by decide) ex3 (show i < 6 by omega) dX6_isBusy_34 ?_
            refine lv_iload_n hx hb dX6_isBusy_35 rfl (lv_at hl 1 rfl) ?_
            refine lv_icmp_ne (tgt := 43) hx hb dX6_isBusy_36 (by decide) (fun c36 => ?_) (fun c36 => ?_)
            · refine lv_iconst (v := 0) hx hb dX6_isBusy_43 (by decide) ?_
              refine lv_istore_n (lv' := [(2, .int 0), (0, .ref xm), (1, .int (nI gi)), (3, .int x3)]) hx hb dX6_isBusy_44 rfl hl (by decide) rfl (fun ls hl => ?_)
              obtain ⟨x45, e45⟩ : ∃ y : Int32, y = x3 + 1 := ⟨_, rfl⟩
              refine lv_iinc (v := x45) (lv' := [(3, .int x45), (2, .int 0), (0, .ref xm), (1, .int (nI gi))]) hx hb dX6_isBusy_45 hl (k := 3) rfl (by rw [e45]; rfl) (by decide) rfl (fun ls hl => ?_)
              refine lv_goto (tgt := 17) hx hb dX6_isBusy_48 (by decide) ?_
              exact ih (i + 1) 0 x45 (by omega) (by omega) (by rw [e45, ex3]; exact nI_1 i) (by first | (rw [ex2] at c26; rw [busyF, if_neg c26]) | (rw [ex2] at c26; rw [busyF, if_pos c26]; first | rw [if_pos (by assumption)] | rw [if_neg (by assumption)])) ls (lv_sub hl [2, 3, 1, 0] rfl)
            · refine lv_iconst (v := 1) hx hb dX6_isBusy_39 (by decide) ?_
              refine lv_goto (tgt := 44) hx hb dX6_isBusy_40 (by decide) ?_
              refine lv_istore_n (lv' := [(2, .int 1), (0, .ref xm), (1, .int (nI gi)), (3, .int x3)]) hx hb dX6_isBusy_44 rfl hl (by decide) rfl (fun ls hl => ?_)
              obtain ⟨x45, e45⟩ : ∃ y : Int32, y = x3 + 1 := ⟨_, rfl⟩
              refine lv_iinc (v := x45) (lv' := [(3, .int x45), (2, .int 1), (0, .ref xm), (1, .int (nI gi))]) hx hb dX6_isBusy_45 hl (k := 3) rfl (by rw [e45]; rfl) (by decide) rfl (fun ls hl => ?_)
              refine lv_goto (tgt := 17) hx hb dX6_isBusy_48 (by decide) ?_
              exact ih (i + 1) 1 x45 (by omega) (by omega) (by rw [e45, ex3]; exact nI_1 i) (by first | (rw [ex2] at c26; rw [busyF, if_neg c26]) | (rw [ex2] at c26; rw [busyF, if_pos c26]; first | rw [if_pos (by assumption)] | rw [if_neg (by assumption)])) ls (lv_sub hl [2, 3, 1, 0] rfl)
    exact loop (nl + 1) 0 0 0 (Nat.zero_le _) (by omega) rfl (by unfold busyF; first | rw [if_pos (by assumption)] | rw [if_neg (by assumption)]) ls (lv_sub hl [2, 3, 1, 0] rfl)
  · refine lv_iconst (v := 1) hx hb dX6_isBusy_9 (by decide) ?_
    refine lv_goto (tgt := 14) hx hb dX6_isBusy_10 (by decide) ?_
    refine lv_istore_n (lv' := [(2, .int 1), (0, .ref xm), (1, .int (nI gi))]) hx hb dX6_isBusy_14 rfl hl (by decide) rfl (fun ls hl => ?_)
    refine lv_iconst (v := 0) hx hb dX6_isBusy_15 (by decide) ?_
    refine lv_istore_n (lv' := [(3, .int 0), (2, .int 1), (0, .ref xm), (1, .int (nI gi))]) hx hb dX6_isBusy_16 rfl hl (by decide) rfl (fun ls hl => ?_)
    have loop : ∀ (n i : Nat) (x2 x3 : Int32), i ≤ nl → nl + 1 ≤ i + n → x3 = nI i → x2 = busyF M gi i → ∀ ls : Array Slot, lv_has ls 4 [(0, .ref xm), (1, .int (nI gi)), (2, .int x2), (3, .int x3)] → W p l e ({ frames := 0, cells := 0, slots := 0, locals := 0 } : Room) s m args below meth c s.heap [] 0 0 (vx_MQ below (PQ κ (fun v L1 f1 => v = some (.int (busyF M gi nl)) ∧ L = L1 ∧ f = f1)) (PX κ L f noX) args s 0 0 (kA κ)) (F0 m 17 ls []) := by
      intro n
      induction n with
      | zero =>
        intro i x2 x3 h1 h2
        exact absurd h2 (by omega)
      | succ n ih =>
        intro i x2 x3 hi hin3 ex3 ex2 ls hl
        refine lv_iload_n hx hb dX6_isBusy_17 rfl (lv_at hl 3 rfl) ?_
        refine lv_aload_n hx hb dX6_isBusy_18 rfl (lv_at hl 0 rfl) ?_
        refine r_get S hh hz hin 16 (by decide) rfl rfl (by decide +kernel) dX6_isBusy_19 ?_
        refine lv_icmp_ge (tgt := 51) hx hb dX6_isBusy_22 (by decide) (fun c22 => ?_) (fun c22 => ?_)
        · have hie : i = nl := by
            rcases Nat.lt_or_ge i nl with q | q
            · exact absurd c22 (by rw [hn, ex3]; exact nI_ge q (by omega))
            · omega
          refine lv_iload_n hx hb dX6_isBusy_51 rfl (lv_at hl 2 rfl) ?_
          exact k_zret hx hb hr hlk (busy_nar ex2) hh dX6_isBusy_52 (Nat.le_of_ble_eq_true rfl) (Nat.le_of_ble_eq_true rfl) ⟨congrArg (fun r => some (Value.int r)) (by rw [ex2, hie]), rfl, rfl⟩
        · have hlt : i < nl := by
            rcases Nat.lt_or_ge i nl with q | q
            · exact q
            · exact absurd (by rw [hn, ex3]; exact nI_le q (by omega)) c22
          refine lv_iload_n hx hb dX6_isBusy_25 rfl (lv_at hl 2 rfl) ?_
          refine lv_if_ne (tgt := 39) hx hb dX6_isBusy_26 (by decide) (fun c26 => ?_) (fun c26 => ?_)
          · refine lv_iconst (v := 1) hx hb dX6_isBusy_39 (by decide) ?_
            refine lv_goto (tgt := 44) hx hb dX6_isBusy_40 (by decide) ?_
            refine lv_istore_n (lv' := [(2, .int 1), (0, .ref xm), (1, .int (nI gi)), (3, .int x3)]) hx hb dX6_isBusy_44 rfl hl (by decide) rfl (fun ls hl => ?_)
            obtain ⟨x45, e45⟩ : ∃ y : Int32, y = x3 + 1 := ⟨_, rfl⟩
            refine lv_iinc (v := x45) (lv' := [(3, .int x45), (2, .int 1), (0, .ref xm), (1, .int (nI gi))]) hx hb dX6_isBusy_45 hl (k := 3) rfl (by rw [e45]; rfl) (by decide) rfl (fun ls hl => ?_)
            refine lv_goto (tgt := 17) hx hb dX6_isBusy_48 (by decide) ?_
            exact ih (i + 1) 1 x45 (by omega) (by omega) (by rw [e45, ex3]; exact nI_1 i) (by first | (rw [ex2] at c26; rw [busyF, if_neg c26]) | (rw [ex2] at c26; rw [busyF, if_pos c26]; first | rw [if_pos (by assumption)] | rw [if_neg (by assumption)])) ls (lv_sub hl [2, 3, 1, 0] rfl)
          · refine lv_aload_n hx hb dX6_isBusy_29 rfl (lv_at hl 0 rfl) ?_
            refine r_get S hh hz hin 6 (by decide) rfl rfl (by decide +kernel) dX6_isBusy_30 ?_
            refine lv_iload_n hx hb dX6_isBusy_33 rfl (lv_at hl 3 rfl) ?_
            refine r_ald (k := 6) (i := i) S hh hz (by decide) ex3 (show i < 6 by omega) dX6_isBusy_34 ?_
            refine lv_iload_n hx hb dX6_isBusy_35 rfl (lv_at hl 1 rfl) ?_
            refine lv_icmp_ne (tgt := 43) hx hb dX6_isBusy_36 (by decide) (fun c36 => ?_) (fun c36 => ?_)
            · refine lv_iconst (v := 0) hx hb dX6_isBusy_43 (by decide) ?_
              refine lv_istore_n (lv' := [(2, .int 0), (0, .ref xm), (1, .int (nI gi)), (3, .int x3)]) hx hb dX6_isBusy_44 rfl hl (by decide) rfl (fun ls hl => ?_)
              obtain ⟨x45, e45⟩ : ∃ y : Int32, y = x3 + 1 := ⟨_, rfl⟩
              refine lv_iinc (v := x45) (lv' := [(3, .int x45), (2, .int 0), (0, .ref xm), (1, .int (nI gi))]) hx hb dX6_isBusy_45 hl (k := 3) rfl (by rw [e45]; rfl) (by decide) rfl (fun ls hl => ?_)
              refine lv_goto (tgt := 17) hx hb dX6_isBusy_48 (by decide) ?_
              exact ih (i + 1) 0 x45 (by omega) (by omega) (by rw [e45, ex3]; exact nI_1 i) (by first | (rw [ex2] at c26; rw [busyF, if_neg c26]) | (rw [ex2] at c26; rw [busyF, if_pos c26]; first | rw [if_pos (by assumption)] | rw [if_neg (by assumption)])) ls (lv_sub hl [2, 3, 1, 0] rfl)
            · refine lv_iconst (v := 1) hx hb dX6_isBusy_39 (by decide) ?_
              refine lv_goto (tgt := 44) hx hb dX6_isBusy_40 (by decide) ?_
              refine lv_istore_n (lv' := [(2, .int 1), (0, .ref xm), (1, .int (nI gi)), (3, .int x3)]) hx hb dX6_isBusy_44 rfl hl (by decide) rfl (fun ls hl => ?_)
              obtain ⟨x45, e45⟩ : ∃ y : Int32, y = x3 + 1 := ⟨_, rfl⟩
              refine lv_iinc (v := x45) (lv' := [(3, .int x45), (2, .int 1), (0, .ref xm), (1, .int (nI gi))]) hx hb dX6_isBusy_45 hl (k := 3) rfl (by rw [e45]; rfl) (by decide) rfl (fun ls hl => ?_)
              refine lv_goto (tgt := 17) hx hb dX6_isBusy_48 (by decide) ?_
              exact ih (i + 1) 1 x45 (by omega) (by omega) (by rw [e45, ex3]; exact nI_1 i) (by first | (rw [ex2] at c26; rw [busyF, if_neg c26]) | (rw [ex2] at c26; rw [busyF, if_pos c26]; first | rw [if_pos (by assumption)] | rw [if_neg (by assumption)])) ls (lv_sub hl [2, 3, 1, 0] rfl)
    exact loop (nl + 1) 0 1 0 (Nat.zero_le _) (by omega) rfl (by unfold busyF; first | rw [if_pos (by assumption)] | rw [if_neg (by assumption)]) ls (lv_sub hl [2, 3, 1, 0] rfl)

theorem c_isBusyY {y : Int32} {gi nl : Nat} (hy : y = nI gi) {l : Launch} {κ : Kx} {xm : Nat} {b : Nat → Nat} {M : MS} {L : List Nat} {f0 f : Nat → va_E} (hz : ZR κ xm b M L f0 f) (hg : gi < 6) (hn : M 16 0 = nI nl) (hnl : nl ≤ 6) : PM l κ yX6_isBusy wsX6_isBusy ({ frames := 0, cells := 0, slots := 0, locals := 0 } : Room) [.ref xm, .int y] L f (fun v L1 f1 => v = some (.int (busyF M gi nl)) ∧ L = L1 ∧ f = f1) noX 0 0 := by
  subst hy
  exact c_isBusy hz hg hn hnl

set_option maxRecDepth 100000 in
set_option maxHeartbeats 4000000 in
theorem c_order {l : Launch} {κ : Kx} {xm : Nat} {b : Nat → Nat} {M : MS} {L : List Nat} {f0 f : Nat → va_E} (hz : ZR κ xm b M L f0 f) {x y z : Int32} {nh nl ng ns : Nat} (hw : wfM M nh nl ng ns) : PM l κ yX6_order wsX6_order ({ frames := 1, cells := 0, slots := 0, locals := 23 } : Room) [.ref xm, .int x, .int y, .int z] L f (fun v L1 f1 => v = none ∧ L = L1 ∧ ZR κ xm b (orderF M nl x y z) L f f1) noX 0 0 := by
  refine PM.mk (cc := cX6_order) (maxL := 4) (ret := none) (by decide) rfl (Nat.le_of_ble_eq_true rfl) ?_
  intro p e s m args below meth c ls hx hb hml hr hlk hnm hown hts ht hh hl
  have hl : lv_has ls 4 [(0, .ref xm), (1, .int x), (2, .int y), (3, .int z)] := hl
  have S : CallFix p m c cX6_order 4 s args wsX6_order RX6 := ⟨hx, hb, hml, hown, hts⟩
  have hin : ∀ w ∈ wsX60, w ∈ wsX6_order := by decide +kernel
  have hz := hz.self
  obtain ⟨⟨n15, n16, n17, n18⟩, ⟨l15, l16, l17, l18⟩, hhome, hcrew⟩ := id hw
  refine lv_iload_n hx hb dX6_order_0 rfl (lv_at hl 1 rfl) ?_
  refine lv_aload_n hx hb dX6_order_1 rfl (lv_at hl 0 rfl) ?_
  refine r_get S hh hz hin 16 (by decide) rfl rfl (by decide +kernel) dX6_order_2 ?_
  refine k_callS0 (As := [.int x, .int (M 16 0)]) (c_is (x := x) (y := (M 16 0)) (L := L)) S hh (va_cwS 2 hts gX6_order_X6_is rfl rfl rfl (by decide +kernel) ⟨(Nat.le_of_ble_eq_true rfl), (Nat.le_of_ble_eq_true rfl)⟩) rfl hl.1 rfl (Nat.le_of_ble_eq_true rfl) dX6_order_5 ⟨(Nat.le_of_ble_eq_true rfl), (Nat.le_of_ble_eq_true rfl)⟩ (fun v L1 f1 H locs hp hh => ?_)
  obtain ⟨rfl, hL1, hf1⟩ := hp
  subst hL1; subst hf1
  refine lv_if_eq (tgt := 33) hx hb dX6_order_8 (by decide) (fun c8 => ?_) (fun c8 => ?_)
  · refine lv_aload_n hx hb dX6_order_33 rfl (lv_at hl 0 rfl) ?_
    refine lv_iconst (v := 1) hx hb dX6_order_34 (by decide) ?_
    refine r_put S hh hz hin 21 (by decide) rfl rfl rfl (by decide +kernel) dX6_order_35 (fun f9 H locs hh hz => ?_)
    exact k_vret hx hb hr hlk hh dX6_order_38 (Nat.le_of_ble_eq_true rfl) (Nat.le_of_ble_eq_true rfl) (by
  have hT : orderT M nl x y z = 1 := by (unfold orderT; (repeat' split); all_goals first | rfl | contradiction)
  exact ⟨rfl, rfl, hz.cast (by unfold orderF; rw [if_neg (by rw [hT]; decide)]; rw [hT]; try rfl)⟩)
  · obtain ⟨hx1, hx2⟩ := is_ix n16 (by omega) c8
    refine lv_iload_n hx hb dX6_order_11 rfl (lv_at hl 2 rfl) ?_
    refine lv_aload_n hx hb dX6_order_12 rfl (lv_at hl 0 rfl) ?_
    refine r_get S hh hz hin 17 (by decide) rfl rfl (by decide +kernel) dX6_order_13 ?_
    refine k_callS0 (As := [.int y, .int (M 17 0)]) (c_is (x := y) (y := (M 17 0)) (L := L)) S hh (va_cwS 2 hts gX6_order_X6_is rfl rfl rfl (by decide +kernel) ⟨(Nat.le_of_ble_eq_true rfl), (Nat.le_of_ble_eq_true rfl)⟩) rfl hl.1 rfl (Nat.le_of_ble_eq_true rfl) dX6_order_16 ⟨(Nat.le_of_ble_eq_true rfl), (Nat.le_of_ble_eq_true rfl)⟩ (fun v L1 f1 H locs hp hh => ?_)
    obtain ⟨rfl, hL1, hf1⟩ := hp
    subst hL1; subst hf1
    refine lv_if_eq (tgt := 33) hx hb dX6_order_19 (by decide) (fun c19 => ?_) (fun c19 => ?_)
    · refine lv_aload_n hx hb dX6_order_33 rfl (lv_at hl 0 rfl) ?_
      refine lv_iconst (v := 1) hx hb dX6_order_34 (by decide) ?_
      refine r_put S hh hz hin 21 (by decide) rfl rfl rfl (by decide +kernel) dX6_order_35 (fun f9 H locs hh hz => ?_)
      exact k_vret hx hb hr hlk hh dX6_order_38 (Nat.le_of_ble_eq_true rfl) (Nat.le_of_ble_eq_true rfl) (by
  have hT : orderT M nl x y z = 1 := by (unfold orderT; (repeat' split); all_goals first | rfl | contradiction)
  exact ⟨rfl, rfl, hz.cast (by unfold orderF; rw [if_neg (by rw [hT]; decide)]; rw [hT]; try rfl)⟩)
    · obtain ⟨hy1, hy2⟩ := is_ix n17 (by omega) c19
      refine lv_iload_n hx hb dX6_order_22 rfl (lv_at hl 3 rfl) ?_
      refine lv_aload_n hx hb dX6_order_23 rfl (lv_at hl 0 rfl) ?_
      refine r_get S hh hz hin 18 (by decide) rfl rfl (by decide +kernel) dX6_order_24 ?_
      refine k_callS0 (As := [.int z, .int (M 18 0)]) (c_is (x := z) (y := (M 18 0)) (L := L)) S hh (va_cwS 2 hts gX6_order_X6_is rfl rfl rfl (by decide +kernel) ⟨(Nat.le_of_ble_eq_true rfl), (Nat.le_of_ble_eq_true rfl)⟩) rfl hl.1 rfl (Nat.le_of_ble_eq_true rfl) dX6_order_27 ⟨(Nat.le_of_ble_eq_true rfl), (Nat.le_of_ble_eq_true rfl)⟩ (fun v L1 f1 H locs hp hh => ?_)
      obtain ⟨rfl, hL1, hf1⟩ := hp
      subst hL1; subst hf1
      refine lv_if_ne (tgt := 39) hx hb dX6_order_30 (by decide) (fun c30 => ?_) (fun c30 => ?_)
      · obtain ⟨hz1, hz2⟩ := is_ix n18 (by omega) c30
        refine lv_aload_n hx hb dX6_order_39 rfl (lv_at hl 0 rfl) ?_
        refine lv_aload_n hx hb dX6_order_40 rfl (lv_at hl 0 rfl) ?_
        refine r_get S hh hz hin 6 (by decide) rfl rfl (by decide +kernel) dX6_order_41 ?_
        refine lv_iload_n hx hb dX6_order_44 rfl (lv_at hl 1 rfl) ?_
        refine r_ald (k := 6) (i := (nT x)) S hh hz (by decide) hx1 (show nT x < 6 by omega) dX6_order_45 ?_
        refine lv_iconst (v := (-1)) hx hb dX6_order_46 (by decide) ?_
        refine lv_icmp_ne (tgt := 68) hx hb dX6_order_47 (by decide) (fun c47 => ?_) (fun c47 => ?_)
        · refine lv_iconst (v := 2) hx hb dX6_order_68 (by decide) ?_
          refine lv_goto (tgt := 73) hx hb dX6_order_69 (by decide) ?_
          refine r_put S hh hz hin 21 (by decide) rfl rfl rfl (by decide +kernel) dX6_order_73 (fun f9 H locs hh hz => ?_)
          refine lv_aload_n hx hb dX6_order_76 rfl (lv_at hl 0 rfl) ?_
          refine r_get S hh hz hin 21 (by decide) rfl rfl (by decide +kernel) dX6_order_77 ?_
          refine lv_if_ne (tgt := 97) hx hb dX6_order_80 (by decide) (fun _ => ?_) (fun c => absurd (show (2 : Int32) = (0 : Int32) from c) (by decide))
          exact k_vret hx hb hr hlk hh dX6_order_97 (Nat.le_of_ble_eq_true rfl) (Nat.le_of_ble_eq_true rfl) (by
  have hT : orderT M nl x y z = 2 := by (unfold orderT; (repeat' split); all_goals first | rfl | contradiction)
  exact ⟨rfl, rfl, hz.cast (by unfold orderF; rw [if_neg (by rw [hT]; decide)]; rw [hT]; try rfl)⟩)
        · refine lv_aload_n hx hb dX6_order_50 rfl (lv_at hl 0 rfl) ?_
          refine lv_iload_n hx hb dX6_order_51 rfl (lv_at hl 2 rfl) ?_
          refine k_callV0 (As := [.int y]) (c_isBusyY hy1 hz (nl := nl) (show nT y < 6 by omega) n16 l16) S hh (cwV 1 hts gX6_order_X6_isBusy rfl rfl rfl (by decide +kernel) ⟨(Nat.le_of_ble_eq_true rfl), (Nat.le_of_ble_eq_true rfl)⟩) hz.1.1 hz.1.2 (q := (RX6, TX6, 22)) rfl rfl rfl hl.1 rfl (Nat.le_of_ble_eq_true rfl) dX6_order_52 ⟨(Nat.le_of_ble_eq_true rfl), (Nat.le_of_ble_eq_true rfl)⟩ (fun v L1 f1 H locs hp hh => ?_)
          obtain ⟨rfl, hL1, hf1⟩ := hp
          subst hL1; subst hf1
          refine lv_if_ne (tgt := 68) hx hb dX6_order_55 (by decide) (fun c55 => ?_) (fun c55 => ?_)
          · refine lv_iconst (v := 2) hx hb dX6_order_68 (by decide) ?_
            refine lv_goto (tgt := 73) hx hb dX6_order_69 (by decide) ?_
            refine r_put S hh hz hin 21 (by decide) rfl rfl rfl (by decide +kernel) dX6_order_73 (fun f9 H locs hh hz => ?_)
            refine lv_aload_n hx hb dX6_order_76 rfl (lv_at hl 0 rfl) ?_
            refine r_get S hh hz hin 21 (by decide) rfl rfl (by decide +kernel) dX6_order_77 ?_
            refine lv_if_ne (tgt := 97) hx hb dX6_order_80 (by decide) (fun _ => ?_) (fun c => absurd (show (2 : Int32) = (0 : Int32) from c) (by decide))
            exact k_vret hx hb hr hlk hh dX6_order_97 (Nat.le_of_ble_eq_true rfl) (Nat.le_of_ble_eq_true rfl) (by
  have hT : orderT M nl x y z = 2 := by (unfold orderT; (repeat' split); all_goals first | rfl | contradiction)
  exact ⟨rfl, rfl, hz.cast (by unfold orderF; rw [if_neg (by rw [hT]; decide)]; rw [hT]; try rfl)⟩)
          · refine lv_aload_n hx hb dX6_order_58 rfl (lv_at hl 0 rfl) ?_
            refine r_get S hh hz hin 14 (by decide) rfl rfl (by decide +kernel) dX6_order_59 ?_
            refine lv_iload_n hx hb dX6_order_62 rfl (lv_at hl 3 rfl) ?_
            refine r_ald (k := 14) (i := (nT z)) S hh hz (by decide) hz1 (show nT z < 600 by omega) dX6_order_63 ?_
            refine lv_iconst (v := 1) hx hb dX6_order_64 (by decide) ?_
            refine lv_icmp_le (tgt := 72) hx hb dX6_order_65 (by decide) (fun c65 => ?_) (fun c65 => ?_)
            · refine lv_iconst (v := 0) hx hb dX6_order_72 (by decide) ?_
              refine r_put S hh hz hin 21 (by decide) rfl rfl rfl (by decide +kernel) dX6_order_73 (fun f9 H locs hh hz => ?_)
              refine lv_aload_n hx hb dX6_order_76 rfl (lv_at hl 0 rfl) ?_
              refine r_get S hh hz hin 21 (by decide) rfl rfl (by decide +kernel) dX6_order_77 ?_
              refine lv_if_ne (tgt := 97) hx hb dX6_order_80 (by decide) (fun c => absurd (show ¬ (0 : Int32) = (0 : Int32) from c) (by decide)) (fun _ => ?_)
              refine lv_aload_n hx hb dX6_order_83 rfl (lv_at hl 0 rfl) ?_
              refine r_get S hh hz hin 6 (by decide) rfl rfl (by decide +kernel) dX6_order_84 ?_
              refine lv_iload_n hx hb dX6_order_87 rfl (lv_at hl 1 rfl) ?_
              refine lv_iload_n hx hb dX6_order_88 rfl (lv_at hl 2 rfl) ?_
              refine r_ast (k := 6) (i := (nT x)) S hh hz (by decide) hx1 (show nT x < 6 by omega) dX6_order_89 (fun f9 H locs hh hz => ?_)
              refine lv_aload_n hx hb dX6_order_90 rfl (lv_at hl 0 rfl) ?_
              refine r_get S hh hz hin 7 (by decide) rfl rfl (by decide +kernel) dX6_order_91 ?_
              refine lv_iload_n hx hb dX6_order_94 rfl (lv_at hl 1 rfl) ?_
              refine lv_iload_n hx hb dX6_order_95 rfl (lv_at hl 3 rfl) ?_
              refine r_ast (k := 7) (i := (nT x)) S hh hz (by decide) hx1 (show nT x < 6 by omega) dX6_order_96 (fun f9 H locs hh hz => ?_)
              exact k_vret hx hb hr hlk hh dX6_order_97 (Nat.le_of_ble_eq_true rfl) (Nat.le_of_ble_eq_true rfl) (by
  have hT : orderT M nl x y z = 0 := by (unfold orderT; (repeat' split); all_goals first | rfl | contradiction)
  exact ⟨rfl, rfl, hz.cast (by unfold orderF; rw [if_pos hT]; try rfl)⟩)
            · refine lv_iconst (v := 2) hx hb dX6_order_68 (by decide) ?_
              refine lv_goto (tgt := 73) hx hb dX6_order_69 (by decide) ?_
              refine r_put S hh hz hin 21 (by decide) rfl rfl rfl (by decide +kernel) dX6_order_73 (fun f9 H locs hh hz => ?_)
              refine lv_aload_n hx hb dX6_order_76 rfl (lv_at hl 0 rfl) ?_
              refine r_get S hh hz hin 21 (by decide) rfl rfl (by decide +kernel) dX6_order_77 ?_
              refine lv_if_ne (tgt := 97) hx hb dX6_order_80 (by decide) (fun _ => ?_) (fun c => absurd (show (2 : Int32) = (0 : Int32) from c) (by decide))
              exact k_vret hx hb hr hlk hh dX6_order_97 (Nat.le_of_ble_eq_true rfl) (Nat.le_of_ble_eq_true rfl) (by
  have hT : orderT M nl x y z = 2 := by (unfold orderT; (repeat' split); all_goals first | rfl | contradiction)
  exact ⟨rfl, rfl, hz.cast (by unfold orderF; rw [if_neg (by rw [hT]; decide)]; rw [hT]; try rfl)⟩)
      · refine lv_aload_n hx hb dX6_order_33 rfl (lv_at hl 0 rfl) ?_
        refine lv_iconst (v := 1) hx hb dX6_order_34 (by decide) ?_
        refine r_put S hh hz hin 21 (by decide) rfl rfl rfl (by decide +kernel) dX6_order_35 (fun f9 H locs hh hz => ?_)
        exact k_vret hx hb hr hlk hh dX6_order_38 (Nat.le_of_ble_eq_true rfl) (Nat.le_of_ble_eq_true rfl) (by
  have hT : orderT M nl x y z = 1 := by (unfold orderT; (repeat' split); all_goals first | rfl | contradiction)
  exact ⟨rfl, rfl, hz.cast (by unfold orderF; rw [if_neg (by rw [hT]; decide)]; rw [hT]; try rfl)⟩)

set_option maxRecDepth 100000 in
set_option maxHeartbeats 4000000 in
theorem c_shift {l : Launch} {κ : Kx} {xm : Nat} {b : Nat → Nat} {M : MS} {L : List Nat} {f0 f : Nat → va_E} (hz : ZR κ xm b M L f0 f) {x y z : Int32} {nh nl ng ns : Nat} (hw : wfM M nh nl ng ns) : PM l κ yX6_shift wsX6_shift ({ frames := 1, cells := 0, slots := 0, locals := 21 } : Room) [.ref xm, .int x, .int y] L f (fun v L1 f1 => v = none ∧ L = L1 ∧ ZR κ xm b (shiftF M x y) L f f1) noX 0 0 := by
  refine PM.mk (cc := cX6_shift) (maxL := 3) (ret := none) (by decide) rfl (Nat.le_of_ble_eq_true rfl) ?_
  intro p e s m args below meth c ls hx hb hml hr hlk hnm hown hts ht hh hl
  have hl : lv_has ls 3 [(0, .ref xm), (1, .int x), (2, .int y)] := hl
  have S : CallFix p m c cX6_shift 3 s args wsX6_shift RX6 := ⟨hx, hb, hml, hown, hts⟩
  have hin : ∀ w ∈ wsX60, w ∈ wsX6_shift := by decide +kernel
  have hz := hz.self
  obtain ⟨⟨n15, n16, n17, n18⟩, ⟨l15, l16, l17, l18⟩, hhome, hcrew⟩ := id hw
  refine lv_aload_n hx hb dX6_shift_0 rfl (lv_at hl 0 rfl) ?_
  refine lv_iload_n hx hb dX6_shift_1 rfl (lv_at hl 1 rfl) ?_
  refine lv_aload_n hx hb dX6_shift_2 rfl (lv_at hl 0 rfl) ?_
  refine r_get S hh hz hin 16 (by decide) rfl rfl (by decide +kernel) dX6_shift_3 ?_
  refine k_callS0 (As := [.int x, .int (M 16 0)]) (c_is (x := x) (y := (M 16 0)) (L := L)) S hh (va_cwS 2 hts gX6_shift_X6_is rfl rfl rfl (by decide +kernel) ⟨(Nat.le_of_ble_eq_true rfl), (Nat.le_of_ble_eq_true rfl)⟩) rfl hl.1 rfl (Nat.le_of_ble_eq_true rfl) dX6_shift_6 ⟨(Nat.le_of_ble_eq_true rfl), (Nat.le_of_ble_eq_true rfl)⟩ (fun v L1 f1 H locs hp hh => ?_)
  obtain ⟨rfl, hL1, hf1⟩ := hp
  subst hL1; subst hf1
  refine lv_if_eq (tgt := 23) hx hb dX6_shift_9 (by decide) (fun c9 => ?_) (fun c9 => ?_)
  · refine lv_iconst (v := 1) hx hb dX6_shift_23 (by decide) ?_
    refine lv_goto (tgt := 42) hx hb dX6_shift_24 (by decide) ?_
    refine r_put S hh hz hin 21 (by decide) rfl rfl rfl (by decide +kernel) dX6_shift_42 (fun f9 H locs hh hz => ?_)
    refine lv_aload_n hx hb dX6_shift_45 rfl (lv_at hl 0 rfl) ?_
    refine r_get S hh hz hin 21 (by decide) rfl rfl (by decide +kernel) dX6_shift_46 ?_
    refine lv_if_ne (tgt := 59) hx hb dX6_shift_49 (by decide) (fun _ => ?_) (fun c => absurd (show (1 : Int32) = (0 : Int32) from c) (by decide))
    exact k_vret hx hb hr hlk hh dX6_shift_59 (Nat.le_of_ble_eq_true rfl) (Nat.le_of_ble_eq_true rfl) (by
  have hT : shiftT M x y = 1 := by (unfold shiftT; (repeat' split); all_goals first | rfl | contradiction)
  exact ⟨rfl, rfl, hz.cast (by unfold shiftF; rw [if_neg (by rw [hT]; decide)]; rw [hT]; try rfl)⟩)
  · obtain ⟨hx1, hx2⟩ := is_ix n16 (by omega) c9
    refine lv_iload_n hx hb dX6_shift_12 rfl (lv_at hl 2 rfl) ?_
    refine lv_aload_n hx hb dX6_shift_13 rfl (lv_at hl 0 rfl) ?_
    refine r_get S hh hz hin 15 (by decide) rfl rfl (by decide +kernel) dX6_shift_14 ?_
    refine k_callS0 (As := [.int y, .int (M 15 0)]) (c_is (x := y) (y := (M 15 0)) (L := L)) S hh (va_cwS 2 hts gX6_shift_X6_is rfl rfl rfl (by decide +kernel) ⟨(Nat.le_of_ble_eq_true rfl), (Nat.le_of_ble_eq_true rfl)⟩) rfl hl.1 rfl (Nat.le_of_ble_eq_true rfl) dX6_shift_17 ⟨(Nat.le_of_ble_eq_true rfl), (Nat.le_of_ble_eq_true rfl)⟩ (fun v L1 f1 H locs hp hh => ?_)
    obtain ⟨rfl, hL1, hf1⟩ := hp
    subst hL1; subst hf1
    refine lv_if_ne (tgt := 27) hx hb dX6_shift_20 (by decide) (fun c20 => ?_) (fun c20 => ?_)
    · obtain ⟨hy1, hy2⟩ := is_ix n15 (by omega) c20
      refine lv_aload_n hx hb dX6_shift_27 rfl (lv_at hl 0 rfl) ?_
      refine r_get S hh hz hin 6 (by decide) rfl rfl (by decide +kernel) dX6_shift_28 ?_
      refine lv_iload_n hx hb dX6_shift_31 rfl (lv_at hl 1 rfl) ?_
      refine r_ald (k := 6) (i := (nT x)) S hh hz (by decide) hx1 (show nT x < 6 by omega) dX6_shift_32 ?_
      refine lv_iconst (v := (-1)) hx hb dX6_shift_33 (by decide) ?_
      refine lv_icmp_eq (tgt := 41) hx hb dX6_shift_34 (by decide) (fun c34 => ?_) (fun c34 => ?_)
      · refine lv_iconst (v := 0) hx hb dX6_shift_41 (by decide) ?_
        refine r_put S hh hz hin 21 (by decide) rfl rfl rfl (by decide +kernel) dX6_shift_42 (fun f9 H locs hh hz => ?_)
        refine lv_aload_n hx hb dX6_shift_45 rfl (lv_at hl 0 rfl) ?_
        refine r_get S hh hz hin 21 (by decide) rfl rfl (by decide +kernel) dX6_shift_46 ?_
        refine lv_if_ne (tgt := 59) hx hb dX6_shift_49 (by decide) (fun c => absurd (show ¬ (0 : Int32) = (0 : Int32) from c) (by decide)) (fun _ => ?_)
        refine lv_aload_n hx hb dX6_shift_52 rfl (lv_at hl 0 rfl) ?_
        refine r_get S hh hz hin 5 (by decide) rfl rfl (by decide +kernel) dX6_shift_53 ?_
        refine lv_iload_n hx hb dX6_shift_56 rfl (lv_at hl 1 rfl) ?_
        refine lv_iload_n hx hb dX6_shift_57 rfl (lv_at hl 2 rfl) ?_
        refine r_ast (k := 5) (i := (nT x)) S hh hz (by decide) hx1 (show nT x < 6 by omega) dX6_shift_58 (fun f9 H locs hh hz => ?_)
        exact k_vret hx hb hr hlk hh dX6_shift_59 (Nat.le_of_ble_eq_true rfl) (Nat.le_of_ble_eq_true rfl) (by
  have hT : shiftT M x y = 0 := by (unfold shiftT; (repeat' split); all_goals first | rfl | contradiction)
  exact ⟨rfl, rfl, hz.cast (by unfold shiftF; rw [if_pos hT]; try rfl)⟩)
      · refine lv_iconst (v := 2) hx hb dX6_shift_37 (by decide) ?_
        refine lv_goto (tgt := 42) hx hb dX6_shift_38 (by decide) ?_
        refine r_put S hh hz hin 21 (by decide) rfl rfl rfl (by decide +kernel) dX6_shift_42 (fun f9 H locs hh hz => ?_)
        refine lv_aload_n hx hb dX6_shift_45 rfl (lv_at hl 0 rfl) ?_
        refine r_get S hh hz hin 21 (by decide) rfl rfl (by decide +kernel) dX6_shift_46 ?_
        refine lv_if_ne (tgt := 59) hx hb dX6_shift_49 (by decide) (fun _ => ?_) (fun c => absurd (show (2 : Int32) = (0 : Int32) from c) (by decide))
        exact k_vret hx hb hr hlk hh dX6_shift_59 (Nat.le_of_ble_eq_true rfl) (Nat.le_of_ble_eq_true rfl) (by
  have hT : shiftT M x y = 2 := by (unfold shiftT; (repeat' split); all_goals first | rfl | contradiction)
  exact ⟨rfl, rfl, hz.cast (by unfold shiftF; rw [if_neg (by rw [hT]; decide)]; rw [hT]; try rfl)⟩)
    · refine lv_iconst (v := 1) hx hb dX6_shift_23 (by decide) ?_
      refine lv_goto (tgt := 42) hx hb dX6_shift_24 (by decide) ?_
      refine r_put S hh hz hin 21 (by decide) rfl rfl rfl (by decide +kernel) dX6_shift_42 (fun f9 H locs hh hz => ?_)
      refine lv_aload_n hx hb dX6_shift_45 rfl (lv_at hl 0 rfl) ?_
      refine r_get S hh hz hin 21 (by decide) rfl rfl (by decide +kernel) dX6_shift_46 ?_
      refine lv_if_ne (tgt := 59) hx hb dX6_shift_49 (by decide) (fun _ => ?_) (fun c => absurd (show (1 : Int32) = (0 : Int32) from c) (by decide))
      exact k_vret hx hb hr hlk hh dX6_shift_59 (Nat.le_of_ble_eq_true rfl) (Nat.le_of_ble_eq_true rfl) (by
  have hT : shiftT M x y = 1 := by (unfold shiftT; (repeat' split); all_goals first | rfl | contradiction)
  exact ⟨rfl, rfl, hz.cast (by unfold shiftF; rw [if_neg (by rw [hT]; decide)]; rw [hT]; try rfl)⟩)

set_option maxRecDepth 100000 in
set_option maxHeartbeats 4000000 in
theorem c_sweep {l : Launch} {κ : Kx} {xm : Nat} {b : Nat → Nat} {M : MS} {L : List Nat} {f0 f : Nat → va_E} (hz : ZR κ xm b M L f0 f) {x y z : Int32} {nh nl ng ns : Nat} (hw : wfM M nh nl ng ns) : PM l κ yX6_sweep wsX6_sweep ({ frames := 1, cells := 0, slots := 0, locals := 23 } : Room) [.ref xm, .int x, .int y] L f (fun v L1 f1 => v = some (.int (if sweepT M nl x y = 0 then M 3 (nT x) else 0)) ∧ L = L1 ∧ ZR κ xm b (sweepF M nl x y) L f f1) noX 0 0 := by
  refine PM.mk (cc := cX6_sweep) (maxL := 4) (ret := (some .int)) (by decide) rfl (Nat.le_of_ble_eq_true rfl) ?_
  intro p e s m args below meth c ls hx hb hml hr hlk hnm hown hts ht hh hl
  have hl : lv_has ls 4 [(0, .ref xm), (1, .int x), (2, .int y)] := hl
  have S : CallFix p m c cX6_sweep 4 s args wsX6_sweep RX6 := ⟨hx, hb, hml, hown, hts⟩
  have hin : ∀ w ∈ wsX60, w ∈ wsX6_sweep := by decide +kernel
  have hz := hz.self
  obtain ⟨⟨n15, n16, n17, n18⟩, ⟨l15, l16, l17, l18⟩, hhome, hcrew⟩ := id hw
  refine lv_iload_n hx hb dX6_sweep_0 rfl (lv_at hl 1 rfl) ?_
  refine lv_aload_n hx hb dX6_sweep_1 rfl (lv_at hl 0 rfl) ?_
  refine r_get S hh hz hin 16 (by decide) rfl rfl (by decide +kernel) dX6_sweep_2 ?_
  refine k_callS0 (As := [.int x, .int (M 16 0)]) (c_is (x := x) (y := (M 16 0)) (L := L)) S hh (va_cwS 2 hts gX6_sweep_X6_is rfl rfl rfl (by decide +kernel) ⟨(Nat.le_of_ble_eq_true rfl), (Nat.le_of_ble_eq_true rfl)⟩) rfl hl.1 rfl (Nat.le_of_ble_eq_true rfl) dX6_sweep_5 ⟨(Nat.le_of_ble_eq_true rfl), (Nat.le_of_ble_eq_true rfl)⟩ (fun v L1 f1 H locs hp hh => ?_)
  obtain ⟨rfl, hL1, hf1⟩ := hp
  subst hL1; subst hf1
  refine lv_if_eq (tgt := 22) hx hb dX6_sweep_8 (by decide) (fun c8 => ?_) (fun c8 => ?_)
  · refine lv_aload_n hx hb dX6_sweep_22 rfl (lv_at hl 0 rfl) ?_
    refine lv_iconst (v := 1) hx hb dX6_sweep_23 (by decide) ?_
    refine r_put S hh hz hin 21 (by decide) rfl rfl rfl (by decide +kernel) dX6_sweep_24 (fun f9 H locs hh hz => ?_)
    refine lv_iconst (v := 0) hx hb dX6_sweep_27 (by decide) ?_
    exact k_iret hx hb hr hlk hh dX6_sweep_28 (Nat.le_of_ble_eq_true rfl) (Nat.le_of_ble_eq_true rfl) (by
  have hT : sweepT M nl x y = 1 := by (unfold sweepT; (repeat' split); all_goals first | rfl | contradiction)
  exact ⟨congrArg (fun r => some (Value.int r)) (by rw [if_neg (by rw [hT]; decide)]; try rfl), rfl, hz.cast (by unfold sweepF; rw [if_neg (by rw [hT]; decide)]; rw [hT]; try rfl)⟩)
  · obtain ⟨hx1, hx2⟩ := is_ix n16 (by omega) c8
    refine lv_iload_n hx hb dX6_sweep_11 rfl (lv_at hl 2 rfl) ?_
    refine lv_aload_n hx hb dX6_sweep_12 rfl (lv_at hl 0 rfl) ?_
    refine r_get S hh hz hin 17 (by decide) rfl rfl (by decide +kernel) dX6_sweep_13 ?_
    refine k_callS0 (As := [.int y, .int (M 17 0)]) (c_is (x := y) (y := (M 17 0)) (L := L)) S hh (va_cwS 2 hts gX6_sweep_X6_is rfl rfl rfl (by decide +kernel) ⟨(Nat.le_of_ble_eq_true rfl), (Nat.le_of_ble_eq_true rfl)⟩) rfl hl.1 rfl (Nat.le_of_ble_eq_true rfl) dX6_sweep_16 ⟨(Nat.le_of_ble_eq_true rfl), (Nat.le_of_ble_eq_true rfl)⟩ (fun v L1 f1 H locs hp hh => ?_)
    obtain ⟨rfl, hL1, hf1⟩ := hp
    subst hL1; subst hf1
    refine lv_if_ne (tgt := 29) hx hb dX6_sweep_19 (by decide) (fun c19 => ?_) (fun c19 => ?_)
    · obtain ⟨hy1, hy2⟩ := is_ix n17 (by omega) c19
      refine lv_aload_n hx hb dX6_sweep_29 rfl (lv_at hl 0 rfl) ?_
      refine lv_aload_n hx hb dX6_sweep_30 rfl (lv_at hl 0 rfl) ?_
      refine r_get S hh hz hin 6 (by decide) rfl rfl (by decide +kernel) dX6_sweep_31 ?_
      refine lv_iload_n hx hb dX6_sweep_34 rfl (lv_at hl 1 rfl) ?_
      refine r_ald (k := 6) (i := (nT x)) S hh hz (by decide) hx1 (show nT x < 6 by omega) dX6_sweep_35 ?_
      refine lv_iconst (v := (-1)) hx hb dX6_sweep_36 (by decide) ?_
      refine lv_icmp_ne (tgt := 48) hx hb dX6_sweep_37 (by decide) (fun c37 => ?_) (fun c37 => ?_)
      · refine lv_iconst (v := 2) hx hb dX6_sweep_48 (by decide) ?_
        refine lv_goto (tgt := 53) hx hb dX6_sweep_49 (by decide) ?_
        refine r_put S hh hz hin 21 (by decide) rfl rfl rfl (by decide +kernel) dX6_sweep_53 (fun f9 H locs hh hz => ?_)
        refine lv_aload_n hx hb dX6_sweep_56 rfl (lv_at hl 0 rfl) ?_
        refine r_get S hh hz hin 21 (by decide) rfl rfl (by decide +kernel) dX6_sweep_57 ?_
        refine lv_if_eq (tgt := 65) hx hb dX6_sweep_60 (by decide) (fun c => absurd (show (2 : Int32) = (0 : Int32) from c) (by decide)) (fun _ => ?_)
        refine lv_iconst (v := 0) hx hb dX6_sweep_63 (by decide) ?_
        exact k_iret hx hb hr hlk hh dX6_sweep_64 (Nat.le_of_ble_eq_true rfl) (Nat.le_of_ble_eq_true rfl) (by
  have hT : sweepT M nl x y = 2 := by (unfold sweepT; (repeat' split); all_goals first | rfl | contradiction)
  exact ⟨congrArg (fun r => some (Value.int r)) (by rw [if_neg (by rw [hT]; decide)]; try rfl), rfl, hz.cast (by unfold sweepF; rw [if_neg (by rw [hT]; decide)]; rw [hT]; try rfl)⟩)
      · refine lv_aload_n hx hb dX6_sweep_40 rfl (lv_at hl 0 rfl) ?_
        refine lv_iload_n hx hb dX6_sweep_41 rfl (lv_at hl 2 rfl) ?_
        refine k_callV0 (As := [.int y]) (c_isBusyY hy1 hz (nl := nl) (show nT y < 6 by omega) n16 l16) S hh (cwV 1 hts gX6_sweep_X6_isBusy rfl rfl rfl (by decide +kernel) ⟨(Nat.le_of_ble_eq_true rfl), (Nat.le_of_ble_eq_true rfl)⟩) hz.1.1 hz.1.2 (q := (RX6, TX6, 22)) rfl rfl rfl hl.1 rfl (Nat.le_of_ble_eq_true rfl) dX6_sweep_42 ⟨(Nat.le_of_ble_eq_true rfl), (Nat.le_of_ble_eq_true rfl)⟩ (fun v L1 f1 H locs hp hh => ?_)
        obtain ⟨rfl, hL1, hf1⟩ := hp
        subst hL1; subst hf1
        refine lv_if_eq (tgt := 52) hx hb dX6_sweep_45 (by decide) (fun c45 => ?_) (fun c45 => ?_)
        · refine lv_iconst (v := 0) hx hb dX6_sweep_52 (by decide) ?_
          refine r_put S hh hz hin 21 (by decide) rfl rfl rfl (by decide +kernel) dX6_sweep_53 (fun f9 H locs hh hz => ?_)
          refine lv_aload_n hx hb dX6_sweep_56 rfl (lv_at hl 0 rfl) ?_
          refine r_get S hh hz hin 21 (by decide) rfl rfl (by decide +kernel) dX6_sweep_57 ?_
          refine lv_if_eq (tgt := 65) hx hb dX6_sweep_60 (by decide) (fun _ => ?_) (fun c => absurd (show ¬ (0 : Int32) = (0 : Int32) from c) (by decide))
          refine lv_aload_n hx hb dX6_sweep_65 rfl (lv_at hl 0 rfl) ?_
          refine r_get S hh hz hin 3 (by decide) rfl rfl (by decide +kernel) dX6_sweep_66 ?_
          refine lv_iload_n hx hb dX6_sweep_69 rfl (lv_at hl 1 rfl) ?_
          refine r_ald (k := 3) (i := (nT x)) S hh hz (by decide) hx1 (show nT x < 6 by omega) dX6_sweep_70 ?_
          refine lv_topi (fun x71 e71 => ?_)
          refine lv_istore_n (lv' := [(3, .int x71), (0, .ref xm), (1, .int x), (2, .int y)]) hx hb dX6_sweep_71 rfl hl (by decide) rfl (fun ls hl => ?_)
          refine lv_aload_n hx hb dX6_sweep_72 rfl (lv_at hl 1 rfl) ?_
          refine r_get S hh hz hin 0 (by decide) rfl rfl (by decide +kernel) dX6_sweep_73 ?_
          refine lv_aload_n hx hb dX6_sweep_76 rfl (lv_at hl 1 rfl) ?_
          refine r_get S hh hz hin 5 (by decide) rfl rfl (by decide +kernel) dX6_sweep_77 ?_
          refine lv_iload_n hx hb dX6_sweep_80 rfl (lv_at hl 2 rfl) ?_
          refine r_ald (k := 5) (i := (nT x)) S hh hz (by decide) hx1 (show nT x < 6 by omega) dX6_sweep_81 ?_
          refine lv_dup2_11 hx hb dX6_sweep_82 rfl rfl ?_
          refine r_ald (k := 0) (i := (nT (M 5 (nT x)))) S hh hz (by decide) (hhome _).1 (hhome _).2 dX6_sweep_83 ?_
          refine lv_iload_n hx hb dX6_sweep_84 rfl (lv_at hl 0 rfl) ?_
          refine lv_iadd hx hb dX6_sweep_85 ?_
          refine r_ast (k := 0) (i := (nT (M 5 (nT x)))) S hh hz (by decide) (hhome _).1 (hhome _).2 dX6_sweep_86 (fun f9 H locs hh hz => ?_)
          refine lv_aload_n hx hb dX6_sweep_87 rfl (lv_at hl 1 rfl) ?_
          refine r_get S hh hz hin 3 (by decide) rfl rfl (by decide +kernel) dX6_sweep_88 ?_
          refine lv_iload_n hx hb dX6_sweep_91 rfl (lv_at hl 2 rfl) ?_
          refine lv_iconst (v := 0) hx hb dX6_sweep_92 (by decide) ?_
          refine r_ast (k := 3) (i := (nT x)) S hh hz (by decide) hx1 (show nT x < 6 by omega) dX6_sweep_93 (fun f9 H locs hh hz => ?_)
          refine lv_aload_n hx hb dX6_sweep_94 rfl (lv_at hl 1 rfl) ?_
          refine r_get S hh hz hin 11 (by decide) rfl rfl (by decide +kernel) dX6_sweep_95 ?_
          refine lv_iload_n hx hb dX6_sweep_98 rfl (lv_at hl 3 rfl) ?_
          refine lv_bipush (v := 8) hx hb dX6_sweep_99 (by decide) ?_
          refine r_ast (k := 11) (i := (nT y)) S hh hz (by decide) hy1 (show nT y < 6 by omega) dX6_sweep_101 (fun f9 H locs hh hz => ?_)
          refine lv_aload_n hx hb dX6_sweep_102 rfl (lv_at hl 1 rfl) ?_
          refine r_get S hh hz hin 10 (by decide) rfl rfl (by decide +kernel) dX6_sweep_103 ?_
          refine lv_iload_n hx hb dX6_sweep_106 rfl (lv_at hl 3 rfl) ?_
          refine lv_iconst (v := 0) hx hb dX6_sweep_107 (by decide) ?_
          refine r_ast (k := 10) (i := (nT y)) S hh hz (by decide) hy1 (show nT y < 6 by omega) dX6_sweep_108 (fun f9 H locs hh hz => ?_)
          refine lv_iload_n hx hb dX6_sweep_109 rfl (lv_at hl 0 rfl) ?_
          subst e71
          exact k_iret hx hb hr hlk hh dX6_sweep_110 (Nat.le_of_ble_eq_true rfl) (Nat.le_of_ble_eq_true rfl) (by
  have hT : sweepT M nl x y = 0 := by (unfold sweepT; (repeat' split); all_goals first | rfl | contradiction)
  exact ⟨congrArg (fun r => some (Value.int r)) (by rw [if_pos hT]; try rfl), rfl, hz.cast (by unfold sweepF; rw [if_pos hT]; try rfl)⟩)
        · refine lv_iconst (v := 2) hx hb dX6_sweep_48 (by decide) ?_
          refine lv_goto (tgt := 53) hx hb dX6_sweep_49 (by decide) ?_
          refine r_put S hh hz hin 21 (by decide) rfl rfl rfl (by decide +kernel) dX6_sweep_53 (fun f9 H locs hh hz => ?_)
          refine lv_aload_n hx hb dX6_sweep_56 rfl (lv_at hl 0 rfl) ?_
          refine r_get S hh hz hin 21 (by decide) rfl rfl (by decide +kernel) dX6_sweep_57 ?_
          refine lv_if_eq (tgt := 65) hx hb dX6_sweep_60 (by decide) (fun c => absurd (show (2 : Int32) = (0 : Int32) from c) (by decide)) (fun _ => ?_)
          refine lv_iconst (v := 0) hx hb dX6_sweep_63 (by decide) ?_
          exact k_iret hx hb hr hlk hh dX6_sweep_64 (Nat.le_of_ble_eq_true rfl) (Nat.le_of_ble_eq_true rfl) (by
  have hT : sweepT M nl x y = 2 := by (unfold sweepT; (repeat' split); all_goals first | rfl | contradiction)
  exact ⟨congrArg (fun r => some (Value.int r)) (by rw [if_neg (by rw [hT]; decide)]; try rfl), rfl, hz.cast (by unfold sweepF; rw [if_neg (by rw [hT]; decide)]; rw [hT]; try rfl)⟩)
    · refine lv_aload_n hx hb dX6_sweep_22 rfl (lv_at hl 0 rfl) ?_
      refine lv_iconst (v := 1) hx hb dX6_sweep_23 (by decide) ?_
      refine r_put S hh hz hin 21 (by decide) rfl rfl rfl (by decide +kernel) dX6_sweep_24 (fun f9 H locs hh hz => ?_)
      refine lv_iconst (v := 0) hx hb dX6_sweep_27 (by decide) ?_
      exact k_iret hx hb hr hlk hh dX6_sweep_28 (Nat.le_of_ble_eq_true rfl) (Nat.le_of_ble_eq_true rfl) (by
  have hT : sweepT M nl x y = 1 := by (unfold sweepT; (repeat' split); all_goals first | rfl | contradiction)
  exact ⟨congrArg (fun r => some (Value.int r)) (by rw [if_neg (by rw [hT]; decide)]; try rfl), rfl, hz.cast (by unfold sweepF; rw [if_neg (by rw [hT]; decide)]; rw [hT]; try rfl)⟩)

set_option maxRecDepth 100000 in
set_option maxHeartbeats 4000000 in
theorem c_endOrder {l : Launch} {κ : Kx} {xm : Nat} {b : Nat → Nat} {M : MS} {L : List Nat} {f0 f : Nat → va_E} (hz : ZR κ xm b M L f0 f) {i : Nat} (hi : i < 6) (hw : LW M i) : PM l κ yX6_endOrder wsX6_endOrder ({ frames := 0, cells := 0, slots := 0, locals := 0 } : Room) [.ref xm, .int (nI i)] L f (fun v L1 f1 => v = none ∧ L = L1 ∧ ZR κ xm b (endF M i) L f f1) noX 0 0 := by
  refine PM.mk (cc := cX6_endOrder) (maxL := 3) (ret := none) (by decide) rfl (Nat.le_of_ble_eq_true rfl) ?_
  intro p e s m args below meth c ls hx hb hml hr hlk hnm hown hts ht hh hl
  have hl : lv_has ls 3 [(0, .ref xm), (1, .int (nI i))] := hl
  have S : CallFix p m c cX6_endOrder 3 s args wsX6_endOrder RX6 := ⟨hx, hb, hml, hown, hts⟩
  have hin : ∀ w ∈ wsX60, w ∈ wsX6_endOrder := by decide +kernel
  have hz := hz.self
  refine lv_aload_n hx hb dX6_endOrder_0 rfl (lv_at hl 0 rfl) ?_
  refine r_get S hh hz hin 6 (by decide) rfl rfl (by decide +kernel) dX6_endOrder_1 ?_
  refine lv_iload_n hx hb dX6_endOrder_4 rfl (lv_at hl 1 rfl) ?_
  refine r_ald (k := 6) (i := i) S hh hz (by decide) rfl hi dX6_endOrder_5 ?_
  refine lv_topi (fun x6 e6 => ?_)
  refine lv_istore_n (lv' := [(2, .int x6), (0, .ref xm), (1, .int (nI i))]) hx hb dX6_endOrder_6 rfl hl (by decide) rfl (fun ls hl => ?_)
  refine lv_aload_n hx hb dX6_endOrder_7 rfl (lv_at hl 1 rfl) ?_
  refine r_get S hh hz hin 6 (by decide) rfl rfl (by decide +kernel) dX6_endOrder_8 ?_
  refine lv_iload_n hx hb dX6_endOrder_11 rfl (lv_at hl 2 rfl) ?_
  refine lv_iconst (v := (-1)) hx hb dX6_endOrder_12 (by decide) ?_
  refine r_ast (k := 6) (i := i) S hh hz (by decide) rfl hi dX6_endOrder_13 (fun f9 H locs hh hz => ?_)
  refine lv_aload_n hx hb dX6_endOrder_14 rfl (lv_at hl 1 rfl) ?_
  refine r_get S hh hz hin 4 (by decide) rfl rfl (by decide +kernel) dX6_endOrder_15 ?_
  refine lv_iload_n hx hb dX6_endOrder_18 rfl (lv_at hl 2 rfl) ?_
  refine lv_iconst (v := 0) hx hb dX6_endOrder_19 (by decide) ?_
  refine r_ast (k := 4) (i := i) S hh hz (by decide) rfl hi dX6_endOrder_20 (fun f9 H locs hh hz => ?_)
  refine lv_aload_n hx hb dX6_endOrder_21 rfl (lv_at hl 1 rfl) ?_
  refine r_get S hh hz hin 10 (by decide) rfl rfl (by decide +kernel) dX6_endOrder_22 ?_
  refine lv_iload_n hx hb dX6_endOrder_25 rfl (lv_at hl 0 rfl) ?_
  refine r_ald (k := 10) (i := (nT (M 6 i))) S hh hz (by decide) (e6.trans hw.1.1) hw.1.2 dX6_endOrder_26 ?_
  refine lv_bipush (v := 8) hx hb dX6_endOrder_27 (by decide) ?_
  refine lv_icmp_lt (tgt := 47) hx hb dX6_endOrder_29 (by decide) (fun c29 => ?_) (fun c29 => ?_)
  · have d29 : (M 10 (nT (M 6 i))) < 8 := c29
    subst e6
    exact k_vret hx hb hr hlk hh dX6_endOrder_47 (Nat.le_of_ble_eq_true rfl) (Nat.le_of_ble_eq_true rfl) ⟨rfl, rfl, hz.cast (by unfold endF; (repeat' split); all_goals first | rfl | contradiction)⟩
  · have d29 : ¬ (M 10 (nT (M 6 i))) < 8 := c29
    refine lv_aload_n hx hb dX6_endOrder_32 rfl (lv_at hl 1 rfl) ?_
    refine r_get S hh hz hin 11 (by decide) rfl rfl (by decide +kernel) dX6_endOrder_33 ?_
    refine lv_iload_n hx hb dX6_endOrder_36 rfl (lv_at hl 0 rfl) ?_
    refine lv_bipush (v := 8) hx hb dX6_endOrder_37 (by decide) ?_
    refine r_ast (k := 11) (i := (nT (M 6 i))) S hh hz (by decide) (e6.trans hw.1.1) hw.1.2 dX6_endOrder_39 (fun f9 H locs hh hz => ?_)
    refine lv_aload_n hx hb dX6_endOrder_40 rfl (lv_at hl 1 rfl) ?_
    refine r_get S hh hz hin 10 (by decide) rfl rfl (by decide +kernel) dX6_endOrder_41 ?_
    refine lv_iload_n hx hb dX6_endOrder_44 rfl (lv_at hl 0 rfl) ?_
    refine lv_iconst (v := 0) hx hb dX6_endOrder_45 (by decide) ?_
    refine r_ast (k := 10) (i := (nT (M 6 i))) S hh hz (by decide) (e6.trans hw.1.1) hw.1.2 dX6_endOrder_46 (fun f9 H locs hh hz => ?_)
    subst e6
    exact k_vret hx hb hr hlk hh dX6_endOrder_47 (Nat.le_of_ble_eq_true rfl) (Nat.le_of_ble_eq_true rfl) ⟨rfl, rfl, hz.cast (by unfold endF; (repeat' split); all_goals first | rfl | contradiction)⟩

set_option maxRecDepth 100000 in
set_option maxHeartbeats 4000000 in
theorem c_turnHome {l : Launch} {κ : Kx} {xm : Nat} {b : Nat → Nat} {M : MS} {L : List Nat} {f0 f : Nat → va_E} (hz : ZR κ xm b M L f0 f) {i : Nat} (hi : i < 6) : PM l κ yX6_turnHome wsX6_turnHome ({ frames := 0, cells := 0, slots := 0, locals := 0 } : Room) [.ref xm, .int (nI i)] L f (fun v L1 f1 => v = none ∧ L = L1 ∧ ZR κ xm b (turnF M i) L f f1) noX 0 0 := by
  refine PM.mk (cc := cX6_turnHome) (maxL := 2) (ret := none) (by decide) rfl (Nat.le_of_ble_eq_true rfl) ?_
  intro p e s m args below meth c ls hx hb hml hr hlk hnm hown hts ht hh hl
  have hl : lv_has ls 2 [(0, .ref xm), (1, .int (nI i))] := hl
  have S : CallFix p m c cX6_turnHome 2 s args wsX6_turnHome RX6 := ⟨hx, hb, hml, hown, hts⟩
  have hin : ∀ w ∈ wsX60, w ∈ wsX6_turnHome := by decide +kernel
  have hz := hz.self
  refine lv_aload_n hx hb dX6_turnHome_0 rfl (lv_at hl 0 rfl) ?_
  refine r_get S hh hz hin 4 (by decide) rfl rfl (by decide +kernel) dX6_turnHome_1 ?_
  refine lv_iload_n hx hb dX6_turnHome_4 rfl (lv_at hl 1 rfl) ?_
  refine lv_iconst (v := 3) hx hb dX6_turnHome_5 (by decide) ?_
  refine r_ast (k := 4) (i := i) S hh hz (by decide) rfl hi dX6_turnHome_6 (fun f9 H locs hh hz => ?_)
  refine lv_aload_n hx hb dX6_turnHome_7 rfl (lv_at hl 0 rfl) ?_
  refine r_get S hh hz hin 8 (by decide) rfl rfl (by decide +kernel) dX6_turnHome_8 ?_
  refine lv_iload_n hx hb dX6_turnHome_11 rfl (lv_at hl 1 rfl) ?_
  refine lv_iconst (v := 1) hx hb dX6_turnHome_12 (by decide) ?_
  refine r_ast (k := 8) (i := i) S hh hz (by decide) rfl hi dX6_turnHome_13 (fun f9 H locs hh hz => ?_)
  exact k_vret hx hb hr hlk hh dX6_turnHome_14 (Nat.le_of_ble_eq_true rfl) (Nat.le_of_ble_eq_true rfl) ⟨rfl, rfl, hz⟩

set_option maxRecDepth 100000 in
set_option maxHeartbeats 4000000 in
theorem c_shovels {l : Launch} {κ : Kx} {xm : Nat} {b : Nat → Nat} {M : MS} {L : List Nat} {f0 f : Nat → va_E} (hz : ZR κ xm b M L f0 f) {i : Nat} {x : Int32} (hi : i < 6) (hw : LW M i) : PM l κ yX6_shovels wsX6_shovels ({ frames := 1, cells := 0, slots := 0, locals := 21 } : Room) [.ref xm, .int (nI i), .int x] L f (fun v L1 f1 => v = some (.int (shovF M i x)) ∧ L = L1 ∧ f = f1) noX 0 0 := by
  refine PM.mk (cc := cX6_shovels) (maxL := 4) (ret := (some .int)) (by decide) rfl (Nat.le_of_ble_eq_true rfl) ?_
  intro p e s m args below meth c ls hx hb hml hr hlk hnm hown hts ht hh hl
  have hl : lv_has ls 4 [(0, .ref xm), (1, .int (nI i)), (2, .int x)] := hl
  have S : CallFix p m c cX6_shovels 4 s args wsX6_shovels RX6 := ⟨hx, hb, hml, hown, hts⟩
  have hin : ∀ w ∈ wsX60, w ∈ wsX6_shovels := by decide +kernel
  refine lv_iconst (v := 4) hx hb dX6_shovels_0 (by decide) ?_
  refine lv_aload_n hx hb dX6_shovels_1 rfl (lv_at hl 0 rfl) ?_
  refine r_get S hh hz hin 9 (by decide) rfl rfl (by decide +kernel) dX6_shovels_2 ?_
  refine lv_aload_n hx hb dX6_shovels_5 rfl (lv_at hl 0 rfl) ?_
  refine r_get S hh hz hin 6 (by decide) rfl rfl (by decide +kernel) dX6_shovels_6 ?_
  refine lv_iload_n hx hb dX6_shovels_9 rfl (lv_at hl 1 rfl) ?_
  refine r_ald (k := 6) (i := i) S hh hz (by decide) rfl hi dX6_shovels_10 ?_
  refine r_ald (k := 9) (i := (nT (M 6 i))) S hh hz (by decide) hw.1.1 hw.1.2 dX6_shovels_11 ?_
  refine lv_imul hx hb dX6_shovels_12 ?_
  refine lv_aload_n hx hb dX6_shovels_13 rfl (lv_at hl 0 rfl) ?_
  refine r_get S hh hz hin 3 (by decide) rfl rfl (by decide +kernel) dX6_shovels_14 ?_
  refine lv_iload_n hx hb dX6_shovels_17 rfl (lv_at hl 1 rfl) ?_
  refine r_ald (k := 3) (i := i) S hh hz (by decide) rfl hi dX6_shovels_18 ?_
  refine lv_iconst (v := 5) hx hb dX6_shovels_19 (by decide) ?_
  refine lv_idiv hx hb dX6_shovels_20 (by decide) ?_
  refine lv_isub hx hb dX6_shovels_21 ?_
  refine lv_topi (fun x22 e22 => ?_)
  refine lv_istore_n (lv' := [(3, .int x22), (0, .ref xm), (1, .int (nI i)), (2, .int x)]) hx hb dX6_shovels_22 rfl hl (by decide) rfl (fun ls hl => ?_)
  refine lv_iload_n hx hb dX6_shovels_23 rfl (lv_at hl 0 rfl) ?_
  refine lv_iconst (v := 1) hx hb dX6_shovels_24 (by decide) ?_
  refine lv_icmp_ge (tgt := 32) hx hb dX6_shovels_25 (by decide) (fun c25 => ?_) (fun c25 => ?_)
  · refine lv_iload_n hx hb dX6_shovels_32 rfl (lv_at hl 0 rfl) ?_
    refine lv_iload_n hx hb dX6_shovels_33 rfl (lv_at hl 3 rfl) ?_
    refine k_callS0 (As := [.int x22, .int x]) (c_least (x := x22) (y := x) (L := L)) S hh (va_cwS 2 hts gX6_shovels_X6_least rfl rfl rfl (by decide +kernel) ⟨(Nat.le_of_ble_eq_true rfl), (Nat.le_of_ble_eq_true rfl)⟩) rfl hl.1 rfl (Nat.le_of_ble_eq_true rfl) dX6_shovels_34 ⟨(Nat.le_of_ble_eq_true rfl), (Nat.le_of_ble_eq_true rfl)⟩ (fun v L1 f1 H locs hp hh => ?_)
    obtain ⟨rfl, hL1, hf1⟩ := hp
    subst hL1; subst hf1
    subst e22
    exact k_iret hx hb hr hlk hh dX6_shovels_37 (Nat.le_of_ble_eq_true rfl) (Nat.le_of_ble_eq_true rfl) ⟨congrArg (fun r => some (Value.int r)) (by unfold shovF; (repeat' split); all_goals first | rfl | contradiction), rfl, rfl⟩
  · refine lv_iconst (v := 1) hx hb dX6_shovels_28 (by decide) ?_
    refine lv_goto (tgt := 33) hx hb dX6_shovels_29 (by decide) ?_
    refine lv_iload_n hx hb dX6_shovels_33 rfl (lv_at hl 3 rfl) ?_
    refine k_callS0 (As := [.int 1, .int x]) (c_least (x := 1) (y := x) (L := L)) S hh (va_cwS 2 hts gX6_shovels_X6_least rfl rfl rfl (by decide +kernel) ⟨(Nat.le_of_ble_eq_true rfl), (Nat.le_of_ble_eq_true rfl)⟩) rfl hl.1 rfl (Nat.le_of_ble_eq_true rfl) dX6_shovels_34 ⟨(Nat.le_of_ble_eq_true rfl), (Nat.le_of_ble_eq_true rfl)⟩ (fun v L1 f1 H locs hp hh => ?_)
    obtain ⟨rfl, hL1, hf1⟩ := hp
    subst hL1; subst hf1
    subst e22
    exact k_iret hx hb hr hlk hh dX6_shovels_37 (Nat.le_of_ble_eq_true rfl) (Nat.le_of_ble_eq_true rfl) ⟨congrArg (fun r => some (Value.int r)) (by unfold shovF; (repeat' split); all_goals first | rfl | contradiction), rfl, rfl⟩

set_option maxRecDepth 100000 in
set_option maxHeartbeats 4000000 in
theorem c_atHulk {l : Launch} {κ : Kx} {xm : Nat} {b : Nat → Nat} {M : MS} {L : List Nat} {f0 f : Nat → va_E} (hz : ZR κ xm b M L f0 f) {i : Nat} (hi : i < 6) (hw : LW M i) : PM l κ yX6_atHulk wsX6_atHulk ({ frames := 2, cells := 0, slots := 0, locals := 44 } : Room) [.ref xm, .int (nI i)] L f (fun v L1 f1 => v = none ∧ L = L1 ∧ ZR κ xm b (atHulkF M i) L f f1) noX 0 0 := by
  refine PM.mk (cc := cX6_atHulk) (maxL := 5) (ret := none) (by decide) rfl (Nat.le_of_ble_eq_true rfl) ?_
  intro p e s m args below meth c ls hx hb hml hr hlk hnm hown hts ht hh hl
  have hl : lv_has ls 5 [(0, .ref xm), (1, .int (nI i))] := hl
  have S : CallFix p m c cX6_atHulk 5 s args wsX6_atHulk RX6 := ⟨hx, hb, hml, hown, hts⟩
  have hin : ∀ w ∈ wsX60, w ∈ wsX6_atHulk := by decide +kernel
  have hz := hz.self
  refine lv_aload_n hx hb dX6_atHulk_0 rfl (lv_at hl 0 rfl) ?_
  refine r_get S hh hz hin 0 (by decide) rfl rfl (by decide +kernel) dX6_atHulk_1 ?_
  refine lv_aload_n hx hb dX6_atHulk_4 rfl (lv_at hl 0 rfl) ?_
  refine r_get S hh hz hin 5 (by decide) rfl rfl (by decide +kernel) dX6_atHulk_5 ?_
  refine lv_iload_n hx hb dX6_atHulk_8 rfl (lv_at hl 1 rfl) ?_
  refine r_ald (k := 5) (i := i) S hh hz (by decide) rfl hi dX6_atHulk_9 ?_
  refine r_ald (k := 0) (i := (nT (M 5 i))) S hh hz (by decide) hw.2.2.1 hw.2.2.2 dX6_atHulk_10 ?_
  refine lv_topi (fun x11 e11 => ?_)
  refine lv_istore_n (lv' := [(2, .int x11), (0, .ref xm), (1, .int (nI i))]) hx hb dX6_atHulk_11 rfl hl (by decide) rfl (fun ls hl => ?_)
  refine lv_aload_n hx hb dX6_atHulk_12 rfl (lv_at hl 1 rfl) ?_
  refine r_get S hh hz hin 1 (by decide) rfl rfl (by decide +kernel) dX6_atHulk_13 ?_
  refine lv_iload_n hx hb dX6_atHulk_16 rfl (lv_at hl 2 rfl) ?_
  refine r_ald (k := 1) (i := i) S hh hz (by decide) rfl hi dX6_atHulk_17 ?_
  refine lv_aload_n hx hb dX6_atHulk_18 rfl (lv_at hl 1 rfl) ?_
  refine r_get S hh hz hin 2 (by decide) rfl rfl (by decide +kernel) dX6_atHulk_19 ?_
  refine lv_iload_n hx hb dX6_atHulk_22 rfl (lv_at hl 2 rfl) ?_
  refine r_ald (k := 2) (i := i) S hh hz (by decide) rfl hi dX6_atHulk_23 ?_
  refine lv_isub hx hb dX6_atHulk_24 ?_
  refine lv_topi (fun x25 e25 => ?_)
  refine lv_istore_n (lv' := [(3, .int x25), (2, .int x11), (0, .ref xm), (1, .int (nI i))]) hx hb dX6_atHulk_25 rfl hl (by decide) rfl (fun ls hl => ?_)
  refine lv_iload_n hx hb dX6_atHulk_26 rfl (lv_at hl 1 rfl) ?_
  refine lv_if_le (tgt := 96) hx hb dX6_atHulk_27 (by decide) (fun c27 => ?_) (fun c27 => ?_)
  · refine lv_aload_n hx hb dX6_atHulk_96 rfl (lv_at hl 2 rfl) ?_
    refine r_get S hh hz hin 2 (by decide) rfl rfl (by decide +kernel) dX6_atHulk_97 ?_
    refine lv_iload_n hx hb dX6_atHulk_100 rfl (lv_at hl 3 rfl) ?_
    refine r_ald (k := 2) (i := i) S hh hz (by decide) rfl hi dX6_atHulk_101 ?_
    refine lv_if_le (tgt := 122) hx hb dX6_atHulk_102 (by decide) (fun c102 => ?_) (fun c102 => ?_)
    · refine lv_aload_n hx hb dX6_atHulk_122 rfl (lv_at hl 2 rfl) ?_
      refine lv_iload_n hx hb dX6_atHulk_123 rfl (lv_at hl 3 rfl) ?_
      refine k_callV0 (As := [.int (nI i)]) (c_endOrder hz hi hw) S hh (cwV 1 hts gX6_atHulk_X6_endOrder rfl rfl rfl (by decide +kernel) ⟨(Nat.le_of_ble_eq_true rfl), (Nat.le_of_ble_eq_true rfl)⟩) hz.1.1 hz.1.2 (q := (RX6, TX6, 22)) rfl rfl rfl hl.1 rfl (Nat.le_of_ble_eq_true rfl) dX6_atHulk_124 ⟨(Nat.le_of_ble_eq_true rfl), (Nat.le_of_ble_eq_true rfl)⟩ (fun v L1 f1 H locs hp hh => ?_)
      obtain ⟨rfl, hL1, hz1⟩ := hp
      subst hL1
      have hz := hz.trans hz1
      subst e25
      subst e11
      exact k_vret hx hb hr hlk hh dX6_atHulk_127 (Nat.le_of_ble_eq_true rfl) (Nat.le_of_ble_eq_true rfl) ⟨rfl, rfl, hz.cast (by unfold atHulkF castF fillF; (repeat' split); all_goals first | rfl | contradiction)⟩
    · refine lv_aload_n hx hb dX6_atHulk_105 rfl (lv_at hl 2 rfl) ?_
      refine r_get S hh hz hin 4 (by decide) rfl rfl (by decide +kernel) dX6_atHulk_106 ?_
      refine lv_iload_n hx hb dX6_atHulk_109 rfl (lv_at hl 3 rfl) ?_
      refine lv_iconst (v := 1) hx hb dX6_atHulk_110 (by decide) ?_
      refine r_ast (k := 4) (i := i) S hh hz (by decide) rfl hi dX6_atHulk_111 (fun f9 H locs hh hz => ?_)
      refine lv_aload_n hx hb dX6_atHulk_112 rfl (lv_at hl 2 rfl) ?_
      refine r_get S hh hz hin 8 (by decide) rfl rfl (by decide +kernel) dX6_atHulk_113 ?_
      refine lv_iload_n hx hb dX6_atHulk_116 rfl (lv_at hl 3 rfl) ?_
      refine lv_iconst (v := 2) hx hb dX6_atHulk_117 (by decide) ?_
      refine r_ast (k := 8) (i := i) S hh hz (by decide) rfl hi dX6_atHulk_118 (fun f9 H locs hh hz => ?_)
      refine lv_goto (tgt := 127) hx hb dX6_atHulk_119 (by decide) ?_
      subst e25
      subst e11
      exact k_vret hx hb hr hlk hh dX6_atHulk_127 (Nat.le_of_ble_eq_true rfl) (Nat.le_of_ble_eq_true rfl) ⟨rfl, rfl, hz.cast (by unfold atHulkF castF fillF; (repeat' split); all_goals first | rfl | contradiction)⟩
  · refine lv_iload_n hx hb dX6_atHulk_30 rfl (lv_at hl 0 rfl) ?_
    refine lv_if_le (tgt := 96) hx hb dX6_atHulk_31 (by decide) (fun c31 => ?_) (fun c31 => ?_)
    · refine lv_aload_n hx hb dX6_atHulk_96 rfl (lv_at hl 2 rfl) ?_
      refine r_get S hh hz hin 2 (by decide) rfl rfl (by decide +kernel) dX6_atHulk_97 ?_
      refine lv_iload_n hx hb dX6_atHulk_100 rfl (lv_at hl 3 rfl) ?_
      refine r_ald (k := 2) (i := i) S hh hz (by decide) rfl hi dX6_atHulk_101 ?_
      refine lv_if_le (tgt := 122) hx hb dX6_atHulk_102 (by decide) (fun c102 => ?_) (fun c102 => ?_)
      · refine lv_aload_n hx hb dX6_atHulk_122 rfl (lv_at hl 2 rfl) ?_
        refine lv_iload_n hx hb dX6_atHulk_123 rfl (lv_at hl 3 rfl) ?_
        refine k_callV0 (As := [.int (nI i)]) (c_endOrder hz hi hw) S hh (cwV 1 hts gX6_atHulk_X6_endOrder rfl rfl rfl (by decide +kernel) ⟨(Nat.le_of_ble_eq_true rfl), (Nat.le_of_ble_eq_true rfl)⟩) hz.1.1 hz.1.2 (q := (RX6, TX6, 22)) rfl rfl rfl hl.1 rfl (Nat.le_of_ble_eq_true rfl) dX6_atHulk_124 ⟨(Nat.le_of_ble_eq_true rfl), (Nat.le_of_ble_eq_true rfl)⟩ (fun v L1 f1 H locs hp hh => ?_)
        obtain ⟨rfl, hL1, hz1⟩ := hp
        subst hL1
        have hz := hz.trans hz1
        subst e25
        subst e11
        exact k_vret hx hb hr hlk hh dX6_atHulk_127 (Nat.le_of_ble_eq_true rfl) (Nat.le_of_ble_eq_true rfl) ⟨rfl, rfl, hz.cast (by unfold atHulkF castF fillF; (repeat' split); all_goals first | rfl | contradiction)⟩
      · refine lv_aload_n hx hb dX6_atHulk_105 rfl (lv_at hl 2 rfl) ?_
        refine r_get S hh hz hin 4 (by decide) rfl rfl (by decide +kernel) dX6_atHulk_106 ?_
        refine lv_iload_n hx hb dX6_atHulk_109 rfl (lv_at hl 3 rfl) ?_
        refine lv_iconst (v := 1) hx hb dX6_atHulk_110 (by decide) ?_
        refine r_ast (k := 4) (i := i) S hh hz (by decide) rfl hi dX6_atHulk_111 (fun f9 H locs hh hz => ?_)
        refine lv_aload_n hx hb dX6_atHulk_112 rfl (lv_at hl 2 rfl) ?_
        refine r_get S hh hz hin 8 (by decide) rfl rfl (by decide +kernel) dX6_atHulk_113 ?_
        refine lv_iload_n hx hb dX6_atHulk_116 rfl (lv_at hl 3 rfl) ?_
        refine lv_iconst (v := 2) hx hb dX6_atHulk_117 (by decide) ?_
        refine r_ast (k := 8) (i := i) S hh hz (by decide) rfl hi dX6_atHulk_118 (fun f9 H locs hh hz => ?_)
        refine lv_goto (tgt := 127) hx hb dX6_atHulk_119 (by decide) ?_
        subst e25
        subst e11
        exact k_vret hx hb hr hlk hh dX6_atHulk_127 (Nat.le_of_ble_eq_true rfl) (Nat.le_of_ble_eq_true rfl) ⟨rfl, rfl, hz.cast (by unfold atHulkF castF fillF; (repeat' split); all_goals first | rfl | contradiction)⟩
    · refine lv_aload_n hx hb dX6_atHulk_34 rfl (lv_at hl 2 rfl) ?_
      refine lv_iload_n hx hb dX6_atHulk_35 rfl (lv_at hl 3 rfl) ?_
      refine lv_iload_n hx hb dX6_atHulk_36 rfl (lv_at hl 1 rfl) ?_
      refine lv_iload_n hx hb dX6_atHulk_37 rfl (lv_at hl 0 rfl) ?_
      refine k_callS0 (As := [.int x11, .int x25]) (c_least (x := x11) (y := x25) (L := L)) S hh (va_cwS 2 hts gX6_atHulk_X6_least rfl rfl rfl (by decide +kernel) ⟨(Nat.le_of_ble_eq_true rfl), (Nat.le_of_ble_eq_true rfl)⟩) rfl hl.1 rfl (Nat.le_of_ble_eq_true rfl) dX6_atHulk_38 ⟨(Nat.le_of_ble_eq_true rfl), (Nat.le_of_ble_eq_true rfl)⟩ (fun v L1 f1 H locs hp hh => ?_)
      obtain ⟨rfl, hL1, hf1⟩ := hp
      subst hL1; subst hf1
      refine k_callV0 (As := [.int (nI i), .int (leastF x11 x25)]) (c_shovels hz (x := (leastF x11 x25)) hi hw) S hh (cwV 2 hts gX6_atHulk_X6_shovels rfl rfl rfl (by decide +kernel) ⟨(Nat.le_of_ble_eq_true rfl), (Nat.le_of_ble_eq_true rfl)⟩) hz.1.1 hz.1.2 (q := (RX6, TX6, 22)) rfl rfl rfl hl.1 rfl (Nat.le_of_ble_eq_true rfl) dX6_atHulk_41 ⟨(Nat.le_of_ble_eq_true rfl), (Nat.le_of_ble_eq_true rfl)⟩ (fun v L1 f1 H locs hp hh => ?_)
      obtain ⟨rfl, hL1, hf1⟩ := hp
      subst hL1; subst hf1
      refine lv_topi (fun x44 e44 => ?_)
      refine lv_istore (lv' := [(4, .int x44), (3, .int x25), (2, .int x11), (0, .ref xm), (1, .int (nI i))]) hx hb dX6_atHulk_44 hl (by decide) rfl (fun ls hl => ?_)
      refine lv_aload_n hx hb dX6_atHulk_46 rfl (lv_at hl 3 rfl) ?_
      refine r_get S hh hz hin 0 (by decide) rfl rfl (by decide +kernel) dX6_atHulk_47 ?_
      refine lv_aload_n hx hb dX6_atHulk_50 rfl (lv_at hl 3 rfl) ?_
      refine r_get S hh hz hin 5 (by decide) rfl rfl (by decide +kernel) dX6_atHulk_51 ?_
      refine lv_iload_n hx hb dX6_atHulk_54 rfl (lv_at hl 4 rfl) ?_
      refine r_ald (k := 5) (i := i) S hh hz (by decide) rfl hi dX6_atHulk_55 ?_
      refine lv_dup2_11 hx hb dX6_atHulk_56 rfl rfl ?_
      refine r_ald (k := 0) (i := (nT (M 5 i))) S hh hz (by decide) hw.2.2.1 hw.2.2.2 dX6_atHulk_57 ?_
      refine lv_iload hx hb dX6_atHulk_58 (lv_at hl 0 rfl) ?_
      refine lv_isub hx hb dX6_atHulk_60 ?_
      refine r_ast (k := 0) (i := (nT (M 5 i))) S hh hz (by decide) hw.2.2.1 hw.2.2.2 dX6_atHulk_61 (fun f9 H locs hh hz => ?_)
      refine lv_aload_n hx hb dX6_atHulk_62 rfl (lv_at hl 3 rfl) ?_
      refine r_get S hh hz hin 2 (by decide) rfl rfl (by decide +kernel) dX6_atHulk_63 ?_
      refine lv_iload_n hx hb dX6_atHulk_66 rfl (lv_at hl 4 rfl) ?_
      refine lv_dup2_11 hx hb dX6_atHulk_67 rfl rfl ?_
      refine r_ald (k := 2) (i := i) S hh hz (by decide) rfl hi dX6_atHulk_68 ?_
      refine lv_iload hx hb dX6_atHulk_69 (lv_at hl 0 rfl) ?_
      refine lv_iload hx hb dX6_atHulk_71 (lv_at hl 0 rfl) ?_
      refine lv_bipush (v := 50) hx hb dX6_atHulk_73 (by decide) ?_
      refine lv_idiv hx hb dX6_atHulk_75 (by decide) ?_
      refine lv_isub hx hb dX6_atHulk_76 ?_
      refine lv_iadd hx hb dX6_atHulk_77 ?_
      refine r_ast (k := 2) (i := i) S hh hz (by decide) rfl hi dX6_atHulk_78 (fun f9 H locs hh hz => ?_)
      refine lv_aload_n hx hb dX6_atHulk_79 rfl (lv_at hl 3 rfl) ?_
      refine r_get S hh hz hin 3 (by decide) rfl rfl (by decide +kernel) dX6_atHulk_80 ?_
      refine lv_iload_n hx hb dX6_atHulk_83 rfl (lv_at hl 4 rfl) ?_
      refine lv_dup2_11 hx hb dX6_atHulk_84 rfl rfl ?_
      refine r_ald (k := 3) (i := i) S hh hz (by decide) rfl hi dX6_atHulk_85 ?_
      refine lv_iload hx hb dX6_atHulk_86 (lv_at hl 0 rfl) ?_
      refine lv_bipush (v := 50) hx hb dX6_atHulk_88 (by decide) ?_
      refine lv_idiv hx hb dX6_atHulk_90 (by decide) ?_
      refine lv_iadd hx hb dX6_atHulk_91 ?_
      refine r_ast (k := 3) (i := i) S hh hz (by decide) rfl hi dX6_atHulk_92 (fun f9 H locs hh hz => ?_)
      refine lv_goto (tgt := 127) hx hb dX6_atHulk_93 (by decide) ?_
      subst e44
      subst e25
      subst e11
      exact k_vret hx hb hr hlk hh dX6_atHulk_127 (Nat.le_of_ble_eq_true rfl) (Nat.le_of_ble_eq_true rfl) ⟨rfl, rfl, hz.cast (by unfold atHulkF castF fillF; (repeat' split); all_goals first | rfl | contradiction)⟩

set_option maxRecDepth 100000 in
set_option maxHeartbeats 4000000 in
theorem c_atSteamer {l : Launch} {κ : Kx} {xm : Nat} {b : Nat → Nat} {M : MS} {L : List Nat} {f0 f : Nat → va_E} (hz : ZR κ xm b M L f0 f) {i : Nat} (hi : i < 6) (hw : LW M i) : PM l κ yX6_atSteamer wsX6_atSteamer ({ frames := 2, cells := 0, slots := 0, locals := 44 } : Room) [.ref xm, .int (nI i)] L f (fun v L1 f1 => v = none ∧ L = L1 ∧ ZR κ xm b (atSteamerF M i) L f f1) noX 0 0 := by
  refine PM.mk (cc := cX6_atSteamer) (maxL := 4) (ret := none) (by decide) rfl (Nat.le_of_ble_eq_true rfl) ?_
  intro p e s m args below meth c ls hx hb hml hr hlk hnm hown hts ht hh hl
  have hl : lv_has ls 4 [(0, .ref xm), (1, .int (nI i))] := hl
  have S : CallFix p m c cX6_atSteamer 4 s args wsX6_atSteamer RX6 := ⟨hx, hb, hml, hown, hts⟩
  have hin : ∀ w ∈ wsX60, w ∈ wsX6_atSteamer := by decide +kernel
  have hz := hz.self
  refine lv_aload_n hx hb dX6_atSteamer_0 rfl (lv_at hl 0 rfl) ?_
  refine r_get S hh hz hin 7 (by decide) rfl rfl (by decide +kernel) dX6_atSteamer_1 ?_
  refine lv_iload_n hx hb dX6_atSteamer_4 rfl (lv_at hl 1 rfl) ?_
  refine r_ald (k := 7) (i := i) S hh hz (by decide) rfl hi dX6_atSteamer_5 ?_
  refine lv_topi (fun x6 e6 => ?_)
  refine lv_istore_n (lv' := [(2, .int x6), (0, .ref xm), (1, .int (nI i))]) hx hb dX6_atSteamer_6 rfl hl (by decide) rfl (fun ls hl => ?_)
  refine lv_aload_n hx hb dX6_atSteamer_7 rfl (lv_at hl 1 rfl) ?_
  refine r_get S hh hz hin 2 (by decide) rfl rfl (by decide +kernel) dX6_atSteamer_8 ?_
  refine lv_iload_n hx hb dX6_atSteamer_11 rfl (lv_at hl 2 rfl) ?_
  refine r_ald (k := 2) (i := i) S hh hz (by decide) rfl hi dX6_atSteamer_12 ?_
  refine lv_if_ne (tgt := 24) hx hb dX6_atSteamer_13 (by decide) (fun c13 => ?_) (fun c13 => ?_)
  · refine lv_aload_n hx hb dX6_atSteamer_24 rfl (lv_at hl 1 rfl) ?_
    refine r_get S hh hz hin 14 (by decide) rfl rfl (by decide +kernel) dX6_atSteamer_25 ?_
    refine lv_iload_n hx hb dX6_atSteamer_28 rfl (lv_at hl 0 rfl) ?_
    refine r_ald (k := 14) (i := (nT (M 7 i))) S hh hz (by decide) (e6.trans hw.2.1.1) hw.2.1.2 dX6_atSteamer_29 ?_
    refine lv_iconst (v := 1) hx hb dX6_atSteamer_30 (by decide) ?_
    refine lv_icmp_ne (tgt := 108) hx hb dX6_atSteamer_31 (by decide) (fun c31 => ?_) (fun c31 => ?_)
    · subst e6
      exact k_vret hx hb hr hlk hh dX6_atSteamer_108 (Nat.le_of_ble_eq_true rfl) (Nat.le_of_ble_eq_true rfl) ⟨rfl, rfl, hz.cast (by unfold atSteamerF pourF; (repeat' split); all_goals first | rfl | contradiction)⟩
    · refine lv_aload_n hx hb dX6_atSteamer_34 rfl (lv_at hl 1 rfl) ?_
      refine lv_iload_n hx hb dX6_atSteamer_35 rfl (lv_at hl 2 rfl) ?_
      refine lv_aload_n hx hb dX6_atSteamer_36 rfl (lv_at hl 1 rfl) ?_
      refine r_get S hh hz hin 2 (by decide) rfl rfl (by decide +kernel) dX6_atSteamer_37 ?_
      refine lv_iload_n hx hb dX6_atSteamer_40 rfl (lv_at hl 2 rfl) ?_
      refine r_ald (k := 2) (i := i) S hh hz (by decide) rfl hi dX6_atSteamer_41 ?_
      refine lv_aload_n hx hb dX6_atSteamer_42 rfl (lv_at hl 1 rfl) ?_
      refine r_get S hh hz hin 12 (by decide) rfl rfl (by decide +kernel) dX6_atSteamer_43 ?_
      refine lv_iload_n hx hb dX6_atSteamer_46 rfl (lv_at hl 0 rfl) ?_
      refine r_ald (k := 12) (i := (nT (M 7 i))) S hh hz (by decide) (e6.trans hw.2.1.1) hw.2.1.2 dX6_atSteamer_47 ?_
      refine k_callS0 (As := [.int (M 2 i), .int (M 12 (nT (M 7 i)))]) (c_least (x := (M 2 i)) (y := (M 12 (nT (M 7 i)))) (L := L)) S hh (va_cwS 2 hts gX6_atSteamer_X6_least rfl rfl rfl (by decide +kernel) ⟨(Nat.le_of_ble_eq_true rfl), (Nat.le_of_ble_eq_true rfl)⟩) rfl hl.1 rfl (Nat.le_of_ble_eq_true rfl) dX6_atSteamer_48 ⟨(Nat.le_of_ble_eq_true rfl), (Nat.le_of_ble_eq_true rfl)⟩ (fun v L1 f1 H locs hp hh => ?_)
      obtain ⟨rfl, hL1, hf1⟩ := hp
      subst hL1; subst hf1
      refine k_callV0 (As := [.int (nI i), .int (leastF (M 2 i) (M 12 (nT (M 7 i))))]) (c_shovels hz (x := (leastF (M 2 i) (M 12 (nT (M 7 i))))) hi hw) S hh (cwV 2 hts gX6_atSteamer_X6_shovels rfl rfl rfl (by decide +kernel) ⟨(Nat.le_of_ble_eq_true rfl), (Nat.le_of_ble_eq_true rfl)⟩) hz.1.1 hz.1.2 (q := (RX6, TX6, 22)) rfl rfl rfl hl.1 rfl (Nat.le_of_ble_eq_true rfl) dX6_atSteamer_51 ⟨(Nat.le_of_ble_eq_true rfl), (Nat.le_of_ble_eq_true rfl)⟩ (fun v L1 f1 H locs hp hh => ?_)
      obtain ⟨rfl, hL1, hf1⟩ := hp
      subst hL1; subst hf1
      refine lv_topi (fun x54 e54 => ?_)
      refine lv_istore_n (lv' := [(3, .int x54), (2, .int x6), (0, .ref xm), (1, .int (nI i))]) hx hb dX6_atSteamer_54 rfl hl (by decide) rfl (fun ls hl => ?_)
      refine lv_aload_n hx hb dX6_atSteamer_55 rfl (lv_at hl 2 rfl) ?_
      refine r_get S hh hz hin 2 (by decide) rfl rfl (by decide +kernel) dX6_atSteamer_56 ?_
      refine lv_iload_n hx hb dX6_atSteamer_59 rfl (lv_at hl 3 rfl) ?_
      refine lv_dup2_11 hx hb dX6_atSteamer_60 rfl rfl ?_
      refine r_ald (k := 2) (i := i) S hh hz (by decide) rfl hi dX6_atSteamer_61 ?_
      refine lv_iload_n hx hb dX6_atSteamer_62 rfl (lv_at hl 0 rfl) ?_
      refine lv_isub hx hb dX6_atSteamer_63 ?_
      refine r_ast (k := 2) (i := i) S hh hz (by decide) rfl hi dX6_atSteamer_64 (fun f9 H locs hh hz => ?_)
      refine lv_aload_n hx hb dX6_atSteamer_65 rfl (lv_at hl 2 rfl) ?_
      refine r_get S hh hz hin 3 (by decide) rfl rfl (by decide +kernel) dX6_atSteamer_66 ?_
      refine lv_iload_n hx hb dX6_atSteamer_69 rfl (lv_at hl 3 rfl) ?_
      refine lv_dup2_11 hx hb dX6_atSteamer_70 rfl rfl ?_
      refine r_ald (k := 3) (i := i) S hh hz (by decide) rfl hi dX6_atSteamer_71 ?_
      refine lv_iload_n hx hb dX6_atSteamer_72 rfl (lv_at hl 0 rfl) ?_
      refine lv_bipush (v := 50) hx hb dX6_atSteamer_73 (by decide) ?_
      refine lv_idiv hx hb dX6_atSteamer_75 (by decide) ?_
      refine lv_iadd hx hb dX6_atSteamer_76 ?_
      refine r_ast (k := 3) (i := i) S hh hz (by decide) rfl hi dX6_atSteamer_77 (fun f9 H locs hh hz => ?_)
      refine lv_aload_n hx hb dX6_atSteamer_78 rfl (lv_at hl 2 rfl) ?_
      refine r_get S hh hz hin 12 (by decide) rfl rfl (by decide +kernel) dX6_atSteamer_79 ?_
      refine lv_iload_n hx hb dX6_atSteamer_82 rfl (lv_at hl 1 rfl) ?_
      refine lv_dup2_11 hx hb dX6_atSteamer_83 rfl rfl ?_
      refine r_ald (k := 12) (i := (nT (M 7 i))) S hh hz (by decide) (e6.trans hw.2.1.1) hw.2.1.2 dX6_atSteamer_84 ?_
      refine lv_iload_n hx hb dX6_atSteamer_85 rfl (lv_at hl 0 rfl) ?_
      refine lv_iload_n hx hb dX6_atSteamer_86 rfl (lv_at hl 0 rfl) ?_
      refine lv_bipush (v := 50) hx hb dX6_atSteamer_87 (by decide) ?_
      refine lv_idiv hx hb dX6_atSteamer_89 (by decide) ?_
      refine lv_isub hx hb dX6_atSteamer_90 ?_
      refine lv_isub hx hb dX6_atSteamer_91 ?_
      refine r_ast (k := 12) (i := (nT (M 7 i))) S hh hz (by decide) (e6.trans hw.2.1.1) hw.2.1.2 dX6_atSteamer_92 (fun f9 H locs hh hz => ?_)
      refine lv_aload_n hx hb dX6_atSteamer_93 rfl (lv_at hl 2 rfl) ?_
      refine lv_dup hx hb dX6_atSteamer_94 rfl ?_
      refine r_get S hh hz hin 20 (by decide) rfl rfl (by decide +kernel) dX6_atSteamer_95 ?_
      refine lv_iload_n hx hb dX6_atSteamer_98 rfl (lv_at hl 0 rfl) ?_
      refine lv_iload_n hx hb dX6_atSteamer_99 rfl (lv_at hl 0 rfl) ?_
      refine lv_bipush (v := 50) hx hb dX6_atSteamer_100 (by decide) ?_
      refine lv_idiv hx hb dX6_atSteamer_102 (by decide) ?_
      refine lv_isub hx hb dX6_atSteamer_103 ?_
      refine lv_iadd hx hb dX6_atSteamer_104 ?_
      refine r_put S hh hz hin 20 (by decide) rfl rfl rfl (by decide +kernel) dX6_atSteamer_105 (fun f9 H locs hh hz => ?_)
      subst e54
      subst e6
      exact k_vret hx hb hr hlk hh dX6_atSteamer_108 (Nat.le_of_ble_eq_true rfl) (Nat.le_of_ble_eq_true rfl) ⟨rfl, rfl, hz.cast (by unfold atSteamerF pourF; (repeat' split); all_goals first | rfl | contradiction)⟩
  · refine lv_aload_n hx hb dX6_atSteamer_16 rfl (lv_at hl 1 rfl) ?_
    refine lv_iload_n hx hb dX6_atSteamer_17 rfl (lv_at hl 2 rfl) ?_
    refine k_callV0 (As := [.int (nI i)]) (c_turnHome hz hi) S hh (cwV 1 hts gX6_atSteamer_X6_turnHome rfl rfl rfl (by decide +kernel) ⟨(Nat.le_of_ble_eq_true rfl), (Nat.le_of_ble_eq_true rfl)⟩) hz.1.1 hz.1.2 (q := (RX6, TX6, 22)) rfl rfl rfl hl.1 rfl (Nat.le_of_ble_eq_true rfl) dX6_atSteamer_18 ⟨(Nat.le_of_ble_eq_true rfl), (Nat.le_of_ble_eq_true rfl)⟩ (fun v L1 f1 H locs hp hh => ?_)
    obtain ⟨rfl, hL1, hz1⟩ := hp
    subst hL1
    have hz := hz.trans hz1
    refine lv_goto (tgt := 108) hx hb dX6_atSteamer_21 (by decide) ?_
    subst e6
    exact k_vret hx hb hr hlk hh dX6_atSteamer_108 (Nat.le_of_ble_eq_true rfl) (Nat.le_of_ble_eq_true rfl) ⟨rfl, rfl, hz.cast (by unfold atSteamerF pourF; (repeat' split); all_goals first | rfl | contradiction)⟩

set_option maxRecDepth 100000 in
set_option maxHeartbeats 4000000 in
theorem c_goOn {l : Launch} {κ : Kx} {xm : Nat} {b : Nat → Nat} {M : MS} {L : List Nat} {f0 f : Nat → va_E} (hz : ZR κ xm b M L f0 f) {i : Nat} (hi : i < 6) (hw : LW M i) : PM l κ yX6_goOn wsX6_goOn ({ frames := 1, cells := 0, slots := 0, locals := 22 } : Room) [.ref xm, .int (nI i)] L f (fun v L1 f1 => v = none ∧ L = L1 ∧ ZR κ xm b (goOnF M i) L f f1) noX 0 0 := by
  refine PM.mk (cc := cX6_goOn) (maxL := 2) (ret := none) (by decide) rfl (Nat.le_of_ble_eq_true rfl) ?_
  intro p e s m args below meth c ls hx hb hml hr hlk hnm hown hts ht hh hl
  have hl : lv_has ls 2 [(0, .ref xm), (1, .int (nI i))] := hl
  have S : CallFix p m c cX6_goOn 2 s args wsX6_goOn RX6 := ⟨hx, hb, hml, hown, hts⟩
  have hin : ∀ w ∈ wsX60, w ∈ wsX6_goOn := by decide +kernel
  have hz := hz.self
  refine lv_aload_n hx hb dX6_goOn_0 rfl (lv_at hl 0 rfl) ?_
  refine r_get S hh hz hin 8 (by decide) rfl rfl (by decide +kernel) dX6_goOn_1 ?_
  refine lv_iload_n hx hb dX6_goOn_4 rfl (lv_at hl 1 rfl) ?_
  refine lv_dup2_11 hx hb dX6_goOn_5 rfl rfl ?_
  refine r_ald (k := 8) (i := i) S hh hz (by decide) rfl hi dX6_goOn_6 ?_
  refine lv_iconst (v := 1) hx hb dX6_goOn_7 (by decide) ?_
  refine lv_isub hx hb dX6_goOn_8 ?_
  refine r_ast (k := 8) (i := i) S hh hz (by decide) rfl hi dX6_goOn_9 (fun f9 H locs hh hz => ?_)
  refine lv_aload_n hx hb dX6_goOn_10 rfl (lv_at hl 0 rfl) ?_
  refine r_get S hh hz hin 8 (by decide) rfl rfl (by decide +kernel) dX6_goOn_11 ?_
  refine lv_iload_n hx hb dX6_goOn_14 rfl (lv_at hl 1 rfl) ?_
  refine r_ald (k := 8) (i := i) S hh hz (by decide) rfl hi dX6_goOn_15 ?_
  refine lv_if_le (tgt := 20) hx hb dX6_goOn_16 (by decide) (fun c16 => ?_) (fun c16 => ?_)
  · have d16 : ((stM M 8 i ((M 8 i) - 1)) 8 i) ≤ 0 := c16
    refine lv_aload_n hx hb dX6_goOn_20 rfl (lv_at hl 0 rfl) ?_
    refine r_get S hh hz hin 4 (by decide) rfl rfl (by decide +kernel) dX6_goOn_21 ?_
    refine lv_iload_n hx hb dX6_goOn_24 rfl (lv_at hl 1 rfl) ?_
    refine r_ald (k := 4) (i := i) S hh hz (by decide) rfl hi dX6_goOn_25 ?_
    refine lv_iconst (v := 1) hx hb dX6_goOn_26 (by decide) ?_
    refine lv_icmp_ne (tgt := 40) hx hb dX6_goOn_27 (by decide) (fun c27 => ?_) (fun c27 => ?_)
    · have d27 : ¬ (M 4 i) = 1 := c27
      refine lv_aload_n hx hb dX6_goOn_40 rfl (lv_at hl 0 rfl) ?_
      refine lv_iload_n hx hb dX6_goOn_41 rfl (lv_at hl 1 rfl) ?_
      refine k_callV0 (As := [.int (nI i)]) (c_endOrder hz hi hw) S hh (cwV 1 hts gX6_goOn_X6_endOrder rfl rfl rfl (by decide +kernel) ⟨(Nat.le_of_ble_eq_true rfl), (Nat.le_of_ble_eq_true rfl)⟩) hz.1.1 hz.1.2 (q := (RX6, TX6, 22)) rfl rfl rfl hl.1 rfl (Nat.le_of_ble_eq_true rfl) dX6_goOn_42 ⟨(Nat.le_of_ble_eq_true rfl), (Nat.le_of_ble_eq_true rfl)⟩ (fun v L1 f1 H locs hp hh => ?_)
      obtain ⟨rfl, hL1, hz1⟩ := hp
      subst hL1
      have hz := hz.trans hz1
      exact k_vret hx hb hr hlk hh dX6_goOn_45 (Nat.le_of_ble_eq_true rfl) (Nat.le_of_ble_eq_true rfl) ⟨rfl, rfl, hz.cast (by unfold goOnF goF; (repeat' split); all_goals first | rfl | contradiction)⟩
    · have d27 : (M 4 i) = 1 := c27
      refine lv_aload_n hx hb dX6_goOn_30 rfl (lv_at hl 0 rfl) ?_
      refine r_get S hh hz hin 4 (by decide) rfl rfl (by decide +kernel) dX6_goOn_31 ?_
      refine lv_iload_n hx hb dX6_goOn_34 rfl (lv_at hl 1 rfl) ?_
      refine lv_iconst (v := 2) hx hb dX6_goOn_35 (by decide) ?_
      refine r_ast (k := 4) (i := i) S hh hz (by decide) rfl hi dX6_goOn_36 (fun f9 H locs hh hz => ?_)
      refine lv_goto (tgt := 45) hx hb dX6_goOn_37 (by decide) ?_
      exact k_vret hx hb hr hlk hh dX6_goOn_45 (Nat.le_of_ble_eq_true rfl) (Nat.le_of_ble_eq_true rfl) ⟨rfl, rfl, hz.cast (by unfold goOnF goF; (repeat' split); all_goals first | rfl | contradiction)⟩
  · have d16 : ¬ ((stM M 8 i ((M 8 i) - 1)) 8 i) ≤ 0 := c16
    exact k_vret hx hb hr hlk hh dX6_goOn_19 (Nat.le_of_ble_eq_true rfl) (Nat.le_of_ble_eq_true rfl) ⟨rfl, rfl, hz.cast (by unfold goOnF goF; (repeat' split); all_goals first | rfl | contradiction)⟩

set_option maxRecDepth 100000 in
set_option maxHeartbeats 4000000 in
theorem c_work {l : Launch} {κ : Kx} {xm : Nat} {b : Nat → Nat} {M : MS} {L : List Nat} {f0 f : Nat → va_E} (hz : ZR κ xm b M L f0 f) {i : Nat} (hi : i < 6) (hw : LW M i) : PM l κ yX6_work wsX6_work ({ frames := 3, cells := 0, slots := 0, locals := 68 } : Room) [.ref xm, .int (nI i)] L f (fun v L1 f1 => v = none ∧ L = L1 ∧ ZR κ xm b (workF M i) L f f1) noX 0 0 := by
  refine PM.mk (cc := cX6_work) (maxL := 2) (ret := none) (by decide) rfl (Nat.le_of_ble_eq_true rfl) ?_
  intro p e s m args below meth c ls hx hb hml hr hlk hnm hown hts ht hh hl
  have hl : lv_has ls 2 [(0, .ref xm), (1, .int (nI i))] := hl
  have S : CallFix p m c cX6_work 2 s args wsX6_work RX6 := ⟨hx, hb, hml, hown, hts⟩
  have hin : ∀ w ∈ wsX60, w ∈ wsX6_work := by decide +kernel
  have hz := hz.self
  refine lv_aload_n hx hb dX6_work_0 rfl (lv_at hl 0 rfl) ?_
  refine r_get S hh hz hin 10 (by decide) rfl rfl (by decide +kernel) dX6_work_1 ?_
  refine lv_aload_n hx hb dX6_work_4 rfl (lv_at hl 0 rfl) ?_
  refine r_get S hh hz hin 6 (by decide) rfl rfl (by decide +kernel) dX6_work_5 ?_
  refine lv_iload_n hx hb dX6_work_8 rfl (lv_at hl 1 rfl) ?_
  refine r_ald (k := 6) (i := i) S hh hz (by decide) rfl hi dX6_work_9 ?_
  refine lv_dup2_11 hx hb dX6_work_10 rfl rfl ?_
  refine r_ald (k := 10) (i := (nT (M 6 i))) S hh hz (by decide) hw.1.1 hw.1.2 dX6_work_11 ?_
  refine lv_iconst (v := 1) hx hb dX6_work_12 (by decide) ?_
  refine lv_iadd hx hb dX6_work_13 ?_
  refine r_ast (k := 10) (i := (nT (M 6 i))) S hh hz (by decide) hw.1.1 hw.1.2 dX6_work_14 (fun f9 H locs hh hz => ?_)
  refine lv_aload_n hx hb dX6_work_15 rfl (lv_at hl 0 rfl) ?_
  refine r_get S hh hz hin 4 (by decide) rfl rfl (by decide +kernel) dX6_work_16 ?_
  refine lv_iload_n hx hb dX6_work_19 rfl (lv_at hl 1 rfl) ?_
  refine r_ald (k := 4) (i := i) S hh hz (by decide) rfl hi dX6_work_20 ?_
  refine lv_if_ne (tgt := 32) hx hb dX6_work_21 (by decide) (fun c21 => ?_) (fun c21 => ?_)
  · have d21 : ¬ (M 4 i) = 0 := c21
    refine lv_aload_n hx hb dX6_work_32 rfl (lv_at hl 0 rfl) ?_
    refine r_get S hh hz hin 4 (by decide) rfl rfl (by decide +kernel) dX6_work_33 ?_
    refine lv_iload_n hx hb dX6_work_36 rfl (lv_at hl 1 rfl) ?_
    refine r_ald (k := 4) (i := i) S hh hz (by decide) rfl hi dX6_work_37 ?_
    refine lv_iconst (v := 2) hx hb dX6_work_38 (by decide) ?_
    refine lv_icmp_ne (tgt := 50) hx hb dX6_work_39 (by decide) (fun c39 => ?_) (fun c39 => ?_)
    · have d39 : ¬ (M 4 i) = 2 := c39
      refine lv_aload_n hx hb dX6_work_50 rfl (lv_at hl 0 rfl) ?_
      refine lv_iload_n hx hb dX6_work_51 rfl (lv_at hl 1 rfl) ?_
      refine k_callV0 (As := [.int (nI i)]) (c_goOn hz hi hw) S hh (cwV 1 hts gX6_work_X6_goOn rfl rfl rfl (by decide +kernel) ⟨(Nat.le_of_ble_eq_true rfl), (Nat.le_of_ble_eq_true rfl)⟩) hz.1.1 hz.1.2 (q := (RX6, TX6, 22)) rfl rfl rfl hl.1 rfl (Nat.le_of_ble_eq_true rfl) dX6_work_52 ⟨(Nat.le_of_ble_eq_true rfl), (Nat.le_of_ble_eq_true rfl)⟩ (fun v L1 f1 H locs hp hh => ?_)
      obtain ⟨rfl, hL1, hz1⟩ := hp
      subst hL1
      have hz := hz.trans hz1
      exact k_vret hx hb hr hlk hh dX6_work_55 (Nat.le_of_ble_eq_true rfl) (Nat.le_of_ble_eq_true rfl) ⟨rfl, rfl, hz.cast (by unfold workF placeF; (repeat' split); all_goals first | rfl | contradiction)⟩
    · have d39 : (M 4 i) = 2 := c39
      refine lv_aload_n hx hb dX6_work_42 rfl (lv_at hl 0 rfl) ?_
      refine lv_iload_n hx hb dX6_work_43 rfl (lv_at hl 1 rfl) ?_
      refine k_callV0 (As := [.int (nI i)]) (c_atSteamer hz hi hw) S hh (cwV 1 hts gX6_work_X6_atSteamer rfl rfl rfl (by decide +kernel) ⟨(Nat.le_of_ble_eq_true rfl), (Nat.le_of_ble_eq_true rfl)⟩) hz.1.1 hz.1.2 (q := (RX6, TX6, 22)) rfl rfl rfl hl.1 rfl (Nat.le_of_ble_eq_true rfl) dX6_work_44 ⟨(Nat.le_of_ble_eq_true rfl), (Nat.le_of_ble_eq_true rfl)⟩ (fun v L1 f1 H locs hp hh => ?_)
      obtain ⟨rfl, hL1, hz1⟩ := hp
      subst hL1
      have hz := hz.trans hz1
      refine lv_goto (tgt := 55) hx hb dX6_work_47 (by decide) ?_
      exact k_vret hx hb hr hlk hh dX6_work_55 (Nat.le_of_ble_eq_true rfl) (Nat.le_of_ble_eq_true rfl) ⟨rfl, rfl, hz.cast (by unfold workF placeF; (repeat' split); all_goals first | rfl | contradiction)⟩
  · have d21 : (M 4 i) = 0 := c21
    refine lv_aload_n hx hb dX6_work_24 rfl (lv_at hl 0 rfl) ?_
    refine lv_iload_n hx hb dX6_work_25 rfl (lv_at hl 1 rfl) ?_
    refine k_callV0 (As := [.int (nI i)]) (c_atHulk hz hi hw) S hh (cwV 1 hts gX6_work_X6_atHulk rfl rfl rfl (by decide +kernel) ⟨(Nat.le_of_ble_eq_true rfl), (Nat.le_of_ble_eq_true rfl)⟩) hz.1.1 hz.1.2 (q := (RX6, TX6, 22)) rfl rfl rfl hl.1 rfl (Nat.le_of_ble_eq_true rfl) dX6_work_26 ⟨(Nat.le_of_ble_eq_true rfl), (Nat.le_of_ble_eq_true rfl)⟩ (fun v L1 f1 H locs hp hh => ?_)
    obtain ⟨rfl, hL1, hz1⟩ := hp
    subst hL1
    have hz := hz.trans hz1
    refine lv_goto (tgt := 55) hx hb dX6_work_29 (by decide) ?_
    exact k_vret hx hb hr hlk hh dX6_work_55 (Nat.le_of_ble_eq_true rfl) (Nat.le_of_ble_eq_true rfl) ⟨rfl, rfl, hz.cast (by unfold workF placeF; (repeat' split); all_goals first | rfl | contradiction)⟩
