theorem end_21 (M : MS) (i : Nat) : endF M i 21 = M 21 := by
  unfold endF
  split <;> rfl
theorem cast_21 (M : MS) (i : Nat) : castF M i 21 = M 21 := by
  unfold castF
  split
  · exact end_21 M i
  · rfl
theorem atHulk_21 (M : MS) (i : Nat) : atHulkF M i 21 = M 21 := by
  unfold atHulkF
  split
  · exact cast_21 M i
  · split
    · exact cast_21 M i
    · rfl
theorem atSteamer_21 (M : MS) (i : Nat) : atSteamerF M i 21 = M 21 := by
  unfold atSteamerF
  split
  · rfl
  · split <;> rfl
theorem goOn_21 (M : MS) (i : Nat) : goOnF M i 21 = M 21 := by
  unfold goOnF goF
  split
  · split
    · rfl
    · exact end_21 _ i
  · rfl
theorem work_21 (M : MS) (i : Nat) : workF M i 21 = M 21 := by
  unfold workF placeF
  split
  · exact atHulk_21 _ i
  · split
    · exact atSteamer_21 _ i
    · exact goOn_21 _ i
theorem leaveStep_21 (M : MS) (s i : Nat) : leaveStep M s i 21 = M 21 := by
  unfold leaveStep
  split
  · rfl
  · split
    · split
      · exact end_21 M i
      · split <;> rfl
    · rfl
theorem leaveLoop_21 (M : MS) (s : Nat) : ∀ n, leaveLoop M s n 21 = M 21
  | 0 => rfl
  | n + 1 => (leaveStep_21 _ s n).trans (leaveLoop_21 M s n)
theorem leave_21 (M : MS) (s n : Nat) : leaveF M s n 21 = M 21 := leaveLoop_21 _ s n
theorem rest_21 (M : MS) : ∀ n, restLoop M n 21 = M 21
  | 0 => rfl
  | n + 1 => (show restLoop M (n + 1) 21 = restLoop M n 21 from rfl).trans (rest_21 M n)
theorem buoy_21 (M : MS) (ns : Nat) : ∀ n, buoyLoop M ns n 21 = M 21
  | 0 => rfl
  | n + 1 => (show buoyLoop M ns (n + 1) 21 = buoyLoop M ns n 21 from rfl).trans (buoy_21 M ns n)
theorem workLoop_21 (M : MS) : ∀ n, workLoop M n 21 = M 21
  | 0 => rfl
  | n + 1 => by
    unfold workLoop
    split
    · exact workLoop_21 M n
    · exact (work_21 _ n).trans (workLoop_21 M n)
theorem gone_21 (M : MS) (nl : Nat) : ∀ n, (goneLoop M nl n).1 21 = M 21
  | 0 => rfl
  | n + 1 => by
    unfold goneLoop goneStep
    split
    · exact gone_21 M nl n
    · split
      · exact (leave_21 _ n nl).trans (gone_21 M nl n)
      · split
        · exact (leave_21 _ n nl).trans (gone_21 M nl n)
        · exact gone_21 M nl n
theorem hour_21 (M : MS) (nl ng ns : Nat) : (hourF M nl ng ns).1 21 = M 21 := (gone_21 _ nl ns).trans ((show scM (midF M nl ng ns) 19 (midF M nl ng ns 19 0 + 1) 21 = midF M nl ng ns 21 from rfl).trans ((workLoop_21 _ nl).trans ((buoy_21 _ ns ns).trans (rest_21 M ng))))
theorem hours_21 (M : MS) (nl ng ns : Nat) : ∀ n, (hoursLoop M nl ng ns n).1 21 = M 21
  | 0 => rfl
  | n + 1 => (hour_21 _ nl ng ns).trans (hours_21 M nl ng ns n)
theorem hours21 (M : MS) (nl ng ns i : Nat) : (hoursLoop (scM M 21 0) nl ng ns i).1 21 0 = 0 := by
  rw [hours_21]
  rfl

set_option maxRecDepth 100000 in
set_option maxHeartbeats 4000000 in
theorem c_leave {l : Launch} {κ : Kx} {xm : Nat} {b : Nat → Nat} {M : MS} {L : List Nat} {f0 f : Nat → va_E} (hz : ZR κ xm b M L f0 f) {nh nl ng ns : Nat} (hw : wfM M nh nl ng ns) {t : Nat} (htt : t < 600) : PM l κ yX6_leave wsX6_leave ({ frames := 1, cells := 0, slots := 0, locals := 22 } : Room) [.ref xm, .int (nI t)] L f (fun v L1 f1 => v = none ∧ L = L1 ∧ ZR κ xm b (leaveF M t nl) L f f1) noX 0 0 := by
  refine PM.mk (cc := cX6_leave) (maxL := 3) (ret := none) (by decide) rfl (Nat.le_of_ble_eq_true rfl) ?_
  intro p e s m args below meth c ls hx hb hml hr hlk hnm hown hts ht hh hl
  have hl : lv_has ls 3 [(0, .ref xm), (1, .int (nI t))] := hl
  have S : CallFix p m c cX6_leave 3 s args wsX6_leave RX6 := ⟨hx, hb, hml, hown, hts⟩
  have hin : ∀ w ∈ wsX60, w ∈ wsX6_leave := by decide +kernel
  have hz := hz.self
  obtain ⟨b15, b16, b17, b18⟩ := id hw.2.1
  refine lv_aload_n hx hb dX6_leave_0 rfl (lv_at hl 0 rfl) ?_
  refine r_get S hh hz hin 14 (by decide) rfl rfl (by decide +kernel) dX6_leave_1 ?_
  refine lv_iload_n hx hb dX6_leave_4 rfl (lv_at hl 1 rfl) ?_
  refine lv_aload_n hx hb dX6_leave_5 rfl (lv_at hl 0 rfl) ?_
  refine r_get S hh hz hin 12 (by decide) rfl rfl (by decide +kernel) dX6_leave_6 ?_
  refine lv_iload_n hx hb dX6_leave_9 rfl (lv_at hl 1 rfl) ?_
  refine r_ald (k := 12) (i := t) S hh hz (by decide) rfl htt dX6_leave_10 ?_
  refine lv_if_ne (tgt := 18) hx hb dX6_leave_11 (by decide) (fun c11 => ?_) (fun c11 => ?_)
  · refine lv_iconst (v := 3) hx hb dX6_leave_18 (by decide) ?_
    refine r_ast (k := 14) (i := t) S hh hz (by decide) rfl htt dX6_leave_19 (fun f9 H locs hh hz => ?_)
    refine lv_iconst (v := 0) hx hb dX6_leave_20 (by decide) ?_
    refine lv_istore_n (lv' := [(2, .int 0), (0, .ref xm), (1, .int (nI t))]) hx hb dX6_leave_21 rfl hl (by decide) rfl (fun ls hl => ?_)
    have hw2 : wfM (stM M 14 t 3) nh nl ng ns := hw.keep (Keep.rf.st (by decide))
    have loop : ∀ (n i : Nat), i ≤ nl → nl + 1 ≤ i + n → ∀ (f9 : Nat → va_E) (H : Heap) (locs : List Loc), HH κ L f9 s H locs → ZR κ xm b (leaveLoop (stM M 14 t 3) t i) L f f9 → ∀ ls : Array Slot, lv_has ls 3 [(0, .ref xm), (1, .int (nI t)), (2, .int (nI i))] → W p l e ({ frames := 1, cells := 0, slots := 0, locals := 22 } : Room) s m args below meth c H locs 0 0 (vx_MQ below (PQ κ (fun v L1 f1 => v = none ∧ L = L1 ∧ ZR κ xm b (leaveF M t nl) L f f1)) (PX κ L f noX) args s 0 0 (kA κ)) (F0 m 22 ls []) := by
      intro n
      induction n with
      | zero =>
        intro i  h1 h2
        exact absurd h2 (by omega)
      | succ n ih =>
        intro i  hi hin3 f9 H locs hh hz ls hl
        have hwi := hw2.keep (leaveLoop_keep Keep.rf t i)
        refine lv_iload_n hx hb dX6_leave_22 rfl (lv_at hl 2 rfl) ?_
        refine lv_aload_n hx hb dX6_leave_23 rfl (lv_at hl 0 rfl) ?_
        refine r_get S hh hz hin 16 (by decide) rfl rfl (by decide +kernel) dX6_leave_24 ?_
        refine lv_icmp_ge (tgt := 91) hx hb dX6_leave_27 (by decide) (fun c27 => ?_) (fun c27 => ?_)
        · have hie : i = nl := by
            rcases Nat.lt_or_ge i nl with q | q
            · exact absurd c27 (by rw [show leaveLoop _ t i 16 0 = nI nl from hwi.1.2.1]; exact nI_ge q (by omega))
            · omega
          exact k_vret hx hb hr hlk hh dX6_leave_91 (Nat.le_of_ble_eq_true rfl) (Nat.le_of_ble_eq_true rfl) ⟨rfl, rfl, hz.cast (by rw [hie]; unfold leaveF; first | rw [if_pos (by assumption)] | rw [if_neg (by assumption)])⟩
        · have hlt : i < nl := by
            rcases Nat.lt_or_ge i nl with q | q
            · exact q
            · exact absurd (by rw [show leaveLoop _ t i 16 0 = nI nl from hwi.1.2.1]; exact nI_le q (by omega)) c27
          have h6 : i < 6 := by omega
          refine lv_aload_n hx hb dX6_leave_30 rfl (lv_at hl 0 rfl) ?_
          refine r_get S hh hz hin 6 (by decide) rfl rfl (by decide +kernel) dX6_leave_31 ?_
          refine lv_iload_n hx hb dX6_leave_34 rfl (lv_at hl 2 rfl) ?_
          refine r_ald (k := 6) (i := i) S hh hz (by decide) rfl h6 dX6_leave_35 ?_
          refine lv_iconst (v := (-1)) hx hb dX6_leave_36 (by decide) ?_
          refine lv_icmp_eq (tgt := 85) hx hb dX6_leave_37 (by decide) (fun c37 => ?_) (fun c37 => ?_)
          · obtain ⟨x85, e85⟩ : ∃ y : Int32, y = (nI i) + 1 := ⟨_, rfl⟩
            refine lv_iinc (v := x85) (lv' := [(2, .int x85), (0, .ref xm), (1, .int (nI t))]) hx hb dX6_leave_85 hl (k := 2) rfl (by rw [e85]; rfl) (by decide) rfl (fun ls hl => ?_)
            refine lv_goto (tgt := 22) hx hb dX6_leave_88 (by decide) ?_
            obtain rfl : x85 = nI (i + 1) := by rw [e85]; exact nI_1 i
            exact ih (i + 1) (by omega) (by omega) _ _ _ hh (hz.cast (by rw [leaveLoop, leaveStep]; (repeat' split); all_goals first | rfl | contradiction)) ls (lv_sub hl [1, 2, 0] rfl)
          · have hlw := hwi.lw hlt c37
            refine lv_aload_n hx hb dX6_leave_40 rfl (lv_at hl 0 rfl) ?_
            refine r_get S hh hz hin 7 (by decide) rfl rfl (by decide +kernel) dX6_leave_41 ?_
            refine lv_iload_n hx hb dX6_leave_44 rfl (lv_at hl 2 rfl) ?_
            refine r_ald (k := 7) (i := i) S hh hz (by decide) rfl h6 dX6_leave_45 ?_
            refine lv_iload_n hx hb dX6_leave_46 rfl (lv_at hl 1 rfl) ?_
            refine lv_icmp_eq (tgt := 53) hx hb dX6_leave_47 (by decide) (fun c47 => ?_) (fun c47 => ?_)
            · refine lv_aload_n hx hb dX6_leave_53 rfl (lv_at hl 0 rfl) ?_
              refine r_get S hh hz hin 4 (by decide) rfl rfl (by decide +kernel) dX6_leave_54 ?_
              refine lv_iload_n hx hb dX6_leave_57 rfl (lv_at hl 2 rfl) ?_
              refine r_ald (k := 4) (i := i) S hh hz (by decide) rfl h6 dX6_leave_58 ?_
              refine lv_if_ne (tgt := 70) hx hb dX6_leave_59 (by decide) (fun c59 => ?_) (fun c59 => ?_)
              · refine lv_aload_n hx hb dX6_leave_70 rfl (lv_at hl 0 rfl) ?_
                refine r_get S hh hz hin 4 (by decide) rfl rfl (by decide +kernel) dX6_leave_71 ?_
                refine lv_iload_n hx hb dX6_leave_74 rfl (lv_at hl 2 rfl) ?_
                refine r_ald (k := 4) (i := i) S hh hz (by decide) rfl h6 dX6_leave_75 ?_
                refine lv_iconst (v := 3) hx hb dX6_leave_76 (by decide) ?_
                refine lv_icmp_ge (tgt := 85) hx hb dX6_leave_77 (by decide) (fun c77 => ?_) (fun c77 => ?_)
                · obtain ⟨x85, e85⟩ : ∃ y : Int32, y = (nI i) + 1 := ⟨_, rfl⟩
                  refine lv_iinc (v := x85) (lv' := [(2, .int x85), (0, .ref xm), (1, .int (nI t))]) hx hb dX6_leave_85 hl (k := 2) rfl (by rw [e85]; rfl) (by decide) rfl (fun ls hl => ?_)
                  refine lv_goto (tgt := 22) hx hb dX6_leave_88 (by decide) ?_
                  obtain rfl : x85 = nI (i + 1) := by rw [e85]; exact nI_1 i
                  exact ih (i + 1) (by omega) (by omega) _ _ _ hh (hz.cast (by rw [leaveLoop, leaveStep]; (repeat' split); all_goals first | rfl | contradiction)) ls (lv_sub hl [1, 2, 0] rfl)
                · refine lv_aload_n hx hb dX6_leave_80 rfl (lv_at hl 0 rfl) ?_
                  refine lv_iload_n hx hb dX6_leave_81 rfl (lv_at hl 2 rfl) ?_
                  refine k_callV0 (As := [.int (nI i)]) (c_turnHome hz h6) S hh (cwV 1 hts gX6_leave_X6_turnHome rfl rfl rfl (by decide +kernel) ⟨(Nat.le_of_ble_eq_true rfl), (Nat.le_of_ble_eq_true rfl)⟩) hz.1.1 hz.1.2 (q := (RX6, TX6, 22)) rfl rfl rfl hl.1 rfl (Nat.le_of_ble_eq_true rfl) dX6_leave_82 ⟨(Nat.le_of_ble_eq_true rfl), (Nat.le_of_ble_eq_true rfl)⟩ (fun v L1 f1 H locs hp hh => ?_)
                  obtain ⟨rfl, hL1, hz1⟩ := hp
                  subst hL1
                  have hz := hz.trans hz1
                  obtain ⟨x85, e85⟩ : ∃ y : Int32, y = (nI i) + 1 := ⟨_, rfl⟩
                  refine lv_iinc (v := x85) (lv' := [(2, .int x85), (0, .ref xm), (1, .int (nI t))]) hx hb dX6_leave_85 hl (k := 2) rfl (by rw [e85]; rfl) (by decide) rfl (fun ls hl => ?_)
                  refine lv_goto (tgt := 22) hx hb dX6_leave_88 (by decide) ?_
                  obtain rfl : x85 = nI (i + 1) := by rw [e85]; exact nI_1 i
                  exact ih (i + 1) (by omega) (by omega) _ _ _ hh (hz.cast (by rw [leaveLoop, leaveStep]; (repeat' split); all_goals first | rfl | contradiction)) ls (lv_sub hl [1, 2, 0] rfl)
              · refine lv_aload_n hx hb dX6_leave_62 rfl (lv_at hl 0 rfl) ?_
                refine lv_iload_n hx hb dX6_leave_63 rfl (lv_at hl 2 rfl) ?_
                refine k_callV0 (As := [.int (nI i)]) (c_endOrder hz h6 hlw) S hh (cwV 1 hts gX6_leave_X6_endOrder rfl rfl rfl (by decide +kernel) ⟨(Nat.le_of_ble_eq_true rfl), (Nat.le_of_ble_eq_true rfl)⟩) hz.1.1 hz.1.2 (q := (RX6, TX6, 22)) rfl rfl rfl hl.1 rfl (Nat.le_of_ble_eq_true rfl) dX6_leave_64 ⟨(Nat.le_of_ble_eq_true rfl), (Nat.le_of_ble_eq_true rfl)⟩ (fun v L1 f1 H locs hp hh => ?_)
                obtain ⟨rfl, hL1, hz1⟩ := hp
                subst hL1
                have hz := hz.trans hz1
                refine lv_goto (tgt := 85) hx hb dX6_leave_67 (by decide) ?_
                obtain ⟨x85, e85⟩ : ∃ y : Int32, y = (nI i) + 1 := ⟨_, rfl⟩
                refine lv_iinc (v := x85) (lv' := [(2, .int x85), (0, .ref xm), (1, .int (nI t))]) hx hb dX6_leave_85 hl (k := 2) rfl (by rw [e85]; rfl) (by decide) rfl (fun ls hl => ?_)
                refine lv_goto (tgt := 22) hx hb dX6_leave_88 (by decide) ?_
                obtain rfl : x85 = nI (i + 1) := by rw [e85]; exact nI_1 i
                exact ih (i + 1) (by omega) (by omega) _ _ _ hh (hz.cast (by rw [leaveLoop, leaveStep]; (repeat' split); all_goals first | rfl | contradiction)) ls (lv_sub hl [1, 2, 0] rfl)
            · refine lv_goto (tgt := 85) hx hb dX6_leave_50 (by decide) ?_
              obtain ⟨x85, e85⟩ : ∃ y : Int32, y = (nI i) + 1 := ⟨_, rfl⟩
              refine lv_iinc (v := x85) (lv' := [(2, .int x85), (0, .ref xm), (1, .int (nI t))]) hx hb dX6_leave_85 hl (k := 2) rfl (by rw [e85]; rfl) (by decide) rfl (fun ls hl => ?_)
              refine lv_goto (tgt := 22) hx hb dX6_leave_88 (by decide) ?_
              obtain rfl : x85 = nI (i + 1) := by rw [e85]; exact nI_1 i
              exact ih (i + 1) (by omega) (by omega) _ _ _ hh (hz.cast (by rw [leaveLoop, leaveStep]; (repeat' split); all_goals first | rfl | contradiction)) ls (lv_sub hl [1, 2, 0] rfl)
    exact loop (nl + 1) 0 (Nat.zero_le _) (by omega) _ _ _ hh hz ls (lv_sub hl [1, 2, 0] rfl)
  · refine lv_iconst (v := 2) hx hb dX6_leave_14 (by decide) ?_
    refine lv_goto (tgt := 19) hx hb dX6_leave_15 (by decide) ?_
    refine r_ast (k := 14) (i := t) S hh hz (by decide) rfl htt dX6_leave_19 (fun f9 H locs hh hz => ?_)
    refine lv_iconst (v := 0) hx hb dX6_leave_20 (by decide) ?_
    refine lv_istore_n (lv' := [(2, .int 0), (0, .ref xm), (1, .int (nI t))]) hx hb dX6_leave_21 rfl hl (by decide) rfl (fun ls hl => ?_)
    have hw2 : wfM (stM M 14 t 2) nh nl ng ns := hw.keep (Keep.rf.st (by decide))
    have loop : ∀ (n i : Nat), i ≤ nl → nl + 1 ≤ i + n → ∀ (f9 : Nat → va_E) (H : Heap) (locs : List Loc), HH κ L f9 s H locs → ZR κ xm b (leaveLoop (stM M 14 t 2) t i) L f f9 → ∀ ls : Array Slot, lv_has ls 3 [(0, .ref xm), (1, .int (nI t)), (2, .int (nI i))] → W p l e ({ frames := 1, cells := 0, slots := 0, locals := 22 } : Room) s m args below meth c H locs 0 0 (vx_MQ below (PQ κ (fun v L1 f1 => v = none ∧ L = L1 ∧ ZR κ xm b (leaveF M t nl) L f f1)) (PX κ L f noX) args s 0 0 (kA κ)) (F0 m 22 ls []) := by
      intro n
      induction n with
      | zero =>
        intro i  h1 h2
        exact absurd h2 (by omega)
      | succ n ih =>
        intro i  hi hin3 f9 H locs hh hz ls hl
        have hwi := hw2.keep (leaveLoop_keep Keep.rf t i)
        refine lv_iload_n hx hb dX6_leave_22 rfl (lv_at hl 2 rfl) ?_
        refine lv_aload_n hx hb dX6_leave_23 rfl (lv_at hl 0 rfl) ?_
        refine r_get S hh hz hin 16 (by decide) rfl rfl (by decide +kernel) dX6_leave_24 ?_
        refine lv_icmp_ge (tgt := 91) hx hb dX6_leave_27 (by decide) (fun c27 => ?_) (fun c27 => ?_)
        · have hie : i = nl := by
            rcases Nat.lt_or_ge i nl with q | q
            · exact absurd c27 (by rw [show leaveLoop _ t i 16 0 = nI nl from hwi.1.2.1]; exact nI_ge q (by omega))
            · omega
          exact k_vret hx hb hr hlk hh dX6_leave_91 (Nat.le_of_ble_eq_true rfl) (Nat.le_of_ble_eq_true rfl) ⟨rfl, rfl, hz.cast (by rw [hie]; unfold leaveF; first | rw [if_pos (by assumption)] | rw [if_neg (by assumption)])⟩
        · have hlt : i < nl := by
            rcases Nat.lt_or_ge i nl with q | q
            · exact q
            · exact absurd (by rw [show leaveLoop _ t i 16 0 = nI nl from hwi.1.2.1]; exact nI_le q (by omega)) c27
          have h6 : i < 6 := by omega
          refine lv_aload_n hx hb dX6_leave_30 rfl (lv_at hl 0 rfl) ?_
          refine r_get S hh hz hin 6 (by decide) rfl rfl (by decide +kernel) dX6_leave_31 ?_
          refine lv_iload_n hx hb dX6_leave_34 rfl (lv_at hl 2 rfl) ?_
          refine r_ald (k := 6) (i := i) S hh hz (by decide) rfl h6 dX6_leave_35 ?_
          refine lv_iconst (v := (-1)) hx hb dX6_leave_36 (by decide) ?_
          refine lv_icmp_eq (tgt := 85) hx hb dX6_leave_37 (by decide) (fun c37 => ?_) (fun c37 => ?_)
          · obtain ⟨x85, e85⟩ : ∃ y : Int32, y = (nI i) + 1 := ⟨_, rfl⟩
            refine lv_iinc (v := x85) (lv' := [(2, .int x85), (0, .ref xm), (1, .int (nI t))]) hx hb dX6_leave_85 hl (k := 2) rfl (by rw [e85]; rfl) (by decide) rfl (fun ls hl => ?_)
            refine lv_goto (tgt := 22) hx hb dX6_leave_88 (by decide) ?_
            obtain rfl : x85 = nI (i + 1) := by rw [e85]; exact nI_1 i
            exact ih (i + 1) (by omega) (by omega) _ _ _ hh (hz.cast (by rw [leaveLoop, leaveStep]; (repeat' split); all_goals first | rfl | contradiction)) ls (lv_sub hl [1, 2, 0] rfl)
          · have hlw := hwi.lw hlt c37
            refine lv_aload_n hx hb dX6_leave_40 rfl (lv_at hl 0 rfl) ?_
            refine r_get S hh hz hin 7 (by decide) rfl rfl (by decide +kernel) dX6_leave_41 ?_
            refine lv_iload_n hx hb dX6_leave_44 rfl (lv_at hl 2 rfl) ?_
            refine r_ald (k := 7) (i := i) S hh hz (by decide) rfl h6 dX6_leave_45 ?_
            refine lv_iload_n hx hb dX6_leave_46 rfl (lv_at hl 1 rfl) ?_
            refine lv_icmp_eq (tgt := 53) hx hb dX6_leave_47 (by decide) (fun c47 => ?_) (fun c47 => ?_)
            · refine lv_aload_n hx hb dX6_leave_53 rfl (lv_at hl 0 rfl) ?_
              refine r_get S hh hz hin 4 (by decide) rfl rfl (by decide +kernel) dX6_leave_54 ?_
              refine lv_iload_n hx hb dX6_leave_57 rfl (lv_at hl 2 rfl) ?_
              refine r_ald (k := 4) (i := i) S hh hz (by decide) rfl h6 dX6_leave_58 ?_
              refine lv_if_ne (tgt := 70) hx hb dX6_leave_59 (by decide) (fun c59 => ?_) (fun c59 => ?_)
              · refine lv_aload_n hx hb dX6_leave_70 rfl (lv_at hl 0 rfl) ?_
                refine r_get S hh hz hin 4 (by decide) rfl rfl (by decide +kernel) dX6_leave_71 ?_
                refine lv_iload_n hx hb dX6_leave_74 rfl (lv_at hl 2 rfl) ?_
                refine r_ald (k := 4) (i := i) S hh hz (by decide) rfl h6 dX6_leave_75 ?_
                refine lv_iconst (v := 3) hx hb dX6_leave_76 (by decide) ?_
                refine lv_icmp_ge (tgt := 85) hx hb dX6_leave_77 (by decide) (fun c77 => ?_) (fun c77 => ?_)
                · obtain ⟨x85, e85⟩ : ∃ y : Int32, y = (nI i) + 1 := ⟨_, rfl⟩
                  refine lv_iinc (v := x85) (lv' := [(2, .int x85), (0, .ref xm), (1, .int (nI t))]) hx hb dX6_leave_85 hl (k := 2) rfl (by rw [e85]; rfl) (by decide) rfl (fun ls hl => ?_)
                  refine lv_goto (tgt := 22) hx hb dX6_leave_88 (by decide) ?_
                  obtain rfl : x85 = nI (i + 1) := by rw [e85]; exact nI_1 i
                  exact ih (i + 1) (by omega) (by omega) _ _ _ hh (hz.cast (by rw [leaveLoop, leaveStep]; (repeat' split); all_goals first | rfl | contradiction)) ls (lv_sub hl [1, 2, 0] rfl)
                · refine lv_aload_n hx hb dX6_leave_80 rfl (lv_at hl 0 rfl) ?_
                  refine lv_iload_n hx hb dX6_leave_81 rfl (lv_at hl 2 rfl) ?_
                  refine k_callV0 (As := [.int (nI i)]) (c_turnHome hz h6) S hh (cwV 1 hts gX6_leave_X6_turnHome rfl rfl rfl (by decide +kernel) ⟨(Nat.le_of_ble_eq_true rfl), (Nat.le_of_ble_eq_true rfl)⟩) hz.1.1 hz.1.2 (q := (RX6, TX6, 22)) rfl rfl rfl hl.1 rfl (Nat.le_of_ble_eq_true rfl) dX6_leave_82 ⟨(Nat.le_of_ble_eq_true rfl), (Nat.le_of_ble_eq_true rfl)⟩ (fun v L1 f1 H locs hp hh => ?_)
                  obtain ⟨rfl, hL1, hz1⟩ := hp
                  subst hL1
                  have hz := hz.trans hz1
                  obtain ⟨x85, e85⟩ : ∃ y : Int32, y = (nI i) + 1 := ⟨_, rfl⟩
                  refine lv_iinc (v := x85) (lv' := [(2, .int x85), (0, .ref xm), (1, .int (nI t))]) hx hb dX6_leave_85 hl (k := 2) rfl (by rw [e85]; rfl) (by decide) rfl (fun ls hl => ?_)
                  refine lv_goto (tgt := 22) hx hb dX6_leave_88 (by decide) ?_
                  obtain rfl : x85 = nI (i + 1) := by rw [e85]; exact nI_1 i
                  exact ih (i + 1) (by omega) (by omega) _ _ _ hh (hz.cast (by rw [leaveLoop, leaveStep]; (repeat' split); all_goals first | rfl | contradiction)) ls (lv_sub hl [1, 2, 0] rfl)
              · refine lv_aload_n hx hb dX6_leave_62 rfl (lv_at hl 0 rfl) ?_
                refine lv_iload_n hx hb dX6_leave_63 rfl (lv_at hl 2 rfl) ?_
                refine k_callV0 (As := [.int (nI i)]) (c_endOrder hz h6 hlw) S hh (cwV 1 hts gX6_leave_X6_endOrder rfl rfl rfl (by decide +kernel) ⟨(Nat.le_of_ble_eq_true rfl), (Nat.le_of_ble_eq_true rfl)⟩) hz.1.1 hz.1.2 (q := (RX6, TX6, 22)) rfl rfl rfl hl.1 rfl (Nat.le_of_ble_eq_true rfl) dX6_leave_64 ⟨(Nat.le_of_ble_eq_true rfl), (Nat.le_of_ble_eq_true rfl)⟩ (fun v L1 f1 H locs hp hh => ?_)
                obtain ⟨rfl, hL1, hz1⟩ := hp
                subst hL1
                have hz := hz.trans hz1
                refine lv_goto (tgt := 85) hx hb dX6_leave_67 (by decide) ?_
                obtain ⟨x85, e85⟩ : ∃ y : Int32, y = (nI i) + 1 := ⟨_, rfl⟩
                refine lv_iinc (v := x85) (lv' := [(2, .int x85), (0, .ref xm), (1, .int (nI t))]) hx hb dX6_leave_85 hl (k := 2) rfl (by rw [e85]; rfl) (by decide) rfl (fun ls hl => ?_)
                refine lv_goto (tgt := 22) hx hb dX6_leave_88 (by decide) ?_
                obtain rfl : x85 = nI (i + 1) := by rw [e85]; exact nI_1 i
                exact ih (i + 1) (by omega) (by omega) _ _ _ hh (hz.cast (by rw [leaveLoop, leaveStep]; (repeat' split); all_goals first | rfl | contradiction)) ls (lv_sub hl [1, 2, 0] rfl)
            · refine lv_goto (tgt := 85) hx hb dX6_leave_50 (by decide) ?_
              obtain ⟨x85, e85⟩ : ∃ y : Int32, y = (nI i) + 1 := ⟨_, rfl⟩
              refine lv_iinc (v := x85) (lv' := [(2, .int x85), (0, .ref xm), (1, .int (nI t))]) hx hb dX6_leave_85 hl (k := 2) rfl (by rw [e85]; rfl) (by decide) rfl (fun ls hl => ?_)
              refine lv_goto (tgt := 22) hx hb dX6_leave_88 (by decide) ?_
              obtain rfl : x85 = nI (i + 1) := by rw [e85]; exact nI_1 i
              exact ih (i + 1) (by omega) (by omega) _ _ _ hh (hz.cast (by rw [leaveLoop, leaveStep]; (repeat' split); all_goals first | rfl | contradiction)) ls (lv_sub hl [1, 2, 0] rfl)
    exact loop (nl + 1) 0 (Nat.zero_le _) (by omega) _ _ _ hh hz ls (lv_sub hl [1, 2, 0] rfl)

set_option maxRecDepth 100000 in
set_option maxHeartbeats 4000000 in
theorem c_hourOnce {l : Launch} {κ : Kx} {xm : Nat} {b : Nat → Nat} {M : MS} {L : List Nat} {f0 f : Nat → va_E} (hz : ZR κ xm b M L f0 f) {nh nl ng ns : Nat} (hw : wfM M nh nl ng ns) : PM l κ yX6_hourOnce wsX6_hourOnce ({ frames := 4, cells := 0, slots := 0, locals := 89 } : Room) [.ref xm] L f (fun v L1 f1 => v = some (.int (hourF M nl ng ns).2) ∧ L = L1 ∧ ZR κ xm b (hourF M nl ng ns).1 L f f1) noX 0 0 := by
  refine PM.mk (cc := cX6_hourOnce) (maxL := 3) (ret := (some .int)) (by decide) rfl (Nat.le_of_ble_eq_true rfl) ?_
  intro p e s m args below meth c ls hx hb hml hr hlk hnm hown hts ht hh hl
  have hl : lv_has ls 3 [(0, .ref xm)] := hl
  have S : CallFix p m c cX6_hourOnce 3 s args wsX6_hourOnce RX6 := ⟨hx, hb, hml, hown, hts⟩
  have hin : ∀ w ∈ wsX60, w ∈ wsX6_hourOnce := by decide +kernel
  have hz := hz.self
  obtain ⟨b15, b16, b17, b18⟩ := id hw.2.1
  refine lv_iconst (v := 0) hx hb dX6_hourOnce_0 (by decide) ?_
  refine lv_istore_n (lv' := [(1, .int 0), (0, .ref xm)]) hx hb dX6_hourOnce_1 rfl hl (by decide) rfl (fun ls hl => ?_)
  have loop : ∀ (n i : Nat), i ≤ ng → ng + 1 ≤ i + n → ∀ (f9 : Nat → va_E) (H : Heap) (locs : List Loc), HH κ L f9 s H locs → ZR κ xm b (restLoop M i) L f f9 → ∀ ls : Array Slot, lv_has ls 3 [(0, .ref xm), (1, .int (nI i))] → W p l e ({ frames := 4, cells := 0, slots := 0, locals := 89 } : Room) s m args below meth c H locs 0 0 (vx_MQ below (PQ κ (fun v L1 f1 => v = some (.int (hourF M nl ng ns).2) ∧ L = L1 ∧ ZR κ xm b (hourF M nl ng ns).1 L f f1)) (PX κ L f noX) args s 0 0 (kA κ)) (F0 m 2 ls []) := by
    intro n
    induction n with
    | zero =>
      intro i  h1 h2
      exact absurd h2 (by omega)
    | succ n ih =>
      intro i  hi hin3 f9 H locs hh hz ls hl
      have hwi := hw.keep (rest_keep Keep.rf i)
      refine lv_iload_n hx hb dX6_hourOnce_2 rfl (lv_at hl 1 rfl) ?_
      refine lv_aload_n hx hb dX6_hourOnce_3 rfl (lv_at hl 0 rfl) ?_
      refine r_get S hh hz hin 17 (by decide) rfl rfl (by decide +kernel) dX6_hourOnce_4 ?_
      refine lv_icmp_ge (tgt := 39) hx hb dX6_hourOnce_7 (by decide) (fun c7 => ?_) (fun c7 => ?_)
      · have hie : i = ng := by
          rcases Nat.lt_or_ge i ng with q | q
          · exact absurd c7 (by rw [show restLoop M i 17 0 = nI ng from hwi.1.2.2.1]; exact nI_ge q (by omega))
          · omega
        refine lv_iconst (v := 0) hx hb dX6_hourOnce_39 (by decide) ?_
        refine lv_istore_n (lv' := [(1, .int 0), (0, .ref xm)]) hx hb dX6_hourOnce_40 rfl hl (by decide) rfl (fun ls hl => ?_)
        have hw2 := hw.keep (rest_keep Keep.rf ng)
        have loop2 : ∀ (n i : Nat), i ≤ ns → ns + 1 ≤ i + n → ∀ (f9 : Nat → va_E) (H : Heap) (locs : List Loc), HH κ L f9 s H locs → ZR κ xm b (buoyLoop (restLoop M ng) ns i) L f f9 → ∀ ls : Array Slot, lv_has ls 3 [(0, .ref xm), (1, .int (nI i))] → W p l e ({ frames := 4, cells := 0, slots := 0, locals := 89 } : Room) s m args below meth c H locs 0 0 (vx_MQ below (PQ κ (fun v L1 f1 => v = some (.int (hourF M nl ng ns).2) ∧ L = L1 ∧ ZR κ xm b (hourF M nl ng ns).1 L f f1)) (PX κ L f noX) args s 0 0 (kA κ)) (F0 m 41 ls []) := by
          intro n
          induction n with
          | zero =>
            intro i  h1 h2
            exact absurd h2 (by omega)
          | succ n ih =>
            intro i  hi hin3 f9 H locs hh hz ls hl
            have hwi := hw2.keep (buoy_keep Keep.rf ns i)
            refine lv_iload_n hx hb dX6_hourOnce_41 rfl (lv_at hl 1 rfl) ?_
            refine lv_aload_n hx hb dX6_hourOnce_42 rfl (lv_at hl 0 rfl) ?_
            refine r_get S hh hz hin 18 (by decide) rfl rfl (by decide +kernel) dX6_hourOnce_43 ?_
            refine lv_icmp_ge (tgt := 89) hx hb dX6_hourOnce_46 (by decide) (fun c46 => ?_) (fun c46 => ?_)
            · have hie : i = ns := by
                rcases Nat.lt_or_ge i ns with q | q
                · exact absurd c46 (by rw [show buoyLoop (restLoop M ng) ns i 18 0 = nI ns from hwi.1.2.2.2]; exact nI_ge q (by omega))
                · omega
              refine lv_iconst (v := 0) hx hb dX6_hourOnce_89 (by decide) ?_
              refine lv_istore_n (lv' := [(1, .int 0), (0, .ref xm)]) hx hb dX6_hourOnce_90 rfl hl (by decide) rfl (fun ls hl => ?_)
              have hw3 := hw2.keep (buoy_keep Keep.rf ns ns)
              have loop3 : ∀ (n i : Nat), i ≤ nl → nl + 1 ≤ i + n → ∀ (f9 : Nat → va_E) (H : Heap) (locs : List Loc), HH κ L f9 s H locs → ZR κ xm b (workLoop (buoyLoop (restLoop M ng) ns ns) i) L f f9 → ∀ ls : Array Slot, lv_has ls 3 [(0, .ref xm), (1, .int (nI i))] → W p l e ({ frames := 4, cells := 0, slots := 0, locals := 89 } : Room) s m args below meth c H locs 0 0 (vx_MQ below (PQ κ (fun v L1 f1 => v = some (.int (hourF M nl ng ns).2) ∧ L = L1 ∧ ZR κ xm b (hourF M nl ng ns).1 L f f1)) (PX κ L f noX) args s 0 0 (kA κ)) (F0 m 91 ls []) := by
                intro n
                induction n with
                | zero =>
                  intro i  h1 h2
                  exact absurd h2 (by omega)
                | succ n ih =>
                  intro i  hi hin3 f9 H locs hh hz ls hl
                  have hwi := hw3.keep (workLoop_keep Keep.rf i)
                  refine lv_iload_n hx hb dX6_hourOnce_91 rfl (lv_at hl 1 rfl) ?_
                  refine lv_aload_n hx hb dX6_hourOnce_92 rfl (lv_at hl 0 rfl) ?_
                  refine r_get S hh hz hin 16 (by decide) rfl rfl (by decide +kernel) dX6_hourOnce_93 ?_
                  refine lv_icmp_ge (tgt := 120) hx hb dX6_hourOnce_96 (by decide) (fun c96 => ?_) (fun c96 => ?_)
                  · have hie : i = nl := by
                      rcases Nat.lt_or_ge i nl with q | q
                      · exact absurd c96 (by rw [show workLoop (buoyLoop (restLoop M ng) ns ns) i 16 0 = nI nl from hwi.1.2.1]; exact nI_ge q (by omega))
                      · omega
                    refine lv_iconst (v := 0) hx hb dX6_hourOnce_120 (by decide) ?_
                    refine lv_istore_n (lv' := [(1, .int 0), (0, .ref xm)]) hx hb dX6_hourOnce_121 rfl hl (by decide) rfl (fun ls hl => ?_)
                    refine lv_aload_n hx hb dX6_hourOnce_122 rfl (lv_at hl 1 rfl) ?_
                    refine lv_dup hx hb dX6_hourOnce_123 rfl ?_
                    refine r_get S hh hz hin 19 (by decide) rfl rfl (by decide +kernel) dX6_hourOnce_124 ?_
                    refine lv_iconst (v := 1) hx hb dX6_hourOnce_127 (by decide) ?_
                    refine lv_iadd hx hb dX6_hourOnce_128 ?_
                    refine r_put S hh hz hin 19 (by decide) rfl rfl rfl (by decide +kernel) dX6_hourOnce_129 (fun f9 H locs hh hz => ?_)
                    refine lv_iconst (v := 0) hx hb dX6_hourOnce_132 (by decide) ?_
                    refine lv_istore_n (lv' := [(2, .int 0), (1, .int 0), (0, .ref xm)]) hx hb dX6_hourOnce_133 rfl hl (by decide) rfl (fun ls hl => ?_)
                    have hw4 : wfM (scM (midF M nl ng ns) 19 (midF M nl ng ns 19 0 + 1)) nh nl ng ns := (hw3.keep (workLoop_keep Keep.rf nl)).keep (Keep.rf.sc (by decide))
                    have loop4 : ∀ (n i : Nat) (x1 : Int32), i ≤ ns → ns + 1 ≤ i + n → x1 = (goneLoop (scM (midF M nl ng ns) 19 (midF M nl ng ns 19 0 + 1)) nl i).2 → ∀ (f9 : Nat → va_E) (H : Heap) (locs : List Loc), HH κ L f9 s H locs → ZR κ xm b (goneLoop (scM (midF M nl ng ns) 19 (midF M nl ng ns 19 0 + 1)) nl i).1 L f f9 → ∀ ls : Array Slot, lv_has ls 3 [(0, .ref xm), (1, .int x1), (2, .int (nI i))] → W p l e ({ frames := 4, cells := 0, slots := 0, locals := 89 } : Room) s m args below meth c H locs 0 0 (vx_MQ below (PQ κ (fun v L1 f1 => v = some (.int (hourF M nl ng ns).2) ∧ L = L1 ∧ ZR κ xm b (hourF M nl ng ns).1 L f f1)) (PX κ L f noX) args s 0 0 (kA κ)) (F0 m 134 ls []) := by
                      intro n
                      induction n with
                      | zero =>
                        intro i x1 h1 h2
                        exact absurd h2 (by omega)
                      | succ n ih =>
                        intro i x1 hi hin3 ex1 f9 H locs hh hz ls hl
                        have hwi := hw4.keep (gone_keep Keep.rf nl i)
                        refine lv_iload_n hx hb dX6_hourOnce_134 rfl (lv_at hl 2 rfl) ?_
                        refine lv_aload_n hx hb dX6_hourOnce_135 rfl (lv_at hl 0 rfl) ?_
                        refine r_get S hh hz hin 18 (by decide) rfl rfl (by decide +kernel) dX6_hourOnce_136 ?_
                        refine lv_icmp_ge (tgt := 188) hx hb dX6_hourOnce_139 (by decide) (fun c139 => ?_) (fun c139 => ?_)
                        · have hie : i = ns := by
                            rcases Nat.lt_or_ge i ns with q | q
                            · exact absurd c139 (by rw [show (goneLoop (scM (midF M nl ng ns) 19 (midF M nl ng ns 19 0 + 1)) nl i).1 18 0 = nI ns from hwi.1.2.2.2]; exact nI_ge q (by omega))
                            · omega
                          refine lv_iload_n hx hb dX6_hourOnce_188 rfl (lv_at hl 1 rfl) ?_
                          exact k_iret hx hb hr hlk hh dX6_hourOnce_189 (Nat.le_of_ble_eq_true rfl) (Nat.le_of_ble_eq_true rfl) ⟨congrArg (fun r => some (Value.int r)) (by rw [ex1, hie]; rfl), rfl, hz.cast (by rw [hie]; rfl)⟩
                        · have hlt : i < ns := by
                            rcases Nat.lt_or_ge i ns with q | q
                            · exact q
                            · exact absurd (by rw [show (goneLoop (scM (midF M nl ng ns) 19 (midF M nl ng ns 19 0 + 1)) nl i).1 18 0 = nI ns from hwi.1.2.2.2]; exact nI_le q (by omega)) c139
                          have h6 : i < 600 := by omega
                          refine lv_aload_n hx hb dX6_hourOnce_142 rfl (lv_at hl 0 rfl) ?_
                          refine r_get S hh hz hin 14 (by decide) rfl rfl (by decide +kernel) dX6_hourOnce_143 ?_
                          refine lv_iload_n hx hb dX6_hourOnce_146 rfl (lv_at hl 2 rfl) ?_
                          refine r_ald (k := 14) (i := i) S hh hz (by decide) rfl h6 dX6_hourOnce_147 ?_
                          refine lv_iconst (v := 2) hx hb dX6_hourOnce_148 (by decide) ?_
                          refine lv_icmp_ge (tgt := 182) hx hb dX6_hourOnce_149 (by decide) (fun c149 => ?_) (fun c149 => ?_)
                          · obtain ⟨x182, e182⟩ : ∃ y : Int32, y = (nI i) + 1 := ⟨_, rfl⟩
                            refine lv_iinc (v := x182) (lv' := [(2, .int x182), (0, .ref xm), (1, .int x1)]) hx hb dX6_hourOnce_182 hl (k := 2) rfl (by rw [e182]; rfl) (by decide) rfl (fun ls hl => ?_)
                            refine lv_goto (tgt := 134) hx hb dX6_hourOnce_185 (by decide) ?_
                            obtain rfl : x182 = nI (i + 1) := by rw [e182]; exact nI_1 i
                            exact ih (i + 1) x1 (by omega) (by omega) (by rw [goneLoop, goneStep]; first | (rw [ex1]; (repeat' split); all_goals first | rfl | contradiction) | ((repeat' split); all_goals first | rfl | contradiction)) _ _ _ hh (hz.cast (by rw [goneLoop, goneStep]; (repeat' split); all_goals first | rfl | contradiction)) ls (lv_sub hl [1, 2, 0] rfl)
                          · refine lv_aload_n hx hb dX6_hourOnce_152 rfl (lv_at hl 0 rfl) ?_
                            refine r_get S hh hz hin 12 (by decide) rfl rfl (by decide +kernel) dX6_hourOnce_153 ?_
                            refine lv_iload_n hx hb dX6_hourOnce_156 rfl (lv_at hl 2 rfl) ?_
                            refine r_ald (k := 12) (i := i) S hh hz (by decide) rfl h6 dX6_hourOnce_157 ?_
                            refine lv_if_eq (tgt := 174) hx hb dX6_hourOnce_158 (by decide) (fun c158 => ?_) (fun c158 => ?_)
                            · refine lv_aload_n hx hb dX6_hourOnce_174 rfl (lv_at hl 0 rfl) ?_
                              refine lv_iload_n hx hb dX6_hourOnce_175 rfl (lv_at hl 2 rfl) ?_
                              refine k_callV0 (As := [.int (nI i)]) (c_leave hz hwi h6) S hh (cwV 1 hts gX6_hourOnce_X6_leave rfl rfl rfl (by decide +kernel) ⟨(Nat.le_of_ble_eq_true rfl), (Nat.le_of_ble_eq_true rfl)⟩) hz.1.1 hz.1.2 (q := (RX6, TX6, 22)) rfl rfl rfl hl.1 rfl (Nat.le_of_ble_eq_true rfl) dX6_hourOnce_176 ⟨(Nat.le_of_ble_eq_true rfl), (Nat.le_of_ble_eq_true rfl)⟩ (fun v L1 f1 H locs hp hh => ?_)
                              obtain ⟨rfl, hL1, hz1⟩ := hp
                              subst hL1
                              have hz := hz.trans hz1
                              obtain ⟨x179, e179⟩ : ∃ y : Int32, y = x1 + 1 := ⟨_, rfl⟩
                              refine lv_iinc (v := x179) (lv' := [(1, .int x179), (0, .ref xm), (2, .int (nI i))]) hx hb dX6_hourOnce_179 hl (k := 1) rfl (by rw [e179]; rfl) (by decide) rfl (fun ls hl => ?_)
                              obtain ⟨x182, e182⟩ : ∃ y : Int32, y = (nI i) + 1 := ⟨_, rfl⟩
                              refine lv_iinc (v := x182) (lv' := [(2, .int x182), (1, .int x179), (0, .ref xm)]) hx hb dX6_hourOnce_182 hl (k := 2) rfl (by rw [e182]; rfl) (by decide) rfl (fun ls hl => ?_)
                              refine lv_goto (tgt := 134) hx hb dX6_hourOnce_185 (by decide) ?_
                              obtain rfl : x182 = nI (i + 1) := by rw [e182]; exact nI_1 i
                              exact ih (i + 1) x179 (by omega) (by omega) (by rw [e179, goneLoop, goneStep]; first | (rw [ex1]; (repeat' split); all_goals first | rfl | contradiction) | ((repeat' split); all_goals first | rfl | contradiction)) _ _ _ hh (hz.cast (by rw [goneLoop, goneStep]; (repeat' split); all_goals first | rfl | contradiction)) ls (lv_sub hl [2, 1, 0] rfl)
                            · refine lv_aload_n hx hb dX6_hourOnce_161 rfl (lv_at hl 0 rfl) ?_
                              refine r_get S hh hz hin 13 (by decide) rfl rfl (by decide +kernel) dX6_hourOnce_162 ?_
                              refine lv_iload_n hx hb dX6_hourOnce_165 rfl (lv_at hl 2 rfl) ?_
                              refine r_ald (k := 13) (i := i) S hh hz (by decide) rfl h6 dX6_hourOnce_166 ?_
                              refine lv_aload_n hx hb dX6_hourOnce_167 rfl (lv_at hl 0 rfl) ?_
                              refine r_get S hh hz hin 19 (by decide) rfl rfl (by decide +kernel) dX6_hourOnce_168 ?_
                              refine lv_icmp_ne (tgt := 182) hx hb dX6_hourOnce_171 (by decide) (fun c171 => ?_) (fun c171 => ?_)
                              · obtain ⟨x182, e182⟩ : ∃ y : Int32, y = (nI i) + 1 := ⟨_, rfl⟩
                                refine lv_iinc (v := x182) (lv' := [(2, .int x182), (0, .ref xm), (1, .int x1)]) hx hb dX6_hourOnce_182 hl (k := 2) rfl (by rw [e182]; rfl) (by decide) rfl (fun ls hl => ?_)
                                refine lv_goto (tgt := 134) hx hb dX6_hourOnce_185 (by decide) ?_
                                obtain rfl : x182 = nI (i + 1) := by rw [e182]; exact nI_1 i
                                exact ih (i + 1) x1 (by omega) (by omega) (by rw [goneLoop, goneStep]; first | (rw [ex1]; (repeat' split); all_goals first | rfl | contradiction) | ((repeat' split); all_goals first | rfl | contradiction)) _ _ _ hh (hz.cast (by rw [goneLoop, goneStep]; (repeat' split); all_goals first | rfl | contradiction)) ls (lv_sub hl [1, 2, 0] rfl)
                              · refine lv_aload_n hx hb dX6_hourOnce_174 rfl (lv_at hl 0 rfl) ?_
                                refine lv_iload_n hx hb dX6_hourOnce_175 rfl (lv_at hl 2 rfl) ?_
                                refine k_callV0 (As := [.int (nI i)]) (c_leave hz hwi h6) S hh (cwV 1 hts gX6_hourOnce_X6_leave rfl rfl rfl (by decide +kernel) ⟨(Nat.le_of_ble_eq_true rfl), (Nat.le_of_ble_eq_true rfl)⟩) hz.1.1 hz.1.2 (q := (RX6, TX6, 22)) rfl rfl rfl hl.1 rfl (Nat.le_of_ble_eq_true rfl) dX6_hourOnce_176 ⟨(Nat.le_of_ble_eq_true rfl), (Nat.le_of_ble_eq_true rfl)⟩ (fun v L1 f1 H locs hp hh => ?_)
                                obtain ⟨rfl, hL1, hz1⟩ := hp
                                subst hL1
                                have hz := hz.trans hz1
                                obtain ⟨x179, e179⟩ : ∃ y : Int32, y = x1 + 1 := ⟨_, rfl⟩
                                refine lv_iinc (v := x179) (lv' := [(1, .int x179), (0, .ref xm), (2, .int (nI i))]) hx hb dX6_hourOnce_179 hl (k := 1) rfl (by rw [e179]; rfl) (by decide) rfl (fun ls hl => ?_)
                                obtain ⟨x182, e182⟩ : ∃ y : Int32, y = (nI i) + 1 := ⟨_, rfl⟩
                                refine lv_iinc (v := x182) (lv' := [(2, .int x182), (1, .int x179), (0, .ref xm)]) hx hb dX6_hourOnce_182 hl (k := 2) rfl (by rw [e182]; rfl) (by decide) rfl (fun ls hl => ?_)
                                refine lv_goto (tgt := 134) hx hb dX6_hourOnce_185 (by decide) ?_
                                obtain rfl : x182 = nI (i + 1) := by rw [e182]; exact nI_1 i
                                exact ih (i + 1) x179 (by omega) (by omega) (by rw [e179, goneLoop, goneStep]; first | (rw [ex1]; (repeat' split); all_goals first | rfl | contradiction) | ((repeat' split); all_goals first | rfl | contradiction)) _ _ _ hh (hz.cast (by rw [goneLoop, goneStep]; (repeat' split); all_goals first | rfl | contradiction)) ls (lv_sub hl [2, 1, 0] rfl)
                    exact loop4 (ns + 1) 0 0 (Nat.zero_le _) (by omega) rfl _ _ _ hh (hz.cast (by rw [hie]; rfl)) ls (lv_sub hl [2, 1, 0] rfl)
                  · have hlt : i < nl := by
                      rcases Nat.lt_or_ge i nl with q | q
                      · exact q
                      · exact absurd (by rw [show workLoop (buoyLoop (restLoop M ng) ns ns) i 16 0 = nI nl from hwi.1.2.1]; exact nI_le q (by omega)) c96
                    have h6 : i < 6 := by omega
                    refine lv_aload_n hx hb dX6_hourOnce_99 rfl (lv_at hl 0 rfl) ?_
                    refine r_get S hh hz hin 6 (by decide) rfl rfl (by decide +kernel) dX6_hourOnce_100 ?_
                    refine lv_iload_n hx hb dX6_hourOnce_103 rfl (lv_at hl 1 rfl) ?_
                    refine r_ald (k := 6) (i := i) S hh hz (by decide) rfl h6 dX6_hourOnce_104 ?_
                    refine lv_iconst (v := (-1)) hx hb dX6_hourOnce_105 (by decide) ?_
                    refine lv_icmp_eq (tgt := 114) hx hb dX6_hourOnce_106 (by decide) (fun c106 => ?_) (fun c106 => ?_)
                    · obtain ⟨x114, e114⟩ : ∃ y : Int32, y = (nI i) + 1 := ⟨_, rfl⟩
                      refine lv_iinc (v := x114) (lv' := [(1, .int x114), (0, .ref xm)]) hx hb dX6_hourOnce_114 hl (k := 1) rfl (by rw [e114]; rfl) (by decide) rfl (fun ls hl => ?_)
                      refine lv_goto (tgt := 91) hx hb dX6_hourOnce_117 (by decide) ?_
                      obtain rfl : x114 = nI (i + 1) := by rw [e114]; exact nI_1 i
                      exact ih (i + 1) (by omega) (by omega) _ _ _ hh (hz.cast (by rw [workLoop]; (repeat' split); all_goals first | rfl | contradiction)) ls (lv_sub hl [1, 0] rfl)
                    · have hlw := hwi.lw hlt c106
                      refine lv_aload_n hx hb dX6_hourOnce_109 rfl (lv_at hl 0 rfl) ?_
                      refine lv_iload_n hx hb dX6_hourOnce_110 rfl (lv_at hl 1 rfl) ?_
                      refine k_callV0 (As := [.int (nI i)]) (c_work hz h6 hlw) S hh (cwV 1 hts gX6_hourOnce_X6_work rfl rfl rfl (by decide +kernel) ⟨(Nat.le_of_ble_eq_true rfl), (Nat.le_of_ble_eq_true rfl)⟩) hz.1.1 hz.1.2 (q := (RX6, TX6, 22)) rfl rfl rfl hl.1 rfl (Nat.le_of_ble_eq_true rfl) dX6_hourOnce_111 ⟨(Nat.le_of_ble_eq_true rfl), (Nat.le_of_ble_eq_true rfl)⟩ (fun v L1 f1 H locs hp hh => ?_)
                      obtain ⟨rfl, hL1, hz1⟩ := hp
                      subst hL1
                      have hz := hz.trans hz1
                      obtain ⟨x114, e114⟩ : ∃ y : Int32, y = (nI i) + 1 := ⟨_, rfl⟩
                      refine lv_iinc (v := x114) (lv' := [(1, .int x114), (0, .ref xm)]) hx hb dX6_hourOnce_114 hl (k := 1) rfl (by rw [e114]; rfl) (by decide) rfl (fun ls hl => ?_)
                      refine lv_goto (tgt := 91) hx hb dX6_hourOnce_117 (by decide) ?_
                      obtain rfl : x114 = nI (i + 1) := by rw [e114]; exact nI_1 i
                      exact ih (i + 1) (by omega) (by omega) _ _ _ hh (hz.cast (by rw [workLoop]; (repeat' split); all_goals first | rfl | contradiction)) ls (lv_sub hl [1, 0] rfl)
              exact loop3 (nl + 1) 0 (Nat.zero_le _) (by omega) _ _ _ hh (hz.cast (by rw [hie]; rfl)) ls (lv_sub hl [1, 0] rfl)
            · have hlt : i < ns := by
                rcases Nat.lt_or_ge i ns with q | q
                · exact q
                · exact absurd (by rw [show buoyLoop (restLoop M ng) ns i 18 0 = nI ns from hwi.1.2.2.2]; exact nI_le q (by omega)) c46
              have h6 : i < 600 := by omega
              refine lv_aload_n hx hb dX6_hourOnce_49 rfl (lv_at hl 0 rfl) ?_
              refine r_get S hh hz hin 14 (by decide) rfl rfl (by decide +kernel) dX6_hourOnce_50 ?_
              refine lv_iload_n hx hb dX6_hourOnce_53 rfl (lv_at hl 1 rfl) ?_
              refine lv_aload_n hx hb dX6_hourOnce_54 rfl (lv_at hl 0 rfl) ?_
              refine r_get S hh hz hin 14 (by decide) rfl rfl (by decide +kernel) dX6_hourOnce_55 ?_
              refine lv_iload_n hx hb dX6_hourOnce_58 rfl (lv_at hl 1 rfl) ?_
              refine r_ald (k := 14) (i := i) S hh hz (by decide) rfl h6 dX6_hourOnce_59 ?_
              refine lv_if_ne (tgt := 76) hx hb dX6_hourOnce_60 (by decide) (fun c60 => ?_) (fun c60 => ?_)
              · refine lv_aload_n hx hb dX6_hourOnce_76 rfl (lv_at hl 0 rfl) ?_
                refine r_get S hh hz hin 14 (by decide) rfl rfl (by decide +kernel) dX6_hourOnce_77 ?_
                refine lv_iload_n hx hb dX6_hourOnce_80 rfl (lv_at hl 1 rfl) ?_
                refine r_ald (k := 14) (i := i) S hh hz (by decide) rfl h6 dX6_hourOnce_81 ?_
                refine r_ast (k := 14) (i := i) S hh hz (by decide) rfl h6 dX6_hourOnce_82 (fun f9 H locs hh hz => ?_)
                obtain ⟨x83, e83⟩ : ∃ y : Int32, y = (nI i) + 1 := ⟨_, rfl⟩
                refine lv_iinc (v := x83) (lv' := [(1, .int x83), (0, .ref xm)]) hx hb dX6_hourOnce_83 hl (k := 1) rfl (by rw [e83]; rfl) (by decide) rfl (fun ls hl => ?_)
                refine lv_goto (tgt := 41) hx hb dX6_hourOnce_86 (by decide) ?_
                obtain rfl : x83 = nI (i + 1) := by rw [e83]; exact nI_1 i
                exact ih (i + 1) (by omega) (by omega) _ _ _ hh (hz.cast (by rw [buoyLoop, buoyStep]; (repeat' split); all_goals first | rfl | contradiction)) ls (lv_sub hl [1, 0] rfl)
              · refine lv_aload_n hx hb dX6_hourOnce_63 rfl (lv_at hl 0 rfl) ?_
                refine lv_iconst (v := 1) hx hb dX6_hourOnce_64 (by decide) ?_
                refine k_callV0 (As := [.int 1]) (c_many hz (how := 1) hwi.1.2.2.2 b18) S hh (cwV 1 hts gX6_hourOnce_X6_many rfl rfl rfl (by decide +kernel) ⟨(Nat.le_of_ble_eq_true rfl), (Nat.le_of_ble_eq_true rfl)⟩) hz.1.1 hz.1.2 (q := (RX6, TX6, 22)) rfl rfl rfl hl.1 rfl (Nat.le_of_ble_eq_true rfl) dX6_hourOnce_65 ⟨(Nat.le_of_ble_eq_true rfl), (Nat.le_of_ble_eq_true rfl)⟩ (fun v L1 f1 H locs hp hh => ?_)
                obtain ⟨rfl, hL1, hf1⟩ := hp
                subst hL1; subst hf1
                refine lv_iconst (v := 2) hx hb dX6_hourOnce_68 (by decide) ?_
                refine lv_icmp_ge (tgt := 76) hx hb dX6_hourOnce_69 (by decide) (fun c69 => ?_) (fun c69 => ?_)
                · refine lv_aload_n hx hb dX6_hourOnce_76 rfl (lv_at hl 0 rfl) ?_
                  refine r_get S hh hz hin 14 (by decide) rfl rfl (by decide +kernel) dX6_hourOnce_77 ?_
                  refine lv_iload_n hx hb dX6_hourOnce_80 rfl (lv_at hl 1 rfl) ?_
                  refine r_ald (k := 14) (i := i) S hh hz (by decide) rfl h6 dX6_hourOnce_81 ?_
                  refine r_ast (k := 14) (i := i) S hh hz (by decide) rfl h6 dX6_hourOnce_82 (fun f9 H locs hh hz => ?_)
                  obtain ⟨x83, e83⟩ : ∃ y : Int32, y = (nI i) + 1 := ⟨_, rfl⟩
                  refine lv_iinc (v := x83) (lv' := [(1, .int x83), (0, .ref xm)]) hx hb dX6_hourOnce_83 hl (k := 1) rfl (by rw [e83]; rfl) (by decide) rfl (fun ls hl => ?_)
                  refine lv_goto (tgt := 41) hx hb dX6_hourOnce_86 (by decide) ?_
                  obtain rfl : x83 = nI (i + 1) := by rw [e83]; exact nI_1 i
                  exact ih (i + 1) (by omega) (by omega) _ _ _ hh (hz.cast (by rw [buoyLoop, buoyStep]; (repeat' split); all_goals first | rfl | contradiction)) ls (lv_sub hl [1, 0] rfl)
                · refine lv_iconst (v := 1) hx hb dX6_hourOnce_72 (by decide) ?_
                  refine lv_goto (tgt := 82) hx hb dX6_hourOnce_73 (by decide) ?_
                  refine r_ast (k := 14) (i := i) S hh hz (by decide) rfl h6 dX6_hourOnce_82 (fun f9 H locs hh hz => ?_)
                  obtain ⟨x83, e83⟩ : ∃ y : Int32, y = (nI i) + 1 := ⟨_, rfl⟩
                  refine lv_iinc (v := x83) (lv' := [(1, .int x83), (0, .ref xm)]) hx hb dX6_hourOnce_83 hl (k := 1) rfl (by rw [e83]; rfl) (by decide) rfl (fun ls hl => ?_)
                  refine lv_goto (tgt := 41) hx hb dX6_hourOnce_86 (by decide) ?_
                  obtain rfl : x83 = nI (i + 1) := by rw [e83]; exact nI_1 i
                  exact ih (i + 1) (by omega) (by omega) _ _ _ hh (hz.cast (by rw [buoyLoop, buoyStep]; (repeat' split); all_goals first | rfl | contradiction)) ls (lv_sub hl [1, 0] rfl)
        exact loop2 (ns + 1) 0 (Nat.zero_le _) (by omega) _ _ _ hh (hz.cast (by rw [hie]; rfl)) ls (lv_sub hl [1, 0] rfl)
      · have hlt : i < ng := by
          rcases Nat.lt_or_ge i ng with q | q
          · exact q
          · exact absurd (by rw [show restLoop M i 17 0 = nI ng from hwi.1.2.2.1]; exact nI_le q (by omega)) c7
        have h6 : i < 6 := by omega
        refine lv_aload_n hx hb dX6_hourOnce_10 rfl (lv_at hl 0 rfl) ?_
        refine r_get S hh hz hin 11 (by decide) rfl rfl (by decide +kernel) dX6_hourOnce_11 ?_
        refine lv_iload_n hx hb dX6_hourOnce_14 rfl (lv_at hl 1 rfl) ?_
        refine lv_dup2_11 hx hb dX6_hourOnce_15 rfl rfl ?_
        refine r_ald (k := 11) (i := i) S hh hz (by decide) rfl h6 dX6_hourOnce_16 ?_
        refine lv_aload_n hx hb dX6_hourOnce_17 rfl (lv_at hl 0 rfl) ?_
        refine r_get S hh hz hin 11 (by decide) rfl rfl (by decide +kernel) dX6_hourOnce_18 ?_
        refine lv_iload_n hx hb dX6_hourOnce_21 rfl (lv_at hl 1 rfl) ?_
        refine r_ald (k := 11) (i := i) S hh hz (by decide) rfl h6 dX6_hourOnce_22 ?_
        refine lv_if_le (tgt := 30) hx hb dX6_hourOnce_23 (by decide) (fun c23 => ?_) (fun c23 => ?_)
        · refine lv_iconst (v := 0) hx hb dX6_hourOnce_30 (by decide) ?_
          refine lv_isub hx hb dX6_hourOnce_31 ?_
          refine r_ast (k := 11) (i := i) S hh hz (by decide) rfl h6 dX6_hourOnce_32 (fun f9 H locs hh hz => ?_)
          obtain ⟨x33, e33⟩ : ∃ y : Int32, y = (nI i) + 1 := ⟨_, rfl⟩
          refine lv_iinc (v := x33) (lv' := [(1, .int x33), (0, .ref xm)]) hx hb dX6_hourOnce_33 hl (k := 1) rfl (by rw [e33]; rfl) (by decide) rfl (fun ls hl => ?_)
          refine lv_goto (tgt := 2) hx hb dX6_hourOnce_36 (by decide) ?_
          obtain rfl : x33 = nI (i + 1) := by rw [e33]; exact nI_1 i
          exact ih (i + 1) (by omega) (by omega) _ _ _ hh (hz.cast (by rw [restLoop]; (repeat' split); all_goals first | rfl | contradiction)) ls (lv_sub hl [1, 0] rfl)
        · refine lv_iconst (v := 1) hx hb dX6_hourOnce_26 (by decide) ?_
          refine lv_goto (tgt := 31) hx hb dX6_hourOnce_27 (by decide) ?_
          refine lv_isub hx hb dX6_hourOnce_31 ?_
          refine r_ast (k := 11) (i := i) S hh hz (by decide) rfl h6 dX6_hourOnce_32 (fun f9 H locs hh hz => ?_)
          obtain ⟨x33, e33⟩ : ∃ y : Int32, y = (nI i) + 1 := ⟨_, rfl⟩
          refine lv_iinc (v := x33) (lv' := [(1, .int x33), (0, .ref xm)]) hx hb dX6_hourOnce_33 hl (k := 1) rfl (by rw [e33]; rfl) (by decide) rfl (fun ls hl => ?_)
          refine lv_goto (tgt := 2) hx hb dX6_hourOnce_36 (by decide) ?_
          obtain rfl : x33 = nI (i + 1) := by rw [e33]; exact nI_1 i
          exact ih (i + 1) (by omega) (by omega) _ _ _ hh (hz.cast (by rw [restLoop]; (repeat' split); all_goals first | rfl | contradiction)) ls (lv_sub hl [1, 0] rfl)
  exact loop (ng + 1) 0 (Nat.zero_le _) (by omega) _ _ _ hh (hz) ls (lv_sub hl [1, 0] rfl)

set_option maxRecDepth 100000 in
set_option maxHeartbeats 4000000 in
theorem c_hours {l : Launch} {κ : Kx} {xm : Nat} {b : Nat → Nat} {M : MS} {L : List Nat} {f0 f : Nat → va_E} (hz : ZR κ xm b M L f0 f) {nh nl ng ns : Nat} (hw : wfM M nh nl ng ns) {x : Int32} : PM l κ yX6_hours wsX6_hours ({ frames := 5, cells := 0, slots := 0, locals := 111 } : Room) [.ref xm, .int x] L f (fun v L1 f1 => v = some (.int (hoursF M nl ng ns x).2) ∧ L = L1 ∧ ZR κ xm b (hoursF M nl ng ns x).1 L f f1) noX 0 0 := by
  refine PM.mk (cc := cX6_hours) (maxL := 4) (ret := (some .int)) (by decide) rfl (Nat.le_of_ble_eq_true rfl) ?_
  intro p e s m args below meth c ls hx hb hml hr hlk hnm hown hts ht hh hl
  have hl : lv_has ls 4 [(0, .ref xm), (1, .int x)] := hl
  have S : CallFix p m c cX6_hours 4 s args wsX6_hours RX6 := ⟨hx, hb, hml, hown, hts⟩
  have hin : ∀ w ∈ wsX60, w ∈ wsX6_hours := by decide +kernel
  have hz := hz.self
  obtain ⟨b15, b16, b17, b18⟩ := id hw.2.1
  refine lv_aload_n hx hb dX6_hours_0 rfl (lv_at hl 0 rfl) ?_
  refine lv_iload_n hx hb dX6_hours_1 rfl (lv_at hl 1 rfl) ?_
  refine lv_iconst (v := 1) hx hb dX6_hours_2 (by decide) ?_
  refine lv_icmp_lt (tgt := 13) hx hb dX6_hours_3 (by decide) (fun c3 => ?_) (fun c3 => ?_)
  · refine lv_iconst (v := 1) hx hb dX6_hours_13 (by decide) ?_
    refine lv_goto (tgt := 18) hx hb dX6_hours_14 (by decide) ?_
    refine r_put S hh hz hin 21 (by decide) rfl rfl rfl (by decide +kernel) dX6_hours_18 (fun f9 H locs hh hz => ?_)
    refine lv_iconst (v := 0) hx hb dX6_hours_21 (by decide) ?_
    refine lv_istore_n (lv' := [(2, .int 0), (0, .ref xm), (1, .int x)]) hx hb dX6_hours_22 rfl hl (by decide) rfl (fun ls hl => ?_)
    refine lv_iconst (v := 0) hx hb dX6_hours_23 (by decide) ?_
    refine lv_istore_n (lv' := [(3, .int 0), (2, .int 0), (0, .ref xm), (1, .int x)]) hx hb dX6_hours_24 rfl hl (by decide) rfl (fun ls hl => ?_)
    refine lv_iload_n hx hb dX6_hours_25 rfl (lv_at hl 0 rfl) ?_
    refine lv_iload_n hx hb dX6_hours_26 rfl (lv_at hl 3 rfl) ?_
    refine lv_icmp_ge (tgt := 50) hx hb dX6_hours_27 (by decide) (fun c27 => ?_) (fun c27 => ?_)
    · have d27 : x ≤ 0 := c27
      refine lv_iload_n hx hb dX6_hours_50 rfl (lv_at hl 1 rfl) ?_
      exact k_iret hx hb hr hlk hh dX6_hours_51 (Nat.le_of_ble_eq_true rfl) (Nat.le_of_ble_eq_true rfl) (by
  have hT : hoursT x = 1 := by (unfold hoursT; (repeat' split); all_goals first | rfl | contradiction)
  exact ⟨congrArg (fun r => some (Value.int r)) (by rw [hoursF, if_neg (by rw [hT]; decide)]), rfl, hz.cast (by rw [hoursF, if_neg (by rw [hT]; decide)])⟩)
    · have d27 : ¬ x ≤ 0 := c27
      refine lv_aload_n hx hb dX6_hours_30 rfl (lv_at hl 2 rfl) ?_
      refine r_get S hh hz hin 21 (by decide) rfl rfl (by decide +kernel) dX6_hours_31 ?_
      refine lv_if_ne (tgt := 50) hx hb dX6_hours_34 (by decide) (fun _ => ?_) (fun c => absurd (show (1 : Int32) = (0 : Int32) from c) (by decide))
      refine lv_iload_n hx hb dX6_hours_50 rfl (lv_at hl 1 rfl) ?_
      exact k_iret hx hb hr hlk hh dX6_hours_51 (Nat.le_of_ble_eq_true rfl) (Nat.le_of_ble_eq_true rfl) (by
  have hT : hoursT x = 1 := by (unfold hoursT; (repeat' split); all_goals first | rfl | contradiction)
  exact ⟨congrArg (fun r => some (Value.int r)) (by rw [hoursF, if_neg (by rw [hT]; decide)]), rfl, hz.cast (by rw [hoursF, if_neg (by rw [hT]; decide)])⟩)
  · refine lv_iload_n hx hb dX6_hours_6 rfl (lv_at hl 1 rfl) ?_
    refine lv_sipush (v := 500) hx hb dX6_hours_7 (by decide) ?_
    refine lv_icmp_le (tgt := 17) hx hb dX6_hours_10 (by decide) (fun c10 => ?_) (fun c10 => ?_)
    · have hT : hoursT x = 0 := by (unfold hoursT; (repeat' split); all_goals first | rfl | contradiction)
      obtain ⟨k, hk, hxk⟩ := nI_of2 (M := 500) (n := 500) rfl (fun q => c3 (by rw [Int32.lt_iff_toInt_lt] at q ⊢; have e0 : (0 : Int32).toInt = 0 := rfl; have e1 : (1 : Int32).toInt = 1 := rfl; rw [e0] at q; rw [e1]; omega)) c10
      have ek : nT x = k := by rw [hxk]; exact nI_clamp (by omega)
      have hw2 : wfM (scM M 21 0) nh nl ng ns := hw.keep (Keep.rf.sc (by decide))
      refine lv_iconst (v := 0) hx hb dX6_hours_17 (by decide) ?_
      refine r_put S hh hz hin 21 (by decide) rfl rfl rfl (by decide +kernel) dX6_hours_18 (fun f9 H locs hh hz => ?_)
      refine lv_iconst (v := 0) hx hb dX6_hours_21 (by decide) ?_
      refine lv_istore_n (lv' := [(2, .int 0), (0, .ref xm), (1, .int x)]) hx hb dX6_hours_22 rfl hl (by decide) rfl (fun ls hl => ?_)
      refine lv_iconst (v := 0) hx hb dX6_hours_23 (by decide) ?_
      refine lv_istore_n (lv' := [(3, .int 0), (2, .int 0), (0, .ref xm), (1, .int x)]) hx hb dX6_hours_24 rfl hl (by decide) rfl (fun ls hl => ?_)
      have loop : ∀ (n i : Nat) (x2 : Int32), i ≤ k → k + 1 ≤ i + n → x2 = (hoursLoop (scM M 21 0) nl ng ns i).2 → ∀ (f9 : Nat → va_E) (H : Heap) (locs : List Loc), HH κ L f9 s H locs → ZR κ xm b (hoursLoop (scM M 21 0) nl ng ns i).1 L f f9 → ∀ ls : Array Slot, lv_has ls 4 [(0, .ref xm), (1, .int x), (2, .int x2), (3, .int (nI i))] → W p l e ({ frames := 5, cells := 0, slots := 0, locals := 111 } : Room) s m args below meth c H locs 0 0 (vx_MQ below (PQ κ (fun v L1 f1 => v = some (.int (hoursF M nl ng ns x).2) ∧ L = L1 ∧ ZR κ xm b (hoursF M nl ng ns x).1 L f f1)) (PX κ L f noX) args s 0 0 (kA κ)) (F0 m 25 ls []) := by
        intro n
        induction n with
        | zero =>
          intro i x2 h1 h2
          exact absurd h2 (by omega)
        | succ n ih =>
          intro i x2 hi hin3 ex2 f9 H locs hh hz ls hl
          have hwi := hw2.keep (hours_keep Keep.rf nl ng ns i)
          refine lv_iload_n hx hb dX6_hours_25 rfl (lv_at hl 3 rfl) ?_
          refine lv_iload_n hx hb dX6_hours_26 rfl (lv_at hl 1 rfl) ?_
          refine lv_icmp_ge (tgt := 50) hx hb dX6_hours_27 (by decide) (fun c27 => ?_) (fun c27 => ?_)
          · have c27b : nI k ≤ nI i := hxk ▸ c27
            have hie : i = k := by
              rcases Nat.lt_or_ge i k with q | q
              · exact absurd c27b (nI_ge q (by omega))
              · omega
            refine lv_iload_n hx hb dX6_hours_50 rfl (lv_at hl 2 rfl) ?_
            exact k_iret hx hb hr hlk hh dX6_hours_51 (Nat.le_of_ble_eq_true rfl) (Nat.le_of_ble_eq_true rfl) ⟨congrArg (fun r => some (Value.int r)) (by rw [hoursF, if_pos hT, ek, ex2, hie]), rfl, hz.cast (by rw [hoursF, if_pos hT, ek, hie])⟩
          · have c27b : ¬ nI k ≤ nI i := hxk ▸ c27
            have hlt : i < k := by
              rcases Nat.lt_or_ge i k with q | q
              · exact q
              · exact absurd (nI_le q (by omega)) c27b
            refine lv_aload_n hx hb dX6_hours_30 rfl (lv_at hl 0 rfl) ?_
            refine r_get S hh hz hin 21 (by decide) rfl rfl (by decide +kernel) dX6_hours_31 ?_
            refine lv_if_ne (tgt := 50) hx hb dX6_hours_34 (by decide) (fun c34 => ?_) (fun c34 => ?_)
            · exact absurd (show (hoursLoop (scM M 21 0) nl ng ns i).1 21 0 = 0 from hours21 M nl ng ns i) c34
            · refine lv_iload_n hx hb dX6_hours_37 rfl (lv_at hl 2 rfl) ?_
              refine lv_aload_n hx hb dX6_hours_38 rfl (lv_at hl 0 rfl) ?_
              refine k_callV0 (As := []) (c_hourOnce hz hwi) S hh (cwV 0 hts gX6_hours_X6_hourOnce rfl rfl rfl (by decide +kernel) ⟨(Nat.le_of_ble_eq_true rfl), (Nat.le_of_ble_eq_true rfl)⟩) hz.1.1 hz.1.2 (q := (RX6, TX6, 22)) rfl rfl rfl hl.1 rfl (Nat.le_of_ble_eq_true rfl) dX6_hours_39 ⟨(Nat.le_of_ble_eq_true rfl), (Nat.le_of_ble_eq_true rfl)⟩ (fun v L1 f1 H locs hp hh => ?_)
              obtain ⟨rfl, hL1, hz1⟩ := hp
              subst hL1
              have hz := hz.trans hz1
              refine lv_iadd hx hb dX6_hours_42 ?_
              refine lv_topi (fun x43 e43 => ?_)
              refine lv_istore_n (lv' := [(2, .int x43), (0, .ref xm), (1, .int x), (3, .int (nI i))]) hx hb dX6_hours_43 rfl hl (by decide) rfl (fun ls hl => ?_)
              obtain ⟨x44, e44⟩ : ∃ y : Int32, y = (nI i) + 1 := ⟨_, rfl⟩
              refine lv_iinc (v := x44) (lv' := [(3, .int x44), (2, .int x43), (0, .ref xm), (1, .int x)]) hx hb dX6_hours_44 hl (k := 3) rfl (by rw [e44]; rfl) (by decide) rfl (fun ls hl => ?_)
              refine lv_goto (tgt := 25) hx hb dX6_hours_47 (by decide) ?_
              obtain rfl : x44 = nI (i + 1) := by rw [e44]; exact nI_1 i
              exact ih (i + 1) x43 (by omega) (by omega) (by rw [e43, ex2, hoursLoop]) _ _ _ hh (hz.cast (by rw [hoursLoop])) ls (lv_sub hl [2, 3, 1, 0] rfl)
      exact loop (k + 1) 0 0 (Nat.zero_le _) (by omega) rfl _ _ _ hh hz ls (lv_sub hl [2, 3, 1, 0] rfl)
    · refine lv_iconst (v := 1) hx hb dX6_hours_13 (by decide) ?_
      refine lv_goto (tgt := 18) hx hb dX6_hours_14 (by decide) ?_
      refine r_put S hh hz hin 21 (by decide) rfl rfl rfl (by decide +kernel) dX6_hours_18 (fun f9 H locs hh hz => ?_)
      refine lv_iconst (v := 0) hx hb dX6_hours_21 (by decide) ?_
      refine lv_istore_n (lv' := [(2, .int 0), (0, .ref xm), (1, .int x)]) hx hb dX6_hours_22 rfl hl (by decide) rfl (fun ls hl => ?_)
      refine lv_iconst (v := 0) hx hb dX6_hours_23 (by decide) ?_
      refine lv_istore_n (lv' := [(3, .int 0), (2, .int 0), (0, .ref xm), (1, .int x)]) hx hb dX6_hours_24 rfl hl (by decide) rfl (fun ls hl => ?_)
      refine lv_iload_n hx hb dX6_hours_25 rfl (lv_at hl 0 rfl) ?_
      refine lv_iload_n hx hb dX6_hours_26 rfl (lv_at hl 3 rfl) ?_
      refine lv_icmp_ge (tgt := 50) hx hb dX6_hours_27 (by decide) (fun c27 => ?_) (fun c27 => ?_)
      · have d27 : x ≤ 0 := c27
        refine lv_iload_n hx hb dX6_hours_50 rfl (lv_at hl 1 rfl) ?_
        exact k_iret hx hb hr hlk hh dX6_hours_51 (Nat.le_of_ble_eq_true rfl) (Nat.le_of_ble_eq_true rfl) (by
  have hT : hoursT x = 1 := by (unfold hoursT; (repeat' split); all_goals first | rfl | contradiction)
  exact ⟨congrArg (fun r => some (Value.int r)) (by rw [hoursF, if_neg (by rw [hT]; decide)]), rfl, hz.cast (by rw [hoursF, if_neg (by rw [hT]; decide)])⟩)
      · have d27 : ¬ x ≤ 0 := c27
        refine lv_aload_n hx hb dX6_hours_30 rfl (lv_at hl 2 rfl) ?_
        refine r_get S hh hz hin 21 (by decide) rfl rfl (by decide +kernel) dX6_hours_31 ?_
        refine lv_if_ne (tgt := 50) hx hb dX6_hours_34 (by decide) (fun _ => ?_) (fun c => absurd (show (1 : Int32) = (0 : Int32) from c) (by decide))
        refine lv_iload_n hx hb dX6_hours_50 rfl (lv_at hl 1 rfl) ?_
        exact k_iret hx hb hr hlk hh dX6_hours_51 (Nat.le_of_ble_eq_true rfl) (Nat.le_of_ble_eq_true rfl) (by
  have hT : hoursT x = 1 := by (unfold hoursT; (repeat' split); all_goals first | rfl | contradiction)
  exact ⟨congrArg (fun r => some (Value.int r)) (by rw [hoursF, if_neg (by rw [hT]; decide)]), rfl, hz.cast (by rw [hoursF, if_neg (by rw [hT]; decide)])⟩)
