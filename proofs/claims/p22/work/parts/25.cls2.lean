theorem sw_in {v : Int32} {k : Int32} (h : v = k) : v.toInt = k.toInt := by rw [h]
theorem sw_out {v : Int32} (h0 : ¬ v = 0) (h1 : ¬ v = 1) (h2 : ¬ v = 2) : v.toInt < 0 ∨ 2 < v.toInt := by
  have e0 : v.toInt ≠ 0 := fun z => h0 (Int32.toInt_inj.mp (by rw [z]; rfl))
  have e1 : v.toInt ≠ 1 := fun z => h1 (Int32.toInt_inj.mp (by rw [z]; rfl))
  have e2 : v.toInt ≠ 2 := fun z => h2 (Int32.toInt_inj.mp (by rw [z]; rfl))
  omega

set_option maxRecDepth 100000 in
set_option maxHeartbeats 4000000 in
theorem g_work {l : Launch} {κ : Kx} {x : Nat} {a : AD} {N P : Nat → Nat} {C : MS} {L L0 : List Nat} {f0 f : Nat → va_E} (hz : ZC κ x a N P C L0 f0 L f) {i : Nat} (hi : i < N 1) (h6 : ¬ C 6 i = -1) (hg : nT (C 6 i) < N 2) (ht7 : nT (C 7 i) < N 3) (hh5 : nT (C 5 i) < N 0) : PM l κ yX5_work wsX5_work ({ frames := 3, cells := 0, slots := 0, locals := 70 } : Room) [.ref x, .ref (a 1 i), .ref (a 4 i)] L f (fun v L1 f1 => v = none ∧ L = L1 ∧ ZC κ x a N P (workG C i) L f L1 f1) noX 0 0 := by
  refine PM.mk (cc := cX5_work) (maxL := 3) (ret := none) (by decide) rfl (Nat.le_of_ble_eq_true rfl) ?_
  intro p e s m args below meth c ls hx hb hml hr hlk hnm hown hts ht hh hl
  have hl : lv_has ls 3 [(0, .ref x), (1, .ref (a 1 i)), (2, .ref (a 4 i))] := hl
  have S : CallFix p m c cX5_work 3 s args wsX5_work RX5 := ⟨hx, hb, hml, hown, hts⟩
  have inX0 : ∀ w ∈ wsX00, w ∈ wsX5_work := by decide +kernel
  have inX1 : ∀ w ∈ wsX10, w ∈ wsX5_work := by decide +kernel
  have inX2 : ∀ w ∈ wsX20, w ∈ wsX5_work := by decide +kernel
  have inX3 : ∀ w ∈ wsX30, w ∈ wsX5_work := by decide +kernel
  have inX4 : ∀ w ∈ wsX40, w ∈ wsX5_work := by decide +kernel
  have inX5 : ∀ w ∈ wsX50, w ∈ wsX5_work := by decide +kernel
  have hz := hz.self
  refine lv_aload_n hx hb dX5_work_0 rfl (lv_at hl 1 rfl) ?_
  refine x_get S hh hz 1 (by decide) (i := i) hi (Cn := RX2) (T := TX2) (Nn := 7) rfl inX2 3 (by decide) rfl rfl (by decide +kernel) dX5_work_1 ?_
  by_cases s0 : (C 4 i) = 0
  · refine lv_tableIn (off := 28) (tgt := 32) hx hb dX5_work_4 (by rw [s0]; decide) (by rw [s0]; decide) (by rw [s0]; rfl) (by decide) ?_
    refine lv_aload_n hx hb dX5_work_32 rfl (lv_at hl 1 rfl) ?_
    refine lv_aload_n hx hb dX5_work_33 rfl (lv_at hl 2 rfl) ?_
    refine k_callS0 (As := [.ref (a 1 i), .ref (a 4 i)]) (g_workH hz hi h6 hg ht7 hh5) S hh (va_cwS 2 hts gX5_work_X5_workAtHulk rfl rfl rfl (by decide +kernel) ⟨(Nat.le_of_ble_eq_true rfl), (Nat.le_of_ble_eq_true rfl)⟩) rfl hl.1 rfl (Nat.le_of_ble_eq_true rfl) dX5_work_34 ⟨(Nat.le_of_ble_eq_true rfl), (Nat.le_of_ble_eq_true rfl)⟩ (fun v L1 f1 H locs hp hh => ?_)
    obtain ⟨rfl, hL1, hz1⟩ := hp
    subst hL1
    have hz := hz.trans hz1
    refine lv_goto (tgt := 61) hx hb dX5_work_37 (by decide) ?_
    exact k_vret hx hb hr hlk hh dX5_work_61 (Nat.le_of_ble_eq_true rfl) (Nat.le_of_ble_eq_true rfl) ⟨rfl, rfl, hz.cast (by unfold workG; (repeat' split); all_goals first | rfl | contradiction)⟩
  by_cases s1 : (C 4 i) = 1
  · refine lv_tableIn (off := 36) (tgt := 40) hx hb dX5_work_4 (by rw [s1]; decide) (by rw [s1]; decide) (by rw [s1]; rfl) (by decide) ?_
    refine lv_aload_n hx hb dX5_work_40 rfl (lv_at hl 1 rfl) ?_
    refine k_callS0 (As := [.ref (a 1 i)]) (g_goOutward hz hi h6 hg ht7 hh5) S hh (va_cwS 1 hts gX5_work_X5_goOutward rfl rfl rfl (by decide +kernel) ⟨(Nat.le_of_ble_eq_true rfl), (Nat.le_of_ble_eq_true rfl)⟩) rfl hl.1 rfl (Nat.le_of_ble_eq_true rfl) dX5_work_41 ⟨(Nat.le_of_ble_eq_true rfl), (Nat.le_of_ble_eq_true rfl)⟩ (fun v L1 f1 H locs hp hh => ?_)
    obtain ⟨rfl, hL1, hz1⟩ := hp
    subst hL1
    have hz := hz.trans hz1
    refine lv_goto (tgt := 61) hx hb dX5_work_44 (by decide) ?_
    exact k_vret hx hb hr hlk hh dX5_work_61 (Nat.le_of_ble_eq_true rfl) (Nat.le_of_ble_eq_true rfl) ⟨rfl, rfl, hz.cast (by unfold workG; (repeat' split); all_goals first | rfl | contradiction)⟩
  by_cases s2 : (C 4 i) = 2
  · refine lv_tableIn (off := 43) (tgt := 47) hx hb dX5_work_4 (by rw [s2]; decide) (by rw [s2]; decide) (by rw [s2]; rfl) (by decide) ?_
    refine lv_aload_n hx hb dX5_work_47 rfl (lv_at hl 0 rfl) ?_
    refine lv_aload_n hx hb dX5_work_48 rfl (lv_at hl 1 rfl) ?_
    refine lv_aload_n hx hb dX5_work_49 rfl (lv_at hl 2 rfl) ?_
    refine k_callV0 (As := [.ref (a 1 i), .ref (a 4 i)]) (g_workS hz hi h6 hg ht7 hh5) S hh (cwV 2 hts gX5_work_X5_workAtSteamer rfl rfl rfl (by decide +kernel) ⟨(Nat.le_of_ble_eq_true rfl), (Nat.le_of_ble_eq_true rfl)⟩) hz.1.1.1 hz.1.1.2 (q := (RX5, TX5, 7)) rfl rfl rfl hl.1 rfl (Nat.le_of_ble_eq_true rfl) dX5_work_50 ⟨(Nat.le_of_ble_eq_true rfl), (Nat.le_of_ble_eq_true rfl)⟩ (fun v L1 f1 H locs hp hh => ?_)
    obtain ⟨rfl, hL1, hz1⟩ := hp
    subst hL1
    have hz := hz.trans hz1
    refine lv_goto (tgt := 61) hx hb dX5_work_53 (by decide) ?_
    exact k_vret hx hb hr hlk hh dX5_work_61 (Nat.le_of_ble_eq_true rfl) (Nat.le_of_ble_eq_true rfl) ⟨rfl, rfl, hz.cast (by unfold workG; (repeat' split); all_goals first | rfl | contradiction)⟩
  refine lv_tableOut (tgt := 56) hx hb dX5_work_4 (sw_out s0 s1 s2) (by decide) ?_
  refine lv_aload_n hx hb dX5_work_56 rfl (lv_at hl 1 rfl) ?_
  refine lv_aload_n hx hb dX5_work_57 rfl (lv_at hl 2 rfl) ?_
  refine k_callS0 (As := [.ref (a 1 i), .ref (a 4 i)]) (g_comeHome hz hi h6 hg ht7 hh5) S hh (va_cwS 2 hts gX5_work_X5_comeHome rfl rfl rfl (by decide +kernel) ⟨(Nat.le_of_ble_eq_true rfl), (Nat.le_of_ble_eq_true rfl)⟩) rfl hl.1 rfl (Nat.le_of_ble_eq_true rfl) dX5_work_58 ⟨(Nat.le_of_ble_eq_true rfl), (Nat.le_of_ble_eq_true rfl)⟩ (fun v L1 f1 H locs hp hh => ?_)
  obtain ⟨rfl, hL1, hz1⟩ := hp
  subst hL1
  have hz := hz.trans hz1
  exact k_vret hx hb hr hlk hh dX5_work_61 (Nat.le_of_ble_eq_true rfl) (Nat.le_of_ble_eq_true rfl) ⟨rfl, rfl, hz.cast (by unfold workG; (repeat' split); all_goals first | rfl | contradiction)⟩

set_option maxRecDepth 100000 in
set_option maxHeartbeats 4000000 in
theorem g_restGangs {l : Launch} {κ : Kx} {x : Nat} {a : AD} {N P : Nat → Nat} {C : MS} {L L0 : List Nat} {f0 f : Nat → va_E} (hz : ZC κ x a N P C L0 f0 L f) (hw : WC N P C) : PM l κ yX5_restGangs wsX5_restGangs ({ frames := 3, cells := 0, slots := 0, locals := 64 } : Room) [.ref x] L f (fun v L1 f1 => v = none ∧ L = L1 ∧ ZC κ x a N P (rstLoop C (N 2)) L f L1 f1) noX 0 0 := by
  refine PM.mk (cc := cX5_restGangs) (maxL := 3) (ret := none) (by decide) rfl (Nat.le_of_ble_eq_true rfl) ?_
  intro p e s m args below meth c ls hx hb hml hr hlk hnm hown hts ht hh hl
  have hl : lv_has ls 3 [(0, .ref x)] := hl
  have S : CallFix p m c cX5_restGangs 3 s args wsX5_restGangs RX5 := ⟨hx, hb, hml, hown, hts⟩
  have inX0 : ∀ w ∈ wsX00, w ∈ wsX5_restGangs := by decide +kernel
  have inX5 : ∀ w ∈ wsX50, w ∈ wsX5_restGangs := by decide +kernel
  have hz := hz.self
  obtain ⟨b0, b1, b2, b3, b4⟩ := id hw.1
  refine lv_iconst (v := 0) hx hb dX5_restGangs_0 (by decide) ?_
  refine lv_istore_n (lv' := [(1, .int 0), (0, .ref x)]) hx hb dX5_restGangs_1 rfl hl (by decide) rfl (fun ls hl => ?_)
  have loop : ∀ (n i : Nat), i ≤ N 2 → N 2 + 1 ≤ i + n → ∀ (f9 : Nat → va_E) (H : Heap) (locs : List Loc), HH κ L f9 s H locs → ZC κ x a N P (rstLoop C i) L f L f9 → ∀ ls : Array Slot, lv_has ls 3 [(0, .ref x), (1, .int (nI i))] → W p l e ({ frames := 3, cells := 0, slots := 0, locals := 64 } : Room) s m args below meth c H locs 0 0 (vx_MQ below (PQ κ (fun v L1 f1 => v = none ∧ L = L1 ∧ ZC κ x a N P (rstLoop C (N 2)) L f L1 f1)) (PX κ L f noX) args s 0 0 (kA κ)) (F0 m 2 ls []) := by
    intro n
    induction n with
    | zero =>
      intro i  h1 h2
      exact absurd h2 (by omega)
    | succ n ih =>
      intro i  hi hin3 f9 H locs hh hz ls hl
      refine lv_iload_n hx hb dX5_restGangs_2 rfl (lv_at hl 1 rfl) ?_
      refine lv_aload_n hx hb dX5_restGangs_3 rfl (lv_at hl 0 rfl) ?_
      refine xx_get S hh hz inX5 2 (by decide) rfl rfl (by decide +kernel) dX5_restGangs_4 ?_
      obtain ⟨mc7, hL7, hF7⟩ := hz.lst 2 (by decide)
      refine k_callV0 (As := []) (c_size hL7 hF7) S hh (cwV 0 hts gX5_restGangs_Jx4a65c_size_8abf5 rfl rfl rfl (by decide +kernel) ⟨(Nat.le_of_ble_eq_true rfl), (Nat.le_of_ble_eq_true rfl)⟩) hL7 hF7 (q := (RJx4a65c, TJx4a65c, 3)) rfl rfl rfl hl.1 rfl (Nat.le_of_ble_eq_true rfl) dX5_restGangs_7 ⟨(Nat.le_of_ble_eq_true rfl), (Nat.le_of_ble_eq_true rfl)⟩ (fun v L1 f1 H locs hp hh => ?_)
      obtain ⟨rfl, hL1, hf1⟩ := hp
      subst hL1; subst hf1
      refine lv_icmp_ge (tgt := 48) hx hb dX5_restGangs_10 (by decide) (fun c10 => ?_) (fun c10 => ?_)
      · have hie : i = N 2 := by
          rcases Nat.lt_or_ge i (N 2) with q | q
          · exact absurd c10 (nI_ge q (by omega))
          · omega
        exact k_vret hx hb hr hlk hh dX5_restGangs_48 (Nat.le_of_ble_eq_true rfl) (Nat.le_of_ble_eq_true rfl) ⟨rfl, rfl, hz.cast (by rw [hie])⟩
      · have hlt : i < N 2 := by
          rcases Nat.lt_or_ge i (N 2) with q | q
          · exact q
          · exact absurd (nI_le q (by omega)) c10
        refine lv_aload_n hx hb dX5_restGangs_13 rfl (lv_at hl 0 rfl) ?_
        refine xx_get S hh hz inX5 2 (by decide) rfl rfl (by decide +kernel) dX5_restGangs_14 ?_
        refine lv_iload_n hx hb dX5_restGangs_17 rfl (lv_at hl 1 rfl) ?_
        obtain ⟨mc18, hL18, hF18⟩ := hz.lst 2 (by decide)
        refine k_callV0 (As := [.int (nI i)]) (x_lget hz 2 (by decide) (i := i) hlt rfl) S hh (cwV 1 hts gX5_restGangs_Jx4a65c_get_915e3 rfl rfl rfl (by decide +kernel) ⟨(Nat.le_of_ble_eq_true rfl), (Nat.le_of_ble_eq_true rfl)⟩) hL18 hF18 (q := (RJx4a65c, TJx4a65c, 3)) rfl rfl rfl hl.1 rfl (Nat.le_of_ble_eq_true rfl) dX5_restGangs_18 ⟨(Nat.le_of_ble_eq_true rfl), (Nat.le_of_ble_eq_true rfl)⟩ (fun v L1 f1 H locs hp hh => ?_)
        obtain ⟨rfl, hL1, hf1⟩ := hp
        subst hL1; subst hf1
        refine h_cast hx hb hown hh (hz.1.2.1 2 i (by decide) hlt).1 (hz.1.2.1 2 i (by decide) hlt).2 (C := RX0) (T := TX0) (N := 5) rfl (hts (.classLink RX5 71 RX0) (by decide +kernel)) dX5_restGangs_21 ?_
        refine lv_astore_n (lv' := [(2, .ref (a 2 i)), (0, .ref x), (1, .int (nI i))]) hx hb dX5_restGangs_24 rfl hl (by decide) rfl (fun ls hl => ?_)
        refine lv_aload_n hx hb dX5_restGangs_25 rfl (lv_at hl 0 rfl) ?_
        refine x_get S hh hz 2 (by decide) (i := i) hlt (Cn := RX0) (T := TX0) (Nn := 5) rfl inX0 3 (by decide) rfl rfl (by decide +kernel) dX5_restGangs_26 ?_
        refine lv_if_le (tgt := 42) hx hb dX5_restGangs_29 (by decide) (fun c29 => ?_) (fun c29 => ?_)
        · obtain ⟨x42, e42⟩ : ∃ y : Int32, y = (nI i) + 1 := ⟨_, rfl⟩
          refine lv_iinc (v := x42) (lv' := [(1, .int x42), (2, .ref (a 2 i)), (0, .ref x)]) hx hb dX5_restGangs_42 hl (k := 2) rfl (by rw [e42]; rfl) (by decide) rfl (fun ls hl => ?_)
          refine lv_goto (tgt := 2) hx hb dX5_restGangs_45 (by decide) ?_
          obtain rfl : x42 = nI (i + 1) := by rw [e42]; exact nI_1 i
          exact ih (i + 1) (by omega) (by omega) _ _ _ hh (hz.cast (by rw [rstLoop]; (repeat' split); all_goals first | rfl | contradiction)) ls (lv_sub hl [2, 0] rfl)
        · refine lv_aload_n hx hb dX5_restGangs_32 rfl (lv_at hl 0 rfl) ?_
          refine lv_dup hx hb dX5_restGangs_33 rfl ?_
          refine x_get S hh hz 2 (by decide) (i := i) hlt (Cn := RX0) (T := TX0) (Nn := 5) rfl inX0 3 (by decide) rfl rfl (by decide +kernel) dX5_restGangs_34 ?_
          refine lv_iconst (v := 1) hx hb dX5_restGangs_37 (by decide) ?_
          refine lv_isub hx hb dX5_restGangs_38 ?_
          refine x_put S hh hz 2 (by decide) (i := i) hlt (Cn := RX0) (T := TX0) (Nn := 5) rfl inX0 tyX0 tyX0_ok nmX0 3 (by decide) (ty := .int) rfl rfl rfl rfl rfl (Nat.le_of_ble_eq_true rfl) (put2 _ _ _ _).2.1 (by decide +kernel) dX5_restGangs_39 (fun f9 H locs hh hz => ?_)
          obtain ⟨x42, e42⟩ : ∃ y : Int32, y = (nI i) + 1 := ⟨_, rfl⟩
          refine lv_iinc (v := x42) (lv' := [(1, .int x42), (2, .ref (a 2 i)), (0, .ref x)]) hx hb dX5_restGangs_42 hl (k := 2) rfl (by rw [e42]; rfl) (by decide) rfl (fun ls hl => ?_)
          refine lv_goto (tgt := 2) hx hb dX5_restGangs_45 (by decide) ?_
          obtain rfl : x42 = nI (i + 1) := by rw [e42]; exact nI_1 i
          exact ih (i + 1) (by omega) (by omega) _ _ _ hh (hz.cast (by rw [rstLoop]; (repeat' split); all_goals first | rfl | contradiction)) ls (lv_sub hl [2, 0] rfl)
  exact loop (N 2 + 1) 0 (Nat.zero_le _) (by omega) _ _ _ hh hz ls (lv_sub hl [1, 0] rfl)

set_option maxRecDepth 100000 in
set_option maxHeartbeats 4000000 in
theorem g_count {l : Launch} {κ : Kx} {x : Nat} {a : AD} {N P : Nat → Nat} {C : MS} {L L0 : List Nat} {f0 f : Nat → va_E} (hz : ZC κ x a N P C L0 f0 L f) (hw : WC N P C) {how : Int32} : PM l κ yX5_countFaring wsX5_countFaring ({ frames := 3, cells := 0, slots := 0, locals := 64 } : Room) [.ref x, .int how] L f (fun v L1 f1 => v = some (.int (cntG C P how (N 4))) ∧ L = L1 ∧ f = f1) noX 0 0 := by
  refine PM.mk (cc := cX5_countFaring) (maxL := 4) (ret := (some .int)) (by decide) rfl (Nat.le_of_ble_eq_true rfl) ?_
  intro p e s m args below meth c ls hx hb hml hr hlk hnm hown hts ht hh hl
  have hl : lv_has ls 4 [(0, .ref x), (1, .int how)] := hl
  have S : CallFix p m c cX5_countFaring 4 s args wsX5_countFaring RX5 := ⟨hx, hb, hml, hown, hts⟩
  have inX4 : ∀ w ∈ wsX40, w ∈ wsX5_countFaring := by decide +kernel
  have inX5 : ∀ w ∈ wsX50, w ∈ wsX5_countFaring := by decide +kernel
  obtain ⟨b0, b1, b2, b3, b4⟩ := id hw.1
  refine lv_iconst (v := 0) hx hb dX5_countFaring_0 (by decide) ?_
  refine lv_istore_n (lv' := [(2, .int 0), (0, .ref x), (1, .int how)]) hx hb dX5_countFaring_1 rfl hl (by decide) rfl (fun ls hl => ?_)
  refine lv_iconst (v := 0) hx hb dX5_countFaring_2 (by decide) ?_
  refine lv_istore_n (lv' := [(3, .int 0), (2, .int 0), (0, .ref x), (1, .int how)]) hx hb dX5_countFaring_3 rfl hl (by decide) rfl (fun ls hl => ?_)
  have loop : ∀ (n i : Nat) (x2 : Int32), i ≤ N 4 → N 4 + 1 ≤ i + n → x2 = cntG C P how i → ∀ (H : Heap) (locs : List Loc), HH κ L f s H locs → ∀ ls : Array Slot, lv_has ls 4 [(0, .ref x), (1, .int how), (2, .int x2), (3, .int (nI i))] → W p l e ({ frames := 3, cells := 0, slots := 0, locals := 64 } : Room) s m args below meth c H locs 0 0 (vx_MQ below (PQ κ (fun v L1 f1 => v = some (.int (cntG C P how (N 4))) ∧ L = L1 ∧ f = f1)) (PX κ L f noX) args s 0 0 (kA κ)) (F0 m 4 ls []) := by
    intro n
    induction n with
    | zero =>
      intro i x2 h1 h2
      exact absurd h2 (by omega)
    | succ n ih =>
      intro i x2 hi hin3 ex2 H locs hh ls hl
      refine lv_iload_n hx hb dX5_countFaring_4 rfl (lv_at hl 3 rfl) ?_
      refine lv_aload_n hx hb dX5_countFaring_5 rfl (lv_at hl 0 rfl) ?_
      refine xx_get S hh hz inX5 4 (by decide) rfl rfl (by decide +kernel) dX5_countFaring_6 ?_
      obtain ⟨mc9, hL9, hF9⟩ := hz.lst 4 (by decide)
      refine k_callV0 (As := []) (c_size hL9 hF9) S hh (cwV 0 hts gX5_countFaring_Jx4a65c_size_8abf5 rfl rfl rfl (by decide +kernel) ⟨(Nat.le_of_ble_eq_true rfl), (Nat.le_of_ble_eq_true rfl)⟩) hL9 hF9 (q := (RJx4a65c, TJx4a65c, 3)) rfl rfl rfl hl.1 rfl (Nat.le_of_ble_eq_true rfl) dX5_countFaring_9 ⟨(Nat.le_of_ble_eq_true rfl), (Nat.le_of_ble_eq_true rfl)⟩ (fun v L1 f1 H locs hp hh => ?_)
      obtain ⟨rfl, hL1, hf1⟩ := hp
      subst hL1; subst hf1
      refine lv_icmp_ge (tgt := 42) hx hb dX5_countFaring_12 (by decide) (fun c12 => ?_) (fun c12 => ?_)
      · have hie : i = N 4 := by
          rcases Nat.lt_or_ge i (N 4) with q | q
          · exact absurd c12 (nI_ge q (by omega))
          · omega
        refine lv_iload_n hx hb dX5_countFaring_42 rfl (lv_at hl 2 rfl) ?_
        exact k_iret hx hb hr hlk hh dX5_countFaring_43 (Nat.le_of_ble_eq_true rfl) (Nat.le_of_ble_eq_true rfl) ⟨congrArg (fun r => some (Value.int r)) (by rw [ex2, hie]), rfl, rfl⟩
      · have hlt : i < N 4 := by
          rcases Nat.lt_or_ge i (N 4) with q | q
          · exact q
          · exact absurd (nI_le q (by omega)) c12
        refine lv_aload_n hx hb dX5_countFaring_15 rfl (lv_at hl 0 rfl) ?_
        refine xx_get S hh hz inX5 4 (by decide) rfl rfl (by decide +kernel) dX5_countFaring_16 ?_
        refine lv_iload_n hx hb dX5_countFaring_19 rfl (lv_at hl 3 rfl) ?_
        obtain ⟨mc20, hL20, hF20⟩ := hz.lst 4 (by decide)
        refine k_callV0 (As := [.int (nI i)]) (x_lget hz 4 (by decide) (i := i) hlt rfl) S hh (cwV 1 hts gX5_countFaring_Jx4a65c_get_915e3 rfl rfl rfl (by decide +kernel) ⟨(Nat.le_of_ble_eq_true rfl), (Nat.le_of_ble_eq_true rfl)⟩) hL20 hF20 (q := (RJx4a65c, TJx4a65c, 3)) rfl rfl rfl hl.1 rfl (Nat.le_of_ble_eq_true rfl) dX5_countFaring_20 ⟨(Nat.le_of_ble_eq_true rfl), (Nat.le_of_ble_eq_true rfl)⟩ (fun v L1 f1 H locs hp hh => ?_)
        obtain ⟨rfl, hL1, hf1⟩ := hp
        subst hL1; subst hf1
        refine h_cast hx hb hown hh (hz.1.2.1 3 (P i) (by decide) (hw.2.2.2 i hlt)).1 (hz.1.2.1 3 (P i) (by decide) (hw.2.2.2 i hlt)).2 (C := RX4) (T := TX4) (N := 4) rfl (hts (.classLink RX5 82 RX4) (by decide +kernel)) dX5_countFaring_23 ?_
        refine x_get S hh hz 3 (by decide) (i := (P i)) (hw.2.2.2 i hlt) (Cn := RX4) (T := TX4) (Nn := 4) rfl inX4 3 (by decide) rfl rfl (by decide +kernel) dX5_countFaring_26 ?_
        refine lv_iload_n hx hb dX5_countFaring_29 rfl (lv_at hl 1 rfl) ?_
        refine lv_icmp_ne (tgt := 36) hx hb dX5_countFaring_30 (by decide) (fun c30 => ?_) (fun c30 => ?_)
        · obtain ⟨x36, e36⟩ : ∃ y : Int32, y = (nI i) + 1 := ⟨_, rfl⟩
          refine lv_iinc (v := x36) (lv' := [(3, .int x36), (0, .ref x), (1, .int how), (2, .int x2)]) hx hb dX5_countFaring_36 hl (k := 3) rfl (by rw [e36]; rfl) (by decide) rfl (fun ls hl => ?_)
          refine lv_goto (tgt := 4) hx hb dX5_countFaring_39 (by decide) ?_
          obtain rfl : x36 = nI (i + 1) := by rw [e36]; exact nI_1 i
          exact ih (i + 1) x2 (by omega) (by omega) (by rw [cntG, ex2]; (repeat' split); all_goals first | rfl | contradiction) _ _ hh ls (lv_sub hl [1, 2, 3, 0] rfl)
        · obtain ⟨x33, e33⟩ : ∃ y : Int32, y = x2 + 1 := ⟨_, rfl⟩
          refine lv_iinc (v := x33) (lv' := [(2, .int x33), (0, .ref x), (1, .int how), (3, .int (nI i))]) hx hb dX5_countFaring_33 hl (k := 2) rfl (by rw [e33]; rfl) (by decide) rfl (fun ls hl => ?_)
          obtain ⟨x36, e36⟩ : ∃ y : Int32, y = (nI i) + 1 := ⟨_, rfl⟩
          refine lv_iinc (v := x36) (lv' := [(3, .int x36), (2, .int x33), (0, .ref x), (1, .int how)]) hx hb dX5_countFaring_36 hl (k := 3) rfl (by rw [e36]; rfl) (by decide) rfl (fun ls hl => ?_)
          refine lv_goto (tgt := 4) hx hb dX5_countFaring_39 (by decide) ?_
          obtain rfl : x36 = nI (i + 1) := by rw [e36]; exact nI_1 i
          exact ih (i + 1) x33 (by omega) (by omega) (by rw [e33, cntG, ex2]; (repeat' split); all_goals first | rfl | contradiction) _ _ hh ls (lv_sub hl [2, 3, 1, 0] rfl)
  exact loop (N 4 + 1) 0 0 (Nat.zero_le _) (by omega) rfl _ _ hh ls (lv_sub hl [2, 3, 1, 0] rfl)

set_option maxRecDepth 100000 in
set_option maxHeartbeats 4000000 in
theorem g_takeBuoys {l : Launch} {κ : Kx} {x : Nat} {a : AD} {N P : Nat → Nat} {C : MS} {L L0 : List Nat} {f0 f : Nat → va_E} (hz : ZC κ x a N P C L0 f0 L f) (hw : WC N P C) : PM l κ yX5_takeBuoys wsX5_takeBuoys ({ frames := 4, cells := 0, slots := 0, locals := 87 } : Room) [.ref x] L f (fun v L1 f1 => v = none ∧ L = L1 ∧ ZC κ x a N P (byLoop P (C, cntG C P 1 (N 4)) (N 4)).1 L f L1 f1) noX 0 0 := by
  refine PM.mk (cc := cX5_takeBuoys) (maxL := 4) (ret := none) (by decide) rfl (Nat.le_of_ble_eq_true rfl) ?_
  intro p e s m args below meth c ls hx hb hml hr hlk hnm hown hts ht hh hl
  have hl : lv_has ls 4 [(0, .ref x)] := hl
  have S : CallFix p m c cX5_takeBuoys 4 s args wsX5_takeBuoys RX5 := ⟨hx, hb, hml, hown, hts⟩
  have inX4 : ∀ w ∈ wsX40, w ∈ wsX5_takeBuoys := by decide +kernel
  have inX5 : ∀ w ∈ wsX50, w ∈ wsX5_takeBuoys := by decide +kernel
  have hz := hz.self
  obtain ⟨b0, b1, b2, b3, b4⟩ := id hw.1
  refine lv_aload_n hx hb dX5_takeBuoys_0 rfl (lv_at hl 0 rfl) ?_
  refine lv_iconst (v := 1) hx hb dX5_takeBuoys_1 (by decide) ?_
  refine k_callV0 (As := [.int 1]) (g_count hz hw (how := 1)) S hh (cwV 1 hts gX5_takeBuoys_X5_countFaring rfl rfl rfl (by decide +kernel) ⟨(Nat.le_of_ble_eq_true rfl), (Nat.le_of_ble_eq_true rfl)⟩) hz.1.1.1 hz.1.1.2 (q := (RX5, TX5, 7)) rfl rfl rfl hl.1 rfl (Nat.le_of_ble_eq_true rfl) dX5_takeBuoys_2 ⟨(Nat.le_of_ble_eq_true rfl), (Nat.le_of_ble_eq_true rfl)⟩ (fun v L1 f1 H locs hp hh => ?_)
  obtain ⟨rfl, hL1, hf1⟩ := hp
  subst hL1; subst hf1
  refine lv_topi (fun x5 e5 => ?_)
  refine lv_istore_n (lv' := [(1, .int x5), (0, .ref x)]) hx hb dX5_takeBuoys_5 rfl hl (by decide) rfl (fun ls hl => ?_)
  refine lv_iconst (v := 0) hx hb dX5_takeBuoys_6 (by decide) ?_
  refine lv_istore_n (lv' := [(2, .int 0), (1, .int x5), (0, .ref x)]) hx hb dX5_takeBuoys_7 rfl hl (by decide) rfl (fun ls hl => ?_)
  have loop : ∀ (n i : Nat) (x1 : Int32), i ≤ N 4 → N 4 + 1 ≤ i + n → x1 = (byLoop P (C, cntG C P 1 (N 4)) i).2 → ∀ (f9 : Nat → va_E) (H : Heap) (locs : List Loc), HH κ L f9 s H locs → ZC κ x a N P (byLoop P (C, cntG C P 1 (N 4)) i).1 L f L f9 → ∀ ls : Array Slot, lv_has ls 4 [(0, .ref x), (1, .int x1), (2, .int (nI i))] → W p l e ({ frames := 4, cells := 0, slots := 0, locals := 87 } : Room) s m args below meth c H locs 0 0 (vx_MQ below (PQ κ (fun v L1 f1 => v = none ∧ L = L1 ∧ ZC κ x a N P (byLoop P (C, cntG C P 1 (N 4)) (N 4)).1 L f L1 f1)) (PX κ L f noX) args s 0 0 (kA κ)) (F0 m 8 ls []) := by
    intro n
    induction n with
    | zero =>
      intro i x1 h1 h2
      exact absurd h2 (by omega)
    | succ n ih =>
      intro i x1 hi hin3 ex1 f9 H locs hh hz ls hl
      refine lv_iload_n hx hb dX5_takeBuoys_8 rfl (lv_at hl 2 rfl) ?_
      refine lv_aload_n hx hb dX5_takeBuoys_9 rfl (lv_at hl 0 rfl) ?_
      refine xx_get S hh hz inX5 4 (by decide) rfl rfl (by decide +kernel) dX5_takeBuoys_10 ?_
      obtain ⟨mc13, hL13, hF13⟩ := hz.lst 4 (by decide)
      refine k_callV0 (As := []) (c_size hL13 hF13) S hh (cwV 0 hts gX5_takeBuoys_Jx4a65c_size_8abf5 rfl rfl rfl (by decide +kernel) ⟨(Nat.le_of_ble_eq_true rfl), (Nat.le_of_ble_eq_true rfl)⟩) hL13 hF13 (q := (RJx4a65c, TJx4a65c, 3)) rfl rfl rfl hl.1 rfl (Nat.le_of_ble_eq_true rfl) dX5_takeBuoys_13 ⟨(Nat.le_of_ble_eq_true rfl), (Nat.le_of_ble_eq_true rfl)⟩ (fun v L1 f1 H locs hp hh => ?_)
      obtain ⟨rfl, hL1, hf1⟩ := hp
      subst hL1; subst hf1
      refine lv_icmp_ge (tgt := 57) hx hb dX5_takeBuoys_16 (by decide) (fun c16 => ?_) (fun c16 => ?_)
      · have hie : i = N 4 := by
          rcases Nat.lt_or_ge i (N 4) with q | q
          · exact absurd c16 (nI_ge q (by omega))
          · omega
        exact k_vret hx hb hr hlk hh dX5_takeBuoys_57 (Nat.le_of_ble_eq_true rfl) (Nat.le_of_ble_eq_true rfl) ⟨rfl, rfl, hz.cast (by first | rw [hie] | rw [by_stay d21b (N 4) (by omega)])⟩
      · have hlt : i < N 4 := by
          rcases Nat.lt_or_ge i (N 4) with q | q
          · exact q
          · exact absurd (nI_le q (by omega)) c16
        refine lv_iload_n hx hb dX5_takeBuoys_19 rfl (lv_at hl 1 rfl) ?_
        refine lv_iconst (v := 2) hx hb dX5_takeBuoys_20 (by decide) ?_
        refine lv_icmp_ge (tgt := 57) hx hb dX5_takeBuoys_21 (by decide) (fun c21 => ?_) (fun c21 => ?_)
        · have d21b : 2 ≤ (byLoop P (C, cntG C P 1 (N 4)) i).2 := by rw [← ex1]; exact c21
          exact k_vret hx hb hr hlk hh dX5_takeBuoys_57 (Nat.le_of_ble_eq_true rfl) (Nat.le_of_ble_eq_true rfl) ⟨rfl, rfl, hz.cast (by first | rw [hie] | rw [by_stay d21b (N 4) (by omega)])⟩
        · have d21b : ¬ 2 ≤ (byLoop P (C, cntG C P 1 (N 4)) i).2 := by rw [← ex1]; exact c21
          refine lv_aload_n hx hb dX5_takeBuoys_24 rfl (lv_at hl 0 rfl) ?_
          refine xx_get S hh hz inX5 4 (by decide) rfl rfl (by decide +kernel) dX5_takeBuoys_25 ?_
          refine lv_iload_n hx hb dX5_takeBuoys_28 rfl (lv_at hl 2 rfl) ?_
          obtain ⟨mc29, hL29, hF29⟩ := hz.lst 4 (by decide)
          refine k_callV0 (As := [.int (nI i)]) (x_lget hz 4 (by decide) (i := i) hlt rfl) S hh (cwV 1 hts gX5_takeBuoys_Jx4a65c_get_915e3 rfl rfl rfl (by decide +kernel) ⟨(Nat.le_of_ble_eq_true rfl), (Nat.le_of_ble_eq_true rfl)⟩) hL29 hF29 (q := (RJx4a65c, TJx4a65c, 3)) rfl rfl rfl hl.1 rfl (Nat.le_of_ble_eq_true rfl) dX5_takeBuoys_29 ⟨(Nat.le_of_ble_eq_true rfl), (Nat.le_of_ble_eq_true rfl)⟩ (fun v L1 f1 H locs hp hh => ?_)
          obtain ⟨rfl, hL1, hf1⟩ := hp
          subst hL1; subst hf1
          refine h_cast hx hb hown hh (hz.1.2.1 3 (P i) (by decide) (hw.2.2.2 i hlt)).1 (hz.1.2.1 3 (P i) (by decide) (hw.2.2.2 i hlt)).2 (C := RX4) (T := TX4) (N := 4) rfl (hts (.classLink RX5 82 RX4) (by decide +kernel)) dX5_takeBuoys_32 ?_
          refine lv_astore_n (lv' := [(3, .ref (a 3 (P i))), (0, .ref x), (1, .int x1), (2, .int (nI i))]) hx hb dX5_takeBuoys_35 rfl hl (by decide) rfl (fun ls hl => ?_)
          refine lv_aload_n hx hb dX5_takeBuoys_36 rfl (lv_at hl 0 rfl) ?_
          refine x_get S hh hz 3 (by decide) (i := (P i)) (hw.2.2.2 i hlt) (Cn := RX4) (T := TX4) (Nn := 4) rfl inX4 3 (by decide) rfl rfl (by decide +kernel) dX5_takeBuoys_37 ?_
          refine lv_if_ne (tgt := 51) hx hb dX5_takeBuoys_40 (by decide) (fun c40 => ?_) (fun c40 => ?_)
          · obtain ⟨x51, e51⟩ : ∃ y : Int32, y = (nI i) + 1 := ⟨_, rfl⟩
            refine lv_iinc (v := x51) (lv' := [(2, .int x51), (3, .ref (a 3 (P i))), (0, .ref x), (1, .int x1)]) hx hb dX5_takeBuoys_51 hl (k := 3) rfl (by rw [e51]; rfl) (by decide) rfl (fun ls hl => ?_)
            refine lv_goto (tgt := 8) hx hb dX5_takeBuoys_54 (by decide) ?_
            obtain rfl : x51 = nI (i + 1) := by rw [e51]; exact nI_1 i
            exact ih (i + 1) x1 (by omega) (by omega) (by rw [byLoop, byG, if_neg d21b]; (repeat' split); all_goals first | contradiction | rfl | exact ex1 | (rw [ex1])) _ _ _ hh (hz.cast (by rw [byLoop, byG, if_neg d21b]; (repeat' split); all_goals first | rfl | contradiction)) ls (lv_sub hl [2, 3, 0] rfl)
          · refine lv_aload_n hx hb dX5_takeBuoys_43 rfl (lv_at hl 0 rfl) ?_
            refine lv_iconst (v := 1) hx hb dX5_takeBuoys_44 (by decide) ?_
            refine x_put S hh hz 3 (by decide) (i := (P i)) (hw.2.2.2 i hlt) (Cn := RX4) (T := TX4) (Nn := 4) rfl inX4 tyX4 tyX4_ok nmX4 3 (by decide) (ty := .int) rfl rfl rfl rfl rfl (Nat.le_of_ble_eq_true rfl) (put3 _ _ _ _).2.2 (by decide +kernel) dX5_takeBuoys_45 (fun f9 H locs hh hz => ?_)
            obtain ⟨x48, e48⟩ : ∃ y : Int32, y = x1 + 1 := ⟨_, rfl⟩
            refine lv_iinc (v := x48) (lv' := [(1, .int x48), (3, .ref (a 3 (P i))), (0, .ref x), (2, .int (nI i))]) hx hb dX5_takeBuoys_48 hl (k := 2) rfl (by rw [e48]; rfl) (by decide) rfl (fun ls hl => ?_)
            obtain ⟨x51, e51⟩ : ∃ y : Int32, y = (nI i) + 1 := ⟨_, rfl⟩
            refine lv_iinc (v := x51) (lv' := [(2, .int x51), (1, .int x48), (3, .ref (a 3 (P i))), (0, .ref x)]) hx hb dX5_takeBuoys_51 hl (k := 3) rfl (by rw [e51]; rfl) (by decide) rfl (fun ls hl => ?_)
            refine lv_goto (tgt := 8) hx hb dX5_takeBuoys_54 (by decide) ?_
            obtain rfl : x51 = nI (i + 1) := by rw [e51]; exact nI_1 i
            exact ih (i + 1) x48 (by omega) (by omega) (by rw [e48, byLoop, byG, if_neg d21b]; (repeat' split); all_goals first | contradiction | rfl | exact ex1 | (rw [ex1])) _ _ _ hh (hz.cast (by rw [byLoop, byG, if_neg d21b]; (repeat' split); all_goals first | rfl | contradiction)) ls (lv_sub hl [3, 1, 0] rfl)
  exact loop (N 4 + 1) 0 x5 (Nat.zero_le _) (by omega) e5 _ _ _ hh hz ls (lv_sub hl [2, 1, 0] rfl)

set_option maxRecDepth 100000 in
set_option maxHeartbeats 4000000 in
theorem g_workLighters {l : Launch} {κ : Kx} {x : Nat} {a : AD} {N P : Nat → Nat} {C : MS} {L L0 : List Nat} {f0 f : Nat → va_E} (hz : ZC κ x a N P C L0 f0 L f) (hw : WC N P C) : PM l κ yX5_workLighters wsX5_workLighters ({ frames := 4, cells := 0, slots := 0, locals := 92 } : Room) [.ref x] L f (fun v L1 f1 => v = none ∧ L = L1 ∧ ZC κ x a N P (wkLoop C (N 1)) L f L1 f1) noX 0 0 := by
  refine PM.mk (cc := cX5_workLighters) (maxL := 4) (ret := none) (by decide) rfl (Nat.le_of_ble_eq_true rfl) ?_
  intro p e s m args below meth c ls hx hb hml hr hlk hnm hown hts ht hh hl
  have hl : lv_has ls 4 [(0, .ref x)] := hl
  have S : CallFix p m c cX5_workLighters 4 s args wsX5_workLighters RX5 := ⟨hx, hb, hml, hown, hts⟩
  have inX0 : ∀ w ∈ wsX00, w ∈ wsX5_workLighters := by decide +kernel
  have inX1 : ∀ w ∈ wsX10, w ∈ wsX5_workLighters := by decide +kernel
  have inX2 : ∀ w ∈ wsX20, w ∈ wsX5_workLighters := by decide +kernel
  have inX3 : ∀ w ∈ wsX30, w ∈ wsX5_workLighters := by decide +kernel
  have inX4 : ∀ w ∈ wsX40, w ∈ wsX5_workLighters := by decide +kernel
  have inX5 : ∀ w ∈ wsX50, w ∈ wsX5_workLighters := by decide +kernel
  have hz := hz.self
  obtain ⟨b0, b1, b2, b3, b4⟩ := id hw.1
  refine lv_iconst (v := 0) hx hb dX5_workLighters_0 (by decide) ?_
  refine lv_istore_n (lv' := [(1, .int 0), (0, .ref x)]) hx hb dX5_workLighters_1 rfl hl (by decide) rfl (fun ls hl => ?_)
  have loop : ∀ (n i : Nat), i ≤ N 1 → N 1 + 1 ≤ i + n → ∀ (f9 : Nat → va_E) (H : Heap) (locs : List Loc), HH κ L f9 s H locs → ZC κ x a N P (wkLoop C i) L f L f9 → ∀ ls : Array Slot, lv_has ls 4 [(0, .ref x), (1, .int (nI i))] → W p l e ({ frames := 4, cells := 0, slots := 0, locals := 92 } : Room) s m args below meth c H locs 0 0 (vx_MQ below (PQ κ (fun v L1 f1 => v = none ∧ L = L1 ∧ ZC κ x a N P (wkLoop C (N 1)) L f L1 f1)) (PX κ L f noX) args s 0 0 (kA κ)) (F0 m 2 ls []) := by
    intro n
    induction n with
    | zero =>
      intro i  h1 h2
      exact absurd h2 (by omega)
    | succ n ih =>
      intro i  hi hin3 f9 H locs hh hz ls hl
      have hwi := hw.keep (wkLoop_kc KC.rf i)
      refine lv_iload_n hx hb dX5_workLighters_2 rfl (lv_at hl 1 rfl) ?_
      refine lv_aload_n hx hb dX5_workLighters_3 rfl (lv_at hl 0 rfl) ?_
      refine xx_get S hh hz inX5 1 (by decide) rfl rfl (by decide +kernel) dX5_workLighters_4 ?_
      obtain ⟨mc7, hL7, hF7⟩ := hz.lst 1 (by decide)
      refine k_callV0 (As := []) (c_size hL7 hF7) S hh (cwV 0 hts gX5_workLighters_Jx4a65c_size_8abf5 rfl rfl rfl (by decide +kernel) ⟨(Nat.le_of_ble_eq_true rfl), (Nat.le_of_ble_eq_true rfl)⟩) hL7 hF7 (q := (RJx4a65c, TJx4a65c, 3)) rfl rfl rfl hl.1 rfl (Nat.le_of_ble_eq_true rfl) dX5_workLighters_7 ⟨(Nat.le_of_ble_eq_true rfl), (Nat.le_of_ble_eq_true rfl)⟩ (fun v L1 f1 H locs hp hh => ?_)
      obtain ⟨rfl, hL1, hf1⟩ := hp
      subst hL1; subst hf1
      refine lv_icmp_ge (tgt := 59) hx hb dX5_workLighters_10 (by decide) (fun c10 => ?_) (fun c10 => ?_)
      · have hie : i = N 1 := by
          rcases Nat.lt_or_ge i (N 1) with q | q
          · exact absurd c10 (nI_ge q (by omega))
          · omega
        exact k_vret hx hb hr hlk hh dX5_workLighters_59 (Nat.le_of_ble_eq_true rfl) (Nat.le_of_ble_eq_true rfl) ⟨rfl, rfl, hz.cast (by rw [hie])⟩
      · have hlt : i < N 1 := by
          rcases Nat.lt_or_ge i (N 1) with q | q
          · exact q
          · exact absurd (nI_le q (by omega)) c10
        refine lv_aload_n hx hb dX5_workLighters_13 rfl (lv_at hl 0 rfl) ?_
        refine xx_get S hh hz inX5 1 (by decide) rfl rfl (by decide +kernel) dX5_workLighters_14 ?_
        refine lv_iload_n hx hb dX5_workLighters_17 rfl (lv_at hl 1 rfl) ?_
        obtain ⟨mc18, hL18, hF18⟩ := hz.lst 1 (by decide)
        refine k_callV0 (As := [.int (nI i)]) (x_lget hz 1 (by decide) (i := i) hlt rfl) S hh (cwV 1 hts gX5_workLighters_Jx4a65c_get_915e3 rfl rfl rfl (by decide +kernel) ⟨(Nat.le_of_ble_eq_true rfl), (Nat.le_of_ble_eq_true rfl)⟩) hL18 hF18 (q := (RJx4a65c, TJx4a65c, 3)) rfl rfl rfl hl.1 rfl (Nat.le_of_ble_eq_true rfl) dX5_workLighters_18 ⟨(Nat.le_of_ble_eq_true rfl), (Nat.le_of_ble_eq_true rfl)⟩ (fun v L1 f1 H locs hp hh => ?_)
        obtain ⟨rfl, hL1, hf1⟩ := hp
        subst hL1; subst hf1
        refine h_cast hx hb hown hh (hz.1.2.1 1 i (by decide) hlt).1 (hz.1.2.1 1 i (by decide) hlt).2 (C := RX2) (T := TX2) (N := 7) rfl (hts (.classLink RX5 60 RX2) (by decide +kernel)) dX5_workLighters_21 ?_
        refine lv_astore_n (lv' := [(2, .ref (a 1 i)), (0, .ref x), (1, .int (nI i))]) hx hb dX5_workLighters_24 rfl hl (by decide) rfl (fun ls hl => ?_)
        refine lv_aload_n hx hb dX5_workLighters_25 rfl (lv_at hl 0 rfl) ?_
        by_cases h6_26 : ((wkLoop C i) 6 i) = -1
        · refine x_get S hh hz 1 (by decide) (i := i) hlt (Cn := RX2) (T := TX2) (Nn := 7) rfl inX2 6 (by decide) (v := .null) (by simp [fsOf, lFv, h6_26]) rfl (by decide +kernel) dX5_workLighters_26 ?_
          refine lv_astore_nN (lv' := [(3, .null), (2, .ref (a 1 i)), (0, .ref x), (1, .int (nI i))]) hx hb dX5_workLighters_29 rfl hl (by decide) rfl (fun ls hl => ?_)
          refine lv_aload_nN hx hb dX5_workLighters_30 rfl (lv_at hl 0 rfl) ?_
          refine lv_ifnullN (tgt := 53) hx hb dX5_workLighters_31 (by decide) ?_
          obtain ⟨x53, e53⟩ : ∃ y : Int32, y = (nI i) + 1 := ⟨_, rfl⟩
          refine lv_iinc (v := x53) (lv' := [(1, .int x53), (3, .null), (2, .ref (a 1 i)), (0, .ref x)]) hx hb dX5_workLighters_53 hl (k := 3) rfl (by rw [e53]; rfl) (by decide) rfl (fun ls hl => ?_)
          refine lv_goto (tgt := 2) hx hb dX5_workLighters_56 (by decide) ?_
          obtain rfl : x53 = nI (i + 1) := by rw [e53]; exact nI_1 i
          exact ih (i + 1) (by omega) (by omega) _ _ _ hh (hz.cast (by rw [wkLoop, wkG]; (repeat' split); all_goals first | rfl | contradiction)) ls (lv_sub hl [3, 0] rfl)
        · refine x_get S hh hz 1 (by decide) (i := i) hlt (Cn := RX2) (T := TX2) (Nn := 7) rfl inX2 6 (by decide) (v := .ref (a 4 i)) (by simp [fsOf, lFv, h6_26]) rfl (by decide +kernel) dX5_workLighters_26 ?_
          have hw6 := hwi.2.2.1 i hlt h6_26
          have h6 := h6_26
          have hg := hw6.1.2
          have ht7 := hw6.2.2
          have hh5 := (hwi.2.1 i hlt).2
          have hi := hlt
          refine lv_astore_n (lv' := [(3, .ref (a 4 i)), (2, .ref (a 1 i)), (0, .ref x), (1, .int (nI i))]) hx hb dX5_workLighters_29 rfl hl (by decide) rfl (fun ls hl => ?_)
          refine lv_aload_n hx hb dX5_workLighters_30 rfl (lv_at hl 0 rfl) ?_
          refine lv_ifnull hx hb dX5_workLighters_31 ?_
          refine lv_aload_n hx hb dX5_workLighters_34 rfl (lv_at hl 0 rfl) ?_
          refine o_get S hh hz hlt h6_26 inX3 0 (by decide) rfl rfl (by decide +kernel) dX5_workLighters_35 ?_
          refine lv_dup hx hb dX5_workLighters_38 rfl ?_
          refine x_get S hh hz 2 (by decide) (i := (nT ((wkLoop C i) 6 i))) hg (Cn := RX0) (T := TX0) (Nn := 5) rfl inX0 4 (by decide) rfl rfl (by decide +kernel) dX5_workLighters_39 ?_
          refine lv_iconst (v := 1) hx hb dX5_workLighters_42 (by decide) ?_
          refine lv_iadd hx hb dX5_workLighters_43 ?_
          refine x_put S hh hz 2 (by decide) (i := (nT ((wkLoop C i) 6 i))) hg (Cn := RX0) (T := TX0) (Nn := 5) rfl inX0 tyX0 tyX0_ok nmX0 4 (by decide) (ty := .int) rfl rfl rfl rfl rfl (Nat.le_of_ble_eq_true rfl) (put2 _ _ _ _).2.2 (by decide +kernel) dX5_workLighters_44 (fun f9 H locs hh hz => ?_)
          refine lv_aload_n hx hb dX5_workLighters_47 rfl (lv_at hl 2 rfl) ?_
          refine lv_aload_n hx hb dX5_workLighters_48 rfl (lv_at hl 1 rfl) ?_
          refine lv_aload_n hx hb dX5_workLighters_49 rfl (lv_at hl 0 rfl) ?_
          refine k_callV0 (As := [.ref (a 1 i), .ref (a 4 i)]) (g_work hz hi h6 hg ht7 hh5) S hh (cwV 2 hts gX5_workLighters_X5_work rfl rfl rfl (by decide +kernel) ⟨(Nat.le_of_ble_eq_true rfl), (Nat.le_of_ble_eq_true rfl)⟩) hz.1.1.1 hz.1.1.2 (q := (RX5, TX5, 7)) rfl rfl rfl hl.1 rfl (Nat.le_of_ble_eq_true rfl) dX5_workLighters_50 ⟨(Nat.le_of_ble_eq_true rfl), (Nat.le_of_ble_eq_true rfl)⟩ (fun v L1 f1 H locs hp hh => ?_)
          obtain ⟨rfl, hL1, hz1⟩ := hp
          subst hL1
          have hz := hz.trans hz1
          obtain ⟨x53, e53⟩ : ∃ y : Int32, y = (nI i) + 1 := ⟨_, rfl⟩
          refine lv_iinc (v := x53) (lv' := [(1, .int x53), (3, .ref (a 4 i)), (2, .ref (a 1 i)), (0, .ref x)]) hx hb dX5_workLighters_53 hl (k := 3) rfl (by rw [e53]; rfl) (by decide) rfl (fun ls hl => ?_)
          refine lv_goto (tgt := 2) hx hb dX5_workLighters_56 (by decide) ?_
          obtain rfl : x53 = nI (i + 1) := by rw [e53]; exact nI_1 i
          exact ih (i + 1) (by omega) (by omega) _ _ _ hh (hz.cast (by rw [wkLoop, wkG]; (repeat' split); all_goals first | rfl | contradiction)) ls (lv_sub hl [3, 0] rfl)
  exact loop (N 1 + 1) 0 (Nat.zero_le _) (by omega) _ _ _ hh hz ls (lv_sub hl [1, 0] rfl)

set_option maxRecDepth 100000 in
set_option maxHeartbeats 4000000 in
theorem g_recallLighters {l : Launch} {κ : Kx} {x : Nat} {a : AD} {N P : Nat → Nat} {C : MS} {L L0 : List Nat} {f0 f : Nat → va_E} (hz : ZC κ x a N P C L0 f0 L f) (hw : WC N P C) {t : Nat} (htt : t < N 3) : PM l κ yX5_recallLighters wsX5_recallLighters ({ frames := 3, cells := 0, slots := 0, locals := 64 } : Room) [.ref x, .ref (a 3 t)] L f (fun v L1 f1 => v = none ∧ L = L1 ∧ ZC κ x a N P (rcLoop C t (N 1)) L f L1 f1) noX 0 0 := by
  refine PM.mk (cc := cX5_recallLighters) (maxL := 5) (ret := none) (by decide) rfl (Nat.le_of_ble_eq_true rfl) ?_
  intro p e s m args below meth c ls hx hb hml hr hlk hnm hown hts ht hh hl
  have hl : lv_has ls 5 [(0, .ref x), (1, .ref (a 3 t))] := hl
  have S : CallFix p m c cX5_recallLighters 5 s args wsX5_recallLighters RX5 := ⟨hx, hb, hml, hown, hts⟩
  have inX0 : ∀ w ∈ wsX00, w ∈ wsX5_recallLighters := by decide +kernel
  have inX2 : ∀ w ∈ wsX20, w ∈ wsX5_recallLighters := by decide +kernel
  have inX3 : ∀ w ∈ wsX30, w ∈ wsX5_recallLighters := by decide +kernel
  have inX5 : ∀ w ∈ wsX50, w ∈ wsX5_recallLighters := by decide +kernel
  have hz := hz.self
  obtain ⟨b0, b1, b2, b3, b4⟩ := id hw.1
  refine lv_iconst (v := 0) hx hb dX5_recallLighters_0 (by decide) ?_
  refine lv_istore_n (lv' := [(2, .int 0), (0, .ref x), (1, .ref (a 3 t))]) hx hb dX5_recallLighters_1 rfl hl (by decide) rfl (fun ls hl => ?_)
  have loop : ∀ (n i : Nat), i ≤ N 1 → N 1 + 1 ≤ i + n → ∀ (f9 : Nat → va_E) (H : Heap) (locs : List Loc), HH κ L f9 s H locs → ZC κ x a N P (rcLoop C t i) L f L f9 → ∀ ls : Array Slot, lv_has ls 5 [(0, .ref x), (1, .ref (a 3 t)), (2, .int (nI i))] → W p l e ({ frames := 3, cells := 0, slots := 0, locals := 64 } : Room) s m args below meth c H locs 0 0 (vx_MQ below (PQ κ (fun v L1 f1 => v = none ∧ L = L1 ∧ ZC κ x a N P (rcLoop C t (N 1)) L f L1 f1)) (PX κ L f noX) args s 0 0 (kA κ)) (F0 m 2 ls []) := by
    intro n
    induction n with
    | zero =>
      intro i  h1 h2
      exact absurd h2 (by omega)
    | succ n ih =>
      intro i  hi hin3 f9 H locs hh hz ls hl
      have hwi := hw.keep (rc_kc KC.rf t i)
      refine lv_iload_n hx hb dX5_recallLighters_2 rfl (lv_at hl 2 rfl) ?_
      refine lv_aload_n hx hb dX5_recallLighters_3 rfl (lv_at hl 0 rfl) ?_
      refine xx_get S hh hz inX5 1 (by decide) rfl rfl (by decide +kernel) dX5_recallLighters_4 ?_
      obtain ⟨mc7, hL7, hF7⟩ := hz.lst 1 (by decide)
      refine k_callV0 (As := []) (c_size hL7 hF7) S hh (cwV 0 hts gX5_recallLighters_Jx4a65c_size_8abf5 rfl rfl rfl (by decide +kernel) ⟨(Nat.le_of_ble_eq_true rfl), (Nat.le_of_ble_eq_true rfl)⟩) hL7 hF7 (q := (RJx4a65c, TJx4a65c, 3)) rfl rfl rfl hl.1 rfl (Nat.le_of_ble_eq_true rfl) dX5_recallLighters_7 ⟨(Nat.le_of_ble_eq_true rfl), (Nat.le_of_ble_eq_true rfl)⟩ (fun v L1 f1 H locs hp hh => ?_)
      obtain ⟨rfl, hL1, hf1⟩ := hp
      subst hL1; subst hf1
      refine lv_icmp_ge (tgt := 57) hx hb dX5_recallLighters_10 (by decide) (fun c10 => ?_) (fun c10 => ?_)
      · have hie : i = N 1 := by
          rcases Nat.lt_or_ge i (N 1) with q | q
          · exact absurd c10 (nI_ge q (by omega))
          · omega
        exact k_vret hx hb hr hlk hh dX5_recallLighters_57 (Nat.le_of_ble_eq_true rfl) (Nat.le_of_ble_eq_true rfl) ⟨rfl, rfl, hz.cast (by rw [hie])⟩
      · have hlt : i < N 1 := by
          rcases Nat.lt_or_ge i (N 1) with q | q
          · exact q
          · exact absurd (nI_le q (by omega)) c10
        refine lv_aload_n hx hb dX5_recallLighters_13 rfl (lv_at hl 0 rfl) ?_
        refine xx_get S hh hz inX5 1 (by decide) rfl rfl (by decide +kernel) dX5_recallLighters_14 ?_
        refine lv_iload_n hx hb dX5_recallLighters_17 rfl (lv_at hl 2 rfl) ?_
        obtain ⟨mc18, hL18, hF18⟩ := hz.lst 1 (by decide)
        refine k_callV0 (As := [.int (nI i)]) (x_lget hz 1 (by decide) (i := i) hlt rfl) S hh (cwV 1 hts gX5_recallLighters_Jx4a65c_get_915e3 rfl rfl rfl (by decide +kernel) ⟨(Nat.le_of_ble_eq_true rfl), (Nat.le_of_ble_eq_true rfl)⟩) hL18 hF18 (q := (RJx4a65c, TJx4a65c, 3)) rfl rfl rfl hl.1 rfl (Nat.le_of_ble_eq_true rfl) dX5_recallLighters_18 ⟨(Nat.le_of_ble_eq_true rfl), (Nat.le_of_ble_eq_true rfl)⟩ (fun v L1 f1 H locs hp hh => ?_)
        obtain ⟨rfl, hL1, hf1⟩ := hp
        subst hL1; subst hf1
        refine h_cast hx hb hown hh (hz.1.2.1 1 i (by decide) hlt).1 (hz.1.2.1 1 i (by decide) hlt).2 (C := RX2) (T := TX2) (N := 7) rfl (hts (.classLink RX5 60 RX2) (by decide +kernel)) dX5_recallLighters_21 ?_
        refine lv_astore_n (lv' := [(3, .ref (a 1 i)), (0, .ref x), (1, .ref (a 3 t)), (2, .int (nI i))]) hx hb dX5_recallLighters_24 rfl hl (by decide) rfl (fun ls hl => ?_)
        refine lv_aload_n hx hb dX5_recallLighters_25 rfl (lv_at hl 0 rfl) ?_
        by_cases h6_26 : ((rcLoop C t i) 6 i) = -1
        · refine x_get S hh hz 1 (by decide) (i := i) hlt (Cn := RX2) (T := TX2) (Nn := 7) rfl inX2 6 (by decide) (v := .null) (by simp [fsOf, lFv, h6_26]) rfl (by decide +kernel) dX5_recallLighters_26 ?_
          refine lv_astoreN (lv' := [(4, .null), (3, .ref (a 1 i)), (0, .ref x), (1, .ref (a 3 t)), (2, .int (nI i))]) hx hb dX5_recallLighters_29 hl (by decide) rfl (fun ls hl => ?_)
          refine lv_aloadN hx hb dX5_recallLighters_31 (lv_at hl 0 rfl) ?_
          refine lv_ifnullN (tgt := 51) hx hb dX5_recallLighters_33 (by decide) ?_
          obtain ⟨x51, e51⟩ : ∃ y : Int32, y = (nI i) + 1 := ⟨_, rfl⟩
          refine lv_iinc (v := x51) (lv' := [(2, .int x51), (4, .null), (3, .ref (a 1 i)), (0, .ref x), (1, .ref (a 3 t))]) hx hb dX5_recallLighters_51 hl (k := 4) rfl (by rw [e51]; rfl) (by decide) rfl (fun ls hl => ?_)
          refine lv_goto (tgt := 2) hx hb dX5_recallLighters_54 (by decide) ?_
          obtain rfl : x51 = nI (i + 1) := by rw [e51]; exact nI_1 i
          exact ih (i + 1) (by omega) (by omega) _ _ _ hh (hz.cast (by rw [rcLoop, rcG]; (repeat' split); all_goals first | rfl | contradiction)) ls (lv_sub hl [3, 4, 0] rfl)
        · refine x_get S hh hz 1 (by decide) (i := i) hlt (Cn := RX2) (T := TX2) (Nn := 7) rfl inX2 6 (by decide) (v := .ref (a 4 i)) (by simp [fsOf, lFv, h6_26]) rfl (by decide +kernel) dX5_recallLighters_26 ?_
          have hw6 := hwi.2.2.1 i hlt h6_26
          have h6 := h6_26
          have hg := hw6.1.2
          have ht7 := hw6.2.2
          have hh5 := (hwi.2.1 i hlt).2
          have hi := hlt
          refine lv_astore (lv' := [(4, .ref (a 4 i)), (3, .ref (a 1 i)), (0, .ref x), (1, .ref (a 3 t)), (2, .int (nI i))]) hx hb dX5_recallLighters_29 hl (by decide) rfl (fun ls hl => ?_)
          refine lv_aload hx hb dX5_recallLighters_31 (lv_at hl 0 rfl) ?_
          refine lv_ifnull hx hb dX5_recallLighters_33 ?_
          refine lv_aload hx hb dX5_recallLighters_36 (lv_at hl 0 rfl) ?_
          refine o_get S hh hz hlt h6_26 inX3 1 (by decide) rfl rfl (by decide +kernel) dX5_recallLighters_38 ?_
          refine lv_aload_n hx hb dX5_recallLighters_41 rfl (lv_at hl 3 rfl) ?_
          refine lv_acmp_ne (rx := some (a 3 (nT ((rcLoop C t i) 7 i)))) (ry := some (a 3 t)) (tgt := 51) hx hb dX5_recallLighters_42 (by decide) (fun c42 => ?_) (fun c42 => ?_)
          · have d42 : ¬ (nT ((rcLoop C t i) 7 i)) = t := fun q => c42 (by rw [q])
            obtain ⟨x51, e51⟩ : ∃ y : Int32, y = (nI i) + 1 := ⟨_, rfl⟩
            refine lv_iinc (v := x51) (lv' := [(2, .int x51), (4, .ref (a 4 i)), (3, .ref (a 1 i)), (0, .ref x), (1, .ref (a 3 t))]) hx hb dX5_recallLighters_51 hl (k := 4) rfl (by rw [e51]; rfl) (by decide) rfl (fun ls hl => ?_)
            refine lv_goto (tgt := 2) hx hb dX5_recallLighters_54 (by decide) ?_
            obtain rfl : x51 = nI (i + 1) := by rw [e51]; exact nI_1 i
            exact ih (i + 1) (by omega) (by omega) _ _ _ hh (hz.cast (by rw [rcLoop, rcG]; (repeat' split); all_goals first | rfl | contradiction)) ls (lv_sub hl [3, 4, 0] rfl)
          · have d42 : (nT ((rcLoop C t i) 7 i)) = t := hz.1.2.2.2.1 3 _ _ (by decide) ht7 htt (Option.some.inj c42)
            refine lv_aload_n hx hb dX5_recallLighters_45 rfl (lv_at hl 1 rfl) ?_
            refine lv_aload hx hb dX5_recallLighters_46 (lv_at hl 0 rfl) ?_
            refine k_callS0 (As := [.ref (a 1 i), .ref (a 4 i)]) (g_recall hz hi h6 hg ht7 hh5) S hh (va_cwS 2 hts gX5_recallLighters_X5_recall rfl rfl rfl (by decide +kernel) ⟨(Nat.le_of_ble_eq_true rfl), (Nat.le_of_ble_eq_true rfl)⟩) rfl hl.1 rfl (Nat.le_of_ble_eq_true rfl) dX5_recallLighters_48 ⟨(Nat.le_of_ble_eq_true rfl), (Nat.le_of_ble_eq_true rfl)⟩ (fun v L1 f1 H locs hp hh => ?_)
            obtain ⟨rfl, hL1, hz1⟩ := hp
            subst hL1
            have hz := hz.trans hz1
            obtain ⟨x51, e51⟩ : ∃ y : Int32, y = (nI i) + 1 := ⟨_, rfl⟩
            refine lv_iinc (v := x51) (lv' := [(2, .int x51), (4, .ref (a 4 i)), (3, .ref (a 1 i)), (0, .ref x), (1, .ref (a 3 t))]) hx hb dX5_recallLighters_51 hl (k := 4) rfl (by rw [e51]; rfl) (by decide) rfl (fun ls hl => ?_)
            refine lv_goto (tgt := 2) hx hb dX5_recallLighters_54 (by decide) ?_
            obtain rfl : x51 = nI (i + 1) := by rw [e51]; exact nI_1 i
            exact ih (i + 1) (by omega) (by omega) _ _ _ hh (hz.cast (by rw [rcLoop, rcG]; (repeat' split); all_goals first | rfl | contradiction)) ls (lv_sub hl [3, 4, 0] rfl)
  exact loop (N 1 + 1) 0 (Nat.zero_le _) (by omega) _ _ _ hh hz ls (lv_sub hl [1, 2, 0] rfl)
