set_option maxRecDepth 100000 in
set_option maxHeartbeats 4000000 in
theorem k_L_hulk {l : Launch} (hst : l.stackTraces = false) {κ : Kx} {x o : Nat} {a : AD} {N P : Nat → Nat} {C : MS} {L L0 : List Nat} {f0 f : Nat → va_E} {g : Nat → Int64} (hz : ZC κ x a N P C L0 f0 L f) (hw : WC N P C) (ho : o ∈ L) (hfo : f o = outE κ g) {v : Int32} : PM l κ yL_hulk wsL_hulk ({ frames := 8, cells := 3, slots := 1507, locals := 199 } : Room) [.ref x, .int v, .ref o] L f (fun v9 L1 f1 => v9 = some (.int (hulkTG N v)) ∧ LPo κ x o (hulkS (N, P, C) v) L f L1 f1 (fun z => (hulkTG N v) = 0 → z = (nI (N 0) : Int32).toInt64)) noX 3 1507 := by
  refine PM.mkH (cc := cL_hulk) (maxL := 4) (ret := (some .int)) (tb := [(0, 9, 12, 13), (0, 9, 15, 15)]) (by decide) rfl (Nat.le_of_ble_eq_true rfl) ?_
  intro p e s m args below meth c ls hx hb hml hr hlk hown hts htb hh hl
  have hl : lv_has ls 4 [(0, .ref x), (1, .int v), (2, .ref o)] := hl
  have S : CallFix p m c cL_hulk 4 s args wsL_hulk RL := ⟨hx, hb, hml, hown, hts⟩
  have hz := hz.self
  refine lv_aload_n hx hb dL_hulk_0 rfl (lv_at hl 2 rfl) ?_
  refine lv_iconst (v := 0) hx hb dL_hulk_1 (by decide) ?_
  refine lv_aload_n hx hb dL_hulk_2 rfl (lv_at hl 0 rfl) ?_
  refine lv_iload_n hx hb dL_hulk_3 rfl (lv_at hl 1 rfl) ?_
  refine k_callV (As := [.int v]) (g_hulk hst hz hw (v := v)) S hh (cwV 1 hts gL_hulk_X5_hulk rfl rfl rfl (by decide +kernel) ⟨(Nat.le_of_ble_eq_true rfl), (Nat.le_of_ble_eq_true rfl)⟩) hz.1.1.1 hz.1.1.2 (q := (RX5, TX5, 7)) rfl rfl rfl hl.1 rfl (Nat.le_of_ble_eq_true rfl) dL_hulk_4 ⟨(Nat.le_of_ble_eq_true rfl), (Nat.le_of_ble_eq_true rfl)⟩ (fun v9 L1 f1 H locs hp hh => ?_) (fun E ce q9 H locs hE hh h1 h2 h3 => ?_)
  · obtain ⟨rfl, hT, a1, hz1⟩ := hp
    refine lv_i2l hx hb dL_hulk_7 rfl ?_
    refine h_last hx hb hh (hz1.outO ho hfo).1 (hz1.outO ho hfo).2 (show vp_in 0 1 by unfold vp_in; decide) dL_hulk_8 (fun H locs hh => ?_)
    refine lv_goto (tgt := 18) hx hb dL_hulk_9 (by decide) ?_
    refine lv_iconst (v := 0) hx hb dL_hulk_18 (by decide) ?_
    exact k_iret hx hb hr hlk hh dL_hulk_19 (Nat.le_of_ble_eq_true rfl) (Nat.le_of_ble_eq_true rfl) ⟨by rw [hT], LPo.write hz1 ho hfo (by unfold hulkS; rw [if_pos hT]) (fun _ => rfl)⟩
  · rcases hE with ⟨rfl, hT⟩ | ⟨rfl, hT⟩
    · refine vx_catch (name := "java/lang/IllegalArgumentException") hown [] (⟨0, 9, 12, 13⟩ : ExceptionTableEntry) [(⟨0, 9, 15, 15⟩ : ExceptionTableEntry)] htb (fun z hz9 => nomatch hz9) rfl (by decide) (hts (.classLink RL 13 "java/lang/IllegalArgumentException") (by decide +kernel)) (va_Nw.use rfl (hh.2.2.2.2.2.2.2.2.2.2 ("java/lang/IllegalArgumentException", "java/lang/IllegalArgumentException") (by decide))) h1 h2 h3 ?_
      refine lv_astore_n (lv' := [(3, .ref q9), (0, .ref x), (1, .int v), (2, .ref o)]) hx hb dL_hulk_12 rfl hl (by decide) rfl (fun ls hl => ?_)
      refine lv_iconst (v := 1) hx hb dL_hulk_13 (by decide) ?_
      exact k_iret hx hb hr hlk hh dL_hulk_14 (Nat.le_of_ble_eq_true rfl) (Nat.le_of_ble_eq_true rfl) ⟨by rw [hT], LPo.same hz ho hfo (by unfold hulkS; rw [if_neg (by rw [hT]; decide)]) (fun q => absurd q (by rw [hT]; decide))⟩
    · refine vx_catch (name := "java/lang/IllegalStateException") hown [(⟨0, 9, 12, 13⟩ : ExceptionTableEntry)] (⟨0, 9, 15, 15⟩ : ExceptionTableEntry) [] htb (fun z hz9 => by obtain rfl := List.mem_singleton.mp hz9; exact Or.inr ⟨by decide, "java/lang/IllegalArgumentException", hts (.classLink RL 13 "java/lang/IllegalArgumentException") (by decide +kernel), hh.2.2.2.2.2.2.2.2.2.1.1 ("java/lang/IllegalStateException", "java/lang/IllegalArgumentException") (by decide)⟩) rfl (by decide) (hts (.classLink RL 15 "java/lang/IllegalStateException") (by decide +kernel)) (va_Nw.use rfl (hh.2.2.2.2.2.2.2.2.2.2 ("java/lang/IllegalStateException", "java/lang/IllegalStateException") (by decide))) h1 h2 h3 ?_
      refine lv_astore_n (lv' := [(3, .ref q9), (0, .ref x), (1, .int v), (2, .ref o)]) hx hb dL_hulk_15 rfl hl (by decide) rfl (fun ls hl => ?_)
      refine lv_iconst (v := 2) hx hb dL_hulk_16 (by decide) ?_
      exact k_iret hx hb hr hlk hh dL_hulk_17 (Nat.le_of_ble_eq_true rfl) (Nat.le_of_ble_eq_true rfl) ⟨by rw [hT], LPo.same hz ho hfo (by unfold hulkS; rw [if_neg (by rw [hT]; decide)]) (fun q => absurd q (by rw [hT]; decide))⟩

set_option maxRecDepth 100000 in
set_option maxHeartbeats 4000000 in
theorem k_L_lighter {l : Launch} (hst : l.stackTraces = false) {κ : Kx} {x o : Nat} {a : AD} {N P : Nat → Nat} {C : MS} {L L0 : List Nat} {f0 f : Nat → va_E} {g : Nat → Int64} (hz : ZC κ x a N P C L0 f0 L f) (hw : WC N P C) (ho : o ∈ L) (hfo : f o = outE κ g) {v : Int32} : PM l κ yL_lighter wsL_lighter ({ frames := 8, cells := 3, slots := 1513, locals := 199 } : Room) [.ref x, .int v, .ref o] L f (fun v9 L1 f1 => v9 = some (.int (lighterTG N v)) ∧ LPo κ x o (lighterS (N, P, C) v) L f L1 f1 (fun z => (lighterTG N v) = 0 → z = (nI (N 1) : Int32).toInt64)) noX 3 1513 := by
  refine PM.mkH (cc := cL_lighter) (maxL := 4) (ret := (some .int)) (tb := [(0, 9, 12, 13), (0, 9, 15, 15)]) (by decide) rfl (Nat.le_of_ble_eq_true rfl) ?_
  intro p e s m args below meth c ls hx hb hml hr hlk hown hts htb hh hl
  have hl : lv_has ls 4 [(0, .ref x), (1, .int v), (2, .ref o)] := hl
  have S : CallFix p m c cL_lighter 4 s args wsL_lighter RL := ⟨hx, hb, hml, hown, hts⟩
  have hz := hz.self
  refine lv_aload_n hx hb dL_lighter_0 rfl (lv_at hl 2 rfl) ?_
  refine lv_iconst (v := 0) hx hb dL_lighter_1 (by decide) ?_
  refine lv_aload_n hx hb dL_lighter_2 rfl (lv_at hl 0 rfl) ?_
  refine lv_iload_n hx hb dL_lighter_3 rfl (lv_at hl 1 rfl) ?_
  refine k_callV (As := [.int v]) (g_lighter hst hz hw (v := v)) S hh (cwV 1 hts gL_lighter_X5_lighter rfl rfl rfl (by decide +kernel) ⟨(Nat.le_of_ble_eq_true rfl), (Nat.le_of_ble_eq_true rfl)⟩) hz.1.1.1 hz.1.1.2 (q := (RX5, TX5, 7)) rfl rfl rfl hl.1 rfl (Nat.le_of_ble_eq_true rfl) dL_lighter_4 ⟨(Nat.le_of_ble_eq_true rfl), (Nat.le_of_ble_eq_true rfl)⟩ (fun v9 L1 f1 H locs hp hh => ?_) (fun E ce q9 H locs hE hh h1 h2 h3 => ?_)
  · obtain ⟨rfl, hT, a1, hz1⟩ := hp
    refine lv_i2l hx hb dL_lighter_7 rfl ?_
    refine h_last hx hb hh (hz1.outO ho hfo).1 (hz1.outO ho hfo).2 (show vp_in 0 1 by unfold vp_in; decide) dL_lighter_8 (fun H locs hh => ?_)
    refine lv_goto (tgt := 18) hx hb dL_lighter_9 (by decide) ?_
    refine lv_iconst (v := 0) hx hb dL_lighter_18 (by decide) ?_
    exact k_iret hx hb hr hlk hh dL_lighter_19 (Nat.le_of_ble_eq_true rfl) (Nat.le_of_ble_eq_true rfl) ⟨by rw [hT], LPo.write hz1 ho hfo (by unfold lighterS; rw [if_pos hT]) (fun _ => rfl)⟩
  · rcases hE with ⟨rfl, hT⟩ | ⟨rfl, hT⟩
    · refine vx_catch (name := "java/lang/IllegalArgumentException") hown [] (⟨0, 9, 12, 13⟩ : ExceptionTableEntry) [(⟨0, 9, 15, 15⟩ : ExceptionTableEntry)] htb (fun z hz9 => nomatch hz9) rfl (by decide) (hts (.classLink RL 13 "java/lang/IllegalArgumentException") (by decide +kernel)) (va_Nw.use rfl (hh.2.2.2.2.2.2.2.2.2.2 ("java/lang/IllegalArgumentException", "java/lang/IllegalArgumentException") (by decide))) h1 h2 h3 ?_
      refine lv_astore_n (lv' := [(3, .ref q9), (0, .ref x), (1, .int v), (2, .ref o)]) hx hb dL_lighter_12 rfl hl (by decide) rfl (fun ls hl => ?_)
      refine lv_iconst (v := 1) hx hb dL_lighter_13 (by decide) ?_
      exact k_iret hx hb hr hlk hh dL_lighter_14 (Nat.le_of_ble_eq_true rfl) (Nat.le_of_ble_eq_true rfl) ⟨by rw [hT], LPo.same hz ho hfo (by unfold lighterS; rw [if_neg (by rw [hT]; decide)]) (fun q => absurd q (by rw [hT]; decide))⟩
    · refine vx_catch (name := "java/lang/IllegalStateException") hown [(⟨0, 9, 12, 13⟩ : ExceptionTableEntry)] (⟨0, 9, 15, 15⟩ : ExceptionTableEntry) [] htb (fun z hz9 => by obtain rfl := List.mem_singleton.mp hz9; exact Or.inr ⟨by decide, "java/lang/IllegalArgumentException", hts (.classLink RL 13 "java/lang/IllegalArgumentException") (by decide +kernel), hh.2.2.2.2.2.2.2.2.2.1.1 ("java/lang/IllegalStateException", "java/lang/IllegalArgumentException") (by decide)⟩) rfl (by decide) (hts (.classLink RL 15 "java/lang/IllegalStateException") (by decide +kernel)) (va_Nw.use rfl (hh.2.2.2.2.2.2.2.2.2.2 ("java/lang/IllegalStateException", "java/lang/IllegalStateException") (by decide))) h1 h2 h3 ?_
      refine lv_astore_n (lv' := [(3, .ref q9), (0, .ref x), (1, .int v), (2, .ref o)]) hx hb dL_lighter_15 rfl hl (by decide) rfl (fun ls hl => ?_)
      refine lv_iconst (v := 2) hx hb dL_lighter_16 (by decide) ?_
      exact k_iret hx hb hr hlk hh dL_lighter_17 (Nat.le_of_ble_eq_true rfl) (Nat.le_of_ble_eq_true rfl) ⟨by rw [hT], LPo.same hz ho hfo (by unfold lighterS; rw [if_neg (by rw [hT]; decide)]) (fun q => absurd q (by rw [hT]; decide))⟩

set_option maxRecDepth 100000 in
set_option maxHeartbeats 4000000 in
theorem k_L_gang {l : Launch} (hst : l.stackTraces = false) {κ : Kx} {x o : Nat} {a : AD} {N P : Nat → Nat} {C : MS} {L L0 : List Nat} {f0 f : Nat → va_E} {g : Nat → Int64} (hz : ZC κ x a N P C L0 f0 L f) (hw : WC N P C) (ho : o ∈ L) (hfo : f o = outE κ g) {v : Int32} : PM l κ yL_gang wsL_gang ({ frames := 8, cells := 3, slots := 1511, locals := 199 } : Room) [.ref x, .int v, .ref o] L f (fun v9 L1 f1 => v9 = some (.int (gangTG N v)) ∧ LPo κ x o (gangS (N, P, C) v) L f L1 f1 (fun z => (gangTG N v) = 0 → z = (nI (N 2) : Int32).toInt64)) noX 3 1511 := by
  refine PM.mkH (cc := cL_gang) (maxL := 4) (ret := (some .int)) (tb := [(0, 9, 12, 13), (0, 9, 15, 15)]) (by decide) rfl (Nat.le_of_ble_eq_true rfl) ?_
  intro p e s m args below meth c ls hx hb hml hr hlk hown hts htb hh hl
  have hl : lv_has ls 4 [(0, .ref x), (1, .int v), (2, .ref o)] := hl
  have S : CallFix p m c cL_gang 4 s args wsL_gang RL := ⟨hx, hb, hml, hown, hts⟩
  have hz := hz.self
  refine lv_aload_n hx hb dL_gang_0 rfl (lv_at hl 2 rfl) ?_
  refine lv_iconst (v := 0) hx hb dL_gang_1 (by decide) ?_
  refine lv_aload_n hx hb dL_gang_2 rfl (lv_at hl 0 rfl) ?_
  refine lv_iload_n hx hb dL_gang_3 rfl (lv_at hl 1 rfl) ?_
  refine k_callV (As := [.int v]) (g_gang hst hz hw (v := v)) S hh (cwV 1 hts gL_gang_X5_gang rfl rfl rfl (by decide +kernel) ⟨(Nat.le_of_ble_eq_true rfl), (Nat.le_of_ble_eq_true rfl)⟩) hz.1.1.1 hz.1.1.2 (q := (RX5, TX5, 7)) rfl rfl rfl hl.1 rfl (Nat.le_of_ble_eq_true rfl) dL_gang_4 ⟨(Nat.le_of_ble_eq_true rfl), (Nat.le_of_ble_eq_true rfl)⟩ (fun v9 L1 f1 H locs hp hh => ?_) (fun E ce q9 H locs hE hh h1 h2 h3 => ?_)
  · obtain ⟨rfl, hT, a1, hz1⟩ := hp
    refine lv_i2l hx hb dL_gang_7 rfl ?_
    refine h_last hx hb hh (hz1.outO ho hfo).1 (hz1.outO ho hfo).2 (show vp_in 0 1 by unfold vp_in; decide) dL_gang_8 (fun H locs hh => ?_)
    refine lv_goto (tgt := 18) hx hb dL_gang_9 (by decide) ?_
    refine lv_iconst (v := 0) hx hb dL_gang_18 (by decide) ?_
    exact k_iret hx hb hr hlk hh dL_gang_19 (Nat.le_of_ble_eq_true rfl) (Nat.le_of_ble_eq_true rfl) ⟨by rw [hT], LPo.write hz1 ho hfo (by unfold gangS; rw [if_pos hT]) (fun _ => rfl)⟩
  · rcases hE with ⟨rfl, hT⟩ | ⟨rfl, hT⟩
    · refine vx_catch (name := "java/lang/IllegalArgumentException") hown [] (⟨0, 9, 12, 13⟩ : ExceptionTableEntry) [(⟨0, 9, 15, 15⟩ : ExceptionTableEntry)] htb (fun z hz9 => nomatch hz9) rfl (by decide) (hts (.classLink RL 13 "java/lang/IllegalArgumentException") (by decide +kernel)) (va_Nw.use rfl (hh.2.2.2.2.2.2.2.2.2.2 ("java/lang/IllegalArgumentException", "java/lang/IllegalArgumentException") (by decide))) h1 h2 h3 ?_
      refine lv_astore_n (lv' := [(3, .ref q9), (0, .ref x), (1, .int v), (2, .ref o)]) hx hb dL_gang_12 rfl hl (by decide) rfl (fun ls hl => ?_)
      refine lv_iconst (v := 1) hx hb dL_gang_13 (by decide) ?_
      exact k_iret hx hb hr hlk hh dL_gang_14 (Nat.le_of_ble_eq_true rfl) (Nat.le_of_ble_eq_true rfl) ⟨by rw [hT], LPo.same hz ho hfo (by unfold gangS; rw [if_neg (by rw [hT]; decide)]) (fun q => absurd q (by rw [hT]; decide))⟩
    · refine vx_catch (name := "java/lang/IllegalStateException") hown [(⟨0, 9, 12, 13⟩ : ExceptionTableEntry)] (⟨0, 9, 15, 15⟩ : ExceptionTableEntry) [] htb (fun z hz9 => by obtain rfl := List.mem_singleton.mp hz9; exact Or.inr ⟨by decide, "java/lang/IllegalArgumentException", hts (.classLink RL 13 "java/lang/IllegalArgumentException") (by decide +kernel), hh.2.2.2.2.2.2.2.2.2.1.1 ("java/lang/IllegalStateException", "java/lang/IllegalArgumentException") (by decide)⟩) rfl (by decide) (hts (.classLink RL 15 "java/lang/IllegalStateException") (by decide +kernel)) (va_Nw.use rfl (hh.2.2.2.2.2.2.2.2.2.2 ("java/lang/IllegalStateException", "java/lang/IllegalStateException") (by decide))) h1 h2 h3 ?_
      refine lv_astore_n (lv' := [(3, .ref q9), (0, .ref x), (1, .int v), (2, .ref o)]) hx hb dL_gang_15 rfl hl (by decide) rfl (fun ls hl => ?_)
      refine lv_iconst (v := 2) hx hb dL_gang_16 (by decide) ?_
      exact k_iret hx hb hr hlk hh dL_gang_17 (Nat.le_of_ble_eq_true rfl) (Nat.le_of_ble_eq_true rfl) ⟨by rw [hT], LPo.same hz ho hfo (by unfold gangS; rw [if_neg (by rw [hT]; decide)]) (fun q => absurd q (by rw [hT]; decide))⟩

set_option maxRecDepth 100000 in
set_option maxHeartbeats 4000000 in
theorem k_L_steamer {l : Launch} (hst : l.stackTraces = false) {κ : Kx} {x o : Nat} {a : AD} {N P : Nat → Nat} {C : MS} {L L0 : List Nat} {f0 f : Nat → va_E} {g : Nat → Int64} (hz : ZC κ x a N P C L0 f0 L f) (hw : WC N P C) (ho : o ∈ L) (hfo : f o = outE κ g) {v w : Int32} : PM l κ yL_steamer wsL_steamer ({ frames := 8, cells := 5, slots := 3016, locals := 201 } : Room) [.ref x, .int v, .int w, .ref o] L f (fun v9 L1 f1 => v9 = some (.int (steamerTG N P C v w)) ∧ LPo κ x o (steamerS (N, P, C) v w) L f L1 f1 (fun z => (steamerTG N P C v w) = 0 → z = (nI (N 3) : Int32).toInt64)) noX 5 3016 := by
  refine PM.mkH (cc := cL_steamer) (maxL := 5) (ret := (some .int)) (tb := [(0, 10, 13, 13), (0, 10, 17, 15)]) (by decide) rfl (Nat.le_of_ble_eq_true rfl) ?_
  intro p e s m args below meth c ls hx hb hml hr hlk hown hts htb hh hl
  have hl : lv_has ls 5 [(0, .ref x), (1, .int v), (2, .int w), (3, .ref o)] := hl
  have S : CallFix p m c cL_steamer 5 s args wsL_steamer RL := ⟨hx, hb, hml, hown, hts⟩
  have hz := hz.self
  refine lv_aload_n hx hb dL_steamer_0 rfl (lv_at hl 3 rfl) ?_
  refine lv_iconst (v := 0) hx hb dL_steamer_1 (by decide) ?_
  refine lv_aload_n hx hb dL_steamer_2 rfl (lv_at hl 0 rfl) ?_
  refine lv_iload_n hx hb dL_steamer_3 rfl (lv_at hl 1 rfl) ?_
  refine lv_iload_n hx hb dL_steamer_4 rfl (lv_at hl 2 rfl) ?_
  refine k_callV (As := [.int v, .int w]) (g_steamer hst hz hw (v := v) (w := w)) S hh (cwV 2 hts gL_steamer_X5_steamer rfl rfl rfl (by decide +kernel) ⟨(Nat.le_of_ble_eq_true rfl), (Nat.le_of_ble_eq_true rfl)⟩) hz.1.1.1 hz.1.1.2 (q := (RX5, TX5, 7)) rfl rfl rfl hl.1 rfl (Nat.le_of_ble_eq_true rfl) dL_steamer_5 ⟨(Nat.le_of_ble_eq_true rfl), (Nat.le_of_ble_eq_true rfl)⟩ (fun v9 L1 f1 H locs hp hh => ?_) (fun E ce q9 H locs hE hh h1 h2 h3 => ?_)
  · obtain ⟨rfl, hT, a1, hz1⟩ := hp
    refine lv_i2l hx hb dL_steamer_8 rfl ?_
    refine h_last hx hb hh (hz1.outO ho hfo).1 (hz1.outO ho hfo).2 (show vp_in 0 1 by unfold vp_in; decide) dL_steamer_9 (fun H locs hh => ?_)
    refine lv_goto (tgt := 21) hx hb dL_steamer_10 (by decide) ?_
    refine lv_iconst (v := 0) hx hb dL_steamer_21 (by decide) ?_
    exact k_iret hx hb hr hlk hh dL_steamer_22 (Nat.le_of_ble_eq_true rfl) (Nat.le_of_ble_eq_true rfl) ⟨by rw [hT], LPo.write hz1 ho hfo (by unfold steamerS; rw [if_pos hT]) (fun _ => rfl)⟩
  · rcases hE with ⟨rfl, hT⟩ | ⟨rfl, hT⟩
    · refine vx_catch (name := "java/lang/IllegalArgumentException") hown [] (⟨0, 10, 13, 13⟩ : ExceptionTableEntry) [(⟨0, 10, 17, 15⟩ : ExceptionTableEntry)] htb (fun z hz9 => nomatch hz9) rfl (by decide) (hts (.classLink RL 13 "java/lang/IllegalArgumentException") (by decide +kernel)) (va_Nw.use rfl (hh.2.2.2.2.2.2.2.2.2.2 ("java/lang/IllegalArgumentException", "java/lang/IllegalArgumentException") (by decide))) h1 h2 h3 ?_
      refine lv_astore (lv' := [(4, .ref q9), (0, .ref x), (1, .int v), (2, .int w), (3, .ref o)]) hx hb dL_steamer_13 hl (by decide) rfl (fun ls hl => ?_)
      refine lv_iconst (v := 1) hx hb dL_steamer_15 (by decide) ?_
      exact k_iret hx hb hr hlk hh dL_steamer_16 (Nat.le_of_ble_eq_true rfl) (Nat.le_of_ble_eq_true rfl) ⟨by rw [hT], LPo.same hz ho hfo (by unfold steamerS; rw [if_neg (by rw [hT]; decide)]) (fun q => absurd q (by rw [hT]; decide))⟩
    · refine vx_catch (name := "java/lang/IllegalStateException") hown [(⟨0, 10, 13, 13⟩ : ExceptionTableEntry)] (⟨0, 10, 17, 15⟩ : ExceptionTableEntry) [] htb (fun z hz9 => by obtain rfl := List.mem_singleton.mp hz9; exact Or.inr ⟨by decide, "java/lang/IllegalArgumentException", hts (.classLink RL 13 "java/lang/IllegalArgumentException") (by decide +kernel), hh.2.2.2.2.2.2.2.2.2.1.1 ("java/lang/IllegalStateException", "java/lang/IllegalArgumentException") (by decide)⟩) rfl (by decide) (hts (.classLink RL 15 "java/lang/IllegalStateException") (by decide +kernel)) (va_Nw.use rfl (hh.2.2.2.2.2.2.2.2.2.2 ("java/lang/IllegalStateException", "java/lang/IllegalStateException") (by decide))) h1 h2 h3 ?_
      refine lv_astore (lv' := [(4, .ref q9), (0, .ref x), (1, .int v), (2, .int w), (3, .ref o)]) hx hb dL_steamer_17 hl (by decide) rfl (fun ls hl => ?_)
      refine lv_iconst (v := 2) hx hb dL_steamer_19 (by decide) ?_
      exact k_iret hx hb hr hlk hh dL_steamer_20 (Nat.le_of_ble_eq_true rfl) (Nat.le_of_ble_eq_true rfl) ⟨by rw [hT], LPo.same hz ho hfo (by unfold steamerS; rw [if_neg (by rw [hT]; decide)]) (fun q => absurd q (by rw [hT]; decide))⟩

set_option maxRecDepth 100000 in
set_option maxHeartbeats 4000000 in
theorem k_L_order {l : Launch} (hst : l.stackTraces = false) {κ : Kx} {x o : Nat} {a : AD} {N P : Nat → Nat} {C : MS} {L L0 : List Nat} {f0 f : Nat → va_E} {g : Nat → Int64} (hz : ZC κ x a N P C L0 f0 L f) (hw : WC N P C) (ho : o ∈ L) (hfo : f o = outE κ g) {v w u : Int32} : PM l κ yL_order wsL_order ({ frames := 8, cells := 6, slots := 36, locals := 129 } : Room) [.ref x, .int v, .int w, .int u] L f (fun v9 L1 f1 => v9 = some (.int (orderTG N C v w u)) ∧ LPo κ x o (orderS (N, P, C) v w u) L f L1 f1 (fun _ => True)) noX 6 36 := by
  refine PM.mkH (cc := cL_order) (maxL := 5) (ret := (some .int)) (tb := [(0, 7, 10, 31), (0, 7, 14, 15)]) (by decide) rfl (Nat.le_of_ble_eq_true rfl) ?_
  intro p e s m args below meth c ls hx hb hml hr hlk hown hts htb hh hl
  have hl : lv_has ls 5 [(0, .ref x), (1, .int v), (2, .int w), (3, .int u)] := hl
  have S : CallFix p m c cL_order 5 s args wsL_order RL := ⟨hx, hb, hml, hown, hts⟩
  have hz := hz.self
  refine lv_aload_n hx hb dL_order_0 rfl (lv_at hl 0 rfl) ?_
  refine lv_iload_n hx hb dL_order_1 rfl (lv_at hl 1 rfl) ?_
  refine lv_iload_n hx hb dL_order_2 rfl (lv_at hl 2 rfl) ?_
  refine lv_iload_n hx hb dL_order_3 rfl (lv_at hl 3 rfl) ?_
  refine k_callV (As := [.int v, .int w, .int u]) (g_order hst hz hw (v := v) (w := w) (u := u)) S hh (cwV 3 hts gL_order_X5_order rfl rfl rfl (by decide +kernel) ⟨(Nat.le_of_ble_eq_true rfl), (Nat.le_of_ble_eq_true rfl)⟩) hz.1.1.1 hz.1.1.2 (q := (RX5, TX5, 7)) rfl rfl rfl hl.1 rfl (Nat.le_of_ble_eq_true rfl) dL_order_4 ⟨(Nat.le_of_ble_eq_true rfl), (Nat.le_of_ble_eq_true rfl)⟩ (fun v9 L1 f1 H locs hp hh => ?_) (fun E ce q9 H locs hE hh h1 h2 h3 => ?_)
  · obtain ⟨rfl, hT, a1, hz1⟩ := hp
    refine lv_goto (tgt := 18) hx hb dL_order_7 (by decide) ?_
    refine lv_iconst (v := 0) hx hb dL_order_18 (by decide) ?_
    exact k_iret hx hb hr hlk hh dL_order_19 (Nat.le_of_ble_eq_true rfl) (Nat.le_of_ble_eq_true rfl) ⟨by rw [hT], LPo.keep hz1 ho hfo (by unfold orderS; rw [if_pos hT]) trivial⟩
  · rcases hE with ⟨rfl, hT⟩ | ⟨rfl, hT⟩
    · refine vx_catch (name := "java/lang/IndexOutOfBoundsException") hown [] (⟨0, 7, 10, 31⟩ : ExceptionTableEntry) [(⟨0, 7, 14, 15⟩ : ExceptionTableEntry)] htb (fun z hz9 => nomatch hz9) rfl (by decide) (hts (.classLink RL 31 "java/lang/IndexOutOfBoundsException") (by decide +kernel)) (va_Nw.use rfl (hh.2.2.2.2.2.2.2.2.2.2 ("java/lang/IndexOutOfBoundsException", "java/lang/IndexOutOfBoundsException") (by decide))) h1 h2 h3 ?_
      refine lv_astore (lv' := [(4, .ref q9), (0, .ref x), (1, .int v), (2, .int w), (3, .int u)]) hx hb dL_order_10 hl (by decide) rfl (fun ls hl => ?_)
      refine lv_iconst (v := 1) hx hb dL_order_12 (by decide) ?_
      exact k_iret hx hb hr hlk hh dL_order_13 (Nat.le_of_ble_eq_true rfl) (Nat.le_of_ble_eq_true rfl) ⟨by rw [hT], LPo.same hz ho hfo (by unfold orderS; rw [if_neg (by rw [hT]; decide)]) trivial⟩
    · refine vx_catch (name := "java/lang/IllegalStateException") hown [(⟨0, 7, 10, 31⟩ : ExceptionTableEntry)] (⟨0, 7, 14, 15⟩ : ExceptionTableEntry) [] htb (fun z hz9 => by obtain rfl := List.mem_singleton.mp hz9; exact Or.inr ⟨by decide, "java/lang/IndexOutOfBoundsException", hts (.classLink RL 31 "java/lang/IndexOutOfBoundsException") (by decide +kernel), hh.2.2.2.2.2.2.2.2.2.1.1 ("java/lang/IllegalStateException", "java/lang/IndexOutOfBoundsException") (by decide)⟩) rfl (by decide) (hts (.classLink RL 15 "java/lang/IllegalStateException") (by decide +kernel)) (va_Nw.use rfl (hh.2.2.2.2.2.2.2.2.2.2 ("java/lang/IllegalStateException", "java/lang/IllegalStateException") (by decide))) h1 h2 h3 ?_
      refine lv_astore (lv' := [(4, .ref q9), (0, .ref x), (1, .int v), (2, .int w), (3, .int u)]) hx hb dL_order_14 hl (by decide) rfl (fun ls hl => ?_)
      refine lv_iconst (v := 2) hx hb dL_order_16 (by decide) ?_
      exact k_iret hx hb hr hlk hh dL_order_17 (Nat.le_of_ble_eq_true rfl) (Nat.le_of_ble_eq_true rfl) ⟨by rw [hT], LPo.same hz ho hfo (by unfold orderS; rw [if_neg (by rw [hT]; decide)]) trivial⟩

set_option maxRecDepth 100000 in
set_option maxHeartbeats 4000000 in
theorem k_L_shift {l : Launch} (hst : l.stackTraces = false) {κ : Kx} {x o : Nat} {a : AD} {N P : Nat → Nat} {C : MS} {L L0 : List Nat} {f0 f : Nat → va_E} {g : Nat → Int64} (hz : ZC κ x a N P C L0 f0 L f) (hw : WC N P C) (ho : o ∈ L) (hfo : f o = outE κ g) {v w : Int32} : PM l κ yL_shift wsL_shift ({ frames := 8, cells := 3, slots := 18, locals := 127 } : Room) [.ref x, .int v, .int w] L f (fun v9 L1 f1 => v9 = some (.int (shiftTG N C v w)) ∧ LPo κ x o (shiftS (N, P, C) v w) L f L1 f1 (fun _ => True)) noX 3 18 := by
  refine PM.mkH (cc := cL_shift) (maxL := 4) (ret := (some .int)) (tb := [(0, 6, 9, 31), (0, 6, 12, 15)]) (by decide) rfl (Nat.le_of_ble_eq_true rfl) ?_
  intro p e s m args below meth c ls hx hb hml hr hlk hown hts htb hh hl
  have hl : lv_has ls 4 [(0, .ref x), (1, .int v), (2, .int w)] := hl
  have S : CallFix p m c cL_shift 4 s args wsL_shift RL := ⟨hx, hb, hml, hown, hts⟩
  have hz := hz.self
  refine lv_aload_n hx hb dL_shift_0 rfl (lv_at hl 0 rfl) ?_
  refine lv_iload_n hx hb dL_shift_1 rfl (lv_at hl 1 rfl) ?_
  refine lv_iload_n hx hb dL_shift_2 rfl (lv_at hl 2 rfl) ?_
  refine k_callV (As := [.int v, .int w]) (g_shift hst hz hw (v := v) (w := w)) S hh (cwV 2 hts gL_shift_X5_shift rfl rfl rfl (by decide +kernel) ⟨(Nat.le_of_ble_eq_true rfl), (Nat.le_of_ble_eq_true rfl)⟩) hz.1.1.1 hz.1.1.2 (q := (RX5, TX5, 7)) rfl rfl rfl hl.1 rfl (Nat.le_of_ble_eq_true rfl) dL_shift_3 ⟨(Nat.le_of_ble_eq_true rfl), (Nat.le_of_ble_eq_true rfl)⟩ (fun v9 L1 f1 H locs hp hh => ?_) (fun E ce q9 H locs hE hh h1 h2 h3 => ?_)
  · obtain ⟨rfl, hT, hL1, hz1⟩ := hp
    subst hL1
    refine lv_goto (tgt := 15) hx hb dL_shift_6 (by decide) ?_
    refine lv_iconst (v := 0) hx hb dL_shift_15 (by decide) ?_
    exact k_iret hx hb hr hlk hh dL_shift_16 (Nat.le_of_ble_eq_true rfl) (Nat.le_of_ble_eq_true rfl) ⟨by rw [hT], LPo.keep hz1 ho hfo (by unfold shiftS; rw [if_pos hT]) trivial⟩
  · rcases hE with ⟨rfl, hT⟩ | ⟨rfl, hT⟩
    · refine vx_catch (name := "java/lang/IndexOutOfBoundsException") hown [] (⟨0, 6, 9, 31⟩ : ExceptionTableEntry) [(⟨0, 6, 12, 15⟩ : ExceptionTableEntry)] htb (fun z hz9 => nomatch hz9) rfl (by decide) (hts (.classLink RL 31 "java/lang/IndexOutOfBoundsException") (by decide +kernel)) (va_Nw.use rfl (hh.2.2.2.2.2.2.2.2.2.2 ("java/lang/IndexOutOfBoundsException", "java/lang/IndexOutOfBoundsException") (by decide))) h1 h2 h3 ?_
      refine lv_astore_n (lv' := [(3, .ref q9), (0, .ref x), (1, .int v), (2, .int w)]) hx hb dL_shift_9 rfl hl (by decide) rfl (fun ls hl => ?_)
      refine lv_iconst (v := 1) hx hb dL_shift_10 (by decide) ?_
      exact k_iret hx hb hr hlk hh dL_shift_11 (Nat.le_of_ble_eq_true rfl) (Nat.le_of_ble_eq_true rfl) ⟨by rw [hT], LPo.same hz ho hfo (by unfold shiftS; rw [if_neg (by rw [hT]; decide)]) trivial⟩
    · refine vx_catch (name := "java/lang/IllegalStateException") hown [(⟨0, 6, 9, 31⟩ : ExceptionTableEntry)] (⟨0, 6, 12, 15⟩ : ExceptionTableEntry) [] htb (fun z hz9 => by obtain rfl := List.mem_singleton.mp hz9; exact Or.inr ⟨by decide, "java/lang/IndexOutOfBoundsException", hts (.classLink RL 31 "java/lang/IndexOutOfBoundsException") (by decide +kernel), hh.2.2.2.2.2.2.2.2.2.1.1 ("java/lang/IllegalStateException", "java/lang/IndexOutOfBoundsException") (by decide)⟩) rfl (by decide) (hts (.classLink RL 15 "java/lang/IllegalStateException") (by decide +kernel)) (va_Nw.use rfl (hh.2.2.2.2.2.2.2.2.2.2 ("java/lang/IllegalStateException", "java/lang/IllegalStateException") (by decide))) h1 h2 h3 ?_
      refine lv_astore_n (lv' := [(3, .ref q9), (0, .ref x), (1, .int v), (2, .int w)]) hx hb dL_shift_12 rfl hl (by decide) rfl (fun ls hl => ?_)
      refine lv_iconst (v := 2) hx hb dL_shift_13 (by decide) ?_
      exact k_iret hx hb hr hlk hh dL_shift_14 (Nat.le_of_ble_eq_true rfl) (Nat.le_of_ble_eq_true rfl) ⟨by rw [hT], LPo.same hz ho hfo (by unfold shiftS; rw [if_neg (by rw [hT]; decide)]) trivial⟩

set_option maxRecDepth 100000 in
set_option maxHeartbeats 4000000 in
theorem k_L_sweep {l : Launch} (hst : l.stackTraces = false) {κ : Kx} {x o : Nat} {a : AD} {N P : Nat → Nat} {C : MS} {L L0 : List Nat} {f0 f : Nat → va_E} {g : Nat → Int64} (hz : ZC κ x a N P C L0 f0 L f) (hw : WC N P C) (ho : o ∈ L) (hfo : f o = outE κ g) {v w : Int32} : PM l κ yL_sweep wsL_sweep ({ frames := 8, cells := 4, slots := 24, locals := 128 } : Room) [.ref x, .int v, .int w, .ref o] L f (fun v9 L1 f1 => v9 = some (.int (sweepTG N C v w)) ∧ LPo κ x o (sweepS (N, P, C) v w) L f L1 f1 (fun z => (sweepTG N C v w) = 0 → z = (C 3 (nT v) : Int32).toInt64)) noX 4 24 := by
  refine PM.mkH (cc := cL_sweep) (maxL := 5) (ret := (some .int)) (tb := [(0, 10, 13, 31), (0, 10, 17, 15)]) (by decide) rfl (Nat.le_of_ble_eq_true rfl) ?_
  intro p e s m args below meth c ls hx hb hml hr hlk hown hts htb hh hl
  have hl : lv_has ls 5 [(0, .ref x), (1, .int v), (2, .int w), (3, .ref o)] := hl
  have S : CallFix p m c cL_sweep 5 s args wsL_sweep RL := ⟨hx, hb, hml, hown, hts⟩
  have hz := hz.self
  refine lv_aload_n hx hb dL_sweep_0 rfl (lv_at hl 3 rfl) ?_
  refine lv_iconst (v := 0) hx hb dL_sweep_1 (by decide) ?_
  refine lv_aload_n hx hb dL_sweep_2 rfl (lv_at hl 0 rfl) ?_
  refine lv_iload_n hx hb dL_sweep_3 rfl (lv_at hl 1 rfl) ?_
  refine lv_iload_n hx hb dL_sweep_4 rfl (lv_at hl 2 rfl) ?_
  refine k_callV (As := [.int v, .int w]) (g_sweep hst hz hw (v := v) (w := w)) S hh (cwV 2 hts gL_sweep_X5_sweep rfl rfl rfl (by decide +kernel) ⟨(Nat.le_of_ble_eq_true rfl), (Nat.le_of_ble_eq_true rfl)⟩) hz.1.1.1 hz.1.1.2 (q := (RX5, TX5, 7)) rfl rfl rfl hl.1 rfl (Nat.le_of_ble_eq_true rfl) dL_sweep_5 ⟨(Nat.le_of_ble_eq_true rfl), (Nat.le_of_ble_eq_true rfl)⟩ (fun v9 L1 f1 H locs hp hh => ?_) (fun E ce q9 H locs hE hh h1 h2 h3 => ?_)
  · obtain ⟨rfl, hT, hL1, hz1⟩ := hp
    subst hL1
    refine lv_i2l hx hb dL_sweep_8 rfl ?_
    refine h_last hx hb hh (hz1.outO ho hfo).1 (hz1.outO ho hfo).2 (show vp_in 0 1 by unfold vp_in; decide) dL_sweep_9 (fun H locs hh => ?_)
    refine lv_goto (tgt := 21) hx hb dL_sweep_10 (by decide) ?_
    refine lv_iconst (v := 0) hx hb dL_sweep_21 (by decide) ?_
    exact k_iret hx hb hr hlk hh dL_sweep_22 (Nat.le_of_ble_eq_true rfl) (Nat.le_of_ble_eq_true rfl) ⟨by rw [hT], LPo.write hz1 ho hfo (by unfold sweepS; rw [if_pos hT]) (fun _ => rfl)⟩
  · rcases hE with ⟨rfl, hT⟩ | ⟨rfl, hT⟩
    · refine vx_catch (name := "java/lang/IndexOutOfBoundsException") hown [] (⟨0, 10, 13, 31⟩ : ExceptionTableEntry) [(⟨0, 10, 17, 15⟩ : ExceptionTableEntry)] htb (fun z hz9 => nomatch hz9) rfl (by decide) (hts (.classLink RL 31 "java/lang/IndexOutOfBoundsException") (by decide +kernel)) (va_Nw.use rfl (hh.2.2.2.2.2.2.2.2.2.2 ("java/lang/IndexOutOfBoundsException", "java/lang/IndexOutOfBoundsException") (by decide))) h1 h2 h3 ?_
      refine lv_astore (lv' := [(4, .ref q9), (0, .ref x), (1, .int v), (2, .int w), (3, .ref o)]) hx hb dL_sweep_13 hl (by decide) rfl (fun ls hl => ?_)
      refine lv_iconst (v := 1) hx hb dL_sweep_15 (by decide) ?_
      exact k_iret hx hb hr hlk hh dL_sweep_16 (Nat.le_of_ble_eq_true rfl) (Nat.le_of_ble_eq_true rfl) ⟨by rw [hT], LPo.same hz ho hfo (by unfold sweepS; rw [if_neg (by rw [hT]; decide)]) (fun q => absurd q (by rw [hT]; decide))⟩
    · refine vx_catch (name := "java/lang/IllegalStateException") hown [(⟨0, 10, 13, 31⟩ : ExceptionTableEntry)] (⟨0, 10, 17, 15⟩ : ExceptionTableEntry) [] htb (fun z hz9 => by obtain rfl := List.mem_singleton.mp hz9; exact Or.inr ⟨by decide, "java/lang/IndexOutOfBoundsException", hts (.classLink RL 31 "java/lang/IndexOutOfBoundsException") (by decide +kernel), hh.2.2.2.2.2.2.2.2.2.1.1 ("java/lang/IllegalStateException", "java/lang/IndexOutOfBoundsException") (by decide)⟩) rfl (by decide) (hts (.classLink RL 15 "java/lang/IllegalStateException") (by decide +kernel)) (va_Nw.use rfl (hh.2.2.2.2.2.2.2.2.2.2 ("java/lang/IllegalStateException", "java/lang/IllegalStateException") (by decide))) h1 h2 h3 ?_
      refine lv_astore (lv' := [(4, .ref q9), (0, .ref x), (1, .int v), (2, .int w), (3, .ref o)]) hx hb dL_sweep_17 hl (by decide) rfl (fun ls hl => ?_)
      refine lv_iconst (v := 2) hx hb dL_sweep_19 (by decide) ?_
      exact k_iret hx hb hr hlk hh dL_sweep_20 (Nat.le_of_ble_eq_true rfl) (Nat.le_of_ble_eq_true rfl) ⟨by rw [hT], LPo.same hz ho hfo (by unfold sweepS; rw [if_neg (by rw [hT]; decide)]) (fun q => absurd q (by rw [hT]; decide))⟩

set_option maxRecDepth 100000 in
set_option maxHeartbeats 4000000 in
theorem k_L_hours {l : Launch} (hst : l.stackTraces = false) {κ : Kx} {x o : Nat} {a : AD} {N P : Nat → Nat} {C : MS} {L L0 : List Nat} {f0 f : Nat → va_E} {g : Nat → Int64} (hz : ZC κ x a N P C L0 f0 L f) (hw : WC N P C) (ho : o ∈ L) (hfo : f o = outE κ g) {v : Int32} : PM l κ yL_hours wsL_hours ({ frames := 8, cells := 1, slots := 6, locals := 159 } : Room) [.ref x, .int v, .ref o] L f (fun v9 L1 f1 => v9 = some (.int (hoursTG v)) ∧ LPo κ x o (hoursS (N, P, C) v) L f L1 f1 (fun z => (hoursTG v) = 0 → z = ((hsG N P C (nT v)).2 : Int32).toInt64)) noX 1 6 := by
  refine PM.mkH (cc := cL_hours) (maxL := 4) (ret := (some .int)) (tb := [(0, 9, 12, 13)]) (by decide) rfl (Nat.le_of_ble_eq_true rfl) ?_
  intro p e s m args below meth c ls hx hb hml hr hlk hown hts htb hh hl
  have hl : lv_has ls 4 [(0, .ref x), (1, .int v), (2, .ref o)] := hl
  have S : CallFix p m c cL_hours 4 s args wsL_hours RL := ⟨hx, hb, hml, hown, hts⟩
  have hz := hz.self
  refine lv_aload_n hx hb dL_hours_0 rfl (lv_at hl 2 rfl) ?_
  refine lv_iconst (v := 0) hx hb dL_hours_1 (by decide) ?_
  refine lv_aload_n hx hb dL_hours_2 rfl (lv_at hl 0 rfl) ?_
  refine lv_iload_n hx hb dL_hours_3 rfl (lv_at hl 1 rfl) ?_
  refine k_callV (As := [.int v]) (g_hours hst hz hw (v := v)) S hh (cwV 1 hts gL_hours_X5_hours rfl rfl rfl (by decide +kernel) ⟨(Nat.le_of_ble_eq_true rfl), (Nat.le_of_ble_eq_true rfl)⟩) hz.1.1.1 hz.1.1.2 (q := (RX5, TX5, 7)) rfl rfl rfl hl.1 rfl (Nat.le_of_ble_eq_true rfl) dL_hours_4 ⟨(Nat.le_of_ble_eq_true rfl), (Nat.le_of_ble_eq_true rfl)⟩ (fun v9 L1 f1 H locs hp hh => ?_) (fun E ce q9 H locs hE hh h1 h2 h3 => ?_)
  · obtain ⟨rfl, hin, hL1, hz1⟩ := hp
    subst hL1
    have hT : hoursTG v = 0 := by unfold hoursTG; rw [if_neg hin.1, if_pos hin.2]
    refine lv_i2l hx hb dL_hours_7 rfl ?_
    refine h_last hx hb hh (hz1.outO ho hfo).1 (hz1.outO ho hfo).2 (show vp_in 0 1 by unfold vp_in; decide) dL_hours_8 (fun H locs hh => ?_)
    refine lv_goto (tgt := 15) hx hb dL_hours_9 (by decide) ?_
    refine lv_iconst (v := 0) hx hb dL_hours_15 (by decide) ?_
    exact k_iret hx hb hr hlk hh dL_hours_16 (Nat.le_of_ble_eq_true rfl) (Nat.le_of_ble_eq_true rfl) ⟨by rw [hT], LPo.write hz1 ho hfo (by unfold hoursS; rw [if_pos hT]) (fun _ => rfl)⟩
  · obtain ⟨rfl, hE2⟩ := hE
    have hT : (hoursTG v) = 1 := (by unfold hoursTG; (repeat' split); all_goals first | rfl | exact absurd ⟨by assumption, by assumption⟩ hE2)
    refine vx_catch (name := "java/lang/IllegalArgumentException") hown [] (⟨0, 9, 12, 13⟩ : ExceptionTableEntry) [] htb (fun z hz9 => nomatch hz9) rfl (by decide) (hts (.classLink RL 13 "java/lang/IllegalArgumentException") (by decide +kernel)) (va_Nw.use rfl (hh.2.2.2.2.2.2.2.2.2.2 ("java/lang/IllegalArgumentException", "java/lang/IllegalArgumentException") (by decide))) h1 h2 h3 ?_
    refine lv_astore_n (lv' := [(3, .ref q9), (0, .ref x), (1, .int v), (2, .ref o)]) hx hb dL_hours_12 rfl hl (by decide) rfl (fun ls hl => ?_)
    refine lv_iconst (v := 1) hx hb dL_hours_13 (by decide) ?_
    exact k_iret hx hb hr hlk hh dL_hours_14 (Nat.le_of_ble_eq_true rfl) (Nat.le_of_ble_eq_true rfl) ⟨by rw [hT], LPo.same hz ho hfo (by unfold hoursS; rw [if_neg (by rw [hT]; decide)]) (fun q => absurd q (by rw [hT]; decide))⟩

set_option maxRecDepth 100000 in
set_option maxHeartbeats 4000000 in
theorem k_L_coalIn {l : Launch} (hst : l.stackTraces = false) {κ : Kx} {x o : Nat} {a : AD} {N P : Nat → Nat} {C : MS} {L L0 : List Nat} {f0 f : Nat → va_E} {g : Nat → Int64} (hz : ZC κ x a N P C L0 f0 L f) (hw : WC N P C) (ho : o ∈ L) (hfo : f o = outE κ g) {w : Int32} : PM l κ yL_coalIn wsL_coalIn ({ frames := 8, cells := 1, slots := 6, locals := 124 } : Room) [.ref x, .int w, .ref o] L f (fun v9 L1 f1 => v9 = some (.int (readTG (N 0) w)) ∧ LPo κ x o (N, P, C) L f L1 f1 (fun z => (readTG (N 0) w) = 0 → z = (C 0 (nT w) : Int32).toInt64)) noX 1 6 := by
  refine PM.mkH (cc := cL_coalIn) (maxL := 4) (ret := (some .int)) (tb := [(0, 9, 12, 31)]) (by decide) rfl (Nat.le_of_ble_eq_true rfl) ?_
  intro p e s m args below meth c ls hx hb hml hr hlk hown hts htb hh hl
  have hl : lv_has ls 4 [(0, .ref x), (1, .int w), (2, .ref o)] := hl
  have S : CallFix p m c cL_coalIn 4 s args wsL_coalIn RL := ⟨hx, hb, hml, hown, hts⟩
  have hz := hz.self
  refine lv_aload_n hx hb dL_coalIn_0 rfl (lv_at hl 2 rfl) ?_
  refine lv_iconst (v := 0) hx hb dL_coalIn_1 (by decide) ?_
  refine lv_aload_n hx hb dL_coalIn_2 rfl (lv_at hl 0 rfl) ?_
  refine lv_iload_n hx hb dL_coalIn_3 rfl (lv_at hl 1 rfl) ?_
  refine k_callV (As := [.int w]) (g_coalIn hst hz hw (w := w)) S hh (cwV 1 hts gL_coalIn_X5_coalIn rfl rfl rfl (by decide +kernel) ⟨(Nat.le_of_ble_eq_true rfl), (Nat.le_of_ble_eq_true rfl)⟩) hz.1.1.1 hz.1.1.2 (q := (RX5, TX5, 7)) rfl rfl rfl hl.1 rfl (Nat.le_of_ble_eq_true rfl) dL_coalIn_4 ⟨(Nat.le_of_ble_eq_true rfl), (Nat.le_of_ble_eq_true rfl)⟩ (fun v9 L1 f1 H locs hp hh => ?_) (fun E ce q9 H locs hE hh h1 h2 h3 => ?_)
  · obtain ⟨rfl, hne, hL1, hf1⟩ := hp
    subst hL1; subst hf1
    have hT : readTG (N 0) w = 0 := by unfold readTG; rw [if_neg hne]
    refine lv_i2l hx hb dL_coalIn_7 rfl ?_
    refine h_last hx hb hh (hz.outO ho hfo).1 (hz.outO ho hfo).2 (show vp_in 0 1 by unfold vp_in; decide) dL_coalIn_8 (fun H locs hh => ?_)
    refine lv_goto (tgt := 15) hx hb dL_coalIn_9 (by decide) ?_
    refine lv_iconst (v := 0) hx hb dL_coalIn_15 (by decide) ?_
    exact k_iret hx hb hr hlk hh dL_coalIn_16 (Nat.le_of_ble_eq_true rfl) (Nat.le_of_ble_eq_true rfl) ⟨by rw [hT], LPo.write hz ho hfo rfl (fun _ => rfl)⟩
  · obtain ⟨rfl, hE2⟩ := hE
    have hT : (readTG (N 0) w) = 1 := (by unfold readTG; rw [if_pos hE2])
    refine vx_catch (name := "java/lang/IndexOutOfBoundsException") hown [] (⟨0, 9, 12, 31⟩ : ExceptionTableEntry) [] htb (fun z hz9 => nomatch hz9) rfl (by decide) (hts (.classLink RL 31 "java/lang/IndexOutOfBoundsException") (by decide +kernel)) (va_Nw.use rfl (hh.2.2.2.2.2.2.2.2.2.2 ("java/lang/IndexOutOfBoundsException", "java/lang/IndexOutOfBoundsException") (by decide))) h1 h2 h3 ?_
    refine lv_astore_n (lv' := [(3, .ref q9), (0, .ref x), (1, .int w), (2, .ref o)]) hx hb dL_coalIn_12 rfl hl (by decide) rfl (fun ls hl => ?_)
    refine lv_iconst (v := 1) hx hb dL_coalIn_13 (by decide) ?_
    exact k_iret hx hb hr hlk hh dL_coalIn_14 (Nat.le_of_ble_eq_true rfl) (Nat.le_of_ble_eq_true rfl) ⟨by rw [hT], LPo.same hz ho hfo rfl (fun q => absurd q (by rw [hT]; decide))⟩

set_option maxRecDepth 100000 in
set_option maxHeartbeats 4000000 in
theorem k_L_placeOf {l : Launch} (hst : l.stackTraces = false) {κ : Kx} {x o : Nat} {a : AD} {N P : Nat → Nat} {C : MS} {L L0 : List Nat} {f0 f : Nat → va_E} {g : Nat → Int64} (hz : ZC κ x a N P C L0 f0 L f) (hw : WC N P C) (ho : o ∈ L) (hfo : f o = outE κ g) {w : Int32} : PM l κ yL_placeOf wsL_placeOf ({ frames := 8, cells := 1, slots := 6, locals := 124 } : Room) [.ref x, .int w, .ref o] L f (fun v9 L1 f1 => v9 = some (.int (readTG (N 1) w)) ∧ LPo κ x o (N, P, C) L f L1 f1 (fun z => (readTG (N 1) w) = 0 → z = (C 4 (nT w) : Int32).toInt64)) noX 1 6 := by
  refine PM.mkH (cc := cL_placeOf) (maxL := 4) (ret := (some .int)) (tb := [(0, 9, 12, 31)]) (by decide) rfl (Nat.le_of_ble_eq_true rfl) ?_
  intro p e s m args below meth c ls hx hb hml hr hlk hown hts htb hh hl
  have hl : lv_has ls 4 [(0, .ref x), (1, .int w), (2, .ref o)] := hl
  have S : CallFix p m c cL_placeOf 4 s args wsL_placeOf RL := ⟨hx, hb, hml, hown, hts⟩
  have hz := hz.self
  refine lv_aload_n hx hb dL_placeOf_0 rfl (lv_at hl 2 rfl) ?_
  refine lv_iconst (v := 0) hx hb dL_placeOf_1 (by decide) ?_
  refine lv_aload_n hx hb dL_placeOf_2 rfl (lv_at hl 0 rfl) ?_
  refine lv_iload_n hx hb dL_placeOf_3 rfl (lv_at hl 1 rfl) ?_
  refine k_callV (As := [.int w]) (g_placeOf hst hz hw (w := w)) S hh (cwV 1 hts gL_placeOf_X5_placeOf rfl rfl rfl (by decide +kernel) ⟨(Nat.le_of_ble_eq_true rfl), (Nat.le_of_ble_eq_true rfl)⟩) hz.1.1.1 hz.1.1.2 (q := (RX5, TX5, 7)) rfl rfl rfl hl.1 rfl (Nat.le_of_ble_eq_true rfl) dL_placeOf_4 ⟨(Nat.le_of_ble_eq_true rfl), (Nat.le_of_ble_eq_true rfl)⟩ (fun v9 L1 f1 H locs hp hh => ?_) (fun E ce q9 H locs hE hh h1 h2 h3 => ?_)
  · obtain ⟨rfl, hne, hL1, hf1⟩ := hp
    subst hL1; subst hf1
    have hT : readTG (N 1) w = 0 := by unfold readTG; rw [if_neg hne]
    refine lv_i2l hx hb dL_placeOf_7 rfl ?_
    refine h_last hx hb hh (hz.outO ho hfo).1 (hz.outO ho hfo).2 (show vp_in 0 1 by unfold vp_in; decide) dL_placeOf_8 (fun H locs hh => ?_)
    refine lv_goto (tgt := 15) hx hb dL_placeOf_9 (by decide) ?_
    refine lv_iconst (v := 0) hx hb dL_placeOf_15 (by decide) ?_
    exact k_iret hx hb hr hlk hh dL_placeOf_16 (Nat.le_of_ble_eq_true rfl) (Nat.le_of_ble_eq_true rfl) ⟨by rw [hT], LPo.write hz ho hfo rfl (fun _ => rfl)⟩
  · obtain ⟨rfl, hE2⟩ := hE
    have hT : (readTG (N 1) w) = 1 := (by unfold readTG; rw [if_pos hE2])
    refine vx_catch (name := "java/lang/IndexOutOfBoundsException") hown [] (⟨0, 9, 12, 31⟩ : ExceptionTableEntry) [] htb (fun z hz9 => nomatch hz9) rfl (by decide) (hts (.classLink RL 31 "java/lang/IndexOutOfBoundsException") (by decide +kernel)) (va_Nw.use rfl (hh.2.2.2.2.2.2.2.2.2.2 ("java/lang/IndexOutOfBoundsException", "java/lang/IndexOutOfBoundsException") (by decide))) h1 h2 h3 ?_
    refine lv_astore_n (lv' := [(3, .ref q9), (0, .ref x), (1, .int w), (2, .ref o)]) hx hb dL_placeOf_12 rfl hl (by decide) rfl (fun ls hl => ?_)
    refine lv_iconst (v := 1) hx hb dL_placeOf_13 (by decide) ?_
    exact k_iret hx hb hr hlk hh dL_placeOf_14 (Nat.le_of_ble_eq_true rfl) (Nat.le_of_ble_eq_true rfl) ⟨by rw [hT], LPo.same hz ho hfo rfl (fun q => absurd q (by rw [hT]; decide))⟩

set_option maxRecDepth 100000 in
set_option maxHeartbeats 4000000 in
theorem k_L_loadOf {l : Launch} (hst : l.stackTraces = false) {κ : Kx} {x o : Nat} {a : AD} {N P : Nat → Nat} {C : MS} {L L0 : List Nat} {f0 f : Nat → va_E} {g : Nat → Int64} (hz : ZC κ x a N P C L0 f0 L f) (hw : WC N P C) (ho : o ∈ L) (hfo : f o = outE κ g) {w : Int32} : PM l κ yL_loadOf wsL_loadOf ({ frames := 8, cells := 1, slots := 6, locals := 124 } : Room) [.ref x, .int w, .ref o] L f (fun v9 L1 f1 => v9 = some (.int (readTG (N 1) w)) ∧ LPo κ x o (N, P, C) L f L1 f1 (fun z => (readTG (N 1) w) = 0 → z = (C 2 (nT w) : Int32).toInt64)) noX 1 6 := by
  refine PM.mkH (cc := cL_loadOf) (maxL := 4) (ret := (some .int)) (tb := [(0, 9, 12, 31)]) (by decide) rfl (Nat.le_of_ble_eq_true rfl) ?_
  intro p e s m args below meth c ls hx hb hml hr hlk hown hts htb hh hl
  have hl : lv_has ls 4 [(0, .ref x), (1, .int w), (2, .ref o)] := hl
  have S : CallFix p m c cL_loadOf 4 s args wsL_loadOf RL := ⟨hx, hb, hml, hown, hts⟩
  have hz := hz.self
  refine lv_aload_n hx hb dL_loadOf_0 rfl (lv_at hl 2 rfl) ?_
  refine lv_iconst (v := 0) hx hb dL_loadOf_1 (by decide) ?_
  refine lv_aload_n hx hb dL_loadOf_2 rfl (lv_at hl 0 rfl) ?_
  refine lv_iload_n hx hb dL_loadOf_3 rfl (lv_at hl 1 rfl) ?_
  refine k_callV (As := [.int w]) (g_loadOf hst hz hw (w := w)) S hh (cwV 1 hts gL_loadOf_X5_loadOf rfl rfl rfl (by decide +kernel) ⟨(Nat.le_of_ble_eq_true rfl), (Nat.le_of_ble_eq_true rfl)⟩) hz.1.1.1 hz.1.1.2 (q := (RX5, TX5, 7)) rfl rfl rfl hl.1 rfl (Nat.le_of_ble_eq_true rfl) dL_loadOf_4 ⟨(Nat.le_of_ble_eq_true rfl), (Nat.le_of_ble_eq_true rfl)⟩ (fun v9 L1 f1 H locs hp hh => ?_) (fun E ce q9 H locs hE hh h1 h2 h3 => ?_)
  · obtain ⟨rfl, hne, hL1, hf1⟩ := hp
    subst hL1; subst hf1
    have hT : readTG (N 1) w = 0 := by unfold readTG; rw [if_neg hne]
    refine lv_i2l hx hb dL_loadOf_7 rfl ?_
    refine h_last hx hb hh (hz.outO ho hfo).1 (hz.outO ho hfo).2 (show vp_in 0 1 by unfold vp_in; decide) dL_loadOf_8 (fun H locs hh => ?_)
    refine lv_goto (tgt := 15) hx hb dL_loadOf_9 (by decide) ?_
    refine lv_iconst (v := 0) hx hb dL_loadOf_15 (by decide) ?_
    exact k_iret hx hb hr hlk hh dL_loadOf_16 (Nat.le_of_ble_eq_true rfl) (Nat.le_of_ble_eq_true rfl) ⟨by rw [hT], LPo.write hz ho hfo rfl (fun _ => rfl)⟩
  · obtain ⟨rfl, hE2⟩ := hE
    have hT : (readTG (N 1) w) = 1 := (by unfold readTG; rw [if_pos hE2])
    refine vx_catch (name := "java/lang/IndexOutOfBoundsException") hown [] (⟨0, 9, 12, 31⟩ : ExceptionTableEntry) [] htb (fun z hz9 => nomatch hz9) rfl (by decide) (hts (.classLink RL 31 "java/lang/IndexOutOfBoundsException") (by decide +kernel)) (va_Nw.use rfl (hh.2.2.2.2.2.2.2.2.2.2 ("java/lang/IndexOutOfBoundsException", "java/lang/IndexOutOfBoundsException") (by decide))) h1 h2 h3 ?_
    refine lv_astore_n (lv' := [(3, .ref q9), (0, .ref x), (1, .int w), (2, .ref o)]) hx hb dL_loadOf_12 rfl hl (by decide) rfl (fun ls hl => ?_)
    refine lv_iconst (v := 1) hx hb dL_loadOf_13 (by decide) ?_
    exact k_iret hx hb hr hlk hh dL_loadOf_14 (Nat.le_of_ble_eq_true rfl) (Nat.le_of_ble_eq_true rfl) ⟨by rw [hT], LPo.same hz ho hfo rfl (fun q => absurd q (by rw [hT]; decide))⟩

set_option maxRecDepth 100000 in
set_option maxHeartbeats 4000000 in
theorem k_L_dustIn {l : Launch} (hst : l.stackTraces = false) {κ : Kx} {x o : Nat} {a : AD} {N P : Nat → Nat} {C : MS} {L L0 : List Nat} {f0 f : Nat → va_E} {g : Nat → Int64} (hz : ZC κ x a N P C L0 f0 L f) (hw : WC N P C) (ho : o ∈ L) (hfo : f o = outE κ g) {w : Int32} : PM l κ yL_dustIn wsL_dustIn ({ frames := 8, cells := 1, slots := 6, locals := 124 } : Room) [.ref x, .int w, .ref o] L f (fun v9 L1 f1 => v9 = some (.int (readTG (N 1) w)) ∧ LPo κ x o (N, P, C) L f L1 f1 (fun z => (readTG (N 1) w) = 0 → z = (C 3 (nT w) : Int32).toInt64)) noX 1 6 := by
  refine PM.mkH (cc := cL_dustIn) (maxL := 4) (ret := (some .int)) (tb := [(0, 9, 12, 31)]) (by decide) rfl (Nat.le_of_ble_eq_true rfl) ?_
  intro p e s m args below meth c ls hx hb hml hr hlk hown hts htb hh hl
  have hl : lv_has ls 4 [(0, .ref x), (1, .int w), (2, .ref o)] := hl
  have S : CallFix p m c cL_dustIn 4 s args wsL_dustIn RL := ⟨hx, hb, hml, hown, hts⟩
  have hz := hz.self
  refine lv_aload_n hx hb dL_dustIn_0 rfl (lv_at hl 2 rfl) ?_
  refine lv_iconst (v := 0) hx hb dL_dustIn_1 (by decide) ?_
  refine lv_aload_n hx hb dL_dustIn_2 rfl (lv_at hl 0 rfl) ?_
  refine lv_iload_n hx hb dL_dustIn_3 rfl (lv_at hl 1 rfl) ?_
  refine k_callV (As := [.int w]) (g_dustIn hst hz hw (w := w)) S hh (cwV 1 hts gL_dustIn_X5_dustIn rfl rfl rfl (by decide +kernel) ⟨(Nat.le_of_ble_eq_true rfl), (Nat.le_of_ble_eq_true rfl)⟩) hz.1.1.1 hz.1.1.2 (q := (RX5, TX5, 7)) rfl rfl rfl hl.1 rfl (Nat.le_of_ble_eq_true rfl) dL_dustIn_4 ⟨(Nat.le_of_ble_eq_true rfl), (Nat.le_of_ble_eq_true rfl)⟩ (fun v9 L1 f1 H locs hp hh => ?_) (fun E ce q9 H locs hE hh h1 h2 h3 => ?_)
  · obtain ⟨rfl, hne, hL1, hf1⟩ := hp
    subst hL1; subst hf1
    have hT : readTG (N 1) w = 0 := by unfold readTG; rw [if_neg hne]
    refine lv_i2l hx hb dL_dustIn_7 rfl ?_
    refine h_last hx hb hh (hz.outO ho hfo).1 (hz.outO ho hfo).2 (show vp_in 0 1 by unfold vp_in; decide) dL_dustIn_8 (fun H locs hh => ?_)
    refine lv_goto (tgt := 15) hx hb dL_dustIn_9 (by decide) ?_
    refine lv_iconst (v := 0) hx hb dL_dustIn_15 (by decide) ?_
    exact k_iret hx hb hr hlk hh dL_dustIn_16 (Nat.le_of_ble_eq_true rfl) (Nat.le_of_ble_eq_true rfl) ⟨by rw [hT], LPo.write hz ho hfo rfl (fun _ => rfl)⟩
  · obtain ⟨rfl, hE2⟩ := hE
    have hT : (readTG (N 1) w) = 1 := (by unfold readTG; rw [if_pos hE2])
    refine vx_catch (name := "java/lang/IndexOutOfBoundsException") hown [] (⟨0, 9, 12, 31⟩ : ExceptionTableEntry) [] htb (fun z hz9 => nomatch hz9) rfl (by decide) (hts (.classLink RL 31 "java/lang/IndexOutOfBoundsException") (by decide +kernel)) (va_Nw.use rfl (hh.2.2.2.2.2.2.2.2.2.2 ("java/lang/IndexOutOfBoundsException", "java/lang/IndexOutOfBoundsException") (by decide))) h1 h2 h3 ?_
    refine lv_astore_n (lv' := [(3, .ref q9), (0, .ref x), (1, .int w), (2, .ref o)]) hx hb dL_dustIn_12 rfl hl (by decide) rfl (fun ls hl => ?_)
    refine lv_iconst (v := 1) hx hb dL_dustIn_13 (by decide) ?_
    exact k_iret hx hb hr hlk hh dL_dustIn_14 (Nat.le_of_ble_eq_true rfl) (Nat.le_of_ble_eq_true rfl) ⟨by rw [hT], LPo.same hz ho hfo rfl (fun q => absurd q (by rw [hT]; decide))⟩

set_option maxRecDepth 100000 in
set_option maxHeartbeats 4000000 in
theorem k_L_gangOn {l : Launch} (hst : l.stackTraces = false) {κ : Kx} {x o : Nat} {a : AD} {N P : Nat → Nat} {C : MS} {L L0 : List Nat} {f0 f : Nat → va_E} {g : Nat → Int64} (hz : ZC κ x a N P C L0 f0 L f) (hw : WC N P C) (ho : o ∈ L) (hfo : f o = outE κ g) {w : Int32} : PM l κ yL_gangOn wsL_gangOn ({ frames := 8, cells := 1, slots := 6, locals := 125 } : Room) [.ref x, .int w, .ref o] L f (fun v9 L1 f1 => v9 = some (.int (readTG (N 1) w)) ∧ LPo κ x o (N, P, C) L f L1 f1 (fun z => (readTG (N 1) w) = 0 → z = (C 6 (nT w) : Int32).toInt64)) noX 1 6 := by
  refine PM.mkH (cc := cL_gangOn) (maxL := 4) (ret := (some .int)) (tb := [(0, 9, 12, 31)]) (by decide) rfl (Nat.le_of_ble_eq_true rfl) ?_
  intro p e s m args below meth c ls hx hb hml hr hlk hown hts htb hh hl
  have hl : lv_has ls 4 [(0, .ref x), (1, .int w), (2, .ref o)] := hl
  have S : CallFix p m c cL_gangOn 4 s args wsL_gangOn RL := ⟨hx, hb, hml, hown, hts⟩
  have hz := hz.self
  refine lv_aload_n hx hb dL_gangOn_0 rfl (lv_at hl 2 rfl) ?_
  refine lv_iconst (v := 0) hx hb dL_gangOn_1 (by decide) ?_
  refine lv_aload_n hx hb dL_gangOn_2 rfl (lv_at hl 0 rfl) ?_
  refine lv_iload_n hx hb dL_gangOn_3 rfl (lv_at hl 1 rfl) ?_
  refine k_callV (As := [.int w]) (g_gangOn hst hz hw (w := w)) S hh (cwV 1 hts gL_gangOn_X5_gangOn rfl rfl rfl (by decide +kernel) ⟨(Nat.le_of_ble_eq_true rfl), (Nat.le_of_ble_eq_true rfl)⟩) hz.1.1.1 hz.1.1.2 (q := (RX5, TX5, 7)) rfl rfl rfl hl.1 rfl (Nat.le_of_ble_eq_true rfl) dL_gangOn_4 ⟨(Nat.le_of_ble_eq_true rfl), (Nat.le_of_ble_eq_true rfl)⟩ (fun v9 L1 f1 H locs hp hh => ?_) (fun E ce q9 H locs hE hh h1 h2 h3 => ?_)
  · obtain ⟨rfl, hne, hL1, hf1⟩ := hp
    subst hL1; subst hf1
    have hT : readTG (N 1) w = 0 := by unfold readTG; rw [if_neg hne]
    refine lv_i2l hx hb dL_gangOn_7 rfl ?_
    refine h_last hx hb hh (hz.outO ho hfo).1 (hz.outO ho hfo).2 (show vp_in 0 1 by unfold vp_in; decide) dL_gangOn_8 (fun H locs hh => ?_)
    refine lv_goto (tgt := 15) hx hb dL_gangOn_9 (by decide) ?_
    refine lv_iconst (v := 0) hx hb dL_gangOn_15 (by decide) ?_
    exact k_iret hx hb hr hlk hh dL_gangOn_16 (Nat.le_of_ble_eq_true rfl) (Nat.le_of_ble_eq_true rfl) ⟨by rw [hT], LPo.write hz ho hfo rfl (fun _ => rfl)⟩
  · obtain ⟨rfl, hE2⟩ := hE
    have hT : (readTG (N 1) w) = 1 := (by unfold readTG; rw [if_pos hE2])
    refine vx_catch (name := "java/lang/IndexOutOfBoundsException") hown [] (⟨0, 9, 12, 31⟩ : ExceptionTableEntry) [] htb (fun z hz9 => nomatch hz9) rfl (by decide) (hts (.classLink RL 31 "java/lang/IndexOutOfBoundsException") (by decide +kernel)) (va_Nw.use rfl (hh.2.2.2.2.2.2.2.2.2.2 ("java/lang/IndexOutOfBoundsException", "java/lang/IndexOutOfBoundsException") (by decide))) h1 h2 h3 ?_
    refine lv_astore_n (lv' := [(3, .ref q9), (0, .ref x), (1, .int w), (2, .ref o)]) hx hb dL_gangOn_12 rfl hl (by decide) rfl (fun ls hl => ?_)
    refine lv_iconst (v := 1) hx hb dL_gangOn_13 (by decide) ?_
    exact k_iret hx hb hr hlk hh dL_gangOn_14 (Nat.le_of_ble_eq_true rfl) (Nat.le_of_ble_eq_true rfl) ⟨by rw [hT], LPo.same hz ho hfo rfl (fun q => absurd q (by rw [hT]; decide))⟩

set_option maxRecDepth 100000 in
set_option maxHeartbeats 4000000 in
theorem k_L_restOf {l : Launch} (hst : l.stackTraces = false) {κ : Kx} {x o : Nat} {a : AD} {N P : Nat → Nat} {C : MS} {L L0 : List Nat} {f0 f : Nat → va_E} {g : Nat → Int64} (hz : ZC κ x a N P C L0 f0 L f) (hw : WC N P C) (ho : o ∈ L) (hfo : f o = outE κ g) {w : Int32} : PM l κ yL_restOf wsL_restOf ({ frames := 8, cells := 1, slots := 6, locals := 124 } : Room) [.ref x, .int w, .ref o] L f (fun v9 L1 f1 => v9 = some (.int (readTG (N 2) w)) ∧ LPo κ x o (N, P, C) L f L1 f1 (fun z => (readTG (N 2) w) = 0 → z = (C 11 (nT w) : Int32).toInt64)) noX 1 6 := by
  refine PM.mkH (cc := cL_restOf) (maxL := 4) (ret := (some .int)) (tb := [(0, 9, 12, 31)]) (by decide) rfl (Nat.le_of_ble_eq_true rfl) ?_
  intro p e s m args below meth c ls hx hb hml hr hlk hown hts htb hh hl
  have hl : lv_has ls 4 [(0, .ref x), (1, .int w), (2, .ref o)] := hl
  have S : CallFix p m c cL_restOf 4 s args wsL_restOf RL := ⟨hx, hb, hml, hown, hts⟩
  have hz := hz.self
  refine lv_aload_n hx hb dL_restOf_0 rfl (lv_at hl 2 rfl) ?_
  refine lv_iconst (v := 0) hx hb dL_restOf_1 (by decide) ?_
  refine lv_aload_n hx hb dL_restOf_2 rfl (lv_at hl 0 rfl) ?_
  refine lv_iload_n hx hb dL_restOf_3 rfl (lv_at hl 1 rfl) ?_
  refine k_callV (As := [.int w]) (g_restOf hst hz hw (w := w)) S hh (cwV 1 hts gL_restOf_X5_restOf rfl rfl rfl (by decide +kernel) ⟨(Nat.le_of_ble_eq_true rfl), (Nat.le_of_ble_eq_true rfl)⟩) hz.1.1.1 hz.1.1.2 (q := (RX5, TX5, 7)) rfl rfl rfl hl.1 rfl (Nat.le_of_ble_eq_true rfl) dL_restOf_4 ⟨(Nat.le_of_ble_eq_true rfl), (Nat.le_of_ble_eq_true rfl)⟩ (fun v9 L1 f1 H locs hp hh => ?_) (fun E ce q9 H locs hE hh h1 h2 h3 => ?_)
  · obtain ⟨rfl, hne, hL1, hf1⟩ := hp
    subst hL1; subst hf1
    have hT : readTG (N 2) w = 0 := by unfold readTG; rw [if_neg hne]
    refine lv_i2l hx hb dL_restOf_7 rfl ?_
    refine h_last hx hb hh (hz.outO ho hfo).1 (hz.outO ho hfo).2 (show vp_in 0 1 by unfold vp_in; decide) dL_restOf_8 (fun H locs hh => ?_)
    refine lv_goto (tgt := 15) hx hb dL_restOf_9 (by decide) ?_
    refine lv_iconst (v := 0) hx hb dL_restOf_15 (by decide) ?_
    exact k_iret hx hb hr hlk hh dL_restOf_16 (Nat.le_of_ble_eq_true rfl) (Nat.le_of_ble_eq_true rfl) ⟨by rw [hT], LPo.write hz ho hfo rfl (fun _ => rfl)⟩
  · obtain ⟨rfl, hE2⟩ := hE
    have hT : (readTG (N 2) w) = 1 := (by unfold readTG; rw [if_pos hE2])
    refine vx_catch (name := "java/lang/IndexOutOfBoundsException") hown [] (⟨0, 9, 12, 31⟩ : ExceptionTableEntry) [] htb (fun z hz9 => nomatch hz9) rfl (by decide) (hts (.classLink RL 31 "java/lang/IndexOutOfBoundsException") (by decide +kernel)) (va_Nw.use rfl (hh.2.2.2.2.2.2.2.2.2.2 ("java/lang/IndexOutOfBoundsException", "java/lang/IndexOutOfBoundsException") (by decide))) h1 h2 h3 ?_
    refine lv_astore_n (lv' := [(3, .ref q9), (0, .ref x), (1, .int w), (2, .ref o)]) hx hb dL_restOf_12 rfl hl (by decide) rfl (fun ls hl => ?_)
    refine lv_iconst (v := 1) hx hb dL_restOf_13 (by decide) ?_
    exact k_iret hx hb hr hlk hh dL_restOf_14 (Nat.le_of_ble_eq_true rfl) (Nat.le_of_ble_eq_true rfl) ⟨by rw [hT], LPo.same hz ho hfo rfl (fun q => absurd q (by rw [hT]; decide))⟩

set_option maxRecDepth 100000 in
set_option maxHeartbeats 4000000 in
theorem k_L_fateOf {l : Launch} (hst : l.stackTraces = false) {κ : Kx} {x o : Nat} {a : AD} {N P : Nat → Nat} {C : MS} {L L0 : List Nat} {f0 f : Nat → va_E} {g : Nat → Int64} (hz : ZC κ x a N P C L0 f0 L f) (hw : WC N P C) (ho : o ∈ L) (hfo : f o = outE κ g) {w : Int32} : PM l κ yL_fateOf wsL_fateOf ({ frames := 8, cells := 1, slots := 6, locals := 124 } : Room) [.ref x, .int w, .ref o] L f (fun v9 L1 f1 => v9 = some (.int (readTG (N 3) w)) ∧ LPo κ x o (N, P, C) L f L1 f1 (fun z => (readTG (N 3) w) = 0 → z = (C 14 (nT w) : Int32).toInt64)) noX 1 6 := by
  refine PM.mkH (cc := cL_fateOf) (maxL := 4) (ret := (some .int)) (tb := [(0, 9, 12, 31)]) (by decide) rfl (Nat.le_of_ble_eq_true rfl) ?_
  intro p e s m args below meth c ls hx hb hml hr hlk hown hts htb hh hl
  have hl : lv_has ls 4 [(0, .ref x), (1, .int w), (2, .ref o)] := hl
  have S : CallFix p m c cL_fateOf 4 s args wsL_fateOf RL := ⟨hx, hb, hml, hown, hts⟩
  have hz := hz.self
  refine lv_aload_n hx hb dL_fateOf_0 rfl (lv_at hl 2 rfl) ?_
  refine lv_iconst (v := 0) hx hb dL_fateOf_1 (by decide) ?_
  refine lv_aload_n hx hb dL_fateOf_2 rfl (lv_at hl 0 rfl) ?_
  refine lv_iload_n hx hb dL_fateOf_3 rfl (lv_at hl 1 rfl) ?_
  refine k_callV (As := [.int w]) (g_fateOf hst hz hw (w := w)) S hh (cwV 1 hts gL_fateOf_X5_fateOf rfl rfl rfl (by decide +kernel) ⟨(Nat.le_of_ble_eq_true rfl), (Nat.le_of_ble_eq_true rfl)⟩) hz.1.1.1 hz.1.1.2 (q := (RX5, TX5, 7)) rfl rfl rfl hl.1 rfl (Nat.le_of_ble_eq_true rfl) dL_fateOf_4 ⟨(Nat.le_of_ble_eq_true rfl), (Nat.le_of_ble_eq_true rfl)⟩ (fun v9 L1 f1 H locs hp hh => ?_) (fun E ce q9 H locs hE hh h1 h2 h3 => ?_)
  · obtain ⟨rfl, hne, hL1, hf1⟩ := hp
    subst hL1; subst hf1
    have hT : readTG (N 3) w = 0 := by unfold readTG; rw [if_neg hne]
    refine lv_i2l hx hb dL_fateOf_7 rfl ?_
    refine h_last hx hb hh (hz.outO ho hfo).1 (hz.outO ho hfo).2 (show vp_in 0 1 by unfold vp_in; decide) dL_fateOf_8 (fun H locs hh => ?_)
    refine lv_goto (tgt := 15) hx hb dL_fateOf_9 (by decide) ?_
    refine lv_iconst (v := 0) hx hb dL_fateOf_15 (by decide) ?_
    exact k_iret hx hb hr hlk hh dL_fateOf_16 (Nat.le_of_ble_eq_true rfl) (Nat.le_of_ble_eq_true rfl) ⟨by rw [hT], LPo.write hz ho hfo rfl (fun _ => rfl)⟩
  · obtain ⟨rfl, hE2⟩ := hE
    have hT : (readTG (N 3) w) = 1 := (by unfold readTG; rw [if_pos hE2])
    refine vx_catch (name := "java/lang/IndexOutOfBoundsException") hown [] (⟨0, 9, 12, 31⟩ : ExceptionTableEntry) [] htb (fun z hz9 => nomatch hz9) rfl (by decide) (hts (.classLink RL 31 "java/lang/IndexOutOfBoundsException") (by decide +kernel)) (va_Nw.use rfl (hh.2.2.2.2.2.2.2.2.2.2 ("java/lang/IndexOutOfBoundsException", "java/lang/IndexOutOfBoundsException") (by decide))) h1 h2 h3 ?_
    refine lv_astore_n (lv' := [(3, .ref q9), (0, .ref x), (1, .int w), (2, .ref o)]) hx hb dL_fateOf_12 rfl hl (by decide) rfl (fun ls hl => ?_)
    refine lv_iconst (v := 1) hx hb dL_fateOf_13 (by decide) ?_
    exact k_iret hx hb hr hlk hh dL_fateOf_14 (Nat.le_of_ble_eq_true rfl) (Nat.le_of_ble_eq_true rfl) ⟨by rw [hT], LPo.same hz ho hfo rfl (fun q => absurd q (by rw [hT]; decide))⟩

set_option maxRecDepth 100000 in
set_option maxHeartbeats 4000000 in
theorem k_L_wantOf {l : Launch} (hst : l.stackTraces = false) {κ : Kx} {x o : Nat} {a : AD} {N P : Nat → Nat} {C : MS} {L L0 : List Nat} {f0 f : Nat → va_E} {g : Nat → Int64} (hz : ZC κ x a N P C L0 f0 L f) (hw : WC N P C) (ho : o ∈ L) (hfo : f o = outE κ g) {w : Int32} : PM l κ yL_wantOf wsL_wantOf ({ frames := 8, cells := 1, slots := 6, locals := 124 } : Room) [.ref x, .int w, .ref o] L f (fun v9 L1 f1 => v9 = some (.int (readTG (N 3) w)) ∧ LPo κ x o (N, P, C) L f L1 f1 (fun z => (readTG (N 3) w) = 0 → z = (C 12 (nT w) : Int32).toInt64)) noX 1 6 := by
  refine PM.mkH (cc := cL_wantOf) (maxL := 4) (ret := (some .int)) (tb := [(0, 9, 12, 31)]) (by decide) rfl (Nat.le_of_ble_eq_true rfl) ?_
  intro p e s m args below meth c ls hx hb hml hr hlk hown hts htb hh hl
  have hl : lv_has ls 4 [(0, .ref x), (1, .int w), (2, .ref o)] := hl
  have S : CallFix p m c cL_wantOf 4 s args wsL_wantOf RL := ⟨hx, hb, hml, hown, hts⟩
  have hz := hz.self
  refine lv_aload_n hx hb dL_wantOf_0 rfl (lv_at hl 2 rfl) ?_
  refine lv_iconst (v := 0) hx hb dL_wantOf_1 (by decide) ?_
  refine lv_aload_n hx hb dL_wantOf_2 rfl (lv_at hl 0 rfl) ?_
  refine lv_iload_n hx hb dL_wantOf_3 rfl (lv_at hl 1 rfl) ?_
  refine k_callV (As := [.int w]) (g_wantOf hst hz hw (w := w)) S hh (cwV 1 hts gL_wantOf_X5_wantOf rfl rfl rfl (by decide +kernel) ⟨(Nat.le_of_ble_eq_true rfl), (Nat.le_of_ble_eq_true rfl)⟩) hz.1.1.1 hz.1.1.2 (q := (RX5, TX5, 7)) rfl rfl rfl hl.1 rfl (Nat.le_of_ble_eq_true rfl) dL_wantOf_4 ⟨(Nat.le_of_ble_eq_true rfl), (Nat.le_of_ble_eq_true rfl)⟩ (fun v9 L1 f1 H locs hp hh => ?_) (fun E ce q9 H locs hE hh h1 h2 h3 => ?_)
  · obtain ⟨rfl, hne, hL1, hf1⟩ := hp
    subst hL1; subst hf1
    have hT : readTG (N 3) w = 0 := by unfold readTG; rw [if_neg hne]
    refine lv_i2l hx hb dL_wantOf_7 rfl ?_
    refine h_last hx hb hh (hz.outO ho hfo).1 (hz.outO ho hfo).2 (show vp_in 0 1 by unfold vp_in; decide) dL_wantOf_8 (fun H locs hh => ?_)
    refine lv_goto (tgt := 15) hx hb dL_wantOf_9 (by decide) ?_
    refine lv_iconst (v := 0) hx hb dL_wantOf_15 (by decide) ?_
    exact k_iret hx hb hr hlk hh dL_wantOf_16 (Nat.le_of_ble_eq_true rfl) (Nat.le_of_ble_eq_true rfl) ⟨by rw [hT], LPo.write hz ho hfo rfl (fun _ => rfl)⟩
  · obtain ⟨rfl, hE2⟩ := hE
    have hT : (readTG (N 3) w) = 1 := (by unfold readTG; rw [if_pos hE2])
    refine vx_catch (name := "java/lang/IndexOutOfBoundsException") hown [] (⟨0, 9, 12, 31⟩ : ExceptionTableEntry) [] htb (fun z hz9 => nomatch hz9) rfl (by decide) (hts (.classLink RL 31 "java/lang/IndexOutOfBoundsException") (by decide +kernel)) (va_Nw.use rfl (hh.2.2.2.2.2.2.2.2.2.2 ("java/lang/IndexOutOfBoundsException", "java/lang/IndexOutOfBoundsException") (by decide))) h1 h2 h3 ?_
    refine lv_astore_n (lv' := [(3, .ref q9), (0, .ref x), (1, .int w), (2, .ref o)]) hx hb dL_wantOf_12 rfl hl (by decide) rfl (fun ls hl => ?_)
    refine lv_iconst (v := 1) hx hb dL_wantOf_13 (by decide) ?_
    exact k_iret hx hb hr hlk hh dL_wantOf_14 (Nat.le_of_ble_eq_true rfl) (Nat.le_of_ble_eq_true rfl) ⟨by rw [hT], LPo.same hz ho hfo rfl (fun q => absurd q (by rw [hT]; decide))⟩

set_option maxRecDepth 100000 in
set_option maxHeartbeats 4000000 in
theorem k_L_outside {l : Launch} (hst : l.stackTraces = false) {κ : Kx} {x o : Nat} {a : AD} {N P : Nat → Nat} {C : MS} {L L0 : List Nat} {f0 f : Nat → va_E} {g : Nat → Int64} (hz : ZC κ x a N P C L0 f0 L f) (hw : WC N P C) (ho : o ∈ L) (hfo : f o = outE κ g) {v : Int32} : PM l κ yL_outside wsL_outside ({ frames := 7, cells := 1, slots := 6, locals := 106 } : Room) [.ref x, .int v, .ref o] L f (fun v9 L1 f1 => v9 = some (.int (outTG v)) ∧ LPo κ x o (N, P, C) L f L1 f1 (fun z => (outTG v) = 0 → z = (outGo2 C P v (N 4) 0 0 : Int32).toInt64)) noX 1 6 := by
  refine PM.mkH (cc := cL_outside) (maxL := 4) (ret := (some .int)) (tb := [(0, 9, 12, 13)]) (by decide) rfl (Nat.le_of_ble_eq_true rfl) ?_
  intro p e s m args below meth c ls hx hb hml hr hlk hown hts htb hh hl
  have hl : lv_has ls 4 [(0, .ref x), (1, .int v), (2, .ref o)] := hl
  have S : CallFix p m c cL_outside 4 s args wsL_outside RL := ⟨hx, hb, hml, hown, hts⟩
  have hz := hz.self
  refine lv_aload_n hx hb dL_outside_0 rfl (lv_at hl 2 rfl) ?_
  refine lv_iconst (v := 0) hx hb dL_outside_1 (by decide) ?_
  refine lv_aload_n hx hb dL_outside_2 rfl (lv_at hl 0 rfl) ?_
  refine lv_iload_n hx hb dL_outside_3 rfl (lv_at hl 1 rfl) ?_
  refine k_callV (As := [.int v]) (g_outside hst hz hw (v := v)) S hh (cwV 1 hts gL_outside_X5_outside rfl rfl rfl (by decide +kernel) ⟨(Nat.le_of_ble_eq_true rfl), (Nat.le_of_ble_eq_true rfl)⟩) hz.1.1.1 hz.1.1.2 (q := (RX5, TX5, 7)) rfl rfl rfl hl.1 rfl (Nat.le_of_ble_eq_true rfl) dL_outside_4 ⟨(Nat.le_of_ble_eq_true rfl), (Nat.le_of_ble_eq_true rfl)⟩ (fun v9 L1 f1 H locs hp hh => ?_) (fun E ce q9 H locs hE hh h1 h2 h3 => ?_)
  · obtain ⟨rfl, hnv, hL1, hf1⟩ := hp
    subst hL1; subst hf1
    have hT : outTG v = 0 := by unfold outTG; rw [if_neg hnv]
    refine lv_i2l hx hb dL_outside_7 rfl ?_
    refine h_last hx hb hh (hz.outO ho hfo).1 (hz.outO ho hfo).2 (show vp_in 0 1 by unfold vp_in; decide) dL_outside_8 (fun H locs hh => ?_)
    refine lv_goto (tgt := 15) hx hb dL_outside_9 (by decide) ?_
    refine lv_iconst (v := 0) hx hb dL_outside_15 (by decide) ?_
    exact k_iret hx hb hr hlk hh dL_outside_16 (Nat.le_of_ble_eq_true rfl) (Nat.le_of_ble_eq_true rfl) ⟨by rw [hT], LPo.write hz ho hfo rfl (fun _ => rfl)⟩
  · obtain ⟨rfl, hE2⟩ := hE
    have hT : (outTG v) = 1 := (by unfold outTG; rw [if_pos hE2])
    refine vx_catch (name := "java/lang/IllegalArgumentException") hown [] (⟨0, 9, 12, 13⟩ : ExceptionTableEntry) [] htb (fun z hz9 => nomatch hz9) rfl (by decide) (hts (.classLink RL 13 "java/lang/IllegalArgumentException") (by decide +kernel)) (va_Nw.use rfl (hh.2.2.2.2.2.2.2.2.2.2 ("java/lang/IllegalArgumentException", "java/lang/IllegalArgumentException") (by decide))) h1 h2 h3 ?_
    refine lv_astore_n (lv' := [(3, .ref q9), (0, .ref x), (1, .int v), (2, .ref o)]) hx hb dL_outside_12 rfl hl (by decide) rfl (fun ls hl => ?_)
    refine lv_iconst (v := 1) hx hb dL_outside_13 (by decide) ?_
    exact k_iret hx hb hr hlk hh dL_outside_14 (Nat.le_of_ble_eq_true rfl) (Nat.le_of_ble_eq_true rfl) ⟨by rw [hT], LPo.same hz ho hfo rfl (fun q => absurd q (by rw [hT]; decide))⟩
