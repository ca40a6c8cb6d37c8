/-! an order, a sweep or a shift of a lighter that has no order -/
set_option maxRecDepth 100000 in
set_option maxHeartbeats 4000000 in
theorem k_commands {l : Launch} (hst : l.stackTraces = false) {κ : Kx} {x : Nat} {a : AD} {N P : Nat → Nat} {C : MS} {L L0 : List Nat} {f0 f : Nat → va_E} (hz : ZC κ x a N P C L0 f0 L f) {M : MS} {n0 : Nat} {came wanted : Int} (hq : QS (N, P, C) M n0 came wanted) {gg : Nat} {v5 : Int32} (z0 : 0 < N 0) (z1 : 0 < N 1) (hg : gg < N 2) (z3 : 0 < N 3) : PM l κ yL_commands wsL_commands ({ frames := 9, cells := 20, slots := 120, locals := 148 } : Room) [.ref x, .int (nI (N 1)), .int (nI gg), .int (nI (N 3)), .int (nI (N 0)), .int v5] L f (fun v9 L1 f1 => v9 = some (.int 1) ∧ ∃ (a1 : AD) (C1 M1 : MS), ZC κ x a1 N P C1 L f L1 f1 ∧ QS (N, P, C1) M1 n0 came wanted ∧ C1 1 = C 1) noX 20 120 := by
  refine PM.mk (cc := cL_commands) (maxL := 10) (ret := (some .boolean)) (by decide) rfl (Nat.le_of_ble_eq_true rfl) ?_
  intro p e s m args below meth c ls hx hb hml hr hlk hnm hown hts ht hh hl
  have hl : lv_has ls 10 [(0, .ref x), (1, .int (nI (N 1))), (2, .int (nI gg)), (3, .int (nI (N 3))), (4, .int (nI (N 0))), (5, .int v5)] := hl
  have S : CallFix p m c cL_commands 10 s args wsL_commands RL := ⟨hx, hb, hml, hown, hts⟩
  have hz := hz.self
  obtain ⟨hw, fHu, fLi, fTo, fWa, fWk, fSt, fBu, fS1, fN3, fC0⟩ := hq.f
  obtain ⟨b0, b1, b2, b3, b4⟩ := id hw.1
  refine lv_iload hx hb dL_commands_0 (lv_at hl 5 rfl) ?_
  refine lv_iload_n hx hb dL_commands_2 rfl (lv_at hl 1 rfl) ?_
  obtain ⟨j3, hj3, ej3⟩ := low_ix v5 (n := N 1) z1 (by omega)
  refine k_callS0 (As := [.int v5, .int (nI (N 1))]) (k_low ej3 z1 (by omega)) S hh (va_cwS 2 hts gL_commands_L_low rfl rfl rfl (by decide +kernel) ⟨(Nat.le_of_ble_eq_true rfl), (Nat.le_of_ble_eq_true rfl)⟩) rfl hl.1 rfl (Nat.le_of_ble_eq_true rfl) dL_commands_3 ⟨(by show _ ≤ 20; omega), (by show _ ≤ 120; omega)⟩ (fun v9 L1 f1 H locs hp hh => ?_)
  obtain ⟨rfl, hL1, hf1⟩ := hp
  subst hL1; subst hf1
  refine lv_istore (lv' := [(6, .int (nI j3)), (0, .ref x), (1, .int (nI (N 1))), (2, .int (nI gg)), (3, .int (nI (N 3))), (4, .int (nI (N 0))), (5, .int v5)]) hx hb dL_commands_6 hl (by decide) rfl (fun ls hl => ?_)
  refine lv_aload_n hx hb dL_commands_8 rfl (lv_at hl 1 rfl) ?_
  refine lv_iload_n hx hb dL_commands_9 rfl (lv_at hl 3 rfl) ?_
  refine k_callV0 (As := [.int (nI gg)]) (q_restOf hst hz hw (w := (nI gg)) (k := gg) hg rfl) S hh (cwV 1 hts gL_commands_X5_restOf rfl rfl rfl (by decide +kernel) ⟨(Nat.le_of_ble_eq_true rfl), (Nat.le_of_ble_eq_true rfl)⟩) hz.1.1.1 hz.1.1.2 (q := (RX5, TX5, 7)) rfl rfl rfl hl.1 rfl (Nat.le_of_ble_eq_true rfl) dL_commands_10 ⟨(by show _ ≤ 20; omega), (by show _ ≤ 120; omega)⟩ (fun v9 L1 f1 H locs hp hh => ?_)
  obtain ⟨rfl, hL1, hf1⟩ := hp
  subst hL1; subst hf1
  refine lv_if_ne (tgt := 29) hx hb dL_commands_13 (by decide) (fun c13 => ?_) (fun c13 => ?_)
  · refine lv_iconst (v := 0) hx hb dL_commands_29 (by decide) ?_
    refine lv_istore (lv' := [(7, .int 0), (6, .int (nI j3)), (0, .ref x), (1, .int (nI (N 1))), (2, .int (nI gg)), (3, .int (nI (N 3))), (4, .int (nI (N 0))), (5, .int v5)]) hx hb dL_commands_30 hl (by decide) rfl (fun ls hl => ?_)
    refine lv_iload hx hb dL_commands_32 (lv_at hl 7 rfl) ?_
    refine lv_iconst (v := 3) hx hb dL_commands_34 (by decide) ?_
    refine lv_ishr hx hb dL_commands_35 ?_
    refine lv_bipush (v := 6) hx hb dL_commands_36 (by decide) ?_
    obtain ⟨j38, hj38, ej38⟩ := low_ix (v5 >>> (3 &&& 31)) (n := 6) (by decide) (by omega)
    refine k_callS0 (As := [.int (v5 >>> (3 &&& 31)), .int (nI 6)]) (k_low ej38 (by decide) (by omega)) S hh (va_cwS 2 hts gL_commands_L_low rfl rfl rfl (by decide +kernel) ⟨(Nat.le_of_ble_eq_true rfl), (Nat.le_of_ble_eq_true rfl)⟩) rfl hl.1 rfl (Nat.le_of_ble_eq_true rfl) dL_commands_38 ⟨(by show _ ≤ 20; omega), (by show _ ≤ 120; omega)⟩ (fun v9 L1 f1 H locs hp hh => ?_)
    obtain ⟨rfl, hL1, hf1⟩ := hp
    subst hL1; subst hf1
    refine lv_istore (lv' := [(8, .int (nI j38)), (7, .int 0), (6, .int (nI j3)), (0, .ref x), (1, .int (nI (N 1))), (2, .int (nI gg)), (3, .int (nI (N 3))), (4, .int (nI (N 0))), (5, .int v5)]) hx hb dL_commands_41 hl (by decide) rfl (fun ls hl => ?_)
    refine lv_aload_n hx hb dL_commands_43 rfl (lv_at hl 3 rfl) ?_
    refine lv_iload hx hb dL_commands_44 (lv_at hl 2 rfl) ?_
    refine k_callV0 (As := [.int (nI j3)]) (q_gangOn hst hz hw (w := (nI j3)) (k := j3) hj3 rfl) S hh (cwV 1 hts gL_commands_X5_gangOn rfl rfl rfl (by decide +kernel) ⟨(Nat.le_of_ble_eq_true rfl), (Nat.le_of_ble_eq_true rfl)⟩) hz.1.1.1 hz.1.1.2 (q := (RX5, TX5, 7)) rfl rfl rfl hl.1 rfl (Nat.le_of_ble_eq_true rfl) dL_commands_46 ⟨(by show _ ≤ 20; omega), (by show _ ≤ 120; omega)⟩ (fun v9 L1 f1 H locs hp hh => ?_)
    obtain ⟨rfl, hL1, hf1⟩ := hp
    subst hL1; subst hf1
    refine lv_if_lt (tgt := 54) hx hb dL_commands_49 (by decide) (fun c49 => ?_) (fun c49 => ?_)
    · have h6 : C 6 j3 = -1 := (six_neg hq hj3).mp c49
      refine lv_iload hx hb dL_commands_54 (lv_at hl 0 rfl) ?_
      refine lv_if_ne (tgt := 91) hx hb dL_commands_56 (by decide) (fun c56 => ?_) (fun c56 => ?_)
      · refine lv_iload hx hb dL_commands_91 (lv_at hl 0 rfl) ?_
        refine lv_iconst (v := 1) hx hb dL_commands_93 (by decide) ?_
        refine lv_icmp_ne (tgt := 147) hx hb dL_commands_94 (by decide) (fun c94 => ?_) (fun c94 => ?_)
        · refine lv_iload_n hx hb dL_commands_147 rfl (lv_at hl 6 rfl) ?_
          refine lv_iconst (v := 1) hx hb dL_commands_148 (by decide) ?_
          refine lv_isub hx hb dL_commands_149 ?_
          refine lv_iload hx hb dL_commands_150 (lv_at hl 8 rfl) ?_
          refine lv_bipush (v := 7) hx hb dL_commands_152 (by decide) ?_
          refine lv_ishr hx hb dL_commands_154 ?_
          refine lv_iload_n hx hb dL_commands_155 rfl (lv_at hl 6 rfl) ?_
          refine lv_iconst (v := 3) hx hb dL_commands_156 (by decide) ?_
          refine lv_icmp_ge (tgt := 164) hx hb dL_commands_157 (by decide) (fun c157 => ?_) (fun c157 => ?_)
          · have h3g : 3 ≤ N 3 := by
              rcases Nat.lt_or_ge (N 3) 3 with q | q
              · exact absurd c157 (nI_ge (b := 3) q (by decide))
              · exact q
            refine lv_iconst (v := 3) hx hb dL_commands_164 (by decide) ?_
            obtain ⟨j165, hj165, ej165⟩ := low_ix (v5 >>> (7 &&& 31)) (n := 3) (by decide) (by omega)
            refine k_callS0 (As := [.int (v5 >>> (7 &&& 31)), .int (nI 3)]) (k_low ej165 (by decide) (by omega)) S hh (va_cwS 2 hts gL_commands_L_low rfl rfl rfl (by decide +kernel) ⟨(Nat.le_of_ble_eq_true rfl), (Nat.le_of_ble_eq_true rfl)⟩) rfl hl.1 rfl (Nat.le_of_ble_eq_true rfl) dL_commands_165 ⟨(by show _ ≤ 20; omega), (by show _ ≤ 120; omega)⟩ (fun v9 L1 f1 H locs hp hh => ?_)
            obtain ⟨rfl, hL1, hf1⟩ := hp
            subst hL1; subst hf1
            refine lv_isub hx hb dL_commands_168 ?_
            refine lv_topi (fun x169 e169 => ?_)
            refine lv_istore (lv' := [(9, .int x169), (8, .int (nI j38)), (7, .int 0), (6, .int (nI j3)), (0, .ref x), (1, .int (nI (N 1))), (2, .int (nI gg)), (3, .int (nI (N 3))), (4, .int (nI (N 0))), (5, .int v5)]) hx hb dL_commands_169 hl (by decide) rfl (fun ls hl => ?_)
            obtain ⟨k9, hk9, rfl⟩ : ∃ k, k < N 3 ∧ x169 = nI k := ⟨N 3 - 1 - j165, by omega, by rw [e169, show (1 : Int32) = nI 1 from rfl, pk_sub (by omega), pk_sub (by omega)]⟩
            refine lv_iload hx hb dL_commands_171 (lv_at hl 2 rfl) ?_
            refine lv_if_eq (tgt := 220) hx hb dL_commands_173 (by decide) (fun _ => ?_) (fun c => absurd (show ¬ (0 : Int32) = (0 : Int32) from c) (by decide))
            refine lv_iconst (v := 1) hx hb dL_commands_220 (by decide) ?_
            exact k_zret hx hb hr hlk (rfl) hh dL_commands_221 (by omega) (by omega) ⟨rfl, _, _, _, hz, hq, rfl⟩
          · refine lv_iload_n hx hb dL_commands_160 rfl (lv_at hl 6 rfl) ?_
            refine lv_goto (tgt := 165) hx hb dL_commands_161 (by decide) ?_
            obtain ⟨j165, hj165, ej165⟩ := low_ix (v5 >>> (7 &&& 31)) (n := N 3) z3 (by omega)
            refine k_callS0 (As := [.int (v5 >>> (7 &&& 31)), .int (nI (N 3))]) (k_low ej165 z3 (by omega)) S hh (va_cwS 2 hts gL_commands_L_low rfl rfl rfl (by decide +kernel) ⟨(Nat.le_of_ble_eq_true rfl), (Nat.le_of_ble_eq_true rfl)⟩) rfl hl.1 rfl (Nat.le_of_ble_eq_true rfl) dL_commands_165 ⟨(by show _ ≤ 20; omega), (by show _ ≤ 120; omega)⟩ (fun v9 L1 f1 H locs hp hh => ?_)
            obtain ⟨rfl, hL1, hf1⟩ := hp
            subst hL1; subst hf1
            refine lv_isub hx hb dL_commands_168 ?_
            refine lv_topi (fun x169 e169 => ?_)
            refine lv_istore (lv' := [(9, .int x169), (8, .int (nI j38)), (7, .int 0), (6, .int (nI j3)), (0, .ref x), (1, .int (nI (N 1))), (2, .int (nI gg)), (3, .int (nI (N 3))), (4, .int (nI (N 0))), (5, .int v5)]) hx hb dL_commands_169 hl (by decide) rfl (fun ls hl => ?_)
            obtain ⟨k9, hk9, rfl⟩ : ∃ k, k < N 3 ∧ x169 = nI k := ⟨N 3 - 1 - j165, by omega, by rw [e169, show (1 : Int32) = nI 1 from rfl, pk_sub (by omega), pk_sub (by omega)]⟩
            refine lv_iload hx hb dL_commands_171 (lv_at hl 2 rfl) ?_
            refine lv_if_eq (tgt := 220) hx hb dL_commands_173 (by decide) (fun _ => ?_) (fun c => absurd (show ¬ (0 : Int32) = (0 : Int32) from c) (by decide))
            refine lv_iconst (v := 1) hx hb dL_commands_220 (by decide) ?_
            exact k_zret hx hb hr hlk (rfl) hh dL_commands_221 (by omega) (by omega) ⟨rfl, _, _, _, hz, hq, rfl⟩
        · refine lv_iload hx hb dL_commands_97 (lv_at hl 1 rfl) ?_
          refine lv_if_eq (tgt := 147) hx hb dL_commands_99 (by decide) (fun _ => ?_) (fun c => absurd (show ¬ (0 : Int32) = (0 : Int32) from c) (by decide))
          refine lv_iload_n hx hb dL_commands_147 rfl (lv_at hl 6 rfl) ?_
          refine lv_iconst (v := 1) hx hb dL_commands_148 (by decide) ?_
          refine lv_isub hx hb dL_commands_149 ?_
          refine lv_iload hx hb dL_commands_150 (lv_at hl 8 rfl) ?_
          refine lv_bipush (v := 7) hx hb dL_commands_152 (by decide) ?_
          refine lv_ishr hx hb dL_commands_154 ?_
          refine lv_iload_n hx hb dL_commands_155 rfl (lv_at hl 6 rfl) ?_
          refine lv_iconst (v := 3) hx hb dL_commands_156 (by decide) ?_
          refine lv_icmp_ge (tgt := 164) hx hb dL_commands_157 (by decide) (fun c157 => ?_) (fun c157 => ?_)
          · have h3g : 3 ≤ N 3 := by
              rcases Nat.lt_or_ge (N 3) 3 with q | q
              · exact absurd c157 (nI_ge (b := 3) q (by decide))
              · exact q
            refine lv_iconst (v := 3) hx hb dL_commands_164 (by decide) ?_
            obtain ⟨j165, hj165, ej165⟩ := low_ix (v5 >>> (7 &&& 31)) (n := 3) (by decide) (by omega)
            refine k_callS0 (As := [.int (v5 >>> (7 &&& 31)), .int (nI 3)]) (k_low ej165 (by decide) (by omega)) S hh (va_cwS 2 hts gL_commands_L_low rfl rfl rfl (by decide +kernel) ⟨(Nat.le_of_ble_eq_true rfl), (Nat.le_of_ble_eq_true rfl)⟩) rfl hl.1 rfl (Nat.le_of_ble_eq_true rfl) dL_commands_165 ⟨(by show _ ≤ 20; omega), (by show _ ≤ 120; omega)⟩ (fun v9 L1 f1 H locs hp hh => ?_)
            obtain ⟨rfl, hL1, hf1⟩ := hp
            subst hL1; subst hf1
            refine lv_isub hx hb dL_commands_168 ?_
            refine lv_topi (fun x169 e169 => ?_)
            refine lv_istore (lv' := [(9, .int x169), (8, .int (nI j38)), (7, .int 0), (6, .int (nI j3)), (0, .ref x), (1, .int (nI (N 1))), (2, .int (nI gg)), (3, .int (nI (N 3))), (4, .int (nI (N 0))), (5, .int v5)]) hx hb dL_commands_169 hl (by decide) rfl (fun ls hl => ?_)
            obtain ⟨k9, hk9, rfl⟩ : ∃ k, k < N 3 ∧ x169 = nI k := ⟨N 3 - 1 - j165, by omega, by rw [e169, show (1 : Int32) = nI 1 from rfl, pk_sub (by omega), pk_sub (by omega)]⟩
            refine lv_iload hx hb dL_commands_171 (lv_at hl 2 rfl) ?_
            refine lv_if_eq (tgt := 220) hx hb dL_commands_173 (by decide) (fun _ => ?_) (fun c => absurd (show ¬ (0 : Int32) = (0 : Int32) from c) (by decide))
            refine lv_iconst (v := 1) hx hb dL_commands_220 (by decide) ?_
            exact k_zret hx hb hr hlk (rfl) hh dL_commands_221 (by omega) (by omega) ⟨rfl, _, _, _, hz, hq, rfl⟩
          · refine lv_iload_n hx hb dL_commands_160 rfl (lv_at hl 6 rfl) ?_
            refine lv_goto (tgt := 165) hx hb dL_commands_161 (by decide) ?_
            obtain ⟨j165, hj165, ej165⟩ := low_ix (v5 >>> (7 &&& 31)) (n := N 3) z3 (by omega)
            refine k_callS0 (As := [.int (v5 >>> (7 &&& 31)), .int (nI (N 3))]) (k_low ej165 z3 (by omega)) S hh (va_cwS 2 hts gL_commands_L_low rfl rfl rfl (by decide +kernel) ⟨(Nat.le_of_ble_eq_true rfl), (Nat.le_of_ble_eq_true rfl)⟩) rfl hl.1 rfl (Nat.le_of_ble_eq_true rfl) dL_commands_165 ⟨(by show _ ≤ 20; omega), (by show _ ≤ 120; omega)⟩ (fun v9 L1 f1 H locs hp hh => ?_)
            obtain ⟨rfl, hL1, hf1⟩ := hp
            subst hL1; subst hf1
            refine lv_isub hx hb dL_commands_168 ?_
            refine lv_topi (fun x169 e169 => ?_)
            refine lv_istore (lv' := [(9, .int x169), (8, .int (nI j38)), (7, .int 0), (6, .int (nI j3)), (0, .ref x), (1, .int (nI (N 1))), (2, .int (nI gg)), (3, .int (nI (N 3))), (4, .int (nI (N 0))), (5, .int v5)]) hx hb dL_commands_169 hl (by decide) rfl (fun ls hl => ?_)
            obtain ⟨k9, hk9, rfl⟩ : ∃ k, k < N 3 ∧ x169 = nI k := ⟨N 3 - 1 - j165, by omega, by rw [e169, show (1 : Int32) = nI 1 from rfl, pk_sub (by omega), pk_sub (by omega)]⟩
            refine lv_iload hx hb dL_commands_171 (lv_at hl 2 rfl) ?_
            refine lv_if_eq (tgt := 220) hx hb dL_commands_173 (by decide) (fun _ => ?_) (fun c => absurd (show ¬ (0 : Int32) = (0 : Int32) from c) (by decide))
            refine lv_iconst (v := 1) hx hb dL_commands_220 (by decide) ?_
            exact k_zret hx hb hr hlk (rfl) hh dL_commands_221 (by omega) (by omega) ⟨rfl, _, _, _, hz, hq, rfl⟩
      · refine lv_aload_n hx hb dL_commands_59 rfl (lv_at hl 3 rfl) ?_
        refine lv_iload hx hb dL_commands_60 (lv_at hl 2 rfl) ?_
        refine lv_iload hx hb dL_commands_62 (lv_at hl 8 rfl) ?_
        refine lv_bipush (v := 7) hx hb dL_commands_64 (by decide) ?_
        refine lv_ishr hx hb dL_commands_66 ?_
        refine lv_iload hx hb dL_commands_67 (lv_at hl 7 rfl) ?_
        obtain ⟨j69, hj69, ej69⟩ := low_ix (v5 >>> (7 &&& 31)) (n := N 0) z0 (by omega)
        refine k_callS0 (As := [.int (v5 >>> (7 &&& 31)), .int (nI (N 0))]) (k_low ej69 z0 (by omega)) S hh (va_cwS 2 hts gL_commands_L_low rfl rfl rfl (by decide +kernel) ⟨(Nat.le_of_ble_eq_true rfl), (Nat.le_of_ble_eq_true rfl)⟩) rfl hl.1 rfl (Nat.le_of_ble_eq_true rfl) dL_commands_69 ⟨(by show _ ≤ 20; omega), (by show _ ≤ 120; omega)⟩ (fun v9 L1 f1 H locs hp hh => ?_)
        obtain ⟨rfl, hL1, hf1⟩ := hp
        subst hL1; subst hf1
        obtain ⟨hT2, hq2⟩ := a_shift hq (b := j3) (k := j69) hj3 hj69 h6
        have hw2 := hq2.f.1
        refine k_callV0 (As := [.int (nI j3), .int (nI j69)]) (q_shift hst hz hw hT2) S hh (cwV 2 hts gL_commands_X5_shift rfl rfl rfl (by decide +kernel) ⟨(Nat.le_of_ble_eq_true rfl), (Nat.le_of_ble_eq_true rfl)⟩) hz.1.1.1 hz.1.1.2 (q := (RX5, TX5, 7)) rfl rfl rfl hl.1 rfl (Nat.le_of_ble_eq_true rfl) dL_commands_72 ⟨(by show _ ≤ 20; omega), (by show _ ≤ 120; omega)⟩ (fun v9 L2 f2 H locs hp hh => ?_)
        obtain ⟨rfl, hL2, hz2⟩ := hp
        subst hL2
        refine lv_aload_n hx hb dL_commands_75 rfl (lv_at hl 3 rfl) ?_
        refine lv_iload hx hb dL_commands_76 (lv_at hl 2 rfl) ?_
        refine k_callV0 (As := [.int (nI j3)]) (q_gangOn hst hz2 hw2 (w := (nI j3)) (k := j3) hj3 rfl) S hh (cwV 1 hts gL_commands_X5_gangOn rfl rfl rfl (by decide +kernel) ⟨(Nat.le_of_ble_eq_true rfl), (Nat.le_of_ble_eq_true rfl)⟩) hz2.1.1.1 hz2.1.1.2 (q := (RX5, TX5, 7)) rfl rfl rfl hl.1 rfl (Nat.le_of_ble_eq_true rfl) dL_commands_78 ⟨(by show _ ≤ 20; omega), (by show _ ≤ 120; omega)⟩ (fun v9 L1 f1 H locs hp hh => ?_)
        obtain ⟨rfl, hL1, hf1⟩ := hp
        subst hL1; subst hf1
        refine lv_iconst (v := (-1)) hx hb dL_commands_81 (by decide) ?_
        refine lv_icmp_ne (tgt := 89) hx hb dL_commands_82 (by decide) (fun c82 => ?_) (fun c82 => ?_)
        · exact absurd h6 c82
        · refine lv_iconst (v := 1) hx hb dL_commands_85 (by decide) ?_
          refine lv_goto (tgt := 90) hx hb dL_commands_86 (by decide) ?_
          exact k_zret hx hb hr hlk (rfl) hh dL_commands_90 (by omega) (by omega) ⟨rfl, _, _, _, hz2, hq2, rfl⟩
    · refine lv_iconst (v := 1) hx hb dL_commands_52 (by decide) ?_
      exact k_zret hx hb hr hlk (rfl) hh dL_commands_53 (by omega) (by omega) ⟨rfl, _, _, _, hz, hq, rfl⟩
  · refine lv_aload_n hx hb dL_commands_16 rfl (lv_at hl 1 rfl) ?_
    refine lv_iload_n hx hb dL_commands_17 rfl (lv_at hl 2 rfl) ?_
    refine lv_iload_n hx hb dL_commands_18 rfl (lv_at hl 3 rfl) ?_
    refine k_callS0 (As := [.ref x, .int (nI (N 1)), .int (nI gg)]) (k_isOrdered hst hz hq (w := nI gg)) S hh (va_cwS 3 hts gL_commands_L_isOrdered rfl rfl rfl (by decide +kernel) ⟨(Nat.le_of_ble_eq_true rfl), (Nat.le_of_ble_eq_true rfl)⟩) rfl hl.1 rfl (Nat.le_of_ble_eq_true rfl) dL_commands_19 ⟨(by show _ ≤ 20; omega), (by show _ ≤ 120; omega)⟩ (fun v9 L1 f1 H locs hp hh => ?_)
    obtain ⟨r19, rfl, hr19, hL1, hf1⟩ := hp
    subst hL1; subst hf1
    refine lv_if_ne (tgt := 29) hx hb dL_commands_22 (by decide) (fun c22 => ?_) (fun c22 => ?_)
    · refine lv_iconst (v := 0) hx hb dL_commands_29 (by decide) ?_
      refine lv_istore (lv' := [(7, .int 0), (6, .int (nI j3)), (0, .ref x), (1, .int (nI (N 1))), (2, .int (nI gg)), (3, .int (nI (N 3))), (4, .int (nI (N 0))), (5, .int v5)]) hx hb dL_commands_30 hl (by decide) rfl (fun ls hl => ?_)
      refine lv_iload hx hb dL_commands_32 (lv_at hl 7 rfl) ?_
      refine lv_iconst (v := 3) hx hb dL_commands_34 (by decide) ?_
      refine lv_ishr hx hb dL_commands_35 ?_
      refine lv_bipush (v := 6) hx hb dL_commands_36 (by decide) ?_
      obtain ⟨j38, hj38, ej38⟩ := low_ix (v5 >>> (3 &&& 31)) (n := 6) (by decide) (by omega)
      refine k_callS0 (As := [.int (v5 >>> (3 &&& 31)), .int (nI 6)]) (k_low ej38 (by decide) (by omega)) S hh (va_cwS 2 hts gL_commands_L_low rfl rfl rfl (by decide +kernel) ⟨(Nat.le_of_ble_eq_true rfl), (Nat.le_of_ble_eq_true rfl)⟩) rfl hl.1 rfl (Nat.le_of_ble_eq_true rfl) dL_commands_38 ⟨(by show _ ≤ 20; omega), (by show _ ≤ 120; omega)⟩ (fun v9 L1 f1 H locs hp hh => ?_)
      obtain ⟨rfl, hL1, hf1⟩ := hp
      subst hL1; subst hf1
      refine lv_istore (lv' := [(8, .int (nI j38)), (7, .int 0), (6, .int (nI j3)), (0, .ref x), (1, .int (nI (N 1))), (2, .int (nI gg)), (3, .int (nI (N 3))), (4, .int (nI (N 0))), (5, .int v5)]) hx hb dL_commands_41 hl (by decide) rfl (fun ls hl => ?_)
      refine lv_aload_n hx hb dL_commands_43 rfl (lv_at hl 3 rfl) ?_
      refine lv_iload hx hb dL_commands_44 (lv_at hl 2 rfl) ?_
      refine k_callV0 (As := [.int (nI j3)]) (q_gangOn hst hz hw (w := (nI j3)) (k := j3) hj3 rfl) S hh (cwV 1 hts gL_commands_X5_gangOn rfl rfl rfl (by decide +kernel) ⟨(Nat.le_of_ble_eq_true rfl), (Nat.le_of_ble_eq_true rfl)⟩) hz.1.1.1 hz.1.1.2 (q := (RX5, TX5, 7)) rfl rfl rfl hl.1 rfl (Nat.le_of_ble_eq_true rfl) dL_commands_46 ⟨(by show _ ≤ 20; omega), (by show _ ≤ 120; omega)⟩ (fun v9 L1 f1 H locs hp hh => ?_)
      obtain ⟨rfl, hL1, hf1⟩ := hp
      subst hL1; subst hf1
      refine lv_if_lt (tgt := 54) hx hb dL_commands_49 (by decide) (fun c49 => ?_) (fun c49 => ?_)
      · have h6 : C 6 j3 = -1 := (six_neg hq hj3).mp c49
        refine lv_iload hx hb dL_commands_54 (lv_at hl 0 rfl) ?_
        refine lv_if_ne (tgt := 91) hx hb dL_commands_56 (by decide) (fun c56 => ?_) (fun c56 => ?_)
        · refine lv_iload hx hb dL_commands_91 (lv_at hl 0 rfl) ?_
          refine lv_iconst (v := 1) hx hb dL_commands_93 (by decide) ?_
          refine lv_icmp_ne (tgt := 147) hx hb dL_commands_94 (by decide) (fun c94 => ?_) (fun c94 => ?_)
          · refine lv_iload_n hx hb dL_commands_147 rfl (lv_at hl 6 rfl) ?_
            refine lv_iconst (v := 1) hx hb dL_commands_148 (by decide) ?_
            refine lv_isub hx hb dL_commands_149 ?_
            refine lv_iload hx hb dL_commands_150 (lv_at hl 8 rfl) ?_
            refine lv_bipush (v := 7) hx hb dL_commands_152 (by decide) ?_
            refine lv_ishr hx hb dL_commands_154 ?_
            refine lv_iload_n hx hb dL_commands_155 rfl (lv_at hl 6 rfl) ?_
            refine lv_iconst (v := 3) hx hb dL_commands_156 (by decide) ?_
            refine lv_icmp_ge (tgt := 164) hx hb dL_commands_157 (by decide) (fun c157 => ?_) (fun c157 => ?_)
            · have h3g : 3 ≤ N 3 := by
                rcases Nat.lt_or_ge (N 3) 3 with q | q
                · exact absurd c157 (nI_ge (b := 3) q (by decide))
                · exact q
              refine lv_iconst (v := 3) hx hb dL_commands_164 (by decide) ?_
              obtain ⟨j165, hj165, ej165⟩ := low_ix (v5 >>> (7 &&& 31)) (n := 3) (by decide) (by omega)
              refine k_callS0 (As := [.int (v5 >>> (7 &&& 31)), .int (nI 3)]) (k_low ej165 (by decide) (by omega)) S hh (va_cwS 2 hts gL_commands_L_low rfl rfl rfl (by decide +kernel) ⟨(Nat.le_of_ble_eq_true rfl), (Nat.le_of_ble_eq_true rfl)⟩) rfl hl.1 rfl (Nat.le_of_ble_eq_true rfl) dL_commands_165 ⟨(by show _ ≤ 20; omega), (by show _ ≤ 120; omega)⟩ (fun v9 L1 f1 H locs hp hh => ?_)
              obtain ⟨rfl, hL1, hf1⟩ := hp
              subst hL1; subst hf1
              refine lv_isub hx hb dL_commands_168 ?_
              refine lv_topi (fun x169 e169 => ?_)
              refine lv_istore (lv' := [(9, .int x169), (8, .int (nI j38)), (7, .int 0), (6, .int (nI j3)), (0, .ref x), (1, .int (nI (N 1))), (2, .int (nI gg)), (3, .int (nI (N 3))), (4, .int (nI (N 0))), (5, .int v5)]) hx hb dL_commands_169 hl (by decide) rfl (fun ls hl => ?_)
              obtain ⟨k9, hk9, rfl⟩ : ∃ k, k < N 3 ∧ x169 = nI k := ⟨N 3 - 1 - j165, by omega, by rw [e169, show (1 : Int32) = nI 1 from rfl, pk_sub (by omega), pk_sub (by omega)]⟩
              refine lv_iload hx hb dL_commands_171 (lv_at hl 2 rfl) ?_
              refine lv_if_eq (tgt := 220) hx hb dL_commands_173 (by decide) (fun _ => ?_) (fun c => absurd (show ¬ (0 : Int32) = (0 : Int32) from c) (by decide))
              refine lv_iconst (v := 1) hx hb dL_commands_220 (by decide) ?_
              exact k_zret hx hb hr hlk (rfl) hh dL_commands_221 (by omega) (by omega) ⟨rfl, _, _, _, hz, hq, rfl⟩
            · refine lv_iload_n hx hb dL_commands_160 rfl (lv_at hl 6 rfl) ?_
              refine lv_goto (tgt := 165) hx hb dL_commands_161 (by decide) ?_
              obtain ⟨j165, hj165, ej165⟩ := low_ix (v5 >>> (7 &&& 31)) (n := N 3) z3 (by omega)
              refine k_callS0 (As := [.int (v5 >>> (7 &&& 31)), .int (nI (N 3))]) (k_low ej165 z3 (by omega)) S hh (va_cwS 2 hts gL_commands_L_low rfl rfl rfl (by decide +kernel) ⟨(Nat.le_of_ble_eq_true rfl), (Nat.le_of_ble_eq_true rfl)⟩) rfl hl.1 rfl (Nat.le_of_ble_eq_true rfl) dL_commands_165 ⟨(by show _ ≤ 20; omega), (by show _ ≤ 120; omega)⟩ (fun v9 L1 f1 H locs hp hh => ?_)
              obtain ⟨rfl, hL1, hf1⟩ := hp
              subst hL1; subst hf1
              refine lv_isub hx hb dL_commands_168 ?_
              refine lv_topi (fun x169 e169 => ?_)
              refine lv_istore (lv' := [(9, .int x169), (8, .int (nI j38)), (7, .int 0), (6, .int (nI j3)), (0, .ref x), (1, .int (nI (N 1))), (2, .int (nI gg)), (3, .int (nI (N 3))), (4, .int (nI (N 0))), (5, .int v5)]) hx hb dL_commands_169 hl (by decide) rfl (fun ls hl => ?_)
              obtain ⟨k9, hk9, rfl⟩ : ∃ k, k < N 3 ∧ x169 = nI k := ⟨N 3 - 1 - j165, by omega, by rw [e169, show (1 : Int32) = nI 1 from rfl, pk_sub (by omega), pk_sub (by omega)]⟩
              refine lv_iload hx hb dL_commands_171 (lv_at hl 2 rfl) ?_
              refine lv_if_eq (tgt := 220) hx hb dL_commands_173 (by decide) (fun _ => ?_) (fun c => absurd (show ¬ (0 : Int32) = (0 : Int32) from c) (by decide))
              refine lv_iconst (v := 1) hx hb dL_commands_220 (by decide) ?_
              exact k_zret hx hb hr hlk (rfl) hh dL_commands_221 (by omega) (by omega) ⟨rfl, _, _, _, hz, hq, rfl⟩
          · refine lv_iload hx hb dL_commands_97 (lv_at hl 1 rfl) ?_
            refine lv_if_eq (tgt := 147) hx hb dL_commands_99 (by decide) (fun _ => ?_) (fun c => absurd (show ¬ (0 : Int32) = (0 : Int32) from c) (by decide))
            refine lv_iload_n hx hb dL_commands_147 rfl (lv_at hl 6 rfl) ?_
            refine lv_iconst (v := 1) hx hb dL_commands_148 (by decide) ?_
            refine lv_isub hx hb dL_commands_149 ?_
            refine lv_iload hx hb dL_commands_150 (lv_at hl 8 rfl) ?_
            refine lv_bipush (v := 7) hx hb dL_commands_152 (by decide) ?_
            refine lv_ishr hx hb dL_commands_154 ?_
            refine lv_iload_n hx hb dL_commands_155 rfl (lv_at hl 6 rfl) ?_
            refine lv_iconst (v := 3) hx hb dL_commands_156 (by decide) ?_
            refine lv_icmp_ge (tgt := 164) hx hb dL_commands_157 (by decide) (fun c157 => ?_) (fun c157 => ?_)
            · have h3g : 3 ≤ N 3 := by
                rcases Nat.lt_or_ge (N 3) 3 with q | q
                · exact absurd c157 (nI_ge (b := 3) q (by decide))
                · exact q
              refine lv_iconst (v := 3) hx hb dL_commands_164 (by decide) ?_
              obtain ⟨j165, hj165, ej165⟩ := low_ix (v5 >>> (7 &&& 31)) (n := 3) (by decide) (by omega)
              refine k_callS0 (As := [.int (v5 >>> (7 &&& 31)), .int (nI 3)]) (k_low ej165 (by decide) (by omega)) S hh (va_cwS 2 hts gL_commands_L_low rfl rfl rfl (by decide +kernel) ⟨(Nat.le_of_ble_eq_true rfl), (Nat.le_of_ble_eq_true rfl)⟩) rfl hl.1 rfl (Nat.le_of_ble_eq_true rfl) dL_commands_165 ⟨(by show _ ≤ 20; omega), (by show _ ≤ 120; omega)⟩ (fun v9 L1 f1 H locs hp hh => ?_)
              obtain ⟨rfl, hL1, hf1⟩ := hp
              subst hL1; subst hf1
              refine lv_isub hx hb dL_commands_168 ?_
              refine lv_topi (fun x169 e169 => ?_)
              refine lv_istore (lv' := [(9, .int x169), (8, .int (nI j38)), (7, .int 0), (6, .int (nI j3)), (0, .ref x), (1, .int (nI (N 1))), (2, .int (nI gg)), (3, .int (nI (N 3))), (4, .int (nI (N 0))), (5, .int v5)]) hx hb dL_commands_169 hl (by decide) rfl (fun ls hl => ?_)
              obtain ⟨k9, hk9, rfl⟩ : ∃ k, k < N 3 ∧ x169 = nI k := ⟨N 3 - 1 - j165, by omega, by rw [e169, show (1 : Int32) = nI 1 from rfl, pk_sub (by omega), pk_sub (by omega)]⟩
              refine lv_iload hx hb dL_commands_171 (lv_at hl 2 rfl) ?_
              refine lv_if_eq (tgt := 220) hx hb dL_commands_173 (by decide) (fun _ => ?_) (fun c => absurd (show ¬ (0 : Int32) = (0 : Int32) from c) (by decide))
              refine lv_iconst (v := 1) hx hb dL_commands_220 (by decide) ?_
              exact k_zret hx hb hr hlk (rfl) hh dL_commands_221 (by omega) (by omega) ⟨rfl, _, _, _, hz, hq, rfl⟩
            · refine lv_iload_n hx hb dL_commands_160 rfl (lv_at hl 6 rfl) ?_
              refine lv_goto (tgt := 165) hx hb dL_commands_161 (by decide) ?_
              obtain ⟨j165, hj165, ej165⟩ := low_ix (v5 >>> (7 &&& 31)) (n := N 3) z3 (by omega)
              refine k_callS0 (As := [.int (v5 >>> (7 &&& 31)), .int (nI (N 3))]) (k_low ej165 z3 (by omega)) S hh (va_cwS 2 hts gL_commands_L_low rfl rfl rfl (by decide +kernel) ⟨(Nat.le_of_ble_eq_true rfl), (Nat.le_of_ble_eq_true rfl)⟩) rfl hl.1 rfl (Nat.le_of_ble_eq_true rfl) dL_commands_165 ⟨(by show _ ≤ 20; omega), (by show _ ≤ 120; omega)⟩ (fun v9 L1 f1 H locs hp hh => ?_)
              obtain ⟨rfl, hL1, hf1⟩ := hp
              subst hL1; subst hf1
              refine lv_isub hx hb dL_commands_168 ?_
              refine lv_topi (fun x169 e169 => ?_)
              refine lv_istore (lv' := [(9, .int x169), (8, .int (nI j38)), (7, .int 0), (6, .int (nI j3)), (0, .ref x), (1, .int (nI (N 1))), (2, .int (nI gg)), (3, .int (nI (N 3))), (4, .int (nI (N 0))), (5, .int v5)]) hx hb dL_commands_169 hl (by decide) rfl (fun ls hl => ?_)
              obtain ⟨k9, hk9, rfl⟩ : ∃ k, k < N 3 ∧ x169 = nI k := ⟨N 3 - 1 - j165, by omega, by rw [e169, show (1 : Int32) = nI 1 from rfl, pk_sub (by omega), pk_sub (by omega)]⟩
              refine lv_iload hx hb dL_commands_171 (lv_at hl 2 rfl) ?_
              refine lv_if_eq (tgt := 220) hx hb dL_commands_173 (by decide) (fun _ => ?_) (fun c => absurd (show ¬ (0 : Int32) = (0 : Int32) from c) (by decide))
              refine lv_iconst (v := 1) hx hb dL_commands_220 (by decide) ?_
              exact k_zret hx hb hr hlk (rfl) hh dL_commands_221 (by omega) (by omega) ⟨rfl, _, _, _, hz, hq, rfl⟩
        · refine lv_aload_n hx hb dL_commands_59 rfl (lv_at hl 3 rfl) ?_
          refine lv_iload hx hb dL_commands_60 (lv_at hl 2 rfl) ?_
          refine lv_iload hx hb dL_commands_62 (lv_at hl 8 rfl) ?_
          refine lv_bipush (v := 7) hx hb dL_commands_64 (by decide) ?_
          refine lv_ishr hx hb dL_commands_66 ?_
          refine lv_iload hx hb dL_commands_67 (lv_at hl 7 rfl) ?_
          obtain ⟨j69, hj69, ej69⟩ := low_ix (v5 >>> (7 &&& 31)) (n := N 0) z0 (by omega)
          refine k_callS0 (As := [.int (v5 >>> (7 &&& 31)), .int (nI (N 0))]) (k_low ej69 z0 (by omega)) S hh (va_cwS 2 hts gL_commands_L_low rfl rfl rfl (by decide +kernel) ⟨(Nat.le_of_ble_eq_true rfl), (Nat.le_of_ble_eq_true rfl)⟩) rfl hl.1 rfl (Nat.le_of_ble_eq_true rfl) dL_commands_69 ⟨(by show _ ≤ 20; omega), (by show _ ≤ 120; omega)⟩ (fun v9 L1 f1 H locs hp hh => ?_)
          obtain ⟨rfl, hL1, hf1⟩ := hp
          subst hL1; subst hf1
          obtain ⟨hT2, hq2⟩ := a_shift hq (b := j3) (k := j69) hj3 hj69 h6
          have hw2 := hq2.f.1
          refine k_callV0 (As := [.int (nI j3), .int (nI j69)]) (q_shift hst hz hw hT2) S hh (cwV 2 hts gL_commands_X5_shift rfl rfl rfl (by decide +kernel) ⟨(Nat.le_of_ble_eq_true rfl), (Nat.le_of_ble_eq_true rfl)⟩) hz.1.1.1 hz.1.1.2 (q := (RX5, TX5, 7)) rfl rfl rfl hl.1 rfl (Nat.le_of_ble_eq_true rfl) dL_commands_72 ⟨(by show _ ≤ 20; omega), (by show _ ≤ 120; omega)⟩ (fun v9 L2 f2 H locs hp hh => ?_)
          obtain ⟨rfl, hL2, hz2⟩ := hp
          subst hL2
          refine lv_aload_n hx hb dL_commands_75 rfl (lv_at hl 3 rfl) ?_
          refine lv_iload hx hb dL_commands_76 (lv_at hl 2 rfl) ?_
          refine k_callV0 (As := [.int (nI j3)]) (q_gangOn hst hz2 hw2 (w := (nI j3)) (k := j3) hj3 rfl) S hh (cwV 1 hts gL_commands_X5_gangOn rfl rfl rfl (by decide +kernel) ⟨(Nat.le_of_ble_eq_true rfl), (Nat.le_of_ble_eq_true rfl)⟩) hz2.1.1.1 hz2.1.1.2 (q := (RX5, TX5, 7)) rfl rfl rfl hl.1 rfl (Nat.le_of_ble_eq_true rfl) dL_commands_78 ⟨(by show _ ≤ 20; omega), (by show _ ≤ 120; omega)⟩ (fun v9 L1 f1 H locs hp hh => ?_)
          obtain ⟨rfl, hL1, hf1⟩ := hp
          subst hL1; subst hf1
          refine lv_iconst (v := (-1)) hx hb dL_commands_81 (by decide) ?_
          refine lv_icmp_ne (tgt := 89) hx hb dL_commands_82 (by decide) (fun c82 => ?_) (fun c82 => ?_)
          · exact absurd h6 c82
          · refine lv_iconst (v := 1) hx hb dL_commands_85 (by decide) ?_
            refine lv_goto (tgt := 90) hx hb dL_commands_86 (by decide) ?_
            exact k_zret hx hb hr hlk (rfl) hh dL_commands_90 (by omega) (by omega) ⟨rfl, _, _, _, hz2, hq2, rfl⟩
      · refine lv_iconst (v := 1) hx hb dL_commands_52 (by decide) ?_
        exact k_zret hx hb hr hlk (rfl) hh dL_commands_53 (by omega) (by omega) ⟨rfl, _, _, _, hz, hq, rfl⟩
    · have hno : ∀ j, j < N 1 → ¬ C 6 j = nI gg := by
        rcases hr19 with q | ⟨-, q⟩
        · rw [q] at c22; exact absurd c22 (by decide)
        · exact q
      refine lv_iconst (v := 1) hx hb dL_commands_25 (by decide) ?_
      refine lv_goto (tgt := 30) hx hb dL_commands_26 (by decide) ?_
      refine lv_istore (lv' := [(7, .int 1), (6, .int (nI j3)), (0, .ref x), (1, .int (nI (N 1))), (2, .int (nI gg)), (3, .int (nI (N 3))), (4, .int (nI (N 0))), (5, .int v5)]) hx hb dL_commands_30 hl (by decide) rfl (fun ls hl => ?_)
      refine lv_iload hx hb dL_commands_32 (lv_at hl 7 rfl) ?_
      refine lv_iconst (v := 3) hx hb dL_commands_34 (by decide) ?_
      refine lv_ishr hx hb dL_commands_35 ?_
      refine lv_bipush (v := 6) hx hb dL_commands_36 (by decide) ?_
      obtain ⟨j38, hj38, ej38⟩ := low_ix (v5 >>> (3 &&& 31)) (n := 6) (by decide) (by omega)
      refine k_callS0 (As := [.int (v5 >>> (3 &&& 31)), .int (nI 6)]) (k_low ej38 (by decide) (by omega)) S hh (va_cwS 2 hts gL_commands_L_low rfl rfl rfl (by decide +kernel) ⟨(Nat.le_of_ble_eq_true rfl), (Nat.le_of_ble_eq_true rfl)⟩) rfl hl.1 rfl (Nat.le_of_ble_eq_true rfl) dL_commands_38 ⟨(by show _ ≤ 20; omega), (by show _ ≤ 120; omega)⟩ (fun v9 L1 f1 H locs hp hh => ?_)
      obtain ⟨rfl, hL1, hf1⟩ := hp
      subst hL1; subst hf1
      refine lv_istore (lv' := [(8, .int (nI j38)), (7, .int 1), (6, .int (nI j3)), (0, .ref x), (1, .int (nI (N 1))), (2, .int (nI gg)), (3, .int (nI (N 3))), (4, .int (nI (N 0))), (5, .int v5)]) hx hb dL_commands_41 hl (by decide) rfl (fun ls hl => ?_)
      refine lv_aload_n hx hb dL_commands_43 rfl (lv_at hl 3 rfl) ?_
      refine lv_iload hx hb dL_commands_44 (lv_at hl 2 rfl) ?_
      refine k_callV0 (As := [.int (nI j3)]) (q_gangOn hst hz hw (w := (nI j3)) (k := j3) hj3 rfl) S hh (cwV 1 hts gL_commands_X5_gangOn rfl rfl rfl (by decide +kernel) ⟨(Nat.le_of_ble_eq_true rfl), (Nat.le_of_ble_eq_true rfl)⟩) hz.1.1.1 hz.1.1.2 (q := (RX5, TX5, 7)) rfl rfl rfl hl.1 rfl (Nat.le_of_ble_eq_true rfl) dL_commands_46 ⟨(by show _ ≤ 20; omega), (by show _ ≤ 120; omega)⟩ (fun v9 L1 f1 H locs hp hh => ?_)
      obtain ⟨rfl, hL1, hf1⟩ := hp
      subst hL1; subst hf1
      refine lv_if_lt (tgt := 54) hx hb dL_commands_49 (by decide) (fun c49 => ?_) (fun c49 => ?_)
      · have h6 : C 6 j3 = -1 := (six_neg hq hj3).mp c49
        refine lv_iload hx hb dL_commands_54 (lv_at hl 0 rfl) ?_
        refine lv_if_ne (tgt := 91) hx hb dL_commands_56 (by decide) (fun c56 => ?_) (fun c56 => ?_)
        · refine lv_iload hx hb dL_commands_91 (lv_at hl 0 rfl) ?_
          refine lv_iconst (v := 1) hx hb dL_commands_93 (by decide) ?_
          refine lv_icmp_ne (tgt := 147) hx hb dL_commands_94 (by decide) (fun c94 => ?_) (fun c94 => ?_)
          · refine lv_iload_n hx hb dL_commands_147 rfl (lv_at hl 6 rfl) ?_
            refine lv_iconst (v := 1) hx hb dL_commands_148 (by decide) ?_
            refine lv_isub hx hb dL_commands_149 ?_
            refine lv_iload hx hb dL_commands_150 (lv_at hl 8 rfl) ?_
            refine lv_bipush (v := 7) hx hb dL_commands_152 (by decide) ?_
            refine lv_ishr hx hb dL_commands_154 ?_
            refine lv_iload_n hx hb dL_commands_155 rfl (lv_at hl 6 rfl) ?_
            refine lv_iconst (v := 3) hx hb dL_commands_156 (by decide) ?_
            refine lv_icmp_ge (tgt := 164) hx hb dL_commands_157 (by decide) (fun c157 => ?_) (fun c157 => ?_)
            · have h3g : 3 ≤ N 3 := by
                rcases Nat.lt_or_ge (N 3) 3 with q | q
                · exact absurd c157 (nI_ge (b := 3) q (by decide))
                · exact q
              refine lv_iconst (v := 3) hx hb dL_commands_164 (by decide) ?_
              obtain ⟨j165, hj165, ej165⟩ := low_ix (v5 >>> (7 &&& 31)) (n := 3) (by decide) (by omega)
              refine k_callS0 (As := [.int (v5 >>> (7 &&& 31)), .int (nI 3)]) (k_low ej165 (by decide) (by omega)) S hh (va_cwS 2 hts gL_commands_L_low rfl rfl rfl (by decide +kernel) ⟨(Nat.le_of_ble_eq_true rfl), (Nat.le_of_ble_eq_true rfl)⟩) rfl hl.1 rfl (Nat.le_of_ble_eq_true rfl) dL_commands_165 ⟨(by show _ ≤ 20; omega), (by show _ ≤ 120; omega)⟩ (fun v9 L1 f1 H locs hp hh => ?_)
              obtain ⟨rfl, hL1, hf1⟩ := hp
              subst hL1; subst hf1
              refine lv_isub hx hb dL_commands_168 ?_
              refine lv_topi (fun x169 e169 => ?_)
              refine lv_istore (lv' := [(9, .int x169), (8, .int (nI j38)), (7, .int 1), (6, .int (nI j3)), (0, .ref x), (1, .int (nI (N 1))), (2, .int (nI gg)), (3, .int (nI (N 3))), (4, .int (nI (N 0))), (5, .int v5)]) hx hb dL_commands_169 hl (by decide) rfl (fun ls hl => ?_)
              obtain ⟨k9, hk9, rfl⟩ : ∃ k, k < N 3 ∧ x169 = nI k := ⟨N 3 - 1 - j165, by omega, by rw [e169, show (1 : Int32) = nI 1 from rfl, pk_sub (by omega), pk_sub (by omega)]⟩
              refine lv_iload hx hb dL_commands_171 (lv_at hl 2 rfl) ?_
              refine lv_if_eq (tgt := 220) hx hb dL_commands_173 (by decide) (fun c => absurd (show (1 : Int32) = (0 : Int32) from c) (by decide)) (fun _ => ?_)
              refine lv_aload_n hx hb dL_commands_176 rfl (lv_at hl 4 rfl) ?_
              refine lv_iload hx hb dL_commands_177 (lv_at hl 0 rfl) ?_
              refine k_callV0 (As := [.int (nI k9)]) (q_fateOf hst hz hw (w := (nI k9)) (k := k9) hk9 rfl) S hh (cwV 1 hts gL_commands_X5_fateOf rfl rfl rfl (by decide +kernel) ⟨(Nat.le_of_ble_eq_true rfl), (Nat.le_of_ble_eq_true rfl)⟩) hz.1.1.1 hz.1.1.2 (q := (RX5, TX5, 7)) rfl rfl rfl hl.1 rfl (Nat.le_of_ble_eq_true rfl) dL_commands_179 ⟨(by show _ ≤ 20; omega), (by show _ ≤ 120; omega)⟩ (fun v9 L1 f1 H locs hp hh => ?_)
              obtain ⟨rfl, hL1, hf1⟩ := hp
              subst hL1; subst hf1
              refine lv_iconst (v := 2) hx hb dL_commands_182 (by decide) ?_
              refine lv_icmp_ge (tgt := 220) hx hb dL_commands_183 (by decide) (fun c183 => ?_) (fun c183 => ?_)
              · refine lv_iconst (v := 1) hx hb dL_commands_220 (by decide) ?_
                exact k_zret hx hb hr hlk (rfl) hh dL_commands_221 (by omega) (by omega) ⟨rfl, _, _, _, hz, hq, rfl⟩
              · refine lv_aload_n hx hb dL_commands_186 rfl (lv_at hl 4 rfl) ?_
                refine lv_iload hx hb dL_commands_187 (lv_at hl 3 rfl) ?_
                refine lv_iload_n hx hb dL_commands_189 rfl (lv_at hl 6 rfl) ?_
                refine lv_iload hx hb dL_commands_190 (lv_at hl 0 rfl) ?_
                obtain ⟨hT2, hq2⟩ := a_order hq (b := j3) (g := gg) (k := k9) hj3 hg hk9 h6 c13 hno c183
                have hw2 := hq2.f.1
                refine k_callV0 (As := [.int (nI j3), .int (nI gg), .int (nI k9)]) (q_order hst hz hw hT2) S hh (cwV 3 hts gL_commands_X5_order rfl rfl rfl (by decide +kernel) ⟨(Nat.le_of_ble_eq_true rfl), (Nat.le_of_ble_eq_true rfl)⟩) hz.1.1.1 hz.1.1.2 (q := (RX5, TX5, 7)) rfl rfl rfl hl.1 rfl (Nat.le_of_ble_eq_true rfl) dL_commands_192 ⟨(by show _ ≤ 20; omega), (by show _ ≤ 120; omega)⟩ (fun v9 L2 f2 H locs hp hh => ?_)
                obtain ⟨rfl, a2, hz2⟩ := hp
                refine lv_aload_n hx hb dL_commands_195 rfl (lv_at hl 4 rfl) ?_
                refine lv_iload hx hb dL_commands_196 (lv_at hl 3 rfl) ?_
                refine k_callV0 (As := [.int (nI j3)]) (q_gangOn hst hz2 hw2 (w := (nI j3)) (k := j3) hj3 rfl) S hh (cwV 1 hts gL_commands_X5_gangOn rfl rfl rfl (by decide +kernel) ⟨(Nat.le_of_ble_eq_true rfl), (Nat.le_of_ble_eq_true rfl)⟩) hz2.1.1.1 hz2.1.1.2 (q := (RX5, TX5, 7)) rfl rfl rfl hl.1 rfl (Nat.le_of_ble_eq_true rfl) dL_commands_198 ⟨(by show _ ≤ 20; omega), (by show _ ≤ 120; omega)⟩ (fun v9 L1 f1 H locs hp hh => ?_)
                obtain ⟨rfl, hL1, hf1⟩ := hp
                subst hL1; subst hf1
                refine lv_iload_n hx hb dL_commands_201 rfl (lv_at hl 6 rfl) ?_
                refine lv_icmp_ne (tgt := 218) hx hb dL_commands_202 (by decide) (fun c202 => ?_) (fun c202 => ?_)
                · exact absurd (show upd (C 6) (nT (nI j3)) (nI gg) j3 = nI gg by rw [(show nT (nI j3) = j3 from nI_clamp (by omega)), upd_at]) c202
                · refine lv_aload_n hx hb dL_commands_205 rfl (lv_at hl 4 rfl) ?_
                  refine lv_iload hx hb dL_commands_206 (lv_at hl 3 rfl) ?_
                  refine k_callV0 (As := [.int (nI j3)]) (q_placeOf hst hz2 hw2 (w := (nI j3)) (k := j3) hj3 rfl) S hh (cwV 1 hts gL_commands_X5_placeOf rfl rfl rfl (by decide +kernel) ⟨(Nat.le_of_ble_eq_true rfl), (Nat.le_of_ble_eq_true rfl)⟩) hz2.1.1.1 hz2.1.1.2 (q := (RX5, TX5, 7)) rfl rfl rfl hl.1 rfl (Nat.le_of_ble_eq_true rfl) dL_commands_208 ⟨(by show _ ≤ 20; omega), (by show _ ≤ 120; omega)⟩ (fun v9 L1 f1 H locs hp hh => ?_)
                  obtain ⟨rfl, hL1, hf1⟩ := hp
                  subst hL1; subst hf1
                  refine lv_if_ne (tgt := 218) hx hb dL_commands_211 (by decide) (fun c211 => ?_) (fun c211 => ?_)
                  · exact absurd ((fWk.1 j3 hj3).2.1 h6) c211
                  · refine lv_iconst (v := 1) hx hb dL_commands_214 (by decide) ?_
                    refine lv_goto (tgt := 219) hx hb dL_commands_215 (by decide) ?_
                    exact k_zret hx hb hr hlk (rfl) hh dL_commands_219 (by omega) (by omega) ⟨rfl, _, _, _, hz2, hq2, rfl⟩
            · refine lv_iload_n hx hb dL_commands_160 rfl (lv_at hl 6 rfl) ?_
              refine lv_goto (tgt := 165) hx hb dL_commands_161 (by decide) ?_
              obtain ⟨j165, hj165, ej165⟩ := low_ix (v5 >>> (7 &&& 31)) (n := N 3) z3 (by omega)
              refine k_callS0 (As := [.int (v5 >>> (7 &&& 31)), .int (nI (N 3))]) (k_low ej165 z3 (by omega)) S hh (va_cwS 2 hts gL_commands_L_low rfl rfl rfl (by decide +kernel) ⟨(Nat.le_of_ble_eq_true rfl), (Nat.le_of_ble_eq_true rfl)⟩) rfl hl.1 rfl (Nat.le_of_ble_eq_true rfl) dL_commands_165 ⟨(by show _ ≤ 20; omega), (by show _ ≤ 120; omega)⟩ (fun v9 L1 f1 H locs hp hh => ?_)
              obtain ⟨rfl, hL1, hf1⟩ := hp
              subst hL1; subst hf1
              refine lv_isub hx hb dL_commands_168 ?_
              refine lv_topi (fun x169 e169 => ?_)
              refine lv_istore (lv' := [(9, .int x169), (8, .int (nI j38)), (7, .int 1), (6, .int (nI j3)), (0, .ref x), (1, .int (nI (N 1))), (2, .int (nI gg)), (3, .int (nI (N 3))), (4, .int (nI (N 0))), (5, .int v5)]) hx hb dL_commands_169 hl (by decide) rfl (fun ls hl => ?_)
              obtain ⟨k9, hk9, rfl⟩ : ∃ k, k < N 3 ∧ x169 = nI k := ⟨N 3 - 1 - j165, by omega, by rw [e169, show (1 : Int32) = nI 1 from rfl, pk_sub (by omega), pk_sub (by omega)]⟩
              refine lv_iload hx hb dL_commands_171 (lv_at hl 2 rfl) ?_
              refine lv_if_eq (tgt := 220) hx hb dL_commands_173 (by decide) (fun c => absurd (show (1 : Int32) = (0 : Int32) from c) (by decide)) (fun _ => ?_)
              refine lv_aload_n hx hb dL_commands_176 rfl (lv_at hl 4 rfl) ?_
              refine lv_iload hx hb dL_commands_177 (lv_at hl 0 rfl) ?_
              refine k_callV0 (As := [.int (nI k9)]) (q_fateOf hst hz hw (w := (nI k9)) (k := k9) hk9 rfl) S hh (cwV 1 hts gL_commands_X5_fateOf rfl rfl rfl (by decide +kernel) ⟨(Nat.le_of_ble_eq_true rfl), (Nat.le_of_ble_eq_true rfl)⟩) hz.1.1.1 hz.1.1.2 (q := (RX5, TX5, 7)) rfl rfl rfl hl.1 rfl (Nat.le_of_ble_eq_true rfl) dL_commands_179 ⟨(by show _ ≤ 20; omega), (by show _ ≤ 120; omega)⟩ (fun v9 L1 f1 H locs hp hh => ?_)
              obtain ⟨rfl, hL1, hf1⟩ := hp
              subst hL1; subst hf1
              refine lv_iconst (v := 2) hx hb dL_commands_182 (by decide) ?_
              refine lv_icmp_ge (tgt := 220) hx hb dL_commands_183 (by decide) (fun c183 => ?_) (fun c183 => ?_)
              · refine lv_iconst (v := 1) hx hb dL_commands_220 (by decide) ?_
                exact k_zret hx hb hr hlk (rfl) hh dL_commands_221 (by omega) (by omega) ⟨rfl, _, _, _, hz, hq, rfl⟩
              · refine lv_aload_n hx hb dL_commands_186 rfl (lv_at hl 4 rfl) ?_
                refine lv_iload hx hb dL_commands_187 (lv_at hl 3 rfl) ?_
                refine lv_iload_n hx hb dL_commands_189 rfl (lv_at hl 6 rfl) ?_
                refine lv_iload hx hb dL_commands_190 (lv_at hl 0 rfl) ?_
                obtain ⟨hT2, hq2⟩ := a_order hq (b := j3) (g := gg) (k := k9) hj3 hg hk9 h6 c13 hno c183
                have hw2 := hq2.f.1
                refine k_callV0 (As := [.int (nI j3), .int (nI gg), .int (nI k9)]) (q_order hst hz hw hT2) S hh (cwV 3 hts gL_commands_X5_order rfl rfl rfl (by decide +kernel) ⟨(Nat.le_of_ble_eq_true rfl), (Nat.le_of_ble_eq_true rfl)⟩) hz.1.1.1 hz.1.1.2 (q := (RX5, TX5, 7)) rfl rfl rfl hl.1 rfl (Nat.le_of_ble_eq_true rfl) dL_commands_192 ⟨(by show _ ≤ 20; omega), (by show _ ≤ 120; omega)⟩ (fun v9 L2 f2 H locs hp hh => ?_)
                obtain ⟨rfl, a2, hz2⟩ := hp
                refine lv_aload_n hx hb dL_commands_195 rfl (lv_at hl 4 rfl) ?_
                refine lv_iload hx hb dL_commands_196 (lv_at hl 3 rfl) ?_
                refine k_callV0 (As := [.int (nI j3)]) (q_gangOn hst hz2 hw2 (w := (nI j3)) (k := j3) hj3 rfl) S hh (cwV 1 hts gL_commands_X5_gangOn rfl rfl rfl (by decide +kernel) ⟨(Nat.le_of_ble_eq_true rfl), (Nat.le_of_ble_eq_true rfl)⟩) hz2.1.1.1 hz2.1.1.2 (q := (RX5, TX5, 7)) rfl rfl rfl hl.1 rfl (Nat.le_of_ble_eq_true rfl) dL_commands_198 ⟨(by show _ ≤ 20; omega), (by show _ ≤ 120; omega)⟩ (fun v9 L1 f1 H locs hp hh => ?_)
                obtain ⟨rfl, hL1, hf1⟩ := hp
                subst hL1; subst hf1
                refine lv_iload_n hx hb dL_commands_201 rfl (lv_at hl 6 rfl) ?_
                refine lv_icmp_ne (tgt := 218) hx hb dL_commands_202 (by decide) (fun c202 => ?_) (fun c202 => ?_)
                · exact absurd (show upd (C 6) (nT (nI j3)) (nI gg) j3 = nI gg by rw [(show nT (nI j3) = j3 from nI_clamp (by omega)), upd_at]) c202
                · refine lv_aload_n hx hb dL_commands_205 rfl (lv_at hl 4 rfl) ?_
                  refine lv_iload hx hb dL_commands_206 (lv_at hl 3 rfl) ?_
                  refine k_callV0 (As := [.int (nI j3)]) (q_placeOf hst hz2 hw2 (w := (nI j3)) (k := j3) hj3 rfl) S hh (cwV 1 hts gL_commands_X5_placeOf rfl rfl rfl (by decide +kernel) ⟨(Nat.le_of_ble_eq_true rfl), (Nat.le_of_ble_eq_true rfl)⟩) hz2.1.1.1 hz2.1.1.2 (q := (RX5, TX5, 7)) rfl rfl rfl hl.1 rfl (Nat.le_of_ble_eq_true rfl) dL_commands_208 ⟨(by show _ ≤ 20; omega), (by show _ ≤ 120; omega)⟩ (fun v9 L1 f1 H locs hp hh => ?_)
                  obtain ⟨rfl, hL1, hf1⟩ := hp
                  subst hL1; subst hf1
                  refine lv_if_ne (tgt := 218) hx hb dL_commands_211 (by decide) (fun c211 => ?_) (fun c211 => ?_)
                  · exact absurd ((fWk.1 j3 hj3).2.1 h6) c211
                  · refine lv_iconst (v := 1) hx hb dL_commands_214 (by decide) ?_
                    refine lv_goto (tgt := 219) hx hb dL_commands_215 (by decide) ?_
                    exact k_zret hx hb hr hlk (rfl) hh dL_commands_219 (by omega) (by omega) ⟨rfl, _, _, _, hz2, hq2, rfl⟩
          · refine lv_iload hx hb dL_commands_97 (lv_at hl 1 rfl) ?_
            refine lv_if_eq (tgt := 147) hx hb dL_commands_99 (by decide) (fun c => absurd (show (1 : Int32) = (0 : Int32) from c) (by decide)) (fun _ => ?_)
            refine lv_aload_n hx hb dL_commands_102 rfl (lv_at hl 3 rfl) ?_
            refine lv_iload hx hb dL_commands_103 (lv_at hl 2 rfl) ?_
            refine k_callV0 (As := [.int (nI j3)]) (q_dustIn hst hz hw (w := (nI j3)) (k := j3) hj3 rfl) S hh (cwV 1 hts gL_commands_X5_dustIn rfl rfl rfl (by decide +kernel) ⟨(Nat.le_of_ble_eq_true rfl), (Nat.le_of_ble_eq_true rfl)⟩) hz.1.1.1 hz.1.1.2 (q := (RX5, TX5, 7)) rfl rfl rfl hl.1 rfl (Nat.le_of_ble_eq_true rfl) dL_commands_105 ⟨(by show _ ≤ 20; omega), (by show _ ≤ 120; omega)⟩ (fun v9 L1 f1 H locs hp hh => ?_)
            obtain ⟨rfl, hL1, hf1⟩ := hp
            subst hL1; subst hf1
            refine lv_topi (fun x108 e108 => ?_)
            refine lv_istore (lv' := [(9, .int x108), (8, .int (nI j38)), (7, .int 1), (6, .int (nI j3)), (0, .ref x), (1, .int (nI (N 1))), (2, .int (nI gg)), (3, .int (nI (N 3))), (4, .int (nI (N 0))), (5, .int v5)]) hx hb dL_commands_108 hl (by decide) rfl (fun ls hl => ?_)
            refine lv_aload_n hx hb dL_commands_110 rfl (lv_at hl 4 rfl) ?_
            refine lv_iload hx hb dL_commands_111 (lv_at hl 3 rfl) ?_
            refine lv_iload_n hx hb dL_commands_113 rfl (lv_at hl 6 rfl) ?_
            obtain ⟨hT2, hq2⟩ := a_sweep hq (b := j3) (g := gg) hj3 hg h6 c13 hno
            have hw2 := hq2.f.1
            refine k_callV0 (As := [.int (nI j3), .int (nI gg)]) (q_sweep hst hz hw hT2) S hh (cwV 2 hts gL_commands_X5_sweep rfl rfl rfl (by decide +kernel) ⟨(Nat.le_of_ble_eq_true rfl), (Nat.le_of_ble_eq_true rfl)⟩) hz.1.1.1 hz.1.1.2 (q := (RX5, TX5, 7)) rfl rfl rfl hl.1 rfl (Nat.le_of_ble_eq_true rfl) dL_commands_114 ⟨(by show _ ≤ 20; omega), (by show _ ≤ 120; omega)⟩ (fun v9 L2 f2 H locs hp hh => ?_)
            obtain ⟨rfl, hL2, hz2⟩ := hp
            subst hL2
            refine lv_iload hx hb dL_commands_117 (lv_at hl 0 rfl) ?_
            refine lv_icmp_ne (tgt := 145) hx hb dL_commands_119 (by decide) (fun c119 => ?_) (fun c119 => ?_)
            · exact absurd (by rw [e108, (show nT (nI j3) = j3 from nI_clamp (by omega))]) c119
            · refine lv_aload_n hx hb dL_commands_122 rfl (lv_at hl 4 rfl) ?_
              refine lv_iload hx hb dL_commands_123 (lv_at hl 3 rfl) ?_
              refine k_callV0 (As := [.int (nI j3)]) (q_dustIn hst hz2 hw2 (w := (nI j3)) (k := j3) hj3 rfl) S hh (cwV 1 hts gL_commands_X5_dustIn rfl rfl rfl (by decide +kernel) ⟨(Nat.le_of_ble_eq_true rfl), (Nat.le_of_ble_eq_true rfl)⟩) hz2.1.1.1 hz2.1.1.2 (q := (RX5, TX5, 7)) rfl rfl rfl hl.1 rfl (Nat.le_of_ble_eq_true rfl) dL_commands_125 ⟨(by show _ ≤ 20; omega), (by show _ ≤ 120; omega)⟩ (fun v9 L1 f1 H locs hp hh => ?_)
              obtain ⟨rfl, hL1, hf1⟩ := hp
              subst hL1; subst hf1
              refine lv_if_ne (tgt := 145) hx hb dL_commands_128 (by decide) (fun c128 => ?_) (fun c128 => ?_)
              · exact absurd (show upd (C 3) (nT (nI j3)) 0 j3 = 0 by rw [(show nT (nI j3) = j3 from nI_clamp (by omega)), upd_at]) c128
              · refine lv_aload_n hx hb dL_commands_131 rfl (lv_at hl 4 rfl) ?_
                refine lv_iload_n hx hb dL_commands_132 rfl (lv_at hl 6 rfl) ?_
                refine k_callV0 (As := [.int (nI gg)]) (q_restOf hst hz2 hw2 (w := (nI gg)) (k := gg) hg rfl) S hh (cwV 1 hts gL_commands_X5_restOf rfl rfl rfl (by decide +kernel) ⟨(Nat.le_of_ble_eq_true rfl), (Nat.le_of_ble_eq_true rfl)⟩) hz2.1.1.1 hz2.1.1.2 (q := (RX5, TX5, 7)) rfl rfl rfl hl.1 rfl (Nat.le_of_ble_eq_true rfl) dL_commands_133 ⟨(by show _ ≤ 20; omega), (by show _ ≤ 120; omega)⟩ (fun v9 L1 f1 H locs hp hh => ?_)
                obtain ⟨rfl, hL1, hf1⟩ := hp
                subst hL1; subst hf1
                refine lv_bipush (v := 8) hx hb dL_commands_136 (by decide) ?_
                refine lv_icmp_ne (tgt := 145) hx hb dL_commands_138 (by decide) (fun c138 => ?_) (fun c138 => ?_)
                · exact absurd (show upd (C 11) (nT (nI gg)) 8 gg = 8 by rw [(show nT (nI gg) = gg from nI_clamp (by omega)), upd_at]) c138
                · refine lv_iconst (v := 1) hx hb dL_commands_141 (by decide) ?_
                  refine lv_goto (tgt := 146) hx hb dL_commands_142 (by decide) ?_
                  exact k_zret hx hb hr hlk (rfl) hh dL_commands_146 (by omega) (by omega) ⟨rfl, _, _, _, hz2, hq2, rfl⟩
        · refine lv_aload_n hx hb dL_commands_59 rfl (lv_at hl 3 rfl) ?_
          refine lv_iload hx hb dL_commands_60 (lv_at hl 2 rfl) ?_
          refine lv_iload hx hb dL_commands_62 (lv_at hl 8 rfl) ?_
          refine lv_bipush (v := 7) hx hb dL_commands_64 (by decide) ?_
          refine lv_ishr hx hb dL_commands_66 ?_
          refine lv_iload hx hb dL_commands_67 (lv_at hl 7 rfl) ?_
          obtain ⟨j69, hj69, ej69⟩ := low_ix (v5 >>> (7 &&& 31)) (n := N 0) z0 (by omega)
          refine k_callS0 (As := [.int (v5 >>> (7 &&& 31)), .int (nI (N 0))]) (k_low ej69 z0 (by omega)) S hh (va_cwS 2 hts gL_commands_L_low rfl rfl rfl (by decide +kernel) ⟨(Nat.le_of_ble_eq_true rfl), (Nat.le_of_ble_eq_true rfl)⟩) rfl hl.1 rfl (Nat.le_of_ble_eq_true rfl) dL_commands_69 ⟨(by show _ ≤ 20; omega), (by show _ ≤ 120; omega)⟩ (fun v9 L1 f1 H locs hp hh => ?_)
          obtain ⟨rfl, hL1, hf1⟩ := hp
          subst hL1; subst hf1
          obtain ⟨hT2, hq2⟩ := a_shift hq (b := j3) (k := j69) hj3 hj69 h6
          have hw2 := hq2.f.1
          refine k_callV0 (As := [.int (nI j3), .int (nI j69)]) (q_shift hst hz hw hT2) S hh (cwV 2 hts gL_commands_X5_shift rfl rfl rfl (by decide +kernel) ⟨(Nat.le_of_ble_eq_true rfl), (Nat.le_of_ble_eq_true rfl)⟩) hz.1.1.1 hz.1.1.2 (q := (RX5, TX5, 7)) rfl rfl rfl hl.1 rfl (Nat.le_of_ble_eq_true rfl) dL_commands_72 ⟨(by show _ ≤ 20; omega), (by show _ ≤ 120; omega)⟩ (fun v9 L2 f2 H locs hp hh => ?_)
          obtain ⟨rfl, hL2, hz2⟩ := hp
          subst hL2
          refine lv_aload_n hx hb dL_commands_75 rfl (lv_at hl 3 rfl) ?_
          refine lv_iload hx hb dL_commands_76 (lv_at hl 2 rfl) ?_
          refine k_callV0 (As := [.int (nI j3)]) (q_gangOn hst hz2 hw2 (w := (nI j3)) (k := j3) hj3 rfl) S hh (cwV 1 hts gL_commands_X5_gangOn rfl rfl rfl (by decide +kernel) ⟨(Nat.le_of_ble_eq_true rfl), (Nat.le_of_ble_eq_true rfl)⟩) hz2.1.1.1 hz2.1.1.2 (q := (RX5, TX5, 7)) rfl rfl rfl hl.1 rfl (Nat.le_of_ble_eq_true rfl) dL_commands_78 ⟨(by show _ ≤ 20; omega), (by show _ ≤ 120; omega)⟩ (fun v9 L1 f1 H locs hp hh => ?_)
          obtain ⟨rfl, hL1, hf1⟩ := hp
          subst hL1; subst hf1
          refine lv_iconst (v := (-1)) hx hb dL_commands_81 (by decide) ?_
          refine lv_icmp_ne (tgt := 89) hx hb dL_commands_82 (by decide) (fun c82 => ?_) (fun c82 => ?_)
          · exact absurd h6 c82
          · refine lv_iconst (v := 1) hx hb dL_commands_85 (by decide) ?_
            refine lv_goto (tgt := 90) hx hb dL_commands_86 (by decide) ?_
            exact k_zret hx hb hr hlk (rfl) hh dL_commands_90 (by omega) (by omega) ⟨rfl, _, _, _, hz2, hq2, rfl⟩
      · refine lv_iconst (v := 1) hx hb dL_commands_52 (by decide) ?_
        exact k_zret hx hb hr hlk (rfl) hh dL_commands_53 (by omega) (by omega) ⟨rfl, _, _, _, hz, hq, rfl⟩
