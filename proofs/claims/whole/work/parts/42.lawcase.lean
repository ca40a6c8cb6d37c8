set_option maxRecDepth 100000 in
set_option maxHeartbeats 4000000 in
theorem law_hulk {p : Program} {l : Launch} {e : Env} {s : State} {m : MethodId} {below : List Frame} {meth : Method} {c : Code} {H : Heap} {locs : List Loc} {Q : State → Prop} {κ : Kx} {L : List Nat} {f : Nat → va_E} {ls : Array Slot} {b Ln x xm o n : Nat} {xs : Nat → Int32} {bb N P : Nat → Nat} {C M : MS} (hst : l.stackTraces = false) (S : CallFix p m c cL_law 7 s #[Value.ref b] wsL_law RL) (hX : va_X b Ln xs s s.heap) (hbl : b < s.heap.size) (hbA : ¬ kA κ b) (hLn : Ln ≤ 2048) (hn4 : 4 * n + 4 ≤ Ln) (hh : HH κ L f s H locs) (hI : LI κ x xm o bb (N, P, C) M n L f) (hl : lv_has ls 7 [(0, .ref b), (1, .ref x), (2, .ref xm), (3, .ref o), (4, .int (nI (4 * n)))]) (kk : LK p l e s m b below meth c Q κ x xm o bb n) : W p l e room_1 s m #[Value.ref b] below meth c H locs (30 + 6 * n) (2000 + 3016 * n) Q (F0 m 128 ls []) := by
  obtain ⟨hx, hb, hml, hown, hts⟩ := id S
  obtain ⟨⟨a, hca⟩, hzr, ⟨ho, g, hfo⟩, hrel⟩ := hI
  have hca : CA κ x a N P C L f := hca
  have hz : ZC κ x a N P C L f L f := ⟨hca, Fr.rf⟩
  obtain ⟨⟨hw, hj, hp, hpt, hck⟩, hc, h3n, h8, h55, h66⟩ := hrel.pl
  obtain ⟨b0, b1, b2, b3, b4⟩ := hw.1
  have hwf : wfM M (N 0) (N 1) (N 2) (N 3) := hrel.wf
  have hn512 : n < 512 := by omega
  refine lv_aload_n hx hb dL_law_128 rfl (lv_at hl 1 rfl) ?_
  refine lv_aload_n hx hb dL_law_129 rfl (lv_at hl 0 rfl) ?_
  refine lv_iload hx hb dL_law_130 (lv_at hl 4 rfl) ?_
  refine lv_iconst (v := 1) hx hb dL_law_132 (by decide) ?_
  refine lv_iadd hx hb dL_law_133 ?_
  refine l_sld S hX hbl hbA hh (nI_1 (4 * n)) (by omega) hLn rfl dL_law_134 ?_
  refine lv_aload_n hx hb dL_law_135 rfl (lv_at hl 3 rfl) ?_
  refine k_callSX0 (As := [.ref x, .int (xs (4 * n + 1)), .ref o]) (k_L_hulk hst hz hw ho hfo (v := (xs (4 * n + 1)))) S hh (vx_cwSW 3 hts gL_law_L_hulk rfl rfl rfl (by decide +kernel) ⟨(Nat.le_of_ble_eq_true rfl), (Nat.le_of_ble_eq_true rfl)⟩) rfl hl.1 rfl (Nat.le_of_ble_eq_true rfl) dL_law_136 ⟨(by show _ ≤ 601024; omega), (by show _ ≤ 7293034; omega)⟩ (fun v L1 f1 H locs hp hh => ?_)
  obtain ⟨rfl, ⟨a1, hca1⟩, hFr, ho1, g1, hg1, hQ⟩ := hp
  have hzr1 := hzr.keepO hfo hFr
  have heq := hulk_eq hrel (v := (xs (4 * n + 1)))
  refine lv_topi (fun k5 e5 => ?_)
  refine lv_istore (lv' := [(5, .int k5), (0, .ref b), (1, .ref x), (2, .ref xm), (3, .ref o), (4, .int (nI (4 * n)))]) hx hb dL_law_139 hl (by decide) rfl (fun ls hl => ?_)
  refine lv_aload_n hx hb dL_law_141 rfl (lv_at hl 3 rfl) ?_
  refine lv_aload_n hx hb dL_law_142 rfl (lv_at hl 1 rfl) ?_
  refine lv_iload hx hb dL_law_143 (lv_at hl 5 rfl) ?_
  refine lv_iconst (v := 1) hx hb dL_law_145 (by decide) ?_
  refine lv_iadd hx hb dL_law_146 ?_
  refine l_sld S hX hbl hbA hh (nI_1 (4 * n)) (by omega) hLn rfl dL_law_147 ?_
  refine k_callV0 (As := [.int (xs (4 * n + 1))]) (c_hulk hzr1 hc.1 b0 (x := (xs (4 * n + 1)))) S hh (cwV 1 hts gL_law_X6_hulk rfl rfl rfl (by decide +kernel) ⟨(Nat.le_of_ble_eq_true rfl), (Nat.le_of_ble_eq_true rfl)⟩) hzr1.1.1 hzr1.1.2 (q := (RX6, TX6, 22)) rfl rfl rfl hl.1 rfl (Nat.le_of_ble_eq_true rfl) dL_law_148 ⟨(by show _ ≤ 601024; omega), (by show _ ≤ 7293034; omega)⟩ (fun v L2 f2 H locs hp hh => ?_)
  obtain ⟨rfl, hL2, hz2⟩ := hp
  subst hL2
  obtain ⟨hI2, hg2⟩ := LI.next hca1 hz2 ho1 hg1 heq.2.1
  refine lv_topi (fun k6 e6 => ?_)
  refine lv_istore (lv' := [(6, .int k6), (5, .int k5), (0, .ref b), (1, .ref x), (2, .ref xm), (3, .ref o), (4, .int (nI (4 * n)))]) hx hb dL_law_151 hl (by decide) rfl (fun ls hl => ?_)
  refine lv_aload_n hx hb dL_law_153 rfl (lv_at hl 4 rfl) ?_
  refine k_callV0 (As := []) (c_thrown hz2) S hh (cwV 0 hts gL_law_X6_thrown rfl rfl rfl (by decide +kernel) ⟨(Nat.le_of_ble_eq_true rfl), (Nat.le_of_ble_eq_true rfl)⟩) hz2.1.1 hz2.1.2 (q := (RX6, TX6, 22)) rfl rfl rfl hl.1 rfl (Nat.le_of_ble_eq_true rfl) dL_law_154 ⟨(by show _ ≤ 601024; omega), (by show _ ≤ 7293034; omega)⟩ (fun v L1 f1 H locs hp hh => ?_)
  obtain ⟨rfl, hL9, hf9⟩ := hp
  subst hL9; subst hf9
  refine lv_iload hx hb dL_law_157 (lv_at hl 1 rfl) ?_
  refine lv_icmp_eq (tgt := 164) hx hb dL_law_159 (by decide) (fun _ => ?_) (fun q => absurd (by rw [e5]; exact heq.1.symm) q)
  refine lv_iload hx hb dL_law_164 (lv_at hl 1 rfl) ?_
  refine lv_if_ne (tgt := 181) hx hb dL_law_166 (by decide) (fun _ => ?_) (fun q5 => ?_)
  · refine lv_goto (tgt := 1126) hx hb dL_law_181 (by decide) ?_
    refine W.widen (k := 30 + 6 * (n + 1)) (n := 2000 + 3016 * (n + 1)) (by omega) (by omega) ?_
    exact kk _ _ _ _ _ _ _ hh hI2 (lv_sub hl [2, 3, 4, 5, 6] rfl)
  · have q5 : k5 = 0 := by first | exact q5 | exact Classical.not_not.mp q5
    have hT0 := e5.symm.trans q5
    have hcmp : g1 (0 : Int32).toNatClampNeg = k6.toInt64 := by rw [e6, ← (heq.2.2 hT0)]; exact hQ hT0
    refine lv_aload_n hx hb dL_law_169 rfl (lv_at hl 5 rfl) ?_
    refine lv_iconst (v := 0) hx hb dL_law_170 (by decide) ?_
    refine h_lald hx hb hh hI2.2.2.1.1 hg2 (show vp_in 0 1 by unfold vp_in; decide) dL_law_171 ?_
    refine lv_iload hx hb dL_law_172 (lv_at hl 0 rfl) ?_
    refine lv_i2l hx hb dL_law_174 rfl ?_
    refine W.lcmp hx hb dL_law_175 ?_
    refine lv_if_eq (tgt := 181) hx hb dL_law_176 (by decide) (fun _ => ?_) (fun z => absurd ((lg_cmp_eq _ _).mpr hcmp) z)
    refine lv_goto (tgt := 1126) hx hb dL_law_181 (by decide) ?_
    refine W.widen (k := 30 + 6 * (n + 1)) (n := 2000 + 3016 * (n + 1)) (by omega) (by omega) ?_
    exact kk _ _ _ _ _ _ _ hh hI2 (lv_sub hl [2, 3, 4, 5, 6] rfl)

set_option maxRecDepth 100000 in
set_option maxHeartbeats 4000000 in
theorem law_lighter {p : Program} {l : Launch} {e : Env} {s : State} {m : MethodId} {below : List Frame} {meth : Method} {c : Code} {H : Heap} {locs : List Loc} {Q : State → Prop} {κ : Kx} {L : List Nat} {f : Nat → va_E} {ls : Array Slot} {b Ln x xm o n : Nat} {xs : Nat → Int32} {bb N P : Nat → Nat} {C M : MS} (hst : l.stackTraces = false) (S : CallFix p m c cL_law 7 s #[Value.ref b] wsL_law RL) (hX : va_X b Ln xs s s.heap) (hbl : b < s.heap.size) (hbA : ¬ kA κ b) (hLn : Ln ≤ 2048) (hn4 : 4 * n + 4 ≤ Ln) (hh : HH κ L f s H locs) (hI : LI κ x xm o bb (N, P, C) M n L f) (hl : lv_has ls 7 [(0, .ref b), (1, .ref x), (2, .ref xm), (3, .ref o), (4, .int (nI (4 * n)))]) (kk : LK p l e s m b below meth c Q κ x xm o bb n) : W p l e room_1 s m #[Value.ref b] below meth c H locs (30 + 6 * n) (2000 + 3016 * n) Q (F0 m 184 ls []) := by
  obtain ⟨hx, hb, hml, hown, hts⟩ := id S
  obtain ⟨⟨a, hca⟩, hzr, ⟨ho, g, hfo⟩, hrel⟩ := hI
  have hca : CA κ x a N P C L f := hca
  have hz : ZC κ x a N P C L f L f := ⟨hca, Fr.rf⟩
  obtain ⟨⟨hw, hj, hp, hpt, hck⟩, hc, h3n, h8, h55, h66⟩ := hrel.pl
  obtain ⟨b0, b1, b2, b3, b4⟩ := hw.1
  have hwf : wfM M (N 0) (N 1) (N 2) (N 3) := hrel.wf
  have hn512 : n < 512 := by omega
  refine lv_aload_n hx hb dL_law_184 rfl (lv_at hl 1 rfl) ?_
  refine lv_aload_n hx hb dL_law_185 rfl (lv_at hl 0 rfl) ?_
  refine lv_iload hx hb dL_law_186 (lv_at hl 4 rfl) ?_
  refine lv_iconst (v := 1) hx hb dL_law_188 (by decide) ?_
  refine lv_iadd hx hb dL_law_189 ?_
  refine l_sld S hX hbl hbA hh (nI_1 (4 * n)) (by omega) hLn rfl dL_law_190 ?_
  refine lv_aload_n hx hb dL_law_191 rfl (lv_at hl 3 rfl) ?_
  refine k_callSX0 (As := [.ref x, .int (xs (4 * n + 1)), .ref o]) (k_L_lighter hst hz hw ho hfo (v := (xs (4 * n + 1)))) S hh (vx_cwSW 3 hts gL_law_L_lighter rfl rfl rfl (by decide +kernel) ⟨(Nat.le_of_ble_eq_true rfl), (Nat.le_of_ble_eq_true rfl)⟩) rfl hl.1 rfl (Nat.le_of_ble_eq_true rfl) dL_law_192 ⟨(by show _ ≤ 601024; omega), (by show _ ≤ 7293034; omega)⟩ (fun v L1 f1 H locs hp hh => ?_)
  obtain ⟨rfl, ⟨a1, hca1⟩, hFr, ho1, g1, hg1, hQ⟩ := hp
  have hzr1 := hzr.keepO hfo hFr
  have heq := lighter_eq hrel (v := (xs (4 * n + 1)))
  refine lv_topi (fun k5 e5 => ?_)
  refine lv_istore (lv' := [(5, .int k5), (0, .ref b), (1, .ref x), (2, .ref xm), (3, .ref o), (4, .int (nI (4 * n)))]) hx hb dL_law_195 hl (by decide) rfl (fun ls hl => ?_)
  refine lv_aload_n hx hb dL_law_197 rfl (lv_at hl 3 rfl) ?_
  refine lv_aload_n hx hb dL_law_198 rfl (lv_at hl 1 rfl) ?_
  refine lv_iload hx hb dL_law_199 (lv_at hl 5 rfl) ?_
  refine lv_iconst (v := 1) hx hb dL_law_201 (by decide) ?_
  refine lv_iadd hx hb dL_law_202 ?_
  refine l_sld S hX hbl hbA hh (nI_1 (4 * n)) (by omega) hLn rfl dL_law_203 ?_
  refine k_callV0 (As := [.int (xs (4 * n + 1))]) (c_lighter hzr1 hc.2.1 b1 (x := (xs (4 * n + 1)))) S hh (cwV 1 hts gL_law_X6_lighter rfl rfl rfl (by decide +kernel) ⟨(Nat.le_of_ble_eq_true rfl), (Nat.le_of_ble_eq_true rfl)⟩) hzr1.1.1 hzr1.1.2 (q := (RX6, TX6, 22)) rfl rfl rfl hl.1 rfl (Nat.le_of_ble_eq_true rfl) dL_law_204 ⟨(by show _ ≤ 601024; omega), (by show _ ≤ 7293034; omega)⟩ (fun v L2 f2 H locs hp hh => ?_)
  obtain ⟨rfl, hL2, hz2⟩ := hp
  subst hL2
  obtain ⟨hI2, hg2⟩ := LI.next hca1 hz2 ho1 hg1 heq.2.1
  refine lv_topi (fun k6 e6 => ?_)
  refine lv_istore (lv' := [(6, .int k6), (5, .int k5), (0, .ref b), (1, .ref x), (2, .ref xm), (3, .ref o), (4, .int (nI (4 * n)))]) hx hb dL_law_207 hl (by decide) rfl (fun ls hl => ?_)
  refine lv_aload_n hx hb dL_law_209 rfl (lv_at hl 4 rfl) ?_
  refine k_callV0 (As := []) (c_thrown hz2) S hh (cwV 0 hts gL_law_X6_thrown rfl rfl rfl (by decide +kernel) ⟨(Nat.le_of_ble_eq_true rfl), (Nat.le_of_ble_eq_true rfl)⟩) hz2.1.1 hz2.1.2 (q := (RX6, TX6, 22)) rfl rfl rfl hl.1 rfl (Nat.le_of_ble_eq_true rfl) dL_law_210 ⟨(by show _ ≤ 601024; omega), (by show _ ≤ 7293034; omega)⟩ (fun v L1 f1 H locs hp hh => ?_)
  obtain ⟨rfl, hL9, hf9⟩ := hp
  subst hL9; subst hf9
  refine lv_iload hx hb dL_law_213 (lv_at hl 1 rfl) ?_
  refine lv_icmp_eq (tgt := 220) hx hb dL_law_215 (by decide) (fun _ => ?_) (fun q => absurd (by rw [e5]; exact heq.1.symm) q)
  refine lv_iload hx hb dL_law_220 (lv_at hl 1 rfl) ?_
  refine lv_if_ne (tgt := 237) hx hb dL_law_222 (by decide) (fun _ => ?_) (fun q5 => ?_)
  · refine lv_goto (tgt := 1126) hx hb dL_law_237 (by decide) ?_
    refine W.widen (k := 30 + 6 * (n + 1)) (n := 2000 + 3016 * (n + 1)) (by omega) (by omega) ?_
    exact kk _ _ _ _ _ _ _ hh hI2 (lv_sub hl [2, 3, 4, 5, 6] rfl)
  · have q5 : k5 = 0 := by first | exact q5 | exact Classical.not_not.mp q5
    have hT0 := e5.symm.trans q5
    have hcmp : g1 (0 : Int32).toNatClampNeg = k6.toInt64 := by rw [e6, ← (heq.2.2 hT0)]; exact hQ hT0
    refine lv_aload_n hx hb dL_law_225 rfl (lv_at hl 5 rfl) ?_
    refine lv_iconst (v := 0) hx hb dL_law_226 (by decide) ?_
    refine h_lald hx hb hh hI2.2.2.1.1 hg2 (show vp_in 0 1 by unfold vp_in; decide) dL_law_227 ?_
    refine lv_iload hx hb dL_law_228 (lv_at hl 0 rfl) ?_
    refine lv_i2l hx hb dL_law_230 rfl ?_
    refine W.lcmp hx hb dL_law_231 ?_
    refine lv_if_eq (tgt := 237) hx hb dL_law_232 (by decide) (fun _ => ?_) (fun z => absurd ((lg_cmp_eq _ _).mpr hcmp) z)
    refine lv_goto (tgt := 1126) hx hb dL_law_237 (by decide) ?_
    refine W.widen (k := 30 + 6 * (n + 1)) (n := 2000 + 3016 * (n + 1)) (by omega) (by omega) ?_
    exact kk _ _ _ _ _ _ _ hh hI2 (lv_sub hl [2, 3, 4, 5, 6] rfl)

set_option maxRecDepth 100000 in
set_option maxHeartbeats 4000000 in
theorem law_gang {p : Program} {l : Launch} {e : Env} {s : State} {m : MethodId} {below : List Frame} {meth : Method} {c : Code} {H : Heap} {locs : List Loc} {Q : State → Prop} {κ : Kx} {L : List Nat} {f : Nat → va_E} {ls : Array Slot} {b Ln x xm o n : Nat} {xs : Nat → Int32} {bb N P : Nat → Nat} {C M : MS} (hst : l.stackTraces = false) (S : CallFix p m c cL_law 7 s #[Value.ref b] wsL_law RL) (hX : va_X b Ln xs s s.heap) (hbl : b < s.heap.size) (hbA : ¬ kA κ b) (hLn : Ln ≤ 2048) (hn4 : 4 * n + 4 ≤ Ln) (hh : HH κ L f s H locs) (hI : LI κ x xm o bb (N, P, C) M n L f) (hl : lv_has ls 7 [(0, .ref b), (1, .ref x), (2, .ref xm), (3, .ref o), (4, .int (nI (4 * n)))]) (kk : LK p l e s m b below meth c Q κ x xm o bb n) : W p l e room_1 s m #[Value.ref b] below meth c H locs (30 + 6 * n) (2000 + 3016 * n) Q (F0 m 240 ls []) := by
  obtain ⟨hx, hb, hml, hown, hts⟩ := id S
  obtain ⟨⟨a, hca⟩, hzr, ⟨ho, g, hfo⟩, hrel⟩ := hI
  have hca : CA κ x a N P C L f := hca
  have hz : ZC κ x a N P C L f L f := ⟨hca, Fr.rf⟩
  obtain ⟨⟨hw, hj, hp, hpt, hck⟩, hc, h3n, h8, h55, h66⟩ := hrel.pl
  obtain ⟨b0, b1, b2, b3, b4⟩ := hw.1
  have hwf : wfM M (N 0) (N 1) (N 2) (N 3) := hrel.wf
  have hn512 : n < 512 := by omega
  refine lv_aload_n hx hb dL_law_240 rfl (lv_at hl 1 rfl) ?_
  refine lv_aload_n hx hb dL_law_241 rfl (lv_at hl 0 rfl) ?_
  refine lv_iload hx hb dL_law_242 (lv_at hl 4 rfl) ?_
  refine lv_iconst (v := 1) hx hb dL_law_244 (by decide) ?_
  refine lv_iadd hx hb dL_law_245 ?_
  refine l_sld S hX hbl hbA hh (nI_1 (4 * n)) (by omega) hLn rfl dL_law_246 ?_
  refine lv_aload_n hx hb dL_law_247 rfl (lv_at hl 3 rfl) ?_
  refine k_callSX0 (As := [.ref x, .int (xs (4 * n + 1)), .ref o]) (k_L_gang hst hz hw ho hfo (v := (xs (4 * n + 1)))) S hh (vx_cwSW 3 hts gL_law_L_gang rfl rfl rfl (by decide +kernel) ⟨(Nat.le_of_ble_eq_true rfl), (Nat.le_of_ble_eq_true rfl)⟩) rfl hl.1 rfl (Nat.le_of_ble_eq_true rfl) dL_law_248 ⟨(by show _ ≤ 601024; omega), (by show _ ≤ 7293034; omega)⟩ (fun v L1 f1 H locs hp hh => ?_)
  obtain ⟨rfl, ⟨a1, hca1⟩, hFr, ho1, g1, hg1, hQ⟩ := hp
  have hzr1 := hzr.keepO hfo hFr
  have heq := gang_eq hrel (v := (xs (4 * n + 1)))
  refine lv_topi (fun k5 e5 => ?_)
  refine lv_istore (lv' := [(5, .int k5), (0, .ref b), (1, .ref x), (2, .ref xm), (3, .ref o), (4, .int (nI (4 * n)))]) hx hb dL_law_251 hl (by decide) rfl (fun ls hl => ?_)
  refine lv_aload_n hx hb dL_law_253 rfl (lv_at hl 3 rfl) ?_
  refine lv_aload_n hx hb dL_law_254 rfl (lv_at hl 1 rfl) ?_
  refine lv_iload hx hb dL_law_255 (lv_at hl 5 rfl) ?_
  refine lv_iconst (v := 1) hx hb dL_law_257 (by decide) ?_
  refine lv_iadd hx hb dL_law_258 ?_
  refine l_sld S hX hbl hbA hh (nI_1 (4 * n)) (by omega) hLn rfl dL_law_259 ?_
  refine k_callV0 (As := [.int (xs (4 * n + 1))]) (c_gang hzr1 hc.2.2.1 b2 (x := (xs (4 * n + 1)))) S hh (cwV 1 hts gL_law_X6_gang rfl rfl rfl (by decide +kernel) ⟨(Nat.le_of_ble_eq_true rfl), (Nat.le_of_ble_eq_true rfl)⟩) hzr1.1.1 hzr1.1.2 (q := (RX6, TX6, 22)) rfl rfl rfl hl.1 rfl (Nat.le_of_ble_eq_true rfl) dL_law_260 ⟨(by show _ ≤ 601024; omega), (by show _ ≤ 7293034; omega)⟩ (fun v L2 f2 H locs hp hh => ?_)
  obtain ⟨rfl, hL2, hz2⟩ := hp
  subst hL2
  obtain ⟨hI2, hg2⟩ := LI.next hca1 hz2 ho1 hg1 heq.2.1
  refine lv_topi (fun k6 e6 => ?_)
  refine lv_istore (lv' := [(6, .int k6), (5, .int k5), (0, .ref b), (1, .ref x), (2, .ref xm), (3, .ref o), (4, .int (nI (4 * n)))]) hx hb dL_law_263 hl (by decide) rfl (fun ls hl => ?_)
  refine lv_aload_n hx hb dL_law_265 rfl (lv_at hl 4 rfl) ?_
  refine k_callV0 (As := []) (c_thrown hz2) S hh (cwV 0 hts gL_law_X6_thrown rfl rfl rfl (by decide +kernel) ⟨(Nat.le_of_ble_eq_true rfl), (Nat.le_of_ble_eq_true rfl)⟩) hz2.1.1 hz2.1.2 (q := (RX6, TX6, 22)) rfl rfl rfl hl.1 rfl (Nat.le_of_ble_eq_true rfl) dL_law_266 ⟨(by show _ ≤ 601024; omega), (by show _ ≤ 7293034; omega)⟩ (fun v L1 f1 H locs hp hh => ?_)
  obtain ⟨rfl, hL9, hf9⟩ := hp
  subst hL9; subst hf9
  refine lv_iload hx hb dL_law_269 (lv_at hl 1 rfl) ?_
  refine lv_icmp_eq (tgt := 276) hx hb dL_law_271 (by decide) (fun _ => ?_) (fun q => absurd (by rw [e5]; exact heq.1.symm) q)
  refine lv_iload hx hb dL_law_276 (lv_at hl 1 rfl) ?_
  refine lv_if_ne (tgt := 293) hx hb dL_law_278 (by decide) (fun _ => ?_) (fun q5 => ?_)
  · refine lv_goto (tgt := 1126) hx hb dL_law_293 (by decide) ?_
    refine W.widen (k := 30 + 6 * (n + 1)) (n := 2000 + 3016 * (n + 1)) (by omega) (by omega) ?_
    exact kk _ _ _ _ _ _ _ hh hI2 (lv_sub hl [2, 3, 4, 5, 6] rfl)
  · have q5 : k5 = 0 := by first | exact q5 | exact Classical.not_not.mp q5
    have hT0 := e5.symm.trans q5
    have hcmp : g1 (0 : Int32).toNatClampNeg = k6.toInt64 := by rw [e6, ← (heq.2.2 hT0)]; exact hQ hT0
    refine lv_aload_n hx hb dL_law_281 rfl (lv_at hl 5 rfl) ?_
    refine lv_iconst (v := 0) hx hb dL_law_282 (by decide) ?_
    refine h_lald hx hb hh hI2.2.2.1.1 hg2 (show vp_in 0 1 by unfold vp_in; decide) dL_law_283 ?_
    refine lv_iload hx hb dL_law_284 (lv_at hl 0 rfl) ?_
    refine lv_i2l hx hb dL_law_286 rfl ?_
    refine W.lcmp hx hb dL_law_287 ?_
    refine lv_if_eq (tgt := 293) hx hb dL_law_288 (by decide) (fun _ => ?_) (fun z => absurd ((lg_cmp_eq _ _).mpr hcmp) z)
    refine lv_goto (tgt := 1126) hx hb dL_law_293 (by decide) ?_
    refine W.widen (k := 30 + 6 * (n + 1)) (n := 2000 + 3016 * (n + 1)) (by omega) (by omega) ?_
    exact kk _ _ _ _ _ _ _ hh hI2 (lv_sub hl [2, 3, 4, 5, 6] rfl)

set_option maxRecDepth 100000 in
set_option maxHeartbeats 4000000 in
theorem law_steamer {p : Program} {l : Launch} {e : Env} {s : State} {m : MethodId} {below : List Frame} {meth : Method} {c : Code} {H : Heap} {locs : List Loc} {Q : State → Prop} {κ : Kx} {L : List Nat} {f : Nat → va_E} {ls : Array Slot} {b Ln x xm o n : Nat} {xs : Nat → Int32} {bb N P : Nat → Nat} {C M : MS} (hst : l.stackTraces = false) (S : CallFix p m c cL_law 7 s #[Value.ref b] wsL_law RL) (hX : va_X b Ln xs s s.heap) (hbl : b < s.heap.size) (hbA : ¬ kA κ b) (hLn : Ln ≤ 2048) (hn4 : 4 * n + 4 ≤ Ln) (hh : HH κ L f s H locs) (hI : LI κ x xm o bb (N, P, C) M n L f) (hl : lv_has ls 7 [(0, .ref b), (1, .ref x), (2, .ref xm), (3, .ref o), (4, .int (nI (4 * n)))]) (kk : LK p l e s m b below meth c Q κ x xm o bb n) : W p l e room_1 s m #[Value.ref b] below meth c H locs (30 + 6 * n) (2000 + 3016 * n) Q (F0 m 296 ls []) := by
  obtain ⟨hx, hb, hml, hown, hts⟩ := id S
  obtain ⟨⟨a, hca⟩, hzr, ⟨ho, g, hfo⟩, hrel⟩ := hI
  have hca : CA κ x a N P C L f := hca
  have hz : ZC κ x a N P C L f L f := ⟨hca, Fr.rf⟩
  obtain ⟨⟨hw, hj, hp, hpt, hck⟩, hc, h3n, h8, h55, h66⟩ := hrel.pl
  obtain ⟨b0, b1, b2, b3, b4⟩ := hw.1
  have hwf : wfM M (N 0) (N 1) (N 2) (N 3) := hrel.wf
  have hn512 : n < 512 := by omega
  refine lv_aload_n hx hb dL_law_296 rfl (lv_at hl 1 rfl) ?_
  refine lv_aload_n hx hb dL_law_297 rfl (lv_at hl 0 rfl) ?_
  refine lv_iload hx hb dL_law_298 (lv_at hl 4 rfl) ?_
  refine lv_iconst (v := 1) hx hb dL_law_300 (by decide) ?_
  refine lv_iadd hx hb dL_law_301 ?_
  refine l_sld S hX hbl hbA hh (nI_1 (4 * n)) (by omega) hLn rfl dL_law_302 ?_
  refine lv_aload_n hx hb dL_law_303 rfl (lv_at hl 0 rfl) ?_
  refine lv_iload hx hb dL_law_304 (lv_at hl 4 rfl) ?_
  refine lv_iconst (v := 2) hx hb dL_law_306 (by decide) ?_
  refine lv_iadd hx hb dL_law_307 ?_
  refine l_sld S hX hbl hbA hh (show nI (4 * n) + 2 = nI (4 * n + 2) from nI_add (4 * n) 2) (by omega) hLn rfl dL_law_308 ?_
  refine lv_aload_n hx hb dL_law_309 rfl (lv_at hl 3 rfl) ?_
  refine k_callSX0 (As := [.ref x, .int (xs (4 * n + 1)), .int (xs (4 * n + 2)), .ref o]) (k_L_steamer hst hz hw ho hfo (v := (xs (4 * n + 1))) (w := (xs (4 * n + 2)))) S hh (vx_cwSW 4 hts gL_law_L_steamer rfl rfl rfl (by decide +kernel) ⟨(Nat.le_of_ble_eq_true rfl), (Nat.le_of_ble_eq_true rfl)⟩) rfl hl.1 rfl (Nat.le_of_ble_eq_true rfl) dL_law_310 ⟨(by show _ ≤ 601024; omega), (by show _ ≤ 7293034; omega)⟩ (fun v L1 f1 H locs hp hh => ?_)
  obtain ⟨rfl, ⟨a1, hca1⟩, hFr, ho1, g1, hg1, hQ⟩ := hp
  have hzr1 := hzr.keepO hfo hFr
  have heq := steamer_eq hrel (v := (xs (4 * n + 1))) (w := (xs (4 * n + 2))) (by omega)
  refine lv_topi (fun k5 e5 => ?_)
  refine lv_istore (lv' := [(5, .int k5), (0, .ref b), (1, .ref x), (2, .ref xm), (3, .ref o), (4, .int (nI (4 * n)))]) hx hb dL_law_313 hl (by decide) rfl (fun ls hl => ?_)
  refine lv_aload_n hx hb dL_law_315 rfl (lv_at hl 3 rfl) ?_
  refine lv_aload_n hx hb dL_law_316 rfl (lv_at hl 1 rfl) ?_
  refine lv_iload hx hb dL_law_317 (lv_at hl 5 rfl) ?_
  refine lv_iconst (v := 1) hx hb dL_law_319 (by decide) ?_
  refine lv_iadd hx hb dL_law_320 ?_
  refine l_sld S hX hbl hbA hh (nI_1 (4 * n)) (by omega) hLn rfl dL_law_321 ?_
  refine lv_aload_n hx hb dL_law_322 rfl (lv_at hl 1 rfl) ?_
  refine lv_iload hx hb dL_law_323 (lv_at hl 5 rfl) ?_
  refine lv_iconst (v := 2) hx hb dL_law_325 (by decide) ?_
  refine lv_iadd hx hb dL_law_326 ?_
  refine l_sld S hX hbl hbA hh (show nI (4 * n) + 2 = nI (4 * n + 2) from nI_add (4 * n) 2) (by omega) hLn rfl dL_law_327 ?_
  refine k_callV0 (As := [.int (xs (4 * n + 1)), .int (xs (4 * n + 2))]) (c_steamer hzr1 hc.2.2.2 (by omega) (x := (xs (4 * n + 1))) (y := (xs (4 * n + 2)))) S hh (cwV 2 hts gL_law_X6_steamer rfl rfl rfl (by decide +kernel) ⟨(Nat.le_of_ble_eq_true rfl), (Nat.le_of_ble_eq_true rfl)⟩) hzr1.1.1 hzr1.1.2 (q := (RX6, TX6, 22)) rfl rfl rfl hl.1 rfl (Nat.le_of_ble_eq_true rfl) dL_law_328 ⟨(by show _ ≤ 601024; omega), (by show _ ≤ 7293034; omega)⟩ (fun v L2 f2 H locs hp hh => ?_)
  obtain ⟨rfl, hL2, hz2⟩ := hp
  subst hL2
  obtain ⟨hI2, hg2⟩ := LI.next hca1 hz2 ho1 hg1 heq.2.1
  refine lv_topi (fun k6 e6 => ?_)
  refine lv_istore (lv' := [(6, .int k6), (5, .int k5), (0, .ref b), (1, .ref x), (2, .ref xm), (3, .ref o), (4, .int (nI (4 * n)))]) hx hb dL_law_331 hl (by decide) rfl (fun ls hl => ?_)
  refine lv_aload_n hx hb dL_law_333 rfl (lv_at hl 4 rfl) ?_
  refine k_callV0 (As := []) (c_thrown hz2) S hh (cwV 0 hts gL_law_X6_thrown rfl rfl rfl (by decide +kernel) ⟨(Nat.le_of_ble_eq_true rfl), (Nat.le_of_ble_eq_true rfl)⟩) hz2.1.1 hz2.1.2 (q := (RX6, TX6, 22)) rfl rfl rfl hl.1 rfl (Nat.le_of_ble_eq_true rfl) dL_law_334 ⟨(by show _ ≤ 601024; omega), (by show _ ≤ 7293034; omega)⟩ (fun v L1 f1 H locs hp hh => ?_)
  obtain ⟨rfl, hL9, hf9⟩ := hp
  subst hL9; subst hf9
  refine lv_iload hx hb dL_law_337 (lv_at hl 1 rfl) ?_
  refine lv_icmp_eq (tgt := 344) hx hb dL_law_339 (by decide) (fun _ => ?_) (fun q => absurd (by rw [e5]; exact heq.1.symm) q)
  refine lv_iload hx hb dL_law_344 (lv_at hl 1 rfl) ?_
  refine lv_if_ne (tgt := 361) hx hb dL_law_346 (by decide) (fun _ => ?_) (fun q5 => ?_)
  · refine lv_goto (tgt := 1126) hx hb dL_law_361 (by decide) ?_
    refine W.widen (k := 30 + 6 * (n + 1)) (n := 2000 + 3016 * (n + 1)) (by omega) (by omega) ?_
    exact kk _ _ _ _ _ _ _ hh hI2 (lv_sub hl [2, 3, 4, 5, 6] rfl)
  · have q5 : k5 = 0 := by first | exact q5 | exact Classical.not_not.mp q5
    have hT0 := e5.symm.trans q5
    have hcmp : g1 (0 : Int32).toNatClampNeg = k6.toInt64 := by rw [e6, ← (heq.2.2 hT0)]; exact hQ hT0
    refine lv_aload_n hx hb dL_law_349 rfl (lv_at hl 5 rfl) ?_
    refine lv_iconst (v := 0) hx hb dL_law_350 (by decide) ?_
    refine h_lald hx hb hh hI2.2.2.1.1 hg2 (show vp_in 0 1 by unfold vp_in; decide) dL_law_351 ?_
    refine lv_iload hx hb dL_law_352 (lv_at hl 0 rfl) ?_
    refine lv_i2l hx hb dL_law_354 rfl ?_
    refine W.lcmp hx hb dL_law_355 ?_
    refine lv_if_eq (tgt := 361) hx hb dL_law_356 (by decide) (fun _ => ?_) (fun z => absurd ((lg_cmp_eq _ _).mpr hcmp) z)
    refine lv_goto (tgt := 1126) hx hb dL_law_361 (by decide) ?_
    refine W.widen (k := 30 + 6 * (n + 1)) (n := 2000 + 3016 * (n + 1)) (by omega) (by omega) ?_
    exact kk _ _ _ _ _ _ _ hh hI2 (lv_sub hl [2, 3, 4, 5, 6] rfl)

set_option maxRecDepth 100000 in
set_option maxHeartbeats 4000000 in
theorem law_order {p : Program} {l : Launch} {e : Env} {s : State} {m : MethodId} {below : List Frame} {meth : Method} {c : Code} {H : Heap} {locs : List Loc} {Q : State → Prop} {κ : Kx} {L : List Nat} {f : Nat → va_E} {ls : Array Slot} {b Ln x xm o n : Nat} {xs : Nat → Int32} {bb N P : Nat → Nat} {C M : MS} (hst : l.stackTraces = false) (S : CallFix p m c cL_law 7 s #[Value.ref b] wsL_law RL) (hX : va_X b Ln xs s s.heap) (hbl : b < s.heap.size) (hbA : ¬ kA κ b) (hLn : Ln ≤ 2048) (hn4 : 4 * n + 4 ≤ Ln) (hh : HH κ L f s H locs) (hI : LI κ x xm o bb (N, P, C) M n L f) (hl : lv_has ls 7 [(0, .ref b), (1, .ref x), (2, .ref xm), (3, .ref o), (4, .int (nI (4 * n)))]) (kk : LK p l e s m b below meth c Q κ x xm o bb n) : W p l e room_1 s m #[Value.ref b] below meth c H locs (30 + 6 * n) (2000 + 3016 * n) Q (F0 m 364 ls []) := by
  obtain ⟨hx, hb, hml, hown, hts⟩ := id S
  obtain ⟨⟨a, hca⟩, hzr, ⟨ho, g, hfo⟩, hrel⟩ := hI
  have hca : CA κ x a N P C L f := hca
  have hz : ZC κ x a N P C L f L f := ⟨hca, Fr.rf⟩
  obtain ⟨⟨hw, hj, hp, hpt, hck⟩, hc, h3n, h8, h55, h66⟩ := hrel.pl
  obtain ⟨b0, b1, b2, b3, b4⟩ := hw.1
  have hwf : wfM M (N 0) (N 1) (N 2) (N 3) := hrel.wf
  have hn512 : n < 512 := by omega
  refine lv_aload_n hx hb dL_law_364 rfl (lv_at hl 1 rfl) ?_
  refine lv_aload_n hx hb dL_law_365 rfl (lv_at hl 0 rfl) ?_
  refine lv_iload hx hb dL_law_366 (lv_at hl 4 rfl) ?_
  refine lv_iconst (v := 1) hx hb dL_law_368 (by decide) ?_
  refine lv_iadd hx hb dL_law_369 ?_
  refine l_sld S hX hbl hbA hh (nI_1 (4 * n)) (by omega) hLn rfl dL_law_370 ?_
  refine lv_aload_n hx hb dL_law_371 rfl (lv_at hl 0 rfl) ?_
  refine lv_iload hx hb dL_law_372 (lv_at hl 4 rfl) ?_
  refine lv_iconst (v := 2) hx hb dL_law_374 (by decide) ?_
  refine lv_iadd hx hb dL_law_375 ?_
  refine l_sld S hX hbl hbA hh (show nI (4 * n) + 2 = nI (4 * n + 2) from nI_add (4 * n) 2) (by omega) hLn rfl dL_law_376 ?_
  refine lv_aload_n hx hb dL_law_377 rfl (lv_at hl 0 rfl) ?_
  refine lv_iload hx hb dL_law_378 (lv_at hl 4 rfl) ?_
  refine lv_iconst (v := 3) hx hb dL_law_380 (by decide) ?_
  refine lv_iadd hx hb dL_law_381 ?_
  refine l_sld S hX hbl hbA hh (show nI (4 * n) + 3 = nI (4 * n + 3) from nI_add (4 * n) 3) (by omega) hLn rfl dL_law_382 ?_
  refine k_callSX0 (As := [.ref x, .int (xs (4 * n + 1)), .int (xs (4 * n + 2)), .int (xs (4 * n + 3))]) (k_L_order hst hz hw ho hfo (v := (xs (4 * n + 1))) (w := (xs (4 * n + 2))) (u := (xs (4 * n + 3)))) S hh (vx_cwSW 4 hts gL_law_L_order rfl rfl rfl (by decide +kernel) ⟨(Nat.le_of_ble_eq_true rfl), (Nat.le_of_ble_eq_true rfl)⟩) rfl hl.1 rfl (Nat.le_of_ble_eq_true rfl) dL_law_383 ⟨(by show _ ≤ 601024; omega), (by show _ ≤ 7293034; omega)⟩ (fun v L1 f1 H locs hp hh => ?_)
  obtain ⟨rfl, ⟨a1, hca1⟩, hFr, ho1, g1, hg1, hQ⟩ := hp
  have hzr1 := hzr.keepO hfo hFr
  have heq := order_eq hrel (v := (xs (4 * n + 1))) (w := (xs (4 * n + 2))) (u := (xs (4 * n + 3)))
  refine lv_topi (fun k5 e5 => ?_)
  refine lv_istore (lv' := [(5, .int k5), (0, .ref b), (1, .ref x), (2, .ref xm), (3, .ref o), (4, .int (nI (4 * n)))]) hx hb dL_law_386 hl (by decide) rfl (fun ls hl => ?_)
  refine lv_aload_n hx hb dL_law_388 rfl (lv_at hl 3 rfl) ?_
  refine lv_aload_n hx hb dL_law_389 rfl (lv_at hl 1 rfl) ?_
  refine lv_iload hx hb dL_law_390 (lv_at hl 5 rfl) ?_
  refine lv_iconst (v := 1) hx hb dL_law_392 (by decide) ?_
  refine lv_iadd hx hb dL_law_393 ?_
  refine l_sld S hX hbl hbA hh (nI_1 (4 * n)) (by omega) hLn rfl dL_law_394 ?_
  refine lv_aload_n hx hb dL_law_395 rfl (lv_at hl 1 rfl) ?_
  refine lv_iload hx hb dL_law_396 (lv_at hl 5 rfl) ?_
  refine lv_iconst (v := 2) hx hb dL_law_398 (by decide) ?_
  refine lv_iadd hx hb dL_law_399 ?_
  refine l_sld S hX hbl hbA hh (show nI (4 * n) + 2 = nI (4 * n + 2) from nI_add (4 * n) 2) (by omega) hLn rfl dL_law_400 ?_
  refine lv_aload_n hx hb dL_law_401 rfl (lv_at hl 1 rfl) ?_
  refine lv_iload hx hb dL_law_402 (lv_at hl 5 rfl) ?_
  refine lv_iconst (v := 3) hx hb dL_law_404 (by decide) ?_
  refine lv_iadd hx hb dL_law_405 ?_
  refine l_sld S hX hbl hbA hh (show nI (4 * n) + 3 = nI (4 * n + 3) from nI_add (4 * n) 3) (by omega) hLn rfl dL_law_406 ?_
  refine k_callV0 (As := [.int (xs (4 * n + 1)), .int (xs (4 * n + 2)), .int (xs (4 * n + 3))]) (c_order hzr1 hwf (x := (xs (4 * n + 1))) (y := (xs (4 * n + 2))) (z := (xs (4 * n + 3)))) S hh (cwV 3 hts gL_law_X6_order rfl rfl rfl (by decide +kernel) ⟨(Nat.le_of_ble_eq_true rfl), (Nat.le_of_ble_eq_true rfl)⟩) hzr1.1.1 hzr1.1.2 (q := (RX6, TX6, 22)) rfl rfl rfl hl.1 rfl (Nat.le_of_ble_eq_true rfl) dL_law_407 ⟨(by show _ ≤ 601024; omega), (by show _ ≤ 7293034; omega)⟩ (fun v L2 f2 H locs hp hh => ?_)
  obtain ⟨rfl, hL2, hz2⟩ := hp
  subst hL2
  obtain ⟨hI2, hg2⟩ := LI.next hca1 hz2 ho1 hg1 heq.2
  refine lv_aload_n hx hb dL_law_410 rfl (lv_at hl 3 rfl) ?_
  refine k_callV0 (As := []) (c_thrown hz2) S hh (cwV 0 hts gL_law_X6_thrown rfl rfl rfl (by decide +kernel) ⟨(Nat.le_of_ble_eq_true rfl), (Nat.le_of_ble_eq_true rfl)⟩) hz2.1.1 hz2.1.2 (q := (RX6, TX6, 22)) rfl rfl rfl hl.1 rfl (Nat.le_of_ble_eq_true rfl) dL_law_411 ⟨(by show _ ≤ 601024; omega), (by show _ ≤ 7293034; omega)⟩ (fun v L1 f1 H locs hp hh => ?_)
  obtain ⟨rfl, hL9, hf9⟩ := hp
  subst hL9; subst hf9
  refine lv_iload hx hb dL_law_414 (lv_at hl 0 rfl) ?_
  refine lv_icmp_eq (tgt := 421) hx hb dL_law_416 (by decide) (fun _ => ?_) (fun q => absurd (by rw [e5]; exact heq.1.symm) q)
  refine lv_goto (tgt := 1126) hx hb dL_law_421 (by decide) ?_
  refine W.widen (k := 30 + 6 * (n + 1)) (n := 2000 + 3016 * (n + 1)) (by omega) (by omega) ?_
  exact kk _ _ _ _ _ _ _ hh hI2 (lv_sub hl [1, 2, 3, 4, 5] rfl)

set_option maxRecDepth 100000 in
set_option maxHeartbeats 4000000 in
theorem law_shift {p : Program} {l : Launch} {e : Env} {s : State} {m : MethodId} {below : List Frame} {meth : Method} {c : Code} {H : Heap} {locs : List Loc} {Q : State → Prop} {κ : Kx} {L : List Nat} {f : Nat → va_E} {ls : Array Slot} {b Ln x xm o n : Nat} {xs : Nat → Int32} {bb N P : Nat → Nat} {C M : MS} (hst : l.stackTraces = false) (S : CallFix p m c cL_law 7 s #[Value.ref b] wsL_law RL) (hX : va_X b Ln xs s s.heap) (hbl : b < s.heap.size) (hbA : ¬ kA κ b) (hLn : Ln ≤ 2048) (hn4 : 4 * n + 4 ≤ Ln) (hh : HH κ L f s H locs) (hI : LI κ x xm o bb (N, P, C) M n L f) (hl : lv_has ls 7 [(0, .ref b), (1, .ref x), (2, .ref xm), (3, .ref o), (4, .int (nI (4 * n)))]) (kk : LK p l e s m b below meth c Q κ x xm o bb n) : W p l e room_1 s m #[Value.ref b] below meth c H locs (30 + 6 * n) (2000 + 3016 * n) Q (F0 m 424 ls []) := by
  obtain ⟨hx, hb, hml, hown, hts⟩ := id S
  obtain ⟨⟨a, hca⟩, hzr, ⟨ho, g, hfo⟩, hrel⟩ := hI
  have hca : CA κ x a N P C L f := hca
  have hz : ZC κ x a N P C L f L f := ⟨hca, Fr.rf⟩
  obtain ⟨⟨hw, hj, hp, hpt, hck⟩, hc, h3n, h8, h55, h66⟩ := hrel.pl
  obtain ⟨b0, b1, b2, b3, b4⟩ := hw.1
  have hwf : wfM M (N 0) (N 1) (N 2) (N 3) := hrel.wf
  have hn512 : n < 512 := by omega
  refine lv_aload_n hx hb dL_law_424 rfl (lv_at hl 1 rfl) ?_
  refine lv_aload_n hx hb dL_law_425 rfl (lv_at hl 0 rfl) ?_
  refine lv_iload hx hb dL_law_426 (lv_at hl 4 rfl) ?_
  refine lv_iconst (v := 1) hx hb dL_law_428 (by decide) ?_
  refine lv_iadd hx hb dL_law_429 ?_
  refine l_sld S hX hbl hbA hh (nI_1 (4 * n)) (by omega) hLn rfl dL_law_430 ?_
  refine lv_aload_n hx hb dL_law_431 rfl (lv_at hl 0 rfl) ?_
  refine lv_iload hx hb dL_law_432 (lv_at hl 4 rfl) ?_
  refine lv_iconst (v := 2) hx hb dL_law_434 (by decide) ?_
  refine lv_iadd hx hb dL_law_435 ?_
  refine l_sld S hX hbl hbA hh (show nI (4 * n) + 2 = nI (4 * n + 2) from nI_add (4 * n) 2) (by omega) hLn rfl dL_law_436 ?_
  refine k_callSX0 (As := [.ref x, .int (xs (4 * n + 1)), .int (xs (4 * n + 2))]) (k_L_shift hst hz hw ho hfo (v := (xs (4 * n + 1))) (w := (xs (4 * n + 2)))) S hh (vx_cwSW 3 hts gL_law_L_shift rfl rfl rfl (by decide +kernel) ⟨(Nat.le_of_ble_eq_true rfl), (Nat.le_of_ble_eq_true rfl)⟩) rfl hl.1 rfl (Nat.le_of_ble_eq_true rfl) dL_law_437 ⟨(by show _ ≤ 601024; omega), (by show _ ≤ 7293034; omega)⟩ (fun v L1 f1 H locs hp hh => ?_)
  obtain ⟨rfl, ⟨a1, hca1⟩, hFr, ho1, g1, hg1, hQ⟩ := hp
  have hzr1 := hzr.keepO hfo hFr
  have heq := shift_eq hrel (v := (xs (4 * n + 1))) (w := (xs (4 * n + 2)))
  refine lv_topi (fun k5 e5 => ?_)
  refine lv_istore (lv' := [(5, .int k5), (0, .ref b), (1, .ref x), (2, .ref xm), (3, .ref o), (4, .int (nI (4 * n)))]) hx hb dL_law_440 hl (by decide) rfl (fun ls hl => ?_)
  refine lv_aload_n hx hb dL_law_442 rfl (lv_at hl 3 rfl) ?_
  refine lv_aload_n hx hb dL_law_443 rfl (lv_at hl 1 rfl) ?_
  refine lv_iload hx hb dL_law_444 (lv_at hl 5 rfl) ?_
  refine lv_iconst (v := 1) hx hb dL_law_446 (by decide) ?_
  refine lv_iadd hx hb dL_law_447 ?_
  refine l_sld S hX hbl hbA hh (nI_1 (4 * n)) (by omega) hLn rfl dL_law_448 ?_
  refine lv_aload_n hx hb dL_law_449 rfl (lv_at hl 1 rfl) ?_
  refine lv_iload hx hb dL_law_450 (lv_at hl 5 rfl) ?_
  refine lv_iconst (v := 2) hx hb dL_law_452 (by decide) ?_
  refine lv_iadd hx hb dL_law_453 ?_
  refine l_sld S hX hbl hbA hh (show nI (4 * n) + 2 = nI (4 * n + 2) from nI_add (4 * n) 2) (by omega) hLn rfl dL_law_454 ?_
  refine k_callV0 (As := [.int (xs (4 * n + 1)), .int (xs (4 * n + 2))]) (c_shift hzr1 hwf (x := (xs (4 * n + 1))) (y := (xs (4 * n + 2))) (z := 0)) S hh (cwV 2 hts gL_law_X6_shift rfl rfl rfl (by decide +kernel) ⟨(Nat.le_of_ble_eq_true rfl), (Nat.le_of_ble_eq_true rfl)⟩) hzr1.1.1 hzr1.1.2 (q := (RX6, TX6, 22)) rfl rfl rfl hl.1 rfl (Nat.le_of_ble_eq_true rfl) dL_law_455 ⟨(by show _ ≤ 601024; omega), (by show _ ≤ 7293034; omega)⟩ (fun v L2 f2 H locs hp hh => ?_)
  obtain ⟨rfl, hL2, hz2⟩ := hp
  subst hL2
  obtain ⟨hI2, hg2⟩ := LI.next hca1 hz2 ho1 hg1 heq.2
  refine lv_aload_n hx hb dL_law_458 rfl (lv_at hl 3 rfl) ?_
  refine k_callV0 (As := []) (c_thrown hz2) S hh (cwV 0 hts gL_law_X6_thrown rfl rfl rfl (by decide +kernel) ⟨(Nat.le_of_ble_eq_true rfl), (Nat.le_of_ble_eq_true rfl)⟩) hz2.1.1 hz2.1.2 (q := (RX6, TX6, 22)) rfl rfl rfl hl.1 rfl (Nat.le_of_ble_eq_true rfl) dL_law_459 ⟨(by show _ ≤ 601024; omega), (by show _ ≤ 7293034; omega)⟩ (fun v L1 f1 H locs hp hh => ?_)
  obtain ⟨rfl, hL9, hf9⟩ := hp
  subst hL9; subst hf9
  refine lv_iload hx hb dL_law_462 (lv_at hl 0 rfl) ?_
  refine lv_icmp_eq (tgt := 469) hx hb dL_law_464 (by decide) (fun _ => ?_) (fun q => absurd (by rw [e5]; exact heq.1.symm) q)
  refine lv_goto (tgt := 1126) hx hb dL_law_469 (by decide) ?_
  refine W.widen (k := 30 + 6 * (n + 1)) (n := 2000 + 3016 * (n + 1)) (by omega) (by omega) ?_
  exact kk _ _ _ _ _ _ _ hh hI2 (lv_sub hl [1, 2, 3, 4, 5] rfl)

set_option maxRecDepth 100000 in
set_option maxHeartbeats 4000000 in
theorem law_sweep {p : Program} {l : Launch} {e : Env} {s : State} {m : MethodId} {below : List Frame} {meth : Method} {c : Code} {H : Heap} {locs : List Loc} {Q : State → Prop} {κ : Kx} {L : List Nat} {f : Nat → va_E} {ls : Array Slot} {b Ln x xm o n : Nat} {xs : Nat → Int32} {bb N P : Nat → Nat} {C M : MS} (hst : l.stackTraces = false) (S : CallFix p m c cL_law 7 s #[Value.ref b] wsL_law RL) (hX : va_X b Ln xs s s.heap) (hbl : b < s.heap.size) (hbA : ¬ kA κ b) (hLn : Ln ≤ 2048) (hn4 : 4 * n + 4 ≤ Ln) (hh : HH κ L f s H locs) (hI : LI κ x xm o bb (N, P, C) M n L f) (hl : lv_has ls 7 [(0, .ref b), (1, .ref x), (2, .ref xm), (3, .ref o), (4, .int (nI (4 * n)))]) (kk : LK p l e s m b below meth c Q κ x xm o bb n) : W p l e room_1 s m #[Value.ref b] below meth c H locs (30 + 6 * n) (2000 + 3016 * n) Q (F0 m 472 ls []) := by
  obtain ⟨hx, hb, hml, hown, hts⟩ := id S
  obtain ⟨⟨a, hca⟩, hzr, ⟨ho, g, hfo⟩, hrel⟩ := hI
  have hca : CA κ x a N P C L f := hca
  have hz : ZC κ x a N P C L f L f := ⟨hca, Fr.rf⟩
  obtain ⟨⟨hw, hj, hp, hpt, hck⟩, hc, h3n, h8, h55, h66⟩ := hrel.pl
  obtain ⟨b0, b1, b2, b3, b4⟩ := hw.1
  have hwf : wfM M (N 0) (N 1) (N 2) (N 3) := hrel.wf
  have hn512 : n < 512 := by omega
  refine lv_aload_n hx hb dL_law_472 rfl (lv_at hl 1 rfl) ?_
  refine lv_aload_n hx hb dL_law_473 rfl (lv_at hl 0 rfl) ?_
  refine lv_iload hx hb dL_law_474 (lv_at hl 4 rfl) ?_
  refine lv_iconst (v := 1) hx hb dL_law_476 (by decide) ?_
  refine lv_iadd hx hb dL_law_477 ?_
  refine l_sld S hX hbl hbA hh (nI_1 (4 * n)) (by omega) hLn rfl dL_law_478 ?_
  refine lv_aload_n hx hb dL_law_479 rfl (lv_at hl 0 rfl) ?_
  refine lv_iload hx hb dL_law_480 (lv_at hl 4 rfl) ?_
  refine lv_iconst (v := 2) hx hb dL_law_482 (by decide) ?_
  refine lv_iadd hx hb dL_law_483 ?_
  refine l_sld S hX hbl hbA hh (show nI (4 * n) + 2 = nI (4 * n + 2) from nI_add (4 * n) 2) (by omega) hLn rfl dL_law_484 ?_
  refine lv_aload_n hx hb dL_law_485 rfl (lv_at hl 3 rfl) ?_
  refine k_callSX0 (As := [.ref x, .int (xs (4 * n + 1)), .int (xs (4 * n + 2)), .ref o]) (k_L_sweep hst hz hw ho hfo (v := (xs (4 * n + 1))) (w := (xs (4 * n + 2)))) S hh (vx_cwSW 4 hts gL_law_L_sweep rfl rfl rfl (by decide +kernel) ⟨(Nat.le_of_ble_eq_true rfl), (Nat.le_of_ble_eq_true rfl)⟩) rfl hl.1 rfl (Nat.le_of_ble_eq_true rfl) dL_law_486 ⟨(by show _ ≤ 601024; omega), (by show _ ≤ 7293034; omega)⟩ (fun v L1 f1 H locs hp hh => ?_)
  obtain ⟨rfl, ⟨a1, hca1⟩, hFr, ho1, g1, hg1, hQ⟩ := hp
  have hzr1 := hzr.keepO hfo hFr
  have heq := sweep_eq hrel (v := (xs (4 * n + 1))) (w := (xs (4 * n + 2)))
  refine lv_topi (fun k5 e5 => ?_)
  refine lv_istore (lv' := [(5, .int k5), (0, .ref b), (1, .ref x), (2, .ref xm), (3, .ref o), (4, .int (nI (4 * n)))]) hx hb dL_law_489 hl (by decide) rfl (fun ls hl => ?_)
  refine lv_aload_n hx hb dL_law_491 rfl (lv_at hl 3 rfl) ?_
  refine lv_aload_n hx hb dL_law_492 rfl (lv_at hl 1 rfl) ?_
  refine lv_iload hx hb dL_law_493 (lv_at hl 5 rfl) ?_
  refine lv_iconst (v := 1) hx hb dL_law_495 (by decide) ?_
  refine lv_iadd hx hb dL_law_496 ?_
  refine l_sld S hX hbl hbA hh (nI_1 (4 * n)) (by omega) hLn rfl dL_law_497 ?_
  refine lv_aload_n hx hb dL_law_498 rfl (lv_at hl 1 rfl) ?_
  refine lv_iload hx hb dL_law_499 (lv_at hl 5 rfl) ?_
  refine lv_iconst (v := 2) hx hb dL_law_501 (by decide) ?_
  refine lv_iadd hx hb dL_law_502 ?_
  refine l_sld S hX hbl hbA hh (show nI (4 * n) + 2 = nI (4 * n + 2) from nI_add (4 * n) 2) (by omega) hLn rfl dL_law_503 ?_
  refine k_callV0 (As := [.int (xs (4 * n + 1)), .int (xs (4 * n + 2))]) (c_sweep hzr1 hwf (x := (xs (4 * n + 1))) (y := (xs (4 * n + 2))) (z := 0)) S hh (cwV 2 hts gL_law_X6_sweep rfl rfl rfl (by decide +kernel) ⟨(Nat.le_of_ble_eq_true rfl), (Nat.le_of_ble_eq_true rfl)⟩) hzr1.1.1 hzr1.1.2 (q := (RX6, TX6, 22)) rfl rfl rfl hl.1 rfl (Nat.le_of_ble_eq_true rfl) dL_law_504 ⟨(by show _ ≤ 601024; omega), (by show _ ≤ 7293034; omega)⟩ (fun v L2 f2 H locs hp hh => ?_)
  obtain ⟨rfl, hL2, hz2⟩ := hp
  subst hL2
  obtain ⟨hI2, hg2⟩ := LI.next hca1 hz2 ho1 hg1 heq.2.1
  refine lv_topi (fun k6 e6 => ?_)
  refine lv_istore (lv' := [(6, .int k6), (5, .int k5), (0, .ref b), (1, .ref x), (2, .ref xm), (3, .ref o), (4, .int (nI (4 * n)))]) hx hb dL_law_507 hl (by decide) rfl (fun ls hl => ?_)
  refine lv_aload_n hx hb dL_law_509 rfl (lv_at hl 4 rfl) ?_
  refine k_callV0 (As := []) (c_thrown hz2) S hh (cwV 0 hts gL_law_X6_thrown rfl rfl rfl (by decide +kernel) ⟨(Nat.le_of_ble_eq_true rfl), (Nat.le_of_ble_eq_true rfl)⟩) hz2.1.1 hz2.1.2 (q := (RX6, TX6, 22)) rfl rfl rfl hl.1 rfl (Nat.le_of_ble_eq_true rfl) dL_law_510 ⟨(by show _ ≤ 601024; omega), (by show _ ≤ 7293034; omega)⟩ (fun v L1 f1 H locs hp hh => ?_)
  obtain ⟨rfl, hL9, hf9⟩ := hp
  subst hL9; subst hf9
  refine lv_iload hx hb dL_law_513 (lv_at hl 1 rfl) ?_
  refine lv_icmp_eq (tgt := 520) hx hb dL_law_515 (by decide) (fun _ => ?_) (fun q => absurd (by rw [e5]; exact heq.1.symm) q)
  refine lv_iload hx hb dL_law_520 (lv_at hl 1 rfl) ?_
  refine lv_if_ne (tgt := 537) hx hb dL_law_522 (by decide) (fun _ => ?_) (fun q5 => ?_)
  · refine lv_goto (tgt := 1126) hx hb dL_law_537 (by decide) ?_
    refine W.widen (k := 30 + 6 * (n + 1)) (n := 2000 + 3016 * (n + 1)) (by omega) (by omega) ?_
    exact kk _ _ _ _ _ _ _ hh hI2 (lv_sub hl [2, 3, 4, 5, 6] rfl)
  · have q5 : k5 = 0 := by first | exact q5 | exact Classical.not_not.mp q5
    have hT0 := e5.symm.trans q5
    have hcmp : g1 (0 : Int32).toNatClampNeg = k6.toInt64 := by rw [e6, ← (heq.2.2 hT0)]; exact hQ hT0
    refine lv_aload_n hx hb dL_law_525 rfl (lv_at hl 5 rfl) ?_
    refine lv_iconst (v := 0) hx hb dL_law_526 (by decide) ?_
    refine h_lald hx hb hh hI2.2.2.1.1 hg2 (show vp_in 0 1 by unfold vp_in; decide) dL_law_527 ?_
    refine lv_iload hx hb dL_law_528 (lv_at hl 0 rfl) ?_
    refine lv_i2l hx hb dL_law_530 rfl ?_
    refine W.lcmp hx hb dL_law_531 ?_
    refine lv_if_eq (tgt := 537) hx hb dL_law_532 (by decide) (fun _ => ?_) (fun z => absurd ((lg_cmp_eq _ _).mpr hcmp) z)
    refine lv_goto (tgt := 1126) hx hb dL_law_537 (by decide) ?_
    refine W.widen (k := 30 + 6 * (n + 1)) (n := 2000 + 3016 * (n + 1)) (by omega) (by omega) ?_
    exact kk _ _ _ _ _ _ _ hh hI2 (lv_sub hl [2, 3, 4, 5, 6] rfl)

set_option maxRecDepth 100000 in
set_option maxHeartbeats 4000000 in
theorem law_hours {p : Program} {l : Launch} {e : Env} {s : State} {m : MethodId} {below : List Frame} {meth : Method} {c : Code} {H : Heap} {locs : List Loc} {Q : State → Prop} {κ : Kx} {L : List Nat} {f : Nat → va_E} {ls : Array Slot} {b Ln x xm o n : Nat} {xs : Nat → Int32} {bb N P : Nat → Nat} {C M : MS} (hst : l.stackTraces = false) (S : CallFix p m c cL_law 7 s #[Value.ref b] wsL_law RL) (hX : va_X b Ln xs s s.heap) (hbl : b < s.heap.size) (hbA : ¬ kA κ b) (hLn : Ln ≤ 2048) (hn4 : 4 * n + 4 ≤ Ln) (hh : HH κ L f s H locs) (hI : LI κ x xm o bb (N, P, C) M n L f) (hl : lv_has ls 7 [(0, .ref b), (1, .ref x), (2, .ref xm), (3, .ref o), (4, .int (nI (4 * n)))]) (kk : LK p l e s m b below meth c Q κ x xm o bb n) : W p l e room_1 s m #[Value.ref b] below meth c H locs (30 + 6 * n) (2000 + 3016 * n) Q (F0 m 540 ls []) := by
  obtain ⟨hx, hb, hml, hown, hts⟩ := id S
  obtain ⟨⟨a, hca⟩, hzr, ⟨ho, g, hfo⟩, hrel⟩ := hI
  have hca : CA κ x a N P C L f := hca
  have hz : ZC κ x a N P C L f L f := ⟨hca, Fr.rf⟩
  obtain ⟨⟨hw, hj, hp, hpt, hck⟩, hc, h3n, h8, h55, h66⟩ := hrel.pl
  obtain ⟨b0, b1, b2, b3, b4⟩ := hw.1
  have hwf : wfM M (N 0) (N 1) (N 2) (N 3) := hrel.wf
  have hn512 : n < 512 := by omega
  refine lv_aload_n hx hb dL_law_540 rfl (lv_at hl 1 rfl) ?_
  refine lv_aload_n hx hb dL_law_541 rfl (lv_at hl 0 rfl) ?_
  refine lv_iload hx hb dL_law_542 (lv_at hl 4 rfl) ?_
  refine lv_iconst (v := 1) hx hb dL_law_544 (by decide) ?_
  refine lv_iadd hx hb dL_law_545 ?_
  refine l_sld S hX hbl hbA hh (nI_1 (4 * n)) (by omega) hLn rfl dL_law_546 ?_
  refine lv_aload_n hx hb dL_law_547 rfl (lv_at hl 3 rfl) ?_
  refine k_callSX0 (As := [.ref x, .int (xs (4 * n + 1)), .ref o]) (k_L_hours hst hz hw ho hfo (v := (xs (4 * n + 1)))) S hh (vx_cwSW 3 hts gL_law_L_hours rfl rfl rfl (by decide +kernel) ⟨(Nat.le_of_ble_eq_true rfl), (Nat.le_of_ble_eq_true rfl)⟩) rfl hl.1 rfl (Nat.le_of_ble_eq_true rfl) dL_law_548 ⟨(by show _ ≤ 601024; omega), (by show _ ≤ 7293034; omega)⟩ (fun v L1 f1 H locs hp hh => ?_)
  obtain ⟨rfl, ⟨a1, hca1⟩, hFr, ho1, g1, hg1, hQ⟩ := hp
  have hzr1 := hzr.keepO hfo hFr
  have heq := hours_call hrel (v := (xs (4 * n + 1)))
  refine lv_topi (fun k5 e5 => ?_)
  refine lv_istore (lv' := [(5, .int k5), (0, .ref b), (1, .ref x), (2, .ref xm), (3, .ref o), (4, .int (nI (4 * n)))]) hx hb dL_law_551 hl (by decide) rfl (fun ls hl => ?_)
  refine lv_aload_n hx hb dL_law_553 rfl (lv_at hl 3 rfl) ?_
  refine lv_aload_n hx hb dL_law_554 rfl (lv_at hl 1 rfl) ?_
  refine lv_iload hx hb dL_law_555 (lv_at hl 5 rfl) ?_
  refine lv_iconst (v := 1) hx hb dL_law_557 (by decide) ?_
  refine lv_iadd hx hb dL_law_558 ?_
  refine l_sld S hX hbl hbA hh (nI_1 (4 * n)) (by omega) hLn rfl dL_law_559 ?_
  refine k_callV0 (As := [.int (xs (4 * n + 1))]) (c_hours hzr1 hwf (x := (xs (4 * n + 1)))) S hh (cwV 1 hts gL_law_X6_hours rfl rfl rfl (by decide +kernel) ⟨(Nat.le_of_ble_eq_true rfl), (Nat.le_of_ble_eq_true rfl)⟩) hzr1.1.1 hzr1.1.2 (q := (RX6, TX6, 22)) rfl rfl rfl hl.1 rfl (Nat.le_of_ble_eq_true rfl) dL_law_560 ⟨(by show _ ≤ 601024; omega), (by show _ ≤ 7293034; omega)⟩ (fun v L2 f2 H locs hp hh => ?_)
  obtain ⟨rfl, hL2, hz2⟩ := hp
  subst hL2
  obtain ⟨hI2, hg2⟩ := LI.next hca1 hz2 ho1 hg1 heq.2.1
  refine lv_topi (fun k6 e6 => ?_)
  refine lv_istore (lv' := [(6, .int k6), (5, .int k5), (0, .ref b), (1, .ref x), (2, .ref xm), (3, .ref o), (4, .int (nI (4 * n)))]) hx hb dL_law_563 hl (by decide) rfl (fun ls hl => ?_)
  refine lv_aload_n hx hb dL_law_565 rfl (lv_at hl 4 rfl) ?_
  refine k_callV0 (As := []) (c_thrown hz2) S hh (cwV 0 hts gL_law_X6_thrown rfl rfl rfl (by decide +kernel) ⟨(Nat.le_of_ble_eq_true rfl), (Nat.le_of_ble_eq_true rfl)⟩) hz2.1.1 hz2.1.2 (q := (RX6, TX6, 22)) rfl rfl rfl hl.1 rfl (Nat.le_of_ble_eq_true rfl) dL_law_566 ⟨(by show _ ≤ 601024; omega), (by show _ ≤ 7293034; omega)⟩ (fun v L1 f1 H locs hp hh => ?_)
  obtain ⟨rfl, hL9, hf9⟩ := hp
  subst hL9; subst hf9
  refine lv_iload hx hb dL_law_569 (lv_at hl 1 rfl) ?_
  refine lv_icmp_eq (tgt := 576) hx hb dL_law_571 (by decide) (fun _ => ?_) (fun q => absurd (by rw [e5]; exact heq.1.symm) q)
  refine lv_iload hx hb dL_law_576 (lv_at hl 1 rfl) ?_
  refine lv_if_ne (tgt := 593) hx hb dL_law_578 (by decide) (fun _ => ?_) (fun q5 => ?_)
  · refine lv_goto (tgt := 1126) hx hb dL_law_593 (by decide) ?_
    refine W.widen (k := 30 + 6 * (n + 1)) (n := 2000 + 3016 * (n + 1)) (by omega) (by omega) ?_
    exact kk _ _ _ _ _ _ _ hh hI2 (lv_sub hl [2, 3, 4, 5, 6] rfl)
  · have q5 : k5 = 0 := by first | exact q5 | exact Classical.not_not.mp q5
    have hT0 := e5.symm.trans q5
    have hcmp : g1 (0 : Int32).toNatClampNeg = k6.toInt64 := by rw [e6, ← (heq.2.2 hT0)]; exact hQ hT0
    refine lv_aload_n hx hb dL_law_581 rfl (lv_at hl 5 rfl) ?_
    refine lv_iconst (v := 0) hx hb dL_law_582 (by decide) ?_
    refine h_lald hx hb hh hI2.2.2.1.1 hg2 (show vp_in 0 1 by unfold vp_in; decide) dL_law_583 ?_
    refine lv_iload hx hb dL_law_584 (lv_at hl 0 rfl) ?_
    refine lv_i2l hx hb dL_law_586 rfl ?_
    refine W.lcmp hx hb dL_law_587 ?_
    refine lv_if_eq (tgt := 593) hx hb dL_law_588 (by decide) (fun _ => ?_) (fun z => absurd ((lg_cmp_eq _ _).mpr hcmp) z)
    refine lv_goto (tgt := 1126) hx hb dL_law_593 (by decide) ?_
    refine W.widen (k := 30 + 6 * (n + 1)) (n := 2000 + 3016 * (n + 1)) (by omega) (by omega) ?_
    exact kk _ _ _ _ _ _ _ hh hI2 (lv_sub hl [2, 3, 4, 5, 6] rfl)

set_option maxRecDepth 100000 in
set_option maxHeartbeats 4000000 in
theorem law_clock {p : Program} {l : Launch} {e : Env} {s : State} {m : MethodId} {below : List Frame} {meth : Method} {c : Code} {H : Heap} {locs : List Loc} {Q : State → Prop} {κ : Kx} {L : List Nat} {f : Nat → va_E} {ls : Array Slot} {b Ln x xm o n : Nat} {xs : Nat → Int32} {bb N P : Nat → Nat} {C M : MS} (hst : l.stackTraces = false) (S : CallFix p m c cL_law 7 s #[Value.ref b] wsL_law RL) (hX : va_X b Ln xs s s.heap) (hbl : b < s.heap.size) (hbA : ¬ kA κ b) (hLn : Ln ≤ 2048) (hn4 : 4 * n + 4 ≤ Ln) (hh : HH κ L f s H locs) (hI : LI κ x xm o bb (N, P, C) M n L f) (hl : lv_has ls 7 [(0, .ref b), (1, .ref x), (2, .ref xm), (3, .ref o), (4, .int (nI (4 * n)))]) (kk : LK p l e s m b below meth c Q κ x xm o bb n) : W p l e room_1 s m #[Value.ref b] below meth c H locs (30 + 6 * n) (2000 + 3016 * n) Q (F0 m 596 ls []) := by
  obtain ⟨hx, hb, hml, hown, hts⟩ := id S
  obtain ⟨⟨a, hca⟩, hzr, ⟨ho, g, hfo⟩, hrel⟩ := hI
  have hca : CA κ x a N P C L f := hca
  have hz : ZC κ x a N P C L f L f := ⟨hca, Fr.rf⟩
  obtain ⟨⟨hw, hj, hp, hpt, hck⟩, hc, h3n, h8, h55, h66⟩ := hrel.pl
  obtain ⟨b0, b1, b2, b3, b4⟩ := hw.1
  have hwf : wfM M (N 0) (N 1) (N 2) (N 3) := hrel.wf
  have hn512 : n < 512 := by omega
  refine lv_aload_n hx hb dL_law_596 rfl (lv_at hl 1 rfl) ?_
  refine k_callV0 (As := []) (g_clock hz) S hh (cwV 0 hts gL_law_X5_clock rfl rfl rfl (by decide +kernel) ⟨(Nat.le_of_ble_eq_true rfl), (Nat.le_of_ble_eq_true rfl)⟩) hz.1.1.1 hz.1.1.2 (q := (RX5, TX5, 7)) rfl rfl rfl hl.1 rfl (Nat.le_of_ble_eq_true rfl) dL_law_597 ⟨(by show _ ≤ 601024; omega), (by show _ ≤ 7293034; omega)⟩ (fun v L1 f1 H locs hp hh => ?_)
  obtain ⟨rfl, hL9, hf9⟩ := hp
  subst hL9; subst hf9
  refine lv_aload_n hx hb dL_law_600 rfl (lv_at hl 2 rfl) ?_
  refine k_callV0 (As := []) (c_clock hzr) S hh (cwV 0 hts gL_law_X6_clock rfl rfl rfl (by decide +kernel) ⟨(Nat.le_of_ble_eq_true rfl), (Nat.le_of_ble_eq_true rfl)⟩) hzr.1.1 hzr.1.2 (q := (RX6, TX6, 22)) rfl rfl rfl hl.1 rfl (Nat.le_of_ble_eq_true rfl) dL_law_601 ⟨(by show _ ≤ 601024; omega), (by show _ ≤ 7293034; omega)⟩ (fun v L2 f2 H locs hp hh => ?_)
  obtain ⟨rfl, hL2, hz2⟩ := hp
  subst hL2
  obtain ⟨hI2, -⟩ := LI.next (S1 := (N, P, C)) (o := o) hca hz2 ho hfo ((hrel.thr 0).up)
  refine lv_icmp_eq (tgt := 1126) hx hb dL_law_604 (by decide) (fun _ => ?_) (fun q => absurd hck q)
  refine W.widen (k := 30 + 6 * (n + 1)) (n := 2000 + 3016 * (n + 1)) (by omega) (by omega) ?_
  exact kk _ _ _ _ _ _ _ hh hI2 hl

set_option maxRecDepth 100000 in
set_option maxHeartbeats 4000000 in
theorem law_coalIn {p : Program} {l : Launch} {e : Env} {s : State} {m : MethodId} {below : List Frame} {meth : Method} {c : Code} {H : Heap} {locs : List Loc} {Q : State → Prop} {κ : Kx} {L : List Nat} {f : Nat → va_E} {ls : Array Slot} {b Ln x xm o n : Nat} {xs : Nat → Int32} {bb N P : Nat → Nat} {C M : MS} (hst : l.stackTraces = false) (S : CallFix p m c cL_law 7 s #[Value.ref b] wsL_law RL) (hX : va_X b Ln xs s s.heap) (hbl : b < s.heap.size) (hbA : ¬ kA κ b) (hLn : Ln ≤ 2048) (hn4 : 4 * n + 4 ≤ Ln) (hh : HH κ L f s H locs) (hI : LI κ x xm o bb (N, P, C) M n L f) (hl : lv_has ls 7 [(0, .ref b), (1, .ref x), (2, .ref xm), (3, .ref o), (4, .int (nI (4 * n)))]) (kk : LK p l e s m b below meth c Q κ x xm o bb n) : W p l e room_1 s m #[Value.ref b] below meth c H locs (30 + 6 * n) (2000 + 3016 * n) Q (F0 m 609 ls []) := by
  obtain ⟨hx, hb, hml, hown, hts⟩ := id S
  obtain ⟨⟨a, hca⟩, hzr, ⟨ho, g, hfo⟩, hrel⟩ := hI
  have hca : CA κ x a N P C L f := hca
  have hz : ZC κ x a N P C L f L f := ⟨hca, Fr.rf⟩
  obtain ⟨⟨hw, hj, hp, hpt, hck⟩, hc, h3n, h8, h55, h66⟩ := hrel.pl
  obtain ⟨b0, b1, b2, b3, b4⟩ := hw.1
  have hwf : wfM M (N 0) (N 1) (N 2) (N 3) := hrel.wf
  have hn512 : n < 512 := by omega
  refine lv_aload_n hx hb dL_law_609 rfl (lv_at hl 1 rfl) ?_
  refine lv_aload_n hx hb dL_law_610 rfl (lv_at hl 0 rfl) ?_
  refine lv_iload hx hb dL_law_611 (lv_at hl 4 rfl) ?_
  refine lv_iconst (v := 1) hx hb dL_law_613 (by decide) ?_
  refine lv_iadd hx hb dL_law_614 ?_
  refine l_sld S hX hbl hbA hh (nI_1 (4 * n)) (by omega) hLn rfl dL_law_615 ?_
  refine lv_aload_n hx hb dL_law_616 rfl (lv_at hl 3 rfl) ?_
  refine k_callSX0 (As := [.ref x, .int (xs (4 * n + 1)), .ref o]) (k_L_coalIn hst hz hw ho hfo (w := (xs (4 * n + 1)))) S hh (vx_cwSW 3 hts gL_law_L_coalIn rfl rfl rfl (by decide +kernel) ⟨(Nat.le_of_ble_eq_true rfl), (Nat.le_of_ble_eq_true rfl)⟩) rfl hl.1 rfl (Nat.le_of_ble_eq_true rfl) dL_law_617 ⟨(by show _ ≤ 601024; omega), (by show _ ≤ 7293034; omega)⟩ (fun v L1 f1 H locs hp hh => ?_)
  obtain ⟨rfl, ⟨a1, hca1⟩, hFr, ho1, g1, hg1, hQ⟩ := hp
  have hzr1 := hzr.keepO hfo hFr
  have heq := told_eq hrel (w := (xs (4 * n + 1))) hc.1
  have hans := told_ans (C := C) (M := M) (w := (xs (4 * n + 1))) (f := 0) hc.1 (hj.1.1 0 rfl)
  refine lv_topi (fun k5 e5 => ?_)
  refine lv_istore (lv' := [(5, .int k5), (0, .ref b), (1, .ref x), (2, .ref xm), (3, .ref o), (4, .int (nI (4 * n)))]) hx hb dL_law_620 hl (by decide) rfl (fun ls hl => ?_)
  refine lv_aload_n hx hb dL_law_622 rfl (lv_at hl 3 rfl) ?_
  refine lv_aload_n hx hb dL_law_623 rfl (lv_at hl 1 rfl) ?_
  refine lv_iload hx hb dL_law_624 (lv_at hl 5 rfl) ?_
  refine lv_iconst (v := 1) hx hb dL_law_626 (by decide) ?_
  refine lv_iadd hx hb dL_law_627 ?_
  refine l_sld S hX hbl hbA hh (nI_1 (4 * n)) (by omega) hLn rfl dL_law_628 ?_
  refine k_callV0 (As := [.int (xs (4 * n + 1))]) (c_coalIn hzr1 hc.1 b0 (x := (xs (4 * n + 1)))) S hh (cwV 1 hts gL_law_X6_coalIn rfl rfl rfl (by decide +kernel) ⟨(Nat.le_of_ble_eq_true rfl), (Nat.le_of_ble_eq_true rfl)⟩) hzr1.1.1 hzr1.1.2 (q := (RX6, TX6, 22)) rfl rfl rfl hl.1 rfl (Nat.le_of_ble_eq_true rfl) dL_law_629 ⟨(by show _ ≤ 601024; omega), (by show _ ≤ 7293034; omega)⟩ (fun v L2 f2 H locs hp hh => ?_)
  obtain ⟨rfl, hL2, hz2⟩ := hp
  subst hL2
  obtain ⟨hI2, hg2⟩ := LI.next hca1 hz2 ho1 hg1 heq.2
  refine lv_topi (fun k6 e6 => ?_)
  refine lv_istore (lv' := [(6, .int k6), (5, .int k5), (0, .ref b), (1, .ref x), (2, .ref xm), (3, .ref o), (4, .int (nI (4 * n)))]) hx hb dL_law_632 hl (by decide) rfl (fun ls hl => ?_)
  refine lv_aload_n hx hb dL_law_634 rfl (lv_at hl 4 rfl) ?_
  refine k_callV0 (As := []) (c_thrown hz2) S hh (cwV 0 hts gL_law_X6_thrown rfl rfl rfl (by decide +kernel) ⟨(Nat.le_of_ble_eq_true rfl), (Nat.le_of_ble_eq_true rfl)⟩) hz2.1.1 hz2.1.2 (q := (RX6, TX6, 22)) rfl rfl rfl hl.1 rfl (Nat.le_of_ble_eq_true rfl) dL_law_635 ⟨(by show _ ≤ 601024; omega), (by show _ ≤ 7293034; omega)⟩ (fun v L1 f1 H locs hp hh => ?_)
  obtain ⟨rfl, hL9, hf9⟩ := hp
  subst hL9; subst hf9
  refine lv_iload hx hb dL_law_638 (lv_at hl 1 rfl) ?_
  refine lv_icmp_eq (tgt := 645) hx hb dL_law_640 (by decide) (fun _ => ?_) (fun q => absurd (by rw [e5]; exact heq.1.symm) q)
  refine lv_iload hx hb dL_law_645 (lv_at hl 1 rfl) ?_
  refine lv_if_ne (tgt := 662) hx hb dL_law_647 (by decide) (fun _ => ?_) (fun q5 => ?_)
  · refine lv_goto (tgt := 1126) hx hb dL_law_662 (by decide) ?_
    refine W.widen (k := 30 + 6 * (n + 1)) (n := 2000 + 3016 * (n + 1)) (by omega) (by omega) ?_
    exact kk _ _ _ _ _ _ _ hh hI2 (lv_sub hl [2, 3, 4, 5, 6] rfl)
  · have q5 : k5 = 0 := by first | exact q5 | exact Classical.not_not.mp q5
    have hT0 := e5.symm.trans q5
    have hcmp : g1 (0 : Int32).toNatClampNeg = k6.toInt64 := by rw [e6, ← (hans hT0)]; exact hQ hT0
    refine lv_aload_n hx hb dL_law_650 rfl (lv_at hl 5 rfl) ?_
    refine lv_iconst (v := 0) hx hb dL_law_651 (by decide) ?_
    refine h_lald hx hb hh hI2.2.2.1.1 hg2 (show vp_in 0 1 by unfold vp_in; decide) dL_law_652 ?_
    refine lv_iload hx hb dL_law_653 (lv_at hl 0 rfl) ?_
    refine lv_i2l hx hb dL_law_655 rfl ?_
    refine W.lcmp hx hb dL_law_656 ?_
    refine lv_if_eq (tgt := 662) hx hb dL_law_657 (by decide) (fun _ => ?_) (fun z => absurd ((lg_cmp_eq _ _).mpr hcmp) z)
    refine lv_goto (tgt := 1126) hx hb dL_law_662 (by decide) ?_
    refine W.widen (k := 30 + 6 * (n + 1)) (n := 2000 + 3016 * (n + 1)) (by omega) (by omega) ?_
    exact kk _ _ _ _ _ _ _ hh hI2 (lv_sub hl [2, 3, 4, 5, 6] rfl)

set_option maxRecDepth 100000 in
set_option maxHeartbeats 4000000 in
theorem law_placeOf {p : Program} {l : Launch} {e : Env} {s : State} {m : MethodId} {below : List Frame} {meth : Method} {c : Code} {H : Heap} {locs : List Loc} {Q : State → Prop} {κ : Kx} {L : List Nat} {f : Nat → va_E} {ls : Array Slot} {b Ln x xm o n : Nat} {xs : Nat → Int32} {bb N P : Nat → Nat} {C M : MS} (hst : l.stackTraces = false) (S : CallFix p m c cL_law 7 s #[Value.ref b] wsL_law RL) (hX : va_X b Ln xs s s.heap) (hbl : b < s.heap.size) (hbA : ¬ kA κ b) (hLn : Ln ≤ 2048) (hn4 : 4 * n + 4 ≤ Ln) (hh : HH κ L f s H locs) (hI : LI κ x xm o bb (N, P, C) M n L f) (hl : lv_has ls 7 [(0, .ref b), (1, .ref x), (2, .ref xm), (3, .ref o), (4, .int (nI (4 * n)))]) (kk : LK p l e s m b below meth c Q κ x xm o bb n) : W p l e room_1 s m #[Value.ref b] below meth c H locs (30 + 6 * n) (2000 + 3016 * n) Q (F0 m 665 ls []) := by
  obtain ⟨hx, hb, hml, hown, hts⟩ := id S
  obtain ⟨⟨a, hca⟩, hzr, ⟨ho, g, hfo⟩, hrel⟩ := hI
  have hca : CA κ x a N P C L f := hca
  have hz : ZC κ x a N P C L f L f := ⟨hca, Fr.rf⟩
  obtain ⟨⟨hw, hj, hp, hpt, hck⟩, hc, h3n, h8, h55, h66⟩ := hrel.pl
  obtain ⟨b0, b1, b2, b3, b4⟩ := hw.1
  have hwf : wfM M (N 0) (N 1) (N 2) (N 3) := hrel.wf
  have hn512 : n < 512 := by omega
  refine lv_aload_n hx hb dL_law_665 rfl (lv_at hl 1 rfl) ?_
  refine lv_aload_n hx hb dL_law_666 rfl (lv_at hl 0 rfl) ?_
  refine lv_iload hx hb dL_law_667 (lv_at hl 4 rfl) ?_
  refine lv_iconst (v := 1) hx hb dL_law_669 (by decide) ?_
  refine lv_iadd hx hb dL_law_670 ?_
  refine l_sld S hX hbl hbA hh (nI_1 (4 * n)) (by omega) hLn rfl dL_law_671 ?_
  refine lv_aload_n hx hb dL_law_672 rfl (lv_at hl 3 rfl) ?_
  refine k_callSX0 (As := [.ref x, .int (xs (4 * n + 1)), .ref o]) (k_L_placeOf hst hz hw ho hfo (w := (xs (4 * n + 1)))) S hh (vx_cwSW 3 hts gL_law_L_placeOf rfl rfl rfl (by decide +kernel) ⟨(Nat.le_of_ble_eq_true rfl), (Nat.le_of_ble_eq_true rfl)⟩) rfl hl.1 rfl (Nat.le_of_ble_eq_true rfl) dL_law_673 ⟨(by show _ ≤ 601024; omega), (by show _ ≤ 7293034; omega)⟩ (fun v L1 f1 H locs hp hh => ?_)
  obtain ⟨rfl, ⟨a1, hca1⟩, hFr, ho1, g1, hg1, hQ⟩ := hp
  have hzr1 := hzr.keepO hfo hFr
  have heq := told_eq hrel (w := (xs (4 * n + 1))) hc.2.1
  have hans := told_ans (C := C) (M := M) (w := (xs (4 * n + 1))) (f := 4) hc.2.1 (hj.1.1 4 rfl)
  refine lv_topi (fun k5 e5 => ?_)
  refine lv_istore (lv' := [(5, .int k5), (0, .ref b), (1, .ref x), (2, .ref xm), (3, .ref o), (4, .int (nI (4 * n)))]) hx hb dL_law_676 hl (by decide) rfl (fun ls hl => ?_)
  refine lv_aload_n hx hb dL_law_678 rfl (lv_at hl 3 rfl) ?_
  refine lv_aload_n hx hb dL_law_679 rfl (lv_at hl 1 rfl) ?_
  refine lv_iload hx hb dL_law_680 (lv_at hl 5 rfl) ?_
  refine lv_iconst (v := 1) hx hb dL_law_682 (by decide) ?_
  refine lv_iadd hx hb dL_law_683 ?_
  refine l_sld S hX hbl hbA hh (nI_1 (4 * n)) (by omega) hLn rfl dL_law_684 ?_
  refine k_callV0 (As := [.int (xs (4 * n + 1))]) (c_placeOf hzr1 hc.2.1 b1 (x := (xs (4 * n + 1)))) S hh (cwV 1 hts gL_law_X6_placeOf rfl rfl rfl (by decide +kernel) ⟨(Nat.le_of_ble_eq_true rfl), (Nat.le_of_ble_eq_true rfl)⟩) hzr1.1.1 hzr1.1.2 (q := (RX6, TX6, 22)) rfl rfl rfl hl.1 rfl (Nat.le_of_ble_eq_true rfl) dL_law_685 ⟨(by show _ ≤ 601024; omega), (by show _ ≤ 7293034; omega)⟩ (fun v L2 f2 H locs hp hh => ?_)
  obtain ⟨rfl, hL2, hz2⟩ := hp
  subst hL2
  obtain ⟨hI2, hg2⟩ := LI.next hca1 hz2 ho1 hg1 heq.2
  refine lv_topi (fun k6 e6 => ?_)
  refine lv_istore (lv' := [(6, .int k6), (5, .int k5), (0, .ref b), (1, .ref x), (2, .ref xm), (3, .ref o), (4, .int (nI (4 * n)))]) hx hb dL_law_688 hl (by decide) rfl (fun ls hl => ?_)
  refine lv_aload_n hx hb dL_law_690 rfl (lv_at hl 4 rfl) ?_
  refine k_callV0 (As := []) (c_thrown hz2) S hh (cwV 0 hts gL_law_X6_thrown rfl rfl rfl (by decide +kernel) ⟨(Nat.le_of_ble_eq_true rfl), (Nat.le_of_ble_eq_true rfl)⟩) hz2.1.1 hz2.1.2 (q := (RX6, TX6, 22)) rfl rfl rfl hl.1 rfl (Nat.le_of_ble_eq_true rfl) dL_law_691 ⟨(by show _ ≤ 601024; omega), (by show _ ≤ 7293034; omega)⟩ (fun v L1 f1 H locs hp hh => ?_)
  obtain ⟨rfl, hL9, hf9⟩ := hp
  subst hL9; subst hf9
  refine lv_iload hx hb dL_law_694 (lv_at hl 1 rfl) ?_
  refine lv_icmp_eq (tgt := 701) hx hb dL_law_696 (by decide) (fun _ => ?_) (fun q => absurd (by rw [e5]; exact heq.1.symm) q)
  refine lv_iload hx hb dL_law_701 (lv_at hl 1 rfl) ?_
  refine lv_if_ne (tgt := 718) hx hb dL_law_703 (by decide) (fun _ => ?_) (fun q5 => ?_)
  · refine lv_goto (tgt := 1126) hx hb dL_law_718 (by decide) ?_
    refine W.widen (k := 30 + 6 * (n + 1)) (n := 2000 + 3016 * (n + 1)) (by omega) (by omega) ?_
    exact kk _ _ _ _ _ _ _ hh hI2 (lv_sub hl [2, 3, 4, 5, 6] rfl)
  · have q5 : k5 = 0 := by first | exact q5 | exact Classical.not_not.mp q5
    have hT0 := e5.symm.trans q5
    have hcmp : g1 (0 : Int32).toNatClampNeg = k6.toInt64 := by rw [e6, ← (hans hT0)]; exact hQ hT0
    refine lv_aload_n hx hb dL_law_706 rfl (lv_at hl 5 rfl) ?_
    refine lv_iconst (v := 0) hx hb dL_law_707 (by decide) ?_
    refine h_lald hx hb hh hI2.2.2.1.1 hg2 (show vp_in 0 1 by unfold vp_in; decide) dL_law_708 ?_
    refine lv_iload hx hb dL_law_709 (lv_at hl 0 rfl) ?_
    refine lv_i2l hx hb dL_law_711 rfl ?_
    refine W.lcmp hx hb dL_law_712 ?_
    refine lv_if_eq (tgt := 718) hx hb dL_law_713 (by decide) (fun _ => ?_) (fun z => absurd ((lg_cmp_eq _ _).mpr hcmp) z)
    refine lv_goto (tgt := 1126) hx hb dL_law_718 (by decide) ?_
    refine W.widen (k := 30 + 6 * (n + 1)) (n := 2000 + 3016 * (n + 1)) (by omega) (by omega) ?_
    exact kk _ _ _ _ _ _ _ hh hI2 (lv_sub hl [2, 3, 4, 5, 6] rfl)

set_option maxRecDepth 100000 in
set_option maxHeartbeats 4000000 in
theorem law_loadOf {p : Program} {l : Launch} {e : Env} {s : State} {m : MethodId} {below : List Frame} {meth : Method} {c : Code} {H : Heap} {locs : List Loc} {Q : State → Prop} {κ : Kx} {L : List Nat} {f : Nat → va_E} {ls : Array Slot} {b Ln x xm o n : Nat} {xs : Nat → Int32} {bb N P : Nat → Nat} {C M : MS} (hst : l.stackTraces = false) (S : CallFix p m c cL_law 7 s #[Value.ref b] wsL_law RL) (hX : va_X b Ln xs s s.heap) (hbl : b < s.heap.size) (hbA : ¬ kA κ b) (hLn : Ln ≤ 2048) (hn4 : 4 * n + 4 ≤ Ln) (hh : HH κ L f s H locs) (hI : LI κ x xm o bb (N, P, C) M n L f) (hl : lv_has ls 7 [(0, .ref b), (1, .ref x), (2, .ref xm), (3, .ref o), (4, .int (nI (4 * n)))]) (kk : LK p l e s m b below meth c Q κ x xm o bb n) : W p l e room_1 s m #[Value.ref b] below meth c H locs (30 + 6 * n) (2000 + 3016 * n) Q (F0 m 721 ls []) := by
  obtain ⟨hx, hb, hml, hown, hts⟩ := id S
  obtain ⟨⟨a, hca⟩, hzr, ⟨ho, g, hfo⟩, hrel⟩ := hI
  have hca : CA κ x a N P C L f := hca
  have hz : ZC κ x a N P C L f L f := ⟨hca, Fr.rf⟩
  obtain ⟨⟨hw, hj, hp, hpt, hck⟩, hc, h3n, h8, h55, h66⟩ := hrel.pl
  obtain ⟨b0, b1, b2, b3, b4⟩ := hw.1
  have hwf : wfM M (N 0) (N 1) (N 2) (N 3) := hrel.wf
  have hn512 : n < 512 := by omega
  refine lv_aload_n hx hb dL_law_721 rfl (lv_at hl 1 rfl) ?_
  refine lv_aload_n hx hb dL_law_722 rfl (lv_at hl 0 rfl) ?_
  refine lv_iload hx hb dL_law_723 (lv_at hl 4 rfl) ?_
  refine lv_iconst (v := 1) hx hb dL_law_725 (by decide) ?_
  refine lv_iadd hx hb dL_law_726 ?_
  refine l_sld S hX hbl hbA hh (nI_1 (4 * n)) (by omega) hLn rfl dL_law_727 ?_
  refine lv_aload_n hx hb dL_law_728 rfl (lv_at hl 3 rfl) ?_
  refine k_callSX0 (As := [.ref x, .int (xs (4 * n + 1)), .ref o]) (k_L_loadOf hst hz hw ho hfo (w := (xs (4 * n + 1)))) S hh (vx_cwSW 3 hts gL_law_L_loadOf rfl rfl rfl (by decide +kernel) ⟨(Nat.le_of_ble_eq_true rfl), (Nat.le_of_ble_eq_true rfl)⟩) rfl hl.1 rfl (Nat.le_of_ble_eq_true rfl) dL_law_729 ⟨(by show _ ≤ 601024; omega), (by show _ ≤ 7293034; omega)⟩ (fun v L1 f1 H locs hp hh => ?_)
  obtain ⟨rfl, ⟨a1, hca1⟩, hFr, ho1, g1, hg1, hQ⟩ := hp
  have hzr1 := hzr.keepO hfo hFr
  have heq := told_eq hrel (w := (xs (4 * n + 1))) hc.2.1
  have hans := told_ans (C := C) (M := M) (w := (xs (4 * n + 1))) (f := 2) hc.2.1 (hj.1.1 2 rfl)
  refine lv_topi (fun k5 e5 => ?_)
  refine lv_istore (lv' := [(5, .int k5), (0, .ref b), (1, .ref x), (2, .ref xm), (3, .ref o), (4, .int (nI (4 * n)))]) hx hb dL_law_732 hl (by decide) rfl (fun ls hl => ?_)
  refine lv_aload_n hx hb dL_law_734 rfl (lv_at hl 3 rfl) ?_
  refine lv_aload_n hx hb dL_law_735 rfl (lv_at hl 1 rfl) ?_
  refine lv_iload hx hb dL_law_736 (lv_at hl 5 rfl) ?_
  refine lv_iconst (v := 1) hx hb dL_law_738 (by decide) ?_
  refine lv_iadd hx hb dL_law_739 ?_
  refine l_sld S hX hbl hbA hh (nI_1 (4 * n)) (by omega) hLn rfl dL_law_740 ?_
  refine k_callV0 (As := [.int (xs (4 * n + 1))]) (c_loadOf hzr1 hc.2.1 b1 (x := (xs (4 * n + 1)))) S hh (cwV 1 hts gL_law_X6_loadOf rfl rfl rfl (by decide +kernel) ⟨(Nat.le_of_ble_eq_true rfl), (Nat.le_of_ble_eq_true rfl)⟩) hzr1.1.1 hzr1.1.2 (q := (RX6, TX6, 22)) rfl rfl rfl hl.1 rfl (Nat.le_of_ble_eq_true rfl) dL_law_741 ⟨(by show _ ≤ 601024; omega), (by show _ ≤ 7293034; omega)⟩ (fun v L2 f2 H locs hp hh => ?_)
  obtain ⟨rfl, hL2, hz2⟩ := hp
  subst hL2
  obtain ⟨hI2, hg2⟩ := LI.next hca1 hz2 ho1 hg1 heq.2
  refine lv_topi (fun k6 e6 => ?_)
  refine lv_istore (lv' := [(6, .int k6), (5, .int k5), (0, .ref b), (1, .ref x), (2, .ref xm), (3, .ref o), (4, .int (nI (4 * n)))]) hx hb dL_law_744 hl (by decide) rfl (fun ls hl => ?_)
  refine lv_aload_n hx hb dL_law_746 rfl (lv_at hl 4 rfl) ?_
  refine k_callV0 (As := []) (c_thrown hz2) S hh (cwV 0 hts gL_law_X6_thrown rfl rfl rfl (by decide +kernel) ⟨(Nat.le_of_ble_eq_true rfl), (Nat.le_of_ble_eq_true rfl)⟩) hz2.1.1 hz2.1.2 (q := (RX6, TX6, 22)) rfl rfl rfl hl.1 rfl (Nat.le_of_ble_eq_true rfl) dL_law_747 ⟨(by show _ ≤ 601024; omega), (by show _ ≤ 7293034; omega)⟩ (fun v L1 f1 H locs hp hh => ?_)
  obtain ⟨rfl, hL9, hf9⟩ := hp
  subst hL9; subst hf9
  refine lv_iload hx hb dL_law_750 (lv_at hl 1 rfl) ?_
  refine lv_icmp_eq (tgt := 757) hx hb dL_law_752 (by decide) (fun _ => ?_) (fun q => absurd (by rw [e5]; exact heq.1.symm) q)
  refine lv_iload hx hb dL_law_757 (lv_at hl 1 rfl) ?_
  refine lv_if_ne (tgt := 774) hx hb dL_law_759 (by decide) (fun _ => ?_) (fun q5 => ?_)
  · refine lv_goto (tgt := 1126) hx hb dL_law_774 (by decide) ?_
    refine W.widen (k := 30 + 6 * (n + 1)) (n := 2000 + 3016 * (n + 1)) (by omega) (by omega) ?_
    exact kk _ _ _ _ _ _ _ hh hI2 (lv_sub hl [2, 3, 4, 5, 6] rfl)
  · have q5 : k5 = 0 := by first | exact q5 | exact Classical.not_not.mp q5
    have hT0 := e5.symm.trans q5
    have hcmp : g1 (0 : Int32).toNatClampNeg = k6.toInt64 := by rw [e6, ← (hans hT0)]; exact hQ hT0
    refine lv_aload_n hx hb dL_law_762 rfl (lv_at hl 5 rfl) ?_
    refine lv_iconst (v := 0) hx hb dL_law_763 (by decide) ?_
    refine h_lald hx hb hh hI2.2.2.1.1 hg2 (show vp_in 0 1 by unfold vp_in; decide) dL_law_764 ?_
    refine lv_iload hx hb dL_law_765 (lv_at hl 0 rfl) ?_
    refine lv_i2l hx hb dL_law_767 rfl ?_
    refine W.lcmp hx hb dL_law_768 ?_
    refine lv_if_eq (tgt := 774) hx hb dL_law_769 (by decide) (fun _ => ?_) (fun z => absurd ((lg_cmp_eq _ _).mpr hcmp) z)
    refine lv_goto (tgt := 1126) hx hb dL_law_774 (by decide) ?_
    refine W.widen (k := 30 + 6 * (n + 1)) (n := 2000 + 3016 * (n + 1)) (by omega) (by omega) ?_
    exact kk _ _ _ _ _ _ _ hh hI2 (lv_sub hl [2, 3, 4, 5, 6] rfl)

set_option maxRecDepth 100000 in
set_option maxHeartbeats 4000000 in
theorem law_dustIn {p : Program} {l : Launch} {e : Env} {s : State} {m : MethodId} {below : List Frame} {meth : Method} {c : Code} {H : Heap} {locs : List Loc} {Q : State → Prop} {κ : Kx} {L : List Nat} {f : Nat → va_E} {ls : Array Slot} {b Ln x xm o n : Nat} {xs : Nat → Int32} {bb N P : Nat → Nat} {C M : MS} (hst : l.stackTraces = false) (S : CallFix p m c cL_law 7 s #[Value.ref b] wsL_law RL) (hX : va_X b Ln xs s s.heap) (hbl : b < s.heap.size) (hbA : ¬ kA κ b) (hLn : Ln ≤ 2048) (hn4 : 4 * n + 4 ≤ Ln) (hh : HH κ L f s H locs) (hI : LI κ x xm o bb (N, P, C) M n L f) (hl : lv_has ls 7 [(0, .ref b), (1, .ref x), (2, .ref xm), (3, .ref o), (4, .int (nI (4 * n)))]) (kk : LK p l e s m b below meth c Q κ x xm o bb n) : W p l e room_1 s m #[Value.ref b] below meth c H locs (30 + 6 * n) (2000 + 3016 * n) Q (F0 m 777 ls []) := by
  obtain ⟨hx, hb, hml, hown, hts⟩ := id S
  obtain ⟨⟨a, hca⟩, hzr, ⟨ho, g, hfo⟩, hrel⟩ := hI
  have hca : CA κ x a N P C L f := hca
  have hz : ZC κ x a N P C L f L f := ⟨hca, Fr.rf⟩
  obtain ⟨⟨hw, hj, hp, hpt, hck⟩, hc, h3n, h8, h55, h66⟩ := hrel.pl
  obtain ⟨b0, b1, b2, b3, b4⟩ := hw.1
  have hwf : wfM M (N 0) (N 1) (N 2) (N 3) := hrel.wf
  have hn512 : n < 512 := by omega
  refine lv_aload_n hx hb dL_law_777 rfl (lv_at hl 1 rfl) ?_
  refine lv_aload_n hx hb dL_law_778 rfl (lv_at hl 0 rfl) ?_
  refine lv_iload hx hb dL_law_779 (lv_at hl 4 rfl) ?_
  refine lv_iconst (v := 1) hx hb dL_law_781 (by decide) ?_
  refine lv_iadd hx hb dL_law_782 ?_
  refine l_sld S hX hbl hbA hh (nI_1 (4 * n)) (by omega) hLn rfl dL_law_783 ?_
  refine lv_aload_n hx hb dL_law_784 rfl (lv_at hl 3 rfl) ?_
  refine k_callSX0 (As := [.ref x, .int (xs (4 * n + 1)), .ref o]) (k_L_dustIn hst hz hw ho hfo (w := (xs (4 * n + 1)))) S hh (vx_cwSW 3 hts gL_law_L_dustIn rfl rfl rfl (by decide +kernel) ⟨(Nat.le_of_ble_eq_true rfl), (Nat.le_of_ble_eq_true rfl)⟩) rfl hl.1 rfl (Nat.le_of_ble_eq_true rfl) dL_law_785 ⟨(by show _ ≤ 601024; omega), (by show _ ≤ 7293034; omega)⟩ (fun v L1 f1 H locs hp hh => ?_)
  obtain ⟨rfl, ⟨a1, hca1⟩, hFr, ho1, g1, hg1, hQ⟩ := hp
  have hzr1 := hzr.keepO hfo hFr
  have heq := told_eq hrel (w := (xs (4 * n + 1))) hc.2.1
  have hans := told_ans (C := C) (M := M) (w := (xs (4 * n + 1))) (f := 3) hc.2.1 (hj.1.1 3 rfl)
  refine lv_topi (fun k5 e5 => ?_)
  refine lv_istore (lv' := [(5, .int k5), (0, .ref b), (1, .ref x), (2, .ref xm), (3, .ref o), (4, .int (nI (4 * n)))]) hx hb dL_law_788 hl (by decide) rfl (fun ls hl => ?_)
  refine lv_aload_n hx hb dL_law_790 rfl (lv_at hl 3 rfl) ?_
  refine lv_aload_n hx hb dL_law_791 rfl (lv_at hl 1 rfl) ?_
  refine lv_iload hx hb dL_law_792 (lv_at hl 5 rfl) ?_
  refine lv_iconst (v := 1) hx hb dL_law_794 (by decide) ?_
  refine lv_iadd hx hb dL_law_795 ?_
  refine l_sld S hX hbl hbA hh (nI_1 (4 * n)) (by omega) hLn rfl dL_law_796 ?_
  refine k_callV0 (As := [.int (xs (4 * n + 1))]) (c_dustIn hzr1 hc.2.1 b1 (x := (xs (4 * n + 1)))) S hh (cwV 1 hts gL_law_X6_dustIn rfl rfl rfl (by decide +kernel) ⟨(Nat.le_of_ble_eq_true rfl), (Nat.le_of_ble_eq_true rfl)⟩) hzr1.1.1 hzr1.1.2 (q := (RX6, TX6, 22)) rfl rfl rfl hl.1 rfl (Nat.le_of_ble_eq_true rfl) dL_law_797 ⟨(by show _ ≤ 601024; omega), (by show _ ≤ 7293034; omega)⟩ (fun v L2 f2 H locs hp hh => ?_)
  obtain ⟨rfl, hL2, hz2⟩ := hp
  subst hL2
  obtain ⟨hI2, hg2⟩ := LI.next hca1 hz2 ho1 hg1 heq.2
  refine lv_topi (fun k6 e6 => ?_)
  refine lv_istore (lv' := [(6, .int k6), (5, .int k5), (0, .ref b), (1, .ref x), (2, .ref xm), (3, .ref o), (4, .int (nI (4 * n)))]) hx hb dL_law_800 hl (by decide) rfl (fun ls hl => ?_)
  refine lv_aload_n hx hb dL_law_802 rfl (lv_at hl 4 rfl) ?_
  refine k_callV0 (As := []) (c_thrown hz2) S hh (cwV 0 hts gL_law_X6_thrown rfl rfl rfl (by decide +kernel) ⟨(Nat.le_of_ble_eq_true rfl), (Nat.le_of_ble_eq_true rfl)⟩) hz2.1.1 hz2.1.2 (q := (RX6, TX6, 22)) rfl rfl rfl hl.1 rfl (Nat.le_of_ble_eq_true rfl) dL_law_803 ⟨(by show _ ≤ 601024; omega), (by show _ ≤ 7293034; omega)⟩ (fun v L1 f1 H locs hp hh => ?_)
  obtain ⟨rfl, hL9, hf9⟩ := hp
  subst hL9; subst hf9
  refine lv_iload hx hb dL_law_806 (lv_at hl 1 rfl) ?_
  refine lv_icmp_eq (tgt := 813) hx hb dL_law_808 (by decide) (fun _ => ?_) (fun q => absurd (by rw [e5]; exact heq.1.symm) q)
  refine lv_iload hx hb dL_law_813 (lv_at hl 1 rfl) ?_
  refine lv_if_ne (tgt := 830) hx hb dL_law_815 (by decide) (fun _ => ?_) (fun q5 => ?_)
  · refine lv_goto (tgt := 1126) hx hb dL_law_830 (by decide) ?_
    refine W.widen (k := 30 + 6 * (n + 1)) (n := 2000 + 3016 * (n + 1)) (by omega) (by omega) ?_
    exact kk _ _ _ _ _ _ _ hh hI2 (lv_sub hl [2, 3, 4, 5, 6] rfl)
  · have q5 : k5 = 0 := by first | exact q5 | exact Classical.not_not.mp q5
    have hT0 := e5.symm.trans q5
    have hcmp : g1 (0 : Int32).toNatClampNeg = k6.toInt64 := by rw [e6, ← (hans hT0)]; exact hQ hT0
    refine lv_aload_n hx hb dL_law_818 rfl (lv_at hl 5 rfl) ?_
    refine lv_iconst (v := 0) hx hb dL_law_819 (by decide) ?_
    refine h_lald hx hb hh hI2.2.2.1.1 hg2 (show vp_in 0 1 by unfold vp_in; decide) dL_law_820 ?_
    refine lv_iload hx hb dL_law_821 (lv_at hl 0 rfl) ?_
    refine lv_i2l hx hb dL_law_823 rfl ?_
    refine W.lcmp hx hb dL_law_824 ?_
    refine lv_if_eq (tgt := 830) hx hb dL_law_825 (by decide) (fun _ => ?_) (fun z => absurd ((lg_cmp_eq _ _).mpr hcmp) z)
    refine lv_goto (tgt := 1126) hx hb dL_law_830 (by decide) ?_
    refine W.widen (k := 30 + 6 * (n + 1)) (n := 2000 + 3016 * (n + 1)) (by omega) (by omega) ?_
    exact kk _ _ _ _ _ _ _ hh hI2 (lv_sub hl [2, 3, 4, 5, 6] rfl)

set_option maxRecDepth 100000 in
set_option maxHeartbeats 4000000 in
theorem law_gangOn {p : Program} {l : Launch} {e : Env} {s : State} {m : MethodId} {below : List Frame} {meth : Method} {c : Code} {H : Heap} {locs : List Loc} {Q : State → Prop} {κ : Kx} {L : List Nat} {f : Nat → va_E} {ls : Array Slot} {b Ln x xm o n : Nat} {xs : Nat → Int32} {bb N P : Nat → Nat} {C M : MS} (hst : l.stackTraces = false) (S : CallFix p m c cL_law 7 s #[Value.ref b] wsL_law RL) (hX : va_X b Ln xs s s.heap) (hbl : b < s.heap.size) (hbA : ¬ kA κ b) (hLn : Ln ≤ 2048) (hn4 : 4 * n + 4 ≤ Ln) (hh : HH κ L f s H locs) (hI : LI κ x xm o bb (N, P, C) M n L f) (hl : lv_has ls 7 [(0, .ref b), (1, .ref x), (2, .ref xm), (3, .ref o), (4, .int (nI (4 * n)))]) (kk : LK p l e s m b below meth c Q κ x xm o bb n) : W p l e room_1 s m #[Value.ref b] below meth c H locs (30 + 6 * n) (2000 + 3016 * n) Q (F0 m 833 ls []) := by
  obtain ⟨hx, hb, hml, hown, hts⟩ := id S
  obtain ⟨⟨a, hca⟩, hzr, ⟨ho, g, hfo⟩, hrel⟩ := hI
  have hca : CA κ x a N P C L f := hca
  have hz : ZC κ x a N P C L f L f := ⟨hca, Fr.rf⟩
  obtain ⟨⟨hw, hj, hp, hpt, hck⟩, hc, h3n, h8, h55, h66⟩ := hrel.pl
  obtain ⟨b0, b1, b2, b3, b4⟩ := hw.1
  have hwf : wfM M (N 0) (N 1) (N 2) (N 3) := hrel.wf
  have hn512 : n < 512 := by omega
  refine lv_aload_n hx hb dL_law_833 rfl (lv_at hl 1 rfl) ?_
  refine lv_aload_n hx hb dL_law_834 rfl (lv_at hl 0 rfl) ?_
  refine lv_iload hx hb dL_law_835 (lv_at hl 4 rfl) ?_
  refine lv_iconst (v := 1) hx hb dL_law_837 (by decide) ?_
  refine lv_iadd hx hb dL_law_838 ?_
  refine l_sld S hX hbl hbA hh (nI_1 (4 * n)) (by omega) hLn rfl dL_law_839 ?_
  refine lv_aload_n hx hb dL_law_840 rfl (lv_at hl 3 rfl) ?_
  refine k_callSX0 (As := [.ref x, .int (xs (4 * n + 1)), .ref o]) (k_L_gangOn hst hz hw ho hfo (w := (xs (4 * n + 1)))) S hh (vx_cwSW 3 hts gL_law_L_gangOn rfl rfl rfl (by decide +kernel) ⟨(Nat.le_of_ble_eq_true rfl), (Nat.le_of_ble_eq_true rfl)⟩) rfl hl.1 rfl (Nat.le_of_ble_eq_true rfl) dL_law_841 ⟨(by show _ ≤ 601024; omega), (by show _ ≤ 7293034; omega)⟩ (fun v L1 f1 H locs hp hh => ?_)
  obtain ⟨rfl, ⟨a1, hca1⟩, hFr, ho1, g1, hg1, hQ⟩ := hp
  have hzr1 := hzr.keepO hfo hFr
  have heq := told_eq hrel (w := (xs (4 * n + 1))) hc.2.1
  have hans := told_ans (C := C) (M := M) (w := (xs (4 * n + 1))) (f := 6) hc.2.1 (hj.1.1 6 rfl)
  refine lv_topi (fun k5 e5 => ?_)
  refine lv_istore (lv' := [(5, .int k5), (0, .ref b), (1, .ref x), (2, .ref xm), (3, .ref o), (4, .int (nI (4 * n)))]) hx hb dL_law_844 hl (by decide) rfl (fun ls hl => ?_)
  refine lv_aload_n hx hb dL_law_846 rfl (lv_at hl 3 rfl) ?_
  refine lv_aload_n hx hb dL_law_847 rfl (lv_at hl 1 rfl) ?_
  refine lv_iload hx hb dL_law_848 (lv_at hl 5 rfl) ?_
  refine lv_iconst (v := 1) hx hb dL_law_850 (by decide) ?_
  refine lv_iadd hx hb dL_law_851 ?_
  refine l_sld S hX hbl hbA hh (nI_1 (4 * n)) (by omega) hLn rfl dL_law_852 ?_
  refine k_callV0 (As := [.int (xs (4 * n + 1))]) (c_gangOn hzr1 hc.2.1 b1 (x := (xs (4 * n + 1)))) S hh (cwV 1 hts gL_law_X6_gangOn rfl rfl rfl (by decide +kernel) ⟨(Nat.le_of_ble_eq_true rfl), (Nat.le_of_ble_eq_true rfl)⟩) hzr1.1.1 hzr1.1.2 (q := (RX6, TX6, 22)) rfl rfl rfl hl.1 rfl (Nat.le_of_ble_eq_true rfl) dL_law_853 ⟨(by show _ ≤ 601024; omega), (by show _ ≤ 7293034; omega)⟩ (fun v L2 f2 H locs hp hh => ?_)
  obtain ⟨rfl, hL2, hz2⟩ := hp
  subst hL2
  obtain ⟨hI2, hg2⟩ := LI.next hca1 hz2 ho1 hg1 heq.2
  refine lv_topi (fun k6 e6 => ?_)
  refine lv_istore (lv' := [(6, .int k6), (5, .int k5), (0, .ref b), (1, .ref x), (2, .ref xm), (3, .ref o), (4, .int (nI (4 * n)))]) hx hb dL_law_856 hl (by decide) rfl (fun ls hl => ?_)
  refine lv_aload_n hx hb dL_law_858 rfl (lv_at hl 4 rfl) ?_
  refine k_callV0 (As := []) (c_thrown hz2) S hh (cwV 0 hts gL_law_X6_thrown rfl rfl rfl (by decide +kernel) ⟨(Nat.le_of_ble_eq_true rfl), (Nat.le_of_ble_eq_true rfl)⟩) hz2.1.1 hz2.1.2 (q := (RX6, TX6, 22)) rfl rfl rfl hl.1 rfl (Nat.le_of_ble_eq_true rfl) dL_law_859 ⟨(by show _ ≤ 601024; omega), (by show _ ≤ 7293034; omega)⟩ (fun v L1 f1 H locs hp hh => ?_)
  obtain ⟨rfl, hL9, hf9⟩ := hp
  subst hL9; subst hf9
  refine lv_iload hx hb dL_law_862 (lv_at hl 1 rfl) ?_
  refine lv_icmp_eq (tgt := 869) hx hb dL_law_864 (by decide) (fun _ => ?_) (fun q => absurd (by rw [e5]; exact heq.1.symm) q)
  refine lv_iload hx hb dL_law_869 (lv_at hl 1 rfl) ?_
  refine lv_if_ne (tgt := 886) hx hb dL_law_871 (by decide) (fun _ => ?_) (fun q5 => ?_)
  · refine lv_goto (tgt := 1126) hx hb dL_law_886 (by decide) ?_
    refine W.widen (k := 30 + 6 * (n + 1)) (n := 2000 + 3016 * (n + 1)) (by omega) (by omega) ?_
    exact kk _ _ _ _ _ _ _ hh hI2 (lv_sub hl [2, 3, 4, 5, 6] rfl)
  · have q5 : k5 = 0 := by first | exact q5 | exact Classical.not_not.mp q5
    have hT0 := e5.symm.trans q5
    have hcmp : g1 (0 : Int32).toNatClampNeg = k6.toInt64 := by rw [e6, ← (hans hT0)]; exact hQ hT0
    refine lv_aload_n hx hb dL_law_874 rfl (lv_at hl 5 rfl) ?_
    refine lv_iconst (v := 0) hx hb dL_law_875 (by decide) ?_
    refine h_lald hx hb hh hI2.2.2.1.1 hg2 (show vp_in 0 1 by unfold vp_in; decide) dL_law_876 ?_
    refine lv_iload hx hb dL_law_877 (lv_at hl 0 rfl) ?_
    refine lv_i2l hx hb dL_law_879 rfl ?_
    refine W.lcmp hx hb dL_law_880 ?_
    refine lv_if_eq (tgt := 886) hx hb dL_law_881 (by decide) (fun _ => ?_) (fun z => absurd ((lg_cmp_eq _ _).mpr hcmp) z)
    refine lv_goto (tgt := 1126) hx hb dL_law_886 (by decide) ?_
    refine W.widen (k := 30 + 6 * (n + 1)) (n := 2000 + 3016 * (n + 1)) (by omega) (by omega) ?_
    exact kk _ _ _ _ _ _ _ hh hI2 (lv_sub hl [2, 3, 4, 5, 6] rfl)

set_option maxRecDepth 100000 in
set_option maxHeartbeats 4000000 in
theorem law_restOf {p : Program} {l : Launch} {e : Env} {s : State} {m : MethodId} {below : List Frame} {meth : Method} {c : Code} {H : Heap} {locs : List Loc} {Q : State → Prop} {κ : Kx} {L : List Nat} {f : Nat → va_E} {ls : Array Slot} {b Ln x xm o n : Nat} {xs : Nat → Int32} {bb N P : Nat → Nat} {C M : MS} (hst : l.stackTraces = false) (S : CallFix p m c cL_law 7 s #[Value.ref b] wsL_law RL) (hX : va_X b Ln xs s s.heap) (hbl : b < s.heap.size) (hbA : ¬ kA κ b) (hLn : Ln ≤ 2048) (hn4 : 4 * n + 4 ≤ Ln) (hh : HH κ L f s H locs) (hI : LI κ x xm o bb (N, P, C) M n L f) (hl : lv_has ls 7 [(0, .ref b), (1, .ref x), (2, .ref xm), (3, .ref o), (4, .int (nI (4 * n)))]) (kk : LK p l e s m b below meth c Q κ x xm o bb n) : W p l e room_1 s m #[Value.ref b] below meth c H locs (30 + 6 * n) (2000 + 3016 * n) Q (F0 m 889 ls []) := by
  obtain ⟨hx, hb, hml, hown, hts⟩ := id S
  obtain ⟨⟨a, hca⟩, hzr, ⟨ho, g, hfo⟩, hrel⟩ := hI
  have hca : CA κ x a N P C L f := hca
  have hz : ZC κ x a N P C L f L f := ⟨hca, Fr.rf⟩
  obtain ⟨⟨hw, hj, hp, hpt, hck⟩, hc, h3n, h8, h55, h66⟩ := hrel.pl
  obtain ⟨b0, b1, b2, b3, b4⟩ := hw.1
  have hwf : wfM M (N 0) (N 1) (N 2) (N 3) := hrel.wf
  have hn512 : n < 512 := by omega
  refine lv_aload_n hx hb dL_law_889 rfl (lv_at hl 1 rfl) ?_
  refine lv_aload_n hx hb dL_law_890 rfl (lv_at hl 0 rfl) ?_
  refine lv_iload hx hb dL_law_891 (lv_at hl 4 rfl) ?_
  refine lv_iconst (v := 1) hx hb dL_law_893 (by decide) ?_
  refine lv_iadd hx hb dL_law_894 ?_
  refine l_sld S hX hbl hbA hh (nI_1 (4 * n)) (by omega) hLn rfl dL_law_895 ?_
  refine lv_aload_n hx hb dL_law_896 rfl (lv_at hl 3 rfl) ?_
  refine k_callSX0 (As := [.ref x, .int (xs (4 * n + 1)), .ref o]) (k_L_restOf hst hz hw ho hfo (w := (xs (4 * n + 1)))) S hh (vx_cwSW 3 hts gL_law_L_restOf rfl rfl rfl (by decide +kernel) ⟨(Nat.le_of_ble_eq_true rfl), (Nat.le_of_ble_eq_true rfl)⟩) rfl hl.1 rfl (Nat.le_of_ble_eq_true rfl) dL_law_897 ⟨(by show _ ≤ 601024; omega), (by show _ ≤ 7293034; omega)⟩ (fun v L1 f1 H locs hp hh => ?_)
  obtain ⟨rfl, ⟨a1, hca1⟩, hFr, ho1, g1, hg1, hQ⟩ := hp
  have hzr1 := hzr.keepO hfo hFr
  have heq := told_eq hrel (w := (xs (4 * n + 1))) hc.2.2.1
  have hans := told_ans (C := C) (M := M) (w := (xs (4 * n + 1))) (f := 11) hc.2.2.1 (hj.1.1 11 rfl)
  refine lv_topi (fun k5 e5 => ?_)
  refine lv_istore (lv' := [(5, .int k5), (0, .ref b), (1, .ref x), (2, .ref xm), (3, .ref o), (4, .int (nI (4 * n)))]) hx hb dL_law_900 hl (by decide) rfl (fun ls hl => ?_)
  refine lv_aload_n hx hb dL_law_902 rfl (lv_at hl 3 rfl) ?_
  refine lv_aload_n hx hb dL_law_903 rfl (lv_at hl 1 rfl) ?_
  refine lv_iload hx hb dL_law_904 (lv_at hl 5 rfl) ?_
  refine lv_iconst (v := 1) hx hb dL_law_906 (by decide) ?_
  refine lv_iadd hx hb dL_law_907 ?_
  refine l_sld S hX hbl hbA hh (nI_1 (4 * n)) (by omega) hLn rfl dL_law_908 ?_
  refine k_callV0 (As := [.int (xs (4 * n + 1))]) (c_restOf hzr1 hc.2.2.1 b2 (x := (xs (4 * n + 1)))) S hh (cwV 1 hts gL_law_X6_restOf rfl rfl rfl (by decide +kernel) ⟨(Nat.le_of_ble_eq_true rfl), (Nat.le_of_ble_eq_true rfl)⟩) hzr1.1.1 hzr1.1.2 (q := (RX6, TX6, 22)) rfl rfl rfl hl.1 rfl (Nat.le_of_ble_eq_true rfl) dL_law_909 ⟨(by show _ ≤ 601024; omega), (by show _ ≤ 7293034; omega)⟩ (fun v L2 f2 H locs hp hh => ?_)
  obtain ⟨rfl, hL2, hz2⟩ := hp
  subst hL2
  obtain ⟨hI2, hg2⟩ := LI.next hca1 hz2 ho1 hg1 heq.2
  refine lv_topi (fun k6 e6 => ?_)
  refine lv_istore (lv' := [(6, .int k6), (5, .int k5), (0, .ref b), (1, .ref x), (2, .ref xm), (3, .ref o), (4, .int (nI (4 * n)))]) hx hb dL_law_912 hl (by decide) rfl (fun ls hl => ?_)
  refine lv_aload_n hx hb dL_law_914 rfl (lv_at hl 4 rfl) ?_
  refine k_callV0 (As := []) (c_thrown hz2) S hh (cwV 0 hts gL_law_X6_thrown rfl rfl rfl (by decide +kernel) ⟨(Nat.le_of_ble_eq_true rfl), (Nat.le_of_ble_eq_true rfl)⟩) hz2.1.1 hz2.1.2 (q := (RX6, TX6, 22)) rfl rfl rfl hl.1 rfl (Nat.le_of_ble_eq_true rfl) dL_law_915 ⟨(by show _ ≤ 601024; omega), (by show _ ≤ 7293034; omega)⟩ (fun v L1 f1 H locs hp hh => ?_)
  obtain ⟨rfl, hL9, hf9⟩ := hp
  subst hL9; subst hf9
  refine lv_iload hx hb dL_law_918 (lv_at hl 1 rfl) ?_
  refine lv_icmp_eq (tgt := 925) hx hb dL_law_920 (by decide) (fun _ => ?_) (fun q => absurd (by rw [e5]; exact heq.1.symm) q)
  refine lv_iload hx hb dL_law_925 (lv_at hl 1 rfl) ?_
  refine lv_if_ne (tgt := 942) hx hb dL_law_927 (by decide) (fun _ => ?_) (fun q5 => ?_)
  · refine lv_goto (tgt := 1126) hx hb dL_law_942 (by decide) ?_
    refine W.widen (k := 30 + 6 * (n + 1)) (n := 2000 + 3016 * (n + 1)) (by omega) (by omega) ?_
    exact kk _ _ _ _ _ _ _ hh hI2 (lv_sub hl [2, 3, 4, 5, 6] rfl)
  · have q5 : k5 = 0 := by first | exact q5 | exact Classical.not_not.mp q5
    have hT0 := e5.symm.trans q5
    have hcmp : g1 (0 : Int32).toNatClampNeg = k6.toInt64 := by rw [e6, ← (hans hT0)]; exact hQ hT0
    refine lv_aload_n hx hb dL_law_930 rfl (lv_at hl 5 rfl) ?_
    refine lv_iconst (v := 0) hx hb dL_law_931 (by decide) ?_
    refine h_lald hx hb hh hI2.2.2.1.1 hg2 (show vp_in 0 1 by unfold vp_in; decide) dL_law_932 ?_
    refine lv_iload hx hb dL_law_933 (lv_at hl 0 rfl) ?_
    refine lv_i2l hx hb dL_law_935 rfl ?_
    refine W.lcmp hx hb dL_law_936 ?_
    refine lv_if_eq (tgt := 942) hx hb dL_law_937 (by decide) (fun _ => ?_) (fun z => absurd ((lg_cmp_eq _ _).mpr hcmp) z)
    refine lv_goto (tgt := 1126) hx hb dL_law_942 (by decide) ?_
    refine W.widen (k := 30 + 6 * (n + 1)) (n := 2000 + 3016 * (n + 1)) (by omega) (by omega) ?_
    exact kk _ _ _ _ _ _ _ hh hI2 (lv_sub hl [2, 3, 4, 5, 6] rfl)

set_option maxRecDepth 100000 in
set_option maxHeartbeats 4000000 in
theorem law_fateOf {p : Program} {l : Launch} {e : Env} {s : State} {m : MethodId} {below : List Frame} {meth : Method} {c : Code} {H : Heap} {locs : List Loc} {Q : State → Prop} {κ : Kx} {L : List Nat} {f : Nat → va_E} {ls : Array Slot} {b Ln x xm o n : Nat} {xs : Nat → Int32} {bb N P : Nat → Nat} {C M : MS} (hst : l.stackTraces = false) (S : CallFix p m c cL_law 7 s #[Value.ref b] wsL_law RL) (hX : va_X b Ln xs s s.heap) (hbl : b < s.heap.size) (hbA : ¬ kA κ b) (hLn : Ln ≤ 2048) (hn4 : 4 * n + 4 ≤ Ln) (hh : HH κ L f s H locs) (hI : LI κ x xm o bb (N, P, C) M n L f) (hl : lv_has ls 7 [(0, .ref b), (1, .ref x), (2, .ref xm), (3, .ref o), (4, .int (nI (4 * n)))]) (kk : LK p l e s m b below meth c Q κ x xm o bb n) : W p l e room_1 s m #[Value.ref b] below meth c H locs (30 + 6 * n) (2000 + 3016 * n) Q (F0 m 945 ls []) := by
  obtain ⟨hx, hb, hml, hown, hts⟩ := id S
  obtain ⟨⟨a, hca⟩, hzr, ⟨ho, g, hfo⟩, hrel⟩ := hI
  have hca : CA κ x a N P C L f := hca
  have hz : ZC κ x a N P C L f L f := ⟨hca, Fr.rf⟩
  obtain ⟨⟨hw, hj, hp, hpt, hck⟩, hc, h3n, h8, h55, h66⟩ := hrel.pl
  obtain ⟨b0, b1, b2, b3, b4⟩ := hw.1
  have hwf : wfM M (N 0) (N 1) (N 2) (N 3) := hrel.wf
  have hn512 : n < 512 := by omega
  refine lv_aload_n hx hb dL_law_945 rfl (lv_at hl 1 rfl) ?_
  refine lv_aload_n hx hb dL_law_946 rfl (lv_at hl 0 rfl) ?_
  refine lv_iload hx hb dL_law_947 (lv_at hl 4 rfl) ?_
  refine lv_iconst (v := 1) hx hb dL_law_949 (by decide) ?_
  refine lv_iadd hx hb dL_law_950 ?_
  refine l_sld S hX hbl hbA hh (nI_1 (4 * n)) (by omega) hLn rfl dL_law_951 ?_
  refine lv_aload_n hx hb dL_law_952 rfl (lv_at hl 3 rfl) ?_
  refine k_callSX0 (As := [.ref x, .int (xs (4 * n + 1)), .ref o]) (k_L_fateOf hst hz hw ho hfo (w := (xs (4 * n + 1)))) S hh (vx_cwSW 3 hts gL_law_L_fateOf rfl rfl rfl (by decide +kernel) ⟨(Nat.le_of_ble_eq_true rfl), (Nat.le_of_ble_eq_true rfl)⟩) rfl hl.1 rfl (Nat.le_of_ble_eq_true rfl) dL_law_953 ⟨(by show _ ≤ 601024; omega), (by show _ ≤ 7293034; omega)⟩ (fun v L1 f1 H locs hp hh => ?_)
  obtain ⟨rfl, ⟨a1, hca1⟩, hFr, ho1, g1, hg1, hQ⟩ := hp
  have hzr1 := hzr.keepO hfo hFr
  have heq := told_eq hrel (w := (xs (4 * n + 1))) hc.2.2.2
  have hans := told_ans (C := C) (M := M) (w := (xs (4 * n + 1))) (f := 14) hc.2.2.2 (hj.1.1 14 rfl)
  refine lv_topi (fun k5 e5 => ?_)
  refine lv_istore (lv' := [(5, .int k5), (0, .ref b), (1, .ref x), (2, .ref xm), (3, .ref o), (4, .int (nI (4 * n)))]) hx hb dL_law_956 hl (by decide) rfl (fun ls hl => ?_)
  refine lv_aload_n hx hb dL_law_958 rfl (lv_at hl 3 rfl) ?_
  refine lv_aload_n hx hb dL_law_959 rfl (lv_at hl 1 rfl) ?_
  refine lv_iload hx hb dL_law_960 (lv_at hl 5 rfl) ?_
  refine lv_iconst (v := 1) hx hb dL_law_962 (by decide) ?_
  refine lv_iadd hx hb dL_law_963 ?_
  refine l_sld S hX hbl hbA hh (nI_1 (4 * n)) (by omega) hLn rfl dL_law_964 ?_
  refine k_callV0 (As := [.int (xs (4 * n + 1))]) (c_fateOf hzr1 hc.2.2.2 (by omega) (x := (xs (4 * n + 1)))) S hh (cwV 1 hts gL_law_X6_fateOf rfl rfl rfl (by decide +kernel) ⟨(Nat.le_of_ble_eq_true rfl), (Nat.le_of_ble_eq_true rfl)⟩) hzr1.1.1 hzr1.1.2 (q := (RX6, TX6, 22)) rfl rfl rfl hl.1 rfl (Nat.le_of_ble_eq_true rfl) dL_law_965 ⟨(by show _ ≤ 601024; omega), (by show _ ≤ 7293034; omega)⟩ (fun v L2 f2 H locs hp hh => ?_)
  obtain ⟨rfl, hL2, hz2⟩ := hp
  subst hL2
  obtain ⟨hI2, hg2⟩ := LI.next hca1 hz2 ho1 hg1 heq.2
  refine lv_topi (fun k6 e6 => ?_)
  refine lv_istore (lv' := [(6, .int k6), (5, .int k5), (0, .ref b), (1, .ref x), (2, .ref xm), (3, .ref o), (4, .int (nI (4 * n)))]) hx hb dL_law_968 hl (by decide) rfl (fun ls hl => ?_)
  refine lv_aload_n hx hb dL_law_970 rfl (lv_at hl 4 rfl) ?_
  refine k_callV0 (As := []) (c_thrown hz2) S hh (cwV 0 hts gL_law_X6_thrown rfl rfl rfl (by decide +kernel) ⟨(Nat.le_of_ble_eq_true rfl), (Nat.le_of_ble_eq_true rfl)⟩) hz2.1.1 hz2.1.2 (q := (RX6, TX6, 22)) rfl rfl rfl hl.1 rfl (Nat.le_of_ble_eq_true rfl) dL_law_971 ⟨(by show _ ≤ 601024; omega), (by show _ ≤ 7293034; omega)⟩ (fun v L1 f1 H locs hp hh => ?_)
  obtain ⟨rfl, hL9, hf9⟩ := hp
  subst hL9; subst hf9
  refine lv_iload hx hb dL_law_974 (lv_at hl 1 rfl) ?_
  refine lv_icmp_eq (tgt := 981) hx hb dL_law_976 (by decide) (fun _ => ?_) (fun q => absurd (by rw [e5]; exact heq.1.symm) q)
  refine lv_iload hx hb dL_law_981 (lv_at hl 1 rfl) ?_
  refine lv_if_ne (tgt := 998) hx hb dL_law_983 (by decide) (fun _ => ?_) (fun q5 => ?_)
  · refine lv_goto (tgt := 1126) hx hb dL_law_998 (by decide) ?_
    refine W.widen (k := 30 + 6 * (n + 1)) (n := 2000 + 3016 * (n + 1)) (by omega) (by omega) ?_
    exact kk _ _ _ _ _ _ _ hh hI2 (lv_sub hl [2, 3, 4, 5, 6] rfl)
  · have q5 : k5 = 0 := by first | exact q5 | exact Classical.not_not.mp q5
    have hT0 := e5.symm.trans q5
    have hcmp : g1 (0 : Int32).toNatClampNeg = k6.toInt64 := by rw [e6, ← (hans hT0)]; exact hQ hT0
    refine lv_aload_n hx hb dL_law_986 rfl (lv_at hl 5 rfl) ?_
    refine lv_iconst (v := 0) hx hb dL_law_987 (by decide) ?_
    refine h_lald hx hb hh hI2.2.2.1.1 hg2 (show vp_in 0 1 by unfold vp_in; decide) dL_law_988 ?_
    refine lv_iload hx hb dL_law_989 (lv_at hl 0 rfl) ?_
    refine lv_i2l hx hb dL_law_991 rfl ?_
    refine W.lcmp hx hb dL_law_992 ?_
    refine lv_if_eq (tgt := 998) hx hb dL_law_993 (by decide) (fun _ => ?_) (fun z => absurd ((lg_cmp_eq _ _).mpr hcmp) z)
    refine lv_goto (tgt := 1126) hx hb dL_law_998 (by decide) ?_
    refine W.widen (k := 30 + 6 * (n + 1)) (n := 2000 + 3016 * (n + 1)) (by omega) (by omega) ?_
    exact kk _ _ _ _ _ _ _ hh hI2 (lv_sub hl [2, 3, 4, 5, 6] rfl)

set_option maxRecDepth 100000 in
set_option maxHeartbeats 4000000 in
theorem law_wantOf {p : Program} {l : Launch} {e : Env} {s : State} {m : MethodId} {below : List Frame} {meth : Method} {c : Code} {H : Heap} {locs : List Loc} {Q : State → Prop} {κ : Kx} {L : List Nat} {f : Nat → va_E} {ls : Array Slot} {b Ln x xm o n : Nat} {xs : Nat → Int32} {bb N P : Nat → Nat} {C M : MS} (hst : l.stackTraces = false) (S : CallFix p m c cL_law 7 s #[Value.ref b] wsL_law RL) (hX : va_X b Ln xs s s.heap) (hbl : b < s.heap.size) (hbA : ¬ kA κ b) (hLn : Ln ≤ 2048) (hn4 : 4 * n + 4 ≤ Ln) (hh : HH κ L f s H locs) (hI : LI κ x xm o bb (N, P, C) M n L f) (hl : lv_has ls 7 [(0, .ref b), (1, .ref x), (2, .ref xm), (3, .ref o), (4, .int (nI (4 * n)))]) (kk : LK p l e s m b below meth c Q κ x xm o bb n) : W p l e room_1 s m #[Value.ref b] below meth c H locs (30 + 6 * n) (2000 + 3016 * n) Q (F0 m 1001 ls []) := by
  obtain ⟨hx, hb, hml, hown, hts⟩ := id S
  obtain ⟨⟨a, hca⟩, hzr, ⟨ho, g, hfo⟩, hrel⟩ := hI
  have hca : CA κ x a N P C L f := hca
  have hz : ZC κ x a N P C L f L f := ⟨hca, Fr.rf⟩
  obtain ⟨⟨hw, hj, hp, hpt, hck⟩, hc, h3n, h8, h55, h66⟩ := hrel.pl
  obtain ⟨b0, b1, b2, b3, b4⟩ := hw.1
  have hwf : wfM M (N 0) (N 1) (N 2) (N 3) := hrel.wf
  have hn512 : n < 512 := by omega
  refine lv_aload_n hx hb dL_law_1001 rfl (lv_at hl 1 rfl) ?_
  refine lv_aload_n hx hb dL_law_1002 rfl (lv_at hl 0 rfl) ?_
  refine lv_iload hx hb dL_law_1003 (lv_at hl 4 rfl) ?_
  refine lv_iconst (v := 1) hx hb dL_law_1005 (by decide) ?_
  refine lv_iadd hx hb dL_law_1006 ?_
  refine l_sld S hX hbl hbA hh (nI_1 (4 * n)) (by omega) hLn rfl dL_law_1007 ?_
  refine lv_aload_n hx hb dL_law_1008 rfl (lv_at hl 3 rfl) ?_
  refine k_callSX0 (As := [.ref x, .int (xs (4 * n + 1)), .ref o]) (k_L_wantOf hst hz hw ho hfo (w := (xs (4 * n + 1)))) S hh (vx_cwSW 3 hts gL_law_L_wantOf rfl rfl rfl (by decide +kernel) ⟨(Nat.le_of_ble_eq_true rfl), (Nat.le_of_ble_eq_true rfl)⟩) rfl hl.1 rfl (Nat.le_of_ble_eq_true rfl) dL_law_1009 ⟨(by show _ ≤ 601024; omega), (by show _ ≤ 7293034; omega)⟩ (fun v L1 f1 H locs hp hh => ?_)
  obtain ⟨rfl, ⟨a1, hca1⟩, hFr, ho1, g1, hg1, hQ⟩ := hp
  have hzr1 := hzr.keepO hfo hFr
  have heq := told_eq hrel (w := (xs (4 * n + 1))) hc.2.2.2
  have hans := told_ans (C := C) (M := M) (w := (xs (4 * n + 1))) (f := 12) hc.2.2.2 (hj.1.1 12 rfl)
  refine lv_topi (fun k5 e5 => ?_)
  refine lv_istore (lv' := [(5, .int k5), (0, .ref b), (1, .ref x), (2, .ref xm), (3, .ref o), (4, .int (nI (4 * n)))]) hx hb dL_law_1012 hl (by decide) rfl (fun ls hl => ?_)
  refine lv_aload_n hx hb dL_law_1014 rfl (lv_at hl 3 rfl) ?_
  refine lv_aload_n hx hb dL_law_1015 rfl (lv_at hl 1 rfl) ?_
  refine lv_iload hx hb dL_law_1016 (lv_at hl 5 rfl) ?_
  refine lv_iconst (v := 1) hx hb dL_law_1018 (by decide) ?_
  refine lv_iadd hx hb dL_law_1019 ?_
  refine l_sld S hX hbl hbA hh (nI_1 (4 * n)) (by omega) hLn rfl dL_law_1020 ?_
  refine k_callV0 (As := [.int (xs (4 * n + 1))]) (c_wantOf hzr1 hc.2.2.2 (by omega) (x := (xs (4 * n + 1)))) S hh (cwV 1 hts gL_law_X6_wantOf rfl rfl rfl (by decide +kernel) ⟨(Nat.le_of_ble_eq_true rfl), (Nat.le_of_ble_eq_true rfl)⟩) hzr1.1.1 hzr1.1.2 (q := (RX6, TX6, 22)) rfl rfl rfl hl.1 rfl (Nat.le_of_ble_eq_true rfl) dL_law_1021 ⟨(by show _ ≤ 601024; omega), (by show _ ≤ 7293034; omega)⟩ (fun v L2 f2 H locs hp hh => ?_)
  obtain ⟨rfl, hL2, hz2⟩ := hp
  subst hL2
  obtain ⟨hI2, hg2⟩ := LI.next hca1 hz2 ho1 hg1 heq.2
  refine lv_topi (fun k6 e6 => ?_)
  refine lv_istore (lv' := [(6, .int k6), (5, .int k5), (0, .ref b), (1, .ref x), (2, .ref xm), (3, .ref o), (4, .int (nI (4 * n)))]) hx hb dL_law_1024 hl (by decide) rfl (fun ls hl => ?_)
  refine lv_aload_n hx hb dL_law_1026 rfl (lv_at hl 4 rfl) ?_
  refine k_callV0 (As := []) (c_thrown hz2) S hh (cwV 0 hts gL_law_X6_thrown rfl rfl rfl (by decide +kernel) ⟨(Nat.le_of_ble_eq_true rfl), (Nat.le_of_ble_eq_true rfl)⟩) hz2.1.1 hz2.1.2 (q := (RX6, TX6, 22)) rfl rfl rfl hl.1 rfl (Nat.le_of_ble_eq_true rfl) dL_law_1027 ⟨(by show _ ≤ 601024; omega), (by show _ ≤ 7293034; omega)⟩ (fun v L1 f1 H locs hp hh => ?_)
  obtain ⟨rfl, hL9, hf9⟩ := hp
  subst hL9; subst hf9
  refine lv_iload hx hb dL_law_1030 (lv_at hl 1 rfl) ?_
  refine lv_icmp_eq (tgt := 1037) hx hb dL_law_1032 (by decide) (fun _ => ?_) (fun q => absurd (by rw [e5]; exact heq.1.symm) q)
  refine lv_iload hx hb dL_law_1037 (lv_at hl 1 rfl) ?_
  refine lv_if_ne (tgt := 1054) hx hb dL_law_1039 (by decide) (fun _ => ?_) (fun q5 => ?_)
  · refine lv_goto (tgt := 1126) hx hb dL_law_1054 (by decide) ?_
    refine W.widen (k := 30 + 6 * (n + 1)) (n := 2000 + 3016 * (n + 1)) (by omega) (by omega) ?_
    exact kk _ _ _ _ _ _ _ hh hI2 (lv_sub hl [2, 3, 4, 5, 6] rfl)
  · have q5 : k5 = 0 := by first | exact q5 | exact Classical.not_not.mp q5
    have hT0 := e5.symm.trans q5
    have hcmp : g1 (0 : Int32).toNatClampNeg = k6.toInt64 := by rw [e6, ← (hans hT0)]; exact hQ hT0
    refine lv_aload_n hx hb dL_law_1042 rfl (lv_at hl 5 rfl) ?_
    refine lv_iconst (v := 0) hx hb dL_law_1043 (by decide) ?_
    refine h_lald hx hb hh hI2.2.2.1.1 hg2 (show vp_in 0 1 by unfold vp_in; decide) dL_law_1044 ?_
    refine lv_iload hx hb dL_law_1045 (lv_at hl 0 rfl) ?_
    refine lv_i2l hx hb dL_law_1047 rfl ?_
    refine W.lcmp hx hb dL_law_1048 ?_
    refine lv_if_eq (tgt := 1054) hx hb dL_law_1049 (by decide) (fun _ => ?_) (fun z => absurd ((lg_cmp_eq _ _).mpr hcmp) z)
    refine lv_goto (tgt := 1126) hx hb dL_law_1054 (by decide) ?_
    refine W.widen (k := 30 + 6 * (n + 1)) (n := 2000 + 3016 * (n + 1)) (by omega) (by omega) ?_
    exact kk _ _ _ _ _ _ _ hh hI2 (lv_sub hl [2, 3, 4, 5, 6] rfl)

set_option maxRecDepth 100000 in
set_option maxHeartbeats 4000000 in
theorem law_outside {p : Program} {l : Launch} {e : Env} {s : State} {m : MethodId} {below : List Frame} {meth : Method} {c : Code} {H : Heap} {locs : List Loc} {Q : State → Prop} {κ : Kx} {L : List Nat} {f : Nat → va_E} {ls : Array Slot} {b Ln x xm o n : Nat} {xs : Nat → Int32} {bb N P : Nat → Nat} {C M : MS} (hst : l.stackTraces = false) (S : CallFix p m c cL_law 7 s #[Value.ref b] wsL_law RL) (hX : va_X b Ln xs s s.heap) (hbl : b < s.heap.size) (hbA : ¬ kA κ b) (hLn : Ln ≤ 2048) (hn4 : 4 * n + 4 ≤ Ln) (hh : HH κ L f s H locs) (hI : LI κ x xm o bb (N, P, C) M n L f) (hl : lv_has ls 7 [(0, .ref b), (1, .ref x), (2, .ref xm), (3, .ref o), (4, .int (nI (4 * n)))]) (kk : LK p l e s m b below meth c Q κ x xm o bb n) : W p l e room_1 s m #[Value.ref b] below meth c H locs (30 + 6 * n) (2000 + 3016 * n) Q (F0 m 1057 ls []) := by
  obtain ⟨hx, hb, hml, hown, hts⟩ := id S
  obtain ⟨⟨a, hca⟩, hzr, ⟨ho, g, hfo⟩, hrel⟩ := hI
  have hca : CA κ x a N P C L f := hca
  have hz : ZC κ x a N P C L f L f := ⟨hca, Fr.rf⟩
  obtain ⟨⟨hw, hj, hp, hpt, hck⟩, hc, h3n, h8, h55, h66⟩ := hrel.pl
  obtain ⟨b0, b1, b2, b3, b4⟩ := hw.1
  have hwf : wfM M (N 0) (N 1) (N 2) (N 3) := hrel.wf
  have hn512 : n < 512 := by omega
  refine lv_aload_n hx hb dL_law_1057 rfl (lv_at hl 1 rfl) ?_
  refine lv_aload_n hx hb dL_law_1058 rfl (lv_at hl 0 rfl) ?_
  refine lv_iload hx hb dL_law_1059 (lv_at hl 4 rfl) ?_
  refine lv_iconst (v := 1) hx hb dL_law_1061 (by decide) ?_
  refine lv_iadd hx hb dL_law_1062 ?_
  refine l_sld S hX hbl hbA hh (nI_1 (4 * n)) (by omega) hLn rfl dL_law_1063 ?_
  refine lv_aload_n hx hb dL_law_1064 rfl (lv_at hl 3 rfl) ?_
  refine k_callSX0 (As := [.ref x, .int (xs (4 * n + 1)), .ref o]) (k_L_outside hst hz hw ho hfo (v := (xs (4 * n + 1)))) S hh (vx_cwSW 3 hts gL_law_L_outside rfl rfl rfl (by decide +kernel) ⟨(Nat.le_of_ble_eq_true rfl), (Nat.le_of_ble_eq_true rfl)⟩) rfl hl.1 rfl (Nat.le_of_ble_eq_true rfl) dL_law_1065 ⟨(by show _ ≤ 601024; omega), (by show _ ≤ 7293034; omega)⟩ (fun v L1 f1 H locs hp hh => ?_)
  obtain ⟨rfl, ⟨a1, hca1⟩, hFr, ho1, g1, hg1, hQ⟩ := hp
  have hzr1 := hzr.keepO hfo hFr
  have heq := out_eq hrel (v := (xs (4 * n + 1)))
  refine lv_topi (fun k5 e5 => ?_)
  refine lv_istore (lv' := [(5, .int k5), (0, .ref b), (1, .ref x), (2, .ref xm), (3, .ref o), (4, .int (nI (4 * n)))]) hx hb dL_law_1068 hl (by decide) rfl (fun ls hl => ?_)
  refine lv_aload_n hx hb dL_law_1070 rfl (lv_at hl 3 rfl) ?_
  refine lv_aload_n hx hb dL_law_1071 rfl (lv_at hl 1 rfl) ?_
  refine lv_iload hx hb dL_law_1072 (lv_at hl 5 rfl) ?_
  refine lv_iconst (v := 1) hx hb dL_law_1074 (by decide) ?_
  refine lv_iadd hx hb dL_law_1075 ?_
  refine l_sld S hX hbl hbA hh (nI_1 (4 * n)) (by omega) hLn rfl dL_law_1076 ?_
  refine k_callV0 (As := [.int (xs (4 * n + 1))]) (c_outside hzr1 hc.2.2.2 (by omega) (x := (xs (4 * n + 1)))) S hh (cwV 1 hts gL_law_X6_outside rfl rfl rfl (by decide +kernel) ⟨(Nat.le_of_ble_eq_true rfl), (Nat.le_of_ble_eq_true rfl)⟩) hzr1.1.1 hzr1.1.2 (q := (RX6, TX6, 22)) rfl rfl rfl hl.1 rfl (Nat.le_of_ble_eq_true rfl) dL_law_1077 ⟨(by show _ ≤ 601024; omega), (by show _ ≤ 7293034; omega)⟩ (fun v L2 f2 H locs hp hh => ?_)
  obtain ⟨rfl, hL2, hz2⟩ := hp
  subst hL2
  obtain ⟨hI2, hg2⟩ := LI.next hca1 hz2 ho1 hg1 heq.2.1
  refine lv_topi (fun k6 e6 => ?_)
  refine lv_istore (lv' := [(6, .int k6), (5, .int k5), (0, .ref b), (1, .ref x), (2, .ref xm), (3, .ref o), (4, .int (nI (4 * n)))]) hx hb dL_law_1080 hl (by decide) rfl (fun ls hl => ?_)
  refine lv_aload_n hx hb dL_law_1082 rfl (lv_at hl 4 rfl) ?_
  refine k_callV0 (As := []) (c_thrown hz2) S hh (cwV 0 hts gL_law_X6_thrown rfl rfl rfl (by decide +kernel) ⟨(Nat.le_of_ble_eq_true rfl), (Nat.le_of_ble_eq_true rfl)⟩) hz2.1.1 hz2.1.2 (q := (RX6, TX6, 22)) rfl rfl rfl hl.1 rfl (Nat.le_of_ble_eq_true rfl) dL_law_1083 ⟨(by show _ ≤ 601024; omega), (by show _ ≤ 7293034; omega)⟩ (fun v L1 f1 H locs hp hh => ?_)
  obtain ⟨rfl, hL9, hf9⟩ := hp
  subst hL9; subst hf9
  refine lv_iload hx hb dL_law_1086 (lv_at hl 1 rfl) ?_
  refine lv_icmp_eq (tgt := 1093) hx hb dL_law_1088 (by decide) (fun _ => ?_) (fun q => absurd (by rw [e5]; exact heq.1.symm) q)
  refine lv_iload hx hb dL_law_1093 (lv_at hl 1 rfl) ?_
  refine lv_if_ne (tgt := 1110) hx hb dL_law_1095 (by decide) (fun _ => ?_) (fun q5 => ?_)
  · refine lv_goto (tgt := 1126) hx hb dL_law_1110 (by decide) ?_
    refine W.widen (k := 30 + 6 * (n + 1)) (n := 2000 + 3016 * (n + 1)) (by omega) (by omega) ?_
    exact kk _ _ _ _ _ _ _ hh hI2 (lv_sub hl [2, 3, 4, 5, 6] rfl)
  · have q5 : k5 = 0 := by first | exact q5 | exact Classical.not_not.mp q5
    have hT0 := e5.symm.trans q5
    have hcmp : g1 (0 : Int32).toNatClampNeg = k6.toInt64 := by rw [e6, ← (heq.2.2 hT0)]; exact hQ hT0
    refine lv_aload_n hx hb dL_law_1098 rfl (lv_at hl 5 rfl) ?_
    refine lv_iconst (v := 0) hx hb dL_law_1099 (by decide) ?_
    refine h_lald hx hb hh hI2.2.2.1.1 hg2 (show vp_in 0 1 by unfold vp_in; decide) dL_law_1100 ?_
    refine lv_iload hx hb dL_law_1101 (lv_at hl 0 rfl) ?_
    refine lv_i2l hx hb dL_law_1103 rfl ?_
    refine W.lcmp hx hb dL_law_1104 ?_
    refine lv_if_eq (tgt := 1110) hx hb dL_law_1105 (by decide) (fun _ => ?_) (fun z => absurd ((lg_cmp_eq _ _).mpr hcmp) z)
    refine lv_goto (tgt := 1126) hx hb dL_law_1110 (by decide) ?_
    refine W.widen (k := 30 + 6 * (n + 1)) (n := 2000 + 3016 * (n + 1)) (by omega) (by omega) ?_
    exact kk _ _ _ _ _ _ _ hh hI2 (lv_sub hl [2, 3, 4, 5, 6] rfl)

set_option maxRecDepth 100000 in
set_option maxHeartbeats 4000000 in
theorem law_delivered {p : Program} {l : Launch} {e : Env} {s : State} {m : MethodId} {below : List Frame} {meth : Method} {c : Code} {H : Heap} {locs : List Loc} {Q : State → Prop} {κ : Kx} {L : List Nat} {f : Nat → va_E} {ls : Array Slot} {b Ln x xm o n : Nat} {xs : Nat → Int32} {bb N P : Nat → Nat} {C M : MS} (hst : l.stackTraces = false) (S : CallFix p m c cL_law 7 s #[Value.ref b] wsL_law RL) (hX : va_X b Ln xs s s.heap) (hbl : b < s.heap.size) (hbA : ¬ kA κ b) (hLn : Ln ≤ 2048) (hn4 : 4 * n + 4 ≤ Ln) (hh : HH κ L f s H locs) (hI : LI κ x xm o bb (N, P, C) M n L f) (hl : lv_has ls 7 [(0, .ref b), (1, .ref x), (2, .ref xm), (3, .ref o), (4, .int (nI (4 * n)))]) (kk : LK p l e s m b below meth c Q κ x xm o bb n) : W p l e room_1 s m #[Value.ref b] below meth c H locs (30 + 6 * n) (2000 + 3016 * n) Q (F0 m 1113 ls []) := by
  obtain ⟨hx, hb, hml, hown, hts⟩ := id S
  obtain ⟨⟨a, hca⟩, hzr, ⟨ho, g, hfo⟩, hrel⟩ := hI
  have hca : CA κ x a N P C L f := hca
  have hz : ZC κ x a N P C L f L f := ⟨hca, Fr.rf⟩
  obtain ⟨⟨hw, hj, hp, hpt, hck⟩, hc, h3n, h8, h55, h66⟩ := hrel.pl
  obtain ⟨b0, b1, b2, b3, b4⟩ := hw.1
  have hwf : wfM M (N 0) (N 1) (N 2) (N 3) := hrel.wf
  have hn512 : n < 512 := by omega
  refine lv_aload_n hx hb dL_law_1113 rfl (lv_at hl 1 rfl) ?_
  refine k_callV0 (As := []) (g_delivered hz) S hh (cwV 0 hts gL_law_X5_delivered rfl rfl rfl (by decide +kernel) ⟨(Nat.le_of_ble_eq_true rfl), (Nat.le_of_ble_eq_true rfl)⟩) hz.1.1.1 hz.1.1.2 (q := (RX5, TX5, 7)) rfl rfl rfl hl.1 rfl (Nat.le_of_ble_eq_true rfl) dL_law_1114 ⟨(by show _ ≤ 601024; omega), (by show _ ≤ 7293034; omega)⟩ (fun v L1 f1 H locs hp hh => ?_)
  obtain ⟨rfl, hL9, hf9⟩ := hp
  subst hL9; subst hf9
  refine lv_aload_n hx hb dL_law_1117 rfl (lv_at hl 2 rfl) ?_
  refine k_callV0 (As := []) (c_delivered hzr) S hh (cwV 0 hts gL_law_X6_delivered rfl rfl rfl (by decide +kernel) ⟨(Nat.le_of_ble_eq_true rfl), (Nat.le_of_ble_eq_true rfl)⟩) hzr.1.1 hzr.1.2 (q := (RX6, TX6, 22)) rfl rfl rfl hl.1 rfl (Nat.le_of_ble_eq_true rfl) dL_law_1118 ⟨(by show _ ≤ 601024; omega), (by show _ ≤ 7293034; omega)⟩ (fun v L2 f2 H locs hp hh => ?_)
  obtain ⟨rfl, hL2, hz2⟩ := hp
  subst hL2
  obtain ⟨hI2, -⟩ := LI.next (S1 := (N, P, C)) (o := o) hca hz2 ho hfo ((hrel.thr 0).up)
  refine lv_icmp_eq (tgt := 1126) hx hb dL_law_1121 (by decide) (fun _ => ?_) (fun q => absurd (congrFun hj.1.2 0) q)
  refine W.widen (k := 30 + 6 * (n + 1)) (n := 2000 + 3016 * (n + 1)) (by omega) (by omega) ?_
  exact kk _ _ _ _ _ _ _ hh hI2 hl
