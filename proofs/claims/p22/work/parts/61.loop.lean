/-! which act comes; the law's loop -/
set_option maxRecDepth 100000 in
set_option maxHeartbeats 4000000 in
theorem law_352 {p : Program} {l : Launch} {e : Env} {s : State} {m : MethodId} {below : List Frame} {meth : Method} {c : Code} {H : Heap} {locs : List Loc} {Q : State → Prop} {κ : Kx} {L : List Nat} {f : Nat → va_E} {ls : Array Slot} {b x hd n : Nat} {N P : Nat → Nat} {C M : MS} {came wanted : Int} {cm wt v10 v11 : Int32} {jw : Nat} (hst : l.stackTraces = false) (S : CallFix p m c cL_law 17 s #[Value.ref b] wsL_law RL) (hn70 : n < 70) (hh : HH κ L f s H locs) (hI : LI κ x hd N P C M n came wanted L f) (hcm : cm = Int32.ofInt came) (hwt : wt = Int32.ofInt wanted) (hl : lv_has ls 17 [(0, .ref b), (1, .ref x), (2, .ref hd), (3, .int cm), (4, .int (nI (N 0))), (5, .int (nI (N 1))), (6, .int (nI (N 2))), (7, .int (nI (N 3))), (8, .int wt), (9, .int (nI n)), (10, .int v10), (11, .int v11), (12, .int (nI jw)), (13, .int 1)]) (z0 : 0 < N 0) (z1 : 0 < N 1) (z2 : 0 < N 2) (z3 : 0 < N 3) (kk : LK p l e s m b below meth c Q κ x hd n) : W p l e room_1 s m #[Value.ref b] below meth c H locs (30 + 600 * n + 1) (2000 + 8000 * n + 6) Q (F0 m 352 ls []) := by
  obtain ⟨hx, hb, hml, hown, hts⟩ := id S
  obtain ⟨⟨a, hca⟩, ⟨hd1, gg, hd2, hd3⟩, hq⟩ := id hI
  have hz : ZC κ x a N P C L f L f := ⟨hca, Fr.rf⟩
  obtain ⟨hw, fHu, fLi, fTo, fWa, fWk, fSt, fBu, fS1, fN3, fC0⟩ := hq.f
  obtain ⟨b0, b1, b2, b3, b4⟩ := id hw.1
  refine lv_iload hx hb dL_law_352 (lv_at hl 12 rfl) ?_
  refine lv_bipush (v := 8) hx hb dL_law_354 (by decide) ?_
  refine lv_icmp_ge (tgt := 385) hx hb dL_law_356 (by decide) (fun c356 => ?_) (fun c356 => ?_)
  · exact law_hours hst S hn70 hh hI hcm hwt (lv_sub hl [0, 1, 2, 3, 4, 5, 6, 7, 8, 9, 10, 11, 12, 13] rfl) kk
  · exact law_cmd hst S hn70 hh hI hcm hwt (lv_sub hl [0, 1, 2, 3, 4, 5, 6, 7, 8, 9, 10, 11, 12, 13] rfl) z0 z1 z2 z3 kk

set_option maxRecDepth 100000 in
set_option maxHeartbeats 4000000 in
theorem law_267 {p : Program} {l : Launch} {e : Env} {s : State} {m : MethodId} {below : List Frame} {meth : Method} {c : Code} {H : Heap} {locs : List Loc} {Q : State → Prop} {κ : Kx} {L : List Nat} {f : Nat → va_E} {ls : Array Slot} {b x hd n : Nat} {N P : Nat → Nat} {C M : MS} {came wanted : Int} {cm wt v10 v11 : Int32} {jw : Nat} (hst : l.stackTraces = false) (S : CallFix p m c cL_law 17 s #[Value.ref b] wsL_law RL) (hn70 : n < 70) (hh : HH κ L f s H locs) (hI : LI κ x hd N P C M n came wanted L f) (hcm : cm = Int32.ofInt came) (hwt : wt = Int32.ofInt wanted) (hl : lv_has ls 17 [(0, .ref b), (1, .ref x), (2, .ref hd), (3, .int cm), (4, .int (nI (N 0))), (5, .int (nI (N 1))), (6, .int (nI (N 2))), (7, .int (nI (N 3))), (8, .int wt), (9, .int (nI n)), (10, .int v10), (11, .int v11), (12, .int (nI jw)), (13, .int 1)]) (z0 : 0 < N 0) (z1 : 0 < N 1) (z2 : 0 < N 2) (kk : LK p l e s m b below meth c Q κ x hd n) : W p l e room_1 s m #[Value.ref b] below meth c H locs (30 + 600 * n) (2000 + 8000 * n) Q (F0 m 267 ls []) := by
  obtain ⟨hx, hb, hml, hown, hts⟩ := id S
  obtain ⟨⟨a, hca⟩, ⟨hd1, gg, hd2, hd3⟩, hq⟩ := id hI
  have hz : ZC κ x a N P C L f L f := ⟨hca, Fr.rf⟩
  obtain ⟨hw, fHu, fLi, fTo, fWa, fWk, fSt, fBu, fS1, fN3, fC0⟩ := hq.f
  obtain ⟨b0, b1, b2, b3, b4⟩ := id hw.1
  refine lv_iload hx hb dL_law_267 (lv_at hl 7 rfl) ?_
  refine lv_if_eq (tgt := 288) hx hb dL_law_269 (by decide) (fun c269 => ?_) (fun c269 => ?_)
  · have y3 : N 3 = 0 := by
      rcases Nat.eq_zero_or_pos (N 3) with q | q
      · exact q
      · exact absurd c269 (nI_ne0 q (by omega))
    have h7 : ct (C 14) 0 (N 3) ≤ 7 := by
      rw [y3]
      exact Nat.zero_le _
    refine W.widen (k := 30 + 600 * n + 1) (n := 2000 + 8000 * n + 6) (by omega) (by omega) ?_
    exact law_steamer hst S hn70 hh hI hcm hwt (lv_sub hl [0, 1, 2, 3, 4, 5, 6, 7, 8, 9, 10, 11, 12, 13] rfl) h7 kk
  · have z3 : 0 < N 3 := by
      rcases Nat.eq_zero_or_pos (N 3) with q | q
      · exact absurd (by rw [q]; rfl) c269
      · exact q
    refine lv_iload hx hb dL_law_272 (lv_at hl 12 rfl) ?_
    refine lv_iconst (v := 3) hx hb dL_law_274 (by decide) ?_
    refine lv_icmp_ne (tgt := 352) hx hb dL_law_275 (by decide) (fun c275 => ?_) (fun c275 => ?_)
    · refine W.widen (k := 30 + 600 * n + 1) (n := 2000 + 8000 * n + 6) (by omega) (by omega) ?_
      exact law_352 hst S hn70 hh hI hcm hwt (lv_sub hl [0, 1, 2, 3, 4, 5, 6, 7, 8, 9, 10, 11, 12, 13] rfl) z0 z1 z2 z3 kk
    · refine lv_aload_n hx hb dL_law_278 rfl (lv_at hl 1 rfl) ?_
      refine lv_bipush (v := 7) hx hb dL_law_279 (by decide) ?_
      refine k_callV0 (As := [.int 7]) (q_outside hst hz hw (v := 7) (by decide)) S hh (cwV 1 hts gL_law_X5_outside rfl rfl rfl (by decide +kernel) ⟨(Nat.le_of_ble_eq_true rfl), (Nat.le_of_ble_eq_true rfl)⟩) hz.1.1.1 hz.1.1.2 (q := (RX5, TX5, 7)) rfl rfl rfl hl.1 rfl (Nat.le_of_ble_eq_true rfl) dL_law_281 ⟨(by show _ ≤ 927666; omega), (by show _ ≤ 6318469; omega)⟩ (fun v9 L1 f1 H locs hp hh => ?_)
      obtain ⟨rfl, hL1, hf1⟩ := hp
      subst hL1; subst hf1
      refine lv_iconst (v := (-1)) hx hb dL_law_284 (by decide) ?_
      refine lv_icmp_ne (tgt := 352) hx hb dL_law_285 (by decide) (fun c285 => ?_) (fun c285 => ?_)
      · refine W.widen (k := 30 + 600 * n + 1) (n := 2000 + 8000 * n + 6) (by omega) (by omega) ?_
        exact law_352 hst S hn70 hh hI hcm hwt (lv_sub hl [0, 1, 2, 3, 4, 5, 6, 7, 8, 9, 10, 11, 12, 13] rfl) z0 z1 z2 z3 kk
      · have h7 : ct (C 14) 0 (N 3) ≤ 7 := out_7 hq c285
        refine W.widen (k := 30 + 600 * n + 1) (n := 2000 + 8000 * n + 6) (by omega) (by omega) ?_
        exact law_steamer hst S hn70 hh hI hcm hwt (lv_sub hl [0, 1, 2, 3, 4, 5, 6, 7, 8, 9, 10, 11, 12, 13] rfl) h7 kk

set_option maxRecDepth 100000 in
set_option maxHeartbeats 4000000 in
theorem law_209 {p : Program} {l : Launch} {e : Env} {s : State} {m : MethodId} {below : List Frame} {meth : Method} {c : Code} {H : Heap} {locs : List Loc} {Q : State → Prop} {κ : Kx} {L : List Nat} {f : Nat → va_E} {ls : Array Slot} {b x hd n : Nat} {N P : Nat → Nat} {C M : MS} {came wanted : Int} {cm wt v10 v11 : Int32} {jw : Nat} (hst : l.stackTraces = false) (S : CallFix p m c cL_law 17 s #[Value.ref b] wsL_law RL) (hn70 : n < 70) (hh : HH κ L f s H locs) (hI : LI κ x hd N P C M n came wanted L f) (hcm : cm = Int32.ofInt came) (hwt : wt = Int32.ofInt wanted) (hl : lv_has ls 17 [(0, .ref b), (1, .ref x), (2, .ref hd), (3, .int cm), (4, .int (nI (N 0))), (5, .int (nI (N 1))), (6, .int (nI (N 2))), (7, .int (nI (N 3))), (8, .int wt), (9, .int (nI n)), (10, .int v10), (11, .int v11), (12, .int (nI jw)), (13, .int 1)]) (z0 : 0 < N 0) (z1 : 0 < N 1) (kk : LK p l e s m b below meth c Q κ x hd n) : W p l e room_1 s m #[Value.ref b] below meth c H locs (30 + 600 * n) (2000 + 8000 * n) Q (F0 m 209 ls []) := by
  obtain ⟨hx, hb, hml, hown, hts⟩ := id S
  obtain ⟨⟨a, hca⟩, ⟨hd1, gg, hd2, hd3⟩, hq⟩ := id hI
  have hz : ZC κ x a N P C L f L f := ⟨hca, Fr.rf⟩
  obtain ⟨hw, fHu, fLi, fTo, fWa, fWk, fSt, fBu, fS1, fN3, fC0⟩ := hq.f
  obtain ⟨b0, b1, b2, b3, b4⟩ := id hw.1
  refine lv_iload hx hb dL_law_209 (lv_at hl 6 rfl) ?_
  refine lv_if_eq (tgt := 227) hx hb dL_law_211 (by decide) (fun c211 => ?_) (fun c211 => ?_)
  · have y2 : N 2 = 0 := by
      rcases Nat.eq_zero_or_pos (N 2) with q | q
      · exact q
      · exact absurd c211 (nI_ne0 q (by omega))
    have hlt2 : N 2 < 6 := by omega
    refine W.widen (k := 30 + 600 * n + 1) (n := 2000 + 8000 * n + 6) (by omega) (by omega) ?_
    exact law_gang hst S hn70 hh hI hcm hwt (lv_sub hl [0, 1, 2, 3, 4, 5, 6, 7, 8, 9, 10, 11, 12, 13] rfl) hlt2 kk
  · have z2 : 0 < N 2 := by
      rcases Nat.eq_zero_or_pos (N 2) with q | q
      · exact absurd (by rw [q]; rfl) c211
      · exact q
    refine lv_iload hx hb dL_law_214 (lv_at hl 12 rfl) ?_
    refine lv_iconst (v := 2) hx hb dL_law_216 (by decide) ?_
    refine lv_icmp_ne (tgt := 267) hx hb dL_law_217 (by decide) (fun c217 => ?_) (fun c217 => ?_)
    · exact law_267 hst S hn70 hh hI hcm hwt (lv_sub hl [0, 1, 2, 3, 4, 5, 6, 7, 8, 9, 10, 11, 12, 13] rfl) z0 z1 z2 kk
    · refine lv_iload hx hb dL_law_220 (lv_at hl 6 rfl) ?_
      refine lv_bipush (v := 6) hx hb dL_law_222 (by decide) ?_
      refine lv_icmp_ge (tgt := 267) hx hb dL_law_224 (by decide) (fun c224 => ?_) (fun c224 => ?_)
      · exact law_267 hst S hn70 hh hI hcm hwt (lv_sub hl [0, 1, 2, 3, 4, 5, 6, 7, 8, 9, 10, 11, 12, 13] rfl) z0 z1 z2 kk
      · have hlt2 : N 2 < 6 := by
          rcases Nat.lt_or_ge (N 2) 6 with q | q
          · exact q
          · exact absurd (nI_le (a := 6) q (by omega)) c224
        refine W.widen (k := 30 + 600 * n + 1) (n := 2000 + 8000 * n + 6) (by omega) (by omega) ?_
        exact law_gang hst S hn70 hh hI hcm hwt (lv_sub hl [0, 1, 2, 3, 4, 5, 6, 7, 8, 9, 10, 11, 12, 13] rfl) hlt2 kk

set_option maxRecDepth 100000 in
set_option maxHeartbeats 4000000 in
theorem law_140 {p : Program} {l : Launch} {e : Env} {s : State} {m : MethodId} {below : List Frame} {meth : Method} {c : Code} {H : Heap} {locs : List Loc} {Q : State → Prop} {κ : Kx} {L : List Nat} {f : Nat → va_E} {ls : Array Slot} {b x hd n : Nat} {N P : Nat → Nat} {C M : MS} {came wanted : Int} {cm wt v10 v11 : Int32} {jw : Nat} (hst : l.stackTraces = false) (S : CallFix p m c cL_law 17 s #[Value.ref b] wsL_law RL) (hn70 : n < 70) (hh : HH κ L f s H locs) (hI : LI κ x hd N P C M n came wanted L f) (hcm : cm = Int32.ofInt came) (hwt : wt = Int32.ofInt wanted) (hl : lv_has ls 17 [(0, .ref b), (1, .ref x), (2, .ref hd), (3, .int cm), (4, .int (nI (N 0))), (5, .int (nI (N 1))), (6, .int (nI (N 2))), (7, .int (nI (N 3))), (8, .int wt), (9, .int (nI n)), (10, .int v10), (11, .int v11), (12, .int (nI jw)), (13, .int 1)]) (z0 : 0 < N 0) (kk : LK p l e s m b below meth c Q κ x hd n) : W p l e room_1 s m #[Value.ref b] below meth c H locs (30 + 600 * n) (2000 + 8000 * n) Q (F0 m 140 ls []) := by
  obtain ⟨hx, hb, hml, hown, hts⟩ := id S
  obtain ⟨⟨a, hca⟩, ⟨hd1, gg, hd2, hd3⟩, hq⟩ := id hI
  have hz : ZC κ x a N P C L f L f := ⟨hca, Fr.rf⟩
  obtain ⟨hw, fHu, fLi, fTo, fWa, fWk, fSt, fBu, fS1, fN3, fC0⟩ := hq.f
  obtain ⟨b0, b1, b2, b3, b4⟩ := id hw.1
  refine lv_iload hx hb dL_law_140 (lv_at hl 5 rfl) ?_
  refine lv_if_eq (tgt := 158) hx hb dL_law_142 (by decide) (fun c142 => ?_) (fun c142 => ?_)
  · have y1 : N 1 = 0 := by
      rcases Nat.eq_zero_or_pos (N 1) with q | q
      · exact q
      · exact absurd c142 (nI_ne0 q (by omega))
    have hlt1 : N 1 < 6 := by omega
    refine W.widen (k := 30 + 600 * n + 1) (n := 2000 + 8000 * n + 6) (by omega) (by omega) ?_
    exact law_lighter hst S hn70 hh hI hcm hwt (lv_sub hl [0, 1, 2, 3, 4, 5, 6, 7, 8, 9, 10, 11, 12, 13] rfl) z0 hlt1 kk
  · have z1 : 0 < N 1 := by
      rcases Nat.eq_zero_or_pos (N 1) with q | q
      · exact absurd (by rw [q]; rfl) c142
      · exact q
    refine lv_iload hx hb dL_law_145 (lv_at hl 12 rfl) ?_
    refine lv_iconst (v := 1) hx hb dL_law_147 (by decide) ?_
    refine lv_icmp_ne (tgt := 209) hx hb dL_law_148 (by decide) (fun c148 => ?_) (fun c148 => ?_)
    · exact law_209 hst S hn70 hh hI hcm hwt (lv_sub hl [0, 1, 2, 3, 4, 5, 6, 7, 8, 9, 10, 11, 12, 13] rfl) z0 z1 kk
    · refine lv_iload hx hb dL_law_151 (lv_at hl 5 rfl) ?_
      refine lv_bipush (v := 6) hx hb dL_law_153 (by decide) ?_
      refine lv_icmp_ge (tgt := 209) hx hb dL_law_155 (by decide) (fun c155 => ?_) (fun c155 => ?_)
      · exact law_209 hst S hn70 hh hI hcm hwt (lv_sub hl [0, 1, 2, 3, 4, 5, 6, 7, 8, 9, 10, 11, 12, 13] rfl) z0 z1 kk
      · have hlt1 : N 1 < 6 := by
          rcases Nat.lt_or_ge (N 1) 6 with q | q
          · exact q
          · exact absurd (nI_le (a := 6) q (by omega)) c155
        refine W.widen (k := 30 + 600 * n + 1) (n := 2000 + 8000 * n + 6) (by omega) (by omega) ?_
        exact law_lighter hst S hn70 hh hI hcm hwt (lv_sub hl [0, 1, 2, 3, 4, 5, 6, 7, 8, 9, 10, 11, 12, 13] rfl) z0 hlt1 kk

set_option maxRecDepth 100000 in
set_option maxHeartbeats 4000000 in
theorem law_74 {p : Program} {l : Launch} {e : Env} {s : State} {m : MethodId} {below : List Frame} {meth : Method} {c : Code} {H : Heap} {locs : List Loc} {Q : State → Prop} {κ : Kx} {L : List Nat} {f : Nat → va_E} {ls : Array Slot} {b x hd n : Nat} {N P : Nat → Nat} {C M : MS} {came wanted : Int} {cm wt v10 v11 : Int32} {jw : Nat} (hst : l.stackTraces = false) (S : CallFix p m c cL_law 17 s #[Value.ref b] wsL_law RL) (hn70 : n < 70) (hh : HH κ L f s H locs) (hI : LI κ x hd N P C M n came wanted L f) (hcm : cm = Int32.ofInt came) (hwt : wt = Int32.ofInt wanted) (hl : lv_has ls 17 [(0, .ref b), (1, .ref x), (2, .ref hd), (3, .int cm), (4, .int (nI (N 0))), (5, .int (nI (N 1))), (6, .int (nI (N 2))), (7, .int (nI (N 3))), (8, .int wt), (9, .int (nI n)), (10, .int v10), (11, .int v11), (12, .int (nI jw)), (13, .int 1)]) (kk : LK p l e s m b below meth c Q κ x hd n) : W p l e room_1 s m #[Value.ref b] below meth c H locs (30 + 600 * n) (2000 + 8000 * n) Q (F0 m 74 ls []) := by
  obtain ⟨hx, hb, hml, hown, hts⟩ := id S
  obtain ⟨⟨a, hca⟩, ⟨hd1, gg, hd2, hd3⟩, hq⟩ := id hI
  have hz : ZC κ x a N P C L f L f := ⟨hca, Fr.rf⟩
  obtain ⟨hw, fHu, fLi, fTo, fWa, fWk, fSt, fBu, fS1, fN3, fC0⟩ := hq.f
  obtain ⟨b0, b1, b2, b3, b4⟩ := id hw.1
  refine lv_iload hx hb dL_law_74 (lv_at hl 4 rfl) ?_
  refine lv_if_eq (tgt := 90) hx hb dL_law_76 (by decide) (fun c76 => ?_) (fun c76 => ?_)
  · have y0 : N 0 = 0 := by
      rcases Nat.eq_zero_or_pos (N 0) with q | q
      · exact q
      · exact absurd c76 (nI_ne0 q (by omega))
    have hlt0 : N 0 < 3 := by omega
    refine W.widen (k := 30 + 600 * n + 1) (n := 2000 + 8000 * n + 6) (by omega) (by omega) ?_
    exact law_hulk hst S hn70 hh hI hcm hwt (lv_sub hl [0, 1, 2, 3, 4, 5, 6, 7, 8, 9, 10, 11, 12, 13] rfl) hlt0 kk
  · have z0 : 0 < N 0 := by
      rcases Nat.eq_zero_or_pos (N 0) with q | q
      · exact absurd (by rw [q]; rfl) c76
      · exact q
    refine lv_iload hx hb dL_law_79 (lv_at hl 12 rfl) ?_
    refine lv_if_ne (tgt := 140) hx hb dL_law_81 (by decide) (fun c81 => ?_) (fun c81 => ?_)
    · exact law_140 hst S hn70 hh hI hcm hwt (lv_sub hl [0, 1, 2, 3, 4, 5, 6, 7, 8, 9, 10, 11, 12, 13] rfl) z0 kk
    · refine lv_iload hx hb dL_law_84 (lv_at hl 4 rfl) ?_
      refine lv_iconst (v := 3) hx hb dL_law_86 (by decide) ?_
      refine lv_icmp_ge (tgt := 140) hx hb dL_law_87 (by decide) (fun c87 => ?_) (fun c87 => ?_)
      · exact law_140 hst S hn70 hh hI hcm hwt (lv_sub hl [0, 1, 2, 3, 4, 5, 6, 7, 8, 9, 10, 11, 12, 13] rfl) z0 kk
      · have hlt0 : N 0 < 3 := by
          rcases Nat.lt_or_ge (N 0) 3 with q | q
          · exact q
          · exact absurd (nI_le (a := 3) q (by omega)) c87
        refine W.widen (k := 30 + 600 * n + 1) (n := 2000 + 8000 * n + 6) (by omega) (by omega) ?_
        exact law_hulk hst S hn70 hh hI hcm hwt (lv_sub hl [0, 1, 2, 3, 4, 5, 6, 7, 8, 9, 10, 11, 12, 13] rfl) hlt0 kk

set_option maxRecDepth 100000 in
set_option maxHeartbeats 4000000 in
theorem law_loop {p : Program} {l : Launch} {e : Env} {s : State} {m : MethodId} {below : List Frame} {meth : Method} {c : Code} {κ : Kx} {b Ln x hd : Nat} {xs : Nat → Int32} (hst : l.stackTraces = false) (S : CallFix p m c cL_law 17 s #[Value.ref b] wsL_law RL) (hr : meth.sig.returnType = ret) (hlocks : meth.locks = false) (hK : KX κ b Ln xs s) (hκ : κ.2.2.1 = s.heap.size) (hLn : Ln < 2 ^ 31) :
    ∀ (k n : Nat), n + k = 70 → ∀ (N P : Nat → Nat) (C M : MS) (came wanted : Int) (cm wt : Int32) (L : List Nat) (f : Nat → va_E) (H : Heap) (locs : List Loc) (ls : Array Slot), HH κ L f s H locs → LI κ x hd N P C M n came wanted L f → cm = Int32.ofInt came → wt = Int32.ofInt wanted → lv_has ls 17 [(0, .ref b), (1, .ref x), (2, .ref hd), (3, .int cm), (4, .int (nI (N 0))), (5, .int (nI (N 1))), (6, .int (nI (N 2))), (7, .int (nI (N 3))), (8, .int wt), (9, .int (nI n))] → W p l e room_1 s m #[Value.ref b] below meth c H locs (30 + 600 * n) (2000 + 8000 * n) (lw_Z below #[Value.ref b] s) (F0 m 33 ls []) := by
  obtain ⟨hx, hb, hml, hown, hts⟩ := id S
  intro k
  induction k with
  | zero =>
    intro n hnk N P C M came wanted cm wt L f H locs ls hh hI hcm hwt hl
    obtain rfl : n = 70 := by omega
    refine lv_iload hx hb dL_law_33 (lv_at hl 9 rfl) ?_
    refine lv_bipush (v := 70) hx hb dL_law_35 (by decide) ?_
    refine lv_icmp_ge (tgt := 471) hx hb dL_law_37 (by decide) (fun _ => ?_) (fun c37 => absurd (nI_le (a := 70) (b := 70) (Nat.le_refl _) (by decide)) c37)
    refine lv_iconst (v := 1) hx hb dL_law_471 (by decide) ?_
    refine W.widen (k := 927666) (n := 6318469) (Nat.le_of_ble_eq_true rfl) (Nat.le_of_ble_eq_true rfl) ?_
    refine va_forget (fun q hq => by have h9 := hh.2.2.2.1.2.2 q hq; unfold kA at h9; rw [hκ] at h9; exact h9) ?_
    exact lw_ret hx hb hr hlocks dL_law_472
  | succ k ih =>
    intro n hnk N P C M came wanted cm wt L f H locs ls hh hI hcm hwt hl
    have hn70 : n < 70 := by omega
    have kk : LK p l e s m b below meth c (lw_Z below #[Value.ref b] s) κ x hd n := by
      intro N1 P1 C1 M1 came1 wanted1 cm1 wt1 L1 f1 H locs ls hh hI1 hcm1 hwt1 hl
      obtain ⟨⟨a, hca⟩, ⟨hd1, gg, hd2, hd3⟩, hq1⟩ := id hI1
      have hz : ZC κ x a N1 P1 C1 L1 f1 L1 f1 := ⟨hca, Fr.rf⟩
      have fN3 := hq1.f.2.2.2.2.2.2.2.2.2.1
      refine lv_iload hx hb dL_law_434 (lv_at hl 10 rfl) ?_
      refine lv_if_eq (tgt := 463) hx hb dL_law_436 (by decide) (fun c => absurd (show (1 : Int32) = (0 : Int32) from c) (by decide)) (fun _ => ?_)
      refine lv_aload_n hx hb dL_law_439 rfl (lv_at hl 1 rfl) ?_
      refine lv_iload_n hx hb dL_law_440 rfl (lv_at hl 3 rfl) ?_
      refine lv_iload hx hb dL_law_441 (lv_at hl 4 rfl) ?_
      refine lv_aload_n hx hb dL_law_443 rfl (lv_at hl 2 rfl) ?_
      refine lv_iload hx hb dL_law_444 (lv_at hl 5 rfl) ?_
      refine k_callS0 (As := [.ref x, .int cm1, .int (nI (N1 0)), .ref hd, .int (nI (N1 1))]) (k_coal hst hz hq1 hd1 hd2 hd3 hcm1) S hh (va_cwS 5 hts gL_law_L_coal rfl rfl rfl (by decide +kernel) ⟨(Nat.le_of_ble_eq_true rfl), (Nat.le_of_ble_eq_true rfl)⟩) rfl hl.1 rfl (Nat.le_of_ble_eq_true rfl) dL_law_446 ⟨(by show _ ≤ 927666; omega), (by show _ ≤ 6318469; omega)⟩ (fun v9 L9 f9 H locs hp hh => ?_)
      obtain ⟨rfl, hL1, hf1⟩ := hp
      subst hL1; subst hf1
      refine lv_if_eq (tgt := 463) hx hb dL_law_449 (by decide) (fun c => absurd (show (1 : Int32) = (0 : Int32) from c) (by decide)) (fun _ => ?_)
      refine lv_aload_n hx hb dL_law_452 rfl (lv_at hl 1 rfl) ?_
      refine lv_iload hx hb dL_law_453 (lv_at hl 7 rfl) ?_
      refine lv_iload hx hb dL_law_455 (lv_at hl 8 rfl) ?_
      refine k_callS0 (As := [.ref x, .int (nI (N1 3)), .int wt1]) (k_ships hst hz hq1 (by omega) hwt1) S hh (va_cwS 3 hts gL_law_L_ships rfl rfl rfl (by decide +kernel) ⟨(Nat.le_of_ble_eq_true rfl), (Nat.le_of_ble_eq_true rfl)⟩) rfl hl.1 rfl (Nat.le_of_ble_eq_true rfl) dL_law_457 ⟨(by show _ ≤ 927666; omega), (by show _ ≤ 6318469; omega)⟩ (fun v9 L9 f9 H locs hp hh => ?_)
      obtain ⟨rfl, hL1, hf1⟩ := hp
      subst hL1; subst hf1
      refine lv_if_ne (tgt := 465) hx hb dL_law_460 (by decide) (fun _ => ?_) (fun c => absurd (show (1 : Int32) = (0 : Int32) from c) (by decide))
      obtain ⟨x465, e465⟩ : ∃ y : Int32, y = (nI n) + 1 := ⟨_, rfl⟩
      refine lv_iinc (v := x465) (lv' := [(9, .int x465), (0, .ref b), (1, .ref x), (2, .ref hd), (3, .int cm1), (4, .int (nI (N1 0))), (5, .int (nI (N1 1))), (6, .int (nI (N1 2))), (7, .int (nI (N1 3))), (8, .int wt1), (13, .int 1)]) hx hb dL_law_465 hl (k := 9) rfl (by rw [e465]; rfl) (by decide) rfl (fun ls hl => ?_)
      refine lv_goto (tgt := 33) hx hb dL_law_468 (by decide) ?_
      obtain rfl : x465 = nI (n + 1) := by rw [e465]; exact nI_1 n
      refine W.widen (k := 30 + 600 * (n + 1)) (n := 2000 + 8000 * (n + 1)) (by omega) (by omega) ?_
      exact ih (n + 1) (by omega) N1 P1 C1 M1 came1 wanted1 cm1 wt1 _ _ _ _ ls hh hI1 hcm1 hwt1 (lv_sub hl [1, 2, 3, 4, 5, 6, 7, 8, 9, 0] rfl)
    refine lv_iload hx hb dL_law_33 (lv_at hl 9 rfl) ?_
    refine lv_bipush (v := 70) hx hb dL_law_35 (by decide) ?_
    refine lv_icmp_ge (tgt := 471) hx hb dL_law_37 (by decide) (fun c37 => ?_) (fun c37 => ?_)
    · exact absurd c37 (nI_ge (b := 70) (by omega) (by decide))
    · refine lv_aload_n hx hb dL_law_40 rfl (lv_at hl 0 rfl) ?_
      refine lv_iconst (v := 2) hx hb dL_law_41 (by decide) ?_
      refine lv_iload hx hb dL_law_42 (lv_at hl 9 rfl) ?_
      refine lv_imul hx hb dL_law_44 ?_
      rw [show (2 : Int32) * nI n = nI (2 * n) from pk_mul 2 n]
      refine k_callG (As := [.ref b, .int (nI (2 * n))]) (k_cell (Ln := Ln) (xs := xs) (k := 2 * n) hLn (by omega)) KX.blind (hK.at hh) S hh (va_cwS 2 hts gL_law_L_cell rfl rfl rfl (by decide +kernel) ⟨(Nat.le_of_ble_eq_true rfl), (Nat.le_of_ble_eq_true rfl)⟩) rfl hl.1 rfl (Nat.le_of_ble_eq_true rfl) dL_law_45 ⟨(by show _ ≤ 927666; omega), (by show _ ≤ 6318469; omega)⟩ (fun v9 L9 f9 H locs hp hh => ?_)
      obtain ⟨z45, rfl, hL1, hf1⟩ := hp
      subst hL1; subst hf1
      refine lv_istore (lv' := [(10, .int z45), (0, .ref b), (1, .ref x), (2, .ref hd), (3, .int cm), (4, .int (nI (N 0))), (5, .int (nI (N 1))), (6, .int (nI (N 2))), (7, .int (nI (N 3))), (8, .int wt), (9, .int (nI n))]) hx hb dL_law_48 hl (by decide) rfl (fun ls hl => ?_)
      refine lv_aload_n hx hb dL_law_50 rfl (lv_at hl 1 rfl) ?_
      refine lv_iconst (v := 2) hx hb dL_law_51 (by decide) ?_
      refine lv_iload hx hb dL_law_52 (lv_at hl 10 rfl) ?_
      refine lv_imul hx hb dL_law_54 ?_
      rw [show (2 : Int32) * nI n = nI (2 * n) from pk_mul 2 n]
      refine lv_iconst (v := 1) hx hb dL_law_55 (by decide) ?_
      refine lv_iadd hx hb dL_law_56 ?_
      rw [show nI (2 * n) + 1 = nI (2 * n + 1) from nI_1 (2 * n)]
      refine k_callG (As := [.ref b, .int (nI (2 * n + 1))]) (k_cell (Ln := Ln) (xs := xs) (k := 2 * n + 1) hLn (by omega)) KX.blind (hK.at hh) S hh (va_cwS 2 hts gL_law_L_cell rfl rfl rfl (by decide +kernel) ⟨(Nat.le_of_ble_eq_true rfl), (Nat.le_of_ble_eq_true rfl)⟩) rfl hl.1 rfl (Nat.le_of_ble_eq_true rfl) dL_law_57 ⟨(by show _ ≤ 927666; omega), (by show _ ≤ 6318469; omega)⟩ (fun v9 L9 f9 H locs hp hh => ?_)
      obtain ⟨z57, rfl, hL1, hf1⟩ := hp
      subst hL1; subst hf1
      refine lv_istore (lv' := [(11, .int z57), (10, .int z45), (0, .ref b), (1, .ref x), (2, .ref hd), (3, .int cm), (4, .int (nI (N 0))), (5, .int (nI (N 1))), (6, .int (nI (N 2))), (7, .int (nI (N 3))), (8, .int wt), (9, .int (nI n))]) hx hb dL_law_60 hl (by decide) rfl (fun ls hl => ?_)
      refine lv_iload hx hb dL_law_62 (lv_at hl 1 rfl) ?_
      refine lv_bipush (v := 12) hx hb dL_law_64 (by decide) ?_
      obtain ⟨j66, hj66, ej66⟩ := low_ix z45 (n := 12) (by decide) (by omega)
      refine k_callS0 (As := [.int z45, .int (nI 12)]) (k_low ej66 (by decide) (by omega)) S hh (va_cwS 2 hts gL_law_L_low rfl rfl rfl (by decide +kernel) ⟨(Nat.le_of_ble_eq_true rfl), (Nat.le_of_ble_eq_true rfl)⟩) rfl hl.1 rfl (Nat.le_of_ble_eq_true rfl) dL_law_66 ⟨(by show _ ≤ 927666; omega), (by show _ ≤ 6318469; omega)⟩ (fun v9 L1 f1 H locs hp hh => ?_)
      obtain ⟨rfl, hL1, hf1⟩ := hp
      subst hL1; subst hf1
      refine lv_istore (lv' := [(12, .int (nI j66)), (11, .int z57), (10, .int z45), (0, .ref b), (1, .ref x), (2, .ref hd), (3, .int cm), (4, .int (nI (N 0))), (5, .int (nI (N 1))), (6, .int (nI (N 2))), (7, .int (nI (N 3))), (8, .int wt), (9, .int (nI n))]) hx hb dL_law_69 hl (by decide) rfl (fun ls hl => ?_)
      refine lv_iconst (v := 1) hx hb dL_law_71 (by decide) ?_
      refine lv_istore (lv' := [(13, .int 1), (12, .int (nI j66)), (11, .int z57), (10, .int z45), (0, .ref b), (1, .ref x), (2, .ref hd), (3, .int cm), (4, .int (nI (N 0))), (5, .int (nI (N 1))), (6, .int (nI (N 2))), (7, .int (nI (N 3))), (8, .int wt), (9, .int (nI n))]) hx hb dL_law_72 hl (by decide) rfl (fun ls hl => ?_)
      exact law_74 hst S hn70 hh hI hcm hwt (lv_sub hl [4, 5, 6, 7, 8, 9, 10, 11, 12, 13, 3, 2, 1, 0] rfl) kk
