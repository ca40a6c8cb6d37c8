theorem ZR.mono {κ : Kx} {xm : Nat} {b : Nat → Nat} {M : MS} {L L1 : List Nat} {f0 f f1 : Nat → va_E} (h : ZR κ xm b M L f0 f) (hL : ∀ y, y ∈ L → y ∈ L1) (hf : ∀ y, y ∈ L → f1 y = f y) : ZR κ xm b M L1 f1 f1 :=
  ⟨⟨hL _ h.1.1, by rw [hf _ h.1.1]; exact h.1.2⟩, fun k hk => ⟨hL _ (h.2.1 k hk).1, by rw [hf _ (h.2.1 k hk).1]; exact (h.2.1 k hk).2⟩, h.2.2.1, fun _ _ => rfl⟩
theorem LI.skip {κ : Kx} {x xm o n : Nat} {bb : Nat → Nat} {S : CSt} {M : MS} {L : List Nat} {f : Nat → va_E} (h : LI κ x xm o bb S M n L f) : LI κ x xm o bb S M (n + 1) L f := ⟨h.1, h.2.1, h.2.2.1, h.2.2.2.up⟩
theorem head_out {n Ln : Nat} (hLn : Ln ≤ 2048) (h4 : 4 * n ≤ Ln) (c : ¬ nI Ln - 4 < nI (4 * n)) : 4 * n + 4 ≤ Ln := by
  have e1 := nI_toInt (n := Ln) (by omega)
  have e2 := nI_toInt (n := 4 * n) (by omega)
  have e4 : (4 : Int32).toInt = 4 := by decide
  have e5 : (nI Ln - 4).toInt = (nI Ln).toInt - 4 := by rw [Kit.i32_sub (by omega) (by omega), e4]
  rw [Int32.lt_iff_toInt_lt, e5, e1, e2] at c
  omega
theorem sw19 {v : Int32} (h0 : ¬ v = 0) (h1 : ¬ v = 1) (h2 : ¬ v = 2) (h3 : ¬ v = 3) (h4 : ¬ v = 4) (h5 : ¬ v = 5) (h6 : ¬ v = 6) (h7 : ¬ v = 7) (h8 : ¬ v = 8) (h9 : ¬ v = 9) (h10 : ¬ v = 10) (h11 : ¬ v = 11) (h12 : ¬ v = 12) (h13 : ¬ v = 13) (h14 : ¬ v = 14) (h15 : ¬ v = 15) (h16 : ¬ v = 16) (h17 : ¬ v = 17) (h18 : ¬ v = 18) : v.toInt < 0 ∨ 18 < v.toInt := by
  have key : ∀ k : Int32, ¬ v = k → v.toInt ≠ k.toInt := fun k h z => h (Int32.toInt_inj.mp z)
  have z0 := key 0 h0; have z1 := key 1 h1; have z2 := key 2 h2; have z3 := key 3 h3; have z4 := key 4 h4; have z5 := key 5 h5; have z6 := key 6 h6; have z7 := key 7 h7; have z8 := key 8 h8; have z9 := key 9 h9
  have z10 := key 10 h10; have z11 := key 11 h11; have z12 := key 12 h12; have z13 := key 13 h13; have z14 := key 14 h14; have z15 := key 15 h15; have z16 := key 16 h16; have z17 := key 17 h17; have z18 := key 18 h18
  have e0 : (0 : Int32).toInt = 0 := by decide
  have e1 : (1 : Int32).toInt = 1 := by decide
  have e2 : (2 : Int32).toInt = 2 := by decide
  have e3 : (3 : Int32).toInt = 3 := by decide
  have e4 : (4 : Int32).toInt = 4 := by decide
  have e5 : (5 : Int32).toInt = 5 := by decide
  have e6 : (6 : Int32).toInt = 6 := by decide
  have e7 : (7 : Int32).toInt = 7 := by decide
  have e8 : (8 : Int32).toInt = 8 := by decide
  have e9 : (9 : Int32).toInt = 9 := by decide
  have e10 : (10 : Int32).toInt = 10 := by decide
  have e11 : (11 : Int32).toInt = 11 := by decide
  have e12 : (12 : Int32).toInt = 12 := by decide
  have e13 : (13 : Int32).toInt = 13 := by decide
  have e14 : (14 : Int32).toInt = 14 := by decide
  have e15 : (15 : Int32).toInt = 15 := by decide
  have e16 : (16 : Int32).toInt = 16 := by decide
  have e17 : (17 : Int32).toInt = 17 := by decide
  have e18 : (18 : Int32).toInt = 18 := by decide
  rw [e0] at z0; rw [e1] at z1; rw [e2] at z2; rw [e3] at z3; rw [e4] at z4; rw [e5] at z5; rw [e6] at z6; rw [e7] at z7; rw [e8] at z8; rw [e9] at z9
  rw [e10] at z10; rw [e11] at z11; rw [e12] at z12; rw [e13] at z13; rw [e14] at z14; rw [e15] at z15; rw [e16] at z16; rw [e17] at z17; rw [e18] at z18
  omega
set_option maxRecDepth 100000 in
set_option maxHeartbeats 4000000 in
theorem law_loop {p : Program} {l : Launch} {e : Env} {s : State} {m : MethodId} {below : List Frame} {meth : Method} {c : Code} {κ : Kx} {b Ln x xm o : Nat} {xs : Nat → Int32} {bb : Nat → Nat} (hst : l.stackTraces = false) (S : CallFix p m c cL_law 7 s #[Value.ref b] wsL_law RL) (hr : meth.sig.returnType = ret) (hlocks : meth.locks = false) (hX : va_X b Ln xs s s.heap) (hbl : b < s.heap.size) (hκ : κ.2.2.1 = s.heap.size) (hbA : ¬ kA κ b) (hLn : Ln ≤ 2048) :
    ∀ (k n : Nat), 4 * n ≤ Ln → Ln < 4 * (n + k) → ∀ (S1 : CSt) (M1 : MS) (L : List Nat) (f : Nat → va_E) (H : Heap) (locs : List Loc) (ls : Array Slot), HH κ L f s H locs → LI κ x xm o bb S1 M1 n L f → lv_has ls 7 [(0, .ref b), (1, .ref x), (2, .ref xm), (3, .ref o), (4, .int (nI (4 * n)))] → W p l e room_1 s m #[Value.ref b] below meth c H locs (30 + 6 * n) (2000 + 3016 * n) (lw_Z below #[Value.ref b] s) (F0 m 23 ls []) := by
  obtain ⟨hx, hb, hml, hown, hts⟩ := id S
  intro k
  induction k with
  | zero =>
    intro n h4 h5
    exact absurd h5 (by omega)
  | succ k ih =>
    intro n h4 h5 S1 M1 L f H locs ls hh hI hl
    refine lv_iload hx hb dL_law_23 (lv_at hl 4 rfl) ?_
    refine lv_aload_n hx hb dL_law_25 rfl (lv_at hl 0 rfl) ?_
    refine va_slen hx hb hX hbl hbA hh.2.2.2.1 dL_law_26 ?_
    refine lv_iconst (v := 4) hx hb dL_law_27 (by decide) ?_
    refine lv_isub hx hb dL_law_28 ?_
    refine lv_icmp_gt (tgt := 1132) hx hb dL_law_29 (by decide) (fun _ => ?_) (fun c29 => ?_)
    · refine lv_iconst (v := 1) hx hb dL_law_1132 (by decide) ?_
      refine W.widen (k := 601024) (n := 7293034) (by omega) (by omega) ?_
      refine va_forget (fun q hq => by have h9 := hh.2.2.2.1.2.2 q hq; unfold kA at h9; rw [hκ] at h9; exact h9) ?_
      exact lw_ret hx hb hr hlocks dL_law_1133
    · have hn4 : 4 * n + 4 ≤ Ln := head_out hLn h4 c29
      have kk : LK p l e s m b below meth c (lw_Z below #[Value.ref b] s) κ x xm o bb n := by
        intro S2 M2 L2 f2 H2 locs2 ls2 hh2 hI2 hl2
        obtain ⟨y, ey⟩ : ∃ y : Int32, y = nI (4 * n) + 4 := ⟨_, rfl⟩
        refine lv_iinc (v := y) (lv' := [(4, .int y), (0, .ref b), (1, .ref x), (2, .ref xm), (3, .ref o)]) hx hb dL_law_1126 hl2 (k := 4) rfl (by rw [ey]; rfl) (by decide) rfl (fun ls3 hl3 => ?_)
        obtain rfl : y = nI (4 * (n + 1)) := by rw [ey]; exact nI_add (4 * n) 4
        refine lv_goto (tgt := 23) hx hb dL_law_1129 (by decide) ?_
        exact ih (n + 1) (by omega) (by omega) S2 M2 L2 f2 H2 locs2 ls3 hh2 hI2 (lv_sub hl3 [1, 2, 3, 4, 0] rfl)
      obtain ⟨N, P, C⟩ := S1
      refine lv_aload_n hx hb dL_law_32 rfl (lv_at hl 0 rfl) ?_
      refine lv_iload hx hb dL_law_33 (lv_at hl 4 rfl) ?_
      refine l_sld S hX hbl hbA hh (k := 4 * n) rfl (by omega) hLn rfl dL_law_35 ?_
      refine lv_bipush (v := 31) hx hb dL_law_36 (by decide) ?_
      refine lv_iand hx hb dL_law_38 ?_
      generalize xs (4 * n) &&& 31 = sw
      by_cases s0 : sw = 0
      · refine lv_tableIn (off := 89) (tgt := 128) hx hb dL_law_39 (by rw [s0]; decide) (by rw [s0]; decide) (by rw [s0]; rfl) (by decide) ?_
        exact law_hulk hst S hX hbl hbA hLn hn4 hh hI hl kk
      by_cases s1 : sw = 1
      · refine lv_tableIn (off := 145) (tgt := 184) hx hb dL_law_39 (by rw [s1]; decide) (by rw [s1]; decide) (by rw [s1]; rfl) (by decide) ?_
        exact law_lighter hst S hX hbl hbA hLn hn4 hh hI hl kk
      by_cases s2 : sw = 2
      · refine lv_tableIn (off := 201) (tgt := 240) hx hb dL_law_39 (by rw [s2]; decide) (by rw [s2]; decide) (by rw [s2]; rfl) (by decide) ?_
        exact law_gang hst S hX hbl hbA hLn hn4 hh hI hl kk
      by_cases s3 : sw = 3
      · refine lv_tableIn (off := 257) (tgt := 296) hx hb dL_law_39 (by rw [s3]; decide) (by rw [s3]; decide) (by rw [s3]; rfl) (by decide) ?_
        exact law_steamer hst S hX hbl hbA hLn hn4 hh hI hl kk
      by_cases s4 : sw = 4
      · refine lv_tableIn (off := 325) (tgt := 364) hx hb dL_law_39 (by rw [s4]; decide) (by rw [s4]; decide) (by rw [s4]; rfl) (by decide) ?_
        exact law_order hst S hX hbl hbA hLn hn4 hh hI hl kk
      by_cases s5 : sw = 5
      · refine lv_tableIn (off := 385) (tgt := 424) hx hb dL_law_39 (by rw [s5]; decide) (by rw [s5]; decide) (by rw [s5]; rfl) (by decide) ?_
        exact law_shift hst S hX hbl hbA hLn hn4 hh hI hl kk
      by_cases s6 : sw = 6
      · refine lv_tableIn (off := 433) (tgt := 472) hx hb dL_law_39 (by rw [s6]; decide) (by rw [s6]; decide) (by rw [s6]; rfl) (by decide) ?_
        exact law_sweep hst S hX hbl hbA hLn hn4 hh hI hl kk
      by_cases s7 : sw = 7
      · refine lv_tableIn (off := 501) (tgt := 540) hx hb dL_law_39 (by rw [s7]; decide) (by rw [s7]; decide) (by rw [s7]; rfl) (by decide) ?_
        exact law_hours hst S hX hbl hbA hLn hn4 hh hI hl kk
      by_cases s8 : sw = 8
      · refine lv_tableIn (off := 557) (tgt := 596) hx hb dL_law_39 (by rw [s8]; decide) (by rw [s8]; decide) (by rw [s8]; rfl) (by decide) ?_
        exact law_clock hst S hX hbl hbA hLn hn4 hh hI hl kk
      by_cases s9 : sw = 9
      · refine lv_tableIn (off := 570) (tgt := 609) hx hb dL_law_39 (by rw [s9]; decide) (by rw [s9]; decide) (by rw [s9]; rfl) (by decide) ?_
        exact law_coalIn hst S hX hbl hbA hLn hn4 hh hI hl kk
      by_cases s10 : sw = 10
      · refine lv_tableIn (off := 626) (tgt := 665) hx hb dL_law_39 (by rw [s10]; decide) (by rw [s10]; decide) (by rw [s10]; rfl) (by decide) ?_
        exact law_placeOf hst S hX hbl hbA hLn hn4 hh hI hl kk
      by_cases s11 : sw = 11
      · refine lv_tableIn (off := 682) (tgt := 721) hx hb dL_law_39 (by rw [s11]; decide) (by rw [s11]; decide) (by rw [s11]; rfl) (by decide) ?_
        exact law_loadOf hst S hX hbl hbA hLn hn4 hh hI hl kk
      by_cases s12 : sw = 12
      · refine lv_tableIn (off := 738) (tgt := 777) hx hb dL_law_39 (by rw [s12]; decide) (by rw [s12]; decide) (by rw [s12]; rfl) (by decide) ?_
        exact law_dustIn hst S hX hbl hbA hLn hn4 hh hI hl kk
      by_cases s13 : sw = 13
      · refine lv_tableIn (off := 794) (tgt := 833) hx hb dL_law_39 (by rw [s13]; decide) (by rw [s13]; decide) (by rw [s13]; rfl) (by decide) ?_
        exact law_gangOn hst S hX hbl hbA hLn hn4 hh hI hl kk
      by_cases s14 : sw = 14
      · refine lv_tableIn (off := 850) (tgt := 889) hx hb dL_law_39 (by rw [s14]; decide) (by rw [s14]; decide) (by rw [s14]; rfl) (by decide) ?_
        exact law_restOf hst S hX hbl hbA hLn hn4 hh hI hl kk
      by_cases s15 : sw = 15
      · refine lv_tableIn (off := 906) (tgt := 945) hx hb dL_law_39 (by rw [s15]; decide) (by rw [s15]; decide) (by rw [s15]; rfl) (by decide) ?_
        exact law_fateOf hst S hX hbl hbA hLn hn4 hh hI hl kk
      by_cases s16 : sw = 16
      · refine lv_tableIn (off := 962) (tgt := 1001) hx hb dL_law_39 (by rw [s16]; decide) (by rw [s16]; decide) (by rw [s16]; rfl) (by decide) ?_
        exact law_wantOf hst S hX hbl hbA hLn hn4 hh hI hl kk
      by_cases s17 : sw = 17
      · refine lv_tableIn (off := 1018) (tgt := 1057) hx hb dL_law_39 (by rw [s17]; decide) (by rw [s17]; decide) (by rw [s17]; rfl) (by decide) ?_
        exact law_outside hst S hX hbl hbA hLn hn4 hh hI hl kk
      by_cases s18 : sw = 18
      · refine lv_tableIn (off := 1074) (tgt := 1113) hx hb dL_law_39 (by rw [s18]; decide) (by rw [s18]; decide) (by rw [s18]; rfl) (by decide) ?_
        exact law_delivered hst S hX hbl hbA hLn hn4 hh hI hl kk
      refine lv_tableOut (tgt := 1126) hx hb dL_law_39 (sw19 s0 s1 s2 s3 s4 s5 s6 s7 s8 s9 s10 s11 s12 s13 s14 s15 s16 s17 s18) (by decide) ?_
      refine W.widen (k := 30 + 6 * (n + 1)) (n := 2000 + 3016 * (n + 1)) (by omega) (by omega) ?_
      exact kk _ _ _ _ _ _ _ hh hI.skip hl
theorem dfX5 : ∀ j, j < 7 → defaultValue (tyX5 j) = vp_V (xI (fun _ => 0) 0) j := by
  intro j hj
  have h9 : j = 0 ∨ j = 1 ∨ j = 2 ∨ j = 3 ∨ j = 4 ∨ j = 5 ∨ j = 6 := by omega
  rcases h9 with rfl | rfl | rfl | rfl | rfl | rfl | rfl <;> rfl
theorem dfX6 : ∀ j, j < 22 → defaultValue (tyX6 j) = vp_V (pF (fun _ => 0) 0) j := by
  intro j hj
  have h9 : j = 0 ∨ j = 1 ∨ j = 2 ∨ j = 3 ∨ j = 4 ∨ j = 5 ∨ j = 6 ∨ j = 7 ∨ j = 8 ∨ j = 9 ∨ j = 10 ∨ j = 11 ∨ j = 12 ∨ j = 13 ∨ j = 14 ∨ j = 15 ∨ j = 16 ∨ j = 17 ∨ j = 18 ∨ j = 19 ∨ j = 20 ∨ j = 21 := by omega
  rcases h9 with rfl | rfl | rfl | rfl | rfl | rfl | rfl | rfl | rfl | rfl | rfl | rfl | rfl | rfl | rfl | rfl | rfl | rfl | rfl | rfl | rfl | rfl <;> rfl
set_option maxRecDepth 100000 in
set_option maxHeartbeats 4000000 in
/-- from the entry, for every script of at most 2048 ints, the law comes to its end with true -/
theorem whole_start {p : Program} {e : Env} {s : State} {m : MethodId} {below : List Frame} {meth : Method} {c : Code} (l : Launch) (hflags : l.flags = flags0) {b L : Nat} {xs : Nat → Int32} (hL : L ≤ 2048) (C0 : lw_At p s m meth c b L xs) : W p l e room_1 s m #[Value.ref b] below meth c s.heap [] 0 0 (lw_Z below #[Value.ref b] s) (entryFrame m ([Value.ref b] : List Value).toArray 7) := by
  obtain ⟨hx, hb, hr, hml, hown, hts, hX, hbl, hlocks, hgv⟩ := id C0
  obtain ⟨κ, hκ, hH⟩ := start_pool hts hgv
  have hst : l.stackTraces = false := by
    unfold Launch.stackTraces
    rw [hflags]
    decide +kernel
  have hbA : ¬ kA κ b := by
    unfold kA
    rw [hκ]
    exact Nat.not_le.mpr hbl
  have htsL : ∀ w ∈ wsL_law, w.before #[Value.ref b] s = true := fun w h => hts w (wsL_law_in w h)
  have S : CallFix p m c cL_law 7 s #[Value.ref b] wsL_law RL := ⟨hx, hb, hml, hown, htsL⟩
  have hownL : s.vm.findClass RL = some m.cls := hown
  have hl := lv_entry ([.ref b]) (n := 7) (Nat.le_of_ble_eq_true rfl)
  rw [lg_entry_eq]
  generalize (lg_sl ([.ref b]) ++ List.replicate (7 - (lg_sl ([.ref b])).length) Slot.unset).toArray = ls at hl ⊢
  have hl : lv_has ls 7 [(0, .ref b)] := hl
  have hh := hH (fun _ => .inr (0, []))
  refine h_new (c0 := c) (C := RX5) (T := TX5) (N := 7) (ci := 6) (fs := xI (fun _ => 0) 0) hx hb hts hownL hh rfl (fun w h => (wsL_inwX50 w h).1) tyX5 tyX5_ok (htsL (.classLink RL 8 RX5) (by decide +kernel)) (htsL (.instantiable RX5 7) (by decide +kernel)) (htsL (.initialized RX5) (by decide +kernel)) dfX5 (Nat.le_of_ble_eq_true rfl) (Nat.le_of_ble_eq_true rfl) dL_law_0 (fun x H hxq hh => ?_)
  refine lv_dup hx hb dL_law_3 rfl ?_
  refine k_callI (As := []) (c_X5_init (x := x) (List.mem_append_right _ List.mem_cons_self) (by simp [va_up])) S hh (cwI 0 htsL gL_law_X5_init rfl rfl rfl (htsL (.initialized RX5) (by decide +kernel)) (htsL (.methodLink RL 70 yX5_init) (by decide +kernel)) (htsL (.instanceMethod yX5_init) (by decide +kernel)) rfl (by decide +kernel) ⟨Nat.le_of_ble_eq_true rfl, Nat.le_of_ble_eq_true rfl⟩) rfl hl.1 rfl (Nat.le_of_ble_eq_true rfl) dL_law_4 ⟨Nat.le_of_ble_eq_true rfl, Nat.le_of_ble_eq_true rfl⟩ (fun v1 L1 f1 H locs hp hh => ?_)
  obtain ⟨rfl, ⟨a, hz⟩, hsub1, hkeep1⟩ := hp
  refine lv_astore_n (lv' := [(1, .ref x), (0, .ref b)]) hx hb dL_law_7 rfl hl (by decide) rfl (fun ls hl => ?_)
  refine h_new (c0 := c) (C := RX6) (T := TX6) (N := 22) (ci := 7) (fs := pF (fun _ => 0) 0) hx hb hts hownL hh rfl (fun w h => (wsL_inwX60 w h).1) tyX6 tyX6_ok (htsL (.classLink RL 71 RX6) (by decide +kernel)) (htsL (.instantiable RX6 22) (by decide +kernel)) (htsL (.initialized RX6) (by decide +kernel)) dfX6 (Nat.le_of_ble_eq_true rfl) (Nat.le_of_ble_eq_true rfl) dL_law_8 (fun xm H hmq hh => ?_)
  refine lv_dup hx hb dL_law_11 rfl ?_
  refine k_callI (As := []) (c_model (xm := xm) (List.mem_append_right _ List.mem_cons_self) (by simp [va_up])) S hh (cwI 0 htsL gL_law_X6_init rfl rfl rfl (htsL (.initialized RX6) (by decide +kernel)) (htsL (.methodLink RL 73 yX6_init) (by decide +kernel)) (htsL (.instanceMethod yX6_init) (by decide +kernel)) rfl (by decide +kernel) ⟨Nat.le_of_ble_eq_true rfl, Nat.le_of_ble_eq_true rfl⟩) rfl hl.1 rfl (Nat.le_of_ble_eq_true rfl) dL_law_12 ⟨Nat.le_of_ble_eq_true rfl, Nat.le_of_ble_eq_true rfl⟩ (fun v2 L2 f2 H locs hp hh => ?_)
  obtain ⟨rfl, bb, hzr, hsub2, hkeep2⟩ := hp
  have hs2 : ∀ y, y ∈ L1 → y ∈ L2 := fun y hy => hsub2 y (List.mem_append_left _ hy)
  have hk2 : ∀ y, y ∈ L1 → f2 y = f1 y := fun y hy => by
    have hne : y ≠ xm := fun z => hmq (z ▸ hy)
    rw [hkeep2 y (List.mem_append_left _ hy) hne]
    simp [va_up, hne]
  have hz2 := hz.mono hs2 hk2
  refine lv_astore_n (lv' := [(2, .ref xm), (1, .ref x), (0, .ref b)]) hx hb dL_law_15 rfl hl (by decide) rfl (fun ls hl => ?_)
  refine lv_iconst (v := 1) hx hb dL_law_16 (by decide) ?_
  refine h_newj (N' := 1) hx hb hh (htsL (.arrayClass .long) (by decide +kernel)) (by decide) (by decide) (by decide) (Nat.le_of_ble_eq_true rfl) (Nat.le_of_ble_eq_true rfl) dL_law_17 (fun o H hoq hh => ?_)
  have hk3 : ∀ y, y ∈ L2 → va_up f2 o (.inl (kJ κ, 1, .inr (.inl (fun _ => 0)))) y = f2 y := fun y hy => by
    have hne : y ≠ o := fun z => hoq (z ▸ hy)
    simp [va_up, hne]
  refine lv_astore_n (lv' := [(3, .ref o), (2, .ref xm), (1, .ref x), (0, .ref b)]) hx hb dL_law_19 rfl hl (by decide) rfl (fun ls hl => ?_)
  refine lv_iconst (v := 0) hx hb dL_law_20 (by decide) ?_
  refine lv_istore (lv' := [(4, .int 0), (3, .ref o), (2, .ref xm), (1, .ref x), (0, .ref b)]) hx hb dL_law_21 hl (by decide) rfl (fun ls hl => ?_)
  refine W.widen (k := 30 + 6 * 0) (n := 2000 + 3016 * 0) (Nat.le_of_ble_eq_true rfl) (Nat.le_of_ble_eq_true rfl) ?_
  have hI : LI κ x xm o bb ((fun _ => 0), (fun _ => 0), M00) M00 0 (L2 ++ [o]) (va_up f2 o (.inl (kJ κ, 1, .inr (.inl (fun _ => 0))))) := ⟨⟨a, (hz2.mono (fun y hy => List.mem_append_left _ hy) hk3).1⟩, hzr.mono (fun y hy => List.mem_append_left _ hy) hk3, ⟨List.mem_append_right _ List.mem_cons_self, fun _ => 0, by simp [va_up]⟩, Rel.zero⟩
  exact law_loop hst S hr hlocks hX hbl hκ hbA hL (L + 1) 0 (Nat.zero_le _) (by omega) _ _ _ _ _ _ _ hh hI (lv_sub hl [4, 3, 2, 1, 0] rfl)
-- ===== YOUR PART ENDS =====
set_option maxHeartbeats 4000000 in
theorem lw_walk (l : Launch) (hflags : l.flags = flags0) (b : Addr) (xs : List Int32) : MetFree l x (headSpec (Jvm.Cond.code x code maxLocals ret :: tables_1) room_1) (lw_P b xs) (fun _ _ _ _ _ => True) lw_Q := by
  refine MetFree.of_bodyS (code := code) (maxLocals := maxLocals) (ret := ret) (by decide) ?_ ?_
  · intro args s m h hn
    obtain ⟨meth, c, h1, h2, h3, h4, h5, h6, -, -⟩ := Cond.code_spec hn (atoms_spec (ws := Jvm.Cond.code x code maxLocals ret :: tables_1) h _ List.mem_cons_self)
    exact ⟨meth, c, h1, h2, h3, h4, h5, h6⟩
  · intro p e s m args below meth c s₁ B hml0 hP _
    obtain ⟨rfl, hx, hbd, hgv⟩ := hP
    obtain ⟨scr, harrAt, hlist, hof, hsmall⟩ := hx
    obtain ⟨hcb, hkn, -, -⟩ := State.arrayAt?_spec harrAt
    have hown : s.vm.findClass R_law = some m.cls := findClass_of_methodNamed B.named
    have hts0 : ∀ c ∈ (Jvm.Cond.code x code maxLocals ret :: tables_1), c.before #[Value.ref b] s = true := atoms_spec (ws := Jvm.Cond.code x code maxLocals ret :: tables_1) B.pre
    have hts : ∀ w ∈ lw_tbl, w.before #[Value.ref b] s = true := k2_hts_sels lw_privs (fun w hw => hts0 w (List.mem_cons_of_mem _ hw)) lw_privs_ok
    have hml : c.maxLocals = 7 := B.maxLocals_eq (hts0 _ List.mem_cons_self)
    have X₀ : Stand p l e room_1 s m #[Value.ref b] below meth c s₁ [] 0 0 := Stand.of_body B
    have hh0 : s₁.heap = s.heap := by rw [B.state]; rfl
    have hsz : scr.slots.size = xs.length := by rw [← Array.length_toList, hlist, List.length_map]
    have hval : ∀ j : Nat, j < xs.length → scr.slots[j]? = some (.int (xs.getD j 0)) := fun j hj => by
      rw [← Array.getElem?_toList, hlist]
      simp [hj]
    have hbl : b < s.heap.size := (Array.getElem?_eq_some_iff.mp hcb).1
    have hX : va_X b xs.length (fun j => xs.getD j 0) s s.heap := ⟨scr, hcb, hof, hkn, hsz, hval⟩
    have K : W p l e room_1 s m #[Value.ref b] below meth c s₁.heap [] 0 0 (lw_Z below #[Value.ref b] s) (entryFrame m ([Value.ref b] : List Value).toArray 7) := by
      rw [hh0]
      exact whole_start l hflags hbd ⟨B.exec, B.bytes, B.returns, hml, hown, hts, hX, hbl, B.notSynchronized, hgv⟩
    obtain ⟨t, a1, o, b1, b2, b3⟩ := K s₁ rfl X₀
    exact ⟨t, o, a1, b1, b2, b3⟩
theorem lw_pre_spec {args : Array Value} {s : State} (h : (Jvm.Cond.and given_1 narrow_1).before args s = true) (hr : rest_1_c.before args s = true) : ∃ (b : Addr) (xs : List Int32), lw_P b xs args s := by
  have hs := flat_of_before _ h
  have hq := flat_of_before _ hr
  have hc : (Cond.count 1).before args s = true := hs _ (by decide +kernel)
  have harr : (Cond.arrayOf (.arg 0) .int).before args s = true := hs _ (by decide +kernel)
  have hle : (Cond.le (.length (.arg 0)) (.int 2048)).before args s = true := hs _ (by decide +kernel)
  have hlen : (Cond.isInt (.length (.arg 0))).before args s = true := hq _ (by decide +kernel)
  have hall : (Cond.all (.arg 0) (.isInt (.elem (.arg 0) (.index 0)))).before args s = true := hq _ (by decide +kernel)
  obtain ⟨b, xs, hb, hx⟩ := State.ints_of_pre rfl harr hlen hall
  have hsm : xs.length < 2 ^ 31 := hx.choose_spec.2.2.2
  have hev : (Term.length (.arg 0)).eval args s none [] s = some (.int xs.length.toInt32) := hx.length_eval hb
  have hv := Cond.le_ints hev (show (Term.int 2048).eval args s none [] s = some (.int 2048) from rfl)
  have hd : xs.length.toInt32 ≤ 2048 := by
    simpa [Cond.before, Cond.holds, hv] using hle
  have hN : xs.length ≤ 2048 := (Int32.ofNat_le_ofNat hsm (by decide)).mp (show Int32.ofNat xs.length ≤ Int32.ofNat 2048 from hd)
  exact ⟨b, xs, Cond.one_arg hc (show args[0]? = some (.ref b) from hb), hx, hN, h⟩
theorem lw_comes (l : Launch) (hflags : l.flags = flags0) : Comes l x (Jvm.Cond.code x code maxLocals ret :: tables_1) room_1 (fun tb e args s => Calls_1 tb e args s ∧ rest_1 tb e args s ∧ Pre_1 tb e args s)
    (fun _ _ args s o t => lw_Q args s o t) := by
  intro p e ha hc hk s m args below hf hfit hheap happ hpre
  obtain ⟨b, xs, hP⟩ := lw_pre_spec hpre.2.2 hpre.2.1
  obtain ⟨k, o, h1, h2, h3, hQ⟩ := lw_walk l hflags b xs p e ha hc hk s m args below hf ((Spec.applies_iff_loose hf).mp happ).1 hP trivial
  exact ⟨k, o, h1, h2, h3, hQ⟩
theorem lw_frame {s t : State} {o : Outcome} {args : Array Value} (h : Framed s o t [] 601024 7293034) :
    Framed s o t (fieldLocs frame_1_writes args s ++ arrayLocs frame_1_arrays args s ++ staticLocs frame_1_statics s) 601024 7293034 := h
theorem lw_limb (L : Cond) (hL : ∀ (args : Array Value) (s t : State), L.after args s (.returned (some (.int 1))) t = true) :
    ArmFor flags0 classFile x code maxLocals ret World_1 tables_1 room_1 Calls_1 rest_1 Pre_1
      (fun tb e a s o t => postC L tb e a s o t ∧ Framed s o t (fieldLocs frame_1_writes a s ++ arrayLocs frame_1_arrays a s ++ staticLocs frame_1_statics s) 601024 7293034) := by
  intro l hflags _ _ p e ha hc hk s m args below hf hfit hheap happ hpre
  obtain ⟨k, o, h1, h2, h3, rfl, hF⟩ := lw_comes l hflags p e ha hc hk s m args below hf hfit hheap happ hpre
  exact ⟨k, _, h1, h2, h3, hL args s _, lw_frame hF⟩
theorem i_vc : Claimed_1_1 ∧ Claimed_1_2 := ⟨lw_limb limb_1_1 (fun args s t => by simp [limb_1_1, Cond.after, Cond.holds, Cond.value]), lw_limb limb_1_2 (fun args s t => Cond.after_iff.mpr (by
  first | (rw [show limb_1_2 = Cond.eq .result (.int 1) from rfl, Cond.eq_ints (x := 1) (y := 1) rfl rfl]; simp; done) | (simp [limb_1_2, Cond.value, Term.eval]; done)))⟩
