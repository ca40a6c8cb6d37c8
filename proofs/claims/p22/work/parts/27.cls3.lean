theorem rem_lt {P : Nat → Nat} {n n3 i : Nat} (h : ∀ j, j < n → P j < n3) : ∀ j, j < n - 1 → remEl P i j < n3 := fun j hj => by
  unfold remEl
  split
  · exact h j (by omega)
  · exact h (j + 1) (by omega)

theorem x_lrem {l : Launch} {κ : Kx} {x : Nat} {a : AD} {N P : Nat → Nat} {C : MS} {L L0 : List Nat} {f0 f : Nat → va_E} (hz : ZC κ x a N P C L0 f0 L f) {i : Nat} (hi : i < N 4) : PM l κ yJx4a65c_remove_915e3 wsJx4a65c_remove_915e3 ({ frames := 2, cells := 0, slots := 0, locals := 43 } : Room) [.ref (a 5 4), .int (nI i)] L f (fun v L1 f1 => v = some (.ref (elm a P 4 i)) ∧ L = L1 ∧ RemP κ L f (a 5 4) (a 6 4) (N 4) i (elm a P 4) f1) noX 0 0 := by
  obtain ⟨⟨h1, mc, h2⟩, h3⟩ := hz.1.2.2.2.2.1 4 (by decide)
  rcases h3 with ⟨-, h0⟩ | ⟨cap, g, hR, hn, hg⟩
  · omega
  · exact c_remove h1 h2 hR hn hi hg

set_option maxRecDepth 100000 in
set_option maxHeartbeats 4000000 in
theorem g_forget {l : Launch} {κ : Kx} {x : Nat} {a : AD} {N P : Nat → Nat} {C : MS} {L L0 : List Nat} {f0 f : Nat → va_E} (hz : ZC κ x a N P C L0 f0 L f) (hw : WC N P C) : PM l κ yX5_forgetTheLeft wsX5_forgetTheLeft ({ frames := 3, cells := 0, slots := 0, locals := 66 } : Room) [.ref x] L f (fun v L1 f1 => v = none ∧ L = L1 ∧ ZC κ x a (va_up N 4 (fgG C (N 4) (P, N 4)).2) (fgG C (N 4) (P, N 4)).1 C L f L1 f1) noX 0 0 := by
  refine PM.mk (cc := cX5_forgetTheLeft) (maxL := 2) (ret := none) (by decide) rfl (Nat.le_of_ble_eq_true rfl) ?_
  intro p e s m args below meth c ls hx hb hml hr hlk hnm hown hts ht hh hl
  have hl : lv_has ls 2 [(0, .ref x)] := hl
  have S : CallFix p m c cX5_forgetTheLeft 2 s args wsX5_forgetTheLeft RX5 := ⟨hx, hb, hml, hown, hts⟩
  have inX4 : ∀ w ∈ wsX40, w ∈ wsX5_forgetTheLeft := by decide +kernel
  have inX5 : ∀ w ∈ wsX50, w ∈ wsX5_forgetTheLeft := by decide +kernel
  have hz := hz.self
  obtain ⟨b0, b1, b2, b3, b4⟩ := id hw.1
  refine lv_aload_n hx hb dX5_forgetTheLeft_0 rfl (lv_at hl 0 rfl) ?_
  refine xx_get S hh hz inX5 4 (by decide) rfl rfl (by decide +kernel) dX5_forgetTheLeft_1 ?_
  obtain ⟨mc4, hL4, hF4⟩ := hz.lst 4 (by decide)
  refine k_callV0 (As := []) (c_size hL4 hF4) S hh (cwV 0 hts gX5_forgetTheLeft_Jx4a65c_size_8abf5 rfl rfl rfl (by decide +kernel) ⟨(Nat.le_of_ble_eq_true rfl), (Nat.le_of_ble_eq_true rfl)⟩) hL4 hF4 (q := (RJx4a65c, TJx4a65c, 3)) rfl rfl rfl hl.1 rfl (Nat.le_of_ble_eq_true rfl) dX5_forgetTheLeft_4 ⟨(Nat.le_of_ble_eq_true rfl), (Nat.le_of_ble_eq_true rfl)⟩ (fun v L1 f1 H locs hp hh => ?_)
  obtain ⟨rfl, hL1, hf1⟩ := hp
  subst hL1; subst hf1
  refine lv_iconst (v := 1) hx hb dX5_forgetTheLeft_7 (by decide) ?_
  refine lv_isub hx hb dX5_forgetTheLeft_8 ?_
  refine lv_topi (fun x9 e9 => ?_)
  refine lv_istore_n (lv' := [(1, .int x9), (0, .ref x)]) hx hb dX5_forgetTheLeft_9 rfl hl (by decide) rfl (fun ls hl => ?_)
  have loop : ∀ (i : Nat) (q : (Nat → Nat) × Nat) (x1 : Int32), i ≤ q.2 → q.2 ≤ N 4 → x1 = nI i - 1 → (∀ j, j < q.2 → q.1 j < N 3) → fgG C i q = (fgG C (N 4) (P, N 4)) → ∀ (f9 : Nat → va_E) (H : Heap) (locs : List Loc), HH κ L f9 s H locs → ZC κ x a (va_up N 4 q.2) q.1 C L f L f9 → ∀ ls : Array Slot, lv_has ls 2 [(0, .ref x), (1, .int x1)] → W p l e ({ frames := 3, cells := 0, slots := 0, locals := 66 } : Room) s m args below meth c H locs 0 0 (vx_MQ below (PQ κ (fun v L1 f1 => v = none ∧ L = L1 ∧ ZC κ x a (va_up N 4 (fgG C (N 4) (P, N 4)).2) (fgG C (N 4) (P, N 4)).1 C L f L1 f1)) (PX κ L f noX) args s 0 0 (kA κ)) (F0 m 10 ls []) := by
    intro i
    induction i with
    | zero =>
      intro q x1 hi hq4 ex1 hq ego f9 H locs hh hz ls hl
      have e1 : x1 = -1 := by rw [ex1]; rfl
      refine lv_iload_n hx hb dX5_forgetTheLeft_10 rfl (lv_at hl 1 rfl) ?_
      refine lv_if_lt (tgt := 46) hx hb dX5_forgetTheLeft_11 (by decide) (fun _ => ?_) (fun c => absurd (by rw [e1]; decide) c)
      exact k_vret hx hb hr hlk hh dX5_forgetTheLeft_46 (Nat.le_of_ble_eq_true rfl) (Nat.le_of_ble_eq_true rfl) ⟨rfl, rfl, by rw [← ego]; exact hz⟩
    | succ i ih =>
      intro q x1 hi hq4 ex1 hq ego f9 H locs hh hz ls hl
      obtain rfl : x1 = nI i := by rw [ex1]; exact nI_pred i
      refine lv_iload_n hx hb dX5_forgetTheLeft_10 rfl (lv_at hl 1 rfl) ?_
      refine lv_if_lt (tgt := 46) hx hb dX5_forgetTheLeft_11 (by decide) (fun c11 => ?_) (fun c11 => ?_)
      · exact absurd c11 (nI_pos (by omega))
      · refine lv_aload_n hx hb dX5_forgetTheLeft_14 rfl (lv_at hl 0 rfl) ?_
        refine xx_get S hh hz inX5 4 (by decide) rfl rfl (by decide +kernel) dX5_forgetTheLeft_15 ?_
        refine lv_iload_n hx hb dX5_forgetTheLeft_18 rfl (lv_at hl 1 rfl) ?_
        obtain ⟨mc19, hL19, hF19⟩ := hz.lst 4 (by decide)
        refine k_callV0 (As := [.int (nI i)]) (x_lget hz 4 (by decide) (i := i) (show i < q.2 by omega) rfl) S hh (cwV 1 hts gX5_forgetTheLeft_Jx4a65c_get_915e3 rfl rfl rfl (by decide +kernel) ⟨(Nat.le_of_ble_eq_true rfl), (Nat.le_of_ble_eq_true rfl)⟩) hL19 hF19 (q := (RJx4a65c, TJx4a65c, 3)) rfl rfl rfl hl.1 rfl (Nat.le_of_ble_eq_true rfl) dX5_forgetTheLeft_19 ⟨(Nat.le_of_ble_eq_true rfl), (Nat.le_of_ble_eq_true rfl)⟩ (fun v L1 f1 H locs hp hh => ?_)
        obtain ⟨rfl, hL1, hf1⟩ := hp
        subst hL1; subst hf1
        refine h_cast hx hb hown hh (hz.1.2.1 3 (q.1 i) (by decide) (hq i (by omega))).1 (hz.1.2.1 3 (q.1 i) (by decide) (hq i (by omega))).2 (C := RX4) (T := TX4) (N := 4) rfl (hts (.classLink RX5 82 RX4) (by decide +kernel)) dX5_forgetTheLeft_22 ?_
        refine k_callV0 (As := []) (g_hasLeft hz (i := (q.1 i)) (hq i (by omega))) S hh (cwV 0 hts gX5_forgetTheLeft_X4_hasLeft rfl rfl rfl (by decide +kernel) ⟨(Nat.le_of_ble_eq_true rfl), (Nat.le_of_ble_eq_true rfl)⟩) (hz.1.2.1 3 (q.1 i) (by decide) (hq i (by omega))).1 (hz.1.2.1 3 (q.1 i) (by decide) (hq i (by omega))).2 (q := (RX4, TX4, 4)) rfl rfl rfl hl.1 rfl (Nat.le_of_ble_eq_true rfl) dX5_forgetTheLeft_25 ⟨(Nat.le_of_ble_eq_true rfl), (Nat.le_of_ble_eq_true rfl)⟩ (fun v L1 f1 H locs hp hh => ?_)
        obtain ⟨rfl, hL1, hf1⟩ := hp
        subst hL1; subst hf1
        refine lv_if_eq (tgt := 40) hx hb dX5_forgetTheLeft_28 (by decide) (fun c28 => ?_) (fun c28 => ?_)
        · obtain ⟨x40, e40⟩ : ∃ y : Int32, y = (nI i) + (-1) := ⟨_, rfl⟩
          refine lv_iinc (v := x40) (lv' := [(1, .int x40), (0, .ref x)]) hx hb dX5_forgetTheLeft_40 hl (k := 1) rfl (by rw [e40]; rfl) (by decide) rfl (fun ls hl => ?_)
          refine lv_goto (tgt := 10) hx hb dX5_forgetTheLeft_43 (by decide) ?_
          exact ih q x40 (by show i ≤ _; omega) (by show _ ≤ N 4; omega) (by rw [e40]; exact (Int32.sub_eq_add_neg _ _).symm) hq (by rw [← ego, fgG]; first | rw [if_pos (by assumption)] | rw [if_neg (by assumption)]) _ _ _ hh hz ls (lv_sub hl [1, 0] rfl)
        · refine lv_aload_n hx hb dX5_forgetTheLeft_31 rfl (lv_at hl 0 rfl) ?_
          refine xx_get S hh hz inX5 4 (by decide) rfl rfl (by decide +kernel) dX5_forgetTheLeft_32 ?_
          refine lv_iload_n hx hb dX5_forgetTheLeft_35 rfl (lv_at hl 1 rfl) ?_
          obtain ⟨mc36, hL36, hF36⟩ := hz.lst 4 (by decide)
          refine k_callV0 (As := [.int (nI i)]) (x_lrem hz (i := i) (show i < q.2 by omega)) S hh (cwV 1 hts gX5_forgetTheLeft_Jx4a65c_remove_915e3 rfl rfl rfl (by decide +kernel) ⟨(Nat.le_of_ble_eq_true rfl), (Nat.le_of_ble_eq_true rfl)⟩) hL36 hF36 (q := (RJx4a65c, TJx4a65c, 3)) rfl rfl rfl hl.1 rfl (Nat.le_of_ble_eq_true rfl) dX5_forgetTheLeft_36 ⟨(Nat.le_of_ble_eq_true rfl), (Nat.le_of_ble_eq_true rfl)⟩ (fun v L1 f1 H locs hp hh => ?_)
          have hTE := hh.teL
          obtain ⟨rfl, hL1, hrm⟩ := hp
          subst hL1
          have hz := (hz.rem hTE (show i < q.2 by omega) hrm).castN (bx_uu N 4 _ _)
          refine lv_pop hx hb dX5_forgetTheLeft_39 rfl ?_
          obtain ⟨x40, e40⟩ : ∃ y : Int32, y = (nI i) + (-1) := ⟨_, rfl⟩
          refine lv_iinc (v := x40) (lv' := [(1, .int x40), (0, .ref x)]) hx hb dX5_forgetTheLeft_40 hl (k := 1) rfl (by rw [e40]; rfl) (by decide) rfl (fun ls hl => ?_)
          refine lv_goto (tgt := 10) hx hb dX5_forgetTheLeft_43 (by decide) ?_
          exact ih (remEl q.1 i, q.2 - 1) x40 (by show i ≤ _; show i ≤ q.2 - 1; omega) (by show _ ≤ N 4; show q.2 - 1 ≤ N 4; omega) (by rw [e40]; exact (Int32.sub_eq_add_neg _ _).symm) (rem_lt hq) (by rw [← ego, fgG]; first | rw [if_pos (by assumption)] | rw [if_neg (by assumption)]) _ _ _ hh hz ls (lv_sub hl [1, 0] rfl)
  exact loop (N 4) (P, N 4) x9 (Nat.le_refl _) (Nat.le_refl _) e9 hw.2.2.2 rfl _ _ _ hh (hz.castN (va_up4 N).symm) ls (lv_sub hl [1, 0] rfl)

set_option maxRecDepth 100000 in
set_option maxHeartbeats 4000000 in
theorem g_leave {l : Launch} {κ : Kx} {x : Nat} {a : AD} {N P : Nat → Nat} {C : MS} {L L0 : List Nat} {f0 f : Nat → va_E} (hz : ZC κ x a N P C L0 f0 L f) (hw : WC N P C) : PM l κ yX5_letSteamersLeave wsX5_letSteamersLeave ({ frames := 4, cells := 0, slots := 0, locals := 88 } : Room) [.ref x] L f (fun v L1 f1 => v = some (.int (lvLoop (N 1) P C (N 4)).2) ∧ L = L1 ∧ ZC κ x a (va_up N 4 (fgG (lvLoop (N 1) P C (N 4)).1 (N 4) (P, N 4)).2) (fgG (lvLoop (N 1) P C (N 4)).1 (N 4) (P, N 4)).1 (lvLoop (N 1) P C (N 4)).1 L f L1 f1) noX 0 0 := by
  refine PM.mk (cc := cX5_letSteamersLeave) (maxL := 4) (ret := (some .int)) (by decide) rfl (Nat.le_of_ble_eq_true rfl) ?_
  intro p e s m args below meth c ls hx hb hml hr hlk hnm hown hts ht hh hl
  have hl : lv_has ls 4 [(0, .ref x)] := hl
  have S : CallFix p m c cX5_letSteamersLeave 4 s args wsX5_letSteamersLeave RX5 := ⟨hx, hb, hml, hown, hts⟩
  have inX0 : ∀ w ∈ wsX00, w ∈ wsX5_letSteamersLeave := by decide +kernel
  have inX2 : ∀ w ∈ wsX20, w ∈ wsX5_letSteamersLeave := by decide +kernel
  have inX3 : ∀ w ∈ wsX30, w ∈ wsX5_letSteamersLeave := by decide +kernel
  have inX4 : ∀ w ∈ wsX40, w ∈ wsX5_letSteamersLeave := by decide +kernel
  have inX5 : ∀ w ∈ wsX50, w ∈ wsX5_letSteamersLeave := by decide +kernel
  have hz := hz.self
  obtain ⟨b0, b1, b2, b3, b4⟩ := id hw.1
  refine lv_iconst (v := 0) hx hb dX5_letSteamersLeave_0 (by decide) ?_
  refine lv_istore_n (lv' := [(1, .int 0), (0, .ref x)]) hx hb dX5_letSteamersLeave_1 rfl hl (by decide) rfl (fun ls hl => ?_)
  refine lv_iconst (v := 0) hx hb dX5_letSteamersLeave_2 (by decide) ?_
  refine lv_istore_n (lv' := [(2, .int 0), (1, .int 0), (0, .ref x)]) hx hb dX5_letSteamersLeave_3 rfl hl (by decide) rfl (fun ls hl => ?_)
  have loop : ∀ (n i : Nat) (x1 : Int32), i ≤ N 4 → N 4 + 1 ≤ i + n → x1 = (lvLoop (N 1) P C i).2 → ∀ (f9 : Nat → va_E) (H : Heap) (locs : List Loc), HH κ L f9 s H locs → ZC κ x a N P (lvLoop (N 1) P C i).1 L f L f9 → ∀ ls : Array Slot, lv_has ls 4 [(0, .ref x), (1, .int x1), (2, .int (nI i))] → W p l e ({ frames := 4, cells := 0, slots := 0, locals := 88 } : Room) s m args below meth c H locs 0 0 (vx_MQ below (PQ κ (fun v L1 f1 => v = some (.int (lvLoop (N 1) P C (N 4)).2) ∧ L = L1 ∧ ZC κ x a (va_up N 4 (fgG (lvLoop (N 1) P C (N 4)).1 (N 4) (P, N 4)).2) (fgG (lvLoop (N 1) P C (N 4)).1 (N 4) (P, N 4)).1 (lvLoop (N 1) P C (N 4)).1 L f L1 f1)) (PX κ L f noX) args s 0 0 (kA κ)) (F0 m 4 ls []) := by
    intro n
    induction n with
    | zero =>
      intro i x1 h1 h2
      exact absurd h2 (by omega)
    | succ n ih =>
      intro i x1 hi hin3 ex1 f9 H locs hh hz ls hl
      have hwi := hw.keep (lv_kc KC.rf (N 1) P i)
      refine lv_iload_n hx hb dX5_letSteamersLeave_4 rfl (lv_at hl 2 rfl) ?_
      refine lv_aload_n hx hb dX5_letSteamersLeave_5 rfl (lv_at hl 0 rfl) ?_
      refine xx_get S hh hz inX5 4 (by decide) rfl rfl (by decide +kernel) dX5_letSteamersLeave_6 ?_
      obtain ⟨mc9, hL9, hF9⟩ := hz.lst 4 (by decide)
      refine k_callV0 (As := []) (c_size hL9 hF9) S hh (cwV 0 hts gX5_letSteamersLeave_Jx4a65c_size_8abf5 rfl rfl rfl (by decide +kernel) ⟨(Nat.le_of_ble_eq_true rfl), (Nat.le_of_ble_eq_true rfl)⟩) hL9 hF9 (q := (RJx4a65c, TJx4a65c, 3)) rfl rfl rfl hl.1 rfl (Nat.le_of_ble_eq_true rfl) dX5_letSteamersLeave_9 ⟨(Nat.le_of_ble_eq_true rfl), (Nat.le_of_ble_eq_true rfl)⟩ (fun v L1 f1 H locs hp hh => ?_)
      obtain ⟨rfl, hL1, hf1⟩ := hp
      subst hL1; subst hf1
      refine lv_icmp_ge (tgt := 81) hx hb dX5_letSteamersLeave_12 (by decide) (fun c12 => ?_) (fun c12 => ?_)
      · have hie : i = N 4 := by
          rcases Nat.lt_or_ge i (N 4) with q | q
          · exact absurd c12 (nI_ge q (by omega))
          · omega
        have hz := hz.cast (show _ = (lvLoop (N 1) P C (N 4)).1 by rw [hie])
        refine lv_aload_n hx hb dX5_letSteamersLeave_81 rfl (lv_at hl 0 rfl) ?_
        refine k_callV0 (As := []) (g_forget hz (hw.keep (lv_kc KC.rf (N 1) P (N 4)))) S hh (cwV 0 hts gX5_letSteamersLeave_X5_forgetTheLeft rfl rfl rfl (by decide +kernel) ⟨(Nat.le_of_ble_eq_true rfl), (Nat.le_of_ble_eq_true rfl)⟩) hz.1.1.1 hz.1.1.2 (q := (RX5, TX5, 7)) rfl rfl rfl hl.1 rfl (Nat.le_of_ble_eq_true rfl) dX5_letSteamersLeave_82 ⟨(Nat.le_of_ble_eq_true rfl), (Nat.le_of_ble_eq_true rfl)⟩ (fun v L1 f1 H locs hp hh => ?_)
        obtain ⟨rfl, hL1, hz1⟩ := hp
        subst hL1
        have hz := hz.trans hz1
        refine lv_iload_n hx hb dX5_letSteamersLeave_85 rfl (lv_at hl 1 rfl) ?_
        exact k_iret hx hb hr hlk hh dX5_letSteamersLeave_86 (Nat.le_of_ble_eq_true rfl) (Nat.le_of_ble_eq_true rfl) ⟨congrArg (fun r => some (Value.int r)) (by rw [ex1, hie]), rfl, hz⟩
      · have hlt : i < N 4 := by
          rcases Nat.lt_or_ge i (N 4) with q | q
          · exact q
          · exact absurd (nI_le q (by omega)) c12
        refine lv_aload_n hx hb dX5_letSteamersLeave_15 rfl (lv_at hl 0 rfl) ?_
        refine xx_get S hh hz inX5 4 (by decide) rfl rfl (by decide +kernel) dX5_letSteamersLeave_16 ?_
        refine lv_iload_n hx hb dX5_letSteamersLeave_19 rfl (lv_at hl 2 rfl) ?_
        obtain ⟨mc20, hL20, hF20⟩ := hz.lst 4 (by decide)
        refine k_callV0 (As := [.int (nI i)]) (x_lget hz 4 (by decide) (i := i) hlt rfl) S hh (cwV 1 hts gX5_letSteamersLeave_Jx4a65c_get_915e3 rfl rfl rfl (by decide +kernel) ⟨(Nat.le_of_ble_eq_true rfl), (Nat.le_of_ble_eq_true rfl)⟩) hL20 hF20 (q := (RJx4a65c, TJx4a65c, 3)) rfl rfl rfl hl.1 rfl (Nat.le_of_ble_eq_true rfl) dX5_letSteamersLeave_20 ⟨(Nat.le_of_ble_eq_true rfl), (Nat.le_of_ble_eq_true rfl)⟩ (fun v L1 f1 H locs hp hh => ?_)
        obtain ⟨rfl, hL1, hf1⟩ := hp
        subst hL1; subst hf1
        refine h_cast hx hb hown hh (hz.1.2.1 3 (P i) (by decide) (hw.2.2.2 i hlt)).1 (hz.1.2.1 3 (P i) (by decide) (hw.2.2.2 i hlt)).2 (C := RX4) (T := TX4) (N := 4) rfl (hts (.classLink RX5 82 RX4) (by decide +kernel)) dX5_letSteamersLeave_23 ?_
        refine lv_astore_n (lv' := [(3, .ref (a 3 (P i))), (0, .ref x), (1, .int x1), (2, .int (nI i))]) hx hb dX5_letSteamersLeave_26 rfl hl (by decide) rfl (fun ls hl => ?_)
        refine lv_aload_n hx hb dX5_letSteamersLeave_27 rfl (lv_at hl 0 rfl) ?_
        refine lv_dup hx hb dX5_letSteamersLeave_28 rfl ?_
        refine x_get S hh hz 3 (by decide) (i := (P i)) (hw.2.2.2 i hlt) (Cn := RX4) (T := TX4) (Nn := 4) rfl inX4 2 (by decide) rfl rfl (by decide +kernel) dX5_letSteamersLeave_29 ?_
        refine lv_iconst (v := 1) hx hb dX5_letSteamersLeave_32 (by decide) ?_
        refine lv_isub hx hb dX5_letSteamersLeave_33 ?_
        refine x_put S hh hz 3 (by decide) (i := (P i)) (hw.2.2.2 i hlt) (Cn := RX4) (T := TX4) (Nn := 4) rfl inX4 tyX4 tyX4_ok nmX4 2 (by decide) (ty := .int) rfl rfl rfl rfl rfl (Nat.le_of_ble_eq_true rfl) (put3 _ _ _ _).2.1 (by decide +kernel) dX5_letSteamersLeave_34 (fun f9 H locs hh hz => ?_)
        refine lv_aload_n hx hb dX5_letSteamersLeave_37 rfl (lv_at hl 0 rfl) ?_
        refine x_get S hh hz 3 (by decide) (i := (P i)) (hw.2.2.2 i hlt) (Cn := RX4) (T := TX4) (Nn := 4) rfl inX4 1 (by decide) rfl rfl (by decide +kernel) dX5_letSteamersLeave_38 ?_
        refine lv_if_le (tgt := 51) hx hb dX5_letSteamersLeave_41 (by decide) (fun c41 => ?_) (fun c41 => ?_)
        · have d41 : ((lvLoop (N 1) P C i).1 12 (P i)) ≤ 0 := c41
          have hd : dueG (stM (lvLoop (N 1) P C i).1 13 (P i) (((lvLoop (N 1) P C i).1 13 (P i)) - 1)) (P i) = true := by unfold dueG; rw [decide_eq_true c41]; rfl
          refine lv_aload_n hx hb dX5_letSteamersLeave_51 rfl (lv_at hl 0 rfl) ?_
          refine lv_aload_n hx hb dX5_letSteamersLeave_52 rfl (lv_at hl 0 rfl) ?_
          refine x_get S hh hz 3 (by decide) (i := (P i)) (hw.2.2.2 i hlt) (Cn := RX4) (T := TX4) (Nn := 4) rfl inX4 1 (by decide) rfl rfl (by decide +kernel) dX5_letSteamersLeave_53 ?_
          refine lv_if_gt (tgt := 63) hx hb dX5_letSteamersLeave_56 (by decide) (fun c56 => ?_) (fun c56 => ?_)
          · have d56 : 0 < ((lvLoop (N 1) P C i).1 12 (P i)) := c56
            have q56 : ¬ ((lvLoop (N 1) P C i).1 12 (P i)) ≤ 0 := fun q => Int32.not_lt.mpr q d56
            refine lv_iconst (v := 3) hx hb dX5_letSteamersLeave_63 (by decide) ?_
            refine x_put S hh hz 3 (by decide) (i := (P i)) (hw.2.2.2 i hlt) (Cn := RX4) (T := TX4) (Nn := 4) rfl inX4 tyX4 tyX4_ok nmX4 3 (by decide) (ty := .int) rfl rfl rfl rfl rfl (Nat.le_of_ble_eq_true rfl) (put3 _ _ _ _).2.2 (by decide +kernel) dX5_letSteamersLeave_64 (fun f9 H locs hh hz => ?_)
            refine lv_aload_n hx hb dX5_letSteamersLeave_67 rfl (lv_at hl 1 rfl) ?_
            refine lv_aload_n hx hb dX5_letSteamersLeave_68 rfl (lv_at hl 0 rfl) ?_
            refine k_callV0 (As := [.ref (a 3 (P i))]) (g_recallLighters hz (hwi.keep ((KC.rf.st (by decide)).st (by decide))) (hw.2.2.2 i hlt)) S hh (cwV 1 hts gX5_letSteamersLeave_X5_recallLighters rfl rfl rfl (by decide +kernel) ⟨(Nat.le_of_ble_eq_true rfl), (Nat.le_of_ble_eq_true rfl)⟩) hz.1.1.1 hz.1.1.2 (q := (RX5, TX5, 7)) rfl rfl rfl hl.1 rfl (Nat.le_of_ble_eq_true rfl) dX5_letSteamersLeave_69 ⟨(Nat.le_of_ble_eq_true rfl), (Nat.le_of_ble_eq_true rfl)⟩ (fun v L1 f1 H locs hp hh => ?_)
            obtain ⟨rfl, hL1, hz1⟩ := hp
            subst hL1
            have hz := hz.trans hz1
            obtain ⟨x72, e72⟩ : ∃ y : Int32, y = x1 + 1 := ⟨_, rfl⟩
            refine lv_iinc (v := x72) (lv' := [(1, .int x72), (3, .ref (a 3 (P i))), (0, .ref x), (2, .int (nI i))]) hx hb dX5_letSteamersLeave_72 hl (k := 2) rfl (by rw [e72]; rfl) (by decide) rfl (fun ls hl => ?_)
            obtain ⟨x75, e75⟩ : ∃ y : Int32, y = (nI i) + 1 := ⟨_, rfl⟩
            refine lv_iinc (v := x75) (lv' := [(2, .int x75), (1, .int x72), (3, .ref (a 3 (P i))), (0, .ref x)]) hx hb dX5_letSteamersLeave_75 hl (k := 3) rfl (by rw [e75]; rfl) (by decide) rfl (fun ls hl => ?_)
            refine lv_goto (tgt := 4) hx hb dX5_letSteamersLeave_78 (by decide) ?_
            obtain rfl : x75 = nI (i + 1) := by rw [e75]; exact nI_1 i
            exact ih (i + 1) x72 (by omega) (by omega) (by rw [e72, lvLoop, lvG, ex1]; first | contradiction | (rw [if_pos hd, if_pos d41]) | (rw [if_pos hd, if_neg d41]) | (rw [if_neg (by rw [hd]; decide)])) _ _ _ hh (hz.cast (by rw [lvLoop, lvG]; first | contradiction | (rw [if_pos hd, if_pos d41]) | (rw [if_pos hd, if_neg d41]) | (rw [if_neg (by rw [hd]; decide)]))) ls (lv_sub hl [3, 1, 0] rfl)
          · have d56 : ¬ 0 < ((lvLoop (N 1) P C i).1 12 (P i)) := c56
            have q56 : ((lvLoop (N 1) P C i).1 12 (P i)) ≤ 0 := Int32.not_lt.mp d56
            refine lv_iconst (v := 2) hx hb dX5_letSteamersLeave_59 (by decide) ?_
            refine lv_goto (tgt := 64) hx hb dX5_letSteamersLeave_60 (by decide) ?_
            refine x_put S hh hz 3 (by decide) (i := (P i)) (hw.2.2.2 i hlt) (Cn := RX4) (T := TX4) (Nn := 4) rfl inX4 tyX4 tyX4_ok nmX4 3 (by decide) (ty := .int) rfl rfl rfl rfl rfl (Nat.le_of_ble_eq_true rfl) (put3 _ _ _ _).2.2 (by decide +kernel) dX5_letSteamersLeave_64 (fun f9 H locs hh hz => ?_)
            refine lv_aload_n hx hb dX5_letSteamersLeave_67 rfl (lv_at hl 1 rfl) ?_
            refine lv_aload_n hx hb dX5_letSteamersLeave_68 rfl (lv_at hl 0 rfl) ?_
            refine k_callV0 (As := [.ref (a 3 (P i))]) (g_recallLighters hz (hwi.keep ((KC.rf.st (by decide)).st (by decide))) (hw.2.2.2 i hlt)) S hh (cwV 1 hts gX5_letSteamersLeave_X5_recallLighters rfl rfl rfl (by decide +kernel) ⟨(Nat.le_of_ble_eq_true rfl), (Nat.le_of_ble_eq_true rfl)⟩) hz.1.1.1 hz.1.1.2 (q := (RX5, TX5, 7)) rfl rfl rfl hl.1 rfl (Nat.le_of_ble_eq_true rfl) dX5_letSteamersLeave_69 ⟨(Nat.le_of_ble_eq_true rfl), (Nat.le_of_ble_eq_true rfl)⟩ (fun v L1 f1 H locs hp hh => ?_)
            obtain ⟨rfl, hL1, hz1⟩ := hp
            subst hL1
            have hz := hz.trans hz1
            obtain ⟨x72, e72⟩ : ∃ y : Int32, y = x1 + 1 := ⟨_, rfl⟩
            refine lv_iinc (v := x72) (lv' := [(1, .int x72), (3, .ref (a 3 (P i))), (0, .ref x), (2, .int (nI i))]) hx hb dX5_letSteamersLeave_72 hl (k := 2) rfl (by rw [e72]; rfl) (by decide) rfl (fun ls hl => ?_)
            obtain ⟨x75, e75⟩ : ∃ y : Int32, y = (nI i) + 1 := ⟨_, rfl⟩
            refine lv_iinc (v := x75) (lv' := [(2, .int x75), (1, .int x72), (3, .ref (a 3 (P i))), (0, .ref x)]) hx hb dX5_letSteamersLeave_75 hl (k := 3) rfl (by rw [e75]; rfl) (by decide) rfl (fun ls hl => ?_)
            refine lv_goto (tgt := 4) hx hb dX5_letSteamersLeave_78 (by decide) ?_
            obtain rfl : x75 = nI (i + 1) := by rw [e75]; exact nI_1 i
            exact ih (i + 1) x72 (by omega) (by omega) (by rw [e72, lvLoop, lvG, ex1]; first | contradiction | (rw [if_pos hd, if_pos d41]) | (rw [if_pos hd, if_neg d41]) | (rw [if_neg (by rw [hd]; decide)])) _ _ _ hh (hz.cast (by rw [lvLoop, lvG]; first | contradiction | (rw [if_pos hd, if_pos d41]) | (rw [if_pos hd, if_neg d41]) | (rw [if_neg (by rw [hd]; decide)]))) ls (lv_sub hl [3, 1, 0] rfl)
        · have d41 : ¬ ((lvLoop (N 1) P C i).1 12 (P i)) ≤ 0 := c41
          refine lv_aload_n hx hb dX5_letSteamersLeave_44 rfl (lv_at hl 0 rfl) ?_
          refine x_get S hh hz 3 (by decide) (i := (P i)) (hw.2.2.2 i hlt) (Cn := RX4) (T := TX4) (Nn := 4) rfl inX4 2 (by decide) rfl rfl (by decide +kernel) dX5_letSteamersLeave_45 ?_
          refine lv_if_gt (tgt := 75) hx hb dX5_letSteamersLeave_48 (by decide) (fun c48 => ?_) (fun c48 => ?_)
          · have d48 : 0 < ((stM (lvLoop (N 1) P C i).1 13 (P i) (((lvLoop (N 1) P C i).1 13 (P i)) - 1)) 13 (P i)) := c48
            have hd : dueG (stM (lvLoop (N 1) P C i).1 13 (P i) (((lvLoop (N 1) P C i).1 13 (P i)) - 1)) (P i) = false := by unfold dueG; rw [decide_eq_false c41, decide_eq_false (fun q => Int32.not_lt.mpr q c48)]; rfl
            obtain ⟨x75, e75⟩ : ∃ y : Int32, y = (nI i) + 1 := ⟨_, rfl⟩
            refine lv_iinc (v := x75) (lv' := [(2, .int x75), (3, .ref (a 3 (P i))), (0, .ref x), (1, .int x1)]) hx hb dX5_letSteamersLeave_75 hl (k := 3) rfl (by rw [e75]; rfl) (by decide) rfl (fun ls hl => ?_)
            refine lv_goto (tgt := 4) hx hb dX5_letSteamersLeave_78 (by decide) ?_
            obtain rfl : x75 = nI (i + 1) := by rw [e75]; exact nI_1 i
            exact ih (i + 1) x1 (by omega) (by omega) (by rw [lvLoop, lvG, ex1]; first | contradiction | (rw [if_pos hd, if_pos d41]) | (rw [if_pos hd, if_neg d41]) | (rw [if_neg (by rw [hd]; decide)])) _ _ _ hh (hz.cast (by rw [lvLoop, lvG]; first | contradiction | (rw [if_pos hd, if_pos d41]) | (rw [if_pos hd, if_neg d41]) | (rw [if_neg (by rw [hd]; decide)]))) ls (lv_sub hl [2, 3, 0] rfl)
          · have d48 : ¬ 0 < ((stM (lvLoop (N 1) P C i).1 13 (P i) (((lvLoop (N 1) P C i).1 13 (P i)) - 1)) 13 (P i)) := c48
            have hd : dueG (stM (lvLoop (N 1) P C i).1 13 (P i) (((lvLoop (N 1) P C i).1 13 (P i)) - 1)) (P i) = true := by unfold dueG; rw [decide_eq_true (Int32.not_lt.mp c48), Bool.or_true]
            refine lv_aload_n hx hb dX5_letSteamersLeave_51 rfl (lv_at hl 0 rfl) ?_
            refine lv_aload_n hx hb dX5_letSteamersLeave_52 rfl (lv_at hl 0 rfl) ?_
            refine x_get S hh hz 3 (by decide) (i := (P i)) (hw.2.2.2 i hlt) (Cn := RX4) (T := TX4) (Nn := 4) rfl inX4 1 (by decide) rfl rfl (by decide +kernel) dX5_letSteamersLeave_53 ?_
            refine lv_if_gt (tgt := 63) hx hb dX5_letSteamersLeave_56 (by decide) (fun c56 => ?_) (fun c56 => ?_)
            · have d56 : 0 < ((lvLoop (N 1) P C i).1 12 (P i)) := c56
              have q56 : ¬ ((lvLoop (N 1) P C i).1 12 (P i)) ≤ 0 := fun q => Int32.not_lt.mpr q d56
              refine lv_iconst (v := 3) hx hb dX5_letSteamersLeave_63 (by decide) ?_
              refine x_put S hh hz 3 (by decide) (i := (P i)) (hw.2.2.2 i hlt) (Cn := RX4) (T := TX4) (Nn := 4) rfl inX4 tyX4 tyX4_ok nmX4 3 (by decide) (ty := .int) rfl rfl rfl rfl rfl (Nat.le_of_ble_eq_true rfl) (put3 _ _ _ _).2.2 (by decide +kernel) dX5_letSteamersLeave_64 (fun f9 H locs hh hz => ?_)
              refine lv_aload_n hx hb dX5_letSteamersLeave_67 rfl (lv_at hl 1 rfl) ?_
              refine lv_aload_n hx hb dX5_letSteamersLeave_68 rfl (lv_at hl 0 rfl) ?_
              refine k_callV0 (As := [.ref (a 3 (P i))]) (g_recallLighters hz (hwi.keep ((KC.rf.st (by decide)).st (by decide))) (hw.2.2.2 i hlt)) S hh (cwV 1 hts gX5_letSteamersLeave_X5_recallLighters rfl rfl rfl (by decide +kernel) ⟨(Nat.le_of_ble_eq_true rfl), (Nat.le_of_ble_eq_true rfl)⟩) hz.1.1.1 hz.1.1.2 (q := (RX5, TX5, 7)) rfl rfl rfl hl.1 rfl (Nat.le_of_ble_eq_true rfl) dX5_letSteamersLeave_69 ⟨(Nat.le_of_ble_eq_true rfl), (Nat.le_of_ble_eq_true rfl)⟩ (fun v L1 f1 H locs hp hh => ?_)
              obtain ⟨rfl, hL1, hz1⟩ := hp
              subst hL1
              have hz := hz.trans hz1
              obtain ⟨x72, e72⟩ : ∃ y : Int32, y = x1 + 1 := ⟨_, rfl⟩
              refine lv_iinc (v := x72) (lv' := [(1, .int x72), (3, .ref (a 3 (P i))), (0, .ref x), (2, .int (nI i))]) hx hb dX5_letSteamersLeave_72 hl (k := 2) rfl (by rw [e72]; rfl) (by decide) rfl (fun ls hl => ?_)
              obtain ⟨x75, e75⟩ : ∃ y : Int32, y = (nI i) + 1 := ⟨_, rfl⟩
              refine lv_iinc (v := x75) (lv' := [(2, .int x75), (1, .int x72), (3, .ref (a 3 (P i))), (0, .ref x)]) hx hb dX5_letSteamersLeave_75 hl (k := 3) rfl (by rw [e75]; rfl) (by decide) rfl (fun ls hl => ?_)
              refine lv_goto (tgt := 4) hx hb dX5_letSteamersLeave_78 (by decide) ?_
              obtain rfl : x75 = nI (i + 1) := by rw [e75]; exact nI_1 i
              exact ih (i + 1) x72 (by omega) (by omega) (by rw [e72, lvLoop, lvG, ex1]; first | contradiction | (rw [if_pos hd, if_pos d41]) | (rw [if_pos hd, if_neg d41]) | (rw [if_neg (by rw [hd]; decide)])) _ _ _ hh (hz.cast (by rw [lvLoop, lvG]; first | contradiction | (rw [if_pos hd, if_pos d41]) | (rw [if_pos hd, if_neg d41]) | (rw [if_neg (by rw [hd]; decide)]))) ls (lv_sub hl [3, 1, 0] rfl)
            · have d56 : ¬ 0 < ((lvLoop (N 1) P C i).1 12 (P i)) := c56
              have q56 : ((lvLoop (N 1) P C i).1 12 (P i)) ≤ 0 := Int32.not_lt.mp d56
              refine lv_iconst (v := 2) hx hb dX5_letSteamersLeave_59 (by decide) ?_
              refine lv_goto (tgt := 64) hx hb dX5_letSteamersLeave_60 (by decide) ?_
              refine x_put S hh hz 3 (by decide) (i := (P i)) (hw.2.2.2 i hlt) (Cn := RX4) (T := TX4) (Nn := 4) rfl inX4 tyX4 tyX4_ok nmX4 3 (by decide) (ty := .int) rfl rfl rfl rfl rfl (Nat.le_of_ble_eq_true rfl) (put3 _ _ _ _).2.2 (by decide +kernel) dX5_letSteamersLeave_64 (fun f9 H locs hh hz => ?_)
              refine lv_aload_n hx hb dX5_letSteamersLeave_67 rfl (lv_at hl 1 rfl) ?_
              refine lv_aload_n hx hb dX5_letSteamersLeave_68 rfl (lv_at hl 0 rfl) ?_
              refine k_callV0 (As := [.ref (a 3 (P i))]) (g_recallLighters hz (hwi.keep ((KC.rf.st (by decide)).st (by decide))) (hw.2.2.2 i hlt)) S hh (cwV 1 hts gX5_letSteamersLeave_X5_recallLighters rfl rfl rfl (by decide +kernel) ⟨(Nat.le_of_ble_eq_true rfl), (Nat.le_of_ble_eq_true rfl)⟩) hz.1.1.1 hz.1.1.2 (q := (RX5, TX5, 7)) rfl rfl rfl hl.1 rfl (Nat.le_of_ble_eq_true rfl) dX5_letSteamersLeave_69 ⟨(Nat.le_of_ble_eq_true rfl), (Nat.le_of_ble_eq_true rfl)⟩ (fun v L1 f1 H locs hp hh => ?_)
              obtain ⟨rfl, hL1, hz1⟩ := hp
              subst hL1
              have hz := hz.trans hz1
              obtain ⟨x72, e72⟩ : ∃ y : Int32, y = x1 + 1 := ⟨_, rfl⟩
              refine lv_iinc (v := x72) (lv' := [(1, .int x72), (3, .ref (a 3 (P i))), (0, .ref x), (2, .int (nI i))]) hx hb dX5_letSteamersLeave_72 hl (k := 2) rfl (by rw [e72]; rfl) (by decide) rfl (fun ls hl => ?_)
              obtain ⟨x75, e75⟩ : ∃ y : Int32, y = (nI i) + 1 := ⟨_, rfl⟩
              refine lv_iinc (v := x75) (lv' := [(2, .int x75), (1, .int x72), (3, .ref (a 3 (P i))), (0, .ref x)]) hx hb dX5_letSteamersLeave_75 hl (k := 3) rfl (by rw [e75]; rfl) (by decide) rfl (fun ls hl => ?_)
              refine lv_goto (tgt := 4) hx hb dX5_letSteamersLeave_78 (by decide) ?_
              obtain rfl : x75 = nI (i + 1) := by rw [e75]; exact nI_1 i
              exact ih (i + 1) x72 (by omega) (by omega) (by rw [e72, lvLoop, lvG, ex1]; first | contradiction | (rw [if_pos hd, if_pos d41]) | (rw [if_pos hd, if_neg d41]) | (rw [if_neg (by rw [hd]; decide)])) _ _ _ hh (hz.cast (by rw [lvLoop, lvG]; first | contradiction | (rw [if_pos hd, if_pos d41]) | (rw [if_pos hd, if_neg d41]) | (rw [if_neg (by rw [hd]; decide)]))) ls (lv_sub hl [3, 1, 0] rfl)
  exact loop (N 4 + 1) 0 0 (Nat.zero_le _) (by omega) rfl _ _ _ hh hz ls (lv_sub hl [2, 1, 0] rfl)

set_option maxRecDepth 100000 in
set_option maxHeartbeats 4000000 in
theorem g_hour {l : Launch} {κ : Kx} {x : Nat} {a : AD} {N P : Nat → Nat} {C : MS} {L L0 : List Nat} {f0 f : Nat → va_E} (hz : ZC κ x a N P C L0 f0 L f) (hw : WC N P C) : PM l κ yX5_passAnHour wsX5_passAnHour ({ frames := 5, cells := 0, slots := 0, locals := 115 } : Room) [.ref x] L f (fun v L1 f1 => v = some (.int (hr2 N P C).2) ∧ L = L1 ∧ ZC κ x a (va_up N 4 (hrP N P C).2) (hrP N P C).1 (hrC N P C) L f L1 f1) noX 0 0 := by
  refine PM.mk (cc := cX5_passAnHour) (maxL := 2) (ret := (some .int)) (by decide) rfl (Nat.le_of_ble_eq_true rfl) ?_
  intro p e s m args below meth c ls hx hb hml hr hlk hnm hown hts ht hh hl
  have hl : lv_has ls 2 [(0, .ref x)] := hl
  have S : CallFix p m c cX5_passAnHour 2 s args wsX5_passAnHour RX5 := ⟨hx, hb, hml, hown, hts⟩
  have inX0 : ∀ w ∈ wsX00, w ∈ wsX5_passAnHour := by decide +kernel
  have inX1 : ∀ w ∈ wsX10, w ∈ wsX5_passAnHour := by decide +kernel
  have inX2 : ∀ w ∈ wsX20, w ∈ wsX5_passAnHour := by decide +kernel
  have inX3 : ∀ w ∈ wsX30, w ∈ wsX5_passAnHour := by decide +kernel
  have inX4 : ∀ w ∈ wsX40, w ∈ wsX5_passAnHour := by decide +kernel
  have inX5 : ∀ w ∈ wsX50, w ∈ wsX5_passAnHour := by decide +kernel
  have hz := hz.self
  refine lv_aload_n hx hb dX5_passAnHour_0 rfl (lv_at hl 0 rfl) ?_
  refine k_callV0 (As := []) (g_restGangs hz hw) S hh (cwV 0 hts gX5_passAnHour_X5_restGangs rfl rfl rfl (by decide +kernel) ⟨(Nat.le_of_ble_eq_true rfl), (Nat.le_of_ble_eq_true rfl)⟩) hz.1.1.1 hz.1.1.2 (q := (RX5, TX5, 7)) rfl rfl rfl hl.1 rfl (Nat.le_of_ble_eq_true rfl) dX5_passAnHour_1 ⟨(Nat.le_of_ble_eq_true rfl), (Nat.le_of_ble_eq_true rfl)⟩ (fun v L1 f1 H locs hp hh => ?_)
  obtain ⟨rfl, hL1, hz1⟩ := hp
  subst hL1
  have hz := hz.trans hz1
  refine lv_aload_n hx hb dX5_passAnHour_4 rfl (lv_at hl 0 rfl) ?_
  refine k_callV0 (As := []) (g_takeBuoys hz (hw.keep (rst_kc KC.rf _))) S hh (cwV 0 hts gX5_passAnHour_X5_takeBuoys rfl rfl rfl (by decide +kernel) ⟨(Nat.le_of_ble_eq_true rfl), (Nat.le_of_ble_eq_true rfl)⟩) hz.1.1.1 hz.1.1.2 (q := (RX5, TX5, 7)) rfl rfl rfl hl.1 rfl (Nat.le_of_ble_eq_true rfl) dX5_passAnHour_5 ⟨(Nat.le_of_ble_eq_true rfl), (Nat.le_of_ble_eq_true rfl)⟩ (fun v L1 f1 H locs hp hh => ?_)
  obtain ⟨rfl, hL1, hz1⟩ := hp
  subst hL1
  have hz := hz.trans hz1
  refine lv_aload_n hx hb dX5_passAnHour_8 rfl (lv_at hl 0 rfl) ?_
  refine k_callV0 (As := []) (g_workLighters hz (hw.keep (by_kc (rst_kc KC.rf _) _))) S hh (cwV 0 hts gX5_passAnHour_X5_workLighters rfl rfl rfl (by decide +kernel) ⟨(Nat.le_of_ble_eq_true rfl), (Nat.le_of_ble_eq_true rfl)⟩) hz.1.1.1 hz.1.1.2 (q := (RX5, TX5, 7)) rfl rfl rfl hl.1 rfl (Nat.le_of_ble_eq_true rfl) dX5_passAnHour_9 ⟨(Nat.le_of_ble_eq_true rfl), (Nat.le_of_ble_eq_true rfl)⟩ (fun v L1 f1 H locs hp hh => ?_)
  obtain ⟨rfl, hL1, hz1⟩ := hp
  subst hL1
  have hz := hz.trans hz1
  refine lv_aload_n hx hb dX5_passAnHour_12 rfl (lv_at hl 0 rfl) ?_
  refine k_callV0 (As := []) (g_leave hz (hw.keep (hr_kc N P C))) S hh (cwV 0 hts gX5_passAnHour_X5_letSteamersLeave rfl rfl rfl (by decide +kernel) ⟨(Nat.le_of_ble_eq_true rfl), (Nat.le_of_ble_eq_true rfl)⟩) hz.1.1.1 hz.1.1.2 (q := (RX5, TX5, 7)) rfl rfl rfl hl.1 rfl (Nat.le_of_ble_eq_true rfl) dX5_passAnHour_13 ⟨(Nat.le_of_ble_eq_true rfl), (Nat.le_of_ble_eq_true rfl)⟩ (fun v L1 f1 H locs hp hh => ?_)
  obtain ⟨rfl, hL1, hz1⟩ := hp
  subst hL1
  have hz := hz.trans hz1
  refine lv_topi (fun x16 e16 => ?_)
  refine lv_istore_n (lv' := [(1, .int x16), (0, .ref x)]) hx hb dX5_passAnHour_16 rfl hl (by decide) rfl (fun ls hl => ?_)
  refine lv_aload_n hx hb dX5_passAnHour_17 rfl (lv_at hl 1 rfl) ?_
  refine lv_dup hx hb dX5_passAnHour_18 rfl ?_
  refine xx_get S hh hz inX5 5 (by decide) rfl rfl (by decide +kernel) dX5_passAnHour_19 ?_
  refine lv_iconst (v := 1) hx hb dX5_passAnHour_22 (by decide) ?_
  refine lv_iadd hx hb dX5_passAnHour_23 ?_
  refine xx_put S hh hz inX5 5 16 (by decide) rfl rfl rfl (by decide +kernel) dX5_passAnHour_24 (fun f9 H locs hh hz => ?_)
  refine lv_iload_n hx hb dX5_passAnHour_27 rfl (lv_at hl 0 rfl) ?_
  subst e16
  exact k_iret hx hb hr hlk hh dX5_passAnHour_28 (Nat.le_of_ble_eq_true rfl) (Nat.le_of_ble_eq_true rfl) ⟨rfl, rfl, hz⟩
