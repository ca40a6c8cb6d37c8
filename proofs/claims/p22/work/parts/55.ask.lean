/-! the law asks: is a gang ordered; is all coal found; are the steamers in order -/
set_option maxRecDepth 100000 in
set_option maxHeartbeats 4000000 in
theorem k_isOrdered {l : Launch} (hst : l.stackTraces = false) {κ : Kx} {x : Nat} {a : AD} {N P : Nat → Nat} {C : MS} {L L0 : List Nat} {f0 f : Nat → va_E} (hz : ZC κ x a N P C L0 f0 L f) {M : MS} {n0 : Nat} {came wanted : Int} (hq : QS (N, P, C) M n0 came wanted) {w : Int32} : PM l κ yL_isOrdered wsL_isOrdered ({ frames := 8, cells := 6, slots := 36, locals := 125 } : Room) [.ref x, .int (nI (N 1)), .int w] L f (fun v9 L1 f1 => ∃ r : Int32, v9 = some (.int r) ∧ (r = 1 ∨ r = 0 ∧ ∀ j, j < N 1 → ¬ C 6 j = w) ∧ L = L1 ∧ f = f1) noX 6 36 := by
  refine PM.mk (cc := cL_isOrdered) (maxL := 4) (ret := (some .boolean)) (by decide) rfl (Nat.le_of_ble_eq_true rfl) ?_
  intro p e s m args below meth c ls hx hb hml hr hlk hnm hown hts ht hh hl
  have hl : lv_has ls 4 [(0, .ref x), (1, .int (nI (N 1))), (2, .int w)] := hl
  have S : CallFix p m c cL_isOrdered 4 s args wsL_isOrdered RL := ⟨hx, hb, hml, hown, hts⟩
  have hz := hz.self
  obtain ⟨hw, fHu, fLi, fTo, fWa, fWk, fSt, fBu, fS1, fN3, fC0⟩ := hq.f
  obtain ⟨b0, b1, b2, b3, b4⟩ := id hw.1
  refine lv_iconst (v := 0) hx hb dL_isOrdered_0 (by decide) ?_
  refine lv_istore_n (lv' := [(3, .int 0), (0, .ref x), (1, .int (nI (N 1))), (2, .int w)]) hx hb dL_isOrdered_1 rfl hl (by decide) rfl (fun ls hl => ?_)
  have loop : ∀ (n i : Nat), i ≤ N 1 → N 1 + 1 ≤ i + n → (∀ j, j < i → ¬ C 6 j = w) → ∀ (H : Heap) (locs : List Loc), HH κ L f s H locs → ∀ ls : Array Slot, lv_has ls 4 [(0, .ref x), (1, .int (nI (N 1))), (2, .int w), (3, .int (nI i))] → W p l e ({ frames := 8, cells := 6, slots := 36, locals := 125 } : Room) s m args below meth c H locs (1 * i) (6 * i) (vx_MQ below (PQ κ (fun v9 L1 f1 => ∃ r : Int32, v9 = some (.int r) ∧ (r = 1 ∨ r = 0 ∧ ∀ j, j < N 1 → ¬ C 6 j = w) ∧ L = L1 ∧ f = f1)) (PX κ L f noX) args s 6 36 (kA κ)) (F0 m 2 ls []) := by
    intro n
    induction n with
    | zero =>
      intro i h1 h2
      exact absurd h2 (by omega)
    | succ n ih =>
      intro i hi hin3 hno H locs hh ls hl
      refine lv_iload_n hx hb dL_isOrdered_2 rfl (lv_at hl 3 rfl) ?_
      refine lv_iload_n hx hb dL_isOrdered_3 rfl (lv_at hl 1 rfl) ?_
      refine lv_icmp_ge (tgt := 24) hx hb dL_isOrdered_4 (by decide) (fun c4 => ?_) (fun c4 => ?_)
      · have hie : i = N 1 := by
          rcases Nat.lt_or_ge i (N 1) with q | q
          · exact absurd c4 (nI_ge q (by omega))
          · omega
        refine lv_iconst (v := 0) hx hb dL_isOrdered_24 (by decide) ?_
        exact k_zret hx hb hr hlk (rfl) hh dL_isOrdered_25 (by omega) (by omega) ⟨0, rfl, Or.inr ⟨rfl, fun j hj => hno j (by omega)⟩, rfl, rfl⟩
      · have hlt : i < N 1 := by
          rcases Nat.lt_or_ge i (N 1) with q | q
          · exact q
          · exact absurd (nI_le q (by omega)) c4
        refine lv_aload_n hx hb dL_isOrdered_7 rfl (lv_at hl 0 rfl) ?_
        refine lv_iload_n hx hb dL_isOrdered_8 rfl (lv_at hl 3 rfl) ?_
        refine k_callV0 (As := [.int (nI i)]) (q_gangOn hst hz hw (w := (nI i)) (k := i) hlt rfl) S hh (cwV 1 hts gL_isOrdered_X5_gangOn rfl rfl rfl (by decide +kernel) ⟨(Nat.le_of_ble_eq_true rfl), (Nat.le_of_ble_eq_true rfl)⟩) hz.1.1.1 hz.1.1.2 (q := (RX5, TX5, 7)) rfl rfl rfl hl.1 rfl (Nat.le_of_ble_eq_true rfl) dL_isOrdered_9 ⟨(by show _ ≤ 6; omega), (by show _ ≤ 36; omega)⟩ (fun v9 L1 f1 H locs hp hh => ?_)
        obtain ⟨rfl, hL1, hf1⟩ := hp
        subst hL1; subst hf1
        refine lv_iload_n hx hb dL_isOrdered_12 rfl (lv_at hl 2 rfl) ?_
        refine lv_icmp_ne (tgt := 18) hx hb dL_isOrdered_13 (by decide) (fun c13 => ?_) (fun c13 => ?_)
        · obtain ⟨x18, e18⟩ : ∃ y : Int32, y = (nI i) + 1 := ⟨_, rfl⟩
          refine lv_iinc (v := x18) (lv' := [(3, .int x18), (0, .ref x), (1, .int (nI (N 1))), (2, .int w)]) hx hb dL_isOrdered_18 hl (k := 3) rfl (by rw [e18]; rfl) (by decide) rfl (fun ls hl => ?_)
          refine lv_goto (tgt := 2) hx hb dL_isOrdered_21 (by decide) ?_
          obtain rfl : x18 = nI (i + 1) := by rw [e18]; exact nI_1 i
          refine W.widen (k := 1 * (i + 1)) (n := 6 * (i + 1)) (by omega) (by omega) ?_
          exact ih (i + 1) (by omega) (by omega) (fun j hj => (Nat.lt_or_ge j i).elim (fun q => hno j q) (fun q => by rw [show j = i by omega]; exact c13)) _ _ hh ls (lv_sub hl [1, 2, 3, 0] rfl)
        · refine lv_iconst (v := 1) hx hb dL_isOrdered_16 (by decide) ?_
          exact k_zret hx hb hr hlk (rfl) hh dL_isOrdered_17 (by omega) (by omega) ⟨1, rfl, Or.inl rfl, rfl, rfl⟩
  exact loop (N 1 + 1) 0 (Nat.zero_le _) (by omega) (fun j hj => absurd hj (Nat.not_lt_zero _)) _ _ hh ls (lv_sub hl [1, 2, 3, 0] rfl)

theorem oI_step (A : Int) (x : Int32) : Int32.ofInt (A + x.toInt) = Int32.ofInt A + x := by rw [Int32.ofInt_add, Int32.ofInt_toInt]
theorem oI_step2 (A : Int) (c2 c3 : Nat → Int32) (i : Nat) : Int32.ofInt (A + sI c2 i + sI c3 i) + (c2 i + c3 i) = Int32.ofInt (A + sI c2 (i + 1) + sI c3 (i + 1)) := by
  rw [sI_succ, sI_succ, show A + (sI c2 i + (c2 i).toInt) + (sI c3 i + (c3 i).toInt) = A + sI c2 i + sI c3 i + (c2 i).toInt + (c3 i).toInt by omega, oI_step, oI_step, Int32.add_assoc]

set_option maxRecDepth 100000 in
set_option maxHeartbeats 4000000 in
theorem k_coal {l : Launch} (hst : l.stackTraces = false) {κ : Kx} {x : Nat} {a : AD} {N P : Nat → Nat} {C : MS} {L L0 : List Nat} {f0 f : Nat → va_E} (hz : ZC κ x a N P C L0 f0 L f) {M : MS} {n0 : Nat} {came wanted : Int} (hq : QS (N, P, C) M n0 came wanted) {hd : Nat} {gg : Nat → Int32} (hd1 : hd ∈ L) (hd2 : f hd = .inl (kI κ, 6, .inl gg)) (hd3 : ∀ i, i < N 1 → gg i = C 1 i) {cm : Int32} (hcm : cm = Int32.ofInt came) : PM l κ yL_coal wsL_coal ({ frames := 8, cells := 126, slots := 756, locals := 125 } : Room) [.ref x, .int cm, .int (nI (N 0)), .ref hd, .int (nI (N 1))] L f (fun v9 L1 f1 => v9 = some (.int 1) ∧ L = L1 ∧ f = f1) noX 126 756 := by
  refine PM.mk (cc := cL_coal) (maxL := 9) (ret := (some .boolean)) (by decide) rfl (Nat.le_of_ble_eq_true rfl) ?_
  intro p e s m args below meth c ls hx hb hml hr hlk hnm hown hts ht hh hl
  have hl : lv_has ls 9 [(0, .ref x), (1, .int cm), (2, .int (nI (N 0))), (3, .ref hd), (4, .int (nI (N 1)))] := hl
  have S : CallFix p m c cL_coal 9 s args wsL_coal RL := ⟨hx, hb, hml, hown, hts⟩
  have hz := hz.self
  obtain ⟨hw, fHu, fLi, fTo, fWa, fWk, fSt, fBu, fS1, fN3, fC0⟩ := hq.f
  obtain ⟨b0, b1, b2, b3, b4⟩ := id hw.1
  refine lv_aload_n hx hb dL_coal_0 rfl (lv_at hl 0 rfl) ?_
  refine k_callV0 (As := []) (g_delivered hz) S hh (cwV 0 hts gL_coal_X5_delivered rfl rfl rfl (by decide +kernel) ⟨(Nat.le_of_ble_eq_true rfl), (Nat.le_of_ble_eq_true rfl)⟩) hz.1.1.1 hz.1.1.2 (q := (RX5, TX5, 7)) rfl rfl rfl hl.1 rfl (Nat.le_of_ble_eq_true rfl) dL_coal_1 ⟨(by show _ ≤ 126; omega), (by show _ ≤ 756; omega)⟩ (fun v9 L1 f1 H locs hp hh => ?_)
  obtain ⟨rfl, hL1, hf1⟩ := hp
  subst hL1; subst hf1
  refine lv_topi (fun x4 e4 => ?_)
  refine lv_istore (lv' := [(5, .int x4), (0, .ref x), (1, .int cm), (2, .int (nI (N 0))), (3, .ref hd), (4, .int (nI (N 1)))]) hx hb dL_coal_4 hl (by decide) rfl (fun ls hl => ?_)
  refine lv_iconst (v := 0) hx hb dL_coal_6 (by decide) ?_
  refine lv_istore (lv' := [(6, .int 0), (5, .int x4), (0, .ref x), (1, .int cm), (2, .int (nI (N 0))), (3, .ref hd), (4, .int (nI (N 1)))]) hx hb dL_coal_7 hl (by decide) rfl (fun ls hl => ?_)
  have loop1 : ∀ (n i : Nat) (x5 : Int32), i ≤ N 0 → N 0 + 1 ≤ i + n → x5 = Int32.ofInt ((C 17 0).toInt + sI (C 0) i) → ∀ (H : Heap) (locs : List Loc), HH κ L f s H locs → ∀ ls : Array Slot, lv_has ls 9 [(0, .ref x), (1, .int cm), (2, .int (nI (N 0))), (3, .ref hd), (4, .int (nI (N 1))), (5, .int x5), (6, .int (nI i))] → W p l e ({ frames := 8, cells := 126, slots := 756, locals := 125 } : Room) s m args below meth c H locs (2 * i) (12 * i) (vx_MQ below (PQ κ (fun v9 L1 f1 => v9 = some (.int 1) ∧ L = L1 ∧ f = f1)) (PX κ L f noX) args s 126 756 (kA κ)) (F0 m 9 ls []) := by
    intro n
    induction n with
    | zero =>
      intro i x5 h1 h2
      exact absurd h2 (by omega)
    | succ n ih =>
      intro i x5 hi hin3 ex5 H locs hh ls hl
      refine lv_iload hx hb dL_coal_9 (lv_at hl 6 rfl) ?_
      refine lv_iload_n hx hb dL_coal_11 rfl (lv_at hl 2 rfl) ?_
      refine lv_icmp_ge (tgt := 43) hx hb dL_coal_12 (by decide) (fun c12 => ?_) (fun c12 => ?_)
      · have hie : i = N 0 := by
          rcases Nat.lt_or_ge i (N 0) with q | q
          · exact absurd c12 (nI_ge q (by omega))
          · omega
        refine lv_iconst (v := 0) hx hb dL_coal_43 (by decide) ?_
        refine lv_istore (lv' := [(6, .int 0), (0, .ref x), (1, .int cm), (2, .int (nI (N 0))), (3, .ref hd), (4, .int (nI (N 1))), (5, .int x5)]) hx hb dL_coal_44 hl (by decide) rfl (fun ls hl => ?_)
        have loop2 : ∀ (n i : Nat) (x5 : Int32), i ≤ N 1 → N 1 + 1 ≤ i + n → x5 = Int32.ofInt ((C 17 0).toInt + sI (C 0) (N 0) + sI (C 2) i + sI (C 3) i) → ∀ (H : Heap) (locs : List Loc), HH κ L f s H locs → ∀ ls : Array Slot, lv_has ls 9 [(0, .ref x), (1, .int cm), (2, .int (nI (N 0))), (3, .ref hd), (4, .int (nI (N 1))), (5, .int x5), (6, .int (nI i))] → W p l e ({ frames := 8, cells := 126, slots := 756, locals := 125 } : Room) s m args below meth c H locs (6 + 20 * i) (36 + 120 * i) (vx_MQ below (PQ κ (fun v9 L1 f1 => v9 = some (.int 1) ∧ L = L1 ∧ f = f1)) (PX κ L f noX) args s 126 756 (kA κ)) (F0 m 46 ls []) := by
          intro n
          induction n with
          | zero =>
            intro i x5 h1 h2
            exact absurd h2 (by omega)
          | succ n ih2 =>
            intro i x5 hi2 hin4 ex5 H locs hh ls hl
            refine lv_iload hx hb dL_coal_46 (lv_at hl 6 rfl) ?_
            refine lv_iload hx hb dL_coal_48 (lv_at hl 4 rfl) ?_
            refine lv_icmp_ge (tgt := 198) hx hb dL_coal_50 (by decide) (fun c50 => ?_) (fun c50 => ?_)
            · have hie2 : i = N 1 := by
                rcases Nat.lt_or_ge i (N 1) with q | q
                · exact absurd c50 (nI_ge q (by omega))
                · omega
              refine lv_iload hx hb dL_coal_198 (lv_at hl 5 rfl) ?_
              refine lv_iload_n hx hb dL_coal_200 rfl (lv_at hl 1 rfl) ?_
              refine lv_icmp_ne (tgt := 208) hx hb dL_coal_201 (by decide) (fun c201 => ?_) (fun c201 => ?_)
              · exact absurd (by rw [ex5, hcm, hie2]; exact congrArg Int32.ofInt (by have h9 := fTo.1; omega)) c201
              · refine lv_iconst (v := 1) hx hb dL_coal_204 (by decide) ?_
                refine lv_goto (tgt := 209) hx hb dL_coal_205 (by decide) ?_
                exact k_zret hx hb hr hlk (rfl) hh dL_coal_209 (by omega) (by omega) ⟨rfl, rfl, rfl⟩
            · have hlt : i < N 1 := by
                rcases Nat.lt_or_ge i (N 1) with q | q
                · exact q
                · exact absurd (nI_le q (by omega)) c50
              refine lv_iload hx hb dL_coal_53 (lv_at hl 5 rfl) ?_
              refine lv_aload_n hx hb dL_coal_55 rfl (lv_at hl 0 rfl) ?_
              refine lv_iload hx hb dL_coal_56 (lv_at hl 6 rfl) ?_
              refine k_callV0 (As := [.int (nI i)]) (q_loadOf hst hz hw (w := (nI i)) (k := i) hlt rfl) S hh (cwV 1 hts gL_coal_X5_loadOf rfl rfl rfl (by decide +kernel) ⟨(Nat.le_of_ble_eq_true rfl), (Nat.le_of_ble_eq_true rfl)⟩) hz.1.1.1 hz.1.1.2 (q := (RX5, TX5, 7)) rfl rfl rfl hl.1 rfl (Nat.le_of_ble_eq_true rfl) dL_coal_58 ⟨(by show _ ≤ 126; omega), (by show _ ≤ 756; omega)⟩ (fun v9 L1 f1 H locs hp hh => ?_)
              obtain ⟨rfl, hL1, hf1⟩ := hp
              subst hL1; subst hf1
              refine lv_aload_n hx hb dL_coal_61 rfl (lv_at hl 0 rfl) ?_
              refine lv_iload hx hb dL_coal_62 (lv_at hl 6 rfl) ?_
              refine k_callV0 (As := [.int (nI i)]) (q_dustIn hst hz hw (w := (nI i)) (k := i) hlt rfl) S hh (cwV 1 hts gL_coal_X5_dustIn rfl rfl rfl (by decide +kernel) ⟨(Nat.le_of_ble_eq_true rfl), (Nat.le_of_ble_eq_true rfl)⟩) hz.1.1.1 hz.1.1.2 (q := (RX5, TX5, 7)) rfl rfl rfl hl.1 rfl (Nat.le_of_ble_eq_true rfl) dL_coal_64 ⟨(by show _ ≤ 126; omega), (by show _ ≤ 756; omega)⟩ (fun v9 L1 f1 H locs hp hh => ?_)
              obtain ⟨rfl, hL1, hf1⟩ := hp
              subst hL1; subst hf1
              refine lv_iadd hx hb dL_coal_67 ?_
              refine lv_iadd hx hb dL_coal_68 ?_
              refine lv_topi (fun x69 e69 => ?_)
              refine lv_istore (lv' := [(5, .int x69), (0, .ref x), (1, .int cm), (2, .int (nI (N 0))), (3, .ref hd), (4, .int (nI (N 1))), (6, .int (nI i))]) hx hb dL_coal_69 hl (by decide) rfl (fun ls hl => ?_)
              refine lv_aload_n hx hb dL_coal_71 rfl (lv_at hl 1 rfl) ?_
              refine lv_iload hx hb dL_coal_72 (lv_at hl 6 rfl) ?_
              refine k_callV0 (As := [.int (nI i)]) (q_gangOn hst hz hw (w := (nI i)) (k := i) hlt rfl) S hh (cwV 1 hts gL_coal_X5_gangOn rfl rfl rfl (by decide +kernel) ⟨(Nat.le_of_ble_eq_true rfl), (Nat.le_of_ble_eq_true rfl)⟩) hz.1.1.1 hz.1.1.2 (q := (RX5, TX5, 7)) rfl rfl rfl hl.1 rfl (Nat.le_of_ble_eq_true rfl) dL_coal_74 ⟨(by show _ ≤ 126; omega), (by show _ ≤ 756; omega)⟩ (fun v9 L1 f1 H locs hp hh => ?_)
              obtain ⟨rfl, hL1, hf1⟩ := hp
              subst hL1; subst hf1
              refine lv_if_ge (tgt := 84) hx hb dL_coal_77 (by decide) (fun c77 => ?_) (fun c77 => ?_)
              · have h6 : ¬ C 6 i = -1 := fun z => by rw [z] at c77; exact absurd c77 (by decide)
                obtain ⟨⟨w1, w2⟩, -, w4⟩ := (fWk.1 i hlt).2.2 h6
                refine lv_iconst (v := 0) hx hb dL_coal_84 (by decide) ?_
                refine lv_istore (lv' := [(7, .int 0), (5, .int x69), (0, .ref x), (1, .int cm), (2, .int (nI (N 0))), (3, .ref hd), (4, .int (nI (N 1))), (6, .int (nI i))]) hx hb dL_coal_85 hl (by decide) rfl (fun ls hl => ?_)
                refine lv_aload_n hx hb dL_coal_87 rfl (lv_at hl 2 rfl) ?_
                refine lv_iload hx hb dL_coal_88 (lv_at hl 7 rfl) ?_
                refine k_callV0 (As := [.int (nI i)]) (q_loadOf hst hz hw (w := (nI i)) (k := i) hlt rfl) S hh (cwV 1 hts gL_coal_X5_loadOf rfl rfl rfl (by decide +kernel) ⟨(Nat.le_of_ble_eq_true rfl), (Nat.le_of_ble_eq_true rfl)⟩) hz.1.1.1 hz.1.1.2 (q := (RX5, TX5, 7)) rfl rfl rfl hl.1 rfl (Nat.le_of_ble_eq_true rfl) dL_coal_90 ⟨(by show _ ≤ 126; omega), (by show _ ≤ 756; omega)⟩ (fun v9 L1 f1 H locs hp hh => ?_)
                obtain ⟨rfl, hL1, hf1⟩ := hp
                subst hL1; subst hf1
                refine lv_if_lt (tgt := 132) hx hb dL_coal_93 (by decide) (fun c93 => ?_) (fun c93 => ?_)
                · exact absurd (Kit.i32_nonneg.mpr (fLi i hlt).1.1) (Int32.not_le.mpr c93)
                · refine lv_aload_n hx hb dL_coal_96 rfl (lv_at hl 2 rfl) ?_
                  refine lv_iload hx hb dL_coal_97 (lv_at hl 7 rfl) ?_
                  refine k_callV0 (As := [.int (nI i)]) (q_loadOf hst hz hw (w := (nI i)) (k := i) hlt rfl) S hh (cwV 1 hts gL_coal_X5_loadOf rfl rfl rfl (by decide +kernel) ⟨(Nat.le_of_ble_eq_true rfl), (Nat.le_of_ble_eq_true rfl)⟩) hz.1.1.1 hz.1.1.2 (q := (RX5, TX5, 7)) rfl rfl rfl hl.1 rfl (Nat.le_of_ble_eq_true rfl) dL_coal_99 ⟨(by show _ ≤ 126; omega), (by show _ ≤ 756; omega)⟩ (fun v9 L1 f1 H locs hp hh => ?_)
                  obtain ⟨rfl, hL1, hf1⟩ := hp
                  subst hL1; subst hf1
                  refine lv_aload_n hx hb dL_coal_102 rfl (lv_at hl 5 rfl) ?_
                  refine lv_iload hx hb dL_coal_103 (lv_at hl 7 rfl) ?_
                  refine l_ald hx hb hh hd1 hd2 (i := i) (by omega) (hd3 i hlt) dL_coal_105 ?_
                  refine lv_icmp_gt (tgt := 132) hx hb dL_coal_106 (by decide) (fun c106 => ?_) (fun c106 => ?_)
                  · exact absurd c106 (Int32.not_lt.mpr (i32_le (fLi i hlt).1.2.1))
                  · refine lv_aload_n hx hb dL_coal_109 rfl (lv_at hl 2 rfl) ?_
                    refine lv_iload hx hb dL_coal_110 (lv_at hl 7 rfl) ?_
                    refine k_callV0 (As := [.int (nI i)]) (q_dustIn hst hz hw (w := (nI i)) (k := i) hlt rfl) S hh (cwV 1 hts gL_coal_X5_dustIn rfl rfl rfl (by decide +kernel) ⟨(Nat.le_of_ble_eq_true rfl), (Nat.le_of_ble_eq_true rfl)⟩) hz.1.1.1 hz.1.1.2 (q := (RX5, TX5, 7)) rfl rfl rfl hl.1 rfl (Nat.le_of_ble_eq_true rfl) dL_coal_112 ⟨(by show _ ≤ 126; omega), (by show _ ≤ 756; omega)⟩ (fun v9 L1 f1 H locs hp hh => ?_)
                    obtain ⟨rfl, hL1, hf1⟩ := hp
                    subst hL1; subst hf1
                    refine lv_if_lt (tgt := 132) hx hb dL_coal_115 (by decide) (fun c115 => ?_) (fun c115 => ?_)
                    · exact absurd (Kit.i32_nonneg.mpr (fLi i hlt).2) (Int32.not_le.mpr c115)
                    · refine lv_iload hx hb dL_coal_118 (lv_at hl 0 rfl) ?_
                      refine lv_if_eq (tgt := 134) hx hb dL_coal_120 (by decide) (fun _ => ?_) (fun c => absurd (show ¬ (0 : Int32) = (0 : Int32) from c) (by decide))
                      refine lv_iconst (v := 0) hx hb dL_coal_134 (by decide) ?_
                      refine lv_istore (lv' := [(8, .int 0), (7, .int 0), (5, .int x69), (0, .ref x), (1, .int cm), (2, .int (nI (N 0))), (3, .ref hd), (4, .int (nI (N 1))), (6, .int (nI i))]) hx hb dL_coal_135 hl (by decide) rfl (fun ls hl => ?_)
                      have loop3 : ∀ (n3 j : Nat), j ≤ i → i + 1 ≤ j + n3 → ∀ (H : Heap) (locs : List Loc), HH κ L f s H locs → ∀ ls : Array Slot, lv_has ls 9 [(0, .ref x), (1, .int cm), (2, .int (nI (N 0))), (3, .ref hd), (4, .int (nI (N 1))), (5, .int x69), (6, .int (nI i)), (7, .int 0), (8, .int (nI j))] → W p l e ({ frames := 8, cells := 126, slots := 756, locals := 125 } : Room) s m args below meth c H locs (6 + 20 * i + 6 + 2 * j) (36 + 120 * i + 36 + 12 * j) (vx_MQ below (PQ κ (fun v9 L1 f1 => v9 = some (.int 1) ∧ L = L1 ∧ f = f1)) (PX κ L f noX) args s 126 756 (kA κ)) (F0 m 137 ls []) := by
                        intro n3
                        induction n3 with
                        | zero =>
                          intro j h1 h2
                          exact absurd h2 (by omega)
                        | succ n3 ih3 =>
                          intro j hj hjn H locs hh ls hl
                          refine lv_iload hx hb dL_coal_137 (lv_at hl 8 rfl) ?_
                          refine lv_iload hx hb dL_coal_139 (lv_at hl 6 rfl) ?_
                          refine lv_icmp_ge (tgt := 172) hx hb dL_coal_141 (by decide) (fun c141 => ?_) (fun c141 => ?_)
                          · have hje : j = i := by
                              rcases Nat.lt_or_ge j (i) with q | q
                              · exact absurd c141 (nI_ge q (by omega))
                              · omega
                            refine lv_iload hx hb dL_coal_172 (lv_at hl 7 rfl) ?_
                            refine lv_if_ne (tgt := 192) hx hb dL_coal_174 (by decide) (fun c => absurd (show ¬ (0 : Int32) = (0 : Int32) from c) (by decide)) (fun _ => ?_)
                            refine lv_aload_n hx hb dL_coal_177 rfl (lv_at hl 0 rfl) ?_
                            refine lv_aload_n hx hb dL_coal_178 rfl (lv_at hl 0 rfl) ?_
                            refine lv_iload hx hb dL_coal_179 (lv_at hl 6 rfl) ?_
                            refine k_callV0 (As := [.int (nI i)]) (q_gangOn hst hz hw (w := (nI i)) (k := i) hlt rfl) S hh (cwV 1 hts gL_coal_X5_gangOn rfl rfl rfl (by decide +kernel) ⟨(Nat.le_of_ble_eq_true rfl), (Nat.le_of_ble_eq_true rfl)⟩) hz.1.1.1 hz.1.1.2 (q := (RX5, TX5, 7)) rfl rfl rfl hl.1 rfl (Nat.le_of_ble_eq_true rfl) dL_coal_181 ⟨(by show _ ≤ 126; omega), (by show _ ≤ 756; omega)⟩ (fun v9 L1 f1 H locs hp hh => ?_)
                            obtain ⟨rfl, hL1, hf1⟩ := hp
                            subst hL1; subst hf1
                            refine k_callV0 (As := [.int (C 6 i)]) (q_restOf hst hz hw (w := (C 6 i)) (k := (nT (C 6 i))) w2 w1) S hh (cwV 1 hts gL_coal_X5_restOf rfl rfl rfl (by decide +kernel) ⟨(Nat.le_of_ble_eq_true rfl), (Nat.le_of_ble_eq_true rfl)⟩) hz.1.1.1 hz.1.1.2 (q := (RX5, TX5, 7)) rfl rfl rfl hl.1 rfl (Nat.le_of_ble_eq_true rfl) dL_coal_184 ⟨(by show _ ≤ 126; omega), (by show _ ≤ 756; omega)⟩ (fun v9 L1 f1 H locs hp hh => ?_)
                            obtain ⟨rfl, hL1, hf1⟩ := hp
                            subst hL1; subst hf1
                            refine lv_if_eq (tgt := 192) hx hb dL_coal_187 (by decide) (fun c187 => ?_) (fun c187 => ?_)
                            · obtain ⟨x192, e192⟩ : ∃ y : Int32, y = (nI i) + 1 := ⟨_, rfl⟩
                              refine lv_iinc (v := x192) (lv' := [(6, .int x192), (0, .ref x), (1, .int cm), (2, .int (nI (N 0))), (3, .ref hd), (4, .int (nI (N 1))), (5, .int x69), (7, .int 0), (8, .int (nI j))]) hx hb dL_coal_192 hl (k := 6) rfl (by rw [e192]; rfl) (by decide) rfl (fun ls hl => ?_)
                              refine lv_goto (tgt := 46) hx hb dL_coal_195 (by decide) ?_
                              obtain rfl : x192 = nI (i + 1) := by rw [e192]; exact nI_1 i
                              refine W.widen (k := 6 + 20 * (i + 1)) (n := 36 + 120 * (i + 1)) (by omega) (by omega) ?_
                              exact ih2 (i + 1) x69 (by omega) (by omega) (by rw [e69, ex5, oI_step2]) _ _ hh ls (lv_sub hl [1, 2, 3, 4, 5, 6, 0] rfl)
                            · exact absurd w4 c187
                          · have hjlt : j < i := by
                              rcases Nat.lt_or_ge j (i) with q | q
                              · exact q
                              · exact absurd (nI_le q (by omega)) c141
                            refine lv_iload hx hb dL_coal_144 (lv_at hl 7 rfl) ?_
                            refine lv_if_ne (tgt := 172) hx hb dL_coal_146 (by decide) (fun c => absurd (show ¬ (0 : Int32) = (0 : Int32) from c) (by decide)) (fun _ => ?_)
                            refine lv_aload_n hx hb dL_coal_149 rfl (lv_at hl 0 rfl) ?_
                            refine lv_iload hx hb dL_coal_150 (lv_at hl 8 rfl) ?_
                            refine k_callV0 (As := [.int (nI j)]) (q_gangOn hst hz hw (w := (nI j)) (k := j) (by omega) rfl) S hh (cwV 1 hts gL_coal_X5_gangOn rfl rfl rfl (by decide +kernel) ⟨(Nat.le_of_ble_eq_true rfl), (Nat.le_of_ble_eq_true rfl)⟩) hz.1.1.1 hz.1.1.2 (q := (RX5, TX5, 7)) rfl rfl rfl hl.1 rfl (Nat.le_of_ble_eq_true rfl) dL_coal_152 ⟨(by show _ ≤ 126; omega), (by show _ ≤ 756; omega)⟩ (fun v9 L1 f1 H locs hp hh => ?_)
                            obtain ⟨rfl, hL1, hf1⟩ := hp
                            subst hL1; subst hf1
                            refine lv_aload_n hx hb dL_coal_155 rfl (lv_at hl 0 rfl) ?_
                            refine lv_iload hx hb dL_coal_156 (lv_at hl 6 rfl) ?_
                            refine k_callV0 (As := [.int (nI i)]) (q_gangOn hst hz hw (w := (nI i)) (k := i) hlt rfl) S hh (cwV 1 hts gL_coal_X5_gangOn rfl rfl rfl (by decide +kernel) ⟨(Nat.le_of_ble_eq_true rfl), (Nat.le_of_ble_eq_true rfl)⟩) hz.1.1.1 hz.1.1.2 (q := (RX5, TX5, 7)) rfl rfl rfl hl.1 rfl (Nat.le_of_ble_eq_true rfl) dL_coal_158 ⟨(by show _ ≤ 126; omega), (by show _ ≤ 756; omega)⟩ (fun v9 L1 f1 H locs hp hh => ?_)
                            obtain ⟨rfl, hL1, hf1⟩ := hp
                            subst hL1; subst hf1
                            refine lv_icmp_ne (tgt := 166) hx hb dL_coal_161 (by decide) (fun c161 => ?_) (fun c161 => ?_)
                            · obtain ⟨x166, e166⟩ : ∃ y : Int32, y = (nI j) + 1 := ⟨_, rfl⟩
                              refine lv_iinc (v := x166) (lv' := [(8, .int x166), (0, .ref x), (1, .int cm), (2, .int (nI (N 0))), (3, .ref hd), (4, .int (nI (N 1))), (5, .int x69), (6, .int (nI i)), (7, .int 0)]) hx hb dL_coal_166 hl (k := 8) rfl (by rw [e166]; rfl) (by decide) rfl (fun ls hl => ?_)
                              refine lv_goto (tgt := 137) hx hb dL_coal_169 (by decide) ?_
                              obtain rfl : x166 = nI (j + 1) := by rw [e166]; exact nI_1 j
                              refine W.widen (k := 6 + 20 * i + 6 + 2 * (j + 1)) (n := 36 + 120 * i + 36 + 12 * (j + 1)) (by omega) (by omega) ?_
                              exact ih3 (j + 1) (by omega) (by omega) _ _ hh ls (lv_sub hl [1, 2, 3, 4, 5, 6, 7, 8, 0] rfl)
                            · exact absurd (fWk.2 i j hlt (by omega) c161.symm h6) (by omega)
                      refine W.widen (k := 6 + 20 * i + 6 + 2 * 0) (n := 36 + 120 * i + 36 + 12 * 0) (by omega) (by omega) ?_
                      exact loop3 (i + 1) 0 (Nat.zero_le _) (by omega) _ _ hh ls (lv_sub hl [3, 4, 5, 6, 7, 2, 8, 1, 0] rfl)
              · have h6 : C 6 i = -1 := (six_neg hq hlt).mp (Int32.not_le.mp c77)
                refine lv_iconst (v := 1) hx hb dL_coal_80 (by decide) ?_
                refine lv_goto (tgt := 85) hx hb dL_coal_81 (by decide) ?_
                refine lv_istore (lv' := [(7, .int 1), (5, .int x69), (0, .ref x), (1, .int cm), (2, .int (nI (N 0))), (3, .ref hd), (4, .int (nI (N 1))), (6, .int (nI i))]) hx hb dL_coal_85 hl (by decide) rfl (fun ls hl => ?_)
                refine lv_aload_n hx hb dL_coal_87 rfl (lv_at hl 2 rfl) ?_
                refine lv_iload hx hb dL_coal_88 (lv_at hl 7 rfl) ?_
                refine k_callV0 (As := [.int (nI i)]) (q_loadOf hst hz hw (w := (nI i)) (k := i) hlt rfl) S hh (cwV 1 hts gL_coal_X5_loadOf rfl rfl rfl (by decide +kernel) ⟨(Nat.le_of_ble_eq_true rfl), (Nat.le_of_ble_eq_true rfl)⟩) hz.1.1.1 hz.1.1.2 (q := (RX5, TX5, 7)) rfl rfl rfl hl.1 rfl (Nat.le_of_ble_eq_true rfl) dL_coal_90 ⟨(by show _ ≤ 126; omega), (by show _ ≤ 756; omega)⟩ (fun v9 L1 f1 H locs hp hh => ?_)
                obtain ⟨rfl, hL1, hf1⟩ := hp
                subst hL1; subst hf1
                refine lv_if_lt (tgt := 132) hx hb dL_coal_93 (by decide) (fun c93 => ?_) (fun c93 => ?_)
                · exact absurd (Kit.i32_nonneg.mpr (fLi i hlt).1.1) (Int32.not_le.mpr c93)
                · refine lv_aload_n hx hb dL_coal_96 rfl (lv_at hl 2 rfl) ?_
                  refine lv_iload hx hb dL_coal_97 (lv_at hl 7 rfl) ?_
                  refine k_callV0 (As := [.int (nI i)]) (q_loadOf hst hz hw (w := (nI i)) (k := i) hlt rfl) S hh (cwV 1 hts gL_coal_X5_loadOf rfl rfl rfl (by decide +kernel) ⟨(Nat.le_of_ble_eq_true rfl), (Nat.le_of_ble_eq_true rfl)⟩) hz.1.1.1 hz.1.1.2 (q := (RX5, TX5, 7)) rfl rfl rfl hl.1 rfl (Nat.le_of_ble_eq_true rfl) dL_coal_99 ⟨(by show _ ≤ 126; omega), (by show _ ≤ 756; omega)⟩ (fun v9 L1 f1 H locs hp hh => ?_)
                  obtain ⟨rfl, hL1, hf1⟩ := hp
                  subst hL1; subst hf1
                  refine lv_aload_n hx hb dL_coal_102 rfl (lv_at hl 5 rfl) ?_
                  refine lv_iload hx hb dL_coal_103 (lv_at hl 7 rfl) ?_
                  refine l_ald hx hb hh hd1 hd2 (i := i) (by omega) (hd3 i hlt) dL_coal_105 ?_
                  refine lv_icmp_gt (tgt := 132) hx hb dL_coal_106 (by decide) (fun c106 => ?_) (fun c106 => ?_)
                  · exact absurd c106 (Int32.not_lt.mpr (i32_le (fLi i hlt).1.2.1))
                  · refine lv_aload_n hx hb dL_coal_109 rfl (lv_at hl 2 rfl) ?_
                    refine lv_iload hx hb dL_coal_110 (lv_at hl 7 rfl) ?_
                    refine k_callV0 (As := [.int (nI i)]) (q_dustIn hst hz hw (w := (nI i)) (k := i) hlt rfl) S hh (cwV 1 hts gL_coal_X5_dustIn rfl rfl rfl (by decide +kernel) ⟨(Nat.le_of_ble_eq_true rfl), (Nat.le_of_ble_eq_true rfl)⟩) hz.1.1.1 hz.1.1.2 (q := (RX5, TX5, 7)) rfl rfl rfl hl.1 rfl (Nat.le_of_ble_eq_true rfl) dL_coal_112 ⟨(by show _ ≤ 126; omega), (by show _ ≤ 756; omega)⟩ (fun v9 L1 f1 H locs hp hh => ?_)
                    obtain ⟨rfl, hL1, hf1⟩ := hp
                    subst hL1; subst hf1
                    refine lv_if_lt (tgt := 132) hx hb dL_coal_115 (by decide) (fun c115 => ?_) (fun c115 => ?_)
                    · exact absurd (Kit.i32_nonneg.mpr (fLi i hlt).2) (Int32.not_le.mpr c115)
                    · refine lv_iload hx hb dL_coal_118 (lv_at hl 0 rfl) ?_
                      refine lv_if_eq (tgt := 134) hx hb dL_coal_120 (by decide) (fun c => absurd (show (1 : Int32) = (0 : Int32) from c) (by decide)) (fun _ => ?_)
                      refine lv_aload_n hx hb dL_coal_123 rfl (lv_at hl 2 rfl) ?_
                      refine lv_iload hx hb dL_coal_124 (lv_at hl 7 rfl) ?_
                      refine k_callV0 (As := [.int (nI i)]) (q_placeOf hst hz hw (w := (nI i)) (k := i) hlt rfl) S hh (cwV 1 hts gL_coal_X5_placeOf rfl rfl rfl (by decide +kernel) ⟨(Nat.le_of_ble_eq_true rfl), (Nat.le_of_ble_eq_true rfl)⟩) hz.1.1.1 hz.1.1.2 (q := (RX5, TX5, 7)) rfl rfl rfl hl.1 rfl (Nat.le_of_ble_eq_true rfl) dL_coal_126 ⟨(by show _ ≤ 126; omega), (by show _ ≤ 756; omega)⟩ (fun v9 L1 f1 H locs hp hh => ?_)
                      obtain ⟨rfl, hL1, hf1⟩ := hp
                      subst hL1; subst hf1
                      refine lv_if_eq (tgt := 134) hx hb dL_coal_129 (by decide) (fun c129 => ?_) (fun c129 => ?_)
                      · refine lv_iconst (v := 0) hx hb dL_coal_134 (by decide) ?_
                        refine lv_istore (lv' := [(8, .int 0), (7, .int 1), (5, .int x69), (0, .ref x), (1, .int cm), (2, .int (nI (N 0))), (3, .ref hd), (4, .int (nI (N 1))), (6, .int (nI i))]) hx hb dL_coal_135 hl (by decide) rfl (fun ls hl => ?_)
                        refine lv_iload hx hb dL_coal_137 (lv_at hl 0 rfl) ?_
                        refine lv_iload hx hb dL_coal_139 (lv_at hl 8 rfl) ?_
                        refine lv_icmp_ge (tgt := 172) hx hb dL_coal_141 (by decide) (fun c141 => ?_) (fun c141 => ?_)
                        · refine lv_iload hx hb dL_coal_172 (lv_at hl 1 rfl) ?_
                          refine lv_if_ne (tgt := 192) hx hb dL_coal_174 (by decide) (fun _ => ?_) (fun c => absurd (show (1 : Int32) = (0 : Int32) from c) (by decide))
                          obtain ⟨x192, e192⟩ : ∃ y : Int32, y = (nI i) + 1 := ⟨_, rfl⟩
                          refine lv_iinc (v := x192) (lv' := [(6, .int x192), (8, .int 0), (7, .int 1), (5, .int x69), (0, .ref x), (1, .int cm), (2, .int (nI (N 0))), (3, .ref hd), (4, .int (nI (N 1)))]) hx hb dL_coal_192 hl (k := 8) rfl (by rw [e192]; rfl) (by decide) rfl (fun ls hl => ?_)
                          refine lv_goto (tgt := 46) hx hb dL_coal_195 (by decide) ?_
                          obtain rfl : x192 = nI (i + 1) := by rw [e192]; exact nI_1 i
                          refine W.widen (k := 6 + 20 * (i + 1)) (n := 36 + 120 * (i + 1)) (by omega) (by omega) ?_
                          exact ih2 (i + 1) x69 (by omega) (by omega) (by rw [e69, ex5, oI_step2]) _ _ hh ls (lv_sub hl [4, 5, 6, 7, 8, 3, 0] rfl)
                        · refine lv_iload hx hb dL_coal_144 (lv_at hl 1 rfl) ?_
                          refine lv_if_ne (tgt := 172) hx hb dL_coal_146 (by decide) (fun _ => ?_) (fun c => absurd (show (1 : Int32) = (0 : Int32) from c) (by decide))
                          refine lv_iload hx hb dL_coal_172 (lv_at hl 1 rfl) ?_
                          refine lv_if_ne (tgt := 192) hx hb dL_coal_174 (by decide) (fun _ => ?_) (fun c => absurd (show (1 : Int32) = (0 : Int32) from c) (by decide))
                          obtain ⟨x192, e192⟩ : ∃ y : Int32, y = (nI i) + 1 := ⟨_, rfl⟩
                          refine lv_iinc (v := x192) (lv' := [(6, .int x192), (8, .int 0), (7, .int 1), (5, .int x69), (0, .ref x), (1, .int cm), (2, .int (nI (N 0))), (3, .ref hd), (4, .int (nI (N 1)))]) hx hb dL_coal_192 hl (k := 8) rfl (by rw [e192]; rfl) (by decide) rfl (fun ls hl => ?_)
                          refine lv_goto (tgt := 46) hx hb dL_coal_195 (by decide) ?_
                          obtain rfl : x192 = nI (i + 1) := by rw [e192]; exact nI_1 i
                          refine W.widen (k := 6 + 20 * (i + 1)) (n := 36 + 120 * (i + 1)) (by omega) (by omega) ?_
                          exact ih2 (i + 1) x69 (by omega) (by omega) (by rw [e69, ex5, oI_step2]) _ _ hh ls (lv_sub hl [4, 5, 6, 7, 8, 3, 0] rfl)
                      · exact absurd ((fWk.1 i hlt).2.1 h6) c129
        refine W.widen (k := 6 + 20 * 0) (n := 36 + 120 * 0) (by omega) (by omega) ?_
        exact loop2 (N 1 + 1) 0 _ (Nat.zero_le _) (by omega) (by rw [ex5, hie]; exact congrArg Int32.ofInt (by rw [show sI (C 2) 0 = 0 from rfl, show sI (C 3) 0 = 0 from rfl]; omega)) _ _ hh ls (lv_sub hl [1, 2, 3, 4, 5, 6, 0] rfl)
      · have hlt : i < N 0 := by
          rcases Nat.lt_or_ge i (N 0) with q | q
          · exact q
          · exact absurd (nI_le q (by omega)) c12
        refine lv_iload hx hb dL_coal_15 (lv_at hl 5 rfl) ?_
        refine lv_aload_n hx hb dL_coal_17 rfl (lv_at hl 0 rfl) ?_
        refine lv_iload hx hb dL_coal_18 (lv_at hl 6 rfl) ?_
        refine k_callV0 (As := [.int (nI i)]) (q_coalIn hst hz hw (w := (nI i)) (k := i) hlt rfl) S hh (cwV 1 hts gL_coal_X5_coalIn rfl rfl rfl (by decide +kernel) ⟨(Nat.le_of_ble_eq_true rfl), (Nat.le_of_ble_eq_true rfl)⟩) hz.1.1.1 hz.1.1.2 (q := (RX5, TX5, 7)) rfl rfl rfl hl.1 rfl (Nat.le_of_ble_eq_true rfl) dL_coal_20 ⟨(by show _ ≤ 126; omega), (by show _ ≤ 756; omega)⟩ (fun v9 L1 f1 H locs hp hh => ?_)
        obtain ⟨rfl, hL1, hf1⟩ := hp
        subst hL1; subst hf1
        refine lv_iadd hx hb dL_coal_23 ?_
        refine lv_topi (fun x24 e24 => ?_)
        refine lv_istore (lv' := [(5, .int x24), (0, .ref x), (1, .int cm), (2, .int (nI (N 0))), (3, .ref hd), (4, .int (nI (N 1))), (6, .int (nI i))]) hx hb dL_coal_24 hl (by decide) rfl (fun ls hl => ?_)
        refine lv_aload_n hx hb dL_coal_26 rfl (lv_at hl 1 rfl) ?_
        refine lv_iload hx hb dL_coal_27 (lv_at hl 6 rfl) ?_
        refine k_callV0 (As := [.int (nI i)]) (q_coalIn hst hz hw (w := (nI i)) (k := i) hlt rfl) S hh (cwV 1 hts gL_coal_X5_coalIn rfl rfl rfl (by decide +kernel) ⟨(Nat.le_of_ble_eq_true rfl), (Nat.le_of_ble_eq_true rfl)⟩) hz.1.1.1 hz.1.1.2 (q := (RX5, TX5, 7)) rfl rfl rfl hl.1 rfl (Nat.le_of_ble_eq_true rfl) dL_coal_29 ⟨(by show _ ≤ 126; omega), (by show _ ≤ 756; omega)⟩ (fun v9 L1 f1 H locs hp hh => ?_)
        obtain ⟨rfl, hL1, hf1⟩ := hp
        subst hL1; subst hf1
        refine lv_if_ge (tgt := 37) hx hb dL_coal_32 (by decide) (fun c32 => ?_) (fun c32 => ?_)
        · obtain ⟨x37, e37⟩ : ∃ y : Int32, y = (nI i) + 1 := ⟨_, rfl⟩
          refine lv_iinc (v := x37) (lv' := [(6, .int x37), (5, .int x24), (0, .ref x), (1, .int cm), (2, .int (nI (N 0))), (3, .ref hd), (4, .int (nI (N 1)))]) hx hb dL_coal_37 hl (k := 6) rfl (by rw [e37]; rfl) (by decide) rfl (fun ls hl => ?_)
          refine lv_goto (tgt := 9) hx hb dL_coal_40 (by decide) ?_
          obtain rfl : x37 = nI (i + 1) := by rw [e37]; exact nI_1 i
          refine W.widen (k := 2 * (i + 1)) (n := 12 * (i + 1)) (by omega) (by omega) ?_
          exact ih (i + 1) x24 (by omega) (by omega) (by rw [e24, ex5, sI_succ, ← Int.add_assoc, oI_step]) _ _ hh ls (lv_sub hl [2, 3, 4, 5, 6, 1, 0] rfl)
        · exact absurd (Kit.i32_nonneg.mpr (fHu i hlt)) c32
  exact loop1 (N 0 + 1) 0 _ (Nat.zero_le _) (by omega) (by rw [e4]; exact (by rw [show sI (C 0) 0 = 0 from rfl, Int.add_zero, Int32.ofInt_toInt])) _ _ hh ls (lv_sub hl [2, 3, 4, 5, 6, 1, 0] rfl)

theorem sp_iff {f w : Int32} (h : SP f w) (h1 : f = 1 → 0 < w.toInt) : f = 2 ↔ w = 0 := by
  have i0 : (0 : Int32).toInt = 0 := by decide
  rcases h with ⟨q1, q2⟩ | ⟨q1, q2⟩ | ⟨q1, q2⟩
  · exact ⟨fun _ => q2, fun _ => q1⟩
  · refine ⟨fun z => ?_, fun z => ?_⟩
    · rcases q1 with q1 | q1 <;> rw [q1] at z <;> exact absurd z (by decide)
    · rw [z, i0] at q2; omega
  · have h9 := h1 q1
    refine ⟨fun z => ?_, fun z => ?_⟩
    · rw [q1] at z; exact absurd z (by decide)
    · rw [z, i0] at h9; omega
theorem sp_nn {f w : Int32} (h : SP f w) : 0 ≤ w.toInt := by
  rcases h with ⟨-, q⟩ | ⟨-, q⟩ | ⟨-, q⟩
  · rw [q]; decide
  · omega
  · exact q

set_option maxRecDepth 100000 in
set_option maxHeartbeats 4000000 in
theorem k_ships {l : Launch} (hst : l.stackTraces = false) {κ : Kx} {x : Nat} {a : AD} {N P : Nat → Nat} {C : MS} {L L0 : List Nat} {f0 f : Nat → va_E} (hz : ZC κ x a N P C L0 f0 L f) {M : MS} {n0 : Nat} {came wanted : Int} (hq : QS (N, P, C) M n0 came wanted) (hN3 : N 3 ≤ 70) {wt : Int32} (hwt : wt = Int32.ofInt wanted) : PM l κ yL_ships wsL_ships ({ frames := 8, cells := 351, slots := 2106, locals := 124 } : Room) [.ref x, .int (nI (N 3)), .int wt] L f (fun v9 L1 f1 => v9 = some (.int 1) ∧ L = L1 ∧ f = f1) noX 351 2106 := by
  refine PM.mk (cc := cL_ships) (maxL := 8) (ret := (some .boolean)) (by decide) rfl (Nat.le_of_ble_eq_true rfl) ?_
  intro p e s m args below meth c ls hx hb hml hr hlk hnm hown hts ht hh hl
  have hl : lv_has ls 8 [(0, .ref x), (1, .int (nI (N 3))), (2, .int wt)] := hl
  have S : CallFix p m c cL_ships 8 s args wsL_ships RL := ⟨hx, hb, hml, hown, hts⟩
  have hz := hz.self
  obtain ⟨hw, fHu, fLi, fTo, fWa, fWk, fSt, fBu, fS1, fN3, fC0⟩ := hq.f
  obtain ⟨b0, b1, b2, b3, b4⟩ := id hw.1
  refine lv_iconst (v := 0) hx hb dL_ships_0 (by decide) ?_
  refine lv_istore_n (lv' := [(3, .int 0), (0, .ref x), (1, .int (nI (N 3))), (2, .int wt)]) hx hb dL_ships_1 rfl hl (by decide) rfl (fun ls hl => ?_)
  refine lv_iconst (v := 0) hx hb dL_ships_2 (by decide) ?_
  refine lv_istore (lv' := [(4, .int 0), (3, .int 0), (0, .ref x), (1, .int (nI (N 3))), (2, .int wt)]) hx hb dL_ships_3 hl (by decide) rfl (fun ls hl => ?_)
  refine lv_iconst (v := 0) hx hb dL_ships_5 (by decide) ?_
  refine lv_istore (lv' := [(5, .int 0), (4, .int 0), (3, .int 0), (0, .ref x), (1, .int (nI (N 3))), (2, .int wt)]) hx hb dL_ships_6 hl (by decide) rfl (fun ls hl => ?_)
  refine lv_iconst (v := 0) hx hb dL_ships_8 (by decide) ?_
  refine lv_istore (lv' := [(6, .int 0), (5, .int 0), (4, .int 0), (3, .int 0), (0, .ref x), (1, .int (nI (N 3))), (2, .int wt)]) hx hb dL_ships_9 hl (by decide) rfl (fun ls hl => ?_)
  have loop : ∀ (n i : Nat) (x3 x4 x5 : Int32), i ≤ N 3 → N 3 + 1 ≤ i + n → x3 = nI (ct (C 14) 1 i) → x4 = nI (ct (C 14) 0 i) → x5 = Int32.ofInt (sI (C 12) i) → ∀ (H : Heap) (locs : List Loc), HH κ L f s H locs → ∀ ls : Array Slot, lv_has ls 8 [(0, .ref x), (1, .int (nI (N 3))), (2, .int wt), (3, .int x3), (4, .int x4), (5, .int x5), (6, .int (nI i))] → W p l e ({ frames := 8, cells := 351, slots := 2106, locals := 124 } : Room) s m args below meth c H locs (5 * i) (30 * i) (vx_MQ below (PQ κ (fun v9 L1 f1 => v9 = some (.int 1) ∧ L = L1 ∧ f = f1)) (PX κ L f noX) args s 351 2106 (kA κ)) (F0 m 11 ls []) := by
    intro n
    induction n with
    | zero =>
      intro i x3 x4 x5 h1 h2
      exact absurd h2 (by omega)
    | succ n ih =>
      intro i x3 x4 x5 hi hin3 ex3 ex4 ex5 H locs hh ls hl
      refine lv_iload hx hb dL_ships_11 (lv_at hl 6 rfl) ?_
      refine lv_iload_n hx hb dL_ships_13 rfl (lv_at hl 1 rfl) ?_
      refine lv_icmp_ge (tgt := 116) hx hb dL_ships_14 (by decide) (fun c14 => ?_) (fun c14 => ?_)
      · have hie : i = N 3 := by
          rcases Nat.lt_or_ge i (N 3) with q | q
          · exact absurd c14 (nI_ge q (by omega))
          · omega
        have hk0 := ct_le (C 14) 0 (N 3)
        have hk1 := ct_le (C 14) 1 (N 3)
        rw [hie] at ex3 ex4 ex5
        refine lv_iload_n hx hb dL_ships_116 rfl (lv_at hl 3 rfl) ?_
        refine lv_iconst (v := 2) hx hb dL_ships_117 (by decide) ?_
        refine lv_icmp_gt (tgt := 153) hx hb dL_ships_118 (by decide) (fun c118 => ?_) (fun c118 => ?_)
        · exact absurd c118 (by rw [ex3]; exact nI_nlt (a := ct (C 14) 1 (N 3)) (b := ct (C 14) 1 (N 3)) (Nat.le_refl _) (by omega) |> fun _ => nI_nlt (b := ct (C 14) 1 (N 3)) (a := 2) fBu (by decide))
        · refine lv_iload hx hb dL_ships_121 (lv_at hl 4 rfl) ?_
          refine lv_bipush (v := 8) hx hb dL_ships_123 (by decide) ?_
          refine lv_icmp_gt (tgt := 153) hx hb dL_ships_125 (by decide) (fun c125 => ?_) (fun c125 => ?_)
          · exact absurd c125 (by rw [ex4]; exact nI_nlt (b := ct (C 14) 0 (N 3)) (a := 8) fC0 (by decide))
          · refine lv_aload_n hx hb dL_ships_128 rfl (lv_at hl 0 rfl) ?_
            refine lv_iload hx hb dL_ships_129 (lv_at hl 4 rfl) ?_
            refine k_callV0 (As := [.int x4]) (q_outside hst hz hw (v := x4) (by rw [ex4]; exact nI_pos (by omega))) S hh (cwV 1 hts gL_ships_X5_outside rfl rfl rfl (by decide +kernel) ⟨(Nat.le_of_ble_eq_true rfl), (Nat.le_of_ble_eq_true rfl)⟩) hz.1.1.1 hz.1.1.2 (q := (RX5, TX5, 7)) rfl rfl rfl hl.1 rfl (Nat.le_of_ble_eq_true rfl) dL_ships_131 ⟨(by show _ ≤ 351; omega), (by show _ ≤ 2106; omega)⟩ (fun v9 L1 f1 H locs hp hh => ?_)
            obtain ⟨rfl, hL1, hf1⟩ := hp
            subst hL1; subst hf1
            refine lv_iconst (v := (-1)) hx hb dL_ships_134 (by decide) ?_
            refine lv_icmp_ne (tgt := 153) hx hb dL_ships_135 (by decide) (fun c135 => ?_) (fun c135 => ?_)
            · exact absurd (by rw [ex4]; exact out_end hq) c135
            · refine lv_aload_n hx hb dL_ships_138 rfl (lv_at hl 0 rfl) ?_
              refine k_callV0 (As := []) (g_delivered hz) S hh (cwV 0 hts gL_ships_X5_delivered rfl rfl rfl (by decide +kernel) ⟨(Nat.le_of_ble_eq_true rfl), (Nat.le_of_ble_eq_true rfl)⟩) hz.1.1.1 hz.1.1.2 (q := (RX5, TX5, 7)) rfl rfl rfl hl.1 rfl (Nat.le_of_ble_eq_true rfl) dL_ships_139 ⟨(by show _ ≤ 351; omega), (by show _ ≤ 2106; omega)⟩ (fun v9 L1 f1 H locs hp hh => ?_)
              obtain ⟨rfl, hL1, hf1⟩ := hp
              subst hL1; subst hf1
              refine lv_iload_n hx hb dL_ships_142 rfl (lv_at hl 2 rfl) ?_
              refine lv_iload hx hb dL_ships_143 (lv_at hl 5 rfl) ?_
              refine lv_isub hx hb dL_ships_145 ?_
              refine lv_icmp_ne (tgt := 153) hx hb dL_ships_146 (by decide) (fun c146 => ?_) (fun c146 => ?_)
              · exact absurd (by rw [hwt, ex5, ← Int32.ofInt_sub, show wanted - sI (C 12) (N 3) = (C 17 0).toInt by have h9 := fWa; unfold Wa at h9; omega, Int32.ofInt_toInt]) c146
              · refine lv_iconst (v := 1) hx hb dL_ships_149 (by decide) ?_
                refine lv_goto (tgt := 154) hx hb dL_ships_150 (by decide) ?_
                exact k_zret hx hb hr hlk (rfl) hh dL_ships_154 (by omega) (by omega) ⟨rfl, rfl, rfl⟩
      · have hlt : i < N 3 := by
          rcases Nat.lt_or_ge i (N 3) with q | q
          · exact q
          · exact absurd (nI_le q (by omega)) c14
        have hsp : C 14 i = 2 ↔ C 12 i = 0 := sp_iff (fSt i hlt) (fS1 i hlt)
        have hw0 : 0 ≤ (C 12 i).toInt := sp_nn (fSt i hlt)
        have hk0 := ct_le (C 14) 0 i
        have hk1 := ct_le (C 14) 1 i
        refine lv_aload_n hx hb dL_ships_17 rfl (lv_at hl 0 rfl) ?_
        refine lv_iload hx hb dL_ships_18 (lv_at hl 6 rfl) ?_
        refine k_callV0 (As := [.int (nI i)]) (q_fateOf hst hz hw (w := (nI i)) (k := i) hlt rfl) S hh (cwV 1 hts gL_ships_X5_fateOf rfl rfl rfl (by decide +kernel) ⟨(Nat.le_of_ble_eq_true rfl), (Nat.le_of_ble_eq_true rfl)⟩) hz.1.1.1 hz.1.1.2 (q := (RX5, TX5, 7)) rfl rfl rfl hl.1 rfl (Nat.le_of_ble_eq_true rfl) dL_ships_20 ⟨(by show _ ≤ 351; omega), (by show _ ≤ 2106; omega)⟩ (fun v9 L1 f1 H locs hp hh => ?_)
        obtain ⟨rfl, hL1, hf1⟩ := hp
        subst hL1; subst hf1
        refine lv_topi (fun x23 e23 => ?_)
        refine lv_istore (lv' := [(7, .int x23), (0, .ref x), (1, .int (nI (N 3))), (2, .int wt), (3, .int x3), (4, .int x4), (5, .int x5), (6, .int (nI i))]) hx hb dL_ships_23 hl (by decide) rfl (fun ls hl => ?_)
        refine lv_iload hx hb dL_ships_25 (lv_at hl 6 rfl) ?_
        refine lv_aload_n hx hb dL_ships_27 rfl (lv_at hl 1 rfl) ?_
        refine lv_iload hx hb dL_ships_28 (lv_at hl 7 rfl) ?_
        refine k_callV0 (As := [.int (nI i)]) (q_wantOf hst hz hw (w := (nI i)) (k := i) hlt rfl) S hh (cwV 1 hts gL_ships_X5_wantOf rfl rfl rfl (by decide +kernel) ⟨(Nat.le_of_ble_eq_true rfl), (Nat.le_of_ble_eq_true rfl)⟩) hz.1.1.1 hz.1.1.2 (q := (RX5, TX5, 7)) rfl rfl rfl hl.1 rfl (Nat.le_of_ble_eq_true rfl) dL_ships_30 ⟨(by show _ ≤ 351; omega), (by show _ ≤ 2106; omega)⟩ (fun v9 L1 f1 H locs hp hh => ?_)
        obtain ⟨rfl, hL1, hf1⟩ := hp
        subst hL1; subst hf1
        refine lv_iadd hx hb dL_ships_33 ?_
        refine lv_topi (fun x34 e34 => ?_)
        refine lv_istore (lv' := [(5, .int x34), (7, .int x23), (0, .ref x), (1, .int (nI (N 3))), (2, .int wt), (3, .int x3), (4, .int x4), (6, .int (nI i))]) hx hb dL_ships_34 hl (by decide) rfl (fun ls hl => ?_)
        refine lv_iload_n hx hb dL_ships_36 rfl (lv_at hl 5 rfl) ?_
        refine lv_iload hx hb dL_ships_37 (lv_at hl 1 rfl) ?_
        refine lv_iconst (v := 1) hx hb dL_ships_39 (by decide) ?_
        refine lv_icmp_ne (tgt := 47) hx hb dL_ships_40 (by decide) (fun c40 => ?_) (fun c40 => ?_)
        · refine lv_iconst (v := 0) hx hb dL_ships_47 (by decide) ?_
          refine lv_iadd hx hb dL_ships_48 ?_
          refine lv_topi (fun x49 e49 => ?_)
          refine lv_istore_n (lv' := [(3, .int x49), (5, .int x34), (7, .int x23), (0, .ref x), (1, .int (nI (N 3))), (2, .int wt), (4, .int x4), (6, .int (nI i))]) hx hb dL_ships_49 rfl hl (by decide) rfl (fun ls hl => ?_)
          refine lv_iload hx hb dL_ships_50 (lv_at hl 2 rfl) ?_
          refine lv_if_ne (tgt := 71) hx hb dL_ships_52 (by decide) (fun c52 => ?_) (fun c52 => ?_)
          · refine lv_aload_n hx hb dL_ships_71 rfl (lv_at hl 3 rfl) ?_
            refine lv_iload hx hb dL_ships_72 (lv_at hl 7 rfl) ?_
            refine k_callV0 (As := [.int (nI i)]) (q_wantOf hst hz hw (w := (nI i)) (k := i) hlt rfl) S hh (cwV 1 hts gL_ships_X5_wantOf rfl rfl rfl (by decide +kernel) ⟨(Nat.le_of_ble_eq_true rfl), (Nat.le_of_ble_eq_true rfl)⟩) hz.1.1.1 hz.1.1.2 (q := (RX5, TX5, 7)) rfl rfl rfl hl.1 rfl (Nat.le_of_ble_eq_true rfl) dL_ships_74 ⟨(by show _ ≤ 351; omega), (by show _ ≤ 2106; omega)⟩ (fun v9 L1 f1 H locs hp hh => ?_)
            obtain ⟨rfl, hL1, hf1⟩ := hp
            subst hL1; subst hf1
            refine lv_if_lt (tgt := 108) hx hb dL_ships_77 (by decide) (fun c77 => ?_) (fun c77 => ?_)
            · exact absurd (Kit.i32_nonneg.mpr hw0) (Int32.not_le.mpr c77)
            · refine lv_iload hx hb dL_ships_80 (lv_at hl 2 rfl) ?_
              refine lv_iconst (v := 2) hx hb dL_ships_82 (by decide) ?_
              refine lv_icmp_ne (tgt := 90) hx hb dL_ships_83 (by decide) (fun c83 => ?_) (fun c83 => ?_)
              · refine lv_iconst (v := 0) hx hb dL_ships_90 (by decide) ?_
                refine lv_aload_n hx hb dL_ships_91 rfl (lv_at hl 3 rfl) ?_
                refine lv_iload hx hb dL_ships_92 (lv_at hl 7 rfl) ?_
                refine k_callV0 (As := [.int (nI i)]) (q_wantOf hst hz hw (w := (nI i)) (k := i) hlt rfl) S hh (cwV 1 hts gL_ships_X5_wantOf rfl rfl rfl (by decide +kernel) ⟨(Nat.le_of_ble_eq_true rfl), (Nat.le_of_ble_eq_true rfl)⟩) hz.1.1.1 hz.1.1.2 (q := (RX5, TX5, 7)) rfl rfl rfl hl.1 rfl (Nat.le_of_ble_eq_true rfl) dL_ships_94 ⟨(by show _ ≤ 351; omega), (by show _ ≤ 2106; omega)⟩ (fun v9 L1 f1 H locs hp hh => ?_)
                obtain ⟨rfl, hL1, hf1⟩ := hp
                subst hL1; subst hf1
                refine lv_if_ne (tgt := 104) hx hb dL_ships_97 (by decide) (fun c97 => ?_) (fun c97 => ?_)
                · refine lv_iconst (v := 0) hx hb dL_ships_104 (by decide) ?_
                  refine lv_icmp_eq (tgt := 110) hx hb dL_ships_105 (by decide) (fun _ => ?_) (fun c => absurd (show ¬ (0 : Int32) = (0 : Int32) from c) (by decide))
                  obtain ⟨x110, e110⟩ : ∃ y : Int32, y = (nI i) + 1 := ⟨_, rfl⟩
                  refine lv_iinc (v := x110) (lv' := [(6, .int x110), (3, .int x49), (5, .int x34), (7, .int x23), (0, .ref x), (1, .int (nI (N 3))), (2, .int wt), (4, .int x4)]) hx hb dL_ships_110 hl (k := 7) rfl (by rw [e110]; rfl) (by decide) rfl (fun ls hl => ?_)
                  refine lv_goto (tgt := 11) hx hb dL_ships_113 (by decide) ?_
                  obtain rfl : x110 = nI (i + 1) := by rw [e110]; exact nI_1 i
                  refine W.widen (k := 5 * (i + 1)) (n := 30 * (i + 1)) (by omega) (by omega) ?_
                  exact ih (i + 1) x49 x4 x34 (by omega) (by omega) (by rw [e49, ex3, ct_succ, if_neg (by rw [← e23]; exact c40), Int32.add_zero]; rfl) (by rw [ex4, ct_succ, if_neg (by rw [← e23]; exact c52)]; rfl) (by rw [e34, ex5, sI_succ, oI_step]) _ _ hh ls (lv_sub hl [4, 5, 6, 1, 7, 2, 0] rfl)
                · refine lv_iconst (v := 1) hx hb dL_ships_100 (by decide) ?_
                  refine lv_goto (tgt := 105) hx hb dL_ships_101 (by decide) ?_
                  refine lv_icmp_eq (tgt := 110) hx hb dL_ships_105 (by decide) (fun c => absurd (show (0 : Int32) = (1 : Int32) from c) (by decide)) (fun _ => ?_)
                  exact absurd (show (0 : Int32) = 0 from rfl) (fun _ => by rw [e23] at c83; first | exact absurd (hsp.mp c83) c97 | exact absurd (hsp.mpr c97) c83)
              · refine lv_iconst (v := 1) hx hb dL_ships_86 (by decide) ?_
                refine lv_goto (tgt := 91) hx hb dL_ships_87 (by decide) ?_
                refine lv_aload_n hx hb dL_ships_91 rfl (lv_at hl 3 rfl) ?_
                refine lv_iload hx hb dL_ships_92 (lv_at hl 7 rfl) ?_
                refine k_callV0 (As := [.int (nI i)]) (q_wantOf hst hz hw (w := (nI i)) (k := i) hlt rfl) S hh (cwV 1 hts gL_ships_X5_wantOf rfl rfl rfl (by decide +kernel) ⟨(Nat.le_of_ble_eq_true rfl), (Nat.le_of_ble_eq_true rfl)⟩) hz.1.1.1 hz.1.1.2 (q := (RX5, TX5, 7)) rfl rfl rfl hl.1 rfl (Nat.le_of_ble_eq_true rfl) dL_ships_94 ⟨(by show _ ≤ 351; omega), (by show _ ≤ 2106; omega)⟩ (fun v9 L1 f1 H locs hp hh => ?_)
                obtain ⟨rfl, hL1, hf1⟩ := hp
                subst hL1; subst hf1
                refine lv_if_ne (tgt := 104) hx hb dL_ships_97 (by decide) (fun c97 => ?_) (fun c97 => ?_)
                · refine lv_iconst (v := 0) hx hb dL_ships_104 (by decide) ?_
                  refine lv_icmp_eq (tgt := 110) hx hb dL_ships_105 (by decide) (fun c => absurd (show (1 : Int32) = (0 : Int32) from c) (by decide)) (fun _ => ?_)
                  exact absurd (show (0 : Int32) = 0 from rfl) (fun _ => by rw [e23] at c83; first | exact absurd (hsp.mp c83) c97 | exact absurd (hsp.mpr c97) c83)
                · refine lv_iconst (v := 1) hx hb dL_ships_100 (by decide) ?_
                  refine lv_goto (tgt := 105) hx hb dL_ships_101 (by decide) ?_
                  refine lv_icmp_eq (tgt := 110) hx hb dL_ships_105 (by decide) (fun _ => ?_) (fun c => absurd (show ¬ (1 : Int32) = (1 : Int32) from c) (by decide))
                  obtain ⟨x110, e110⟩ : ∃ y : Int32, y = (nI i) + 1 := ⟨_, rfl⟩
                  refine lv_iinc (v := x110) (lv' := [(6, .int x110), (3, .int x49), (5, .int x34), (7, .int x23), (0, .ref x), (1, .int (nI (N 3))), (2, .int wt), (4, .int x4)]) hx hb dL_ships_110 hl (k := 7) rfl (by rw [e110]; rfl) (by decide) rfl (fun ls hl => ?_)
                  refine lv_goto (tgt := 11) hx hb dL_ships_113 (by decide) ?_
                  obtain rfl : x110 = nI (i + 1) := by rw [e110]; exact nI_1 i
                  refine W.widen (k := 5 * (i + 1)) (n := 30 * (i + 1)) (by omega) (by omega) ?_
                  exact ih (i + 1) x49 x4 x34 (by omega) (by omega) (by rw [e49, ex3, ct_succ, if_neg (by rw [← e23]; exact c40), Int32.add_zero]; rfl) (by rw [ex4, ct_succ, if_neg (by rw [← e23]; exact c52)]; rfl) (by rw [e34, ex5, sI_succ, oI_step]) _ _ hh ls (lv_sub hl [4, 5, 6, 1, 7, 2, 0] rfl)
          · refine lv_aload_n hx hb dL_ships_55 rfl (lv_at hl 3 rfl) ?_
            refine lv_iload hx hb dL_ships_56 (lv_at hl 6 rfl) ?_
            refine k_callV0 (As := [.int x4]) (q_outside hst hz hw (v := x4) (by rw [ex4]; exact nI_pos (by omega))) S hh (cwV 1 hts gL_ships_X5_outside rfl rfl rfl (by decide +kernel) ⟨(Nat.le_of_ble_eq_true rfl), (Nat.le_of_ble_eq_true rfl)⟩) hz.1.1.1 hz.1.1.2 (q := (RX5, TX5, 7)) rfl rfl rfl hl.1 rfl (Nat.le_of_ble_eq_true rfl) dL_ships_58 ⟨(by show _ ≤ 351; omega), (by show _ ≤ 2106; omega)⟩ (fun v9 L1 f1 H locs hp hh => ?_)
            obtain ⟨rfl, hL1, hf1⟩ := hp
            subst hL1; subst hf1
            refine lv_iload hx hb dL_ships_61 (lv_at hl 7 rfl) ?_
            refine lv_icmp_eq (tgt := 68) hx hb dL_ships_63 (by decide) (fun c63 => ?_) (fun c63 => ?_)
            · obtain ⟨x68, e68⟩ : ∃ y : Int32, y = x4 + 1 := ⟨_, rfl⟩
              refine lv_iinc (v := x68) (lv' := [(4, .int x68), (3, .int x49), (5, .int x34), (7, .int x23), (0, .ref x), (1, .int (nI (N 3))), (2, .int wt), (6, .int (nI i))]) hx hb dL_ships_68 hl (k := 6) rfl (by rw [e68]; rfl) (by decide) rfl (fun ls hl => ?_)
              refine lv_aload_n hx hb dL_ships_71 rfl (lv_at hl 4 rfl) ?_
              refine lv_iload hx hb dL_ships_72 (lv_at hl 7 rfl) ?_
              refine k_callV0 (As := [.int (nI i)]) (q_wantOf hst hz hw (w := (nI i)) (k := i) hlt rfl) S hh (cwV 1 hts gL_ships_X5_wantOf rfl rfl rfl (by decide +kernel) ⟨(Nat.le_of_ble_eq_true rfl), (Nat.le_of_ble_eq_true rfl)⟩) hz.1.1.1 hz.1.1.2 (q := (RX5, TX5, 7)) rfl rfl rfl hl.1 rfl (Nat.le_of_ble_eq_true rfl) dL_ships_74 ⟨(by show _ ≤ 351; omega), (by show _ ≤ 2106; omega)⟩ (fun v9 L1 f1 H locs hp hh => ?_)
              obtain ⟨rfl, hL1, hf1⟩ := hp
              subst hL1; subst hf1
              refine lv_if_lt (tgt := 108) hx hb dL_ships_77 (by decide) (fun c77 => ?_) (fun c77 => ?_)
              · exact absurd (Kit.i32_nonneg.mpr hw0) (Int32.not_le.mpr c77)
              · refine lv_iload hx hb dL_ships_80 (lv_at hl 3 rfl) ?_
                refine lv_iconst (v := 2) hx hb dL_ships_82 (by decide) ?_
                refine lv_icmp_ne (tgt := 90) hx hb dL_ships_83 (by decide) (fun c83 => ?_) (fun c83 => ?_)
                · refine lv_iconst (v := 0) hx hb dL_ships_90 (by decide) ?_
                  refine lv_aload_n hx hb dL_ships_91 rfl (lv_at hl 4 rfl) ?_
                  refine lv_iload hx hb dL_ships_92 (lv_at hl 7 rfl) ?_
                  refine k_callV0 (As := [.int (nI i)]) (q_wantOf hst hz hw (w := (nI i)) (k := i) hlt rfl) S hh (cwV 1 hts gL_ships_X5_wantOf rfl rfl rfl (by decide +kernel) ⟨(Nat.le_of_ble_eq_true rfl), (Nat.le_of_ble_eq_true rfl)⟩) hz.1.1.1 hz.1.1.2 (q := (RX5, TX5, 7)) rfl rfl rfl hl.1 rfl (Nat.le_of_ble_eq_true rfl) dL_ships_94 ⟨(by show _ ≤ 351; omega), (by show _ ≤ 2106; omega)⟩ (fun v9 L1 f1 H locs hp hh => ?_)
                  obtain ⟨rfl, hL1, hf1⟩ := hp
                  subst hL1; subst hf1
                  refine lv_if_ne (tgt := 104) hx hb dL_ships_97 (by decide) (fun c97 => ?_) (fun c97 => ?_)
                  · refine lv_iconst (v := 0) hx hb dL_ships_104 (by decide) ?_
                    refine lv_icmp_eq (tgt := 110) hx hb dL_ships_105 (by decide) (fun _ => ?_) (fun c => absurd (show ¬ (0 : Int32) = (0 : Int32) from c) (by decide))
                    obtain ⟨x110, e110⟩ : ∃ y : Int32, y = (nI i) + 1 := ⟨_, rfl⟩
                    refine lv_iinc (v := x110) (lv' := [(6, .int x110), (4, .int x68), (3, .int x49), (5, .int x34), (7, .int x23), (0, .ref x), (1, .int (nI (N 3))), (2, .int wt)]) hx hb dL_ships_110 hl (k := 7) rfl (by rw [e110]; rfl) (by decide) rfl (fun ls hl => ?_)
                    refine lv_goto (tgt := 11) hx hb dL_ships_113 (by decide) ?_
                    obtain rfl : x110 = nI (i + 1) := by rw [e110]; exact nI_1 i
                    refine W.widen (k := 5 * (i + 1)) (n := 30 * (i + 1)) (by omega) (by omega) ?_
                    exact ih (i + 1) x49 x68 x34 (by omega) (by omega) (by rw [e49, ex3, ct_succ, if_neg (by rw [← e23]; exact c40), Int32.add_zero]; rfl) (by rw [e68, ex4, ct_succ, if_pos (by rw [← e23]; exact c52)]; exact nI_1 _) (by rw [e34, ex5, sI_succ, oI_step]) _ _ hh ls (lv_sub hl [5, 6, 7, 2, 1, 3, 0] rfl)
                  · refine lv_iconst (v := 1) hx hb dL_ships_100 (by decide) ?_
                    refine lv_goto (tgt := 105) hx hb dL_ships_101 (by decide) ?_
                    refine lv_icmp_eq (tgt := 110) hx hb dL_ships_105 (by decide) (fun c => absurd (show (0 : Int32) = (1 : Int32) from c) (by decide)) (fun _ => ?_)
                    exact absurd (show (0 : Int32) = 0 from rfl) (fun _ => by rw [e23] at c83; first | exact absurd (hsp.mp c83) c97 | exact absurd (hsp.mpr c97) c83)
                · refine lv_iconst (v := 1) hx hb dL_ships_86 (by decide) ?_
                  refine lv_goto (tgt := 91) hx hb dL_ships_87 (by decide) ?_
                  refine lv_aload_n hx hb dL_ships_91 rfl (lv_at hl 4 rfl) ?_
                  refine lv_iload hx hb dL_ships_92 (lv_at hl 7 rfl) ?_
                  refine k_callV0 (As := [.int (nI i)]) (q_wantOf hst hz hw (w := (nI i)) (k := i) hlt rfl) S hh (cwV 1 hts gL_ships_X5_wantOf rfl rfl rfl (by decide +kernel) ⟨(Nat.le_of_ble_eq_true rfl), (Nat.le_of_ble_eq_true rfl)⟩) hz.1.1.1 hz.1.1.2 (q := (RX5, TX5, 7)) rfl rfl rfl hl.1 rfl (Nat.le_of_ble_eq_true rfl) dL_ships_94 ⟨(by show _ ≤ 351; omega), (by show _ ≤ 2106; omega)⟩ (fun v9 L1 f1 H locs hp hh => ?_)
                  obtain ⟨rfl, hL1, hf1⟩ := hp
                  subst hL1; subst hf1
                  refine lv_if_ne (tgt := 104) hx hb dL_ships_97 (by decide) (fun c97 => ?_) (fun c97 => ?_)
                  · refine lv_iconst (v := 0) hx hb dL_ships_104 (by decide) ?_
                    refine lv_icmp_eq (tgt := 110) hx hb dL_ships_105 (by decide) (fun c => absurd (show (1 : Int32) = (0 : Int32) from c) (by decide)) (fun _ => ?_)
                    exact absurd (show (0 : Int32) = 0 from rfl) (fun _ => by rw [e23] at c83; first | exact absurd (hsp.mp c83) c97 | exact absurd (hsp.mpr c97) c83)
                  · refine lv_iconst (v := 1) hx hb dL_ships_100 (by decide) ?_
                    refine lv_goto (tgt := 105) hx hb dL_ships_101 (by decide) ?_
                    refine lv_icmp_eq (tgt := 110) hx hb dL_ships_105 (by decide) (fun _ => ?_) (fun c => absurd (show ¬ (1 : Int32) = (1 : Int32) from c) (by decide))
                    obtain ⟨x110, e110⟩ : ∃ y : Int32, y = (nI i) + 1 := ⟨_, rfl⟩
                    refine lv_iinc (v := x110) (lv' := [(6, .int x110), (4, .int x68), (3, .int x49), (5, .int x34), (7, .int x23), (0, .ref x), (1, .int (nI (N 3))), (2, .int wt)]) hx hb dL_ships_110 hl (k := 7) rfl (by rw [e110]; rfl) (by decide) rfl (fun ls hl => ?_)
                    refine lv_goto (tgt := 11) hx hb dL_ships_113 (by decide) ?_
                    obtain rfl : x110 = nI (i + 1) := by rw [e110]; exact nI_1 i
                    refine W.widen (k := 5 * (i + 1)) (n := 30 * (i + 1)) (by omega) (by omega) ?_
                    exact ih (i + 1) x49 x68 x34 (by omega) (by omega) (by rw [e49, ex3, ct_succ, if_neg (by rw [← e23]; exact c40), Int32.add_zero]; rfl) (by rw [e68, ex4, ct_succ, if_pos (by rw [← e23]; exact c52)]; exact nI_1 _) (by rw [e34, ex5, sI_succ, oI_step]) _ _ hh ls (lv_sub hl [5, 6, 7, 2, 1, 3, 0] rfl)
            · exact absurd (by rw [ex4]; exact out_at hq hlt (by rw [← e23]; exact c52)) c63
        · refine lv_iconst (v := 1) hx hb dL_ships_43 (by decide) ?_
          refine lv_goto (tgt := 48) hx hb dL_ships_44 (by decide) ?_
          refine lv_iadd hx hb dL_ships_48 ?_
          refine lv_topi (fun x49 e49 => ?_)
          refine lv_istore_n (lv' := [(3, .int x49), (5, .int x34), (7, .int x23), (0, .ref x), (1, .int (nI (N 3))), (2, .int wt), (4, .int x4), (6, .int (nI i))]) hx hb dL_ships_49 rfl hl (by decide) rfl (fun ls hl => ?_)
          refine lv_iload hx hb dL_ships_50 (lv_at hl 2 rfl) ?_
          refine lv_if_ne (tgt := 71) hx hb dL_ships_52 (by decide) (fun c52 => ?_) (fun c52 => ?_)
          · refine lv_aload_n hx hb dL_ships_71 rfl (lv_at hl 3 rfl) ?_
            refine lv_iload hx hb dL_ships_72 (lv_at hl 7 rfl) ?_
            refine k_callV0 (As := [.int (nI i)]) (q_wantOf hst hz hw (w := (nI i)) (k := i) hlt rfl) S hh (cwV 1 hts gL_ships_X5_wantOf rfl rfl rfl (by decide +kernel) ⟨(Nat.le_of_ble_eq_true rfl), (Nat.le_of_ble_eq_true rfl)⟩) hz.1.1.1 hz.1.1.2 (q := (RX5, TX5, 7)) rfl rfl rfl hl.1 rfl (Nat.le_of_ble_eq_true rfl) dL_ships_74 ⟨(by show _ ≤ 351; omega), (by show _ ≤ 2106; omega)⟩ (fun v9 L1 f1 H locs hp hh => ?_)
            obtain ⟨rfl, hL1, hf1⟩ := hp
            subst hL1; subst hf1
            refine lv_if_lt (tgt := 108) hx hb dL_ships_77 (by decide) (fun c77 => ?_) (fun c77 => ?_)
            · exact absurd (Kit.i32_nonneg.mpr hw0) (Int32.not_le.mpr c77)
            · refine lv_iload hx hb dL_ships_80 (lv_at hl 2 rfl) ?_
              refine lv_iconst (v := 2) hx hb dL_ships_82 (by decide) ?_
              refine lv_icmp_ne (tgt := 90) hx hb dL_ships_83 (by decide) (fun c83 => ?_) (fun c83 => ?_)
              · refine lv_iconst (v := 0) hx hb dL_ships_90 (by decide) ?_
                refine lv_aload_n hx hb dL_ships_91 rfl (lv_at hl 3 rfl) ?_
                refine lv_iload hx hb dL_ships_92 (lv_at hl 7 rfl) ?_
                refine k_callV0 (As := [.int (nI i)]) (q_wantOf hst hz hw (w := (nI i)) (k := i) hlt rfl) S hh (cwV 1 hts gL_ships_X5_wantOf rfl rfl rfl (by decide +kernel) ⟨(Nat.le_of_ble_eq_true rfl), (Nat.le_of_ble_eq_true rfl)⟩) hz.1.1.1 hz.1.1.2 (q := (RX5, TX5, 7)) rfl rfl rfl hl.1 rfl (Nat.le_of_ble_eq_true rfl) dL_ships_94 ⟨(by show _ ≤ 351; omega), (by show _ ≤ 2106; omega)⟩ (fun v9 L1 f1 H locs hp hh => ?_)
                obtain ⟨rfl, hL1, hf1⟩ := hp
                subst hL1; subst hf1
                refine lv_if_ne (tgt := 104) hx hb dL_ships_97 (by decide) (fun c97 => ?_) (fun c97 => ?_)
                · refine lv_iconst (v := 0) hx hb dL_ships_104 (by decide) ?_
                  refine lv_icmp_eq (tgt := 110) hx hb dL_ships_105 (by decide) (fun _ => ?_) (fun c => absurd (show ¬ (0 : Int32) = (0 : Int32) from c) (by decide))
                  obtain ⟨x110, e110⟩ : ∃ y : Int32, y = (nI i) + 1 := ⟨_, rfl⟩
                  refine lv_iinc (v := x110) (lv' := [(6, .int x110), (3, .int x49), (5, .int x34), (7, .int x23), (0, .ref x), (1, .int (nI (N 3))), (2, .int wt), (4, .int x4)]) hx hb dL_ships_110 hl (k := 7) rfl (by rw [e110]; rfl) (by decide) rfl (fun ls hl => ?_)
                  refine lv_goto (tgt := 11) hx hb dL_ships_113 (by decide) ?_
                  obtain rfl : x110 = nI (i + 1) := by rw [e110]; exact nI_1 i
                  refine W.widen (k := 5 * (i + 1)) (n := 30 * (i + 1)) (by omega) (by omega) ?_
                  exact ih (i + 1) x49 x4 x34 (by omega) (by omega) (by rw [e49, ex3, ct_succ, if_pos (by rw [← e23]; exact c40)]; exact nI_1 _) (by rw [ex4, ct_succ, if_neg (by rw [← e23]; exact c52)]; rfl) (by rw [e34, ex5, sI_succ, oI_step]) _ _ hh ls (lv_sub hl [4, 5, 6, 1, 7, 2, 0] rfl)
                · refine lv_iconst (v := 1) hx hb dL_ships_100 (by decide) ?_
                  refine lv_goto (tgt := 105) hx hb dL_ships_101 (by decide) ?_
                  refine lv_icmp_eq (tgt := 110) hx hb dL_ships_105 (by decide) (fun c => absurd (show (0 : Int32) = (1 : Int32) from c) (by decide)) (fun _ => ?_)
                  exact absurd (show (0 : Int32) = 0 from rfl) (fun _ => by rw [e23] at c83; first | exact absurd (hsp.mp c83) c97 | exact absurd (hsp.mpr c97) c83)
              · refine lv_iconst (v := 1) hx hb dL_ships_86 (by decide) ?_
                refine lv_goto (tgt := 91) hx hb dL_ships_87 (by decide) ?_
                refine lv_aload_n hx hb dL_ships_91 rfl (lv_at hl 3 rfl) ?_
                refine lv_iload hx hb dL_ships_92 (lv_at hl 7 rfl) ?_
                refine k_callV0 (As := [.int (nI i)]) (q_wantOf hst hz hw (w := (nI i)) (k := i) hlt rfl) S hh (cwV 1 hts gL_ships_X5_wantOf rfl rfl rfl (by decide +kernel) ⟨(Nat.le_of_ble_eq_true rfl), (Nat.le_of_ble_eq_true rfl)⟩) hz.1.1.1 hz.1.1.2 (q := (RX5, TX5, 7)) rfl rfl rfl hl.1 rfl (Nat.le_of_ble_eq_true rfl) dL_ships_94 ⟨(by show _ ≤ 351; omega), (by show _ ≤ 2106; omega)⟩ (fun v9 L1 f1 H locs hp hh => ?_)
                obtain ⟨rfl, hL1, hf1⟩ := hp
                subst hL1; subst hf1
                refine lv_if_ne (tgt := 104) hx hb dL_ships_97 (by decide) (fun c97 => ?_) (fun c97 => ?_)
                · refine lv_iconst (v := 0) hx hb dL_ships_104 (by decide) ?_
                  refine lv_icmp_eq (tgt := 110) hx hb dL_ships_105 (by decide) (fun c => absurd (show (1 : Int32) = (0 : Int32) from c) (by decide)) (fun _ => ?_)
                  exact absurd (show (0 : Int32) = 0 from rfl) (fun _ => by rw [e23] at c83; first | exact absurd (hsp.mp c83) c97 | exact absurd (hsp.mpr c97) c83)
                · refine lv_iconst (v := 1) hx hb dL_ships_100 (by decide) ?_
                  refine lv_goto (tgt := 105) hx hb dL_ships_101 (by decide) ?_
                  refine lv_icmp_eq (tgt := 110) hx hb dL_ships_105 (by decide) (fun _ => ?_) (fun c => absurd (show ¬ (1 : Int32) = (1 : Int32) from c) (by decide))
                  obtain ⟨x110, e110⟩ : ∃ y : Int32, y = (nI i) + 1 := ⟨_, rfl⟩
                  refine lv_iinc (v := x110) (lv' := [(6, .int x110), (3, .int x49), (5, .int x34), (7, .int x23), (0, .ref x), (1, .int (nI (N 3))), (2, .int wt), (4, .int x4)]) hx hb dL_ships_110 hl (k := 7) rfl (by rw [e110]; rfl) (by decide) rfl (fun ls hl => ?_)
                  refine lv_goto (tgt := 11) hx hb dL_ships_113 (by decide) ?_
                  obtain rfl : x110 = nI (i + 1) := by rw [e110]; exact nI_1 i
                  refine W.widen (k := 5 * (i + 1)) (n := 30 * (i + 1)) (by omega) (by omega) ?_
                  exact ih (i + 1) x49 x4 x34 (by omega) (by omega) (by rw [e49, ex3, ct_succ, if_pos (by rw [← e23]; exact c40)]; exact nI_1 _) (by rw [ex4, ct_succ, if_neg (by rw [← e23]; exact c52)]; rfl) (by rw [e34, ex5, sI_succ, oI_step]) _ _ hh ls (lv_sub hl [4, 5, 6, 1, 7, 2, 0] rfl)
          · refine lv_aload_n hx hb dL_ships_55 rfl (lv_at hl 3 rfl) ?_
            refine lv_iload hx hb dL_ships_56 (lv_at hl 6 rfl) ?_
            refine k_callV0 (As := [.int x4]) (q_outside hst hz hw (v := x4) (by rw [ex4]; exact nI_pos (by omega))) S hh (cwV 1 hts gL_ships_X5_outside rfl rfl rfl (by decide +kernel) ⟨(Nat.le_of_ble_eq_true rfl), (Nat.le_of_ble_eq_true rfl)⟩) hz.1.1.1 hz.1.1.2 (q := (RX5, TX5, 7)) rfl rfl rfl hl.1 rfl (Nat.le_of_ble_eq_true rfl) dL_ships_58 ⟨(by show _ ≤ 351; omega), (by show _ ≤ 2106; omega)⟩ (fun v9 L1 f1 H locs hp hh => ?_)
            obtain ⟨rfl, hL1, hf1⟩ := hp
            subst hL1; subst hf1
            refine lv_iload hx hb dL_ships_61 (lv_at hl 7 rfl) ?_
            refine lv_icmp_eq (tgt := 68) hx hb dL_ships_63 (by decide) (fun c63 => ?_) (fun c63 => ?_)
            · obtain ⟨x68, e68⟩ : ∃ y : Int32, y = x4 + 1 := ⟨_, rfl⟩
              refine lv_iinc (v := x68) (lv' := [(4, .int x68), (3, .int x49), (5, .int x34), (7, .int x23), (0, .ref x), (1, .int (nI (N 3))), (2, .int wt), (6, .int (nI i))]) hx hb dL_ships_68 hl (k := 6) rfl (by rw [e68]; rfl) (by decide) rfl (fun ls hl => ?_)
              refine lv_aload_n hx hb dL_ships_71 rfl (lv_at hl 4 rfl) ?_
              refine lv_iload hx hb dL_ships_72 (lv_at hl 7 rfl) ?_
              refine k_callV0 (As := [.int (nI i)]) (q_wantOf hst hz hw (w := (nI i)) (k := i) hlt rfl) S hh (cwV 1 hts gL_ships_X5_wantOf rfl rfl rfl (by decide +kernel) ⟨(Nat.le_of_ble_eq_true rfl), (Nat.le_of_ble_eq_true rfl)⟩) hz.1.1.1 hz.1.1.2 (q := (RX5, TX5, 7)) rfl rfl rfl hl.1 rfl (Nat.le_of_ble_eq_true rfl) dL_ships_74 ⟨(by show _ ≤ 351; omega), (by show _ ≤ 2106; omega)⟩ (fun v9 L1 f1 H locs hp hh => ?_)
              obtain ⟨rfl, hL1, hf1⟩ := hp
              subst hL1; subst hf1
              refine lv_if_lt (tgt := 108) hx hb dL_ships_77 (by decide) (fun c77 => ?_) (fun c77 => ?_)
              · exact absurd (Kit.i32_nonneg.mpr hw0) (Int32.not_le.mpr c77)
              · refine lv_iload hx hb dL_ships_80 (lv_at hl 3 rfl) ?_
                refine lv_iconst (v := 2) hx hb dL_ships_82 (by decide) ?_
                refine lv_icmp_ne (tgt := 90) hx hb dL_ships_83 (by decide) (fun c83 => ?_) (fun c83 => ?_)
                · refine lv_iconst (v := 0) hx hb dL_ships_90 (by decide) ?_
                  refine lv_aload_n hx hb dL_ships_91 rfl (lv_at hl 4 rfl) ?_
                  refine lv_iload hx hb dL_ships_92 (lv_at hl 7 rfl) ?_
                  refine k_callV0 (As := [.int (nI i)]) (q_wantOf hst hz hw (w := (nI i)) (k := i) hlt rfl) S hh (cwV 1 hts gL_ships_X5_wantOf rfl rfl rfl (by decide +kernel) ⟨(Nat.le_of_ble_eq_true rfl), (Nat.le_of_ble_eq_true rfl)⟩) hz.1.1.1 hz.1.1.2 (q := (RX5, TX5, 7)) rfl rfl rfl hl.1 rfl (Nat.le_of_ble_eq_true rfl) dL_ships_94 ⟨(by show _ ≤ 351; omega), (by show _ ≤ 2106; omega)⟩ (fun v9 L1 f1 H locs hp hh => ?_)
                  obtain ⟨rfl, hL1, hf1⟩ := hp
                  subst hL1; subst hf1
                  refine lv_if_ne (tgt := 104) hx hb dL_ships_97 (by decide) (fun c97 => ?_) (fun c97 => ?_)
                  · refine lv_iconst (v := 0) hx hb dL_ships_104 (by decide) ?_
                    refine lv_icmp_eq (tgt := 110) hx hb dL_ships_105 (by decide) (fun _ => ?_) (fun c => absurd (show ¬ (0 : Int32) = (0 : Int32) from c) (by decide))
                    obtain ⟨x110, e110⟩ : ∃ y : Int32, y = (nI i) + 1 := ⟨_, rfl⟩
                    refine lv_iinc (v := x110) (lv' := [(6, .int x110), (4, .int x68), (3, .int x49), (5, .int x34), (7, .int x23), (0, .ref x), (1, .int (nI (N 3))), (2, .int wt)]) hx hb dL_ships_110 hl (k := 7) rfl (by rw [e110]; rfl) (by decide) rfl (fun ls hl => ?_)
                    refine lv_goto (tgt := 11) hx hb dL_ships_113 (by decide) ?_
                    obtain rfl : x110 = nI (i + 1) := by rw [e110]; exact nI_1 i
                    refine W.widen (k := 5 * (i + 1)) (n := 30 * (i + 1)) (by omega) (by omega) ?_
                    exact ih (i + 1) x49 x68 x34 (by omega) (by omega) (by rw [e49, ex3, ct_succ, if_pos (by rw [← e23]; exact c40)]; exact nI_1 _) (by rw [e68, ex4, ct_succ, if_pos (by rw [← e23]; exact c52)]; exact nI_1 _) (by rw [e34, ex5, sI_succ, oI_step]) _ _ hh ls (lv_sub hl [5, 6, 7, 2, 1, 3, 0] rfl)
                  · refine lv_iconst (v := 1) hx hb dL_ships_100 (by decide) ?_
                    refine lv_goto (tgt := 105) hx hb dL_ships_101 (by decide) ?_
                    refine lv_icmp_eq (tgt := 110) hx hb dL_ships_105 (by decide) (fun c => absurd (show (0 : Int32) = (1 : Int32) from c) (by decide)) (fun _ => ?_)
                    exact absurd (show (0 : Int32) = 0 from rfl) (fun _ => by rw [e23] at c83; first | exact absurd (hsp.mp c83) c97 | exact absurd (hsp.mpr c97) c83)
                · refine lv_iconst (v := 1) hx hb dL_ships_86 (by decide) ?_
                  refine lv_goto (tgt := 91) hx hb dL_ships_87 (by decide) ?_
                  refine lv_aload_n hx hb dL_ships_91 rfl (lv_at hl 4 rfl) ?_
                  refine lv_iload hx hb dL_ships_92 (lv_at hl 7 rfl) ?_
                  refine k_callV0 (As := [.int (nI i)]) (q_wantOf hst hz hw (w := (nI i)) (k := i) hlt rfl) S hh (cwV 1 hts gL_ships_X5_wantOf rfl rfl rfl (by decide +kernel) ⟨(Nat.le_of_ble_eq_true rfl), (Nat.le_of_ble_eq_true rfl)⟩) hz.1.1.1 hz.1.1.2 (q := (RX5, TX5, 7)) rfl rfl rfl hl.1 rfl (Nat.le_of_ble_eq_true rfl) dL_ships_94 ⟨(by show _ ≤ 351; omega), (by show _ ≤ 2106; omega)⟩ (fun v9 L1 f1 H locs hp hh => ?_)
                  obtain ⟨rfl, hL1, hf1⟩ := hp
                  subst hL1; subst hf1
                  refine lv_if_ne (tgt := 104) hx hb dL_ships_97 (by decide) (fun c97 => ?_) (fun c97 => ?_)
                  · refine lv_iconst (v := 0) hx hb dL_ships_104 (by decide) ?_
                    refine lv_icmp_eq (tgt := 110) hx hb dL_ships_105 (by decide) (fun c => absurd (show (1 : Int32) = (0 : Int32) from c) (by decide)) (fun _ => ?_)
                    exact absurd (show (0 : Int32) = 0 from rfl) (fun _ => by rw [e23] at c83; first | exact absurd (hsp.mp c83) c97 | exact absurd (hsp.mpr c97) c83)
                  · refine lv_iconst (v := 1) hx hb dL_ships_100 (by decide) ?_
                    refine lv_goto (tgt := 105) hx hb dL_ships_101 (by decide) ?_
                    refine lv_icmp_eq (tgt := 110) hx hb dL_ships_105 (by decide) (fun _ => ?_) (fun c => absurd (show ¬ (1 : Int32) = (1 : Int32) from c) (by decide))
                    obtain ⟨x110, e110⟩ : ∃ y : Int32, y = (nI i) + 1 := ⟨_, rfl⟩
                    refine lv_iinc (v := x110) (lv' := [(6, .int x110), (4, .int x68), (3, .int x49), (5, .int x34), (7, .int x23), (0, .ref x), (1, .int (nI (N 3))), (2, .int wt)]) hx hb dL_ships_110 hl (k := 7) rfl (by rw [e110]; rfl) (by decide) rfl (fun ls hl => ?_)
                    refine lv_goto (tgt := 11) hx hb dL_ships_113 (by decide) ?_
                    obtain rfl : x110 = nI (i + 1) := by rw [e110]; exact nI_1 i
                    refine W.widen (k := 5 * (i + 1)) (n := 30 * (i + 1)) (by omega) (by omega) ?_
                    exact ih (i + 1) x49 x68 x34 (by omega) (by omega) (by rw [e49, ex3, ct_succ, if_pos (by rw [← e23]; exact c40)]; exact nI_1 _) (by rw [e68, ex4, ct_succ, if_pos (by rw [← e23]; exact c52)]; exact nI_1 _) (by rw [e34, ex5, sI_succ, oI_step]) _ _ hh ls (lv_sub hl [5, 6, 7, 2, 1, 3, 0] rfl)
            · exact absurd (by rw [ex4]; exact out_at hq hlt (by rw [← e23]; exact c52)) c63
  exact loop (N 3 + 1) 0 _ _ _ (Nat.zero_le _) (by omega) rfl rfl rfl _ _ hh ls (lv_sub hl [4, 5, 6, 3, 2, 1, 0] rfl)
