/-! rows of the law's body -/
/-- between the acts: the object x, the row hd -/
def LI (κ : Kx) (x hd : Nat) (N P : Nat → Nat) (C M : MS) (n : Nat) (came wanted : Int) (L : List Nat) (f : Nat → va_E) : Prop := (∃ a, CA κ x a N P C L f) ∧ (hd ∈ L ∧ ∃ gg : Nat → Int32, f hd = .inl (kI κ, 6, .inl gg) ∧ ∀ i, i < N 1 → gg i = C 1 i) ∧ QS (N, P, C) M n came wanted
theorem CA.keep {κ : Kx} {x : Nat} {a : AD} {N P : Nat → Nat} {C : MS} {L L1 : List Nat} {f f1 : Nat → va_E} (h : CA κ x a N P C L f) (hL : ∀ q, q ∈ L → q ∈ L1) (hf : ∀ q, q ∈ L → isRO (f q) = false → f1 q = f q) : CA κ x a N P C L1 f1 := by
  obtain ⟨⟨h1, h2⟩, h3, h4, h5, h6, h7, h8⟩ := h
  have tag : ∀ q ci fs, q ∈ L → f q = .inr (ci, fs) → ci ≠ 7 → f1 q = f q := fun q ci fs hq hq2 hc => hf q hq (by rw [hq2]; simp [isRO, hc])
  refine ⟨⟨hL _ h1, by rw [tag x 6 _ h1 h2 (by decide)]; exact h2⟩, fun k i hk hi => ?_, fun i hi hc => ?_, h5, fun j hj => ?_, h7, h8⟩
  · obtain ⟨p1, p2⟩ := h3 k i hk hi
    have hr := ciOf_r k
    exact ⟨hL _ p1, by rw [tag _ _ _ p1 p2 (by omega)]; exact p2⟩
  · obtain ⟨p1, p2⟩ := h4 i hi hc
    exact ⟨hL _ p1, by rw [tag _ _ _ p1 p2 (by decide)]; exact p2⟩
  · obtain ⟨⟨q1, mc, q2⟩, q3⟩ := h6 j hj
    refine ⟨⟨hL _ q1, mc, by rw [tag _ 0 _ q1 q2 (by decide)]; exact q2⟩, ?_⟩
    rcases q3 with q3 | ⟨cap, g, hR, hn, hg⟩
    · exact Or.inl q3
    · refine Or.inr ⟨cap, g, ⟨hL _ hR.1, by rw [hf _ hR.1 (by rw [hR.2.1]; rfl)]; exact hR.2.1, hR.2.2.1, fun i y hi hy => ?_⟩, hn, hg⟩
      obtain ⟨y1, ci, fs, q, y2, y3, y4⟩ := hR.2.2.2 i y hi hy
      have hci : ci ≠ 7 := fun z => by
        subst z
        exact absurd y3 (by simp [vwCl])
      refine ⟨hL _ y1, ?_⟩
      rw [tag y ci fs y1 y2 hci]
      exact ⟨ci, fs, q, y2, y3, y4⟩
/-- the class keeps the row -/
theorem ZC.hd {κ : Kx} {x hd : Nat} {a : AD} {N P : Nat → Nat} {C : MS} {L L1 : List Nat} {f f1 : Nat → va_E} {gg : Nat → Int32} (hz : ZC κ x a N P C L f L1 f1) (h1 : hd ∈ L) (h2 : f hd = .inl (kI κ, 6, .inl gg)) : hd ∈ L1 ∧ f1 hd = .inl (kI κ, 6, .inl gg) := ⟨hz.2.1 hd h1, (hz.2.2 hd h1 (by rw [h2]; rfl)).trans h2⟩
/-- the row gets a hold: the class's cells stay -/
theorem ZC.row {κ : Kx} {x hd : Nat} {a : AD} {N P : Nat → Nat} {C : MS} {L L0 : List Nat} {f f0 : Nat → va_E} {gg g2 : Nat → Int32} (hz : ZC κ x a N P C L0 f0 L f) (h2 : f hd = .inl (kI κ, 6, .inl gg)) : ZC κ x a N P C L (va_up f hd (.inl (kI κ, 6, .inl g2))) L (va_up f hd (.inl (kI κ, 6, .inl g2))) := by
  refine ⟨hz.1.keep (fun q h => h) (fun q hq hr => ?_), Fr.rf⟩
  have hne : q ≠ hd := fun z => by rw [z, h2] at hr; cases hr
  simp [va_up, hne]
/-- what comes behind an act -/
def LK (p : Program) (l : Launch) (e : Env) (s : State) (m : MethodId) (b : Nat) (below : List Frame) (meth : Method) (c : Code) (Q : State → Prop) (κ : Kx) (x hd n : Nat) : Prop :=
  ∀ (N1 P1 : Nat → Nat) (C1 M1 : MS) (came1 wanted1 : Int) (cm1 wt1 : Int32) (L1 : List Nat) (f1 : Nat → va_E) (H1 : Heap) (locs1 : List Loc) (ls1 : Array Slot), HH κ L1 f1 s H1 locs1 → LI κ x hd N1 P1 C1 M1 (n + 1) came1 wanted1 L1 f1 → cm1 = Int32.ofInt came1 → wt1 = Int32.ofInt wanted1 → lv_has ls1 17 [(0, .ref b), (1, .ref x), (2, .ref hd), (3, .int cm1), (4, .int (nI (N1 0))), (5, .int (nI (N1 1))), (6, .int (nI (N1 2))), (7, .int (nI (N1 3))), (8, .int wt1), (9, .int (nI n)), (13, .int 1)] →
    W p l e room_1 s m #[Value.ref b] below meth c H1 locs1 (30 + 600 * n + 60) (2000 + 8000 * n + 4000) Q (F0 m 434 ls1 [])
/-- the holds stay -/
def Kh (M M1 : MS) : Prop := M1 1 = M 1
theorem Kh.st {M M1 : MS} (h : Kh M M1) {k i : Nat} {v : Int32} (hk : ¬ k = 1) : Kh M (stM M1 k i v) := (st_ne M1 i v (by omega)).trans h
theorem Kh.sc {M M1 : MS} (h : Kh M M1) {k : Nat} {v : Int32} (hk : ¬ k = 1) : Kh M (scM M1 k v) := (sc_ne M1 v (by omega)).trans h
theorem end_kh {M M1 : MS} (h : Kh M M1) (i : Nat) : Kh M (endF M1 i) := by
  unfold endF
  split
  · exact (h.st (by decide)).st (by decide)
  · exact (((h.st (by decide)).st (by decide)).st (by decide)).st (by decide)
theorem cast_kh {M M1 : MS} (h : Kh M M1) (i : Nat) : Kh M (castF M1 i) := by
  unfold castF
  split
  · exact end_kh h i
  · exact (h.st (by decide)).st (by decide)
theorem work_kh {M M1 : MS} (h0 : Kh M M1) (i : Nat) : Kh M (workF M1 i) := by
  have h : Kh M (stM M1 10 (nT (M1 6 i)) (M1 10 (nT (M1 6 i)) + 1)) := h0.st (by decide)
  unfold workF placeF atHulkF atSteamerF goOnF goF turnF fillF pourF
  have h8 : ∀ v, Kh M (stM (stM M1 10 (nT (M1 6 i)) (M1 10 (nT (M1 6 i)) + 1)) 8 i v) := fun v => h.st (by decide)
  split
  · split
    · exact cast_kh h i
    · split
      · exact cast_kh h i
      · exact ((h.st (by decide)).st (by decide)).st (by decide)
  · split
    · split
      · exact (h.st (by decide)).st (by decide)
      · split
        · exact (((h.st (by decide)).st (by decide)).st (by decide)).sc (by decide)
        · exact h
    · split
      · split
        · exact (h8 _).st (by decide)
        · exact end_kh (h8 _) i
      · exact h8 _
theorem workLoop_kh {M M1 : MS} (h : Kh M M1) : ∀ n, Kh M (workLoop M1 n)
  | 0 => h
  | n + 1 => by
    unfold workLoop
    split
    · exact workLoop_kh h n
    · exact work_kh (workLoop_kh h n) n
theorem rest_kh {M M1 : MS} (h : Kh M M1) : ∀ n, Kh M (restLoop M1 n)
  | 0 => h
  | n + 1 => (rest_kh h n).st (by decide)
theorem buoy_kh {M M1 : MS} (h : Kh M M1) (ns : Nat) : ∀ n, Kh M (buoyLoop M1 ns n)
  | 0 => h
  | n + 1 => (buoy_kh h ns n).st (by decide)
theorem leave_kh {M M1 : MS} (h : Kh M M1) (s : Nat) : ∀ n, Kh M (leaveLoop M1 s n)
  | 0 => h
  | n + 1 => by
    unfold leaveLoop leaveStep turnF
    split
    · exact leave_kh h s n
    · split
      · split
        · exact end_kh (leave_kh h s n) n
        · split
          · exact leave_kh h s n
          · exact ((leave_kh h s n).st (by decide)).st (by decide)
      · exact leave_kh h s n
theorem gone_kh {M M1 : MS} (h : Kh M M1) (nl : Nat) : ∀ n, Kh M (goneLoop M1 nl n).1
  | 0 => h
  | n + 1 => by
    unfold goneLoop goneStep leaveF
    split
    · exact gone_kh h nl n
    · split
      · exact leave_kh ((gone_kh h nl n).st (by decide)) _ _
      · split
        · exact leave_kh ((gone_kh h nl n).st (by decide)) _ _
        · exact gone_kh h nl n
theorem hours_kh {M M1 : MS} (h : Kh M M1) (nl ng ns : Nat) : ∀ n, Kh M (hoursLoop M1 nl ng ns n).1
  | 0 => h
  | n + 1 => gone_kh ((workLoop_kh (buoy_kh (rest_kh (hours_kh h nl ng ns n) ng) ns ns) nl).sc (by decide)) nl ns
theorem hold_hours {N P N2 P2 : Nat → Nat} {C C2 M : MS} {n n2 j : Nat} {came came2 wanted wanted2 : Int} (hq : QS (N, P, C) M n came wanted) (hq2 : QS (N2, P2, C2) (hoursLoop (scM M 21 0) (N 1) (N 2) (N 3) j).1 n2 came2 wanted2) : C2 1 = C 1 := by
  have e1 : C 1 = M 1 := hq.1.pl.1.2.1.1.1 1 rfl
  have e2 : C2 1 = (hoursLoop (scM M 21 0) (N 1) (N 2) (N 3) j).1 1 := hq2.1.pl.1.2.1.1.1 1 rfl
  have e3 : (hoursLoop (scM M 21 0) (N 1) (N 2) (N 3) j).1 1 = scM M 21 0 1 := hours_kh (M := scM M 21 0) rfl (N 1) (N 2) (N 3) j
  rw [e2, e3, e1]
  rfl
theorem row_upd {N : Nat → Nat} {C : MS} {gg : Nat → Int32} {v : Int32} (h : ∀ i, i < N 1 → gg i = C 1 i) (i : Nat) (hi : i < va_up N 1 (N 1 + 1) 1) : upd gg (N 1) v i = lighterC N C v 1 i := by
  have e : va_up N 1 (N 1 + 1) 1 = N 1 + 1 := by simp [va_up]
  rw [e] at hi
  show upd gg (N 1) v i = upd (C 1) (N 1) v i
  by_cases z : i = N 1
  · rw [z, upd_at, upd_at]
  · rw [upd_off z, upd_off z]
    exact h i (by omega)
theorem r20 {j : Nat} (h : j < 2 ^ 30) : (nI (20 + j)).toInt = 20 + (j : Int) := by rw [nI_toInt (by omega)]; omega
theorem r1 {j : Nat} (h : j < 2 ^ 30) : (nI (1 + j)).toInt = 1 + (j : Int) := by rw [nI_toInt (by omega)]; omega

set_option maxRecDepth 100000 in
set_option maxHeartbeats 4000000 in
theorem law_hulk {p : Program} {l : Launch} {e : Env} {s : State} {m : MethodId} {below : List Frame} {meth : Method} {c : Code} {H : Heap} {locs : List Loc} {Q : State → Prop} {κ : Kx} {L : List Nat} {f : Nat → va_E} {ls : Array Slot} {b x hd n : Nat} {N P : Nat → Nat} {C M : MS} {came wanted : Int} {cm wt v10 v11 : Int32} {jw : Nat} (hst : l.stackTraces = false) (S : CallFix p m c cL_law 17 s #[Value.ref b] wsL_law RL) (hn70 : n < 70) (hh : HH κ L f s H locs) (hI : LI κ x hd N P C M n came wanted L f) (hcm : cm = Int32.ofInt came) (hwt : wt = Int32.ofInt wanted) (hl : lv_has ls 17 [(0, .ref b), (1, .ref x), (2, .ref hd), (3, .int cm), (4, .int (nI (N 0))), (5, .int (nI (N 1))), (6, .int (nI (N 2))), (7, .int (nI (N 3))), (8, .int wt), (9, .int (nI n)), (10, .int v10), (11, .int v11), (12, .int (nI jw)), (13, .int 1)]) (hN : N 0 < 3) (kk : LK p l e s m b below meth c Q κ x hd n) : W p l e room_1 s m #[Value.ref b] below meth c H locs (30 + 600 * n + 1) (2000 + 8000 * n + 6) Q (F0 m 90 ls []) := by
  obtain ⟨hx, hb, hml, hown, hts⟩ := id S
  obtain ⟨⟨a, hca⟩, ⟨hd1, gg, hd2, hd3⟩, hq⟩ := id hI
  have hz : ZC κ x a N P C L f L f := ⟨hca, Fr.rf⟩
  obtain ⟨hw, fHu, fLi, fTo, fWa, fWk, fSt, fBu, fS1, fN3, fC0⟩ := hq.f
  obtain ⟨b0, b1, b2, b3, b4⟩ := id hw.1
  refine lv_iload hx hb dL_law_90 (lv_at hl 11 rfl) ?_
  refine lv_sipush (v := 4000) hx hb dL_law_92 (by decide) ?_
  obtain ⟨j95, hj95, ej95⟩ := low_ix v11 (n := 4000) (by decide) (by omega)
  refine k_callS0 (As := [.int v11, .int (nI 4000)]) (k_low ej95 (by decide) (by omega)) S hh (va_cwS 2 hts gL_law_L_low rfl rfl rfl (by decide +kernel) ⟨(Nat.le_of_ble_eq_true rfl), (Nat.le_of_ble_eq_true rfl)⟩) rfl hl.1 rfl (Nat.le_of_ble_eq_true rfl) dL_law_95 ⟨(by show _ ≤ 927666; omega), (by show _ ≤ 6318469; omega)⟩ (fun v9 L1 f1 H locs hp hh => ?_)
  obtain ⟨rfl, hL1, hf1⟩ := hp
  subst hL1; subst hf1
  refine lv_istore (lv' := [(14, .int (nI j95)), (0, .ref b), (1, .ref x), (2, .ref hd), (3, .int cm), (4, .int (nI (N 0))), (5, .int (nI (N 1))), (6, .int (nI (N 2))), (7, .int (nI (N 3))), (8, .int wt), (9, .int (nI n)), (10, .int v10), (11, .int v11), (12, .int (nI jw)), (13, .int 1)]) hx hb dL_law_98 hl (by decide) rfl (fun ls hl => ?_)
  refine lv_iload_n hx hb dL_law_100 rfl (lv_at hl 4 rfl) ?_
  refine lv_iload hx hb dL_law_101 (lv_at hl 0 rfl) ?_
  refine lv_iadd hx hb dL_law_103 ?_
  refine lv_topi (fun x104 e104 => ?_)
  refine lv_istore_n (lv' := [(3, .int x104), (14, .int (nI j95)), (0, .ref b), (1, .ref x), (2, .ref hd), (4, .int (nI (N 0))), (5, .int (nI (N 1))), (6, .int (nI (N 2))), (7, .int (nI (N 3))), (8, .int wt), (9, .int (nI n)), (10, .int v10), (11, .int v11), (12, .int (nI jw)), (13, .int 1)]) hx hb dL_law_104 rfl hl (by decide) rfl (fun ls hl => ?_)
  refine lv_aload_n hx hb dL_law_105 rfl (lv_at hl 3 rfl) ?_
  refine lv_iload hx hb dL_law_106 (lv_at hl 1 rfl) ?_
  obtain ⟨hT2, hq2⟩ := a_hulk hq (v := nI j95) hN (by rw [nI_toInt (by omega)]; omega) (by rw [nI_toInt (by omega)]; omega)
  have hw2 := hq2.f.1
  refine k_callV0 (As := [.int (nI j95)]) (q_hulk hst hz hw hT2) S hh (cwV 1 hts gL_law_X5_hulk rfl rfl rfl (by decide +kernel) ⟨(Nat.le_of_ble_eq_true rfl), (Nat.le_of_ble_eq_true rfl)⟩) hz.1.1.1 hz.1.1.2 (q := (RX5, TX5, 7)) rfl rfl rfl hl.1 rfl (Nat.le_of_ble_eq_true rfl) dL_law_108 ⟨(by show _ ≤ 927666; omega), (by show _ ≤ 6318469; omega)⟩ (fun v9 L2 f2 H locs hp hh => ?_)
  obtain ⟨rfl, a2, hz2⟩ := hp
  obtain ⟨hd4, hd5⟩ := hz2.hd hd1 hd2
  refine lv_iload hx hb dL_law_111 (lv_at hl 5 rfl) ?_
  refine lv_icmp_ne (tgt := 131) hx hb dL_law_113 (by decide) (fun c113 => ?_) (fun c113 => ?_)
  · exact absurd rfl c113
  · refine lv_aload_n hx hb dL_law_116 rfl (lv_at hl 3 rfl) ?_
    refine lv_iload hx hb dL_law_117 (lv_at hl 5 rfl) ?_
    refine k_callV0 (As := [.int (nI (N 0))]) (q_coalIn hst hz2 hw2 (w := (nI (N 0))) (k := (N 0)) (show N 0 < va_up N 0 (N 0 + 1) 0 by simp [va_up]) rfl) S hh (cwV 1 hts gL_law_X5_coalIn rfl rfl rfl (by decide +kernel) ⟨(Nat.le_of_ble_eq_true rfl), (Nat.le_of_ble_eq_true rfl)⟩) hz2.1.1.1 hz2.1.1.2 (q := (RX5, TX5, 7)) rfl rfl rfl hl.1 rfl (Nat.le_of_ble_eq_true rfl) dL_law_119 ⟨(by show _ ≤ 927666; omega), (by show _ ≤ 6318469; omega)⟩ (fun v9 L1 f1 H locs hp hh => ?_)
    obtain ⟨rfl, hL1, hf1⟩ := hp
    subst hL1; subst hf1
    refine lv_iload hx hb dL_law_122 (lv_at hl 1 rfl) ?_
    refine lv_icmp_ne (tgt := 131) hx hb dL_law_124 (by decide) (fun c124 => ?_) (fun c124 => ?_)
    · exact absurd (upd_at (C 0) (N 0) (nI j95)) c124
    · refine lv_iconst (v := 1) hx hb dL_law_127 (by decide) ?_
      refine lv_goto (tgt := 132) hx hb dL_law_128 (by decide) ?_
      refine lv_istore (lv' := [(13, .int 1), (3, .int x104), (14, .int (nI j95)), (0, .ref b), (1, .ref x), (2, .ref hd), (4, .int (nI (N 0))), (5, .int (nI (N 1))), (6, .int (nI (N 2))), (7, .int (nI (N 3))), (8, .int wt), (9, .int (nI n)), (10, .int v10), (11, .int v11), (12, .int (nI jw))]) hx hb dL_law_132 hl (by decide) rfl (fun ls hl => ?_)
      obtain ⟨x134, e134⟩ : ∃ y : Int32, y = (nI (N 0)) + 1 := ⟨_, rfl⟩
      refine lv_iinc (v := x134) (lv' := [(4, .int x134), (13, .int 1), (3, .int x104), (14, .int (nI j95)), (0, .ref b), (1, .ref x), (2, .ref hd), (5, .int (nI (N 1))), (6, .int (nI (N 2))), (7, .int (nI (N 3))), (8, .int wt), (9, .int (nI n)), (10, .int v10), (11, .int v11), (12, .int (nI jw))]) hx hb dL_law_134 hl (k := 6) rfl (by rw [e134]; rfl) (by decide) rfl (fun ls hl => ?_)
      refine lv_goto (tgt := 434) hx hb dL_law_137 (by decide) ?_
      obtain rfl : x134 = nI (N 0 + 1) := by rw [e134]; exact nI_1 _
      refine W.widen (k := 30 + 600 * n + 60) (n := 2000 + 8000 * n + 4000) (by omega) (by omega) ?_
      exact kk (va_up N 0 (N 0 + 1)) P (hulkC N C (nI j95)) _ (came + (nI j95).toInt) wanted _ _ _ _ _ _ _ hh ⟨⟨_, hz2.1⟩, ⟨hd4, gg, hd5, hd3⟩, hq2.up⟩ (by rw [e104, hcm, oI_step]) hwt (lv_sub hl [4, 5, 6, 2, 0, 7, 8, 9, 10, 11, 1] rfl)

set_option maxRecDepth 100000 in
set_option maxHeartbeats 4000000 in
theorem law_lighter {p : Program} {l : Launch} {e : Env} {s : State} {m : MethodId} {below : List Frame} {meth : Method} {c : Code} {H : Heap} {locs : List Loc} {Q : State → Prop} {κ : Kx} {L : List Nat} {f : Nat → va_E} {ls : Array Slot} {b x hd n : Nat} {N P : Nat → Nat} {C M : MS} {came wanted : Int} {cm wt v10 v11 : Int32} {jw : Nat} (hst : l.stackTraces = false) (S : CallFix p m c cL_law 17 s #[Value.ref b] wsL_law RL) (hn70 : n < 70) (hh : HH κ L f s H locs) (hI : LI κ x hd N P C M n came wanted L f) (hcm : cm = Int32.ofInt came) (hwt : wt = Int32.ofInt wanted) (hl : lv_has ls 17 [(0, .ref b), (1, .ref x), (2, .ref hd), (3, .int cm), (4, .int (nI (N 0))), (5, .int (nI (N 1))), (6, .int (nI (N 2))), (7, .int (nI (N 3))), (8, .int wt), (9, .int (nI n)), (10, .int v10), (11, .int v11), (12, .int (nI jw)), (13, .int 1)]) (z0 : 0 < N 0) (hN : N 1 < 6) (kk : LK p l e s m b below meth c Q κ x hd n) : W p l e room_1 s m #[Value.ref b] below meth c H locs (30 + 600 * n + 1) (2000 + 8000 * n + 6) Q (F0 m 158 ls []) := by
  obtain ⟨hx, hb, hml, hown, hts⟩ := id S
  obtain ⟨⟨a, hca⟩, ⟨hd1, gg, hd2, hd3⟩, hq⟩ := id hI
  have hz : ZC κ x a N P C L f L f := ⟨hca, Fr.rf⟩
  obtain ⟨hw, fHu, fLi, fTo, fWa, fWk, fSt, fBu, fS1, fN3, fC0⟩ := hq.f
  obtain ⟨b0, b1, b2, b3, b4⟩ := id hw.1
  refine lv_aload_n hx hb dL_law_158 rfl (lv_at hl 2 rfl) ?_
  refine lv_iload hx hb dL_law_159 (lv_at hl 5 rfl) ?_
  refine lv_bipush (v := 20) hx hb dL_law_161 (by decide) ?_
  refine lv_iload hx hb dL_law_163 (lv_at hl 11 rfl) ?_
  refine lv_sipush (v := 481) hx hb dL_law_165 (by decide) ?_
  obtain ⟨j168, hj168, ej168⟩ := low_ix v11 (n := 481) (by decide) (by omega)
  refine k_callS0 (As := [.int v11, .int (nI 481)]) (k_low ej168 (by decide) (by omega)) S hh (va_cwS 2 hts gL_law_L_low rfl rfl rfl (by decide +kernel) ⟨(Nat.le_of_ble_eq_true rfl), (Nat.le_of_ble_eq_true rfl)⟩) rfl hl.1 rfl (Nat.le_of_ble_eq_true rfl) dL_law_168 ⟨(by show _ ≤ 927666; omega), (by show _ ≤ 6318469; omega)⟩ (fun v9 L1 f1 H locs hp hh => ?_)
  obtain ⟨rfl, hL1, hf1⟩ := hp
  subst hL1; subst hf1
  refine lv_iadd hx hb dL_law_171 ?_
  rw [show (20 : Int32) + nI j168 = nI (20 + j168) from nI_add 20 j168]
  refine l_ast hx hb hh hd1 hd2 (i := N 1) (by omega) dL_law_172 (fun H locs hh => ?_)
  have hz3 := hz.row (hd := hd) (g2 := upd gg (N 1) (nI (20 + j168))) hd2
  have hd6 : va_up f hd (.inl (kI κ, 6, .inl (upd gg (N 1) (nI (20 + j168))))) hd = .inl (kI κ, 6, .inl (upd gg (N 1) (nI (20 + j168)))) := by simp [va_up]
  refine lv_aload_n hx hb dL_law_173 rfl (lv_at hl 1 rfl) ?_
  refine lv_aload_n hx hb dL_law_174 rfl (lv_at hl 2 rfl) ?_
  refine lv_iload hx hb dL_law_175 (lv_at hl 5 rfl) ?_
  refine l_ald hx hb hh hd1 hd6 (i := N 1) (by omega) (upd_at gg (N 1) (nI (20 + j168))) dL_law_177 ?_
  obtain ⟨hT2, hq2⟩ := a_lighter hq (v := nI (20 + j168)) hN z0 (by rw [r20 (by omega)]; omega) (by rw [r20 (by omega)]; omega)
  have hw2 := hq2.f.1
  refine k_callV0 (As := [.int (nI (20 + j168))]) (q_lighter hst hz3 hw hT2) S hh (cwV 1 hts gL_law_X5_lighter rfl rfl rfl (by decide +kernel) ⟨(Nat.le_of_ble_eq_true rfl), (Nat.le_of_ble_eq_true rfl)⟩) hz3.1.1.1 hz3.1.1.2 (q := (RX5, TX5, 7)) rfl rfl rfl hl.1 rfl (Nat.le_of_ble_eq_true rfl) dL_law_178 ⟨(by show _ ≤ 927666; omega), (by show _ ≤ 6318469; omega)⟩ (fun v9 L2 f2 H locs hp hh => ?_)
  obtain ⟨rfl, a2, hz2⟩ := hp
  obtain ⟨hd4, hd5⟩ := hz2.hd hd1 hd6
  refine lv_iload hx hb dL_law_181 (lv_at hl 5 rfl) ?_
  refine lv_icmp_ne (tgt := 200) hx hb dL_law_183 (by decide) (fun c183 => ?_) (fun c183 => ?_)
  · exact absurd rfl c183
  · refine lv_aload_n hx hb dL_law_186 rfl (lv_at hl 1 rfl) ?_
    refine lv_iload hx hb dL_law_187 (lv_at hl 5 rfl) ?_
    refine k_callV0 (As := [.int (nI (N 1))]) (q_gangOn hst hz2 hw2 (w := (nI (N 1))) (k := (N 1)) (show N 1 < va_up N 1 (N 1 + 1) 1 by simp [va_up]) rfl) S hh (cwV 1 hts gL_law_X5_gangOn rfl rfl rfl (by decide +kernel) ⟨(Nat.le_of_ble_eq_true rfl), (Nat.le_of_ble_eq_true rfl)⟩) hz2.1.1.1 hz2.1.1.2 (q := (RX5, TX5, 7)) rfl rfl rfl hl.1 rfl (Nat.le_of_ble_eq_true rfl) dL_law_189 ⟨(by show _ ≤ 927666; omega), (by show _ ≤ 6318469; omega)⟩ (fun v9 L1 f1 H locs hp hh => ?_)
    obtain ⟨rfl, hL1, hf1⟩ := hp
    subst hL1; subst hf1
    refine lv_iconst (v := (-1)) hx hb dL_law_192 (by decide) ?_
    refine lv_icmp_ne (tgt := 200) hx hb dL_law_193 (by decide) (fun c193 => ?_) (fun c193 => ?_)
    · exact absurd (upd_at (C 6) (N 1) (-1)) c193
    · refine lv_iconst (v := 1) hx hb dL_law_196 (by decide) ?_
      refine lv_goto (tgt := 201) hx hb dL_law_197 (by decide) ?_
      refine lv_istore (lv' := [(13, .int 1), (0, .ref b), (1, .ref x), (2, .ref hd), (3, .int cm), (4, .int (nI (N 0))), (5, .int (nI (N 1))), (6, .int (nI (N 2))), (7, .int (nI (N 3))), (8, .int wt), (9, .int (nI n)), (10, .int v10), (11, .int v11), (12, .int (nI jw))]) hx hb dL_law_201 hl (by decide) rfl (fun ls hl => ?_)
      obtain ⟨x203, e203⟩ : ∃ y : Int32, y = (nI (N 1)) + 1 := ⟨_, rfl⟩
      refine lv_iinc (v := x203) (lv' := [(5, .int x203), (13, .int 1), (0, .ref b), (1, .ref x), (2, .ref hd), (3, .int cm), (4, .int (nI (N 0))), (6, .int (nI (N 2))), (7, .int (nI (N 3))), (8, .int wt), (9, .int (nI n)), (10, .int v10), (11, .int v11), (12, .int (nI jw))]) hx hb dL_law_203 hl (k := 6) rfl (by rw [e203]; rfl) (by decide) rfl (fun ls hl => ?_)
      refine lv_goto (tgt := 434) hx hb dL_law_206 (by decide) ?_
      obtain rfl : x203 = nI (N 1 + 1) := by rw [e203]; exact nI_1 _
      refine W.widen (k := 30 + 600 * n + 60) (n := 2000 + 8000 * n + 4000) (by omega) (by omega) ?_
      exact kk (va_up N 1 (N 1 + 1)) P (lighterC N C (nI (20 + j168))) _ came wanted _ _ _ _ _ _ _ hh ⟨⟨_, hz2.1⟩, ⟨hd4, (upd gg (N 1) (nI (20 + j168))), hd5, (row_upd hd3)⟩, hq2.up⟩ hcm hwt (lv_sub hl [2, 3, 4, 5, 6, 0, 7, 8, 9, 10, 1] rfl)

set_option maxRecDepth 100000 in
set_option maxHeartbeats 4000000 in
theorem law_gang {p : Program} {l : Launch} {e : Env} {s : State} {m : MethodId} {below : List Frame} {meth : Method} {c : Code} {H : Heap} {locs : List Loc} {Q : State → Prop} {κ : Kx} {L : List Nat} {f : Nat → va_E} {ls : Array Slot} {b x hd n : Nat} {N P : Nat → Nat} {C M : MS} {came wanted : Int} {cm wt v10 v11 : Int32} {jw : Nat} (hst : l.stackTraces = false) (S : CallFix p m c cL_law 17 s #[Value.ref b] wsL_law RL) (hn70 : n < 70) (hh : HH κ L f s H locs) (hI : LI κ x hd N P C M n came wanted L f) (hcm : cm = Int32.ofInt came) (hwt : wt = Int32.ofInt wanted) (hl : lv_has ls 17 [(0, .ref b), (1, .ref x), (2, .ref hd), (3, .int cm), (4, .int (nI (N 0))), (5, .int (nI (N 1))), (6, .int (nI (N 2))), (7, .int (nI (N 3))), (8, .int wt), (9, .int (nI n)), (10, .int v10), (11, .int v11), (12, .int (nI jw)), (13, .int 1)]) (hN : N 2 < 6) (kk : LK p l e s m b below meth c Q κ x hd n) : W p l e room_1 s m #[Value.ref b] below meth c H locs (30 + 600 * n + 1) (2000 + 8000 * n + 6) Q (F0 m 227 ls []) := by
  obtain ⟨hx, hb, hml, hown, hts⟩ := id S
  obtain ⟨⟨a, hca⟩, ⟨hd1, gg, hd2, hd3⟩, hq⟩ := id hI
  have hz : ZC κ x a N P C L f L f := ⟨hca, Fr.rf⟩
  obtain ⟨hw, fHu, fLi, fTo, fWa, fWk, fSt, fBu, fS1, fN3, fC0⟩ := hq.f
  obtain ⟨b0, b1, b2, b3, b4⟩ := id hw.1
  refine lv_aload_n hx hb dL_law_227 rfl (lv_at hl 1 rfl) ?_
  refine lv_iconst (v := 1) hx hb dL_law_228 (by decide) ?_
  refine lv_iload hx hb dL_law_229 (lv_at hl 11 rfl) ?_
  refine lv_bipush (v := 20) hx hb dL_law_231 (by decide) ?_
  obtain ⟨j233, hj233, ej233⟩ := low_ix v11 (n := 20) (by decide) (by omega)
  refine k_callS0 (As := [.int v11, .int (nI 20)]) (k_low ej233 (by decide) (by omega)) S hh (va_cwS 2 hts gL_law_L_low rfl rfl rfl (by decide +kernel) ⟨(Nat.le_of_ble_eq_true rfl), (Nat.le_of_ble_eq_true rfl)⟩) rfl hl.1 rfl (Nat.le_of_ble_eq_true rfl) dL_law_233 ⟨(by show _ ≤ 927666; omega), (by show _ ≤ 6318469; omega)⟩ (fun v9 L1 f1 H locs hp hh => ?_)
  obtain ⟨rfl, hL1, hf1⟩ := hp
  subst hL1; subst hf1
  refine lv_iadd hx hb dL_law_236 ?_
  rw [show (1 : Int32) + nI j233 = nI (1 + j233) from nI_add 1 j233]
  obtain ⟨hT2, hq2⟩ := a_gang hq (v := nI (1 + j233)) hN (by rw [r1 (by omega)]; omega) (by rw [r1 (by omega)]; omega)
  have hw2 := hq2.f.1
  refine k_callV0 (As := [.int (nI (1 + j233))]) (q_gang hst hz hw hT2) S hh (cwV 1 hts gL_law_X5_gang rfl rfl rfl (by decide +kernel) ⟨(Nat.le_of_ble_eq_true rfl), (Nat.le_of_ble_eq_true rfl)⟩) hz.1.1.1 hz.1.1.2 (q := (RX5, TX5, 7)) rfl rfl rfl hl.1 rfl (Nat.le_of_ble_eq_true rfl) dL_law_237 ⟨(by show _ ≤ 927666; omega), (by show _ ≤ 6318469; omega)⟩ (fun v9 L2 f2 H locs hp hh => ?_)
  obtain ⟨rfl, a2, hz2⟩ := hp
  obtain ⟨hd4, hd5⟩ := hz2.hd hd1 hd2
  refine lv_iload hx hb dL_law_240 (lv_at hl 6 rfl) ?_
  refine lv_icmp_ne (tgt := 258) hx hb dL_law_242 (by decide) (fun c242 => ?_) (fun c242 => ?_)
  · exact absurd rfl c242
  · refine lv_aload_n hx hb dL_law_245 rfl (lv_at hl 1 rfl) ?_
    refine lv_iload hx hb dL_law_246 (lv_at hl 6 rfl) ?_
    refine k_callV0 (As := [.int (nI (N 2))]) (q_restOf hst hz2 hw2 (w := (nI (N 2))) (k := (N 2)) (show N 2 < va_up N 2 (N 2 + 1) 2 by simp [va_up]) rfl) S hh (cwV 1 hts gL_law_X5_restOf rfl rfl rfl (by decide +kernel) ⟨(Nat.le_of_ble_eq_true rfl), (Nat.le_of_ble_eq_true rfl)⟩) hz2.1.1.1 hz2.1.1.2 (q := (RX5, TX5, 7)) rfl rfl rfl hl.1 rfl (Nat.le_of_ble_eq_true rfl) dL_law_248 ⟨(by show _ ≤ 927666; omega), (by show _ ≤ 6318469; omega)⟩ (fun v9 L1 f1 H locs hp hh => ?_)
    obtain ⟨rfl, hL1, hf1⟩ := hp
    subst hL1; subst hf1
    refine lv_if_ne (tgt := 258) hx hb dL_law_251 (by decide) (fun c251 => ?_) (fun c251 => ?_)
    · exact absurd (upd_at (C 11) (N 2) 0) c251
    · refine lv_iconst (v := 1) hx hb dL_law_254 (by decide) ?_
      refine lv_goto (tgt := 259) hx hb dL_law_255 (by decide) ?_
      refine lv_istore (lv' := [(13, .int 1), (0, .ref b), (1, .ref x), (2, .ref hd), (3, .int cm), (4, .int (nI (N 0))), (5, .int (nI (N 1))), (6, .int (nI (N 2))), (7, .int (nI (N 3))), (8, .int wt), (9, .int (nI n)), (10, .int v10), (11, .int v11), (12, .int (nI jw))]) hx hb dL_law_259 hl (by decide) rfl (fun ls hl => ?_)
      obtain ⟨x261, e261⟩ : ∃ y : Int32, y = (nI (N 2)) + 1 := ⟨_, rfl⟩
      refine lv_iinc (v := x261) (lv' := [(6, .int x261), (13, .int 1), (0, .ref b), (1, .ref x), (2, .ref hd), (3, .int cm), (4, .int (nI (N 0))), (5, .int (nI (N 1))), (7, .int (nI (N 3))), (8, .int wt), (9, .int (nI n)), (10, .int v10), (11, .int v11), (12, .int (nI jw))]) hx hb dL_law_261 hl (k := 7) rfl (by rw [e261]; rfl) (by decide) rfl (fun ls hl => ?_)
      refine lv_goto (tgt := 434) hx hb dL_law_264 (by decide) ?_
      obtain rfl : x261 = nI (N 2 + 1) := by rw [e261]; exact nI_1 _
      refine W.widen (k := 30 + 600 * n + 60) (n := 2000 + 8000 * n + 4000) (by omega) (by omega) ?_
      exact kk (va_up N 2 (N 2 + 1)) P (gangC N C (nI (1 + j233))) _ came wanted _ _ _ _ _ _ _ hh ⟨⟨_, hz2.1⟩, ⟨hd4, gg, hd5, hd3⟩, hq2.up⟩ hcm hwt (lv_sub hl [2, 3, 4, 5, 6, 7, 0, 8, 9, 10, 1] rfl)

set_option maxRecDepth 100000 in
set_option maxHeartbeats 4000000 in
theorem law_steamer {p : Program} {l : Launch} {e : Env} {s : State} {m : MethodId} {below : List Frame} {meth : Method} {c : Code} {H : Heap} {locs : List Loc} {Q : State → Prop} {κ : Kx} {L : List Nat} {f : Nat → va_E} {ls : Array Slot} {b x hd n : Nat} {N P : Nat → Nat} {C M : MS} {came wanted : Int} {cm wt v10 v11 : Int32} {jw : Nat} (hst : l.stackTraces = false) (S : CallFix p m c cL_law 17 s #[Value.ref b] wsL_law RL) (hn70 : n < 70) (hh : HH κ L f s H locs) (hI : LI κ x hd N P C M n came wanted L f) (hcm : cm = Int32.ofInt came) (hwt : wt = Int32.ofInt wanted) (hl : lv_has ls 17 [(0, .ref b), (1, .ref x), (2, .ref hd), (3, .int cm), (4, .int (nI (N 0))), (5, .int (nI (N 1))), (6, .int (nI (N 2))), (7, .int (nI (N 3))), (8, .int wt), (9, .int (nI n)), (10, .int v10), (11, .int v11), (12, .int (nI jw)), (13, .int 1)]) (h7 : ct (C 14) 0 (N 3) ≤ 7) (kk : LK p l e s m b below meth c Q κ x hd n) : W p l e room_1 s m #[Value.ref b] below meth c H locs (30 + 600 * n + 1) (2000 + 8000 * n + 6) Q (F0 m 288 ls []) := by
  obtain ⟨hx, hb, hml, hown, hts⟩ := id S
  obtain ⟨⟨a, hca⟩, ⟨hd1, gg, hd2, hd3⟩, hq⟩ := id hI
  have hz : ZC κ x a N P C L f L f := ⟨hca, Fr.rf⟩
  obtain ⟨hw, fHu, fLi, fTo, fWa, fWk, fSt, fBu, fS1, fN3, fC0⟩ := hq.f
  obtain ⟨b0, b1, b2, b3, b4⟩ := id hw.1
  refine lv_iconst (v := 1) hx hb dL_law_288 (by decide) ?_
  refine lv_iload hx hb dL_law_289 (lv_at hl 11 rfl) ?_
  refine lv_sipush (v := 900) hx hb dL_law_291 (by decide) ?_
  obtain ⟨j294, hj294, ej294⟩ := low_ix v11 (n := 900) (by decide) (by omega)
  refine k_callS0 (As := [.int v11, .int (nI 900)]) (k_low ej294 (by decide) (by omega)) S hh (va_cwS 2 hts gL_law_L_low rfl rfl rfl (by decide +kernel) ⟨(Nat.le_of_ble_eq_true rfl), (Nat.le_of_ble_eq_true rfl)⟩) rfl hl.1 rfl (Nat.le_of_ble_eq_true rfl) dL_law_294 ⟨(by show _ ≤ 927666; omega), (by show _ ≤ 6318469; omega)⟩ (fun v9 L1 f1 H locs hp hh => ?_)
  obtain ⟨rfl, hL1, hf1⟩ := hp
  subst hL1; subst hf1
  refine lv_iadd hx hb dL_law_297 ?_
  rw [show (1 : Int32) + nI j294 = nI (1 + j294) from nI_add 1 j294]
  refine lv_istore (lv' := [(14, .int (nI (1 + j294))), (0, .ref b), (1, .ref x), (2, .ref hd), (3, .int cm), (4, .int (nI (N 0))), (5, .int (nI (N 1))), (6, .int (nI (N 2))), (7, .int (nI (N 3))), (8, .int wt), (9, .int (nI n)), (10, .int v10), (11, .int v11), (12, .int (nI jw)), (13, .int 1)]) hx hb dL_law_298 hl (by decide) rfl (fun ls hl => ?_)
  refine lv_iload hx hb dL_law_300 (lv_at hl 9 rfl) ?_
  refine lv_iload hx hb dL_law_302 (lv_at hl 0 rfl) ?_
  refine lv_iadd hx hb dL_law_304 ?_
  refine lv_topi (fun x305 e305 => ?_)
  refine lv_istore (lv' := [(8, .int x305), (14, .int (nI (1 + j294))), (0, .ref b), (1, .ref x), (2, .ref hd), (3, .int cm), (4, .int (nI (N 0))), (5, .int (nI (N 1))), (6, .int (nI (N 2))), (7, .int (nI (N 3))), (9, .int (nI n)), (10, .int v10), (11, .int v11), (12, .int (nI jw)), (13, .int 1)]) hx hb dL_law_305 hl (by decide) rfl (fun ls hl => ?_)
  refine lv_aload_n hx hb dL_law_307 rfl (lv_at hl 3 rfl) ?_
  refine lv_iload hx hb dL_law_308 (lv_at hl 1 rfl) ?_
  refine lv_iconst (v := 1) hx hb dL_law_310 (by decide) ?_
  refine lv_iload hx hb dL_law_311 (lv_at hl 12 rfl) ?_
  refine lv_bipush (v := 11) hx hb dL_law_313 (by decide) ?_
  refine lv_ishr hx hb dL_law_315 ?_
  refine lv_bipush (v := 60) hx hb dL_law_316 (by decide) ?_
  obtain ⟨j318, hj318, ej318⟩ := low_ix (v11 >>> (11 &&& 31)) (n := 60) (by decide) (by omega)
  refine k_callS0 (As := [.int (v11 >>> (11 &&& 31)), .int (nI 60)]) (k_low ej318 (by decide) (by omega)) S hh (va_cwS 2 hts gL_law_L_low rfl rfl rfl (by decide +kernel) ⟨(Nat.le_of_ble_eq_true rfl), (Nat.le_of_ble_eq_true rfl)⟩) rfl hl.1 rfl (Nat.le_of_ble_eq_true rfl) dL_law_318 ⟨(by show _ ≤ 927666; omega), (by show _ ≤ 6318469; omega)⟩ (fun v9 L1 f1 H locs hp hh => ?_)
  obtain ⟨rfl, hL1, hf1⟩ := hp
  subst hL1; subst hf1
  refine lv_iadd hx hb dL_law_321 ?_
  rw [show (1 : Int32) + nI j318 = nI (1 + j318) from nI_add 1 j318]
  obtain ⟨hT2, hq2⟩ := a_steamer hq (v := nI (1 + j294)) (w := nI (1 + j318)) (by omega) h7 (by rw [r1 (by omega)]; omega) (by rw [r1 (by omega)]; omega) (by rw [r1 (by omega)]; omega) (by rw [r1 (by omega)]; omega)
  have hw2 := hq2.f.1
  refine k_callV0 (As := [.int (nI (1 + j294)), .int (nI (1 + j318))]) (q_steamer hst hz hw hT2) S hh (cwV 2 hts gL_law_X5_steamer rfl rfl rfl (by decide +kernel) ⟨(Nat.le_of_ble_eq_true rfl), (Nat.le_of_ble_eq_true rfl)⟩) hz.1.1.1 hz.1.1.2 (q := (RX5, TX5, 7)) rfl rfl rfl hl.1 rfl (Nat.le_of_ble_eq_true rfl) dL_law_322 ⟨(by show _ ≤ 927666; omega), (by show _ ≤ 6318469; omega)⟩ (fun v9 L2 f2 H locs hp hh => ?_)
  obtain ⟨rfl, a2, hz2⟩ := hp
  obtain ⟨hd4, hd5⟩ := hz2.hd hd1 hd2
  refine lv_iload hx hb dL_law_325 (lv_at hl 9 rfl) ?_
  refine lv_icmp_ne (tgt := 343) hx hb dL_law_327 (by decide) (fun c327 => ?_) (fun c327 => ?_)
  · exact absurd rfl c327
  · refine lv_aload_n hx hb dL_law_330 rfl (lv_at hl 3 rfl) ?_
    refine lv_iload hx hb dL_law_331 (lv_at hl 9 rfl) ?_
    refine k_callV0 (As := [.int (nI (N 3))]) (q_fateOf hst hz2 hw2 (w := (nI (N 3))) (k := (N 3)) (show N 3 < va_up (va_up N 3 (N 3 + 1)) 4 (N 4 + 1) 3 by simp [va_up]) rfl) S hh (cwV 1 hts gL_law_X5_fateOf rfl rfl rfl (by decide +kernel) ⟨(Nat.le_of_ble_eq_true rfl), (Nat.le_of_ble_eq_true rfl)⟩) hz2.1.1.1 hz2.1.1.2 (q := (RX5, TX5, 7)) rfl rfl rfl hl.1 rfl (Nat.le_of_ble_eq_true rfl) dL_law_333 ⟨(by show _ ≤ 927666; omega), (by show _ ≤ 6318469; omega)⟩ (fun v9 L1 f1 H locs hp hh => ?_)
    obtain ⟨rfl, hL1, hf1⟩ := hp
    subst hL1; subst hf1
    refine lv_if_ne (tgt := 343) hx hb dL_law_336 (by decide) (fun c336 => ?_) (fun c336 => ?_)
    · exact absurd (upd_at (C 14) (N 3) 0) c336
    · refine lv_iconst (v := 1) hx hb dL_law_339 (by decide) ?_
      refine lv_goto (tgt := 344) hx hb dL_law_340 (by decide) ?_
      refine lv_istore (lv' := [(13, .int 1), (8, .int x305), (14, .int (nI (1 + j294))), (0, .ref b), (1, .ref x), (2, .ref hd), (3, .int cm), (4, .int (nI (N 0))), (5, .int (nI (N 1))), (6, .int (nI (N 2))), (7, .int (nI (N 3))), (9, .int (nI n)), (10, .int v10), (11, .int v11), (12, .int (nI jw))]) hx hb dL_law_344 hl (by decide) rfl (fun ls hl => ?_)
      obtain ⟨x346, e346⟩ : ∃ y : Int32, y = (nI (N 3)) + 1 := ⟨_, rfl⟩
      refine lv_iinc (v := x346) (lv' := [(7, .int x346), (13, .int 1), (8, .int x305), (14, .int (nI (1 + j294))), (0, .ref b), (1, .ref x), (2, .ref hd), (3, .int cm), (4, .int (nI (N 0))), (5, .int (nI (N 1))), (6, .int (nI (N 2))), (9, .int (nI n)), (10, .int v10), (11, .int v11), (12, .int (nI jw))]) hx hb dL_law_346 hl (k := 10) rfl (by rw [e346]; rfl) (by decide) rfl (fun ls hl => ?_)
      refine lv_goto (tgt := 434) hx hb dL_law_349 (by decide) ?_
      obtain rfl : x346 = nI (N 3 + 1) := by rw [e346]; exact nI_1 _
      refine W.widen (k := 30 + 600 * n + 60) (n := 2000 + 8000 * n + 4000) (by omega) (by omega) ?_
      exact kk (va_up (va_up N 3 (N 3 + 1)) 4 (N 4 + 1)) (va_up P (N 4) (N 3)) (steamerC N C (nI (1 + j294)) (nI (1 + j318))) _ came (wanted + (nI (1 + j294)).toInt) _ _ _ _ _ _ _ hh ⟨⟨_, hz2.1⟩, ⟨hd4, gg, hd5, hd3⟩, hq2⟩ hcm (by rw [e305, hwt, oI_step]) (lv_sub hl [4, 5, 6, 7, 8, 9, 10, 0, 2, 11, 1] rfl)

set_option maxRecDepth 100000 in
set_option maxHeartbeats 4000000 in
theorem law_cmd {p : Program} {l : Launch} {e : Env} {s : State} {m : MethodId} {below : List Frame} {meth : Method} {c : Code} {H : Heap} {locs : List Loc} {Q : State → Prop} {κ : Kx} {L : List Nat} {f : Nat → va_E} {ls : Array Slot} {b x hd n : Nat} {N P : Nat → Nat} {C M : MS} {came wanted : Int} {cm wt v10 v11 : Int32} {jw : Nat} (hst : l.stackTraces = false) (S : CallFix p m c cL_law 17 s #[Value.ref b] wsL_law RL) (hn70 : n < 70) (hh : HH κ L f s H locs) (hI : LI κ x hd N P C M n came wanted L f) (hcm : cm = Int32.ofInt came) (hwt : wt = Int32.ofInt wanted) (hl : lv_has ls 17 [(0, .ref b), (1, .ref x), (2, .ref hd), (3, .int cm), (4, .int (nI (N 0))), (5, .int (nI (N 1))), (6, .int (nI (N 2))), (7, .int (nI (N 3))), (8, .int wt), (9, .int (nI n)), (10, .int v10), (11, .int v11), (12, .int (nI jw)), (13, .int 1)]) (z0 : 0 < N 0) (z1 : 0 < N 1) (z2 : 0 < N 2) (z3 : 0 < N 3) (kk : LK p l e s m b below meth c Q κ x hd n) : W p l e room_1 s m #[Value.ref b] below meth c H locs (30 + 600 * n + 1) (2000 + 8000 * n + 6) Q (F0 m 359 ls []) := by
  obtain ⟨hx, hb, hml, hown, hts⟩ := id S
  obtain ⟨⟨a, hca⟩, ⟨hd1, gg, hd2, hd3⟩, hq⟩ := id hI
  have hz : ZC κ x a N P C L f L f := ⟨hca, Fr.rf⟩
  obtain ⟨hw, fHu, fLi, fTo, fWa, fWk, fSt, fBu, fS1, fN3, fC0⟩ := hq.f
  obtain ⟨b0, b1, b2, b3, b4⟩ := id hw.1
  refine lv_aload_n hx hb dL_law_359 rfl (lv_at hl 1 rfl) ?_
  refine lv_iload hx hb dL_law_360 (lv_at hl 5 rfl) ?_
  refine lv_iload hx hb dL_law_362 (lv_at hl 10 rfl) ?_
  refine lv_iconst (v := 5) hx hb dL_law_364 (by decide) ?_
  refine lv_ishr hx hb dL_law_365 ?_
  refine lv_iload hx hb dL_law_366 (lv_at hl 6 rfl) ?_
  obtain ⟨j368, hj368, ej368⟩ := low_ix (v10 >>> (5 &&& 31)) (n := N 2) z2 (by omega)
  refine k_callS0 (As := [.int (v10 >>> (5 &&& 31)), .int (nI (N 2))]) (k_low ej368 z2 (by omega)) S hh (va_cwS 2 hts gL_law_L_low rfl rfl rfl (by decide +kernel) ⟨(Nat.le_of_ble_eq_true rfl), (Nat.le_of_ble_eq_true rfl)⟩) rfl hl.1 rfl (Nat.le_of_ble_eq_true rfl) dL_law_368 ⟨(by show _ ≤ 927666; omega), (by show _ ≤ 6318469; omega)⟩ (fun v9 L1 f1 H locs hp hh => ?_)
  obtain ⟨rfl, hL1, hf1⟩ := hp
  subst hL1; subst hf1
  refine lv_iload hx hb dL_law_371 (lv_at hl 7 rfl) ?_
  refine lv_iload hx hb dL_law_373 (lv_at hl 4 rfl) ?_
  refine lv_iload hx hb dL_law_375 (lv_at hl 11 rfl) ?_
  refine k_callS0 (As := [.ref x, .int (nI (N 1)), .int (nI j368), .int (nI (N 3)), .int (nI (N 0)), .int v11]) (k_commands hst hz hq (gg := j368) (v5 := v11) z0 z1 hj368 z3) S hh (va_cwS 6 hts gL_law_L_commands rfl rfl rfl (by decide +kernel) ⟨(Nat.le_of_ble_eq_true rfl), (Nat.le_of_ble_eq_true rfl)⟩) rfl hl.1 rfl (Nat.le_of_ble_eq_true rfl) dL_law_377 ⟨(by show _ ≤ 927666; omega), (by show _ ≤ 6318469; omega)⟩ (fun v9 L2 f2 H locs hp hh => ?_)
  obtain ⟨rfl, a2, C2, M2, hz2, hq2, hC1⟩ := hp
  obtain ⟨hd4, hd5⟩ := hz2.hd hd1 hd2
  refine lv_istore (lv' := [(13, .int 1), (0, .ref b), (1, .ref x), (2, .ref hd), (3, .int cm), (4, .int (nI (N 0))), (5, .int (nI (N 1))), (6, .int (nI (N 2))), (7, .int (nI (N 3))), (8, .int wt), (9, .int (nI n)), (10, .int v10), (11, .int v11), (12, .int (nI jw))]) hx hb dL_law_380 hl (by decide) rfl (fun ls hl => ?_)
  refine lv_goto (tgt := 434) hx hb dL_law_382 (by decide) ?_
  refine W.widen (k := 30 + 600 * n + 60) (n := 2000 + 8000 * n + 4000) (by omega) (by omega) ?_
  exact kk N P C2 M2 came wanted _ _ _ _ _ _ _ hh ⟨⟨_, hz2.1⟩, ⟨hd4, gg, hd5, (fun i hi => by rw [hC1]; exact hd3 i hi)⟩, hq2.up⟩ hcm hwt (lv_sub hl [1, 2, 3, 4, 5, 6, 7, 8, 9, 10, 0] rfl)

set_option maxRecDepth 100000 in
set_option maxHeartbeats 4000000 in
theorem law_hours {p : Program} {l : Launch} {e : Env} {s : State} {m : MethodId} {below : List Frame} {meth : Method} {c : Code} {H : Heap} {locs : List Loc} {Q : State → Prop} {κ : Kx} {L : List Nat} {f : Nat → va_E} {ls : Array Slot} {b x hd n : Nat} {N P : Nat → Nat} {C M : MS} {came wanted : Int} {cm wt v10 v11 : Int32} {jw : Nat} (hst : l.stackTraces = false) (S : CallFix p m c cL_law 17 s #[Value.ref b] wsL_law RL) (hn70 : n < 70) (hh : HH κ L f s H locs) (hI : LI κ x hd N P C M n came wanted L f) (hcm : cm = Int32.ofInt came) (hwt : wt = Int32.ofInt wanted) (hl : lv_has ls 17 [(0, .ref b), (1, .ref x), (2, .ref hd), (3, .int cm), (4, .int (nI (N 0))), (5, .int (nI (N 1))), (6, .int (nI (N 2))), (7, .int (nI (N 3))), (8, .int wt), (9, .int (nI n)), (10, .int v10), (11, .int v11), (12, .int (nI jw)), (13, .int 1)]) (kk : LK p l e s m b below meth c Q κ x hd n) : W p l e room_1 s m #[Value.ref b] below meth c H locs (30 + 600 * n + 1) (2000 + 8000 * n + 6) Q (F0 m 385 ls []) := by
  obtain ⟨hx, hb, hml, hown, hts⟩ := id S
  obtain ⟨⟨a, hca⟩, ⟨hd1, gg, hd2, hd3⟩, hq⟩ := id hI
  have hz : ZC κ x a N P C L f L f := ⟨hca, Fr.rf⟩
  obtain ⟨hw, fHu, fLi, fTo, fWa, fWk, fSt, fBu, fS1, fN3, fC0⟩ := hq.f
  obtain ⟨b0, b1, b2, b3, b4⟩ := id hw.1
  refine lv_aload_n hx hb dL_law_385 rfl (lv_at hl 1 rfl) ?_
  refine k_callV0 (As := []) (g_clock hz) S hh (cwV 0 hts gL_law_X5_clock rfl rfl rfl (by decide +kernel) ⟨(Nat.le_of_ble_eq_true rfl), (Nat.le_of_ble_eq_true rfl)⟩) hz.1.1.1 hz.1.1.2 (q := (RX5, TX5, 7)) rfl rfl rfl hl.1 rfl (Nat.le_of_ble_eq_true rfl) dL_law_386 ⟨(by show _ ≤ 927666; omega), (by show _ ≤ 6318469; omega)⟩ (fun v9 L1 f1 H locs hp hh => ?_)
  obtain ⟨rfl, hL1, hf1⟩ := hp
  subst hL1; subst hf1
  refine lv_topi (fun x389 e389 => ?_)
  refine lv_istore (lv' := [(14, .int x389), (0, .ref b), (1, .ref x), (2, .ref hd), (3, .int cm), (4, .int (nI (N 0))), (5, .int (nI (N 1))), (6, .int (nI (N 2))), (7, .int (nI (N 3))), (8, .int wt), (9, .int (nI n)), (10, .int v10), (11, .int v11), (12, .int (nI jw)), (13, .int 1)]) hx hb dL_law_389 hl (by decide) rfl (fun ls hl => ?_)
  refine lv_iconst (v := 1) hx hb dL_law_391 (by decide) ?_
  refine lv_iload hx hb dL_law_392 (lv_at hl 12 rfl) ?_
  refine lv_bipush (v := 9) hx hb dL_law_394 (by decide) ?_
  obtain ⟨j396, hj396, ej396⟩ := low_ix v11 (n := 9) (by decide) (by omega)
  refine k_callS0 (As := [.int v11, .int (nI 9)]) (k_low ej396 (by decide) (by omega)) S hh (va_cwS 2 hts gL_law_L_low rfl rfl rfl (by decide +kernel) ⟨(Nat.le_of_ble_eq_true rfl), (Nat.le_of_ble_eq_true rfl)⟩) rfl hl.1 rfl (Nat.le_of_ble_eq_true rfl) dL_law_396 ⟨(by show _ ≤ 927666; omega), (by show _ ≤ 6318469; omega)⟩ (fun v9 L1 f1 H locs hp hh => ?_)
  obtain ⟨rfl, hL1, hf1⟩ := hp
  subst hL1; subst hf1
  refine lv_iadd hx hb dL_law_399 ?_
  rw [show (1 : Int32) + nI j396 = nI (1 + j396) from nI_add 1 j396]
  refine lv_istore (lv' := [(15, .int (nI (1 + j396))), (14, .int x389), (0, .ref b), (1, .ref x), (2, .ref hd), (3, .int cm), (4, .int (nI (N 0))), (5, .int (nI (N 1))), (6, .int (nI (N 2))), (7, .int (nI (N 3))), (8, .int wt), (9, .int (nI n)), (10, .int v10), (11, .int v11), (12, .int (nI jw)), (13, .int 1)]) hx hb dL_law_400 hl (by decide) rfl (fun ls hl => ?_)
  refine lv_aload_n hx hb dL_law_402 rfl (lv_at hl 3 rfl) ?_
  refine lv_iload hx hb dL_law_403 (lv_at hl 0 rfl) ?_
  obtain ⟨hT2, hq2, hge, hck⟩ := a_hours hq (j := 1 + j396) (by omega) (by omega)
  have tj : nT (nI (1 + j396)) = 1 + j396 := nI_clamp (by omega)
  have hw2 := hq2.f.1
  refine k_callV0 (As := [.int (nI (1 + j396))]) (q_hours hst hz hw hT2) S hh (cwV 1 hts gL_law_X5_hours rfl rfl rfl (by decide +kernel) ⟨(Nat.le_of_ble_eq_true rfl), (Nat.le_of_ble_eq_true rfl)⟩) hz.1.1.1 hz.1.1.2 (q := (RX5, TX5, 7)) rfl rfl rfl hl.1 rfl (Nat.le_of_ble_eq_true rfl) dL_law_405 ⟨(by show _ ≤ 927666; omega), (by show _ ≤ 6318469; omega)⟩ (fun v9 L2 f2 H locs hp hh => ?_)
  rw [tj] at hp
  obtain ⟨rfl, hL2, hz2⟩ := hp
  subst hL2
  obtain ⟨hd4, hd5⟩ := hz2.hd hd1 hd2
  refine lv_topi (fun x408 e408 => ?_)
  refine lv_istore (lv' := [(16, .int x408), (15, .int (nI (1 + j396))), (14, .int x389), (0, .ref b), (1, .ref x), (2, .ref hd), (3, .int cm), (4, .int (nI (N 0))), (5, .int (nI (N 1))), (6, .int (nI (N 2))), (7, .int (nI (N 3))), (8, .int wt), (9, .int (nI n)), (10, .int v10), (11, .int v11), (12, .int (nI jw)), (13, .int 1)]) hx hb dL_law_408 hl (by decide) rfl (fun ls hl => ?_)
  refine lv_iload hx hb dL_law_410 (lv_at hl 0 rfl) ?_
  refine lv_if_lt (tgt := 431) hx hb dL_law_412 (by decide) (fun c412 => ?_) (fun c412 => ?_)
  · exact absurd c412 (by rw [e408]; exact hge)
  · refine lv_aload_n hx hb dL_law_415 rfl (lv_at hl 4 rfl) ?_
    refine k_callV0 (As := []) (g_clock hz2) S hh (cwV 0 hts gL_law_X5_clock rfl rfl rfl (by decide +kernel) ⟨(Nat.le_of_ble_eq_true rfl), (Nat.le_of_ble_eq_true rfl)⟩) hz2.1.1.1 hz2.1.1.2 (q := (RX5, TX5, 7)) rfl rfl rfl hl.1 rfl (Nat.le_of_ble_eq_true rfl) dL_law_416 ⟨(by show _ ≤ 927666; omega), (by show _ ≤ 6318469; omega)⟩ (fun v9 L1 f1 H locs hp hh => ?_)
    obtain ⟨rfl, hL1, hf1⟩ := hp
    subst hL1; subst hf1
    refine lv_iload hx hb dL_law_419 (lv_at hl 2 rfl) ?_
    refine lv_iload hx hb dL_law_421 (lv_at hl 1 rfl) ?_
    refine lv_iadd hx hb dL_law_423 ?_
    refine lv_icmp_ne (tgt := 431) hx hb dL_law_424 (by decide) (fun c424 => ?_) (fun c424 => ?_)
    · exact absurd (by rw [e389, hck]) c424
    · refine lv_iconst (v := 1) hx hb dL_law_427 (by decide) ?_
      refine lv_goto (tgt := 432) hx hb dL_law_428 (by decide) ?_
      refine lv_istore (lv' := [(13, .int 1), (16, .int x408), (15, .int (nI (1 + j396))), (14, .int x389), (0, .ref b), (1, .ref x), (2, .ref hd), (3, .int cm), (4, .int (nI (N 0))), (5, .int (nI (N 1))), (6, .int (nI (N 2))), (7, .int (nI (N 3))), (8, .int wt), (9, .int (nI n)), (10, .int v10), (11, .int v11), (12, .int (nI jw))]) hx hb dL_law_432 hl (by decide) rfl (fun ls hl => ?_)
      refine W.widen (k := 30 + 600 * n + 60) (n := 2000 + 8000 * n + 4000) (by omega) (by omega) ?_
      exact kk (va_up N 4 (hsG N P C (1 + j396)).1.1.2) (hsG N P C (1 + j396)).1.1.1 (hsG N P C (1 + j396)).1.2 _ came wanted _ _ _ _ _ _ _ hh ⟨⟨_, hz2.1⟩, ⟨hd4, gg, hd5, (fun i hi => by rw [hold_hours hq hq2]; exact hd3 i hi)⟩, hq2⟩ hcm hwt (lv_sub hl [4, 5, 6, 7, 8, 9, 10, 11, 12, 13, 0] rfl)
