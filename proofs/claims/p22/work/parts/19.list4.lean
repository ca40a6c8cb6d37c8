def remEl (el : Nat → Nat) (k : Nat) : Nat → Nat := fun i => if i < k then el i else el (i + 1)
/-- the list without its place k -/
def RemP (κ : Kx) (L : List Nat) (f : Nat → va_E) (lo ea n k : Nat) (el : Nat → Nat) (f1 : Nat → va_E) : Prop := LA κ L f1 lo ea (n - 1) (remEl el k) ∧ ∀ q, q ≠ lo → q ≠ ea → f1 q = f q
theorem remP_of {κ : Kx} {L : List Nat} {f f5 : Nat → va_E} {lo ea n k cap : Nat} {mc mc2 : Int32} {el : Nat → Nat} {g g2 : Nat → Option Nat} (hL : lo ∈ L) (hF : f lo = lC mc ea (nI n)) (hR : RO κ L f ea cap g) (hn : n ≤ cap) (h1 : f5 lo = lC mc2 ea (nI (n - 1))) (h2 : f5 ea = rowE κ cap g2) (h3 : ∀ y, y ≠ ea → y ≠ lo → f5 y = f y) (hg : ∀ i y, i < cap → g2 i = some y → ∃ j, j < cap ∧ g j = some y) (he : ∀ i, i < n - 1 → g2 i = some (remEl el k i)) : RemP κ L f lo ea n k el f5 := by
  refine ⟨⟨⟨hL, mc2, h1⟩, Or.inr ⟨cap, g2, ⟨hR.1, h2, hR.2.2.1, fun i y hi hy => ?_⟩, by omega, he⟩⟩, fun q hq hq2 => h3 q hq2 hq⟩
  obtain ⟨j, hj, hgj⟩ := hg i y hi hy
  obtain ⟨hy1, hy2⟩ := hR.2.2.2 j y hj hgj
  refine ⟨hy1, ?_⟩
  rw [h3 y (fun z => by rw [z, hR.2.1] at hy2; exact isEl_nr hy2) (nEl (κ := κ) hF hy2)]
  exact hy2
theorem rem_last {g : Nat → Option Nat} {el : Nat → Nat} {n k cap : Nat} (hk : k < n) (hkn : n - 1 ≤ k) (hn : n ≤ cap) (hg : ∀ i, i < n → g i = some (el i)) : (∀ i y, i < cap → va_up g (n - 1) none i = some y → ∃ j, j < cap ∧ g j = some y) ∧ ∀ i, i < n - 1 → va_up g (n - 1) none i = some (remEl el k i) := by
  constructor
  · intro i y hi hy
    by_cases hin : i = n - 1
    · simp [va_up, hin] at hy
    · exact ⟨i, hi, by simpa [va_up, hin] using hy⟩
  · intro i hi
    have h1 : i ≠ n - 1 := by omega
    have h2 : i < k := by omega
    simp [va_up, h1, remEl, h2, hg i (by omega)]
theorem rem_mid {g : Nat → Option Nat} {el : Nat → Nat} {n k cap : Nat} (hk : k < n - 1) (hn : n ≤ cap) (hg : ∀ i, i < n → g i = some (el i)) : (∀ i y, i < cap → va_up (va_cpy g g (k + 1) k (n - 1 - k)) (n - 1) none i = some y → ∃ j, j < cap ∧ g j = some y) ∧ ∀ i, i < n - 1 → va_up (va_cpy g g (k + 1) k (n - 1 - k)) (n - 1) none i = some (remEl el k i) := by
  constructor
  · intro i y hi hy
    by_cases hin : i = n - 1
    · simp [va_up, hin] at hy
    · by_cases hc : k ≤ i ∧ i < k + (n - 1 - k)
      · exact ⟨k + 1 + (i - k), by omega, by simpa [va_up, hin, va_cpy, hc] using hy⟩
      · exact ⟨i, hi, by simpa [va_up, hin, va_cpy, hc] using hy⟩
  · intro i hi
    have h1 : i ≠ n - 1 := by omega
    by_cases h2 : i < k
    · have hc : ¬ (k ≤ i ∧ i < k + (n - 1 - k)) := by omega
      simp only [va_up, h1, va_cpy, hc, remEl, h2, if_false, if_true]
      exact hg i (by omega)
    · have hc : k ≤ i ∧ i < k + (n - 1 - k) := by omega
      have e1 : k + 1 + (i - k) = i + 1 := by omega
      simp only [va_up, h1, va_cpy, hc, remEl, h2, if_false, if_true, e1, and_self]
      exact hg (i + 1) (by omega)
theorem RemP.of {κ : Kx} {L : List Nat} {f : Nat → va_E} {lo ea n k : Nat} {e2 : va_E} {el : Nat → Nat} {f1 : Nat → va_E} (h : RemP κ L (va_up f lo e2) lo ea n k el f1) : RemP κ L f lo ea n k el f1 :=
  ⟨h.1, fun q hq hq2 => by rw [h.2 q hq hq2]; simp [va_up, hq]⟩

set_option maxRecDepth 100000 in
set_option maxHeartbeats 4000000 in
theorem c_fastRem {l : Launch} {κ : Kx} {L : List Nat} {f : Nat → va_E} {ℓ ea n k cap : Nat} {mc : Int32} {el : Nat → Nat} {g : Nat → Option Nat} (hL : ℓ ∈ L) (hF : f ℓ = lC mc ea (nI n)) (hR : RO κ L f ea cap g) (hn : n ≤ cap) (hk : k < n) (hg : ∀ i, i < n → g i = some (el i)) : PM l κ yJx4a65c_fastRemove_b59b0 wsJx4a65c_fastRemove_b59b0 ({ frames := 1, cells := 0, slots := 0, locals := 20 } : Room) [.ref ℓ, .ref ea, .int (nI k)] L f (fun v L1 f1 => v = none ∧ L = L1 ∧ RemP κ L f ℓ ea n k el f1) noX 0 0 := by
  refine PM.mk (cc := cJx4a65c_fastRemove_b59b0) (maxL := 4) (ret := none) (by decide) rfl (Nat.le_of_ble_eq_true rfl) ?_
  intro p e s m args below meth c ls hx hb hml hr hlk hnm hown hts ht hh hl
  have hl : lv_has ls 4 [(0, .ref ℓ), (1, .ref ea), (2, .int (nI k))] := hl
  have S : CallFix p m c cJx4a65c_fastRemove_b59b0 4 s args wsJx4a65c_fastRemove_b59b0 RJx4a65c := ⟨hx, hb, hml, hown, hts⟩
  have hin : ∀ w ∈ wsJx4a65c0, w ∈ wsJx4a65c_fastRemove_b59b0 := by decide +kernel
  have hc9 := hR.2.2.1.2
  refine lv_aload_n hx hb dJx4a65c_fastRemove_b59b0_0 rfl (lv_at hl 0 rfl) ?_
  refine lv_dup hx hb dJx4a65c_fastRemove_b59b0_1 rfl ?_
  refine h_get hx hb hts hown hh (C := RJx4a65c) (T := TJx4a65c) (N := 3) hL hF rfl hin 0 (by decide) (hts (.fieldLink RJx4a65c 63 "java/util/ArrayList" "modCount" "I") (by decide +kernel)) (u_same (hts (.sameField "java/util/ArrayList" "java/util/AbstractList" "modCount" "I") (by decide +kernel))) rfl dJx4a65c_fastRemove_b59b0_2 ?_
  refine lv_iconst (v := 1) hx hb dJx4a65c_fastRemove_b59b0_5 (by decide) ?_
  refine lv_iadd hx hb dJx4a65c_fastRemove_b59b0_6 ?_
  refine h_put hx hb hts hown hh (C := RJx4a65c) (T := TJx4a65c) (N := 3) hL hF rfl hin tyJx4a65c tyJx4a65c_ok nmJx4a65c 0 (by decide) (hts (.fieldLink RJx4a65c 63 "java/util/ArrayList" "modCount" "I") (by decide +kernel)) (u_same (hts (.sameField "java/util/ArrayList" "java/util/AbstractList" "modCount" "I") (by decide +kernel))) rfl (ty := .int) rfl rfl rfl (by simp) dJx4a65c_fastRemove_b59b0_7 (fun H locs hh => ?_)
  have hea : ea ≠ ℓ := fun z => by rw [← z, hR.2.1] at hF; cases hF
  have hR2 : RO κ L (va_up f ℓ (lC (mc + 1) ea (nI n))) ea cap g := hR.up hea.symm (fun h => by rw [hF] at h; exact (isEl_n0 h).elim)
  have hF2 : (va_up f ℓ (lC (mc + 1) ea (nI n))) ℓ = (lC (mc + 1) ea (nI n)) := by simp [va_up]
  refine lv_aload_n hx hb dJx4a65c_fastRemove_b59b0_10 rfl (lv_at hl 0 rfl) ?_
  refine h_get hx hb hts hown hh (C := RJx4a65c) (T := TJx4a65c) (N := 3) hL hF2 rfl hin 2 (by decide) (hts (.fieldLink RJx4a65c 48 "java/util/ArrayList" "size" "I") (by decide +kernel)) (fun _ h9 => h9) rfl dJx4a65c_fastRemove_b59b0_11 ?_
  refine lv_iconst (v := 1) hx hb dJx4a65c_fastRemove_b59b0_14 (by decide) ?_
  refine lv_isub hx hb dJx4a65c_fastRemove_b59b0_15 ?_
  refine lv_dup hx hb dJx4a65c_fastRemove_b59b0_16 rfl ?_
  refine lv_topi (fun x17 e17 => ?_)
  refine lv_istore_n (lv' := [(3, .int x17), (0, .ref ℓ), (1, .ref ea), (2, .int (nI k))]) hx hb dJx4a65c_fastRemove_b59b0_17 rfl hl (by decide) rfl (fun ls hl => ?_)
  have e17b : x17 = nI (n - 1) := by rw [e17]; exact pk_sub (b := 1) (by omega)
  refine lv_iload_n hx hb dJx4a65c_fastRemove_b59b0_18 rfl (lv_at hl 3 rfl) ?_
  refine lv_icmp_le (tgt := 34) hx hb dJx4a65c_fastRemove_b59b0_19 (by decide) (fun c19 => ?_) (fun c19 => ?_)
  · have hkn : n - 1 ≤ k := by rw [← e17, e17b] at c19; exact (nI_leI (by omega) (by omega)).mp c19
    have hF3 : (va_up f ℓ (lC (mc + 1) ea (nI n))) ℓ = (lC (mc + 1) ea (nI n)) := hF2
    refine lv_aload_n hx hb dJx4a65c_fastRemove_b59b0_34 rfl (lv_at hl 2 rfl) ?_
    refine lv_aload_n hx hb dJx4a65c_fastRemove_b59b0_35 rfl (lv_at hl 1 rfl) ?_
    refine lv_iload_n hx hb dJx4a65c_fastRemove_b59b0_36 rfl (lv_at hl 0 rfl) ?_
    refine lv_dup_x1 hx hb dJx4a65c_fastRemove_b59b0_37 rfl rfl ?_
    refine h_put hx hb hts hown hh (C := RJx4a65c) (T := TJx4a65c) (N := 3) hL hF3 rfl hin tyJx4a65c tyJx4a65c_ok nmJx4a65c 2 (by decide) (hts (.fieldLink RJx4a65c 48 "java/util/ArrayList" "size" "I") (by decide +kernel)) (fun _ h9 => h9) rfl (ty := .int) rfl rfl rfl (by simp) dJx4a65c_fastRemove_b59b0_38 (fun H locs hh => ?_)
    refine lv_null hx hb dJx4a65c_fastRemove_b59b0_41 ?_
    refine h_aastNk hx hb hh hR.1 (show _ = rowE κ cap g by simp [va_up, hea, hR.2.1]) e17b (k := n - 1) (by omega) (by omega) dJx4a65c_fastRemove_b59b0_42 (fun H locs hh => ?_)
    subst e17
    exact k_vret hx hb hr hlk hh dJx4a65c_fastRemove_b59b0_43 (Nat.le_of_ble_eq_true rfl) (Nat.le_of_ble_eq_true rfl) ⟨rfl, rfl, remP_of (mc2 := mc + 1) (g2 := va_up g (n - 1) none) hL hF hR hn (by simp [va_up, hea.symm, e17b]) (by simp [va_up]) (fun y hy hy2 => by simp [va_up, hy, hy2]) (rem_last hk hkn hn hg).1 (rem_last hk hkn hn hg).2⟩
  · have hkn : k < n - 1 := by
      rcases Nat.lt_or_ge k (n - 1) with q | q
      · exact q
      · exact absurd (by rw [← e17, e17b]; exact nI_le q (by omega)) c19
    refine lv_aload_n hx hb dJx4a65c_fastRemove_b59b0_22 rfl (lv_at hl 2 rfl) ?_
    refine lv_iload_n hx hb dJx4a65c_fastRemove_b59b0_23 rfl (lv_at hl 3 rfl) ?_
    refine lv_iconst (v := 1) hx hb dJx4a65c_fastRemove_b59b0_24 (by decide) ?_
    refine lv_iadd hx hb dJx4a65c_fastRemove_b59b0_25 ?_
    refine lv_aload_n hx hb dJx4a65c_fastRemove_b59b0_26 rfl (lv_at hl 2 rfl) ?_
    refine lv_iload_n hx hb dJx4a65c_fastRemove_b59b0_27 rfl (lv_at hl 3 rfl) ?_
    refine lv_iload_n hx hb dJx4a65c_fastRemove_b59b0_28 rfl (lv_at hl 0 rfl) ?_
    refine lv_iload_n hx hb dJx4a65c_fastRemove_b59b0_29 rfl (lv_at hl 3 rfl) ?_
    refine lv_isub hx hb dJx4a65c_fastRemove_b59b0_30 ?_
    refine h_copy hx hb (hml.trans hl.1.symm) hown hts (by decide +kernel) (by decide +kernel) (by decide +kernel) (by decide +kernel) hh hR.1 hR2.2.1 hR.1 hR2.2.1 (k + 1) k (n - 1 - k) (nI_1 k) rfl (by rw [e17b, pk_sub (by omega)]) (by omega) (by omega) ⟨by omega, by omega⟩ (fun t y ht hy => hR2.2.2.2 _ y (by omega) hy) (Nat.le_of_ble_eq_true rfl) (Nat.le_of_ble_eq_true rfl) dJx4a65c_fastRemove_b59b0_31 (fun H locs hh => ?_)
    have hF3 : va_up (va_up f ℓ (lC (mc + 1) ea (nI n))) ea (rowE κ cap (va_cpy g g (k + 1) k (n - 1 - k))) ℓ = (lC (mc + 1) ea (nI n)) := by simp [va_up, hea.symm]
    refine lv_aload_n hx hb dJx4a65c_fastRemove_b59b0_34 rfl (lv_at hl 2 rfl) ?_
    refine lv_aload_n hx hb dJx4a65c_fastRemove_b59b0_35 rfl (lv_at hl 1 rfl) ?_
    refine lv_iload_n hx hb dJx4a65c_fastRemove_b59b0_36 rfl (lv_at hl 0 rfl) ?_
    refine lv_dup_x1 hx hb dJx4a65c_fastRemove_b59b0_37 rfl rfl ?_
    refine h_put hx hb hts hown hh (C := RJx4a65c) (T := TJx4a65c) (N := 3) hL hF3 rfl hin tyJx4a65c tyJx4a65c_ok nmJx4a65c 2 (by decide) (hts (.fieldLink RJx4a65c 48 "java/util/ArrayList" "size" "I") (by decide +kernel)) (fun _ h9 => h9) rfl (ty := .int) rfl rfl rfl (by simp) dJx4a65c_fastRemove_b59b0_38 (fun H locs hh => ?_)
    refine lv_null hx hb dJx4a65c_fastRemove_b59b0_41 ?_
    refine h_aastNk hx hb hh hR.1 (show _ = rowE κ cap (va_cpy g g (k + 1) k (n - 1 - k)) by simp [va_up, hea, hR.2.1]) e17b (k := n - 1) (by omega) (by omega) dJx4a65c_fastRemove_b59b0_42 (fun H locs hh => ?_)
    subst e17
    exact k_vret hx hb hr hlk hh dJx4a65c_fastRemove_b59b0_43 (Nat.le_of_ble_eq_true rfl) (Nat.le_of_ble_eq_true rfl) ⟨rfl, rfl, remP_of (mc2 := mc + 1) (g2 := va_up (va_cpy g g (k + 1) k (n - 1 - k)) (n - 1) none) hL hF hR hn (by simp [va_up, hea.symm, e17b]) (by simp [va_up]) (fun y hy hy2 => by simp [va_up, hy, hy2]) (rem_mid hkn hn hg).1 (rem_mid hkn hn hg).2⟩

set_option maxRecDepth 100000 in
set_option maxHeartbeats 4000000 in
theorem c_remove {l : Launch} {κ : Kx} {L : List Nat} {f : Nat → va_E} {ℓ ea n k cap : Nat} {mc : Int32} {el : Nat → Nat} {g : Nat → Option Nat} (hL : ℓ ∈ L) (hF : f ℓ = lC mc ea (nI n)) (hR : RO κ L f ea cap g) (hn : n ≤ cap) (hk : k < n) (hg : ∀ i, i < n → g i = some (el i)) : PM l κ yJx4a65c_remove_915e3 wsJx4a65c_remove_915e3 ({ frames := 2, cells := 0, slots := 0, locals := 43 } : Room) [.ref ℓ, .int (nI k)] L f (fun v L1 f1 => v = some (.ref (el k)) ∧ L = L1 ∧ RemP κ L f ℓ ea n k el f1) noX 0 0 := by
  refine PM.mk (cc := cJx4a65c_remove_915e3) (maxL := 4) (ret := (some (.object "java/lang/Object"))) (by decide) rfl (Nat.le_of_ble_eq_true rfl) ?_
  intro p e s m args below meth c ls hx hb hml hr hlk hnm hown hts ht hh hl
  have hl : lv_has ls 4 [(0, .ref ℓ), (1, .int (nI k))] := hl
  have S : CallFix p m c cJx4a65c_remove_915e3 4 s args wsJx4a65c_remove_915e3 RJx4a65c := ⟨hx, hb, hml, hown, hts⟩
  have hin : ∀ w ∈ wsJx4a65c0, w ∈ wsJx4a65c_remove_915e3 := by decide +kernel
  have hc9 := hR.2.2.1.2
  refine lv_iload_n hx hb dJx4a65c_remove_915e3_0 rfl (lv_at hl 1 rfl) ?_
  refine lv_aload_n hx hb dJx4a65c_remove_915e3_1 rfl (lv_at hl 0 rfl) ?_
  refine h_get hx hb hts hown hh (C := RJx4a65c) (T := TJx4a65c) (N := 3) hL hF rfl hin 2 (by decide) (hts (.fieldLink RJx4a65c 48 "java/util/ArrayList" "size" "I") (by decide +kernel)) (fun _ h9 => h9) rfl dJx4a65c_remove_915e3_2 ?_
  refine k_callS0 (As := [.int (nI k), .int (nI n)]) (c_chk15 (nI_pos (n := k) (by omega)) (nI_lt hk (by omega))) S hh (va_cwS 2 hts gJx4a65c_remove_915e3_J15_checkIndex_7cf53 rfl rfl rfl (by decide +kernel) ⟨(Nat.le_of_ble_eq_true rfl), (Nat.le_of_ble_eq_true rfl)⟩) rfl hl.1 rfl (Nat.le_of_ble_eq_true rfl) dJx4a65c_remove_915e3_5 ⟨(Nat.le_of_ble_eq_true rfl), (Nat.le_of_ble_eq_true rfl)⟩ (fun v L1 f1 H locs hp hh => ?_)
  obtain ⟨rfl, hL1, hf1⟩ := hp
  subst hL1; subst hf1
  refine lv_pop hx hb dJx4a65c_remove_915e3_8 rfl ?_
  refine lv_aload_n hx hb dJx4a65c_remove_915e3_9 rfl (lv_at hl 0 rfl) ?_
  refine h_get hx hb hts hown hh (C := RJx4a65c) (T := TJx4a65c) (N := 3) hL hF rfl hin 1 (by decide) (hts (.fieldLink RJx4a65c 9 "java/util/ArrayList" "elementData" "[Ljava/lang/Object;") (by decide +kernel)) (fun _ h9 => h9) rfl dJx4a65c_remove_915e3_10 ?_
  refine lv_astore_n (lv' := [(2, .ref ea), (0, .ref ℓ), (1, .int (nI k))]) hx hb dJx4a65c_remove_915e3_13 rfl hl (by decide) rfl (fun ls hl => ?_)
  refine lv_aload_n hx hb dJx4a65c_remove_915e3_14 rfl (lv_at hl 0 rfl) ?_
  refine lv_iload_n hx hb dJx4a65c_remove_915e3_15 rfl (lv_at hl 2 rfl) ?_
  refine h_aaldk hx hb hh hR.1 hR.2.1 rfl (by omega) (by omega) (hg k hk) dJx4a65c_remove_915e3_16 ?_
  refine lv_astore_n (lv' := [(3, .ref (el k)), (2, .ref ea), (0, .ref ℓ), (1, .int (nI k))]) hx hb dJx4a65c_remove_915e3_17 rfl hl (by decide) rfl (fun ls hl => ?_)
  refine lv_aload_n hx hb dJx4a65c_remove_915e3_18 rfl (lv_at hl 2 rfl) ?_
  refine lv_aload_n hx hb dJx4a65c_remove_915e3_19 rfl (lv_at hl 1 rfl) ?_
  refine lv_iload_n hx hb dJx4a65c_remove_915e3_20 rfl (lv_at hl 3 rfl) ?_
  refine k_callV0 (As := [.ref ea, .int (nI k)]) (c_fastRem hL hF hR hn hk hg) S hh (cwV 2 hts gJx4a65c_remove_915e3_Jx4a65c_fastRemove_b59b0 rfl rfl rfl (by decide +kernel) ⟨(Nat.le_of_ble_eq_true rfl), (Nat.le_of_ble_eq_true rfl)⟩) hL hF (q := (RJx4a65c, TJx4a65c, 3)) rfl rfl rfl hl.1 rfl (Nat.le_of_ble_eq_true rfl) dJx4a65c_remove_915e3_21 ⟨(Nat.le_of_ble_eq_true rfl), (Nat.le_of_ble_eq_true rfl)⟩ (fun v L1 f1 H locs hp hh => ?_)
  have hv9 := hp.1
  subst hv9
  refine lv_aload_n hx hb dJx4a65c_remove_915e3_24 rfl (lv_at hl 0 rfl) ?_
  exact k_aret hx hb hr (Or.inl ⟨_, rfl⟩) hlk hh dJx4a65c_remove_915e3_25 (Nat.le_of_ble_eq_true rfl) (Nat.le_of_ble_eq_true rfl) ⟨rfl, hp.2.1, hp.2.2⟩

set_option maxRecDepth 100000 in
set_option maxHeartbeats 4000000 in
theorem c_acinit {l : Launch} {κ : Kx} {L : List Nat} {f : Nat → va_E} {ℓ : Nat} : PC l κ yJxa1e45_init_da8c8 wsJxa1e45_init_da8c8 ({ frames := 1, cells := 0, slots := 0, locals := 12 } : Room) [.ref ℓ] L f (fun v L1 f1 => v = none ∧ L = L1 ∧ f = f1) 0 0 := by
  refine PC.mk (cc := cJxa1e45_init_da8c8) (maxL := 1) (ret := none) (by decide) rfl (Nat.le_of_ble_eq_true rfl) ?_
  intro p e s m args below meth c ls hx hb hml hr hlk hnm hown hts hh hl
  have hl : lv_has ls 1 [(0, .ref ℓ)] := hl
  have S : CallFix p m c cJxa1e45_init_da8c8 1 s args wsJxa1e45_init_da8c8 RJxa1e45 := ⟨hx, hb, hml, hown, hts⟩
  refine lv_aload_n hx hb dJxa1e45_init_da8c8_0 rfl (lv_at hl 0 rfl) ?_
  refine W.objInit hx hb hown (hts (.methodLink RJxa1e45 1 objectInit) (by decide +kernel)) (hts (.instanceMethod objectInit) (by decide +kernel)) (hts (.code objectInit ⟨#[0xb1]⟩ 1 none) (by decide +kernel)) rfl (by rw [hml]; exact hl.1) rfl dJxa1e45_init_da8c8_1 (Nat.le_of_ble_eq_true rfl) (Nat.le_of_ble_eq_true rfl) ?_
  refine W.eq (g2 := F0 m 4 ls []) rfl ?_
  exact k_cret hx hb hr hlk hh dJxa1e45_init_da8c8_4 (Nat.le_of_ble_eq_true rfl) (Nat.le_of_ble_eq_true rfl) ⟨rfl, rfl, rfl⟩

set_option maxRecDepth 100000 in
set_option maxHeartbeats 4000000 in
theorem c_alinit0 {l : Launch} {κ : Kx} {L : List Nat} {f : Nat → va_E} {ℓ : Nat} (hL : ℓ ∈ L) (hF : f ℓ = .inr (0, [.int 0, .null, .int 0])) : PC l κ yJxc12de_init_da8c8 wsJxc12de_init_da8c8 ({ frames := 2, cells := 0, slots := 0, locals := 32 } : Room) [.ref ℓ] L f (fun v L1 f1 => v = none ∧ L = L1 ∧ f1 ℓ = .inr (0, [.int 0, .null, .int 0]) ∧ ∀ q, q ≠ ℓ → f1 q = f q) 0 0 := by
  refine PC.mk (cc := cJxc12de_init_da8c8) (maxL := 1) (ret := none) (by decide) rfl (Nat.le_of_ble_eq_true rfl) ?_
  intro p e s m args below meth c ls hx hb hml hr hlk hnm hown hts hh hl
  have hl : lv_has ls 1 [(0, .ref ℓ)] := hl
  have S : CallFix p m c cJxc12de_init_da8c8 1 s args wsJxc12de_init_da8c8 RJxc12de := ⟨hx, hb, hml, hown, hts⟩
  have hin : ∀ w ∈ wsJx4a65c0, w ∈ wsJxc12de_init_da8c8 := by decide +kernel
  refine lv_aload_n hx hb dJxc12de_init_da8c8_0 rfl (lv_at hl 0 rfl) ?_
  refine k_callI (As := []) c_acinit S hh (cwI 0 hts gJxc12de_init_da8c8_Jxa1e45_init_da8c8 rfl rfl rfl (hts (.initialized RJxa1e45) (by decide +kernel)) (hts (.methodLink RJxc12de 1 yJxa1e45_init_da8c8) (by decide +kernel)) (hts (.instanceMethod yJxa1e45_init_da8c8) (by decide +kernel)) rfl (by decide +kernel) ⟨(Nat.le_of_ble_eq_true rfl), (Nat.le_of_ble_eq_true rfl)⟩) rfl hl.1 rfl (Nat.le_of_ble_eq_true rfl) dJxc12de_init_da8c8_1 ⟨(Nat.le_of_ble_eq_true rfl), (Nat.le_of_ble_eq_true rfl)⟩ (fun v L1 f1 H locs hp hh => ?_)
  obtain ⟨rfl, hL1, hf1⟩ := hp
  subst hL1; subst hf1
  refine lv_aload_n hx hb dJxc12de_init_da8c8_4 rfl (lv_at hl 0 rfl) ?_
  refine lv_iconst (v := 0) hx hb dJxc12de_init_da8c8_5 (by decide) ?_
  refine h_put hx hb hts hown hh (C := RJx4a65c) (T := TJx4a65c) (N := 3) hL hF rfl hin tyJx4a65c tyJx4a65c_ok nmJx4a65c 0 (by decide) (hts (.fieldLink RJxc12de 7 "java/util/AbstractList" "modCount" "I") (by decide +kernel)) (fun _ h9 => h9) rfl (ty := .int) rfl rfl rfl (by simp) dJxc12de_init_da8c8_6 (fun H locs hh => ?_)
  exact k_cret hx hb hr hlk hh dJxc12de_init_da8c8_9 (Nat.le_of_ble_eq_true rfl) (Nat.le_of_ble_eq_true rfl) ⟨rfl, rfl, by simp [va_up], fun q hq => by simp [va_up, hq]⟩

set_option maxRecDepth 100000 in
set_option maxHeartbeats 4000000 in
theorem c_alinit {l : Launch} {κ : Kx} {L : List Nat} {f : Nat → va_E} {ℓ : Nat} (hL : ℓ ∈ L) (hF : f ℓ = .inr (0, [.int 0, .null, .int 0])) : PC l κ yJx4a65c_init_da8c8 wsJx4a65c_init_da8c8 ({ frames := 3, cells := 0, slots := 0, locals := 52 } : Room) [.ref ℓ] L f (fun v L1 f1 => v = none ∧ L = L1 ∧ f1 ℓ = lC 0 (kTE κ) 0 ∧ ∀ q, q ≠ ℓ → f1 q = f q) 0 0 := by
  refine PC.mk (cc := cJx4a65c_init_da8c8) (maxL := 1) (ret := none) (by decide) rfl (Nat.le_of_ble_eq_true rfl) ?_
  intro p e s m args below meth c ls hx hb hml hr hlk hnm hown hts hh hl
  have hl : lv_has ls 1 [(0, .ref ℓ)] := hl
  have S : CallFix p m c cJx4a65c_init_da8c8 1 s args wsJx4a65c_init_da8c8 RJx4a65c := ⟨hx, hb, hml, hown, hts⟩
  have hin : ∀ w ∈ wsJx4a65c0, w ∈ wsJx4a65c_init_da8c8 := by decide +kernel
  refine lv_aload_n hx hb dJx4a65c_init_da8c8_0 rfl (lv_at hl 0 rfl) ?_
  refine k_callI (As := []) (c_alinit0 hL hF) S hh (cwI 0 hts gJx4a65c_init_da8c8_Jxc12de_init_da8c8 rfl rfl rfl (hts (.initialized RJxc12de) (by decide +kernel)) (hts (.methodLink RJx4a65c 1 yJxc12de_init_da8c8) (by decide +kernel)) (hts (.instanceMethod yJxc12de_init_da8c8) (by decide +kernel)) rfl (by decide +kernel) ⟨(Nat.le_of_ble_eq_true rfl), (Nat.le_of_ble_eq_true rfl)⟩) rfl hl.1 rfl (Nat.le_of_ble_eq_true rfl) dJx4a65c_init_da8c8_1 ⟨(Nat.le_of_ble_eq_true rfl), (Nat.le_of_ble_eq_true rfl)⟩ (fun v L1 f1 H locs hp hh => ?_)
  obtain ⟨rfl, hL1, h3, h4⟩ := hp
  subst hL1
  refine lv_aload_n hx hb dJx4a65c_init_da8c8_4 rfl (lv_at hl 0 rfl) ?_
  refine va_gets hx hb hh.2.2.2.2.2.2.1.1 hh.2.2.2.1 hown (hts (.fieldLink RJx4a65c 39 "java/util/ArrayList" "DEFAULTCAPACITY_EMPTY_ELEMENTDATA" "[Ljava/lang/Object;") (by decide +kernel)) (fun _ h9 => h9) dJx4a65c_init_da8c8_5 ?_
  refine h_put hx hb hts hown hh (C := RJx4a65c) (T := TJx4a65c) (N := 3) hL h3 rfl hin tyJx4a65c tyJx4a65c_ok nmJx4a65c 1 (by decide) (hts (.fieldLink RJx4a65c 9 "java/util/ArrayList" "elementData" "[Ljava/lang/Object;") (by decide +kernel)) (fun _ h9 => h9) rfl (ty := .array (.object "java/lang/Object")) rfl rfl rfl (by simp) dJx4a65c_init_da8c8_8 (fun H locs hh => ?_)
  exact k_cret hx hb hr hlk hh dJx4a65c_init_da8c8_11 (Nat.le_of_ble_eq_true rfl) (Nat.le_of_ble_eq_true rfl) ⟨rfl, rfl, by simp [va_up], fun q hq => by simp [va_up, hq, h4 q hq]⟩
