set_option maxRecDepth 100000 in
set_option maxHeartbeats 4000000 in
theorem c_chk3 {l : Launch} {κ : Kx} {L : List Nat} {f : Nat → va_E} {x y : Int32} (h0 : ¬ x < 0) (h1 : x < y) : PM l κ yJ3_checkIndex_8e157 wsJ3_checkIndex_8e157 ({ frames := 0, cells := 0, slots := 0, locals := 0 } : Room) [.int x, .int y, .null] L f (fun v L1 f1 => v = some (.int x) ∧ L = L1 ∧ f = f1) noX 0 0 := by
  refine PM.mk (cc := cJ3_checkIndex_8e157) (maxL := 3) (ret := (some .int)) (by decide) rfl (Nat.le_of_ble_eq_true rfl) ?_
  intro p e s m args below meth c ls hx hb hml hr hlk hnm hown hts ht hh hl
  have hl : lv_has ls 3 [(0, .int x), (1, .int y), (2, .null)] := hl
  have S : CallFix p m c cJ3_checkIndex_8e157 3 s args wsJ3_checkIndex_8e157 RJ3 := ⟨hx, hb, hml, hown, hts⟩
  refine lv_iload_n hx hb dJ3_checkIndex_8e157_0 rfl (lv_at hl 0 rfl) ?_
  refine lv_if_lt (tgt := 9) hx hb dJ3_checkIndex_8e157_1 (by decide) (fun c1 => ?_) (fun c1 => ?_)
  · exact absurd c1 h0
  · refine lv_iload_n hx hb dJ3_checkIndex_8e157_4 rfl (lv_at hl 0 rfl) ?_
    refine lv_iload_n hx hb dJ3_checkIndex_8e157_5 rfl (lv_at hl 1 rfl) ?_
    refine lv_icmp_lt (tgt := 16) hx hb dJ3_checkIndex_8e157_6 (by decide) (fun c6 => ?_) (fun c6 => ?_)
    · refine lv_iload_n hx hb dJ3_checkIndex_8e157_16 rfl (lv_at hl 0 rfl) ?_
      exact k_iret hx hb hr hlk hh dJ3_checkIndex_8e157_17 (Nat.le_of_ble_eq_true rfl) (Nat.le_of_ble_eq_true rfl) ⟨rfl, rfl, rfl⟩
    · exact absurd h1 c6

set_option maxRecDepth 100000 in
set_option maxHeartbeats 4000000 in
theorem c_chk15 {l : Launch} {κ : Kx} {L : List Nat} {f : Nat → va_E} {x y : Int32} (h0 : ¬ x < 0) (h1 : x < y) : PM l κ yJ15_checkIndex_7cf53 wsJ15_checkIndex_7cf53 ({ frames := 1, cells := 0, slots := 0, locals := 22 } : Room) [.int x, .int y] L f (fun v L1 f1 => v = some (.int x) ∧ L = L1 ∧ f = f1) noX 0 0 := by
  refine PM.mk (cc := cJ15_checkIndex_7cf53) (maxL := 2) (ret := (some .int)) (by decide) rfl (Nat.le_of_ble_eq_true rfl) ?_
  intro p e s m args below meth c ls hx hb hml hr hlk hnm hown hts ht hh hl
  have hl : lv_has ls 2 [(0, .int x), (1, .int y)] := hl
  have S : CallFix p m c cJ15_checkIndex_7cf53 2 s args wsJ15_checkIndex_7cf53 RJ15 := ⟨hx, hb, hml, hown, hts⟩
  refine lv_iload_n hx hb dJ15_checkIndex_7cf53_0 rfl (lv_at hl 0 rfl) ?_
  refine lv_iload_n hx hb dJ15_checkIndex_7cf53_1 rfl (lv_at hl 1 rfl) ?_
  refine lv_null hx hb dJ15_checkIndex_7cf53_2 ?_
  refine k_callS0 (As := [.int x, .int y, .null]) (c_chk3 h0 h1) S hh (va_cwS 3 hts gJ15_checkIndex_7cf53_J3_checkIndex_8e157 rfl rfl rfl (by decide +kernel) ⟨(Nat.le_of_ble_eq_true rfl), (Nat.le_of_ble_eq_true rfl)⟩) rfl hl.1 rfl (Nat.le_of_ble_eq_true rfl) dJ15_checkIndex_7cf53_3 ⟨(Nat.le_of_ble_eq_true rfl), (Nat.le_of_ble_eq_true rfl)⟩ (fun v L1 f1 H locs hp hh => ?_)
  obtain ⟨rfl, hL1, hf1⟩ := hp
  subst hL1; subst hf1
  exact k_iret hx hb hr hlk hh dJ15_checkIndex_7cf53_6 (Nat.le_of_ble_eq_true rfl) (Nat.le_of_ble_eq_true rfl) ⟨rfl, rfl, rfl⟩

set_option maxRecDepth 100000 in
set_option maxHeartbeats 4000000 in
theorem c_size {l : Launch} {κ : Kx} {L : List Nat} {f : Nat → va_E} {ℓ e : Nat} {mc n : Int32} (hL : ℓ ∈ L) (hF : f ℓ = lC mc e n) : PM l κ yJx4a65c_size_8abf5 wsJx4a65c_size_8abf5 ({ frames := 0, cells := 0, slots := 0, locals := 0 } : Room) [.ref ℓ] L f (fun v L1 f1 => v = some (.int n) ∧ L = L1 ∧ f = f1) noX 0 0 := by
  refine PM.mk (cc := cJx4a65c_size_8abf5) (maxL := 1) (ret := (some .int)) (by decide) rfl (Nat.le_of_ble_eq_true rfl) ?_
  intro p e s m args below meth c ls hx hb hml hr hlk hnm hown hts ht hh hl
  have hl : lv_has ls 1 [(0, .ref ℓ)] := hl
  have S : CallFix p m c cJx4a65c_size_8abf5 1 s args wsJx4a65c_size_8abf5 RJx4a65c := ⟨hx, hb, hml, hown, hts⟩
  have hin : ∀ w ∈ wsJx4a65c0, w ∈ wsJx4a65c_size_8abf5 := by decide +kernel
  refine lv_aload_n hx hb dJx4a65c_size_8abf5_0 rfl (lv_at hl 0 rfl) ?_
  refine h_get hx hb hts hown hh (C := RJx4a65c) (T := TJx4a65c) (N := 3) hL hF rfl hin 2 (by decide) (hts (.fieldLink RJx4a65c 48 "java/util/ArrayList" "size" "I") (by decide +kernel)) (fun _ h9 => h9) rfl dJx4a65c_size_8abf5_1 ?_
  exact k_iret hx hb hr hlk hh dJx4a65c_size_8abf5_4 (Nat.le_of_ble_eq_true rfl) (Nat.le_of_ble_eq_true rfl) ⟨rfl, rfl, rfl⟩

set_option maxRecDepth 100000 in
set_option maxHeartbeats 4000000 in
theorem c_isEmpty {l : Launch} {κ : Kx} {L : List Nat} {f : Nat → va_E} {ℓ e : Nat} {mc n : Int32} (hL : ℓ ∈ L) (hF : f ℓ = lC mc e n) : PM l κ yJx4a65c_isEmpty_aae02 wsJx4a65c_isEmpty_aae02 ({ frames := 0, cells := 0, slots := 0, locals := 0 } : Room) [.ref ℓ] L f (fun v L1 f1 => v = some (.int (if n = 0 then 1 else 0)) ∧ L = L1 ∧ f = f1) noX 0 0 := by
  refine PM.mk (cc := cJx4a65c_isEmpty_aae02) (maxL := 1) (ret := (some .boolean)) (by decide) rfl (Nat.le_of_ble_eq_true rfl) ?_
  intro p e s m args below meth c ls hx hb hml hr hlk hnm hown hts ht hh hl
  have hl : lv_has ls 1 [(0, .ref ℓ)] := hl
  have S : CallFix p m c cJx4a65c_isEmpty_aae02 1 s args wsJx4a65c_isEmpty_aae02 RJx4a65c := ⟨hx, hb, hml, hown, hts⟩
  have hin : ∀ w ∈ wsJx4a65c0, w ∈ wsJx4a65c_isEmpty_aae02 := by decide +kernel
  refine lv_aload_n hx hb dJx4a65c_isEmpty_aae02_0 rfl (lv_at hl 0 rfl) ?_
  refine h_get hx hb hts hown hh (C := RJx4a65c) (T := TJx4a65c) (N := 3) hL hF rfl hin 2 (by decide) (hts (.fieldLink RJx4a65c 48 "java/util/ArrayList" "size" "I") (by decide +kernel)) (fun _ h9 => h9) rfl dJx4a65c_isEmpty_aae02_1 ?_
  refine lv_if_ne (tgt := 11) hx hb dJx4a65c_isEmpty_aae02_4 (by decide) (fun c4 => ?_) (fun c4 => ?_)
  · refine lv_iconst (v := 0) hx hb dJx4a65c_isEmpty_aae02_11 (by decide) ?_
    exact k_zret hx hb hr hlk (rfl) hh dJx4a65c_isEmpty_aae02_12 (Nat.le_of_ble_eq_true rfl) (Nat.le_of_ble_eq_true rfl) ⟨congrArg (fun r => some (Value.int r)) (by first | rw [if_pos (by assumption)] | rw [if_neg (by assumption)]), rfl, rfl⟩
  · refine lv_iconst (v := 1) hx hb dJx4a65c_isEmpty_aae02_7 (by decide) ?_
    refine lv_goto (tgt := 12) hx hb dJx4a65c_isEmpty_aae02_8 (by decide) ?_
    exact k_zret hx hb hr hlk (rfl) hh dJx4a65c_isEmpty_aae02_12 (Nat.le_of_ble_eq_true rfl) (Nat.le_of_ble_eq_true rfl) ⟨congrArg (fun r => some (Value.int r)) (by first | rw [if_pos (by assumption)] | rw [if_neg (by assumption)]), rfl, rfl⟩

set_option maxRecDepth 100000 in
set_option maxHeartbeats 4000000 in
theorem c_elem {l : Launch} {κ : Kx} {L : List Nat} {f : Nat → va_E} {ℓ e : Nat} {mc n : Int32} (hL : ℓ ∈ L) (hF : f ℓ = lC mc e n) {cap : Nat} {g : Nat → Option Nat} (hE : e ∈ L) (hR : f e = rowE κ cap g) {k w : Nat} {x : Int32} (hx9 : x = nI k) (hk : k < cap) (hc9 : cap ≤ 1000) (hw : g k = some w) : PM l κ yJx4a65c_elementData_915e3 wsJx4a65c_elementData_915e3 ({ frames := 0, cells := 0, slots := 0, locals := 0 } : Room) [.ref ℓ, .int x] L f (fun v L1 f1 => v = some (.ref w) ∧ L = L1 ∧ f = f1) noX 0 0 := by
  refine PM.mk (cc := cJx4a65c_elementData_915e3) (maxL := 2) (ret := (some (.object "java/lang/Object"))) (by decide) rfl (Nat.le_of_ble_eq_true rfl) ?_
  intro p e s m args below meth c ls hx hb hml hr hlk hnm hown hts ht hh hl
  have hl : lv_has ls 2 [(0, .ref ℓ), (1, .int x)] := hl
  have S : CallFix p m c cJx4a65c_elementData_915e3 2 s args wsJx4a65c_elementData_915e3 RJx4a65c := ⟨hx, hb, hml, hown, hts⟩
  have hin : ∀ w ∈ wsJx4a65c0, w ∈ wsJx4a65c_elementData_915e3 := by decide +kernel
  refine lv_aload_n hx hb dJx4a65c_elementData_915e3_0 rfl (lv_at hl 0 rfl) ?_
  refine h_get hx hb hts hown hh (C := RJx4a65c) (T := TJx4a65c) (N := 3) hL hF rfl hin 1 (by decide) (hts (.fieldLink RJx4a65c 9 "java/util/ArrayList" "elementData" "[Ljava/lang/Object;") (by decide +kernel)) (fun _ h9 => h9) rfl dJx4a65c_elementData_915e3_1 ?_
  refine lv_iload_n hx hb dJx4a65c_elementData_915e3_4 rfl (lv_at hl 1 rfl) ?_
  refine h_aaldk hx hb hh hE hR hx9 hk (by omega) hw dJx4a65c_elementData_915e3_5 ?_
  exact k_aret hx hb hr (Or.inl ⟨_, rfl⟩) hlk hh dJx4a65c_elementData_915e3_6 (Nat.le_of_ble_eq_true rfl) (Nat.le_of_ble_eq_true rfl) ⟨rfl, rfl, rfl⟩

set_option maxRecDepth 100000 in
set_option maxHeartbeats 4000000 in
theorem c_get {l : Launch} {κ : Kx} {L : List Nat} {f : Nat → va_E} {ℓ e : Nat} {mc : Int32} {n : Nat} (hL : ℓ ∈ L) (hF : f ℓ = lC mc e (nI n)) {cap : Nat} {g : Nat → Option Nat} (hE : e ∈ L) (hR : f e = rowE κ cap g) {k w : Nat} {x : Int32} (hx9 : x = nI k) (hk : k < cap) (hc9 : cap ≤ 1000) (hw : g k = some w) (hkn : k < n) (hn : n ≤ cap) : PM l κ yJx4a65c_get_915e3 wsJx4a65c_get_915e3 ({ frames := 2, cells := 0, slots := 0, locals := 43 } : Room) [.ref ℓ, .int x] L f (fun v L1 f1 => v = some (.ref w) ∧ L = L1 ∧ f = f1) noX 0 0 := by
  refine PM.mk (cc := cJx4a65c_get_915e3) (maxL := 2) (ret := (some (.object "java/lang/Object"))) (by decide) rfl (Nat.le_of_ble_eq_true rfl) ?_
  intro p e s m args below meth c ls hx hb hml hr hlk hnm hown hts ht hh hl
  have hl : lv_has ls 2 [(0, .ref ℓ), (1, .int x)] := hl
  have S : CallFix p m c cJx4a65c_get_915e3 2 s args wsJx4a65c_get_915e3 RJx4a65c := ⟨hx, hb, hml, hown, hts⟩
  have hin : ∀ w ∈ wsJx4a65c0, w ∈ wsJx4a65c_get_915e3 := by decide +kernel
  have h0 : ¬ x < 0 := by rw [hx9]; exact nI_pos (by omega)
  have h1 : x < nI n := by rw [hx9]; exact nI_lt hkn (by omega)
  refine lv_iload_n hx hb dJx4a65c_get_915e3_0 rfl (lv_at hl 1 rfl) ?_
  refine lv_aload_n hx hb dJx4a65c_get_915e3_1 rfl (lv_at hl 0 rfl) ?_
  refine h_get hx hb hts hown hh (C := RJx4a65c) (T := TJx4a65c) (N := 3) hL hF rfl hin 2 (by decide) (hts (.fieldLink RJx4a65c 48 "java/util/ArrayList" "size" "I") (by decide +kernel)) (fun _ h9 => h9) rfl dJx4a65c_get_915e3_2 ?_
  refine k_callS0 (As := [.int x, .int (nI n)]) (c_chk15 h0 h1) S hh (va_cwS 2 hts gJx4a65c_get_915e3_J15_checkIndex_7cf53 rfl rfl rfl (by decide +kernel) ⟨(Nat.le_of_ble_eq_true rfl), (Nat.le_of_ble_eq_true rfl)⟩) rfl hl.1 rfl (Nat.le_of_ble_eq_true rfl) dJx4a65c_get_915e3_5 ⟨(Nat.le_of_ble_eq_true rfl), (Nat.le_of_ble_eq_true rfl)⟩ (fun v L1 f1 H locs hp hh => ?_)
  obtain ⟨rfl, hL1, hf1⟩ := hp
  subst hL1; subst hf1
  refine lv_pop hx hb dJx4a65c_get_915e3_8 rfl ?_
  refine lv_aload_n hx hb dJx4a65c_get_915e3_9 rfl (lv_at hl 0 rfl) ?_
  refine lv_iload_n hx hb dJx4a65c_get_915e3_10 rfl (lv_at hl 1 rfl) ?_
  refine k_callV0 (As := [.int x]) (c_elem hL hF hE hR hx9 hk hc9 hw) S hh (cwV 1 hts gJx4a65c_get_915e3_Jx4a65c_elementData_915e3 rfl rfl rfl (by decide +kernel) ⟨(Nat.le_of_ble_eq_true rfl), (Nat.le_of_ble_eq_true rfl)⟩) hL hF (q := (RJx4a65c, TJx4a65c, 3)) rfl rfl rfl hl.1 rfl (Nat.le_of_ble_eq_true rfl) dJx4a65c_get_915e3_11 ⟨(Nat.le_of_ble_eq_true rfl), (Nat.le_of_ble_eq_true rfl)⟩ (fun v L1 f1 H locs hp hh => ?_)
  obtain ⟨rfl, hL1, hf1⟩ := hp
  subst hL1; subst hf1
  exact k_aret hx hb hr (Or.inl ⟨_, rfl⟩) hlk hh dJx4a65c_get_915e3_14 (Nat.le_of_ble_eq_true rfl) (Nat.le_of_ble_eq_true rfl) ⟨rfl, rfl, rfl⟩

set_option maxRecDepth 100000 in
set_option maxHeartbeats 4000000 in
theorem c_newLen {l : Launch} {κ : Kx} {L : List Nat} {f : Nat → va_E} {a0 b0 c0 : Nat} {x y z : Int32} (hx0 : x = nI a0) (hy0 : y = nI b0) (hz0 : z = nI c0) (hb0 : 0 < b0) (hab : a0 + b0 ≤ 2000) (hac : a0 + c0 ≤ 2000) : PM l κ yJ8_newLength_cabcc wsJ8_newLength_cabcc ({ frames := 1, cells := 0, slots := 0, locals := 14 } : Room) [.int x, .int y, .int z] L f (fun v L1 f1 => v = some (.int (nI (a0 + max b0 c0))) ∧ L = L1 ∧ f = f1) noX 0 0 := by
  refine PM.mk (cc := cJ8_newLength_cabcc) (maxL := 4) (ret := (some .int)) (by decide) rfl (Nat.le_of_ble_eq_true rfl) ?_
  intro p e s m args below meth c ls hx hb hml hr hlk hnm hown hts ht hh hl
  have hl : lv_has ls 4 [(0, .int x), (1, .int y), (2, .int z)] := hl
  have S : CallFix p m c cJ8_newLength_cabcc 4 s args wsJ8_newLength_cabcc RJ8 := ⟨hx, hb, hml, hown, hts⟩
  have hmb : a0 + max b0 c0 ≤ 2000 := by omega
  refine lv_iload_n hx hb dJ8_newLength_cabcc_0 rfl (lv_at hl 0 rfl) ?_
  refine lv_iload_n hx hb dJ8_newLength_cabcc_1 rfl (lv_at hl 1 rfl) ?_
  refine lv_iload_n hx hb dJ8_newLength_cabcc_2 rfl (lv_at hl 2 rfl) ?_
  refine va_mmax hx hb (hml.trans hl.1.symm) hown (hts (.methodLink RJ8 194 Lib.Math.max.name) (by decide +kernel)) (hts (.static Lib.Math.max.name) (by decide +kernel)) (hts (.initialized "java/lang/Math") (by decide +kernel)) (hts (.code Lib.Math.max.name Lib.Math.max.code 2 (some .int)) (by decide +kernel)) (Nat.le_of_ble_eq_true rfl) (Nat.le_of_ble_eq_true rfl) (Nat.le_of_ble_eq_true rfl) (Nat.le_of_ble_eq_true rfl) dJ8_newLength_cabcc_3 ?_
  refine lv_iadd hx hb dJ8_newLength_cabcc_6 ?_
  refine lv_topi (fun x7 e7 => ?_)
  refine lv_istore_n (lv' := [(3, .int x7), (0, .int x), (1, .int y), (2, .int z)]) hx hb dJ8_newLength_cabcc_7 rfl hl (by decide) rfl (fun ls hl => ?_)
  subst hx0; subst hy0; subst hz0
  have e7b : x7 = nI (a0 + max b0 c0) := by
    rw [e7]
    by_cases q : nI b0 < nI c0
    · rw [if_pos q, nI_add, Nat.max_eq_right (Nat.le_of_lt ((nI_ltI (by omega) (by omega)).mp q))]
    · rw [if_neg q, nI_add, Nat.max_eq_left (Nat.le_of_not_lt (fun q2 => q ((nI_ltI (by omega) (by omega)).mpr q2)))]
  refine lv_iconst (v := 0) hx hb dJ8_newLength_cabcc_8 (by decide) ?_
  refine lv_iload_n hx hb dJ8_newLength_cabcc_9 rfl (lv_at hl 0 rfl) ?_
  refine lv_icmp_ge (tgt := 21) hx hb dJ8_newLength_cabcc_10 (by decide) (fun c10 => ?_) (fun c10 => ?_)
  · exact absurd (e7b ▸ c10) (nI_nle (by omega) (by omega))
  · refine lv_iload_n hx hb dJ8_newLength_cabcc_13 rfl (lv_at hl 0 rfl) ?_
    refine lv_ldc hx hb hown (v := 2147483639) (hts (.constant RJ8 200 2147483639) (by decide +kernel)) dJ8_newLength_cabcc_14 ?_
    refine lv_icmp_gt (tgt := 21) hx hb dJ8_newLength_cabcc_16 (by decide) (fun c16 => ?_) (fun c16 => ?_)
    · rw [e7b, Int32.lt_iff_toInt_lt, nI_toInt (by omega)] at c16
      have e0 : (2147483639 : Int32).toInt = 2147483639 := rfl
      omega
    · refine lv_iload_n hx hb dJ8_newLength_cabcc_19 rfl (lv_at hl 0 rfl) ?_
      subst e7
      exact k_iret hx hb hr hlk hh dJ8_newLength_cabcc_20 (Nat.le_of_ble_eq_true rfl) (Nat.le_of_ble_eq_true rfl) ⟨congrArg (fun r => some (Value.int r)) e7b, rfl, rfl⟩
