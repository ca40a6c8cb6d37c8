section RC
variable {p : Program} {l : Launch} {e : Env} {s : State} {H : Heap} {locs : List Loc} {κ : Kx} {L : List Nat} {f : Nat → va_E}
theorem HH.rowCls (hh : HH κ L f s H locs) {a n : Nat} {g : Nat → Option Nat} (ha : a ∈ L) (hf : f a = rowE κ n g) : ∃ cell : Cell, H[a]? = some cell ∧ cell.vm.isStatics = false ∧ s.vm.findClass "[Ljava/lang/Object;" = some cell.cls := by
  obtain ⟨q0, -, he⟩ := hh.pos ha hf
  have h1 : H[a]? = some (arrV (kO κ) n (fun j => va_rf (g j))) := hh.2.1 q0 _ he
  obtain ⟨k2, c2, -, -, -, e2⟩ := (hh.1.2 1 (kO κ, .object "java/lang/Object") rfl).2
  exact ⟨_, h1, rfl, e2⟩
end RC

set_option maxRecDepth 100000 in
set_option maxHeartbeats 4000000 in
theorem c_copy3 {l : Launch} {κ : Kx} {L : List Nat} {f : Nat → va_E} {ea cap m9 : Nat} {g : Nat → Option Nat} {x : Int32} (hR : RO κ L f ea cap g) (hx9 : x = nI m9) (hm9 : cap ≤ m9) (hm15 : m9 ≤ 1500) : PM l κ yJ7_copyOf_6403c wsJ7_copyOf_6403c ({ frames := 1, cells := 1, slots := 1500, locals := 20 } : Room) [.ref ea, .int x, .ref (kMI κ)] L f (fun v L1 f1 => ∃ q, q ∉ L ∧ v = some (.ref q) ∧ L1 = L ++ [q] ∧ f1 q = rowE κ m9 (va_cpy g (fun _ => none) 0 0 cap) ∧ ∀ y, y ≠ q → f1 y = f y) noX 1 1500 := by
  refine PM.mk (cc := cJ7_copyOf_6403c) (maxL := 4) (ret := (some (.array (.object "java/lang/Object")))) (by decide) rfl (Nat.le_of_ble_eq_true rfl) ?_
  intro p e s m args below meth c ls hx hb hml hr hlk hnm hown hts ht hh hl
  have hl : lv_has ls 4 [(0, .ref ea), (1, .int x), (2, .ref (kMI κ))] := hl
  have S : CallFix p m c cJ7_copyOf_6403c 4 s args wsJ7_copyOf_6403c RJ7 := ⟨hx, hb, hml, hown, hts⟩
  refine lv_aload_n hx hb dJ7_copyOf_6403c_0 rfl (lv_at hl 2 rfl) ?_
  refine va_ldcM hx hb hown (hts (.classLink RJ7 110 "[Ljava/lang/Object;") (by decide +kernel)) hh.2.2.2.2.2.2.2.1.1 dJ7_copyOf_6403c_1 ?_
  refine lv_acmp_ne (rx := some (kMI κ)) (ry := some (kMI κ)) (tgt := 13) hx hb dJ7_copyOf_6403c_3 (by decide) (fun c => absurd rfl c) (fun _ => ?_)
  refine lv_iload_n hx hb dJ7_copyOf_6403c_6 rfl (lv_at hl 1 rfl) ?_
  refine h_newq hx hb hown hh (hts (.classLink RJ7 2 "java/lang/Object") (by decide +kernel)) (N' := m9) (by rw [hx9]; exact nI_pos (by omega)) (by rw [hx9]; exact nI_clamp (by omega)) (by omega) (Nat.le_of_ble_eq_true rfl) (by show 0 + m9 ≤ 1500; omega) dJ7_copyOf_6403c_7 (fun q H hq hh => ?_)
  refine W.widen (k := 1) (n := 1500) (by omega) (by omega) ?_
  have heq : ea ≠ q := fun z => hq (z ▸ hR.1)
  have hEq : ea ∈ L ++ [q] := List.mem_append_left _ hR.1
  have hRq : va_up f q (rowE κ m9 (fun _ => none)) ea = rowE κ cap g := by rw [← hR.2.1]; simp [va_up, heq]
  have hQq : va_up f q (rowE κ m9 (fun _ => none)) q = rowE κ m9 (fun _ => none) := by simp [va_up]
  refine lv_goto (tgt := 24) hx hb dJ7_copyOf_6403c_10 (by decide) ?_
  refine lv_astore_n (lv' := [(3, .ref q), (0, .ref ea), (1, .int x), (2, .ref (kMI κ))]) hx hb dJ7_copyOf_6403c_24 rfl hl (by decide) rfl (fun ls hl => ?_)
  refine lv_aload_n hx hb dJ7_copyOf_6403c_25 rfl (lv_at hl 1 rfl) ?_
  refine lv_iconst (v := 0) hx hb dJ7_copyOf_6403c_26 (by decide) ?_
  refine lv_aload_n hx hb dJ7_copyOf_6403c_27 rfl (lv_at hl 0 rfl) ?_
  refine lv_iconst (v := 0) hx hb dJ7_copyOf_6403c_28 (by decide) ?_
  refine lv_aload_n hx hb dJ7_copyOf_6403c_29 rfl (lv_at hl 1 rfl) ?_
  refine h_alen hx hb hh hEq hRq dJ7_copyOf_6403c_30 ?_
  refine lv_iload_n hx hb dJ7_copyOf_6403c_31 rfl (lv_at hl 2 rfl) ?_
  refine va_mmin hx hb (hml.trans hl.1.symm) hown (hts (.methodLink RJ7 304 Lib.Math.min.name) (by decide +kernel)) (hts (.static Lib.Math.min.name) (by decide +kernel)) (hts (.initialized "java/lang/Math") (by decide +kernel)) (hts (.code Lib.Math.min.name Lib.Math.min.code 2 (some .int)) (by decide +kernel)) (Nat.le_of_ble_eq_true rfl) (Nat.le_of_ble_eq_true rfl) (Nat.le_of_ble_eq_true rfl) (Nat.le_of_ble_eq_true rfl) dJ7_copyOf_6403c_32 ?_
  refine h_copy hx hb (hml.trans hl.1.symm) hown hts (by decide +kernel) (by decide +kernel) (by decide +kernel) (by decide +kernel) hh hEq hRq (List.mem_append_right _ List.mem_cons_self) hQq 0 0 cap rfl rfl (by rw [hx9]; by_cases z : nI m9 < nI cap <;> simp only [z, if_true, if_false]; exact absurd z (nI_nlt hm9 (by omega))) (by omega) (by omega) ⟨by have := hR.2.2.1.2; omega, by omega⟩ (fun t y ht hy => (hR.push hq).2.2.2 t y ht (by rw [Nat.zero_add] at hy; exact hy)) (Nat.le_of_ble_eq_true rfl) (Nat.le_of_ble_eq_true rfl) dJ7_copyOf_6403c_35 (fun H locs hh => ?_)
  refine lv_aload_n hx hb dJ7_copyOf_6403c_38 rfl (lv_at hl 0 rfl) ?_
  exact k_aret hx hb hr (Or.inr ⟨_, rfl⟩) hlk hh dJ7_copyOf_6403c_39 (Nat.le_of_ble_eq_true rfl) (Nat.le_of_ble_eq_true rfl) ⟨q, hq, rfl, rfl, by simp [va_up], fun y hy => by simp [va_up, hy]⟩

set_option maxRecDepth 100000 in
set_option maxHeartbeats 4000000 in
theorem c_copy2 {l : Launch} {κ : Kx} {L : List Nat} {f : Nat → va_E} {ea cap m9 : Nat} {g : Nat → Option Nat} {x : Int32} (hR : RO κ L f ea cap g) (hx9 : x = nI m9) (hm9 : cap ≤ m9) (hm15 : m9 ≤ 1500) : PM l κ yJ7_copyOf_1904c wsJ7_copyOf_1904c ({ frames := 2, cells := 1, slots := 1500, locals := 43 } : Room) [.ref ea, .int x] L f (fun v L1 f1 => ∃ q, q ∉ L ∧ v = some (.ref q) ∧ L1 = L ++ [q] ∧ f1 q = rowE κ m9 (va_cpy g (fun _ => none) 0 0 cap) ∧ ∀ y, y ≠ q → f1 y = f y) noX 1 1500 := by
  refine PM.mk (cc := cJ7_copyOf_1904c) (maxL := 2) (ret := (some (.array (.object "java/lang/Object")))) (by decide) rfl (Nat.le_of_ble_eq_true rfl) ?_
  intro p e s m args below meth c ls hx hb hml hr hlk hnm hown hts ht hh hl
  have hl : lv_has ls 2 [(0, .ref ea), (1, .int x)] := hl
  have S : CallFix p m c cJ7_copyOf_1904c 2 s args wsJ7_copyOf_1904c RJ7 := ⟨hx, hb, hml, hown, hts⟩
  refine lv_aload_n hx hb dJ7_copyOf_1904c_0 rfl (lv_at hl 0 rfl) ?_
  refine lv_iload_n hx hb dJ7_copyOf_1904c_1 rfl (lv_at hl 1 rfl) ?_
  refine lv_aload_n hx hb dJ7_copyOf_1904c_2 rfl (lv_at hl 0 rfl) ?_
  refine va_getC hx hb (hml.trans hl.1.symm) hown (C := "[Ljava/lang/Object;") (hts (.methodLink RJ7 86 ⟨"java/lang/Object", "getClass", "()Ljava/lang/Class;"⟩) (by decide +kernel)) (va_Dc.use hh.2.2.2.2.2.2.2.1.2.1) (hts (.selects "[Ljava/lang/Object;" ⟨"java/lang/Object", "getClass", "()Ljava/lang/Class;"⟩ ⟨"java/lang/Object", "getClass", "()Ljava/lang/Class;"⟩) (by decide +kernel)) (hts (.instanceMethod ⟨"java/lang/Object", "getClass", "()Ljava/lang/Class;"⟩) (by decide +kernel)) (hts (.native ⟨"java/lang/Object", "getClass", "()Ljava/lang/Class;"⟩) (by decide +kernel)) hh.2.2.2.2.2.2.2.1.1 (hh.rowCls hR.1 hR.2.1) (Nat.le_of_ble_eq_true rfl) (Nat.le_of_ble_eq_true rfl) dJ7_copyOf_1904c_3 ?_
  refine k_callS0 (As := [.ref ea, .int x, .ref (kMI κ)]) (c_copy3 hR hx9 hm9 hm15) S hh (va_cwS 3 hts gJ7_copyOf_1904c_J7_copyOf_6403c rfl rfl rfl (by decide +kernel) ⟨(Nat.le_of_ble_eq_true rfl), (Nat.le_of_ble_eq_true rfl)⟩) rfl hl.1 rfl (Nat.le_of_ble_eq_true rfl) dJ7_copyOf_1904c_6 ⟨(Nat.le_of_ble_eq_true rfl), (Nat.le_of_ble_eq_true rfl)⟩ (fun v L1 f1 H locs hp hh => ?_)
  obtain ⟨q, hq, rfl, rfl, hq1, hq2⟩ := hp
  exact k_aret hx hb hr (Or.inr ⟨_, rfl⟩) hlk hh dJ7_copyOf_1904c_9 (Nat.le_of_ble_eq_true rfl) (Nat.le_of_ble_eq_true rfl) ⟨q, hq, rfl, rfl, hq1, hq2⟩

set_option maxRecDepth 100000 in
set_option maxHeartbeats 4000000 in
theorem c_growE {l : Launch} {κ : Kx} {L : List Nat} {f : Nat → va_E} {ℓ : Nat} {mc : Int32} {n : Nat} {x : Int32} (hL : ℓ ∈ L) (hF : f ℓ = lC mc (kTE κ) (nI n)) (hx9 : x = nI 1) : PM l κ yJx4a65c_grow_92f84 wsJx4a65c_grow_92f84 ({ frames := 3, cells := 1, slots := 1500, locals := 90 } : Room) [.ref ℓ, .int x] L f (fun v L1 f1 => ∃ q, q ∉ L ∧ v = some (.ref q) ∧ L1 = L ++ [q] ∧ f1 q = rowE κ 10 (fun _ => none) ∧ f1 ℓ = lC mc q (nI n) ∧ ∀ y, y ≠ q → y ≠ ℓ → f1 y = f y) noX 1 1500 := by
  refine PM.mk (cc := cJx4a65c_grow_92f84) (maxL := 4) (ret := (some (.array (.object "java/lang/Object")))) (by decide) rfl (Nat.le_of_ble_eq_true rfl) ?_
  intro p e s m args below meth c ls hx hb hml hr hlk hnm hown hts ht hh hl
  have hl : lv_has ls 4 [(0, .ref ℓ), (1, .int x)] := hl
  have S : CallFix p m c cJx4a65c_grow_92f84 4 s args wsJx4a65c_grow_92f84 RJx4a65c := ⟨hx, hb, hml, hown, hts⟩
  have hin : ∀ w ∈ wsJx4a65c0, w ∈ wsJx4a65c_grow_92f84 := by decide +kernel
  refine lv_aload_n hx hb dJx4a65c_grow_92f84_0 rfl (lv_at hl 0 rfl) ?_
  refine h_get hx hb hts hown hh (C := RJx4a65c) (T := TJx4a65c) (N := 3) hL hF rfl hin 1 (by decide) (hts (.fieldLink RJx4a65c 9 "java/util/ArrayList" "elementData" "[Ljava/lang/Object;") (by decide +kernel)) (fun _ h9 => h9) rfl dJx4a65c_grow_92f84_1 ?_
  refine h_alenE hx hb hh dJx4a65c_grow_92f84_4 ?_
  refine lv_istore_n (lv' := [(2, .int 0), (0, .ref ℓ), (1, .int x)]) hx hb dJx4a65c_grow_92f84_5 rfl hl (by decide) rfl (fun ls hl => ?_)
  refine lv_iload_n hx hb dJx4a65c_grow_92f84_6 rfl (lv_at hl 0 rfl) ?_
  refine lv_if_gt (tgt := 20) hx hb dJx4a65c_grow_92f84_7 (by decide) (fun c7 => ?_) (fun c7 => ?_)
  · exact absurd c7 (by decide)
  · refine lv_aload_n hx hb dJx4a65c_grow_92f84_10 rfl (lv_at hl 1 rfl) ?_
    refine h_get hx hb hts hown hh (C := RJx4a65c) (T := TJx4a65c) (N := 3) hL hF rfl hin 1 (by decide) (hts (.fieldLink RJx4a65c 9 "java/util/ArrayList" "elementData" "[Ljava/lang/Object;") (by decide +kernel)) (fun _ h9 => h9) rfl dJx4a65c_grow_92f84_11 ?_
    refine va_gets hx hb hh.2.2.2.2.2.2.1.1 hh.2.2.2.1 hown (hts (.fieldLink RJx4a65c 39 "java/util/ArrayList" "DEFAULTCAPACITY_EMPTY_ELEMENTDATA" "[Ljava/lang/Object;") (by decide +kernel)) (fun _ h9 => h9) dJx4a65c_grow_92f84_14 ?_
    refine lv_acmp_eq (rx := some (kTE κ)) (ry := some (kTE κ)) (tgt := 45) hx hb dJx4a65c_grow_92f84_17 (by decide) (fun _ => ?_) (fun c => absurd rfl c)
    refine lv_aload_n hx hb dJx4a65c_grow_92f84_45 rfl (lv_at hl 1 rfl) ?_
    refine lv_bipush (v := 10) hx hb dJx4a65c_grow_92f84_46 (by decide) ?_
    refine lv_iload_n hx hb dJx4a65c_grow_92f84_48 rfl (lv_at hl 2 rfl) ?_
    refine va_mmax hx hb (hml.trans hl.1.symm) hown (hts (.methodLink RJx4a65c 79 Lib.Math.max.name) (by decide +kernel)) (hts (.static Lib.Math.max.name) (by decide +kernel)) (hts (.initialized "java/lang/Math") (by decide +kernel)) (hts (.code Lib.Math.max.name Lib.Math.max.code 2 (some .int)) (by decide +kernel)) (Nat.le_of_ble_eq_true rfl) (Nat.le_of_ble_eq_true rfl) (Nat.le_of_ble_eq_true rfl) (Nat.le_of_ble_eq_true rfl) dJx4a65c_grow_92f84_49 ?_
    refine h_newq hx hb hown hh (hts (.classLink RJx4a65c 7 "java/lang/Object") (by decide +kernel)) (N' := 10) (by rw [hx9]; decide) (by rw [hx9]; decide) (by omega) (Nat.le_of_ble_eq_true rfl) (Nat.le_of_ble_eq_true rfl) dJx4a65c_grow_92f84_52 (fun q H hq hh => ?_)
    have hlq : ℓ ≠ q := fun z => hq (z ▸ hL)
    have hFq : va_up f q (rowE κ 10 (fun _ => none)) ℓ = lC mc (kTE κ) (nI n) := by rw [← hF]; simp [va_up, hlq]
    refine lv_dup_x1 hx hb dJx4a65c_grow_92f84_55 rfl rfl ?_
    refine h_put hx hb hts hown hh (C := RJx4a65c) (T := TJx4a65c) (N := 3) (List.mem_append_left _ hL) hFq rfl hin tyJx4a65c tyJx4a65c_ok nmJx4a65c 1 (by decide) (hts (.fieldLink RJx4a65c 9 "java/util/ArrayList" "elementData" "[Ljava/lang/Object;") (by decide +kernel)) (fun _ h9 => h9) rfl (ty := .array (.object "java/lang/Object")) rfl rfl rfl (by simp) dJx4a65c_grow_92f84_56 (fun H locs hh => ?_)
    exact k_aret hx hb hr (Or.inr ⟨_, rfl⟩) hlk hh dJx4a65c_grow_92f84_59 (Nat.le_of_ble_eq_true rfl) (Nat.le_of_ble_eq_true rfl) ⟨q, hq, rfl, rfl, by simp [va_up, hlq.symm], by simp [va_up], fun y hy hy2 => by simp [va_up, hy, hy2]⟩

set_option maxRecDepth 100000 in
set_option maxHeartbeats 4000000 in
theorem c_growR {l : Launch} {κ : Kx} {L : List Nat} {f : Nat → va_E} {ℓ ea cap : Nat} {g : Nat → Option Nat} {mc : Int32} {n : Nat} {x : Int32} (hL : ℓ ∈ L) (hF : f ℓ = lC mc ea (nI n)) (hR : RO κ L f ea cap g) (hx9 : x = nI (cap + 1)) (hc9 : cap ≤ 600) : PM l κ yJx4a65c_grow_92f84 wsJx4a65c_grow_92f84 ({ frames := 3, cells := 1, slots := 1500, locals := 90 } : Room) [.ref ℓ, .int x] L f (fun v L1 f1 => ∃ q, q ∉ L ∧ v = some (.ref q) ∧ L1 = L ++ [q] ∧ f1 q = rowE κ (cap + max 1 (cap / 2)) (va_cpy g (fun _ => none) 0 0 cap) ∧ f1 ℓ = lC mc q (nI n) ∧ ∀ y, y ≠ q → y ≠ ℓ → f1 y = f y) noX 1 1500 := by
  refine PM.mk (cc := cJx4a65c_grow_92f84) (maxL := 4) (ret := (some (.array (.object "java/lang/Object")))) (by decide) rfl (Nat.le_of_ble_eq_true rfl) ?_
  intro p e s m args below meth c ls hx hb hml hr hlk hnm hown hts ht hh hl
  have hl : lv_has ls 4 [(0, .ref ℓ), (1, .int x)] := hl
  have S : CallFix p m c cJx4a65c_grow_92f84 4 s args wsJx4a65c_grow_92f84 RJx4a65c := ⟨hx, hb, hml, hown, hts⟩
  have hin : ∀ w ∈ wsJx4a65c0, w ∈ wsJx4a65c_grow_92f84 := by decide +kernel
  refine lv_aload_n hx hb dJx4a65c_grow_92f84_0 rfl (lv_at hl 0 rfl) ?_
  refine h_get hx hb hts hown hh (C := RJx4a65c) (T := TJx4a65c) (N := 3) hL hF rfl hin 1 (by decide) (hts (.fieldLink RJx4a65c 9 "java/util/ArrayList" "elementData" "[Ljava/lang/Object;") (by decide +kernel)) (fun _ h9 => h9) rfl dJx4a65c_grow_92f84_1 ?_
  refine h_alen hx hb hh hR.1 hR.2.1 dJx4a65c_grow_92f84_4 ?_
  refine lv_istore_n (lv' := [(2, .int (nI cap)), (0, .ref ℓ), (1, .int x)]) hx hb dJx4a65c_grow_92f84_5 rfl hl (by decide) rfl (fun ls hl => ?_)
  refine lv_iload_n hx hb dJx4a65c_grow_92f84_6 rfl (lv_at hl 0 rfl) ?_
  refine lv_if_gt (tgt := 20) hx hb dJx4a65c_grow_92f84_7 (by decide) (fun c7 => ?_) (fun c7 => ?_)
  · refine lv_iload_n hx hb dJx4a65c_grow_92f84_20 rfl (lv_at hl 0 rfl) ?_
    refine lv_iload_n hx hb dJx4a65c_grow_92f84_21 rfl (lv_at hl 2 rfl) ?_
    refine lv_iload_n hx hb dJx4a65c_grow_92f84_22 rfl (lv_at hl 0 rfl) ?_
    refine lv_isub hx hb dJx4a65c_grow_92f84_23 ?_
    refine lv_iload_n hx hb dJx4a65c_grow_92f84_24 rfl (lv_at hl 0 rfl) ?_
    refine lv_iconst (v := 1) hx hb dJx4a65c_grow_92f84_25 (by decide) ?_
    refine lv_ishr hx hb dJx4a65c_grow_92f84_26 ?_
    refine k_callS0 (As := [.int (nI cap), .int (x - (nI cap)), .int ((nI cap) >>> (1 &&& 31))]) (c_newLen (a0 := cap) (b0 := 1) (c0 := cap / 2) rfl (show x - nI cap = nI 1 by rw [hx9, pk_sub (by omega)]; congr 1; omega) (show nI cap >>> ((1 : Int32) &&& 31) = nI (cap / 2) from pk_shrN (by omega) _ 1 (by decide)) (by omega) (by omega) (by omega)) S hh (va_cwS 3 hts gJx4a65c_grow_92f84_J8_newLength_cabcc rfl rfl rfl (by decide +kernel) ⟨(Nat.le_of_ble_eq_true rfl), (Nat.le_of_ble_eq_true rfl)⟩) rfl hl.1 rfl (Nat.le_of_ble_eq_true rfl) dJx4a65c_grow_92f84_27 ⟨(Nat.le_of_ble_eq_true rfl), (Nat.le_of_ble_eq_true rfl)⟩ (fun v L1 f1 H locs hp hh => ?_)
    obtain ⟨rfl, hL1, hf1⟩ := hp
    subst hL1; subst hf1
    refine lv_topi (fun x30 e30 => ?_)
    refine lv_istore_n (lv' := [(3, .int x30), (2, .int (nI cap)), (0, .ref ℓ), (1, .int x)]) hx hb dJx4a65c_grow_92f84_30 rfl hl (by decide) rfl (fun ls hl => ?_)
    refine lv_aload_n hx hb dJx4a65c_grow_92f84_31 rfl (lv_at hl 2 rfl) ?_
    refine lv_aload_n hx hb dJx4a65c_grow_92f84_32 rfl (lv_at hl 2 rfl) ?_
    refine h_get hx hb hts hown hh (C := RJx4a65c) (T := TJx4a65c) (N := 3) hL hF rfl hin 1 (by decide) (hts (.fieldLink RJx4a65c 9 "java/util/ArrayList" "elementData" "[Ljava/lang/Object;") (by decide +kernel)) (fun _ h9 => h9) rfl dJx4a65c_grow_92f84_33 ?_
    refine lv_iload_n hx hb dJx4a65c_grow_92f84_36 rfl (lv_at hl 0 rfl) ?_
    refine k_callS0 (As := [.ref ea, .int x30]) (c_copy2 hR e30 (by omega) (by omega)) S hh (va_cwS 2 hts gJx4a65c_grow_92f84_J7_copyOf_1904c rfl rfl rfl (by decide +kernel) ⟨(Nat.le_of_ble_eq_true rfl), (Nat.le_of_ble_eq_true rfl)⟩) rfl hl.1 rfl (Nat.le_of_ble_eq_true rfl) dJx4a65c_grow_92f84_37 ⟨(Nat.le_of_ble_eq_true rfl), (Nat.le_of_ble_eq_true rfl)⟩ (fun v L1 f1 H locs hp hh => ?_)
    obtain ⟨q, hq, rfl, rfl, hq1, hq2⟩ := hp
    have hlq : ℓ ≠ q := fun z => hq (z ▸ hL)
    have hFq : f1 ℓ = lC mc ea (nI n) := by rw [← hF]; exact hq2 ℓ hlq
    refine lv_dup_x1 hx hb dJx4a65c_grow_92f84_40 rfl rfl ?_
    refine h_put hx hb hts hown hh (C := RJx4a65c) (T := TJx4a65c) (N := 3) (List.mem_append_left _ hL) hFq rfl hin tyJx4a65c tyJx4a65c_ok nmJx4a65c 1 (by decide) (hts (.fieldLink RJx4a65c 9 "java/util/ArrayList" "elementData" "[Ljava/lang/Object;") (by decide +kernel)) (fun _ h9 => h9) rfl (ty := .array (.object "java/lang/Object")) rfl rfl rfl (by simp) dJx4a65c_grow_92f84_41 (fun H locs hh => ?_)
    subst e30
    exact k_aret hx hb hr (Or.inr ⟨_, rfl⟩) hlk hh dJx4a65c_grow_92f84_44 (Nat.le_of_ble_eq_true rfl) (Nat.le_of_ble_eq_true rfl) ⟨q, hq, rfl, rfl, by simp [va_up, hlq.symm, hq1], by simp [va_up], fun y hy hy2 => by simp [va_up, hy2, hq2 y hy]⟩
  · exact absurd (nI_lt (a := 0) (b := cap) (by have := hR.2.2.1.1; omega) (by omega)) c7

set_option maxRecDepth 100000 in
set_option maxHeartbeats 4000000 in
theorem c_grow0E {l : Launch} {κ : Kx} {L : List Nat} {f : Nat → va_E} {n : Nat} {ℓ : Nat} {mc : Int32} (hL : ℓ ∈ L) (hF : f ℓ = lC mc (kTE κ) (nI n)) (hn0 : n = 0) : PM l κ yJx4a65c_grow_d5877 wsJx4a65c_grow_d5877 ({ frames := 4, cells := 1, slots := 1500, locals := 113 } : Room) [.ref ℓ] L f (fun v L1 f1 => ∃ q, q ∉ L ∧ v = some (.ref q) ∧ L1 = L ++ [q] ∧ f1 q = rowE κ 10 (fun _ => none) ∧ f1 ℓ = lC mc q (nI n) ∧ ∀ y, y ≠ q → y ≠ ℓ → f1 y = f y) noX 1 1500 := by
  refine PM.mk (cc := cJx4a65c_grow_d5877) (maxL := 1) (ret := (some (.array (.object "java/lang/Object")))) (by decide) rfl (Nat.le_of_ble_eq_true rfl) ?_
  intro p e s m args below meth c ls hx hb hml hr hlk hnm hown hts ht hh hl
  have hl : lv_has ls 1 [(0, .ref ℓ)] := hl
  have S : CallFix p m c cJx4a65c_grow_d5877 1 s args wsJx4a65c_grow_d5877 RJx4a65c := ⟨hx, hb, hml, hown, hts⟩
  have hin : ∀ w ∈ wsJx4a65c0, w ∈ wsJx4a65c_grow_d5877 := by decide +kernel
  refine lv_aload_n hx hb dJx4a65c_grow_d5877_0 rfl (lv_at hl 0 rfl) ?_
  refine lv_aload_n hx hb dJx4a65c_grow_d5877_1 rfl (lv_at hl 0 rfl) ?_
  refine h_get hx hb hts hown hh (C := RJx4a65c) (T := TJx4a65c) (N := 3) hL hF rfl hin 2 (by decide) (hts (.fieldLink RJx4a65c 48 "java/util/ArrayList" "size" "I") (by decide +kernel)) (fun _ h9 => h9) rfl dJx4a65c_grow_d5877_2 ?_
  refine lv_iconst (v := 1) hx hb dJx4a65c_grow_d5877_5 (by decide) ?_
  refine lv_iadd hx hb dJx4a65c_grow_d5877_6 ?_
  refine k_callV0 (As := [.int ((nI n) + 1)]) (c_growE hL hF (by rw [hn0]; rfl)) S hh (cwV 1 hts gJx4a65c_grow_d5877_Jx4a65c_grow_92f84 rfl rfl rfl (by decide +kernel) ⟨(Nat.le_of_ble_eq_true rfl), (Nat.le_of_ble_eq_true rfl)⟩) hL hF (q := (RJx4a65c, TJx4a65c, 3)) rfl rfl rfl hl.1 rfl (Nat.le_of_ble_eq_true rfl) dJx4a65c_grow_d5877_7 ⟨(Nat.le_of_ble_eq_true rfl), (Nat.le_of_ble_eq_true rfl)⟩ (fun v L1 f1 H locs hp hh => ?_)
  obtain ⟨q, hq, rfl, rfl, hq1, hq2, hq3⟩ := hp
  exact k_aret hx hb hr (Or.inr ⟨_, rfl⟩) hlk hh dJx4a65c_grow_d5877_10 (Nat.le_of_ble_eq_true rfl) (Nat.le_of_ble_eq_true rfl) ⟨q, hq, rfl, rfl, hq1, hq2, hq3⟩

set_option maxRecDepth 100000 in
set_option maxHeartbeats 4000000 in
theorem c_grow0R {l : Launch} {κ : Kx} {L : List Nat} {f : Nat → va_E} {n : Nat} {ℓ ea cap : Nat} {g : Nat → Option Nat} {mc : Int32} (hL : ℓ ∈ L) (hF : f ℓ = lC mc ea (nI n)) (hR : RO κ L f ea cap g) (hnc : n = cap) (hc9 : cap ≤ 600) : PM l κ yJx4a65c_grow_d5877 wsJx4a65c_grow_d5877 ({ frames := 4, cells := 1, slots := 1500, locals := 113 } : Room) [.ref ℓ] L f (fun v L1 f1 => ∃ q, q ∉ L ∧ v = some (.ref q) ∧ L1 = L ++ [q] ∧ f1 q = rowE κ (cap + max 1 (cap / 2)) (va_cpy g (fun _ => none) 0 0 cap) ∧ f1 ℓ = lC mc q (nI n) ∧ ∀ y, y ≠ q → y ≠ ℓ → f1 y = f y) noX 1 1500 := by
  refine PM.mk (cc := cJx4a65c_grow_d5877) (maxL := 1) (ret := (some (.array (.object "java/lang/Object")))) (by decide) rfl (Nat.le_of_ble_eq_true rfl) ?_
  intro p e s m args below meth c ls hx hb hml hr hlk hnm hown hts ht hh hl
  have hl : lv_has ls 1 [(0, .ref ℓ)] := hl
  have S : CallFix p m c cJx4a65c_grow_d5877 1 s args wsJx4a65c_grow_d5877 RJx4a65c := ⟨hx, hb, hml, hown, hts⟩
  have hin : ∀ w ∈ wsJx4a65c0, w ∈ wsJx4a65c_grow_d5877 := by decide +kernel
  refine lv_aload_n hx hb dJx4a65c_grow_d5877_0 rfl (lv_at hl 0 rfl) ?_
  refine lv_aload_n hx hb dJx4a65c_grow_d5877_1 rfl (lv_at hl 0 rfl) ?_
  refine h_get hx hb hts hown hh (C := RJx4a65c) (T := TJx4a65c) (N := 3) hL hF rfl hin 2 (by decide) (hts (.fieldLink RJx4a65c 48 "java/util/ArrayList" "size" "I") (by decide +kernel)) (fun _ h9 => h9) rfl dJx4a65c_grow_d5877_2 ?_
  refine lv_iconst (v := 1) hx hb dJx4a65c_grow_d5877_5 (by decide) ?_
  refine lv_iadd hx hb dJx4a65c_grow_d5877_6 ?_
  refine k_callV0 (As := [.int ((nI n) + 1)]) (c_growR hL hF hR (by rw [nI_1, hnc]) hc9) S hh (cwV 1 hts gJx4a65c_grow_d5877_Jx4a65c_grow_92f84 rfl rfl rfl (by decide +kernel) ⟨(Nat.le_of_ble_eq_true rfl), (Nat.le_of_ble_eq_true rfl)⟩) hL hF (q := (RJx4a65c, TJx4a65c, 3)) rfl rfl rfl hl.1 rfl (Nat.le_of_ble_eq_true rfl) dJx4a65c_grow_d5877_7 ⟨(Nat.le_of_ble_eq_true rfl), (Nat.le_of_ble_eq_true rfl)⟩ (fun v L1 f1 H locs hp hh => ?_)
  obtain ⟨q, hq, rfl, rfl, hq1, hq2, hq3⟩ := hp
  exact k_aret hx hb hr (Or.inr ⟨_, rfl⟩) hlk hh dJx4a65c_grow_d5877_10 (Nat.le_of_ble_eq_true rfl) (Nat.le_of_ble_eq_true rfl) ⟨q, hq, rfl, rfl, hq1, hq2, hq3⟩
