theorem cpy_eq {g : Nat → Option Nat} {cap i : Nat} (hi : i < cap) : va_cpy g (fun _ => none) 0 0 cap i = g i := by simp [va_cpy, hi]
theorem cpy_el {g : Nat → Option Nat} {cap : Nat} {P : Nat → Prop} (h : ∀ i y, i < cap → g i = some y → P y) : ∀ i y, va_cpy g (fun _ => none) 0 0 cap i = some y → P y := by
  intro i y hy
  by_cases hi : i < cap
  · rw [cpy_eq hi] at hy
    exact h i y hi hy
  · rw [show va_cpy g (fun _ => none) 0 0 cap i = none by simp [va_cpy, hi]] at hy
    cases hy
theorem nEl {κ : Kx} {f : Nat → va_E} {lo w : Nat} {mc : Int32} {e : Nat} {n : Int32} (hF : f lo = lC mc e n) (hE : isEl (f w)) : w ≠ lo := fun z => by
  rw [z, hF] at hE
  exact isEl_n0 hE
theorem addP_grow {κ : Kx} {L : List Nat} {f f3 : Nat → va_E} {lo ea n w q cap2 : Nat} {mc : Int32} {el : Nat → Nat} {g2 : Nat → Option Nat} (hL : lo ∈ L) (hF : f lo = lC mc ea (nI n)) (hq : q ∉ L) (hw : w ∈ L) (hEw : isEl (f w)) (h1 : f3 lo = lC mc q (nI (n + 1))) (h2 : f3 q = rowE κ cap2 (va_up g2 n (some w))) (h3 : ∀ y, y ≠ q → y ≠ lo → f3 y = f y) (hc : 10 ≤ cap2 ∧ cap2 ≤ 1000) (hn : n < cap2) (hg : ∀ i, i < n → g2 i = some (el i)) (hg2 : ∀ i y, g2 i = some y → y ∈ L ∧ isEl (f y)) : AddP κ L f lo ea n el w (L ++ [q]) f3 := by
  refine ⟨q, ⟨⟨List.mem_append_left _ hL, mc, h1⟩, Or.inr ⟨cap2, va_up g2 n (some w), ⟨List.mem_append_right _ List.mem_cons_self, h2, hc, fun i y hi hy => ?_⟩, hn, fun i hi => ?_⟩⟩, fun y hy => List.mem_append_left _ hy, fun y hy hy2 _ => h3 y (fun z => hq (z ▸ hy)) hy2, Or.inr ⟨hq, List.mem_append_right _ List.mem_cons_self⟩⟩
  · have key : ∀ y, y ∈ L → isEl (f y) → y ∈ L ++ [q] ∧ isEl (f3 y) := fun y hy hE => ⟨List.mem_append_left _ hy, by rw [h3 y (fun z => hq (z ▸ hy)) (nEl (κ := κ) hF hE)]; exact hE⟩
    by_cases hin : i = n
    · rw [hin] at hy
      rw [show va_up g2 n (some w) n = some w by simp [va_up]] at hy
      cases hy
      exact key _ hw hEw
    · rw [show va_up g2 n (some w) i = g2 i by simp [va_up, hin]] at hy
      exact key y (hg2 i y hy).1 (hg2 i y hy).2
  · by_cases hin : i = n
    · subst hin; simp [va_up]
    · rw [show va_up g2 n (some w) i = g2 i by simp [va_up, hin], show va_up el n w i = el i by simp [va_up, hin]]
      exact hg i (by omega)
theorem addP_put {κ : Kx} {L : List Nat} {f f3 : Nat → va_E} {lo ea n w cap : Nat} {mc : Int32} {el : Nat → Nat} {g : Nat → Option Nat} (hL : lo ∈ L) (hF : f lo = lC mc ea (nI n)) (hR : RO κ L f ea cap g) (hw : w ∈ L) (hEw : isEl (f w)) (h1 : f3 lo = lC mc ea (nI (n + 1))) (h2 : f3 ea = rowE κ cap (va_up g n (some w))) (h3 : ∀ y, y ≠ ea → y ≠ lo → f3 y = f y) (hn : n < cap) (hg : ∀ i, i < n → g i = some (el i)) : AddP κ L f lo ea n el w L f3 := by
  have hnr : ∀ y, isEl (f y) → y ≠ ea := fun y hE z => by
    rw [z, hR.2.1] at hE
    exact isEl_nr hE
  refine ⟨ea, ⟨⟨hL, mc, h1⟩, Or.inr ⟨cap, va_up g n (some w), ⟨hR.1, h2, hR.2.2.1, fun i y hi hy => ?_⟩, hn, fun i hi => ?_⟩⟩, fun y hy => hy, fun y _ hy2 hy3 => h3 y hy3 hy2, Or.inl rfl⟩
  · have key : ∀ y, y ∈ L → isEl (f y) → y ∈ L ∧ isEl (f3 y) := fun y hy hE => ⟨hy, by rw [h3 y (hnr y hE) (nEl (κ := κ) hF hE)]; exact hE⟩
    by_cases hin : i = n
    · rw [hin] at hy
      rw [show va_up g n (some w) n = some w by simp [va_up]] at hy
      cases hy
      exact key _ hw hEw
    · rw [show va_up g n (some w) i = g i by simp [va_up, hin]] at hy
      exact key y (hR.2.2.2 i y hi hy).1 (hR.2.2.2 i y hi hy).2
  · by_cases hin : i = n
    · subst hin; simp [va_up]
    · rw [show va_up g n (some w) i = g i by simp [va_up, hin], show va_up el n w i = el i by simp [va_up, hin]]
      exact hg i (by omega)

set_option maxRecDepth 100000 in
set_option maxHeartbeats 4000000 in
theorem c_add3G {l : Launch} {κ : Kx} {L : List Nat} {f : Nat → va_E} {ℓ ea w n : Nat} {mc : Int32} {el : Nat → Nat} (hL : ℓ ∈ L) (hF : f ℓ = lC mc ea (nI n)) (hw : w ∈ L) (hEw : isEl (f w)) {cap : Nat} {g : Nat → Option Nat} (hR : RO κ L f ea cap g) (hnc : n = cap) (hc9 : cap ≤ 600) (hg : ∀ i, i < n → g i = some (el i)) : PM l κ yJx4a65c_add_72be8 wsJx4a65c_add_72be8 ({ frames := 5, cells := 1, slots := 1500, locals := 133 } : Room) [.ref ℓ, .ref w, .ref ea, .int (nI n)] L f (fun v L1 f1 => v = none ∧ AddP κ L f ℓ ea n el w L1 f1) noX 1 1500 := by
  refine PM.mk (cc := cJx4a65c_add_72be8) (maxL := 4) (ret := none) (by decide) rfl (Nat.le_of_ble_eq_true rfl) ?_
  intro p e s m args below meth c ls hx hb hml hr hlk hnm hown hts ht hh hl
  have hl : lv_has ls 4 [(0, .ref ℓ), (1, .ref w), (2, .ref ea), (3, .int (nI n))] := hl
  have S : CallFix p m c cJx4a65c_add_72be8 4 s args wsJx4a65c_add_72be8 RJx4a65c := ⟨hx, hb, hml, hown, hts⟩
  have hin : ∀ w ∈ wsJx4a65c0, w ∈ wsJx4a65c_add_72be8 := by decide +kernel
  refine lv_iload_n hx hb dJx4a65c_add_72be8_0 rfl (lv_at hl 3 rfl) ?_
  refine lv_aload_n hx hb dJx4a65c_add_72be8_1 rfl (lv_at hl 2 rfl) ?_
  refine h_alen hx hb hh hR.1 hR.2.1 dJx4a65c_add_72be8_2 ?_
  refine lv_icmp_ne (tgt := 11) hx hb dJx4a65c_add_72be8_3 (by decide) (fun c3 => ?_) (fun c3 => ?_)
  · exact absurd (by rw [hnc]) c3
  · refine lv_aload_n hx hb dJx4a65c_add_72be8_6 rfl (lv_at hl 0 rfl) ?_
    refine k_callV0 (As := []) (c_grow0R hL hF hR hnc hc9) S hh (cwV 0 hts gJx4a65c_add_72be8_Jx4a65c_grow_d5877 rfl rfl rfl (by decide +kernel) ⟨(Nat.le_of_ble_eq_true rfl), (Nat.le_of_ble_eq_true rfl)⟩) hL hF (q := (RJx4a65c, TJx4a65c, 3)) rfl rfl rfl hl.1 rfl (Nat.le_of_ble_eq_true rfl) dJx4a65c_add_72be8_7 ⟨(Nat.le_of_ble_eq_true rfl), (Nat.le_of_ble_eq_true rfl)⟩ (fun v L1 f1 H locs hp hh => ?_)
    obtain ⟨q, hq, rfl, rfl, hq1, hq2, hq3⟩ := hp
    have hwq : w ≠ q := fun z => hq (z ▸ hw)
    have hlq : ℓ ≠ q := fun z => hq (z ▸ hL)
    have hwl : w ≠ ℓ := nEl (κ := κ) hF hEw
    have hE1 : isEl (f1 w) := by rw [hq3 w hwq hwl]; exact hEw
    refine lv_astore_n (lv' := [(2, .ref q), (0, .ref ℓ), (1, .ref w), (3, .int (nI n))]) hx hb dJx4a65c_add_72be8_10 rfl hl (by decide) rfl (fun ls hl => ?_)
    refine lv_aload_n hx hb dJx4a65c_add_72be8_11 rfl (lv_at hl 0 rfl) ?_
    refine lv_iload_n hx hb dJx4a65c_add_72be8_12 rfl (lv_at hl 3 rfl) ?_
    refine lv_aload_n hx hb dJx4a65c_add_72be8_13 rfl (lv_at hl 2 rfl) ?_
    refine h_aastk hx hb hh (List.mem_append_right _ List.mem_cons_self) hq1 (List.mem_append_left _ hw) hE1 rfl (k := n) (by omega) (by omega) dJx4a65c_add_72be8_14 (fun H locs hh => ?_)
    have hF2 : va_up f1 q (rowE κ (cap + max 1 (cap / 2)) (va_up (va_cpy g (fun _ => none) 0 0 cap) n (some w))) ℓ = lC mc q (nI n) := by rw [← hq2]; simp [va_up, hlq]
    refine lv_aload_n hx hb dJx4a65c_add_72be8_15 rfl (lv_at hl 1 rfl) ?_
    refine lv_iload_n hx hb dJx4a65c_add_72be8_16 rfl (lv_at hl 3 rfl) ?_
    refine lv_iconst (v := 1) hx hb dJx4a65c_add_72be8_17 (by decide) ?_
    refine lv_iadd hx hb dJx4a65c_add_72be8_18 ?_
    refine h_put hx hb hts hown hh (C := RJx4a65c) (T := TJx4a65c) (N := 3) (List.mem_append_left _ hL) hF2 rfl hin tyJx4a65c tyJx4a65c_ok nmJx4a65c 2 (by decide) (hts (.fieldLink RJx4a65c 48 "java/util/ArrayList" "size" "I") (by decide +kernel)) (fun _ h9 => h9) rfl (ty := .int) rfl rfl rfl (by simp) dJx4a65c_add_72be8_19 (fun H locs hh => ?_)
    exact k_vret hx hb hr hlk hh dJx4a65c_add_72be8_22 (Nat.le_of_ble_eq_true rfl) (Nat.le_of_ble_eq_true rfl) ⟨rfl, addP_grow (cap2 := (cap + max 1 (cap / 2))) (g2 := (va_cpy g (fun _ => none) 0 0 cap)) hL hF hq hw hEw (by simp [va_up, nI_1]) (by simp [va_up, hlq.symm]) (fun y hy hy2 => by simp [va_up, hy, hy2, hq3 y hy hy2]) ⟨by have := hR.2.2.1.1; omega, by omega⟩ (by omega) (fun i hi => by rw [cpy_eq (by omega)]; exact hg i hi) (cpy_el (P := fun y => y ∈ L ∧ isEl (f y)) hR.2.2.2)⟩

set_option maxRecDepth 100000 in
set_option maxHeartbeats 4000000 in
theorem c_add3E {l : Launch} {κ : Kx} {L : List Nat} {f : Nat → va_E} {ℓ w n : Nat} {mc : Int32} {el : Nat → Nat} (hL : ℓ ∈ L) (hF : f ℓ = lC mc (kTE κ) (nI n)) (hw : w ∈ L) (hEw : isEl (f w)) (hn0 : n = 0) : PM l κ yJx4a65c_add_72be8 wsJx4a65c_add_72be8 ({ frames := 5, cells := 1, slots := 1500, locals := 133 } : Room) [.ref ℓ, .ref w, .ref (kTE κ), .int (nI n)] L f (fun v L1 f1 => v = none ∧ AddP κ L f ℓ (kTE κ) n el w L1 f1) noX 1 1500 := by
  refine PM.mk (cc := cJx4a65c_add_72be8) (maxL := 4) (ret := none) (by decide) rfl (Nat.le_of_ble_eq_true rfl) ?_
  intro p e s m args below meth c ls hx hb hml hr hlk hnm hown hts ht hh hl
  have hl : lv_has ls 4 [(0, .ref ℓ), (1, .ref w), (2, .ref (kTE κ)), (3, .int (nI n))] := hl
  have S : CallFix p m c cJx4a65c_add_72be8 4 s args wsJx4a65c_add_72be8 RJx4a65c := ⟨hx, hb, hml, hown, hts⟩
  have hin : ∀ w ∈ wsJx4a65c0, w ∈ wsJx4a65c_add_72be8 := by decide +kernel
  refine lv_iload_n hx hb dJx4a65c_add_72be8_0 rfl (lv_at hl 3 rfl) ?_
  refine lv_aload_n hx hb dJx4a65c_add_72be8_1 rfl (lv_at hl 2 rfl) ?_
  refine h_alenE hx hb hh dJx4a65c_add_72be8_2 ?_
  refine lv_icmp_ne (tgt := 11) hx hb dJx4a65c_add_72be8_3 (by decide) (fun c3 => ?_) (fun c3 => ?_)
  · exact absurd (by rw [hn0]; rfl) c3
  · refine lv_aload_n hx hb dJx4a65c_add_72be8_6 rfl (lv_at hl 0 rfl) ?_
    refine k_callV0 (As := []) (c_grow0E hL hF hn0) S hh (cwV 0 hts gJx4a65c_add_72be8_Jx4a65c_grow_d5877 rfl rfl rfl (by decide +kernel) ⟨(Nat.le_of_ble_eq_true rfl), (Nat.le_of_ble_eq_true rfl)⟩) hL hF (q := (RJx4a65c, TJx4a65c, 3)) rfl rfl rfl hl.1 rfl (Nat.le_of_ble_eq_true rfl) dJx4a65c_add_72be8_7 ⟨(Nat.le_of_ble_eq_true rfl), (Nat.le_of_ble_eq_true rfl)⟩ (fun v L1 f1 H locs hp hh => ?_)
    obtain ⟨q, hq, rfl, rfl, hq1, hq2, hq3⟩ := hp
    have hwq : w ≠ q := fun z => hq (z ▸ hw)
    have hlq : ℓ ≠ q := fun z => hq (z ▸ hL)
    have hwl : w ≠ ℓ := nEl (κ := κ) hF hEw
    have hE1 : isEl (f1 w) := by rw [hq3 w hwq hwl]; exact hEw
    refine lv_astore_n (lv' := [(2, .ref q), (0, .ref ℓ), (1, .ref w), (3, .int (nI n))]) hx hb dJx4a65c_add_72be8_10 rfl hl (by decide) rfl (fun ls hl => ?_)
    refine lv_aload_n hx hb dJx4a65c_add_72be8_11 rfl (lv_at hl 0 rfl) ?_
    refine lv_iload_n hx hb dJx4a65c_add_72be8_12 rfl (lv_at hl 3 rfl) ?_
    refine lv_aload_n hx hb dJx4a65c_add_72be8_13 rfl (lv_at hl 2 rfl) ?_
    refine h_aastk hx hb hh (List.mem_append_right _ List.mem_cons_self) hq1 (List.mem_append_left _ hw) hE1 rfl (k := n) (by omega) (by omega) dJx4a65c_add_72be8_14 (fun H locs hh => ?_)
    have hF2 : va_up f1 q (rowE κ 10 (va_up (fun _ => none) n (some w))) ℓ = lC mc q (nI n) := by rw [← hq2]; simp [va_up, hlq]
    refine lv_aload_n hx hb dJx4a65c_add_72be8_15 rfl (lv_at hl 1 rfl) ?_
    refine lv_iload_n hx hb dJx4a65c_add_72be8_16 rfl (lv_at hl 3 rfl) ?_
    refine lv_iconst (v := 1) hx hb dJx4a65c_add_72be8_17 (by decide) ?_
    refine lv_iadd hx hb dJx4a65c_add_72be8_18 ?_
    refine h_put hx hb hts hown hh (C := RJx4a65c) (T := TJx4a65c) (N := 3) (List.mem_append_left _ hL) hF2 rfl hin tyJx4a65c tyJx4a65c_ok nmJx4a65c 2 (by decide) (hts (.fieldLink RJx4a65c 48 "java/util/ArrayList" "size" "I") (by decide +kernel)) (fun _ h9 => h9) rfl (ty := .int) rfl rfl rfl (by simp) dJx4a65c_add_72be8_19 (fun H locs hh => ?_)
    exact k_vret hx hb hr hlk hh dJx4a65c_add_72be8_22 (Nat.le_of_ble_eq_true rfl) (Nat.le_of_ble_eq_true rfl) ⟨rfl, addP_grow (cap2 := 10) (g2 := (fun _ => none)) hL hF hq hw hEw (by simp [va_up, nI_1]) (by simp [va_up, hlq.symm]) (fun y hy hy2 => by simp [va_up, hy, hy2, hq3 y hy hy2]) ⟨by omega, by omega⟩ (by omega) (fun i hi => absurd hi (by omega)) (fun i y hy => nomatch hy)⟩

set_option maxRecDepth 100000 in
set_option maxHeartbeats 4000000 in
theorem c_add3N {l : Launch} {κ : Kx} {L : List Nat} {f : Nat → va_E} {ℓ ea w n : Nat} {mc : Int32} {el : Nat → Nat} (hL : ℓ ∈ L) (hF : f ℓ = lC mc ea (nI n)) (hw : w ∈ L) (hEw : isEl (f w)) {cap : Nat} {g : Nat → Option Nat} (hR : RO κ L f ea cap g) (hnc : n < cap) (hg : ∀ i, i < n → g i = some (el i)) : PM l κ yJx4a65c_add_72be8 wsJx4a65c_add_72be8 ({ frames := 5, cells := 1, slots := 1500, locals := 133 } : Room) [.ref ℓ, .ref w, .ref ea, .int (nI n)] L f (fun v L1 f1 => v = none ∧ AddP κ L f ℓ ea n el w L1 f1) noX 1 1500 := by
  refine PM.mk (cc := cJx4a65c_add_72be8) (maxL := 4) (ret := none) (by decide) rfl (Nat.le_of_ble_eq_true rfl) ?_
  intro p e s m args below meth c ls hx hb hml hr hlk hnm hown hts ht hh hl
  have hl : lv_has ls 4 [(0, .ref ℓ), (1, .ref w), (2, .ref ea), (3, .int (nI n))] := hl
  have S : CallFix p m c cJx4a65c_add_72be8 4 s args wsJx4a65c_add_72be8 RJx4a65c := ⟨hx, hb, hml, hown, hts⟩
  have hin : ∀ w ∈ wsJx4a65c0, w ∈ wsJx4a65c_add_72be8 := by decide +kernel
  have hc9 := hR.2.2.1.2
  refine lv_iload_n hx hb dJx4a65c_add_72be8_0 rfl (lv_at hl 3 rfl) ?_
  refine lv_aload_n hx hb dJx4a65c_add_72be8_1 rfl (lv_at hl 2 rfl) ?_
  refine h_alen hx hb hh hR.1 hR.2.1 dJx4a65c_add_72be8_2 ?_
  refine lv_icmp_ne (tgt := 11) hx hb dJx4a65c_add_72be8_3 (by decide) (fun c3 => ?_) (fun c3 => ?_)
  · refine lv_aload_n hx hb dJx4a65c_add_72be8_11 rfl (lv_at hl 2 rfl) ?_
    refine lv_iload_n hx hb dJx4a65c_add_72be8_12 rfl (lv_at hl 3 rfl) ?_
    refine lv_aload_n hx hb dJx4a65c_add_72be8_13 rfl (lv_at hl 1 rfl) ?_
    have hel : ℓ ≠ ea := fun z => by rw [z, hR.2.1] at hF; cases hF
    refine h_aastk hx hb hh hR.1 hR.2.1 hw hEw rfl (k := n) hnc (by omega) dJx4a65c_add_72be8_14 (fun H locs hh => ?_)
    have hF2 : va_up f ea (rowE κ cap (va_up g n (some w))) ℓ = lC mc ea (nI n) := by rw [← hF]; simp [va_up, hel]
    refine lv_aload_n hx hb dJx4a65c_add_72be8_15 rfl (lv_at hl 0 rfl) ?_
    refine lv_iload_n hx hb dJx4a65c_add_72be8_16 rfl (lv_at hl 3 rfl) ?_
    refine lv_iconst (v := 1) hx hb dJx4a65c_add_72be8_17 (by decide) ?_
    refine lv_iadd hx hb dJx4a65c_add_72be8_18 ?_
    refine h_put hx hb hts hown hh (C := RJx4a65c) (T := TJx4a65c) (N := 3) hL hF2 rfl hin tyJx4a65c tyJx4a65c_ok nmJx4a65c 2 (by decide) (hts (.fieldLink RJx4a65c 48 "java/util/ArrayList" "size" "I") (by decide +kernel)) (fun _ h9 => h9) rfl (ty := .int) rfl rfl rfl (by simp) dJx4a65c_add_72be8_19 (fun H locs hh => ?_)
    exact k_vret hx hb hr hlk hh dJx4a65c_add_72be8_22 (Nat.le_of_ble_eq_true rfl) (Nat.le_of_ble_eq_true rfl) ⟨rfl, addP_put hL hF hR hw hEw (by simp [va_up, nI_1]) (by simp [va_up, hel.symm]) (fun y hy hy2 => by simp [va_up, hy, hy2]) hnc hg⟩
  · exact absurd ((nI_eq (by omega) (by omega)).mp c3) (by omega)

theorem c_add3 {l : Launch} {κ : Kx} {L : List Nat} {f : Nat → va_E} {ℓ ea w n : Nat} {mc : Int32} {el : Nat → Nat} (hL : ℓ ∈ L) (hF : f ℓ = lC mc ea (nI n)) (hA : LA κ L f ℓ ea n el) (hw : w ∈ L) (hEw : isEl (f w)) (hn : n ≤ 600) : PM l κ yJx4a65c_add_72be8 wsJx4a65c_add_72be8 ({ frames := 5, cells := 1, slots := 1500, locals := 133 } : Room) [.ref ℓ, .ref w, .ref ea, .int (nI n)] L f (fun v L1 f1 => v = none ∧ AddP κ L f ℓ ea n el w L1 f1) noX 1 1500 := by
  rcases hA.2 with ⟨rfl, hn0⟩ | ⟨cap, g, hR, hnc, hg⟩
  · exact c_add3E hL hF hw hEw hn0
  · rcases Nat.lt_or_ge n cap with q | q
    · exact c_add3N hL hF hw hEw hR q hg
    · exact c_add3G hL hF hw hEw hR (by omega) (by omega) hg
theorem LA.mod {κ : Kx} {L : List Nat} {f : Nat → va_E} {lo ea n : Nat} {mc : Int32} {el : Nat → Nat} (hF : f lo = lC mc ea (nI n)) (hA : LA κ L f lo ea n el) (mc2 : Int32) : LA κ L (va_up f lo (lC mc2 ea (nI n))) lo ea n el := by
  refine ⟨⟨hA.1.1, mc2, by simp [va_up]⟩, ?_⟩
  rcases hA.2 with h | ⟨cap, g, hR, hnc, hg⟩
  · exact Or.inl h
  · exact Or.inr ⟨cap, g, hR.up (fun z => by rw [z, hR.2.1] at hF; cases hF) (fun h => by rw [hF] at h; exact (isEl_n0 h).elim), hnc, hg⟩
theorem AddP.of {κ : Kx} {L : List Nat} {f : Nat → va_E} {lo ea n w : Nat} {e2 : va_E} {el : Nat → Nat} {L1 : List Nat} {f1 : Nat → va_E} (h : AddP κ L (va_up f lo e2) lo ea n el w L1 f1) : AddP κ L f lo ea n el w L1 f1 := by
  obtain ⟨e1, h1, h2, h3, h4⟩ := h
  exact ⟨e1, h1, h2, fun q hq hq2 hq3 => by rw [h3 q hq hq2 hq3]; simp [va_up, hq2], h4⟩

set_option maxRecDepth 100000 in
set_option maxHeartbeats 4000000 in
theorem c_add1 {l : Launch} {κ : Kx} {L : List Nat} {f : Nat → va_E} {ℓ ea w n : Nat} {mc : Int32} {el : Nat → Nat} (hL : ℓ ∈ L) (hF : f ℓ = lC mc ea (nI n)) (hA : LA κ L f ℓ ea n el) (hw : w ∈ L) (hEw : isEl (f w)) (hn : n ≤ 600) : PM l κ yJx4a65c_add_9ea2d wsJx4a65c_add_9ea2d ({ frames := 6, cells := 1, slots := 1500, locals := 156 } : Room) [.ref ℓ, .ref w] L f (fun v L1 f1 => v = some (.int 1) ∧ AddP κ L f ℓ ea n el w L1 f1) noX 1 1500 := by
  refine PM.mk (cc := cJx4a65c_add_9ea2d) (maxL := 2) (ret := (some .boolean)) (by decide) rfl (Nat.le_of_ble_eq_true rfl) ?_
  intro p e s m args below meth c ls hx hb hml hr hlk hnm hown hts ht hh hl
  have hl : lv_has ls 2 [(0, .ref ℓ), (1, .ref w)] := hl
  have S : CallFix p m c cJx4a65c_add_9ea2d 2 s args wsJx4a65c_add_9ea2d RJx4a65c := ⟨hx, hb, hml, hown, hts⟩
  have hin : ∀ w ∈ wsJx4a65c0, w ∈ wsJx4a65c_add_9ea2d := by decide +kernel
  refine lv_aload_n hx hb dJx4a65c_add_9ea2d_0 rfl (lv_at hl 0 rfl) ?_
  refine lv_dup hx hb dJx4a65c_add_9ea2d_1 rfl ?_
  refine h_get hx hb hts hown hh (C := RJx4a65c) (T := TJx4a65c) (N := 3) hL hF rfl hin 0 (by decide) (hts (.fieldLink RJx4a65c 63 "java/util/ArrayList" "modCount" "I") (by decide +kernel)) (u_same (hts (.sameField "java/util/ArrayList" "java/util/AbstractList" "modCount" "I") (by decide +kernel))) rfl dJx4a65c_add_9ea2d_2 ?_
  refine lv_iconst (v := 1) hx hb dJx4a65c_add_9ea2d_5 (by decide) ?_
  refine lv_iadd hx hb dJx4a65c_add_9ea2d_6 ?_
  refine h_put hx hb hts hown hh (C := RJx4a65c) (T := TJx4a65c) (N := 3) hL hF rfl hin tyJx4a65c tyJx4a65c_ok nmJx4a65c 0 (by decide) (hts (.fieldLink RJx4a65c 63 "java/util/ArrayList" "modCount" "I") (by decide +kernel)) (u_same (hts (.sameField "java/util/ArrayList" "java/util/AbstractList" "modCount" "I") (by decide +kernel))) rfl (ty := .int) rfl rfl rfl (by simp) dJx4a65c_add_9ea2d_7 (fun H locs hh => ?_)
  have hA2 := LA.mod hF hA (mc + 1)
  have hF2 : va_up f ℓ (lC (mc + 1) ea (nI n)) ℓ = lC (mc + 1) ea (nI n) := by simp [va_up]
  have hE2 : isEl (va_up f ℓ (lC (mc + 1) ea (nI n)) w) := by
    rw [show va_up f ℓ (lC (mc + 1) ea (nI n)) w = f w by simp [va_up, nEl (κ := κ) hF hEw]]
    exact hEw
  refine lv_aload_n hx hb dJx4a65c_add_9ea2d_10 rfl (lv_at hl 0 rfl) ?_
  refine lv_aload_n hx hb dJx4a65c_add_9ea2d_11 rfl (lv_at hl 1 rfl) ?_
  refine lv_aload_n hx hb dJx4a65c_add_9ea2d_12 rfl (lv_at hl 0 rfl) ?_
  refine h_get hx hb hts hown hh (C := RJx4a65c) (T := TJx4a65c) (N := 3) hL hF2 rfl hin 1 (by decide) (hts (.fieldLink RJx4a65c 9 "java/util/ArrayList" "elementData" "[Ljava/lang/Object;") (by decide +kernel)) (fun _ h9 => h9) rfl dJx4a65c_add_9ea2d_13 ?_
  refine lv_aload_n hx hb dJx4a65c_add_9ea2d_16 rfl (lv_at hl 0 rfl) ?_
  refine h_get hx hb hts hown hh (C := RJx4a65c) (T := TJx4a65c) (N := 3) hL hF2 rfl hin 2 (by decide) (hts (.fieldLink RJx4a65c 48 "java/util/ArrayList" "size" "I") (by decide +kernel)) (fun _ h9 => h9) rfl dJx4a65c_add_9ea2d_17 ?_
  refine k_callV0 (As := [.ref w, .ref ea, .int (nI n)]) (c_add3 hL hF2 hA2 hw hE2 hn) S hh (cwV 3 hts gJx4a65c_add_9ea2d_Jx4a65c_add_72be8 rfl rfl rfl (by decide +kernel) ⟨(Nat.le_of_ble_eq_true rfl), (Nat.le_of_ble_eq_true rfl)⟩) hL hF2 (q := (RJx4a65c, TJx4a65c, 3)) rfl rfl rfl hl.1 rfl (Nat.le_of_ble_eq_true rfl) dJx4a65c_add_9ea2d_20 ⟨(Nat.le_of_ble_eq_true rfl), (Nat.le_of_ble_eq_true rfl)⟩ (fun v L1 f1 H locs hp hh => ?_)
  have hv9 := hp.1
  subst hv9
  refine lv_iconst (v := 1) hx hb dJx4a65c_add_9ea2d_23 (by decide) ?_
  exact k_zret hx hb hr hlk (rfl) hh dJx4a65c_add_9ea2d_24 (Nat.le_of_ble_eq_true rfl) (Nat.le_of_ble_eq_true rfl) ⟨rfl, hp.2.of⟩
