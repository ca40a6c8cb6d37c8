theorem dfX1 : ∀ j, j < 1 → defaultValue (tyX1 j) = vp_V [.int 0] j := by
  intro j hj
  have h9 : j = 0 := by omega
  rcases h9 with rfl <;> rfl
theorem dfX2 : ∀ j, j < 7 → defaultValue (tyX2 j) = vp_V [.int 0, .int 0, .int 0, .int 0, .int 0, .null, .null] j := by
  intro j hj
  have h9 : j = 0 ∨ j = 1 ∨ j = 2 ∨ j = 3 ∨ j = 4 ∨ j = 5 ∨ j = 6 := by omega
  rcases h9 with rfl | rfl | rfl | rfl | rfl | rfl | rfl <;> rfl
theorem dfX0 : ∀ j, j < 5 → defaultValue (tyX0 j) = vp_V [.int 0, .int 0, .int 0, .int 0, .int 0] j := by
  intro j hj
  have h9 : j = 0 ∨ j = 1 ∨ j = 2 ∨ j = 3 ∨ j = 4 := by omega
  rcases h9 with rfl | rfl | rfl | rfl | rfl <;> rfl
theorem dfX3 : ∀ j, j < 2 → defaultValue (tyX3 j) = vp_V [.null, .null] j := by
  intro j hj
  have h9 : j = 0 ∨ j = 1 := by omega
  rcases h9 with rfl | rfl <;> rfl
theorem dfX4 : ∀ j, j < 4 → defaultValue (tyX4 j) = vp_V [.int 0, .int 0, .int 0, .int 0] j := by
  intro j hj
  have h9 : j = 0 ∨ j = 1 ∨ j = 2 ∨ j = 3 := by omega
  rcases h9 with rfl | rfl | rfl | rfl <;> rfl
theorem dfJ : ∀ j, j < 3 → defaultValue (tyJx4a65c j) = vp_V [.int 0, .null, .int 0] j := by
  intro j hj
  have h9 : j = 0 ∨ j = 1 ∨ j = 2 := by omega
  rcases h9 with rfl | rfl | rfl <;> rfl
set_option maxRecDepth 100000 in
set_option maxHeartbeats 4000000 in
theorem c_X1_init {l : Launch} {κ : Kx} {L : List Nat} {f : Nat → va_E} {q : Nat} {v : Int32} (hq : q ∈ L) (hf : f q = .inr (2, [.int 0])) : PC l κ yX1_init wsX1_init ({ frames := 1, cells := 0, slots := 0, locals := 12 } : Room) [.ref q, .int v] L f (fun v9 L1 f1 => v9 = none ∧ L = L1 ∧ f1 q = .inr (2, [.int v]) ∧ ∀ y, y ≠ q → f1 y = f y) 0 0 := by
  refine PC.mk (cc := cX1_init) (maxL := 2) (ret := none) (by decide) rfl (Nat.le_of_ble_eq_true rfl) ?_
  intro p e s m args below meth c ls hx hb hml hr hlk hnm hown hts hh hl
  have hl : lv_has ls 2 [(0, .ref q), (1, .int v)] := hl
  have inO : ∀ w ∈ wsX10, w ∈ wsX1_init := by decide +kernel
  refine lv_aload_n hx hb dX1_init_0 rfl (lv_at hl 0 rfl) ?_
  refine W.objInit hx hb hown (hts (.methodLink RX1 1 objectInit) (by decide +kernel)) (hts (.instanceMethod objectInit) (by decide +kernel)) (hts (.code objectInit ⟨#[0xb1]⟩ 1 none) (by decide +kernel)) rfl (by rw [hml]; exact hl.1) rfl dX1_init_1 (Nat.le_of_ble_eq_true rfl) (Nat.le_of_ble_eq_true rfl) ?_
  refine W.eq (g2 := F0 m 4 ls []) rfl ?_
  refine lv_aload_n hx hb dX1_init_4 rfl (lv_at hl 0 rfl) ?_
  refine lv_iload_n hx hb dX1_init_5 rfl (lv_at hl 1 rfl) ?_
  refine h_put hx hb hts hown hh (C := RX1) (T := TX1) (N := 1) hq hf rfl inO tyX1 tyX1_ok nmX1 0 (by decide) (hts (.fieldLink RX1 7 "CoalHulks$Hulk" "coal" "I") (by decide +kernel)) (fun _ h9 => h9) rfl (ty := .int) rfl rfl rfl (by simp) dX1_init_6 (fun H locs hh => ?_)
  have hf1 : (va_up f q (.inr (2, ([.int 0] : List Value).set 0 (.int v)))) q = .inr (2, [.int v]) := by simp [va_up]
  exact k_cret hx hb hr hlk hh dX1_init_9 (Nat.le_of_ble_eq_true rfl) (Nat.le_of_ble_eq_true rfl) ⟨rfl, rfl, hf1, fun y hy => by simp [va_up, hy]⟩

set_option maxRecDepth 100000 in
set_option maxHeartbeats 4000000 in
theorem c_X2_init {l : Launch} {κ : Kx} {L : List Nat} {f : Nat → va_E} {q : Nat} {v : Int32} {h : Nat} (hq : q ∈ L) (hf : f q = .inr (3, [.int 0, .int 0, .int 0, .int 0, .int 0, .null, .null])) : PC l κ yX2_init wsX2_init ({ frames := 1, cells := 0, slots := 0, locals := 12 } : Room) [.ref q, .int v, .ref h] L f (fun v9 L1 f1 => v9 = none ∧ L = L1 ∧ f1 q = .inr (3, [.int v, .int 0, .int 0, .int 0, .int 0, .ref h, .null]) ∧ ∀ y, y ≠ q → f1 y = f y) 0 0 := by
  refine PC.mk (cc := cX2_init) (maxL := 3) (ret := none) (by decide) rfl (Nat.le_of_ble_eq_true rfl) ?_
  intro p e s m args below meth c ls hx hb hml hr hlk hnm hown hts hh hl
  have hl : lv_has ls 3 [(0, .ref q), (1, .int v), (2, .ref h)] := hl
  have inO : ∀ w ∈ wsX20, w ∈ wsX2_init := by decide +kernel
  refine lv_aload_n hx hb dX2_init_0 rfl (lv_at hl 0 rfl) ?_
  refine W.objInit hx hb hown (hts (.methodLink RX2 3 objectInit) (by decide +kernel)) (hts (.instanceMethod objectInit) (by decide +kernel)) (hts (.code objectInit ⟨#[0xb1]⟩ 1 none) (by decide +kernel)) rfl (by rw [hml]; exact hl.1) rfl dX2_init_1 (Nat.le_of_ble_eq_true rfl) (Nat.le_of_ble_eq_true rfl) ?_
  refine W.eq (g2 := F0 m 4 ls []) rfl ?_
  refine lv_aload_n hx hb dX2_init_4 rfl (lv_at hl 0 rfl) ?_
  refine lv_iload_n hx hb dX2_init_5 rfl (lv_at hl 1 rfl) ?_
  refine h_putF hx hb hts hown hh (C := RX2) (T := TX2) (N := 7) hq hf rfl inO tyX2 tyX2_ok nmX2 0 (by decide) (hts (.fieldLink RX2 9 "CoalHulks$Lighter" "hold" "I") (by decide +kernel)) (fun _ h9 => h9) rfl hnm rfl (ty := .int) rfl rfl rfl (by simp) dX2_init_6 (fun H locs hh => ?_)
  have hf1 : (va_up f q (.inr (3, ([.int 0, .int 0, .int 0, .int 0, .int 0, .null, .null] : List Value).set 0 (.int v)))) q = .inr (3, [.int v, .int 0, .int 0, .int 0, .int 0, .null, .null]) := by simp [va_up]
  refine lv_aload_n hx hb dX2_init_9 rfl (lv_at hl 0 rfl) ?_
  refine lv_aload_n hx hb dX2_init_10 rfl (lv_at hl 2 rfl) ?_
  refine h_put hx hb hts hown hh (C := RX2) (T := TX2) (N := 7) hq hf1 rfl inO tyX2 tyX2_ok nmX2 5 (by decide) (hts (.fieldLink RX2 15 "CoalHulks$Lighter" "home" "LCoalHulks$Hulk;") (by decide +kernel)) (fun _ h9 => h9) rfl (ty := .object "CoalHulks$Hulk") rfl rfl rfl (by simp) dX2_init_11 (fun H locs hh => ?_)
  have hf2 : (va_up (va_up f q (.inr (3, ([.int 0, .int 0, .int 0, .int 0, .int 0, .null, .null] : List Value).set 0 (.int v)))) q (.inr (3, ([.int v, .int 0, .int 0, .int 0, .int 0, .null, .null] : List Value).set 5 (.ref h)))) q = .inr (3, [.int v, .int 0, .int 0, .int 0, .int 0, .ref h, .null]) := by simp [va_up]
  refine lv_aload_n hx hb dX2_init_14 rfl (lv_at hl 0 rfl) ?_
  refine lv_iconst (v := 0) hx hb dX2_init_15 (by decide) ?_
  refine h_put hx hb hts hown hh (C := RX2) (T := TX2) (N := 7) hq hf2 rfl inO tyX2 tyX2_ok nmX2 3 (by decide) (hts (.fieldLink RX2 19 "CoalHulks$Lighter" "place" "I") (by decide +kernel)) (fun _ h9 => h9) rfl (ty := .int) rfl rfl rfl (by simp) dX2_init_16 (fun H locs hh => ?_)
  have hf3 : (va_up (va_up (va_up f q (.inr (3, ([.int 0, .int 0, .int 0, .int 0, .int 0, .null, .null] : List Value).set 0 (.int v)))) q (.inr (3, ([.int v, .int 0, .int 0, .int 0, .int 0, .null, .null] : List Value).set 5 (.ref h)))) q (.inr (3, ([.int v, .int 0, .int 0, .int 0, .int 0, .ref h, .null] : List Value).set 3 (.int 0)))) q = .inr (3, [.int v, .int 0, .int 0, .int 0, .int 0, .ref h, .null]) := by simp [va_up]
  exact k_cret hx hb hr hlk hh dX2_init_19 (Nat.le_of_ble_eq_true rfl) (Nat.le_of_ble_eq_true rfl) ⟨rfl, rfl, hf3, fun y hy => by simp [va_up, hy]⟩

set_option maxRecDepth 100000 in
set_option maxHeartbeats 4000000 in
theorem c_X0_init {l : Launch} {κ : Kx} {L : List Nat} {f : Nat → va_E} {q : Nat} {n : Int32} {v : Int32} (hq : q ∈ L) (hf : f q = .inr (1, [.int 0, .int 0, .int 0, .int 0, .int 0])) : PC l κ yX0_init wsX0_init ({ frames := 1, cells := 0, slots := 0, locals := 12 } : Room) [.ref q, .int n, .int v] L f (fun v9 L1 f1 => v9 = none ∧ L = L1 ∧ f1 q = .inr (1, [.int n, .int v, .int 0, .int 0, .int 0]) ∧ ∀ y, y ≠ q → f1 y = f y) 0 0 := by
  refine PC.mk (cc := cX0_init) (maxL := 3) (ret := none) (by decide) rfl (Nat.le_of_ble_eq_true rfl) ?_
  intro p e s m args below meth c ls hx hb hml hr hlk hnm hown hts hh hl
  have hl : lv_has ls 3 [(0, .ref q), (1, .int n), (2, .int v)] := hl
  have inO : ∀ w ∈ wsX00, w ∈ wsX0_init := by decide +kernel
  refine lv_aload_n hx hb dX0_init_0 rfl (lv_at hl 0 rfl) ?_
  refine W.objInit hx hb hown (hts (.methodLink RX0 3 objectInit) (by decide +kernel)) (hts (.instanceMethod objectInit) (by decide +kernel)) (hts (.code objectInit ⟨#[0xb1]⟩ 1 none) (by decide +kernel)) rfl (by rw [hml]; exact hl.1) rfl dX0_init_1 (Nat.le_of_ble_eq_true rfl) (Nat.le_of_ble_eq_true rfl) ?_
  refine W.eq (g2 := F0 m 4 ls []) rfl ?_
  refine lv_aload_n hx hb dX0_init_4 rfl (lv_at hl 0 rfl) ?_
  refine lv_iload_n hx hb dX0_init_5 rfl (lv_at hl 1 rfl) ?_
  refine h_putF hx hb hts hown hh (C := RX0) (T := TX0) (N := 5) hq hf rfl inO tyX0 tyX0_ok nmX0 0 (by decide) (hts (.fieldLink RX0 9 "CoalHulks$Gang" "number" "I") (by decide +kernel)) (fun _ h9 => h9) rfl hnm rfl (ty := .int) rfl rfl rfl (by simp) dX0_init_6 (fun H locs hh => ?_)
  have hf1 : (va_up f q (.inr (1, ([.int 0, .int 0, .int 0, .int 0, .int 0] : List Value).set 0 (.int n)))) q = .inr (1, [.int n, .int 0, .int 0, .int 0, .int 0]) := by simp [va_up]
  refine lv_aload_n hx hb dX0_init_9 rfl (lv_at hl 0 rfl) ?_
  refine lv_iload_n hx hb dX0_init_10 rfl (lv_at hl 2 rfl) ?_
  refine h_putF hx hb hts hown hh (C := RX0) (T := TX0) (N := 5) hq hf1 rfl inO tyX0 tyX0_ok nmX0 1 (by decide) (hts (.fieldLink RX0 15 "CoalHulks$Gang" "men" "I") (by decide +kernel)) (fun _ h9 => h9) rfl hnm rfl (ty := .int) rfl rfl rfl (by simp) dX0_init_11 (fun H locs hh => ?_)
  have hf2 : (va_up (va_up f q (.inr (1, ([.int 0, .int 0, .int 0, .int 0, .int 0] : List Value).set 0 (.int n)))) q (.inr (1, ([.int n, .int 0, .int 0, .int 0, .int 0] : List Value).set 1 (.int v)))) q = .inr (1, [.int n, .int v, .int 0, .int 0, .int 0]) := by simp [va_up]
  exact k_cret hx hb hr hlk hh dX0_init_14 (Nat.le_of_ble_eq_true rfl) (Nat.le_of_ble_eq_true rfl) ⟨rfl, rfl, hf2, fun y hy => by simp [va_up, hy]⟩

set_option maxRecDepth 100000 in
set_option maxHeartbeats 4000000 in
theorem c_X3_init {l : Launch} {κ : Kx} {L : List Nat} {f : Nat → va_E} {q : Nat} {u : Nat} {w : Nat} (hq : q ∈ L) (hf : f q = .inr (4, [.null, .null])) : PC l κ yX3_init wsX3_init ({ frames := 1, cells := 0, slots := 0, locals := 12 } : Room) [.ref q, .ref u, .ref w] L f (fun v9 L1 f1 => v9 = none ∧ L = L1 ∧ f1 q = .inr (4, [.ref u, .ref w]) ∧ ∀ y, y ≠ q → f1 y = f y) 0 0 := by
  refine PC.mk (cc := cX3_init) (maxL := 3) (ret := none) (by decide) rfl (Nat.le_of_ble_eq_true rfl) ?_
  intro p e s m args below meth c ls hx hb hml hr hlk hnm hown hts hh hl
  have hl : lv_has ls 3 [(0, .ref q), (1, .ref u), (2, .ref w)] := hl
  have inO : ∀ w ∈ wsX30, w ∈ wsX3_init := by decide +kernel
  refine lv_aload_n hx hb dX3_init_0 rfl (lv_at hl 0 rfl) ?_
  refine W.objInit hx hb hown (hts (.methodLink RX3 1 objectInit) (by decide +kernel)) (hts (.instanceMethod objectInit) (by decide +kernel)) (hts (.code objectInit ⟨#[0xb1]⟩ 1 none) (by decide +kernel)) rfl (by rw [hml]; exact hl.1) rfl dX3_init_1 (Nat.le_of_ble_eq_true rfl) (Nat.le_of_ble_eq_true rfl) ?_
  refine W.eq (g2 := F0 m 4 ls []) rfl ?_
  refine lv_aload_n hx hb dX3_init_4 rfl (lv_at hl 0 rfl) ?_
  refine lv_aload_n hx hb dX3_init_5 rfl (lv_at hl 1 rfl) ?_
  refine h_putF hx hb hts hown hh (C := RX3) (T := TX3) (N := 2) hq hf rfl inO tyX3 tyX3_ok nmX3 0 (by decide) (hts (.fieldLink RX3 7 "CoalHulks$Order" "shovellers" "LCoalHulks$Gang;") (by decide +kernel)) (fun _ h9 => h9) rfl hnm rfl (ty := .object "CoalHulks$Gang") rfl rfl rfl (by simp) dX3_init_6 (fun H locs hh => ?_)
  have hf1 : (va_up f q (.inr (4, ([.null, .null] : List Value).set 0 (.ref u)))) q = .inr (4, [.ref u, .null]) := by simp [va_up]
  refine lv_aload_n hx hb dX3_init_9 rfl (lv_at hl 0 rfl) ?_
  refine lv_aload_n hx hb dX3_init_10 rfl (lv_at hl 2 rfl) ?_
  refine h_putF hx hb hts hown hh (C := RX3) (T := TX3) (N := 2) hq hf1 rfl inO tyX3 tyX3_ok nmX3 1 (by decide) (hts (.fieldLink RX3 13 "CoalHulks$Order" "target" "LCoalHulks$Steamer;") (by decide +kernel)) (fun _ h9 => h9) rfl hnm rfl (ty := .object "CoalHulks$Steamer") rfl rfl rfl (by simp) dX3_init_11 (fun H locs hh => ?_)
  have hf2 : (va_up (va_up f q (.inr (4, ([.null, .null] : List Value).set 0 (.ref u)))) q (.inr (4, ([.ref u, .null] : List Value).set 1 (.ref w)))) q = .inr (4, [.ref u, .ref w]) := by simp [va_up]
  exact k_cret hx hb hr hlk hh dX3_init_14 (Nat.le_of_ble_eq_true rfl) (Nat.le_of_ble_eq_true rfl) ⟨rfl, rfl, hf2, fun y hy => by simp [va_up, hy]⟩

set_option maxRecDepth 100000 in
set_option maxHeartbeats 4000000 in
theorem c_X4_init {l : Launch} {κ : Kx} {L : List Nat} {f : Nat → va_E} {q : Nat} {n : Int32} {v : Int32} {w : Int32} (hq : q ∈ L) (hf : f q = .inr (5, [.int 0, .int 0, .int 0, .int 0])) : PC l κ yX4_init wsX4_init ({ frames := 1, cells := 0, slots := 0, locals := 12 } : Room) [.ref q, .int n, .int v, .int w] L f (fun v9 L1 f1 => v9 = none ∧ L = L1 ∧ f1 q = .inr (5, [.int n, .int v, .int w, .int 0]) ∧ ∀ y, y ≠ q → f1 y = f y) 0 0 := by
  refine PC.mk (cc := cX4_init) (maxL := 4) (ret := none) (by decide) rfl (Nat.le_of_ble_eq_true rfl) ?_
  intro p e s m args below meth c ls hx hb hml hr hlk hnm hown hts hh hl
  have hl : lv_has ls 4 [(0, .ref q), (1, .int n), (2, .int v), (3, .int w)] := hl
  have inO : ∀ w ∈ wsX40, w ∈ wsX4_init := by decide +kernel
  refine lv_aload_n hx hb dX4_init_0 rfl (lv_at hl 0 rfl) ?_
  refine W.objInit hx hb hown (hts (.methodLink RX4 3 objectInit) (by decide +kernel)) (hts (.instanceMethod objectInit) (by decide +kernel)) (hts (.code objectInit ⟨#[0xb1]⟩ 1 none) (by decide +kernel)) rfl (by rw [hml]; exact hl.1) rfl dX4_init_1 (Nat.le_of_ble_eq_true rfl) (Nat.le_of_ble_eq_true rfl) ?_
  refine W.eq (g2 := F0 m 4 ls []) rfl ?_
  refine lv_aload_n hx hb dX4_init_4 rfl (lv_at hl 0 rfl) ?_
  refine lv_iload_n hx hb dX4_init_5 rfl (lv_at hl 1 rfl) ?_
  refine h_putF hx hb hts hown hh (C := RX4) (T := TX4) (N := 4) hq hf rfl inO tyX4 tyX4_ok nmX4 0 (by decide) (hts (.fieldLink RX4 9 "CoalHulks$Steamer" "number" "I") (by decide +kernel)) (fun _ h9 => h9) rfl hnm rfl (ty := .int) rfl rfl rfl (by simp) dX4_init_6 (fun H locs hh => ?_)
  have hf1 : (va_up f q (.inr (5, ([.int 0, .int 0, .int 0, .int 0] : List Value).set 0 (.int n)))) q = .inr (5, [.int n, .int 0, .int 0, .int 0]) := by simp [va_up]
  refine lv_aload_n hx hb dX4_init_9 rfl (lv_at hl 0 rfl) ?_
  refine lv_iload_n hx hb dX4_init_10 rfl (lv_at hl 2 rfl) ?_
  refine h_put hx hb hts hown hh (C := RX4) (T := TX4) (N := 4) hq hf1 rfl inO tyX4 tyX4_ok nmX4 1 (by decide) (hts (.fieldLink RX4 15 "CoalHulks$Steamer" "want" "I") (by decide +kernel)) (fun _ h9 => h9) rfl (ty := .int) rfl rfl rfl (by simp) dX4_init_11 (fun H locs hh => ?_)
  have hf2 : (va_up (va_up f q (.inr (5, ([.int 0, .int 0, .int 0, .int 0] : List Value).set 0 (.int n)))) q (.inr (5, ([.int n, .int 0, .int 0, .int 0] : List Value).set 1 (.int v)))) q = .inr (5, [.int n, .int v, .int 0, .int 0]) := by simp [va_up]
  refine lv_aload_n hx hb dX4_init_14 rfl (lv_at hl 0 rfl) ?_
  refine lv_iload_n hx hb dX4_init_15 rfl (lv_at hl 3 rfl) ?_
  refine h_put hx hb hts hown hh (C := RX4) (T := TX4) (N := 4) hq hf2 rfl inO tyX4 tyX4_ok nmX4 2 (by decide) (hts (.fieldLink RX4 18 "CoalHulks$Steamer" "patience" "I") (by decide +kernel)) (fun _ h9 => h9) rfl (ty := .int) rfl rfl rfl (by simp) dX4_init_16 (fun H locs hh => ?_)
  have hf3 : (va_up (va_up (va_up f q (.inr (5, ([.int 0, .int 0, .int 0, .int 0] : List Value).set 0 (.int n)))) q (.inr (5, ([.int n, .int 0, .int 0, .int 0] : List Value).set 1 (.int v)))) q (.inr (5, ([.int n, .int v, .int 0, .int 0] : List Value).set 2 (.int w)))) q = .inr (5, [.int n, .int v, .int w, .int 0]) := by simp [va_up]
  refine lv_aload_n hx hb dX4_init_19 rfl (lv_at hl 0 rfl) ?_
  refine lv_iconst (v := 0) hx hb dX4_init_20 (by decide) ?_
  refine h_put hx hb hts hown hh (C := RX4) (T := TX4) (N := 4) hq hf3 rfl inO tyX4 tyX4_ok nmX4 3 (by decide) (hts (.fieldLink RX4 21 "CoalHulks$Steamer" "fate" "I") (by decide +kernel)) (fun _ h9 => h9) rfl (ty := .int) rfl rfl rfl (by simp) dX4_init_21 (fun H locs hh => ?_)
  have hf4 : (va_up (va_up (va_up (va_up f q (.inr (5, ([.int 0, .int 0, .int 0, .int 0] : List Value).set 0 (.int n)))) q (.inr (5, ([.int n, .int 0, .int 0, .int 0] : List Value).set 1 (.int v)))) q (.inr (5, ([.int n, .int v, .int 0, .int 0] : List Value).set 2 (.int w)))) q (.inr (5, ([.int n, .int v, .int w, .int 0] : List Value).set 3 (.int 0)))) q = .inr (5, [.int n, .int v, .int w, .int 0]) := by simp [va_up]
  exact k_cret hx hb hr hlk hh dX4_init_24 (Nat.le_of_ble_eq_true rfl) (Nat.le_of_ble_eq_true rfl) ⟨rfl, rfl, hf4, fun y hy => by simp [va_up, hy]⟩

def hulkC (N : Nat → Nat) (C : MS) (v : Int32) : MS := stM C 0 (N 0) v
def lighterC (N : Nat → Nat) (C : MS) (v : Int32) : MS := stM (stM (stM (stM (stM (stM (stM C 1 (N 1) v) 2 (N 1) 0) 3 (N 1) 0) 4 (N 1) 0) 8 (N 1) 0) 5 (N 1) 0) 6 (N 1) (-1)
def gangC (N : Nat → Nat) (C : MS) (v : Int32) : MS := stM (stM (stM (stM C 9 (N 2) v) 15 (N 2) 0) 11 (N 2) 0) 10 (N 2) 0
def steamerC (N : Nat → Nat) (C : MS) (v w : Int32) : MS := stM (stM (stM C 12 (N 3) v) 13 (N 3) w) 14 (N 3) 0

set_option maxRecDepth 100000 in
set_option maxHeartbeats 4000000 in
theorem g_hulk {l : Launch} (hst : l.stackTraces = false) {κ : Kx} {x : Nat} {a : AD} {N P : Nat → Nat} {C : MS} {L L0 : List Nat} {f0 f : Nat → va_E} (hz : ZC κ x a N P C L0 f0 L f) (hw : WC N P C) {v : Int32} : PM l κ yX5_hulk wsX5_hulk ({ frames := 7, cells := 3, slots := 1507, locals := 177 } : Room) [.ref x, .int v] L f (fun v9 L1 f1 => v9 = some (.int (nI (N 0))) ∧ hulkTG N v = 0 ∧ ∃ a1, ZC κ x a1 (va_up N 0 (N 0 + 1)) P (hulkC N C v) L f L1 f1) (exI (hulkTG N v)) 3 1507 := by
  refine PM.mk (cc := cX5_hulk) (maxL := 3) (ret := (some .int)) (by decide) rfl (Nat.le_of_ble_eq_true rfl) ?_
  intro p e s m args below meth c ls hx hb hml hr hlk hnm hown hts ht hh hl
  have hl : lv_has ls 3 [(0, .ref x), (1, .int v)] := hl
  have S : CallFix p m c cX5_hulk 3 s args wsX5_hulk RX5 := ⟨hx, hb, hml, hown, hts⟩
  have inX1 : ∀ w ∈ wsX10, w ∈ wsX5_hulk := by decide +kernel
  have inX5 : ∀ w ∈ wsX50, w ∈ wsX5_hulk := by decide +kernel
  have hz := hz.self
  obtain ⟨b0, b1, b2, b3, b4⟩ := id hw.1
  refine lv_iload_n hx hb dX5_hulk_0 rfl (lv_at hl 1 rfl) ?_
  refine lv_iconst (v := 0) hx hb dX5_hulk_1 (by decide) ?_
  refine lv_sipush (v := 20000) hx hb dX5_hulk_2 (by decide) ?_
  refine k_callS (As := [.int v, .int 0, .int 20000]) (g_ror hst (x := v) (y := 0) (z := 20000)) S hh (va_cwS 3 hts gX5_hulk_X5_refuseOutOfRange rfl rfl rfl (by decide +kernel) ⟨(Nat.le_of_ble_eq_true rfl), (Nat.le_of_ble_eq_true rfl)⟩) rfl hl.1 rfl (Nat.le_of_ble_eq_true rfl) dX5_hulk_5 ⟨(Nat.le_of_ble_eq_true rfl), (Nat.le_of_ble_eq_true rfl)⟩ (fun v L1 f1 H locs hp hh => ?_) (fun E ce q9 H locs hE hh h1 h2 h3 => k_out ht hlk (by obtain ⟨rfl, hE2⟩ := hE; exact Or.inl ⟨rfl, by unfold hulkTG; (repeat' split); all_goals first | rfl | contradiction | exact absurd ⟨by assumption, by assumption⟩ hE2⟩) hh h1 h2 h3 (Nat.le_of_ble_eq_true rfl) (Nat.le_of_ble_eq_true rfl))
  obtain ⟨rfl, hin5, hL1, hf1⟩ := hp
  subst hL1; subst hf1
  obtain ⟨hia5, hib5⟩ := id hin5
  refine lv_aload_n hx hb dX5_hulk_8 rfl (lv_at hl 0 rfl) ?_
  refine xx_get S hh hz inX5 0 (by decide) rfl rfl (by decide +kernel) dX5_hulk_9 ?_
  obtain ⟨mc12, hL12, hF12⟩ := hz.lst 0 (by decide)
  refine k_callV0 (As := []) (c_size hL12 hF12) S hh (cwV 0 hts gX5_hulk_Jx4a65c_size_8abf5 rfl rfl rfl (by decide +kernel) ⟨(Nat.le_of_ble_eq_true rfl), (Nat.le_of_ble_eq_true rfl)⟩) hL12 hF12 (q := (RJx4a65c, TJx4a65c, 3)) rfl rfl rfl hl.1 rfl (Nat.le_of_ble_eq_true rfl) dX5_hulk_12 ⟨(Nat.le_of_ble_eq_true rfl), (Nat.le_of_ble_eq_true rfl)⟩ (fun v L1 f1 H locs hp hh => ?_)
  obtain ⟨rfl, hL1, hf1⟩ := hp
  subst hL1; subst hf1
  refine lv_istore_n (lv' := [(2, .int (nI (N 0))), (0, .ref x), (1, .int v)]) hx hb dX5_hulk_15 rfl hl (by decide) rfl (fun ls hl => ?_)
  refine lv_iload_n hx hb dX5_hulk_16 rfl (lv_at hl 0 rfl) ?_
  refine lv_iconst (v := 3) hx hb dX5_hulk_17 (by decide) ?_
  refine lv_icmp_lt (tgt := 31) hx hb dX5_hulk_18 (by decide) (fun c18 => ?_) (fun c18 => ?_)
  · refine lv_aload_n hx hb dX5_hulk_31 rfl (lv_at hl 1 rfl) ?_
    refine xx_get S hh hz inX5 0 (by decide) rfl rfl (by decide +kernel) dX5_hulk_32 ?_
    refine h_new (c0 := c) (C := RX1) (T := TX1) (N := 1) (ci := 2) (fs := [.int 0]) hx hb hts hown hh rfl inX1 tyX1 tyX1_ok (hts (.classLink RX5 43 RX1) (by decide +kernel)) (hts (.instantiable RX1 1) (by decide +kernel)) (hts (.initialized RX1) (by decide +kernel)) dfX1 (Nat.le_of_ble_eq_true rfl) (Nat.le_of_ble_eq_true rfl) dX5_hulk_35 (fun q H hq hh => ?_)
    have hz0 := hz
    have hz := hz0.mono (f1 := (va_up f q (.inr (2, ([.int 0] : List Value))))) (fun y h => List.mem_append_left [q] h) (fun y hy => by simp [va_up, show y ≠ q from fun z => hq (z ▸ hy)])
    refine lv_dup hx hb dX5_hulk_38 rfl ?_
    refine lv_iload_n hx hb dX5_hulk_39 rfl (lv_at hl 2 rfl) ?_
    have hqL : q ∈ L ++ [q] := List.mem_append_right _ List.mem_cons_self
    refine k_callI (As := [.int v]) (c_X1_init hqL (show (va_up f q (.inr (2, ([.int 0] : List Value)))) q = _ by simp [va_up])) S hh (cwI 1 hts gX5_hulk_X1_init rfl rfl rfl (hts (.initialized RX1) (by decide +kernel)) (hts (.methodLink RX5 45 yX1_init) (by decide +kernel)) (hts (.instanceMethod yX1_init) (by decide +kernel)) rfl (by decide +kernel) ⟨(Nat.le_of_ble_eq_true rfl), (Nat.le_of_ble_eq_true rfl)⟩) rfl hl.1 rfl (Nat.le_of_ble_eq_true rfl) dX5_hulk_40 ⟨(Nat.le_of_ble_eq_true rfl), (Nat.le_of_ble_eq_true rfl)⟩ (fun v9 L1 f1 H locs hp hh => ?_)
    obtain ⟨rfl, hL1, hq1, hq2⟩ := hp
    subst hL1
    have hz := hz0.mono (f1 := f1) (fun y h => List.mem_append_left [q] h) (fun y hy => by rw [hq2 y (fun z => hq (z ▸ hy))]; simp [va_up, show y ≠ q from fun z => hq (z ▸ hy)])
    have hqE : isEl (f1 q) := (by rw [hq1]; exact isEl_ci (k := 0))
    have hTE43 := hh.teL
    obtain ⟨mc43, hLP43, hFP43⟩ := hz.lst 0 (by decide)
    refine k_callV0 (As := [.ref q]) (c_add1 hLP43 hFP43 (hz.1.2.2.2.2.1 0 (by decide)) hqL hqE (by omega)) S hh (cwV 1 hts gX5_hulk_Jx4a65c_add_9ea2d rfl rfl rfl (by decide +kernel) ⟨(Nat.le_of_ble_eq_true rfl), (Nat.le_of_ble_eq_true rfl)⟩) hLP43 hFP43 (q := (RJx4a65c, TJx4a65c, 3)) rfl rfl rfl hl.1 rfl (Nat.le_of_ble_eq_true rfl) dX5_hulk_43 ⟨(Nat.le_of_ble_eq_true rfl), (Nat.le_of_ble_eq_true rfl)⟩ (fun v9 L43 f43 H locs hp hh => ?_)
    obtain ⟨rfl, hAdd43⟩ := hp
    obtain ⟨e1, hz2⟩ := hz.add hw hTE43 (k := 0) (by decide) hqL (C1 := hulkC N C v) (hq1.trans (by simp [hulkC, lighterC, gangC, steamerC, ciOf, fsOf, hFv, lFv, gFv, sFv, stM, va_up, upd]; try rfl)) (fun i hi z => hq (z ▸ (hz0.1.2.1 0 i (by decide) hi).1)) (Agr.rf.st (by decide) rfl) (fun z => absurd z (by decide)) hAdd43
    refine lv_pop hx hb dX5_hulk_46 rfl ?_
    refine lv_iload_n hx hb dX5_hulk_47 rfl (lv_at hl 0 rfl) ?_
    exact k_iret hx hb hr hlk hh dX5_hulk_48 (Nat.le_of_ble_eq_true rfl) (Nat.le_of_ble_eq_true rfl) ⟨rfl, (by unfold hulkTG; (repeat' split); all_goals first | rfl | contradiction), _, hz2⟩
  · exact k_throw (E := "java/lang/IllegalStateException") (text := "there are 3 hulks") hx hb hst (hml.trans hl.1.symm) hown ht hlk hts hh (Or.inr ⟨rfl, by unfold hulkTG; (repeat' split); all_goals first | rfl | contradiction⟩) (by decide +kernel) (by decide +kernel) (by decide +kernel) (by decide +kernel) (by decide +kernel) (fun w h => List.mem_cons_of_mem _ (List.mem_append_left _ (List.mem_append_right _ h))) (by decide +kernel) (by decide +kernel) dX5_hulk_21 dX5_hulk_24 dX5_hulk_25 dX5_hulk_27 dX5_hulk_30 (Nat.le_of_ble_eq_true rfl) (Nat.le_of_ble_eq_true rfl) (Nat.le_of_ble_eq_true rfl) (Nat.le_of_ble_eq_true rfl) (Nat.le_of_ble_eq_true rfl) (Nat.le_of_ble_eq_true rfl)

set_option maxRecDepth 100000 in
set_option maxHeartbeats 4000000 in
theorem g_lighter {l : Launch} (hst : l.stackTraces = false) {κ : Kx} {x : Nat} {a : AD} {N P : Nat → Nat} {C : MS} {L L0 : List Nat} {f0 f : Nat → va_E} (hz : ZC κ x a N P C L0 f0 L f) (hw : WC N P C) {v : Int32} : PM l κ yX5_lighter wsX5_lighter ({ frames := 7, cells := 3, slots := 1513, locals := 177 } : Room) [.ref x, .int v] L f (fun v9 L1 f1 => v9 = some (.int (nI (N 1))) ∧ lighterTG N v = 0 ∧ ∃ a1, ZC κ x a1 (va_up N 1 (N 1 + 1)) P (lighterC N C v) L f L1 f1) (exI (lighterTG N v)) 3 1513 := by
  refine PM.mk (cc := cX5_lighter) (maxL := 3) (ret := (some .int)) (by decide) rfl (Nat.le_of_ble_eq_true rfl) ?_
  intro p e s m args below meth c ls hx hb hml hr hlk hnm hown hts ht hh hl
  have hl : lv_has ls 3 [(0, .ref x), (1, .int v)] := hl
  have S : CallFix p m c cX5_lighter 3 s args wsX5_lighter RX5 := ⟨hx, hb, hml, hown, hts⟩
  have inX2 : ∀ w ∈ wsX20, w ∈ wsX5_lighter := by decide +kernel
  have inX5 : ∀ w ∈ wsX50, w ∈ wsX5_lighter := by decide +kernel
  have hz := hz.self
  obtain ⟨b0, b1, b2, b3, b4⟩ := id hw.1
  refine lv_iload_n hx hb dX5_lighter_0 rfl (lv_at hl 1 rfl) ?_
  refine lv_bipush (v := 20) hx hb dX5_lighter_1 (by decide) ?_
  refine lv_sipush (v := 500) hx hb dX5_lighter_3 (by decide) ?_
  refine k_callS (As := [.int v, .int 20, .int 500]) (g_ror hst (x := v) (y := 20) (z := 500)) S hh (va_cwS 3 hts gX5_lighter_X5_refuseOutOfRange rfl rfl rfl (by decide +kernel) ⟨(Nat.le_of_ble_eq_true rfl), (Nat.le_of_ble_eq_true rfl)⟩) rfl hl.1 rfl (Nat.le_of_ble_eq_true rfl) dX5_lighter_6 ⟨(Nat.le_of_ble_eq_true rfl), (Nat.le_of_ble_eq_true rfl)⟩ (fun v L1 f1 H locs hp hh => ?_) (fun E ce q9 H locs hE hh h1 h2 h3 => k_out ht hlk (by obtain ⟨rfl, hE2⟩ := hE; exact Or.inl ⟨rfl, by unfold lighterTG; (repeat' split); all_goals first | rfl | contradiction | exact absurd ⟨by assumption, by assumption⟩ hE2⟩) hh h1 h2 h3 (Nat.le_of_ble_eq_true rfl) (Nat.le_of_ble_eq_true rfl))
  obtain ⟨rfl, hin6, hL1, hf1⟩ := hp
  subst hL1; subst hf1
  obtain ⟨hia6, hib6⟩ := id hin6
  refine lv_aload_n hx hb dX5_lighter_9 rfl (lv_at hl 0 rfl) ?_
  refine xx_get S hh hz inX5 1 (by decide) rfl rfl (by decide +kernel) dX5_lighter_10 ?_
  obtain ⟨mc13, hL13, hF13⟩ := hz.lst 1 (by decide)
  refine k_callV0 (As := []) (c_size hL13 hF13) S hh (cwV 0 hts gX5_lighter_Jx4a65c_size_8abf5 rfl rfl rfl (by decide +kernel) ⟨(Nat.le_of_ble_eq_true rfl), (Nat.le_of_ble_eq_true rfl)⟩) hL13 hF13 (q := (RJx4a65c, TJx4a65c, 3)) rfl rfl rfl hl.1 rfl (Nat.le_of_ble_eq_true rfl) dX5_lighter_13 ⟨(Nat.le_of_ble_eq_true rfl), (Nat.le_of_ble_eq_true rfl)⟩ (fun v L1 f1 H locs hp hh => ?_)
  obtain ⟨rfl, hL1, hf1⟩ := hp
  subst hL1; subst hf1
  refine lv_istore_n (lv' := [(2, .int (nI (N 1))), (0, .ref x), (1, .int v)]) hx hb dX5_lighter_16 rfl hl (by decide) rfl (fun ls hl => ?_)
  refine lv_iload_n hx hb dX5_lighter_17 rfl (lv_at hl 0 rfl) ?_
  refine lv_bipush (v := 6) hx hb dX5_lighter_18 (by decide) ?_
  refine lv_icmp_lt (tgt := 33) hx hb dX5_lighter_20 (by decide) (fun c20 => ?_) (fun c20 => ?_)
  · refine lv_aload_n hx hb dX5_lighter_33 rfl (lv_at hl 1 rfl) ?_
    refine xx_get S hh hz inX5 0 (by decide) rfl rfl (by decide +kernel) dX5_lighter_34 ?_
    obtain ⟨mc37, hL37, hF37⟩ := hz.lst 0 (by decide)
    refine k_callV0 (As := []) (c_isEmpty hL37 hF37) S hh (cwV 0 hts gX5_lighter_Jx4a65c_isEmpty_aae02 rfl rfl rfl (by decide +kernel) ⟨(Nat.le_of_ble_eq_true rfl), (Nat.le_of_ble_eq_true rfl)⟩) hL37 hF37 (q := (RJx4a65c, TJx4a65c, 3)) rfl rfl rfl hl.1 rfl (Nat.le_of_ble_eq_true rfl) dX5_lighter_37 ⟨(Nat.le_of_ble_eq_true rfl), (Nat.le_of_ble_eq_true rfl)⟩ (fun v L1 f1 H locs hp hh => ?_)
    obtain ⟨rfl, hL1, hf1⟩ := hp
    subst hL1; subst hf1
    refine lv_if_eq (tgt := 53) hx hb dX5_lighter_40 (by decide) (fun c40 => ?_) (fun c40 => ?_)
    · have h0 : ¬ nI (N 0) = 0 := fun z => by rw [if_pos z] at c40; exact absurd c40 (by decide)
      have hp0 : 0 < N 0 := Nat.pos_of_ne_zero (fun z => h0 (by rw [z]; rfl))
      refine lv_aload_n hx hb dX5_lighter_53 rfl (lv_at hl 1 rfl) ?_
      refine xx_get S hh hz inX5 1 (by decide) rfl rfl (by decide +kernel) dX5_lighter_54 ?_
      refine h_new (c0 := c) (C := RX2) (T := TX2) (N := 7) (ci := 3) (fs := [.int 0, .int 0, .int 0, .int 0, .int 0, .null, .null]) hx hb hts hown hh rfl inX2 tyX2 tyX2_ok (hts (.classLink RX5 60 RX2) (by decide +kernel)) (hts (.instantiable RX2 7) (by decide +kernel)) (hts (.initialized RX2) (by decide +kernel)) dfX2 (Nat.le_of_ble_eq_true rfl) (Nat.le_of_ble_eq_true rfl) dX5_lighter_57 (fun q H hq hh => ?_)
      have hz0 := hz
      have hz := hz0.mono (f1 := (va_up f q (.inr (3, ([.int 0, .int 0, .int 0, .int 0, .int 0, .null, .null] : List Value))))) (fun y h => List.mem_append_left [q] h) (fun y hy => by simp [va_up, show y ≠ q from fun z => hq (z ▸ hy)])
      refine lv_dup hx hb dX5_lighter_60 rfl ?_
      refine lv_iload_n hx hb dX5_lighter_61 rfl (lv_at hl 2 rfl) ?_
      refine lv_aload_n hx hb dX5_lighter_62 rfl (lv_at hl 1 rfl) ?_
      refine xx_get S hh hz inX5 0 (by decide) rfl rfl (by decide +kernel) dX5_lighter_63 ?_
      refine lv_iconst (v := 0) hx hb dX5_lighter_66 (by decide) ?_
      obtain ⟨mc67, hL67, hF67⟩ := hz.lst 0 (by decide)
      refine k_callV0 (As := [.int 0]) (x_lget hz 0 (by decide) (i := 0) hp0 rfl) S hh (cwV 1 hts gX5_lighter_Jx4a65c_get_915e3 rfl rfl rfl (by decide +kernel) ⟨(Nat.le_of_ble_eq_true rfl), (Nat.le_of_ble_eq_true rfl)⟩) hL67 hF67 (q := (RJx4a65c, TJx4a65c, 3)) rfl rfl rfl hl.1 rfl (Nat.le_of_ble_eq_true rfl) dX5_lighter_67 ⟨(Nat.le_of_ble_eq_true rfl), (Nat.le_of_ble_eq_true rfl)⟩ (fun v L1 f1 H locs hp hh => ?_)
      obtain ⟨rfl, hL1, hf1⟩ := hp
      subst hL1; subst hf1
      refine h_cast hx hb hown hh (hz.1.2.1 0 0 (by decide) hp0).1 (hz.1.2.1 0 0 (by decide) hp0).2 (C := RX1) (T := TX1) (N := 1) rfl (hts (.classLink RX5 43 RX1) (by decide +kernel)) dX5_lighter_70 ?_
      have hqL : q ∈ L ++ [q] := List.mem_append_right _ List.mem_cons_self
      refine k_callI (As := [.int v, .ref (a 0 0)]) (c_X2_init hqL (show (va_up f q (.inr (3, ([.int 0, .int 0, .int 0, .int 0, .int 0, .null, .null] : List Value)))) q = _ by simp [va_up])) S hh (cwI 2 hts gX5_lighter_X2_init rfl rfl rfl (hts (.initialized RX2) (by decide +kernel)) (hts (.methodLink RX5 66 yX2_init) (by decide +kernel)) (hts (.instanceMethod yX2_init) (by decide +kernel)) rfl (by decide +kernel) ⟨(Nat.le_of_ble_eq_true rfl), (Nat.le_of_ble_eq_true rfl)⟩) rfl hl.1 rfl (Nat.le_of_ble_eq_true rfl) dX5_lighter_73 ⟨(Nat.le_of_ble_eq_true rfl), (Nat.le_of_ble_eq_true rfl)⟩ (fun v9 L1 f1 H locs hp hh => ?_)
      obtain ⟨rfl, hL1, hq1, hq2⟩ := hp
      subst hL1
      have hz := hz0.mono (f1 := f1) (fun y h => List.mem_append_left [q] h) (fun y hy => by rw [hq2 y (fun z => hq (z ▸ hy))]; simp [va_up, show y ≠ q from fun z => hq (z ▸ hy)])
      have hqE : isEl (f1 q) := (by rw [hq1]; exact isEl_ci (k := 1))
      have hTE76 := hh.teL
      obtain ⟨mc76, hLP76, hFP76⟩ := hz.lst 1 (by decide)
      refine k_callV0 (As := [.ref q]) (c_add1 hLP76 hFP76 (hz.1.2.2.2.2.1 1 (by decide)) hqL hqE (by omega)) S hh (cwV 1 hts gX5_lighter_Jx4a65c_add_9ea2d rfl rfl rfl (by decide +kernel) ⟨(Nat.le_of_ble_eq_true rfl), (Nat.le_of_ble_eq_true rfl)⟩) hLP76 hFP76 (q := (RJx4a65c, TJx4a65c, 3)) rfl rfl rfl hl.1 rfl (Nat.le_of_ble_eq_true rfl) dX5_lighter_76 ⟨(Nat.le_of_ble_eq_true rfl), (Nat.le_of_ble_eq_true rfl)⟩ (fun v9 L76 f76 H locs hp hh => ?_)
      obtain ⟨rfl, hAdd76⟩ := hp
      obtain ⟨e1, hz2⟩ := hz.add hw hTE76 (k := 1) (by decide) hqL (C1 := lighterC N C v) (hq1.trans (by simp [hulkC, lighterC, gangC, steamerC, ciOf, fsOf, hFv, lFv, gFv, sFv, stM, va_up, upd]; try rfl)) (fun i hi z => hq (z ▸ (hz0.1.2.1 1 i (by decide) hi).1)) (((((((Agr.rf.st (by decide) rfl).st (by decide) rfl).st (by decide) rfl).st (by decide) rfl).st (by decide) rfl).st (by decide) rfl).st (by decide) rfl) (fun _ => by simp [lighterC, stM, va_up, upd]) hAdd76
      refine lv_pop hx hb dX5_lighter_79 rfl ?_
      refine lv_iload_n hx hb dX5_lighter_80 rfl (lv_at hl 0 rfl) ?_
      exact k_iret hx hb hr hlk hh dX5_lighter_81 (Nat.le_of_ble_eq_true rfl) (Nat.le_of_ble_eq_true rfl) ⟨rfl, (by unfold lighterTG; rw [if_neg hia6, if_pos hib6, if_pos c20, if_neg h0]), _, hz2⟩
    · have h0 : nI (N 0) = 0 := by
        by_cases z : nI (N 0) = 0
        · exact z
        · exact absurd (if_neg z) c40
      exact k_throw (E := "java/lang/IllegalStateException") (text := "there is no hulk") hx hb hst (hml.trans hl.1.symm) hown ht hlk hts hh (Or.inr ⟨rfl, by unfold lighterTG; rw [if_neg hia6, if_pos hib6]; first | rw [if_neg c20] | (rw [if_pos c20]; first | rw [if_pos h0])⟩) (by decide +kernel) (by decide +kernel) (by decide +kernel) (by decide +kernel) (by decide +kernel) (fun w h => List.mem_cons_of_mem _ (List.mem_append_left _ (List.mem_append_right _ h))) (by decide +kernel) (by decide +kernel) dX5_lighter_43 dX5_lighter_46 dX5_lighter_47 dX5_lighter_49 dX5_lighter_52 (Nat.le_of_ble_eq_true rfl) (Nat.le_of_ble_eq_true rfl) (Nat.le_of_ble_eq_true rfl) (Nat.le_of_ble_eq_true rfl) (Nat.le_of_ble_eq_true rfl) (Nat.le_of_ble_eq_true rfl)
  · exact k_throw (E := "java/lang/IllegalStateException") (text := "there are 6 lighters") hx hb hst (hml.trans hl.1.symm) hown ht hlk hts hh (Or.inr ⟨rfl, by unfold lighterTG; rw [if_neg hia6, if_pos hib6]; first | rw [if_neg c20] | (rw [if_pos c20]; first | rw [if_pos h0])⟩) (by decide +kernel) (by decide +kernel) (by decide +kernel) (by decide +kernel) (by decide +kernel) (fun w h => List.mem_cons_of_mem _ (List.mem_append_left _ (List.mem_append_right _ h))) (by decide +kernel) (by decide +kernel) dX5_lighter_23 dX5_lighter_26 dX5_lighter_27 dX5_lighter_29 dX5_lighter_32 (Nat.le_of_ble_eq_true rfl) (Nat.le_of_ble_eq_true rfl) (Nat.le_of_ble_eq_true rfl) (Nat.le_of_ble_eq_true rfl) (Nat.le_of_ble_eq_true rfl) (Nat.le_of_ble_eq_true rfl)

set_option maxRecDepth 100000 in
set_option maxHeartbeats 4000000 in
theorem g_gang {l : Launch} (hst : l.stackTraces = false) {κ : Kx} {x : Nat} {a : AD} {N P : Nat → Nat} {C : MS} {L L0 : List Nat} {f0 f : Nat → va_E} (hz : ZC κ x a N P C L0 f0 L f) (hw : WC N P C) {v : Int32} : PM l κ yX5_gang wsX5_gang ({ frames := 7, cells := 3, slots := 1511, locals := 177 } : Room) [.ref x, .int v] L f (fun v9 L1 f1 => v9 = some (.int (nI (N 2))) ∧ gangTG N v = 0 ∧ ∃ a1, ZC κ x a1 (va_up N 2 (N 2 + 1)) P (gangC N C v) L f L1 f1) (exI (gangTG N v)) 3 1511 := by
  refine PM.mk (cc := cX5_gang) (maxL := 3) (ret := (some .int)) (by decide) rfl (Nat.le_of_ble_eq_true rfl) ?_
  intro p e s m args below meth c ls hx hb hml hr hlk hnm hown hts ht hh hl
  have hl : lv_has ls 3 [(0, .ref x), (1, .int v)] := hl
  have S : CallFix p m c cX5_gang 3 s args wsX5_gang RX5 := ⟨hx, hb, hml, hown, hts⟩
  have inX0 : ∀ w ∈ wsX00, w ∈ wsX5_gang := by decide +kernel
  have inX5 : ∀ w ∈ wsX50, w ∈ wsX5_gang := by decide +kernel
  have hz := hz.self
  obtain ⟨b0, b1, b2, b3, b4⟩ := id hw.1
  refine lv_iload_n hx hb dX5_gang_0 rfl (lv_at hl 1 rfl) ?_
  refine lv_iconst (v := 1) hx hb dX5_gang_1 (by decide) ?_
  refine lv_bipush (v := 20) hx hb dX5_gang_2 (by decide) ?_
  refine k_callS (As := [.int v, .int 1, .int 20]) (g_ror hst (x := v) (y := 1) (z := 20)) S hh (va_cwS 3 hts gX5_gang_X5_refuseOutOfRange rfl rfl rfl (by decide +kernel) ⟨(Nat.le_of_ble_eq_true rfl), (Nat.le_of_ble_eq_true rfl)⟩) rfl hl.1 rfl (Nat.le_of_ble_eq_true rfl) dX5_gang_4 ⟨(Nat.le_of_ble_eq_true rfl), (Nat.le_of_ble_eq_true rfl)⟩ (fun v L1 f1 H locs hp hh => ?_) (fun E ce q9 H locs hE hh h1 h2 h3 => k_out ht hlk (by obtain ⟨rfl, hE2⟩ := hE; exact Or.inl ⟨rfl, by unfold gangTG; (repeat' split); all_goals first | rfl | contradiction | exact absurd ⟨by assumption, by assumption⟩ hE2⟩) hh h1 h2 h3 (Nat.le_of_ble_eq_true rfl) (Nat.le_of_ble_eq_true rfl))
  obtain ⟨rfl, hin4, hL1, hf1⟩ := hp
  subst hL1; subst hf1
  obtain ⟨hia4, hib4⟩ := id hin4
  refine lv_aload_n hx hb dX5_gang_7 rfl (lv_at hl 0 rfl) ?_
  refine xx_get S hh hz inX5 2 (by decide) rfl rfl (by decide +kernel) dX5_gang_8 ?_
  obtain ⟨mc11, hL11, hF11⟩ := hz.lst 2 (by decide)
  refine k_callV0 (As := []) (c_size hL11 hF11) S hh (cwV 0 hts gX5_gang_Jx4a65c_size_8abf5 rfl rfl rfl (by decide +kernel) ⟨(Nat.le_of_ble_eq_true rfl), (Nat.le_of_ble_eq_true rfl)⟩) hL11 hF11 (q := (RJx4a65c, TJx4a65c, 3)) rfl rfl rfl hl.1 rfl (Nat.le_of_ble_eq_true rfl) dX5_gang_11 ⟨(Nat.le_of_ble_eq_true rfl), (Nat.le_of_ble_eq_true rfl)⟩ (fun v L1 f1 H locs hp hh => ?_)
  obtain ⟨rfl, hL1, hf1⟩ := hp
  subst hL1; subst hf1
  refine lv_istore_n (lv' := [(2, .int (nI (N 2))), (0, .ref x), (1, .int v)]) hx hb dX5_gang_14 rfl hl (by decide) rfl (fun ls hl => ?_)
  refine lv_iload_n hx hb dX5_gang_15 rfl (lv_at hl 0 rfl) ?_
  refine lv_bipush (v := 6) hx hb dX5_gang_16 (by decide) ?_
  refine lv_icmp_lt (tgt := 31) hx hb dX5_gang_18 (by decide) (fun c18 => ?_) (fun c18 => ?_)
  · refine lv_aload_n hx hb dX5_gang_31 rfl (lv_at hl 1 rfl) ?_
    refine xx_get S hh hz inX5 2 (by decide) rfl rfl (by decide +kernel) dX5_gang_32 ?_
    refine h_new (c0 := c) (C := RX0) (T := TX0) (N := 5) (ci := 1) (fs := [.int 0, .int 0, .int 0, .int 0, .int 0]) hx hb hts hown hh rfl inX0 tyX0 tyX0_ok (hts (.classLink RX5 71 RX0) (by decide +kernel)) (hts (.instantiable RX0 5) (by decide +kernel)) (hts (.initialized RX0) (by decide +kernel)) dfX0 (Nat.le_of_ble_eq_true rfl) (Nat.le_of_ble_eq_true rfl) dX5_gang_35 (fun q H hq hh => ?_)
    have hz0 := hz
    have hz := hz0.mono (f1 := (va_up f q (.inr (1, ([.int 0, .int 0, .int 0, .int 0, .int 0] : List Value))))) (fun y h => List.mem_append_left [q] h) (fun y hy => by simp [va_up, show y ≠ q from fun z => hq (z ▸ hy)])
    refine lv_dup hx hb dX5_gang_38 rfl ?_
    refine lv_iload_n hx hb dX5_gang_39 rfl (lv_at hl 0 rfl) ?_
    refine lv_iload_n hx hb dX5_gang_40 rfl (lv_at hl 2 rfl) ?_
    have hqL : q ∈ L ++ [q] := List.mem_append_right _ List.mem_cons_self
    refine k_callI (As := [.int (nI (N 2)), .int v]) (c_X0_init hqL (show (va_up f q (.inr (1, ([.int 0, .int 0, .int 0, .int 0, .int 0] : List Value)))) q = _ by simp [va_up])) S hh (cwI 2 hts gX5_gang_X0_init rfl rfl rfl (hts (.initialized RX0) (by decide +kernel)) (hts (.methodLink RX5 73 yX0_init) (by decide +kernel)) (hts (.instanceMethod yX0_init) (by decide +kernel)) rfl (by decide +kernel) ⟨(Nat.le_of_ble_eq_true rfl), (Nat.le_of_ble_eq_true rfl)⟩) rfl hl.1 rfl (Nat.le_of_ble_eq_true rfl) dX5_gang_41 ⟨(Nat.le_of_ble_eq_true rfl), (Nat.le_of_ble_eq_true rfl)⟩ (fun v9 L1 f1 H locs hp hh => ?_)
    obtain ⟨rfl, hL1, hq1, hq2⟩ := hp
    subst hL1
    have hz := hz0.mono (f1 := f1) (fun y h => List.mem_append_left [q] h) (fun y hy => by rw [hq2 y (fun z => hq (z ▸ hy))]; simp [va_up, show y ≠ q from fun z => hq (z ▸ hy)])
    have hqE : isEl (f1 q) := (by rw [hq1]; exact isEl_ci (k := 2))
    have hTE44 := hh.teL
    obtain ⟨mc44, hLP44, hFP44⟩ := hz.lst 2 (by decide)
    refine k_callV0 (As := [.ref q]) (c_add1 hLP44 hFP44 (hz.1.2.2.2.2.1 2 (by decide)) hqL hqE (by omega)) S hh (cwV 1 hts gX5_gang_Jx4a65c_add_9ea2d rfl rfl rfl (by decide +kernel) ⟨(Nat.le_of_ble_eq_true rfl), (Nat.le_of_ble_eq_true rfl)⟩) hLP44 hFP44 (q := (RJx4a65c, TJx4a65c, 3)) rfl rfl rfl hl.1 rfl (Nat.le_of_ble_eq_true rfl) dX5_gang_44 ⟨(Nat.le_of_ble_eq_true rfl), (Nat.le_of_ble_eq_true rfl)⟩ (fun v9 L44 f44 H locs hp hh => ?_)
    obtain ⟨rfl, hAdd44⟩ := hp
    obtain ⟨e1, hz2⟩ := hz.add hw hTE44 (k := 2) (by decide) hqL (C1 := gangC N C v) (hq1.trans (by simp [hulkC, lighterC, gangC, steamerC, ciOf, fsOf, hFv, lFv, gFv, sFv, stM, va_up, upd]; try rfl)) (fun i hi z => hq (z ▸ (hz0.1.2.1 2 i (by decide) hi).1)) ((((Agr.rf.st (by decide) rfl).st (by decide) rfl).st (by decide) rfl).st (by decide) rfl) (fun z => absurd z (by decide)) hAdd44
    refine lv_pop hx hb dX5_gang_47 rfl ?_
    refine lv_iload_n hx hb dX5_gang_48 rfl (lv_at hl 0 rfl) ?_
    exact k_iret hx hb hr hlk hh dX5_gang_49 (Nat.le_of_ble_eq_true rfl) (Nat.le_of_ble_eq_true rfl) ⟨rfl, (by unfold gangTG; (repeat' split); all_goals first | rfl | contradiction), _, hz2⟩
  · exact k_throw (E := "java/lang/IllegalStateException") (text := "there are 6 gangs") hx hb hst (hml.trans hl.1.symm) hown ht hlk hts hh (Or.inr ⟨rfl, by unfold gangTG; (repeat' split); all_goals first | rfl | contradiction⟩) (by decide +kernel) (by decide +kernel) (by decide +kernel) (by decide +kernel) (by decide +kernel) (fun w h => List.mem_cons_of_mem _ (List.mem_append_left _ (List.mem_append_right _ h))) (by decide +kernel) (by decide +kernel) dX5_gang_21 dX5_gang_24 dX5_gang_25 dX5_gang_27 dX5_gang_30 (Nat.le_of_ble_eq_true rfl) (Nat.le_of_ble_eq_true rfl) (Nat.le_of_ble_eq_true rfl) (Nat.le_of_ble_eq_true rfl) (Nat.le_of_ble_eq_true rfl) (Nat.le_of_ble_eq_true rfl)

set_option maxRecDepth 100000 in
set_option maxHeartbeats 4000000 in
theorem g_steamer {l : Launch} (hst : l.stackTraces = false) {κ : Kx} {x : Nat} {a : AD} {N P : Nat → Nat} {C : MS} {L L0 : List Nat} {f0 f : Nat → va_E} (hz : ZC κ x a N P C L0 f0 L f) (hw : WC N P C) {v w : Int32} : PM l κ yX5_steamer wsX5_steamer ({ frames := 7, cells := 5, slots := 3016, locals := 177 } : Room) [.ref x, .int v, .int w] L f (fun v9 L1 f1 => v9 = some (.int (nI (N 3))) ∧ steamerTG N P C v w = 0 ∧ ∃ a1, ZC κ x a1 (va_up (va_up N 3 (N 3 + 1)) 4 (N 4 + 1)) (va_up P (N 4) (N 3)) (steamerC N C v w) L f L1 f1) (exI (steamerTG N P C v w)) 5 3016 := by
  refine PM.mk (cc := cX5_steamer) (maxL := 5) (ret := (some .int)) (by decide) rfl (Nat.le_of_ble_eq_true rfl) ?_
  intro p e s m args below meth c ls hx hb hml hr hlk hnm hown hts ht hh hl
  have hl : lv_has ls 5 [(0, .ref x), (1, .int v), (2, .int w)] := hl
  have S : CallFix p m c cX5_steamer 5 s args wsX5_steamer RX5 := ⟨hx, hb, hml, hown, hts⟩
  have inX4 : ∀ w ∈ wsX40, w ∈ wsX5_steamer := by decide +kernel
  have inX5 : ∀ w ∈ wsX50, w ∈ wsX5_steamer := by decide +kernel
  have hz := hz.self
  obtain ⟨b0, b1, b2, b3, b4⟩ := id hw.1
  refine lv_iload_n hx hb dX5_steamer_0 rfl (lv_at hl 1 rfl) ?_
  refine lv_iconst (v := 1) hx hb dX5_steamer_1 (by decide) ?_
  refine lv_sipush (v := 9999) hx hb dX5_steamer_2 (by decide) ?_
  refine k_callS (As := [.int v, .int 1, .int 9999]) (g_ror hst (x := v) (y := 1) (z := 9999)) S hh (va_cwS 3 hts gX5_steamer_X5_refuseOutOfRange rfl rfl rfl (by decide +kernel) ⟨(Nat.le_of_ble_eq_true rfl), (Nat.le_of_ble_eq_true rfl)⟩) rfl hl.1 rfl (Nat.le_of_ble_eq_true rfl) dX5_steamer_5 ⟨(Nat.le_of_ble_eq_true rfl), (Nat.le_of_ble_eq_true rfl)⟩ (fun v L1 f1 H locs hp hh => ?_) (fun E ce q9 H locs hE hh h1 h2 h3 => k_out ht hlk (by obtain ⟨rfl, hE2⟩ := hE; exact Or.inl ⟨rfl, by unfold steamerTG; (repeat' split); all_goals first | rfl | contradiction | exact absurd ⟨by assumption, by assumption⟩ hE2⟩) hh h1 h2 h3 (Nat.le_of_ble_eq_true rfl) (Nat.le_of_ble_eq_true rfl))
  obtain ⟨rfl, hin5, hL1, hf1⟩ := hp
  subst hL1; subst hf1
  obtain ⟨hia5, hib5⟩ := id hin5
  refine lv_iload_n hx hb dX5_steamer_8 rfl (lv_at hl 2 rfl) ?_
  refine lv_iconst (v := 1) hx hb dX5_steamer_9 (by decide) ?_
  refine lv_sipush (v := 500) hx hb dX5_steamer_10 (by decide) ?_
  refine k_callS (As := [.int w, .int 1, .int 500]) (g_ror hst (x := w) (y := 1) (z := 500)) S hh (va_cwS 3 hts gX5_steamer_X5_refuseOutOfRange rfl rfl rfl (by decide +kernel) ⟨(Nat.le_of_ble_eq_true rfl), (Nat.le_of_ble_eq_true rfl)⟩) rfl hl.1 rfl (Nat.le_of_ble_eq_true rfl) dX5_steamer_13 ⟨(Nat.le_of_ble_eq_true rfl), (Nat.le_of_ble_eq_true rfl)⟩ (fun v L1 f1 H locs hp hh => ?_) (fun E ce q9 H locs hE hh h1 h2 h3 => k_out ht hlk (by obtain ⟨rfl, hE2⟩ := hE; exact Or.inl ⟨rfl, by unfold steamerTG; (repeat' split); all_goals first | rfl | contradiction | exact absurd ⟨by assumption, by assumption⟩ hE2⟩) hh h1 h2 h3 (Nat.le_of_ble_eq_true rfl) (Nat.le_of_ble_eq_true rfl))
  obtain ⟨rfl, hin13, hL1, hf1⟩ := hp
  subst hL1; subst hf1
  obtain ⟨hia13, hib13⟩ := id hin13
  refine lv_aload_n hx hb dX5_steamer_16 rfl (lv_at hl 0 rfl) ?_
  refine xx_get S hh hz inX5 3 (by decide) rfl rfl (by decide +kernel) dX5_steamer_17 ?_
  obtain ⟨mc20, hL20, hF20⟩ := hz.lst 3 (by decide)
  refine k_callV0 (As := []) (c_size hL20 hF20) S hh (cwV 0 hts gX5_steamer_Jx4a65c_size_8abf5 rfl rfl rfl (by decide +kernel) ⟨(Nat.le_of_ble_eq_true rfl), (Nat.le_of_ble_eq_true rfl)⟩) hL20 hF20 (q := (RJx4a65c, TJx4a65c, 3)) rfl rfl rfl hl.1 rfl (Nat.le_of_ble_eq_true rfl) dX5_steamer_20 ⟨(Nat.le_of_ble_eq_true rfl), (Nat.le_of_ble_eq_true rfl)⟩ (fun v L1 f1 H locs hp hh => ?_)
  obtain ⟨rfl, hL1, hf1⟩ := hp
  subst hL1; subst hf1
  refine lv_istore_n (lv' := [(3, .int (nI (N 3))), (0, .ref x), (1, .int v), (2, .int w)]) hx hb dX5_steamer_23 rfl hl (by decide) rfl (fun ls hl => ?_)
  refine lv_aload_n hx hb dX5_steamer_24 rfl (lv_at hl 1 rfl) ?_
  refine lv_iconst (v := 0) hx hb dX5_steamer_25 (by decide) ?_
  refine k_callV0 (As := [.int 0]) (g_count hz hw (how := 0)) S hh (cwV 1 hts gX5_steamer_X5_countFaring rfl rfl rfl (by decide +kernel) ⟨(Nat.le_of_ble_eq_true rfl), (Nat.le_of_ble_eq_true rfl)⟩) hz.1.1.1 hz.1.1.2 (q := (RX5, TX5, 7)) rfl rfl rfl hl.1 rfl (Nat.le_of_ble_eq_true rfl) dX5_steamer_26 ⟨(Nat.le_of_ble_eq_true rfl), (Nat.le_of_ble_eq_true rfl)⟩ (fun v L1 f1 H locs hp hh => ?_)
  obtain ⟨rfl, hL1, hf1⟩ := hp
  subst hL1; subst hf1
  refine lv_bipush (v := 8) hx hb dX5_steamer_29 (by decide) ?_
  refine lv_icmp_ge (tgt := 41) hx hb dX5_steamer_31 (by decide) (fun c31 => ?_) (fun c31 => ?_)
  · exact k_throw (E := "java/lang/IllegalStateException") (text := "there is no room outside") hx hb hst (hml.trans hl.1.symm) hown ht hlk hts hh (Or.inr ⟨rfl, by unfold steamerTG; (repeat' split); all_goals first | rfl | contradiction⟩) (by decide +kernel) (by decide +kernel) (by decide +kernel) (by decide +kernel) (by decide +kernel) (fun w h => List.mem_cons_of_mem _ (List.mem_append_left _ (List.mem_append_right _ h))) (by decide +kernel) (by decide +kernel) dX5_steamer_41 dX5_steamer_44 dX5_steamer_45 dX5_steamer_47 dX5_steamer_50 (Nat.le_of_ble_eq_true rfl) (Nat.le_of_ble_eq_true rfl) (Nat.le_of_ble_eq_true rfl) (Nat.le_of_ble_eq_true rfl) (Nat.le_of_ble_eq_true rfl) (Nat.le_of_ble_eq_true rfl)
  · refine lv_iload_n hx hb dX5_steamer_34 rfl (lv_at hl 0 rfl) ?_
    refine lv_sipush (v := 512) hx hb dX5_steamer_35 (by decide) ?_
    refine lv_icmp_lt (tgt := 51) hx hb dX5_steamer_38 (by decide) (fun c38 => ?_) (fun c38 => ?_)
    · refine h_new (c0 := c) (C := RX4) (T := TX4) (N := 4) (ci := 5) (fs := [.int 0, .int 0, .int 0, .int 0]) hx hb hts hown hh rfl inX4 tyX4 tyX4_ok (hts (.classLink RX5 82 RX4) (by decide +kernel)) (hts (.instantiable RX4 4) (by decide +kernel)) (hts (.initialized RX4) (by decide +kernel)) dfX4 (Nat.le_of_ble_eq_true rfl) (Nat.le_of_ble_eq_true rfl) dX5_steamer_51 (fun q H hq hh => ?_)
      have hz0 := hz
      have hz := hz0.mono (f1 := (va_up f q (.inr (5, ([.int 0, .int 0, .int 0, .int 0] : List Value))))) (fun y h => List.mem_append_left [q] h) (fun y hy => by simp [va_up, show y ≠ q from fun z => hq (z ▸ hy)])
      refine lv_dup hx hb dX5_steamer_54 rfl ?_
      refine lv_iload_n hx hb dX5_steamer_55 rfl (lv_at hl 0 rfl) ?_
      refine lv_iload_n hx hb dX5_steamer_56 rfl (lv_at hl 2 rfl) ?_
      refine lv_iload_n hx hb dX5_steamer_57 rfl (lv_at hl 3 rfl) ?_
      have hqL : q ∈ L ++ [q] := List.mem_append_right _ List.mem_cons_self
      refine k_callI (As := [.int (nI (N 3)), .int v, .int w]) (c_X4_init hqL (show (va_up f q (.inr (5, ([.int 0, .int 0, .int 0, .int 0] : List Value)))) q = _ by simp [va_up])) S hh (cwI 3 hts gX5_steamer_X4_init rfl rfl rfl (hts (.initialized RX4) (by decide +kernel)) (hts (.methodLink RX5 84 yX4_init) (by decide +kernel)) (hts (.instanceMethod yX4_init) (by decide +kernel)) rfl (by decide +kernel) ⟨(Nat.le_of_ble_eq_true rfl), (Nat.le_of_ble_eq_true rfl)⟩) rfl hl.1 rfl (Nat.le_of_ble_eq_true rfl) dX5_steamer_58 ⟨(Nat.le_of_ble_eq_true rfl), (Nat.le_of_ble_eq_true rfl)⟩ (fun v9 L1 f1 H locs hp hh => ?_)
      obtain ⟨rfl, hL1, hq1, hq2⟩ := hp
      subst hL1
      have hz := hz0.mono (f1 := f1) (fun y h => List.mem_append_left [q] h) (fun y hy => by rw [hq2 y (fun z => hq (z ▸ hy))]; simp [va_up, show y ≠ q from fun z => hq (z ▸ hy)])
      refine lv_astore (lv' := [(4, .ref q), (3, .int (nI (N 3))), (0, .ref x), (1, .int v), (2, .int w)]) hx hb dX5_steamer_61 hl (by decide) rfl (fun ls hl => ?_)
      refine lv_aload_n hx hb dX5_steamer_63 rfl (lv_at hl 2 rfl) ?_
      refine xx_get S hh hz inX5 3 (by decide) rfl rfl (by decide +kernel) dX5_steamer_64 ?_
      refine lv_aload hx hb dX5_steamer_67 (lv_at hl 0 rfl) ?_
      have hqE : isEl (f1 q) := (by rw [hq1]; exact isEl_ci (k := 3))
      have hTE69 := hh.teL
      obtain ⟨mc69, hLP69, hFP69⟩ := hz.lst 3 (by decide)
      refine k_callV0 (As := [.ref q]) (c_add1 hLP69 hFP69 (hz.1.2.2.2.2.1 3 (by decide)) hqL hqE (by omega)) S hh (cwV 1 hts gX5_steamer_Jx4a65c_add_9ea2d rfl rfl rfl (by decide +kernel) ⟨(Nat.le_of_ble_eq_true rfl), (Nat.le_of_ble_eq_true rfl)⟩) hLP69 hFP69 (q := (RJx4a65c, TJx4a65c, 3)) rfl rfl rfl hl.1 rfl (Nat.le_of_ble_eq_true rfl) dX5_steamer_69 ⟨(Nat.le_of_ble_eq_true rfl), (Nat.le_of_ble_eq_true rfl)⟩ (fun v9 L69 f69 H locs hp hh => ?_)
      obtain ⟨rfl, hAdd69⟩ := hp
      obtain ⟨e1, hz2⟩ := hz.add hw hTE69 (k := 3) (by decide) hqL (C1 := steamerC N C v w) (hq1.trans (by simp [hulkC, lighterC, gangC, steamerC, ciOf, fsOf, hFv, lFv, gFv, sFv, stM, va_up, upd]; try rfl)) (fun i hi z => hq (z ▸ (hz0.1.2.1 3 i (by decide) hi).1)) (((Agr.rf.st (by decide) rfl).st (by decide) rfl).st (by decide) rfl) (fun z => absurd z (by decide)) hAdd69
      have hq3 : adA a 3 (N 3) q 3 e1 3 (N 3) = q := by simp [adA]
      have hlt3 : N 3 < va_up N 3 (N 3 + 1) 3 := by simp [va_up]
      obtain ⟨hq4, hq5⟩ := hz2.1.2.1 3 (N 3) (by decide) hlt3
      rw [hq3] at hq4 hq5
      have hqE2 : isEl (f69 q) := by rw [hq5]; exact isEl_ci (k := 3)
      have h44 : va_up N 3 (N 3 + 1) 4 ≤ 600 := by show N 4 ≤ 600; omega
      refine lv_pop hx hb dX5_steamer_72 rfl ?_
      refine lv_aload_n hx hb dX5_steamer_73 rfl (lv_at hl 2 rfl) ?_
      refine xx_get S hh hz2 inX5 4 (by decide) rfl rfl (by decide +kernel) dX5_steamer_74 ?_
      refine lv_aload hx hb dX5_steamer_77 (lv_at hl 0 rfl) ?_
      have hTE79 := hh.teL
      obtain ⟨mc79, hLP79, hFP79⟩ := hz2.lst 4 (by decide)
      refine k_callV0 (As := [.ref q]) (c_add1 hLP79 hFP79 (hz2.1.2.2.2.2.1 4 (by decide)) hq4 hqE2 h44) S hh (cwV 1 hts gX5_steamer_Jx4a65c_add_9ea2d rfl rfl rfl (by decide +kernel) ⟨(Nat.le_of_ble_eq_true rfl), (Nat.le_of_ble_eq_true rfl)⟩) hLP79 hFP79 (q := (RJx4a65c, TJx4a65c, 3)) rfl rfl rfl hl.1 rfl (Nat.le_of_ble_eq_true rfl) dX5_steamer_79 ⟨(Nat.le_of_ble_eq_true rfl), (Nat.le_of_ble_eq_true rfl)⟩ (fun v9 L79 f79 H locs hp hh => ?_)
      obtain ⟨rfl, hAdd79⟩ := hp
      obtain ⟨e2, hz3⟩ := hz2.addP hTE79 (t := N 3) (by rw [hq3]; exact hAdd79)
      refine lv_pop hx hb dX5_steamer_82 rfl ?_
      refine lv_iload_n hx hb dX5_steamer_83 rfl (lv_at hl 1 rfl) ?_
      exact k_iret hx hb hr hlk hh dX5_steamer_84 (Nat.le_of_ble_eq_true rfl) (Nat.le_of_ble_eq_true rfl) ⟨rfl, (by unfold steamerTG; (repeat' split); all_goals first | rfl | contradiction), _, hz3⟩
    · exact k_throw (E := "java/lang/IllegalStateException") (text := "there is no room outside") hx hb hst (hml.trans hl.1.symm) hown ht hlk hts hh (Or.inr ⟨rfl, by unfold steamerTG; (repeat' split); all_goals first | rfl | contradiction⟩) (by decide +kernel) (by decide +kernel) (by decide +kernel) (by decide +kernel) (by decide +kernel) (fun w h => List.mem_cons_of_mem _ (List.mem_append_left _ (List.mem_append_right _ h))) (by decide +kernel) (by decide +kernel) dX5_steamer_41 dX5_steamer_44 dX5_steamer_45 dX5_steamer_47 dX5_steamer_50 (Nat.le_of_ble_eq_true rfl) (Nat.le_of_ble_eq_true rfl) (Nat.le_of_ble_eq_true rfl) (Nat.le_of_ble_eq_true rfl) (Nat.le_of_ble_eq_true rfl) (Nat.le_of_ble_eq_true rfl)

set_option maxRecDepth 100000 in
set_option maxHeartbeats 4000000 in
theorem g_order {l : Launch} (hst : l.stackTraces = false) {κ : Kx} {x : Nat} {a : AD} {N P : Nat → Nat} {C : MS} {L L0 : List Nat} {f0 f : Nat → va_E} (hz : ZC κ x a N P C L0 f0 L f) (hw : WC N P C) {v w u : Int32} : PM l κ yX5_order wsX5_order ({ frames := 7, cells := 6, slots := 36, locals := 103 } : Room) [.ref x, .int v, .int w, .int u] L f (fun v9 L1 f1 => v9 = none ∧ orderTG N C v w u = 0 ∧ ∃ a1, ZC κ x a1 N P (orderG C v w u) L f L1 f1) (exB (orderTG N C v w u)) 6 36 := by
  refine PM.mk (cc := cX5_order) (maxL := 7) (ret := none) (by decide) rfl (Nat.le_of_ble_eq_true rfl) ?_
  intro p e s m args below meth c ls hx hb hml hr hlk hnm hown hts ht hh hl
  have hl : lv_has ls 7 [(0, .ref x), (1, .int v), (2, .int w), (3, .int u)] := hl
  have S : CallFix p m c cX5_order 7 s args wsX5_order RX5 := ⟨hx, hb, hml, hown, hts⟩
  have inX0 : ∀ w ∈ wsX00, w ∈ wsX5_order := by decide +kernel
  have inX2 : ∀ w ∈ wsX20, w ∈ wsX5_order := by decide +kernel
  have inX3 : ∀ w ∈ wsX30, w ∈ wsX5_order := by decide +kernel
  have inX4 : ∀ w ∈ wsX40, w ∈ wsX5_order := by decide +kernel
  have inX5 : ∀ w ∈ wsX50, w ∈ wsX5_order := by decide +kernel
  have hz := hz.self
  obtain ⟨b0, b1, b2, b3, b4⟩ := id hw.1
  refine lv_aload_n hx hb dX5_order_0 rfl (lv_at hl 0 rfl) ?_
  refine lv_iload_n hx hb dX5_order_1 rfl (lv_at hl 1 rfl) ?_
  refine k_callV (As := [.int v]) (g_findLighter hst hz hw (w := v)) S hh (cwV 1 hts gX5_order_X5_findLighter rfl rfl rfl (by decide +kernel) ⟨(Nat.le_of_ble_eq_true rfl), (Nat.le_of_ble_eq_true rfl)⟩) hz.1.1.1 hz.1.1.2 (q := (RX5, TX5, 7)) rfl rfl rfl hl.1 rfl (Nat.le_of_ble_eq_true rfl) dX5_order_2 ⟨(Nat.le_of_ble_eq_true rfl), (Nat.le_of_ble_eq_true rfl)⟩ (fun v L1 f1 H locs hp hh => ?_) (fun E ce q9 H locs hE hh h1 h2 h3 => k_out ht hlk (by obtain ⟨rfl, hE2⟩ := hE; first | exact Or.inl ⟨rfl, by unfold orderTG; (repeat' split); all_goals first | rfl | contradiction⟩ | exact Or.inr ⟨rfl, by unfold orderTG; (repeat' split); all_goals first | rfl | contradiction⟩) hh h1 h2 h3 (Nat.le_of_ble_eq_true rfl) (Nat.le_of_ble_eq_true rfl))
  obtain ⟨rfl, hne2, hL1, hf1⟩ := hp
  subst hL1; subst hf1
  obtain ⟨hv2, hl2⟩ := is_ix rfl (by omega) hne2
  refine lv_astore (lv' := [(4, .ref (a 1 (nT v))), (0, .ref x), (1, .int v), (2, .int w), (3, .int u)]) hx hb dX5_order_5 hl (by decide) rfl (fun ls hl => ?_)
  refine lv_aload_n hx hb dX5_order_7 rfl (lv_at hl 1 rfl) ?_
  refine lv_iload_n hx hb dX5_order_8 rfl (lv_at hl 3 rfl) ?_
  refine k_callV (As := [.int w]) (g_findGang hst hz hw (w := w)) S hh (cwV 1 hts gX5_order_X5_findGang rfl rfl rfl (by decide +kernel) ⟨(Nat.le_of_ble_eq_true rfl), (Nat.le_of_ble_eq_true rfl)⟩) hz.1.1.1 hz.1.1.2 (q := (RX5, TX5, 7)) rfl rfl rfl hl.1 rfl (Nat.le_of_ble_eq_true rfl) dX5_order_9 ⟨(Nat.le_of_ble_eq_true rfl), (Nat.le_of_ble_eq_true rfl)⟩ (fun v L1 f1 H locs hp hh => ?_) (fun E ce q9 H locs hE hh h1 h2 h3 => k_out ht hlk (by obtain ⟨rfl, hE2⟩ := hE; first | exact Or.inl ⟨rfl, by unfold orderTG; (repeat' split); all_goals first | rfl | contradiction⟩ | exact Or.inr ⟨rfl, by unfold orderTG; (repeat' split); all_goals first | rfl | contradiction⟩) hh h1 h2 h3 (Nat.le_of_ble_eq_true rfl) (Nat.le_of_ble_eq_true rfl))
  obtain ⟨rfl, hne9, hL1, hf1⟩ := hp
  subst hL1; subst hf1
  obtain ⟨hv9, hl9⟩ := is_ix rfl (by omega) hne9
  refine lv_astore (lv' := [(5, .ref (a 2 (nT w))), (4, .ref (a 1 (nT v))), (0, .ref x), (1, .int v), (2, .int w), (3, .int u)]) hx hb dX5_order_12 hl (by decide) rfl (fun ls hl => ?_)
  refine lv_aload_n hx hb dX5_order_14 rfl (lv_at hl 2 rfl) ?_
  refine lv_iload_n hx hb dX5_order_15 rfl (lv_at hl 5 rfl) ?_
  refine k_callV (As := [.int u]) (g_findSteamer hst hz hw (w := u)) S hh (cwV 1 hts gX5_order_X5_findSteamer rfl rfl rfl (by decide +kernel) ⟨(Nat.le_of_ble_eq_true rfl), (Nat.le_of_ble_eq_true rfl)⟩) hz.1.1.1 hz.1.1.2 (q := (RX5, TX5, 7)) rfl rfl rfl hl.1 rfl (Nat.le_of_ble_eq_true rfl) dX5_order_16 ⟨(Nat.le_of_ble_eq_true rfl), (Nat.le_of_ble_eq_true rfl)⟩ (fun v L1 f1 H locs hp hh => ?_) (fun E ce q9 H locs hE hh h1 h2 h3 => k_out ht hlk (by obtain ⟨rfl, hE2⟩ := hE; first | exact Or.inl ⟨rfl, by unfold orderTG; (repeat' split); all_goals first | rfl | contradiction⟩ | exact Or.inr ⟨rfl, by unfold orderTG; (repeat' split); all_goals first | rfl | contradiction⟩) hh h1 h2 h3 (Nat.le_of_ble_eq_true rfl) (Nat.le_of_ble_eq_true rfl))
  obtain ⟨rfl, hne16, hL1, hf1⟩ := hp
  subst hL1; subst hf1
  obtain ⟨hv16, hl16⟩ := is_ix rfl (by omega) hne16
  refine lv_astore (lv' := [(6, .ref (a 3 (nT u))), (5, .ref (a 2 (nT w))), (4, .ref (a 1 (nT v))), (0, .ref x), (1, .int v), (2, .int w), (3, .int u)]) hx hb dX5_order_19 hl (by decide) rfl (fun ls hl => ?_)
  refine lv_aload hx hb dX5_order_21 (lv_at hl 2 rfl) ?_
  refine k_callS (As := [.ref (a 1 (nT v))]) (g_ro hst hz (i := (nT v)) hl2) S hh (va_cwS 1 hts gX5_order_X5_refuseOrdered rfl rfl rfl (by decide +kernel) ⟨(Nat.le_of_ble_eq_true rfl), (Nat.le_of_ble_eq_true rfl)⟩) rfl hl.1 rfl (Nat.le_of_ble_eq_true rfl) dX5_order_23 ⟨(Nat.le_of_ble_eq_true rfl), (Nat.le_of_ble_eq_true rfl)⟩ (fun v L1 f1 H locs hp hh => ?_) (fun E ce q9 H locs hE hh h1 h2 h3 => k_out ht hlk (by obtain ⟨rfl, hE2⟩ := hE; first | exact Or.inl ⟨rfl, by unfold orderTG; (repeat' split); all_goals first | rfl | contradiction⟩ | exact Or.inr ⟨rfl, by unfold orderTG; (repeat' split); all_goals first | rfl | contradiction⟩) hh h1 h2 h3 (Nat.le_of_ble_eq_true rfl) (Nat.le_of_ble_eq_true rfl))
  obtain ⟨rfl, hn6, hL1, hf1⟩ := hp
  subst hL1; subst hf1
  refine lv_aload hx hb dX5_order_26 (lv_at hl 1 rfl) ?_
  refine k_callS (As := [.ref (a 2 (nT w))]) (g_rb hst hz (i := (nT w)) hl9) S hh (va_cwS 1 hts gX5_order_X5_refuseBusy rfl rfl rfl (by decide +kernel) ⟨(Nat.le_of_ble_eq_true rfl), (Nat.le_of_ble_eq_true rfl)⟩) rfl hl.1 rfl (Nat.le_of_ble_eq_true rfl) dX5_order_28 ⟨(Nat.le_of_ble_eq_true rfl), (Nat.le_of_ble_eq_true rfl)⟩ (fun v L1 f1 H locs hp hh => ?_) (fun E ce q9 H locs hE hh h1 h2 h3 => k_out ht hlk (by obtain ⟨rfl, hE2⟩ := hE; first | exact Or.inl ⟨rfl, by unfold orderTG; (repeat' split); all_goals first | rfl | contradiction⟩ | exact Or.inr ⟨rfl, by unfold orderTG; (repeat' split); all_goals first | rfl | contradiction⟩) hh h1 h2 h3 (Nat.le_of_ble_eq_true rfl) (Nat.le_of_ble_eq_true rfl))
  obtain ⟨rfl, hnf, hL1, hf1⟩ := hp
  subst hL1; subst hf1
  refine lv_aload hx hb dX5_order_31 (lv_at hl 0 rfl) ?_
  refine k_callV0 (As := []) (g_hasLeft hz (i := (nT u)) hl16) S hh (cwV 0 hts gX5_order_X4_hasLeft rfl rfl rfl (by decide +kernel) ⟨(Nat.le_of_ble_eq_true rfl), (Nat.le_of_ble_eq_true rfl)⟩) (hz.1.2.1 3 (nT u) (by decide) hl16).1 (hz.1.2.1 3 (nT u) (by decide) hl16).2 (q := (RX4, TX4, 4)) rfl rfl rfl hl.1 rfl (Nat.le_of_ble_eq_true rfl) dX5_order_33 ⟨(Nat.le_of_ble_eq_true rfl), (Nat.le_of_ble_eq_true rfl)⟩ (fun v L1 f1 H locs hp hh => ?_)
  obtain ⟨rfl, hL1, hf1⟩ := hp
  subst hL1; subst hf1
  refine lv_if_eq (tgt := 49) hx hb dX5_order_36 (by decide) (fun c36 => ?_) (fun c36 => ?_)
  · refine lv_aload hx hb dX5_order_49 (lv_at hl 2 rfl) ?_
    refine h_new (c0 := c) (C := RX3) (T := TX3) (N := 2) (ci := 4) (fs := [.null, .null]) hx hb hts hown hh rfl inX3 tyX3 tyX3_ok (hts (.classLink RX5 111 RX3) (by decide +kernel)) (hts (.instantiable RX3 2) (by decide +kernel)) (hts (.initialized RX3) (by decide +kernel)) dfX3 (Nat.le_of_ble_eq_true rfl) (Nat.le_of_ble_eq_true rfl) dX5_order_51 (fun q H hq hh => ?_)
    have hz0 := hz
    have hz := hz0.mono (f1 := (va_up f q (.inr (4, ([.null, .null] : List Value))))) (fun y h => List.mem_append_left [q] h) (fun y hy => by simp [va_up, show y ≠ q from fun z => hq (z ▸ hy)])
    refine lv_dup hx hb dX5_order_54 rfl ?_
    refine lv_aload hx hb dX5_order_55 (lv_at hl 1 rfl) ?_
    refine lv_aload hx hb dX5_order_57 (lv_at hl 0 rfl) ?_
    have hqL : q ∈ L ++ [q] := List.mem_append_right _ List.mem_cons_self
    refine k_callI (As := [.ref (a 2 (nT w)), .ref (a 3 (nT u))]) (c_X3_init hqL (show (va_up f q (.inr (4, ([.null, .null] : List Value)))) q = _ by simp [va_up])) S hh (cwI 2 hts gX5_order_X3_init rfl rfl rfl (hts (.initialized RX3) (by decide +kernel)) (hts (.methodLink RX5 113 yX3_init) (by decide +kernel)) (hts (.instanceMethod yX3_init) (by decide +kernel)) rfl (by decide +kernel) ⟨(Nat.le_of_ble_eq_true rfl), (Nat.le_of_ble_eq_true rfl)⟩) rfl hl.1 rfl (Nat.le_of_ble_eq_true rfl) dX5_order_59 ⟨(Nat.le_of_ble_eq_true rfl), (Nat.le_of_ble_eq_true rfl)⟩ (fun v9 L1 f1 H locs hp hh => ?_)
    obtain ⟨rfl, hL1, hq1, hq2⟩ := hp
    subst hL1
    have hz := hz0.mono (f1 := f1) (fun y h => List.mem_append_left [q] h) (fun y hy => by rw [hq2 y (fun z => hq (z ▸ hy))]; simp [va_up, show y ≠ q from fun z => hq (z ▸ hy)])
    refine h_put hx hb hts hown hh (C := RX2) (T := TX2) (N := 7) (hz.1.2.1 1 (nT v) (by decide) hl2).1 (hz.1.2.1 1 (nT v) (by decide) hl2).2 rfl inX2 tyX2 tyX2_ok nmX2 6 (by decide) (hts (.fieldLink RX5 116 "CoalHulks$Lighter" "task" "LCoalHulks$Order;") (by decide +kernel)) (fun _ h9 => h9) rfl (ty := .object "CoalHulks$Order") rfl rfl rfl (Nat.le_of_ble_eq_true rfl) dX5_order_62 (fun H locs hh => ?_)
    have hwn : ¬ w = -1 := fun z => hne9 (by rw [z]; unfold isF; rw [if_pos (by decide)])
    have hz := hz.task hl2 hn6 hwn hqL hq1
    refine lv_aload hx hb dX5_order_65 (lv_at hl 1 rfl) ?_
    refine lv_iconst (v := 1) hx hb dX5_order_67 (by decide) ?_
    refine x_put S hh hz 2 (by decide) (i := (nT w)) hl9 (Cn := RX0) (T := TX0) (Nn := 5) rfl inX0 tyX0 tyX0_ok nmX0 2 (by decide) (ty := .boolean) rfl rfl rfl rfl rfl (Nat.le_of_ble_eq_true rfl) (put2 _ _ _ _).1 (by decide +kernel) dX5_order_68 (fun f9 H locs hh hz => ?_)
    exact k_vret hx hb hr hlk hh dX5_order_71 (Nat.le_of_ble_eq_true rfl) (Nat.le_of_ble_eq_true rfl) ⟨rfl, (by unfold orderTG; (repeat' split); all_goals first | rfl | contradiction), _, hz⟩
  · exact k_throw (E := "java/lang/IllegalStateException") (text := "the steamer has left") hx hb hst (hml.trans hl.1.symm) hown ht hlk hts hh (Or.inr ⟨rfl, by unfold orderTG; (repeat' split); all_goals first | rfl | contradiction⟩) (by decide +kernel) (by decide +kernel) (by decide +kernel) (by decide +kernel) (by decide +kernel) (fun w h => List.mem_cons_of_mem _ (List.mem_append_left _ (List.mem_append_right _ h))) (by decide +kernel) (by decide +kernel) dX5_order_39 dX5_order_42 dX5_order_43 dX5_order_45 dX5_order_48 (Nat.le_of_ble_eq_true rfl) (Nat.le_of_ble_eq_true rfl) (Nat.le_of_ble_eq_true rfl) (Nat.le_of_ble_eq_true rfl) (Nat.le_of_ble_eq_true rfl) (Nat.le_of_ble_eq_true rfl)

theorem rng_nT {v : Int32} {M : Int32} {n : Nat} (hM : M.toInt = n) (h1 : ¬ v < 0) (h2 : v ≤ M) : v = nI (nT v) ∧ nT v ≤ n := by
  obtain ⟨j, hj, rfl⟩ := nI_of2 hM h1 h2
  have hb : j < 2 ^ 31 := by
    have h9 := Int32.toInt_lt M
    omega
  rw [show nT (nI j) = j from nI_clamp hb]
  exact ⟨rfl, hj⟩

set_option maxRecDepth 100000 in
set_option maxHeartbeats 4000000 in
theorem g_hours {l : Launch} (hst : l.stackTraces = false) {κ : Kx} {x : Nat} {a : AD} {N P : Nat → Nat} {C : MS} {L L0 : List Nat} {f0 f : Nat → va_E} (hz : ZC κ x a N P C L0 f0 L f) (hw : WC N P C) {v : Int32} : PM l κ yX5_hours wsX5_hours ({ frames := 7, cells := 1, slots := 6, locals := 136 } : Room) [.ref x, .int v] L f (fun v9 L1 f1 => v9 = some (.int (hsG N P C (nT v)).2) ∧ inR v 1 500 ∧ L = L1 ∧ ZC κ x a (va_up N 4 (hsG N P C (nT v)).1.1.2) (hsG N P C (nT v)).1.1.1 (hsG N P C (nT v)).1.2 L f L1 f1) (fun E => E = "java/lang/IllegalArgumentException" ∧ ¬ inR v 1 500) 1 6 := by
  refine PM.mk (cc := cX5_hours) (maxL := 4) (ret := (some .int)) (by decide) rfl (Nat.le_of_ble_eq_true rfl) ?_
  intro p e s m args below meth c ls hx hb hml hr hlk hnm hown hts ht hh hl
  have hl : lv_has ls 4 [(0, .ref x), (1, .int v)] := hl
  have S : CallFix p m c cX5_hours 4 s args wsX5_hours RX5 := ⟨hx, hb, hml, hown, hts⟩
  have inX0 : ∀ w ∈ wsX00, w ∈ wsX5_hours := by decide +kernel
  have inX1 : ∀ w ∈ wsX10, w ∈ wsX5_hours := by decide +kernel
  have inX2 : ∀ w ∈ wsX20, w ∈ wsX5_hours := by decide +kernel
  have inX3 : ∀ w ∈ wsX30, w ∈ wsX5_hours := by decide +kernel
  have inX4 : ∀ w ∈ wsX40, w ∈ wsX5_hours := by decide +kernel
  have inX5 : ∀ w ∈ wsX50, w ∈ wsX5_hours := by decide +kernel
  have hz := hz.self
  refine lv_iload_n hx hb dX5_hours_0 rfl (lv_at hl 1 rfl) ?_
  refine lv_iconst (v := 1) hx hb dX5_hours_1 (by decide) ?_
  refine lv_sipush (v := 500) hx hb dX5_hours_2 (by decide) ?_
  refine k_callS (As := [.int v, .int 1, .int 500]) (g_ror hst (x := v) (y := 1) (z := 500)) S hh (va_cwS 3 hts gX5_hours_X5_refuseOutOfRange rfl rfl rfl (by decide +kernel) ⟨(Nat.le_of_ble_eq_true rfl), (Nat.le_of_ble_eq_true rfl)⟩) rfl hl.1 rfl (Nat.le_of_ble_eq_true rfl) dX5_hours_5 ⟨(Nat.le_of_ble_eq_true rfl), (Nat.le_of_ble_eq_true rfl)⟩ (fun v L1 f1 H locs hp hh => ?_) (fun E ce q9 H locs hE hh h1 h2 h3 => k_out ht hlk hE hh h1 h2 h3 (Nat.le_of_ble_eq_true rfl) (Nat.le_of_ble_eq_true rfl))
  obtain ⟨rfl, hin5, hL1, hf1⟩ := hp
  subst hL1; subst hf1
  obtain ⟨hia5, hib5⟩ := id hin5
  refine lv_iconst (v := 0) hx hb dX5_hours_8 (by decide) ?_
  refine lv_istore_n (lv' := [(2, .int 0), (0, .ref x), (1, .int v)]) hx hb dX5_hours_9 rfl hl (by decide) rfl (fun ls hl => ?_)
  refine lv_iconst (v := 0) hx hb dX5_hours_10 (by decide) ?_
  refine lv_istore_n (lv' := [(3, .int 0), (2, .int 0), (0, .ref x), (1, .int v)]) hx hb dX5_hours_11 rfl hl (by decide) rfl (fun ls hl => ?_)
  obtain ⟨hv1, hv2⟩ := rng_nT (M := 500) (n := 500) (by decide) (fun z => hia5 (Int32.lt_trans z (by decide))) hib5
  have loop : ∀ (n i : Nat) (x2 : Int32), i ≤ nT v → nT v + 1 ≤ i + n → x2 = (hsG N P C i).2 → ∀ (f9 : Nat → va_E) (H : Heap) (locs : List Loc), HH κ L f9 s H locs → ZC κ x a (va_up N 4 (hsG N P C i).1.1.2) (hsG N P C i).1.1.1 (hsG N P C i).1.2 L f L f9 → ∀ ls : Array Slot, lv_has ls 4 [(0, .ref x), (1, .int v), (2, .int x2), (3, .int (nI i))] → W p l e ({ frames := 7, cells := 1, slots := 6, locals := 136 } : Room) s m args below meth c H locs 1 6 (vx_MQ below (PQ κ (fun v9 L1 f1 => v9 = some (.int (hsG N P C (nT v)).2) ∧ inR v 1 500 ∧ L = L1 ∧ ZC κ x a (va_up N 4 (hsG N P C (nT v)).1.1.2) (hsG N P C (nT v)).1.1.1 (hsG N P C (nT v)).1.2 L f L1 f1)) (PX κ L f (fun E => E = "java/lang/IllegalArgumentException" ∧ ¬ inR v 1 500)) args s 1 6 (kA κ)) (F0 m 12 ls []) := by
    intro n
    induction n with
    | zero =>
      intro i x2 h1 h2
      exact absurd h2 (by omega)
    | succ n ih =>
      intro i x2 hi hin3 ex2 f9 H locs hh hz ls hl
      refine lv_iload_n hx hb dX5_hours_12 rfl (lv_at hl 3 rfl) ?_
      refine lv_iload_n hx hb dX5_hours_13 rfl (lv_at hl 1 rfl) ?_
      refine lv_icmp_ge (tgt := 30) hx hb dX5_hours_14 (by decide) (fun c14 => ?_) (fun c14 => ?_)
      · have hie : i = nT v := by
          rcases Nat.lt_or_ge i (nT v) with q | q
          · exact absurd c14 (by rw [hv1]; exact nI_ge q (by omega))
          · omega
        refine lv_iload_n hx hb dX5_hours_30 rfl (lv_at hl 2 rfl) ?_
        exact k_iret hx hb hr hlk hh dX5_hours_31 (Nat.le_of_ble_eq_true rfl) (Nat.le_of_ble_eq_true rfl) ⟨by rw [ex2, hie], hin5, rfl, by rw [← hie]; exact hz⟩
      · have hlt : i < nT v := by
          rcases Nat.lt_or_ge i (nT v) with q | q
          · exact q
          · exact absurd (by rw [hv1]; exact nI_le q (by omega)) c14
        refine lv_iload_n hx hb dX5_hours_17 rfl (lv_at hl 2 rfl) ?_
        refine lv_aload_n hx hb dX5_hours_18 rfl (lv_at hl 0 rfl) ?_
        refine k_callV0 (As := []) (g_hour hz (hw.hours i)) S hh (cwV 0 hts gX5_hours_X5_passAnHour rfl rfl rfl (by decide +kernel) ⟨(Nat.le_of_ble_eq_true rfl), (Nat.le_of_ble_eq_true rfl)⟩) hz.1.1.1 hz.1.1.2 (q := (RX5, TX5, 7)) rfl rfl rfl hl.1 rfl (Nat.le_of_ble_eq_true rfl) dX5_hours_19 ⟨(Nat.le_of_ble_eq_true rfl), (Nat.le_of_ble_eq_true rfl)⟩ (fun v L1 f1 H locs hp hh => ?_)
        obtain ⟨rfl, hL1, hz1⟩ := hp
        subst hL1
        have hz := hz.trans hz1
        refine lv_iadd hx hb dX5_hours_22 ?_
        refine lv_topi (fun x23 e23 => ?_)
        refine lv_istore_n (lv' := [(2, .int x23), (0, .ref x), (1, .int v), (3, .int (nI i))]) hx hb dX5_hours_23 rfl hl (by decide) rfl (fun ls hl => ?_)
        obtain ⟨x24, e24⟩ : ∃ y : Int32, y = (nI i) + 1 := ⟨_, rfl⟩
        refine lv_iinc (v := x24) (lv' := [(3, .int x24), (2, .int x23), (0, .ref x), (1, .int v)]) hx hb dX5_hours_24 hl (k := 3) rfl (by rw [e24]; rfl) (by decide) rfl (fun ls hl => ?_)
        refine lv_goto (tgt := 12) hx hb dX5_hours_27 (by decide) ?_
        rw [bx_uu] at hz
        obtain rfl : x24 = nI (i + 1) := by rw [e24]; exact nI_1 i
        exact ih (i + 1) x23 (by omega) (by omega) (by rw [e23, ex2]; rfl) _ _ _ hh hz ls (lv_sub hl [2, 3, 1, 0] rfl)
  exact loop (nT v + 1) 0 0 (Nat.zero_le _) (by omega) rfl _ _ _ hh (hz.castN (va_up4 N).symm) ls (lv_sub hl [2, 3, 1, 0] rfl)

set_option maxRecDepth 100000 in
set_option maxHeartbeats 4000000 in
theorem g_outside {l : Launch} (hst : l.stackTraces = false) {κ : Kx} {x : Nat} {a : AD} {N P : Nat → Nat} {C : MS} {L L0 : List Nat} {f0 f : Nat → va_E} (hz : ZC κ x a N P C L0 f0 L f) (hw : WC N P C) {v : Int32} : PM l κ yX5_outside wsX5_outside ({ frames := 6, cells := 1, slots := 6, locals := 82 } : Room) [.ref x, .int v] L f (fun v9 L1 f1 => v9 = some (.int (outGo2 C P v (N 4) 0 0)) ∧ ¬ v < 0 ∧ L = L1 ∧ f = f1) (fun E => E = "java/lang/IllegalArgumentException" ∧ v < 0) 1 6 := by
  refine PM.mk (cc := cX5_outside) (maxL := 5) (ret := (some .int)) (by decide) rfl (Nat.le_of_ble_eq_true rfl) ?_
  intro p e s m args below meth c ls hx hb hml hr hlk hnm hown hts ht hh hl
  have hl : lv_has ls 5 [(0, .ref x), (1, .int v)] := hl
  have S : CallFix p m c cX5_outside 5 s args wsX5_outside RX5 := ⟨hx, hb, hml, hown, hts⟩
  have inX4 : ∀ w ∈ wsX40, w ∈ wsX5_outside := by decide +kernel
  have inX5 : ∀ w ∈ wsX50, w ∈ wsX5_outside := by decide +kernel
  obtain ⟨b0, b1, b2, b3, b4⟩ := id hw.1
  refine lv_iload_n hx hb dX5_outside_0 rfl (lv_at hl 1 rfl) ?_
  refine lv_if_ge (tgt := 14) hx hb dX5_outside_1 (by decide) (fun c1 => ?_) (fun c1 => ?_)
  · refine lv_iconst (v := 0) hx hb dX5_outside_14 (by decide) ?_
    refine lv_istore_n (lv' := [(2, .int 0), (0, .ref x), (1, .int v)]) hx hb dX5_outside_15 rfl hl (by decide) rfl (fun ls hl => ?_)
    refine lv_iconst (v := 0) hx hb dX5_outside_16 (by decide) ?_
    refine lv_istore_n (lv' := [(3, .int 0), (2, .int 0), (0, .ref x), (1, .int v)]) hx hb dX5_outside_17 rfl hl (by decide) rfl (fun ls hl => ?_)
    have loop : ∀ (n i : Nat) (x2 : Int32), i ≤ N 4 → N 4 + 1 ≤ i + n → outGo2 C P v (N 4 - i) i x2 = outGo2 C P v (N 4) 0 0 → ∀ (H : Heap) (locs : List Loc), HH κ L f s H locs → ∀ ls : Array Slot, lv_has ls 5 [(0, .ref x), (1, .int v), (2, .int x2), (3, .int (nI i))] → W p l e ({ frames := 6, cells := 1, slots := 6, locals := 82 } : Room) s m args below meth c H locs 0 0 (vx_MQ below (PQ κ (fun v9 L1 f1 => v9 = some (.int (outGo2 C P v (N 4) 0 0)) ∧ ¬ v < 0 ∧ L = L1 ∧ f = f1)) (PX κ L f (fun E => E = "java/lang/IllegalArgumentException" ∧ v < 0)) args s 1 6 (kA κ)) (F0 m 18 ls []) := by
      intro n
      induction n with
      | zero =>
        intro i x2 h1 h2
        exact absurd h2 (by omega)
      | succ n ih =>
        intro i x2 hi hin3 hg H locs hh ls hl
        refine lv_iload_n hx hb dX5_outside_18 rfl (lv_at hl 3 rfl) ?_
        refine lv_aload_n hx hb dX5_outside_19 rfl (lv_at hl 0 rfl) ?_
        refine xx_get S hh hz inX5 4 (by decide) rfl rfl (by decide +kernel) dX5_outside_20 ?_
        obtain ⟨mc23, hL23, hF23⟩ := hz.lst 4 (by decide)
        refine k_callV0 (As := []) (c_size hL23 hF23) S hh (cwV 0 hts gX5_outside_Jx4a65c_size_8abf5 rfl rfl rfl (by decide +kernel) ⟨(Nat.le_of_ble_eq_true rfl), (Nat.le_of_ble_eq_true rfl)⟩) hL23 hF23 (q := (RJx4a65c, TJx4a65c, 3)) rfl rfl rfl hl.1 rfl (Nat.le_of_ble_eq_true rfl) dX5_outside_23 ⟨(Nat.le_of_ble_eq_true rfl), (Nat.le_of_ble_eq_true rfl)⟩ (fun v L1 f1 H locs hp hh => ?_)
        obtain ⟨rfl, hL1, hf1⟩ := hp
        subst hL1; subst hf1
        refine lv_icmp_ge (tgt := 70) hx hb dX5_outside_26 (by decide) (fun c26 => ?_) (fun c26 => ?_)
        · have hie : i = N 4 := by
            rcases Nat.lt_or_ge i (N 4) with q | q
            · exact absurd c26 (nI_ge q (by omega))
            · omega
          have hg : -1 = outGo2 C P v (N 4) 0 0 := by rw [← hg, hie, Nat.sub_self]; rfl
          refine lv_iconst (v := (-1)) hx hb dX5_outside_70 (by decide) ?_
          exact k_iret hx hb hr hlk hh dX5_outside_71 (Nat.le_of_ble_eq_true rfl) (Nat.le_of_ble_eq_true rfl) ⟨congrArg (fun r => some (Value.int r)) (hg), fun q => Int32.not_le.mpr q c1, rfl, rfl⟩
        · have hlt : i < N 4 := by
            rcases Nat.lt_or_ge i (N 4) with q | q
            · exact q
            · exact absurd (nI_le q (by omega)) c26
          rw [show N 4 - i = (N 4 - (i + 1)) + 1 by omega, outGo2] at hg
          refine lv_aload_n hx hb dX5_outside_29 rfl (lv_at hl 0 rfl) ?_
          refine xx_get S hh hz inX5 4 (by decide) rfl rfl (by decide +kernel) dX5_outside_30 ?_
          refine lv_iload_n hx hb dX5_outside_33 rfl (lv_at hl 3 rfl) ?_
          obtain ⟨mc34, hL34, hF34⟩ := hz.lst 4 (by decide)
          refine k_callV0 (As := [.int (nI i)]) (x_lget hz 4 (by decide) (i := i) hlt rfl) S hh (cwV 1 hts gX5_outside_Jx4a65c_get_915e3 rfl rfl rfl (by decide +kernel) ⟨(Nat.le_of_ble_eq_true rfl), (Nat.le_of_ble_eq_true rfl)⟩) hL34 hF34 (q := (RJx4a65c, TJx4a65c, 3)) rfl rfl rfl hl.1 rfl (Nat.le_of_ble_eq_true rfl) dX5_outside_34 ⟨(Nat.le_of_ble_eq_true rfl), (Nat.le_of_ble_eq_true rfl)⟩ (fun v L1 f1 H locs hp hh => ?_)
          obtain ⟨rfl, hL1, hf1⟩ := hp
          subst hL1; subst hf1
          refine h_cast hx hb hown hh (hz.1.2.1 3 (P i) (by decide) (hw.2.2.2 i hlt)).1 (hz.1.2.1 3 (P i) (by decide) (hw.2.2.2 i hlt)).2 (C := RX4) (T := TX4) (N := 4) rfl (hts (.classLink RX5 82 RX4) (by decide +kernel)) dX5_outside_37 ?_
          refine lv_astore (lv' := [(4, .ref (a 3 (P i))), (0, .ref x), (1, .int v), (2, .int x2), (3, .int (nI i))]) hx hb dX5_outside_40 hl (by decide) rfl (fun ls hl => ?_)
          refine lv_aload hx hb dX5_outside_42 (lv_at hl 0 rfl) ?_
          refine x_get S hh hz 3 (by decide) (i := (P i)) (hw.2.2.2 i hlt) (Cn := RX4) (T := TX4) (Nn := 4) rfl inX4 3 (by decide) rfl rfl (by decide +kernel) dX5_outside_44 ?_
          refine lv_if_ne (tgt := 64) hx hb dX5_outside_47 (by decide) (fun c47 => ?_) (fun c47 => ?_)
          · rw [if_neg c47] at hg
            obtain ⟨x64, e64⟩ : ∃ y : Int32, y = (nI i) + 1 := ⟨_, rfl⟩
            refine lv_iinc (v := x64) (lv' := [(3, .int x64), (4, .ref (a 3 (P i))), (0, .ref x), (1, .int v), (2, .int x2)]) hx hb dX5_outside_64 hl (k := 4) rfl (by rw [e64]; rfl) (by decide) rfl (fun ls hl => ?_)
            refine lv_goto (tgt := 18) hx hb dX5_outside_67 (by decide) ?_
            obtain rfl : x64 = nI (i + 1) := by rw [e64]; exact nI_1 i
            exact ih (i + 1) x2 (by omega) (by omega) (by rw [← hg]) _ _ hh ls (lv_sub hl [2, 3, 4, 0] rfl)
          · have c47 : C 14 (P i) = 0 := by first | exact c47 | exact Classical.not_not.mp c47
            rw [if_pos c47] at hg
            refine lv_iload_n hx hb dX5_outside_50 rfl (lv_at hl 3 rfl) ?_
            refine lv_iload_n hx hb dX5_outside_51 rfl (lv_at hl 2 rfl) ?_
            refine lv_icmp_ne (tgt := 61) hx hb dX5_outside_52 (by decide) (fun c52 => ?_) (fun c52 => ?_)
            · rw [if_neg c52] at hg
              obtain ⟨x61, e61⟩ : ∃ y : Int32, y = x2 + 1 := ⟨_, rfl⟩
              refine lv_iinc (v := x61) (lv' := [(2, .int x61), (4, .ref (a 3 (P i))), (0, .ref x), (1, .int v), (3, .int (nI i))]) hx hb dX5_outside_61 hl (k := 3) rfl (by rw [e61]; rfl) (by decide) rfl (fun ls hl => ?_)
              obtain ⟨x64, e64⟩ : ∃ y : Int32, y = (nI i) + 1 := ⟨_, rfl⟩
              refine lv_iinc (v := x64) (lv' := [(3, .int x64), (2, .int x61), (4, .ref (a 3 (P i))), (0, .ref x), (1, .int v)]) hx hb dX5_outside_64 hl (k := 4) rfl (by rw [e64]; rfl) (by decide) rfl (fun ls hl => ?_)
              refine lv_goto (tgt := 18) hx hb dX5_outside_67 (by decide) ?_
              obtain rfl : x64 = nI (i + 1) := by rw [e64]; exact nI_1 i
              exact ih (i + 1) x61 (by omega) (by omega) (by rw [← hg]; rw [e61]) _ _ hh ls (lv_sub hl [3, 4, 1, 0] rfl)
            · have c52 : x2 = v := by first | exact c52 | exact Classical.not_not.mp c52
              rw [if_pos c52] at hg
              refine lv_aload hx hb dX5_outside_55 (lv_at hl 0 rfl) ?_
              refine x_get S hh hz 3 (by decide) (i := (P i)) (hw.2.2.2 i hlt) (Cn := RX4) (T := TX4) (Nn := 4) rfl inX4 0 (by decide) rfl rfl (by decide +kernel) dX5_outside_57 ?_
              exact k_iret hx hb hr hlk hh dX5_outside_60 (Nat.le_of_ble_eq_true rfl) (Nat.le_of_ble_eq_true rfl) ⟨congrArg (fun r => some (Value.int r)) (hg), fun q => Int32.not_le.mpr q c1, rfl, rfl⟩
    exact loop (N 4 + 1) 0 0 (Nat.zero_le _) (by omega) rfl _ _ hh ls (lv_sub hl [2, 3, 1, 0] rfl)
  · exact k_throw (E := "java/lang/IllegalArgumentException") (text := "the place is below 0") hx hb hst (hml.trans hl.1.symm) hown ht hlk hts hh ⟨rfl, Int32.not_le.mp c1⟩ (by decide +kernel) (by decide +kernel) (by decide +kernel) (by decide +kernel) (by decide +kernel) (fun w h => List.mem_cons_of_mem _ (List.mem_append_right _ h)) (by decide +kernel) (by decide +kernel) dX5_outside_4 dX5_outside_7 dX5_outside_8 dX5_outside_10 dX5_outside_13 (Nat.le_of_ble_eq_true rfl) (Nat.le_of_ble_eq_true rfl) (Nat.le_of_ble_eq_true rfl) (Nat.le_of_ble_eq_true rfl) (Nat.le_of_ble_eq_true rfl) (Nat.le_of_ble_eq_true rfl)

/-! CoalHulks(): five empty lists -/
def xI (b : Nat → Nat) (k : Nat) : List Value := [(if 0 < k then .ref (b 0) else .null), (if 1 < k then .ref (b 1) else .null), (if 2 < k then .ref (b 2) else .null), (if 3 < k then .ref (b 3) else .null), (if 4 < k then .ref (b 4) else .null), .int 0, .int 0]
def XI (κ : Kx) (x k : Nat) (b : Nat → Nat) (L : List Nat) (f : Nat → va_E) (L0 : List Nat) (f0 : Nat → va_E) : Prop :=
  (x ∈ L ∧ f x = .inr (6, xI b k)) ∧ (∀ j, j < k → b j ∈ L ∧ f (b j) = lC 0 (kTE κ) 0) ∧ (∀ i j, i < k → j < k → b i = b j → i = j) ∧ (∀ q, q ∈ L0 → q ∈ L) ∧ ∀ q, q ∈ L0 → q ≠ x → f q = f0 q
theorem xI_set (b : Nat → Nat) (q : Nat) : ∀ k, k < 5 → (xI b k).set k (.ref q) = xI (va_up b k q) (k + 1) := by
  intro k hk
  have h : k = 0 ∨ k = 1 ∨ k = 2 ∨ k = 3 ∨ k = 4 := by omega
  rcases h with rfl | rfl | rfl | rfl | rfl <;> simp [xI, va_up]
theorem XI.step {κ : Kx} {x k : Nat} {b : Nat → Nat} {L L0 : List Nat} {f f0 f2 : Nat → va_E} (h : XI κ x k b L f L0 f0) (hk : k < 5) {q : Nat} (hq : q ∉ L) (h2 : f2 q = lC 0 (kTE κ) 0) (h3 : ∀ y, y ≠ q → f2 y = f y) :
    XI κ x (k + 1) (va_up b k q) (L ++ [q]) (va_up f2 x (.inr (6, (xI b k).set k (.ref q)))) L0 f0 := by
  obtain ⟨⟨h1, hx⟩, h4, h5, h6, h7⟩ := h
  have hxq : x ≠ q := fun e => hq (e ▸ h1)
  refine ⟨⟨List.mem_append_left _ h1, by rw [xI_set b q k hk]; simp [va_up]⟩, fun j hj => ?_, fun i j hi hj e => ?_, fun q9 h9 => List.mem_append_left _ (h6 q9 h9), fun q9 h9 hx9 => ?_⟩
  · by_cases hjk : j = k
    · subst hjk
      rw [show va_up b j q j = q by simp [va_up]]
      exact ⟨List.mem_append_right _ List.mem_cons_self, by rw [← h2]; simp [va_up, hxq.symm]⟩
    · rw [show va_up b k q j = b j by simp [va_up, hjk]]
      obtain ⟨r1, r2⟩ := h4 j (by omega)
      have hbq : b j ≠ q := fun e => hq (e ▸ r1)
      have hbx : b j ≠ x := fun e => by
        rw [e, hx] at r2
        simp [lC] at r2
      refine ⟨List.mem_append_left _ r1, ?_⟩
      rw [← r2, ← h3 (b j) hbq]
      simp [va_up, hbx]
  · have key : ∀ i, i < k → b i ≠ q := fun i hi e => hq (e ▸ (h4 i hi).1)
    by_cases hik : i = k
    · by_cases hjk : j = k
      · omega
      · exact absurd (by simpa [va_up, hik, hjk] using e.symm) (key j (by omega))
    · by_cases hjk : j = k
      · exact absurd (by simpa [va_up, hik, hjk] using e) (key i (by omega))
      · exact h5 i j (by omega) (by omega) (by simpa [va_up, hik, hjk] using e)
  · have h9q : q9 ≠ q := fun e => hq (e ▸ h6 q9 h9)
    rw [show va_up f2 x (.inr (6, (xI b k).set k (.ref q))) q9 = f2 q9 by simp [va_up, hx9], h3 q9 h9q]
    exact h7 q9 h9 hx9
theorem XI.done {κ : Kx} {x : Nat} {b : Nat → Nat} {L L0 : List Nat} {f f0 : Nat → va_E} (h : XI κ x 5 b L f L0 f0) : ZC κ x (fun K j => if K = 5 then b j else kTE κ) (fun _ => 0) (fun _ => 0) M00 L f L f := by
  refine ⟨⟨⟨h.1.1, h.1.2⟩, fun k i _ hi => absurd hi (Nat.not_lt_zero _), fun i hi => absurd hi (Nat.not_lt_zero _), fun k i j _ hi => absurd hi (Nat.not_lt_zero _), fun j hj => ⟨⟨(h.2.1 j hj).1, 0, (h.2.1 j hj).2⟩, Or.inl ⟨rfl, rfl⟩⟩, fun i j hi hj e => h.2.2.1 i j hi hj e, fun i j _ _ _ => Or.inl rfl⟩, Fr.rf⟩
set_option maxRecDepth 100000 in
set_option maxHeartbeats 4000000 in
theorem c_X5_init {l : Launch} {κ : Kx} {x : Nat} {L : List Nat} {f : Nat → va_E} (hx0 : x ∈ L) (hf0 : f x = .inr (6, xI (fun _ => 0) 0)) : PC l κ yX5_init wsX5_init ({ frames := 4, cells := 5, slots := 15, locals := 72 } : Room) [.ref x] L f (fun v L1 f1 => v = none ∧ (∃ a, ZC κ x a (fun _ => 0) (fun _ => 0) M00 L1 f1 L1 f1) ∧ (∀ q, q ∈ L → q ∈ L1) ∧ ∀ q, q ∈ L → q ≠ x → f1 q = f q) 5 15 := by
  refine PC.mk (cc := cX5_init) (maxL := 1) (ret := none) (by decide) rfl (Nat.le_of_ble_eq_true rfl) ?_
  intro p e s m args below meth c ls hx hb hml hr hlk hnm hown hts hh hl
  have hl : lv_has ls 1 [(0, .ref x)] := hl
  have S : CallFix p m c cX5_init 1 s args wsX5_init RX5 := ⟨hx, hb, hml, hown, hts⟩
  have inJ : ∀ w ∈ wsJx4a65c0, w ∈ wsX5_init := by decide +kernel
  have inX : ∀ w ∈ wsX50, w ∈ wsX5_init := by decide +kernel
  have hp : XI κ x 0 (fun _ => 0) L f L f := ⟨⟨hx0, hf0⟩, fun _ h => absurd h (Nat.not_lt_zero _), fun _ _ h => absurd h (Nat.not_lt_zero _), fun _ h => h, fun _ _ _ => rfl⟩
  refine lv_aload_n hx hb dX5_init_0 rfl (lv_at hl 0 rfl) ?_
  refine W.objInit hx hb hown (hts (.methodLink RX5 1 objectInit) (by decide +kernel)) (hts (.instanceMethod objectInit) (by decide +kernel)) (hts (.code objectInit ⟨#[0xb1]⟩ 1 none) (by decide +kernel)) rfl (by rw [hml]; exact hl.1) rfl dX5_init_1 (Nat.le_of_ble_eq_true rfl) (Nat.le_of_ble_eq_true rfl) ?_
  refine W.eq (g2 := F0 m 4 ls []) rfl ?_
  refine lv_aload_n hx hb dX5_init_4 rfl (lv_at hl 0 rfl) ?_
  refine h_new (c0 := c) (C := RJx4a65c) (T := TJx4a65c) (N := 3) (ci := 0) (fs := [.int 0, .null, .int 0]) hx hb hts hown hh rfl inJ tyJx4a65c tyJx4a65c_ok (hts (.classLink RX5 7 RJx4a65c) (by decide +kernel)) (hts (.instantiable RJx4a65c 3) (by decide +kernel)) (hts (.initialized RJx4a65c) (by decide +kernel)) dfJ (Nat.le_of_ble_eq_true rfl) (Nat.le_of_ble_eq_true rfl) dX5_init_5 (fun q0 H hq0 hh => ?_)
  refine lv_dup hx hb dX5_init_8 rfl ?_
  refine k_callI (As := []) (c_alinit (List.mem_append_right _ List.mem_cons_self) (by simp [va_up])) S hh (cwI 0 hts gX5_init_Jx4a65c_init_da8c8 rfl rfl rfl (hts (.initialized RJx4a65c) (by decide +kernel)) (hts (.methodLink RX5 9 yJx4a65c_init_da8c8) (by decide +kernel)) (hts (.instanceMethod yJx4a65c_init_da8c8) (by decide +kernel)) rfl (by decide +kernel) ⟨(Nat.le_of_ble_eq_true rfl), (Nat.le_of_ble_eq_true rfl)⟩) rfl hl.1 rfl (Nat.le_of_ble_eq_true rfl) dX5_init_9 ⟨(Nat.le_of_ble_eq_true rfl), (Nat.le_of_ble_eq_true rfl)⟩ (fun v0 L0 f0 H locs hp0 hh => ?_)
  obtain ⟨rfl, hL0, hr0, hs0⟩ := hp0
  subst hL0
  have hxq0 : f0 x = .inr (6, xI (fun _ => 0) 0) := by rw [hs0 x (fun e => hq0 (e ▸ hp.1.1)), ← hp.1.2]; simp [va_up, show x ≠ q0 from fun e => hq0 (e ▸ hp.1.1)]
  refine h_putF hx hb hts hown hh (C := RX5) (T := TX5) (N := 7) (List.mem_append_left _ hp.1.1) hxq0 rfl inX tyX5 tyX5_ok nmX5 0 (by decide) (hts (.fieldLink RX5 10 "CoalHulks" "hulks" "Ljava/util/ArrayList;") (by decide +kernel)) (fun _ h9 => h9) rfl hnm rfl (ty := .object "java/util/ArrayList") rfl rfl rfl (by simp [xI]) dX5_init_12 (fun H locs hh => ?_)
  have hp := hp.step (f2 := f0) (by decide) hq0 hr0 (fun y hy => by rw [hs0 y hy]; simp [va_up, hy])
  refine lv_aload_n hx hb dX5_init_15 rfl (lv_at hl 0 rfl) ?_
  refine h_new (c0 := c) (C := RJx4a65c) (T := TJx4a65c) (N := 3) (ci := 0) (fs := [.int 0, .null, .int 0]) hx hb hts hown hh rfl inJ tyJx4a65c tyJx4a65c_ok (hts (.classLink RX5 7 RJx4a65c) (by decide +kernel)) (hts (.instantiable RJx4a65c 3) (by decide +kernel)) (hts (.initialized RJx4a65c) (by decide +kernel)) dfJ (Nat.le_of_ble_eq_true rfl) (Nat.le_of_ble_eq_true rfl) dX5_init_16 (fun q1 H hq1 hh => ?_)
  refine lv_dup hx hb dX5_init_19 rfl ?_
  refine k_callI (As := []) (c_alinit (List.mem_append_right _ List.mem_cons_self) (by simp [va_up])) S hh (cwI 0 hts gX5_init_Jx4a65c_init_da8c8 rfl rfl rfl (hts (.initialized RJx4a65c) (by decide +kernel)) (hts (.methodLink RX5 9 yJx4a65c_init_da8c8) (by decide +kernel)) (hts (.instanceMethod yJx4a65c_init_da8c8) (by decide +kernel)) rfl (by decide +kernel) ⟨(Nat.le_of_ble_eq_true rfl), (Nat.le_of_ble_eq_true rfl)⟩) rfl hl.1 rfl (Nat.le_of_ble_eq_true rfl) dX5_init_20 ⟨(Nat.le_of_ble_eq_true rfl), (Nat.le_of_ble_eq_true rfl)⟩ (fun v1 L1 f1 H locs hp1 hh => ?_)
  obtain ⟨rfl, hL1, hr1, hs1⟩ := hp1
  subst hL1
  have hxq1 : f1 x = .inr (6, xI (va_up (fun _ => 0) 0 q0) 1) := by rw [hs1 x (fun e => hq1 (e ▸ hp.1.1)), ← hp.1.2]; simp [va_up, show x ≠ q1 from fun e => hq1 (e ▸ hp.1.1)]
  refine h_putF hx hb hts hown hh (C := RX5) (T := TX5) (N := 7) (List.mem_append_left _ hp.1.1) hxq1 rfl inX tyX5 tyX5_ok nmX5 1 (by decide) (hts (.fieldLink RX5 16 "CoalHulks" "lighters" "Ljava/util/ArrayList;") (by decide +kernel)) (fun _ h9 => h9) rfl hnm rfl (ty := .object "java/util/ArrayList") rfl rfl rfl (by simp [xI]) dX5_init_23 (fun H locs hh => ?_)
  have hp := hp.step (f2 := f1) (by decide) hq1 hr1 (fun y hy => by rw [hs1 y hy]; simp [va_up, hy])
  refine lv_aload_n hx hb dX5_init_26 rfl (lv_at hl 0 rfl) ?_
  refine h_new (c0 := c) (C := RJx4a65c) (T := TJx4a65c) (N := 3) (ci := 0) (fs := [.int 0, .null, .int 0]) hx hb hts hown hh rfl inJ tyJx4a65c tyJx4a65c_ok (hts (.classLink RX5 7 RJx4a65c) (by decide +kernel)) (hts (.instantiable RJx4a65c 3) (by decide +kernel)) (hts (.initialized RJx4a65c) (by decide +kernel)) dfJ (Nat.le_of_ble_eq_true rfl) (Nat.le_of_ble_eq_true rfl) dX5_init_27 (fun q2 H hq2 hh => ?_)
  refine lv_dup hx hb dX5_init_30 rfl ?_
  refine k_callI (As := []) (c_alinit (List.mem_append_right _ List.mem_cons_self) (by simp [va_up])) S hh (cwI 0 hts gX5_init_Jx4a65c_init_da8c8 rfl rfl rfl (hts (.initialized RJx4a65c) (by decide +kernel)) (hts (.methodLink RX5 9 yJx4a65c_init_da8c8) (by decide +kernel)) (hts (.instanceMethod yJx4a65c_init_da8c8) (by decide +kernel)) rfl (by decide +kernel) ⟨(Nat.le_of_ble_eq_true rfl), (Nat.le_of_ble_eq_true rfl)⟩) rfl hl.1 rfl (Nat.le_of_ble_eq_true rfl) dX5_init_31 ⟨(Nat.le_of_ble_eq_true rfl), (Nat.le_of_ble_eq_true rfl)⟩ (fun v2 L2 f2 H locs hp2 hh => ?_)
  obtain ⟨rfl, hL2, hr2, hs2⟩ := hp2
  subst hL2
  have hxq2 : f2 x = .inr (6, xI (va_up (va_up (fun _ => 0) 0 q0) 1 q1) 2) := by rw [hs2 x (fun e => hq2 (e ▸ hp.1.1)), ← hp.1.2]; simp [va_up, show x ≠ q2 from fun e => hq2 (e ▸ hp.1.1)]
  refine h_putF hx hb hts hown hh (C := RX5) (T := TX5) (N := 7) (List.mem_append_left _ hp.1.1) hxq2 rfl inX tyX5 tyX5_ok nmX5 2 (by decide) (hts (.fieldLink RX5 19 "CoalHulks" "gangs" "Ljava/util/ArrayList;") (by decide +kernel)) (fun _ h9 => h9) rfl hnm rfl (ty := .object "java/util/ArrayList") rfl rfl rfl (by simp [xI]) dX5_init_34 (fun H locs hh => ?_)
  have hp := hp.step (f2 := f2) (by decide) hq2 hr2 (fun y hy => by rw [hs2 y hy]; simp [va_up, hy])
  refine lv_aload_n hx hb dX5_init_37 rfl (lv_at hl 0 rfl) ?_
  refine h_new (c0 := c) (C := RJx4a65c) (T := TJx4a65c) (N := 3) (ci := 0) (fs := [.int 0, .null, .int 0]) hx hb hts hown hh rfl inJ tyJx4a65c tyJx4a65c_ok (hts (.classLink RX5 7 RJx4a65c) (by decide +kernel)) (hts (.instantiable RJx4a65c 3) (by decide +kernel)) (hts (.initialized RJx4a65c) (by decide +kernel)) dfJ (Nat.le_of_ble_eq_true rfl) (Nat.le_of_ble_eq_true rfl) dX5_init_38 (fun q3 H hq3 hh => ?_)
  refine lv_dup hx hb dX5_init_41 rfl ?_
  refine k_callI (As := []) (c_alinit (List.mem_append_right _ List.mem_cons_self) (by simp [va_up])) S hh (cwI 0 hts gX5_init_Jx4a65c_init_da8c8 rfl rfl rfl (hts (.initialized RJx4a65c) (by decide +kernel)) (hts (.methodLink RX5 9 yJx4a65c_init_da8c8) (by decide +kernel)) (hts (.instanceMethod yJx4a65c_init_da8c8) (by decide +kernel)) rfl (by decide +kernel) ⟨(Nat.le_of_ble_eq_true rfl), (Nat.le_of_ble_eq_true rfl)⟩) rfl hl.1 rfl (Nat.le_of_ble_eq_true rfl) dX5_init_42 ⟨(Nat.le_of_ble_eq_true rfl), (Nat.le_of_ble_eq_true rfl)⟩ (fun v3 L3 f3 H locs hp3 hh => ?_)
  obtain ⟨rfl, hL3, hr3, hs3⟩ := hp3
  subst hL3
  have hxq3 : f3 x = .inr (6, xI (va_up (va_up (va_up (fun _ => 0) 0 q0) 1 q1) 2 q2) 3) := by rw [hs3 x (fun e => hq3 (e ▸ hp.1.1)), ← hp.1.2]; simp [va_up, show x ≠ q3 from fun e => hq3 (e ▸ hp.1.1)]
  refine h_putF hx hb hts hown hh (C := RX5) (T := TX5) (N := 7) (List.mem_append_left _ hp.1.1) hxq3 rfl inX tyX5 tyX5_ok nmX5 3 (by decide) (hts (.fieldLink RX5 22 "CoalHulks" "steamers" "Ljava/util/ArrayList;") (by decide +kernel)) (fun _ h9 => h9) rfl hnm rfl (ty := .object "java/util/ArrayList") rfl rfl rfl (by simp [xI]) dX5_init_45 (fun H locs hh => ?_)
  have hp := hp.step (f2 := f3) (by decide) hq3 hr3 (fun y hy => by rw [hs3 y hy]; simp [va_up, hy])
  refine lv_aload_n hx hb dX5_init_48 rfl (lv_at hl 0 rfl) ?_
  refine h_new (c0 := c) (C := RJx4a65c) (T := TJx4a65c) (N := 3) (ci := 0) (fs := [.int 0, .null, .int 0]) hx hb hts hown hh rfl inJ tyJx4a65c tyJx4a65c_ok (hts (.classLink RX5 7 RJx4a65c) (by decide +kernel)) (hts (.instantiable RJx4a65c 3) (by decide +kernel)) (hts (.initialized RJx4a65c) (by decide +kernel)) dfJ (Nat.le_of_ble_eq_true rfl) (Nat.le_of_ble_eq_true rfl) dX5_init_49 (fun q4 H hq4 hh => ?_)
  refine lv_dup hx hb dX5_init_52 rfl ?_
  refine k_callI (As := []) (c_alinit (List.mem_append_right _ List.mem_cons_self) (by simp [va_up])) S hh (cwI 0 hts gX5_init_Jx4a65c_init_da8c8 rfl rfl rfl (hts (.initialized RJx4a65c) (by decide +kernel)) (hts (.methodLink RX5 9 yJx4a65c_init_da8c8) (by decide +kernel)) (hts (.instanceMethod yJx4a65c_init_da8c8) (by decide +kernel)) rfl (by decide +kernel) ⟨(Nat.le_of_ble_eq_true rfl), (Nat.le_of_ble_eq_true rfl)⟩) rfl hl.1 rfl (Nat.le_of_ble_eq_true rfl) dX5_init_53 ⟨(Nat.le_of_ble_eq_true rfl), (Nat.le_of_ble_eq_true rfl)⟩ (fun v4 L4 f4 H locs hp4 hh => ?_)
  obtain ⟨rfl, hL4, hr4, hs4⟩ := hp4
  subst hL4
  have hxq4 : f4 x = .inr (6, xI (va_up (va_up (va_up (va_up (fun _ => 0) 0 q0) 1 q1) 2 q2) 3 q3) 4) := by rw [hs4 x (fun e => hq4 (e ▸ hp.1.1)), ← hp.1.2]; simp [va_up, show x ≠ q4 from fun e => hq4 (e ▸ hp.1.1)]
  refine h_putF hx hb hts hown hh (C := RX5) (T := TX5) (N := 7) (List.mem_append_left _ hp.1.1) hxq4 rfl inX tyX5 tyX5_ok nmX5 4 (by decide) (hts (.fieldLink RX5 25 "CoalHulks" "present" "Ljava/util/ArrayList;") (by decide +kernel)) (fun _ h9 => h9) rfl hnm rfl (ty := .object "java/util/ArrayList") rfl rfl rfl (by simp [xI]) dX5_init_56 (fun H locs hh => ?_)
  have hp := hp.step (f2 := f4) (by decide) hq4 hr4 (fun y hy => by rw [hs4 y hy]; simp [va_up, hy])
  exact k_cret hx hb hr hlk hh dX5_init_59 (Nat.le_of_ble_eq_true rfl) (Nat.le_of_ble_eq_true rfl) ⟨rfl, ⟨_, hp.done⟩, hp.2.2.2.1, hp.2.2.2.2⟩
