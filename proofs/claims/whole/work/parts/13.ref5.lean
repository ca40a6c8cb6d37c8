/-! the reference's constructor: fifteen rows, one behind another -/
def pF (b : Nat → Nat) (k : Nat) : List Value := [(if 0 < k then .ref (b 0) else .null), (if 1 < k then .ref (b 1) else .null), (if 2 < k then .ref (b 2) else .null), (if 3 < k then .ref (b 3) else .null), (if 4 < k then .ref (b 4) else .null), (if 5 < k then .ref (b 5) else .null), (if 6 < k then .ref (b 6) else .null), (if 7 < k then .ref (b 7) else .null), (if 8 < k then .ref (b 8) else .null), (if 9 < k then .ref (b 9) else .null), (if 10 < k then .ref (b 10) else .null), (if 11 < k then .ref (b 11) else .null), (if 12 < k then .ref (b 12) else .null), (if 13 < k then .ref (b 13) else .null), (if 14 < k then .ref (b 14) else .null), .int 0, .int 0, .int 0, .int 0, .int 0, .int 0, .int 0]
def PI (κ : Kx) (xm k : Nat) (b : Nat → Nat) (L : List Nat) (f : Nat → va_E) (L0 : List Nat) (f0 : Nat → va_E) : Prop :=
  (xm ∈ L ∧ f xm = .inr (7, pF b k)) ∧ (∀ j, j < k → b j ∈ L ∧ f (b j) = .inl (kI κ, lenM j, .inl (fun _ => 0))) ∧ (∀ i j, i < k → j < k → b i = b j → i = j) ∧ (∀ q, q ∈ L0 → q ∈ L) ∧ ∀ q, q ∈ L0 → q ≠ xm → f q = f0 q
theorem pF_set (b : Nat → Nat) (q : Nat) : ∀ k, k < 15 → (pF b k).set k (.ref q) = pF (va_up b k q) (k + 1) := by
  intro k hk
  have h : k = 0 ∨ k = 1 ∨ k = 2 ∨ k = 3 ∨ k = 4 ∨ k = 5 ∨ k = 6 ∨ k = 7 ∨ k = 8 ∨ k = 9 ∨ k = 10 ∨ k = 11 ∨ k = 12 ∨ k = 13 ∨ k = 14 := by omega
  rcases h with rfl | rfl | rfl | rfl | rfl | rfl | rfl | rfl | rfl | rfl | rfl | rfl | rfl | rfl | rfl <;> simp [pF, va_up]
theorem PI.step {κ : Kx} {xm k : Nat} {b : Nat → Nat} {L L0 : List Nat} {f f0 : Nat → va_E} (h : PI κ xm k b L f L0 f0) (hk : k < 15) {q : Nat} (hq : q ∉ L) :
    PI κ xm (k + 1) (va_up b k q) (L ++ [q]) (va_up (va_up f q (.inl (kI κ, lenM k, .inl (fun _ => 0)))) xm (.inr (7, (pF b k).set k (.ref q)))) L0 f0 := by
  obtain ⟨⟨h1, h2⟩, h3, h4, h5, h6⟩ := h
  have hxq : xm ≠ q := fun e => hq (e ▸ h1)
  refine ⟨⟨List.mem_append_left _ h1, by rw [pF_set b q k hk]; simp [va_up]⟩, fun j hj => ?_, fun i j hi hj e => ?_, fun q9 h9 => List.mem_append_left _ (h5 q9 h9), fun q9 h9 hx => ?_⟩
  · by_cases hjk : j = k
    · subst hjk
      have e1 : va_up b j q j = q := by simp [va_up]
      rw [e1]
      exact ⟨List.mem_append_right _ List.mem_cons_self, by simp [va_up, hxq.symm]⟩
    · have e1 : va_up b k q j = b j := by simp [va_up, hjk]
      obtain ⟨h7, h8⟩ := h3 j (by omega)
      have hbq : b j ≠ q := fun e => hq (e ▸ h7)
      have hbx : b j ≠ xm := fun e => by
        rw [e, h2] at h8
        cases h8
      rw [e1]
      exact ⟨List.mem_append_left _ h7, by simp [va_up, hbx, hbq, h8]⟩
  · have key : ∀ i, i < k → b i ≠ q := fun i hi e => hq (e ▸ (h3 i hi).1)
    by_cases hik : i = k
    · by_cases hjk : j = k
      · omega
      · exact absurd (by simpa [va_up, hik, hjk] using e.symm) (key j (by omega))
    · by_cases hjk : j = k
      · exact absurd (by simpa [va_up, hik, hjk] using e) (key i (by omega))
      · exact h4 i j (by omega) (by omega) (by simpa [va_up, hik, hjk] using e)
  · have h9q : q9 ≠ q := fun e => hq (e ▸ h5 q9 h9)
    have e1 : va_up (va_up f q (.inl (kI κ, lenM k, .inl (fun _ => 0)))) xm (.inr (7, (pF b k).set k (.ref q))) q9 = f q9 := by simp [va_up, hx, h9q]
    rw [e1]
    exact h6 q9 h9 hx
/-- a fresh state of the reference -/
def M00 : MS := fun _ _ => 0
theorem PI.done {κ : Kx} {xm : Nat} {b : Nat → Nat} {L L0 : List Nat} {f f0 : Nat → va_E} (h : PI κ xm 15 b L f L0 f0) : ZR κ xm b M00 L f f :=
  ⟨⟨h.1.1, h.1.2⟩, h.2.1, h.2.2.1, fun _ _ => rfl⟩
section RMK
variable {p : Program} {l : Launch} {e : Env} {R : Room} {s : State} {m : MethodId} {args : Array Value} {below : List Frame} {meth : Method} {c : Code} {H : Heap} {locs : List Loc} {cells slots : Nat} {Q : State → Prop}
variable {κ : Kx} {L L0 : List Nat} {f f0 : Nat → va_E} {cc : ByteArray} {pc nL : Nat} {ls : Array Slot} {rest : List Value} {Ts : List Cond} {xm : Nat} {b : Nat → Nat}
/-- 'new int[n]', put into the field k -/
theorem r_mk (S : CallFix p m c cc nL s args Ts RX6) (hh : HH κ L f s H locs) (k : Nat) (hp : PI κ xm k b L f L0 f0) (hin : ∀ w ∈ wsX60, w ∈ Ts) (hnm : meth.name = "<init>") (hk : k < 15) (harr : Cond.arrayClass .int ∈ Ts) {n : Int32} (hn : n = nI (lenM k)) {index : Nat} (hT : (TX6 k).1 = RX6) (hfin : (TX6 k).2.2.2 = true) (hty : tyX6 k = .array .int) (hlink : Cond.fieldLink RX6 index RX6 (TX6 k).2.1 (TX6 k).2.2.1 ∈ Ts) (hcells : cells + 1 ≤ R.cells) (hslots : slots + lenM k ≤ R.slots) (d1 : decode cc pc = .ok (.newarray .int, 2)) (d2 : decode cc (pc + 2) = .ok (.putfield index, 3))
    (kk : ∀ (q : Nat) (L1 : List Nat) (f1 : Nat → va_E) (H1 : Heap) (locs1 : List Loc), HH κ L1 f1 s H1 locs1 → PI κ xm (k + 1) (va_up b k q) L1 f1 L0 f0 → W p l e R s m args below meth c H1 locs1 (cells + 1) (slots + lenM k) Q (F0 m (pc + 5) ls rest)) : W p l e R s m args below meth c H locs cells slots Q (F0 m pc ls (.int n :: .ref xm :: rest)) := by
  have hlt := lenM_lt k
  have h600 : lenM k ≤ 600 := by
    unfold lenM
    split
    · decide
    · split <;> decide
  refine h_newi (N' := lenM k) S.1 S.2.1 hh (S.2.2.2.2 _ harr) (by rw [hn]; exact nI_pos hlt) (by rw [hn]; exact nI_clamp hlt) (by show lenM k * 4 ≤ 536870912; omega) hcells hslots d1 (fun q H1 hq h1 => ?_)
  have hxq : xm ≠ q := fun e => hq (e ▸ hp.1.1)
  refine h_putF S.1 S.2.1 S.2.2.2.2 S.2.2.2.1 h1 (C := RX6) (T := TX6) (N := 22) (List.mem_append_left _ hp.1.1) (by rw [show va_up f q (.inl (kI κ, lenM k, .inl (fun _ => 0))) xm = f xm by simp [va_up, hxq]]; exact hp.1.2) rfl hin tyX6 tyX6_ok nmX6 k (by omega) (S.2.2.2.2 _ hlink) (fun y h => by rw [hT] at h; exact h) hfin hnm hT (ty := .array .int) hty rfl rfl (by rw [show (pF b k).length = 22 from rfl]; omega) d2 (fun H2 locs2 h2 => ?_)
  exact kk q _ _ H2 locs2 h2 (hp.step hk hq)
end RMK
set_option maxRecDepth 100000 in
set_option maxHeartbeats 4000000 in
/-- CoalHulksModel(): fifteen rows of zeros -/
theorem c_model {l : Launch} {κ : Kx} {xm : Nat} {L : List Nat} {f : Nat → va_E} (hx0 : xm ∈ L) (hf0 : f xm = .inr (7, pF (fun _ => 0) 0)) : PC l κ yX6_init wsX6_init ({ frames := 1, cells := 15, slots := 1869, locals := 12 } : Room) [.ref xm] L f (fun v L1 f1 => v = none ∧ ∃ b, ZR κ xm b M00 L1 f1 f1 ∧ (∀ q, q ∈ L → q ∈ L1) ∧ ∀ q, q ∈ L → q ≠ xm → f1 q = f q) 15 1869 := by
  refine PC.mk (cc := cX6_init) (maxL := 1) (ret := none) (by decide) rfl (Nat.le_of_ble_eq_true rfl) ?_
  intro p e s m args below meth c ls hx hb hml hr hlk hnm hown hts hh hl
  have hl : lv_has ls 1 [(0, .ref xm)] := hl
  have S : CallFix p m c cX6_init 1 s args wsX6_init RX6 := ⟨hx, hb, hml, hown, hts⟩
  have hin : ∀ w ∈ wsX60, w ∈ wsX6_init := by decide +kernel
  have hp : PI κ xm 0 (fun _ => 0) L f L f := ⟨⟨hx0, hf0⟩, fun _ h => absurd h (Nat.not_lt_zero _), fun _ _ h => absurd h (Nat.not_lt_zero _), fun _ h => h, fun _ _ _ => rfl⟩
  refine lv_aload_n hx hb dX6_init_0 rfl (lv_at hl 0 rfl) ?_
  refine W.objInit hx hb hown (hts (.methodLink RX6 1 objectInit) (by decide +kernel)) (hts (.instanceMethod objectInit) (by decide +kernel)) (hts (.code objectInit ⟨#[0xb1]⟩ 1 none) (by decide +kernel)) rfl (by rw [hml]; exact hl.1) rfl dX6_init_1 (Nat.le_of_ble_eq_true rfl) (Nat.le_of_ble_eq_true rfl) ?_
  refine W.eq (g2 := F0 m 4 ls []) rfl ?_
  refine lv_aload_n hx hb dX6_init_4 rfl (lv_at hl 0 rfl) ?_
  refine lv_iconst (v := 3) hx hb dX6_init_5 (by decide) ?_
  refine r_mk S hh 0 hp hin hnm (by decide) (by decide +kernel) rfl rfl rfl rfl (by decide +kernel) (Nat.le_of_ble_eq_true rfl) (Nat.le_of_ble_eq_true rfl) dX6_init_6 dX6_init_8 (fun q0 L1 f1 H locs hh hp => ?_)
  refine lv_aload_n hx hb dX6_init_11 rfl (lv_at hl 0 rfl) ?_
  refine lv_bipush (v := 6) hx hb dX6_init_12 (by decide) ?_
  refine r_mk S hh 1 hp hin hnm (by decide) (by decide +kernel) rfl rfl rfl rfl (by decide +kernel) (Nat.le_of_ble_eq_true rfl) (Nat.le_of_ble_eq_true rfl) dX6_init_14 dX6_init_16 (fun q1 L1 f1 H locs hh hp => ?_)
  refine lv_aload_n hx hb dX6_init_19 rfl (lv_at hl 0 rfl) ?_
  refine lv_bipush (v := 6) hx hb dX6_init_20 (by decide) ?_
  refine r_mk S hh 2 hp hin hnm (by decide) (by decide +kernel) rfl rfl rfl rfl (by decide +kernel) (Nat.le_of_ble_eq_true rfl) (Nat.le_of_ble_eq_true rfl) dX6_init_22 dX6_init_24 (fun q2 L1 f1 H locs hh hp => ?_)
  refine lv_aload_n hx hb dX6_init_27 rfl (lv_at hl 0 rfl) ?_
  refine lv_bipush (v := 6) hx hb dX6_init_28 (by decide) ?_
  refine r_mk S hh 3 hp hin hnm (by decide) (by decide +kernel) rfl rfl rfl rfl (by decide +kernel) (Nat.le_of_ble_eq_true rfl) (Nat.le_of_ble_eq_true rfl) dX6_init_30 dX6_init_32 (fun q3 L1 f1 H locs hh hp => ?_)
  refine lv_aload_n hx hb dX6_init_35 rfl (lv_at hl 0 rfl) ?_
  refine lv_bipush (v := 6) hx hb dX6_init_36 (by decide) ?_
  refine r_mk S hh 4 hp hin hnm (by decide) (by decide +kernel) rfl rfl rfl rfl (by decide +kernel) (Nat.le_of_ble_eq_true rfl) (Nat.le_of_ble_eq_true rfl) dX6_init_38 dX6_init_40 (fun q4 L1 f1 H locs hh hp => ?_)
  refine lv_aload_n hx hb dX6_init_43 rfl (lv_at hl 0 rfl) ?_
  refine lv_bipush (v := 6) hx hb dX6_init_44 (by decide) ?_
  refine r_mk S hh 5 hp hin hnm (by decide) (by decide +kernel) rfl rfl rfl rfl (by decide +kernel) (Nat.le_of_ble_eq_true rfl) (Nat.le_of_ble_eq_true rfl) dX6_init_46 dX6_init_48 (fun q5 L1 f1 H locs hh hp => ?_)
  refine lv_aload_n hx hb dX6_init_51 rfl (lv_at hl 0 rfl) ?_
  refine lv_bipush (v := 6) hx hb dX6_init_52 (by decide) ?_
  refine r_mk S hh 6 hp hin hnm (by decide) (by decide +kernel) rfl rfl rfl rfl (by decide +kernel) (Nat.le_of_ble_eq_true rfl) (Nat.le_of_ble_eq_true rfl) dX6_init_54 dX6_init_56 (fun q6 L1 f1 H locs hh hp => ?_)
  refine lv_aload_n hx hb dX6_init_59 rfl (lv_at hl 0 rfl) ?_
  refine lv_bipush (v := 6) hx hb dX6_init_60 (by decide) ?_
  refine r_mk S hh 7 hp hin hnm (by decide) (by decide +kernel) rfl rfl rfl rfl (by decide +kernel) (Nat.le_of_ble_eq_true rfl) (Nat.le_of_ble_eq_true rfl) dX6_init_62 dX6_init_64 (fun q7 L1 f1 H locs hh hp => ?_)
  refine lv_aload_n hx hb dX6_init_67 rfl (lv_at hl 0 rfl) ?_
  refine lv_bipush (v := 6) hx hb dX6_init_68 (by decide) ?_
  refine r_mk S hh 8 hp hin hnm (by decide) (by decide +kernel) rfl rfl rfl rfl (by decide +kernel) (Nat.le_of_ble_eq_true rfl) (Nat.le_of_ble_eq_true rfl) dX6_init_70 dX6_init_72 (fun q8 L1 f1 H locs hh hp => ?_)
  refine lv_aload_n hx hb dX6_init_75 rfl (lv_at hl 0 rfl) ?_
  refine lv_bipush (v := 6) hx hb dX6_init_76 (by decide) ?_
  refine r_mk S hh 9 hp hin hnm (by decide) (by decide +kernel) rfl rfl rfl rfl (by decide +kernel) (Nat.le_of_ble_eq_true rfl) (Nat.le_of_ble_eq_true rfl) dX6_init_78 dX6_init_80 (fun q9 L1 f1 H locs hh hp => ?_)
  refine lv_aload_n hx hb dX6_init_83 rfl (lv_at hl 0 rfl) ?_
  refine lv_bipush (v := 6) hx hb dX6_init_84 (by decide) ?_
  refine r_mk S hh 10 hp hin hnm (by decide) (by decide +kernel) rfl rfl rfl rfl (by decide +kernel) (Nat.le_of_ble_eq_true rfl) (Nat.le_of_ble_eq_true rfl) dX6_init_86 dX6_init_88 (fun q10 L1 f1 H locs hh hp => ?_)
  refine lv_aload_n hx hb dX6_init_91 rfl (lv_at hl 0 rfl) ?_
  refine lv_bipush (v := 6) hx hb dX6_init_92 (by decide) ?_
  refine r_mk S hh 11 hp hin hnm (by decide) (by decide +kernel) rfl rfl rfl rfl (by decide +kernel) (Nat.le_of_ble_eq_true rfl) (Nat.le_of_ble_eq_true rfl) dX6_init_94 dX6_init_96 (fun q11 L1 f1 H locs hh hp => ?_)
  refine lv_aload_n hx hb dX6_init_99 rfl (lv_at hl 0 rfl) ?_
  refine lv_sipush (v := 600) hx hb dX6_init_100 (by decide) ?_
  refine r_mk S hh 12 hp hin hnm (by decide) (by decide +kernel) rfl rfl rfl rfl (by decide +kernel) (Nat.le_of_ble_eq_true rfl) (Nat.le_of_ble_eq_true rfl) dX6_init_103 dX6_init_105 (fun q12 L1 f1 H locs hh hp => ?_)
  refine lv_aload_n hx hb dX6_init_108 rfl (lv_at hl 0 rfl) ?_
  refine lv_sipush (v := 600) hx hb dX6_init_109 (by decide) ?_
  refine r_mk S hh 13 hp hin hnm (by decide) (by decide +kernel) rfl rfl rfl rfl (by decide +kernel) (Nat.le_of_ble_eq_true rfl) (Nat.le_of_ble_eq_true rfl) dX6_init_112 dX6_init_114 (fun q13 L1 f1 H locs hh hp => ?_)
  refine lv_aload_n hx hb dX6_init_117 rfl (lv_at hl 0 rfl) ?_
  refine lv_sipush (v := 600) hx hb dX6_init_118 (by decide) ?_
  refine r_mk S hh 14 hp hin hnm (by decide) (by decide +kernel) rfl rfl rfl rfl (by decide +kernel) (Nat.le_of_ble_eq_true rfl) (Nat.le_of_ble_eq_true rfl) dX6_init_121 dX6_init_123 (fun q14 L1 f1 H locs hh hp => ?_)
  exact k_cret hx hb hr hlk hh dX6_init_126 (Nat.le_of_ble_eq_true rfl) (Nat.le_of_ble_eq_true rfl) ⟨rfl, _, hp.done, hp.2.2.2.1, hp.2.2.2.2⟩
