/-! the law's small helpers: low, cell; a call that also sees the script -/
def lowF (v n : Int32) : Int32 := (v &&& 2147483647) - (v &&& 2147483647) / n * n
theorem low_ix (v : Int32) {n : Nat} (h0 : 0 < n) (hn : n < 2 ^ 31) : ∃ j, j < n ∧ lowF v (nI n) = nI j := by
  have e1 : (v &&& 2147483647).toInt = v.toInt % 2 ^ 31 := Kit.i32_mask v 2147483647 (k := 31) (by decide) (by decide +kernel)
  have p4 : ¬ (v &&& 2147483647) < 0 := by rw [Int32.lt_iff_toInt_lt, Int32.toInt_zero, e1]; omega
  obtain ⟨a, ha, ea⟩ := nI_of p4
  refine ⟨a % n, Nat.mod_lt _ h0, ?_⟩
  unfold lowF
  rw [ea]
  exact pk_rem ha h0 hn
theorem k_low {l : Launch} {κ : Kx} {L : List Nat} {f : Nat → va_E} {v : Int32} {n j : Nat} (hj : lowF v (nI n) = nI j) (h0 : 0 < n) (hn : n < 2 ^ 31) : PM l κ yL_low wsL_low ({ frames := 0, cells := 0, slots := 0, locals := 0 } : Room) [.int v, .int (nI n)] L f (fun r L1 f1 => r = some (.int (nI j)) ∧ L = L1 ∧ f = f1) noX 0 0 := by
  refine PM.mk (cc := cL_low) (maxL := 2) (ret := (some .int)) (by decide) rfl (Nat.le_of_ble_eq_true rfl) ?_
  intro p e s m args below meth c ls hx hb hml hr hlk hnm hown hts ht hh hl
  have hl : lv_has ls 2 [(0, .int v), (1, .int (nI n))] := hl
  refine lv_iload_n hx hb dL_low_0 rfl (lv_at hl 0 rfl) ?_
  refine lv_ldc hx hb hown (hts (.constant RL 9 (2147483647)) (by decide +kernel)) dL_low_1 ?_
  refine lv_iand hx hb dL_low_3 ?_
  refine lv_iload_n hx hb dL_low_4 rfl (lv_at hl 1 rfl) ?_
  refine lv_irem hx hb dL_low_5 (nI_ne0 h0 hn) ?_
  exact k_iret hx hb hr hlk hh dL_low_6 (Nat.le_of_ble_eq_true rfl) (Nat.le_of_ble_eq_true rfl) ⟨by rw [← hj]; rfl, rfl, rfl⟩
/-- a contract that also asks K of the world -/
def PG (l : Launch) (κ : Kx) (y : MethodName) (ws : List Cond) (rm : Room) (av : List Value) (L : List Nat) (f : Nat → va_E) (K : State → Prop) (post : Option Value → List Nat → (Nat → va_E) → Prop) (mc ms : Nat) : Prop :=
  vx_Met l y ws rm (va_Pc av (fun U => HW κ L f U ∧ K U)) (PQ κ post) (PX κ L f noX) mc ms (kA κ)
theorem PG.mk {l : Launch} {κ : Kx} {y : MethodName} {ws ws' : List Cond} {rm : Room} {av : List Value} {L : List Nat} {f : Nat → va_E} {K : State → Prop} {post : Option Value → List Nat → (Nat → va_E) → Prop} {mc ms : Nat} {cc : ByteArray} {maxL : Nat} {ret : Option FieldType}
    (hy : plainName y.cls = true) (hw : ws = Cond.code y cc maxL ret :: ws') (hlen : (lg_sl av).length ≤ maxL)
    (body : ∀ (p : Program) (e : Env) (s : State) (m : MethodId) (args : Array Value) (below : List Frame) (meth : Method) (c : Code) (ls : Array Slot), p.tables.exec = Jvm.exec → c.code = cc → c.maxLocals = maxL → meth.sig.returnType = ret → meth.locks = false → s.vm.findClass y.cls = some m.cls → (∀ w ∈ ws, w.before args s = true) → HH κ L f s s.heap [] → K s → lv_has ls maxL (lv_args 0 av) →
      W p l e rm s m args below meth c s.heap [] 0 0 (vx_MQ below (PQ κ post) (PX κ L f noX) args s mc ms (kA κ)) (F0 m 0 ls [])) : PG l κ y ws rm av L f K post mc ms := by
  refine vx_ofW (cc := cc) (maxL := maxL) (ret := ret) hy hw ?_
  intro p e s m args below meth c s₁ B hml ht hv
  obtain ⟨rfl, hh, hk⟩ := hv
  rw [lg_entry_eq]
  exact body p e s m _ below meth c _ B.exec B.bytes hml B.returns B.notSynchronized (findClass_of_methodNamed B.named) (atoms_spec (ws := ws) B.pre) (HH.of hh) hk (lv_entry av hlen)
/-- the script lies at b -/
def KX (κ : Kx) (b Ln : Nat) (xs : Nat → Int32) (U : State) : Prop := va_X b Ln xs U U.heap ∧ b < κ.2.2.1
theorem KX.blind {κ : Kx} {b Ln : Nat} {xs : Nat → Int32} (a : Array Value) (U : State) (g : JFrame) (mk : MethodId) (h : KX κ b Ln xs U) : KX κ b Ln xs (U.calling g mk a) := ⟨va_X.moved (u := U) (U := U.calling g mk a) (Vm.Alike.refl U.vm) h.1, h.2⟩
section LROWS
variable {p : Program} {l : Launch} {e : Env} {R : Room} {s : State} {m : MethodId} {args : Array Value} {below : List Frame} {meth : Method} {c : Code} {H : Heap} {locs : List Loc} {cells slots : Nat} {Q : State → Prop}
variable {κ : Kx} {L : List Nat} {f : Nat → va_E} {cc : ByteArray} {pc : Nat} {ls : Array Slot} {rest st0 : List Value} {Ts : List Cond} {own : String}
theorem k_callG {y : MethodName} {bytes : ByteArray} {maxL nL mc ms n index : Nat} {ret : Option FieldType} {ws : List Cond} {rm : Room} {K : State → Prop} {post : Option Value → List Nat → (Nat → va_E) → Prop} {As : List Value} (hM : PG l κ y ws rm As L f K post mc ms) (hKb : ∀ (a : Array Value) (U : State) (g : JFrame) (mk : MethodId), K U → K (U.calling g mk a)) (hKU : ∀ U : State, U.heap = H → s.WarmedH U.vm → K U) (S : CallFix p m c cc nL s args Ts own) (hh : HH κ L f s H locs) (cw : CallB R s args own index y bytes maxL ret ws rm mc ms n ∧ (Cond.static y).before args s = true) (hn : As.length = n) (hsize : ls.size = nL) (hst : st0 = As.reverse ++ rest) (hW : (rest.map fun v => v.category).sum ≤ 8) (hdg : decode cc pc = .ok (.invokestatic index, 3)) (hr : cells + mc ≤ R.cells ∧ slots + ms ≤ R.slots)
    (kk : ∀ (v : Option Value) (L1 : List Nat) (f1 : Nat → va_E) (H1 : Heap) (locs1 : List Loc), post v L1 f1 → HH κ L1 f1 s H1 locs1 → W p l e R s m args below meth c H1 locs1 (cells + mc) (slots + ms) Q (F0 m (pc + 3) ls (v.toList ++ rest))) : W p l e R s m args below meth c H locs cells slots Q (F0 m pc ls st0) :=
  k_run (av := As) (vx_runS S hM cw ⟨fun a U g mk h => ⟨h.1, h.2.1.blind g mk a, hKb a U g mk h.2.2⟩, fun U hU hW => ⟨rfl, hh.out hU hW, hKU U hU hW⟩⟩ rfl hn hsize hst (lv_room hW) hdg hr) hh kk (fun _ _ _ _ _ h => h.elim)
theorem KX.at {b Ln : Nat} {xs : Nat → Int32} (hk : KX κ b Ln xs s) (hh : HH κ L f s H locs) (U : State) (hU : U.heap = H) (hW : s.WarmedH U.vm) : KX κ b Ln xs U := by
  have hbl : b < s.heap.size := Nat.lt_of_lt_of_le hk.2 hh.2.2.2.2.1
  have hbA : ¬ kA κ b := Nat.not_le.mpr hk.2
  exact ⟨by rw [hU]; exact (hk.1.kept (hh.2.2.2.1.2.1 b hbl hbA)).moved hW.alike, hk.2⟩
/-- the row 'holds' -/
theorem l_ald (hx : p.tables.exec = Jvm.exec) (hb : c.code = cc) (hh : HH κ L f s H locs) {hd : Nat} {gg : Nat → Int32} (h1 : hd ∈ L) (h2 : f hd = .inl (kI κ, 6, .inl gg)) {i : Nat} (hi : i < 6) {v : Int32} (hv : gg i = v) (hdg : decode cc pc = .ok (.iaload, 1))
    (kk : W p l e R s m args below meth c H locs cells slots Q (F0 m (pc + 1) ls (.int v :: rest))) : W p l e R s m args below meth c H locs cells slots Q (F0 m pc ls (.int (nI i) :: .ref hd :: rest)) := by
  have e : (nI i).toNatClampNeg = i := nI_clamp (by omega)
  exact h_iald hx hb hh h1 h2 (vp_in_nI hi (by decide)) hdg (by rw [e, hv]; exact kk)
theorem l_ast (hx : p.tables.exec = Jvm.exec) (hb : c.code = cc) (hh : HH κ L f s H locs) {hd : Nat} {gg : Nat → Int32} (h1 : hd ∈ L) (h2 : f hd = .inl (kI κ, 6, .inl gg)) {i : Nat} (hi : i < 6) {v : Int32} (hdg : decode cc pc = .ok (.iastore, 1))
    (kk : ∀ (H1 : Heap) (locs1 : List Loc), HH κ L (va_up f hd (.inl (kI κ, 6, .inl (upd gg i v)))) s H1 locs1 → W p l e R s m args below meth c H1 locs1 cells slots Q (F0 m (pc + 1) ls rest)) : W p l e R s m args below meth c H locs cells slots Q (F0 m pc ls (.int v :: .int (nI i) :: .ref hd :: rest)) := by
  have e : (nI i).toNatClampNeg = i := nI_clamp (by omega)
  exact h_iast hx hb hh h1 h2 (vp_in_nI hi (by decide)) hdg (fun H1 locs1 h => by rw [e] at h; exact kk H1 locs1 h)
end LROWS
theorem k_cell {l : Launch} {κ : Kx} {L : List Nat} {f : Nat → va_E} {b Ln k : Nat} {xs : Nat → Int32} (hLn : Ln < 2 ^ 31) (hk : k < 2 ^ 31) : PG l κ yL_cell wsL_cell ({ frames := 0, cells := 0, slots := 0, locals := 0 } : Room) [.ref b, .int (nI k)] L f (KX κ b Ln xs) (fun r L1 f1 => ∃ z : Int32, r = some (.int z) ∧ L = L1 ∧ f = f1) 0 0 := by
  refine PG.mk (cc := cL_cell) (maxL := 2) (ret := (some .int)) (by decide) rfl (Nat.le_of_ble_eq_true rfl) ?_
  intro p e s m args below meth c ls hx hb hml hr hlk hown hts hh hK hl
  have hl : lv_has ls 2 [(0, .ref b), (1, .int (nI k))] := hl
  have hbl : b < s.heap.size := Nat.lt_of_lt_of_le hK.2 hh.2.2.2.2.1
  have hbA : ¬ kA κ b := Nat.not_le.mpr hK.2
  refine lv_iload_n hx hb dL_cell_0 rfl (lv_at hl 1 rfl) ?_
  refine lv_aload_n hx hb dL_cell_1 rfl (lv_at hl 0 rfl) ?_
  refine va_slen hx hb hK.1 hbl hbA hh.2.2.2.1 dL_cell_2 ?_
  refine lv_icmp_ge (tgt := 12) hx hb dL_cell_3 (by decide) (fun _ => ?_) (fun c3 => ?_)
  · refine lv_ldc hx hb hown (hts (.constant RL 7 (32810033)) (by decide +kernel)) dL_cell_12 ?_
    refine lv_iload_n hx hb dL_cell_14 rfl (lv_at hl 1 rfl) ?_
    refine lv_imul hx hb dL_cell_15 ?_
    refine lv_ldc hx hb hown (hts (.constant RL 8 (59201)) (by decide +kernel)) dL_cell_16 ?_
    refine lv_iadd hx hb dL_cell_18 ?_
    exact k_iret hx hb hr hlk hh dL_cell_19 (Nat.le_of_ble_eq_true rfl) (Nat.le_of_ble_eq_true rfl) ⟨_, rfl, rfl, rfl⟩
  · have hlt : k < Ln := by
      rcases Nat.lt_or_ge k Ln with q | q
      · exact q
      · exact absurd (nI_le q hk) c3
    refine lv_aload_n hx hb dL_cell_6 rfl (lv_at hl 0 rfl) ?_
    refine lv_iload_n hx hb dL_cell_7 rfl (lv_at hl 1 rfl) ?_
    refine va_sld hx hb hK.1 hbl hbA hh.2.2.2.1 (vp_in_nI hlt hLn) dL_cell_8 ?_
    refine lv_goto (tgt := 19) hx hb dL_cell_9 (by decide) ?_
    exact k_iret hx hb hr hlk hh dL_cell_19 (Nat.le_of_ble_eq_true rfl) (Nat.le_of_ble_eq_true rfl) ⟨_, rfl, rfl, rfl⟩
