section CALLS
variable {p : Program} {l : Launch} {e : Env} {R : Room} {s : State} {m : MethodId} {args : Array Value} {below : List Frame} {meth : Method} {c : Code} {H : Heap} {locs : List Loc} {cells slots : Nat} {Q : State → Prop}
variable {κ : Kx} {L : List Nat} {f : Nat → va_E} {cc : ByteArray} {pc : Nat} {ls : Array Slot} {rest st0 : List Value} {Ts : List Cond} {own : String}
variable {y : MethodName} {bytes : ByteArray} {maxL nL mc ms n index : Nat} {ret : Option FieldType} {ws : List Cond} {rm : Room} {post : Option Value → List Nat → (Nat → va_E) → Prop} {ex : String → Prop} {C : String} {b : Addr} {As av : List Value}
/-- a constructor's contract (it never throws) -/
def PC (l : Launch) (κ : Kx) (y : MethodName) (ws : List Cond) (rm : Room) (av : List Value) (L : List Nat) (f : Nat → va_E) (post : Option Value → List Nat → (Nat → va_E) → Prop) (mc ms : Nat) : Prop :=
  Met l y ws rm (va_Pc av (fun U => HW κ L f U)) (PQ κ post) mc ms (kA κ)
theorem k_blind : FrameBlind (va_Pc av (fun U => HW κ L f U)) := fun a U g mk h => ⟨h.1, h.2.blind g mk a⟩
theorem k_preS (hh : HH κ L f s H locs) : PreS s H (va_Pc As (fun U => HW κ L f U)) As := ⟨k_blind, fun _ hU hW => ⟨rfl, hh.out hU hW⟩⟩
theorem k_preV (hh : HH κ L f s H locs) {ci : Nat} {q : vw_C} {fs : List Value} (hb : b ∈ L) (hf : f b = .inr (ci, fs)) (hc : vwCl[ci]? = some q) (hC : q.1 = C) : PreV s H C b (va_Pc (.ref b :: As) (fun U => HW κ L f U)) As :=
  ⟨k_blind, by subst hC; exact hh.recv hb hf hc, fun _ hU hW => ⟨rfl, hh.out hU hW⟩⟩
theorem k_run (hr : vx_Run p l e R s m args below meth c H locs cells slots mc ms (F0 m pc ls st0) rest (PQ κ post av.toArray) (PX κ L f ex) (kA κ)) (hh : HH κ L f s H locs)
    (kk : ∀ (v : Option Value) (L1 : List Nat) (f1 : Nat → va_E) (H1 : Heap) (locs1 : List Loc), post v L1 f1 → HH κ L1 f1 s H1 locs1 → W p l e R s m args below meth c H1 locs1 (cells + mc) (slots + ms) Q (F0 m (pc + 3) ls (v.toList ++ rest)))
    (kx : ∀ (E : String) (ce : Cell) (q9 : Addr) (H1 : Heap) (locs1 : List Loc), ex E → HH κ L f s H1 locs1 → H1[q9]? = some ce → ce.vm = .none → s.vm.findClass E = some ce.cls → vx_W p l e R s m args below meth c H1 locs1 (cells + mc) (slots + ms) Q (F0 m pc ls rest) q9) : W p l e R s m args below meth c H locs cells slots Q (F0 m pc ls st0) := by
  intro T hT X
  rcases hr T hT X with ⟨v, st₀, t, T', L9, h0, X', hL, e1, e2, ⟨⟨v1, L1, f1, hv, hp, hb⟩, hF⟩, st⟩ | ⟨q, st₀, t, T', L9, E, ce, h0, X', hL, e1, e2, ⟨hp, hb, hF⟩, hce, hcv, hcl, st⟩
  · cases hv
    obtain ⟨k1, k2, k3⟩ := vx_keep h0 e1 hh.2.2.2.1 (fun _ _ h => h) (fun _ h => h) hL hF
    obtain ⟨t2, a1, b1⟩ := kk v L1 f1 T'.heap (locs ++ L9) hp (hh.back hb e1.symm k3) T' rfl X'
    exact ⟨t2, st t2 a1, b1⟩
  · obtain ⟨k1, k2, k3⟩ := vx_keep h0 e1 hh.2.2.2.1 (fun _ _ h => h) (fun _ h => h) hL hF
    obtain ⟨t2, a1, b1⟩ := kx E ce q T'.heap (locs ++ L9) hp ⟨hh.1, by rw [e1]; exact hb, hh.2.2.1, k3, hh.2.2.2.2.1, hh.2.2.2.2.2⟩ (by rw [e1]; exact hce) hcv hcl T' rfl X'
    exact ⟨t2, st.trans a1, b1⟩
theorem k_runC (hr : va_Run p l e R s m args below meth c H locs cells slots mc ms (F0 m pc ls st0) rest (PQ κ post av.toArray) (kA κ)) (hh : HH κ L f s H locs)
    (kk : ∀ (v : Option Value) (L1 : List Nat) (f1 : Nat → va_E) (H1 : Heap) (locs1 : List Loc), post v L1 f1 → HH κ L1 f1 s H1 locs1 → W p l e R s m args below meth c H1 locs1 (cells + mc) (slots + ms) Q (F0 m (pc + 3) ls (v.toList ++ rest))) : W p l e R s m args below meth c H locs cells slots Q (F0 m pc ls st0) := by
  intro T hT X
  obtain ⟨v, st₀, t, T', L9, h0, X', hL, e1, e2, ⟨⟨v1, L1, f1, hv, hp, hb⟩, hF⟩, st⟩ := hr T hT X
  cases hv
  obtain ⟨k1, k2, k3⟩ := vx_keep h0 e1 hh.2.2.2.1 (fun _ _ h => h) (fun _ h => h) hL hF
  obtain ⟨t2, a1, b1⟩ := kk v L1 f1 T'.heap (locs ++ L9) hp (hh.back hb e1.symm k3) T' rfl X'
  exact ⟨t2, st t2 a1, b1⟩
/-- invokevirtual (also of a private method of the same class) -/
theorem k_callV (hM : PM l κ y ws rm (.ref b :: As) L f post ex mc ms) (S : CallFix p m c cc nL s args Ts own) (hh : HH κ L f s H locs) (cw : CallW R s args own C index y bytes maxL ret ws rm mc ms n) {ci : Nat} {q : vw_C} {fs : List Value} (hb : b ∈ L) (hf : f b = .inr (ci, fs)) (hc : vwCl[ci]? = some q) (hC : q.1 = C) (hn : As.length = n) (hsize : ls.size = nL) (hst : st0 = As.reverse ++ .ref b :: rest) (hW : (rest.map fun v => v.category).sum ≤ 8) (hdg : decode cc pc = .ok (.invokevirtual index, 3)) (hr : cells + mc ≤ R.cells ∧ slots + ms ≤ R.slots)
    (kk : ∀ (v : Option Value) (L1 : List Nat) (f1 : Nat → va_E) (H1 : Heap) (locs1 : List Loc), post v L1 f1 → HH κ L1 f1 s H1 locs1 → W p l e R s m args below meth c H1 locs1 (cells + mc) (slots + ms) Q (F0 m (pc + 3) ls (v.toList ++ rest)))
    (kx : ∀ (E : String) (ce : Cell) (q9 : Addr) (H1 : Heap) (locs1 : List Loc), ex E → HH κ L f s H1 locs1 → H1[q9]? = some ce → ce.vm = .none → s.vm.findClass E = some ce.cls → vx_W p l e R s m args below meth c H1 locs1 (cells + mc) (slots + ms) Q (F0 m pc ls rest) q9) : W p l e R s m args below meth c H locs cells slots Q (F0 m pc ls st0) :=
  k_run (av := .ref b :: As) (vx_runV S hM cw (k_preV hh hb hf hc hC) rfl hn hsize hst (lv_room hW) hdg hr) hh kk kx
/-- invokestatic -/
theorem k_callS (hM : PM l κ y ws rm As L f post ex mc ms) (S : CallFix p m c cc nL s args Ts own) (hh : HH κ L f s H locs) (cw : CallB R s args own index y bytes maxL ret ws rm mc ms n ∧ (Cond.static y).before args s = true) (hn : As.length = n) (hsize : ls.size = nL) (hst : st0 = As.reverse ++ rest) (hW : (rest.map fun v => v.category).sum ≤ 8) (hdg : decode cc pc = .ok (.invokestatic index, 3)) (hr : cells + mc ≤ R.cells ∧ slots + ms ≤ R.slots)
    (kk : ∀ (v : Option Value) (L1 : List Nat) (f1 : Nat → va_E) (H1 : Heap) (locs1 : List Loc), post v L1 f1 → HH κ L1 f1 s H1 locs1 → W p l e R s m args below meth c H1 locs1 (cells + mc) (slots + ms) Q (F0 m (pc + 3) ls (v.toList ++ rest)))
    (kx : ∀ (E : String) (ce : Cell) (q9 : Addr) (H1 : Heap) (locs1 : List Loc), ex E → HH κ L f s H1 locs1 → H1[q9]? = some ce → ce.vm = .none → s.vm.findClass E = some ce.cls → vx_W p l e R s m args below meth c H1 locs1 (cells + mc) (slots + ms) Q (F0 m pc ls rest) q9) : W p l e R s m args below meth c H locs cells slots Q (F0 m pc ls st0) :=
  k_run (av := As) (vx_runS S hM cw (k_preS hh) rfl hn hsize hst (lv_room hW) hdg hr) hh kk kx
/-- a callee that never throws -/
theorem k_callV0 (hM : PM l κ y ws rm (.ref b :: As) L f post noX mc ms) (S : CallFix p m c cc nL s args Ts own) (hh : HH κ L f s H locs) (cw : CallW R s args own C index y bytes maxL ret ws rm mc ms n) {ci : Nat} {q : vw_C} {fs : List Value} (hb : b ∈ L) (hf : f b = .inr (ci, fs)) (hc : vwCl[ci]? = some q) (hC : q.1 = C) (hn : As.length = n) (hsize : ls.size = nL) (hst : st0 = As.reverse ++ .ref b :: rest) (hW : (rest.map fun v => v.category).sum ≤ 8) (hdg : decode cc pc = .ok (.invokevirtual index, 3)) (hr : cells + mc ≤ R.cells ∧ slots + ms ≤ R.slots)
    (kk : ∀ (v : Option Value) (L1 : List Nat) (f1 : Nat → va_E) (H1 : Heap) (locs1 : List Loc), post v L1 f1 → HH κ L1 f1 s H1 locs1 → W p l e R s m args below meth c H1 locs1 (cells + mc) (slots + ms) Q (F0 m (pc + 3) ls (v.toList ++ rest))) : W p l e R s m args below meth c H locs cells slots Q (F0 m pc ls st0) :=
  k_callV hM S hh cw hb hf hc hC hn hsize hst hW hdg hr kk (fun _ _ _ _ _ h => h.elim)
theorem k_callS0 (hM : PM l κ y ws rm As L f post noX mc ms) (S : CallFix p m c cc nL s args Ts own) (hh : HH κ L f s H locs) (cw : CallB R s args own index y bytes maxL ret ws rm mc ms n ∧ (Cond.static y).before args s = true) (hn : As.length = n) (hsize : ls.size = nL) (hst : st0 = As.reverse ++ rest) (hW : (rest.map fun v => v.category).sum ≤ 8) (hdg : decode cc pc = .ok (.invokestatic index, 3)) (hr : cells + mc ≤ R.cells ∧ slots + ms ≤ R.slots)
    (kk : ∀ (v : Option Value) (L1 : List Nat) (f1 : Nat → va_E) (H1 : Heap) (locs1 : List Loc), post v L1 f1 → HH κ L1 f1 s H1 locs1 → W p l e R s m args below meth c H1 locs1 (cells + mc) (slots + ms) Q (F0 m (pc + 3) ls (v.toList ++ rest))) : W p l e R s m args below meth c H locs cells slots Q (F0 m pc ls st0) :=
  k_callS hM S hh cw hn hsize hst hW hdg hr kk (fun _ _ _ _ _ h => h.elim)
/-- invokespecial of a constructor -/
theorem k_callI (hM : PC l κ y ws rm (.ref b :: As) L f post mc ms) (S : CallFix p m c cc nL s args Ts own) (hh : HH κ L f s H locs) (cw : CallB R s args own index y bytes maxL none ws rm mc ms n ∧ y.name = "<init>" ∧ (Cond.instanceMethod y).before args s = true) (hn : As.length = n) (hsize : ls.size = nL) (hst : st0 = As.reverse ++ .ref b :: rest) (hW : (rest.map fun v => v.category).sum ≤ 8) (hdg : decode cc pc = .ok (.invokespecial index, 3)) (hr : cells + mc ≤ R.cells ∧ slots + ms ≤ R.slots)
    (kk : ∀ (v : Option Value) (L1 : List Nat) (f1 : Nat → va_E) (H1 : Heap) (locs1 : List Loc), post v L1 f1 → HH κ L1 f1 s H1 locs1 → W p l e R s m args below meth c H1 locs1 (cells + mc) (slots + ms) Q (F0 m (pc + 3) ls (v.toList ++ rest))) : W p l e R s m args below meth c H locs cells slots Q (F0 m pc ls st0) :=
  k_runC (av := .ref b :: As) (va_runI S hM cw (k_preS hh) rfl hn hsize hst (lv_room hW) hdg hr) hh kk
theorem PC.mk {ws' : List Cond} (hy : plainName y.cls = true) (hw : ws = Cond.code y cc maxL ret :: ws') (hlen : (lg_sl av).length ≤ maxL)
    (body : ∀ (p : Program) (e : Env) (s : State) (m : MethodId) (args : Array Value) (below : List Frame) (meth : Method) (c : Code) (ls : Array Slot), p.tables.exec = Jvm.exec → c.code = cc → c.maxLocals = maxL → meth.sig.returnType = ret → meth.locks = false → meth.name = y.name → s.vm.findClass y.cls = some m.cls → (∀ w ∈ ws, w.before args s = true) → HH κ L f s s.heap [] → lv_has ls maxL (lv_args 0 av) →
      W p l e rm s m args below meth c s.heap [] 0 0 (MQ below (PQ κ post) args s mc ms (kA κ)) (F0 m 0 ls [])) : PC l κ y ws rm av L f post mc ms := by
  refine Met.ofW (cc := cc) (maxL := maxL) (ret := ret) hy hw ?_
  intro p e s m args below meth c s₁ B hml hv
  obtain ⟨rfl, hh⟩ := hv
  rw [lg_entry_eq]
  exact body p e s m _ below meth c _ B.exec B.bytes hml B.returns B.notSynchronized (name_of_methodNamed B.named B.method).1 (findClass_of_methodNamed B.named) (atoms_spec (ws := ws) B.pre) (HH.of hh) (lv_entry av hlen)
/-- ends -/
theorem k_Q {v : Option Value} {t : State} (hh : HH κ L f s H locs) (hp : post v L f) (ht : t.heap = H) (hW : s.WarmedH t.vm) : PQ κ post args s (.returned v) t := ⟨⟨v, L, f, rfl, hp, hh.out ht hW⟩, hh.2.2.2.1.F ht⟩
variable {L0 : List Nat} {f0 : Nat → va_E}
theorem k_iret (hx : p.tables.exec = Jvm.exec) (hb : c.code = cc) (hr : meth.sig.returnType = some .int) (hlk : meth.locks = false) {v : Int32} (hh : HH κ L f s H locs) (hdg : decode cc pc = .ok (.ireturn, 1)) (hc : cells ≤ mc) (hs : slots ≤ ms) (hp : post (some (.int v)) L f) : W p l e R s m args below meth c H locs cells slots (vx_MQ below (PQ κ post) (PX κ L0 f0 ex) args s mc ms (kA κ)) (F0 m pc ls [.int v]) :=
  W.widen hc hs (vx_ret (W.iret hx hb hr (fun _ ht hW => k_Q hh hp ht hW) hh.2.2.2.1.2.2 hdg hlk))
theorem k_zret (hx : p.tables.exec = Jvm.exec) (hb : c.code = cc) (hr : meth.sig.returnType = some .boolean) (hlk : meth.locks = false) {v : Int32} (hn : narrow .boolean (.int v) = .int v) (hh : HH κ L f s H locs) (hdg : decode cc pc = .ok (.ireturn, 1)) (hc : cells ≤ mc) (hs : slots ≤ ms) (hp : post (some (.int v)) L f) : W p l e R s m args below meth c H locs cells slots (vx_MQ below (PQ κ post) (PX κ L0 f0 ex) args s mc ms (kA κ)) (F0 m pc ls [.int v]) :=
  W.widen hc hs (vx_ret (W.zret hx hb hr hn (fun _ ht hW => k_Q hh hp ht hW) hh.2.2.2.1.2.2 hdg hlk))
theorem k_vret (hx : p.tables.exec = Jvm.exec) (hb : c.code = cc) (hr : meth.sig.returnType = none) (hlk : meth.locks = false) (hh : HH κ L f s H locs) (hdg : decode cc pc = .ok (.return_, 1)) (hc : cells ≤ mc) (hs : slots ≤ ms) (hp : post none L f) : W p l e R s m args below meth c H locs cells slots (vx_MQ below (PQ κ post) (PX κ L0 f0 ex) args s mc ms (kA κ)) (F0 m pc ls []) :=
  W.widen hc hs (vx_ret (W.vret hx hb hr (fun _ ht hW => k_Q hh hp ht hW) hh.2.2.2.1.2.2 hdg hlk))
theorem k_aret (hx : p.tables.exec = Jvm.exec) (hb : c.code = cc) {rt : FieldType} (hr : meth.sig.returnType = some rt) (hrt : (∃ n, rt = .object n) ∨ ∃ t, rt = .array t) (hlk : meth.locks = false) {a : Nat} (hh : HH κ L f s H locs) (hdg : decode cc pc = .ok (.areturn, 1)) (hc : cells ≤ mc) (hs : slots ≤ ms) (hp : post (some (.ref a)) L f) : W p l e R s m args below meth c H locs cells slots (vx_MQ below (PQ κ post) (PX κ L0 f0 ex) args s mc ms (kA κ)) (F0 m pc ls [.ref a]) :=
  W.widen hc hs (vx_ret (W.aret hx hb hr hrt (Or.inr ⟨a, rfl⟩) (fun _ ht hW => k_Q hh hp ht hW) hh.2.2.2.1.2.2 hdg hlk))
theorem k_cret (hx : p.tables.exec = Jvm.exec) (hb : c.code = cc) (hr : meth.sig.returnType = none) (hlk : meth.locks = false) (hh : HH κ L f s H locs) (hdg : decode cc pc = .ok (.return_, 1)) (hc : cells ≤ mc) (hs : slots ≤ ms) (hp : post none L f) : W p l e R s m args below meth c H locs cells slots (MQ below (PQ κ post) args s mc ms (kA κ)) (F0 m pc ls []) :=
  W.widen hc hs (W.vret hx hb hr (fun _ ht hW => k_Q hh hp ht hW) hh.2.2.2.1.2.2 hdg hlk)
/-- thrown by a callee, not caught here -/
theorem k_out (ht : ∀ x ∈ c.exceptionTable.toList, False) (hlk : meth.locks = false) {E : String} {ce : Cell} {q9 : Addr} (hE : ex E) (hh : HH κ L f s H locs) (h1 : H[q9]? = some ce) (h2 : ce.vm = .none) (h3 : s.vm.findClass E = some ce.cls) (hc : cells ≤ mc) (hs : slots ≤ ms) : vx_W p l e R s m args below meth c H locs cells slots (vx_MQ below (PQ κ post) (PX κ L f ex) args s mc ms (kA κ)) (F0 m pc ls rest) q9 :=
  vx_out (fun x hx => (ht x hx).elim) hlk h1 h2 h3 (fun t ht _ => ⟨hE, by rw [ht]; exact hh.2.1, hh.2.2.2.1.F ht⟩) hh.2.2.2.1.2.2 hc hs
/-- 'throw new E("text")' in CoalHulks -/
theorem k_throw (hx : p.tables.exec = Jvm.exec) (hb : c.code = cc) (hl : l.stackTraces = false) (hml : c.maxLocals = ls.size) (hown : s.vm.findClass RX5 = some m.cls) (ht : ∀ x ∈ c.exceptionTable.toList, False) (hlk : meth.locks = false) (hts : ∀ w ∈ Ts, w.before args s = true) (hh : HH κ L f s H locs) {E text : String} {ik is ic : Nat} (hE : ex E) (hstr : (is, text) ∈ kStr)
    (hcls : Bundle.fit E = true) (hk : Cond.classLink RX5 ik E ∈ Ts) (hini : Cond.initialized E ∈ Ts) (hca : (E, E) ∈ kCa) (hgw : ∀ w ∈ (vx_atS RX5 ic E ["java/lang/RuntimeException", "java/lang/Exception"]).filter goodWord, w ∈ Ts) (hnb : ∀ w ∈ (vx_atS RX5 ic E ["java/lang/RuntimeException", "java/lang/Exception"]).filter (fun w => !goodWord w), w ∈ Cond.castable E E :: kDe.map Cond.declares)
    (hgood : ∀ w ∈ Cond.classLink RX5 ik E :: Cond.initialized E :: vx_atS RX5 ic E ["java/lang/RuntimeException", "java/lang/Exception"], vx_ot w = true)
    (d0 : decode cc pc = .ok (.new ik, 3)) (d3 : decode cc (pc + 3) = .ok (.dup, 1)) (d4 : decode cc (pc + 4) = .ok (.ldc is, 2)) (d6 : decode cc (pc + 6) = .ok (.invokespecial ic, 3)) (d9 : decode cc (pc + 9) = .ok (.athrow, 1))
    (hRf : 5 < R.frames) (hRl : (rest.map fun v => v.category).sum + 82 ≤ R.locals) (hRc : cells + 1 ≤ R.cells) (hRs : slots + 6 ≤ R.slots) (hc : cells + 1 ≤ mc) (hs : slots + 6 ≤ ms) :
    W p l e R s m args below meth c H locs cells slots (vx_MQ below (PQ κ post) (PX κ L f ex) args s mc ms (kA κ)) (F0 m pc ls rest) :=
  vx_throwS (A := kA κ) (sa := κ.2.2.2.2.2 is) (text := text) (names := ["java/lang/RuntimeException", "java/lang/Exception"]) hx hb hl hown hcls (by decide +kernel) (hts _ hk) (hts _ hini) (hh.2.2.2.2.2.2.2.2.1 _ hstr) (vx_hat (fun w h => hts w (hgw w h)) hnb (vx_c (va_Nw.use rfl (hh.2.2.2.2.2.2.2.2.2.2 _ hca)) (fun w hw => by obtain ⟨q, hq, rfl⟩ := List.mem_map.mp hw; exact va_Nw.use rfl (hh.2.2.2.2.2.2.2.2.2.1.2 q hq)))) hgood hh.2.2.2.2.2.1.1 hh.2.2.2.2.2.1.2 hh.2.2.2.1 hml.symm d0 d3 d4 d6 d9 (fun x hx => (ht x hx).elim) hRf hRl hRc hRs hlk
    (fun t _ h1 h2 => ⟨hE, fun k q hq => (hh.2.1 k q hq).kept (h2 q.1 (hh.2.1 k q hq).lt), Nat.le_trans hh.2.2.2.1.1 h1, fun q hq hn => (h2 q (Nat.lt_of_lt_of_le hq hh.2.2.2.1.1)).trans (hh.2.2.2.1.2.1 q hq hn)⟩) hh.2.2.2.1.2.2 hc hs
end CALLS
