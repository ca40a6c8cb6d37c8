/-! my own layer over the kit: a pool of cells (addresses L, contents f), one contract form PM for all methods (it returns with a new pool, or throws with the old one), and the rows of the kit said in these words -/
abbrev Kx : Type := va_G × (ClassId × ClassId × ClassId) × Nat × Nat × Nat × (Nat → Nat)
def kA (κ : Kx) : Nat → Prop := fun q => κ.2.2.1 ≤ q
abbrev kI (κ : Kx) : ClassId := κ.2.1.1
abbrev kO (κ : Kx) : ClassId := κ.2.1.2.1
abbrev kJ (κ : Kx) : ClassId := κ.2.1.2.2
abbrev kTE (κ : Kx) : Nat := κ.2.2.2.1
abbrev kMI (κ : Kx) : Nat := κ.2.2.2.2.1
def kT (κ : Kx) : List (ClassId × FieldType) := [(kI κ, .int), (kO κ, .object "java/lang/Object")]
def kStr : List (Nat × String) := [(38, "there are 3 hulks"), (52, "there are 6 lighters"), (58, "there is no hulk"), (69, "there are 6 gangs"), (80, "there is no room outside"), (109, "the steamer has left"), (172, "the place is below 0"), (179, "out of range"), (181, "the lighter has an order"), (186, "the gang has an order or rests"), (190, "no such hulk"), (193, "no such lighter"), (195, "no such gang"), (197, "no such steamer")]
def kNc : List (String × String) := []
def kCa : List (String × String) := [(RX0, "java/lang/Object"), (RX1, "java/lang/Object"), (RX2, "java/lang/Object"), (RX4, "java/lang/Object"), ("java/lang/IllegalArgumentException", "java/lang/IllegalArgumentException"), ("java/lang/IllegalStateException", "java/lang/IllegalStateException"), ("java/lang/IndexOutOfBoundsException", "java/lang/IndexOutOfBoundsException")]
def kDe : List MethodName := [Bundle.initS "java/lang/RuntimeException", Bundle.initS "java/lang/Exception", Bundle.initS Bundle.tN]
/-- what a method needs of the world outside the pool -/
def kSt (κ : Kx) (U : State) (H : Heap) : Prop :=
  (vx_Zq Bundle.tN "UNASSIGNED_STACK" Bundle.steD (kA κ) U H ∧ vx_Zq Bundle.tN "SUPPRESSED_SENTINEL" Bundle.listD (kA κ) U H) ∧
  (va_Z "java/util/ArrayList" "DEFAULTCAPACITY_EMPTY_ELEMENTDATA" "[Ljava/lang/Object;" (.ref (kTE κ)) (kA κ) U H ∧ va_T (.object "java/lang/Object") (kTE κ) 0 (fun _ => .null) (kA κ) U H) ∧
  (va_Mi "[Ljava/lang/Object;" (kMI κ) U ∧ va_Dc U ∧ va_AO "java/lang/Object" U) ∧
  (∀ q ∈ kStr, vk_R RX5 q.1 q.2 (κ.2.2.2.2.2 q.1) U) ∧ ((∀ q ∈ kNc, va_Nc q.1 q.2 U) ∧ (∀ q ∈ kDe, va_Nw (.declares q) U)) ∧ (∀ q ∈ kCa, va_Nw (.castable q.1 q.2) U)
theorem kSt.warm {κ : Kx} {s U : State} {H H1 : Heap} (h : kSt κ s H) (hW : s.WarmedH U.vm) (hq : ∀ a : Nat, a < H.size → ¬ kA κ a → H1[a]? = H[a]?) : kSt κ U H1 := by
  obtain ⟨⟨h1, h2⟩, ⟨h3, h4⟩, ⟨h5, h6, h7⟩, h8, ⟨h9, h11⟩, h10⟩ := h
  exact ⟨⟨(h1.kept hq).moved hW.alike, (h2.kept hq).moved hW.alike⟩, ⟨(h3.kept hq).moved hW.alike, (h4.kept hq).moved hW.alike⟩, ⟨h5.moved hW.alike, h6.moved hW.alike, h7.moved hW.alike⟩, fun q hq => (h8 q hq).warm hW, ⟨fun q hq => (h9 q hq).moved hW.alike, fun q hq => (h11 q hq).warmD hW⟩, fun q hq => (h10 q hq).warmC hW⟩
/-- here: at heap H of the method begun in s, the pool holds f at L -/
def HH (κ : Kx) (L : List Nat) (f : Nat → va_E) (s : State) (H : Heap) (locs : List Loc) : Prop :=
  va_K κ.1 vwCl (kT κ) s ∧ va_P κ.1 vwCl (va_pl L f) H ∧ va_D (kA κ) (va_pl L f) ∧ va_S (kA κ) s.heap H locs ∧ κ.2.2.1 ≤ s.heap.size ∧ kSt κ s s.heap
/-- the same of a state -/
def HW (κ : Kx) (L : List Nat) (f : Nat → va_E) (U : State) : Prop :=
  va_K κ.1 vwCl (kT κ) U ∧ va_P κ.1 vwCl (va_pl L f) U.heap ∧ va_D (kA κ) (va_pl L f) ∧ κ.2.2.1 ≤ U.heap.size ∧ kSt κ U U.heap
section BASE
variable {κ : Kx} {L : List Nat} {f : Nat → va_E} {s : State} {H : Heap} {locs : List Loc}
theorem HH.out (h : HH κ L f s H locs) {U : State} (hU : U.heap = H) (hW : s.WarmedH U.vm) : HW κ L f U := by
  obtain ⟨hK, hP, hD, hS, hb, hs⟩ := h
  exact ⟨hK.moved hW.alike, by rw [hU]; exact hP, hD, by rw [hU]; exact Nat.le_trans hb hS.1, by rw [hU]; exact hs.warm hW hS.2.1⟩
theorem HW.blind {U : State} (h : HW κ L f U) (g : JFrame) (mk : MethodId) (a : Array Value) : HW κ L f (U.calling g mk a) := by
  obtain ⟨hK, hP, hD, hb, hs⟩ := h
  exact ⟨va_K.moved (u := U) (U := U.calling g mk a) (Vm.Alike.refl U.vm) hK, hP, hD, hb, kSt.warm (s := U) (U := U.calling g mk a) hs (State.WarmedH.refl U) (fun _ _ _ => rfl)⟩
theorem HH.of (h : HW κ L f s) : HH κ L f s s.heap [] := ⟨h.1, h.2.1, h.2.2.1, va_S.rf, h.2.2.2.1, h.2.2.2.2⟩
theorem HH.back (h : HH κ L f s H locs) {L1 : List Nat} {f1 : Nat → va_E} {t : State} {H1 : Heap} {locs1 : List Loc} (ht : HW κ L1 f1 t) (e : t.heap = H1) (hS : va_S (kA κ) s.heap H1 locs1) : HH κ L1 f1 s H1 locs1 :=
  ⟨h.1, by rw [← e]; exact ht.2.1, ht.2.2.1, hS, h.2.2.2.2.1, h.2.2.2.2.2⟩
theorem HH.pos (_ : HH κ L f s H locs) {a : Nat} (ha : a ∈ L) {e : va_E} (hf : f a = e) : ∃ k : Nat, (va_pl L f)[k]? = some (a, f a) ∧ (va_pl L f)[k]? = some (a, e) := by
  obtain ⟨k, hk⟩ := va_pl_get (X := []) (f := f) ha
  exact ⟨k, hk, by rw [← hf]; exact hk⟩
theorem HH.hA (h : HH κ L f s H locs) : ∀ q, s.heap.size ≤ q → kA κ q := fun _ hq => Nat.le_trans h.2.2.2.2.1 hq
theorem HH.recv (h : HH κ L f s H locs) {a ci : Nat} {q : vw_C} {fs : List Value} (ha : a ∈ L) (hf : f a = .inr (ci, fs)) (hc : vwCl[ci]? = some q) : ∃ cell : Cell, H[a]? = some cell ∧ cell.vm.isStatics = false ∧ s.vm.findClass q.1 = some cell.cls := by
  obtain ⟨k, -, hk⟩ := h.pos ha hf
  exact va_recv h.1 h.2.1 hc hk
theorem HH.set (h : HH κ L f s H locs) {a k : Nat} {e : va_E} {H1 : Heap} {locs1 : List Loc} (ha : a ∈ L) (hk : (va_pl L f)[k]? = some (a, f a)) (hP : va_P κ.1 vwCl ((va_pl L f).set k (a, e)) H1) (hD : va_D (kA κ) ((va_pl L f).set k (a, e))) (hS : va_S (kA κ) s.heap H1 locs1) : HH κ L (va_up f a e) s H1 locs1 := by
  have e1 : (va_pl L f).set k (a, e) = va_pl L (va_up f a e) := va_pl_set (X := []) h.2.2.1 ha hk
  rw [e1] at hP hD
  exact ⟨h.1, hP, hD, hS, h.2.2.2.2.1, h.2.2.2.2.2⟩
theorem HH.push (h : HH κ L f s H locs) {q : Nat} {e : va_E} {H1 : Heap} {locs1 : List Loc} (hP : va_P κ.1 vwCl (va_pl L f ++ [(q, e)]) H1) (hD : va_D (kA κ) (va_pl L f ++ [(q, e)])) (hS : va_S (kA κ) s.heap H1 locs1) : q ∉ L ∧ HH κ (L ++ [q]) (va_up f q e) s H1 locs1 := by
  have hq : q ∉ L := fun hm => by
    obtain ⟨k, hk, -⟩ := h.pos hm (rfl : f q = f q)
    have hlt : k < (va_pl L f).length := (List.getElem?_eq_some_iff.mp hk).1
    have h1 : (va_pl L f ++ [(q, e)])[k]? = some (q, f q) := by rw [List.getElem?_append_left hlt]; exact hk
    have h2 : (va_pl L f ++ [(q, e)])[(va_pl L f).length]? = some (q, e) := by rw [List.getElem?_append_right (Nat.le_refl _)]; simp
    have := hD.1 _ _ _ _ h1 h2 rfl
    omega
  rw [va_pl_push hq] at hP hD
  exact ⟨hq, h.1, hP, hD, hS, h.2.2.2.2.1, h.2.2.2.2.2⟩
end BASE
/-- what a method's end gives: the value, the new pool -/
def PQ (κ : Kx) (post : Option Value → List Nat → (Nat → va_E) → Prop) : Array Value → State → Outcome → State → Prop := fun _ st o t => (∃ (v : Option Value) (L1 : List Nat) (f1 : Nat → va_E), o = .returned v ∧ post v L1 f1 ∧ HW κ L1 f1 t) ∧ va_F (kA κ) st t
def PX (κ : Kx) (L : List Nat) (f : Nat → va_E) (ex : String → Prop) : String → State → State → Prop := fun E st t => ex E ∧ va_P κ.1 vwCl (va_pl L f) t.heap ∧ va_F (kA κ) st t
/-- the contract: from the pool (L, f), with these arguments: it returns v with a pool of which post holds, or throws an E with ex E, the pool as it was; at most mc cells of ms slots are new -/
def PM (l : Launch) (κ : Kx) (y : MethodName) (ws : List Cond) (rm : Room) (av : List Value) (L : List Nat) (f : Nat → va_E) (post : Option Value → List Nat → (Nat → va_E) → Prop) (ex : String → Prop) (mc ms : Nat) : Prop :=
  vx_Met l y ws rm (va_Pc av (fun U => HW κ L f U)) (PQ κ post) (PX κ L f ex) mc ms (kA κ)
abbrev noX : String → Prop := fun _ => False
/-- a contract's start -/
theorem PM.mk {l : Launch} {κ : Kx} {y : MethodName} {ws ws' : List Cond} {rm : Room} {av : List Value} {L : List Nat} {f : Nat → va_E} {post : Option Value → List Nat → (Nat → va_E) → Prop} {ex : String → Prop} {mc ms : Nat} {cc : ByteArray} {maxL : Nat} {ret : Option FieldType}
    (hy : plainName y.cls = true) (hw : ws = Cond.code y cc maxL ret :: ws') (hlen : (lg_sl av).length ≤ maxL)
    (body : ∀ (p : Program) (e : Env) (s : State) (m : MethodId) (args : Array Value) (below : List Frame) (meth : Method) (c : Code) (ls : Array Slot), p.tables.exec = Jvm.exec → c.code = cc → c.maxLocals = maxL → meth.sig.returnType = ret → meth.locks = false → meth.name = y.name → s.vm.findClass y.cls = some m.cls → (∀ w ∈ ws, w.before args s = true) → (∀ x ∈ c.exceptionTable.toList, False) → HH κ L f s s.heap [] → lv_has ls maxL (lv_args 0 av) →
      W p l e rm s m args below meth c s.heap [] 0 0 (vx_MQ below (PQ κ post) (PX κ L f ex) args s mc ms (kA κ)) (F0 m 0 ls [])) : PM l κ y ws rm av L f post ex mc ms := by
  refine vx_ofW (cc := cc) (maxL := maxL) (ret := ret) hy hw ?_
  intro p e s m args below meth c s₁ B hml ht hv
  obtain ⟨rfl, hh⟩ := hv
  rw [lg_entry_eq]
  exact body p e s m _ below meth c _ B.exec B.bytes hml B.returns B.notSynchronized (name_of_methodNamed B.named B.method).1 (findClass_of_methodNamed B.named) (atoms_spec (ws := ws) B.pre) ht (HH.of hh) (lv_entry av hlen)
section ROWS
variable {p : Program} {l : Launch} {e : Env} {R : Room} {s : State} {m : MethodId} {args : Array Value} {below : List Frame} {meth : Method} {c : Code} {H : Heap} {locs : List Loc} {cells slots : Nat} {Q : State → Prop}
variable {κ : Kx} {L : List Nat} {f : Nat → va_E} {cc : ByteArray} {pc : Nat} {ls : Array Slot} {rest st0 : List Value} {a : Nat} {Ts : List Cond} {own : String}
theorem h_get (hx : p.tables.exec = Jvm.exec) (hb : c.code = cc) (hts : ∀ w ∈ Ts, w.before args s = true) (hown : s.vm.findClass own = some m.cls) (hh : HH κ L f s H locs) {ref C : String} {T : u_T} {N ci index : Nat} {fs : List Value} (ha : a ∈ L) (hf : f a = .inr (ci, fs)) (hc : vwCl[ci]? = some (C, T, N)) (hin : ∀ w ∈ u_ws C T N, w ∈ Ts) (k : Nat) (hk : k < N) (hlink : (Cond.fieldLink own index ref (T k).2.1 (T k).2.2.1).before args s = true) (hsame : ∀ x, s.fieldFound? (T k).1 (T k).2.1 (T k).2.2.1 = some x → s.fieldFound? ref (T k).2.1 (T k).2.2.1 = some x) {v : Value} (hv : fs[k]? = some v) (hdg : decode cc pc = .ok (.getfield index, 3))
    (kk : W p l e R s m args below meth c H locs cells slots Q (F0 m (pc + 3) ls (v :: rest))) : W p l e R s m args below meth c H locs cells slots Q (F0 m pc ls (.ref a :: rest)) := by
  obtain ⟨q0, -, he⟩ := hh.pos ha hf
  exact va_get hx hb hts hin hown hh.1 hh.2.1 q0 he hc k hk hlink hsame hv hdg kk
theorem h_put (hx : p.tables.exec = Jvm.exec) (hb : c.code = cc) (hts : ∀ w ∈ Ts, w.before args s = true) (hown : s.vm.findClass own = some m.cls) (hh : HH κ L f s H locs) {ref C : String} {T : u_T} {N ci index : Nat} {fs : List Value} (ha : a ∈ L) (hf : f a = .inr (ci, fs)) (hc : vwCl[ci]? = some (C, T, N)) (hin : ∀ w ∈ u_ws C T N, w ∈ Ts) (ty0 : Nat → FieldType) (hty : ∀ k, k < N → parseFieldDescriptor (T k).2.2.1 = some (ty0 k)) (hnm : ∀ a, a < N → ∀ b, b < N → a ≠ b → (T a).2.1 ≠ (T b).2.1) (k : Nat) (hk : k < N) (hlink : (Cond.fieldLink own index ref (T k).2.1 (T k).2.2.1).before args s = true) (hsame : ∀ x, s.fieldFound? (T k).1 (T k).2.1 (T k).2.2.1 = some x → s.fieldFound? ref (T k).2.1 (T k).2.2.1 = some x) (hfin : (T k).2.2.2 = false) {ty : FieldType} {v : Value} (hd : ty0 k = ty) (hn : narrow ty v = v) (hfit : fits ty v = true) (hl : k < fs.length) (hdg : decode cc pc = .ok (.putfield index, 3))
    (kk : ∀ (H1 : Heap) (locs1 : List Loc), HH κ L (va_up f a (.inr (ci, fs.set k v))) s H1 locs1 → W p l e R s m args below meth c H1 locs1 cells slots Q (F0 m (pc + 3) ls rest)) : W p l e R s m args below meth c H locs cells slots Q (F0 m pc ls (v :: .ref a :: rest)) := by
  obtain ⟨q0, he0, he⟩ := hh.pos ha hf
  exact va_put hx hb hts hin ty0 hty hnm hown hh.1 hh.2.1 hh.2.2.1 hh.2.2.2.1 q0 he hc k hk hlink hsame hfin ((hty k hk).trans (congrArg some hd)) hn hfit hl hdg (fun H1 locs1 hP hD hS => kk H1 locs1 (hh.set ha he0 hP hD hS))
theorem h_putF (hx : p.tables.exec = Jvm.exec) (hb : c.code = cc) (hts : ∀ w ∈ Ts, w.before args s = true) (hown : s.vm.findClass own = some m.cls) (hh : HH κ L f s H locs) {ref C : String} {T : u_T} {N ci index : Nat} {fs : List Value} (ha : a ∈ L) (hf : f a = .inr (ci, fs)) (hc : vwCl[ci]? = some (C, T, N)) (hin : ∀ w ∈ u_ws C T N, w ∈ Ts) (ty0 : Nat → FieldType) (hty : ∀ k, k < N → parseFieldDescriptor (T k).2.2.1 = some (ty0 k)) (hnm : ∀ a, a < N → ∀ b, b < N → a ≠ b → (T a).2.1 ≠ (T b).2.1) (k : Nat) (hk : k < N) (hlink : (Cond.fieldLink own index ref (T k).2.1 (T k).2.2.1).before args s = true) (hsame : ∀ x, s.fieldFound? (T k).1 (T k).2.1 (T k).2.2.1 = some x → s.fieldFound? ref (T k).2.1 (T k).2.2.1 = some x) (hfin : (T k).2.2.2 = true) (hin2 : meth.name = "<init>") (hdecl : (T k).1 = own) {ty : FieldType} {v : Value} (hd : ty0 k = ty) (hn : narrow ty v = v) (hfit : fits ty v = true) (hl : k < fs.length) (hdg : decode cc pc = .ok (.putfield index, 3))
    (kk : ∀ (H1 : Heap) (locs1 : List Loc), HH κ L (va_up f a (.inr (ci, fs.set k v))) s H1 locs1 → W p l e R s m args below meth c H1 locs1 cells slots Q (F0 m (pc + 3) ls rest)) : W p l e R s m args below meth c H locs cells slots Q (F0 m pc ls (v :: .ref a :: rest)) := by
  obtain ⟨q0, he0, he⟩ := hh.pos ha hf
  exact va_putF hx hb hts hin ty0 hty hnm hown hh.1 hh.2.1 hh.2.2.1 hh.2.2.2.1 q0 he hc k hk hlink hsame hfin hin2 hdecl ((hty k hk).trans (congrArg some hd)) hn hfit hl hdg (fun H1 locs1 hP hD hS => kk H1 locs1 (hh.set ha he0 hP hD hS))
theorem h_new {c0 : Code} (hx : p.tables.exec = Jvm.exec) (hb : c0.code = cc) (hts : ∀ w ∈ Ts, w.before args s = true) (hown : s.vm.findClass own = some m.cls) (hh : HH κ L f s H locs) {C : String} {T : u_T} {N ci index : Nat} (hc : vwCl[ci]? = some (C, T, N)) (hin : ∀ w ∈ u_ws C T N, w ∈ Ts) (ty : Nat → FieldType) (hty : ∀ k, k < N → parseFieldDescriptor (T k).2.2.1 = some (ty k)) (hcl : (Cond.classLink own index C).before args s = true) (hinst : (Cond.instantiable C N).before args s = true) (hini : (Cond.initialized C).before args s = true) {fs : List Value} (hfs : ∀ j, j < N → defaultValue (ty j) = vp_V fs j) (hcells : cells + 1 ≤ R.cells) (hslots : slots + N ≤ R.slots) (hdg : decode cc pc = .ok (.new index, 3))
    (kk : ∀ (q : Nat) (H1 : Heap), q ∉ L → HH κ (L ++ [q]) (va_up f q (.inr (ci, fs))) s H1 locs → W p l e R s m args below meth c0 H1 locs (cells + 1) (slots + N) Q (F0 m (pc + 3) ls (.ref q :: rest))) : W p l e R s m args below meth c0 H locs cells slots Q (F0 m pc ls rest) :=
  va_new hx hb hts hin ty hty hown hcl hinst hini hh.1 hh.2.1 hh.2.2.1 hh.2.2.2.1 hh.hA hc hfs hcells hslots hdg (fun q H1 hP hD hS => by
    obtain ⟨h1, h2⟩ := hh.push hP hD hS
    exact kk q H1 h1 h2)
theorem h_iald (hx : p.tables.exec = Jvm.exec) (hb : c.code = cc) (hh : HH κ L f s H locs) {n : Nat} {g : Nat → Int32} (ha : a ∈ L) (hf : f a = .inl (kI κ, n, .inl g)) {i : Int32} (hin : vp_in i n) (hdg : decode cc pc = .ok (.iaload, 1))
    (kk : W p l e R s m args below meth c H locs cells slots Q (F0 m (pc + 1) ls (.int (g i.toNatClampNeg) :: rest))) : W p l e R s m args below meth c H locs cells slots Q (F0 m pc ls (.int i :: .ref a :: rest)) := by
  obtain ⟨q0, -, he⟩ := hh.pos ha hf
  exact va_iald hx hb hh.1 hh.2.1 q0 0 he rfl hin hdg kk
theorem h_iast (hx : p.tables.exec = Jvm.exec) (hb : c.code = cc) (hh : HH κ L f s H locs) {n : Nat} {g : Nat → Int32} (ha : a ∈ L) (hf : f a = .inl (kI κ, n, .inl g)) {i x : Int32} (hin : vp_in i n) (hdg : decode cc pc = .ok (.iastore, 1))
    (kk : ∀ (H1 : Heap) (locs1 : List Loc), HH κ L (va_up f a (.inl (kI κ, n, .inl (upd g i.toNatClampNeg x)))) s H1 locs1 → W p l e R s m args below meth c H1 locs1 cells slots Q (F0 m (pc + 1) ls rest)) : W p l e R s m args below meth c H locs cells slots Q (F0 m pc ls (.int x :: .int i :: .ref a :: rest)) := by
  obtain ⟨q0, he0, he⟩ := hh.pos ha hf
  exact va_iast hx hb hh.1 hh.2.1 hh.2.2.1 hh.2.2.2.1 q0 0 he rfl hin hdg (fun H1 locs1 hP hD hS => kk H1 locs1 (hh.set ha he0 hP hD hS))
theorem h_aald (hx : p.tables.exec = Jvm.exec) (hb : c.code = cc) (hh : HH κ L f s H locs) {n : Nat} {g : Nat → Option Nat} (ha : a ∈ L) (hf : f a = .inl (kO κ, n, .inr (.inr (.inr (.inr g))))) {i : Int32} (hin : vp_in i n) (hdg : decode cc pc = .ok (.aaload, 1))
    (kk : W p l e R s m args below meth c H locs cells slots Q (F0 m (pc + 1) ls (va_rf (g i.toNatClampNeg) :: rest))) : W p l e R s m args below meth c H locs cells slots Q (F0 m pc ls (.int i :: .ref a :: rest)) := by
  obtain ⟨q0, -, he⟩ := hh.pos ha hf
  exact va_aldq hx hb hh.1 hh.2.1 q0 1 he rfl hin hdg kk
theorem h_aast (hx : p.tables.exec = Jvm.exec) (hb : c.code = cc) (hh : HH κ L f s H locs) {n v ci : Nat} {vs : List Value} {q : vw_C} {g : Nat → Option Nat} (ha : a ∈ L) (hf : f a = .inl (kO κ, n, .inr (.inr (.inr (.inr g))))) (hv : v ∈ L) (hfv : f v = .inr (ci, vs)) (hc : vwCl[ci]? = some q) (hca : (q.1, "java/lang/Object") ∈ kCa) {i : Int32} (hin : vp_in i n) (hdg : decode cc pc = .ok (.aastore, 1))
    (kk : ∀ (H1 : Heap) (locs1 : List Loc), HH κ L (va_up f a (.inl (kO κ, n, .inr (.inr (.inr (.inr (va_up g i.toNatClampNeg (some v)))))))) s H1 locs1 → W p l e R s m args below meth c H1 locs1 cells slots Q (F0 m (pc + 1) ls rest)) : W p l e R s m args below meth c H locs cells slots Q (F0 m pc ls (.ref v :: .int i :: .ref a :: rest)) := by
  obtain ⟨q0, he0, he⟩ := hh.pos ha hf
  obtain ⟨q1, -, he1⟩ := hh.pos hv hfv
  exact va_astqO hx hb hh.1 hh.2.1 hh.2.2.1 hh.2.2.2.1 q0 1 q1 ci he rfl (hh.2.2.2.2.2.2.2.2.2.2 _ hca) he1 hc hin hdg (fun H1 locs1 hP hD hS => kk H1 locs1 (hh.set ha he0 hP hD hS))
theorem h_aastN (hx : p.tables.exec = Jvm.exec) (hb : c.code = cc) (hh : HH κ L f s H locs) {n : Nat} {g : Nat → Option Nat} (ha : a ∈ L) (hf : f a = .inl (kO κ, n, .inr (.inr (.inr (.inr g))))) {i : Int32} (hin : vp_in i n) (hdg : decode cc pc = .ok (.aastore, 1))
    (kk : ∀ (H1 : Heap) (locs1 : List Loc), HH κ L (va_up f a (.inl (kO κ, n, .inr (.inr (.inr (.inr (va_up g i.toNatClampNeg none))))))) s H1 locs1 → W p l e R s m args below meth c H1 locs1 cells slots Q (F0 m (pc + 1) ls rest)) : W p l e R s m args below meth c H locs cells slots Q (F0 m pc ls (.null :: .int i :: .ref a :: rest)) := by
  obtain ⟨q0, he0, he⟩ := hh.pos ha hf
  exact va_astqN hx hb hh.1 hh.2.1 hh.2.2.1 hh.2.2.2.1 q0 1 he rfl hin hdg (fun H1 locs1 hP hD hS => kk H1 locs1 (hh.set ha he0 hP hD hS))
theorem h_alen (hx : p.tables.exec = Jvm.exec) (hb : c.code = cc) (hh : HH κ L f s H locs) {n : Nat} {g : Nat → Option Nat} (ha : a ∈ L) (hf : f a = .inl (kO κ, n, .inr (.inr (.inr (.inr g))))) (hdg : decode cc pc = .ok (.arraylength, 1))
    (kk : W p l e R s m args below meth c H locs cells slots Q (F0 m (pc + 1) ls (.int (nI n) :: rest))) : W p l e R s m args below meth c H locs cells slots Q (F0 m pc ls (.ref a :: rest)) := by
  obtain ⟨q0, -, he⟩ := hh.pos ha hf
  exact va_alen hx hb hh.1 hh.2.1 q0 1 he rfl rfl hdg kk
theorem h_alenE (hx : p.tables.exec = Jvm.exec) (hb : c.code = cc) (hh : HH κ L f s H locs) (hdg : decode cc pc = .ok (.arraylength, 1))
    (kk : W p l e R s m args below meth c H locs cells slots Q (F0 m (pc + 1) ls (.int 0 :: rest))) : W p l e R s m args below meth c H locs cells slots Q (F0 m pc ls (.ref (kTE κ) :: rest)) :=
  va_tlen hx hb hh.2.2.2.2.2.2.1.2 hh.2.2.2.1 rfl hdg kk
theorem h_newq (hx : p.tables.exec = Jvm.exec) (hb : c.code = cc) (hown : s.vm.findClass own = some m.cls) (hh : HH κ L f s H locs) {index : Nat} (hclink : (Cond.classLink own index "java/lang/Object").before args s = true) {n : Int32} {N' : Nat} (hn : ¬ n < 0) (hN : n.toNatClampNeg = N') (hbytes : N' * 4 ≤ 536870912) (hcells : cells + 1 ≤ R.cells) (hslots : slots + N' ≤ R.slots) (hdg : decode cc pc = .ok (.anewarray index, 3))
    (kk : ∀ (q : Nat) (H1 : Heap), q ∉ L → HH κ (L ++ [q]) (va_up f q (.inl (kO κ, N', .inr (.inr (.inr (.inr (fun _ => none))))))) s H1 locs → W p l e R s m args below meth c H1 locs (cells + 1) (slots + N') Q (F0 m (pc + 3) ls (.ref q :: rest))) : W p l e R s m args below meth c H locs cells slots Q (F0 m pc ls (.int n :: rest)) :=
  va_newq hx hb hown hclink hh.2.2.2.2.2.2.2.1.2.2 hh.1 hh.2.1 hh.2.2.1 hh.2.2.2.1 hh.hA hn hN hbytes hcells hslots hdg (fun q cA H1 hK hP hD hS => by
    have h1 := (hK.2 2 (cA, .object "java/lang/Object") rfl).2
    have h2 := (hh.1.2 1 (kO κ, .object "java/lang/Object") rfl).2
    obtain ⟨k1, c1, -, -, -, e1⟩ := h1
    obtain ⟨k2, c2, -, -, -, e2⟩ := h2
    cases Option.some.inj (e1.symm.trans e2)
    obtain ⟨h1, h2⟩ := hh.push hP hD hS
    exact kk q H1 h1 h2)
theorem h_newi (hx : p.tables.exec = Jvm.exec) (hb : c.code = cc) (hh : HH κ L f s H locs) (harr : (Cond.arrayClass .int).before args s = true) {n : Int32} {N' : Nat} (hn : ¬ n < 0) (hN : n.toNatClampNeg = N') (hbytes : N' * componentBytes .int ≤ 536870912) (hcells : cells + 1 ≤ R.cells) (hslots : slots + N' ≤ R.slots) (hdg : decode cc pc = .ok (.newarray .int, 2))
    (kk : ∀ (q : Nat) (H1 : Heap), q ∉ L → HH κ (L ++ [q]) (va_up f q (.inl (kI κ, N', .inl (fun _ => 0)))) s H1 locs → W p l e R s m args below meth c H1 locs (cells + 1) (slots + N') Q (F0 m (pc + 2) ls (.ref q :: rest))) : W p l e R s m args below meth c H locs cells slots Q (F0 m pc ls (.int n :: rest)) :=
  va_newa (atype := .int) (a0 := (N', .inl (fun _ => 0))) hx hb harr rfl hh.1 hh.2.1 hh.2.2.1 hh.2.2.2.1 hh.hA (fun cA => rfl) hn hN hbytes hcells hslots hdg (fun q cA H1 hK hP hD hS => by
    have h1 := (hK.2 2 (cA, .int) rfl).2
    have h2 := (hh.1.2 0 (kI κ, .int) rfl).2
    cases Option.some.inj (h1.symm.trans h2)
    obtain ⟨h1, h2⟩ := hh.push hP hD hS
    exact kk q H1 h1 h2)
/-- a cast to the object's own class -/
theorem h_cast (hx : p.tables.exec = Jvm.exec) (hb : c.code = cc) (hown : s.vm.findClass own = some m.cls) (hh : HH κ L f s H locs) {C : String} {T : u_T} {N ci index : Nat} {fs : List Value} (ha : a ∈ L) (hf : f a = .inr (ci, fs)) (hc : vwCl[ci]? = some (C, T, N)) (hlink : (Cond.classLink own index C).before args s = true) (hdg : decode cc pc = .ok (.checkcast index, 3))
    (kk : W p l e R s m args below meth c H locs cells slots Q (F0 m (pc + 3) ls (.ref a :: rest))) : W p l e R s m args below meth c H locs cells slots Q (F0 m pc ls (.ref a :: rest)) :=
  va_castS hx hb hown hlink (hh.1.1 ci _ hc).2 (hh.recv ha hf hc) hdg kk
end ROWS
