/-! java.util.ArrayList: what a list's cells are -/
abbrev lC (mc : Int32) (e : Nat) (n : Int32) : va_E := .inr (0, [.int mc, .ref e, .int n])
abbrev rowE (κ : Kx) (cap : Nat) (g : Nat → Option Nat) : va_E := .inl (kO κ, cap, .inr (.inr (.inr (.inr g))))
/-- an object that a list may hold -/
def isEl (e : va_E) : Prop := ∃ (ci : Nat) (fs : List Value) (q : vw_C), e = .inr (ci, fs) ∧ vwCl[ci]? = some q ∧ (q.1, "java/lang/Object") ∈ kCa
theorem isEl_n0 {fs : List Value} (h : isEl (.inr (0, fs))) : False := by
  obtain ⟨ci, fs', q, e, hc, hk⟩ := h
  cases e
  have e1 : q = (RJx4a65c, TJx4a65c, 3) := (Option.some.inj hc).symm
  subst e1
  revert hk
  decide +kernel
theorem isEl_nr {x : ClassId × vp_A} (h : isEl (.inl x)) : False := by
  obtain ⟨ci, fs', q, e, -⟩ := h
  cases e
/-- an array of objects, of which some may be null -/
def RO (κ : Kx) (L : List Nat) (f : Nat → va_E) (e cap : Nat) (g : Nat → Option Nat) : Prop := e ∈ L ∧ f e = rowE κ cap g ∧ (10 ≤ cap ∧ cap ≤ 1000) ∧ ∀ i y, i < cap → g i = some y → y ∈ L ∧ isEl (f y)
theorem RO.up {κ : Kx} {L : List Nat} {f : Nat → va_E} {e cap : Nat} {g : Nat → Option Nat} (h : RO κ L f e cap g) {a : Nat} {e2 : va_E} (ha : a ≠ e) (hE : isEl (f a) → isEl e2) : RO κ L (va_up f a e2) e cap g := by
  obtain ⟨h1, h2, h3, h4⟩ := h
  refine ⟨h1, by rw [show va_up f a e2 e = f e by simp [va_up, ha.symm]]; exact h2, h3, fun i y hi hy => ⟨(h4 i y hi hy).1, ?_⟩⟩
  by_cases hya : y = a
  · subst hya
    rw [show va_up f y e2 y = e2 by simp [va_up]]
    exact hE (h4 i y hi hy).2
  · rw [show va_up f a e2 y = f y by simp [va_up, hya]]
    exact (h4 i y hi hy).2
theorem RO.push {κ : Kx} {L : List Nat} {f : Nat → va_E} {e cap : Nat} {g : Nat → Option Nat} (h : RO κ L f e cap g) {q : Nat} {e2 : va_E} (hq : q ∉ L) : RO κ (L ++ [q]) (va_up f q e2) e cap g := by
  obtain ⟨h1, h2, h3, h4⟩ := h
  have n : ∀ y, y ∈ L → y ≠ q := fun y hy e => hq (e ▸ hy)
  refine ⟨List.mem_append_left _ h1, by rw [show va_up f q e2 e = f e by simp [va_up, n e h1]]; exact h2, h3, fun i y hi hy => ?_⟩
  obtain ⟨h5, h6⟩ := h4 i y hi hy
  exact ⟨List.mem_append_left _ h5, by rw [show va_up f q e2 y = f y by simp [va_up, n y h5]]; exact h6⟩
/-- the list at lo, its row at e, holds el 0 .. el (n-1) -/
def LA (κ : Kx) (L : List Nat) (f : Nat → va_E) (lo e n : Nat) (el : Nat → Nat) : Prop := (lo ∈ L ∧ ∃ mc : Int32, f lo = lC mc e (nI n)) ∧ ((e = kTE κ ∧ n = 0) ∨ ∃ (cap : Nat) (g : Nat → Option Nat), RO κ L f e cap g ∧ n ≤ cap ∧ ∀ i, i < n → g i = some (el i))
/-- one more at its end -/
def AddP (κ : Kx) (L : List Nat) (f : Nat → va_E) (lo e n : Nat) (el : Nat → Nat) (v : Nat) (L1 : List Nat) (f1 : Nat → va_E) : Prop := ∃ e1, LA κ L1 f1 lo e1 (n + 1) (va_up el n v) ∧ (∀ q, q ∈ L → q ∈ L1) ∧ (∀ q, q ∈ L → q ≠ lo → q ≠ e → f1 q = f q) ∧ (e1 = e ∨ (e1 ∉ L ∧ e1 ∈ L1))
theorem HH.teL {κ : Kx} {L : List Nat} {f : Nat → va_E} {s : State} {H : Heap} {locs : List Loc} (h : HH κ L f s H locs) : kTE κ ∉ L := fun hm => by
  obtain ⟨k, -, hk⟩ := h.pos hm (rfl : f (kTE κ) = f (kTE κ))
  have h1 : kA κ (kTE κ) := h.2.2.1.2 k _ hk
  obtain ⟨cell, -, -, -, -, -, -, h2⟩ := h.2.2.2.2.2.2.1.2
  exact h2 h1
section LROWS
variable {p : Program} {l : Launch} {e : Env} {R : Room} {s : State} {m : MethodId} {args : Array Value} {below : List Frame} {meth : Method} {c : Code} {H : Heap} {locs : List Loc} {cells slots : Nat} {Q : State → Prop}
variable {κ : Kx} {L : List Nat} {f : Nat → va_E} {cc : ByteArray} {pc : Nat} {ls : Array Slot} {rest : List Value} {a : Nat} {Ts : List Cond} {own : String}
theorem h_aaldk (hx : p.tables.exec = Jvm.exec) (hb : c.code = cc) (hh : HH κ L f s H locs) {n k v : Nat} {g : Nat → Option Nat} (ha : a ∈ L) (hf : f a = rowE κ n g) {i : Int32} (hi : i = nI k) (hk : k < n) (hn : n < 2 ^ 31) (hv : g k = some v) (hdg : decode cc pc = .ok (.aaload, 1))
    (kk : W p l e R s m args below meth c H locs cells slots Q (F0 m (pc + 1) ls (.ref v :: rest))) : W p l e R s m args below meth c H locs cells slots Q (F0 m pc ls (.int i :: .ref a :: rest)) := by
  subst hi
  have e1 : (nI k).toNatClampNeg = k := nI_clamp (Nat.lt_trans hk hn)
  exact h_aald hx hb hh ha hf (vp_in_nI hk hn) hdg (by rw [e1, hv]; exact kk)
theorem h_aastk (hx : p.tables.exec = Jvm.exec) (hb : c.code = cc) (hh : HH κ L f s H locs) {n k v : Nat} {g : Nat → Option Nat} (ha : a ∈ L) (hf : f a = rowE κ n g) (hv : v ∈ L) (hE : isEl (f v)) {i : Int32} (hi : i = nI k) (hk : k < n) (hn : n < 2 ^ 31) (hdg : decode cc pc = .ok (.aastore, 1))
    (kk : ∀ (H1 : Heap) (locs1 : List Loc), HH κ L (va_up f a (rowE κ n (va_up g k (some v)))) s H1 locs1 → W p l e R s m args below meth c H1 locs1 cells slots Q (F0 m (pc + 1) ls rest)) : W p l e R s m args below meth c H locs cells slots Q (F0 m pc ls (.ref v :: .int i :: .ref a :: rest)) := by
  subst hi
  have e1 : (nI k).toNatClampNeg = k := nI_clamp (Nat.lt_trans hk hn)
  obtain ⟨ci, fs, q, hfv, hc, hk9⟩ := hE
  exact h_aast hx hb hh ha hf hv hfv hc hk9 (vp_in_nI hk hn) hdg (fun H1 locs1 h1 => by rw [e1] at h1; exact kk H1 locs1 h1)
theorem h_aastNk (hx : p.tables.exec = Jvm.exec) (hb : c.code = cc) (hh : HH κ L f s H locs) {n k : Nat} {g : Nat → Option Nat} (ha : a ∈ L) (hf : f a = rowE κ n g) {i : Int32} (hi : i = nI k) (hk : k < n) (hn : n < 2 ^ 31) (hdg : decode cc pc = .ok (.aastore, 1))
    (kk : ∀ (H1 : Heap) (locs1 : List Loc), HH κ L (va_up f a (rowE κ n (va_up g k none))) s H1 locs1 → W p l e R s m args below meth c H1 locs1 cells slots Q (F0 m (pc + 1) ls rest)) : W p l e R s m args below meth c H locs cells slots Q (F0 m pc ls (.null :: .int i :: .ref a :: rest)) := by
  subst hi
  have e1 : (nI k).toNatClampNeg = k := nI_clamp (Nat.lt_trans hk hn)
  exact h_aastN hx hb hh ha hf (vp_in_nI hk hn) hdg (fun H1 locs1 h1 => by rw [e1] at h1; exact kk H1 locs1 h1)
theorem HH.any (hh : HH κ L f s H locs) {y : Nat} (hy : y ∈ L) (hE : isEl (f y)) : va_Any "java/lang/Object" s H y := by
  obtain ⟨ci, fs, q, hfy, hc, hk⟩ := hE
  obtain ⟨k0, -, he⟩ := hh.pos hy hfy
  refine va_rAny hh.1 hh.2.1 he hc (fun comp c0 h1 h2 => ?_)
  obtain ⟨c3, c4, hc3, hc4, hasg⟩ := Cond.castable_spec (hh.2.2.2.2.2.2.2.2.2.2 _ hk)
  cases Option.some.inj (hc3.symm.trans h2)
  cases Option.some.inj (hc4.symm.trans h1)
  exact hasg
/-- System.arraycopy between rows of objects -/
theorem h_copy (hx : p.tables.exec = Jvm.exec) (hb : c.code = cc) (hml : c.maxLocals = ls.size) (hown : s.vm.findClass own = some m.cls) (hts : ∀ w ∈ Ts, w.before args s = true) {index : Nat} (hlink : Cond.methodLink own index arraycopyName ∈ Ts) (hnat : Cond.native arraycopyName ∈ Ts) (hstat : Cond.static arraycopyName ∈ Ts) (hini : Cond.initialized "java/lang/System" ∈ Ts)
    (hh : HH κ L f s H locs) {a0 n0 n1 : Nat} {g0 g1 : Nat → Option Nat} (ha0 : a0 ∈ L) (hf0 : f a0 = rowE κ n0 g0) (ha : a ∈ L) (hf1 : f a = rowE κ n1 g1) {sp dp n : Int32} (i j k : Nat) (hsp : sp = nI i) (hdp : dp = nI j) (hn : n = nI k) (h4 : i + k ≤ n0) (h5 : j + k ≤ n1) (hlt : n0 < 2 ^ 30 ∧ n1 < 2 ^ 30) (hel : ∀ t y, t < k → g0 (i + t) = some y → y ∈ L ∧ isEl (f y))
    (hframes : 1 ≤ R.frames) (hlocals : (rest.map fun v => v.category).sum + (nativeFrameWords "java/lang/System" "arraycopy" 5 + 11) ≤ R.locals) (hdg : decode cc pc = .ok (.invokestatic index, 3))
    (kk : ∀ (H1 : Heap) (locs1 : List Loc), HH κ L (va_up f a (rowE κ n1 (va_cpy g0 g1 i j k))) s H1 locs1 → W p l e R s m args below meth c H1 locs1 cells slots Q (F0 m (pc + 3) ls rest)) : W p l e R s m args below meth c H locs cells slots Q (F0 m pc ls (.int n :: .int dp :: .ref a :: .int sp :: .ref a0 :: rest)) := by
  subst hsp; subst hdp; subst hn
  have ei : (nI i).toNatClampNeg = i := nI_clamp (by omega)
  have ej : (nI j).toNatClampNeg = j := nI_clamp (by omega)
  have ek : (nI k).toNatClampNeg = k := nI_clamp (by omega)
  obtain ⟨q0, -, he0⟩ := hh.pos ha0 hf0
  obtain ⟨q1, h01, he1⟩ := hh.pos ha hf1
  refine va_copyM hx hb hml hown (hts _ hlink) (hts _ hnat) (hts _ hstat) (hts _ hini) hh.1 hh.2.1 hh.2.2.1 hh.2.2.2.1 q0 q1 1 1 he0 he1 rfl rfl (nI_pos (by omega)) (nI_pos (by omega)) (nI_pos (by omega)) (by rw [ei, ek]; exact h4) (by rw [ej, ek]; exact h5) (fun t ht y hy => ?_) hframes hlocals hdg (fun H1 locs1 hP hD hS => ?_)
  · rw [ek] at ht
    rw [ei] at hy
    obtain ⟨h1, h2⟩ := hel t y ht hy
    exact hh.any h1 h2
  · rw [ei, ej, ek] at hP hD
    exact kk H1 locs1 (hh.set ha h01 hP hD hS)
end LROWS
