/-! rows over the class's state; the class's hour as functions of it -/
section XROWS
variable {p : Program} {l : Launch} {e : Env} {R : Room} {s : State} {m : MethodId} {args : Array Value} {below : List Frame} {meth : Method} {c : Code} {H : Heap} {locs : List Loc} {cells slots : Nat} {Q : State → Prop}
variable {κ : Kx} {L L0 : List Nat} {f0 f : Nat → va_E} {cc : ByteArray} {pc nL : Nat} {ls : Array Slot} {rest : List Value} {Ts : List Cond} {own : String} {x : Nat} {a : AD} {N P : Nat → Nat} {C : MS}
theorem x_get (S : CallFix p m c cc nL s args Ts own) (hh : HH κ L f s H locs) (hz : ZC κ x a N P C L0 f0 L f) (k : Nat) (hk : k < 4) {i : Nat} (hi : i < N k) {Cn : String} {T : u_T} {Nn : Nat} (hc : vwCl[ciOf k]? = some (Cn, T, Nn)) (hin : ∀ w ∈ u_ws Cn T Nn, w ∈ Ts) (slot : Nat) (hs : slot < Nn) {v : Value} {index : Nat} (hv : (fsOf a C k i)[slot]? = some v) (hT : (T slot).1 = Cn) (hlink : Cond.fieldLink own index Cn (T slot).2.1 (T slot).2.2.1 ∈ Ts) (hdg : decode cc pc = .ok (.getfield index, 3))
    (kk : W p l e R s m args below meth c H locs cells slots Q (F0 m (pc + 3) ls (v :: rest))) : W p l e R s m args below meth c H locs cells slots Q (F0 m pc ls (.ref (a k i) :: rest)) :=
  h_get S.1 S.2.1 S.2.2.2.2 S.2.2.2.1 hh (hz.1.2.1 k i hk hi).1 (hz.1.2.1 k i hk hi).2 hc hin slot hs (S.2.2.2.2 _ hlink) (fun y h => by rw [hT] at h; exact h) hv hdg kk
theorem x_put (S : CallFix p m c cc nL s args Ts own) (hh : HH κ L f s H locs) (hz : ZC κ x a N P C L0 f0 L f) (k : Nat) (hk : k < 4) {i : Nat} (hi : i < N k) {Cn : String} {T : u_T} {Nn : Nat} (hc : vwCl[ciOf k]? = some (Cn, T, Nn)) (hin : ∀ w ∈ u_ws Cn T Nn, w ∈ Ts) (ty0 : Nat → FieldType) (hty : ∀ k, k < Nn → parseFieldDescriptor (T k).2.2.1 = some (ty0 k)) (hnm : ∀ a, a < Nn → ∀ b, b < Nn → a ≠ b → (T a).2.1 ≠ (T b).2.1) (slot : Nat) (hs : slot < Nn) {v : Value} {index : Nat} {ty : FieldType} (hT : (T slot).1 = Cn) (hfin : (T slot).2.2.2 = false) (hd : ty0 slot = ty) (hn : narrow ty v = v) (hfit : fits ty v = true) (hlen : slot < (fsOf a C k i).length) {C1 : MS} (ho : PutOK a C k i C1 ((fsOf a C k i).set slot v)) (hlink : Cond.fieldLink own index Cn (T slot).2.1 (T slot).2.2.1 ∈ Ts) (hdg : decode cc pc = .ok (.putfield index, 3))
    (kk : ∀ (f1 : Nat → va_E) (H1 : Heap) (locs1 : List Loc), HH κ L f1 s H1 locs1 → ZC κ x a N P C1 L0 f0 L f1 → W p l e R s m args below meth c H1 locs1 cells slots Q (F0 m (pc + 3) ls rest)) : W p l e R s m args below meth c H locs cells slots Q (F0 m pc ls (v :: .ref (a k i) :: rest)) :=
  h_put S.1 S.2.1 S.2.2.2.2 S.2.2.2.1 hh (hz.1.2.1 k i hk hi).1 (hz.1.2.1 k i hk hi).2 hc hin ty0 hty hnm slot hs (S.2.2.2.2 _ hlink) (fun y h => by rw [hT] at h; exact h) hfin hd hn hfit hlen hdg (fun H1 locs1 h1 => kk _ H1 locs1 h1 (hz.put hk hi ho))
theorem o_get (S : CallFix p m c cc nL s args Ts own) (hh : HH κ L f s H locs) (hz : ZC κ x a N P C L0 f0 L f) {i : Nat} (hi : i < N 1) (h6 : ¬ C 6 i = -1) (hin : ∀ w ∈ wsX30, w ∈ Ts) (slot : Nat) (hs : slot < 2) {v : Value} {index : Nat} (hv : (oFv a C i)[slot]? = some v) (hT : (TX3 slot).1 = RX3) (hlink : Cond.fieldLink own index RX3 (TX3 slot).2.1 (TX3 slot).2.2.1 ∈ Ts) (hdg : decode cc pc = .ok (.getfield index, 3))
    (kk : W p l e R s m args below meth c H locs cells slots Q (F0 m (pc + 3) ls (v :: rest))) : W p l e R s m args below meth c H locs cells slots Q (F0 m pc ls (.ref (a 4 i) :: rest)) :=
  h_get S.1 S.2.1 S.2.2.2.2 S.2.2.2.1 hh (hz.1.2.2.1 i hi h6).1 (hz.1.2.2.1 i hi h6).2 (C := RX3) (T := TX3) (N := 2) rfl hin slot hs (S.2.2.2.2 _ hlink) (fun y h => by rw [hT] at h; exact h) hv hdg kk
theorem xx_get (S : CallFix p m c cc nL s args Ts RX5) (hh : HH κ L f s H locs) (hz : ZC κ x a N P C L0 f0 L f) (hin : ∀ w ∈ wsX50, w ∈ Ts) (slot : Nat) (hs : slot < 7) {v : Value} {index : Nat} (hv : (xFv a C)[slot]? = some v) (hT : (TX5 slot).1 = RX5) (hlink : Cond.fieldLink RX5 index RX5 (TX5 slot).2.1 (TX5 slot).2.2.1 ∈ Ts) (hdg : decode cc pc = .ok (.getfield index, 3))
    (kk : W p l e R s m args below meth c H locs cells slots Q (F0 m (pc + 3) ls (v :: rest))) : W p l e R s m args below meth c H locs cells slots Q (F0 m pc ls (.ref x :: rest)) :=
  h_get S.1 S.2.1 S.2.2.2.2 S.2.2.2.1 hh hz.1.1.1 hz.1.1.2 (C := RX5) (T := TX5) (N := 7) rfl hin slot hs (S.2.2.2.2 _ hlink) (fun y h => by rw [hT] at h; exact h) hv hdg kk
theorem xx_put (S : CallFix p m c cc nL s args Ts RX5) (hh : HH κ L f s H locs) (hz : ZC κ x a N P C L0 f0 L f) (hin : ∀ w ∈ wsX50, w ∈ Ts) (slot j : Nat) (hs : slot = 5 ∧ j = 16 ∨ slot = 6 ∧ j = 17) {v : Int32} {index : Nat} (hT : (TX5 slot).1 = RX5) (hfin : (TX5 slot).2.2.2 = false) (hd : tyX5 slot = .int) (hlink : Cond.fieldLink RX5 index RX5 (TX5 slot).2.1 (TX5 slot).2.2.1 ∈ Ts) (hdg : decode cc pc = .ok (.putfield index, 3))
    (kk : ∀ (f1 : Nat → va_E) (H1 : Heap) (locs1 : List Loc), HH κ L f1 s H1 locs1 → ZC κ x a N P (scM C j v) L0 f0 L f1 → W p l e R s m args below meth c H1 locs1 cells slots Q (F0 m (pc + 3) ls rest)) : W p l e R s m args below meth c H locs cells slots Q (F0 m pc ls (.int v :: .ref x :: rest)) := by
  have hs7 : slot < 7 := by omega
  refine h_put S.1 S.2.1 S.2.2.2.2 S.2.2.2.1 hh hz.1.1.1 hz.1.1.2 (C := RX5) (T := TX5) (N := 7) rfl hin tyX5 tyX5_ok nmX5 slot hs7 (S.2.2.2.2 _ hlink) (fun y h => by rw [hT] at h; exact h) hfin (ty := .int) hd rfl rfl hs7 hdg (fun H1 locs1 h1 => kk _ H1 locs1 h1 (hz.putX ?_ ?_))
  · rcases hs with ⟨rfl, rfl⟩ | ⟨rfl, rfl⟩ <;> simp [xFv, scM, va_up]
  · intro k hk
    have hkj : k ≠ j := by omega
    simp [scM, va_up, hkj]
theorem ZC.lst (hz : ZC κ x a N P C L0 f0 L f) (j : Nat) (hj : j < 5) : ∃ mc : Int32, a 5 j ∈ L ∧ f (a 5 j) = lC mc (a 6 j) (nI (N j)) := by
  obtain ⟨⟨h1, mc, h2⟩, -⟩ := hz.1.2.2.2.2.1 j hj
  exact ⟨mc, h1, h2⟩
end XROWS
/-- what the class's methods keep: counts in range, references in range -/
def WC (N P : Nat → Nat) (C : MS) : Prop := (N 0 ≤ 3 ∧ N 1 ≤ 6 ∧ N 2 ≤ 6 ∧ N 3 ≤ 512 ∧ N 4 ≤ 512) ∧ (∀ i, i < N 1 → C 5 i = nI (nT (C 5 i)) ∧ nT (C 5 i) < N 0) ∧ (∀ i, i < N 1 → ¬ C 6 i = -1 → (C 6 i = nI (nT (C 6 i)) ∧ nT (C 6 i) < N 2) ∧ C 7 i = nI (nT (C 7 i)) ∧ nT (C 7 i) < N 3) ∧ ∀ j, j < N 4 → P j < N 3
def freeG (C : MS) (g : Nat) : Int32 := if C 15 g = 0 then (if C 11 g = 0 then 1 else 0) else 0
def strG (C : MS) (g : Nat) (d : Int32) : Int32 := if 4 * C 9 g - d / 5 ≤ 1 then 1 else 4 * C 9 g - d / 5
def lieG (C : MS) (g : Nat) : MS := stM (stM C 11 g 8) 10 g 0
def leftG (C : MS) (t : Nat) : Int32 := if C 14 t = 2 then 1 else if C 14 t = 3 then 1 else 0
def minG (x y : Int32) : Int32 := if y < x then y else x
def ashG (C : MS) (g : Nat) : MS := if C 10 g < 8 then C else lieG C g
def endG (C : MS) (i : Nat) : MS := ashG (stM (stM C 6 i (-1)) 15 (nT (C 6 i)) 0) (nT (C 6 i))
def comeG (C : MS) (i : Nat) : MS := endG (stM C 4 i 0) i
def goG (C : MS) (i : Nat) : MS := if stM C 8 i (C 8 i + 1) 8 i < 2 then stM C 8 i (C 8 i + 1) else stM (stM C 8 i (C 8 i + 1)) 4 i 2
def takeG (C : MS) (i h : Nat) (sh : Int32) : MS := stM (stM (stM C 0 h (C 0 h - sh)) 2 i (C 2 i + (sh - sh / 50))) 3 i (C 3 i + sh / 50)
def shovHG (C : MS) (i g : Nat) : MS := takeG C i (nT (C 5 i)) (minG (strG C g (C 3 i)) (minG (C 0 (nT (C 5 i))) (C 1 i - C 2 i)))
def castG (C : MS) (i : Nat) : MS := if C 2 i ≤ 0 then endG C i else stM (stM C 4 i 1) 8 i 0
def workHG (C : MS) (i : Nat) : MS := if C 1 i ≤ C 2 i then castG C i else if 0 < C 0 (nT (C 5 i)) then shovHG C i (nT (C 6 i)) else castG C i
def giveG (C : MS) (i t : Nat) (sh : Int32) : MS := scM (stM (stM (stM C 2 i (C 2 i - sh)) 3 i (C 3 i + sh / 50)) 12 t (C 12 t - (sh - sh / 50))) 17 (C 17 0 + (sh - sh / 50))
def shovSG (C : MS) (i : Nat) : MS := giveG C i (nT (C 7 i)) (minG (strG C (nT (C 6 i)) (C 3 i)) (minG (C 2 i) (C 12 (nT (C 7 i)))))
def workSG (C : MS) (i : Nat) : MS := if 0 < C 2 i then (if C 14 (nT (C 7 i)) = 1 then shovSG C i else C) else stM C 4 i 3
def workG (C : MS) (i : Nat) : MS := if C 4 i = 0 then workHG C i else if C 4 i = 1 then goG C i else if C 4 i = 2 then workSG C i else comeG C i
def wkG (C : MS) (i : Nat) : MS := if C 6 i = -1 then C else workG (stM C 10 (nT (C 6 i)) (C 10 (nT (C 6 i)) + 1)) i
def wkLoop (C : MS) : Nat → MS
  | 0 => C
  | n + 1 => wkG (wkLoop C n) n
def rstLoop (C : MS) : Nat → MS
  | 0 => C
  | n + 1 => if rstLoop C n 11 n ≤ 0 then rstLoop C n else stM (rstLoop C n) 11 n (rstLoop C n 11 n - 1)
def cntG (C : MS) (P : Nat → Nat) (how : Int32) : Nat → Int32
  | 0 => 0
  | n + 1 => if C 14 (P n) = how then cntG C P how n + 1 else cntG C P how n
def byG (P : Nat → Nat) (q : MS × Int32) (j : Nat) : MS × Int32 := if 2 ≤ q.2 then q else if q.1 14 (P j) = 0 then (stM q.1 14 (P j) 1, q.2 + 1) else q
def byLoop (P : Nat → Nat) (q : MS × Int32) : Nat → MS × Int32
  | 0 => q
  | n + 1 => byG P (byLoop P q n) n
def recG (C : MS) (i : Nat) : MS := if C 4 i = 0 then endG C i else stM C 4 i 3
def rcG (C : MS) (t i : Nat) : MS := if C 6 i = -1 then C else if nT (C 7 i) = t then recG C i else C
def rcLoop (C : MS) (t : Nat) : Nat → MS
  | 0 => C
  | n + 1 => rcG (rcLoop C t n) t n
def dueG (C : MS) (t : Nat) : Bool := decide (C 12 t ≤ 0) || decide (C 13 t ≤ 0)
def lvG (nl : Nat) (P : Nat → Nat) (q : MS × Int32) (j : Nat) : MS × Int32 :=
  if dueG (stM q.1 13 (P j) (q.1 13 (P j) - 1)) (P j) = true then (rcLoop (stM (stM q.1 13 (P j) (q.1 13 (P j) - 1)) 14 (P j) (if q.1 12 (P j) ≤ 0 then 2 else 3)) (P j) nl, q.2 + 1) else (stM q.1 13 (P j) (q.1 13 (P j) - 1), q.2)
def lvLoop (nl : Nat) (P : Nat → Nat) (C : MS) : Nat → MS × Int32
  | 0 => (C, 0)
  | n + 1 => lvG nl P (lvLoop nl P C n) n
/-- those that have left are taken out, from the last on: i places are still to be looked at -/
def fgG (C : MS) : Nat → (Nat → Nat) × Nat → (Nat → Nat) × Nat
  | 0, q => q
  | i + 1, q => fgG C i (if leftG C (q.1 i) = 0 then q else (remEl q.1 i, q.2 - 1))
