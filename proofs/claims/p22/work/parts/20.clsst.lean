/-! the class's state by numbers: C k i: 0 coal, 1 hold, 2 load, 3 dust, 4 place, 5 home, 6 the gang of the order (-1: none), 7 its steamer, 8 hoursOut, 9 men, 10 hoursCounted, 11 rest, 12 want, 13 patience, 14 fate, 15 aboard, 16 clock, 17 delivered. N: how many hulks, lighters, gangs, steamers, present. P: the steamers present. a: addresses (0 hulks, 1 lighters, 2 gangs, 3 steamers, 4 orders, 5 the lists, 6 their rows) -/
abbrev AD : Type := Nat → Nat → Nat
def hFv (C : MS) (i : Nat) : List Value := [.int (C 0 i)]
def lFv (a : AD) (C : MS) (i : Nat) : List Value := [.int (C 1 i), .int (C 2 i), .int (C 3 i), .int (C 4 i), .int (C 8 i), .ref (a 0 (nT (C 5 i))), if C 6 i = -1 then .null else .ref (a 4 i)]
def gFv (C : MS) (i : Nat) : List Value := [.int (nI i), .int (C 9 i), .int (C 15 i), .int (C 11 i), .int (C 10 i)]
def sFv (C : MS) (i : Nat) : List Value := [.int (nI i), .int (C 12 i), .int (C 13 i), .int (C 14 i)]
def oFv (a : AD) (C : MS) (i : Nat) : List Value := [.ref (a 2 (nT (C 6 i))), .ref (a 3 (nT (C 7 i)))]
def xFv (a : AD) (C : MS) : List Value := [.ref (a 5 0), .ref (a 5 1), .ref (a 5 2), .ref (a 5 3), .ref (a 5 4), .int (C 16 0), .int (C 17 0)]
def ciOf (k : Nat) : Nat := match k with
  | 0 => 2
  | 1 => 3
  | 2 => 1
  | _ => 5
def fsOf (a : AD) (C : MS) (k i : Nat) : List Value := match k with
  | 0 => hFv C i
  | 1 => lFv a C i
  | 2 => gFv C i
  | _ => sFv C i
theorem ciOf_r (k : Nat) : ciOf k = 1 ∨ ciOf k = 2 ∨ ciOf k = 3 ∨ ciOf k = 5 := by
  unfold ciOf
  split <;> simp
theorem ciOf_inj {k j : Nat} (hk : k < 4) (hj : j < 4) (h : ciOf k = ciOf j) : k = j := by
  have h1 : k = 0 ∨ k = 1 ∨ k = 2 ∨ k = 3 := by omega
  have h2 : j = 0 ∨ j = 1 ∨ j = 2 ∨ j = 3 := by omega
  rcases h1 with rfl | rfl | rfl | rfl <;> rcases h2 with rfl | rfl | rfl | rfl <;> first | rfl | (simp [ciOf] at h)
theorem isEl_ci {k : Nat} {fs : List Value} : isEl (.inr (ciOf k, fs)) := by
  unfold ciOf
  split
  · exact ⟨2, fs, (RX1, TX1, 1), rfl, rfl, by decide +kernel⟩
  · exact ⟨3, fs, (RX2, TX2, 7), rfl, rfl, by decide +kernel⟩
  · exact ⟨1, fs, (RX0, TX0, 5), rfl, rfl, by decide +kernel⟩
  · exact ⟨5, fs, (RX4, TX4, 4), rfl, rfl, by decide +kernel⟩
theorem isEl_6 {fs : List Value} (h : isEl (.inr (6, fs))) : False := by
  obtain ⟨ci, fs', q, e, hc, hk⟩ := h
  cases e
  have e1 : q = (RX5, TX5, 7) := (Option.some.inj hc).symm
  subst e1
  revert hk
  decide +kernel
/-- cells that the class never touches: the reference's, rows of ints and longs -/
def isRO (e : va_E) : Bool := match e with
  | .inr (ci, _) => ci == 7
  | .inl (_, _, .inl _) => true
  | .inl (_, _, .inr (.inl _)) => true
  | _ => false
def Fr (L0 : List Nat) (f0 : Nat → va_E) (L : List Nat) (f : Nat → va_E) : Prop := (∀ q, q ∈ L0 → q ∈ L) ∧ ∀ q, q ∈ L0 → isRO (f0 q) = true → f q = f0 q
theorem Fr.rf {L : List Nat} {f : Nat → va_E} : Fr L f L f := ⟨fun _ h => h, fun _ _ _ => rfl⟩
theorem Fr.trans {L0 L L1 : List Nat} {f0 f f1 : Nat → va_E} (h : Fr L0 f0 L f) (h1 : Fr L f L1 f1) : Fr L0 f0 L1 f1 :=
  ⟨fun q hq => h1.1 q (h.1 q hq), fun q hq hr => by
    have e := h.2 q hq hr
    exact (h1.2 q (h.1 q hq) (by rw [e]; exact hr)).trans e⟩
theorem Fr.up {L0 L : List Nat} {f0 f : Nat → va_E} (h : Fr L0 f0 L f) {p : Nat} {e : va_E} (hp : isRO (f p) = false) : Fr L0 f0 L (va_up f p e) :=
  ⟨h.1, fun q hq hr => by
    have e1 := h.2 q hq hr
    have hqp : q ≠ p := fun z => by
      rw [← z, e1, hr] at hp
      cases hp
    rw [show va_up f p e q = f q by simp [va_up, hqp]]
    exact e1⟩
def elm (a : AD) (P : Nat → Nat) (j i : Nat) : Nat := if j = 4 then a 3 (P i) else a j i
def CA (κ : Kx) (x : Nat) (a : AD) (N P : Nat → Nat) (C : MS) (L : List Nat) (f : Nat → va_E) : Prop :=
  (x ∈ L ∧ f x = .inr (6, xFv a C)) ∧ (∀ k i, k < 4 → i < N k → a k i ∈ L ∧ f (a k i) = .inr (ciOf k, fsOf a C k i)) ∧ (∀ i, i < N 1 → ¬ C 6 i = -1 → a 4 i ∈ L ∧ f (a 4 i) = .inr (4, oFv a C i)) ∧ (∀ k i j, k < 4 → i < N k → j < N k → a k i = a k j → i = j) ∧
  (∀ j, j < 5 → LA κ L f (a 5 j) (a 6 j) (N j) (elm a P j)) ∧ (∀ i j, i < 5 → j < 5 → a 5 i = a 5 j → i = j) ∧ ∀ i j, i < 5 → j < 5 → a 6 i = a 6 j → a 6 i = kTE κ ∨ i = j
def ZC (κ : Kx) (x : Nat) (a : AD) (N P : Nat → Nat) (C : MS) (L0 : List Nat) (f0 : Nat → va_E) (L : List Nat) (f : Nat → va_E) : Prop := CA κ x a N P C L f ∧ Fr L0 f0 L f
/-- what a written field of object (k, i) makes of the state -/
def PutOK (a : AD) (C : MS) (k i : Nat) (C1 : MS) (fs1 : List Value) : Prop := fsOf a C1 k i = fs1 ∧ (∀ k2 i2, k2 < 4 → ¬ (k2 = k ∧ i2 = i) → fsOf a C1 k2 i2 = fsOf a C k2 i2) ∧ xFv a C1 = xFv a C ∧ ∀ j, ¬ C1 6 j = -1 → ¬ C 6 j = -1 ∧ oFv a C1 j = oFv a C j
theorem LA.up {κ : Kx} {L : List Nat} {f : Nat → va_E} {lo e n : Nat} {el : Nat → Nat} (h : LA κ L f lo e n el) {p ci : Nat} {fs fs1 : List Value} (hp : f p = .inr (ci, fs)) (hci : ci ≠ 0) (hE : isEl (.inr (ci, fs)) → isEl (.inr (ci, fs1))) : LA κ L (va_up f p (.inr (ci, fs1))) lo e n el := by
  obtain ⟨⟨h1, mc, h2⟩, h3⟩ := h
  have hlp : lo ≠ p := fun z => by
    rw [z, hp] at h2
    simp only [lC, Sum.inr.injEq, Prod.mk.injEq] at h2
    exact hci h2.1
  refine ⟨⟨h1, mc, by rw [← h2]; simp [va_up, hlp]⟩, ?_⟩
  rcases h3 with h3 | ⟨cap, g, hR, hn, hg⟩
  · exact Or.inl h3
  · refine Or.inr ⟨cap, g, hR.up (fun z => ?_) (fun h => by rw [hp] at h; exact hE h), hn, hg⟩
    have h4 := hR.2.1
    rw [← z, hp] at h4
    cases h4
theorem ZC.put {κ : Kx} {x : Nat} {a : AD} {N P : Nat → Nat} {C : MS} {L0 L : List Nat} {f0 f : Nat → va_E} (h : ZC κ x a N P C L0 f0 L f) {k i : Nat} (hk : k < 4) (hi : i < N k) {C1 : MS} {fs1 : List Value} (ho : PutOK a C k i C1 fs1) : ZC κ x a N P C1 L0 f0 L (va_up f (a k i) (.inr (ciOf k, fs1))) := by
  obtain ⟨⟨⟨h1, h2⟩, h3, h4, h5, h6, h7, h8⟩, hf⟩ := h
  obtain ⟨o1, o2, o3, o4⟩ := ho
  obtain ⟨p1, p2⟩ := h3 k i hk hi
  have hr := ciOf_r k
  have tag : ∀ q ci fs, f q = .inr (ci, fs) → ci ≠ ciOf k → va_up f (a k i) (.inr (ciOf k, fs1)) q = f q := fun q ci fs hq hc => by
    have hne : q ≠ a k i := fun z => by
      rw [z, p2] at hq
      simp only [Sum.inr.injEq, Prod.mk.injEq] at hq
      exact hc hq.1.symm
    simp [va_up, hne]
  refine ⟨⟨⟨h1, ?_⟩, fun k2 i2 hk2 hi2 => ⟨(h3 k2 i2 hk2 hi2).1, ?_⟩, fun j hj hc => ?_, h5, fun j hj => ?_, h7, h8⟩, hf.up (by rw [p2]; show (ciOf k == 7) = false; simp; omega)⟩
  · rw [tag x 6 _ h2 (by omega), o3]
    exact h2
  · by_cases he : k2 = k ∧ i2 = i
    · obtain ⟨rfl, rfl⟩ := he
      rw [o1]
      simp [va_up]
    · rw [o2 k2 i2 hk2 he]
      have hq := (h3 k2 i2 hk2 hi2).2
      by_cases hkk : k2 = k
      · subst hkk
        have hne : a k2 i2 ≠ a k2 i := fun z => he ⟨rfl, h5 k2 i2 i hk2 hi2 hi z⟩
        rw [← hq]
        simp [va_up, hne]
      · rw [tag _ _ _ hq (fun z => hkk (ciOf_inj hk2 hk z))]
        exact hq
  · obtain ⟨q1, q2⟩ := o4 j hc
    obtain ⟨q3, q4⟩ := h4 j hj q1
    refine ⟨q3, ?_⟩
    rw [tag _ 4 _ q4 (by omega), q2]
    exact q4
  · exact (h6 j hj).up p2 (by omega) (fun _ => isEl_ci)
theorem ZC.putX {κ : Kx} {x : Nat} {a : AD} {N P : Nat → Nat} {C : MS} {L0 L : List Nat} {f0 f : Nat → va_E} (h : ZC κ x a N P C L0 f0 L f) {C1 : MS} {fs1 : List Value} (ho : xFv a C1 = fs1) (hc : ∀ k, k < 16 → C1 k = C k) : ZC κ x a N P C1 L0 f0 L (va_up f x (.inr (6, fs1))) := by
  obtain ⟨⟨⟨h1, h2⟩, h3, h4, h5, h6, h7, h8⟩, hf⟩ := h
  have tag : ∀ q ci fs, f q = .inr (ci, fs) → ci ≠ 6 → va_up f x (.inr (6, fs1)) q = f q := fun q ci fs hq hc => by
    have hne : q ≠ x := fun z => by
      rw [z, h2] at hq
      simp only [Sum.inr.injEq, Prod.mk.injEq] at hq
      exact hc hq.1.symm
    simp [va_up, hne]
  have e1 : ∀ k i, k < 4 → fsOf a C1 k i = fsOf a C k i := fun k i hk => by
    have h9 : k = 0 ∨ k = 1 ∨ k = 2 ∨ k = 3 := by omega
    rcases h9 with rfl | rfl | rfl | rfl <;> simp [fsOf, hFv, lFv, gFv, sFv, hc]
  refine ⟨⟨⟨h1, by rw [ho]; simp [va_up]⟩, fun k2 i2 hk2 hi2 => ⟨(h3 k2 i2 hk2 hi2).1, ?_⟩, fun j hj hc6 => ?_, h5, fun j hj => ?_, h7, h8⟩, hf.up (by rw [h2]; rfl)⟩
  · have hr := ciOf_r k2
    rw [tag _ _ _ (h3 k2 i2 hk2 hi2).2 (by omega), e1 k2 i2 hk2]
    exact (h3 k2 i2 hk2 hi2).2
  · rw [hc 6 (by decide)] at hc6
    obtain ⟨q3, q4⟩ := h4 j hj hc6
    refine ⟨q3, ?_⟩
    rw [tag _ 4 _ q4 (by decide), show oFv a C1 j = oFv a C j by simp [oFv, hc]]
    exact q4
  · exact (h6 j hj).up h2 (by decide) (fun h => (isEl_6 h).elim)
theorem ZC.self {κ : Kx} {x : Nat} {a : AD} {N P : Nat → Nat} {C : MS} {L0 L : List Nat} {f0 f : Nat → va_E} (h : ZC κ x a N P C L0 f0 L f) : ZC κ x a N P C L f L f := ⟨h.1, Fr.rf⟩
theorem ZC.trans {κ : Kx} {x : Nat} {a a1 : AD} {N P N1 P1 : Nat → Nat} {C C1 : MS} {L0 L L1 : List Nat} {f0 f f1 : Nat → va_E} (h : ZC κ x a N P C L0 f0 L f) (h1 : ZC κ x a1 N1 P1 C1 L f L1 f1) : ZC κ x a1 N1 P1 C1 L0 f0 L1 f1 := ⟨h1.1, h.2.trans h1.2⟩
theorem ZC.cast {κ : Kx} {x : Nat} {a : AD} {N P : Nat → Nat} {C C1 : MS} {L0 L : List Nat} {f0 f : Nat → va_E} (h : ZC κ x a N P C L0 f0 L f) (e : C = C1) : ZC κ x a N P C1 L0 f0 L f := e ▸ h
/-- numbers of one kind of field -/
theorem put1 (a : AD) (C : MS) (i : Nat) (v : Int32) : PutOK a C 1 i (stM C 2 i v) ((lFv a C i).set 1 (.int v)) ∧ PutOK a C 1 i (stM C 3 i v) ((lFv a C i).set 2 (.int v)) ∧ PutOK a C 1 i (stM C 4 i v) ((lFv a C i).set 3 (.int v)) ∧ PutOK a C 1 i (stM C 8 i v) ((lFv a C i).set 4 (.int v)) := by
  refine ⟨?_, ?_, ?_, ?_⟩ <;>
  · refine ⟨by simp [fsOf, lFv, stM, va_up, upd], fun k2 i2 hk2 hne => ?_, by simp [xFv, stM, va_up], fun j hj => ⟨by simpa [stM, va_up] using hj, by simp [oFv, stM, va_up]⟩⟩
    have h9 : k2 = 0 ∨ k2 = 1 ∨ k2 = 2 ∨ k2 = 3 := by omega
    rcases h9 with rfl | rfl | rfl | rfl
    · simp [fsOf, hFv, stM, va_up]
    · have hi2 : i2 ≠ i := fun z => hne ⟨rfl, z⟩
      simp [fsOf, lFv, stM, va_up, upd, hi2]
    · simp [fsOf, gFv, stM, va_up]
    · simp [fsOf, sFv, stM, va_up]
theorem put1h (a : AD) (C : MS) (i h : Nat) (hh : nT (nI h) = h) : PutOK a C 1 i (stM C 5 i (nI h)) ((lFv a C i).set 5 (.ref (a 0 h))) := by
  refine ⟨by simp [fsOf, lFv, stM, va_up, upd, hh], fun k2 i2 hk2 hne => ?_, by simp [xFv, stM, va_up], fun j hj => ⟨by simpa [stM, va_up] using hj, by simp [oFv, stM, va_up]⟩⟩
  have h9 : k2 = 0 ∨ k2 = 1 ∨ k2 = 2 ∨ k2 = 3 := by omega
  rcases h9 with rfl | rfl | rfl | rfl
  · simp [fsOf, hFv, stM, va_up]
  · have hi2 : i2 ≠ i := fun z => hne ⟨rfl, z⟩
    simp [fsOf, lFv, stM, va_up, upd, hi2]
  · simp [fsOf, gFv, stM, va_up]
  · simp [fsOf, sFv, stM, va_up]
theorem put1n (a : AD) (C : MS) (i : Nat) : PutOK a C 1 i (stM C 6 i (-1)) ((lFv a C i).set 6 .null) := by
  refine ⟨by simp [fsOf, lFv, stM, va_up, upd], fun k2 i2 hk2 hne => ?_, by simp [xFv, stM, va_up], fun j hj => ?_⟩
  · have h9 : k2 = 0 ∨ k2 = 1 ∨ k2 = 2 ∨ k2 = 3 := by omega
    rcases h9 with rfl | rfl | rfl | rfl
    · simp [fsOf, hFv, stM, va_up]
    · have hi2 : i2 ≠ i := fun z => hne ⟨rfl, z⟩
      simp [fsOf, lFv, stM, va_up, upd, hi2]
    · simp [fsOf, gFv, stM, va_up]
    · simp [fsOf, sFv, stM, va_up]
  · by_cases hji : j = i
    · exact absurd (by simp [stM, va_up, upd, hji]) hj
    · rw [show stM C 6 i (-1) 6 j = C 6 j by simp [stM, va_up, upd, hji]] at hj
      exact ⟨hj, by simp [oFv, stM, va_up, upd, hji]⟩
theorem put0 (a : AD) (C : MS) (i : Nat) (v : Int32) : PutOK a C 0 i (stM C 0 i v) ((hFv C i).set 0 (.int v)) := by
  refine ⟨by simp [fsOf, hFv, stM, va_up, upd], fun k2 i2 hk2 hne => ?_, by simp [xFv, stM, va_up], fun j hj => ⟨by simpa [stM, va_up] using hj, by simp [oFv, stM, va_up]⟩⟩
  have h9 : k2 = 0 ∨ k2 = 1 ∨ k2 = 2 ∨ k2 = 3 := by omega
  rcases h9 with rfl | rfl | rfl | rfl
  · have hi2 : i2 ≠ i := fun z => hne ⟨rfl, z⟩
    simp [fsOf, hFv, stM, va_up, upd, hi2]
  · simp [fsOf, lFv, stM, va_up]
  · simp [fsOf, gFv, stM, va_up]
  · simp [fsOf, sFv, stM, va_up]
theorem put2 (a : AD) (C : MS) (i : Nat) (v : Int32) : PutOK a C 2 i (stM C 15 i v) ((gFv C i).set 2 (.int v)) ∧ PutOK a C 2 i (stM C 11 i v) ((gFv C i).set 3 (.int v)) ∧ PutOK a C 2 i (stM C 10 i v) ((gFv C i).set 4 (.int v)) := by
  refine ⟨?_, ?_, ?_⟩ <;>
  · refine ⟨by simp [fsOf, gFv, stM, va_up, upd], fun k2 i2 hk2 hne => ?_, by simp [xFv, stM, va_up], fun j hj => ⟨by simpa [stM, va_up] using hj, by simp [oFv, stM, va_up]⟩⟩
    have h9 : k2 = 0 ∨ k2 = 1 ∨ k2 = 2 ∨ k2 = 3 := by omega
    rcases h9 with rfl | rfl | rfl | rfl
    · simp [fsOf, hFv, stM, va_up]
    · simp [fsOf, lFv, stM, va_up]
    · have hi2 : i2 ≠ i := fun z => hne ⟨rfl, z⟩
      simp [fsOf, gFv, stM, va_up, upd, hi2]
    · simp [fsOf, sFv, stM, va_up]
theorem put3 (a : AD) (C : MS) (i : Nat) (v : Int32) : PutOK a C 3 i (stM C 12 i v) ((sFv C i).set 1 (.int v)) ∧ PutOK a C 3 i (stM C 13 i v) ((sFv C i).set 2 (.int v)) ∧ PutOK a C 3 i (stM C 14 i v) ((sFv C i).set 3 (.int v)) := by
  refine ⟨?_, ?_, ?_⟩ <;>
  · refine ⟨by simp [fsOf, sFv, stM, va_up, upd], fun k2 i2 hk2 hne => ?_, by simp [xFv, stM, va_up], fun j hj => ⟨by simpa [stM, va_up] using hj, by simp [oFv, stM, va_up]⟩⟩
    have h9 : k2 = 0 ∨ k2 = 1 ∨ k2 = 2 ∨ k2 = 3 := by omega
    rcases h9 with rfl | rfl | rfl | rfl
    · simp [fsOf, hFv, stM, va_up]
    · simp [fsOf, lFv, stM, va_up]
    · simp [fsOf, gFv, stM, va_up]
    · have hi2 : i2 ≠ i := fun z => hne ⟨rfl, z⟩
      simp [fsOf, sFv, stM, va_up, upd, hi2]
