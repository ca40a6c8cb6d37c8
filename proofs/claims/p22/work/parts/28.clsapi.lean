/-! the class's public methods as functions -/
def inR (v lo hi : Int32) : Prop := ¬ v < lo ∧ v ≤ hi
def exI (T : Int32) (E : String) : Prop := (E = "java/lang/IllegalArgumentException" ∧ T = 1) ∨ (E = "java/lang/IllegalStateException" ∧ T = 2)
def exB (T : Int32) (E : String) : Prop := (E = "java/lang/IndexOutOfBoundsException" ∧ T = 1) ∨ (E = "java/lang/IllegalStateException" ∧ T = 2)
def shiftTG (N : Nat → Nat) (C : MS) (v w : Int32) : Int32 := if isF v (nI (N 1)) = 0 then 1 else if isF w (nI (N 0)) = 0 then 1 else if C 6 (nT v) = -1 then 0 else 2
def shiftG (C : MS) (v w : Int32) : MS := stM C 5 (nT v) (nI (nT w))
def sweepTG (N : Nat → Nat) (C : MS) (v w : Int32) : Int32 := if isF v (nI (N 1)) = 0 then 1 else if isF w (nI (N 2)) = 0 then 1 else if C 6 (nT v) = -1 then (if freeG C (nT w) = 0 then 2 else 0) else 2
def sweepG (C : MS) (v w : Int32) : MS := lieG (stM (stM C 3 (nT v) 0) 0 (nT (C 5 (nT v))) (C 0 (nT (C 5 (nT v))) + C 3 (nT v))) (nT w)
def orderTG (N : Nat → Nat) (C : MS) (v w u : Int32) : Int32 := if isF v (nI (N 1)) = 0 then 1 else if isF w (nI (N 2)) = 0 then 1 else if isF u (nI (N 3)) = 0 then 1 else if C 6 (nT v) = -1 then (if freeG C (nT w) = 0 then 2 else if leftG C (nT u) = 0 then 0 else 2) else 2
def orderG (C : MS) (v w u : Int32) : MS := stM (stM (stM C 6 (nT v) w) 7 (nT v) u) 15 (nT w) 1
def hulkTG (N : Nat → Nat) (v : Int32) : Int32 := if v < 0 then 1 else if v ≤ 20000 then (if nI (N 0) < 3 then 0 else 2) else 1
def lighterTG (N : Nat → Nat) (v : Int32) : Int32 := if v < 20 then 1 else if v ≤ 500 then (if nI (N 1) < 6 then (if nI (N 0) = 0 then 2 else 0) else 2) else 1
def gangTG (N : Nat → Nat) (v : Int32) : Int32 := if v < 1 then 1 else if v ≤ 20 then (if nI (N 2) < 6 then 0 else 2) else 1
def steamerTG (N P : Nat → Nat) (C : MS) (v w : Int32) : Int32 := if v < 1 then 1 else if v ≤ 9999 then (if w < 1 then 1 else if w ≤ 500 then (if 8 ≤ cntG C P 0 (N 4) then 2 else if nI (N 3) < 512 then 0 else 2) else 1) else 1
def outGo2 (C : MS) (P : Nat → Nat) (v : Int32) : Nat → Nat → Int32 → Int32
  | 0, _, _ => -1
  | n + 1, j, b => if C 14 (P j) = 0 then (if b = v then nI (P j) else outGo2 C P v n (j + 1) (b + 1)) else outGo2 C P v n (j + 1) b
def M00 : MS := fun _ _ => 0
