/-! what the calls make of the state -/
abbrev CSt : Type := (Nat → Nat) × (Nat → Nat) × MS
def hulkS (S : CSt) (v : Int32) : CSt := if hulkTG S.1 v = 0 then (va_up S.1 0 (S.1 0 + 1), S.2.1, hulkC S.1 S.2.2 v) else S
def lighterS (S : CSt) (v : Int32) : CSt := if lighterTG S.1 v = 0 then (va_up S.1 1 (S.1 1 + 1), S.2.1, lighterC S.1 S.2.2 v) else S
def gangS (S : CSt) (v : Int32) : CSt := if gangTG S.1 v = 0 then (va_up S.1 2 (S.1 2 + 1), S.2.1, gangC S.1 S.2.2 v) else S
def steamerS (S : CSt) (v w : Int32) : CSt := if steamerTG S.1 S.2.1 S.2.2 v w = 0 then (va_up (va_up S.1 3 (S.1 3 + 1)) 4 (S.1 4 + 1), va_up S.2.1 (S.1 4) (S.1 3), steamerC S.1 S.2.2 v w) else S
def orderS (S : CSt) (v w u : Int32) : CSt := if orderTG S.1 S.2.2 v w u = 0 then (S.1, S.2.1, orderG S.2.2 v w u) else S
def shiftS (S : CSt) (v w : Int32) : CSt := if shiftTG S.1 S.2.2 v w = 0 then (S.1, S.2.1, shiftG S.2.2 v w) else S
def sweepS (S : CSt) (v w : Int32) : CSt := if sweepTG S.1 S.2.2 v w = 0 then (S.1, S.2.1, sweepG S.2.2 v w) else S
def hoursTG (v : Int32) : Int32 := if v < 1 then 1 else if v ≤ 500 then 0 else 1
def hoursS (S : CSt) (v : Int32) : CSt := if hoursTG v = 0 then (va_up S.1 4 (hsG S.1 S.2.1 S.2.2 (nT v)).1.1.2, (hsG S.1 S.2.1 S.2.2 (nT v)).1.1.1, (hsG S.1 S.2.1 S.2.2 (nT v)).1.2) else S
def readTG (n : Nat) (w : Int32) : Int32 := if isF w (nI n) = 0 then 1 else 0
def outTG (v : Int32) : Int32 := if v < 0 then 1 else 0
