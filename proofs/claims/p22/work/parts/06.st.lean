/-! the state by numbers: fields by their number, then the index -/
abbrev MS : Type := Nat → Nat → Int32
/-- the array k gets x at i -/
def stM (M : MS) (k i : Nat) (x : Int32) : MS := va_up M k (upd (M k) i x)
/-- the number j becomes x -/
def scM (M : MS) (j : Nat) (x : Int32) : MS := va_up M j (fun _ => x)
