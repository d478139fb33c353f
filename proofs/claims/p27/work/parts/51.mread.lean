/-! the reference: names, sides, the better plate -/
/-- the depth of a side -/
def dP (S : Nat → Int32) (p sd : Nat) : Int32 := sP S p (3 + sd)
def loM (S : Nat → Int32) (p sd : Nat) (d t : Int32) : Int32 := sP S p 1 - t - d - dP S p (1 - sd)
def rdyM (S : Nat → Int32) (p sd : Nat) (d : Int32) : Bool := decide (dP S p sd = 0) && decide (2 ≤ loM S p sd d 0)
def gndM (S : Nat → Int32) (p sd : Nat) (d : Int32) : Bool := decide (0 < dP S p sd) && decide (2 ≤ loM S p sd d (dP S p sd + 1))
def mayM (S : Nat → Int32) (p sd : Nat) (d : Int32) (w : Bool) : Bool := if w = true then gndM S p sd d else rdyM S p sd d
def toI (o : Option Nat) : Int32 := match o with
  | none => -9
  | some p => nI p
theorem nI_ne9 {n : Nat} (h : n < 2 ^ 31) : nI n ≠ -9 := by
  intro e
  have := congrArg Int32.toInt e
  rw [nI_toInt h] at this
  have e2 : (-9 : Int32).toInt = -9 := by decide
  rw [e2] at this
  omega
def btM (S : Nat → Int32) (p : Nat) (o : Option Nat) : Bool := match o with
  | none => true
  | some q => decide (sP S p 0 - sP S q 0 < 0) || (decide (sP S p 0 - sP S q 0 = 0) && decide (sP S p 1 < sP S q 1))
/-- the length of an order's name, its effort -/
def nlM (S : Nat → Int32) (k n : Nat) : Int32 := sO S k 2 * lenW (nI n - 1) (fun i => sO S k (6 + i)) n
def efM (S : Nat → Int32) (k : Nat) : Int32 := sO S k 5 * (sO S k 2 + sO S k 3)
theorem sub_nI {sd : Nat} (h : sd < 2) : (1 : Int32) - nI sd = nI (1 - sd) := by
  rcases (show sd = 0 ∨ sd = 1 by omega) with rfl | rfl <;> decide
section ZM3
variable {h : zH} {r m p q k n : Nat} {S g tx : Nat → Int32}
end ZM3
