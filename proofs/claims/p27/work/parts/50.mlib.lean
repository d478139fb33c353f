/-! the reference's row of 343 numbers: reads and writes -/
abbrev Ar (h : zH) (r : Nat) (S : Nat → Int32) : Prop := h.2 r = some (xI 343 S)
def sP (S : Nat → Int32) (p k : Nat) : Int32 := S (10 + 7 * p + k)
def sO (S : Nat → Int32) (j k : Nat) : Int32 := S (153 + 19 * j + k)
theorem nI_mul (a b : Nat) : nI a * nI b = nI (a * b) := (Int32.ofNat_mul a b).symm
theorem ixP (p k : Nat) : (10 : Int32) + 7 * nI p + nI k = nI (10 + 7 * p + k) := by
  rw [show (10 : Int32) = nI 10 from rfl, show (7 : Int32) = nI 7 from rfl, nI_mul, nI_add, nI_add]
theorem ixO (j k : Nat) : (153 : Int32) + 19 * nI j + nI k = nI (153 + 19 * j + k) := by
  rw [show (153 : Int32) = nI 153 from rfl, show (19 : Int32) = nI 19 from rfl, nI_mul, nI_add, nI_add]
theorem ixO0 (j : Nat) : (153 : Int32) + 19 * nI j = nI (153 + 19 * j) := by
  rw [show (153 : Int32) = nI 153 from rfl, show (19 : Int32) = nI 19 from rfl, nI_mul, nI_add]
section ZM1
variable {h : zH} {r p j : Nat} {S : Nat → Int32}
theorem hd0 (hr : Ar h r S) : rdA h r 0 = some (S 0) := rdA_of (j := 0) hr (by omega) (by omega)
theorem wh0 (hr : Ar h r S) (v : Int32) : wrA h r 0 v = some (hp h r (xI 343 (upd S 0 v))) := wrA_of (j := 0) hr (by omega) (by omega)
theorem hd1 (hr : Ar h r S) : rdA h r 1 = some (S 1) := rdA_of (j := 1) hr (by omega) (by omega)
theorem wh1 (hr : Ar h r S) (v : Int32) : wrA h r 1 v = some (hp h r (xI 343 (upd S 1 v))) := wrA_of (j := 1) hr (by omega) (by omega)
theorem hd2 (hr : Ar h r S) : rdA h r 2 = some (S 2) := rdA_of (j := 2) hr (by omega) (by omega)
theorem wh2 (hr : Ar h r S) (v : Int32) : wrA h r 2 v = some (hp h r (xI 343 (upd S 2 v))) := wrA_of (j := 2) hr (by omega) (by omega)
theorem hd3 (hr : Ar h r S) : rdA h r 3 = some (S 3) := rdA_of (j := 3) hr (by omega) (by omega)
theorem wh3 (hr : Ar h r S) (v : Int32) : wrA h r 3 v = some (hp h r (xI 343 (upd S 3 v))) := wrA_of (j := 3) hr (by omega) (by omega)
theorem hd4 (hr : Ar h r S) : rdA h r 4 = some (S 4) := rdA_of (j := 4) hr (by omega) (by omega)
theorem wh4 (hr : Ar h r S) (v : Int32) : wrA h r 4 v = some (hp h r (xI 343 (upd S 4 v))) := wrA_of (j := 4) hr (by omega) (by omega)
theorem hd5 (hr : Ar h r S) : rdA h r 5 = some (S 5) := rdA_of (j := 5) hr (by omega) (by omega)
theorem wh5 (hr : Ar h r S) (v : Int32) : wrA h r 5 v = some (hp h r (xI 343 (upd S 5 v))) := wrA_of (j := 5) hr (by omega) (by omega)
theorem hd6 (hr : Ar h r S) : rdA h r 6 = some (S 6) := rdA_of (j := 6) hr (by omega) (by omega)
theorem wh6 (hr : Ar h r S) (v : Int32) : wrA h r 6 v = some (hp h r (xI 343 (upd S 6 v))) := wrA_of (j := 6) hr (by omega) (by omega)
theorem hd7 (hr : Ar h r S) : rdA h r 7 = some (S 7) := rdA_of (j := 7) hr (by omega) (by omega)
theorem wh7 (hr : Ar h r S) (v : Int32) : wrA h r 7 v = some (hp h r (xI 343 (upd S 7 v))) := wrA_of (j := 7) hr (by omega) (by omega)
theorem hd8 (hr : Ar h r S) : rdA h r 8 = some (S 8) := rdA_of (j := 8) hr (by omega) (by omega)
theorem wh8 (hr : Ar h r S) (v : Int32) : wrA h r 8 v = some (hp h r (xI 343 (upd S 8 v))) := wrA_of (j := 8) hr (by omega) (by omega)
theorem hd9 (hr : Ar h r S) : rdA h r 9 = some (S 9) := rdA_of (j := 9) hr (by omega) (by omega)
theorem wh9 (hr : Ar h r S) (v : Int32) : wrA h r 9 v = some (hp h r (xI 343 (upd S 9 v))) := wrA_of (j := 9) hr (by omega) (by omega)
theorem hd150 {i : Nat} (hr : Ar h r S) (hi : i < 3) : rdA h r (150 + nI i) = some (S (150 + i)) := by
  rw [show (150 : Int32) = nI 150 from rfl, nI_add]
  exact rdA_of hr (by omega) (by omega)
theorem wh150 {i : Nat} (hr : Ar h r S) (hi : i < 3) (v : Int32) : wrA h r (150 + nI i) v = some (hp h r (xI 343 (upd S (150 + i) v))) := by
  rw [show (150 : Int32) = nI 150 from rfl, nI_add]
  exact wrA_of hr (by omega) (by omega)
end ZM1
/-! counting -/
def cnt (P : Nat → Bool) : Nat → Int32
  | 0 => 0
  | n + 1 => cnt P n + (if P n = true then 1 else 0)
def lastM (P : Nat → Bool) : Nat → Int32
  | 0 => -9
  | n + 1 => if P n = true then nI n else lastM P n
def yrM (P : Nat → Bool) (y : Nat → Int32) (sg : Int32) : Nat → Int32
  | 0 => -9
  | n + 1 => if (P n && (decide (yrM P y sg n = -9) || decide (sg * y n < sg * yrM P y sg n))) = true then y n else yrM P y sg n
def sumM (f : Nat → Int32) : Nat → Int32
  | 0 => 0
  | n + 1 => sumM f n + f n
def anyM (P : Nat → Bool) : Nat → Bool
  | 0 => false
  | n + 1 => anyM P n || P n
def inS (S : Nat → Int32) (st : Int32) (p : Nat) : Bool := decide (sP S p 2 = st)
def onS (S : Nat → Int32) (sh : Int32) (p : Nat) : Bool := decide (sP S p 2 = 2) && decide (sP S p 5 = sh)
def onY (S : Nat → Int32) (sh y : Int32) (p : Nat) : Bool := onS S sh p && decide (sP S p 6 = y)
def orY (S : Nat → Int32) (sh y : Int32) (k : Nat) : Bool := decide (sO S k 0 = sh) && decide (sO S k 1 = y)
section ZM2
variable {h : zH} {r nP nO : Nat} {S : Nat → Int32}
end ZM2
