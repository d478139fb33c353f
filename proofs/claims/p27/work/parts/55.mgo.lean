/-! the reference: findPlate, goesOn, finish, hurryIn -/
section ZM7
variable {h : zH} {m i j n : Nat} {g SV TX AS : Nat → Int32} {R T : Nat → Nat → Int32}
theorem gW_init {S : Nat → Int32} {its d : Int32} {w : Bool} {k : Nat} {c : Int32} : gW (upd (upd g 7 (-9)) 9 c) S its d w k = gW g S its d w k := by
  funext x
  simp only [gW, gF, upd]
  by_cases h8 : x = 8 <;> by_cases h7 : x = 7 <;> by_cases h9 : x = 9 <;> simp [h7, h8, h9]
theorem gW_9 {S : Nat → Int32} {its d : Int32} {w : Bool} {k : Nat} {c : Int32} : gW (upd g 9 c) S its d w k = gW g S its d w k := by
  funext x
  simp only [gW, gF, upd]
  by_cases h8 : x = 8 <;> by_cases h7 : x = 7 <;> by_cases h9 : x = 9 <;> simp [h7, h8, h9]
theorem gW_7 {S : Nat → Int32} {its d : Int32} {w : Bool} {k : Nat} : gW g S its d w k 7 = toI (bstO S its d w k) := gF_7
def fndB (o : Option (Bool × Nat)) : Bool := match o with
  | none => false
  | some _ => true
theorem o_eq_self (a : Int32) : o_eq a a = true := by simp [o_eq]
theorem toI_ne {p : Nat} (h : p < 2 ^ 31) : o_eq (toI (some p)) (-9) = false := by simp [o_eq, toI, nI_ne9 h]
end ZM7
