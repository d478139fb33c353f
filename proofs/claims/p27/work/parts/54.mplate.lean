/-! the reference: findPlate, goesOn, finish, hurryIn -/
section ZM6
variable {h : zH} {m i j n : Nat} {g SV TX AS : Nat → Int32} {R T : Nat → Nat → Int32}
theorem gF_init {a c : Int32} : gF g a (g 8) c = upd (upd g 7 a) 9 c := by
  funext x
  simp only [gF, upd]
  by_cases h8 : x = 8
  · subst h8; simp
  · simp [h8]
theorem gF_7 {a b c : Int32} : gF g a b c 7 = a := by simp [gF, upd]
theorem gF_8 {a b c : Int32} : gF g a b c 8 = b := by simp [gF, upd]
theorem gF_9 {a b c : Int32} : gF g a b c 9 = c := by simp [gF, upd]
theorem gF_set {a b c a' b' : Int32} : upd (upd (gF g a b c) 7 a') 8 b' = gF g a' b' c := by
  funext x
  simp only [gF, upd]
  by_cases h8 : x = 8 <;> by_cases h7 : x = 7 <;> by_cases h9 : x = 9 <;> simp [h7, h8, h9] <;> omega
theorem gF_gF {a b c a' c' : Int32} : upd (upd (gF g a b c) 7 a') 9 c' = gF g a' b c' := by
  funext x
  simp only [gF, upd]
  by_cases h8 : x = 8 <;> by_cases h7 : x = 7 <;> by_cases h9 : x = 9 <;> simp [h7, h8, h9] <;> omega
theorem gF_9s {a b c c' : Int32} : upd (gF g a b c) 9 c' = gF g a b c' := by
  funext x
  simp only [gF, upd]
  by_cases h9 : x = 9 <;> simp [h9]
theorem toI_some (n : Nat) : toI (some n) = nI n := rfl
theorem fsO_some (S : Nat → Int32) (d : Int32) (w : Bool) (p : Nat) (old : Int32) : fsO S d w (some p) old = if mayM S p 0 d w = true then 0 else 1 := rfl
end ZM6
