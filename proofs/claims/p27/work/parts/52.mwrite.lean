/-! the reference: its whole heap as one word; writes -/
section ZM4
variable {h : zH} {m i j n : Nat} {g SV TX AS : Nat → Int32} {R T : Nat → Nat → Int32}
theorem pair_ext {a : Nat} {f f' : Nat → Option zX} (hf : ∀ x, f x = f' x) : ((a, f) : zH) = (a, f') := by rw [show f = f' from funext hf]
theorem up_self (i : Nat) (S' : Nat → Int32) : va_up R i S' i = S' := va_up_self _ _ _
theorem up_id : va_up R i (R i) = R := by
  funext x
  by_cases hx : x = i
  · rw [hx, va_up_self]
  · rw [va_up_ne _ _ hx]
/-! operations on a row -/
def opRest (S : Nat → Int32) : Nat → Int32 := upd (upd (upd (upd S 3 (-9)) 4 0) 5 (-9)) 6 0
def opGrind (S : Nat → Int32) (p sd : Nat) : Nat → Int32 :=
  upd (upd (upd S (10 + 7 * p + 1) (sP S p 1 - dP S p sd - 1)) (10 + 7 * p + (3 + sd)) 0) 9 (S 9 + 1)
/-- the order of a row is copied aside; the row closes -/
def shDn (S : Nat → Int32) (a n : Nat) : Nat → Int32 := fun x => if a ≤ x ∧ x < a + n then S (x + 19) else S x
theorem shDn_s {S : Nat → Int32} {a n : Nat} : upd (shDn S a n) (a + n) (S (a + n + 19)) = shDn S a (n + 1) := by
  funext x
  simp only [upd, shDn]
  by_cases h1 : x = a + n
  · subst h1; simp
  · by_cases h2 : a ≤ x ∧ x < a + n
    · rw [if_neg h1, if_pos h2, if_pos (by omega)]
    · rw [if_neg h1, if_neg h2, if_neg (by omega)]
def opTake (S : Nat → Int32) (k nO : Nat) : Nat → Int32 :=
  upd (shDn (upd S 2 (nI (nO - 1))) (153 + 19 * k) (19 * (nO - 1 - k))) 3 (S 3 - (if nI k < S 3 then 1 else 0))
theorem upd_ne {f : Nat → Int32} {a b : Nat} {v : Int32} (hn : b ≠ a) : upd f a v b = f b := if_neg hn
theorem upd_self {f : Nat → Int32} {a : Nat} {v : Int32} : upd f a v a = v := if_pos rfl
end ZM4
