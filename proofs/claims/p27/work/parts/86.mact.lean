/-! the reference: act, try, hurry -/
def shA (V : Nat → Int32) (n : Nat) : Nat → Int32 := fun x => if x < n then V (x + 343) else V x
theorem shA_s {V : Nat → Int32} {n : Nat} : upd (shA V n) n (V (n + 343)) = shA V (n + 1) := by
  funext x
  simp only [upd, shA]
  by_cases h : x = n
  · rw [if_pos h, if_pos (by omega), h]
  · rw [if_neg h]
    by_cases h2 : x < n
    · rw [if_pos h2, if_pos (by omega)]
    · rw [if_neg h2, if_neg (by omega)]
theorem shA_0 {V : Nat → Int32} : shA V 0 = V := by funext x; simp [shA]
theorem putA_0 {V A : Nat → Int32} {a : Nat} : putA V a A 0 = V := by
  funext x
  simp only [putA]
  rw [if_neg (by omega)]
def acN (n : Nat) : Nat := if n = 5 then 4 else n
def acV (V S : Nat → Int32) (n : Nat) : Nat → Int32 := if n = 5 then putA (shA V 1372) 1372 S 343 else putA V (343 * n) S 343
def tgS (W : Nat → Int32) : Nat → (Nat → Int32)
  | 0 => W
  | n + 1 => upd (tgS W n) (153 + 19 * n + 18) (nI n)
theorem tgS_hd {W : Nat → Int32} {x : Nat} (hx : x < 153) : ∀ n, tgS W n x = W x
  | 0 => rfl
  | n + 1 => by simp only [tgS]; rw [upd_ne (by omega), tgS_hd hx n]
theorem tgS_O {W : Nat → Int32} {j x : Nat} (hx : x < 19) : ∀ n, sO (tgS W n) j x = if x = 18 ∧ j < n then nI j else sO W j x
  | 0 => by simp only [tgS]; rw [if_neg (by omega)]
  | n + 1 => by
    have ih := tgS_O (W := W) (j := j) hx n
    simp only [sO] at ih ⊢
    simp only [tgS, upd]
    by_cases e : x = 18 ∧ j = n
    · rw [if_pos (by omega), if_pos (by omega), e.2]
    · rw [if_neg (by omega), ih]
      by_cases h : x = 18 ∧ j < n
      · rw [if_pos h, if_pos (by omega)]
      · rw [if_neg h, if_neg (by omega)]
section ZMA
variable {h : zH} {m i j n : Nat} {g SV TX AS : Nat → Int32} {R T : Nat → Nat → Int32}
end ZMA
