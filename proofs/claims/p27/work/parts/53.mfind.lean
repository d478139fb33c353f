/-! the reference: putIn, fix, findPlate -/
def shUp (S : Nat → Int32) (nO n : Nat) : Nat → Int32 := fun x => if 172 + 19 * nO - n ≤ x ∧ x < 172 + 19 * nO then S (x - 19) else S x
def putA (S : Nat → Int32) (a : Nat) (A : Nat → Int32) (n : Nat) : Nat → Int32 := fun x => if a ≤ x ∧ x < a + n then A (x - a) else S x
def opPut (S A : Nat → Int32) (pl nO : Nat) : Nat → Int32 :=
  upd (upd (putA (shUp S nO (19 * (nO - pl))) (153 + 19 * pl) A 19) 2 (nI (nO + 1))) 3 (S 3 + (if nI pl ≤ S 3 then 1 else 0))
theorem shUp_s {S : Nat → Int32} {nO y : Nat} (hy : y < 19 * nO) : upd (shUp S nO y) (152 + 19 * nO - y + 19) (S (152 + 19 * nO - y)) = shUp S nO (y + 1) := by
  funext x
  simp only [upd, shUp]
  by_cases h1 : x = 152 + 19 * nO - y + 19
  · subst h1
    rw [if_pos rfl, if_pos (by omega)]
    congr 1
  · by_cases h2 : 172 + 19 * nO - y ≤ x ∧ x < 172 + 19 * nO
    · rw [if_neg h1, if_pos h2, if_pos (by omega)]
    · rw [if_neg h1, if_neg h2, if_neg (by omega)]
theorem putA_s {S A : Nat → Int32} {a y : Nat} : upd (putA S a A y) (a + y) (A y) = putA S a A (y + 1) := by
  funext x
  simp only [upd, putA]
  by_cases h1 : x = a + y
  · subst h1
    rw [if_pos rfl, if_pos (by omega), Nat.add_sub_cancel_left]
  · by_cases h2 : a ≤ x ∧ x < a + y
    · rw [if_neg h1, if_pos h2, if_pos (by omega)]
    · rw [if_neg h1, if_neg h2, if_neg (by omega)]
theorem o_ge_nI {a b : Nat} (ha : a < 2 ^ 31) (hb : b < 2 ^ 31) : o_ge (nI a) (nI b) = decide (b ≤ a) := by
  simp [o_ge, nI_leI hb ha]
theorem nI_dec {y : Nat} (hy : 0 < y) : nI y + -1 = nI (y - 1) := by
  rw [show y = (y - 1) + 1 by omega, ← nI_1]
  simp [Int32.add_assoc]
theorem nI_sub1 {y : Nat} (hy : 0 < y) : nI y - 1 = nI (y - 1) := by
  rw [Int32.sub_eq_add_neg]
  exact nI_dec hy
def lastO (P : Nat → Bool) : Nat → Option Nat
  | 0 => none
  | n + 1 => if P n = true then some n else lastO P n
theorem lastM_O (P : Nat → Bool) : ∀ n, lastM P n = toI (lastO P n)
  | 0 => rfl
  | n + 1 => by
    simp only [lastM, lastO]
    split
    · rfl
    · exact lastM_O P n
theorem lastO_lt {P : Nat → Bool} {q : Nat} : ∀ {n}, lastO P n = some q → q < n ∧ P q = true
  | 0, h => by cases h
  | n + 1, h => by
    simp only [lastO] at h
    split at h
    · rename_i hp
      cases h
      exact ⟨by omega, hp⟩
    · obtain ⟨h1, h2⟩ := lastO_lt h
      exact ⟨by omega, h2⟩
def opFix0 (S : Nat → Int32) (p s : Nat) (y : Int32) : Nat → Int32 := upd (upd (upd S (10 + 7 * p + 2) 2) (10 + 7 * p + 5) (nI s)) (10 + 7 * p + 6) y
/-- the plate of the earliest year on a shield -/
def earO (S : Nat → Int32) (s nP : Nat) : Option Nat := lastO (onY S (nI s) (yrM (onS S (nI s)) (fun p => sP S p 6) 1 nP)) nP
def opOut (S : Nat → Int32) (o : Option Nat) : Nat → Int32 := match o with
  | some q => upd S (10 + 7 * q + 2) 0
  | none => S
def opFix (S : Nat → Int32) (p s : Nat) (y : Int32) (nP : Nat) : Nat → Int32 :=
  if opFix0 S p s y (150 + s) < cnt (onS (opFix0 S p s y) (nI s)) nP then opOut (opFix0 S p s y) (earO (opFix0 S p s y) s nP) else opFix0 S p s y
def okM (S : Nat → Int32) (its d : Int32) (w : Bool) (p : Nat) : Bool := decide (sP S p 2 = 0) && decide (its ≤ sP S p 0) && (mayM S p 0 d w || mayM S p 1 d w)
def bstO (S : Nat → Int32) (its d : Int32) (w : Bool) : Nat → Option Nat
  | 0 => none
  | n + 1 => if (okM S its d w n && btM S n (bstO S its d w n)) = true then some n else bstO S its d w n
theorem bstO_lt {S : Nat → Int32} {its d : Int32} {w : Bool} {q : Nat} : ∀ {n}, bstO S its d w n = some q → q < n ∧ okM S its d w q = true
  | 0, h => by cases h
  | n + 1, h => by
    simp only [bstO] at h
    split at h
    · rename_i hp0
      cases h
      simp only [Bool.and_eq_true] at hp0
      exact ⟨by omega, hp0.1⟩
    · obtain ⟨h1, h2⟩ := bstO_lt h
      exact ⟨by omega, h2⟩
def gF (g : Nat → Int32) (a b c : Int32) : Nat → Int32 := upd (upd (upd g 7 a) 8 b) 9 c
def fsO (S : Nat → Int32) (d : Int32) (w : Bool) (o : Option Nat) (old : Int32) : Int32 := match o with
  | none => old
  | some p => if mayM S p 0 d w = true then 0 else 1
def gW (g : Nat → Int32) (S : Nat → Int32) (its d : Int32) (w : Bool) (n : Nat) : Nat → Int32 := gF g (toI (bstO S its d w n)) (fsO S d w (bstO S its d w n) (g 8)) (bI w)
/-- which plate: by way of grinding or not, its number -/
def fnd (S : Nat → Int32) (its d : Int32) (nP : Nat) : Option (Bool × Nat) := match bstO S its d false nP with
  | some p => some (false, p)
  | none => match bstO S its d true nP with
    | some p => some (true, p)
    | none => none
def gFP (g S : Nat → Int32) (its d : Int32) (nP : Nat) : Nat → Int32 := match bstO S its d false nP with
  | some _ => gW g S its d false nP
  | none => gW (gW g S its d false nP) S its d true nP
section ZM5
variable {h : zH} {m i j n : Nat} {g SV TX AS : Nat → Int32} {R T : Nat → Nat → Int32}
end ZM5
