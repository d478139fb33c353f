/-! what the reference's changes reach, and the permutations -/
section ZVE
variable {S A : Nat → Int32} {k nO pl j x p nP : Nat}
theorem opTake_P {q : Nat} (hq : q < 20) (hx : x < 7) : sP (opTake S k nO) q x = sP S q x := by
  simp only [sP]; exact opTake_hd (by omega) (by omega) (by omega)
theorem opTake_O (hk : k < nO) (hj : j < nO - 1) (hx : x < 19) : sO (opTake S k nO) j x = sO S (if j < k then j else j + 1) x := by
  simp only [sO, opTake]
  rw [upd_ne (by omega)]
  simp only [shDn]
  by_cases h : j < k
  · rw [if_neg (by omega), if_pos h, upd_ne (by omega)]
  · rw [if_pos (by omega), if_neg h, upd_ne (by omega)]
    congr 1
    omega
theorem opTake_2 : opTake S k nO 2 = nI (nO - 1) := by
  simp only [opTake]
  rw [upd_ne (by omega)]
  simp only [shDn]
  rw [if_neg (by omega), upd_self]
theorem opTake_3 : opTake S k nO 3 = S 3 - (if nI k < S 3 then 1 else 0) := by
  simp only [opTake]
  rw [upd_self]
theorem opPut_hd (h : x < 153) (h2 : x ≠ 2) (h3 : x ≠ 3) : opPut S A pl nO x = S x := by
  simp only [opPut]
  rw [upd_ne h3, upd_ne h2]
  simp only [putA]
  rw [if_neg (by omega)]
  simp only [shUp]
  by_cases e : 172 + 19 * nO - 19 * (nO - pl) ≤ x ∧ x < 172 + 19 * nO
  · omega
  · rw [if_neg e]
theorem opPut_P {q : Nat} (hq : q < 20) (hx : x < 7) : sP (opPut S A pl nO) q x = sP S q x := by
  simp only [sP]; exact opPut_hd (by omega) (by omega) (by omega)
theorem opPut_O (hp0 : pl ≤ nO) (hj : j ≤ nO) (hx : x < 19) : sO (opPut S A pl nO) j x = if j = pl then A x else sO S (if j < pl then j else j - 1) x := by
  simp only [sO, opPut]
  rw [upd_ne (by omega), upd_ne (by omega)]
  simp only [putA]
  by_cases e : j = pl
  · rw [if_pos e, if_pos (by omega)]
    congr 1
    omega
  · rw [if_neg e, if_neg (by omega)]
    simp only [shUp]
    by_cases h : j < pl
    · rw [if_neg (by omega), if_pos h]
    · rw [if_pos (by omega), if_neg h]
      congr 1
      omega
theorem opPut_2 : opPut S A pl nO 2 = nI (nO + 1) := by
  simp only [opPut]
  rw [upd_ne (by omega), upd_self]
theorem opPut_3 : opPut S A pl nO 3 = S 3 + (if nI pl ≤ S 3 then 1 else 0) := by
  simp only [opPut]
  rw [upd_self]
theorem opFix0_P {s q : Nat} {y : Int32} (hx : x < 7) : sP (opFix0 S p s y) q x = if q = p then (if x = 2 then 2 else if x = 5 then nI s else if x = 6 then y else sP S p x) else sP S q x := by
  simp only [opFix0]
  rw [sP_upd (by omega) hx, sP_upd (by omega) hx, sP_upd (by omega) hx]
  by_cases e : q = p
  · subst e
    by_cases h2 : x = 2
    · subst h2; simp
    · by_cases h5 : x = 5
      · subst h5; simp
      · by_cases h6 : x = 6
        · subst h6; simp
        · simp [h2, h5, h6]
  · simp [e]
theorem opFix0_hd {s : Nat} {y : Int32} (hx : x < 10 ∨ 150 ≤ x) (hp0 : p < 20) : opFix0 S p s y x = S x := by
  simp only [opFix0]
  rw [upd_ne (by omega), upd_ne (by omega), upd_ne (by omega)]
end ZVE
theorem PI_comp {pi s : Nat → Nat} (h : PI pi) (h1 : ∀ k, k < 10 → s k < 10) (h2 : ∀ a b, a < 10 → b < 10 → s a = s b → a = b) : PI (fun k => pi (s k)) :=
  ⟨fun k hk => h.1 _ (h1 k hk), fun a b ha hb e => h2 a b ha hb (h.2 _ _ (h1 a ha) (h1 b hb) e)⟩
def sgR (k nO : Nat) (j : Nat) : Nat := if j = nO - 1 then k else if k ≤ j ∧ j < nO - 1 then j + 1 else j
def sgM (f t : Nat) (j : Nat) : Nat := if j = t then f else if t < j ∧ j ≤ f then j - 1 else j
theorem rmC_sg {pi : Nat → Nat} {k nO : Nat} (hk : k < nO) : rmC pi k nO = fun j => pi (sgR k nO j) := by
  funext j
  simp only [rmC, rmP, va_up, sgR]
  by_cases h1 : j = nO - 1
  · rw [if_pos h1, if_pos h1]
  · rw [if_neg h1, if_neg h1]
    by_cases h2 : k ≤ j ∧ j < nO - 1
    · rw [if_pos h2, if_pos (by omega)]
    · rw [if_neg h2, if_neg (by omega)]
theorem mvC_sg {pi : Nat → Nat} {f t : Nat} (ht : t ≤ f) : mvC pi f t = fun j => pi (sgM f t j) := by
  funext j
  simp only [mvC, mvP, va_up, sgM]
  by_cases h1 : j = t
  · rw [if_pos h1, if_pos h1]
  · rw [if_neg h1, if_neg h1]
    by_cases h2 : t < j ∧ j ≤ f
    · rw [if_pos h2, if_pos (by omega)]
    · rw [if_neg h2, if_neg (by omega)]
theorem PI_rm {pi : Nat → Nat} {k nO : Nat} (h : PI pi) (hk : k < nO) (hO : nO ≤ 10) : PI (rmC pi k nO) := by
  rw [rmC_sg hk]
  exact PI_comp h (fun j hj => by simp only [sgR]; (repeat' split) <;> omega) (fun a b ha hb e => by simp only [sgR] at e; (repeat' split at e) <;> omega)
theorem PI_mv {pi : Nat → Nat} {f t : Nat} (h : PI pi) (ht : t ≤ f) (hf : f < 10) : PI (mvC pi f t) := by
  rw [mvC_sg ht]
  exact PI_comp h (fun j hj => by simp only [sgM]; (repeat' split) <;> omega) (fun a b ha hb e => by simp only [sgM] at e; (repeat' split at e) <;> omega)
theorem rmC_at {pi : Nat → Nat} {k nO j : Nat} (hk : k < nO) (hj : j < nO - 1) : rmC pi k nO j = pi (if j < k then j else j + 1) := by
  rw [rmC_sg hk]
  simp only [sgR]
  congr 1
  (repeat' split) <;> omega
theorem mvC_at {pi : Nat → Nat} {f t j : Nat} (ht : t ≤ f) (hj : j ≤ f) : mvC pi f t j = if j = t then pi f else pi (if j < t then j else j - 1) := by
  rw [mvC_sg ht]
  simp only [sgM]
  by_cases e : j = t
  · rw [if_pos e, if_pos e]
  · rw [if_neg e, if_neg e]
    congr 1
    (repeat' split) <;> omega
