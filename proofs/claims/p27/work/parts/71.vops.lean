/-! the view is kept -/
theorem nI_eqI {a b : Nat} (ha : a < 2 ^ 31) (hb : b < 2 ^ 31) : nI a = nI b ↔ a = b := by
  constructor
  · intro h
    have h1 := (nI_leI ha hb).mp (by rw [h]; exact Int32.le_refl _)
    have h2 := (nI_leI hb ha).mp (by rw [h]; exact Int32.le_refl _)
    omega
  · intro h; rw [h]
theorem nI_gt9 {a : Nat} (ha : a < 2 ^ 31) : (-9 : Int32) < nI a := by
  have h : (0 : Int32) ≤ nI a := by rw [← nI_0]; exact (nI_leI (by omega) ha).mpr (Nat.zero_le _)
  rw [i_lt]
  have := i_le.mp h
  simp only [show (0 : Int32).toInt = 0 from rfl, show (-9 : Int32).toInt = -9 from rfl] at *
  omega
theorem nI_nlt9 {a : Nat} (ha : a < 2 ^ 31) : ¬ nI a < -9 := by
  have := i_lt.mp (nI_gt9 ha)
  rw [i_lt]
  omega
theorem nI_nle9 {a : Nat} (ha : a < 2 ^ 31) : ¬ nI a ≤ -9 := by
  have := i_lt.mp (nI_gt9 ha)
  rw [i_le]
  omega
section ZVO
variable {S S' s pf N A : Nat → Int32} {P O L : Nat → Nat → Int32} {pi : Nat → Nat} {nP nO nS p k pl : Nat}
theorem VPs_up {g' : Nat → Int32} (v : VPs P S nP) (hn : nP ≤ 20) (h : ∀ q x, q ≠ p → q < 20 → x < 7 → sP S' q x = sP S q x) (vp : VP g' S' p) : VPs (va_up P p g') S' nP := fun q hq => by
  by_cases e : q = p
  · subst e; rw [va_up_self]; exact vp
  · rw [va_up_ne _ _ e]
    exact VP_eq (fun x hx => h q x e (by omega) hx) (v q hq)
theorem VOs_take (v : VOs pi O N L S nO) (hk : k < nO) (hl : ∀ j, j < nO → nk S j ≤ 12) (h : ∀ j x, sO S' j x = sO (opTake S k nO) j x) : VOs (rmC pi k nO) O N L S' (nO - 1) := fun j hj => by
  rw [rmC_at hk hj]
  have hi : (if j < k then j else j + 1) < nO := by split <;> omega
  exact VO_eq (fun x hx => by rw [h, opTake_O hk hj (by omega)]) (v _ hi) (hl _ hi)
theorem VTg_take (v : VTg pi O S nO) (hk : k < nO) (h : ∀ j x, sO S' j x = sO (opTake S k nO) j x) : VTg (rmC pi k nO) O S' (nO - 1) := fun j hj => by
  rw [rmC_at hk hj, h, opTake_O hk hj (by omega)]
  exact v _ (by split <;> omega)
/-- an order as it is put in -/
def VA (o : Nat → Int32) (c : Int32) (l : Nat → Int32) (A : Nat → Int32) : Prop := o 0 = A 0 ∧ o 1 = A 1 ∧ o 2 = A 2 ∧ o 3 = A 3 ∧ o 4 = A 4 ∧ c = A 5 ∧ ∀ x, x < (A 5).toNatClampNeg → l x = A (6 + x)
theorem VO_A {o l : Nat → Int32} {c : Int32} {j : Nat} (v : VA o c l A) (h : ∀ x, x < 18 → sO S' j x = A x) (hn : (A 5).toNatClampNeg ≤ 12) : VO o c l S' j := by
  obtain ⟨a, b, c, d, e, f, g⟩ := v
  refine ⟨by rw [h 0 (by omega)]; exact a, by rw [h 1 (by omega)]; exact b, by rw [h 2 (by omega)]; exact c, by rw [h 3 (by omega)]; exact d, by rw [h 4 (by omega)]; exact e, by rw [h 5 (by omega)]; exact f, fun x hx => ?_⟩
  simp only [nk, h 5 (by omega)] at hx
  rw [h (6 + x) (by omega)]
  exact g x hx
theorem VOs_put (v : VOs pi O N L S nO) (hp0 : pl ≤ nO) (hl : ∀ j, j < nO → nk S j ≤ 12) (va : VA (O (pi nO)) (N (pi nO)) (L (pi nO)) A) (ha : (A 5).toNatClampNeg ≤ 12) (h : ∀ j x, sO S' j x = sO (opPut S A pl nO) j x) : VOs (mvC pi nO pl) O N L S' (nO + 1) := fun j hj => by
  rw [mvC_at hp0 (by omega)]
  by_cases e : j = pl
  · rw [if_pos e]
    exact VO_A va (fun x hx => by rw [h, opPut_O hp0 (by omega) (by omega), if_pos e]) ha
  · rw [if_neg e]
    have hi : (if j < pl then j else j - 1) < nO := by split <;> omega
    exact VO_eq (fun x hx => by rw [h, opPut_O hp0 (by omega) (by omega), if_neg e]) (v _ hi) (hl _ hi)
/-- an order that is moved ahead: taken out at k, put in at pl -/
theorem opMv_O {j x : Nat} (hk : k < nO) (hp0 : pl ≤ k) (hj : j < nO) (hx : x < 19) : sO (opPut (opTake S k nO) A pl (nO - 1)) j x = if j = pl then A x else sO S (if pl < j ∧ j ≤ k then j - 1 else j) x := by
  rw [opPut_O (by omega) (by omega) hx]
  by_cases e : j = pl
  · rw [if_pos e, if_pos e]
  · rw [if_neg e, if_neg e]
    have hi : (if j < pl then j else j - 1) < nO - 1 := by split <;> omega
    rw [opTake_O hk hi hx]
    congr 1
    (repeat' split) <;> omega
theorem VOs_mv {O' : Nat → Nat → Int32} (hpi : PI pi) (v : VOs pi O N L S nO) (hk : k < nO) (hO : nO ≤ 10) (hp0 : pl ≤ k) (hl : ∀ j, j < nO → nk S j ≤ 12) (ho : ∀ i, i ≠ pi k → O' i = O i) (va : VA (O' (pi k)) (N (pi k)) (L (pi k)) A) (ha : (A 5).toNatClampNeg ≤ 12) (h : ∀ j x, sO S' j x = sO (opPut (opTake S k nO) A pl (nO - 1)) j x) : VOs (mvC pi k pl) O' N L S' nO := fun j hj => by
  by_cases hjk : j ≤ k
  · rw [mvC_at hp0 hjk]
    by_cases e : j = pl
    · rw [if_pos e]
      exact VO_A va (fun x hx => by rw [h, opMv_O hk hp0 hj (by omega), if_pos e]) ha
    · rw [if_neg e]
      have hi : (if j < pl then j else j - 1) < nO := by split <;> omega
      have hne : (if j < pl then j else j - 1) ≠ k := by split <;> omega
      rw [ho _ (fun q => hne (hpi.2 _ _ (by omega) (by omega) q))]
      refine VO_eq (fun x hx => ?_) (v _ hi) (hl _ hi)
      rw [h, opMv_O hk hp0 hj (by omega), if_neg e]
      congr 1
      (repeat' split) <;> omega
  · have e0 : mvC pi k pl j = pi j := by
      rw [mvC_sg hp0]
      simp only [sgM]
      rw [if_neg (by omega), if_neg (by omega)]
    rw [e0, ho _ (fun q => by have := hpi.2 _ _ (by omega) (by omega) q; omega)]
    refine VO_eq (fun x hx => ?_) (v j hj) (hl j hj)
    rw [h, opMv_O hk hp0 hj (by omega), if_neg (by omega), if_neg (by omega)]
theorem VTg_mv {O' : Nat → Nat → Int32} (hpi : PI pi) (v : VTg pi O S nO) (hk : k < nO) (hO : nO ≤ 10) (hp0 : pl ≤ k) (ho : ∀ i, O' i 5 = O i 5) (ha : A 18 = sO S k 18) (h : ∀ j x, sO S' j x = sO (opPut (opTake S k nO) A pl (nO - 1)) j x) : VTg (mvC pi k pl) O' S' nO := fun j hj => by
  rw [ho, h, opMv_O hk hp0 hj (by omega)]
  by_cases hjk : j ≤ k
  · rw [mvC_at hp0 hjk]
    by_cases e : j = pl
    · rw [if_pos e, if_pos e, ha]
      exact v k hk
    · rw [if_neg e, if_neg e, v _ (by split <;> omega)]
      congr 1
      (repeat' split) <;> omega
  · rw [mvC_sg hp0]
    simp only [sgM]
    rw [if_neg (by omega), if_neg (by omega), if_neg (by omega)]
    exact v j hj
end ZVO
/-! the numbers of the order at work -/
theorem mvA_9 {f t : Nat} (hf : f < 2 ^ 31) (ht : t ≤ f) : mvA (-9) f t = -9 := by
  simp only [mvA]
  rw [if_neg (Ne.symm (nI_ne9 hf)), if_neg (fun h => nI_nle9 (by omega) h.1)]
theorem mvA_nI {a f t : Nat} (hf : f < 100) (ht : t ≤ f) (ha : a < 100) : mvA (nI a) f t = nI (if a = f then t else if t ≤ a ∧ a < f then a + 1 else a) := by
  simp only [mvA, nI_eqI (show a < 2 ^ 31 by omega) (show f < 2 ^ 31 by omega), nI_leI (show t < 2 ^ 31 by omega) (show a < 2 ^ 31 by omega), nI_ltI (show a < 2 ^ 31 by omega) (show f < 2 ^ 31 by omega), nI_1]
  (repeat' split) <;> rfl
theorem mvA_put {v : Int32} {nO pl : Nat} (hO : nO ≤ 10) (hp0 : pl ≤ nO) (hv : v = -9 ∨ ∃ a, a < nO ∧ v = nI a) : mvA v nO pl = v + (if nI pl ≤ v then 1 else 0) := by
  rcases hv with rfl | ⟨a, ha, rfl⟩
  · rw [mvA_9 (by omega) hp0, if_neg (nI_nle9 (by omega))]
    decide
  · rw [mvA_nI (by omega) hp0 (by omega), if_neg (by omega)]
    simp only [nI_leI (show pl < 2 ^ 31 by omega) (show a < 2 ^ 31 by omega)]
    by_cases h : pl ≤ a
    · rw [if_pos (by omega), if_pos h, nI_1]
    · rw [if_neg (by omega), if_neg h, Int32.add_zero]
theorem rmA_eq {v : Int32} {k : Nat} : (if nI k < v then v - 1 else v) = v - (if nI k < v then 1 else 0) := by
  split
  · rfl
  · rw [Int32.sub_zero]
theorem mvA_mv {v : Int32} {k pl nO : Nat} (hk : k < nO) (hO : nO ≤ 10) (hp0 : pl ≤ k) (hv : v = -9 ∨ ∃ a, a < nO ∧ v = nI a) (hne : v ≠ nI k) :
    mvA v k pl = (v - (if nI k < v then 1 else 0)) + (if nI pl ≤ v - (if nI k < v then 1 else 0) then 1 else 0) := by
  rcases hv with rfl | ⟨a, ha, rfl⟩
  · rw [mvA_9 (by omega) hp0, if_neg (nI_nlt9 (by omega)), Int32.sub_zero, if_neg (nI_nle9 (by omega)), Int32.add_zero]
  · have hak : a ≠ k := fun e => hne (by rw [e])
    rw [mvA_nI (by omega) hp0 (by omega), if_neg hak]
    simp only [nI_ltI (show k < 2 ^ 31 by omega) (show a < 2 ^ 31 by omega)]
    by_cases h : k < a
    · rw [if_pos h, nI_sub1 (by omega)]
      rw [if_neg (by omega), if_pos ((nI_leI (by omega) (by omega)).mpr (by omega)), nI_1]
      congr 1
      omega
    · rw [if_neg h, Int32.sub_zero]
      by_cases h2 : pl ≤ a
      · rw [if_pos (by omega), if_pos ((nI_leI (by omega) (by omega)).mpr h2), nI_1]
      · rw [if_neg (by omega), if_neg (fun q => h2 ((nI_leI (by omega) (by omega)).mp q)), Int32.add_zero]
