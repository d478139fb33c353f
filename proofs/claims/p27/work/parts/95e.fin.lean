/-! it is kept: an order is finished; work -/
section ZI4
variable {S S' A : Nat → Int32} {nS nP nO nO' c k p sd sh : Nat} {y : Int32}
theorem cnt_int {B : Nat → Bool} {n : Nat} (hn : n ≤ 100) : (cnt B n).toInt = (cntN B n : Int) := by
  rw [cnt_N, nI_int (by have := cntN_le B n; omega)]
/-- what a finishing leaves -/
theorem fin_all (iv : Iv S nS nP nO) (e : EJ S nS nP nO) (a : AtW S nP nO k p sd) (hsh : sO S k 0 = nI sh) (hs3 : sh < nS) :
    (EP (finR S nP nO) nP ∧ (finR S nP nO 3 = -9 ∧ ∀ q, q < nP → sP (finR S nP nO) q 2 ≠ 1) ∧ ES (finR S nP nO) nS nP) ∧
    (∀ j, j < 3 → finR S nP nO (150 + j) = S (150 + j)) ∧
    ((sP (finR S nP nO) p 2 = 2 ∧ sP (finR S nP nO) p 5 = nI sh ∧ sP (finR S nP nO) p 6 = sO S k 1 ∧ dP (finR S nP nO) p sd = sO S k 3) ∨ (S (150 + sh)).toInt ≤ (cntN (onS (finR S nP nO) (nI sh)) nP : Int)) := by
  obtain ⟨b1, b2, b3, b4⟩ := EW_at iv e.2.1 a
  rw [finR_eq iv a hsh hs3]
  obtain ⟨a3, ak, a5, ap, a6, asd, a2⟩ := a
  obtain ⟨eP, eW, eO, eS⟩ := e
  obtain ⟨c0, c1, c2, c3, c4, c5⟩ := iv.1
  obtain ⟨-, y1, -, d0, -⟩ := iv.2.2.2.1 k ak
  obtain ⟨y12, -, -, d1, d5⟩ := eO k ak
  obtain ⟨n3, n4, n5, n6⟩ := pl_num iv.2.2.1 (eP p ap) ap (by rw [a2]; decide)
  generalize hd : sO S k 3 = d at *
  generalize hy : sO S k 1 = y at *
  -- the plate is engraved and fixed
  generalize hF : opFix0 (upd S (10 + 7 * p + (3 + sd)) d) p sh y = F
  have F0 : ∀ q x, x < 7 → sP (upd S (10 + 7 * p + (3 + sd)) d) q x = if q = p ∧ x = 3 + sd then d else sP S q x := fun q x hx => sP_upd (by omega) hx
  have Fo : ∀ q x, q ≠ p → x < 7 → sP F q x = sP S q x := fun q x hq hx => by rw [← hF, opFix0_P hx, if_neg hq, F0 q x hx, if_neg (by omega)]
  have Fp : ∀ x, x < 7 → sP F p x = if x = 2 then 2 else if x = 5 then nI sh else if x = 6 then y else if x = 3 + sd then d else sP S p x := fun x hx => by
    rw [← hF, opFix0_P hx, if_pos rfl, F0 p x hx]
    simp
  have Fh : ∀ x, (x < 10 ∨ 150 ≤ x) → F x = S x := fun x hx => by rw [← hF, opFix0_hd hx (by omega), upd_ne (by omega)]
  have Fon : ∀ j, j < nS → ∀ q, q ≠ p → onS F (nI j) q = onS S (nI j) q := fun j hj q hq => by simp only [onS, Fo q 2 hq (by omega), Fo q 5 hq (by omega)]
  have Fonp : ∀ j, j < nS → onS F (nI j) p = decide (sh = j) := fun j hj => by
    simp only [onS, Fp 2 (by omega), Fp 5 (by omega)]
    simp [nI_eqI (show sh < 2 ^ 31 by omega) (show j < 2 ^ 31 by omega)]
  have Son : ∀ j, onS S (nI j) p = false := fun j => by simp [onS, a2]
  have C1 : cntN (onS F (nI sh)) nP = cntN (onS S (nI sh)) nP + 1 := cntN_one nP ap (by rw [Fonp sh hs3]; simp) (Son sh) (fun q hq hqp => Fon sh hs3 q hqp)
  have C2 : ∀ j, j < nS → j ≠ sh → cntN (onS F (nI j)) nP = cntN (onS S (nI j)) nP := fun j hj hne => cntN_congr nP (fun q hq => by
    by_cases e : q = p
    · rw [e, Fonp j hj, Son]; exact decide_eq_false (fun z => hne z.symm)
    · exact Fon j hj q e)
  -- what stands on the shields in the end
  have G : ∃ G : Nat → Int32, opFix (upd S (10 + 7 * p + (3 + sd)) d) p sh y nP = G ∧ (∀ q x, q < 20 → x < 7 → x ≠ 2 → sP G q x = sP F q x) ∧ (∀ q, q < 20 → sP G q 2 = sP F q 2 ∨ (sP G q 2 = 0 ∧ sP F q 2 = 2)) ∧ (∀ x, (x < 10 ∨ 150 ≤ x) → G x = S x) ∧ (cntN (onS G (nI sh)) nP : Int) ≤ (S (150 + sh)).toInt ∧ (sP G p 2 = 2 ∨ (S (150 + sh)).toInt ≤ (cntN (onS G (nI sh)) nP : Int)) := by
    obtain ⟨s1, s2, s3⟩ := eS sh hs3
    have cc : (S (150 + sh) < cnt (onS F (nI sh)) nP) ↔ (S (150 + sh)).toInt < (cntN (onS F (nI sh)) nP : Int) := by rw [i_lt, cnt_int (by omega)]
    by_cases full : S (150 + sh) < cnt (onS F (nI sh)) nP
    · obtain ⟨q0, hq0⟩ := fix_has (d := d) iv ak ap asd hsh hs3 hy
      rw [hF] at hq0
      obtain ⟨ql, qb⟩ := lastO_lt hq0
      have qon : onS F (nI sh) q0 = true := by
        simp only [onY, Bool.and_eq_true] at qb
        exact qb.1
      have eG : opFix (upd S (10 + 7 * p + (3 + sd)) d) p sh y nP = upd F (10 + 7 * q0 + 2) 0 := by
        simp only [opFix]
        rw [hF, if_pos (by rw [Fh _ (by omega)]; exact full), hq0]
        rfl
      have gP : ∀ q x, x < 7 → sP (upd F (10 + 7 * q0 + 2) 0) q x = if q = q0 ∧ x = 2 then 0 else sP F q x := fun q x hx => sP_upd (by omega) hx
      have C3 : cntN (onS F (nI sh)) nP = cntN (onS (upd F (10 + 7 * q0 + 2) 0) (nI sh)) nP + 1 := cntN_one nP ql qon (by simp [onS, gP q0 2 (by omega)]) (fun q hq hne => by simp only [onS, gP q 2 (by omega), gP q 5 (by omega)]; rw [if_neg (by omega), if_neg (by omega)])
      refine ⟨_, eG, fun q x hq hx h2 => by rw [gP q x hx, if_neg (by omega)], fun q hq => ?_, fun x hx => by rw [upd_ne (by omega), Fh x hx], by omega, ?_⟩
      · rw [gP q 2 (by omega)]
        by_cases e : q = q0
        · rw [if_pos ⟨e, rfl⟩, e]; exact .inr ⟨rfl, (onS_iff.mp qon).1⟩
        · rw [if_neg (by omega)]; exact .inl rfl
      · have := cc.mp full
        right
        omega
    · have eG : opFix (upd S (10 + 7 * p + (3 + sd)) d) p sh y nP = F := by
        simp only [opFix]
        rw [hF, if_neg (by rw [Fh _ (by omega)]; exact full)]
      have nl : ¬ (S (150 + sh)).toInt < (cntN (onS F (nI sh)) nP : Int) := fun h => full (cc.mpr h)
      exact ⟨F, eG, fun _ _ _ _ _ => rfl, fun _ _ => .inl rfl, Fh, by omega, .inl (by rw [Fp 2 (by omega)]; rfl)⟩
  obtain ⟨G, eG, g1, g2, g3, g4, g5⟩ := G
  have hP : ∀ q x, q < 20 → x < 7 → sP (opFin S k p sd sh y nP nO) q x = sP G q x := fun q x hq hx => by
    simp only [sP, opFin]
    rw [hd, eG, upd_ne (by omega), opTake_hd (by omega) (by omega) (by omega), opRest_ge (by omega)]
  have hl : ∀ j, j < 3 → opFin S k p sd sh y nP nO (150 + j) = S (150 + j) := fun j hj => by
    simp only [opFin]
    rw [hd, eG, upd_ne (by omega), opTake_hd (by omega) (by omega) (by omega), opRest_ge (by omega), g3 _ (by omega)]
  have h3 : opFin S k p sd sh y nP nO 3 = -9 := by
    simp only [opFin]
    rw [upd_ne (by omega), opTake_3, opRest_at, if_pos (by omega), if_neg (nI_nlt9 (by omega)), Int32.sub_zero]
  have hon : ∀ j, cntN (onS (opFin S k p sd sh y nP nO) (nI j)) nP = cntN (onS G (nI j)) nP := fun j => cntN_congr nP (fun q hq => by simp only [onS, hP q 2 (by omega) (by omega), hP q 5 (by omega) (by omega)])
  have p2 : sP G p 2 = 2 ∨ sP G p 2 = 0 := by
    rcases g2 p (by omega) with z | ⟨z, -⟩
    · rw [z, Fp 2 (by omega)]; exact .inl rfl
    · exact .inr z
  refine ⟨⟨fun q hq => ?_, ⟨h3, fun q hq => ?_⟩, fun j hj => ?_⟩, hl, ?_⟩
  · have h := fun x hx => hP q x (by omega) hx
    simp only [EPl]
    rw [h 2 (by omega), h 3 (by omega), h 4 (by omega), h 1 (by omega), h 6 (by omega), g1 q 3 (by omega) (by omega) (by omega), g1 q 4 (by omega) (by omega) (by omega), g1 q 1 (by omega) (by omega) (by omega), g1 q 6 (by omega) (by omega) (by omega)]
    by_cases e : q = p
    · subst e
      refine ⟨by rcases p2 with z | z <;> rw [z] <;> simp, fun _ => ?_, fun _ => ?_⟩
      · rw [Fp 3 (by omega), Fp 4 (by omega), Fp 1 (by omega)]
        rcases (show sd = 0 ∨ sd = 1 by omega) with rfl | rfl
        · have b3' : 2 + (sP S q 4).toInt + d.toInt ≤ (sP S q 1).toInt := b3
          simp only [show (3 : Nat) ≠ 2 by omega, show (3 : Nat) ≠ 5 by omega, show (3 : Nat) ≠ 6 by omega, show (4 : Nat) ≠ 2 by omega, show (4 : Nat) ≠ 5 by omega, show (4 : Nat) ≠ 6 by omega, show (1 : Nat) ≠ 2 by omega, show (1 : Nat) ≠ 5 by omega, show (1 : Nat) ≠ 6 by omega, Nat.add_zero, show (4 : Nat) ≠ 3 by omega, show (1 : Nat) ≠ 3 by omega, if_true, if_false]
          omega
        · have b3' : 2 + (sP S q 3).toInt + d.toInt ≤ (sP S q 1).toInt := b3
          simp only [show (3 : Nat) ≠ 2 by omega, show (3 : Nat) ≠ 5 by omega, show (3 : Nat) ≠ 6 by omega, show (4 : Nat) ≠ 2 by omega, show (4 : Nat) ≠ 5 by omega, show (4 : Nat) ≠ 6 by omega, show (1 : Nat) ≠ 2 by omega, show (1 : Nat) ≠ 5 by omega, show (1 : Nat) ≠ 6 by omega, show (3 : Nat) + 1 = 4 from rfl, show (3 : Nat) ≠ 4 by omega, show (1 : Nat) ≠ 4 by omega, if_true, if_false]
          omega
      · rw [Fp 6 (by omega)]
        simpa using y12
    · rw [Fo q 3 e (by omega), Fo q 4 e (by omega), Fo q 1 e (by omega), Fo q 6 e (by omega)]
      obtain ⟨q1, q2, q3⟩ := eP q hq
      have z := g2 q (by omega)
      rw [Fo q 2 e (by omega)] at z
      rcases z with z | ⟨z, z2⟩
      · rw [z]; exact ⟨q1, q2, q3⟩
      · rw [z]
        exact ⟨.inl rfl, fun _ => q2 (by rw [z2]; decide), fun h => absurd h (by decide)⟩
  · rw [hP q 2 (by omega) (by omega)]
    by_cases e : q = p
    · rw [e]; rcases p2 with z | z <;> rw [z] <;> decide
    · rcases g2 q (by omega) with z | ⟨z, -⟩
      · rw [z, Fo q 2 e (by omega)]
        exact fun h => e (b1 q hq h)
      · rw [z]; decide
  · obtain ⟨s1, s2, s3⟩ := eS j hj
    rw [hl j (by omega), hon j]
    refine ⟨s1, s2, ?_⟩
    by_cases e : j = sh
    · rw [e]; exact g4
    · have : cntN (onS G (nI j)) nP ≤ cntN (onS F (nI j)) nP := cntN_le' nP (fun q hq h => by
        rw [onS_iff] at h ⊢
        refine ⟨?_, by rw [← g1 q 5 (by omega) (by omega) (by omega)]; exact h.2⟩
        rcases g2 q (by omega) with z | ⟨z, -⟩
        · rw [← z]; exact h.1
        · rw [z] at h; exact absurd h.1 (by decide))
      rw [C2 j hj e] at this
      omega
  · rw [hon]
    rcases g5 with z | z
    · refine .inl ⟨by rw [hP p 2 (by omega) (by omega)]; exact z, ?_, ?_, ?_⟩
      · rw [hP p 5 (by omega) (by omega), g1 p 5 (by omega) (by omega) (by omega), Fp 5 (by omega)]; rfl
      · rw [hP p 6 (by omega) (by omega), g1 p 6 (by omega) (by omega) (by omega), Fp 6 (by omega)]; rfl
      · simp only [dP]
        rw [hP p _ (by omega) (by omega), g1 p _ (by omega) (by omega) (by omega), Fp _ (by omega), if_neg (by omega), if_neg (by omega), if_neg (by omega), if_pos rfl]
    · exact .inr z
end ZI4
