/-! the law: what an act did -/
section ZE1
variable {h : zH} {b L' t nS nP nO nP' nO' c c' nt : Nat} {xs : Nat → Int32} {S S' TX : Nat → Int32} {v r : Int32}
theorem c_7 (rw0 : Rw h b L' xs t S nt TX) (iv : Iv S nS nP nO) (ir : IvR S nO c) : fX6_count [.ref t, .int 7] h = some (nI c, h) := rd_count (y := 7) rw0 iv ir (by omega) (by omega)
theorem c_8 (rw0 : Rw h b L' xs t S nt TX) (iv : Iv S nS nP nO) (ir : IvR S nO c) : fX6_count [.ref t, .int 8] h = some (S 3, h) := rd_count (y := 8) rw0 iv ir (by omega) (by omega)
theorem c_11 (rw0 : Rw h b L' xs t S nt TX) (iv : Iv S nS nP nO) (ir : IvR S nO c) : fX6_count [.ref t, .int 11] h = some (S 7, h) := rd_count (y := 11) rw0 iv ir (by omega) (by omega)
theorem c_12 (rw0 : Rw h b L' xs t S nt TX) (iv : Iv S nS nP nO) (ir : IvR S nO c) : fX6_count [.ref t, .int 12] h = some (S 8, h) := rd_count (y := 12) rw0 iv ir (by omega) (by omega)
theorem c_15 (rw0 : Rw h b L' xs t S nt TX) (iv : Iv S nS nP nO) (ir : IvR S nO c) : fX6_count [.ref t, .int 15] h = some (nI nt, h) := rd_count (y := 15) rw0 iv ir (by omega) (by omega)
set_option maxRecDepth 100000 in
/-- a refused act has done nothing -/
theorem done_no (rw0 : Rw h b L' xs t S nt TX) (j : J S nP nO c) (hr : r < 0) : fL_isDone [.ref t, .int v, .int r, .int (S 7), .int (nI nO), .int (S 8)] h = some (1, h) := by
  have q11 := c_11 rw0 j.1 j.2.1
  have q12 := c_12 rw0 j.1 j.2.1
  have q6 := c_6 rw0 j.1 j.2.1
  have z : z_lt r = true := decide_eq_true hr
  have ii := rw0.top
  simp [fL_isDone, bL_isDone, mZ, sSeq, sLi, eOp, eL, eC, zSt, sIf, bZ, z, sRi, eB_bI, bAnd, bCmp, eCV, rL, aI, aN, ii, q11, q6, q12, o_eq_self, zCut, bI]
set_option maxRecDepth 100000 in
set_option maxHeartbeats 1000000 in
/-- an act that was not refused has done what it says -/
theorem done_yes (rw0 : Rw h b L' xs t S' nt TX) (j : J S' nP' nO' c') (hr : 0 ≤ r) (dn : Dn v r S S' nO nO' c' nt) : fL_isDone [.ref t, .int v, .int r, .int (S 7), .int (nI nO), .int (S 8)] h = some (1, h) := by
  have q11 := c_11 rw0 j.1 j.2.1
  have q12 := c_12 rw0 j.1 j.2.1
  have q6 := c_6 rw0 j.1 j.2.1
  have q7 := c_7 rw0 j.1 j.2.1
  have q8 := c_8 rw0 j.1 j.2.1
  have q15 := c_15 rw0 j.1 j.2.1
  have ii := rw0.top
  have z : z_lt r = false := by
    simp only [z_lt]
    exact decide_eq_false (fun e => by rw [i_lt] at e; rw [i_le] at hr; omega)
  have hk := kk_lt v
  have ek := kk_eq v
  obtain ⟨d1, d2, d3, d4, d5⟩ := dn
  generalize kk v = k at *
  have g11 : o_gt (nI k) 11 = decide (11 < k) := o_gt_nI (a := k) (b := 11) (by omega) (by omega)
  have g4 : o_gt (nI k) 4 = decide (4 < k) := o_gt_nI (a := k) (b := 4) (by omega) (by omega)
  have eqn : ∀ m : Nat, m < 100 → o_eq (nI k) (nI m) = decide (k = m) := fun m hm => by
    simp only [o_eq, nI_eqI (show k < 2 ^ 31 by omega) (show m < 2 ^ 31 by omega)]
  have e10 := eqn 10 (by omega)
  have e11 := eqn 11 (by omega)
  have e5 := eqn 5 (by omega)
  have e6 := eqn 6 (by omega)
  simp only [show nI 10 = 10 from rfl, show nI 11 = 11 from rfl, show nI 5 = 5 from rfl, show nI 6 = 6 from rfl] at e10 e11 e5 e6
  have ze : z_eq (nI k) = decide (k = 0) := by
    have := eqn 0 (by omega)
    rw [nI_0] at this
    exact this
  rcases (show 12 ≤ k ∨ (k = 10 ∨ k = 11) ∨ k = 5 ∨ k = 6 ∨ (1 ≤ k ∧ k ≤ 4) ∨ (k = 0 ∨ (6 < k ∧ k < 10)) by omega) with e | e | e | e | e | e
  · obtain ⟨f1, f2⟩ := d1 e
    rw [decide_eq_true (by omega)] at g11
    rw [f1] at q11
    rw [f2] at q6
    simp [fL_isDone, bL_isDone, mZ, sSeq, sLi, eOp, eL, eC, ek, zSt, sIf, bZ, z, sNop, zCut, bCmp, g11, sRi, eB_bI, bAnd, eCV, rL, aI, aN, ii, q11, q6, o_eq_self, bI]
  · obtain ⟨f1, f2, f3⟩ := d2 e
    rw [decide_eq_false (by omega)] at g11
    rw [f1] at q12
    rw [f3] at q6
    have zl : z_lt (S' 3) = o_eq r 3 := f2
    have en : (o_eq (nI k) 10 || o_eq (nI k) 11) = true := by
      rw [e10, e11]
      rcases e with rfl | rfl <;> rfl
    cases b10 : o_eq (nI k) 10 with
    | true => simp [fL_isDone, bL_isDone, mZ, sSeq, sLi, eOp, eL, eC, ek, zSt, sIf, bZ, z, sNop, zCut, bCmp, g11, bOr, b10, sRi, eB_bI, bAnd, eCV, rL, aI, aN, ii, q12, q8, q6, o_eq_self, zl, bI]
    | false =>
      have b11 : o_eq (nI k) 11 = true := by rw [b10] at en; simpa using en
      simp [fL_isDone, bL_isDone, mZ, sSeq, sLi, eOp, eL, eC, ek, zSt, sIf, bZ, z, sNop, zCut, bCmp, g11, bOr, b10, b11, sRi, eB_bI, bAnd, eCV, rL, aI, aN, ii, q12, q8, q6, o_eq_self, zl, bI]
  · obtain ⟨i, hi, rfl, f3, rfl⟩ := d3 e
    rw [decide_eq_false (by omega)] at g11 e10 e11
    rw [decide_eq_true e] at e5
    have o4 := rd_orderOf (y := 4) rw0 j.1 hi (by omega)
    rw [show nI 4 = 4 from rfl, show orV S' i 4 = sO S' i 4 from rfl, f3] at o4
    simp [fL_isDone, bL_isDone, mZ, sSeq, sLi, eOp, eL, eC, ek, zSt, sIf, bZ, z, sNop, zCut, bCmp, g11, bOr, e10, e11, e5, sRi, eB_bI, bAnd, eCV, rL, aI, aN, ii, o4, q7, o_eq_self, nI_1, bI]
  · obtain ⟨rfl, f2⟩ := d4 e
    rw [decide_eq_false (by omega)] at g11 e10 e11 e5
    rw [decide_eq_true e] at e6
    have es : nI nO - 1 = nI nO' := by rw [f2, nI_sub1 (by omega), Nat.add_sub_cancel]
    simp [fL_isDone, bL_isDone, mZ, sSeq, sLi, eOp, eL, eC, ek, zSt, sIf, bZ, z, sNop, zCut, bCmp, g11, bOr, e10, e11, e5, e6, sRi, eB_bI, bAnd, eCV, rL, aI, aN, ii, es, q6, o_eq_self, bI]
  · obtain ⟨f1, f2, i, hi, rfl, f5⟩ := d5 e
    rw [decide_eq_false (by omega)] at g11 e10 e11 e5 e6 g4 ze
    rw [f1] at q6
    rw [f2, nI_0] at q15
    have o4 := rd_orderOf (y := 4) rw0 j.1 hi (by omega)
    rw [show nI 4 = 4 from rfl, show orV S' i 4 = sO S' i 4 from rfl, f5] at o4
    have z0 : z_eq 0 = true := rfl
    simp [fL_isDone, bL_isDone, mZ, sSeq, sLi, eOp, eL, eC, ek, zSt, sIf, bZ, z, sNop, zCut, bCmp, g11, bOr, e10, e11, e5, e6, g4, ze, sRi, eB_bI, bAnd, eCV, rL, aI, aN, ii, q6, nI_1, o_eq_self, o4, q15, z0, bI]
  · rw [decide_eq_false (by omega)] at g11 e10 e11 e5 e6
    have en : (z_eq (nI k) || o_gt (nI k) 4) = true := by
      rw [ze, g4]
      rcases e with rfl | e
      · rfl
      · rw [decide_eq_true (show 4 < k by omega), Bool.or_true]
    cases b0 : z_eq (nI k) with
    | true => simp [fL_isDone, bL_isDone, mZ, sSeq, sLi, eOp, eL, eC, ek, zSt, sIf, bZ, z, sNop, zCut, bCmp, g11, bOr, e10, e11, e5, e6, b0, sRi, eB_bI, bI]
    | false =>
      have b4 : o_gt (nI k) 4 = true := by rw [b0] at en; simpa using en
      simp [fL_isDone, bL_isDone, mZ, sSeq, sLi, eOp, eL, eC, ek, zSt, sIf, bZ, z, sNop, zCut, bCmp, g11, bOr, e10, e11, e5, e6, b0, b4, sRi, eB_bI, bI]
end ZE1
