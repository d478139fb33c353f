/-! the law: isRight answers true -/
section ZR2
variable {h : zH} {b L' t nS nP nO c nt k : Nat} {xs : Nat → Int32} {S TX : Nat → Int32}
theorem c_st {y : Nat} (r : Rw h b L' xs t S nt TX) (iv : Iv S nS nP nO) (ir : IvR S nO c) (hy : y < 4) : fX6_count [.ref t, .int (nI y)] h = some (nI (cntN (inS S (nI y)) nP), h) := by
  rw [← cnt_N, rd_count (y := y) r iv ir (by omega) (by omega)]
  simp [coV, hy]
theorem c_9 (r : Rw h b L' xs t S nt TX) (iv : Iv S nS nP nO) (ir : IvR S nO c) : fX6_count [.ref t, .int 9] h = some (if S 3 = -9 then -9 else S 4, h) := rd_count (y := 9) r iv ir (by omega) (by omega)
theorem c_10 (r : Rw h b L' xs t S nt TX) (iv : Iv S nS nP nO) (ir : IvR S nO c) : fX6_count [.ref t, .int 10] h = some (S 5, h) := rd_count (y := 10) r iv ir (by omega) (by omega)
set_option maxRecDepth 100000 in
set_option maxHeartbeats 1000000 in
theorem L_isRight (r : Rw h b L' xs t S nt TX) (iv : Iv S nS nP nO) (ir : IvR S nO c) (ej : EJ S nS nP nO) : fL_isRight [.ref t] h = some (1, h) := by
  obtain ⟨c0, c1, c2, c3, c4, c5⟩ := iv.1
  have ii := r.top
  have b1 := right_1 r iv ir ej
  have b2 := right_2 (on := nI (onK S nP nS)) (pl := plK S nS) r iv ir ej
  have b3 := right_3 (on := nI (onK S nP nS)) (pl := plK S nS) r iv ir
  have os : onK S nP nS = cntN (inS S 2) nP := on_sum c3 nP (fun p hp0 h2 => ((iv.2.2.1 p hp0).2.2.2 h2).1)
  obtain ⟨p1, p2, p3⟩ := pl_sum c3 ej.2.2.2 nS (Nat.le_refl _)
  have q0 := c_st (y := 0) r iv ir (by omega)
  have q1 := c_st (y := 1) r iv ir (by omega)
  have q2 := c_st (y := 2) r iv ir (by omega)
  have q3 := c_st (y := 3) r iv ir (by omega)
  have q4 := c_4 r iv ir
  have q7 := c_7 r iv ir
  have q8 := c_8 r iv ir
  have q9 := c_9 r iv ir
  have q10 := c_10 r iv ir
  have ss := st_sum nP ej.1
  have at1 := at_cnt iv ej.2.1
  have cle := cntN_le (inS S 2) nP
  have ge : o_ge (plK S nS) (nI (cntN (inS S 2) nP)) = true := by
    simp only [o_ge]
    refine decide_eq_true ?_
    rw [i_le, nI_int (by omega), ← os]
    exact p1
  rw [os] at b1 b2 b3
  simp only [nI_0, show nI 1 = 1 from rfl, show nI 2 = 2 from rfl, show nI 3 = 3 from rfl] at q0 q1 q2 q3
  have sm : nI (cntN (inS S 0) nP) + nI (cntN (inS S 1) nP) + nI (cntN (inS S 2) nP) + nI (cntN (inS S 3) nP) = nI nP := by rw [nI_add, nI_add, nI_add, ss]
  generalize cntN (inS S 0) nP = n0 at *
  generalize cntN (inS S 2) nP = n2 at *
  generalize cntN (inS S 3) nP = n3 at *
  generalize plK S nS = pl at *
  rcases ej.2.1 with ⟨w, -⟩ | ⟨k, p, sd, a, w⟩
  · have s5 : S 5 = -9 := by
      rcases iv.2.1 with ⟨-, h⟩ | ⟨k', p', sd', h3, hk, -⟩
      · exact h
      · exact absurd (h3.symm.trans w) (nI_ne9 (by omega))
    rw [w] at q8
    rw [w, if_pos rfl] at q9
    rw [s5] at q10
    rw [if_pos w] at at1
    rw [at1] at q1 sm
    have z1 : z_ge (-9) = false := rfl
    have z2 : z_gt (-9) = false := rfl
    have z3 : nI 0 = (0 : Int32) := rfl
    rw [z3] at q1 sm
    rw [Int32.add_zero] at sm
    have e0 : bI false = 0 := rfl
    have zz : z_ne (0 : Int32) = false := rfl
    simp [fL_isRight, bL_isRight_eq, mZ, sSeq, sLi, eC, zSt, b1, b2, b3, eB_bI, bZ, eCV, rL, aI, aN, ii, q8, z1, iF, sRi, bAnd, bCmp, eL, q2, o_eq_self, ge, q7, eOp, q0, q1, q3, sm, q4, eT, e0, zz, q9, z2, q10, bI]
  · obtain ⟨a3, ak, a5, ap, -⟩ := a
    obtain ⟨-, -, -, w4, -⟩ := w
    rw [a3] at q8
    rw [a3, if_neg (nI_ne9 (by omega))] at q9
    rw [a5] at q10
    rw [a3, if_neg (nI_ne9 (by omega))] at at1
    rw [at1] at q1 sm
    have z1 : z_ge (nI k) = true := decide_eq_true (nI_nn (by omega))
    have z2 : z_gt (S 4) = true := decide_eq_true (by rw [i_lt, i_0]; exact w4)
    have z4 : z_ge (nI p) = true := decide_eq_true (nI_nn (by omega))
    have z3 : nI 1 = (1 : Int32) := rfl
    rw [z3] at q1 sm
    have e0 : bI true = 1 := rfl
    have zz : z_ne (1 : Int32) = true := rfl
    simp [fL_isRight, bL_isRight_eq, mZ, sSeq, sLi, eC, zSt, b1, b2, b3, eB_bI, bZ, eCV, rL, aI, aN, ii, q8, z1, iF, sRi, bAnd, bCmp, eL, q2, o_eq_self, ge, q7, eOp, q0, q1, q3, sm, q4, eT, e0, zz, q9, z2, q10, z4, bI]
end ZR2
