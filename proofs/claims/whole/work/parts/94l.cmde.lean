/-! the commands that read: largestSize -/
section ZCF
variable {h : zH} {b L' t nS nP nO c nh nt : Nat} {xs : Nat → Int32} {s pf N g SV TX AS : Nat → Int32} {P O L R T : Nat → Nat → Int32} {pi : Nat → Nat}
set_option maxRecDepth 100000 in
set_option maxHeartbeats 1000000 in
theorem cmd_largestSize (v : Int32) : Cmd fX6_largestSize fX7_largestSize [.int v] := by
  intro h b L' xs t rl
  obtain ⟨g, R, SV, TX, T, AS, nh, nt, top, ⟨s, P, pf, pi, O, N, L, nS, nP, nO, c, at1, vw, iv, ir⟩, his, txt, fcs, md, g4, g6⟩ := rl
  have c4 := iv.1.2.2.2.2.1
  have nt12 := txt.1
  obtain ⟨q, q1, q2, q3⟩ := pl_both (R := R) at1 vw iv v
  have r6 := fun hm : zH => rMo6 (h := hm) (m := t + 387) (g := upd g 0 0) (R := R) (SV := SV) (TX := TX) (T := T) (AS := AS)
  simp only [upd_ne (show 6 ≠ 0 by omega), g6] at r6
  cases q with
  | false =>
    refine close0 (v := -1) (g' := upd g 0 0) top at1 vw iv ir his txt fcs md g4 g6 ?_ (fun hm => ?_) (by simp [upd]) (by simp [upd])
    · simp [fX6_largestSize, bX6_largestSize, mI, sSeq, sIf, bNot, bZ, eCV, rF, rL, tp0 top, aI, eL, aN, aIs at1, q1, z_ne_bI, eC, zCut, sRi]
    · simp [fX7_largestSize, bX7_largestSize, mI, sSeq, sF, rL, eC, wMo0, sIf, bNot, bZ, eCV, aI, eL, aN, isMo, q2, z_ne_bI, zCut, sRi]
  | true =>
  obtain ⟨k, hk, rfl⟩ := q3 rfl
  cases ze : z_eq (nI nt) with
  | true =>
    refine close0 (v := -2) (g' := upd g 0 0) top at1 vw iv ir his txt fcs md g4 g6 ?_ (fun hm => ?_) (by simp [upd]) (by simp [upd])
    · simp [fX6_largestSize, bX6_largestSize, mI, sSeq, sIf, bNot, bZ, eCV, rF, rL, tp0 top, aI, eL, aN, aIs at1, q1, z_ne_bI, sNop, zCut, eF, tp2 top, tx_1 txt, ze, eC, sRi]
    · simp [fX7_largestSize, bX7_largestSize, mI, sSeq, sF, rL, eC, wMo0, sIf, bNot, bZ, eCV, aI, eL, aN, isMo, q2, z_ne_bI, sNop, zCut, eF, r6, ze, sRi]
  | false =>
  have lb := fun z : Int32 => tl_both (R := R) (SV := SV) (T := T) (AS := AS) txt g6 z
  have l1 := fun z => (lb z).1
  have l2 := fun (z : Int32) (hm : zH) => (lb z).2 hm (upd g 0 0) (by simp [upd])
  have x0 := aPl at1 (p := k) (x := 0) (by omega) (by omega)
  rw [(vw.2.2.1 k hk).1] at x0
  have o0 := fun hm : zH => ofP0 (h := hM hm (t + 387) (upd g 0 0) R SV TX T AS) hM_1 (p := k) (by omega)
  generalize hF : (fun y => decide (nLen TX nt (nI (4 - y)) ≤ sP (R 1) k 0)) = F
  have Fy : ∀ y, decide (nLen TX nt (nI (4 - y)) ≤ sP (R 1) k 0) = F y := fun y => by rw [← hF]
  have Le : ∀ y, o_le (nLen TX nt (nI (4 - y))) (sP (R 1) k 0) = F y := fun y => Fy y
  have Gt : ∀ y, o_gt (nLen TX nt (nI (4 - y))) (sP (R 1) k 0) = !F y := fun y => by
    rw [← Fy y]
    simp only [o_gt]
    rw [← decide_not]
    exact decide_eq_decide.mpr (by rw [i_le, i_lt]; omega)
  have cd : ∀ y, y ≤ 4 → bCmp o_ge (eL 2) (eC 1) [.ref t, .int (nI k), .int (nI (4 - y))] h = some (decide (y < 4), h) := fun y hy => by
    have : o_ge (nI (4 - y)) 1 = decide (y < 4) := by
      simp only [o_ge, show (1 : Int32) = nI 1 from rfl, nI_leI (show 1 < 2 ^ 31 by omega) (show 4 - y < 2 ^ 31 by omega)]
      exact decide_eq_decide.mpr (by omega)
    simp [bCmp, eL, eC, this]
  have dn : ∀ y, y < 4 → nI (4 - y) + -1 = nI (4 - (y + 1)) := fun y hy => nI_dec (by omega)
  have bd0 : ∀ y, y < 4 → F y = false → (sSeq (sIf (bCmp o_le (eCV 2 (rF 6 2 (rL 0)) (aI (eL 2) (aN)) fX2_lengthIn) (eF 4 0 (rQ 4 (rF 5 0 (rF 6 0 (rL 0))) (eL 1)))) (sRi (eL 2)) sNop) (sInc 2 (-1))) [.ref t, .int (nI k), .int (nI (4 - y))] h = some (.inl ([.ref t, .int (nI k), .int (nI (4 - (y + 1)))], h)) := fun y hy hf => by
    have l := Le y
    rw [hf] at l
    simp [sSeq, sIf, bCmp, eCV, rF, rL, tp2 top, tp0 top, aI, eL, aN, tx_i txt, l1, eF, rQ, aS0 at1, aQp at1 (show k < 20 by omega), x0, l, sNop, zCut, sInc, zSt, dn y hy]
  have wc : ∀ (hm : zH) (y : Nat), y ≤ 4 → bAnd (bZ z_gt (eL 2)) (bCmp o_gt (eCV 7 (rL 0) (aI (eL 2) (aN)) fX7_textLength) (eCS (aR (rF 7 1 (rL 0)) (aI (eL 1) (aI (eC 0) (aN)))) fX7_ofPlate)) [.ref (t + 387), .int (nI k), .int (nI (4 - y))] (hM hm (t + 387) (upd g 0 0) R SV TX T AS) = some (decide (y < 4) && !F y, hM hm (t + 387) (upd g 0 0) R SV TX T AS) := fun hm y hy => by
    have zg : z_gt (nI (4 - y)) = decide (y < 4) := by
      simp only [z_gt, show (0 : Int32) = nI 0 from rfl, nI_ltI (show 0 < 2 ^ 31 by omega) (show 4 - y < 2 ^ 31 by omega)]
      exact decide_eq_decide.mpr (by omega)
    by_cases h4 : y < 4 <;> simp [bAnd, bZ, eL, zg, h4, bCmp, eCV, rL, aI, aN, isMo, l2, eCS, aR, rF, rMr1, eC, o0, Gt]
  have z_0 : z_eq 0 = true := rfl
  cases hq : firstO F 4 with
  | none =>
    have nf := firstO_none hq
    have L1 := sW_run (c := bCmp o_ge (eL 2) (eC 1)) (f := sSeq (sIf (bCmp o_le (eCV 2 (rF 6 2 (rL 0)) (aI (eL 2) (aN)) fX2_lengthIn) (eF 4 0 (rQ 4 (rF 5 0 (rF 6 0 (rL 0))) (eL 1)))) (sRi (eL 2)) sNop) (sInc 2 (-1))) (fun y => ([.ref t, .int (nI k), .int (nI (4 - y))], h)) 4 4 4000 0 (by omega) (by omega) (by omega)
      (fun y g1 g2 => cd y g2) (fun y g1 g2 => by simp [bd0 y g2 (nf y g2), zCut])
    have L2 := fun hm : zH => sW_run (c := bAnd (bZ z_gt (eL 2)) (bCmp o_gt (eCV 7 (rL 0) (aI (eL 2) (aN)) fX7_textLength) (eCS (aR (rF 7 1 (rL 0)) (aI (eL 1) (aI (eC 0) (aN)))) fX7_ofPlate))) (f := sInc 2 (-1)) (fun y => ([.ref (t + 387), .int (nI k), .int (nI (4 - y))], hM hm (t + 387) (upd g 0 0) R SV TX T AS)) 4 4 4000 0 (by omega) (by omega) (by omega)
      (fun y g1 g2 => by
        rw [wc hm y g2]
        by_cases h4 : y < 4
        · simp [h4, nf y h4]
        · simp [h4])
      (fun y g1 g2 => by simp [sInc, eL, zSt, zCut, dn y g2])
    simp only [Nat.sub_zero, show (nI 4 : Int32) = 4 from rfl, Nat.sub_self, nI_0] at L1 L2
    refine close0 (v := -9) (g' := upd g 0 0) top at1 vw iv ir his txt fcs md g4 g6 ?_ (fun hm => ?_) (by simp [upd]) (by simp [upd])
    · simp [fX6_largestSize, bX6_largestSize, mI, sSeq, sIf, bNot, bZ, eCV, rF, rL, tp0 top, aI, eL, aN, aIs at1, q1, z_ne_bI, sNop, zCut, eF, tp2 top, tx_1 txt, ze, sBlk, sLi, eC, zSt, L1, sRi]
    · have q := L2 hm
      simp [fX7_largestSize, bX7_largestSize, mI, sSeq, sF, rL, eC, wMo0, sIf, bNot, bZ, eCV, aI, eL, aN, isMo, q2, z_ne_bI, sNop, zCut, eF, r6, ze, sLi, zSt, q, sRi, eT, z_0]
  | some y0 =>
    obtain ⟨f1, f2, f3⟩ := firstO_some hq
    have l0 := Le y0
    rw [f2] at l0
    have L1 := sW_ret (q := (some (nI (4 - y0)), h)) (c := bCmp o_ge (eL 2) (eC 1)) (f := sSeq (sIf (bCmp o_le (eCV 2 (rF 6 2 (rL 0)) (aI (eL 2) (aN)) fX2_lengthIn) (eF 4 0 (rQ 4 (rF 5 0 (rF 6 0 (rL 0))) (eL 1)))) (sRi (eL 2)) sNop) (sInc 2 (-1))) (fun y => ([.ref t, .int (nI k), .int (nI (4 - y))], h)) y0 y0 4000 0 (by omega) (by omega) (by omega)
      (fun y g1 g2 => by rw [cd y (by omega)]; simp [show y < 4 by omega])
      (fun y g1 g2 => by simp [bd0 y (by omega) (f3 y g2), zCut])
      (by simp [sSeq, sIf, bCmp, eCV, rF, rL, tp2 top, tp0 top, aI, eL, aN, tx_i txt, l1, eF, rQ, aS0 at1, aQp at1 (show k < 20 by omega), x0, l0, zCut, sRi])
    have L2 := fun hm : zH => sW_run (c := bAnd (bZ z_gt (eL 2)) (bCmp o_gt (eCV 7 (rL 0) (aI (eL 2) (aN)) fX7_textLength) (eCS (aR (rF 7 1 (rL 0)) (aI (eL 1) (aI (eC 0) (aN)))) fX7_ofPlate))) (f := sInc 2 (-1)) (fun y => ([.ref (t + 387), .int (nI k), .int (nI (4 - y))], hM hm (t + 387) (upd g 0 0) R SV TX T AS)) y0 y0 4000 0 (by omega) (by omega) (by omega)
      (fun y g1 g2 => by
        rw [wc hm y (by omega)]
        by_cases h4 : y < y0
        · simp [h4, f3 y h4, show y < 4 by omega]
        · obtain rfl : y = y0 := by omega
          simp [f2])
      (fun y g1 g2 => by simp [sInc, eL, zSt, zCut, dn y (by omega)])
    have ne0 : z_eq (nI (4 - y0)) = false := by
      simp only [z_eq, show (0 : Int32) = nI 0 from rfl, nI_eqI (show 4 - y0 < 2 ^ 31 by omega) (show 0 < 2 ^ 31 by omega)]
      exact decide_eq_false (by omega)
    simp only [Nat.sub_zero, show (nI 4 : Int32) = 4 from rfl] at L1 L2
    refine close0 (v := nI (4 - y0)) (g' := upd g 0 0) top at1 vw iv ir his txt fcs md g4 g6 ?_ (fun hm => ?_) (by simp [upd]) (by simp [upd])
    · simp [fX6_largestSize, bX6_largestSize, mI, sSeq, sIf, bNot, bZ, eCV, rF, rL, tp0 top, aI, eL, aN, aIs at1, q1, z_ne_bI, sNop, zCut, eF, tp2 top, tx_1 txt, ze, sBlk, sLi, eC, zSt, L1, sRi]
    · have q := L2 hm
      simp [fX7_largestSize, bX7_largestSize, mI, sSeq, sF, rL, eC, wMo0, sIf, bNot, bZ, eCV, aI, eL, aN, isMo, q2, z_ne_bI, sNop, zCut, eF, r6, ze, sLi, zSt, q, sRi, eT, ne0]
end ZCF
