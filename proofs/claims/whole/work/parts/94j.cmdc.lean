/-! the commands that read: plateFound -/
section ZCD
variable {h : zH} {b L' t nS nP nO c nh nt : Nat} {xs : Nat → Int32} {s pf N g SV TX AS : Nat → Int32} {P O L R T : Nat → Nat → Int32} {pi : Nat → Nat}
set_option maxRecDepth 100000 in
set_option maxHeartbeats 4000000 in
theorem cmd_plateFound (z d w : Int32) : Cmd fX6_plateFound fX7_plateFound [.int z, .int d, .int w] := by
  intro h b L' xs t rl
  obtain ⟨g, R, SV, TX, T, AS, nh, nt, top, ⟨s, P, pf, pi, O, N, L, nS, nP, nO, c, at1, vw, iv, ir⟩, his, txt, fcs, md, g4, g6⟩ := rl
  obtain ⟨c0, c1, c2, c3, c4, c5⟩ := iv.1
  have s3 : s 3 = nI nP := by rw [vw.1.1, c1]
  have nt12 := txt.1
  cases hz : (decide (1 ≤ z) && decide (z ≤ 4)) with
  | false =>
    refine close0 (v := -1) (g' := upd g 0 0) top at1 vw iv ir his txt fcs md g4 g6 ?_ (fun hm => ?_) (by simp [upd]) (by simp [upd])
    · simp [fX6_plateFound, bX6_plateFound, mI, sSeq, sIf, bOr, bNot, bZ, eCS, aI, eL, aN, X6_isSize, hz, z_ne_bI, eC, zCut, sRi]
    · simp [fX7_plateFound, bX7_plateFound, mI, sSeq, sF, rL, eC, wMo0, sIf, bOr, bNot, bZ, eCS, aI, eL, aN, X7_in, hz, z_ne_bI, zCut, sRi]
  | true =>
  cases hd : (decide (1 ≤ d) && decide (d ≤ 5)) with
  | false =>
    refine close0 (v := -1) (g' := upd g 0 0) top at1 vw iv ir his txt fcs md g4 g6 ?_ (fun hm => ?_) (by simp [upd]) (by simp [upd])
    · simp [fX6_plateFound, bX6_plateFound, mI, sSeq, sIf, bOr, bNot, bZ, eCS, aI, eL, aN, X6_isSize, hz, X6_isDepth, hd, z_ne_bI, eC, zCut, sRi]
    · simp [fX7_plateFound, bX7_plateFound, mI, sSeq, sF, rL, eC, wMo0, sIf, bOr, bNot, bZ, eCS, aI, eL, aN, X7_in, hz, hd, z_ne_bI, zCut, sRi]
  | true =>
  cases hw : (decide (0 ≤ w) && decide (w ≤ nI 2)) with
  | false =>
    have hw2 : (decide (0 ≤ w) && decide (w ≤ 2)) = false := hw
    refine close0 (v := -1) (g' := upd g 0 0) top at1 vw iv ir his txt fcs md g4 g6 ?_ (fun hm => ?_) (by simp [upd]) (by simp [upd])
    · simp [fX6_plateFound, bX6_plateFound, mI, sSeq, sIf, bOr, bNot, bZ, eCS, aI, eL, aN, X6_isSize, hz, X6_isDepth, hd, X6_isWithin, hw2, z_ne_bI, eC, zCut, sRi]
    · simp [fX7_plateFound, bX7_plateFound, mI, sSeq, sF, rL, eC, wMo0, sIf, bOr, bNot, bZ, eCS, aI, eL, aN, X7_in, hz, hd, hw2, z_ne_bI, zCut, sRi]
  | true =>
  have hw2 : (decide (0 ≤ w) && decide (w ≤ 2)) = true := hw
  have r6 := fun hm : zH => rMo6 (h := hm) (m := t + 387) (g := upd g 0 0) (R := R) (SV := SV) (TX := TX) (T := T) (AS := AS)
  simp only [upd_ne (show 6 ≠ 0 by omega), g6] at r6
  cases ze : z_eq (nI nt) with
  | true =>
    refine close0 (v := -2) (g' := upd g 0 0) top at1 vw iv ir his txt fcs md g4 g6 ?_ (fun hm => ?_) (by simp [upd]) (by simp [upd])
    · simp [fX6_plateFound, bX6_plateFound, mI, sSeq, sIf, bOr, bNot, bZ, eCS, aI, eL, aN, X6_isSize, hz, X6_isDepth, hd, X6_isWithin, hw2, z_ne_bI, sNop, zCut, eF, rF, rL, tp2 top, tx_1 txt, ze, eC, sRi]
    · simp [fX7_plateFound, bX7_plateFound, mI, sSeq, sF, rL, eC, wMo0, sIf, bOr, bNot, bZ, eCS, aI, eL, aN, X7_in, hz, hd, hw2, z_ne_bI, sNop, zCut, eF, r6, ze, sRi]
  | false =>
  obtain ⟨l1, l2⟩ := tl_both (R := R) (SV := SV) (T := T) (AS := AS) txt g6 z
  have l2' := fun hm : zH => l2 hm (upd g 0 0) (by simp [upd])
  have fp := X5_findPlate (h := h) (lo := t + 1) (s := s) (P := P) (pf := pf) (pi := pi) (O := O) (N := N) (L := L) s3 c4 (nLen TX nt z) d
  rw [At_eq at1, fn_view vw.2.2.1 iv.2.2.1] at fp
  have rp := fun hm : zH => X7_findPlate (h := hm) (m := t + 387) (g := upd g 0 0) (R := R) (SV := SV) (TX := TX) (T := T) (AS := AS) (i := 1) (.inl rfl) c1 c4 (nLen TX nt z) d
  have gk : ∀ x, x ≠ 7 → x ≠ 8 → x ≠ 9 → gFP (upd g 0 0) (R 1) (nLen TX nt z) d nP x = upd g 0 0 x := fun x a b c => gFP_k a b c
  cases hf : fnd (R 1) (nLen TX nt z) d nP with
  | none =>
    rw [hf] at fp
    simp only [hf, Option.map_none, toI, fndB] at fp rp
    obtain ⟨q, q1, q2, q3⟩ := pl_both (R := R) at1 vw iv (-9)
    have qf : q = false := by
      cases q with
      | false => rfl
      | true => obtain ⟨k, hk, e⟩ := q3 rfl; exact absurd e.symm (nI_ne9 (by omega))
    subst qf
    refine close0 (v := -9) (g' := gFP (upd g 0 0) (R 1) (nLen TX nt z) d nP) top at1 vw iv ir his txt fcs md g4 g6 ?_ (fun hm => ?_) (by rw [gk 4 (by omega) (by omega) (by omega)]; simp [upd]) (by rw [gk 6 (by omega) (by omega) (by omega)]; simp [upd])
    · simp [fX6_plateFound, bX6_plateFound, mI, sSeq, sIf, bOr, bNot, bZ, eCS, aI, eL, aN, X6_isSize, hz, X6_isDepth, hd, X6_isWithin, hw2, z_ne_bI, sNop, zCut, eF, rF, rL, tp2 top, tx_1 txt, ze, sLi, eCV, tp0 top, tx_i txt, l1, aIs at1, fp, zSt, q1, eC, sRi]
    · simp [fX7_plateFound, bX7_plateFound, mI, sSeq, sF, rL, eC, wMo0, sIf, bOr, bNot, bZ, eCS, aI, eL, aN, X7_in, hz, hd, hw2, z_ne_bI, sNop, zCut, eF, r6, ze, eCV, aR, rF, rMr1, isMo, l2', rp, sRi]
  | some x =>
    obtain ⟨wy, p⟩ := x
    rw [hf] at fp
    simp only [hf, Option.map_some, toI, fndB] at fp rp
    obtain ⟨p1, -⟩ := fnd_lt hf
    obtain ⟨s1, s2, s4, s5⟩ := side_view vw.2.2.1 iv.2.2.1 hf
    obtain ⟨m7, m8, m9⟩ := gFP_789 (g := upd g 0 0) hf
    generalize gFP (upd g 0 0) (R 1) (nLen TX nt z) d nP = g' at *
    generalize sdF (R 1) p d wy = sd at *
    have sf := X4_sideFor (h := h) (a_p at1 (show p < 20 by omega)) d
    rw [s1] at sf
    have ib := X4_isBlank (h := h) (a_p at1 (show p < 20 by omega)) (nI sd)
    rw [s5, s4] at ib
    have zp := X5_hasPlate (h := h) (lo := t + 1) (s := s) (P := P) (pf := pf) (pi := pi) (O := O) (N := N) (L := L) (nI p)
    rw [At_eq at1, s3, hasB_nI (by omega) (by omega), decide_eq_true p1] at zp
    have r7 := fun hm : zH => rMo7 (h := hm) (m := t + 387) (g := g') (R := R) (SV := SV) (TX := TX) (T := T) (AS := AS)
    have r8 := fun hm : zH => rMo8 (h := hm) (m := t + 387) (g := g') (R := R) (SV := SV) (TX := TX) (T := T) (AS := AS)
    have r9 := fun hm : zH => rMo9 (h := hm) (m := t + 387) (g := g') (R := R) (SV := SV) (TX := TX) (T := T) (AS := AS)
    simp only [m7] at r7
    simp only [m8] at r8
    simp only [m9] at r9
    obtain ⟨y, hy, rfl⟩ := in_nI (by omega) hw
    have tI : (nI y).toInt = (y : Int) := nI_toInt (by omega)
    have zy : z_eq (nI y) = decide (y = 0) := by
      simp only [z_eq, show (0 : Int32) = nI 0 from rfl, nI_eqI (show y < 2 ^ 31 by omega) (show 0 < 2 ^ 31 by omega)]
    have oy : o_eq (nI y) 1 = decide (y = 1) := by
      simp only [o_eq, show (1 : Int32) = nI 1 from rfl, nI_eqI (show y < 2 ^ 31 by omega) (show 1 < 2 ^ 31 by omega)]
    have pq := aPi at1 (show p < 20 by omega)
    refine close0 (v := if y = 0 then nI p else if y = 1 then nI sd else if wy = true then 1 else 0) (g' := g') top at1 vw iv ir his txt fcs md g4 g6 ?_ (fun hm => ?_) (by rw [gk 4 (by omega) (by omega) (by omega)]; simp [upd]) (by rw [gk 6 (by omega) (by omega) (by omega)]; simp [upd])
    · rcases (show y = 0 ∨ y = 1 ∨ y = 2 by omega) with e | e | e <;> subst e <;> cases wy <;>
        simp [fX6_plateFound, bX6_plateFound, mI, sSeq, sIf, bOr, bNot, bZ, eCS, aI, eL, aN, X6_isSize, hz, X6_isDepth, hd, X6_isWithin, hw2, z_ne_bI, sNop, zCut, eF, rF, rL, tp2 top, tx_1 txt, ze, sLi, eCV, tp0 top, tx_i txt, l1, aIs at1, fp, zSt, zp, rQ, aS0 at1, aQp at1 (show p < 20 by omega), pq, sf, sLk, zPick, tI, sRi, eT, ib, eC]
    · rcases (show y = 0 ∨ y = 1 ∨ y = 2 by omega) with e | e | e <;> subst e <;> cases wy <;>
        simp [fX7_plateFound, bX7_plateFound, mI, sSeq, sF, rL, eC, wMo0, sIf, bOr, bNot, bZ, eCS, aI, eL, aN, X7_in, hz, hd, hw2, z_ne_bI, sNop, zCut, eF, r6, ze, eCV, aR, rF, rMr1, isMo, l2', rp, sRi, eT, bCmp, zy, oy, r7, r8, r9]
end ZCD
