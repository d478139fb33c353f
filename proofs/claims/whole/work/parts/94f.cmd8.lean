/-! the commands that read: plateFor, lengthOf, letter -/
section ZC8
variable {h : zH} {b L' t nS nP nO c nh nt : Nat} {xs : Nat → Int32} {s pf N g SV TX AS : Nat → Int32} {P O L R T : Nat → Nat → Int32} {pi : Nat → Nat}
set_option maxRecDepth 100000 in
theorem cmd_plateFor (v y : Int32) : Cmd fX6_plateFor fX7_plateFor [.int v, .int y] := by
  intro h b L' xs t rl
  obtain ⟨g, R, SV, TX, T, AS, nh, nt, top, ⟨s, P, pf, pi, O, N, L, nS, nP, nO, c, at1, vw, iv, ir⟩, his, txt, fcs, md, g4, g6⟩ := rl
  obtain ⟨c0, c1, c2, c3, c4, c5⟩ := iv.1
  have s3 : s 3 = nI nP := by rw [vw.1.1, c1]
  obtain ⟨q, q1, q2, q3⟩ := sh_both (R := R) at1 vw iv v
  cases q with
  | false =>
    refine close0 (v := -1) (g' := upd g 0 0) top at1 vw iv ir his txt fcs md g4 g6 ?_ (fun hm => ?_) (by simp [upd]) (by simp [upd])
    · simp [fX6_plateFor, bX6_plateFor, mI, sSeq, sIf, bOr, bNot, bZ, eCV, rF, rL, tp0 top, aI, eL, aN, aIs at1, q1, z_ne_bI, eC, zCut, sRi]
    · simp [fX7_plateFor, bX7_plateFor, mI, sSeq, sF, rL, eC, wMo0, sRi, eT, bAnd, bZ, eCV, aI, eL, aN, isMo, q2, z_ne_bI]
  | true =>
    cases hy : (decide (1 ≤ y) && decide (y ≤ 999)) with
    | false =>
      refine close0 (v := -1) (g' := upd g 0 0) top at1 vw iv ir his txt fcs md g4 g6 ?_ (fun hm => ?_) (by simp [upd]) (by simp [upd])
      · simp [fX6_plateFor, bX6_plateFor, mI, sSeq, sIf, bOr, bNot, bZ, eCV, rF, rL, tp0 top, aI, eL, aN, aIs at1, q1, z_ne_bI, eCS, X6_isYear, hy, eC, zCut, sRi]
      · simp [fX7_plateFor, bX7_plateFor, mI, sSeq, sF, rL, eC, wMo0, sRi, eT, bAnd, bZ, eCV, aI, eL, aN, isMo, q2, z_ne_bI, eCS, X7_isYear, hy]
    | true =>
      obtain ⟨j, hj, rfl⟩ := q3 rfl
      have cp := X5_plateOfYear (h := h) (lo := t + 1) (s := s) (P := P) (pf := pf) (pi := pi) (O := O) (N := N) (L := L) s3 c4 (nI j) y
      rw [At_eq at1, plateOf_view vw.2.2.1 iv.2.2.2.2 (show j < 2 ^ 31 by omega) y] at cp
      have rp := fun (hm : zH) (g : Nat → Int32) => X7_plateOn (h := hM hm (t + 387) g R SV TX T AS) (nP := nP) (hM_r (i := 1) (.inl rfl)) c1 c4 (nI j) y
      simp only [lastM_O] at rp
      refine close0 (v := toI (lastO (onY (R 1) (nI j) y) nP)) (g' := upd g 0 0) top at1 vw iv ir his txt fcs md g4 g6 ?_ (fun hm => ?_) (by simp [upd]) (by simp [upd])
      · simp [fX6_plateFor, bX6_plateFor, mI, sSeq, sIf, bOr, bNot, bZ, eCV, rF, rL, tp0 top, aI, eL, aN, aIs at1, q1, z_ne_bI, eCS, X6_isYear, hy, sNop, zCut, sRi, cp]
      · simp [fX7_plateFor, bX7_plateFor, mI, sSeq, sF, rL, eC, wMo0, sRi, eT, bAnd, bZ, eCV, aI, eL, aN, isMo, q2, z_ne_bI, eCS, X7_isYear, hy, aR, rF, rMr1, rp]
theorem X6_isSize (h : zH) (v : Int32) : fX6_isSize [.int v] h = some (bI (decide (1 ≤ v) && decide (v ≤ 4)), h) := by
  cases hq : (decide (1 ≤ v) && decide (v ≤ 4)) <;> simp [fX6_isSize, bX6_isSize, mZ, sRi, eCS, aI, eL, eC, aN, X6_isWithin, hq, bI]
theorem X6_isDepth (h : zH) (v : Int32) : fX6_isDepth [.int v] h = some (bI (decide (1 ≤ v) && decide (v ≤ 5)), h) := by
  cases hq : (decide (1 ≤ v) && decide (v ≤ 5)) <;> simp [fX6_isDepth, bX6_isDepth, mZ, sRi, eCS, aI, eL, eC, aN, X6_isWithin, hq, bI]
/-- the length of the text, on both sides -/
theorem tl_both (txt : Txt h t nt TX) (g6 : g 6 = nI nt) (z : Int32) : fX2_lengthIn [.ref (t + 327), .int z] h = some (nLen TX nt z, h) ∧ ∀ hm g', g' 6 = g 6 → fX7_textLength [.ref (t + 387), .int z] (hM hm (t + 387) g' R SV TX T AS) = some (nLen TX nt z, hM hm (t + 387) g' R SV TX T AS) := by
  obtain ⟨t1, t2, tx, t3, t4⟩ := txt
  refine ⟨?_, fun hm g' e => X7_textLength hM_0 hM_4 (by rw [e, g6]) t1 z⟩
  have q := X2_lengthIn t2 t3 t1 z
  rw [show nLen tx nt z = nLen TX nt z by simp only [nLen, lenW_congr t4]] at q
  exact q
set_option maxRecDepth 100000 in
theorem cmd_lengthOf (z : Int32) : Cmd fX6_lengthOf fX7_lengthOf [.int z] := by
  intro h b L' xs t rl
  obtain ⟨g, R, SV, TX, T, AS, nh, nt, top, ⟨s, P, pf, pi, O, N, L, nS, nP, nO, c, at1, vw, iv, ir⟩, his, txt, fcs, md, g4, g6⟩ := rl
  obtain ⟨l1, l2⟩ := tl_both (R := R) (SV := SV) (T := T) (AS := AS) txt g6 z
  have l2' := fun hm : zH => l2 hm (upd g 0 0) (by simp [upd])
  cases hz : (decide (1 ≤ z) && decide (z ≤ 4)) with
  | false =>
    refine close0 (v := -1) (g' := upd g 0 0) top at1 vw iv ir his txt fcs md g4 g6 ?_ (fun hm => ?_) (by simp [upd]) (by simp [upd])
    · simp [fX6_lengthOf, bX6_lengthOf, mI, sRi, eT, bZ, eCS, aI, eL, aN, X6_isSize, hz, z_ne_bI, eC]
    · simp [fX7_lengthOf, bX7_lengthOf, mI, sSeq, sF, rL, eC, wMo0, sRi, eT, bZ, eCS, aI, eL, aN, X7_in, hz, z_ne_bI]
  | true =>
    refine close0 (v := nLen TX nt z) (g' := upd g 0 0) top at1 vw iv ir his txt fcs md g4 g6 ?_ (fun hm => ?_) (by simp [upd]) (by simp [upd])
    · simp [fX6_lengthOf, bX6_lengthOf, mI, sRi, eT, bZ, eCS, aI, eL, aN, X6_isSize, hz, z_ne_bI, eCV, rF, rL, tp2 top, tx_i txt, l1]
    · simp [fX7_lengthOf, bX7_lengthOf, mI, sSeq, sF, rL, eC, wMo0, sRi, eT, bZ, eCS, aI, eL, aN, X7_in, hz, z_ne_bI, eCV, isMo, l2']
/-- an Int32 that is not negative, and below a number, is that of a place -/
theorem nI_below {v : Int32} {n : Nat} (hn : n < 100) (h0 : 0 ≤ v) (h1 : v < nI n) : ∃ k, k < n ∧ v = nI k := hasB_nI' hn (by simp [hasB, h0, h1])
set_option maxRecDepth 100000 in
theorem cmd_letter (v i : Int32) : Cmd fX6_letter fX7_letter [.int v, .int i] := by
  intro h b L' xs t rl
  obtain ⟨g, R, SV, TX, T, AS, nh, nt, top, ⟨s, P, pf, pi, O, N, L, nS, nP, nO, c, at1, vw, iv, ir⟩, his, txt, fcs, md, g4, g6⟩ := rl
  obtain ⟨c0, c1, c2, c3, c4, c5⟩ := iv.1
  obtain ⟨q, q1, q2, q3⟩ := or_both (R := R) at1 vw iv v
  cases q with
  | false =>
    refine close0 (v := -1) (g' := upd g 0 0) top at1 vw iv ir his txt fcs md g4 g6 ?_ (fun hm => ?_) (by simp [upd]) (by simp [upd])
    · simp [fX6_letter, bX6_letter, mI, sSeq, sIf, bOr, bNot, bZ, eCV, rF, rL, tp0 top, aI, eL, aN, aIs at1, q1, z_ne_bI, eC, zCut, sRi]
    · simp [fX7_letter, bX7_letter, mI, sSeq, sF, rL, eC, wMo0, sIf, bOr, bNot, bZ, eCV, aI, eL, aN, isMo, q2, z_ne_bI, zCut, sRi]
  | true =>
    obtain ⟨k, hk, rfl⟩ := q3 rfl
    have hpk := vw.2.1.1 k (by omega)
    obtain ⟨o0, o1, o2, o3, o4, o5, o6⟩ := vw.2.2.2.2 k hk
    obtain ⟨n5, n12⟩ := hl_of iv k hk
    by_cases hz : i < 0
    · have zl : z_lt i = true := by simp [z_lt, hz]
      refine close0 (v := -1) (g' := upd g 0 0) top at1 vw iv ir his txt fcs md g4 g6 ?_ (fun hm => ?_) (by simp [upd]) (by simp [upd])
      · simp [fX6_letter, bX6_letter, mI, sSeq, sIf, bOr, bNot, bZ, eCV, rF, rL, tp0 top, aI, eL, aN, aIs at1, q1, z_ne_bI, zl, eC, zCut, sRi]
      · simp [fX7_letter, bX7_letter, mI, sSeq, sF, rL, eC, wMo0, sIf, bOr, bNot, bZ, eCV, aI, eL, aN, isMo, q2, z_ne_bI, zl, zCut, sRi]
    · have zl : z_lt i = false := by simp only [z_lt]; exact decide_eq_false hz
      have nm : rdR h 3 0 (t + 1 + 24 + 3 * pi k) = some (t + 1 + 24 + 3 * pi k + 1) := rdR_of (a_o at1 hpk) rfl
      have cn : rdI h 2 1 (t + 1 + 24 + 3 * pi k + 1) = some (sO (R 1) k 5) := by rw [← o5]; exact rdI_of (a_n at1 hpk) rfl
      have le : rdR h 2 0 (t + 1 + 24 + 3 * pi k + 1) = some (t + 1 + 24 + 3 * pi k + 2) := rdR_of (a_n at1 hpk) rfl
      have f5 := fun (hm : zH) (g SV : Nat → Int32) => ofO5 (h := hM hm (t + 387) g R SV TX T AS) hM_1 (j := k) (by omega)
      cases hlt : o_lt i (sO (R 1) k 5) with
      | false =>
        refine close0 (v := -9) (g' := upd g 0 0) top at1 vw iv ir his txt fcs md g4 g6 ?_ (fun hm => ?_) (by simp [upd]) (by simp [upd])
        · simp [fX6_letter, bX6_letter, mI, sSeq, sIf, bOr, bNot, bZ, eCV, rF, rL, tp0 top, aI, eL, aN, aIs at1, q1, z_ne_bI, zl, sNop, zCut, sLr, rQ, aS2 at1, aQr at1 (show k < 10 by omega), nm, zSt, sRi, eT, bCmp, eF, cn, hlt, eC]
        · simp [fX7_letter, bX7_letter, mI, sSeq, sF, rL, eC, wMo0, sIf, bOr, bNot, bZ, eCV, aI, eL, aN, isMo, q2, z_ne_bI, zl, sNop, zCut, sRi, eT, bCmp, eCS, aR, rF, rMr1, f5, hlt]
      | true =>
        obtain ⟨x, hx, rfl⟩ : ∃ x, x < nk (R 1) k ∧ i = nI x := by
          refine nI_below (by omega) ?_ ?_
          · rw [i_le]; rw [i_lt] at hz; omega
          · rw [← n5]; exact of_decide_eq_true hlt
        have ll : rdA h (t + 1 + 24 + 3 * pi k + 2) (nI x) = some (sO (R 1) k (6 + x)) := by rw [← o6 x hx]; exact rdA_of (a_l at1 hpk) (by omega) (by omega)
        have fx := fun (hm : zH) (g SV : Nat → Int32) => ofOi (h := hM hm (t + 387) g R SV TX T AS) hM_1 (j := k) (by omega) (show x < 12 by omega)
        refine close0 (v := sO (R 1) k (6 + x)) (g' := upd g 0 0) top at1 vw iv ir his txt fcs md g4 g6 ?_ (fun hm => ?_) (by simp [upd]) (by simp [upd])
        · simp [fX6_letter, bX6_letter, mI, sSeq, sIf, bOr, bNot, bZ, eCV, rF, rL, tp0 top, aI, eL, aN, aIs at1, q1, z_ne_bI, zl, sNop, zCut, sLr, rQ, aS2 at1, aQr at1 (show k < 10 by omega), nm, zSt, sRi, eT, bCmp, eF, cn, hlt, eC, eA, le, ll]
        · simp [fX7_letter, bX7_letter, mI, sSeq, sF, rL, eC, wMo0, sIf, bOr, bNot, bZ, eCV, aI, eL, aN, isMo, q2, z_ne_bI, zl, sNop, zCut, sRi, eT, bCmp, eCS, aR, rF, rMr1, f5, hlt, eOp, fx]
end ZC8
