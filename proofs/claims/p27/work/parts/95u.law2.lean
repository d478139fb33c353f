/-! the body of the law, cut into its parts -/
def yA : zSS := sLi 2 (eCS (aR (rL 0) (aI (eC 0) (aN))) fL_cell)
def yB : zSS := sPop (eCV 6 (rL 1) (aI (eOp (· + ·) (eC 2) (eCS (aI (eL 2) (aI (eC 3) (aN))) fL_low)) (aN)) fX6_addShield)
def yC : zSS := sPop (eCV 6 (rL 1) (aI (eC 2) (aN)) fX6_addShield)
def yDb : zSS := sSeq (sPop (eCV 6 (rL 1) (aI (eOp (· + ·) (eC 20) (eCS (aI (eOp o_shr (eL 2) (eOp (· * ·) (eC 3) (eL 3))) (aI (eC 90) (aN))) fL_low)) (aI (eOp (· + ·) (eC 6) (eCS (aI (eOp o_shr (eL 2) (eOp (· * ·) (eC 4) (eL 3))) (aI (eC 12) (aN))) fL_low)) (aN))) fX6_cut)) (sInc 3 1)
def yD : zSS := sBlk (sSeq (sLi 3 (eC 0)) (sW 4000 (bCmp o_lt (eL 3) (eC 4)) yDb))
def xx0 : zSS := sLi 4 (eCS (aR (rL 0) (aI (eL 3) (aN))) fL_cell)
def xx1 : zSS := sLj 5 (jCS (aR (rL 1) (aN)) fL_digest)
def xx2 : zSS := sLi 7 (eCV 6 (rL 1) (aI (eC 11) (aN)) fX6_count)
def xx3 : zSS := sLi 8 (eCV 6 (rL 1) (aI (eC 6) (aN)) fX6_count)
def xx4 : zSS := sLi 9 (eCV 6 (rL 1) (aI (eC 12) (aN)) fX6_count)
def xx5 : zSS := sPop (eCV 6 (rL 1) (aN) fX6_clearText)
def xx6 : zSS := sLi 10 (eCS (aR (rL 1) (aI (eL 4) (aN))) fL_act)
def xx7 : zSS := sIf (bOr (bNot (bZ z_ne (eCS (aR (rL 1) (aI (eL 4) (aI (eL 10) (aI (eL 7) (aI (eL 8) (aI (eL 9) (aN))))))) fL_isDone))) (bAnd (bZ z_lt (eL 10)) (bZ z_ne (jCmp (jCS (aR (rL 1) (aN)) fL_digest) (jL 5))))) (sRi (eC 0)) sNop
def xx8 : zSS := sIf (bAnd (bZ z_ge (eL 10)) (bCmp o_eq (eOp (· &&& ·) (eL 3) (eC 3)) (eC 1))) (sSeq (sPop (eCV 6 (rL 1) (aN) fX6_undo)) (sSeq (sIf (bZ z_ne (jCmp (jCS (aR (rL 1) (aN)) fL_digest) (jL 5))) (sRi (eC 0)) sNop) (sSeq (sPop (eCV 6 (rL 1) (aN) fX6_clearText)) (sIf (bCmp o_ne (eCS (aR (rL 1) (aI (eL 4) (aN))) fL_act) (eL 10)) (sRi (eC 0)) sNop)))) sNop
def xx9 : zSS := sIf (bAnd (bZ z_eq (eOp (· &&& ·) (eL 3) (eC 1))) (bNot (bZ z_ne (eCS (aR (rL 1) (aN)) fL_isRight)))) (sRi (eC 0)) sNop
def yEb : zSS := sSeq (sSeq xx0 ( sSeq xx1 ( sSeq xx2 ( sSeq xx3 ( sSeq xx4 ( sSeq xx5 ( sSeq xx6 ( sSeq xx7 ( sSeq xx8 (xx9)))))))))) (sInc 3 1)
def yE : zSS := sBlk (sSeq (sLi 3 (eC 1)) (sW 4000 (bCmp o_lt (eL 3) (eC 18)) yEb))
def yF : zSS := sPop (eCV 6 (rL 1) (aN) fX6_clearText)
def yG : zSS := sLj 3 (jCS (aR (rL 1) (aN)) fL_digest)
def yH : zSS := sIf (bOr (bOr (bOr (bOr (bOr (bOr (bOr (bOr (bCmp o_ne (eCV 6 (rL 1) (aI (eC 9) (aI (eC 5) (aN))) fX6_cut) (eC (-1))) (bCmp o_ne (eCV 6 (rL 1) (aI (eC 7) (aN)) fX6_addShield) (eC (-1)))) (bCmp o_ne (eCV 6 (rL 1) (aI (eC 65) (aN)) fX6_append) (eC (-1)))) (bCmp o_ne (eCV 6 (rL 1) (aI (eC 0) (aN)) fX6_work) (eC (-1)))) (bCmp o_ne (eCV 6 (rL 1) (aI (eC 2) (aI (eC 1) (aI (eC 1) (aI (eC 1) (aI (eC 0) (aN)))))) fX6_order) (eC (-1)))) (bCmp o_ne (eCV 6 (rL 1) (aI (eC 20) (aI (eC 0) (aN))) fX6_plate) (eC (-1)))) (bCmp o_ne (eCV 6 (rL 1) (aI (eC 10) (aN)) fX6_doneIn) (eC (-1)))) (bZ z_ne (eCV 6 (rL 1) (aI (eC 1) (aN)) fX6_lengthOf))) (bZ z_ne (jCmp (jCS (aR (rL 1) (aN)) fL_digest) (jL 3)))) (sRi (eC 0)) sNop
def yI : zSS := sRi (eB (bAnd (bZ z_ne (eCS (aR (rL 1) (aN)) fL_isRight)) (bZ z_ne (eCS (aR (rL 1) (aN)) fL_isForecast))))
theorem bL2_eq : bL2 = sSeq yA ( sSeq yB ( sSeq yC ( sSeq yD ( sSeq yE ( sSeq yF ( sSeq yG ( sSeq yH (yI)))))))) := rfl
section ZL2
variable {h : zH} {b L t nS nP nO c nt k i : Nat} {xs : Nat → Int32} {S TX : Nat → Int32} {v : Int32}
theorem a_yA (hb : h.2 b = some (xS L xs)) (hL : L ≤ 260) : yA [.ref b, .ref t] h = some (.inl ([.ref b, .ref t, .int (cellN L xs 0)], h)) := by
  have q := L_cell (k := 0) (xs := xs) hb hL (by omega)
  rw [nI_0] at q
  simp [yA, sLi, eCS, aR, rL, aI, eC, aN, q, zSt]
theorem a_yB (r : Rw h b L xs t S nt TX) (iv : Iv S 0 0 0) (ir : IvR S 0 0) (ej : EJ S 0 0 0) (h3 : S 3 = -9) : ∃ h1 S1 TX1, yB [.ref b, .ref t, .int v] h = some (.inl ([.ref b, .ref t, .int v], h1)) ∧ Rw h1 b L xs t S1 nt TX1 ∧ Iv S1 1 0 0 ∧ IvR S1 0 0 ∧ EJ S1 1 0 0 ∧ S1 3 = -9 := by
  have lo := lowN_lt v (show 0 < 3 by omega)
  have l1 := fun h : zH => L_low (h := h) v (m := 3) (by omega) (by omega)
  simp only [show nI 3 = 3 from rfl] at l1
  generalize lowN v 3 = w at *
  have e1 := (nI_lit (n := w)).2.2.2.2.2.1
  have hw := rng (a := 2) (b := 6) (A := 2) (B := 6) (n := 2 + w) rfl rfl (by omega) (by omega) (by omega) (by omega)
  obtain ⟨h1, q, ru, i1, i2⟩ := do_addShield r iv ir hw (by omega)
  refine ⟨h1, _, _, ?_, ru.w, i1, i2, EJ_hang ej h3 (by rw [nI_int (by omega)]; omega) (by rw [nI_int (by omega)]; omega), hang_3 h3⟩
  simp [yB, sPop, eCV, rL, aI, eOp, eC, eCS, eL, aN, l1, e1, r.top, q]
theorem a_yC (r : Rw h b L xs t S nt TX) (iv : Iv S 1 0 0) (ir : IvR S 0 0) (ej : EJ S 1 0 0) (h3 : S 3 = -9) : ∃ h1 S1 TX1, yC [.ref b, .ref t, .int v] h = some (.inl ([.ref b, .ref t, .int v], h1)) ∧ Rw h1 b L xs t S1 nt TX1 ∧ Iv S1 2 0 0 ∧ IvR S1 0 0 ∧ EJ S1 2 0 0 := by
  obtain ⟨h1, q, ru, i1, i2⟩ := do_addShield (w := 2) r iv ir (by decide) (by omega)
  refine ⟨h1, _, _, ?_, ru.w, i1, i2, EJ_hang ej h3 (by decide) (by decide)⟩
  simp [yC, sPop, eCV, rL, aI, eC, aN, r.top, q]
theorem a_yDb (r : Rw h b L xs t S nt TX) (iv : Iv S 2 nP 0) (ir : IvR S 0 0) (ej : EJ S 2 nP 0) (hn : nP < 4) : ∃ h1 S1 TX1, (yDb [.ref b, .ref t, .int v, .int (nI nP)] h).map (zCut [.ref b, .ref t, .int v, .int (nI nP)]) = some (.inl ([.ref b, .ref t, .int v, .int (nI (nP + 1))], h1)) ∧ Rw h1 b L xs t S1 nt TX1 ∧ Iv S1 2 (nP + 1) 0 ∧ IvR S1 0 0 ∧ EJ S1 2 (nP + 1) 0 := by
  have a1 := lowN_lt (o_shr v (3 * nI nP)) (show 0 < 90 by omega)
  have a2 := lowN_lt (o_shr v (4 * nI nP)) (show 0 < 12 by omega)
  have l1 := fun h : zH => L_low (h := h) (o_shr v (3 * nI nP)) (m := 90) (by omega) (by omega)
  have l2 := fun h : zH => L_low (h := h) (o_shr v (4 * nI nP)) (m := 12) (by omega) (by omega)
  simp only [show nI 90 = 90 from rfl, show nI 12 = 12 from rfl] at l1 l2
  generalize lowN (o_shr v (3 * nI nP)) 90 = w at *
  generalize lowN (o_shr v (4 * nI nP)) 12 = th at *
  have e1 := (nI_lit (n := w)).2.2.2.1
  have e2 := (nI_lit (n := th)).2.2.2.2.2.2
  have hw := rng (a := 10) (b := 200) (A := 10) (B := 200) (n := 20 + w) rfl rfl (by omega) (by omega) (by omega) (by omega)
  have ht := rng (a := 5) (b := 30) (A := 5) (B := 30) (n := 6 + th) rfl rfl (by omega) (by omega) (by omega) (by omega)
  obtain ⟨h1, q, ru, i1, i2⟩ := do_cut r iv ir hw ht (by omega)
  refine ⟨h1, _, _, ?_, ru.w, i1, i2, EJ_cut iv ej (by omega) (by rw [nI_int (by omega)]; omega) (by rw [nI_int (by omega)]; omega)⟩
  simp [yDb, sSeq, sPop, eCV, rL, aI, eOp, eC, eCS, eL, aN, l1, l2, e1, e2, r.top, q, sInc, zSt, nI_1, zCut]
set_option maxRecDepth 100000 in
theorem a_yD (r : Rw h b L xs t S nt TX) (iv : Iv S 2 0 0) (ir : IvR S 0 0) (ej : EJ S 2 0 0) : ∃ h1 S1 TX1, yD [.ref b, .ref t, .int v] h = some (.inl ([.ref b, .ref t, .int v], h1)) ∧ Rw h1 b L xs t S1 nt TX1 ∧ J S1 4 0 0 := by
  obtain ⟨en', h', e1, e2, S1, TX1, r1, i1, i2, i3⟩ := sW_inv (c := bCmp o_lt (eL 3) (eC 4)) (f := yDb) (fun j en h => en = [.ref b, .ref t, .int v, .int (nI j)] ∧ ∃ S TX, Rw h b L xs t S nt TX ∧ Iv S 2 j 0 ∧ IvR S 0 0 ∧ EJ S 2 j 0) 4 4 4000 0 [.ref b, .ref t, .int v, .int (nI 0)] h (by omega) (by omega) (by omega) ⟨rfl, S, TX, r, iv, ir, ej⟩
    (fun j en h hj ⟨i1, i2⟩ => by
      subst i1
      simp [bCmp, eL, eC, show (4 : Int32) = nI 4 from rfl, o_lt_nI (a := j) (b := 4) (by omega) (by omega)])
    (fun j en h hj ⟨i1, S, TX, r, iv, ir, ej⟩ => by
      subst i1
      obtain ⟨h1, S1, TX1, a, b, c, d, e⟩ := a_yDb (v := v) r iv ir ej hj
      exact ⟨_, h1, a, rfl, S1, TX1, b, c, d, e⟩)
  refine ⟨h', S1, TX1, ?_, r1, i1, i2, i3, by omega⟩
  subst e2
  rw [nI_0] at e1
  simp [yD, sBlk, sSeq, sLi, eC, zSt, e1, zCut]
end ZL2
