/-! the end of the law -/
section ZL5
variable {h : zH} {b L t nP nO c nt i : Nat} {xs : Nat → Int32} {S TX : Nat → Int32} {v : Int32} {d : Int64}
set_option maxRecDepth 100000 in
theorem a_yH (r : Rw h b L xs t S 0 TX) (j : J S nP nO c) : yH [.ref b, .ref t, .int v, .long (dig S 2 nP nO c), .null] h = some (.inl ([.ref b, .ref t, .int v, .long (dig S 2 nP nO c), .null], h)) := by
  obtain ⟨c0, c1, c2, c3, c4, c5⟩ := j.1.1
  have q1 := bad_cut (h := h) (t := t) (w := 9) (th := 5) (by decide)
  have q2 := bad_addShield (h := h) (t := t) (w := 7) (by decide)
  have q3 := bad_append (h := h) (t := t) (v := 65) (by decide)
  have q4 := bad_work (h := h) (t := t) (v := 0) (by decide)
  have q5 := bad_order (v := 2) (y := 1) (sz := 1) (d := 1) (r := 0) r j.1 (by decide)
  have q6 := bad_plate (v := 20) (f := 0) r j.1 (by rw [show (20 : Int32) = nI 20 from rfl, hasB_nI (by omega) (by omega)]; exact decide_eq_false (by omega))
  have q7 := bad_doneIn (v := 10) r j.1 (by rw [show (10 : Int32) = nI 10 from rfl, hasB_nI (by omega) (by omega)]; exact decide_eq_false (by omega))
  have q8 := rd_length0 r
  have dq := dg_same (k := 3) (en := [.ref b, .ref t, .int v, .long (dig S 2 nP nO c), .null]) r j rfl rfl
  have ii := r.top
  have z : z_ne 0 = false := rfl
  have f : ∀ (A : zEA) (as : List Value) (fn : zFI), A [.ref b, .ref t, .int v, .long (dig S 2 nP nO c), .null] h = some (as, h) → fn (.ref t :: as) h = some (-1, h) → bCmp o_ne (eCV 6 (rL 1) A fn) (eC (-1)) [.ref b, .ref t, .int v, .long (dig S 2 nP nO c), .null] h = some (false, h) := fun A as fn e1 e2 => by
    simp [bCmp, eCV, rL, e1, ii, e2, eC, o_ne_self]
  have g1 := f (aI (eC 9) (aI (eC 5) (aN))) _ _ (by simp [aI, eC, aN]) q1
  have g2 := f (aI (eC 7) (aN)) _ _ (by simp [aI, eC, aN]) q2
  have g3 := f (aI (eC 65) (aN)) _ _ (by simp [aI, eC, aN]) q3
  have g4 := f (aI (eC 0) (aN)) _ _ (by simp [aI, eC, aN]) q4
  have g5 := f (aI (eC 2) (aI (eC 1) (aI (eC 1) (aI (eC 1) (aI (eC 0) (aN)))))) _ _ (by simp [aI, eC, aN]) q5
  have g6 := f (aI (eC 20) (aI (eC 0) (aN))) _ _ (by simp [aI, eC, aN]) q6
  have g7 := f (aI (eC 10) (aN)) _ _ (by simp [aI, eC, aN]) q7
  have g8 : bZ z_ne (eCV 6 (rL 1) (aI (eC 1) (aN)) fX6_lengthOf) [.ref b, .ref t, .int v, .long (dig S 2 nP nO c), .null] h = some (false, h) := by
    simp [bZ, eCV, rL, aI, eC, aN, ii, q8, z]
  refine if_no ?_
  simp [bOr, g1, g2, g3, g4, g5, g6, g7, g8, dq]
theorem a_yI (r : Rw h b L xs t S nt TX) (j : J S nP nO c) {en : List Value} (h1 : en[1]? = some (.ref t)) : ∃ h1, yI en h = some (.inr (some 1, h1)) := by
  have q := L_isRight r j.1 j.2.1 j.2.2.1
  obtain ⟨h2, q2, -⟩ := L_isForecast (tag_J j) tag_18 (tag_Rw r j)
  have z : z_ne 1 = true := rfl
  refine ⟨h2, ?_⟩
  simp [yI, sRi, eB, bAnd, bZ, eCS, aR, rL, h1, aN, q, q2, z]
theorem bL2_ok (hL : L ≤ 260) (r : Rw h b L xs t S00 0 (fun _ => 0)) : ∃ h2, bL2 [.ref b, .ref t] h = some (.inr (some 1, h2)) := by
  have eA := a_yA (t := t) r.1.1 hL
  obtain ⟨hB, SB, TB, eB', rB, iB, oB, jB, zB⟩ := a_yB (v := cellN L xs 0) r Iv_start ⟨Nat.le_refl _, fun j hj => absurd hj (by omega)⟩ EJ_start rfl
  obtain ⟨hC, SC, TC, eC', rC, iC, oC, jC'⟩ := a_yC (v := cellN L xs 0) rB iB oB jB zB
  obtain ⟨hD, SD, TD, eD, rD, jD⟩ := a_yD (v := cellN L xs 0) rC iC oC jC'
  obtain ⟨hE, eE, S', nP', nO', c', nt', TX', j', rE⟩ := a_yE (v := cellN L xs 0) rD jD hL
  obtain ⟨hF, qF, rF'⟩ := do_clearText rE
  have eF' : yF [.ref b, .ref t, .int (cellN L xs 0)] hE = some (.inl ([.ref b, .ref t, .int (cellN L xs 0)], hF)) := by
    simp [yF, sPop, eCV, rL, aN, rE.top, qF]
  have qG := L_digest rF' j'.1 j'.2.1
  have eG : yG [.ref b, .ref t, .int (cellN L xs 0)] hF = some (.inl ([.ref b, .ref t, .int (cellN L xs 0), .long (dig S' 2 nP' nO' c'), .null], hF)) := by
    simp [yG, sLj, jCS, aR, rL, aN, qG, zStJ]
  have eH := a_yH (v := cellN L xs 0) rF' j'
  obtain ⟨h2, eI'⟩ := a_yI (en := [.ref b, .ref t, .int (cellN L xs 0), .long (dig S' 2 nP' nO' c'), .null]) rF' j' rfl
  refine ⟨h2, ?_⟩
  rw [bL2_eq, seq1 eA, seq1 eB', seq1 eC', seq1 eD, seq1 eE, seq1 eF', seq1 eG, seq1 eH, eI']
end ZL5
theorem law_pure (b L sz : Nat) (xs : Nat → Int32) (hL : L ≤ 260) (hb : b < sz) : ∃ (en1 : List Value) (h1 h2 : zH), bL1 [.ref b] (sz, fun a => if a = b then some (xS L xs) else none) = some (.inl (en1, h1)) ∧ bL2 en1 h1 = some (.inr (some 1, h2)) := by
  obtain ⟨h1, e1, r⟩ := bL1_ok (L := L) (xs := xs) sz hb
  obtain ⟨h2, e2⟩ := bL2_ok hL r
  exact ⟨_, h1, h2, e1, e2⟩
