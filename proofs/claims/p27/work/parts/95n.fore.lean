/-! the law: isForecast, cut into its parts -/
def wA : zSS := sSeq (sLi 3 (eCV 6 (rL 0) (aI (eL 1) (aI (eC 0) (aN))) fX6_orderOf)) (sSeq (sLi 4 (eCV 6 (rL 0) (aI (eL 1) (aI (eC 1) (aN))) fX6_orderOf)) (sSeq (sLi 5 (eCV 6 (rL 0) (aI (eL 1) (aI (eC 3) (aN))) fX6_orderOf)) (sSeq (sLi 6 (eCV 6 (rL 0) (aI (eL 3) (aI (eC 2) (aN))) fX6_shield)) (sSeq (sLi 7 (eB (bCmp o_eq (eCV 6 (rL 0) (aI (eL 3) (aI (eC 1) (aN))) fX6_shield) (eCV 6 (rL 0) (aI (eL 3) (aI (eC 0) (aN))) fX6_shield)))) (sLj 8 (jCS (aR (rL 0) (aN)) fL_digest))))))
def wB : zSS := sLi 10 (eCV 6 (rL 0) (aI (eL 2) (aN)) fX6_work)
def wC : zSS := sLi 11 (eCV 6 (rL 0) (aI (eL 3) (aI (eL 4) (aN))) fX6_plateFor)
def wD : zSS := sLi 12 (eB (bAnd (bZ z_ge (eL 11)) (bOr (bCmp o_eq (eCV 6 (rL 0) (aI (eL 11) (aI (eC 3) (aN))) fX6_plate) (eL 5)) (bCmp o_eq (eCV 6 (rL 0) (aI (eL 11) (aI (eC 4) (aN))) fX6_plate) (eL 5)))))
def wE : zSS := sIf (bOr (bCmp o_lt (eL 10) (eC 1)) (bAnd (bAnd (bNot (bZ z_ne (eL 12))) (bNot (bAnd (bZ z_ne (eL 7)) (bCmp o_lt (eL 4) (eL 6))))) (bCmp o_lt (eCV 6 (rL 0) (aI (eL 3) (aI (eC 1) (aN))) fX6_shield) (eCV 6 (rL 0) (aI (eL 3) (aI (eC 0) (aN))) fX6_shield)))) (sRi (eC 0)) sNop
def wF : zSS := sPop (eCV 6 (rL 0) (aN) fX6_undo)
def wG : zSS := sIf (bOr (bZ z_ne (jCmp (jCS (aR (rL 0) (aN)) fL_digest) (jL 8))) (bCmp o_ne (eCV 6 (rL 0) (aI (eL 1) (aN)) fX6_doneIn) (eL 2))) (sRi (eC 0)) sNop
def wT : zSS := sSeq (sLi 3 (eCV 6 (rL 0) (aI (eL 1) (aI (eC 0) (aN))) fX6_orderOf)) (sSeq (sLi 4 (eCV 6 (rL 0) (aI (eL 1) (aI (eC 1) (aN))) fX6_orderOf)) (sSeq (sLi 5 (eCV 6 (rL 0) (aI (eL 1) (aI (eC 3) (aN))) fX6_orderOf)) (sSeq (sLi 6 (eCV 6 (rL 0) (aI (eL 3) (aI (eC 2) (aN))) fX6_shield)) (sSeq (sLi 7 (eB (bCmp o_eq (eCV 6 (rL 0) (aI (eL 3) (aI (eC 1) (aN))) fX6_shield) (eCV 6 (rL 0) (aI (eL 3) (aI (eC 0) (aN))) fX6_shield)))) (sSeq (sLj 8 (jCS (aR (rL 0) (aN)) fL_digest)) (sSeq (sLi 10 (eCV 6 (rL 0) (aI (eL 2) (aN)) fX6_work)) (sSeq (sLi 11 (eCV 6 (rL 0) (aI (eL 3) (aI (eL 4) (aN))) fX6_plateFor)) (sSeq (sLi 12 (eB (bAnd (bZ z_ge (eL 11)) (bOr (bCmp o_eq (eCV 6 (rL 0) (aI (eL 11) (aI (eC 3) (aN))) fX6_plate) (eL 5)) (bCmp o_eq (eCV 6 (rL 0) (aI (eL 11) (aI (eC 4) (aN))) fX6_plate) (eL 5)))))) (sSeq (sIf (bOr (bCmp o_lt (eL 10) (eC 1)) (bAnd (bAnd (bNot (bZ z_ne (eL 12))) (bNot (bAnd (bZ z_ne (eL 7)) (bCmp o_lt (eL 4) (eL 6))))) (bCmp o_lt (eCV 6 (rL 0) (aI (eL 3) (aI (eC 1) (aN))) fX6_shield) (eCV 6 (rL 0) (aI (eL 3) (aI (eC 0) (aN))) fX6_shield)))) (sRi (eC 0)) sNop) (sSeq (sPop (eCV 6 (rL 0) (aN) fX6_undo)) (sIf (bOr (bZ z_ne (jCmp (jCS (aR (rL 0) (aN)) fL_digest) (jL 8))) (bCmp o_ne (eCV 6 (rL 0) (aI (eL 1) (aN)) fX6_doneIn) (eL 2))) (sRi (eC 0)) sNop)))))))))))
abbrev wI : zSS := sIf (bAnd (bZ z_gt (eL 2)) (bCmp o_le (eL 2) (eC 600))) (wT) sNop
abbrev wL : zSS := sSeq (sSeq (sLi 2 (eCV 6 (rL 0) (aI (eL 1) (aN)) fX6_doneIn)) (wI)) (sInc 1 1)
theorem bL_isForecast_eq : bL_isForecast = sSeq (sBlk (sSeq (sLi 1 (eC 0)) (sW 4000 (bCmp o_lt (eL 1) (eCV 6 (rL 0) (aI (eC 6) (aN)) fX6_count)) wL))) (sRi (eC 1)) := rfl
section ZF1
variable {h : zH} {b L' t nP nO c nt k n1 : Nat} {xs : Nat → Int32} {T W TX : Nat → Int32}
theorem lg_self (x : Int64) : lg_cmp x x = 0 := by
  have q : ¬ x > x := by simp only [gt_iff_lt, Int64.lt_iff_toInt_lt]; omega
  simp only [lg_cmp, if_neg q, if_true]
theorem tg_id (h : ∀ k, k < nO → sO T k 18 = nI k) : ∀ n, n ≤ nO → tgS T n = T
  | 0, _ => rfl
  | n + 1, hn => by
    have e := h n (by omega)
    simp only [tgS]
    rw [tg_id h n (by omega)]
    funext x
    simp only [upd]
    by_cases hx : x = 153 + 19 * n + 18
    · rw [if_pos hx, hx]; exact e.symm
    · rw [if_neg hx]
/-- work of the minutes that a forecast names for an order ends with that order -/
theorem fore_main (j : J T nP nO c) (tg : ∀ k, k < nO → sO T k 18 = nI k) (hk : k < nO) (hm : 0 < doneR T nP nO k) :
    ∃ n1 sh, Iv (wkR nP (nO + 1) (doneR T nP nO k) T nO) 2 nP n1 ∧ n1 < nO ∧ sO T k 0 = nI sh ∧ sh < 2 ∧
      ((∃ q sd, q < nP ∧ sd < 2 ∧ lastO (onY (wkR nP (nO + 1) (doneR T nP nO k) T nO) (nI sh) (sO T k 1)) nP = some q ∧ dP (wkR nP (nO + 1) (doneR T nP nO k) T nO) q sd = sO T k 3) ∨
        (wkR nP (nO + 1) (doneR T nP nO k) T nO (150 + sh)).toInt ≤ (cntN (onS (wkR nP (nO + 1) (doneR T nP nO k) T nO) (nI sh)) nP : Int)) := by
  obtain ⟨c0, c1, c2, c3, c4, c5⟩ := j.1.1
  have e0 : doneR T nP nO k = fcR nP (nO + 1) 0 T nO (fun _ => -9) k := by simp only [doneR]; rw [tg_id tg nO (Nat.le_refl _)]
  have tr : TgR T nO := fun a ha => ⟨a, by omega, tg a ha⟩
  rcases fore_work (nS := 2) nO T c 0 (fun _ => -9) k j.1 j.2.1 j.2.2.1 tr (by omega) with q | ⟨G, kg, p, sd, n1, x, c1', g1, g2, g3, g4, g5, g6, g7, g8, g9, g10, ⟨k0, hk0, g11⟩, g12⟩
  · rw [e0, q] at hm
    exact absurd hm (by decide)
  · have ex : doneR T nP nO k = x := by rw [e0, g7]; exact Int32.zero_add x
    rw [ex, g10 (nO + 1) (Nat.le_refl _)]
    have kk0 : k0 = k := by
      have := g11 18 (by omega)
      rw [g5, tg k0 hk0] at this
      exact (nI_inj9 (by omega) (by omega) this).symm
    subst kk0
    obtain ⟨⟨sh, hs3, hs⟩, -⟩ := g1.2.2.2.1 kg g4.2.1
    obtain ⟨-, f2, f3⟩ := fin_all g1 g3 g4 hs hs3
    obtain ⟨i1, ⟨c3', r3⟩, -, -⟩ := Iv_fin g1 g2 g4
    have hkg := g4.2.1
    refine ⟨n1 - 1, sh, i1, by omega, by rw [← g11 0 (by omega)]; exact hs, hs3, ?_⟩
    rw [← g11 1 (by omega), ← g11 3 (by omega)]
    rcases f3 with ⟨p2, p5, p6, pd⟩ | fu
    · left
      have on : onY (finR G nP n1) (nI sh) (sO G kg 1) p = true := by simp [onY, onS, p2, p5, p6]
      obtain ⟨q, hq⟩ := lastO_has g4.2.2.2.1 on
      obtain ⟨q1, q2⟩ := lastO_lt hq
      have : q = p := onY_uni i1.2.2.2.2 (nI sh) (sO G kg 1) q p q1 g4.2.2.2.1 q2 on
      subst this
      exact ⟨q, sd, q1, g4.2.2.2.2.2.1, hq, pd⟩
    · right
      rw [f2 sh (by omega)]
      exact fu
set_option maxRecDepth 100000 in
set_option maxHeartbeats 2000000 in
/-- the checks behind the work -/
theorem fc_check {m y d fst done : Int32} {F : Bool} {k sh : Nat} {had : Int64} (r : Rw h b L' xs t W nt TX) (iv : Iv W 2 nP n1) (hsh : sh < 2) (hy : (decide (1 ≤ y) && decide (y ≤ 999)) = true) (hd : o_lt done 1 = false)
    (hc : (∃ q sd, q < nP ∧ sd < 2 ∧ lastO (onY W (nI sh) y) nP = some q ∧ dP W q sd = d) ∨ (W (150 + sh)).toInt ≤ (cntN (onS W (nI sh)) nP : Int)) :
    ∃ pl B, wC [.ref t, .int (nI k), .int m, .int (nI sh), .int y, .int d, .int fst, .int (bI F), .long had, .null, .int done] h = some (.inl ([.ref t, .int (nI k), .int m, .int (nI sh), .int y, .int d, .int fst, .int (bI F), .long had, .null, .int done, .int pl], h)) ∧
      wD [.ref t, .int (nI k), .int m, .int (nI sh), .int y, .int d, .int fst, .int (bI F), .long had, .null, .int done, .int pl] h = some (.inl ([.ref t, .int (nI k), .int m, .int (nI sh), .int y, .int d, .int fst, .int (bI F), .long had, .null, .int done, .int pl, .int (bI B)], h)) ∧
      wE [.ref t, .int (nI k), .int m, .int (nI sh), .int y, .int d, .int fst, .int (bI F), .long had, .null, .int done, .int pl, .int (bI B)] h = some (.inl ([.ref t, .int (nI k), .int m, .int (nI sh), .int y, .int d, .int fst, .int (bI F), .long had, .null, .int done, .int pl, .int (bI B)], h)) := by
  obtain ⟨c0, c1, c2, c3, c4, c5⟩ := iv.1
  have ii := r.top
  have pf := rd_plateFor (y := y) r iv hsh hy
  have s0 := rd_shield (y := 0) r iv hsh (by omega)
  have s1 := rd_shield (y := 1) r iv hsh (by omega)
  rw [nI_0, show shV W nP sh 0 = W (150 + sh) from rfl] at s0
  rw [show nI 1 = 1 from rfl, show shV W nP sh 1 = cnt (onS W (nI sh)) nP from rfl] at s1
  have cle := cntN_le (onS W (nI sh)) nP
  cases hl : lastO (onY W (nI sh) y) nP with
  | none =>
    rw [hl] at pf
    simp only [toI] at pf
    have zg : z_ge (-9) = false := rfl
    have full : o_lt (cnt (onS W (nI sh)) nP) (W (150 + sh)) = false := by
      rcases hc with ⟨q, sd, -, -, hq, -⟩ | fu
      · rw [hl] at hq; cases hq
      · simp only [o_lt]
        exact decide_eq_false (by rw [i_lt, cnt_int (by omega)]; omega)
    refine ⟨-9, false, ?_, ?_, ?_⟩
    · simp [wC, sLi, eCV, rL, aI, eL, aN, ii, pf, zSt]
    · simp [wD, sLi, eB_bI, bAnd, bZ, eL, zg, zSt]
    · cases F <;> cases hF : o_lt y fst <;> simp [wE, sIf, bOr, bCmp, eL, eC, hd, bAnd, bNot, bZ, z_ne_bI, hF, eCV, rL, aI, aN, ii, s1, s0, full, sNop, zCut]
  | some q =>
    rw [hl] at pf
    simp only [toI] at pf
    have hq := (lastO_lt hl).1
    have zg : z_ge (nI q) = true := decide_eq_true (nI_nn (by omega))
    have p3 := rd_plate (y := 3) r iv hq (by omega)
    have p4 := rd_plate (y := 4) r iv hq (by omega)
    rw [show nI 3 = 3 from rfl, show plV W q 3 = sP W q 3 from rfl] at p3
    rw [show nI 4 = 4 from rfl, show plV W q 4 = sP W q 4 from rfl] at p4
    have ok : (o_eq (sP W q 3) d || o_eq (sP W q 4) d) = true ∨ o_lt (cnt (onS W (nI sh)) nP) (W (150 + sh)) = false := by
      rcases hc with ⟨q', sd, -, hsd, hq', e⟩ | fu
      · left
        rw [hl] at hq'
        cases hq'
        rcases (show sd = 0 ∨ sd = 1 by omega) with rfl | rfl
        · rw [show o_eq (sP W q 3) d = true from decide_eq_true e, Bool.true_or]
        · rw [show o_eq (sP W q 4) d = true from decide_eq_true e, Bool.or_true]
      · right
        simp only [o_lt]
        exact decide_eq_false (by rw [i_lt, cnt_int (by omega)]; omega)
    refine ⟨nI q, o_eq (sP W q 3) d || o_eq (sP W q 4) d, ?_, ?_, ?_⟩
    · simp [wC, sLi, eCV, rL, aI, eL, aN, ii, pf, zSt]
    · cases h3 : o_eq (sP W q 3) d <;> cases h4 : o_eq (sP W q 4) d <;> simp [wD, sLi, eB_bI, bAnd, bOr, bCmp, bZ, eL, eC, zg, eCV, rL, aI, aN, ii, p3, p4, h3, h4, zSt]
    · cases hB : (o_eq (sP W q 3) d || o_eq (sP W q 4) d) with
      | true => simp [wE, sIf, bOr, bCmp, eL, eC, hd, bAnd, bNot, bZ, z_ne_bI, sNop, zCut]
      | false =>
        rw [hB] at ok
        have full : o_lt (cnt (onS W (nI sh)) nP) (W (150 + sh)) = false := ok.resolve_left (by decide)
        cases F <;> cases hF : o_lt y fst <;> simp [wE, sIf, bOr, bCmp, eL, eC, hd, bAnd, bNot, bZ, z_ne_bI, hF, eCV, rL, aI, aN, ii, s1, s0, full, sNop, zCut]
set_option maxRecDepth 100000 in
set_option maxHeartbeats 2000000 in
theorem fc_body (j : J T nP nO c) (tg : ∀ k, k < nO → sO T k 18 = nI k) (hk : k < nO) (r : Rw h b L' xs t T nt TX) : ∃ h1, (wL [.ref t, .int (nI k)] h).map (zCut [.ref t, .int (nI k)]) = some (.inl ([.ref t, .int (nI (k + 1))], h1)) ∧ Rw h1 b L' xs t T nt TX := by
  obtain ⟨c0, c1, c2, c3, c4, c5⟩ := j.1.1
  obtain ⟨h1, d1, r1⟩ := do_doneIn r j.1 j.2.1 hk
  have ii := r.top
  have ii1 := r1.top
  cases hz : z_gt (doneR T nP nO k) with
  | false =>
    refine ⟨h1, ?_, r1⟩
    simp [wL, sSeq, sLi, eCV, rL, aI, eL, aN, ii, d1, zSt, wI, sIf, bAnd, bZ, hz, sNop, zCut, sInc, nI_1]
  | true =>
    cases hl : o_le (doneR T nP nO k) 600 with
    | false =>
      refine ⟨h1, ?_, r1⟩
      simp [wL, sSeq, sLi, eCV, rL, aI, eL, eC, aN, ii, d1, zSt, wI, sIf, bAnd, bCmp, bZ, hz, hl, sNop, zCut, sInc, nI_1]
    | true =>
      have hm0 : 0 < doneR T nP nO k := of_decide_eq_true hz
      have hm6 : doneR T nP nO k ≤ 600 := of_decide_eq_true hl
      have hm : (decide (1 ≤ doneR T nP nO k) && decide (doneR T nP nO k ≤ 600)) = true := by
        rw [Bool.and_eq_true, decide_eq_true_eq, decide_eq_true_eq]
        refine ⟨?_, hm6⟩
        rw [i_lt, i_0] at hm0
        rw [i_le, i_1]
        omega
      obtain ⟨n1, sh, f1, f2, f3, f4, f5⟩ := fore_main j tg hk hm0
      obtain ⟨n2, c2', w1, w2, w3, w4⟩ := work_any j hm
      obtain ⟨-, -, en⟩ := Iv_one f1 w2.1
      have en' := en.symm
      subst en'
      obtain ⟨h2, e2, u2⟩ := w4 h1 b L' t xs nt TX r1
      obtain ⟨v3, h3, e3, r3⟩ := do_undo u2
      obtain ⟨h4, d4, r4⟩ := do_doneIn r3 j.1 j.2.1 hk
      have g3 := L_digest r3 j.1 j.2.1
      have g1 := L_digest r1 j.1 j.2.1
      have ii2 := u2.w.top
      have ii3 := r3.top
      have o0 := rd_orderOf (y := 0) r1 j.1 hk (by omega)
      have o1 := rd_orderOf (y := 1) r1 j.1 hk (by omega)
      have o3 := rd_orderOf (y := 3) r1 j.1 hk (by omega)
      rw [nI_0, show orV T k 0 = sO T k 0 from rfl, f3] at o0
      rw [show nI 1 = 1 from rfl, show orV T k 1 = sO T k 1 from rfl] at o1
      rw [show nI 3 = 3 from rfl, show orV T k 3 = sO T k 3 from rfl] at o3
      have s2 := rd_shield (y := 2) r1 j.1 f4 (by omega)
      have s1 := rd_shield (y := 1) r1 j.1 f4 (by omega)
      have s0 := rd_shield (y := 0) r1 j.1 f4 (by omega)
      rw [show nI 2 = 2 from rfl] at s2
      rw [show nI 1 = 1 from rfl] at s1
      rw [nI_0] at s0
      obtain ⟨-, y1, y9, -⟩ := j.1.2.2.2.1 k hk
      have dn : o_lt (nI (nO - n1)) 1 = false := by
        simp only [o_lt]
        exact decide_eq_false (by rw [i_lt, i_1, nI_int (by omega)]; omega)
      obtain ⟨pl, B, k1, k2, k3⟩ := fc_check (m := doneR T nP nO k) (y := sO T k 1) (d := sO T k 3) (fst := shV T nP sh 2) (done := nI (nO - n1)) (F := o_eq (shV T nP sh 1) (shV T nP sh 0)) (k := k) (had := dig T 2 nP nO c) u2.w f1 f4 (by rw [Bool.and_eq_true, decide_eq_true_eq, decide_eq_true_eq]; exact ⟨y1, y9⟩) dn f5
      have ls := lg_self (dig T 2 nP nO c)
      have z0 : z_ne 0 = false := rfl
      have aA : wA [.ref t, .int (nI k), .int (doneR T nP nO k)] h1 = some (.inl ([.ref t, .int (nI k), .int (doneR T nP nO k), .int (nI sh), .int (sO T k 1), .int (sO T k 3), .int (shV T nP sh 2), .int (bI (o_eq (shV T nP sh 1) (shV T nP sh 0))), .long (dig T 2 nP nO c), .null], h1)) := by
        simp [wA, sSeq, sLi, eCV, rL, aI, eL, eC, aN, ii1, o0, o1, o3, s2, s1, s0, eB_bI, bCmp, zSt, sLj, jCS, aR, g1, zStJ]
      have aB : wB [.ref t, .int (nI k), .int (doneR T nP nO k), .int (nI sh), .int (sO T k 1), .int (sO T k 3), .int (shV T nP sh 2), .int (bI (o_eq (shV T nP sh 1) (shV T nP sh 0))), .long (dig T 2 nP nO c), .null] h1 = some (.inl ([.ref t, .int (nI k), .int (doneR T nP nO k), .int (nI sh), .int (sO T k 1), .int (sO T k 3), .int (shV T nP sh 2), .int (bI (o_eq (shV T nP sh 1) (shV T nP sh 0))), .long (dig T 2 nP nO c), .null, .int (nI (nO - n1))], h2)) := by
        simp [wB, sLi, eCV, rL, aI, eL, aN, ii1, e2, zSt]
      have aF : wF [.ref t, .int (nI k), .int (doneR T nP nO k), .int (nI sh), .int (sO T k 1), .int (sO T k 3), .int (shV T nP sh 2), .int (bI (o_eq (shV T nP sh 1) (shV T nP sh 0))), .long (dig T 2 nP nO c), .null, .int (nI (nO - n1)), .int pl, .int (bI B)] h2 = some (.inl ([.ref t, .int (nI k), .int (doneR T nP nO k), .int (nI sh), .int (sO T k 1), .int (sO T k 3), .int (shV T nP sh 2), .int (bI (o_eq (shV T nP sh 1) (shV T nP sh 0))), .long (dig T 2 nP nO c), .null, .int (nI (nO - n1)), .int pl, .int (bI B)], h3)) := by
        simp [wF, sPop, eCV, rL, aN, ii2, e3]
      have aG : wG [.ref t, .int (nI k), .int (doneR T nP nO k), .int (nI sh), .int (sO T k 1), .int (sO T k 3), .int (shV T nP sh 2), .int (bI (o_eq (shV T nP sh 1) (shV T nP sh 0))), .long (dig T 2 nP nO c), .null, .int (nI (nO - n1)), .int pl, .int (bI B)] h3 = some (.inl ([.ref t, .int (nI k), .int (doneR T nP nO k), .int (nI sh), .int (sO T k 1), .int (sO T k 3), .int (shV T nP sh 2), .int (bI (o_eq (shV T nP sh 1) (shV T nP sh 0))), .long (dig T 2 nP nO c), .null, .int (nI (nO - n1)), .int pl, .int (bI B)], h4)) := by
        simp [wG, sIf, bOr, bZ, jCmp, jCS, aR, rL, aN, g3, jL, ls, z0, bCmp, eCV, aI, eL, ii3, d4, o_ne_self, sNop, zCut]
      have aT : wT [.ref t, .int (nI k), .int (doneR T nP nO k)] h1 = some (.inl ([.ref t, .int (nI k), .int (doneR T nP nO k), .int (nI sh), .int (sO T k 1), .int (sO T k 3), .int (shV T nP sh 2), .int (bI (o_eq (shV T nP sh 1) (shV T nP sh 0))), .long (dig T 2 nP nO c), .null, .int (nI (nO - n1)), .int pl, .int (bI B)], h4)) := by
        have sq : ∀ (f g : zSS) (en en1 : List Value) (h h1 : zH), f en h = some (.inl (en1, h1)) → sSeq f g en h = g en1 h1 := fun f g en en1 h h1 e => by simp only [sSeq, e, Option.bind_some]
        have s6 : ∀ (f1 f2 f3 f4 f5 f6 g : zSS) (en : List Value) (h : zH), sSeq f1 (sSeq f2 (sSeq f3 (sSeq f4 (sSeq f5 (sSeq f6 g))))) en h = sSeq (sSeq f1 (sSeq f2 (sSeq f3 (sSeq f4 (sSeq f5 f6))))) g en h := fun f1 f2 f3 f4 f5 f6 g en h => by
          simp only [sSeq]
          cases f1 en h with
          | none => rfl
          | some r1 =>
            cases r1 with
            | inr z => rfl
            | inl q1 =>
              simp only [Option.bind_some]
              cases f2 q1.1 q1.2 with
              | none => rfl
              | some r2 =>
                cases r2 with
                | inr z => rfl
                | inl q2 =>
                  simp only [Option.bind_some]
                  cases f3 q2.1 q2.2 with
                  | none => rfl
                  | some r3 =>
                    cases r3 with
                    | inr z => rfl
                    | inl q3 =>
                      simp only [Option.bind_some]
                      cases f4 q3.1 q3.2 with
                      | none => rfl
                      | some r4 =>
                        cases r4 with
                        | inr z => rfl
                        | inl q4 =>
                          simp only [Option.bind_some]
                          cases f5 q4.1 q4.2 with
                          | none => rfl
                          | some r5 =>
                            cases r5 with
                            | inr z => rfl
                            | inl q5 => rfl
        show sSeq _ (sSeq _ (sSeq _ (sSeq _ (sSeq _ (sSeq _ (sSeq wB (sSeq wC (sSeq wD (sSeq wE (sSeq wF wG)))))))))) _ _ = _
        rw [s6]
        show sSeq wA (sSeq wB (sSeq wC (sSeq wD (sSeq wE (sSeq wF wG))))) _ _ = _
        rw [sq _ _ _ _ _ _ aA, sq _ _ _ _ _ _ aB, sq _ _ _ _ _ _ k1, sq _ _ _ _ _ _ k2, sq _ _ _ _ _ _ k3, sq _ _ _ _ _ _ aF, aG]
      refine ⟨h4, ?_, r4⟩
      simp [wL, sSeq, sLi, eCV, rL, aI, eL, eC, aN, ii, d1, zSt, wI, sIf, bAnd, bCmp, bZ, hz, hl]
      simp [aT, zCut, sInc, eL, zSt, nI_1]
set_option maxRecDepth 100000 in
theorem fc_loop (j : J T nP nO c) (tg : ∀ k, k < nO → sO T k 18 = nI k) : ∀ (d N k : Nat) (h : zH), k + d = nO → d < N → Rw h b L' xs t T nt TX → ∃ h1, sW N (bCmp o_lt (eL 1) (eCV 6 (rL 0) (aI (eC 6) (aN)) fX6_count)) wL [.ref t, .int (nI k)] h = some (.inl ([.ref t, .int (nI nO)], h1)) ∧ Rw h1 b L' xs t T nt TX
  | 0, N, k, h, hd, hN, r => by
    obtain ⟨N, rfl⟩ : ∃ m, N = m + 1 := ⟨N - 1, by omega⟩
    obtain ⟨c0, c1, c2, c3, c4, c5⟩ := j.1.1
    have e : k = nO := by omega
    subst e
    have q := ct_en r (c_6 r j.1 j.2.1) (en := [.ref t, .int (nI k)]) rfl
    exact ⟨h, sW_stop (by simp only [bCmp, eL, List.getElem?_cons_zero, List.getElem?_cons_succ, Option.bind_some, q, o_lt_nI (a := k) (b := k) (by omega) (by omega)]; rw [decide_eq_false (by omega)]), r⟩
  | d + 1, N, k, h, hd, hN, r => by
    obtain ⟨N, rfl⟩ : ∃ m, N = m + 1 := ⟨N - 1, by omega⟩
    obtain ⟨c0, c1, c2, c3, c4, c5⟩ := j.1.1
    have q := ct_en r (c_6 r j.1 j.2.1) (en := [.ref t, .int (nI k)]) rfl
    obtain ⟨h1, e1, r1⟩ := fc_body j tg (show k < nO by omega) r
    obtain ⟨h2, e2, r2⟩ := fc_loop j tg d N (k + 1) h1 (by omega) (by omega) r1
    refine ⟨h2, ?_, r2⟩
    obtain ⟨p, e3, e4⟩ := zCut_inl e1
    have e5 := congrArg Prod.fst e4
    have e6 := congrArg Prod.snd e4
    dsimp only at e5 e6
    rw [sW_turn (h1 := h) (en1 := p.1) (h2 := h1) (by simp only [bCmp, eL, List.getElem?_cons_zero, List.getElem?_cons_succ, Option.bind_some, q, o_lt_nI (a := k) (b := nO) (by omega) (by omega)]; rw [decide_eq_true (by omega)]) (by rw [e3, ← e6]) e5]
    exact e2
set_option maxRecDepth 100000 in
theorem L_isForecast (j : J T nP nO c) (tg : ∀ k, k < nO → sO T k 18 = nI k) (r : Rw h b L' xs t T nt TX) : ∃ h1, fL_isForecast [.ref t] h = some (1, h1) ∧ Rw h1 b L' xs t T nt TX := by
  obtain ⟨h1, e1, r1⟩ := fc_loop j tg nO 4000 0 h (by omega) (by have := j.1.1.2.2.2.2.2; omega) r
  rw [nI_0] at e1
  refine ⟨h1, ?_, r1⟩
  simp [fL_isForecast, bL_isForecast_eq, mZ, sSeq, sBlk, sLi, eC, zSt, e1, zCut, sRi]
end ZF1
