/-! the law: isRight, cut into its loops -/
abbrev iY : zSS := sSeq (sSeq (sLi 6 (eCV 6 (rL 0) (aI (eL 3) (aI (eL 5) (aN))) fX6_plateFor)) (sSeq (sLi 4 (eOp (· + ·) (eL 4) (eT (bZ z_ge (eL 6)) (eC 1) (eC 0)))) (sIf (bAnd (bZ z_ge (eL 6)) (bOr (bOr (bCmp o_ne (eCV 6 (rL 0) (aI (eL 6) (aI (eC 2) (aN))) fX6_plate) (eC 2)) (bCmp o_ne (eCV 6 (rL 0) (aI (eL 6) (aI (eC 5) (aN))) fX6_plate) (eL 3))) (bCmp o_ne (eCV 6 (rL 0) (aI (eL 6) (aI (eC 6) (aN))) fX6_plate) (eL 5)))) (sRi (eC 0)) sNop))) (sInc 5 1)
abbrev iYL : zSS := sBlk (sSeq (sLi 5 (eC 1)) (sW 4000 (bCmp o_lt (eL 5) (eC 13)) iY))
abbrev iIf : zSS := sIf (bOr (bOr (bOr (bCmp o_ne (eL 4) (eCV 6 (rL 0) (aI (eL 3) (aI (eC 1) (aN))) fX6_shield)) (bCmp o_gt (eL 4) (eCV 6 (rL 0) (aI (eL 3) (aI (eC 0) (aN))) fX6_shield))) (bCmp o_ne (eCV 6 (rL 0) (aI (eL 3) (aI (eC 4) (aN))) fX6_shield) (eT (bZ z_eq (eL 4)) (eC 0) (eOp (· - ·) (eOp (· + ·) (eOp (· - ·) (eL 6) (eL 5)) (eC 1)) (eL 4))))) (bAnd (bZ z_gt (eL 4)) (bOr (bZ z_lt (eCV 6 (rL 0) (aI (eL 3) (aI (eL 5) (aN))) fX6_plateFor)) (bZ z_lt (eCV 6 (rL 0) (aI (eL 3) (aI (eL 6) (aN))) fX6_plateFor))))) (sRi (eC 0)) sNop
abbrev iK : zSS := sSeq (sSeq (sLi 4 (eC 0)) (sSeq (iYL) (sSeq (sLi 5 (eCV 6 (rL 0) (aI (eL 3) (aI (eC 2) (aN))) fX6_shield)) (sSeq (sLi 6 (eCV 6 (rL 0) (aI (eL 3) (aI (eC 3) (aN))) fX6_shield)) (sSeq (iIf) (sSeq (sLi 1 (eOp (· + ·) (eL 1) (eL 4))) (sLi 2 (eOp (· + ·) (eL 2) (eCV 6 (rL 0) (aI (eL 3) (aI (eC 0) (aN))) fX6_shield))))))))) (sInc 3 1)
abbrev iP : zSS := sSeq (sSeq (sLi 4 (eCV 6 (rL 0) (aI (eL 3) (aI (eC 2) (aN))) fX6_plate)) (sIf (bOr (bOr (bAnd (bCmp o_ne (eL 4) (eC 3)) (bCmp o_lt (eCV 6 (rL 0) (aI (eL 3) (aI (eC 1) (aN))) fX6_plate) (eOp (· + ·) (eOp (· + ·) (eC 2) (eCV 6 (rL 0) (aI (eL 3) (aI (eC 3) (aN))) fX6_plate)) (eCV 6 (rL 0) (aI (eL 3) (aI (eC 4) (aN))) fX6_plate)))) (bAnd (bCmp o_eq (eL 4) (eC 1)) (bCmp o_ne (eCV 6 (rL 0) (aI (eC 10) (aN)) fX6_count) (eL 3)))) (bCmp o_ne (eB (bCmp o_eq (eL 4) (eC 2))) (eB (bZ z_ge (eCV 6 (rL 0) (aI (eL 3) (aI (eC 5) (aN))) fX6_plate))))) (sRi (eC 0)) sNop)) (sInc 3 1)
abbrev iJ : zSS := sSeq (sIf (bAnd (bCmp o_eq (eCV 6 (rL 0) (aI (eL 5) (aI (eC 0) (aN))) fX6_orderOf) (eCV 6 (rL 0) (aI (eL 4) (aI (eC 0) (aN))) fX6_orderOf)) (bCmp o_eq (eCV 6 (rL 0) (aI (eL 5) (aI (eC 1) (aN))) fX6_orderOf) (eCV 6 (rL 0) (aI (eL 4) (aI (eC 1) (aN))) fX6_orderOf))) (sRi (eC 0)) sNop) (sInc 5 1)
abbrev iJL : zSS := sBlk (sSeq (sLi 5 (eC 0)) (sW 4000 (bCmp o_lt (eL 5) (eL 4)) iJ))
abbrev iOf : zSS := sIf (bOr (bOr (bAnd (bZ z_gt (eL 4)) (bCmp o_gt (eCV 6 (rL 0) (aI (eL 4) (aI (eC 4) (aN))) fX6_orderOf) (eCV 6 (rL 0) (aI (eOp (· - ·) (eL 4) (eC 1)) (aI (eC 4) (aN))) fX6_orderOf))) (bZ z_ge (eCV 6 (rL 0) (aI (eCV 6 (rL 0) (aI (eL 4) (aI (eC 0) (aN))) fX6_orderOf) (aI (eCV 6 (rL 0) (aI (eL 4) (aI (eC 1) (aN))) fX6_orderOf) (aN))) fX6_plateFor))) (bCmp o_ne (eCV 6 (rL 0) (aI (eL 4) (aI (eC 7) (aN))) fX6_orderOf) (eOp (· * ·) (eCV 6 (rL 0) (aI (eL 4) (aI (eC 5) (aN))) fX6_orderOf) (eOp (· + ·) (eCV 6 (rL 0) (aI (eL 4) (aI (eC 2) (aN))) fX6_orderOf) (eCV 6 (rL 0) (aI (eL 4) (aI (eC 3) (aN))) fX6_orderOf))))) (sRi (eC 0)) sNop
abbrev iO : zSS := sSeq (sSeq (sLi 3 (eOp (· + ·) (eL 3) (eCV 6 (rL 0) (aI (eL 4) (aI (eC 4) (aN))) fX6_orderOf))) (sSeq (iOf) (iJL))) (sInc 4 1)
abbrev iF : zSS := sRi (eB (bAnd (bAnd (bAnd (bAnd (bAnd (bAnd (bCmp o_eq (eL 1) (eCV 6 (rL 0) (aI (eC 2) (aN)) fX6_count)) (bCmp o_ge (eL 2) (eL 1))) (bCmp o_eq (eL 3) (eCV 6 (rL 0) (aI (eC 7) (aN)) fX6_count))) (bCmp o_eq (eOp (· + ·) (eOp (· + ·) (eOp (· + ·) (eCV 6 (rL 0) (aI (eC 0) (aN)) fX6_count) (eCV 6 (rL 0) (aI (eC 1) (aN)) fX6_count)) (eCV 6 (rL 0) (aI (eC 2) (aN)) fX6_count)) (eCV 6 (rL 0) (aI (eC 3) (aN)) fX6_count)) (eCV 6 (rL 0) (aI (eC 4) (aN)) fX6_count))) (bCmp o_eq (eCV 6 (rL 0) (aI (eC 1) (aN)) fX6_count) (eT (bZ z_ne (eL 4)) (eC 1) (eC 0)))) (bCmp o_eq (eL 4) (eB (bZ z_gt (eCV 6 (rL 0) (aI (eC 9) (aN)) fX6_count))))) (bCmp o_eq (eL 4) (eB (bZ z_ge (eCV 6 (rL 0) (aI (eC 10) (aN)) fX6_count))))))
abbrev iB1 : zSS := sBlk (sSeq (sLi 3 (eC 0)) (sW 4000 (bCmp o_lt (eL 3) (eCV 6 (rL 0) (aI (eC 5) (aN)) fX6_count)) iK))
abbrev iB2 : zSS := sBlk (sSeq (sLi 3 (eC 0)) (sW 4000 (bCmp o_lt (eL 3) (eCV 6 (rL 0) (aI (eC 4) (aN)) fX6_count)) iP))
abbrev iB3 : zSS := sBlk (sSeq (sLi 4 (eC 0)) (sW 4000 (bCmp o_lt (eL 4) (eCV 6 (rL 0) (aI (eC 6) (aN)) fX6_count)) iO))
theorem bL_isRight_eq : bL_isRight = sSeq (sLi 1 (eC 0)) (sSeq (sLi 2 (eC 0)) (sSeq (iB1) (sSeq (iB2) (sSeq (sLi 3 (eC 0)) (sSeq (iB3) (sSeq (sLi 4 (eB (bZ z_ge (eCV 6 (rL 0) (aI (eC 8) (aN)) fX6_count)))) (iF))))))) := rfl
theorem o_ne_self (a : Int32) : o_ne a a = false := by simp [o_ne]
section ZR1
variable {h : zH} {b L' t nS nP nO c nt k : Nat} {xs : Nat → Int32} {S TX : Nat → Int32}
/-- the years of a shield that bear a plate, of the first i -/
def yrB (S : Nat → Int32) (nP k i : Nat) : Bool := isS1 (lastO (onY S (nI k) (nI (1 + i))) nP)
theorem rd_pl2 {p : Nat} (r : Rw h b L' xs t S nt TX) (iv : Iv S nS nP nO) (hp0 : p < nP) (h2 : sP S p 2 = 2) : fX6_plate [.ref t, .int (nI p), .int 2] h = some (2, h) ∧ fX6_plate [.ref t, .int (nI p), .int 5] h = some (sP S p 5, h) ∧ fX6_plate [.ref t, .int (nI p), .int 6] h = some (sP S p 6, h) := by
  have q2 := rd_plate (y := 2) r iv hp0 (by omega)
  have q5 := rd_plate (y := 5) r iv hp0 (by omega)
  have q6 := rd_plate (y := 6) r iv hp0 (by omega)
  rw [show plV S p 2 = 2 from h2] at q2
  rw [show plV S p 5 = sP S p 5 by simp [plV, h2]] at q5
  rw [show plV S p 6 = sP S p 6 by simp [plV, h2]] at q6
  exact ⟨q2, q5, q6⟩
set_option maxRecDepth 100000 in
theorem year_loop (r : Rw h b L' xs t S nt TX) (iv : Iv S nS nP nO) (hk : k < nS) (on pl : Int32) : iYL [.ref t, .int on, .int pl, .int (nI k), .int 0] h = some (.inl ([.ref t, .int on, .int pl, .int (nI k), .int (nI (cntN (yrB S nP k) 12))], h)) := by
  obtain ⟨c0, c1, c2, c3, c4, c5⟩ := iv.1
  have ii := r.top
  have LL := sW_run (c := bCmp o_lt (eL 5) (eC 13)) (f := iY) (fun i => ([.ref t, .int on, .int pl, .int (nI k), .int (nI (cntN (yrB S nP k) i)), .int (nI (1 + i))], h)) 12 12 4000 0 (by omega) (by omega) (by omega)
    (fun i g1 g2 => by
      have e := o_lt_nI (a := 1 + i) (b := 13) (by omega) (by omega)
      rw [show (nI 13 : Int32) = 13 from rfl] at e
      rw [show decide (i < 12) = decide (1 + i < 13) from decide_eq_decide.mpr (by omega), ← e]
      simp [bCmp, eL, eC])
    (fun i g1 g2 => by
      have pf := rd_plateFor (y := nI (1 + i)) r iv hk (rng (a := 1) (b := 999) (A := 1) (B := 999) rfl rfl (by omega) (by omega) (by omega) (by omega))
      have e1 : 1 + i + 1 = 1 + (i + 1) := by omega
      cases hl : lastO (onY S (nI k) (nI (1 + i))) nP with
      | none =>
        rw [hl] at pf
        have z : z_ge (-9) = false := rfl
        have ec : cntN (yrB S nP k) (i + 1) = cntN (yrB S nP k) i := by simp [cntN, yrB, hl, isS1]
        simp only [toI] at pf
        simp [iY, sSeq, sLi, eCV, rL, aI, eL, aN, ii, pf, zSt, eOp, eT, bZ, z, eC, sIf, bAnd, sNop, zCut, sInc, nI_1, ec, e1]
      | some p =>
        rw [hl] at pf
        simp only [toI] at pf
        obtain ⟨hp0, hb⟩ := lastO_lt hl
        simp only [onY, onS, Bool.and_eq_true, decide_eq_true_eq] at hb
        obtain ⟨q2, q5, q6⟩ := rd_pl2 r iv hp0 hb.1.1
        rw [hb.1.2] at q5
        rw [hb.2] at q6
        have z : z_ge (nI p) = true := decide_eq_true (nI_nn (by omega))
        have ec : cntN (yrB S nP k) (i + 1) = cntN (yrB S nP k) i + 1 := by simp [cntN, yrB, hl, isS1]
        simp [iY, sSeq, sLi, eCV, rL, aI, eL, aN, ii, pf, zSt, eOp, eT, bZ, z, eC, sIf, bAnd, bOr, bCmp, q2, q5, q6, o_ne_self, sNop, zCut, sInc, nI_1, ec, e1])
  rw [show (nI (1 + 0) : Int32) = 1 from rfl, show nI (cntN (yrB S nP k) 0) = (0 : Int32) from rfl] at LL
  simp [iYL, sBlk, sSeq, sLi, eC, zSt, LL, zCut]
/-- the year found on a shield that bears a plate -/
theorem yr_has (iv : Iv S nS nP nO) (hk : k < nS) {sg : Int32} {p0 : Nat} (hp0 : p0 < nP) (hb : onS S (nI k) p0 = true) : ∃ q, q < nP ∧ (decide (1 ≤ yrM (onS S (nI k)) (fun p => sP S p 6) sg nP) && decide (yrM (onS S (nI k)) (fun p => sP S p 6) sg nP ≤ 999)) = true ∧ lastO (onY S (nI k) (yrM (onS S (nI k)) (fun p => sP S p 6) sg nP)) nP = some q := by
  have ne := yrM_some (sg := sg) (y := fun p => sP S p 6) (year_ge iv.2.2.1 (nI k)) hp0 hb
  obtain ⟨q, q1, q2, q3⟩ := yrM_of ne
  obtain ⟨-, -, -, hh⟩ := iv.2.2.1 q q1
  obtain ⟨-, y1, y9⟩ := hh (onS_iff.mp q2).1
  obtain ⟨z, hz⟩ := lastO_has (B := onY S (nI k) (yrM (onS S (nI k)) (fun p => sP S p 6) sg nP)) q1 (by rw [onY, q2, q3]; simp)
  exact ⟨z, (lastO_lt hz).1, by rw [q3, Bool.and_eq_true, decide_eq_true_eq, decide_eq_true_eq]; exact ⟨y1, y9⟩, hz⟩
theorem cntN_pos {B : Nat → Bool} : ∀ n, 0 < cntN B n → ∃ p, p < n ∧ B p = true
  | 0, h => by simp [cntN] at h
  | n + 1, h => by
    simp only [cntN] at h
    cases hb : B n with
    | true => exact ⟨n, by omega, hb⟩
    | false =>
      rw [hb] at h
      obtain ⟨p, hp0, e⟩ := cntN_pos n (by simpa using h)
      exact ⟨p, by omega, e⟩
abbrev onK (S : Nat → Int32) (nP k : Nat) : Nat := sumN (fun i => cntN (onS S (nI i)) nP) k
abbrev plK (S : Nat → Int32) (k : Nat) : Int32 := sumM (fun i => S (150 + i)) k
set_option maxRecDepth 100000 in
set_option maxHeartbeats 1000000 in
theorem shield_step (r : Rw h b L' xs t S nt TX) (iv : Iv S nS nP nO) (ej : EJ S nS nP nO) (hk : k < nS) : (iK [.ref t, .int (nI (onK S nP k)), .int (plK S k), .int (nI k)] h).map (zCut [.ref t, .int (nI (onK S nP k)), .int (plK S k), .int (nI k)]) = some (.inl ([.ref t, .int (nI (onK S nP (k + 1))), .int (plK S (k + 1)), .int (nI (k + 1))], h)) := by
  obtain ⟨c0, c1, c2, c3, c4, c5⟩ := iv.1
  have ii := r.top
  have yl := year_loop r iv hk (nI (onK S nP k)) (plK S k)
  rw [show cntN (yrB S nP k) 12 = cntN (onS S (nI k)) nP from year_cnt iv ej.1 k] at yl
  obtain ⟨s1, s2, s3⟩ := ej.2.2.2 k hk
  have q0 := rd_shield (y := 0) r iv hk (by omega)
  have q1 := rd_shield (y := 1) r iv hk (by omega)
  have q2 := rd_shield (y := 2) r iv hk (by omega)
  have q3 := rd_shield (y := 3) r iv hk (by omega)
  have q4 := rd_shield (y := 4) r iv hk (by omega)
  have cN := cnt_N (onS S (nI k)) nP
  rw [nI_0, show shV S nP k 0 = S (150 + k) from rfl] at q0
  rw [show nI 1 = 1 from rfl, show shV S nP k 1 = cnt (onS S (nI k)) nP from rfl, cN] at q1
  rw [show nI 2 = 2 from rfl, show shV S nP k 2 = yrM (onS S (nI k)) (fun p => sP S p 6) 1 nP from rfl] at q2
  rw [show nI 3 = 3 from rfl, show shV S nP k 3 = yrM (onS S (nI k)) (fun p => sP S p 6) (-1) nP from rfl] at q3
  rw [show nI 4 = 4 from rfl, show shV S nP k 4 = if cnt (onS S (nI k)) nP = 0 then 0 else yrM (onS S (nI k)) (fun p => sP S p 6) (-1) nP - yrM (onS S (nI k)) (fun p => sP S p 6) 1 nP + 1 - cnt (onS S (nI k)) nP from rfl, cN] at q4
  have eo : onK S nP (k + 1) = onK S nP k + cntN (onS S (nI k)) nP := rfl
  have ep : plK S (k + 1) = plK S k + S (150 + k) := rfl
  rw [eo, ep, ← nI_add]
  have yh := fun (sg : Int32) (h0 : 0 < cntN (onS S (nI k)) nP) => (fun z => yr_has (sg := sg) iv hk z.choose_spec.1 z.choose_spec.2) (cntN_pos nP h0)
  have cle := cntN_le (onS S (nI k)) nP
  generalize hM : cntN (onS S (nI k)) nP = M at *
  have gt : o_gt (nI M) (S (150 + k)) = false := by
    simp only [o_gt]
    exact decide_eq_false (by rw [i_lt, nI_int (by omega)]; omega)
  by_cases h0 : M = 0
  · subst h0
    rw [nI_0, if_pos rfl] at q4
    rw [nI_0] at *
    have z1 : z_eq 0 = true := rfl
    have z2 : z_gt 0 = false := rfl
    simp only [iK, sSeq, sLi, eC, Option.bind_some, zSt, Option.map_some, yl, eCV, rL, aI, aN, eL, List.getElem?_cons_zero, List.getElem?_cons_succ]
    simp [ii, q2, q3, zSt, iIf, sIf, bOr, bCmp, eL, eCV, rL, aI, aN, eC, q1, o_ne_self, q0, gt, q4, eT, bZ, z1, bAnd, z2, sNop, zCut, sLi, eOp, sInc, nI_1]
  · have n0 : ¬ nI M = 0 := fun e => h0 (nI_inj9 (by omega) (by omega) (e.trans nI_0.symm))
    rw [if_neg n0] at q4
    have z1 : z_eq (nI M) = false := decide_eq_false n0
    have z2 : z_gt (nI M) = true := decide_eq_true (by rw [i_lt, i_0, nI_int (by omega)]; omega)
    obtain ⟨a1, a2, a3, a4⟩ := yh 1 (by omega)
    obtain ⟨b1, b2, b3, b4⟩ := yh (-1) (by omega)
    have pa := rd_plateFor r iv hk a3
    have pb := rd_plateFor r iv hk b3
    rw [a4] at pa
    rw [b4] at pb
    simp only [toI] at pa pb
    generalize yrM (onS S (nI k)) (fun p => sP S p 6) 1 nP = Y1 at *
    generalize yrM (onS S (nI k)) (fun p => sP S p 6) (-1) nP = Y2 at *
    have zl : ∀ q, q < nP → z_lt (nI q) = false := fun q hq => decide_eq_false (by rw [i_lt, i_0, nI_int (by omega)]; omega)
    have za := zl a1 a2
    have zb := zl b1 b2
    simp only [iK, sSeq, sLi, eC, Option.bind_some, zSt, Option.map_some, yl, eCV, rL, aI, aN, eL, List.getElem?_cons_zero, List.getElem?_cons_succ]
    simp [ii, q2, q3, zSt, iIf, sIf, bOr, bCmp, eL, eCV, rL, aI, aN, eC, q1, o_ne_self, q0, gt, q4, eT, bZ, z1, eOp, bAnd, z2, pa, pb, za, zb, sNop, zCut, sLi, sInc, nI_1]
theorem ct_en (r : Rw h b L' xs t S nt TX) {K v : Int32} (q : fX6_count [.ref t, .int K] h = some (v, h)) {en : List Value} (he : en[0]? = some (.ref t)) : eCV 6 (rL 0) (aI (eC K) (aN)) fX6_count en h = some (v, h) := by
  have ii := r.top
  simp [eCV, rL, he, aI, eC, aN, ii, q]
set_option maxRecDepth 100000 in
theorem right_1 (r : Rw h b L' xs t S nt TX) (iv : Iv S nS nP nO) (ir : IvR S nO c) (ej : EJ S nS nP nO) : iB1 [.ref t, .int 0, .int 0] h = some (.inl ([.ref t, .int (nI (onK S nP nS)), .int (plK S nS)], h)) := by
  obtain ⟨c0, c1, c2, c3, c4, c5⟩ := iv.1
  have LL := sW_run (c := bCmp o_lt (eL 3) (eCV 6 (rL 0) (aI (eC 5) (aN)) fX6_count)) (f := iK) (fun k => ([.ref t, .int (nI (onK S nP k)), .int (plK S k), .int (nI k)], h)) nS nS 4000 0 (by omega) (by omega) (by omega)
    (fun k g1 g2 => by
      have q := ct_en r (c_5 r iv ir) (en := [.ref t, .int (nI (onK S nP k)), .int (plK S k), .int (nI k)]) rfl
      simp only [bCmp, eL, List.getElem?_cons_zero, List.getElem?_cons_succ, Option.bind_some, q, o_lt_nI (a := k) (b := nS) (by omega) (by omega)])
    (fun k g1 g2 => shield_step r iv ej g2)
  rw [show nI (onK S nP 0) = (0 : Int32) from rfl, show plK S 0 = 0 from rfl] at LL
  simp only [nI_0] at LL
  simp [iB1, sBlk, sSeq, sLi, eC, zSt, LL, zCut]
set_option maxRecDepth 100000 in
set_option maxHeartbeats 1000000 in
theorem plate_step {p : Nat} {on pl : Int32} (r : Rw h b L' xs t S nt TX) (iv : Iv S nS nP nO) (ir : IvR S nO c) (ej : EJ S nS nP nO) (hp0 : p < nP) : (iP [.ref t, .int on, .int pl, .int (nI p)] h).map (zCut [.ref t, .int on, .int pl, .int (nI p)]) = some (.inl ([.ref t, .int on, .int pl, .int (nI (p + 1))], h)) := by
  obtain ⟨c0, c1, c2, c3, c4, c5⟩ := iv.1
  have ii := r.top
  have q1 := rd_plate (y := 1) r iv hp0 (by omega)
  have q2 := rd_plate (y := 2) r iv hp0 (by omega)
  have q3 := rd_plate (y := 3) r iv hp0 (by omega)
  have q4 := rd_plate (y := 4) r iv hp0 (by omega)
  have q5 := rd_plate (y := 5) r iv hp0 (by omega)
  have q10 : fX6_count [.ref t, .int 10] h = some (S 5, h) := rd_count (y := 10) r iv ir (by omega) (by omega)
  rw [show nI 1 = 1 from rfl, show plV S p 1 = sP S p 1 from rfl] at q1
  rw [show nI 2 = 2 from rfl, show plV S p 2 = sP S p 2 from rfl] at q2
  rw [show nI 3 = 3 from rfl, show plV S p 3 = sP S p 3 from rfl] at q3
  rw [show nI 4 = 4 from rfl, show plV S p 4 = sP S p 4 from rfl] at q4
  rw [show nI 5 = 5 from rfl, show plV S p 5 = if sP S p 2 = 2 then sP S p 5 else -9 from rfl] at q5
  have eP := ej.1 p hp0
  have lt : sP S p 2 ≠ 3 → o_lt (sP S p 1) (2 + sP S p 3 + sP S p 4) = false := fun h3 => by
    obtain ⟨n3, n4, n5, n6⟩ := pl_num iv.2.2.1 eP hp0 h3
    have e1 : ((2 : Int32) + sP S p 3).toInt = 2 + (sP S p 3).toInt := i_addB (by decide) (by decide) (by omega) (by omega)
    have e2 : ((2 : Int32) + sP S p 3 + sP S p 4).toInt = 2 + (sP S p 3).toInt + (sP S p 4).toInt := by rw [i_addB (by omega) (by omega) (by omega) (by omega), e1]
    simp only [o_lt]
    exact decide_eq_false (by rw [i_lt, e2]; omega)
  rcases eP.1 with e | e | e | e
  · have l := lt (by rw [e]; decide)
    rw [e] at q2
    rw [e, if_neg (by decide)] at q5
    have a1 : o_ne 0 3 = true := rfl
    have a2 : o_eq 0 1 = false := rfl
    have a3 : o_eq 0 2 = false := rfl
    have a4 : z_ge (-9) = false := rfl
    simp [iP, sSeq, sLi, eCV, rL, aI, eL, eC, aN, ii, q2, zSt, sIf, bOr, bAnd, bCmp, a1, q1, eOp, q3, q4, l, a2, eB_bI, a3, bZ, q5, a4, o_ne_self, sNop, zCut, sInc, nI_1]
  · have l := lt (by rw [e]; decide)
    have s5 : S 5 = nI p := by
      rcases ej.2.1 with ⟨-, w⟩ | ⟨k', p', sd', a, w⟩
      · exact absurd e (w p hp0)
      · rw [w.1 p hp0 e]; exact a.2.2.1
    rw [s5] at q10
    rw [e] at q2
    rw [e, if_neg (by decide)] at q5
    have a1 : o_ne 1 3 = true := rfl
    have a2 : o_eq 1 1 = true := rfl
    have a3 : o_eq 1 2 = false := rfl
    have a4 : z_ge (-9) = false := rfl
    simp [iP, sSeq, sLi, eCV, rL, aI, eL, eC, aN, ii, q2, zSt, sIf, bOr, bAnd, bCmp, a1, q1, eOp, q3, q4, l, a2, q10, eB_bI, a3, bZ, q5, a4, o_ne_self, sNop, zCut, sInc, nI_1]
  · have l := lt (by rw [e]; decide)
    obtain ⟨-, -, -, hh⟩ := iv.2.2.1 p hp0
    obtain ⟨⟨j, hj, e5⟩, -⟩ := hh e
    rw [e] at q2
    rw [e, if_pos rfl, e5] at q5
    have a1 : o_ne 2 3 = true := rfl
    have a2 : o_eq 2 1 = false := rfl
    have a3 : o_eq 2 2 = true := rfl
    have a4 : z_ge (nI j) = true := decide_eq_true (nI_nn (by omega))
    simp [iP, sSeq, sLi, eCV, rL, aI, eL, eC, aN, ii, q2, zSt, sIf, bOr, bAnd, bCmp, a1, q1, eOp, q3, q4, l, a2, eB_bI, a3, bZ, q5, a4, o_ne_self, sNop, zCut, sInc, nI_1]
  · rw [e] at q2
    rw [e, if_neg (by decide)] at q5
    have a1 : o_ne 3 3 = false := rfl
    have a2 : o_eq 3 1 = false := rfl
    have a3 : o_eq 3 2 = false := rfl
    have a4 : z_ge (-9) = false := rfl
    simp [iP, sSeq, sLi, eCV, rL, aI, eL, eC, aN, ii, q2, zSt, sIf, bOr, bAnd, bCmp, a1, a2, eB_bI, a3, bZ, q5, a4, o_ne_self, sNop, zCut, sInc, nI_1]
set_option maxRecDepth 100000 in
theorem right_2 {on pl : Int32} (r : Rw h b L' xs t S nt TX) (iv : Iv S nS nP nO) (ir : IvR S nO c) (ej : EJ S nS nP nO) : iB2 [.ref t, .int on, .int pl] h = some (.inl ([.ref t, .int on, .int pl], h)) := by
  obtain ⟨c0, c1, c2, c3, c4, c5⟩ := iv.1
  have LL := sW_run (c := bCmp o_lt (eL 3) (eCV 6 (rL 0) (aI (eC 4) (aN)) fX6_count)) (f := iP) (fun k => ([.ref t, .int on, .int pl, .int (nI k)], h)) nP nP 4000 0 (by omega) (by omega) (by omega)
    (fun k g1 g2 => by
      have q := ct_en r (c_4 r iv ir) (en := [.ref t, .int on, .int pl, .int (nI k)]) rfl
      simp only [bCmp, eL, List.getElem?_cons_zero, List.getElem?_cons_succ, Option.bind_some, q, o_lt_nI (a := k) (b := nP) (by omega) (by omega)])
    (fun k g1 g2 => plate_step r iv ir ej g2)
  simp only [nI_0] at LL
  simp [iB2, sBlk, sSeq, sLi, eC, zSt, LL, zCut]
set_option maxRecDepth 100000 in
theorem pair_loop {on pl ru : Int32} (r : Rw h b L' xs t S nt TX) (iv : Iv S nS nP nO) (hk : k < nO) : iJL [.ref t, .int on, .int pl, .int ru, .int (nI k)] h = some (.inl ([.ref t, .int on, .int pl, .int ru, .int (nI k)], h)) := by
  obtain ⟨c0, c1, c2, c3, c4, c5⟩ := iv.1
  have ii := r.top
  have k0 := rd_orderOf (y := 0) r iv hk (by omega)
  have k1 := rd_orderOf (y := 1) r iv hk (by omega)
  rw [nI_0, show orV S k 0 = sO S k 0 from rfl] at k0
  rw [show nI 1 = 1 from rfl, show orV S k 1 = sO S k 1 from rfl] at k1
  have LL := sW_run (c := bCmp o_lt (eL 5) (eL 4)) (f := iJ) (fun i => ([.ref t, .int on, .int pl, .int ru, .int (nI k), .int (nI i)], h)) k k 4000 0 (by omega) (by omega) (by omega)
    (fun i g1 g2 => by simp [bCmp, eL, o_lt_nI (a := i) (b := k) (by omega) (by omega)])
    (fun i g1 g2 => by
      have j0 := rd_orderOf (y := 0) (k := i) r iv (by omega) (by omega)
      have j1 := rd_orderOf (y := 1) (k := i) r iv (by omega) (by omega)
      rw [nI_0, show orV S i 0 = sO S i 0 from rfl] at j0
      rw [show nI 1 = 1 from rfl, show orV S i 1 = sO S i 1 from rfl] at j1
      have ne : (o_eq (sO S i 0) (sO S k 0) && o_eq (sO S i 1) (sO S k 1)) = false := by
        rw [Bool.and_eq_false_iff]
        by_cases e0 : sO S i 0 = sO S k 0
        · right
          exact decide_eq_false (fun e1 => by have := iv.2.2.2.2.2.1 i k (by omega) hk e0 e1; omega)
        · left
          exact decide_eq_false e0
      cases b0 : o_eq (sO S i 0) (sO S k 0) with
      | false => simp [iJ, sSeq, sIf, bAnd, bCmp, eCV, rL, aI, eL, eC, aN, ii, j0, k0, b0, sNop, zCut, sInc, zSt, nI_1]
      | true =>
        have b1 : o_eq (sO S i 1) (sO S k 1) = false := by rw [b0] at ne; simpa using ne
        simp [iJ, sSeq, sIf, bAnd, bCmp, eCV, rL, aI, eL, eC, aN, ii, j0, k0, b0, j1, k1, b1, sNop, zCut, sInc, zSt, nI_1])
  simp only [nI_0] at LL
  simp [iJL, sBlk, sSeq, sLi, eC, zSt, LL, zCut]
/-- rushes among the first k orders -/
def ruK (c k : Nat) : Nat := if k < c then k else c
set_option maxRecDepth 100000 in
set_option maxHeartbeats 1000000 in
theorem order_step {on pl : Int32} (r : Rw h b L' xs t S nt TX) (iv : Iv S nS nP nO) (ir : IvR S nO c) (hk : k < nO) : (iO [.ref t, .int on, .int pl, .int (nI (ruK c k)), .int (nI k)] h).map (zCut [.ref t, .int on, .int pl, .int (nI (ruK c k)), .int (nI k)]) = some (.inl ([.ref t, .int on, .int pl, .int (nI (ruK c (k + 1))), .int (nI (k + 1))], h)) := by
  obtain ⟨c0, c1, c2, c3, c4, c5⟩ := iv.1
  have ii := r.top
  have jl := fun ru : Int32 => pair_loop (on := on) (pl := pl) (ru := ru) r iv hk
  have k0 := rd_orderOf (y := 0) r iv hk (by omega)
  have k1 := rd_orderOf (y := 1) r iv hk (by omega)
  have k2 := rd_orderOf (y := 2) r iv hk (by omega)
  have k3 := rd_orderOf (y := 3) r iv hk (by omega)
  have k4 := rd_orderOf (y := 4) r iv hk (by omega)
  have k5 := rd_orderOf (y := 5) r iv hk (by omega)
  have k7 := rd_orderOf (y := 7) r iv hk (by omega)
  obtain ⟨⟨j, hj, ej⟩, y1, y9, -⟩ := iv.2.2.2.1 k hk
  rw [nI_0, show orV S k 0 = sO S k 0 from rfl, ej] at k0
  rw [show nI 1 = 1 from rfl, show orV S k 1 = sO S k 1 from rfl] at k1
  rw [show nI 2 = 2 from rfl, show orV S k 2 = sO S k 2 from rfl] at k2
  rw [show nI 3 = 3 from rfl, show orV S k 3 = sO S k 3 from rfl] at k3
  rw [show nI 4 = 4 from rfl, show orV S k 4 = sO S k 4 from rfl] at k4
  rw [show nI 5 = 5 from rfl, show orV S k 5 = sO S k 5 from rfl] at k5
  rw [show nI 7 = 7 from rfl, show orV S k 7 = sO S k 5 * (sO S k 2 + sO S k 3) from rfl] at k7
  have pf := rd_plateFor (y := sO S k 1) r iv hj (by rw [Bool.and_eq_true, decide_eq_true_eq, decide_eq_true_eq]; exact ⟨y1, y9⟩)
  have hl : lastO (onY S (nI j) (sO S k 1)) nP = none := by
    cases q : lastO (onY S (nI j) (sO S k 1)) nP with
    | none => rfl
    | some p =>
      obtain ⟨hp0, hb⟩ := lastO_lt q
      simp only [onY, onS, Bool.and_eq_true, decide_eq_true_eq] at hb
      exact absurd ⟨hb.1.2.trans ej.symm, hb.2⟩ (iv.2.2.2.2.2.2 p k hp0 hk hb.1.1)
  rw [hl] at pf
  simp only [toI] at pf
  have z9 : z_ge (-9) = false := rfl
  have r4 := ir.2 k hk
  have eru : nI (ruK c k) + sO S k 4 = nI (ruK c (k + 1)) := by
    rw [r4]
    by_cases e : k < c
    · rw [if_pos e, nI_1]
      congr 1
      simp only [ruK]
      (repeat' split) <;> omega
    · rw [if_neg e, Int32.add_zero]
      congr 1
      simp only [ruK]
      (repeat' split) <;> omega
  by_cases h0 : k = 0
  · have zg : z_gt (nI k) = false := by rw [h0]; rfl
    simp only [iO, sSeq, sLi, eOp, eL, eCV, rL, aI, eC, aN, List.getElem?_cons_zero, List.getElem?_cons_succ, Option.bind_some, Option.map_some, ii, if_true, k4, eru]
    simp [zSt, iOf, sIf, bOr, bAnd, bZ, eL, zg, eCV, rL, aI, eC, aN, ii, k0, k1, pf, z9, bCmp, k7, eOp, k5, k2, k3, o_ne_self, sNop, zCut, jl, sInc, nI_1]
  · obtain ⟨i, rfl⟩ : ∃ i, k = i + 1 := ⟨k - 1, by omega⟩
    have zg : z_gt (nI (i + 1)) = true := decide_eq_true (by rw [i_lt, i_0, nI_int (by omega)]; omega)
    have es : nI (i + 1) - 1 = nI i := by rw [nI_sub1 (by omega), Nat.add_sub_cancel]
    have i4 := rd_orderOf (y := 4) (k := i) r iv (by omega) (by omega)
    rw [show nI 4 = 4 from rfl, show orV S i 4 = sO S i 4 from rfl] at i4
    have gt : o_gt (sO S (i + 1) 4) (sO S i 4) = false := by
      rw [r4, ir.2 i (by omega)]
      by_cases e : i + 1 < c
      · rw [if_pos e, if_pos (by omega)]; rfl
      · rw [if_neg e]
        split <;> rfl
    simp only [iO, sSeq, sLi, eOp, eL, eCV, rL, aI, eC, aN, List.getElem?_cons_zero, List.getElem?_cons_succ, Option.bind_some, Option.map_some, ii, if_true, k4, eru]
    simp [zSt, iOf, sIf, bOr, bAnd, bZ, eL, zg, bCmp, eCV, rL, aI, eC, aN, ii, k4, eOp, es, i4, gt, k0, k1, pf, z9, k7, k5, k2, k3, o_ne_self, sNop, zCut, jl, sInc, nI_1]
set_option maxRecDepth 100000 in
theorem right_3 {on pl : Int32} (r : Rw h b L' xs t S nt TX) (iv : Iv S nS nP nO) (ir : IvR S nO c) : iB3 [.ref t, .int on, .int pl, .int 0] h = some (.inl ([.ref t, .int on, .int pl, .int (nI c)], h)) := by
  obtain ⟨c0, c1, c2, c3, c4, c5⟩ := iv.1
  have LL := sW_run (c := bCmp o_lt (eL 4) (eCV 6 (rL 0) (aI (eC 6) (aN)) fX6_count)) (f := iO) (fun k => ([.ref t, .int on, .int pl, .int (nI (ruK c k)), .int (nI k)], h)) nO nO 4000 0 (by omega) (by omega) (by omega)
    (fun k g1 g2 => by
      have q := ct_en r (c_6 r iv ir) (en := [.ref t, .int on, .int pl, .int (nI (ruK c k)), .int (nI k)]) rfl
      simp only [bCmp, eL, List.getElem?_cons_zero, List.getElem?_cons_succ, Option.bind_some, q, o_lt_nI (a := k) (b := nO) (by omega) (by omega)])
    (fun k g1 g2 => order_step r iv ir g2)
  have e0 : ruK c 0 = 0 := by simp only [ruK]; split <;> omega
  have e1 : ruK c nO = c := by have := ir.1; simp only [ruK]; split <;> omega
  rw [e1] at LL
  simp only [e0, nI_0] at LL
  simp [iB3, sBlk, sSeq, sLi, eC, zSt, LL, zCut]
end ZR1
