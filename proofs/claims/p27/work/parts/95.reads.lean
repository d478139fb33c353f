/-! the commands that read -/
theorem sSw_at {n k : Nat} {f : zEI} {bs : List zSS} {df : zSS} {en : List Value} {h h1 : zH} (hf : f en h = some (nI k, h1)) (hk : k ≤ n) (hn : n < 1000) : sSw 0 (n : Int) f bs df en h = ((bs.getD k df) en h1).map (zCut en) := by
  simp only [sSw, hf, Option.bind_some, nI_toInt (show k < 2 ^ 31 by omega)]
  rw [if_neg (by omega)]
  simp
/-- what a count answers -/
def coV (S : Nat → Int32) (nP nh nt c y : Nat) : Int32 :=
  if y < 4 then cnt (inS S (nI y)) nP else if y = 4 then S 1 else if y = 5 then S 0 else if y = 6 then S 2 else if y = 7 then nI c else if y = 8 then S 3 else if y = 9 then (if S 3 = -9 then -9 else S 4) else if y = 10 then S 5 else if y = 11 then S 7 else if y = 12 then S 8 else if y = 13 then S 9 else if y = 14 then nI nh else nI nt
def shV (S : Nat → Int32) (nP j y : Nat) : Int32 :=
  if y = 0 then S (150 + j) else if y = 1 then cnt (onS S (nI j)) nP else if y = 2 then yrM (onS S (nI j)) (fun p => sP S p 6) 1 nP else if y = 3 then yrM (onS S (nI j)) (fun p => sP S p 6) (-1) nP
  else if cnt (onS S (nI j)) nP = 0 then 0 else yrM (onS S (nI j)) (fun p => sP S p 6) (-1) nP - yrM (onS S (nI j)) (fun p => sP S p 6) 1 nP + 1 - cnt (onS S (nI j)) nP
def orV (S : Nat → Int32) (k y : Nat) : Int32 := if y < 6 then sO S k y else if y = 6 then itsM S k else efM S k
/-- an Int32 that is not negative, and below a number, is that of a place -/
theorem nI_below {v : Int32} {n : Nat} (hn : n < 100) (h0 : 0 ≤ v) (h1 : v < nI n) : ∃ k, k < n ∧ v = nI k := hasB_nI' hn (by simp [hasB, h0, h1])
section ZC9
variable {h : zH} {b L' t nS nP nO c nh nt : Nat} {xs : Nat → Int32} {S s pf N TX tx AS S0 : Nat → Int32} {P O L : Nat → Nat → Int32} {pi : Nat → Nat} {V : Nat → Nat → Int32}
def plV (S : Nat → Int32) (k y : Nat) : Int32 := if y < 5 then sP S k y else if sP S k 2 = 2 then sP S k y else -9
def leV (S : Nat → Int32) (k x : Nat) : Int32 := if x < nk S k then sO S k (6 + x) else -9
theorem bad_plate {v f : Int32} (r : Rw h b L' xs t S nt TX) (iv : Iv S nS nP nO) (hv : hasB v (nI nP) = false) : fX6_plate [.ref t, .int v, .int f] h = some (-1, h) := by
  obtain ⟨top, shw, -, txt, fcs⟩ := r
  obtain ⟨s, P, pf, pi, O, N, L, at1, vw⟩ := shw_at shw iv
  have q1 := pl_one at1 vw iv v
  rw [hv] at q1
  simp [fX6_plate, bX6_plate, mI, sSeq, sIf, bNot, bZ, eCV, rF, rL, tp0 top, aI, eL, aN, aIs at1, q1, z_ne_bI, eC, zCut, sRi]
set_option maxRecDepth 100000 in
set_option maxHeartbeats 2000000 in
theorem rd_plate {k y : Nat} (r : Rw h b L' xs t S nt TX) (iv : Iv S nS nP nO) (hk : k < nP) (hy : y < 7) : fX6_plate [.ref t, .int (nI k), .int (nI y)] h = some (plV S k y, h) := by
  obtain ⟨top, shw, -, txt, fcs⟩ := r
  obtain ⟨s, P, pf, pi, O, N, L, at1, vw⟩ := shw_at shw iv
  obtain ⟨c0, c1, c2, c3, c4, c5⟩ := iv.1
  have q1 := pl_one at1 vw iv (nI k)
  rw [hasB_nI (by omega) (by omega), decide_eq_true hk] at q1
  obtain ⟨w0, w1, w2, w3, w4, w5, w6⟩ := vw.2.2.1 k hk
  have xy := aPl at1 (p := k) (x := y) (by omega) hy
  have sw := sSw_at (n := 6) (k := y) (f := eL 2) (bs := [(sRi (eF 4 0 (rL 3))), (sRi (eF 4 1 (rL 3))), (sRi (eF 4 2 (rL 3))), (sRi (eF 4 3 (rL 3))), (sRi (eF 4 4 (rL 3))), (sRi (eF 4 5 (rL 3))), (sRi (eF 4 6 (rL 3)))]) (df := sRi (eC (-1))) (en := [.ref t, .int (nI k), .int (nI y), .ref (t + 1 + 4 + k)]) (h := h) (h1 := h) (by simp [eL]) (by omega) (by omega)
  simp only [show ((6 : Nat) : Int) = 6 from rfl] at sw
  have ev : P k y = plV S k y := by
    rcases (show y = 0 ∨ y = 1 ∨ y = 2 ∨ y = 3 ∨ y = 4 ∨ y = 5 ∨ y = 6 by omega) with e | e | e | e | e | e | e <;> subst e <;> simp [plV, w0, w1, w2, w3, w4, w5, w6]
  rw [← ev]
  simp [fX6_plate, bX6_plate, mI, sSeq, sIf, bNot, bZ, eCV, rF, rL, tp0 top, aI, eL, aN, aIs at1, q1, z_ne_bI, sNop, zCut, sLr, rQ, aS0 at1, aQp at1 (show k < 20 by omega), zSt]
  rw [sw]
  rcases (show y = 0 ∨ y = 1 ∨ y = 2 ∨ y = 3 ∨ y = 4 ∨ y = 5 ∨ y = 6 by omega) with e | e | e | e | e | e | e <;> subst e <;> simp [sRi, eF, rL, xy, zCut]
set_option maxRecDepth 100000 in
set_option maxHeartbeats 2000000 in
theorem rd_count {y : Nat} (r : Rw h b L' xs t S nt TX) (iv : Iv S nS nP nO) (ir : IvR S nO c) (hy : y ≤ 15) (h14 : y ≠ 14) : fX6_count [.ref t, .int (nI y)] h = some (coV S nP 0 nt c y, h) := by
  obtain ⟨top, shw, -, txt, fcs⟩ := r
  obtain ⟨s, P, pf, pi, O, N, L, at1, vw⟩ := shw_at shw iv
  obtain ⟨c0, c1, c2, c3, c4, c5⟩ := iv.1
  have tI : (nI y).toInt = (y : Int) := nI_toInt (by omega)
  have tC : (nI y).toNatClampNeg = y := (nI_idx (j := y) (n := y + 1) (by omega) (by omega)).2.2
  obtain ⟨v3, v4, v5, v6, v7, v8, v9, v10, v11, v12⟩ := vw.1
  have s5 : s 5 = nI nO := by rw [v5, c2]
  have pi1 := fun st : Int32 => X5_platesIn (h := h) (lo := t + 1) (s := s) (P := P) (pf := pf) (pi := pi) (O := O) (N := N) (L := L) (by rw [v3, c1]) c4 st
  simp only [At_eq at1, platesIn_view vw.2.2.1] at pi1
  have rs := X5_rushes (h := h) (lo := t + 1) (s := s) (P := P) (pf := pf) (pi := pi) (O := O) (N := N) (L := L) s5 c5 vw.2.1.1
  rw [cnt_N, At_eq at1] at rs
  have rs' : fX5_rushes [.ref (t + 1)] h = some (nI c, h) := by rw [← rs_view vw.2.2.2.2 ir]; exact rs
  have a3 : rdI h 5 3 (t + 1) = some (S 1) := by rw [← v3]; exact aSx at1 (by omega) (by omega)
  have a4 : rdI h 5 4 (t + 1) = some (S 0) := by rw [← v4]; exact aSx at1 (by omega) (by omega)
  have a5 : rdI h 5 5 (t + 1) = some (S 2) := by rw [← v5]; exact aSx at1 (by omega) (by omega)
  have a6 : rdI h 5 6 (t + 1) = some (S 3) := by rw [← v6]; exact aSx at1 (by omega) (by omega)
  have a7 : rdI h 5 7 (t + 1) = some (S 5) := by rw [← v7]; exact aSx at1 (by omega) (by omega)
  have a9 : rdI h 5 9 (t + 1) = some (if S 3 = -9 then -9 else S 4) := by rw [← v9]; exact aSx at1 (by omega) (by omega)
  have a10 : rdI h 5 10 (t + 1) = some (S 7) := by rw [← v10]; exact aSx at1 (by omega) (by omega)
  have a11 : rdI h 5 11 (t + 1) = some (S 8) := by rw [← v11]; exact aSx at1 (by omega) (by omega)
  have a12 : rdI h 5 12 (t + 1) = some (S 9) := by rw [← v12]; exact aSx at1 (by omega) (by omega)
  have cases16 : y = 0 ∨ y = 1 ∨ y = 2 ∨ y = 3 ∨ y = 4 ∨ y = 5 ∨ y = 6 ∨ y = 7 ∨ y = 8 ∨ y = 9 ∨ y = 10 ∨ y = 11 ∨ y = 12 ∨ y = 13 ∨ y = 15 := by omega
  rcases cases16 with e | e | e | e | e | e | e | e | e | e | e | e | e | e | e <;> subst e <;>
    simp [fX6_count, bX6_count, mI, sSw, eL, tI, tC, sRi, eCV, rF, rL, tp0 top, aI, aN, aIs at1, pi1, eF, a3, a4, a5, rs', a6, a9, a7, a10, a11, a12, tp2 top, tx_1 txt, zCut, coV, eC]
set_option maxRecDepth 100000 in
set_option maxHeartbeats 2000000 in
theorem rd_shield {j y : Nat} (r : Rw h b L' xs t S nt TX) (iv : Iv S nS nP nO) (hj : j < nS) (hy : y < 5) : fX6_shield [.ref t, .int (nI j), .int (nI y)] h = some (shV S nP j y, h) := by
  obtain ⟨top, shw, -, txt, fcs⟩ := r
  obtain ⟨s, P, pf, pi, O, N, L, at1, vw⟩ := shw_at shw iv
  obtain ⟨c0, c1, c2, c3, c4, c5⟩ := iv.1
  have s3 : s 3 = nI nP := by rw [vw.1.1, c1]
  have q1 := sh_one at1 vw iv (nI j)
  rw [hasB_nI (by omega) (by omega), decide_eq_true hj] at q1
  have tI : (nI y).toInt = (y : Int) := nI_toInt (by omega)
  have tC : (nI y).toNatClampNeg = y := (nI_idx (j := y) (n := y + 1) (by omega) (by omega)).2.2
  have j31 : j < 2 ^ 31 := by omega
  have p0 := aPf' at1 (show j < 3 by omega)
  rw [vw.2.2.2.1 j hj] at p0
  have p1 := X5_platesOn (h := h) (lo := t + 1) (s := s) (P := P) (pf := pf) (pi := pi) (O := O) (N := N) (L := L) s3 c4 (nI j)
  have p2 := X5_earliestYear (h := h) (lo := t + 1) (s := s) (P := P) (pf := pf) (pi := pi) (O := O) (N := N) (L := L) s3 c4 (nI j)
  have p3 := X5_latestYear (h := h) (lo := t + 1) (s := s) (P := P) (pf := pf) (pi := pi) (O := O) (N := N) (L := L) s3 c4 (nI j)
  have p4 := X5_yearsLeftOut (h := h) (lo := t + 1) (s := s) (P := P) (pf := pf) (pi := pi) (O := O) (N := N) (L := L) s3 c4 (nI j)
  rw [At_eq at1, platesOn_view vw.2.2.1 j31] at p1
  rw [At_eq at1, ea_view vw.2.2.1 j31] at p2
  rw [At_eq at1, la_view vw.2.2.1 iv.2.2.1 j31] at p3
  rw [At_eq at1, platesOn_view vw.2.2.1 j31, ea_view vw.2.2.1 j31, la_view vw.2.2.1 iv.2.2.1 j31] at p4
  have cases5 : y = 0 ∨ y = 1 ∨ y = 2 ∨ y = 3 ∨ y = 4 := by omega
  rcases cases5 with e | e | e | e | e <;> subst e <;>
    simp [fX6_shield, bX6_shield, mI, sSeq, sIf, bNot, bZ, eCV, rF, rL, tp0 top, aI, eL, aN, aIs at1, q1, z_ne_bI, sNop, zCut, sSw, tI, tC, sRi, eA, aS1 at1, p0, p1, p2, p3, p4, shV]
set_option maxRecDepth 100000 in
set_option maxHeartbeats 2000000 in
theorem rd_orderOf {k y : Nat} (r : Rw h b L' xs t S nt TX) (iv : Iv S nS nP nO) (hk : k < nO) (hy : y < 8) : fX6_orderOf [.ref t, .int (nI k), .int (nI y)] h = some (orV S k y, h) := by
  obtain ⟨top, shw, -, txt, fcs⟩ := r
  obtain ⟨s, P, pf, pi, O, N, L, at1, vw⟩ := shw_at shw iv
  obtain ⟨c0, c1, c2, c3, c4, c5⟩ := iv.1
  have q1 := or_one at1 vw iv (nI k)
  rw [hasB_nI (by omega) (by omega), decide_eq_true hk] at q1
  have hpk := vw.2.1.1 k (by omega)
  have tI : (nI y).toInt = (y : Int) := nI_toInt (by omega)
  have tC : (nI y).toNatClampNeg = y := (nI_idx (j := y) (n := y + 1) (by omega) (by omega)).2.2
  obtain ⟨o0, o1, o2, o3, o4, o5, o6⟩ := vw.2.2.2.2 k hk
  obtain ⟨n5, n12⟩ := hl_of iv k hk
  have x0 := aOr at1 (x := 0) hpk (by omega)
  have x1 := aOr at1 (x := 1) hpk (by omega)
  have x2 := aOr at1 (x := 2) hpk (by omega)
  have x3 := aOr at1 (x := 3) hpk (by omega)
  have x4 := aOr at1 (x := 4) hpk (by omega)
  simp only [Nat.reduceAdd, o0, o1, o2, o3, o4] at x0 x1 x2 x3 x4
  have nm : rdR h 3 0 (t + 1 + 24 + 3 * pi k) = some (t + 1 + 24 + 3 * pi k + 1) := rdR_of (a_o at1 hpk) rfl
  have cn : rdI h 2 1 (t + 1 + 24 + 3 * pi k + 1) = some (sO S k 5) := by rw [← o5]; exact rdI_of (a_n at1 hpk) rfl
  have io : isO h 3 (t + 1 + 24 + 3 * pi k) = true := isO_of (a_o at1 hpk)
  have nc : N (pi k) = nI (nC N (pi k)) := by rw [nC_view vw.2.2.2.2 hk, o5]; exact n5
  have x6 := X5_nl (h := h) (lo := t + 1) (s := s) (P := P) (pf := pf) (pi := pi) (O := O) (N := N) (L := L) hpk nc (by rw [nC_view vw.2.2.2.2 hk]; exact n12)
  rw [At_eq at1, show nLen (L (pi k)) (nC N (pi k)) (O (pi k) 2) = itsM S k from it_view vw.2.2.2.2 iv.2.2.2.1 hk] at x6
  have x7 := X5_ef (h := h) (lo := t + 1) (s := s) (P := P) (pf := pf) (pi := pi) (O := O) (N := N) (L := L) hpk nc
  rw [At_eq at1, show nI (nC N (pi k)) * (O (pi k) 2 + O (pi k) 3) = efM S k from ef_view vw.2.2.2.2 iv.2.2.2.1 hk] at x7
  have z01 : (if z_ne (sO S k 4) = true then (1 : Int32) else 0) = sO S k 4 := by
    rcases (iv.2.2.2.1 k hk).2.2.2.2.1 with e | e <;> rw [e] <;> rfl
  have cases8 : y = 0 ∨ y = 1 ∨ y = 2 ∨ y = 3 ∨ y = 4 ∨ y = 5 ∨ y = 6 ∨ y = 7 := by omega
  cases zb : z_ne (sO S k 4) <;> rw [zb] at z01 <;> simp at z01 <;>
    rcases cases8 with e | e | e | e | e | e | e | e <;> subst e <;>
      simp [fX6_orderOf, bX6_orderOf, mI, sSeq, sIf, bNot, bZ, eCV, rF, rL, tp0 top, aI, eL, aN, aIs at1, q1, z_ne_bI, sNop, zCut, sLr, rQ, aS2 at1, aQr at1 (show k < 10 by omega), zSt, sSw, tI, tC, sRi, eF, x0, x1, x2, x3, x4, eT, zb, eC, z01, nm, cn, io, x6, x7, orV]
set_option maxRecDepth 100000 in
theorem rd_plateFor {j : Nat} {y : Int32} (r : Rw h b L' xs t S nt TX) (iv : Iv S nS nP nO) (hj : j < nS) (hy : (decide (1 ≤ y) && decide (y ≤ 999)) = true) : fX6_plateFor [.ref t, .int (nI j), .int y] h = some (toI (lastO (onY S (nI j) y) nP), h) := by
  obtain ⟨top, shw, -, txt, fcs⟩ := r
  obtain ⟨s, P, pf, pi, O, N, L, at1, vw⟩ := shw_at shw iv
  obtain ⟨c0, c1, c2, c3, c4, c5⟩ := iv.1
  have q1 := sh_one at1 vw iv (nI j)
  rw [hasB_nI (by omega) (by omega), decide_eq_true hj] at q1
  have cp := X5_plateOfYear (h := h) (lo := t + 1) (s := s) (P := P) (pf := pf) (pi := pi) (O := O) (N := N) (L := L) (by rw [vw.1.1, c1]) c4 (nI j) y
  rw [At_eq at1, plateOf_view vw.2.2.1 iv.2.2.2.2 (show j < 2 ^ 31 by omega) y] at cp
  simp [fX6_plateFor, bX6_plateFor, mI, sSeq, sIf, bOr, bNot, bZ, eCV, rF, rL, tp0 top, aI, eL, aN, aIs at1, q1, z_ne_bI, eCS, X6_isYear, hy, sNop, zCut, sRi, cp]
set_option maxRecDepth 100000 in
theorem rd_letter {k x : Nat} (r : Rw h b L' xs t S nt TX) (iv : Iv S nS nP nO) (hk : k < nO) (hx : x < 12) : fX6_letter [.ref t, .int (nI k), .int (nI x)] h = some (leV S k x, h) := by
  obtain ⟨top, shw, -, txt, fcs⟩ := r
  obtain ⟨s, P, pf, pi, O, N, L, at1, vw⟩ := shw_at shw iv
  obtain ⟨c0, c1, c2, c3, c4, c5⟩ := iv.1
  have q1 := or_one at1 vw iv (nI k)
  rw [hasB_nI (by omega) (by omega), decide_eq_true hk] at q1
  have hpk := vw.2.1.1 k (by omega)
  obtain ⟨o0, o1, o2, o3, o4, o5, o6⟩ := vw.2.2.2.2 k hk
  obtain ⟨n5, n12⟩ := hl_of iv k hk
  have zl : z_lt (nI x) = false := by
    simp only [z_lt]
    exact decide_eq_false (fun e => by rw [← nI_0] at e; have := (nI_ltI (show x < 2 ^ 31 by omega) (show 0 < 2 ^ 31 by omega)).mp e; omega)
  have nm : rdR h 3 0 (t + 1 + 24 + 3 * pi k) = some (t + 1 + 24 + 3 * pi k + 1) := rdR_of (a_o at1 hpk) rfl
  have cn : rdI h 2 1 (t + 1 + 24 + 3 * pi k + 1) = some (sO S k 5) := by rw [← o5]; exact rdI_of (a_n at1 hpk) rfl
  have le : rdR h 2 0 (t + 1 + 24 + 3 * pi k + 1) = some (t + 1 + 24 + 3 * pi k + 2) := rdR_of (a_n at1 hpk) rfl
  have hlt : o_lt (nI x) (sO S k 5) = decide (x < nk S k) := by rw [n5]; exact o_lt_nI (a := x) (b := nk S k) (by omega) (by omega)
  by_cases hx2 : x < nk S k
  · rw [decide_eq_true hx2] at hlt
    have ll : rdA h (t + 1 + 24 + 3 * pi k + 2) (nI x) = some (sO S k (6 + x)) := by rw [← o6 x hx2]; exact rdA_of (a_l at1 hpk) (by omega) (by omega)
    have ev : leV S k x = sO S k (6 + x) := by simp only [leV]; rw [if_pos hx2]
    rw [ev]
    simp [fX6_letter, bX6_letter, mI, sSeq, sIf, bOr, bNot, bZ, eCV, rF, rL, tp0 top, aI, eL, aN, aIs at1, q1, z_ne_bI, zl, sNop, zCut, sLr, rQ, aS2 at1, aQr at1 (show k < 10 by omega), nm, zSt, sRi, eT, bCmp, eF, cn, hlt, eC, eA, le, ll]
  · rw [decide_eq_false hx2] at hlt
    have ev : leV S k x = -9 := by simp only [leV]; rw [if_neg hx2]
    rw [ev]
    simp [fX6_letter, bX6_letter, mI, sSeq, sIf, bOr, bNot, bZ, eCV, rF, rL, tp0 top, aI, eL, aN, aIs at1, q1, z_ne_bI, zl, sNop, zCut, sLr, rQ, aS2 at1, aQr at1 (show k < 10 by omega), nm, zSt, sRi, eT, bCmp, eF, cn, hlt, eC]
/-- no text has no length -/
theorem rd_length0 (r : Rw h b L' xs t S 0 TX) : fX6_lengthOf [.ref t, .int 1] h = some (0, h) := by
  obtain ⟨top, -, -, txt, -⟩ := r
  obtain ⟨t1, t2, tx, t3, t4⟩ := id txt
  have q := X2_lengthIn t2 t3 t1 1
  rw [show nLen tx 0 1 = 0 from rfl] at q
  have hz : (decide ((1 : Int32) ≤ 1) && decide ((1 : Int32) ≤ 4)) = true := by decide
  simp only [fX6_lengthOf, bX6_lengthOf, mI, sRi, eT, bZ, eCS, aI, eL, aN, eC, eCV, rF, rL, List.getElem?_cons_zero, List.getElem?_cons_succ, Option.bind_some, Option.map_some, X6_isSize, hz, z_ne_bI, if_true, tp2 top, tx_i txt, q]
end ZC9
