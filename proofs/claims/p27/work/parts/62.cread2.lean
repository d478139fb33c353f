/-! the class: reads of a shop, on -/
section ZS3
variable {h : zH} {lo p j k n nP nO nS : Nat} {s pf N : Nat → Int32} {P O L : Nat → Nat → Int32} {pi : Nat → Nat}
def orC (O : Nat → Nat → Int32) (pi : Nat → Nat) (sh y : Int32) (k : Nat) : Bool := decide (O (pi k) 0 = sh) && decide (O (pi k) 1 = y)
def fstB (o : Option Nat) : Bool := match o with
  | none => false
  | some _ => true
set_option maxRecDepth 100000 in
theorem X5_isOrdered (h1 : s 5 = nI nO) (hn : nO ≤ 10) (hpi : ∀ k, k < 10 → pi k < 10) (sh y : Int32) : fX5_isOrdered [.ref lo, .int sh, .int y] (hS h lo s P pf pi O N L) = some (bI (fstB (firstO (orC O pi sh y) nO)), hS h lo s P pf pi O N L) := by
  have cd : ∀ j, j ≤ nO → bCmp o_lt (eL 3) (eF 5 5 (rL 0)) [.ref lo, .int sh, .int y, .int (nI j)] (hS h lo s P pf pi O N L) = some (decide (j < nO), hS h lo s P pf pi O N L) := fun j g2 => by simp [bCmp, eL, eF, rL, rs5, h1, o_lt_nI (a := j) (b := nO) (by omega) (by omega)]
  have no : ∀ j, j < 10 → orC O pi sh y j = false → (sSeq (sIf (bAnd (bCmp o_eq (eF 3 1 (rQ 3 (rF 5 2 (rL 0)) (eL 3))) (eL 1)) (bCmp o_eq (eF 3 2 (rQ 3 (rF 5 2 (rL 0)) (eL 3))) (eL 2))) (sRi (eC 1)) sNop) (sInc 3 1)) [.ref lo, .int sh, .int y, .int (nI j)] (hS h lo s P pf pi O N L) = some (.inl ([.ref lo, .int sh, .int y, .int (nI (j + 1))], hS h lo s P pf pi O N L)) := fun j hj hf => by
    by_cases hz : O (pi j) 0 = sh
    · have hw : ¬ O (pi j) 1 = y := fun e => by simp [orC, hz, e] at hf
      simp [sSeq, sIf, sInc, sNop, zSt, eL, eF, rQ, rF, rL, bAnd, bCmp, o_eq, rS2, qRw hj, ro1 (hpi j hj), ro2 (hpi j hj), nI_1, zCut, hz, hw]
    · simp [sSeq, sIf, sInc, sNop, zSt, eL, eF, rQ, rF, rL, bAnd, bCmp, o_eq, rS2, qRw hj, ro1 (hpi j hj), nI_1, zCut, hz]
  cases hf : firstO (orC O pi sh y) nO with
  | none =>
    have LL := sW_run (c := bCmp o_lt (eL 3) (eF 5 5 (rL 0))) (f := sSeq (sIf (bAnd (bCmp o_eq (eF 3 1 (rQ 3 (rF 5 2 (rL 0)) (eL 3))) (eL 1)) (bCmp o_eq (eF 3 2 (rQ 3 (rF 5 2 (rL 0)) (eL 3))) (eL 2))) (sRi (eC 1)) sNop) (sInc 3 1)) (fun i => ([.ref lo, .int sh, .int y, .int (nI i)], hS h lo s P pf pi O N L)) nO nO 4000 0 (by omega) (by omega) (by omega)
      (fun j g1 g2 => cd j g2)
      (fun j g1 g2 => by simp [no j (by omega) (firstO_none hf j g2), zCut])
    simp [nI_0] at LL
    simp [fX5_isOrdered, bX5_isOrdered, mZ, sSeq, sBlk, sLi, zSt, eC, LL, zCut, sRi, fstB, bI]
  | some q =>
    obtain ⟨f1, f2, f3⟩ := firstO_some hf
    have hz : O (pi q) 0 = sh := by simp [orC] at f2; exact f2.1
    have hw : O (pi q) 1 = y := by simp [orC] at f2; exact f2.2
    have LL := sW_ret (q := (some 1, hS h lo s P pf pi O N L)) (c := bCmp o_lt (eL 3) (eF 5 5 (rL 0))) (f := sSeq (sIf (bAnd (bCmp o_eq (eF 3 1 (rQ 3 (rF 5 2 (rL 0)) (eL 3))) (eL 1)) (bCmp o_eq (eF 3 2 (rQ 3 (rF 5 2 (rL 0)) (eL 3))) (eL 2))) (sRi (eC 1)) sNop) (sInc 3 1)) (fun i => ([.ref lo, .int sh, .int y, .int (nI i)], hS h lo s P pf pi O N L)) q q 4000 0 (by omega) (by omega) (by omega)
      (fun j g1 g2 => by simp [cd j (by omega), show j < nO by omega])
      (fun j g1 g2 => by simp [no j (by omega) (f3 j g2), zCut])
      (by simp [sSeq, sIf, sRi, eL, eC, eF, rQ, rF, rL, bAnd, bCmp, o_eq, rS2, qRw (show q < 10 by omega), ro1 (hpi q (by omega)), ro2 (hpi q (by omega)), zCut, hz, hw])
    simp [nI_0] at LL
    simp [fX5_isOrdered, bX5_isOrdered, mZ, sSeq, sBlk, sLi, zSt, eC, LL, zCut, fstB, bI]
abbrev bpBody : zSS := sSeq (sSeq (sLr 6 (rQ 4 (rF 5 0 (rL 0)) (eL 5))) (sSeq (sLi 7 (eT (bZ z_ne (eL 3)) (eCV 4 (rL 6) (aI (eL 2) (aN)) fX4_sideToGrind) (eCV 4 (rL 6) (aI (eL 2) (aN)) fX4_readySide))) (sSeq (sLi 8 (eB (bAnd (bAnd (bZ z_eq (eF 4 2 (rL 6))) (bCmp o_ge (eF 4 0 (rL 6)) (eL 1))) (bCmp o_ne (eL 7) (eC (-9)))))) (sIf (bAnd (bZ z_ne (eL 8)) (bOr (bCmp o_eq (eL 4) (eC (-9))) (bZ z_ne (eCV 4 (rL 6) (aR (rQ 4 (rF 5 0 (rL 0)) (eL 4)) (aN)) fX4_isBetterThan)))) (sLi 4 (eL 5)) sNop)))) (sInc 5 1)
set_option maxRecDepth 100000 in
set_option maxHeartbeats 2000000 in
theorem X5_bestPlate (h1 : s 3 = nI nP) (hn : nP ≤ 20) (its d : Int32) (w : Bool) : fX5_bestPlate [.ref lo, .int its, .int d, .int (bI w)] (hS h lo s P pf pi O N L) = some (toI (bsC P its d w nP), hS h lo s P pf pi O N L) := by
  have LL := sW_run (c := bCmp o_lt (eL 5) (eF 5 3 (rL 0))) (f := bpBody) (fun i => ([.ref lo, .int its, .int d, .int (bI w), .int (toI (bsC P its d w i)), .int (nI i)], hS h lo s P pf pi O N L)) nP nP 4000 0 (by omega) (by omega) (by omega)
    (fun j g1 g2 => by simp [bCmp, eL, eF, rL, rs3, h1, o_lt_nI (a := j) (b := nP) (by omega) (by omega)])
    (fun j g1 g2 => by
      have hj : j < 20 := by omega
      have e1 := X4_sideToGrind (h := hS h lo s P pf pi O N L) (s_p hj) d
      have e2 := X4_readySide (h := hS h lo s P pf pi O N L) (s_p hj) d
      have eW : (eT (bZ z_ne (eL 3)) (eCV 4 (rL 6) (aI (eL 2) (aN)) fX4_sideToGrind) (eCV 4 (rL 6) (aI (eL 2) (aN)) fX4_readySide)) [.ref lo, .int its, .int d, .int (bI w), .int (toI (bsC P its d w j)), .int (nI j), .ref (lo + 4 + j)] (hS h lo s P pf pi O N L) = some (sdC (P j) d w, hS h lo s P pf pi O N L) := by
        cases w <;> simp [eT, bZ, eL, z_ne_bI, eCV, aI, aN, rL, isPl hj, e1, e2, sdC]
      generalize hsd : sdC (P j) d w = sd at eW
      cases hb : bsC P its d w j with
      | none =>
        rw [hb] at eW
        simp only [show toI none = -9 from rfl] at eW ⊢
        by_cases q2 : P j 2 = 0 <;> by_cases q0 : its ≤ P j 0 <;> by_cases q9 : sd = -9 <;>
          simp [bpBody, sSeq, sLr, sLi, zSt, rQ, rF, rL, rS0, eL, qPl hj, eW, eB_bI, bAnd, bOr, bZ, bCmp, z_eq, o_ge, o_ne, o_eq, eF, rpl2 hj, rpl0 hj, eC, z_ne_bI, sIf, sNop, zCut, sInc, nI_1, bsC, okC, btC, hsd, q2, q0, q9, hb, toI]
      | some q =>
        have hq : q < 20 := by have := bsC_lt hb; omega
        have nq := nI_ne9 (n := q) (by omega)
        have bt := X4_isBetterThan (h := hS h lo s P pf pi O N L) (s_p hj) (s_p hq)
        rw [hb] at eW
        simp only [toI_some] at eW ⊢
        by_cases q2 : P j 2 = 0 <;> by_cases q0 : its ≤ P j 0 <;> by_cases q9 : sd = -9 <;> cases qb : pBet (P j) (P q) <;>
          simp [bpBody, sSeq, sLr, sLi, zSt, rQ, rF, rL, rS0, eL, qPl hj, qPl hq, eW, eB_bI, bAnd, bOr, bZ, bCmp, z_eq, o_ge, o_ne, o_eq, eF, eCV, aR, aN, isPl hj, bt, rpl2 hj, rpl0 hj, eC, z_ne_bI, sIf, sNop, zCut, sInc, nI_1, bsC, okC, btC, hsd, q2, q0, q9, qb, hb, toI, nq])
  simp [nI_0, bsC, toI] at LL
  have e : bX5_bestPlate = sSeq (sLi 4 (eC (-9))) (sSeq (sBlk (sSeq (sLi 5 (eC 0)) (sW 4000 (bCmp o_lt (eL 5) (eF 5 3 (rL 0))) bpBody))) (sRi (eL 4))) := rfl
  simp [fX5_bestPlate, e, mI, sSeq, sBlk, sLi, zSt, eC, LL, zCut, sRi, eL]
  rfl
/-- which plate the class finds -/
def fnC (P : Nat → Nat → Int32) (its d : Int32) (nP : Nat) : Option Nat := match bsC P its d false nP with
  | some p => some p
  | none => bsC P its d true nP
theorem X5_findPlate (h1 : s 3 = nI nP) (hn : nP ≤ 20) (its d : Int32) : fX5_findPlate [.ref lo, .int its, .int d] (hS h lo s P pf pi O N L) = some (toI (fnC P its d nP), hS h lo s P pf pi O N L) := by
  have b0 := X5_bestPlate (h := h) (lo := lo) (s := s) (P := P) (pf := pf) (pi := pi) (O := O) (N := N) (L := L) h1 hn its d false
  have b1 := X5_bestPlate (h := h) (lo := lo) (s := s) (P := P) (pf := pf) (pi := pi) (O := O) (N := N) (L := L) h1 hn its d true
  rw [show bI false = 0 from rfl] at b0
  rw [show bI true = 1 from rfl] at b1
  cases hb : bsC P its d false nP with
  | none =>
    rw [hb] at b0
    simp [fX5_findPlate, bX5_findPlate, mI, sSeq, sLi, zSt, eCV, aI, aN, rL, eL, eC, isS, b0, b1, sRi, eT, bCmp, o_eq, fnC, hb]
    simp [toI]
  | some q =>
    have hq : q < 20 := by have := bsC_lt hb; omega
    have nq := nI_ne9 (n := q) (by omega)
    rw [hb] at b0
    simp [fX5_findPlate, bX5_findPlate, mI, sSeq, sLi, zSt, eCV, aI, aN, rL, eL, eC, isS, b0, sRi, eT, bCmp, o_eq, fnC, hb]
    simp [toI, nq]
theorem X5_nl (hj : j < 10) (hN : N j = nI n) (hn : n ≤ 12) : fX3_nameLength [.ref (lo + 24 + 3 * j)] (hS h lo s P pf pi O N L) = some (nLen (L j) n (O j 2), hS h lo s P pf pi O N L) := by
  have e := s_n (h := h) (lo := lo) (s := s) (P := P) (pf := pf) (pi := pi) (O := O) (N := N) (L := L) hj
  rw [hN] at e
  exact X3_nameLength (s_o hj) e (s_l hj) hn
theorem X5_ef (hj : j < 10) (hN : N j = nI n) : fX3_effort [.ref (lo + 24 + 3 * j)] (hS h lo s P pf pi O N L) = some (nI n * (O j 2 + O j 3), hS h lo s P pf pi O N L) := by
  have e := s_n (h := h) (lo := lo) (s := s) (P := P) (pf := pf) (pi := pi) (O := O) (N := N) (L := L) hj
  rw [hN] at e
  exact X3_effort (s_o hj) e
end ZS3
