/-! the class: reads of a shop -/
def firstO (P : Nat → Bool) : Nat → Option Nat
  | 0 => none
  | n + 1 => match firstO P n with
    | some x => some x
    | none => if P n = true then some n else none
theorem firstO_none {P : Nat → Bool} : ∀ {n}, firstO P n = none → ∀ k, k < n → P k = false
  | 0, _, k, hk => by omega
  | n + 1, h, k, hk => by
    simp only [firstO] at h
    cases hf : firstO P n with
    | some x => rw [hf] at h; cases h
    | none =>
      rw [hf] at h
      by_cases hkn : k = n
      · subst hkn
        cases hp0 : P k with
        | false => rfl
        | true => simp [hp0] at h
      · exact firstO_none hf k (by omega)
theorem firstO_some {P : Nat → Bool} {q : Nat} : ∀ {n}, firstO P n = some q → q < n ∧ P q = true ∧ ∀ k, k < q → P k = false
  | 0, h => by cases h
  | n + 1, h => by
    simp only [firstO] at h
    cases hf : firstO P n with
    | some x =>
      rw [hf] at h
      cases h
      obtain ⟨a, b, c⟩ := firstO_some hf
      exact ⟨by omega, b, c⟩
    | none =>
      rw [hf] at h
      cases hp0 : P n with
      | false => simp [hp0] at h
      | true =>
        simp [hp0] at h
        subst h
        exact ⟨by omega, hp0, firstO_none hf⟩
def eaC (Pr : Nat → Bool) (y : Nat → Int32) : Nat → Int32
  | 0 => -9
  | n + 1 => if (Pr n && (decide (eaC Pr y n = -9) || decide (y n < eaC Pr y n))) = true then y n else eaC Pr y n
def laC (Pr : Nat → Bool) (y : Nat → Int32) : Nat → Int32
  | 0 => -9
  | n + 1 => if (Pr n && (decide (laC Pr y n = -9) || decide (laC Pr y n < y n))) = true then y n else laC Pr y n
def onC (P : Nat → Nat → Int32) (sh : Int32) (p : Nat) : Bool := decide (P p 5 = sh)
def oyC (P : Nat → Nat → Int32) (sh y : Int32) (p : Nat) : Bool := decide (P p 5 = sh) && decide (P p 6 = y)
def hasB (v n : Int32) : Bool := decide (0 ≤ v) && decide (v < n)
def wkC (s : Nat → Int32) : Bool := hasB (s 6) (s 5) && hasB (s 7) (s 3)
def sdC (g : Nat → Int32) (d : Int32) (w : Bool) : Int32 := if w = true then pSG g d else pRS g d
def okC (P : Nat → Nat → Int32) (its d : Int32) (w : Bool) (p : Nat) : Bool := (decide (P p 2 = 0) && decide (its ≤ P p 0)) && decide (sdC (P p) d w ≠ -9)
def btC (P : Nat → Nat → Int32) (p : Nat) (o : Option Nat) : Bool := match o with
  | none => true
  | some q => pBet (P p) (P q)
def bsC (P : Nat → Nat → Int32) (its d : Int32) (w : Bool) : Nat → Option Nat
  | 0 => none
  | n + 1 => if (okC P its d w n && btC P n (bsC P its d w n)) = true then some n else bsC P its d w n
theorem bsC_lt {P : Nat → Nat → Int32} {its d : Int32} {w : Bool} {q : Nat} : ∀ {n}, bsC P its d w n = some q → q < n
  | 0, h => by cases h
  | n + 1, h => by
    simp only [bsC] at h
    split at h
    · cases h; omega
    · have := bsC_lt h; omega
section ZS2
variable {h : zH} {lo p j k nP nO nS : Nat} {s pf N : Nat → Int32} {P O L : Nat → Nat → Int32} {pi : Nat → Nat}
theorem X5_hasPlate (v : Int32) : fX5_hasPlate [.ref lo, .int v] (hS h lo s P pf pi O N L) = some (bI (hasB v (s 3)), hS h lo s P pf pi O N L) := by
  by_cases h1 : 0 ≤ v <;> simp [fX5_hasPlate, bX5_hasPlate, mZ_bI, bAnd, bZ, bCmp, z_ge, o_lt, eL, eF, rL, rs3, hasB, h1]
theorem X5_hasShield (v : Int32) : fX5_hasShield [.ref lo, .int v] (hS h lo s P pf pi O N L) = some (bI (hasB v (s 4)), hS h lo s P pf pi O N L) := by
  by_cases h1 : 0 ≤ v <;> simp [fX5_hasShield, bX5_hasShield, mZ_bI, bAnd, bZ, bCmp, z_ge, o_lt, eL, eF, rL, rs4, hasB, h1]
theorem X5_hasOrder (v : Int32) : fX5_hasOrder [.ref lo, .int v] (hS h lo s P pf pi O N L) = some (bI (hasB v (s 5)), hS h lo s P pf pi O N L) := by
  by_cases h1 : 0 ≤ v <;> simp [fX5_hasOrder, bX5_hasOrder, mZ_bI, bAnd, bZ, bCmp, z_ge, o_lt, eL, eF, rL, rs5, hasB, h1]
theorem X5_isWorking : fX5_isWorking [.ref lo] (hS h lo s P pf pi O N L) = some (bI (wkC s), hS h lo s P pf pi O N L) := by
  cases h1 : hasB (s 6) (s 5) <;> simp [fX5_isWorking, bX5_isWorking, mZ_bI, bAnd, bZ, eCV, aI, aN, eF, rL, rs6, rs7, isS, X5_hasOrder, X5_hasPlate, z_ne_bI, h1, wkC]
theorem X5_platesIn (h1 : s 3 = nI nP) (hn : nP ≤ 20) (st : Int32) : fX5_platesIn [.ref lo, .int st] (hS h lo s P pf pi O N L) = some (cnt (fun p => decide (P p 2 = st)) nP, hS h lo s P pf pi O N L) := by
  have LL := sW_run (c := bCmp o_lt (eL 3) (eF 5 3 (rL 0))) (f := sSeq (sIf (bCmp o_eq (eF 4 2 (rQ 4 (rF 5 0 (rL 0)) (eL 3))) (eL 1)) (sInc 2 1) sNop) (sInc 3 1)) (fun i => ([.ref lo, .int st, .int (cnt (fun p => decide (P p 2 = st)) i), .int (nI i)], hS h lo s P pf pi O N L)) nP nP 4000 0 (by omega) (by omega) (by omega)
    (fun j g1 g2 => by simp [bCmp, eL, eF, rL, rs3, h1, o_lt_nI (a := j) (b := nP) (by omega) (by omega)])
    (fun j g1 g2 => by
      by_cases hz : P j 2 = st <;> simp [sSeq, sIf, sInc, sNop, zSt, eL, eF, rQ, rF, rL, bCmp, o_eq, rS0, qPl (show j < 20 by omega), rpl2 (show j < 20 by omega), nI_1, zCut, cnt, hz])
  simp [nI_0, cnt] at LL
  simp [fX5_platesIn, bX5_platesIn, mI, sSeq, sBlk, sLi, zSt, eC, LL, zCut, sRi, eL]
theorem X5_platesOn (h1 : s 3 = nI nP) (hn : nP ≤ 20) (sh : Int32) : fX5_platesOn [.ref lo, .int sh] (hS h lo s P pf pi O N L) = some (cnt (onC P sh) nP, hS h lo s P pf pi O N L) := by
  have LL := sW_run (c := bCmp o_lt (eL 3) (eF 5 3 (rL 0))) (f := sSeq (sIf (bCmp o_eq (eF 4 5 (rQ 4 (rF 5 0 (rL 0)) (eL 3))) (eL 1)) (sInc 2 1) sNop) (sInc 3 1)) (fun i => ([.ref lo, .int sh, .int (cnt (onC P sh) i), .int (nI i)], hS h lo s P pf pi O N L)) nP nP 4000 0 (by omega) (by omega) (by omega)
    (fun j g1 g2 => by simp [bCmp, eL, eF, rL, rs3, h1, o_lt_nI (a := j) (b := nP) (by omega) (by omega)])
    (fun j g1 g2 => by
      by_cases hz : P j 5 = sh <;> simp [sSeq, sIf, sInc, sNop, zSt, eL, eF, rQ, rF, rL, bCmp, o_eq, rS0, qPl (show j < 20 by omega), rpl5 (show j < 20 by omega), nI_1, zCut, cnt, onC, hz])
  simp [nI_0, cnt] at LL
  simp [fX5_platesOn, bX5_platesOn, mI, sSeq, sBlk, sLi, zSt, eC, LL, zCut, sRi, eL]
set_option maxRecDepth 100000 in
theorem X5_plateOfYear (h1 : s 3 = nI nP) (hn : nP ≤ 20) (sh y : Int32) : fX5_plateOfYear [.ref lo, .int sh, .int y] (hS h lo s P pf pi O N L) = some (toI (firstO (oyC P sh y) nP), hS h lo s P pf pi O N L) := by
  have cd : ∀ j, j ≤ nP → bCmp o_lt (eL 3) (eF 5 3 (rL 0)) [.ref lo, .int sh, .int y, .int (nI j)] (hS h lo s P pf pi O N L) = some (decide (j < nP), hS h lo s P pf pi O N L) := fun j g2 => by simp [bCmp, eL, eF, rL, rs3, h1, o_lt_nI (a := j) (b := nP) (by omega) (by omega)]
  have no : ∀ j, j < 20 → oyC P sh y j = false → (sSeq (sIf (bAnd (bCmp o_eq (eF 4 5 (rQ 4 (rF 5 0 (rL 0)) (eL 3))) (eL 1)) (bCmp o_eq (eF 4 6 (rQ 4 (rF 5 0 (rL 0)) (eL 3))) (eL 2))) (sRi (eL 3)) sNop) (sInc 3 1)) [.ref lo, .int sh, .int y, .int (nI j)] (hS h lo s P pf pi O N L) = some (.inl ([.ref lo, .int sh, .int y, .int (nI (j + 1))], hS h lo s P pf pi O N L)) := fun j hj hf => by
    by_cases hz : P j 5 = sh
    · have hw : ¬ P j 6 = y := fun e => by simp [oyC, hz, e] at hf
      simp [sSeq, sIf, sInc, sNop, zSt, eL, eF, rQ, rF, rL, bAnd, bCmp, o_eq, rS0, qPl hj, rpl5 hj, rpl6 hj, nI_1, zCut, hz, hw]
    · simp [sSeq, sIf, sInc, sNop, zSt, eL, eF, rQ, rF, rL, bAnd, bCmp, o_eq, rS0, qPl hj, rpl5 hj, nI_1, zCut, hz]
  cases hf : firstO (oyC P sh y) nP with
  | none =>
    have LL := sW_run (c := bCmp o_lt (eL 3) (eF 5 3 (rL 0))) (f := sSeq (sIf (bAnd (bCmp o_eq (eF 4 5 (rQ 4 (rF 5 0 (rL 0)) (eL 3))) (eL 1)) (bCmp o_eq (eF 4 6 (rQ 4 (rF 5 0 (rL 0)) (eL 3))) (eL 2))) (sRi (eL 3)) sNop) (sInc 3 1)) (fun i => ([.ref lo, .int sh, .int y, .int (nI i)], hS h lo s P pf pi O N L)) nP nP 4000 0 (by omega) (by omega) (by omega)
      (fun j g1 g2 => cd j g2)
      (fun j g1 g2 => by simp [no j (by omega) (firstO_none hf j g2), zCut])
    simp [nI_0] at LL
    simp [fX5_plateOfYear, bX5_plateOfYear, mI, sSeq, sBlk, sLi, zSt, eC, LL, zCut, sRi, eL, toI]
  | some q =>
    obtain ⟨f1, f2, f3⟩ := firstO_some hf
    have hz : P q 5 = sh := by simp [oyC] at f2; exact f2.1
    have hw : P q 6 = y := by simp [oyC] at f2; exact f2.2
    have LL := sW_ret (q := (some (nI q), hS h lo s P pf pi O N L)) (c := bCmp o_lt (eL 3) (eF 5 3 (rL 0))) (f := sSeq (sIf (bAnd (bCmp o_eq (eF 4 5 (rQ 4 (rF 5 0 (rL 0)) (eL 3))) (eL 1)) (bCmp o_eq (eF 4 6 (rQ 4 (rF 5 0 (rL 0)) (eL 3))) (eL 2))) (sRi (eL 3)) sNop) (sInc 3 1)) (fun i => ([.ref lo, .int sh, .int y, .int (nI i)], hS h lo s P pf pi O N L)) q q 4000 0 (by omega) (by omega) (by omega)
      (fun j g1 g2 => by simp [cd j (by omega), show j < nP by omega])
      (fun j g1 g2 => by simp [no j (by omega) (f3 j g2), zCut])
      (by simp [sSeq, sIf, sRi, eL, eF, rQ, rF, rL, bAnd, bCmp, o_eq, rS0, qPl (show q < 20 by omega), rpl5 (show q < 20 by omega), rpl6 (show q < 20 by omega), zCut, hz, hw])
    simp [nI_0] at LL
    simp [fX5_plateOfYear, bX5_plateOfYear, mI, sSeq, sBlk, sLi, zSt, eC, LL, zCut, toI]
theorem X5_earliestYear (h1 : s 3 = nI nP) (hn : nP ≤ 20) (sh : Int32) : fX5_earliestYear [.ref lo, .int sh] (hS h lo s P pf pi O N L) = some (eaC (onC P sh) (fun p => P p 6) nP, hS h lo s P pf pi O N L) := by
  have LL := sW_run (c := bCmp o_lt (eL 3) (eF 5 3 (rL 0))) (f := sSeq (sSeq (sLi 4 (eF 4 6 (rQ 4 (rF 5 0 (rL 0)) (eL 3)))) (sIf (bAnd (bCmp o_eq (eF 4 5 (rQ 4 (rF 5 0 (rL 0)) (eL 3))) (eL 1)) (bOr (bCmp o_eq (eL 2) (eC (-9))) (bCmp o_lt (eL 4) (eL 2)))) (sLi 2 (eL 4)) sNop)) (sInc 3 1)) (fun i => ([.ref lo, .int sh, .int (eaC (onC P sh) (fun p => P p 6) i), .int (nI i)], hS h lo s P pf pi O N L)) nP nP 4000 0 (by omega) (by omega) (by omega)
    (fun j g1 g2 => by simp [bCmp, eL, eF, rL, rs3, h1, o_lt_nI (a := j) (b := nP) (by omega) (by omega)])
    (fun j g1 g2 => by
      by_cases hz : P j 5 = sh <;> by_cases hy : eaC (onC P sh) (fun p => P p 6) j = -9 <;> by_cases hw : P j 6 < eaC (onC P sh) (fun p => P p 6) j <;> simp [sSeq, sIf, sLi, sInc, sNop, zSt, eL, eC, eF, rQ, rF, rL, bAnd, bOr, bCmp, o_eq, o_lt, rS0, qPl (show j < 20 by omega), rpl5 (show j < 20 by omega), rpl6 (show j < 20 by omega), nI_1, zCut, eaC, onC, hz, hy, hw])
  simp [nI_0, eaC] at LL
  simp [fX5_earliestYear, bX5_earliestYear, mI, sSeq, sBlk, sLi, zSt, eC, LL, zCut, sRi, eL]
theorem X5_latestYear (h1 : s 3 = nI nP) (hn : nP ≤ 20) (sh : Int32) : fX5_latestYear [.ref lo, .int sh] (hS h lo s P pf pi O N L) = some (laC (onC P sh) (fun p => P p 6) nP, hS h lo s P pf pi O N L) := by
  have LL := sW_run (c := bCmp o_lt (eL 3) (eF 5 3 (rL 0))) (f := sSeq (sSeq (sLi 4 (eF 4 6 (rQ 4 (rF 5 0 (rL 0)) (eL 3)))) (sIf (bAnd (bCmp o_eq (eF 4 5 (rQ 4 (rF 5 0 (rL 0)) (eL 3))) (eL 1)) (bOr (bCmp o_eq (eL 2) (eC (-9))) (bCmp o_gt (eL 4) (eL 2)))) (sLi 2 (eL 4)) sNop)) (sInc 3 1)) (fun i => ([.ref lo, .int sh, .int (laC (onC P sh) (fun p => P p 6) i), .int (nI i)], hS h lo s P pf pi O N L)) nP nP 4000 0 (by omega) (by omega) (by omega)
    (fun j g1 g2 => by simp [bCmp, eL, eF, rL, rs3, h1, o_lt_nI (a := j) (b := nP) (by omega) (by omega)])
    (fun j g1 g2 => by
      by_cases hz : P j 5 = sh <;> by_cases hy : laC (onC P sh) (fun p => P p 6) j = -9 <;> by_cases hw : laC (onC P sh) (fun p => P p 6) j < P j 6 <;> simp [sSeq, sIf, sLi, sInc, sNop, zSt, eL, eC, eF, rQ, rF, rL, bAnd, bOr, bCmp, o_eq, o_gt, rS0, qPl (show j < 20 by omega), rpl5 (show j < 20 by omega), rpl6 (show j < 20 by omega), nI_1, zCut, laC, onC, hz, hy, hw])
  simp [nI_0, laC] at LL
  simp [fX5_latestYear, bX5_latestYear, mI, sSeq, sBlk, sLi, zSt, eC, LL, zCut, sRi, eL]
theorem X5_yearsLeftOut (h1 : s 3 = nI nP) (hn : nP ≤ 20) (sh : Int32) : fX5_yearsLeftOut [.ref lo, .int sh] (hS h lo s P pf pi O N L) = some (if cnt (onC P sh) nP = 0 then 0 else laC (onC P sh) (fun p => P p 6) nP - eaC (onC P sh) (fun p => P p 6) nP + 1 - cnt (onC P sh) nP, hS h lo s P pf pi O N L) := by
  by_cases hz : cnt (onC P sh) nP = 0 <;> simp [fX5_yearsLeftOut, bX5_yearsLeftOut, mI, sSeq, sLi, zSt, sRi, eT, bZ, z_eq, eCV, eOp, aI, aN, rL, eL, eC, isS, X5_platesOn h1 hn, X5_latestYear h1 hn, X5_earliestYear h1 hn, hz]
theorem X5_rushes (h1 : s 5 = nI nO) (hn : nO ≤ 10) (hpi : ∀ k, k < 10 → pi k < 10) : fX5_rushes [.ref lo] (hS h lo s P pf pi O N L) = some (cnt (fun k => decide (O (pi k) 4 ≠ 0)) nO, hS h lo s P pf pi O N L) := by
  have LL := sW_run (c := bCmp o_lt (eL 2) (eF 5 5 (rL 0))) (f := sSeq (sIf (bZ z_ne (eF 3 5 (rQ 3 (rF 5 2 (rL 0)) (eL 2)))) (sInc 1 1) sNop) (sInc 2 1)) (fun i => ([.ref lo, .int (cnt (fun k => decide (O (pi k) 4 ≠ 0)) i), .int (nI i)], hS h lo s P pf pi O N L)) nO nO 4000 0 (by omega) (by omega) (by omega)
    (fun j g1 g2 => by simp [bCmp, eL, eF, rL, rs5, h1, o_lt_nI (a := j) (b := nO) (by omega) (by omega)])
    (fun j g1 g2 => by
      by_cases hz : O (pi j) 4 = 0 <;> simp [sSeq, sIf, sInc, sNop, zSt, eL, eF, rQ, rF, rL, bZ, z_ne, rS2, qRw (show j < 10 by omega), ro5 (hpi j (by omega)), nI_1, zCut, cnt, hz])
  simp [nI_0, cnt] at LL
  simp [fX5_rushes, bX5_rushes, mI, sSeq, sBlk, sLi, zSt, eC, LL, zCut, sRi, eL]
end ZS2
