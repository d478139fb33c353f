/-! the reference: names, sides, the better plate -/
abbrev cMo (m : Nat) (g : Nat → Int32) : zX := xO 7 [.int (g 0), .ref (m + 1), .ref (m + 2), .ref (m + 3), .int (g 4), .ref (m + 4), .int (g 6), .int (g 7), .int (g 8), .int (g 9), .ref (m + 5), .ref (m + 6), .ref (m + 7)]
/-- the depth of a side -/
def dP (S : Nat → Int32) (p sd : Nat) : Int32 := sP S p (3 + sd)
def loM (S : Nat → Int32) (p sd : Nat) (d t : Int32) : Int32 := sP S p 1 - t - d - dP S p (1 - sd)
def rdyM (S : Nat → Int32) (p sd : Nat) (d : Int32) : Bool := decide (dP S p sd = 0) && decide (2 ≤ loM S p sd d 0)
def gndM (S : Nat → Int32) (p sd : Nat) (d : Int32) : Bool := decide (0 < dP S p sd) && decide (2 ≤ loM S p sd d (dP S p sd + 1))
def mayM (S : Nat → Int32) (p sd : Nat) (d : Int32) (w : Bool) : Bool := if w = true then gndM S p sd d else rdyM S p sd d
def toI (o : Option Nat) : Int32 := match o with
  | none => -9
  | some p => nI p
theorem nI_ne9 {n : Nat} (h : n < 2 ^ 31) : nI n ≠ -9 := by
  intro e
  have := congrArg Int32.toInt e
  rw [nI_toInt h] at this
  have e2 : (-9 : Int32).toInt = -9 := by decide
  rw [e2] at this
  omega
def btM (S : Nat → Int32) (p : Nat) (o : Option Nat) : Bool := match o with
  | none => true
  | some q => decide (sP S p 0 - sP S q 0 < 0) || (decide (sP S p 0 - sP S q 0 = 0) && decide (sP S p 1 < sP S q 1))
/-- the length of an order's name, its effort -/
def nlM (S : Nat → Int32) (k n : Nat) : Int32 := sO S k 2 * lenW (nI n - 1) (fun i => sO S k (6 + i)) n
def efM (S : Nat → Int32) (k : Nat) : Int32 := sO S k 5 * (sO S k 2 + sO S k 3)
theorem sub_nI {sd : Nat} (h : sd < 2) : (1 : Int32) - nI sd = nI (1 - sd) := by
  rcases (show sd = 0 ∨ sd = 1 by omega) with rfl | rfl <;> decide
section ZM3
variable {h : zH} {r m p q k n : Nat} {S g tx : Nat → Int32}
theorem X7_depthOf (hr : Ar h r S) (hp0 : p < 20) {c : Int32} {sd : Nat} (hc : c = nI sd) (hs : sd < 2) : fX7_depthOf [.ref r, .int (nI p), .int c] h = some (dP S p sd, h) := by
  have e := ofPk (c := 3 + c) (k := 3 + sd) hr hp0 (by rw [hc, show (3 : Int32) = nI 3 from rfl, nI_add]) (by omega)
  simp [fX7_depthOf, bX7_depthOf, mI_sRi, eCS, aI, aR, aN, eOp, rL, eL, eC, e, dP]
theorem X7_leftOver (hr : Ar h r S) (hp0 : p < 20) {c : Int32} {sd : Nat} (hc : c = nI sd) (hs : sd < 2) (d t : Int32) : fX7_leftOver [.ref r, .int (nI p), .int c, .int d, .int t] h = some (loM S p sd d t, h) := by
  have e := X7_depthOf (c := 1 - c) (sd := 1 - sd) hr hp0 (by rw [hc, sub_nI hs]) (by omega)
  simp [fX7_leftOver, bX7_leftOver, mI_sRi, eCS, aI, aR, aN, eOp, rL, eL, eC, e, ofP1 hr hp0, loM]
theorem X7_isReady (hr : Ar h r S) (hp0 : p < 20) {c : Int32} {sd : Nat} (hc : c = nI sd) (hs : sd < 2) (d : Int32) : fX7_isReady [.ref r, .int (nI p), .int c, .int d] h = some (bI (rdyM S p sd d), h) := by
  by_cases h1 : dP S p sd = 0 <;> simp [fX7_isReady, bX7_isReady, mZ_bI, bAnd, bZ, bCmp, z_eq, o_ge, eCS, aI, aR, aN, rL, eL, eC, X7_depthOf hr hp0 hc hs, X7_leftOver hr hp0 hc hs, rdyM, h1]
theorem X7_canBeGround (hr : Ar h r S) (hp0 : p < 20) {c : Int32} {sd : Nat} (hc : c = nI sd) (hs : sd < 2) (d : Int32) : fX7_canBeGround [.ref r, .int (nI p), .int c, .int d] h = some (bI (gndM S p sd d), h) := by
  by_cases h1 : 0 < dP S p sd <;> simp [fX7_canBeGround, bX7_canBeGround, mZ, sSeq, sLi, zSt, sRi, eB_bI, bAnd, bZ, bCmp, z_gt, o_ge, eCS, aI, aR, aN, eOp, rL, eL, eC, X7_depthOf hr hp0 hc hs, X7_leftOver hr hp0 hc hs, gndM, h1, bI_01]
theorem X7_mayTake (hr : Ar h r S) (hp0 : p < 20) {c : Int32} {sd : Nat} (hc : c = nI sd) (hs : sd < 2) (d : Int32) (w : Bool) : fX7_mayTake [.ref r, .int (nI p), .int c, .int d, .int (bI w)] h = some (bI (mayM S p sd d w), h) := by
  cases w <;> simp [fX7_mayTake, bX7_mayTake, mZ, sRi, eT, bZ, z_ne_bI, eCS, aI, aR, aN, rL, eL, X7_isReady hr hp0 hc hs, X7_canBeGround hr hp0 hc hs, mayM, bI_01]
theorem X7_isBetter (hr : Ar h r S) (hp0 : p < 20) {o : Option Nat} (ho : ∀ q, o = some q → q < 20) : fX7_isBetter [.ref r, .int (nI p), .int (toI o)] h = some (bI (btM S p o), h) := by
  cases o with
  | none => simp [fX7_isBetter, bX7_isBetter, mZ, sSeq, sIf, bCmp, o_eq, eL, eC, toI, sRi, zCut, btM, bI]
  | some q =>
    have hq := ho q rfl
    have hne := nI_ne9 (n := q) (by omega)
    by_cases h1 : sP S p 0 - sP S q 0 < 0 <;> by_cases h2 : sP S p 0 - sP S q 0 = 0 <;> simp [fX7_isBetter, bX7_isBetter, mZ, sSeq, sIf, bCmp, o_eq, o_lt, eL, eC, toI, hne, sNop, zCut, sLi, zSt, eOp, eCS, aI, aR, aN, rL, ofP0 hr hp0, ofP0 hr hq, ofP1 hr hp0, ofP1 hr hq, sRi, eB_bI, bOr, bAnd, bZ, z_lt, z_eq, btM, h1, h2, bI_01]
theorem X7_nameLength (hr : Ar h r S) (hk : k < 10) (hn : sO S k 5 = nI n) (hn2 : n ≤ 12) : fX7_nameLength [.ref r, .int (nI k)] h = some (nlM S k n, h) := by
  have L := sW_run (c := bCmp o_lt (eL 4) (eL 2)) (f := sSeq (sLi 3 (eOp (· + ·) (eL 3) (eCS (aI (eCS (aR (rL 0) (aI (eL 1) (aI (eOp (· + ·) (eC 6) (eL 4)) (aN)))) fX7_of) (aN)) fX7_widthOf))) (sInc 4 1)) (fun i => ([.ref r, .int (nI k), .int (nI n), .int (lenW (nI n - 1) (fun i => sO S k (6 + i)) i), .int (nI i)], h)) n n 4000 0 (by omega) (by omega) (by omega)
    (fun j g1 g2 => by simp [bCmp, eL, o_lt_nI (a := j) (b := n) (by omega) (by omega)])
    (fun j g1 g2 => by simp [sSeq, sLi, sInc, zSt, eOp, eL, eCS, aI, aR, aN, rL, eC, ofOi hr hk (show j < 12 by omega), X7_widthOf, nI_1, zCut, lenW])
  simp [nI_0, lenW] at L
  simp [fX7_nameLength, bX7_nameLength, mI, sSeq, sBlk, sLi, zSt, eC, eL, eOp, eCS, aI, aR, aN, rL, ofO5 hr hk, ofO2 hr hk, hn, L, zCut, sRi, nlM]
theorem X7_effort (hr : Ar h r S) (hk : k < 10) : fX7_effort [.ref r, .int (nI k)] h = some (efM S k, h) := by
  simp [fX7_effort, bX7_effort, mI_sRi, eOp, eCS, aI, aR, aN, rL, eL, eC, ofO5 hr hk, ofO2 hr hk, ofO3 hr hk, efM]
theorem X7_textLength (hm : h.2 m = some (cMo m g)) (ht : h.2 (m + 4) = some (xI 12 tx)) (hn : g 6 = nI n) (hn2 : n ≤ 12) (z : Int32) : fX7_textLength [.ref m, .int z] h = some (nLen tx n z, h) := by
  have L := sW_run (c := bCmp o_lt (eL 3) (eF 7 6 (rL 0))) (f := sSeq (sLi 2 (eOp (· + ·) (eL 2) (eCS (aI (eA (rF 7 5 (rL 0)) (eL 3)) (aN)) fX7_widthOf))) (sInc 3 1)) (fun i => ([.ref m, .int z, .int (lenW (if n = 0 then 0 else nI n - 1) tx i), .int (nI i)], h)) n n 4000 0 (by omega) (by omega) (by omega)
    (fun j g1 g2 => by simp [bCmp, eL, eF, rL, rdI, hm, hn, o_lt_nI (a := j) (b := n) (by omega) (by omega)])
    (fun j g1 g2 => by simp [sSeq, sLi, sInc, zSt, eOp, eL, eCS, aI, aN, eA, rF, rL, rdR, hm, rdA_of ht (show j < 12 by omega) (by omega), X7_widthOf, nI_1, zCut, lenW])
  by_cases h0 : n = 0
  · subst h0
    simp [nI_0, lenW] at L
    simp [fX7_textLength, bX7_textLength, mI, sSeq, sBlk, sLi, zSt, eC, eL, eOp, eT, bZ, z_eq, eF, rL, rdI, hm, hn, nI_0, L, zCut, sRi, nLen]
  · have hz : nI n ≠ 0 := nI_ne0 (by omega) (by omega)
    simp [nI_0, lenW, h0] at L
    simp [fX7_textLength, bX7_textLength, mI, sSeq, sBlk, sLi, zSt, eC, eL, eOp, eT, bZ, z_eq, eF, rL, rdI, hm, hn, hz, h0, L, zCut, sRi, nLen, Int32.mul_comm]
theorem X7_isOrdered {nO : Nat} (hm : h.2 m = some (cMo m g)) (hr : Ar h (m + 1) S) (h1 : S 2 = nI nO) (hn : nO ≤ 10) (sh y : Int32) : fX7_isOrdered [.ref m, .int sh, .int y] h = some (bI (anyM (orY S sh y) nO), h) := by
  have L := sW_run (c := bCmp o_lt (eL 4) (eA (rF 7 1 (rL 0)) (eC 2))) (f := sSeq (sLi 3 (eB (bOr (bZ z_ne (eL 3)) (bAnd (bCmp o_eq (eCS (aR (rF 7 1 (rL 0)) (aI (eL 4) (aI (eC 0) (aN)))) fX7_of) (eL 1)) (bCmp o_eq (eCS (aR (rF 7 1 (rL 0)) (aI (eL 4) (aI (eC 1) (aN)))) fX7_of) (eL 2)))))) (sInc 4 1)) (fun i => ([.ref m, .int sh, .int y, .int (bI (anyM (orY S sh y) i)), .int (nI i)], h)) nO nO 4000 0 (by omega) (by omega) (by omega)
    (fun j g1 g2 => by simp [bCmp, eL, eA, rF, rdR, hm, rL, eC, hd2 hr, h1, o_lt_nI (a := j) (b := nO) (by omega) (by omega)])
    (fun j g1 g2 => by
      cases hz : anyM (orY S sh y) j <;> by_cases hy : sO S j 0 = sh <;> by_cases hw : sO S j 1 = y <;> simp [sSeq, sLi, sInc, zSt, eL, eCS, aI, aR, aN, rF, rdR, hm, rL, eC, eB_bI, bAnd, bOr, bCmp, bZ, z_ne_bI, o_eq, ofO0 hr (show j < 10 by omega), ofO1 hr (show j < 10 by omega), nI_1, zCut, anyM, orY, hz, hy, hw])
  simp [nI_0, anyM, show bI false = 0 from rfl] at L
  simp [fX7_isOrdered, bX7_isOrdered, mZ, sSeq, sBlk, sLi, zSt, eC, L, zCut, sRi, eL, bI_01]
theorem X7_isPlate {nP : Nat} (hm : h.2 m = some (cMo m g)) (hr : Ar h (m + 1) S) (v : Int32) : fX7_isPlate [.ref m, .int v] h = some (bI (decide (0 ≤ v) && decide (v ≤ S 1 - 1)), h) := by
  simp [fX7_isPlate, bX7_isPlate, mZ, sRi, eCS, aI, aN, eL, eC, eOp, eA, rF, rdR, hm, rL, hd1 hr, X7_in, bI_01]
theorem X7_isShield (hm : h.2 m = some (cMo m g)) (hr : Ar h (m + 1) S) (v : Int32) : fX7_isShield [.ref m, .int v] h = some (bI (decide (0 ≤ v) && decide (v ≤ S 0 - 1)), h) := by
  simp [fX7_isShield, bX7_isShield, mZ, sRi, eCS, aI, aN, eL, eC, eOp, eA, rF, rdR, hm, rL, hd0 hr, X7_in, bI_01]
theorem X7_isOrder (hm : h.2 m = some (cMo m g)) (hr : Ar h (m + 1) S) (v : Int32) : fX7_isOrder [.ref m, .int v] h = some (bI (decide (0 ≤ v) && decide (v ≤ S 2 - 1)), h) := by
  simp [fX7_isOrder, bX7_isOrder, mZ, sRi, eCS, aI, aN, eL, eC, eOp, eA, rF, rdR, hm, rL, hd2 hr, X7_in, bI_01]
end ZM3
