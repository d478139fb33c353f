/-! the reference's row of 343 numbers: reads and writes -/
abbrev Ar (h : zH) (r : Nat) (S : Nat → Int32) : Prop := h.2 r = some (xI 343 S)
def sP (S : Nat → Int32) (p k : Nat) : Int32 := S (10 + 7 * p + k)
def sO (S : Nat → Int32) (j k : Nat) : Int32 := S (153 + 19 * j + k)
theorem nI_mul (a b : Nat) : nI a * nI b = nI (a * b) := (Int32.ofNat_mul a b).symm
theorem ixP (p k : Nat) : (10 : Int32) + 7 * nI p + nI k = nI (10 + 7 * p + k) := by
  rw [show (10 : Int32) = nI 10 from rfl, show (7 : Int32) = nI 7 from rfl, nI_mul, nI_add, nI_add]
theorem ixO (j k : Nat) : (153 : Int32) + 19 * nI j + nI k = nI (153 + 19 * j + k) := by
  rw [show (153 : Int32) = nI 153 from rfl, show (19 : Int32) = nI 19 from rfl, nI_mul, nI_add, nI_add]
theorem ixO0 (j : Nat) : (153 : Int32) + 19 * nI j = nI (153 + 19 * j) := by
  rw [show (153 : Int32) = nI 153 from rfl, show (19 : Int32) = nI 19 from rfl, nI_mul, nI_add]
section ZM1
variable {h : zH} {r p j : Nat} {S : Nat → Int32}
theorem ofPk (hr : Ar h r S) (hp0 : p < 20) {c : Int32} {k : Nat} (hc : c = nI k) (hk : k < 7) : fX7_ofPlate [.ref r, .int (nI p), .int c] h = some (sP S p k, h) := by
  subst hc
  have e := rdA_of hr (show 10 + 7 * p + k < 343 by omega) (by omega)
  rw [← ixP] at e
  simp [fX7_ofPlate, bX7_ofPlate, mI_sRi, eA, eOp, rL, eL, eC, e, sP]
theorem stPk (hr : Ar h r S) (hp0 : p < 20) {c v : Int32} {k : Nat} (hc : c = nI k) (hk : k < 7) : fX7_setPlate [.ref r, .int (nI p), .int c, .int v] h = some (hp h r (xI 343 (upd S (10 + 7 * p + k) v))) := by
  subst hc
  have e := wrA_of (v := v) hr (show 10 + 7 * p + k < 343 by omega) (by omega)
  rw [← ixP] at e
  simp [fX7_setPlate, bX7_setPlate, mV, sSeq, sA, eOp, rL, eL, eC, e, sRv]
theorem ofOk (hr : Ar h r S) (hj : j < 10) {c : Int32} {k : Nat} (hc : c = nI k) (hk : k < 19) : fX7_of [.ref r, .int (nI j), .int c] h = some (sO S j k, h) := by
  subst hc
  have e := rdA_of hr (show 153 + 19 * j + k < 343 by omega) (by omega)
  rw [← ixO] at e
  simp [fX7_of, bX7_of, mI_sRi, eA, eOp, rL, eL, eC, e, sO]
theorem ofP0 (hr : Ar h r S) (hp0 : p < 20) : fX7_ofPlate [.ref r, .int (nI p), .int 0] h = some (sP S p 0, h) := ofPk hr hp0 rfl (by omega)
theorem stP0 (hr : Ar h r S) (hp0 : p < 20) (v : Int32) : fX7_setPlate [.ref r, .int (nI p), .int 0, .int v] h = some (hp h r (xI 343 (upd S (10 + 7 * p + 0) v))) := stPk hr hp0 rfl (by omega)
theorem ofP1 (hr : Ar h r S) (hp0 : p < 20) : fX7_ofPlate [.ref r, .int (nI p), .int 1] h = some (sP S p 1, h) := ofPk hr hp0 rfl (by omega)
theorem stP1 (hr : Ar h r S) (hp0 : p < 20) (v : Int32) : fX7_setPlate [.ref r, .int (nI p), .int 1, .int v] h = some (hp h r (xI 343 (upd S (10 + 7 * p + 1) v))) := stPk hr hp0 rfl (by omega)
theorem ofP2 (hr : Ar h r S) (hp0 : p < 20) : fX7_ofPlate [.ref r, .int (nI p), .int 2] h = some (sP S p 2, h) := ofPk hr hp0 rfl (by omega)
theorem stP2 (hr : Ar h r S) (hp0 : p < 20) (v : Int32) : fX7_setPlate [.ref r, .int (nI p), .int 2, .int v] h = some (hp h r (xI 343 (upd S (10 + 7 * p + 2) v))) := stPk hr hp0 rfl (by omega)
theorem ofP3 (hr : Ar h r S) (hp0 : p < 20) : fX7_ofPlate [.ref r, .int (nI p), .int 3] h = some (sP S p 3, h) := ofPk hr hp0 rfl (by omega)
theorem stP3 (hr : Ar h r S) (hp0 : p < 20) (v : Int32) : fX7_setPlate [.ref r, .int (nI p), .int 3, .int v] h = some (hp h r (xI 343 (upd S (10 + 7 * p + 3) v))) := stPk hr hp0 rfl (by omega)
theorem ofP4 (hr : Ar h r S) (hp0 : p < 20) : fX7_ofPlate [.ref r, .int (nI p), .int 4] h = some (sP S p 4, h) := ofPk hr hp0 rfl (by omega)
theorem stP4 (hr : Ar h r S) (hp0 : p < 20) (v : Int32) : fX7_setPlate [.ref r, .int (nI p), .int 4, .int v] h = some (hp h r (xI 343 (upd S (10 + 7 * p + 4) v))) := stPk hr hp0 rfl (by omega)
theorem ofP5 (hr : Ar h r S) (hp0 : p < 20) : fX7_ofPlate [.ref r, .int (nI p), .int 5] h = some (sP S p 5, h) := ofPk hr hp0 rfl (by omega)
theorem stP5 (hr : Ar h r S) (hp0 : p < 20) (v : Int32) : fX7_setPlate [.ref r, .int (nI p), .int 5, .int v] h = some (hp h r (xI 343 (upd S (10 + 7 * p + 5) v))) := stPk hr hp0 rfl (by omega)
theorem ofP6 (hr : Ar h r S) (hp0 : p < 20) : fX7_ofPlate [.ref r, .int (nI p), .int 6] h = some (sP S p 6, h) := ofPk hr hp0 rfl (by omega)
theorem stP6 (hr : Ar h r S) (hp0 : p < 20) (v : Int32) : fX7_setPlate [.ref r, .int (nI p), .int 6, .int v] h = some (hp h r (xI 343 (upd S (10 + 7 * p + 6) v))) := stPk hr hp0 rfl (by omega)
theorem ofO0 (hr : Ar h r S) (hj : j < 10) : fX7_of [.ref r, .int (nI j), .int 0] h = some (sO S j 0, h) := ofOk hr hj rfl (by omega)
theorem ofO1 (hr : Ar h r S) (hj : j < 10) : fX7_of [.ref r, .int (nI j), .int 1] h = some (sO S j 1, h) := ofOk hr hj rfl (by omega)
theorem ofO2 (hr : Ar h r S) (hj : j < 10) : fX7_of [.ref r, .int (nI j), .int 2] h = some (sO S j 2, h) := ofOk hr hj rfl (by omega)
theorem ofO3 (hr : Ar h r S) (hj : j < 10) : fX7_of [.ref r, .int (nI j), .int 3] h = some (sO S j 3, h) := ofOk hr hj rfl (by omega)
theorem ofO4 (hr : Ar h r S) (hj : j < 10) : fX7_of [.ref r, .int (nI j), .int 4] h = some (sO S j 4, h) := ofOk hr hj rfl (by omega)
theorem ofO5 (hr : Ar h r S) (hj : j < 10) : fX7_of [.ref r, .int (nI j), .int 5] h = some (sO S j 5, h) := ofOk hr hj rfl (by omega)
theorem ofO6 (hr : Ar h r S) (hj : j < 10) : fX7_of [.ref r, .int (nI j), .int 6] h = some (sO S j 6, h) := ofOk hr hj rfl (by omega)
theorem ofO18 (hr : Ar h r S) (hj : j < 10) : fX7_of [.ref r, .int (nI j), .int 18] h = some (sO S j 18, h) := ofOk hr hj rfl (by omega)
theorem ofOi {i : Nat} (hr : Ar h r S) (hj : j < 10) (hi : i < 12) : fX7_of [.ref r, .int (nI j), .int (6 + nI i)] h = some (sO S j (6 + i), h) := ofOk hr hj (by rw [show (6 : Int32) = nI 6 from rfl, nI_add]) (by omega)
theorem hd0 (hr : Ar h r S) : rdA h r 0 = some (S 0) := rdA_of (j := 0) hr (by omega) (by omega)
theorem wh0 (hr : Ar h r S) (v : Int32) : wrA h r 0 v = some (hp h r (xI 343 (upd S 0 v))) := wrA_of (j := 0) hr (by omega) (by omega)
theorem hd1 (hr : Ar h r S) : rdA h r 1 = some (S 1) := rdA_of (j := 1) hr (by omega) (by omega)
theorem wh1 (hr : Ar h r S) (v : Int32) : wrA h r 1 v = some (hp h r (xI 343 (upd S 1 v))) := wrA_of (j := 1) hr (by omega) (by omega)
theorem hd2 (hr : Ar h r S) : rdA h r 2 = some (S 2) := rdA_of (j := 2) hr (by omega) (by omega)
theorem wh2 (hr : Ar h r S) (v : Int32) : wrA h r 2 v = some (hp h r (xI 343 (upd S 2 v))) := wrA_of (j := 2) hr (by omega) (by omega)
theorem hd3 (hr : Ar h r S) : rdA h r 3 = some (S 3) := rdA_of (j := 3) hr (by omega) (by omega)
theorem wh3 (hr : Ar h r S) (v : Int32) : wrA h r 3 v = some (hp h r (xI 343 (upd S 3 v))) := wrA_of (j := 3) hr (by omega) (by omega)
theorem hd4 (hr : Ar h r S) : rdA h r 4 = some (S 4) := rdA_of (j := 4) hr (by omega) (by omega)
theorem wh4 (hr : Ar h r S) (v : Int32) : wrA h r 4 v = some (hp h r (xI 343 (upd S 4 v))) := wrA_of (j := 4) hr (by omega) (by omega)
theorem hd5 (hr : Ar h r S) : rdA h r 5 = some (S 5) := rdA_of (j := 5) hr (by omega) (by omega)
theorem wh5 (hr : Ar h r S) (v : Int32) : wrA h r 5 v = some (hp h r (xI 343 (upd S 5 v))) := wrA_of (j := 5) hr (by omega) (by omega)
theorem hd6 (hr : Ar h r S) : rdA h r 6 = some (S 6) := rdA_of (j := 6) hr (by omega) (by omega)
theorem wh6 (hr : Ar h r S) (v : Int32) : wrA h r 6 v = some (hp h r (xI 343 (upd S 6 v))) := wrA_of (j := 6) hr (by omega) (by omega)
theorem hd7 (hr : Ar h r S) : rdA h r 7 = some (S 7) := rdA_of (j := 7) hr (by omega) (by omega)
theorem wh7 (hr : Ar h r S) (v : Int32) : wrA h r 7 v = some (hp h r (xI 343 (upd S 7 v))) := wrA_of (j := 7) hr (by omega) (by omega)
theorem hd8 (hr : Ar h r S) : rdA h r 8 = some (S 8) := rdA_of (j := 8) hr (by omega) (by omega)
theorem wh8 (hr : Ar h r S) (v : Int32) : wrA h r 8 v = some (hp h r (xI 343 (upd S 8 v))) := wrA_of (j := 8) hr (by omega) (by omega)
theorem hd9 (hr : Ar h r S) : rdA h r 9 = some (S 9) := rdA_of (j := 9) hr (by omega) (by omega)
theorem wh9 (hr : Ar h r S) (v : Int32) : wrA h r 9 v = some (hp h r (xI 343 (upd S 9 v))) := wrA_of (j := 9) hr (by omega) (by omega)
theorem hd150 {i : Nat} (hr : Ar h r S) (hi : i < 3) : rdA h r (150 + nI i) = some (S (150 + i)) := by
  rw [show (150 : Int32) = nI 150 from rfl, nI_add]
  exact rdA_of hr (by omega) (by omega)
theorem wh150 {i : Nat} (hr : Ar h r S) (hi : i < 3) (v : Int32) : wrA h r (150 + nI i) v = some (hp h r (xI 343 (upd S (150 + i) v))) := by
  rw [show (150 : Int32) = nI 150 from rfl, nI_add]
  exact wrA_of hr (by omega) (by omega)
end ZM1
theorem X7_in (h : zH) (v a b : Int32) : fX7_in [.int v, .int a, .int b] h = some (bI (decide (a ≤ v) && decide (v ≤ b)), h) := by
  by_cases h1 : a ≤ v <;> by_cases h2 : v ≤ b <;> simp [fX7_in, bX7_in, mZ_bI, bAnd, bCmp, eL, o_ge, o_le, h1, h2]
theorem X7_isYear (h : zH) (v : Int32) : fX7_isYear [.int v] h = some (bI (decide (1 ≤ v) && decide (v ≤ 999)), h) := by
  simp only [fX7_isYear, bX7_isYear, mZ, sRi, eCS, aI, aN, eL, eC]
  simp [X7_in, bI_01]
/-! counting -/
def cnt (P : Nat → Bool) : Nat → Int32
  | 0 => 0
  | n + 1 => cnt P n + (if P n = true then 1 else 0)
def lastM (P : Nat → Bool) : Nat → Int32
  | 0 => -9
  | n + 1 => if P n = true then nI n else lastM P n
def yrM (P : Nat → Bool) (y : Nat → Int32) (sg : Int32) : Nat → Int32
  | 0 => -9
  | n + 1 => if (P n && (decide (yrM P y sg n = -9) || decide (sg * y n < sg * yrM P y sg n))) = true then y n else yrM P y sg n
def sumM (f : Nat → Int32) : Nat → Int32
  | 0 => 0
  | n + 1 => sumM f n + f n
def anyM (P : Nat → Bool) : Nat → Bool
  | 0 => false
  | n + 1 => anyM P n || P n
def inS (S : Nat → Int32) (st : Int32) (p : Nat) : Bool := decide (sP S p 2 = st)
def onS (S : Nat → Int32) (sh : Int32) (p : Nat) : Bool := decide (sP S p 2 = 2) && decide (sP S p 5 = sh)
def onY (S : Nat → Int32) (sh y : Int32) (p : Nat) : Bool := onS S sh p && decide (sP S p 6 = y)
def orY (S : Nat → Int32) (sh y : Int32) (k : Nat) : Bool := decide (sO S k 0 = sh) && decide (sO S k 1 = y)
section ZM2
variable {h : zH} {r nP nO : Nat} {S : Nat → Int32}
theorem X7_platesIn (hr : Ar h r S) (h1 : S 1 = nI nP) (hn : nP ≤ 20) (st : Int32) : fX7_platesIn [.ref r, .int st] h = some (cnt (inS S st) nP, h) := by
  have L := sW_run (c := bCmp o_lt (eL 3) (eA (rL 0) (eC 1))) (f := sSeq (sLi 2 (eOp (· + ·) (eL 2) (eT (bCmp o_eq (eCS (aR (rL 0) (aI (eL 3) (aI (eC 2) (aN)))) fX7_ofPlate) (eL 1)) (eC 1) (eC 0)))) (sInc 3 1)) (fun i => ([.ref r, .int st, .int (cnt (inS S st) i), .int (nI i)], h)) nP nP 4000 0 (by omega) (by omega) (by omega)
    (fun j g1 g2 => by simp [bCmp, eL, eA, rL, eC, hd1 hr, h1, o_lt_nI (a := j) (b := nP) (by omega) (by omega)])
    (fun j g1 g2 => by
      by_cases hz : sP S j 2 = st <;> simp [sSeq, sLi, sInc, zSt, eOp, eL, eCS, aI, aR, aN, rL, eC, eT, bCmp, o_eq, ofP2 hr (show j < 20 by omega), nI_1, zCut, cnt, inS, hz])
  simp [nI_0, cnt] at L
  simp [fX7_platesIn, bX7_platesIn, mI, sSeq, sBlk, sLi, zSt, eC, L, zCut, sRi, eL]
theorem X7_platesOn (hr : Ar h r S) (h1 : S 1 = nI nP) (hn : nP ≤ 20) (sh : Int32) : fX7_platesOn [.ref r, .int sh] h = some (cnt (onS S sh) nP, h) := by
  have L := sW_run (c := bCmp o_lt (eL 3) (eA (rL 0) (eC 1))) (f := sSeq (sLi 2 (eOp (· + ·) (eL 2) (eT (bAnd (bCmp o_eq (eCS (aR (rL 0) (aI (eL 3) (aI (eC 2) (aN)))) fX7_ofPlate) (eC 2)) (bCmp o_eq (eCS (aR (rL 0) (aI (eL 3) (aI (eC 5) (aN)))) fX7_ofPlate) (eL 1))) (eC 1) (eC 0)))) (sInc 3 1)) (fun i => ([.ref r, .int sh, .int (cnt (onS S sh) i), .int (nI i)], h)) nP nP 4000 0 (by omega) (by omega) (by omega)
    (fun j g1 g2 => by simp [bCmp, eL, eA, rL, eC, hd1 hr, h1, o_lt_nI (a := j) (b := nP) (by omega) (by omega)])
    (fun j g1 g2 => by
      by_cases hz : sP S j 2 = 2 <;> by_cases hy : sP S j 5 = sh <;> simp [sSeq, sLi, sInc, zSt, eOp, eL, eCS, aI, aR, aN, rL, eC, eT, bAnd, bCmp, o_eq, ofP2 hr (show j < 20 by omega), ofP5 hr (show j < 20 by omega), nI_1, zCut, cnt, onS, hz, hy])
  simp [nI_0, cnt] at L
  simp [fX7_platesOn, bX7_platesOn, mI, sSeq, sBlk, sLi, zSt, eC, L, zCut, sRi, eL]
theorem X7_plateOn (hr : Ar h r S) (h1 : S 1 = nI nP) (hn : nP ≤ 20) (sh y : Int32) : fX7_plateOn [.ref r, .int sh, .int y] h = some (lastM (onY S sh y) nP, h) := by
  have L := sW_run (c := bCmp o_lt (eL 4) (eA (rL 0) (eC 1))) (f := sSeq (sSeq (sLi 5 (eB (bAnd (bAnd (bCmp o_eq (eCS (aR (rL 0) (aI (eL 4) (aI (eC 2) (aN)))) fX7_ofPlate) (eC 2)) (bCmp o_eq (eCS (aR (rL 0) (aI (eL 4) (aI (eC 5) (aN)))) fX7_ofPlate) (eL 1))) (bCmp o_eq (eCS (aR (rL 0) (aI (eL 4) (aI (eC 6) (aN)))) fX7_ofPlate) (eL 2))))) (sLi 3 (eT (bZ z_ne (eL 5)) (eL 4) (eL 3)))) (sInc 4 1)) (fun i => ([.ref r, .int sh, .int y, .int (lastM (onY S sh y) i), .int (nI i)], h)) nP nP 4000 0 (by omega) (by omega) (by omega)
    (fun j g1 g2 => by simp [bCmp, eL, eA, rL, eC, hd1 hr, h1, o_lt_nI (a := j) (b := nP) (by omega) (by omega)])
    (fun j g1 g2 => by
      by_cases hz : sP S j 2 = 2 <;> by_cases hy : sP S j 5 = sh <;> by_cases hw : sP S j 6 = y <;> simp [sSeq, sLi, sInc, zSt, eOp, eL, eCS, aI, aR, aN, rL, eC, eT, eB_bI, bAnd, bCmp, bZ, z_ne_bI, o_eq, ofP2 hr (show j < 20 by omega), ofP5 hr (show j < 20 by omega), ofP6 hr (show j < 20 by omega), nI_1, zCut, lastM, onS, onY, hz, hy, hw])
  simp [nI_0, lastM] at L
  simp [fX7_plateOn, bX7_plateOn, mI, sSeq, sBlk, sLi, zSt, eC, L, zCut, sRi, eL]
theorem X7_yearOn (hr : Ar h r S) (h1 : S 1 = nI nP) (hn : nP ≤ 20) (sh sg : Int32) : fX7_yearOn [.ref r, .int sh, .int sg] h = some (yrM (onS S sh) (fun p => sP S p 6) sg nP, h) := by
  have L := sW_run (c := bCmp o_lt (eL 4) (eA (rL 0) (eC 1))) (f := sSeq (sSeq (sLi 5 (eB (bAnd (bCmp o_eq (eCS (aR (rL 0) (aI (eL 4) (aI (eC 2) (aN)))) fX7_ofPlate) (eC 2)) (bCmp o_eq (eCS (aR (rL 0) (aI (eL 4) (aI (eC 5) (aN)))) fX7_ofPlate) (eL 1))))) (sSeq (sLi 6 (eCS (aR (rL 0) (aI (eL 4) (aI (eC 6) (aN)))) fX7_ofPlate)) (sLi 3 (eT (bAnd (bZ z_ne (eL 5)) (bOr (bCmp o_eq (eL 3) (eC (-9))) (bCmp o_lt (eOp (· * ·) (eL 2) (eL 6)) (eOp (· * ·) (eL 2) (eL 3))))) (eL 6) (eL 3))))) (sInc 4 1)) (fun i => ([.ref r, .int sh, .int sg, .int (yrM (onS S sh) (fun p => sP S p 6) sg i), .int (nI i)], h)) nP nP 4000 0 (by omega) (by omega) (by omega)
    (fun j g1 g2 => by simp [bCmp, eL, eA, rL, eC, hd1 hr, h1, o_lt_nI (a := j) (b := nP) (by omega) (by omega)])
    (fun j g1 g2 => by
      by_cases hz : sP S j 2 = 2 <;> by_cases hy : sP S j 5 = sh <;> by_cases hw : yrM (onS S sh) (fun p => sP S p 6) sg j = -9 <;> by_cases hu : sg * sP S j 6 < sg * yrM (onS S sh) (fun p => sP S p 6) sg j <;> simp [sSeq, sLi, sInc, zSt, eOp, eL, eCS, aI, aR, aN, rL, eC, eT, eB_bI, bAnd, bOr, bCmp, bZ, z_ne_bI, o_eq, o_lt, ofP2 hr (show j < 20 by omega), ofP5 hr (show j < 20 by omega), ofP6 hr (show j < 20 by omega), nI_1, zCut, yrM, onS, hz, hy, hw, hu])
  simp [nI_0, yrM] at L
  simp [fX7_yearOn, bX7_yearOn, mI, sSeq, sBlk, sLi, zSt, eC, L, zCut, sRi, eL]
theorem X7_rushes (hr : Ar h r S) (h1 : S 2 = nI nO) (hn : nO ≤ 10) : fX7_rushes [.ref r] h = some (sumM (fun k => sO S k 4) nO, h) := by
  have L := sW_run (c := bCmp o_lt (eL 2) (eA (rL 0) (eC 2))) (f := sSeq (sLi 1 (eOp (· + ·) (eL 1) (eCS (aR (rL 0) (aI (eL 2) (aI (eC 4) (aN)))) fX7_of))) (sInc 2 1)) (fun i => ([.ref r, .int (sumM (fun k => sO S k 4) i), .int (nI i)], h)) nO nO 4000 0 (by omega) (by omega) (by omega)
    (fun j g1 g2 => by simp [bCmp, eL, eA, rL, eC, hd2 hr, h1, o_lt_nI (a := j) (b := nO) (by omega) (by omega)])
    (fun j g1 g2 => by simp [sSeq, sLi, sInc, zSt, eOp, eL, eCS, aI, aR, aN, rL, eC, ofO4 hr (show j < 10 by omega), nI_1, zCut, sumM])
  simp [nI_0, sumM] at L
  simp [fX7_rushes, bX7_rushes, mI, sSeq, sBlk, sLi, zSt, eC, L, zCut, sRi, eL]
end ZM2
