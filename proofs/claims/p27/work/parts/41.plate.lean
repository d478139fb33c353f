/-! a plate of the class -/
abbrev cPl (g : Nat → Int32) : zX := xO 4 [.int (g 0), .int (g 1), .int (g 2), .int (g 3), .int (g 4), .int (g 5), .int (g 6)]
def pT (g : Nat → Int32) (d : Int32) : Bool := decide (2 ≤ g 1 - g 3 - g 4 - d)
def pDep (g : Nat → Int32) (s : Int32) : Int32 := if s = 0 then g 3 else g 4
def pEng (g : Nat → Int32) (s d : Int32) : Nat → Int32 := if s = 0 then upd g 3 d else upd g 4 d
def pGr (g : Nat → Int32) (s : Int32) : Nat → Int32 := pEng (upd g 1 (g 1 - (pDep g s + 1))) s 0
def pRS (g : Nat → Int32) (d : Int32) : Int32 := if pT g d = true then (if g 3 = 0 then 0 else if g 4 = 0 then 1 else -9) else -9
def pSG (g : Nat → Int32) (d : Int32) : Int32 := if pT g (d + 1) = true then (if g 3 = 0 then (if g 4 = 0 then -9 else 1) else 0) else -9
def pSF (g : Nat → Int32) (d : Int32) : Int32 := if pRS g d = -9 then pSG g d else pRS g d
def pBet (g g' : Nat → Int32) : Bool := decide (g 0 < g' 0) || (decide (g 0 = g' 0) && decide (g 1 < g' 1))
def pNew (g : Nat → Int32) (w t : Int32) : Nat → Int32 := upd (upd (upd (upd (upd (upd (upd g 0 w) 1 t) 3 0) 4 0) 2 0) 5 (-9)) 6 (-9)
def pDr (g : Nat → Int32) : Nat → Int32 := upd (upd (upd g 2 0) 5 (-9)) 6 (-9)
def pFix (g : Nat → Int32) (s y : Int32) : Nat → Int32 := upd (upd (upd g 2 2) 5 s) 6 y
section ZP1
variable {h : zH} {a b : Nat} {g g' : Nat → Int32}
theorem X4_bears (ha : h.2 a = some (cPl g)) (d : Int32) : fX4_bears [.ref a, .int d] h = some (bI (pT g d), h) := by
  simp [fX4_bears, bX4_bears, mZ_bI, bCmp, eOp, eF, rL, eL, eC, rdI, ha, o_ge, pT]
theorem X4_putIntoDrawer (ha : h.2 a = some (cPl g)) : fX4_putIntoDrawer [.ref a] h = some (hp h a (cPl (pDr g))) := by
  simp [fX4_putIntoDrawer, bX4_putIntoDrawer, mV, sSeq, sF, rL, eC, wrO, ha, sRv, va_up_self, upd, up_up, pDr, cPl]
theorem X4_fixOn (ha : h.2 a = some (cPl g)) (s y : Int32) : fX4_fixOn [.ref a, .int s, .int y] h = some (hp h a (cPl (pFix g s y))) := by
  simp [fX4_fixOn, bX4_fixOn, mV, sSeq, sF, rL, eL, eC, wrO, ha, sRv, va_up_self, upd, up_up, pFix, cPl]
theorem X4_makeNew (ha : h.2 a = some (cPl g)) (w t : Int32) : fX4_makeNew [.ref a, .int w, .int t] h = some (hp h a (cPl (pNew g w t))) := by
  have e : ∀ (h' : zH) (g0 : Nat → Int32), h'.2 a = some (cPl g0) → fX4_putIntoDrawer [.ref a] h' = some (hp h' a (cPl (pDr g0))) := by
    intro h' g0 h0
    exact X4_putIntoDrawer (g := g0) h0
  have e2 := e (hp h a (cPl (upd (upd (upd (upd g 0 w) 1 t) 3 0) 4 0))) _ (hp_self _ _ _)
  simp [upd, cPl] at e2
  simp [fX4_makeNew, bX4_makeNew, mV, sSeq, sF, sCV, aN, rL, eL, eC, wrO, isO, ha, sRv, va_up_self, up_up, e2, pNew, pDr, upd, cPl]
theorem X4_copyFrom (ha : h.2 a = some (cPl g)) (hb : h.2 b = some (cPl g')) (hab : b ≠ a) : fX4_copyFrom [.ref a, .ref b] h = some (hp h a (cPl g')) := by
  simp [fX4_copyFrom, bX4_copyFrom, mV, sSeq, sF, eF, rL, wrO, rdI, ha, hb, sRv, va_up_self, va_up_ne _ _ hab, up_up]
theorem X4_depthOf (ha : h.2 a = some (cPl g)) (s : Int32) : fX4_depthOf [.ref a, .int s] h = some (pDep g s, h) := by
  by_cases hs : s = 0 <;> simp [fX4_depthOf, bX4_depthOf, mI_sRi, eT, bZ, eF, rL, eL, rdI, ha, z_eq, pDep, hs]
theorem X4_isBlank (ha : h.2 a = some (cPl g)) (s : Int32) : fX4_isBlank [.ref a, .int s] h = some (bI (decide (pDep g s = 0)), h) := by
  simp [fX4_isBlank, bX4_isBlank, mZ_bI, bZ, eCV, aI, aN, rL, eL, isO, ha, X4_depthOf ha, z_eq]
theorem X4_engrave (ha : h.2 a = some (cPl g)) (s d : Int32) : fX4_engrave [.ref a, .int s, .int d] h = some (hp h a (cPl (pEng g s d))) := by
  by_cases hs : s = 0 <;> simp [fX4_engrave, bX4_engrave, mV, sSeq, sIf, bZ, sF, rL, eL, wrO, ha, sRv, z_eq, pEng, hs, zCut, upd, cPl]
theorem X4_grindOff (ha : h.2 a = some (cPl g)) (s : Int32) : fX4_grindOff [.ref a, .int s] h = some (hp h a (cPl (pGr g s))) := by
  have e2 := X4_engrave (g := upd g 1 (g 1 - (pDep g s + 1))) (hp_self h a _) s 0
  simp [upd, cPl] at e2
  simp [fX4_grindOff, bX4_grindOff, mV, sSeq, sFa, sCV, eCV, eOp, aI, aN, rL, eL, eC, rdI, wrO, isO, ha, X4_depthOf ha, sRv, va_up_self, up_up, e2, pGr, upd, cPl]
theorem X4_bearsOnceGround (ha : h.2 a = some (cPl g)) (d : Int32) : fX4_bearsOnceGround [.ref a, .int d] h = some (bI (pT g (d + 1)), h) := by
  cases hT : pT g (d + 1) <;> simp [fX4_bearsOnceGround, bX4_bearsOnceGround, mZ, sRi, eCV, eOp, aI, aN, rL, eL, eC, isO, ha, X4_bears ha, bI, hT]
theorem X4_isReady (ha : h.2 a = some (cPl g)) (s d : Int32) : fX4_isReady [.ref a, .int s, .int d] h = some (bI (decide (pDep g s = 0) && pT g d), h) := by
  cases hT : pT g d <;> by_cases hs : pDep g s = 0 <;> simp [fX4_isReady, bX4_isReady, mZ_bI, bAnd, bZ, eCV, aI, aN, rL, eL, isO, ha, X4_isBlank ha, X4_bears ha, z_ne_bI, hT, hs]
theorem X4_canBeGround (ha : h.2 a = some (cPl g)) (s d : Int32) : fX4_canBeGround [.ref a, .int s, .int d] h = some (bI (decide (pDep g s ≠ 0) && pT g (d + 1)), h) := by
  cases hT : pT g (d + 1) <;> by_cases hs : pDep g s = 0 <;> simp [fX4_canBeGround, bX4_canBeGround, mZ_bI, bAnd, bNot, bZ, eCV, aI, aN, rL, eL, isO, ha, X4_isBlank ha, X4_bearsOnceGround ha, z_ne_bI, hT, hs]
theorem X4_readySide (ha : h.2 a = some (cPl g)) (d : Int32) : fX4_readySide [.ref a, .int d] h = some (pRS g d, h) := by
  cases hT : pT g d <;> by_cases h3 : g 3 = 0 <;> by_cases h4 : g 4 = 0 <;> simp [fX4_readySide, bX4_readySide, mI, sSeq, sIf, sRi, sNop, bNot, bZ, eT, eF, eCV, aI, aN, rL, eL, eC, rdI, isO, ha, X4_bears ha, z_eq, z_ne, zCut, hT, h3, h4, pRS, bI]
theorem X4_sideToGrind (ha : h.2 a = some (cPl g)) (d : Int32) : fX4_sideToGrind [.ref a, .int d] h = some (pSG g d, h) := by
  cases hT : pT g (d + 1) <;> by_cases h3 : g 3 = 0 <;> by_cases h4 : g 4 = 0 <;> simp [fX4_sideToGrind, bX4_sideToGrind, mI, sSeq, sIf, sRi, sNop, bNot, bZ, eT, eF, eCV, aI, aN, rL, eL, eC, rdI, isO, ha, X4_bearsOnceGround ha, z_eq, z_ne, zCut, hT, h3, h4, pSG, bI]
theorem X4_sideFor (ha : h.2 a = some (cPl g)) (d : Int32) : fX4_sideFor [.ref a, .int d] h = some (pSF g d, h) := by
  by_cases hs : pRS g d = -9 <;> simp [fX4_sideFor, bX4_sideFor, mI, sSeq, sLi, zSt, sRi, bCmp, o_eq, eT, eCV, aI, aN, rL, eL, eC, isO, ha, X4_readySide ha, X4_sideToGrind ha, hs, pSF]
theorem X4_isBetterThan (ha : h.2 a = some (cPl g)) (hb : h.2 b = some (cPl g')) : fX4_isBetterThan [.ref a, .ref b] h = some (bI (pBet g g'), h) := by
  by_cases h1 : g 0 < g' 0 <;> by_cases h2 : g 0 = g' 0 <;> by_cases h3 : g 1 < g' 1 <;> simp [fX4_isBetterThan, bX4_isBetterThan, mZ_bI, bOr, bAnd, bCmp, o_lt, o_eq, eF, rL, rdI, ha, hb, h1, h2, h3, pBet]
end ZP1
