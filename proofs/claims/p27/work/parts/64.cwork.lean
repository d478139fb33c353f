/-! the class: begin, finish, misspell, take in, rush, drop -/
def bgS (s : Nat → Int32) (g : Nat → Int32) (k p : Nat) (d ef : Int32) : Nat → Int32 :=
  if pDep (upd g 2 1) (pSF g d) = 0 then upd (upd (upd (upd s 6 (nI k)) 7 (nI p)) 8 (pSF g d)) 9 ef
  else upd (upd (upd (upd (upd (upd s 6 (nI k)) 7 (nI p)) 8 (pSF g d)) 9 ef) 12 (s 12 + 1)) 9 (ef + 10)
def bgP (g : Nat → Int32) (d : Int32) : Nat → Int32 := if pDep (upd g 2 1) (pSF g d) = 0 then upd g 2 1 else pGr (upd g 2 1) (pSF g d)
def fiS (s : Nat → Int32) (k nO : Nat) : Nat → Int32 := upd (rmS (stC s) k nO) 10 (s 10 + 1)
section ZS5
variable {h : zH} {lo p j k n nP nO nS : Nat} {s pf N : Nat → Int32} {P O L : Nat → Nat → Int32} {pi : Nat → Nat}
theorem wk_of {a b : Nat} (h5 : s 5 = nI nO) (hO : nO ≤ 10) (h3 : s 3 = nI nP) (hn : nP ≤ 20) (h6 : s 6 = nI a) (ha : a < nO) (h7 : s 7 = nI b) (hb : b < nP) : wkC s = true := by
  simp only [wkC, h5, h3, h6, h7]
  rw [hasB_nI (by omega) (by omega), hasB_nI (by omega) (by omega)]
  simp [ha, hb]
theorem wk_not (h6 : s 6 = -9) : wkC s = false := by
  simp only [wkC, h6, hasB_9, Bool.false_and]
set_option maxRecDepth 100000 in
theorem X5_beginOrder (hk : k < 10) (hp0 : p < 20) (hj : pi k < 10) (hN : N (pi k) = nI n) : fX5_beginOrder [.ref lo, .int (nI k), .int (nI p)] (hS h lo s P pf pi O N L) = some (hS h lo (bgS s (P p) k p (O (pi k) 3) (nI n * (O (pi k) 2 + O (pi k) 3))) (va_up P p (bgP (P p) (O (pi k) 3))) pf pi O N L) := by
  have q1 := fun s' : Nat → Int32 => qRw (h := h) (lo := lo) (s := s') (P := P) (pf := pf) (pi := pi) (O := O) (N := N) (L := L) hk
  have e1 := fun s' : Nat → Int32 => X4_sideFor (h := hS h lo s' P pf pi O N L) (s_p hp0) (O (pi k) 3)
  have e2 := fun s' : Nat → Int32 => X5_ef (h := h) (lo := lo) (s := s') (P := P) (pf := pf) (pi := pi) (O := O) (N := N) (L := L) hj hN
  have e3 := fun (s' : Nat → Int32) (sd : Int32) => X4_isBlank (h := hS h lo s' (va_up P p (upd (P p) 2 1)) pf pi O N L) (s_p hp0) sd
  simp only [va_up_self] at e3
  have e4 := fun (s' : Nat → Int32) (sd : Int32) => X5_grindSide (h := h) (lo := lo) (s := s') (P := va_up P p (upd (P p) 2 1)) (pf := pf) (pi := pi) (O := O) (N := N) (L := L) hp0 sd
  simp only [va_up_self, up_up] at e4
  generalize hs4 : upd (upd (upd (upd s 6 (nI k)) 7 (nI p)) 8 (pSF (P p) (O (pi k) 3))) 9 (nI n * (O (pi k) 2 + O (pi k) 3)) = s4
  have s48 : s4 8 = pSF (P p) (O (pi k) 3) := by rw [← hs4, upd_ne (by omega), upd_self]
  have s49 : s4 9 = nI n * (O (pi k) 2 + O (pi k) 3) := by rw [← hs4, upd_self]
  have s412 : s4 12 = s 12 := by rw [← hs4, upd_ne (by omega), upd_ne (by omega), upd_ne (by omega), upd_ne (by omega)]
  have w9 := fun z : Int32 => wsh9 (h := h) (lo := lo) (s := upd s4 12 (s 12 + 1)) (P := va_up P p (pGr (upd (P p) 2 1) (pSF (P p) (O (pi k) 3)))) (pf := pf) (pi := pi) (O := O) (N := N) (L := L) z
  have u9 : upd s4 12 (s 12 + 1) 9 = nI n * (O (pi k) 2 + O (pi k) 3) := by rw [upd_ne (by omega), s49]
  by_cases hb : pDep (upd (P p) 2 1) (pSF (P p) (O (pi k) 3)) = 0
  · simp [fX5_beginOrder, bX5_beginOrder, mV, sSeq, sLr, zSt, rQ, rF, rL, rS0, rS2, eL, qPl hp0, sF, wsh6, wsh7, wsh8, wsh9, eCV, aI, aN, eF, q1, ro4 hj, isPl hp0, e1, isOr hj, e2, eC, wp2 hp0, hs4, sIf, bNot, bZ, rs8, s48, e3, z_ne_bI, hb, sNop, zCut, sRv, bgS, bgP]
  · simp [fX5_beginOrder, bX5_beginOrder, mV, sSeq, sLr, zSt, rQ, rF, rL, rS0, rS2, eL, qPl hp0, sF, wsh6, wsh7, wsh8, wsh9, eCV, aI, aR, aN, eF, q1, ro4 hj, isPl hp0, e1, isOr hj, e2, eC, wp2 hp0, hs4, sIf, bNot, bZ, rs8, s48, e3, z_ne_bI, hb, sCV, isS, e4, sFa, rs9, u9, w9, s49, s412, zCut, sRv, bgS, bgP]
set_option maxRecDepth 100000 in
theorem X5_finishOrder {sh : Nat} {y : Int32} (h3 : s 3 = nI nP) (hn : nP ≤ 20) (h4 : s 4 = nI nS) (hnS : nS ≤ 3) (h5 : s 5 = nI nO) (hO : nO ≤ 10) (h6 : s 6 = nI k) (hk : k < nO) (h7 : s 7 = nI p) (hp0 : p < nP) (hpi : ∀ k, k < 10 → pi k < 10) (hsh : O (pi k) 0 = nI sh) (hs3 : sh < nS) (hy : O (pi k) 1 = y) :
    fX5_finishOrder [.ref lo] (hS h lo s P pf pi O N L) = some (hS h lo (fiS s k nO) (fxC (va_up P p (pEng (P p) (s 8) (O (pi k) 3))) pf p sh y nP) pf (rmC pi k nO) O N L) := by
  have hj := hpi k (by omega)
  have hp20 : p < 20 := by omega
  have wk := wk_of h5 hO h3 hn h6 hk h7 hp0
  have e0 := X5_isWorking (h := h) (lo := lo) (s := s) (P := P) (pf := pf) (pi := pi) (O := O) (N := N) (L := L)
  rw [wk] at e0
  have q1 := qRw (h := h) (lo := lo) (s := s) (P := P) (pf := pf) (pi := pi) (O := O) (N := N) (L := L) (show k < 10 by omega)
  have e1 := X4_engrave (h := hS h lo s P pf pi O N L) (s_p hp20) (s 8) (O (pi k) 3)
  rw [ws_p hp20] at e1
  generalize hP1 : va_up P p (pEng (P p) (s 8) (O (pi k) 3)) = P1 at *
  have e2 := X5_fixPlate (h := h) (lo := lo) (s := s) (P := P1) (pf := pf) (pi := pi) (O := O) (N := N) (L := L) h3 hn h4 hnS hp20 hs3 y
  have e3 := X5_stopWork (h := h) (lo := lo) (s := s) (P := fxC P1 pf p sh y nP) (pf := pf) (pi := pi) (O := O) (N := N) (L := L)
  have e4 := X5_removeOrder (h := h) (lo := lo) (s := stC s) (P := fxC P1 pf p sh y nP) (pf := pf) (pi := pi) (O := O) (N := N) (L := L) (k := k) (nO := nO) (by simp [stC, upd, h5]) hO hk hpi
  have u10 : rmS (stC s) k nO 10 = s 10 := by simp [rmS, stC, upd]
  simp [fX5_finishOrder, bX5_finishOrder, mV, sSeq, sIf, bNot, bZ, eCV, aI, aR, aN, rL, isS, e0, z_ne_bI, sNop, zCut, sLr, zSt, rQ, rF, rS2, rS0, eF, rs6, h6, rs7, h7, q1, qPl hp20, sCV, isPl hp20, rs8, ro4 hj, e1, ro1 hj, ro2 hj, hsh, hy, e2, sLi, e3, eL, e4, sFa, eC, rs10, u10, wsh10, sRv, fiS]
/-- what a slip answers, and leaves -/
def msC (g : Nat → Int32) (sd d : Int32) : Int32 :=
  if (decide (pDep (pEng g sd d) (if sd = 0 then 1 else 0) = 0) && pT (pEng g sd d) d) = true then 1 else if (decide (pDep (pEng g sd d) sd ≠ 0) && pT (pEng g sd d) (d + 1)) = true then 2 else 3
def msP (g : Nat → Int32) (sd d : Int32) : Nat → Int32 :=
  if msC g sd d = 1 then pEng g sd d else if msC g sd d = 2 then pGr (pEng g sd d) sd else upd (pEng g sd d) 2 3
def msS (s : Nat → Int32) (g : Nat → Int32) (d ef : Int32) : Nat → Int32 :=
  if msC g (s 8) d = 1 then upd (upd (upd s 11 (s 11 + 1)) 8 (if s 8 = 0 then 1 else 0)) 9 ef else if msC g (s 8) d = 2 then upd (upd (upd s 11 (s 11 + 1)) 12 (s 12 + 1)) 9 (ef + 10) else stC (upd s 11 (s 11 + 1))
set_option maxRecDepth 100000 in
set_option maxHeartbeats 1000000 in
theorem X5_misspell (h3 : s 3 = nI nP) (hn : nP ≤ 20) (h5 : s 5 = nI nO) (hO : nO ≤ 10) (h6 : s 6 = nI k) (hk : k < nO) (h7 : s 7 = nI p) (hp0 : p < nP) (hpi : ∀ k, k < 10 → pi k < 10) (hN : N (pi k) = nI n) :
    fX5_misspell [.ref lo] (hS h lo s P pf pi O N L) = some (msC (P p) (s 8) (O (pi k) 3), hS h lo (msS s (P p) (O (pi k) 3) (nI n * (O (pi k) 2 + O (pi k) 3))) (va_up P p (msP (P p) (s 8) (O (pi k) 3))) pf pi O N L) := by
  have hj := hpi k (by omega)
  have hp20 : p < 20 := by omega
  have wk := wk_of h5 hO h3 hn h6 hk h7 hp0
  have e0 := X5_isWorking (h := h) (lo := lo) (s := s) (P := P) (pf := pf) (pi := pi) (O := O) (N := N) (L := L)
  rw [wk] at e0
  have q1 := qRw (h := h) (lo := lo) (s := s) (P := P) (pf := pf) (pi := pi) (O := O) (N := N) (L := L) (show k < 10 by omega)
  have e1 := X4_engrave (h := hS h lo s P pf pi O N L) (s_p hp20) (s 8) (O (pi k) 3)
  rw [ws_p hp20] at e1
  generalize hP1 : va_up P p (pEng (P p) (s 8) (O (pi k) 3)) = P1 at *
  have hP1p : P1 p = pEng (P p) (s 8) (O (pi k) 3) := by rw [← hP1, va_up_self]
  generalize hs1 : upd s 11 (s 11 + 1) = s1
  have s18 : s1 8 = s 8 := by rw [← hs1, upd_ne (by omega)]
  have s112 : s1 12 = s 12 := by rw [← hs1, upd_ne (by omega)]
  have e2 := fun sd : Int32 => X4_isReady (h := hS h lo s1 P1 pf pi O N L) (s_p hp20) sd (O (pi k) 3)
  have e3 := fun sd : Int32 => X4_canBeGround (h := hS h lo s1 P1 pf pi O N L) (s_p hp20) sd (O (pi k) 3)
  have e4 := fun (s' : Nat → Int32) (P' : Nat → Nat → Int32) => X5_ef (h := h) (lo := lo) (s := s') (P := P') (pf := pf) (pi := pi) (O := O) (N := N) (L := L) hj hN
  have e5 := fun sd : Int32 => X5_grindSide (h := h) (lo := lo) (s := s1) (P := P1) (pf := pf) (pi := pi) (O := O) (N := N) (L := L) hp20 sd
  rw [hP1p] at e2 e3
  simp only [hP1p, ← hP1, up_up, va_up_self] at e5
  rw [hP1] at e5
  have uP : va_up P1 p (upd (pEng (P p) (s 8) (O (pi k) 3)) 2 3) = va_up P p (upd (pEng (P p) (s 8) (O (pi k) 3)) 2 3) := by rw [← hP1, up_up]
  have w2 := wp2 (h := h) (lo := lo) (s := s1) (P := P1) (pf := pf) (pi := pi) (O := O) (N := N) (L := L) hp20 3
  rw [hP1p, uP] at w2
  have e6 := X5_stopWork (h := h) (lo := lo) (s := s1) (P := va_up P p (upd (pEng (P p) (s 8) (O (pi k) 3)) 2 3)) (pf := pf) (pi := pi) (O := O) (N := N) (L := L)
  have other : (if z_eq (s 8) = true then (1 : Int32) else 0) = (if s 8 = 0 then 1 else 0) := by by_cases hz : s 8 = 0 <;> simp [z_eq, hz]
  have eo : (eT (bZ z_eq (eF 5 8 (rL 0))) (eC 1) (eC 0)) [.ref lo, .ref (lo + 24 + 3 * pi k), .ref (lo + 4 + p)] (hS h lo s1 P1 pf pi O N L) = some (if s 8 = 0 then 1 else 0, hS h lo s1 P1 pf pi O N L) := by
    by_cases hz : s 8 = 0 <;> simp [eT, bZ, eF, rL, rs8, s18, z_eq, eC, hz]
  generalize hot : (if s 8 = 0 then (1 : Int32) else 0) = ot at *
  by_cases c1 : (decide (pDep (pEng (P p) (s 8) (O (pi k) 3)) ot = 0) && pT (pEng (P p) (s 8) (O (pi k) 3)) (O (pi k) 3)) = true
  · have m1 : msC (P p) (s 8) (O (pi k) 3) = 1 := by simp only [msC, hot, if_pos c1]
    have b1 := e2 ot
    rw [c1] at b1
    simp [fX5_misspell, bX5_misspell, mI, sSeq, sIf, bNot, bZ, eCV, aI, aR, aN, rL, isS, e0, z_ne_bI, sNop, zCut, sLr, zSt, rQ, rF, rS2, rS0, eF, rs6, h6, rs7, h7, q1, qPl hp20, sCV, isPl hp20, rs8, ro4 hj, e1, sFa, eC, rs11, wsh11, hs1, sLi, eo, eL, b1, sF, wsh8, isOr hj, e4, wsh9, sRi, msS, m1, msP, hot, hP1]
  · have b1 := e2 ot
    rw [Bool.eq_false_iff.mpr c1] at b1
    by_cases c2 : (decide (pDep (pEng (P p) (s 8) (O (pi k) 3)) (s 8) ≠ 0) && pT (pEng (P p) (s 8) (O (pi k) 3)) (O (pi k) 3 + 1)) = true
    · have m1 : msC (P p) (s 8) (O (pi k) 3) = 2 := by simp only [msC, hot]; rw [if_neg c1, if_pos c2]
      have b2 := e3 (s 8)
      rw [c2] at b2
      simp [fX5_misspell, bX5_misspell, mI, sSeq, sIf, bNot, bZ, eCV, aI, aR, aN, rL, isS, e0, z_ne_bI, sNop, zCut, sLr, zSt, rQ, rF, rS2, rS0, eF, rs6, h6, rs7, h7, q1, qPl hp20, sCV, isPl hp20, rs8, ro4 hj, e1, sFa, eC, rs11, wsh11, hs1, sLi, eo, eL, b1, s18, b2, e5, sF, isOr hj, eOp, e4, wsh9, sRi, msS, m1, msP, s112]
    · have m1 : msC (P p) (s 8) (O (pi k) 3) = 3 := by simp only [msC, hot]; rw [if_neg c1, if_neg c2]
      have b2 := e3 (s 8)
      rw [Bool.eq_false_iff.mpr c2] at b2
      simp [fX5_misspell, bX5_misspell, mI, sSeq, sIf, bNot, bZ, eCV, aI, aR, aN, rL, isS, e0, z_ne_bI, sNop, zCut, sLr, zSt, rQ, rF, rS2, rS0, eF, rs6, h6, rs7, h7, q1, qPl hp20, sCV, isPl hp20, rs8, ro4 hj, e1, sFa, eC, rs11, wsh11, hs1, sLi, eo, eL, b1, s18, b2, sF, w2, e6, sRi, msS, m1, msP]
end ZS5
