/-! the class: writes of a shop -/
def stC (s : Nat → Int32) : Nat → Int32 := upd (upd (upd (upd s 6 (-9)) 7 (-9)) 8 (-9)) 9 (-9)
def ouC (P : Nat → Nat → Int32) (o : Option Nat) : Nat → Nat → Int32 := match o with
  | some q => va_up P q (pDr (P q))
  | none => P
def erC (P : Nat → Nat → Int32) (sh : Int32) (nP : Nat) : Option Nat := firstO (oyC P sh (eaC (onC P sh) (fun x => P x 6) nP)) nP
def fxC (P : Nat → Nat → Int32) (pf : Nat → Int32) (p j : Nat) (y : Int32) (nP : Nat) : Nat → Nat → Int32 :=
  if pf j < cnt (onC (va_up P p (pFix (P p) (nI j) y)) (nI j)) nP then ouC (va_up P p (pFix (P p) (nI j) y)) (erC (va_up P p (pFix (P p) (nI j) y)) (nI j) nP) else va_up P p (pFix (P p) (nI j) y)
def mvP (pi : Nat → Nat) (f y : Nat) : Nat → Nat := fun k => if f - y < k ∧ k ≤ f then pi (k - 1) else pi k
def mvC (pi : Nat → Nat) (f t : Nat) : Nat → Nat := va_up (mvP pi f (f - t)) t (pi f)
def mvA (v : Int32) (f t : Nat) : Int32 := if v = nI f then nI t else if nI t ≤ v ∧ v < nI f then v + 1 else v
def rmP (pi : Nat → Nat) (k y : Nat) : Nat → Nat := fun x => if k ≤ x ∧ x < k + y then pi (x + 1) else pi x
def rmC (pi : Nat → Nat) (k nO : Nat) : Nat → Nat := va_up (rmP pi k (nO - 1 - k)) (nO - 1) (pi k)
def rmS (s : Nat → Int32) (k nO : Nat) : Nat → Int32 := upd (upd s 5 (nI (nO - 1))) 6 (if nI k < s 6 then s 6 - 1 else s 6)
theorem hasB_nI {a n : Nat} (ha : a < 2 ^ 31) (hn : n < 2 ^ 31) : hasB (nI a) (nI n) = decide (a < n) := by
  simp [hasB, nI_ltI ha hn, nI_pos' ha]
theorem hasB_9 {v : Int32} : hasB (-9) v = false := by
  simp only [hasB, show decide ((0 : Int32) ≤ -9) = false from rfl, Bool.false_and]
section ZS4
variable {h : zH} {lo p j k n nP nO nS : Nat} {s pf N : Nat → Int32} {P O L : Nat → Nat → Int32} {pi : Nat → Nat}
theorem up_same {α : Type} {f : Nat → α} {a : Nat} : va_up f a (f a) = f := by
  funext x
  by_cases hx : x = a
  · rw [hx, va_up_self]
  · rw [va_up_ne _ _ hx]
theorem upd_same {f : Nat → Int32} {a : Nat} : upd f a (f a) = f := by
  funext x
  simp only [upd]
  split
  · rename_i hx; rw [hx]
  · rfl
theorem X5_stopWork : fX5_stopWork [.ref lo] (hS h lo s P pf pi O N L) = some (hS h lo (stC s) P pf pi O N L) := by
  simp [fX5_stopWork, bX5_stopWork, mV, sSeq, sF, rL, eC, wsh6, wsh7, wsh8, wsh9, sRv, stC]
theorem X5_grindSide (hp0 : p < 20) (sd : Int32) : fX5_grindSide [.ref lo, .ref (lo + 4 + p), .int sd] (hS h lo s P pf pi O N L) = some (hS h lo (upd s 12 (s 12 + 1)) (va_up P p (pGr (P p) sd)) pf pi O N L) := by
  have e := X4_grindOff (h := hS h lo s P pf pi O N L) (s_p hp0) sd
  rw [ws_p hp0] at e
  simp [fX5_grindSide, bX5_grindSide, mV, sSeq, sCV, aI, aN, rL, eL, isPl hp0, e, sFa, eC, rs12, wsh12, sRv]
set_option maxRecDepth 100000 in
theorem X5_fixPlate (h1 : s 3 = nI nP) (hn : nP ≤ 20) (h4 : s 4 = nI nS) (hnS : nS ≤ 3) (hp0 : p < 20) (hjS : j < nS) (y : Int32) : fX5_fixPlate [.ref lo, .ref (lo + 4 + p), .int (nI j), .int y] (hS h lo s P pf pi O N L) = some (hS h lo s (fxC P pf p j y nP) pf pi O N L) := by
  have hj : j < 3 := by omega
  have e := X4_fixOn (h := hS h lo s P pf pi O N L) (s_p hp0) (nI j) y
  rw [ws_p hp0] at e
  generalize hP1 : va_up P p (pFix (P p) (nI j) y) = P1 at e
  have c1 := X5_platesOn (h := h) (lo := lo) (s := s) (P := P1) (pf := pf) (pi := pi) (O := O) (N := N) (L := L) h1 hn (nI j)
  have c2 := X5_earliestYear (h := h) (lo := lo) (s := s) (P := P1) (pf := pf) (pi := pi) (O := O) (N := N) (L := L) h1 hn (nI j)
  have c3 := X5_plateOfYear (h := h) (lo := lo) (s := s) (P := P1) (pf := pf) (pi := pi) (O := O) (N := N) (L := L) h1 hn (nI j) (eaC (onC P1 (nI j)) (fun x => P1 x 6) nP)
  have c4 := aPf (h := h) (lo := lo) (s := s) (P := P1) (pf := pf) (pi := pi) (O := O) (N := N) (L := L) hj
  have c6 := X5_hasShield (h := h) (lo := lo) (s := s) (P := P1) (pf := pf) (pi := pi) (O := O) (N := N) (L := L) (nI j)
  rw [h4, hasB_nI (by omega) (by omega), show decide (j < nS) = true by simpa using hjS] at c6
  by_cases hz : pf j < cnt (onC P1 (nI j)) nP
  · cases he : erC P1 (nI j) nP with
    | none =>
      have he' : firstO (oyC P1 (nI j) (eaC (onC P1 (nI j)) (fun x => P1 x 6) nP)) nP = none := he
      rw [he'] at c3
      simp only [show toI none = -9 from rfl] at c3
      have c5 := X5_hasPlate (h := h) (lo := lo) (s := s) (P := P1) (pf := pf) (pi := pi) (O := O) (N := N) (L := L) (-9)
      rw [hasB_9] at c5
      simp [fX5_fixPlate, bX5_fixPlate, mV, sSeq, sCV, eCV, aI, aN, rL, eL, isPl hp0, e, isS, sIf, bAnd, c6, bZ, z_ne_bI, bCmp, o_gt, c1, eA, rF, rS1, c4, hz, sLi, zSt, c2, c3, c5, sNop, zCut, sRv, fxC, hP1, he, ouC]
    | some q =>
      have he' : firstO (oyC P1 (nI j) (eaC (onC P1 (nI j)) (fun x => P1 x 6) nP)) nP = some q := he
      have hq := (firstO_some he').1
      rw [he'] at c3
      simp only [toI_some] at c3
      have c5 := X5_hasPlate (h := h) (lo := lo) (s := s) (P := P1) (pf := pf) (pi := pi) (O := O) (N := N) (L := L) (nI q)
      rw [h1, hasB_nI (by omega) (by omega), show decide (q < nP) = true by simpa using hq] at c5
      have e2 := X4_putIntoDrawer (h := hS h lo s P1 pf pi O N L) (s_p (show q < 20 by omega))
      rw [ws_p (show q < 20 by omega)] at e2
      simp [fX5_fixPlate, bX5_fixPlate, mV, sSeq, sCV, eCV, aI, aN, rL, eL, isPl hp0, e, isS, sIf, bAnd, c6, bZ, z_ne_bI, bCmp, o_gt, c1, eA, rF, rS1, rS0, c4, hz, sLi, zSt, c2, c3, c5, rQ, qPl (show q < 20 by omega), isPl (show q < 20 by omega), e2, zCut, sRv, fxC, hP1, he, ouC]
  · simp [fX5_fixPlate, bX5_fixPlate, mV, sSeq, sCV, eCV, aI, aN, rL, eL, isPl hp0, e, isS, sIf, bAnd, c6, bZ, z_ne_bI, bCmp, o_gt, c1, eA, rF, rS1, c4, hz, sNop, zCut, sRv, fxC, hP1]
theorem mvP_s {f y : Nat} (hy : y < f) : va_up (mvP pi f y) (f - y) (pi (f - y - 1)) = mvP pi f (y + 1) := by
  funext x
  by_cases hx : x = f - y
  · subst hx
    rw [va_up_self]
    simp only [mvP]
    rw [if_pos (by omega)]
  · rw [va_up_ne _ _ hx]
    simp only [mvP]
    by_cases h1 : f - y < x ∧ x ≤ f
    · rw [if_pos h1, if_pos (by omega)]
    · rw [if_neg h1, if_neg (by omega)]
theorem o_gt_nI {a b : Nat} (ha : a < 2 ^ 31) (hb : b < 2 ^ 31) : o_gt (nI a) (nI b) = decide (b < a) := by
  simp [o_gt, nI_ltI hb ha]
set_option maxRecDepth 100000 in
theorem X5_moveAhead {f t : Nat} (hf : f < 10) (ht : t ≤ f) (hpi : ∀ k, k < 10 → pi k < 10) : fX5_moveAhead [.ref lo, .int (nI f), .int (nI t)] (hS h lo s P pf pi O N L) = some (hS h lo (upd s 6 (mvA (s 6) f t)) P pf (mvC pi f t) O N L) := by
  have LL := sW_run (c := bCmp o_gt (eL 4) (eL 2)) (f := sSeq (sQ 3 (rF 5 2 (rL 0)) (eL 4) (rQ 3 (rF 5 2 (rL 0)) (eOp (· - ·) (eL 4) (eC 1)))) (sInc 4 (-1))) (fun y => ([.ref lo, .int (nI f), .int (nI t), .ref (lo + 24 + 3 * pi f), .int (nI (f - y))], hS h lo s P pf (mvP pi f y) O N L)) (f - t) (f - t) 4000 0 (by omega) (by omega) (by omega)
    (fun y g1 g2 => by
      simp [bCmp, eL, o_gt_nI (a := f - y) (b := t) (by omega) (by omega)]
      omega)
    (fun y g1 g2 => by
      have e1 : nI (f - y) - 1 = nI (f - y - 1) := nI_sub1 (by omega)
      have e2 : nI (f - y) + -1 = nI (f - y - 1) := nI_dec (by omega)
      have q := qRw (h := h) (lo := lo) (s := s) (P := P) (pf := pf) (pi := mvP pi f y) (O := O) (N := N) (L := L) (show f - y - 1 < 10 by omega)
      have e3 : mvP pi f y (f - y - 1) = pi (f - y - 1) := by simp only [mvP]; rw [if_neg (by omega)]
      rw [e3] at q
      have w := wRw (h := h) (lo := lo) (s := s) (P := P) (pf := pf) (pi := mvP pi f y) (O := O) (N := N) (L := L) (show f - y < 10 by omega) (hpi (f - y - 1) (by omega))
      rw [mvP_s (by omega)] at w
      simp [sSeq, sQ, rF, rL, rS2, eL, rQ, eOp, eC, e1, q, w, sInc, zSt, e2, zCut]
      rfl)
  have e0 : mvP pi f 0 = pi := by
    funext x
    simp only [mvP]
    rw [if_neg (by omega)]
  simp [e0] at LL
  have q0 := qRw (h := h) (lo := lo) (s := s) (P := P) (pf := pf) (pi := pi) (O := O) (N := N) (L := L) hf
  have w0 := wRw (h := h) (lo := lo) (s := s) (P := P) (pf := pf) (pi := mvP pi f (f - t)) (O := O) (N := N) (L := L) (show t < 10 by omega) (hpi f hf)
  have w0' : wrQ (hS h lo s P pf (mvP pi f (f - t)) O N L) 3 (lo + 3) (nI t) (lo + 24 + 3 * pi f) = some (hS h lo s P pf (mvC pi f t) O N L) := w0
  by_cases h6 : s 6 = nI f
  · have e6 : mvA (s 6) f t = nI t := by simp [mvA, h6]
    simp [fX5_moveAhead, bX5_moveAhead, mV, sSeq, sLr, rQ, rF, rL, rS2, eL, q0, zSt, sBlk, sLi, LL, zCut, sQ, w0', sIf, bCmp, o_eq, eF, rs6, h6, sF, wsh6, sRv]
    simp [mvA]
  · by_cases h7 : nI t ≤ s 6
    · by_cases h8 : s 6 < nI f
      · simp [fX5_moveAhead, bX5_moveAhead, mV, sSeq, sLr, rQ, rF, rL, rS2, eL, q0, zSt, sBlk, sLi, LL, zCut, sQ, w0', sIf, bCmp, o_eq, o_ge, o_lt, bAnd, eF, rs6, h6, h7, h8, sFa, eC, wsh6, sRv, mvA]
      · simp [fX5_moveAhead, bX5_moveAhead, mV, sSeq, sLr, rQ, rF, rL, rS2, eL, q0, zSt, sBlk, sLi, LL, zCut, sQ, w0', sIf, bCmp, o_eq, o_ge, o_lt, bAnd, eF, rs6, h6, h7, h8, sNop, sRv, mvA, upd_same]
    · simp [fX5_moveAhead, bX5_moveAhead, mV, sSeq, sLr, rQ, rF, rL, rS2, eL, q0, zSt, sBlk, sLi, LL, zCut, sQ, w0', sIf, bCmp, o_eq, o_ge, o_lt, bAnd, eF, rs6, h6, h7, sNop, sRv, mvA, upd_same]
theorem rmP_s {k y : Nat} : va_up (rmP pi k y) (k + y) (pi (k + y + 1)) = rmP pi k (y + 1) := by
  funext x
  by_cases hx : x = k + y
  · subst hx
    rw [va_up_self]
    simp only [rmP]
    rw [if_pos (by omega)]
  · rw [va_up_ne _ _ hx]
    simp only [rmP]
    by_cases h1 : k ≤ x ∧ x < k + y
    · rw [if_pos h1, if_pos (by omega)]
    · rw [if_neg h1, if_neg (by omega)]
set_option maxRecDepth 100000 in
theorem X5_removeOrder {k nO : Nat} (h5 : s 5 = nI nO) (hO : nO ≤ 10) (hk : k < nO) (hpi : ∀ k, k < 10 → pi k < 10) : fX5_removeOrder [.ref lo, .int (nI k)] (hS h lo s P pf pi O N L) = some (hS h lo (rmS s k nO) P pf (rmC pi k nO) O N L) := by
  have e5 : nI nO - 1 = nI (nO - 1) := nI_sub1 (by omega)
  have LL := sW_run (c := bCmp o_lt (eL 3) (eOp (· - ·) (eF 5 5 (rL 0)) (eC 1))) (f := sSeq (sQ 3 (rF 5 2 (rL 0)) (eL 3) (rQ 3 (rF 5 2 (rL 0)) (eOp (· + ·) (eL 3) (eC 1)))) (sInc 3 1)) (fun y => ([.ref lo, .int (nI k), .ref (lo + 24 + 3 * pi k), .int (nI (k + y))], hS h lo s P pf (rmP pi k y) O N L)) (nO - 1 - k) (nO - 1 - k) 4000 0 (by omega) (by omega) (by omega)
    (fun y g1 g2 => by
      simp [bCmp, eL, eOp, eF, rL, eC, rs5, h5, e5, o_lt_nI (a := k + y) (b := nO - 1) (by omega) (by omega)]
      omega)
    (fun y g1 g2 => by
      have q := qRw (h := h) (lo := lo) (s := s) (P := P) (pf := pf) (pi := rmP pi k y) (O := O) (N := N) (L := L) (show k + y + 1 < 10 by omega)
      have e3 : rmP pi k y (k + y + 1) = pi (k + y + 1) := by simp only [rmP]; rw [if_neg (by omega)]
      rw [e3] at q
      have w := wRw (h := h) (lo := lo) (s := s) (P := P) (pf := pf) (pi := rmP pi k y) (O := O) (N := N) (L := L) (show k + y < 10 by omega) (hpi (k + y + 1) (by omega))
      rw [rmP_s] at w
      simp [sSeq, sQ, rF, rL, rS2, eL, rQ, eOp, eC, nI_1, q, w, sInc, zSt, zCut]
      rfl)
  have e0 : rmP pi k 0 = pi := by
    funext x
    simp only [rmP]
    rw [if_neg (by omega)]
  simp [e0] at LL
  have q0 := qRw (h := h) (lo := lo) (s := s) (P := P) (pf := pf) (pi := pi) (O := O) (N := N) (L := L) (show k < 10 by omega)
  have w0 : wrQ (hS h lo (upd s 5 (nI (nO - 1))) P pf (rmP pi k (nO - 1 - k)) O N L) 3 (lo + 3) (nI (nO - 1)) (lo + 24 + 3 * pi k) = some (hS h lo (upd s 5 (nI (nO - 1))) P pf (rmC pi k nO) O N L) := wRw (show nO - 1 < 10 by omega) (hpi k (by omega))
  have u5 : upd s 5 (nI (nO - 1)) 5 = nI (nO - 1) := upd_self
  have u6 : upd s 5 (nI (nO - 1)) 6 = s 6 := upd_ne (by omega)
  by_cases h6 : nI k < s 6
  · simp [fX5_removeOrder, bX5_removeOrder, mV, sSeq, sLr, rQ, rF, rL, rS2, eL, q0, zSt, sBlk, sLi, LL, zCut, sFa, eC, rs5, h5, e5, wsh5, sQ, eF, u5, w0, sIf, bCmp, o_gt, rs6, u6, h6, wsh6, sRv, rmS]
  · have us : upd (upd s 5 (nI (nO - 1))) 6 (s 6) = upd s 5 (nI (nO - 1)) := by
      have := upd_same (f := upd s 5 (nI (nO - 1))) (a := 6)
      rw [u6] at this
      exact this
    simp [fX5_removeOrder, bX5_removeOrder, mV, sSeq, sLr, rQ, rF, rL, rS2, eL, q0, zSt, sBlk, sLi, LL, zCut, sFa, eC, rs5, h5, e5, wsh5, sQ, eF, u5, w0, sIf, bCmp, o_gt, rs6, u6, h6, sNop, sRv, rmS, us]
end ZS4
