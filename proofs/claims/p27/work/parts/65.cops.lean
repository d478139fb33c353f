/-! the class: add, hang, take in, rush, drop -/
section ZS6
variable {h : zH} {lo p j k n nP nO nS : Nat} {s pf N : Nat → Int32} {P O L : Nat → Nat → Int32} {pi : Nat → Nat}
def rsC (O : Nat → Nat → Int32) (pi : Nat → Nat) (k : Nat) : Bool := decide (O (pi k) 4 ≠ 0)
def cntN (P : Nat → Bool) : Nat → Nat
  | 0 => 0
  | n + 1 => cntN P n + (if P n = true then 1 else 0)
theorem cnt_N (P : Nat → Bool) : ∀ n, cnt P n = nI (cntN P n)
  | 0 => rfl
  | n + 1 => by
    simp only [cnt, cntN, cnt_N P n]
    split
    · rw [nI_1]
    · simp
theorem cntN_le (P : Nat → Bool) : ∀ n, cntN P n ≤ n
  | 0 => Nat.le_refl _
  | n + 1 => by
    have := cntN_le P n
    simp only [cntN]
    split <;> omega
set_option maxRecDepth 100000 in
theorem X5_addPlate (h3 : s 3 = nI nP) (hn : nP < 20) (w t : Int32) : fX5_addPlate [.ref lo, .int w, .int t] (hS h lo s P pf pi O N L) = some (nI nP, hS h lo (upd s 3 (nI (nP + 1))) (va_up P nP (pNew (P nP) w t)) pf pi O N L) := by
  have e := X4_makeNew (h := hS h lo s P pf pi O N L) (s_p hn) w t
  rw [ws_p hn] at e
  have u : upd s 3 (nI nP + 1) 3 = nI nP + 1 := upd_self
  simp [fX5_addPlate, bX5_addPlate, mI, sSeq, sCV, rQ, rF, rL, rS0, eF, rs3, h3, qPl hn, aI, aN, eL, isPl hn, e, sFa, eC, wsh3, sRi, eOp, nI_1, upd_self, nI_sub1 (y := nP + 1) (by omega)]
set_option maxRecDepth 100000 in
theorem X5_hangShield (h4 : s 4 = nI nS) (hn : nS < 3) (w : Int32) : fX5_hangShield [.ref lo, .int w] (hS h lo s P pf pi O N L) = some (nI nS, hS h lo (upd s 4 (nI (nS + 1))) P (upd pf nS w) pi O N L) := by
  simp [fX5_hangShield, bX5_hangShield, mI, sSeq, sA, rF, rL, rS1, eF, rs4, h4, eL, wPf hn, sFa, eC, wsh4, sRi, eOp, nI_1, upd_self, nI_sub1 (y := nS + 1) (by omega)]
/-- the place where an order goes -/
def toC (O : Nat → Nat → Int32) (pi : Nat → Nat) (nO : Nat) : Nat := if O (pi nO) 4 = 0 then nO else cntN (rsC O pi) nO
theorem toC_le {O : Nat → Nat → Int32} {pi : Nat → Nat} {nO : Nat} : toC O pi nO ≤ nO := by
  simp only [toC]
  have := cntN_le (rsC O pi) nO
  split <;> omega
set_option maxRecDepth 100000 in
theorem X5_takeInOrder (h5 : s 5 = nI nO) (hO : nO < 10) (hpi : ∀ k, k < 10 → pi k < 10) : fX5_takeInOrder [.ref lo] (hS h lo s P pf pi O N L) = some (nI (toC O pi nO), hS h lo (upd (upd s 5 (nI (nO + 1))) 6 (mvA (s 6) nO (toC O pi nO))) P pf (mvC pi nO (toC O pi nO)) O N L) := by
  have e := X5_rushes (h := h) (lo := lo) (s := s) (P := P) (pf := pf) (pi := pi) (O := O) (N := N) (L := L) h5 (by omega) hpi
  rw [cnt_N] at e
  have e : fX5_rushes [.ref lo] (hS h lo s P pf pi O N L) = some (nI (cntN (rsC O pi) nO), hS h lo s P pf pi O N L) := e
  have hj := hpi nO hO
  have tc := toC_le (O := O) (pi := pi) (nO := nO)
  have e2 := X5_moveAhead (h := h) (lo := lo) (s := upd s 5 (nI (nO + 1))) (P := P) (pf := pf) (pi := pi) (O := O) (N := N) (L := L) (f := nO) (t := toC O pi nO) hO tc hpi
  rw [upd_ne (by omega)] at e2
  have et : eT (bZ z_ne (eF 3 5 (rQ 3 (rF 5 2 (rL 0)) (eL 1)))) (eCV 5 (rL 0) (aN) fX5_rushes) (eL 1) [.ref lo, .int (nI nO)] (hS h lo s P pf pi O N L) = some (nI (toC O pi nO), hS h lo s P pf pi O N L) := by
    by_cases hz : O (pi nO) 4 = 0
    · simp [eT, bZ, eF, rQ, rF, rL, rS2, eL, qRw hO, ro5 hj, z_ne, hz, toC]
    · simp [eT, bZ, eF, rQ, rF, rL, rS2, eL, qRw hO, ro5 hj, z_ne, hz, toC, eCV, aN, isS, e]
  simp [fX5_takeInOrder, bX5_takeInOrder, mI, sSeq, sLi, eF, rL, rs5, h5, zSt, et, sFa, eC, wsh5, nI_1, sCV, aI, aN, eL, isS, e2, sRi]
set_option maxRecDepth 100000 in
theorem X5_makeRush (h5 : s 5 = nI nO) (hO : nO ≤ 10) (hk : k < nO) (hpi : ∀ k, k < 10 → pi k < 10) (ht : cntN (rsC O pi) nO ≤ k) : fX5_makeRush [.ref lo, .int (nI k)] (hS h lo s P pf pi O N L) = some (nI (cntN (rsC O pi) nO), hS h lo (upd s 6 (mvA (s 6) k (cntN (rsC O pi) nO))) P pf (mvC pi k (cntN (rsC O pi) nO)) (va_up O (pi k) (upd (O (pi k)) 4 1)) N L) := by
  have e := X5_rushes (h := h) (lo := lo) (s := s) (P := P) (pf := pf) (pi := pi) (O := O) (N := N) (L := L) h5 hO hpi
  rw [cnt_N] at e
  have hj := hpi k (by omega)
  have e2 := X5_moveAhead (h := h) (lo := lo) (s := s) (P := P) (pf := pf) (pi := pi) (O := va_up O (pi k) (upd (O (pi k)) 4 1)) (N := N) (L := L) (f := k) (t := cntN (rsC O pi) nO) (by omega) ht hpi
  have e' : fX5_rushes [.ref lo] (hS h lo s P pf pi O N L) = some (nI (cntN (rsC O pi) nO), hS h lo s P pf pi O N L) := e
  simp [fX5_makeRush, bX5_makeRush, mI, sSeq, sLi, eCV, aN, rL, isS, e', zSt, sFz, rQ, rF, rS2, eL, qRw (show k < 10 by omega), eC, wo5 hj, sCV, aI, e2, sRi]
/-- the plate at work goes back into the drawer -/
def drP (P : Nat → Nat → Int32) (p : Nat) : Nat → Nat → Int32 := va_up P p (pDr (P p))
set_option maxRecDepth 100000 in
theorem X5_dropOrder_at (h3 : s 3 = nI nP) (hn : nP ≤ 20) (h5 : s 5 = nI nO) (hO : nO ≤ 10) (h6 : s 6 = nI k) (hk : k < nO) (h7 : s 7 = nI p) (hp0 : p < nP) (hpi : ∀ k, k < 10 → pi k < 10) :
    fX5_dropOrder [.ref lo, .int (nI k)] (hS h lo s P pf pi O N L) = some (hS h lo (rmS (stC s) k nO) (drP P p) pf (rmC pi k nO) O N L) := by
  have wk := wk_of h5 hO h3 hn h6 hk h7 hp0
  have e0 := X5_isWorking (h := h) (lo := lo) (s := s) (P := P) (pf := pf) (pi := pi) (O := O) (N := N) (L := L)
  rw [wk] at e0
  have hp20 : p < 20 := by omega
  have e1 := X4_putIntoDrawer (h := hS h lo s P pf pi O N L) (s_p hp20)
  rw [ws_p hp20] at e1
  have e3 := X5_stopWork (h := h) (lo := lo) (s := s) (P := va_up P p (pDr (P p))) (pf := pf) (pi := pi) (O := O) (N := N) (L := L)
  have e4 := X5_removeOrder (h := h) (lo := lo) (s := stC s) (P := va_up P p (pDr (P p))) (pf := pf) (pi := pi) (O := O) (N := N) (L := L) (k := k) (nO := nO) (by simp [stC, upd, h5]) hO hk hpi
  simp [fX5_dropOrder, bX5_dropOrder, mV, sSeq, sIf, bAnd, bCmp, eL, eF, rL, rs6, h6, o_eq, bZ, eCV, aN, isS, e0, z_ne_bI, sCV, rQ, rF, rS0, rs7, h7, qPl hp20, isPl hp20, e1, e3, zCut, aI, e4, sRv, drP]
set_option maxRecDepth 100000 in
theorem X5_dropOrder_not (h5 : s 5 = nI nO) (hO : nO ≤ 10) (h6 : s 6 ≠ nI k) (hk : k < nO) (hpi : ∀ k, k < 10 → pi k < 10) :
    fX5_dropOrder [.ref lo, .int (nI k)] (hS h lo s P pf pi O N L) = some (hS h lo (rmS s k nO) P pf (rmC pi k nO) O N L) := by
  have e4 := X5_removeOrder (h := h) (lo := lo) (s := s) (P := P) (pf := pf) (pi := pi) (O := O) (N := N) (L := L) (k := k) (nO := nO) h5 hO hk hpi
  simp [fX5_dropOrder, bX5_dropOrder, mV, sSeq, sIf, bAnd, bCmp, eL, eF, rL, rs6, Ne.symm h6, o_eq, sNop, zCut, sCV, aI, aN, isS, e4, sRv]
end ZS6
