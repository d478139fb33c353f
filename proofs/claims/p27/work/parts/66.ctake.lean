/-! the class: takes up work -/
def nC (N : Nat → Int32) (j : Nat) : Nat := (N j).toNatClampNeg
def itC (pi : Nat → Nat) (O : Nat → Nat → Int32) (N : Nat → Int32) (L : Nat → Nat → Int32) (k : Nat) : Int32 := nLen (L (pi k)) (nC N (pi k)) (O (pi k) 2)
def fkC (P : Nat → Nat → Int32) (pi : Nat → Nat) (O : Nat → Nat → Int32) (N : Nat → Int32) (L : Nat → Nat → Int32) (nP k : Nat) : Option Nat := fnC P (itC pi O N L k) (O (pi k) 3) nP
def goC (P : Nat → Nat → Int32) (pi : Nat → Nat) (O : Nat → Nat → Int32) (N : Nat → Int32) (L : Nat → Nat → Int32) (nP : Nat) : Nat → Option (Nat × Nat)
  | 0 => none
  | k + 1 => match goC P pi O N L nP k with
    | some x => some x
    | none => match fkC P pi O N L nP k with
      | some p => some (k, p)
      | none => none
theorem goC_some {P O L : Nat → Nat → Int32} {pi : Nat → Nat} {N : Nat → Int32} {nP k p : Nat} : ∀ {n}, goC P pi O N L nP n = some (k, p) → k < n ∧ goC P pi O N L nP k = none ∧ fkC P pi O N L nP k = some p
  | 0, h => by cases h
  | n + 1, h => by
    simp only [goC] at h
    cases hg : goC P pi O N L nP n with
    | some x =>
      rw [hg] at h
      cases h
      obtain ⟨a, b, c⟩ := goC_some hg
      exact ⟨by omega, b, c⟩
    | none =>
      rw [hg] at h
      cases hf : fkC P pi O N L nP n with
      | none => rw [hf] at h; cases h
      | some q =>
        rw [hf] at h
        cases h
        exact ⟨by omega, hg, hf⟩
theorem goC_none {P O L : Nat → Nat → Int32} {pi : Nat → Nat} {N : Nat → Int32} {nP : Nat} : ∀ {n}, goC P pi O N L nP n = none → ∀ k, k < n → fkC P pi O N L nP k = none
  | 0, _, k, hk => by omega
  | n + 1, h, k, hk => by
    simp only [goC] at h
    cases hg : goC P pi O N L nP n with
    | some x => rw [hg] at h; cases h
    | none =>
      rw [hg] at h
      cases hf : fkC P pi O N L nP n with
      | some q => rw [hf] at h; cases h
      | none =>
        by_cases e : k = n
        · rw [e]; exact hf
        · exact goC_none hg k (by omega)
theorem fnC_lt {P : Nat → Nat → Int32} {its d : Int32} {nP p : Nat} (h : fnC P its d nP = some p) : p < nP := by
  simp only [fnC] at h
  cases h1 : bsC P its d false nP with
  | some q => rw [h1] at h; cases h; exact bsC_lt h1
  | none => rw [h1] at h; exact bsC_lt h
/-- what a beginning changes -/
def efC (pi : Nat → Nat) (O : Nat → Nat → Int32) (N : Nat → Int32) (k : Nat) : Int32 := nI (nC N (pi k)) * (O (pi k) 2 + O (pi k) 3)
def tkS (s : Nat → Int32) (P : Nat → Nat → Int32) (pi : Nat → Nat) (O : Nat → Nat → Int32) (N : Nat → Int32) (x : Nat × Nat) : Nat → Int32 := bgS s (P x.2) x.1 x.2 (O (pi x.1) 3) (efC pi O N x.1)
def tkP (P : Nat → Nat → Int32) (pi : Nat → Nat) (O : Nat → Nat → Int32) (x : Nat × Nat) : Nat → Nat → Int32 := va_up P x.2 (bgP (P x.2) (O (pi x.1) 3))
theorem bgS_k {s g : Nat → Int32} {k p x : Nat} {d ef : Int32} (h6 : x ≠ 6) (h7 : x ≠ 7) (h8 : x ≠ 8) (h9 : x ≠ 9) (h12 : x ≠ 12) : bgS s g k p d ef x = s x := by
  simp only [bgS]
  split
  · rw [upd_ne h9, upd_ne h8, upd_ne h7, upd_ne h6]
  · rw [upd_ne h9, upd_ne h12, upd_ne h9, upd_ne h8, upd_ne h7, upd_ne h6]
theorem bgS_6 {s g : Nat → Int32} {k p : Nat} {d ef : Int32} : bgS s g k p d ef 6 = nI k := by
  simp only [bgS]
  split <;> simp [upd]
theorem bgS_7 {s g : Nat → Int32} {k p : Nat} {d ef : Int32} : bgS s g k p d ef 7 = nI p := by
  simp only [bgS]
  split <;> simp [upd]
abbrev tkBody : zSS := sSeq (sSeq (sLi 2 (eCV 5 (rL 0) (aI (eCV 3 (rQ 3 (rF 5 2 (rL 0)) (eL 1)) (aN) fX3_nameLength) (aI (eF 3 4 (rQ 3 (rF 5 2 (rL 0)) (eL 1))) (aN))) fX5_findPlate)) (sIf (bZ z_ne (eCV 5 (rL 0) (aI (eL 2) (aN)) fX5_hasPlate)) (sCV 5 (rL 0) (aI (eL 1) (aI (eL 2) (aN))) fX5_beginOrder) sNop)) (sInc 1 1)
section ZS7
variable {h : zH} {lo p j k n nP nO nS : Nat} {s pf N : Nat → Int32} {P O L : Nat → Nat → Int32} {pi : Nat → Nat}
set_option maxRecDepth 100000 in
theorem tk_no (h3 : s 3 = nI nP) (hn : nP ≤ 20) (hk : k < 10) (hj : pi k < 10) (hN : N (pi k) = nI (nC N (pi k))) (hN2 : nC N (pi k) ≤ 12) (hf : fkC P pi O N L nP k = none) :
    tkBody [.ref lo, .int (nI k)] (hS h lo s P pf pi O N L) = some (.inl ([.ref lo, .int (nI (k + 1)), .int (-9)], hS h lo s P pf pi O N L)) := by
  have e1 := X5_nl (h := h) (lo := lo) (s := s) (P := P) (pf := pf) (pi := pi) (O := O) (N := N) (L := L) hj hN hN2
  have e2 := X5_findPlate (h := h) (lo := lo) (s := s) (P := P) (pf := pf) (pi := pi) (O := O) (N := N) (L := L) h3 hn (itC pi O N L k) (O (pi k) 3)
  rw [show fnC P (itC pi O N L k) (O (pi k) 3) nP = none from hf] at e2
  simp only [itC, toI] at e2
  have e3 := X5_hasPlate (h := h) (lo := lo) (s := s) (P := P) (pf := pf) (pi := pi) (O := O) (N := N) (L := L) (-9)
  rw [hasB_9] at e3
  simp [sSeq, sLi, eCV, rQ, rF, rL, rS2, eL, qRw hk, aN, isOr hj, e1, aI, eF, ro4 hj, isS, e2, zSt, sIf, bZ, e3, z_ne_bI, sNop, zCut, sInc, nI_1]
set_option maxRecDepth 100000 in
theorem tk_yes (h3 : s 3 = nI nP) (hn : nP ≤ 20) (hk : k < 10) (hj : pi k < 10) (hN : N (pi k) = nI (nC N (pi k))) (hN2 : nC N (pi k) ≤ 12) (hf : fkC P pi O N L nP k = some p) :
    tkBody [.ref lo, .int (nI k)] (hS h lo s P pf pi O N L) = some (.inl ([.ref lo, .int (nI (k + 1)), .int (nI p)], hS h lo (tkS s P pi O N (k, p)) (tkP P pi O (k, p)) pf pi O N L)) := by
  have hp0 := fnC_lt hf
  have e1 := X5_nl (h := h) (lo := lo) (s := s) (P := P) (pf := pf) (pi := pi) (O := O) (N := N) (L := L) hj hN hN2
  have e2 := X5_findPlate (h := h) (lo := lo) (s := s) (P := P) (pf := pf) (pi := pi) (O := O) (N := N) (L := L) h3 hn (itC pi O N L k) (O (pi k) 3)
  rw [show fnC P (itC pi O N L k) (O (pi k) 3) nP = some p from hf] at e2
  simp only [itC, toI] at e2
  have e3 := X5_hasPlate (h := h) (lo := lo) (s := s) (P := P) (pf := pf) (pi := pi) (O := O) (N := N) (L := L) (nI p)
  rw [h3, hasB_nI (by omega) (by omega), decide_eq_true hp0] at e3
  have e4 := X5_beginOrder (h := h) (lo := lo) (s := s) (P := P) (pf := pf) (pi := pi) (O := O) (N := N) (L := L) (k := k) (p := p) hk (by omega) hj hN
  simp [sSeq, sLi, eCV, rQ, rF, rL, rS2, eL, qRw hk, aN, isOr hj, e1, aI, eF, ro4 hj, isS, e2, zSt, sIf, bZ, e3, z_ne_bI, sCV, e4, zCut, sInc, nI_1, tkS, tkP, efC]
def tkx (o : Option (Nat × Nat)) (s : Nat → Int32) (P : Nat → Nat → Int32) (pi : Nat → Nat) (O : Nat → Nat → Int32) (N : Nat → Int32) : (Nat → Int32) × (Nat → Nat → Int32) := match o with
  | some x => (tkS s P pi O N x, tkP P pi O x)
  | none => (s, P)
set_option maxRecDepth 100000 in
theorem X5_takesUp_at (hw : wkC s = true) : fX5_takesUpWork [.ref lo] (hS h lo s P pf pi O N L) = some (1, hS h lo s P pf pi O N L) := by
  have e0 := X5_isWorking (h := h) (lo := lo) (s := s) (P := P) (pf := pf) (pi := pi) (O := O) (N := N) (L := L)
  rw [hw] at e0
  have L := sW_run (c := bAnd (bCmp o_lt (eL 1) (eF 5 5 (rL 0))) (bNot (bZ z_ne (eCV 5 (rL 0) (aN) fX5_isWorking)))) (f := tkBody) (fun y => ([.ref lo, .int (nI y)], hS h lo s P pf pi O N L)) 0 0 4000 0 (by omega) (by omega) (by omega)
    (fun y g1 g2 => by
      cases hc : o_lt (nI y) (s 5) <;> simp [bAnd, bCmp, eL, eF, rL, rs5, hc, bNot, bZ, eCV, aN, isS, e0, z_ne_bI])
    (fun y g1 g2 => by omega)
  simp [nI_0] at L
  have e : bX5_takesUpWork = sSeq (sBlk (sSeq (sLi 1 (eC 0)) (sW 4000 (bAnd (bCmp o_lt (eL 1) (eF 5 5 (rL 0))) (bNot (bZ z_ne (eCV 5 (rL 0) (aN) fX5_isWorking)))) tkBody))) (sRi (eCV 5 (rL 0) (aN) fX5_isWorking)) := rfl
  simp [fX5_takesUpWork, e, mZ, sSeq, sBlk, sLi, eC, zSt, L, zCut, sRi, eCV, rL, aN, isS, e0, bI]
set_option maxRecDepth 100000 in
theorem X5_takesUp_no (h3 : s 3 = nI nP) (hn : nP ≤ 20) (h5 : s 5 = nI nO) (hO : nO ≤ 10) (h6 : s 6 = -9) (hpi : ∀ k, k < 10 → pi k < 10) (hl : ∀ k, k < nO → N (pi k) = nI (nC N (pi k)) ∧ nC N (pi k) ≤ 12) (hg : goC P pi O N L nP nO = none) :
    fX5_takesUpWork [.ref lo] (hS h lo s P pf pi O N L) = some (0, hS h lo s P pf pi O N L) := by
  have e0 := X5_isWorking (h := h) (lo := lo) (s := s) (P := P) (pf := pf) (pi := pi) (O := O) (N := N) (L := L)
  rw [wk_not h6] at e0
  have LL := sW_run (c := bAnd (bCmp o_lt (eL 1) (eF 5 5 (rL 0))) (bNot (bZ z_ne (eCV 5 (rL 0) (aN) fX5_isWorking)))) (f := tkBody) (fun y => ([.ref lo, .int (nI y)], hS h lo s P pf pi O N L)) nO nO 4000 0 (by omega) (by omega) (by omega)
    (fun y g1 g2 => by
      by_cases hz : y < nO <;> simp [bAnd, bCmp, eL, eF, rL, rs5, h5, o_lt_nI (a := y) (b := nO) (by omega) (by omega), hz, bNot, bZ, eCV, aN, isS, e0, z_ne_bI])
    (fun y g1 g2 => by simp [tk_no h3 hn (show y < 10 by omega) (hpi y (by omega)) (hl y g2).1 (hl y g2).2 (goC_none hg y g2), zCut])
  simp [nI_0] at LL
  have e : bX5_takesUpWork = sSeq (sBlk (sSeq (sLi 1 (eC 0)) (sW 4000 (bAnd (bCmp o_lt (eL 1) (eF 5 5 (rL 0))) (bNot (bZ z_ne (eCV 5 (rL 0) (aN) fX5_isWorking)))) tkBody))) (sRi (eCV 5 (rL 0) (aN) fX5_isWorking)) := rfl
  simp [fX5_takesUpWork, e, mZ, sSeq, sBlk, sLi, eC, zSt, LL, zCut, sRi, eCV, rL, aN, isS, e0, bI]
set_option maxRecDepth 100000 in
theorem X5_takesUp_go (h3 : s 3 = nI nP) (hn : nP ≤ 20) (h5 : s 5 = nI nO) (hO : nO ≤ 10) (h6 : s 6 = -9) (hpi : ∀ k, k < 10 → pi k < 10) (hl : ∀ k, k < nO → N (pi k) = nI (nC N (pi k)) ∧ nC N (pi k) ≤ 12) (hg : goC P pi O N L nP nO = some (k, p)) :
    fX5_takesUpWork [.ref lo] (hS h lo s P pf pi O N L) = some (1, hS h lo (tkS s P pi O N (k, p)) (tkP P pi O (k, p)) pf pi O N L) := by
  obtain ⟨k1, k2, k3⟩ := goC_some hg
  have e0 := X5_isWorking (h := h) (lo := lo) (s := s) (P := P) (pf := pf) (pi := pi) (O := O) (N := N) (L := L)
  rw [wk_not h6] at e0
  have hp0 := fnC_lt k3
  have e1 := X5_isWorking (h := h) (lo := lo) (s := tkS s P pi O N (k, p)) (P := tkP P pi O (k, p)) (pf := pf) (pi := pi) (O := O) (N := N) (L := L)
  have wk : wkC (tkS s P pi O N (k, p)) = true := wk_of (nO := nO) (nP := nP) (a := k) (b := p) (by simp only [tkS]; rw [bgS_k (by omega) (by omega) (by omega) (by omega) (by omega)]; exact h5) hO (by simp only [tkS]; rw [bgS_k (by omega) (by omega) (by omega) (by omega) (by omega)]; exact h3) hn bgS_6 k1 bgS_7 hp0
  rw [wk] at e1
  have LL := sW_run (c := bAnd (bCmp o_lt (eL 1) (eF 5 5 (rL 0))) (bNot (bZ z_ne (eCV 5 (rL 0) (aN) fX5_isWorking)))) (f := tkBody) (fun y => ([.ref lo, .int (nI y)], if y ≤ k then hS h lo s P pf pi O N L else hS h lo (tkS s P pi O N (k, p)) (tkP P pi O (k, p)) pf pi O N L)) (k + 1) (k + 1) 4000 0 (by omega) (by omega) (by omega)
    (fun y g1 g2 => by
      by_cases hy : y ≤ k
      · simp [hy, bAnd, bCmp, eL, eF, rL, rs5, h5, o_lt_nI (a := y) (b := nO) (by omega) (by omega), show y < nO by omega, show y < k + 1 by omega, bNot, bZ, eCV, aN, isS, e0, z_ne_bI]
      · cases hc : o_lt (nI y) (tkS s P pi O N (k, p) 5) <;> simp [hy, bAnd, bCmp, eL, eF, rL, rs5, hc, show ¬ y < k + 1 by omega, bNot, bZ, eCV, aN, isS, e1, z_ne_bI])
    (fun y g1 g2 => by
      have hy : y ≤ k := by omega
      simp only [if_pos hy]
      by_cases hyk : y = k
      · subst hyk
        have b := tk_yes (h := h) (lo := lo) (s := s) (P := P) (pf := pf) (pi := pi) (O := O) (N := N) (L := L) h3 hn (show y < 10 by omega) (hpi y (by omega)) (hl y k1).1 (hl y k1).2 k3
        simp only [b]
        simp [zCut, show ¬ y + 1 ≤ y by omega]
      · have b := tk_no (h := h) (lo := lo) (s := s) (P := P) (pf := pf) (pi := pi) (O := O) (N := N) (L := L) h3 hn (show y < 10 by omega) (hpi y (by omega)) (hl y (by omega)).1 (hl y (by omega)).2 (goC_none k2 y (by omega))
        simp only [b]
        simp [zCut, show y + 1 ≤ k by omega])
  simp [nI_0, show ¬ k + 1 ≤ k by omega] at LL
  have e : bX5_takesUpWork = sSeq (sBlk (sSeq (sLi 1 (eC 0)) (sW 4000 (bAnd (bCmp o_lt (eL 1) (eF 5 5 (rL 0))) (bNot (bZ z_ne (eCV 5 (rL 0) (aN) fX5_isWorking)))) tkBody))) (sRi (eCV 5 (rL 0) (aN) fX5_isWorking)) := rfl
  simp [fX5_takesUpWork, e, mZ, sSeq, sBlk, sLi, eC, zSt, LL, zCut, sRi, eCV, rL, aN, isS, e1, bI]
end ZS7
