/-! the class's sum of moved -/
section ZCH
variable {h : zH} {b L' t nS nP nO c nh nt k : Nat} {xs : Nat → Int32} {A B : Nat → Int32}
abbrev mvBody : zSS := sSeq (sSeq (sIf (bOr (bCmp o_eq (eA (rF 0 1 (rF 6 3 (rL 0))) (eL 3)) (eC (-9))) (bCmp o_eq (eA (rF 0 1 (rF 6 4 (rL 0))) (eL 3)) (eC (-9)))) (sRi (eC (-9))) sNop) (sIf (bCmp o_ne (eL 3) (eL 1)) (sLi 2 (eOp (· + ·) (eL 2) (eOp (· - ·) (eA (rF 0 1 (rF 6 4 (rL 0))) (eL 3)) (eA (rF 0 1 (rF 6 3 (rL 0))) (eL 3))))) sNop)) (sInc 3 1)
theorem add_100 (a b c : Int32) : a + (b + c) = a + b + c := by grind
theorem mv_body (top : Top h b L' xs t) (f1 : h.2 (t + 383) = some (cFo (t + 329) (t + 384))) (f2 : h.2 (t + 384) = some (xI 10 A)) (f3 : h.2 (t + 385) = some (cFo (t + 329) (t + 386))) (f4 : h.2 (t + 386) = some (xI 10 B)) (hk : k < 10) {y : Nat} (hy : y < 10) (hb : badM A B y = false) :
    mvBody [.ref t, .int (nI k), .int (100000 + sumM (addM A B k) y), .int (nI y)] h = some (.inl ([.ref t, .int (nI k), .int (100000 + sumM (addM A B k) (y + 1)), .int (nI (y + 1))], h)) := by
  have r1 : rdR h 0 1 (t + 383) = some (t + 384) := rdR_of f1 rfl
  have r2 : rdR h 0 1 (t + 385) = some (t + 386) := rdR_of f3 rfl
  have ra := rdA_of f2 hy (by omega)
  have rb := rdA_of f4 hy (by omega)
  simp only [badM, Bool.or_eq_false_iff, decide_eq_false_iff_not] at hb
  have q := (o_eqI (show y < 2 ^ 31 by omega) (show k < 2 ^ 31 by omega)).2
  by_cases e3 : y = k
  · have q' : o_ne (nI y) (nI k) = false := by rw [q, decide_eq_true e3]; rfl
    have ad : addM A B k y = 0 := by simp only [addM]; rw [if_pos e3]
    simp [sSeq, sIf, bOr, bCmp, eA, rF, rL, tp3 top, tp4 top, r1, r2, eL, ra, rb, eC, o_eq, hb.1, hb.2, sNop, zCut, q', sInc, zSt, nI_1, sumM, ad]
  · have q' : o_ne (nI y) (nI k) = true := by rw [q, decide_eq_false e3]; rfl
    have ad : addM A B k y = B y - A y := by simp only [addM]; rw [if_neg e3]
    simp [sSeq, sIf, bOr, bCmp, eA, rF, rL, tp3 top, tp4 top, r1, r2, eL, ra, rb, eC, o_eq, hb.1, hb.2, sNop, zCut, q', sLi, eOp, sInc, zSt, nI_1, sumM, ad, add_100]
theorem mv_bad (top : Top h b L' xs t) (f1 : h.2 (t + 383) = some (cFo (t + 329) (t + 384))) (f2 : h.2 (t + 384) = some (xI 10 A)) (f3 : h.2 (t + 385) = some (cFo (t + 329) (t + 386))) (f4 : h.2 (t + 386) = some (xI 10 B)) {y : Nat} (hy : y < 10) (hb : badM A B y = true) (v : Int32) :
    mvBody [.ref t, .int (nI k), .int v, .int (nI y)] h = some (.inr (some (-9), h)) := by
  have r1 : rdR h 0 1 (t + 383) = some (t + 384) := rdR_of f1 rfl
  have r2 : rdR h 0 1 (t + 385) = some (t + 386) := rdR_of f3 rfl
  have ra := rdA_of f2 hy (by omega)
  have rb := rdA_of f4 hy (by omega)
  by_cases e1 : A y = -9
  · simp [sSeq, sIf, bOr, bCmp, eA, rF, rL, tp3 top, tp4 top, r1, r2, eL, ra, rb, eC, o_eq, e1, zCut, sRi]
  · have e2 : B y = -9 := by simpa [badM, e1] using hb
    simp [sSeq, sIf, bOr, bCmp, eA, rF, rL, tp3 top, tp4 top, r1, r2, eL, ra, rb, eC, o_eq, e1, e2, zCut, sRi]
end ZCH
