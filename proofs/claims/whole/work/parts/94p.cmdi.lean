/-! the reference's order: the letters -/
def filA (A TX : Nat → Int32) (nt y : Nat) : Nat → Int32 := fun x => if 6 ≤ x ∧ x < 6 + y then (if x - 6 < nt then TX (x - 6) else 0) else A x
theorem filA_0 (A TX : Nat → Int32) (nt : Nat) : filA A TX nt 0 = A := by
  funext x
  simp only [filA]
  rw [if_neg (by omega)]
theorem filA_s (A TX : Nat → Int32) (nt y : Nat) : upd (filA A TX nt y) (6 + y) (if y < nt then TX y else 0) = filA A TX nt (y + 1) := by
  funext x
  simp only [upd, filA]
  by_cases e : x = 6 + y
  · subst e
    rw [if_pos rfl, if_pos (show 6 ≤ 6 + y ∧ 6 + y < 6 + (y + 1) by omega), show 6 + y - 6 = y by omega]
  · rw [if_neg e]
    by_cases e2 : 6 ≤ x ∧ x < 6 + y
    · rw [if_pos e2, if_pos (show 6 ≤ x ∧ x < 6 + (y + 1) by omega)]
    · rw [if_neg e2, if_neg (by omega)]
section ZCJ
variable {h : zH} {m nt : Nat} {g SV TX AS : Nat → Int32} {R T : Nat → Nat → Int32}
theorem or_fill (h6 : g 6 = nI nt) (hn : nt ≤ 12) (a1 a2 a3 a4 a5 : Int32) : sW 4000 (bCmp o_lt (eL 6) (eC 12)) (sSeq (sA (rF 7 12 (rL 0)) (eOp (· + ·) (eC 6) (eL 6)) (eT (bCmp o_lt (eL 6) (eF 7 6 (rL 0))) (eA (rF 7 5 (rL 0)) (eL 6)) (eC 0))) (sInc 6 1)) [.ref m, .int a1, .int a2, .int a3, .int a4, .int a5, .int 0] (hM h m g R SV TX T AS) = some (.inl ([.ref m, .int a1, .int a2, .int a3, .int a4, .int a5, .int (nI 12)], hM h m g R SV TX T (filA AS TX nt 12))) := by
  have LL := sW_run (c := bCmp o_lt (eL 6) (eC 12)) (f := sSeq (sA (rF 7 12 (rL 0)) (eOp (· + ·) (eC 6) (eL 6)) (eT (bCmp o_lt (eL 6) (eF 7 6 (rL 0))) (eA (rF 7 5 (rL 0)) (eL 6)) (eC 0))) (sInc 6 1)) (fun y => ([.ref m, .int a1, .int a2, .int a3, .int a4, .int a5, .int (nI y)], hM h m g R SV TX T (filA AS TX nt y))) 12 12 4000 0 (by omega) (by omega) (by omega)
    (fun y g1 g2 => by simp [bCmp, eL, eC, show (12 : Int32) = nI 12 from rfl, o_lt_nI (a := y) (b := 12) (by omega) (by omega)])
    (fun y g1 g2 => by
      have w := wrA_of (h := hM h m g R SV TX T (filA AS TX nt y)) (v := if y < nt then TX y else 0) hM_7 (show 6 + y < 19 by omega) (by omega)
      rw [wM_7, filA_s] at w
      have ra := rdA_of (h := hM h m g R SV TX T (filA AS TX nt y)) hM_4 g2 (by omega)
      have r6 := rMo6 (h := h) (m := m) (g := g) (R := R) (SV := SV) (TX := TX) (T := T) (AS := filA AS TX nt y)
      rw [h6] at r6
      have e : (6 : Int32) + nI y = nI (6 + y) := by rw [show (6 : Int32) = nI 6 from rfl, nI_add]
      have l := o_lt_nI (a := y) (b := nt) (by omega) (by omega)
      by_cases hy : y < nt
      · rw [if_pos hy] at w
        rw [decide_eq_true hy] at l
        simp [sSeq, sA, rF, rL, rMr12, eOp, eC, eL, e, eT, bCmp, eF, r6, l, eA, rMr5, ra, w, sInc, zSt, nI_1, zCut]
      · rw [if_neg hy] at w
        rw [decide_eq_false hy] at l
        simp [sSeq, sA, rF, rL, rMr12, eOp, eC, eL, e, eT, bCmp, eF, r6, l, w, sInc, zSt, nI_1, zCut])
  simp only [nI_0, filA_0] at LL
  exact LL
end ZCJ
