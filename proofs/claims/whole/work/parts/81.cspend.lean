/-! both sides: the minutes of work -/
abbrev spCond : zEB := bAnd (bAnd (bCmp o_le (eL 4) (eC 10)) (bZ z_gt (eL 3))) (bZ z_ne (eCV 5 (rL 0) (aN) fX5_takesUpWork))
abbrev spBody : zSS := sSeq (sSeq (sLi 5 (eMin (eL 3) (eF 5 9 (rL 0)))) (sSeq (sLi 3 (eOp (· - ·) (eL 3) (eL 5))) (sSeq (sFa (· - ·) 5 9 (rL 0) (eL 5)) (sIf (bZ z_eq (eF 5 9 (rL 0))) (sCV 5 (rL 0) (aN) fX5_finishOrder) sNop)))) (sInc 4 1)
abbrev wkCond : zEB := bAnd (bZ z_gt (eL 2)) (bZ z_ne (eCV 7 (rL 0) (aR (rF 7 1 (rL 0)) (aN)) fX7_goesOn))
abbrev wkBody : zSS := sSeq (sLi 4 (eT (bCmp o_lt (eL 2) (eA (rF 7 1 (rL 0)) (eC 4))) (eL 2) (eA (rF 7 1 (rL 0)) (eC 4)))) (sSeq (sAa (· - ·) (rF 7 1 (rL 0)) (eC 4) (eL 4)) (sSeq (sLi 2 (eOp (· - ·) (eL 2) (eL 4))) (sIf (bZ z_eq (eA (rF 7 1 (rL 0)) (eC 4))) (sSeq (sCV 7 (rL 0) (aR (rF 7 1 (rL 0)) (aN)) fX7_finish) (sInc 3 1)) sNop)))
theorem sW_turn {c : zEB} {f : zSS} {N : Nat} {en en1 en2 : List Value} {h h1 h2 : zH} (hc : c en h = some (true, h1)) (hf : f en h1 = some (.inl (en1, h2))) (ht : en1.take en.length = en2) : sW (N + 1) c f en h = sW N c f en2 h2 := by
  simp only [sW, hc, Option.bind_some, if_true, hf, ht]
theorem sW_stop {c : zEB} {f : zSS} {N : Nat} {en : List Value} {h h1 : zH} (hc : c en h = some (false, h1)) : sW (N + 1) c f en h = some (.inl (en, h1)) := by
  simp only [sW, hc, Option.bind_some, if_neg (show ¬ false = true by decide)]
theorem min_eq (a b : Int32) : (if b < a then b else a) = if a < b then a else b := by
  by_cases h1 : b < a
  · by_cases h2 : a < b
    · rw [i_lt] at h1 h2; omega
    · rw [if_pos h1, if_neg h2]
  · by_cases h2 : a < b
    · rw [if_neg h1, if_pos h2]
    · rw [if_neg h1, if_neg h2]
      rw [i_lt] at h1 h2
      rw [i_eq]; omega
theorem e_add (e a : Int32) : e + (a + 1 - a) = e + 1 := by grind
theorem e_sub (e a : Int32) : e + (a - a) = e := by grind
theorem e_add2 (e a b c : Int32) : e + (b - a) + (c - b) = e + (c - a) := by grind
section ZSP
variable {S s pf N g SV TX AS : Nat → Int32} {P O L R T : Nat → Nat → Int32} {pi : Nat → Nat} {nS nP nO c : Nat}
set_option maxRecDepth 100000 in
theorem sp_turn {k p sd : Nat} (vw : Vw s P pf pi O N L (R 1) nS nP nO) (iv : Iv (R 1) nS nP nO) (ir : IvR (R 1) nO c) (a : AtW (R 1) nP nO k p sd) (mins d0 left e : Int32) (y : Nat) :
    ∃ s1 P1 pi1 S1 A1 n1 c1 left1 st, (∀ h lo, spBody [.ref lo, .int mins, .int d0, .int left, .int (nI y)] (hS h lo s P pf pi O N L) = some (.inl ([.ref lo, .int mins, .int d0, .int left1, .int (nI (y + 1)), .int st], hS h lo s1 P1 pf pi1 O N L))) ∧
      (∀ hm m, wkBody [.ref m, .int mins, .int left, .int e] (hM hm m g R SV TX T AS) = some (.inl ([.ref m, .int mins, .int left1, .int (e + (S1 7 - R 1 7)), .int st], hM hm m g (va_up R 1 S1) SV TX T A1))) ∧
      Vw s1 P1 pf pi1 O N L S1 nS nP n1 ∧ Iv S1 nS nP n1 ∧ IvR S1 n1 c1 ∧ (n1 + 1 = nO ∨ (n1 = nO ∧ left1 = 0)) := by
  obtain ⟨a3, ak, a5, ap, a6, asd, a2⟩ := id a
  have nO10 := iv.1.2.2.2.2.2
  have n9 : R 1 3 ≠ -9 := by rw [a3]; exact nI_ne9 (by omega)
  have s9 : s 9 = R 1 4 := by rw [vw.1.2.2.2.2.2.2.1, if_neg n9]
  generalize hst : (if left < R 1 4 then left else R 1 4) = st
  have hst' : (if R 1 4 < left then R 1 4 else left) = st := by rw [min_eq, hst]
  obtain ⟨m1, m2⟩ := min_view (v := R 1 4 - st) vw iv n9
  have c4 : ∀ (hm : zH) (m : Nat), rdA (hM hm m g R SV TX T AS) (m + 1) 4 = some (R 1 4) := fun hm m => hd4 (hM_r (.inl rfl))
  have c4' : ∀ (hm : zH) (m : Nat), rdA (hM hm m g (va_up R 1 (upd (R 1) 4 (R 1 4 - st))) SV TX T AS) (m + 1) 4 = some (R 1 4 - st) := fun hm m => by
    rw [hd4 (hM_r (i := 1) (.inl rfl)), up_self, upd_self]
  have w4 : ∀ (hm : zH) (m : Nat) (v : Int32), wrA (hM hm m g R SV TX T AS) (m + 1) 4 v = some (hM hm m g (va_up R 1 (upd (R 1) 4 v)) SV TX T AS) := fun hm m v => by
    rw [wh4 (hM_r (i := 1) (.inl rfl)) v, wM_r (i := 1) (.inl rfl)]
  have ws : ∀ (h : zH) (lo : Nat), wrO (hS h lo s P pf pi O N L) 5 9 lo (.int (R 1 4 - st)) = some (hS h lo (upd s 9 (R 1 4 - st)) P pf pi O N L) := fun h lo => wsh9 _
  have rs : ∀ (h : zH) (lo : Nat), rdI (hS h lo (upd s 9 (R 1 4 - st)) P pf pi O N L) 5 9 lo = some (R 1 4 - st) := fun h lo => by rw [rs9, upd_self]
  have et : ∀ (hm : zH) (m : Nat), eT (bCmp o_lt (eL 2) (eA (rF 7 1 (rL 0)) (eC 4))) (eL 2) (eA (rF 7 1 (rL 0)) (eC 4)) [.ref m, .int mins, .int left, .int e] (hM hm m g R SV TX T AS) = some (st, hM hm m g R SV TX T AS) := fun hm m => by
    by_cases hlt : left < R 1 4
    · rw [if_pos hlt] at hst
      simp [eT, bCmp, eL, eA, rF, rL, rMr1, eC, c4, o_lt, hlt]
      exact hst
    · rw [if_neg hlt] at hst
      simp only [eT, bCmp, eL, eA, rF, rL, rMr1, eC, c4, o_lt, List.getElem?_cons_zero, List.getElem?_cons_succ, Option.bind_some, Option.map_some, decide_eq_false hlt, if_neg (show ¬ false = true by decide)]
      rw [hst]
  generalize hv : R 1 4 - st = v at *
  have e1 : (va_up R 1 (upd (R 1) 4 v)) 1 = upd (R 1) 4 v := up_self _ _
  by_cases hz : v = 0
  · obtain ⟨s1, P1, pi1, S1, A1, c1, f1, f2, f3, f4, f5, f6, -⟩ := fin_rel (R := va_up R 1 (upd (R 1) 4 v)) (i := 1) (g := g) (SV := SV) (TX := TX) (T := T) (AS := AS) (k := k) (p := p) (sd := sd) (c := c) (.inl rfl) (by rw [e1]; exact m1) (by rw [e1]; exact m2) (by
      rw [e1]
      exact ⟨ir.1, fun j hj => by rw [sO_upd (by omega)]; exact ir.2 j hj⟩) (by
      rw [e1]
      exact ⟨by rw [upd_ne (by omega), a3], ak, by rw [upd_ne (by omega), a5], ap, by rw [upd_ne (by omega), a6], asd, by rw [sP_hd (by omega), a2]⟩)
    rw [e1, upd_ne (by omega)] at f6
    simp only [up_up] at f2
    refine ⟨s1, P1, pi1, S1, A1, nO - 1, c1, left - st, st, fun h lo => ?_, fun hm m => ?_, f3, f4, f5, .inl (by omega)⟩
    · have q := f1 h lo
      subst hz
      simp [sSeq, sLi, eMin, eL, eF, rL, rs9, s9, hst', zSt, eOp, sFa, hv, ws, sIf, bZ, rs, z_eq, sCV, aN, isS, q, zCut, sInc, nI_1]
    · rw [f6, e_add e (R 1 7)]
      have q := f2 hm m
      have q4 := c4' hm m
      have q5 := w4 hm m v
      subst hz
      simp only [sSeq, sLi, et, Option.bind_some, zSt, Option.map_some]
      simp [eL, sAa, eA, rF, rL, rMr1, eC, c4, hv, q5, eOp, zSt, sIf, bZ, q4, z_eq, sSeq, sCV, aR, aN, isMo, q, zCut, sInc]
  · refine ⟨_, P, pi, upd (R 1) 4 v, AS, nO, c, left - st, st, fun h lo => ?_, fun hm m => ?_, m1, m2, ⟨ir.1, fun j hj => by rw [sO_upd (by omega)]; exact ir.2 j hj⟩, .inr ⟨rfl, ?_⟩⟩
    · simp [sSeq, sLi, eMin, eL, eF, rL, rs9, s9, hst', zSt, eOp, sFa, hv, ws, sIf, bZ, rs, z_eq, hz, sNop, zCut, sInc, nI_1]
    · rw [upd_ne (show 7 ≠ 4 by omega), e_sub]
      have q4 := c4' hm m
      have q5 := w4 hm m v
      simp only [sSeq, sLi, et, Option.bind_some, zSt, Option.map_some]
      simp [eL, sAa, eA, rF, rL, rMr1, eC, c4, hv, q5, eOp, zSt, sIf, bZ, q4, z_eq, hz, sNop, zCut]
    · by_cases hlt : left < R 1 4
      · rw [if_pos hlt] at hst
        rw [← hst]
        exact Int32.sub_self _
      · rw [if_neg hlt] at hst
        rw [← hst, Int32.sub_self] at hv
        exact absurd hv.symm hz
theorem sp_cond0 {mins d0 left : Int32} {y : Nat} (hl : ¬ 0 < left) (h : zH) (lo : Nat) : spCond [.ref lo, .int mins, .int d0, .int left, .int (nI y)] (hS h lo s P pf pi O N L) = some (false, hS h lo s P pf pi O N L) := by
  cases hc : o_le (nI y) 10 <;> simp [bAnd, bCmp, eL, eC, hc, bZ, z_gt, hl]
theorem sp_cond1 {s1 : Nat → Int32} {P1 : Nat → Nat → Int32} {v mins d0 left : Int32} {y : Nat} (hy : y ≤ 10) (hl : 0 < left) {h : zH} {lo : Nat} (q : fX5_takesUpWork [.ref lo] (hS h lo s P pf pi O N L) = some (v, hS h lo s1 P1 pf pi O N L)) : spCond [.ref lo, .int mins, .int d0, .int left, .int (nI y)] (hS h lo s P pf pi O N L) = some (z_ne v, hS h lo s1 P1 pf pi O N L) := by
  have hc : o_le (nI y) 10 = true := by
    simp only [o_le, show (10 : Int32) = nI 10 from rfl]
    exact decide_eq_true ((nI_leI (by omega) (by omega)).mpr hy)
  simp [bAnd, bCmp, eL, eC, hc, bZ, z_gt, hl, eCV, rL, aN, isS, q]
theorem wk_cond0 {mins left e : Int32} (hl : ¬ 0 < left) (hm : zH) (m : Nat) : wkCond [.ref m, .int mins, .int left, .int e] (hM hm m g R SV TX T AS) = some (false, hM hm m g R SV TX T AS) := by
  simp [bAnd, bZ, eL, z_gt, hl]
theorem wk_cond1 {R1 : Nat → Nat → Int32} {g1 : Nat → Int32} {v mins left e : Int32} (hl : 0 < left) {hm : zH} {m : Nat} (q : fX7_goesOn [.ref m, .ref (m + 1)] (hM hm m g R SV TX T AS) = some (v, hM hm m g1 R1 SV TX T AS)) : wkCond [.ref m, .int mins, .int left, .int e] (hM hm m g R SV TX T AS) = some (z_ne v, hM hm m g1 R1 SV TX T AS) := by
  simp [bAnd, bZ, eL, z_gt, hl, eCV, rL, aR, rF, rMr1, aN, isMo, q]
/-- both loops of work, to their ends -/
theorem work_loop : ∀ (n N1 N2 : Nat) (s : Nat → Int32) (P : Nat → Nat → Int32) (pi : Nat → Nat) (R : Nat → Nat → Int32) (g AS : Nat → Int32) (c y : Nat) (left e mins d0 : Int32), y + n ≤ 10 → n + 2 ≤ N1 → n + 2 ≤ N2 → Vw s P pf pi O N L (R 1) nS nP n → Iv (R 1) nS nP n → IvR (R 1) n c →
    ∃ s1 P1 pi1 S1 g1 A1 n1 c1 left1 y1, (∀ h lo, sW N1 spCond spBody [.ref lo, .int mins, .int d0, .int left, .int (nI y)] (hS h lo s P pf pi O N L) = some (.inl ([.ref lo, .int mins, .int d0, .int left1, .int (nI y1)], hS h lo s1 P1 pf pi1 O N L))) ∧
      (∀ hm m, sW N2 wkCond wkBody [.ref m, .int mins, .int left, .int e] (hM hm m g R SV TX T AS) = some (.inl ([.ref m, .int mins, .int left1, .int (e + (S1 7 - R 1 7))], hM hm m g1 (va_up R 1 S1) SV TX T A1))) ∧
      Vw s1 P1 pf pi1 O N L S1 nS nP n1 ∧ Iv S1 nS nP n1 ∧ IvR S1 n1 c1 ∧ (∀ x, x ≠ 7 → x ≠ 8 → x ≠ 9 → g1 x = g x) := by
  intro n
  induction n with
  | zero =>
    intro N1 N2 s P pi R g AS c y left e mins d0 hy h1 h2 vw iv ir
    obtain ⟨N1, rfl⟩ : ∃ k, N1 = k + 1 := ⟨N1 - 1, by omega⟩
    obtain ⟨N2, rfl⟩ : ∃ k, N2 = k + 1 := ⟨N2 - 1, by omega⟩
    by_cases hl : 0 < left
    · rcases tk_rel (i := 1) (R := R) (g := g) (SV := SV) (TX := TX) (T := T) (AS := AS) (.inl rfl) vw iv with ⟨s1, P1, S1, g1, k, p, sd, -, -, -, -, a, -⟩ | ⟨g1, q1, q2, q3⟩
      · exact absurd a.2.1 (by omega)
      · refine ⟨s, P, pi, R 1, g1, AS, 0, c, left, y, fun h lo => ?_, fun hm m => ?_, vw, iv, ir, q3⟩
        · simp only [sW, sp_cond1 (show y ≤ 10 by omega) hl (q1 h lo)]; simp [z_ne]
        · rw [e_sub, up_id]
          simp only [sW, wk_cond1 hl (q2 hm m)]; simp [z_ne]
    · refine ⟨s, P, pi, R 1, g, AS, 0, c, left, y, fun h lo => ?_, fun hm m => ?_, vw, iv, ir, fun _ _ _ _ => rfl⟩
      · simp only [sW, sp_cond0 hl]; simp
      · rw [e_sub, up_id]
        simp only [sW, wk_cond0 hl]; simp
  | succ n ih =>
    intro N1 N2 s P pi R g AS c y left e mins d0 hy h1 h2 vw iv ir
    obtain ⟨N1, rfl⟩ : ∃ k, N1 = k + 1 := ⟨N1 - 1, by omega⟩
    obtain ⟨N2, rfl⟩ : ∃ k, N2 = k + 1 := ⟨N2 - 1, by omega⟩
    by_cases hl : 0 < left
    · rcases tk_rel (i := 1) (R := R) (g := g) (SV := SV) (TX := TX) (T := T) (AS := AS) (.inl rfl) vw iv with ⟨s1, P1, S1, g1, k, p, sd, q1, q2, v1, i1, a1, q3, q7, qO⟩ | ⟨g1, q1, q2, q3⟩
      · have e1 : (va_up R 1 S1) 1 = S1 := up_self _ _
        have ir1 : IvR S1 (n + 1) c := ⟨ir.1, fun j hj => by rw [qO]; exact ir.2 j hj⟩
        obtain ⟨s2, P2, pi2, S2, A2, n2, c2, left2, st, t1, t2, v2, i2, r2, dis⟩ := sp_turn (R := va_up R 1 S1) (g := g1) (SV := SV) (TX := TX) (T := T) (AS := AS) (k := k) (p := p) (sd := sd) (c := c) (by rw [e1]; exact v1) (by rw [e1]; exact i1) (by rw [e1]; exact ir1) (by rw [e1]; exact a1) mins d0 left e y
        rw [e1, q7] at t2
        simp only [up_up] at t2
        rcases dis with d | ⟨d, dl⟩
        · obtain rfl : n2 = n := by omega
          have e2 : (va_up R 1 S2) 1 = S2 := up_self _ _
          obtain ⟨s3, P3, pi3, S3, g3, A3, n3, c3, left3, y3, u1, u2, v3, i3, r3, u4⟩ := ih N1 N2 s2 P2 pi2 (va_up R 1 S2) g1 A2 c2 (y + 1) left2 (e + (S2 7 - R 1 7)) mins d0 (by omega) (by omega) (by omega) (by rw [e2]; exact v2) (by rw [e2]; exact i2) (by rw [e2]; exact r2)
          rw [e2, e_add2] at u2
          simp only [up_up] at u2
          refine ⟨s3, P3, pi3, S3, g3, A3, n3, c3, left3, y3, fun h lo => ?_, fun hm m => ?_, v3, i3, r3, fun x a b d => by rw [u4 x a b d, q3 x a b d]⟩
          · rw [sW_turn (sp_cond1 (show y ≤ 10 by omega) hl (q1 h lo)) (t1 h lo) rfl]
            exact u1 h lo
          · rw [sW_turn (wk_cond1 hl (q2 hm m)) (t2 hm m) rfl]
            exact u2 hm m
        · obtain ⟨N1, rfl⟩ : ∃ k, N1 = k + 1 := ⟨N1 - 1, by omega⟩
          obtain ⟨N2, rfl⟩ : ∃ k, N2 = k + 1 := ⟨N2 - 1, by omega⟩
          have hl2 : ¬ 0 < left2 := by rw [dl]; decide
          refine ⟨s2, P2, pi2, S2, g1, A2, n2, c2, left2, y + 1, fun h lo => ?_, fun hm m => ?_, v2, i2, r2, q3⟩
          · rw [sW_turn (sp_cond1 (show y ≤ 10 by omega) hl (q1 h lo)) (t1 h lo) rfl]
            exact sW_stop (sp_cond0 hl2 h lo)
          · rw [sW_turn (wk_cond1 hl (q2 hm m)) (t2 hm m) rfl]
            exact sW_stop (wk_cond0 hl2 hm m)
      · refine ⟨s, P, pi, R 1, g1, AS, n + 1, c, left, y, fun h lo => ?_, fun hm m => ?_, vw, iv, ir, q3⟩
        · simp only [sW, sp_cond1 (show y ≤ 10 by omega) hl (q1 h lo)]; simp [z_ne]
        · rw [e_sub, up_id]
          simp only [sW, wk_cond1 hl (q2 hm m)]; simp [z_ne]
    · refine ⟨s, P, pi, R 1, g, AS, n + 1, c, left, y, fun h lo => ?_, fun hm m => ?_, vw, iv, ir, fun _ _ _ _ => rfl⟩
      · simp only [sW, sp_cond0 hl]; simp
      · rw [e_sub, up_id]
        simp only [sW, wk_cond0 hl]; simp
end ZSP
