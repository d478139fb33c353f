/-! the commands: clearText, append, grind -/
section ZC4
variable {h : zH} {b L' t nS nP nO c nh nt : Nat} {xs : Nat → Int32} {s pf N g SV TX AS : Nat → Int32} {P O L R T : Nat → Nat → Int32} {pi : Nat → Nat}
/-- the text is changed, and the model's own numbers -/
theorem close2 {F6 F7 : zFI} {as : List Value} {v : Int32} {h1 : zH} {g' TX' : Nat → Int32} {nt' : Nat} (top : Top h b L' xs t) (at1 : At h (t + 1) s P pf pi O N L) (vw : Vw s P pf pi O N L (R 1) nS nP nO) (iv : Iv (R 1) nS nP nO) (ir : IvR (R 1) nO c) (his : His h t nh SV) (fcs : Fcs h t) (md : Mod h (t + 387) g R SV TX T AS)
    (k1 : ∀ x, x < t + 327 ∨ t + 329 ≤ x → h1.2 x = h.2 x) (txt : Txt h1 t nt' TX') (g4 : g' 4 = nI nh) (g6 : g' 6 = nI nt')
    (hc : F6 (.ref t :: as) h = some (v, h1)) (hr : ∀ hm, F7 (.ref (t + 387) :: as) (hM hm (t + 387) g R SV TX T AS) = some (v, hM hm (t + 387) g' R SV TX' T AS)) :
    ∃ v h1 h2, F6 (.ref t :: as) h = some (v, h1) ∧ F7 (.ref (t + 387) :: as) h1 = some (v, h2) ∧ Rl h2 b L' xs t ∧ h1.2 b = some (xS L' xs) ∧ isO h1 7 (t + 387) = true := by
  have at2 : At h1 (t + 1) s P pf pi O N L := At_keep at1 (fun x a b => k1 x (by omega))
  rw [← At_eq at2] at hc
  exact close1 (Top_keep top (fun x hx => k1 x (by omega))) (His_keep his (fun x a b => k1 x (by omega))) txt (Fcs_keep fcs (fun x a b => k1 x (by omega))) (Mod_keep md (fun x a b => k1 x (by omega))) vw iv ir g4 g6 hc hr
theorem tx_1 (w : Txt h t nt TX) : rdI h 2 1 (t + 327) = some (nI nt) := rdI_of w.2.1 rfl
theorem tx_0 (w : Txt h t nt TX) : rdR h 2 0 (t + 327) = some (t + 328) := rdR_of w.2.1 rfl
theorem tx_i (w : Txt h t nt TX) : isO h 2 (t + 327) = true := isO_of w.2.1
set_option maxRecDepth 100000 in
theorem cmd_clearText : Cmd fX6_clearText fX7_clearText [] := by
  intro h b L' xs t rl
  obtain ⟨g, R, SV, TX, T, AS, nh, nt, top, ⟨s, P, pf, pi, O, N, L, nS, nP, nO, c, at1, vw, iv, ir⟩, his, txt, fcs, md, g4, g6⟩ := rl
  have w := wrO_of (v := .int 0) txt.2.1 (k := 1) (by simp)
  have e : [Value.ref (t + 328), Value.int (nI nt)].set 1 (.int 0) = [Value.ref (t + 328), Value.int (nI 0)] := rfl
  rw [e] at w
  obtain ⟨t1, t2, tx, t3, t4⟩ := id txt
  refine close2 (v := nI nt) (g' := upd (upd g 0 0) 6 0) (TX' := TX) (nt' := 0) (h1 := hp h (t + 327) (cNm (t + 328) (nI 0))) top at1 vw iv ir his fcs md (fun x hx => hp_ne _ _ (by omega)) ⟨by omega, hp_self _ _ _, tx, by rw [hp_ne _ _ (by omega)]; exact t3, fun x hx => by omega⟩ (by simp [upd, g4]) (by simp [upd]; rfl) ?_ (fun hm => ?_)
  · simp [fX6_clearText, bX6_clearText, mI, sSeq, sLi, eF, rF, rL, tp2 top, tx_1 txt, zSt, sF, eC, w, sRi, eL]
  · have r6 := rMo6 (h := hm) (m := t + 387) (g := upd g 0 0) (R := R) (SV := SV) (TX := TX) (T := T) (AS := AS)
    rw [upd_ne (by omega), g6] at r6
    simp [fX7_clearText, bX7_clearText, mI, sSeq, sF, rL, eC, wMo0, sLi, eF, r6, zSt, wMo6, sRi, eL]
theorem dec_12 {n : Nat} (hn : n ≤ 12) : o_ge (nI n) 12 = decide (n = 12) ∧ o_eq (nI n) 12 = decide (n = 12) ∧ o_lt (nI n) 12 = decide (n < 12) := by
  refine ⟨?_, ?_, ?_⟩
  · simp only [o_ge, show (12 : Int32) = nI 12 from rfl, nI_leI (show 12 < 2 ^ 31 by omega) (show n < 2 ^ 31 by omega)]
    exact decide_eq_decide.mpr (by omega)
  · simp only [o_eq, show (12 : Int32) = nI 12 from rfl, nI_eqI (show n < 2 ^ 31 by omega) (show 12 < 2 ^ 31 by omega)]
  · simp only [o_lt, show (12 : Int32) = nI 12 from rfl, nI_ltI (show n < 2 ^ 31 by omega) (show 12 < 2 ^ 31 by omega)]
set_option maxRecDepth 100000 in
theorem X2_add {a la n : Nat} {fa : Nat → Int32} {v : Int32} (ha : h.2 a = some (cNm la (nI n))) (hl : h.2 la = some (xI 12 fa)) (hn : n < 12) (ne : a ≠ la) : fX2_add [.ref a, .int v] h = some (hp (hp h la (xI 12 (upd fa n v))) a (cNm la (nI (n + 1)))) := by
  have r1 := rdI_of (h := h) (ci := 2) (k := 1) ha rfl
  have r0 := rdR_of (h := h) (ci := 2) (k := 0) ha rfl
  have w := wrA_of (v := v) hl hn (by omega)
  have hb : (hp h la (xI 12 (upd fa n v))).2 a = some (cNm la (nI n)) := by rw [hp_ne _ _ ne]; exact ha
  have r2 := rdI_of (ci := 2) (k := 1) hb rfl
  have w2 := wrO_of (v := .int (nI (n + 1))) hb (k := 1) (by simp)
  have e : [Value.ref la, Value.int (nI n)].set 1 (.int (nI (n + 1))) = [Value.ref la, Value.int (nI (n + 1))] := rfl
  rw [e] at w2
  simp [fX2_add, bX2_add, mV, sSeq, sIf, bCmp, eF, rL, r1, eC, (dec_12 (n := n) (by omega)).2.2, hn, sA, rF, r0, eL, w, sFa, r2, nI_1, w2, zCut, sRv]
set_option maxRecDepth 100000 in
theorem cmd_append (v : Int32) : Cmd fX6_append fX7_append [.int v] := by
  intro h b L' xs t rl
  obtain ⟨g, R, SV, TX, T, AS, nh, nt, top, ⟨s, P, pf, pi, O, N, L, nS, nP, nO, c, at1, vw, iv, ir⟩, his, txt, fcs, md, g4, g6⟩ := rl
  obtain ⟨t1, t2, tx, t3, t4⟩ := id txt
  obtain ⟨d1, d2, -⟩ := dec_12 t1
  have r6 := fun hm : zH => rMo6 (h := hm) (m := t + 387) (g := upd g 0 0) (R := R) (SV := SV) (TX := TX) (T := T) (AS := AS)
  simp only [upd_ne (show 6 ≠ 0 by omega), g6] at r6
  cases hw : (decide (97 ≤ v) && decide (v ≤ 122)) with
  | false =>
    refine close0 (v := -1) (g' := upd g 0 0) top at1 vw iv ir his txt fcs md g4 g6 ?_ (fun hm => ?_) (by simp [upd]) (by simp [upd])
    · simp [fX6_append, bX6_append, mI, sSeq, sIf, bNot, bZ, eCS, aI, eL, eC, aN, X6_isWithin, hw, z_ne_bI, zCut, sRi]
    · simp [fX7_append, bX7_append, mI, sSeq, sF, rL, eC, wMo0, sIf, bNot, bZ, eCS, aI, eL, aN, X7_in, hw, z_ne_bI, zCut, sRi]
  | true =>
    by_cases hn : nt = 12
    · have d1' : o_ge (nI nt) 12 = true := by rw [d1, decide_eq_true hn]
      have d2' : o_eq (nI nt) 12 = true := by rw [d2, decide_eq_true hn]
      refine close0 (v := -3) (g' := upd g 0 0) top at1 vw iv ir his txt fcs md g4 g6 ?_ (fun hm => ?_) (by simp [upd]) (by simp [upd])
      · simp [fX6_append, bX6_append, mI, sSeq, sIf, bNot, bZ, eCS, aI, eL, eC, aN, X6_isWithin, hw, z_ne_bI, sNop, zCut, bCmp, eF, rF, rL, tp2 top, tx_1 txt, d1', sRi]
      · simp [fX7_append, bX7_append, mI, sSeq, sF, rL, eC, wMo0, sIf, bNot, bZ, eCS, aI, eL, aN, X7_in, hw, z_ne_bI, sNop, zCut, bCmp, eF, r6, d2', sRi]
    · have d1' : o_ge (nI nt) 12 = false := by rw [d1, decide_eq_false hn]
      have d2' : o_eq (nI nt) 12 = false := by rw [d2, decide_eq_false hn]
      have ad := X2_add (v := v) t2 t3 (show nt < 12 by omega) (by omega)
      generalize hH : hp (hp h (t + 328) (xI 12 (upd tx nt v))) (t + 327) (cNm (t + 328) (nI (nt + 1))) = H at ad
      have k1 : ∀ x, x < t + 327 ∨ t + 329 ≤ x → H.2 x = h.2 x := fun x hx => by rw [← hH, hp_ne _ _ (by omega), hp_ne _ _ (by omega)]
      have txt' : Txt H t (nt + 1) (upd TX nt v) := ⟨by omega, by rw [← hH, hp_self], upd tx nt v, by rw [← hH, hp_ne _ _ (by omega), hp_self], fun x hx => by
        by_cases e : x = nt
        · rw [e, upd_self, upd_self]
        · rw [upd_ne e, upd_ne e]; exact t4 x (by omega)⟩
      have top1 : Top H b L' xs t := Top_keep top (fun x hx => k1 x (by omega))
      refine close2 (v := nI (nt + 1)) (g' := upd (upd g 0 0) 6 (nI (nt + 1))) (TX' := upd TX nt v) (nt' := nt + 1) (h1 := H) top at1 vw iv ir his fcs md k1 txt' (by simp [upd, g4]) (by simp [upd]) ?_ (fun hm => ?_)
      · simp [fX6_append, bX6_append, mI, sSeq, sIf, bNot, bZ, eCS, aI, eL, eC, aN, X6_isWithin, hw, z_ne_bI, sNop, zCut, bCmp, eF, rF, rL, tp2 top, tx_1 txt, d1', sCV, tx_i txt, ad, tp2 top1, tx_1 txt', sRi]
      · have w5 := wrA_of (h := hM hm (t + 387) (upd g 0 0) R SV TX T AS) (v := v) hM_4 (show nt < 12 by omega) (by omega)
        rw [wM_4] at w5
        have r6' := rMo6 (h := hm) (m := t + 387) (g := upd g 0 0) (R := R) (SV := SV) (TX := upd TX nt v) (T := T) (AS := AS)
        rw [upd_ne (show 6 ≠ 0 by omega), g6] at r6'
        have r7 := rMo6 (h := hm) (m := t + 387) (g := upd (upd g 0 0) 6 (nI (nt + 1))) (R := R) (SV := SV) (TX := upd TX nt v) (T := T) (AS := AS)
        rw [upd_self] at r7
        simp [fX7_append, bX7_append, mI, sSeq, sF, rL, eC, wMo0, sIf, bNot, bZ, eCS, aI, eL, aN, X7_in, hw, z_ne_bI, sNop, zCut, bCmp, eF, r6, d2', sA, rF, rMr5, w5, sFa, r6', nI_1, wMo6, r7, sRi]
set_option maxRecDepth 100000 in
set_option maxHeartbeats 2000000 in
theorem cmd_grind (v sd : Int32) : Cmd fX6_grind fX7_grind [.int v, .int sd] := by
  intro h b L' xs t rl
  obtain ⟨g, R, SV, TX, T, AS, nh, nt, top, ⟨s, P, pf, pi, O, N, L, nS, nP, nO, c, at1, vw, iv, ir⟩, his, txt, fcs, md, g4, g6⟩ := rl
  have hnh := his_le his
  have hIs := his_is his
  obtain ⟨c0, c1, c2, c3, c4, c5⟩ := iv.1
  obtain ⟨q, q1, q2, q3⟩ := pl_both (R := R) at1 vw iv v
  cases q with
  | false =>
    refine close0 (v := -1) (g' := upd g 0 0) top at1 vw iv ir his txt fcs md g4 g6 ?_ (fun hm => ?_) (by simp [upd]) (by simp [upd])
    · simp [fX6_grind, bX6_grind, mI, sSeq, sIf, bOr, bNot, bZ, eCV, rF, rL, tp0 top, aI, eL, aN, aIs at1, q1, z_ne_bI, eC, zCut, sRi]
    · simp [fX7_grind, bX7_grind, mI, sSeq, sF, rL, eC, wMo0, sIf, bOr, bNot, bZ, eCV, aI, eL, aN, isMo, q2, z_ne_bI, zCut, sRi]
  | true =>
    obtain ⟨k, hk, rfl⟩ := q3 rfl
    cases hw : (decide (0 ≤ sd) && decide (sd ≤ 1)) with
    | false =>
      refine close0 (v := -1) (g' := upd g 0 0) top at1 vw iv ir his txt fcs md g4 g6 ?_ (fun hm => ?_) (by simp [upd]) (by simp [upd])
      · simp [fX6_grind, bX6_grind, mI, sSeq, sIf, bOr, bNot, bZ, eCV, rF, rL, tp0 top, aI, eL, aN, aIs at1, q1, z_ne_bI, eCS, X6_isWithin, hw, eC, zCut, sRi]
      · simp [fX7_grind, bX7_grind, mI, sSeq, sF, rL, eC, wMo0, sIf, bOr, bNot, bZ, eCV, aI, eL, aN, isMo, q2, z_ne_bI, eCS, X7_in, hw, zCut, sRi]
    | true =>
      obtain ⟨d, hd, rfl⟩ : ∃ d, d < 2 ∧ sd = nI d := by
        refine hasB_nI' (n := 2) (by omega) ?_
        rw [hasB_in _ (by omega)]
        exact hw
      have vp := vw.2.2.1 k hk
      obtain ⟨q0, q3', q4, -⟩ := iv.2.2.1 k hk
      have x2 := aPl at1 (p := k) (x := 2) (by omega) (by omega)
      rw [vp.2.2.1] at x2
      have o2 := fun (hm : zH) (g SV : Nat → Int32) => ofP2 (h := hM hm (t + 387) g R SV TX T AS) hM_1 (p := k) (by omega)
      have dO := fun (hm : zH) (g : Nat → Int32) => X7_depthOf (h := hM hm (t + 387) g R SV TX T AS) (S := R 1) (p := k) hM_1 (by omega) (c := nI d) rfl hd
      have lO := fun (hm : zH) (g : Nat → Int32) => X7_leftOver (h := hM hm (t + 387) g R SV TX T AS) (S := R 1) (p := k) hM_1 (by omega) (c := nI d) rfl hd 0 (dP (R 1) k d + 1)
      have cg := X4_canBeGround (h := h) (a_p at1 (show k < 20 by omega)) (nI d) 0
      rw [gnd_view vp hd q3' q4 0] at cg
      have dp0 : 0 ≤ dP (R 1) k d := by
        rcases (show d = 0 ∨ d = 1 by omega) with rfl | rfl
        · exact q3'
        · exact q4
      have gm : gndM (R 1) k d 0 = (!z_eq (dP (R 1) k d) && !o_lt (loM (R 1) k d 0 (dP (R 1) k d + 1)) 2) := by
        simp only [gndM, z_eq, o_lt]
        congr 1
        · rw [← decide_not]
          exact decide_eq_decide.mpr (i_pos dp0)
        · rw [← decide_not]
          exact decide_eq_decide.mpr (by rw [i_le, i_lt]; omega)
      have a1 : isO h 4 (t + 1 + 4 + k) = true := aPi at1 (by omega)
      have early : ∀ (_ : (z_ne (sP (R 1) k 2) || !gndM (R 1) k d 0) = true), ∃ v h1 h2, fX6_grind (.ref t :: [.int (nI k), .int (nI d)]) h = some (v, h1) ∧ fX7_grind (.ref (t + 387) :: [.int (nI k), .int (nI d)]) h1 = some (v, h2) ∧ Rl h2 b L' xs t ∧ h1.2 b = some (xS L' xs) ∧ isO h1 7 (t + 387) = true := fun hb => by
        refine close0 (v := -2) (g' := upd g 0 0) top at1 vw iv ir his txt fcs md g4 g6 ?_ (fun hm => ?_) (by simp [upd]) (by simp [upd])
        · cases z0 : z_ne (sP (R 1) k 2) with
          | true => simp [fX6_grind, bX6_grind, mI, sSeq, sIf, bOr, bNot, bZ, eCV, rF, rL, tp0 top, aI, eL, aN, aIs at1, q1, z_ne_bI, eCS, X6_isWithin, hw, sNop, eC, zCut, sLr, rQ, aS0 at1, aQp at1 (show k < 20 by omega), zSt, eF, x2, z0, sRi]
          | false =>
            rw [z0] at hb
            have hg : gndM (R 1) k d 0 = false := by simpa using hb
            rw [hg] at cg
            simp [fX6_grind, bX6_grind, mI, sSeq, sIf, bOr, bNot, bZ, eCV, rF, rL, tp0 top, aI, eL, aN, aIs at1, q1, z_ne_bI, eCS, X6_isWithin, hw, sNop, eC, zCut, sLr, rQ, aS0 at1, aQp at1 (show k < 20 by omega), zSt, eF, x2, z0, a1, cg, sRi]
        · cases z0 : z_ne (sP (R 1) k 2) with
          | true => simp [fX7_grind, bX7_grind, mI, sSeq, sF, rL, eC, wMo0, sIf, bOr, bNot, bZ, eCV, aI, eL, aN, isMo, q2, z_ne_bI, eCS, X7_in, hw, sNop, zCut, sLi, aR, rF, rMr1, dO, zSt, o2, z0, sRi]
          | false =>
            rw [z0, gm] at hb
            cases z1 : z_eq (dP (R 1) k d) with
            | true => simp [fX7_grind, bX7_grind, mI, sSeq, sF, rL, eC, wMo0, sIf, bOr, bNot, bZ, eCV, aI, eL, aN, isMo, q2, z_ne_bI, eCS, X7_in, hw, sNop, zCut, sLi, aR, rF, rMr1, dO, zSt, o2, z0, z1, sRi]
            | false =>
              rw [z1] at hb
              have z2 : o_lt (loM (R 1) k d 0 (dP (R 1) k d + 1)) 2 = true := by simpa using hb
              simp [fX7_grind, bX7_grind, mI, sSeq, sF, rL, eC, wMo0, sIf, bOr, bNot, bZ, eCV, aI, eL, aN, isMo, q2, z_ne_bI, eCS, X7_in, hw, sNop, zCut, sLi, aR, rF, rMr1, dO, zSt, o2, z0, z1, bCmp, eOp, lO, z2, sRi]
      cases hb : (z_ne (sP (R 1) k 2) || !gndM (R 1) k d 0) with
      | true => exact early hb
      | false =>
        have z0 : z_ne (sP (R 1) k 2) = false := by
          cases z : z_ne (sP (R 1) k 2) with
          | true => rw [z] at hb; simp at hb
          | false => rfl
        have hg : gndM (R 1) k d 0 = true := by rw [z0] at hb; simpa using hb
        rw [hg] at cg
        have gm' := gm
        rw [hg] at gm'
        have z1 : z_eq (dP (R 1) k d) = false := by
          cases z : z_eq (dP (R 1) k d) with
          | true => rw [z] at gm'; simp at gm'
          | false => rfl
        have z2 : o_lt (loM (R 1) k d 0 (dP (R 1) k d + 1)) 2 = false := by
          rw [z1] at gm'
          cases z : o_lt (loM (R 1) k d 0 (dP (R 1) k d + 1)) 2 with
          | true => rw [z] at gm'; simp at gm'
          | false => rfl
        obtain ⟨h1, r1, top1, at2, his1, txt1, fcs1, md1⟩ := both_rec top at1 vw iv ir his txt fcs md
        obtain ⟨v1, i1⟩ := grind_view vw iv hk hd
        have e1 : (va_up R 1 (opGrind (R 1) k d)) 1 = opGrind (R 1) k d := up_self _ _
        have gr := X5_grindSide (h := h1) (lo := t + 1) (s := s) (P := P) (pf := pf) (pi := pi) (O := O) (N := N) (L := L) (p := k) (by omega) (nI d)
        rw [At_eq at2] at gr
        have y1 := rpl1 (h := h1) (lo := t + 1) (s := upd s 12 (s 12 + 1)) (P := va_up P k (pGr (P k) (nI d))) (pf := pf) (pi := pi) (O := O) (N := N) (L := L) (p := k) (by omega)
        have vq := (v1.2.2.1 k hk).2.1
        rw [vq] at y1
        refine close1 (v := sP (opGrind (R 1) k d) k 1) (g' := upd (upd g 0 0) 4 (nI (acN nh + 1))) (R' := va_up R 1 (opGrind (R 1) k d)) (T' := T) (AS' := AS) top1 his1 txt1 fcs1 md1 (by rw [e1]; exact v1) (by rw [e1]; exact i1) (by rw [e1]; exact R_same ir (fun j => opGrind_hd' (by omega) (by omega) hd)) (by rw [upd_self]) (by simp [upd, g6]) ?_ (fun hm => ?_)
        · simp [fX6_grind, bX6_grind, mI, sSeq, sIf, bOr, bNot, bZ, eCV, rF, rL, tp0 top, aI, eL, aN, aIs at1, q1, z_ne_bI, eCS, X6_isWithin, hw, sNop, eC, zCut, sLr, rQ, aS0 at1, aQp at1 (show k < 20 by omega), zSt, eF, x2, z0, a1, cg, sCV, tp1 top, aR, hIs, r1, tp0 top1, aIs at2, gr, y1, sRi]
        · have ac := X7_act (h := hm) (m := t + 387) (g := upd g 0 0) (R := R) (SV := SV) (TX := TX) (T := T) (AS := AS) (nn := nh) (by rw [upd_ne (by omega)]; exact g4) hnh
          have dO' := dO hm (upd g 0 0)
          have lO' := lO hm (upd g 0 0)
          have o2' := o2 hm (upd g 0 0) SV
          generalize hg' : upd (upd g 0 0) 4 (nI (acN nh + 1)) = g' at *
          generalize hV : acV SV (R 1) nh = V at *
          have st := X7_grindSide (h := hm) (m := t + 387) (g := g') (R := R) (SV := V) (TX := TX) (T := T) (AS := AS) (j := k) (c := nI d) (i := 1) (.inl rfl) (by omega) rfl hd
          have p1 := ofP1 (h := hM hm (t + 387) g' (va_up R 1 (opGrind (R 1) k d)) V TX T AS) (hM_r (i := 1) (.inl rfl)) (p := k) (by omega)
          rw [e1] at p1
          simp [fX7_grind, bX7_grind, mI, sSeq, sF, rL, eC, wMo0, sIf, bOr, bNot, bZ, eCV, aI, eL, aN, isMo, q2, z_ne_bI, eCS, X7_in, hw, sNop, zCut, sLi, aR, rF, rMr1, dO', zSt, o2', z0, z1, bCmp, eOp, lO', z2, sCV, ac, sCS, st, p1, sRi]
end ZC4
