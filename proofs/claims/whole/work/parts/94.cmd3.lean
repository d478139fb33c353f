/-! the commands: addShield, takeOff, clearText, append -/
section ZC3
variable {h : zH} {b L' t nS nP nO c nh nt : Nat} {xs : Nat → Int32} {s pf N g SV TX AS : Nat → Int32} {P O L R T : Nat → Nat → Int32} {pi : Nat → Nat}
theorem dec_3 (hn : nS ≤ 3) : o_ge (nI nS) 3 = decide (nS = 3) ∧ o_eq (nI nS) 3 = decide (nS = 3) := by
  constructor
  · simp only [o_ge, show (3 : Int32) = nI 3 from rfl, nI_leI (show 3 < 2 ^ 31 by omega) (show nS < 2 ^ 31 by omega)]
    exact decide_eq_decide.mpr (by omega)
  · simp only [o_eq, show (3 : Int32) = nI 3 from rfl, nI_eqI (show nS < 2 ^ 31 by omega) (show 3 < 2 ^ 31 by omega)]
theorem X6_isYear (h : zH) (v : Int32) : fX6_isYear [.int v] h = some (bI (decide (1 ≤ v) && decide (v ≤ 999)), h) := X7_isYear h v
set_option maxRecDepth 100000 in
set_option maxHeartbeats 1000000 in
theorem cmd_addShield (w : Int32) : Cmd fX6_addShield fX7_addShield [.int w] := by
  intro h b L' xs t rl
  obtain ⟨g, R, SV, TX, T, AS, nh, nt, top, ⟨s, P, pf, pi, O, N, L, nS, nP, nO, c, at1, vw, iv, ir⟩, his, txt, fcs, md, g4, g6⟩ := rl
  have hnh := his_le his
  have hIs := his_is his
  obtain ⟨c0, c1, c2, c3, c4, c5⟩ := iv.1
  have s4 : s 4 = nI nS := by rw [vw.1.2.1, c0]
  have x4 : rdI h 5 4 (t + 1) = some (nI nS) := by rw [aSx at1 (by omega) (by omega), s4]
  obtain ⟨d1, d2⟩ := dec_3 (nS := nS) c3
  have a0 := fun (hm : zH) (g SV : Nat → Int32) => hd0 (h := hM hm (t + 387) g R SV TX T AS) (hM_r (i := 1) (.inl rfl))
  cases hw : (decide (2 ≤ w) && decide (w ≤ 6)) with
  | false =>
    refine close0 (v := -1) (g' := upd g 0 0) top at1 vw iv ir his txt fcs md g4 g6 ?_ (fun hm => ?_) (by simp [upd]) (by simp [upd])
    · simp [fX6_addShield, bX6_addShield, mI, sSeq, sIf, bNot, bZ, eCS, aI, eL, eC, aN, X6_isWithin, hw, z_ne_bI, zCut, sRi]
    · simp [fX7_addShield, bX7_addShield, mI, sSeq, sF, rL, eC, wMo0, sIf, bNot, bZ, eCS, aI, eL, aN, X7_in, hw, z_ne_bI, zCut, sRi]
  | true =>
    by_cases hn : nS = 3
    · have d1' : o_ge (nI nS) 3 = true := by rw [d1, decide_eq_true hn]
      have d2' : o_eq (nI nS) 3 = true := by rw [d2, decide_eq_true hn]
      refine close0 (v := -3) (g' := upd g 0 0) top at1 vw iv ir his txt fcs md g4 g6 ?_ (fun hm => ?_) (by simp [upd]) (by simp [upd])
      · simp [fX6_addShield, bX6_addShield, mI, sSeq, sIf, bNot, bZ, eCS, aI, eL, eC, aN, X6_isWithin, hw, z_ne_bI, sNop, zCut, bCmp, eF, rF, rL, tp0 top, x4, d1', sRi]
      · simp [fX7_addShield, bX7_addShield, mI, sSeq, sF, rL, eC, wMo0, sIf, bNot, bZ, eCS, aI, eL, aN, X7_in, hw, z_ne_bI, sNop, zCut, bCmp, eA, rF, rMr1, a0, c0, d2', sRi]
    · have d1' : o_ge (nI nS) 3 = false := by rw [d1, decide_eq_false hn]
      have d2' : o_eq (nI nS) 3 = false := by rw [d2, decide_eq_false hn]
      have hn3 : nS < 3 := by omega
      obtain ⟨h1, r1, top1, at2, his1, txt1, fcs1, md1⟩ := both_rec top at1 vw iv ir his txt fcs md
      obtain ⟨v1, i1⟩ := hang_view (w := w) vw iv hn3
      have e1 : (va_up R 1 (opHang (R 1) nS w)) 1 = opHang (R 1) nS w := up_self _ _
      have ad := X5_hangShield (h := h1) (lo := t + 1) (s := s) (P := P) (pf := pf) (pi := pi) (O := O) (N := N) (L := L) s4 hn3 w
      rw [At_eq at2] at ad
      refine close1 (v := nI nS) (g' := upd (upd g 0 0) 4 (nI (acN nh + 1))) (R' := va_up R 1 (opHang (R 1) nS w)) (T' := T) (AS' := AS) top1 his1 txt1 fcs1 md1 (by rw [e1]; exact v1) (by rw [e1]; exact i1) (by rw [e1]; exact R_same ir (fun j => by simp only [sO, opHang]; rw [upd_ne (by omega), upd_ne (by omega)])) (by rw [upd_self]) (by simp [upd, g6]) ?_ (fun hm => ?_)
      · simp [fX6_addShield, bX6_addShield, mI, sSeq, sIf, bNot, bZ, eCS, aI, eL, eC, aN, X6_isWithin, hw, z_ne_bI, sNop, zCut, bCmp, eF, rF, rL, tp0 top, x4, d1', sCV, tp1 top, aR, hIs, r1, eCV, tp0 top1, aIs at2, ad, sRi]
      · have ac := X7_act (h := hm) (m := t + 387) (g := upd g 0 0) (R := R) (SV := SV) (TX := TX) (T := T) (AS := AS) (nn := nh) (by rw [upd_ne (by omega)]; exact g4) hnh
        generalize hg' : upd (upd g 0 0) 4 (nI (acN nh + 1)) = g' at *
        generalize hV : acV SV (R 1) nh = V at *
        have w1 := wh150 (h := hM hm (t + 387) g' R V TX T AS) (hM_r (i := 1) (.inl rfl)) hn3 w
        rw [wM_r (.inl rfl)] at w1
        have b0 := hd0 (h := hM hm (t + 387) g' (va_up R 1 (upd (R 1) (150 + nS) w)) V TX T AS) (hM_r (i := 1) (.inl rfl))
        rw [up_self, upd_ne (by omega), c0] at b0
        have w2 := wh0 (h := hM hm (t + 387) g' (va_up R 1 (upd (R 1) (150 + nS) w)) V TX T AS) (hM_r (i := 1) (.inl rfl)) (nI (nS + 1))
        rw [wM_r (.inl rfl), up_self, up_up] at w2
        have b2 := hd0 (h := hM hm (t + 387) g' (va_up R 1 (opHang (R 1) nS w)) V TX T AS) (hM_r (i := 1) (.inl rfl))
        rw [up_self, show opHang (R 1) nS w 0 = nI (nS + 1) by simp only [opHang]; rw [upd_self]] at b2
        rw [show upd (upd (R 1) (150 + nS) w) 0 (nI (nS + 1)) = opHang (R 1) nS w from rfl] at w2
        simp [fX7_addShield, bX7_addShield, mI, sSeq, sF, rL, eC, wMo0, sIf, bNot, bZ, eCS, aI, eL, aN, X7_in, hw, z_ne_bI, sNop, zCut, bCmp, eA, rF, rMr1, a0, c0, d2', sCV, isMo, ac, sA, eOp, w1, sAa, b0, nI_1, w2, b2, sRi, nI_sub1 (y := nS + 1) (by omega)]
set_option maxRecDepth 100000 in
set_option maxHeartbeats 1000000 in
theorem cmd_takeOff (v y : Int32) : Cmd fX6_takeOff fX7_takeOff [.int v, .int y] := by
  intro h b L' xs t rl
  obtain ⟨g, R, SV, TX, T, AS, nh, nt, top, ⟨s, P, pf, pi, O, N, L, nS, nP, nO, c, at1, vw, iv, ir⟩, his, txt, fcs, md, g4, g6⟩ := rl
  have hnh := his_le his
  have hIs := his_is his
  obtain ⟨c0, c1, c2, c3, c4, c5⟩ := iv.1
  have s3 : s 3 = nI nP := by rw [vw.1.1, c1]
  obtain ⟨q, q1, q2, q3⟩ := sh_both (R := R) at1 vw iv v
  cases q with
  | false =>
    refine close0 (v := -1) (g' := upd g 0 0) top at1 vw iv ir his txt fcs md g4 g6 ?_ (fun hm => ?_) (by simp [upd]) (by simp [upd])
    · simp [fX6_takeOff, bX6_takeOff, mI, sSeq, sIf, bOr, bNot, bZ, eCV, rF, rL, tp0 top, aI, eL, aN, aIs at1, q1, z_ne_bI, eC, zCut, sRi]
    · simp [fX7_takeOff, bX7_takeOff, mI, sSeq, sF, rL, eC, wMo0, sIf, bOr, bNot, bZ, eCV, aI, eL, aN, isMo, q2, z_ne_bI, zCut, sRi]
  | true =>
    cases hy : (decide (1 ≤ y) && decide (y ≤ 999)) with
    | false =>
      refine close0 (v := -1) (g' := upd g 0 0) top at1 vw iv ir his txt fcs md g4 g6 ?_ (fun hm => ?_) (by simp [upd]) (by simp [upd])
      · simp [fX6_takeOff, bX6_takeOff, mI, sSeq, sIf, bOr, bNot, bZ, eCV, rF, rL, tp0 top, aI, eL, aN, aIs at1, q1, z_ne_bI, eCS, X6_isYear, hy, eC, zCut, sRi]
      · simp [fX7_takeOff, bX7_takeOff, mI, sSeq, sF, rL, eC, wMo0, sIf, bOr, bNot, bZ, eCV, aI, eL, aN, isMo, q2, z_ne_bI, eCS, X7_isYear, hy, zCut, sRi]
    | true =>
      obtain ⟨j, hj, rfl⟩ := q3 rfl
      have cp := X5_plateOfYear (h := h) (lo := t + 1) (s := s) (P := P) (pf := pf) (pi := pi) (O := O) (N := N) (L := L) s3 c4 (nI j) y
      rw [At_eq at1, plateOf_view vw.2.2.1 iv.2.2.2.2 (show j < 2 ^ 31 by omega) y] at cp
      have rp := fun (hm : zH) (g : Nat → Int32) => X7_plateOn (h := hM hm (t + 387) g R SV TX T AS) (nP := nP) (hM_r (i := 1) (.inl rfl)) c1 c4 (nI j) y
      simp only [lastM_O] at rp
      cases hl : lastO (onY (R 1) (nI j) y) nP with
      | none =>
        rw [hl] at cp
        simp only [hl, toI] at cp rp
        obtain ⟨z, z1, z2, z3⟩ := pl_both (R := R) at1 vw iv (-9)
        have zf : z = false := by
          cases z with
          | false => rfl
          | true => obtain ⟨k, hk, e⟩ := z3 rfl; exact absurd e.symm (nI_ne9 (by omega))
        subst zf
        refine close0 (v := -2) (g' := upd g 0 0) top at1 vw iv ir his txt fcs md g4 g6 ?_ (fun hm => ?_) (by simp [upd]) (by simp [upd])
        · simp [fX6_takeOff, bX6_takeOff, mI, sSeq, sIf, bOr, bNot, bZ, eCV, rF, rL, tp0 top, aI, eL, aN, aIs at1, q1, z_ne_bI, eCS, X6_isYear, hy, sNop, zCut, sLi, cp, zSt, z1, eC, sRi]
        · simp [fX7_takeOff, bX7_takeOff, mI, sSeq, sF, rL, eC, wMo0, sIf, bOr, bNot, bZ, eCV, aI, eL, aN, isMo, q2, z_ne_bI, eCS, X7_isYear, hy, sNop, zCut, sLi, aR, rF, rMr1, rp, zSt, bCmp, o_eq, sRi]
      | some k =>
        rw [hl] at cp
        simp only [hl, toI] at cp rp
        obtain ⟨hk, hb⟩ := lastO_lt hl
        have h2 : sP (R 1) k 2 = 2 := by
          simp only [onY, onS, Bool.and_eq_true, decide_eq_true_eq] at hb
          exact hb.1.1
        have k9 : ¬ nI k = -9 := nI_ne9 (by omega)
        have zp := X5_hasPlate (h := h) (lo := t + 1) (s := s) (P := P) (pf := pf) (pi := pi) (O := O) (N := N) (L := L) (nI k)
        rw [At_eq at1, s3, hasB_nI (by omega) (by omega), decide_eq_true hk] at zp
        obtain ⟨h1, r1, top1, at2, his1, txt1, fcs1, md1⟩ := both_rec top at1 vw iv ir his txt fcs md
        obtain ⟨v1, i1⟩ := dr_view vw iv hk (.inl (by rw [h2]; decide))
        have e1 : (va_up R 1 (upd (R 1) (10 + 7 * k + 2) 0)) 1 = upd (R 1) (10 + 7 * k + 2) 0 := up_self _ _
        have dr := X4_putIntoDrawer (h := hS h1 (t + 1) s P pf pi O N L) (s_p (show k < 20 by omega))
        rw [ws_p (show k < 20 by omega), At_eq at2] at dr
        refine close1 (v := nI k) (g' := upd (upd g 0 0) 4 (nI (acN nh + 1))) (R' := va_up R 1 (upd (R 1) (10 + 7 * k + 2) 0)) (T' := T) (AS' := AS) top1 his1 txt1 fcs1 md1 (by rw [e1]; exact v1) (by rw [e1]; exact i1) (by rw [e1]; exact R_same ir (fun j => sO_upd (by omega))) (by rw [upd_self]) (by simp [upd, g6]) ?_ (fun hm => ?_)
        · simp [fX6_takeOff, bX6_takeOff, mI, sSeq, sIf, bOr, bNot, bZ, eCV, rF, rL, tp0 top, aI, eL, aN, aIs at1, q1, z_ne_bI, eCS, X6_isYear, hy, sNop, zCut, sLi, cp, zSt, zp, sCV, tp1 top, aR, hIs, r1, rQ, tp0 top1, aS0 at2, aQp at2 (show k < 20 by omega), aPi at2 (show k < 20 by omega), dr, drP, sRi]
        · have ac := X7_act (h := hm) (m := t + 387) (g := upd g 0 0) (R := R) (SV := SV) (TX := TX) (T := T) (AS := AS) (nn := nh) (by rw [upd_ne (by omega)]; exact g4) hnh
          have rp' := rp hm (upd g 0 0)
          generalize hg' : upd (upd g 0 0) 4 (nI (acN nh + 1)) = g' at *
          generalize hV : acV SV (R 1) nh = V at *
          have st := X7_set (h := hm) (m := t + 387) (g := g') (R := R) (SV := V) (TX := TX) (T := T) (AS := AS) (j := k) (c := 2) (v := 0) (k := 2) (i := 1) (.inl rfl) (by omega) rfl (by omega)
          simp [fX7_takeOff, bX7_takeOff, mI, sSeq, sF, rL, eC, wMo0, sIf, bOr, bNot, bZ, eCV, aI, eL, aN, isMo, q2, z_ne_bI, eCS, X7_isYear, hy, sNop, zCut, sLi, aR, rF, rMr1, rp', zSt, bCmp, o_eq, k9, sCV, ac, sCS, st, sRi]
end ZC3
