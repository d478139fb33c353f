/-! the commands: cut, addShield, takeOff, spoil, grind -/
section ZC2
variable {h : zH} {b L' t nS nP nO c nh nt : Nat} {xs : Nat → Int32} {S s pf N TX S0 : Nat → Int32} {P O L : Nat → Nat → Int32} {pi : Nat → Nat} {V : Nat → Nat → Int32}
theorem bad_cut {w th : Int32} (hw : (decide (10 ≤ w) && decide (w ≤ 200)) = false) : fX6_cut [.ref t, .int w, .int th] h = some (-1, h) := by
  simp [fX6_cut, bX6_cut, mI, sSeq, sIf, bOr, bNot, bZ, eCS, aI, eL, eC, aN, X6_isWithin, hw, z_ne_bI, zCut, sRi]
set_option maxRecDepth 100000 in
theorem no_cut {w th : Int32} (r : Rw h b L' xs t S nt TX) (iv : Iv S nS nP nO) (hw : (decide (10 ≤ w) && decide (w ≤ 200)) = true) (ht : (decide (5 ≤ th) && decide (th ≤ 30)) = true) (hn : nP = 20) : fX6_cut [.ref t, .int w, .int th] h = some (-3, h) := by
  obtain ⟨top, shw, his, txt, fcs⟩ := r
  obtain ⟨s, P, pf, pi, O, N, L, at1, vw⟩ := shw_at shw iv
  have x3 : rdI h 5 3 (t + 1) = some (nI nP) := by rw [aSx at1 (by omega) (by omega), vw.1.1, iv.1.2.1]
  have d1' : o_ge (nI nP) 20 = true := by rw [dec_20 iv.1.2.2.2.2.1, decide_eq_true hn]
  simp [fX6_cut, bX6_cut, mI, sSeq, sIf, bOr, bNot, bZ, eCS, aI, eL, eC, aN, X6_isWithin, hw, ht, z_ne_bI, sNop, zCut, bCmp, eF, rF, rL, tp0 top, x3, d1', sRi]
set_option maxRecDepth 100000 in
theorem do_cut {w th : Int32} (r : Rw h b L' xs t S nt TX) (iv : Iv S nS nP nO) (ir : IvR S nO c) (hw : (decide (10 ≤ w) && decide (w ≤ 200)) = true) (ht : (decide (5 ≤ th) && decide (th ≤ 30)) = true) (hn : nP < 20) :
    ∃ h1, fX6_cut [.ref t, .int w, .int th] h = some (nI nP, h1) ∧ Ru h1 b L' xs t (opCut S nP w th) nt TX S ∧ Iv (opCut S nP w th) nS (nP + 1) nO ∧ IvR (opCut S nP w th) nO c := by
  obtain ⟨top, shw, ⟨nh, V, his⟩, txt, fcs⟩ := r
  obtain ⟨s, P, pf, pi, O, N, L, at1, vw⟩ := shw_at shw iv
  have hIs := his_is his
  have s3 : s 3 = nI nP := by rw [vw.1.1, iv.1.2.1]
  have x3 : rdI h 5 3 (t + 1) = some (nI nP) := by rw [aSx at1 (by omega) (by omega), s3]
  have d1 := dec_20 (nP := nP) (by omega)
  rw [decide_eq_false (by omega)] at d1
  obtain ⟨h1, r1, top1, at2, his1, txt1, fcs1⟩ := one_rec top at1 vw iv ir his txt fcs
  have hw0 : 0 ≤ w := by
    simp only [Bool.and_eq_true, decide_eq_true_eq] at hw
    exact Int32.le_trans (by decide) hw.1
  obtain ⟨v1, i1⟩ := cut_view (w := w) (t := th) vw iv hn hw0
  have ir1 : IvR (opCut S nP w th) nO c := ⟨ir.1, fun j hj => by
    rw [show sO (opCut S nP w th) j 4 = sO S j 4 by simp only [sO]; rw [opCut_hd (by omega) hn, if_neg (by omega)]]
    exact ir.2 j hj⟩
  have ad := X5_addPlate (h := h1) (lo := t + 1) (s := s) (P := P) (pf := pf) (pi := pi) (O := O) (N := N) (L := L) s3 hn w th
  rw [At_eq at2] at ad
  refine ⟨_, ?_, asm top1 his1 txt1 fcs1 v1 i1 ir1, i1, ir1⟩
  simp [fX6_cut, bX6_cut, mI, sSeq, sIf, bOr, bNot, bZ, eCS, aI, eL, eC, aN, X6_isWithin, hw, ht, z_ne_bI, sNop, zCut, bCmp, eF, rF, rL, tp0 top, x3, d1, sCV, tp1 top, aR, hIs, r1, eCV, tp0 top1, aIs at2, ad, sRi]
theorem bad_addShield {w : Int32} (hw : (decide (2 ≤ w) && decide (w ≤ 6)) = false) : fX6_addShield [.ref t, .int w] h = some (-1, h) := by
  simp [fX6_addShield, bX6_addShield, mI, sSeq, sIf, bNot, bZ, eCS, aI, eL, eC, aN, X6_isWithin, hw, z_ne_bI, zCut, sRi]
set_option maxRecDepth 100000 in
theorem do_addShield {w : Int32} (r : Rw h b L' xs t S nt TX) (iv : Iv S nS nP nO) (ir : IvR S nO c) (hw : (decide (2 ≤ w) && decide (w ≤ 6)) = true) (hn : nS < 3) :
    ∃ h1, fX6_addShield [.ref t, .int w] h = some (nI nS, h1) ∧ Ru h1 b L' xs t (opHang S nS w) nt TX S ∧ Iv (opHang S nS w) (nS + 1) nP nO ∧ IvR (opHang S nS w) nO c := by
  obtain ⟨top, shw, ⟨nh, V, his⟩, txt, fcs⟩ := r
  obtain ⟨s, P, pf, pi, O, N, L, at1, vw⟩ := shw_at shw iv
  have hIs := his_is his
  have s4 : s 4 = nI nS := by rw [vw.1.2.1, iv.1.1]
  have x4 : rdI h 5 4 (t + 1) = some (nI nS) := by rw [aSx at1 (by omega) (by omega), s4]
  have d1 := dec_3 (nS := nS) (by omega)
  rw [decide_eq_false (by omega)] at d1
  obtain ⟨h1, r1, top1, at2, his1, txt1, fcs1⟩ := one_rec top at1 vw iv ir his txt fcs
  obtain ⟨v1, i1⟩ := hang_view (w := w) vw iv hn
  have ir1 : IvR (opHang S nS w) nO c := R_same ir (fun j => by simp only [sO, opHang]; rw [upd_ne (by omega), upd_ne (by omega)])
  have ad := X5_hangShield (h := h1) (lo := t + 1) (s := s) (P := P) (pf := pf) (pi := pi) (O := O) (N := N) (L := L) s4 hn w
  rw [At_eq at2] at ad
  refine ⟨_, ?_, asm top1 his1 txt1 fcs1 v1 i1 ir1, i1, ir1⟩
  simp [fX6_addShield, bX6_addShield, mI, sSeq, sIf, bNot, bZ, eCS, aI, eL, eC, aN, X6_isWithin, hw, z_ne_bI, sNop, zCut, bCmp, eF, rF, rL, tp0 top, x4, d1, sCV, tp1 top, aR, hIs, r1, eCV, tp0 top1, aIs at2, ad, sRi]
set_option maxRecDepth 100000 in
/-- nothing stands on the shield in that year -/
theorem no_takeOff {j : Nat} {y : Int32} (r : Rw h b L' xs t S nt TX) (iv : Iv S nS nP nO) (hj : j < nS) (hy : (decide (1 ≤ y) && decide (y ≤ 999)) = true) (hl : lastO (onY S (nI j) y) nP = none) : fX6_takeOff [.ref t, .int (nI j), .int y] h = some (-2, h) := by
  obtain ⟨top, shw, -, txt, fcs⟩ := r
  obtain ⟨s, P, pf, pi, O, N, L, at1, vw⟩ := shw_at shw iv
  obtain ⟨c0, c1, c2, c3, c4, c5⟩ := iv.1
  have q1 := sh_one at1 vw iv (nI j)
  rw [hasB_nI (by omega) (by omega), decide_eq_true hj] at q1
  have cp := X5_plateOfYear (h := h) (lo := t + 1) (s := s) (P := P) (pf := pf) (pi := pi) (O := O) (N := N) (L := L) (by rw [vw.1.1, c1]) c4 (nI j) y
  rw [At_eq at1, plateOf_view vw.2.2.1 iv.2.2.2.2 (show j < 2 ^ 31 by omega) y, hl] at cp
  simp only [toI] at cp
  have z1 := pl_one at1 vw iv (-9)
  rw [hasB_9] at z1
  simp [fX6_takeOff, bX6_takeOff, mI, sSeq, sIf, bOr, bNot, bZ, eCV, rF, rL, tp0 top, aI, eL, aN, aIs at1, q1, z_ne_bI, eCS, X6_isYear, hy, sNop, zCut, sLi, cp, zSt, z1, eC, sRi]
set_option maxRecDepth 100000 in
theorem do_takeOff {j k : Nat} {y : Int32} (r : Rw h b L' xs t S nt TX) (iv : Iv S nS nP nO) (ir : IvR S nO c) (hj : j < nS) (hy : (decide (1 ≤ y) && decide (y ≤ 999)) = true) (hl : lastO (onY S (nI j) y) nP = some k) :
    ∃ h1, fX6_takeOff [.ref t, .int (nI j), .int y] h = some (nI k, h1) ∧ Ru h1 b L' xs t (upd S (10 + 7 * k + 2) 0) nt TX S ∧ Iv (upd S (10 + 7 * k + 2) 0) nS nP nO ∧ IvR (upd S (10 + 7 * k + 2) 0) nO c := by
  obtain ⟨top, shw, ⟨nh, V, his⟩, txt, fcs⟩ := r
  obtain ⟨s, P, pf, pi, O, N, L, at1, vw⟩ := shw_at shw iv
  have hIs := his_is his
  obtain ⟨c0, c1, c2, c3, c4, c5⟩ := iv.1
  have q1 := sh_one at1 vw iv (nI j)
  rw [hasB_nI (by omega) (by omega), decide_eq_true hj] at q1
  have cp := X5_plateOfYear (h := h) (lo := t + 1) (s := s) (P := P) (pf := pf) (pi := pi) (O := O) (N := N) (L := L) (by rw [vw.1.1, c1]) c4 (nI j) y
  rw [At_eq at1, plateOf_view vw.2.2.1 iv.2.2.2.2 (show j < 2 ^ 31 by omega) y, hl] at cp
  simp only [toI] at cp
  obtain ⟨hk, hb⟩ := lastO_lt hl
  have h2 : sP S k 2 = 2 := by
    simp only [onY, onS, Bool.and_eq_true, decide_eq_true_eq] at hb
    exact hb.1.1
  have zp := pl_one at1 vw iv (nI k)
  rw [hasB_nI (by omega) (by omega), decide_eq_true hk] at zp
  obtain ⟨h1, r1, top1, at2, his1, txt1, fcs1⟩ := one_rec top at1 vw iv ir his txt fcs
  obtain ⟨v1, i1⟩ := dr_view vw iv hk (.inl (by rw [h2]; decide))
  have ir1 : IvR (upd S (10 + 7 * k + 2) 0) nO c := R_same ir (fun j => sO_upd (by omega))
  have dr := X4_putIntoDrawer (h := hS h1 (t + 1) s P pf pi O N L) (s_p (show k < 20 by omega))
  rw [ws_p (show k < 20 by omega), At_eq at2] at dr
  refine ⟨_, ?_, asm top1 his1 txt1 fcs1 v1 i1 ir1, i1, ir1⟩
  simp [fX6_takeOff, bX6_takeOff, mI, sSeq, sIf, bOr, bNot, bZ, eCV, rF, rL, tp0 top, aI, eL, aN, aIs at1, q1, z_ne_bI, eCS, X6_isYear, hy, sNop, zCut, sLi, cp, zSt, zp, sCV, tp1 top, aR, hIs, r1, rQ, tp0 top1, aS0 at2, aQp at2 (show k < 20 by omega), aPi at2 (show k < 20 by omega), dr, drP, sRi]
set_option maxRecDepth 100000 in
theorem no_spoil {k : Nat} (r : Rw h b L' xs t S nt TX) (iv : Iv S nS nP nO) (hk : k < nP) (hz : sP S k 2 ≠ 0) : fX6_spoil [.ref t, .int (nI k)] h = some (-2, h) := by
  obtain ⟨top, shw, -, txt, fcs⟩ := r
  obtain ⟨s, P, pf, pi, O, N, L, at1, vw⟩ := shw_at shw iv
  obtain ⟨c0, c1, c2, c3, c4, c5⟩ := iv.1
  have q1 := pl_one at1 vw iv (nI k)
  rw [hasB_nI (by omega) (by omega), decide_eq_true hk] at q1
  have vp := vw.2.2.1 k hk
  have x2 := aPl at1 (p := k) (x := 2) (by omega) (by omega)
  rw [vp.2.2.1] at x2
  have z0 : z_ne (sP S k 2) = true := by simp [z_ne, hz]
  simp [fX6_spoil, bX6_spoil, mI, sSeq, sIf, bNot, bZ, eCV, rF, rL, tp0 top, aI, eL, aN, aIs at1, q1, z_ne_bI, eC, zCut, sNop, sLr, rQ, aS0 at1, aQp at1 (show k < 20 by omega), zSt, eF, x2, z0, sRi]
set_option maxRecDepth 100000 in
theorem do_spoil {k : Nat} (r : Rw h b L' xs t S nt TX) (iv : Iv S nS nP nO) (ir : IvR S nO c) (hk : k < nP) (hz : sP S k 2 = 0) :
    ∃ h1, fX6_spoil [.ref t, .int (nI k)] h = some (cnt (inS (upd S (10 + 7 * k + 2) 3) 3) nP, h1) ∧ Ru h1 b L' xs t (upd S (10 + 7 * k + 2) 3) nt TX S ∧ Iv (upd S (10 + 7 * k + 2) 3) nS nP nO ∧ IvR (upd S (10 + 7 * k + 2) 3) nO c := by
  obtain ⟨top, shw, ⟨nh, V, his⟩, txt, fcs⟩ := r
  obtain ⟨s, P, pf, pi, O, N, L, at1, vw⟩ := shw_at shw iv
  have hIs := his_is his
  obtain ⟨c0, c1, c2, c3, c4, c5⟩ := iv.1
  have q1 := pl_one at1 vw iv (nI k)
  rw [hasB_nI (by omega) (by omega), decide_eq_true hk] at q1
  have vp := vw.2.2.1 k hk
  have x2 := aPl at1 (p := k) (x := 2) (by omega) (by omega)
  rw [vp.2.2.1] at x2
  have z0 : z_ne (sP S k 2) = false := by simp [z_ne, hz]
  obtain ⟨h1, r1, top1, at2, his1, txt1, fcs1⟩ := one_rec top at1 vw iv ir his txt fcs
  obtain ⟨v1, i1⟩ := spoil_view vw iv hk hz
  have ir1 : IvR (upd S (10 + 7 * k + 2) 3) nO c := R_same ir (fun j => sO_upd (by omega))
  have pin := platesIn_view v1.2.2.1 3
  have s3 : s 3 = nI nP := by rw [vw.1.1, c1]
  have cl := X5_platesIn (h := h1) (lo := t + 1) (s := s) (P := va_up P k (upd (P k) 2 3)) (pf := pf) (pi := pi) (O := O) (N := N) (L := L) s3 c4 3
  rw [pin] at cl
  have wp := wp2 (h := h1) (lo := t + 1) (s := s) (P := P) (pf := pf) (pi := pi) (O := O) (N := N) (L := L) (p := k) (by omega) 3
  rw [At_eq at2] at wp
  have tq : rdR (hS h1 (t + 1) s (va_up P k (upd (P k) 2 3)) pf pi O N L) 6 0 t = some (t + 1) := rdR_of (by rw [hS_ne (by omega)]; exact top1.2.2) rfl
  refine ⟨_, ?_, asm top1 his1 txt1 fcs1 v1 i1 ir1, i1, ir1⟩
  simp [fX6_spoil, bX6_spoil, mI, sSeq, sIf, bNot, bZ, eCV, rF, rL, tp0 top, aI, eL, aN, aIs at1, q1, z_ne_bI, eC, zCut, sNop, sLr, rQ, aS0 at1, aQp at1 (show k < 20 by omega), zSt, eF, x2, z0, sCV, tp1 top, aR, hIs, r1, sF, wp, tq, isS, cl, sRi]
theorem side_ok {d : Nat} (hd : d < 2) : (decide (0 ≤ nI d) && decide (nI d ≤ 1)) = true := by
  rcases (show d = 0 ∨ d = 1 by omega) with rfl | rfl <;> decide
set_option maxRecDepth 100000 in
theorem no_grind {k d : Nat} (r : Rw h b L' xs t S nt TX) (iv : Iv S nS nP nO) (hk : k < nP) (hd : d < 2) (hb : ¬ (sP S k 2 = 0 ∧ gndM S k d 0 = true)) : fX6_grind [.ref t, .int (nI k), .int (nI d)] h = some (-2, h) := by
  obtain ⟨top, shw, -, txt, fcs⟩ := r
  obtain ⟨s, P, pf, pi, O, N, L, at1, vw⟩ := shw_at shw iv
  obtain ⟨c0, c1, c2, c3, c4, c5⟩ := iv.1
  have q1 := pl_one at1 vw iv (nI k)
  rw [hasB_nI (by omega) (by omega), decide_eq_true hk] at q1
  have hw := side_ok hd
  have vp := vw.2.2.1 k hk
  obtain ⟨q0, q3', q4, -⟩ := iv.2.2.1 k hk
  have x2 := aPl at1 (p := k) (x := 2) (by omega) (by omega)
  rw [vp.2.2.1] at x2
  have cg := X4_canBeGround (h := h) (a_p at1 (show k < 20 by omega)) (nI d) 0
  rw [gnd_view vp hd q3' q4 0] at cg
  have a1 : isO h 4 (t + 1 + 4 + k) = true := aPi at1 (by omega)
  by_cases hz : sP S k 2 = 0
  · have z0 : z_ne (sP S k 2) = false := by simp [z_ne, hz]
    have hg : gndM S k d 0 = false := by
      cases q : gndM S k d 0 with
      | true => exact absurd ⟨hz, q⟩ hb
      | false => rfl
    rw [hg] at cg
    simp [fX6_grind, bX6_grind, mI, sSeq, sIf, bOr, bNot, bZ, eCV, rF, rL, tp0 top, aI, eL, aN, aIs at1, q1, z_ne_bI, eCS, X6_isWithin, hw, sNop, eC, zCut, sLr, rQ, aS0 at1, aQp at1 (show k < 20 by omega), zSt, eF, x2, z0, a1, cg, sRi]
  · have z0 : z_ne (sP S k 2) = true := by simp [z_ne, hz]
    simp [fX6_grind, bX6_grind, mI, sSeq, sIf, bOr, bNot, bZ, eCV, rF, rL, tp0 top, aI, eL, aN, aIs at1, q1, z_ne_bI, eCS, X6_isWithin, hw, sNop, eC, zCut, sLr, rQ, aS0 at1, aQp at1 (show k < 20 by omega), zSt, eF, x2, z0, sRi]
set_option maxRecDepth 100000 in
theorem do_grind {k d : Nat} (r : Rw h b L' xs t S nt TX) (iv : Iv S nS nP nO) (ir : IvR S nO c) (hk : k < nP) (hd : d < 2) (hz : sP S k 2 = 0) (hg : gndM S k d 0 = true) :
    ∃ h1, fX6_grind [.ref t, .int (nI k), .int (nI d)] h = some (sP (opGrind S k d) k 1, h1) ∧ Ru h1 b L' xs t (opGrind S k d) nt TX S ∧ Iv (opGrind S k d) nS nP nO ∧ IvR (opGrind S k d) nO c := by
  obtain ⟨top, shw, ⟨nh, V, his⟩, txt, fcs⟩ := r
  obtain ⟨s, P, pf, pi, O, N, L, at1, vw⟩ := shw_at shw iv
  have hIs := his_is his
  obtain ⟨c0, c1, c2, c3, c4, c5⟩ := iv.1
  have q1 := pl_one at1 vw iv (nI k)
  rw [hasB_nI (by omega) (by omega), decide_eq_true hk] at q1
  have hw := side_ok hd
  have vp := vw.2.2.1 k hk
  obtain ⟨q0, q3', q4, -⟩ := iv.2.2.1 k hk
  have x2 := aPl at1 (p := k) (x := 2) (by omega) (by omega)
  rw [vp.2.2.1] at x2
  have cg := X4_canBeGround (h := h) (a_p at1 (show k < 20 by omega)) (nI d) 0
  rw [gnd_view vp hd q3' q4 0, hg] at cg
  have a1 : isO h 4 (t + 1 + 4 + k) = true := aPi at1 (by omega)
  have z0 : z_ne (sP S k 2) = false := by simp [z_ne, hz]
  obtain ⟨h1, r1, top1, at2, his1, txt1, fcs1⟩ := one_rec top at1 vw iv ir his txt fcs
  obtain ⟨v1, i1⟩ := grind_view vw iv hk hd
  have ir1 : IvR (opGrind S k d) nO c := R_same ir (fun j => opGrind_hd' (by omega) (by omega) hd)
  have gr := X5_grindSide (h := h1) (lo := t + 1) (s := s) (P := P) (pf := pf) (pi := pi) (O := O) (N := N) (L := L) (p := k) (by omega) (nI d)
  rw [At_eq at2] at gr
  have y1 := rpl1 (h := h1) (lo := t + 1) (s := upd s 12 (s 12 + 1)) (P := va_up P k (pGr (P k) (nI d))) (pf := pf) (pi := pi) (O := O) (N := N) (L := L) (p := k) (by omega)
  rw [(v1.2.2.1 k hk).2.1] at y1
  refine ⟨_, ?_, asm top1 his1 txt1 fcs1 v1 i1 ir1, i1, ir1⟩
  simp [fX6_grind, bX6_grind, mI, sSeq, sIf, bOr, bNot, bZ, eCV, rF, rL, tp0 top, aI, eL, aN, aIs at1, q1, z_ne_bI, eCS, X6_isWithin, hw, sNop, eC, zCut, sLr, rQ, aS0 at1, aQp at1 (show k < 20 by omega), zSt, eF, x2, z0, a1, cg, sCV, tp1 top, aR, hIs, r1, tp0 top1, aIs at2, gr, y1, sRi]
end ZC2
