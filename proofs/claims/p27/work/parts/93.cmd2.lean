/-! the commands: clearText, append, hurry, cancel, work, slip, undo, doneIn -/
section ZC5
variable {h : zH} {b L' t nS nP nO c nh nt : Nat} {xs : Nat → Int32} {S s pf N TX S0 : Nat → Int32} {P O L : Nat → Nat → Int32} {pi : Nat → Nat} {V : Nat → Nat → Int32}
/-- the text is changed -/
theorem Rw_text {h1 : zH} {nt' : Nat} {TX' : Nat → Int32} (r : Rw h b L' xs t S nt TX) (k1 : ∀ x, x < t + 327 ∨ t + 329 ≤ x → h1.2 x = h.2 x) (txt : Txt h1 t nt' TX') : Rw h1 b L' xs t S nt' TX' := by
  obtain ⟨top, shw, ⟨nh, V, his⟩, -, fcs⟩ := r
  exact ⟨Top_keep top (fun x hx => k1 x (by omega)), Shw_keep shw (fun x a b => k1 x (by omega)), ⟨nh, V, His_keep his (fun x a b => k1 x (by omega))⟩, txt, Fcs_keep fcs (fun x a b => k1 x (by omega))⟩
set_option maxRecDepth 100000 in
theorem do_clearText (r : Rw h b L' xs t S nt TX) : ∃ h1, fX6_clearText [.ref t] h = some (nI nt, h1) ∧ Rw h1 b L' xs t S 0 (fun _ => 0) := by
  have top := r.1
  have txt := r.2.2.2.1
  have w := wrO_of (v := .int 0) txt.2.1 (k := 1) (by simp)
  have e : [Value.ref (t + 328), Value.int (nI nt)].set 1 (.int 0) = [Value.ref (t + 328), Value.int (nI 0)] := rfl
  rw [e] at w
  obtain ⟨t1, t2, tx, t3, t4⟩ := id txt
  refine ⟨hp h (t + 327) (cNm (t + 328) (nI 0)), ?_, Rw_text r (fun x hx => hp_ne _ _ (by omega)) ⟨by omega, hp_self _ _ _, tx, by rw [hp_ne _ _ (by omega)]; exact t3, fun x hx => by omega⟩⟩
  simp [fX6_clearText, bX6_clearText, mI, sSeq, sLi, eF, rF, rL, tp2 top, tx_1 txt, zSt, sF, eC, w, sRi, eL]
/-- an undo stays possible over a change of the text -/
theorem Ru_text {h1 : zH} {nt' : Nat} {TX' : Nat → Int32} (r : Ru h b L' xs t S nt TX S0) (k1 : ∀ x, x < t + 327 ∨ t + 329 ≤ x → h1.2 x = h.2 x) (txt : Txt h1 t nt' TX') : Ru h1 b L' xs t S nt' TX' S0 := by
  obtain ⟨top, shw, ⟨nh, V, his, e⟩, -, fcs⟩ := r
  exact ⟨Top_keep top (fun x hx => k1 x (by omega)), Shw_keep shw (fun x a b => k1 x (by omega)), ⟨nh, V, His_keep his (fun x a b => k1 x (by omega)), e⟩, txt, Fcs_keep fcs (fun x a b => k1 x (by omega))⟩
theorem bad_append {v : Int32} (hw : (decide (97 ≤ v) && decide (v ≤ 122)) = false) : fX6_append [.ref t, .int v] h = some (-1, h) := by
  simp [fX6_append, bX6_append, mI, sSeq, sIf, bNot, bZ, eCS, aI, eL, eC, aN, X6_isWithin, hw, z_ne_bI, zCut, sRi]
set_option maxRecDepth 100000 in
theorem do_append {v : Int32} (r : Rw h b L' xs t S nt TX) (hw : (decide (97 ≤ v) && decide (v ≤ 122)) = true) (hn : nt < 12) : ∃ h1, fX6_append [.ref t, .int v] h = some (nI (nt + 1), h1) ∧ Rw h1 b L' xs t S (nt + 1) (upd TX nt v) := by
  have top := r.1
  have txt := r.2.2.2.1
  obtain ⟨t1, t2, tx, t3, t4⟩ := id txt
  obtain ⟨d1, -, -⟩ := dec_12 t1
  rw [decide_eq_false (by omega)] at d1
  have ad := X2_add (v := v) t2 t3 hn (by omega)
  generalize hH : hp (hp h (t + 328) (xI 12 (upd tx nt v))) (t + 327) (cNm (t + 328) (nI (nt + 1))) = H at ad
  have k1 : ∀ x, x < t + 327 ∨ t + 329 ≤ x → H.2 x = h.2 x := fun x hx => by rw [← hH, hp_ne _ _ (by omega), hp_ne _ _ (by omega)]
  have txt' : Txt H t (nt + 1) (upd TX nt v) := ⟨by omega, by rw [← hH, hp_self], upd tx nt v, by rw [← hH, hp_ne _ _ (by omega), hp_self], fun x hx => by
    by_cases e : x = nt
    · rw [e, upd_self, upd_self]
    · rw [upd_ne e, upd_ne e]; exact t4 x (by omega)⟩
  have top1 : Top H b L' xs t := Top_keep top (fun x hx => k1 x (by omega))
  refine ⟨H, ?_, Rw_text r k1 txt'⟩
  simp [fX6_append, bX6_append, mI, sSeq, sIf, bNot, bZ, eCS, aI, eL, eC, aN, X6_isWithin, hw, z_ne_bI, sNop, zCut, bCmp, eF, rF, rL, tp2 top, tx_1 txt, d1, sCV, tx_i txt, ad, tp2 top1, tx_1 txt', sRi]
set_option maxRecDepth 100000 in
theorem bad_hurry {v : Int32} (r : Rw h b L' xs t S nt TX) (iv : Iv S nS nP nO) (hv : hasB v (nI nO) = false) : fX6_hurry [.ref t, .int v] h = some (-1, h) := by
  obtain ⟨top, shw, -, txt, fcs⟩ := r
  obtain ⟨s, P, pf, pi, O, N, L, at1, vw⟩ := shw_at shw iv
  have q1 := or_one at1 vw iv v
  rw [hv] at q1
  simp [fX6_hurry, bX6_hurry, mI, sSeq, sIf, bNot, bZ, eCV, rF, rL, tp0 top, aI, eL, aN, aIs at1, q1, z_ne_bI, eC, zCut, sRi]
set_option maxRecDepth 100000 in
theorem no_hurry {k : Nat} (r : Rw h b L' xs t S nt TX) (iv : Iv S nS nP nO) (hk : k < nO) (hz : sO S k 4 ≠ 0) : fX6_hurry [.ref t, .int (nI k)] h = some (-2, h) := by
  obtain ⟨top, shw, -, txt, fcs⟩ := r
  obtain ⟨s, P, pf, pi, O, N, L, at1, vw⟩ := shw_at shw iv
  obtain ⟨c0, c1, c2, c3, c4, c5⟩ := iv.1
  have q1 := or_one at1 vw iv (nI k)
  rw [hasB_nI (by omega) (by omega), decide_eq_true hk] at q1
  have hpk := vw.2.1.1 k (by omega)
  have x4 := aOr at1 (x := 4) hpk (by omega)
  rw [(vw.2.2.2.2 k hk).2.2.2.2.1] at x4
  have z0 : z_ne (sO S k 4) = true := by simp [z_ne, hz]
  simp [fX6_hurry, bX6_hurry, mI, sSeq, sIf, bNot, bZ, eCV, rF, rL, tp0 top, aI, eL, aN, aIs at1, q1, z_ne_bI, eC, zCut, sNop, eF, rQ, aS2 at1, aQr at1 (show k < 10 by omega), x4, z0, sRi]
/-- an order that becomes a rush -/
abbrev hurR (S : Nat → Int32) (k c nO : Nat) : Nat → Int32 := opHur S (fun _ => 0) k c nO
set_option maxRecDepth 100000 in
theorem do_hurry {k : Nat} (r : Rw h b L' xs t S nt TX) (iv : Iv S nS nP nO) (ir : IvR S nO c) (hk : k < nO) (hz : sO S k 4 = 0) :
    ∃ h1, fX6_hurry [.ref t, .int (nI k)] h = some (nI c, h1) ∧ Ru h1 b L' xs t (hurR S k c nO) nt TX S ∧ Iv (hurR S k c nO) nS nP nO ∧ IvR (hurR S k c nO) nO (c + 1) := by
  obtain ⟨top, shw, ⟨nh, V, his⟩, txt, fcs⟩ := r
  obtain ⟨s, P, pf, pi, O, N, L, at1, vw⟩ := shw_at shw iv
  have hIs := his_is his
  obtain ⟨c0, c1, c2, c3, c4, c5⟩ := iv.1
  have q1 := or_one at1 vw iv (nI k)
  rw [hasB_nI (by omega) (by omega), decide_eq_true hk] at q1
  have hpk := vw.2.1.1 k (by omega)
  have x4 := aOr at1 (x := 4) hpk (by omega)
  rw [(vw.2.2.2.2 k hk).2.2.2.2.1] at x4
  have z0 : z_ne (sO S k 4) = false := by rw [hz]; rfl
  obtain ⟨h1, r1, top1, at2, his1, txt1, fcs1⟩ := one_rec top at1 vw iv ir his txt fcs
  obtain ⟨v1, i1, ir1⟩ := hurry_view (AS := fun _ => 0) vw iv ir hk hz
  have hc := hur_le ir hk hz
  have cr : cntN (rsC O pi) nO = c := rs_view vw.2.2.2.2 ir
  have mr := X5_makeRush (h := h1) (lo := t + 1) (s := s) (P := P) (pf := pf) (pi := pi) (O := O) (N := N) (L := L) (k := k) (nO := nO) (by rw [vw.1.2.2.1, c2]) c5 hk vw.2.1.1 (by rw [cr]; exact hc)
  rw [At_eq at2, cr] at mr
  refine ⟨_, ?_, asm top1 his1 txt1 fcs1 v1 i1 ir1, i1, ir1⟩
  simp [fX6_hurry, bX6_hurry, mI, sSeq, sIf, bNot, bZ, eCV, rF, rL, tp0 top, aI, eL, aN, aIs at1, q1, z_ne_bI, eC, zCut, sNop, eF, rQ, aS2 at1, aQr at1 (show k < 10 by omega), x4, z0, sCV, tp1 top, aR, hIs, r1, tp0 top1, aIs at2, mr, sRi]
set_option maxRecDepth 100000 in
theorem bad_cancel {v : Int32} (r : Rw h b L' xs t S nt TX) (iv : Iv S nS nP nO) (hv : hasB v (nI nO) = false) : fX6_cancel [.ref t, .int v] h = some (-1, h) := by
  obtain ⟨top, shw, -, txt, fcs⟩ := r
  obtain ⟨s, P, pf, pi, O, N, L, at1, vw⟩ := shw_at shw iv
  have q1 := or_one at1 vw iv v
  rw [hv] at q1
  simp [fX6_cancel, bX6_cancel, mI, sSeq, sIf, bNot, bZ, eCV, rF, rL, tp0 top, aI, eL, aN, aIs at1, q1, z_ne_bI, eC, zCut, sRi]
/-- the row without order k -/
def canR (S : Nat → Int32) (k nO : Nat) : Nat → Int32 := if S 3 = nI k then opTake (opRest (upd S (10 + 7 * (S 5).toNatClampNeg + 2) 0)) k nO else opTake S k nO
set_option maxRecDepth 100000 in
theorem do_cancel {k : Nat} (r : Rw h b L' xs t S nt TX) (iv : Iv S nS nP nO) (ir : IvR S nO c) (hk : k < nO) :
    ∃ h1, fX6_cancel [.ref t, .int (nI k)] h = some (nI (nO - 1), h1) ∧ Ru h1 b L' xs t (canR S k nO) nt TX S ∧ Iv (canR S k nO) nS nP (nO - 1) ∧ IvR (canR S k nO) (nO - 1) (if k < c then c - 1 else c) := by
  obtain ⟨top, shw, ⟨nh, V, his⟩, txt, fcs⟩ := r
  obtain ⟨s, P, pf, pi, O, N, L, at1, vw⟩ := shw_at shw iv
  have hIs := his_is his
  obtain ⟨c0, c1, c2, c3, c4, c5⟩ := iv.1
  have s3 : s 3 = nI nP := by rw [vw.1.1, c1]
  have s5 : s 5 = nI nO := by rw [vw.1.2.2.1, c2]
  have q1 := or_one at1 vw iv (nI k)
  rw [hasB_nI (by omega) (by omega), decide_eq_true hk] at q1
  obtain ⟨h1, r1, top1, at2, his1, txt1, fcs1⟩ := one_rec top at1 vw iv ir his txt fcs
  by_cases hz : S 3 = nI k
  · obtain ⟨k', p, sd, a⟩ := IvW_at iv (by rw [hz]; exact nI_ne9 (by omega))
    obtain ⟨a3, ak, a5, ap, a6, asd, a2⟩ := a
    obtain rfl : k' = k := by rw [hz] at a3; exact ((nI_eqI (by omega) (by omega)).mp a3).symm
    have eR : canR S k' nO = opTake (opRest (upd S (10 + 7 * p + 2) 0)) k' nO := by simp only [canR, if_pos hz, a5, nI_clamp (show p < 2 ^ 31 by omega)]
    obtain ⟨v1, i1⟩ := drop_view vw iv hk ap
    have dr := X5_dropOrder_at (h := h1) (lo := t + 1) (s := s) (P := P) (pf := pf) (pi := pi) (O := O) (N := N) (L := L) (k := k') (p := p) s3 c4 s5 c5 (by rw [vw.1.2.2.2.1, hz]) hk (by rw [vw.1.2.2.2.2.1, a5]) ap vw.2.1.1
    rw [At_eq at2] at dr
    have WO : ∀ j x, sO (opRest (upd S (10 + 7 * p + 2) 0)) j x = sO S j x := fun j x => by simp only [sO]; rw [opRest_ge (by omega), upd_ne (by omega)]
    have x5 := rs5 (h := h1) (lo := t + 1) (s := rmS (stC s) k' nO) (P := drP P p) (pf := pf) (pi := rmC pi k' nO) (O := O) (N := N) (L := L)
    rw [v1.1.2.2.1, opTake_2] at x5
    have tq : rdR (hS h1 (t + 1) (rmS (stC s) k' nO) (drP P p) pf (rmC pi k' nO) O N L) 6 0 t = some (t + 1) := rdR_of (by rw [hS_ne (by omega)]; exact top1.2.2) rfl
    have ir1 := take_R (S' := opTake (opRest (upd S (10 + 7 * p + 2) 0)) k' nO) hk (R_same ir (fun j => WO j 4)) (fun _ => rfl)
    rw [eR]
    refine ⟨_, ?_, asm top1 his1 txt1 fcs1 v1 i1 ir1, i1, ir1⟩
    simp [fX6_cancel, bX6_cancel, mI, sSeq, sIf, bNot, bZ, eCV, rF, rL, tp0 top, aI, eL, aN, aIs at1, q1, z_ne_bI, eC, zCut, sNop, sCV, tp1 top, aR, hIs, r1, tp0 top1, aIs at2, dr, tq, eF, x5, sRi]
  · have eR : canR S k nO = opTake S k nO := by simp only [canR, if_neg hz]
    obtain ⟨v1, i1⟩ := take_view vw iv hk hz
    have dr := X5_dropOrder_not (h := h1) (lo := t + 1) (s := s) (P := P) (pf := pf) (pi := pi) (O := O) (N := N) (L := L) (k := k) s5 c5 (by rw [vw.1.2.2.2.1]; exact hz) hk vw.2.1.1
    rw [At_eq at2] at dr
    have x5 := rs5 (h := h1) (lo := t + 1) (s := rmS s k nO) (P := P) (pf := pf) (pi := rmC pi k nO) (O := O) (N := N) (L := L)
    rw [v1.1.2.2.1, opTake_2] at x5
    have tq : rdR (hS h1 (t + 1) (rmS s k nO) P pf (rmC pi k nO) O N L) 6 0 t = some (t + 1) := rdR_of (by rw [hS_ne (by omega)]; exact top1.2.2) rfl
    have ir1 := take_R (S' := opTake S k nO) hk ir (fun _ => rfl)
    rw [eR]
    refine ⟨_, ?_, asm top1 his1 txt1 fcs1 v1 i1 ir1, i1, ir1⟩
    simp [fX6_cancel, bX6_cancel, mI, sSeq, sIf, bNot, bZ, eCV, rF, rL, tp0 top, aI, eL, aN, aIs at1, q1, z_ne_bI, eC, zCut, sNop, sCV, tp1 top, aR, hIs, r1, tp0 top1, aIs at2, dr, tq, eF, x5, sRi]
theorem bad_work {v : Int32} (hw : (decide (1 ≤ v) && decide (v ≤ 600)) = false) : fX6_work [.ref t, .int v] h = some (-1, h) := by
  simp [fX6_work, bX6_work, mI, sSeq, sIf, bNot, bZ, eCS, aI, eL, eC, aN, X6_isWithin, hw, z_ne_bI, zCut, sRi]
set_option maxRecDepth 100000 in
theorem do_work {v : Int32} (r : Rw h b L' xs t S nt TX) (iv : Iv S nS nP nO) (ir : IvR S nO c) (hw : (decide (1 ≤ v) && decide (v ≤ 600)) = true) :
    ∃ h1 n1 c1, fX6_work [.ref t, .int v] h = some (nI (nO - n1), h1) ∧ Ru h1 b L' xs t (wkR nP (nO + 1) v S nO) nt TX S ∧ Iv (wkR nP (nO + 1) v S nO) nS nP n1 ∧ IvR (wkR nP (nO + 1) v S nO) n1 c1 ∧ n1 ≤ nO ∧ wkR nP (nO + 1) v S nO 7 = S 7 + nI (nO - n1) := by
  obtain ⟨top, shw, ⟨nh, V, his⟩, txt, fcs⟩ := r
  obtain ⟨s, P, pf, pi, O, N, L, at1, vw⟩ := shw_at shw iv
  have hIs := his_is his
  have c5 := iv.1.2.2.2.2.2
  obtain ⟨h1, r1, top1, at2, his1, txt1, fcs1⟩ := one_rec top at1 vw iv ir his txt fcs
  obtain ⟨s1, P1, pi1, n1, c1, left1, y1, u1, v1, i1, ir1, hn1, h7⟩ := work_loop nO 4000 s P pi S c 0 v v (s 10) (by omega) (by omega) vw iv ir
  have q1 := u1 h1 (t + 1)
  rw [At_eq at2, nI_0] at q1
  have s10 : s 10 = S 7 := vw.1.2.2.2.2.2.2.2.1
  have s10' : s1 10 = wkR nP (nO + 1) v S nO 7 := v1.1.2.2.2.2.2.2.2.1
  have x10 : rdI h1 5 10 (t + 1) = some (s 10) := aSx at2 (by omega) (by omega)
  rw [s10] at q1 x10
  have x10' := rs10 (h := h1) (lo := t + 1) (s := s1) (P := P1) (pf := pf) (pi := pi1) (O := O) (N := N) (L := L)
  have e7 : wkR nP (nO + 1) v S nO 7 - S 7 = nI (nO - n1) := by rw [h7]; grind
  have sp : fX5_spendMinutes [.ref (t + 1), .int v] h1 = some (nI (nO - n1), hS h1 (t + 1) s1 P1 pf pi1 O N L) := by
    rw [← e7]
    simp [fX5_spendMinutes, bX5_spendMinutes, mI, sSeq, sLi, eF, rL, x10, zSt, eL, sBlk, eC, q1, zCut, sRi, eOp, x10', s10']
  refine ⟨_, n1, c1, ?_, asm top1 his1 txt1 fcs1 v1 i1 ir1, i1, ir1, hn1, h7⟩
  simp [fX6_work, bX6_work, mI, sSeq, sIf, bNot, bZ, eCS, aI, eL, eC, aN, X6_isWithin, hw, z_ne_bI, sNop, zCut, sCV, rF, rL, tp1 top, tp0 top, aR, hIs, r1, eCV, tp0 top1, aIs at2, sp, sRi]
set_option maxRecDepth 100000 in
theorem no_slip (r : Rw h b L' xs t S nt TX) (iv : Iv S nS nP nO) (hz : S 3 = -9) : fX6_slip [.ref t] h = some (-2, h) := by
  obtain ⟨top, shw, -, txt, fcs⟩ := r
  obtain ⟨s, P, pf, pi, O, N, L, at1, vw⟩ := shw_at shw iv
  have wk := X5_isWorking (h := h) (lo := t + 1) (s := s) (P := P) (pf := pf) (pi := pi) (O := O) (N := N) (L := L)
  rw [At_eq at1, wk_not (by rw [vw.1.2.2.2.1, hz])] at wk
  simp [fX6_slip, bX6_slip, mI, sSeq, sIf, bNot, bZ, eCV, rF, rL, tp0 top, aN, aIs at1, wk, z_ne_bI, eC, zCut, sRi]
theorem slS_ge {k p sd x : Nat} (hx : 150 ≤ x) (hp0 : p < 20) (hs : sd < 2) : slS S k p sd x = S x := by simp only [slS]; rw [upd_ne (by omega), upd_ne (by omega)]
theorem slip_O {k p sd : Nat} (hp0 : p < 20) (hs : sd < 2) (j x : Nat) : sO (opSlip S k p sd) j x = sO S j x := by
  show opSlip S k p sd (153 + 19 * j + x) = S (153 + 19 * j + x)
  unfold opSlip
  by_cases h1 : rdyM (slS S k p sd) p (1 - sd) (sO S k 3) = true
  · rw [if_pos h1, upd_ne (by omega), upd_ne (by omega), slS_ge (by omega) hp0 hs]
  · rw [if_neg h1]
    by_cases h2 : gndM (slS S k p sd) p sd (sO S k 3) = true
    · rw [if_pos h2, upd_ne (by omega), opGrind_hd' (by omega) (by omega) hs, slS_ge (by omega) hp0 hs]
    · rw [if_neg h2, opRest_ge (by omega), upd_ne (by omega), slS_ge (by omega) hp0 hs]
set_option maxRecDepth 100000 in
theorem do_slip {k p sd : Nat} (r : Rw h b L' xs t S nt TX) (iv : Iv S nS nP nO) (ir : IvR S nO c) (a : AtW S nP nO k p sd) :
    ∃ h1, fX6_slip [.ref t] h = some (slA S k p sd, h1) ∧ Ru h1 b L' xs t (opSlip S k p sd) nt TX S ∧ Iv (opSlip S k p sd) nS nP nO ∧ IvR (opSlip S k p sd) nO c := by
  obtain ⟨top, shw, ⟨nh, V, his⟩, txt, fcs⟩ := r
  obtain ⟨s, P, pf, pi, O, N, L, at1, vw⟩ := shw_at shw iv
  have hIs := his_is his
  obtain ⟨c0, c1, c2, c3, c4, c5⟩ := iv.1
  have s3 : s 3 = nI nP := by rw [vw.1.1, c1]
  have s5 : s 5 = nI nO := by rw [vw.1.2.2.1, c2]
  have wk := X5_isWorking (h := h) (lo := t + 1) (s := s) (P := P) (pf := pf) (pi := pi) (O := O) (N := N) (L := L)
  rw [At_eq at1] at wk
  obtain ⟨a3, ak, a5, ap, a6, asd, a2⟩ := id a
  have s6 : s 6 = nI k := by rw [vw.1.2.2.2.1, a3]
  have s7 : s 7 = nI p := by rw [vw.1.2.2.2.2.1, a5]
  rw [wk_of s5 c5 s3 c4 s6 ak s7 ap] at wk
  obtain ⟨h1, r1, top1, at2, his1, txt1, fcs1⟩ := one_rec top at1 vw iv ir his txt fcs
  obtain ⟨m1, v1, i1⟩ := slip_view vw iv ak ap asd a3 a5 a6 a2
  have nC5 : N (pi k) = nI (nC N (pi k)) := by
    rw [nC_view vw.2.2.2.2 ak, (vw.2.2.2.2 k ak).2.2.2.2.2.1]
    exact (hl_of iv k ak).1
  have ms := X5_misspell (h := h1) (lo := t + 1) (s := s) (P := P) (pf := pf) (pi := pi) (O := O) (N := N) (L := L) (k := k) (p := p) s3 c4 s5 c5 s6 ak s7 ap vw.2.1.1 nC5
  rw [At_eq at2, m1] at ms
  have ir1 : IvR (opSlip S k p sd) nO c := R_same ir (fun j => slip_O (by omega) asd j 4)
  have ms' : fX5_misspell [.ref (t + 1)] h1 = some (slA S k p sd, hS h1 (t + 1) (msS s (P p) (O (pi k) 3) (efC pi O N k)) (va_up P p (msP (P p) (s 8) (O (pi k) 3))) pf pi O N L) := ms
  refine ⟨_, ?_, asm top1 his1 txt1 fcs1 v1 i1 ir1, i1, ir1⟩
  simp [fX6_slip, bX6_slip, mI, sSeq, sIf, bNot, bZ, eCV, rF, rL, tp0 top, aN, aIs at1, wk, z_ne_bI, eC, zCut, sNop, sCV, tp1 top, aR, hIs, r1, tp0 top1, aIs at2, ms', sRi]
set_option maxRecDepth 100000 in
/-- the latest state is brought back -/
theorem restore_rel {n : Nat} (w : His h t (n + 1) V) (u : Any h (t + 1)) : ∃ h', fX1_restoreLatest [.ref (t + 55), .ref (t + 1)] h = some h' ∧ (∀ x, x < t + 1 ∨ t + 327 ≤ x → h'.2 x = h.2 x) ∧ His h' t n V ∧ Shw h' (t + 1) (V n) := by
  obtain ⟨ro, h5, h0, h1, hn', ha, hs⟩ := w
  have rn := h5.1 n (by omega)
  have w1 := hi_w h0 n
  generalize hH : hp h (t + 55) (cHi t n) = H at w1
  have kH : ∀ x, x ≠ t + 55 → H.2 x = h.2 x := fun x a => by rw [← hH, hp_ne _ _ a]
  have H0 : H.2 (t + 55) = some (cHi t n) := by rw [← hH, hp_self]
  have H1 : H.2 (t + 56) = some (xR 5 5 (rfH t ro)) := by rw [kH _ (by omega)]; exact h1
  obtain ⟨h', c1, c2, c3, c4⟩ := copy_to (Shw_keep (hs n (by omega)) (fun x a b => kH x (by omega))) (Any_keep u (fun x a b => kH x (by omega))) (by omega)
  refine ⟨h', ?_, fun x hx => by rw [c3 x (by omega), kH x (by omega)], ⟨ro, h5, by rw [c3 _ (by omega)]; exact H0, by rw [c3 _ (by omega)]; exact H1, by omega, fun k hk => Any_keep (ha k hk) (fun x a b => by rw [c3 x (by omega), kH x (by omega)]), fun k hk => ?_⟩, c4⟩
  · have r1 := hi_1 h0
    have zg : z_gt (nI (n + 1)) = true := by
      simp only [z_gt]
      exact decide_eq_true (by rw [← nI_0]; exact (nI_ltI (by omega) (by omega)).mpr (by omega))
    have uH : isO H 5 (t + 1) = true := Any_is (Any_keep u (fun x a b => kH x (by omega)))
    have e1 : nI (n + 1) - 1 = nI n := by rw [nI_sub1 (by omega)]; rfl
    simp [fX1_restoreLatest, bX1_restoreLatest, mV, sSeq, sIf, bZ, eF, rL, r1, zg, sFa, eC, e1, w1, sCV, aR, rQ, rF, hi_0 H0, hi_1 H0, hi_q H1 (show n < 5 by omega), aN, uH, c1, zCut, sRv]
  · have rk := h5.1 k (by omega)
    exact Shw_keep (hs k (by omega)) (fun x a b => by rw [c3 x (by omega), kH x (by omega)])
set_option maxRecDepth 100000 in
theorem do_undo (r : Ru h b L' xs t S nt TX S0) : ∃ v h1, fX6_undo [.ref t] h = some (v, h1) ∧ Rw h1 b L' xs t S0 nt TX := by
  obtain ⟨top, shw, ⟨n, V, his, e⟩, txt, fcs⟩ := r
  subst e
  have hIs := his_is his
  have hnh := his_le his
  have r1 : rdI h 1 1 (t + 55) = some (nI (n + 1)) := by obtain ⟨ro, -, h0, -⟩ := his; exact hi_1 h0
  obtain ⟨h', q1, q2, q3, q4⟩ := restore_rel his (Shw_any shw)
  have z1 : z_le (nI (n + 1)) = false := by
    simp only [z_le]
    exact decide_eq_false (fun e => by
      rw [← nI_0] at e
      have := (nI_leI (show n + 1 < 2 ^ 31 by omega) (show 0 < 2 ^ 31 by omega)).mp e
      omega)
  have top1 : Top h' b L' xs t := Top_keep top (fun x hx => q2 x (by omega))
  have r1' : rdI h' 1 1 (t + 55) = some (nI n) := by obtain ⟨ro, -, h0, -⟩ := q3; exact hi_1 h0
  refine ⟨nI n, h', ?_, top1, q4, ⟨_, _, q3⟩, Txt_keep txt (fun x a b => q2 x (by omega)), Fcs_keep fcs (fun x a b => q2 x (by omega))⟩
  simp [fX6_undo, bX6_undo, mI, sSeq, sIf, bZ, eF, rF, rL, tp1 top, r1, z1, sNop, eC, zCut, sCV, aR, tp0 top, aN, hIs, q1, tp1 top1, r1', sRi]
set_option maxRecDepth 100000 in
theorem bad_doneIn {v : Int32} (r : Rw h b L' xs t S nt TX) (iv : Iv S nS nP nO) (hv : hasB v (nI nO) = false) : fX6_doneIn [.ref t, .int v] h = some (-1, h) := by
  obtain ⟨top, shw, -, txt, fcs⟩ := r
  obtain ⟨s, P, pf, pi, O, N, L, at1, vw⟩ := shw_at shw iv
  have q1 := or_one at1 vw iv v
  rw [hv] at q1
  simp [fX6_doneIn, bX6_doneIn, mI, sSeq, sIf, bNot, bZ, eCV, rF, rL, tp0 top, aI, eL, aN, aIs at1, q1, z_ne_bI, eC, zCut, sRi]
set_option maxRecDepth 100000 in
theorem do_doneIn {k : Nat} (r : Rw h b L' xs t S nt TX) (iv : Iv S nS nP nO) (ir : IvR S nO c) (hk : k < nO) : ∃ h1, fX6_doneIn [.ref t, .int (nI k)] h = some (doneR S nP nO k, h1) ∧ Rw h1 b L' xs t S nt TX := by
  obtain ⟨top, shw, ⟨nh, V, his⟩, txt, fcs⟩ := r
  obtain ⟨s, P, pf, pi, O, N, L, at1, vw⟩ := shw_at shw iv
  obtain ⟨c0, c1, c2, c3, c4, c5⟩ := iv.1
  have q1 := or_one at1 vw iv (nI k)
  rw [hasB_nI (by omega) (by omega), decide_eq_true hk] at q1
  obtain ⟨⟨sq, Pq, fq, piq, Oq, Nq, Lq, atq, hpiq⟩, f1, ⟨D, f2⟩, f3, D', f4⟩ := fcs
  obtain ⟨s1, P1, pf1, pi1, O1, N1, L1, D1, u1, u3, u5⟩ := fs_no (s := sq) (P := Pq) (pf := fq) (O := Oq) (N := Nq) (L := Lq) hpiq D vw iv ir (a := t + 1) (lo := t + 329) (by omega)
  have cl := u1 h (t + 383) (t + 384) ⟨f1, by omega, by omega, by omega⟩ (by omega) at1
  rw [hp_id f2, At_eq atq] at cl
  generalize hH : hS (hp h (t + 384) (xI 10 D1)) (t + 329) s1 P1 pf1 pi1 O1 N1 L1 = H at cl
  have kH : ∀ x, x < t + 329 ∨ t + 385 ≤ x ∨ x = t + 383 → H.2 x = h.2 x := fun x hx => by rw [← hH, hS_ne (by omega), hp_ne _ _ (by omega)]
  have hD : H.2 (t + 384) = some (xI 10 D1) := by rw [← hH, hS_ne (by omega), hp_self]
  have top1 : Top H b L' xs t := Top_keep top (fun x hx => kH x (by omega))
  have fcs1 : Fcs H t := ⟨⟨s1, P1, pf1, pi1, O1, N1, L1, by rw [← hH]; exact At_self, u5⟩, by rw [kH _ (by omega)]; exact f1, ⟨D1, hD⟩, by rw [kH _ (by omega)]; exact f3, D', by rw [kH _ (by omega)]; exact f4⟩
  have rd := rdA_of hD (show k < 10 by omega) (by omega)
  rw [u3 k (by omega)] at rd
  have fi : isO h 0 (t + 383) = true := isO_of f1
  have r1 : rdR H 0 1 (t + 383) = some (t + 384) := rdR_of (by rw [kH _ (by omega)]; exact f1) rfl
  refine ⟨H, ?_, top1, Shw_keep shw (fun x a b => kH x (by omega)), ⟨nh, V, His_keep his (fun x a b => kH x (by omega))⟩, Txt_keep txt (fun x a b => kH x (by omega)), fcs1⟩
  simp [fX6_doneIn, bX6_doneIn, mI, sSeq, sIf, bNot, bZ, eCV, rF, rL, tp0 top, aI, eL, aN, aIs at1, q1, z_ne_bI, sNop, zCut, sCV, tp3 top, aR, eC, fi, cl, sRi, eA, tp3 top1, r1, rd]
end ZC5
