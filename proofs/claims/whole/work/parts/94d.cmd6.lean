/-! the commands: cancel, slip -/
section ZC6
variable {h : zH} {b L' t nS nP nO c nh nt : Nat} {xs : Nat → Int32} {s pf N g SV TX AS : Nat → Int32} {P O L R T : Nat → Nat → Int32} {pi : Nat → Nat}
set_option maxRecDepth 100000 in
set_option maxHeartbeats 1000000 in
theorem cmd_cancel (v : Int32) : Cmd fX6_cancel fX7_cancel [.int v] := by
  intro h b L' xs t rl
  obtain ⟨g, R, SV, TX, T, AS, nh, nt, top, ⟨s, P, pf, pi, O, N, L, nS, nP, nO, c, at1, vw, iv, ir⟩, his, txt, fcs, md, g4, g6⟩ := rl
  have hnh := his_le his
  have hIs := his_is his
  obtain ⟨c0, c1, c2, c3, c4, c5⟩ := iv.1
  have s3 : s 3 = nI nP := by rw [vw.1.1, c1]
  have s5 : s 5 = nI nO := by rw [vw.1.2.2.1, c2]
  obtain ⟨q, q1, q2, q3⟩ := or_both (R := R) at1 vw iv v
  cases q with
  | false =>
    refine close0 (v := -1) (g' := upd g 0 0) top at1 vw iv ir his txt fcs md g4 g6 ?_ (fun hm => ?_) (by simp [upd]) (by simp [upd])
    · simp [fX6_cancel, bX6_cancel, mI, sSeq, sIf, bNot, bZ, eCV, rF, rL, tp0 top, aI, eL, aN, aIs at1, q1, z_ne_bI, eC, zCut, sRi]
    · simp [fX7_cancel, bX7_cancel, mI, sSeq, sF, rL, eC, wMo0, sIf, bNot, bZ, eCV, aI, eL, aN, isMo, q2, z_ne_bI, zCut, sRi]
  | true =>
    obtain ⟨k, hk, rfl⟩ := q3 rfl
    obtain ⟨h1, r1, top1, at2, his1, txt1, fcs1, md1⟩ := both_rec top at1 vw iv ir his txt fcs md
    have r3 := fun (hm : zH) (g SV : Nat → Int32) => hd3 (h := hM hm (t + 387) g R SV TX T AS) (hM_r (i := 1) (.inl rfl))
    have r5 := fun (hm : zH) (g SV : Nat → Int32) => hd5 (h := hM hm (t + 387) g R SV TX T AS) (hM_r (i := 1) (.inl rfl))
    by_cases hz : R 1 3 = nI k
    · have z1 : o_eq (R 1 3) (nI k) = true := by rw [hz]; exact o_eq_self _
      obtain ⟨k', p, sd, a⟩ := IvW_at iv (by rw [hz]; exact nI_ne9 (by omega))
      obtain ⟨a3, ak, a5, ap, a6, asd, a2⟩ := a
      obtain rfl : k' = k := by rw [hz] at a3; exact ((nI_eqI (by omega) (by omega)).mp a3).symm
      obtain ⟨v1, i1⟩ := drop_view vw iv hk ap
      have dr := X5_dropOrder_at (h := h1) (lo := t + 1) (s := s) (P := P) (pf := pf) (pi := pi) (O := O) (N := N) (L := L) (k := k') (p := p) s3 c4 s5 c5 (by rw [vw.1.2.2.2.1, hz]) hk (by rw [vw.1.2.2.2.2.1, a5]) ap vw.2.1.1
      rw [At_eq at2] at dr
      generalize hW : opRest (upd (R 1) (10 + 7 * p + 2) 0) = W at *
      have W2 : W 2 = nI nO := by rw [← hW, opRest_ge (by omega), upd_ne (by omega), c2]
      have WO : ∀ j x, sO W j x = sO (R 1) j x := fun j x => by simp only [sO]; rw [← hW, opRest_ge (by omega), upd_ne (by omega)]
      have e1 : (va_up R 1 (opTake W k' nO)) 1 = opTake W k' nO := up_self _ _
      have x5 := rs5 (h := h1) (lo := t + 1) (s := rmS (stC s) k' nO) (P := drP P p) (pf := pf) (pi := rmC pi k' nO) (O := O) (N := N) (L := L)
      rw [v1.1.2.2.1, opTake_2] at x5
      have tq : rdR (hS h1 (t + 1) (rmS (stC s) k' nO) (drP P p) pf (rmC pi k' nO) O N L) 6 0 t = some (t + 1) := rdR_of (by rw [hS_ne (by omega)]; exact top1.2.2) rfl
      refine close1 (v := nI (nO - 1)) (g' := upd (upd g 0 0) 4 (nI (acN nh + 1))) (R' := va_up R 1 (opTake W k' nO)) (T' := T) (AS' := cpTo AS (fun x => sO W k' x) 19) top1 his1 txt1 fcs1 md1 (by rw [e1]; exact v1) (by rw [e1]; exact i1) (by rw [e1]; exact take_R hk (R_same ir (fun j => WO j 4)) (fun _ => rfl)) (by rw [upd_self]) (by simp [upd, g6]) ?_ (fun hm => ?_)
      · simp [fX6_cancel, bX6_cancel, mI, sSeq, sIf, bNot, bZ, eCV, rF, rL, tp0 top, aI, eL, aN, aIs at1, q1, z_ne_bI, eC, zCut, sNop, sCV, tp1 top, aR, hIs, r1, tp0 top1, aIs at2, dr, tq, eF, x5, sRi]
      · have ac := X7_act (h := hm) (m := t + 387) (g := upd g 0 0) (R := R) (SV := SV) (TX := TX) (T := T) (AS := AS) (nn := nh) (by rw [upd_ne (by omega)]; exact g4) hnh
        generalize hg' : upd (upd g 0 0) 4 (nI (acN nh + 1)) = g' at *
        generalize hV : acV SV (R 1) nh = V at *
        have st := X7_set (h := hm) (m := t + 387) (g := g') (R := R) (SV := V) (TX := TX) (T := T) (AS := AS) (j := p) (c := 2) (v := 0) (k := 2) (i := 1) (.inl rfl) (by omega) rfl (by omega)
        have rs := X7_rest (h := hm) (m := t + 387) (g := g') (R := va_up R 1 (upd (R 1) (10 + 7 * p + 2) 0)) (SV := V) (TX := TX) (T := T) (AS := AS) (i := 1) (.inl rfl)
        rw [up_self, up_up, hW] at rs
        have tk := X7_takeOut (h := hm) (m := t + 387) (g := g') (R := va_up R 1 W) (SV := V) (TX := TX) (T := T) (AS := AS) (i := 1) (k := k') (nO := nO) (.inl rfl) (by rw [up_self]; exact W2) c5 hk
        rw [up_self, up_up] at tk
        have b2 := hd2 (h := hM hm (t + 387) g' (va_up R 1 (opTake W k' nO)) V TX T (cpTo AS (fun x => sO W k' x) 19)) (hM_r (i := 1) (.inl rfl))
        rw [up_self, opTake_2] at b2
        simp [fX7_cancel, bX7_cancel, mI, sSeq, sF, rL, eC, wMo0, sIf, bNot, bZ, eCV, aI, eL, aN, isMo, q2, z_ne_bI, zCut, sNop, sCV, ac, bCmp, eA, rF, rMr1, r3, z1, r5, a5, sCS, aR, st, rs, tk, b2, sRi]
    · have z1 : o_eq (R 1 3) (nI k) = false := by simp [o_eq, hz]
      obtain ⟨v1, i1⟩ := take_view vw iv hk hz
      have dr := X5_dropOrder_not (h := h1) (lo := t + 1) (s := s) (P := P) (pf := pf) (pi := pi) (O := O) (N := N) (L := L) (k := k) s5 c5 (by rw [vw.1.2.2.2.1]; exact hz) hk vw.2.1.1
      rw [At_eq at2] at dr
      have e1 : (va_up R 1 (opTake (R 1) k nO)) 1 = opTake (R 1) k nO := up_self _ _
      have x5 := rs5 (h := h1) (lo := t + 1) (s := rmS s k nO) (P := P) (pf := pf) (pi := rmC pi k nO) (O := O) (N := N) (L := L)
      rw [v1.1.2.2.1, opTake_2] at x5
      have tq : rdR (hS h1 (t + 1) (rmS s k nO) P pf (rmC pi k nO) O N L) 6 0 t = some (t + 1) := rdR_of (by rw [hS_ne (by omega)]; exact top1.2.2) rfl
      refine close1 (v := nI (nO - 1)) (g' := upd (upd g 0 0) 4 (nI (acN nh + 1))) (R' := va_up R 1 (opTake (R 1) k nO)) (T' := T) (AS' := cpTo AS (fun x => sO (R 1) k x) 19) top1 his1 txt1 fcs1 md1 (by rw [e1]; exact v1) (by rw [e1]; exact i1) (by rw [e1]; exact take_R hk ir (fun _ => rfl)) (by rw [upd_self]) (by simp [upd, g6]) ?_ (fun hm => ?_)
      · simp [fX6_cancel, bX6_cancel, mI, sSeq, sIf, bNot, bZ, eCV, rF, rL, tp0 top, aI, eL, aN, aIs at1, q1, z_ne_bI, eC, zCut, sNop, sCV, tp1 top, aR, hIs, r1, tp0 top1, aIs at2, dr, tq, eF, x5, sRi]
      · have ac := X7_act (h := hm) (m := t + 387) (g := upd g 0 0) (R := R) (SV := SV) (TX := TX) (T := T) (AS := AS) (nn := nh) (by rw [upd_ne (by omega)]; exact g4) hnh
        generalize hg' : upd (upd g 0 0) 4 (nI (acN nh + 1)) = g' at *
        generalize hV : acV SV (R 1) nh = V at *
        have tk := X7_takeOut (h := hm) (m := t + 387) (g := g') (R := R) (SV := V) (TX := TX) (T := T) (AS := AS) (i := 1) (k := k) (nO := nO) (.inl rfl) c2 c5 hk
        have b2 := hd2 (h := hM hm (t + 387) g' (va_up R 1 (opTake (R 1) k nO)) V TX T (cpTo AS (fun x => sO (R 1) k x) 19)) (hM_r (i := 1) (.inl rfl))
        rw [up_self, opTake_2] at b2
        simp [fX7_cancel, bX7_cancel, mI, sSeq, sF, rL, eC, wMo0, sIf, bNot, bZ, eCV, aI, eL, aN, isMo, q2, z_ne_bI, zCut, sNop, sCV, ac, bCmp, eA, rF, rMr1, r3, z1, aR, tk, b2, sRi]
set_option maxRecDepth 100000 in
set_option maxHeartbeats 2000000 in
theorem X7_slip_ok {hm : zH} {m k p sd : Nat} (iv : Iv (R 1) nS nP nO) (a : AtW (R 1) nP nO k p sd) (hg : g 4 = nI nh) (hnh : nh ≤ 5) :
    fX7_slip [.ref m] (hM hm m g R SV TX T AS) = some (slA (R 1) k p sd, hM hm m (upd (upd g 0 0) 4 (nI (acN nh + 1))) (va_up R 1 (opSlip (R 1) k p sd)) (acV SV (R 1) nh) TX T AS) := by
  obtain ⟨a3, ak, a5, ap, a6, asd, a2⟩ := a
  have c4 := iv.1.2.2.2.2.1
  have c5 := iv.1.2.2.2.2.2
  have hp20 : p < 20 := by omega
  have k9 : ¬ nI k = -9 := nI_ne9 (by omega)
  have ac := X7_act (h := hm) (m := m) (g := upd g 0 0) (R := R) (SV := SV) (TX := TX) (T := T) (AS := AS) (nn := nh) (by rw [upd_ne (by omega)]; exact hg) hnh
  have r3 := fun (g SV : Nat → Int32) => hd3 (h := hM hm m g R SV TX T AS) (hM_r (i := 1) (.inl rfl))
  simp only [a3] at r3
  generalize hg' : upd (upd g 0 0) 4 (nI (acN nh + 1)) = g' at *
  generalize hV : acV SV (R 1) nh = V at *
  have o3 := ofO3 (h := hM hm m g' R V TX T AS) (hM_r (i := 1) (.inl rfl)) (j := k) (by omega)
  have r5 := hd5 (h := hM hm m g' R V TX T AS) (hM_r (i := 1) (.inl rfl))
  have r6 := hd6 (h := hM hm m g' R V TX T AS) (hM_r (i := 1) (.inl rfl))
  rw [a5] at r5
  rw [a6] at r6
  have s1 := X7_set (h := hm) (m := m) (g := g') (R := R) (SV := V) (TX := TX) (T := T) (AS := AS) (j := p) (c := 3 + nI sd) (v := sO (R 1) k 3) (k := 3 + sd) (i := 1) (.inl rfl) hp20 (by rw [show (3 : Int32) = nI 3 from rfl, nI_add]) (by omega)
  have r8 := hd8 (h := hM hm m g' (va_up R 1 (upd (R 1) (10 + 7 * p + (3 + sd)) (sO (R 1) k 3))) V TX T AS) (hM_r (i := 1) (.inl rfl))
  have w8 := wh8 (h := hM hm m g' (va_up R 1 (upd (R 1) (10 + 7 * p + (3 + sd)) (sO (R 1) k 3))) V TX T AS) (hM_r (i := 1) (.inl rfl)) (R 1 8 + 1)
  rw [up_self, upd_ne (by omega)] at r8
  rw [wM_r (.inl rfl), up_self, up_up] at w8
  have es : upd (upd (R 1) (10 + 7 * p + (3 + sd)) (sO (R 1) k 3)) 8 (R 1 8 + 1) = slS (R 1) k p sd := rfl
  rw [es] at w8
  generalize hd : sO (R 1) k 3 = d at *
  have su := sub_nI asd
  have ry := X7_isReady (h := hM hm m g' (va_up R 1 (slS (R 1) k p sd)) V TX T AS) (hM_r (i := 1) (.inl rfl)) hp20 (c := nI (1 - sd)) rfl (show 1 - sd < 2 by omega) d
  have gn := X7_canBeGround (h := hM hm m g' (va_up R 1 (slS (R 1) k p sd)) V TX T AS) (hM_r (i := 1) (.inl rfl)) hp20 (c := nI sd) rfl asd d
  rw [up_self] at ry gn
  have efs : efM (slS (R 1) k p sd) k = efM (R 1) k := by simp only [slS]; rw [efM_upd (by omega), efM_upd (by omega)]
  by_cases h1 : rdyM (slS (R 1) k p sd) p (1 - sd) d = true
  · rw [h1] at ry
    have w6 := wh6 (h := hM hm m g' (va_up R 1 (slS (R 1) k p sd)) V TX T AS) (hM_r (i := 1) (.inl rfl)) (nI (1 - sd))
    rw [wM_r (.inl rfl), up_self, up_up] at w6
    have ef := X7_effort (h := hM hm m g' (va_up R 1 (upd (slS (R 1) k p sd) 6 (nI (1 - sd)))) V TX T AS) (hM_r (i := 1) (.inl rfl)) (k := k) (by omega)
    rw [up_self, efM_upd (by omega), efs] at ef
    have w4 := wh4 (h := hM hm m g' (va_up R 1 (upd (slS (R 1) k p sd) 6 (nI (1 - sd)))) V TX T AS) (hM_r (i := 1) (.inl rfl)) (efM (R 1) k)
    rw [wM_r (.inl rfl), up_self, up_up] at w4
    have eo : opSlip (R 1) k p sd = upd (upd (slS (R 1) k p sd) 6 (nI (1 - sd))) 4 (efM (R 1) k) := by simp only [opSlip, hd, if_pos h1]
    have ea : slA (R 1) k p sd = 1 := by simp only [slA, hd, if_pos h1]
    rw [eo, ea]
    simp [fX7_slip, bX7_slip, mI, sSeq, sF, rL, eC, wMo0, sIf, bCmp, eA, rF, rMr1, r3, o_eq, k9, sNop, zCut, sCV, aN, isMo, ac, sLi, zSt, eCS, aR, aI, eL, o3, r5, r6, sCS, eOp, s1, sAa, r8, w8, bZ, su, ry, z_ne_bI, sA, w6, ef, w4, sRi]
  · have h1' := Bool.eq_false_iff.mpr h1
    rw [h1'] at ry
    by_cases h2 : gndM (slS (R 1) k p sd) p sd d = true
    · rw [h2] at gn
      have gr := X7_grindSide (h := hm) (m := m) (g := g') (R := va_up R 1 (slS (R 1) k p sd)) (SV := V) (TX := TX) (T := T) (AS := AS) (j := p) (c := nI sd) (i := 1) (.inl rfl) hp20 rfl asd
      rw [up_self, up_up] at gr
      have ef := X7_effort (h := hM hm m g' (va_up R 1 (opGrind (slS (R 1) k p sd) p sd)) V TX T AS) (hM_r (i := 1) (.inl rfl)) (k := k) (by omega)
      have eg : efM (opGrind (slS (R 1) k p sd) p sd) k = efM (R 1) k := by
        rw [← efs]
        simp only [efM, sO]
        rw [opGrind_hd' (by omega) hp20 asd, opGrind_hd' (by omega) hp20 asd, opGrind_hd' (by omega) hp20 asd]
      rw [up_self, eg] at ef
      have w4 := wh4 (h := hM hm m g' (va_up R 1 (opGrind (slS (R 1) k p sd) p sd)) V TX T AS) (hM_r (i := 1) (.inl rfl)) (efM (R 1) k + 10)
      rw [wM_r (.inl rfl), up_self, up_up] at w4
      have eo : opSlip (R 1) k p sd = upd (opGrind (slS (R 1) k p sd) p sd) 4 (efM (R 1) k + 10) := by simp only [opSlip, hd, if_neg h1, if_pos h2]
      have ea : slA (R 1) k p sd = 2 := by simp only [slA, hd, if_neg h1, if_pos h2]
      rw [eo, ea]
      simp [fX7_slip, bX7_slip, mI, sSeq, sF, rL, eC, wMo0, sIf, bCmp, eA, rF, rMr1, r3, o_eq, k9, sNop, zCut, sCV, aN, isMo, ac, sLi, zSt, eCS, aR, aI, eL, o3, r5, r6, sCS, eOp, s1, sAa, r8, w8, bZ, su, ry, z_ne_bI, gn, gr, sA, ef, w4, sRi]
    · rw [Bool.eq_false_iff.mpr h2] at gn
      have s2 := X7_set (h := hm) (m := m) (g := g') (R := va_up R 1 (slS (R 1) k p sd)) (SV := V) (TX := TX) (T := T) (AS := AS) (j := p) (c := 2) (v := 3) (k := 2) (i := 1) (.inl rfl) hp20 rfl (by omega)
      rw [up_self, up_up] at s2
      have rs := X7_rest (h := hm) (m := m) (g := g') (R := va_up R 1 (upd (slS (R 1) k p sd) (10 + 7 * p + 2) 3)) (SV := V) (TX := TX) (T := T) (AS := AS) (i := 1) (.inl rfl)
      rw [up_self, up_up] at rs
      have eo : opSlip (R 1) k p sd = opRest (upd (slS (R 1) k p sd) (10 + 7 * p + 2) 3) := by simp only [opSlip, hd, if_neg h1, if_neg h2]
      have ea : slA (R 1) k p sd = 3 := by simp only [slA, hd, if_neg h1, if_neg h2]
      rw [eo, ea]
      simp [fX7_slip, bX7_slip, mI, sSeq, sF, rL, eC, wMo0, sIf, bCmp, eA, rF, rMr1, r3, o_eq, k9, sNop, zCut, sCV, aN, isMo, ac, sLi, zSt, eCS, aR, aI, eL, o3, r5, r6, sCS, eOp, s1, sAa, r8, w8, bZ, su, ry, z_ne_bI, gn, s2, rs, sRi]
end ZC6
