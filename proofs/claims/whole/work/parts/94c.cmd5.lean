/-! the commands: hurry, cancel, work -/
section ZC5
variable {h : zH} {b L' t nS nP nO c nh nt : Nat} {xs : Nat → Int32} {s pf N g SV TX AS : Nat → Int32} {P O L R T : Nat → Nat → Int32} {pi : Nat → Nat}
theorem aOr (e : At h (t + 1) s P pf pi O N L) {j x : Nat} (hj : j < 10) (hx : x < 6) : rdI h 3 (x + 1) (t + 1 + 24 + 3 * j) = some (O j x) := by
  refine rdI_of (a_o e hj) ?_
  match x, hx with
  | 0, _ => rfl
  | 1, _ => rfl
  | 2, _ => rfl
  | 3, _ => rfl
  | 4, _ => rfl
  | 5, _ => rfl
set_option maxRecDepth 100000 in
set_option maxHeartbeats 1000000 in
theorem cmd_hurry (v : Int32) : Cmd fX6_hurry fX7_hurry [.int v] := by
  intro h b L' xs t rl
  obtain ⟨g, R, SV, TX, T, AS, nh, nt, top, ⟨s, P, pf, pi, O, N, L, nS, nP, nO, c, at1, vw, iv, ir⟩, his, txt, fcs, md, g4, g6⟩ := rl
  have hnh := his_le his
  have hIs := his_is his
  obtain ⟨c0, c1, c2, c3, c4, c5⟩ := iv.1
  obtain ⟨q, q1, q2, q3⟩ := or_both (R := R) at1 vw iv v
  cases q with
  | false =>
    refine close0 (v := -1) (g' := upd g 0 0) top at1 vw iv ir his txt fcs md g4 g6 ?_ (fun hm => ?_) (by simp [upd]) (by simp [upd])
    · simp [fX6_hurry, bX6_hurry, mI, sSeq, sIf, bNot, bZ, eCV, rF, rL, tp0 top, aI, eL, aN, aIs at1, q1, z_ne_bI, eC, zCut, sRi]
    · simp [fX7_hurry, bX7_hurry, mI, sSeq, sF, rL, eC, wMo0, sIf, bNot, bZ, eCV, aI, eL, aN, isMo, q2, z_ne_bI, zCut, sRi]
  | true =>
    obtain ⟨k, hk, rfl⟩ := q3 rfl
    have hpk := vw.2.1.1 k (by omega)
    have x4 := aOr at1 (x := 4) hpk (by omega)
    have vo4 := (vw.2.2.2.2 k hk).2.2.2.2.1
    rw [vo4] at x4
    have o4 := fun (hm : zH) (g SV : Nat → Int32) => ofO4 (h := hM hm (t + 387) g R SV TX T AS) hM_1 (j := k) (by omega)
    rcases (iv.2.2.2.1 k hk).2.2.2.2.1 with hz | hz
    · have z0 : z_ne (sO (R 1) k 4) = false := by rw [hz]; rfl
      have z1 : o_eq (sO (R 1) k 4) 1 = false := by rw [hz]; rfl
      obtain ⟨h1, r1, top1, at2, his1, txt1, fcs1, md1⟩ := both_rec top at1 vw iv ir his txt fcs md
      obtain ⟨v1, i1, ir1⟩ := hurry_view (AS := AS) vw iv ir hk hz
      have hc := hur_le ir hk hz
      have e1 : (va_up R 1 (opHur (R 1) AS k c nO)) 1 = opHur (R 1) AS k c nO := up_self _ _
      have cr : cntN (rsC O pi) nO = c := rs_view vw.2.2.2.2 ir
      have mr := X5_makeRush (h := h1) (lo := t + 1) (s := s) (P := P) (pf := pf) (pi := pi) (O := O) (N := N) (L := L) (k := k) (nO := nO) (by rw [vw.1.2.2.1, c2]) c5 hk vw.2.1.1 (by rw [cr]; exact hc)
      rw [At_eq at2, cr] at mr
      refine close1 (v := nI c) (g' := upd (upd g 0 0) 4 (nI (acN nh + 1))) (R' := va_up R 1 (opHur (R 1) AS k c nO)) (T' := T) (AS' := upd (cpTo AS (fun x => sO (R 1) k x) 19) 4 1) top1 his1 txt1 fcs1 md1 (by rw [e1]; exact v1) (by rw [e1]; exact i1) (by rw [e1]; exact ir1) (by rw [upd_self]) (by simp [upd, g6]) ?_ (fun hm => ?_)
      · simp [fX6_hurry, bX6_hurry, mI, sSeq, sIf, bNot, bZ, eCV, rF, rL, tp0 top, aI, eL, aN, aIs at1, q1, z_ne_bI, eC, zCut, sNop, eF, rQ, aS2 at1, aQr at1 (show k < 10 by omega), x4, z0, sCV, tp1 top, aR, hIs, r1, tp0 top1, aIs at2, mr, sRi]
      · have ac := X7_act (h := hm) (m := t + 387) (g := upd g 0 0) (R := R) (SV := SV) (TX := TX) (T := T) (AS := AS) (nn := nh) (by rw [upd_ne (by omega)]; exact g4) hnh
        have o4' := o4 hm (upd g 0 0) SV
        generalize hg' : upd (upd g 0 0) 4 (nI (acN nh + 1)) = g' at *
        generalize hV : acV SV (R 1) nh = V at *
        have hu := X7_hurryIn (hm := hm) (m := t + 387) (g := g') (R := R) (SV := V) (TX := TX) (T := T) (AS := AS) (i := 1) (.inl rfl) c2 c5 hk ir hc
        simp [fX7_hurry, bX7_hurry, mI, sSeq, sF, rL, eC, wMo0, sIf, bNot, bZ, eCV, aI, eL, aN, isMo, q2, z_ne_bI, zCut, sNop, bCmp, eCS, aR, rF, rMr1, o4', z1, sCV, ac, hu, sRi]
    · have z0 : z_ne (sO (R 1) k 4) = true := by rw [hz]; rfl
      have z1 : o_eq (sO (R 1) k 4) 1 = true := by rw [hz]; rfl
      refine close0 (v := -2) (g' := upd g 0 0) top at1 vw iv ir his txt fcs md g4 g6 ?_ (fun hm => ?_) (by simp [upd]) (by simp [upd])
      · simp [fX6_hurry, bX6_hurry, mI, sSeq, sIf, bNot, bZ, eCV, rF, rL, tp0 top, aI, eL, aN, aIs at1, q1, z_ne_bI, eC, zCut, sNop, eF, rQ, aS2 at1, aQr at1 (show k < 10 by omega), x4, z0, sRi]
      · simp [fX7_hurry, bX7_hurry, mI, sSeq, sF, rL, eC, wMo0, sIf, bNot, bZ, eCV, aI, eL, aN, isMo, q2, z_ne_bI, zCut, sNop, bCmp, eCS, aR, rF, rMr1, o4, z1, sRi]
set_option maxRecDepth 100000 in
set_option maxHeartbeats 1000000 in
theorem cmd_work (v : Int32) : Cmd fX6_work fX7_work [.int v] := by
  intro h b L' xs t rl
  obtain ⟨g, R, SV, TX, T, AS, nh, nt, top, ⟨s, P, pf, pi, O, N, L, nS, nP, nO, c, at1, vw, iv, ir⟩, his, txt, fcs, md, g4, g6⟩ := rl
  have hnh := his_le his
  have hIs := his_is his
  have c5 := iv.1.2.2.2.2.2
  cases hw : (decide (1 ≤ v) && decide (v ≤ 600)) with
  | false =>
    refine close0 (v := -1) (g' := upd g 0 0) top at1 vw iv ir his txt fcs md g4 g6 ?_ (fun hm => ?_) (by simp [upd]) (by simp [upd])
    · simp [fX6_work, bX6_work, mI, sSeq, sIf, bNot, bZ, eCS, aI, eL, eC, aN, X6_isWithin, hw, z_ne_bI, zCut, sRi]
    · simp [fX7_work, bX7_work, mI, sSeq, sF, rL, eC, wMo0, sIf, bNot, bZ, eCS, aI, eL, aN, X7_in, hw, z_ne_bI, zCut, sRi]
  | true =>
    obtain ⟨h1, r1, top1, at2, his1, txt1, fcs1, md1⟩ := both_rec top at1 vw iv ir his txt fcs md
    obtain ⟨s1, P1, pi1, S1, g1, A1, n1, c1, left1, y1, u1, u2, v1, i1, ir1, u4⟩ := work_loop (pf := pf) (O := O) (N := N) (L := L) (SV := acV SV (R 1) nh) (TX := TX) (T := T) (nS := nS) (nP := nP) nO 4000 4000 s P pi R (upd (upd g 0 0) 4 (nI (acN nh + 1))) AS c 0 v 0 v (s 10) (by omega) (by omega) (by omega) vw iv ir
    have e1 : (va_up R 1 S1) 1 = S1 := up_self _ _
    have q1 := u1 h1 (t + 1)
    rw [At_eq at2, nI_0] at q1
    have s10 : s 10 = R 1 7 := vw.1.2.2.2.2.2.2.2.1
    have s10' : s1 10 = S1 7 := v1.1.2.2.2.2.2.2.2.1
    have x10 : rdI h1 5 10 (t + 1) = some (s 10) := aSx at2 (by omega) (by omega)
    rw [s10] at q1 x10
    have x10' := rs10 (h := h1) (lo := t + 1) (s := s1) (P := P1) (pf := pf) (pi := pi1) (O := O) (N := N) (L := L)
    refine close1 (v := S1 7 - R 1 7) (g' := g1) (R' := va_up R 1 S1) (T' := T) (AS' := A1) top1 his1 txt1 fcs1 md1 (by rw [e1]; exact v1) (by rw [e1]; exact i1) (by rw [e1]; exact ir1) (by rw [u4 4 (by omega) (by omega) (by omega), upd_self]) (by rw [u4 6 (by omega) (by omega) (by omega)]; simp [upd, g6]) ?_ (fun hm => ?_)
    · have sp : fX5_spendMinutes [.ref (t + 1), .int v] h1 = some (S1 7 - R 1 7, hS h1 (t + 1) s1 P1 pf pi1 O N L) := by
        simp [fX5_spendMinutes, bX5_spendMinutes, mI, sSeq, sLi, eF, rL, x10, zSt, eL, sBlk, eC, q1, zCut, sRi, eOp, x10', s10']
      simp [fX6_work, bX6_work, mI, sSeq, sIf, bNot, bZ, eCS, aI, eL, eC, aN, X6_isWithin, hw, z_ne_bI, sNop, zCut, sCV, rF, rL, tp1 top, tp0 top, aR, hIs, r1, eCV, tp0 top1, aIs at2, sp, sRi]
    · have ac := X7_act (h := hm) (m := t + 387) (g := upd g 0 0) (R := R) (SV := SV) (TX := TX) (T := T) (AS := AS) (nn := nh) (by rw [upd_ne (by omega)]; exact g4) hnh
      have q2 := u2 hm (t + 387)
      rw [show (0 : Int32) + (S1 7 - R 1 7) = S1 7 - R 1 7 from Int32.zero_add _] at q2
      simp [fX7_work, bX7_work, mI, sSeq, sF, rL, eC, wMo0, sIf, bNot, bZ, eCS, aI, eL, aN, X7_in, hw, z_ne_bI, sNop, zCut, sCV, isMo, ac, sLi, zSt, q2, sRi]
end ZC5
