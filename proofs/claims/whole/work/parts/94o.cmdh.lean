/-! the command moved -/
section ZCI
variable {h : zH} {b L' t nS nP nO c nh nt k : Nat} {xs : Nat → Int32} {A B : Nat → Int32}
set_option maxRecDepth 100000 in
set_option maxHeartbeats 4000000 in
theorem cmd_moved (v : Int32) : Cmd fX6_moved fX7_moved [.int v] := by
  intro h b L' xs t rl
  obtain ⟨g, R, SV, TX, T, AS, nh, nt, top, ⟨s, P, pf, pi, O, N, L, nS, nP, nO, c, at1, vw, iv, ir⟩, his, txt, fcs, md, g4, g6⟩ := rl
  obtain ⟨c0, c1, c2, c3, c4, c5⟩ := iv.1
  obtain ⟨q, q1, q2, q3⟩ := or_both (R := R) at1 vw iv v
  cases q with
  | false =>
    refine close0 (v := -1) (g' := upd g 0 0) top at1 vw iv ir his txt fcs md g4 g6 ?_ (fun hm => ?_) (by simp [upd]) (by simp [upd])
    · simp [fX6_moved, bX6_moved, mI, sSeq, sIf, bNot, bZ, eCV, rF, rL, tp0 top, aI, eL, aN, aIs at1, q1, z_ne_bI, eC, zCut, sRi]
    · simp [fX7_moved, bX7_moved, mI, sSeq, sF, rL, eC, wMo0, sIf, bNot, bZ, eCV, aI, eL, aN, isMo, q2, z_ne_bI, zCut, sRi]
  | true =>
    obtain ⟨k, hk, rfl⟩ := q3 rfl
    have hpk := vw.2.1.1 k (by omega)
    have x4 := aOr at1 (x := 4) hpk (by omega)
    rw [(vw.2.2.2.2 k hk).2.2.2.2.1] at x4
    have o4 := fun (hm : zH) (g SV : Nat → Int32) => ofO4 (h := hM hm (t + 387) g R SV TX T AS) hM_1 (j := k) (by omega)
    rcases (iv.2.2.2.1 k hk).2.2.2.2.1 with hz | hz
    · have z0 : z_ne (sO (R 1) k 4) = false := by rw [hz]; rfl
      have z1 : o_eq (sO (R 1) k 4) 1 = false := by rw [hz]; rfl
      obtain ⟨⟨sq, Pq, fq, piq, Oq, Nq, Lq, atq, hpiq⟩, f1, ⟨D, f2⟩, f3, D', f4⟩ := fcs
      obtain ⟨s1, P1, pf1, pi1, O1, N1, L1, S1, D1, g1, A1, T1, u1, u2, u3, u5, u4⟩ := fs_no (i := 5) (s := sq) (P := Pq) (pf := fq) (O := Oq) (N := Nq) (L := Lq) (g := upd g 0 0) (SV := SV) (TX := TX) (T := T) (AS := AS) (.inl rfl) hpiq D vw iv ir (a := t + 1) (lo := t + 329) (by omega)
      have cl := u1 h (t + 383) (t + 384) ⟨f1, by omega, by omega, by omega⟩ (by omega) at1
      rw [hp_id f2, At_eq atq] at cl
      generalize hH : hS (hp h (t + 384) (xI 10 D1)) (t + 329) s1 P1 pf1 pi1 O1 N1 L1 = H at cl
      have kH : ∀ x, x < t + 329 ∨ t + 385 ≤ x ∨ x = t + 383 → H.2 x = h.2 x := fun x hx => by rw [← hH, hS_ne (by omega), hp_ne _ _ (by omega)]
      have hD : H.2 (t + 384) = some (xI 10 D1) := by rw [← hH, hS_ne (by omega), hp_self]
      have atH : At H (t + 329) s1 P1 pf1 pi1 O1 N1 L1 := by rw [← hH]; exact At_self
      obtain ⟨top1, at2, his1, txt1, md1⟩ := fc_keep (R := R) top at1 his txt md (fun x hx => kH x (by omega))
      have e1 : (va_up R 2 S1) 1 = R 1 := va_up_ne _ _ (by omega)
      generalize hR : va_up R 2 S1 = R1 at *
      generalize hT : va_up T 5 T1 = T' at *
      obtain ⟨s2, P2, pf2, pi2, O2, N2, L2, S2, D2, g2, A2, T2, w1, w2, w6, w3, w5, w4⟩ := fs_yes (i := 6) (s := s1) (P := P1) (pf := pf1) (O := O1) (N := N1) (L := L1) (R := R1) (g := g1) (SV := SV) (TX := TX) (T := T') (AS := A1) (k := k) (.inr rfl) u5 D' (by rw [e1]; exact vw) (by rw [e1]; exact iv) (by rw [e1]; exact ir) (a := t + 1) (lo := t + 329) (by omega) hk (by rw [e1]; exact hz)
      have f3H : H.2 (t + 385) = some (cFo (t + 329) (t + 386)) := by rw [kH _ (by omega)]; exact f3
      have f4H : H.2 (t + 386) = some (xI 10 D') := by rw [kH _ (by omega)]; exact f4
      have cm := w1 H (t + 385) (t + 386) ⟨f3H, by omega, by omega, by omega⟩ (by omega) at2
      rw [hp_id f4H, At_eq atH] at cm
      generalize hG : hS (hp H (t + 386) (xI 10 D2)) (t + 329) s2 P2 pf2 pi2 O2 N2 L2 = G at cm
      have kG : ∀ x, x < t + 329 ∨ (t + 383 ≤ x ∧ x ≠ t + 386) → G.2 x = H.2 x := fun x hx => by rw [← hG, hS_ne (by omega), hp_ne _ _ (by omega)]
      have hD2 : G.2 (t + 386) = some (xI 10 D2) := by rw [← hG, hS_ne (by omega), hp_self]
      have hD1 : G.2 (t + 384) = some (xI 10 D1) := by rw [kG _ (by omega)]; exact hD
      have f1G : G.2 (t + 383) = some (cFo (t + 329) (t + 384)) := by rw [kG _ (by omega), kH _ (by omega)]; exact f1
      have f3G : G.2 (t + 385) = some (cFo (t + 329) (t + 386)) := by rw [kG _ (by omega)]; exact f3H
      obtain ⟨top2, at3, his2, txt2, md2⟩ := fc_keep (R := R) top1 at2 his1 txt1 md1 (fun x hx => kG x (by omega))
      have fcs2 : Fcs G t := ⟨⟨s2, P2, pf2, pi2, O2, N2, L2, by rw [← hG]; exact At_self, w5⟩, f1G, ⟨D1, hD1⟩, f3G, D2, hD2⟩
      have e2 : (va_up R1 2 S2) 1 = R 1 := by rw [va_up_ne _ _ (by omega), e1]
      have fi : isO h 0 (t + 383) = true := isO_of f1
      have fj : isO H 0 (t + 385) = true := isO_of f3H
      have s5 : rdI G 5 5 (t + 1) = some (nI nO) := by rw [aSx at3 (by omega) (by omega), vw.1.2.2.1, c2]
      have g24 : ∀ x, x ≠ 7 → x ≠ 8 → x ≠ 9 → g2 x = upd g 0 0 x := fun x a b d => by rw [w4 x a b d, u4 x a b d]
      refine close1 (v := if anyM (badM D1 D2) nO = true then -9 else 100000 + sumM (addM D1 D2 k) nO) (h1 := G) (g' := g2) (R' := va_up R1 2 S2) (T' := va_up T' 6 T2) (AS' := A2) top2 his2 txt2 fcs2 md2 (by rw [e2]; exact vw) (by rw [e2]; exact iv) (by rw [e2]; exact ir) (by rw [g24 4 (by omega) (by omega) (by omega)]; simp [upd, g4]) (by rw [g24 6 (by omega) (by omega) (by omega)]; simp [upd, g6]) ?_ (fun hm => ?_)
      · rw [At_eq at3]
        have cd : ∀ (y : Nat) (a : Int32), y ≤ nO → bCmp o_lt (eL 3) (eF 5 5 (rF 6 0 (rL 0))) [.ref t, .int (nI k), .int a, .int (nI y)] G = some (decide (y < nO), G) := fun y a hy => by
          simp [bCmp, eL, eF, rF, rL, tp0 top2, s5, o_lt_nI (a := y) (b := nO) (by omega) (by omega)]
        rw [any_first]
        cases hq : firstO (badM D1 D2) nO with
        | none =>
          have nf := firstO_none hq
          have LL := sW_run (c := bCmp o_lt (eL 3) (eF 5 5 (rF 6 0 (rL 0)))) (f := mvBody) (fun y => ([.ref t, .int (nI k), .int (100000 + sumM (addM D1 D2 k) y), .int (nI y)], G)) nO nO 4000 0 (by omega) (by omega) (by omega)
            (fun y g1 g2 => cd y _ g2)
            (fun y g1 g2 => by rw [mv_body top2 f1G hD1 f3G hD2 (by omega) (by omega) (nf y g2)]; simp [zCut])
          simp only [nI_0, sumM, Int32.add_zero] at LL
          simp [fX6_moved, bX6_moved, mI, sSeq, sIf, bNot, bZ, eCV, rF, rL, tp0 top, aI, eL, aN, aIs at1, q1, z_ne_bI, sNop, zCut, eF, rQ, aS2 at1, aQr at1 (show k < 10 by omega), x4, z0, sCV, tp3 top, aR, eC, fi, cl, tp4 top1, tp0 top1, fj, cm, sLi, zSt, sBlk, LL, sRi, fstB]
        | some y0 =>
          obtain ⟨y1, y2, y3⟩ := firstO_some hq
          have LL := sW_ret (q := (some (-9), G)) (c := bCmp o_lt (eL 3) (eF 5 5 (rF 6 0 (rL 0)))) (f := mvBody) (fun y => ([.ref t, .int (nI k), .int (100000 + sumM (addM D1 D2 k) y), .int (nI y)], G)) y0 y0 4000 0 (by omega) (by omega) (by omega)
            (fun y g1 g2 => by rw [cd y _ (by omega)]; simp [show y < nO by omega])
            (fun y g1 g2 => by rw [mv_body top2 f1G hD1 f3G hD2 (by omega) (by omega) (y3 y g2)]; simp [zCut])
            (by rw [mv_bad top2 f1G hD1 f3G hD2 (by omega) y2])
          simp only [nI_0, sumM, Int32.add_zero] at LL
          simp [fX6_moved, bX6_moved, mI, sSeq, sIf, bNot, bZ, eCV, rF, rL, tp0 top, aI, eL, aN, aIs at1, q1, z_ne_bI, sNop, zCut, eF, rQ, aS2 at1, aQr at1 (show k < 10 by omega), x4, z0, sCV, tp3 top, aR, eC, fi, cl, tp4 top1, tp0 top1, fj, cm, sLi, zSt, sBlk, LL, fstB]
      · have ty1 := X7_tryNow (h := hm) (m := t + 387) (g := upd g 0 0) (R := R) (SV := SV) (TX := TX) (T := T) (AS := AS) c2 c5
        have wo1 := u2 hm (t + 387)
        have ty2 := X7_tryNow (h := hm) (m := t + 387) (g := g1) (R := R1) (SV := SV) (TX := TX) (T := T') (AS := A1) (nO := nO) (by rw [e1]; exact c2) c5
        have hu := w2 hm (t + 387)
        have wo2 := w6 hm (t + 387)
        have mv := mv_ref (t := t) (hm := hm) (g := g2) (R := va_up R1 2 S2) (SV := SV) (TX := TX) (T := va_up T' 6 T2) (AS := A2) (A := D1) (B := D2) (nO := nO) (k := k) (by rw [e2]; exact c2) c5 hk (fun j hj => by rw [va_up_ne _ _ (by omega), ← hT, up_self, ← u3 j hj]) (fun j hj => by rw [up_self, ← w3 j hj]) (nI c)
        have zg : z_ge (nI c) = true := by
          simp only [z_ge]
          exact decide_eq_true (by rw [← nI_0]; exact (nI_leI (by omega) (by have := ir.1; omega)).mpr (by omega))
        have o4' := o4 hm (upd g 0 0) SV
        simp [fX7_moved, bX7_moved, mI, sSeq, sF, rL, eC, wMo0, sIf, bNot, bZ, eCV, aI, eL, aN, isMo, q2, z_ne_bI, zCut, sNop, bCmp, eCS, aR, rF, rMr1, o4', z1, sCV, ty1, rMr10, wo1, ty2, rMr2, hu, sLi, zSt, rMr11, wo2, eB_bI, zg, show bI true = 1 from rfl, show z_ne 1 = true from rfl, sBlk, mv, sRi, eT]
        cases anyM (badM D1 D2) nO <;> simp [eOp, eL, eC]
    · have z0 : z_ne (sO (R 1) k 4) = true := by rw [hz]; rfl
      have z1 : o_eq (sO (R 1) k 4) 1 = true := by rw [hz]; rfl
      refine close0 (v := -2) (g' := upd g 0 0) top at1 vw iv ir his txt fcs md g4 g6 ?_ (fun hm => ?_) (by simp [upd]) (by simp [upd])
      · simp [fX6_moved, bX6_moved, mI, sSeq, sIf, bNot, bZ, eCV, rF, rL, tp0 top, aI, eL, aN, aIs at1, q1, z_ne_bI, eC, zCut, sNop, eF, rQ, aS2 at1, aQr at1 (show k < 10 by omega), x4, z0, sRi]
      · simp [fX7_moved, bX7_moved, mI, sSeq, sF, rL, eC, wMo0, sIf, bNot, bZ, eCV, aI, eL, aN, isMo, q2, z_ne_bI, zCut, sNop, bCmp, eCS, aR, rF, rMr1, o4, z1, sRi]
end ZCI
