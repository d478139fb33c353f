/-! the command order -/
section ZCL
variable {h : zH} {b L' t m nS nP nO c nh nt : Nat} {xs : Nat → Int32} {s pf N g SV TX tx AS : Nat → Int32} {P O L R T : Nat → Nat → Int32} {pi : Nat → Nat} {sh y sz d r : Int32}
theorem cntN_congr {A B : Nat → Bool} : ∀ n, (∀ k, k < n → A k = B k) → cntN A n = cntN B n
  | 0, _ => rfl
  | n + 1, e => by simp only [cntN, e n (by omega), cntN_congr n (fun k hk => e k (by omega))]
set_option maxRecDepth 100000 in
set_option maxHeartbeats 2000000 in
/-- the class's part behind the checks -/
theorem X6_order_ok {h1 : zH} {pl : Nat} (top : Top h b L' xs t) (at1 : At h (t + 1) s P pf pi O N L) (vw : Vw s P pf pi O N L (R 1) nS nP nO) (iv : Iv (R 1) nS nP nO) (ir : IvR (R 1) nO c) (hO : nO < 10) (hIs : isO h 1 (t + 55) = true)
    (r1 : fX1_record [.ref (t + 55), .ref (t + 1)] h = some h1) (top1 : Top h1 b L' xs t) (at2 : At h1 (t + 1) s P pf pi O N L) (txt : Txt h t nt TX) (t1 : nt ≤ 12) (t2 : h1.2 (t + 327) = some (cNm (t + 328) (nI nt))) (t3 : h1.2 (t + 328) = some (xI 12 tx)) (hz : z_eq (nI nt) = false)
    (e1 : fX5_hasShield [.ref (t + 1), .int sh] h = some (bI true, h)) (e2 : (decide (1 ≤ y) && decide (y ≤ 999)) = true) (e3 : (decide (1 ≤ sz) && decide (sz ≤ 4)) = true) (e4 : (decide (1 ≤ d) && decide (d ≤ 5)) = true)
    (e6 : fX5_plateOfYear [.ref (t + 1), .int sh, .int y] h = some (-9, h)) (e7 : fX5_isOrdered [.ref (t + 1), .int sh, .int y] h = some (bI false, h))
    (hr : (r = 1 ∧ pl = c) ∨ (r = 0 ∧ pl = nO)) :
    fX6_order [.ref t, .int sh, .int y, .int sz, .int d, .int r] h = some (nI pl, hS (hp h1 (t + 327) (cNm (t + 328) (nI 0))) (t + 1) (upd (upd s 5 (nI (nO + 1))) 6 (mvA (s 6) nO pl)) P pf (mvC pi nO pl) (va_up O (pi nO) (newO (O (pi nO)) sh y sz d r)) (va_up N (pi nO) (nI nt)) (va_up L (pi nO) (cpTo (L (pi nO)) tx 12))) := by
  have s5 : s 5 = nI nO := by rw [vw.1.2.2.1, iv.1.2.2.1]
  have hpi := vw.2.1.1
  have hj := hpi nO hO
  have x5 : rdI h 5 5 (t + 1) = some (nI nO) := by rw [aSx at1 (by omega) (by omega), s5]
  have x5' : rdI h1 5 5 (t + 1) = some (nI nO) := by rw [aSx at2 (by omega) (by omega), s5]
  obtain ⟨d1, -⟩ := dec_10 (nO := nO) (by omega)
  rw [decide_eq_false (by omega)] at d1
  have h01 : (decide (0 ≤ r) && decide (r ≤ 1)) = true := by rcases hr with ⟨rfl, -⟩ | ⟨rfl, -⟩ <;> decide
  have cpy := X2_copyFrom (h := hS h1 (t + 1) s P pf pi O N L) (b := t + 327) (lb := t + 328) (n := nt) (fb := tx) (s_n (h := h1) (lo := t + 1) (s := s) (P := P) (pf := pf) (pi := pi) (O := O) (N := N) (L := L) hj) (s_l (h := h1) (lo := t + 1) (s := s) (P := P) (pf := pf) (pi := pi) (O := O) (N := N) (L := L) hj) (by rw [hS_ne (by omega)]; exact t2) (by rw [hS_ne (by omega)]; exact t3) (by omega) (by omega) (by omega) (by omega) (by omega)
  rw [ws_n hj, ws_l hj, At_eq at2] at cpy
  have rn : rdR h1 3 0 (t + 1 + 24 + 3 * pi nO) = some (t + 1 + 24 + 3 * pi nO + 1) := rdR_of (a_o at2 hj) rfl
  have isn : isO h1 2 (t + 1 + 24 + 3 * pi nO + 1) = true := isO_of (a_n at2 hj)
  have tq2 := fun (O : Nat → Nat → Int32) (N : Nat → Int32) (L : Nat → Nat → Int32) => rdR_of (h := hS h1 (t + 1) s P pf pi O N L) (ci := 6) (k := 2) (a := t) (v := t + 327) (by rw [hS_ne (by omega)]; exact top1.2.2) rfl
  have wt := fun (O : Nat → Nat → Int32) (N : Nat → Int32) (L : Nat → Nat → Int32) => wrO_of (h := hS h1 (t + 1) s P pf pi O N L) (ci := 2) (k := 1) (a := t + 327) (v := .int (nI 0)) (fs := [.ref (t + 328), .int (nI nt)]) (by rw [hS_ne (by omega)]; exact t2) (by simp)
  simp only [show ∀ v w : Value, [Value.ref (t + 328), w].set 1 v = [Value.ref (t + 328), v] from fun _ _ => rfl, hp_hS (show t + 327 < t + 1 ∨ t + 1 + 54 ≤ t + 327 by omega)] at wt
  have wo1' := fun (O : Nat → Nat → Int32) (N : Nat → Int32) (L : Nat → Nat → Int32) (v : Int32) => wo1 (h := h1) (lo := t + 1) (s := s) (P := P) (pf := pf) (pi := pi) (O := O) (N := N) (L := L) hj v
  have wo2' := fun (O : Nat → Nat → Int32) (N : Nat → Int32) (L : Nat → Nat → Int32) (v : Int32) => wo2 (h := h1) (lo := t + 1) (s := s) (P := P) (pf := pf) (pi := pi) (O := O) (N := N) (L := L) hj v
  have wo3' := fun (O : Nat → Nat → Int32) (N : Nat → Int32) (L : Nat → Nat → Int32) (v : Int32) => wo3 (h := h1) (lo := t + 1) (s := s) (P := P) (pf := pf) (pi := pi) (O := O) (N := N) (L := L) hj v
  have wo4' := fun (O : Nat → Nat → Int32) (N : Nat → Int32) (L : Nat → Nat → Int32) (v : Int32) => wo4 (h := h1) (lo := t + 1) (s := s) (P := P) (pf := pf) (pi := pi) (O := O) (N := N) (L := L) hj v
  have wo5' := fun (O : Nat → Nat → Int32) (N : Nat → Int32) (L : Nat → Nat → Int32) (v : Int32) => wo5 (h := h1) (lo := t + 1) (s := s) (P := P) (pf := pf) (pi := pi) (O := O) (N := N) (L := L) hj v
  have nO' : ∀ o : Nat → Int32, upd (upd (upd (upd (upd o 0 sh) 1 y) 2 sz) 3 d) 4 r = newO o sh y sz d r := fun _ => rfl
  have rz : bI (o_eq r 1) = r := by rcases hr with ⟨rfl, -⟩ | ⟨rfl, -⟩ <;> rfl
  have r01 : r = 0 ∨ r = 1 := by rcases hr with ⟨e, -⟩ | ⟨e, -⟩ <;> first | exact .inr e | exact .inl e
  generalize hO2 : va_up O (pi nO) (newO (O (pi nO)) sh y sz d r) = O2
  generalize hN2 : va_up N (pi nO) (nI nt) = N2 at *
  generalize hL2 : va_up L (pi nO) (cpTo (L (pi nO)) tx 12) = L2 at *
  have tc : toC O2 pi nO = pl := by
    have o4 : O2 (pi nO) 4 = r := by rw [← hO2, va_up_self]; simp [newO, upd]
    have cn : cntN (rsC O2 pi) nO = c := by
      refine (cntN_congr nO (fun k hk => ?_)).trans (rs_view vw.2.2.2.2 ir)
      have e : pi k ≠ pi nO := fun e => by have := vw.2.1.2 _ _ (by omega) (by omega) e; omega
      simp only [rsC, ← hO2, va_up_ne _ _ e]
    simp only [toC, o4, cn]
    rcases hr with ⟨rfl, e⟩ | ⟨rfl, e⟩
    · rw [if_neg (by decide), e]
    · rw [if_pos rfl, e]
  have ti := X5_takeInOrder (h := hp h1 (t + 327) (cNm (t + 328) (nI 0))) (lo := t + 1) (s := s) (P := P) (pf := pf) (pi := pi) (O := O2) (N := N2) (L := L2) s5 hO hpi
  rw [tc] at ti
  have tq0 : rdR (hS (hp h1 (t + 327) (cNm (t + 328) (nI 0))) (t + 1) s P pf pi O2 N2 L2) 6 0 t = some (t + 1) := rdR_of (by rw [hS_ne (by omega), hp_ne _ _ (by omega)]; exact top1.2.2) rfl
  have wt' := wt O2 N2 L2
  simp only [nI_0] at wt' ti tq0 ⊢
  simp [fX6_order, bX6_order, mI, sSeq, sIf, bOr, bNot, bZ, eCV, rF, rL, tp0 top, aI, eL, aN, aIs at1, e1, z_ne_bI, eCS, X6_isYear, e2, X6_isSize, e3, X6_isDepth, e4, eC, X6_isWithin, h01, sNop, zCut, eF, tp2 top, tx_1 txt, hz, bCmp, e6, o_ne, e7, x5, d1, sCV, tp1 top, aR, hIs, r1, sLr, rQ, tp0 top1, aS2 at2, x5', aQr at2 hO, zSt, rn, isn, tp2 top1, cpy, sF, wo1', wo2', wo3', wo4', va_up_self, up_up, sFz, eB_bI, rz, r01, wo5', nO', hO2, tq2, wt', tq0, isS, ti, sRi]
set_option maxRecDepth 100000 in
set_option maxHeartbeats 2000000 in
theorem ord_b1 (v y sz d r : Int32) (hy : (decide (1 ≤ y) && decide (y ≤ 999)) = false) : Cmd fX6_order fX7_order [.int v, .int y, .int sz, .int d, .int r] := by
  intro h b L' xs t rl
  obtain ⟨g, R, SV, TX, T, AS, nh, nt, top, ⟨s, P, pf, pi, O, N, L, nS, nP, nO, c, at1, vw, iv, ir⟩, his, txt, fcs, md, g4, g6⟩ := rl
  have hnh := his_le his
  have hIs := his_is his
  obtain ⟨c0, c1, c2, c3, c4, c5⟩ := iv.1
  have s3 : s 3 = nI nP := by rw [vw.1.1, c1]
  have s5 : s 5 = nI nO := by rw [vw.1.2.2.1, c2]
  obtain ⟨q, q1, q2, q3⟩ := sh_both (R := R) at1 vw iv v
  cases q with
  | false =>
    refine close0 (v := -1) (g' := upd g 0 0) top at1 vw iv ir his txt fcs md g4 g6 ?_ (fun hm => ?_) (by simp [upd]) (by simp [upd])
    · simp [fX6_order, bX6_order, mI, sSeq, sIf, bOr, bNot, bZ, eCV, rF, rL, tp0 top, aI, eL, aN, aIs at1, q1, z_ne_bI, eC, zCut, sRi]
    · simp [fX7_order, bX7_order, mI, sSeq, sF, rL, eC, wMo0, sIf, bOr, bNot, bZ, eCV, aI, eL, aN, isMo, q2, z_ne_bI, zCut, sRi]
  | true =>
    refine close0 (v := -1) (g' := upd g 0 0) top at1 vw iv ir his txt fcs md g4 g6 ?_ (fun hm => ?_) (by simp [upd]) (by simp [upd])
    · simp [fX6_order, bX6_order, mI, sSeq, sIf, bOr, bNot, bZ, eCV, rF, rL, tp0 top, aI, eL, aN, aIs at1, q1, z_ne_bI, eCS, X6_isYear, hy, eC, zCut, sRi]
    · simp [fX7_order, bX7_order, mI, sSeq, sF, rL, eC, wMo0, sIf, bOr, bNot, bZ, eCV, aI, eL, aN, isMo, q2, z_ne_bI, eCS, X7_isYear, hy, zCut, sRi]
set_option maxRecDepth 100000 in
set_option maxHeartbeats 2000000 in
theorem ord_b2 (v y sz d r : Int32) (hy : (decide (1 ≤ y) && decide (y ≤ 999)) = true) (hs : (decide (1 ≤ sz) && decide (sz ≤ 4)) = false) : Cmd fX6_order fX7_order [.int v, .int y, .int sz, .int d, .int r] := by
  intro h b L' xs t rl
  obtain ⟨g, R, SV, TX, T, AS, nh, nt, top, ⟨s, P, pf, pi, O, N, L, nS, nP, nO, c, at1, vw, iv, ir⟩, his, txt, fcs, md, g4, g6⟩ := rl
  have hnh := his_le his
  have hIs := his_is his
  obtain ⟨c0, c1, c2, c3, c4, c5⟩ := iv.1
  have s3 : s 3 = nI nP := by rw [vw.1.1, c1]
  have s5 : s 5 = nI nO := by rw [vw.1.2.2.1, c2]
  obtain ⟨q, q1, q2, q3⟩ := sh_both (R := R) at1 vw iv v
  cases q with
  | false =>
    refine close0 (v := -1) (g' := upd g 0 0) top at1 vw iv ir his txt fcs md g4 g6 ?_ (fun hm => ?_) (by simp [upd]) (by simp [upd])
    · simp [fX6_order, bX6_order, mI, sSeq, sIf, bOr, bNot, bZ, eCV, rF, rL, tp0 top, aI, eL, aN, aIs at1, q1, z_ne_bI, eC, zCut, sRi]
    · simp [fX7_order, bX7_order, mI, sSeq, sF, rL, eC, wMo0, sIf, bOr, bNot, bZ, eCV, aI, eL, aN, isMo, q2, z_ne_bI, zCut, sRi]
  | true =>
    refine close0 (v := -1) (g' := upd g 0 0) top at1 vw iv ir his txt fcs md g4 g6 ?_ (fun hm => ?_) (by simp [upd]) (by simp [upd])
    · simp [fX6_order, bX6_order, mI, sSeq, sIf, bOr, bNot, bZ, eCV, rF, rL, tp0 top, aI, eL, aN, aIs at1, q1, z_ne_bI, eCS, X6_isYear, hy, X6_isSize, hs, eC, zCut, sRi]
    · simp [fX7_order, bX7_order, mI, sSeq, sF, rL, eC, wMo0, sIf, bOr, bNot, bZ, eCV, aI, eL, aN, isMo, q2, z_ne_bI, eCS, X7_isYear, hy, X7_in, hs, zCut, sRi]
set_option maxRecDepth 100000 in
set_option maxHeartbeats 2000000 in
theorem ord_b3 (v y sz d r : Int32) (hy : (decide (1 ≤ y) && decide (y ≤ 999)) = true) (hs : (decide (1 ≤ sz) && decide (sz ≤ 4)) = true) (hd : (decide (1 ≤ d) && decide (d ≤ 5)) = false) : Cmd fX6_order fX7_order [.int v, .int y, .int sz, .int d, .int r] := by
  intro h b L' xs t rl
  obtain ⟨g, R, SV, TX, T, AS, nh, nt, top, ⟨s, P, pf, pi, O, N, L, nS, nP, nO, c, at1, vw, iv, ir⟩, his, txt, fcs, md, g4, g6⟩ := rl
  have hnh := his_le his
  have hIs := his_is his
  obtain ⟨c0, c1, c2, c3, c4, c5⟩ := iv.1
  have s3 : s 3 = nI nP := by rw [vw.1.1, c1]
  have s5 : s 5 = nI nO := by rw [vw.1.2.2.1, c2]
  obtain ⟨q, q1, q2, q3⟩ := sh_both (R := R) at1 vw iv v
  cases q with
  | false =>
    refine close0 (v := -1) (g' := upd g 0 0) top at1 vw iv ir his txt fcs md g4 g6 ?_ (fun hm => ?_) (by simp [upd]) (by simp [upd])
    · simp [fX6_order, bX6_order, mI, sSeq, sIf, bOr, bNot, bZ, eCV, rF, rL, tp0 top, aI, eL, aN, aIs at1, q1, z_ne_bI, eC, zCut, sRi]
    · simp [fX7_order, bX7_order, mI, sSeq, sF, rL, eC, wMo0, sIf, bOr, bNot, bZ, eCV, aI, eL, aN, isMo, q2, z_ne_bI, zCut, sRi]
  | true =>
    refine close0 (v := -1) (g' := upd g 0 0) top at1 vw iv ir his txt fcs md g4 g6 ?_ (fun hm => ?_) (by simp [upd]) (by simp [upd])
    · simp [fX6_order, bX6_order, mI, sSeq, sIf, bOr, bNot, bZ, eCV, rF, rL, tp0 top, aI, eL, aN, aIs at1, q1, z_ne_bI, eCS, X6_isYear, hy, X6_isSize, hs, X6_isDepth, hd, eC, zCut, sRi]
    · simp [fX7_order, bX7_order, mI, sSeq, sF, rL, eC, wMo0, sIf, bOr, bNot, bZ, eCV, aI, eL, aN, isMo, q2, z_ne_bI, eCS, X7_isYear, hy, X7_in, hs, hd, zCut, sRi]
set_option maxRecDepth 100000 in
set_option maxHeartbeats 2000000 in
theorem ord_b4 (v y sz d r : Int32) (hy : (decide (1 ≤ y) && decide (y ≤ 999)) = true) (hs : (decide (1 ≤ sz) && decide (sz ≤ 4)) = true) (hd : (decide (1 ≤ d) && decide (d ≤ 5)) = true) (hr : (decide (0 ≤ r) && decide (r ≤ 1)) = false) : Cmd fX6_order fX7_order [.int v, .int y, .int sz, .int d, .int r] := by
  intro h b L' xs t rl
  obtain ⟨g, R, SV, TX, T, AS, nh, nt, top, ⟨s, P, pf, pi, O, N, L, nS, nP, nO, c, at1, vw, iv, ir⟩, his, txt, fcs, md, g4, g6⟩ := rl
  have hnh := his_le his
  have hIs := his_is his
  obtain ⟨c0, c1, c2, c3, c4, c5⟩ := iv.1
  have s3 : s 3 = nI nP := by rw [vw.1.1, c1]
  have s5 : s 5 = nI nO := by rw [vw.1.2.2.1, c2]
  obtain ⟨q, q1, q2, q3⟩ := sh_both (R := R) at1 vw iv v
  cases q with
  | false =>
    refine close0 (v := -1) (g' := upd g 0 0) top at1 vw iv ir his txt fcs md g4 g6 ?_ (fun hm => ?_) (by simp [upd]) (by simp [upd])
    · simp [fX6_order, bX6_order, mI, sSeq, sIf, bOr, bNot, bZ, eCV, rF, rL, tp0 top, aI, eL, aN, aIs at1, q1, z_ne_bI, eC, zCut, sRi]
    · simp [fX7_order, bX7_order, mI, sSeq, sF, rL, eC, wMo0, sIf, bOr, bNot, bZ, eCV, aI, eL, aN, isMo, q2, z_ne_bI, zCut, sRi]
  | true =>
    refine close0 (v := -1) (g' := upd g 0 0) top at1 vw iv ir his txt fcs md g4 g6 ?_ (fun hm => ?_) (by simp [upd]) (by simp [upd])
    · simp [fX6_order, bX6_order, mI, sSeq, sIf, bOr, bNot, bZ, eCV, rF, rL, tp0 top, aI, eL, aN, aIs at1, q1, z_ne_bI, eCS, X6_isYear, hy, X6_isSize, hs, X6_isDepth, hd, X6_isWithin, hr, eC, zCut, sRi]
    · simp [fX7_order, bX7_order, mI, sSeq, sF, rL, eC, wMo0, sIf, bOr, bNot, bZ, eCV, aI, eL, aN, isMo, q2, z_ne_bI, eCS, X7_isYear, hy, X7_in, hs, hd, hr, zCut, sRi]
set_option maxRecDepth 100000 in
set_option maxHeartbeats 2000000 in
theorem ord_take {j : Nat} (top : Top h b L' xs t) (at1 : At h (t + 1) s P pf pi O N L) (vw : Vw s P pf pi O N L (R 1) nS nP nO) (iv : Iv (R 1) nS nP nO) (ir : IvR (R 1) nO c) (his : His h t nh SV) (txt : Txt h t nt TX) (fcs : Fcs h t) (md : Mod h (t + 387) g R SV TX T AS) (g4 : g 4 = nI nh) (g6 : g 6 = nI nt) (hj : j < nS)
    (q1 : fX5_hasShield [.ref (t + 1), .int (nI j)] h = some (bI true, h)) (q2 : ∀ hm g SV TX T AS, fX7_isShield [.ref (t + 387), .int (nI j)] (hM hm (t + 387) g R SV TX T AS) = some (bI true, hM hm (t + 387) g R SV TX T AS)) (hy : (decide (1 ≤ y) && decide (y ≤ 999)) = true) (hs : (decide (1 ≤ sz) && decide (sz ≤ 4)) = true) (hd : (decide (1 ≤ d) && decide (d ≤ 5)) = true) (hr : (decide (0 ≤ r) && decide (r ≤ 1)) = true) (hz : z_eq (nI nt) = false)
    (cp : fX5_plateOfYear [.ref (t + 1), .int (nI j), .int y] h = some (-9, h)) (rp : ∀ (hm : zH) (g : Nat → Int32), fX7_plateOn [.ref (t + 387 + 1), .int (nI j), .int y] (hM hm (t + 387) g R SV TX T AS) = some (-9, hM hm (t + 387) g R SV TX T AS)) (hl : lastO (onY (R 1) (nI j) y) nP = none) (co : fX5_isOrdered [.ref (t + 1), .int (nI j), .int y] h = some (bI false, h)) (ha : anyM (orY (R 1) (nI j) y) nO = false) (hn : ¬ nO = 10) :
    ∃ v h1 h2, fX6_order (.ref t :: [.int (nI j), .int y, .int sz, .int d, .int r]) h = some (v, h1) ∧ fX7_order (.ref (t + 387) :: [.int (nI j), .int y, .int sz, .int d, .int r]) h1 = some (v, h2) ∧ Rl h2 b L' xs t ∧ h1.2 b = some (xS L' xs) ∧ isO h1 7 (t + 387) = true := by
  have hnh := his_le his
  have hIs := his_is his
  obtain ⟨c0, c1, c2, c3, c4, c5⟩ := iv.1
  obtain ⟨h1, r1, top1, at2, his1, txt1, fcs1, md1⟩ := both_rec top at1 vw iv ir his txt fcs md
  obtain ⟨t1, t2, tx, t3, t4⟩ := txt1
  have nt0 : 1 ≤ nt := by
    refine Nat.pos_of_ne_zero fun e => ?_
    rw [e] at hz
    exact absurd hz (by decide)
  obtain ⟨ri, hri, hre⟩ := in_nI (v := r) (n := 1) (by omega) hr
  have hrr : ∃ pl c', pl ≤ nO ∧ ((r = 1 ∧ pl = c ∧ c' = c + 1) ∨ (r = 0 ∧ pl = nO ∧ c' = c)) := by
    rcases (show ri = 0 ∨ ri = 1 by omega) with e | e
    · exact ⟨nO, c, Nat.le_refl _, .inr ⟨by rw [hre, e]; rfl, rfl, rfl⟩⟩
    · exact ⟨c, c + 1, ir.1, .inl ⟨by rw [hre, e]; rfl, rfl, rfl⟩⟩
  obtain ⟨pl, c', hpl, hpc⟩ := hrr
  have hrp : (r = 1 ∧ pl = c) ∨ (r = 0 ∧ pl = nO) := by
    rcases hpc with ⟨a, b, -⟩ | ⟨a, b, -⟩ <;> first | exact .inl ⟨a, b⟩ | exact .inr ⟨a, b⟩
  simp only [Bool.and_eq_true, decide_eq_true_eq] at hy hd
  have va := nw_VA (AS := AS) (o := O (pi nO)) (l := L (pi nO)) (sh := nI j) (y := y) (sz := sz) (d := d) (r := r) t1 t4
  obtain ⟨v1, i1⟩ := order_view (A := newA AS TX nt (nI j) y sz d r) (pl := pl) (sh := j) (y := y) (O' := va_up O (pi nO) (newO (O (pi nO)) (nI j) y sz d r)) (N' := va_up N (pi nO) (nI nt)) (L' := va_up L (pi nO) (cpTo (L (pi nO)) tx 12)) vw iv (by omega) hpl (fun i hi => va_up_ne _ _ hi) (fun i hi => va_up_ne _ _ hi) (fun i hi => va_up_ne _ _ hi) (by rw [va_up_self, va_up_self, va_up_self]; exact va) nwA0 hj nwA1 hy.1 hy.2 (by rw [nwA3]; exact Int32.le_trans (by decide) hd.1) (by rw [nwA4]; rcases hpc with ⟨e, -⟩ | ⟨e, -⟩ <;> first | exact .inr e | exact .inl e) (by rw [nwA5, nC_nI (by omega)]) (by rw [nwA5, nC_nI (by omega)]; exact nt0) (by rw [nwA5, nC_nI (by omega)]; exact t1) (lastO_none nP hl) (anyM_none nO ha)
  have i2 : IvR (opPut (R 1) (newA AS TX nt (nI j) y sz d r) pl nO) (nO + 1) c' := by
    obtain ⟨k1, k2⟩ := order_R (A := newA AS TX nt (nI j) y sz d r) (r := r) ir nwA4 (by rcases hpc with ⟨e, -⟩ | ⟨e, -⟩ <;> first | exact .inr e | exact .inl e)
    rcases hpc with ⟨e, e1, e2⟩ | ⟨e, e1, e2⟩
    · rw [e1, e2]; exact k1 e
    · rw [e1, e2]; exact k2 e
  generalize hA : newA AS TX nt (nI j) y sz d r = A at *
  have e1 : (va_up R 1 (opPut (R 1) A pl nO)) 1 = opPut (R 1) A pl nO := up_self _ _
  have cl := X6_order_ok (R := R) (pl := pl) (sh := nI j) (y := y) (sz := sz) (d := d) (r := r) top at1 vw iv ir (show nO < 10 by omega) hIs r1 top1 at2 txt t1 t2 t3 hz q1 (by simp [hy]) hs (by simp [hd]) cp co hrp
  have ne : ∀ x, x ≠ t + 327 → (hp h1 (t + 327) (cNm (t + 328) (nI 0))).2 x = h1.2 x := fun x hx => hp_ne _ _ hx
  refine close1 (v := nI pl) (g' := upd (upd (upd g 0 0) 4 (nI (acN nh + 1))) 6 0) (SV' := acV SV (R 1) nh) (TX' := TX) (R' := va_up R 1 (opPut (R 1) A pl nO)) (T' := T) (AS' := A) (nt := 0) (Top_keep top1 (fun x hx => ne x (by omega))) (His_keep his1 (fun x a b => ne x (by omega))) ⟨by omega, hp_self _ _ _, tx, by rw [ne _ (by omega)]; exact t3, fun x hx => by omega⟩ (Fcs_keep fcs1 (fun x a b => ne x (by omega))) (Mod_keep md1 (fun x a b => ne x (by omega))) (by rw [e1]; exact v1) (by rw [e1]; exact i1) (by rw [e1]; exact i2) (by rw [upd_ne (by omega), upd_self]) (by rw [upd_self]; rfl) cl (fun hm => ?_)
  have rf := X7_order_ok (hm := hm) (m := t + 387) (R := R) (SV := SV) (TX := TX) (T := T) (AS := AS) (pl := pl) (sh := nI j) (y := y) (sz := sz) (d := d) (r := r) c2 (show nO < 10 by omega) ir g4 g6 hnh t1 hz (fun hm g => q2 hm g SV TX T AS) (by simp [hy]) hs (by simp [hd]) rp ha hrp
  rw [hA] at rf
  exact rf
set_option maxRecDepth 100000 in
set_option maxHeartbeats 2000000 in
theorem ord_good (v y sz d r : Int32) (hy : (decide (1 ≤ y) && decide (y ≤ 999)) = true) (hs : (decide (1 ≤ sz) && decide (sz ≤ 4)) = true) (hd : (decide (1 ≤ d) && decide (d ≤ 5)) = true) (hr : (decide (0 ≤ r) && decide (r ≤ 1)) = true) : Cmd fX6_order fX7_order [.int v, .int y, .int sz, .int d, .int r] := by
  intro h b L' xs t rl
  obtain ⟨g, R, SV, TX, T, AS, nh, nt, top, ⟨s, P, pf, pi, O, N, L, nS, nP, nO, c, at1, vw, iv, ir⟩, his, txt, fcs, md, g4, g6⟩ := rl
  have hnh := his_le his
  have hIs := his_is his
  obtain ⟨c0, c1, c2, c3, c4, c5⟩ := iv.1
  have s3 : s 3 = nI nP := by rw [vw.1.1, c1]
  have s5 : s 5 = nI nO := by rw [vw.1.2.2.1, c2]
  obtain ⟨q, q1, q2, q3⟩ := sh_both (R := R) at1 vw iv v
  cases q with
  | false =>
    refine close0 (v := -1) (g' := upd g 0 0) top at1 vw iv ir his txt fcs md g4 g6 ?_ (fun hm => ?_) (by simp [upd]) (by simp [upd])
    · simp [fX6_order, bX6_order, mI, sSeq, sIf, bOr, bNot, bZ, eCV, rF, rL, tp0 top, aI, eL, aN, aIs at1, q1, z_ne_bI, eC, zCut, sRi]
    · simp [fX7_order, bX7_order, mI, sSeq, sF, rL, eC, wMo0, sIf, bOr, bNot, bZ, eCV, aI, eL, aN, isMo, q2, z_ne_bI, zCut, sRi]
  | true =>
    obtain ⟨j, hj, rfl⟩ := q3 rfl
    have r6 := fun hm : zH => rMo6 (h := hm) (m := t + 387) (g := upd g 0 0) (R := R) (SV := SV) (TX := TX) (T := T) (AS := AS)
    simp only [upd_ne (show 6 ≠ 0 by omega), g6] at r6
    cases hz : z_eq (nI nt) with
    | true =>
      refine close0 (v := -2) (g' := upd g 0 0) top at1 vw iv ir his txt fcs md g4 g6 ?_ (fun hm => ?_) (by simp [upd]) (by simp [upd])
      · simp [fX6_order, bX6_order, mI, sSeq, sIf, bOr, bNot, bZ, eCV, rF, rL, tp0 top, aI, eL, aN, aIs at1, q1, z_ne_bI, eCS, X6_isYear, hy, X6_isSize, hs, X6_isDepth, hd, X6_isWithin, hr, eC, zCut, sNop, eF, tp2 top, tx_1 txt, hz, sRi]
      · simp [fX7_order, bX7_order, mI, sSeq, sF, rL, eC, wMo0, sIf, bOr, bNot, bZ, eCV, aI, eL, aN, isMo, q2, z_ne_bI, eCS, X7_isYear, hy, X7_in, hs, hd, hr, zCut, sNop, eF, r6, hz, sRi]
    | false =>
      have cp := X5_plateOfYear (h := h) (lo := t + 1) (s := s) (P := P) (pf := pf) (pi := pi) (O := O) (N := N) (L := L) s3 c4 (nI j) y
      rw [At_eq at1, plateOf_view vw.2.2.1 iv.2.2.2.2 (show j < 2 ^ 31 by omega) y] at cp
      have rp := fun (hm : zH) (g : Nat → Int32) => X7_plateOn (h := hM hm (t + 387) g R SV TX T AS) (nP := nP) (hM_r (i := 1) (.inl rfl)) c1 c4 (nI j) y
      simp only [lastM_O] at rp
      cases hl : lastO (onY (R 1) (nI j) y) nP with
      | some k =>
        rw [hl] at cp
        simp only [hl, toI] at cp rp
        have k9 : o_ne (nI k) (-9) = true := by simp [o_ne, nI_ne9 (show k < 2 ^ 31 by have := (lastO_lt hl).1; omega)]
        refine close0 (v := -2) (g' := upd g 0 0) top at1 vw iv ir his txt fcs md g4 g6 ?_ (fun hm => ?_) (by simp [upd]) (by simp [upd])
        · simp [fX6_order, bX6_order, mI, sSeq, sIf, bOr, bNot, bZ, eCV, rF, rL, tp0 top, aI, eL, aN, aIs at1, q1, z_ne_bI, eCS, X6_isYear, hy, X6_isSize, hs, X6_isDepth, hd, X6_isWithin, hr, eC, zCut, sNop, eF, tp2 top, tx_1 txt, hz, bCmp, cp, k9, sRi]
        · simp [fX7_order, bX7_order, mI, sSeq, sF, rL, eC, wMo0, sIf, bOr, bNot, bZ, eCV, aI, eL, aN, isMo, q2, z_ne_bI, eCS, X7_isYear, hy, X7_in, hs, hd, hr, zCut, sNop, eF, r6, hz, bCmp, aR, rF, rMr1, rp, k9, sRi]
      | none =>
        rw [hl] at cp
        simp only [hl, toI] at cp rp
        have k9 : o_ne (-9) (-9) = false := rfl
        have co := X5_isOrdered (h := h) (lo := t + 1) (s := s) (P := P) (pf := pf) (pi := pi) (O := O) (N := N) (L := L) (nO := nO) s5 c5 vw.2.1.1 (nI j) y
        rw [At_eq at1, isOrd_view vw.2.2.2.2] at co
        have io := fun (hm : zH) (g : Nat → Int32) => X7_isOrdered (h := hM hm (t + 387) g R SV TX T AS) hM_0 hM_1 c2 c5 (nI j) y
        cases ha : anyM (orY (R 1) (nI j) y) nO with
        | true =>
          rw [ha] at co
          simp only [ha] at io
          refine close0 (v := -2) (g' := upd g 0 0) top at1 vw iv ir his txt fcs md g4 g6 ?_ (fun hm => ?_) (by simp [upd]) (by simp [upd])
          · simp [fX6_order, bX6_order, mI, sSeq, sIf, bOr, bNot, bZ, eCV, rF, rL, tp0 top, aI, eL, aN, aIs at1, q1, z_ne_bI, eCS, X6_isYear, hy, X6_isSize, hs, X6_isDepth, hd, X6_isWithin, hr, eC, zCut, sNop, eF, tp2 top, tx_1 txt, hz, bCmp, cp, k9, co, sRi]
          · simp [fX7_order, bX7_order, mI, sSeq, sF, rL, eC, wMo0, sIf, bOr, bNot, bZ, eCV, aI, eL, aN, isMo, q2, z_ne_bI, eCS, X7_isYear, hy, X7_in, hs, hd, hr, zCut, sNop, eF, r6, hz, bCmp, aR, rF, rMr1, rp, k9, io, sRi]
        | false =>
          rw [ha] at co
          simp only [ha] at io
          obtain ⟨d1, d2⟩ := dec_10 c5
          have x5 : rdI h 5 5 (t + 1) = some (nI nO) := by rw [aSx at1 (by omega) (by omega), s5]
          have a2 := fun (hm : zH) (g : Nat → Int32) => hd2 (h := hM hm (t + 387) g R SV TX T AS) (hM_r (i := 1) (.inl rfl))
          simp only [c2] at a2
          by_cases hn : nO = 10
          · rw [decide_eq_true hn] at d1 d2
            refine close0 (v := -3) (g' := upd g 0 0) top at1 vw iv ir his txt fcs md g4 g6 ?_ (fun hm => ?_) (by simp [upd]) (by simp [upd])
            · simp [fX6_order, bX6_order, mI, sSeq, sIf, bOr, bNot, bZ, eCV, rF, rL, tp0 top, aI, eL, aN, aIs at1, q1, z_ne_bI, eCS, X6_isYear, hy, X6_isSize, hs, X6_isDepth, hd, X6_isWithin, hr, eC, zCut, sNop, eF, tp2 top, tx_1 txt, hz, bCmp, cp, k9, co, x5, d1, sRi]
            · simp [fX7_order, bX7_order, mI, sSeq, sF, rL, eC, wMo0, sIf, bOr, bNot, bZ, eCV, aI, eL, aN, isMo, q2, z_ne_bI, eCS, X7_isYear, hy, X7_in, hs, hd, hr, zCut, sNop, eF, r6, hz, bCmp, aR, rF, rMr1, rp, k9, io, eA, a2, d2, sRi]
          · exact ord_take top at1 vw iv ir his txt fcs md g4 g6 hj q1 q2 hy hs hd hr hz cp rp hl co ha hn
set_option maxRecDepth 100000 in
set_option maxHeartbeats 2000000 in
theorem cmd_order (v y sz d r : Int32) : Cmd fX6_order fX7_order [.int v, .int y, .int sz, .int d, .int r] := by
  cases hy : (decide (1 ≤ y) && decide (y ≤ 999)) with
  | false => exact ord_b1 v y sz d r hy
  | true =>
    cases hs : (decide (1 ≤ sz) && decide (sz ≤ 4)) with
    | false => exact ord_b2 v y sz d r hy hs
    | true =>
      cases hd : (decide (1 ≤ d) && decide (d ≤ 5)) with
      | false => exact ord_b3 v y sz d r hy hs hd
      | true =>
        cases hr : (decide (0 ≤ r) && decide (r ≤ 1)) with
        | false => exact ord_b4 v y sz d r hy hs hd hr
        | true => exact ord_good v y sz d r hy hs hd hr
end ZCL
