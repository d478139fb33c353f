/-! the commands: slip, undo -/
section ZC7
variable {h : zH} {b L' t nS nP nO c nh nt : Nat} {xs : Nat → Int32} {s pf N g SV TX AS : Nat → Int32} {P O L R T : Nat → Nat → Int32} {pi : Nat → Nat}
set_option maxRecDepth 100000 in
set_option maxHeartbeats 1000000 in
theorem cmd_slip : Cmd fX6_slip fX7_slip [] := by
  intro h b L' xs t rl
  obtain ⟨g, R, SV, TX, T, AS, nh, nt, top, ⟨s, P, pf, pi, O, N, L, nS, nP, nO, c, at1, vw, iv, ir⟩, his, txt, fcs, md, g4, g6⟩ := rl
  have hnh := his_le his
  have hIs := his_is his
  obtain ⟨c0, c1, c2, c3, c4, c5⟩ := iv.1
  have s3 : s 3 = nI nP := by rw [vw.1.1, c1]
  have s5 : s 5 = nI nO := by rw [vw.1.2.2.1, c2]
  have wk := X5_isWorking (h := h) (lo := t + 1) (s := s) (P := P) (pf := pf) (pi := pi) (O := O) (N := N) (L := L)
  rw [At_eq at1] at wk
  by_cases hz : R 1 3 = -9
  · rw [wk_not (by rw [vw.1.2.2.2.1, hz])] at wk
    have r3 := fun (hm : zH) (g SV : Nat → Int32) => hd3 (h := hM hm (t + 387) g R SV TX T AS) (hM_r (i := 1) (.inl rfl))
    simp only [hz] at r3
    refine close0 (v := -2) (g' := upd g 0 0) top at1 vw iv ir his txt fcs md g4 g6 ?_ (fun hm => ?_) (by simp [upd]) (by simp [upd])
    · simp [fX6_slip, bX6_slip, mI, sSeq, sIf, bNot, bZ, eCV, rF, rL, tp0 top, aN, aIs at1, wk, z_ne_bI, eC, zCut, sRi]
    · simp [fX7_slip, bX7_slip, mI, sSeq, sF, rL, eC, wMo0, sIf, bCmp, eA, rF, rMr1, r3, o_eq, zCut, sRi]
  · obtain ⟨k, p, sd, a⟩ := IvW_at iv hz
    obtain ⟨a3, ak, a5, ap, a6, asd, a2⟩ := id a
    have s6 : s 6 = nI k := by rw [vw.1.2.2.2.1, a3]
    have s7 : s 7 = nI p := by rw [vw.1.2.2.2.2.1, a5]
    rw [wk_of s5 c5 s3 c4 s6 ak s7 ap] at wk
    obtain ⟨h1, r1, top1, at2, his1, txt1, fcs1, md1⟩ := both_rec top at1 vw iv ir his txt fcs md
    obtain ⟨m1, v1, i1⟩ := slip_view vw iv ak ap asd a3 a5 a6 a2
    have nC5 : N (pi k) = nI (nC N (pi k)) := by
      rw [nC_view vw.2.2.2.2 ak, (vw.2.2.2.2 k ak).2.2.2.2.2.1]
      exact (hl_of iv k ak).1
    have ms := X5_misspell (h := h1) (lo := t + 1) (s := s) (P := P) (pf := pf) (pi := pi) (O := O) (N := N) (L := L) (k := k) (p := p) s3 c4 s5 c5 s6 ak s7 ap vw.2.1.1 nC5
    rw [At_eq at2, m1] at ms
    have e1 : (va_up R 1 (opSlip (R 1) k p sd)) 1 = opSlip (R 1) k p sd := up_self _ _
    have eO : ∀ j, sO (opSlip (R 1) k p sd) j 4 = sO (R 1) j 4 := fun j => by
      have q : ∀ x, 150 ≤ x → slS (R 1) k p sd x = R 1 x := fun x hx => by simp only [slS]; rw [upd_ne (by omega), upd_ne (by omega)]
      show opSlip (R 1) k p sd (153 + 19 * j + 4) = R 1 (153 + 19 * j + 4)
      unfold opSlip
      by_cases h1 : rdyM (slS (R 1) k p sd) p (1 - sd) (sO (R 1) k 3) = true
      · rw [if_pos h1, upd_ne (by omega), upd_ne (by omega), q _ (by omega)]
      · rw [if_neg h1]
        by_cases h2 : gndM (slS (R 1) k p sd) p sd (sO (R 1) k 3) = true
        · rw [if_pos h2, upd_ne (by omega), opGrind_hd' (by omega) (by omega) asd, q _ (by omega)]
        · rw [if_neg h2, opRest_ge (by omega), upd_ne (by omega), q _ (by omega)]
    refine close1 (v := slA (R 1) k p sd) (g' := upd (upd g 0 0) 4 (nI (acN nh + 1))) (R' := va_up R 1 (opSlip (R 1) k p sd)) (T' := T) (AS' := AS) top1 his1 txt1 fcs1 md1 (by rw [e1]; exact v1) (by rw [e1]; exact i1) (by rw [e1]; exact R_same ir eO) (by rw [upd_self]) (by simp [upd, g6]) ?_ (fun hm => X7_slip_ok iv a g4 hnh)
    have ms' : fX5_misspell [.ref (t + 1)] h1 = some (slA (R 1) k p sd, hS h1 (t + 1) (msS s (P p) (O (pi k) 3) (efC pi O N k)) (va_up P p (msP (P p) (s 8) (O (pi k) 3))) pf pi O N L) := ms
    simp [fX6_slip, bX6_slip, mI, sSeq, sIf, bNot, bZ, eCV, rF, rL, tp0 top, aN, aIs at1, wk, z_ne_bI, eC, zCut, sNop, sCV, tp1 top, aR, hIs, r1, tp0 top1, aIs at2, ms', sRi]
set_option maxRecDepth 100000 in
/-- the latest state is brought back -/
theorem restore_rel {n : Nat} {V : Nat → Int32} (w : His h t (n + 1) V) (u : Any h (t + 1)) : ∃ h', fX1_restoreLatest [.ref (t + 55), .ref (t + 1)] h = some h' ∧ (∀ x, x < t + 1 ∨ t + 327 ≤ x → h'.2 x = h.2 x) ∧ His h' t n V ∧ Shw h' (t + 1) (blk V n) := by
  obtain ⟨ro, h5, h0, h1, hn', ha, hs⟩ := w
  have rn := h5.1 n (by omega)
  have w1 := hi_w h0 n
  generalize hH : hp h (t + 55) (cHi t n) = H at w1
  have kH : ∀ x, x ≠ t + 55 → H.2 x = h.2 x := fun x a => by rw [← hH, hp_ne _ _ a]
  have H0 : H.2 (t + 55) = some (cHi t n) := by rw [← hH, hp_self]
  have H1 : H.2 (t + 56) = some (xR 5 5 (rfH t ro)) := by rw [kH _ (by omega)]; exact h1
  obtain ⟨h', c1, c2, c3, c4⟩ := copy_to (Shw_keep (hs n (by omega)) (fun x a b => kH x (by omega))) (Any_keep u (fun x a b => kH x (by omega))) (by omega)
  refine ⟨h', ?_, fun x hx => by rw [c3 x (by omega), kH x (by omega)], ⟨ro, h5, by rw [c3 _ (by omega)]; exact H0, by rw [c3 _ (by omega)]; exact H1, by omega, fun k hk => Any_keep (ha k hk) (fun x a b => by rw [c3 x (by omega), kH x (by omega)]), fun k hk => ?_⟩, c4⟩
  · have r1 := hi_1 h0
    have zg : z_gt (nI (n + 1)) = true := by
      simp only [z_gt]
      exact decide_eq_true (by rw [← nI_0]; exact (nI_ltI (by omega) (by omega)).mpr (by omega))
    have uH : isO H 5 (t + 1) = true := Any_is (Any_keep u (fun x a b => kH x (by omega)))
    have e1 : nI (n + 1) - 1 = nI n := by rw [nI_sub1 (by omega)]; rfl
    simp [fX1_restoreLatest, bX1_restoreLatest, mV, sSeq, sIf, bZ, eF, rL, r1, zg, sFa, eC, e1, w1, sCV, aR, rQ, rF, hi_0 H0, hi_1 H0, hi_q H1 (show n < 5 by omega), aN, uH, c1, zCut, sRv]
  · have rk := h5.1 k (by omega)
    exact Shw_keep (hs k (by omega)) (fun x a b => by rw [c3 x (by omega), kH x (by omega)])
set_option maxRecDepth 100000 in
theorem X7_undo_ok {hm : zH} {m n : Nat} (hg : g 4 = nI (n + 1)) (hn : n < 5) : fX7_undo [.ref m] (hM hm m g R SV TX T AS) = some (nI n, hM hm m (upd (upd g 0 0) 4 (nI n)) (va_up R 1 (cpTo (R 1) (blk SV n) 343)) SV TX T AS) := by
  have e1 : nI (n + 1) - 1 = nI n := by rw [nI_sub1 (by omega)]; rfl
  have r4 := rMo4 (h := hm) (m := m) (g := upd g 0 0) (R := R) (SV := SV) (TX := TX) (T := T) (AS := AS)
  rw [upd_ne (by omega), hg] at r4
  have ze : z_eq (nI (n + 1)) = false := by
    simp only [z_eq]
    exact decide_eq_false (fun e => by have := (nI_eqI (show n + 1 < 2 ^ 31 by omega) (show 0 < 2 ^ 31 by omega)).mp (e.trans nI_0.symm); omega)
  generalize hg' : upd (upd g 0 0) 4 (nI n) = g'
  have g4' : g' 4 = nI n := by rw [← hg', upd_self]
  have r4' := fun (R : Nat → Nat → Int32) => rMo4 (h := hm) (m := m) (g := g') (R := R) (SV := SV) (TX := TX) (T := T) (AS := AS)
  simp only [g4'] at r4'
  have LL := sW_run (c := bCmp o_lt (eL 1) (eC 343)) (f := sSeq (sA (rF 7 1 (rL 0)) (eL 1) (eA (rF 7 3 (rL 0)) (eOp (· + ·) (eOp (· * ·) (eC 343) (eF 7 4 (rL 0))) (eL 1)))) (sInc 1 1)) (fun y => ([.ref m, .int (nI y)], hM hm m g' (va_up R 1 (cpTo (R 1) (blk SV n) y)) SV TX T AS)) 343 343 4000 0 (by omega) (by omega) (by omega)
    (fun y g1 g2 => by simp [bCmp, eL, eC, show (343 : Int32) = nI 343 from rfl, o_lt_nI (a := y) (b := 343) (by omega) (by omega)])
    (fun y g1 g2 => by
      have a1 := rdA_of (h := hM hm m g' (va_up R 1 (cpTo (R 1) (blk SV n) y)) SV TX T AS) hM_3 (show 343 * n + y < 1715 by omega) (by omega)
      have w1 := wrA_of (h := hM hm m g' (va_up R 1 (cpTo (R 1) (blk SV n) y)) SV TX T AS) (v := blk SV n y) (hM_r (i := 1) (.inl rfl)) g2 (by omega)
      rw [wM_r (.inl rfl), up_up, up_self, cpTo_s] at w1
      have e : (343 : Int32) * nI n + nI y = nI (343 * n + y) := by rw [show (343 : Int32) = nI 343 from rfl, nI_mul, nI_add]
      have eb : SV (343 * n + y) = blk SV n y := rfl
      rw [eb] at a1
      simp [sSeq, sA, rF, rL, rMr1, eL, eA, rMr3, eOp, eC, eF, r4', e, a1, w1, sInc, zSt, nI_1, zCut])
  have e0 : hM hm m g' (va_up R 1 (cpTo (R 1) (blk SV n) 0)) SV TX T AS = hM hm m g' R SV TX T AS := by rw [cpTo_0, up_id]
  simp only [e0, nI_0] at LL
  simp [fX7_undo, bX7_undo, mI, sSeq, sF, rL, eC, wMo0, sIf, bZ, eF, r4, ze, sNop, zCut, sFa, e1, wMo4, hg', sBlk, sLi, zSt, LL, r4', sRi]
set_option maxRecDepth 100000 in
theorem cmd_undo : Cmd fX6_undo fX7_undo [] := by
  intro h b L' xs t rl
  obtain ⟨g, R, SV, TX, T, AS, nh, nt, top, shw, his, txt, fcs, md, g4, g6⟩ := rl
  have hnh := his_le his
  have hIs := his_is his
  have r1 : rdI h 1 1 (t + 55) = some (nI nh) := by obtain ⟨ro, -, h0, -⟩ := his; exact hi_1 h0
  cases nh with
  | zero =>
    obtain ⟨s, P, pf, pi, O, N, L, nS, nP, nO, c, at1, vw, iv, ir⟩ := shw
    have r4 := fun hm : zH => rMo4 (h := hm) (m := t + 387) (g := upd g 0 0) (R := R) (SV := SV) (TX := TX) (T := T) (AS := AS)
    simp only [upd_ne (show 4 ≠ 0 by omega), g4] at r4
    have z1 : z_le (nI 0) = true := by decide
    have z2 : z_eq (nI 0) = true := by decide
    refine close0 (v := -2) (g' := upd g 0 0) top at1 vw iv ir his txt fcs md g4 g6 ?_ (fun hm => ?_) (by simp [upd]) (by simp [upd])
    · simp [fX6_undo, bX6_undo, mI, sSeq, sIf, bZ, eF, rF, rL, tp1 top, r1, z1, eC, zCut, sRi]
    · simp [fX7_undo, bX7_undo, mI, sSeq, sF, rL, eC, wMo0, sIf, bZ, eF, r4, z2, zCut, sRi]
  | succ n =>
    obtain ⟨h', q1, q2, q3, q4⟩ := restore_rel his (Shw_any shw)
    have z1 : z_le (nI (n + 1)) = false := by
      simp only [z_le]
      exact decide_eq_false (fun e => by
        rw [← nI_0] at e
        have := (nI_leI (show n + 1 < 2 ^ 31 by omega) (show 0 < 2 ^ 31 by omega)).mp e
        omega)
    obtain ⟨s, P, pf, pi, O, N, L, nS, nP, nO, c, at1, vw, iv, ir⟩ := Shw_ag (S' := cpTo (R 1) (blk SV n) 343) q4 (fun x hx => by simp [cpTo, hx])
    have e1 : (va_up R 1 (cpTo (R 1) (blk SV n) 343)) 1 = cpTo (R 1) (blk SV n) 343 := up_self _ _
    have top1 : Top h' b L' xs t := Top_keep top (fun x hx => q2 x (by omega))
    have r1' : rdI h' 1 1 (t + 55) = some (nI n) := by obtain ⟨ro, -, h0, -⟩ := q3; exact hi_1 h0
    refine close1 (v := nI n) (h1 := h') (g' := upd (upd g 0 0) 4 (nI n)) (R' := va_up R 1 (cpTo (R 1) (blk SV n) 343)) (T' := T) (AS' := AS) top1 q3 (Txt_keep txt (fun x a b => q2 x (by omega))) (Fcs_keep fcs (fun x a b => q2 x (by omega))) (Mod_keep md (fun x a b => q2 x (by omega))) (by rw [e1]; exact vw) (by rw [e1]; exact iv) (by rw [e1]; exact ir) (by rw [upd_self]) (by simp [upd, g6]) ?_ (fun hm => X7_undo_ok g4 (by omega))
    rw [At_eq at1]
    simp [fX6_undo, bX6_undo, mI, sSeq, sIf, bZ, eF, rF, rL, tp1 top, r1, z1, sNop, eC, zCut, sCV, aR, tp0 top, aN, hIs, q1, tp1 top1, r1', sRi]
end ZC7
