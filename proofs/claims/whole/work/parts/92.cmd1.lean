/-! the commands: cut -/
theorem X6_isWithin (h : zH) (v a b : Int32) : fX6_isWithin [.int v, .int a, .int b] h = some (bI (decide (a ≤ v) && decide (v ≤ b)), h) := X7_in h v a b
section ZC1
variable {h : zH} {b L' t nS nP nO c nh nt : Nat} {xs : Nat → Int32} {s pf N g SV TX AS : Nat → Int32} {P O L R T : Nat → Nat → Int32} {pi : Nat → Nat}
/-- both heaps, put together -/
theorem asm {h1 : zH} (top : Top h1 b L' xs t) (his : His h1 t nh SV) (txt : Txt h1 t nt TX) (fcs : Fcs h1 t) (vw : Vw s P pf pi O N L (R 1) nS nP nO) (iv : Iv (R 1) nS nP nO) (ir : IvR (R 1) nO c) (g4 : g 4 = nI nh) (g6 : g 6 = nI nt) :
    Rl (hM (hS h1 (t + 1) s P pf pi O N L) (t + 387) g R SV TX T AS) b L' xs t := by
  have k : ∀ x, x < t + 1 ∨ (t + 55 ≤ x ∧ x < t + 387) → (hM (hS h1 (t + 1) s P pf pi O N L) (t + 387) g R SV TX T AS).2 x = h1.2 x := fun x hx => by
    rw [hM_ne (by omega), hS_ne (by omega)]
  exact ⟨g, R, SV, TX, T, AS, nh, nt, Top_keep top (fun x hx => k x (by omega)), ⟨s, P, pf, pi, O, N, L, nS, nP, nO, c, At_keep At_self (fun x h1 h2 => hM_ne (by omega)), vw, iv, ir⟩, His_keep his (fun x h1 h2 => k x (by omega)), Txt_keep txt (fun x h1 h2 => k x (by omega)), Fcs_keep fcs (fun x h1 h2 => k x (by omega)), Mod_self, g4, g6⟩
/-- nothing but the model's own numbers is changed -/
theorem asm0 {g' : Nat → Int32} (w : ∃ nh nt, Top h b L' xs t ∧ Shw h (t + 1) (R 1) ∧ His h t nh SV ∧ Txt h t nt TX ∧ Fcs h t ∧ g 4 = nI nh ∧ g 6 = nI nt) (h4 : g' 4 = g 4) (h6 : g' 6 = g 6) : Rl (hM h (t + 387) g' R SV TX T AS) b L' xs t := by
  obtain ⟨nh, nt, top, shw, his, txt, fcs, g4, g6⟩ := w
  have k : ∀ x, x < t + 387 → (hM h (t + 387) g' R SV TX T AS).2 x = h.2 x := fun x hx => hM_ne (by omega)
  exact ⟨g', R, SV, TX, T, AS, nh, nt, Top_keep top (fun x hx => k x (by omega)), Shw_keep shw (fun x h1 h2 => k x (by omega)), His_keep his (fun x h1 h2 => k x (by omega)), Txt_keep txt (fun x h1 h2 => k x (by omega)), Fcs_keep fcs (fun x h1 h2 => k x (by omega)), Mod_self, by rw [h4, g4], by rw [h6, g6]⟩
/-- one command, both sides -/
def Cmd (F6 F7 : zFI) (as : List Value) : Prop := ∀ (h : zH) (b L : Nat) (xs : Nat → Int32) (t : Nat), Rl h b L xs t → ∃ v h1 h2, F6 (.ref t :: as) h = some (v, h1) ∧ F7 (.ref (t + 387) :: as) h1 = some (v, h2) ∧ Rl h2 b L xs t ∧ h1.2 b = some (xS L xs) ∧ isO h1 7 (t + 387) = true
/-- the state is kept on both sides -/
theorem both_rec (top : Top h b L' xs t) (at1 : At h (t + 1) s P pf pi O N L) (vw : Vw s P pf pi O N L (R 1) nS nP nO) (iv : Iv (R 1) nS nP nO) (ir : IvR (R 1) nO c) (his : His h t nh SV) (txt : Txt h t nt TX) (fcs : Fcs h t) (md : Mod h (t + 387) g R SV TX T AS) :
    ∃ h1, fX1_record [.ref (t + 55), .ref (t + 1)] h = some h1 ∧ Top h1 b L' xs t ∧ At h1 (t + 1) s P pf pi O N L ∧ His h1 t (acN nh + 1) (acV SV (R 1) nh) ∧ Txt h1 t nt TX ∧ Fcs h1 t ∧ Mod h1 (t + 387) g R SV TX T AS := by
  obtain ⟨h1, r1, -, r3, r4⟩ := record_rel his ⟨s, P, pf, pi, O, N, L, nS, nP, nO, c, at1, vw, iv, ir⟩
  exact ⟨h1, r1, Top_keep top (fun x hx => r3 x (by omega)), At_keep at1 (fun x a b => r3 x (by omega)), r4, Txt_keep txt (fun x a b => r3 x (by omega)), Fcs_keep fcs (fun x a b => r3 x (by omega)), Mod_keep md (fun x a b => r3 x (by omega))⟩
theorem acN_le (hn : nh ≤ 5) : acN nh + 1 ≤ 5 := by
  simp only [acN]
  split <;> omega
theorem zer_s {S : Nat → Int32} {a n : Nat} : upd (zer S a n) (a + n) 0 = zer S a (n + 1) := by
  funext x
  simp only [upd, zer]
  by_cases e : x = a + n
  · rw [if_pos e, if_pos (by omega)]
  · rw [if_neg e]
    by_cases e2 : a ≤ x ∧ x < a + n
    · rw [if_pos e2, if_pos (by omega)]
    · rw [if_neg e2, if_neg (by omega)]
theorem zer_0 {S : Nat → Int32} {a : Nat} : zer S a 0 = S := by
  funext x
  simp only [zer]
  rw [if_neg (by omega)]
set_option maxRecDepth 100000 in
theorem X7_cut_ok {hm : zH} {m : Nat} {w th : Int32} (h1 : R 1 1 = nI nP) (hn : nP < 20) (hg : g 4 = nI nh) (hnh : nh ≤ 5) (hw : (decide (10 ≤ w) && decide (w ≤ 200)) = true) (ht : (decide (5 ≤ th) && decide (th ≤ 30)) = true) :
    fX7_cut [.ref m, .int w, .int th] (hM hm m g R SV TX T AS) = some (nI nP, hM hm m (upd (upd g 0 0) 4 (nI (acN nh + 1))) (va_up R 1 (opCut (R 1) nP w th)) (acV SV (R 1) nh) TX T AS) := by
  have ac := X7_act (h := hm) (m := m) (g := upd g 0 0) (R := R) (SV := SV) (TX := TX) (T := T) (AS := AS) (nn := nh) (by rw [upd_ne (by omega)]; exact hg) hnh
  have a1 := fun (g : Nat → Int32) (SV : Nat → Int32) => hd1 (h := hM hm m g R SV TX T AS) (hM_r (i := 1) (.inl rfl))
  have ne : ¬ nI nP = 20 := fun e => by have := (nI_eqI (by omega) (by omega)).mp (e.trans (show (20 : Int32) = nI 20 from rfl)); omega
  generalize hg' : upd (upd g 0 0) 4 (nI (acN nh + 1)) = g' at *
  generalize hV : acV SV (R 1) nh = V at *
  have w1 := wh1 (h := hM hm m g' R V TX T AS) (hM_r (i := 1) (.inl rfl)) (nI (nP + 1))
  rw [wM_r (.inl rfl)] at w1
  have st := fun (S' : Nat → Int32) (j : Nat) (v : Int32) (hj : j < 7) => X7_set (h := hm) (m := m) (g := g') (R := va_up R 1 S') (SV := V) (TX := TX) (T := T) (AS := AS) (j := nP) (c := nI j) (v := v) (k := j) (i := 1) (.inl rfl) (by omega) rfl hj
  simp only [up_self, up_up] at st
  have LL := sW_run (c := bCmp o_lt (eL 4) (eC 7)) (f := sSeq (sCS (aR (rF 7 1 (rL 0)) (aI (eL 3) (aI (eL 4) (aI (eC 0) (aN))))) fX7_setPlate) (sInc 4 1)) (fun y => ([.ref m, .int w, .int th, .int (nI nP), .int (nI y)], hM hm m g' (va_up R 1 (zer (upd (R 1) 1 (nI (nP + 1))) (10 + 7 * nP) y)) V TX T AS)) 7 7 4000 0 (by omega) (by omega) (by omega)
    (fun y g1 g2 => by simp [bCmp, eL, eC, show (7 : Int32) = nI 7 from rfl, o_lt_nI (a := y) (b := 7) (by omega) (by omega)])
    (fun y g1 g2 => by
      have s1 := st (zer (upd (R 1) 1 (nI (nP + 1))) (10 + 7 * nP) y) y 0 g2
      rw [zer_s] at s1
      simp [sSeq, sCS, aR, rF, rL, rMr1, aI, eL, eC, aN, s1, sInc, zSt, nI_1, zCut])
  simp only [zer_0, nI_0] at LL
  have s0 := st (zer (upd (R 1) 1 (nI (nP + 1))) (10 + 7 * nP) 7) 0 w (by omega)
  have s1 := st (upd (zer (upd (R 1) 1 (nI (nP + 1))) (10 + 7 * nP) 7) (10 + 7 * nP + 0) w) 1 th (by omega)
  rw [nI_0] at s0
  rw [show (nI 1 : Int32) = 1 from rfl] at s1
  simp only [Nat.add_zero] at s0 s1
  simp [fX7_cut, bX7_cut, mI, sSeq, sF, rL, eC, wMo0, sIf, bOr, bNot, bZ, eCS, aI, eL, aN, X7_in, hw, ht, z_ne_bI, sNop, zCut, bCmp, eA, rF, rMr1, a1, h1, o_eq, ne, sCV, isMo, ac, sLi, zSt, sAa, nI_1, w1, sBlk, LL, sCS, aR, s0, s1, sRi, opCut]
theorem dec_20 (hn : nP ≤ 20) : o_ge (nI nP) 20 = decide (nP = 20) ∧ o_eq (nI nP) 20 = decide (nP = 20) := by
  constructor
  · simp only [o_ge, show (20 : Int32) = nI 20 from rfl, nI_leI (show 20 < 2 ^ 31 by omega) (show nP < 2 ^ 31 by omega)]
    exact decide_eq_decide.mpr (by omega)
  · simp only [o_eq, show (20 : Int32) = nI 20 from rfl, nI_eqI (show nP < 2 ^ 31 by omega) (show 20 < 2 ^ 31 by omega)]
/-- the answer is the same, and nothing but the model's own numbers is changed -/
theorem close0 {F6 F7 : zFI} {as : List Value} {v : Int32} {g' : Nat → Int32} (top : Top h b L' xs t) (at1 : At h (t + 1) s P pf pi O N L) (vw : Vw s P pf pi O N L (R 1) nS nP nO) (iv : Iv (R 1) nS nP nO) (ir : IvR (R 1) nO c) (his : His h t nh SV) (txt : Txt h t nt TX) (fcs : Fcs h t) (md : Mod h (t + 387) g R SV TX T AS) (g4 : g 4 = nI nh) (g6 : g 6 = nI nt)
    (hc : F6 (.ref t :: as) h = some (v, h)) (hr : ∀ hm, F7 (.ref (t + 387) :: as) (hM hm (t + 387) g R SV TX T AS) = some (v, hM hm (t + 387) g' R SV TX T AS)) (h4 : g' 4 = g 4) (h6 : g' 6 = g 6) :
    ∃ v h1 h2, F6 (.ref t :: as) h = some (v, h1) ∧ F7 (.ref (t + 387) :: as) h1 = some (v, h2) ∧ Rl h2 b L' xs t ∧ h1.2 b = some (xS L' xs) ∧ isO h1 7 (t + 387) = true := by
  have r := hr h
  rw [Mod_eq md] at r
  exact ⟨v, h, _, hc, r, asm0 (g := g) ⟨nh, nt, top, ⟨s, P, pf, pi, O, N, L, nS, nP, nO, c, at1, vw, iv, ir⟩, his, txt, fcs, g4, g6⟩ h4 h6, top.1, isO_of ((md _ (Nat.le_refl _) (by omega)).trans hM_0)⟩
/-- the answer is the same, and the shop is changed -/
theorem close1 {F6 F7 : zFI} {as : List Value} {v : Int32} {h1 : zH} {g' SV' TX' AS' : Nat → Int32} {R' T' : Nat → Nat → Int32} (top : Top h1 b L' xs t) (his : His h1 t nh SV') (txt : Txt h1 t nt TX') (fcs : Fcs h1 t) (md : Mod h1 (t + 387) g R SV TX T AS) (vw : Vw s P pf pi O N L (R' 1) nS nP nO) (iv : Iv (R' 1) nS nP nO) (ir : IvR (R' 1) nO c) (g4 : g' 4 = nI nh) (g6 : g' 6 = nI nt)
    (hc : F6 (.ref t :: as) h = some (v, hS h1 (t + 1) s P pf pi O N L)) (hr : ∀ hm, F7 (.ref (t + 387) :: as) (hM hm (t + 387) g R SV TX T AS) = some (v, hM hm (t + 387) g' R' SV' TX' T' AS')) :
    ∃ v h1 h2, F6 (.ref t :: as) h = some (v, h1) ∧ F7 (.ref (t + 387) :: as) h1 = some (v, h2) ∧ Rl h2 b L' xs t ∧ h1.2 b = some (xS L' xs) ∧ isO h1 7 (t + 387) = true := by
  have md2 : Mod (hS h1 (t + 1) s P pf pi O N L) (t + 387) g R SV TX T AS := Mod_keep md (fun x a b => hS_ne (by omega))
  have r := hr (hS h1 (t + 1) s P pf pi O N L)
  rw [Mod_eq md2] at r
  exact ⟨v, _, _, hc, r, asm top his txt fcs vw iv ir g4 g6, by rw [hS_ne (by have := top.2.1; omega)]; exact top.1, isO_of ((md2 _ (Nat.le_refl _) (by omega)).trans hM_0)⟩
set_option maxRecDepth 100000 in
theorem cmd_cut (w th : Int32) : Cmd fX6_cut fX7_cut [.int w, .int th] := by
  intro h b L' xs t rl
  obtain ⟨g, R, SV, TX, T, AS, nh, nt, top, ⟨s, P, pf, pi, O, N, L, nS, nP, nO, c, at1, vw, iv, ir⟩, his, txt, fcs, md, g4, g6⟩ := rl
  have hnh : nh ≤ 5 := by obtain ⟨ro, -, -, -, a, -⟩ := his; exact a
  have hIs : isO h 1 (t + 55) = true := by obtain ⟨ro, -, h0, -⟩ := his; exact hi_is h0
  obtain ⟨c0, c1, c2, c3, c4, c5⟩ := iv.1
  have s3 : s 3 = nI nP := by rw [vw.1.1, c1]
  have x3 : rdI h 5 3 (t + 1) = some (nI nP) := by rw [aSx at1 (by omega) (by omega), s3]
  obtain ⟨d1, d2⟩ := dec_20 (nP := nP) c4
  have a1 := fun (hm : zH) (g : Nat → Int32) => hd1 (h := hM hm (t + 387) g R SV TX T AS) (hM_r (i := 1) (.inl rfl))
  by_cases hw : (decide (10 ≤ w) && decide (w ≤ 200)) = true
  · by_cases ht : (decide (5 ≤ th) && decide (th ≤ 30)) = true
    · by_cases hn : nP = 20
      · have d1' : o_ge (nI nP) 20 = true := by rw [d1, decide_eq_true hn]
        have d2' : o_eq (nI nP) 20 = true := by rw [d2, decide_eq_true hn]
        refine close0 (v := -3) (g' := upd g 0 0) top at1 vw iv ir his txt fcs md g4 g6 ?_ (fun hm => ?_) (by simp [upd]) (by simp [upd])
        · simp [fX6_cut, bX6_cut, mI, sSeq, sIf, bOr, bNot, bZ, eCS, aI, eL, eC, aN, X6_isWithin, hw, ht, z_ne_bI, sNop, zCut, bCmp, eF, rF, rL, tp0 top, x3, d1', sRi]
        · simp [fX7_cut, bX7_cut, mI, sSeq, sF, rL, eC, wMo0, sIf, bOr, bNot, bZ, eCS, aI, eL, aN, X7_in, hw, ht, z_ne_bI, sNop, zCut, bCmp, eA, rF, rMr1, a1, c1, d2', sRi]
      · have hn20 : nP < 20 := by omega
        obtain ⟨h1, r1, top1, at2, his1, txt1, fcs1, md1⟩ := both_rec top at1 vw iv ir his txt fcs md
        have hw0 : 0 ≤ w := by
          simp only [Bool.and_eq_true, decide_eq_true_eq] at hw
          exact Int32.le_trans (by decide) hw.1
        obtain ⟨v1, i1⟩ := cut_view (w := w) (t := th) vw iv hn20 hw0
        have ir1 : IvR (opCut (R 1) nP w th) nO c := ⟨ir.1, fun j hj => by
          rw [show sO (opCut (R 1) nP w th) j 4 = sO (R 1) j 4 by simp only [sO]; rw [opCut_hd (by omega) hn20, if_neg (by omega)]]
          exact ir.2 j hj⟩
        have ad := X5_addPlate (h := h1) (lo := t + 1) (s := s) (P := P) (pf := pf) (pi := pi) (O := O) (N := N) (L := L) s3 hn20 w th
        rw [At_eq at2] at ad
        have e1 : (va_up R 1 (opCut (R 1) nP w th)) 1 = opCut (R 1) nP w th := up_self _ _
        refine close1 (v := nI nP) (g' := upd (upd g 0 0) 4 (nI (acN nh + 1))) (R' := va_up R 1 (opCut (R 1) nP w th)) (T' := T) (AS' := AS) top1 his1 txt1 fcs1 md1 (by rw [e1]; exact v1) (by rw [e1]; exact i1) (by rw [e1]; exact ir1) (by rw [upd_self]) (by simp [upd, g6]) ?_ (fun hm => X7_cut_ok c1 hn20 g4 hnh hw ht)
        simp [fX6_cut, bX6_cut, mI, sSeq, sIf, bOr, bNot, bZ, eCS, aI, eL, eC, aN, X6_isWithin, hw, ht, z_ne_bI, sNop, zCut, bCmp, eF, rF, rL, tp0 top, x3, d1, hn, sCV, tp1 top, aR, hIs, r1, eCV, tp0 top1, aIs at2, ad, sRi]
    · simp only [Bool.not_eq_true] at ht
      refine close0 (v := -1) (g' := upd g 0 0) top at1 vw iv ir his txt fcs md g4 g6 ?_ (fun hm => ?_) (by simp [upd]) (by simp [upd])
      · simp [fX6_cut, bX6_cut, mI, sSeq, sIf, bOr, bNot, bZ, eCS, aI, eL, eC, aN, X6_isWithin, hw, ht, z_ne_bI, zCut, sRi]
      · simp [fX7_cut, bX7_cut, mI, sSeq, sF, rL, eC, wMo0, sIf, bOr, bNot, bZ, eCS, aI, eL, aN, X7_in, hw, ht, z_ne_bI, zCut, sRi]
  · simp only [Bool.not_eq_true] at hw
    refine close0 (v := -1) (g' := upd g 0 0) top at1 vw iv ir his txt fcs md g4 g6 ?_ (fun hm => ?_) (by simp [upd]) (by simp [upd])
    · simp [fX6_cut, bX6_cut, mI, sSeq, sIf, bOr, bNot, bZ, eCS, aI, eL, eC, aN, X6_isWithin, hw, z_ne_bI, zCut, sRi]
    · simp [fX7_cut, bX7_cut, mI, sSeq, sF, rL, eC, wMo0, sIf, bOr, bNot, bZ, eCS, aI, eL, aN, X7_in, hw, z_ne_bI, zCut, sRi]
end ZC1
