/-! the law: the act that orders; every act -/
def txA (v : Int32) (m : Nat) : Nat → (Nat → Int32)
  | 0 => fun _ => 0
  | i + 1 => upd (txA v m i) i (nI (97 + lowN (v + 3 * nI (m - i)) 26))
abbrev apBody : zSS := sSeq (sPop (eCV 6 (rL 0) (aI (eOp (· + ·) (eC 97) (eCS (aI (eOp (· + ·) (eL 1) (eOp (· * ·) (eC 3) (eL 4))) (aI (eC 26) (aN))) fL_low)) (aN)) fX6_append)) (sInc 4 (-1))
section ZA2
variable {S : Nat → Int32} {nP nO c : Nat}
set_option maxRecDepth 100000 in
theorem ap_loop {b L t m : Nat} {xs : Nat → Int32} {v p q : Int32} (hm : m ≤ 5) : ∀ (d N i : Nat) (h : zH), i + d = m → d < N → Rw h b L xs t S i (txA v m i) →
    ∃ h1, sW N (bZ z_gt (eL 4)) apBody [.ref t, .int v, .int p, .int q, .int (nI d)] h = some (.inl ([.ref t, .int v, .int p, .int q, .int 0], h1)) ∧ Rw h1 b L xs t S m (txA v m m)
  | 0, N, i, h, hd, hN, r => by
    obtain ⟨N, rfl⟩ : ∃ k, N = k + 1 := ⟨N - 1, by omega⟩
    have e : i = m := by omega
    subst e
    refine ⟨h, ?_, r⟩
    rw [nI_0]
    exact sW_stop (by simp [bZ, eL, z_gt])
  | d + 1, N, i, h, hd, hN, r => by
    obtain ⟨N, rfl⟩ : ∃ k, N = k + 1 := ⟨N - 1, by omega⟩
    have a1 := lowN_lt (v + 3 * nI (d + 1)) (show 0 < 26 by omega)
    have l1 := fun h : zH => L_low (h := h) (v + 3 * nI (d + 1)) (m := 26) (by omega) (by omega)
    rw [show nI 26 = 26 from rfl] at l1
    have ei : m - i = d + 1 := by omega
    have et : txA v m (i + 1) = upd (txA v m i) i (nI (97 + lowN (v + 3 * nI (d + 1)) 26)) := by rw [txA, ei]
    generalize lowN (v + 3 * nI (d + 1)) 26 = w at *
    obtain ⟨h1, q1, r1⟩ := do_append (v := nI (97 + w)) r (rng (a := 97) (b := 122) (A := 97) (B := 122) rfl rfl (by omega) (by omega) (by omega) (by omega)) (by omega)
    rw [← et] at r1
    obtain ⟨h2, q2, r2⟩ := ap_loop (p := p) (q := q) hm d N (i + 1) h1 (by omega) (by omega) r1
    refine ⟨h2, ?_, r2⟩
    have e1 := (nI_lit (n := w)).2.2.2.2.1
    have zg : z_gt (nI (d + 1)) = true := by
      simp only [z_gt]
      exact decide_eq_true (by rw [← nI_0]; exact (nI_ltI (by omega) (by omega)).mpr (by omega))
    have de : nI (d + 1) + -1 = nI d := nI_dec (by omega)
    rw [sW_turn (h1 := h) (en1 := [.ref t, .int v, .int p, .int q, .int (nI d)]) (h2 := h1) (by simp [bZ, eL, zg]) (by simp [sSeq, sPop, eCV, rL, aI, eOp, eC, eCS, eL, aN, l1, e1, r.top, q1, sInc, zSt, de]) rfl]
    exact q2
set_option maxRecDepth 100000 in
theorem act_order (v : Int32) (hv : 1 ≤ kk v ∧ kk v ≤ 4) (j : J S nP nO c) : Act S nP nO v aB1 := by
  have a0 := lowN_lt (o_shr v 20) (show 0 < 5 by omega)
  have a1 := lowN_lt (o_shr v 5) (show 0 < 2 by omega)
  have a2 := lowN_lt (o_shr v 8) (show 0 < 12 by omega)
  have a3 := lowN_lt (o_shr v 12) (show 0 < 3 by omega)
  have a4 := lowN_lt (o_shr v 14) (show 0 < 4 by omega)
  have l0 := fun h : zH => L_low (h := h) (o_shr v 20) (m := 5) (by omega) (by omega)
  have l1 := fun h : zH => L_low (h := h) (o_shr v 5) (m := 2) (by omega) (by omega)
  have l2 := fun h : zH => L_low (h := h) (o_shr v 8) (m := 12) (by omega) (by omega)
  have l3 := fun h : zH => L_low (h := h) (o_shr v 12) (m := 3) (by omega) (by omega)
  have l4 := fun h : zH => L_low (h := h) (o_shr v 14) (m := 4) (by omega) (by omega)
  simp only [show nI 12 = 12 from rfl, show nI 3 = 3 from rfl, show nI 4 = 4 from rfl, show nI 5 = 5 from rfl] at l0 l2 l3 l4
  obtain ⟨d17, hd17, ed17⟩ := and1 (o_shr v 17)
  simp only [Act]
  generalize lowN (o_shr v 5) (nO + 1) = od at *
  generalize lowN (o_shr v 5) nP = pl at *
  generalize lowN (o_shr v 20) 5 = m0 at *
  generalize lowN (o_shr v 5) 2 = sh at *
  generalize lowN (o_shr v 8) 12 = ye at *
  generalize lowN (o_shr v 12) 3 = sz at *
  generalize lowN (o_shr v 14) 4 = dp at *
  have e0 := (nI_lit (n := m0)).2.2.1
  have e2 := (nI_lit (n := ye)).2.2.1
  have e3 := (nI_lit (n := sz)).2.2.1
  have e4 := (nI_lit (n := dp)).2.2.1
  have hy := rng (a := 1) (b := 999) (A := 1) (B := 999) (n := 1 + ye) rfl rfl (by omega) (by omega) (by omega) (by omega)
  have hs := rng (a := 1) (b := 4) (A := 1) (B := 4) (n := 1 + sz) rfl rfl (by omega) (by omega) (by omega) (by omega)
  have hd := rng (a := 1) (b := 5) (A := 1) (B := 5) (n := 1 + dp) rfl rfl (by omega) (by omega) (by omega) (by omega)
  have hr01 : o_shr v 17 &&& 1 = 0 ∨ o_shr v 17 &&& 1 = 1 := by
    rw [ed17]
    rcases (show d17 = 0 ∨ d17 = 1 by omega) with rfl | rfl
    · exact .inl rfl
    · exact .inr rfl
  have hr : (decide (0 ≤ o_shr v 17 &&& 1) && decide (o_shr v 17 &&& 1 ≤ 1)) = true := by rw [ed17]; exact side_ok hd17
  have hz : z_eq (nI (1 + m0)) = false := by
    simp only [z_eq]
    exact decide_eq_false (fun e => by have := (nI_eqI (show 1 + m0 < 2 ^ 31 by omega) (show 0 < 2 ^ 31 by omega)).mp (e.trans nI_0.symm); omega)
  have c5' := j.1.1.2.2.2.2.2
  -- the body, once the text is there
  have go : ∀ (h : zH) (b L : Nat) (xs : Nat → Int32) (t : Nat), Rw h b L xs t S 0 (fun _ => 0) → ∃ h1, Rw h1 b L xs t S (1 + m0) (txA v (1 + m0) (1 + m0)) ∧ ∀ r h2, fX6_order [.ref t, .int (nI sh), .int (nI (1 + ye)), .int (nI (1 + sz)), .int (nI (1 + dp)), .int (o_shr v 17 &&& 1)] h1 = some (r, h2) → aB1 (acEn t v pl od) h = some (.inr (some r, h2)) := fun h b L xs t r => by
    obtain ⟨h1, q1, r1⟩ := ap_loop (v := v) (m := 1 + m0) (p := nI pl) (q := nI od) (by omega) (1 + m0) 4000 0 h (by omega) (by omega) r
    refine ⟨h1, r1, fun r' h2 q2 => ?_⟩
    have c5 := c5_2 r1 j
    have ii := r1.top
    simp [sSeq, sBlk, sLi, eOp, eC, eCS, aI, eL, aN, l0, e0, zSt, q1, zCut, sRi, eCV, rL, c5, l1, l2, e2, l3, e3, l4, e4, ii, q2]
  have dn : ∀ r S' nO' c' nt', nO' = nO + 1 ∧ nt' = 0 ∧ (∃ i, i < nO' ∧ r = nI i ∧ sO S' i 4 = o_shr v 17 &&& 1) → Dn v r S S' nO nO' c' nt' := fun _ _ _ _ _ q => ⟨by omega, by omega, by omega, by omega, fun _ => q⟩
  by_cases hb : lastO (onY S (nI sh) (nI (1 + ye))) nP ≠ none ∨ anyM (orY S (nI sh) (nI (1 + ye))) nO = true
  · refine ⟨-2, none, by show (-2 : Int32) < 0; decide, fun h b L xs t r => ?_⟩
    obtain ⟨h1, r1, g⟩ := go h b L xs t r
    exact ⟨h1, g _ _ (no_order r1 j.1 a1 hy hs hd hr hz hb), _, _, r1⟩
  · have hl : lastO (onY S (nI sh) (nI (1 + ye))) nP = none := Classical.byContradiction fun q => hb (.inl q)
    have ha : anyM (orY S (nI sh) (nI (1 + ye))) nO = false := by
      cases q : anyM (orY S (nI sh) (nI (1 + ye))) nO with
      | true => exact absurd (.inr q) hb
      | false => rfl
    by_cases hn : nO = 10
    · refine ⟨-3, none, by show (-3 : Int32) < 0; decide, fun h b L xs t r => ?_⟩
      obtain ⟨h1, r1, g⟩ := go h b L xs t r
      exact ⟨h1, g _ _ (full_order r1 j.1 a1 hy hs hd hr hz hl ha hn), _, _, r1⟩
    · -- the new row, by a class shop that shows this one
      have mk : Iv (ordR S (txA v (1 + m0) (1 + m0)) (1 + m0) sh (nI (1 + ye)) (nI (1 + sz)) (nI (1 + dp)) (o_shr v 17 &&& 1) c nO) 2 nP (nO + 1) ∧ IvR (ordR S (txA v (1 + m0) (1 + m0)) (1 + m0) sh (nI (1 + ye)) (nI (1 + sz)) (nI (1 + dp)) (o_shr v 17 &&& 1) c nO) (nO + 1) (if o_shr v 17 &&& 1 = 1 then c + 1 else c) := by
        obtain ⟨s, P, pf, pi, O, N, L, vw⟩ := Vw_ex j.1
        have hpl : (if o_shr v 17 &&& 1 = 1 then c else nO) ≤ nO := by have := j.2.1.1; split <;> omega
        have va := nw_VA (AS := fun _ => 0) (o := O (pi nO)) (l := L (pi nO)) (sh := nI sh) (y := nI (1 + ye)) (sz := nI (1 + sz)) (d := nI (1 + dp)) (r := o_shr v 17 &&& 1) (nt := 1 + m0) (TX := txA v (1 + m0) (1 + m0)) (tx := txA v (1 + m0) (1 + m0)) (by omega) (fun _ _ => rfl)
        simp only [Bool.and_eq_true, decide_eq_true_eq] at hy hd
        refine ⟨(order_view (A := newA (fun _ => 0) (txA v (1 + m0) (1 + m0)) (1 + m0) (nI sh) (nI (1 + ye)) (nI (1 + sz)) (nI (1 + dp)) (o_shr v 17 &&& 1)) (sh := sh) (y := nI (1 + ye)) (O' := va_up O (pi nO) (newO (O (pi nO)) (nI sh) (nI (1 + ye)) (nI (1 + sz)) (nI (1 + dp)) (o_shr v 17 &&& 1))) (N' := va_up N (pi nO) (nI (1 + m0))) (L' := va_up L (pi nO) (cpTo (L (pi nO)) (txA v (1 + m0) (1 + m0)) 12)) vw j.1 (by omega) hpl (fun i hi => va_up_ne _ _ hi) (fun i hi => va_up_ne _ _ hi) (fun i hi => va_up_ne _ _ hi) (by rw [va_up_self, va_up_self, va_up_self]; exact va) nwA0 a1 nwA1 hy.1 hy.2 (by rw [nwA3]; exact Int32.le_trans (by decide) hd.1) (by rw [nwA4]; exact hr01) (by rw [nwA5, nC_nI (by omega)]) (by rw [nwA5, nC_nI (by omega)]; omega) (by rw [nwA5, nC_nI (by omega)]; omega) (lastO_none nP hl) (anyM_none nO ha)).2, ?_⟩
        obtain ⟨k1, k2⟩ := order_R (A := newA (fun _ => 0) (txA v (1 + m0) (1 + m0)) (1 + m0) (nI sh) (nI (1 + ye)) (nI (1 + sz)) (nI (1 + dp)) (o_shr v 17 &&& 1)) (r := o_shr v 17 &&& 1) j.2.1 nwA4 hr01
        rcases hr01 with e | e
        · have ne : ¬ (o_shr v 17 &&& 1 = 1) := by rw [e]; decide
          simp only [ordR, if_neg ne]
          exact k2 e
        · simp only [ordR, if_pos e]
          exact k1 e
      have hpl : (if o_shr v 17 &&& 1 = 1 then c else nO) ≤ nO := by have := j.2.1.1; split <;> omega
      have ej : EJ (ordR S (txA v (1 + m0) (1 + m0)) (1 + m0) sh (nI (1 + ye)) (nI (1 + sz)) (nI (1 + dp)) (o_shr v 17 &&& 1) c nO) 2 nP (nO + 1) :=
        EJ_put j.1 j.2.2.1 hpl (by omega) (by rw [nwA1, nI_int (by omega)]; omega) (by rw [nwA2, nI_int (by omega)]; omega) (by rw [nwA2, nI_int (by omega)]; omega) (by rw [nwA3, nI_int (by omega)]; omega) (by rw [nwA3, nI_int (by omega)]; omega)
      refine ⟨nI (if o_shr v 17 &&& 1 = 1 then c else nO), some (ordR S (txA v (1 + m0) (1 + m0)) (1 + m0) sh (nI (1 + ye)) (nI (1 + sz)) (nI (1 + dp)) (o_shr v 17 &&& 1) c nO, nP, nO + 1, _, 0), ⟨nI_nn (by omega), ⟨mk.1, mk.2, ej, j.2.2.2⟩, dn _ _ _ _ _ ⟨rfl, rfl, _, Nat.lt_succ_of_le hpl, rfl, ?_⟩⟩, fun h b L xs t r => ?_⟩
      · simp only [ordR]
        rw [opPut_O hpl hpl (by omega), if_pos rfl, nwA4]
      · obtain ⟨h1, r1, g⟩ := go h b L xs t r
        obtain ⟨h2, q2, ru, -, -⟩ := do_order r1 j.1 j.2.1 a1 hy hs hd hr01 (by omega) hl ha hn
        exact ⟨h2, g _ _ q2, _, ru⟩
/-- every act -/
theorem act_ok (v : Int32) (j : J S nP nO c) : ∃ r o, Ac S nO v r o ∧ ∀ (h : zH) (b L : Nat) (xs : Nat → Int32) (t : Nat), Rw h b L xs t S 0 (fun _ => 0) → ∃ h1, fL_act [.ref t, .int v] h = some (r, h1) ∧ Hp h1 b L xs t S o := by
  have hk := kk_lt v
  have c4 := j.1.1.2.2.2.2.1
  have c5 := j.1.1.2.2.2.2.2
  have pre : ∀ (B : zSS), (∀ (en : List Value) (h h1 : zH) (r : Int32), en[1]? = some (.int v) → B en h = some (.inr (some r, h1)) → sSw 0 12 (eOp (· &&& ·) (eL 1) (eC 15)) aBs aBd en h = some (.inr (some r, h1))) → Act S nP nO v B → ∃ r o, Ac S nO v r o ∧ ∀ (h : zH) (b L : Nat) (xs : Nat → Int32) (t : Nat), Rw h b L xs t S 0 (fun _ => 0) → ∃ h1, fL_act [.ref t, .int v] h = some (r, h1) ∧ Hp h1 b L xs t S o := fun B hB a => by
    obtain ⟨r, o, a1, a2⟩ := a
    refine ⟨r, o, a1, fun h b L xs t rw0 => ?_⟩
    obtain ⟨h1, q1, q2⟩ := a2 h b L xs t rw0
    refine ⟨h1, ?_, q2⟩
    have e4 := rd_count (y := 4) rw0 j.1 j.2.1 (by omega) (by omega)
    have e6 := rd_count (y := 6) rw0 j.1 j.2.1 (by omega) (by omega)
    rw [show nI 4 = 4 from rfl, show coV S nP 0 0 c 4 = S 1 from rfl, j.1.1.2.1] at e4
    rw [show nI 6 = 6 from rfl, show coV S nP 0 0 c 6 = S 2 from rfl, j.1.1.2.2.1] at e6
    have l1 := fun h : zH => L_low (h := h) (o_shr v 5) (m := nP) j.2.2.2 (by omega)
    have l2 := fun h : zH => L_low (h := h) (o_shr v 5) (m := nO + 1) (by omega) (by omega)
    have q3 := hB (acEn t v (lowN (o_shr v 5) nP) (lowN (o_shr v 5) (nO + 1))) h h1 r rfl q1
    simp [fL_act, bL_act_eq, mI, sSeq, sLi, eCS, aI, eOp, eL, eC, aN, eCV, rL, rw0.top, e4, l1, zSt, e6, nI_1, l2]
    have q4 : sSw 0 12 (eOp (fun x1 x2 => x1 &&& x2) (eL 1) (eC 15)) aBs aBd [.ref t, .int v, .int (nI (lowN (o_shr v 5) nP)), .int (nI (lowN (o_shr v 5) (nO + 1)))] h = some (.inr (some r, h1)) := q3
    simp only [q4]
    rfl
  have sw : ∀ (k : Nat), k ≤ 12 → kk v = k → ∀ (en : List Value) (h h1 : zH) (r : Int32), en[1]? = some (.int v) → (aBs.getD k aBd) en h = some (.inr (some r, h1)) → sSw 0 12 (eOp (· &&& ·) (eL 1) (eC 15)) aBs aBd en h = some (.inr (some r, h1)) := fun k hk12 e en h h1 r he hb => by
    have q := sSw_at (n := 12) (k := k) (f := eOp (· &&& ·) (eL 1) (eC 15)) (bs := aBs) (df := aBd) (en := en) (h := h) (h1 := h) (by simp only [eOp, eL, he, eC, Option.bind_some, kk_eq, e]) hk12 (by omega)
    rw [show ((12 : Nat) : Int) = 12 from rfl] at q
    rw [q, hb]
    rfl
  have l9 := fun h : zH => L_low (h := h) (o_shr v 5) (m := 9) (by omega) (by omega)
  have l60 := fun h : zH => L_low (h := h) (o_shr v 5) (m := 60) (by omega) (by omega)
  simp only [show nI 9 = 9 from rfl, show nI 60 = 60 from rfl] at l9 l60
  have a9 := lowN_lt (o_shr v 5) (show 0 < 9 by omega)
  have a60 := lowN_lt (o_shr v 5) (show 0 < 60 by omega)
  rcases (show kk v = 0 ∨ (1 ≤ kk v ∧ kk v ≤ 4) ∨ kk v = 5 ∨ kk v = 6 ∨ kk v = 7 ∨ kk v = 8 ∨ kk v = 9 ∨ (kk v = 10 ∨ kk v = 11) ∨ kk v = 12 ∨ 12 < kk v by omega) with e | e | e | e | e | e | e | e | e | e
  · exact pre aB0 (sw 0 (by omega) e) (act_cut v e j)
  · refine pre aB1 ?_ (act_order v e j)
    rcases (show kk v = 1 ∨ kk v = 2 ∨ kk v = 3 ∨ kk v = 4 by omega) with q | q | q | q
    · exact sw 1 (by omega) q
    · exact sw 2 (by omega) q
    · exact sw 3 (by omega) q
    · exact sw 4 (by omega) q
  · exact pre aB5 (sw 5 (by omega) e) (act_hurry v e j)
  · exact pre aB6 (sw 6 (by omega) e) (act_cancel v e j)
  · exact pre aB7 (sw 7 (by omega) e) (act_grind v e j)
  · exact pre aB8 (sw 8 (by omega) e) (act_spoil v e j)
  · exact pre aB9 (sw 9 (by omega) e) (act_takeOff v e j)
  · refine pre aB10 ?_ (act_slip v e j)
    rcases e with q | q
    · exact sw 10 (by omega) q
    · exact sw 11 (by omega) q
  · have e1 := (nI_lit (n := lowN (o_shr v 5) 9)).2.2.1
    refine pre aB12 (sw 12 (by omega) e) (act_work v (by omega) j (m := 1 + lowN (o_shr v 5) 9) (by omega) (by omega) (fun h h1 t pl od r ii q => ?_))
    simp [sRi, eCV, rL, aI, eOp, eC, eCS, eL, aN, l9, e1, ii, q]
  · have e1 := (nI_lit (n := lowN (o_shr v 5) 60)).2.2.2.1
    refine pre aBd (fun en h h1 r he hb => ?_) (act_work v (by omega) j (m := 20 + lowN (o_shr v 5) 60) (by omega) (by omega) (fun h h1 t pl od r ii q => ?_))
    · have hx : eOp (· &&& ·) (eL 1) (eC 15) en h = some (nI (kk v), h) := by simp only [eOp, eL, he, eC, Option.bind_some, kk_eq]
      simp only [sSw, hx, Option.bind_some, nI_toInt (show kk v < 2 ^ 31 by omega)]
      rw [if_pos (by omega), hb]
      rfl
    · simp [sRi, eCV, rL, aI, eOp, eC, eCS, eL, aN, l60, e1, ii, q]
end ZA2
