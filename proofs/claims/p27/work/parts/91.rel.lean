/-! the relation of the heap and the row: the object, its history, its text, its forecasts -/
def Txt (h : zH) (t nt : Nat) (TX : Nat → Int32) : Prop := nt ≤ 12 ∧ h.2 (t + 327) = some (cNm (t + 328) (nI nt)) ∧ ∃ tx, h.2 (t + 328) = some (xI 12 tx) ∧ ∀ x, x < nt → tx x = TX x
theorem Txt_keep {h h' : zH} {t nt : Nat} {TX : Nat → Int32} (w : Txt h t nt TX) (k : ∀ x, t + 327 ≤ x → x < t + 329 → h'.2 x = h.2 x) : Txt h' t nt TX := by
  obtain ⟨a, b, tx, c, d⟩ := w
  exact ⟨a, by rw [k _ (by omega) (by omega)]; exact b, tx, by rw [k _ (by omega) (by omega)]; exact c, d⟩
def Fcs (h : zH) (t : Nat) : Prop := Any h (t + 329) ∧ h.2 (t + 383) = some (cFo (t + 329) (t + 384)) ∧ (∃ D, h.2 (t + 384) = some (xI 10 D)) ∧ h.2 (t + 385) = some (cFo (t + 329) (t + 386)) ∧ ∃ D, h.2 (t + 386) = some (xI 10 D)
theorem Fcs_keep {h h' : zH} {t : Nat} (w : Fcs h t) (k : ∀ x, t + 329 ≤ x → x < t + 387 → h'.2 x = h.2 x) : Fcs h' t := by
  obtain ⟨a, b, ⟨D, c⟩, d, D', e⟩ := w
  exact ⟨Any_keep a (fun x h1 h2 => k x (by omega) (by omega)), by rw [k _ (by omega) (by omega)]; exact b, ⟨D, by rw [k _ (by omega) (by omega)]; exact c⟩, by rw [k _ (by omega) (by omega)]; exact d, D', by rw [k _ (by omega) (by omega)]; exact e⟩
abbrev cTr (t : Nat) : zX := xO 6 [.ref (t + 1), .ref (t + 55), .ref (t + 327), .ref (t + 383), .ref (t + 385)]
/-- the object, and what does not change -/
def Top (h : zH) (b L : Nat) (xs : Nat → Int32) (t : Nat) : Prop := h.2 b = some (xS L xs) ∧ b < t ∧ h.2 t = some (cTr t)
theorem Top_keep {h h' : zH} {b L t : Nat} {xs : Nat → Int32} (w : Top h b L xs t) (k : ∀ x, x ≤ t → h'.2 x = h.2 x) : Top h' b L xs t := by
  obtain ⟨a, b', c⟩ := w
  exact ⟨by rw [k _ (by omega)]; exact a, b', by rw [k _ (by omega)]; exact c⟩
section ZTP
variable {h : zH} {b L t : Nat} {xs : Nat → Int32}
theorem tp0 (w : Top h b L xs t) : rdR h 6 0 t = some (t + 1) := rdR_of w.2.2 rfl
theorem tp1 (w : Top h b L xs t) : rdR h 6 1 t = some (t + 55) := rdR_of w.2.2 rfl
theorem tp2 (w : Top h b L xs t) : rdR h 6 2 t = some (t + 327) := rdR_of w.2.2 rfl
theorem tp3 (w : Top h b L xs t) : rdR h 6 3 t = some (t + 383) := rdR_of w.2.2 rfl
theorem tp4 (w : Top h b L xs t) : rdR h 6 4 t = some (t + 385) := rdR_of w.2.2 rfl
theorem tpi (w : Top h b L xs t) : isO h 6 t = true := isO_of w.2.2
end ZTP
theorem hasB_in (v : Int32) {n : Nat} (hn : n < 100) : hasB v (nI n) = (decide (0 ≤ v) && decide (v ≤ nI n - 1)) := by
  simp only [hasB]
  congr 1
  refine decide_eq_decide.mpr ?_
  by_cases h0 : n = 0
  · subst h0
    rw [i_lt, i_le, show (nI 0 : Int32).toInt = 0 from rfl, show (nI 0 - 1 : Int32).toInt = -1 from rfl]
    omega
  · rw [nI_sub1 (by omega), i_lt, i_le]
    have e : ∀ m : Nat, m < 100 → (nI m).toInt = m := fun m hm => by
      have := (nI_idx (j := m) (n := m + 1) (by omega) (by omega))
      have q := this.2.2
      have p := this.1
      rw [Int32.toNatClampNeg] at q
      omega
    rw [e n hn, e (n - 1) (by omega)]
    omega
/-- a valid number is one of a place -/
theorem hasB_nI' {v : Int32} {n : Nat} (hn : n < 100) (h : hasB v (nI n) = true) : ∃ k, k < n ∧ v = nI k := by
  simp only [hasB, Bool.and_eq_true, decide_eq_true_eq] at h
  have e : (nI n).toInt = n := by
    have := (nI_idx (j := n) (n := n + 1) (by omega) (by omega))
    have q := this.2.2
    have p := this.1
    rw [Int32.toNatClampNeg] at q
    omega
  have h1 := i_le.mp h.1
  have h2 := i_lt.mp h.2
  rw [e] at h2
  rw [show (0 : Int32).toInt = 0 from rfl] at h1
  refine ⟨v.toInt.toNat, by omega, ?_⟩
  rw [i_eq]
  have := (nI_idx (j := v.toInt.toNat) (n := v.toInt.toNat + 1) (by omega) (by omega))
  have q := this.2.2
  have p := this.1
  rw [Int32.toNatClampNeg] at q
  omega
theorem X6_isWithin (h : zH) (v a b : Int32) : fX6_isWithin [.int v, .int a, .int b] h = some (bI (decide (a ≤ v) && decide (v ≤ b)), h) := by
  by_cases h1 : a ≤ v <;> by_cases h2 : v ≤ b <;> simp [fX6_isWithin, bX6_isWithin, mZ_bI, bAnd, bCmp, eL, o_ge, o_le, h1, h2]
theorem X6_isYear (h : zH) (v : Int32) : fX6_isYear [.int v] h = some (bI (decide (1 ≤ v) && decide (v ≤ 999)), h) := by
  simp only [fX6_isYear, bX6_isYear, mZ, sRi, eCS, aI, aN, eL, eC]
  simp [X6_isWithin, bI_01]
theorem X6_isSize (h : zH) (v : Int32) : fX6_isSize [.int v] h = some (bI (decide (1 ≤ v) && decide (v ≤ 4)), h) := by
  simp only [fX6_isSize, bX6_isSize, mZ, sRi, eCS, aI, aN, eL, eC]
  simp [X6_isWithin, bI_01]
theorem X6_isDepth (h : zH) (v : Int32) : fX6_isDepth [.int v] h = some (bI (decide (1 ≤ v) && decide (v ≤ 5)), h) := by
  simp only [fX6_isDepth, bX6_isDepth, mZ, sRi, eCS, aI, aN, eL, eC]
  simp [X6_isWithin, bI_01]
/-- the object shows row S, text TX -/
def Rw (h : zH) (b L : Nat) (xs : Nat → Int32) (t : Nat) (S : Nat → Int32) (nt : Nat) (TX : Nat → Int32) : Prop := Top h b L xs t ∧ Shw h (t + 1) S ∧ (∃ nh V, His h t nh V) ∧ Txt h t nt TX ∧ Fcs h t
/-- the same, and row S0 is what an undo brings back -/
def Ru (h : zH) (b L : Nat) (xs : Nat → Int32) (t : Nat) (S : Nat → Int32) (nt : Nat) (TX S0 : Nat → Int32) : Prop := Top h b L xs t ∧ Shw h (t + 1) S ∧ (∃ n V, His h t (n + 1) V ∧ V n = S0) ∧ Txt h t nt TX ∧ Fcs h t
section ZC1
variable {h : zH} {b L' t nS nP nO c nh nt : Nat} {xs : Nat → Int32} {S s pf N TX S0 : Nat → Int32} {P O L : Nat → Nat → Int32} {pi : Nat → Nat} {V : Nat → Nat → Int32}
theorem Ru.w (r : Ru h b L' xs t S nt TX S0) : Rw h b L' xs t S nt TX := ⟨r.1, r.2.1, by obtain ⟨n, V, a, -⟩ := r.2.2.1; exact ⟨_, _, a⟩, r.2.2.2.1, r.2.2.2.2⟩
theorem nI_inj9 {a b : Nat} (ha : a < 100) (hb : b < 100) (e : nI a = nI b) : a = b := (nI_eqI (by omega) (by omega)).mp e
/-- the numbers are the row's -/
theorem Iv_one {nS' nP' nO' : Nat} (i : Iv S nS nP nO) (i' : Iv S nS' nP' nO') : nS' = nS ∧ nP' = nP ∧ nO' = nO := by
  obtain ⟨a0, a1, a2, a3, a4, a5⟩ := i.1
  obtain ⟨b0, b1, b2, b3, b4, b5⟩ := i'.1
  exact ⟨nI_inj9 (by omega) (by omega) (b0.symm.trans a0), nI_inj9 (by omega) (by omega) (b1.symm.trans a1), nI_inj9 (by omega) (by omega) (b2.symm.trans a2)⟩
theorem shw_at {a : Nat} (w : Shw h a S) (iv : Iv S nS nP nO) : ∃ s P pf pi O N L, At h a s P pf pi O N L ∧ Vw s P pf pi O N L S nS nP nO := by
  obtain ⟨s, P, pf, pi, O, N, L, nS', nP', nO', c', e, v, i, -⟩ := w
  obtain ⟨rfl, rfl, rfl⟩ := Iv_one iv i
  exact ⟨s, P, pf, pi, O, N, L, e, v⟩
theorem his_le (w : His h t nh V) : nh ≤ 5 := by obtain ⟨ro, -, -, -, a, -⟩ := w; exact a
theorem his_is (w : His h t nh V) : isO h 1 (t + 55) = true := by obtain ⟨ro, -, h0, -⟩ := w; exact hi_is h0
theorem acN_le (hn : nh ≤ 5) : acN nh + 1 ≤ 5 := by
  simp only [acN]
  split <;> omega
/-- the state is kept -/
theorem one_rec (top : Top h b L' xs t) (at1 : At h (t + 1) s P pf pi O N L) (vw : Vw s P pf pi O N L S nS nP nO) (iv : Iv S nS nP nO) (ir : IvR S nO c) (his : His h t nh V) (txt : Txt h t nt TX) (fcs : Fcs h t) :
    ∃ h1, fX1_record [.ref (t + 55), .ref (t + 1)] h = some h1 ∧ Top h1 b L' xs t ∧ At h1 (t + 1) s P pf pi O N L ∧ His h1 t (acN nh + 1) (acW V S nh) ∧ Txt h1 t nt TX ∧ Fcs h1 t := by
  obtain ⟨h1, r1, -, r3, r4⟩ := record_rel his ⟨s, P, pf, pi, O, N, L, nS, nP, nO, c, at1, vw, iv, ir⟩
  exact ⟨h1, r1, Top_keep top (fun x hx => r3 x (by omega)), At_keep at1 (fun x a b => r3 x (by omega)), r4, Txt_keep txt (fun x a b => r3 x (by omega)), Fcs_keep fcs (fun x a b => r3 x (by omega))⟩
theorem asm {h1 : zH} (top : Top h1 b L' xs t) (his : His h1 t (acN nh + 1) (acW V S0 nh)) (txt : Txt h1 t nt TX) (fcs : Fcs h1 t) (vw : Vw s P pf pi O N L S nS nP nO) (iv : Iv S nS nP nO) (ir : IvR S nO c) :
    Ru (hS h1 (t + 1) s P pf pi O N L) b L' xs t S nt TX S0 := by
  have k : ∀ x, x < t + 1 ∨ t + 55 ≤ x → (hS h1 (t + 1) s P pf pi O N L).2 x = h1.2 x := fun x hx => hS_ne (by omega)
  exact ⟨Top_keep top (fun x hx => k x (by omega)), ⟨s, P, pf, pi, O, N, L, nS, nP, nO, c, At_self, vw, iv, ir⟩, ⟨_, _, His_keep his (fun x h1 h2 => k x (by omega)), acW_top⟩, Txt_keep txt (fun x h1 h2 => k x (by omega)), Fcs_keep fcs (fun x h1 h2 => k x (by omega))⟩
/-- a plate's number, a shield's, an order's -/
theorem pl_one (at1 : At h (t + 1) s P pf pi O N L) (vw : Vw s P pf pi O N L S nS nP nO) (iv : Iv S nS nP nO) (v : Int32) : fX5_hasPlate [.ref (t + 1), .int v] h = some (bI (hasB v (nI nP)), h) := by
  have e := X5_hasPlate (h := h) (lo := t + 1) (s := s) (P := P) (pf := pf) (pi := pi) (O := O) (N := N) (L := L) v
  rwa [At_eq at1, show s 3 = nI nP by rw [vw.1.1, iv.1.2.1]] at e
theorem sh_one (at1 : At h (t + 1) s P pf pi O N L) (vw : Vw s P pf pi O N L S nS nP nO) (iv : Iv S nS nP nO) (v : Int32) : fX5_hasShield [.ref (t + 1), .int v] h = some (bI (hasB v (nI nS)), h) := by
  have e := X5_hasShield (h := h) (lo := t + 1) (s := s) (P := P) (pf := pf) (pi := pi) (O := O) (N := N) (L := L) v
  rwa [At_eq at1, show s 4 = nI nS by rw [vw.1.2.1, iv.1.1]] at e
theorem or_one (at1 : At h (t + 1) s P pf pi O N L) (vw : Vw s P pf pi O N L S nS nP nO) (iv : Iv S nS nP nO) (v : Int32) : fX5_hasOrder [.ref (t + 1), .int v] h = some (bI (hasB v (nI nO)), h) := by
  have e := X5_hasOrder (h := h) (lo := t + 1) (s := s) (P := P) (pf := pf) (pi := pi) (O := O) (N := N) (L := L) v
  rwa [At_eq at1, show s 5 = nI nO by rw [vw.1.2.2.1, iv.1.2.2.1]] at e
theorem aPl (e : At h (t + 1) s P pf pi O N L) {p x : Nat} (hp0 : p < 20) (hx : x < 7) : rdI h 4 x (t + 1 + 4 + p) = some (P p x) := by
  refine rdI_of (a_p e hp0) ?_
  match x, hx with
  | 0, _ => rfl
  | 1, _ => rfl
  | 2, _ => rfl
  | 3, _ => rfl
  | 4, _ => rfl
  | 5, _ => rfl
  | 6, _ => rfl
theorem aPi (e : At h (t + 1) s P pf pi O N L) {p : Nat} (hp0 : p < 20) : isO h 4 (t + 1 + 4 + p) = true := isO_of (a_p e hp0)
theorem R_same {S S' : Nat → Int32} (ir : IvR S nO c) (h : ∀ j, sO S' j 4 = sO S j 4) : IvR S' nO c := ⟨ir.1, fun j hj => by rw [h]; exact ir.2 j hj⟩
theorem aOr (e : At h (t + 1) s P pf pi O N L) {j x : Nat} (hj : j < 10) (hx : x < 6) : rdI h 3 (x + 1) (t + 1 + 24 + 3 * j) = some (O j x) := by
  refine rdI_of (a_o e hj) ?_
  match x, hx with
  | 0, _ => rfl
  | 1, _ => rfl
  | 2, _ => rfl
  | 3, _ => rfl
  | 4, _ => rfl
  | 5, _ => rfl
theorem tx_1 (w : Txt h t nt TX) : rdI h 2 1 (t + 327) = some (nI nt) := rdI_of w.2.1 rfl
theorem tx_0 (w : Txt h t nt TX) : rdR h 2 0 (t + 327) = some (t + 328) := rdR_of w.2.1 rfl
theorem tx_i (w : Txt h t nt TX) : isO h 2 (t + 327) = true := isO_of w.2.1
theorem dec_12 {n : Nat} (hn : n ≤ 12) : o_ge (nI n) 12 = decide (n = 12) ∧ o_eq (nI n) 12 = decide (n = 12) ∧ o_lt (nI n) 12 = decide (n < 12) := by
  refine ⟨?_, ?_, ?_⟩
  · simp only [o_ge, show (12 : Int32) = nI 12 from rfl, nI_leI (show 12 < 2 ^ 31 by omega) (show n < 2 ^ 31 by omega)]
    exact decide_eq_decide.mpr (by omega)
  · simp only [o_eq, show (12 : Int32) = nI 12 from rfl, nI_eqI (show n < 2 ^ 31 by omega) (show 12 < 2 ^ 31 by omega)]
  · simp only [o_lt, show (12 : Int32) = nI 12 from rfl, nI_ltI (show n < 2 ^ 31 by omega) (show 12 < 2 ^ 31 by omega)]
set_option maxRecDepth 100000 in
theorem X2_add {a la n : Nat} {fa : Nat → Int32} {v : Int32} (ha : h.2 a = some (cNm la (nI n))) (hl : h.2 la = some (xI 12 fa)) (hn : n < 12) (ne : a ≠ la) : fX2_add [.ref a, .int v] h = some (hp (hp h la (xI 12 (upd fa n v))) a (cNm la (nI (n + 1)))) := by
  have r1 := rdI_of (h := h) (ci := 2) (k := 1) ha rfl
  have r0 := rdR_of (h := h) (ci := 2) (k := 0) ha rfl
  have w := wrA_of (v := v) hl hn (by omega)
  have hb : (hp h la (xI 12 (upd fa n v))).2 a = some (cNm la (nI n)) := by rw [hp_ne _ _ ne]; exact ha
  have r2 := rdI_of (ci := 2) (k := 1) hb rfl
  have w2 := wrO_of (v := .int (nI (n + 1))) hb (k := 1) (by simp)
  have e : [Value.ref la, Value.int (nI n)].set 1 (.int (nI (n + 1))) = [Value.ref la, Value.int (nI (n + 1))] := rfl
  rw [e] at w2
  simp [fX2_add, bX2_add, mV, sSeq, sIf, bCmp, eF, rL, r1, eC, (dec_12 (n := n) (by omega)).2.2, hn, sA, rF, r0, eL, w, sFa, r2, nI_1, w2, zCut, sRv]
theorem dec_20 (hn : nP ≤ 20) : o_ge (nI nP) 20 = decide (nP = 20) := by
  simp only [o_ge, show (20 : Int32) = nI 20 from rfl, nI_leI (show 20 < 2 ^ 31 by omega) (show nP < 2 ^ 31 by omega)]
  exact decide_eq_decide.mpr (by omega)
theorem dec_3 (hn : nS ≤ 3) : o_ge (nI nS) 3 = decide (nS = 3) := by
  simp only [o_ge, show (3 : Int32) = nI 3 from rfl, nI_leI (show 3 < 2 ^ 31 by omega) (show nS < 2 ^ 31 by omega)]
  exact decide_eq_decide.mpr (by omega)
theorem dec_10 (hn : nO ≤ 10) : o_ge (nI nO) 10 = decide (nO = 10) := by
  simp only [o_ge, show (10 : Int32) = nI 10 from rfl, nI_leI (show 10 < 2 ^ 31 by omega) (show nO < 2 ^ 31 by omega)]
  exact decide_eq_decide.mpr (by omega)
end ZC1
