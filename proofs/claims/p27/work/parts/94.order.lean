/-! the command order -/
def filA (A TX : Nat → Int32) (nt y : Nat) : Nat → Int32 := fun x => if 6 ≤ x ∧ x < 6 + y then (if x - 6 < nt then TX (x - 6) else 0) else A x
def newO (o : Nat → Int32) (sh y sz d r : Int32) : Nat → Int32 := upd (upd (upd (upd (upd o 0 sh) 1 y) 2 sz) 3 d) 4 r
def newA (A TX : Nat → Int32) (nt : Nat) (sh y sz d r : Int32) : Nat → Int32 := upd (filA (upd (upd (upd (upd (upd (upd A 0 sh) 1 y) 2 sz) 3 d) 4 r) 5 (nI nt)) TX nt 12) 18 0
theorem any_first {F : Nat → Bool} : ∀ n, anyM F n = fstB (firstO F n)
  | 0 => rfl
  | n + 1 => by
    simp only [anyM, firstO, any_first n]
    cases firstO F n with
    | some x => simp [fstB]
    | none => cases hf : F n <;> simp [fstB]
theorem in_nI {v : Int32} {n : Nat} (hn : n < 99) (h : (decide (0 ≤ v) && decide (v ≤ nI n)) = true) : ∃ k, k ≤ n ∧ v = nI k := by
  have : hasB v (nI (n + 1)) = true := by
    rw [hasB_in _ (by omega), nI_sub1 (by omega)]
    exact h
  obtain ⟨k, hk, e⟩ := hasB_nI' (by omega) this
  exact ⟨k, by omega, e⟩
section ZCK
variable {h : zH} {b L' t nS nP nO c nh nt : Nat} {xs : Nat → Int32} {S s pf N TX tx AS S0 : Nat → Int32} {P O L : Nat → Nat → Int32} {pi : Nat → Nat} {V : Nat → Nat → Int32} {sh y sz d r : Int32}
theorem nwA (x : Nat) (hx : x < 6) : newA AS TX nt sh y sz d r x = upd (upd (upd (upd (upd (upd AS 0 sh) 1 y) 2 sz) 3 d) 4 r) 5 (nI nt) x := by
  simp only [newA]
  rw [upd_ne (by omega)]
  simp only [filA]
  rw [if_neg (by omega)]
theorem nwA0 : newA AS TX nt sh y sz d r 0 = sh := by rw [nwA 0 (by omega)]; simp [upd]
theorem nwA1 : newA AS TX nt sh y sz d r 1 = y := by rw [nwA 1 (by omega)]; simp [upd]
theorem nwA2 : newA AS TX nt sh y sz d r 2 = sz := by rw [nwA 2 (by omega)]; simp [upd]
theorem nwA3 : newA AS TX nt sh y sz d r 3 = d := by rw [nwA 3 (by omega)]; simp [upd]
theorem nwA4 : newA AS TX nt sh y sz d r 4 = r := by rw [nwA 4 (by omega)]; simp [upd]
theorem nwA5 : newA AS TX nt sh y sz d r 5 = nI nt := by rw [nwA 5 (by omega)]; simp [upd]
theorem nwAl {x : Nat} (hx : x < nt) (hn : nt ≤ 12) : newA AS TX nt sh y sz d r (6 + x) = TX x := by
  simp only [newA]
  rw [upd_ne (by omega)]
  simp only [filA]
  rw [if_pos (by omega), show 6 + x - 6 = x by omega, if_pos hx]
theorem nC_nI {n : Nat} (hn : n < 100) : (nI n).toNatClampNeg = n := (nI_idx (j := n) (n := n + 1) (by omega) (by omega)).2.2
theorem nw_VA {o l : Nat → Int32} (hn : nt ≤ 12) (ht : ∀ x, x < nt → tx x = TX x) : VA (newO o sh y sz d r) (nI nt) (cpTo l tx 12) (newA AS TX nt sh y sz d r) := by
  refine ⟨by rw [nwA0]; simp [newO, upd], by rw [nwA1]; simp [newO, upd], by rw [nwA2]; simp [newO, upd], by rw [nwA3]; simp [newO, upd], by rw [nwA4]; simp [newO, upd], by rw [nwA5], fun x hx => ?_⟩
  rw [nwA5, nC_nI (by omega)] at hx
  rw [nwAl hx hn, ← ht x hx]
  simp only [cpTo]
  rw [if_pos (by omega)]
theorem isOrd_view (vO : VOs pi O N L S nO) : fstB (firstO (orC O pi sh y) nO) = anyM (orY S sh y) nO := by
  rw [any_first, firstO_congr (fun k hk => ?_)]
  obtain ⟨o0, o1, -⟩ := vO k hk
  simp only [orC, orY, o0, o1]
theorem anyM_none {F : Nat → Bool} : ∀ n, anyM F n = false → ∀ k, k < n → F k = false
  | 0, _, k, hk => by omega
  | n + 1, e, k, hk => by
    simp only [anyM, Bool.or_eq_false_iff] at e
    by_cases h : k = n
    · rw [h]; exact e.2
    · exact anyM_none n e.1 k (by omega)
theorem lastO_none {F : Nat → Bool} : ∀ n, lastO F n = none → ∀ k, k < n → F k = false
  | 0, _, k, hk => by omega
  | n + 1, e, k, hk => by
    simp only [lastO] at e
    split at e
    · cases e
    · rename_i hf
      by_cases h : k = n
      · rw [h]; simpa using hf
      · exact lastO_none n e k (by omega)
theorem cntN_congr {A B : Nat → Bool} : ∀ n, (∀ k, k < n → A k = B k) → cntN A n = cntN B n
  | 0, _ => rfl
  | n + 1, e => by simp only [cntN, e n (by omega), cntN_congr n (fun k hk => e k (by omega))]
set_option maxRecDepth 100000 in
set_option maxHeartbeats 2000000 in
/-- the class's part behind the checks -/
theorem X6_order_ok {h1 : zH} {pl : Nat} (top : Top h b L' xs t) (at1 : At h (t + 1) s P pf pi O N L) (vw : Vw s P pf pi O N L S nS nP nO) (iv : Iv S nS nP nO) (ir : IvR S nO c) (hO : nO < 10) (hIs : isO h 1 (t + 55) = true)
    (r1 : fX1_record [.ref (t + 55), .ref (t + 1)] h = some h1) (top1 : Top h1 b L' xs t) (at2 : At h1 (t + 1) s P pf pi O N L) (txt : Txt h t nt TX) (t1 : nt ≤ 12) (t2 : h1.2 (t + 327) = some (cNm (t + 328) (nI nt))) (t3 : h1.2 (t + 328) = some (xI 12 tx)) (hz : z_eq (nI nt) = false)
    (e1 : fX5_hasShield [.ref (t + 1), .int sh] h = some (bI true, h)) (e2 : (decide (1 ≤ y) && decide (y ≤ 999)) = true) (e3 : (decide (1 ≤ sz) && decide (sz ≤ 4)) = true) (e4 : (decide (1 ≤ d) && decide (d ≤ 5)) = true)
    (e6 : fX5_plateOfYear [.ref (t + 1), .int sh, .int y] h = some (-9, h)) (e7 : fX5_isOrdered [.ref (t + 1), .int sh, .int y] h = some (bI false, h))
    (hr : (r = 1 ∧ pl = c) ∨ (r = 0 ∧ pl = nO)) :
    fX6_order [.ref t, .int sh, .int y, .int sz, .int d, .int r] h = some (nI pl, hS (hp h1 (t + 327) (cNm (t + 328) (nI 0))) (t + 1) (upd (upd s 5 (nI (nO + 1))) 6 (mvA (s 6) nO pl)) P pf (mvC pi nO pl) (va_up O (pi nO) (newO (O (pi nO)) sh y sz d r)) (va_up N (pi nO) (nI nt)) (va_up L (pi nO) (cpTo (L (pi nO)) tx 12))) := by
  have s5 : s 5 = nI nO := by rw [vw.1.2.2.1, iv.1.2.2.1]
  have hpi := vw.2.1.1
  have hj := hpi nO hO
  have x5 : rdI h 5 5 (t + 1) = some (nI nO) := by rw [aSx at1 (by omega) (by omega), s5]
  have x5' : rdI h1 5 5 (t + 1) = some (nI nO) := by rw [aSx at2 (by omega) (by omega), s5]
  have d1 := dec_10 (nO := nO) (by omega)
  rw [decide_eq_false (by omega)] at d1
  have h01 : (decide (0 ≤ r) && decide (r ≤ 1)) = true := by rcases hr with ⟨rfl, -⟩ | ⟨rfl, -⟩ <;> decide
  have cpy := X2_copyFrom (h := hS h1 (t + 1) s P pf pi O N L) (b := t + 327) (lb := t + 328) (n := nt) (fb := tx) (s_n (h := h1) (lo := t + 1) (s := s) (P := P) (pf := pf) (pi := pi) (O := O) (N := N) (L := L) hj) (s_l (h := h1) (lo := t + 1) (s := s) (P := P) (pf := pf) (pi := pi) (O := O) (N := N) (L := L) hj) (by rw [hS_ne (by omega)]; exact t2) (by rw [hS_ne (by omega)]; exact t3) (by omega) (by omega) (by omega) (by omega) (by omega)
  rw [ws_n hj, ws_l hj, At_eq at2] at cpy
  have rn : rdR h1 3 0 (t + 1 + 24 + 3 * pi nO) = some (t + 1 + 24 + 3 * pi nO + 1) := rdR_of (a_o at2 hj) rfl
  have isn : isO h1 2 (t + 1 + 24 + 3 * pi nO + 1) = true := isO_of (a_n at2 hj)
  have tq2 := fun (O : Nat → Nat → Int32) (N : Nat → Int32) (L : Nat → Nat → Int32) => rdR_of (h := hS h1 (t + 1) s P pf pi O N L) (ci := 6) (k := 2) (a := t) (v := t + 327) (by rw [hS_ne (by omega)]; exact top1.2.2) rfl
  have wt := fun (O : Nat → Nat → Int32) (N : Nat → Int32) (L : Nat → Nat → Int32) => wrO_of (h := hS h1 (t + 1) s P pf pi O N L) (ci := 2) (k := 1) (a := t + 327) (v := .int (nI 0)) (fs := [.ref (t + 328), .int (nI nt)]) (by rw [hS_ne (by omega)]; exact t2) (by simp)
  simp only [show ∀ v w : Value, [Value.ref (t + 328), w].set 1 v = [Value.ref (t + 328), v] from fun _ _ => rfl, hp_hS (show t + 327 < t + 1 ∨ t + 1 + 54 ≤ t + 327 by omega)] at wt
  have wo1' := fun (O : Nat → Nat → Int32) (N : Nat → Int32) (L : Nat → Nat → Int32) (v : Int32) => wo1 (h := h1) (lo := t + 1) (s := s) (P := P) (pf := pf) (pi := pi) (O := O) (N := N) (L := L) hj v
  have wo2' := fun (O : Nat → Nat → Int32) (N : Nat → Int32) (L : Nat → Nat → Int32) (v : Int32) => wo2 (h := h1) (lo := t + 1) (s := s) (P := P) (pf := pf) (pi := pi) (O := O) (N := N) (L := L) hj v
  have wo3' := fun (O : Nat → Nat → Int32) (N : Nat → Int32) (L : Nat → Nat → Int32) (v : Int32) => wo3 (h := h1) (lo := t + 1) (s := s) (P := P) (pf := pf) (pi := pi) (O := O) (N := N) (L := L) hj v
  have wo4' := fun (O : Nat → Nat → Int32) (N : Nat → Int32) (L : Nat → Nat → Int32) (v : Int32) => wo4 (h := h1) (lo := t + 1) (s := s) (P := P) (pf := pf) (pi := pi) (O := O) (N := N) (L := L) hj v
  have wo5' := fun (O : Nat → Nat → Int32) (N : Nat → Int32) (L : Nat → Nat → Int32) (v : Int32) => wo5 (h := h1) (lo := t + 1) (s := s) (P := P) (pf := pf) (pi := pi) (O := O) (N := N) (L := L) hj v
  have nO' : ∀ o : Nat → Int32, upd (upd (upd (upd (upd o 0 sh) 1 y) 2 sz) 3 d) 4 r = newO o sh y sz d r := fun _ => rfl
  have rz : bI (o_eq r 1) = r := by rcases hr with ⟨rfl, -⟩ | ⟨rfl, -⟩ <;> rfl
  have r01 : r = 0 ∨ r = 1 := by rcases hr with ⟨e, -⟩ | ⟨e, -⟩ <;> first | exact .inr e | exact .inl e
  generalize hO2 : va_up O (pi nO) (newO (O (pi nO)) sh y sz d r) = O2
  generalize hN2 : va_up N (pi nO) (nI nt) = N2 at *
  generalize hL2 : va_up L (pi nO) (cpTo (L (pi nO)) tx 12) = L2 at *
  have tc : toC O2 pi nO = pl := by
    have o4 : O2 (pi nO) 4 = r := by rw [← hO2, va_up_self]; simp [newO, upd]
    have cn : cntN (rsC O2 pi) nO = c := by
      refine (cntN_congr nO (fun k hk => ?_)).trans (rs_view vw.2.2.2.2 ir)
      have e : pi k ≠ pi nO := fun e => by have := vw.2.1.2 _ _ (by omega) (by omega) e; omega
      simp only [rsC, ← hO2, va_up_ne _ _ e]
    simp only [toC, o4, cn]
    rcases hr with ⟨rfl, e⟩ | ⟨rfl, e⟩
    · rw [if_neg (by decide), e]
    · rw [if_pos rfl, e]
  have ti := X5_takeInOrder (h := hp h1 (t + 327) (cNm (t + 328) (nI 0))) (lo := t + 1) (s := s) (P := P) (pf := pf) (pi := pi) (O := O2) (N := N2) (L := L2) s5 hO hpi
  rw [tc] at ti
  have tq0 : rdR (hS (hp h1 (t + 327) (cNm (t + 328) (nI 0))) (t + 1) s P pf pi O2 N2 L2) 6 0 t = some (t + 1) := rdR_of (by rw [hS_ne (by omega), hp_ne _ _ (by omega)]; exact top1.2.2) rfl
  have wt' := wt O2 N2 L2
  simp only [nI_0] at wt' ti tq0 ⊢
  simp [fX6_order, bX6_order, mI, sSeq, sIf, bOr, bNot, bZ, eCV, rF, rL, tp0 top, aI, eL, aN, aIs at1, e1, z_ne_bI, eCS, X6_isYear, e2, X6_isSize, e3, X6_isDepth, e4, eC, X6_isWithin, h01, sNop, zCut, eF, tp2 top, tx_1 txt, hz, bCmp, e6, o_ne, e7, x5, d1, sCV, tp1 top, aR, hIs, r1, sLr, rQ, tp0 top1, aS2 at2, x5', aQr at2 hO, zSt, rn, isn, tp2 top1, cpy, sF, wo1', wo2', wo3', wo4', va_up_self, up_up, sFz, eB_bI, rz, r01, wo5', nO', hO2, tq2, wt', tq0, isS, ti, sRi]
set_option maxRecDepth 100000 in
set_option maxHeartbeats 2000000 in
/-- the year is taken, or ordered already -/
theorem no_order {j : Nat} (rw0 : Rw h b L' xs t S nt TX) (iv : Iv S nS nP nO) (hj : j < nS) (hy : (decide (1 ≤ y) && decide (y ≤ 999)) = true) (hs : (decide (1 ≤ sz) && decide (sz ≤ 4)) = true) (hd : (decide (1 ≤ d) && decide (d ≤ 5)) = true) (hr : (decide (0 ≤ r) && decide (r ≤ 1)) = true) (hz : z_eq (nI nt) = false) (hb : lastO (onY S (nI j) y) nP ≠ none ∨ anyM (orY S (nI j) y) nO = true) :
    fX6_order [.ref t, .int (nI j), .int y, .int sz, .int d, .int r] h = some (-2, h) := by
  obtain ⟨top, shw, -, txt, fcs⟩ := rw0
  obtain ⟨s, P, pf, pi, O, N, L, at1, vw⟩ := shw_at shw iv
  obtain ⟨c0, c1, c2, c3, c4, c5⟩ := iv.1
  have s3 : s 3 = nI nP := by rw [vw.1.1, c1]
  have s5 : s 5 = nI nO := by rw [vw.1.2.2.1, c2]
  have q1 := sh_one at1 vw iv (nI j)
  rw [hasB_nI (by omega) (by omega), decide_eq_true hj] at q1
  have cp := X5_plateOfYear (h := h) (lo := t + 1) (s := s) (P := P) (pf := pf) (pi := pi) (O := O) (N := N) (L := L) s3 c4 (nI j) y
  rw [At_eq at1, plateOf_view vw.2.2.1 iv.2.2.2.2 (show j < 2 ^ 31 by omega) y] at cp
  cases hl : lastO (onY S (nI j) y) nP with
  | some k =>
    rw [hl] at cp
    simp only [toI] at cp
    have k9 : o_ne (nI k) (-9) = true := by simp [o_ne, nI_ne9 (show k < 2 ^ 31 by have := (lastO_lt hl).1; omega)]
    simp [fX6_order, bX6_order, mI, sSeq, sIf, bOr, bNot, bZ, eCV, rF, rL, tp0 top, aI, eL, aN, aIs at1, q1, z_ne_bI, eCS, X6_isYear, hy, X6_isSize, hs, X6_isDepth, hd, X6_isWithin, hr, eC, zCut, sNop, eF, tp2 top, tx_1 txt, hz, bCmp, cp, k9, sRi]
  | none =>
    rw [hl] at cp
    simp only [toI] at cp
    have k9 : o_ne (-9) (-9) = false := rfl
    have co := X5_isOrdered (h := h) (lo := t + 1) (s := s) (P := P) (pf := pf) (pi := pi) (O := O) (N := N) (L := L) (nO := nO) s5 c5 vw.2.1.1 (nI j) y
    have ha : anyM (orY S (nI j) y) nO = true := hb.resolve_left (fun q => q hl)
    rw [At_eq at1, isOrd_view vw.2.2.2.2, ha] at co
    simp [fX6_order, bX6_order, mI, sSeq, sIf, bOr, bNot, bZ, eCV, rF, rL, tp0 top, aI, eL, aN, aIs at1, q1, z_ne_bI, eCS, X6_isYear, hy, X6_isSize, hs, X6_isDepth, hd, X6_isWithin, hr, eC, zCut, sNop, eF, tp2 top, tx_1 txt, hz, bCmp, cp, k9, co, sRi]
set_option maxRecDepth 100000 in
set_option maxHeartbeats 2000000 in
/-- the row is full -/
theorem full_order {j : Nat} (rw0 : Rw h b L' xs t S nt TX) (iv : Iv S nS nP nO) (hj : j < nS) (hy : (decide (1 ≤ y) && decide (y ≤ 999)) = true) (hs : (decide (1 ≤ sz) && decide (sz ≤ 4)) = true) (hd : (decide (1 ≤ d) && decide (d ≤ 5)) = true) (hr : (decide (0 ≤ r) && decide (r ≤ 1)) = true) (hz : z_eq (nI nt) = false) (hl : lastO (onY S (nI j) y) nP = none) (ha : anyM (orY S (nI j) y) nO = false) (hn : nO = 10) :
    fX6_order [.ref t, .int (nI j), .int y, .int sz, .int d, .int r] h = some (-3, h) := by
  obtain ⟨top, shw, -, txt, fcs⟩ := rw0
  obtain ⟨s, P, pf, pi, O, N, L, at1, vw⟩ := shw_at shw iv
  obtain ⟨c0, c1, c2, c3, c4, c5⟩ := iv.1
  have s3 : s 3 = nI nP := by rw [vw.1.1, c1]
  have s5 : s 5 = nI nO := by rw [vw.1.2.2.1, c2]
  have q1 := sh_one at1 vw iv (nI j)
  rw [hasB_nI (by omega) (by omega), decide_eq_true hj] at q1
  have cp := X5_plateOfYear (h := h) (lo := t + 1) (s := s) (P := P) (pf := pf) (pi := pi) (O := O) (N := N) (L := L) s3 c4 (nI j) y
  rw [At_eq at1, plateOf_view vw.2.2.1 iv.2.2.2.2 (show j < 2 ^ 31 by omega) y, hl] at cp
  simp only [toI] at cp
  have k9 : o_ne (-9) (-9) = false := rfl
  have co := X5_isOrdered (h := h) (lo := t + 1) (s := s) (P := P) (pf := pf) (pi := pi) (O := O) (N := N) (L := L) (nO := nO) s5 c5 vw.2.1.1 (nI j) y
  rw [At_eq at1, isOrd_view vw.2.2.2.2, ha] at co
  have x5 : rdI h 5 5 (t + 1) = some (nI nO) := by rw [aSx at1 (by omega) (by omega), s5]
  have d1 := dec_10 c5
  rw [decide_eq_true hn] at d1
  simp [fX6_order, bX6_order, mI, sSeq, sIf, bOr, bNot, bZ, eCV, rF, rL, tp0 top, aI, eL, aN, aIs at1, q1, z_ne_bI, eCS, X6_isYear, hy, X6_isSize, hs, X6_isDepth, hd, X6_isWithin, hr, eC, zCut, sNop, eF, tp2 top, tx_1 txt, hz, bCmp, cp, k9, co, x5, d1, sRi]
/-- the row with a new order -/
abbrev ordR (S TX : Nat → Int32) (nt j : Nat) (y sz d r : Int32) (c nO : Nat) : Nat → Int32 := opPut S (newA (fun _ => 0) TX nt (nI j) y sz d r) (if r = 1 then c else nO) nO
set_option maxRecDepth 100000 in
set_option maxHeartbeats 2000000 in
theorem do_order {j : Nat} (rw0 : Rw h b L' xs t S nt TX) (iv : Iv S nS nP nO) (ir : IvR S nO c) (hj : j < nS) (hy : (decide (1 ≤ y) && decide (y ≤ 999)) = true) (hs : (decide (1 ≤ sz) && decide (sz ≤ 4)) = true) (hd : (decide (1 ≤ d) && decide (d ≤ 5)) = true) (hr : r = 0 ∨ r = 1) (nt0 : 1 ≤ nt) (hl : lastO (onY S (nI j) y) nP = none) (ha : anyM (orY S (nI j) y) nO = false) (hn : ¬ nO = 10) :
    ∃ h1, fX6_order [.ref t, .int (nI j), .int y, .int sz, .int d, .int r] h = some (nI (if r = 1 then c else nO), h1) ∧ Ru h1 b L' xs t (ordR S TX nt j y sz d r c nO) 0 TX S ∧ Iv (ordR S TX nt j y sz d r c nO) nS nP (nO + 1) ∧ IvR (ordR S TX nt j y sz d r c nO) (nO + 1) (if r = 1 then c + 1 else c) := by
  obtain ⟨top, shw, ⟨nh, V, his⟩, txt, fcs⟩ := rw0
  obtain ⟨s, P, pf, pi, O, N, L, at1, vw⟩ := shw_at shw iv
  have hIs := his_is his
  obtain ⟨c0, c1, c2, c3, c4, c5⟩ := iv.1
  have s3 : s 3 = nI nP := by rw [vw.1.1, c1]
  have s5 : s 5 = nI nO := by rw [vw.1.2.2.1, c2]
  have q1 := sh_one at1 vw iv (nI j)
  rw [hasB_nI (by omega) (by omega), decide_eq_true hj] at q1
  have cp := X5_plateOfYear (h := h) (lo := t + 1) (s := s) (P := P) (pf := pf) (pi := pi) (O := O) (N := N) (L := L) s3 c4 (nI j) y
  rw [At_eq at1, plateOf_view vw.2.2.1 iv.2.2.2.2 (show j < 2 ^ 31 by omega) y, hl] at cp
  simp only [toI] at cp
  have co := X5_isOrdered (h := h) (lo := t + 1) (s := s) (P := P) (pf := pf) (pi := pi) (O := O) (N := N) (L := L) (nO := nO) s5 c5 vw.2.1.1 (nI j) y
  rw [At_eq at1, isOrd_view vw.2.2.2.2, ha] at co
  obtain ⟨h1, r1, top1, at2, his1, txt1, fcs1⟩ := one_rec top at1 vw iv ir his txt fcs
  obtain ⟨t1, t2, tx, t3, t4⟩ := txt1
  have hz : z_eq (nI nt) = false := by
    simp only [z_eq]
    exact decide_eq_false (fun e => by have := (nI_eqI (show nt < 2 ^ 31 by omega) (show 0 < 2 ^ 31 by omega)).mp (e.trans nI_0.symm); omega)
  have hrp : (r = 1 ∧ (if r = 1 then c else nO) = c) ∨ (r = 0 ∧ (if r = 1 then c else nO) = nO) := by
    rcases hr with e | e
    · exact .inr ⟨e, if_neg (by rw [e]; decide)⟩
    · exact .inl ⟨e, if_pos e⟩
  have hpl : (if r = 1 then c else nO) ≤ nO := by have := ir.1; split <;> omega
  simp only [Bool.and_eq_true, decide_eq_true_eq] at hy hd
  have va := nw_VA (AS := fun _ => 0) (o := O (pi nO)) (l := L (pi nO)) (sh := nI j) (y := y) (sz := sz) (d := d) (r := r) t1 t4
  obtain ⟨v1, i1⟩ := order_view (A := newA (fun _ => 0) TX nt (nI j) y sz d r) (pl := if r = 1 then c else nO) (sh := j) (y := y) (O' := va_up O (pi nO) (newO (O (pi nO)) (nI j) y sz d r)) (N' := va_up N (pi nO) (nI nt)) (L' := va_up L (pi nO) (cpTo (L (pi nO)) tx 12)) vw iv (by omega) hpl (fun i hi => va_up_ne _ _ hi) (fun i hi => va_up_ne _ _ hi) (fun i hi => va_up_ne _ _ hi) (by rw [va_up_self, va_up_self, va_up_self]; exact va) nwA0 hj nwA1 hy.1 hy.2 (by rw [nwA3]; exact Int32.le_trans (by decide) hd.1) (by rw [nwA4]; exact hr) (by rw [nwA5, nC_nI (by omega)]) (by rw [nwA5, nC_nI (by omega)]; exact nt0) (by rw [nwA5, nC_nI (by omega)]; exact t1) (lastO_none nP hl) (anyM_none nO ha)
  have i2 : IvR (ordR S TX nt j y sz d r c nO) (nO + 1) (if r = 1 then c + 1 else c) := by
    obtain ⟨k1, k2⟩ := order_R (A := newA (fun _ => 0) TX nt (nI j) y sz d r) (r := r) ir nwA4 hr
    rcases hr with e | e
    · have ne : ¬ r = 1 := by rw [e]; decide
      simp only [ordR, if_neg ne]
      exact k2 e
    · simp only [ordR, if_pos e]
      exact k1 e
  have cl := X6_order_ok (S := S) (pl := if r = 1 then c else nO) (sh := nI j) (y := y) (sz := sz) (d := d) (r := r) top at1 vw iv ir (show nO < 10 by omega) hIs r1 top1 at2 txt t1 t2 t3 hz q1 (by simp [hy]) hs (by simp [hd]) cp co hrp
  have ne : ∀ x, x ≠ t + 327 → (hp h1 (t + 327) (cNm (t + 328) (nI 0))).2 x = h1.2 x := fun x hx => hp_ne _ _ hx
  exact ⟨_, cl, asm (Top_keep top1 (fun x hx => ne x (by omega))) (His_keep his1 (fun x a b => ne x (by omega))) ⟨by omega, hp_self _ _ _, tx, by rw [ne _ (by omega)]; exact t3, fun x hx => by omega⟩ (Fcs_keep fcs1 (fun x a b => ne x (by omega))) v1 i1 i2, i1, i2⟩
/-- no such shield -/
theorem bad_order {v : Int32} (rw0 : Rw h b L' xs t S nt TX) (iv : Iv S nS nP nO) (hv : hasB v (nI nS) = false) : fX6_order [.ref t, .int v, .int y, .int sz, .int d, .int r] h = some (-1, h) := by
  obtain ⟨top, shw, -, txt, fcs⟩ := rw0
  obtain ⟨s, P, pf, pi, O, N, L, at1, vw⟩ := shw_at shw iv
  have q1 := sh_one at1 vw iv v
  rw [hv] at q1
  simp [fX6_order, bX6_order, mI, sSeq, sIf, bOr, bNot, bZ, eCV, rF, rL, tp0 top, aI, eL, aN, aIs at1, q1, z_ne_bI, eC, zCut, sRi]
end ZCK
