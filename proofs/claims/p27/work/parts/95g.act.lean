/-! the law: its act, cut into its cases -/
abbrev aB0 : zSS := (sRi (eCV 6 (rL 0) (aI (eOp (· + ·) (eC 15) (eCS (aI (eOp o_shr (eL 1) (eC 4)) (aI (eC 100) (aN))) fL_low)) (aI (eOp (· + ·) (eC 5) (eCS (aI (eOp o_shr (eL 1) (eC 12)) (aI (eC 14) (aN))) fL_low)) (aN))) fX6_cut))
abbrev aB1 : zSS := (sSeq (sBlk (sSeq (sLi 4 (eOp (· + ·) (eC 1) (eCS (aI (eOp o_shr (eL 1) (eC 20)) (aI (eC 5) (aN))) fL_low))) (sW 4000 (bZ z_gt (eL 4)) (sSeq (sPop (eCV 6 (rL 0) (aI (eOp (· + ·) (eC 97) (eCS (aI (eOp (· + ·) (eL 1) (eOp (· * ·) (eC 3) (eL 4))) (aI (eC 26) (aN))) fL_low)) (aN)) fX6_append)) (sInc 4 (-1)))))) (sRi (eCV 6 (rL 0) (aI (eCS (aI (eOp o_shr (eL 1) (eC 5)) (aI (eCV 6 (rL 0) (aI (eC 5) (aN)) fX6_count) (aN))) fL_low) (aI (eOp (· + ·) (eC 1) (eCS (aI (eOp o_shr (eL 1) (eC 8)) (aI (eC 12) (aN))) fL_low)) (aI (eOp (· + ·) (eC 1) (eCS (aI (eOp o_shr (eL 1) (eC 12)) (aI (eC 3) (aN))) fL_low)) (aI (eOp (· + ·) (eC 1) (eCS (aI (eOp o_shr (eL 1) (eC 14)) (aI (eC 4) (aN))) fL_low)) (aI (eOp (· &&& ·) (eOp o_shr (eL 1) (eC 17)) (eC 1)) (aN)))))) fX6_order)))
abbrev aB5 : zSS := (sRi (eCV 6 (rL 0) (aI (eL 3) (aN)) fX6_hurry))
abbrev aB6 : zSS := (sRi (eCV 6 (rL 0) (aI (eL 3) (aN)) fX6_cancel))
abbrev aB7 : zSS := (sRi (eCV 6 (rL 0) (aI (eL 2) (aI (eOp (· &&& ·) (eOp o_shr (eL 1) (eC 4)) (eC 1)) (aN))) fX6_grind))
abbrev aB8 : zSS := (sRi (eCV 6 (rL 0) (aI (eL 2) (aN)) fX6_spoil))
abbrev aB9 : zSS := (sRi (eCV 6 (rL 0) (aI (eCS (aI (eOp o_shr (eL 1) (eC 5)) (aI (eCV 6 (rL 0) (aI (eC 5) (aN)) fX6_count) (aN))) fL_low) (aI (eOp (· + ·) (eC 1) (eCS (aI (eOp o_shr (eL 1) (eC 8)) (aI (eC 12) (aN))) fL_low)) (aN))) fX6_takeOff))
abbrev aB10 : zSS := (sRi (eCV 6 (rL 0) (aN) fX6_slip))
abbrev aB12 : zSS := (sRi (eCV 6 (rL 0) (aI (eOp (· + ·) (eC 1) (eCS (aI (eOp o_shr (eL 1) (eC 5)) (aI (eC 9) (aN))) fL_low)) (aN)) fX6_work))
abbrev aBd : zSS := (sRi (eCV 6 (rL 0) (aI (eOp (· + ·) (eC 20) (eCS (aI (eOp o_shr (eL 1) (eC 5)) (aI (eC 60) (aN))) fL_low)) (aN)) fX6_work))
abbrev aBs : List zSS := [aB0, aB1, aB1, aB1, aB1, aB5, aB6, aB7, aB8, aB9, aB10, aB10, aB12]
theorem bL_act_eq : bL_act = sSeq (sLi 2 (eCS (aI (eOp o_shr (eL 1) (eC 5)) (aI (eCV 6 (rL 0) (aI (eC 4) (aN)) fX6_count) (aN))) fL_low)) (sSeq (sLi 3 (eCS (aI (eOp o_shr (eL 1) (eC 5)) (aI (eOp (· + ·) (eCV 6 (rL 0) (aI (eC 6) (aN)) fX6_count) (eC 1)) (aN))) fL_low)) (sSw 0 12 (eOp (· &&& ·) (eL 1) (eC 15)) aBs aBd)) := rfl
/-! low, and what an act makes of the row -/
def lowN (v : Int32) (m : Nat) : Nat := v.toBitVec.toNat % 2 ^ 31 % m
theorem lowN_lt (v : Int32) {m : Nat} (hm : 0 < m) : lowN v m < m := Nat.mod_lt _ hm
theorem L_low {h : zH} (v : Int32) {m : Nat} (hm : 0 < m) (hm2 : m < 2 ^ 31) : fL_low [.int v, .int (nI m)] h = some (nI (lowN v m), h) := by
  have e1 : v &&& 2147483647 = nI (v.toBitVec.toNat % 2 ^ 31) := pk_and v 31 (by decide)
  have e2 := pk_rem (a := v.toBitVec.toNat % 2 ^ 31) (d := m) (Nat.mod_lt _ (by omega)) hm hm2
  have ne : ¬ nI m = 0 := fun e => by
    rw [← nI_0] at e
    have := (nI_eqI hm2 (show 0 < 2 ^ 31 by omega)).mp e
    omega
  simp only [fL_low, bL_low, mI_sRi, eRem, eOp, eL, eC, List.getElem?_cons_zero, List.getElem?_cons_succ, Option.bind_some, if_neg ne, e1, e2]
  rfl
def kk (v : Int32) : Nat := v.toBitVec.toNat % 16
theorem kk_eq (v : Int32) : v &&& 15 = nI (kk v) := pk_and v 4 (by decide)
theorem kk_lt (v : Int32) : kk v < 16 := Nat.mod_lt _ (by omega)
theorem and1 (v : Int32) : ∃ d, d < 2 ∧ v &&& 1 = nI d := ⟨v.toBitVec.toNat % 2 ^ 1, Nat.mod_lt _ (by omega), pk_and v 1 (by decide)⟩
theorem nI_nn {n : Nat} (h : n < 2 ^ 31) : (0 : Int32) ≤ nI n := by rw [i_le, i_0, nI_int h]; omega
theorem nI_lit {n : Nat} : (15 : Int32) + nI n = nI (15 + n) ∧ (5 : Int32) + nI n = nI (5 + n) ∧ (1 : Int32) + nI n = nI (1 + n) ∧ (20 : Int32) + nI n = nI (20 + n) ∧ (97 : Int32) + nI n = nI (97 + n) ∧ (2 : Int32) + nI n = nI (2 + n) ∧ (6 : Int32) + nI n = nI (6 + n) := by
  refine ⟨?_, ?_, ?_, ?_, ?_, ?_, ?_⟩
  · rw [show (15 : Int32) = nI 15 from rfl, nI_add]
  · rw [show (5 : Int32) = nI 5 from rfl, nI_add]
  · rw [show (1 : Int32) = nI 1 from rfl, nI_add]
  · rw [show (20 : Int32) = nI 20 from rfl, nI_add]
  · rw [show (97 : Int32) = nI 97 from rfl, nI_add]
  · rw [show (2 : Int32) = nI 2 from rfl, nI_add]
  · rw [show (6 : Int32) = nI 6 from rfl, nI_add]
theorem rng {a b : Nat} {A B : Int32} (hA : A = nI a) (hB : B = nI b) (ha : a < 2 ^ 31) (hb : b < 2 ^ 31) {n : Nat} (h1 : a ≤ n) (h2 : n ≤ b) : (decide (A ≤ nI n) && decide (nI n ≤ B)) = true := by
  subst hA; subst hB
  rw [Bool.and_eq_true, decide_eq_true_eq, decide_eq_true_eq]
  exact ⟨(nI_leI ha (by omega)).mpr h1, (nI_leI (by omega) hb).mpr h2⟩
/-- what holds of the row between the calls of the law -/
def J (S : Nat → Int32) (nP nO c : Nat) : Prop := Iv S 2 nP nO ∧ IvR S nO c ∧ EJ S 2 nP nO ∧ 1 ≤ nP
/-- what the counts say of an act -/
def Dn (v r : Int32) (S S' : Nat → Int32) (nO nO' c' nt' : Nat) : Prop :=
  (12 ≤ kk v → S' 7 = S 7 + r ∧ nI nO' = nI nO - r) ∧
  (kk v = 10 ∨ kk v = 11 → S' 8 = S 8 + 1 ∧ decide (S' 3 < 0) = decide (r = 3) ∧ nO' = nO) ∧
  (kk v = 5 → ∃ i, i < nO' ∧ r = nI i ∧ sO S' i 4 = 1 ∧ c' = i + 1) ∧
  (kk v = 6 → r = nI nO' ∧ nO = nO' + 1) ∧
  (1 ≤ kk v ∧ kk v ≤ 4 → nO' = nO + 1 ∧ nt' = 0 ∧ ∃ i, i < nO' ∧ r = nI i ∧ sO S' i 4 = o_shr v 17 &&& 1)
abbrev aOut : Type := Option ((Nat → Int32) × Nat × Nat × Nat × Nat)
def Ac (S : Nat → Int32) (nO : Nat) (v r : Int32) (o : aOut) : Prop := match o with
  | none => r < 0
  | some (S', nP', nO', c', nt') => 0 ≤ r ∧ J S' nP' nO' c' ∧ Dn v r S S' nO nO' c' nt'
def Hp (h1 : zH) (b L : Nat) (xs : Nat → Int32) (t : Nat) (S : Nat → Int32) (o : aOut) : Prop := match o with
  | none => ∃ nt TX, Rw h1 b L xs t S nt TX
  | some (S', _, _, _, nt') => ∃ TX, Ru h1 b L xs t S' nt' TX S
abbrev acEn (t : Nat) (v : Int32) (pl od : Nat) : List Value := [.ref t, .int v, .int (nI pl), .int (nI od)]
/-- an act's outcome, the same from every object that shows the row -/
def Act (S : Nat → Int32) (nP nO : Nat) (v : Int32) (B : zSS) : Prop := ∃ r o, Ac S nO v r o ∧ ∀ (h : zH) (b L : Nat) (xs : Nat → Int32) (t : Nat), Rw h b L xs t S 0 (fun _ => 0) → ∃ h1, B (acEn t v (lowN (o_shr v 5) nP) (lowN (o_shr v 5) (nO + 1))) h = some (.inr (some r, h1)) ∧ Hp h1 b L xs t S o
section ZA1
variable {S : Nat → Int32} {nP nO c : Nat}
theorem Rw.top {h : zH} {b L t nt : Nat} {xs TX : Nat → Int32} (r : Rw h b L xs t S nt TX) : isO h 6 t = true := tpi r.1
theorem c5_2 {h : zH} {b L t nt : Nat} {xs TX : Nat → Int32} (r : Rw h b L xs t S nt TX) (j : J S nP nO c) : fX6_count [.ref t, .int 5] h = some (nI 2, h) := by
  have e := rd_count (y := 5) r j.1 j.2.1 (by omega) (by omega)
  rw [show nI 5 = 5 from rfl, show coV S nP 0 nt c 5 = S 0 from rfl, j.1.1.1] at e
  exact e
set_option maxRecDepth 100000 in
theorem act_cut (v : Int32) (hv : kk v = 0) (j : J S nP nO c) : Act S nP nO v aB0 := by
  have a1 := lowN_lt (o_shr v 4) (show 0 < 100 by omega)
  have a2 := lowN_lt (o_shr v 12) (show 0 < 14 by omega)
  have l1 := fun h : zH => L_low (h := h) (o_shr v 4) (m := 100) (by omega) (by omega)
  have l2 := fun h : zH => L_low (h := h) (o_shr v 12) (m := 14) (by omega) (by omega)
  simp only [show nI 100 = 100 from rfl, show nI 14 = 14 from rfl] at l1 l2
  generalize lowN (o_shr v 4) 100 = w at *
  generalize lowN (o_shr v 12) 14 = th at *
  have e1 := (nI_lit (n := w)).1
  have e2 := (nI_lit (n := th)).2.1
  have hw := rng (a := 10) (b := 200) (A := 10) (B := 200) (n := 15 + w) rfl rfl (by omega) (by omega) (by omega) (by omega)
  have ht := rng (a := 5) (b := 30) (A := 5) (B := 30) (n := 5 + th) rfl rfl (by omega) (by omega) (by omega) (by omega)
  have dn : ∀ r S' nO' c' nt', Dn v r S S' nO nO' c' nt' := fun _ _ _ _ _ => ⟨by omega, by omega, by omega, by omega, by omega⟩
  by_cases hn : nP = 20
  · refine ⟨-3, none, by show (-3 : Int32) < 0; decide, fun h b L xs t r => ⟨h, ?_, _, _, r⟩⟩
    have q := no_cut r j.1 hw ht hn
    simp [sRi, eCV, rL, aI, eOp, eC, eCS, eL, aN, l1, l2, e1, e2, r.top, q]
  · have hn20 : nP < 20 := by have := j.1.1.2.2.2.2.1; omega
    have iv' : Iv (opCut S nP (nI (15 + w)) (nI (5 + th))) 2 (nP + 1) nO := by
      obtain ⟨s, P, pf, pi, O, N, L, vw⟩ := Vw_ex j.1
      exact (cut_view (w := nI (15 + w)) (t := nI (5 + th)) vw j.1 hn20 (nI_nn (by omega))).2
    have ir' : IvR (opCut S nP (nI (15 + w)) (nI (5 + th))) nO c := R_same j.2.1 (fun k => by simp only [sO]; rw [opCut_hd (by omega) hn20, if_neg (by omega)])
    refine ⟨nI nP, some (opCut S nP (nI (15 + w)) (nI (5 + th)), nP + 1, nO, c, 0), ⟨nI_nn (by omega), ⟨iv', ir', EJ_cut j.1 j.2.2.1 hn20 (by rw [nI_int (by omega)]; omega) (by rw [nI_int (by omega)]; omega), by omega⟩, dn _ _ _ _ _⟩, fun h b L xs t r => ?_⟩
    obtain ⟨h1, q, ru, -, -⟩ := do_cut r j.1 j.2.1 hw ht hn20
    refine ⟨h1, ?_, _, ru⟩
    simp [sRi, eCV, rL, aI, eOp, eC, eCS, eL, aN, l1, l2, e1, e2, r.top, q]
set_option maxRecDepth 100000 in
theorem act_hurry (v : Int32) (hv : kk v = 5) (j : J S nP nO c) : Act S nP nO v aB5 := by
  have lo := lowN_lt (o_shr v 5) (show 0 < nO + 1 by omega)
  have c5 := j.1.1.2.2.2.2.2
  simp only [Act]
  generalize lowN (o_shr v 5) (nO + 1) = od at *
  generalize lowN (o_shr v 5) nP = pl at *
  by_cases hk : od < nO
  · by_cases hz : sO S od 4 = 0
    · obtain ⟨s, P, pf, pi, O, N, L, vw⟩ := Vw_ex j.1
      obtain ⟨-, iv', ir'⟩ := hurry_view (AS := fun _ => 0) vw j.1 j.2.1 hk hz
      have hc := hur_le j.2.1 hk hz
      refine ⟨nI c, some (hurR S od c nO, nP, nO, c + 1, 0), ⟨nI_nn (by omega), ⟨iv', ir', EJ_hur j.1 j.2.1 j.2.2.1 hk hz, j.2.2.2⟩, by omega, by omega, fun _ => ⟨c, by omega, rfl, by rw [ir'.2 c (by omega), if_pos (by omega)], rfl⟩, by omega, by omega⟩, fun h b L xs t r => ?_⟩
      obtain ⟨h1, q, ru, -, -⟩ := do_hurry r j.1 j.2.1 hk hz
      exact ⟨h1, by simp [sRi, eCV, rL, aI, eL, aN, r.top, q], _, ru⟩
    · refine ⟨-2, none, by show (-2 : Int32) < 0; decide, fun h b L xs t r => ⟨h, ?_, _, _, r⟩⟩
      have q := no_hurry r j.1 hk hz
      simp [sRi, eCV, rL, aI, eL, aN, r.top, q]
  · refine ⟨-1, none, by show (-1 : Int32) < 0; decide, fun h b L xs t r => ⟨h, ?_, _, _, r⟩⟩
    have q := bad_hurry (v := nI od) r j.1 (by rw [hasB_nI (by omega) (by omega)]; exact decide_eq_false hk)
    simp [sRi, eCV, rL, aI, eL, aN, r.top, q]
theorem can_keep {k : Nat} (iv : Iv S 2 nP nO) (ir : IvR S nO c) (hk : k < nO) : Iv (canR S k nO) 2 nP (nO - 1) ∧ IvR (canR S k nO) (nO - 1) (if k < c then c - 1 else c) := by
  obtain ⟨s, P, pf, pi, O, N, L, vw⟩ := Vw_ex iv
  have c5 := iv.1.2.2.2.2.2
  have c4 := iv.1.2.2.2.2.1
  by_cases hz : S 3 = nI k
  · obtain ⟨k', p, sd, a⟩ := IvW_at iv (by rw [hz]; exact nI_ne9 (by omega))
    obtain ⟨a3, ak, a5, ap, a6, asd, a2⟩ := a
    have eR : canR S k nO = opTake (opRest (upd S (10 + 7 * p + 2) 0)) k nO := by simp only [canR, if_pos hz, a5, nI_clamp (show p < 2 ^ 31 by omega)]
    have WO : ∀ j x, sO (opRest (upd S (10 + 7 * p + 2) 0)) j x = sO S j x := fun j x => by simp only [sO]; rw [opRest_ge (by omega), upd_ne (by omega)]
    rw [eR]
    exact ⟨(drop_view vw iv hk ap).2, take_R hk (R_same ir (fun j => WO j 4)) (fun _ => rfl)⟩
  · rw [show canR S k nO = opTake S k nO by simp only [canR, if_neg hz]]
    exact ⟨(take_view vw iv hk hz).2, take_R hk ir (fun _ => rfl)⟩
set_option maxRecDepth 100000 in
theorem act_cancel (v : Int32) (hv : kk v = 6) (j : J S nP nO c) : Act S nP nO v aB6 := by
  have lo := lowN_lt (o_shr v 5) (show 0 < nO + 1 by omega)
  have c5 := j.1.1.2.2.2.2.2
  simp only [Act]
  generalize lowN (o_shr v 5) (nO + 1) = od at *
  generalize lowN (o_shr v 5) nP = pl at *
  by_cases hk : od < nO
  · obtain ⟨iv', ir'⟩ := can_keep j.1 j.2.1 hk
    refine ⟨nI (nO - 1), some (canR S od nO, nP, nO - 1, _, 0), ⟨nI_nn (by omega), ⟨iv', ir', EJ_can j.1 j.2.2.1 hk, j.2.2.2⟩, by omega, by omega, by omega, fun _ => ⟨rfl, by omega⟩, by omega⟩, fun h b L xs t r => ?_⟩
    obtain ⟨h1, q, ru, -, -⟩ := do_cancel r j.1 j.2.1 hk
    exact ⟨h1, by simp [sRi, eCV, rL, aI, eL, aN, r.top, q], _, ru⟩
  · refine ⟨-1, none, by show (-1 : Int32) < 0; decide, fun h b L xs t r => ⟨h, ?_, _, _, r⟩⟩
    have q := bad_cancel (v := nI od) r j.1 (by rw [hasB_nI (by omega) (by omega)]; exact decide_eq_false hk)
    simp [sRi, eCV, rL, aI, eL, aN, r.top, q]
set_option maxRecDepth 100000 in
theorem act_grind (v : Int32) (hv : kk v = 7) (j : J S nP nO c) : Act S nP nO v aB7 := by
  have lo := lowN_lt (o_shr v 5) (show 0 < nP by have := j.2.2.2; omega)
  obtain ⟨d, hd, ed⟩ := and1 (o_shr v 4)
  have c4 := j.1.1.2.2.2.2.1
  simp only [Act]
  generalize lowN (o_shr v 5) (nO + 1) = od at *
  generalize lowN (o_shr v 5) nP = pl at *
  have dn : ∀ r S' nO' c' nt', Dn v r S S' nO nO' c' nt' := fun _ _ _ _ _ => ⟨by omega, by omega, by omega, by omega, by omega⟩
  by_cases hb : sP S pl 2 = 0 ∧ gndM S pl d 0 = true
  · obtain ⟨s, P, pf, pi, O, N, L, vw⟩ := Vw_ex j.1
    have e' := EJ_grind j.1 j.2.2.1 lo hd hb.1 hb.2
    have ir' : IvR (opGrind S pl d) nO c := R_same j.2.1 (fun k => opGrind_hd' (by omega) (by omega) hd)
    have i' := (grind_view vw j.1 lo hd).2
    have st : sP (opGrind S pl d) pl 2 ≠ 3 := by
      rw [opGrind_P hd (by omega), if_pos rfl, if_neg (by omega), if_neg (by omega), hb.1]; decide
    obtain ⟨n3, n4, n5, n6⟩ := pl_num i'.2.2.1 (e'.1 pl lo) lo st
    refine ⟨sP (opGrind S pl d) pl 1, some (opGrind S pl d, nP, nO, c, 0), ⟨by rw [i_le, i_0]; omega, ⟨i', ir', e', j.2.2.2⟩, dn _ _ _ _ _⟩, fun h b L xs t r => ?_⟩
    obtain ⟨h1, q, ru, -, -⟩ := do_grind r j.1 j.2.1 lo hd hb.1 hb.2
    exact ⟨h1, by simp [sRi, eCV, rL, aI, eL, aN, eOp, eC, ed, r.top, q], _, ru⟩
  · refine ⟨-2, none, by show (-2 : Int32) < 0; decide, fun h b L xs t r => ⟨h, ?_, _, _, r⟩⟩
    have q := no_grind r j.1 lo hd hb
    simp [sRi, eCV, rL, aI, eL, aN, eOp, eC, ed, r.top, q]
set_option maxRecDepth 100000 in
theorem act_spoil (v : Int32) (hv : kk v = 8) (j : J S nP nO c) : Act S nP nO v aB8 := by
  have lo := lowN_lt (o_shr v 5) (show 0 < nP by have := j.2.2.2; omega)
  have c4 := j.1.1.2.2.2.2.1
  simp only [Act]
  generalize lowN (o_shr v 5) (nO + 1) = od at *
  generalize lowN (o_shr v 5) nP = pl at *
  have dn : ∀ r S' nO' c' nt', Dn v r S S' nO nO' c' nt' := fun _ _ _ _ _ => ⟨by omega, by omega, by omega, by omega, by omega⟩
  by_cases hz : sP S pl 2 = 0
  · obtain ⟨s, P, pf, pi, O, N, L, vw⟩ := Vw_ex j.1
    refine ⟨cnt (inS (upd S (10 + 7 * pl + 2) 3) 3) nP, some (upd S (10 + 7 * pl + 2) 3, nP, nO, c, 0), ⟨by rw [cnt_N]; exact nI_nn (by have := cntN_le (inS (upd S (10 + 7 * pl + 2) 3) 3) nP; omega), ⟨(spoil_view vw j.1 lo hz).2, R_same j.2.1 (fun k => sO_upd (by omega)), EJ_st j.2.2.1 c4 lo (by rw [hz]; decide) (.inl rfl), j.2.2.2⟩, dn _ _ _ _ _⟩, fun h b L xs t r => ?_⟩
    obtain ⟨h1, q, ru, -, -⟩ := do_spoil r j.1 j.2.1 lo hz
    exact ⟨h1, by simp [sRi, eCV, rL, aI, eL, aN, r.top, q], _, ru⟩
  · refine ⟨-2, none, by show (-2 : Int32) < 0; decide, fun h b L xs t r => ⟨h, ?_, _, _, r⟩⟩
    have q := no_spoil r j.1 lo hz
    simp [sRi, eCV, rL, aI, eL, aN, r.top, q]
set_option maxRecDepth 100000 in
theorem act_takeOff (v : Int32) (hv : kk v = 9) (j : J S nP nO c) : Act S nP nO v aB9 := by
  have a1 := lowN_lt (o_shr v 5) (show 0 < 2 by omega)
  have a2 := lowN_lt (o_shr v 8) (show 0 < 12 by omega)
  have l1 := fun h : zH => L_low (h := h) (o_shr v 5) (m := 2) (by omega) (by omega)
  have l2 := fun h : zH => L_low (h := h) (o_shr v 8) (m := 12) (by omega) (by omega)
  simp only [show nI 12 = 12 from rfl] at l2
  simp only [Act]
  generalize lowN (o_shr v 5) (nO + 1) = od at *
  generalize lowN (o_shr v 5) nP = pl at *
  generalize lowN (o_shr v 5) 2 = sh at *
  generalize lowN (o_shr v 8) 12 = ye at *
  have e1 := (nI_lit (n := ye)).2.2.1
  have hy := rng (a := 1) (b := 999) (A := 1) (B := 999) (n := 1 + ye) rfl rfl (by omega) (by omega) (by omega) (by omega)
  have c4 := j.1.1.2.2.2.2.1
  have dn : ∀ r S' nO' c' nt', Dn v r S S' nO nO' c' nt' := fun _ _ _ _ _ => ⟨by omega, by omega, by omega, by omega, by omega⟩
  cases hl : lastO (onY S (nI sh) (nI (1 + ye))) nP with
  | none =>
    refine ⟨-2, none, by show (-2 : Int32) < 0; decide, fun h b L xs t r => ⟨h, ?_, _, _, r⟩⟩
    have q := no_takeOff r j.1 a1 hy hl
    have c5 := c5_2 r j
    simp [sRi, eCV, rL, aI, eL, aN, eOp, eC, eCS, c5, l1, l2, e1, r.top, q]
  | some k =>
    obtain ⟨hk, hb⟩ := lastO_lt hl
    have h2 : sP S k 2 = 2 := by
      simp only [onY, onS, Bool.and_eq_true, decide_eq_true_eq] at hb
      exact hb.1.1
    obtain ⟨s, P, pf, pi, O, N, L, vw⟩ := Vw_ex j.1
    refine ⟨nI k, some (upd S (10 + 7 * k + 2) 0, nP, nO, c, 0), ⟨nI_nn (by omega), ⟨(dr_view vw j.1 hk (.inl (by rw [h2]; decide))).2, R_same j.2.1 (fun k => sO_upd (by omega)), EJ_st j.2.2.1 c4 hk (by rw [h2]; decide) (.inr ⟨rfl, by rw [h2]; decide⟩), j.2.2.2⟩, dn _ _ _ _ _⟩, fun h b L xs t r => ?_⟩
    obtain ⟨h1, q, ru, -, -⟩ := do_takeOff r j.1 j.2.1 a1 hy hl
    have c5 := c5_2 r j
    exact ⟨h1, by simp [sRi, eCV, rL, aI, eL, aN, eOp, eC, eCS, c5, l1, l2, e1, r.top, q], _, ru⟩
theorem slip_heads {k p sd : Nat} (a : AtW S nP nO k p sd) (iv : Iv S 2 nP nO) : opSlip S k p sd 8 = S 8 + 1 ∧ decide (opSlip S k p sd 3 < 0) = decide (slA S k p sd = 3) ∧ 0 ≤ slA S k p sd := by
  obtain ⟨a3, ak, a5, ap, a6, asd, a2⟩ := a
  have c4 := iv.1.2.2.2.2.1
  have c5 := iv.1.2.2.2.2.2
  have s8 : slS S k p sd 8 = S 8 + 1 := by simp only [slS]; rw [upd_self]
  have s3 : slS S k p sd 3 = nI k := by simp only [slS]; rw [upd_ne (by omega), upd_ne (by omega)]; exact a3
  have nn : ¬ nI k < 0 := by rw [i_lt, i_0, nI_int (by omega)]; omega
  unfold opSlip slA
  by_cases h1 : rdyM (slS S k p sd) p (1 - sd) (sO S k 3) = true
  · simp only [if_pos h1]
    refine ⟨by rw [upd_ne (by omega), upd_ne (by omega)]; exact s8, ?_, by decide⟩
    rw [upd_ne (by omega), upd_ne (by omega), s3, decide_eq_false nn]; rfl
  · simp only [if_neg h1]
    by_cases h2 : gndM (slS S k p sd) p sd (sO S k 3) = true
    · simp only [if_pos h2]
      refine ⟨by rw [upd_ne (by omega), opGrind_hd' (by omega) (by omega) asd]; exact s8, ?_, by decide⟩
      rw [upd_ne (by omega), opGrind_hd' (by omega) (by omega) asd, s3, decide_eq_false nn]; rfl
    · simp only [if_neg h2]
      refine ⟨by rw [opRest_at, if_neg (by omega), if_neg (by omega), upd_ne (by omega)]; exact s8, ?_, by decide⟩
      rw [opRest_at, if_pos (by omega)]; rfl
set_option maxRecDepth 100000 in
theorem act_slip (v : Int32) (hv : kk v = 10 ∨ kk v = 11) (j : J S nP nO c) : Act S nP nO v aB10 := by
  simp only [Act]
  by_cases hz : S 3 = -9
  · refine ⟨-2, none, by show (-2 : Int32) < 0; decide, fun h b L xs t r => ⟨h, ?_, _, _, r⟩⟩
    have q := no_slip r j.1 hz
    simp [sRi, eCV, rL, aN, r.top, q]
  · obtain ⟨k, p, sd, a⟩ := IvW_at j.1 hz
    obtain ⟨q1, q2, q3⟩ := slip_heads a j.1
    obtain ⟨s, P, pf, pi, O, N, L, vw⟩ := Vw_ex j.1
    have i' := (slip_view vw j.1 a.2.1 a.2.2.2.1 a.2.2.2.2.2.1 a.1 a.2.2.1 a.2.2.2.2.1 a.2.2.2.2.2.2).2.2
    refine ⟨slA S k p sd, some (opSlip S k p sd, nP, nO, c, 0), ⟨q3, ⟨i', R_same j.2.1 (fun x => slip_O (by have := j.1.1.2.2.2.2.1; have := a.2.2.2.1; omega) a.2.2.2.2.2.1 x 4), EJ_slip j.1 j.2.2.1 a, j.2.2.2⟩, by omega, fun _ => ⟨q1, q2, rfl⟩, by omega, by omega, by omega⟩, fun h b L xs t r => ?_⟩
    obtain ⟨h1, q, ru, -, -⟩ := do_slip r j.1 j.2.1 a
    exact ⟨h1, by simp [sRi, eCV, rL, aN, r.top, q], _, ru⟩
/-- work of so many minutes, from every object that shows the row -/
theorem work_any (j : J S nP nO c) {m : Int32} (hm : (decide (1 ≤ m) && decide (m ≤ 600)) = true) : ∃ n1 c1, n1 ≤ nO ∧ J (wkR nP (nO + 1) m S nO) nP n1 c1 ∧ wkR nP (nO + 1) m S nO 7 = S 7 + nI (nO - n1) ∧ ∀ (h : zH) (b L t : Nat) (xs : Nat → Int32) (nt : Nat) (TX : Nat → Int32), Rw h b L xs t S nt TX → ∃ h1, fX6_work [.ref t, .int m] h = some (nI (nO - n1), h1) ∧ Ru h1 b L xs t (wkR nP (nO + 1) m S nO) nt TX S := by
  obtain ⟨s, P, pf, pi, O, N, L, vw⟩ := Vw_ex j.1
  have c5 := j.1.1.2.2.2.2.2
  obtain ⟨_, _, _, n1, c1, _, _, -, -, i1, r1, hn1, h7⟩ := work_loop nO 4000 s P pi S c 0 m m 0 (by omega) (by omega) vw j.1 j.2.1
  obtain ⟨n2, i2, e2⟩ := EJ_work nO S c m j.1 j.2.1 j.2.2.1
  obtain ⟨-, -, rfl⟩ := Iv_one i1 i2
  refine ⟨n2, c1, hn1, ⟨i1, r1, e2, j.2.2.2⟩, h7, fun h b L' t xs nt TX r => ?_⟩
  obtain ⟨h1, n3, c3, q1, q2, q3, -, -, -⟩ := do_work r j.1 j.2.1 hm
  obtain ⟨-, -, rfl⟩ := Iv_one i1 q3
  exact ⟨h1, q1, q2⟩
theorem act_work (v : Int32) (hv : 12 ≤ kk v) (j : J S nP nO c) {m : Nat} (h1 : 1 ≤ m) (h2 : m ≤ 600) {B : zSS} (hB : ∀ (h h1 : zH) (t pl od : Nat) (r : Int32), isO h 6 t = true → fX6_work [.ref t, .int (nI m)] h = some (r, h1) → B (acEn t v pl od) h = some (.inr (some r, h1))) : Act S nP nO v B := by
  have c5 := j.1.1.2.2.2.2.2
  obtain ⟨n1, c1, hn, j1, h7, W⟩ := work_any j (rng (a := 1) (b := 600) (A := 1) (B := 600) rfl rfl (by omega) (by omega) h1 h2)
  refine ⟨nI (nO - n1), some (wkR nP (nO + 1) (nI m) S nO, nP, n1, c1, 0), ⟨nI_nn (by omega), j1, fun _ => ⟨h7, ?_⟩, by omega, by omega, by omega, by omega⟩, fun h b L xs t r => ?_⟩
  · have : nI n1 + nI (nO - n1) = nI nO := by rw [nI_add]; congr 1; omega
    grind
  · obtain ⟨h1', q, ru⟩ := W h b L t xs 0 (fun _ => 0) r
    exact ⟨h1', hB _ _ _ _ _ _ r.top q, _, ru⟩
end ZA1
