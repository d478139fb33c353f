/-! the command order: both sides once it is taken in -/
def newO (o : Nat → Int32) (sh y sz d r : Int32) : Nat → Int32 := upd (upd (upd (upd (upd o 0 sh) 1 y) 2 sz) 3 d) 4 r
def newA (A TX : Nat → Int32) (nt : Nat) (sh y sz d r : Int32) : Nat → Int32 := upd (filA (upd (upd (upd (upd (upd (upd A 0 sh) 1 y) 2 sz) 3 d) 4 r) 5 (nI nt)) TX nt 12) 18 0
section ZCK
variable {h : zH} {b L' t m nS nP nO c nh nt : Nat} {xs : Nat → Int32} {s pf N g SV TX tx AS : Nat → Int32} {P O L R T : Nat → Nat → Int32} {pi : Nat → Nat} {sh y sz d r : Int32}
theorem nwA (x : Nat) (hx : x < 6) : newA AS TX nt sh y sz d r x = upd (upd (upd (upd (upd (upd AS 0 sh) 1 y) 2 sz) 3 d) 4 r) 5 (nI nt) x := by
  simp only [newA]
  rw [upd_ne (by omega)]
  simp only [filA]
  rw [if_neg (by omega)]
theorem nwA0 : newA AS TX nt sh y sz d r 0 = sh := by rw [nwA 0 (by omega)]; simp [upd]
theorem nwA1 : newA AS TX nt sh y sz d r 1 = y := by rw [nwA 1 (by omega)]; simp [upd]
theorem nwA2 : newA AS TX nt sh y sz d r 2 = sz := by rw [nwA 2 (by omega)]; simp [upd]
theorem nwA3 : newA AS TX nt sh y sz d r 3 = d := by rw [nwA 3 (by omega)]; simp [upd]
theorem nwA4 : newA AS TX nt sh y sz d r 4 = r := by rw [nwA 4 (by omega)]; simp [upd]
theorem nwA5 : newA AS TX nt sh y sz d r 5 = nI nt := by rw [nwA 5 (by omega)]; simp [upd]
theorem nwAl {x : Nat} (hx : x < nt) (hn : nt ≤ 12) : newA AS TX nt sh y sz d r (6 + x) = TX x := by
  simp only [newA]
  rw [upd_ne (by omega)]
  simp only [filA]
  rw [if_pos (by omega), show 6 + x - 6 = x by omega, if_pos hx]
theorem nC_nI {n : Nat} (hn : n < 100) : (nI n).toNatClampNeg = n := (nI_idx (j := n) (n := n + 1) (by omega) (by omega)).2.2
theorem nw_VA {o l : Nat → Int32} (hn : nt ≤ 12) (ht : ∀ x, x < nt → tx x = TX x) : VA (newO o sh y sz d r) (nI nt) (cpTo l tx 12) (newA AS TX nt sh y sz d r) := by
  refine ⟨by rw [nwA0]; simp [newO, upd], by rw [nwA1]; simp [newO, upd], by rw [nwA2]; simp [newO, upd], by rw [nwA3]; simp [newO, upd], by rw [nwA4]; simp [newO, upd], by rw [nwA5], fun x hx => ?_⟩
  rw [nwA5, nC_nI (by omega)] at hx
  rw [nwAl hx hn, ← ht x hx]
  simp only [cpTo]
  rw [if_pos (by omega)]
/-- one cell of the number list set aside -/
theorem wS7 {hm : zH} {k : Nat} {e v : Int32} (he : e = nI k) (hk : k < 19) : wrA (hM hm m g R SV TX T AS) (m + 7) e v = some (hM hm m g R SV TX T (upd AS k v)) := by
  subst he
  have w := wrA_of (h := hM hm m g R SV TX T AS) (v := v) hM_7 hk (by omega)
  rw [wM_7] at w
  exact w
theorem dec_10 (hn : nO ≤ 10) : o_ge (nI nO) 10 = decide (nO = 10) ∧ o_eq (nI nO) 10 = decide (nO = 10) := by
  constructor
  · simp only [o_ge, show (10 : Int32) = nI 10 from rfl, nI_leI (show 10 < 2 ^ 31 by omega) (show nO < 2 ^ 31 by omega)]
    exact decide_eq_decide.mpr (by omega)
  · simp only [o_eq, show (10 : Int32) = nI 10 from rfl, nI_eqI (show nO < 2 ^ 31 by omega) (show 10 < 2 ^ 31 by omega)]
theorem isOrd_view (vO : VOs pi O N L (R 1) nO) : fstB (firstO (orC O pi sh y) nO) = anyM (orY (R 1) sh y) nO := by
  rw [any_first, firstO_congr (fun k hk => ?_)]
  obtain ⟨o0, o1, -⟩ := vO k hk
  simp only [orC, orY, o0, o1]
theorem anyM_none {F : Nat → Bool} : ∀ n, anyM F n = false → ∀ k, k < n → F k = false
  | 0, _, k, hk => by omega
  | n + 1, e, k, hk => by
    simp only [anyM, Bool.or_eq_false_iff] at e
    by_cases h : k = n
    · rw [h]; exact e.2
    · exact anyM_none n e.1 k (by omega)
theorem lastO_none {F : Nat → Bool} : ∀ n, lastO F n = none → ∀ k, k < n → F k = false
  | 0, _, k, hk => by omega
  | n + 1, e, k, hk => by
    simp only [lastO] at e
    split at e
    · cases e
    · rename_i hf
      by_cases h : k = n
      · rw [h]; simpa using hf
      · exact lastO_none n e k (by omega)
set_option maxRecDepth 100000 in
set_option maxHeartbeats 2000000 in
/-- the reference's part behind the checks -/
theorem X7_order_ok {hm : zH} {pl : Nat} (h2 : R 1 2 = nI nO) (hO : nO < 10) (ir : IvR (R 1) nO c) (hg : g 4 = nI nh) (hg6 : g 6 = nI nt) (hnh : nh ≤ 5) (hnt : nt ≤ 12) (hz : z_eq (nI nt) = false)
    (e1 : ∀ hm g, fX7_isShield [.ref m, .int sh] (hM hm m g R SV TX T AS) = some (bI true, hM hm m g R SV TX T AS)) (e2 : (decide (1 ≤ y) && decide (y ≤ 999)) = true) (e3 : (decide (1 ≤ sz) && decide (sz ≤ 4)) = true) (e4 : (decide (1 ≤ d) && decide (d ≤ 5)) = true)
    (e6 : ∀ hm g, fX7_plateOn [.ref (m + 1), .int sh, .int y] (hM hm m g R SV TX T AS) = some (-9, hM hm m g R SV TX T AS)) (e7 : anyM (orY (R 1) sh y) nO = false)
    (hr : (r = 1 ∧ pl = c) ∨ (r = 0 ∧ pl = nO)) :
    fX7_order [.ref m, .int sh, .int y, .int sz, .int d, .int r] (hM hm m g R SV TX T AS) = some (nI pl, hM hm m (upd (upd (upd g 0 0) 4 (nI (acN nh + 1))) 6 0) (va_up R 1 (opPut (R 1) (newA AS TX nt sh y sz d r) pl nO)) (acV SV (R 1) nh) TX T (newA AS TX nt sh y sz d r)) := by
  have ac := X7_act (h := hm) (m := m) (g := upd g 0 0) (R := R) (SV := SV) (TX := TX) (T := T) (AS := AS) (nn := nh) (by rw [upd_ne (by omega)]; exact hg) hnh
  have r6 := rMo6 (h := hm) (m := m) (g := upd g 0 0) (R := R) (SV := SV) (TX := TX) (T := T) (AS := AS)
  rw [upd_ne (by omega), hg6] at r6
  have io := fun (g : Nat → Int32) => X7_isOrdered (h := hM hm m g R SV TX T AS) hM_0 hM_1 h2 (by omega) sh y
  simp only [e7] at io
  have a2 := fun (g SV AS : Nat → Int32) => hd2 (h := hM hm m g R SV TX T AS) (hM_r (i := 1) (.inl rfl))
  simp only [h2] at a2
  obtain ⟨-, d2⟩ := dec_10 (nO := nO) (by omega)
  rw [decide_eq_false (by omega)] at d2
  have h01 : (decide (0 ≤ r) && decide (r ≤ 1)) = true := by rcases hr with ⟨rfl, -⟩ | ⟨rfl, -⟩ <;> decide
  have q6 : upd (upd g 0 0) 4 (nI (acN nh + 1)) 6 = nI nt := by rw [upd_ne (by omega), upd_ne (by omega), hg6]
  generalize hg' : upd (upd g 0 0) 4 (nI (acN nh + 1)) = g' at *
  generalize hV : acV SV (R 1) nh = V at *
  have w0 := fun (A : Nat → Int32) (v : Int32) => wS7 (hm := hm) (m := m) (g := g') (R := R) (SV := V) (TX := TX) (T := T) (AS := A) (e := 0) (v := v) (k := 0) rfl (by omega)
  have w1 := fun (A : Nat → Int32) (v : Int32) => wS7 (hm := hm) (m := m) (g := g') (R := R) (SV := V) (TX := TX) (T := T) (AS := A) (e := 1) (v := v) (k := 1) rfl (by omega)
  have w2 := fun (A : Nat → Int32) (v : Int32) => wS7 (hm := hm) (m := m) (g := g') (R := R) (SV := V) (TX := TX) (T := T) (AS := A) (e := 2) (v := v) (k := 2) rfl (by omega)
  have w3 := fun (A : Nat → Int32) (v : Int32) => wS7 (hm := hm) (m := m) (g := g') (R := R) (SV := V) (TX := TX) (T := T) (AS := A) (e := 3) (v := v) (k := 3) rfl (by omega)
  have w4 := fun (A : Nat → Int32) (v : Int32) => wS7 (hm := hm) (m := m) (g := g') (R := R) (SV := V) (TX := TX) (T := T) (AS := A) (e := 4) (v := v) (k := 4) rfl (by omega)
  have w5 := fun (A : Nat → Int32) (v : Int32) => wS7 (hm := hm) (m := m) (g := g') (R := R) (SV := V) (TX := TX) (T := T) (AS := A) (e := 5) (v := v) (k := 5) rfl (by omega)
  have w18 := fun (A : Nat → Int32) (v : Int32) => wS7 (hm := hm) (m := m) (g := g') (R := R) (SV := V) (TX := TX) (T := T) (AS := A) (e := 18) (v := v) (k := 18) rfl (by omega)
  have LL := or_fill (h := hm) (m := m) (g := g') (R := R) (SV := V) (TX := TX) (T := T) (AS := upd (upd (upd (upd (upd (upd AS 0 sh) 1 y) 2 sz) 3 d) 4 r) 5 (nI nt)) q6 hnt sh y sz d r
  have r6' := fun (A : Nat → Int32) => rMo6 (h := hm) (m := m) (g := g') (R := R) (SV := V) (TX := TX) (T := T) (AS := A)
  simp only [q6] at r6'
  have w6 := fun (A : Nat → Int32) (v : Int32) => wMo6 (h := hm) (m := m) (g := g') (R := R) (SV := V) (TX := TX) (T := T) (AS := A) v
  have hpl : pl ≤ nO := by rcases hr with ⟨-, rfl⟩ | ⟨-, rfl⟩ <;> first | exact ir.1 | exact Nat.le_refl _
  have ru := X7_rushes (h := hM hm m (upd g' 6 0) R V TX T (newA AS TX nt sh y sz d r)) (hM_r (i := 1) (.inl rfl)) h2 (by omega)
  rw [sum_view ir] at ru
  have pu := X7_putIn (h := hm) (m := m) (g := upd g' 6 0) (R := R) (SV := V) (TX := TX) (T := T) (AS := newA AS TX nt sh y sz d r) (i := 1) (pl := pl) (nO := nO) (.inl rfl) h2 (by omega) hpl
  have nA : upd (filA (upd (upd (upd (upd (upd (upd AS 0 sh) 1 y) 2 sz) 3 d) 4 r) 5 (nI nt)) TX nt 12) 18 0 = newA AS TX nt sh y sz d r := rfl
  have a2' := a2 (upd g' 6 0) V (newA AS TX nt sh y sz d r)
  have st := fun (A : Nat → Int32) (n : Nat) => nA
  have pla : eT (bCmp o_eq (eL 5) (eC 1)) (eCS (aR (rF 7 1 (rL 0)) (aN)) fX7_rushes) (eA (rF 7 1 (rL 0)) (eC 2)) [.ref m, .int sh, .int y, .int sz, .int d, .int r] (hM hm m (upd g' 6 0) R V TX T (newA AS TX nt sh y sz d r)) = some (nI pl, hM hm m (upd g' 6 0) R V TX T (newA AS TX nt sh y sz d r)) := by
    rcases hr with ⟨e, e'⟩ | ⟨e, e'⟩
    · rw [e'] 
      have z : o_eq r 1 = true := by rw [e]; rfl
      simp [eT, bCmp, eL, eC, z, eCS, aR, aN, rF, rL, rMr1, ru]
    · rw [e']
      have z : o_eq r 1 = false := by rw [e]; rfl
      simp [eT, bCmp, eL, eC, z, eA, rF, rL, rMr1, a2']
  generalize hF : filA (upd (upd (upd (upd (upd (upd AS 0 sh) 1 y) 2 sz) 3 d) 4 r) 5 (nI nt)) TX nt 12 = FA at *
  generalize hN : newA AS TX nt sh y sz d r = NA at *
  simp [fX7_order, bX7_order, mI, sSeq, sF, rL, eC, wMo0, sIf, bOr, bNot, bZ, eCV, aI, eL, aN, isMo, e1, z_ne_bI, eCS, X7_isYear, e2, X7_in, e3, e4, h01, sNop, zCut, eF, r6, hz, aR, rF, rMr1, bCmp, e6, o_ne, io, eA, a2, d2, sCV, ac, sA, rMr12, w0, w1, w2, w3, w4, w5, r6', sBlk, sLi, zSt, LL, w18, nA, w6, pla, pu, sRi]
end ZCK
