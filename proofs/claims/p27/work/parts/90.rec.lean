/-! the relation of both heaps: the history -/
section ZAG
variable {S S' s pf N : Nat → Int32} {P O L : Nat → Nat → Int32} {pi : Nat → Nat} {nS nP nO c : Nat}
theorem ag_P (h : ∀ x, x < 343 → S' x = S x) {q x : Nat} (hq : q < 20) (hx : x < 7) : sP S' q x = sP S q x := h _ (by omega)
theorem ag_O (h : ∀ x, x < 343 → S' x = S x) {j x : Nat} (hj : j < 10) (hx : x < 19) : sO S' j x = sO S j x := h _ (by omega)
theorem ag_view (h : ∀ x, x < 343 → S' x = S x) (vw : Vw s P pf pi O N L S nS nP nO) (iv : Iv S nS nP nO) (ir : IvR S nO c) : Vw s P pf pi O N L S' nS nP nO ∧ Iv S' nS nP nO ∧ IvR S' nO c := by
  obtain ⟨vH, vpi, vP, vF, vO⟩ := vw
  obtain ⟨iC, iW, iP, iO, iU⟩ := id iv
  obtain ⟨c0, c1, c2, c3, c4, c5⟩ := id iC
  refine ⟨⟨VH_eq vH (fun x hx => h x (by omega)), vpi, VPs_eq c4 (fun q x hq hx => ag_P h hq hx) vP, VFs_eq vF (fun j hj => h _ (by omega)) c3, fun k hk => VO_eq (fun x hx => ag_O h (by omega) (by omega)) (vO k hk) (iO k hk).2.2.2.2.2.2.2⟩, ?_, ir.1, fun j hj => by rw [ag_O h (by omega) (by omega)]; exact ir.2 j hj⟩
  refine Iv_same iv ⟨by rw [h 0 (by omega), c0], by rw [h 1 (by omega), c1], by rw [h 2 (by omega), c2], c3, c4, c5⟩ (Nat.le_refl _) (IvW_P iW (h 3 (by omega)) (h 5 (by omega)) (h 6 (by omega)) (Nat.le_refl _) (Nat.le_refl _) (fun q hq e => by rw [ag_P h (by omega) (by omega)]; exact e)) (fun q hq => ?_) (fun j x hj hx => ag_O h (by omega) hx)
  rw [ag_P h (show q < 20 by omega) (show 0 < 7 by omega), ag_P h (show q < 20 by omega) (show 3 < 7 by omega), ag_P h (show q < 20 by omega) (show 4 < 7 by omega), ag_P h (show q < 20 by omega) (show 2 < 7 by omega), ag_P h (show q < 20 by omega) (show 5 < 7 by omega), ag_P h (show q < 20 by omega) (show 6 < 7 by omega)]
  obtain ⟨q0, q3, q4, q2⟩ := iP q hq
  exact ⟨q0, q3, q4, fun e => ⟨hq, e, rfl, rfl⟩⟩
end ZAG
/-- the shop at a shows S -/
def Shw (h : zH) (a : Nat) (S : Nat → Int32) : Prop := ∃ s P pf pi O N L nS nP nO c, At h a s P pf pi O N L ∧ Vw s P pf pi O N L S nS nP nO ∧ Iv S nS nP nO ∧ IvR S nO c
/-- some shop is at a -/
def Any (h : zH) (a : Nat) : Prop := ∃ s P pf pi O N L, At h a s P pf pi O N L ∧ PI pi
theorem Shw_keep {h h' : zH} {a : Nat} {S : Nat → Int32} (w : Shw h a S) (k : ∀ x, a ≤ x → x < a + 54 → h'.2 x = h.2 x) : Shw h' a S := by
  obtain ⟨s, P, pf, pi, O, N, L, nS, nP, nO, c, e, r⟩ := w
  exact ⟨s, P, pf, pi, O, N, L, nS, nP, nO, c, At_keep e k, r⟩
theorem Any_keep {h h' : zH} {a : Nat} (w : Any h a) (k : ∀ x, a ≤ x → x < a + 54 → h'.2 x = h.2 x) : Any h' a := by
  obtain ⟨s, P, pf, pi, O, N, L, e, r⟩ := w
  exact ⟨s, P, pf, pi, O, N, L, At_keep e k, r⟩
theorem Shw_ag {h : zH} {a : Nat} {S S' : Nat → Int32} (w : Shw h a S) (k : ∀ x, x < 343 → S' x = S x) : Shw h a S' := by
  obtain ⟨s, P, pf, pi, O, N, L, nS, nP, nO, c, e, v, i, r⟩ := w
  exact ⟨s, P, pf, pi, O, N, L, nS, nP, nO, c, e, ag_view k v i r⟩
theorem Shw_any {h : zH} {a : Nat} {S : Nat → Int32} (w : Shw h a S) : Any h a := by
  obtain ⟨s, P, pf, pi, O, N, L, nS, nP, nO, c, e, v, -⟩ := w
  exact ⟨s, P, pf, pi, O, N, L, e, v.2.1⟩
def His (h : zH) (t nh : Nat) (V : Nat → Nat → Int32) : Prop := ∃ ro, P5 ro ∧ h.2 (t + 55) = some (cHi t nh) ∧ h.2 (t + 56) = some (xR 5 5 (rfH t ro)) ∧ nh ≤ 5 ∧ (∀ k, k < 5 → Any h (t + 57 + 54 * k)) ∧ ∀ k, k < nh → Shw h (t + 57 + 54 * ro k) (V k)
theorem His_keep {h h' : zH} {t nh : Nat} {V : Nat → Nat → Int32} (w : His h t nh V) (k : ∀ x, t + 55 ≤ x → x < t + 327 → h'.2 x = h.2 x) : His h' t nh V := by
  obtain ⟨ro, h5, h0, h1, hn, ha, hs⟩ := w
  refine ⟨ro, h5, by rw [k _ (by omega) (by omega)]; exact h0, by rw [k _ (by omega) (by omega)]; exact h1, hn, fun j hj => Any_keep (ha j hj) (fun x a b => k x (by omega) (by omega)), fun j hj => Shw_keep (hs j hj) (fun x a b => k x (by omega) ?_)⟩
  have := h5.1 j (by omega)
  omega
/-- one shop is copied to another's place -/
theorem copy_to {h : zH} {a lo : Nat} {S : Nat → Int32} (w : Shw h a S) (y : Any h lo) (d : a + 54 ≤ lo ∨ lo + 54 ≤ a) : ∃ h', fX5_copyFrom [.ref lo, .ref a] h = some h' ∧ h'.1 = h.1 ∧ (∀ x, x < lo ∨ lo + 54 ≤ x → h'.2 x = h.2 x) ∧ Shw h' lo S := by
  obtain ⟨s', P', pf', pi', O', N', L', nS, nP, nO, c, e, v, i, r⟩ := w
  obtain ⟨s, P, pf, pi, O, N, L, e2, hpi⟩ := y
  obtain ⟨s1, P1, pf1, O1, N1, L1, q1, q2⟩ := copy_rel (s := s) (P := P) (pf := pf) (O := O) (N := N) (L := L) hpi d v i
  have := q1 h e
  rw [At_eq e2] at this
  exact ⟨_, this, rfl, fun x hx => hS_ne hx, s1, P1, pf1, pi, O1, N1, L1, nS, nP, nO, c, At_self, q2, i, r⟩
theorem Any_is {h : zH} {a : Nat} (w : Any h a) : isO h 5 a = true := by
  obtain ⟨s, P, pf, pi, O, N, L, e, -⟩ := w
  exact aIs e
def acW (V : Nat → Nat → Int32) (S : Nat → Int32) (n : Nat) : Nat → Nat → Int32 := if n = 5 then va_up (fun k => V (k + 1)) 4 S else va_up V n S
theorem acW_top {V : Nat → Nat → Int32} {S : Nat → Int32} {n : Nat} : acW V S n (acN n) = S := by
  by_cases e : n = 5
  · simp only [acW, acN, if_pos e]; exact va_up_self _ _ _
  · simp only [acW, acN, if_neg e]; exact va_up_self _ _ _
/-- the state is kept -/
theorem fill_rel {h : zH} {t n : Nat} {V : Nat → Nat → Int32} {S : Nat → Int32} (w : His h t n V) (hn : n < 5) (u : Shw h (t + 1) S) : ∃ (ro : Nat → Nat) (h' : zH), h.2 (t + 55) = some (cHi t n) ∧ rdQ h 5 (t + 56) (nI n) = some (t + 57 + 54 * ro n) ∧ isO h 5 (t + 57 + 54 * ro n) = true ∧ fX5_copyFrom [.ref (t + 57 + 54 * ro n), .ref (t + 1)] h = some h' ∧ h'.1 = h.1 ∧ h'.2 (t + 55) = some (cHi t n) ∧ (∀ x, x < t + 55 ∨ t + 327 ≤ x → h'.2 x = h.2 x) ∧ His (hp h' (t + 55) (cHi t (n + 1))) t (n + 1) (va_up V n S) := by
  obtain ⟨ro, h5, h0, h1, hn', ha, hs⟩ := w
  have rn := h5.1 n hn
  obtain ⟨h', c1, c2, c3, c4⟩ := copy_to u (ha _ rn) (by omega)
  have k0 : h'.2 (t + 55) = some (cHi t n) := by rw [c3 _ (by omega)]; exact h0
  refine ⟨ro, h', h0, hi_q h1 hn, Any_is (ha _ rn), c1, c2, k0, fun x hx => c3 x (by omega), ro, h5, hp_self _ _ _, ?_, by omega, fun k hk => ?_, fun k hk => ?_⟩
  · rw [hp_ne _ _ (by omega), c3 _ (by omega)]; exact h1
  · by_cases e : k = ro n
    · subst e
      exact Any_keep (Shw_any c4) (fun x a b => hp_ne _ _ (by omega))
    · exact Any_keep (ha k hk) (fun x a b => by rw [hp_ne _ _ (by omega), c3 x (by omega)])
  · have rk := h5.1 k (by omega)
    by_cases e : k = n
    · subst e
      exact Shw_keep (by rw [va_up_self]; exact c4) (fun x a b => hp_ne _ _ (by omega))
    · have ne : ro k ≠ ro n := fun q => e (h5.2 _ _ (by omega) hn q)
      exact Shw_keep (by rw [va_up_ne _ _ e]; exact hs k (by omega)) (fun x a b => by rw [hp_ne _ _ (by omega), c3 x (by omega)])
set_option maxRecDepth 100000 in
theorem record_rel {h : zH} {t nh : Nat} {V : Nat → Nat → Int32} {S : Nat → Int32} (w : His h t nh V) (u : Shw h (t + 1) S) : ∃ h', fX1_record [.ref (t + 55), .ref (t + 1)] h = some h' ∧ h'.1 = h.1 ∧ (∀ x, x < t + 55 ∨ t + 327 ≤ x → h'.2 x = h.2 x) ∧ His h' t (acN nh + 1) (acW V S nh) := by
  by_cases e5 : nh = 5
  · subst e5
    obtain ⟨ro, h5, h0, h1, hn', ha, hs⟩ := w
    have dr := X1_dropOldest h0 h1 h5 (fun k hk => Any_is (ha k hk)) (by omega)
    generalize hH : hp (hp h (t + 56) (xR 5 5 (rfH t (rotH ro)))) (t + 55) (cHi t (5 - 1)) = H at dr
    have kH : ∀ x, x ≠ t + 55 → x ≠ t + 56 → H.2 x = h.2 x := fun x a b => by rw [← hH, hp_ne _ _ a, hp_ne _ _ b]
    have H1 : H.1 = h.1 := by rw [← hH]
    have w' : His H t 4 ((fun k => V (k + 1))) := by
      refine ⟨rotH ro, P5_rot h5, by rw [← hH, hp_self], by rw [← hH, hp_ne _ _ (by omega), hp_self], by omega, fun k hk => Any_keep (ha k hk) (fun x a b => kH x (by omega) (by omega)), fun k hk => ?_⟩
      have e : rotH ro k = ro (k + 1) := by simp only [rotH]; rw [if_pos hk]
      rw [e]
      exact Shw_keep (hs (k + 1) (by omega)) (fun x a b => kH x (by omega) (by omega))
    obtain ⟨ro', h', g0, g1, g2, g3, g4, g5, g6, g7⟩ := fill_rel w' (by omega) (Shw_keep u (fun x a b => kH x (by omega) (by omega)))
    refine ⟨_, ?_, ?_, fun x hx => ?_, g7⟩
    · have w1 := hi_w g5 5
      have e55 : o_ge 5 5 = true := by decide
      have i4 : (nI 4 : Int32) = 4 := rfl
      have i5 : (nI 5 : Int32) = 5 := rfl
      have r1 := hi_1 h0
      have r2 := hi_1 g0
      have r3 := hi_1 g5
      rw [i4] at g1 r2 r3
      rw [i5] at r1 w1
      simp [fX1_record, bX1_record, mV, sSeq, sIf, bCmp, eF, rL, r1, eC, e55, sCV, aN, hi_is h0, dr, zCut, rQ, rF, hi_0 g0, r2, g1, aR, g2, g3, sFa, r3, show (4 : Int32) + 1 = 5 from rfl, w1, sRv]
    · simp [g4, H1]
    · rw [hp_ne _ _ (by omega), g6 x hx]
      exact kH x (by omega) (by omega)
  · have hn : nh < 5 := by obtain ⟨ro, -, -, -, a, -⟩ := w; omega
    obtain ⟨ro', h', g0, g1, g2, g3, g4, g5, g6, g7⟩ := fill_rel w hn u
    have ea : acN nh = nh := by simp [acN, e5]
    have ev : acW V S nh = va_up V nh S := by simp [acW, e5]
    refine ⟨hp h' (t + 55) (cHi t (nh + 1)), ?_, ?_, fun x hx => ?_, by rw [ea, ev]; exact g7⟩
    · have w1 := hi_w g5 (nh + 1)
      have e55 : o_ge (nI nh) 5 = false := by
        simp only [o_ge, show (5 : Int32) = nI 5 from rfl, nI_leI (show 5 < 2 ^ 31 by omega) (show nh < 2 ^ 31 by omega)]
        exact decide_eq_false (by omega)
      simp [fX1_record, bX1_record, mV, sSeq, sIf, bCmp, eF, rL, hi_1 g0, eC, e55, sNop, zCut, sCV, rQ, rF, hi_0 g0, g1, aR, aN, g2, g3, sFa, hi_1 g5, nI_1, w1, sRv]
    · simp [g4]
    · rw [hp_ne _ _ (by omega), g6 x hx]
