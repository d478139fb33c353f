/-! the view is kept: slip -/
section ZVL
variable {S S' s s' pf N : Nat → Int32} {P O L : Nat → Nat → Int32} {pi : Nat → Nat} {nS nP nO p k sd : Nat} {d : Int32}
theorem rdy_view {g : Nat → Int32} (v : VP g S p) (hs : sd < 2) (d : Int32) : (decide (pDep g (nI sd) = 0) && pT g d) = rdyM S p sd d := by
  obtain ⟨v0, v1, v2, v3, v4, v5, v6⟩ := v
  have e1' : sP S p 1 - d - sP S p 4 = sP S p 1 - sP S p 4 - d := by grind
  have e2' : sP S p 1 - d - sP S p 3 = sP S p 1 - sP S p 3 - d := by grind
  rcases (show sd = 0 ∨ sd = 1 by omega) with rfl | rfl
  · simp only [pDep, pT, rdyM, loM, dP, v1, v3, v4, nI_0, if_true, Nat.add_zero, Nat.sub_zero, show 3 + 1 = 4 from rfl]
    by_cases ha : sP S p 3 = 0 <;> simp [ha, e1']
  · simp only [pDep, pT, rdyM, loM, dP, v1, v3, v4, show nI 1 = 1 from rfl, if_neg (show ¬ (1 : Int32) = 0 by decide), Nat.add_zero, Nat.sub_self, show 3 + 1 = 4 from rfl]
    by_cases ha : sP S p 4 = 0 <;> simp [ha, e2']
theorem gnd_view {g : Nat → Int32} (v : VP g S p) (hs : sd < 2) (h3 : 0 ≤ sP S p 3) (h4 : 0 ≤ sP S p 4) (d : Int32) : (decide (pDep g (nI sd) ≠ 0) && pT g (d + 1)) = gndM S p sd d := by
  obtain ⟨v0, v1, v2, v3, v4, v5, v6⟩ := v
  have q3 := i_pos h3
  have q4 := i_pos h4
  rcases (show sd = 0 ∨ sd = 1 by omega) with rfl | rfl
  · simp only [pDep, pT, gndM, loM, dP, v1, v3, v4, nI_0, if_true, Nat.add_zero, Nat.sub_zero, show 3 + 1 = 4 from rfl]
    rw [i_perm3]
    simp [q3]
  · simp only [pDep, pT, gndM, loM, dP, v1, v3, v4, show nI 1 = 1 from rfl, if_neg (show ¬ (1 : Int32) = 0 by decide), Nat.add_zero, Nat.sub_self, show 3 + 1 = 4 from rfl]
    rw [i_perm4]
    simp [q4]
/-- what a slip leaves of the row, and answers -/
def slS (S : Nat → Int32) (k p sd : Nat) : Nat → Int32 := upd (upd S (10 + 7 * p + (3 + sd)) (sO S k 3)) 8 (S 8 + 1)
def slA (S : Nat → Int32) (k p sd : Nat) : Int32 := if rdyM (slS S k p sd) p (1 - sd) (sO S k 3) = true then 1 else if gndM (slS S k p sd) p sd (sO S k 3) = true then 2 else 3
def opSlip (S : Nat → Int32) (k p sd : Nat) : Nat → Int32 :=
  if rdyM (slS S k p sd) p (1 - sd) (sO S k 3) = true then upd (upd (slS S k p sd) 6 (nI (1 - sd))) 4 (efM S k)
  else if gndM (slS S k p sd) p sd (sO S k 3) = true then upd (opGrind (slS S k p sd) p sd) 4 (efM S k + 10)
  else opRest (upd (slS S k p sd) (10 + 7 * p + 2) 3)
set_option maxHeartbeats 1000000 in
theorem slip_view (vw : Vw s P pf pi O N L S nS nP nO) (iv : Iv S nS nP nO) (hk : k < nO) (hp0 : p < nP) (hsd : sd < 2) (h3 : S 3 = nI k) (h5 : S 5 = nI p) (h6 : S 6 = nI sd) (hst : sP S p 2 = 1) :
    msC (P p) (s 8) (O (pi k) 3) = slA S k p sd ∧ Vw (msS s (P p) (O (pi k) 3) (efC pi O N k)) (va_up P p (msP (P p) (s 8) (O (pi k) 3))) pf pi O N L (opSlip S k p sd) nS nP nO ∧ Iv (opSlip S k p sd) nS nP nO := by
  obtain ⟨vH, vpi, vP, vF, vO⟩ := id vw
  obtain ⟨iC, iW, iP, iO, iU⟩ := id iv
  obtain ⟨c0, c1, c2, c3, c4, c5⟩ := id iC
  have d3 := (iO k hk).2.2.2.1
  have o3 := (vO k hk).2.2.2.1
  have ef := ef_view vO iO hk
  have nk9 : nI k ≠ -9 := nI_ne9 (by omega)
  have s8 : s 8 = nI sd := by rw [vH.2.2.2.2.2.1, if_neg (by rw [h3]; exact nk9), h6]
  have ot : (if s 8 = 0 then (1 : Int32) else 0) = nI (1 - sd) := by
    rw [s8]
    rcases (show sd = 0 ∨ sd = 1 by omega) with rfl | rfl
    · rfl
    · rfl
  obtain ⟨e1, e2⟩ := eng_view (d := sO S k 3) vw iv hp0 hsd d3
  -- the slip is counted
  have e3 : Vw (upd s 11 (s 11 + 1)) (va_up P p (pEng (P p) (nI sd) (sO S k 3))) pf pi O N L (slS S k p sd) nS nP nO ∧ Iv (slS S k p sd) nS nP nO := by
    obtain ⟨v3, v4, v5, v6, v7, v8, v9, v10, v11, v12⟩ := e1.1
    obtain ⟨b0, b1, b2, b3, b4, b5⟩ := e2.1
    refine hd_view e1 e2 (fun x hx => by simp only [slS]; rw [upd_ne (by omega)]) ?_ ?_ ?_
    · have u : ∀ x, x < 10 → x ≠ 8 → slS S k p sd x = upd S (10 + 7 * p + (3 + sd)) (sO S k 3) x := fun x hx h8 => by simp only [slS]; rw [upd_ne h8]
      have u8 : slS S k p sd 8 = S 8 + 1 := by simp only [slS]; rw [upd_self]
      have e8 : upd S (10 + 7 * p + (3 + sd)) (sO S k 3) 8 = S 8 := upd_ne (by omega)
      simp only [VH, u 0 (by omega) (by omega), u 1 (by omega) (by omega), u 2 (by omega) (by omega), u 3 (by omega) (by omega), u 4 (by omega) (by omega), u 5 (by omega) (by omega), u 6 (by omega) (by omega), u 7 (by omega) (by omega), u 9 (by omega) (by omega), u8]
      rw [e8] at v11
      simp [upd, v3, v4, v5, v6, v7, v8, v9, v10, v11, v12]
    · exact ⟨by simp only [slS]; rw [upd_ne (by omega)]; exact b0, by simp only [slS]; rw [upd_ne (by omega)]; exact b1, by simp only [slS]; rw [upd_ne (by omega)]; exact b2, b3, b4, b5⟩
    · exact IvW_P e2.2.1 (by simp only [slS]; rw [upd_ne (by omega)]) (by simp only [slS]; rw [upd_ne (by omega)]) (by simp only [slS]; rw [upd_ne (by omega)]) (Nat.le_refl _) (Nat.le_refl _) (fun q _ e => by simp only [slS]; rw [sP_hd (by omega)]; exact e)
  obtain ⟨f1, f2⟩ := e3
  have vp := f1.2.2.1 p hp0
  rw [va_up_self] at vp
  obtain ⟨q0, q3, q4, -⟩ := f2.2.2.1 p hp0
  have r1 := rdy_view vp (show 1 - sd < 2 by omega) (sO S k 3)
  have r2 := gnd_view vp hsd q3 q4 (sO S k 3)
  have l3 : slS S k p sd 3 = nI k := by simp only [slS]; rw [upd_ne (by omega), upd_ne (by omega), h3]
  have l5 : slS S k p sd 5 = nI p := by simp only [slS]; rw [upd_ne (by omega), upd_ne (by omega), h5]
  have l6 : slS S k p sd 6 = nI sd := by simp only [slS]; rw [upd_ne (by omega), upd_ne (by omega), h6]
  have l2 : sP (slS S k p sd) p 2 = 1 := by simp only [slS]; rw [sP_hd (by omega), sP_upd (by omega) (by omega), if_neg (by omega), hst]
  have hm : msC (P p) (s 8) (O (pi k) 3) = slA S k p sd := by
    simp only [msC, slA]
    rw [ot, s8, o3, r1, r2]
  refine ⟨hm, ?_⟩
  obtain ⟨v3, v4, v5, v6, v7, v8, v9, v10, v11, v12⟩ := id f1.1
  obtain ⟨b0, b1, b2, b3, b4, b5⟩ := id f2.1
  by_cases h1 : rdyM (slS S k p sd) p (1 - sd) (sO S k 3) = true
  · have m1 : msC (P p) (s 8) (O (pi k) 3) = 1 := by rw [hm, slA, if_pos h1]
    have ep : msP (P p) (s 8) (O (pi k) 3) = pEng (P p) (nI sd) (sO S k 3) := by
      simp only [msP, if_pos m1]; rw [s8, o3]
    have es : msS s (P p) (O (pi k) 3) (efC pi O N k) = upd (upd (upd s 11 (s 11 + 1)) 8 (nI (1 - sd))) 9 (efM S k) := by
      simp only [msS, if_pos m1, ot, ef]
    have eo : opSlip S k p sd = upd (upd (slS S k p sd) 6 (nI (1 - sd))) 4 (efM S k) := by simp only [opSlip, if_pos h1]
    rw [ep, es, eo]
    refine hd_view f1 f2 (fun x hx => by rw [upd_ne (by omega), upd_ne (by omega)]) ?_ ?_ ?_
    · simp [VH, upd] at v3 v4 v5 v6 v7 v8 v9 v10 v11 v12 ⊢
      simp [v3, v4, v5, v6, v7, v10, v11, v12, l3, nk9]
    · simp [IvC, upd, b0, b1, b2, c3, c4, c5]
    · refine .inr ⟨k, p, 1 - sd, by simp [upd, l3], hk, by simp [upd, l5], hp0, by simp [upd], by omega, ?_⟩
      rw [sP_hd (by omega), sP_hd (by omega), l2]
  · by_cases h2 : gndM (slS S k p sd) p sd (sO S k 3) = true
    · have m1 : msC (P p) (s 8) (O (pi k) 3) = 2 := by rw [hm, slA, if_neg h1, if_pos h2]
      have n21 : ¬ (2 : Int32) = 1 := by decide
      have ep : msP (P p) (s 8) (O (pi k) 3) = pGr (pEng (P p) (nI sd) (sO S k 3)) (nI sd) := by
        simp only [msP, m1, if_neg n21, if_true]; rw [s8, o3]
      have es : msS s (P p) (O (pi k) 3) (efC pi O N k) = upd (upd (upd s 11 (s 11 + 1)) 12 (s 12 + 1)) 9 (efM S k + 10) := by
        simp only [msS, m1, if_neg n21, if_true, ef]
      have eo : opSlip S k p sd = upd (opGrind (slS S k p sd) p sd) 4 (efM S k + 10) := by simp only [opSlip, if_neg h1, if_pos h2]
      rw [ep, es, eo]
      obtain ⟨a, b⟩ := grind_view (sd := sd) f1 f2 hp0 hsd
      rw [va_up_self, up_up] at a
      obtain ⟨a', b'⟩ := min_view (v := efM S k + 10) a b (by rw [opGrind_hd' (by omega) (by omega) hsd, l3]; exact nk9)
      exact ⟨Vw_s a' (fun x _ _ => by simp only [upd]; (repeat' split) <;> first | rfl | omega), b'⟩
    · have m1 : msC (P p) (s 8) (O (pi k) 3) = 3 := by rw [hm, slA, if_neg h1, if_neg h2]
      have n31 : ¬ (3 : Int32) = 1 := by decide
      have n32 : ¬ (3 : Int32) = 2 := by decide
      have ep : msP (P p) (s 8) (O (pi k) 3) = upd (pEng (P p) (nI sd) (sO S k 3)) 2 3 := by
        simp only [msP, m1, if_neg n31, if_neg n32]; rw [s8, o3]
      have es : msS s (P p) (O (pi k) 3) (efC pi O N k) = stC (upd s 11 (s 11 + 1)) := by
        simp only [msS, m1, if_neg n31, if_neg n32]
      have eo : opSlip S k p sd = upd (opRest (slS S k p sd)) (10 + 7 * p + 2) 3 := by
        simp only [opSlip, if_neg h1, if_neg h2]
        funext x
        by_cases h : x = 10 + 7 * p + 2
        · rw [h, upd_self, opRest_ge (by omega), upd_self]
        · rw [upd_ne h, opRest_at, opRest_at, upd_ne h]
      rw [ep, es, eo]
      obtain ⟨a, b⟩ := rest_view f1 f2
      have vq := a.2.2.1 p hp0
      rw [va_up_self] at vq
      have st := st_view (c := 3) (g' := upd (pEng (P p) (nI sd) (sO S k 3)) 2 3) a b hp0 (by decide) (.inr (by rw [opRest_at]; simp)) (VP_st vq (by decide) (by
        rw [show sP (opRest (slS S k p sd)) p 2 = sP (slS S k p sd) p 2 from opRest_ge (by omega), l2]; decide) (fun x hx => by rw [sP_upd (by omega) hx]; simp))
      rw [up_up] at st
      exact st
end ZVL
