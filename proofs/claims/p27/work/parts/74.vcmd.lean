/-! the view is kept: commands that don't work -/
def zer (S : Nat → Int32) (a n : Nat) : Nat → Int32 := fun x => if a ≤ x ∧ x < a + n then 0 else S x
def opCut (S : Nat → Int32) (p : Nat) (w t : Int32) : Nat → Int32 := upd (upd (zer (upd S 1 (nI (p + 1))) (10 + 7 * p) 7) (10 + 7 * p + 0) w) (10 + 7 * p + 1) t
def opHang (S : Nat → Int32) (n : Nat) (w : Int32) : Nat → Int32 := upd (upd S (150 + n) w) 0 (nI (n + 1))
section ZVC
variable {S s pf N : Nat → Int32} {P O L : Nat → Nat → Int32} {pi : Nat → Nat} {nS nP nO p k : Nat}
theorem IvW_P {S' : Nat → Int32} {nO' nP' : Nat} (w : IvW S nP nO) (h3 : S' 3 = S 3) (h5 : S' 5 = S 5) (h6 : S' 6 = S 6) (hn : nP ≤ nP') (ho : nO ≤ nO') (h : ∀ q, q < nP → sP S q 2 = 1 → sP S' q 2 = 1) : IvW S' nP' nO' := by
  rcases w with ⟨w1, w2⟩ | ⟨k, q, sd, w1, w2, w3, w4, w5, w6, w7⟩
  · exact .inl ⟨by rw [h3, w1], by rw [h5, w2]⟩
  · exact .inr ⟨k, q, sd, by rw [h3, w1], by omega, by rw [h5, w3], by omega, by rw [h6, w5], w6, h q w4 w7⟩
theorem VH_eq {S' : Nat → Int32} (v : VH s S) (h : ∀ x, x < 10 → S' x = S x) : VH s S' := by
  simp only [VH, h 0 (by omega), h 1 (by omega), h 2 (by omega), h 3 (by omega), h 4 (by omega), h 5 (by omega), h 6 (by omega), h 7 (by omega), h 8 (by omega), h 9 (by omega)]
  exact v
theorem VFs_eq {S' : Nat → Int32} (v : VFs pf S nS) (h : ∀ j, j < 3 → S' (150 + j) = S (150 + j)) (hn : nS ≤ 3) : VFs pf S' nS := fun j hj => by rw [h j (by omega)]; exact v j hj
/-- a change of the state of one plate -/
theorem st_view {c : Int32} {g' : Nat → Int32} (vw : Vw s P pf pi O N L S nS nP nO) (iv : Iv S nS nP nO) (hp0 : p < nP) (hc : c ≠ 2) (h1 : sP S p 2 ≠ 1 ∨ S 3 = -9) (vp : VP g' (upd S (10 + 7 * p + 2) c) p) :
    Vw s (va_up P p g') pf pi O N L (upd S (10 + 7 * p + 2) c) nS nP nO ∧ Iv (upd S (10 + 7 * p + 2) c) nS nP nO := by
  obtain ⟨vH, vpi, vP, vF, vO⟩ := vw
  obtain ⟨iC, iW, iP, iO, iU⟩ := id iv
  obtain ⟨c0, c1, c2, c3, c4, c5⟩ := id iC
  have hd : ∀ x, x < 10 ∨ 150 ≤ x → upd S (10 + 7 * p + 2) c x = S x := fun x hx => upd_ne (by omega)
  have hO : ∀ j x, sO (upd S (10 + 7 * p + 2) c) j x = sO S j x := fun j x => sO_upd (by omega)
  have hP : ∀ q x, x < 7 → sP (upd S (10 + 7 * p + 2) c) q x = if q = p ∧ x = 2 then c else sP S q x := fun q x hx => sP_upd (by omega) hx
  refine ⟨⟨VH_eq vH (fun x hx => hd x (by omega)), vpi, VPs_up vP c4 (fun q x e _ hx => by rw [hP q x hx, if_neg (by omega)]) vp, VFs_eq vF (fun j _ => hd _ (by omega)) c3, VOs_eq hO vO⟩, ?_⟩
  refine Iv_same iv ⟨by rw [hd 0 (by omega), c0], by rw [hd 1 (by omega), c1], by rw [hd 2 (by omega), c2], c3, c4, c5⟩ (Nat.le_refl _) (by
    rcases h1 with h1 | h1
    · exact IvW_P iW (hd 3 (by omega)) (hd 5 (by omega)) (hd 6 (by omega)) (Nat.le_refl _) (Nat.le_refl _) (fun q _ e => by
        rw [hP q 2 (by omega)]
        by_cases eq : q = p
        · subst eq; exact absurd e h1
        · rw [if_neg (by omega)]; exact e)
    · rcases iW with ⟨w1, w2⟩ | ⟨k, q, sd, w1, w2, w3, w4, w5, w6, w7⟩
      · exact .inl ⟨by rw [hd 3 (by omega), w1], by rw [hd 5 (by omega), w2]⟩
      · rw [h1] at w1; exact absurd w1.symm (nI_ne9 (by omega))) (fun q hq => ?_) (fun j x _ _ => hO j x)
  obtain ⟨q0, q3, q4, q2⟩ := iP q hq
  rw [hP q 0 (by omega), hP q 3 (by omega), hP q 4 (by omega), hP q 2 (by omega), hP q 5 (by omega), hP q 6 (by omega)]
  simp only [show ¬ (q = p ∧ 0 = 2) by omega, show ¬ (q = p ∧ 3 = 2) by omega, show ¬ (q = p ∧ 4 = 2) by omega, show ¬ (q = p ∧ 5 = 2) by omega, show ¬ (q = p ∧ 6 = 2) by omega, if_false]
  refine ⟨q0, q3, q4, fun e => ?_⟩
  by_cases eq : q = p
  · simp [eq] at e; exact absurd e hc
  · simp [eq] at e
    exact ⟨hq, by simpa [eq] using e, by simp, by simp⟩
theorem dr_view (vw : Vw s P pf pi O N L S nS nP nO) (iv : Iv S nS nP nO) (hp0 : p < nP) (h1 : sP S p 2 ≠ 1 ∨ S 3 = -9) :
    Vw s (drP P p) pf pi O N L (upd S (10 + 7 * p + 2) 0) nS nP nO ∧ Iv (upd S (10 + 7 * p + 2) 0) nS nP nO :=
  st_view vw iv hp0 (by decide) h1 (VP_dr (vw.2.2.1 p hp0) (fun x hx => by rw [sP_upd (by omega) hx]; simp))
theorem spoil_view (vw : Vw s P pf pi O N L S nS nP nO) (iv : Iv S nS nP nO) (hp0 : p < nP) (h1 : sP S p 2 = 0) :
    Vw s (va_up P p (upd (P p) 2 3)) pf pi O N L (upd S (10 + 7 * p + 2) 3) nS nP nO ∧ Iv (upd S (10 + 7 * p + 2) 3) nS nP nO :=
  st_view vw iv hp0 (by decide) (.inl (by rw [h1]; decide)) (VP_st (vw.2.2.1 p hp0) (by decide) (by rw [h1]; decide) (fun x hx => by rw [sP_upd (by omega) hx]; simp))
theorem opGrind_hd' {sd x : Nat} (hx : x < 9 ∨ 150 ≤ x) (hp0 : p < 20) (hs : sd < 2) : opGrind S p sd x = S x := by
  simp only [opGrind]
  rw [upd_ne (by omega), upd_ne (by omega), upd_ne (by omega)]
theorem opGrind_9 {sd : Nat} : opGrind S p sd 9 = S 9 + 1 := by simp only [opGrind]; rw [upd_self]
theorem grind_view {sd : Nat} (vw : Vw s P pf pi O N L S nS nP nO) (iv : Iv S nS nP nO) (hp0 : p < nP) (hs : sd < 2) :
    Vw (upd s 12 (s 12 + 1)) (va_up P p (pGr (P p) (nI sd))) pf pi O N L (opGrind S p sd) nS nP nO ∧ Iv (opGrind S p sd) nS nP nO := by
  obtain ⟨vH, vpi, vP, vF, vO⟩ := vw
  obtain ⟨iC, iW, iP, iO, iU⟩ := id iv
  obtain ⟨c0, c1, c2, c3, c4, c5⟩ := id iC
  have hd : ∀ x, x < 9 ∨ 150 ≤ x → opGrind S p sd x = S x := fun x hx => opGrind_hd' hx (by omega) hs
  have hO : ∀ j x, sO (opGrind S p sd) j x = sO S j x := fun j x => hd _ (by omega)
  have hP : ∀ q x, x < 7 → sP (opGrind S p sd) q x = _ := fun q x hx => opGrind_P (S := S) (p := p) (q := q) hs hx
  refine ⟨⟨?_, vpi, VPs_up vP c4 (fun q x e _ hx => by rw [hP q x hx, if_neg e]) (VP_gr (vP p hp0) hs (fun x _ => rfl)), VFs_eq vF (fun j _ => hd _ (by omega)) c3, VOs_eq hO vO⟩, ?_⟩
  · obtain ⟨v3, v4, v5, v6, v7, v8, v9, v10, v11, v12⟩ := vH
    simp [VH, upd, v3, v4, v5, v6, v7, v8, v9, v10, v11, v12, hd 0 (by omega), hd 1 (by omega), hd 2 (by omega), hd 3 (by omega), hd 4 (by omega), hd 5 (by omega), hd 6 (by omega), hd 7 (by omega), hd 8 (by omega), opGrind_9]
  · refine Iv_same iv ⟨by rw [hd 0 (by omega), c0], by rw [hd 1 (by omega), c1], by rw [hd 2 (by omega), c2], c3, c4, c5⟩ (Nat.le_refl _) (IvW_P iW (hd 3 (by omega)) (hd 5 (by omega)) (hd 6 (by omega)) (Nat.le_refl _) (Nat.le_refl _) (fun q _ e => by
      rw [hP q 2 (by omega)]
      by_cases eq : q = p
      · subst eq; rw [if_pos rfl, if_neg (by omega), if_neg (by omega)]; exact e
      · rw [if_neg eq]; exact e)) (fun q hq => ?_) (fun j x _ _ => hO j x)
    obtain ⟨q0, q3, q4, q2⟩ := iP q hq
    rw [hP q 0 (by omega), hP q 3 (by omega), hP q 4 (by omega), hP q 2 (by omega), hP q 5 (by omega), hP q 6 (by omega)]
    by_cases eq : q = p
    · subst eq
      rcases (show sd = 0 ∨ sd = 1 by omega) with rfl | rfl
      · simp [q0, q4, hq]
      · simp [q0, q3, hq]
    · simp only [if_neg eq]
      exact ⟨q0, q3, q4, fun e => ⟨hq, e, by simp, by simp⟩⟩
theorem opCut_hd {w t : Int32} {x : Nat} (hx : x < 10 ∨ 150 ≤ x) (hp0 : p < 20) : opCut S p w t x = if x = 1 then nI (p + 1) else S x := by
  simp only [opCut]
  rw [upd_ne (by omega), upd_ne (by omega)]
  simp only [zer]
  rw [if_neg (by omega)]
  by_cases e : x = 1
  · rw [if_pos e, e, upd_self]
  · rw [if_neg e, upd_ne e]
theorem opCut_P {w t : Int32} {q x : Nat} (hx : x < 7) (hq : q < 20) : sP (opCut S p w t) q x = if q = p then (if x = 1 then t else if x = 0 then w else 0) else sP S q x := by
  simp only [opCut]
  rw [sP_upd (by omega) hx, sP_upd (by omega) hx]
  simp only [sP, zer]
  by_cases e : q = p
  · subst e
    have z : 10 + 7 * q ≤ 10 + 7 * q + x ∧ 10 + 7 * q + x < 10 + 7 * q + 7 := by omega
    simp [z]
  · rw [if_neg (by omega), if_neg (by omega), if_neg (by omega), if_neg e, upd_ne (by omega)]
theorem cut_view {w t : Int32} (vw : Vw s P pf pi O N L S nS nP nO) (iv : Iv S nS nP nO) (hp0 : nP < 20) (hw : 0 ≤ w) :
    Vw (upd s 3 (nI (nP + 1))) (va_up P nP (pNew (P nP) w t)) pf pi O N L (opCut S nP w t) nS (nP + 1) nO ∧ Iv (opCut S nP w t) nS (nP + 1) nO := by
  obtain ⟨vH, vpi, vP, vF, vO⟩ := vw
  obtain ⟨iC, iW, iP, iO, iU⟩ := id iv
  obtain ⟨c0, c1, c2, c3, c4, c5⟩ := id iC
  have hd : ∀ x, x < 10 ∨ 150 ≤ x → opCut S nP w t x = _ := fun x hx => opCut_hd (S := S) (w := w) (t := t) hx hp0
  have hO : ∀ j x, sO (opCut S nP w t) j x = sO S j x := fun j x => by simp only [sO]; rw [hd _ (by omega), if_neg (by omega)]
  have hP : ∀ q x, q < 20 → x < 7 → sP (opCut S nP w t) q x = _ := fun q x hq hx => opCut_P (S := S) (p := nP) (w := w) (t := t) hx hq
  refine ⟨⟨?_, vpi, ?_, VFs_eq vF (fun j _ => by rw [hd _ (by omega), if_neg (by omega)]) c3, VOs_eq hO vO⟩, ?_⟩
  · obtain ⟨v3, v4, v5, v6, v7, v8, v9, v10, v11, v12⟩ := vH
    simp [VH, upd, v3, v4, v5, v6, v7, v8, v9, v10, v11, v12, hd 0 (by omega), hd 1 (by omega), hd 2 (by omega), hd 3 (by omega), hd 4 (by omega), hd 5 (by omega), hd 6 (by omega), hd 7 (by omega), hd 8 (by omega), hd 9 (by omega)]
  · intro q hq
    by_cases e : q = nP
    · subst e; rw [va_up_self]
      exact VP_new (fun x hx => by rw [hP q x hp0 hx, if_pos rfl])
    · rw [va_up_ne _ _ e]
      exact VP_eq (fun x hx => by rw [hP q x (by omega) hx, if_neg e]) (vP q (by omega))
  · refine Iv_same iv ⟨by rw [hd 0 (by omega), if_neg (by omega), c0], by rw [hd 1 (by omega), if_pos rfl], by rw [hd 2 (by omega), if_neg (by omega), c2], c3, by omega, c5⟩ (Nat.le_refl _) (IvW_P iW (by rw [hd 3 (by omega), if_neg (by omega)]) (by rw [hd 5 (by omega), if_neg (by omega)]) (by rw [hd 6 (by omega), if_neg (by omega)]) (by omega) (Nat.le_refl _) (fun q hq e => by
      rw [hP q 2 (by omega) (by omega), if_neg (by omega)]; exact e)) (fun q hq => ?_) (fun j x _ _ => hO j x)
    rw [hP q 0 (by omega) (by omega), hP q 3 (by omega) (by omega), hP q 4 (by omega) (by omega), hP q 2 (by omega) (by omega), hP q 5 (by omega) (by omega), hP q 6 (by omega) (by omega)]
    by_cases eq : q = nP
    · subst eq
      simp [hw]
    · obtain ⟨q0, q3, q4, q2⟩ := iP q (by omega)
      simp only [if_neg eq]
      exact ⟨q0, q3, q4, fun e => ⟨by omega, e, by simp, by simp⟩⟩
theorem hang_view {w : Int32} (vw : Vw s P pf pi O N L S nS nP nO) (iv : Iv S nS nP nO) (hs : nS < 3) :
    Vw (upd s 4 (nI (nS + 1))) P (upd pf nS w) pi O N L (opHang S nS w) (nS + 1) nP nO ∧ Iv (opHang S nS w) (nS + 1) nP nO := by
  obtain ⟨vH, vpi, vP, vF, vO⟩ := vw
  obtain ⟨iC, iW, iP, iO, iU⟩ := id iv
  obtain ⟨c0, c1, c2, c3, c4, c5⟩ := id iC
  have hd : ∀ x, x ≠ 0 → x ≠ 150 + nS → opHang S nS w x = S x := fun x h0 h1 => by simp only [opHang]; rw [upd_ne h0, upd_ne h1]
  have h0 : opHang S nS w 0 = nI (nS + 1) := by simp only [opHang]; rw [upd_self]
  have hO : ∀ j x, sO (opHang S nS w) j x = sO S j x := fun j x => hd _ (by omega) (by omega)
  have hP : ∀ q x, q < 20 → x < 7 → sP (opHang S nS w) q x = sP S q x := fun q x hq hx => hd _ (by omega) (by omega)
  refine ⟨⟨?_, vpi, VPs_eq c4 hP vP, ?_, VOs_eq hO vO⟩, ?_⟩
  · obtain ⟨v3, v4, v5, v6, v7, v8, v9, v10, v11, v12⟩ := vH
    have e : ∀ x, x ≠ 0 → x < 10 → opHang S nS w x = S x := fun x a b => hd x a (by omega)
    simp [VH, upd, v3, v4, v5, v6, v7, v8, v9, v10, v11, v12, h0, e 1, e 2, e 3, e 4, e 5, e 6, e 7, e 8, e 9]
  · intro j hj
    by_cases e : j = nS
    · subst e
      rw [upd_self]
      simp only [opHang]
      rw [upd_ne (by omega), upd_self]
    · rw [upd_ne e, hd _ (by omega) (by omega)]
      exact vF j (by omega)
  · refine Iv_same iv ⟨h0, by rw [hd 1 (by omega) (by omega), c1], by rw [hd 2 (by omega) (by omega), c2], by omega, c4, c5⟩ (Nat.le_succ _) (IvW_P iW (hd 3 (by omega) (by omega)) (hd 5 (by omega) (by omega)) (hd 6 (by omega) (by omega)) (Nat.le_refl _) (Nat.le_refl _) (fun q hq e => by
      rw [hP q 2 (by omega) (by omega)]; exact e)) (fun q hq => ?_) (fun j x _ _ => hO j x)
    rw [hP q 0 (by omega) (by omega), hP q 3 (by omega) (by omega), hP q 4 (by omega) (by omega), hP q 2 (by omega) (by omega), hP q 5 (by omega) (by omega), hP q 6 (by omega) (by omega)]
    obtain ⟨q0, q3, q4, q2⟩ := iP q hq
    exact ⟨q0, q3, q4, fun e => ⟨hq, e, by simp, by simp⟩⟩
end ZVC
