/-! the view is kept: plates -/
theorem VP_of {g S : Nat → Int32} {p : Nat} {f : Nat → Int32} (h : ∀ x, x < 7 → sP S p x = f x) (e : g 0 = f 0 ∧ g 1 = f 1 ∧ g 2 = f 2 ∧ g 3 = f 3 ∧ g 4 = f 4 ∧ g 5 = (if f 2 = 2 then f 5 else -9) ∧ g 6 = (if f 2 = 2 then f 6 else -9)) : VP g S p := by
  simp only [VP, h 0 (by omega), h 1 (by omega), h 2 (by omega), h 3 (by omega), h 4 (by omega), h 5 (by omega), h 6 (by omega)]
  exact e
section ZVP
variable {S S' g : Nat → Int32} {P : Nat → Nat → Int32} {nP p sd q x : Nat}
theorem VP_eng {d : Int32} (v : VP g S p) (hs : sd < 2) (h : ∀ x, x < 7 → sP S' p x = if x = 3 + sd then d else sP S p x) : VP (pEng g (nI sd) d) S' p := by
  obtain ⟨v0, v1, v2, v3, v4, v5, v6⟩ := v
  refine VP_of h ?_
  rcases (show sd = 0 ∨ sd = 1 by omega) with rfl | rfl
  · simp [pEng, nI_0, upd, v0, v1, v2, v3, v4, v5, v6]
  · simp [pEng, show nI 1 = 1 from rfl, upd, v0, v1, v2, v3, v4, v5, v6]
theorem opGrind_P (hs : sd < 2) (hx : x < 7) : sP (opGrind S p sd) q x = if q = p then (if x = 3 + sd then 0 else if x = 1 then sP S p 1 - dP S p sd - 1 else sP S p x) else sP S q x := by
  simp only [opGrind]
  rw [sP_hd (by omega), sP_upd (by omega) hx, sP_upd (by omega) hx]
  by_cases e : q = p
  · subst e
    by_cases h : x = 3 + sd
    · simp [h]
    · by_cases h1 : x = 1
      · subst h1; simp [h]
      · simp [h, h1]
  · simp [e]
theorem VP_gr (v : VP g S p) (hs : sd < 2) (h : ∀ x, x < 7 → sP S' p x = sP (opGrind S p sd) p x) : VP (pGr g (nI sd)) S' p := by
  obtain ⟨v0, v1, v2, v3, v4, v5, v6⟩ := v
  refine VP_of (fun x hx => (h x hx).trans (opGrind_P hs hx)) ?_
  rcases (show sd = 0 ∨ sd = 1 by omega) with rfl | rfl
  · simp [pGr, pEng, pDep, nI_0, upd, dP, v0, v1, v2, v3, v4, v5, v6, i_perm5]
  · simp [pGr, pEng, pDep, show nI 1 = 1 from rfl, upd, dP, v0, v1, v2, v3, v4, v5, v6, i_perm5]
theorem VP_fix {s : Nat} {y : Int32} (v : VP g S p) (h : ∀ x, x < 7 → sP S' p x = sP (opFix0 S p s y) p x) : VP (pFix g (nI s) y) S' p := by
  obtain ⟨v0, v1, v2, v3, v4, v5, v6⟩ := v
  refine VP_of (fun x hx => (h x hx).trans (opFix0_P hx)) ?_
  simp [pFix, upd, v0, v1, v2, v3, v4, v5, v6]
theorem VP_dr (v : VP g S p) (h : ∀ x, x < 7 → sP S' p x = if x = 2 then 0 else sP S p x) : VP (pDr g) S' p := by
  obtain ⟨v0, v1, v2, v3, v4, v5, v6⟩ := v
  refine VP_of h ?_
  simp [pDr, upd, v0, v1, v2, v3, v4, v5, v6]
theorem VP_st {c : Int32} (v : VP g S p) (hc : c ≠ 2) (ho : sP S p 2 ≠ 2) (h : ∀ x, x < 7 → sP S' p x = if x = 2 then c else sP S p x) : VP (upd g 2 c) S' p := by
  obtain ⟨v0, v1, v2, v3, v4, v5, v6⟩ := v
  rw [if_neg ho] at v5 v6
  refine VP_of h ?_
  simp [upd, v0, v1, v2, v3, v4, v5, v6, hc]
theorem VP_new {w t : Int32} (h : ∀ x, x < 7 → sP S' p x = if x = 1 then t else if x = 0 then w else 0) : VP (pNew g w t) S' p := by
  refine VP_of h ?_
  simp [pNew, upd]
/-- a plate is fixed on a shield -/
theorem VPs_fix {pf : Nat → Int32} {s : Nat} {y : Int32} (v : VPs P S nP) (hn : nP ≤ 20) (hp0 : p < nP) (hs : s < 3) (hpf : pf s = S (150 + s)) (iu : IvU (opFix0 S p s y) nP 0) : VPs (fxC P pf p s y nP) (opFix S p s y nP) nP := by
  have v1 : VPs (va_up P p (pFix (P p) (nI s) y)) (opFix0 S p s y) nP := VPs_up v hn (fun q x e hq hx => by rw [opFix0_P hx, if_neg e]) (VP_fix (v p hp0) (fun x hx => rfl))
  have e1 := platesOn_view (j := s) v1 (by omega)
  have e2 := er_view (j := s) v1 iu (by omega)
  simp only [fxC, opFix, e1, e2, hpf, opFix0_hd (S := S) (p := p) (s := s) (y := y) (x := 150 + s) (by omega) (by omega)]
  split
  · cases ho : earO (opFix0 S p s y) s nP with
    | none => exact v1
    | some q =>
      have hq := (lastO_lt ho).1
      exact VPs_up v1 hn (fun r x e hr hx => by rw [show opOut (opFix0 S p s y) (some q) = upd (opFix0 S p s y) (10 + 7 * q + 2) 0 from rfl, sP_upd (by omega) hx, if_neg (by omega)]) (VP_dr (v1 q hq) (fun x hx => by
        rw [show opOut (opFix0 S p s y) (some q) = upd (opFix0 S p s y) (10 + 7 * q + 2) 0 from rfl, sP_upd (by omega) hx]
        simp))
  · exact v1
/-- what a fixing leaves -/
theorem opFix_P {s : Nat} {y : Int32} (hx : x < 7) : sP (opFix S p s y nP) q x = sP (opFix0 S p s y) q x ∨ (x = 2 ∧ sP (opFix S p s y nP) q x = 0) := by
  simp only [opFix]
  split
  · cases ho : earO (opFix0 S p s y) s nP with
    | none => exact .inl rfl
    | some r =>
      rw [show opOut (opFix0 S p s y) (some r) = upd (opFix0 S p s y) (10 + 7 * r + 2) 0 from rfl, sP_upd (by omega) hx]
      by_cases e : q = r ∧ x = 2
      · exact .inr ⟨e.2, if_pos e⟩
      · exact .inl (if_neg e)
  · exact .inl rfl
theorem lastO_has {B : Nat → Bool} : ∀ {n p : Nat}, p < n → B p = true → ∃ q, lastO B n = some q
  | 0, p, h, _ => by omega
  | n + 1, p, h, hb => by
    simp only [lastO]
    split
    · exact ⟨n, rfl⟩
    · rename_i hc
      by_cases e : p = n
      · subst e; exact absurd hb hc
      · exact lastO_has (show p < n by omega) hb
/-- there is a plate of the earliest year on a shield that bears one -/
theorem earO_has {nS s : Nat} (iv : IvP S nS nP) (hp0 : p < nP) (hb : onS S (nI s) p = true) : ∃ q, earO S s nP = some q := by
  have ne := yrM_some (sg := 1) (y := fun p => sP S p 6) (year_ge iv (nI s)) hp0 hb
  obtain ⟨q, q1, q2, q3⟩ := yrM_of ne
  exact lastO_has q1 (by rw [onY, q2, q3]; simp)
end ZVP
