/-! the view is kept: finish, slip -/
section ZVF
variable {S S' T s s' pf N : Nat → Int32} {P O L : Nat → Nat → Int32} {pi : Nat → Nat} {nS nP nO p k sd sh : Nat} {y d : Int32}
theorem opTake_ge (h : ∀ x, 150 ≤ x → T x = S x) {x : Nat} (hx : 153 ≤ x) : opTake T k nO x = opTake S k nO x := by
  simp only [opTake]
  rw [upd_ne (by omega), upd_ne (by omega)]
  simp only [shDn]
  by_cases e : 153 + 19 * k ≤ x ∧ x < 153 + 19 * k + 19 * (nO - 1 - k)
  · rw [if_pos e, if_pos e, upd_ne (by omega), upd_ne (by omega), h _ (by omega)]
  · rw [if_neg e, if_neg e, upd_ne (by omega), upd_ne (by omega), h _ (by omega)]
/-- on a fixing, the plates on shields still differ -/
theorem fix_U (iv : Iv S nS nP nO) (hk : k < nO) (hs : sO S k 0 = nI sh) (hy : sO S k 1 = y) (h1 : ∀ q, q < nP → sP S' q 2 = 2 → (sP S q 2 = 2 ∧ sP S' q 5 = sP S q 5 ∧ sP S' q 6 = sP S q 6) ∨ (q = p ∧ sP S' q 5 = nI sh ∧ sP S' q 6 = y)) : IvU S' nP 0 := by
  obtain ⟨-, -, -, -, iU1, -, iU3⟩ := iv
  refine ⟨fun q r hq hr e1 e2 e3 e5 => ?_, fun a b ha => by omega, fun q j _ hj => by omega⟩
  rcases h1 q hq e1 with ⟨a1, a2, a3⟩ | ⟨a1, a2, a3⟩
  · rcases h1 r hr e2 with ⟨b1, b2, b3⟩ | ⟨b1, b2, b3⟩
    · exact iU1 q r hq hr a1 b1 (by rw [← a2, ← b2, e3]) (by rw [← a3, ← b3, e5])
    · exact absurd ⟨by rw [← a2, e3, b2, hs], by rw [← a3, e5, b3, hy]⟩ (iU3 q k hq hk a1)
  · rcases h1 r hr e2 with ⟨b1, b2, b3⟩ | ⟨b1, b2, b3⟩
    · exact absurd ⟨by rw [← b2, ← e3, a2, hs], by rw [← b3, ← e5, a3, hy]⟩ (iU3 r k hr hk b1)
    · rw [a1, b1]
theorem fix0_P2 (hsd : sd < 2) {q : Nat} (h : sP (opFix0 (upd S (10 + 7 * p + (3 + sd)) d) p sh y) q 2 = 2) : (sP S q 2 = 2 ∧ sP (opFix0 (upd S (10 + 7 * p + (3 + sd)) d) p sh y) q 5 = sP S q 5 ∧ sP (opFix0 (upd S (10 + 7 * p + (3 + sd)) d) p sh y) q 6 = sP S q 6) ∨ (q = p ∧ sP (opFix0 (upd S (10 + 7 * p + (3 + sd)) d) p sh y) q 5 = nI sh ∧ sP (opFix0 (upd S (10 + 7 * p + (3 + sd)) d) p sh y) q 6 = y) := by
  rw [opFix0_P (by omega)] at h
  rw [opFix0_P (by omega), opFix0_P (by omega)]
  by_cases e : q = p
  · exact .inr ⟨e, by simp [e], by simp [e]⟩
  · rw [if_neg e, sP_upd (by omega) (by omega), if_neg (by omega)] at h
    rw [if_neg e, if_neg e, sP_upd (by omega) (by omega), sP_upd (by omega) (by omega), if_neg (by omega), if_neg (by omega)]
    exact .inl ⟨h, rfl, rfl⟩
theorem fix_has (iv : Iv S nS nP nO) (hk : k < nO) (hp0 : p < nP) (hsd : sd < 2) (hs : sO S k 0 = nI sh) (hs3 : sh < nS) (hy : sO S k 1 = y) : ∃ q, earO (opFix0 (upd S (10 + 7 * p + (3 + sd)) d) p sh y) sh nP = some q := by
  obtain ⟨iC, iW, iP, iO, iU⟩ := id iv
  have y12 := (iO k hk).2
  rw [hy] at y12
  have iP' : ∀ q, q < nP → onS (opFix0 (upd S (10 + 7 * p + (3 + sd)) d) p sh y) (nI sh) q = true → 1 ≤ sP (opFix0 (upd S (10 + 7 * p + (3 + sd)) d) p sh y) q 6 := fun q hq hb => by
    simp only [onS, Bool.and_eq_true, decide_eq_true_eq] at hb
    rcases fix0_P2 hsd hb.1 with ⟨a1, a2, a3⟩ | ⟨a1, a2, a3⟩
    · rw [a3]; exact ((iP q hq).2.2.2 a1).2.1
    · rw [a3]; exact y12.1
  have hb : onS (opFix0 (upd S (10 + 7 * p + (3 + sd)) d) p sh y) (nI sh) p = true := by
    simp only [onS]
    rw [opFix0_P (by omega), opFix0_P (by omega)]
    simp
  have ne := yrM_some (sg := 1) (y := fun q => sP (opFix0 (upd S (10 + 7 * p + (3 + sd)) d) p sh y) q 6) iP' hp0 hb
  obtain ⟨q, q1, q2, q3⟩ := yrM_of ne
  exact lastO_has q1 (by rw [onY, q2, q3]; simp)
set_option maxHeartbeats 1000000 in
theorem fin_view (vw : Vw s P pf pi O N L S nS nP nO) (iv : Iv S nS nP nO) (hk : k < nO) (hp0 : p < nP) (hsd : sd < 2) (hs : sO S k 0 = nI sh) (hs3 : sh < nS) (hy : sO S k 1 = y) (h3 : S 3 = nI k) :
    Vw (fiS s k nO) (fxC (va_up P p (pEng (P p) (nI sd) (sO S k 3))) pf p sh y nP) pf (rmC pi k nO) O N L (opFin S k p sd sh y nP nO) nS nP (nO - 1) ∧ Iv (opFin S k p sd sh y nP nO) nS nP (nO - 1) := by
  obtain ⟨vH, vpi, vP, vF, vO⟩ := id vw
  obtain ⟨iC, iW, iP, iO, iU⟩ := id iv
  obtain ⟨c0, c1, c2, c3, c4, c5⟩ := id iC
  have d3 := (iO k hk).2.2.2.1
  obtain ⟨e1, e2⟩ := eng_view (d := sO S k 3) vw iv hp0 hsd d3
  have vf := VPs_fix (S := upd S (10 + 7 * p + (3 + sd)) (sO S k 3)) (p := p) (s := sh) (y := y) e1.2.2.1 c4 hp0 (by omega) (e1.2.2.2.1 sh hs3) (fix_U iv hk hs hy (fun q _ h => fix0_P2 hsd h))
  have hT : ∀ x, (x < 10 ∨ 150 ≤ x) → opFix (upd S (10 + 7 * p + (3 + sd)) (sO S k 3)) p sh y nP x = S x := fun x hx => by
    rw [opFix_hd hx (by omega) c4, upd_ne (by omega)]
  -- what the whole change reaches
  have hd : ∀ x, x < 153 → x ≠ 2 → x ≠ 3 → x ≠ 7 → opFin S k p sd sh y nP nO x = opRest (opFix (upd S (10 + 7 * p + (3 + sd)) (sO S k 3)) p sh y nP) x := fun x a b c e => by
    simp only [opFin]; rw [upd_ne e, opTake_hd a b c]
  have f2 : opFin S k p sd sh y nP nO 2 = nI (nO - 1) := by simp only [opFin]; rw [upd_ne (by omega), opTake_2]
  have f3 : opFin S k p sd sh y nP nO 3 = -9 := by
    simp only [opFin]
    rw [upd_ne (by omega), opTake_3, opRest_at, if_pos (by omega), if_neg (nI_nlt9 (by omega)), Int32.sub_zero]
  have f7 : opFin S k p sd sh y nP nO 7 = S 7 + 1 := by
    simp only [opFin]
    rw [upd_self, opRest_ge (by omega), hT 7 (by omega)]
  have fl : ∀ x, x < 10 → x ≠ 2 → x ≠ 3 → x ≠ 7 → opFin S k p sd sh y nP nO x = if x = 5 then -9 else if x = 4 ∨ x = 6 then 0 else S x := fun x a b c e => by
    rw [hd x (by omega) b c e, opRest_at, hT x (by omega)]
    by_cases h5 : x = 5
    · simp [h5]
    · simp [h5, c]
  have hO : ∀ j x, sO (opFin S k p sd sh y nP nO) j x = sO (opTake S k nO) j x := fun j x => by
    simp only [sO, opFin]
    rw [upd_ne (by omega)]
    exact opTake_ge (fun z hz => by rw [opRest_ge (by omega)]; exact hT z (by omega)) (by omega)
  have hP : ∀ q x, q < 20 → x < 7 → sP (opFin S k p sd sh y nP nO) q x = sP (opFix (upd S (10 + 7 * p + (3 + sd)) (sO S k 3)) p sh y nP) q x := fun q x hq hx => by
    simp only [sP]
    rw [hd _ (by omega) (by omega) (by omega) (by omega), opRest_ge (by omega)]
  refine ⟨⟨?_, PI_rm vpi hk c5, VPs_eq c4 hP vf, VFs_eq vF (fun j hj => by rw [hd _ (by omega) (by omega) (by omega) (by omega), opRest_ge (by omega), hT _ (by omega)]) c3, VOs_take vO hk (fun j hj => (iO j hj).2.2.2.2.2.2.2) hO⟩, ?_⟩
  · obtain ⟨v3, v4, v5, v6, v7, v8, v9, v10, v11, v12⟩ := vH
    simp only [VH, f2, f3, f7, fl 0 (by omega) (by omega) (by omega) (by omega), fl 1 (by omega) (by omega) (by omega) (by omega), fl 4 (by omega) (by omega) (by omega) (by omega), fl 5 (by omega) (by omega) (by omega) (by omega), fl 6 (by omega) (by omega) (by omega) (by omega), fl 8 (by omega) (by omega) (by omega) (by omega), fl 9 (by omega) (by omega) (by omega) (by omega)]
    simp [fiS, rmS, stC, upd, v3, v4, v10, v11, v12, nI_nlt9 (show k < 2 ^ 31 by omega)]
  · refine Iv_gen (p := p) (k := k) (fun j => if j < k then j else j + 1) iv ⟨by rw [fl 0 (by omega) (by omega) (by omega) (by omega)]; simp [c0], by rw [fl 1 (by omega) (by omega) (by omega) (by omega)]; simp [c1], f2, c3, c4, by omega⟩ (Nat.le_refl _) (.inl ⟨f3, by rw [fl 5 (by omega) (by omega) (by omega) (by omega)]; simp⟩) (fun q hq => ?_) (fun j hj => ⟨by split <;> omega, fun x hx _ => by rw [hO, opTake_O hk hj (by omega)]⟩) (fun j hj => ?_) (fun a b _ _ e => by (repeat' split at e) <;> omega)
    · obtain ⟨q0, q3, q4, q2⟩ := e2.2.2.1 q hq
      have ne : ∀ x, x < 7 → x ≠ 2 → sP (opFin S k p sd sh y nP nO) q x = sP (opFix0 (upd S (10 + 7 * p + (3 + sd)) (sO S k 3)) p sh y) q x := fun x hx h2 => by
        rw [hP q x (by omega) hx]
        exact (opFix_P hx).resolve_right (fun z => h2 z.1)
      have lo : ∀ x, x < 7 → x ≠ 2 → x < 5 → sP (opFin S k p sd sh y nP nO) q x = sP (upd S (10 + 7 * p + (3 + sd)) (sO S k 3)) q x := fun x hx h2 h5 => by
        rw [ne x hx h2, opFix0_P hx]
        by_cases e : q = p
        · simp [e, h2, show x ≠ 5 by omega, show x ≠ 6 by omega]
        · simp [e]
      rw [lo 0 (by omega) (by omega) (by omega), lo 3 (by omega) (by omega) (by omega), lo 4 (by omega) (by omega) (by omega)]
      refine ⟨q0, q3, q4, fun e => ?_⟩
      rw [hP q 2 (by omega) (by omega)] at e
      rw [ne 5 (by omega) (by omega), ne 6 (by omega) (by omega)]
      rcases opFix_P (S := upd S (10 + 7 * p + (3 + sd)) (sO S k 3)) (p := p) (nP := nP) (q := q) (x := 2) (s := sh) (y := y) (by omega) with h | ⟨-, h⟩
      · rw [h] at e
        rcases fix0_P2 hsd e with ⟨a1, a2, a3⟩ | ⟨a1, a2, a3⟩
        · exact .inl ⟨hq, a1, a2, a3⟩
        · exact .inr ⟨a1, hk, fun j hj => by split <;> omega, by rw [a2, hs], by rw [a3, hy]⟩
      · rw [h] at e
        exact absurd e (by decide)
    · rw [hO, opTake_O hk hj (by omega)]
      exact (iO _ (by split <;> omega)).2.2.2.2.1
end ZVF
