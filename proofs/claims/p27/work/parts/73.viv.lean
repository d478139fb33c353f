/-! what holds of the row is kept -/
section ZVI
variable {S S' A : Nat → Int32} {nS nP nO nS' nP' nO' p k pl : Nat}
theorem Iv_gen (f : Nat → Nat) (iv : Iv S nS nP nO) (hC : IvC S' nS' nP' nO') (hS : nS ≤ nS') (hW : IvW S' nP' nO')
    (hP : ∀ q, q < nP' → 0 ≤ sP S' q 0 ∧ 0 ≤ sP S' q 3 ∧ 0 ≤ sP S' q 4 ∧ (sP S' q 2 = 2 → (q < nP ∧ sP S q 2 = 2 ∧ sP S' q 5 = sP S q 5 ∧ sP S' q 6 = sP S q 6) ∨ (q = p ∧ k < nO ∧ (∀ j, j < nO' → f j ≠ k) ∧ sP S' q 5 = sO S k 0 ∧ sP S' q 6 = sO S k 1)))
    (hf : ∀ j, j < nO' → f j < nO ∧ ∀ x, x < 6 → x ≠ 4 → sO S' j x = sO S (f j) x) (h4 : ∀ j, j < nO' → sO S' j 4 = 0 ∨ sO S' j 4 = 1)
    (hi : ∀ a b, a < nO' → b < nO' → f a = f b → a = b) : Iv S' nS' nP' nO' := by
  obtain ⟨iC, iW, iP, iO, iU1, iU2, iU3⟩ := iv
  refine ⟨hC, hW, fun q hq => ?_, fun j hj => ?_, fun q r hq hr h1 h2 h3 h5 => ?_, fun a b ha hb h1 h2 => ?_, fun q j hq hj h1 h2 => ?_⟩
  · obtain ⟨a, b, c, d⟩ := hP q hq
    refine ⟨a, b, c, fun e => ?_⟩
    rcases d e with ⟨q1, q2, q3, q4⟩ | ⟨q1, q2, q3, q4, q5⟩
    · obtain ⟨⟨j, j1, j2⟩, y1, y2⟩ := (iP q q1).2.2.2 q2
      rw [q3, q4]
      exact ⟨⟨j, by omega, j2⟩, y1, y2⟩
    · obtain ⟨⟨j, j1, j2⟩, y1, y2, -⟩ := iO k q2
      rw [q4, q5]
      exact ⟨⟨j, by omega, j2⟩, y1, y2⟩
  · obtain ⟨f1, f2⟩ := hf j hj
    obtain ⟨⟨i, i1, i2⟩, y1, y2, d3, -, n1, n2, n3⟩ := iO _ f1
    rw [f2 0 (by omega) (by omega), f2 1 (by omega) (by omega), f2 3 (by omega) (by omega), nk_eq (f2 5 (by omega) (by omega)), f2 5 (by omega) (by omega)]
    exact ⟨⟨i, by omega, i2⟩, y1, y2, d3, h4 j hj, n1, n2, n3⟩
  · rcases (hP q hq).2.2.2 h1 with ⟨a1, a2, a3, a4⟩ | ⟨a1, a2, a3, a4, a5⟩
    · rcases (hP r hr).2.2.2 h2 with ⟨b1, b2, b3, b4⟩ | ⟨b1, b2, b3, b4, b5⟩
      · exact iU1 q r a1 b1 a2 b2 (by rw [← a3, ← b3, h3]) (by rw [← a4, ← b4, h5])
      · exact absurd ⟨by rw [← a3, h3, b4], by rw [← a4, h5, b5]⟩ (iU3 q k a1 b2 a2)
    · rcases (hP r hr).2.2.2 h2 with ⟨b1, b2, b3, b4⟩ | ⟨b1, b2, b3, b4, b5⟩
      · exact absurd ⟨by rw [← b3, ← h3, a4], by rw [← b4, ← h5, a5]⟩ (iU3 r k b1 a2 b2)
      · rw [a1, b1]
  · obtain ⟨f1, f2⟩ := hf a ha
    obtain ⟨g1, g2⟩ := hf b hb
    refine hi a b ha hb (iU2 _ _ f1 g1 ?_ ?_)
    · rw [← f2 0 (by omega) (by omega), ← g2 0 (by omega) (by omega), h1]
    · rw [← f2 1 (by omega) (by omega), ← g2 1 (by omega) (by omega), h2]
  · obtain ⟨f1, f2⟩ := hf j hj
    rcases (hP q hq).2.2.2 h1 with ⟨a1, a2, a3, a4⟩ | ⟨a1, a2, a3, a4, a5⟩
    · exact iU3 q _ a1 f1 a2 ⟨by rw [← a3, h2.1, f2 0 (by omega) (by omega)], by rw [← a4, h2.2, f2 1 (by omega) (by omega)]⟩
    · exact a3 j hj (iU2 _ _ f1 a2 (by rw [← f2 0 (by omega) (by omega), ← h2.1, a4]) (by rw [← f2 1 (by omega) (by omega), ← h2.2, a5]))
/-- a change of the heads and of plates not on a shield: the orders stay -/
theorem Iv_same (iv : Iv S nS nP nO) (hC : IvC S' nS' nP' nO) (hS : nS ≤ nS') (hW : IvW S' nP' nO)
    (hP : ∀ q, q < nP' → 0 ≤ sP S' q 0 ∧ 0 ≤ sP S' q 3 ∧ 0 ≤ sP S' q 4 ∧ (sP S' q 2 = 2 → (q < nP ∧ sP S q 2 = 2 ∧ sP S' q 5 = sP S q 5 ∧ sP S' q 6 = sP S q 6)))
    (hO : ∀ j x, j < nO → x < 19 → sO S' j x = sO S j x) : Iv S' nS' nP' nO :=
  Iv_gen (p := 0) (k := 0) (fun j => j) iv hC hS hW (fun q hq => ⟨(hP q hq).1, (hP q hq).2.1, (hP q hq).2.2.1, fun e => .inl ((hP q hq).2.2.2 e)⟩)
    (fun j hj => ⟨hj, fun x hx _ => hO j x hj (by omega)⟩) (fun j hj => by rw [hO j 4 hj (by omega)]; exact (iv.2.2.2.1 j hj).2.2.2.2.1) (fun a b _ _ e => e)
/-- an order is added -/
theorem Iv_add {sh : Nat} {y : Int32} (iv : Iv S nS nP nO) (hC : IvC S' nS nP (nO + 1)) (hW : IvW S' nP (nO + 1))
    (hP : ∀ q x, q < nP → x < 7 → sP S' q x = sP S q x) (hpl : pl ≤ nO)
    (hO : ∀ j x, j ≤ nO → x < 19 → sO S' j x = if j = pl then A x else sO S (if j < pl then j else j - 1) x)
    (a0 : A 0 = nI sh) (ash : sh < nS) (a1 : A 1 = y) (y1 : 1 ≤ y) (y2 : y ≤ 999) (a3 : 0 ≤ A 3) (a4 : A 4 = 0 ∨ A 4 = 1) (a5 : A 5 = nI (A 5).toNatClampNeg) (a6 : 1 ≤ (A 5).toNatClampNeg) (a7 : (A 5).toNatClampNeg ≤ 12)
    (n1 : ∀ q, q < nP → onY S (nI sh) y q = false) (n2 : ∀ j, j < nO → orY S (nI sh) y j = false) : Iv S' nS nP (nO + 1) := by
  obtain ⟨iC, iW, iP, iO, iU1, iU2, iU3⟩ := iv
  have nw : ∀ x, x < 19 → sO S' pl x = A x := fun x hx => by rw [hO pl x hpl hx, if_pos rfl]
  have ol : ∀ j, j ≤ nO → j ≠ pl → (if j < pl then j else j - 1) < nO ∧ ∀ x, x < 19 → sO S' j x = sO S (if j < pl then j else j - 1) x := fun j hj e =>
    ⟨by split <;> omega, fun x hx => by rw [hO j x hj hx, if_neg e]⟩
  have no1 : ∀ q, q < nP → sP S q 2 = 2 → ¬ (sP S q 5 = nI sh ∧ sP S q 6 = y) := fun q hq h2 h => by
    have := n1 q hq
    simp [onY, onS, h2, h.1, h.2] at this
  have no2 : ∀ j, j < nO → ¬ (sO S j 0 = nI sh ∧ sO S j 1 = y) := fun j hj h => by
    have := n2 j hj
    simp [orY, h.1, h.2] at this
  refine ⟨hC, hW, fun q hq => ?_, fun j hj => ?_, fun q r hq hr h1 h2 h3 h5 => ?_, fun a b ha hb h1 h2 => ?_, fun q j hq hj h1 h2 => ?_⟩
  · rw [hP q 0 hq (by omega), hP q 3 hq (by omega), hP q 4 hq (by omega), hP q 2 hq (by omega), hP q 5 hq (by omega), hP q 6 hq (by omega)]
    exact iP q hq
  · by_cases e : j = pl
    · subst e
      have nke : nk S' j = (A 5).toNatClampNeg := by simp only [nk, nw 5 (by omega)]
      rw [nw 0 (by omega), nw 1 (by omega), nw 3 (by omega), nw 4 (by omega), nke, nw 5 (by omega), a1]
      exact ⟨⟨sh, ash, a0⟩, y1, y2, a3, a4, a5, a6, a7⟩
    · obtain ⟨o1, o2⟩ := ol j (by omega) e
      rw [o2 0 (by omega), o2 1 (by omega), o2 3 (by omega), o2 4 (by omega), nk_eq (o2 5 (by omega)), o2 5 (by omega)]
      exact iO _ o1
  · rw [hP q 2 hq (by omega)] at h1
    rw [hP r 2 hr (by omega)] at h2
    rw [hP q 5 hq (by omega), hP r 5 hr (by omega)] at h3
    rw [hP q 6 hq (by omega), hP r 6 hr (by omega)] at h5
    exact iU1 q r hq hr h1 h2 h3 h5
  · by_cases ea : a = pl
    · by_cases eb : b = pl
      · rw [ea, eb]
      · obtain ⟨o1, o2⟩ := ol b (by omega) eb
        subst ea
        rw [nw 0 (by omega), o2 0 (by omega), a0] at h1
        rw [nw 1 (by omega), o2 1 (by omega), a1] at h2
        exact absurd ⟨h1.symm, h2.symm⟩ (no2 _ o1)
    · obtain ⟨o1, o2⟩ := ol a (by omega) ea
      by_cases eb : b = pl
      · subst eb
        rw [nw 0 (by omega), o2 0 (by omega), a0] at h1
        rw [nw 1 (by omega), o2 1 (by omega), a1] at h2
        exact absurd ⟨h1, h2⟩ (no2 _ o1)
      · obtain ⟨q1, q2⟩ := ol b (by omega) eb
        rw [o2 0 (by omega), q2 0 (by omega)] at h1
        rw [o2 1 (by omega), q2 1 (by omega)] at h2
        have := iU2 _ _ o1 q1 h1 h2
        (repeat' split at this) <;> omega
  · rw [hP q 2 hq (by omega)] at h1
    rw [hP q 5 hq (by omega), hP q 6 hq (by omega)] at h2
    by_cases e : j = pl
    · subst e
      rw [nw 0 (by omega), nw 1 (by omega), a0, a1] at h2
      exact no1 q hq h1 h2
    · obtain ⟨o1, o2⟩ := ol j (by omega) e
      rw [o2 0 (by omega), o2 1 (by omega)] at h2
      exact iU3 q _ hq o1 h1 h2
end ZVI
