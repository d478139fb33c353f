/-! the view: finding a plate -/
theorem may_view {g S : Nat → Int32} {p : Nat} (v : VP g S p) (h3 : 0 ≤ sP S p 3) (h4 : 0 ≤ sP S p 4) (d : Int32) (w : Bool) :
    decide (sdC g d w ≠ -9) = (mayM S p 0 d w || mayM S p 1 d w) ∧ (sdC g d w ≠ -9 → sdC g d w = nI (sdF S p d w)) := by
  obtain ⟨v0, v1, v2, v3, v4, v5, v6⟩ := v
  have q3 := i_pos h3
  have q4 := i_pos h4
  have n0 : (0 : Int32) ≠ -9 := by decide
  have n1 : (1 : Int32) ≠ -9 := by decide
  have e1 : nI 1 = 1 := rfl
  have e0 : nI 0 = 0 := rfl
  cases w
  · simp only [sdC, sdF, mayM, pRS, pT, rdyM, loM, dP, v1, v3, v4, if_neg (show ¬ false = true by decide), Nat.add_zero, Nat.sub_zero, show 3 + 1 = 4 from rfl, Nat.sub_self]
    have e1' : sP S p 1 - d - sP S p 4 = sP S p 1 - sP S p 4 - d := by grind
    have e2' : sP S p 1 - d - sP S p 3 = sP S p 1 - sP S p 3 - d := by grind
    by_cases ha : sP S p 3 = 0 <;> by_cases hb : sP S p 4 = 0 <;> by_cases hc : 2 ≤ sP S p 1 - sP S p 3 - sP S p 4 - d <;> (try simp [ha, hb] at hc) <;> simp [ha, hb, hc, e1', e2', n0, n1, e0, e1]
  · simp only [sdC, sdF, mayM, pSG, pT, gndM, loM, dP, v1, v3, v4, if_true, Nat.add_zero, Nat.sub_zero, show 3 + 1 = 4 from rfl, Nat.sub_self]
    rw [i_perm3, i_perm4]
    by_cases ha : sP S p 3 = 0 <;> by_cases hb : sP S p 4 = 0 <;> by_cases hc : 2 ≤ sP S p 1 - sP S p 3 - sP S p 4 - (d + 1) <;> (try simp [ha, hb] at hc) <;> simp [hc, ha, hb, q3, q4, n0, n1, e0, e1]
theorem ok_view {P : Nat → Nat → Int32} {S : Nat → Int32} {p : Nat} (v : VP (P p) S p) (h3 : 0 ≤ sP S p 3) (h4 : 0 ≤ sP S p 4) (its d : Int32) (w : Bool) : okC P its d w p = okM S its d w p := by
  have e := (may_view v h3 h4 d w).1
  obtain ⟨v0, v1, v2, v3, v4, v5, v6⟩ := v
  simp only [okC, okM, e, v2, v0]
theorem pBet_view {g g' S : Nat → Int32} {p q : Nat} (v : VP g S p) (v' : VP g' S q) (h : 0 ≤ sP S p 0) (h' : 0 ≤ sP S q 0) : pBet g g' = btM S p (some q) := by
  obtain ⟨v0, v1, -⟩ := v
  obtain ⟨w0, w1, -⟩ := v'
  simp only [pBet, btM, v0, v1, w0, w1, i_sub_lt h h', i_sub_eq]
theorem bst_view {P : Nat → Nat → Int32} {S : Nat → Int32} {nS nP : Nat} (v : VPs P S nP) (iv : IvP S nS nP) (its d : Int32) (w : Bool) : ∀ n, n ≤ nP → bsC P its d w n = bstO S its d w n
  | 0, _ => rfl
  | n + 1, hn => by
    have ih := bst_view v iv its d w n (by omega)
    obtain ⟨a0, a3, a4, -⟩ := iv n (by omega)
    have b : btC P n (bstO S its d w n) = btM S n (bstO S its d w n) := by
      cases hb : bstO S its d w n with
      | none => rfl
      | some q =>
        have hq := (bstO_lt hb).1
        exact pBet_view (v n (by omega)) (v q (by omega)) a0 (iv q (by omega)).1
    simp only [bsC, bstO, ih, b, ok_view (v n (by omega)) a3 a4]
theorem bstO_none {S : Nat → Int32} {its d : Int32} {w : Bool} : ∀ {n}, bstO S its d w n = none → ∀ p, p < n → okM S its d w p = false
  | 0, _, p, hp0 => by omega
  | n + 1, h, p, hp0 => by
    simp only [bstO] at h
    split at h
    · cases h
    · rename_i hc
      by_cases e : p = n
      · subst e
        rw [h] at hc
        simpa [btM] using hc
      · exact bstO_none h p (by omega)
theorem fn_view {P : Nat → Nat → Int32} {S : Nat → Int32} {nS nP : Nat} (v : VPs P S nP) (iv : IvP S nS nP) (its d : Int32) : fnC P its d nP = (fnd S its d nP).map (·.2) := by
  simp only [fnC, fnd, bst_view v iv its d _ nP (Nat.le_refl _)]
  cases bstO S its d false nP with
  | some p => rfl
  | none =>
    cases bstO S its d true nP with
    | some p => rfl
    | none => rfl
/-- the side that is taken, and whether it is blank -/
theorem side_view {P : Nat → Nat → Int32} {S : Nat → Int32} {nS nP p : Nat} {its d : Int32} {w : Bool} (v : VPs P S nP) (iv : IvP S nS nP) (hf : fnd S its d nP = some (w, p)) :
    pSF (P p) d = nI (sdF S p d w) ∧ sdF S p d w < 2 ∧ (decide (dP S p (sdF S p d w) = 0) = !w) ∧ pDep (P p) (nI (sdF S p d w)) = dP S p (sdF S p d w) := by
  obtain ⟨h1, h2, h3, h4⟩ := fnd_lt hf
  have vp := v p h1
  obtain ⟨a0, a3, a4, -⟩ := iv p h1
  have m := may_view vp a3 a4 d
  have hs : sdF S p d w < 2 := by simp only [sdF]; split <;> omega
  have hm : (mayM S p 0 d w || mayM S p 1 d w) = true := by
    simp only [okM, Bool.and_eq_true] at h2
    exact h2.2
  have hw : sdC (P p) d w ≠ -9 := by
    have := (m w).1
    rw [hm] at this
    exact of_decide_eq_true this
  refine ⟨?_, hs, ?_, ?_⟩
  · cases w
    · have e : pRS (P p) d ≠ -9 := hw
      simp only [pSF, if_neg e]
      exact (m false).2 hw
    · have n := bstO_none (h4 rfl) p h1
      have hq : (mayM S p 0 d false || mayM S p 1 d false) = false := by
        simp only [okM, Bool.and_eq_true] at h2
        simpa [okM, h2.1] using n
      have e : pRS (P p) d = -9 := by
        have := (m false).1
        rw [hq] at this
        simpa [sdC] using this
      simp only [pSF, if_pos e]
      exact (m true).2 hw
  · have hmm : mayM S p (sdF S p d w) d w = true := by
      simp only [sdF]
      split
      · assumption
      · rename_i hc
        simpa [Bool.eq_false_iff.mpr hc] using hm
    have q : 0 ≤ dP S p (sdF S p d w) := by
      rcases (show sdF S p d w = 0 ∨ sdF S p d w = 1 by omega) with e | e <;> rw [e]
      · exact a3
      · exact a4
    cases w
    · simp only [mayM, rdyM, if_neg (show ¬ false = true by decide), Bool.and_eq_true] at hmm
      exact hmm.1
    · simp only [mayM, gndM, if_true, Bool.and_eq_true] at hmm
      have := (i_pos q).mp (of_decide_eq_true hmm.1)
      simp [this]
  · obtain ⟨v0, v1, v2, v3, v4, v5, v6⟩ := vp
    rcases (show sdF S p d w = 0 ∨ sdF S p d w = 1 by omega) with e | e <;> rw [e]
    · simp [pDep, dP, v3, nI_0]
    · simp [pDep, dP, v4, show nI 1 = 1 from rfl]
