/-! work, and forecasts beside it -/
section ZI5
variable {S S' A : Nat → Int32} {nS nP nO nO' c k p sd sh : Nat} {y : Int32}
theorem EJ_fin (iv : Iv S nS nP nO) (ir : IvR S nO c) (e : EJ S nS nP nO) (a : AtW S nP nO k p sd) : EJ (finR S nP nO) nS nP (nO - 1) := by
  obtain ⟨⟨sh, hs3, hs⟩, -⟩ := iv.2.2.2.1 k a.2.1
  obtain ⟨⟨q1, q2, q3⟩, -, -⟩ := fin_all iv e a hs hs3
  obtain ⟨-, -, -, qO⟩ := Iv_fin iv ir a
  refine ⟨q1, .inl q2, fun j hj => ?_, q3⟩
  have hk := a.2.1
  rw [qO, qO, qO, opTake_O hk hj (by omega), opTake_O hk hj (by omega), opTake_O hk hj (by omega)]
  exact e.2.2.1 _ (by split <;> omega)
/-! the minutes left do not matter to a finishing -/
theorem upd_comm {S : Nat → Int32} {a b : Nat} {v w : Int32} (h : a ≠ b) : upd (upd S a v) b w = upd (upd S b w) a v := by
  funext x
  simp only [upd]
  by_cases h1 : x = a
  · by_cases h2 : x = b
    · exact absurd (h1.symm.trans h2) h
    · simp [h1, h]
  · simp [h1]
theorem onS_4 {v sh : Int32} : onS (upd S 4 v) sh = onS S sh := by
  funext q
  simp only [onS, sP_hd (show 4 < 10 by omega)]
theorem onY_4 {v sh y : Int32} : onY (upd S 4 v) sh y = onY S sh y := by
  funext q
  simp only [onY, onS_4, sP_hd (show 4 < 10 by omega)]
theorem earO_4 {v : Int32} : earO (upd S 4 v) k nP = earO S k nP := by
  simp only [earO, onY_4, onS_4, sP_hd (show 4 < 10 by omega)]
theorem opFix0_4 {v : Int32} : opFix0 (upd S 4 v) p k y = upd (opFix0 S p k y) 4 v := by
  simp only [opFix0]
  rw [upd_comm (show 4 ≠ 10 + 7 * p + 2 by omega), upd_comm (show 4 ≠ 10 + 7 * p + 5 by omega), upd_comm (show 4 ≠ 10 + 7 * p + 6 by omega)]
theorem opFix_4 {v : Int32} : opFix (upd S 4 v) p k y nP = upd (opFix S p k y nP) 4 v := by
  simp only [opFix, opFix0_4, onS_4, earO_4]
  rw [upd_ne (show 150 + k ≠ 4 by omega)]
  split
  · cases earO (opFix0 S p k y) k nP with
    | none => rfl
    | some q =>
      simp only [opOut]
      rw [upd_comm (show 4 ≠ 10 + 7 * q + 2 by omega)]
  · rfl
theorem opRest_4 {v : Int32} : opRest (upd S 4 v) = opRest S := by
  funext x
  simp only [opRest, upd]
  (repeat' split) <;> first | rfl | omega
theorem finR_4 {v : Int32} : finR (upd S 4 v) nP nO = finR S nP nO := by
  simp only [finR, opFin]
  rw [upd_ne (show 3 ≠ 4 by omega), upd_ne (show 5 ≠ 4 by omega), upd_ne (show 6 ≠ 4 by omega)]
  simp only [sO_upd (show 4 < 153 by omega)]
  rw [upd_comm (show 4 ≠ 10 + 7 * (S 5).toNatClampNeg + (3 + (S 6).toNatClampNeg) by omega), opFix_4, opRest_4]
theorem EJ_work : ∀ (n : Nat) (S : Nat → Int32) (c : Nat) (left : Int32), Iv S nS nP n → IvR S n c → EJ S nS nP n → ∃ n1, Iv (wkR nP (n + 1) left S n) nS nP n1 ∧ EJ (wkR nP (n + 1) left S n) nS nP n1 := by
  intro n
  induction n with
  | zero =>
    intro S c left iv ir e
    have hz : ¬ opGo S nP 0 3 ≠ -9 := fun q => by
      obtain ⟨k, p, sd, a⟩ := IvW_at (Iv_go iv) q
      exact absurd a.2.1 (by omega)
    have ew : wkR nP 1 left S 0 = S := by simp only [wkR]; rw [if_neg (fun q => hz q.2)]
    rw [ew]
    exact ⟨0, iv, e⟩
  | succ n ih =>
    intro S c left iv ir e
    rw [wkR]
    by_cases h : 0 < left ∧ opGo S nP (n + 1) 3 ≠ -9
    · obtain ⟨hl, hz⟩ := h
      rw [if_pos ⟨hl, hz⟩]
      have iG := Iv_go iv
      have eG := EJ_go iv e
      have rG := R_go iv ir
      obtain ⟨k, p, sd, a⟩ := IvW_at iG hz
      have b4 := (EW_at iG eG.2.1 a).2.2.2
      by_cases hlt : left < opGo S nP (n + 1) 4
      · rw [if_pos hlt]
        have l0 := i_lt.mp hl
        have l1 := i_lt.mp hlt
        rw [i_0] at l0
        have es : (opGo S nP (n + 1) 4 - left).toInt = (opGo S nP (n + 1) 4).toInt - left.toInt := i_subB (by omega) (by omega) (by omega) (by omega)
        exact ⟨n + 1, Iv_min iG hz, EJ_min iG eG a (by omega)⟩
      · rw [if_neg hlt, Nat.add_sub_cancel]
        have i4 := Iv_min (v := 0) iG hz
        have a4 := AtW_4 (v := 0) a
        obtain ⟨i5, ⟨c5, r5⟩, -, -⟩ := Iv_fin i4 (R_4 rG) a4
        have e5 := EJ_fin iG rG eG a
        rw [← finR_4 (v := 0)] at e5
        rw [Nat.add_sub_cancel] at i5 r5 e5
        exact ih _ _ _ i5 r5 e5
    · rw [if_neg h]
      exact ⟨n + 1, iv, e⟩
/-- tags -/
theorem wkR_0 {left : Int32} (h : ¬ 0 < left) : ∀ n, wkR nP n left S nO = S
  | 0 => rfl
  | n + 1 => by rw [wkR, if_neg (fun q => h q.1)]
/-- where the forecast names a minute for a tag, work of so many minutes ends with that order -/
theorem fore_work : ∀ (n : Nat) (S : Nat → Int32) (c : Nat) (t : Int32) (D : Nat → Int32) (j : Nat), Iv S nS nP n → IvR S n c → EJ S nS nP n → TgR S n → j < 10 →
    fcR nP (n + 1) t S n D j = D j ∨ ∃ G k p sd n1 x c1, Iv G nS nP n1 ∧ IvR G n1 c1 ∧ EJ G nS nP n1 ∧ AtW G nP n1 k p sd ∧ sO G k 18 = nI j ∧ n1 ≤ n ∧ fcR nP (n + 1) t S n D j = t + x ∧ 0 < x.toInt ∧ x.toInt ≤ 118 * (n : Int) ∧ (∀ N, n + 1 ≤ N → wkR nP N x S n = finR G nP n1) ∧ (∃ k0, k0 < n ∧ ∀ z, z < 19 → sO G k z = sO S k0 z) ∧ ∀ z, z < 3 → G (150 + z) = S (150 + z) := by
  intro n
  induction n with
  | zero =>
    intro S c t D j iv ir e tr hj
    have hz : ¬ opGo S nP 0 3 ≠ -9 := fun q => by
      obtain ⟨k, p, sd, a⟩ := IvW_at (Iv_go iv) q
      exact absurd a.2.1 (by omega)
    exact .inl (by rw [fcR, if_neg hz])
  | succ n ih =>
    intro S c t D j iv ir e tr hj
    by_cases hz : opGo S nP (n + 1) 3 ≠ -9
    · have iG := Iv_go iv
      have eG := EJ_go iv e
      have rG := R_go iv ir
      have qO : ∀ j x, sO (opGo S nP (n + 1)) j x = sO S j x := fun j x => opGo_k iv (by omega)
      have q15 : ∀ z, z < 3 → opGo S nP (n + 1) (150 + z) = S (150 + z) := fun z hz => opGo_k iv (by omega)
      obtain ⟨k, p, sd, a⟩ := IvW_at iG hz
      obtain ⟨-, -, -, b4, b5⟩ := EW_at iG eG.2.1 a
      have n10 := iv.1.2.2.2.2.2
      have hk := a.2.1
      obtain ⟨ta, hta, eta⟩ := tr k hk
      rw [← qO k 18] at eta
      have ew : fcR nP (n + 1 + 1) t S (n + 1) D = fcR nP (n + 1) (t + opGo S nP (n + 1) 4) (finR (opGo S nP (n + 1)) nP (n + 1)) n (upd D ta (t + opGo S nP (n + 1) 4)) := by
        rw [fcR, if_pos hz, Nat.add_sub_cancel, a.1, nI_clamp (show k < 2 ^ 31 by omega), eta, nI_clamp (show ta < 2 ^ 31 by omega)]
      have w0 : (0 : Int32) < opGo S nP (n + 1) 4 := by rw [i_lt, i_0]; exact b4
      obtain ⟨i5, ⟨c5, r5⟩, -, o5⟩ := Iv_fin iG rG a
      have e5 := EJ_fin iG rG eG a
      have l5 := (fun h => (fin_all iG eG a h.2 h.1).2.1) (show (iG.2.2.2.1 k hk).1.choose < nS ∧ sO (opGo S nP (n + 1)) k 0 = nI (iG.2.2.2.1 k hk).1.choose from (iG.2.2.2.1 k hk).1.choose_spec)
      rw [Nat.add_sub_cancel] at i5 r5 e5
      have t5 : TgR (finR (opGo S nP (n + 1)) nP (n + 1)) n := fun q hq => by
        rw [o5, opTake_O hk (by omega) (by omega), qO]
        exact tr _ (by split <;> omega)
      rw [ew]
      rcases ih (finR (opGo S nP (n + 1)) nP (n + 1)) c5 (t + opGo S nP (n + 1) 4) (upd D ta (t + opGo S nP (n + 1) 4)) j i5 r5 e5 t5 hj with h | ⟨G, k', p', sd', n1, x, c1, g1, g2, g3, g4, g5, g6, g7, g8, g9, g10, ⟨k0, hk0, g11⟩, g12⟩
      · rw [h]
        by_cases ej : j = ta
        · subst ej
          refine .inr ⟨opGo S nP (n + 1), k, p, sd, n + 1, opGo S nP (n + 1) 4, c, iG, rG, eG, a, eta, Nat.le_refl _, by rw [upd_self], b4, by omega, fun N hN => ?_, ⟨k, hk, fun z _ => qO k z⟩, q15⟩
          obtain ⟨N, rfl⟩ : ∃ m, N = m + 1 := ⟨N - 1, by omega⟩
          have nl : ¬ opGo S nP (n + 1) 4 < opGo S nP (n + 1) 4 := by rw [i_lt]; omega
          rw [wkR, if_pos ⟨w0, hz⟩, if_neg nl, Int32.sub_self, wkR_0 (by decide), finR_4]
        · exact .inl (upd_ne ej)
      · have xs : (opGo S nP (n + 1) 4 + x).toInt = (opGo S nP (n + 1) 4).toInt + x.toInt := i_addB (by omega) (by omega) (by omega) (by omega)
        refine .inr ⟨G, k', p', sd', n1, opGo S nP (n + 1) 4 + x, c1, g1, g2, g3, g4, g5, by omega, by rw [g7]; grind, by omega, by omega, fun N hN => ?_, ⟨if k0 < k then k0 else k0 + 1, by split <;> omega, fun z hz => by rw [g11 z hz, o5, opTake_O hk (by omega) hz, qO]⟩, fun z hz => by rw [g12 z hz, l5 z hz, q15 z hz]⟩
        obtain ⟨N, rfl⟩ : ∃ m, N = m + 1 := ⟨N - 1, by omega⟩
        have nl : ¬ opGo S nP (n + 1) 4 + x < opGo S nP (n + 1) 4 := by rw [i_lt]; omega
        have gp : (0 : Int32) < opGo S nP (n + 1) 4 + x := by rw [i_lt, i_0]; omega
        have es : opGo S nP (n + 1) 4 + x - opGo S nP (n + 1) 4 = x := by grind
        rw [wkR, if_pos ⟨gp, hz⟩, if_neg nl, es, finR_4, Nat.add_sub_cancel]
        exact g10 N (by omega)
    · exact .inl (by rw [fcR, if_neg hz])
end ZI5
