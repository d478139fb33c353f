/-! the view of a copy -/
section ZVY
variable {S s pf N s' pf' N' : Nat → Int32} {P O L P' O' L' : Nat → Nat → Int32} {pi pi' : Nat → Nat} {nS nP nO : Nat}
theorem cpO_ge (hpi : PI pi) : ∀ n, n ≤ 10 → ∀ k, n ≤ k → k < 10 → cpO O O' pi pi' n (pi k) = O (pi k) ∧ cpN N N' pi pi' n (pi k) = N (pi k) ∧ cpL L L' pi pi' n (pi k) = L (pi k)
  | 0, _, k, _, _ => ⟨rfl, rfl, rfl⟩
  | n + 1, hn, k, h1, h2 => by
    have ne : pi k ≠ pi n := fun e => by have := hpi.2 _ _ h2 (by omega) e; omega
    simp only [cpO, cpN, cpL]
    rw [va_up_ne _ _ ne, va_up_ne _ _ ne, va_up_ne _ _ ne]
    exact cpO_ge hpi n (by omega) k (by omega) h2
theorem cpO_at (hpi : PI pi) : ∀ n, n ≤ 10 → ∀ k, k < n → cpO O O' pi pi' n (pi k) = cp5 (O (pi k)) (O' (pi' k)) ∧ cpN N N' pi pi' n (pi k) = N' (pi' k) ∧ cpL L L' pi pi' n (pi k) = cpTo (L (pi k)) (L' (pi' k)) 12
  | 0, _, k, h => by omega
  | n + 1, hn, k, h => by
    simp only [cpO, cpN, cpL]
    by_cases e : k = n
    · subst e
      obtain ⟨a, b, c⟩ := cpO_ge (O := O) (O' := O') (N := N) (N' := N') (L := L) (L' := L') (pi' := pi') hpi k (by omega) k (Nat.le_refl _) (by omega)
      rw [va_up_self, va_up_self, va_up_self, a, c]
      exact ⟨rfl, rfl, rfl⟩
    · have ne : pi k ≠ pi n := fun q => by have := hpi.2 _ _ (by omega) (by omega) q; omega
      rw [va_up_ne _ _ ne, va_up_ne _ _ ne, va_up_ne _ _ ne]
      exact cpO_at hpi n (by omega) k (by omega)
theorem copy_view (hpi : PI pi) (vw : Vw s' P' pf' pi' O' N' L' S nS nP nO) (iv : Iv S nS nP nO) :
    Vw (cpS s s') (cpP P P' nP) (cpTo pf pf' nS) pi (cpO O O' pi pi' nO) (cpN N N' pi pi' nO) (cpL L L' pi pi' nO) S nS nP nO := by
  obtain ⟨vH, vpi, vP, vF, vO⟩ := vw
  have h10 := iv.1.2.2.2.2.2
  refine ⟨?_, hpi, fun p hp0 => ?_, fun j hj => ?_, fun k hk => ?_⟩
  · simp only [VH, cpS_at (show 3 ≤ 3 by omega) (show 3 ≤ 12 by omega), cpS_at (show 3 ≤ 4 by omega) (show 4 ≤ 12 by omega), cpS_at (show 3 ≤ 5 by omega) (show 5 ≤ 12 by omega), cpS_at (show 3 ≤ 6 by omega) (show 6 ≤ 12 by omega), cpS_at (show 3 ≤ 7 by omega) (show 7 ≤ 12 by omega), cpS_at (show 3 ≤ 8 by omega) (show 8 ≤ 12 by omega), cpS_at (show 3 ≤ 9 by omega) (show 9 ≤ 12 by omega), cpS_at (show 3 ≤ 10 by omega) (show 10 ≤ 12 by omega), cpS_at (show 3 ≤ 11 by omega) (show 11 ≤ 12 by omega), cpS_at (show 3 ≤ 12 by omega) (show 12 ≤ 12 by omega)]
    exact vH
  · simp only [cpP]
    rw [if_pos hp0]
    exact vP p hp0
  · simp only [cpTo]
    rw [if_pos hj]
    exact vF j hj
  · obtain ⟨a, b, c⟩ := cpO_at (O := O) (O' := O') (N := N) (N' := N') (L := L) (L' := L') (pi' := pi') hpi nO h10 k hk
    rw [a, b, c]
    obtain ⟨o0, o1, o2, o3, o4, o5, o6⟩ := vO k hk
    have n12 := (iv.2.2.2.1 k hk).2.2.2.2.2.2.2
    refine ⟨by simp [cp5, upd, o0], by simp [cp5, upd, o1], by simp [cp5, upd, o2], by simp [cp5, upd, o3], by simp [cp5, upd, o4], o5, fun x hx => ?_⟩
    simp only [cpTo]
    rw [if_pos (by omega)]
    exact o6 x hx
/-- what a copy asks of its source -/
theorem copy_ok (vw : Vw s' P' pf' pi' O' N' L' S nS nP nO) (iv : Iv S nS nP nO) : s' 3 = nI nP ∧ s' 4 = nI nS ∧ s' 5 = nI nO ∧ (∀ k, k < nO → N' (pi' k) = nI (nC N' (pi' k))) ∧ (∀ k, k < nO → O' (pi' k) 4 = 0 ∨ O' (pi' k) 4 = 1) := by
  obtain ⟨vH, vpi, vP, vF, vO⟩ := vw
  obtain ⟨c0, c1, c2, -⟩ := iv.1
  refine ⟨by rw [vH.1, c1], by rw [vH.2.1, c0], by rw [vH.2.2.1, c2], fun k hk => ?_, fun k hk => ?_⟩
  · rw [nC_view vO hk, (vO k hk).2.2.2.2.2.1]
    exact (hl_of iv k hk).1
  · rw [(vO k hk).2.2.2.2.1]
    exact (iv.2.2.2.1 k hk).2.2.2.2.1
/-- a copy, as it is seen -/
theorem copy_rel {a lo : Nat} (hpi : PI pi) (d : a + 54 ≤ lo ∨ lo + 54 ≤ a) (vw : Vw s' P' pf' pi' O' N' L' S nS nP nO) (iv : Iv S nS nP nO) :
    ∃ s1 P1 pf1 O1 N1 L1, (∀ h, At h a s' P' pf' pi' O' N' L' → fX5_copyFrom [.ref lo, .ref a] (hS h lo s P pf pi O N L) = some (hS h lo s1 P1 pf1 pi O1 N1 L1)) ∧ Vw s1 P1 pf1 pi O1 N1 L1 S nS nP nO := by
  obtain ⟨h3, h4, h5, hN, hr⟩ := copy_ok vw iv
  obtain ⟨c0, c1, c2, c3, c4, c5⟩ := iv.1
  exact ⟨_, _, _, _, _, _, fun h e => X5_copyAt e d h3 c4 h4 c3 h5 c5 hpi.1 vw.2.1.1 hN hr, copy_view hpi vw iv⟩
end ZVY
