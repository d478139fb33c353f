/-! the view is kept: begin, minutes -/
section ZVB
variable {S S' s s' pf N : Nat → Int32} {P O L : Nat → Nat → Int32} {pi : Nat → Nat} {nS nP nO p k : Nat}
theorem nC_view (vO : VOs pi O N L S nO) (hk : k < nO) : nC N (pi k) = nk S k := by
  simp only [nC, nk, (vO k hk).2.2.2.2.2.1]
theorem it_view (vO : VOs pi O N L S nO) (iO : IvO S nS nO) (hk : k < nO) : itC pi O N L k = itsM S k := by
  have hn := (iO k hk).2.2.2.2.2.2.1
  obtain ⟨o0, o1, o2, o3, o4, o5, o6⟩ := vO k hk
  simp only [itC, itsM, nlM, nLen, nC_view vO hk, o2]
  rw [if_neg (by omega), lenW_congr (fun i hi => o6 i hi), Int32.mul_comm]
theorem fk_view (vP : VPs P S nP) (iP : IvP S nS nP) (vO : VOs pi O N L S nO) (iO : IvO S nS nO) (hk : k < nO) : fkC P pi O N L nP k = (fndK S nP k).map (·.2) := by
  simp only [fkC, fndK, it_view vO iO hk, (vO k hk).2.2.2.1]
  exact fn_view vP iP _ _
theorem go_view (vP : VPs P S nP) (iP : IvP S nS nP) (vO : VOs pi O N L S nO) (iO : IvO S nS nO) : ∀ n, n ≤ nO → goC P pi O N L nP n = (goF S nP n).map (fun x => (x.1, x.2.2))
  | 0, _ => rfl
  | n + 1, hn => by
    simp only [goC, goF, go_view vP iP vO iO n (by omega), fk_view vP iP vO iO (show n < nO by omega)]
    cases goF S nP n with
    | some x => rfl
    | none =>
      cases fndK S nP n with
      | none => rfl
      | some q => rfl
theorem ef_view (vO : VOs pi O N L S nO) (iO : IvO S nS nO) (hk : k < nO) : efC pi O N k = efM S k := by
  have h5 := (iO k hk).2.2.2.2.2.1
  obtain ⟨o0, o1, o2, o3, o4, o5, o6⟩ := vO k hk
  simp only [efC, efM, nC_view vO hk, o2, o3, ← h5]
theorem begin_view {w : Bool} (vw : Vw s P pf pi O N L S nS nP nO) (iv : Iv S nS nP nO) (h3 : S 3 = -9) (hg : goF S nP nO = some (k, w, p)) :
    Vw (tkS s P pi O N (k, p)) (tkP P pi O (k, p)) pf pi O N L (opBegin S k p w (sdF S p (sO S k 3) w)) nS nP nO ∧ Iv (opBegin S k p w (sdF S p (sO S k 3) w)) nS nP nO := by
  obtain ⟨k1, -, k3⟩ := goF_some hg
  obtain ⟨vH, vpi, vP, vF, vO⟩ := id vw
  obtain ⟨iC, iW, iP, iO, iU⟩ := id iv
  obtain ⟨c0, c1, c2, c3, c4, c5⟩ := id iC
  obtain ⟨p1, p2, -, -⟩ := fnd_lt k3
  obtain ⟨s1, s2, s3, s4⟩ := side_view vP iP k3
  have o3 := (vO k k1).2.2.2.1
  have z2 : sP S p 2 = 0 := by
    simp only [okM, Bool.and_eq_true, decide_eq_true_eq] at p2
    exact p2.1.1
  have ef := ef_view vO iO k1
  have st := st_view (c := 1) (g' := upd (P p) 2 1) vw iv p1 (by decide) (.inr h3) (VP_st (vP p p1) (by decide) (by rw [z2]; decide) (fun x hx => by rw [sP_upd (by omega) hx]; simp))
  generalize hsd : sdF S p (sO S k 3) w = sd at *
  have pd : pDep (upd (P p) 2 1) (nI sd) = dP S p sd := by rw [← s4]; simp [pDep, upd]
  obtain ⟨v3, v4, v5, v6, v7, v8, v9, v10, v11, v12⟩ := vH
  have nk9 : nI k ≠ -9 := nI_ne9 (by omega)
  -- the heads, with any effort
  have hh : ∀ e : Int32, Vw (upd (upd (upd (upd s 6 (nI k)) 7 (nI p)) 8 (nI sd)) 9 e) (va_up P p (upd (P p) 2 1)) pf pi O N L (upd (upd (upd (upd (upd S 3 (nI k)) 5 (nI p)) 6 (nI sd)) 4 e) (10 + 7 * p + 2) 1) nS nP nO ∧ Iv (upd (upd (upd (upd (upd S 3 (nI k)) 5 (nI p)) 6 (nI sd)) 4 e) (10 + 7 * p + 2) 1) nS nP nO := fun e => by
    have hx : ∀ x, x < 10 → upd (upd (upd (upd (upd S 3 (nI k)) 5 (nI p)) 6 (nI sd)) 4 e) (10 + 7 * p + 2) 1 x = upd (upd (upd (upd S 3 (nI k)) 5 (nI p)) 6 (nI sd)) 4 e x := fun x hx => upd_ne (by omega)
    refine hd_view st.1 st.2 (fun x hx => ?_) ?_ ?_ ?_
    · by_cases q : x = 10 + 7 * p + 2
      · rw [q, upd_self, upd_self]
      · rw [upd_ne q, upd_ne q, upd_ne (by omega), upd_ne (by omega), upd_ne (by omega), upd_ne (by omega)]
    · simp only [VH, hx 0 (by omega), hx 1 (by omega), hx 2 (by omega), hx 3 (by omega), hx 4 (by omega), hx 5 (by omega), hx 6 (by omega), hx 7 (by omega), hx 8 (by omega), hx 9 (by omega)]
      simp [upd, v3, v4, v5, v10, v11, v12, nk9]
    · simp only [IvC, hx 0 (by omega), hx 1 (by omega), hx 2 (by omega)]
      simp [upd, c0, c1, c2, c3, c4, c5]
    · refine .inr ⟨k, p, sd, ?_, k1, ?_, p1, ?_, s2, ?_⟩
      · rw [hx 3 (by omega)]; simp [upd]
      · rw [hx 5 (by omega)]; simp [upd]
      · rw [hx 6 (by omega)]; simp [upd]
      · rw [sP_upd (by omega) (by omega)]; simp
  cases w
  · have hb : pDep (upd (P p) 2 1) (pSF (P p) (O (pi k) 3)) = 0 := by
      rw [o3, s1, pd]
      simpa using s3
    simp only [opBegin, if_neg (show ¬ false = true by decide), tkS, tkP, bgS, bgP, if_pos hb, ef]
    rw [o3, s1]
    exact hh (efM S k)
  · have hb : ¬ pDep (upd (P p) 2 1) (pSF (P p) (O (pi k) 3)) = 0 := by
      rw [o3, s1, pd]
      simpa using s3
    simp only [opBegin, if_true, tkS, tkP, bgS, bgP, if_neg hb, ef]
    rw [o3, s1]
    obtain ⟨a, b⟩ := hh (efM S k + 10)
    obtain ⟨a', b'⟩ := grind_view (sd := sd) a b p1 s2
    rw [va_up_self, up_up] at a'
    refine ⟨Vw_s a' (fun x h1 h2 => ?_), b'⟩
    simp only [upd]
    (repeat' split) <;> first | rfl | omega
/-- the minutes that are left of an order -/
theorem min_view {v : Int32} (vw : Vw s P pf pi O N L S nS nP nO) (iv : Iv S nS nP nO) (h3 : S 3 ≠ -9) :
    Vw (upd s 9 v) P pf pi O N L (upd S 4 v) nS nP nO ∧ Iv (upd S 4 v) nS nP nO := by
  obtain ⟨v3, v4, v5, v6, v7, v8, v9, v10, v11, v12⟩ := vw.1
  obtain ⟨c0, c1, c2, c3, c4, c5⟩ := iv.1
  refine hd_view vw iv (fun x hx => upd_ne (by omega)) ?_ ?_ ?_
  · simp [VH, upd, v3, v4, v5, v6, v7, v8, v9, v10, v11, v12, h3]
  · simp [IvC, upd, c0, c1, c2, c3, c4, c5]
  · exact IvW_P iv.2.1 (by simp [upd]) (by simp [upd]) (by simp [upd]) (Nat.le_refl _) (Nat.le_refl _) (fun q _ e => by rw [sP_hd (by omega)]; exact e)
end ZVB
