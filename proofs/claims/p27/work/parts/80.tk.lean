/-! the class: taking up, finishing; as functions of the row -/
section ZRL
variable {i : Nat} {S s pf N : Nat → Int32} {P O L : Nat → Nat → Int32} {pi : Nat → Nat} {nS nP nO c : Nat}
/-- at work -/
def AtW (S : Nat → Int32) (nP nO k p sd : Nat) : Prop := S 3 = nI k ∧ k < nO ∧ S 5 = nI p ∧ p < nP ∧ S 6 = nI sd ∧ sd < 2 ∧ sP S p 2 = 1
theorem IvW_at (iv : Iv S nS nP nO) (h3 : S 3 ≠ -9) : ∃ k p sd, AtW S nP nO k p sd := by
  rcases iv.2.1 with ⟨w1, -⟩ | w
  · exact absurd w1 h3
  · exact w
theorem opBegin_k {k p sd x : Nat} {w : Bool} (hx : x = 7 ∨ x = 8 ∨ x = 0 ∨ x = 1 ∨ x = 2 ∨ 150 ≤ x) (hp0 : p < 20) (hs : sd < 2) : opBegin S k p w sd x = S x := by
  cases w
  · simp only [opBegin]
    rw [if_neg (by decide), upd_ne (by omega), upd_ne (by omega), upd_ne (by omega), upd_ne (by omega), upd_ne (by omega)]
  · simp only [opBegin]
    rw [if_pos trivial, opGrind_hd' (by omega) hp0 hs, upd_ne (by omega), upd_ne (by omega), upd_ne (by omega), upd_ne (by omega), upd_ne (by omega)]
theorem hl_of (iv : Iv S nS nP nO) : ∀ k, k < nO → sO S k 5 = nI (nk S k) ∧ nk S k ≤ 12 := fun k hk => ⟨(iv.2.2.2.1 k hk).2.2.2.2.2.1, (iv.2.2.2.1 k hk).2.2.2.2.2.2.2⟩
/-- what taking up makes of the row: both cases -/
theorem opGo_cases (iv : Iv S nS nP nO) : (S 3 ≠ -9 ∧ opGo S nP nO = S) ∨ (S 3 = -9 ∧ goF S nP nO = none ∧ opGo S nP nO = S) ∨ (S 3 = -9 ∧ ∃ k w p, goF S nP nO = some (k, w, p) ∧ k < nO ∧ p < nP ∧ sdF S p (sO S k 3) w < 2 ∧ opGo S nP nO = opBegin S k p w (sdF S p (sO S k 3) w)) := by
  by_cases hz : S 3 = -9
  · refine .inr ?_
    cases hg : goF S nP nO with
    | none => exact .inl ⟨hz, rfl, by simp only [opGo, if_pos hz, hg]⟩
    | some x =>
      obtain ⟨k, w, p⟩ := x
      obtain ⟨k1, k2, k3⟩ := goF_some hg
      obtain ⟨p1, p2, -, -⟩ := fnd_lt k3
      exact .inr ⟨hz, k, w, p, rfl, k1, p1, by simp only [sdF]; split <;> omega, by simp only [opGo, if_pos hz, hg]⟩
  · exact .inl ⟨hz, by simp only [opGo, if_neg hz]⟩
theorem opGo_k (iv : Iv S nS nP nO) {x : Nat} (hx : x = 7 ∨ x = 8 ∨ x = 0 ∨ x = 1 ∨ x = 2 ∨ 150 ≤ x) : opGo S nP nO x = S x := by
  have hn := iv.1.2.2.2.2.1
  rcases opGo_cases iv with ⟨-, e⟩ | ⟨-, -, e⟩ | ⟨-, k, w, p, -, -, hp0, hs, e⟩
  · rw [e]
  · rw [e]
  · rw [e, opBegin_k hx (by omega) hs]
theorem tk_cl (vw : Vw s P pf pi O N L S nS nP nO) (iv : Iv S nS nP nO) :
    ∃ s1 P1, (∀ h lo, fX5_takesUpWork [.ref lo] (hS h lo s P pf pi O N L) = some (bI (decide (opGo S nP nO 3 ≠ -9)), hS h lo s1 P1 pf pi O N L)) ∧ Vw s1 P1 pf pi O N L (opGo S nP nO) nS nP nO ∧ Iv (opGo S nP nO) nS nP nO := by
  obtain ⟨vH, vpi, vP, vF, vO⟩ := id vw
  obtain ⟨iC, iW, iP, iO, iU⟩ := id iv
  obtain ⟨c0, c1, c2, c3, c4, c5⟩ := id iC
  have h5 : s 5 = nI nO := by rw [vH.2.2.1, c2]
  have h3 : s 3 = nI nP := by rw [vH.1, c1]
  have hl : ∀ k, k < nO → N (pi k) = nI (nC N (pi k)) ∧ nC N (pi k) ≤ 12 := fun k hk => by
    rw [nC_view vO hk, (vO k hk).2.2.2.2.2.1]
    exact hl_of iv k hk
  have gv := go_view vP iP vO iO nO (Nat.le_refl _)
  rcases opGo_cases iv with ⟨hz, e⟩ | ⟨hz, hg, e⟩ | ⟨hz, k, w, p, hg, hk, hp0, hs, e⟩
  · obtain ⟨k, p, sd, a⟩ := IvW_at iv hz
    obtain ⟨a3, ak, a5, ap, -⟩ := id a
    have h6 : s 6 = nI k := by rw [vH.2.2.2.1, a3]
    have h7 : s 7 = nI p := by rw [vH.2.2.2.2.1, a5]
    refine ⟨s, P, fun h lo => ?_, by rw [e]; exact vw, by rw [e]; exact iv⟩
    rw [e, decide_eq_true hz]
    exact X5_takesUp_at (wk_of h5 c5 h3 c4 h6 ak h7 ap)
  · have h6 : s 6 = -9 := by rw [vH.2.2.2.1, hz]
    rw [hg] at gv
    refine ⟨s, P, fun h lo => ?_, by rw [e]; exact vw, by rw [e]; exact iv⟩
    rw [e, decide_eq_false (fun q : S 3 ≠ -9 => q hz)]
    exact X5_takesUp_no h3 c4 h5 c5 h6 vpi.1 hl gv
  · have h6 : s 6 = -9 := by rw [vH.2.2.2.1, hz]
    rw [hg] at gv
    obtain ⟨b1, b2⟩ := begin_view vw iv hz hg
    have e3 : opBegin S k p w (sdF S p (sO S k 3) w) 3 ≠ -9 := by rw [opBegin_3]; exact nI_ne9 (by omega)
    refine ⟨_, _, fun h lo => ?_, by rw [e]; exact b1, by rw [e]; exact b2⟩
    rw [e, decide_eq_true e3]
    exact X5_takesUp_go (k := k) (p := p) h3 c4 h5 c5 h6 vpi.1 hl gv
/-- the order at work is done -/
def finR (S : Nat → Int32) (nP nO : Nat) : Nat → Int32 := opFin S (S 3).toNatClampNeg (S 5).toNatClampNeg (S 6).toNatClampNeg (sO S (S 3).toNatClampNeg 0).toNatClampNeg (sO S (S 3).toNatClampNeg 1) nP nO
theorem finR_eq {k p sd sh : Nat} (iv : Iv S nS nP nO) (a : AtW S nP nO k p sd) (hs : sO S k 0 = nI sh) (hs3 : sh < nS) : finR S nP nO = opFin S k p sd sh (sO S k 1) nP nO := by
  obtain ⟨c0, c1, c2, c3, c4, c5⟩ := iv.1
  obtain ⟨a3, ak, a5, ap, a6, asd, a2⟩ := a
  simp only [finR, a3, a5, a6, nI_clamp (show k < 2 ^ 31 by omega), nI_clamp (show p < 2 ^ 31 by omega), nI_clamp (show sd < 2 ^ 31 by omega), hs, nI_clamp (show sh < 2 ^ 31 by omega)]
theorem opFin_O {k p sd sh : Nat} {y : Int32} (hn : nP ≤ 20) (hp0 : p < 20) (hs : sd < 2) : ∀ j x, sO (opFin S k p sd sh y nP nO) j x = sO (opTake S k nO) j x := fun j x => by
  simp only [sO, opFin]
  rw [upd_ne (by omega)]
  exact opTake_ge (fun z hz => by rw [opRest_ge (by omega), opFix_hd (by omega) (by omega) hn, upd_ne (by omega)]) (by omega)
theorem opFin_7 {k p sd sh : Nat} {y : Int32} (hn : nP ≤ 20) (hp0 : p < 20) (hs : sd < 2) : opFin S k p sd sh y nP nO 7 = S 7 + 1 := by
  simp only [opFin]
  rw [upd_self, opRest_ge (by omega), opFix_hd (by omega) (by omega) hn, upd_ne (by omega)]
theorem fin_cl {k p sd : Nat} (vw : Vw s P pf pi O N L S nS nP nO) (iv : Iv S nS nP nO) (ir : IvR S nO c) (a : AtW S nP nO k p sd) :
    ∃ s1 P1 pi1 c1, (∀ h lo, fX5_finishOrder [.ref lo] (hS h lo s P pf pi O N L) = some (hS h lo s1 P1 pf pi1 O N L)) ∧ Vw s1 P1 pf pi1 O N L (finR S nP nO) nS nP (nO - 1) ∧ Iv (finR S nP nO) nS nP (nO - 1) ∧ IvR (finR S nP nO) (nO - 1) c1 ∧ (finR S nP nO) 7 = S 7 + 1 ∧ (VTg pi O S nO → VTg pi1 O (finR S nP nO) (nO - 1)) ∧ (∀ j x, sO (finR S nP nO) j x = sO (opTake S k nO) j x) := by
  obtain ⟨vH, vpi, vP, vF, vO⟩ := id vw
  obtain ⟨iC, iW, iP, iO, iU⟩ := id iv
  obtain ⟨c0, c1, c2, c3, c4, c5⟩ := id iC
  obtain ⟨a3, ak, a5, ap, a6, asd, a2⟩ := id a
  obtain ⟨⟨sh, hs3, hs⟩, -⟩ := iO k ak
  have nk9 : nI k ≠ -9 := nI_ne9 (by omega)
  have h3 : s 3 = nI nP := by rw [vH.1, c1]
  have h4 : s 4 = nI nS := by rw [vH.2.1, c0]
  have h5 : s 5 = nI nO := by rw [vH.2.2.1, c2]
  have h6 : s 6 = nI k := by rw [vH.2.2.2.1, a3]
  have h7 : s 7 = nI p := by rw [vH.2.2.2.2.1, a5]
  have h8 : s 8 = nI sd := by rw [vH.2.2.2.2.2.1, if_neg (by rw [a3]; exact nk9), a6]
  obtain ⟨o0, o1, o2, o3, o4, o5, o6⟩ := vO k ak
  have cl := fun (h : zH) (lo : Nat) => X5_finishOrder (h := h) (lo := lo) (s := s) (P := P) (pf := pf) (pi := pi) (O := O) (N := N) (L := L) (k := k) (p := p) (sh := sh) (y := sO S k 1) h3 c4 h4 c3 h5 c5 h6 ak h7 ap vpi.1 (by rw [o0, hs]) hs3 o1
  obtain ⟨f1, f2⟩ := fin_view vw iv ak ap asd hs hs3 rfl a3
  simp only [h8, o3] at cl
  have eO := opFin_O (S := S) (nO := nO) (k := k) (p := p) (sd := sd) (sh := sh) (y := sO S k 1) c4 (by omega) asd
  rw [finR_eq iv a hs hs3]
  exact ⟨_, _, _, _, cl, f1, f2, take_R ak ir (fun j => eO j 4), opFin_7 c4 (by omega) asd, fun tg => VTg_take tg ak eO, eO⟩
end ZRL
