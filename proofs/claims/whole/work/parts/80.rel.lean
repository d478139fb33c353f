/-! both sides: taking up, finishing -/
section ZRL
variable {i : Nat} {S s pf N g SV TX AS : Nat → Int32} {P O L R T : Nat → Nat → Int32} {pi : Nat → Nat} {nS nP nO c : Nat}
/-- at work -/
def AtW (S : Nat → Int32) (nP nO k p sd : Nat) : Prop := S 3 = nI k ∧ k < nO ∧ S 5 = nI p ∧ p < nP ∧ S 6 = nI sd ∧ sd < 2 ∧ sP S p 2 = 1
theorem IvW_at (iv : Iv S nS nP nO) (h3 : S 3 ≠ -9) : ∃ k p sd, AtW S nP nO k p sd := by
  rcases iv.2.1 with ⟨w1, -⟩ | w
  · exact absurd w1 h3
  · exact w
theorem opBegin_k {k p sd x : Nat} {w : Bool} (hx : x = 7 ∨ x = 8 ∨ x = 0 ∨ x = 1 ∨ x = 2 ∨ 150 ≤ x) (hp0 : p < 20) (hs : sd < 2) : opBegin S k p w sd x = S x := by
  cases w
  · simp only [opBegin]
    rw [if_neg (by decide), upd_ne (by omega), upd_ne (by omega), upd_ne (by omega), upd_ne (by omega), upd_ne (by omega)]
  · simp only [opBegin]
    rw [if_pos trivial, opGrind_hd' (by omega) hp0 hs, upd_ne (by omega), upd_ne (by omega), upd_ne (by omega), upd_ne (by omega), upd_ne (by omega)]
theorem hl_of (iv : Iv S nS nP nO) : ∀ k, k < nO → sO S k 5 = nI (nk S k) ∧ nk S k ≤ 12 := fun k hk => ⟨(iv.2.2.2.1 k hk).2.2.2.2.2.1, (iv.2.2.2.1 k hk).2.2.2.2.2.2.2⟩
theorem tk_rel (hi : i = 1 ∨ i = 2) (vw : Vw s P pf pi O N L (R i) nS nP nO) (iv : Iv (R i) nS nP nO) :
    (∃ s1 P1 S1 g1 k p sd, (∀ h lo, fX5_takesUpWork [.ref lo] (hS h lo s P pf pi O N L) = some (1, hS h lo s1 P1 pf pi O N L)) ∧ (∀ hm m, fX7_goesOn [.ref m, .ref (m + i)] (hM hm m g R SV TX T AS) = some (1, hM hm m g1 (va_up R i S1) SV TX T AS)) ∧ Vw s1 P1 pf pi O N L S1 nS nP nO ∧ Iv S1 nS nP nO ∧ AtW S1 nP nO k p sd ∧ (∀ x, x ≠ 7 → x ≠ 8 → x ≠ 9 → g1 x = g x) ∧ S1 7 = R i 7 ∧ (∀ j x, sO S1 j x = sO (R i) j x)) ∨
    (∃ g1, (∀ h lo, fX5_takesUpWork [.ref lo] (hS h lo s P pf pi O N L) = some (0, hS h lo s P pf pi O N L)) ∧ (∀ hm m, fX7_goesOn [.ref m, .ref (m + i)] (hM hm m g R SV TX T AS) = some (0, hM hm m g1 R SV TX T AS)) ∧ (∀ x, x ≠ 7 → x ≠ 8 → x ≠ 9 → g1 x = g x)) := by
  obtain ⟨vH, vpi, vP, vF, vO⟩ := id vw
  obtain ⟨iC, iW, iP, iO, iU⟩ := id iv
  obtain ⟨c0, c1, c2, c3, c4, c5⟩ := id iC
  have b0 : bI (decide False) = 0 := rfl
  have go := fun (hm : zH) (m : Nat) => X7_goesOn (h := hm) (m := m) (g := g) (R := R) (SV := SV) (TX := TX) (T := T) (AS := AS) hi c1 c4 c2 c5 (hl_of iv)
  have gk : ∀ x, x ≠ 7 → x ≠ 8 → x ≠ 9 → gGoes g (R i) nP nO x = g x := fun x a b e => gGoes_k a b e
  have h5 : s 5 = nI nO := by rw [vH.2.2.1, c2]
  have h3 : s 3 = nI nP := by rw [vH.1, c1]
  by_cases hz : R i 3 = -9
  · have h6 : s 6 = -9 := by rw [vH.2.2.2.1, hz]
    have hl : ∀ k, k < nO → N (pi k) = nI (nC N (pi k)) ∧ nC N (pi k) ≤ 12 := fun k hk => by
      rw [nC_view vO hk, (vO k hk).2.2.2.2.2.1]
      exact hl_of iv k hk
    have gv := go_view vP iP vO iO nO (Nat.le_refl _)
    cases hg : goF (R i) nP nO with
    | none =>
      rw [hg] at gv
      have cl := fun (h : zH) (lo : Nat) => X5_takesUp_no (h := h) (lo := lo) (s := s) (P := P) (pf := pf) (pi := pi) (O := O) (N := N) (L := L) h3 c4 h5 c5 h6 vpi.1 hl gv
      have eg : opGo (R i) nP nO = R i := by simp only [opGo, if_pos hz, hg]
      simp only [eg, up_id, decide_eq_false (fun q : R i 3 ≠ -9 => q hz)] at go
      exact .inr ⟨_, cl, go, gk⟩
    | some x =>
      obtain ⟨k, w, p⟩ := x
      rw [hg] at gv
      obtain ⟨k1, k2, k3⟩ := goF_some hg
      obtain ⟨p1, p2, -, -⟩ := fnd_lt k3
      have cl := fun (h : zH) (lo : Nat) => X5_takesUp_go (h := h) (lo := lo) (s := s) (P := P) (pf := pf) (pi := pi) (O := O) (N := N) (L := L) (k := k) (p := p) h3 c4 h5 c5 h6 vpi.1 hl gv
      obtain ⟨b1, b2⟩ := begin_view vw iv hz hg
      have hsd : sdF (R i) p (sO (R i) k 3) w < 2 := by simp only [sdF]; split <;> omega
      have eg : opGo (R i) nP nO = opBegin (R i) k p w (sdF (R i) p (sO (R i) k 3) w) := by simp only [opGo, if_pos hz, hg]
      have e3 : opBegin (R i) k p w (sdF (R i) p (sO (R i) k 3) w) 3 ≠ -9 := by rw [opBegin_3]; exact nI_ne9 (by omega)
      simp only [eg, decide_eq_true e3] at go
      obtain ⟨k', p', sd', a⟩ := IvW_at b2 e3
      exact .inl ⟨_, _, _, _, k', p', sd', cl, go, b1, b2, a, gk, opBegin_k (by omega) (by omega) hsd, fun j x => opBegin_k (by omega) (by omega) hsd⟩
  · obtain ⟨k, p, sd, a⟩ := IvW_at iv hz
    obtain ⟨a3, ak, a5, ap, -⟩ := id a
    have h6 : s 6 = nI k := by rw [vH.2.2.2.1, a3]
    have h7 : s 7 = nI p := by rw [vH.2.2.2.2.1, a5]
    have cl := fun (h : zH) (lo : Nat) => X5_takesUp_at (h := h) (lo := lo) (s := s) (P := P) (pf := pf) (pi := pi) (O := O) (N := N) (L := L) (wk_of h5 c5 h3 c4 h6 ak h7 ap)
    have eg : opGo (R i) nP nO = R i := by simp only [opGo, if_neg hz]
    simp only [eg, decide_eq_true hz] at go
    exact .inl ⟨_, _, _, _, k, p, sd, cl, go, vw, iv, a, gk, rfl, fun _ _ => rfl⟩
theorem fin_rel {k p sd : Nat} (hi : i = 1 ∨ i = 2) (vw : Vw s P pf pi O N L (R i) nS nP nO) (iv : Iv (R i) nS nP nO) (ir : IvR (R i) nO c) (a : AtW (R i) nP nO k p sd) :
    ∃ s1 P1 pi1 S1 A1 c1, (∀ h lo, fX5_finishOrder [.ref lo] (hS h lo s P pf pi O N L) = some (hS h lo s1 P1 pf pi1 O N L)) ∧ (∀ hm m, fX7_finish [.ref m, .ref (m + i)] (hM hm m g R SV TX T AS) = some (hM hm m g (va_up R i S1) SV TX T A1)) ∧ Vw s1 P1 pf pi1 O N L S1 nS nP (nO - 1) ∧ Iv S1 nS nP (nO - 1) ∧ IvR S1 (nO - 1) c1 ∧ S1 7 = R i 7 + 1 ∧ (VTg pi O (R i) nO → VTg pi1 O S1 (nO - 1)) ∧ (∀ j, j < nO - 1 → ∃ q, q < nO ∧ sO S1 j 18 = sO (R i) q 18) := by
  obtain ⟨vH, vpi, vP, vF, vO⟩ := id vw
  obtain ⟨iC, iW, iP, iO, iU⟩ := id iv
  obtain ⟨c0, c1, c2, c3, c4, c5⟩ := id iC
  obtain ⟨a3, ak, a5, ap, a6, asd, a2⟩ := id a
  obtain ⟨⟨sh, hs3, hs⟩, -⟩ := iO k ak
  have nk9 : nI k ≠ -9 := nI_ne9 (by omega)
  have h3 : s 3 = nI nP := by rw [vH.1, c1]
  have h4 : s 4 = nI nS := by rw [vH.2.1, c0]
  have h5 : s 5 = nI nO := by rw [vH.2.2.1, c2]
  have h6 : s 6 = nI k := by rw [vH.2.2.2.1, a3]
  have h7 : s 7 = nI p := by rw [vH.2.2.2.2.1, a5]
  have h8 : s 8 = nI sd := by rw [vH.2.2.2.2.2.1, if_neg (by rw [a3]; exact nk9), a6]
  obtain ⟨o0, o1, o2, o3, o4, o5, o6⟩ := vO k ak
  have cl := fun (h : zH) (lo : Nat) => X5_finishOrder (h := h) (lo := lo) (s := s) (P := P) (pf := pf) (pi := pi) (O := O) (N := N) (L := L) (k := k) (p := p) (sh := sh) (y := sO (R i) k 1) h3 c4 h4 c3 h5 c5 h6 ak h7 ap vpi.1 (by rw [o0, hs]) hs3 o1
  have rf := fun (hm : zH) (m : Nat) => X7_finish (h := hm) (m := m) (g := g) (R := R) (SV := SV) (TX := TX) (T := T) (AS := AS) (k := k) (p := p) (sd := sd) (s := sh) (y := sO (R i) k 1) hi c1 c4 c2 c5 a3 ak a5 ap a6 asd hs (by omega) rfl (fun _ => fix_has iv ak ap asd hs hs3 rfl)
  obtain ⟨f1, f2⟩ := fin_view vw iv ak ap asd hs hs3 rfl a3
  simp only [h8, o3] at cl
  have eO : ∀ j x, sO (opFin (R i) k p sd sh (sO (R i) k 1) nP nO) j x = sO (opTake (R i) k nO) j x := fun j x => by
    simp only [sO, opFin]
    rw [upd_ne (by omega)]
    exact opTake_ge (fun z hz => by rw [opRest_ge (by omega), opFix_hd (by omega) (by omega) c4, upd_ne (by omega)]) (by omega)
  refine ⟨_, _, _, _, _, _, cl, rf, f1, f2, take_R ak ir (fun j => eO j 4), ?_, fun tg => VTg_take tg ak eO, fun j hj => ⟨if j < k then j else j + 1, by split <;> omega, by rw [eO, opTake_O ak hj (by omega)]⟩⟩
  simp only [opFin]
  rw [upd_self, opRest_ge (by omega), opFix_hd (by omega) (by omega) c4, upd_ne (by omega)]
end ZRL
