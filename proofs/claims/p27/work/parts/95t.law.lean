/-! the body of the law: the data, the shields, the tags of a row -/
def cellN (L : Nat) (xs : Nat → Int32) (k : Nat) : Int32 := if k < L then xs k else 7919 * (nI k + 3) * (nI k + 11)
section ZL1
variable {h : zH} {b L t nS nP nO c nt k : Nat} {xs : Nat → Int32} {S TX : Nat → Int32} {v : Int32}
theorem L_cell (hb : h.2 b = some (xS L xs)) (hL : L ≤ 260) (hk : k < 100) : fL_cell [.ref b, .int (nI k)] h = some (cellN L xs k, h) := by
  have sl : rdSL h b = some (nI L) := by simp only [rdSL, hb]
  have o := o_lt_nI (a := k) (b := L) (by omega) (by omega)
  by_cases hk : k < L
  · have rr := rdS_of hb hk (by omega)
    rw [decide_eq_true hk] at o
    simp [fL_cell, bL_cell, mI, sRi, eT, bCmp, eL, eSL, rL, sl, o, eS, rr, cellN, hk]
  · rw [decide_eq_false hk] at o
    simp [fL_cell, bL_cell, mI, sRi, eT, bCmp, eL, eSL, rL, sl, o, eOp, eC, cellN, hk]
theorem EJ_start : EJ S00 0 0 0 := ⟨fun p hp0 => absurd hp0 (by omega), .inl ⟨rfl, fun p hp0 => absurd hp0 (by omega)⟩, fun k hk => absurd hk (by omega), fun j hj => absurd hj (by omega)⟩
theorem EJ_hang {w : Int32} (e : EJ S nS 0 0) (h3 : S 3 = -9) (h1 : 2 ≤ w.toInt) (h2 : w.toInt ≤ 6) : EJ (opHang S nS w) (nS + 1) 0 0 := by
  refine ⟨fun p hp0 => absurd hp0 (by omega), .inl ⟨?_, fun p hp0 => absurd hp0 (by omega)⟩, fun k hk => absurd hk (by omega), fun j hj => ?_⟩
  · simp only [opHang]
    rw [upd_ne (by omega), upd_ne (by omega)]
    exact h3
  · have z : ∀ B : Nat → Bool, cntN B 0 = 0 := fun _ => rfl
    rw [z]
    by_cases ej : j = nS
    · subst ej
      simp only [opHang]
      rw [upd_ne (by omega), upd_self]
      omega
    · obtain ⟨a1, a2, a3⟩ := e.2.2.2 j (by omega)
      simp only [opHang]
      rw [upd_ne (by omega), upd_ne (by omega)]
      omega
theorem hang_3 {w : Int32} (h3 : S 3 = -9) : opHang S nS w 3 = -9 := by
  simp only [opHang]
  rw [upd_ne (by omega), upd_ne (by omega)]
  exact h3
/-- the row with its tags -/
theorem tag_Vw {s pf N : Nat → Int32} {P O L' : Nat → Nat → Int32} {pi : Nat → Nat} (vw : Vw s P pf pi O N L' S nS nP nO) (iv : Iv S nS nP nO) : Vw s P pf pi O N L' (tgS S nO) nS nP nO := by
  obtain ⟨vH, vpi, vP, vF, vO⟩ := vw
  obtain ⟨c0, c1, c2, c3, c4, c5⟩ := iv.1
  have hd : ∀ x, x < 153 → tgS S nO x = S x := fun x hx => tgS_hd hx nO
  refine ⟨VH_eq vH (fun x hx => hd x (by omega)), vpi, VPs_eq c4 (fun q x hq hx => hd _ (by omega)) vP, VFs_eq vF (fun j hj => hd _ (by omega)) c3, fun k hk => ?_⟩
  exact VO_eq (S' := tgS S nO) (k' := k) (fun x hx => by rw [tgS_O (by omega), if_neg (by omega)]) (vO k hk) (iv.2.2.2.1 k hk).2.2.2.2.2.2.2
theorem tag_Iv (iv : Iv S nS nP nO) (ir : IvR S nO c) : Iv (tgS S nO) nS nP nO ∧ IvR (tgS S nO) nO c := by
  obtain ⟨s, P, pf, pi, O, N, L', vw⟩ := Vw_ex iv
  obtain ⟨-, i1, i2, -, -⟩ := try_view (W := S) vw iv ir
  rw [cpTo_self] at i1 i2
  exact ⟨i1, i2⟩
theorem tag_J (j : J S nP nO c) : J (tgS S nO) nP nO c := by
  obtain ⟨iv, ir, ej, h1⟩ := j
  obtain ⟨i1, i2⟩ := tag_Iv iv ir
  obtain ⟨c0, c1, c2, c3, c4, c5⟩ := iv.1
  have hd : ∀ x, x < 153 → tgS S nO x = S x := fun x hx => tgS_hd hx nO
  have hO : ∀ j x, x < 18 → sO (tgS S nO) j x = sO S j x := fun j x hx => by rw [tgS_O (by omega), if_neg (by omega)]
  refine ⟨i1, i2, EJ_ord ej c4 c3 (fun q x hq hx => hd _ (by omega)) (fun j hj => hd _ (by omega)) (hd 4 (by omega)) (hd 5 (by omega)) (hd 6 (by omega)) (EO_eq ej.2.2.1 (fun j x _ hx => hO j x (by omega))) (fun e => by rw [hd 3 (by omega)]; exact e) (fun k hk e => ⟨k, hk, by rw [hd 3 (by omega)]; exact e, hO k 3 (by omega)⟩), h1⟩
theorem tag_Rw (r : Rw h b L xs t S nt TX) (j : J S nP nO c) : Rw h b L xs t (tgS S nO) nt TX := by
  obtain ⟨top, shw, his, txt, fcs⟩ := r
  obtain ⟨s, P, pf, pi, O, N, L', at1, vw⟩ := shw_at shw j.1
  obtain ⟨i1, i2⟩ := tag_Iv j.1 j.2.1
  exact ⟨top, ⟨s, P, pf, pi, O, N, L', _, _, _, _, at1, tag_Vw vw j.1, i1, i2⟩, his, txt, fcs⟩
theorem tag_18 : ∀ k, k < nO → sO (tgS S nO) k 18 = nI k := fun k hk => by rw [tgS_O (by omega), if_pos ⟨rfl, hk⟩]
end ZL1
