/-! the view is kept: work -/
section ZVW
variable {S S' s s' pf N : Nat → Int32} {P O L : Nat → Nat → Int32} {pi : Nat → Nat} {nS nP nO p k : Nat}
theorem Vw_s (vw : Vw s P pf pi O N L S nS nP nO) (h : ∀ x, 3 ≤ x → x ≤ 12 → s' x = s x) : Vw s' P pf pi O N L S nS nP nO := by
  obtain ⟨vH, v⟩ := vw
  refine ⟨?_, v⟩
  simp only [VH, h 3 (by omega) (by omega), h 4 (by omega) (by omega), h 5 (by omega) (by omega), h 6 (by omega) (by omega), h 7 (by omega) (by omega), h 8 (by omega) (by omega), h 9 (by omega) (by omega), h 10 (by omega) (by omega), h 11 (by omega) (by omega), h 12 (by omega) (by omega)]
  exact vH
theorem hd_view (vw : Vw s P pf pi O N L S nS nP nO) (iv : Iv S nS nP nO) (h : ∀ x, 10 ≤ x → S' x = S x) (vH : VH s' S') (hC : IvC S' nS nP nO) (hW : IvW S' nP nO) :
    Vw s' P pf pi O N L S' nS nP nO ∧ Iv S' nS nP nO := by
  obtain ⟨-, vpi, vP, vF, vO⟩ := vw
  have hP : ∀ q x, sP S' q x = sP S q x := fun q x => h _ (by omega)
  have hO : ∀ j x, sO S' j x = sO S j x := fun j x => h _ (by omega)
  refine ⟨⟨vH, vpi, VPs_eq iv.1.2.2.2.2.1 (fun q x _ _ => hP q x) vP, VFs_eq vF (fun j _ => h _ (by omega)) iv.1.2.2.2.1, VOs_eq hO vO⟩, ?_⟩
  refine Iv_same iv hC (Nat.le_refl _) hW (fun q hq => ?_) (fun j x _ _ => hO j x)
  simp only [hP]
  obtain ⟨q0, q3, q4, q2⟩ := iv.2.2.1 q hq
  exact ⟨q0, q3, q4, fun e => ⟨hq, e, trivial, trivial⟩⟩
theorem opRest_at {x : Nat} : opRest S x = if x = 3 ∨ x = 5 then -9 else if x = 4 ∨ x = 6 then 0 else S x := by
  simp only [opRest, upd]
  by_cases h3 : x = 3
  · simp [h3]
  · by_cases h4 : x = 4
    · simp [h4]
    · by_cases h5 : x = 5
      · simp [h5]
      · by_cases h6 : x = 6
        · simp [h6]
        · simp [h3, h4, h5, h6]
theorem rest_view (vw : Vw s P pf pi O N L S nS nP nO) (iv : Iv S nS nP nO) :
    Vw (stC s) P pf pi O N L (opRest S) nS nP nO ∧ Iv (opRest S) nS nP nO := by
  obtain ⟨v3, v4, v5, v6, v7, v8, v9, v10, v11, v12⟩ := vw.1
  obtain ⟨c0, c1, c2, c3, c4, c5⟩ := iv.1
  exact hd_view vw iv (fun x hx => opRest_ge (by omega)) (by simp [VH, stC, upd, opRest, v3, v4, v5, v10, v11, v12])
    ⟨by simp [opRest, upd, c0], by simp [opRest, upd, c1], by simp [opRest, upd, c2], c3, c4, c5⟩ (.inl ⟨by simp [opRest, upd], by simp [opRest, upd]⟩)
theorem IvW_3 (w : IvW S nP nO) : S 3 = -9 ∨ ∃ a, a < nO ∧ S 3 = nI a := by
  rcases w with ⟨w1, -⟩ | ⟨a, -, -, w1, w2, -⟩
  · exact .inl w1
  · exact .inr ⟨a, w2, w1⟩
theorem take_view (vw : Vw s P pf pi O N L S nS nP nO) (iv : Iv S nS nP nO) (hk : k < nO) (hne : S 3 ≠ nI k) :
    Vw (rmS s k nO) P pf (rmC pi k nO) O N L (opTake S k nO) nS nP (nO - 1) ∧ Iv (opTake S k nO) nS nP (nO - 1) := by
  obtain ⟨vH, vpi, vP, vF, vO⟩ := vw
  obtain ⟨iC, iW, iP, iO, iU⟩ := id iv
  obtain ⟨c0, c1, c2, c3, c4, c5⟩ := id iC
  have hd : ∀ x, x < 153 → x ≠ 2 → x ≠ 3 → opTake S k nO x = S x := fun x a b c => opTake_hd a b c
  have hP : ∀ q x, q < 20 → x < 7 → sP (opTake S k nO) q x = sP S q x := fun q x hq hx => opTake_P hq hx
  have hO : ∀ j x, j < nO - 1 → x < 19 → sO (opTake S k nO) j x = _ := fun j x hj hx => opTake_O (S := S) hk hj hx
  have e3 := opTake_3 (S := S) (k := k) (nO := nO)
  have w3 := IvW_3 iW
  have n3 : (S 3 - (if nI k < S 3 then 1 else 0) = -9) ↔ S 3 = -9 := by
    rcases w3 with e | ⟨a, ha, e⟩
    · rw [e, if_neg (nI_nlt9 (by omega)), Int32.sub_zero]
    · rw [e]
      simp only [nI_ltI (show k < 2 ^ 31 by omega) (show a < 2 ^ 31 by omega)]
      by_cases h : k < a
      · rw [if_pos h, nI_sub1 (by omega)]
        exact ⟨fun q => absurd q (nI_ne9 (by omega)), fun q => absurd q (nI_ne9 (by omega))⟩
      · rw [if_neg h, Int32.sub_zero]
  refine ⟨⟨?_, PI_rm vpi hk c5, VPs_eq c4 hP vP, VFs_eq vF (fun j hj => hd _ (by omega) (by omega) (by omega)) c3, VOs_take vO hk (fun j hj => (iO j hj).2.2.2.2.2.2.2) (fun _ _ => rfl)⟩, ?_⟩
  · obtain ⟨v3, v4, v5, v6, v7, v8, v9, v10, v11, v12⟩ := vH
    have r6 : rmS s k nO 6 = S 3 - (if nI k < S 3 then 1 else 0) := by
      simp only [rmS]
      rw [upd_self, v6, rmA_eq]
    have r5 : rmS s k nO 5 = nI (nO - 1) := by simp [rmS, upd]
    have ro : ∀ x, x ≠ 5 → x ≠ 6 → rmS s k nO x = s x := fun x a b => by simp only [rmS]; rw [upd_ne b, upd_ne a]
    simp only [VH, r6, r5, ro 3 (by omega) (by omega), ro 4 (by omega) (by omega), ro 7 (by omega) (by omega), ro 8 (by omega) (by omega), ro 9 (by omega) (by omega), ro 10 (by omega) (by omega), ro 11 (by omega) (by omega), ro 12 (by omega) (by omega), e3, n3, opTake_2, hd 0 (by omega) (by omega) (by omega), hd 1 (by omega) (by omega) (by omega), hd 4 (by omega) (by omega) (by omega), hd 5 (by omega) (by omega) (by omega), hd 6 (by omega) (by omega) (by omega), hd 7 (by omega) (by omega) (by omega), hd 8 (by omega) (by omega) (by omega), hd 9 (by omega) (by omega) (by omega)]
    exact ⟨v3, v4, trivial, trivial, v7, v8, v9, v10, v11, v12⟩
  · refine Iv_gen (p := 0) (k := 0) (fun j => if j < k then j else j + 1) iv ⟨by rw [hd 0 (by omega) (by omega) (by omega), c0], by rw [hd 1 (by omega) (by omega) (by omega), c1], opTake_2, c3, c4, by omega⟩ (Nat.le_refl _) ?_ (fun q hq => ?_) (fun j hj => ⟨by split <;> omega, fun x hx _ => hO j x hj (by omega)⟩) (fun j hj => ?_) (fun a b _ _ e => by (repeat' split at e) <;> omega)
    · rcases iW with ⟨w1, w2⟩ | ⟨a, q, sd, w1, w2, w3, w4, w5, w6, w7⟩
      · exact .inl ⟨by rw [e3, n3, w1], by rw [hd 5 (by omega) (by omega) (by omega), w2]⟩
      · have hak : a ≠ k := fun e => hne (by rw [w1, e])
        refine .inr ⟨if k < a then a - 1 else a, q, sd, ?_, by split <;> omega, by rw [hd 5 (by omega) (by omega) (by omega), w3], w4, by rw [hd 6 (by omega) (by omega) (by omega), w5], w6, by rw [hP q 2 (by omega) (by omega), w7]⟩
        rw [e3, w1]
        simp only [nI_ltI (show k < 2 ^ 31 by omega) (show a < 2 ^ 31 by omega)]
        by_cases h : k < a
        · rw [if_pos h, if_pos h, nI_sub1 (by omega)]
        · rw [if_neg h, if_neg h, Int32.sub_zero]
    · rw [hP q 0 (by omega) (by omega), hP q 3 (by omega) (by omega), hP q 4 (by omega) (by omega), hP q 2 (by omega) (by omega), hP q 5 (by omega) (by omega), hP q 6 (by omega) (by omega)]
      obtain ⟨q0, q3, q4, q2⟩ := iP q hq
      exact ⟨q0, q3, q4, fun e => .inl ⟨hq, e, rfl, rfl⟩⟩
    · rw [hO j 4 hj (by omega)]
      exact (iO _ (by split <;> omega)).2.2.2.2.1
/-- an order at work is dropped -/
theorem drop_view (vw : Vw s P pf pi O N L S nS nP nO) (iv : Iv S nS nP nO) (hk : k < nO) (hp0 : p < nP) :
    Vw (rmS (stC s) k nO) (drP P p) pf (rmC pi k nO) O N L (opTake (opRest (upd S (10 + 7 * p + 2) 0)) k nO) nS nP (nO - 1) ∧ Iv (opTake (opRest (upd S (10 + 7 * p + 2) 0)) k nO) nS nP (nO - 1) := by
  have e : opRest (upd S (10 + 7 * p + 2) 0) = upd (opRest S) (10 + 7 * p + 2) 0 := by
    funext x
    by_cases h : x = 10 + 7 * p + 2
    · rw [h, upd_self, opRest_ge (by omega), upd_self]
    · rw [upd_ne h, opRest_at, opRest_at, upd_ne h]
  obtain ⟨a, b⟩ := rest_view vw iv
  have r3 : opRest S 3 = -9 := by rw [opRest_at]; simp
  obtain ⟨a', b'⟩ := dr_view (p := p) a b hp0 (.inr r3)
  rw [e]
  exact take_view a' b' hk (by rw [upd_ne (by omega), r3]; exact (nI_ne9 (by have := iv.1.2.2.2.2.2; omega)).symm)
/-- a side of a plate is engraved -/
theorem eng_view {sd : Nat} {d : Int32} (vw : Vw s P pf pi O N L S nS nP nO) (iv : Iv S nS nP nO) (hp0 : p < nP) (hs : sd < 2) (hd0 : 0 ≤ d) :
    Vw s (va_up P p (pEng (P p) (nI sd) d)) pf pi O N L (upd S (10 + 7 * p + (3 + sd)) d) nS nP nO ∧ Iv (upd S (10 + 7 * p + (3 + sd)) d) nS nP nO := by
  obtain ⟨vH, vpi, vP, vF, vO⟩ := vw
  obtain ⟨iC, iW, iP, iO, iU⟩ := id iv
  obtain ⟨c0, c1, c2, c3, c4, c5⟩ := id iC
  have hd : ∀ x, x < 10 ∨ 150 ≤ x → upd S (10 + 7 * p + (3 + sd)) d x = S x := fun x hx => upd_ne (by omega)
  have hO : ∀ j x, sO (upd S (10 + 7 * p + (3 + sd)) d) j x = sO S j x := fun j x => sO_upd (by omega)
  have hP : ∀ q x, x < 7 → sP (upd S (10 + 7 * p + (3 + sd)) d) q x = if q = p ∧ x = 3 + sd then d else sP S q x := fun q x hx => sP_upd (by omega) hx
  refine ⟨⟨VH_eq vH (fun x hx => hd x (by omega)), vpi, VPs_up vP c4 (fun q x e _ hx => by rw [hP q x hx, if_neg (by omega)]) (VP_eng (vP p hp0) hs (fun x hx => by rw [hP p x hx]; simp)), VFs_eq vF (fun j _ => hd _ (by omega)) c3, VOs_eq hO vO⟩, ?_⟩
  refine Iv_same iv ⟨by rw [hd 0 (by omega), c0], by rw [hd 1 (by omega), c1], by rw [hd 2 (by omega), c2], c3, c4, c5⟩ (Nat.le_refl _) (IvW_P iW (hd 3 (by omega)) (hd 5 (by omega)) (hd 6 (by omega)) (Nat.le_refl _) (Nat.le_refl _) (fun q _ e => by
    rw [hP q 2 (by omega), if_neg (by omega)]; exact e)) (fun q hq => ?_) (fun j x _ _ => hO j x)
  obtain ⟨q0, q3, q4, q2⟩ := iP q hq
  rw [hP q 0 (by omega), hP q 3 (by omega), hP q 4 (by omega), hP q 2 (by omega), hP q 5 (by omega), hP q 6 (by omega)]
  refine ⟨by rw [if_neg (by omega)]; exact q0, by split <;> assumption, by split <;> assumption, fun e => ?_⟩
  rw [if_neg (by omega)] at e
  exact ⟨hq, e, by rw [if_neg (by omega)], by rw [if_neg (by omega)]⟩
end ZVW
