/-! it is kept by each change of the row -/
section ZI2
variable {S S' A : Nat → Int32} {nS nP nO nO' c k p sd d pl : Nat}
theorem onS_iff {sh : Int32} {q : Nat} : onS S sh q = true ↔ sP S q 2 = 2 ∧ sP S q 5 = sh := by
  simp only [onS, Bool.and_eq_true, decide_eq_true_eq]
theorem ES_mono (e : ES S nS nP) (hpl : ∀ j, j < nS → S' (150 + j) = S (150 + j)) (hon : ∀ j, j < nS → ∀ q, q < nP → onS S' (nI j) q = true → onS S (nI j) q = true) : ES S' nS nP := fun j hj => by
  obtain ⟨e1, e2, e3⟩ := e j hj
  rw [hpl j hj]
  have := cntN_le' nP (hon j hj)
  exact ⟨e1, e2, by omega⟩
theorem EO_eq (e : EO S nO) (h : ∀ j x, j < nO → x < 4 → sO S' j x = sO S j x) : EO S' nO := fun k hk => by
  rw [h k 1 hk (by omega), h k 2 hk (by omega), h k 3 hk (by omega)]
  exact e k hk
theorem EPl_eq {q : Nat} (e : EPl S q) (h : ∀ x, 0 < x → x < 7 → sP S' q x = sP S q x) : EPl S' q := by
  simp only [EPl]
  rw [h 2 (by omega) (by omega), h 3 (by omega) (by omega), h 4 (by omega) (by omega), h 1 (by omega) (by omega), h 6 (by omega) (by omega)]
  exact e
theorem dP_eq {q sd : Nat} (hs : sd < 2) (h : ∀ x, x < 7 → sP S' q x = sP S q x) : dP S' q sd = dP S q sd := h _ (by omega)
theorem EJ_cut {w t : Int32} (iv : Iv S nS nP nO) (e : EJ S nS nP nO) (hn : nP < 20) (h5 : 5 ≤ t.toInt) (h30 : t.toInt ≤ 30) : EJ (opCut S nP w t) nS (nP + 1) nO := by
  obtain ⟨eP, eW, eO, eS⟩ := e
  have hP : ∀ q x, q < nP → x < 7 → sP (opCut S nP w t) q x = sP S q x := fun q x hq hx => by rw [opCut_P hx (by omega), if_neg (by omega)]
  have hN : ∀ x, x < 7 → sP (opCut S nP w t) nP x = if x = 1 then t else if x = 0 then w else 0 := fun x hx => by rw [opCut_P hx hn, if_pos rfl]
  have n2 : sP (opCut S nP w t) nP 2 = 0 := hN 2 (by omega)
  have hh : ∀ x, (x < 10 ∨ 150 ≤ x) → x ≠ 1 → opCut S nP w t x = S x := fun x hx h1 => by rw [opCut_hd hx hn, if_neg h1]
  have hO : ∀ j x, sO (opCut S nP w t) j x = sO S j x := fun j x => hh _ (by omega) (by omega)
  refine ⟨fun q hq => ?_, ?_, EO_eq eO (fun j x _ _ => hO j x), fun j hj => ?_⟩
  · by_cases e : q = nP
    · subst e
      refine ⟨.inl n2, fun _ => ?_, fun z => ?_⟩
      · rw [hN 3 (by omega), hN 4 (by omega), hN 1 (by omega)]
        simp only [if_true, if_neg (show ¬ 3 = 1 by omega), if_neg (show ¬ 3 = 0 by omega), if_neg (show ¬ 4 = 1 by omega), if_neg (show ¬ 4 = 0 by omega), i_0]
        omega
      · rw [n2] at z; exact absurd z (by decide)
    · exact EPl_eq (eP q (by omega)) (fun x _ hx => hP q x (by omega) hx)
  · rcases eW with ⟨w1, w2⟩ | ⟨k, p, sd, a, b⟩
    · refine .inl ⟨by rw [hh 3 (by omega) (by omega)]; exact w1, fun q hq => ?_⟩
      by_cases e : q = nP
      · rw [e, n2]; decide
      · rw [hP q 2 (by omega) (by omega)]; exact w2 q (by omega)
    · obtain ⟨a3, ak, a5, ap, a6, asd, a2⟩ := a
      obtain ⟨b1, b2, b3, b4⟩ := b
      refine .inr ⟨k, p, sd, ⟨by rw [hh 3 (by omega) (by omega)]; exact a3, ak, by rw [hh 5 (by omega) (by omega)]; exact a5, by omega, by rw [hh 6 (by omega) (by omega)]; exact a6, asd, by rw [hP p 2 ap (by omega)]; exact a2⟩, fun q hq h1 => ?_, ?_, ?_, by rw [hh 4 (by omega) (by omega)]; exact b4⟩
      · by_cases e : q = nP
        · rw [e, n2] at h1; exact absurd h1 (by decide)
        · rw [hP q 2 (by omega) (by omega)] at h1; exact b1 q (by omega) h1
      · rw [dP_eq asd (fun x hx => hP p x ap hx)]; exact b2
      · rw [dP_eq (by omega) (fun x hx => hP p x ap hx), hO, hP p 1 ap (by omega)]; exact b3
  · obtain ⟨e1, e2, e3⟩ := eS j hj
    have := iv.1.2.2.2.1
    rw [hh _ (by omega) (by omega)]
    refine ⟨e1, e2, ?_⟩
    have nn : onS (opCut S nP w t) (nI j) nP = false := by simp [onS, n2]
    have cc : cntN (onS (opCut S nP w t) (nI j)) nP = cntN (onS S (nI j)) nP := cntN_congr nP (fun q hq => by simp only [onS, hP q 2 hq (by omega), hP q 5 hq (by omega)])
    simp only [cntN, nn, if_neg (show ¬ false = true by decide), cc]
    omega
/-- a plate that is not at work is spoiled, or goes into the drawer -/
theorem EJ_st {v : Int32} (e : EJ S nS nP nO) (hn : nP ≤ 20) (hk : k < nP) (h1 : sP S k 2 ≠ 1) (hv : v = 3 ∨ (v = 0 ∧ sP S k 2 ≠ 3)) : EJ (upd S (10 + 7 * k + 2) v) nS nP nO := by
  obtain ⟨eP, eW, eO, eS⟩ := e
  have hP : ∀ q x, x < 7 → sP (upd S (10 + 7 * k + 2) v) q x = if q = k ∧ x = 2 then v else sP S q x := fun q x hx => sP_upd (by omega) hx
  have ho : ∀ q x, x < 7 → x ≠ 2 → sP (upd S (10 + 7 * k + 2) v) q x = sP S q x := fun q x hx h2 => by rw [hP q x hx, if_neg (by omega)]
  have k2 : sP (upd S (10 + 7 * k + 2) v) k 2 = v := by rw [hP k 2 (by omega), if_pos ⟨rfl, rfl⟩]
  have q2 : ∀ q, q ≠ k → sP (upd S (10 + 7 * k + 2) v) q 2 = sP S q 2 := fun q hq => by rw [hP q 2 (by omega), if_neg (by omega)]
  have hh : ∀ x, (x < 10 ∨ 150 ≤ x) → upd S (10 + 7 * k + 2) v x = S x := fun x hx => upd_ne (by omega)
  have v12 : v ≠ 1 ∧ v ≠ 2 := by rcases hv with rfl | ⟨rfl, -⟩ <;> decide
  refine ⟨fun q hq => ?_, ?_, EO_eq eO (fun j x _ _ => hh _ (by omega)), ES_mono eS (fun j hj => hh _ (by omega)) (fun j hj q hq h => ?_)⟩
  · by_cases e : q = k
    · subst e
      simp only [EPl, k2]
      refine ⟨by rcases hv with rfl | ⟨rfl, -⟩ <;> simp, fun h3 => ?_, fun z => absurd z v12.2⟩
      rw [ho q 3 (by omega) (by omega), ho q 4 (by omega) (by omega), ho q 1 (by omega) (by omega)]
      rcases hv with rfl | ⟨rfl, h⟩
      · exact absurd rfl h3
      · exact (eP q hq).2.1 h
    · exact EPl_eq (eP q hq) (fun x _ hx => by rw [hP q x hx, if_neg (by omega)])
  · rcases eW with ⟨w1, w2⟩ | ⟨k', p, sd, a, b⟩
    · refine .inl ⟨by rw [hh 3 (by omega)]; exact w1, fun q hq => ?_⟩
      by_cases e : q = k
      · rw [e, k2]; exact v12.1
      · rw [q2 q e]; exact w2 q hq
    · obtain ⟨a3, ak, a5, ap, a6, asd, a2⟩ := a
      obtain ⟨b1, b2, b3, b4⟩ := b
      have pk : p ≠ k := fun e => h1 (by rw [← e]; exact a2)
      refine .inr ⟨k', p, sd, ⟨by rw [hh 3 (by omega)]; exact a3, ak, by rw [hh 5 (by omega)]; exact a5, ap, by rw [hh 6 (by omega)]; exact a6, asd, by rw [q2 p pk]; exact a2⟩, fun q hq h => ?_, ?_, ?_, by rw [hh 4 (by omega)]; exact b4⟩
      · by_cases e : q = k
        · rw [e, k2] at h; exact absurd h v12.1
        · rw [q2 q e] at h; exact b1 q hq h
      · simp only [dP]; rw [ho p _ (by omega) (by omega)]; exact b2
      · simp only [dP] at b3 ⊢
        rw [ho p _ (by omega) (by omega), ho p 1 (by omega) (by omega), show sO (upd S (10 + 7 * k + 2) v) k' 3 = sO S k' 3 from hh _ (by omega)]
        exact b3
  · by_cases e : q = k
    · rw [onS_iff, e, k2] at h; exact absurd h.1 v12.2
    · rw [onS_iff, q2 q e, ho q 5 (by omega) (by omega)] at h
      exact onS_iff.mpr h
/-- a side of a plate in the drawer is ground -/
theorem EJ_grind (iv : Iv S nS nP nO) (e : EJ S nS nP nO) (hk : k < nP) (hd : d < 2) (hz : sP S k 2 = 0) (hg : gndM S k d 0 = true) : EJ (opGrind S k d) nS nP nO := by
  obtain ⟨eP, eW, eO, eS⟩ := e
  have hn := iv.1.2.2.2.2.1
  have h0 : sP S k 2 ≠ 3 := by rw [hz]; decide
  have h1 : sP S k 2 ≠ 1 := by rw [hz]; decide
  obtain ⟨n3, n4, n5, n6⟩ := pl_num iv.2.2.1 (eP k hk) hk h0
  have hP : ∀ q x, q ≠ k → x < 7 → sP (opGrind S k d) q x = sP S q x := fun q x hq hx => by rw [opGrind_P hd hx, if_neg hq]
  have hx : ∀ x, x = 2 ∨ x = 5 ∨ x = 6 → sP (opGrind S k d) k x = sP S k x := fun x hx => by rw [opGrind_P hd (by omega), if_pos rfl, if_neg (by omega), if_neg (by omega)]
  have hh : ∀ x, (x < 9 ∨ 150 ≤ x) → opGrind S k d x = S x := fun x hx => opGrind_hd' hx (by omega) hd
  have bd : 0 ≤ (dP S k d).toInt ∧ (dP S k d).toInt ≤ 100 ∧ 0 ≤ (dP S k (1 - d)).toInt ∧ (dP S k (1 - d)).toInt ≤ 100 := by
    rcases (show d = 0 ∨ d = 1 by omega) with rfl | rfl
    · exact ⟨n3, by show (sP S k 3).toInt ≤ 100; omega, n4, by show (sP S k 4).toInt ≤ 100; omega⟩
    · exact ⟨n4, by show (sP S k 4).toInt ≤ 100; omega, n3, by show (sP S k 3).toInt ≤ 100; omega⟩
  obtain ⟨g1, g2⟩ := (gnd_int (dd := 0) ⟨by rw [i_0]; omega, by rw [i_0]; omega⟩ rfl rfl rfl ⟨by omega, by omega⟩ ⟨bd.1, bd.2.1⟩ ⟨bd.2.2.1, bd.2.2.2⟩).mp hg
  rw [i_0] at g2
  obtain ⟨f1, f2, f3, f4, f5⟩ := gr_pl (S := S) (p := k) hd rfl rfl rfl ⟨by omega, by omega⟩ ⟨bd.1, bd.2.1⟩ ⟨bd.2.2.1, bd.2.2.2⟩
  refine ⟨fun q hq => ?_, ?_, EO_eq eO (fun j x _ _ => hh _ (by omega)), ES_mono eS (fun j hj => hh _ (by omega)) (fun j hj q hq h => ?_)⟩
  · by_cases e : q = k
    · subst e
      refine ⟨by rw [f4]; exact (eP q hq).1, fun _ => ⟨by omega, by omega⟩, fun z => ?_⟩
      rw [f4, hz] at z; exact absurd z (by decide)
    · exact EPl_eq (eP q hq) (fun x _ hx => hP q x e hx)
  · have st : ∀ q, sP (opGrind S k d) q 2 = sP S q 2 := fun q => by
      by_cases e : q = k
      · rw [e]; exact hx 2 (by omega)
      · exact hP q 2 e (by omega)
    rcases eW with ⟨w1, w2⟩ | ⟨k', p, sd, a, b⟩
    · exact .inl ⟨by rw [hh 3 (by omega)]; exact w1, fun q hq => by rw [st]; exact w2 q hq⟩
    · obtain ⟨a3, ak, a5, ap, a6, asd, a2⟩ := a
      obtain ⟨b1, b2, b3, b4⟩ := b
      have pk : p ≠ k := fun e => h1 (by rw [← e]; exact a2)
      refine .inr ⟨k', p, sd, ⟨by rw [hh 3 (by omega)]; exact a3, ak, by rw [hh 5 (by omega)]; exact a5, ap, by rw [hh 6 (by omega)]; exact a6, asd, by rw [st]; exact a2⟩, fun q hq h => b1 q hq (by rw [← st]; exact h), ?_, ?_, by rw [hh 4 (by omega)]; exact b4⟩
      · rw [dP_eq asd (fun x hx => hP p x pk hx)]; exact b2
      · rw [dP_eq (by omega) (fun x hx => hP p x pk hx), hP p 1 pk (by omega), show sO (opGrind S k d) k' 3 = sO S k' 3 from hh _ (by omega)]
        exact b3
  · by_cases e : q = k
    · rw [onS_iff, e, hx 2 (by omega), hz] at h; exact absurd h.1 (by decide)
    · rw [onS_iff, hP q 2 e (by omega), hP q 5 e (by omega)] at h
      exact onS_iff.mpr h
/-- only the orders change, and the number of the one at work -/
theorem EJ_ord (e : EJ S nS nP nO) (hn : nP ≤ 20) (hs : nS ≤ 3) (hP : ∀ q x, q < 20 → x < 7 → sP S' q x = sP S q x) (hl : ∀ j, j < 3 → S' (150 + j) = S (150 + j)) (h4 : S' 4 = S 4) (h5 : S' 5 = S 5) (h6 : S' 6 = S 6) (hO : EO S' nO') (h9 : S 3 = -9 → S' 3 = -9)
    (hk : ∀ k, k < nO → S 3 = nI k → ∃ k', k' < nO' ∧ S' 3 = nI k' ∧ sO S' k' 3 = sO S k 3) : EJ S' nS nP nO' := by
  obtain ⟨eP, eW, eO, eS⟩ := e
  refine ⟨fun q hq => EPl_eq (eP q hq) (fun x _ hx => hP q x (by omega) hx), ?_, hO, ES_mono eS (fun j hj => hl j (by omega)) (fun j hj q hq h => ?_)⟩
  · rcases eW with ⟨w1, w2⟩ | ⟨k, p, sd, a, b⟩
    · exact .inl ⟨h9 w1, fun q hq => by rw [hP q 2 (by omega) (by omega)]; exact w2 q hq⟩
    · obtain ⟨a3, ak, a5, ap, a6, asd, a2⟩ := a
      obtain ⟨b1, b2, b3, b4⟩ := b
      obtain ⟨k', q1, q2, q3⟩ := hk k ak a3
      refine .inr ⟨k', p, sd, ⟨q2, q1, by rw [h5]; exact a5, ap, by rw [h6]; exact a6, asd, by rw [hP p 2 (by omega) (by omega)]; exact a2⟩, fun q hq h => b1 q hq (by rw [← hP q 2 (by omega) (by omega)]; exact h), ?_, ?_, by rw [h4]; exact b4⟩
      · rw [dP_eq asd (fun x hx => hP p x (by omega) hx)]; exact b2
      · rw [dP_eq (by omega) (fun x hx => hP p x (by omega) hx), hP p 1 (by omega) (by omega), q3]; exact b3
  · rw [onS_iff, hP q 2 (by omega) (by omega), hP q 5 (by omega) (by omega)] at h
    exact onS_iff.mpr h
/-- a new order -/
theorem EJ_put (iv : Iv S nS nP nO) (e : EJ S nS nP nO) (hpl : pl ≤ nO) (hO10 : nO < 10) (a1 : (A 1).toInt ≤ 12) (a2 : 1 ≤ (A 2).toInt) (a2' : (A 2).toInt ≤ 4) (a3 : 1 ≤ (A 3).toInt) (a3' : (A 3).toInt ≤ 5) : EJ (opPut S A pl nO) nS nP (nO + 1) := by
  obtain ⟨c0, c1, c2, c3, c4, c5⟩ := iv.1
  refine EJ_ord e c4 c3 (fun q x hq hx => opPut_P hq hx) (fun j hj => opPut_hd (by omega) (by omega) (by omega)) (opPut_hd (by omega) (by omega) (by omega)) (opPut_hd (by omega) (by omega) (by omega)) (opPut_hd (by omega) (by omega) (by omega)) (fun k hk => ?_) (fun h => ?_) (fun k hk h => ⟨if pl ≤ k then k + 1 else k, by split <;> omega, ?_, ?_⟩)
  · rw [opPut_O hpl (by omega) (by omega), opPut_O hpl (by omega) (by omega), opPut_O hpl (by omega) (by omega)]
    by_cases h : k = pl
    · simp only [if_pos h]
      exact ⟨a1, a2, a2', a3, a3'⟩
    · simp only [if_neg h]
      exact e.2.2.1 _ (by split <;> omega)
  · rw [opPut_3, h, if_neg (nI_nle9 (by omega)), Int32.add_zero]
  · rw [opPut_3, h]
    simp only [nI_leI (show pl < 2 ^ 31 by omega) (show k < 2 ^ 31 by omega)]
    by_cases q : pl ≤ k
    · rw [if_pos q, if_pos q, nI_1]
    · rw [if_neg q, if_neg q, Int32.add_zero]
  · rw [opPut_O hpl (by split <;> omega) (by omega)]
    by_cases q : pl ≤ k
    · rw [if_pos q, if_neg (by omega), if_neg (by omega), Nat.add_sub_cancel]
    · rw [if_neg q, if_neg (by omega), if_pos (by omega)]
/-- an order becomes a rush -/
theorem EJ_hur (iv : Iv S nS nP nO) (ir : IvR S nO c) (e : EJ S nS nP nO) (hk : k < nO) (h0 : sO S k 4 = 0) : EJ (hurR S k c nO) nS nP nO := by
  obtain ⟨c0, c1, c2, c3, c4, c5⟩ := iv.1
  have hc := hur_le ir hk h0
  have hd : ∀ x, x < 153 → x ≠ 2 → x ≠ 3 → hurR S k c nO x = S x := fun x a b e => by
    simp only [hurR, opHur]
    rw [upd_ne e, opPut_hd a b e, opTake_hd a b e]
  have w3 := IvW_3 iv.2.1
  have hOO : ∀ j x, j < nO → x < 19 → sO (hurR S k c nO) j x = _ := fun j x hj hx => hur_O (S := S) (AS := fun _ => 0) hk hc hj hx
  have m3 : mvA (S 3) k c = hurR S k c nO 3 := by
    simp only [hurR, opHur]
    rw [upd_self]
    by_cases e : S 3 = nI k
    · rw [if_pos e, e, mvA_nI (by omega) hc (by omega), if_pos rfl]
    · rw [if_neg e, opPut_3, opTake_3]
      exact mvA_mv hk c5 hc w3 e
  refine EJ_ord e c4 c3 (fun q x hq hx => hd _ (by omega) (by omega) (by omega)) (fun j hj => hd _ (by omega) (by omega) (by omega)) (hd _ (by omega) (by omega) (by omega)) (hd _ (by omega) (by omega) (by omega)) (hd _ (by omega) (by omega) (by omega)) (fun j hj => ?_) (fun h => ?_) (fun a ha h => ⟨if a = k then c else if c ≤ a ∧ a < k then a + 1 else a, by (repeat' split) <;> omega, ?_, ?_⟩)
  · rw [hOO j 1 hj (by omega), hOO j 2 hj (by omega), hOO j 3 hj (by omega)]
    by_cases h : j = c
    · simp only [if_pos h, if_neg (show ¬ 1 = 4 by omega), if_neg (show ¬ 2 = 4 by omega), if_neg (show ¬ 3 = 4 by omega)]
      exact e.2.2.1 k hk
    · simp only [if_neg h]
      exact e.2.2.1 _ (by (repeat' split) <;> omega)
  · rw [← m3, h, mvA_9 (by omega) hc]
  · rw [← m3, h, mvA_nI (by omega) hc (by omega)]
  · rw [hOO _ 3 (by (repeat' split) <;> omega) (by omega)]
    by_cases e1 : a = k
    · subst e1
      simp
    · by_cases e2 : c ≤ a ∧ a < k
      · rw [if_neg e1, if_pos e2, if_neg (by omega), if_pos (by omega), Nat.add_sub_cancel]
      · rw [if_neg e1, if_neg e2, if_neg (by omega), if_neg (by omega)]
/-- an order is taken out that is not at work -/
theorem EJ_take (iv : IvC S nS nP nO) (e : EJ S nS nP nO) (hk : k < nO) (hne : S 3 ≠ nI k) : EJ (opTake S k nO) nS nP (nO - 1) := by
  obtain ⟨c0, c1, c2, c3, c4, c5⟩ := iv
  refine EJ_ord e c4 c3 (fun q x hq hx => opTake_P hq hx) (fun j hj => opTake_hd (by omega) (by omega) (by omega)) (opTake_hd (by omega) (by omega) (by omega)) (opTake_hd (by omega) (by omega) (by omega)) (opTake_hd (by omega) (by omega) (by omega)) (fun j hj => ?_) (fun h => ?_) (fun a ha h => ⟨if k < a then a - 1 else a, ?_, ?_, ?_⟩)
  · rw [opTake_O hk hj (by omega), opTake_O hk hj (by omega), opTake_O hk hj (by omega)]
    exact e.2.2.1 _ (by split <;> omega)
  · rw [opTake_3, h, if_neg (nI_nlt9 (by omega)), Int32.sub_zero]
  · have : a ≠ k := fun q => hne (by rw [h, q])
    split <;> omega
  · rw [opTake_3, h]
    simp only [nI_ltI (show k < 2 ^ 31 by omega) (show a < 2 ^ 31 by omega)]
    by_cases q : k < a
    · rw [if_pos q, if_pos q, nI_sub1 (by omega)]
    · rw [if_neg q, if_neg q, Int32.sub_zero]
  · have ne : a ≠ k := fun q => hne (by rw [h, q])
    rw [opTake_O hk (by split <;> omega) (by omega)]
    by_cases q : k < a
    · rw [if_pos q, if_neg (by omega), show a - 1 + 1 = a by omega]
    · rw [if_neg q, if_pos (by omega)]
/-- nothing is at work any more: its plate is in the drawer -/
theorem EJ_rest (iv : Iv S nS nP nO) (e : EJ S nS nP nO) (a : AtW S nP nO k p sd) : EJ (opRest (upd S (10 + 7 * p + 2) 0)) nS nP nO := by
  obtain ⟨eP, eW, eO, eS⟩ := id e
  obtain ⟨b1, b2, b3, b4⟩ := EW_at iv eW a
  obtain ⟨a3, ak, a5, ap, a6, asd, a2⟩ := a
  have hn := iv.1.2.2.2.2.1
  have hP : ∀ q x, x < 7 → sP (opRest (upd S (10 + 7 * p + 2) 0)) q x = if q = p ∧ x = 2 then 0 else sP S q x := fun q x hx => by
    rw [← sP_upd (by omega) hx]
    exact opRest_ge (by omega)
  have hh : ∀ x, 150 ≤ x → opRest (upd S (10 + 7 * p + 2) 0) x = S x := fun x hx => by rw [opRest_ge (by omega), upd_ne (by omega)]
  have p2 : sP (opRest (upd S (10 + 7 * p + 2) 0)) p 2 = 0 := by rw [hP p 2 (by omega), if_pos ⟨rfl, rfl⟩]
  refine ⟨fun q hq => ?_, .inl ⟨by rw [opRest_at, if_pos (by omega)], fun q hq => ?_⟩, EO_eq eO (fun j x _ _ => hh _ (by omega)), ES_mono eS (fun j hj => hh _ (by omega)) (fun j hj q hq h => ?_)⟩
  · by_cases e : q = p
    · subst e
      refine ⟨.inl p2, fun _ => ?_, fun z => ?_⟩
      · rw [hP q 3 (by omega), hP q 4 (by omega), hP q 1 (by omega), if_neg (by omega), if_neg (by omega), if_neg (by omega)]
        exact (eP q hq).2.1 (by rw [a2]; decide)
      · rw [p2] at z; exact absurd z (by decide)
    · exact EPl_eq (eP q hq) (fun x _ hx => by rw [hP q x hx, if_neg (by omega)])
  · by_cases e : q = p
    · rw [e, p2]; decide
    · rw [hP q 2 (by omega), if_neg (by omega)]
      exact fun h => e (b1 q hq h)
  · by_cases e : q = p
    · rw [onS_iff, e, p2] at h; exact absurd h.1 (by decide)
    · rw [onS_iff, hP q 2 (by omega), hP q 5 (by omega), if_neg (by omega), if_neg (by omega)] at h
      exact onS_iff.mpr h
end ZI2
