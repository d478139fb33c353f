/-! it is kept: cancel, slip, work -/
section ZI3
variable {S S' A : Nat → Int32} {nS nP nO nO' c k p sd d pl : Nat}
theorem EJ_can (iv : Iv S nS nP nO) (e : EJ S nS nP nO) (hk : k < nO) : EJ (canR S k nO) nS nP (nO - 1) := by
  obtain ⟨c0, c1, c2, c3, c4, c5⟩ := id iv.1
  by_cases hz : S 3 = nI k
  · obtain ⟨k', p, sd, a⟩ := IvW_at iv (by rw [hz]; exact nI_ne9 (by omega))
    have r := EJ_rest iv e a
    obtain ⟨a3, ak, a5, ap, a6, asd, a2⟩ := a
    have eR : canR S k nO = opTake (opRest (upd S (10 + 7 * p + 2) 0)) k nO := by simp only [canR, if_pos hz, a5, nI_clamp (show p < 2 ^ 31 by omega)]
    have hh : ∀ x, x < 3 → opRest (upd S (10 + 7 * p + 2) 0) x = S x := fun x hx => by rw [opRest_ge (by omega), upd_ne (by omega)]
    rw [eR]
    refine EJ_take ⟨by rw [hh 0 (by omega)]; exact c0, by rw [hh 1 (by omega)]; exact c1, by rw [hh 2 (by omega)]; exact c2, c3, c4, c5⟩ r hk ?_
    rw [opRest_at, if_pos (by omega)]
    exact fun q => nI_ne9 (show k < 2 ^ 31 by omega) q.symm
  · rw [show canR S k nO = opTake S k nO by simp only [canR, if_neg hz]]
    exact EJ_take iv.1 e hk hz
/-- a plate at work, as it stands after a change of it -/
theorem EJ_w (e : EJ S nS nP nO) (hn : nP ≤ 20) (hs3 : nS ≤ 3) (hk : k < nO) (hp0 : p < nP) (hs : sd < 2) (hu : ∀ q, q < nP → sP S q 2 = 1 → q = p) (hP : ∀ q x, q ≠ p → q < 20 → x < 7 → sP S' q x = sP S q x) (hl : ∀ j, j < 3 → S' (150 + j) = S (150 + j)) (h3 : S' 3 = nI k) (h5 : S' 5 = nI p) (h6 : S' 6 = nI sd)
    (hO : ∀ j x, sO S' j x = sO S j x) (p2 : sP S' p 2 = 1) (f : dP S' p sd = 0) (g : 2 + (dP S' p (1 - sd)).toInt + (sO S k 3).toInt ≤ (sP S' p 1).toInt) (g30 : (sP S' p 1).toInt ≤ 30) (q4 : 0 < (S' 4).toInt ∧ (S' 4).toInt ≤ 118) : EJ S' nS nP nO := by
  obtain ⟨eP, eW, eO, eS⟩ := e
  have d1 := (eO k hk).2.2.2.1
  refine ⟨fun q hq => ?_, .inr ⟨k, p, sd, ⟨h3, hk, h5, hp0, h6, hs, p2⟩, fun q hq h => ?_, f, by rw [hO]; exact g, q4⟩, EO_eq eO (fun j x _ _ => hO j x), ES_mono eS (fun j hj => hl j (by omega)) (fun j hj q hq h => ?_)⟩
  · by_cases e : q = p
    · subst e
      refine ⟨.inr (.inl p2), fun _ => ⟨?_, g30⟩, fun z => ?_⟩
      · rcases (show sd = 0 ∨ sd = 1 by omega) with rfl | rfl
        · have f' : sP S' q 3 = 0 := f
          have g' : 2 + (sP S' q 4).toInt + (sO S k 3).toInt ≤ (sP S' q 1).toInt := g
          rw [f', i_0]
          omega
        · have f' : sP S' q 4 = 0 := f
          have g' : 2 + (sP S' q 3).toInt + (sO S k 3).toInt ≤ (sP S' q 1).toInt := g
          rw [f', i_0]
          omega
      · rw [p2] at z; exact absurd z (by decide)
    · exact EPl_eq (eP q hq) (fun x _ hx => hP q x e (by omega) hx)
  · by_cases e : q = p
    · exact e
    · exact hu q hq (by rw [← hP q 2 e (by omega) (by omega)]; exact h)
  · by_cases e : q = p
    · rw [onS_iff, e, p2] at h; exact absurd h.1 (by decide)
    · rw [onS_iff, hP q 2 e (by omega) (by omega), hP q 5 e (by omega) (by omega)] at h
      exact onS_iff.mpr h
/-- some minutes of the order at work are spent -/
theorem EJ_min {v : Int32} (iv : Iv S nS nP nO) (e : EJ S nS nP nO) (a : AtW S nP nO k p sd) (hv : 0 < v.toInt ∧ v.toInt ≤ 118) : EJ (upd S 4 v) nS nP nO := by
  obtain ⟨b1, b2, b3, b4⟩ := EW_at iv e.2.1 a
  obtain ⟨a3, ak, a5, ap, a6, asd, a2⟩ := a
  have hP : ∀ q x, sP (upd S 4 v) q x = sP S q x := fun q x => sP_hd (by omega)
  have n30 := ((e.1 p ap).2.1 (by rw [a2]; decide)).2
  exact EJ_w e iv.1.2.2.2.2.1 iv.1.2.2.2.1 ak ap asd b1 (fun q x _ _ _ => hP q x) (fun j _ => upd_ne (by omega)) (by rw [upd_ne (by omega)]; exact a3) (by rw [upd_ne (by omega)]; exact a5) (by rw [upd_ne (by omega)]; exact a6) (fun j x => sO_upd (by omega)) (by rw [hP]; exact a2) (by simp only [dP]; rw [hP]; exact b2) (by simp only [dP] at b3 ⊢; rw [hP, hP]; exact b3) (by rw [hP]; exact n30) (by rw [upd_self]; exact hv)
/-- a slip -/
theorem EJ_slip (iv : Iv S nS nP nO) (e : EJ S nS nP nO) (a : AtW S nP nO k p sd) : EJ (opSlip S k p sd) nS nP nO := by
  obtain ⟨b1, b2, b3, b4⟩ := EW_at iv e.2.1 a
  obtain ⟨a3, ak, a5, ap, a6, asd, a2⟩ := a
  obtain ⟨eP, eW, eO, eS⟩ := id e
  have hn := iv.1.2.2.2.2.1
  obtain ⟨ef1, ef2⟩ := ef_int iv.2.2.2.1 eO ak
  obtain ⟨-, -, -, d1, d5⟩ := eO k ak
  obtain ⟨n3, n4, n5, n6⟩ := pl_num iv.2.2.1 (eP p ap) ap (by rw [a2]; decide)
  have hB : 0 ≤ (dP S p (1 - sd)).toInt := by
    rcases (show sd = 0 ∨ sd = 1 by omega) with rfl | rfl
    · exact n4
    · exact n3
  have hP : ∀ q x, x < 7 → sP (slS S k p sd) q x = if q = p ∧ x = 3 + sd then sO S k 3 else sP S q x := fun q x hx => by
    simp only [slS]
    rw [sP_hd (by omega), sP_upd (by omega) hx]
  have ho : ∀ q x, q ≠ p → x < 7 → sP (slS S k p sd) q x = sP S q x := fun q x hq hx => by rw [hP q x hx, if_neg (by omega)]
  have s1 : sP (slS S k p sd) p 1 = sP S p 1 := by rw [hP p 1 (by omega), if_neg (by omega)]
  have s2 : sP (slS S k p sd) p 2 = 1 := by rw [hP p 2 (by omega), if_neg (by omega)]; exact a2
  have sA : dP (slS S k p sd) p sd = sO S k 3 := by simp only [dP]; rw [hP p _ (by omega), if_pos ⟨rfl, rfl⟩]
  have sB : dP (slS S k p sd) p (1 - sd) = dP S p (1 - sd) := by simp only [dP]; rw [hP p _ (by omega), if_neg (by omega)]
  have sO' : ∀ j x, sO (slS S k p sd) j x = sO S j x := fun j x => slS_ge (by omega) (by omega) asd
  have sh : ∀ x, x < 10 → x ≠ 8 → slS S k p sd x = S x := fun x hx h8 => by simp only [slS]; rw [upd_ne h8, upd_ne (by omega)]
  have sl : ∀ j, slS S k p sd (150 + j) = S (150 + j) := fun j => slS_ge (by omega) (by omega) asd
  have ss : 1 - (1 - sd) = sd := by omega
  unfold opSlip
  by_cases h1 : rdyM (slS S k p sd) p (1 - sd) (sO S k 3) = true
  · rw [if_pos h1]
    obtain ⟨r1, r2⟩ := (rdy_int (S := slS S k p sd) (p := p) (sd := 1 - sd) (dd := sO S k 3) ⟨by omega, by omega⟩ (congrArg Int32.toInt s1) (congrArg Int32.toInt ((congrArg (dP (slS S k p sd) p) ss).trans sA)) ⟨by omega, by omega⟩ ⟨by omega, by omega⟩).mp h1
    have hq : ∀ q x, sP (upd (upd (slS S k p sd) 6 (nI (1 - sd))) 4 (efM S k)) q x = sP (slS S k p sd) q x := fun q x => by rw [sP_hd (by omega), sP_hd (by omega)]
    refine EJ_w (sd := 1 - sd) e hn iv.1.2.2.2.1 ak ap (by omega) b1 (fun q x hq' _ hx => by rw [hq, ho q x hq' hx]) (fun j _ => by rw [upd_ne (by omega), upd_ne (by omega), sl]) (by rw [upd_ne (by omega), upd_ne (by omega), sh 3 (by omega) (by omega)]; exact a3) (by rw [upd_ne (by omega), upd_ne (by omega), sh 5 (by omega) (by omega)]; exact a5) (by rw [upd_ne (by omega), upd_self]) (fun j x => by rw [sO_upd (by omega), sO_upd (by omega), sO']) (by rw [hq]; exact s2) (by simp only [dP] at r1 ⊢; rw [hq]; exact r1) ?_ (by rw [hq, s1]; exact n6) (by rw [upd_self]; omega)
    have : dP (upd (upd (slS S k p sd) 6 (nI (1 - sd))) 4 (efM S k)) p (1 - (1 - sd)) = sO S k 3 := by
      rw [ss]
      simp only [dP] at sA ⊢
      rw [hq]; exact sA
    rw [this, hq, s1]
    omega
  · rw [if_neg h1]
    by_cases h2 : gndM (slS S k p sd) p sd (sO S k 3) = true
    · rw [if_pos h2]
      obtain ⟨r1, r2⟩ := (gnd_int (S := slS S k p sd) (p := p) (sd := sd) (dd := sO S k 3) ⟨by omega, by omega⟩ (congrArg Int32.toInt s1) (congrArg Int32.toInt sA) (congrArg Int32.toInt sB) ⟨by omega, by omega⟩ ⟨by omega, by omega⟩ ⟨by omega, by omega⟩).mp h2
      obtain ⟨f1, f2, f3, f4, f5⟩ := gr_pl (S := slS S k p sd) (p := p) asd (congrArg Int32.toInt s1) (congrArg Int32.toInt sA) (congrArg Int32.toInt sB) ⟨by omega, by omega⟩ ⟨by omega, by omega⟩ ⟨by omega, by omega⟩
      have hq : ∀ q x, sP (upd (opGrind (slS S k p sd) p sd) 4 (efM S k + 10)) q x = sP (opGrind (slS S k p sd) p sd) q x := fun q x => by rw [sP_hd (by omega)]
      have gh : ∀ x, (x < 9 ∨ 150 ≤ x) → opGrind (slS S k p sd) p sd x = slS S k p sd x := fun x hx => opGrind_hd' hx (by omega) asd
      have e10 : (efM S k + 10).toInt = (efM S k).toInt + 10 := i_addB (by omega) (by omega) (by decide) (by decide)
      refine EJ_w (sd := sd) e hn iv.1.2.2.2.1 ak ap asd b1 (fun q x hq' _ hx => by rw [hq, opGrind_P asd hx, if_neg hq', ho q x hq' hx]) (fun j _ => by rw [upd_ne (by omega), gh _ (by omega), sl]) (by rw [upd_ne (by omega), gh 3 (by omega), sh 3 (by omega) (by omega)]; exact a3) (by rw [upd_ne (by omega), gh 5 (by omega), sh 5 (by omega) (by omega)]; exact a5) (by rw [upd_ne (by omega), gh 6 (by omega), sh 6 (by omega) (by omega)]; exact a6) (fun j x => by rw [sO_upd (by omega), show sO (opGrind (slS S k p sd) p sd) j x = sO (slS S k p sd) j x from gh _ (by omega), sO']) (by rw [hq, f4]; exact s2) (by simp only [dP] at f2 ⊢; rw [hq]; exact f2) ?_ (by rw [hq]; omega) (by rw [upd_self, e10]; omega)
      have : (dP (upd (opGrind (slS S k p sd) p sd) 4 (efM S k + 10)) p (1 - sd)).toInt = (dP S p (1 - sd)).toInt := by
        rw [← f3]
        simp only [dP]
        rw [hq]
      rw [this, hq]
      omega
    · rw [if_neg h2]
      have hq : ∀ q x, x < 7 → sP (opRest (upd (slS S k p sd) (10 + 7 * p + 2) 3)) q x = if q = p ∧ x = 2 then 3 else sP (slS S k p sd) q x := fun q x hx => by
        rw [← sP_upd (by omega) hx]
        exact opRest_ge (by omega)
      have p2 : sP (opRest (upd (slS S k p sd) (10 + 7 * p + 2) 3)) p 2 = 3 := by rw [hq p 2 (by omega), if_pos ⟨rfl, rfl⟩]
      have q2 : ∀ q x, q ≠ p → x < 7 → sP (opRest (upd (slS S k p sd) (10 + 7 * p + 2) 3)) q x = sP S q x := fun q x hq' hx => by rw [hq q x hx, if_neg (by omega), ho q x hq' hx]
      have hh : ∀ x, 150 ≤ x → opRest (upd (slS S k p sd) (10 + 7 * p + 2) 3) x = S x := fun x hx => by rw [opRest_ge (by omega), upd_ne (by omega), slS_ge hx (by omega) asd]
      refine ⟨fun q hq' => ?_, .inl ⟨by rw [opRest_at, if_pos (by omega)], fun q hq' => ?_⟩, EO_eq eO (fun j x _ _ => hh _ (by omega)), ES_mono eS (fun j hj => hh _ (by omega)) (fun j hj q hq' h => ?_)⟩
      · by_cases e : q = p
        · subst e
          exact ⟨.inr (.inr (.inr p2)), fun z => absurd p2 z, fun z => by rw [p2] at z; exact absurd z (by decide)⟩
        · exact EPl_eq (eP q hq') (fun x _ hx => q2 q x e hx)
      · by_cases e : q = p
        · rw [e, p2]; decide
        · rw [q2 q 2 e (by omega)]
          exact fun h => e (b1 q hq' h)
      · by_cases e : q = p
        · rw [onS_iff, e, p2] at h; exact absurd h.1 (by decide)
        · rw [onS_iff, q2 q 2 e (by omega), q2 q 5 e (by omega)] at h
          exact onS_iff.mpr h
/-- work is taken up -/
theorem EJ_go (iv : Iv S nS nP nO) (e : EJ S nS nP nO) : EJ (opGo S nP nO) nS nP nO := by
  rcases opGo_cases iv with ⟨-, q⟩ | ⟨-, -, q⟩ | ⟨hz, k, w, p, hg, hk, hp0, hs, q⟩
  · rw [q]; exact e
  · rw [q]; exact e
  · rw [q]
    obtain ⟨eP, eW, eO, eS⟩ := id e
    have hn := iv.1.2.2.2.2.1
    obtain ⟨k1, -, k3⟩ := goF_some hg
    obtain ⟨-, p2, -, -⟩ := fnd_lt k3
    simp only [okM, Bool.and_eq_true, decide_eq_true_eq] at p2
    obtain ⟨⟨z2, -⟩, hm⟩ := p2
    obtain ⟨ef1, ef2⟩ := ef_int iv.2.2.2.1 eO hk
    obtain ⟨-, -, -, d1, d5⟩ := eO k hk
    obtain ⟨n3, n4, n5, n6⟩ := pl_num iv.2.2.1 (eP p hp0) hp0 (by rw [z2]; decide)
    have w9 : ∀ q, q < nP → sP S q 2 ≠ 1 := by
      rcases eW with ⟨-, h⟩ | ⟨k', p', sd', a, -⟩
      · exact h
      · exact absurd (a.1.symm.trans hz) (nI_ne9 (by have := iv.1.2.2.2.2.2; have := a.2.1; omega))
    have hmm : mayM S p (sdF S p (sO S k 3) w) (sO S k 3) w = true := by
      simp only [sdF]
      by_cases hc : mayM S p 0 (sO S k 3) w = true
      · rw [if_pos hc]; exact hc
      · rw [if_neg hc]
        simpa [Bool.eq_false_iff.mpr hc] using hm
    generalize hsd : sdF S p (sO S k 3) w = sd at *
    have bb : 0 ≤ (dP S p sd).toInt ∧ (dP S p sd).toInt ≤ 30 ∧ 0 ≤ (dP S p (1 - sd)).toInt ∧ (dP S p (1 - sd)).toInt ≤ 30 := by
      rcases (show sd = 0 ∨ sd = 1 by omega) with rfl | rfl
      · exact ⟨n3, by show (sP S p 3).toInt ≤ 30; omega, n4, by show (sP S p 4).toInt ≤ 30; omega⟩
      · exact ⟨n4, by show (sP S p 4).toInt ≤ 30; omega, n3, by show (sP S p 3).toInt ≤ 30; omega⟩
    cases w with
    | false =>
      simp only [mayM, if_neg (show ¬ false = true by decide)] at hmm
      obtain ⟨r1, r2⟩ := (rdy_int (S := S) (p := p) (sd := sd) (dd := sO S k 3) ⟨by omega, by omega⟩ rfl rfl ⟨by omega, by omega⟩ ⟨by omega, by omega⟩).mp hmm
      simp only [opBegin, if_neg (show ¬ false = true by decide)]
      have hq : ∀ q x, x < 7 → sP (upd (upd (upd (upd (upd S 3 (nI k)) 5 (nI p)) 6 (nI sd)) 4 (efM S k)) (10 + 7 * p + 2) 1) q x = if q = p ∧ x = 2 then 1 else sP S q x := fun q x hx => by
        rw [sP_upd (by omega) hx, sP_hd (by omega), sP_hd (by omega), sP_hd (by omega), sP_hd (by omega)]
      have hh : ∀ x, 150 ≤ x → upd (upd (upd (upd (upd S 3 (nI k)) 5 (nI p)) 6 (nI sd)) 4 (efM S k)) (10 + 7 * p + 2) 1 x = S x := fun x hx => by
        rw [upd_ne (by omega), upd_ne (by omega), upd_ne (by omega), upd_ne (by omega), upd_ne (by omega)]
      refine EJ_w (sd := sd) (k := k) (p := p) e hn iv.1.2.2.2.1 hk hp0 hs (fun q hq' h => absurd h (w9 q hq')) (fun q x hq' _ hx => by rw [hq q x hx, if_neg (by omega)]) (fun j _ => hh _ (by omega)) (by rw [upd_ne (by omega), upd_ne (by omega), upd_ne (by omega), upd_ne (by omega), upd_self]) (by rw [upd_ne (by omega), upd_ne (by omega), upd_ne (by omega), upd_self]) (by rw [upd_ne (by omega), upd_ne (by omega), upd_self]) (fun j x => hh _ (by omega)) (by rw [hq p 2 (by omega), if_pos ⟨rfl, rfl⟩]) (by simp only [dP] at r1 ⊢; rw [hq p _ (by omega), if_neg (by omega)]; exact r1) ?_ (by rw [hq p 1 (by omega), if_neg (by omega)]; exact n6) (by rw [upd_ne (by omega), upd_self]; omega)
      simp only [dP] at r2 ⊢
      rw [hq p _ (by omega), if_neg (by omega), hq p 1 (by omega), if_neg (by omega)]
      omega
    | true =>
      simp only [mayM, if_true] at hmm
      obtain ⟨r1, r2⟩ := (gnd_int (S := S) (p := p) (sd := sd) (dd := sO S k 3) ⟨by omega, by omega⟩ rfl rfl rfl ⟨by omega, by omega⟩ ⟨by omega, by omega⟩ ⟨by omega, by omega⟩).mp hmm
      simp only [opBegin, if_true]
      generalize hT : upd (upd (upd (upd (upd S 3 (nI k)) 5 (nI p)) 6 (nI sd)) 4 (efM S k + 10)) (10 + 7 * p + 2) 1 = T
      have hq : ∀ q x, x < 7 → sP T q x = if q = p ∧ x = 2 then 1 else sP S q x := fun q x hx => by
        rw [← hT, sP_upd (by omega) hx, sP_hd (by omega), sP_hd (by omega), sP_hd (by omega), sP_hd (by omega)]
      have hh : ∀ x, 150 ≤ x → T x = S x := fun x hx => by
        rw [← hT, upd_ne (by omega), upd_ne (by omega), upd_ne (by omega), upd_ne (by omega), upd_ne (by omega)]
      have t1 : sP T p 1 = sP S p 1 := by rw [hq p 1 (by omega), if_neg (by omega)]
      have tA : dP T p sd = dP S p sd := by simp only [dP]; rw [hq p _ (by omega), if_neg (by omega)]
      have tB : dP T p (1 - sd) = dP S p (1 - sd) := by simp only [dP]; rw [hq p _ (by omega), if_neg (by omega)]
      obtain ⟨f1, f2, f3, f4, f5⟩ := gr_pl (S := T) (p := p) hs (congrArg Int32.toInt t1) (congrArg Int32.toInt tA) (congrArg Int32.toInt tB) ⟨by omega, by omega⟩ ⟨by omega, by omega⟩ ⟨by omega, by omega⟩
      have gh : ∀ x, (x < 9 ∨ 150 ≤ x) → opGrind T p sd x = T x := fun x hx => opGrind_hd' hx (by omega) hs
      have e10 : (efM S k + 10).toInt = (efM S k).toInt + 10 := i_addB (by omega) (by omega) (by decide) (by decide)
      refine EJ_w (sd := sd) (k := k) (p := p) e hn iv.1.2.2.2.1 hk hp0 hs (fun q hq' h => absurd h (w9 q hq')) (fun q x hq' _ hx => by rw [opGrind_P hs hx, if_neg hq', hq q x hx, if_neg (by omega)]) (fun j _ => by rw [gh _ (by omega), hh _ (by omega)]) (by rw [gh 3 (by omega), ← hT, upd_ne (by omega), upd_ne (by omega), upd_ne (by omega), upd_ne (by omega), upd_self]) (by rw [gh 5 (by omega), ← hT, upd_ne (by omega), upd_ne (by omega), upd_ne (by omega), upd_self]) (by rw [gh 6 (by omega), ← hT, upd_ne (by omega), upd_ne (by omega), upd_self]) (fun j x => by rw [show sO (opGrind T p sd) j x = sO T j x from gh _ (by omega)]; exact hh _ (by omega)) (by rw [f4, hq p 2 (by omega), if_pos ⟨rfl, rfl⟩]) f2 (by omega) (by omega) (by rw [gh 4 (by omega), ← hT, upd_ne (by omega), upd_self, e10]; omega)
end ZI3
