/-! the view is kept: order, hurry -/
/-- the rush orders come first -/
def IvR (S : Nat → Int32) (nO c : Nat) : Prop := c ≤ nO ∧ ∀ j, j < nO → sO S j 4 = if j < c then 1 else 0
theorem i_10 : (1 : Int32) ≠ 0 := by decide
section ZVR2
variable {S S' s s' pf N N' A : Nat → Int32} {P O O' L L' : Nat → Nat → Int32} {pi : Nat → Nat} {nS nP nO p k c pl : Nat}
theorem cntN_R {B : Nat → Bool} : ∀ n, c ≤ n → (∀ j, j < n → B j = decide (j < c)) → cntN B n = c
  | 0, hc, _ => by simp only [cntN]; omega
  | n + 1, hc, h => by
    simp only [cntN, h n (by omega)]
    by_cases e : c = n + 1
    · have full : ∀ m, m ≤ n → cntN B m = m := fun m => by
        induction m with
        | zero => intro _; rfl
        | succ m ih => intro hm; simp only [cntN, ih (by omega), h m (by omega)]; rw [if_pos (decide_eq_true (by omega))]
      rw [full n (Nat.le_refl _), if_pos (decide_eq_true (by omega))]
      omega
    · rw [cntN_R n (by omega) (fun j hj => h j (by omega)), if_neg (by simp; omega)]
      omega
theorem rs_view (vO : VOs pi O N L S nO) (r : IvR S nO c) : cntN (rsC O pi) nO = c :=
  cntN_R nO r.1 (fun j hj => by
    simp only [rsC, (vO j hj).2.2.2.2.1, r.2 j hj]
    by_cases e : j < c
    · simp [e, i_10]
    · simp [e])
theorem sumM_R : ∀ n, n ≤ nO → IvR S nO c → sumM (fun k => sO S k 4) n = nI (if n < c then n else c)
  | 0, _, r => by
    have : (if 0 < c then 0 else c) = 0 := by split <;> omega
    rw [this]; rfl
  | n + 1, hn, r => by
    simp only [sumM, sumM_R n (by omega) r, r.2 n (by omega)]
    by_cases h : n < c
    · rw [if_pos h, if_pos h, nI_1]
      congr 1
      split <;> omega
    · rw [if_neg h, if_neg h, if_neg (by omega), Int32.add_zero]
theorem sum_view (r : IvR S nO c) : sumM (fun k => sO S k 4) nO = nI c := by
  rw [sumM_R nO (Nat.le_refl _) r]
  have := r.1
  congr 1
  split <;> omega
theorem VOs_off (vO : VOs pi O N L S nO) (hpi : PI pi) (hO : nO < 10) (h1 : ∀ i, i ≠ pi nO → O' i = O i) (h2 : ∀ i, i ≠ pi nO → N' i = N i) (h3 : ∀ i, i ≠ pi nO → L' i = L i) : VOs pi O' N' L' S nO := fun k hk => by
  have e : pi k ≠ pi nO := fun e => by have := hpi.2 _ _ (by omega) (by omega) e; omega
  rw [h1 _ e, h2 _ e, h3 _ e]
  exact vO k hk
theorem order_view {sh : Nat} {y : Int32} (vw : Vw s P pf pi O N L S nS nP nO) (iv : Iv S nS nP nO) (hO : nO < 10) (hpl : pl ≤ nO)
    (h1 : ∀ i, i ≠ pi nO → O' i = O i) (h2 : ∀ i, i ≠ pi nO → N' i = N i) (h3 : ∀ i, i ≠ pi nO → L' i = L i) (va : VA (O' (pi nO)) (N' (pi nO)) (L' (pi nO)) A)
    (a0 : A 0 = nI sh) (ash : sh < nS) (a1 : A 1 = y) (y1 : 1 ≤ y) (y2 : y ≤ 999) (a3 : 0 ≤ A 3) (a4 : A 4 = 0 ∨ A 4 = 1) (a5 : A 5 = nI (A 5).toNatClampNeg) (a6 : 1 ≤ (A 5).toNatClampNeg) (a7 : (A 5).toNatClampNeg ≤ 12)
    (n1 : ∀ q, q < nP → onY S (nI sh) y q = false) (n2 : ∀ j, j < nO → orY S (nI sh) y j = false) :
    Vw (upd (upd s 5 (nI (nO + 1))) 6 (mvA (s 6) nO pl)) P pf (mvC pi nO pl) O' N' L' (opPut S A pl nO) nS nP (nO + 1) ∧ Iv (opPut S A pl nO) nS nP (nO + 1) := by
  obtain ⟨vH, vpi, vP, vF, vO⟩ := vw
  obtain ⟨iC, iW, iP, iO, iU⟩ := id iv
  obtain ⟨c0, c1, c2, c3, c4, c5⟩ := id iC
  have hd : ∀ x, x < 153 → x ≠ 2 → x ≠ 3 → opPut S A pl nO x = S x := fun x a b c => opPut_hd a b c
  have hP : ∀ q x, q < 20 → x < 7 → sP (opPut S A pl nO) q x = sP S q x := fun q x hq hx => opPut_P hq hx
  have hOO : ∀ j x, j ≤ nO → x < 19 → sO (opPut S A pl nO) j x = _ := fun j x hj hx => opPut_O (S := S) (A := A) hpl hj hx
  have w3 := IvW_3 iW
  have m3 : mvA (s 6) nO pl = opPut S A pl nO 3 := by
    rw [opPut_3, vH.2.2.2.1]
    exact mvA_put (by omega) hpl w3
  have n3 : opPut S A pl nO 3 = -9 ↔ S 3 = -9 := by
    rw [opPut_3]
    rcases w3 with e | ⟨a, ha, e⟩
    · rw [e, if_neg (nI_nle9 (by omega)), Int32.add_zero]
    · rw [e]
      simp only [nI_leI (show pl < 2 ^ 31 by omega) (show a < 2 ^ 31 by omega)]
      by_cases h : pl ≤ a
      · rw [if_pos h, nI_1]
        exact ⟨fun q => absurd q (nI_ne9 (by omega)), fun q => absurd q (nI_ne9 (by omega))⟩
      · rw [if_neg h, Int32.add_zero]
  refine ⟨⟨?_, PI_mv vpi hpl hO, VPs_eq c4 hP vP, VFs_eq vF (fun j hj => hd _ (by omega) (by omega) (by omega)) c3, VOs_put (VOs_off vO vpi hO h1 h2 h3) hpl (fun j hj => (iO j hj).2.2.2.2.2.2.2) va a7 (fun _ _ => rfl)⟩, ?_⟩
  · obtain ⟨v3, v4, v5, v6, v7, v8, v9, v10, v11, v12⟩ := vH
    have r6 : upd (upd s 5 (nI (nO + 1))) 6 (mvA (s 6) nO pl) 6 = opPut S A pl nO 3 := by rw [upd_self, m3]
    have r5 : upd (upd s 5 (nI (nO + 1))) 6 (mvA (s 6) nO pl) 5 = nI (nO + 1) := by rw [upd_ne (by omega), upd_self]
    have ro : ∀ x, x ≠ 5 → x ≠ 6 → upd (upd s 5 (nI (nO + 1))) 6 (mvA (s 6) nO pl) x = s x := fun x a b => by rw [upd_ne b, upd_ne a]
    simp only [VH, r6, r5, ro 3 (by omega) (by omega), ro 4 (by omega) (by omega), ro 7 (by omega) (by omega), ro 8 (by omega) (by omega), ro 9 (by omega) (by omega), ro 10 (by omega) (by omega), ro 11 (by omega) (by omega), ro 12 (by omega) (by omega), n3, opPut_2, hd 0 (by omega) (by omega) (by omega), hd 1 (by omega) (by omega) (by omega), hd 4 (by omega) (by omega) (by omega), hd 5 (by omega) (by omega) (by omega), hd 6 (by omega) (by omega) (by omega), hd 7 (by omega) (by omega) (by omega), hd 8 (by omega) (by omega) (by omega), hd 9 (by omega) (by omega) (by omega)]
    exact ⟨v3, v4, trivial, trivial, v7, v8, v9, v10, v11, v12⟩
  · refine Iv_add iv ⟨by rw [hd 0 (by omega) (by omega) (by omega), c0], by rw [hd 1 (by omega) (by omega) (by omega), c1], opPut_2, c3, c4, by omega⟩ ?_ (fun q x hq hx => hP q x (by omega) hx) hpl hOO a0 ash a1 y1 y2 a3 a4 a5 a6 a7 n1 n2
    rcases iW with ⟨w1, w2⟩ | ⟨a, q, sd, w1, w2, w3, w4, w5, w6, w7⟩
    · exact .inl ⟨n3.mpr w1, by rw [hd 5 (by omega) (by omega) (by omega), w2]⟩
    · refine .inr ⟨if pl ≤ a then a + 1 else a, q, sd, ?_, by split <;> omega, by rw [hd 5 (by omega) (by omega) (by omega), w3], w4, by rw [hd 6 (by omega) (by omega) (by omega), w5], w6, by rw [hP q 2 (by omega) (by omega), w7]⟩
      rw [opPut_3, w1]
      simp only [nI_leI (show pl < 2 ^ 31 by omega) (show a < 2 ^ 31 by omega)]
      by_cases h : pl ≤ a
      · rw [if_pos h, if_pos h, nI_1]
      · rw [if_neg h, if_neg h, Int32.add_zero]
theorem order_R {r : Int32} (hr : IvR S nO c) (hc : A 4 = r) (h01 : r = 0 ∨ r = 1) : (r = 1 → IvR (opPut S A c nO) (nO + 1) (c + 1)) ∧ (r = 0 → IvR (opPut S A nO nO) (nO + 1) c) := by
  obtain ⟨r1, r2⟩ := hr
  refine ⟨fun e => ⟨by omega, fun j hj => ?_⟩, fun e => ⟨by omega, fun j hj => ?_⟩⟩
  · rw [opPut_O r1 (by omega) (by omega)]
    by_cases h : j = c
    · rw [if_pos h, if_pos (by omega), hc, e]
    · rw [if_neg h, r2 _ (by split <;> omega)]
      by_cases h2 : j < c
      · rw [if_pos h2, if_pos h2, if_pos (by omega)]
      · rw [if_neg h2, if_neg (by omega), if_neg (by omega)]
  · rw [opPut_O (Nat.le_refl _) (by omega) (by omega)]
    by_cases h : j = nO
    · rw [if_pos h, if_neg (by omega), hc, e]
    · rw [if_neg h, if_pos (by omega), r2 _ (by omega)]
theorem take_R (hk : k < nO) (hr : IvR S nO c) (h : ∀ j, sO S' j 4 = sO (opTake S k nO) j 4) : IvR S' (nO - 1) (if k < c then c - 1 else c) := by
  obtain ⟨r1, r2⟩ := hr
  refine ⟨by split <;> omega, fun j hj => ?_⟩
  rw [h, opTake_O hk hj (by omega), r2 _ (by split <;> omega)]
  congr 1
  refine propext ?_
  (repeat' split) <;> omega
def opHur (S AS : Nat → Int32) (k c nO : Nat) : Nat → Int32 :=
  upd (opPut (opTake S k nO) (upd (cpTo AS (fun x => sO S k x) 19) 4 1) c (nO - 1)) 3 (if S 3 = nI k then nI c else opPut (opTake S k nO) (upd (cpTo AS (fun x => sO S k x) 19) 4 1) c (nO - 1) 3)
theorem hur_A {AS : Nat → Int32} {x : Nat} (hx : x < 19) : upd (cpTo AS (fun x => sO S k x) 19) 4 1 x = if x = 4 then 1 else sO S k x := by
  simp only [upd, cpTo, hx, if_true]
theorem hur_O {AS : Nat → Int32} {j x : Nat} (hk : k < nO) (hc : c ≤ k) (hj : j < nO) (hx : x < 19) : sO (opHur S AS k c nO) j x = if j = c then (if x = 4 then 1 else sO S k x) else sO S (if c < j ∧ j ≤ k then j - 1 else j) x := by
  simp only [opHur]
  rw [sO_upd (by omega), opMv_O hk hc hj hx, hur_A hx]
theorem hur_le (hr : IvR S nO c) (hk : k < nO) (h0 : sO S k 4 = 0) : c ≤ k := by
  have := hr.2 k hk
  rw [h0] at this
  by_cases h : k < c
  · rw [if_pos h] at this; exact absurd this (by decide)
  · omega
theorem hurry_view {AS : Nat → Int32} (vw : Vw s P pf pi O N L S nS nP nO) (iv : Iv S nS nP nO) (hr : IvR S nO c) (hk : k < nO) (h0 : sO S k 4 = 0) :
    Vw (upd s 6 (mvA (s 6) k c)) P pf (mvC pi k c) (va_up O (pi k) (upd (O (pi k)) 4 1)) N L (opHur S AS k c nO) nS nP nO ∧ Iv (opHur S AS k c nO) nS nP nO ∧ IvR (opHur S AS k c nO) nO (c + 1) := by
  have hc := hur_le hr hk h0
  obtain ⟨vH, vpi, vP, vF, vO⟩ := vw
  obtain ⟨iC, iW, iP, iO, iU⟩ := id iv
  obtain ⟨c0, c1, c2, c3, c4, c5⟩ := id iC
  have hd : ∀ x, x < 153 → x ≠ 2 → x ≠ 3 → opHur S AS k c nO x = S x := fun x a b e => by
    simp only [opHur]
    rw [upd_ne e, opPut_hd a b e, opTake_hd a b e]
  have h2 : opHur S AS k c nO 2 = nI nO := by
    simp only [opHur]
    rw [upd_ne (by omega), opPut_2]
    congr 1
    omega
  have hP : ∀ q x, q < 20 → x < 7 → sP (opHur S AS k c nO) q x = sP S q x := fun q x hq hx => hd _ (by omega) (by omega) (by omega)
  have hOO : ∀ j x, j < nO → x < 19 → sO (opHur S AS k c nO) j x = _ := fun j x hj hx => hur_O (S := S) (AS := AS) hk hc hj hx
  have w3 := IvW_3 iW
  have m3 : mvA (s 6) k c = opHur S AS k c nO 3 := by
    simp only [opHur]
    rw [upd_self, vH.2.2.2.1]
    by_cases e : S 3 = nI k
    · rw [if_pos e, e, mvA_nI (by omega) hc (by omega), if_pos rfl]
    · rw [if_neg e, opPut_3, opTake_3]
      exact mvA_mv hk c5 hc w3 e
  have i3 : (S 3 = -9 → opHur S AS k c nO 3 = -9) ∧ ∀ a, a < nO → S 3 = nI a → opHur S AS k c nO 3 = nI (if a = k then c else if c ≤ a ∧ a < k then a + 1 else a) := by
    rw [← m3, vH.2.2.2.1]
    refine ⟨fun e => by rw [e, mvA_9 (by omega) hc], fun a ha e => by rw [e, mvA_nI (by omega) hc (by omega)]⟩
  have n3 : opHur S AS k c nO 3 = -9 ↔ S 3 = -9 := by
    rcases w3 with e | ⟨a, ha, e⟩
    · exact ⟨fun _ => e, fun _ => i3.1 e⟩
    · rw [i3.2 a ha e, e]
      exact ⟨fun q => absurd q (nI_ne9 (by (repeat' split) <;> omega)), fun q => absurd q (nI_ne9 (by omega))⟩
  have ka := vO k hk
  have nkk : (upd (cpTo AS (fun x => sO S k x) 19) 4 1 5).toNatClampNeg = nk S k := by rw [hur_A (by omega), if_neg (by omega)]; rfl
  refine ⟨⟨?_, PI_mv vpi hc (by omega), VPs_eq c4 hP vP, VFs_eq vF (fun j hj => hd _ (by omega) (by omega) (by omega)) c3, VOs_mv vpi vO hk c5 hc (fun j hj => (iO j hj).2.2.2.2.2.2.2) (fun i hi => va_up_ne _ _ hi) ?_ (by rw [nkk]; exact (iO k hk).2.2.2.2.2.2.2) (fun j x => by simp only [opHur]; rw [sO_upd (by omega)])⟩, ?_, ?_⟩
  · obtain ⟨v3, v4, v5, v6, v7, v8, v9, v10, v11, v12⟩ := vH
    have r6 : upd s 6 (mvA (s 6) k c) 6 = opHur S AS k c nO 3 := by rw [upd_self, m3]
    have ro : ∀ x, x ≠ 6 → upd s 6 (mvA (s 6) k c) x = s x := fun x b => by rw [upd_ne b]
    simp only [VH, r6, ro 3 (by omega), ro 4 (by omega), ro 5 (by omega), ro 7 (by omega), ro 8 (by omega), ro 9 (by omega), ro 10 (by omega), ro 11 (by omega), ro 12 (by omega), n3, h2, hd 0 (by omega) (by omega) (by omega), hd 1 (by omega) (by omega) (by omega), hd 4 (by omega) (by omega) (by omega), hd 5 (by omega) (by omega) (by omega), hd 6 (by omega) (by omega) (by omega), hd 7 (by omega) (by omega) (by omega), hd 8 (by omega) (by omega) (by omega), hd 9 (by omega) (by omega) (by omega)]
    exact ⟨v3, v4, by rw [v5, c2], trivial, v7, v8, v9, v10, v11, v12⟩
  · obtain ⟨o0, o1, o2, o3, o4, o5, o6⟩ := ka
    rw [va_up_self]
    refine ⟨?_, ?_, ?_, ?_, ?_, ?_, fun x hx => ?_⟩
    · rw [upd_ne (by omega), hur_A (by omega), if_neg (by omega), o0]
    · rw [upd_ne (by omega), hur_A (by omega), if_neg (by omega), o1]
    · rw [upd_ne (by omega), hur_A (by omega), if_neg (by omega), o2]
    · rw [upd_ne (by omega), hur_A (by omega), if_neg (by omega), o3]
    · rw [upd_self, hur_A (by omega), if_pos rfl]
    · rw [hur_A (by omega), if_neg (by omega), o5]
    · rw [nkk] at hx
      have := (iO k hk).2.2.2.2.2.2.2
      rw [hur_A (by omega), if_neg (by omega)]
      exact o6 x hx
  · refine Iv_gen (p := 0) (k := 0) (fun j => if j = c then k else if c < j ∧ j ≤ k then j - 1 else j) iv ⟨by rw [hd 0 (by omega) (by omega) (by omega), c0], by rw [hd 1 (by omega) (by omega) (by omega), c1], h2, c3, c4, c5⟩ (Nat.le_refl _) ?_ (fun q hq => ?_) (fun j hj => ⟨by (repeat' split) <;> omega, fun x hx h4 => ?_⟩) (fun j hj => ?_) (fun a b _ _ e => by (repeat' split at e) <;> omega)
    · rcases iW with ⟨w1, w2⟩ | ⟨a, q, sd, w1, w2, w3, w4, w5, w6, w7⟩
      · exact .inl ⟨n3.mpr w1, by rw [hd 5 (by omega) (by omega) (by omega), w2]⟩
      · exact .inr ⟨_, q, sd, i3.2 a w2 w1, by (repeat' split) <;> omega, by rw [hd 5 (by omega) (by omega) (by omega), w3], w4, by rw [hd 6 (by omega) (by omega) (by omega), w5], w6, by rw [hP q 2 (by omega) (by omega), w7]⟩
    · rw [hP q 0 (by omega) (by omega), hP q 3 (by omega) (by omega), hP q 4 (by omega) (by omega), hP q 2 (by omega) (by omega), hP q 5 (by omega) (by omega), hP q 6 (by omega) (by omega)]
      obtain ⟨q0, q3, q4, q2⟩ := iP q hq
      exact ⟨q0, q3, q4, fun e => .inl ⟨hq, e, rfl, rfl⟩⟩
    · rw [hOO j x hj (by omega)]
      by_cases e : j = c
      · rw [if_pos e, if_neg h4, if_pos e]
      · rw [if_neg e, if_neg e]
    · rw [hOO j 4 hj (by omega)]
      by_cases e : j = c
      · rw [if_pos e, if_pos rfl]; exact .inr rfl
      · rw [if_neg e]
        exact (iO _ (by (repeat' split) <;> omega)).2.2.2.2.1
  · refine ⟨by omega, fun j hj => ?_⟩
    rw [hOO j 4 hj (by omega)]
    by_cases e : j = c
    · rw [if_pos e, if_pos rfl, if_pos (by omega)]
    · rw [if_neg e, hr.2 _ (by (repeat' split) <;> omega)]
      congr 1
      refine propext ?_
      (repeat' split) <;> omega
end ZVR2
