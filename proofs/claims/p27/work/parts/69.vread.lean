/-! the view: reads -/
theorem cnt_congr {A B : Nat → Bool} : ∀ {n}, (∀ p, p < n → A p = B p) → cnt A n = cnt B n
  | 0, _ => rfl
  | n + 1, h => by simp only [cnt, h n (by omega), cnt_congr (n := n) (fun p hp0 => h p (by omega))]
theorem firstO_congr {A B : Nat → Bool} : ∀ {n}, (∀ p, p < n → A p = B p) → firstO A n = firstO B n
  | 0, _ => rfl
  | n + 1, h => by simp only [firstO, h n (by omega), firstO_congr (n := n) (fun p hp0 => h p (by omega))]
theorem eaC_congr {A B : Nat → Bool} {y z : Nat → Int32} : ∀ {n}, (∀ p, p < n → A p = B p ∧ (B p = true → y p = z p)) → eaC A y n = eaC B z n
  | 0, _ => rfl
  | n + 1, h => by
    have ih := eaC_congr (n := n) (fun p hp0 => h p (by omega))
    obtain ⟨h1, h2⟩ := h n (by omega)
    cases hb : B n with
    | false => simp [eaC, h1, hb, ih]
    | true => simp [eaC, h1, hb, ih, h2 hb]
theorem laC_congr {A B : Nat → Bool} {y z : Nat → Int32} : ∀ {n}, (∀ p, p < n → A p = B p ∧ (B p = true → y p = z p)) → laC A y n = laC B z n
  | 0, _ => rfl
  | n + 1, h => by
    have ih := laC_congr (n := n) (fun p hp0 => h p (by omega))
    obtain ⟨h1, h2⟩ := h n (by omega)
    cases hb : B n with
    | false => simp [laC, h1, hb, ih]
    | true => simp [laC, h1, hb, ih, h2 hb]
theorem eaC_yr {B : Nat → Bool} {y : Nat → Int32} : ∀ n, eaC B y n = yrM B y 1 n
  | 0 => rfl
  | n + 1 => by simp only [eaC, yrM, eaC_yr n, Int32.one_mul]
/-- the year found is that of one of them -/
theorem yrM_of {B : Nat → Bool} {y : Nat → Int32} {sg : Int32} : ∀ {n}, yrM B y sg n ≠ -9 → ∃ p, p < n ∧ B p = true ∧ yrM B y sg n = y p
  | 0, h => absurd rfl h
  | n + 1, h => by
    simp only [yrM] at h ⊢
    split
    · rename_i hc
      simp only [Bool.and_eq_true] at hc
      exact ⟨n, by omega, hc.1, rfl⟩
    · rename_i hc
      rw [if_neg hc] at h
      obtain ⟨p, h1, h2, h3⟩ := yrM_of h
      exact ⟨p, by omega, h2, h3⟩
theorem yrM_some {B : Nat → Bool} {y : Nat → Int32} {sg : Int32} : ∀ {n}, (∀ p, p < n → B p = true → 1 ≤ y p) → ∀ {p}, p < n → B p = true → yrM B y sg n ≠ -9
  | 0, _, p, hp0, _ => by omega
  | n + 1, hy, p, hp0, hb => by
    have ne : ∀ q, q < n + 1 → B q = true → y q ≠ -9 := fun q hq hbq e => by
      have := hy q hq hbq
      rw [e] at this
      exact absurd this (by decide)
    simp only [yrM]
    split
    · rename_i hc
      simp only [Bool.and_eq_true] at hc
      exact ne n (by omega) hc.1
    · rename_i hc
      by_cases e : p = n
      · subst e
        simp only [hb, Bool.true_and, Bool.or_eq_true, decide_eq_true_eq, not_or] at hc
        exact hc.1
      · exact yrM_some (fun q hq => hy q (by omega)) (show p < n by omega) hb
theorem neg_lt {a b : Int32} (ha : 1 ≤ a) (hb : 1 ≤ b) : -1 * a < -1 * b ↔ b < a := by
  have h1 := i_le.mp ha
  have h2 := i_le.mp hb
  have l1 := Int32.toInt_lt a
  have l2 := Int32.toInt_lt b
  simp only [show (1 : Int32).toInt = 1 from rfl] at h1 h2
  have n : ∀ c : Int32, 1 ≤ c.toInt → (-1 * c).toInt = -c.toInt := fun c hc => by
    have l := Int32.toInt_lt c
    rw [show -1 * c = 0 - c by grind, Int32.toInt_sub, show (0 : Int32).toInt = 0 from rfl, Int.bmod_eq_of_le (by omega) (by omega)]
    omega
  rw [i_lt, i_lt, n a h1, n b h2]
  omega
theorem laC_yr_0 {B : Nat → Bool} {y : Nat → Int32} : laC B y 0 = yrM B y (-1) 0 := by rw [laC, yrM]
theorem laC_yr_s {B : Nat → Bool} {y : Nat → Int32} {n : Nat} (ih : laC B y n = yrM B y (-1) n) (h : ∀ p, p < n + 1 → B p = true → 1 ≤ y p) : laC B y (n + 1) = yrM B y (-1) (n + 1) := by
  rw [laC, yrM, ih]
  have k : (B n && (decide (yrM B y (-1) n = -9) || decide (yrM B y (-1) n < y n))) = (B n && (decide (yrM B y (-1) n = -9) || decide (-1 * y n < -1 * yrM B y (-1) n))) := by
    cases hb : B n with
    | false => rw [Bool.false_and, Bool.false_and]
    | true =>
      by_cases e : yrM B y (-1) n = -9
      · rw [decide_eq_true e, Bool.true_or, Bool.true_or]
      · obtain ⟨p, p1, p2, p3⟩ := yrM_of e
        have := neg_lt (h n (by omega) hb) (show 1 ≤ yrM B y (-1) n by rw [p3]; exact h p (by omega) p2)
        rw [decide_eq_decide.mpr this]
  rw [k]
theorem laC_yr {B : Nat → Bool} {y : Nat → Int32} {n : Nat} (h : ∀ p, p < n → B p = true → 1 ≤ y p) : laC B y n = yrM B y (-1) n := by
  induction n with
  | zero => exact laC_yr_0
  | succ n ih => exact laC_yr_s (ih (fun p hp0 => h p (by omega))) h
theorem first_last {B : Nat → Bool} {n : Nat} (hu : ∀ p q, p < n → q < n → B p = true → B q = true → p = q) : firstO B n = lastO B n := by
  cases hf : firstO B n with
  | none =>
    cases hl : lastO B n with
    | none => rfl
    | some q =>
      obtain ⟨q1, q2⟩ := lastO_lt hl
      rw [firstO_none hf q q1] at q2
      cases q2
  | some p =>
    obtain ⟨p1, p2, -⟩ := firstO_some hf
    have lastN : ∀ {n p : Nat}, p < n → B p = true → lastO B n ≠ none := by
      intro n
      induction n with
      | zero => intro p h; omega
      | succ n ih =>
        intro p h hb
        simp only [lastO]
        split
        · simp
        · rename_i hc
          by_cases e : p = n
          · subst e; exact absurd hb hc
          · exact ih (show p < n by omega) hb
    cases hl : lastO B n with
    | none => exact absurd hl (lastN p1 p2)
    | some q =>
      obtain ⟨q1, q2⟩ := lastO_lt hl
      rw [hu p q p1 q1 p2 q2]
theorem on_view {P : Nat → Nat → Int32} {S : Nat → Int32} {p j : Nat} (v : VP (P p) S p) (hj : j < 2 ^ 31) : onC P (nI j) p = onS S (nI j) p := by
  obtain ⟨-, -, -, -, -, v5, -⟩ := v
  have := nI_ne9 hj
  simp only [onC, onS, v5]
  by_cases h : sP S p 2 = 2
  · simp [h]
  · simp [h, Ne.symm this]
theorem oy_view {P : Nat → Nat → Int32} {S : Nat → Int32} {p j : Nat} (v : VP (P p) S p) (hj : j < 2 ^ 31) (y : Int32) : oyC P (nI j) y p = onY S (nI j) y p := by
  have e := on_view v hj
  obtain ⟨-, -, -, -, -, v5, v6⟩ := v
  simp only [oyC, onY]
  simp only [onC] at e
  rw [e]
  by_cases h : sP S p 2 = 2
  · simp [onS, h, v6]
  · simp [onS, h]
theorem year_ge {S : Nat → Int32} {nS nP : Nat} (iv : IvP S nS nP) (sh : Int32) : ∀ p, p < nP → onS S sh p = true → 1 ≤ sP S p 6 := fun p hp0 hb => by
  simp only [onS, Bool.and_eq_true, decide_eq_true_eq] at hb
  exact ((iv p hp0).2.2.2 hb.1).2.1
theorem onY_uni {S : Nat → Int32} {nP nO : Nat} (iu : IvU S nP nO) (sh y : Int32) : ∀ p q, p < nP → q < nP → onY S sh y p = true → onY S sh y q = true → p = q := fun p q hp0 hq h1 h2 => by
  simp only [onY, onS, Bool.and_eq_true, decide_eq_true_eq] at h1 h2
  exact iu.1 p q hp0 hq h1.1.1 h2.1.1 (by rw [h1.1.2, h2.1.2]) (by rw [h1.2, h2.2])
section ZVR
variable {P : Nat → Nat → Int32} {S : Nat → Int32} {nS nP nO j : Nat}
theorem platesOn_view (v : VPs P S nP) (hj : j < 2 ^ 31) : cnt (onC P (nI j)) nP = cnt (onS S (nI j)) nP := cnt_congr (fun p hp0 => on_view (v p hp0) hj)
theorem platesIn_view (v : VPs P S nP) (st : Int32) : cnt (fun p => decide (P p 2 = st)) nP = cnt (inS S st) nP := cnt_congr (fun p hp0 => by simp only [inS, (v p hp0).2.2.1])
theorem ea_view (v : VPs P S nP) (hj : j < 2 ^ 31) : eaC (onC P (nI j)) (fun x => P x 6) nP = yrM (onS S (nI j)) (fun p => sP S p 6) 1 nP := by
  rw [← eaC_yr]
  exact eaC_congr (fun p hp0 => ⟨on_view (v p hp0) hj, fun hb => by
    simp only [onS, Bool.and_eq_true, decide_eq_true_eq] at hb
    show P p 6 = _
    rw [(v p hp0).2.2.2.2.2.2, if_pos hb.1]⟩)
theorem la_view (v : VPs P S nP) (iv : IvP S nS nP) (hj : j < 2 ^ 31) : laC (onC P (nI j)) (fun x => P x 6) nP = yrM (onS S (nI j)) (fun p => sP S p 6) (-1) nP := by
  rw [← laC_yr (year_ge iv (nI j))]
  exact laC_congr (fun p hp0 => ⟨on_view (v p hp0) hj, fun hb => by
    simp only [onS, Bool.and_eq_true, decide_eq_true_eq] at hb
    show P p 6 = _
    rw [(v p hp0).2.2.2.2.2.2, if_pos hb.1]⟩)
theorem plateOf_view (v : VPs P S nP) (iu : IvU S nP nO) (hj : j < 2 ^ 31) (y : Int32) : firstO (oyC P (nI j) y) nP = lastO (onY S (nI j) y) nP := by
  rw [firstO_congr (fun p hp0 => oy_view (v p hp0) hj y)]
  exact first_last (onY_uni iu (nI j) y)
theorem er_view (v : VPs P S nP) (iu : IvU S nP nO) (hj : j < 2 ^ 31) : erC P (nI j) nP = earO S j nP := by
  simp only [erC, earO, ea_view v hj, plateOf_view v iu hj]
end ZVR
