/-! countings that the law makes -/
theorem lastO_congr {A B : Nat → Bool} : ∀ {n}, (∀ p, p < n → A p = B p) → lastO A n = lastO B n
  | 0, _ => rfl
  | n + 1, h => by
    simp only [lastO]
    rw [h n (by omega), lastO_congr (fun p hp0 => h p (by omega))]
def isS1 (o : Option Nat) : Bool := match o with
  | some _ => true
  | none => false
/-- as many values are taken as there are things, where no two take the same -/
theorem cnt_img {B : Nat → Bool} {f : Nat → Nat} {m : Nat} : ∀ n, (∀ p, p < n → B p = true → f p < m) → (∀ p q, p < n → q < n → B p = true → B q = true → f p = f q → p = q) → cntN (fun i => isS1 (lastO (fun p => B p && decide (f p = i)) n)) m = cntN B n
  | 0, _, _ => cntN_zero m (fun k hk => rfl)
  | n + 1, h1, h2 => by
    have ih := cnt_img n (fun p hp0 => h1 p (by omega)) (fun p q hp0 hq => h2 p q (by omega) (by omega))
    simp only [cntN]
    cases hb : B n with
    | false =>
      rw [if_neg (by decide), Nat.add_zero, ← ih]
      refine cntN_congr m (fun i hi => ?_)
      simp only [lastO, hb, Bool.false_and, if_neg (show ¬ false = true by decide)]
    | true =>
      rw [if_pos rfl, ← ih]
      refine cntN_one m (h1 n (by omega) hb) ?_ ?_ (fun i hi hne => ?_)
      · simp [lastO, hb, isS1]
      · cases hl : lastO (fun p => B p && decide (f p = f n)) n with
        | none => rfl
        | some q =>
          obtain ⟨q1, q2⟩ := lastO_lt hl
          simp only [Bool.and_eq_true, decide_eq_true_eq] at q2
          have := h2 q n (by omega) (by omega) q2.1 hb q2.2
          omega
      · have : ¬ f n = i := fun e => hne e.symm
        simp [lastO, hb, this]
def sumN (f : Nat → Nat) : Nat → Nat
  | 0 => 0
  | n + 1 => sumN f n + f n
section ZK1
variable {S : Nat → Int32} {nS nP nO c k : Nat}
theorem on_step (S : Nat → Int32) (n : Nat) : ∀ k, sumN (fun i => cntN (onS S (nI i)) (n + 1)) k = sumN (fun i => cntN (onS S (nI i)) n) k + cntN (fun i => onS S (nI i) n) k
  | 0 => rfl
  | k + 1 => by
    simp only [sumN, on_step S n k]
    simp only [cntN]
    omega
/-- the plates on all shields -/
theorem on_sum (hs : nS ≤ 3) : ∀ n, (∀ p, p < n → sP S p 2 = 2 → ∃ j, j < nS ∧ sP S p 5 = nI j) → sumN (fun i => cntN (onS S (nI i)) n) nS = cntN (inS S 2) n
  | 0, _ => by
    have : ∀ m, sumN (fun i => cntN (onS S (nI i)) 0) m = 0 := fun m => by
      induction m with
      | zero => rfl
      | succ m ih =>
        show sumN (fun i => cntN (onS S (nI i)) 0) m + 0 = 0
        rw [ih]
    rw [this]; rfl
  | n + 1, h => by
    rw [on_step, on_sum hs n (fun p hp0 => h p (by omega))]
    simp only [cntN]
    congr 1
    by_cases h2 : sP S n 2 = 2
    · obtain ⟨j, hj, e⟩ := h n (by omega) h2
      rw [show inS S 2 n = true from decide_eq_true h2, if_pos rfl]
      have := cntN_one (A := fun i => onS S (nI i) n) (B := fun _ => false) (q := j) nS hj (by simp [onS, h2, e]) rfl (fun i hi hne => by
        simp only [onS, h2, e, decide_true, Bool.true_and]
        exact decide_eq_false (fun q => hne ((nI_eqI (by omega) (by omega)).mp q).symm))
      rw [this, cntN_zero nS (fun _ _ => rfl)]
    · rw [show inS S 2 n = false from decide_eq_false h2, if_neg (by decide)]
      exact cntN_zero nS (fun i hi => by simp [onS, h2])
theorem st_sum : ∀ n, (∀ p, p < n → EPl S p) → cntN (inS S 0) n + cntN (inS S 1) n + cntN (inS S 2) n + cntN (inS S 3) n = n
  | 0, _ => rfl
  | n + 1, h => by
    have ih := st_sum n (fun p hp0 => h p (by omega))
    have q : ∀ st, (if inS S st n = true then 1 else 0) = if sP S n 2 = st then 1 else 0 := fun st => by
      by_cases e : sP S n 2 = st
      · rw [show inS S st n = true from decide_eq_true e, if_pos rfl, if_pos e]
      · rw [show inS S st n = false from decide_eq_false e, if_neg (by decide), if_neg e]
    simp only [cntN, q]
    rcases (h n (by omega)).1 with e | e | e | e <;> rw [e] <;> simp <;> omega
/-- at most one plate is at work -/
theorem at_cnt (iv : Iv S nS nP nO) (w : EW S nP nO) : cntN (inS S 1) nP = if S 3 = -9 then 0 else 1 := by
  rcases w with ⟨w1, w2⟩ | ⟨k, p, sd, a, b⟩
  · rw [if_pos w1]
    exact cntN_zero nP (fun q hq => decide_eq_false (w2 q hq))
  · have c5 := iv.1.2.2.2.2.2
    have hk := a.2.1
    rw [if_neg (by rw [a.1]; exact nI_ne9 (by omega))]
    have := cntN_one (A := inS S 1) (B := fun _ => false) (q := p) nP a.2.2.2.1 (decide_eq_true a.2.2.2.2.2.2) rfl (fun q hq hne => decide_eq_false (fun e => hne (b.1 q hq e)))
    rw [this, cntN_zero nP (fun _ _ => rfl)]
/-- a plate on a shield has a year from 1 to 12 -/
theorem year_nI (iv : Iv S nS nP nO) (eP : EP S nP) {p : Nat} (hp0 : p < nP) (h2 : sP S p 2 = 2) : ∃ i, i < 12 ∧ sP S p 6 = nI (1 + i) := by
  obtain ⟨-, -, -, h⟩ := iv.2.2.1 p hp0
  obtain ⟨-, y1, -⟩ := h h2
  have y12 := (eP p hp0).2.2 h2
  rw [i_le, i_1] at y1
  refine ⟨(sP S p 6).toInt.toNat - 1, by omega, ?_⟩
  rw [i_eq, nI_int (by omega)]
  omega
/-- the years of a shield that bear a plate are as many as its plates -/
theorem year_cnt (iv : Iv S nS nP nO) (eP : EP S nP) (k : Nat) : cntN (fun i => isS1 (lastO (onY S (nI k) (nI (1 + i))) nP)) 12 = cntN (onS S (nI k)) nP := by
  have f : ∀ p, p < nP → onS S (nI k) p = true → (sP S p 6).toInt.toNat - 1 < 12 ∧ sP S p 6 = nI (1 + ((sP S p 6).toInt.toNat - 1)) := fun p hp0 hb => by
    obtain ⟨i, hi, e⟩ := year_nI iv eP hp0 (onS_iff.mp hb).1
    rw [e, nI_int (by omega)]
    exact ⟨by omega, by congr 1; omega⟩
  rw [← cnt_img (B := onS S (nI k)) (f := fun p => (sP S p 6).toInt.toNat - 1) (m := 12) nP (fun p hp0 hb => (f p hp0 hb).1) (fun p q hp0 hq h1 h2 e => by
    obtain ⟨-, e1⟩ := f p hp0 h1
    obtain ⟨-, e2⟩ := f q hq h2
    obtain ⟨a1, a2⟩ := onS_iff.mp h1
    obtain ⟨b1, b2⟩ := onS_iff.mp h2
    exact iv.2.2.2.2.1 p q hp0 hq a1 b1 (a2.trans b2.symm) (by rw [e1, e2, e]))]
  refine cntN_congr 12 (fun i hi => ?_)
  congr 1
  refine lastO_congr (fun p hp0 => ?_)
  simp only [onY]
  cases hb : onS S (nI k) p with
  | false => rfl
  | true =>
    obtain ⟨f1, f2⟩ := f p hp0 hb
    rw [Bool.true_and, Bool.true_and]
    refine decide_eq_decide.mpr ⟨fun e => ?_, fun e => ?_⟩
    · rw [e] at f2
      have := (nI_eqI (show 1 + i < 2 ^ 31 by omega) (show 1 + ((sP S p 6).toInt.toNat - 1) < 2 ^ 31 by omega)).mp (by rw [← e] at f2 ⊢; exact f2)
      omega
    · rw [f2]
      congr 2
/-- places, added up -/
theorem pl_sum (hs : nS ≤ 3) (eS : ES S nS nP) : ∀ k, k ≤ nS → (sumN (fun i => cntN (onS S (nI i)) nP) k : Int) ≤ (sumM (fun i => S (150 + i)) k).toInt ∧ 0 ≤ (sumM (fun i => S (150 + i)) k).toInt ∧ (sumM (fun i => S (150 + i)) k).toInt ≤ 6 * k
  | 0, _ => by simp only [sumN, sumM, i_0]; omega
  | k + 1, hk => by
    obtain ⟨a1, a2, a3⟩ := pl_sum hs eS k (by omega)
    obtain ⟨e1, e2, e3⟩ := eS k (by omega)
    have q : (sumM (fun i => S (150 + i)) k + S (150 + k)).toInt = (sumM (fun i => S (150 + i)) k).toInt + (S (150 + k)).toInt := i_addB (by omega) (by omega) (by omega) (by omega)
    simp only [sumN, sumM, q]
    omega
end ZK1
