/-! what holds of the row, beyond Iv: states, thickness, the order at work, years, places -/
theorem i_subB {a b : Int32} (a1 : -1000 ≤ a.toInt) (a2 : a.toInt ≤ 100000) (b1 : -1000 ≤ b.toInt) (b2 : b.toInt ≤ 100000) : (a - b).toInt = a.toInt - b.toInt := by
  rw [Int32.toInt_sub]
  exact Int.bmod_eq_of_le (by omega) (by omega)
theorem i_addB {a b : Int32} (a1 : -1000 ≤ a.toInt) (a2 : a.toInt ≤ 100000) (b1 : -1000 ≤ b.toInt) (b2 : b.toInt ≤ 100000) : (a + b).toInt = a.toInt + b.toInt := by
  rw [Int32.toInt_add]
  exact Int.bmod_eq_of_le (by omega) (by omega)
theorem i_0 : (0 : Int32).toInt = 0 := rfl
theorem i_1 : (1 : Int32).toInt = 1 := rfl
theorem i_2 : (2 : Int32).toInt = 2 := rfl
theorem nI_int {n : Nat} (h : n < 2 ^ 31) : (nI n).toInt = n := nI_toInt h
/-! counting -/
theorem cntN_le' {A B : Nat → Bool} : ∀ n, (∀ k, k < n → A k = true → B k = true) → cntN A n ≤ cntN B n
  | 0, _ => Nat.le_refl _
  | n + 1, h => by
    have ih := cntN_le' n (fun k hk => h k (by omega))
    have hn := h n (by omega)
    simp only [cntN]
    cases ha : A n with
    | false => simp only [if_neg (show ¬ false = true by decide)]; split <;> omega
    | true => rw [hn ha]; simp only [if_true]; omega
theorem cntN_one {A B : Nat → Bool} {q : Nat} : ∀ n, q < n → A q = true → B q = false → (∀ k, k < n → k ≠ q → A k = B k) → cntN A n = cntN B n + 1
  | 0, hq, _, _, _ => by omega
  | n + 1, hq, ha, hb, h => by
    simp only [cntN]
    by_cases e : q = n
    · subst e
      rw [cntN_congr q (fun k hk => h k (by omega) (by omega)), ha, hb]
      simp
    · rw [cntN_one n (by omega) ha hb (fun k hk => h k (by omega)), h n (by omega) (fun z => e z.symm)]
      omega
theorem cntN_zero {A : Nat → Bool} : ∀ n, (∀ k, k < n → A k = false) → cntN A n = 0
  | 0, _ => rfl
  | n + 1, h => by simp only [cntN]; rw [cntN_zero n (fun k hk => h k (by omega)), h n (by omega)]; rfl
section ZI1
variable {S S' s pf N : Nat → Int32} {P O L : Nat → Nat → Int32} {pi : Nat → Nat} {nS nP nO c k p sd d : Nat}
/-- a class shop that shows a row -/
theorem Vw_ex (iv : Iv S nS nP nO) : ∃ s P pf pi O N L, Vw s P pf pi O N L S nS nP nO := by
  refine ⟨fun x => if x = 3 then S 1 else if x = 4 then S 0 else if x = 5 then S 2 else if x = 6 then S 3 else if x = 7 then S 5 else if x = 8 then (if S 3 = -9 then -9 else S 6) else if x = 9 then (if S 3 = -9 then -9 else S 4) else if x = 10 then S 7 else if x = 11 then S 8 else S 9,
    fun p x => if x < 5 then sP S p x else if sP S p 2 = 2 then sP S p x else -9, fun j => S (150 + j), fun k => k, fun k x => sO S k x, fun k => sO S k 5, fun k x => sO S k (6 + x), ?_, ⟨fun k h => h, fun _ _ _ _ e => e⟩, fun p hp0 => ?_, fun j hj => rfl, fun k hk => ⟨rfl, rfl, rfl, rfl, rfl, rfl, fun _ _ => rfl⟩⟩
  · refine ⟨rfl, rfl, rfl, rfl, rfl, rfl, rfl, rfl, rfl, rfl⟩
  · exact ⟨rfl, rfl, rfl, rfl, rfl, rfl, rfl⟩
theorem Iv_go (iv : Iv S nS nP nO) : Iv (opGo S nP nO) nS nP nO := by
  obtain ⟨s, P, pf, pi, O, N, L, vw⟩ := Vw_ex iv
  obtain ⟨_, _, _, _, i⟩ := tk_cl vw iv
  exact i
theorem Iv_fin (iv : Iv S nS nP nO) (ir : IvR S nO c) (a : AtW S nP nO k p sd) : Iv (finR S nP nO) nS nP (nO - 1) ∧ (∃ c1, IvR (finR S nP nO) (nO - 1) c1) ∧ (finR S nP nO) 7 = S 7 + 1 ∧ (∀ j x, sO (finR S nP nO) j x = sO (opTake S k nO) j x) := by
  obtain ⟨s, P, pf, pi, O, N, L, vw⟩ := Vw_ex iv
  obtain ⟨_, _, _, c1, _, _, i, r, e, _, f⟩ := fin_cl vw iv ir a
  exact ⟨i, ⟨c1, r⟩, e, f⟩
theorem Iv_min {v : Int32} (iv : Iv S nS nP nO) (h3 : S 3 ≠ -9) : Iv (upd S 4 v) nS nP nO := by
  obtain ⟨s, P, pf, pi, O, N, L, vw⟩ := Vw_ex iv
  exact (min_view (v := v) vw iv h3).2
/-- a plate -/
def EPl (S : Nat → Int32) (p : Nat) : Prop := (sP S p 2 = 0 ∨ sP S p 2 = 1 ∨ sP S p 2 = 2 ∨ sP S p 2 = 3) ∧ (sP S p 2 ≠ 3 → 2 + (sP S p 3).toInt + (sP S p 4).toInt ≤ (sP S p 1).toInt ∧ (sP S p 1).toInt ≤ 30) ∧ (sP S p 2 = 2 → (sP S p 6).toInt ≤ 12)
/-- the order and the plate at work -/
def EAt (S : Nat → Int32) (nP k p sd : Nat) : Prop := (∀ q, q < nP → sP S q 2 = 1 → q = p) ∧ dP S p sd = 0 ∧ 2 + (dP S p (1 - sd)).toInt + (sO S k 3).toInt ≤ (sP S p 1).toInt ∧ 0 < (S 4).toInt ∧ (S 4).toInt ≤ 118
def EP (S : Nat → Int32) (nP : Nat) : Prop := ∀ p, p < nP → EPl S p
def EW (S : Nat → Int32) (nP nO : Nat) : Prop := (S 3 = -9 ∧ ∀ p, p < nP → sP S p 2 ≠ 1) ∨ ∃ k p sd, AtW S nP nO k p sd ∧ EAt S nP k p sd
def EO (S : Nat → Int32) (nO : Nat) : Prop := ∀ k, k < nO → (sO S k 1).toInt ≤ 12 ∧ 1 ≤ (sO S k 2).toInt ∧ (sO S k 2).toInt ≤ 4 ∧ 1 ≤ (sO S k 3).toInt ∧ (sO S k 3).toInt ≤ 5
def ES (S : Nat → Int32) (nS nP : Nat) : Prop := ∀ j, j < nS → 2 ≤ (S (150 + j)).toInt ∧ (S (150 + j)).toInt ≤ 6 ∧ (cntN (onS S (nI j)) nP : Int) ≤ (S (150 + j)).toInt
def EJ (S : Nat → Int32) (nS nP nO : Nat) : Prop := EP S nP ∧ EW S nP nO ∧ EO S nO ∧ ES S nS nP
theorem AtW_one {k' p' sd' : Nat} (iv : Iv S nS nP nO) (a : AtW S nP nO k p sd) (b : AtW S nP nO k' p' sd') : k' = k ∧ p' = p ∧ sd' = sd := by
  obtain ⟨c0, c1, c2, c3, c4, c5⟩ := iv.1
  obtain ⟨a3, ak, a5, ap, a6, asd, a2⟩ := a
  obtain ⟨b3, bk, b5, bp, b6, bsd, b2⟩ := b
  exact ⟨nI_inj9 (by omega) (by omega) (b3.symm.trans a3), nI_inj9 (by omega) (by omega) (b5.symm.trans a5), nI_inj9 (by omega) (by omega) (b6.symm.trans a6)⟩
theorem EW_at (iv : Iv S nS nP nO) (w : EW S nP nO) (a : AtW S nP nO k p sd) : EAt S nP k p sd := by
  rcases w with ⟨w, -⟩ | ⟨k', p', sd', b, e⟩
  · exact absurd (a.1.symm.trans w) (nI_ne9 (by have := iv.1.2.2.2.2.2; have := a.2.1; omega))
  · obtain ⟨rfl, rfl, rfl⟩ := AtW_one iv a b
    exact e
/-- the numbers of a plate that is not spoiled are small -/
theorem pl_num (iP : IvP S nS nP) (eP : EPl S p) (hp0 : p < nP) (h3 : sP S p 2 ≠ 3) : 0 ≤ (sP S p 3).toInt ∧ 0 ≤ (sP S p 4).toInt ∧ 2 + (sP S p 3).toInt + (sP S p 4).toInt ≤ (sP S p 1).toInt ∧ (sP S p 1).toInt ≤ 30 := by
  obtain ⟨-, a, b, -⟩ := iP p hp0
  have a' := i_le.mp a
  have b' := i_le.mp b
  rw [i_0] at a' b'
  obtain ⟨e1, e2⟩ := eP.2.1 h3
  exact ⟨a', b', e1, e2⟩
theorem rdy_int {t0 b0 : Int} {dd : Int32} (hd : 0 ≤ dd.toInt ∧ dd.toInt ≤ 100) (ht : (sP S p 1).toInt = t0) (hb : (dP S p (1 - sd)).toInt = b0) (t1 : -100 ≤ t0 ∧ t0 ≤ 100) (b1 : 0 ≤ b0 ∧ b0 ≤ 100) : rdyM S p sd dd = true ↔ dP S p sd = 0 ∧ 2 + dd.toInt + b0 ≤ t0 := by
  have e1 : (sP S p 1 - 0).toInt = t0 := by rw [Int32.sub_zero, ht]
  have e2 : (sP S p 1 - 0 - dd).toInt = t0 - dd.toInt := by rw [i_subB (by omega) (by omega) (by omega) (by omega), e1]
  have e3 : (sP S p 1 - 0 - dd - dP S p (1 - sd)).toInt = t0 - dd.toInt - b0 := by rw [i_subB (by omega) (by omega) (by omega) (by omega), e2, hb]
  simp only [rdyM, loM, Bool.and_eq_true, decide_eq_true_eq, i_le, e3, i_2]
  constructor
  · rintro ⟨a, b⟩; exact ⟨a, by omega⟩
  · rintro ⟨a, b⟩; exact ⟨a, by omega⟩
theorem gnd_int {t0 a0 b0 : Int} {dd : Int32} (hd : 0 ≤ dd.toInt ∧ dd.toInt ≤ 100) (ht : (sP S p 1).toInt = t0) (ha : (dP S p sd).toInt = a0) (hb : (dP S p (1 - sd)).toInt = b0) (t1 : -100 ≤ t0 ∧ t0 ≤ 100) (a1 : 0 ≤ a0 ∧ a0 ≤ 100) (b1 : 0 ≤ b0 ∧ b0 ≤ 100) : gndM S p sd dd = true ↔ 0 < a0 ∧ 2 + (a0 + 1) + dd.toInt + b0 ≤ t0 := by
  have e0 : (dP S p sd + 1).toInt = a0 + 1 := by rw [i_addB (by omega) (by omega) (by rw [i_1]; omega) (by rw [i_1]; omega), ha, i_1]
  have e1 : (sP S p 1 - (dP S p sd + 1)).toInt = t0 - (a0 + 1) := by rw [i_subB (by omega) (by omega) (by omega) (by omega), ht, e0]
  have e2 : (sP S p 1 - (dP S p sd + 1) - dd).toInt = t0 - (a0 + 1) - dd.toInt := by rw [i_subB (by omega) (by omega) (by omega) (by omega), e1]
  have e3 : (sP S p 1 - (dP S p sd + 1) - dd - dP S p (1 - sd)).toInt = t0 - (a0 + 1) - dd.toInt - b0 := by rw [i_subB (by omega) (by omega) (by omega) (by omega), e2, hb]
  simp only [gndM, loM, Bool.and_eq_true, decide_eq_true_eq, i_le, i_lt, e3, i_2, i_0, ha]
  constructor
  · rintro ⟨a, b⟩; exact ⟨a, by omega⟩
  · rintro ⟨a, b⟩; exact ⟨a, by omega⟩
theorem dP_0 : dP S p 0 = sP S p 3 := rfl
theorem dP_1 : dP S p 1 = sP S p 4 := rfl
/-- grinding a side leaves enough -/
theorem gr_pl {t0 a0 b0 : Int} (hs : sd < 2) (ht : (sP S p 1).toInt = t0) (ha : (dP S p sd).toInt = a0) (hb : (dP S p (1 - sd)).toInt = b0) (t1 : -100 ≤ t0 ∧ t0 ≤ 100) (a1 : 0 ≤ a0 ∧ a0 ≤ 100) (b1 : 0 ≤ b0 ∧ b0 ≤ 100) :
    (sP (opGrind S p sd) p 1).toInt = t0 - a0 - 1 ∧ dP (opGrind S p sd) p sd = 0 ∧ (dP (opGrind S p sd) p (1 - sd)).toInt = b0 ∧ sP (opGrind S p sd) p 2 = sP S p 2 ∧ (sP (opGrind S p sd) p 3).toInt + (sP (opGrind S p sd) p 4).toInt = b0 := by
  have e1 : sP (opGrind S p sd) p 1 = sP S p 1 - dP S p sd - 1 := by rw [opGrind_P hs (by omega), if_pos rfl, if_neg (by omega), if_pos rfl]
  have e2 : (sP S p 1 - dP S p sd).toInt = t0 - a0 := by rw [i_subB (by omega) (by omega) (by omega) (by omega), ht, ha]
  have e3 : (sP S p 1 - dP S p sd - 1).toInt = t0 - a0 - 1 := by rw [i_subB (by omega) (by omega) (by rw [i_1]; omega) (by rw [i_1]; omega), e2, i_1]
  have f1 : sP (opGrind S p sd) p 2 = sP S p 2 := by rw [opGrind_P hs (by omega), if_pos rfl, if_neg (by omega), if_neg (by omega)]
  rcases (show sd = 0 ∨ sd = 1 by omega) with rfl | rfl
  · have g3 : sP (opGrind S p 0) p 3 = 0 := by rw [opGrind_P hs (by omega), if_pos rfl, if_pos rfl]
    have g4 : sP (opGrind S p 0) p 4 = sP S p 4 := by rw [opGrind_P hs (by omega), if_pos rfl, if_neg (by omega), if_neg (by omega)]
    refine ⟨by rw [e1, e3], g3, ?_, f1, ?_⟩
    · show (sP (opGrind S p 0) p 4).toInt = b0
      rw [g4]; exact hb
    · rw [g3, g4, i_0, Int.zero_add]; exact hb
  · have g4 : sP (opGrind S p 1) p 4 = 0 := by rw [opGrind_P hs (by omega), if_pos rfl, if_pos rfl]
    have g3 : sP (opGrind S p 1) p 3 = sP S p 3 := by rw [opGrind_P hs (by omega), if_pos rfl, if_neg (by omega), if_neg (by omega)]
    refine ⟨by rw [e1, e3], g4, ?_, f1, ?_⟩
    · show (sP (opGrind S p 1) p 3).toInt = b0
      rw [g3]; exact hb
    · rw [g3, g4, i_0, Int.add_zero]; exact hb
/-- the effort of an order is small -/
theorem ef_int (iO : IvO S nS nO) (eO : EO S nO) (hk : k < nO) : 0 < (efM S k).toInt ∧ (efM S k).toInt ≤ 108 := by
  obtain ⟨-, -, -, -, -, n5, n1, n12⟩ := iO k hk
  obtain ⟨-, z1, z4, d1, d5⟩ := eO k hk
  have e1 : (sO S k 2 + sO S k 3).toInt = (sO S k 2).toInt + (sO S k 3).toInt := i_addB (by omega) (by omega) (by omega) (by omega)
  have e2 : (sO S k 5).toInt = (nk S k : Int) := by rw [n5, nI_int (by omega)]
  have e3 : (efM S k).toInt = (nk S k : Int) * ((sO S k 2).toInt + (sO S k 3).toInt) := by
    have lo : (1 : Int) * 2 ≤ (nk S k : Int) * ((sO S k 2).toInt + (sO S k 3).toInt) := Int.mul_le_mul (by omega) (by omega) (by omega) (by omega)
    have hi : (nk S k : Int) * ((sO S k 2).toInt + (sO S k 3).toInt) ≤ 12 * 9 := Int.mul_le_mul (by omega) (by omega) (by omega) (by omega)
    simp only [efM]
    rw [Int32.toInt_mul, e1, e2]
    exact Int.bmod_eq_of_le (by omega) (by omega)
  have lo : (1 : Int) * 2 ≤ (nk S k : Int) * ((sO S k 2).toInt + (sO S k 3).toInt) := Int.mul_le_mul (by omega) (by omega) (by omega) (by omega)
  have hi : (nk S k : Int) * ((sO S k 2).toInt + (sO S k 3).toInt) ≤ 12 * 9 := Int.mul_le_mul (by omega) (by omega) (by omega) (by omega)
  rw [e3]
  omega
end ZI1
