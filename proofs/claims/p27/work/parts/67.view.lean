/-! the view of a class shop: numbers -/
theorem i_lt {a b : Int32} : a < b ↔ a.toInt < b.toInt := Int32.lt_iff_toInt_lt
theorem i_le {a b : Int32} : a ≤ b ↔ a.toInt ≤ b.toInt := Int32.le_iff_toInt_le
theorem i_eq {a b : Int32} : a = b ↔ a.toInt = b.toInt := Int32.toInt_inj.symm
theorem i_sub {a b : Int32} (ha : 0 ≤ a) (hb : 0 ≤ b) : (a - b).toInt = a.toInt - b.toInt := by
  have h1 := Int32.toInt_lt a
  have h2 := Int32.toInt_lt b
  have h3 : (0 : Int) ≤ a.toInt := i_le.mp ha
  have h4 : (0 : Int) ≤ b.toInt := i_le.mp hb
  rw [Int32.toInt_sub]
  exact Int.bmod_eq_of_le (by omega) (by omega)
theorem i_sub_lt {a b : Int32} (ha : 0 ≤ a) (hb : 0 ≤ b) : a - b < 0 ↔ a < b := by
  rw [i_lt, i_lt, i_sub ha hb]
  simp only [show (0 : Int32).toInt = 0 from rfl]
  omega
theorem i_sub_eq {a b : Int32} : a - b = 0 ↔ a = b := by
  constructor
  · intro h
    have : a - b + b = 0 + b := by rw [h]
    simpa using this
  · intro h; rw [h]; simp
theorem i_perm1 (t d b : Int32) : t - 0 - d - b = t - 0 - b - d := by grind
theorem i_perm2 (t d b : Int32) : t - 0 - d - b = t - b - 0 - d := by grind
theorem i_perm3 (t d a b : Int32) : t - (a + 1) - d - b = t - a - b - (d + 1) := by grind
theorem i_perm4 (t d a b : Int32) : t - (a + 1) - d - b = t - b - a - (d + 1) := by grind
theorem i_perm5 (t d : Int32) : t - d - 1 = t - (d + 1) := by grind
theorem i_pos {a : Int32} (h : 0 ≤ a) : (0 < a) ↔ a ≠ 0 := by
  rw [i_lt, ne_eq, i_eq]
  have := i_le.mp h
  simp only [show (0 : Int32).toInt = 0 from rfl] at *
  omega
/-! the view itself -/
def VP (g : Nat → Int32) (S : Nat → Int32) (p : Nat) : Prop := g 0 = sP S p 0 ∧ g 1 = sP S p 1 ∧ g 2 = sP S p 2 ∧ g 3 = sP S p 3 ∧ g 4 = sP S p 4 ∧ g 5 = (if sP S p 2 = 2 then sP S p 5 else -9) ∧ g 6 = (if sP S p 2 = 2 then sP S p 6 else -9)
def VO (o : Nat → Int32) (c : Int32) (l : Nat → Int32) (S : Nat → Int32) (k : Nat) : Prop := o 0 = sO S k 0 ∧ o 1 = sO S k 1 ∧ o 2 = sO S k 2 ∧ o 3 = sO S k 3 ∧ o 4 = sO S k 4 ∧ c = sO S k 5 ∧ ∀ x, x < nk S k → l x = sO S k (6 + x)
def VH (s S : Nat → Int32) : Prop := s 3 = S 1 ∧ s 4 = S 0 ∧ s 5 = S 2 ∧ s 6 = S 3 ∧ s 7 = S 5 ∧ s 8 = (if S 3 = -9 then -9 else S 6) ∧ s 9 = (if S 3 = -9 then -9 else S 4) ∧ s 10 = S 7 ∧ s 11 = S 8 ∧ s 12 = S 9
def PI (pi : Nat → Nat) : Prop := (∀ k, k < 10 → pi k < 10) ∧ ∀ a b, a < 10 → b < 10 → pi a = pi b → a = b
def VPs (P : Nat → Nat → Int32) (S : Nat → Int32) (nP : Nat) : Prop := ∀ p, p < nP → VP (P p) S p
def VFs (pf S : Nat → Int32) (nS : Nat) : Prop := ∀ j, j < nS → pf j = S (150 + j)
def VOs (pi : Nat → Nat) (O : Nat → Nat → Int32) (N : Nat → Int32) (L : Nat → Nat → Int32) (S : Nat → Int32) (nO : Nat) : Prop := ∀ k, k < nO → VO (O (pi k)) (N (pi k)) (L (pi k)) S k
/-- the tags of a forecast -/
def VTg (pi : Nat → Nat) (O : Nat → Nat → Int32) (S : Nat → Int32) (nO : Nat) : Prop := ∀ k, k < nO → O (pi k) 5 = sO S k 18
def Vw (s : Nat → Int32) (P : Nat → Nat → Int32) (pf : Nat → Int32) (pi : Nat → Nat) (O : Nat → Nat → Int32) (N : Nat → Int32) (L : Nat → Nat → Int32) (S : Nat → Int32) (nS nP nO : Nat) : Prop :=
  VH s S ∧ PI pi ∧ VPs P S nP ∧ VFs pf S nS ∧ VOs pi O N L S nO
/-- what holds of the reference's row -/
def IvC (S : Nat → Int32) (nS nP nO : Nat) : Prop := S 0 = nI nS ∧ S 1 = nI nP ∧ S 2 = nI nO ∧ nS ≤ 3 ∧ nP ≤ 20 ∧ nO ≤ 10
def IvW (S : Nat → Int32) (nP nO : Nat) : Prop := (S 3 = -9 ∧ S 5 = -9) ∨ ∃ k p sd, S 3 = nI k ∧ k < nO ∧ S 5 = nI p ∧ p < nP ∧ S 6 = nI sd ∧ sd < 2 ∧ sP S p 2 = 1
def IvP (S : Nat → Int32) (nS nP : Nat) : Prop := ∀ p, p < nP → 0 ≤ sP S p 0 ∧ 0 ≤ sP S p 3 ∧ 0 ≤ sP S p 4 ∧ (sP S p 2 = 2 → (∃ j, j < nS ∧ sP S p 5 = nI j) ∧ 1 ≤ sP S p 6 ∧ sP S p 6 ≤ 999)
def IvO (S : Nat → Int32) (nS nO : Nat) : Prop := ∀ k, k < nO → (∃ j, j < nS ∧ sO S k 0 = nI j) ∧ 1 ≤ sO S k 1 ∧ sO S k 1 ≤ 999 ∧ 0 ≤ sO S k 3 ∧ (sO S k 4 = 0 ∨ sO S k 4 = 1) ∧ sO S k 5 = nI (nk S k) ∧ 1 ≤ nk S k ∧ nk S k ≤ 12
def IvU (S : Nat → Int32) (nP nO : Nat) : Prop :=
  (∀ p q, p < nP → q < nP → sP S p 2 = 2 → sP S q 2 = 2 → sP S p 5 = sP S q 5 → sP S p 6 = sP S q 6 → p = q) ∧
  (∀ j k, j < nO → k < nO → sO S j 0 = sO S k 0 → sO S j 1 = sO S k 1 → j = k) ∧
  (∀ p k, p < nP → k < nO → sP S p 2 = 2 → ¬(sP S p 5 = sO S k 0 ∧ sP S p 6 = sO S k 1))
def Iv (S : Nat → Int32) (nS nP nO : Nat) : Prop := IvC S nS nP nO ∧ IvW S nP nO ∧ IvP S nS nP ∧ IvO S nS nO ∧ IvU S nP nO
/-! what a change of a row reaches -/
theorem sP_upd {S : Nat → Int32} {p q k x : Nat} {v : Int32} (hk : k < 7) (hx : x < 7) : sP (upd S (10 + 7 * p + k) v) q x = if q = p ∧ x = k then v else sP S q x := by
  simp only [sP, upd]
  by_cases h : q = p ∧ x = k
  · rw [if_pos h, if_pos (by omega)]
  · rw [if_neg h, if_neg (by omega)]
theorem sP_hd {S : Nat → Int32} {a q x : Nat} {v : Int32} (ha : a < 10) : sP (upd S a v) q x = sP S q x := by
  simp only [sP]; rw [upd_ne (by omega)]
theorem sP_ge {S : Nat → Int32} {a q x : Nat} {v : Int32} (ha : 150 ≤ a) (hq : q < 20) (hx : x < 7) : sP (upd S a v) q x = sP S q x := by
  simp only [sP]; rw [upd_ne (by omega)]
theorem sP_eq {S S' : Nat → Int32} (h : ∀ a, 10 ≤ a → a < 150 → S' a = S a) {q x : Nat} (hq : q < 20) (hx : x < 7) : sP S' q x = sP S q x := by
  simp only [sP]; exact h _ (by omega) (by omega)
theorem VP_eq {g S S' : Nat → Int32} {p : Nat} (h : ∀ x, x < 7 → sP S' p x = sP S p x) (v : VP g S p) : VP g S' p := by
  simp only [VP, h 0 (by omega), h 1 (by omega), h 2 (by omega), h 3 (by omega), h 4 (by omega), h 5 (by omega), h 6 (by omega)]
  exact v
theorem VPs_eq {P : Nat → Nat → Int32} {S S' : Nat → Int32} {nP : Nat} (hn : nP ≤ 20) (h : ∀ q x, q < 20 → x < 7 → sP S' q x = sP S q x) (v : VPs P S nP) : VPs P S' nP :=
  fun p hp0 => VP_eq (fun x hx => h p x (by omega) hx) (v p hp0)
theorem nk_eq {S S' : Nat → Int32} {k k' : Nat} (h : sO S' k' 5 = sO S k 5) : nk S' k' = nk S k := by simp only [nk, h]
theorem VO_eq {o l S S' : Nat → Int32} {c : Int32} {k k' : Nat} (h : ∀ x, x < 18 → sO S' k' x = sO S k x) (v : VO o c l S k) (hn : nk S k ≤ 12) : VO o c l S' k' := by
  simp only [VO, nk_eq (h 5 (by omega)), h 0 (by omega), h 1 (by omega), h 2 (by omega), h 3 (by omega), h 4 (by omega), h 5 (by omega)]
  obtain ⟨a, b, c, d, e, f, g⟩ := v
  exact ⟨a, b, c, d, e, f, fun x hx => by rw [h (6 + x) (by omega)]; exact g x hx⟩
theorem VOs_eq {pi : Nat → Nat} {O : Nat → Nat → Int32} {N : Nat → Int32} {L : Nat → Nat → Int32} {S S' : Nat → Int32} {nO : Nat} (h : ∀ k x, sO S' k x = sO S k x) (v : VOs pi O N L S nO) : VOs pi O N L S' nO := fun k hk => by
  have := v k hk
  simp only [VO, nk_eq (h k 5), h] at this ⊢
  exact this
