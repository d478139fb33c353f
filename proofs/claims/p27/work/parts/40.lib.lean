/-! THE PURE PART: reading and writing the abstract heap; loops -/
def bI (b : Bool) : Int32 := if b = true then 1 else 0
theorem z_ne_bI (b : Bool) : z_ne (bI b) = b := by cases b <;> rfl
theorem z_eq_bI (b : Bool) : z_eq (bI b) = !b := by cases b <;> rfl
theorem bI_01 (b : Bool) : bI b = 0 ∨ bI b = 1 := by cases b <;> simp [bI]
theorem eB_bI (f : zEB) (en : List Value) (h : zH) : eB f en h = (f en h).map fun a => (bI a.1, a.2) := rfl
theorem mZ_bI (f : zEB) (vs : List Value) (h : zH) : mZ (sRi (eB f)) vs h = (f vs h).map fun a => (bI a.1, a.2) := by
  simp only [mZ, sRi, eB_bI]
  cases f vs h with
  | none => rfl
  | some q => simp [bI_01]
theorem mI_sRi (f : zEI) (vs : List Value) (h : zH) : mI (sRi f) vs h = f vs h := by
  simp only [mI, sRi]
  cases f vs h with
  | none => rfl
  | some q => rfl
abbrev hp (h : zH) (a : Nat) (y : zX) : zH := (h.1, va_up h.2 a (some y))
theorem hp_self (h : zH) (a : Nat) (y : zX) : (hp h a y).2 a = some y := va_up_self _ _ _
theorem hp_ne (h : zH) {a b : Nat} (y : zX) (hn : b ≠ a) : (hp h a y).2 b = h.2 b := va_up_ne _ _ hn
theorem hp_hp (h : zH) (a : Nat) (y z : zX) : hp (hp h a y) a z = hp h a z := by
  simp only [hp]
  congr 1
  funext b
  by_cases hb : b = a
  · rw [hb, va_up_self, va_up_self]
  · rw [va_up_ne _ _ hb, va_up_ne _ _ hb, va_up_ne _ _ hb]
theorem hp_id {h : zH} {a : Nat} {y : zX} (hy : h.2 a = some y) : hp h a y = h := by
  obtain ⟨n, f⟩ := h
  simp only [hp]
  congr 1
  funext b
  by_cases hb : b = a
  · rw [hb, va_up_self]; exact hy.symm
  · rw [va_up_ne _ _ hb]
theorem rdI_of {h : zH} {ci k a : Nat} {fs : List Value} {v : Int32} (hf : h.2 a = some (xO ci fs)) (hk : fs[k]? = some (.int v)) : rdI h ci k a = some v := by simp [rdI, hf, hk]
theorem rdR_of {h : zH} {ci k a : Nat} {fs : List Value} {v : Nat} (hf : h.2 a = some (xO ci fs)) (hk : fs[k]? = some (.ref v)) : rdR h ci k a = some v := by simp [rdR, hf, hk]
theorem wrO_of {h : zH} {ci k a : Nat} {fs : List Value} {v : Value} (hf : h.2 a = some (xO ci fs)) (hk : k < fs.length) : wrO h ci k a v = some (hp h a (xO ci (fs.set k v))) := by simp [wrO, hf, hk]
theorem isO_of {h : zH} {ci a : Nat} {fs : List Value} (hf : h.2 a = some (xO ci fs)) : isO h ci a = true := by simp [isO, hf]
theorem nI_idx {j n : Nat} (hj : j < n) (hn : n < 2 ^ 31) : 0 ≤ (nI j).toInt ∧ (nI j).toInt < n ∧ (nI j).toNatClampNeg = j := by
  rw [nI_toInt (by omega), nI_clamp (by omega)]
  omega
theorem rdA_of {h : zH} {a n j : Nat} {f : Nat → Int32} (hf : h.2 a = some (xI n f)) (hj : j < n) (hn : n < 2 ^ 31) : rdA h a (nI j) = some (f j) := by
  obtain ⟨h1, h2, h3⟩ := nI_idx hj hn
  simp only [rdA, hf]
  rw [if_pos ⟨h1, h2⟩, h3]
theorem wrA_of {h : zH} {a n j : Nat} {f : Nat → Int32} {v : Int32} (hf : h.2 a = some (xI n f)) (hj : j < n) (hn : n < 2 ^ 31) : wrA h a (nI j) v = some (hp h a (xI n (upd f j v))) := by
  obtain ⟨h1, h2, h3⟩ := nI_idx hj hn
  simp only [wrA, hf]
  rw [if_pos ⟨h1, h2⟩, h3]
theorem rdQ_of {h : zH} {ci a n j b : Nat} {f : Nat → Option Nat} (hf : h.2 a = some (xR ci n f)) (hj : j < n) (hn : n < 2 ^ 31) (hb : f j = some b) : rdQ h ci a (nI j) = some b := by
  obtain ⟨h1, h2, h3⟩ := nI_idx hj hn
  simp only [rdQ, hf]
  rw [if_pos ⟨trivial, h1, h2⟩, h3, hb]
theorem wrQ_of {h : zH} {ci a n j b : Nat} {f : Nat → Option Nat} (hf : h.2 a = some (xR ci n f)) (hj : j < n) (hn : n < 2 ^ 31) (hb : isO h ci b = true) : wrQ h ci a (nI j) b = some (hp h a (xR ci n (va_up f j (some b)))) := by
  obtain ⟨h1, h2, h3⟩ := nI_idx hj hn
  simp only [wrQ, hf]
  rw [if_pos ⟨trivial, h1, h2, hb⟩, h3]
theorem rdS_of {h : zH} {a n j : Nat} {f : Nat → Int32} (hf : h.2 a = some (xS n f)) (hj : j < n) (hn : n < 2 ^ 31) : rdS h a (nI j) = some (f j) := by
  obtain ⟨h1, h2, h3⟩ := nI_idx hj hn
  simp only [rdS, hf]
  rw [if_pos ⟨h1, h2⟩, h3]
theorem zCut_inl {en : List Value} {r : Option zSR} {q : List Value × zH} (h : r.map (zCut en) = some (.inl q)) : ∃ p : List Value × zH, r = some (.inl p) ∧ (p.1.take en.length, p.2) = q := by
  obtain ⟨r1, h1, h2⟩ := Option.map_eq_some_iff.mp h
  cases r1 with
  | inr z => cases h2
  | inl z => exact ⟨z, h1, Sum.inl.inj h2⟩
/-- a loop: states S 0, S 1, .. S n, the condition true before n and false there -/
theorem sW_run {c : zEB} {f : zSS} (S : Nat → List Value × zH) (n : Nat) : ∀ (d N i : Nat), d = n - i → i ≤ n → d < N →
    (∀ j, i ≤ j → j ≤ n → c (S j).1 (S j).2 = some (decide (j < n), (S j).2)) →
    (∀ j, i ≤ j → j < n → (f (S j).1 (S j).2).map (zCut (S j).1) = some (.inl (S (j + 1)))) →
    sW N c f (S i).1 (S i).2 = some (.inl (S n))
  | d, 0, i, hd, hi, hN, _, _ => by omega
  | d, N + 1, i, hd, hi, hN, hc, hf => by
    simp only [sW]
    rw [hc i (Nat.le_refl _) hi, Option.bind_some]
    by_cases hin : i < n
    · obtain ⟨q, e1, e2⟩ := zCut_inl (hf i (Nat.le_refl _) hin)
      simp only [hin, decide_true, if_true]
      rw [e1, Option.bind_some]
      dsimp only
      have g := sW_run S n (d - 1) N (i + 1) (by omega) (by omega) (by omega) (fun j h1 h2 => hc j (by omega) h2) (fun j h1 h2 => hf j (by omega) h2)
      rw [← e2] at g
      exact g
    · have hin' : i = n := by omega
      subst hin'
      simp
/-- the same, with a return from within at turn n -/
theorem sW_ret {c : zEB} {f : zSS} (S : Nat → List Value × zH) (n : Nat) {q : Option Int32 × zH} : ∀ (d N i : Nat), d = n - i → i ≤ n → d < N →
    (∀ j, i ≤ j → j ≤ n → c (S j).1 (S j).2 = some (true, (S j).2)) →
    (∀ j, i ≤ j → j < n → (f (S j).1 (S j).2).map (zCut (S j).1) = some (.inl (S (j + 1)))) →
    f (S n).1 (S n).2 = some (.inr q) →
    sW N c f (S i).1 (S i).2 = some (.inr q)
  | d, 0, i, hd, hi, hN, _, _, _ => by omega
  | d, N + 1, i, hd, hi, hN, hc, hf, hr => by
    simp only [sW]
    rw [hc i (Nat.le_refl _) hi, Option.bind_some]
    simp only [if_true]
    by_cases hin : i < n
    · obtain ⟨q2, e1, e2⟩ := zCut_inl (hf i (Nat.le_refl _) hin)
      rw [e1, Option.bind_some]
      dsimp only
      have g := sW_ret S n (d - 1) N (i + 1) (by omega) (by omega) (by omega) (fun j h1 h2 => hc j (by omega) h2) (fun j h1 h2 => hf j (by omega) h2) hr
      rw [← e2] at g
      exact g
    · have hin' : i = n := by omega
      subst hin'
      rw [hr, Option.bind_some]
theorem up_up {α : Type} (f : Nat → α) (a : Nat) (x y : α) : va_up (va_up f a x) a y = va_up f a y := by
  funext b
  by_cases hb : b = a
  · rw [hb, va_up_self, va_up_self]
  · rw [va_up_ne _ _ hb, va_up_ne _ _ hb, va_up_ne _ _ hb]
theorem some_ite {α : Type} {p : Prop} [Decidable p] (a b : α) : (if p then some a else some b) = some (if p then a else b) := by split <;> rfl
