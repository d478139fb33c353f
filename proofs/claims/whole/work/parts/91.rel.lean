/-! the relation of both heaps -/
def Mod (h : zH) (m : Nat) (g : Nat → Int32) (R : Nat → Nat → Int32) (SV TX : Nat → Int32) (T : Nat → Nat → Int32) (AS : Nat → Int32) : Prop := ∀ x, m ≤ x → x < m + 8 → h.2 x = (hM h m g R SV TX T AS).2 x
section ZMD
variable {h h' : zH} {m : Nat} {g SV TX AS g' SV' TX' AS' : Nat → Int32} {R T R' T' : Nat → Nat → Int32}
theorem hM_ne {x : Nat} (hx : x < m ∨ m + 8 ≤ x) : (hM h m g R SV TX T AS).2 x = h.2 x := by
  simp only [hM]
  rw [if_neg (by omega), if_neg (by omega), if_neg (by omega), if_neg (by omega), if_neg (by omega), if_neg (by omega), if_neg (by omega), if_neg (by omega)]
theorem hM_in {x : Nat} (h1 : m ≤ x) (h2 : x < m + 8) : (hM h m g R SV TX T AS).2 x = (hM h' m g R SV TX T AS).2 x := by
  simp only [hM]
  (repeat' split) <;> first | rfl | omega
theorem Mod_eq (e : Mod h m g R SV TX T AS) : hM h m g R SV TX T AS = h := by
  refine pair_ext fun x => ?_
  by_cases hx : m ≤ x ∧ x < m + 8
  · exact (e x hx.1 hx.2).symm
  · exact hM_ne (g := g) (R := R) (SV := SV) (TX := TX) (T := T) (AS := AS) (by omega)
theorem Mod_self : Mod (hM h m g R SV TX T AS) m g R SV TX T AS := fun x h1 h2 => hM_in h1 h2
theorem Mod_keep (e : Mod h m g R SV TX T AS) (k : ∀ x, m ≤ x → x < m + 8 → h'.2 x = h.2 x) : Mod h' m g R SV TX T AS := fun x h1 h2 => by
  rw [k x h1 h2, e x h1 h2]
  exact hM_in h1 h2
end ZMD
def Txt (h : zH) (t nt : Nat) (TX : Nat → Int32) : Prop := nt ≤ 12 ∧ h.2 (t + 327) = some (cNm (t + 328) (nI nt)) ∧ ∃ tx, h.2 (t + 328) = some (xI 12 tx) ∧ ∀ x, x < nt → tx x = TX x
theorem Txt_keep {h h' : zH} {t nt : Nat} {TX : Nat → Int32} (w : Txt h t nt TX) (k : ∀ x, t + 327 ≤ x → x < t + 329 → h'.2 x = h.2 x) : Txt h' t nt TX := by
  obtain ⟨a, b, tx, c, d⟩ := w
  exact ⟨a, by rw [k _ (by omega) (by omega)]; exact b, tx, by rw [k _ (by omega) (by omega)]; exact c, d⟩
def Fcs (h : zH) (t : Nat) : Prop := Any h (t + 329) ∧ h.2 (t + 383) = some (cFo (t + 329) (t + 384)) ∧ (∃ D, h.2 (t + 384) = some (xI 10 D)) ∧ h.2 (t + 385) = some (cFo (t + 329) (t + 386)) ∧ ∃ D, h.2 (t + 386) = some (xI 10 D)
theorem Fcs_keep {h h' : zH} {t : Nat} (w : Fcs h t) (k : ∀ x, t + 329 ≤ x → x < t + 387 → h'.2 x = h.2 x) : Fcs h' t := by
  obtain ⟨a, b, ⟨D, c⟩, d, D', e⟩ := w
  exact ⟨Any_keep a (fun x h1 h2 => k x (by omega) (by omega)), by rw [k _ (by omega) (by omega)]; exact b, ⟨D, by rw [k _ (by omega) (by omega)]; exact c⟩, by rw [k _ (by omega) (by omega)]; exact d, D', by rw [k _ (by omega) (by omega)]; exact e⟩
abbrev cTr (t : Nat) : zX := xO 6 [.ref (t + 1), .ref (t + 55), .ref (t + 327), .ref (t + 383), .ref (t + 385)]
/-- the object, and what does not change -/
def Top (h : zH) (b L : Nat) (xs : Nat → Int32) (t : Nat) : Prop := h.2 b = some (xS L xs) ∧ b < t ∧ h.2 t = some (cTr t)
theorem Top_keep {h h' : zH} {b L t : Nat} {xs : Nat → Int32} (w : Top h b L xs t) (k : ∀ x, x ≤ t → h'.2 x = h.2 x) : Top h' b L xs t := by
  obtain ⟨a, b', c⟩ := w
  exact ⟨by rw [k _ (by omega)]; exact a, b', by rw [k _ (by omega)]; exact c⟩
def Rl (h : zH) (b L : Nat) (xs : Nat → Int32) (t : Nat) : Prop := ∃ g R SV TX T AS nh nt, Top h b L xs t ∧ Shw h (t + 1) (R 1) ∧ His h t nh SV ∧ Txt h t nt TX ∧ Fcs h t ∧ Mod h (t + 387) g R SV TX T AS ∧ g 4 = nI nh ∧ g 6 = nI nt
section ZTP
variable {h : zH} {b L t : Nat} {xs : Nat → Int32}
theorem tp0 (w : Top h b L xs t) : rdR h 6 0 t = some (t + 1) := rdR_of w.2.2 rfl
theorem tp1 (w : Top h b L xs t) : rdR h 6 1 t = some (t + 55) := rdR_of w.2.2 rfl
theorem tp2 (w : Top h b L xs t) : rdR h 6 2 t = some (t + 327) := rdR_of w.2.2 rfl
theorem tp3 (w : Top h b L xs t) : rdR h 6 3 t = some (t + 383) := rdR_of w.2.2 rfl
theorem tp4 (w : Top h b L xs t) : rdR h 6 4 t = some (t + 385) := rdR_of w.2.2 rfl
theorem tpi (w : Top h b L xs t) : isO h 6 t = true := isO_of w.2.2
end ZTP
/-! the shop at t+1, read -/
theorem hasB_in (v : Int32) {n : Nat} (hn : n < 100) : hasB v (nI n) = (decide (0 ≤ v) && decide (v ≤ nI n - 1)) := by
  simp only [hasB]
  congr 1
  refine decide_eq_decide.mpr ?_
  by_cases h0 : n = 0
  · subst h0
    rw [i_lt, i_le, show (nI 0 : Int32).toInt = 0 from rfl, show (nI 0 - 1 : Int32).toInt = -1 from rfl]
    omega
  · rw [nI_sub1 (by omega), i_lt, i_le]
    have e : ∀ m : Nat, m < 100 → (nI m).toInt = m := fun m hm => by
      have := (nI_idx (j := m) (n := m + 1) (by omega) (by omega))
      have q := this.2.2
      have p := this.1
      rw [Int32.toNatClampNeg] at q
      omega
    rw [e n hn, e (n - 1) (by omega)]
    omega
/-- a valid number is one of a place -/
theorem hasB_nI' {v : Int32} {n : Nat} (hn : n < 100) (h : hasB v (nI n) = true) : ∃ k, k < n ∧ v = nI k := by
  simp only [hasB, Bool.and_eq_true, decide_eq_true_eq] at h
  have e : (nI n).toInt = n := by
    have := (nI_idx (j := n) (n := n + 1) (by omega) (by omega))
    have q := this.2.2
    have p := this.1
    rw [Int32.toNatClampNeg] at q
    omega
  have h1 := i_le.mp h.1
  have h2 := i_lt.mp h.2
  rw [e] at h2
  rw [show (0 : Int32).toInt = 0 from rfl] at h1
  refine ⟨v.toInt.toNat, by omega, ?_⟩
  rw [i_eq]
  have := (nI_idx (j := v.toInt.toNat) (n := v.toInt.toNat + 1) (by omega) (by omega))
  have q := this.2.2
  have p := this.1
  rw [Int32.toNatClampNeg] at q
  omega
