/-! the reference: goesOn, finish, hurryIn -/
def sdF (S : Nat → Int32) (p : Nat) (d : Int32) (w : Bool) : Nat := if mayM S p 0 d w = true then 0 else 1
def nk (S : Nat → Int32) (k : Nat) : Nat := (sO S k 5).toNatClampNeg
def itsM (S : Nat → Int32) (k : Nat) : Int32 := nlM S k (nk S k)
def fndK (S : Nat → Int32) (nP k : Nat) : Option (Bool × Nat) := fnd S (itsM S k) (sO S k 3) nP
def goF (S : Nat → Int32) (nP : Nat) : Nat → Option (Nat × Bool × Nat)
  | 0 => none
  | k + 1 => match goF S nP k with
    | some x => some x
    | none => match fndK S nP k with
      | some q => some (k, q.1, q.2)
      | none => none
def gGo (g S : Nat → Int32) (nP : Nat) : Nat → Nat → Int32
  | 0 => g
  | k + 1 => gFP (gGo g S nP k) S (itsM S k) (sO S k 3) nP
def opBegin (S : Nat → Int32) (k p : Nat) (w : Bool) (sd : Nat) : Nat → Int32 :=
  if w = true then opGrind (upd (upd (upd (upd (upd S 3 (nI k)) 5 (nI p)) 6 (nI sd)) 4 (efM S k + 10)) (10 + 7 * p + 2) 1) p sd
  else upd (upd (upd (upd (upd S 3 (nI k)) 5 (nI p)) 6 (nI sd)) 4 (efM S k)) (10 + 7 * p + 2) 1
def opGo (S : Nat → Int32) (nP nO : Nat) : Nat → Int32 :=
  if S 3 = -9 then (match goF S nP nO with
    | some x => opBegin S x.1 x.2.2 x.2.1 (sdF S x.2.2 (sO S x.1 3) x.2.1)
    | none => S)
  else S
theorem goF_some {S : Nat → Int32} {nP k p : Nat} {w : Bool} : ∀ {n}, goF S nP n = some (k, w, p) → k < n ∧ goF S nP k = none ∧ fndK S nP k = some (w, p)
  | 0, h => by cases h
  | n + 1, h => by
    simp only [goF] at h
    cases hg : goF S nP n with
    | some x =>
      rw [hg] at h
      cases h
      obtain ⟨a, b, c⟩ := goF_some hg
      exact ⟨by omega, b, c⟩
    | none =>
      rw [hg] at h
      cases hf : fndK S nP n with
      | none => rw [hf] at h; cases h
      | some q =>
        rw [hf] at h
        cases h
        exact ⟨by omega, hg, hf⟩
theorem goF_none {S : Nat → Int32} {nP : Nat} : ∀ {n}, goF S nP n = none → ∀ k, k < n → fndK S nP k = none
  | 0, _, k, hk => by omega
  | n + 1, h, k, hk => by
    simp only [goF] at h
    cases hg : goF S nP n with
    | some x => rw [hg] at h; cases h
    | none =>
      rw [hg] at h
      cases hf : fndK S nP n with
      | some q => rw [hf] at h; cases h
      | none =>
        by_cases hkn : k = n
        · rw [hkn]; exact hf
        · exact goF_none hg k (by omega)
theorem fnd_lt {S : Nat → Int32} {its d : Int32} {nP p : Nat} {w : Bool} (h : fnd S its d nP = some (w, p)) : p < nP ∧ okM S its d w p = true ∧ bstO S its d w nP = some p ∧ (w = true → bstO S its d false nP = none) := by
  simp only [fnd] at h
  cases hb : bstO S its d false nP with
  | some q =>
    rw [hb] at h
    cases h
    exact ⟨(bstO_lt hb).1, (bstO_lt hb).2, hb, fun z => by cases z⟩
  | none =>
    rw [hb] at h
    cases hb2 : bstO S its d true nP with
    | some q =>
      rw [hb2] at h
      cases h
      exact ⟨(bstO_lt hb2).1, (bstO_lt hb2).2, hb2, fun _ => rfl⟩
    | none => rw [hb2] at h; cases h
section ZM8
variable {h : zH} {m i j n : Nat} {g SV TX AS S : Nat → Int32} {R T : Nat → Nat → Int32}
theorem gW_k {its d : Int32} {w : Bool} {k x : Nat} (h7 : x ≠ 7) (h8 : x ≠ 8) (h9 : x ≠ 9) : gW g S its d w k x = g x := by simp [gW, gF, upd, h7, h8, h9]
theorem gFP_k {its d : Int32} {k x : Nat} (h7 : x ≠ 7) (h8 : x ≠ 8) (h9 : x ≠ 9) : gFP g S its d k x = g x := by
  cases hb : bstO S its d false k with
  | some p => simp only [gFP, hb]; exact gW_k h7 h8 h9
  | none => simp only [gFP, hb]; rw [gW_k h7 h8 h9, gW_k h7 h8 h9]
theorem gGo_k {nP k x : Nat} (h7 : x ≠ 7) (h8 : x ≠ 8) (h9 : x ≠ 9) : gGo g S nP k x = g x := by
  induction k with
  | zero => rfl
  | succ k ih => simp only [gGo]; rw [gFP_k h7 h8 h9, ih]
theorem gFP_789 {its d : Int32} {nP p : Nat} {w : Bool} (hf : fnd S its d nP = some (w, p)) : gFP g S its d nP 7 = nI p ∧ gFP g S its d nP 8 = nI (sdF S p d w) ∧ gFP g S its d nP 9 = bI w := by
  obtain ⟨-, -, hb, hb0⟩ := fnd_lt hf
  simp only [gFP]
  cases w with
  | false =>
    rw [hb]
    simp only [gW, hb, gF_7, gF_8, gF_9, toI_some, fsO_some, sdF]
    refine ⟨trivial, ?_, trivial⟩
    split <;> rfl
  | true =>
    rw [hb0 rfl]
    simp only [gW, hb, gF_7, gF_8, gF_9, toI_some, fsO_some, sdF]
    refine ⟨trivial, ?_, trivial⟩
    split <;> rfl
theorem sO_upd {a : Nat} {v : Int32} {k x : Nat} (ha : a < 153) : sO (upd S a v) k x = sO S k x := by
  simp only [sO, upd]
  rw [if_neg (by omega)]
theorem efM_upd {a : Nat} {v : Int32} {k : Nat} (ha : a < 153) : efM (upd S a v) k = efM S k := by simp only [efM, sO_upd ha]
end ZM8
