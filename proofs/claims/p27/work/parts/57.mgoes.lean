/-! the reference: goesOn, finish, hurryIn, whole -/
theorem opGrind_hd {S : Nat → Int32} {p sd x : Nat} (hx : x < 9) : opGrind S p sd x = S x := by
  simp only [opGrind]
  rw [upd_ne (by omega), upd_ne (by omega), upd_ne (by omega)]
theorem opBegin_3 {S : Nat → Int32} {k p sd : Nat} {w : Bool} : opBegin S k p w sd 3 = nI k := by
  cases w
  · simp only [opBegin]
    rw [if_neg (by decide), upd_ne (by omega), upd_ne (by omega), upd_ne (by omega), upd_ne (by omega), upd_self]
  · simp only [opBegin]
    rw [if_pos trivial, opGrind_hd (by omega), upd_ne (by omega), upd_ne (by omega), upd_ne (by omega), upd_ne (by omega), upd_self]
def gGoes (g S : Nat → Int32) (nP nO : Nat) : Nat → Int32 := if S 3 = -9 then (match goF S nP nO with
  | some x => gGo g S nP (x.1 + 1)
  | none => gGo g S nP nO) else g
section ZM9
variable {h : zH} {m i j n : Nat} {g SV TX AS S : Nat → Int32} {R T : Nat → Nat → Int32}
theorem gGoes_k {nP nO x : Nat} (h7 : x ≠ 7) (h8 : x ≠ 8) (h9 : x ≠ 9) : gGoes g S nP nO x = g x := by
  by_cases hz : S 3 = -9
  · simp only [gGoes, if_pos hz]
    cases goF S nP nO with
    | some q => exact gGo_k h7 h8 h9
    | none => exact gGo_k h7 h8 h9
  · simp only [gGoes, if_neg hz]
/-- the order at work is done -/
def opFin (S : Nat → Int32) (k p sd s : Nat) (y : Int32) (nP nO : Nat) : Nat → Int32 :=
  upd (opTake (opRest (opFix (upd S (10 + 7 * p + (3 + sd)) (sO S k 3)) p s y nP)) k nO) 7 (opRest (opFix (upd S (10 + 7 * p + (3 + sd)) (sO S k 3)) p s y nP) 7 + 1)
theorem opOut_hd {o : Option Nat} {x : Nat} (hx : x < 10 ∨ 150 ≤ x) (ho : ∀ q, o = some q → q < 20) : opOut S o x = S x := by
  cases o with
  | none => rfl
  | some q =>
    have := ho q rfl
    simp only [opOut]
    rw [upd_ne (by omega)]
theorem opFix_hd {p s nP x : Nat} {y : Int32} (hx : x < 10 ∨ 150 ≤ x) (hp0 : p < 20) (hn : nP ≤ 20) : opFix S p s y nP x = S x := by
  have e : opFix0 S p s y x = S x := by
    simp only [opFix0]
    rw [upd_ne (by omega), upd_ne (by omega), upd_ne (by omega)]
  simp only [opFix]
  split
  · rw [opOut_hd hx (fun q hq => by have := (lastO_lt hq).1; omega), e]
  · exact e
theorem opRest_ge {x : Nat} (hx : 7 ≤ x ∨ x < 3) : opRest S x = S x := by
  simp only [opRest]
  rw [upd_ne (by omega), upd_ne (by omega), upd_ne (by omega), upd_ne (by omega)]
theorem opTake_hd {k nO x : Nat} (hx : x < 153) (h2 : x ≠ 2) (h3 : x ≠ 3) : opTake S k nO x = S x := by
  simp only [opTake]
  rw [upd_ne h3]
  simp only [shDn]
  rw [if_neg (by omega), upd_ne h2]
theorem sO_opFix {p s nP k x : Nat} {y : Int32} (hp0 : p < 20) (hn : nP ≤ 20) : sO (opFix S p s y nP) k x = sO S k x := opFix_hd (by omega) hp0 hn
end ZM9
