/-! both sides: a forecast, whole -/
def tgO (O : Nat → Nat → Int32) (pi : Nat → Nat) : Nat → (Nat → Nat → Int32)
  | 0 => O
  | n + 1 => va_up (tgO O pi n) (pi n) (upd (tgO O pi n (pi n)) 5 (nI n))
theorem tgO_ge {O : Nat → Nat → Int32} {pi : Nat → Nat} (hpi : PI pi) : ∀ n, n ≤ 10 → ∀ k, n ≤ k → k < 10 → tgO O pi n (pi k) = O (pi k)
  | 0, _, k, _, _ => rfl
  | n + 1, hn, k, h1, h2 => by
    have ne : pi k ≠ pi n := fun e => by have := hpi.2 _ _ h2 (by omega) e; omega
    simp only [tgO]
    rw [va_up_ne _ _ ne]
    exact tgO_ge hpi n (by omega) k (by omega) h2
theorem tgO_at {O : Nat → Nat → Int32} {pi : Nat → Nat} (hpi : PI pi) : ∀ n, n ≤ 10 → ∀ k, k < n → tgO O pi n (pi k) = upd (O (pi k)) 5 (nI k)
  | 0, _, k, h => by omega
  | n + 1, hn, k, h => by
    simp only [tgO]
    by_cases e : k = n
    · subst e
      rw [va_up_self, tgO_ge hpi k (by omega) k (Nat.le_refl _) (by omega)]
    · have ne : pi k ≠ pi n := fun q => by have := hpi.2 _ _ (by omega) (by omega) q; omega
      rw [va_up_ne _ _ ne]
      exact tgO_at hpi n (by omega) k (by omega)
section ZFW
variable {S s pf N g SV TX AS : Nat → Int32} {P O L R T : Nat → Nat → Int32} {pi : Nat → Nat} {nS nP nO c i : Nat}
end ZFW
