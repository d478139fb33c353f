/-! the constructors: a history, a forecast, the reference -/
section ZNU
variable {f F : Nat → Option zX} {lo y z n a t m sc : Nat}
set_option maxRecDepth 100000 in
theorem X1_new (hf : f a = some (xO 1 [.null, .int 0])) : ∃ h', fX1_init [.ref a] (a + 1, f) = some h' ∧ h'.1 = a + 272 ∧ h'.2 a = some (xO 1 [.ref (a + 1), .int 0]) ∧ h'.2 (a + 1) = some (xR 5 5 (fun k => if k < 5 then some (a + 2 + 54 * k) else none)) ∧ (∀ k, k < 5 → AtN h' (a + 2 + 54 * k)) ∧ ∀ x, x < a → h'.2 x = f x := by
  have a1 : sFr 1 0 (rL 0) (rNR 5 5 (eC 5)) [.ref a] (a + 1, f) = some (.inl ([.ref a], (a + 2, va_up (va_up f (a + 1) (some (xR 5 5 (fun _ => none)))) a (some (xO 1 [.ref (a + 1), .int 0]))))) := fr_NR hf (by simp) rfl (by omega)
  obtain ⟨en', h', e1, e2, e3, e4, e5, e6, e7⟩ := sW_inv (c := bCmp o_lt (eL 1) (eC 5)) (f := sSeq (sQ 5 (rF 1 0 (rL 0)) (eL 1) (rNw 5 [.null, .null, .null, .int 0, .int 0, .int 0, .int 0, .int 0, .int 0, .int 0, .int 0, .int 0, .int 0] (aN) fX5_init)) (sInc 1 1))
    (fun j en h => en = [.ref a, .int (nI j)] ∧ h.1 = a + 2 + 54 * j ∧ h.2 a = some (xO 1 [.ref (a + 1), .int 0]) ∧ h.2 (a + 1) = some (xR 5 5 (fun k => if k < j then some (a + 2 + 54 * k) else none)) ∧ (∀ k, k < j → AtN h (a + 2 + 54 * k)) ∧ ∀ x, x < a → h.2 x = f x) 5 5 6 0 [.ref a, .int 0] (a + 2, va_up (va_up f (a + 1) (some (xR 5 5 (fun _ => none)))) a (some (xO 1 [.ref (a + 1), .int 0]))) (by omega) (by omega) (by omega)
    ⟨rfl, rfl, va_up_self _ _ _, (va_up_ne _ _ (by omega)).trans ((va_up_self _ _ _).trans (by simp)), fun k hk => by omega, fun x hx => (va_up_ne _ _ (by omega)).trans (va_up_ne _ _ (by omega))⟩
    (fun j en h hj ⟨i1, _⟩ => by
      subst i1
      simp [bCmp, eL, eC, show (5 : Int32) = nI 5 from rfl, o_lt_nI (a := j) (b := 5) (by omega) (by omega)])
    (fun j en h hj ⟨i1, i2, i3, i4, i5, i6⟩ => by
      subst i1
      obtain ⟨n, G⟩ := h
      dsimp only at i2 i3 i4 i6
      obtain ⟨h', k1, k2, k3, k4⟩ := X5_new (f := va_up G n (some (n5 .null .null .null 0 0 0 0))) (lo := n) (va_up_self _ _ _)
      have k5 : ∀ x, x < n → h'.2 x = G x := fun x hx => by rw [k4 x hx, va_up_ne _ _ (by omega)]
      have r0 : rdR ((n, G) : zH) 1 0 a = some (a + 1) := rdR_of i3 rfl
      have w := wrQ_of (h := h') (ci := 5) (a := a + 1) (j := j) (b := n) (by rw [k5 _ (by omega)]; exact i4) hj (by omega) (isO_of (a_0 k3))
      have ln := lt_up (y := j) (z := n) (g := fun k => some (a + 2 + 54 * k)) (by rw [i2])
      rw [ln] at w
      simp only [n5] at k1
      refine ⟨[.ref a, .int (nI (j + 1))], hp h' (a + 1) (xR 5 5 (fun k => if k < j + 1 then some (a + 2 + 54 * k) else none)), ?_, rfl, ?_, ?_, hp_self _ _ _, fun k hk => ?_, fun x hx => ?_⟩
      · simp [sSeq, sQ, rF, rL, r0, eL, rNw, aN, k1, w, sInc, zSt, nI_1, zCut]
      · show h'.1 = _
        rw [k2]
        omega
      · rw [hp_ne _ _ (by omega), k5 _ (by omega)]
        exact i3
      · by_cases e : k = j
        · rw [e, ← i2]
          exact At_keep k3 (fun x _ _ => hp_ne _ _ (by omega))
        · exact At_keep (i5 k (by omega)) (fun x _ _ => by rw [hp_ne _ _ (by omega), k5 _ (by omega)])
      · rw [hp_ne _ _ (by omega), k5 _ (by omega)]
        exact i6 x hx)
  have q : bX1_init [.ref a] (a + 1, f) = some (.inl ([.ref a], h')) := by
    have e : sLi 1 (eC 0) [.ref a] (a + 2, va_up (va_up f (a + 1) (some (xR 5 5 (fun _ => none)))) a (some (xO 1 [.ref (a + 1), .int 0]))) = some (.inl ([.ref a, .int 0], (a + 2, va_up (va_up f (a + 1) (some (xR 5 5 (fun _ => none)))) a (some (xO 1 [.ref (a + 1), .int 0]))))) := by simp [sLi, eC, zSt]
    unfold bX1_init
    rw [seq1 ini1, seq1 a1]
    simp only [sBlk]
    rw [seq1 e, e1, e2]
    simp [zCut]
  exact ⟨h', by simp [fX1_init, q], e3, e4, e5, e6, e7⟩
theorem X0_new (hf : F a = some (xO 0 [.null, .null])) (ne : a ≠ n) : fX0_init [.ref a, .ref sc] (n, F) = some (n + 1, va_up (va_up F n (some (xI 10 (fun _ => 0)))) a (some (cFo sc n))) := by
  have e1 : sFr 0 1 (rL 0) (rNA 10 (eC 10)) [.ref a, .ref sc] (n, F) = some (.inl ([.ref a, .ref sc], (n + 1, va_up (va_up F n (some (xI 10 (fun _ => 0)))) a (some (xO 0 [.null, .ref n]))))) := fr_NA hf (by simp) rfl ne
  have w := up1 (n := n + 1) (k := 0) (va_up_self (va_up F n (some (xI 10 (fun _ => 0)))) a (some (xO 0 [.null, .ref n]))) (by simp) (.ref sc)
  rw [up_up] at w
  have e2 : sFr 0 0 (rL 0) (rL 1) [.ref a, .ref sc] (n + 1, va_up (va_up F n (some (xI 10 (fun _ => 0)))) a (some (xO 0 [.null, .ref n]))) = some (.inl ([.ref a, .ref sc], (n + 1, va_up (va_up F n (some (xI 10 (fun _ => 0)))) a (some (cFo sc n))))) := by
    simp only [sFr, rL, List.getElem?_cons_zero, List.getElem?_cons_succ, Option.bind_some]
    rw [w]
    rfl
  have q : bX0_init [.ref a, .ref sc] (n, F) = some (.inl ([.ref a, .ref sc], (n + 1, va_up (va_up F n (some (xI 10 (fun _ => 0)))) a (some (cFo sc n))))) := by
    unfold bX0_init
    rw [seq1 ini1, seq1 e1, e2]
  simp [fX0_init, q]
abbrev z_0 : Nat → Int32 := fun _ => 0
end ZNU
