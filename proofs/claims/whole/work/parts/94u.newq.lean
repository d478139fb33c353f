/-! the constructors: a history, a forecast, the reference -/
section ZNU
variable {f F : Nat → Option zX} {lo y z n a t m sc : Nat}
set_option maxRecDepth 100000 in
theorem X1_new (hf : f a = some (xO 1 [.null, .int 0])) : ∃ h', fX1_init [.ref a] (a + 1, f) = some h' ∧ h'.1 = a + 272 ∧ h'.2 a = some (xO 1 [.ref (a + 1), .int 0]) ∧ h'.2 (a + 1) = some (xR 5 5 (fun k => if k < 5 then some (a + 2 + 54 * k) else none)) ∧ (∀ k, k < 5 → AtN h' (a + 2 + 54 * k)) ∧ ∀ x, x < a → h'.2 x = f x := by
  have a1 : sFr 1 0 (rL 0) (rNR 5 5 (eC 5)) [.ref a] (a + 1, f) = some (.inl ([.ref a], (a + 2, va_up (va_up f (a + 1) (some (xR 5 5 (fun _ => none)))) a (some (xO 1 [.ref (a + 1), .int 0]))))) := fr_NR hf (by simp) rfl (by omega)
  obtain ⟨en', h', e1, e2, e3, e4, e5, e6, e7⟩ := sW_inv (c := bCmp o_lt (eL 1) (eC 5)) (f := sSeq (sQ 5 (rF 1 0 (rL 0)) (eL 1) (rNw 5 [.null, .null, .null, .int 0, .int 0, .int 0, .int 0, .int 0, .int 0, .int 0, .int 0, .int 0, .int 0] (aN) fX5_init)) (sInc 1 1))
    (fun j en h => en = [.ref a, .int (nI j)] ∧ h.1 = a + 2 + 54 * j ∧ h.2 a = some (xO 1 [.ref (a + 1), .int 0]) ∧ h.2 (a + 1) = some (xR 5 5 (fun k => if k < j then some (a + 2 + 54 * k) else none)) ∧ (∀ k, k < j → AtN h (a + 2 + 54 * k)) ∧ ∀ x, x < a → h.2 x = f x) 5 5 6 0 [.ref a, .int 0] (a + 2, va_up (va_up f (a + 1) (some (xR 5 5 (fun _ => none)))) a (some (xO 1 [.ref (a + 1), .int 0]))) (by omega) (by omega) (by omega)
    ⟨rfl, rfl, va_up_self _ _ _, (va_up_ne _ _ (by omega)).trans ((va_up_self _ _ _).trans (by simp)), fun k hk => by omega, fun x hx => (va_up_ne _ _ (by omega)).trans (va_up_ne _ _ (by omega))⟩
    (fun j en h hj ⟨i1, _⟩ => by
      subst i1
      simp [bCmp, eL, eC, show (5 : Int32) = nI 5 from rfl, o_lt_nI (a := j) (b := 5) (by omega) (by omega)])
    (fun j en h hj ⟨i1, i2, i3, i4, i5, i6⟩ => by
      subst i1
      obtain ⟨n, G⟩ := h
      dsimp only at i2 i3 i4 i6
      obtain ⟨h', k1, k2, k3, k4⟩ := X5_new (f := va_up G n (some (n5 .null .null .null 0 0 0 0))) (lo := n) (va_up_self _ _ _)
      have k5 : ∀ x, x < n → h'.2 x = G x := fun x hx => by rw [k4 x hx, va_up_ne _ _ (by omega)]
      have r0 : rdR ((n, G) : zH) 1 0 a = some (a + 1) := rdR_of i3 rfl
      have w := wrQ_of (h := h') (ci := 5) (a := a + 1) (j := j) (b := n) (by rw [k5 _ (by omega)]; exact i4) hj (by omega) (isO_of (a_0 k3))
      have ln := lt_up (y := j) (z := n) (g := fun k => some (a + 2 + 54 * k)) (by rw [i2])
      rw [ln] at w
      simp only [n5] at k1
      refine ⟨[.ref a, .int (nI (j + 1))], hp h' (a + 1) (xR 5 5 (fun k => if k < j + 1 then some (a + 2 + 54 * k) else none)), ?_, rfl, ?_, ?_, hp_self _ _ _, fun k hk => ?_, fun x hx => ?_⟩
      · simp [sSeq, sQ, rF, rL, r0, eL, rNw, aN, k1, w, sInc, zSt, nI_1, zCut]
      · show h'.1 = _
        rw [k2]
        omega
      · rw [hp_ne _ _ (by omega), k5 _ (by omega)]
        exact i3
      · by_cases e : k = j
        · rw [e, ← i2]
          exact At_keep k3 (fun x _ _ => hp_ne _ _ (by omega))
        · exact At_keep (i5 k (by omega)) (fun x _ _ => by rw [hp_ne _ _ (by omega), k5 _ (by omega)])
      · rw [hp_ne _ _ (by omega), k5 _ (by omega)]
        exact i6 x hx)
  have q : bX1_init [.ref a] (a + 1, f) = some (.inl ([.ref a], h')) := by
    have e : sLi 1 (eC 0) [.ref a] (a + 2, va_up (va_up f (a + 1) (some (xR 5 5 (fun _ => none)))) a (some (xO 1 [.ref (a + 1), .int 0]))) = some (.inl ([.ref a, .int 0], (a + 2, va_up (va_up f (a + 1) (some (xR 5 5 (fun _ => none)))) a (some (xO 1 [.ref (a + 1), .int 0]))))) := by simp [sLi, eC, zSt]
    unfold bX1_init
    rw [seq1 ini1, seq1 a1]
    simp only [sBlk]
    rw [seq1 e, e1, e2]
    simp [zCut]
  exact ⟨h', by simp [fX1_init, q], e3, e4, e5, e6, e7⟩
theorem X0_new (hf : F a = some (xO 0 [.null, .null])) (ne : a ≠ n) : fX0_init [.ref a, .ref sc] (n, F) = some (n + 1, va_up (va_up F n (some (xI 10 (fun _ => 0)))) a (some (cFo sc n))) := by
  have e1 : sFr 0 1 (rL 0) (rNA 10 (eC 10)) [.ref a, .ref sc] (n, F) = some (.inl ([.ref a, .ref sc], (n + 1, va_up (va_up F n (some (xI 10 (fun _ => 0)))) a (some (xO 0 [.null, .ref n]))))) := fr_NA hf (by simp) rfl ne
  have w := up1 (n := n + 1) (k := 0) (va_up_self (va_up F n (some (xI 10 (fun _ => 0)))) a (some (xO 0 [.null, .ref n]))) (by simp) (.ref sc)
  rw [up_up] at w
  have e2 : sFr 0 0 (rL 0) (rL 1) [.ref a, .ref sc] (n + 1, va_up (va_up F n (some (xI 10 (fun _ => 0)))) a (some (xO 0 [.null, .ref n]))) = some (.inl ([.ref a, .ref sc], (n + 1, va_up (va_up F n (some (xI 10 (fun _ => 0)))) a (some (cFo sc n))))) := by
    simp only [sFr, rL, List.getElem?_cons_zero, List.getElem?_cons_succ, Option.bind_some]
    rw [w]
    rfl
  have q : bX0_init [.ref a, .ref sc] (n, F) = some (.inl ([.ref a, .ref sc], (n + 1, va_up (va_up F n (some (xI 10 (fun _ => 0)))) a (some (cFo sc n))))) := by
    unfold bX0_init
    rw [seq1 ini1, seq1 e1, e2]
  simp [fX0_init, q]
/-! the reference -/
abbrev n7 (a b c d e f g : Value) : zX := xO 7 [.int 0, a, b, c, .int 0, d, .int 0, .int 0, .int 0, .int 0, e, f, g]
abbrev z_0 : Nat → Int32 := fun _ => 0
theorem hM_pre : ((m + 8, va_up (va_up (va_up (va_up (va_up (va_up (va_up (va_up (va_up (va_up (va_up (va_up (va_up (va_up f (m + 1) (some (xI 343 z_0))) m (some (n7 (.ref (m + 1)) .null .null .null .null .null .null))) (m + 2) (some (xI 343 z_0))) m (some (n7 (.ref (m + 1)) (.ref (m + 2)) .null .null .null .null .null))) (m + 3) (some (xI 1715 z_0))) m (some (n7 (.ref (m + 1)) (.ref (m + 2)) (.ref (m + 3)) .null .null .null .null))) (m + 4) (some (xI 12 z_0))) m (some (n7 (.ref (m + 1)) (.ref (m + 2)) (.ref (m + 3)) (.ref (m + 4)) .null .null .null))) (m + 5) (some (xI 10 z_0))) m (some (n7 (.ref (m + 1)) (.ref (m + 2)) (.ref (m + 3)) (.ref (m + 4)) (.ref (m + 5)) .null .null))) (m + 6) (some (xI 10 z_0))) m (some (n7 (.ref (m + 1)) (.ref (m + 2)) (.ref (m + 3)) (.ref (m + 4)) (.ref (m + 5)) (.ref (m + 6)) .null))) (m + 7) (some (xI 19 z_0))) m (some (n7 (.ref (m + 1)) (.ref (m + 2)) (.ref (m + 3)) (.ref (m + 4)) (.ref (m + 5)) (.ref (m + 6)) (.ref (m + 7))))) : zH) = hM (m + 8, f) m z_0 (fun _ => z_0) z_0 z_0 (fun _ => z_0) z_0 := by
  refine pair_ext fun x => ?_
  by_cases e0 : x = m
  · subst e0
    rw [va_up_self, if_pos rfl]
  · rw [va_up_ne _ _ e0, if_neg e0]
    by_cases e7 : x = m + 7
    · subst e7; rw [va_up_self, if_neg (by omega), if_neg (by omega), if_neg (by omega), if_neg (by omega), if_neg (by omega), if_neg (by omega), if_pos rfl]
    rw [va_up_ne _ _ e7, va_up_ne _ _ e0]
    by_cases e6 : x = m + 6
    · subst e6; rw [va_up_self, if_neg (by omega), if_neg (by omega), if_neg (by omega), if_neg (by omega), if_neg (by omega), if_pos rfl]
    rw [va_up_ne _ _ e6, va_up_ne _ _ e0]
    by_cases e5 : x = m + 5
    · subst e5; rw [va_up_self, if_neg (by omega), if_neg (by omega), if_neg (by omega), if_neg (by omega), if_pos rfl]
    rw [va_up_ne _ _ e5, va_up_ne _ _ e0]
    by_cases e4 : x = m + 4
    · subst e4; rw [va_up_self, if_neg (by omega), if_neg (by omega), if_neg (by omega), if_pos rfl]
    rw [va_up_ne _ _ e4, va_up_ne _ _ e0]
    by_cases e3 : x = m + 3
    · subst e3; rw [va_up_self, if_neg (by omega), if_neg (by omega), if_pos rfl]
    rw [va_up_ne _ _ e3, va_up_ne _ _ e0]
    by_cases e2 : x = m + 2
    · subst e2; rw [va_up_self, if_neg (by omega), if_pos rfl]
    rw [va_up_ne _ _ e2, va_up_ne _ _ e0]
    by_cases e1 : x = m + 1
    · subst e1; rw [va_up_self, if_pos rfl]
    rw [va_up_ne _ _ e1, if_neg e1, if_neg e2, if_neg e3, if_neg e4, if_neg e5, if_neg e6, if_neg e7]
set_option maxRecDepth 100000 in
theorem X7_new (hf : f m = some (n7 .null .null .null .null .null .null .null)) : fX7_init [.ref m] (m + 1, f) = some (hM (m + 8, f) m (upd z_0 0 0) (va_up (fun _ => z_0) 1 (upd (upd z_0 3 (-9)) 5 (-9))) z_0 z_0 (fun _ => z_0) z_0) := by
  have b1 : sFr 7 1 (rL 0) (rNA 343 (eC 343)) [.ref m] (m + 1, f) = some (.inl ([.ref m], (m + 2, va_up (va_up f (m + 1) (some (xI 343 z_0))) m (some (n7 (.ref (m + 1)) .null .null .null .null .null .null))))) := fr_NA hf (by simp) rfl (by omega)
  have b2 : ∀ F : Nat → Option zX, sFr 7 2 (rL 0) (rNA 343 (eC 343)) [.ref m] (m + 2, va_up F m (some (n7 (.ref (m + 1)) .null .null .null .null .null .null))) = some (.inl ([.ref m], (m + 3, va_up (va_up (va_up F m (some (n7 (.ref (m + 1)) .null .null .null .null .null .null))) (m + 2) (some (xI 343 z_0))) m (some (n7 (.ref (m + 1)) (.ref (m + 2)) .null .null .null .null .null))))) := fun F => fr_NA (va_up_self _ _ _) (by simp) rfl (by omega)
  have b3 : ∀ F : Nat → Option zX, sFr 7 3 (rL 0) (rNA 1715 (eC 1715)) [.ref m] (m + 3, va_up F m (some (n7 (.ref (m + 1)) (.ref (m + 2)) .null .null .null .null .null))) = some (.inl ([.ref m], (m + 4, va_up (va_up (va_up F m (some (n7 (.ref (m + 1)) (.ref (m + 2)) .null .null .null .null .null))) (m + 3) (some (xI 1715 z_0))) m (some (n7 (.ref (m + 1)) (.ref (m + 2)) (.ref (m + 3)) .null .null .null .null))))) := fun F => fr_NA (va_up_self _ _ _) (by simp) rfl (by omega)
  have b4 : ∀ F : Nat → Option zX, sFr 7 5 (rL 0) (rNA 12 (eC 12)) [.ref m] (m + 4, va_up F m (some (n7 (.ref (m + 1)) (.ref (m + 2)) (.ref (m + 3)) .null .null .null .null))) = some (.inl ([.ref m], (m + 5, va_up (va_up (va_up F m (some (n7 (.ref (m + 1)) (.ref (m + 2)) (.ref (m + 3)) .null .null .null .null))) (m + 4) (some (xI 12 z_0))) m (some (n7 (.ref (m + 1)) (.ref (m + 2)) (.ref (m + 3)) (.ref (m + 4)) .null .null .null))))) := fun F => fr_NA (va_up_self _ _ _) (by simp) rfl (by omega)
  have b5 : ∀ F : Nat → Option zX, sFr 7 10 (rL 0) (rNA 10 (eC 10)) [.ref m] (m + 5, va_up F m (some (n7 (.ref (m + 1)) (.ref (m + 2)) (.ref (m + 3)) (.ref (m + 4)) .null .null .null))) = some (.inl ([.ref m], (m + 6, va_up (va_up (va_up F m (some (n7 (.ref (m + 1)) (.ref (m + 2)) (.ref (m + 3)) (.ref (m + 4)) .null .null .null))) (m + 5) (some (xI 10 z_0))) m (some (n7 (.ref (m + 1)) (.ref (m + 2)) (.ref (m + 3)) (.ref (m + 4)) (.ref (m + 5)) .null .null))))) := fun F => fr_NA (va_up_self _ _ _) (by simp) rfl (by omega)
  have b6 : ∀ F : Nat → Option zX, sFr 7 11 (rL 0) (rNA 10 (eC 10)) [.ref m] (m + 6, va_up F m (some (n7 (.ref (m + 1)) (.ref (m + 2)) (.ref (m + 3)) (.ref (m + 4)) (.ref (m + 5)) .null .null))) = some (.inl ([.ref m], (m + 7, va_up (va_up (va_up F m (some (n7 (.ref (m + 1)) (.ref (m + 2)) (.ref (m + 3)) (.ref (m + 4)) (.ref (m + 5)) .null .null))) (m + 6) (some (xI 10 z_0))) m (some (n7 (.ref (m + 1)) (.ref (m + 2)) (.ref (m + 3)) (.ref (m + 4)) (.ref (m + 5)) (.ref (m + 6)) .null))))) := fun F => fr_NA (va_up_self _ _ _) (by simp) rfl (by omega)
  have b7 : ∀ F : Nat → Option zX, sFr 7 12 (rL 0) (rNA 19 (eC 19)) [.ref m] (m + 7, va_up F m (some (n7 (.ref (m + 1)) (.ref (m + 2)) (.ref (m + 3)) (.ref (m + 4)) (.ref (m + 5)) (.ref (m + 6)) .null))) = some (.inl ([.ref m], (m + 8, va_up (va_up (va_up F m (some (n7 (.ref (m + 1)) (.ref (m + 2)) (.ref (m + 3)) (.ref (m + 4)) (.ref (m + 5)) (.ref (m + 6)) .null))) (m + 7) (some (xI 19 z_0))) m (some (n7 (.ref (m + 1)) (.ref (m + 2)) (.ref (m + 3)) (.ref (m + 4)) (.ref (m + 5)) (.ref (m + 6)) (.ref (m + 7))))))) := fun F => fr_NA (va_up_self _ _ _) (by simp) rfl (by omega)
  have w3 := wh3 (h := hM (m + 8, f) m (upd z_0 0 0) (fun _ => z_0) z_0 z_0 (fun _ => z_0) z_0) (hM_r (i := 1) (.inl rfl)) (-9)
  rw [wM_r (.inl rfl)] at w3
  have w5 := wh5 (h := hM (m + 8, f) m (upd z_0 0 0) (va_up (fun _ => z_0) 1 (upd z_0 3 (-9))) z_0 z_0 (fun _ => z_0) z_0) (hM_r (i := 1) (.inl rfl)) (-9)
  rw [wM_r (.inl rfl), up_self, up_up] at w5
  have c0 : sF 7 0 (rL 0) (eC 0) [.ref m] (hM (m + 8, f) m z_0 (fun _ => z_0) z_0 z_0 (fun _ => z_0) z_0) = some (.inl ([.ref m], hM (m + 8, f) m (upd z_0 0 0) (fun _ => z_0) z_0 z_0 (fun _ => z_0) z_0)) := by simp only [sF, rL, eC, List.getElem?_cons_zero, Option.bind_some, wMo0, Option.map_some]
  have c1 : sA (rF 7 1 (rL 0)) (eC 3) (eC (-9)) [.ref m] (hM (m + 8, f) m (upd z_0 0 0) (fun _ => z_0) z_0 z_0 (fun _ => z_0) z_0) = some (.inl ([.ref m], hM (m + 8, f) m (upd z_0 0 0) (va_up (fun _ => z_0) 1 (upd z_0 3 (-9))) z_0 z_0 (fun _ => z_0) z_0)) := by
    simp only [sA, rF, rL, eC, List.getElem?_cons_zero, Option.bind_some, rMr1, Option.map_some]
    rw [w3]
    rfl
  have c2 : sA (rF 7 1 (rL 0)) (eC 5) (eC (-9)) [.ref m] (hM (m + 8, f) m (upd z_0 0 0) (va_up (fun _ => z_0) 1 (upd z_0 3 (-9))) z_0 z_0 (fun _ => z_0) z_0) = some (.inl ([.ref m], hM (m + 8, f) m (upd z_0 0 0) (va_up (fun _ => z_0) 1 (upd (upd z_0 3 (-9)) 5 (-9))) z_0 z_0 (fun _ => z_0) z_0)) := by
    simp only [sA, rF, rL, eC, List.getElem?_cons_zero, Option.bind_some, rMr1, Option.map_some]
    rw [w5]
    rfl
  have q : bX7_init [.ref m] (m + 1, f) = some (.inl ([.ref m], hM (m + 8, f) m (upd z_0 0 0) (va_up (fun _ => z_0) 1 (upd (upd z_0 3 (-9)) 5 (-9))) z_0 z_0 (fun _ => z_0) z_0)) := by
    unfold bX7_init
    rw [seq1 ini1, seq1 b1, seq1 (b2 _), seq1 (b3 _), seq1 (b4 _), seq1 (b5 _), seq1 (b6 _), seq1 (b7 _), hM_pre, seq1 c0, seq1 c1, c2]
  simp [fX7_init, q]
end ZNU
