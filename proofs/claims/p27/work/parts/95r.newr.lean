/-! the constructors: the object, and the start of both -/
section ZNV
variable {f F F' : Nat → Option zX} {lo y z n n' a t m sc ci k cj : Nat} {fs fs0 : List Value} {en : List Value}
theorem fr_Nr {fn : zFV} (e : fn [.ref n, .ref sc] (n + 1, va_up F n (some (xO cj fs0))) = some (n', F')) (hf : F' a = some (xO ci fs)) (hk : k < fs.length) : sFr ci k (rL 0) (rNw cj fs0 (aR (rL 1) (aN)) fn) (.ref a :: .ref sc :: en) (n, F) = some (.inl (.ref a :: .ref sc :: en, (n', va_up F' a (some (xO ci (fs.set k (.ref n))))))) := by
  have w := up1 (n := n') hf hk (.ref n)
  simp [sFr, rL, rNw, aR, aN, e, w]
abbrev n6 (a b c d e : Value) : zX := xO 6 [a, b, c, d, e]
set_option maxRecDepth 100000 in
theorem X6_new (hf : f t = some (n6 .null .null .null .null .null)) : ∃ h', fX6_init [.ref t] (t + 1, f) = some h' ∧ h'.1 = t + 387 ∧ h'.2 t = some (cTr t) ∧ AtN h' (t + 1) ∧
    h'.2 (t + 55) = some (xO 1 [.ref (t + 55 + 1), .int 0]) ∧ h'.2 (t + 55 + 1) = some (xR 5 5 (fun k => if k < 5 then some (t + 55 + 2 + 54 * k) else none)) ∧ (∀ k, k < 5 → AtN h' (t + 55 + 2 + 54 * k)) ∧
    h'.2 (t + 327) = some (cNm (t + 328) 0) ∧ h'.2 (t + 328) = some (xI 12 (fun _ => 0)) ∧ AtN h' (t + 329) ∧
    h'.2 (t + 383) = some (cFo (t + 329) (t + 384)) ∧ h'.2 (t + 384) = some (xI 10 (fun _ => 0)) ∧ h'.2 (t + 385) = some (cFo (t + 329) (t + 386)) ∧ h'.2 (t + 386) = some (xI 10 (fun _ => 0)) ∧ ∀ x, x < t → h'.2 x = f x := by
  -- the shop
  obtain ⟨⟨n1, H1⟩, p1, p2, p3, p4⟩ := X5_new (f := va_up f (t + 1) (some (n5 .null .null .null 0 0 0 0))) (lo := t + 1) (va_up_self _ _ _)
  dsimp only at p2 p4
  obtain rfl : n1 = t + 55 := by omega
  have q1 : sFr 6 0 (rL 0) (rNw 5 [.null, .null, .null, .int 0, .int 0, .int 0, .int 0, .int 0, .int 0, .int 0, .int 0, .int 0, .int 0] (aN) fX5_init) [.ref t] (t + 1, f) = some (.inl ([.ref t], (t + 55, va_up H1 t (some (n6 (.ref (t + 1)) .null .null .null .null))))) := fr_Nw p1 ((p4 t (by omega)).trans ((va_up_ne _ _ (by omega)).trans hf)) (by simp)
  have k1 : ∀ x, x < t → H1 x = f x := fun x hx => by rw [p4 x (by omega), va_up_ne _ _ (by omega)]
  generalize hG1 : va_up H1 t (some (n6 (.ref (t + 1)) .null .null .null .null)) = G1 at q1
  have g1t : G1 t = some (n6 (.ref (t + 1)) .null .null .null .null) := by rw [← hG1, va_up_self]
  have g1 : ∀ x, x ≠ t → G1 x = H1 x := fun x hx => by rw [← hG1, va_up_ne _ _ hx]
  -- the history
  obtain ⟨⟨n2, H2⟩, r1, r2, r3, r4, r5, r6⟩ := X1_new (f := va_up G1 (t + 55) (some (xO 1 [.null, .int 0]))) (a := t + 55) (va_up_self _ _ _)
  dsimp only at r2 r3 r4 r6
  obtain rfl : n2 = t + 327 := by omega
  have k2 : ∀ x, x < t + 55 → H2 x = G1 x := fun x hx => by rw [r6 x hx, va_up_ne _ _ (by omega)]
  have q2 : sFr 6 1 (rL 0) (rNw 1 [.null, .int 0] (aN) fX1_init) [.ref t] (t + 55, G1) = some (.inl ([.ref t], (t + 327, va_up H2 t (some (n6 (.ref (t + 1)) (.ref (t + 55)) .null .null .null))))) := fr_Nw r1 ((k2 t (by omega)).trans g1t) (by simp)
  generalize hG2 : va_up H2 t (some (n6 (.ref (t + 1)) (.ref (t + 55)) .null .null .null)) = G2 at q2
  have g2t : G2 t = some (n6 (.ref (t + 1)) (.ref (t + 55)) .null .null .null) := by rw [← hG2, va_up_self]
  have g2 : ∀ x, x ≠ t → G2 x = H2 x := fun x hx => by rw [← hG2, va_up_ne _ _ hx]
  -- the text
  have s1 := X2_new (F := va_up G2 (t + 327) (some (xO 2 [.null, .int 0]))) (n := t + 327 + 1) (a := t + 327) (va_up_self _ _ _) (by omega)
  generalize hH3 : va_up (va_up (va_up G2 (t + 327) (some (xO 2 [.null, .int 0]))) (t + 327 + 1) (some (xI 12 (fun _ => 0)))) (t + 327) (some (cNm (t + 327 + 1) 0)) = H3 at s1
  have s2 : H3 (t + 327) = some (cNm (t + 328) 0) := by rw [← hH3, va_up_self]
  have s3 : H3 (t + 328) = some (xI 12 (fun _ => 0)) := by rw [← hH3, va_up_ne _ _ (by omega), va_up_self]
  have k3 : ∀ x, x < t + 327 → H3 x = G2 x := fun x hx => by rw [← hH3, va_up_ne _ _ (by omega), va_up_ne _ _ (by omega), va_up_ne _ _ (by omega)]
  have q3 : sFr 6 2 (rL 0) (rNw 2 [.null, .int 0] (aN) fX2_init) [.ref t] (t + 327, G2) = some (.inl ([.ref t], (t + 329, va_up H3 t (some (n6 (.ref (t + 1)) (.ref (t + 55)) (.ref (t + 327)) .null .null))))) := fr_Nw s1 ((k3 t (by omega)).trans g2t) (by simp)
  generalize hG3 : va_up H3 t (some (n6 (.ref (t + 1)) (.ref (t + 55)) (.ref (t + 327)) .null .null)) = G3 at q3
  have g3t : G3 t = some (n6 (.ref (t + 1)) (.ref (t + 55)) (.ref (t + 327)) .null .null) := by rw [← hG3, va_up_self]
  have g3 : ∀ x, x ≠ t → G3 x = H3 x := fun x hx => by rw [← hG3, va_up_ne _ _ hx]
  -- the scratch shop
  obtain ⟨⟨n4, H4⟩, u1, u2, u3, u4⟩ := X5_new (f := va_up G3 (t + 329) (some (n5 .null .null .null 0 0 0 0))) (lo := t + 329) (va_up_self _ _ _)
  dsimp only at u2 u4
  obtain rfl : n4 = t + 383 := by omega
  have k4 : ∀ x, x < t + 329 → H4 x = G3 x := fun x hx => by rw [u4 x hx, va_up_ne _ _ (by omega)]
  have q4 : sLr 1 (rNw 5 [.null, .null, .null, .int 0, .int 0, .int 0, .int 0, .int 0, .int 0, .int 0, .int 0, .int 0, .int 0] (aN) fX5_init) [.ref t] (t + 329, G3) = some (.inl ([.ref t, .ref (t + 329)], (t + 383, H4))) := by
    simp only [n5] at u1
    simp [sLr, rNw, aN, u1, zSt]
  -- both forecasts
  have v1 := X0_new (F := va_up H4 (t + 383) (some (xO 0 [.null, .null]))) (n := t + 383 + 1) (a := t + 383) (sc := t + 329) (va_up_self _ _ _) (by omega)
  generalize hH5 : va_up (va_up (va_up H4 (t + 383) (some (xO 0 [.null, .null]))) (t + 383 + 1) (some (xI 10 (fun _ => 0)))) (t + 383) (some (cFo (t + 329) (t + 383 + 1))) = H5 at v1
  have v2 : H5 (t + 383) = some (cFo (t + 329) (t + 384)) := by rw [← hH5, va_up_self]
  have v3 : H5 (t + 384) = some (xI 10 (fun _ => 0)) := by rw [← hH5, va_up_ne _ _ (by omega), va_up_self]
  have k5 : ∀ x, x < t + 383 → H5 x = H4 x := fun x hx => by rw [← hH5, va_up_ne _ _ (by omega), va_up_ne _ _ (by omega), va_up_ne _ _ (by omega)]
  have q5 : sFr 6 3 (rL 0) (rNw 0 [.null, .null] (aR (rL 1) (aN)) fX0_init) [.ref t, .ref (t + 329)] (t + 383, H4) = some (.inl ([.ref t, .ref (t + 329)], (t + 385, va_up H5 t (some (n6 (.ref (t + 1)) (.ref (t + 55)) (.ref (t + 327)) (.ref (t + 383)) .null))))) := fr_Nr v1 ((k5 t (by omega)).trans ((k4 t (by omega)).trans g3t)) (by simp)
  generalize hG5 : va_up H5 t (some (n6 (.ref (t + 1)) (.ref (t + 55)) (.ref (t + 327)) (.ref (t + 383)) .null)) = G5 at q5
  have g5t : G5 t = some (n6 (.ref (t + 1)) (.ref (t + 55)) (.ref (t + 327)) (.ref (t + 383)) .null) := by rw [← hG5, va_up_self]
  have g5 : ∀ x, x ≠ t → G5 x = H5 x := fun x hx => by rw [← hG5, va_up_ne _ _ hx]
  have w1 := X0_new (F := va_up G5 (t + 385) (some (xO 0 [.null, .null]))) (n := t + 385 + 1) (a := t + 385) (sc := t + 329) (va_up_self _ _ _) (by omega)
  generalize hH6 : va_up (va_up (va_up G5 (t + 385) (some (xO 0 [.null, .null]))) (t + 385 + 1) (some (xI 10 (fun _ => 0)))) (t + 385) (some (cFo (t + 329) (t + 385 + 1))) = H6 at w1
  have w2 : H6 (t + 385) = some (cFo (t + 329) (t + 386)) := by rw [← hH6, va_up_self]
  have w3 : H6 (t + 386) = some (xI 10 (fun _ => 0)) := by rw [← hH6, va_up_ne _ _ (by omega), va_up_self]
  have k6 : ∀ x, x < t + 385 → H6 x = G5 x := fun x hx => by rw [← hH6, va_up_ne _ _ (by omega), va_up_ne _ _ (by omega), va_up_ne _ _ (by omega)]
  have q6 : sFr 6 4 (rL 0) (rNw 0 [.null, .null] (aR (rL 1) (aN)) fX0_init) [.ref t, .ref (t + 329)] (t + 385, G5) = some (.inl ([.ref t, .ref (t + 329)], (t + 387, va_up H6 t (some (cTr t))))) := fr_Nr w1 ((k6 t (by omega)).trans g5t) (by simp)
  have q : bX6_init [.ref t] (t + 1, f) = some (.inl ([.ref t, .ref (t + 329)], (t + 387, va_up H6 t (some (cTr t))))) := by
    unfold bX6_init
    rw [seq1 ini1, seq1 q1, seq1 q2, seq1 q3, seq1 q4, seq1 q5, q6]
  have c6 : ∀ x, x ≠ t → x < t + 385 → va_up H6 t (some (cTr t)) x = H5 x := fun x e hx => by rw [va_up_ne _ _ e, k6 x hx, g5 x e]
  have c5 : ∀ x, x ≠ t → x < t + 383 → va_up H6 t (some (cTr t)) x = H4 x := fun x e hx => by rw [c6 x e (by omega), k5 x hx]
  have c4 : ∀ x, x ≠ t → x < t + 329 → va_up H6 t (some (cTr t)) x = H3 x := fun x e hx => by rw [c5 x e (by omega), k4 x hx, g3 x e]
  have c3 : ∀ x, x ≠ t → x < t + 327 → va_up H6 t (some (cTr t)) x = H2 x := fun x e hx => by rw [c4 x e (by omega), k3 x hx, g2 x e]
  have c2 : ∀ x, x ≠ t → x < t + 55 → va_up H6 t (some (cTr t)) x = H1 x := fun x e hx => by rw [c3 x e (by omega), k2 x hx, g1 x e]
  refine ⟨(t + 387, va_up H6 t (some (cTr t))), by simp [fX6_init, q], rfl, va_up_self _ _ _, At_keep p3 (fun x a b => c2 x (by omega) (by omega)), ?_, ?_, fun k hk => At_keep (r5 k hk) (fun x a b => c3 x (by omega) (by omega)), ?_, ?_, At_keep u3 (fun x a b => c5 x (by omega) (by omega)), ?_, ?_, ?_, ?_, fun x hx => ?_⟩
  · exact (c3 _ (by omega) (by omega)).trans r3
  · exact (c3 _ (by omega) (by omega)).trans r4
  · exact (c4 _ (by omega) (by omega)).trans s2
  · exact (c4 _ (by omega) (by omega)).trans s3
  · exact (c6 _ (by omega) (by omega)).trans v2
  · exact (c6 _ (by omega) (by omega)).trans v3
  · exact (va_up_ne _ _ (by omega)).trans w2
  · exact (va_up_ne _ _ (by omega)).trans w3
  · exact (c2 x (by omega) (by omega)).trans (k1 x hx)
end ZNV
