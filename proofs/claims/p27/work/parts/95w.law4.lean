/-! a turn of the loop, the loop -/
section ZL4
variable {h : zH} {b L t nP nO c nt i : Nat} {xs : Nat → Int32} {S TX : Nat → Int32} {v : Int32}
set_option maxRecDepth 100000 in
theorem turn_pre (r : Rw h b L xs t S nt TX) (j : J S nP nO c) (hL : L ≤ 260) (hi : i < 100) : ∃ h1, Rw h1 b L xs t S 0 (fun _ => 0) ∧ ∀ (g : zSS), sSeq xx0 (sSeq xx1 (sSeq xx2 (sSeq xx3 (sSeq xx4 (sSeq xx5 g))))) [.ref b, .ref t, .int v, .int (nI i)] h = g [.ref b, .ref t, .int v, .int (nI i), .int (cellN L xs i), .long (dig S 2 nP nO c), .null, .int (S 7), .int (nI nO), .int (S 8)] h1 := by
  have q0 := L_cell (k := i) (xs := xs) r.1.1 hL hi
  have q1 := L_digest r j.1 j.2.1
  have q2 := c_11 r j.1 j.2.1
  have q3 := c_6 r j.1 j.2.1
  have q4 := c_12 r j.1 j.2.1
  obtain ⟨h1, q5, r5⟩ := do_clearText r
  have ii := r.top
  refine ⟨h1, r5, fun g => ?_⟩
  have s0 : xx0 [.ref b, .ref t, .int v, .int (nI i)] h = some (.inl ([.ref b, .ref t, .int v, .int (nI i), .int (cellN L xs i)], h)) := by
    simp [xx0, sLi, eCS, aR, rL, aI, eL, aN, q0, zSt]
  have s1 : xx1 [.ref b, .ref t, .int v, .int (nI i), .int (cellN L xs i)] h = some (.inl ([.ref b, .ref t, .int v, .int (nI i), .int (cellN L xs i), .long (dig S 2 nP nO c), .null], h)) := by
    simp [xx1, sLj, jCS, aR, rL, aN, q1, zStJ]
  have s2 : xx2 [.ref b, .ref t, .int v, .int (nI i), .int (cellN L xs i), .long (dig S 2 nP nO c), .null] h = some (.inl ([.ref b, .ref t, .int v, .int (nI i), .int (cellN L xs i), .long (dig S 2 nP nO c), .null, .int (S 7)], h)) := by
    simp [xx2, sLi, eCV, rL, aI, eC, aN, ii, q2, zSt]
  have s3 : xx3 [.ref b, .ref t, .int v, .int (nI i), .int (cellN L xs i), .long (dig S 2 nP nO c), .null, .int (S 7)] h = some (.inl ([.ref b, .ref t, .int v, .int (nI i), .int (cellN L xs i), .long (dig S 2 nP nO c), .null, .int (S 7), .int (nI nO)], h)) := by
    simp [xx3, sLi, eCV, rL, aI, eC, aN, ii, q3, zSt]
  have s4 : xx4 [.ref b, .ref t, .int v, .int (nI i), .int (cellN L xs i), .long (dig S 2 nP nO c), .null, .int (S 7), .int (nI nO)] h = some (.inl ([.ref b, .ref t, .int v, .int (nI i), .int (cellN L xs i), .long (dig S 2 nP nO c), .null, .int (S 7), .int (nI nO), .int (S 8)], h)) := by
    simp [xx4, sLi, eCV, rL, aI, eC, aN, ii, q4, zSt]
  have s5 : xx5 [.ref b, .ref t, .int v, .int (nI i), .int (cellN L xs i), .long (dig S 2 nP nO c), .null, .int (S 7), .int (nI nO), .int (S 8)] h = some (.inl ([.ref b, .ref t, .int v, .int (nI i), .int (cellN L xs i), .long (dig S 2 nP nO c), .null, .int (S 7), .int (nI nO), .int (S 8)], h1)) := by
    simp [xx5, sPop, eCV, rL, aN, ii, q5]
  rw [seq1 s0, seq1 s1, seq1 s2, seq1 s3, seq1 s4, seq1 s5]
theorem yEb_cut {h h1 : zH} {en0 en : List Value} (hn : en0 = [.ref b, .ref t, .int v, .int (nI i)]) {g1 : zSS} (e : g1 en0 h = some (.inl (en, h1))) (h4 : en.take 4 = en0) : (sSeq g1 (sInc 3 1) en0 h).map (zCut en0) = some (.inl ([.ref b, .ref t, .int v, .int (nI (i + 1))], h1)) := by
  rw [seq1 e]
  match en, h4 with
  | a1 :: a2 :: a3 :: a4 :: tl, h4 =>
    subst hn
    simp only [List.take_succ_cons, List.take_zero, List.cons.injEq, and_true] at h4
    obtain ⟨rfl, rfl, rfl, rfl⟩ := h4
    simp [sInc, eL, zSt, nI_1, zCut]
  | [], h4 => subst hn; simp at h4
  | [_], h4 => subst hn; simp at h4
  | [_, _], h4 => subst hn; simp at h4
  | [_, _, _], h4 => subst hn; simp at h4
set_option maxRecDepth 100000 in
theorem law_turn (r : Rw h b L xs t S nt TX) (j : J S nP nO c) (hL : L ≤ 260) (hi : i < 100) : ∃ h1, (yEb [.ref b, .ref t, .int v, .int (nI i)] h).map (zCut [.ref b, .ref t, .int v, .int (nI i)]) = some (.inl ([.ref b, .ref t, .int v, .int (nI (i + 1))], h1)) ∧ ∃ S' nP' nO' c' nt' TX', J S' nP' nO' c' ∧ Rw h1 b L xs t S' nt' TX' := by
  obtain ⟨h1, r1, pre⟩ := turn_pre (v := v) r j hL hi
  obtain ⟨rr, o, ac, ha⟩ := act_ok (cellN L xs i) j
  obtain ⟨h2, e2, hp2⟩ := ha h1 b L xs t r1
  have s6 : xx6 [.ref b, .ref t, .int v, .int (nI i), .int (cellN L xs i), .long (dig S 2 nP nO c), .null, .int (S 7), .int (nI nO), .int (S 8)] h1 = some (.inl (enT b t v i (cellN L xs i) (dig S 2 nP nO c) (S 7) (nI nO) (S 8) rr, h2)) := by
    simp [xx6, sLi, eCS, aR, rL, aI, eL, aN, e2, zSt]
  match o, ac, ha, hp2 with
  | none, ac, ha, hp2 =>
    obtain ⟨nt2, TX2, r2⟩ := hp2
    refine ⟨h2, ?_, S, nP, nO, c, nt2, TX2, j, r2⟩
    refine yEb_cut rfl (en := enT b t v i (cellN L xs i) (dig S 2 nP nO c) (S 7) (nI nO) (S 8) rr) ?_ rfl
    rw [pre, seq1 s6, seq1 (a_7n r2 j ac), seq1 (a_8n ac), a_9 r2 j]
  | some (S', nP', nO', c', nt'), ac, ha, hp2 =>
    obtain ⟨hr, j', dn⟩ := ac
    obtain ⟨TX2, r2⟩ := hp2
    obtain ⟨h3, TX3, e3, r3⟩ := a_8y (b := b) (v := v) (i := i) (s7 := S 7) (n := nI nO) (s8 := S 8) r2 j hr ha
    refine ⟨h3, ?_, S', nP', nO', c', nt', TX3, j', r3⟩
    refine yEb_cut rfl (en := enT b t v i (cellN L xs i) (dig S 2 nP nO c) (S 7) (nI nO) (S 8) rr) ?_ rfl
    rw [pre, seq1 s6, seq1 (a_7y r2.w j' hr dn), seq1 e3, a_9 r3 j']
set_option maxRecDepth 100000 in
theorem a_yE (r : Rw h b L xs t S nt TX) (j : J S nP nO c) (hL : L ≤ 260) : ∃ h1, yE [.ref b, .ref t, .int v] h = some (.inl ([.ref b, .ref t, .int v], h1)) ∧ ∃ S' nP' nO' c' nt' TX', J S' nP' nO' c' ∧ Rw h1 b L xs t S' nt' TX' := by
  obtain ⟨en', h', e1, e2, z⟩ := sW_inv (c := bCmp o_lt (eL 3) (eC 18)) (f := yEb) (fun k en h => en = [.ref b, .ref t, .int v, .int (nI (k + 1))] ∧ ∃ S nP nO c nt TX, J S nP nO c ∧ Rw h b L xs t S nt TX) 17 17 4000 0 [.ref b, .ref t, .int v, .int (nI (0 + 1))] h (by omega) (by omega) (by omega) ⟨rfl, S, nP, nO, c, nt, TX, j, r⟩
    (fun k en h hk ⟨i1, i2⟩ => by
      subst i1
      simp [bCmp, eL, eC, show (18 : Int32) = nI 18 from rfl, o_lt_nI (a := k + 1) (b := 18) (by omega) (by omega)]
      omega)
    (fun k en h hk ⟨i1, S, nP, nO, c, nt, TX, j, r⟩ => by
      subst i1
      obtain ⟨h1, a, z⟩ := law_turn (v := v) (i := k + 1) r j hL (by omega)
      exact ⟨_, h1, a, rfl, z⟩)
  refine ⟨h', ?_, z⟩
  subst e2
  rw [show (nI (0 + 1) : Int32) = 1 from rfl] at e1
  simp [yE, sBlk, sSeq, sLi, eC, zSt, e1, zCut]
end ZL4
