/-! the loop of the law -/
abbrev enT (b t : Nat) (v : Int32) (i : Nat) (w : Int32) (d : Int64) (s7 n s8 r : Int32) : List Value := [.ref b, .ref t, .int v, .int (nI i), .int w, .long d, .null, .int s7, .int n, .int s8, .int r]
section ZL3
variable {h : zH} {b L t nP nO c nt i nP' nO' c' nt' : Nat} {xs : Nat → Int32} {S S' TX : Nat → Int32} {v w rr : Int32} {d : Int64} {s7 n s8 : Int32}
theorem dg_same (r : Rw h b L xs t S nt TX) (j : J S nP nO c) {en : List Value} {k : Nat} (h1 : en[1]? = some (.ref t)) (h5 : en[k]? = some (.long (dig S 2 nP nO c))) : bZ z_ne (jCmp (jCS (aR (rL 1) (aN)) fL_digest) (jL k)) en h = some (false, h) := by
  have q := L_digest r j.1 j.2.1
  have z : z_ne 0 = false := rfl
  simp [bZ, jCmp, jCS, aR, rL, h1, aN, q, jL, h5, lg_self, z]
theorem if_no {c : zEB} {f : zSS} {en : List Value} {h h1 : zH} (e : c en h = some (false, h1)) : sIf c f sNop en h = some (.inl (en, h1)) := by
  simp [sIf, e, sNop, zCut]
theorem if_yes {c : zEB} {f : zSS} {en : List Value} {h h1 h2 : zH} (e : c en h = some (true, h1)) (e2 : f en h1 = some (.inl (en, h2))) : sIf c f sNop en h = some (.inl (en, h2)) := by
  simp [sIf, e, e2, zCut]
theorem a_9 (r : Rw h b L xs t S nt TX) (j : J S nP nO c) : xx9 (enT b t v i w d s7 n s8 rr) h = some (.inl (enT b t v i w d s7 n s8 rr, h)) := by
  have q := L_isRight r j.1 j.2.1 j.2.2.1
  obtain ⟨x, hx⟩ : ∃ x, eOp (· &&& ·) (eL 3) (eC 1) (enT b t v i w d s7 n s8 rr) h = some (x, h) := ⟨nI i &&& 1, by simp [eOp, eL, eC]⟩
  have z : z_ne 1 = true := rfl
  refine if_no ?_
  cases hz : z_eq x <;> simp [bAnd, bZ, hx, hz, bNot, eCS, aR, rL, aN, q, z]
theorem a_7n (r : Rw h b L xs t S nt TX) (j : J S nP nO c) (hr : rr < 0) : xx7 (enT b t v i w (dig S 2 nP nO c) (S 7) (nI nO) (S 8) rr) h = some (.inl (enT b t v i w (dig S 2 nP nO c) (S 7) (nI nO) (S 8) rr, h)) := by
  have q := done_no (v := w) r j hr
  have dq := dg_same (k := 5) (en := enT b t v i w (dig S 2 nP nO c) (S 7) (nI nO) (S 8) rr) r j rfl rfl
  have z : z_ne 1 = true := rfl
  have zl : z_lt rr = true := decide_eq_true hr
  refine if_no ?_
  have e1 : bZ z_ne (eCS (aR (rL 1) (aI (eL 4) (aI (eL 10) (aI (eL 7) (aI (eL 8) (aI (eL 9) (aN))))))) fL_isDone) (enT b t v i w (dig S 2 nP nO c) (S 7) (nI nO) (S 8) rr) h = some (true, h) := by
    simp [bZ, eCS, aR, rL, aI, eL, aN, q, z]
  have e2 : bZ z_lt (eL 10) (enT b t v i w (dig S 2 nP nO c) (S 7) (nI nO) (S 8) rr) h = some (true, h) := by simp [bZ, eL, zl]
  simp only [bOr, bNot, bAnd, e1, e2, dq, Option.map_some, Option.bind_some]
  rfl
theorem a_7y (r : Rw h b L xs t S' nt TX) (j : J S' nP' nO' c') (hr : 0 ≤ rr) (dn : Dn w rr S S' nO nO' c' nt) : xx7 (enT b t v i w d (S 7) (nI nO) (S 8) rr) h = some (.inl (enT b t v i w d (S 7) (nI nO) (S 8) rr, h)) := by
  have q := done_yes r j hr dn
  have z : z_ne 1 = true := rfl
  have zl : z_lt rr = false := decide_eq_false (by rw [i_lt]; have := i_le.mp hr; omega)
  refine if_no ?_
  have e1 : bZ z_ne (eCS (aR (rL 1) (aI (eL 4) (aI (eL 10) (aI (eL 7) (aI (eL 8) (aI (eL 9) (aN))))))) fL_isDone) (enT b t v i w d (S 7) (nI nO) (S 8) rr) h = some (true, h) := by
    simp [bZ, eCS, aR, rL, aI, eL, aN, q, z]
  have e2 : bZ z_lt (eL 10) (enT b t v i w d (S 7) (nI nO) (S 8) rr) h = some (false, h) := by simp [bZ, eL, zl]
  simp only [bOr, bNot, bAnd, e1, e2, Option.map_some, Option.bind_some]
  rfl
theorem a_8n (hr : rr < 0) : xx8 (enT b t v i w d s7 n s8 rr) h = some (.inl (enT b t v i w d s7 n s8 rr, h)) := by
  have zg : z_ge rr = false := decide_eq_false (by intro e; have := i_lt.mp hr; have := i_le.mp e; omega)
  refine if_no ?_
  simp [bAnd, bZ, eL, zg]
/-- an act, taken back and done again -/
theorem a_8y {TX' : Nat → Int32} (r : Ru h b L xs t S' nt' TX' S) (j : J S nP nO c) (hr : 0 ≤ rr)
    (ha : ∀ (h : zH) (b L : Nat) (xs : Nat → Int32) (t : Nat), Rw h b L xs t S 0 (fun _ => 0) → ∃ h1, fL_act [.ref t, .int w] h = some (rr, h1) ∧ ∃ TX, Ru h1 b L xs t S' nt' TX S) :
    ∃ h1 TX1, xx8 (enT b t v i w (dig S 2 nP nO c) s7 n s8 rr) h = some (.inl (enT b t v i w (dig S 2 nP nO c) s7 n s8 rr, h1)) ∧ Rw h1 b L xs t S' nt' TX1 := by
  have zg : z_ge rr = true := decide_eq_true hr
  obtain ⟨x, hx⟩ : ∃ x, eOp (· &&& ·) (eL 3) (eC 3) (enT b t v i w (dig S 2 nP nO c) s7 n s8 rr) h = some (x, h) := ⟨nI i &&& 3, by simp [eOp, eL, eC]⟩
  cases hx1 : o_eq x 1 with
  | false =>
    refine ⟨h, _, if_no ?_, r.w⟩
    simp [bAnd, bZ, eL, zg, bCmp, hx, eC, hx1]
  | true =>
    obtain ⟨uv, h1, e1, r1⟩ := do_undo r
    obtain ⟨h2, e2, r2⟩ := do_clearText r1
    obtain ⟨h3, e3, TX3, r3⟩ := ha h2 b L xs t r2
    refine ⟨h3, _, if_yes (h1 := h) ?_ ?_, r3.w⟩
    · simp [bAnd, bZ, eL, zg, bCmp, hx, eC, hx1]
    · have s1 : sPop (eCV 6 (rL 1) (aN) fX6_undo) (enT b t v i w (dig S 2 nP nO c) s7 n s8 rr) h = some (.inl (enT b t v i w (dig S 2 nP nO c) s7 n s8 rr, h1)) := by
        simp [sPop, eCV, rL, aN, r.w.top, e1]
      have s2 := if_no (f := sRi (eC 0)) (dg_same (k := 5) (en := enT b t v i w (dig S 2 nP nO c) s7 n s8 rr) r1 j rfl rfl)
      have s3 : sPop (eCV 6 (rL 1) (aN) fX6_clearText) (enT b t v i w (dig S 2 nP nO c) s7 n s8 rr) h1 = some (.inl (enT b t v i w (dig S 2 nP nO c) s7 n s8 rr, h2)) := by
        simp [sPop, eCV, rL, aN, r1.top, e2]
      have s4 : sIf (bCmp o_ne (eCS (aR (rL 1) (aI (eL 4) (aN))) fL_act) (eL 10)) (sRi (eC 0)) sNop (enT b t v i w (dig S 2 nP nO c) s7 n s8 rr) h2 = some (.inl (enT b t v i w (dig S 2 nP nO c) s7 n s8 rr, h3)) := by
        refine if_no ?_
        simp [bCmp, eCS, aR, rL, aI, eL, aN, e3, o_ne_self]
      rw [seq1 s1, seq1 s2, seq1 s3, s4]
end ZL3
