/-! the law: the digest is a function of the row -/
def itJ (f : Nat → Int64 → Int64) : Nat → Int64 → Int64
  | 0, x => x
  | n + 1, x => f n (itJ f n x)
def sgJ (g : Nat → Int32) (y : Nat) (x : Int64) : Int64 := 31 * x + (g y).toInt64
def dgP (S : Nat → Int32) (p : Nat) (x : Int64) : Int64 := itJ (sgJ (plV S p)) 7 x
def dgO (S : Nat → Int32) (k : Nat) (x : Int64) : Int64 := 31 * itJ (sgJ (orV S k)) 8 x + (leV S k 0).toInt64 + 97 * (leV S k 1).toInt64
def dgS (S : Nat → Int32) (nP j : Nat) (x : Int64) : Int64 := itJ (sgJ (shV S nP j)) 5 x
/-- the digest of a row -/
def dig (S : Nat → Int32) (nS nP nO c : Nat) : Int64 := itJ (dgS S nP) nS (itJ (dgO S) nO (itJ (dgP S) nP (itJ (sgJ (coV S nP 0 0 c)) 14 13)))
section ZD1
variable {h : zH} {b L' t nS nP nO c nt : Nat} {xs : Nat → Int32} {S TX : Nat → Int32}
theorem coV_nt {y : Nat} (hy : y < 14) : coV S nP 0 nt c y = coV S nP 0 0 c y := by
  rcases (show y = 0 ∨ y = 1 ∨ y = 2 ∨ y = 3 ∨ y = 4 ∨ y = 5 ∨ y = 6 ∨ y = 7 ∨ y = 8 ∨ y = 9 ∨ y = 10 ∨ y = 11 ∨ y = 12 ∨ y = 13 by omega) with e | e | e | e | e | e | e | e | e | e | e | e | e | e <;> subst e <;> simp [coV]
theorem isT6 (r : Rw h b L' xs t S nt TX) : isO h 6 t = true := tpi r.1
set_option maxRecDepth 100000 in
theorem dig_1 (r : Rw h b L' xs t S nt TX) (iv : Iv S nS nP nO) (ir : IvR S nO c) (x : Int64) : sBlk (sSeq (sLi 3 (eC 0)) (sW 4000 (bCmp o_lt (eL 3) (eC 14)) (sSeq (sLj 1 (jOp (· + ·) (jOp (· * ·) (jC 31) (jL 1)) (jI (eCV 6 (rL 0) (aI (eL 3) (aN)) fX6_count)))) (sInc 3 1)))) [.ref t, .long x, .null] h = some (.inl ([.ref t, .long (itJ (sgJ (coV S nP 0 0 c)) 14 x), .null], h)) := by
  have LL := sW_run (c := bCmp o_lt (eL 3) (eC 14)) (f := sSeq (sLj 1 (jOp (· + ·) (jOp (· * ·) (jC 31) (jL 1)) (jI (eCV 6 (rL 0) (aI (eL 3) (aN)) fX6_count)))) (sInc 3 1)) (fun y => ([.ref t, .long (itJ (sgJ (coV S nP 0 0 c)) y x), .null, .int (nI y)], h)) 14 14 4000 0 (by omega) (by omega) (by omega)
    (fun y g1 g2 => by simp [bCmp, eL, eC, show (14 : Int32) = nI 14 from rfl, o_lt_nI (a := y) (b := 14) (by omega) (by omega)])
    (fun y g1 g2 => by
      have q := rd_count (y := y) r iv ir (by omega) (by omega)
      rw [coV_nt g2] at q
      simp [sSeq, sLj, jOp, jC, jL, jI, eCV, rL, aI, eL, aN, isT6 r, q, zStJ, sInc, zSt, nI_1, zCut, itJ, sgJ])
  simp only [nI_0] at LL
  rw [show itJ (sgJ (coV S nP 0 0 c)) 0 x = x from rfl] at LL
  simp [sBlk, sSeq, sLi, eC, zSt, LL, zCut]
set_option maxRecDepth 100000 in
/-- a loop over the columns of one thing -/
theorem dig_in {fn : zFI} {g : Nat → Int32} {m p : Nat} {x : Int64} {M : Int32} (hM : M = nI m) (hm : m < 100) (ii : isO h 6 t = true) (q : ∀ y, y < m → fn [.ref t, .int (nI p), .int (nI y)] h = some (g y, h)) : sBlk (sSeq (sLi 4 (eC 0)) (sW 4000 (bCmp o_lt (eL 4) (eC M)) (sSeq (sLj 1 (jOp (· + ·) (jOp (· * ·) (jC 31) (jL 1)) (jI (eCV 6 (rL 0) (aI (eL 3) (aI (eL 4) (aN))) fn)))) (sInc 4 1)))) [.ref t, .long x, .null, .int (nI p)] h = some (.inl ([.ref t, .long (itJ (sgJ g) m x), .null, .int (nI p)], h)) := by
  subst hM
  have LL := sW_run (c := bCmp o_lt (eL 4) (eC (nI m))) (f := sSeq (sLj 1 (jOp (· + ·) (jOp (· * ·) (jC 31) (jL 1)) (jI (eCV 6 (rL 0) (aI (eL 3) (aI (eL 4) (aN))) fn)))) (sInc 4 1)) (fun y => ([.ref t, .long (itJ (sgJ g) y x), .null, .int (nI p), .int (nI y)], h)) m m 4000 0 (by omega) (by omega) (by omega)
    (fun y g1 g2 => by simp [bCmp, eL, eC, o_lt_nI (a := y) (b := m) (by omega) (by omega)])
    (fun y g1 g2 => by
      have q' := q y g2
      simp [sSeq, sLj, jOp, jC, jL, jI, eCV, rL, aI, eL, aN, ii, q', zStJ, sInc, zSt, nI_1, zCut, itJ, sgJ])
  simp only [nI_0] at LL
  rw [show itJ (sgJ g) 0 x = x from rfl] at LL
  simp [sBlk, sSeq, sLi, eC, zSt, LL, zCut]
set_option maxRecDepth 100000 in
/-- a loop over all things of a kind -/
theorem dig_out {B : zSS} {F : Nat → Int64 → Int64} {K N : Nat} {x : Int64} {KK : Int32} (hN : N < 100) (q : eCV 6 (rL 0) (aI (eC KK) (aN)) fX6_count [.ref t] h = some (nI N, h)) (q2 : ∀ en, eCV 6 (rL 0) (aI (eC KK) (aN)) fX6_count (.ref t :: en) h = some (nI N, h)) (qB : ∀ p, p < N → ∀ x, B [.ref t, .long x, .null, .int (nI p)] h = some (.inl ([.ref t, .long (F p x), .null, .int (nI p)], h))) : sBlk (sSeq (sLi 3 (eC 0)) (sW 4000 (bCmp o_lt (eL 3) (eCV 6 (rL 0) (aI (eC KK) (aN)) fX6_count)) (sSeq B (sInc 3 1)))) [.ref t, .long x, .null] h = some (.inl ([.ref t, .long (itJ F N x), .null], h)) := by
  have LL := sW_run (c := bCmp o_lt (eL 3) (eCV 6 (rL 0) (aI (eC KK) (aN)) fX6_count)) (f := sSeq B (sInc 3 1)) (fun y => ([.ref t, .long (itJ F y x), .null, .int (nI y)], h)) N N 4000 0 (by omega) (by omega) (by omega)
    (fun y g1 g2 => by
      simp only [bCmp, eL, List.getElem?_cons_zero, List.getElem?_cons_succ, Option.bind_some, q2, o_lt_nI (a := y) (b := N) (by omega) (by omega)])
    (fun y g1 g2 => by
      have q' := qB y g2 (itJ F y x)
      simp [sSeq, q', sInc, eL, zSt, nI_1, zCut, itJ])
  simp only [nI_0] at LL
  rw [show itJ F 0 x = x from rfl] at LL
  simp [sBlk, sSeq, sLi, eC, zSt, LL, zCut]
theorem ct_any (r : Rw h b L' xs t S nt TX) {K : Int32} {v : Int32} (q : fX6_count [.ref t, .int K] h = some (v, h)) (en : List Value) : eCV 6 (rL 0) (aI (eC K) (aN)) fX6_count (.ref t :: en) h = some (v, h) := by
  simp [eCV, rL, aI, eC, aN, isT6 r, q]
theorem c_4 (r : Rw h b L' xs t S nt TX) (iv : Iv S nS nP nO) (ir : IvR S nO c) : fX6_count [.ref t, .int 4] h = some (nI nP, h) := by
  have e := rd_count (y := 4) r iv ir (by omega) (by omega)
  rw [show nI 4 = 4 from rfl, show coV S nP 0 nt c 4 = S 1 from rfl, iv.1.2.1] at e
  exact e
theorem c_5 (r : Rw h b L' xs t S nt TX) (iv : Iv S nS nP nO) (ir : IvR S nO c) : fX6_count [.ref t, .int 5] h = some (nI nS, h) := by
  have e := rd_count (y := 5) r iv ir (by omega) (by omega)
  rw [show nI 5 = 5 from rfl, show coV S nP 0 nt c 5 = S 0 from rfl, iv.1.1] at e
  exact e
theorem c_6 (r : Rw h b L' xs t S nt TX) (iv : Iv S nS nP nO) (ir : IvR S nO c) : fX6_count [.ref t, .int 6] h = some (nI nO, h) := by
  have e := rd_count (y := 6) r iv ir (by omega) (by omega)
  rw [show nI 6 = 6 from rfl, show coV S nP 0 nt c 6 = S 2 from rfl, iv.1.2.2.1] at e
  exact e
set_option maxRecDepth 100000 in
theorem L_digest (r : Rw h b L' xs t S nt TX) (iv : Iv S nS nP nO) (ir : IvR S nO c) : fL_digest [.ref t] h = some (dig S nS nP nO c, h) := by
  obtain ⟨c0, c1, c2, c3, c4, c5⟩ := iv.1
  have q4 := ct_any r (c_4 r iv ir)
  have q5 := ct_any r (c_5 r iv ir)
  have q6 := ct_any r (c_6 r iv ir)
  have ii := isT6 r
  have d1 := dig_1 r iv ir 13
  have d2 := dig_out (B := sBlk (sSeq (sLi 4 (eC 0)) (sW 4000 (bCmp o_lt (eL 4) (eC 7)) (sSeq (sLj 1 (jOp (· + ·) (jOp (· * ·) (jC 31) (jL 1)) (jI (eCV 6 (rL 0) (aI (eL 3) (aI (eL 4) (aN))) fX6_plate)))) (sInc 4 1))))) (F := dgP S) (K := 4) (x := itJ (sgJ (coV S nP 0 0 c)) 14 13) (by omega) (q4 []) q4 (fun p hp0 x => dig_in (m := 7) rfl (by omega) ii (fun y hy => rd_plate r iv hp0 hy))
  have d3 := dig_out (B := sSeq (sBlk (sSeq (sLi 4 (eC 0)) (sW 4000 (bCmp o_lt (eL 4) (eC 8)) (sSeq (sLj 1 (jOp (· + ·) (jOp (· * ·) (jC 31) (jL 1)) (jI (eCV 6 (rL 0) (aI (eL 3) (aI (eL 4) (aN))) fX6_orderOf)))) (sInc 4 1))))) (sLj 1 (jOp (· + ·) (jOp (· + ·) (jOp (· * ·) (jC 31) (jL 1)) (jI (eCV 6 (rL 0) (aI (eL 3) (aI (eC 0) (aN))) fX6_letter))) (jOp (· * ·) (jC 97) (jI (eCV 6 (rL 0) (aI (eL 3) (aI (eC 1) (aN))) fX6_letter)))))) (F := dgO S) (K := 6) (x := itJ (dgP S) nP (itJ (sgJ (coV S nP 0 0 c)) 14 13)) (by omega) (q6 []) q6 (fun k hk x => by
    have a := dig_in (x := x) (m := 8) (M := 8) rfl (by omega) ii (fun y hy => rd_orderOf r iv hk hy)
    have l0 := rd_letter (x := 0) r iv hk (by omega)
    have l1 := rd_letter (x := 1) r iv hk (by omega)
    rw [nI_0] at l0
    rw [show nI 1 = 1 from rfl] at l1
    simp only [sSeq, a, Option.bind_some]
    simp [sLj, jOp, jC, jL, jI, eCV, rL, aI, eL, eC, aN, ii, l0, l1, zStJ, dgO])
  have d4 := dig_out (B := sBlk (sSeq (sLi 4 (eC 0)) (sW 4000 (bCmp o_lt (eL 4) (eC 5)) (sSeq (sLj 1 (jOp (· + ·) (jOp (· * ·) (jC 31) (jL 1)) (jI (eCV 6 (rL 0) (aI (eL 3) (aI (eL 4) (aN))) fX6_shield)))) (sInc 4 1))))) (F := dgS S nP) (K := 5) (x := itJ (dgO S) nO (itJ (dgP S) nP (itJ (sgJ (coV S nP 0 0 c)) 14 13))) (by omega) (q5 []) q5 (fun p hp0 x => dig_in (m := 5) rfl (by omega) ii (fun y hy => rd_shield r iv hp0 hy))
  have s0 : sLj 1 (jC 13) [.ref t] h = some (.inl ([.ref t, .long 13, .null], h)) := by simp [sLj, jC, zStJ]
  simp only [fL_digest, mJ, bL_digest]
  rw [sSeq, s0, Option.bind_some]
  dsimp only
  rw [sSeq, d1, Option.bind_some]
  dsimp only
  rw [sSeq, d2, Option.bind_some]
  dsimp only
  rw [sSeq, d3, Option.bind_some]
  dsimp only
  rw [d4, Option.bind_some]
  simp [jL_digest, jL, dig]
end ZD1
