/-! the sums of moved -/
def badM (A B : Nat → Int32) (k : Nat) : Bool := decide (A k = -9) || decide (B k = -9)
def addM (A B : Nat → Int32) (k j : Nat) : Int32 := if j = k then 0 else B j - A j
section ZCG
variable {h : zH} {b L' t nS nP nO c nh nt k : Nat} {xs : Nat → Int32} {s pf N g SV TX AS A B : Nat → Int32} {P O L R T : Nat → Nat → Int32} {pi : Nat → Nat}
theorem o_eqI {a b : Nat} (ha : a < 2 ^ 31) (hb : b < 2 ^ 31) : o_eq (nI a) (nI b) = decide (a = b) ∧ o_ne (nI a) (nI b) = !decide (a = b) := by
  constructor
  · simp only [o_eq, nI_eqI ha hb]
  · simp only [o_ne, ne_eq, nI_eqI ha hb, decide_not]
theorem any_first {F : Nat → Bool} : ∀ n, anyM F n = fstB (firstO F n)
  | 0 => rfl
  | n + 1 => by
    simp only [anyM, firstO, any_first n]
    cases firstO F n with
    | some x => simp [fstB]
    | none => cases hf : F n <;> simp [fstB]
set_option maxRecDepth 100000 in
/-- the reference's sum -/
theorem mv_ref {hm : zH} (h2 : R 1 2 = nI nO) (hO : nO ≤ 10) (hk : k < nO) (hA : ∀ j, j < 10 → T 5 j = A j) (hB : ∀ j, j < 10 → T 6 j = B j) (pl : Int32) :
    sW 4000 (bCmp o_lt (eL 5) (eA (rF 7 1 (rL 0)) (eC 2))) (sSeq (sSeq (sLi 4 (eB (bAnd (bAnd (bZ z_ne (eL 4)) (bCmp o_ne (eA (rF 7 10 (rL 0)) (eL 5)) (eC (-9)))) (bCmp o_ne (eA (rF 7 11 (rL 0)) (eL 5)) (eC (-9)))))) (sLi 3 (eOp (· + ·) (eL 3) (eT (bCmp o_eq (eL 5) (eL 1)) (eC 0) (eOp (· - ·) (eA (rF 7 11 (rL 0)) (eL 5)) (eA (rF 7 10 (rL 0)) (eL 5))))))) (sInc 5 1)) [.ref (t + 387), .int (nI k), .int pl, .int 0, .int 1, .int 0] (hM hm (t + 387) g R SV TX T AS) =
      some (.inl ([.ref (t + 387), .int (nI k), .int pl, .int (sumM (addM A B k) nO), .int (bI (!anyM (badM A B) nO)), .int (nI nO)], hM hm (t + 387) g R SV TX T AS)) := by
  have LL := sW_run (c := bCmp o_lt (eL 5) (eA (rF 7 1 (rL 0)) (eC 2))) (f := sSeq (sSeq (sLi 4 (eB (bAnd (bAnd (bZ z_ne (eL 4)) (bCmp o_ne (eA (rF 7 10 (rL 0)) (eL 5)) (eC (-9)))) (bCmp o_ne (eA (rF 7 11 (rL 0)) (eL 5)) (eC (-9)))))) (sLi 3 (eOp (· + ·) (eL 3) (eT (bCmp o_eq (eL 5) (eL 1)) (eC 0) (eOp (· - ·) (eA (rF 7 11 (rL 0)) (eL 5)) (eA (rF 7 10 (rL 0)) (eL 5))))))) (sInc 5 1)) (fun y => ([.ref (t + 387), .int (nI k), .int pl, .int (sumM (addM A B k) y), .int (bI (!anyM (badM A B) y)), .int (nI y)], hM hm (t + 387) g R SV TX T AS)) nO nO 4000 0 (by omega) (by omega) (by omega)
    (fun y g1 g2 => by
      have a2 := hd2 (h := hM hm (t + 387) g R SV TX T AS) (hM_r (i := 1) (.inl rfl))
      rw [h2] at a2
      simp [bCmp, eL, eA, rF, rL, rMr1, eC, a2, o_lt_nI (a := y) (b := nO) (by omega) (by omega)])
    (fun y g1 g2 => by
      have ra := rdA_of (hM_t (h := hm) (m := t + 387) (g := g) (R := R) (SV := SV) (TX := TX) (T := T) (AS := AS) (i := 5) (.inl rfl)) (show y < 10 by omega) (by omega)
      have rb := rdA_of (hM_t (h := hm) (m := t + 387) (g := g) (R := R) (SV := SV) (TX := TX) (T := T) (AS := AS) (i := 6) (.inr rfl)) (show y < 10 by omega) (by omega)
      rw [hA y (by omega)] at ra
      rw [hB y (by omega)] at rb
      have q := (o_eqI (show y < 2 ^ 31 by omega) (show k < 2 ^ 31 by omega)).1
      by_cases e3 : y = k
      · have q' : o_eq (nI y) (nI k) = true := by rw [q]; exact decide_eq_true e3
        have ad : addM A B k y = 0 := by simp only [addM]; rw [if_pos e3]
        by_cases e1 : A y = -9 <;> by_cases e2 : B y = -9 <;> cases e4 : anyM (badM A B) y <;>
          simp [sSeq, sLi, eB_bI, bAnd, bZ, eL, z_ne_bI, bCmp, eA, rF, rL, rMr10, rMr11, ra, rb, eC, o_ne, zSt, eOp, eT, q', sInc, nI_1, zCut, sumM, ad, anyM, badM, e1, e2, e4]
      · have q' : o_eq (nI y) (nI k) = false := by rw [q]; exact decide_eq_false e3
        have ad : addM A B k y = B y - A y := by simp only [addM]; rw [if_neg e3]
        by_cases e1 : A y = -9 <;> by_cases e2 : B y = -9 <;> cases e4 : anyM (badM A B) y <;>
          simp [sSeq, sLi, eB_bI, bAnd, bZ, eL, z_ne_bI, bCmp, eA, rF, rL, rMr10, rMr11, ra, rb, eC, o_ne, zSt, eOp, eT, q', sInc, nI_1, zCut, sumM, ad, anyM, badM, e1, e2, e4])
  simpa [nI_0, sumM, anyM, show bI true = 1 from rfl] using LL
end ZCG
