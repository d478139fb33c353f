/-! the commands that read: plate, count -/
theorem sSw_at {n k : Nat} {f : zEI} {bs : List zSS} {df : zSS} {en : List Value} {h h1 : zH} (hf : f en h = some (nI k, h1)) (hk : k ≤ n) (hn : n < 1000) : sSw 0 (n : Int) f bs df en h = ((bs.getD k df) en h1).map (zCut en) := by
  simp only [sSw, hf, Option.bind_some, nI_toInt (show k < 2 ^ 31 by omega)]
  rw [if_neg (by omega)]
  simp
theorem sSw_out {n : Nat} {v : Int32} {f : zEI} {bs : List zSS} {df : zSS} {en : List Value} {h h1 : zH} (hf : f en h = some (v, h1)) (hv : (decide (0 ≤ v) && decide (v ≤ nI n)) = false) (hn : n < 1000) : sSw 0 (n : Int) f bs df en h = (df en h1).map (zCut en) := by
  simp only [sSw, hf, Option.bind_some]
  rw [if_pos ?_]
  simp only [Bool.and_eq_false_iff, decide_eq_false_iff_not, i_le, nI_toInt (show n < 2 ^ 31 by omega), show (0 : Int32).toInt = 0 from rfl] at hv
  omega
theorem in_nI {v : Int32} {n : Nat} (hn : n < 99) (h : (decide (0 ≤ v) && decide (v ≤ nI n)) = true) : ∃ k, k ≤ n ∧ v = nI k := by
  have : hasB v (nI (n + 1)) = true := by
    rw [hasB_in _ (by omega), nI_sub1 (by omega)]
    exact h
  obtain ⟨k, hk, e⟩ := hasB_nI' (by omega) this
  exact ⟨k, by omega, e⟩
section ZC9
variable {h : zH} {b L' t nS nP nO c nh nt : Nat} {xs : Nat → Int32} {s pf N g SV TX AS : Nat → Int32} {P O L R T : Nat → Nat → Int32} {pi : Nat → Nat}
set_option maxRecDepth 100000 in
set_option maxHeartbeats 2000000 in
theorem cmd_plate (v f : Int32) : Cmd fX6_plate fX7_plate [.int v, .int f] := by
  intro h b L' xs t rl
  obtain ⟨g, R, SV, TX, T, AS, nh, nt, top, ⟨s, P, pf, pi, O, N, L, nS, nP, nO, c, at1, vw, iv, ir⟩, his, txt, fcs, md, g4, g6⟩ := rl
  have c4 := iv.1.2.2.2.2.1
  obtain ⟨q, q1, q2, q3⟩ := pl_both (R := R) at1 vw iv v
  cases q with
  | false =>
    refine close0 (v := -1) (g' := upd g 0 0) top at1 vw iv ir his txt fcs md g4 g6 ?_ (fun hm => ?_) (by simp [upd]) (by simp [upd])
    · simp [fX6_plate, bX6_plate, mI, sSeq, sIf, bNot, bZ, eCV, rF, rL, tp0 top, aI, eL, aN, aIs at1, q1, z_ne_bI, eC, zCut, sRi]
    · simp [fX7_plate, bX7_plate, mI, sSeq, sF, rL, eC, wMo0, sIf, bOr, bNot, bZ, eCV, aI, eL, aN, isMo, q2, z_ne_bI, zCut, sRi]
  | true =>
    obtain ⟨k, hk, rfl⟩ := q3 rfl
    obtain ⟨w0, w1, w2, w3, w4, w5, w6⟩ := vw.2.2.1 k hk
    have x := fun (y : Nat) (hy : y < 7) => aPl at1 (p := k) (x := y) (by omega) hy
    cases hf : (decide (0 ≤ f) && decide (f ≤ nI 6)) with
    | false =>
      have hf6 : (decide (0 ≤ f) && decide (f ≤ 6)) = false := hf
      refine close0 (v := -1) (g' := upd g 0 0) top at1 vw iv ir his txt fcs md g4 g6 ?_ (fun hm => ?_) (by simp [upd]) (by simp [upd])
      · have sw := sSw_out (n := 6) (f := eL 2) (bs := [(sRi (eF 4 0 (rL 3))), (sRi (eF 4 1 (rL 3))), (sRi (eF 4 2 (rL 3))), (sRi (eF 4 3 (rL 3))), (sRi (eF 4 4 (rL 3))), (sRi (eF 4 5 (rL 3))), (sRi (eF 4 6 (rL 3)))]) (df := sRi (eC (-1))) (en := [.ref t, .int (nI k), .int f, .ref (t + 1 + 4 + k)]) (h := h) (h1 := h) (by simp [eL]) hf (by omega)
        simp only [show ((6 : Nat) : Int) = 6 from rfl] at sw
        simp [fX6_plate, bX6_plate, mI, sSeq, sIf, bNot, bZ, eCV, rF, rL, tp0 top, aI, eL, aN, aIs at1, q1, z_ne_bI, sNop, zCut, sLr, rQ, aS0 at1, aQp at1 (show k < 20 by omega), zSt]
        simp [sw, sRi, eC, zCut]
      · simp [fX7_plate, bX7_plate, mI, sSeq, sF, rL, eC, wMo0, sIf, bOr, bNot, bZ, eCV, aI, eL, aN, isMo, q2, z_ne_bI, eCS, X7_in, hf6, zCut, sRi]
    | true =>
      have hf6 : (decide (0 ≤ f) && decide (f ≤ 6)) = true := hf
      obtain ⟨y, hy, rfl⟩ := in_nI (by omega) hf
      have sw := sSw_at (n := 6) (k := y) (f := eL 2) (bs := [(sRi (eF 4 0 (rL 3))), (sRi (eF 4 1 (rL 3))), (sRi (eF 4 2 (rL 3))), (sRi (eF 4 3 (rL 3))), (sRi (eF 4 4 (rL 3))), (sRi (eF 4 5 (rL 3))), (sRi (eF 4 6 (rL 3)))]) (df := sRi (eC (-1))) (en := [.ref t, .int (nI k), .int (nI y), .ref (t + 1 + 4 + k)]) (h := h) (h1 := h) (by simp [eL]) hy (by omega)
      simp only [show ((6 : Nat) : Int) = 6 from rfl] at sw
      have xy := x y (by omega)
      have py := fun (hm : zH) (g : Nat → Int32) => ofPk (h := hM hm (t + 387) g R SV TX T AS) (p := k) hM_1 (by omega) (c := nI y) (k := y) rfl (by omega)
      have p2 := fun (hm : zH) (g : Nat → Int32) => ofP2 (h := hM hm (t + 387) g R SV TX T AS) hM_1 (p := k) (by omega)
      have cl : fX6_plate [.ref t, .int (nI k), .int (nI y)] h = some (P k y, h) := by
        simp [fX6_plate, bX6_plate, mI, sSeq, sIf, bNot, bZ, eCV, rF, rL, tp0 top, aI, eL, aN, aIs at1, q1, z_ne_bI, sNop, zCut, sLr, rQ, aS0 at1, aQp at1 (show k < 20 by omega), zSt]
        rw [sw]
        rcases (show y = 0 ∨ y = 1 ∨ y = 2 ∨ y = 3 ∨ y = 4 ∨ y = 5 ∨ y = 6 by omega) with e | e | e | e | e | e | e <;> subst e <;> simp [sRi, eF, rL, xy, zCut]
      have gt : o_gt (nI y) 4 = decide (4 < y) := o_gt_nI (a := y) (b := 4) (by omega) (by omega)
      refine close0 (v := P k y) (g' := upd g 0 0) top at1 vw iv ir his txt fcs md g4 g6 cl (fun hm => ?_) (by simp [upd]) (by simp [upd])
      by_cases h4 : 4 < y
      · have gt' : o_gt (nI y) 4 = true := by rw [gt]; exact decide_eq_true h4
        by_cases h2 : sP (R 1) k 2 = 2
        · have n2 : o_ne (sP (R 1) k 2) 2 = false := by rw [h2]; rfl
          have ev : P k y = sP (R 1) k y := by
            rcases (show y = 5 ∨ y = 6 by omega) with e | e <;> subst e
            · rw [w5, if_pos h2]
            · rw [w6, if_pos h2]
          rw [ev]
          simp [fX7_plate, bX7_plate, mI, sSeq, sF, rL, eC, wMo0, sIf, bOr, bNot, bZ, eCV, aI, eL, aN, isMo, q2, z_ne_bI, eCS, X7_in, hf6, sNop, zCut, sRi, eT, bAnd, bCmp, gt', aR, rF, rMr1, p2, n2, py]
        · have n2 : o_ne (sP (R 1) k 2) 2 = true := by simp [o_ne, h2]
          have ev : P k y = -9 := by
            rcases (show y = 5 ∨ y = 6 by omega) with e | e <;> subst e
            · rw [w5, if_neg h2]
            · rw [w6, if_neg h2]
          rw [ev]
          simp [fX7_plate, bX7_plate, mI, sSeq, sF, rL, eC, wMo0, sIf, bOr, bNot, bZ, eCV, aI, eL, aN, isMo, q2, z_ne_bI, eCS, X7_in, hf6, sNop, zCut, sRi, eT, bAnd, bCmp, gt', aR, rF, rMr1, p2, n2]
      · have gt' : o_gt (nI y) 4 = false := by rw [gt]; exact decide_eq_false h4
        have ev : P k y = sP (R 1) k y := by
          rcases (show y = 0 ∨ y = 1 ∨ y = 2 ∨ y = 3 ∨ y = 4 by omega) with e | e | e | e | e <;> subst e <;> assumption
        rw [ev]
        simp [fX7_plate, bX7_plate, mI, sSeq, sF, rL, eC, wMo0, sIf, bOr, bNot, bZ, eCV, aI, eL, aN, isMo, q2, z_ne_bI, eCS, X7_in, hf6, sNop, zCut, sRi, eT, bAnd, bCmp, gt', aR, rF, rMr1, py]
end ZC9
