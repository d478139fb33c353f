/-! the commands that read: shield, orderOf -/
section ZCB
variable {h : zH} {b L' t nS nP nO c nh nt : Nat} {xs : Nat → Int32} {s pf N g SV TX AS : Nat → Int32} {P O L R T : Nat → Nat → Int32} {pi : Nat → Nat}
def shV (S : Nat → Int32) (nP j y : Nat) : Int32 :=
  if y = 0 then S (150 + j) else if y = 1 then cnt (onS S (nI j)) nP else if y = 2 then yrM (onS S (nI j)) (fun p => sP S p 6) 1 nP else if y = 3 then yrM (onS S (nI j)) (fun p => sP S p 6) (-1) nP
  else if cnt (onS S (nI j)) nP = 0 then 0 else yrM (onS S (nI j)) (fun p => sP S p 6) (-1) nP - yrM (onS S (nI j)) (fun p => sP S p 6) 1 nP + 1 - cnt (onS S (nI j)) nP
set_option maxRecDepth 100000 in
set_option maxHeartbeats 4000000 in
theorem cmd_shield (v f : Int32) : Cmd fX6_shield fX7_shield [.int v, .int f] := by
  intro h b L' xs t rl
  obtain ⟨g, R, SV, TX, T, AS, nh, nt, top, ⟨s, P, pf, pi, O, N, L, nS, nP, nO, c, at1, vw, iv, ir⟩, his, txt, fcs, md, g4, g6⟩ := rl
  obtain ⟨c0, c1, c2, c3, c4, c5⟩ := iv.1
  have s3 : s 3 = nI nP := by rw [vw.1.1, c1]
  obtain ⟨q, q1, q2, q3⟩ := sh_both (R := R) at1 vw iv v
  cases q with
  | false =>
    refine close0 (v := -1) (g' := upd g 0 0) top at1 vw iv ir his txt fcs md g4 g6 ?_ (fun hm => ?_) (by simp [upd]) (by simp [upd])
    · simp [fX6_shield, bX6_shield, mI, sSeq, sIf, bNot, bZ, eCV, rF, rL, tp0 top, aI, eL, aN, aIs at1, q1, z_ne_bI, eC, zCut, sRi]
    · simp [fX7_shield, bX7_shield, mI, sSeq, sF, rL, eC, wMo0, sIf, bOr, bNot, bZ, eCV, aI, eL, aN, isMo, q2, z_ne_bI, zCut, sRi]
  | true =>
    obtain ⟨j, hj, rfl⟩ := q3 rfl
    cases hf : (decide (0 ≤ f) && decide (f ≤ nI 4)) with
    | false =>
      have hf4 : (decide (0 ≤ f) && decide (f ≤ 4)) = false := hf
      have ti : f.toInt < 0 ∨ 4 < f.toInt := by
        simp only [Bool.and_eq_false_iff, decide_eq_false_iff_not, i_le, nI_toInt (show 4 < 2 ^ 31 by omega), show (0 : Int32).toInt = 0 from rfl] at hf
        omega
      refine close0 (v := -1) (g' := upd g 0 0) top at1 vw iv ir his txt fcs md g4 g6 ?_ (fun hm => ?_) (by simp [upd]) (by simp [upd])
      · simp [fX6_shield, bX6_shield, mI, sSeq, sIf, bNot, bZ, eCV, rF, rL, tp0 top, aI, eL, aN, aIs at1, q1, z_ne_bI, sNop, zCut, sSw, ti, sRi, eC]
      · simp [fX7_shield, bX7_shield, mI, sSeq, sF, rL, eC, wMo0, sIf, bOr, bNot, bZ, eCV, aI, eL, aN, isMo, q2, z_ne_bI, eCS, X7_in, hf4, zCut, sRi]
    | true =>
      have hf4 : (decide (0 ≤ f) && decide (f ≤ 4)) = true := hf
      obtain ⟨y, hy, rfl⟩ := in_nI (by omega) hf
      have tI : (nI y).toInt = (y : Int) := nI_toInt (by omega)
      have tC : (nI y).toNatClampNeg = y := (nI_idx (j := y) (n := y + 1) (by omega) (by omega)).2.2
      have j31 : j < 2 ^ 31 := by omega
      have p0 := aPf' at1 (show j < 3 by omega)
      rw [vw.2.2.2.1 j hj] at p0
      have p1 := X5_platesOn (h := h) (lo := t + 1) (s := s) (P := P) (pf := pf) (pi := pi) (O := O) (N := N) (L := L) s3 c4 (nI j)
      have p2 := X5_earliestYear (h := h) (lo := t + 1) (s := s) (P := P) (pf := pf) (pi := pi) (O := O) (N := N) (L := L) s3 c4 (nI j)
      have p3 := X5_latestYear (h := h) (lo := t + 1) (s := s) (P := P) (pf := pf) (pi := pi) (O := O) (N := N) (L := L) s3 c4 (nI j)
      have p4 := X5_yearsLeftOut (h := h) (lo := t + 1) (s := s) (P := P) (pf := pf) (pi := pi) (O := O) (N := N) (L := L) s3 c4 (nI j)
      rw [At_eq at1, platesOn_view vw.2.2.1 j31] at p1
      rw [At_eq at1, ea_view vw.2.2.1 j31] at p2
      rw [At_eq at1, la_view vw.2.2.1 iv.2.2.1 j31] at p3
      rw [At_eq at1, platesOn_view vw.2.2.1 j31, ea_view vw.2.2.1 j31, la_view vw.2.2.1 iv.2.2.1 j31] at p4
      have r0 := fun (hm : zH) (g : Nat → Int32) => hd150 (h := hM hm (t + 387) g R SV TX T AS) (hM_r (i := 1) (.inl rfl)) (show j < 3 by omega)
      have r1 := fun (hm : zH) (g : Nat → Int32) => X7_platesOn (h := hM hm (t + 387) g R SV TX T AS) (hM_r (i := 1) (.inl rfl)) c1 c4 (nI j)
      have r2 := fun (hm : zH) (g : Nat → Int32) => X7_yearOn (h := hM hm (t + 387) g R SV TX T AS) (hM_r (i := 1) (.inl rfl)) c1 c4 (nI j) 1
      have r3 := fun (hm : zH) (g : Nat → Int32) => X7_yearOn (h := hM hm (t + 387) g R SV TX T AS) (hM_r (i := 1) (.inl rfl)) c1 c4 (nI j) (-1)
      have cases5 : y = 0 ∨ y = 1 ∨ y = 2 ∨ y = 3 ∨ y = 4 := by omega
      refine close0 (v := shV (R 1) nP j y) (g' := upd g 0 0) top at1 vw iv ir his txt fcs md g4 g6 ?_ (fun hm => ?_) (by simp [upd]) (by simp [upd])
      · rcases cases5 with e | e | e | e | e <;> subst e <;>
          simp [fX6_shield, bX6_shield, mI, sSeq, sIf, bNot, bZ, eCV, rF, rL, tp0 top, aI, eL, aN, aIs at1, q1, z_ne_bI, sNop, zCut, sSw, tI, tC, sRi, eA, aS1 at1, p0, p1, p2, p3, p4, shV]
      · rcases cases5 with e | e | e | e | e <;> subst e <;>
          simp [fX7_shield, bX7_shield, mI, sSeq, sF, rL, eC, wMo0, sIf, bOr, bNot, bZ, eCV, aI, eL, aN, isMo, q2, z_ne_bI, eCS, X7_in, hf4, sNop, zCut, sLi, aR, rF, rMr1, r1, r2, r3, zSt, sSw, tI, tC, sRi, eA, eOp, r0, eT, z_eq, shV]
        by_cases hz : cnt (onS (R 1) (nI j)) nP = 0 <;> simp [hz, zCut]
def orV (S : Nat → Int32) (k y : Nat) : Int32 := if y < 6 then sO S k y else if y = 6 then itsM S k else efM S k
set_option maxRecDepth 100000 in
set_option maxHeartbeats 4000000 in
theorem cmd_orderOf (v f : Int32) : Cmd fX6_orderOf fX7_orderOf [.int v, .int f] := by
  intro h b L' xs t rl
  obtain ⟨g, R, SV, TX, T, AS, nh, nt, top, ⟨s, P, pf, pi, O, N, L, nS, nP, nO, c, at1, vw, iv, ir⟩, his, txt, fcs, md, g4, g6⟩ := rl
  obtain ⟨c0, c1, c2, c3, c4, c5⟩ := iv.1
  obtain ⟨q, q1, q2, q3⟩ := or_both (R := R) at1 vw iv v
  cases q with
  | false =>
    refine close0 (v := -1) (g' := upd g 0 0) top at1 vw iv ir his txt fcs md g4 g6 ?_ (fun hm => ?_) (by simp [upd]) (by simp [upd])
    · simp [fX6_orderOf, bX6_orderOf, mI, sSeq, sIf, bNot, bZ, eCV, rF, rL, tp0 top, aI, eL, aN, aIs at1, q1, z_ne_bI, eC, zCut, sRi]
    · simp [fX7_orderOf, bX7_orderOf, mI, sSeq, sF, rL, eC, wMo0, sIf, bOr, bNot, bZ, eCV, aI, eL, aN, isMo, q2, z_ne_bI, zCut, sRi]
  | true =>
    obtain ⟨k, hk, rfl⟩ := q3 rfl
    have hpk := vw.2.1.1 k (by omega)
    cases hf : (decide (0 ≤ f) && decide (f ≤ nI 7)) with
    | false =>
      have hf7 : (decide (0 ≤ f) && decide (f ≤ 7)) = false := hf
      have ti : f.toInt < 0 ∨ 7 < f.toInt := by
        simp only [Bool.and_eq_false_iff, decide_eq_false_iff_not, i_le, nI_toInt (show 7 < 2 ^ 31 by omega), show (0 : Int32).toInt = 0 from rfl] at hf
        omega
      refine close0 (v := -1) (g' := upd g 0 0) top at1 vw iv ir his txt fcs md g4 g6 ?_ (fun hm => ?_) (by simp [upd]) (by simp [upd])
      · simp [fX6_orderOf, bX6_orderOf, mI, sSeq, sIf, bNot, bZ, eCV, rF, rL, tp0 top, aI, eL, aN, aIs at1, q1, z_ne_bI, sNop, zCut, sLr, rQ, aS2 at1, aQr at1 (show k < 10 by omega), zSt, sSw, ti, sRi, eC]
      · simp [fX7_orderOf, bX7_orderOf, mI, sSeq, sF, rL, eC, wMo0, sIf, bOr, bNot, bZ, eCV, aI, eL, aN, isMo, q2, z_ne_bI, eCS, X7_in, hf7, zCut, sRi]
    | true =>
      have hf7 : (decide (0 ≤ f) && decide (f ≤ 7)) = true := hf
      obtain ⟨y, hy, rfl⟩ := in_nI (by omega) hf
      have tI : (nI y).toInt = (y : Int) := nI_toInt (by omega)
      have tC : (nI y).toNatClampNeg = y := (nI_idx (j := y) (n := y + 1) (by omega) (by omega)).2.2
      obtain ⟨o0, o1, o2, o3, o4, o5, o6⟩ := vw.2.2.2.2 k hk
      obtain ⟨n5, n12⟩ := hl_of iv k hk
      have x0 := aOr at1 (x := 0) hpk (by omega)
      have x1 := aOr at1 (x := 1) hpk (by omega)
      have x2 := aOr at1 (x := 2) hpk (by omega)
      have x3 := aOr at1 (x := 3) hpk (by omega)
      have x4 := aOr at1 (x := 4) hpk (by omega)
      simp only [Nat.reduceAdd, o0, o1, o2, o3, o4] at x0 x1 x2 x3 x4
      have nm : rdR h 3 0 (t + 1 + 24 + 3 * pi k) = some (t + 1 + 24 + 3 * pi k + 1) := rdR_of (a_o at1 hpk) rfl
      have cn : rdI h 2 1 (t + 1 + 24 + 3 * pi k + 1) = some (sO (R 1) k 5) := by rw [← o5]; exact rdI_of (a_n at1 hpk) rfl
      have io : isO h 3 (t + 1 + 24 + 3 * pi k) = true := isO_of (a_o at1 hpk)
      have nc : N (pi k) = nI (nC N (pi k)) := by rw [nC_view vw.2.2.2.2 hk, o5]; exact n5
      have x6 := X5_nl (h := h) (lo := t + 1) (s := s) (P := P) (pf := pf) (pi := pi) (O := O) (N := N) (L := L) hpk nc (by rw [nC_view vw.2.2.2.2 hk]; exact n12)
      rw [At_eq at1, show nLen (L (pi k)) (nC N (pi k)) (O (pi k) 2) = itsM (R 1) k from it_view vw.2.2.2.2 iv.2.2.2.1 hk] at x6
      have x7 := X5_ef (h := h) (lo := t + 1) (s := s) (P := P) (pf := pf) (pi := pi) (O := O) (N := N) (L := L) hpk nc
      rw [At_eq at1, show nI (nC N (pi k)) * (O (pi k) 2 + O (pi k) 3) = efM (R 1) k from ef_view vw.2.2.2.2 iv.2.2.2.1 hk] at x7
      have z01 : (if z_ne (sO (R 1) k 4) = true then (1 : Int32) else 0) = sO (R 1) k 4 := by
        rcases (iv.2.2.2.1 k hk).2.2.2.2.1 with e | e <;> rw [e] <;> rfl
      have ry := fun (hm : zH) (g : Nat → Int32) (hy6 : y < 19) => ofOk (h := hM hm (t + 387) g R SV TX T AS) hM_1 (j := k) (by omega) (c := nI y) (k := y) rfl hy6
      have ry := fun (hm : zH) (g : Nat → Int32) => ry hm g (by omega)
      have r6 := fun (hm : zH) (g : Nat → Int32) => X7_nameLength (h := hM hm (t + 387) g R SV TX T AS) hM_1 (k := k) (by omega) n5 n12
      have r7 := fun (hm : zH) (g : Nat → Int32) => X7_effort (h := hM hm (t + 387) g R SV TX T AS) hM_1 (k := k) (by omega)
      have l6 : o_lt (nI y) 6 = decide (y < 6) := o_lt_nI (a := y) (b := 6) (by omega) (by omega)
      have e6 : o_eq (nI y) 6 = decide (y = 6) := by
        simp only [o_eq, show (6 : Int32) = nI 6 from rfl, nI_eqI (show y < 2 ^ 31 by omega) (show 6 < 2 ^ 31 by omega)]
      have cases8 : y = 0 ∨ y = 1 ∨ y = 2 ∨ y = 3 ∨ y = 4 ∨ y = 5 ∨ y = 6 ∨ y = 7 := by omega
      refine close0 (v := orV (R 1) k y) (g' := upd g 0 0) top at1 vw iv ir his txt fcs md g4 g6 ?_ (fun hm => ?_) (by simp [upd]) (by simp [upd])
      · cases zb : z_ne (sO (R 1) k 4) <;> rw [zb] at z01 <;> simp at z01 <;>
        rcases cases8 with e | e | e | e | e | e | e | e <;> subst e <;>
          simp [fX6_orderOf, bX6_orderOf, mI, sSeq, sIf, bNot, bZ, eCV, rF, rL, tp0 top, aI, eL, aN, aIs at1, q1, z_ne_bI, sNop, zCut, sLr, rQ, aS2 at1, aQr at1 (show k < 10 by omega), zSt, sSw, tI, tC, sRi, eF, x0, x1, x2, x3, x4, eT, zb, eC, z01, nm, cn, io, x6, x7, orV]
      · by_cases h6 : y < 6
        · simp [fX7_orderOf, bX7_orderOf, mI, sSeq, sF, rL, eC, wMo0, sIf, bOr, bNot, bZ, eCV, aI, eL, aN, isMo, q2, z_ne_bI, eCS, X7_in, hf7, sNop, zCut, sRi, eT, bCmp, l6, h6, aR, rF, rMr1, ry, orV]
        · by_cases h7 : y = 6
          · have e6t : o_eq (nI y) 6 = true := by rw [e6]; exact decide_eq_true h7
            have l6f : o_lt (nI y) 6 = false := by rw [l6]; exact decide_eq_false h6
            have ov : orV (R 1) k y = nlM (R 1) k (nk (R 1) k) := by simp only [orV]; rw [if_neg h6, if_pos h7]; rfl
            rw [ov]
            simp [fX7_orderOf, bX7_orderOf, mI, sSeq, sF, rL, eC, wMo0, sIf, bOr, bNot, bZ, eCV, aI, eL, aN, isMo, q2, z_ne_bI, eCS, X7_in, hf7, sNop, zCut, sRi, eT, bCmp, l6f, e6t, aR, rF, rMr1, r6]
          · simp [fX7_orderOf, bX7_orderOf, mI, sSeq, sF, rL, eC, wMo0, sIf, bOr, bNot, bZ, eCV, aI, eL, aN, isMo, q2, z_ne_bI, eCS, X7_in, hf7, sNop, zCut, sRi, eT, bCmp, l6, h6, e6, h7, aR, rF, rMr1, r7, orV]
end ZCB
