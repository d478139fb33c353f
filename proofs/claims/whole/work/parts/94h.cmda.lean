/-! the commands that read: count -/
section ZCA
variable {h : zH} {b L' t nS nP nO c nh nt : Nat} {xs : Nat → Int32} {s pf N g SV TX AS : Nat → Int32} {P O L R T : Nat → Nat → Int32} {pi : Nat → Nat}
/-- what a count answers -/
def coV (S : Nat → Int32) (nP nh nt c y : Nat) : Int32 :=
  if y < 4 then cnt (inS S (nI y)) nP else if y = 4 then S 1 else if y = 5 then S 0 else if y = 6 then S 2 else if y = 7 then nI c else if y = 8 then S 3 else if y = 9 then (if S 3 = -9 then -9 else S 4) else if y = 10 then S 5 else if y = 11 then S 7 else if y = 12 then S 8 else if y = 13 then S 9 else if y = 14 then nI nh else nI nt
set_option maxRecDepth 100000 in
set_option maxHeartbeats 4000000 in
theorem cmd_count (v : Int32) : Cmd fX6_count fX7_count [.int v] := by
  intro h b L' xs t rl
  obtain ⟨g, R, SV, TX, T, AS, nh, nt, top, ⟨s, P, pf, pi, O, N, L, nS, nP, nO, c, at1, vw, iv, ir⟩, his, txt, fcs, md, g4, g6⟩ := rl
  obtain ⟨c0, c1, c2, c3, c4, c5⟩ := iv.1
  obtain ⟨v3, v4, v5, v6, v7, v8, v9, v10, v11, v12⟩ := vw.1
  have s3 : s 3 = nI nP := by rw [v3, c1]
  have s5 : s 5 = nI nO := by rw [v5, c2]
  have hi1 : rdI h 1 1 (t + 55) = some (nI nh) := by obtain ⟨ro, -, h0, -⟩ := his; exact hi_1 h0
  have r3 := fun (hm : zH) (g : Nat → Int32) => hd3 (h := hM hm (t + 387) g R SV TX T AS) (hM_r (i := 1) (.inl rfl))
  cases hv : (decide (0 ≤ v) && decide (v ≤ nI 15)) with
  | false =>
    have ti : v.toInt < 0 ∨ 15 < v.toInt := by
      simp only [Bool.and_eq_false_iff, decide_eq_false_iff_not, i_le, nI_toInt (show 15 < 2 ^ 31 by omega), show (0 : Int32).toInt = 0 from rfl] at hv
      omega
    refine close0 (v := -1) (g' := upd g 0 0) top at1 vw iv ir his txt fcs md g4 g6 ?_ (fun hm => ?_) (by simp [upd]) (by simp [upd])
    · simp [fX6_count, bX6_count, mI, sSw, eL, ti, sRi, eC, zCut]
    · simp [fX7_count, bX7_count, mI, sSeq, sF, rL, eC, wMo0, sLi, eB_bI, bCmp, eA, rF, rMr1, r3, zSt, sSw, eL, ti, sRi, zCut]
  | true =>
    obtain ⟨y, hy, rfl⟩ := in_nI (by omega) hv
    have tI : (nI y).toInt = (y : Int) := nI_toInt (by omega)
    have tC : (nI y).toNatClampNeg = y := (nI_idx (j := y) (n := y + 1) (by omega) (by omega)).2.2
    have pi1 := fun st : Int32 => X5_platesIn (h := h) (lo := t + 1) (s := s) (P := P) (pf := pf) (pi := pi) (O := O) (N := N) (L := L) s3 c4 st
    simp only [At_eq at1, platesIn_view vw.2.2.1] at pi1
    have rs := X5_rushes (h := h) (lo := t + 1) (s := s) (P := P) (pf := pf) (pi := pi) (O := O) (N := N) (L := L) s5 c5 vw.2.1.1
    rw [cnt_N, At_eq at1] at rs
    have rs' : fX5_rushes [.ref (t + 1)] h = some (nI c, h) := by rw [← rs_view vw.2.2.2.2 ir]; exact rs
    have pr := fun (hm : zH) (g : Nat → Int32) (st : Int32) => X7_platesIn (h := hM hm (t + 387) g R SV TX T AS) (hM_r (i := 1) (.inl rfl)) c1 c4 st
    have rr := fun (hm : zH) (g : Nat → Int32) => X7_rushes (h := hM hm (t + 387) g R SV TX T AS) (hM_r (i := 1) (.inl rfl)) c2 c5
    simp only [sum_view ir] at rr
    have a3 : rdI h 5 3 (t + 1) = some (R 1 1) := by rw [← v3]; exact aSx at1 (by omega) (by omega)
    have a4 : rdI h 5 4 (t + 1) = some (R 1 0) := by rw [← v4]; exact aSx at1 (by omega) (by omega)
    have a5 : rdI h 5 5 (t + 1) = some (R 1 2) := by rw [← v5]; exact aSx at1 (by omega) (by omega)
    have a6 : rdI h 5 6 (t + 1) = some (R 1 3) := by rw [← v6]; exact aSx at1 (by omega) (by omega)
    have a7 : rdI h 5 7 (t + 1) = some (R 1 5) := by rw [← v7]; exact aSx at1 (by omega) (by omega)
    have a9 : rdI h 5 9 (t + 1) = some (if R 1 3 = -9 then -9 else R 1 4) := by rw [← v9]; exact aSx at1 (by omega) (by omega)
    have a10 : rdI h 5 10 (t + 1) = some (R 1 7) := by rw [← v10]; exact aSx at1 (by omega) (by omega)
    have a11 : rdI h 5 11 (t + 1) = some (R 1 8) := by rw [← v11]; exact aSx at1 (by omega) (by omega)
    have a12 : rdI h 5 12 (t + 1) = some (R 1 9) := by rw [← v12]; exact aSx at1 (by omega) (by omega)
    have b0 := fun (hm : zH) (g : Nat → Int32) => hd0 (h := hM hm (t + 387) g R SV TX T AS) (hM_r (i := 1) (.inl rfl))
    have b1 := fun (hm : zH) (g : Nat → Int32) => hd1 (h := hM hm (t + 387) g R SV TX T AS) (hM_r (i := 1) (.inl rfl))
    have b2 := fun (hm : zH) (g : Nat → Int32) => hd2 (h := hM hm (t + 387) g R SV TX T AS) (hM_r (i := 1) (.inl rfl))
    have b4 := fun (hm : zH) (g : Nat → Int32) => hd4 (h := hM hm (t + 387) g R SV TX T AS) (hM_r (i := 1) (.inl rfl))
    have b5 := fun (hm : zH) (g : Nat → Int32) => hd5 (h := hM hm (t + 387) g R SV TX T AS) (hM_r (i := 1) (.inl rfl))
    have b7 := fun (hm : zH) (g : Nat → Int32) => hd7 (h := hM hm (t + 387) g R SV TX T AS) (hM_r (i := 1) (.inl rfl))
    have b8 := fun (hm : zH) (g : Nat → Int32) => hd8 (h := hM hm (t + 387) g R SV TX T AS) (hM_r (i := 1) (.inl rfl))
    have b9 := fun (hm : zH) (g : Nat → Int32) => hd9 (h := hM hm (t + 387) g R SV TX T AS) (hM_r (i := 1) (.inl rfl))
    have m4 := fun hm : zH => rMo4 (h := hm) (m := t + 387) (g := upd g 0 0) (R := R) (SV := SV) (TX := TX) (T := T) (AS := AS)
    have m6 := fun hm : zH => rMo6 (h := hm) (m := t + 387) (g := upd g 0 0) (R := R) (SV := SV) (TX := TX) (T := T) (AS := AS)
    simp only [upd_ne (show 4 ≠ 0 by omega), g4] at m4
    simp only [upd_ne (show 6 ≠ 0 by omega), g6] at m6
    have cases16 : y = 0 ∨ y = 1 ∨ y = 2 ∨ y = 3 ∨ y = 4 ∨ y = 5 ∨ y = 6 ∨ y = 7 ∨ y = 8 ∨ y = 9 ∨ y = 10 ∨ y = 11 ∨ y = 12 ∨ y = 13 ∨ y = 14 ∨ y = 15 := by omega
    refine close0 (v := coV (R 1) nP nh nt c y) (g' := upd g 0 0) top at1 vw iv ir his txt fcs md g4 g6 ?_ (fun hm => ?_) (by simp [upd]) (by simp [upd])
    · rcases cases16 with e | e | e | e | e | e | e | e | e | e | e | e | e | e | e | e <;> subst e <;>
        simp [fX6_count, bX6_count, mI, sSw, eL, tI, tC, sRi, eCV, rF, rL, tp0 top, aI, aN, aIs at1, pi1, eF, a3, a4, a5, rs', a6, a9, a7, a10, a11, a12, tp1 top, hi1, tp2 top, tx_1 txt, zCut, coV]
    · rcases cases16 with e | e | e | e | e | e | e | e | e | e | e | e | e | e | e | e <;> subst e <;>
        simp [fX7_count, bX7_count, mI, sSeq, sF, rL, eC, wMo0, sLi, eB_bI, bCmp, eA, rF, rMr1, r3, zSt, sSw, eL, tI, tC, sRi, eCS, aR, aI, aN, pr, b0, b1, b2, rr, eT, bZ, z_ne_bI, o_ne, b4, b5, b7, b8, b9, eF, m4, m6, zCut, coV]
      all_goals (by_cases hz : R 1 3 = -9 <;> simp [hz, zCut])
end ZCA
