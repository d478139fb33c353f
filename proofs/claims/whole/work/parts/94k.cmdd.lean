/-! the commands that read: doneIn -/
section ZCE
variable {h : zH} {b L' t nS nP nO c nh nt : Nat} {xs : Nat → Int32} {s pf N g SV TX AS : Nat → Int32} {P O L R T : Nat → Nat → Int32} {pi : Nat → Nat}
/-- forecasts are made: the scratch shop and the rows of both are changed -/
theorem fc_keep {h1 : zH} (top : Top h b L' xs t) (at1 : At h (t + 1) s P pf pi O N L) (his : His h t nh SV) (txt : Txt h t nt TX) (md : Mod h (t + 387) g R SV TX T AS) (k : ∀ x, x < t + 329 ∨ t + 387 ≤ x → h1.2 x = h.2 x) :
    Top h1 b L' xs t ∧ At h1 (t + 1) s P pf pi O N L ∧ His h1 t nh SV ∧ Txt h1 t nt TX ∧ Mod h1 (t + 387) g R SV TX T AS :=
  ⟨Top_keep top (fun x hx => k x (by omega)), At_keep at1 (fun x a b => k x (by omega)), His_keep his (fun x a b => k x (by omega)), Txt_keep txt (fun x a b => k x (by omega)), Mod_keep md (fun x a b => k x (by omega))⟩
set_option maxRecDepth 100000 in
set_option maxHeartbeats 1000000 in
theorem cmd_doneIn (v : Int32) : Cmd fX6_doneIn fX7_doneIn [.int v] := by
  intro h b L' xs t rl
  obtain ⟨g, R, SV, TX, T, AS, nh, nt, top, ⟨s, P, pf, pi, O, N, L, nS, nP, nO, c, at1, vw, iv, ir⟩, his, txt, fcs, md, g4, g6⟩ := rl
  obtain ⟨c0, c1, c2, c3, c4, c5⟩ := iv.1
  obtain ⟨q, q1, q2, q3⟩ := or_both (R := R) at1 vw iv v
  cases q with
  | false =>
    refine close0 (v := -1) (g' := upd g 0 0) top at1 vw iv ir his txt fcs md g4 g6 ?_ (fun hm => ?_) (by simp [upd]) (by simp [upd])
    · simp [fX6_doneIn, bX6_doneIn, mI, sSeq, sIf, bNot, bZ, eCV, rF, rL, tp0 top, aI, eL, aN, aIs at1, q1, z_ne_bI, eC, zCut, sRi]
    · simp [fX7_doneIn, bX7_doneIn, mI, sSeq, sF, rL, eC, wMo0, sIf, bNot, bZ, eCV, aI, eL, aN, isMo, q2, z_ne_bI, zCut, sRi]
  | true =>
    obtain ⟨k, hk, rfl⟩ := q3 rfl
    obtain ⟨⟨sq, Pq, fq, piq, Oq, Nq, Lq, atq, hpiq⟩, f1, ⟨D, f2⟩, f3, D', f4⟩ := fcs
    obtain ⟨s1, P1, pf1, pi1, O1, N1, L1, S1, D1, g1, A1, T1, u1, u2, u3, u5, u4⟩ := fs_no (i := 5) (s := sq) (P := Pq) (pf := fq) (O := Oq) (N := Nq) (L := Lq) (g := upd g 0 0) (SV := SV) (TX := TX) (T := T) (AS := AS) (.inl rfl) hpiq D vw iv ir (a := t + 1) (lo := t + 329) (by omega)
    have cl := u1 h (t + 383) (t + 384) ⟨f1, by omega, by omega, by omega⟩ (by omega) at1
    rw [hp_id f2, At_eq atq] at cl
    generalize hH : hS (hp h (t + 384) (xI 10 D1)) (t + 329) s1 P1 pf1 pi1 O1 N1 L1 = H at cl
    have kH : ∀ x, x < t + 329 ∨ t + 385 ≤ x ∨ x = t + 383 → H.2 x = h.2 x := fun x hx => by rw [← hH, hS_ne (by omega), hp_ne _ _ (by omega)]
    have hD : H.2 (t + 384) = some (xI 10 D1) := by rw [← hH, hS_ne (by omega), hp_self]
    obtain ⟨top1, at2, his1, txt1, md1⟩ := fc_keep (R := R) top at1 his txt md (fun x hx => kH x (by omega))
    have fcs1 : Fcs H t := ⟨⟨s1, P1, pf1, pi1, O1, N1, L1, by rw [← hH]; exact At_self, u5⟩, by rw [kH _ (by omega)]; exact f1, ⟨D1, hD⟩, by rw [kH _ (by omega)]; exact f3, D', by rw [kH _ (by omega)]; exact f4⟩
    have rd := rdA_of hD (show k < 10 by omega) (by omega)
    have e1 : (va_up R 2 S1) 1 = R 1 := va_up_ne _ _ (by omega)
    have fi : isO h 0 (t + 383) = true := isO_of f1
    have r1 : rdR H 0 1 (t + 383) = some (t + 384) := rdR_of (by rw [kH _ (by omega)]; exact f1) rfl
    refine close1 (v := D1 k) (h1 := H) (g' := g1) (R' := va_up R 2 S1) (T' := va_up T 5 T1) (AS' := A1) top1 his1 txt1 fcs1 md1 (by rw [e1]; exact vw) (by rw [e1]; exact iv) (by rw [e1]; exact ir) (by rw [u4 4 (by omega) (by omega) (by omega)]; simp [upd, g4]) (by rw [u4 6 (by omega) (by omega) (by omega)]; simp [upd, g6]) ?_ (fun hm => ?_)
    · rw [At_eq at2]
      simp [fX6_doneIn, bX6_doneIn, mI, sSeq, sIf, bNot, bZ, eCV, rF, rL, tp0 top, aI, eL, aN, aIs at1, q1, z_ne_bI, sNop, zCut, sCV, tp3 top, aR, eC, fi, cl, sRi, eA, tp3 top1, r1, rd]
    · have ty := X7_tryNow (h := hm) (m := t + 387) (g := upd g 0 0) (R := R) (SV := SV) (TX := TX) (T := T) (AS := AS) c2 c5
      have wo := u2 hm (t + 387)
      have rt := rdA_of (hM_t (h := hm) (m := t + 387) (g := g1) (R := va_up R 2 S1) (SV := SV) (TX := TX) (T := va_up T 5 T1) (AS := A1) (i := 5) (.inl rfl)) (show k < 10 by omega) (by omega)
      rw [up_self, ← u3 k (by omega)] at rt
      simp [fX7_doneIn, bX7_doneIn, mI, sSeq, sF, rL, eC, wMo0, sIf, bNot, bZ, eCV, aI, eL, aN, isMo, q2, z_ne_bI, sNop, zCut, sCV, ty, aR, rF, rMr10, wo, sRi, eA, rt]
end ZCE
