/-! the commands: spoil, grind -/
section ZC2
variable {h : zH} {b L' t nS nP nO c nh nt : Nat} {xs : Nat → Int32} {s pf N g SV TX AS : Nat → Int32} {P O L R T : Nat → Nat → Int32} {pi : Nat → Nat}
theorem his_le {V : Nat → Int32} (w : His h t nh V) : nh ≤ 5 := by obtain ⟨ro, -, -, -, a, -⟩ := w; exact a
theorem his_is {V : Nat → Int32} (w : His h t nh V) : isO h 1 (t + 55) = true := by obtain ⟨ro, -, h0, -⟩ := w; exact hi_is h0
/-- a plate's number, on both sides -/
theorem pl_both (at1 : At h (t + 1) s P pf pi O N L) (vw : Vw s P pf pi O N L (R 1) nS nP nO) (iv : Iv (R 1) nS nP nO) (v : Int32) :
    ∃ q : Bool, fX5_hasPlate [.ref (t + 1), .int v] h = some (bI q, h) ∧ (∀ hm g SV TX T AS, fX7_isPlate [.ref (t + 387), .int v] (hM hm (t + 387) g R SV TX T AS) = some (bI q, hM hm (t + 387) g R SV TX T AS)) ∧ (q = true → ∃ k, k < nP ∧ v = nI k) := by
  obtain ⟨c0, c1, c2, c3, c4, c5⟩ := iv.1
  have e := X5_hasPlate (h := h) (lo := t + 1) (s := s) (P := P) (pf := pf) (pi := pi) (O := O) (N := N) (L := L) v
  rw [At_eq at1, show s 3 = nI nP by rw [vw.1.1, c1]] at e
  refine ⟨hasB v (nI nP), e, fun hm g SV TX T AS => ?_, fun q => hasB_nI' (by omega) q⟩
  rw [hasB_in v (by omega)]
  have f := X7_isPlate (nP := nP) (h := hM hm (t + 387) g R SV TX T AS) hM_0 hM_1 v
  rw [c1] at f
  exact f
theorem sh_both (at1 : At h (t + 1) s P pf pi O N L) (vw : Vw s P pf pi O N L (R 1) nS nP nO) (iv : Iv (R 1) nS nP nO) (v : Int32) :
    ∃ q : Bool, fX5_hasShield [.ref (t + 1), .int v] h = some (bI q, h) ∧ (∀ hm g SV TX T AS, fX7_isShield [.ref (t + 387), .int v] (hM hm (t + 387) g R SV TX T AS) = some (bI q, hM hm (t + 387) g R SV TX T AS)) ∧ (q = true → ∃ k, k < nS ∧ v = nI k) := by
  obtain ⟨c0, c1, c2, c3, c4, c5⟩ := iv.1
  have e := X5_hasShield (h := h) (lo := t + 1) (s := s) (P := P) (pf := pf) (pi := pi) (O := O) (N := N) (L := L) v
  rw [At_eq at1, show s 4 = nI nS by rw [vw.1.2.1, c0]] at e
  refine ⟨hasB v (nI nS), e, fun hm g SV TX T AS => ?_, fun q => hasB_nI' (by omega) q⟩
  rw [hasB_in v (by omega)]
  have f := X7_isShield (h := hM hm (t + 387) g R SV TX T AS) hM_0 hM_1 v
  rw [c0] at f
  exact f
theorem or_both (at1 : At h (t + 1) s P pf pi O N L) (vw : Vw s P pf pi O N L (R 1) nS nP nO) (iv : Iv (R 1) nS nP nO) (v : Int32) :
    ∃ q : Bool, fX5_hasOrder [.ref (t + 1), .int v] h = some (bI q, h) ∧ (∀ hm g SV TX T AS, fX7_isOrder [.ref (t + 387), .int v] (hM hm (t + 387) g R SV TX T AS) = some (bI q, hM hm (t + 387) g R SV TX T AS)) ∧ (q = true → ∃ k, k < nO ∧ v = nI k) := by
  obtain ⟨c0, c1, c2, c3, c4, c5⟩ := iv.1
  have e := X5_hasOrder (h := h) (lo := t + 1) (s := s) (P := P) (pf := pf) (pi := pi) (O := O) (N := N) (L := L) v
  rw [At_eq at1, show s 5 = nI nO by rw [vw.1.2.2.1, c2]] at e
  refine ⟨hasB v (nI nO), e, fun hm g SV TX T AS => ?_, fun q => hasB_nI' (by omega) q⟩
  rw [hasB_in v (by omega)]
  have f := X7_isOrder (h := hM hm (t + 387) g R SV TX T AS) hM_0 hM_1 v
  rw [c2] at f
  exact f
theorem aPl (e : At h (t + 1) s P pf pi O N L) {p x : Nat} (hp0 : p < 20) (hx : x < 7) : rdI h 4 x (t + 1 + 4 + p) = some (P p x) := by
  refine rdI_of (a_p e hp0) ?_
  match x, hx with
  | 0, _ => rfl
  | 1, _ => rfl
  | 2, _ => rfl
  | 3, _ => rfl
  | 4, _ => rfl
  | 5, _ => rfl
  | 6, _ => rfl
theorem aPi (e : At h (t + 1) s P pf pi O N L) {p : Nat} (hp0 : p < 20) : isO h 4 (t + 1 + 4 + p) = true := isO_of (a_p e hp0)
theorem R_same {S S' : Nat → Int32} (ir : IvR S nO c) (h : ∀ j, sO S' j 4 = sO S j 4) : IvR S' nO c := ⟨ir.1, fun j hj => by rw [h]; exact ir.2 j hj⟩
set_option maxRecDepth 100000 in
set_option maxHeartbeats 1000000 in
theorem cmd_spoil (v : Int32) : Cmd fX6_spoil fX7_spoil [.int v] := by
  intro h b L' xs t rl
  obtain ⟨g, R, SV, TX, T, AS, nh, nt, top, ⟨s, P, pf, pi, O, N, L, nS, nP, nO, c, at1, vw, iv, ir⟩, his, txt, fcs, md, g4, g6⟩ := rl
  have hnh := his_le his
  have hIs := his_is his
  obtain ⟨c0, c1, c2, c3, c4, c5⟩ := iv.1
  obtain ⟨q, q1, q2, q3⟩ := pl_both (R := R) at1 vw iv v
  cases q with
  | false =>
    refine close0 (v := -1) (g' := upd g 0 0) top at1 vw iv ir his txt fcs md g4 g6 ?_ (fun hm => ?_) (by simp [upd]) (by simp [upd])
    · simp [fX6_spoil, bX6_spoil, mI, sSeq, sIf, bNot, bZ, eCV, rF, rL, tp0 top, aI, eL, aN, aIs at1, q1, z_ne_bI, eC, zCut, sRi]
    · simp [fX7_spoil, bX7_spoil, mI, sSeq, sF, rL, eC, wMo0, sIf, bNot, bZ, eCV, aI, eL, aN, isMo, q2, z_ne_bI, zCut, sRi]
  | true =>
    obtain ⟨k, hk, rfl⟩ := q3 rfl
    have vp := vw.2.2.1 k hk
    have x2 := aPl at1 (p := k) (x := 2) (by omega) (by omega)
    rw [vp.2.2.1] at x2
    have o2 := fun (hm : zH) (g SV : Nat → Int32) => ofP2 (h := hM hm (t + 387) g R SV TX T AS) hM_1 (p := k) (by omega)
    by_cases hz : sP (R 1) k 2 = 0
    · have z0 : z_ne (sP (R 1) k 2) = false := by simp [z_ne, hz]
      obtain ⟨h1, r1, top1, at2, his1, txt1, fcs1, md1⟩ := both_rec top at1 vw iv ir his txt fcs md
      obtain ⟨v1, i1⟩ := spoil_view vw iv hk hz
      have e1 : (va_up R 1 (upd (R 1) (10 + 7 * k + 2) 3)) 1 = upd (R 1) (10 + 7 * k + 2) 3 := up_self _ _
      have pin := platesIn_view v1.2.2.1 3
      have s3 : s 3 = nI nP := by rw [vw.1.1, c1]
      have cl := X5_platesIn (h := h1) (lo := t + 1) (s := s) (P := va_up P k (upd (P k) 2 3)) (pf := pf) (pi := pi) (O := O) (N := N) (L := L) s3 c4 3
      have wp := wp2 (h := h1) (lo := t + 1) (s := s) (P := P) (pf := pf) (pi := pi) (O := O) (N := N) (L := L) (p := k) (by omega) 3
      rw [At_eq at2] at wp
      have tq : rdR (hS h1 (t + 1) s (va_up P k (upd (P k) 2 3)) pf pi O N L) 6 0 t = some (t + 1) := rdR_of (by rw [hS_ne (by omega)]; exact top1.2.2) rfl
      refine close1 (v := cnt (fun p => decide ((va_up P k (upd (P k) 2 3)) p 2 = 3)) nP) (g' := upd (upd g 0 0) 4 (nI (acN nh + 1))) (R' := va_up R 1 (upd (R 1) (10 + 7 * k + 2) 3)) (T' := T) (AS' := AS) top1 his1 txt1 fcs1 md1 (by rw [e1]; exact v1) (by rw [e1]; exact i1) (by rw [e1]; exact R_same ir (fun j => sO_upd (by omega))) (by rw [upd_self]) (by simp [upd, g6]) ?_ (fun hm => ?_)
      · simp [fX6_spoil, bX6_spoil, mI, sSeq, sIf, bNot, bZ, eCV, rF, rL, tp0 top, aI, eL, aN, aIs at1, q1, z_ne_bI, eC, zCut, sNop, sLr, rQ, aS0 at1, aQp at1 (show k < 20 by omega), zSt, eF, x2, z0, sCV, tp1 top, aR, hIs, r1, sF, wp, tq, isS, cl, sRi]
      · have ac := X7_act (h := hm) (m := t + 387) (g := upd g 0 0) (R := R) (SV := SV) (TX := TX) (T := T) (AS := AS) (nn := nh) (by rw [upd_ne (by omega)]; exact g4) hnh
        generalize hg' : upd (upd g 0 0) 4 (nI (acN nh + 1)) = g' at *
        generalize hV : acV SV (R 1) nh = V at *
        have st := X7_set (h := hm) (m := t + 387) (g := g') (R := R) (SV := V) (TX := TX) (T := T) (AS := AS) (j := k) (c := 2) (v := 3) (k := 2) (i := 1) (.inl rfl) (by omega) rfl (by omega)
        have pl := X7_platesIn (h := hM hm (t + 387) g' (va_up R 1 (upd (R 1) (10 + 7 * k + 2) 3)) V TX T AS) (nP := nP) (hM_r (i := 1) (.inl rfl)) (by rw [e1]; exact i1.1.2.1) c4 3
        rw [e1, ← pin] at pl
        simp [fX7_spoil, bX7_spoil, mI, sSeq, sF, rL, eC, wMo0, sIf, bNot, bZ, eCV, aI, eL, aN, isMo, q2, z_ne_bI, zCut, sNop, eCS, aR, rF, rMr1, o2, z0, sCV, ac, sCS, st, pl, sRi]
    · have z0 : z_ne (sP (R 1) k 2) = true := by simp [z_ne, hz]
      refine close0 (v := -2) (g' := upd g 0 0) top at1 vw iv ir his txt fcs md g4 g6 ?_ (fun hm => ?_) (by simp [upd]) (by simp [upd])
      · simp [fX6_spoil, bX6_spoil, mI, sSeq, sIf, bNot, bZ, eCV, rF, rL, tp0 top, aI, eL, aN, aIs at1, q1, z_ne_bI, eC, zCut, sNop, sLr, rQ, aS0 at1, aQp at1 (show k < 20 by omega), zSt, eF, x2, z0, sRi]
      · simp [fX7_spoil, bX7_spoil, mI, sSeq, sF, rL, eC, wMo0, sIf, bNot, bZ, eCV, aI, eL, aN, isMo, q2, z_ne_bI, zCut, sNop, eCS, aR, rF, rMr1, o2, z0, sRi]
end ZC2
