/-! both sides: the loops of a forecast -/
theorem hS_ne {h : zH} {lo a : Nat} {s pf N : Nat → Int32} {P O L : Nat → Nat → Int32} {pi : Nat → Nat} (ha : a < lo ∨ lo + 54 ≤ a) : (hS h lo s P pf pi O N L).2 a = h.2 a := by
  simp only [hS]
  rw [if_neg (by omega), if_neg (by omega), if_neg (by omega), if_neg (by omega), if_neg (by omega), if_neg (by omega)]
theorem hp_hS {h : zH} {lo a : Nat} {y : zX} {s pf N : Nat → Int32} {P O L : Nat → Nat → Int32} {pi : Nat → Nat} (ha : a < lo ∨ lo + 54 ≤ a) : hp (hS h lo s P pf pi O N L) a y = hS (hp h a y) lo s P pf pi O N L := by
  refine pair_ext fun x => ?_
  by_cases e : x = a
  · subst e
    rw [va_up_self]
    have := hS_ne (h := hp h x y) (s := s) (P := P) (pf := pf) (pi := pi) (O := O) (N := N) (L := L) ha
    rw [hp_self] at this
    exact this.symm
  · rw [va_up_ne _ _ e]
    simp only [hS]
    (repeat' split) <;> first | rfl | exact (va_up_ne _ _ e).symm
def TgR (S : Nat → Int32) (nO : Nat) : Prop := ∀ k, k < nO → ∃ a, a < 10 ∧ sO S k 18 = nI a
abbrev fcCond : zEB := bAnd (bCmp o_lt (eL 4) (eC 10)) (bZ z_ne (eCV 5 (rF 0 0 (rL 0)) (aN) fX5_takesUpWork))
abbrev fcBody : zSS := sSeq (sSeq (sLi 3 (eOp (· + ·) (eL 3) (eF 5 9 (rF 0 0 (rL 0))))) (sSeq (sA (rF 0 1 (rL 0)) (eF 3 6 (rQ 3 (rF 5 2 (rF 0 0 (rL 0))) (eF 5 6 (rF 0 0 (rL 0))))) (eL 3)) (sCV 5 (rF 0 0 (rL 0)) (aN) fX5_finishOrder))) (sInc 4 1)
abbrev woCond : zEB := bZ z_ne (eCV 7 (rL 0) (aR (rF 7 2 (rL 0)) (aN)) fX7_goesOn)
abbrev woBody : zSS := sSeq (sLi 2 (eOp (· + ·) (eL 2) (eA (rF 7 2 (rL 0)) (eC 4)))) (sSeq (sA (rL 1) (eCS (aR (rF 7 2 (rL 0)) (aI (eA (rF 7 2 (rL 0)) (eC 3)) (aI (eC 18) (aN)))) fX7_of) (eL 2)) (sCV 7 (rL 0) (aR (rF 7 2 (rL 0)) (aN)) fX7_finish))
abbrev cFo (lo da : Nat) : zX := xO 0 [.ref lo, .ref da]
/-- a forecast: its object, its row, its copy -/
def Fo (h : zH) (fo da lo : Nat) : Prop := h.2 fo = some (cFo lo da) ∧ (fo < lo ∨ lo + 54 ≤ fo) ∧ (da < lo ∨ lo + 54 ≤ da) ∧ fo ≠ da
section ZFC
variable {S s pf N g SV TX AS : Nat → Int32} {P O L R T : Nat → Nat → Int32} {pi : Nat → Nat} {nS nP nO c i : Nat}
theorem fo_0 {h : zH} {fo da lo : Nat} {D : Nat → Int32} (f : Fo h fo da lo) : rdR (hS (hp h da (xI 10 D)) lo s P pf pi O N L) 0 0 fo = some lo :=
  rdR_of (by rw [hS_ne f.2.1, hp_ne _ _ f.2.2.2, f.1]) rfl
theorem fo_1 {h : zH} {fo da lo : Nat} {D : Nat → Int32} (f : Fo h fo da lo) : rdR (hS (hp h da (xI 10 D)) lo s P pf pi O N L) 0 1 fo = some da :=
  rdR_of (by rw [hS_ne f.2.1, hp_ne _ _ f.2.2.2, f.1]) rfl
theorem fo_w {h : zH} {fo da lo j : Nat} {D : Nat → Int32} (f : Fo h fo da lo) (hj : j < 10) (v : Int32) : wrA (hS (hp h da (xI 10 D)) lo s P pf pi O N L) da (nI j) v = some (hS (hp h da (xI 10 (upd D j v))) lo s P pf pi O N L) := by
  rw [wrA_of (f := D) (n := 10) (by rw [hS_ne f.2.2.1, hp_self]) hj (by omega), hp_hS f.2.2.1, hp_hp]
set_option maxRecDepth 100000 in
theorem fc_turn {k p sd : Nat} (hi : i = 5 ∨ i = 6) (vw : Vw s P pf pi O N L (R 2) nS nP nO) (iv : Iv (R 2) nS nP nO) (ir : IvR (R 2) nO c) (a : AtW (R 2) nP nO k p sd) (tg : VTg pi O (R 2) nO) (tr : TgR (R 2) nO) (t : Int32) (D : Nat → Int32) (y : Nat) :
    ∃ s1 P1 pi1 S1 A1 c1 j t1, j < 10 ∧ (∀ h fo da lo x mf, Fo h fo da lo → fcBody [.ref fo, x, mf, .int t, .int (nI y)] (hS (hp h da (xI 10 D)) lo s P pf pi O N L) = some (.inl ([.ref fo, x, mf, .int t1, .int (nI (y + 1))], hS (hp h da (xI 10 (upd D j t1))) lo s1 P1 pf pi1 O N L))) ∧
      (∀ hm m, woBody [.ref m, .ref (m + i), .int t] (hM hm m g R SV TX T AS) = some (.inl ([.ref m, .ref (m + i), .int t1], hM hm m g (va_up R 2 S1) SV TX (va_up T i (upd (T i) j t1)) A1))) ∧
      Vw s1 P1 pf pi1 O N L S1 nS nP (nO - 1) ∧ Iv S1 nS nP (nO - 1) ∧ IvR S1 (nO - 1) c1 ∧ VTg pi1 O S1 (nO - 1) ∧ TgR S1 (nO - 1) := by
  obtain ⟨a3, ak, a5, ap, a6, asd, a2⟩ := id a
  have nO10 := iv.1.2.2.2.2.2
  have n9 : R 2 3 ≠ -9 := by rw [a3]; exact nI_ne9 (by omega)
  have s9 : s 9 = R 2 4 := by rw [vw.1.2.2.2.2.2.2.1, if_neg n9]
  have s6 : s 6 = nI k := by rw [vw.1.2.2.2.1, a3]
  obtain ⟨j, hj, ej⟩ := tr k ak
  have hpk := vw.2.1.1 k (by omega)
  have tk : O (pi k) 5 = nI j := by rw [tg k ak, ej]
  obtain ⟨s1, P1, pi1, S1, A1, c1, f1, f2, f3, f4, f5, f6, f7, f8⟩ := fin_rel (R := R) (i := 2) (g := g) (SV := SV) (TX := TX) (T := va_up T i (upd (T i) j (t + R 2 4))) (AS := AS) (.inr rfl) vw iv ir a
  refine ⟨s1, P1, pi1, S1, A1, c1, j, t + R 2 4, hj, fun h fo da lo x mf f => ?_, fun hm m => ?_, f3, f4, f5, f7 tg, fun q hq => ?_⟩
  · have q := f1 (hp h da (xI 10 (upd D j (t + R 2 4)))) lo
    simp [sSeq, sLi, eOp, eL, eF, rF, rL, fo_0 f, rs9, s9, zSt, sA, fo_1 f, rQ, rS2, rs6, s6, qRw (show k < 10 by omega), ro6 hpk, tk, fo_w f hj, sCV, aN, isS, q, sInc, nI_1]
  · have q := f2 hm m
    have r3 := hd3 (h := hM hm m g R SV TX T AS) (hM_r (i := 2) (.inr rfl))
    have r4 := hd4 (h := hM hm m g R SV TX T AS) (hM_r (i := 2) (.inr rfl))
    have r18 := ofO18 (h := hM hm m g R SV TX T AS) (hM_r (i := 2) (.inr rfl)) (show k < 10 by omega)
    rw [ej] at r18
    have w := wrA_of (v := t + R 2 4) (hM_t (h := hm) (m := m) (g := g) (R := R) (SV := SV) (TX := TX) (T := T) (AS := AS) hi) hj (by omega)
    rw [wM_t hi] at w
    simp [sSeq, sLi, eOp, eL, eA, rF, rL, rMr2, eC, r4, zSt, sA, eCS, aR, aI, aN, r3, a3, r18, w, sCV, isMo, q]
  · obtain ⟨q', hq', e⟩ := f8 q hq
    rw [e]
    exact tr q' hq'
/-- both loops of a forecast, to their ends -/
theorem fore_loop (hi : i = 5 ∨ i = 6) : ∀ (n N1 N2 : Nat) (s : Nat → Int32) (P : Nat → Nat → Int32) (pi : Nat → Nat) (R T : Nat → Nat → Int32) (g AS D : Nat → Int32) (c y : Nat) (t : Int32), y + n ≤ 10 → n + 2 ≤ N1 → n + 2 ≤ N2 → (∀ j, j < 10 → D j = T i j) → Vw s P pf pi O N L (R 2) nS nP n → Iv (R 2) nS nP n → IvR (R 2) n c → VTg pi O (R 2) n → TgR (R 2) n →
    ∃ s1 P1 pi1 S1 D1 g1 A1 T1 t1 y1, (∀ h fo da lo x mf, Fo h fo da lo → sW N1 fcCond fcBody [.ref fo, x, mf, .int t, .int (nI y)] (hS (hp h da (xI 10 D)) lo s P pf pi O N L) = some (.inl ([.ref fo, x, mf, .int t1, .int (nI y1)], hS (hp h da (xI 10 D1)) lo s1 P1 pf pi1 O N L))) ∧
      (∀ hm m, sW N2 woCond woBody [.ref m, .ref (m + i), .int t] (hM hm m g R SV TX T AS) = some (.inl ([.ref m, .ref (m + i), .int t1], hM hm m g1 (va_up R 2 S1) SV TX (va_up T i T1) A1))) ∧
      (∀ j, j < 10 → D1 j = T1 j) ∧ PI pi1 ∧ (∀ x, x ≠ 7 → x ≠ 8 → x ≠ 9 → g1 x = g x) := by
  have c0 : ∀ {s : Nat → Int32} {P : Nat → Nat → Int32} {pi : Nat → Nat} {D : Nat → Int32} {y : Nat} {h : zH} {fo da lo : Nat} {x mf : Value} {t : Int32}, Fo h fo da lo → 10 ≤ y → y < 100 → fcCond [.ref fo, x, mf, .int t, .int (nI y)] (hS (hp h da (xI 10 D)) lo s P pf pi O N L) = some (false, hS (hp h da (xI 10 D)) lo s P pf pi O N L) := fun {s P pi D y h fo da lo x mf t} f hy hy2 => by
    have hc : o_lt (nI y) 10 = false := by
      simp only [o_lt, show (10 : Int32) = nI 10 from rfl, nI_ltI (show y < 2 ^ 31 by omega) (show 10 < 2 ^ 31 by omega)]
      exact decide_eq_false (by omega)
    simp [bAnd, bCmp, eL, eC, hc]
  have c1 : ∀ {s s1 : Nat → Int32} {P P1 : Nat → Nat → Int32} {pi : Nat → Nat} {D : Nat → Int32} {y : Nat} {h : zH} {fo da lo : Nat} {x mf : Value} {t v : Int32}, Fo h fo da lo → y < 10 → fX5_takesUpWork [.ref lo] (hS (hp h da (xI 10 D)) lo s P pf pi O N L) = some (v, hS (hp h da (xI 10 D)) lo s1 P1 pf pi O N L) → fcCond [.ref fo, x, mf, .int t, .int (nI y)] (hS (hp h da (xI 10 D)) lo s P pf pi O N L) = some (z_ne v, hS (hp h da (xI 10 D)) lo s1 P1 pf pi O N L) := fun {s s1 P P1 pi D y h fo da lo x mf t v} f hy q => by
    have hc : o_lt (nI y) 10 = true := by
      simp only [o_lt, show (10 : Int32) = nI 10 from rfl, nI_ltI (show y < 2 ^ 31 by omega) (show 10 < 2 ^ 31 by omega)]
      exact decide_eq_true hy
    simp [bAnd, bCmp, eL, eC, hc, bZ, eCV, rF, rL, fo_0 f, aN, isS, q]
  have w1 : ∀ {R R1 T : Nat → Nat → Int32} {g g1 AS : Nat → Int32} {t v : Int32} {hm : zH} {m : Nat}, fX7_goesOn [.ref m, .ref (m + 2)] (hM hm m g R SV TX T AS) = some (v, hM hm m g1 R1 SV TX T AS) → woCond [.ref m, .ref (m + i), .int t] (hM hm m g R SV TX T AS) = some (z_ne v, hM hm m g1 R1 SV TX T AS) := fun {R R1 T g g1 AS t v hm m} q => by
    simp [bZ, eCV, rL, aR, rF, rMr2, aN, isMo, q]
  intro n
  induction n with
  | zero =>
    intro N1 N2 s P pi R T g AS D c y t hy h1 h2 hD vw iv ir tg tr
    obtain ⟨N1, rfl⟩ : ∃ k, N1 = k + 1 := ⟨N1 - 1, by omega⟩
    obtain ⟨N2, rfl⟩ : ∃ k, N2 = k + 1 := ⟨N2 - 1, by omega⟩
    rcases tk_rel (i := 2) (R := R) (g := g) (SV := SV) (TX := TX) (T := T) (AS := AS) (.inr rfl) vw iv with ⟨s1, P1, S1, g1, k, p, sd, -, -, -, -, a, -⟩ | ⟨g1, q1, q2, q3⟩
    · exact absurd a.2.1 (by omega)
    · refine ⟨s, P, pi, R 2, D, g1, AS, T i, t, y, fun h fo da lo x mf f => ?_, fun hm m => ?_, hD, vw.2.1, q3⟩
      · by_cases hy10 : y < 10
        · exact sW_stop (c1 f hy10 (q1 _ lo))
        · exact sW_stop (c0 f (by omega) (by omega))
      · rw [up_id, up_id]
        exact sW_stop (w1 (q2 hm m))
  | succ n ih =>
    intro N1 N2 s P pi R T g AS D c y t hy h1 h2 hD vw iv ir tg tr
    obtain ⟨N1, rfl⟩ : ∃ k, N1 = k + 1 := ⟨N1 - 1, by omega⟩
    obtain ⟨N2, rfl⟩ : ∃ k, N2 = k + 1 := ⟨N2 - 1, by omega⟩
    rcases tk_rel (i := 2) (R := R) (g := g) (SV := SV) (TX := TX) (T := T) (AS := AS) (.inr rfl) vw iv with ⟨s1, P1, S1, g1, k, p, sd, q1, q2, v1, i1, a1, q3, q7, qO⟩ | ⟨g1, q1, q2, q3⟩
    · have e1 : (va_up R 2 S1) 2 = S1 := up_self _ _
      have ir1 : IvR S1 (n + 1) c := ⟨ir.1, fun j hj => by rw [qO]; exact ir.2 j hj⟩
      have tg1 : VTg pi O S1 (n + 1) := fun j hj => by rw [qO]; exact tg j hj
      have tr1 : TgR S1 (n + 1) := fun j hj => by rw [qO]; exact tr j hj
      obtain ⟨s2, P2, pi2, S2, A2, c2, j, t2, hj, b1, b2, v2, i2, r2, g2, k2⟩ := fc_turn (R := va_up R 2 S1) (g := g1) (SV := SV) (TX := TX) (T := T) (AS := AS) (k := k) (p := p) (sd := sd) (c := c) hi (by rw [e1]; exact v1) (by rw [e1]; exact i1) (by rw [e1]; exact ir1) (by rw [e1]; exact a1) (by rw [e1]; exact tg1) (by rw [e1]; exact tr1) t D y
      simp only [up_up] at b2
      simp only [Nat.add_sub_cancel] at v2 i2 r2 g2 k2
      have e2 : (va_up R 2 S2) 2 = S2 := up_self _ _
      have e3 : (va_up T i (upd (T i) j t2)) i = upd (T i) j t2 := up_self _ _
      obtain ⟨s3, P3, pi3, S3, D3, g3, A3, T3, t3, y3, u1, u2, u3, u5, u4⟩ := ih N1 N2 s2 P2 pi2 (va_up R 2 S2) (va_up T i (upd (T i) j t2)) g1 A2 (upd D j t2) c2 (y + 1) t2 (by omega) (by omega) (by omega) (fun x hx => by
        rw [e3]
        by_cases e : x = j
        · rw [e, upd_self, upd_self]
        · rw [upd_ne e, upd_ne e]; exact hD x hx) (by rw [e2]; exact v2) (by rw [e2]; exact i2) (by rw [e2]; exact r2) (by rw [e2]; exact g2) (by rw [e2]; exact k2)
      simp only [up_up] at u2
      refine ⟨s3, P3, pi3, S3, D3, g3, A3, T3, t3, y3, fun h fo da lo x mf f => ?_, fun hm m => ?_, u3, u5, fun x a b d => by rw [u4 x a b d, q3 x a b d]⟩
      · rw [sW_turn (c1 f (by omega) (q1 _ lo)) (b1 h fo da lo x mf f) rfl]
        exact u1 h fo da lo x mf f
      · rw [sW_turn (w1 (q2 hm m)) (b2 hm m) rfl]
        exact u2 hm m
    · refine ⟨s, P, pi, R 2, D, g1, AS, T i, t, y, fun h fo da lo x mf f => ?_, fun hm m => ?_, hD, vw.2.1, q3⟩
      · exact sW_stop (c1 f (by omega) (q1 _ lo))
      · rw [up_id, up_id]
        exact sW_stop (w1 (q2 hm m))
end ZFC
