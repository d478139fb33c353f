/-! both sides: the loops of a forecast -/
theorem hS_ne {h : zH} {lo a : Nat} {s pf N : Nat → Int32} {P O L : Nat → Nat → Int32} {pi : Nat → Nat} (ha : a < lo ∨ lo + 54 ≤ a) : (hS h lo s P pf pi O N L).2 a = h.2 a := by
  simp only [hS]
  rw [if_neg (by omega), if_neg (by omega), if_neg (by omega), if_neg (by omega), if_neg (by omega), if_neg (by omega)]
theorem hp_hS {h : zH} {lo a : Nat} {y : zX} {s pf N : Nat → Int32} {P O L : Nat → Nat → Int32} {pi : Nat → Nat} (ha : a < lo ∨ lo + 54 ≤ a) : hp (hS h lo s P pf pi O N L) a y = hS (hp h a y) lo s P pf pi O N L := by
  refine pair_ext fun x => ?_
  by_cases e : x = a
  · subst e
    rw [va_up_self]
    have := hS_ne (h := hp h x y) (s := s) (P := P) (pf := pf) (pi := pi) (O := O) (N := N) (L := L) ha
    rw [hp_self] at this
    exact this.symm
  · rw [va_up_ne _ _ e]
    simp only [hS]
    (repeat' split) <;> first | rfl | exact (va_up_ne _ _ e).symm
def TgR (S : Nat → Int32) (nO : Nat) : Prop := ∀ k, k < nO → ∃ a, a < 10 ∧ sO S k 18 = nI a
abbrev fcCond : zEB := bAnd (bCmp o_lt (eL 4) (eC 10)) (bZ z_ne (eCV 5 (rF 0 0 (rL 0)) (aN) fX5_takesUpWork))
abbrev fcBody : zSS := sSeq (sSeq (sLi 3 (eOp (· + ·) (eL 3) (eF 5 9 (rF 0 0 (rL 0))))) (sSeq (sA (rF 0 1 (rL 0)) (eF 3 6 (rQ 3 (rF 5 2 (rF 0 0 (rL 0))) (eF 5 6 (rF 0 0 (rL 0))))) (eL 3)) (sCV 5 (rF 0 0 (rL 0)) (aN) fX5_finishOrder))) (sInc 4 1)
abbrev cFo (lo da : Nat) : zX := xO 0 [.ref lo, .ref da]
/-- a forecast: its object, its row, its copy -/
def Fo (h : zH) (fo da lo : Nat) : Prop := h.2 fo = some (cFo lo da) ∧ (fo < lo ∨ lo + 54 ≤ fo) ∧ (da < lo ∨ lo + 54 ≤ da) ∧ fo ≠ da
section ZFC
variable {S s pf N : Nat → Int32} {P O L : Nat → Nat → Int32} {pi : Nat → Nat} {nS nP nO c i : Nat}
theorem fo_0 {h : zH} {fo da lo : Nat} {D : Nat → Int32} (f : Fo h fo da lo) : rdR (hS (hp h da (xI 10 D)) lo s P pf pi O N L) 0 0 fo = some lo :=
  rdR_of (by rw [hS_ne f.2.1, hp_ne _ _ f.2.2.2, f.1]) rfl
theorem fo_1 {h : zH} {fo da lo : Nat} {D : Nat → Int32} (f : Fo h fo da lo) : rdR (hS (hp h da (xI 10 D)) lo s P pf pi O N L) 0 1 fo = some da :=
  rdR_of (by rw [hS_ne f.2.1, hp_ne _ _ f.2.2.2, f.1]) rfl
theorem fo_w {h : zH} {fo da lo j : Nat} {D : Nat → Int32} (f : Fo h fo da lo) (hj : j < 10) (v : Int32) : wrA (hS (hp h da (xI 10 D)) lo s P pf pi O N L) da (nI j) v = some (hS (hp h da (xI 10 (upd D j v))) lo s P pf pi O N L) := by
  rw [wrA_of (f := D) (n := 10) (by rw [hS_ne f.2.2.1, hp_self]) hj (by omega), hp_hS f.2.2.1, hp_hp]
/-- the minutes at which each tag is done (nO orders stand in the row) -/
def fcR (nP : Nat) : Nat → Int32 → (Nat → Int32) → Nat → (Nat → Int32) → (Nat → Int32)
  | 0, _, _, _, D => D
  | n + 1, t, S, nO, D => if opGo S nP nO 3 ≠ -9 then fcR nP n (t + opGo S nP nO 4) (finR (opGo S nP nO) nP nO) (nO - 1) (upd D (sO (opGo S nP nO) (opGo S nP nO 3).toNatClampNeg 18).toNatClampNeg (t + opGo S nP nO 4)) else D
set_option maxRecDepth 100000 in
theorem fc_turn {k p sd : Nat} (vw : Vw s P pf pi O N L S nS nP nO) (iv : Iv S nS nP nO) (ir : IvR S nO c) (a : AtW S nP nO k p sd) (tg : VTg pi O S nO) (tr : TgR S nO) (t : Int32) (D : Nat → Int32) (y : Nat) :
    ∃ s1 P1 pi1 c1, (∀ h fo da lo x mf, Fo h fo da lo → fcBody [.ref fo, x, .int mf, .int t, .int (nI y)] (hS (hp h da (xI 10 D)) lo s P pf pi O N L) = some (.inl ([.ref fo, x, .int mf, .int (t + S 4), .int (nI (y + 1))], hS (hp h da (xI 10 (upd D (sO S (S 3).toNatClampNeg 18).toNatClampNeg (t + S 4)))) lo s1 P1 pf pi1 O N L))) ∧
      Vw s1 P1 pf pi1 O N L (finR S nP nO) nS nP (nO - 1) ∧ Iv (finR S nP nO) nS nP (nO - 1) ∧ IvR (finR S nP nO) (nO - 1) c1 ∧ VTg pi1 O (finR S nP nO) (nO - 1) ∧ TgR (finR S nP nO) (nO - 1) := by
  obtain ⟨a3, ak, a5, ap, a6, asd, a2⟩ := id a
  have nO10 := iv.1.2.2.2.2.2
  have n9 : S 3 ≠ -9 := by rw [a3]; exact nI_ne9 (by omega)
  have s9 : s 9 = S 4 := by rw [vw.1.2.2.2.2.2.2.1, if_neg n9]
  have s6 : s 6 = nI k := by rw [vw.1.2.2.2.1, a3]
  obtain ⟨j, hj, ej⟩ := tr k ak
  have hpk := vw.2.1.1 k (by omega)
  have tk : O (pi k) 5 = nI j := by rw [tg k ak, ej]
  obtain ⟨s1, P1, pi1, c1, f1, f3, f4, f5, f6, f7, f8⟩ := fin_cl vw iv ir a
  rw [a3, nI_clamp (show k < 2 ^ 31 by omega), ej, nI_clamp (show j < 2 ^ 31 by omega)]
  refine ⟨s1, P1, pi1, c1, fun h fo da lo x mf f => ?_, f3, f4, f5, f7 tg, fun q hq => ?_⟩
  · have q := f1 (hp h da (xI 10 (upd D j (t + S 4)))) lo
    simp [sSeq, sLi, eOp, eL, eF, rF, rL, fo_0 f, rs9, s9, zSt, sA, fo_1 f, rQ, rS2, rs6, s6, qRw (show k < 10 by omega), ro6 hpk, tk, fo_w f hj, sCV, aN, isS, q, sInc, nI_1]
  · rw [f8, opTake_O ak hq (by omega)]
    exact tr _ (by split <;> omega)
/-- the loop of a forecast, to its end -/
theorem fore_loop : ∀ (n N1 : Nat) (s : Nat → Int32) (P : Nat → Nat → Int32) (pi : Nat → Nat) (S D : Nat → Int32) (c y : Nat) (t : Int32), y + n ≤ 10 → n + 2 ≤ N1 → Vw s P pf pi O N L S nS nP n → Iv S nS nP n → IvR S n c → VTg pi O S n → TgR S n →
    ∃ s1 P1 pi1 t1 y1, (∀ h fo da lo x mf, Fo h fo da lo → sW N1 fcCond fcBody [.ref fo, x, .int mf, .int t, .int (nI y)] (hS (hp h da (xI 10 D)) lo s P pf pi O N L) = some (.inl ([.ref fo, x, .int mf, .int t1, .int (nI y1)], hS (hp h da (xI 10 (fcR nP (n + 1) t S n D))) lo s1 P1 pf pi1 O N L))) ∧ PI pi1 := by
  have c0 : ∀ {s : Nat → Int32} {P : Nat → Nat → Int32} {pi : Nat → Nat} {D : Nat → Int32} {y : Nat} {h : zH} {fo da lo : Nat} {x : Value} {mf : Int32} {t : Int32}, Fo h fo da lo → 10 ≤ y → y < 100 → fcCond [.ref fo, x, .int mf, .int t, .int (nI y)] (hS (hp h da (xI 10 D)) lo s P pf pi O N L) = some (false, hS (hp h da (xI 10 D)) lo s P pf pi O N L) := fun {s P pi D y h fo da lo x mf t} f hy hy2 => by
    have hc : o_lt (nI y) 10 = false := by
      simp only [o_lt, show (10 : Int32) = nI 10 from rfl, nI_ltI (show y < 2 ^ 31 by omega) (show 10 < 2 ^ 31 by omega)]
      exact decide_eq_false (by omega)
    simp [bAnd, bCmp, eL, eC, hc]
  have c1 : ∀ {s s1 : Nat → Int32} {P P1 : Nat → Nat → Int32} {pi : Nat → Nat} {D : Nat → Int32} {y : Nat} {h : zH} {fo da lo : Nat} {x : Value} {mf : Int32} {t v : Int32}, Fo h fo da lo → y < 10 → fX5_takesUpWork [.ref lo] (hS (hp h da (xI 10 D)) lo s P pf pi O N L) = some (v, hS (hp h da (xI 10 D)) lo s1 P1 pf pi O N L) → fcCond [.ref fo, x, .int mf, .int t, .int (nI y)] (hS (hp h da (xI 10 D)) lo s P pf pi O N L) = some (z_ne v, hS (hp h da (xI 10 D)) lo s1 P1 pf pi O N L) := fun {s s1 P P1 pi D y h fo da lo x mf t v} f hy q => by
    have hc : o_lt (nI y) 10 = true := by
      simp only [o_lt, show (10 : Int32) = nI 10 from rfl, nI_ltI (show y < 2 ^ 31 by omega) (show 10 < 2 ^ 31 by omega)]
      exact decide_eq_true hy
    simp [bAnd, bCmp, eL, eC, hc, bZ, eCV, rF, rL, fo_0 f, aN, isS, q]
  intro n
  induction n with
  | zero =>
    intro N1 s P pi S D c y t hy h1 vw iv ir tg tr
    obtain ⟨N1, rfl⟩ : ∃ k, N1 = k + 1 := ⟨N1 - 1, by omega⟩
    obtain ⟨s1, P1, q1, q2, q3⟩ := tk_cl vw iv
    have hz : ¬ opGo S nP 0 3 ≠ -9 := fun e => by
      obtain ⟨k, p, sd, a⟩ := IvW_at q3 e
      exact absurd a.2.1 (by omega)
    rw [decide_eq_false hz] at q1
    have ew : fcR nP 1 t S 0 D = D := by simp only [fcR]; rw [if_neg hz]
    rw [ew]
    by_cases hy10 : y < 10
    · exact ⟨s1, P1, pi, t, y, fun h fo da lo x mf f => sW_stop (by rw [c1 f hy10 (q1 _ lo)]; rfl), vw.2.1⟩
    · exact ⟨s, P, pi, t, y, fun h fo da lo x mf f => sW_stop (c0 f (by omega) (by omega)), vw.2.1⟩
  | succ n ih =>
    intro N1 s P pi S D c y t hy h1 vw iv ir tg tr
    obtain ⟨N1, rfl⟩ : ∃ k, N1 = k + 1 := ⟨N1 - 1, by omega⟩
    obtain ⟨s1, P1, q1, q2, q3⟩ := tk_cl vw iv
    have ir1 := R_go iv ir
    have qO : ∀ j x, sO (opGo S nP (n + 1)) j x = sO S j x := fun j x => opGo_k iv (by omega)
    by_cases hz : opGo S nP (n + 1) 3 ≠ -9
    · rw [decide_eq_true hz] at q1
      obtain ⟨k, p, sd, a⟩ := IvW_at q3 hz
      have tg1 : VTg pi O (opGo S nP (n + 1)) (n + 1) := fun j hj => by rw [qO]; exact tg j hj
      have tr1 : TgR (opGo S nP (n + 1)) (n + 1) := fun j hj => by rw [qO]; exact tr j hj
      obtain ⟨s2, P2, pi2, c2, b1, v2, i2, r2, g2, k2⟩ := fc_turn q2 q3 ir1 a tg1 tr1 t D y
      simp only [Nat.add_sub_cancel] at v2 i2 r2 g2 k2
      have ew : fcR nP (n + 1 + 1) t S (n + 1) D = fcR nP (n + 1) (t + opGo S nP (n + 1) 4) (finR (opGo S nP (n + 1)) nP (n + 1)) n (upd D (sO (opGo S nP (n + 1)) (opGo S nP (n + 1) 3).toNatClampNeg 18).toNatClampNeg (t + opGo S nP (n + 1) 4)) := by
        rw [fcR, if_pos hz, Nat.add_sub_cancel]
      rw [ew]
      obtain ⟨s3, P3, pi3, t3, y3, u1, u5⟩ := ih N1 s2 P2 pi2 _ (upd D (sO (opGo S nP (n + 1)) (opGo S nP (n + 1) 3).toNatClampNeg 18).toNatClampNeg (t + opGo S nP (n + 1) 4)) c2 (y + 1) (t + opGo S nP (n + 1) 4) (by omega) (by omega) v2 i2 r2 g2 k2
      refine ⟨s3, P3, pi3, t3, y3, fun h fo da lo x mf f => ?_, u5⟩
      rw [sW_turn (by rw [c1 f (by omega) (q1 _ lo)]; rfl) (b1 h fo da lo x mf f) rfl]
      exact u1 h fo da lo x mf f
    · rw [decide_eq_false hz] at q1
      have ew : fcR nP (n + 1 + 1) t S (n + 1) D = D := by rw [fcR, if_neg hz]
      rw [ew]
      exact ⟨s1, P1, pi, t, y, fun h fo da lo x mf f => sW_stop (by rw [c1 f (by omega) (q1 _ lo)]; rfl), vw.2.1⟩
end ZFC
