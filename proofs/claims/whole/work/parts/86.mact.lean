/-! the reference: act, try, hurry -/
def shA (V : Nat → Int32) (n : Nat) : Nat → Int32 := fun x => if x < n then V (x + 343) else V x
theorem shA_s {V : Nat → Int32} {n : Nat} : upd (shA V n) n (V (n + 343)) = shA V (n + 1) := by
  funext x
  simp only [upd, shA]
  by_cases h : x = n
  · rw [if_pos h, if_pos (by omega), h]
  · rw [if_neg h]
    by_cases h2 : x < n
    · rw [if_pos h2, if_pos (by omega)]
    · rw [if_neg h2, if_neg (by omega)]
theorem shA_0 {V : Nat → Int32} : shA V 0 = V := by funext x; simp [shA]
theorem putA_0 {V A : Nat → Int32} {a : Nat} : putA V a A 0 = V := by
  funext x
  simp only [putA]
  rw [if_neg (by omega)]
def acN (n : Nat) : Nat := if n = 5 then 4 else n
def acV (V S : Nat → Int32) (n : Nat) : Nat → Int32 := if n = 5 then putA (shA V 1372) 1372 S 343 else putA V (343 * n) S 343
def tgS (W : Nat → Int32) : Nat → (Nat → Int32)
  | 0 => W
  | n + 1 => upd (tgS W n) (153 + 19 * n + 18) (nI n)
theorem tgS_hd {W : Nat → Int32} {x : Nat} (hx : x < 153) : ∀ n, tgS W n x = W x
  | 0 => rfl
  | n + 1 => by simp only [tgS]; rw [upd_ne (by omega), tgS_hd hx n]
theorem tgS_O {W : Nat → Int32} {j x : Nat} (hx : x < 19) : ∀ n, sO (tgS W n) j x = if x = 18 ∧ j < n then nI j else sO W j x
  | 0 => by simp only [tgS]; rw [if_neg (by omega)]
  | n + 1 => by
    have ih := tgS_O (W := W) (j := j) hx n
    simp only [sO] at ih ⊢
    simp only [tgS, upd]
    by_cases e : x = 18 ∧ j = n
    · rw [if_pos (by omega), if_pos (by omega), e.2]
    · rw [if_neg (by omega), ih]
      by_cases h : x = 18 ∧ j < n
      · rw [if_pos h, if_pos (by omega)]
      · rw [if_neg h, if_neg (by omega)]
section ZMA
variable {h : zH} {m i j n : Nat} {g SV TX AS : Nat → Int32} {R T : Nat → Nat → Int32}
theorem act_fill {nn : Nat} (hg : g 4 = nI nn) (hn : nn < 5) : sW 4000 (bCmp o_lt (eL 1) (eC 343)) (sSeq (sA (rF 7 3 (rL 0)) (eOp (· + ·) (eOp (· * ·) (eC 343) (eF 7 4 (rL 0))) (eL 1)) (eA (rF 7 1 (rL 0)) (eL 1))) (sInc 1 1)) [.ref m, .int 0] (hM h m g R SV TX T AS) = some (.inl ([.ref m, .int (nI 343)], hM h m g R (putA SV (343 * nn) (R 1) 343) TX T AS)) := by
  have L := sW_run (c := bCmp o_lt (eL 1) (eC 343)) (f := sSeq (sA (rF 7 3 (rL 0)) (eOp (· + ·) (eOp (· * ·) (eC 343) (eF 7 4 (rL 0))) (eL 1)) (eA (rF 7 1 (rL 0)) (eL 1))) (sInc 1 1)) (fun y => ([.ref m, .int (nI y)], hM h m g R (putA SV (343 * nn) (R 1) y) TX T AS)) 343 343 4000 0 (by omega) (by omega) (by omega)
    (fun y g1 g2 => by simp [bCmp, eL, eC, show (343 : Int32) = nI 343 from rfl, o_lt_nI (a := y) (b := 343) (by omega) (by omega)])
    (fun y g1 g2 => by
      have a1 := rdA_of (h := hM h m g R (putA SV (343 * nn) (R 1) y) TX T AS) (hM_r (i := 1) (.inl rfl)) g2 (by omega)
      have w1 := wrA_of (h := hM h m g R (putA SV (343 * nn) (R 1) y) TX T AS) (v := R 1 y) hM_3 (show 343 * nn + y < 1715 by omega) (by omega)
      rw [wM_3, putA_s] at w1
      have e : (343 : Int32) * nI nn + nI y = nI (343 * nn + y) := by rw [show (343 : Int32) = nI 343 from rfl, nI_mul, nI_add]
      simp [sSeq, sA, rF, rL, rMr3, eOp, eC, eF, rMo4, hg, eL, e, eA, rMr1, a1, w1, sInc, zSt, nI_1, zCut])
  simpa [nI_0, putA_0] using L
set_option maxRecDepth 100000 in
theorem X7_act {nn : Nat} (hg : g 4 = nI nn) (hn : nn ≤ 5) : fX7_act [.ref m] (hM h m g R SV TX T AS) = some (hM h m (upd g 4 (nI (acN nn + 1))) R (acV SV (R 1) nn) TX T AS) := by
  by_cases h5 : nn = 5
  · subst h5
    have L := sW_run (c := bCmp o_lt (eL 1) (eC 1372)) (f := sSeq (sA (rF 7 3 (rL 0)) (eL 1) (eA (rF 7 3 (rL 0)) (eOp (· + ·) (eL 1) (eC 343)))) (sInc 1 1)) (fun y => ([.ref m, .int (nI y)], hM h m g R (shA SV y) TX T AS)) 1372 1372 4000 0 (by omega) (by omega) (by omega)
      (fun y g1 g2 => by simp [bCmp, eL, eC, show (1372 : Int32) = nI 1372 from rfl, o_lt_nI (a := y) (b := 1372) (by omega) (by omega)])
      (fun y g1 g2 => by
        have a1 := rdA_of (h := hM h m g R (shA SV y) TX T AS) hM_3 (show y + 343 < 1715 by omega) (by omega)
        rw [show shA SV y (y + 343) = SV (y + 343) by simp only [shA]; rw [if_neg (by omega)]] at a1
        have w1 := wrA_of (h := hM h m g R (shA SV y) TX T AS) (v := SV (y + 343)) hM_3 (show y < 1715 by omega) (by omega)
        rw [wM_3, shA_s] at w1
        have e : nI y + 343 = nI (y + 343) := by rw [show (343 : Int32) = nI 343 from rfl, nI_add]
        simp [sSeq, sA, rF, rL, rMr3, eOp, eC, eL, e, eA, a1, w1, sInc, zSt, nI_1, zCut])
    simp [nI_0, shA_0] at L
    have F := act_fill (h := h) (m := m) (g := upd g 4 4) (R := R) (SV := shA SV 1372) (TX := TX) (T := T) (AS := AS) (nn := 4) upd_self (by omega)
    have e5 : (nI 5 : Int32) - 1 = 4 := rfl
    have eg : upd (upd g 4 4) 4 5 = upd g 4 5 := by
      funext x
      simp only [upd]
      split <;> rfl
    simp [fX7_act, bX7_act, mV, sSeq, sIf, bCmp, eF, rL, rMo4, hg, eC, o_eq, show (nI 5 : Int32) = 5 from rfl, sBlk, sLi, zSt, L, zCut, sFa, show (5 : Int32) - 1 = 4 from rfl, wMo4, F, upd_self, show (4 : Int32) + 1 = 5 from rfl, eg, sRv, acN, acV]
  · have F := act_fill (h := h) (m := m) (g := g) (R := R) (SV := SV) (TX := TX) (T := T) (AS := AS) (nn := nn) hg (by omega)
    have ne : ¬ nI nn = 5 := fun e => h5 ((nI_eqI (by omega) (by omega)).mp (e.trans (show (5 : Int32) = nI 5 from rfl)))
    simp [fX7_act, bX7_act, mV, sSeq, sIf, bCmp, eF, rL, rMo4, hg, eC, o_eq, ne, sNop, zCut, sBlk, sLi, zSt, F, sFa, wMo4, nI_1, sRv, acN, acV, h5]
set_option maxRecDepth 100000 in
theorem X7_tryNow {nO : Nat} (h2 : R 1 2 = nI nO) (hn : nO ≤ 10) : fX7_tryNow [.ref m] (hM h m g R SV TX T AS) = some (hM h m g (va_up R 2 (tgS (cpTo (R 2) (R 1) 343) nO)) SV TX T AS) := by
  have L1 := sW_run (c := bCmp o_lt (eL 1) (eC 343)) (f := sSeq (sA (rF 7 2 (rL 0)) (eL 1) (eA (rF 7 1 (rL 0)) (eL 1))) (sInc 1 1)) (fun y => ([.ref m, .int (nI y)], hM h m g (va_up R 2 (cpTo (R 2) (R 1) y)) SV TX T AS)) 343 343 4000 0 (by omega) (by omega) (by omega)
    (fun y g1 g2 => by simp [bCmp, eL, eC, show (343 : Int32) = nI 343 from rfl, o_lt_nI (a := y) (b := 343) (by omega) (by omega)])
    (fun y g1 g2 => by
      have a1 := rdA_of (h := hM h m g (va_up R 2 (cpTo (R 2) (R 1) y)) SV TX T AS) (hM_r (i := 1) (.inl rfl)) g2 (by omega)
      rw [va_up_ne _ _ (show 1 ≠ 2 by omega)] at a1
      have w1 := wrA_of (h := hM h m g (va_up R 2 (cpTo (R 2) (R 1) y)) SV TX T AS) (v := R 1 y) (hM_r (i := 2) (.inr rfl)) g2 (by omega)
      rw [wM_r (.inr rfl), up_up, up_self, cpTo_s] at w1
      simp [sSeq, sA, rF, rL, rMr2, eL, eA, rMr1, a1, w1, sInc, zSt, nI_1, zCut])
  have e0 : hM h m g (va_up R 2 (cpTo (R 2) (R 1) 0)) SV TX T AS = hM h m g R SV TX T AS := by rw [cpTo_0, up_id]
  simp only [e0, nI_0] at L1
  generalize hW : cpTo (R 2) (R 1) 343 = W at *
  have hW2 : W 2 = nI nO := by rw [← hW]; simp only [cpTo]; rw [if_pos (by omega), h2]
  have L2 := sW_run (c := bCmp o_lt (eL 1) (eA (rF 7 2 (rL 0)) (eC 2))) (f := sSeq (sA (rF 7 2 (rL 0)) (eOp (· + ·) (eOp (· + ·) (eC 153) (eOp (· * ·) (eC 19) (eL 1))) (eC 18)) (eL 1)) (sInc 1 1)) (fun y => ([.ref m, .int (nI y)], hM h m g (va_up R 2 (tgS W y)) SV TX T AS)) nO nO 4000 0 (by omega) (by omega) (by omega)
    (fun y g1 g2 => by
      have a2 := hd2 (h := hM h m g (va_up R 2 (tgS W y)) SV TX T AS) (hM_r (i := 2) (.inr rfl))
      rw [up_self, tgS_hd (by omega), hW2] at a2
      simp [bCmp, eL, eC, eA, rF, rL, rMr2, a2, o_lt_nI (a := y) (b := nO) (by omega) (by omega)])
    (fun y g1 g2 => by
      have w1 := wrA_of (h := hM h m g (va_up R 2 (tgS W y)) SV TX T AS) (v := nI y) (hM_r (i := 2) (.inr rfl)) (show 153 + 19 * y + 18 < 343 by omega) (by omega)
      rw [wM_r (.inr rfl), up_up, up_self] at w1
      have e : (153 : Int32) + 19 * nI y + 18 = nI (153 + 19 * y + 18) := by rw [show (18 : Int32) = nI 18 from rfl, ixO]
      simp [sSeq, sA, rF, rL, rMr2, eOp, eC, eL, e, w1, sInc, zSt, nI_1, zCut, tgS])
  simp only [nI_0, tgS] at L2
  simp [fX7_tryNow, bX7_tryNow, mV, sSeq, sBlk, sLi, eC, zSt, L1, zCut, L2, sRv]
theorem wo_init (hi : i = 5 ∨ i = 6) : sW 4000 (bCmp o_lt (eL 2) (eC 10)) (sSeq (sA (rL 1) (eL 2) (eC (-9))) (sInc 2 1)) [.ref m, .ref (m + i), .int 0] (hM h m g R SV TX T AS) = some (.inl ([.ref m, .ref (m + i), .int (nI 10)], hM h m g R SV TX (va_up T i (cpTo (T i) (fun _ => -9) 10)) AS)) := by
  have L := sW_run (c := bCmp o_lt (eL 2) (eC 10)) (f := sSeq (sA (rL 1) (eL 2) (eC (-9))) (sInc 2 1)) (fun y => ([.ref m, .ref (m + i), .int (nI y)], hM h m g R SV TX (va_up T i (cpTo (T i) (fun _ => -9) y)) AS)) 10 10 4000 0 (by omega) (by omega) (by omega)
    (fun y g1 g2 => by simp [bCmp, eL, eC, show (10 : Int32) = nI 10 from rfl, o_lt_nI (a := y) (b := 10) (by omega) (by omega)])
    (fun y g1 g2 => by
      have w1 := wrA_of (h := hM h m g R SV TX (va_up T i (cpTo (T i) (fun _ => -9) y)) AS) (v := -9) (hM_t hi) g2 (by omega)
      rw [wM_t hi, up_up, up_self, cpTo_s (T i) (fun _ => -9) y] at w1
      simp [sSeq, sA, rL, eL, eC, w1, sInc, zSt, nI_1, zCut])
  have e0 : hM h m g R SV TX (va_up T i (cpTo (T i) (fun _ => -9) 0)) AS = hM h m g R SV TX T AS := by rw [cpTo_0, up_id]
  simpa only [e0, nI_0] using L
end ZMA
