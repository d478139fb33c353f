/-! the reference: its whole heap as one word; writes -/
def hM (h : zH) (m : Nat) (g : Nat → Int32) (R : Nat → Nat → Int32) (SV TX : Nat → Int32) (T : Nat → Nat → Int32) (AS : Nat → Int32) : zH := (h.1, fun a => if a = m then some (cMo m g) else if a = m + 1 then some (xI 343 (R 1)) else if a = m + 2 then some (xI 343 (R 2)) else if a = m + 3 then some (xI 1715 SV) else if a = m + 4 then some (xI 12 TX) else if a = m + 5 then some (xI 10 (T 5)) else if a = m + 6 then some (xI 10 (T 6)) else if a = m + 7 then some (xI 19 AS) else h.2 a)
section ZM4
variable {h : zH} {m i j n : Nat} {g SV TX AS : Nat → Int32} {R T : Nat → Nat → Int32}
theorem hM_0 : (hM h m g R SV TX T AS).2 m = some (cMo m g) := by simp [hM]
theorem hM_1 : (hM h m g R SV TX T AS).2 (m + 1) = some (xI 343 (R 1)) := by simp [hM]
theorem hM_2 : (hM h m g R SV TX T AS).2 (m + 2) = some (xI 343 (R 2)) := by simp [hM]
theorem hM_3 : (hM h m g R SV TX T AS).2 (m + 3) = some (xI 1715 SV) := by simp [hM]
theorem hM_4 : (hM h m g R SV TX T AS).2 (m + 4) = some (xI 12 TX) := by simp [hM]
theorem hM_5 : (hM h m g R SV TX T AS).2 (m + 5) = some (xI 10 (T 5)) := by simp [hM]
theorem hM_6 : (hM h m g R SV TX T AS).2 (m + 6) = some (xI 10 (T 6)) := by simp [hM]
theorem hM_7 : (hM h m g R SV TX T AS).2 (m + 7) = some (xI 19 AS) := by simp [hM]
theorem hM_r (hi : i = 1 ∨ i = 2) : Ar (hM h m g R SV TX T AS) (m + i) (R i) := by rcases hi with rfl | rfl <;> simp [Ar, hM]
theorem hM_t (hi : i = 5 ∨ i = 6) : (hM h m g R SV TX T AS).2 (m + i) = some (xI 10 (T i)) := by rcases hi with rfl | rfl <;> simp [hM]
theorem pair_ext {a : Nat} {f f' : Nat → Option zX} (hf : ∀ x, f x = f' x) : ((a, f) : zH) = (a, f') := by rw [show f = f' from funext hf]
theorem wM_0 (g' : Nat → Int32) : hp (hM h m g R SV TX T AS) m (cMo m g') = hM h m g' R SV TX T AS := by
  refine pair_ext fun x => ?_
  by_cases hx : x = m
  · subst hx; simp [va_up]
  · simp [va_up_ne _ _ hx, hM, hx]
theorem wM_r (hi : i = 1 ∨ i = 2) (S' : Nat → Int32) : hp (hM h m g R SV TX T AS) (m + i) (xI 343 S') = hM h m g (va_up R i S') SV TX T AS := by
  refine pair_ext fun x => ?_
  by_cases hx : x = m + i
  · subst hx
    rcases hi with rfl | rfl <;> simp [va_up]
  · rcases hi with rfl | rfl <;> simp [va_up_ne _ _ hx, hM, hx] <;> simp [va_up]
theorem wM_3 (V : Nat → Int32) : hp (hM h m g R SV TX T AS) (m + 3) (xI 1715 V) = hM h m g R V TX T AS := by
  refine pair_ext fun x => ?_
  by_cases hx : x = m + 3
  · subst hx; simp [va_up]
  · simp [va_up_ne _ _ hx, hM, hx]
theorem wM_4 (V : Nat → Int32) : hp (hM h m g R SV TX T AS) (m + 4) (xI 12 V) = hM h m g R SV V T AS := by
  refine pair_ext fun x => ?_
  by_cases hx : x = m + 4
  · subst hx; simp [va_up]
  · simp [va_up_ne _ _ hx, hM, hx]
theorem wM_t (hi : i = 5 ∨ i = 6) (V : Nat → Int32) : hp (hM h m g R SV TX T AS) (m + i) (xI 10 V) = hM h m g R SV TX (va_up T i V) AS := by
  refine pair_ext fun x => ?_
  by_cases hx : x = m + i
  · subst hx
    rcases hi with rfl | rfl <;> simp [va_up]
  · rcases hi with rfl | rfl <;> simp [va_up_ne _ _ hx, hM, hx] <;> simp [va_up]
theorem wM_7 (V : Nat → Int32) : hp (hM h m g R SV TX T AS) (m + 7) (xI 19 V) = hM h m g R SV TX T V := by
  refine pair_ext fun x => ?_
  by_cases hx : x = m + 7
  · subst hx; simp [va_up]
  · simp [va_up_ne _ _ hx, hM, hx]
theorem up_self (i : Nat) (S' : Nat → Int32) : va_up R i S' i = S' := va_up_self _ _ _
theorem up_id : va_up R i (R i) = R := by
  funext x
  by_cases hx : x = i
  · rw [hx, va_up_self]
  · rw [va_up_ne _ _ hx]
/-! operations on a row -/
def opRest (S : Nat → Int32) : Nat → Int32 := upd (upd (upd (upd S 3 (-9)) 4 0) 5 (-9)) 6 0
def opGrind (S : Nat → Int32) (p sd : Nat) : Nat → Int32 :=
  upd (upd (upd S (10 + 7 * p + 1) (sP S p 1 - dP S p sd - 1)) (10 + 7 * p + (3 + sd)) 0) 9 (S 9 + 1)
theorem X7_rest (hi : i = 1 ∨ i = 2) : fX7_rest [.ref (m + i)] (hM h m g R SV TX T AS) = some (hM h m g (va_up R i (opRest (R i))) SV TX T AS) := by
  have e3 := wh3 (h := hM h m g R SV TX T AS) (hM_r hi) (-9)
  rw [wM_r hi] at e3
  have e4 := wh4 (h := hM h m g (va_up R i (upd (R i) 3 (-9))) SV TX T AS) (hM_r hi) 0
  rw [wM_r hi, up_self, up_up] at e4
  have e5 := wh5 (h := hM h m g (va_up R i (upd (upd (R i) 3 (-9)) 4 0)) SV TX T AS) (hM_r hi) (-9)
  rw [wM_r hi, up_self, up_up] at e5
  have e6 := wh6 (h := hM h m g (va_up R i (upd (upd (upd (R i) 3 (-9)) 4 0) 5 (-9))) SV TX T AS) (hM_r hi) 0
  rw [wM_r hi, up_self, up_up] at e6
  simp [fX7_rest, bX7_rest, mV, sSeq, sA, rL, eC, e3, e4, e5, e6, sRv, opRest]
theorem X7_set (hi : i = 1 ∨ i = 2) (hp0 : j < 20) {c v : Int32} {k : Nat} (hc : c = nI k) (hk : k < 7) : fX7_setPlate [.ref (m + i), .int (nI j), .int c, .int v] (hM h m g R SV TX T AS) = some (hM h m g (va_up R i (upd (R i) (10 + 7 * j + k) v)) SV TX T AS) := by
  rw [stPk (hM_r hi) hp0 hc hk, wM_r hi]
theorem X7_grindSide (hi : i = 1 ∨ i = 2) (hp0 : j < 20) {c : Int32} {sd : Nat} (hc : c = nI sd) (hs : sd < 2) : fX7_grindSide [.ref (m + i), .int (nI j), .int c] (hM h m g R SV TX T AS) = some (hM h m g (va_up R i (opGrind (R i) j sd)) SV TX T AS) := by
  have a1 := ofP1 (h := hM h m g R SV TX T AS) (hM_r hi) hp0
  have a2 := X7_depthOf (h := hM h m g R SV TX T AS) (hM_r hi) hp0 hc hs
  have s1 := X7_set (h := h) (m := m) (g := g) (R := R) (SV := SV) (TX := TX) (T := T) (AS := AS) hi hp0 (c := 1) (v := sP (R i) j 1 - dP (R i) j sd - 1) (k := 1) rfl (by omega)
  have s2 := X7_set (h := h) (m := m) (g := g) (R := va_up R i (upd (R i) (10 + 7 * j + 1) (sP (R i) j 1 - dP (R i) j sd - 1))) (SV := SV) (TX := TX) (T := T) (AS := AS) hi hp0 (c := 3 + c) (v := 0) (k := 3 + sd) (by rw [hc, show (3 : Int32) = nI 3 from rfl, nI_add]) (by omega)
  rw [up_self, up_up] at s2
  have r9 := hd9 (h := hM h m g (va_up R i (upd (upd (R i) (10 + 7 * j + 1) (sP (R i) j 1 - dP (R i) j sd - 1)) (10 + 7 * j + (3 + sd)) 0)) SV TX T AS) (hM_r hi)
  rw [up_self] at r9
  have w9 := wh9 (h := hM h m g (va_up R i (upd (upd (R i) (10 + 7 * j + 1) (sP (R i) j 1 - dP (R i) j sd - 1)) (10 + 7 * j + (3 + sd)) 0)) SV TX T AS) (hM_r hi) (R i 9 + 1)
  rw [wM_r hi, up_self, up_up] at w9
  have e9 : upd (upd (R i) (10 + 7 * j + 1) (sP (R i) j 1 - dP (R i) j sd - 1)) (10 + 7 * j + (3 + sd)) 0 9 = R i 9 := by
    simp only [upd]
    rw [if_neg (by omega), if_neg (by omega)]
  rw [e9] at r9
  simp [fX7_grindSide, bX7_grindSide, mV, sSeq, sCS, eCS, sAa, aI, aR, aN, eOp, rL, eL, eC, a1, a2, s1, s2, r9, w9, sRv, opGrind]
/-- the order of a row is copied aside; the row closes -/
def shDn (S : Nat → Int32) (a n : Nat) : Nat → Int32 := fun x => if a ≤ x ∧ x < a + n then S (x + 19) else S x
theorem shDn_s {S : Nat → Int32} {a n : Nat} : upd (shDn S a n) (a + n) (S (a + n + 19)) = shDn S a (n + 1) := by
  funext x
  simp only [upd, shDn]
  by_cases h1 : x = a + n
  · subst h1; simp
  · by_cases h2 : a ≤ x ∧ x < a + n
    · rw [if_neg h1, if_pos h2, if_pos (by omega)]
    · rw [if_neg h1, if_neg h2, if_neg (by omega)]
def opTake (S : Nat → Int32) (k nO : Nat) : Nat → Int32 :=
  upd (shDn (upd S 2 (nI (nO - 1))) (153 + 19 * k) (19 * (nO - 1 - k))) 3 (S 3 - (if nI k < S 3 then 1 else 0))
theorem upd_ne {f : Nat → Int32} {a b : Nat} {v : Int32} (hn : b ≠ a) : upd f a v b = f b := if_neg hn
theorem upd_self {f : Nat → Int32} {a : Nat} {v : Int32} : upd f a v a = v := if_pos rfl
set_option maxRecDepth 100000 in
theorem X7_takeOut {k nO : Nat} (hi : i = 1 ∨ i = 2) (h2 : R i 2 = nI nO) (hn : nO ≤ 10) (hk : k < nO) : fX7_takeOut [.ref m, .ref (m + i), .int (nI k)] (hM h m g R SV TX T AS) = some (hM h m g (va_up R i (opTake (R i) k nO)) SV TX T (cpTo AS (fun x => sO (R i) k x) 19)) := by
  have L1 := sW_run (c := bCmp o_lt (eL 3) (eC 19)) (f := sSeq (sA (rF 7 12 (rL 0)) (eL 3) (eCS (aR (rL 1) (aI (eL 2) (aI (eL 3) (aN)))) fX7_of)) (sInc 3 1)) (fun y => ([.ref m, .ref (m + i), .int (nI k), .int (nI y)], hM h m g R SV TX T (cpTo AS (fun x => sO (R i) k x) y))) 19 19 4000 0 (by omega) (by omega) (by omega)
    (fun y g1 g2 => by simp [bCmp, eL, eC, show (19 : Int32) = nI 19 from rfl, o_lt_nI (a := y) (b := 19) (by omega) (by omega)])
    (fun y g1 g2 => by
      have a1 := ofOk (h := hM h m g R SV TX T (cpTo AS (fun x => sO (R i) k x) y)) (hM_r hi) (show k < 10 by omega) (c := nI y) (k := y) rfl g2
      have w1 := wrA_of (h := hM h m g R SV TX T (cpTo AS (fun x => sO (R i) k x) y)) (v := sO (R i) k y) hM_7 g2 (by omega)
      rw [wM_7, cpTo_s AS (fun x => sO (R i) k x) y] at w1
      simp [sSeq, sA, sInc, zSt, eL, eCS, aI, aR, aN, rF, rdR, rL, hM_0, a1, w1, nI_1, zCut])
  simp [nI_0, cpTo_0] at L1
  generalize hAS : cpTo AS (fun x => sO (R i) k x) 19 = AS' at L1
  have r2 := hd2 (h := hM h m g R SV TX T AS') (hM_r hi)
  have w2 := wh2 (h := hM h m g R SV TX T AS') (hM_r hi) (nI (nO - 1))
  rw [wM_r hi] at w2
  have e2 : nI nO - 1 = nI (nO - 1) := by
    rw [show nO = (nO - 1) + 1 by omega, nI_pred]; simp
  have L2 := sW_run (c := bCmp o_lt (eL 3) (eOp (· + ·) (eC 153) (eOp (· * ·) (eC 19) (eA (rL 1) (eC 2))))) (f := sSeq (sA (rL 1) (eL 3) (eA (rL 1) (eOp (· + ·) (eL 3) (eC 19)))) (sInc 3 1)) (fun y => ([.ref m, .ref (m + i), .int (nI k), .int (nI (153 + 19 * k + y))], hM h m g (va_up R i (shDn (upd (R i) 2 (nI (nO - 1))) (153 + 19 * k) y)) SV TX T AS')) (19 * (nO - 1 - k)) (19 * (nO - 1 - k)) 4000 0 (by omega) (by omega) (by omega)
    (fun y g1 g2 => by
      have a2 := hd2 (h := hM h m g (va_up R i (shDn (upd (R i) 2 (nI (nO - 1))) (153 + 19 * k) y)) SV TX T AS') (hM_r hi)
      rw [up_self] at a2
      have e : shDn (upd (R i) 2 (nI (nO - 1))) (153 + 19 * k) y 2 = nI (nO - 1) := by
        simp only [shDn]
        rw [if_neg (by omega), upd_self]
      rw [e] at a2
      simp [bCmp, eOp, eL, eC, eA, rL, a2, ixO0, o_lt_nI (a := 153 + 19 * k + y) (b := 153 + 19 * (nO - 1)) (by omega) (by omega)]
      omega)
    (fun y g1 g2 => by
      have a1 := rdA_of (h := hM h m g (va_up R i (shDn (upd (R i) 2 (nI (nO - 1))) (153 + 19 * k) y)) SV TX T AS') (hM_r hi) (show 153 + 19 * k + y + 19 < 343 by omega) (by omega)
      rw [up_self, show shDn (upd (R i) 2 (nI (nO - 1))) (153 + 19 * k) y (153 + 19 * k + y + 19) = upd (R i) 2 (nI (nO - 1)) (153 + 19 * k + y + 19) by simp only [shDn]; rw [if_neg (by omega)]] at a1
      have w1 := wrA_of (h := hM h m g (va_up R i (shDn (upd (R i) 2 (nI (nO - 1))) (153 + 19 * k) y)) SV TX T AS') (v := upd (R i) 2 (nI (nO - 1)) (153 + 19 * k + y + 19)) (hM_r hi) (show 153 + 19 * k + y < 343 by omega) (by omega)
      rw [wM_r hi, up_self, up_up, shDn_s] at w1
      have e19 : nI (153 + 19 * k + y) + 19 = nI (153 + 19 * k + y + 19) := by rw [show (19 : Int32) = nI 19 from rfl, nI_add]
      simp [sSeq, sA, sInc, zSt, eL, eC, eA, eOp, rL, e19, a1, w1, nI_1, zCut]
      rfl)
  have e0 : shDn (upd (R i) 2 (nI (nO - 1))) (153 + 19 * k) 0 = upd (R i) 2 (nI (nO - 1)) := by
    funext x
    simp only [shDn]
    rw [if_neg (by omega)]
  simp [e0] at L2
  have r3 := hd3 (h := hM h m g (va_up R i (shDn (upd (R i) 2 (nI (nO - 1))) (153 + 19 * k) (19 * (nO - 1 - k)))) SV TX T AS') (hM_r hi)
  rw [up_self, show shDn (upd (R i) 2 (nI (nO - 1))) (153 + 19 * k) (19 * (nO - 1 - k)) 3 = R i 3 by simp only [shDn]; rw [if_neg (by omega), upd_ne (by omega)]] at r3
  have w3 := wh3 (h := hM h m g (va_up R i (shDn (upd (R i) 2 (nI (nO - 1))) (153 + 19 * k) (19 * (nO - 1 - k)))) SV TX T AS') (hM_r hi) (R i 3 - (if nI k < R i 3 then 1 else 0))
  rw [wM_r hi, up_self, up_up] at w3
  by_cases hz : nI k < R i 3 <;> simp [hz] at w3 <;> simp [fX7_takeOut, bX7_takeOut, mV, sSeq, sBlk, sLi, zSt, eC, eL, L1, zCut, sAa, rL, r2, h2, e2, w2, eOp, ixO0, L2, r3, eT, bCmp, eA, o_gt, hz, w3, sRv, opTake]
end ZM4
