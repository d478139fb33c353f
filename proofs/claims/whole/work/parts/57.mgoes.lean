/-! the reference: goesOn, finish, hurryIn, whole -/
theorem opGrind_hd {S : Nat → Int32} {p sd x : Nat} (hx : x < 9) : opGrind S p sd x = S x := by
  simp only [opGrind]
  rw [upd_ne (by omega), upd_ne (by omega), upd_ne (by omega)]
theorem opBegin_3 {S : Nat → Int32} {k p sd : Nat} {w : Bool} : opBegin S k p w sd 3 = nI k := by
  cases w
  · simp only [opBegin]
    rw [if_neg (by decide), upd_ne (by omega), upd_ne (by omega), upd_ne (by omega), upd_ne (by omega), upd_self]
  · simp only [opBegin]
    rw [if_pos trivial, opGrind_hd (by omega), upd_ne (by omega), upd_ne (by omega), upd_ne (by omega), upd_ne (by omega), upd_self]
def gGoes (g S : Nat → Int32) (nP nO : Nat) : Nat → Int32 := if S 3 = -9 then (match goF S nP nO with
  | some x => gGo g S nP (x.1 + 1)
  | none => gGo g S nP nO) else g
section ZM9
variable {h : zH} {m i j n : Nat} {g SV TX AS S : Nat → Int32} {R T : Nat → Nat → Int32}
theorem gGoes_k {nP nO x : Nat} (h7 : x ≠ 7) (h8 : x ≠ 8) (h9 : x ≠ 9) : gGoes g S nP nO x = g x := by
  by_cases hz : S 3 = -9
  · simp only [gGoes, if_pos hz]
    cases goF S nP nO with
    | some q => exact gGo_k h7 h8 h9
    | none => exact gGo_k h7 h8 h9
  · simp only [gGoes, if_neg hz]
set_option maxRecDepth 100000 in
theorem X7_goesOn {nP nO : Nat} (hi : i = 1 ∨ i = 2) (h1 : R i 1 = nI nP) (hn : nP ≤ 20) (h2 : R i 2 = nI nO) (hO : nO ≤ 10) (hl : ∀ k, k < nO → sO (R i) k 5 = nI (nk (R i) k) ∧ nk (R i) k ≤ 12) :
    fX7_goesOn [.ref m, .ref (m + i)] (hM h m g R SV TX T AS) = some (bI (decide (opGo (R i) nP nO 3 ≠ -9)), hM h m (gGoes g (R i) nP nO) (va_up R i (opGo (R i) nP nO)) SV TX T AS) := by
  have cd : ∀ (g' : Nat → Int32) (y : Nat), y ≤ nO → bAnd (bCmp o_lt (eL 2) (eA (rL 1) (eC 2))) (bCmp o_eq (eA (rL 1) (eC 3)) (eC (-9))) [.ref m, .ref (m + i), .int (nI y)] (hM h m g' R SV TX T AS) = some (decide (y < nO) && decide (R i 3 = -9), hM h m g' R SV TX T AS) := fun g' y hy => by
    have a2 := hd2 (h := hM h m g' R SV TX T AS) (hM_r hi)
    have a3 := hd3 (h := hM h m g' R SV TX T AS) (hM_r hi)
    by_cases hz : y < nO <;> simp [bAnd, bCmp, eL, eA, rL, eC, a2, a3, h2, o_lt_nI (a := y) (b := nO) (by omega) (by omega), o_eq, hz]
  have fin : ∀ (g' S' : Nat → Int32) (y : Int32), (mZ (sRi (eB (bCmp o_ne (eA (rL 1) (eC 3)) (eC (-9)))))) [.ref m, .ref (m + i)] (hM h m g' (va_up R i S') SV TX T AS) = some (bI (decide (S' 3 ≠ -9)), hM h m g' (va_up R i S') SV TX T AS) := fun g' S' y => by
    have a3 := hd3 (h := hM h m g' (va_up R i S') SV TX T AS) (hM_r hi)
    rw [up_self] at a3
    simp [mZ_bI, bCmp, eA, rL, eC, a3, o_ne]
  have red : ∀ (g' S' : Nat → Int32) (y : Int32), sW 4000 (bAnd (bCmp o_lt (eL 2) (eA (rL 1) (eC 2))) (bCmp o_eq (eA (rL 1) (eC 3)) (eC (-9)))) goBody [.ref m, .ref (m + i), .int 0] (hM h m g R SV TX T AS) = some (.inl ([.ref m, .ref (m + i), .int y], hM h m g' (va_up R i S') SV TX T AS)) → fX7_goesOn [.ref m, .ref (m + i)] (hM h m g R SV TX T AS) = some (bI (decide (S' 3 ≠ -9)), hM h m g' (va_up R i S') SV TX T AS) := fun g' S' y L => by
    have e : bX7_goesOn = sSeq (sBlk (sSeq (sLi 2 (eC 0)) (sW 4000 (bAnd (bCmp o_lt (eL 2) (eA (rL 1) (eC 2))) (bCmp o_eq (eA (rL 1) (eC 3)) (eC (-9)))) goBody))) (sRi (eB (bCmp o_ne (eA (rL 1) (eC 3)) (eC (-9))))) := rfl
    have f := fin g' S' y
    simp only [mZ] at f
    simp only [fX7_goesOn, mZ, e, sSeq, sBlk, sLi, eC, zSt, Option.bind_some, Option.map_some, L, zCut]
    exact f
  by_cases hz : R i 3 = -9
  · cases hg : goF (R i) nP nO with
    | none =>
      have L := sW_run (c := bAnd (bCmp o_lt (eL 2) (eA (rL 1) (eC 2))) (bCmp o_eq (eA (rL 1) (eC 3)) (eC (-9)))) (f := goBody) (fun y => ([.ref m, .ref (m + i), .int (nI y)], hM h m (gGo g (R i) nP y) R SV TX T AS)) nO nO 4000 0 (by omega) (by omega) (by omega)
        (fun y g1 g2 => by simp [cd _ y g2, hz])
        (fun y g1 g2 => by
          have b := go_body (h := h) (m := m) (g := gGo g (R i) nP y) (R := R) (SV := SV) (TX := TX) (T := T) (AS := AS) hi h1 hn (show y < 10 by omega) (hl y g2).1 (hl y g2).2
          rw [goF_none hg y g2] at b
          simp only [up_id] at b
          simp [b, zCut, gGo])
      have r := red (gGo g (R i) nP nO) (R i) (nI nO) (by rw [up_id]; simpa [nI_0, gGo] using L)
      simp only [opGo, gGoes, if_pos hz, hg]
      exact r
    | some q =>
      obtain ⟨k, w, p⟩ := q
      obtain ⟨k1, k2, k3⟩ := goF_some hg
      have L := sW_run (c := bAnd (bCmp o_lt (eL 2) (eA (rL 1) (eC 2))) (bCmp o_eq (eA (rL 1) (eC 3)) (eC (-9)))) (f := goBody) (fun y => ([.ref m, .ref (m + i), .int (nI y)], hM h m (gGo g (R i) nP y) (if y ≤ k then R else va_up R i (opBegin (R i) k p w (sdF (R i) p (sO (R i) k 3) w))) SV TX T AS)) (k + 1) (k + 1) 4000 0 (by omega) (by omega) (by omega)
        (fun y g1 g2 => by
          by_cases hy : y ≤ k
          · simp only [if_pos hy]
            rw [cd _ y (by omega)]
            simp [hz, show y < nO by omega, show y < k + 1 by omega]
          · simp only [if_neg hy]
            have a2 := hd2 (h := hM h m (gGo g (R i) nP y) (va_up R i (opBegin (R i) k p w (sdF (R i) p (sO (R i) k 3) w))) SV TX T AS) (hM_r hi)
            have a3 := hd3 (h := hM h m (gGo g (R i) nP y) (va_up R i (opBegin (R i) k p w (sdF (R i) p (sO (R i) k 3) w))) SV TX T AS) (hM_r hi)
            rw [up_self] at a2 a3
            rw [opBegin_3] at a3
            have ne := nI_ne9 (n := k) (by omega)
            cases ho : o_lt (nI y) (opBegin (R i) k p w (sdF (R i) p (sO (R i) k 3) w) 2) <;> simp [bAnd, bCmp, eL, eA, rL, eC, a2, a3, ho, o_eq, ne, show ¬ y < k + 1 by omega])
        (fun y g1 g2 => by
          have hy : y ≤ k := by omega
          simp only [if_pos hy]
          have b := go_body (h := h) (m := m) (g := gGo g (R i) nP y) (R := R) (SV := SV) (TX := TX) (T := T) (AS := AS) hi h1 hn (show y < 10 by omega) (hl y (by omega)).1 (hl y (by omega)).2
          by_cases hyk : y = k
          · subst hyk
            rw [k3] at b
            simp [b, zCut, gGo, show ¬ y + 1 ≤ y by omega]
          · rw [goF_none k2 y (by omega)] at b
            simp only [up_id] at b
            simp [b, zCut, gGo, show y + 1 ≤ k by omega])
      have r := red (gGo g (R i) nP (k + 1)) (opBegin (R i) k p w (sdF (R i) p (sO (R i) k 3) w)) (nI (k + 1)) (by simpa [nI_0, gGo, show ¬ k + 1 ≤ k by omega] using L)
      simp only [opGo, gGoes, if_pos hz, hg]
      exact r
  · have L := sW_run (c := bAnd (bCmp o_lt (eL 2) (eA (rL 1) (eC 2))) (bCmp o_eq (eA (rL 1) (eC 3)) (eC (-9)))) (f := goBody) (fun y => ([.ref m, .ref (m + i), .int (nI y)], hM h m g R SV TX T AS)) 0 0 4000 0 (by omega) (by omega) (by omega)
      (fun y g1 g2 => by
        obtain rfl : y = 0 := by omega
        simp [cd _ 0 (by omega), hz])
      (fun y g1 g2 => by omega)
    have r := red g (R i) 0 (by rw [up_id]; simpa [nI_0] using L)
    simp only [opGo, gGoes, if_neg hz]
    exact r
/-- the order at work is done -/
def opFin (S : Nat → Int32) (k p sd s : Nat) (y : Int32) (nP nO : Nat) : Nat → Int32 :=
  upd (opTake (opRest (opFix (upd S (10 + 7 * p + (3 + sd)) (sO S k 3)) p s y nP)) k nO) 7 (opRest (opFix (upd S (10 + 7 * p + (3 + sd)) (sO S k 3)) p s y nP) 7 + 1)
theorem opOut_hd {o : Option Nat} {x : Nat} (hx : x < 10 ∨ 150 ≤ x) (ho : ∀ q, o = some q → q < 20) : opOut S o x = S x := by
  cases o with
  | none => rfl
  | some q =>
    have := ho q rfl
    simp only [opOut]
    rw [upd_ne (by omega)]
theorem opFix_hd {p s nP x : Nat} {y : Int32} (hx : x < 10 ∨ 150 ≤ x) (hp0 : p < 20) (hn : nP ≤ 20) : opFix S p s y nP x = S x := by
  have e : opFix0 S p s y x = S x := by
    simp only [opFix0]
    rw [upd_ne (by omega), upd_ne (by omega), upd_ne (by omega)]
  simp only [opFix]
  split
  · rw [opOut_hd hx (fun q hq => by have := (lastO_lt hq).1; omega), e]
  · exact e
theorem opRest_ge {x : Nat} (hx : 7 ≤ x ∨ x < 3) : opRest S x = S x := by
  simp only [opRest]
  rw [upd_ne (by omega), upd_ne (by omega), upd_ne (by omega), upd_ne (by omega)]
theorem opTake_hd {k nO x : Nat} (hx : x < 153) (h2 : x ≠ 2) (h3 : x ≠ 3) : opTake S k nO x = S x := by
  simp only [opTake]
  rw [upd_ne h3]
  simp only [shDn]
  rw [if_neg (by omega), upd_ne h2]
theorem sO_opFix {p s nP k x : Nat} {y : Int32} (hp0 : p < 20) (hn : nP ≤ 20) : sO (opFix S p s y nP) k x = sO S k x := opFix_hd (by omega) hp0 hn
set_option maxRecDepth 100000 in
theorem X7_finish {nP nO k p sd s : Nat} {y : Int32} (hi : i = 1 ∨ i = 2) (h1 : R i 1 = nI nP) (hn : nP ≤ 20) (h2 : R i 2 = nI nO) (hO : nO ≤ 10) (h3 : R i 3 = nI k) (hk : k < nO) (h5 : R i 5 = nI p) (hp0 : p < nP) (h6 : R i 6 = nI sd) (hsd : sd < 2) (hs : sO (R i) k 0 = nI s) (hs3 : s < 3) (hy : sO (R i) k 1 = y)
    (hq : opFix0 (upd (R i) (10 + 7 * p + (3 + sd)) (sO (R i) k 3)) p s y (150 + s) < cnt (onS (opFix0 (upd (R i) (10 + 7 * p + (3 + sd)) (sO (R i) k 3)) p s y) (nI s)) nP → ∃ q, earO (opFix0 (upd (R i) (10 + 7 * p + (3 + sd)) (sO (R i) k 3)) p s y) s nP = some q) :
    fX7_finish [.ref m, .ref (m + i)] (hM h m g R SV TX T AS) = some (hM h m g (va_up R i (opFin (R i) k p sd s y nP nO)) SV TX T (cpTo AS (fun x => sO (opRest (opFix (upd (R i) (10 + 7 * p + (3 + sd)) (sO (R i) k 3)) p s y nP)) k x) 19)) := by
  have a3 := hd3 (h := hM h m g R SV TX T AS) (hM_r hi)
  have a5 := hd5 (h := hM h m g R SV TX T AS) (hM_r hi)
  have a6 := hd6 (h := hM h m g R SV TX T AS) (hM_r hi)
  have o3 := ofO3 (h := hM h m g R SV TX T AS) (hM_r hi) (show k < 10 by omega)
  have s1 := X7_set (h := h) (m := m) (g := g) (R := R) (SV := SV) (TX := TX) (T := T) (AS := AS) hi (show p < 20 by omega) (c := 3 + nI sd) (v := sO (R i) k 3) (k := 3 + sd) (by rw [show (3 : Int32) = nI 3 from rfl, nI_add]) (by omega)
  generalize hS1 : upd (R i) (10 + 7 * p + (3 + sd)) (sO (R i) k 3) = S1 at *
  have so1 : ∀ x, sO S1 k x = sO (R i) k x := fun x => by rw [← hS1]; simp only [sO]; rw [upd_ne (by omega)]
  have o0 := ofO0 (h := hM h m g (va_up R i S1) SV TX T AS) (hM_r hi) (show k < 10 by omega)
  have o1 := ofO1 (h := hM h m g (va_up R i S1) SV TX T AS) (hM_r hi) (show k < 10 by omega)
  rw [up_self, so1, hs] at o0
  rw [up_self, so1, hy] at o1
  have fx := X7_fix (h := h) (m := m) (g := g) (R := va_up R i S1) (SV := SV) (TX := TX) (T := T) (AS := AS) (p := p) (s := s) (nP := nP) (y := y) hi (by rw [up_self, ← hS1, upd_ne (by omega)]; exact h1) hn (by omega) hs3 (by rw [up_self]; exact hq)
  rw [up_self, up_up] at fx
  have rs := X7_rest (h := h) (m := m) (g := g) (R := va_up R i (opFix S1 p s y nP)) (SV := SV) (TX := TX) (T := T) (AS := AS) hi
  rw [up_self, up_up] at rs
  have e2 : opRest (opFix S1 p s y nP) 2 = nI nO := by
    rw [opRest_ge (by omega), opFix_hd (by omega) (by omega) hn, ← hS1, upd_ne (by omega)]
    exact h2
  have tk := X7_takeOut (h := h) (m := m) (g := g) (R := va_up R i (opRest (opFix S1 p s y nP))) (SV := SV) (TX := TX) (T := T) (AS := AS) hi (by rw [up_self]; exact e2) hO hk
  rw [up_self, up_up] at tk
  generalize hA : cpTo AS (fun x => sO (opRest (opFix S1 p s y nP)) k x) 19 = AS' at *
  have a7 := hd7 (h := hM h m g (va_up R i (opTake (opRest (opFix S1 p s y nP)) k nO)) SV TX T AS') (hM_r hi)
  rw [up_self, opTake_hd (by omega) (by omega) (by omega)] at a7
  have w7 := wh7 (h := hM h m g (va_up R i (opTake (opRest (opFix S1 p s y nP)) k nO)) SV TX T AS') (hM_r hi) (opRest (opFix S1 p s y nP) 7 + 1)
  rw [wM_r hi, up_self, up_up] at w7
  simp [fX7_finish, bX7_finish, mV, sSeq, sLi, zSt, sCS, sCV, eCS, eA, eOp, aI, aR, aN, rL, eL, eC, a3, h3, a5, h5, a6, h6, o3, s1, o0, o1, fx, rs, isMo, tk, sAa, a7, w7, sRv, opFin, hS1]
end ZM9
