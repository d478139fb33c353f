/-! both sides: a forecast, whole -/
def tgO (O : Nat → Nat → Int32) (pi : Nat → Nat) : Nat → (Nat → Nat → Int32)
  | 0 => O
  | n + 1 => va_up (tgO O pi n) (pi n) (upd (tgO O pi n (pi n)) 5 (nI n))
theorem tgO_ge {O : Nat → Nat → Int32} {pi : Nat → Nat} (hpi : PI pi) : ∀ n, n ≤ 10 → ∀ k, n ≤ k → k < 10 → tgO O pi n (pi k) = O (pi k)
  | 0, _, k, _, _ => rfl
  | n + 1, hn, k, h1, h2 => by
    have ne : pi k ≠ pi n := fun e => by have := hpi.2 _ _ h2 (by omega) e; omega
    simp only [tgO]
    rw [va_up_ne _ _ ne]
    exact tgO_ge hpi n (by omega) k (by omega) h2
theorem tgO_at {O : Nat → Nat → Int32} {pi : Nat → Nat} (hpi : PI pi) : ∀ n, n ≤ 10 → ∀ k, k < n → tgO O pi n (pi k) = upd (O (pi k)) 5 (nI k)
  | 0, _, k, h => by omega
  | n + 1, hn, k, h => by
    simp only [tgO]
    by_cases e : k = n
    · subst e
      rw [va_up_self, tgO_ge hpi k (by omega) k (Nat.le_refl _) (by omega)]
    · have ne : pi k ≠ pi n := fun q => by have := hpi.2 _ _ (by omega) (by omega) q; omega
      rw [va_up_ne _ _ ne]
      exact tgO_at hpi n (by omega) k (by omega)
section ZFW
variable {S s pf N g SV TX AS : Nat → Int32} {P O L R T : Nat → Nat → Int32} {pi : Nat → Nat} {nS nP nO c i : Nat}
set_option maxRecDepth 100000 in
theorem X7_hurryIn {hm : zH} {m k : Nat} (hi : i = 1 ∨ i = 2) (h2 : R i 2 = nI nO) (hO : nO ≤ 10) (hk : k < nO) (r : IvR (R i) nO c) (hc : c ≤ k) : fX7_hurryIn [.ref m, .ref (m + i), .int (nI k)] (hM hm m g R SV TX T AS) = some (nI c, hM hm m g (va_up R i (opHur (R i) AS k c nO)) SV TX T (upd (cpTo AS (fun x => sO (R i) k x) 19) 4 1)) := by
  have a3 := hd3 (h := hM hm m g R SV TX T AS) (hM_r hi)
  have rs := X7_rushes (h := hM hm m g R SV TX T AS) (hM_r hi) h2 hO
  rw [sum_view r] at rs
  have tk := X7_takeOut (h := hm) (m := m) (g := g) (R := R) (SV := SV) (TX := TX) (T := T) (AS := AS) hi h2 hO hk
  have w4 := wrA_of (h := hM hm m g (va_up R i (opTake (R i) k nO)) SV TX T (cpTo AS (fun x => sO (R i) k x) 19)) (v := 1) (j := 4) hM_7 (by omega) (by omega)
  rw [wM_7, show (nI 4 : Int32) = 4 from rfl] at w4
  generalize hA : upd (cpTo AS (fun x => sO (R i) k x) 19) 4 1 = A at *
  have pt := X7_putIn (h := hm) (m := m) (g := g) (R := va_up R i (opTake (R i) k nO)) (SV := SV) (TX := TX) (T := T) (AS := A) (pl := c) (nO := nO - 1) hi (by rw [up_self, opTake_2]) (by omega) (by omega)
  rw [up_self, up_up] at pt
  have b3 := hd3 (h := hM hm m g (va_up R i (opPut (opTake (R i) k nO) A c (nO - 1))) SV TX T A) (hM_r hi)
  rw [up_self] at b3
  have w3 := fun v : Int32 => wh3 (h := hM hm m g (va_up R i (opPut (opTake (R i) k nO) A c (nO - 1))) SV TX T A) (hM_r hi) v
  simp only [wM_r hi, up_self, up_up] at w3
  by_cases e : R i 3 = nI k
  · simp [fX7_hurryIn, bX7_hurryIn, mI, sSeq, sLi, eB_bI, bCmp, eA, rL, eC, a3, eL, e, o_eq, zSt, eCS, aR, aN, rs, sCV, aI, isMo, tk, sA, rF, rMr12, w4, pt, eT, bZ, z_ne_bI, w3, sRi, opHur, hA]
  · simp [fX7_hurryIn, bX7_hurryIn, mI, sSeq, sLi, eB_bI, bCmp, eA, rL, eC, a3, eL, e, o_eq, zSt, eCS, aR, aN, rs, sCV, aI, isMo, tk, sA, rF, rMr12, w4, pt, eT, bZ, z_ne_bI, b3, w3, sRi, opHur, hA]
set_option maxRecDepth 100000 in
/-- working on, both sides -/
theorem wo_rel (hi : i = 5 ∨ i = 6) (D : Nat → Int32) (hD : ∀ j, j < 10 → D j = -9) (vw : Vw s P pf pi O N L (R 2) nS nP nO) (iv : Iv (R 2) nS nP nO) (ir : IvR (R 2) nO c) (tg : VTg pi O (R 2) nO) (tr : TgR (R 2) nO) :
    ∃ s1 P1 pi1 S1 D1 g1 A1 T1 t1 y1, (∀ h fo da lo x mf, Fo h fo da lo → sW 4000 fcCond fcBody [.ref fo, x, mf, .int 0, .int 0] (hS (hp h da (xI 10 D)) lo s P pf pi O N L) = some (.inl ([.ref fo, x, mf, .int t1, .int (nI y1)], hS (hp h da (xI 10 D1)) lo s1 P1 pf pi1 O N L))) ∧
      (∀ hm m, fX7_workOn [.ref m, .ref (m + i)] (hM hm m g R SV TX T AS) = some (hM hm m g1 (va_up R 2 S1) SV TX (va_up T i T1) A1)) ∧ (∀ j, j < 10 → D1 j = T1 j) ∧ PI pi1 ∧ (∀ x, x ≠ 7 → x ≠ 8 → x ≠ 9 → g1 x = g x) := by
  have h10 := iv.1.2.2.2.2.2
  have e0 : (va_up T i (cpTo (T i) (fun _ => -9) 10)) i = cpTo (T i) (fun _ => -9) 10 := up_self _ _
  obtain ⟨s1, P1, pi1, S1, D1, g1, A1, T1, t1, y1, u1, u2, u3, u5, u4⟩ := fore_loop (i := i) (pf := pf) (O := O) (N := N) (L := L) (SV := SV) (TX := TX) hi nO 4000 4000 s P pi R (va_up T i (cpTo (T i) (fun _ => -9) 10)) g AS D c 0 0 (by omega) (by omega) (by omega) (fun j hj => by
    rw [e0, hD j hj]
    simp [cpTo, hj]) vw iv ir tg tr
  simp only [up_up] at u2
  refine ⟨s1, P1, pi1, S1, D1, g1, A1, T1, t1, y1, fun h fo da lo x mf f => u1 h fo da lo x mf f, fun hm m => ?_, u3, u5, u4⟩
  have W := wo_init (h := hm) (m := m) (g := g) (R := R) (SV := SV) (TX := TX) (T := T) (AS := AS) hi
  have V := u2 hm m
  simp [fX7_workOn, bX7_workOn, mV, sSeq, sBlk, sLi, eC, zSt, W, zCut, V, sRv]
end ZFW
