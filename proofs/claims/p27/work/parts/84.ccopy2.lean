/-! the class: a shop is copied, whole -/
def cpS (s s' : Nat → Int32) : Nat → Int32 := upd (upd (upd (upd (upd (upd (upd (upd (upd (upd s 3 (s' 3)) 4 (s' 4)) 5 (s' 5)) 6 (s' 6)) 7 (s' 7)) 8 (s' 8)) 9 (s' 9)) 10 (s' 10)) 11 (s' 11)) 12 (s' 12)
theorem cpS_at {s s' : Nat → Int32} {x : Nat} (h3 : 3 ≤ x) (h12 : x ≤ 12) : cpS s s' x = s' x := by
  simp only [cpS, upd]
  (repeat' split) <;> first | (rename_i e; rw [e]) | omega
section ZCQ
variable {h : zH} {a lo p j j' k n nP nS nO : Nat} {s pf N s' pf' N' : Nat → Int32} {P O L P' O' L' : Nat → Nat → Int32} {pi pi' : Nat → Nat}
theorem aS0 (e : At h a s P pf pi O N L) : rdR h 5 0 a = some (a + 1) := rdR_of (a_0 e) rfl
theorem aS1 (e : At h a s P pf pi O N L) : rdR h 5 1 a = some (a + 2) := rdR_of (a_0 e) rfl
theorem aS2 (e : At h a s P pf pi O N L) : rdR h 5 2 a = some (a + 3) := rdR_of (a_0 e) rfl
theorem aIs (e : At h a s P pf pi O N L) : isO h 5 a = true := isO_of (a_0 e)
theorem aQp (e : At h a s P pf pi O N L) (hp0 : p < 20) : rdQ h 4 (a + 1) (nI p) = some (a + 4 + p) := rdQ_of (a_1 e) hp0 (by omega) (by simp [plF, hp0])
theorem aQr (e : At h a s P pf pi O N L) (hk : k < 10) : rdQ h 3 (a + 3) (nI k) = some (a + 24 + 3 * pi k) := rdQ_of (a_3 e) hk (by omega) (by simp [rwF, hk])
theorem aPf' (e : At h a s P pf pi O N L) (hj : j < 3) : rdA h (a + 2) (nI j) = some (pf j) := rdA_of (a_2 e) hj (by omega)
theorem aSx (e : At h a s P pf pi O N L) {x : Nat} (h3 : 3 ≤ x) (h12 : x ≤ 12) : rdI h 5 x a = some (s x) := by
  refine rdI_of (a_0 e) ?_
  match x, h3, h12 with
  | 3, _, _ => rfl
  | 4, _, _ => rfl
  | 5, _, _ => rfl
  | 6, _, _ => rfl
  | 7, _, _ => rfl
  | 8, _, _ => rfl
  | 9, _, _ => rfl
  | 10, _, _ => rfl
  | 11, _, _ => rfl
  | 12, _, _ => rfl
set_option maxRecDepth 100000 in
set_option maxHeartbeats 2000000 in
theorem X5_copyAt (e : At h a s' P' pf' pi' O' N' L') (d : a + 54 ≤ lo ∨ lo + 54 ≤ a) (h3 : s' 3 = nI nP) (hn : nP ≤ 20) (h4 : s' 4 = nI nS) (hs : nS ≤ 3) (h5 : s' 5 = nI nO) (hO : nO ≤ 10) (hpi : ∀ k, k < 10 → pi k < 10) (hpi' : ∀ k, k < 10 → pi' k < 10)
    (hN : ∀ k, k < nO → N' (pi' k) = nI (nC N' (pi' k))) (hr : ∀ k, k < nO → O' (pi' k) 4 = 0 ∨ O' (pi' k) 4 = 1) :
    fX5_copyFrom [.ref lo, .ref a] (hS h lo s P pf pi O N L) = some (hS h lo (cpS s s') (cpP P P' nP) (cpTo pf pf' nS) pi (cpO O O' pi pi' nO) (cpN N N' pi pi' nO) (cpL L L' pi pi' nO)) := by
  have e0 : ∀ (s : Nat → Int32) (P : Nat → Nat → Int32) (pf : Nat → Int32) (O : Nat → Nat → Int32) (N : Nat → Int32) (L : Nat → Nat → Int32), At (hS h lo s P pf pi O N L) a s' P' pf' pi' O' N' L' := fun _ _ _ _ _ _ => At_hS e d
  have rx : ∀ (x : Nat) (s : Nat → Int32) (P : Nat → Nat → Int32) (pf : Nat → Int32) (O : Nat → Nat → Int32) (N : Nat → Int32) (L : Nat → Nat → Int32), 3 ≤ x → x ≤ 12 → rdI (hS h lo s P pf pi O N L) 5 x a = some (s' x) := fun x s P pf O N L h1 h2 => aSx (e0 s P pf O N L) h1 h2
  have L1 := sW_run (c := bCmp o_lt (eL 2) (eF 5 3 (rL 0))) (f := sSeq (sCV 4 (rQ 4 (rF 5 0 (rL 0)) (eL 2)) (aR (rQ 4 (rF 5 0 (rL 1)) (eL 2)) (aN)) fX4_copyFrom) (sInc 2 1)) (fun i => ([.ref lo, .ref a, .int (nI i)], hS h lo (upd s 3 (nI nP)) (cpP P P' i) pf pi O N L)) nP nP 4000 0 (by omega) (by omega) (by omega)
    (fun y g1 g2 => by simp [bCmp, eL, eF, rL, rs3, upd_self, o_lt_nI (a := y) (b := nP) (by omega) (by omega)])
    (fun y g1 g2 => by
      have hy : y < 20 := by omega
      have E := e0 (upd s 3 (nI nP)) (cpP P P' y) pf O N L
      have c := X4_copyFrom (s_p (h := h) (lo := lo) (s := upd s 3 (nI nP)) (P := cpP P P' y) (pf := pf) (pi := pi) (O := O) (N := N) (L := L) hy) (a_p E hy) (by omega)
      rw [ws_p hy, cpP_s] at c
      simp [sSeq, sCV, rQ, rF, rL, rS0, eL, qPl hy, aR, aS0 E, aQp E hy, aN, isPl hy, c, sInc, zSt, nI_1, zCut])
  have L2 := sW_run (c := bCmp o_lt (eL 2) (eF 5 4 (rL 0))) (f := sSeq (sA (rF 5 1 (rL 0)) (eL 2) (eA (rF 5 1 (rL 1)) (eL 2))) (sInc 2 1)) (fun i => ([.ref lo, .ref a, .int (nI i)], hS h lo (upd (upd s 3 (nI nP)) 4 (nI nS)) (cpP P P' nP) (cpTo pf pf' i) pi O N L)) nS nS 4000 0 (by omega) (by omega) (by omega)
    (fun y g1 g2 => by simp [bCmp, eL, eF, rL, rs4, upd_self, o_lt_nI (a := y) (b := nS) (by omega) (by omega)])
    (fun y g1 g2 => by
      have hy : y < 3 := by omega
      have E := e0 (upd (upd s 3 (nI nP)) 4 (nI nS)) (cpP P P' nP) (cpTo pf pf' y) O N L
      simp [sSeq, sA, rF, rL, rS1, eL, eA, aS1 E, aPf' E hy, wPf hy, cpTo_s, sInc, zSt, nI_1, zCut])
  have L3 := sW_run (c := bCmp o_lt (eL 2) (eF 5 5 (rL 0))) (f := sSeq (sCV 3 (rQ 3 (rF 5 2 (rL 0)) (eL 2)) (aR (rQ 3 (rF 5 2 (rL 1)) (eL 2)) (aN)) fX3_copyFrom) (sInc 2 1)) (fun i => ([.ref lo, .ref a, .int (nI i)], hS h lo (upd (upd (upd s 3 (nI nP)) 4 (nI nS)) 5 (nI nO)) (cpP P P' nP) (cpTo pf pf' nS) pi (cpO O O' pi pi' i) (cpN N N' pi pi' i) (cpL L L' pi pi' i))) nO nO 4000 0 (by omega) (by omega) (by omega)
    (fun y g1 g2 => by simp [bCmp, eL, eF, rL, rs5, upd_self, o_lt_nI (a := y) (b := nO) (by omega) (by omega)])
    (fun y g1 g2 => by
      have hy : y < 10 := by omega
      have E := e0 (upd (upd (upd s 3 (nI nP)) 4 (nI nS)) 5 (nI nO)) (cpP P P' nP) (cpTo pf pf' nS) (cpO O O' pi pi' y) (cpN N N' pi pi' y) (cpL L L' pi pi' y)
      have c := X3_copyAt (lo := lo) (s := upd (upd (upd s 3 (nI nP)) 4 (nI nS)) 5 (nI nO)) (P := cpP P P' nP) (pf := cpTo pf pf' nS) (pi := pi) (O := cpO O O' pi pi' y) (N := cpN N N' pi pi' y) (L := cpL L L' pi pi' y) e d (hpi y hy) (hpi' y hy) (hN y g2) (hr y g2)
      rw [← hN y g2] at c
      simp [sSeq, sCV, rQ, rF, rL, rS2, eL, qRw hy, aR, aS2 E, aQr E hy, aN, isOr (hpi y hy), c, sInc, zSt, nI_1, zCut, cpO, cpN, cpL])
  simp [nI_0, cpP_0] at L1
  simp [nI_0, cpTo_0] at L2
  simp only [nI_0, cpO, cpN, cpL] at L3
  have r3 := fun (s : Nat → Int32) (P : Nat → Nat → Int32) (pf : Nat → Int32) (O : Nat → Nat → Int32) (N : Nat → Int32) (L : Nat → Nat → Int32) => rx 3 s P pf O N L (by omega) (by omega)
  have r4 := fun (s : Nat → Int32) (P : Nat → Nat → Int32) (pf : Nat → Int32) (O : Nat → Nat → Int32) (N : Nat → Int32) (L : Nat → Nat → Int32) => rx 4 s P pf O N L (by omega) (by omega)
  have r5 := fun (s : Nat → Int32) (P : Nat → Nat → Int32) (pf : Nat → Int32) (O : Nat → Nat → Int32) (N : Nat → Int32) (L : Nat → Nat → Int32) => rx 5 s P pf O N L (by omega) (by omega)
  have r6 := fun (s : Nat → Int32) (P : Nat → Nat → Int32) (pf : Nat → Int32) (O : Nat → Nat → Int32) (N : Nat → Int32) (L : Nat → Nat → Int32) => rx 6 s P pf O N L (by omega) (by omega)
  have r7 := fun (s : Nat → Int32) (P : Nat → Nat → Int32) (pf : Nat → Int32) (O : Nat → Nat → Int32) (N : Nat → Int32) (L : Nat → Nat → Int32) => rx 7 s P pf O N L (by omega) (by omega)
  have r8 := fun (s : Nat → Int32) (P : Nat → Nat → Int32) (pf : Nat → Int32) (O : Nat → Nat → Int32) (N : Nat → Int32) (L : Nat → Nat → Int32) => rx 8 s P pf O N L (by omega) (by omega)
  have r9 := fun (s : Nat → Int32) (P : Nat → Nat → Int32) (pf : Nat → Int32) (O : Nat → Nat → Int32) (N : Nat → Int32) (L : Nat → Nat → Int32) => rx 9 s P pf O N L (by omega) (by omega)
  have r10 := fun (s : Nat → Int32) (P : Nat → Nat → Int32) (pf : Nat → Int32) (O : Nat → Nat → Int32) (N : Nat → Int32) (L : Nat → Nat → Int32) => rx 10 s P pf O N L (by omega) (by omega)
  have r11 := fun (s : Nat → Int32) (P : Nat → Nat → Int32) (pf : Nat → Int32) (O : Nat → Nat → Int32) (N : Nat → Int32) (L : Nat → Nat → Int32) => rx 11 s P pf O N L (by omega) (by omega)
  have r12 := fun (s : Nat → Int32) (P : Nat → Nat → Int32) (pf : Nat → Int32) (O : Nat → Nat → Int32) (N : Nat → Int32) (L : Nat → Nat → Int32) => rx 12 s P pf O N L (by omega) (by omega)
  simp [fX5_copyFrom, bX5_copyFrom, mV, sSeq, sF, eF, rL, r3, h3, wsh3, sBlk, sLi, eC, zSt, L1, zCut, r4, h4, wsh4, L2, r5, h5, wsh5, L3, r6, wsh6, r7, wsh7, r8, wsh8, r9, wsh9, r10, wsh10, r11, wsh11, r12, wsh12, sRv, cpS]
end ZCQ
