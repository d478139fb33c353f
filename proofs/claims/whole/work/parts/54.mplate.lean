/-! the reference: findPlate, goesOn, finish, hurryIn -/
section ZM6
variable {h : zH} {m i j n : Nat} {g SV TX AS : Nat → Int32} {R T : Nat → Nat → Int32}
theorem wMo0 (v : Int32) : wrO (hM h m g R SV TX T AS) 7 0 m (.int v) = some (hM h m (upd g 0 v) R SV TX T AS) := by
  have e := wM_0 (h := h) (m := m) (g := g) (R := R) (SV := SV) (TX := TX) (T := T) (AS := AS) (upd g 0 v)
  rw [wrO_of hM_0 (by simp), ← e]
  rfl
theorem rMo0 : rdI (hM h m g R SV TX T AS) 7 0 m = some (g 0) := rdI_of hM_0 rfl
theorem wMo4 (v : Int32) : wrO (hM h m g R SV TX T AS) 7 4 m (.int v) = some (hM h m (upd g 4 v) R SV TX T AS) := by
  have e := wM_0 (h := h) (m := m) (g := g) (R := R) (SV := SV) (TX := TX) (T := T) (AS := AS) (upd g 4 v)
  rw [wrO_of hM_0 (by simp), ← e]
  rfl
theorem rMo4 : rdI (hM h m g R SV TX T AS) 7 4 m = some (g 4) := rdI_of hM_0 rfl
theorem wMo6 (v : Int32) : wrO (hM h m g R SV TX T AS) 7 6 m (.int v) = some (hM h m (upd g 6 v) R SV TX T AS) := by
  have e := wM_0 (h := h) (m := m) (g := g) (R := R) (SV := SV) (TX := TX) (T := T) (AS := AS) (upd g 6 v)
  rw [wrO_of hM_0 (by simp), ← e]
  rfl
theorem rMo6 : rdI (hM h m g R SV TX T AS) 7 6 m = some (g 6) := rdI_of hM_0 rfl
theorem wMo7 (v : Int32) : wrO (hM h m g R SV TX T AS) 7 7 m (.int v) = some (hM h m (upd g 7 v) R SV TX T AS) := by
  have e := wM_0 (h := h) (m := m) (g := g) (R := R) (SV := SV) (TX := TX) (T := T) (AS := AS) (upd g 7 v)
  rw [wrO_of hM_0 (by simp), ← e]
  rfl
theorem rMo7 : rdI (hM h m g R SV TX T AS) 7 7 m = some (g 7) := rdI_of hM_0 rfl
theorem wMo8 (v : Int32) : wrO (hM h m g R SV TX T AS) 7 8 m (.int v) = some (hM h m (upd g 8 v) R SV TX T AS) := by
  have e := wM_0 (h := h) (m := m) (g := g) (R := R) (SV := SV) (TX := TX) (T := T) (AS := AS) (upd g 8 v)
  rw [wrO_of hM_0 (by simp), ← e]
  rfl
theorem rMo8 : rdI (hM h m g R SV TX T AS) 7 8 m = some (g 8) := rdI_of hM_0 rfl
theorem wMo9 (v : Int32) : wrO (hM h m g R SV TX T AS) 7 9 m (.int v) = some (hM h m (upd g 9 v) R SV TX T AS) := by
  have e := wM_0 (h := h) (m := m) (g := g) (R := R) (SV := SV) (TX := TX) (T := T) (AS := AS) (upd g 9 v)
  rw [wrO_of hM_0 (by simp), ← e]
  rfl
theorem rMo9 : rdI (hM h m g R SV TX T AS) 7 9 m = some (g 9) := rdI_of hM_0 rfl
theorem rMr1 : rdR (hM h m g R SV TX T AS) 7 1 m = some (m + 1) := rdR_of hM_0 rfl
theorem rMr2 : rdR (hM h m g R SV TX T AS) 7 2 m = some (m + 2) := rdR_of hM_0 rfl
theorem rMr3 : rdR (hM h m g R SV TX T AS) 7 3 m = some (m + 3) := rdR_of hM_0 rfl
theorem rMr5 : rdR (hM h m g R SV TX T AS) 7 5 m = some (m + 4) := rdR_of hM_0 rfl
theorem rMr10 : rdR (hM h m g R SV TX T AS) 7 10 m = some (m + 5) := rdR_of hM_0 rfl
theorem rMr11 : rdR (hM h m g R SV TX T AS) 7 11 m = some (m + 6) := rdR_of hM_0 rfl
theorem rMr12 : rdR (hM h m g R SV TX T AS) 7 12 m = some (m + 7) := rdR_of hM_0 rfl
theorem isMo : isO (hM h m g R SV TX T AS) 7 m = true := isO_of hM_0
theorem gF_init {a c : Int32} : gF g a (g 8) c = upd (upd g 7 a) 9 c := by
  funext x
  simp only [gF, upd]
  by_cases h8 : x = 8
  · subst h8; simp
  · simp [h8]
theorem gF_7 {a b c : Int32} : gF g a b c 7 = a := by simp [gF, upd]
theorem gF_8 {a b c : Int32} : gF g a b c 8 = b := by simp [gF, upd]
theorem gF_9 {a b c : Int32} : gF g a b c 9 = c := by simp [gF, upd]
theorem gF_set {a b c a' b' : Int32} : upd (upd (gF g a b c) 7 a') 8 b' = gF g a' b' c := by
  funext x
  simp only [gF, upd]
  by_cases h8 : x = 8 <;> by_cases h7 : x = 7 <;> by_cases h9 : x = 9 <;> simp [h7, h8, h9] <;> omega
theorem gF_gF {a b c a' c' : Int32} : upd (upd (gF g a b c) 7 a') 9 c' = gF g a' b c' := by
  funext x
  simp only [gF, upd]
  by_cases h8 : x = 8 <;> by_cases h7 : x = 7 <;> by_cases h9 : x = 9 <;> simp [h7, h8, h9] <;> omega
theorem gF_9s {a b c c' : Int32} : upd (gF g a b c) 9 c' = gF g a b c' := by
  funext x
  simp only [gF, upd]
  by_cases h9 : x = 9 <;> simp [h9]
theorem toI_some (n : Nat) : toI (some n) = nI n := rfl
theorem fsO_some (S : Nat → Int32) (d : Int32) (w : Bool) (p : Nat) (old : Int32) : fsO S d w (some p) old = if mayM S p 0 d w = true then 0 else 1 := rfl
abbrev fPin : zSS := sSeq (sSeq (sLi 6 (eB (bAnd (bZ z_eq (eCS (aR (rL 1) (aI (eL 5) (aI (eC 2) (aN)))) fX7_ofPlate)) (bCmp o_ge (eCS (aR (rL 1) (aI (eL 5) (aI (eC 0) (aN)))) fX7_ofPlate) (eL 2))))) (sSeq (sLi 7 (eB (bAnd (bZ z_ne (eL 6)) (bZ z_ne (eCS (aR (rL 1) (aI (eL 5) (aI (eC 0) (aI (eL 3) (aI (eF 7 9 (rL 0)) (aN)))))) fX7_mayTake))))) (sIf (bAnd (bOr (bZ z_ne (eL 7)) (bAnd (bZ z_ne (eL 6)) (bZ z_ne (eCS (aR (rL 1) (aI (eL 5) (aI (eC 1) (aI (eL 3) (aI (eF 7 9 (rL 0)) (aN)))))) fX7_mayTake)))) (bZ z_ne (eCS (aR (rL 1) (aI (eL 5) (aI (eF 7 7 (rL 0)) (aN)))) fX7_isBetter))) (sSeq (sF 7 7 (rL 0) (eL 5)) (sF 7 8 (rL 0) (eT (bZ z_ne (eL 7)) (eC 0) (eC 1)))) sNop))) (sInc 5 1)
set_option maxHeartbeats 2000000 in
theorem fP_in {nP : Nat} (hi : i = 1 ∨ i = 2) (h1 : R i 1 = nI nP) (hn : nP ≤ 20) (its d way : Int32) (w : Bool) (hg : g 7 = -9) (hg9 : g 9 = bI w) : sW 4000 (bCmp o_lt (eL 5) (eA (rL 1) (eC 1))) fPin [.ref m, .ref (m + i), .int its, .int d, .int way, .int 0] (hM h m g R SV TX T AS) = some (.inl ([.ref m, .ref (m + i), .int its, .int d, .int way, .int (nI nP)], hM h m (gW g (R i) its d w nP) R SV TX T AS)) := by
  have L := sW_run (c := bCmp o_lt (eL 5) (eA (rL 1) (eC 1))) (f := fPin) (fun y => ([.ref m, .ref (m + i), .int its, .int d, .int way, .int (nI y)], hM h m (gW g (R i) its d w y) R SV TX T AS)) nP nP 4000 0 (by omega) (by omega) (by omega)
    (fun y g1 g2 => by simp [bCmp, eL, eA, rL, eC, hd1 (hM_r hi), h1, o_lt_nI (a := y) (b := nP) (by omega) (by omega)])
    (fun y g1 g2 => by
      have hy : y < 20 := by omega
      have a0 := fun g' : Nat → Int32 => ofP0 (h := hM h m g' R SV TX T AS) (hM_r hi) hy
      have a2 := fun g' : Nat → Int32 => ofP2 (h := hM h m g' R SV TX T AS) (hM_r hi) hy
      have m0 := fun g' : Nat → Int32 => X7_mayTake (h := hM h m g' R SV TX T AS) (hM_r hi) hy (c := 0) (sd := 0) rfl (by omega) d w
      have m1 := fun g' : Nat → Int32 => X7_mayTake (h := hM h m g' R SV TX T AS) (hM_r hi) hy (c := 1) (sd := 1) rfl (by omega) d w
      have b1 := fun g' : Nat → Int32 => X7_isBetter (h := hM h m g' R SV TX T AS) (hM_r hi) hy (o := bstO (R i) its d w y) (fun q hq => by have := (bstO_lt hq).1; omega)
      cases hc : (decide (sP (R i) y 2 = 0) && decide (its ≤ sP (R i) y 0)) with
      | false =>
        have hok : okM (R i) its d w y = false := by simp only [okM, hc, Bool.false_and]
        rcases Bool.and_eq_false_iff.mp hc with q | q
        · simp at q
          simp [fPin, sSeq, sLi, zSt, eB_bI, bAnd, bOr, bZ, bCmp, z_eq, z_ne_bI, o_ge, eCS, aI, aR, aN, rL, eL, eC, a2, q, sIf, sNop, zCut, sInc, nI_1, gW, bstO, hok, bI, z_ne]
        · simp at q
          by_cases q2 : sP (R i) y 2 = 0 <;> simp [fPin, sSeq, sLi, zSt, eB_bI, bAnd, bOr, bZ, bCmp, z_eq, z_ne_bI, o_ge, eCS, aI, aR, aN, rL, eL, eC, a2, a0, q, q2, Int32.not_le.mpr q, sIf, sNop, zCut, sInc, nI_1, gW, bstO, hok, bI, z_ne]
      | true =>
        simp only [Bool.and_eq_true, decide_eq_true_eq] at hc
        obtain ⟨q2, q0⟩ := hc
        cases hm0 : mayM (R i) y 0 d w <;> cases hm1 : mayM (R i) y 1 d w <;> cases hb : btM (R i) y (bstO (R i) its d w y) <;>
          simp [fPin, sSeq, sLi, zSt, eB_bI, bAnd, bOr, bZ, bCmp, z_eq, z_ne_bI, o_ge, eCS, aI, aR, aN, eF, rL, eL, eC, a2, a0, q0, q2, rMo9, rMo7, gF_9, gF_7, m0, m1, hm0, hm1, b1, hb, sIf, sF, eT, wMo7, wMo8, sNop, zCut, sInc, nI_1, gW, bstO, okM, gF_set, toI_some, fsO_some])
  have e0 : gW g (R i) its d w 0 = g := by
    funext x
    simp only [gW, gF, bstO, toI, fsO, upd]
    by_cases h8 : x = 8 <;> by_cases h7 : x = 7 <;> by_cases h9 : x = 9 <;> simp [h7, h8, h9, hg, hg9]
  simp only [e0, nI_0] at L
  exact L
end ZM6
