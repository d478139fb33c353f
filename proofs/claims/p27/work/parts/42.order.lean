/-! names and orders of the class -/
abbrev cNm (l : Nat) (n : Int32) : zX := xO 2 [.ref l, .int n]
abbrev cOr (nm : Nat) (g : Nat → Int32) : zX := xO 3 [.ref nm, .int (g 0), .int (g 1), .int (g 2), .int (g 3), .int (g 4), .int (g 5)]
theorem o_lt_nI {a b : Nat} (ha : a < 2 ^ 31) (hb : b < 2 ^ 31) : o_lt (nI a) (nI b) = decide (a < b) := by
  simp [o_lt, nI_ltI ha hb]
theorem toInt32_inj {a b : Int32} (h : a.toInt = b.toInt) : a = b := Int32.toInt_inj.mp h
def wds : List Int32 := [2, 4, 4, 2, 2, 4, 2, 5, 4, 4, 4, 4, 2, 4, 2, 4, 4, 5]
def wd (c : Int32) : Int32 := if c.toInt < 102 ∨ 119 < c.toInt then 4 else wds.getD (c.toInt - 102).toNat 4
theorem wd_br (i : Nat) : [(sRi (eC 2)), (sRi (eC 4)), (sRi (eC 4)), (sRi (eC 2)), (sRi (eC 2)), (sRi (eC 4)), (sRi (eC 2)), (sRi (eC 5)), (sRi (eC 4)), (sRi (eC 4)), (sRi (eC 4)), (sRi (eC 4)), (sRi (eC 2)), (sRi (eC 4)), (sRi (eC 2)), (sRi (eC 4)), (sRi (eC 4)), (sRi (eC 5))].getD i (sRi (eC 4)) = sRi (eC (wds.getD i 4)) := match i with
  | 0 => rfl
  | 1 => rfl
  | 2 => rfl
  | 3 => rfl
  | 4 => rfl
  | 5 => rfl
  | 6 => rfl
  | 7 => rfl
  | 8 => rfl
  | 9 => rfl
  | 10 => rfl
  | 11 => rfl
  | 12 => rfl
  | 13 => rfl
  | 14 => rfl
  | 15 => rfl
  | 16 => rfl
  | 17 => rfl
  | n + 18 => rfl
theorem X2_widthOf (h : zH) (c : Int32) : fX2_widthOf [.int c] h = some (wd c, h) := by
  by_cases hc : c.toInt < 102 ∨ 119 < c.toInt
  · simp [fX2_widthOf, bX2_widthOf, mI, sSw, eL, hc, sRi, eC, zCut, wd]
  · simp only [fX2_widthOf, bX2_widthOf, mI, sSw, eL, hc, wd_br]
    simp [sRi, eC, zCut, wd, hc]
/-- b and the widths of the first n letters -/
def lenW (b : Int32) (f : Nat → Int32) : Nat → Int32
  | 0 => b
  | n + 1 => lenW b f n + wd (f n)
theorem lenW_congr {b : Int32} {f g : Nat → Int32} : ∀ {n : Nat}, (∀ i, i < n → f i = g i) → lenW b f n = lenW b g n
  | 0, _ => rfl
  | n + 1, h => by
    simp only [lenW]
    rw [lenW_congr (fun i hi => h i (by omega)), h n (by omega)]
/-- a text's length in a size -/
def nLen (f : Nat → Int32) (n : Nat) (z : Int32) : Int32 := if n = 0 then 0 else lenW (nI n - 1) f n * z
section ZP2
variable {h : zH} {a b la lb : Nat} {g g' fa fb : Nat → Int32} {n m : Nat}
theorem X2_lengthIn (ha : h.2 a = some (cNm la (nI n))) (hl : h.2 la = some (xI 12 fa)) (hn : n ≤ 12) (z : Int32) : fX2_lengthIn [.ref a, .int z] h = some (nLen fa n z, h) := by
  by_cases h0 : n = 0
  · subst h0
    simp [fX2_lengthIn, bX2_lengthIn, mI, sSeq, sIf, bZ, eF, rL, rdI, ha, z_eq, sRi, eC, zCut, nLen, nI_0]
  · have hz : nI n ≠ 0 := nI_ne0 (by omega) (by omega)
    have L := sW_run (c := bCmp o_lt (eL 4) (eF 2 1 (rL 0))) (f := sSeq (sLi 3 (eOp (· + ·) (eL 3) (eCS (aI (eA (rF 2 0 (rL 0)) (eL 4)) (aN)) fX2_widthOf))) (sInc 4 1)) (fun i => ([.ref a, .int z, .int (nI n - 1), .int (lenW (nI n - 1) fa i), .int (nI i)], h)) n n 4000 0 (by omega) (by omega) (by omega)
      (fun j h1 h2 => by simp [bCmp, eL, eF, rL, rdI, ha, o_lt_nI (a := j) (b := n) (by omega) (by omega)])
      (fun j h1 h2 => by simp [sSeq, sLi, sInc, zSt, eOp, eL, eCS, aI, aN, eA, rF, rL, rdR, ha, rdA_of hl (show j < 12 by omega) (by omega), X2_widthOf, nI_1, zCut, lenW])
    simp [nI_0, lenW] at L
    simp [fX2_lengthIn, bX2_lengthIn, mI, sSeq, sIf, bZ, eF, rL, rdI, ha, z_eq, sRi, eC, zCut, nLen, h0, hz, sNop, sLi, eOp, eL, zSt, sBlk, L]
theorem X3_nameLength {o : Nat} (ho : h.2 o = some (cOr a g)) (ha : h.2 a = some (cNm la (nI n))) (hl : h.2 la = some (xI 12 fa)) (hn : n ≤ 12) : fX3_nameLength [.ref o] h = some (nLen fa n (g 2), h) := by
  simp [fX3_nameLength, bX3_nameLength, mI_sRi, eCV, rF, rL, rdR, ho, aI, aN, eF, rdI, isO, ha, X2_lengthIn ha hl hn]
theorem X3_effort {o : Nat} (ho : h.2 o = some (cOr a g)) (ha : h.2 a = some (cNm la (nI n))) : fX3_effort [.ref o] h = some (nI n * (g 2 + g 3), h) := by
  simp [fX3_effort, bX3_effort, mI_sRi, eOp, eF, rF, rL, rdR, rdI, ho, ha]
def cpTo (f g : Nat → Int32) (i : Nat) : Nat → Int32 := fun j => if j < i then g j else f j
theorem cpTo_0 (f g : Nat → Int32) : cpTo f g 0 = f := by funext j; simp [cpTo]
theorem cpTo_s (f g : Nat → Int32) (i : Nat) : upd (cpTo f g i) i (g i) = cpTo f g (i + 1) := by
  funext j
  simp only [upd, cpTo]
  by_cases h1 : j = i
  · subst h1; simp
  · by_cases h2 : j < i
    · simp [h1, h2, show j < i + 1 by omega]
    · simp [h1, h2, show ¬ j < i + 1 by omega]
theorem X2_copyFrom {q : Int32} (ha : h.2 a = some (cNm la q)) (hl : h.2 la = some (xI 12 fa)) (hb : h.2 b = some (cNm lb (nI n))) (hm : h.2 lb = some (xI 12 fb)) (e1 : a ≠ la) (e2 : b ≠ a) (e3 : lb ≠ a) (e4 : b ≠ la) (e5 : lb ≠ la) : fX2_copyFrom [.ref a, .ref b] h = some (hp (hp h a (cNm la (nI n))) la (xI 12 (cpTo fa fb 12))) := by
  have L := sW_run (c := bCmp o_lt (eL 2) (eC 12)) (f := sSeq (sA (rF 2 0 (rL 0)) (eL 2) (eA (rF 2 0 (rL 1)) (eL 2))) (sInc 2 1)) (fun i => ([.ref a, .ref b, .int (nI i)], hp (hp h a (cNm la (nI n))) la (xI 12 (cpTo fa fb i)))) 12 12 4000 0 (by omega) (by omega) (by omega)
    (fun j h1 h2 => by simp [bCmp, eL, eC, show (12 : Int32) = nI 12 from rfl, o_lt_nI (a := j) (b := 12) (by omega) (by omega)])
    (fun j h1 h2 => by
      have w := wrA_of (h := hp (hp h a (cNm la (nI n))) la (xI 12 (cpTo fa fb j))) (a := la) (v := fb j) (hp_self _ _ _) (show j < 12 by omega) (by omega)
      have r := rdA_of (h := hp (hp h a (cNm la (nI n))) la (xI 12 (cpTo fa fb j))) (a := lb) (f := fb) (n := 12) (by rw [hp_ne _ _ e5, hp_ne _ _ e3]; exact hm) (show j < 12 by omega) (by omega)
      have r1 := rdR_of (h := hp (hp h a (cNm la (nI n))) la (xI 12 (cpTo fa fb j))) (ci := 2) (k := 0) (a := a) (v := la) (by rw [hp_ne _ _ e1, hp_self]) rfl
      have r2 := rdR_of (h := hp (hp h a (cNm la (nI n))) la (xI 12 (cpTo fa fb j))) (ci := 2) (k := 0) (a := b) (v := lb) (by rw [hp_ne _ _ e4, hp_ne _ _ e2]; exact hb) rfl
      simp [sSeq, sA, sInc, zSt, eL, eA, rF, rL, r, r1, r2, w, nI_1, hp_hp, cpTo_s, zCut])
  simp [nI_0, cpTo_0] at L
  rw [show hp (hp h a (cNm la (nI n))) la (xI 12 fa) = hp h a (cNm la (nI n)) from hp_id (by rw [hp_ne _ _ e1.symm]; exact hl)] at L
  have r1 := rdI_of (h := h) (ci := 2) (k := 1) (a := b) (v := nI n) hb rfl
  have w1 := wrO_of (h := h) (ci := 2) (k := 1) (a := a) (v := .int (nI n)) ha (by simp)
  simp at w1
  simp [fX2_copyFrom, bX2_copyFrom, mV, sSeq, sF, eF, rL, r1, w1, sBlk, sLi, eC, zSt, L, zCut, sRv]
end ZP2
