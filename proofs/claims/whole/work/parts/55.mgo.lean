/-! the reference: findPlate, goesOn, finish, hurryIn -/
section ZM7
variable {h : zH} {m i j n : Nat} {g SV TX AS : Nat → Int32} {R T : Nat → Nat → Int32}
theorem gW_init {S : Nat → Int32} {its d : Int32} {w : Bool} {k : Nat} {c : Int32} : gW (upd (upd g 7 (-9)) 9 c) S its d w k = gW g S its d w k := by
  funext x
  simp only [gW, gF, upd]
  by_cases h8 : x = 8 <;> by_cases h7 : x = 7 <;> by_cases h9 : x = 9 <;> simp [h7, h8, h9]
theorem gW_9 {S : Nat → Int32} {its d : Int32} {w : Bool} {k : Nat} {c : Int32} : gW (upd g 9 c) S its d w k = gW g S its d w k := by
  funext x
  simp only [gW, gF, upd]
  by_cases h8 : x = 8 <;> by_cases h7 : x = 7 <;> by_cases h9 : x = 9 <;> simp [h7, h8, h9]
theorem gW_7 {S : Nat → Int32} {its d : Int32} {w : Bool} {k : Nat} : gW g S its d w k 7 = toI (bstO S its d w k) := gF_7
def fndB (o : Option (Bool × Nat)) : Bool := match o with
  | none => false
  | some _ => true
theorem o_eq_self (a : Int32) : o_eq a a = true := by simp [o_eq]
theorem toI_ne {p : Nat} (h : p < 2 ^ 31) : o_eq (toI (some p)) (-9) = false := by simp [o_eq, toI, nI_ne9 h]
set_option maxHeartbeats 2000000 in
theorem X7_findPlate {nP : Nat} (hi : i = 1 ∨ i = 2) (h1 : R i 1 = nI nP) (hn : nP ≤ 20) (its d : Int32) : fX7_findPlate [.ref m, .ref (m + i), .int its, .int d] (hM h m g R SV TX T AS) = some (bI (fndB (fnd (R i) its d nP)), hM h m (gFP g (R i) its d nP) R SV TX T AS) := by
  have I0 := fP_in (h := h) (m := m) (g := upd (upd g 7 (-9)) 9 (bI false)) (SV := SV) (TX := TX) (T := T) (AS := AS) hi h1 hn its d 0 false (by simp [upd]) (by simp [upd])
  rw [gW_init] at I0
  cases hb : bstO (R i) its d false nP with
  | some p =>
    have hp20 : p < 20 := by have := (bstO_lt hb).1; omega
    have e7 : gW g (R i) its d false nP 7 = toI (some p) := by rw [gW_7, hb]
    have L := sW_run (c := bAnd (bCmp o_lt (eL 4) (eC 2)) (bCmp o_eq (eF 7 7 (rL 0)) (eC (-9)))) (f := sSeq (sSeq (sFz 7 9 (rL 0) (eB (bCmp o_eq (eL 4) (eC 1)))) (sBlk (sSeq (sLi 5 (eC 0)) (sW 4000 (bCmp o_lt (eL 5) (eA (rL 1) (eC 1))) fPin)))) (sInc 4 1)) (fun y => ([.ref m, .ref (m + i), .int its, .int d, .int (nI y)], hM h m (if y = 0 then upd g 7 (-9) else gW g (R i) its d false nP) R SV TX T AS)) 1 1 4000 0 (by omega) (by omega) (by omega)
      (fun y g1 g2 => by
        rcases (show y = 0 ∨ y = 1 by omega) with rfl | rfl
        · simp [bAnd, bCmp, eL, eC, eF, rL, nI_0, show o_lt 0 2 = true from rfl, rMo7, upd, o_eq_self]
        · simp [bAnd, bCmp, eL, eC, eF, rL, show o_lt (nI 1) 2 = true from rfl, rMo7, e7, toI_ne (show p < 2 ^ 31 by omega)])
      (fun y g1 g2 => by
        obtain rfl : y = 0 := by omega
        have e01 : o_eq 0 1 = false := rfl
        have e00 : bI false = 0 := rfl
        rw [e00] at I0
        simp [sSeq, sFz, eB_bI, bCmp, eL, eC, rL, nI_0, e01, e00, wMo9, sBlk, sLi, zSt, I0, zCut, sInc]
        rfl)
    simp [nI_0] at L
    simp [fX7_findPlate, bX7_findPlate, mZ, sSeq, sF, rL, eC, wMo7, sBlk, sLi, zSt, zCut, sRi, eB_bI, bCmp, eF, rMo7, fnd, gFP, hb, fndB]
    simp [L, zCut, rL, rMo7, e7, o_ne, toI, nI_ne9 (show p < 2 ^ 31 by omega), bI]
  | none =>
    have e7 : gW g (R i) its d false nP 7 = -9 := by rw [gW_7, hb]; rfl
    have I1 := fP_in (h := h) (m := m) (g := upd (gW g (R i) its d false nP) 9 (bI true)) (SV := SV) (TX := TX) (T := T) (AS := AS) hi h1 hn its d (nI 1) true (by simp [upd, e7]) (by simp [upd])
    rw [gW_9] at I1
    have L := sW_run (c := bAnd (bCmp o_lt (eL 4) (eC 2)) (bCmp o_eq (eF 7 7 (rL 0)) (eC (-9)))) (f := sSeq (sSeq (sFz 7 9 (rL 0) (eB (bCmp o_eq (eL 4) (eC 1)))) (sBlk (sSeq (sLi 5 (eC 0)) (sW 4000 (bCmp o_lt (eL 5) (eA (rL 1) (eC 1))) fPin)))) (sInc 4 1)) (fun y => ([.ref m, .ref (m + i), .int its, .int d, .int (nI y)], hM h m (if y = 0 then upd g 7 (-9) else if y = 1 then gW g (R i) its d false nP else gW (gW g (R i) its d false nP) (R i) its d true nP) R SV TX T AS)) 2 2 4000 0 (by omega) (by omega) (by omega)
      (fun y g1 g2 => by
        rcases (show y = 0 ∨ y = 1 ∨ y = 2 by omega) with rfl | rfl | rfl
        · simp [bAnd, bCmp, eL, eC, eF, rL, nI_0, show o_lt 0 2 = true from rfl, rMo7, upd, o_eq_self]
        · simp [bAnd, bCmp, eL, eC, eF, rL, show o_lt (nI 1) 2 = true from rfl, rMo7, e7, o_eq_self]
        · simp [bAnd, bCmp, eL, eC, show o_lt (nI 2) 2 = false from rfl])
      (fun y g1 g2 => by
        rcases (show y = 0 ∨ y = 1 by omega) with rfl | rfl
        · have e01 : o_eq 0 1 = false := rfl
          have e00 : bI false = 0 := rfl
          rw [e00] at I0
          simp [sSeq, sFz, eB_bI, bCmp, eL, eC, rL, nI_0, e01, e00, wMo9, sBlk, sLi, zSt, I0, zCut, sInc]
          rfl
        · have e01 : o_eq (nI 1) 1 = true := rfl
          have e00 : bI true = 1 := rfl
          rw [e00] at I1
          simp [sSeq, sFz, eB_bI, bCmp, eL, eC, rL, e01, e00, wMo9, sBlk, sLi, zSt, I1, zCut, sInc]
          rfl)
    simp [nI_0] at L
    have e72 : gW (gW g (R i) its d false nP) (R i) its d true nP 7 = toI (bstO (R i) its d true nP) := gW_7
    cases hb2 : bstO (R i) its d true nP with
    | none =>
      rw [hb2] at e72
      simp [fX7_findPlate, bX7_findPlate, mZ, sSeq, sF, rL, eC, wMo7, sBlk, sLi, zSt, zCut, sRi, eB_bI, bCmp, eF, rMo7, fnd, gFP, hb, hb2, fndB]
      simp [L, zCut, rL, rMo7, e72, o_ne, toI, bI]
    | some p =>
      have hp20 : p < 20 := by have := (bstO_lt hb2).1; omega
      rw [hb2] at e72
      simp [fX7_findPlate, bX7_findPlate, mZ, sSeq, sF, rL, eC, wMo7, sBlk, sLi, zSt, zCut, sRi, eB_bI, bCmp, eF, rMo7, fnd, gFP, hb, hb2, fndB]
      simp [L, zCut, rL, rMo7, e72, o_ne, toI, nI_ne9 (show p < 2 ^ 31 by omega), bI]
end ZM7
