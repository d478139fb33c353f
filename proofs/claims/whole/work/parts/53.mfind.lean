/-! the reference: putIn, fix, findPlate -/
def shUp (S : Nat → Int32) (nO n : Nat) : Nat → Int32 := fun x => if 172 + 19 * nO - n ≤ x ∧ x < 172 + 19 * nO then S (x - 19) else S x
def putA (S : Nat → Int32) (a : Nat) (A : Nat → Int32) (n : Nat) : Nat → Int32 := fun x => if a ≤ x ∧ x < a + n then A (x - a) else S x
def opPut (S A : Nat → Int32) (pl nO : Nat) : Nat → Int32 :=
  upd (upd (putA (shUp S nO (19 * (nO - pl))) (153 + 19 * pl) A 19) 2 (nI (nO + 1))) 3 (S 3 + (if nI pl ≤ S 3 then 1 else 0))
theorem shUp_s {S : Nat → Int32} {nO y : Nat} (hy : y < 19 * nO) : upd (shUp S nO y) (152 + 19 * nO - y + 19) (S (152 + 19 * nO - y)) = shUp S nO (y + 1) := by
  funext x
  simp only [upd, shUp]
  by_cases h1 : x = 152 + 19 * nO - y + 19
  · subst h1
    rw [if_pos rfl, if_pos (by omega)]
    congr 1
  · by_cases h2 : 172 + 19 * nO - y ≤ x ∧ x < 172 + 19 * nO
    · rw [if_neg h1, if_pos h2, if_pos (by omega)]
    · rw [if_neg h1, if_neg h2, if_neg (by omega)]
theorem putA_s {S A : Nat → Int32} {a y : Nat} : upd (putA S a A y) (a + y) (A y) = putA S a A (y + 1) := by
  funext x
  simp only [upd, putA]
  by_cases h1 : x = a + y
  · subst h1
    rw [if_pos rfl, if_pos (by omega), Nat.add_sub_cancel_left]
  · by_cases h2 : a ≤ x ∧ x < a + y
    · rw [if_neg h1, if_pos h2, if_pos (by omega)]
    · rw [if_neg h1, if_neg h2, if_neg (by omega)]
theorem o_ge_nI {a b : Nat} (ha : a < 2 ^ 31) (hb : b < 2 ^ 31) : o_ge (nI a) (nI b) = decide (b ≤ a) := by
  simp [o_ge, nI_leI hb ha]
theorem nI_dec {y : Nat} (hy : 0 < y) : nI y + -1 = nI (y - 1) := by
  rw [show y = (y - 1) + 1 by omega, ← nI_1]
  simp [Int32.add_assoc]
theorem nI_sub1 {y : Nat} (hy : 0 < y) : nI y - 1 = nI (y - 1) := by
  rw [Int32.sub_eq_add_neg]
  exact nI_dec hy
def lastO (P : Nat → Bool) : Nat → Option Nat
  | 0 => none
  | n + 1 => if P n = true then some n else lastO P n
theorem lastM_O (P : Nat → Bool) : ∀ n, lastM P n = toI (lastO P n)
  | 0 => rfl
  | n + 1 => by
    simp only [lastM, lastO]
    split
    · rfl
    · exact lastM_O P n
theorem lastO_lt {P : Nat → Bool} {q : Nat} : ∀ {n}, lastO P n = some q → q < n ∧ P q = true
  | 0, h => by cases h
  | n + 1, h => by
    simp only [lastO] at h
    split at h
    · rename_i hp
      cases h
      exact ⟨by omega, hp⟩
    · obtain ⟨h1, h2⟩ := lastO_lt h
      exact ⟨by omega, h2⟩
def opFix0 (S : Nat → Int32) (p s : Nat) (y : Int32) : Nat → Int32 := upd (upd (upd S (10 + 7 * p + 2) 2) (10 + 7 * p + 5) (nI s)) (10 + 7 * p + 6) y
/-- the plate of the earliest year on a shield -/
def earO (S : Nat → Int32) (s nP : Nat) : Option Nat := lastO (onY S (nI s) (yrM (onS S (nI s)) (fun p => sP S p 6) 1 nP)) nP
def opOut (S : Nat → Int32) (o : Option Nat) : Nat → Int32 := match o with
  | some q => upd S (10 + 7 * q + 2) 0
  | none => S
def opFix (S : Nat → Int32) (p s : Nat) (y : Int32) (nP : Nat) : Nat → Int32 :=
  if opFix0 S p s y (150 + s) < cnt (onS (opFix0 S p s y) (nI s)) nP then opOut (opFix0 S p s y) (earO (opFix0 S p s y) s nP) else opFix0 S p s y
def okM (S : Nat → Int32) (its d : Int32) (w : Bool) (p : Nat) : Bool := decide (sP S p 2 = 0) && decide (its ≤ sP S p 0) && (mayM S p 0 d w || mayM S p 1 d w)
def bstO (S : Nat → Int32) (its d : Int32) (w : Bool) : Nat → Option Nat
  | 0 => none
  | n + 1 => if (okM S its d w n && btM S n (bstO S its d w n)) = true then some n else bstO S its d w n
theorem bstO_lt {S : Nat → Int32} {its d : Int32} {w : Bool} {q : Nat} : ∀ {n}, bstO S its d w n = some q → q < n ∧ okM S its d w q = true
  | 0, h => by cases h
  | n + 1, h => by
    simp only [bstO] at h
    split at h
    · rename_i hp0
      cases h
      simp only [Bool.and_eq_true] at hp0
      exact ⟨by omega, hp0.1⟩
    · obtain ⟨h1, h2⟩ := bstO_lt h
      exact ⟨by omega, h2⟩
def gF (g : Nat → Int32) (a b c : Int32) : Nat → Int32 := upd (upd (upd g 7 a) 8 b) 9 c
def fsO (S : Nat → Int32) (d : Int32) (w : Bool) (o : Option Nat) (old : Int32) : Int32 := match o with
  | none => old
  | some p => if mayM S p 0 d w = true then 0 else 1
def gW (g : Nat → Int32) (S : Nat → Int32) (its d : Int32) (w : Bool) (n : Nat) : Nat → Int32 := gF g (toI (bstO S its d w n)) (fsO S d w (bstO S its d w n) (g 8)) (bI w)
/-- which plate: by way of grinding or not, its number -/
def fnd (S : Nat → Int32) (its d : Int32) (nP : Nat) : Option (Bool × Nat) := match bstO S its d false nP with
  | some p => some (false, p)
  | none => match bstO S its d true nP with
    | some p => some (true, p)
    | none => none
def gFP (g S : Nat → Int32) (its d : Int32) (nP : Nat) : Nat → Int32 := match bstO S its d false nP with
  | some _ => gW g S its d false nP
  | none => gW (gW g S its d false nP) S its d true nP
section ZM5
variable {h : zH} {m i j n : Nat} {g SV TX AS : Nat → Int32} {R T : Nat → Nat → Int32}
set_option maxRecDepth 100000 in
theorem X7_putIn {pl nO : Nat} (hi : i = 1 ∨ i = 2) (h2 : R i 2 = nI nO) (hn : nO ≤ 9) (hk : pl ≤ nO) : fX7_putIn [.ref m, .ref (m + i), .int (nI pl)] (hM h m g R SV TX T AS) = some (hM h m g (va_up R i (opPut (R i) AS pl nO)) SV TX T AS) := by
  have L1 := sW_run (c := bCmp o_ge (eL 3) (eOp (· + ·) (eC 153) (eOp (· * ·) (eC 19) (eL 2)))) (f := sSeq (sA (rL 1) (eOp (· + ·) (eL 3) (eC 19)) (eA (rL 1) (eL 3))) (sInc 3 (-1))) (fun y => ([.ref m, .ref (m + i), .int (nI pl), .int (nI (152 + 19 * nO - y))], hM h m g (va_up R i (shUp (R i) nO y)) SV TX T AS)) (19 * (nO - pl)) (19 * (nO - pl)) 4000 0 (by omega) (by omega) (by omega)
    (fun y g1 g2 => by
      simp [bCmp, eL, eC, eOp, ixO0, o_ge_nI (a := 152 + 19 * nO - y) (b := 153 + 19 * pl) (by omega) (by omega)]
      omega)
    (fun y g1 g2 => by
      have a1 := rdA_of (h := hM h m g (va_up R i (shUp (R i) nO y)) SV TX T AS) (hM_r hi) (show 152 + 19 * nO - y < 343 by omega) (by omega)
      rw [up_self, show shUp (R i) nO y (152 + 19 * nO - y) = R i (152 + 19 * nO - y) by simp only [shUp]; rw [if_neg (by omega)]] at a1
      have w1 := wrA_of (h := hM h m g (va_up R i (shUp (R i) nO y)) SV TX T AS) (v := R i (152 + 19 * nO - y)) (hM_r hi) (show 152 + 19 * nO - y + 19 < 343 by omega) (by omega)
      rw [wM_r hi, up_self, up_up, shUp_s (by omega)] at w1
      have e19 : nI (152 + 19 * nO - y) + 19 = nI (152 + 19 * nO - y + 19) := by rw [show (19 : Int32) = nI 19 from rfl, nI_add]
      have em : nI (152 + 19 * nO - y) + -1 = nI (152 + 19 * nO - (y + 1)) := by rw [nI_dec (by omega)]; rfl
      simp [sSeq, sA, sInc, zSt, eL, eC, eA, eOp, rL, e19, a1, w1, em, zCut])
  have e0 : shUp (R i) nO 0 = R i := by
    funext x
    simp only [shUp]
    rw [if_neg (by omega)]
  simp [e0, up_id] at L1
  have L2 := sW_run (c := bCmp o_lt (eL 3) (eC 19)) (f := sSeq (sA (rL 1) (eOp (· + ·) (eOp (· + ·) (eC 153) (eOp (· * ·) (eC 19) (eL 2))) (eL 3)) (eA (rF 7 12 (rL 0)) (eL 3))) (sInc 3 1)) (fun y => ([.ref m, .ref (m + i), .int (nI pl), .int (nI y)], hM h m g (va_up R i (putA (shUp (R i) nO (19 * (nO - pl))) (153 + 19 * pl) AS y)) SV TX T AS)) 19 19 4000 0 (by omega) (by omega) (by omega)
    (fun y g1 g2 => by simp [bCmp, eL, eC, show (19 : Int32) = nI 19 from rfl, o_lt_nI (a := y) (b := 19) (by omega) (by omega)])
    (fun y g1 g2 => by
      have a1 := rdA_of (h := hM h m g (va_up R i (putA (shUp (R i) nO (19 * (nO - pl))) (153 + 19 * pl) AS y)) SV TX T AS) (a := m + 7) hM_7 g2 (by omega)
      have w1 := wrA_of (h := hM h m g (va_up R i (putA (shUp (R i) nO (19 * (nO - pl))) (153 + 19 * pl) AS y)) SV TX T AS) (v := AS y) (hM_r hi) (show 153 + 19 * pl + y < 343 by omega) (by omega)
      rw [wM_r hi, up_self, up_up, putA_s] at w1
      simp [sSeq, sA, sInc, zSt, eL, eC, eA, eOp, rL, rF, rdR, hM_0, ixO, a1, w1, nI_1, zCut])
  have e1 : putA (shUp (R i) nO (19 * (nO - pl))) (153 + 19 * pl) AS 0 = shUp (R i) nO (19 * (nO - pl)) := by
    funext x
    simp only [putA]
    rw [if_neg (by omega)]
  simp [e1, nI_0] at L2
  have f2 : ∀ y, y < 10 → putA (shUp (R i) nO (19 * (nO - pl))) (153 + 19 * pl) AS 19 y = R i y := fun y hy => by
    simp only [putA, shUp]
    rw [if_neg (by omega), if_neg (by omega)]
  have r0 := hd2 (h := hM h m g R SV TX T AS) (hM_r hi)
  have r2 := hd2 (h := hM h m g (va_up R i (putA (shUp (R i) nO (19 * (nO - pl))) (153 + 19 * pl) AS 19)) SV TX T AS) (hM_r hi)
  rw [up_self, f2 2 (by omega), h2] at r2
  have w2 := wh2 (h := hM h m g (va_up R i (putA (shUp (R i) nO (19 * (nO - pl))) (153 + 19 * pl) AS 19)) SV TX T AS) (hM_r hi) (nI (nO + 1))
  rw [wM_r hi, up_self, up_up] at w2
  have r3 := hd3 (h := hM h m g (va_up R i (upd (putA (shUp (R i) nO (19 * (nO - pl))) (153 + 19 * pl) AS 19) 2 (nI (nO + 1)))) SV TX T AS) (hM_r hi)
  rw [up_self, upd_ne (by omega), f2 3 (by omega)] at r3
  have w3 := wh3 (h := hM h m g (va_up R i (upd (putA (shUp (R i) nO (19 * (nO - pl))) (153 + 19 * pl) AS 19) 2 (nI (nO + 1)))) SV TX T AS) (hM_r hi) (R i 3 + (if nI pl ≤ R i 3 then 1 else 0))
  rw [wM_r hi, up_self, up_up] at w3
  have eb : nI (153 + 19 * nO) - 1 = nI (152 + 19 * nO) := by rw [nI_sub1 (by omega)]; congr 1; omega
  by_cases hz : nI pl ≤ R i 3 <;> simp [hz] at w3 <;> simp [fX7_putIn, bX7_putIn, mV, sSeq, sBlk, sLi, zSt, eC, eL, eOp, eA, rL, r0, h2, ixO0, eb, L1, zCut, L2, sAa, r2, nI_1, w2, r3, eT, bCmp, o_ge, hz, w3, sRv, opPut]
theorem X7_fix {p s nP : Nat} {y : Int32} (hi : i = 1 ∨ i = 2) (h1 : R i 1 = nI nP) (hn : nP ≤ 20) (hp0 : p < 20) (hs : s < 3) (hq : opFix0 (R i) p s y (150 + s) < cnt (onS (opFix0 (R i) p s y) (nI s)) nP → ∃ q, earO (opFix0 (R i) p s y) s nP = some q) : fX7_fix [.ref (m + i), .int (nI p), .int (nI s), .int y] (hM h m g R SV TX T AS) = some (hM h m g (va_up R i (opFix (R i) p s y nP)) SV TX T AS) := by
  have s1 := X7_set (h := h) (m := m) (g := g) (R := R) (SV := SV) (TX := TX) (T := T) (AS := AS) hi hp0 (c := 2) (v := 2) (k := 2) rfl (by omega)
  have s2 := X7_set (h := h) (m := m) (g := g) (R := va_up R i (upd (R i) (10 + 7 * p + 2) 2)) (SV := SV) (TX := TX) (T := T) (AS := AS) hi hp0 (c := 5) (v := nI s) (k := 5) rfl (by omega)
  rw [up_self, up_up] at s2
  have s3 := X7_set (h := h) (m := m) (g := g) (R := va_up R i (upd (upd (R i) (10 + 7 * p + 2) 2) (10 + 7 * p + 5) (nI s))) (SV := SV) (TX := TX) (T := T) (AS := AS) hi hp0 (c := 6) (v := y) (k := 6) rfl (by omega)
  rw [up_self, up_up] at s3
  change _ = some (hM h m g (va_up R i (opFix0 (R i) p s y)) SV TX T AS) at s3
  have n1 : va_up R i (opFix0 (R i) p s y) i 1 = nI nP := by
    rw [up_self, opFix0, upd_ne (by omega), upd_ne (by omega), upd_ne (by omega), h1]
  have c1 := X7_platesOn (h := hM h m g (va_up R i (opFix0 (R i) p s y)) SV TX T AS) (hM_r hi) n1 hn (nI s)
  have c2 := X7_yearOn (h := hM h m g (va_up R i (opFix0 (R i) p s y)) SV TX T AS) (hM_r hi) n1 hn (nI s) 1
  have c3 := X7_plateOn (h := hM h m g (va_up R i (opFix0 (R i) p s y)) SV TX T AS) (hM_r hi) n1 hn (nI s) (yrM (onS (opFix0 (R i) p s y) (nI s)) (fun x => sP (opFix0 (R i) p s y) x 6) 1 nP)
  have c4 := hd150 (h := hM h m g (va_up R i (opFix0 (R i) p s y)) SV TX T AS) (hM_r hi) hs
  rw [up_self] at c1 c2 c3 c4
  rw [lastM_O] at c3
  by_cases hz : opFix0 (R i) p s y (150 + s) < cnt (onS (opFix0 (R i) p s y) (nI s)) nP
  · obtain ⟨q, hq'⟩ := hq hz
    have hq2 : lastO (onY (opFix0 (R i) p s y) (nI s) (yrM (onS (opFix0 (R i) p s y) (nI s)) (fun x => sP (opFix0 (R i) p s y) x 6) 1 nP)) nP = some q := hq'
    rw [hq2] at c3
    have s4 := X7_set (h := h) (m := m) (g := g) (R := va_up R i (opFix0 (R i) p s y)) (SV := SV) (TX := TX) (T := T) (AS := AS) hi (show q < 20 by have := (lastO_lt hq2).1; omega) (c := 2) (v := 0) (k := 2) rfl (by omega)
    rw [up_self, up_up] at s4
    simp only [toI] at c3
    simp [fX7_fix, bX7_fix, mV, sSeq, sCS, eCS, sIf, aI, aR, aN, rL, eL, eC, eOp, eA, bCmp, o_gt, s1, s2, s3, c1, c2, c3, c4, hz, s4, zCut, sRv, opFix, hq', opOut]
  · simp [fX7_fix, bX7_fix, mV, sSeq, sCS, eCS, sIf, aI, aR, aN, rL, eL, eC, eOp, eA, bCmp, o_gt, s1, s2, s3, c1, c4, hz, zCut, sNop, sRv, opFix]
end ZM5
