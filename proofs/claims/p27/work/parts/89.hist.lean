/-! the class: the history -/
abbrev cHi (t : Nat) (n : Nat) : zX := xO 1 [.ref (t + 56), .int (nI n)]
def rfH (t : Nat) (ro : Nat → Nat) : Nat → Option Nat := fun k => if k < 5 then some (t + 57 + 54 * ro k) else none
def dnH (ro : Nat → Nat) (y : Nat) : Nat → Nat := fun k => if k + 1 < y then ro (k + 1) else ro k
def rotH (ro : Nat → Nat) : Nat → Nat := fun k => if k < 4 then ro (k + 1) else ro 0
def P5 (ro : Nat → Nat) : Prop := (∀ k, k < 5 → ro k < 5) ∧ ∀ a b, a < 5 → b < 5 → ro a = ro b → a = b
theorem P5_rot {ro : Nat → Nat} (h : P5 ro) : P5 (rotH ro) := by
  refine ⟨fun k hk => ?_, fun a b ha hb e => ?_⟩
  · simp only [rotH]
    split
    · exact h.1 _ (by omega)
    · exact h.1 _ (by omega)
  · simp only [rotH] at e
    split at e <;> split at e
    · have := h.2 _ _ (by omega) (by omega) e; omega
    · have := h.2 _ _ (by omega) (by omega) e; omega
    · have := h.2 _ _ (by omega) (by omega) e; omega
    · omega
theorem dnH_s {t y : Nat} {ro : Nat → Nat} (hy : 1 ≤ y) (h5 : y < 5) : va_up (rfH t (dnH ro y)) (y - 1) (some (t + 57 + 54 * ro y)) = rfH t (dnH ro (y + 1)) := by
  funext k
  by_cases e : k = y - 1
  · subst e
    rw [va_up_self]
    simp only [rfH, dnH]
    rw [if_pos (by omega), if_pos (by omega), show y - 1 + 1 = y by omega]
  · rw [va_up_ne _ _ e]
    simp only [rfH, dnH]
    by_cases h : k < 5
    · rw [if_pos h, if_pos h]
      by_cases h2 : k + 1 < y
      · rw [if_pos h2, if_pos (by omega)]
      · rw [if_neg h2, if_neg (by omega)]
    · rw [if_neg h, if_neg h]
theorem dnH_1 {t : Nat} {ro : Nat → Nat} : rfH t (dnH ro 1) = rfH t ro := by
  funext k
  simp only [rfH, dnH]
  split
  · rw [if_neg (by omega)]
  · rfl
theorem dnH_5 {t : Nat} {ro : Nat → Nat} : va_up (rfH t (dnH ro 5)) 4 (some (t + 57 + 54 * ro 0)) = rfH t (rotH ro) := by
  funext k
  by_cases e : k = 4
  · subst e; rw [va_up_self]; simp [rfH, rotH]
  · rw [va_up_ne _ _ e]
    simp only [rfH, dnH, rotH]
    by_cases h : k < 5
    · rw [if_pos h, if_pos h, if_pos (by omega), if_pos (by omega)]
    · rw [if_neg h, if_neg h]
section ZHI
variable {h : zH} {t nh : Nat} {ro : Nat → Nat}
theorem hi_0 (h0 : h.2 (t + 55) = some (cHi t nh)) : rdR h 1 0 (t + 55) = some (t + 56) := rdR_of h0 rfl
theorem hi_1 (h0 : h.2 (t + 55) = some (cHi t nh)) : rdI h 1 1 (t + 55) = some (nI nh) := rdI_of h0 rfl
theorem hi_is (h0 : h.2 (t + 55) = some (cHi t nh)) : isO h 1 (t + 55) = true := isO_of h0
theorem hi_w (h0 : h.2 (t + 55) = some (cHi t nh)) (n : Nat) : wrO h 1 1 (t + 55) (.int (nI n)) = some (hp h (t + 55) (cHi t n)) := by
  rw [wrO_of h0 (by simp)]; rfl
theorem hi_q {k : Nat} (h1 : h.2 (t + 56) = some (xR 5 5 (rfH t ro))) (hk : k < 5) : rdQ h 5 (t + 56) (nI k) = some (t + 57 + 54 * ro k) := rdQ_of h1 hk (by omega) (by simp [rfH, hk])
set_option maxRecDepth 100000 in
theorem X1_dropOldest (h0 : h.2 (t + 55) = some (cHi t nh)) (h1 : h.2 (t + 56) = some (xR 5 5 (rfH t ro))) (hr : P5 ro) (ho : ∀ k, k < 5 → isO h 5 (t + 57 + 54 * k) = true) (hn : 1 ≤ nh) :
    fX1_dropOldest [.ref (t + 55)] h = some (hp (hp h (t + 56) (xR 5 5 (rfH t (rotH ro)))) (t + 55) (cHi t (nh - 1))) := by
  have f0 : ∀ f : Nat → Option Nat, (hp h (t + 56) (xR 5 5 f)).2 (t + 55) = some (cHi t nh) := fun f => by rw [hp_ne _ _ (by omega)]; exact h0
  have io : ∀ (f : Nat → Option Nat) (k : Nat), k < 5 → isO (hp h (t + 56) (xR 5 5 f)) 5 (t + 57 + 54 * k) = true := fun f k hk => by
    have := ho k hk
    simp only [isO] at this ⊢
    rw [va_up_ne _ _ (by omega)]
    exact this
  have LL := sW_run (c := bCmp o_lt (eL 2) (eC 5)) (f := sSeq (sQ 5 (rF 1 0 (rL 0)) (eOp (· - ·) (eL 2) (eC 1)) (rQ 5 (rF 1 0 (rL 0)) (eL 2))) (sInc 2 1)) (fun y => ([.ref (t + 55), .ref (t + 57 + 54 * ro 0), .int (nI y)], hp h (t + 56) (xR 5 5 (rfH t (dnH ro y))))) 5 4 4000 1 (by omega) (by omega) (by omega)
    (fun y g1 g2 => by simp [bCmp, eL, eC, show (5 : Int32) = nI 5 from rfl, o_lt_nI (a := y) (b := 5) (by omega) (by omega)])
    (fun y g1 g2 => by
      have q := rdQ_of (h := hp h (t + 56) (xR 5 5 (rfH t (dnH ro y)))) (b := t + 57 + 54 * ro y) (hp_self _ _ _) g2 (by omega) (by simp only [rfH, dnH]; rw [if_pos g2, if_neg (by omega)])
      have w := wrQ_of (h := hp h (t + 56) (xR 5 5 (rfH t (dnH ro y)))) (b := t + 57 + 54 * ro y) (hp_self _ _ _) (show y - 1 < 5 by omega) (by omega) (io _ _ (hr.1 y g2))
      rw [hp_hp, dnH_s g1 g2] at w
      simp [sSeq, sQ, rF, rL, hi_0 (f0 _), eOp, eL, eC, nI_sub1 (y := y) (by omega), rQ, q, w, sInc, zSt, nI_1, zCut])
  have e1 : hp h (t + 56) (xR 5 5 (rfH t (dnH ro 1))) = h := by rw [dnH_1]; exact hp_id h1
  simp only [e1, show (nI 1 : Int32) = 1 from rfl] at LL
  have w4 := wrQ_of (h := hp h (t + 56) (xR 5 5 (rfH t (dnH ro 5)))) (b := t + 57 + 54 * ro 0) (hp_self _ _ _) (show 4 < 5 by omega) (by omega) (io _ _ (hr.1 0 (by omega)))
  rw [hp_hp, dnH_5, show (nI 4 : Int32) = 4 from rfl] at w4
  have q0 := hi_q (k := 0) h1 (by omega)
  rw [nI_0] at q0
  have wi := hi_w (f0 (rfH t (rotH ro))) (nh - 1)
  simp [fX1_dropOldest, bX1_dropOldest, mV, sSeq, sLr, rQ, rF, rL, hi_0 h0, eC, q0, zSt, sBlk, sLi, LL, zCut, sQ, hi_0 (f0 _), w4, sFa, hi_1 (f0 _), nI_sub1 hn, wi, sRv]
end ZHI
