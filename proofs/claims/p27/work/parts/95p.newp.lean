/-! the constructors: a shop, a history, a forecast, the reference -/
abbrev AtN (h : zH) (lo : Nat) : Prop := At h lo s0 (fun _ _ => 0) (fun _ => 0) (fun k => k) (fun _ _ => 0) (fun _ => 0) (fun _ _ => 0)
section ZNT
variable {f F : Nat → Option zX} {lo y z n a t m : Nat}
set_option maxRecDepth 100000 in
theorem sh_p : sW 21 (bCmp o_lt (eL 1) (eC 20)) (sSeq (sQ 4 (rF 5 0 (rL 0)) (eL 1) (rNw 4 [.int 0, .int 0, .int 0, .int 0, .int 0, .int 0, .int 0] (aN) fX4_init)) (sInc 1 1)) [.ref lo, .int 0] (hI f lo 0 0) = some (.inl ([.ref lo, .int (nI 20)], hI f lo 20 0)) := by
  have LL := sW_run (c := bCmp o_lt (eL 1) (eC 20)) (f := sSeq (sQ 4 (rF 5 0 (rL 0)) (eL 1) (rNw 4 [.int 0, .int 0, .int 0, .int 0, .int 0, .int 0, .int 0] (aN) fX4_init)) (sInc 1 1)) (fun y => ([.ref lo, .int (nI y)], hI f lo y 0)) 20 20 21 0 (by omega) (by omega) (by omega)
    (fun y g1 g2 => by simp [bCmp, eL, eC, show (20 : Int32) = nI 20 from rfl, o_lt_nI (a := y) (b := 20) (by omega) (by omega)])
    (fun y g1 g2 => by
      have r0 : rdR (hI f lo y 0) 5 0 lo = some (lo + 1) := rdR_of hI_0 rfl
      have w := wrQ_of (h := (lo + 4 + y + 1, va_up (hI f lo y 0).2 (lo + 4 + y) (some (cPl (fun _ => 0))))) (ci := 4) (a := lo + 1) (j := y) (b := lo + 4 + y) ((va_up_ne _ _ (by omega)).trans hI_1) g2 (by omega) (isO_of (va_up_self _ _ _))
      rw [hI_p g2] at w
      simp only [cPl] at w
      simp [sSeq, sQ, rF, rL, r0, eL, rNw, hI_n1, aN, X4_new, w, sInc, zSt, nI_1, zCut])
  exact LL
set_option maxRecDepth 100000 in
theorem sh_o : sW 11 (bCmp o_lt (eL 1) (eC 10)) (sSeq (sQ 3 (rF 5 2 (rL 0)) (eL 1) (rNw 3 [.null, .int 0, .int 0, .int 0, .int 0, .int 0, .int 0] (aN) fX3_init)) (sInc 1 1)) [.ref lo, .int 0] (hI f lo 20 0) = some (.inl ([.ref lo, .int (nI 10)], hI f lo 20 10)) := by
  have LL := sW_run (c := bCmp o_lt (eL 1) (eC 10)) (f := sSeq (sQ 3 (rF 5 2 (rL 0)) (eL 1) (rNw 3 [.null, .int 0, .int 0, .int 0, .int 0, .int 0, .int 0] (aN) fX3_init)) (sInc 1 1)) (fun z => ([.ref lo, .int (nI z)], hI f lo 20 z)) 10 10 11 0 (by omega) (by omega) (by omega)
    (fun y g1 g2 => by simp [bCmp, eL, eC, show (10 : Int32) = nI 10 from rfl, o_lt_nI (a := y) (b := 10) (by omega) (by omega)])
    (fun z g1 g2 => by
      have r0 : rdR (hI f lo 20 z) 5 2 lo = some (lo + 3) := rdR_of hI_0 rfl
      have e3 := X3_new (F := va_up (hI f lo 20 z).2 (lo + 24 + 3 * z) (some (xO 3 [.null, .int 0, .int 0, .int 0, .int 0, .int 0, .int 0]))) (n := lo + 24 + 3 * z + 1) (a := lo + 24 + 3 * z) (va_up_self _ _ _) (by omega) (by omega)
      have w := wrQ_of (h := (lo + 24 + 3 * z + 1 + 2, va_up (va_up (va_up (va_up (va_up (hI f lo 20 z).2 (lo + 24 + 3 * z) (some (xO 3 [.null, .int 0, .int 0, .int 0, .int 0, .int 0, .int 0]))) (lo + 24 + 3 * z + 1) (some (xO 2 [.null, .int 0]))) (lo + 24 + 3 * z + 1 + 1) (some (xI 12 (fun _ => 0)))) (lo + 24 + 3 * z + 1) (some (cNm (lo + 24 + 3 * z + 1 + 1) 0))) (lo + 24 + 3 * z) (some (cOr (lo + 24 + 3 * z + 1) (fun _ => 0))))) (ci := 3) (a := lo + 3) (j := z) (b := lo + 24 + 3 * z) ((va_up_ne _ _ (by omega)).trans ((va_up_ne _ _ (by omega)).trans ((va_up_ne _ _ (by omega)).trans ((va_up_ne _ _ (by omega)).trans ((va_up_ne _ _ (by omega)).trans hI_3))))) g2 (by omega) (isO_of (va_up_self _ _ _))
      have eo := hI_o (f := f) (lo := lo) g2
      rw [show lo + 24 + 3 * z + 3 = lo + 24 + 3 * z + 1 + 2 by omega] at eo
      rw [eo] at w
      generalize va_up (va_up (va_up (va_up (va_up (hI f lo 20 z).2 (lo + 24 + 3 * z) (some (xO 3 [.null, .int 0, .int 0, .int 0, .int 0, .int 0, .int 0]))) (lo + 24 + 3 * z + 1) (some (xO 2 [.null, .int 0]))) (lo + 24 + 3 * z + 1 + 1) (some (xI 12 (fun _ => 0)))) (lo + 24 + 3 * z + 1) (some (cNm (lo + 24 + 3 * z + 1 + 1) 0))) (lo + 24 + 3 * z) (some (cOr (lo + 24 + 3 * z + 1) (fun _ => 0))) = G at e3 w
      simp [sSeq, sQ, rF, rL, r0, eL, rNw, hI_n2, aN, e3, w, sInc, zSt, nI_1, zCut])
  exact LL
abbrev n5 (a b c : Value) (d e g i : Int32) : zX := xO 5 [a, b, c, .int 0, .int 0, .int 0, .int d, .int e, .int g, .int i, .int 0, .int 0, .int 0]
theorem hI_pre : ((lo + 4, va_up (va_up (va_up (va_up (va_up (va_up f (lo + 1) (some (xR 4 20 (fun _ => none)))) lo (some (n5 (.ref (lo + 1)) .null .null 0 0 0 0))) (lo + 2) (some (xI 3 (fun _ => 0)))) lo (some (n5 (.ref (lo + 1)) (.ref (lo + 2)) .null 0 0 0 0))) (lo + 3) (some (xR 3 10 (fun _ => none)))) lo (some (n5 (.ref (lo + 1)) (.ref (lo + 2)) (.ref (lo + 3)) (-9) (-9) (-9) (-9)))) : zH) = hI f lo 0 0 := by
  refine pair_ext fun x => ?_
  by_cases e0 : x = lo
  · subst e0
    rw [va_up_self, if_pos rfl]
    rfl
  · rw [va_up_ne _ _ e0, if_neg e0]
    by_cases e3 : x = lo + 3
    · subst e3
      rw [va_up_self, if_neg (by omega), if_neg (by omega), if_pos rfl]
      simp
    · rw [va_up_ne _ _ e3, va_up_ne _ _ e0]
      by_cases e2 : x = lo + 2
      · subst e2
        rw [va_up_self, if_neg (by omega), if_pos rfl]
      · rw [va_up_ne _ _ e2, va_up_ne _ _ e0]
        by_cases e1 : x = lo + 1
        · subst e1
          rw [va_up_self, if_pos rfl]
          simp
        · rw [va_up_ne _ _ e1, if_neg e1, if_neg e2, if_neg e3, if_neg (by omega), if_neg (by omega)]
set_option maxRecDepth 100000 in
/-- a shop is made -/
theorem X5_new (hf : f lo = some (n5 .null .null .null 0 0 0 0)) : ∃ h', fX5_init [.ref lo] (lo + 1, f) = some h' ∧ h'.1 = lo + 54 ∧ AtN h' lo ∧ ∀ x, x < lo → h'.2 x = f x := by
  have a1 : sFr 5 0 (rL 0) (rNR 4 20 (eC 20)) [.ref lo] (lo + 1, f) = some (.inl ([.ref lo], (lo + 2, va_up (va_up f (lo + 1) (some (xR 4 20 (fun _ => none)))) lo (some (n5 (.ref (lo + 1)) .null .null 0 0 0 0))))) := fr_NR hf (by simp) rfl (by omega)
  have a2 : ∀ F : Nat → Option zX, sFr 5 1 (rL 0) (rNA 3 (eC 3)) [.ref lo] (lo + 2, va_up F lo (some (n5 (.ref (lo + 1)) .null .null 0 0 0 0))) = some (.inl ([.ref lo], (lo + 3, va_up (va_up (va_up F lo (some (n5 (.ref (lo + 1)) .null .null 0 0 0 0))) (lo + 2) (some (xI 3 (fun _ => 0)))) lo (some (n5 (.ref (lo + 1)) (.ref (lo + 2)) .null 0 0 0 0))))) := fun F => fr_NA (va_up_self _ _ _) (by simp) rfl (by omega)
  have a3 : ∀ F : Nat → Option zX, sFr 5 2 (rL 0) (rNR 3 10 (eC 10)) [.ref lo] (lo + 3, va_up F lo (some (n5 (.ref (lo + 1)) (.ref (lo + 2)) .null 0 0 0 0))) = some (.inl ([.ref lo], (lo + 4, va_up (va_up (va_up F lo (some (n5 (.ref (lo + 1)) (.ref (lo + 2)) .null 0 0 0 0))) (lo + 3) (some (xR 3 10 (fun _ => none)))) lo (some (n5 (.ref (lo + 1)) (.ref (lo + 2)) (.ref (lo + 3)) 0 0 0 0))))) := fun F => fr_NR (va_up_self _ _ _) (by simp) rfl (by omega)
  have a4 : ∀ F : Nat → Option zX, sF 5 6 (rL 0) (eC (-9)) [.ref lo] (lo + 4, va_up F lo (some (n5 (.ref (lo + 1)) (.ref (lo + 2)) (.ref (lo + 3)) 0 0 0 0))) = some (.inl ([.ref lo], (lo + 4, va_up F lo (some (n5 (.ref (lo + 1)) (.ref (lo + 2)) (.ref (lo + 3)) (-9) 0 0 0))))) := fun F => by
    have e := fr_F (v := -9) (en := []) (n := lo + 4) (ci := 5) (k := 6) (va_up_self F lo (some (n5 (.ref (lo + 1)) (.ref (lo + 2)) (.ref (lo + 3)) 0 0 0 0))) (by simp)
    rw [up_up] at e
    exact e
  have a5 : ∀ F : Nat → Option zX, sF 5 7 (rL 0) (eC (-9)) [.ref lo] (lo + 4, va_up F lo (some (n5 (.ref (lo + 1)) (.ref (lo + 2)) (.ref (lo + 3)) (-9) 0 0 0))) = some (.inl ([.ref lo], (lo + 4, va_up F lo (some (n5 (.ref (lo + 1)) (.ref (lo + 2)) (.ref (lo + 3)) (-9) (-9) 0 0))))) := fun F => by
    have e := fr_F (v := -9) (en := []) (n := lo + 4) (ci := 5) (k := 7) (va_up_self F lo (some (n5 (.ref (lo + 1)) (.ref (lo + 2)) (.ref (lo + 3)) (-9) 0 0 0))) (by simp)
    rw [up_up] at e
    exact e
  have a6 : ∀ F : Nat → Option zX, sF 5 8 (rL 0) (eC (-9)) [.ref lo] (lo + 4, va_up F lo (some (n5 (.ref (lo + 1)) (.ref (lo + 2)) (.ref (lo + 3)) (-9) (-9) 0 0))) = some (.inl ([.ref lo], (lo + 4, va_up F lo (some (n5 (.ref (lo + 1)) (.ref (lo + 2)) (.ref (lo + 3)) (-9) (-9) (-9) 0))))) := fun F => by
    have e := fr_F (v := -9) (en := []) (n := lo + 4) (ci := 5) (k := 8) (va_up_self F lo (some (n5 (.ref (lo + 1)) (.ref (lo + 2)) (.ref (lo + 3)) (-9) (-9) 0 0))) (by simp)
    rw [up_up] at e
    exact e
  have a7 : ∀ F : Nat → Option zX, sF 5 9 (rL 0) (eC (-9)) [.ref lo] (lo + 4, va_up F lo (some (n5 (.ref (lo + 1)) (.ref (lo + 2)) (.ref (lo + 3)) (-9) (-9) (-9) 0))) = some (.inl ([.ref lo], (lo + 4, va_up F lo (some (n5 (.ref (lo + 1)) (.ref (lo + 2)) (.ref (lo + 3)) (-9) (-9) (-9) (-9)))))) := fun F => by
    have e := fr_F (v := -9) (en := []) (n := lo + 4) (ci := 5) (k := 9) (va_up_self F lo (some (n5 (.ref (lo + 1)) (.ref (lo + 2)) (.ref (lo + 3)) (-9) (-9) (-9) 0))) (by simp)
    rw [up_up] at e
    exact e
  have b1 : sBlk (sSeq (sLi 1 (eC 0)) (sW 21 (bCmp o_lt (eL 1) (eC 20)) (sSeq (sQ 4 (rF 5 0 (rL 0)) (eL 1) (rNw 4 [.int 0, .int 0, .int 0, .int 0, .int 0, .int 0, .int 0] (aN) fX4_init)) (sInc 1 1)))) [.ref lo] (hI f lo 0 0) = some (.inl ([.ref lo], hI f lo 20 0)) := by
    have e : sLi 1 (eC 0) [.ref lo] (hI f lo 0 0) = some (.inl ([.ref lo, .int 0], hI f lo 0 0)) := by simp [sLi, eC, zSt]
    simp only [sBlk]
    rw [seq1 e, sh_p]
    simp [zCut]
  have b2 : sBlk (sSeq (sLi 1 (eC 0)) (sW 11 (bCmp o_lt (eL 1) (eC 10)) (sSeq (sQ 3 (rF 5 2 (rL 0)) (eL 1) (rNw 3 [.null, .int 0, .int 0, .int 0, .int 0, .int 0, .int 0] (aN) fX3_init)) (sInc 1 1)))) [.ref lo] (hI f lo 20 0) = some (.inl ([.ref lo], hI f lo 20 10)) := by
    have e : sLi 1 (eC 0) [.ref lo] (hI f lo 20 0) = some (.inl ([.ref lo, .int 0], hI f lo 20 0)) := by simp [sLi, eC, zSt]
    simp only [sBlk]
    rw [seq1 e, sh_o]
    simp [zCut]
  have q : bX5_init [.ref lo] (lo + 1, f) = some (.inl ([.ref lo], hI f lo 20 10)) := by
    unfold bX5_init
    rw [seq1 ini1, seq1 a1, seq1 (a2 _), seq1 (a3 _), seq1 (a4 _), seq1 (a5 _), seq1 (a6 _), seq1 (a7 _), hI_pre, seq1 b1, b2]
  refine ⟨hI f lo 20 10, by simp [fX5_init, q], rfl, ?_, fun x hx => ?_⟩
  · rw [hI_end]
    exact At_self
  · rw [hI_end]
    exact hS_ne (by omega)
end ZNT
