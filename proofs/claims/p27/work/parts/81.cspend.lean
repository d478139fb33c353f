/-! the class: the minutes of work, as a function of the row -/
abbrev spCond : zEB := bAnd (bAnd (bCmp o_le (eL 4) (eC 10)) (bZ z_gt (eL 3))) (bZ z_ne (eCV 5 (rL 0) (aN) fX5_takesUpWork))
abbrev spBody : zSS := sSeq (sSeq (sLi 5 (eMin (eL 3) (eF 5 9 (rL 0)))) (sSeq (sLi 3 (eOp (· - ·) (eL 3) (eL 5))) (sSeq (sFa (· - ·) 5 9 (rL 0) (eL 5)) (sIf (bZ z_eq (eF 5 9 (rL 0))) (sCV 5 (rL 0) (aN) fX5_finishOrder) sNop)))) (sInc 4 1)
theorem sW_turn {c : zEB} {f : zSS} {N : Nat} {en en1 en2 : List Value} {h h1 h2 : zH} (hc : c en h = some (true, h1)) (hf : f en h1 = some (.inl (en1, h2))) (ht : en1.take en.length = en2) : sW (N + 1) c f en h = sW N c f en2 h2 := by
  simp only [sW, hc, Option.bind_some, if_true, hf, ht]
theorem sW_stop {c : zEB} {f : zSS} {N : Nat} {en : List Value} {h h1 : zH} (hc : c en h = some (false, h1)) : sW (N + 1) c f en h = some (.inl (en, h1)) := by
  simp only [sW, hc, Option.bind_some, if_neg (show ¬ false = true by decide)]
theorem sW_out {c : zEB} {f : zSS} {N : Nat} {en : List Value} {h h1 : zH} {q : Option Int32 × zH} (hc : c en h = some (true, h1)) (hf : f en h1 = some (.inr q)) : sW (N + 1) c f en h = some (.inr q) := by
  simp only [sW, hc, Option.bind_some, if_true, hf]
theorem min_eq (a b : Int32) : (if b < a then b else a) = if a < b then a else b := by
  by_cases h1 : b < a
  · by_cases h2 : a < b
    · rw [i_lt] at h1 h2; omega
    · rw [if_pos h1, if_neg h2]
  · by_cases h2 : a < b
    · rw [if_neg h1, if_pos h2]
    · rw [if_neg h1, if_neg h2]
      rw [i_lt] at h1 h2
      rw [i_eq]; omega
/-- the row after so many minutes of work (nO orders stand in it) -/
def wkR (nP : Nat) : Nat → Int32 → (Nat → Int32) → Nat → (Nat → Int32)
  | 0, _, S, _ => S
  | n + 1, left, S, nO => if 0 < left ∧ opGo S nP nO 3 ≠ -9 then (if left < opGo S nP nO 4 then upd (opGo S nP nO) 4 (opGo S nP nO 4 - left) else wkR nP n (left - opGo S nP nO 4) (finR (upd (opGo S nP nO) 4 0) nP nO) (nO - 1)) else S
section ZSP
variable {S s pf N : Nat → Int32} {P O L : Nat → Nat → Int32} {pi : Nat → Nat} {nS nP nO c : Nat}
theorem AtW_4 {k p sd : Nat} {v : Int32} (a : AtW S nP nO k p sd) : AtW (upd S 4 v) nP nO k p sd := by
  obtain ⟨a3, ak, a5, ap, a6, asd, a2⟩ := a
  exact ⟨by rw [upd_ne (by omega), a3], ak, by rw [upd_ne (by omega), a5], ap, by rw [upd_ne (by omega), a6], asd, by rw [sP_hd (by omega), a2]⟩
theorem R_4 {v : Int32} (ir : IvR S nO c) : IvR (upd S 4 v) nO c := ⟨ir.1, fun j hj => by rw [sO_upd (by omega)]; exact ir.2 j hj⟩
set_option maxRecDepth 100000 in
theorem sp_part {k p sd : Nat} (vw : Vw s P pf pi O N L S nS nP nO) (iv : Iv S nS nP nO) (ir : IvR S nO c) (a : AtW S nP nO k p sd) (mins d0 left : Int32) (y : Nat) (hlt : left < S 4) :
    ∃ s1, (∀ h lo, spBody [.ref lo, .int mins, .int d0, .int left, .int (nI y)] (hS h lo s P pf pi O N L) = some (.inl ([.ref lo, .int mins, .int d0, .int 0, .int (nI (y + 1)), .int left], hS h lo s1 P pf pi O N L))) ∧
      Vw s1 P pf pi O N L (upd S 4 (S 4 - left)) nS nP nO ∧ Iv (upd S 4 (S 4 - left)) nS nP nO ∧ IvR (upd S 4 (S 4 - left)) nO c := by
  obtain ⟨a3, ak, a5, ap, a6, asd, a2⟩ := id a
  have nO10 := iv.1.2.2.2.2.2
  have n9 : S 3 ≠ -9 := by rw [a3]; exact nI_ne9 (by omega)
  have s9 : s 9 = S 4 := by rw [vw.1.2.2.2.2.2.2.1, if_neg n9]
  have hst' : (if S 4 < left then S 4 else left) = left := by rw [min_eq, if_pos hlt]
  obtain ⟨m1, m2⟩ := min_view (v := S 4 - left) vw iv n9
  have hz : ¬ S 4 - left = 0 := fun e => by rw [i_sub_eq] at e; rw [e, i_lt] at hlt; omega
  have ws : ∀ (h : zH) (lo : Nat), wrO (hS h lo s P pf pi O N L) 5 9 lo (.int (S 4 - left)) = some (hS h lo (upd s 9 (S 4 - left)) P pf pi O N L) := fun h lo => wsh9 _
  have rs : ∀ (h : zH) (lo : Nat), rdI (hS h lo (upd s 9 (S 4 - left)) P pf pi O N L) 5 9 lo = some (S 4 - left) := fun h lo => by rw [rs9, upd_self]
  have e0 : left - left = 0 := Int32.sub_self _
  generalize hv : S 4 - left = v at *
  refine ⟨_, fun h lo => ?_, m1, m2, R_4 ir⟩
  simp [sSeq, sLi, eMin, eL, eF, rL, rs9, s9, hst', zSt, eOp, sFa, hv, ws, sIf, bZ, rs, z_eq, hz, sNop, zCut, sInc, nI_1]
set_option maxRecDepth 100000 in
theorem sp_full {k p sd : Nat} (vw : Vw s P pf pi O N L S nS nP nO) (iv : Iv S nS nP nO) (ir : IvR S nO c) (a : AtW S nP nO k p sd) (mins d0 left : Int32) (y : Nat) (hlt : ¬ left < S 4) :
    ∃ s1 P1 pi1 c1, (∀ h lo, spBody [.ref lo, .int mins, .int d0, .int left, .int (nI y)] (hS h lo s P pf pi O N L) = some (.inl ([.ref lo, .int mins, .int d0, .int (left - S 4), .int (nI (y + 1)), .int (S 4)], hS h lo s1 P1 pf pi1 O N L))) ∧
      Vw s1 P1 pf pi1 O N L (finR (upd S 4 0) nP nO) nS nP (nO - 1) ∧ Iv (finR (upd S 4 0) nP nO) nS nP (nO - 1) ∧ IvR (finR (upd S 4 0) nP nO) (nO - 1) c1 ∧ (finR (upd S 4 0) nP nO) 7 = S 7 + 1 := by
  obtain ⟨a3, ak, a5, ap, a6, asd, a2⟩ := id a
  have nO10 := iv.1.2.2.2.2.2
  have n9 : S 3 ≠ -9 := by rw [a3]; exact nI_ne9 (by omega)
  have s9 : s 9 = S 4 := by rw [vw.1.2.2.2.2.2.2.1, if_neg n9]
  have hst' : (if S 4 < left then S 4 else left) = S 4 := by rw [min_eq, if_neg hlt]
  obtain ⟨m1, m2⟩ := min_view (v := 0) vw iv n9
  have e0 : S 4 - S 4 = 0 := Int32.sub_self _
  have ws : ∀ (h : zH) (lo : Nat), wrO (hS h lo s P pf pi O N L) 5 9 lo (.int 0) = some (hS h lo (upd s 9 0) P pf pi O N L) := fun h lo => wsh9 _
  have rs : ∀ (h : zH) (lo : Nat), rdI (hS h lo (upd s 9 0) P pf pi O N L) 5 9 lo = some 0 := fun h lo => by rw [rs9, upd_self]
  obtain ⟨s1, P1, pi1, c1, f1, f3, f4, f5, f6, -⟩ := fin_cl m1 m2 (R_4 ir) (AtW_4 a)
  rw [upd_ne (by omega)] at f6
  refine ⟨s1, P1, pi1, c1, fun h lo => ?_, f3, f4, f5, f6⟩
  have q := f1 h lo
  simp [sSeq, sLi, eMin, eL, eF, rL, rs9, s9, hst', zSt, eOp, sFa, e0, ws, sIf, bZ, rs, z_eq, sCV, aN, isS, q, zCut, sInc, nI_1]
theorem sp_cond0 {mins d0 left : Int32} {y : Nat} (hl : ¬ 0 < left) (h : zH) (lo : Nat) : spCond [.ref lo, .int mins, .int d0, .int left, .int (nI y)] (hS h lo s P pf pi O N L) = some (false, hS h lo s P pf pi O N L) := by
  cases hc : o_le (nI y) 10 <;> simp [bAnd, bCmp, eL, eC, hc, bZ, z_gt, hl]
theorem sp_cond1 {s1 : Nat → Int32} {P1 : Nat → Nat → Int32} {v mins d0 left : Int32} {y : Nat} (hy : y ≤ 10) (hl : 0 < left) {h : zH} {lo : Nat} (q : fX5_takesUpWork [.ref lo] (hS h lo s P pf pi O N L) = some (v, hS h lo s1 P1 pf pi O N L)) : spCond [.ref lo, .int mins, .int d0, .int left, .int (nI y)] (hS h lo s P pf pi O N L) = some (z_ne v, hS h lo s1 P1 pf pi O N L) := by
  have hc : o_le (nI y) 10 = true := by
    simp only [o_le, show (10 : Int32) = nI 10 from rfl]
    exact decide_eq_true ((nI_leI (by omega) (by omega)).mpr hy)
  simp [bAnd, bCmp, eL, eC, hc, bZ, z_gt, hl, eCV, rL, aN, isS, q]
theorem R_go (iv : Iv S nS nP nO) (ir : IvR S nO c) : IvR (opGo S nP nO) nO c := ⟨ir.1, fun j hj => by
  rw [show sO (opGo S nP nO) j 4 = sO S j 4 from opGo_k iv (by omega)]
  exact ir.2 j hj⟩
/-- the loop of work, to its end -/
theorem work_loop : ∀ (n N1 : Nat) (s : Nat → Int32) (P : Nat → Nat → Int32) (pi : Nat → Nat) (S : Nat → Int32) (c y : Nat) (left mins d0 : Int32), y + n ≤ 10 → n + 2 ≤ N1 → Vw s P pf pi O N L S nS nP n → Iv S nS nP n → IvR S n c →
    ∃ s1 P1 pi1 n1 c1 left1 y1, (∀ h lo, sW N1 spCond spBody [.ref lo, .int mins, .int d0, .int left, .int (nI y)] (hS h lo s P pf pi O N L) = some (.inl ([.ref lo, .int mins, .int d0, .int left1, .int (nI y1)], hS h lo s1 P1 pf pi1 O N L))) ∧
      Vw s1 P1 pf pi1 O N L (wkR nP (n + 1) left S n) nS nP n1 ∧ Iv (wkR nP (n + 1) left S n) nS nP n1 ∧ IvR (wkR nP (n + 1) left S n) n1 c1 ∧ n1 ≤ n ∧ wkR nP (n + 1) left S n 7 = S 7 + nI (n - n1) := by
  intro n
  induction n with
  | zero =>
    intro N1 s P pi S c y left mins d0 hy h1 vw iv ir
    obtain ⟨N1, rfl⟩ : ∃ k, N1 = k + 1 := ⟨N1 - 1, by omega⟩
    obtain ⟨s1, P1, q1, q2, q3⟩ := tk_cl vw iv
    have hz : ¬ opGo S nP 0 3 ≠ -9 := fun e => by
      obtain ⟨k, p, sd, a⟩ := IvW_at q3 e
      exact absurd a.2.1 (by omega)
    rw [decide_eq_false hz] at q1
    have ew : wkR nP 1 left S 0 = S := by simp only [wkR]; rw [if_neg (fun q => hz q.2)]
    rw [ew]
    have eg : opGo S nP 0 = S := by
      rcases opGo_cases iv with ⟨-, e⟩ | ⟨-, -, e⟩ | ⟨-, k, w, p, hg, hk, -⟩
      · exact e
      · exact e
      · exact absurd hk (by omega)
    by_cases hl : 0 < left
    · refine ⟨s1, P1, pi, 0, c, left, y, fun h lo => ?_, by rw [← eg]; exact q2, iv, ir, Nat.le_refl _, by simp [nI_0]⟩
      rw [sW_stop (by rw [sp_cond1 (show y ≤ 10 by omega) hl (q1 h lo)]; rfl)]
    · exact ⟨s, P, pi, 0, c, left, y, fun h lo => sW_stop (sp_cond0 hl h lo), vw, iv, ir, Nat.le_refl _, by simp [nI_0]⟩
  | succ n ih =>
    intro N1 s P pi S c y left mins d0 hy h1 vw iv ir
    obtain ⟨N1, rfl⟩ : ∃ k, N1 = k + 1 := ⟨N1 - 1, by omega⟩
    by_cases hl : 0 < left
    · obtain ⟨s1, P1, q1, q2, q3⟩ := tk_cl vw iv
      have ir1 := R_go iv ir
      have e7 : opGo S nP (n + 1) 7 = S 7 := opGo_k iv (by omega)
      by_cases hz : opGo S nP (n + 1) 3 ≠ -9
      · rw [decide_eq_true hz] at q1
        obtain ⟨k, p, sd, a⟩ := IvW_at q3 hz
        by_cases hlt : left < opGo S nP (n + 1) 4
        · have ew : wkR nP (n + 1 + 1) left S (n + 1) = upd (opGo S nP (n + 1)) 4 (opGo S nP (n + 1) 4 - left) := by
            rw [wkR, if_pos ⟨hl, hz⟩, if_pos hlt]
          obtain ⟨s2, t1, t2, t3, t4⟩ := sp_part q2 q3 ir1 a mins d0 left y hlt
          rw [ew]
          obtain ⟨N1, rfl⟩ : ∃ k, N1 = k + 1 := ⟨N1 - 1, by omega⟩
          refine ⟨s2, P1, pi, n + 1, c, 0, y + 1, fun h lo => ?_, t2, t3, t4, Nat.le_refl _, by rw [upd_ne (by omega), e7]; simp [nI_0]⟩
          rw [sW_turn (by rw [sp_cond1 (show y ≤ 10 by omega) hl (q1 h lo)]; rfl) (t1 h lo) rfl]
          exact sW_stop (sp_cond0 (by decide) h lo)
        · have ew : wkR nP (n + 1 + 1) left S (n + 1) = wkR nP (n + 1) (left - opGo S nP (n + 1) 4) (finR (upd (opGo S nP (n + 1)) 4 0) nP (n + 1)) n := by
            rw [wkR, if_pos ⟨hl, hz⟩, if_neg hlt, Nat.add_sub_cancel]
          obtain ⟨s2, P2, pi2, c2, t1, t2, t3, t4, t5⟩ := sp_full q2 q3 ir1 a mins d0 left y hlt
          rw [ew]
          obtain ⟨s3, P3, pi3, n3, c3, left3, y3, u1, u2, u3, u4, u5, u6⟩ := ih N1 s2 P2 pi2 _ c2 (y + 1) (left - opGo S nP (n + 1) 4) mins d0 (by omega) (by omega) t2 t3 t4
          refine ⟨s3, P3, pi3, n3, c3, left3, y3, fun h lo => ?_, u2, u3, u4, by omega, ?_⟩
          · rw [sW_turn (by rw [sp_cond1 (show y ≤ 10 by omega) hl (q1 h lo)]; rfl) (t1 h lo) rfl]
            exact u1 h lo
          · rw [u6, t5, e7, show n + 1 - n3 = (n - n3) + 1 by omega, ← nI_1]
            grind
      · rw [decide_eq_false hz] at q1
        have ew : wkR nP (n + 1 + 1) left S (n + 1) = S := by rw [wkR, if_neg (fun q => hz q.2)]
        have eg : opGo S nP (n + 1) = S := by
          rcases opGo_cases iv with ⟨-, e⟩ | ⟨-, -, e⟩ | ⟨-, k, w, p, hg, hk, -, -, e⟩
          · exact e
          · exact e
          · exact absurd (by rw [e, opBegin_3]; exact nI_ne9 (by have := iv.1.2.2.2.2.2; omega)) hz
        rw [ew]
        refine ⟨s1, P1, pi, n + 1, c, left, y, fun h lo => ?_, by rw [← eg]; exact q2, iv, ir, Nat.le_refl _, by simp [nI_0]⟩
        rw [sW_stop (by rw [sp_cond1 (show y ≤ 10 by omega) hl (q1 h lo)]; rfl)]
    · have ew : wkR nP (n + 1 + 1) left S (n + 1) = S := by rw [wkR, if_neg (fun q => hl q.1)]
      rw [ew]
      exact ⟨s, P, pi, n + 1, c, left, y, fun h lo => sW_stop (sp_cond0 hl h lo), vw, iv, ir, Nat.le_refl _, by simp [nI_0]⟩
end ZSP
