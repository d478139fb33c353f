/-! the class: a forecast, whole -/
section ZFS
variable {S s pf N s' pf' N' g SV TX AS W : Nat → Int32} {P O L P' O' L' R T : Nat → Nat → Int32} {pi pi' : Nat → Nat} {nS nP nO c i : Nat}
theorem try_at {x : Nat} (hx : x < 343) (h : ∀ k, k < nO → x ≠ 153 + 19 * k + 18) : tgS (cpTo W S 343) nO x = S x := by
  have gen : ∀ n, (∀ k, k < n → x ≠ 153 + 19 * k + 18) → tgS (cpTo W S 343) n x = S x := fun n => by
    induction n with
    | zero => intro _; simp only [tgS, cpTo]; rw [if_pos hx]
    | succ n ih => intro h; simp only [tgS]; rw [upd_ne (h n (by omega)), ih (fun k hk => h k (by omega))]
  exact gen nO h
theorem try_O {j x : Nat} (hj : j < 10) (hx : x < 18) : sO (tgS (cpTo W S 343) nO) j x = sO S j x := try_at (by omega) (fun k hk => by omega)
theorem try_18 {j : Nat} (hj : j < nO) : sO (tgS (cpTo W S 343) nO) j 18 = nI j := by rw [tgS_O (by omega), if_pos ⟨rfl, hj⟩]
theorem try_view (vw : Vw s P pf pi O N L S nS nP nO) (iv : Iv S nS nP nO) (ir : IvR S nO c) :
    Vw s P pf pi (tgO O pi 10) N L (tgS (cpTo W S 343) nO) nS nP nO ∧ Iv (tgS (cpTo W S 343) nO) nS nP nO ∧ IvR (tgS (cpTo W S 343) nO) nO c ∧ VTg pi (tgO O pi 10) (tgS (cpTo W S 343) nO) nO ∧ TgR (tgS (cpTo W S 343) nO) nO := by
  obtain ⟨vH, vpi, vP, vF, vO⟩ := vw
  obtain ⟨iC, iW, iP, iO, iU⟩ := id iv
  obtain ⟨c0, c1, c2, c3, c4, c5⟩ := id iC
  have hd : ∀ x, x < 153 → tgS (cpTo W S 343) nO x = S x := fun x hx => try_at (by omega) (fun k hk => by omega)
  have hP : ∀ q x, q < 20 → x < 7 → sP (tgS (cpTo W S 343) nO) q x = sP S q x := fun q x hq hx => hd _ (by omega)
  refine ⟨⟨VH_eq vH (fun x hx => hd x (by omega)), vpi, VPs_eq c4 hP vP, VFs_eq vF (fun j hj => hd _ (by omega)) c3, fun k hk => ?_⟩, ?_, ⟨ir.1, fun j hj => by rw [try_O (by omega) (by omega)]; exact ir.2 j hj⟩, fun k hk => ?_, fun k hk => ⟨k, by omega, try_18 hk⟩⟩
  · rw [tgO_at vpi 10 (Nat.le_refl _) k (by omega)]
    have v := VO_eq (S' := tgS (cpTo W S 343) nO) (k' := k) (fun x hx => try_O (by omega) hx) (vO k hk) (iO k hk).2.2.2.2.2.2.2
    obtain ⟨o0, o1, o2, o3, o4, o5, o6⟩ := v
    exact ⟨by rw [upd_ne (by omega), o0], by rw [upd_ne (by omega), o1], by rw [upd_ne (by omega), o2], by rw [upd_ne (by omega), o3], by rw [upd_ne (by omega), o4], o5, o6⟩
  · refine Iv_gen (p := 0) (k := 0) (fun j => j) iv ⟨by rw [hd 0 (by omega), c0], by rw [hd 1 (by omega), c1], by rw [hd 2 (by omega), c2], c3, c4, c5⟩ (Nat.le_refl _) (IvW_P iW (hd 3 (by omega)) (hd 5 (by omega)) (hd 6 (by omega)) (Nat.le_refl _) (Nat.le_refl _) (fun q hq e => by rw [hP q 2 (by omega) (by omega)]; exact e)) (fun q hq => ?_) (fun j hj => ⟨hj, fun x hx _ => try_O (by omega) (by omega)⟩) (fun j hj => by rw [try_O (by omega) (by omega)]; exact (iO j hj).2.2.2.2.1) (fun a b _ _ e => e)
    rw [hP q 0 (by omega) (by omega), hP q 3 (by omega) (by omega), hP q 4 (by omega) (by omega), hP q 2 (by omega) (by omega), hP q 5 (by omega) (by omega), hP q 6 (by omega) (by omega)]
    obtain ⟨q0, q3, q4, q2⟩ := iP q hq
    exact ⟨q0, q3, q4, fun e => .inl ⟨hq, e, rfl, rfl⟩⟩
  · rw [tgO_at vpi 10 (Nat.le_refl _) k (by omega), upd_self, try_18 hk]
theorem hur_tags {AS : Nat → Int32} {k : Nat} (vpi : PI pi) (hO : nO ≤ 10) (hk : k < nO) (hc : c ≤ k) (tg : VTg pi O S nO) (tr : TgR S nO) : VTg (mvC pi k c) (va_up O (pi k) (upd (O (pi k)) 4 1)) (opHur S AS k c nO) nO ∧ TgR (opHur S AS k c nO) nO := by
  refine ⟨VTg_mv vpi tg hk hO hc (A := upd (cpTo AS (fun x => sO S k x) 19) 4 1) (fun i => ?_) (by rw [hur_A (by omega), if_neg (by omega)]) (fun j x => by simp only [opHur]; rw [sO_upd (by omega)]), fun j hj => ?_⟩
  · by_cases e : i = pi k
    · rw [e, va_up_self, upd_ne (by omega)]
    · rw [va_up_ne _ _ e]
  · rw [hur_O hk hc hj (by omega)]
    by_cases e : j = c
    · rw [if_pos e, if_neg (by omega)]; exact tr k hk
    · rw [if_neg e]; exact tr _ (by (repeat' split) <;> omega)
theorem fs_tags (hpi : PI pi) {h : zH} {fo da lo : Nat} {D : Nat → Int32} {x : Value} {mf : Int32} (f : Fo h fo da lo) : sW 4000 (bCmp o_lt (eL 3) (eC 10)) (sSeq (sSeq (sF 3 6 (rQ 3 (rF 5 2 (rF 0 0 (rL 0))) (eL 3)) (eL 3)) (sA (rF 0 1 (rL 0)) (eL 3) (eC (-9)))) (sInc 3 1)) [.ref fo, x, .int mf, .int 0] (hS (hp h da (xI 10 D)) lo s P pf pi O N L) = some (.inl ([.ref fo, x, .int mf, .int (nI 10)], hS (hp h da (xI 10 (cpTo D (fun _ => -9) 10))) lo s P pf pi (tgO O pi 10) N L)) := by
  have LL := sW_run (c := bCmp o_lt (eL 3) (eC 10)) (f := sSeq (sSeq (sF 3 6 (rQ 3 (rF 5 2 (rF 0 0 (rL 0))) (eL 3)) (eL 3)) (sA (rF 0 1 (rL 0)) (eL 3) (eC (-9)))) (sInc 3 1)) (fun y => ([.ref fo, x, .int mf, .int (nI y)], hS (hp h da (xI 10 (cpTo D (fun _ => -9) y))) lo s P pf pi (tgO O pi y) N L)) 10 10 4000 0 (by omega) (by omega) (by omega)
    (fun y g1 g2 => by simp [bCmp, eL, eC, show (10 : Int32) = nI 10 from rfl, o_lt_nI (a := y) (b := 10) (by omega) (by omega)])
    (fun y g1 g2 => by
      have w := fo_w (s := s) (P := P) (pf := pf) (pi := pi) (O := tgO O pi (y + 1)) (N := N) (L := L) (D := cpTo D (fun _ => -9) y) f g2 (-9)
      rw [cpTo_s D (fun _ => -9) y] at w
      have w6 := wo6 (h := hp h da (xI 10 (cpTo D (fun _ => -9) y))) (lo := lo) (s := s) (P := P) (pf := pf) (pi := pi) (O := tgO O pi y) (N := N) (L := L) (hpi.1 y g2) (nI y)
      simp only [← show tgO O pi (y + 1) = va_up (tgO O pi y) (pi y) (upd (tgO O pi y (pi y)) 5 (nI y)) from rfl] at w6
      simp [sSeq, sF, rQ, rF, rL, fo_0 f, rS2, eL, qRw g2, w6, sA, fo_1 f, eC, w, sInc, zSt, nI_1, zCut])
  have e0 : hS (hp h da (xI 10 (cpTo D (fun _ => -9) 0))) lo s P pf pi (tgO O pi 0) N L = hS (hp h da (xI 10 D)) lo s P pf pi O N L := by rw [cpTo_0]; rfl
  simpa only [e0, nI_0] using LL
theorem cpTo_self : cpTo S S 343 = S := by funext x; simp [cpTo]
/-- of D only the first ten numbers count -/
theorem fcR_at : ∀ (n : Nat) (t : Int32) (S : Nat → Int32) (nO : Nat) (D E : Nat → Int32) (j : Nat), D j = E j → fcR nP n t S nO D j = fcR nP n t S nO E j
  | 0, _, _, _, _, _, _, h => h
  | n + 1, t, S, nO, D, E, j, h => by
    simp only [fcR]
    by_cases hz : opGo S nP nO 3 ≠ -9
    · rw [if_pos hz, if_pos hz]
      refine fcR_at n _ _ _ _ _ j ?_
      simp only [upd]
      rw [h]
    · rw [if_neg hz, if_neg hz]; exact h
/-- when each order is done -/
def doneR (S : Nat → Int32) (nP nO : Nat) : Nat → Int32 := fcR nP (nO + 1) 0 (tgS S nO) nO (fun _ => -9)
set_option maxRecDepth 100000 in
/-- no order is hurried -/
theorem fs_no (hpi : PI pi) (D : Nat → Int32) (vw : Vw s' P' pf' pi' O' N' L' S nS nP nO) (iv : Iv S nS nP nO) (ir : IvR S nO c) {a lo : Nat} (d : a + 54 ≤ lo ∨ lo + 54 ≤ a) :
    ∃ s1 P1 pf1 pi1 O1 N1 L1 D1, (∀ h fo da, Fo h fo da lo → (da < a ∨ a + 54 ≤ da) → At h a s' P' pf' pi' O' N' L' → fX0_foresee [.ref fo, .ref a, .int (-9)] (hS (hp h da (xI 10 D)) lo s P pf pi O N L) = some (hS (hp h da (xI 10 D1)) lo s1 P1 pf1 pi1 O1 N1 L1)) ∧ (∀ j, j < 10 → D1 j = doneR S nP nO j) ∧ PI pi1 := by
  have h10 := iv.1.2.2.2.2.2
  obtain ⟨s2, P2, pf2, O2, N2, L2, q1, q2⟩ := copy_rel (s := s) (P := P) (pf := pf) (O := O) (N := N) (L := L) hpi d vw iv
  obtain ⟨v1, v2, v3, v4, v5⟩ := try_view (W := S) q2 iv ir
  rw [cpTo_self] at v1 v2 v3 v4 v5
  obtain ⟨s1, P1, pi1, t1, y1, w1, w5⟩ := fore_loop nO 4000 s2 P2 pi (tgS S nO) (cpTo D (fun _ => -9) 10) c 0 0 (by omega) (by omega) v1 v2 v3 v4 v5
  refine ⟨s1, P1, pf2, pi1, tgO O2 pi 10, N2, L2, fcR nP (nO + 1) 0 (tgS S nO) nO (cpTo D (fun _ => -9) 10), fun h fo da f hda e => ?_, fun j hj => fcR_at _ _ _ _ _ _ j (by simp [cpTo, hj]), w5⟩
  have E : At (hp h da (xI 10 D)) a s' P' pf' pi' O' N' L' := At_keep e (fun x h1 h2 => hp_ne _ _ (by omega))
  have b1 := q1 (hp h da (xI 10 D)) E
  have b2 := fs_tags (s := s2) (P := P2) (pf := pf2) (O := O2) (N := N2) (L := L2) (D := D) (x := .ref a) (mf := -9) hpi f
  have b3 := w1 h fo da lo (.ref a) (-9) f
  have b4 := X5_hasOrder (h := hp h da (xI 10 (cpTo D (fun _ => -9) 10))) (lo := lo) (s := s2) (P := P2) (pf := pf2) (pi := pi) (O := tgO O2 pi 10) (N := N2) (L := L2) (-9)
  rw [hasB_9] at b4
  rw [nI_0] at b3
  simp [fX0_foresee, bX0_foresee, mV, sSeq, sCV, rF, rL, fo_0 f, aR, aN, isS, b1, sBlk, sLi, eC, zSt, b2, zCut, sIf, bZ, eCV, aI, eL, b4, z_ne_bI, sNop, b3, sRv]
end ZFS
