/-! the start, and the loop over the calls -/
section ZNX
variable {h : zH} {b L t j : Nat} {xs : Nat → Int32}
theorem Vw_start : Vw s0 (fun _ _ => 0) (fun _ => 0) (fun k => k) (fun _ _ => 0) (fun _ => 0) (fun _ _ => 0) (upd (upd z_0 3 (-9)) 5 (-9)) 0 0 0 := by
  refine ⟨?_, ⟨fun k hk => hk, fun a b _ _ e => e⟩, fun p hp0 => by omega, fun j hj => by omega, fun k hk => by omega⟩
  simp [VH, s0, upd]
theorem Iv_start : Iv (upd (upd z_0 3 (-9)) 5 (-9)) 0 0 0 := by
  refine ⟨⟨by rw [nI_0]; rfl, by rw [nI_0]; rfl, by rw [nI_0]; rfl, by omega, by omega, by omega⟩, .inl ⟨rfl, rfl⟩, fun p hp0 => by omega, fun k hk => by omega, fun p q hp0 => by omega, fun p q hp0 => by omega, fun p q hp0 => by omega⟩
theorem bL1_ok (sz : Nat) (hb : b < sz) : ∃ h1, bL1 [.ref b] (sz, fun a => if a = b then some (xS L xs) else none) = some (.inl ([.ref b, .ref sz, .ref (sz + 387)], h1)) ∧ Rl h1 b L xs sz := by
  obtain ⟨⟨n1, H⟩, e1, p1, pt, pa, h5, h6, hs, t7, t8, f9, f3, f4, f5, f6, kp⟩ := X6_new (f := va_up (fun a => if a = b then some (xS L xs) else none) sz (some (n6 .null .null .null .null .null))) (t := sz) (va_up_self _ _ _)
  dsimp only at p1 pt h5 h6 t7 t8 f3 f4 f5 f6 kp
  subst p1
  have q1 : sLr 1 (rNw 6 [.null, .null, .null, .null, .null] (aN) fX6_init) [.ref b] (sz, fun a => if a = b then some (xS L xs) else none) = some (.inl ([.ref b, .ref sz], (sz + 387, H))) := by
    simp only [n6] at e1
    simp [sLr, rNw, aN, e1, zSt]
  have e7 := X7_new (f := va_up H (sz + 387) (some (n7 .null .null .null .null .null .null .null))) (m := sz + 387) (va_up_self _ _ _)
  have kM : ∀ x, x < sz + 387 → (hM (sz + 387 + 8, va_up H (sz + 387) (some (n7 .null .null .null .null .null .null .null))) (sz + 387) (upd z_0 0 0) (va_up (fun _ => z_0) 1 (upd (upd z_0 3 (-9)) 5 (-9))) z_0 z_0 (fun _ => z_0) z_0).2 x = H x := fun x hx => by
    rw [hM_ne (by omega)]
    exact va_up_ne _ _ (by omega)
  have md : Mod (hM (sz + 387 + 8, va_up H (sz + 387) (some (n7 .null .null .null .null .null .null .null))) (sz + 387) (upd z_0 0 0) (va_up (fun _ => z_0) 1 (upd (upd z_0 3 (-9)) 5 (-9))) z_0 z_0 (fun _ => z_0) z_0) (sz + 387) (upd z_0 0 0) (va_up (fun _ => z_0) 1 (upd (upd z_0 3 (-9)) 5 (-9))) z_0 z_0 (fun _ => z_0) z_0 := Mod_self
  generalize hM (sz + 387 + 8, va_up H (sz + 387) (some (n7 .null .null .null .null .null .null .null))) (sz + 387) (upd z_0 0 0) (va_up (fun _ => z_0) 1 (upd (upd z_0 3 (-9)) 5 (-9))) z_0 z_0 (fun _ => z_0) z_0 = K at e7 kM md
  have q2 : sLr 2 (rNw 7 [.int 0, .null, .null, .null, .int 0, .null, .int 0, .int 0, .int 0, .int 0, .null, .null, .null] (aN) fX7_init) [.ref b, .ref sz] (sz + 387, H) = some (.inl ([.ref b, .ref sz, .ref (sz + 387)], K)) := by
    simp only [n7] at e7
    simp [sLr, rNw, aN, e7, zSt]
  have an : ∀ a, (∀ x, a ≤ x → x < a + 54 → x < sz + 387) → AtN ((sz + 387, H) : zH) a → AtN K a := fun a g w => At_keep w (fun x c d => kM x (g x c d))
  have pi0 : PI (fun k => k) := ⟨fun k hk => hk, fun a b _ _ e => e⟩
  refine ⟨K, by unfold bL1; rw [seq1 q1, q2], upd z_0 0 0, va_up (fun _ => z_0) 1 (upd (upd z_0 3 (-9)) 5 (-9)), z_0, z_0, fun _ => z_0, z_0, 0, 0, ⟨?_, hb, (kM _ (by omega)).trans pt⟩, ⟨_, _, _, _, _, _, _, 0, 0, 0, 0, an _ (fun x c d => by omega) pa, by rw [up_self]; exact Vw_start, by rw [up_self]; exact Iv_start, Nat.le_refl _, fun j hj => by omega⟩,
    ⟨fun k => k, ⟨fun k hk => hk, fun a b _ _ e => e⟩, (kM _ (by omega)).trans h5, (kM _ (by omega)).trans h6, by omega, fun k hk => ⟨_, _, _, _, _, _, _, an _ (fun x c d => by omega) (hs k hk), pi0⟩, fun k hk => by omega⟩,
    ⟨by omega, (kM _ (by omega)).trans t7, _, (kM _ (by omega)).trans t8, fun x hx => by omega⟩, ⟨⟨_, _, _, _, _, _, _, an _ (fun x c d => by omega) f9, pi0⟩, (kM _ (by omega)).trans f3, ⟨_, (kM _ (by omega)).trans f4⟩, (kM _ (by omega)).trans f5, ⟨_, (kM _ (by omega)).trans f6⟩⟩, md, rfl, rfl⟩
  rw [kM _ (by omega), kp b hb, va_up_ne _ _ (by omega), if_pos rfl]
end ZNX
/-! the loop -/
def enL (b t j : Nat) : List Value := [.ref b, .ref t, .ref (t + 387), .int (nI (6 * j))]
section ZNY
variable {h : zH} {b L t j : Nat} {xs : Nat → Int32}
theorem en_r0 {h : zH} : rL 0 (enL b t j) h = some (b, h) := rfl
theorem en_r1 {h : zH} : rL 1 (enL b t j) h = some (t, h) := rfl
theorem en_r2 {h : zH} : rL 2 (enL b t j) h = some (t + 387, h) := rfl
theorem en_3 {h : zH} : eL 3 (enL b t j) h = some (nI (6 * j), h) := rfl
theorem scd {c : Int32} {d : Nat} (hc : c = nI d) (hd : d < 6) (hj : 6 * j + 6 ≤ L) (hL : L ≤ 3072) (hb : h.2 b = some (xS L xs)) : eS (rL 0) (eOp (· + ·) (eL 3) (eC c)) (enL b t j) h = some (xs (6 * j + d), h) := by
  have r := rdS_of hb (show 6 * j + d < L by omega) (by omega)
  rw [← nI_add] at r
  simp [eS, en_r0, eOp, en_3, eC, hc, r]
theorem hA1 (hj : 6 * j + 6 ≤ L) (hL : L ≤ 3072) (hb : h.2 b = some (xS L xs)) : aI (eS (rL 0) (eOp (· + ·) (eL 3) (eC 1))) (aN) (enL b t j) h = some ([.int (xs (6 * j + 1))], h) := by
  simp [aI, aN, scd (c := 1) (d := 1) rfl (by omega) hj hL hb]
theorem hA2 (hj : 6 * j + 6 ≤ L) (hL : L ≤ 3072) (hb : h.2 b = some (xS L xs)) : aI (eS (rL 0) (eOp (· + ·) (eL 3) (eC 1))) (aI (eS (rL 0) (eOp (· + ·) (eL 3) (eC 2))) (aN)) (enL b t j) h = some ([.int (xs (6 * j + 1)), .int (xs (6 * j + 2))], h) := by
  simp [aI, aN, scd (c := 1) (d := 1) rfl (by omega) hj hL hb, scd (c := 2) (d := 2) rfl (by omega) hj hL hb]
theorem hA3 (hj : 6 * j + 6 ≤ L) (hL : L ≤ 3072) (hb : h.2 b = some (xS L xs)) : aI (eS (rL 0) (eOp (· + ·) (eL 3) (eC 1))) (aI (eS (rL 0) (eOp (· + ·) (eL 3) (eC 2))) (aI (eS (rL 0) (eOp (· + ·) (eL 3) (eC 3))) (aN))) (enL b t j) h = some ([.int (xs (6 * j + 1)), .int (xs (6 * j + 2)), .int (xs (6 * j + 3))], h) := by
  simp [aI, aN, scd (c := 1) (d := 1) rfl (by omega) hj hL hb, scd (c := 2) (d := 2) rfl (by omega) hj hL hb, scd (c := 3) (d := 3) rfl (by omega) hj hL hb]
theorem hA5 (hj : 6 * j + 6 ≤ L) (hL : L ≤ 3072) (hb : h.2 b = some (xS L xs)) : aI (eS (rL 0) (eOp (· + ·) (eL 3) (eC 1))) (aI (eS (rL 0) (eOp (· + ·) (eL 3) (eC 2))) (aI (eS (rL 0) (eOp (· + ·) (eL 3) (eC 3))) (aI (eS (rL 0) (eOp (· + ·) (eL 3) (eC 4))) (aI (eS (rL 0) (eOp (· + ·) (eL 3) (eC 5))) (aN))))) (enL b t j) h = some ([.int (xs (6 * j + 1)), .int (xs (6 * j + 2)), .int (xs (6 * j + 3)), .int (xs (6 * j + 4)), .int (xs (6 * j + 5))], h) := by
  simp [aI, aN, scd (c := 1) (d := 1) rfl (by omega) hj hL hb, scd (c := 2) (d := 2) rfl (by omega) hj hL hb, scd (c := 3) (d := 3) rfl (by omega) hj hL hb, scd (c := 4) (d := 4) rfl (by omega) hj hL hb, scd (c := 5) (d := 5) rfl (by omega) hj hL hb]
theorem Rl_b (rl : Rl h b L xs t) : h.2 b = some (xS L xs) ∧ isO h 6 t = true := by
  obtain ⟨g, R, SV, TX, T, AS, nh, nt, top, -⟩ := rl
  exact ⟨top.1, tpi top⟩
theorem arm {F6 F7 : zFI} {as : List Value} {A : zEA} (hA : ∀ h : zH, h.2 b = some (xS L xs) → A (enL b t j) h = some (as, h)) (hc : Cmd F6 F7 as) (rl : Rl h b L xs t) : ∃ h', sIf (bCmp o_ne (eCV 6 (rL 1) A F6) (eCV 7 (rL 2) A F7)) (sRi (eC 0)) sNop (enL b t j) h = some (.inl (enL b t j, h')) ∧ Rl h' b L xs t := by
  obtain ⟨v, h1, h2, e6, e7, rl2, hb1, io⟩ := hc h b L xs t rl
  obtain ⟨hb, io0⟩ := Rl_b rl
  have o : o_ne v v = false := by simp [o_ne]
  refine ⟨h2, ?_, rl2⟩
  simp [sIf, bCmp, eCV, en_r1, en_r2, hA h hb, hA h1 hb1, io0, io, e6, e7, o, sNop, zCut]
def armsL : List zSS := [(sIf (bCmp o_ne (eCV 6 (rL 1) (aI (eS (rL 0) (eOp (· + ·) (eL 3) (eC 1))) (aI (eS (rL 0) (eOp (· + ·) (eL 3) (eC 2))) (aN))) fX6_cut) (eCV 7 (rL 2) (aI (eS (rL 0) (eOp (· + ·) (eL 3) (eC 1))) (aI (eS (rL 0) (eOp (· + ·) (eL 3) (eC 2))) (aN))) fX7_cut)) (sRi (eC 0)) sNop), (sIf (bCmp o_ne (eCV 6 (rL 1) (aI (eS (rL 0) (eOp (· + ·) (eL 3) (eC 1))) (aN)) fX6_spoil) (eCV 7 (rL 2) (aI (eS (rL 0) (eOp (· + ·) (eL 3) (eC 1))) (aN)) fX7_spoil)) (sRi (eC 0)) sNop), (sIf (bCmp o_ne (eCV 6 (rL 1) (aI (eS (rL 0) (eOp (· + ·) (eL 3) (eC 1))) (aI (eS (rL 0) (eOp (· + ·) (eL 3) (eC 2))) (aN))) fX6_grind) (eCV 7 (rL 2) (aI (eS (rL 0) (eOp (· + ·) (eL 3) (eC 1))) (aI (eS (rL 0) (eOp (· + ·) (eL 3) (eC 2))) (aN))) fX7_grind)) (sRi (eC 0)) sNop), (sIf (bCmp o_ne (eCV 6 (rL 1) (aI (eS (rL 0) (eOp (· + ·) (eL 3) (eC 1))) (aN)) fX6_addShield) (eCV 7 (rL 2) (aI (eS (rL 0) (eOp (· + ·) (eL 3) (eC 1))) (aN)) fX7_addShield)) (sRi (eC 0)) sNop), (sIf (bCmp o_ne (eCV 6 (rL 1) (aI (eS (rL 0) (eOp (· + ·) (eL 3) (eC 1))) (aI (eS (rL 0) (eOp (· + ·) (eL 3) (eC 2))) (aN))) fX6_takeOff) (eCV 7 (rL 2) (aI (eS (rL 0) (eOp (· + ·) (eL 3) (eC 1))) (aI (eS (rL 0) (eOp (· + ·) (eL 3) (eC 2))) (aN))) fX7_takeOff)) (sRi (eC 0)) sNop), (sIf (bCmp o_ne (eCV 6 (rL 1) (aI (eS (rL 0) (eOp (· + ·) (eL 3) (eC 1))) (aN)) fX6_append) (eCV 7 (rL 2) (aI (eS (rL 0) (eOp (· + ·) (eL 3) (eC 1))) (aN)) fX7_append)) (sRi (eC 0)) sNop), (sIf (bCmp o_ne (eCV 6 (rL 1) (aN) fX6_clearText) (eCV 7 (rL 2) (aN) fX7_clearText)) (sRi (eC 0)) sNop), (sIf (bCmp o_ne (eCV 6 (rL 1) (aI (eS (rL 0) (eOp (· + ·) (eL 3) (eC 1))) (aI (eS (rL 0) (eOp (· + ·) (eL 3) (eC 2))) (aI (eS (rL 0) (eOp (· + ·) (eL 3) (eC 3))) (aI (eS (rL 0) (eOp (· + ·) (eL 3) (eC 4))) (aI (eS (rL 0) (eOp (· + ·) (eL 3) (eC 5))) (aN)))))) fX6_order) (eCV 7 (rL 2) (aI (eS (rL 0) (eOp (· + ·) (eL 3) (eC 1))) (aI (eS (rL 0) (eOp (· + ·) (eL 3) (eC 2))) (aI (eS (rL 0) (eOp (· + ·) (eL 3) (eC 3))) (aI (eS (rL 0) (eOp (· + ·) (eL 3) (eC 4))) (aI (eS (rL 0) (eOp (· + ·) (eL 3) (eC 5))) (aN)))))) fX7_order)) (sRi (eC 0)) sNop), (sIf (bCmp o_ne (eCV 6 (rL 1) (aI (eS (rL 0) (eOp (· + ·) (eL 3) (eC 1))) (aN)) fX6_hurry) (eCV 7 (rL 2) (aI (eS (rL 0) (eOp (· + ·) (eL 3) (eC 1))) (aN)) fX7_hurry)) (sRi (eC 0)) sNop), (sIf (bCmp o_ne (eCV 6 (rL 1) (aI (eS (rL 0) (eOp (· + ·) (eL 3) (eC 1))) (aN)) fX6_cancel) (eCV 7 (rL 2) (aI (eS (rL 0) (eOp (· + ·) (eL 3) (eC 1))) (aN)) fX7_cancel)) (sRi (eC 0)) sNop), (sIf (bCmp o_ne (eCV 6 (rL 1) (aI (eS (rL 0) (eOp (· + ·) (eL 3) (eC 1))) (aN)) fX6_work) (eCV 7 (rL 2) (aI (eS (rL 0) (eOp (· + ·) (eL 3) (eC 1))) (aN)) fX7_work)) (sRi (eC 0)) sNop), (sIf (bCmp o_ne (eCV 6 (rL 1) (aN) fX6_slip) (eCV 7 (rL 2) (aN) fX7_slip)) (sRi (eC 0)) sNop), (sIf (bCmp o_ne (eCV 6 (rL 1) (aN) fX6_undo) (eCV 7 (rL 2) (aN) fX7_undo)) (sRi (eC 0)) sNop), (sIf (bCmp o_ne (eCV 6 (rL 1) (aI (eS (rL 0) (eOp (· + ·) (eL 3) (eC 1))) (aN)) fX6_count) (eCV 7 (rL 2) (aI (eS (rL 0) (eOp (· + ·) (eL 3) (eC 1))) (aN)) fX7_count)) (sRi (eC 0)) sNop), (sIf (bCmp o_ne (eCV 6 (rL 1) (aI (eS (rL 0) (eOp (· + ·) (eL 3) (eC 1))) (aI (eS (rL 0) (eOp (· + ·) (eL 3) (eC 2))) (aN))) fX6_plate) (eCV 7 (rL 2) (aI (eS (rL 0) (eOp (· + ·) (eL 3) (eC 1))) (aI (eS (rL 0) (eOp (· + ·) (eL 3) (eC 2))) (aN))) fX7_plate)) (sRi (eC 0)) sNop), (sIf (bCmp o_ne (eCV 6 (rL 1) (aI (eS (rL 0) (eOp (· + ·) (eL 3) (eC 1))) (aI (eS (rL 0) (eOp (· + ·) (eL 3) (eC 2))) (aN))) fX6_shield) (eCV 7 (rL 2) (aI (eS (rL 0) (eOp (· + ·) (eL 3) (eC 1))) (aI (eS (rL 0) (eOp (· + ·) (eL 3) (eC 2))) (aN))) fX7_shield)) (sRi (eC 0)) sNop), (sIf (bCmp o_ne (eCV 6 (rL 1) (aI (eS (rL 0) (eOp (· + ·) (eL 3) (eC 1))) (aI (eS (rL 0) (eOp (· + ·) (eL 3) (eC 2))) (aN))) fX6_plateFor) (eCV 7 (rL 2) (aI (eS (rL 0) (eOp (· + ·) (eL 3) (eC 1))) (aI (eS (rL 0) (eOp (· + ·) (eL 3) (eC 2))) (aN))) fX7_plateFor)) (sRi (eC 0)) sNop), (sIf (bCmp o_ne (eCV 6 (rL 1) (aI (eS (rL 0) (eOp (· + ·) (eL 3) (eC 1))) (aI (eS (rL 0) (eOp (· + ·) (eL 3) (eC 2))) (aN))) fX6_orderOf) (eCV 7 (rL 2) (aI (eS (rL 0) (eOp (· + ·) (eL 3) (eC 1))) (aI (eS (rL 0) (eOp (· + ·) (eL 3) (eC 2))) (aN))) fX7_orderOf)) (sRi (eC 0)) sNop), (sIf (bCmp o_ne (eCV 6 (rL 1) (aI (eS (rL 0) (eOp (· + ·) (eL 3) (eC 1))) (aI (eS (rL 0) (eOp (· + ·) (eL 3) (eC 2))) (aN))) fX6_letter) (eCV 7 (rL 2) (aI (eS (rL 0) (eOp (· + ·) (eL 3) (eC 1))) (aI (eS (rL 0) (eOp (· + ·) (eL 3) (eC 2))) (aN))) fX7_letter)) (sRi (eC 0)) sNop), (sIf (bCmp o_ne (eCV 6 (rL 1) (aI (eS (rL 0) (eOp (· + ·) (eL 3) (eC 1))) (aN)) fX6_lengthOf) (eCV 7 (rL 2) (aI (eS (rL 0) (eOp (· + ·) (eL 3) (eC 1))) (aN)) fX7_lengthOf)) (sRi (eC 0)) sNop), (sIf (bCmp o_ne (eCV 6 (rL 1) (aI (eS (rL 0) (eOp (· + ·) (eL 3) (eC 1))) (aI (eS (rL 0) (eOp (· + ·) (eL 3) (eC 2))) (aI (eS (rL 0) (eOp (· + ·) (eL 3) (eC 3))) (aN)))) fX6_plateFound) (eCV 7 (rL 2) (aI (eS (rL 0) (eOp (· + ·) (eL 3) (eC 1))) (aI (eS (rL 0) (eOp (· + ·) (eL 3) (eC 2))) (aI (eS (rL 0) (eOp (· + ·) (eL 3) (eC 3))) (aN)))) fX7_plateFound)) (sRi (eC 0)) sNop), (sIf (bCmp o_ne (eCV 6 (rL 1) (aI (eS (rL 0) (eOp (· + ·) (eL 3) (eC 1))) (aN)) fX6_doneIn) (eCV 7 (rL 2) (aI (eS (rL 0) (eOp (· + ·) (eL 3) (eC 1))) (aN)) fX7_doneIn)) (sRi (eC 0)) sNop), (sIf (bCmp o_ne (eCV 6 (rL 1) (aI (eS (rL 0) (eOp (· + ·) (eL 3) (eC 1))) (aN)) fX6_moved) (eCV 7 (rL 2) (aI (eS (rL 0) (eOp (· + ·) (eL 3) (eC 1))) (aN)) fX7_moved)) (sRi (eC 0)) sNop), (sIf (bCmp o_ne (eCV 6 (rL 1) (aI (eS (rL 0) (eOp (· + ·) (eL 3) (eC 1))) (aN)) fX6_largestSize) (eCV 7 (rL 2) (aI (eS (rL 0) (eOp (· + ·) (eL 3) (eC 1))) (aN)) fX7_largestSize)) (sRi (eC 0)) sNop)]
theorem arm_k (hj : 6 * j + 6 ≤ L) (hL : L ≤ 3072) (rl : Rl h b L xs t) (k : Nat) (hk : k < 24) : ∃ h', (armsL.getD k sNop) (enL b t j) h = some (.inl (enL b t j, h')) ∧ Rl h' b L xs t := by
  match k, hk with
  | 0, _ =>
    rw [show armsL.getD 0 sNop = (sIf (bCmp o_ne (eCV 6 (rL 1) (aI (eS (rL 0) (eOp (· + ·) (eL 3) (eC 1))) (aI (eS (rL 0) (eOp (· + ·) (eL 3) (eC 2))) (aN))) fX6_cut) (eCV 7 (rL 2) (aI (eS (rL 0) (eOp (· + ·) (eL 3) (eC 1))) (aI (eS (rL 0) (eOp (· + ·) (eL 3) (eC 2))) (aN))) fX7_cut)) (sRi (eC 0)) sNop) from rfl]
    exact arm (fun h hb => hA2 hj hL hb) (cmd_cut _ _) rl
  | 1, _ =>
    rw [show armsL.getD 1 sNop = (sIf (bCmp o_ne (eCV 6 (rL 1) (aI (eS (rL 0) (eOp (· + ·) (eL 3) (eC 1))) (aN)) fX6_spoil) (eCV 7 (rL 2) (aI (eS (rL 0) (eOp (· + ·) (eL 3) (eC 1))) (aN)) fX7_spoil)) (sRi (eC 0)) sNop) from rfl]
    exact arm (fun h hb => hA1 hj hL hb) (cmd_spoil _) rl
  | 2, _ =>
    rw [show armsL.getD 2 sNop = (sIf (bCmp o_ne (eCV 6 (rL 1) (aI (eS (rL 0) (eOp (· + ·) (eL 3) (eC 1))) (aI (eS (rL 0) (eOp (· + ·) (eL 3) (eC 2))) (aN))) fX6_grind) (eCV 7 (rL 2) (aI (eS (rL 0) (eOp (· + ·) (eL 3) (eC 1))) (aI (eS (rL 0) (eOp (· + ·) (eL 3) (eC 2))) (aN))) fX7_grind)) (sRi (eC 0)) sNop) from rfl]
    exact arm (fun h hb => hA2 hj hL hb) (cmd_grind _ _) rl
  | 3, _ =>
    rw [show armsL.getD 3 sNop = (sIf (bCmp o_ne (eCV 6 (rL 1) (aI (eS (rL 0) (eOp (· + ·) (eL 3) (eC 1))) (aN)) fX6_addShield) (eCV 7 (rL 2) (aI (eS (rL 0) (eOp (· + ·) (eL 3) (eC 1))) (aN)) fX7_addShield)) (sRi (eC 0)) sNop) from rfl]
    exact arm (fun h hb => hA1 hj hL hb) (cmd_addShield _) rl
  | 4, _ =>
    rw [show armsL.getD 4 sNop = (sIf (bCmp o_ne (eCV 6 (rL 1) (aI (eS (rL 0) (eOp (· + ·) (eL 3) (eC 1))) (aI (eS (rL 0) (eOp (· + ·) (eL 3) (eC 2))) (aN))) fX6_takeOff) (eCV 7 (rL 2) (aI (eS (rL 0) (eOp (· + ·) (eL 3) (eC 1))) (aI (eS (rL 0) (eOp (· + ·) (eL 3) (eC 2))) (aN))) fX7_takeOff)) (sRi (eC 0)) sNop) from rfl]
    exact arm (fun h hb => hA2 hj hL hb) (cmd_takeOff _ _) rl
  | 5, _ =>
    rw [show armsL.getD 5 sNop = (sIf (bCmp o_ne (eCV 6 (rL 1) (aI (eS (rL 0) (eOp (· + ·) (eL 3) (eC 1))) (aN)) fX6_append) (eCV 7 (rL 2) (aI (eS (rL 0) (eOp (· + ·) (eL 3) (eC 1))) (aN)) fX7_append)) (sRi (eC 0)) sNop) from rfl]
    exact arm (fun h hb => hA1 hj hL hb) (cmd_append _) rl
  | 6, _ =>
    rw [show armsL.getD 6 sNop = (sIf (bCmp o_ne (eCV 6 (rL 1) (aN) fX6_clearText) (eCV 7 (rL 2) (aN) fX7_clearText)) (sRi (eC 0)) sNop) from rfl]
    exact arm (fun h hb => rfl) cmd_clearText rl
  | 7, _ =>
    rw [show armsL.getD 7 sNop = (sIf (bCmp o_ne (eCV 6 (rL 1) (aI (eS (rL 0) (eOp (· + ·) (eL 3) (eC 1))) (aI (eS (rL 0) (eOp (· + ·) (eL 3) (eC 2))) (aI (eS (rL 0) (eOp (· + ·) (eL 3) (eC 3))) (aI (eS (rL 0) (eOp (· + ·) (eL 3) (eC 4))) (aI (eS (rL 0) (eOp (· + ·) (eL 3) (eC 5))) (aN)))))) fX6_order) (eCV 7 (rL 2) (aI (eS (rL 0) (eOp (· + ·) (eL 3) (eC 1))) (aI (eS (rL 0) (eOp (· + ·) (eL 3) (eC 2))) (aI (eS (rL 0) (eOp (· + ·) (eL 3) (eC 3))) (aI (eS (rL 0) (eOp (· + ·) (eL 3) (eC 4))) (aI (eS (rL 0) (eOp (· + ·) (eL 3) (eC 5))) (aN)))))) fX7_order)) (sRi (eC 0)) sNop) from rfl]
    exact arm (fun h hb => hA5 hj hL hb) (cmd_order _ _ _ _ _) rl
  | 8, _ =>
    rw [show armsL.getD 8 sNop = (sIf (bCmp o_ne (eCV 6 (rL 1) (aI (eS (rL 0) (eOp (· + ·) (eL 3) (eC 1))) (aN)) fX6_hurry) (eCV 7 (rL 2) (aI (eS (rL 0) (eOp (· + ·) (eL 3) (eC 1))) (aN)) fX7_hurry)) (sRi (eC 0)) sNop) from rfl]
    exact arm (fun h hb => hA1 hj hL hb) (cmd_hurry _) rl
  | 9, _ =>
    rw [show armsL.getD 9 sNop = (sIf (bCmp o_ne (eCV 6 (rL 1) (aI (eS (rL 0) (eOp (· + ·) (eL 3) (eC 1))) (aN)) fX6_cancel) (eCV 7 (rL 2) (aI (eS (rL 0) (eOp (· + ·) (eL 3) (eC 1))) (aN)) fX7_cancel)) (sRi (eC 0)) sNop) from rfl]
    exact arm (fun h hb => hA1 hj hL hb) (cmd_cancel _) rl
  | 10, _ =>
    rw [show armsL.getD 10 sNop = (sIf (bCmp o_ne (eCV 6 (rL 1) (aI (eS (rL 0) (eOp (· + ·) (eL 3) (eC 1))) (aN)) fX6_work) (eCV 7 (rL 2) (aI (eS (rL 0) (eOp (· + ·) (eL 3) (eC 1))) (aN)) fX7_work)) (sRi (eC 0)) sNop) from rfl]
    exact arm (fun h hb => hA1 hj hL hb) (cmd_work _) rl
  | 11, _ =>
    rw [show armsL.getD 11 sNop = (sIf (bCmp o_ne (eCV 6 (rL 1) (aN) fX6_slip) (eCV 7 (rL 2) (aN) fX7_slip)) (sRi (eC 0)) sNop) from rfl]
    exact arm (fun h hb => rfl) cmd_slip rl
  | 12, _ =>
    rw [show armsL.getD 12 sNop = (sIf (bCmp o_ne (eCV 6 (rL 1) (aN) fX6_undo) (eCV 7 (rL 2) (aN) fX7_undo)) (sRi (eC 0)) sNop) from rfl]
    exact arm (fun h hb => rfl) cmd_undo rl
  | 13, _ =>
    rw [show armsL.getD 13 sNop = (sIf (bCmp o_ne (eCV 6 (rL 1) (aI (eS (rL 0) (eOp (· + ·) (eL 3) (eC 1))) (aN)) fX6_count) (eCV 7 (rL 2) (aI (eS (rL 0) (eOp (· + ·) (eL 3) (eC 1))) (aN)) fX7_count)) (sRi (eC 0)) sNop) from rfl]
    exact arm (fun h hb => hA1 hj hL hb) (cmd_count _) rl
  | 14, _ =>
    rw [show armsL.getD 14 sNop = (sIf (bCmp o_ne (eCV 6 (rL 1) (aI (eS (rL 0) (eOp (· + ·) (eL 3) (eC 1))) (aI (eS (rL 0) (eOp (· + ·) (eL 3) (eC 2))) (aN))) fX6_plate) (eCV 7 (rL 2) (aI (eS (rL 0) (eOp (· + ·) (eL 3) (eC 1))) (aI (eS (rL 0) (eOp (· + ·) (eL 3) (eC 2))) (aN))) fX7_plate)) (sRi (eC 0)) sNop) from rfl]
    exact arm (fun h hb => hA2 hj hL hb) (cmd_plate _ _) rl
  | 15, _ =>
    rw [show armsL.getD 15 sNop = (sIf (bCmp o_ne (eCV 6 (rL 1) (aI (eS (rL 0) (eOp (· + ·) (eL 3) (eC 1))) (aI (eS (rL 0) (eOp (· + ·) (eL 3) (eC 2))) (aN))) fX6_shield) (eCV 7 (rL 2) (aI (eS (rL 0) (eOp (· + ·) (eL 3) (eC 1))) (aI (eS (rL 0) (eOp (· + ·) (eL 3) (eC 2))) (aN))) fX7_shield)) (sRi (eC 0)) sNop) from rfl]
    exact arm (fun h hb => hA2 hj hL hb) (cmd_shield _ _) rl
  | 16, _ =>
    rw [show armsL.getD 16 sNop = (sIf (bCmp o_ne (eCV 6 (rL 1) (aI (eS (rL 0) (eOp (· + ·) (eL 3) (eC 1))) (aI (eS (rL 0) (eOp (· + ·) (eL 3) (eC 2))) (aN))) fX6_plateFor) (eCV 7 (rL 2) (aI (eS (rL 0) (eOp (· + ·) (eL 3) (eC 1))) (aI (eS (rL 0) (eOp (· + ·) (eL 3) (eC 2))) (aN))) fX7_plateFor)) (sRi (eC 0)) sNop) from rfl]
    exact arm (fun h hb => hA2 hj hL hb) (cmd_plateFor _ _) rl
  | 17, _ =>
    rw [show armsL.getD 17 sNop = (sIf (bCmp o_ne (eCV 6 (rL 1) (aI (eS (rL 0) (eOp (· + ·) (eL 3) (eC 1))) (aI (eS (rL 0) (eOp (· + ·) (eL 3) (eC 2))) (aN))) fX6_orderOf) (eCV 7 (rL 2) (aI (eS (rL 0) (eOp (· + ·) (eL 3) (eC 1))) (aI (eS (rL 0) (eOp (· + ·) (eL 3) (eC 2))) (aN))) fX7_orderOf)) (sRi (eC 0)) sNop) from rfl]
    exact arm (fun h hb => hA2 hj hL hb) (cmd_orderOf _ _) rl
  | 18, _ =>
    rw [show armsL.getD 18 sNop = (sIf (bCmp o_ne (eCV 6 (rL 1) (aI (eS (rL 0) (eOp (· + ·) (eL 3) (eC 1))) (aI (eS (rL 0) (eOp (· + ·) (eL 3) (eC 2))) (aN))) fX6_letter) (eCV 7 (rL 2) (aI (eS (rL 0) (eOp (· + ·) (eL 3) (eC 1))) (aI (eS (rL 0) (eOp (· + ·) (eL 3) (eC 2))) (aN))) fX7_letter)) (sRi (eC 0)) sNop) from rfl]
    exact arm (fun h hb => hA2 hj hL hb) (cmd_letter _ _) rl
  | 19, _ =>
    rw [show armsL.getD 19 sNop = (sIf (bCmp o_ne (eCV 6 (rL 1) (aI (eS (rL 0) (eOp (· + ·) (eL 3) (eC 1))) (aN)) fX6_lengthOf) (eCV 7 (rL 2) (aI (eS (rL 0) (eOp (· + ·) (eL 3) (eC 1))) (aN)) fX7_lengthOf)) (sRi (eC 0)) sNop) from rfl]
    exact arm (fun h hb => hA1 hj hL hb) (cmd_lengthOf _) rl
  | 20, _ =>
    rw [show armsL.getD 20 sNop = (sIf (bCmp o_ne (eCV 6 (rL 1) (aI (eS (rL 0) (eOp (· + ·) (eL 3) (eC 1))) (aI (eS (rL 0) (eOp (· + ·) (eL 3) (eC 2))) (aI (eS (rL 0) (eOp (· + ·) (eL 3) (eC 3))) (aN)))) fX6_plateFound) (eCV 7 (rL 2) (aI (eS (rL 0) (eOp (· + ·) (eL 3) (eC 1))) (aI (eS (rL 0) (eOp (· + ·) (eL 3) (eC 2))) (aI (eS (rL 0) (eOp (· + ·) (eL 3) (eC 3))) (aN)))) fX7_plateFound)) (sRi (eC 0)) sNop) from rfl]
    exact arm (fun h hb => hA3 hj hL hb) (cmd_plateFound _ _ _) rl
  | 21, _ =>
    rw [show armsL.getD 21 sNop = (sIf (bCmp o_ne (eCV 6 (rL 1) (aI (eS (rL 0) (eOp (· + ·) (eL 3) (eC 1))) (aN)) fX6_doneIn) (eCV 7 (rL 2) (aI (eS (rL 0) (eOp (· + ·) (eL 3) (eC 1))) (aN)) fX7_doneIn)) (sRi (eC 0)) sNop) from rfl]
    exact arm (fun h hb => hA1 hj hL hb) (cmd_doneIn _) rl
  | 22, _ =>
    rw [show armsL.getD 22 sNop = (sIf (bCmp o_ne (eCV 6 (rL 1) (aI (eS (rL 0) (eOp (· + ·) (eL 3) (eC 1))) (aN)) fX6_moved) (eCV 7 (rL 2) (aI (eS (rL 0) (eOp (· + ·) (eL 3) (eC 1))) (aN)) fX7_moved)) (sRi (eC 0)) sNop) from rfl]
    exact arm (fun h hb => hA1 hj hL hb) (cmd_moved _) rl
  | 23, _ =>
    rw [show armsL.getD 23 sNop = (sIf (bCmp o_ne (eCV 6 (rL 1) (aI (eS (rL 0) (eOp (· + ·) (eL 3) (eC 1))) (aN)) fX6_largestSize) (eCV 7 (rL 2) (aI (eS (rL 0) (eOp (· + ·) (eL 3) (eC 1))) (aN)) fX7_largestSize)) (sRi (eC 0)) sNop) from rfl]
    exact arm (fun h hb => hA1 hj hL hb) (cmd_largestSize _) rl
  | k + 24, hk => exact absurd hk (by omega)
theorem bL2_eq : bL2 = sSeq (sBlk (sSeq (sLi 3 (eC 0)) (sW 4000 (bCmp o_le (eL 3) (eOp (· - ·) (eSL (rL 0)) (eC 6))) (sSeq (sSw 0 23 (eOp (· &&& ·) (eS (rL 0) (eL 3)) (eC 31)) armsL (sNop)) (sInc 3 6))))) (sRi (eC 1)) := rfl
theorem turn (hj : 6 * j + 6 ≤ L) (hL : L ≤ 3072) (rl : Rl h b L xs t) : ∃ h', sSw 0 23 (eOp (· &&& ·) (eS (rL 0) (eL 3)) (eC 31)) armsL (sNop) (enL b t j) h = some (.inl (enL b t j, h')) ∧ Rl h' b L xs t := by
  obtain ⟨hb, -⟩ := Rl_b rl
  obtain ⟨k, hk, ek⟩ := pk_andE (xs (6 * j)) (m := 31) 5 rfl
  have r := rdS_of hb (show 6 * j < L by omega) (by omega)
  have ef : eOp (· &&& ·) (eS (rL 0) (eL 3)) (eC 31) (enL b t j) h = some (nI k, h) := by simp [eOp, eS, en_r0, en_3, eC, r, ek]
  by_cases h24 : k < 24
  · obtain ⟨h', e1, e2⟩ := arm_k hj hL rl k h24
    have sw := sSw_at (n := 23) (bs := armsL) (df := sNop) ef (show k ≤ 23 by omega) (by omega)
    simp only [show ((23 : Nat) : Int) = 23 from rfl] at sw
    refine ⟨h', ?_, e2⟩
    rw [sw, e1]
    simp [zCut]
  · have hv : (decide (0 ≤ nI k) && decide (nI k ≤ nI 23)) = false := by
      rw [Bool.and_eq_false_iff]
      right
      rw [decide_eq_false_iff_not, nI_leI (by omega) (by omega)]
      omega
    have sw := sSw_out (n := 23) (bs := armsL) (df := sNop) ef hv (by omega)
    simp only [show ((23 : Nat) : Int) = 23 from rfl] at sw
    refine ⟨h, ?_, rl⟩
    rw [sw]
    simp [sNop, zCut]
theorem bL2_ok (hL : L ≤ 3072) (rl : Rl h b L xs t) : ∃ h2, bL2 [.ref b, .ref t, .ref (t + 387)] h = some (.inr (some 1, h2)) := by
  obtain ⟨en', h', e1, e2, e3⟩ := sW_inv (c := bCmp o_le (eL 3) (eOp (· - ·) (eSL (rL 0)) (eC 6))) (f := sSeq (sSw 0 23 (eOp (· &&& ·) (eS (rL 0) (eL 3)) (eC 31)) armsL (sNop)) (sInc 3 6)) (fun j en h => en = enL b t j ∧ Rl h b L xs t) (L / 6) (L / 6) 4000 0 (enL b t 0) h (by omega) (by omega) (by omega) ⟨rfl, rl⟩
    (fun j en h hj ⟨i1, i2⟩ => by
      subst i1
      have sl : rdSL h b = some (nI L) := by simp only [rdSL, (Rl_b i2).1]
      have z0 : (0 : Int32) ≤ nI L := by rw [← nI_0]; exact (nI_leI (by omega) (by omega)).mpr (Nat.zero_le _)
      have o : o_le (nI (6 * j)) (nI L - 6) = decide (j < L / 6) := by
        simp only [o_le]
        refine decide_eq_decide.mpr ?_
        rw [i_le, i_sub z0 (by decide), nI_toInt (by omega), nI_toInt (by omega), show (6 : Int32).toInt = 6 from rfl]
        omega
      simp [bCmp, en_3, eOp, eSL, en_r0, sl, eC, o])
    (fun j en h hj ⟨i1, i2⟩ => by
      subst i1
      obtain ⟨h', e1, e2⟩ := turn (j := j) (by omega) hL i2
      refine ⟨enL b t (j + 1), h', ?_, rfl, e2⟩
      have ei : sInc 3 6 (enL b t j) h' = some (.inl (enL b t (j + 1), h')) := by
        have e6 : nI (6 * j) + 6 = nI (6 * (j + 1)) := by rw [show (6 : Int32) = nI 6 from rfl, nI_add]; rfl
        simp only [sInc, en_3, Option.bind_some, e6]
        rfl
      rw [seq1 e1, ei]
      simp [zCut, enL])
  have es : sLi 3 (eC 0) [.ref b, .ref t, .ref (t + 387)] h = some (.inl (enL b t 0, h)) := by
    simp [sLi, eC, zSt, enL, nI_0]
  refine ⟨h', ?_⟩
  rw [bL2_eq]
  have eb : sBlk (sSeq (sLi 3 (eC 0)) (sW 4000 (bCmp o_le (eL 3) (eOp (· - ·) (eSL (rL 0)) (eC 6))) (sSeq (sSw 0 23 (eOp (· &&& ·) (eS (rL 0) (eL 3)) (eC 31)) armsL (sNop)) (sInc 3 6)))) [.ref b, .ref t, .ref (t + 387)] h = some (.inl ([.ref b, .ref t, .ref (t + 387)], h')) := by
    simp only [sBlk]
    rw [seq1 es, e1, e2]
    simp [zCut, enL]
  rw [seq1 eb]
  simp [sRi, eC]
end ZNY
theorem law_pure (b L sz : Nat) (xs : Nat → Int32) (hL : L ≤ 3072) (hb : b < sz) : ∃ (en1 : List Value) (h1 h2 : zH), bL1 [.ref b] (sz, fun a => if a = b then some (xS L xs) else none) = some (.inl (en1, h1)) ∧ bL2 en1 h1 = some (.inr (some 1, h2)) := by
  obtain ⟨h1, e1, rl⟩ := bL1_ok (L := L) (xs := xs) sz hb
  obtain ⟨h2, e2⟩ := bL2_ok hL rl
  exact ⟨_, h1, h2, e1, e2⟩
