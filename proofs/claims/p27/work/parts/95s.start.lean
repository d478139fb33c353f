/-! the start of the law -/
section ZNX
variable {h : zH} {b L t j : Nat} {xs : Nat → Int32}
theorem Vw_start : Vw s0 (fun _ _ => 0) (fun _ => 0) (fun k => k) (fun _ _ => 0) (fun _ => 0) (fun _ _ => 0) (upd (upd z_0 3 (-9)) 5 (-9)) 0 0 0 := by
  refine ⟨?_, ⟨fun k hk => hk, fun a b _ _ e => e⟩, fun p hp0 => by omega, fun j hj => by omega, fun k hk => by omega⟩
  simp [VH, s0, upd]
theorem Iv_start : Iv (upd (upd z_0 3 (-9)) 5 (-9)) 0 0 0 := by
  refine ⟨⟨by rw [nI_0]; rfl, by rw [nI_0]; rfl, by rw [nI_0]; rfl, by omega, by omega, by omega⟩, .inl ⟨rfl, rfl⟩, fun p hp0 => by omega, fun k hk => by omega, fun p q hp0 => by omega, fun p q hp0 => by omega, fun p q hp0 => by omega⟩
abbrev S00 : Nat → Int32 := upd (upd z_0 3 (-9)) 5 (-9)
theorem bL1_ok (sz : Nat) (hb : b < sz) : ∃ h1, bL1 [.ref b] (sz, fun a => if a = b then some (xS L xs) else none) = some (.inl ([.ref b, .ref sz], h1)) ∧ Rw h1 b L xs sz S00 0 (fun _ => 0) := by
  obtain ⟨⟨n1, H⟩, e1, p1, pt, pa, h5, h6, hs, t7, t8, f9, f3, f4, f5, f6, kp⟩ := X6_new (f := va_up (fun a => if a = b then some (xS L xs) else none) sz (some (n6 .null .null .null .null .null))) (t := sz) (va_up_self _ _ _)
  dsimp only at p1 pt h5 h6 t7 t8 f3 f4 f5 f6 kp
  subst p1
  have q1 : sLr 1 (rNw 6 [.null, .null, .null, .null, .null] (aN) fX6_init) [.ref b] (sz, fun a => if a = b then some (xS L xs) else none) = some (.inl ([.ref b, .ref sz], (sz + 387, H))) := by
    simp only [n6] at e1
    simp [sLr, rNw, aN, e1, zSt]
  have pi0 : PI (fun k => k) := ⟨fun k hk => hk, fun a b _ _ e => e⟩
  refine ⟨(sz + 387, H), by unfold bL1; exact q1, ⟨?_, hb, pt⟩, ⟨_, _, _, _, _, _, _, 0, 0, 0, 0, pa, Vw_start, Iv_start, Nat.le_refl _, fun j hj => by omega⟩,
    ⟨0, fun _ => z_0, fun k => k, ⟨fun k hk => hk, fun a b _ _ e => e⟩, h5, h6, by omega, fun k hk => ⟨_, _, _, _, _, _, _, hs k hk, pi0⟩, fun k hk => by omega⟩,
    ⟨by omega, t7, _, t8, fun x hx => by omega⟩, ⟨_, _, _, _, _, _, _, f9, pi0⟩, f3, ⟨_, f4⟩, f5, _, f6⟩
  show H b = _
  rw [kp b hb, va_up_ne _ _ (by omega), if_pos rfl]
end ZNX
