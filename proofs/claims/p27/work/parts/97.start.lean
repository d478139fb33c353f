/-! THE LAW, from its entry -/
theorem zKstart {s : State} {args : Array Value} (hts : ∀ w ∈ lw_tbl, w.before args s = true) : ∃ (D : va_G) (Z : Nat → ClassId), zK D Z s := by
  have hh : ∀ w, zHas w → w.before #[] s = true := fun w hw => word_at (State.WarmedH.refl s) (good_of_word hw.2) (hts w hw.1)
  have kn : ∀ {C : String} {T : u_T} {N n : Nat}, (∀ w ∈ u_ws C T N, zHas w) → zHas (.instantiable C n) → ∃ (cC : ClassId) (iS : Nat → Nat), u_Kn s C T N cC iS := fun {C T N n} h1 h2 => u_known (ws := u_ws C T N) (args := #[]) (fun w hw => hh w (h1 w hw)) (fun _ hw => hw) (hh _ h2)
  obtain ⟨c0, i0, k0⟩ := kn inX0 is0
  obtain ⟨c1, i1, k1⟩ := kn inX1 is1
  obtain ⟨c2, i2, k2⟩ := kn inX2 is2
  obtain ⟨c3, i3, k3⟩ := kn inX3 is3
  obtain ⟨c4, i4, k4⟩ := kn inX4 is4
  obtain ⟨c5, i5, k5⟩ := kn inX5 is5
  obtain ⟨c6, i6, k6⟩ := kn inX6 is6
  obtain ⟨aI, kI, compI, fI1, fI2, fI3⟩ := Cond.arrayClass_spec (hh _ acI)
  have ar : ∀ {C : String}, Cond.arrayOver (.object C) ∈ lw_tbl → ∃ cA : ClassId, ArrOfT s cA (.object C) ∧ va_RA s cA (.object C) := fun {C} h => by
    obtain ⟨comp, cA, kA, g1, g2, g3, g4, g5⟩ := Cond.arrayOver_spec (hts _ h)
    exact ⟨cA, fun N z => ⟨(fun k h => by cases h), kA, g3, comp, g4⟩, kA, comp, g3, g4, g1, g5⟩
  obtain ⟨a3, g3, r3⟩ := ar ao3
  obtain ⟨a4, g4, r4⟩ := ar ao4
  obtain ⟨a5, g5, r5⟩ := ar ao5
  refine ⟨(fun k => match k with | 0 => c0 | 1 => c1 | 2 => c2 | 3 => c3 | 4 => c4 | 5 => c5 | _ => c6, fun k => match k with | 0 => i0 | 1 => i1 | 2 => i2 | 3 => i3 | 4 => i4 | 5 => i5 | _ => i6), fun k => if k = 100 then aI else if k = 3 then a3 else if k = 4 then a4 else a5, ⟨fun k q hq => ?_, fun k q hq => ?_⟩, hh, fun a i y o ho => va_Nw.of rfl (hts _ ho), fun C ho => ?_⟩
  · match k, hq with
    | 0, hq => cases hq; exact k0
    | 1, hq => cases hq; exact k1
    | 2, hq => cases hq; exact k2
    | 3, hq => cases hq; exact k3
    | 4, hq => cases hq; exact k4
    | 5, hq => cases hq; exact k5
    | 6, hq => cases hq; exact k6
    | k + 7, hq => simp at hq
  · match k, hq with
    | 0, hq => cases hq; exact ⟨fun n z => ⟨(fun k h => by cases h), kI, fI2, compI, fI3⟩, fI1⟩
    | 1, hq => cases hq; exact ⟨g3, r3⟩
    | 2, hq => cases hq; exact ⟨g4, r4⟩
    | 3, hq => cases hq; exact ⟨g5, r5⟩
    | k + 4, hq => simp at hq
  · exact va_AO.of (hts _ ho)
theorem whole_start {p : Program} {e : Env} {s : State} {m : MethodId} {below : List Frame} {meth : Method} {c : Code} (l : Launch) (hflags : l.flags = flags0) {b L : Nat} {xs : Nat → Int32} (hL : L ≤ 260) (C0 : lw_At p s m meth c b L xs) : W p l e room_1 s m #[Value.ref b] below meth c s.heap [] 0 0 (lw_Z below #[Value.ref b] s) (entryFrame m ([Value.ref b] : List Value).toArray 11) := by
  obtain ⟨hx, hb, hr, hml, hown, hts, hX, hbl, hlocks, hgv⟩ := id C0
  obtain ⟨D, Z, hK⟩ := zKstart hts
  obtain ⟨en1, h1, h2, e1, e2⟩ := law_pure b L s.heap.size xs hL hbl
  have X : zCx mL (p, l, e, s, m, #[Value.ref b], below, meth, c, D, Z, s.heap.size) := ⟨hx, hb, hml, hown, hK, hr, hlocks, fun z => absurd z Bool.false_ne_true, Nat.le_refl _⟩
  rw [lg_entry_eq]
  have g := kL1 _ X 0 0 (lw_Z below #[Value.ref b] s) _ _ en1 h1 e1 (by show 0 + 473 ≤ 638031; omega) (by show 0 + 3442 ≤ 7188156; omega) (kL2 _ X (0 + 473) (0 + 3442) _ h1 en1 _ e2 (by
    intro pc hd hkn H locs ls hW hS hl
    refine W.widen (k := 638031) (n := 7188156) (by omega) (by omega) (va_forget (fun q hq => hS.2.2 q hq) ?_)
    exact lw_ret hx hb hr hlocks hd))
  refine g ⟨Nat.zero_le _, Nat.zero_le _⟩ s.heap [] _ ⟨rfl, fun a y hy => ?_⟩ va_S.rf (zL.entry (fun w hw => by rw [List.mem_singleton.mp hw]; rfl) (by simp))
  dsimp only at hy
  split at hy
  · rename_i hab
    cases hy
    subst hab
    exact ⟨hX, fun z => z.elim⟩
  · cases hy
