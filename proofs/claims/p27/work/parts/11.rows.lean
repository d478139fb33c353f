/-! ROWS: numbers, locals, arithmetic -/
section ZR1
variable {M : zM} {d pc p1 p2 p3 : Nat}
def eC (v : Int32) : zEI := fun _ h => some (v, h)
def eL (k : Nat) : zEI := fun en h => match en[k]? with
  | some (.int v) => some (v, h)
  | _ => none
def rL (k : Nat) : zER := fun en h => match en[k]? with
  | some (.ref v) => some (v, h)
  | _ => none
theorem eL_spec {k : Nat} {en : List Value} {h h' : zH} {v : Int32} (hf : eL k en h = some (v, h')) : en[k]? = some (.int v) ∧ h' = h := by
  unfold eL at hf
  split at hf
  · rename_i w hw
    cases hf
    exact ⟨hw, rfl⟩
  · cases hf
theorem rL_spec {k : Nat} {en : List Value} {h h' : zH} {v : Nat} (hf : rL k en h = some (v, h')) : en[k]? = some (.ref v) ∧ h' = h := by
  unfold rL at hf
  split at hf
  · rename_i w hw
    cases hf
    exact ⟨hw, rfl⟩
  · cases hf
theorem kC_ic {i : Int} {v : Int32} (hd : decode M.1 pc = .ok (.iconst i, 1)) (hv : Int32.ofInt i = v) : eiOk M d pc (pc + 1) (eC v) := by
  intro x X k n Q h en st v' h' hf hs g
  obtain ⟨p, l, e, s, m, args, below, meth, c, D, Z, B0⟩ := x
  cases hf
  intro hkn H locs ls hW hS hl
  exact lv_iconst X.1 X.2.1 hd hv (g hkn H locs ls hW hS hl)
theorem kC_bi {i : Int} {v : Int32} (hd : decode M.1 pc = .ok (.bipush i, 2)) (hv : (Int8.ofInt i).toInt32 = v) : eiOk M d pc (pc + 2) (eC v) := by
  intro x X k n Q h en st v' h' hf hs g
  obtain ⟨p, l, e, s, m, args, below, meth, c, D, Z, B0⟩ := x
  cases hf
  intro hkn H locs ls hW hS hl
  exact lv_bipush X.1 X.2.1 hd hv (g hkn H locs ls hW hS hl)
theorem kC_si {i : Int} {v : Int32} (hd : decode M.1 pc = .ok (.sipush i, 3)) (hv : (Int16.ofInt i).toInt32 = v) : eiOk M d pc (pc + 3) (eC v) := by
  intro x X k n Q h en st v' h' hf hs g
  obtain ⟨p, l, e, s, m, args, below, meth, c, D, Z, B0⟩ := x
  cases hf
  intro hkn H locs ls hW hS hl
  exact lv_sipush X.1 X.2.1 hd hv (g hkn H locs ls hW hS hl)
theorem kC_ldc {idx : Nat} {v : Int32} (hd : decode M.1 pc = .ok (.ldc idx, 2)) (hc : zHas (Cond.constant M.2.1 idx v)) : eiOk M d pc (pc + 2) (eC v) := by
  intro x X k n Q h en st v' h' hf hs g
  obtain ⟨p, l, e, s, m, args, below, meth, c, D, Z, B0⟩ := x
  cases hf
  intro hkn H locs ls hW hS hl
  exact lv_ldc X.1 X.2.1 X.2.2.2.1 (X.2.2.2.2.1.ts args hc) hd (g hkn H locs ls hW hS hl)
theorem kC_ldcw {idx : Nat} {v : Int32} (hd : decode M.1 pc = .ok (.ldc_w idx, 3)) (hc : zHas (Cond.constant M.2.1 idx v)) : eiOk M d pc (pc + 3) (eC v) := by
  intro x X k n Q h en st v' h' hf hs g
  obtain ⟨p, l, e, s, m, args, below, meth, c, D, Z, B0⟩ := x
  cases hf
  intro hkn H locs ls hW hS hl
  exact lv_ldcw X.1 X.2.1 X.2.2.2.1 (X.2.2.2.2.1.ts args hc) hd (g hkn H locs ls hW hS hl)
theorem kL_n {kk : Fin 4} {j : Nat} (hd : decode M.1 pc = .ok (.iload_n kk, 1)) (hj : (kk : Nat) = j) : eiOk M d pc (pc + 1) (eL j) := by
  intro x X k n Q h en st v' h' hf hs g
  obtain ⟨p, l, e, s, m, args, below, meth, c, D, Z, B0⟩ := x
  obtain ⟨h1, rfl⟩ := eL_spec hf
  intro hkn H locs ls hW hS hl
  exact lv_iload_n X.1 X.2.1 hd hj (hl.2.2 _ _ h1 (fun z => by cases z)) (g hkn H locs ls hW hS hl)
theorem kL {j : Nat} (hd : decode M.1 pc = .ok (.iload j, 2)) : eiOk M d pc (pc + 2) (eL j) := by
  intro x X k n Q h en st v' h' hf hs g
  obtain ⟨p, l, e, s, m, args, below, meth, c, D, Z, B0⟩ := x
  obtain ⟨h1, rfl⟩ := eL_spec hf
  intro hkn H locs ls hW hS hl
  exact lv_iload X.1 X.2.1 hd (hl.2.2 _ _ h1 (fun z => by cases z)) (g hkn H locs ls hW hS hl)
theorem kR_n {kk : Fin 4} {j : Nat} (hd : decode M.1 pc = .ok (.aload_n kk, 1)) (hj : (kk : Nat) = j) : erOk M d pc (pc + 1) (rL j) := by
  intro x X k n Q h en st v' h' hf hs g
  obtain ⟨p, l, e, s, m, args, below, meth, c, D, Z, B0⟩ := x
  obtain ⟨h1, rfl⟩ := rL_spec hf
  intro hkn H locs ls hW hS hl
  exact lv_aload_n X.1 X.2.1 hd hj (hl.2.2 _ _ h1 (fun z => by cases z)) (g hkn H locs ls hW hS hl)
theorem kR {j : Nat} (hd : decode M.1 pc = .ok (.aload j, 2)) : erOk M d pc (pc + 2) (rL j) := by
  intro x X k n Q h en st v' h' hf hs g
  obtain ⟨p, l, e, s, m, args, below, meth, c, D, Z, B0⟩ := x
  obtain ⟨h1, rfl⟩ := rL_spec hf
  intro hkn H locs ls hW hS hl
  exact lv_aload X.1 X.2.1 hd (hl.2.2 _ _ h1 (fun z => by cases z)) (g hkn H locs ls hW hS hl)
def eOp (o : Int32 → Int32 → Int32) (f g : zEI) : zEI := fun en h => (f en h).bind fun a => (g en a.2).bind fun b => some (o a.1 b.1, b.2)
theorem eOp_spec {o : Int32 → Int32 → Int32} {f g : zEI} {en : List Value} {h h' : zH} {v : Int32} (hf : eOp o f g en h = some (v, h')) : ∃ a h1 b, f en h = some (a, h1) ∧ g en h1 = some (b, h') ∧ v = o a b := by
  simp only [eOp, Option.bind_eq_some_iff] at hf
  obtain ⟨⟨a, h1⟩, e1, ⟨b, h2⟩, e2, e3⟩ := hf
  cases e3
  exact ⟨a, h1, b, e1, e2, rfl⟩
theorem zcat_int {d : Nat} {v : Int32} {st : List Value} (h : zcat st ≤ d) : zcat (.int v :: st) ≤ d + 1 := by
  simp only [zcat, List.map_cons, List.sum_cons, Value.category] at *
  omega
theorem zcat_ref {d : Nat} {v : Nat} {st : List Value} (h : zcat st ≤ d) : zcat (.ref v :: st) ≤ d + 1 := by
  simp only [zcat, List.map_cons, List.sum_cons, Value.category] at *
  omega
theorem kAdd {f g : zEI} (hf : eiOk M d pc p1 f) (hg : eiOk M (d + 1) p1 p2 g) (hd : decode M.1 p2 = .ok (.iadd, 1)) : eiOk M d pc (p2 + 1) (eOp (· + ·) f g) := by
  intro x X k n Q h en st v' h' hv hs q
  obtain ⟨a, h1, b, e1, e2, rfl⟩ := eOp_spec hv
  refine hf x X k n Q h en st a h1 e1 hs (hg x X k n Q h1 en _ b h' e2 (zcat_int hs) ?_)
  obtain ⟨p, l, e, s, m, args, below, meth, c, D, Z, B0⟩ := x
  intro hkn H locs ls hW hS hl
  exact lv_iadd X.1 X.2.1 hd (q hkn H locs ls hW hS hl)
theorem kSub {f g : zEI} (hf : eiOk M d pc p1 f) (hg : eiOk M (d + 1) p1 p2 g) (hd : decode M.1 p2 = .ok (.isub, 1)) : eiOk M d pc (p2 + 1) (eOp (· - ·) f g) := by
  intro x X k n Q h en st v' h' hv hs q
  obtain ⟨a, h1, b, e1, e2, rfl⟩ := eOp_spec hv
  refine hf x X k n Q h en st a h1 e1 hs (hg x X k n Q h1 en _ b h' e2 (zcat_int hs) ?_)
  obtain ⟨p, l, e, s, m, args, below, meth, c, D, Z, B0⟩ := x
  intro hkn H locs ls hW hS hl
  exact lv_isub X.1 X.2.1 hd (q hkn H locs ls hW hS hl)
theorem kMul {f g : zEI} (hf : eiOk M d pc p1 f) (hg : eiOk M (d + 1) p1 p2 g) (hd : decode M.1 p2 = .ok (.imul, 1)) : eiOk M d pc (p2 + 1) (eOp (· * ·) f g) := by
  intro x X k n Q h en st v' h' hv hs q
  obtain ⟨a, h1, b, e1, e2, rfl⟩ := eOp_spec hv
  refine hf x X k n Q h en st a h1 e1 hs (hg x X k n Q h1 en _ b h' e2 (zcat_int hs) ?_)
  obtain ⟨p, l, e, s, m, args, below, meth, c, D, Z, B0⟩ := x
  intro hkn H locs ls hW hS hl
  exact lv_imul X.1 X.2.1 hd (q hkn H locs ls hW hS hl)
theorem kAnd {f g : zEI} (hf : eiOk M d pc p1 f) (hg : eiOk M (d + 1) p1 p2 g) (hd : decode M.1 p2 = .ok (.iand, 1)) : eiOk M d pc (p2 + 1) (eOp (· &&& ·) f g) := by
  intro x X k n Q h en st v' h' hv hs q
  obtain ⟨a, h1, b, e1, e2, rfl⟩ := eOp_spec hv
  refine hf x X k n Q h en st a h1 e1 hs (hg x X k n Q h1 en _ b h' e2 (zcat_int hs) ?_)
  obtain ⟨p, l, e, s, m, args, below, meth, c, D, Z, B0⟩ := x
  intro hkn H locs ls hW hS hl
  exact lv_iand X.1 X.2.1 hd (q hkn H locs ls hW hS hl)
/-! reads of cells -/
def rdI (h : zH) (ci k a : Nat) : Option Int32 := match h.2 a with
  | some (.inr (.inr (.inl (c, fs)))) => if c = ci then (match fs[k]? with | some (.int v) => some v | _ => none) else none
  | _ => none
def rdR (h : zH) (ci k a : Nat) : Option Nat := match h.2 a with
  | some (.inr (.inr (.inl (c, fs)))) => if c = ci then (match fs[k]? with | some (.ref v) => some v | _ => none) else none
  | _ => none
def rdA (h : zH) (a : Nat) (i : Int32) : Option Int32 := match h.2 a with
  | some (.inl (n, f)) => if 0 ≤ i.toInt ∧ i.toInt < n then some (f i.toNatClampNeg) else none
  | _ => none
def rdS (h : zH) (a : Nat) (i : Int32) : Option Int32 := match h.2 a with
  | some (.inr (.inr (.inr (n, f)))) => if 0 ≤ i.toInt ∧ i.toInt < n then some (f i.toNatClampNeg) else none
  | _ => none
def rdQ (h : zH) (ci a : Nat) (i : Int32) : Option Nat := match h.2 a with
  | some (.inr (.inl (c, n, f))) => if c = ci ∧ 0 ≤ i.toInt ∧ i.toInt < n then f i.toNatClampNeg else none
  | _ => none
theorem rdI_spec {h : zH} {ci k a : Nat} {v : Int32} (hf : rdI h ci k a = some v) : ∃ fs, h.2 a = some (xO ci fs) ∧ fs[k]? = some (.int v) := by
  unfold rdI at hf
  split at hf
  · rename_i c fs hh
    split at hf
    · rename_i hc
      subst hc
      split at hf
      · rename_i w hw
        cases hf
        exact ⟨fs, hh, hw⟩
      · cases hf
    · cases hf
  · cases hf
theorem rdR_spec {h : zH} {ci k a : Nat} {v : Nat} (hf : rdR h ci k a = some v) : ∃ fs, h.2 a = some (xO ci fs) ∧ fs[k]? = some (.ref v) := by
  unfold rdR at hf
  split at hf
  · rename_i c fs hh
    split at hf
    · rename_i hc
      subst hc
      split at hf
      · rename_i w hw
        cases hf
        exact ⟨fs, hh, hw⟩
      · cases hf
    · cases hf
  · cases hf
theorem rdA_spec {h : zH} {a : Nat} {i v : Int32} (hf : rdA h a i = some v) : ∃ n f, h.2 a = some (xI n f) ∧ vp_in i n ∧ v = f i.toNatClampNeg := by
  unfold rdA at hf
  split at hf
  · rename_i n f hh
    split at hf
    · rename_i hc
      cases hf
      exact ⟨n, f, hh, vp_in_iff.mpr hc, rfl⟩
    · cases hf
  · cases hf
theorem rdS_spec {h : zH} {a : Nat} {i v : Int32} (hf : rdS h a i = some v) : ∃ n f, h.2 a = some (xS n f) ∧ vp_in i n ∧ v = f i.toNatClampNeg := by
  unfold rdS at hf
  split at hf
  · rename_i n f hh
    split at hf
    · rename_i hc
      cases hf
      exact ⟨n, f, hh, vp_in_iff.mpr hc, rfl⟩
    · cases hf
  · cases hf
theorem rdQ_spec {h : zH} {ci a v : Nat} {i : Int32} (hf : rdQ h ci a i = some v) : ∃ n f, h.2 a = some (xR ci n f) ∧ vp_in i n ∧ f i.toNatClampNeg = some v := by
  unfold rdQ at hf
  split at hf
  · rename_i c n f hh
    split at hf
    · rename_i hc
      obtain ⟨rfl, hc⟩ := hc
      exact ⟨n, f, hh, vp_in_iff.mpr hc, hf⟩
    · cases hf
  · cases hf
/-- a row of the table of classes -/
def zCl (ci : Nat) (C : String) (T : u_T) (N : Nat) (ty : Nat → FieldType) : Prop := vwCl[ci]? = some (C, T, N) ∧ (∀ w ∈ u_ws C T N, zHas w) ∧ (∀ k, k < N → parseFieldDescriptor (T k).2.2.1 = some (ty k)) ∧ (∀ a, a < N → ∀ b, b < N → a ≠ b → (T a).2.1 ≠ (T b).2.1)
theorem va_P1 {D : va_G} {q : Nat × va_E} {H : Heap} (h : va_at D vwCl q H) : va_P D vwCl [q] H := fun k q' hk => by
  cases k with
  | zero => cases hk; exact h
  | succ k => simp at hk
def eF (ci k : Nat) (o : zER) : zEI := fun en h => (o en h).bind fun a => (rdI a.2 ci k a.1).map fun v => (v, a.2)
def rF (ci k : Nat) (o : zER) : zER := fun en h => (o en h).bind fun a => (rdR a.2 ci k a.1).map fun v => (v, a.2)
theorem kF {ci kf N idx : Nat} {C : String} {T : u_T} {ty : Nat → FieldType} {o : zER} (ho : erOk M d pc p1 o) (hd : decode M.1 p1 = .ok (.getfield idx, 3)) (hc : zCl ci C T N ty) (hl : zHas (Cond.fieldLink M.2.1 idx (T kf).1 (T kf).2.1 (T kf).2.2.1)) (hk : kf < N) : eiOk M d pc (p1 + 3) (eF ci kf o) := by
  intro x X k n Q h en st v' h' hv hs q
  simp only [eF, Option.bind_eq_some_iff, Option.map_eq_some_iff] at hv
  obtain ⟨⟨a, h1⟩, e1, w, e2, e3⟩ := hv
  cases e3
  refine ho x X k n Q h en st a h1 e1 hs ?_
  obtain ⟨fs, g1, g2⟩ := rdI_spec e2
  obtain ⟨p, l, e, s, m, args, below, meth, c, D, Z, B0⟩ := x
  intro hkn H locs ls hW hS hl'
  exact va_get (D := D) (ci := ci) (ws := [(a, .inr (ci, fs))]) (C := C) (T := T) (N := N) X.1 X.2.1 (fun w hw => X.2.2.2.2.1.ts args (hc.2.1 w hw)) (fun _ hw => hw) X.2.2.2.1 X.2.2.2.2.1.1 (va_P1 (hW.2 a _ g1).1) 0 rfl hc.1 kf hk (X.2.2.2.2.1.ts args hl) (fun _ z => z) g2 hd (q hkn H locs ls hW hS hl')
theorem kRF {ci kf N idx : Nat} {C : String} {T : u_T} {ty : Nat → FieldType} {o : zER} (ho : erOk M d pc p1 o) (hd : decode M.1 p1 = .ok (.getfield idx, 3)) (hc : zCl ci C T N ty) (hl : zHas (Cond.fieldLink M.2.1 idx (T kf).1 (T kf).2.1 (T kf).2.2.1)) (hk : kf < N) : erOk M d pc (p1 + 3) (rF ci kf o) := by
  intro x X k n Q h en st v' h' hv hs q
  simp only [rF, Option.bind_eq_some_iff, Option.map_eq_some_iff] at hv
  obtain ⟨⟨a, h1⟩, e1, w, e2, e3⟩ := hv
  cases e3
  refine ho x X k n Q h en st a h1 e1 hs ?_
  obtain ⟨fs, g1, g2⟩ := rdR_spec e2
  obtain ⟨p, l, e, s, m, args, below, meth, c, D, Z, B0⟩ := x
  intro hkn H locs ls hW hS hl'
  exact va_get (D := D) (ci := ci) (ws := [(a, .inr (ci, fs))]) (C := C) (T := T) (N := N) X.1 X.2.1 (fun w hw => X.2.2.2.2.1.ts args (hc.2.1 w hw)) (fun _ hw => hw) X.2.2.2.1 X.2.2.2.2.1.1 (va_P1 (hW.2 a _ g1).1) 0 rfl hc.1 kf hk (X.2.2.2.2.1.ts args hl) (fun _ z => z) g2 hd (q hkn H locs ls hW hS hl')
def eA (o : zER) (i : zEI) : zEI := fun en h => (o en h).bind fun a => (i en a.2).bind fun b => (rdA b.2 a.1 b.1).map fun v => (v, b.2)
def eS (o : zER) (i : zEI) : zEI := fun en h => (o en h).bind fun a => (i en a.2).bind fun b => (rdS b.2 a.1 b.1).map fun v => (v, b.2)
def rQ (ci : Nat) (o : zER) (i : zEI) : zER := fun en h => (o en h).bind fun a => (i en a.2).bind fun b => (rdQ b.2 ci a.1 b.1).map fun v => (v, b.2)
theorem kA {o : zER} {i : zEI} (ho : erOk M d pc p1 o) (hi : eiOk M (d + 1) p1 p2 i) (hd : decode M.1 p2 = .ok (.iaload, 1)) : eiOk M d pc (p2 + 1) (eA o i) := by
  intro x X k n Q h en st v' h' hv hs q
  simp only [eA, Option.bind_eq_some_iff, Option.map_eq_some_iff] at hv
  obtain ⟨⟨a, h1⟩, e1, ⟨b, h2⟩, e2, w, e3, e4⟩ := hv
  cases e4
  refine ho x X k n Q h en st a h1 e1 hs (hi x X k n Q h1 en _ b h2 e2 (zcat_ref hs) ?_)
  obtain ⟨N, f, g1, g2, g3⟩ := rdA_spec e3
  subst g3
  obtain ⟨p, l, e, s, m, args, below, meth, c, D, Z, B0⟩ := x
  intro hkn H locs ls hW hS hl'
  exact va_iald (D := D) (cl := vwCl) (tys := zTys Z) (ws := [(a, .inl (Z 100, N, .inl f))]) X.1 X.2.1 X.2.2.2.2.1.1 (va_P1 (hW.2 a _ g1).1) 0 0 rfl rfl g2 hd (q hkn H locs ls hW hS hl')
theorem kS {o : zER} {i : zEI} (ho : erOk M d pc p1 o) (hi : eiOk M (d + 1) p1 p2 i) (hd : decode M.1 p2 = .ok (.iaload, 1)) : eiOk M d pc (p2 + 1) (eS o i) := by
  intro x X k n Q h en st v' h' hv hs q
  simp only [eS, Option.bind_eq_some_iff, Option.map_eq_some_iff] at hv
  obtain ⟨⟨a, h1⟩, e1, ⟨b, h2⟩, e2, w, e3, e4⟩ := hv
  cases e4
  refine ho x X k n Q h en st a h1 e1 hs (hi x X k n Q h1 en _ b h2 e2 (zcat_ref hs) ?_)
  obtain ⟨N, f, g1, g2, g3⟩ := rdS_spec e3
  subst g3
  obtain ⟨p, l, e, s, m, args, below, meth, c, D, Z, B0⟩ := x
  intro hkn H locs ls hW hS hl'
  obtain ⟨scr, k1, k2, k3, k4, k5⟩ := (hW.2 a _ g1).1
  have hlt : b.toNatClampNeg < N := Nat.not_le.mp fun z => g2 (Or.inr z)
  exact W.iald (v := .int (f b.toNatClampNeg)) X.1 X.2.1 k1 k2 k3 (by rw [k4]; exact g2) (k5 _ hlt) rfl rfl hd (q hkn H locs ls hW hS hl')
theorem zTys_at {Z : Nat → ClassId} {ci : Nat} {C : String} (h : (ci = 3 ∧ C = RX3) ∨ (ci = 4 ∧ C = RX4) ∨ (ci = 5 ∧ C = RX5)) : ∃ t0 : Nat, (zTys Z)[t0]? = some (Z ci, FieldType.object C) := by
  rcases h with ⟨rfl, rfl⟩ | ⟨rfl, rfl⟩ | ⟨rfl, rfl⟩
  · exact ⟨1, rfl⟩
  · exact ⟨2, rfl⟩
  · exact ⟨3, rfl⟩
theorem kQ {ci : Nat} {C : String} {o : zER} {i : zEI} (ho : erOk M d pc p1 o) (hi : eiOk M (d + 1) p1 p2 i) (hd : decode M.1 p2 = .ok (.aaload, 1)) (hC : (ci = 3 ∧ C = RX3) ∨ (ci = 4 ∧ C = RX4) ∨ (ci = 5 ∧ C = RX5)) : erOk M d pc (p2 + 1) (rQ ci o i) := by
  intro x X k n Q h en st v' h' hv hs q
  simp only [rQ, Option.bind_eq_some_iff, Option.map_eq_some_iff] at hv
  obtain ⟨⟨a, h1⟩, e1, ⟨b, h2⟩, e2, w, e3, e4⟩ := hv
  cases e4
  refine ho x X k n Q h en st a h1 e1 hs (hi x X k n Q h1 en _ b h2 e2 (zcat_ref hs) ?_)
  obtain ⟨N, f, g1, g2, g3⟩ := rdQ_spec e3
  obtain ⟨p, l, e, s, m, args, below, meth, c, D, Z, B0⟩ := x
  intro hkn H locs ls hW hS hl'
  obtain ⟨t0, ht0⟩ := zTys_at (Z := Z) hC
  have q' := q hkn H locs ls hW hS hl'
  rw [show (Value.ref v') = va_rf (f b.toNatClampNeg) by rw [g3]; rfl] at q'
  exact va_aldq (D := D) (cl := vwCl) (tys := zTys Z) (ws := [(a, .inl (Z ci, N, .inr (.inr (.inr (.inr f)))))]) X.1 X.2.1 X.2.2.2.2.1.1 (va_P1 (hW.2 a _ g1).1) 0 t0 rfl ht0 g2 hd q'
end ZR1
