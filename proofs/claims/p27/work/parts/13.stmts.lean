/-! ROWS: statements -/
def isO (h : zH) (ci b : Nat) : Bool := match h.2 b with
  | some (.inr (.inr (.inl (c, _)))) => decide (c = ci)
  | _ => false
def wrO (h : zH) (ci k a : Nat) (v : Value) : Option zH := match h.2 a with
  | some (.inr (.inr (.inl (c, fs)))) => if c = ci ∧ k < fs.length then some (h.1, va_up h.2 a (some (xO ci (fs.set k v)))) else none
  | _ => none
def wrA (h : zH) (a : Nat) (i v : Int32) : Option zH := match h.2 a with
  | some (.inl (n, f)) => if 0 ≤ i.toInt ∧ i.toInt < n then some (h.1, va_up h.2 a (some (xI n (upd f i.toNatClampNeg v)))) else none
  | _ => none
def wrQ (h : zH) (ci a : Nat) (i : Int32) (b : Nat) : Option zH := match h.2 a with
  | some (.inr (.inl (c, n, f))) => if c = ci ∧ 0 ≤ i.toInt ∧ i.toInt < n ∧ isO h ci b = true then some (h.1, va_up h.2 a (some (xR ci n (va_up f i.toNatClampNeg (some b))))) else none
  | _ => none
theorem isO_spec {h : zH} {ci b : Nat} (hf : isO h ci b = true) : ∃ fs, h.2 b = some (xO ci fs) := by
  unfold isO at hf
  split at hf
  · rename_i c fs hh
    have hc : c = ci := by simpa using hf
    subst hc
    exact ⟨fs, hh⟩
  · cases hf
theorem wrO_spec {h h' : zH} {ci k a : Nat} {v : Value} (hf : wrO h ci k a v = some h') : ∃ fs, h.2 a = some (xO ci fs) ∧ k < fs.length ∧ h' = (h.1, va_up h.2 a (some (xO ci (fs.set k v)))) := by
  unfold wrO at hf
  split at hf
  · rename_i c fs hh
    split at hf
    · rename_i hc
      obtain ⟨rfl, hk⟩ := hc
      cases hf
      exact ⟨fs, hh, hk, rfl⟩
    · cases hf
  · cases hf
theorem wrA_spec {h h' : zH} {a : Nat} {i v : Int32} (hf : wrA h a i v = some h') : ∃ n f, h.2 a = some (xI n f) ∧ vp_in i n ∧ h' = (h.1, va_up h.2 a (some (xI n (upd f i.toNatClampNeg v)))) := by
  unfold wrA at hf
  split at hf
  · rename_i n f hh
    split at hf
    · rename_i hc
      cases hf
      exact ⟨n, f, hh, vp_in_iff.mpr hc, rfl⟩
    · cases hf
  · cases hf
theorem wrQ_spec {h h' : zH} {ci a b : Nat} {i : Int32} (hf : wrQ h ci a i b = some h') : ∃ n f fs, h.2 a = some (xR ci n f) ∧ vp_in i n ∧ h.2 b = some (xO ci fs) ∧ h' = (h.1, va_up h.2 a (some (xR ci n (va_up f i.toNatClampNeg (some b))))) := by
  unfold wrQ at hf
  split at hf
  · rename_i c n f hh
    split at hf
    · rename_i hc
      obtain ⟨rfl, h1, h2, h3⟩ := hc
      cases hf
      obtain ⟨fs, hfs⟩ := isO_spec h3
      exact ⟨n, f, fs, hh, vp_in_iff.mpr ⟨h1, h2⟩, hfs, rfl⟩
    · cases hf
  · cases hf
section ZR3
variable {M : zM} {d pc p0 p1 p2 p3 pT pF pE : Nat}
/-- a store into a field of an object, at the machine -/
theorem zPut {k n : Nat} {Q : State → Prop} {h : zH} {p : Program} {l : Launch} {e : Env} {s : State} {m : MethodId} {args : Array Value} {below : List Frame} {meth : Method} {c : Code} {D : va_G} {Z : Nat → ClassId} {B0 : Nat} (X : zCx M (p, l, e, s, m, args, below, meth, c, D, Z, B0)) {H : Heap} {locs : List Loc} {ls : Array Slot} (hW : zW D Z B0 s h H) (hS : va_S (fun q => B0 ≤ q) s.heap H locs) {ci kf N idx a : Nat} {C : String} {T : u_T} {ty : Nat → FieldType} {fs rest : List Value} {v : Value} (ha : h.2 a = some (xO ci fs)) (hl : kf < fs.length) (hc : zCl ci C T N ty) (hlk : zHas (Cond.fieldLink M.2.1 idx (T kf).1 (T kf).2.1 (T kf).2.2.1)) (hk : kf < N) (hfin : (T kf).2.2.2 = false) (hn : narrow (ty kf) v = v) (hfit : fits (ty kf) v = true) (hd : decode M.1 pc = .ok (.putfield idx, 3))
    (kk : ∀ (H1 : Heap) (locs1 : List Loc), zW D Z B0 s (h.1, va_up h.2 a (some (xO ci (fs.set kf v)))) H1 → va_S (fun q => B0 ≤ q) s.heap H1 locs1 → W p l e M.2.2.2.2.1 s m args below meth c H1 locs1 k n Q (F0 m (pc + 3) ls rest)) : W p l e M.2.2.2.2.1 s m args below meth c H locs k n Q (F0 m pc ls (v :: .ref a :: rest)) := by
  obtain ⟨hx, hb, -, hown, hK, -, -, -, -⟩ := X
  obtain ⟨hcl, hin, hty, hnm⟩ := hc
  have hap := va_apart (own := M.2.1) (Ts := u_ws C T N) (fun w hw => hK.ts args (hin w hw)) (fun _ hw => hw) ty hty hnm hK.1 hcl
  have hB := (hW.2 a _ ha).2 trivial
  obtain ⟨r, h1, cell, q1, q2, q3, q4⟩ := (hW.2 a _ ha).1
  have hr : r = (C, T, N) := Option.some.inj (h1.symm.trans hcl)
  subst hr
  obtain ⟨hSl, hfc, kC, hkC, hkind⟩ := hK.1.1 ci _ hcl
  obtain ⟨cf, kfC, fi, f, hi, hsl⟩ := hSl kf hk
  have hlay := hK.ts args (hin _ (u_in_lay hk))
  have hst := (u_facts hfc hkC (u_lays (ws := u_ws C T N) (fun w hw => hK.ts args (hin w hw)) (fun _ hw => hw) hk) hi).1
  unfold u_lay at hlay
  rw [if_neg (by rw [hfin]; decide)] at hlay
  have h6 := u_store hfc hkC hkind hlay hi (hty kf hk) hn hfit
  refine W.putK hx hb (f := f) ⟨hown, hK.ts args hlk, ⟨_, _, _, hi⟩, hst⟩ (by rw [q2]; exact h6) q1 q3 (by rw [hsl]; exact k2_hasslot (q4 kf hk)) rfl rfl hd fun H' e1 e2 e3 => ?_
  rw [hsl] at e1 ⊢
  exact kk H' _ (hW.set e2 e3 ⟨_, hcl, t_OB.to (V := updV (vp_V fs) kf v) ⟨_, e1, q2, q3, t_set q4 hap hk v⟩ (fun j _ => vp_updV_set hl v j)⟩ hB) (hS.put e2 e3 hB)
theorem zPutF {k n : Nat} {Q : State → Prop} {h : zH} {p : Program} {l : Launch} {e : Env} {s : State} {m : MethodId} {args : Array Value} {below : List Frame} {meth : Method} {c : Code} {D : va_G} {Z : Nat → ClassId} {B0 : Nat} (X : zCx M (p, l, e, s, m, args, below, meth, c, D, Z, B0)) {H : Heap} {locs : List Loc} {ls : Array Slot} (hW : zW D Z B0 s h H) (hS : va_S (fun q => B0 ≤ q) s.heap H locs) {ci kf N idx a : Nat} {C : String} {T : u_T} {ty : Nat → FieldType} {fs rest : List Value} {v : Value} (ha : h.2 a = some (xO ci fs)) (hl : kf < fs.length) (hc : zCl ci C T N ty) (hlk : zHas (Cond.fieldLink M.2.1 idx (T kf).1 (T kf).2.1 (T kf).2.2.1)) (hk : kf < N) (hfin : (T kf).2.2.2 = true) (hdecl : (T kf).1 = M.2.1) (hinit : M.2.2.2.2.2 = true) (hn : narrow (ty kf) v = v) (hfit : fits (ty kf) v = true) (hd : decode M.1 pc = .ok (.putfield idx, 3))
    (kk : ∀ (H1 : Heap) (locs1 : List Loc), zW D Z B0 s (h.1, va_up h.2 a (some (xO ci (fs.set kf v)))) H1 → va_S (fun q => B0 ≤ q) s.heap H1 locs1 → W p l e M.2.2.2.2.1 s m args below meth c H1 locs1 k n Q (F0 m (pc + 3) ls rest)) : W p l e M.2.2.2.2.1 s m args below meth c H locs k n Q (F0 m pc ls (v :: .ref a :: rest)) := by
  obtain ⟨hx, hb, -, hown, hK, -, -, hin2, -⟩ := X
  obtain ⟨hcl, hin, hty, hnm⟩ := hc
  have hap := va_apart (own := M.2.1) (Ts := u_ws C T N) (fun w hw => hK.ts args (hin w hw)) (fun _ hw => hw) ty hty hnm hK.1 hcl
  have hB := (hW.2 a _ ha).2 trivial
  obtain ⟨r, h1, cell, q1, q2, q3, q4⟩ := (hW.2 a _ ha).1
  have hr : r = (C, T, N) := Option.some.inj (h1.symm.trans hcl)
  subst hr
  obtain ⟨hSl, hfc, kC, hkC, hkind⟩ := hK.1.1 ci _ hcl
  obtain ⟨cf, kfC, fi, f, hi, hsl⟩ := hSl kf hk
  have hlay := hK.ts args (hin _ (u_in_lay hk))
  have hst := (u_facts hfc hkC (u_lays (ws := u_ws C T N) (fun w hw => hK.ts args (hin w hw)) (fun _ hw => hw) hk) hi).1
  unfold u_lay at hlay
  rw [if_pos hfin] at hlay
  have hcf : m.cls = cf := by
    obtain ⟨_, _, c', _, _, _, -, -, hf', -, -, -, hown2, -⟩ := Cond.laysFinal_spec hlay
    have e1 : c' = cf := by have := hi.symm.trans hf'; simp at this; exact this.1.symm
    rw [hdecl] at hown2
    rw [← e1]; exact Option.some.inj (hown.symm.trans hown2)
  have h6 := u_fits hfc hkC hkind (Or.inr hlay) hi (hty kf hk) hn hfit
  refine W.putFinK hx hb hown (hK.ts args hlk) hi hst hcf (hin2 hinit) (by rw [q2]; exact h6) q1 q3 (by rw [hsl]; exact k2_hasslot (q4 kf hk)) rfl rfl hd fun H' e1 e2 e3 => ?_
  rw [hsl] at e1 ⊢
  exact kk H' _ (hW.set e2 e3 ⟨_, hcl, t_OB.to (V := updV (vp_V fs) kf v) ⟨_, e1, q2, q3, t_set q4 hap hk v⟩ (fun j _ => vp_updV_set hl v j)⟩ hB) (hS.put e2 e3 hB)
/-- a store into an array of numbers -/
theorem zPutA {k n : Nat} {Q : State → Prop} {h : zH} {p : Program} {l : Launch} {e : Env} {s : State} {m : MethodId} {args : Array Value} {below : List Frame} {meth : Method} {c : Code} {D : va_G} {Z : Nat → ClassId} {B0 : Nat} (X : zCx M (p, l, e, s, m, args, below, meth, c, D, Z, B0)) {H : Heap} {locs : List Loc} {ls : Array Slot} (hW : zW D Z B0 s h H) (hS : va_S (fun q => B0 ≤ q) s.heap H locs) {a N : Nat} {f : Nat → Int32} {i v : Int32} {rest : List Value} (ha : h.2 a = some (xI N f)) (hi : vp_in i N) (hd : decode M.1 pc = .ok (.iastore, 1))
    (kk : ∀ (H1 : Heap) (locs1 : List Loc), zW D Z B0 s (h.1, va_up h.2 a (some (xI N (upd f i.toNatClampNeg v)))) H1 → va_S (fun q => B0 ≤ q) s.heap H1 locs1 → W p l e M.2.2.2.2.1 s m args below meth c H1 locs1 k n Q (F0 m (pc + 1) ls rest)) : W p l e M.2.2.2.2.1 s m args below meth c H locs k n Q (F0 m pc ls (.int v :: .int i :: .ref a :: rest)) := by
  obtain ⟨hx, hb, -, hown, hK, -, -, -, -⟩ := X
  have hB := (hW.2 a _ ha).2 trivial
  have hq : H[a]? = some (vp_cell (Z 100) (N, .inl f)) := (hW.2 a _ ha).1
  refine W.iast hx hb hq ((hK.1.2 0 _ rfl).1 N (fun j => .int (f j))) (fun q => by cases q) (by show ¬ (i < 0 ∨ (arrV _ _ _).slots.size ≤ _); rw [arrV_size]; exact hi) rfl rfl hd fun H1 e1 z oq => ?_
  refine kk H1 _ (hW.set z oq ?_ hB) (hS.put z oq hB)
  show H1[a]? = some (vp_cell _ _)
  rw [e1]
  rw [vp_cell_i, vp_cell_i, arrV_store]
  congr 2
  funext q
  by_cases hq : q = i.toNatClampNeg
  · subst hq
    simp [updV, upd]
  · simp [updV, upd, hq]
theorem zPutQ {k n : Nat} {Q : State → Prop} {h : zH} {p : Program} {l : Launch} {e : Env} {s : State} {m : MethodId} {args : Array Value} {below : List Frame} {meth : Method} {c : Code} {D : va_G} {Z : Nat → ClassId} {B0 : Nat} (X : zCx M (p, l, e, s, m, args, below, meth, c, D, Z, B0)) {H : Heap} {locs : List Loc} {ls : Array Slot} (hW : zW D Z B0 s h H) (hS : va_S (fun q => B0 ≤ q) s.heap H locs) {a b N ci : Nat} {f : Nat → Option Nat} {fs : List Value} {i : Int32} {rest : List Value} {C : String} {T : u_T} {NC : Nat} {ty : Nat → FieldType} (ha : h.2 a = some (xR ci N f)) (hbb : h.2 b = some (xO ci fs)) (hi : vp_in i N) (hC : (ci = 3 ∧ C = RX3) ∨ (ci = 4 ∧ C = RX4) ∨ (ci = 5 ∧ C = RX5)) (hc : zCl ci C T NC ty) (hd : decode M.1 pc = .ok (.aastore, 1))
    (kk : ∀ (H1 : Heap) (locs1 : List Loc), zW D Z B0 s (h.1, va_up h.2 a (some (xR ci N (va_up f i.toNatClampNeg (some b))))) H1 → va_S (fun q => B0 ≤ q) s.heap H1 locs1 → W p l e M.2.2.2.2.1 s m args below meth c H1 locs1 k n Q (F0 m (pc + 1) ls rest)) : W p l e M.2.2.2.2.1 s m args below meth c H locs k n Q (F0 m pc ls (.ref b :: .int i :: .ref a :: rest)) := by
  obtain ⟨hx, hb, -, hown, hK, -, -, -, -⟩ := X
  have hB := (hW.2 a _ ha).2 trivial
  have hq : H[a]? = some (vp_cell (Z ci) (N, .inr (.inr (.inr (.inr f))))) := (hW.2 a _ ha).1
  obtain ⟨t0, ht0⟩ := zTys_at (Z := Z) hC
  have hlt : i.toNatClampNeg < N := Nat.not_le.mp fun q => hi (Or.inr q)
  have h0 : ¬ i < 0 := fun q => hi (Or.inl q)
  obtain ⟨r', hr', cellV, g1, g2, g3, -⟩ := (hW.2 b _ hbb).1
  have hcls := (hK.1.1 ci _ hc.1).2
  obtain ⟨kA, comp, k1, k2, k3, -⟩ := (hK.1.2 t0 _ ht0).2
  have hcomp : comp = D.1 ci := Option.some.inj (k3.symm.trans hcls.1)
  subst hcomp
  obtain ⟨kC, hkC, -⟩ := hcls.2
  refine W.aast hx hb hq (fun q h => by cases h) (fun h => by cases h) k1 k2 rfl hkC ⟨h0, by show _ < (arrV _ _ _).slots.size; rw [arrV_size]; exact hlt⟩ g1 (fun q h => by rw [g3] at h; cases h) (by rw [g2]; exact hkC) (by rw [g2]; exact va_assign hcls) rfl rfl hd fun H1 e1 z oq => ?_
  refine kk H1 _ (hW.set z oq ?_ hB) (hS.put z oq hB)
  show H1[a]? = some (vp_cell _ _)
  rw [e1]
  rw [vp_cell_q, vp_cell_q, arrV_store]
  congr 2
  funext q
  by_cases hq : q = i.toNatClampNeg
  · subst hq
    simp [updV, va_up, va_rf]
  · simp [updV, va_up, hq]
/-! statements -/
def sLi (j : Nat) (f : zEI) : zSS := fun en h => (f en h).bind fun a => (zSt en j (.int a.1)).map fun en' => .inl (en', a.2)
def sLr (j : Nat) (f : zER) : zSS := fun en h => (f en h).bind fun a => (zSt en j (.ref a.1)).map fun en' => .inl (en', a.2)
theorem kSi_n {f : zEI} {kk : Fin 4} {j : Nat} (hf : eiOk M 0 pc p1 f) (hd : decode M.1 p1 = .ok (.istore_n kk, 1)) (hj : (kk : Nat) = j) (hn : j < M.2.2.1) : ssOk M pc (p1 + 1) (sLi j f) := by
  intro x X k n Q h en r hv g
  simp only [sLi, Option.bind_eq_some_iff, Option.map_eq_some_iff] at hv
  obtain ⟨⟨a, h1⟩, e1, en', e2, e3⟩ := hv
  subst e3
  refine hf x X k n Q h en [] a h1 e1 (Nat.zero_le _) ?_
  obtain ⟨p, l, e, s, m, args, below, meth, c, D, Z, B0⟩ := x
  intro hkn H locs ls hW hS hl
  exact lv_istore_n X.1 X.2.1 hd hj hl.has hn rfl (fun ls' hl' => g hkn H locs ls' hW hS (hl.stored e2 rfl hl'))
theorem kSi {f : zEI} {j : Nat} (hf : eiOk M 0 pc p1 f) (hd : decode M.1 p1 = .ok (.istore j, 2)) (hn : j < M.2.2.1) : ssOk M pc (p1 + 2) (sLi j f) := by
  intro x X k n Q h en r hv g
  simp only [sLi, Option.bind_eq_some_iff, Option.map_eq_some_iff] at hv
  obtain ⟨⟨a, h1⟩, e1, en', e2, e3⟩ := hv
  subst e3
  refine hf x X k n Q h en [] a h1 e1 (Nat.zero_le _) ?_
  obtain ⟨p, l, e, s, m, args, below, meth, c, D, Z, B0⟩ := x
  intro hkn H locs ls hW hS hl
  exact lv_istore X.1 X.2.1 hd hl.has hn rfl (fun ls' hl' => g hkn H locs ls' hW hS (hl.stored e2 rfl hl'))
theorem kSr_n {f : zER} {kk : Fin 4} {j : Nat} (hf : erOk M 0 pc p1 f) (hd : decode M.1 p1 = .ok (.astore_n kk, 1)) (hj : (kk : Nat) = j) (hn : j < M.2.2.1) : ssOk M pc (p1 + 1) (sLr j f) := by
  intro x X k n Q h en r hv g
  simp only [sLr, Option.bind_eq_some_iff, Option.map_eq_some_iff] at hv
  obtain ⟨⟨a, h1⟩, e1, en', e2, e3⟩ := hv
  subst e3
  refine hf x X k n Q h en [] a h1 e1 (Nat.zero_le _) ?_
  obtain ⟨p, l, e, s, m, args, below, meth, c, D, Z, B0⟩ := x
  intro hkn H locs ls hW hS hl
  exact lv_astore_n X.1 X.2.1 hd hj hl.has hn rfl (fun ls' hl' => g hkn H locs ls' hW hS (hl.stored e2 rfl hl'))
theorem kSr {f : zER} {j : Nat} (hf : erOk M 0 pc p1 f) (hd : decode M.1 p1 = .ok (.astore j, 2)) (hn : j < M.2.2.1) : ssOk M pc (p1 + 2) (sLr j f) := by
  intro x X k n Q h en r hv g
  simp only [sLr, Option.bind_eq_some_iff, Option.map_eq_some_iff] at hv
  obtain ⟨⟨a, h1⟩, e1, en', e2, e3⟩ := hv
  subst e3
  refine hf x X k n Q h en [] a h1 e1 (Nat.zero_le _) ?_
  obtain ⟨p, l, e, s, m, args, below, meth, c, D, Z, B0⟩ := x
  intro hkn H locs ls hW hS hl
  exact lv_astore X.1 X.2.1 hd hl.has hn rfl (fun ls' hl' => g hkn H locs ls' hW hS (hl.stored e2 rfl hl'))
def sInc (j : Nat) (v : Int32) : zSS := fun en h => (eL j en h).bind fun a => (zSt en j (.int (a.1 + v))).map fun en' => .inl (en', h)
theorem kInc {j : Nat} {i : Int} {v : Int32} (hd : decode M.1 pc = .ok (.iinc j i, 3)) (hv0 : Int32.ofInt i = v) (hn : j < M.2.2.1) : ssOk M pc (pc + 3) (sInc j v) := by
  intro x X k n Q h en r hv g
  simp only [sInc, Option.bind_eq_some_iff, Option.map_eq_some_iff] at hv
  obtain ⟨⟨a, h1⟩, e1, en', e2, e3⟩ := hv
  subst e3
  obtain ⟨e4, rfl⟩ := eL_spec e1
  obtain ⟨p, l, e, s, m, args, below, meth, c, D, Z, B0⟩ := x
  intro hkn H locs ls hW hS hl
  obtain ⟨q, hq⟩ := List.getElem?_of_mem (zLv_mem e4 (fun z => by cases z))
  exact lv_iinc X.1 X.2.1 hd hl.has hq (by rw [hv0]) hn rfl (fun ls' hl' => g hkn H locs ls' hW hS (hl.stored e2 rfl hl'))
def sF (ci k : Nat) (o : zER) (f : zEI) : zSS := fun en h => (o en h).bind fun a => (f en a.2).bind fun b => (wrO b.2 ci k a.1 (.int b.1)).map fun h' => .inl (en, h')
theorem kPF {ci kf N idx : Nat} {C : String} {T : u_T} {ty : Nat → FieldType} {o : zER} {f : zEI} (ho : erOk M 0 pc p1 o) (hf : eiOk M 1 p1 p2 f) (hd : decode M.1 p2 = .ok (.putfield idx, 3)) (hc : zCl ci C T N ty) (hlk : zHas (Cond.fieldLink M.2.1 idx (T kf).1 (T kf).2.1 (T kf).2.2.1)) (hk : kf < N) (hfin : (T kf).2.2.2 = false) (hty : ty kf = .int) : ssOk M pc (p2 + 3) (sF ci kf o f) := by
  intro x X k n Q h en r hv g
  simp only [sF, Option.bind_eq_some_iff, Option.map_eq_some_iff] at hv
  obtain ⟨⟨a, h1⟩, e1, ⟨b, h2⟩, e2, h3, e3, e4⟩ := hv
  subst e4
  obtain ⟨fs, w1, w2, rfl⟩ := wrO_spec e3
  refine ho x X k n Q h en [] a h1 e1 (Nat.zero_le _) (hf x X k n Q h1 en _ b h2 e2 (zcat_ref (d := 0) (Nat.le_refl _)) ?_)
  obtain ⟨p, l, e, s, m, args, below, meth, c, D, Z, B0⟩ := x
  intro hkn H locs ls hW hS hl
  exact zPut X hW hS w1 w2 hc hlk hk hfin (by rw [hty]; rfl) (by rw [hty]; rfl) hd (fun H1 locs1 hW1 hS1 => g hkn H1 locs1 ls hW1 hS1 hl)
/-- into a field of the kind boolean: 0 or 1 alone -/
def sFz (ci k : Nat) (o : zER) (f : zEI) : zSS := fun en h => (o en h).bind fun a => (f en a.2).bind fun b => if b.1 = 0 ∨ b.1 = 1 then (wrO b.2 ci k a.1 (.int b.1)).map fun h' => .inl (en, h') else none
theorem kPFz {ci kf N idx : Nat} {C : String} {T : u_T} {ty : Nat → FieldType} {o : zER} {f : zEI} (ho : erOk M 0 pc p1 o) (hf : eiOk M 1 p1 p2 f) (hd : decode M.1 p2 = .ok (.putfield idx, 3)) (hc : zCl ci C T N ty) (hlk : zHas (Cond.fieldLink M.2.1 idx (T kf).1 (T kf).2.1 (T kf).2.2.1)) (hk : kf < N) (hfin : (T kf).2.2.2 = false) (hty : ty kf = .boolean) : ssOk M pc (p2 + 3) (sFz ci kf o f) := by
  intro x X k n Q h en r hv g
  simp only [sFz, Option.bind_eq_some_iff] at hv
  obtain ⟨⟨a, h1⟩, e1, ⟨b, h2⟩, e2, e5⟩ := hv
  split at e5
  case isFalse => cases e5
  case isTrue hb01 =>
  simp only [Option.map_eq_some_iff] at e5
  obtain ⟨h3, e3, e4⟩ := e5
  subst e4
  obtain ⟨fs, w1, w2, rfl⟩ := wrO_spec e3
  refine ho x X k n Q h en [] a h1 e1 (Nat.zero_le _) (hf x X k n Q h1 en _ b h2 e2 (zcat_ref (d := 0) (Nat.le_refl _)) ?_)
  obtain ⟨p, l, e, s, m, args, below, meth, c, D, Z, B0⟩ := x
  intro hkn H locs ls hW hS hl
  have hb01' : b = 0 ∨ b = 1 := hb01
  exact zPut X hW hS w1 w2 hc hlk hk hfin (by rw [hty]; rcases hb01' with z | z <;> (rw [z]; rfl)) (by rw [hty]; rcases hb01' with z | z <;> (rw [z]; rfl)) hd (fun H1 locs1 hW1 hS1 => g hkn H1 locs1 ls hW1 hS1 hl)
/-- x.f = x.f (op) e, by dup -/
def sFa (op : Int32 → Int32 → Int32) (ci k : Nat) (o : zER) (f : zEI) : zSS := fun en h => (o en h).bind fun a => (rdI a.2 ci k a.1).bind fun w => (f en a.2).bind fun b => (wrO b.2 ci k a.1 (.int (op w b.1))).map fun h' => .inl (en, h')
theorem kPFaddsub {ci kf N idx idx2 : Nat} {C : String} {T : u_T} {ty : Nat → FieldType} {o : zER} {f : zEI} {op : Int32 → Int32 → Int32} {ins : Instr} (hins : (ins = .iadd ∧ op = (· + ·)) ∨ (ins = .isub ∧ op = (· - ·))) (ho : erOk M 0 pc p1 o) (hdup : decode M.1 p1 = .ok (.dup, 1)) (hget : decode M.1 (p1 + 1) = .ok (.getfield idx, 3)) (hf : eiOk M 2 (p1 + 4) p2 f) (hop : decode M.1 p2 = .ok (ins, 1)) (hd : decode M.1 (p2 + 1) = .ok (.putfield idx2, 3)) (hc : zCl ci C T N ty) (hl : zHas (Cond.fieldLink M.2.1 idx (T kf).1 (T kf).2.1 (T kf).2.2.1)) (hlk : zHas (Cond.fieldLink M.2.1 idx2 (T kf).1 (T kf).2.1 (T kf).2.2.1)) (hk : kf < N) (hfin : (T kf).2.2.2 = false) (hty : ty kf = .int) : ssOk M pc (p2 + 4) (sFa op ci kf o f) := by
  intro x X k n Q h en r hv g
  simp only [sFa, Option.bind_eq_some_iff, Option.map_eq_some_iff] at hv
  obtain ⟨⟨a, h1⟩, e1, w, e5, ⟨b, h2⟩, e2, h3, e3, e4⟩ := hv
  subst e4
  obtain ⟨fs0, g1, g2⟩ := rdI_spec e5
  obtain ⟨fs, w1, w2, rfl⟩ := wrO_spec e3
  have body := hf x X k n Q h1 en [.int w, .ref a] b h2 e2 (zcat_int (zcat_ref (d := 0) (Nat.le_refl _)))
  refine ho x X k n Q h en [] a h1 e1 (Nat.zero_le _) ?_
  obtain ⟨p, l, e, s, m, args, below, meth, c, D, Z, B0⟩ := x
  intro hkn H locs ls hW hS hl'
  refine lv_dup X.1 X.2.1 hdup rfl ?_
  refine va_get (D := D) (ci := ci) (ws := [(a, .inr (ci, fs0))]) (C := C) (T := T) (N := N) X.1 X.2.1 (fun w hw => X.2.2.2.2.1.ts args (hc.2.1 w hw)) (fun _ hw => hw) X.2.2.2.1 X.2.2.2.2.1.1 (va_P1 (hW.2 a _ g1).1) 0 rfl hc.1 kf hk (X.2.2.2.2.1.ts args hl) (fun _ z => z) g2 hget ?_
  refine body ?_ hkn H locs ls hW hS hl'
  intro hkn H locs ls hW hS hl'
  rcases hins with ⟨rfl, rfl⟩ | ⟨rfl, rfl⟩
  · exact lv_iadd X.1 X.2.1 hop (zPut X hW hS w1 w2 hc hlk hk hfin (by rw [hty]; rfl) (by rw [hty]; rfl) hd (fun H1 locs1 hW1 hS1 => g hkn H1 locs1 ls hW1 hS1 hl'))
  · exact lv_isub X.1 X.2.1 hop (zPut X hW hS w1 w2 hc hlk hk hfin (by rw [hty]; rfl) (by rw [hty]; rfl) hd (fun H1 locs1 hW1 hS1 => g hkn H1 locs1 ls hW1 hS1 hl'))
def sA (o : zER) (i f : zEI) : zSS := fun en h => (o en h).bind fun a => (i en a.2).bind fun b => (f en b.2).bind fun q => (wrA q.2 a.1 b.1 q.1).map fun h' => .inl (en, h')
theorem kPA {o : zER} {i f : zEI} (ho : erOk M 0 pc p0 o) (hi : eiOk M 1 p0 p1 i) (hf : eiOk M 2 p1 p2 f) (hd : decode M.1 p2 = .ok (.iastore, 1)) : ssOk M pc (p2 + 1) (sA o i f) := by
  intro x X k n Q h en r hv g
  simp only [sA, Option.bind_eq_some_iff, Option.map_eq_some_iff] at hv
  obtain ⟨⟨a, h1⟩, e1, ⟨b, h2⟩, e2, ⟨q, h3⟩, e3, h4, e4, e5⟩ := hv
  subst e5
  obtain ⟨N, F, w1, w2, rfl⟩ := wrA_spec e4
  refine ho x X k n Q h en [] a h1 e1 (Nat.zero_le _) (hi x X k n Q h1 en _ b h2 e2 (zcat_ref (d := 0) (Nat.le_refl _)) (hf x X k n Q h2 en _ q h3 e3 (zcat_int (zcat_ref (d := 0) (Nat.le_refl _))) ?_))
  obtain ⟨p, l, e, s, m, args, below, meth, c, D, Z, B0⟩ := x
  intro hkn H locs ls hW hS hl
  exact zPutA X hW hS w1 w2 hd (fun H1 locs1 hW1 hS1 => g hkn H1 locs1 ls hW1 hS1 hl)
/-- a[i] = a[i] (op) e, by dup2 -/
def sAa (op : Int32 → Int32 → Int32) (o : zER) (i f : zEI) : zSS := fun en h => (o en h).bind fun a => (i en a.2).bind fun b => (rdA b.2 a.1 b.1).bind fun w => (f en b.2).bind fun q => (wrA q.2 a.1 b.1 (op w q.1)).map fun h' => .inl (en, h')
theorem kPAaddsub {o : zER} {i f : zEI} {op : Int32 → Int32 → Int32} {ins : Instr} (hins : (ins = .iadd ∧ op = (· + ·)) ∨ (ins = .isub ∧ op = (· - ·))) (ho : erOk M 0 pc p0 o) (hi : eiOk M 1 p0 p1 i) (hdup : decode M.1 p1 = .ok (.dup2, 1)) (hld : decode M.1 (p1 + 1) = .ok (.iaload, 1)) (hf : eiOk M 3 (p1 + 2) p2 f) (hop : decode M.1 p2 = .ok (ins, 1)) (hd : decode M.1 (p2 + 1) = .ok (.iastore, 1)) : ssOk M pc (p2 + 2) (sAa op o i f) := by
  intro x X k n Q h en r hv g
  simp only [sAa, Option.bind_eq_some_iff, Option.map_eq_some_iff] at hv
  obtain ⟨⟨a, h1⟩, e1, ⟨b, h2⟩, e2, w, e6, ⟨q, h3⟩, e3, h4, e4, e5⟩ := hv
  subst e5
  obtain ⟨N0, F0', g1, g2, g3⟩ := rdA_spec e6
  subst g3
  obtain ⟨N, F, w1, w2, rfl⟩ := wrA_spec e4
  have body := hf x X k n Q h2 en [.int (F0' b.toNatClampNeg), .int b, .ref a] q h3 e3 (zcat_int (zcat_int (zcat_ref (d := 0) (Nat.le_refl _))))
  refine ho x X k n Q h en [] a h1 e1 (Nat.zero_le _) (hi x X k n Q h1 en _ b h2 e2 (zcat_ref (d := 0) (Nat.le_refl _)) ?_)
  obtain ⟨p, l, e, s, m, args, below, meth, c, D, Z, B0⟩ := x
  intro hkn H locs ls hW hS hl
  refine lv_dup2_11 X.1 X.2.1 hdup rfl rfl ?_
  refine va_iald (D := D) (cl := vwCl) (tys := zTys Z) (ws := [(a, .inl (Z 100, N0, .inl F0'))]) X.1 X.2.1 X.2.2.2.2.1.1 (va_P1 (hW.2 a _ g1).1) 0 0 rfl rfl g2 hld ?_
  refine body ?_ hkn H locs ls hW hS hl
  intro hkn H locs ls hW hS hl
  rcases hins with ⟨rfl, rfl⟩ | ⟨rfl, rfl⟩
  · exact lv_iadd X.1 X.2.1 hop (zPutA X hW hS w1 w2 hd (fun H1 locs1 hW1 hS1 => g hkn H1 locs1 ls hW1 hS1 hl))
  · exact lv_isub X.1 X.2.1 hop (zPutA X hW hS w1 w2 hd (fun H1 locs1 hW1 hS1 => g hkn H1 locs1 ls hW1 hS1 hl))
def sQ (ci : Nat) (o : zER) (i : zEI) (f : zER) : zSS := fun en h => (o en h).bind fun a => (i en a.2).bind fun b => (f en b.2).bind fun q => (wrQ q.2 ci a.1 b.1 q.1).map fun h' => .inl (en, h')
theorem kPQ {ci N : Nat} {C : String} {T : u_T} {ty : Nat → FieldType} {o f : zER} {i : zEI} (ho : erOk M 0 pc p0 o) (hi : eiOk M 1 p0 p1 i) (hf : erOk M 2 p1 p2 f) (hd : decode M.1 p2 = .ok (.aastore, 1)) (hC : (ci = 3 ∧ C = RX3) ∨ (ci = 4 ∧ C = RX4) ∨ (ci = 5 ∧ C = RX5)) (hc : zCl ci C T N ty) : ssOk M pc (p2 + 1) (sQ ci o i f) := by
  intro x X k n Q h en r hv g
  simp only [sQ, Option.bind_eq_some_iff, Option.map_eq_some_iff] at hv
  obtain ⟨⟨a, h1⟩, e1, ⟨b, h2⟩, e2, ⟨q, h3⟩, e3, h4, e4, e5⟩ := hv
  subst e5
  obtain ⟨NN, F, fs, w1, w2, w3, rfl⟩ := wrQ_spec e4
  refine ho x X k n Q h en [] a h1 e1 (Nat.zero_le _) (hi x X k n Q h1 en _ b h2 e2 (zcat_ref (d := 0) (Nat.le_refl _)) (hf x X k n Q h2 en _ q h3 e3 (zcat_int (zcat_ref (d := 0) (Nat.le_refl _))) ?_))
  obtain ⟨p, l, e, s, m, args, below, meth, c, D, Z, B0⟩ := x
  intro hkn H locs ls hW hS hl
  exact zPutQ X hW hS w1 w3 w2 hC hc hd (fun H1 locs1 hW1 hS1 => g hkn H1 locs1 ls hW1 hS1 hl)
/-! control -/
theorem zCont.inr {x : zC} {k n : Nat} {Q : State → Prop} {a b : Nat} {z : Option Int32 × zH} (h : zCont M x k n Q a (.inr z)) : zCont M x k n Q b (.inr z) := by
  obtain ⟨o, h'⟩ := z
  cases o <;> exact h
def sNop : zSS := fun en h => some (.inl (en, h))
theorem kNop : ssOk M pc pc sNop := by
  intro x X k n Q h en r hv g
  cases hv
  exact g
def sSeq (f g : zSS) : zSS := fun en h => (f en h).bind fun r => match r with
  | .inl q => g q.1 q.2
  | .inr q => some (.inr q)
theorem kSeq {f g : zSS} (hf : ssOk M pc p1 f) (hg : ssOk M p1 p2 g) : ssOk M pc p2 (sSeq f g) := by
  intro x X k n Q h en r hv c
  simp only [sSeq, Option.bind_eq_some_iff] at hv
  obtain ⟨r1, e1, e2⟩ := hv
  refine hf x X k n Q h en r1 e1 ?_
  cases r1 with
  | inl q => exact hg x X k n Q q.2 q.1 r e2 c
  | inr q => cases e2; exact c.inr
theorem kGo {f : zSS} {off : Int} (hf : ssOk M pc p1 f) (hd : decode M.1 p1 = .ok (.goto off, 3)) (ht : (p1 : Int) + off = (p2 : Int)) : ssOk M pc p2 f := by
  intro x X k n Q h en r hv c
  refine hf x X k n Q h en r hv ?_
  cases r with
  | inr q => exact c.inr
  | inl q =>
    obtain ⟨p, l, e, s, m, args, below, meth, cc, D, Z, B0⟩ := x
    intro hkn H locs ls hW hS hl
    exact lv_goto X.1 X.2.1 hd ht (c hkn H locs ls hW hS hl)
/-- what was declared within is forgotten -/
def zCut (en : List Value) (r : zSR) : zSR := match r with
  | .inl q => .inl (q.1.take en.length, q.2)
  | .inr q => .inr q
theorem zCont.cut {x : zC} {k n : Nat} {Q : State → Prop} {pc' : Nat} {en : List Value} {r : zSR} (h : zCont M x k n Q pc' (zCut en r)) : zCont M x k n Q pc' r := by
  cases r with
  | inl q => exact zG.take _ h
  | inr q => exact h
def sBlk (f : zSS) : zSS := fun en h => (f en h).map (zCut en)
theorem kBlk {f : zSS} (hf : ssOk M pc p1 f) : ssOk M pc p1 (sBlk f) := by
  intro x X k n Q h en r hv c
  simp only [sBlk, Option.map_eq_some_iff] at hv
  obtain ⟨r1, e1, e2⟩ := hv
  subst e2
  exact hf x X k n Q h en r1 e1 c.cut
def sIf (c : zEB) (f g : zSS) : zSS := fun en h => (c en h).bind fun a => ((if a.1 = true then f else g) en a.2).map (zCut en)
theorem kIf {c : zEB} {f g : zSS} (hc : ebOk M 0 pc pT pF c) (hf : ssOk M pT pE f) (hg : ssOk M pF pE g) : ssOk M pc pE (sIf c f g) := by
  intro x X k n Q h en r hv q
  simp only [sIf, Option.bind_eq_some_iff, Option.map_eq_some_iff] at hv
  obtain ⟨⟨a, h1⟩, e1, r1, e2, e3⟩ := hv
  subst e3
  refine hc x X k n Q h en [] a h1 e1 (Nat.zero_le _) ?_
  cases a with
  | true => exact hf x X k n Q h1 en r1 (by simpa using e2) q.cut
  | false => exact hg x X k n Q h1 en r1 (by simpa using e2) q.cut
def sW : Nat → zEB → zSS → zSS
  | 0, _, _ => fun _ _ => none
  | N + 1, c, f => fun en h => (c en h).bind fun a => if a.1 = true then (f en a.2).bind fun r => match r with
      | .inl q => sW N c f (q.1.take en.length) q.2
      | .inr q => some (.inr q)
    else some (.inl (en, a.2))
theorem kW {c : zEB} {f : zSS} (hc : ebOk M 0 pc pT pE c) (hf : ssOk M pT pc f) : ∀ N : Nat, ssOk M pc pE (sW N c f)
  | 0 => fun x X k n Q h en r hv q => by simp [sW] at hv
  | N + 1 => fun x X k n Q h en r hv q => by
    simp only [sW, Option.bind_eq_some_iff] at hv
    obtain ⟨⟨a, h1⟩, e1, e2⟩ := hv
    refine hc x X k n Q h en [] a h1 e1 (Nat.zero_le _) ?_
    cases a with
    | false =>
      simp at e2
      subst e2
      exact q
    | true =>
      simp only [if_true, Option.bind_eq_some_iff] at e2
      obtain ⟨r1, e3, e4⟩ := e2
      refine hf x X k n Q h1 en r1 e3 ?_
      cases r1 with
      | inl z => exact zG.take en.length (kW hc hf N x X k n Q z.2 _ r e4 q)
      | inr z => cases e4; exact q.inr
def sRi (f : zEI) : zSS := fun en h => (f en h).map fun a => .inr (some a.1, a.2)
def sRv : zSS := fun _ h => some (.inr (none, h))
theorem kRi {f : zEI} (hf : eiOk M 0 pc p1 f) (hd : decode M.1 p1 = .ok (.ireturn, 1)) : ssOk M pc pE (sRi f) := by
  intro x X k n Q h en r hv q
  simp only [sRi, Option.map_eq_some_iff] at hv
  obtain ⟨⟨a, h1⟩, e1, e2⟩ := hv
  subst e2
  exact hf x X k n Q h en [] a h1 e1 (Nat.zero_le _) (q p1 hd).nil
theorem kRv (hd : decode M.1 pc = .ok (.return_, 1)) : ssOk M pc pE sRv := by
  intro x X k n Q h en r hv q
  cases hv
  exact (q pc hd).nil
def sPop (f : zEI) : zSS := fun en h => (f en h).map fun a => .inl (en, a.2)
theorem kPop {f : zEI} (hf : eiOk M 0 pc p1 f) (hd : decode M.1 p1 = .ok (.pop, 1)) : ssOk M pc (p1 + 1) (sPop f) := by
  intro x X k n Q h en r hv q
  simp only [sPop, Option.map_eq_some_iff] at hv
  obtain ⟨⟨a, h1⟩, e1, e2⟩ := hv
  subst e2
  refine hf x X k n Q h en [] a h1 e1 (Nat.zero_le _) ?_
  obtain ⟨p, l, e, s, m, args, below, meth, c, D, Z, B0⟩ := x
  intro hkn H locs ls hW hS hl
  exact lv_pop X.1 X.2.1 hd rfl (q hkn H locs ls hW hS hl)
/-! switches -/
def sSw (lo hi : Int) (f : zEI) (bs : List zSS) (df : zSS) : zSS := fun en h => (f en h).bind fun a => ((if a.1.toInt < lo ∨ hi < a.1.toInt then df else bs.getD (a.1.toInt - lo).toNat df) en a.2).map (zCut en)
def swOk (M : zM) (p1 pE : Nat) : List Int → List zSS → Prop
  | [], [] => True
  | o :: os, b :: bs => (∃ tgt : Nat, (p1 : Int) + o = (tgt : Int) ∧ ssOk M tgt pE b) ∧ swOk M p1 pE os bs
  | _, _ => False
theorem swOk_get : ∀ (os : List Int) (bs : List zSS), swOk M p1 pE os bs → ∀ (i : Nat), i < os.length → ∀ df, ∃ (off : Int) (tgt : Nat), os[i]? = some off ∧ (p1 : Int) + off = (tgt : Int) ∧ ssOk M tgt pE (bs.getD i df)
  | [], [], _, i, hi, _ => by simp at hi
  | o :: os, b :: bs, h, 0, _, _ => by
    obtain ⟨⟨tgt, h1, h2⟩, -⟩ := h
    exact ⟨o, tgt, rfl, h1, h2⟩
  | o :: os, b :: bs, h, i + 1, hi, df => by
    obtain ⟨off, tgt, h1, h2, h3⟩ := swOk_get os bs h.2 i (by simpa using hi) df
    exact ⟨off, tgt, by simpa using h1, h2, by simpa using h3⟩
  | [], _ :: _, h, _, _, _ => h.elim
  | _ :: _, [], h, _, _, _ => h.elim
theorem kSw {f : zEI} {bs : List zSS} {df : zSS} {lo hi dflt : Int} {offs : Array Int} {len pD : Nat} (hf : eiOk M 0 pc p1 f) (hd : decode M.1 p1 = .ok (.tableswitch dflt lo hi offs, len)) (hD : (p1 : Int) + dflt = (pD : Int)) (hdf : ssOk M pD pE df) (hbs : swOk M p1 pE offs.toList bs) (hlen : (offs.size : Int) = hi - lo + 1) : ssOk M pc pE (sSw lo hi f bs df) := by
  intro x X k n Q h en r hv q
  simp only [sSw, Option.bind_eq_some_iff, Option.map_eq_some_iff] at hv
  obtain ⟨⟨a, h1⟩, e1, r1, e2, e3⟩ := hv
  subst e3
  refine hf x X k n Q h en [] a h1 e1 (Nat.zero_le _) ?_
  by_cases ha : a.toInt < lo ∨ hi < a.toInt
  · have g := hdf x X k n Q h1 en r1 (by simpa [ha] using e2) q.cut
    obtain ⟨p, l, e, s, m, args, below, meth, c, D, Z, B0⟩ := x
    intro hkn H locs ls hW hS hl
    exact lv_tableOut X.1 X.2.1 hd ha hD (g hkn H locs ls hW hS hl)
  · have hin : (a.toInt - lo).toNat < offs.toList.length := by
      rw [Array.length_toList]
      omega
    obtain ⟨off, tgt, w1, w2, w3⟩ := swOk_get offs.toList bs hbs (a.toInt - lo).toNat hin df
    have g := w3 x X k n Q h1 en r1 (by simpa [ha] using e2) q.cut
    obtain ⟨p, l, e, s, m, args, below, meth, c, D, Z, B0⟩ := x
    intro hkn H locs ls hW hS hl
    exact lv_tableIn X.1 X.2.1 hd (fun z => ha (Or.inl z)) (fun z => ha (Or.inr z)) (by rw [← Array.getElem?_toList]; exact w1) w2 (g hkn H locs ls hW hS hl)
end ZR3
