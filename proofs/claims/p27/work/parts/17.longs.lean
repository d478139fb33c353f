/-! ROWS: longs; the rest of a division; a shift -/
abbrev zEJ : Type := List Value → zH → Option (Int64 × zH)
def elOk (M : zM) (d pc pc' : Nat) (f : zEJ) : Prop := ∀ x, zCx M x → ∀ (k n : Nat) (Q : State → Prop) (h : zH) (en st : List Value) (v : Int64) (h' : zH), f en h = some (v, h') → zcat st ≤ d → zG M x k n Q h' en pc' (.long v :: st) → zG M x k n Q h en pc st
theorem zcat_long {d : Nat} {v : Int64} {st : List Value} (h : zcat st ≤ d) : zcat (.long v :: st) ≤ d + 2 := by
  simp only [zcat, List.map_cons, List.sum_cons, Value.category] at *
  omega
section ZR17
variable {M : zM} {d pc p1 p2 p3 pT pF pE : Nat}
def jC (v : Int64) : zEJ := fun _ h => some (v, h)
def jL (k : Nat) : zEJ := fun en h => match en[k]? with
  | some (.long v) => some (v, h)
  | _ => none
def jOp (o : Int64 → Int64 → Int64) (f g : zEJ) : zEJ := fun en h => (f en h).bind fun a => (g en a.2).bind fun b => some (o a.1 b.1, b.2)
def jI (f : zEI) : zEJ := fun en h => (f en h).map fun a => (a.1.toInt64, a.2)
def jCmp (f g : zEJ) : zEI := fun en h => (f en h).bind fun a => (g en a.2).bind fun b => some (lg_cmp a.1 b.1, b.2)
theorem jL_spec {k : Nat} {en : List Value} {h h' : zH} {v : Int64} (hf : jL k en h = some (v, h')) : en[k]? = some (.long v) ∧ h' = h := by
  unfold jL at hf
  split at hf
  · rename_i w hw
    cases hf
    exact ⟨hw, rfl⟩
  · cases hf
theorem jOp_spec {o : Int64 → Int64 → Int64} {f g : zEJ} {en : List Value} {h h' : zH} {v : Int64} (hf : jOp o f g en h = some (v, h')) : ∃ a h1 b, f en h = some (a, h1) ∧ g en h1 = some (b, h') ∧ v = o a b := by
  simp only [jOp, Option.bind_eq_some_iff] at hf
  obtain ⟨⟨a, h1⟩, e1, ⟨b, h2⟩, e2, e3⟩ := hf
  cases e3
  exact ⟨a, h1, b, e1, e2, rfl⟩
theorem kJC {idx : Nat} {v : Int64} (hd : decode M.1 pc = .ok (.ldc2_w idx, 3)) (hc : zHas (Cond.constantLong M.2.1 idx v)) : elOk M d pc (pc + 3) (jC v) := by
  intro x X k n Q h en st v' h' hf hs g
  obtain ⟨p, l, e, s, m, args, below, meth, c, D, Z, B0⟩ := x
  cases hf
  intro hkn H locs ls hW hS hl
  exact lv_ldc2 X.1 X.2.1 X.2.2.2.1 (X.2.2.2.2.1.ts args hc) hd (g hkn H locs ls hW hS hl)
theorem kJL_n {kk : Fin 4} {j : Nat} (hd : decode M.1 pc = .ok (.lload_n kk, 1)) (hj : (kk : Nat) = j) : elOk M d pc (pc + 1) (jL j) := by
  intro x X k n Q h en st v' h' hf hs g
  obtain ⟨p, l, e, s, m, args, below, meth, c, D, Z, B0⟩ := x
  obtain ⟨h1, rfl⟩ := jL_spec hf
  intro hkn H locs ls hW hS hl
  exact lv_lload_n X.1 X.2.1 hd hj (hl.2.2 _ _ h1 (fun z => by cases z)) (g hkn H locs ls hW hS hl)
theorem kJL {j : Nat} (hd : decode M.1 pc = .ok (.lload j, 2)) : elOk M d pc (pc + 2) (jL j) := by
  intro x X k n Q h en st v' h' hf hs g
  obtain ⟨p, l, e, s, m, args, below, meth, c, D, Z, B0⟩ := x
  obtain ⟨h1, rfl⟩ := jL_spec hf
  intro hkn H locs ls hW hS hl
  exact lv_lload X.1 X.2.1 hd (hl.2.2 _ _ h1 (fun z => by cases z)) (g hkn H locs ls hW hS hl)
theorem kJAdd {f g : zEJ} (hf : elOk M d pc p1 f) (hg : elOk M (d + 2) p1 p2 g) (hd : decode M.1 p2 = .ok (.ladd, 1)) : elOk M d pc (p2 + 1) (jOp (· + ·) f g) := by
  intro x X k n Q h en st v' h' hv hs q
  obtain ⟨a, h1, b, e1, e2, rfl⟩ := jOp_spec hv
  refine hf x X k n Q h en st a h1 e1 hs (hg x X k n Q h1 en _ b h' e2 (zcat_long hs) ?_)
  obtain ⟨p, l, e, s, m, args, below, meth, c, D, Z, B0⟩ := x
  intro hkn H locs ls hW hS hl
  exact lv_ladd X.1 X.2.1 hd (q hkn H locs ls hW hS hl)
theorem kJMul {f g : zEJ} (hf : elOk M d pc p1 f) (hg : elOk M (d + 2) p1 p2 g) (hd : decode M.1 p2 = .ok (.lmul, 1)) : elOk M d pc (p2 + 1) (jOp (· * ·) f g) := by
  intro x X k n Q h en st v' h' hv hs q
  obtain ⟨a, h1, b, e1, e2, rfl⟩ := jOp_spec hv
  refine hf x X k n Q h en st a h1 e1 hs (hg x X k n Q h1 en _ b h' e2 (zcat_long hs) ?_)
  obtain ⟨p, l, e, s, m, args, below, meth, c, D, Z, B0⟩ := x
  intro hkn H locs ls hW hS hl
  exact lv_lmul X.1 X.2.1 hd (q hkn H locs ls hW hS hl)
theorem kJI {f : zEI} (hf : eiOk M d pc p1 f) (hd : decode M.1 p1 = .ok (.i2l, 1)) : elOk M d pc (p1 + 1) (jI f) := by
  intro x X k n Q h en st v' h' hv hs q
  simp only [jI, Option.map_eq_some_iff] at hv
  obtain ⟨⟨a, h1⟩, e1, e2⟩ := hv
  cases e2
  refine hf x X k n Q h en st a h1 e1 hs ?_
  obtain ⟨p, l, e, s, m, args, below, meth, c, D, Z, B0⟩ := x
  intro hkn H locs ls hW hS hl
  exact lv_i2l X.1 X.2.1 hd rfl (q hkn H locs ls hW hS hl)
theorem kJCmp {f g : zEJ} (hf : elOk M d pc p1 f) (hg : elOk M (d + 2) p1 p2 g) (hd : decode M.1 p2 = .ok (.lcmp, 1)) : eiOk M d pc (p2 + 1) (jCmp f g) := by
  intro x X k n Q h en st v' h' hv hs q
  simp only [jCmp, Option.bind_eq_some_iff] at hv
  obtain ⟨⟨a, h1⟩, e1, ⟨b, h2⟩, e2, e3⟩ := hv
  cases e3
  refine hf x X k n Q h en st a h1 e1 hs (hg x X k n Q h1 en _ b h2 e2 (zcat_long hs) ?_)
  obtain ⟨p, l, e, s, m, args, below, meth, c, D, Z, B0⟩ := x
  intro hkn H locs ls hW hS hl
  exact W.lcmp X.1 X.2.1 hd (q hkn H locs ls hW hS hl)
/-! the rest of a division, where it is not by 0; a shift to the right -/
def eRem (f g : zEI) : zEI := fun en h => (f en h).bind fun a => (g en a.2).bind fun b => if b.1 = 0 then none else some (a.1 - a.1 / b.1 * b.1, b.2)
theorem kRem {f g : zEI} (hf : eiOk M d pc p1 f) (hg : eiOk M (d + 1) p1 p2 g) (hd : decode M.1 p2 = .ok (.irem, 1)) : eiOk M d pc (p2 + 1) (eRem f g) := by
  intro x X k n Q h en st v h' hv hs q
  simp only [eRem, Option.bind_eq_some_iff] at hv
  obtain ⟨⟨a, h1⟩, e1, ⟨b, h2⟩, e2, e3⟩ := hv
  by_cases hz : b = 0
  · simp [hz] at e3
  · simp only [hz, if_false] at e3
    cases e3
    refine hf x X k n Q h en st a h1 e1 hs (hg x X k n Q h1 en _ b _ e2 (zcat_int hs) ?_)
    obtain ⟨p, l, e, s, m, args, below, meth, c, D, Z, B0⟩ := x
    intro hkn H locs ls hW hS hl
    exact lv_irem X.1 X.2.1 hd hz (q hkn H locs ls hW hS hl)
def o_shr (a b : Int32) : Int32 := a >>> (b &&& 31)
theorem kShr {f g : zEI} (hf : eiOk M d pc p1 f) (hg : eiOk M (d + 1) p1 p2 g) (hd : decode M.1 p2 = .ok (.ishr, 1)) : eiOk M d pc (p2 + 1) (eOp o_shr f g) := by
  intro x X k n Q h en st v' h' hv hs q
  obtain ⟨a, h1, b, e1, e2, rfl⟩ := eOp_spec hv
  refine hf x X k n Q h en st a h1 e1 hs (hg x X k n Q h1 en _ b h' e2 (zcat_int hs) ?_)
  obtain ⟨p, l, e, s, m, args, below, meth, c, D, Z, B0⟩ := x
  intro hkn H locs ls hW hS hl
  exact lv_ishr X.1 X.2.1 hd (q hkn H locs ls hW hS hl)
/-! a long into a local -/
def zStJ : List Value → Nat → Int64 → Option (List Value)
  | [], 0, x => some [.long x, .null]
  | [_], 0, x => some [.long x, .null]
  | _ :: _ :: t, 0, x => some (.long x :: .null :: t)
  | [], _ + 1, _ => none
  | .long _ :: _, 1, _ => none
  | .double _ :: _, 1, _ => none
  | a :: t, k + 1, x => (zStJ t k x).map (fun t' => a :: t')
theorem zStJ_spec (x : Int64) : ∀ (en : List Value) (k : Nat) (en' : List Value), zStJ en k x = some en' → ∀ (j : Nat) (w : Value), en'[j]? = some w → (j = k ∧ w = .long x) ∨ (j = k + 1 ∧ w = .null) ∨ (j ≠ k ∧ j ≠ k + 1 ∧ en[j]? = some w ∧ (j + 1 = k → w.category = 1)) := by
  intro en
  induction en with
  | nil =>
    intro k en' h j w hw
    cases k with
    | zero =>
      simp only [zStJ, Option.some.injEq] at h
      subst h
      match j with
      | 0 => simp at hw; exact .inl ⟨rfl, hw.symm⟩
      | 1 => simp at hw; exact .inr (.inl ⟨rfl, hw.symm⟩)
      | j + 2 => simp at hw
    | succ k => simp [zStJ] at h
  | cons a t ih =>
    intro k en' h j w hw
    cases k with
    | zero =>
      cases t with
      | nil =>
        simp only [zStJ, Option.some.injEq] at h
        subst h
        match j with
        | 0 => simp at hw; exact .inl ⟨rfl, hw.symm⟩
        | 1 => simp at hw; exact .inr (.inl ⟨rfl, hw.symm⟩)
        | j + 2 => simp at hw
      | cons b t =>
        simp only [zStJ, Option.some.injEq] at h
        subst h
        match j with
        | 0 => simp at hw; exact .inl ⟨rfl, hw.symm⟩
        | 1 => simp at hw; exact .inr (.inl ⟨rfl, hw.symm⟩)
        | j + 2 => exact .inr (.inr ⟨by omega, by omega, by simpa using hw, by omega⟩)
    | succ k =>
      have h2 : (k = 0 → a.category = 1) ∧ ∃ t', zStJ t k x = some t' ∧ a :: t' = en' := by
        cases k with
        | zero => cases a <;> simp_all [zStJ, Value.category]
        | succ k =>
          refine ⟨by omega, ?_⟩
          cases a <;> simpa [zStJ] using h
      obtain ⟨hc, t', h1, rfl⟩ := h2
      cases j with
      | zero =>
        simp at hw
        subst hw
        exact .inr (.inr ⟨by omega, by omega, rfl, fun e => hc (by omega)⟩)
      | succ j =>
        rcases ih k t' h1 j w (by simpa using hw) with ⟨e1, e2⟩ | ⟨e1, e2⟩ | ⟨e1, e2, e3, e4⟩
        · exact .inl ⟨by omega, e2⟩
        · exact .inr (.inl ⟨by omega, e2⟩)
        · exact .inr (.inr ⟨by omega, by omega, by simpa using e3, fun e => e4 (by omega)⟩)
theorem zL.storedJ {ls ls' : Array Slot} {nL : Nat} {en en' : List Value} {i : Nat} {x : Int64} (h : zL ls nL en) (hs : zStJ en i x = some en') (h' : lv_has ls' nL ((i, .long x) :: (zLv en).filter (fun q => !(q.1 == i) && (!(q.1 == i + 1) && !(q.1 + 1 == i && q.2.category == 2))))) : zL ls' nL en' := by
  refine ⟨h'.1, h'.2.1, fun j w hw hn => ?_⟩
  rcases zStJ_spec x en i en' hs j w hw with ⟨e1, e2⟩ | ⟨e1, e2⟩ | ⟨e1, e2, e3, e4⟩
  · subst e1; subst e2
    exact h'.2.2 (j, _) List.mem_cons_self
  · exact absurd e2 hn
  · refine h'.2.2 (j, w) (List.mem_cons_of_mem _ (List.mem_filter.mpr ⟨zLv_mem e3 hn, ?_⟩))
    by_cases e : j + 1 = i
    · simp [e1, e2, e4 e]
    · simp [e1, e2, e]
def sLj (j : Nat) (f : zEJ) : zSS := fun en h => (f en h).bind fun a => (zStJ en j a.1).map fun en' => .inl (en', a.2)
theorem kSj_n {f : zEJ} {kk : Fin 4} {j : Nat} (hf : elOk M 0 pc p1 f) (hd : decode M.1 p1 = .ok (.lstore_n kk, 1)) (hj : (kk : Nat) = j) (hn : j + 1 < M.2.2.1) : ssOk M pc (p1 + 1) (sLj j f) := by
  intro x X k n Q h en r hv g
  simp only [sLj, Option.bind_eq_some_iff, Option.map_eq_some_iff] at hv
  obtain ⟨⟨a, h1⟩, e1, en', e2, e3⟩ := hv
  subst e3
  refine hf x X k n Q h en [] a h1 e1 (Nat.le_refl _) ?_
  obtain ⟨p, l, e, s, m, args, below, meth, c, D, Z, B0⟩ := x
  intro hkn H locs ls hW hS hl
  exact lv_lstore_n X.1 X.2.1 hd hj hl.has hn rfl (fun ls' hl' => g hkn H locs ls' hW hS (hl.storedJ e2 hl'))
theorem kSj {f : zEJ} {j : Nat} (hf : elOk M 0 pc p1 f) (hd : decode M.1 p1 = .ok (.lstore j, 2)) (hn : j + 1 < M.2.2.1) : ssOk M pc (p1 + 2) (sLj j f) := by
  intro x X k n Q h en r hv g
  simp only [sLj, Option.bind_eq_some_iff, Option.map_eq_some_iff] at hv
  obtain ⟨⟨a, h1⟩, e1, en', e2, e3⟩ := hv
  subst e3
  refine hf x X k n Q h en [] a h1 e1 (Nat.le_refl _) ?_
  obtain ⟨p, l, e, s, m, args, below, meth, c, D, Z, B0⟩ := x
  intro hkn H locs ls hW hS hl
  exact lv_lstore X.1 X.2.1 hd hl.has hn rfl (fun ls' hl' => g hkn H locs ls' hW hS (hl.storedJ e2 hl'))
/-! a method that answers a long: its contract, its calls -/
abbrev zFJ : Type := List Value → zH → Option (Int64 × zH)
def zPoJ (D : va_G) (Z : Nat → ClassId) (B0 : Nat) (v : Int64) (h' : zH) : Array Value → State → Outcome → State → Prop := va_Ql (fun (r : Int64) (_ : Unit) => r = v) (fun _ t => zW D Z B0 t h' t.heap) (fun q => B0 ≤ q)
def CtJ (y : MethodName) (cc : ByteArray) (maxL : Nat) (fr lo N : Nat) (fn : zFJ) : Prop := ∀ (l : Launch) (D : va_G) (Z : Nat → ClassId) (B0 : Nat) (h : zH) (vs : List Value) (v : Int64) (h' : zH), vs.length = N → (∀ w ∈ vs, w.category = 1) → fn vs h = some (v, h') → Met l y [.code y cc maxL (some .long)] { frames := fr, cells := 0, slots := 0, locals := lo } (zPre D Z B0 h vs) (zPoJ D Z B0 v h') 0 0 (fun q => B0 ≤ q)
def jCS (f : zEA) (fn : zFJ) : zEJ := fun en h => (f en h).bind fun a => fn a.1 a.2
theorem kJCS {y : MethodName} {cc : ByteArray} {maxL fr lo N idx : Nat} {f : zEA} {fn : zFJ} (hf : eaOk M d pc p1 N f) (hd : decode M.1 p1 = .ok (.invokestatic idx, 3)) (ct : CtJ y cc maxL fr lo N fn) (hm : zMd y cc maxL (some .long) N) (hst : zHas (.static y)) (hl : zHas (.methodLink M.2.1 idx y)) (hR : fr + 1 ≤ M.2.2.2.2.1.frames ∧ 8 + (maxL + 11) + lo ≤ M.2.2.2.2.1.locals) (hd8 : d ≤ 8) : elOk M d pc (p1 + 3) (jCS f fn) := by
  intro x X k n Q h en st v h' hv hs q
  simp only [jCS, Option.bind_eq_some_iff] at hv
  obtain ⟨⟨vs, h1⟩, e1, e2⟩ := hv
  obtain ⟨⟨q1, q2⟩, q3⟩ := hf x X k n Q h en st vs h1 e1 hs
  refine q3 ?_
  obtain ⟨p, l, e, s, m, args, below, meth, c, D, Z, B0⟩ := x
  intro hkn H locs ls hW hS hl'
  exact va_calll (va_runS (As := vs) (rest := st) (Ts := []) ⟨X.1, X.2.1, X.2.2.1, X.2.2.2.1, fun w hw => by cases hw⟩ (ct l D Z B0 h1 vs v h' q1 q2 e2) ⟨zCallB X.2.2.2.2.1 hm hl hR, X.2.2.2.2.1.ts args hst⟩ ⟨zPre.blind, zPre.at X hW hS⟩ rfl q1 hl'.1 rfl (lv_room (Nat.le_trans hs hd8)) hd hkn) hS (fun q _ h => h) (fun q h => h) (fun r u t H1 locs1 ht hvm hp hb hz hk hS1 => by
    rw [hp]
    exact q hkn H1 locs1 ls (by rw [← ht]; exact zW.moved hvm.symm hb) hS1 hl')
/-- a body, and behind it the long that is answered -/
def mJ (f : zSS) (g : zEJ) : zFJ := fun vs h => (f vs h).bind fun r => match r with
  | .inl q => g q.1 q.2
  | .inr _ => none
theorem mJ_spec {f : zSS} {g : zEJ} {vs : List Value} {h h' : zH} {v : Int64} (hf : mJ f g vs h = some (v, h')) : ∃ en h1, f vs h = some (.inl (en, h1)) ∧ g en h1 = some (v, h') := by
  simp only [mJ, Option.bind_eq_some_iff] at hf
  obtain ⟨r, e1, e2⟩ := hf
  cases r with
  | inl q => exact ⟨q.1, q.2, e1, e2⟩
  | inr q => cases e2
theorem ctJ {y : MethodName} {cc : ByteArray} {maxL fr lo N np : Nat} {f : zSS} {g : zEJ} (hm : zMd y cc maxL (some .long) np) (hN : N ≤ maxL) (hs : ssOk (cc, y.cls, maxL, some .long, { frames := fr, cells := 0, slots := 0, locals := lo }, false) 0 p1 f) (hg : elOk (cc, y.cls, maxL, some .long, { frames := fr, cells := 0, slots := 0, locals := lo }, false) 0 p1 p2 g) (hd : decode cc p2 = .ok (.lreturn, 1)) : CtJ y cc maxL fr lo N (mJ f g) := by
  intro l D Z B0 h vs v h' hlen hcat hf
  refine Met.ofW (cc := cc) (maxL := maxL) (ret := some .long) hm.2.2.2.2 rfl ?_
  intro p e s m args below meth c s₁ B hml hv
  obtain ⟨rfl, hB0, hW, hK⟩ := hv
  have X : zCx (cc, y.cls, maxL, some .long, { frames := fr, cells := 0, slots := 0, locals := lo }, false) (p, l, e, s, m, vs.toArray, below, meth, c, D, Z, B0) := ⟨B.exec, B.bytes, hml, findClass_of_methodNamed B.named, hK, B.returns, B.notSynchronized, fun z => absurd z Bool.false_ne_true, hB0⟩
  rw [lg_entry_eq]
  obtain ⟨en, h1, hf1, hf2⟩ := mJ_spec hf
  have gg := hs _ X 0 0 (MQ below (zPoJ D Z B0 v h') vs.toArray s 0 0 (fun q => B0 ≤ q)) h vs _ hf1 (hg _ X 0 0 _ h1 en [] v h' hf2 (Nat.le_refl _) (by
    intro hkn H locs ls hW hS hl
    exact W.lret X.1 X.2.1 B.returns (fun t ht hM => ⟨⟨v, (), rfl, rfl, zW.moved hM.alike (show zW D Z B0 s h' t.heap by rw [ht]; exact hW)⟩, hS.F ht⟩) hS.2.2 hd B.notSynchronized))
  exact gg ⟨Nat.le_refl _, Nat.le_refl _⟩ s.heap [] _ hW va_S.rf (zL.entry hcat (by omega))
end ZR17
