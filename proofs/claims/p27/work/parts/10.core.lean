/-! THE LAYER: an abstract heap; functions that say what a piece of code does; rows that tie each of them to the machine -/
abbrev zX : Type := (Nat × (Nat → Int32)) ⊕ ((Nat × Nat × (Nat → Option Nat)) ⊕ ((Nat × List Value) ⊕ (Nat × (Nat → Int32))))
/-- the next address, and what each address holds -/
abbrev zH : Type := Nat × (Nat → Option zX)
abbrev xI (n : Nat) (f : Nat → Int32) : zX := .inl (n, f)
abbrev xR (ci n : Nat) (f : Nat → Option Nat) : zX := .inr (.inl (ci, n, f))
abbrev xO (ci : Nat) (fs : List Value) : zX := .inr (.inr (.inl (ci, fs)))
abbrev xS (n : Nat) (f : Nat → Int32) : zX := .inr (.inr (.inr (n, f)))
def zE (Z : Nat → ClassId) (y : zX) : va_E := match y with
  | .inl (n, f) => .inl (Z 100, n, .inl f)
  | .inr (.inl (ci, n, f)) => .inl (Z ci, n, .inr (.inr (.inr (.inr f))))
  | .inr (.inr (.inl (ci, fs))) => .inr (ci, fs)
  | .inr (.inr (.inr (n, f))) => .inl (Z 100, n, .inl f)
abbrev zTys (Z : Nat → ClassId) : List (ClassId × FieldType) := [(Z 100, .int), (Z 3, .object RX3), (Z 4, .object RX4), (Z 5, .object RX5)]
def zAt (D : va_G) (Z : Nat → ClassId) (U : State) (a : Nat) (H : Heap) (y : zX) : Prop := match y with
  | .inl (n, f) => va_at D vwCl (a, zE Z (xI n f)) H
  | .inr (.inl (ci, n, f)) => va_at D vwCl (a, zE Z (xR ci n f)) H
  | .inr (.inr (.inl (ci, fs))) => va_at D vwCl (a, zE Z (xO ci fs)) H
  | .inr (.inr (.inr (n, f))) => va_X a n f U H
def zOwn (y : zX) : Prop := match y with
  | .inr (.inr (.inr _)) => False
  | _ => True
/-- the heap is as h says -/
def zW (D : va_G) (Z : Nat → ClassId) (B0 : Nat) (U : State) (h : zH) (H : Heap) : Prop := H.size = h.1 ∧ ∀ (a : Nat) (y : zX), h.2 a = some y → zAt D Z U a H y ∧ (zOwn y → B0 ≤ a)
/-- what the tables say, for all methods alike -/
def zHas (w : Cond) : Prop := w ∈ lw_tbl ∧ goodWord w = true
def zK (D : va_G) (Z : Nat → ClassId) (U : State) : Prop := va_K D vwCl (zTys Z) U ∧ (∀ w, zHas w → w.before #[] U = true) ∧ (∀ (a : String) (i : Nat) (y : MethodName) (o : String), Cond.methodLinkNest a i y o ∈ lw_tbl → va_Nw (.methodLinkNest a i y o) U) ∧ ∀ C : String, Cond.arrayOver (.object C) ∈ lw_tbl → va_AO C U
abbrev zM : Type := ByteArray × String × Nat × Option FieldType × Room × Bool
abbrev zC : Type := Program × Launch × Env × State × MethodId × Array Value × List Frame × Method × Code × va_G × (Nat → ClassId) × Nat
def zCx (M : zM) (x : zC) : Prop := match x with
  | (p, _, _, s, m, _, _, meth, c, D, Z, B0) => p.tables.exec = Jvm.exec ∧ c.code = M.1 ∧ c.maxLocals = M.2.2.1 ∧ s.vm.findClass M.2.1 = some m.cls ∧ zK D Z s ∧ meth.sig.returnType = M.2.2.2.1 ∧ meth.locks = false ∧ (M.2.2.2.2.2 = true → meth.name = "<init>") ∧ B0 ≤ s.heap.size
/-- the locals: a long stands at its number, and .null (no local of ours is null) at the next -/
def zL (ls : Array Slot) (nL : Nat) (en : List Value) : Prop := ls.size = nL ∧ lv_wf ls ∧ ∀ (i : Nat) (v : Value), en[i]? = some v → v ≠ .null → ls[i]? = some (.val v)
/-- from here, at this heap, these locals, this stack, the machine comes to Q -/
def zG (M : zM) (x : zC) (k n : Nat) (Q : State → Prop) (h : zH) (en : List Value) (pc : Nat) (st : List Value) : Prop := match x with
  | (p, l, e, s, m, args, below, meth, c, D, Z, B0) => (k ≤ M.2.2.2.2.1.cells ∧ n ≤ M.2.2.2.2.1.slots) → ∀ (H : Heap) (locs : List Loc) (ls : Array Slot), zW D Z B0 s h H → va_S (fun q => B0 ≤ q) s.heap H locs → zL ls M.2.2.1 en → W p l e M.2.2.2.2.1 s m args below meth c H locs k n Q (F0 m pc ls st)
abbrev zcat (st : List Value) : Nat := (st.map fun v => v.category).sum
abbrev zEI : Type := List Value → zH → Option (Int32 × zH)
abbrev zER : Type := List Value → zH → Option (Nat × zH)
abbrev zEB : Type := List Value → zH → Option (Bool × zH)
abbrev zEA : Type := List Value → zH → Option (List Value × zH)
abbrev zSR : Type := (List Value × zH) ⊕ (Option Int32 × zH)
abbrev zSS : Type := List Value → zH → Option zSR
/-! the judgements -/
def eiOk (M : zM) (d pc pc' : Nat) (f : zEI) : Prop := ∀ x, zCx M x → ∀ (k n : Nat) (Q : State → Prop) (h : zH) (en st : List Value) (v : Int32) (h' : zH), f en h = some (v, h') → zcat st ≤ d → zG M x k n Q h' en pc' (.int v :: st) → zG M x k n Q h en pc st
def erOk (M : zM) (d pc pc' : Nat) (f : zER) : Prop := ∀ x, zCx M x → ∀ (k n : Nat) (Q : State → Prop) (h : zH) (en st : List Value) (v : Nat) (h' : zH), f en h = some (v, h') → zcat st ≤ d → zG M x k n Q h' en pc' (.ref v :: st) → zG M x k n Q h en pc st
def ebOk (M : zM) (d pc pT pF : Nat) (f : zEB) : Prop := ∀ x, zCx M x → ∀ (k n : Nat) (Q : State → Prop) (h : zH) (en st : List Value) (v : Bool) (h' : zH), f en h = some (v, h') → zcat st ≤ d → zG M x k n Q h' en (if v = true then pT else pF) st → zG M x k n Q h en pc st
def eaOk (M : zM) (d pc pc' N : Nat) (f : zEA) : Prop := ∀ x, zCx M x → ∀ (k n : Nat) (Q : State → Prop) (h : zH) (en st : List Value) (v : List Value) (h' : zH), f en h = some (v, h') → zcat st ≤ d → (v.length = N ∧ ∀ w ∈ v, w.category = 1) ∧ (zG M x k n Q h' en pc' (v.reverse ++ st) → zG M x k n Q h en pc st)
def zCont (M : zM) (x : zC) (k n : Nat) (Q : State → Prop) (pc' : Nat) (r : zSR) : Prop := match r with
  | .inl (en', h') => zG M x k n Q h' en' pc' []
  | .inr (some v, h') => ∀ pc, decode M.1 pc = .ok (.ireturn, 1) → zG M x k n Q h' [] pc [.int v]
  | .inr (none, h') => ∀ pc, decode M.1 pc = .ok (.return_, 1) → zG M x k n Q h' [] pc []
def ssOk (M : zM) (pc pc' : Nat) (f : zSS) : Prop := ∀ x, zCx M x → ∀ (k n : Nat) (Q : State → Prop) (h : zH) (en : List Value) (r : zSR), f en h = some r → zCont M x k n Q pc' r → zG M x k n Q h en pc []
/-! small facts -/
theorem zL.sub {ls : Array Slot} {nL : Nat} {en en' : List Value} (h : zL ls nL en) (hs : ∀ (i : Nat) (v : Value), en'[i]? = some v → en[i]? = some v) : zL ls nL en' := ⟨h.1, h.2.1, fun i v hv hn => h.2.2 i v (hs i v hv) hn⟩
theorem zG.sub {M : zM} {x : zC} {k n : Nat} {Q : State → Prop} {h : zH} {en en' : List Value} {pc : Nat} {st : List Value} (g : zG M x k n Q h en' pc st) (hs : ∀ (i : Nat) (v : Value), en'[i]? = some v → en[i]? = some v) : zG M x k n Q h en pc st := by
  obtain ⟨p, l, e, s, m, args, below, meth, c, D, Z, B0⟩ := x
  intro hkn H locs ls hW hS hl
  exact g hkn H locs ls hW hS (hl.sub hs)
theorem zG.nil {M : zM} {x : zC} {k n : Nat} {Q : State → Prop} {h : zH} {en : List Value} {pc : Nat} {st : List Value} (g : zG M x k n Q h [] pc st) : zG M x k n Q h en pc st := g.sub (fun i v hv => by simp at hv)
theorem zG.take {M : zM} {x : zC} {k n : Nat} {Q : State → Prop} {h : zH} {en : List Value} {pc : Nat} {st : List Value} (j : Nat) (g : zG M x k n Q h (en.take j) pc st) : zG M x k n Q h en pc st := g.sub (fun i v hv => by
  rw [List.getElem?_take] at hv
  split at hv
  · exact hv
  · cases hv)
def zSt : List Value → Nat → Value → Option (List Value)
  | [], 0, v => some [v]
  | [], _ + 1, _ => none
  | _ :: t, 0, v => some (v :: t)
  | .long _ :: _, 1, _ => none
  | .double _ :: _, 1, _ => none
  | a :: t, k + 1, v => (zSt t k v).map (fun t' => a :: t')
theorem zSt_spec (v : Value) : ∀ (en : List Value) (k : Nat) (en' : List Value), zSt en k v = some en' → ∀ (j : Nat) (w : Value), en'[j]? = some w → (j = k ∧ w = v) ∨ (j ≠ k ∧ en[j]? = some w ∧ (j + 1 = k → w.category = 1)) := by
  intro en
  induction en with
  | nil =>
    intro k en' h j w hw
    cases k with
    | zero =>
      simp only [zSt, Option.some.injEq] at h
      subst h
      cases j with
      | zero => simp at hw; exact Or.inl ⟨rfl, hw.symm⟩
      | succ j => simp at hw
    | succ k => simp [zSt] at h
  | cons a t ih =>
    intro k en' h j w hw
    cases k with
    | zero =>
      simp only [zSt, Option.some.injEq] at h
      subst h
      cases j with
      | zero => simp at hw; exact Or.inl ⟨rfl, hw.symm⟩
      | succ j => exact Or.inr ⟨by omega, by simpa using hw, by omega⟩
    | succ k =>
      have h2 : (k = 0 → a.category = 1) ∧ ∃ t', zSt t k v = some t' ∧ a :: t' = en' := by
        cases k with
        | zero => cases a <;> simp_all [zSt, Value.category]
        | succ k =>
          refine ⟨by omega, ?_⟩
          cases a <;> simpa [zSt] using h
      obtain ⟨hc, t', h1, rfl⟩ := h2
      cases j with
      | zero =>
        simp at hw
        subst hw
        exact Or.inr ⟨by omega, rfl, fun e => hc (by omega)⟩
      | succ j =>
        rcases ih k t' h1 j w (by simpa using hw) with ⟨e1, e2⟩ | ⟨e1, e2, e3⟩
        · exact Or.inl ⟨by omega, e2⟩
        · exact Or.inr ⟨by omega, by simpa using e2, fun e => e3 (by omega)⟩
def zNn (v : Value) : Bool := match v with
  | .null => false
  | _ => true
theorem zNn_iff {v : Value} : zNn v = true ↔ v ≠ .null := by cases v <;> simp [zNn]
def zLv (en : List Value) : List (Nat × Value) := ((List.range en.length).map fun j => (j, en.getD j .null)).filter (fun q => zNn q.2)
theorem zLv_mem {en : List Value} {j : Nat} {w : Value} (h : en[j]? = some w) (hn : w ≠ .null) : (j, w) ∈ zLv en := List.mem_filter.mpr ⟨List.mem_map.mpr ⟨j, List.mem_range.mpr (List.getElem?_eq_some_iff.mp h).1, by simp [List.getD, h]⟩, zNn_iff.mpr hn⟩
theorem zLv_of {en : List Value} {q : Nat × Value} (h : q ∈ zLv en) : en[q.1]? = some q.2 ∧ q.2 ≠ .null := by
  obtain ⟨h0, hn⟩ := List.mem_filter.mp h
  obtain ⟨j, h1, h2⟩ := List.mem_map.mp h0
  have hj := List.mem_range.mp h1
  refine ⟨?_, zNn_iff.mp hn⟩
  subst h2
  simp [List.getD, List.getElem?_eq_getElem hj]
theorem zL.has {ls : Array Slot} {nL : Nat} {en : List Value} (h : zL ls nL en) : lv_has ls nL (zLv en) := ⟨h.1, h.2.1, fun q hq => h.2.2 q.1 q.2 (zLv_of hq).1 (zLv_of hq).2⟩
theorem zL.stored {ls ls' : Array Slot} {nL : Nat} {en en' : List Value} {i : Nat} {v : Value} (h : zL ls nL en) (hs : zSt en i v = some en') (hv : v.category = 1) (h' : lv_has ls' nL ((i, v) :: (zLv en).filter (fun q => !(q.1 == i) && !(q.1 + 1 == i && q.2.category == 2)))) : zL ls' nL en' := by
  refine ⟨h'.1, h'.2.1, fun j w hw hn => ?_⟩
  rcases zSt_spec v en i en' hs j w hw with ⟨e1, e2⟩ | ⟨e1, e2, e3⟩
  · subst e1; subst e2
    exact h'.2.2 (j, w) List.mem_cons_self
  · refine h'.2.2 (j, w) (List.mem_cons_of_mem _ (List.mem_filter.mpr ⟨zLv_mem e2 hn, ?_⟩))
    by_cases e : j + 1 = i
    · simp [e1, e3 e]
    · simp [e1, e]
theorem zW.moved {D : va_G} {Z : Nat → ClassId} {B0 : Nat} {u U : State} {h : zH} {H : Heap} (hvm : u.vm.Alike U.vm) (g : zW D Z B0 u h H) : zW D Z B0 U h H := by
  refine ⟨g.1, fun a y hy => ⟨?_, (g.2 a y hy).2⟩⟩
  have h1 := (g.2 a y hy).1
  match y, h1 with
  | .inl (n, f), h1 => exact h1
  | .inr (.inl (ci, n, f)), h1 => exact h1
  | .inr (.inr (.inl (ci, fs))), h1 => exact h1
  | .inr (.inr (.inr (n, f))), h1 => exact va_X.moved hvm h1
theorem zK.ts {D : va_G} {Z : Nat → ClassId} {U : State} (h : zK D Z U) (args : Array Value) {w : Cond} (hw : zHas w) : w.before args U = true := word_at (State.WarmedH.refl U) (good_of_word hw.2) (h.2.1 w hw)
theorem zK.moved {D : va_G} {Z : Nat → ClassId} {u U : State} (hW : u.WarmedH U.vm) (h : zK D Z u) : zK D Z U := ⟨va_K.moved hW.alike h.1, fun w hw => word_at hW (good_of_word hw.2) (h.2.1 w hw), fun a i y o ho => va_Nw.warmM hW (h.2.2.1 a i y o ho), fun C ho => va_AO.moved hW.alike (h.2.2.2 C ho)⟩
theorem zAt.kept {D : va_G} {Z : Nat → ClassId} {U : State} {a : Nat} {H H1 : Heap} {y : zX} (h : zAt D Z U a H y) (hq : H1[a]? = H[a]?) : zAt D Z U a H1 y := by
  match y, h with
  | .inl (n, f), h => exact va_at.kept (show va_at D vwCl (a, zE Z (xI n f)) H from h) hq
  | .inr (.inl (ci, n, f)), h => exact va_at.kept (show va_at D vwCl (a, zE Z (xR ci n f)) H from h) hq
  | .inr (.inr (.inl (ci, fs))), h => exact va_at.kept (show va_at D vwCl (a, zE Z (xO ci fs)) H from h) hq
  | .inr (.inr (.inr (n, f))), h => exact va_X.kept h hq
theorem zAt.lt {D : va_G} {Z : Nat → ClassId} {U : State} {a : Nat} {H : Heap} {y : zX} (h : zAt D Z U a H y) : a < H.size := by
  match y, h with
  | .inl (n, f), h => exact va_at.lt (show va_at D vwCl (a, zE Z (xI n f)) H from h)
  | .inr (.inl (ci, n, f)), h => exact va_at.lt (show va_at D vwCl (a, zE Z (xR ci n f)) H from h)
  | .inr (.inr (.inl (ci, fs))), h => exact va_at.lt (show va_at D vwCl (a, zE Z (xO ci fs)) H from h)
  | .inr (.inr (.inr (n, f))), h =>
    obtain ⟨scr, h1, -⟩ := h
    exact (Array.getElem?_eq_some_iff.mp h1).1
/-- one cell anew -/
theorem zW.set {D : va_G} {Z : Nat → ClassId} {B0 : Nat} {U : State} {h : zH} {H H1 : Heap} {a : Nat} {y : zX} (g : zW D Z B0 U h H) (hz : H1.size = H.size) (oq : ∀ q : Nat, q ≠ a → H1[q]? = H[q]?) (hy : zAt D Z U a H1 y) (ha : B0 ≤ a) : zW D Z B0 U (h.1, va_up h.2 a (some y)) H1 := by
  refine ⟨by rw [hz]; exact g.1, fun b w hw => ?_⟩
  by_cases hb : b = a
  · have hw2 : va_up h.2 a (some y) b = some w := hw
    rw [hb, va_up_self] at hw2
    cases hw2
    rw [hb]
    exact ⟨hy, fun _ => ha⟩
  · have hw' : h.2 b = some w := by
      rw [← hw]
      show _ = va_up h.2 a (some y) b
      rw [va_up_ne _ _ hb]
    exact ⟨(g.2 b w hw').1.kept (oq b hb), (g.2 b w hw').2⟩
/-- one cell more -/
theorem zW.push {D : va_G} {Z : Nat → ClassId} {B0 : Nat} {U : State} {h : zH} {H H1 : Heap} {y : zX} (g : zW D Z B0 U h H) (hz : H1.size = H.size + 1) (oq : ∀ q : Nat, q < H.size → H1[q]? = H[q]?) (hy : zAt D Z U H.size H1 y) (ha : B0 ≤ H.size) : zW D Z B0 U (h.1 + 1, va_up h.2 h.1 (some y)) H1 := by
  refine ⟨by rw [hz, g.1], fun b w hw => ?_⟩
  by_cases hb : b = h.1
  · have hw2 : va_up h.2 h.1 (some y) b = some w := hw
    rw [hb, va_up_self] at hw2
    cases hw2
    rw [hb, ← g.1]
    exact ⟨hy, fun _ => ha⟩
  · have hw' : h.2 b = some w := by
      rw [← hw]
      show _ = va_up h.2 h.1 (some y) b
      rw [va_up_ne _ _ hb]
    exact ⟨(g.2 b w hw').1.kept (oq b (g.2 b w hw').1.lt), (g.2 b w hw').2⟩
