/-! ROWS: contracts and calls -/
def zPre (D : va_G) (Z : Nat → ClassId) (B0 : Nat) (h : zH) (vs : List Value) : Array Value → State → Prop := va_Pc vs (fun U => B0 ≤ U.heap.size ∧ zW D Z B0 U h U.heap ∧ zK D Z U)
def zPoI (D : va_G) (Z : Nat → ClassId) (B0 : Nat) (v : Int32) (h' : zH) : Array Value → State → Outcome → State → Prop := va_Qi (fun (r : Int32) (_ : Unit) => r = v) (fun _ t => zW D Z B0 t h' t.heap) (fun q => B0 ≤ q)
def zPoV (D : va_G) (Z : Nat → ClassId) (B0 : Nat) (h' : zH) : Array Value → State → Outcome → State → Prop := va_Qv (fun (_ : Unit) => True) (fun _ t => zW D Z B0 t h' t.heap) (fun q => B0 ≤ q)
theorem zPre.blind {D : va_G} {Z : Nat → ClassId} {B0 : Nat} {h : zH} {vs : List Value} : FrameBlind (zPre D Z B0 h vs) := by
  intro a U g mk q
  obtain ⟨q1, q2, q3, q4⟩ := q
  exact ⟨q1, q2, zW.moved (Vm.Alike.refl U.vm) q3, zK.moved (u := U) (U := U.calling g mk a) (State.WarmedH.refl U) q4⟩
/-- the facts of a method that every call of it uses -/
def zMd (y : MethodName) (cc : ByteArray) (maxL : Nat) (ret : Option FieldType) (np : Nat) : Prop := zHas (.code y cc maxL ret) ∧ zHas (.initialized y.cls) ∧ (y.cls ≠ "java/lang/invoke/MethodHandle" ∧ y.cls ≠ "java/lang/invoke/VarHandle") ∧ (parseMethodDescriptor y.desc).map (fun d => d.parameters.length) = some np ∧ plainName y.cls = true
abbrev zFI : Type := List Value → zH → Option (Int32 × zH)
abbrev zFV : Type := List Value → zH → Option zH
def CtI (y : MethodName) (cc : ByteArray) (maxL : Nat) (ret : FieldType) (fr lo N : Nat) (fn : zFI) : Prop := ∀ (l : Launch) (D : va_G) (Z : Nat → ClassId) (B0 : Nat) (h : zH) (vs : List Value) (v : Int32) (h' : zH), vs.length = N → (∀ w ∈ vs, w.category = 1) → fn vs h = some (v, h') → Met l y [.code y cc maxL (some ret)] { frames := fr, cells := 0, slots := 0, locals := lo } (zPre D Z B0 h vs) (zPoI D Z B0 v h') 0 0 (fun q => B0 ≤ q)
def CtV (y : MethodName) (cc : ByteArray) (maxL : Nat) (fr mc ms lo N : Nat) (fn : zFV) : Prop := ∀ (l : Launch) (D : va_G) (Z : Nat → ClassId) (B0 : Nat) (h : zH) (vs : List Value) (h' : zH), vs.length = N → (∀ w ∈ vs, w.category = 1) → fn vs h = some h' → Met l y [.code y cc maxL none] { frames := fr, cells := mc, slots := ms, locals := lo } (zPre D Z B0 h vs) (zPoV D Z B0 h') mc ms (fun q => B0 ≤ q)
theorem zCallB {R : Room} {s : State} {args : Array Value} {own : String} {idx : Nat} {y : MethodName} {cc : ByteArray} {maxL : Nat} {ret : Option FieldType} {fr mc ms lo np : Nat} {D : va_G} {Z : Nat → ClassId} (hK : zK D Z s) (hm : zMd y cc maxL ret np) (hl : zHas (.methodLink own idx y)) (hR : fr + 1 ≤ R.frames ∧ 8 + (maxL + 11) + lo ≤ R.locals) :
    CallB R s args own idx y cc maxL ret [.code y cc maxL ret] { frames := fr, cells := mc, slots := ms, locals := lo } mc ms np := by
  obtain ⟨h1, h2, h3, h4, -⟩ := hm
  refine ⟨rfl, rfl, hR.1, hR.2, fun w hw a' U hW => ?_, List.mem_cons_self, hK.ts args h1, hK.ts args h2, h3, fun sig h => ?_, hK.ts args hl⟩
  · rw [List.mem_singleton.mp hw]
    exact word_at hW (good_of_word h1.2) (hK.ts args h1)
  · rw [h] at h4
    exact (Option.some.inj h4).symm
theorem zPre.at {M : zM} {p : Program} {l : Launch} {e : Env} {s : State} {m : MethodId} {args : Array Value} {below : List Frame} {meth : Method} {c : Code} {D : va_G} {Z : Nat → ClassId} {B0 : Nat} {h : zH} {H : Heap} {locs : List Loc} {vs : List Value} (X : zCx M (p, l, e, s, m, args, below, meth, c, D, Z, B0)) (hW : zW D Z B0 s h H) (hS : va_S (fun q => B0 ≤ q) s.heap H locs) : ∀ U : State, U.heap = H → s.WarmedH U.vm → zPre D Z B0 h vs vs.toArray U := by
  intro U hU hM
  refine ⟨rfl, ?_, ?_, zK.moved hM X.2.2.2.2.1⟩
  · rw [hU]
    exact Nat.le_trans X.2.2.2.2.2.2.2.2 hS.1
  · rw [hU]
    exact zW.moved hM.alike hW
section ZR4
variable {M : zM} {d pc p0 p1 p2 p3 pT pF pE : Nat}
/-! lists of arguments -/
def aN : zEA := fun _ h => some ([], h)
def aI (f : zEI) (g : zEA) : zEA := fun en h => (f en h).bind fun a => (g en a.2).map fun b => (.int a.1 :: b.1, b.2)
def aR (f : zER) (g : zEA) : zEA := fun en h => (f en h).bind fun a => (g en a.2).map fun b => (.ref a.1 :: b.1, b.2)
theorem kaN : eaOk M d pc pc 0 aN := by
  intro x X k n Q h en st v h' hv hs
  cases hv
  exact ⟨⟨rfl, fun w hw => by cases hw⟩, fun q => q⟩
theorem kaI {f : zEI} {g : zEA} {N : Nat} (hf : eiOk M d pc p1 f) (hg : eaOk M (d + 1) p1 p2 N g) : eaOk M d pc p2 (N + 1) (aI f g) := by
  intro x X k n Q h en st v h' hv hs
  simp only [aI, Option.bind_eq_some_iff, Option.map_eq_some_iff] at hv
  obtain ⟨⟨a, h1⟩, e1, ⟨b, h2⟩, e2, e3⟩ := hv
  cases e3
  obtain ⟨⟨q1, q2⟩, q3⟩ := hg x X k n Q h1 en (.int a :: st) b h2 e2 (zcat_int hs)
  refine ⟨⟨by simp [q1], fun w hw => ?_⟩, fun q => hf x X k n Q h en st a h1 e1 hs (q3 (by simpa using q))⟩
  rcases List.mem_cons.mp hw with z | z
  · rw [z]; rfl
  · exact q2 w z
theorem kaR {f : zER} {g : zEA} {N : Nat} (hf : erOk M d pc p1 f) (hg : eaOk M (d + 1) p1 p2 N g) : eaOk M d pc p2 (N + 1) (aR f g) := by
  intro x X k n Q h en st v h' hv hs
  simp only [aR, Option.bind_eq_some_iff, Option.map_eq_some_iff] at hv
  obtain ⟨⟨a, h1⟩, e1, ⟨b, h2⟩, e2, e3⟩ := hv
  cases e3
  obtain ⟨⟨q1, q2⟩, q3⟩ := hg x X k n Q h1 en (.ref a :: st) b h2 e2 (zcat_ref hs)
  refine ⟨⟨by simp [q1], fun w hw => ?_⟩, fun q => hf x X k n Q h en st a h1 e1 hs (q3 (by simpa using q))⟩
  rcases List.mem_cons.mp hw with z | z
  · rw [z]; rfl
  · exact q2 w z
/-! calls of static methods -/
def eCS (f : zEA) (fn : zFI) : zEI := fun en h => (f en h).bind fun a => fn a.1 a.2
def sCS (f : zEA) (fn : zFV) : zSS := fun en h => (f en h).bind fun a => (fn a.1 a.2).map fun h' => .inl (en, h')
theorem kCS {y : MethodName} {cc : ByteArray} {maxL fr lo N idx : Nat} {ret : FieldType} {f : zEA} {fn : zFI} (hf : eaOk M d pc p1 N f) (hd : decode M.1 p1 = .ok (.invokestatic idx, 3)) (ct : CtI y cc maxL ret fr lo N fn) (hm : zMd y cc maxL (some ret) N) (hst : zHas (.static y)) (hl : zHas (.methodLink M.2.1 idx y)) (hR : fr + 1 ≤ M.2.2.2.2.1.frames ∧ 8 + (maxL + 11) + lo ≤ M.2.2.2.2.1.locals) (hd8 : d ≤ 8) : eiOk M d pc (p1 + 3) (eCS f fn) := by
  intro x X k n Q h en st v h' hv hs q
  simp only [eCS, Option.bind_eq_some_iff] at hv
  obtain ⟨⟨vs, h1⟩, e1, e2⟩ := hv
  obtain ⟨⟨q1, q2⟩, q3⟩ := hf x X k n Q h en st vs h1 e1 hs
  refine q3 ?_
  obtain ⟨p, l, e, s, m, args, below, meth, c, D, Z, B0⟩ := x
  intro hkn H locs ls hW hS hl'
  exact va_calli (va_runS (As := vs) (rest := st) (Ts := []) ⟨X.1, X.2.1, X.2.2.1, X.2.2.2.1, fun w hw => by cases hw⟩ (ct l D Z B0 h1 vs v h' q1 q2 e2) ⟨zCallB X.2.2.2.2.1 hm hl hR, X.2.2.2.2.1.ts args hst⟩ ⟨zPre.blind, zPre.at X hW hS⟩ rfl q1 hl'.1 rfl (lv_room (Nat.le_trans hs hd8)) hd hkn) hS (fun q _ h => h) (fun q h => h) (fun r u t H1 locs1 ht hvm hp hb hz hk hS1 => by
    rw [hp]
    exact q hkn H1 locs1 ls (by rw [← ht]; exact zW.moved hvm.symm hb) hS1 hl')
theorem ksCS {y : MethodName} {cc : ByteArray} {maxL fr lo N idx : Nat} {f : zEA} {fn : zFV} (hf : eaOk M 0 pc p1 N f) (hd : decode M.1 p1 = .ok (.invokestatic idx, 3)) (ct : CtV y cc maxL fr 0 0 lo N fn) (hm : zMd y cc maxL none N) (hst : zHas (.static y)) (hl : zHas (.methodLink M.2.1 idx y)) (hR : fr + 1 ≤ M.2.2.2.2.1.frames ∧ 8 + (maxL + 11) + lo ≤ M.2.2.2.2.1.locals) : ssOk M pc (p1 + 3) (sCS f fn) := by
  intro x X k n Q h en r hv q
  simp only [sCS, Option.bind_eq_some_iff, Option.map_eq_some_iff] at hv
  obtain ⟨⟨vs, h1⟩, e1, h2, e2, e3⟩ := hv
  subst e3
  obtain ⟨⟨q1, q2⟩, q3⟩ := hf x X k n Q h en [] vs h1 e1 (Nat.zero_le _)
  refine q3 ?_
  obtain ⟨p, l, e, s, m, args, below, meth, c, D, Z, B0⟩ := x
  intro hkn H locs ls hW hS hl'
  exact va_callv (va_runS (As := vs) (rest := []) (Ts := []) ⟨X.1, X.2.1, X.2.2.1, X.2.2.2.1, fun w hw => by cases hw⟩ (ct l D Z B0 h1 vs h2 q1 q2 e2) ⟨zCallB X.2.2.2.2.1 hm hl hR, X.2.2.2.2.1.ts args hst⟩ ⟨zPre.blind, zPre.at X hW hS⟩ rfl q1 hl'.1 rfl (lv_room (Nat.zero_le _)) hd hkn) hS (fun q _ h => h) (fun q h => h) (fun u t H1 locs1 ht hvm hp hb hz hk hS1 => by
    exact q hkn H1 locs1 ls (by rw [← ht]; exact zW.moved hvm.symm hb) hS1 hl')
/-! calls of methods of objects -/
def eCV (ci : Nat) (o : zER) (f : zEA) (fn : zFI) : zEI := fun en h => (o en h).bind fun a => (f en a.2).bind fun b => if isO b.2 ci a.1 = true then fn (.ref a.1 :: b.1) b.2 else none
def sCV (ci : Nat) (o : zER) (f : zEA) (fn : zFV) : zSS := fun en h => (o en h).bind fun a => (f en a.2).bind fun b => if isO b.2 ci a.1 = true then (fn (.ref a.1 :: b.1) b.2).map fun h' => .inl (en, h') else none
theorem kCV {y : MethodName} {cc : ByteArray} {maxL fr lo N NN idx ci : Nat} {ret : FieldType} {C : String} {T : u_T} {ty : Nat → FieldType} {o : zER} {f : zEA} {fn : zFI} (ho : erOk M d pc p0 o) (hf : eaOk M (d + 1) p0 p1 N f) (hd : decode M.1 p1 = .ok (.invokevirtual idx, 3)) (ct : CtI y cc maxL ret fr lo (N + 1) fn) (hm : zMd y cc maxL (some ret) N) (hin : zHas (.instanceMethod y)) (hse : zHas (.selects C y y)) (hc : zCl ci C T NN ty) (hl : zHas (.methodLink M.2.1 idx y)) (hR : fr + 1 ≤ M.2.2.2.2.1.frames ∧ 8 + (maxL + 11) + lo ≤ M.2.2.2.2.1.locals) (hd8 : d ≤ 8) : eiOk M d pc (p1 + 3) (eCV ci o f fn) := by
  intro x X k n Q h en st v h' hv hs q
  simp only [eCV, Option.bind_eq_some_iff] at hv
  obtain ⟨⟨a, h0⟩, e0, ⟨vs, h1⟩, e1, e2⟩ := hv
  split at e2
  case isFalse => cases e2
  case isTrue hio =>
  obtain ⟨fs, hfs⟩ := isO_spec hio
  refine ho x X k n Q h en st a h0 e0 hs ?_
  obtain ⟨⟨q1, q2⟩, q3⟩ := hf x X k n Q h0 en (.ref a :: st) vs h1 e1 (zcat_ref hs)
  refine q3 ?_
  obtain ⟨p, l, e, s, m, args, below, meth, c, D, Z, B0⟩ := x
  intro hkn H locs ls hW hS hl'
  exact va_calli (va_runV (As := vs) (rest := st) (b := a) (C := C) (Ts := []) ⟨X.1, X.2.1, X.2.2.1, X.2.2.2.1, fun w hw => by cases hw⟩ (ct l D Z B0 h1 (.ref a :: vs) v h' (by simp [q1]) (fun w hw => by
    rcases List.mem_cons.mp hw with z | z
    · rw [z]; rfl
    · exact q2 w z) e2) ⟨zCallB X.2.2.2.2.1 hm hl hR, X.2.2.2.2.1.ts args hin, X.2.2.2.2.1.ts args hse⟩ ⟨zPre.blind, va_recv (cl := vwCl) (ws := [(a, .inr (ci, fs))]) X.2.2.2.2.1.1 (va_P1 (hW.2 a _ hfs).1) (q := (C, T, NN)) (q0 := 0) hc.1 rfl, zPre.at X hW hS⟩ rfl q1 hl'.1 rfl (lv_room (Nat.le_trans hs hd8)) hd hkn) hS (fun q _ h => h) (fun q h => h) (fun r u t H1 locs1 ht hvm hp hb hz hk hS1 => by
    rw [hp]
    exact q hkn H1 locs1 ls (by rw [← ht]; exact zW.moved hvm.symm hb) hS1 hl')
theorem ksCV {y : MethodName} {cc : ByteArray} {maxL fr lo N NN idx ci : Nat} {C : String} {T : u_T} {ty : Nat → FieldType} {o : zER} {f : zEA} {fn : zFV} (ho : erOk M 0 pc p0 o) (hf : eaOk M 1 p0 p1 N f) (hd : decode M.1 p1 = .ok (.invokevirtual idx, 3)) (ct : CtV y cc maxL fr 0 0 lo (N + 1) fn) (hm : zMd y cc maxL none N) (hin : zHas (.instanceMethod y)) (hse : zHas (.selects C y y)) (hc : zCl ci C T NN ty) (hl : zHas (.methodLink M.2.1 idx y)) (hR : fr + 1 ≤ M.2.2.2.2.1.frames ∧ 8 + (maxL + 11) + lo ≤ M.2.2.2.2.1.locals) : ssOk M pc (p1 + 3) (sCV ci o f fn) := by
  intro x X k n Q h en r hv q
  simp only [sCV, Option.bind_eq_some_iff] at hv
  obtain ⟨⟨a, h0⟩, e0, ⟨vs, h1⟩, e1, e2⟩ := hv
  split at e2
  case isFalse => cases e2
  case isTrue hio =>
  obtain ⟨h2, e3, e4⟩ := Option.map_eq_some_iff.mp e2
  subst e4
  obtain ⟨fs, hfs⟩ := isO_spec hio
  refine ho x X k n Q h en [] a h0 e0 (Nat.zero_le _) ?_
  obtain ⟨⟨q1, q2⟩, q3⟩ := hf x X k n Q h0 en (.ref a :: []) vs h1 e1 (zcat_ref (d := 0) (Nat.le_refl _))
  refine q3 ?_
  obtain ⟨p, l, e, s, m, args, below, meth, c, D, Z, B0⟩ := x
  intro hkn H locs ls hW hS hl'
  exact va_callv (va_runV (As := vs) (rest := []) (b := a) (C := C) (Ts := []) ⟨X.1, X.2.1, X.2.2.1, X.2.2.2.1, fun w hw => by cases hw⟩ (ct l D Z B0 h1 (.ref a :: vs) h2 (by simp [q1]) (fun w hw => by
    rcases List.mem_cons.mp hw with z | z
    · rw [z]; rfl
    · exact q2 w z) e3) ⟨zCallB X.2.2.2.2.1 hm hl hR, X.2.2.2.2.1.ts args hin, X.2.2.2.2.1.ts args hse⟩ ⟨zPre.blind, va_recv (cl := vwCl) (ws := [(a, .inr (ci, fs))]) X.2.2.2.2.1.1 (va_P1 (hW.2 a _ hfs).1) (q := (C, T, NN)) (q0 := 0) hc.1 rfl, zPre.at X hW hS⟩ rfl q1 hl'.1 rfl (lv_room (Nat.zero_le _)) hd hkn) hS (fun q _ h => h) (fun q h => h) (fun u t H1 locs1 ht hvm hp hb hz hk hS1 => by
    exact q hkn H1 locs1 ls (by rw [← ht]; exact zW.moved hvm.symm hb) hS1 hl')
/-- Math.min -/
def eMin (f g : zEI) : zEI := fun en h => (f en h).bind fun a => (g en a.2).bind fun b => some (if b.1 < a.1 then b.1 else a.1, b.2)
theorem kMin {f g : zEI} {idx : Nat} (hf : eiOk M d pc p1 f) (hg : eiOk M (d + 1) p1 p2 g) (hd : decode M.1 p2 = .ok (.invokestatic idx, 3)) (hl : zHas (.methodLink M.2.1 idx Lib.Math.min.name)) (h1 : zHas (.static Lib.Math.min.name)) (h2 : zHas (.initialized "java/lang/Math")) (h3 : zHas (.code Lib.Math.min.name Lib.Math.min.code 2 (some .int))) (hR : 1 ≤ M.2.2.2.2.1.frames ∧ d + 13 ≤ M.2.2.2.2.1.locals) : eiOk M d pc (p2 + 3) (eMin f g) := by
  intro x X k n Q h en st v' h' hv hs q
  simp only [eMin, Option.bind_eq_some_iff] at hv
  obtain ⟨⟨a, w1⟩, e1, ⟨b, w2⟩, e2, e3⟩ := hv
  cases e3
  refine hf x X k n Q h en st a w1 e1 hs (hg x X k n Q w1 en _ b _ e2 (zcat_int hs) ?_)
  obtain ⟨p, l, e, s, m, args, below, meth, c, D, Z, B0⟩ := x
  intro hkn H locs ls hW hS hl'
  have hK := X.2.2.2.2.1
  exact va_mmin X.1 X.2.1 (X.2.2.1.trans hl'.1.symm) X.2.2.2.1 (hK.ts args hl) (hK.ts args h1) (hK.ts args h2) (hK.ts args h3) hR.1 (by have := hR.2; simp only [zcat] at hs; omega) hkn.1 hkn.2 hd (q hkn H locs ls hW hS hl')
end ZR4
/-! from a body to a contract -/
theorem lv_args_mem : ∀ (vs : List Value) (i0 : Nat), (∀ w ∈ vs, w.category = 1) → ∀ (i : Nat) (v : Value), vs[i]? = some v → (i0 + i, v) ∈ lv_args i0 vs
  | [], _, _, i, v, h => by simp at h
  | a :: vs, i0, hc, i, v, h => by
    have ha : a.category = 1 := hc a List.mem_cons_self
    simp only [lv_args, ha]
    cases i with
    | zero =>
      simp at h
      subst h
      exact List.mem_cons_self
    | succ i =>
      refine List.mem_cons_of_mem _ ?_
      have := lv_args_mem vs (i0 + 1) (fun w hw => hc w (List.mem_cons_of_mem _ hw)) i v (by simpa using h)
      rw [show i0 + (i + 1) = i0 + 1 + i by omega]
      simpa using this
theorem lg_sl_len : ∀ (vs : List Value), (∀ w ∈ vs, w.category = 1) → (lg_sl vs).length = vs.length
  | [], _ => rfl
  | a :: vs, hc => by
    have ha : a.category = 1 := hc a List.mem_cons_self
    have := lg_sl_len vs (fun w hw => hc w (List.mem_cons_of_mem _ hw))
    simp only [lg_sl, List.flatMap_cons, ha] at *
    simp [this]
theorem zL.entry {vs : List Value} {n : Nat} (hc : ∀ w ∈ vs, w.category = 1) (hn : vs.length ≤ n) : zL ((lg_sl vs ++ List.replicate (n - (lg_sl vs).length) Slot.unset).toArray) n vs := by
  have h := lv_entry vs (n := n) (by rw [lg_sl_len vs hc]; exact hn)
  refine ⟨h.1, h.2.1, fun i v hv _ => h.2.2 (i, v) (by have := lv_args_mem vs 0 hc i v hv; simpa using this)⟩
/-- what a method of a body says -/
def mI (f : zSS) : zFI := fun vs h => (f vs h).bind fun r => match r with
  | .inr (some v, h') => some (v, h')
  | _ => none
def mZ (f : zSS) : zFI := fun vs h => (f vs h).bind fun r => match r with
  | .inr (some v, h') => if v = 0 ∨ v = 1 then some (v, h') else none
  | _ => none
def mV (f : zSS) : zFV := fun vs h => (f vs h).bind fun r => match r with
  | .inr (none, h') => some h'
  | _ => none
theorem mI_spec {f : zSS} {vs : List Value} {h h' : zH} {v : Int32} (hf : mI f vs h = some (v, h')) : f vs h = some (.inr (some v, h')) := by
  simp only [mI, Option.bind_eq_some_iff] at hf
  obtain ⟨r, e1, e2⟩ := hf
  rw [e1]
  split at e2
  · cases e2; rfl
  · cases e2
theorem mZ_spec {f : zSS} {vs : List Value} {h h' : zH} {v : Int32} (hf : mZ f vs h = some (v, h')) : f vs h = some (.inr (some v, h')) ∧ (v = 0 ∨ v = 1) := by
  simp only [mZ, Option.bind_eq_some_iff] at hf
  obtain ⟨r, e1, e2⟩ := hf
  rw [e1]
  split at e2
  · split at e2
    · rename_i hz
      cases e2; exact ⟨rfl, hz⟩
    · cases e2
  · cases e2
theorem mV_spec {f : zSS} {vs : List Value} {h h' : zH} (hf : mV f vs h = some h') : f vs h = some (.inr (none, h')) := by
  simp only [mV, Option.bind_eq_some_iff] at hf
  obtain ⟨r, e1, e2⟩ := hf
  rw [e1]
  split at e2
  · cases e2; rfl
  · cases e2
theorem ctI {y : MethodName} {cc : ByteArray} {maxL fr lo N np pE : Nat} {f : zSS} (hm : zMd y cc maxL (some .int) np) (hN : N ≤ maxL) (hs : ssOk (cc, y.cls, maxL, some .int, { frames := fr, cells := 0, slots := 0, locals := lo }, false) 0 pE f) : CtI y cc maxL .int fr lo N (mI f) := by
  intro l D Z B0 h vs v h' hlen hcat hf
  refine Met.ofW (cc := cc) (maxL := maxL) (ret := some .int) hm.2.2.2.2 rfl ?_
  intro p e s m args below meth c s₁ B hml hv
  obtain ⟨rfl, hB0, hW, hK⟩ := hv
  have X : zCx (cc, y.cls, maxL, some .int, { frames := fr, cells := 0, slots := 0, locals := lo }, false) (p, l, e, s, m, vs.toArray, below, meth, c, D, Z, B0) := ⟨B.exec, B.bytes, hml, findClass_of_methodNamed B.named, hK, B.returns, B.notSynchronized, fun z => absurd z Bool.false_ne_true, hB0⟩
  rw [lg_entry_eq]
  have g := hs _ X 0 0 (MQ below (zPoI D Z B0 v h') vs.toArray s 0 0 (fun q => B0 ≤ q)) h vs _ (mI_spec hf) (by
    intro pc hd hkn H locs ls hW hS hl
    exact W.iret X.1 X.2.1 B.returns (fun t ht hM => ⟨⟨v, (), rfl, rfl, zW.moved hM.alike (show zW D Z B0 s h' t.heap by rw [ht]; exact hW)⟩, hS.F ht⟩) hS.2.2 hd B.notSynchronized)
  exact g ⟨Nat.le_refl _, Nat.le_refl _⟩ s.heap [] _ hW va_S.rf (zL.entry hcat (by omega))
theorem ctZ {y : MethodName} {cc : ByteArray} {maxL fr lo N np pE : Nat} {f : zSS} (hm : zMd y cc maxL (some .boolean) np) (hN : N ≤ maxL) (hs : ssOk (cc, y.cls, maxL, some .boolean, { frames := fr, cells := 0, slots := 0, locals := lo }, false) 0 pE f) : CtI y cc maxL .boolean fr lo N (mZ f) := by
  intro l D Z B0 h vs v h' hlen hcat hf
  refine Met.ofW (cc := cc) (maxL := maxL) (ret := some .boolean) hm.2.2.2.2 rfl ?_
  intro p e s m args below meth c s₁ B hml hv
  obtain ⟨rfl, hB0, hW, hK⟩ := hv
  have X : zCx (cc, y.cls, maxL, some .boolean, { frames := fr, cells := 0, slots := 0, locals := lo }, false) (p, l, e, s, m, vs.toArray, below, meth, c, D, Z, B0) := ⟨B.exec, B.bytes, hml, findClass_of_methodNamed B.named, hK, B.returns, B.notSynchronized, fun z => absurd z Bool.false_ne_true, hB0⟩
  rw [lg_entry_eq]
  obtain ⟨hf1, hf2⟩ := mZ_spec hf
  have g := hs _ X 0 0 (MQ below (zPoI D Z B0 v h') vs.toArray s 0 0 (fun q => B0 ≤ q)) h vs _ hf1 (by
    intro pc hd hkn H locs ls hW hS hl
    exact W.zret (ty := .boolean) X.1 X.2.1 B.returns (by rcases hf2 with z | z <;> (rw [z]; rfl)) (fun t ht hM => ⟨⟨v, (), rfl, rfl, zW.moved hM.alike (show zW D Z B0 s h' t.heap by rw [ht]; exact hW)⟩, hS.F ht⟩) hS.2.2 hd B.notSynchronized)
  exact g ⟨Nat.le_refl _, Nat.le_refl _⟩ s.heap [] _ hW va_S.rf (zL.entry hcat (by omega))
theorem ctV {y : MethodName} {cc : ByteArray} {maxL fr lo N np pE : Nat} {f : zSS} (hm : zMd y cc maxL none np) (hN : N ≤ maxL) (hs : ssOk (cc, y.cls, maxL, none, { frames := fr, cells := 0, slots := 0, locals := lo }, false) 0 pE f) : CtV y cc maxL fr 0 0 lo N (mV f) := by
  intro l D Z B0 h vs h' hlen hcat hf
  refine Met.ofW (cc := cc) (maxL := maxL) (ret := none) hm.2.2.2.2 rfl ?_
  intro p e s m args below meth c s₁ B hml hv
  obtain ⟨rfl, hB0, hW, hK⟩ := hv
  have X : zCx (cc, y.cls, maxL, none, { frames := fr, cells := 0, slots := 0, locals := lo }, false) (p, l, e, s, m, vs.toArray, below, meth, c, D, Z, B0) := ⟨B.exec, B.bytes, hml, findClass_of_methodNamed B.named, hK, B.returns, B.notSynchronized, fun z => absurd z Bool.false_ne_true, hB0⟩
  rw [lg_entry_eq]
  have g := hs _ X 0 0 (MQ below (zPoV D Z B0 h') vs.toArray s 0 0 (fun q => B0 ≤ q)) h vs _ (mV_spec hf) (by
    intro pc hd hkn H locs ls hW hS hl
    exact W.vret X.1 X.2.1 B.returns (fun t ht hM => ⟨⟨(), rfl, trivial, zW.moved hM.alike (show zW D Z B0 s h' t.heap by rw [ht]; exact hW)⟩, hS.F ht⟩) hS.2.2 hd B.notSynchronized)
  exact g ⟨Nat.le_refl _, Nat.le_refl _⟩ s.heap [] _ hW va_S.rf (zL.entry hcat (by omega))
