/-! ROWS: what makes cells (constructors, and the law's start) -/
def saOk (M : zM) (pc pc' kc kn : Nat) (f : zSS) : Prop := ∀ x, zCx M x → ∀ (k n : Nat) (Q : State → Prop) (h : zH) (en en' : List Value) (h' : zH), f en h = some (.inl (en', h')) → k + kc ≤ M.2.2.2.2.1.cells → n + kn ≤ M.2.2.2.2.1.slots → zG M x (k + kc) (n + kn) Q h' en' pc' [] → zG M x k n Q h en pc []
def rnOk (M : zM) (d pc pc' kc kn : Nat) (f : zER) : Prop := ∀ x, zCx M x → ∀ (k n : Nat) (Q : State → Prop) (h : zH) (en st : List Value) (v : Nat) (h' : zH), f en h = some (v, h') → zcat st ≤ d → k + kc ≤ M.2.2.2.2.1.cells → n + kn ≤ M.2.2.2.2.1.slots → zG M x (k + kc) (n + kn) Q h' en pc' (.ref v :: st) → zG M x k n Q h en pc st
section ZR5
variable {M : zM} {d pc p0 p1 p2 p3 pT pF pE : Nat}
theorem zG.widen {x : zC} {k n k' n' : Nat} {Q : State → Prop} {h : zH} {en st : List Value} (h1 : k ≤ k') (h2 : n ≤ n') (hk : k' ≤ M.2.2.2.2.1.cells) (hn : n' ≤ M.2.2.2.2.1.slots) (g : zG M x k' n' Q h en pc st) : zG M x k n Q h en pc st := by
  obtain ⟨p, l, e, s, m, args, below, meth, c, D, Z, B0⟩ := x
  intro hkn H locs ls hW hS hl
  exact W.widen h1 h2 (g ⟨hk, hn⟩ H locs ls hW hS hl)
theorem rn_er {f : zER} (hf : erOk M d pc p1 f) : rnOk M d pc p1 0 0 f := fun x X k n Q h en st v h' hv hs _ _ q => hf x X k n Q h en st v h' hv hs q
theorem sa_ss {f : zSS} (hf : ssOk M pc p1 f) : saOk M pc p1 0 0 f := fun x X k n Q h en en' h' hv _ _ q => hf x X k n Q h en _ hv q
theorem saSeq {f g : zSS} {kc kn kc' kn' : Nat} (hf : saOk M pc p1 kc kn f) (hg : saOk M p1 p2 kc' kn' g) : saOk M pc p2 (kc + kc') (kn + kn') (sSeq f g) := by
  intro x X k n Q h en en' h' hv h1 h2 q
  simp only [sSeq, Option.bind_eq_some_iff] at hv
  obtain ⟨r1, e1, e2⟩ := hv
  cases r1 with
  | inr z => cases e2
  | inl z =>
    refine hf x X k n Q h en z.1 z.2 e1 (by omega) (by omega) (hg x X (k + kc) (n + kn) Q z.2 z.1 en' h' e2 (by omega) (by omega) ?_)
    rw [Nat.add_assoc, Nat.add_assoc]
    exact q
theorem saBlk {f : zSS} {kc kn : Nat} (hf : saOk M pc p1 kc kn f) : saOk M pc p1 kc kn (sBlk f) := by
  intro x X k n Q h en en' h' hv h1 h2 q
  simp only [sBlk, Option.map_eq_some_iff] at hv
  obtain ⟨r1, e1, e2⟩ := hv
  cases r1 with
  | inr z => cases e2
  | inl z =>
    cases e2
    exact hf x X k n Q h en z.1 z.2 e1 h1 h2 (zG.take _ q)
theorem saGo {f : zSS} {kc kn : Nat} {off : Int} (hf : saOk M pc p1 kc kn f) (hd : decode M.1 p1 = .ok (.goto off, 3)) (ht : (p1 : Int) + off = (p2 : Int)) : saOk M pc p2 kc kn f := by
  intro x X k n Q h en en' h' hv h1 h2 q
  refine hf x X k n Q h en en' h' hv h1 h2 ?_
  obtain ⟨p, l, e, s, m, args, below, meth, cc, D, Z, B0⟩ := x
  intro hkn H locs ls hW hS hl
  exact lv_goto X.1 X.2.1 hd ht (q hkn H locs ls hW hS hl)
theorem saW {c : zEB} {f : zSS} {kc kn : Nat} (hc : ebOk M 0 pc pT pE c) (hf : saOk M pT pc kc kn f) : ∀ N : Nat, saOk M pc pE (N * kc) (N * kn) (sW N c f)
  | 0 => fun x X k n Q h en en' h' hv _ _ q => by simp [sW] at hv
  | N + 1 => fun x X k n Q h en en' h' hv h1 h2 q => by
    simp only [sW, Option.bind_eq_some_iff] at hv
    obtain ⟨⟨a, w1⟩, e1, e2⟩ := hv
    refine hc x X k n Q h en [] a w1 e1 (Nat.zero_le _) ?_
    cases a with
    | false =>
      simp at e2
      obtain ⟨rfl, rfl⟩ := e2
      exact zG.widen (Nat.le_add_right _ _) (Nat.le_add_right _ _) h1 h2 q
    | true =>
      simp only [if_true, Option.bind_eq_some_iff] at e2
      obtain ⟨r1, e3, e4⟩ := e2
      cases r1 with
      | inr z => cases e4
      | inl z =>
        rw [Nat.succ_mul] at h1 h2 q
        rw [Nat.succ_mul] at q
        refine hf x X k n Q w1 en z.1 z.2 e3 (by omega) (by omega) (zG.take en.length (saW hc hf N x X (k + kc) (n + kn) Q z.2 _ en' h' e4 (by omega) (by omega) ?_))
        rw [show k + kc + N * kc = k + (N * kc + kc) by omega, show n + kn + N * kn = n + (N * kn + kn) by omega]
        exact q
/-- new int[n] -/
def rNA (nn : Nat) (c : zEI) : zER := fun en h => (c en h).bind fun a => if a.1 = nI nn then some (a.2.1, (a.2.1 + 1, va_up a.2.2 a.2.1 (some (xI nn (fun _ => 0))))) else none
theorem kNA {c : zEI} {nn : Nat} (hc : eiOk M d pc p1 c) (hd : decode M.1 p1 = .ok (.newarray .int, 2)) (hnn : nn ≤ 4000) (ha : zHas (.arrayClass .int)) : rnOk M d pc (p1 + 2) 1 nn (rNA nn c) := by
  intro x X k n Q h en st v h' hv hs h1 h2 q
  simp only [rNA, Option.bind_eq_some_iff] at hv
  obtain ⟨⟨a, w⟩, e1, e2⟩ := hv
  split at e2
  case isFalse => cases e2
  case isTrue hz =>
  dsimp only at hz e2
  cases e2
  subst hz
  refine hc x X k n Q h en st _ w e1 hs ?_
  obtain ⟨p, l, e, s, m, args, below, meth, c, D, Z, B0⟩ := x
  intro hkn H locs ls hW hS hl
  refine va_newaK (atype := .int) X.1 X.2.1 (X.2.2.2.2.1.ts args ha) rfl hd rfl (nI_pos (by omega)) (nI_clamp (by omega)) (by show nn * 4 ≤ _; omega) h1 h2 rfl (fun H1 cA g1 g2 g3 _ g4 => ?_)
  have hcA : cA = Z 100 := Option.some.inj (g4.symm.trans (X.2.2.2.2.1.1.2 0 _ rfl).2)
  subst hcA
  have hB : B0 ≤ H.size := Nat.le_trans X.2.2.2.2.2.2.2.2 hS.1
  have hP := hW.push (y := xI nn (fun _ => 0)) g2 g3 (by show H1[H.size]? = some (vp_cell _ _); rw [g1]; rfl) hB
  rw [hW.1]
  exact q ⟨h1, h2⟩ H1 locs ls hP ⟨by rw [g2]; exact Nat.le_trans hS.1 (Nat.le_succ _), fun z q1 q2 => (g3 z (Nat.lt_of_lt_of_le q1 hS.1)).trans (hS.2.1 z q1 q2), hS.2.2⟩ hl
/-- new C[n] -/
def rNR (ci nn : Nat) (c : zEI) : zER := fun en h => (c en h).bind fun a => if a.1 = nI nn then some (a.2.1, (a.2.1 + 1, va_up a.2.2 a.2.1 (some (xR ci nn (fun _ => none))))) else none
theorem kNR {c : zEI} {nn ci idx : Nat} {C : String} (hc : eiOk M d pc p1 c) (hd : decode M.1 p1 = .ok (.anewarray idx, 3)) (hnn : nn ≤ 4000) (ha : Cond.arrayOver (.object C) ∈ lw_tbl) (hl0 : zHas (.classLink M.2.1 idx C)) (hC : (ci = 3 ∧ C = RX3) ∨ (ci = 4 ∧ C = RX4) ∨ (ci = 5 ∧ C = RX5)) : rnOk M d pc (p1 + 3) 1 nn (rNR ci nn c) := by
  intro x X k n Q h en st v h' hv hs h1 h2 q
  simp only [rNR, Option.bind_eq_some_iff] at hv
  obtain ⟨⟨a, w⟩, e1, e2⟩ := hv
  split at e2
  case isFalse => cases e2
  case isTrue hz =>
  dsimp only at hz e2
  cases e2
  subst hz
  refine hc x X k n Q h en st _ w e1 hs ?_
  obtain ⟨p, l, e, s, m, args, below, meth, c, D, Z, B0⟩ := x
  intro hkn H locs ls hW hS hl
  obtain ⟨t0, ht0⟩ := zTys_at (Z := Z) hC
  have hcl : (nI nn).toNatClampNeg = nn := nI_clamp (by omega)
  refine W.anew X.1 X.2.1 X.2.2.2.1 (X.2.2.2.2.1.ts args hl0) (va_AO.use (X.2.2.2.2.1.2.2.2 C ha)) rfl hd rfl (nI_pos (by omega)) (by rw [hcl]; omega) h1 (by rw [hcl]; exact h2) (fun cA kA comp f1 f2 f3 f4 => ?_)
  rw [hcl]
  obtain ⟨-, kA', comp', -, -, -, f5⟩ := X.2.2.2.2.1.1.2 t0 _ ht0
  have hcA : cA = Z ci := Option.some.inj (f1.symm.trans f5)
  subst hcA
  generalize hH1 : H.push ({ cls := Z ci, slots := Array.replicate nn .null, vm := .none } : Cell) = H1
  have z1 : H1.size = H.size + 1 := by rw [← hH1, Array.size_push]
  have e1' : H1[H.size]? = some (arrV (Z ci) nn (fun _ => .null)) := by rw [← hH1, Array.getElem?_push_size, ← arrV_new]
  have o1 : ∀ q : Nat, q < H.size → H1[q]? = H[q]? := fun q hq => by rw [← hH1, Array.getElem?_push, if_neg (Nat.ne_of_lt hq)]
  have hB : B0 ≤ H.size := Nat.le_trans X.2.2.2.2.2.2.2.2 hS.1
  have hP := hW.push (y := xR ci nn (fun _ => none)) z1 o1 (by show H1[H.size]? = some (vp_cell _ _); rw [e1']; rfl) hB
  rw [hW.1]
  exact q ⟨h1, h2⟩ H1 locs ls hP ⟨by rw [z1]; exact Nat.le_trans hS.1 (Nat.le_succ _), fun z q1 q2 => (o1 z (Nat.lt_of_lt_of_le q1 hS.1)).trans (hS.2.1 z q1 q2), hS.2.2⟩ hl
/-- new C(..) -/
def rNw (ci : Nat) (fs0 : List Value) (f : zEA) (fn : zFV) : zER := fun en h => (f en (h.1 + 1, va_up h.2 h.1 (some (xO ci fs0)))).bind fun b => (fn (.ref h.1 :: b.1) b.2).map fun h' => (h.1, h')
theorem kNw {y : MethodName} {cc : ByteArray} {maxL fr mc ms lo N NN idx idx2 ci : Nat} {C : String} {T : u_T} {ty : Nat → FieldType} {f : zEA} {fn : zFV} {fs0 : List Value} (hd0 : decode M.1 pc = .ok (.new idx, 3)) (hdup : decode M.1 (pc + 3) = .ok (.dup, 1)) (hf : eaOk M (d + 2) (pc + 4) p1 N f) (hd : decode M.1 p1 = .ok (.invokespecial idx2, 3)) (ct : CtV y cc maxL fr mc ms lo (N + 1) fn) (hm : zMd y cc maxL none N) (hy : y.cls = C) (hin : zHas (.instanceMethod y)) (hini : y.name = "<init>") (hc : zCl ci C T NN ty) (hfs : ∀ j, j < NN → defaultValue (ty j) = vp_V fs0 j) (hcl : zHas (.classLink M.2.1 idx C)) (hins : zHas (.instantiable C NN)) (hl : zHas (.methodLink M.2.1 idx2 y)) (hR : fr + 1 ≤ M.2.2.2.2.1.frames ∧ 8 + (maxL + 11) + lo ≤ M.2.2.2.2.1.locals) (hd8 : d + 1 ≤ 8) : rnOk M d pc (p1 + 3) (1 + mc) (NN + ms) (rNw ci fs0 f fn) := by
  intro x X k n Q h en st v h' hv hs h1 h2 q
  simp only [rNw, Option.bind_eq_some_iff, Option.map_eq_some_iff] at hv
  obtain ⟨⟨vs, w⟩, e1, h3, e2, e3⟩ := hv
  cases e3
  obtain ⟨⟨q1, q2⟩, q3⟩ := hf x X (k + 1) (n + NN) Q _ en (.ref h.1 :: .ref h.1 :: st) vs w e1 (zcat_ref (zcat_ref hs))
  obtain ⟨p, l, e, s, m, args, below, meth, c, D, Z, B0⟩ := x
  intro hkn H locs ls hW hS hl'
  have hK := X.2.2.2.2.1
  have hKn := hK.1.1 ci _ hc.1
  refine W.newcK X.1 X.2.1 X.2.2.2.1 (hK.ts args hcl) (hK.ts args hins) (by rw [← hy]; exact hK.ts args hm.2.1) rfl hd0 (by omega) (by omega) hKn.2.1 rfl (fun H1 kC hkC g1 z1 o1 => ?_)
  have hB : B0 ≤ H.size := Nat.le_trans X.2.2.2.2.2.2.2.2 hS.1
  have hP := hW.push (y := xO ci fs0) z1 o1 ⟨_, hc.1, (u_born (ws := u_ws C T NN) ty (fun w hw => hK.ts args (hc.2.1 w hw)) (fun _ hw => hw) hKn hkC g1 hc.2.2.1).to hfs⟩ hB
  have hS1 : va_S (fun q => B0 ≤ q) s.heap H1 locs := ⟨by rw [z1]; exact Nat.le_trans hS.1 (Nat.le_succ _), fun z q1 q2 => (o1 z (Nat.lt_of_lt_of_le q1 hS.1)).trans (hS.2.1 z q1 q2), hS.2.2⟩
  refine lv_dup X.1 X.2.1 hdup rfl ?_
  rw [hW.1]
  refine q3 ?_ ⟨by omega, by omega⟩ H1 locs ls hP hS1 hl'
  intro hkn2 H2 locs2 ls2 hW2 hS2 hl2
  exact va_callv (va_runI (As := vs) (rest := .ref h.1 :: st) (b := h.1) (Ts := []) ⟨X.1, X.2.1, X.2.2.1, X.2.2.2.1, fun w hw => by cases hw⟩ (ct l D Z B0 w (.ref h.1 :: vs) h' (by simp [q1]) (fun w hw => by
    rcases List.mem_cons.mp hw with z | z
    · rw [z]; rfl
    · exact q2 w z) e2) ⟨zCallB hK hm hl hR, hini, hK.ts args hin⟩ ⟨zPre.blind, zPre.at X hW2 hS2⟩ rfl q1 hl2.1 rfl (lv_room (Nat.le_trans (zcat_ref hs) hd8)) hd ⟨by omega, by omega⟩) hS2 (fun q _ h => h) (fun q h => h) (fun u t H3 locs3 ht hvm hp hb hz hk hS3 => by
    rw [show k + 1 + mc = k + (1 + mc) by omega, show n + NN + ms = n + (NN + ms) by omega]
    exact q ⟨h1, h2⟩ H3 locs3 ls2 (by rw [← ht]; exact zW.moved hvm.symm hb) hS3 hl2)
theorem kNwN {y : MethodName} {cc : ByteArray} {maxL fr mc ms lo N NN idx idx2 ci : Nat} {C : String} {T : u_T} {ty : Nat → FieldType} {f : zEA} {fn : zFV} {fs0 : List Value} (hd0 : decode M.1 pc = .ok (.new idx, 3)) (hdup : decode M.1 (pc + 3) = .ok (.dup, 1)) (hf : eaOk M (d + 2) (pc + 4) p1 N f) (hd : decode M.1 p1 = .ok (.invokespecial idx2, 3)) (ct : CtV y cc maxL fr mc ms lo (N + 1) fn) (hm : zMd y cc maxL none N) (hy : y.cls = C) (hin : zHas (.instanceMethod y)) (hini : y.name = "<init>") (hc : zCl ci C T NN ty) (hfs : ∀ j, j < NN → defaultValue (ty j) = vp_V fs0 j) (hcl : zHas (.classLink M.2.1 idx C)) (hins : zHas (.instantiable C NN)) {host : String} (hl : Cond.methodLinkNest M.2.1 idx2 y host ∈ lw_tbl) (hR : fr + 1 ≤ M.2.2.2.2.1.frames ∧ 8 + (maxL + 11) + lo ≤ M.2.2.2.2.1.locals) (hd8 : d + 1 ≤ 8) : rnOk M d pc (p1 + 3) (1 + mc) (NN + ms) (rNw ci fs0 f fn) := by
  intro x X k n Q h en st v h' hv hs h1 h2 q
  simp only [rNw, Option.bind_eq_some_iff, Option.map_eq_some_iff] at hv
  obtain ⟨⟨vs, w⟩, e1, h3, e2, e3⟩ := hv
  cases e3
  obtain ⟨⟨q1, q2⟩, q3⟩ := hf x X (k + 1) (n + NN) Q _ en (.ref h.1 :: .ref h.1 :: st) vs w e1 (zcat_ref (zcat_ref hs))
  obtain ⟨p, l, e, s, m, args, below, meth, c, D, Z, B0⟩ := x
  intro hkn H locs ls hW hS hl'
  have hK := X.2.2.2.2.1
  have hKn := hK.1.1 ci _ hc.1
  refine W.newcK X.1 X.2.1 X.2.2.2.1 (hK.ts args hcl) (hK.ts args hins) (by rw [← hy]; exact hK.ts args hm.2.1) rfl hd0 (by omega) (by omega) hKn.2.1 rfl (fun H1 kC hkC g1 z1 o1 => ?_)
  have hB : B0 ≤ H.size := Nat.le_trans X.2.2.2.2.2.2.2.2 hS.1
  have hP := hW.push (y := xO ci fs0) z1 o1 ⟨_, hc.1, (u_born (ws := u_ws C T NN) ty (fun w hw => hK.ts args (hc.2.1 w hw)) (fun _ hw => hw) hKn hkC g1 hc.2.2.1).to hfs⟩ hB
  have hS1 : va_S (fun q => B0 ≤ q) s.heap H1 locs := ⟨by rw [z1]; exact Nat.le_trans hS.1 (Nat.le_succ _), fun z q1 q2 => (o1 z (Nat.lt_of_lt_of_le q1 hS.1)).trans (hS.2.1 z q1 q2), hS.2.2⟩
  refine lv_dup X.1 X.2.1 hdup rfl ?_
  rw [hW.1]
  refine q3 ?_ ⟨by omega, by omega⟩ H1 locs ls hP hS1 hl'
  intro hkn2 H2 locs2 ls2 hW2 hS2 hl2
  exact va_callv (va_runIN (host := host) (As := vs) (rest := .ref h.1 :: st) (b := h.1) (Ts := []) ⟨X.1, X.2.1, X.2.2.1, X.2.2.2.1, fun w hw => by cases hw⟩ (ct l D Z B0 w (.ref h.1 :: vs) h' (by simp [q1]) (fun w hw => by
    rcases List.mem_cons.mp hw with z | z
    · rw [z]; rfl
    · exact q2 w z) e2) ⟨⟨⟨rfl, rfl, hR.1, hR.2, fun w hw a' U hW => by rw [List.mem_singleton.mp hw]; exact word_at hW (good_of_word hm.1.2) (hK.ts args hm.1), List.mem_cons_self⟩, hK.ts args hm.1, hK.ts args hm.2.1, hm.2.2.1, fun sig hsig => by have h4 := hm.2.2.2.1; rw [hsig] at h4; exact (Option.some.inj h4).symm, va_Nw.use rfl (hK.2.2.1 _ _ _ _ hl)⟩, hini, hK.ts args hin⟩ ⟨zPre.blind, zPre.at X hW2 hS2⟩ rfl q1 hl2.1 rfl (lv_room (Nat.le_trans (zcat_ref hs) hd8)) hd ⟨by omega, by omega⟩) hS2 (fun q _ h => h) (fun q h => h) (fun u t H3 locs3 ht hvm hp hb hz hk hS3 => by
    rw [show k + 1 + mc = k + (1 + mc) by omega, show n + NN + ms = n + (NN + ms) by omega]
    exact q ⟨h1, h2⟩ H3 locs3 ls2 (by rw [← ht]; exact zW.moved hvm.symm hb) hS3 hl2)
/-- this.f = a reference, of a final field, in a constructor -/
def sFr (ci k : Nat) (o f : zER) : zSS := fun en h => (o en h).bind fun a => (f en a.2).bind fun b => (wrO b.2 ci k a.1 (.ref b.1)).map fun h' => .inl (en, h')
theorem saFr {kc kn ci kf N idx : Nat} {C : String} {T : u_T} {ty : Nat → FieldType} {o f : zER} (ho : erOk M 0 pc p1 o) (hf : rnOk M 1 p1 p2 kc kn f) (hd : decode M.1 p2 = .ok (.putfield idx, 3)) (hc : zCl ci C T N ty) (hlk : zHas (Cond.fieldLink M.2.1 idx (T kf).1 (T kf).2.1 (T kf).2.2.1)) (hk : kf < N) (hfin : (T kf).2.2.2 = true) (hdecl : (T kf).1 = M.2.1) (hinit : M.2.2.2.2.2 = true) (hn : ∀ v, narrow (ty kf) (.ref v) = .ref v) (hfit : ∀ v, fits (ty kf) (.ref v) = true) : saOk M pc (p2 + 3) kc kn (sFr ci kf o f) := by
  intro x X k n Q h en en' h' hv h1 h2 g
  simp only [sFr, Option.bind_eq_some_iff, Option.map_eq_some_iff] at hv
  obtain ⟨⟨a, w1⟩, e1, ⟨b, w2⟩, e2, w3, e3, e4⟩ := hv
  cases e4
  obtain ⟨fs, g1, g2, rfl⟩ := wrO_spec e3
  refine ho x X k n Q h en [] a w1 e1 (Nat.zero_le _) (hf x X k n Q w1 en _ b w2 e2 (zcat_ref (d := 0) (Nat.le_refl _)) h1 h2 ?_)
  obtain ⟨p, l, e, s, m, args, below, meth, c, D, Z, B0⟩ := x
  intro hkn H locs ls hW hS hl
  exact zPutF X hW hS g1 g2 hc hlk hk hfin hdecl hinit (hn b) (hfit b) hd (fun H1 locs1 hW1 hS1 => g hkn H1 locs1 ls hW1 hS1 hl)
/-- a[i] = a new object -/
theorem saQ {kc kn ci N : Nat} {C : String} {T : u_T} {ty : Nat → FieldType} {o f : zER} {i : zEI} (ho : erOk M 0 pc p0 o) (hi : eiOk M 1 p0 p1 i) (hf : rnOk M 2 p1 p2 kc kn f) (hd : decode M.1 p2 = .ok (.aastore, 1)) (hC : (ci = 3 ∧ C = RX3) ∨ (ci = 4 ∧ C = RX4) ∨ (ci = 5 ∧ C = RX5)) (hc : zCl ci C T N ty) : saOk M pc (p2 + 1) kc kn (sQ ci o i f) := by
  intro x X k n Q h en en' h' hv h1 h2 g
  simp only [sQ, Option.bind_eq_some_iff, Option.map_eq_some_iff] at hv
  obtain ⟨⟨a, w1⟩, e1, ⟨b, w2⟩, e2, ⟨q, w3⟩, e3, w4, e4, e5⟩ := hv
  cases e5
  obtain ⟨NN, F, fs, g1, g2, g3, rfl⟩ := wrQ_spec e4
  refine ho x X k n Q h en [] a w1 e1 (Nat.zero_le _) (hi x X k n Q w1 en _ b w2 e2 (zcat_ref (d := 0) (Nat.le_refl _)) (hf x X k n Q w2 en _ q w3 e3 (zcat_int (zcat_ref (d := 0) (Nat.le_refl _))) h1 h2 ?_))
  obtain ⟨p, l, e, s, m, args, below, meth, c, D, Z, B0⟩ := x
  intro hkn H locs ls hW hS hl
  exact zPutQ X hW hS g1 g3 g2 hC hc hd (fun H1 locs1 hW1 hS1 => g hkn H1 locs1 ls hW1 hS1 hl)
/-- x = new .. -/
theorem saLr_n {kc kn : Nat} {f : zER} {kk : Fin 4} {j : Nat} (hf : rnOk M 0 pc p1 kc kn f) (hd : decode M.1 p1 = .ok (.astore_n kk, 1)) (hj : (kk : Nat) = j) (hn : j < M.2.2.1) : saOk M pc (p1 + 1) kc kn (sLr j f) := by
  intro x X k n Q h en en2 h2 hv g1 g2 g
  simp only [sLr, Option.bind_eq_some_iff, Option.map_eq_some_iff] at hv
  obtain ⟨⟨a, h1⟩, e1, en', e2, e3⟩ := hv
  cases e3
  refine hf x X k n Q h en [] a h1 e1 (Nat.zero_le _) g1 g2 ?_
  obtain ⟨p, l, e, s, m, args, below, meth, c, D, Z, B0⟩ := x
  intro hkn H locs ls hW hS hl
  exact lv_astore_n X.1 X.2.1 hd hj hl.has hn rfl (fun ls' hl' => g hkn H locs ls' hW hS (hl.stored e2 rfl hl'))
/-- the call of Object() at a constructor's head -/
theorem saInit {idx : Nat} (h0 : decode M.1 pc = .ok (.aload_n 0, 1)) (hd : decode M.1 (pc + 1) = .ok (.invokespecial idx, 3)) (hl0 : zHas (.methodLink M.2.1 idx objectInit)) (h1 : zHas (.instanceMethod objectInit)) (h2 : zHas (.code objectInit ⟨#[0xb1]⟩ 1 none)) (hR : 1 ≤ M.2.2.2.2.1.frames ∧ 12 ≤ M.2.2.2.2.1.locals) : ssOk M pc (pc + 4) (fun en h => (rL 0 en h).map fun _ => .inl (en, h)) := by
  intro x X k n Q h en r hv q
  simp only [Option.map_eq_some_iff] at hv
  obtain ⟨⟨a, h1'⟩, e1, e2⟩ := hv
  subst e2
  obtain ⟨g1, rfl⟩ := rL_spec e1
  obtain ⟨p, l, e, s, m, args, below, meth, c, D, Z, B0⟩ := x
  intro hkn H locs ls hW hS hl
  have hK := X.2.2.2.2.1
  refine lv_aload_n X.1 X.2.1 h0 rfl (hl.2.2 _ _ g1 (fun z => by cases z)) ?_
  refine W.objInit X.1 X.2.1 X.2.2.2.1 (hK.ts args hl0) (hK.ts args h1) (hK.ts args h2) rfl (hl.1.trans X.2.2.1.symm) rfl hd hR.1 (by show 2 * 0 + 0 + 12 ≤ _; omega) ?_
  exact q hkn H locs ls hW hS hl
end ZR5
theorem ctN {y : MethodName} {cc : ByteArray} {maxL fr mc ms lo N np pE : Nat} {f : zSS} (hm : zMd y cc maxL none np) (hN : N ≤ maxL) (hname : y.name = "<init>") (hd : decode cc pE = .ok (.return_, 1)) (hs : saOk (cc, y.cls, maxL, none, { frames := fr, cells := mc, slots := ms, locals := lo }, true) 0 pE mc ms f) : CtV y cc maxL fr mc ms lo N (fun vs h => (f vs h).bind fun r => match r with
  | .inl q => some q.2
  | .inr _ => none) := by
  intro l D Z B0 h vs h' hlen hcat hf
  obtain ⟨r, hr, hr2⟩ := Option.bind_eq_some_iff.mp hf
  cases r with
  | inr z => cases hr2
  | inl z =>
  cases hr2
  refine Met.ofW (cc := cc) (maxL := maxL) (ret := none) hm.2.2.2.2 rfl ?_
  intro p e s m args below meth c s₁ B hml hv
  obtain ⟨rfl, hB0, hW, hK⟩ := hv
  have X : zCx (cc, y.cls, maxL, none, { frames := fr, cells := mc, slots := ms, locals := lo }, true) (p, l, e, s, m, vs.toArray, below, meth, c, D, Z, B0) := ⟨B.exec, B.bytes, hml, findClass_of_methodNamed B.named, hK, B.returns, B.notSynchronized, fun _ => ((name_of_methodNamed B.named B.method).1).trans hname, hB0⟩
  rw [lg_entry_eq]
  have g := hs _ X 0 0 (MQ below (zPoV D Z B0 z.2) vs.toArray s mc ms (fun q => B0 ≤ q)) h vs z.1 z.2 hr (by simp) (by simp) (by
    intro hkn H locs ls hW hS hl
    rw [Nat.zero_add, Nat.zero_add]
    exact W.vret X.1 X.2.1 B.returns (fun t ht hM => ⟨⟨(), rfl, trivial, zW.moved hM.alike (show zW D Z B0 s z.2 t.heap by rw [ht]; exact hW)⟩, hS.F ht⟩) hS.2.2 hd B.notSynchronized)
  exact g ⟨Nat.zero_le _, Nat.zero_le _⟩ s.heap [] _ hW va_S.rf (zL.entry hcat (by omega))
