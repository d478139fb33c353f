/-! ROWS: a switch by keys; the law's script -/
section ZR6
variable {M : zM} {d pc p0 p1 p2 p3 pT pF pE : Nat}
theorem kWn {N : Nat} {c : zEB} {f : zSS} (hc : ebOk M 0 pc pT pE c) (hf : ssOk M pT pc f) : ssOk M pc pE (sW N c f) := kW hc hf N
def zPick : List (Int × zSS) → zSS → Int → zSS
  | [], df, _ => df
  | (k, b) :: r, df, x => if k = x then b else zPick r df x
def sLk (f : zEI) (bs : List (Int × zSS)) (df : zSS) : zSS := fun en h => (f en h).bind fun a => ((zPick bs df a.1.toInt) en a.2).map (zCut en)
def lkOk (M : zM) (p1 pE : Nat) : List (Int × Int) → List (Int × zSS) → Prop
  | [], [] => True
  | o :: os, b :: bs => (o.1 = b.1 ∧ ∃ tgt : Nat, (p1 : Int) + o.2 = (tgt : Int) ∧ ssOk M tgt pE b.2) ∧ lkOk M p1 pE os bs
  | _, _ => False
theorem lkOk_get {dflt : Int} {pD : Nat} {df : zSS} (hD : (p1 : Int) + dflt = (pD : Int)) (hdf : ssOk M pD pE df) : ∀ (os : List (Int × Int)) (bs : List (Int × zSS)), lkOk M p1 pE os bs → ∀ x : Int, ∃ tgt : Nat, (p1 : Int) + Op.lookupswitch.offset os dflt x = (tgt : Int) ∧ ssOk M tgt pE (zPick bs df x)
  | [], [], _, x => ⟨pD, hD, hdf⟩
  | (a, o) :: os, (k, b) :: bs, h, x => by
    obtain ⟨⟨hk, tgt, h1, h2⟩, h3⟩ := h
    dsimp only at hk
    subst hk
    by_cases hx : a = x
    · refine ⟨tgt, ?_, ?_⟩
      · rw [Op.lookupswitch.offset_cons, if_pos hx]; exact h1
      · simp only [zPick, if_pos hx]; exact h2
    · obtain ⟨t, g1, g2⟩ := lkOk_get hD hdf os bs h3 x
      refine ⟨t, ?_, ?_⟩
      · rw [Op.lookupswitch.offset_cons, if_neg hx]; exact g1
      · simp only [zPick, if_neg hx]; exact g2
  | [], _ :: _, h, _ => h.elim
  | _ :: _, [], h, _ => h.elim
theorem kLk {f : zEI} {bs : List (Int × zSS)} {df : zSS} {dflt : Int} {ps : Array (Int × Int)} {len pD : Nat} (hf : eiOk M 0 pc p1 f) (hd : decode M.1 p1 = .ok (.lookupswitch dflt ps, len)) (hD : (p1 : Int) + dflt = (pD : Int)) (hdf : ssOk M pD pE df) (hbs : lkOk M p1 pE ps.toList bs) (hp : (ps.toList.zip (ps.toList.drop 1)).all (fun (a, next) => a.1 < next.1) = true) : ssOk M pc pE (sLk f bs df) := by
  intro x X k n Q h en r hv q
  simp only [sLk, Option.bind_eq_some_iff, Option.map_eq_some_iff] at hv
  obtain ⟨⟨a, h1⟩, e1, r1, e2, e3⟩ := hv
  subst e3
  refine hf x X k n Q h en [] a h1 e1 (Nat.zero_le _) ?_
  obtain ⟨tgt, g1, g2⟩ := lkOk_get hD hdf ps.toList bs hbs a.toInt
  have g := g2 x X k n Q h1 en r1 e2 q.cut
  obtain ⟨p, l, e, s, m, args, below, meth, c, D, Z, B0⟩ := x
  intro hkn H locs ls hW hS hl
  exact lv_lookup X.1 X.2.1 hd hp rfl g1 (g hkn H locs ls hW hS hl)
/-- the script's length -/
def rdSL (h : zH) (a : Nat) : Option Int32 := match h.2 a with
  | some (.inr (.inr (.inr (n, _)))) => some (nI n)
  | _ => none
def eSL (o : zER) : zEI := fun en h => (o en h).bind fun a => (rdSL a.2 a.1).map fun v => (v, a.2)
theorem kSL {o : zER} (ho : erOk M d pc p1 o) (hd : decode M.1 p1 = .ok (.arraylength, 1)) : eiOk M d pc (p1 + 1) (eSL o) := by
  intro x X k n Q h en st v' h' hv hs q
  simp only [eSL, Option.bind_eq_some_iff, Option.map_eq_some_iff] at hv
  obtain ⟨⟨a, h1⟩, e1, w, e2, e3⟩ := hv
  cases e3
  refine ho x X k n Q h en st a h1 e1 hs ?_
  unfold rdSL at e2
  split at e2
  case h_2 => cases e2
  case h_1 N f hh =>
  cases e2
  obtain ⟨p, l, e, s, m, args, below, meth, c, D, Z, B0⟩ := x
  intro hkn H locs ls hW hS hl'
  obtain ⟨scr, k1, k2, k3, k4, k5⟩ := (hW.2 a _ hh).1
  exact W.alen (n := nI N) X.1 X.2.1 k1 k2 (by rw [k4]; rfl) rfl rfl hd (q hkn H locs ls hW hS hl')
end ZR6
