/-! ROWS: conditions -/
section ZR2
variable {M : zM} {d pc p1 p2 p3 pT pF : Nat}
def bCmp (o : Int32 → Int32 → Bool) (f g : zEI) : zEB := fun en h => (f en h).bind fun a => (g en a.2).bind fun b => some (o a.1 b.1, b.2)
def bZ (o : Int32 → Bool) (f : zEI) : zEB := fun en h => (f en h).map fun a => (o a.1, a.2)
def o_eq (a b : Int32) : Bool := decide (a = b)
def o_ne (a b : Int32) : Bool := decide (a ≠ b)
def o_lt (a b : Int32) : Bool := decide (a < b)
def o_ge (a b : Int32) : Bool := decide (b ≤ a)
def o_gt (a b : Int32) : Bool := decide (b < a)
def o_le (a b : Int32) : Bool := decide (a ≤ b)
def z_eq (a : Int32) : Bool := decide (a = 0)
def z_ne (a : Int32) : Bool := decide (a ≠ 0)
def z_lt (a : Int32) : Bool := decide (a < 0)
def z_ge (a : Int32) : Bool := decide (0 ≤ a)
def z_gt (a : Int32) : Bool := decide (0 < a)
def z_le (a : Int32) : Bool := decide (a ≤ 0)
theorem bCmp_spec {o : Int32 → Int32 → Bool} {f g : zEI} {en : List Value} {h h' : zH} {v : Bool} (hf : bCmp o f g en h = some (v, h')) : ∃ a h1 b, f en h = some (a, h1) ∧ g en h1 = some (b, h') ∧ v = o a b := by
  simp only [bCmp, Option.bind_eq_some_iff] at hf
  obtain ⟨⟨a, h1⟩, e1, ⟨b, h2⟩, e2, e3⟩ := hf
  cases e3
  exact ⟨a, h1, b, e1, e2, rfl⟩
theorem bZ_spec {o : Int32 → Bool} {f : zEI} {en : List Value} {h h' : zH} {v : Bool} (hf : bZ o f en h = some (v, h')) : ∃ a, f en h = some (a, h') ∧ v = o a := by
  simp only [bZ, Option.map_eq_some_iff] at hf
  obtain ⟨⟨a, h1⟩, e1, e2⟩ := hf
  cases e2
  exact ⟨a, e1, rfl⟩
theorem kB_eqT {f g : zEI} {off : Int} (hf : eiOk M d pc p1 f) (hg : eiOk M (d + 1) p1 p2 g) (hd : decode M.1 p2 = .ok (.if_icmp .eq off, 3)) (ht : (p2 : Int) + off = (pT : Int)) (hn : p2 + 3 = pF) : ebOk M d pc pT pF (bCmp o_eq f g) := by
  intro x X k n Q h en st v h' hv hs q
  obtain ⟨a, h1, b, e1, e2, rfl⟩ := bCmp_spec hv
  refine hf x X k n Q h en st a h1 e1 hs (hg x X k n Q h1 en _ b h' e2 (zcat_int hs) ?_)
  obtain ⟨p, l, e, s, m, args, below, meth, c, D, Z, B0⟩ := x
  intro hkn H locs ls hW hS hl
  subst hn
  refine lv_icmp_eq X.1 X.2.1 hd ht (fun z => ?_) (fun z => ?_)
  · have z' : o_eq a b = true := by
      simp only [o_eq, decide_eq_true_eq, decide_eq_false_iff_not]
      first | exact z | (simp only [Int32.lt_iff_toInt_lt, Int32.le_iff_toInt_le, ne_eq, Classical.not_not] at *; first | exact z | omega)
    rw [z'] at q
    exact q hkn H locs ls hW hS hl
  · have z' : o_eq a b = false := by
      simp only [o_eq, decide_eq_true_eq, decide_eq_false_iff_not]
      first | exact z | (simp only [Int32.lt_iff_toInt_lt, Int32.le_iff_toInt_le, ne_eq, Classical.not_not] at *; first | exact z | omega)
    rw [z'] at q
    exact q hkn H locs ls hW hS hl
theorem kZ_eqT {f : zEI} {off : Int} (hf : eiOk M d pc p1 f) (hd : decode M.1 p1 = .ok (.ifCond .eq off, 3)) (ht : (p1 : Int) + off = (pT : Int)) (hn : p1 + 3 = pF) : ebOk M d pc pT pF (bZ z_eq f) := by
  intro x X k n Q h en st v h' hv hs q
  obtain ⟨a, e1, rfl⟩ := bZ_spec hv
  refine hf x X k n Q h en st a h' e1 hs ?_
  obtain ⟨p, l, e, s, m, args, below, meth, c, D, Z, B0⟩ := x
  intro hkn H locs ls hW hS hl
  subst hn
  refine lv_if_eq X.1 X.2.1 hd ht (fun z => ?_) (fun z => ?_)
  · have z' : z_eq a = true := by
      simp only [z_eq, decide_eq_true_eq, decide_eq_false_iff_not]
      first | exact z | (simp only [Int32.lt_iff_toInt_lt, Int32.le_iff_toInt_le, ne_eq, Classical.not_not] at *; first | exact z | omega)
    rw [z'] at q
    exact q hkn H locs ls hW hS hl
  · have z' : z_eq a = false := by
      simp only [z_eq, decide_eq_true_eq, decide_eq_false_iff_not]
      first | exact z | (simp only [Int32.lt_iff_toInt_lt, Int32.le_iff_toInt_le, ne_eq, Classical.not_not] at *; first | exact z | omega)
    rw [z'] at q
    exact q hkn H locs ls hW hS hl
theorem kB_eqF {f g : zEI} {off : Int} (hf : eiOk M d pc p1 f) (hg : eiOk M (d + 1) p1 p2 g) (hd : decode M.1 p2 = .ok (.if_icmp .ne off, 3)) (ht : (p2 : Int) + off = (pF : Int)) (hn : p2 + 3 = pT) : ebOk M d pc pT pF (bCmp o_eq f g) := by
  intro x X k n Q h en st v h' hv hs q
  obtain ⟨a, h1, b, e1, e2, rfl⟩ := bCmp_spec hv
  refine hf x X k n Q h en st a h1 e1 hs (hg x X k n Q h1 en _ b h' e2 (zcat_int hs) ?_)
  obtain ⟨p, l, e, s, m, args, below, meth, c, D, Z, B0⟩ := x
  intro hkn H locs ls hW hS hl
  subst hn
  refine lv_icmp_ne X.1 X.2.1 hd ht (fun z => ?_) (fun z => ?_)
  · have z' : o_eq a b = false := by
      simp only [o_eq, decide_eq_true_eq, decide_eq_false_iff_not]
      first | exact z | (simp only [Int32.lt_iff_toInt_lt, Int32.le_iff_toInt_le, ne_eq, Classical.not_not] at *; first | exact z | omega)
    rw [z'] at q
    exact q hkn H locs ls hW hS hl
  · have z' : o_eq a b = true := by
      simp only [o_eq, decide_eq_true_eq, decide_eq_false_iff_not]
      first | exact z | (simp only [Int32.lt_iff_toInt_lt, Int32.le_iff_toInt_le, ne_eq, Classical.not_not] at *; first | exact z | omega)
    rw [z'] at q
    exact q hkn H locs ls hW hS hl
theorem kZ_eqF {f : zEI} {off : Int} (hf : eiOk M d pc p1 f) (hd : decode M.1 p1 = .ok (.ifCond .ne off, 3)) (ht : (p1 : Int) + off = (pF : Int)) (hn : p1 + 3 = pT) : ebOk M d pc pT pF (bZ z_eq f) := by
  intro x X k n Q h en st v h' hv hs q
  obtain ⟨a, e1, rfl⟩ := bZ_spec hv
  refine hf x X k n Q h en st a h' e1 hs ?_
  obtain ⟨p, l, e, s, m, args, below, meth, c, D, Z, B0⟩ := x
  intro hkn H locs ls hW hS hl
  subst hn
  refine lv_if_ne X.1 X.2.1 hd ht (fun z => ?_) (fun z => ?_)
  · have z' : z_eq a = false := by
      simp only [z_eq, decide_eq_true_eq, decide_eq_false_iff_not]
      first | exact z | (simp only [Int32.lt_iff_toInt_lt, Int32.le_iff_toInt_le, ne_eq, Classical.not_not] at *; first | exact z | omega)
    rw [z'] at q
    exact q hkn H locs ls hW hS hl
  · have z' : z_eq a = true := by
      simp only [z_eq, decide_eq_true_eq, decide_eq_false_iff_not]
      first | exact z | (simp only [Int32.lt_iff_toInt_lt, Int32.le_iff_toInt_le, ne_eq, Classical.not_not] at *; first | exact z | omega)
    rw [z'] at q
    exact q hkn H locs ls hW hS hl
theorem kB_neT {f g : zEI} {off : Int} (hf : eiOk M d pc p1 f) (hg : eiOk M (d + 1) p1 p2 g) (hd : decode M.1 p2 = .ok (.if_icmp .ne off, 3)) (ht : (p2 : Int) + off = (pT : Int)) (hn : p2 + 3 = pF) : ebOk M d pc pT pF (bCmp o_ne f g) := by
  intro x X k n Q h en st v h' hv hs q
  obtain ⟨a, h1, b, e1, e2, rfl⟩ := bCmp_spec hv
  refine hf x X k n Q h en st a h1 e1 hs (hg x X k n Q h1 en _ b h' e2 (zcat_int hs) ?_)
  obtain ⟨p, l, e, s, m, args, below, meth, c, D, Z, B0⟩ := x
  intro hkn H locs ls hW hS hl
  subst hn
  refine lv_icmp_ne X.1 X.2.1 hd ht (fun z => ?_) (fun z => ?_)
  · have z' : o_ne a b = true := by
      simp only [o_ne, decide_eq_true_eq, decide_eq_false_iff_not]
      first | exact z | (simp only [Int32.lt_iff_toInt_lt, Int32.le_iff_toInt_le, ne_eq, Classical.not_not] at *; first | exact z | omega)
    rw [z'] at q
    exact q hkn H locs ls hW hS hl
  · have z' : o_ne a b = false := by
      simp only [o_ne, decide_eq_true_eq, decide_eq_false_iff_not]
      first | exact z | (simp only [Int32.lt_iff_toInt_lt, Int32.le_iff_toInt_le, ne_eq, Classical.not_not] at *; first | exact z | omega)
    rw [z'] at q
    exact q hkn H locs ls hW hS hl
theorem kZ_neT {f : zEI} {off : Int} (hf : eiOk M d pc p1 f) (hd : decode M.1 p1 = .ok (.ifCond .ne off, 3)) (ht : (p1 : Int) + off = (pT : Int)) (hn : p1 + 3 = pF) : ebOk M d pc pT pF (bZ z_ne f) := by
  intro x X k n Q h en st v h' hv hs q
  obtain ⟨a, e1, rfl⟩ := bZ_spec hv
  refine hf x X k n Q h en st a h' e1 hs ?_
  obtain ⟨p, l, e, s, m, args, below, meth, c, D, Z, B0⟩ := x
  intro hkn H locs ls hW hS hl
  subst hn
  refine lv_if_ne X.1 X.2.1 hd ht (fun z => ?_) (fun z => ?_)
  · have z' : z_ne a = true := by
      simp only [z_ne, decide_eq_true_eq, decide_eq_false_iff_not]
      first | exact z | (simp only [Int32.lt_iff_toInt_lt, Int32.le_iff_toInt_le, ne_eq, Classical.not_not] at *; first | exact z | omega)
    rw [z'] at q
    exact q hkn H locs ls hW hS hl
  · have z' : z_ne a = false := by
      simp only [z_ne, decide_eq_true_eq, decide_eq_false_iff_not]
      first | exact z | (simp only [Int32.lt_iff_toInt_lt, Int32.le_iff_toInt_le, ne_eq, Classical.not_not] at *; first | exact z | omega)
    rw [z'] at q
    exact q hkn H locs ls hW hS hl
theorem kB_neF {f g : zEI} {off : Int} (hf : eiOk M d pc p1 f) (hg : eiOk M (d + 1) p1 p2 g) (hd : decode M.1 p2 = .ok (.if_icmp .eq off, 3)) (ht : (p2 : Int) + off = (pF : Int)) (hn : p2 + 3 = pT) : ebOk M d pc pT pF (bCmp o_ne f g) := by
  intro x X k n Q h en st v h' hv hs q
  obtain ⟨a, h1, b, e1, e2, rfl⟩ := bCmp_spec hv
  refine hf x X k n Q h en st a h1 e1 hs (hg x X k n Q h1 en _ b h' e2 (zcat_int hs) ?_)
  obtain ⟨p, l, e, s, m, args, below, meth, c, D, Z, B0⟩ := x
  intro hkn H locs ls hW hS hl
  subst hn
  refine lv_icmp_eq X.1 X.2.1 hd ht (fun z => ?_) (fun z => ?_)
  · have z' : o_ne a b = false := by
      simp only [o_ne, decide_eq_true_eq, decide_eq_false_iff_not]
      first | exact z | (simp only [Int32.lt_iff_toInt_lt, Int32.le_iff_toInt_le, ne_eq, Classical.not_not] at *; first | exact z | omega)
    rw [z'] at q
    exact q hkn H locs ls hW hS hl
  · have z' : o_ne a b = true := by
      simp only [o_ne, decide_eq_true_eq, decide_eq_false_iff_not]
      first | exact z | (simp only [Int32.lt_iff_toInt_lt, Int32.le_iff_toInt_le, ne_eq, Classical.not_not] at *; first | exact z | omega)
    rw [z'] at q
    exact q hkn H locs ls hW hS hl
theorem kZ_neF {f : zEI} {off : Int} (hf : eiOk M d pc p1 f) (hd : decode M.1 p1 = .ok (.ifCond .eq off, 3)) (ht : (p1 : Int) + off = (pF : Int)) (hn : p1 + 3 = pT) : ebOk M d pc pT pF (bZ z_ne f) := by
  intro x X k n Q h en st v h' hv hs q
  obtain ⟨a, e1, rfl⟩ := bZ_spec hv
  refine hf x X k n Q h en st a h' e1 hs ?_
  obtain ⟨p, l, e, s, m, args, below, meth, c, D, Z, B0⟩ := x
  intro hkn H locs ls hW hS hl
  subst hn
  refine lv_if_eq X.1 X.2.1 hd ht (fun z => ?_) (fun z => ?_)
  · have z' : z_ne a = false := by
      simp only [z_ne, decide_eq_true_eq, decide_eq_false_iff_not]
      first | exact z | (simp only [Int32.lt_iff_toInt_lt, Int32.le_iff_toInt_le, ne_eq, Classical.not_not] at *; first | exact z | omega)
    rw [z'] at q
    exact q hkn H locs ls hW hS hl
  · have z' : z_ne a = true := by
      simp only [z_ne, decide_eq_true_eq, decide_eq_false_iff_not]
      first | exact z | (simp only [Int32.lt_iff_toInt_lt, Int32.le_iff_toInt_le, ne_eq, Classical.not_not] at *; first | exact z | omega)
    rw [z'] at q
    exact q hkn H locs ls hW hS hl
theorem kB_ltT {f g : zEI} {off : Int} (hf : eiOk M d pc p1 f) (hg : eiOk M (d + 1) p1 p2 g) (hd : decode M.1 p2 = .ok (.if_icmp .lt off, 3)) (ht : (p2 : Int) + off = (pT : Int)) (hn : p2 + 3 = pF) : ebOk M d pc pT pF (bCmp o_lt f g) := by
  intro x X k n Q h en st v h' hv hs q
  obtain ⟨a, h1, b, e1, e2, rfl⟩ := bCmp_spec hv
  refine hf x X k n Q h en st a h1 e1 hs (hg x X k n Q h1 en _ b h' e2 (zcat_int hs) ?_)
  obtain ⟨p, l, e, s, m, args, below, meth, c, D, Z, B0⟩ := x
  intro hkn H locs ls hW hS hl
  subst hn
  refine lv_icmp_lt X.1 X.2.1 hd ht (fun z => ?_) (fun z => ?_)
  · have z' : o_lt a b = true := by
      simp only [o_lt, decide_eq_true_eq, decide_eq_false_iff_not]
      first | exact z | (simp only [Int32.lt_iff_toInt_lt, Int32.le_iff_toInt_le, ne_eq, Classical.not_not] at *; first | exact z | omega)
    rw [z'] at q
    exact q hkn H locs ls hW hS hl
  · have z' : o_lt a b = false := by
      simp only [o_lt, decide_eq_true_eq, decide_eq_false_iff_not]
      first | exact z | (simp only [Int32.lt_iff_toInt_lt, Int32.le_iff_toInt_le, ne_eq, Classical.not_not] at *; first | exact z | omega)
    rw [z'] at q
    exact q hkn H locs ls hW hS hl
theorem kZ_ltT {f : zEI} {off : Int} (hf : eiOk M d pc p1 f) (hd : decode M.1 p1 = .ok (.ifCond .lt off, 3)) (ht : (p1 : Int) + off = (pT : Int)) (hn : p1 + 3 = pF) : ebOk M d pc pT pF (bZ z_lt f) := by
  intro x X k n Q h en st v h' hv hs q
  obtain ⟨a, e1, rfl⟩ := bZ_spec hv
  refine hf x X k n Q h en st a h' e1 hs ?_
  obtain ⟨p, l, e, s, m, args, below, meth, c, D, Z, B0⟩ := x
  intro hkn H locs ls hW hS hl
  subst hn
  refine lv_if_lt X.1 X.2.1 hd ht (fun z => ?_) (fun z => ?_)
  · have z' : z_lt a = true := by
      simp only [z_lt, decide_eq_true_eq, decide_eq_false_iff_not]
      first | exact z | (simp only [Int32.lt_iff_toInt_lt, Int32.le_iff_toInt_le, ne_eq, Classical.not_not] at *; first | exact z | omega)
    rw [z'] at q
    exact q hkn H locs ls hW hS hl
  · have z' : z_lt a = false := by
      simp only [z_lt, decide_eq_true_eq, decide_eq_false_iff_not]
      first | exact z | (simp only [Int32.lt_iff_toInt_lt, Int32.le_iff_toInt_le, ne_eq, Classical.not_not] at *; first | exact z | omega)
    rw [z'] at q
    exact q hkn H locs ls hW hS hl
theorem kB_ltF {f g : zEI} {off : Int} (hf : eiOk M d pc p1 f) (hg : eiOk M (d + 1) p1 p2 g) (hd : decode M.1 p2 = .ok (.if_icmp .ge off, 3)) (ht : (p2 : Int) + off = (pF : Int)) (hn : p2 + 3 = pT) : ebOk M d pc pT pF (bCmp o_lt f g) := by
  intro x X k n Q h en st v h' hv hs q
  obtain ⟨a, h1, b, e1, e2, rfl⟩ := bCmp_spec hv
  refine hf x X k n Q h en st a h1 e1 hs (hg x X k n Q h1 en _ b h' e2 (zcat_int hs) ?_)
  obtain ⟨p, l, e, s, m, args, below, meth, c, D, Z, B0⟩ := x
  intro hkn H locs ls hW hS hl
  subst hn
  refine lv_icmp_ge X.1 X.2.1 hd ht (fun z => ?_) (fun z => ?_)
  · have z' : o_lt a b = false := by
      simp only [o_lt, decide_eq_true_eq, decide_eq_false_iff_not]
      first | exact z | (simp only [Int32.lt_iff_toInt_lt, Int32.le_iff_toInt_le, ne_eq, Classical.not_not] at *; first | exact z | omega)
    rw [z'] at q
    exact q hkn H locs ls hW hS hl
  · have z' : o_lt a b = true := by
      simp only [o_lt, decide_eq_true_eq, decide_eq_false_iff_not]
      first | exact z | (simp only [Int32.lt_iff_toInt_lt, Int32.le_iff_toInt_le, ne_eq, Classical.not_not] at *; first | exact z | omega)
    rw [z'] at q
    exact q hkn H locs ls hW hS hl
theorem kZ_ltF {f : zEI} {off : Int} (hf : eiOk M d pc p1 f) (hd : decode M.1 p1 = .ok (.ifCond .ge off, 3)) (ht : (p1 : Int) + off = (pF : Int)) (hn : p1 + 3 = pT) : ebOk M d pc pT pF (bZ z_lt f) := by
  intro x X k n Q h en st v h' hv hs q
  obtain ⟨a, e1, rfl⟩ := bZ_spec hv
  refine hf x X k n Q h en st a h' e1 hs ?_
  obtain ⟨p, l, e, s, m, args, below, meth, c, D, Z, B0⟩ := x
  intro hkn H locs ls hW hS hl
  subst hn
  refine lv_if_ge X.1 X.2.1 hd ht (fun z => ?_) (fun z => ?_)
  · have z' : z_lt a = false := by
      simp only [z_lt, decide_eq_true_eq, decide_eq_false_iff_not]
      first | exact z | (simp only [Int32.lt_iff_toInt_lt, Int32.le_iff_toInt_le, ne_eq, Classical.not_not] at *; first | exact z | omega)
    rw [z'] at q
    exact q hkn H locs ls hW hS hl
  · have z' : z_lt a = true := by
      simp only [z_lt, decide_eq_true_eq, decide_eq_false_iff_not]
      first | exact z | (simp only [Int32.lt_iff_toInt_lt, Int32.le_iff_toInt_le, ne_eq, Classical.not_not] at *; first | exact z | omega)
    rw [z'] at q
    exact q hkn H locs ls hW hS hl
theorem kB_geT {f g : zEI} {off : Int} (hf : eiOk M d pc p1 f) (hg : eiOk M (d + 1) p1 p2 g) (hd : decode M.1 p2 = .ok (.if_icmp .ge off, 3)) (ht : (p2 : Int) + off = (pT : Int)) (hn : p2 + 3 = pF) : ebOk M d pc pT pF (bCmp o_ge f g) := by
  intro x X k n Q h en st v h' hv hs q
  obtain ⟨a, h1, b, e1, e2, rfl⟩ := bCmp_spec hv
  refine hf x X k n Q h en st a h1 e1 hs (hg x X k n Q h1 en _ b h' e2 (zcat_int hs) ?_)
  obtain ⟨p, l, e, s, m, args, below, meth, c, D, Z, B0⟩ := x
  intro hkn H locs ls hW hS hl
  subst hn
  refine lv_icmp_ge X.1 X.2.1 hd ht (fun z => ?_) (fun z => ?_)
  · have z' : o_ge a b = true := by
      simp only [o_ge, decide_eq_true_eq, decide_eq_false_iff_not]
      first | exact z | (simp only [Int32.lt_iff_toInt_lt, Int32.le_iff_toInt_le, ne_eq, Classical.not_not] at *; first | exact z | omega)
    rw [z'] at q
    exact q hkn H locs ls hW hS hl
  · have z' : o_ge a b = false := by
      simp only [o_ge, decide_eq_true_eq, decide_eq_false_iff_not]
      first | exact z | (simp only [Int32.lt_iff_toInt_lt, Int32.le_iff_toInt_le, ne_eq, Classical.not_not] at *; first | exact z | omega)
    rw [z'] at q
    exact q hkn H locs ls hW hS hl
theorem kZ_geT {f : zEI} {off : Int} (hf : eiOk M d pc p1 f) (hd : decode M.1 p1 = .ok (.ifCond .ge off, 3)) (ht : (p1 : Int) + off = (pT : Int)) (hn : p1 + 3 = pF) : ebOk M d pc pT pF (bZ z_ge f) := by
  intro x X k n Q h en st v h' hv hs q
  obtain ⟨a, e1, rfl⟩ := bZ_spec hv
  refine hf x X k n Q h en st a h' e1 hs ?_
  obtain ⟨p, l, e, s, m, args, below, meth, c, D, Z, B0⟩ := x
  intro hkn H locs ls hW hS hl
  subst hn
  refine lv_if_ge X.1 X.2.1 hd ht (fun z => ?_) (fun z => ?_)
  · have z' : z_ge a = true := by
      simp only [z_ge, decide_eq_true_eq, decide_eq_false_iff_not]
      first | exact z | (simp only [Int32.lt_iff_toInt_lt, Int32.le_iff_toInt_le, ne_eq, Classical.not_not] at *; first | exact z | omega)
    rw [z'] at q
    exact q hkn H locs ls hW hS hl
  · have z' : z_ge a = false := by
      simp only [z_ge, decide_eq_true_eq, decide_eq_false_iff_not]
      first | exact z | (simp only [Int32.lt_iff_toInt_lt, Int32.le_iff_toInt_le, ne_eq, Classical.not_not] at *; first | exact z | omega)
    rw [z'] at q
    exact q hkn H locs ls hW hS hl
theorem kB_geF {f g : zEI} {off : Int} (hf : eiOk M d pc p1 f) (hg : eiOk M (d + 1) p1 p2 g) (hd : decode M.1 p2 = .ok (.if_icmp .lt off, 3)) (ht : (p2 : Int) + off = (pF : Int)) (hn : p2 + 3 = pT) : ebOk M d pc pT pF (bCmp o_ge f g) := by
  intro x X k n Q h en st v h' hv hs q
  obtain ⟨a, h1, b, e1, e2, rfl⟩ := bCmp_spec hv
  refine hf x X k n Q h en st a h1 e1 hs (hg x X k n Q h1 en _ b h' e2 (zcat_int hs) ?_)
  obtain ⟨p, l, e, s, m, args, below, meth, c, D, Z, B0⟩ := x
  intro hkn H locs ls hW hS hl
  subst hn
  refine lv_icmp_lt X.1 X.2.1 hd ht (fun z => ?_) (fun z => ?_)
  · have z' : o_ge a b = false := by
      simp only [o_ge, decide_eq_true_eq, decide_eq_false_iff_not]
      first | exact z | (simp only [Int32.lt_iff_toInt_lt, Int32.le_iff_toInt_le, ne_eq, Classical.not_not] at *; first | exact z | omega)
    rw [z'] at q
    exact q hkn H locs ls hW hS hl
  · have z' : o_ge a b = true := by
      simp only [o_ge, decide_eq_true_eq, decide_eq_false_iff_not]
      first | exact z | (simp only [Int32.lt_iff_toInt_lt, Int32.le_iff_toInt_le, ne_eq, Classical.not_not] at *; first | exact z | omega)
    rw [z'] at q
    exact q hkn H locs ls hW hS hl
theorem kZ_geF {f : zEI} {off : Int} (hf : eiOk M d pc p1 f) (hd : decode M.1 p1 = .ok (.ifCond .lt off, 3)) (ht : (p1 : Int) + off = (pF : Int)) (hn : p1 + 3 = pT) : ebOk M d pc pT pF (bZ z_ge f) := by
  intro x X k n Q h en st v h' hv hs q
  obtain ⟨a, e1, rfl⟩ := bZ_spec hv
  refine hf x X k n Q h en st a h' e1 hs ?_
  obtain ⟨p, l, e, s, m, args, below, meth, c, D, Z, B0⟩ := x
  intro hkn H locs ls hW hS hl
  subst hn
  refine lv_if_lt X.1 X.2.1 hd ht (fun z => ?_) (fun z => ?_)
  · have z' : z_ge a = false := by
      simp only [z_ge, decide_eq_true_eq, decide_eq_false_iff_not]
      first | exact z | (simp only [Int32.lt_iff_toInt_lt, Int32.le_iff_toInt_le, ne_eq, Classical.not_not] at *; first | exact z | omega)
    rw [z'] at q
    exact q hkn H locs ls hW hS hl
  · have z' : z_ge a = true := by
      simp only [z_ge, decide_eq_true_eq, decide_eq_false_iff_not]
      first | exact z | (simp only [Int32.lt_iff_toInt_lt, Int32.le_iff_toInt_le, ne_eq, Classical.not_not] at *; first | exact z | omega)
    rw [z'] at q
    exact q hkn H locs ls hW hS hl
theorem kB_gtT {f g : zEI} {off : Int} (hf : eiOk M d pc p1 f) (hg : eiOk M (d + 1) p1 p2 g) (hd : decode M.1 p2 = .ok (.if_icmp .gt off, 3)) (ht : (p2 : Int) + off = (pT : Int)) (hn : p2 + 3 = pF) : ebOk M d pc pT pF (bCmp o_gt f g) := by
  intro x X k n Q h en st v h' hv hs q
  obtain ⟨a, h1, b, e1, e2, rfl⟩ := bCmp_spec hv
  refine hf x X k n Q h en st a h1 e1 hs (hg x X k n Q h1 en _ b h' e2 (zcat_int hs) ?_)
  obtain ⟨p, l, e, s, m, args, below, meth, c, D, Z, B0⟩ := x
  intro hkn H locs ls hW hS hl
  subst hn
  refine lv_icmp_gt X.1 X.2.1 hd ht (fun z => ?_) (fun z => ?_)
  · have z' : o_gt a b = true := by
      simp only [o_gt, decide_eq_true_eq, decide_eq_false_iff_not]
      first | exact z | (simp only [Int32.lt_iff_toInt_lt, Int32.le_iff_toInt_le, ne_eq, Classical.not_not] at *; first | exact z | omega)
    rw [z'] at q
    exact q hkn H locs ls hW hS hl
  · have z' : o_gt a b = false := by
      simp only [o_gt, decide_eq_true_eq, decide_eq_false_iff_not]
      first | exact z | (simp only [Int32.lt_iff_toInt_lt, Int32.le_iff_toInt_le, ne_eq, Classical.not_not] at *; first | exact z | omega)
    rw [z'] at q
    exact q hkn H locs ls hW hS hl
theorem kZ_gtT {f : zEI} {off : Int} (hf : eiOk M d pc p1 f) (hd : decode M.1 p1 = .ok (.ifCond .gt off, 3)) (ht : (p1 : Int) + off = (pT : Int)) (hn : p1 + 3 = pF) : ebOk M d pc pT pF (bZ z_gt f) := by
  intro x X k n Q h en st v h' hv hs q
  obtain ⟨a, e1, rfl⟩ := bZ_spec hv
  refine hf x X k n Q h en st a h' e1 hs ?_
  obtain ⟨p, l, e, s, m, args, below, meth, c, D, Z, B0⟩ := x
  intro hkn H locs ls hW hS hl
  subst hn
  refine lv_if_gt X.1 X.2.1 hd ht (fun z => ?_) (fun z => ?_)
  · have z' : z_gt a = true := by
      simp only [z_gt, decide_eq_true_eq, decide_eq_false_iff_not]
      first | exact z | (simp only [Int32.lt_iff_toInt_lt, Int32.le_iff_toInt_le, ne_eq, Classical.not_not] at *; first | exact z | omega)
    rw [z'] at q
    exact q hkn H locs ls hW hS hl
  · have z' : z_gt a = false := by
      simp only [z_gt, decide_eq_true_eq, decide_eq_false_iff_not]
      first | exact z | (simp only [Int32.lt_iff_toInt_lt, Int32.le_iff_toInt_le, ne_eq, Classical.not_not] at *; first | exact z | omega)
    rw [z'] at q
    exact q hkn H locs ls hW hS hl
theorem kB_gtF {f g : zEI} {off : Int} (hf : eiOk M d pc p1 f) (hg : eiOk M (d + 1) p1 p2 g) (hd : decode M.1 p2 = .ok (.if_icmp .le off, 3)) (ht : (p2 : Int) + off = (pF : Int)) (hn : p2 + 3 = pT) : ebOk M d pc pT pF (bCmp o_gt f g) := by
  intro x X k n Q h en st v h' hv hs q
  obtain ⟨a, h1, b, e1, e2, rfl⟩ := bCmp_spec hv
  refine hf x X k n Q h en st a h1 e1 hs (hg x X k n Q h1 en _ b h' e2 (zcat_int hs) ?_)
  obtain ⟨p, l, e, s, m, args, below, meth, c, D, Z, B0⟩ := x
  intro hkn H locs ls hW hS hl
  subst hn
  refine lv_icmp_le X.1 X.2.1 hd ht (fun z => ?_) (fun z => ?_)
  · have z' : o_gt a b = false := by
      simp only [o_gt, decide_eq_true_eq, decide_eq_false_iff_not]
      first | exact z | (simp only [Int32.lt_iff_toInt_lt, Int32.le_iff_toInt_le, ne_eq, Classical.not_not] at *; first | exact z | omega)
    rw [z'] at q
    exact q hkn H locs ls hW hS hl
  · have z' : o_gt a b = true := by
      simp only [o_gt, decide_eq_true_eq, decide_eq_false_iff_not]
      first | exact z | (simp only [Int32.lt_iff_toInt_lt, Int32.le_iff_toInt_le, ne_eq, Classical.not_not] at *; first | exact z | omega)
    rw [z'] at q
    exact q hkn H locs ls hW hS hl
theorem kZ_gtF {f : zEI} {off : Int} (hf : eiOk M d pc p1 f) (hd : decode M.1 p1 = .ok (.ifCond .le off, 3)) (ht : (p1 : Int) + off = (pF : Int)) (hn : p1 + 3 = pT) : ebOk M d pc pT pF (bZ z_gt f) := by
  intro x X k n Q h en st v h' hv hs q
  obtain ⟨a, e1, rfl⟩ := bZ_spec hv
  refine hf x X k n Q h en st a h' e1 hs ?_
  obtain ⟨p, l, e, s, m, args, below, meth, c, D, Z, B0⟩ := x
  intro hkn H locs ls hW hS hl
  subst hn
  refine lv_if_le X.1 X.2.1 hd ht (fun z => ?_) (fun z => ?_)
  · have z' : z_gt a = false := by
      simp only [z_gt, decide_eq_true_eq, decide_eq_false_iff_not]
      first | exact z | (simp only [Int32.lt_iff_toInt_lt, Int32.le_iff_toInt_le, ne_eq, Classical.not_not] at *; first | exact z | omega)
    rw [z'] at q
    exact q hkn H locs ls hW hS hl
  · have z' : z_gt a = true := by
      simp only [z_gt, decide_eq_true_eq, decide_eq_false_iff_not]
      first | exact z | (simp only [Int32.lt_iff_toInt_lt, Int32.le_iff_toInt_le, ne_eq, Classical.not_not] at *; first | exact z | omega)
    rw [z'] at q
    exact q hkn H locs ls hW hS hl
theorem kB_leT {f g : zEI} {off : Int} (hf : eiOk M d pc p1 f) (hg : eiOk M (d + 1) p1 p2 g) (hd : decode M.1 p2 = .ok (.if_icmp .le off, 3)) (ht : (p2 : Int) + off = (pT : Int)) (hn : p2 + 3 = pF) : ebOk M d pc pT pF (bCmp o_le f g) := by
  intro x X k n Q h en st v h' hv hs q
  obtain ⟨a, h1, b, e1, e2, rfl⟩ := bCmp_spec hv
  refine hf x X k n Q h en st a h1 e1 hs (hg x X k n Q h1 en _ b h' e2 (zcat_int hs) ?_)
  obtain ⟨p, l, e, s, m, args, below, meth, c, D, Z, B0⟩ := x
  intro hkn H locs ls hW hS hl
  subst hn
  refine lv_icmp_le X.1 X.2.1 hd ht (fun z => ?_) (fun z => ?_)
  · have z' : o_le a b = true := by
      simp only [o_le, decide_eq_true_eq, decide_eq_false_iff_not]
      first | exact z | (simp only [Int32.lt_iff_toInt_lt, Int32.le_iff_toInt_le, ne_eq, Classical.not_not] at *; first | exact z | omega)
    rw [z'] at q
    exact q hkn H locs ls hW hS hl
  · have z' : o_le a b = false := by
      simp only [o_le, decide_eq_true_eq, decide_eq_false_iff_not]
      first | exact z | (simp only [Int32.lt_iff_toInt_lt, Int32.le_iff_toInt_le, ne_eq, Classical.not_not] at *; first | exact z | omega)
    rw [z'] at q
    exact q hkn H locs ls hW hS hl
theorem kZ_leT {f : zEI} {off : Int} (hf : eiOk M d pc p1 f) (hd : decode M.1 p1 = .ok (.ifCond .le off, 3)) (ht : (p1 : Int) + off = (pT : Int)) (hn : p1 + 3 = pF) : ebOk M d pc pT pF (bZ z_le f) := by
  intro x X k n Q h en st v h' hv hs q
  obtain ⟨a, e1, rfl⟩ := bZ_spec hv
  refine hf x X k n Q h en st a h' e1 hs ?_
  obtain ⟨p, l, e, s, m, args, below, meth, c, D, Z, B0⟩ := x
  intro hkn H locs ls hW hS hl
  subst hn
  refine lv_if_le X.1 X.2.1 hd ht (fun z => ?_) (fun z => ?_)
  · have z' : z_le a = true := by
      simp only [z_le, decide_eq_true_eq, decide_eq_false_iff_not]
      first | exact z | (simp only [Int32.lt_iff_toInt_lt, Int32.le_iff_toInt_le, ne_eq, Classical.not_not] at *; first | exact z | omega)
    rw [z'] at q
    exact q hkn H locs ls hW hS hl
  · have z' : z_le a = false := by
      simp only [z_le, decide_eq_true_eq, decide_eq_false_iff_not]
      first | exact z | (simp only [Int32.lt_iff_toInt_lt, Int32.le_iff_toInt_le, ne_eq, Classical.not_not] at *; first | exact z | omega)
    rw [z'] at q
    exact q hkn H locs ls hW hS hl
theorem kB_leF {f g : zEI} {off : Int} (hf : eiOk M d pc p1 f) (hg : eiOk M (d + 1) p1 p2 g) (hd : decode M.1 p2 = .ok (.if_icmp .gt off, 3)) (ht : (p2 : Int) + off = (pF : Int)) (hn : p2 + 3 = pT) : ebOk M d pc pT pF (bCmp o_le f g) := by
  intro x X k n Q h en st v h' hv hs q
  obtain ⟨a, h1, b, e1, e2, rfl⟩ := bCmp_spec hv
  refine hf x X k n Q h en st a h1 e1 hs (hg x X k n Q h1 en _ b h' e2 (zcat_int hs) ?_)
  obtain ⟨p, l, e, s, m, args, below, meth, c, D, Z, B0⟩ := x
  intro hkn H locs ls hW hS hl
  subst hn
  refine lv_icmp_gt X.1 X.2.1 hd ht (fun z => ?_) (fun z => ?_)
  · have z' : o_le a b = false := by
      simp only [o_le, decide_eq_true_eq, decide_eq_false_iff_not]
      first | exact z | (simp only [Int32.lt_iff_toInt_lt, Int32.le_iff_toInt_le, ne_eq, Classical.not_not] at *; first | exact z | omega)
    rw [z'] at q
    exact q hkn H locs ls hW hS hl
  · have z' : o_le a b = true := by
      simp only [o_le, decide_eq_true_eq, decide_eq_false_iff_not]
      first | exact z | (simp only [Int32.lt_iff_toInt_lt, Int32.le_iff_toInt_le, ne_eq, Classical.not_not] at *; first | exact z | omega)
    rw [z'] at q
    exact q hkn H locs ls hW hS hl
theorem kZ_leF {f : zEI} {off : Int} (hf : eiOk M d pc p1 f) (hd : decode M.1 p1 = .ok (.ifCond .gt off, 3)) (ht : (p1 : Int) + off = (pF : Int)) (hn : p1 + 3 = pT) : ebOk M d pc pT pF (bZ z_le f) := by
  intro x X k n Q h en st v h' hv hs q
  obtain ⟨a, e1, rfl⟩ := bZ_spec hv
  refine hf x X k n Q h en st a h' e1 hs ?_
  obtain ⟨p, l, e, s, m, args, below, meth, c, D, Z, B0⟩ := x
  intro hkn H locs ls hW hS hl
  subst hn
  refine lv_if_gt X.1 X.2.1 hd ht (fun z => ?_) (fun z => ?_)
  · have z' : z_le a = false := by
      simp only [z_le, decide_eq_true_eq, decide_eq_false_iff_not]
      first | exact z | (simp only [Int32.lt_iff_toInt_lt, Int32.le_iff_toInt_le, ne_eq, Classical.not_not] at *; first | exact z | omega)
    rw [z'] at q
    exact q hkn H locs ls hW hS hl
  · have z' : z_le a = true := by
      simp only [z_le, decide_eq_true_eq, decide_eq_false_iff_not]
      first | exact z | (simp only [Int32.lt_iff_toInt_lt, Int32.le_iff_toInt_le, ne_eq, Classical.not_not] at *; first | exact z | omega)
    rw [z'] at q
    exact q hkn H locs ls hW hS hl
def bAnd (f g : zEB) : zEB := fun en h => (f en h).bind fun a => if a.1 = true then g en a.2 else some (false, a.2)
def bOr (f g : zEB) : zEB := fun en h => (f en h).bind fun a => if a.1 = true then some (true, a.2) else g en a.2
def bNot (f : zEB) : zEB := fun en h => (f en h).map fun a => (!a.1, a.2)
theorem kBand {f g : zEB} {pm : Nat} (hf : ebOk M d pc pm pF f) (hg : ebOk M d pm pT pF g) : ebOk M d pc pT pF (bAnd f g) := by
  intro x X k n Q h en st v h' hv hs q
  simp only [bAnd, Option.bind_eq_some_iff] at hv
  obtain ⟨⟨a, h1⟩, e1, e2⟩ := hv
  refine hf x X k n Q h en st a h1 e1 hs ?_
  cases a with
  | true => exact hg x X k n Q h1 en st v h' (by simpa using e2) hs q
  | false =>
    simp at e2
    obtain ⟨e3, e4⟩ := e2
    subst e3; subst e4
    simpa using q
theorem kBor {f g : zEB} {pm : Nat} (hf : ebOk M d pc pT pm f) (hg : ebOk M d pm pT pF g) : ebOk M d pc pT pF (bOr f g) := by
  intro x X k n Q h en st v h' hv hs q
  simp only [bOr, Option.bind_eq_some_iff] at hv
  obtain ⟨⟨a, h1⟩, e1, e2⟩ := hv
  refine hf x X k n Q h en st a h1 e1 hs ?_
  cases a with
  | false => exact hg x X k n Q h1 en st v h' (by simpa using e2) hs q
  | true =>
    simp at e2
    obtain ⟨e3, e4⟩ := e2
    subst e3; subst e4
    simpa using q
theorem kBnot {f : zEB} (hf : ebOk M d pc pF pT f) : ebOk M d pc pT pF (bNot f) := by
  intro x X k n Q h en st v h' hv hs q
  simp only [bNot, Option.map_eq_some_iff] at hv
  obtain ⟨⟨a, h1⟩, e1, e2⟩ := hv
  cases e2
  refine hf x X k n Q h en st a h1 e1 hs ?_
  cases a <;> simpa using q
/-- a condition as a number; a choice between two -/
def eB (f : zEB) : zEI := fun en h => (f en h).map fun a => (if a.1 = true then 1 else 0, a.2)
def eT (f : zEB) (a b : zEI) : zEI := fun en h => (f en h).bind fun q => if q.1 = true then a en q.2 else b en q.2
theorem kT {f : zEB} {a b : zEI} {off : Int} (hf : ebOk M d pc pT pF f) (ha : eiOk M d pT p1 a) (hd : decode M.1 p1 = .ok (.goto off, 3)) (ht : (p1 : Int) + off = (p2 : Int)) (hb : eiOk M d pF p2 b) : eiOk M d pc p2 (eT f a b) := by
  intro x X k n Q h en st v h' hv hs q
  simp only [eT, Option.bind_eq_some_iff] at hv
  obtain ⟨⟨t, h1⟩, e1, e2⟩ := hv
  refine hf x X k n Q h en st t h1 e1 hs ?_
  cases t with
  | true =>
    refine ha x X k n Q h1 en st v h' (by simpa using e2) hs ?_
    obtain ⟨p, l, e, s, m, args, below, meth, c, D, Z, B0⟩ := x
    intro hkn H locs ls hW hS hl
    exact lv_goto X.1 X.2.1 hd ht (q hkn H locs ls hW hS hl)
  | false => exact hb x X k n Q h1 en st v h' (by simpa using e2) hs q
theorem eB_eT (f : zEB) : eB f = eT f (eC 1) (eC 0) := by
  funext en h
  simp only [eB, eT, eC]
  cases f en h with
  | none => rfl
  | some a =>
    obtain ⟨b, h'⟩ := a
    cases b <;> rfl
theorem kEB {f : zEB} {off : Int} (hf : ebOk M d pc pT pF f) (h1 : decode M.1 pT = .ok (.iconst 1, 1)) (hd : decode M.1 (pT + 1) = .ok (.goto off, 3)) (ht : ((pT + 1 : Nat) : Int) + off = (p2 : Int)) (h0 : decode M.1 pF = .ok (.iconst 0, 1)) (hp : pF + 1 = p2) : eiOk M d pc p2 (eB f) := by
  subst hp
  rw [eB_eT]
  exact kT hf (kC_ic h1 rfl) hd ht (kC_ic h0 rfl)
end ZR2
