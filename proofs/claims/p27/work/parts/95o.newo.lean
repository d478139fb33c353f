/-! the constructors: a loop by what it keeps; new cells -/
theorem sW_inv {c : zEB} {f : zSS} (I : Nat → List Value → zH → Prop) (n : Nat) : ∀ (d N i : Nat) (en : List Value) (h : zH), d = n - i → i ≤ n → d < N → I i en h →
    (∀ j en h, j ≤ n → I j en h → c en h = some (decide (j < n), h)) →
    (∀ j en h, j < n → I j en h → ∃ en' h', (f en h).map (zCut en) = some (.inl (en', h')) ∧ I (j + 1) en' h') →
    ∃ en' h', sW N c f en h = some (.inl (en', h')) ∧ I n en' h'
  | d, 0, i, en, h, hd, hi, hN, _, _, _ => by omega
  | d, N + 1, i, en, h, hd, hi, hN, h0, hc, hf => by
    simp only [sW]
    rw [hc i en h hi h0, Option.bind_some]
    by_cases hin : i < n
    · obtain ⟨en', h', e1, e2⟩ := hf i en h hin h0
      obtain ⟨q, e3, e4⟩ := zCut_inl e1
      simp only [hin, decide_true, if_true]
      rw [e3, Option.bind_some]
      dsimp only
      rw [show q.1.take en.length = en' from congrArg Prod.fst e4, show q.2 = h' from congrArg Prod.snd e4]
      exact sW_inv I n (d - 1) N (i + 1) en' h' (by omega) (by omega) (by omega) e2 hc hf
    · have hin' : i = n := by omega
      subst hin'
      exact ⟨en, h, by simp, h0⟩
theorem seq1 {f g : zSS} {en en1 : List Value} {h h1 : zH} (e : f en h = some (.inl (en1, h1))) : sSeq f g en h = g en1 h1 := by simp [sSeq, e]
theorem ini1 {a : Nat} {en : List Value} {h : zH} : (fun en h => (rL 0 en h).map fun _ => (.inl (en, h) : zSR)) (.ref a :: en) h = some (.inl (.ref a :: en, h)) := by simp [rL]
section ZNW
variable {F F' : Nat → Option zX} {n n' a ci k cj nn : Nat} {fs fs0 : List Value} {en : List Value} {v : Int32}
theorem up1 (hf : F a = some (xO ci fs)) (hk : k < fs.length) (v : Value) : wrO (n, F) ci k a v = some (n, va_up F a (some (xO ci (fs.set k v)))) := wrO_of (h := (n, F)) hf hk
theorem fr_NR (hf : F a = some (xO ci fs)) (hk : k < fs.length) (hv : v = nI nn) (ne : a ≠ n) : sFr ci k (rL 0) (rNR cj nn (eC v)) (.ref a :: en) (n, F) = some (.inl (.ref a :: en, (n + 1, va_up (va_up F n (some (xR cj nn (fun _ => none)))) a (some (xO ci (fs.set k (.ref n))))))) := by
  have w := up1 (n := n + 1) (F := va_up F n (some (xR cj nn (fun _ => none)))) (by rw [va_up_ne _ _ ne]; exact hf) hk (.ref n)
  simp [sFr, rL, rNR, eC, hv, w]
theorem fr_NA (hf : F a = some (xO ci fs)) (hk : k < fs.length) (hv : v = nI nn) (ne : a ≠ n) : sFr ci k (rL 0) (rNA nn (eC v)) (.ref a :: en) (n, F) = some (.inl (.ref a :: en, (n + 1, va_up (va_up F n (some (xI nn (fun _ => 0)))) a (some (xO ci (fs.set k (.ref n))))))) := by
  have w := up1 (n := n + 1) (F := va_up F n (some (xI nn (fun _ => 0)))) (by rw [va_up_ne _ _ ne]; exact hf) hk (.ref n)
  simp [sFr, rL, rNA, eC, hv, w]
theorem fr_F (hf : F a = some (xO ci fs)) (hk : k < fs.length) : sF ci k (rL 0) (eC v) (.ref a :: en) (n, F) = some (.inl (.ref a :: en, (n, va_up F a (some (xO ci (fs.set k (.int v))))))) := by
  have w := up1 (n := n) hf hk (.int v)
  simp [sF, rL, eC, w]
theorem fr_Nw {fn : zFV} (e : fn [.ref n] (n + 1, va_up F n (some (xO cj fs0))) = some (n', F')) (hf : F' a = some (xO ci fs)) (hk : k < fs.length) : sFr ci k (rL 0) (rNw cj fs0 (aN) fn) (.ref a :: en) (n, F) = some (.inl (.ref a :: en, (n', va_up F' a (some (xO ci (fs.set k (.ref n))))))) := by
  have w := up1 (n := n') hf hk (.ref n)
  simp [sFr, rL, rNw, aN, e, w]
/-- a name, an order -/
theorem X2_new (hf : F a = some (xO 2 [.null, .int 0])) (ne : a ≠ n) : fX2_init [.ref a] (n, F) = some (n + 1, va_up (va_up F n (some (xI 12 (fun _ => 0)))) a (some (cNm n 0))) := by
  have e := fr_NA (en := []) (ci := 2) (k := 0) (nn := 12) (v := 12) hf (by simp) rfl ne
  have q : bX2_init [.ref a] (n, F) = some (.inl ([.ref a], (n + 1, va_up (va_up F n (some (xI 12 (fun _ => 0)))) a (some (cNm n 0))))) := by
    unfold bX2_init
    rw [seq1 ini1]
    exact e
  simp [fX2_init, q]
theorem X3_new (hf : F a = some (xO 3 [.null, .int 0, .int 0, .int 0, .int 0, .int 0, .int 0])) (n1 : a ≠ n) (n2 : a ≠ n + 1) : fX3_init [.ref a] (n, F) = some (n + 2, va_up (va_up (va_up (va_up F n (some (xO 2 [.null, .int 0]))) (n + 1) (some (xI 12 (fun _ => 0)))) n (some (cNm (n + 1) 0))) a (some (cOr n (fun _ => 0)))) := by
  have e2 := X2_new (F := va_up F n (some (xO 2 [.null, .int 0]))) (n := n + 1) (a := n) (va_up_self _ _ _) (by omega)
  have e := fr_Nw (en := []) (ci := 3) (k := 0) (a := a) (fs := [.null, .int 0, .int 0, .int 0, .int 0, .int 0, .int 0]) e2 (by rw [va_up_ne _ _ n1, va_up_ne _ _ n2, va_up_ne _ _ n1]; exact hf) (by simp)
  have q : bX3_init [.ref a] (n, F) = some (.inl ([.ref a], (n + 2, va_up (va_up (va_up (va_up F n (some (xO 2 [.null, .int 0]))) (n + 1) (some (xI 12 (fun _ => 0)))) n (some (cNm (n + 1) 0))) a (some (cOr n (fun _ => 0)))))) := by
    unfold bX3_init
    rw [seq1 ini1]
    exact e
  simp [fX3_init, q]
theorem X4_new {h : zH} : fX4_init [.ref a] h = some h := by simp [fX4_init, bX4_init, rL]
end ZNW
def s0 : Nat → Int32 := fun x => if 6 ≤ x ∧ x ≤ 9 then -9 else 0
/-- a shop while it is made -/
def hI (f : Nat → Option zX) (lo y z : Nat) : zH := (lo + 4 + y + 3 * z, fun a => if a = lo then some (cSh lo s0) else if a = lo + 1 then some (xR 4 20 (fun p => if p < y then some (lo + 4 + p) else none)) else if a = lo + 2 then some (xI 3 (fun _ => 0)) else if a = lo + 3 then some (xR 3 10 (fun k => if k < z then some (lo + 24 + 3 * k) else none)) else if lo + 4 ≤ a ∧ a < lo + 4 + y then some (cPl (fun _ => 0)) else if lo + 24 ≤ a ∧ a < lo + 24 + 3 * z then some (cO3 a (fun _ _ => 0) (fun _ => 0) (fun _ _ => 0) (a - (lo + 24))) else f a)
section ZNS
variable {f : Nat → Option zX} {lo y z : Nat}
theorem hI_n1 : (hI f lo y 0).1 = lo + 4 + y := rfl
theorem hI_n2 : (hI f lo 20 z).1 = lo + 24 + 3 * z := by simp only [hI]
theorem hI_0 : (hI f lo y z).2 lo = some (cSh lo s0) := by simp [hI]
theorem hI_1 : (hI f lo y z).2 (lo + 1) = some (xR 4 20 (fun p => if p < y then some (lo + 4 + p) else none)) := by simp [hI]
theorem hI_3 : (hI f lo y z).2 (lo + 3) = some (xR 3 10 (fun k => if k < z then some (lo + 24 + 3 * k) else none)) := by simp [hI]
theorem lt_up {g : Nat → Option Nat} (hg : g y = some z) : va_up (fun p => if p < y then g p else none) y (some z) = fun p => if p < y + 1 then g p else none := by
  funext p
  by_cases e : p = y
  · subst e; rw [va_up_self, if_pos (by omega), hg]
  · rw [va_up_ne _ _ e]
    by_cases h : p < y
    · rw [if_pos h, if_pos (by omega)]
    · rw [if_neg h, if_neg (by omega)]
theorem hI_p (hy : y < 20) : hp (lo + 4 + y + 1, va_up (hI f lo y 0).2 (lo + 4 + y) (some (cPl (fun _ => 0)))) (lo + 1) (xR 4 20 (va_up (fun p => if p < y then some (lo + 4 + p) else none) y (some (lo + 4 + y)))) = hI f lo (y + 1) 0 := by
  rw [lt_up (g := fun p => some (lo + 4 + p)) rfl]
  refine pair_ext fun x => ?_
  by_cases h1 : x = lo + 1
  · subst h1; rw [va_up_self]; simp
  · rw [va_up_ne _ _ h1]
    dsimp only
    by_cases h2 : x = lo + 4 + y
    · subst h2
      rw [va_up_self, if_neg (by omega), if_neg (by omega), if_neg (by omega), if_neg (by omega), if_pos (by omega)]
    · rw [va_up_ne _ _ h2]
      simp only [hI]
      (repeat' split) <;> first | rfl | omega
theorem hI_o (hz : z < 10) : hp (lo + 24 + 3 * z + 3, va_up (va_up (va_up (va_up (va_up (hI f lo 20 z).2 (lo + 24 + 3 * z) (some (xO 3 [.null, .int 0, .int 0, .int 0, .int 0, .int 0, .int 0]))) (lo + 24 + 3 * z + 1) (some (xO 2 [.null, .int 0]))) (lo + 24 + 3 * z + 1 + 1) (some (xI 12 (fun _ => 0)))) (lo + 24 + 3 * z + 1) (some (cNm (lo + 24 + 3 * z + 1 + 1) 0))) (lo + 24 + 3 * z) (some (cOr (lo + 24 + 3 * z + 1) (fun _ => 0)))) (lo + 3) (xR 3 10 (va_up (fun k => if k < z then some (lo + 24 + 3 * k) else none) z (some (lo + 24 + 3 * z)))) = hI f lo 20 (z + 1) := by
  rw [lt_up (g := fun p => some (lo + 24 + 3 * p)) rfl]
  refine pair_ext fun x => ?_
  by_cases h1 : x = lo + 3
  · subst h1; rw [va_up_self]; simp
  · rw [va_up_ne _ _ h1]
    dsimp only
    by_cases h2 : x = lo + 24 + 3 * z
    · subst h2
      rw [va_up_self, if_neg (by omega), if_neg (by omega), if_neg (by omega), if_neg (by omega), if_neg (by omega), if_pos (by omega), show lo + 24 + 3 * z - (lo + 24) = 3 * z by omega]
      simp only [cO3]
      rw [if_pos (by omega)]
    · rw [va_up_ne _ _ h2]
      by_cases h3 : x = lo + 24 + 3 * z + 1
      · subst h3
        rw [va_up_self, if_neg (by omega), if_neg (by omega), if_neg (by omega), if_neg (by omega), if_neg (by omega), if_pos (by omega), show lo + 24 + 3 * z + 1 - (lo + 24) = 3 * z + 1 by omega]
        simp only [cO3]
        rw [if_neg (by omega), if_pos (by omega)]
      · rw [va_up_ne _ _ h3]
        by_cases h4 : x = lo + 24 + 3 * z + 1 + 1
        · subst h4
          rw [va_up_self, if_neg (by omega), if_neg (by omega), if_neg (by omega), if_neg (by omega), if_neg (by omega), if_pos (by omega), show lo + 24 + 3 * z + 1 + 1 - (lo + 24) = 3 * z + 2 by omega]
          simp only [cO3]
          rw [if_neg (by omega), if_neg (by omega)]
        · rw [va_up_ne _ _ h4, va_up_ne _ _ h3, va_up_ne _ _ h2]
          simp only [hI]
          (repeat' split) <;> first | rfl | omega
theorem hI_end : hI f lo 20 10 = hS (lo + 54, f) lo s0 (fun _ _ => 0) (fun _ => 0) (fun k => k) (fun _ _ => 0) (fun _ => 0) (fun _ _ => 0) := by
  refine pair_ext fun x => ?_
  simp only [plF, rwF]
  (repeat' split) <;> first | rfl | omega
end ZNS
