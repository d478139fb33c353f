/-! the class: a shop is copied -/
def cp5 (o o' : Nat → Int32) : Nat → Int32 := upd (upd (upd (upd (upd o 0 (o' 0)) 1 (o' 1)) 2 (o' 2)) 3 (o' 3)) 4 (o' 4)
def cpO (O O' : Nat → Nat → Int32) (pi pi' : Nat → Nat) : Nat → (Nat → Nat → Int32)
  | 0 => O
  | n + 1 => va_up (cpO O O' pi pi' n) (pi n) (cp5 (cpO O O' pi pi' n (pi n)) (O' (pi' n)))
def cpN (N N' : Nat → Int32) (pi pi' : Nat → Nat) : Nat → (Nat → Int32)
  | 0 => N
  | n + 1 => va_up (cpN N N' pi pi' n) (pi n) (N' (pi' n))
def cpL (L L' : Nat → Nat → Int32) (pi pi' : Nat → Nat) : Nat → (Nat → Nat → Int32)
  | 0 => L
  | n + 1 => va_up (cpL L L' pi pi' n) (pi n) (cpTo (cpL L L' pi pi' n (pi n)) (L' (pi' n)) 12)
def cpP (P P' : Nat → Nat → Int32) (n : Nat) : Nat → Nat → Int32 := fun p => if p < n then P' p else P p
theorem cpP_s (P P' : Nat → Nat → Int32) (n : Nat) : va_up (cpP P P' n) n (P' n) = cpP P P' (n + 1) := by
  funext p
  by_cases e : p = n
  · subst e; rw [va_up_self]; simp [cpP]
  · rw [va_up_ne _ _ e]
    simp only [cpP]
    by_cases h : p < n
    · rw [if_pos h, if_pos (by omega)]
    · rw [if_neg h, if_neg (by omega)]
theorem cpP_0 (P P' : Nat → Nat → Int32) : cpP P P' 0 = P := by funext p; simp [cpP]
/-- the shop at a is c -/
def At (h : zH) (a : Nat) (s : Nat → Int32) (P : Nat → Nat → Int32) (pf : Nat → Int32) (pi : Nat → Nat) (O : Nat → Nat → Int32) (N : Nat → Int32) (L : Nat → Nat → Int32) : Prop := ∀ x, a ≤ x → x < a + 54 → h.2 x = (hS h a s P pf pi O N L).2 x
section ZAT
variable {h h' : zH} {a lo p j k n : Nat} {s pf N s' pf' N' : Nat → Int32} {P O L P' O' L' : Nat → Nat → Int32} {pi pi' : Nat → Nat}
theorem At_eq (e : At h a s P pf pi O N L) : hS h a s P pf pi O N L = h := by
  refine pair_ext fun x => ?_
  by_cases hx : a ≤ x ∧ x < a + 54
  · exact (e x hx.1 hx.2).symm
  · exact hS_ne (h := h) (s := s) (P := P) (pf := pf) (pi := pi) (O := O) (N := N) (L := L) (by omega)
theorem hS_in {x : Nat} (h1 : a ≤ x) (h2 : x < a + 54) : (hS h a s P pf pi O N L).2 x = (hS h' a s P pf pi O N L).2 x := by
  simp only [hS]
  by_cases e : a + 24 ≤ x ∧ x < a + 54
  · rw [if_pos e, if_pos e]
  · (repeat' split) <;> first | rfl | omega
theorem At_self : At (hS h a s P pf pi O N L) a s P pf pi O N L := fun x h1 h2 => hS_in h1 h2
theorem At_keep (e : At h a s P pf pi O N L) (k : ∀ x, a ≤ x → x < a + 54 → h'.2 x = h.2 x) : At h' a s P pf pi O N L := fun x h1 h2 => by
  rw [k x h1 h2, e x h1 h2]
  exact hS_in h1 h2
theorem At_hS (e : At h a s P pf pi O N L) (d : a + 54 ≤ lo ∨ lo + 54 ≤ a) : At (hS h lo s' P' pf' pi' O' N' L') a s P pf pi O N L :=
  At_keep e (fun x h1 h2 => hS_ne (by omega))
theorem a_0 (e : At h a s P pf pi O N L) : h.2 a = some (cSh a s) := by rw [← At_eq e]; exact s_0
theorem a_1 (e : At h a s P pf pi O N L) : h.2 (a + 1) = some (xR 4 20 (plF a)) := by rw [← At_eq e]; exact s_1
theorem a_2 (e : At h a s P pf pi O N L) : h.2 (a + 2) = some (xI 3 pf) := by rw [← At_eq e]; exact s_2
theorem a_3 (e : At h a s P pf pi O N L) : h.2 (a + 3) = some (xR 3 10 (rwF a pi)) := by rw [← At_eq e]; exact s_3
theorem a_p (e : At h a s P pf pi O N L) (hp0 : p < 20) : h.2 (a + 4 + p) = some (cPl (P p)) := by rw [← At_eq e]; exact s_p hp0
theorem a_o (e : At h a s P pf pi O N L) (hj : j < 10) : h.2 (a + 24 + 3 * j) = some (cOr (a + 24 + 3 * j + 1) (O j)) := by rw [← At_eq e]; exact s_o hj
theorem a_n (e : At h a s P pf pi O N L) (hj : j < 10) : h.2 (a + 24 + 3 * j + 1) = some (cNm (a + 24 + 3 * j + 2) (N j)) := by rw [← At_eq e]; exact s_n hj
theorem a_l (e : At h a s P pf pi O N L) (hj : j < 10) : h.2 (a + 24 + 3 * j + 2) = some (xI 12 (L j)) := by rw [← At_eq e]; exact s_l hj
end ZAT
section ZCP
variable {h : zH} {a lo p j j' k n nP nS nO : Nat} {s pf N s' pf' N' : Nat → Int32} {P O L P' O' L' : Nat → Nat → Int32} {pi pi' : Nat → Nat}
/-- an order is copied -/
theorem X3_copyAt (e : At h a s' P' pf' pi' O' N' L') (d : a + 54 ≤ lo ∨ lo + 54 ≤ a) (hj : j < 10) (hj' : j' < 10) (hN : N' j' = nI n) (h4 : O' j' 4 = 0 ∨ O' j' 4 = 1) :
    fX3_copyFrom [.ref (lo + 24 + 3 * j), .ref (a + 24 + 3 * j')] (hS h lo s P pf pi O N L) = some (hS h lo s P pf pi (va_up O j (cp5 (O j) (O' j'))) (va_up N j (nI n)) (va_up L j (cpTo (L j) (L' j') 12))) := by
  have e0 : ∀ (s : Nat → Int32) (P : Nat → Nat → Int32) (pf : Nat → Int32) (pi : Nat → Nat) (O : Nat → Nat → Int32) (N : Nat → Int32) (L : Nat → Nat → Int32), At (hS h lo s P pf pi O N L) a s' P' pf' pi' O' N' L' := fun _ _ _ _ _ _ _ => At_hS e d
  have ro : ∀ (x : Nat) (O : Nat → Nat → Int32) (N : Nat → Int32) (L : Nat → Nat → Int32), x < 6 → rdI (hS h lo s P pf pi O N L) 3 (x + 1) (a + 24 + 3 * j') = some (O' j' x) := fun x O N L hx => by
    refine rdI_of (a_o (e0 s P pf pi O N L) hj') ?_
    match x, hx with
    | 0, _ => rfl
    | 1, _ => rfl
    | 2, _ => rfl
    | 3, _ => rfl
    | 4, _ => rfl
    | 5, _ => rfl
  have rn : rdR (hS h lo s P pf pi O N L) 3 0 (a + 24 + 3 * j') = some (a + 24 + 3 * j' + 1) := rdR_of (a_o (e0 s P pf pi O N L) hj') rfl
  have bn := a_n (e0 s P pf pi O N L) hj'
  rw [hN] at bn
  have cpy := X2_copyFrom (s_n (h := h) (lo := lo) (s := s) (P := P) (pf := pf) (pi := pi) (O := O) (N := N) (L := L) hj) (s_l (h := h) (lo := lo) (s := s) (P := P) (pf := pf) (pi := pi) (O := O) (N := N) (L := L) hj) bn (a_l (e0 s P pf pi O N L) hj') (by omega) (by omega) (by omega) (by omega) (by omega)
  rw [ws_n hj, ws_l hj] at cpy
  have r0 := fun (O : Nat → Nat → Int32) (N : Nat → Int32) (L : Nat → Nat → Int32) => ro 0 O N L (by omega)
  have r1 := fun (O : Nat → Nat → Int32) (N : Nat → Int32) (L : Nat → Nat → Int32) => ro 1 O N L (by omega)
  have r2 := fun (O : Nat → Nat → Int32) (N : Nat → Int32) (L : Nat → Nat → Int32) => ro 2 O N L (by omega)
  have r3 := fun (O : Nat → Nat → Int32) (N : Nat → Int32) (L : Nat → Nat → Int32) => ro 3 O N L (by omega)
  have r4 := fun (O : Nat → Nat → Int32) (N : Nat → Int32) (L : Nat → Nat → Int32) => ro 4 O N L (by omega)
  simp only [Nat.reduceAdd] at r0 r1 r2 r3 r4
  simp [fX3_copyFrom, bX3_copyFrom, mV, sSeq, sCV, rF, rL, rNm hj, aR, aN, rn, isNm hj, cpy, sF, eF, r0, wo1 hj, r1, wo2 hj, r2, wo3 hj, r3, wo4 hj, sFz, r4, h4, wo5 hj, sRv, va_up_self, up_up, cp5]
end ZCP
