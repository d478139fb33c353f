/-! the class: a shop as one word -/
abbrev cSh (lo : Nat) (s : Nat → Int32) : zX := xO 5 [.ref (lo + 1), .ref (lo + 2), .ref (lo + 3), .int (s 3), .int (s 4), .int (s 5), .int (s 6), .int (s 7), .int (s 8), .int (s 9), .int (s 10), .int (s 11), .int (s 12)]
def plF (lo : Nat) : Nat → Option Nat := fun p => if p < 20 then some (lo + 4 + p) else none
def rwF (lo : Nat) (pi : Nat → Nat) : Nat → Option Nat := fun k => if k < 10 then some (lo + 24 + 3 * pi k) else none
def cO3 (a : Nat) (O : Nat → Nat → Int32) (N : Nat → Int32) (L : Nat → Nat → Int32) (b : Nat) : zX := if b % 3 = 0 then cOr (a + 1) (O (b / 3)) else if b % 3 = 1 then cNm (a + 1) (N (b / 3)) else xI 12 (L (b / 3))
def hS (h : zH) (lo : Nat) (s : Nat → Int32) (P : Nat → Nat → Int32) (pf : Nat → Int32) (pi : Nat → Nat) (O : Nat → Nat → Int32) (N : Nat → Int32) (L : Nat → Nat → Int32) : zH := (h.1, fun a => if a = lo then some (cSh lo s) else if a = lo + 1 then some (xR 4 20 (plF lo)) else if a = lo + 2 then some (xI 3 pf) else if a = lo + 3 then some (xR 3 10 (rwF lo pi)) else if lo + 4 ≤ a ∧ a < lo + 24 then some (cPl (P (a - (lo + 4)))) else if lo + 24 ≤ a ∧ a < lo + 54 then some (cO3 a O N L (a - (lo + 24))) else h.2 a)
section ZS1
variable {h : zH} {lo p j k : Nat} {s pf N : Nat → Int32} {P O L : Nat → Nat → Int32} {pi : Nat → Nat}
theorem s_0 : (hS h lo s P pf pi O N L).2 lo = some (cSh lo s) := by simp [hS]
theorem s_1 : (hS h lo s P pf pi O N L).2 (lo + 1) = some (xR 4 20 (plF lo)) := by simp [hS]
theorem s_2 : (hS h lo s P pf pi O N L).2 (lo + 2) = some (xI 3 pf) := by simp [hS]
theorem s_3 : (hS h lo s P pf pi O N L).2 (lo + 3) = some (xR 3 10 (rwF lo pi)) := by simp [hS]
theorem s_p (hp0 : p < 20) : (hS h lo s P pf pi O N L).2 (lo + 4 + p) = some (cPl (P p)) := by
  simp only [hS]
  rw [if_neg (by omega), if_neg (by omega), if_neg (by omega), if_neg (by omega), if_pos (by omega), show lo + 4 + p - (lo + 4) = p by omega]
theorem s_o (hj : j < 10) : (hS h lo s P pf pi O N L).2 (lo + 24 + 3 * j) = some (cOr (lo + 24 + 3 * j + 1) (O j)) := by
  simp only [hS, cO3]
  rw [if_neg (by omega), if_neg (by omega), if_neg (by omega), if_neg (by omega), if_neg (by omega), if_pos (by omega), show lo + 24 + 3 * j - (lo + 24) = 3 * j by omega, if_pos (by omega), show 3 * j / 3 = j by omega]
theorem s_n (hj : j < 10) : (hS h lo s P pf pi O N L).2 (lo + 24 + 3 * j + 1) = some (cNm (lo + 24 + 3 * j + 2) (N j)) := by
  simp only [hS, cO3]
  rw [if_neg (by omega), if_neg (by omega), if_neg (by omega), if_neg (by omega), if_neg (by omega), if_pos (by omega), show lo + 24 + 3 * j + 1 - (lo + 24) = 3 * j + 1 by omega, if_neg (by omega), if_pos (by omega), show (3 * j + 1) / 3 = j by omega]
theorem s_l (hj : j < 10) : (hS h lo s P pf pi O N L).2 (lo + 24 + 3 * j + 2) = some (xI 12 (L j)) := by
  simp only [hS, cO3]
  rw [if_neg (by omega), if_neg (by omega), if_neg (by omega), if_neg (by omega), if_neg (by omega), if_pos (by omega), show lo + 24 + 3 * j + 2 - (lo + 24) = 3 * j + 2 by omega, if_neg (by omega), if_neg (by omega), show (3 * j + 2) / 3 = j by omega]
theorem ws_0 (s' : Nat → Int32) : hp (hS h lo s P pf pi O N L) lo (cSh lo s') = hS h lo s' P pf pi O N L := by
  refine pair_ext fun x => ?_
  by_cases hx : x = lo
  · subst hx; simp [va_up]
  · simp [va_up_ne _ _ hx, hS, hx]
theorem ws_2 (V : Nat → Int32) : hp (hS h lo s P pf pi O N L) (lo + 2) (xI 3 V) = hS h lo s P V pi O N L := by
  refine pair_ext fun x => ?_
  by_cases hx : x = lo + 2
  · subst hx; simp [va_up]
  · simp [va_up_ne _ _ hx, hS, hx]
theorem ws_3 (hk : k < 10) : hp (hS h lo s P pf pi O N L) (lo + 3) (xR 3 10 (va_up (rwF lo pi) k (some (lo + 24 + 3 * j)))) = hS h lo s P pf (va_up pi k j) O N L := by
  have e : va_up (rwF lo pi) k (some (lo + 24 + 3 * j)) = rwF lo (va_up pi k j) := by
    funext y
    by_cases hy : y = k
    · subst hy; simp [rwF, va_up, hk]
    · simp [rwF, va_up_ne _ _ hy]
  rw [e]
  refine pair_ext fun x => ?_
  by_cases hx : x = lo + 3
  · subst hx; simp [va_up]
  · simp [va_up_ne _ _ hx, hS, hx]
theorem ws_p (hp0 : p < 20) (g' : Nat → Int32) : hp (hS h lo s P pf pi O N L) (lo + 4 + p) (cPl g') = hS h lo s (va_up P p g') pf pi O N L := by
  refine pair_ext fun x => ?_
  by_cases hx : x = lo + 4 + p
  · have := s_p (h := h) (lo := lo) (s := s) (P := va_up P p g') (pf := pf) (pi := pi) (O := O) (N := N) (L := L) hp0
    rw [va_up_self] at this
    rw [hx, va_up_self]
    exact this.symm
  · rw [va_up_ne _ _ hx]
    simp only [hS]
    by_cases h4 : lo + 4 ≤ x ∧ x < lo + 24
    · rw [if_neg (by omega), if_neg (by omega), if_neg (by omega), if_neg (by omega), if_pos h4, if_neg (by omega), if_neg (by omega), if_neg (by omega), if_neg (by omega), if_pos h4, va_up_ne _ _ (by omega)]
    · simp only [if_neg h4]
theorem ws_o (hj : j < 10) (g' : Nat → Int32) : hp (hS h lo s P pf pi O N L) (lo + 24 + 3 * j) (cOr (lo + 24 + 3 * j + 1) g') = hS h lo s P pf pi (va_up O j g') N L := by
  refine pair_ext fun x => ?_
  by_cases hx : x = lo + 24 + 3 * j
  · have := s_o (h := h) (lo := lo) (s := s) (P := P) (pf := pf) (pi := pi) (O := va_up O j g') (N := N) (L := L) hj
    rw [va_up_self] at this
    rw [hx, va_up_self]
    exact this.symm
  · rw [va_up_ne _ _ hx]
    simp only [hS]
    by_cases h4 : lo + 24 ≤ x ∧ x < lo + 54
    · rw [if_neg (by omega), if_neg (by omega), if_neg (by omega), if_neg (by omega), if_neg (by omega), if_pos h4, if_neg (by omega), if_neg (by omega), if_neg (by omega), if_neg (by omega), if_neg (by omega), if_pos h4]
      simp only [cO3]
      by_cases h0 : (x - (lo + 24)) % 3 = 0
      · rw [if_pos h0, if_pos h0, va_up_ne _ _ (by omega)]
      · rw [if_neg h0, if_neg h0]
    · simp only [if_neg h4]
theorem ws_n (hj : j < 10) (v : Int32) : hp (hS h lo s P pf pi O N L) (lo + 24 + 3 * j + 1) (cNm (lo + 24 + 3 * j + 2) v) = hS h lo s P pf pi O (va_up N j v) L := by
  refine pair_ext fun x => ?_
  by_cases hx : x = lo + 24 + 3 * j + 1
  · have := s_n (h := h) (lo := lo) (s := s) (P := P) (pf := pf) (pi := pi) (O := O) (N := va_up N j v) (L := L) hj
    rw [va_up_self] at this
    rw [hx, va_up_self]
    exact this.symm
  · rw [va_up_ne _ _ hx]
    simp only [hS]
    by_cases h4 : lo + 24 ≤ x ∧ x < lo + 54
    · rw [if_neg (by omega), if_neg (by omega), if_neg (by omega), if_neg (by omega), if_neg (by omega), if_pos h4, if_neg (by omega), if_neg (by omega), if_neg (by omega), if_neg (by omega), if_neg (by omega), if_pos h4]
      simp only [cO3]
      by_cases h0 : (x - (lo + 24)) % 3 = 0
      · rw [if_pos h0, if_pos h0]
      · rw [if_neg h0, if_neg h0]
        by_cases h1 : (x - (lo + 24)) % 3 = 1
        · rw [if_pos h1, if_pos h1, va_up_ne _ _ (by omega)]
        · rw [if_neg h1, if_neg h1]
    · simp only [if_neg h4]
theorem ws_l (hj : j < 10) (V : Nat → Int32) : hp (hS h lo s P pf pi O N L) (lo + 24 + 3 * j + 2) (xI 12 V) = hS h lo s P pf pi O N (va_up L j V) := by
  refine pair_ext fun x => ?_
  by_cases hx : x = lo + 24 + 3 * j + 2
  · have := s_l (h := h) (lo := lo) (s := s) (P := P) (pf := pf) (pi := pi) (O := O) (N := N) (L := va_up L j V) hj
    rw [va_up_self] at this
    rw [hx, va_up_self]
    exact this.symm
  · rw [va_up_ne _ _ hx]
    simp only [hS]
    by_cases h4 : lo + 24 ≤ x ∧ x < lo + 54
    · rw [if_neg (by omega), if_neg (by omega), if_neg (by omega), if_neg (by omega), if_neg (by omega), if_pos h4, if_neg (by omega), if_neg (by omega), if_neg (by omega), if_neg (by omega), if_neg (by omega), if_pos h4]
      simp only [cO3]
      by_cases h0 : (x - (lo + 24)) % 3 = 0
      · rw [if_pos h0, if_pos h0]
      · rw [if_neg h0, if_neg h0]
        by_cases h1 : (x - (lo + 24)) % 3 = 1
        · rw [if_pos h1, if_pos h1]
        · rw [if_neg h1, if_neg h1, va_up_ne _ _ (by omega)]
    · simp only [if_neg h4]
/-! reads and writes by name -/
theorem rS0 : rdR (hS h lo s P pf pi O N L) 5 0 lo = some (lo + 1) := rdR_of s_0 rfl
theorem rS1 : rdR (hS h lo s P pf pi O N L) 5 1 lo = some (lo + 2) := rdR_of s_0 rfl
theorem rS2 : rdR (hS h lo s P pf pi O N L) 5 2 lo = some (lo + 3) := rdR_of s_0 rfl
theorem isS : isO (hS h lo s P pf pi O N L) 5 lo = true := isO_of s_0
theorem isPl (hp0 : p < 20) : isO (hS h lo s P pf pi O N L) 4 (lo + 4 + p) = true := isO_of (s_p hp0)
theorem isOr (hj : j < 10) : isO (hS h lo s P pf pi O N L) 3 (lo + 24 + 3 * j) = true := isO_of (s_o hj)
theorem isNm (hj : j < 10) : isO (hS h lo s P pf pi O N L) 2 (lo + 24 + 3 * j + 1) = true := isO_of (s_n hj)
theorem qPl (hp0 : p < 20) : rdQ (hS h lo s P pf pi O N L) 4 (lo + 1) (nI p) = some (lo + 4 + p) := rdQ_of s_1 hp0 (by omega) (by simp [plF, hp0])
theorem qRw (hk : k < 10) : rdQ (hS h lo s P pf pi O N L) 3 (lo + 3) (nI k) = some (lo + 24 + 3 * pi k) := rdQ_of s_3 hk (by omega) (by simp [rwF, hk])
theorem wRw (hk : k < 10) (hj : j < 10) : wrQ (hS h lo s P pf pi O N L) 3 (lo + 3) (nI k) (lo + 24 + 3 * j) = some (hS h lo s P pf (va_up pi k j) O N L) := by
  rw [wrQ_of s_3 hk (by omega) (isOr hj), ws_3 hk]
theorem rNm (hj : j < 10) : rdR (hS h lo s P pf pi O N L) 3 0 (lo + 24 + 3 * j) = some (lo + 24 + 3 * j + 1) := rdR_of (s_o hj) rfl
theorem rCt (hj : j < 10) : rdI (hS h lo s P pf pi O N L) 2 1 (lo + 24 + 3 * j + 1) = some (N j) := rdI_of (s_n hj) rfl
theorem aPf (hj : j < 3) : rdA (hS h lo s P pf pi O N L) (lo + 2) (nI j) = some (pf j) := rdA_of s_2 hj (by omega)
theorem wPf (hj : j < 3) (v : Int32) : wrA (hS h lo s P pf pi O N L) (lo + 2) (nI j) v = some (hS h lo s P (upd pf j v) pi O N L) := by rw [wrA_of s_2 hj (by omega), ws_2]
theorem rs3 : rdI (hS h lo s P pf pi O N L) 5 3 lo = some (s 3) := rdI_of s_0 rfl
theorem wsh3 (v : Int32) : wrO (hS h lo s P pf pi O N L) 5 3 lo (.int v) = some (hS h lo (upd s 3 v) P pf pi O N L) := by
  have e := ws_0 (h := h) (lo := lo) (s := s) (P := P) (pf := pf) (pi := pi) (O := O) (N := N) (L := L) (upd s 3 v)
  rw [wrO_of s_0 (by simp), ← e]
  rfl
theorem rs4 : rdI (hS h lo s P pf pi O N L) 5 4 lo = some (s 4) := rdI_of s_0 rfl
theorem wsh4 (v : Int32) : wrO (hS h lo s P pf pi O N L) 5 4 lo (.int v) = some (hS h lo (upd s 4 v) P pf pi O N L) := by
  have e := ws_0 (h := h) (lo := lo) (s := s) (P := P) (pf := pf) (pi := pi) (O := O) (N := N) (L := L) (upd s 4 v)
  rw [wrO_of s_0 (by simp), ← e]
  rfl
theorem rs5 : rdI (hS h lo s P pf pi O N L) 5 5 lo = some (s 5) := rdI_of s_0 rfl
theorem wsh5 (v : Int32) : wrO (hS h lo s P pf pi O N L) 5 5 lo (.int v) = some (hS h lo (upd s 5 v) P pf pi O N L) := by
  have e := ws_0 (h := h) (lo := lo) (s := s) (P := P) (pf := pf) (pi := pi) (O := O) (N := N) (L := L) (upd s 5 v)
  rw [wrO_of s_0 (by simp), ← e]
  rfl
theorem rs6 : rdI (hS h lo s P pf pi O N L) 5 6 lo = some (s 6) := rdI_of s_0 rfl
theorem wsh6 (v : Int32) : wrO (hS h lo s P pf pi O N L) 5 6 lo (.int v) = some (hS h lo (upd s 6 v) P pf pi O N L) := by
  have e := ws_0 (h := h) (lo := lo) (s := s) (P := P) (pf := pf) (pi := pi) (O := O) (N := N) (L := L) (upd s 6 v)
  rw [wrO_of s_0 (by simp), ← e]
  rfl
theorem rs7 : rdI (hS h lo s P pf pi O N L) 5 7 lo = some (s 7) := rdI_of s_0 rfl
theorem wsh7 (v : Int32) : wrO (hS h lo s P pf pi O N L) 5 7 lo (.int v) = some (hS h lo (upd s 7 v) P pf pi O N L) := by
  have e := ws_0 (h := h) (lo := lo) (s := s) (P := P) (pf := pf) (pi := pi) (O := O) (N := N) (L := L) (upd s 7 v)
  rw [wrO_of s_0 (by simp), ← e]
  rfl
theorem rs8 : rdI (hS h lo s P pf pi O N L) 5 8 lo = some (s 8) := rdI_of s_0 rfl
theorem wsh8 (v : Int32) : wrO (hS h lo s P pf pi O N L) 5 8 lo (.int v) = some (hS h lo (upd s 8 v) P pf pi O N L) := by
  have e := ws_0 (h := h) (lo := lo) (s := s) (P := P) (pf := pf) (pi := pi) (O := O) (N := N) (L := L) (upd s 8 v)
  rw [wrO_of s_0 (by simp), ← e]
  rfl
theorem rs9 : rdI (hS h lo s P pf pi O N L) 5 9 lo = some (s 9) := rdI_of s_0 rfl
theorem wsh9 (v : Int32) : wrO (hS h lo s P pf pi O N L) 5 9 lo (.int v) = some (hS h lo (upd s 9 v) P pf pi O N L) := by
  have e := ws_0 (h := h) (lo := lo) (s := s) (P := P) (pf := pf) (pi := pi) (O := O) (N := N) (L := L) (upd s 9 v)
  rw [wrO_of s_0 (by simp), ← e]
  rfl
theorem rs10 : rdI (hS h lo s P pf pi O N L) 5 10 lo = some (s 10) := rdI_of s_0 rfl
theorem wsh10 (v : Int32) : wrO (hS h lo s P pf pi O N L) 5 10 lo (.int v) = some (hS h lo (upd s 10 v) P pf pi O N L) := by
  have e := ws_0 (h := h) (lo := lo) (s := s) (P := P) (pf := pf) (pi := pi) (O := O) (N := N) (L := L) (upd s 10 v)
  rw [wrO_of s_0 (by simp), ← e]
  rfl
theorem rs11 : rdI (hS h lo s P pf pi O N L) 5 11 lo = some (s 11) := rdI_of s_0 rfl
theorem wsh11 (v : Int32) : wrO (hS h lo s P pf pi O N L) 5 11 lo (.int v) = some (hS h lo (upd s 11 v) P pf pi O N L) := by
  have e := ws_0 (h := h) (lo := lo) (s := s) (P := P) (pf := pf) (pi := pi) (O := O) (N := N) (L := L) (upd s 11 v)
  rw [wrO_of s_0 (by simp), ← e]
  rfl
theorem rs12 : rdI (hS h lo s P pf pi O N L) 5 12 lo = some (s 12) := rdI_of s_0 rfl
theorem wsh12 (v : Int32) : wrO (hS h lo s P pf pi O N L) 5 12 lo (.int v) = some (hS h lo (upd s 12 v) P pf pi O N L) := by
  have e := ws_0 (h := h) (lo := lo) (s := s) (P := P) (pf := pf) (pi := pi) (O := O) (N := N) (L := L) (upd s 12 v)
  rw [wrO_of s_0 (by simp), ← e]
  rfl
theorem rpl0 (hp0 : p < 20) : rdI (hS h lo s P pf pi O N L) 4 0 (lo + 4 + p) = some (P p 0) := rdI_of (s_p hp0) rfl
theorem wp0 (hp0 : p < 20) (v : Int32) : wrO (hS h lo s P pf pi O N L) 4 0 (lo + 4 + p) (.int v) = some (hS h lo s (va_up P p (upd (P p) 0 v)) pf pi O N L) := by
  have e := ws_p (h := h) (lo := lo) (s := s) (P := P) (pf := pf) (pi := pi) (O := O) (N := N) (L := L) hp0 (upd (P p) 0 v)
  rw [wrO_of (s_p hp0) (by simp), ← e]
  rfl
theorem rpl1 (hp0 : p < 20) : rdI (hS h lo s P pf pi O N L) 4 1 (lo + 4 + p) = some (P p 1) := rdI_of (s_p hp0) rfl
theorem wp1 (hp0 : p < 20) (v : Int32) : wrO (hS h lo s P pf pi O N L) 4 1 (lo + 4 + p) (.int v) = some (hS h lo s (va_up P p (upd (P p) 1 v)) pf pi O N L) := by
  have e := ws_p (h := h) (lo := lo) (s := s) (P := P) (pf := pf) (pi := pi) (O := O) (N := N) (L := L) hp0 (upd (P p) 1 v)
  rw [wrO_of (s_p hp0) (by simp), ← e]
  rfl
theorem rpl2 (hp0 : p < 20) : rdI (hS h lo s P pf pi O N L) 4 2 (lo + 4 + p) = some (P p 2) := rdI_of (s_p hp0) rfl
theorem wp2 (hp0 : p < 20) (v : Int32) : wrO (hS h lo s P pf pi O N L) 4 2 (lo + 4 + p) (.int v) = some (hS h lo s (va_up P p (upd (P p) 2 v)) pf pi O N L) := by
  have e := ws_p (h := h) (lo := lo) (s := s) (P := P) (pf := pf) (pi := pi) (O := O) (N := N) (L := L) hp0 (upd (P p) 2 v)
  rw [wrO_of (s_p hp0) (by simp), ← e]
  rfl
theorem rpl3 (hp0 : p < 20) : rdI (hS h lo s P pf pi O N L) 4 3 (lo + 4 + p) = some (P p 3) := rdI_of (s_p hp0) rfl
theorem wp3 (hp0 : p < 20) (v : Int32) : wrO (hS h lo s P pf pi O N L) 4 3 (lo + 4 + p) (.int v) = some (hS h lo s (va_up P p (upd (P p) 3 v)) pf pi O N L) := by
  have e := ws_p (h := h) (lo := lo) (s := s) (P := P) (pf := pf) (pi := pi) (O := O) (N := N) (L := L) hp0 (upd (P p) 3 v)
  rw [wrO_of (s_p hp0) (by simp), ← e]
  rfl
theorem rpl4 (hp0 : p < 20) : rdI (hS h lo s P pf pi O N L) 4 4 (lo + 4 + p) = some (P p 4) := rdI_of (s_p hp0) rfl
theorem wp4 (hp0 : p < 20) (v : Int32) : wrO (hS h lo s P pf pi O N L) 4 4 (lo + 4 + p) (.int v) = some (hS h lo s (va_up P p (upd (P p) 4 v)) pf pi O N L) := by
  have e := ws_p (h := h) (lo := lo) (s := s) (P := P) (pf := pf) (pi := pi) (O := O) (N := N) (L := L) hp0 (upd (P p) 4 v)
  rw [wrO_of (s_p hp0) (by simp), ← e]
  rfl
theorem rpl5 (hp0 : p < 20) : rdI (hS h lo s P pf pi O N L) 4 5 (lo + 4 + p) = some (P p 5) := rdI_of (s_p hp0) rfl
theorem wp5 (hp0 : p < 20) (v : Int32) : wrO (hS h lo s P pf pi O N L) 4 5 (lo + 4 + p) (.int v) = some (hS h lo s (va_up P p (upd (P p) 5 v)) pf pi O N L) := by
  have e := ws_p (h := h) (lo := lo) (s := s) (P := P) (pf := pf) (pi := pi) (O := O) (N := N) (L := L) hp0 (upd (P p) 5 v)
  rw [wrO_of (s_p hp0) (by simp), ← e]
  rfl
theorem rpl6 (hp0 : p < 20) : rdI (hS h lo s P pf pi O N L) 4 6 (lo + 4 + p) = some (P p 6) := rdI_of (s_p hp0) rfl
theorem wp6 (hp0 : p < 20) (v : Int32) : wrO (hS h lo s P pf pi O N L) 4 6 (lo + 4 + p) (.int v) = some (hS h lo s (va_up P p (upd (P p) 6 v)) pf pi O N L) := by
  have e := ws_p (h := h) (lo := lo) (s := s) (P := P) (pf := pf) (pi := pi) (O := O) (N := N) (L := L) hp0 (upd (P p) 6 v)
  rw [wrO_of (s_p hp0) (by simp), ← e]
  rfl
theorem ro1 (hj : j < 10) : rdI (hS h lo s P pf pi O N L) 3 1 (lo + 24 + 3 * j) = some (O j 0) := rdI_of (s_o hj) rfl
theorem wo1 (hj : j < 10) (v : Int32) : wrO (hS h lo s P pf pi O N L) 3 1 (lo + 24 + 3 * j) (.int v) = some (hS h lo s P pf pi (va_up O j (upd (O j) 0 v)) N L) := by
  have e := ws_o (h := h) (lo := lo) (s := s) (P := P) (pf := pf) (pi := pi) (O := O) (N := N) (L := L) hj (upd (O j) 0 v)
  rw [wrO_of (s_o hj) (by simp), ← e]
  rfl
theorem ro2 (hj : j < 10) : rdI (hS h lo s P pf pi O N L) 3 2 (lo + 24 + 3 * j) = some (O j 1) := rdI_of (s_o hj) rfl
theorem wo2 (hj : j < 10) (v : Int32) : wrO (hS h lo s P pf pi O N L) 3 2 (lo + 24 + 3 * j) (.int v) = some (hS h lo s P pf pi (va_up O j (upd (O j) 1 v)) N L) := by
  have e := ws_o (h := h) (lo := lo) (s := s) (P := P) (pf := pf) (pi := pi) (O := O) (N := N) (L := L) hj (upd (O j) 1 v)
  rw [wrO_of (s_o hj) (by simp), ← e]
  rfl
theorem ro3 (hj : j < 10) : rdI (hS h lo s P pf pi O N L) 3 3 (lo + 24 + 3 * j) = some (O j 2) := rdI_of (s_o hj) rfl
theorem wo3 (hj : j < 10) (v : Int32) : wrO (hS h lo s P pf pi O N L) 3 3 (lo + 24 + 3 * j) (.int v) = some (hS h lo s P pf pi (va_up O j (upd (O j) 2 v)) N L) := by
  have e := ws_o (h := h) (lo := lo) (s := s) (P := P) (pf := pf) (pi := pi) (O := O) (N := N) (L := L) hj (upd (O j) 2 v)
  rw [wrO_of (s_o hj) (by simp), ← e]
  rfl
theorem ro4 (hj : j < 10) : rdI (hS h lo s P pf pi O N L) 3 4 (lo + 24 + 3 * j) = some (O j 3) := rdI_of (s_o hj) rfl
theorem wo4 (hj : j < 10) (v : Int32) : wrO (hS h lo s P pf pi O N L) 3 4 (lo + 24 + 3 * j) (.int v) = some (hS h lo s P pf pi (va_up O j (upd (O j) 3 v)) N L) := by
  have e := ws_o (h := h) (lo := lo) (s := s) (P := P) (pf := pf) (pi := pi) (O := O) (N := N) (L := L) hj (upd (O j) 3 v)
  rw [wrO_of (s_o hj) (by simp), ← e]
  rfl
theorem ro5 (hj : j < 10) : rdI (hS h lo s P pf pi O N L) 3 5 (lo + 24 + 3 * j) = some (O j 4) := rdI_of (s_o hj) rfl
theorem wo5 (hj : j < 10) (v : Int32) : wrO (hS h lo s P pf pi O N L) 3 5 (lo + 24 + 3 * j) (.int v) = some (hS h lo s P pf pi (va_up O j (upd (O j) 4 v)) N L) := by
  have e := ws_o (h := h) (lo := lo) (s := s) (P := P) (pf := pf) (pi := pi) (O := O) (N := N) (L := L) hj (upd (O j) 4 v)
  rw [wrO_of (s_o hj) (by simp), ← e]
  rfl
theorem ro6 (hj : j < 10) : rdI (hS h lo s P pf pi O N L) 3 6 (lo + 24 + 3 * j) = some (O j 5) := rdI_of (s_o hj) rfl
theorem wo6 (hj : j < 10) (v : Int32) : wrO (hS h lo s P pf pi O N L) 3 6 (lo + 24 + 3 * j) (.int v) = some (hS h lo s P pf pi (va_up O j (upd (O j) 5 v)) N L) := by
  have e := ws_o (h := h) (lo := lo) (s := s) (P := P) (pf := pf) (pi := pi) (O := O) (N := N) (L := L) hj (upd (O j) 5 v)
  rw [wrO_of (s_o hj) (by simp), ← e]
  rfl
end ZS1
