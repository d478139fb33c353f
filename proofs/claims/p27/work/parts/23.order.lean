/-! TrophyPlates$Order.<init> -/
theorem mdX3_init : zMd yX3_init cX3_init 1 (none) 0 := ⟨cdX3_init, iniX3, ⟨by decide +kernel, by decide +kernel⟩, by decide +kernel, by decide +kernel⟩
def bX3_init : zSS := sSeq ((fun en h => (rL 0 en h).map fun _ => .inl (en, h))) (sFr 3 0 (rL 0) (rNw 2 [.null, .int 0] (aN) fX2_init))
abbrev mX3_init : zM := (cX3_init, RX3, 1, none, { frames := 2, cells := 2, slots := 14, locals := 32 }, true)
set_option maxHeartbeats 400000 in
set_option maxRecDepth 20000 in
theorem kX3_init : saOk mX3_init 0 15 2 14 bX3_init := (saSeq (M := mX3_init) (sa_ss (M := mX3_init) (saInit (M := mX3_init) dX3_init_0 dX3_init_1 okX3_1 imObj cdObj ⟨(Nat.le_of_ble_eq_true rfl), (Nat.le_of_ble_eq_true rfl)⟩)) (saFr (M := mX3_init) (kf := 0) (kR_n (M := mX3_init) dX3_init_4 rfl) (kNwN (M := mX3_init) (ci := 2) dX3_init_5 dX3_init_8 (kaN (M := mX3_init)) dX3_init_9 ctX2_init mdX2_init rfl imX2_init rfl clX2 (dvX2) clX3_7 is2 nkX3_9 ⟨(Nat.le_of_ble_eq_true rfl), (Nat.le_of_ble_eq_true rfl)⟩ (Nat.le_of_ble_eq_true rfl)) dX3_init_12 clX3 lkX3_10 (by decide) rfl rfl rfl (fun _ => rfl) (fun _ => rfl)))
def fX3_init : zFV := fun vs h => (bX3_init vs h).bind fun r => match r with
  | .inl q => some q.2
  | .inr _ => none
theorem ctX3_init : CtV yX3_init cX3_init 1 2 2 14 32 1 fX3_init := ctN mdX3_init (Nat.le_of_ble_eq_true rfl) rfl dX3_init_15 kX3_init
/-! TrophyPlates$Order.copyFrom -/
theorem mdX3_copyFrom : zMd yX3_copyFrom cX3_copyFrom 2 (none) 1 := ⟨cdX3_copyFrom, iniX3, ⟨by decide +kernel, by decide +kernel⟩, by decide +kernel, by decide +kernel⟩
def bX3_copyFrom : zSS := sSeq (sCV 2 (rF 3 0 (rL 0)) (aR (rF 3 0 (rL 1)) (aN)) fX2_copyFrom) (sSeq (sF 3 1 (rL 0) (eF 3 1 (rL 1))) (sSeq (sF 3 2 (rL 0) (eF 3 2 (rL 1))) (sSeq (sF 3 3 (rL 0) (eF 3 3 (rL 1))) (sSeq (sF 3 4 (rL 0) (eF 3 4 (rL 1))) (sSeq (sFz 3 5 (rL 0) (eF 3 5 (rL 1))) (sRv))))))
abbrev mX3_copyFrom : zM := (cX3_copyFrom, RX3, 2, none, { frames := 1, cells := 0, slots := 0, locals := 22 }, false)
set_option maxHeartbeats 400000 in
set_option maxRecDepth 20000 in
theorem kX3_copyFrom : ssOk mX3_copyFrom 0 52 bX3_copyFrom := (kSeq (M := mX3_copyFrom) (ksCV (M := mX3_copyFrom) (ci := 2) (kRF (M := mX3_copyFrom) (kf := 0) (kR_n (M := mX3_copyFrom) dX3_copyFrom_0 rfl) dX3_copyFrom_1 clX3 lkX3_10 (by decide)) (kaR (M := mX3_copyFrom) (kRF (M := mX3_copyFrom) (kf := 0) (kR_n (M := mX3_copyFrom) dX3_copyFrom_4 rfl) dX3_copyFrom_5 clX3 lkX3_10 (by decide)) (kaN (M := mX3_copyFrom))) dX3_copyFrom_8 ctX2_copyFrom mdX2_copyFrom imX2_copyFrom seX2_copyFrom clX2 mkX3_16 ⟨(Nat.le_of_ble_eq_true rfl), (Nat.le_of_ble_eq_true rfl)⟩) (kSeq (M := mX3_copyFrom) (kPF (M := mX3_copyFrom) (kf := 1) (kR_n (M := mX3_copyFrom) dX3_copyFrom_11 rfl) (kF (M := mX3_copyFrom) (kf := 1) (kR_n (M := mX3_copyFrom) dX3_copyFrom_12 rfl) dX3_copyFrom_13 clX3 lkX3_20 (by decide)) dX3_copyFrom_16 clX3 lkX3_20 (by decide) rfl rfl) (kSeq (M := mX3_copyFrom) (kPF (M := mX3_copyFrom) (kf := 2) (kR_n (M := mX3_copyFrom) dX3_copyFrom_19 rfl) (kF (M := mX3_copyFrom) (kf := 2) (kR_n (M := mX3_copyFrom) dX3_copyFrom_20 rfl) dX3_copyFrom_21 clX3 lkX3_24 (by decide)) dX3_copyFrom_24 clX3 lkX3_24 (by decide) rfl rfl) (kSeq (M := mX3_copyFrom) (kPF (M := mX3_copyFrom) (kf := 3) (kR_n (M := mX3_copyFrom) dX3_copyFrom_27 rfl) (kF (M := mX3_copyFrom) (kf := 3) (kR_n (M := mX3_copyFrom) dX3_copyFrom_28 rfl) dX3_copyFrom_29 clX3 lkX3_27 (by decide)) dX3_copyFrom_32 clX3 lkX3_27 (by decide) rfl rfl) (kSeq (M := mX3_copyFrom) (kPF (M := mX3_copyFrom) (kf := 4) (kR_n (M := mX3_copyFrom) dX3_copyFrom_35 rfl) (kF (M := mX3_copyFrom) (kf := 4) (kR_n (M := mX3_copyFrom) dX3_copyFrom_36 rfl) dX3_copyFrom_37 clX3 lkX3_30 (by decide)) dX3_copyFrom_40 clX3 lkX3_30 (by decide) rfl rfl) (kSeq (M := mX3_copyFrom) (kPFz (M := mX3_copyFrom) (kf := 5) (kR_n (M := mX3_copyFrom) dX3_copyFrom_43 rfl) (kF (M := mX3_copyFrom) (kf := 5) (kR_n (M := mX3_copyFrom) dX3_copyFrom_44 rfl) dX3_copyFrom_45 clX3 lkX3_33 (by decide)) dX3_copyFrom_48 clX3 lkX3_33 (by decide) rfl rfl) (kRv (M := mX3_copyFrom) dX3_copyFrom_51)))))))
def fX3_copyFrom : zFV := mV bX3_copyFrom
theorem ctX3_copyFrom : CtV yX3_copyFrom cX3_copyFrom 2 1 0 0 22 2 fX3_copyFrom := ctV mdX3_copyFrom (Nat.le_of_ble_eq_true rfl) kX3_copyFrom
/-! TrophyPlates$Order.nameLength -/
theorem mdX3_nameLength : zMd yX3_nameLength cX3_nameLength 1 (some .int) 0 := ⟨cdX3_nameLength, iniX3, ⟨by decide +kernel, by decide +kernel⟩, by decide +kernel, by decide +kernel⟩
def bX3_nameLength : zSS := sRi (eCV 2 (rF 3 0 (rL 0)) (aI (eF 3 3 (rL 0)) (aN)) fX2_lengthIn)
abbrev mX3_nameLength : zM := (cX3_nameLength, RX3, 1, some .int, { frames := 2, cells := 0, slots := 0, locals := 44 }, false)
set_option maxHeartbeats 400000 in
set_option maxRecDepth 20000 in
theorem kX3_nameLength : ssOk mX3_nameLength 0 12 bX3_nameLength := (kRi (M := mX3_nameLength) (kCV (M := mX3_nameLength) (ci := 2) (kRF (M := mX3_nameLength) (kf := 0) (kR_n (M := mX3_nameLength) dX3_nameLength_0 rfl) dX3_nameLength_1 clX3 lkX3_10 (by decide)) (kaI (M := mX3_nameLength) (kF (M := mX3_nameLength) (kf := 3) (kR_n (M := mX3_nameLength) dX3_nameLength_4 rfl) dX3_nameLength_5 clX3 lkX3_27 (by decide)) (kaN (M := mX3_nameLength))) dX3_nameLength_8 ctX2_lengthIn mdX2_lengthIn imX2_lengthIn seX2_lengthIn clX2 mkX3_37 ⟨(Nat.le_of_ble_eq_true rfl), (Nat.le_of_ble_eq_true rfl)⟩ (Nat.le_of_ble_eq_true rfl)) dX3_nameLength_11)
def fX3_nameLength : zFI := mI bX3_nameLength
theorem ctX3_nameLength : CtI yX3_nameLength cX3_nameLength 1 .int 2 44 1 fX3_nameLength := ctI mdX3_nameLength (Nat.le_of_ble_eq_true rfl) kX3_nameLength
/-! TrophyPlates$Order.effort -/
theorem mdX3_effort : zMd yX3_effort cX3_effort 1 (some .int) 0 := ⟨cdX3_effort, iniX3, ⟨by decide +kernel, by decide +kernel⟩, by decide +kernel, by decide +kernel⟩
def bX3_effort : zSS := sRi (eOp (· * ·) (eF 2 1 (rF 3 0 (rL 0))) (eOp (· + ·) (eF 3 3 (rL 0)) (eF 3 4 (rL 0))))
abbrev mX3_effort : zM := (cX3_effort, RX3, 1, some .int, { frames := 0, cells := 0, slots := 0, locals := 0 }, false)
set_option maxHeartbeats 400000 in
set_option maxRecDepth 20000 in
theorem kX3_effort : ssOk mX3_effort 0 18 bX3_effort := (kRi (M := mX3_effort) (kMul (M := mX3_effort) (kF (M := mX3_effort) (kf := 1) (kRF (M := mX3_effort) (kf := 0) (kR_n (M := mX3_effort) dX3_effort_0 rfl) dX3_effort_1 clX3 lkX3_10 (by decide)) dX3_effort_4 clX2 lkX3_41 (by decide)) (kAdd (M := mX3_effort) (kF (M := mX3_effort) (kf := 3) (kR_n (M := mX3_effort) dX3_effort_7 rfl) dX3_effort_8 clX3 lkX3_27 (by decide)) (kF (M := mX3_effort) (kf := 4) (kR_n (M := mX3_effort) dX3_effort_11 rfl) dX3_effort_12 clX3 lkX3_30 (by decide)) dX3_effort_15) dX3_effort_16) dX3_effort_17)
def fX3_effort : zFI := mI bX3_effort
theorem ctX3_effort : CtI yX3_effort cX3_effort 1 .int 0 0 1 fX3_effort := ctI mdX3_effort (Nat.le_of_ble_eq_true rfl) kX3_effort
