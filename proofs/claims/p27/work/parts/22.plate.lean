/-! TrophyPlates$Plate.<init> -/
theorem mdX4_init : zMd yX4_init cX4_init 1 (none) 0 := ⟨cdX4_init, iniX4, ⟨by decide +kernel, by decide +kernel⟩, by decide +kernel, by decide +kernel⟩
def bX4_init : zSS := (fun en h => (rL 0 en h).map fun _ => .inl (en, h))
abbrev mX4_init : zM := (cX4_init, RX4, 1, none, { frames := 1, cells := 0, slots := 0, locals := 12 }, true)
set_option maxHeartbeats 400000 in
set_option maxRecDepth 20000 in
theorem kX4_init : saOk mX4_init 0 4 0 0 bX4_init := (sa_ss (M := mX4_init) (saInit (M := mX4_init) dX4_init_0 dX4_init_1 okX4_3 imObj cdObj ⟨(Nat.le_of_ble_eq_true rfl), (Nat.le_of_ble_eq_true rfl)⟩))
def fX4_init : zFV := fun vs h => (bX4_init vs h).bind fun r => match r with
  | .inl q => some q.2
  | .inr _ => none
theorem ctX4_init : CtV yX4_init cX4_init 1 1 0 0 12 1 fX4_init := ctN mdX4_init (Nat.le_of_ble_eq_true rfl) rfl dX4_init_4 kX4_init
/-! TrophyPlates$Plate.copyFrom -/
theorem mdX4_copyFrom : zMd yX4_copyFrom cX4_copyFrom 2 (none) 1 := ⟨cdX4_copyFrom, iniX4, ⟨by decide +kernel, by decide +kernel⟩, by decide +kernel, by decide +kernel⟩
def bX4_copyFrom : zSS := sSeq (sF 4 0 (rL 0) (eF 4 0 (rL 1))) (sSeq (sF 4 1 (rL 0) (eF 4 1 (rL 1))) (sSeq (sF 4 2 (rL 0) (eF 4 2 (rL 1))) (sSeq (sF 4 3 (rL 0) (eF 4 3 (rL 1))) (sSeq (sF 4 4 (rL 0) (eF 4 4 (rL 1))) (sSeq (sF 4 5 (rL 0) (eF 4 5 (rL 1))) (sSeq (sF 4 6 (rL 0) (eF 4 6 (rL 1))) (sRv)))))))
abbrev mX4_copyFrom : zM := (cX4_copyFrom, RX4, 2, none, { frames := 0, cells := 0, slots := 0, locals := 0 }, false)
set_option maxHeartbeats 400000 in
set_option maxRecDepth 20000 in
theorem kX4_copyFrom : ssOk mX4_copyFrom 0 57 bX4_copyFrom := (kSeq (M := mX4_copyFrom) (kPF (M := mX4_copyFrom) (kf := 0) (kR_n (M := mX4_copyFrom) dX4_copyFrom_0 rfl) (kF (M := mX4_copyFrom) (kf := 0) (kR_n (M := mX4_copyFrom) dX4_copyFrom_1 rfl) dX4_copyFrom_2 clX4 lkX4_9 (by decide)) dX4_copyFrom_5 clX4 lkX4_9 (by decide) rfl rfl) (kSeq (M := mX4_copyFrom) (kPF (M := mX4_copyFrom) (kf := 1) (kR_n (M := mX4_copyFrom) dX4_copyFrom_8 rfl) (kF (M := mX4_copyFrom) (kf := 1) (kR_n (M := mX4_copyFrom) dX4_copyFrom_9 rfl) dX4_copyFrom_10 clX4 lkX4_15 (by decide)) dX4_copyFrom_13 clX4 lkX4_15 (by decide) rfl rfl) (kSeq (M := mX4_copyFrom) (kPF (M := mX4_copyFrom) (kf := 2) (kR_n (M := mX4_copyFrom) dX4_copyFrom_16 rfl) (kF (M := mX4_copyFrom) (kf := 2) (kR_n (M := mX4_copyFrom) dX4_copyFrom_17 rfl) dX4_copyFrom_18 clX4 lkX4_27 (by decide)) dX4_copyFrom_21 clX4 lkX4_27 (by decide) rfl rfl) (kSeq (M := mX4_copyFrom) (kPF (M := mX4_copyFrom) (kf := 3) (kR_n (M := mX4_copyFrom) dX4_copyFrom_24 rfl) (kF (M := mX4_copyFrom) (kf := 3) (kR_n (M := mX4_copyFrom) dX4_copyFrom_25 rfl) dX4_copyFrom_26 clX4 lkX4_18 (by decide)) dX4_copyFrom_29 clX4 lkX4_18 (by decide) rfl rfl) (kSeq (M := mX4_copyFrom) (kPF (M := mX4_copyFrom) (kf := 4) (kR_n (M := mX4_copyFrom) dX4_copyFrom_32 rfl) (kF (M := mX4_copyFrom) (kf := 4) (kR_n (M := mX4_copyFrom) dX4_copyFrom_33 rfl) dX4_copyFrom_34 clX4 lkX4_21 (by decide)) dX4_copyFrom_37 clX4 lkX4_21 (by decide) rfl rfl) (kSeq (M := mX4_copyFrom) (kPF (M := mX4_copyFrom) (kf := 5) (kR_n (M := mX4_copyFrom) dX4_copyFrom_40 rfl) (kF (M := mX4_copyFrom) (kf := 5) (kR_n (M := mX4_copyFrom) dX4_copyFrom_41 rfl) dX4_copyFrom_42 clX4 lkX4_30 (by decide)) dX4_copyFrom_45 clX4 lkX4_30 (by decide) rfl rfl) (kSeq (M := mX4_copyFrom) (kPF (M := mX4_copyFrom) (kf := 6) (kR_n (M := mX4_copyFrom) dX4_copyFrom_48 rfl) (kF (M := mX4_copyFrom) (kf := 6) (kR_n (M := mX4_copyFrom) dX4_copyFrom_49 rfl) dX4_copyFrom_50 clX4 lkX4_33 (by decide)) dX4_copyFrom_53 clX4 lkX4_33 (by decide) rfl rfl) (kRv (M := mX4_copyFrom) dX4_copyFrom_56))))))))
def fX4_copyFrom : zFV := mV bX4_copyFrom
theorem ctX4_copyFrom : CtV yX4_copyFrom cX4_copyFrom 2 0 0 0 0 2 fX4_copyFrom := ctV mdX4_copyFrom (Nat.le_of_ble_eq_true rfl) kX4_copyFrom
/-! TrophyPlates$Plate.putIntoDrawer -/
theorem mdX4_putIntoDrawer : zMd yX4_putIntoDrawer cX4_putIntoDrawer 1 (none) 0 := ⟨cdX4_putIntoDrawer, iniX4, ⟨by decide +kernel, by decide +kernel⟩, by decide +kernel, by decide +kernel⟩
def bX4_putIntoDrawer : zSS := sSeq (sF 4 2 (rL 0) (eC 0)) (sSeq (sF 4 5 (rL 0) (eC (-9))) (sSeq (sF 4 6 (rL 0) (eC (-9))) (sRv)))
abbrev mX4_putIntoDrawer : zM := (cX4_putIntoDrawer, RX4, 1, none, { frames := 0, cells := 0, slots := 0, locals := 0 }, false)
set_option maxHeartbeats 400000 in
set_option maxRecDepth 20000 in
theorem kX4_putIntoDrawer : ssOk mX4_putIntoDrawer 0 18 bX4_putIntoDrawer := (kSeq (M := mX4_putIntoDrawer) (kPF (M := mX4_putIntoDrawer) (kf := 2) (kR_n (M := mX4_putIntoDrawer) dX4_putIntoDrawer_0 rfl) (kC_ic (M := mX4_putIntoDrawer) (v := 0) dX4_putIntoDrawer_1 kc_iconst_0) dX4_putIntoDrawer_2 clX4 lkX4_27 (by decide) rfl rfl) (kSeq (M := mX4_putIntoDrawer) (kPF (M := mX4_putIntoDrawer) (kf := 5) (kR_n (M := mX4_putIntoDrawer) dX4_putIntoDrawer_5 rfl) (kC_bi (M := mX4_putIntoDrawer) (v := (-9)) dX4_putIntoDrawer_6 kc_bipush_m9) dX4_putIntoDrawer_8 clX4 lkX4_30 (by decide) rfl rfl) (kSeq (M := mX4_putIntoDrawer) (kPF (M := mX4_putIntoDrawer) (kf := 6) (kR_n (M := mX4_putIntoDrawer) dX4_putIntoDrawer_11 rfl) (kC_bi (M := mX4_putIntoDrawer) (v := (-9)) dX4_putIntoDrawer_12 kc_bipush_m9) dX4_putIntoDrawer_14 clX4 lkX4_33 (by decide) rfl rfl) (kRv (M := mX4_putIntoDrawer) dX4_putIntoDrawer_17))))
def fX4_putIntoDrawer : zFV := mV bX4_putIntoDrawer
theorem ctX4_putIntoDrawer : CtV yX4_putIntoDrawer cX4_putIntoDrawer 1 0 0 0 0 1 fX4_putIntoDrawer := ctV mdX4_putIntoDrawer (Nat.le_of_ble_eq_true rfl) kX4_putIntoDrawer
/-! TrophyPlates$Plate.fixOn -/
theorem mdX4_fixOn : zMd yX4_fixOn cX4_fixOn 3 (none) 2 := ⟨cdX4_fixOn, iniX4, ⟨by decide +kernel, by decide +kernel⟩, by decide +kernel, by decide +kernel⟩
def bX4_fixOn : zSS := sSeq (sF 4 2 (rL 0) (eC 2)) (sSeq (sF 4 5 (rL 0) (eL 1)) (sSeq (sF 4 6 (rL 0) (eL 2)) (sRv)))
abbrev mX4_fixOn : zM := (cX4_fixOn, RX4, 3, none, { frames := 0, cells := 0, slots := 0, locals := 0 }, false)
set_option maxHeartbeats 400000 in
set_option maxRecDepth 20000 in
theorem kX4_fixOn : ssOk mX4_fixOn 0 16 bX4_fixOn := (kSeq (M := mX4_fixOn) (kPF (M := mX4_fixOn) (kf := 2) (kR_n (M := mX4_fixOn) dX4_fixOn_0 rfl) (kC_ic (M := mX4_fixOn) (v := 2) dX4_fixOn_1 kc_iconst_2) dX4_fixOn_2 clX4 lkX4_27 (by decide) rfl rfl) (kSeq (M := mX4_fixOn) (kPF (M := mX4_fixOn) (kf := 5) (kR_n (M := mX4_fixOn) dX4_fixOn_5 rfl) (kL_n (M := mX4_fixOn) dX4_fixOn_6 rfl) dX4_fixOn_7 clX4 lkX4_30 (by decide) rfl rfl) (kSeq (M := mX4_fixOn) (kPF (M := mX4_fixOn) (kf := 6) (kR_n (M := mX4_fixOn) dX4_fixOn_10 rfl) (kL_n (M := mX4_fixOn) dX4_fixOn_11 rfl) dX4_fixOn_12 clX4 lkX4_33 (by decide) rfl rfl) (kRv (M := mX4_fixOn) dX4_fixOn_15))))
def fX4_fixOn : zFV := mV bX4_fixOn
theorem ctX4_fixOn : CtV yX4_fixOn cX4_fixOn 3 0 0 0 0 3 fX4_fixOn := ctV mdX4_fixOn (Nat.le_of_ble_eq_true rfl) kX4_fixOn
/-! TrophyPlates$Plate.depthOf -/
theorem mdX4_depthOf : zMd yX4_depthOf cX4_depthOf 2 (some .int) 1 := ⟨cdX4_depthOf, iniX4, ⟨by decide +kernel, by decide +kernel⟩, by decide +kernel, by decide +kernel⟩
def bX4_depthOf : zSS := sRi (eT (bZ z_eq (eL 1)) (eF 4 3 (rL 0)) (eF 4 4 (rL 0)))
abbrev mX4_depthOf : zM := (cX4_depthOf, RX4, 2, some .int, { frames := 0, cells := 0, slots := 0, locals := 0 }, false)
set_option maxHeartbeats 400000 in
set_option maxRecDepth 20000 in
theorem kX4_depthOf : ssOk mX4_depthOf 0 16 bX4_depthOf := (kRi (M := mX4_depthOf) (kT (M := mX4_depthOf) (kZ_eqF (M := mX4_depthOf) (kL_n (M := mX4_depthOf) dX4_depthOf_0 rfl) dX4_depthOf_1 (by decide) rfl) (kF (M := mX4_depthOf) (kf := 3) (kR_n (M := mX4_depthOf) dX4_depthOf_4 rfl) dX4_depthOf_5 clX4 lkX4_18 (by decide)) dX4_depthOf_8 (by decide) (kF (M := mX4_depthOf) (kf := 4) (kR_n (M := mX4_depthOf) dX4_depthOf_11 rfl) dX4_depthOf_12 clX4 lkX4_21 (by decide))) dX4_depthOf_15)
def fX4_depthOf : zFI := mI bX4_depthOf
theorem ctX4_depthOf : CtI yX4_depthOf cX4_depthOf 2 .int 0 0 2 fX4_depthOf := ctI mdX4_depthOf (Nat.le_of_ble_eq_true rfl) kX4_depthOf
/-! TrophyPlates$Plate.isBlank -/
theorem mdX4_isBlank : zMd yX4_isBlank cX4_isBlank 2 (some .boolean) 1 := ⟨cdX4_isBlank, iniX4, ⟨by decide +kernel, by decide +kernel⟩, by decide +kernel, by decide +kernel⟩
def bX4_isBlank : zSS := sRi (eB (bZ z_eq (eCV 4 (rL 0) (aI (eL 1) (aN)) fX4_depthOf)))
abbrev mX4_isBlank : zM := (cX4_isBlank, RX4, 2, some .boolean, { frames := 1, cells := 0, slots := 0, locals := 21 }, false)
set_option maxHeartbeats 400000 in
set_option maxRecDepth 20000 in
theorem kX4_isBlank : ssOk mX4_isBlank 0 14 bX4_isBlank := (kRi (M := mX4_isBlank) (kEB (M := mX4_isBlank) (kZ_eqF (M := mX4_isBlank) (kCV (M := mX4_isBlank) (ci := 4) (kR_n (M := mX4_isBlank) dX4_isBlank_0 rfl) (kaI (M := mX4_isBlank) (kL_n (M := mX4_isBlank) dX4_isBlank_1 rfl) (kaN (M := mX4_isBlank))) dX4_isBlank_2 ctX4_depthOf mdX4_depthOf imX4_depthOf seX4_depthOf clX4 mkX4_36 ⟨(Nat.le_of_ble_eq_true rfl), (Nat.le_of_ble_eq_true rfl)⟩ (Nat.le_of_ble_eq_true rfl)) dX4_isBlank_5 (by decide) rfl) dX4_isBlank_8 dX4_isBlank_9 (by decide) dX4_isBlank_12 rfl) dX4_isBlank_13)
def fX4_isBlank : zFI := mZ bX4_isBlank
theorem ctX4_isBlank : CtI yX4_isBlank cX4_isBlank 2 .boolean 1 21 2 fX4_isBlank := ctZ mdX4_isBlank (Nat.le_of_ble_eq_true rfl) kX4_isBlank
/-! TrophyPlates$Plate.engrave -/
theorem mdX4_engrave : zMd yX4_engrave cX4_engrave 3 (none) 2 := ⟨cdX4_engrave, iniX4, ⟨by decide +kernel, by decide +kernel⟩, by decide +kernel, by decide +kernel⟩
def bX4_engrave : zSS := sSeq (sIf (bZ z_eq (eL 1)) (sF 4 3 (rL 0) (eL 2)) (sF 4 4 (rL 0) (eL 2))) (sRv)
abbrev mX4_engrave : zM := (cX4_engrave, RX4, 3, none, { frames := 0, cells := 0, slots := 0, locals := 0 }, false)
set_option maxHeartbeats 400000 in
set_option maxRecDepth 20000 in
theorem kX4_engrave : ssOk mX4_engrave 0 18 bX4_engrave := (kSeq (M := mX4_engrave) (kIf (M := mX4_engrave) (kZ_eqF (M := mX4_engrave) (kL_n (M := mX4_engrave) dX4_engrave_0 rfl) dX4_engrave_1 (by decide) rfl) (kGo (M := mX4_engrave) (kPF (M := mX4_engrave) (kf := 3) (kR_n (M := mX4_engrave) dX4_engrave_4 rfl) (kL_n (M := mX4_engrave) dX4_engrave_5 rfl) dX4_engrave_6 clX4 lkX4_18 (by decide) rfl rfl) dX4_engrave_9 (by decide)) (kPF (M := mX4_engrave) (kf := 4) (kR_n (M := mX4_engrave) dX4_engrave_12 rfl) (kL_n (M := mX4_engrave) dX4_engrave_13 rfl) dX4_engrave_14 clX4 lkX4_21 (by decide) rfl rfl)) (kRv (M := mX4_engrave) dX4_engrave_17))
def fX4_engrave : zFV := mV bX4_engrave
theorem ctX4_engrave : CtV yX4_engrave cX4_engrave 3 0 0 0 0 3 fX4_engrave := ctV mdX4_engrave (Nat.le_of_ble_eq_true rfl) kX4_engrave
/-! TrophyPlates$Plate.grindOff -/
theorem mdX4_grindOff : zMd yX4_grindOff cX4_grindOff 2 (none) 1 := ⟨cdX4_grindOff, iniX4, ⟨by decide +kernel, by decide +kernel⟩, by decide +kernel, by decide +kernel⟩
def bX4_grindOff : zSS := sSeq (sFa (· - ·) 4 1 (rL 0) (eOp (· + ·) (eCV 4 (rL 0) (aI (eL 1) (aN)) fX4_depthOf) (eC 1))) (sSeq (sCV 4 (rL 0) (aI (eL 1) (aI (eC 0) (aN))) fX4_engrave) (sRv))
abbrev mX4_grindOff : zM := (cX4_grindOff, RX4, 2, none, { frames := 1, cells := 0, slots := 0, locals := 22 }, false)
set_option maxHeartbeats 400000 in
set_option maxRecDepth 20000 in
theorem kX4_grindOff : ssOk mX4_grindOff 0 23 bX4_grindOff := (kSeq (M := mX4_grindOff) (kPFaddsub (M := mX4_grindOff) (kf := 1) (Or.inr ⟨rfl, rfl⟩) (kR_n (M := mX4_grindOff) dX4_grindOff_0 rfl) dX4_grindOff_1 dX4_grindOff_2 (kAdd (M := mX4_grindOff) (kCV (M := mX4_grindOff) (ci := 4) (kR_n (M := mX4_grindOff) dX4_grindOff_5 rfl) (kaI (M := mX4_grindOff) (kL_n (M := mX4_grindOff) dX4_grindOff_6 rfl) (kaN (M := mX4_grindOff))) dX4_grindOff_7 ctX4_depthOf mdX4_depthOf imX4_depthOf seX4_depthOf clX4 mkX4_36 ⟨(Nat.le_of_ble_eq_true rfl), (Nat.le_of_ble_eq_true rfl)⟩ (Nat.le_of_ble_eq_true rfl)) (kC_ic (M := mX4_grindOff) (v := 1) dX4_grindOff_10 kc_iconst_1) dX4_grindOff_11) dX4_grindOff_12 dX4_grindOff_13 clX4 lkX4_15 lkX4_15 (by decide) rfl rfl) (kSeq (M := mX4_grindOff) (ksCV (M := mX4_grindOff) (ci := 4) (kR_n (M := mX4_grindOff) dX4_grindOff_16 rfl) (kaI (M := mX4_grindOff) (kL_n (M := mX4_grindOff) dX4_grindOff_17 rfl) (kaI (M := mX4_grindOff) (kC_ic (M := mX4_grindOff) (v := 0) dX4_grindOff_18 kc_iconst_0) (kaN (M := mX4_grindOff)))) dX4_grindOff_19 ctX4_engrave mdX4_engrave imX4_engrave seX4_engrave clX4 mkX4_40 ⟨(Nat.le_of_ble_eq_true rfl), (Nat.le_of_ble_eq_true rfl)⟩) (kRv (M := mX4_grindOff) dX4_grindOff_22)))
def fX4_grindOff : zFV := mV bX4_grindOff
theorem ctX4_grindOff : CtV yX4_grindOff cX4_grindOff 2 1 0 0 22 2 fX4_grindOff := ctV mdX4_grindOff (Nat.le_of_ble_eq_true rfl) kX4_grindOff
/-! TrophyPlates$Plate.bears -/
theorem mdX4_bears : zMd yX4_bears cX4_bears 2 (some .boolean) 1 := ⟨cdX4_bears, iniX4, ⟨by decide +kernel, by decide +kernel⟩, by decide +kernel, by decide +kernel⟩
def bX4_bears : zSS := sRi (eB (bCmp o_ge (eOp (· - ·) (eOp (· - ·) (eOp (· - ·) (eF 4 1 (rL 0)) (eF 4 3 (rL 0))) (eF 4 4 (rL 0))) (eL 1)) (eC 2)))
abbrev mX4_bears : zM := (cX4_bears, RX4, 2, some .boolean, { frames := 0, cells := 0, slots := 0, locals := 0 }, false)
set_option maxHeartbeats 400000 in
set_option maxRecDepth 20000 in
theorem kX4_bears : ssOk mX4_bears 0 26 bX4_bears := (kRi (M := mX4_bears) (kEB (M := mX4_bears) (kB_geF (M := mX4_bears) (kSub (M := mX4_bears) (kSub (M := mX4_bears) (kSub (M := mX4_bears) (kF (M := mX4_bears) (kf := 1) (kR_n (M := mX4_bears) dX4_bears_0 rfl) dX4_bears_1 clX4 lkX4_15 (by decide)) (kF (M := mX4_bears) (kf := 3) (kR_n (M := mX4_bears) dX4_bears_4 rfl) dX4_bears_5 clX4 lkX4_18 (by decide)) dX4_bears_8) (kF (M := mX4_bears) (kf := 4) (kR_n (M := mX4_bears) dX4_bears_9 rfl) dX4_bears_10 clX4 lkX4_21 (by decide)) dX4_bears_13) (kL_n (M := mX4_bears) dX4_bears_14 rfl) dX4_bears_15) (kC_ic (M := mX4_bears) (v := 2) dX4_bears_16 kc_iconst_2) dX4_bears_17 (by decide) rfl) dX4_bears_20 dX4_bears_21 (by decide) dX4_bears_24 rfl) dX4_bears_25)
def fX4_bears : zFI := mZ bX4_bears
theorem ctX4_bears : CtI yX4_bears cX4_bears 2 .boolean 0 0 2 fX4_bears := ctZ mdX4_bears (Nat.le_of_ble_eq_true rfl) kX4_bears
/-! TrophyPlates$Plate.bearsOnceGround -/
theorem mdX4_bearsOnceGround : zMd yX4_bearsOnceGround cX4_bearsOnceGround 2 (some .boolean) 1 := ⟨cdX4_bearsOnceGround, iniX4, ⟨by decide +kernel, by decide +kernel⟩, by decide +kernel, by decide +kernel⟩
def bX4_bearsOnceGround : zSS := sRi (eCV 4 (rL 0) (aI (eOp (· + ·) (eL 1) (eC 1)) (aN)) fX4_bears)
abbrev mX4_bearsOnceGround : zM := (cX4_bearsOnceGround, RX4, 2, some .boolean, { frames := 1, cells := 0, slots := 0, locals := 21 }, false)
set_option maxHeartbeats 400000 in
set_option maxRecDepth 20000 in
theorem kX4_bearsOnceGround : ssOk mX4_bearsOnceGround 0 8 bX4_bearsOnceGround := (kRi (M := mX4_bearsOnceGround) (kCV (M := mX4_bearsOnceGround) (ci := 4) (kR_n (M := mX4_bearsOnceGround) dX4_bearsOnceGround_0 rfl) (kaI (M := mX4_bearsOnceGround) (kAdd (M := mX4_bearsOnceGround) (kL_n (M := mX4_bearsOnceGround) dX4_bearsOnceGround_1 rfl) (kC_ic (M := mX4_bearsOnceGround) (v := 1) dX4_bearsOnceGround_2 kc_iconst_1) dX4_bearsOnceGround_3) (kaN (M := mX4_bearsOnceGround))) dX4_bearsOnceGround_4 ctX4_bears mdX4_bears imX4_bears seX4_bears clX4 mkX4_44 ⟨(Nat.le_of_ble_eq_true rfl), (Nat.le_of_ble_eq_true rfl)⟩ (Nat.le_of_ble_eq_true rfl)) dX4_bearsOnceGround_7)
def fX4_bearsOnceGround : zFI := mZ bX4_bearsOnceGround
theorem ctX4_bearsOnceGround : CtI yX4_bearsOnceGround cX4_bearsOnceGround 2 .boolean 1 21 2 fX4_bearsOnceGround := ctZ mdX4_bearsOnceGround (Nat.le_of_ble_eq_true rfl) kX4_bearsOnceGround
/-! TrophyPlates$Plate.isReady -/
theorem mdX4_isReady : zMd yX4_isReady cX4_isReady 3 (some .boolean) 2 := ⟨cdX4_isReady, iniX4, ⟨by decide +kernel, by decide +kernel⟩, by decide +kernel, by decide +kernel⟩
def bX4_isReady : zSS := sRi (eB (bAnd (bZ z_ne (eCV 4 (rL 0) (aI (eL 1) (aN)) fX4_isBlank)) (bZ z_ne (eCV 4 (rL 0) (aI (eL 2) (aN)) fX4_bears))))
abbrev mX4_isReady : zM := (cX4_isReady, RX4, 3, some .boolean, { frames := 2, cells := 0, slots := 0, locals := 42 }, false)
set_option maxHeartbeats 400000 in
set_option maxRecDepth 20000 in
theorem kX4_isReady : ssOk mX4_isReady 0 22 bX4_isReady := (kRi (M := mX4_isReady) (kEB (M := mX4_isReady) (kBand (M := mX4_isReady) (kZ_neF (M := mX4_isReady) (kCV (M := mX4_isReady) (ci := 4) (kR_n (M := mX4_isReady) dX4_isReady_0 rfl) (kaI (M := mX4_isReady) (kL_n (M := mX4_isReady) dX4_isReady_1 rfl) (kaN (M := mX4_isReady))) dX4_isReady_2 ctX4_isBlank mdX4_isBlank imX4_isBlank seX4_isBlank clX4 mkX4_48 ⟨(Nat.le_of_ble_eq_true rfl), (Nat.le_of_ble_eq_true rfl)⟩ (Nat.le_of_ble_eq_true rfl)) dX4_isReady_5 (by decide) rfl) (kZ_neF (M := mX4_isReady) (kCV (M := mX4_isReady) (ci := 4) (kR_n (M := mX4_isReady) dX4_isReady_8 rfl) (kaI (M := mX4_isReady) (kL_n (M := mX4_isReady) dX4_isReady_9 rfl) (kaN (M := mX4_isReady))) dX4_isReady_10 ctX4_bears mdX4_bears imX4_bears seX4_bears clX4 mkX4_44 ⟨(Nat.le_of_ble_eq_true rfl), (Nat.le_of_ble_eq_true rfl)⟩ (Nat.le_of_ble_eq_true rfl)) dX4_isReady_13 (by decide) rfl)) dX4_isReady_16 dX4_isReady_17 (by decide) dX4_isReady_20 rfl) dX4_isReady_21)
def fX4_isReady : zFI := mZ bX4_isReady
theorem ctX4_isReady : CtI yX4_isReady cX4_isReady 3 .boolean 2 42 3 fX4_isReady := ctZ mdX4_isReady (Nat.le_of_ble_eq_true rfl) kX4_isReady
/-! TrophyPlates$Plate.canBeGround -/
theorem mdX4_canBeGround : zMd yX4_canBeGround cX4_canBeGround 3 (some .boolean) 2 := ⟨cdX4_canBeGround, iniX4, ⟨by decide +kernel, by decide +kernel⟩, by decide +kernel, by decide +kernel⟩
def bX4_canBeGround : zSS := sRi (eB (bAnd (bNot (bZ z_ne (eCV 4 (rL 0) (aI (eL 1) (aN)) fX4_isBlank))) (bZ z_ne (eCV 4 (rL 0) (aI (eL 2) (aN)) fX4_bearsOnceGround))))
abbrev mX4_canBeGround : zM := (cX4_canBeGround, RX4, 3, some .boolean, { frames := 2, cells := 0, slots := 0, locals := 42 }, false)
set_option maxHeartbeats 400000 in
set_option maxRecDepth 20000 in
theorem kX4_canBeGround : ssOk mX4_canBeGround 0 22 bX4_canBeGround := (kRi (M := mX4_canBeGround) (kEB (M := mX4_canBeGround) (kBand (M := mX4_canBeGround) (kBnot (M := mX4_canBeGround) (kZ_neT (M := mX4_canBeGround) (kCV (M := mX4_canBeGround) (ci := 4) (kR_n (M := mX4_canBeGround) dX4_canBeGround_0 rfl) (kaI (M := mX4_canBeGround) (kL_n (M := mX4_canBeGround) dX4_canBeGround_1 rfl) (kaN (M := mX4_canBeGround))) dX4_canBeGround_2 ctX4_isBlank mdX4_isBlank imX4_isBlank seX4_isBlank clX4 mkX4_48 ⟨(Nat.le_of_ble_eq_true rfl), (Nat.le_of_ble_eq_true rfl)⟩ (Nat.le_of_ble_eq_true rfl)) dX4_canBeGround_5 (by decide) rfl)) (kZ_neF (M := mX4_canBeGround) (kCV (M := mX4_canBeGround) (ci := 4) (kR_n (M := mX4_canBeGround) dX4_canBeGround_8 rfl) (kaI (M := mX4_canBeGround) (kL_n (M := mX4_canBeGround) dX4_canBeGround_9 rfl) (kaN (M := mX4_canBeGround))) dX4_canBeGround_10 ctX4_bearsOnceGround mdX4_bearsOnceGround imX4_bearsOnceGround seX4_bearsOnceGround clX4 mkX4_51 ⟨(Nat.le_of_ble_eq_true rfl), (Nat.le_of_ble_eq_true rfl)⟩ (Nat.le_of_ble_eq_true rfl)) dX4_canBeGround_13 (by decide) rfl)) dX4_canBeGround_16 dX4_canBeGround_17 (by decide) dX4_canBeGround_20 rfl) dX4_canBeGround_21)
def fX4_canBeGround : zFI := mZ bX4_canBeGround
theorem ctX4_canBeGround : CtI yX4_canBeGround cX4_canBeGround 3 .boolean 2 42 3 fX4_canBeGround := ctZ mdX4_canBeGround (Nat.le_of_ble_eq_true rfl) kX4_canBeGround
/-! TrophyPlates$Plate.readySide -/
theorem mdX4_readySide : zMd yX4_readySide cX4_readySide 2 (some .int) 1 := ⟨cdX4_readySide, iniX4, ⟨by decide +kernel, by decide +kernel⟩, by decide +kernel, by decide +kernel⟩
def bX4_readySide : zSS := sSeq (sIf (bNot (bZ z_ne (eCV 4 (rL 0) (aI (eL 1) (aN)) fX4_bears))) (sRi (eC (-9))) sNop) (sSeq (sIf (bZ z_eq (eF 4 3 (rL 0))) (sRi (eC 0)) sNop) (sRi (eT (bZ z_eq (eF 4 4 (rL 0))) (eC 1) (eC (-9)))))
abbrev mX4_readySide : zM := (cX4_readySide, RX4, 2, some .int, { frames := 1, cells := 0, slots := 0, locals := 21 }, false)
set_option maxHeartbeats 400000 in
set_option maxRecDepth 20000 in
theorem kX4_readySide : ssOk mX4_readySide 0 34 bX4_readySide := (kSeq (M := mX4_readySide) (kIf (M := mX4_readySide) (kBnot (M := mX4_readySide) (kZ_neT (M := mX4_readySide) (kCV (M := mX4_readySide) (ci := 4) (kR_n (M := mX4_readySide) dX4_readySide_0 rfl) (kaI (M := mX4_readySide) (kL_n (M := mX4_readySide) dX4_readySide_1 rfl) (kaN (M := mX4_readySide))) dX4_readySide_2 ctX4_bears mdX4_bears imX4_bears seX4_bears clX4 mkX4_44 ⟨(Nat.le_of_ble_eq_true rfl), (Nat.le_of_ble_eq_true rfl)⟩ (Nat.le_of_ble_eq_true rfl)) dX4_readySide_5 (by decide) rfl)) (kRi (M := mX4_readySide) (kC_bi (M := mX4_readySide) (v := (-9)) dX4_readySide_8 kc_bipush_m9) dX4_readySide_10) (kNop (M := mX4_readySide))) (kSeq (M := mX4_readySide) (kIf (M := mX4_readySide) (kZ_eqF (M := mX4_readySide) (kF (M := mX4_readySide) (kf := 3) (kR_n (M := mX4_readySide) dX4_readySide_11 rfl) dX4_readySide_12 clX4 lkX4_18 (by decide)) dX4_readySide_15 (by decide) rfl) (kRi (M := mX4_readySide) (kC_ic (M := mX4_readySide) (v := 0) dX4_readySide_18 kc_iconst_0) dX4_readySide_19) (kNop (M := mX4_readySide))) (kRi (M := mX4_readySide) (kT (M := mX4_readySide) (kZ_eqF (M := mX4_readySide) (kF (M := mX4_readySide) (kf := 4) (kR_n (M := mX4_readySide) dX4_readySide_20 rfl) dX4_readySide_21 clX4 lkX4_21 (by decide)) dX4_readySide_24 (by decide) rfl) (kC_ic (M := mX4_readySide) (v := 1) dX4_readySide_27 kc_iconst_1) dX4_readySide_28 (by decide) (kC_bi (M := mX4_readySide) (v := (-9)) dX4_readySide_31 kc_bipush_m9)) dX4_readySide_33)))
def fX4_readySide : zFI := mI bX4_readySide
theorem ctX4_readySide : CtI yX4_readySide cX4_readySide 2 .int 1 21 2 fX4_readySide := ctI mdX4_readySide (Nat.le_of_ble_eq_true rfl) kX4_readySide
/-! TrophyPlates$Plate.sideToGrind -/
theorem mdX4_sideToGrind : zMd yX4_sideToGrind cX4_sideToGrind 2 (some .int) 1 := ⟨cdX4_sideToGrind, iniX4, ⟨by decide +kernel, by decide +kernel⟩, by decide +kernel, by decide +kernel⟩
def bX4_sideToGrind : zSS := sSeq (sIf (bNot (bZ z_ne (eCV 4 (rL 0) (aI (eL 1) (aN)) fX4_bearsOnceGround))) (sRi (eC (-9))) sNop) (sSeq (sIf (bZ z_ne (eF 4 3 (rL 0))) (sRi (eC 0)) sNop) (sRi (eT (bZ z_ne (eF 4 4 (rL 0))) (eC 1) (eC (-9)))))
abbrev mX4_sideToGrind : zM := (cX4_sideToGrind, RX4, 2, some .int, { frames := 2, cells := 0, slots := 0, locals := 42 }, false)
set_option maxHeartbeats 400000 in
set_option maxRecDepth 20000 in
theorem kX4_sideToGrind : ssOk mX4_sideToGrind 0 34 bX4_sideToGrind := (kSeq (M := mX4_sideToGrind) (kIf (M := mX4_sideToGrind) (kBnot (M := mX4_sideToGrind) (kZ_neT (M := mX4_sideToGrind) (kCV (M := mX4_sideToGrind) (ci := 4) (kR_n (M := mX4_sideToGrind) dX4_sideToGrind_0 rfl) (kaI (M := mX4_sideToGrind) (kL_n (M := mX4_sideToGrind) dX4_sideToGrind_1 rfl) (kaN (M := mX4_sideToGrind))) dX4_sideToGrind_2 ctX4_bearsOnceGround mdX4_bearsOnceGround imX4_bearsOnceGround seX4_bearsOnceGround clX4 mkX4_51 ⟨(Nat.le_of_ble_eq_true rfl), (Nat.le_of_ble_eq_true rfl)⟩ (Nat.le_of_ble_eq_true rfl)) dX4_sideToGrind_5 (by decide) rfl)) (kRi (M := mX4_sideToGrind) (kC_bi (M := mX4_sideToGrind) (v := (-9)) dX4_sideToGrind_8 kc_bipush_m9) dX4_sideToGrind_10) (kNop (M := mX4_sideToGrind))) (kSeq (M := mX4_sideToGrind) (kIf (M := mX4_sideToGrind) (kZ_neF (M := mX4_sideToGrind) (kF (M := mX4_sideToGrind) (kf := 3) (kR_n (M := mX4_sideToGrind) dX4_sideToGrind_11 rfl) dX4_sideToGrind_12 clX4 lkX4_18 (by decide)) dX4_sideToGrind_15 (by decide) rfl) (kRi (M := mX4_sideToGrind) (kC_ic (M := mX4_sideToGrind) (v := 0) dX4_sideToGrind_18 kc_iconst_0) dX4_sideToGrind_19) (kNop (M := mX4_sideToGrind))) (kRi (M := mX4_sideToGrind) (kT (M := mX4_sideToGrind) (kZ_neF (M := mX4_sideToGrind) (kF (M := mX4_sideToGrind) (kf := 4) (kR_n (M := mX4_sideToGrind) dX4_sideToGrind_20 rfl) dX4_sideToGrind_21 clX4 lkX4_21 (by decide)) dX4_sideToGrind_24 (by decide) rfl) (kC_ic (M := mX4_sideToGrind) (v := 1) dX4_sideToGrind_27 kc_iconst_1) dX4_sideToGrind_28 (by decide) (kC_bi (M := mX4_sideToGrind) (v := (-9)) dX4_sideToGrind_31 kc_bipush_m9)) dX4_sideToGrind_33)))
def fX4_sideToGrind : zFI := mI bX4_sideToGrind
theorem ctX4_sideToGrind : CtI yX4_sideToGrind cX4_sideToGrind 2 .int 2 42 2 fX4_sideToGrind := ctI mdX4_sideToGrind (Nat.le_of_ble_eq_true rfl) kX4_sideToGrind
/-! TrophyPlates$Plate.sideFor -/
theorem mdX4_sideFor : zMd yX4_sideFor cX4_sideFor 3 (some .int) 1 := ⟨cdX4_sideFor, iniX4, ⟨by decide +kernel, by decide +kernel⟩, by decide +kernel, by decide +kernel⟩
def bX4_sideFor : zSS := sSeq (sLi 2 (eCV 4 (rL 0) (aI (eL 1) (aN)) fX4_readySide)) (sRi (eT (bCmp o_eq (eL 2) (eC (-9))) (eCV 4 (rL 0) (aI (eL 1) (aN)) fX4_sideToGrind) (eL 2)))
abbrev mX4_sideFor : zM := (cX4_sideFor, RX4, 3, some .int, { frames := 3, cells := 0, slots := 0, locals := 63 }, false)
set_option maxHeartbeats 400000 in
set_option maxRecDepth 20000 in
theorem kX4_sideFor : ssOk mX4_sideFor 0 22 bX4_sideFor := (kSeq (M := mX4_sideFor) (kSi_n (M := mX4_sideFor) (kCV (M := mX4_sideFor) (ci := 4) (kR_n (M := mX4_sideFor) dX4_sideFor_0 rfl) (kaI (M := mX4_sideFor) (kL_n (M := mX4_sideFor) dX4_sideFor_1 rfl) (kaN (M := mX4_sideFor))) dX4_sideFor_2 ctX4_readySide mdX4_readySide imX4_readySide seX4_readySide clX4 mkX4_54 ⟨(Nat.le_of_ble_eq_true rfl), (Nat.le_of_ble_eq_true rfl)⟩ (Nat.le_of_ble_eq_true rfl)) dX4_sideFor_5 rfl (by decide)) (kRi (M := mX4_sideFor) (kT (M := mX4_sideFor) (kB_eqF (M := mX4_sideFor) (kL_n (M := mX4_sideFor) dX4_sideFor_6 rfl) (kC_bi (M := mX4_sideFor) (v := (-9)) dX4_sideFor_7 kc_bipush_m9) dX4_sideFor_9 (by decide) rfl) (kCV (M := mX4_sideFor) (ci := 4) (kR_n (M := mX4_sideFor) dX4_sideFor_12 rfl) (kaI (M := mX4_sideFor) (kL_n (M := mX4_sideFor) dX4_sideFor_13 rfl) (kaN (M := mX4_sideFor))) dX4_sideFor_14 ctX4_sideToGrind mdX4_sideToGrind imX4_sideToGrind seX4_sideToGrind clX4 mkX4_57 ⟨(Nat.le_of_ble_eq_true rfl), (Nat.le_of_ble_eq_true rfl)⟩ (Nat.le_of_ble_eq_true rfl)) dX4_sideFor_17 (by decide) (kL_n (M := mX4_sideFor) dX4_sideFor_20 rfl)) dX4_sideFor_21))
def fX4_sideFor : zFI := mI bX4_sideFor
theorem ctX4_sideFor : CtI yX4_sideFor cX4_sideFor 3 .int 3 63 2 fX4_sideFor := ctI mdX4_sideFor (Nat.le_of_ble_eq_true rfl) kX4_sideFor
/-! TrophyPlates$Plate.isBetterThan -/
theorem mdX4_isBetterThan : zMd yX4_isBetterThan cX4_isBetterThan 2 (some .boolean) 1 := ⟨cdX4_isBetterThan, iniX4, ⟨by decide +kernel, by decide +kernel⟩, by decide +kernel, by decide +kernel⟩
def bX4_isBetterThan : zSS := sRi (eB (bOr (bCmp o_lt (eF 4 0 (rL 0)) (eF 4 0 (rL 1))) (bAnd (bCmp o_eq (eF 4 0 (rL 0)) (eF 4 0 (rL 1))) (bCmp o_lt (eF 4 1 (rL 0)) (eF 4 1 (rL 1))))))
abbrev mX4_isBetterThan : zM := (cX4_isBetterThan, RX4, 2, some .boolean, { frames := 0, cells := 0, slots := 0, locals := 0 }, false)
set_option maxHeartbeats 400000 in
set_option maxRecDepth 20000 in
theorem kX4_isBetterThan : ssOk mX4_isBetterThan 0 39 bX4_isBetterThan := (kRi (M := mX4_isBetterThan) (kEB (M := mX4_isBetterThan) (kBor (M := mX4_isBetterThan) (kB_ltT (M := mX4_isBetterThan) (kF (M := mX4_isBetterThan) (kf := 0) (kR_n (M := mX4_isBetterThan) dX4_isBetterThan_0 rfl) dX4_isBetterThan_1 clX4 lkX4_9 (by decide)) (kF (M := mX4_isBetterThan) (kf := 0) (kR_n (M := mX4_isBetterThan) dX4_isBetterThan_4 rfl) dX4_isBetterThan_5 clX4 lkX4_9 (by decide)) dX4_isBetterThan_8 (by decide) rfl) (kBand (M := mX4_isBetterThan) (kB_eqF (M := mX4_isBetterThan) (kF (M := mX4_isBetterThan) (kf := 0) (kR_n (M := mX4_isBetterThan) dX4_isBetterThan_11 rfl) dX4_isBetterThan_12 clX4 lkX4_9 (by decide)) (kF (M := mX4_isBetterThan) (kf := 0) (kR_n (M := mX4_isBetterThan) dX4_isBetterThan_15 rfl) dX4_isBetterThan_16 clX4 lkX4_9 (by decide)) dX4_isBetterThan_19 (by decide) rfl) (kB_ltF (M := mX4_isBetterThan) (kF (M := mX4_isBetterThan) (kf := 1) (kR_n (M := mX4_isBetterThan) dX4_isBetterThan_22 rfl) dX4_isBetterThan_23 clX4 lkX4_15 (by decide)) (kF (M := mX4_isBetterThan) (kf := 1) (kR_n (M := mX4_isBetterThan) dX4_isBetterThan_26 rfl) dX4_isBetterThan_27 clX4 lkX4_15 (by decide)) dX4_isBetterThan_30 (by decide) rfl))) dX4_isBetterThan_33 dX4_isBetterThan_34 (by decide) dX4_isBetterThan_37 rfl) dX4_isBetterThan_38)
def fX4_isBetterThan : zFI := mZ bX4_isBetterThan
theorem ctX4_isBetterThan : CtI yX4_isBetterThan cX4_isBetterThan 2 .boolean 0 0 2 fX4_isBetterThan := ctZ mdX4_isBetterThan (Nat.le_of_ble_eq_true rfl) kX4_isBetterThan
/-! TrophyPlates$Plate.makeNew -/
theorem mdX4_makeNew : zMd yX4_makeNew cX4_makeNew 3 (none) 2 := ⟨cdX4_makeNew, iniX4, ⟨by decide +kernel, by decide +kernel⟩, by decide +kernel, by decide +kernel⟩
def bX4_makeNew : zSS := sSeq (sF 4 0 (rL 0) (eL 1)) (sSeq (sF 4 1 (rL 0) (eL 2)) (sSeq (sF 4 3 (rL 0) (eC 0)) (sSeq (sF 4 4 (rL 0) (eC 0)) (sSeq (sCV 4 (rL 0) (aN) fX4_putIntoDrawer) (sRv)))))
abbrev mX4_makeNew : zM := (cX4_makeNew, RX4, 3, none, { frames := 1, cells := 0, slots := 0, locals := 20 }, false)
set_option maxHeartbeats 400000 in
set_option maxRecDepth 20000 in
theorem kX4_makeNew : ssOk mX4_makeNew 0 25 bX4_makeNew := (kSeq (M := mX4_makeNew) (kPF (M := mX4_makeNew) (kf := 0) (kR_n (M := mX4_makeNew) dX4_makeNew_0 rfl) (kL_n (M := mX4_makeNew) dX4_makeNew_1 rfl) dX4_makeNew_2 clX4 lkX4_9 (by decide) rfl rfl) (kSeq (M := mX4_makeNew) (kPF (M := mX4_makeNew) (kf := 1) (kR_n (M := mX4_makeNew) dX4_makeNew_5 rfl) (kL_n (M := mX4_makeNew) dX4_makeNew_6 rfl) dX4_makeNew_7 clX4 lkX4_15 (by decide) rfl rfl) (kSeq (M := mX4_makeNew) (kPF (M := mX4_makeNew) (kf := 3) (kR_n (M := mX4_makeNew) dX4_makeNew_10 rfl) (kC_ic (M := mX4_makeNew) (v := 0) dX4_makeNew_11 kc_iconst_0) dX4_makeNew_12 clX4 lkX4_18 (by decide) rfl rfl) (kSeq (M := mX4_makeNew) (kPF (M := mX4_makeNew) (kf := 4) (kR_n (M := mX4_makeNew) dX4_makeNew_15 rfl) (kC_ic (M := mX4_makeNew) (v := 0) dX4_makeNew_16 kc_iconst_0) dX4_makeNew_17 clX4 lkX4_21 (by decide) rfl rfl) (kSeq (M := mX4_makeNew) (ksCV (M := mX4_makeNew) (ci := 4) (kR_n (M := mX4_makeNew) dX4_makeNew_20 rfl) (kaN (M := mX4_makeNew)) dX4_makeNew_21 ctX4_putIntoDrawer mdX4_putIntoDrawer imX4_putIntoDrawer seX4_putIntoDrawer clX4 mkX4_24 ⟨(Nat.le_of_ble_eq_true rfl), (Nat.le_of_ble_eq_true rfl)⟩) (kRv (M := mX4_makeNew) dX4_makeNew_24))))))
def fX4_makeNew : zFV := mV bX4_makeNew
theorem ctX4_makeNew : CtV yX4_makeNew cX4_makeNew 3 1 0 0 20 3 fX4_makeNew := ctV mdX4_makeNew (Nat.le_of_ble_eq_true rfl) kX4_makeNew
