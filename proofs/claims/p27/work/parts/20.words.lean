/-! the words of the tables that the rows use, by their places; laid by wip/whole/gen/gen.py -/
theorem zIn1 {w : Cond} (h : w ∈ tables_1_1) : w ∈ lw_tbl := List.mem_append_right _ (List.mem_append_left _ h)
theorem zIn2 {w : Cond} (h : w ∈ tables_1_2) : w ∈ lw_tbl := List.mem_append_right _ (List.mem_append_right _ (List.mem_append_left _ h))
theorem zIn3 {w : Cond} (h : w ∈ tables_1_3) : w ∈ lw_tbl := List.mem_append_right _ (List.mem_append_right _ (List.mem_append_right _ h))
theorem kc_bipush_12 : (Int8.ofInt 12).toInt32 = (12 : Int32) := by decide +kernel
theorem kc_iconst_1 : Int32.ofInt 1 = (1 : Int32) := by decide +kernel
theorem kc_iconst_0 : Int32.ofInt 0 = (0 : Int32) := by decide +kernel
theorem kc_iconst_2 : Int32.ofInt 2 = (2 : Int32) := by decide +kernel
theorem kc_iconst_5 : Int32.ofInt 5 = (5 : Int32) := by decide +kernel
theorem kc_iconst_4 : Int32.ofInt 4 = (4 : Int32) := by decide +kernel
theorem kc_bipush_m9 : (Int8.ofInt (-9)).toInt32 = ((-9) : Int32) := by decide +kernel
theorem kc_bipush_20 : (Int8.ofInt 20).toInt32 = (20 : Int32) := by decide +kernel
theorem kc_iconst_3 : Int32.ofInt 3 = (3 : Int32) := by decide +kernel
theorem kc_bipush_10 : (Int8.ofInt 10).toInt32 = (10 : Int32) := by decide +kernel
theorem kc_iconst_m1 : Int32.ofInt (-1) = ((-1) : Int32) := by decide +kernel
theorem kc_bipush_m2 : (Int8.ofInt (-2)).toInt32 = ((-2) : Int32) := by decide +kernel
theorem kc_sipush_999 : (Int16.ofInt 999).toInt32 = (999 : Int32) := by decide +kernel
theorem kc_sipush_200 : (Int16.ofInt 200).toInt32 = (200 : Int32) := by decide +kernel
theorem kc_bipush_30 : (Int8.ofInt 30).toInt32 = (30 : Int32) := by decide +kernel
theorem kc_bipush_m3 : (Int8.ofInt (-3)).toInt32 = ((-3) : Int32) := by decide +kernel
theorem kc_bipush_6 : (Int8.ofInt 6).toInt32 = (6 : Int32) := by decide +kernel
theorem kc_bipush_97 : (Int8.ofInt 97).toInt32 = (97 : Int32) := by decide +kernel
theorem kc_bipush_122 : (Int8.ofInt 122).toInt32 = (122 : Int32) := by decide +kernel
theorem kc_sipush_600 : (Int16.ofInt 600).toInt32 = (600 : Int32) := by decide +kernel
theorem kc_sipush_7919 : (Int16.ofInt 7919).toInt32 = (7919 : Int32) := by decide +kernel
theorem kc_bipush_11 : (Int8.ofInt 11).toInt32 = (11 : Int32) := by decide +kernel
theorem kc_bipush_14 : (Int8.ofInt 14).toInt32 = (14 : Int32) := by decide +kernel
theorem kc_bipush_7 : (Int8.ofInt 7).toInt32 = (7 : Int32) := by decide +kernel
theorem kc_bipush_8 : (Int8.ofInt 8).toInt32 = (8 : Int32) := by decide +kernel
theorem kc_bipush_15 : (Int8.ofInt 15).toInt32 = (15 : Int32) := by decide +kernel
theorem kc_bipush_100 : (Int8.ofInt 100).toInt32 = (100 : Int32) := by decide +kernel
theorem kc_bipush_26 : (Int8.ofInt 26).toInt32 = (26 : Int32) := by decide +kernel
theorem kc_bipush_17 : (Int8.ofInt 17).toInt32 = (17 : Int32) := by decide +kernel
theorem kc_bipush_9 : (Int8.ofInt 9).toInt32 = (9 : Int32) := by decide +kernel
theorem kc_bipush_60 : (Int8.ofInt 60).toInt32 = (60 : Int32) := by decide +kernel
theorem kc_bipush_13 : (Int8.ofInt 13).toInt32 = (13 : Int32) := by decide +kernel
theorem kc_bipush_90 : (Int8.ofInt 90).toInt32 = (90 : Int32) := by decide +kernel
theorem kc_bipush_18 : (Int8.ofInt 18).toInt32 = (18 : Int32) := by decide +kernel
theorem kc_bipush_65 : (Int8.ofInt 65).toInt32 = (65 : Int32) := by decide +kernel
theorem zLays {C : String} {T : u_T} {N : Nat} (h : ∀ k, k < N → zHas (u_lay C T k)) : ∀ w ∈ u_ws C T N, zHas w := by
  intro w hw
  obtain ⟨k, hk, rfl⟩ := List.mem_map.mp hw
  exact h k (List.mem_range.mp hk)
theorem lyX0_0 : zHas (u_lay RX0 TX0 0) := ⟨zIn1 (List.mem_of_getElem? (i := 202) rfl), rfl⟩
theorem lyX0_1 : zHas (u_lay RX0 TX0 1) := ⟨zIn1 (List.mem_of_getElem? (i := 204) rfl), rfl⟩
theorem inX0 : ∀ w ∈ u_ws RX0 TX0 2, zHas w := zLays (fun k hk => match k, hk with
  | 0, _ => lyX0_0
  | 1, _ => lyX0_1
  | k + 2, hk => absurd hk (by omega))
theorem clX0 : zCl 0 RX0 TX0 2 tyX0 := ⟨rfl, inX0, tyX0_ok, nmX0⟩
theorem dvX0 : ∀ j, j < 2 → defaultValue (tyX0 j) = vp_V [.null, .null] j := fun j hj => match j, hj with
  | 0, _ => rfl
  | 1, _ => rfl
  | j + 2, hj => absurd hj (by omega)
theorem lyX1_0 : zHas (u_lay RX1 TX1 0) := ⟨zIn1 (List.mem_of_getElem? (i := 186) rfl), rfl⟩
theorem lyX1_1 : zHas (u_lay RX1 TX1 1) := ⟨zIn1 (List.mem_of_getElem? (i := 188) rfl), rfl⟩
theorem inX1 : ∀ w ∈ u_ws RX1 TX1 2, zHas w := zLays (fun k hk => match k, hk with
  | 0, _ => lyX1_0
  | 1, _ => lyX1_1
  | k + 2, hk => absurd hk (by omega))
theorem clX1 : zCl 1 RX1 TX1 2 tyX1 := ⟨rfl, inX1, tyX1_ok, nmX1⟩
theorem dvX1 : ∀ j, j < 2 → defaultValue (tyX1 j) = vp_V [.null, .int 0] j := fun j hj => match j, hj with
  | 0, _ => rfl
  | 1, _ => rfl
  | j + 2, hj => absurd hj (by omega)
theorem lyX2_0 : zHas (u_lay RX2 TX2 0) := ⟨zIn1 (List.mem_of_getElem? (i := 82) rfl), rfl⟩
theorem lyX2_1 : zHas (u_lay RX2 TX2 1) := ⟨zIn1 (List.mem_of_getElem? (i := 84) rfl), rfl⟩
theorem inX2 : ∀ w ∈ u_ws RX2 TX2 2, zHas w := zLays (fun k hk => match k, hk with
  | 0, _ => lyX2_0
  | 1, _ => lyX2_1
  | k + 2, hk => absurd hk (by omega))
theorem clX2 : zCl 2 RX2 TX2 2 tyX2 := ⟨rfl, inX2, tyX2_ok, nmX2⟩
theorem dvX2 : ∀ j, j < 2 → defaultValue (tyX2 j) = vp_V [.null, .int 0] j := fun j hj => match j, hj with
  | 0, _ => rfl
  | 1, _ => rfl
  | j + 2, hj => absurd hj (by omega)
theorem lyX3_0 : zHas (u_lay RX3 TX3 0) := ⟨zIn1 (List.mem_of_getElem? (i := 104) rfl), rfl⟩
theorem lyX3_1 : zHas (u_lay RX3 TX3 1) := ⟨zIn1 (List.mem_of_getElem? (i := 106) rfl), rfl⟩
theorem lyX3_2 : zHas (u_lay RX3 TX3 2) := ⟨zIn1 (List.mem_of_getElem? (i := 108) rfl), rfl⟩
theorem lyX3_3 : zHas (u_lay RX3 TX3 3) := ⟨zIn1 (List.mem_of_getElem? (i := 110) rfl), rfl⟩
theorem lyX3_4 : zHas (u_lay RX3 TX3 4) := ⟨zIn1 (List.mem_of_getElem? (i := 112) rfl), rfl⟩
theorem lyX3_5 : zHas (u_lay RX3 TX3 5) := ⟨zIn1 (List.mem_of_getElem? (i := 114) rfl), rfl⟩
theorem lyX3_6 : zHas (u_lay RX3 TX3 6) := ⟨zIn1 (List.mem_of_getElem? (i := 116) rfl), rfl⟩
theorem inX3 : ∀ w ∈ u_ws RX3 TX3 7, zHas w := zLays (fun k hk => match k, hk with
  | 0, _ => lyX3_0
  | 1, _ => lyX3_1
  | 2, _ => lyX3_2
  | 3, _ => lyX3_3
  | 4, _ => lyX3_4
  | 5, _ => lyX3_5
  | 6, _ => lyX3_6
  | k + 7, hk => absurd hk (by omega))
theorem clX3 : zCl 3 RX3 TX3 7 tyX3 := ⟨rfl, inX3, tyX3_ok, nmX3⟩
theorem dvX3 : ∀ j, j < 7 → defaultValue (tyX3 j) = vp_V [.null, .int 0, .int 0, .int 0, .int 0, .int 0, .int 0] j := fun j hj => match j, hj with
  | 0, _ => rfl
  | 1, _ => rfl
  | 2, _ => rfl
  | 3, _ => rfl
  | 4, _ => rfl
  | 5, _ => rfl
  | 6, _ => rfl
  | j + 7, hj => absurd hj (by omega)
theorem lyX4_0 : zHas (u_lay RX4 TX4 0) := ⟨zIn1 (List.mem_of_getElem? (i := 50) rfl), rfl⟩
theorem lyX4_1 : zHas (u_lay RX4 TX4 1) := ⟨zIn1 (List.mem_of_getElem? (i := 52) rfl), rfl⟩
theorem lyX4_2 : zHas (u_lay RX4 TX4 2) := ⟨zIn1 (List.mem_of_getElem? (i := 54) rfl), rfl⟩
theorem lyX4_3 : zHas (u_lay RX4 TX4 3) := ⟨zIn1 (List.mem_of_getElem? (i := 56) rfl), rfl⟩
theorem lyX4_4 : zHas (u_lay RX4 TX4 4) := ⟨zIn1 (List.mem_of_getElem? (i := 58) rfl), rfl⟩
theorem lyX4_5 : zHas (u_lay RX4 TX4 5) := ⟨zIn1 (List.mem_of_getElem? (i := 60) rfl), rfl⟩
theorem lyX4_6 : zHas (u_lay RX4 TX4 6) := ⟨zIn1 (List.mem_of_getElem? (i := 62) rfl), rfl⟩
theorem inX4 : ∀ w ∈ u_ws RX4 TX4 7, zHas w := zLays (fun k hk => match k, hk with
  | 0, _ => lyX4_0
  | 1, _ => lyX4_1
  | 2, _ => lyX4_2
  | 3, _ => lyX4_3
  | 4, _ => lyX4_4
  | 5, _ => lyX4_5
  | 6, _ => lyX4_6
  | k + 7, hk => absurd hk (by omega))
theorem clX4 : zCl 4 RX4 TX4 7 tyX4 := ⟨rfl, inX4, tyX4_ok, nmX4⟩
theorem dvX4 : ∀ j, j < 7 → defaultValue (tyX4 j) = vp_V [.int 0, .int 0, .int 0, .int 0, .int 0, .int 0, .int 0] j := fun j hj => match j, hj with
  | 0, _ => rfl
  | 1, _ => rfl
  | 2, _ => rfl
  | 3, _ => rfl
  | 4, _ => rfl
  | 5, _ => rfl
  | 6, _ => rfl
  | j + 7, hj => absurd hj (by omega)
theorem lyX5_0 : zHas (u_lay RX5 TX5 0) := ⟨zIn1 (List.mem_of_getElem? (i := 147) rfl), rfl⟩
theorem lyX5_1 : zHas (u_lay RX5 TX5 1) := ⟨zIn1 (List.mem_of_getElem? (i := 149) rfl), rfl⟩
theorem lyX5_2 : zHas (u_lay RX5 TX5 2) := ⟨zIn1 (List.mem_of_getElem? (i := 151) rfl), rfl⟩
theorem lyX5_3 : zHas (u_lay RX5 TX5 3) := ⟨zIn1 (List.mem_of_getElem? (i := 153) rfl), rfl⟩
theorem lyX5_4 : zHas (u_lay RX5 TX5 4) := ⟨zIn1 (List.mem_of_getElem? (i := 155) rfl), rfl⟩
theorem lyX5_5 : zHas (u_lay RX5 TX5 5) := ⟨zIn1 (List.mem_of_getElem? (i := 157) rfl), rfl⟩
theorem lyX5_6 : zHas (u_lay RX5 TX5 6) := ⟨zIn1 (List.mem_of_getElem? (i := 159) rfl), rfl⟩
theorem lyX5_7 : zHas (u_lay RX5 TX5 7) := ⟨zIn1 (List.mem_of_getElem? (i := 161) rfl), rfl⟩
theorem lyX5_8 : zHas (u_lay RX5 TX5 8) := ⟨zIn1 (List.mem_of_getElem? (i := 163) rfl), rfl⟩
theorem lyX5_9 : zHas (u_lay RX5 TX5 9) := ⟨zIn1 (List.mem_of_getElem? (i := 165) rfl), rfl⟩
theorem lyX5_10 : zHas (u_lay RX5 TX5 10) := ⟨zIn1 (List.mem_of_getElem? (i := 167) rfl), rfl⟩
theorem lyX5_11 : zHas (u_lay RX5 TX5 11) := ⟨zIn1 (List.mem_of_getElem? (i := 169) rfl), rfl⟩
theorem lyX5_12 : zHas (u_lay RX5 TX5 12) := ⟨zIn1 (List.mem_of_getElem? (i := 171) rfl), rfl⟩
theorem inX5 : ∀ w ∈ u_ws RX5 TX5 13, zHas w := zLays (fun k hk => match k, hk with
  | 0, _ => lyX5_0
  | 1, _ => lyX5_1
  | 2, _ => lyX5_2
  | 3, _ => lyX5_3
  | 4, _ => lyX5_4
  | 5, _ => lyX5_5
  | 6, _ => lyX5_6
  | 7, _ => lyX5_7
  | 8, _ => lyX5_8
  | 9, _ => lyX5_9
  | 10, _ => lyX5_10
  | 11, _ => lyX5_11
  | 12, _ => lyX5_12
  | k + 13, hk => absurd hk (by omega))
theorem clX5 : zCl 5 RX5 TX5 13 tyX5 := ⟨rfl, inX5, tyX5_ok, nmX5⟩
theorem dvX5 : ∀ j, j < 13 → defaultValue (tyX5 j) = vp_V [.null, .null, .null, .int 0, .int 0, .int 0, .int 0, .int 0, .int 0, .int 0, .int 0, .int 0, .int 0] j := fun j hj => match j, hj with
  | 0, _ => rfl
  | 1, _ => rfl
  | 2, _ => rfl
  | 3, _ => rfl
  | 4, _ => rfl
  | 5, _ => rfl
  | 6, _ => rfl
  | 7, _ => rfl
  | 8, _ => rfl
  | 9, _ => rfl
  | 10, _ => rfl
  | 11, _ => rfl
  | 12, _ => rfl
  | j + 13, hj => absurd hj (by omega)
theorem lyX6_0 : zHas (u_lay RX6 TX6 0) := ⟨zIn1 (List.mem_of_getElem? (i := 212) rfl), rfl⟩
theorem lyX6_1 : zHas (u_lay RX6 TX6 1) := ⟨zIn1 (List.mem_of_getElem? (i := 214) rfl), rfl⟩
theorem lyX6_2 : zHas (u_lay RX6 TX6 2) := ⟨zIn1 (List.mem_of_getElem? (i := 216) rfl), rfl⟩
theorem lyX6_3 : zHas (u_lay RX6 TX6 3) := ⟨zIn1 (List.mem_of_getElem? (i := 218) rfl), rfl⟩
theorem lyX6_4 : zHas (u_lay RX6 TX6 4) := ⟨zIn1 (List.mem_of_getElem? (i := 220) rfl), rfl⟩
theorem inX6 : ∀ w ∈ u_ws RX6 TX6 5, zHas w := zLays (fun k hk => match k, hk with
  | 0, _ => lyX6_0
  | 1, _ => lyX6_1
  | 2, _ => lyX6_2
  | 3, _ => lyX6_3
  | 4, _ => lyX6_4
  | k + 5, hk => absurd hk (by omega))
theorem clX6 : zCl 6 RX6 TX6 5 tyX6 := ⟨rfl, inX6, tyX6_ok, nmX6⟩
theorem dvX6 : ∀ j, j < 5 → defaultValue (tyX6 j) = vp_V [.null, .null, .null, .null, .null] j := fun j hj => match j, hj with
  | 0, _ => rfl
  | 1, _ => rfl
  | 2, _ => rfl
  | 3, _ => rfl
  | 4, _ => rfl
  | j + 5, hj => absurd hj (by omega)
theorem okX2_3 : zHas (Cond.methodLink RX2 3 objectInit) := ⟨zIn1 (List.mem_of_getElem? (i := 76) rfl), rfl⟩
theorem imObj : zHas (Cond.instanceMethod objectInit) := ⟨zIn1 (List.mem_of_getElem? (i := 15) rfl), rfl⟩
theorem cdObj : zHas (Cond.code objectInit ⟨#[0xb1]⟩ 1 none) := ⟨zIn1 (List.mem_of_getElem? (i := 16) rfl), rfl⟩
theorem acI : zHas (Cond.arrayClass .int) := ⟨zIn1 (List.mem_of_getElem? (i := 65) rfl), rfl⟩
theorem lkX2_9 : zHas (Cond.fieldLink RX2 9 (TX2 0).1 (TX2 0).2.1 (TX2 0).2.2.1) := ⟨zIn1 (List.mem_of_getElem? (i := 77) rfl), rfl⟩
theorem cdX2_init : zHas (Cond.code yX2_init cX2_init 1 (none)) := ⟨zIn1 (List.mem_of_getElem? (i := 75) rfl), rfl⟩
theorem iniX2 : zHas (Cond.initialized RX2) := ⟨zIn1 (List.mem_of_getElem? (i := 5) rfl), rfl⟩
theorem lkX2_15 : zHas (Cond.fieldLink RX2 15 (TX2 1).1 (TX2 1).2.1 (TX2 1).2.2.1) := ⟨zIn1 (List.mem_of_getElem? (i := 79) rfl), rfl⟩
theorem cdX2_add : zHas (Cond.code yX2_add cX2_add 2 (none)) := ⟨zIn2 (List.mem_of_getElem? (i := 41) rfl), rfl⟩
theorem cdX2_copyFrom : zHas (Cond.code yX2_copyFrom cX2_copyFrom 3 (none)) := ⟨zIn2 (List.mem_of_getElem? (i := 13) rfl), rfl⟩
theorem cdX2_widthOf : zHas (Cond.code yX2_widthOf cX2_widthOf 1 (some .int)) := ⟨zIn2 (List.mem_of_getElem? (i := 118) rfl), rfl⟩
theorem mkX2_19 : zHas (Cond.methodLink RX2 19 yX2_widthOf) := ⟨zIn2 (List.mem_of_getElem? (i := 116) rfl), rfl⟩
theorem stX2_widthOf : zHas (Cond.static yX2_widthOf) := ⟨zIn2 (List.mem_of_getElem? (i := 117) rfl), rfl⟩
theorem cdX2_lengthIn : zHas (Cond.code yX2_lengthIn cX2_lengthIn 5 (some .int)) := ⟨zIn2 (List.mem_of_getElem? (i := 115) rfl), rfl⟩
theorem okX4_3 : zHas (Cond.methodLink RX4 3 objectInit) := ⟨zIn1 (List.mem_of_getElem? (i := 31) rfl), rfl⟩
theorem cdX4_init : zHas (Cond.code yX4_init cX4_init 1 (none)) := ⟨zIn1 (List.mem_of_getElem? (i := 30) rfl), rfl⟩
theorem iniX4 : zHas (Cond.initialized RX4) := ⟨zIn1 (List.mem_of_getElem? (i := 3) rfl), rfl⟩
theorem lkX4_9 : zHas (Cond.fieldLink RX4 9 (TX4 0).1 (TX4 0).2.1 (TX4 0).2.2.1) := ⟨zIn1 (List.mem_of_getElem? (i := 32) rfl), rfl⟩
theorem lkX4_15 : zHas (Cond.fieldLink RX4 15 (TX4 1).1 (TX4 1).2.1 (TX4 1).2.2.1) := ⟨zIn1 (List.mem_of_getElem? (i := 35) rfl), rfl⟩
theorem lkX4_27 : zHas (Cond.fieldLink RX4 27 (TX4 2).1 (TX4 2).2.1 (TX4 2).2.2.1) := ⟨zIn1 (List.mem_of_getElem? (i := 37) rfl), rfl⟩
theorem lkX4_18 : zHas (Cond.fieldLink RX4 18 (TX4 3).1 (TX4 3).2.1 (TX4 3).2.2.1) := ⟨zIn1 (List.mem_of_getElem? (i := 40) rfl), rfl⟩
theorem lkX4_21 : zHas (Cond.fieldLink RX4 21 (TX4 4).1 (TX4 4).2.1 (TX4 4).2.2.1) := ⟨zIn1 (List.mem_of_getElem? (i := 42) rfl), rfl⟩
theorem lkX4_30 : zHas (Cond.fieldLink RX4 30 (TX4 5).1 (TX4 5).2.1 (TX4 5).2.2.1) := ⟨zIn1 (List.mem_of_getElem? (i := 44) rfl), rfl⟩
theorem lkX4_33 : zHas (Cond.fieldLink RX4 33 (TX4 6).1 (TX4 6).2.1 (TX4 6).2.2.1) := ⟨zIn1 (List.mem_of_getElem? (i := 47) rfl), rfl⟩
theorem cdX4_copyFrom : zHas (Cond.code yX4_copyFrom cX4_copyFrom 2 (none)) := ⟨zIn2 (List.mem_of_getElem? (i := 5) rfl), rfl⟩
theorem cdX4_putIntoDrawer : zHas (Cond.code yX4_putIntoDrawer cX4_putIntoDrawer 1 (none)) := ⟨zIn2 (List.mem_of_getElem? (i := 25) rfl), rfl⟩
theorem cdX4_fixOn : zHas (Cond.code yX4_fixOn cX4_fixOn 3 (none)) := ⟨zIn2 (List.mem_of_getElem? (i := 196) rfl), rfl⟩
theorem cdX4_depthOf : zHas (Cond.code yX4_depthOf cX4_depthOf 2 (some .int)) := ⟨zIn2 (List.mem_of_getElem? (i := 168) rfl), rfl⟩
theorem mkX4_36 : zHas (Cond.methodLink RX4 36 yX4_depthOf) := ⟨zIn2 (List.mem_of_getElem? (i := 165) rfl), rfl⟩
theorem imX4_depthOf : zHas (Cond.instanceMethod yX4_depthOf) := ⟨zIn2 (List.mem_of_getElem? (i := 166) rfl), rfl⟩
theorem seX4_depthOf : zHas (Cond.selects RX4 yX4_depthOf yX4_depthOf) := ⟨zIn2 (List.mem_of_getElem? (i := 167) rfl), rfl⟩
theorem cdX4_isBlank : zHas (Cond.code yX4_isBlank cX4_isBlank 2 (some .boolean)) := ⟨zIn2 (List.mem_of_getElem? (i := 164) rfl), rfl⟩
theorem cdX4_engrave : zHas (Cond.code yX4_engrave cX4_engrave 3 (none)) := ⟨zIn2 (List.mem_of_getElem? (i := 180) rfl), rfl⟩
theorem mkX4_40 : zHas (Cond.methodLink RX4 40 yX4_engrave) := ⟨zIn2 (List.mem_of_getElem? (i := 177) rfl), rfl⟩
theorem imX4_engrave : zHas (Cond.instanceMethod yX4_engrave) := ⟨zIn2 (List.mem_of_getElem? (i := 178) rfl), rfl⟩
theorem seX4_engrave : zHas (Cond.selects RX4 yX4_engrave yX4_engrave) := ⟨zIn2 (List.mem_of_getElem? (i := 179) rfl), rfl⟩
theorem cdX4_grindOff : zHas (Cond.code yX4_grindOff cX4_grindOff 2 (none)) := ⟨zIn2 (List.mem_of_getElem? (i := 176) rfl), rfl⟩
theorem cdX4_bears : zHas (Cond.code yX4_bears cX4_bears 2 (some .boolean)) := ⟨zIn2 (List.mem_of_getElem? (i := 138) rfl), rfl⟩
theorem mkX4_44 : zHas (Cond.methodLink RX4 44 yX4_bears) := ⟨zIn2 (List.mem_of_getElem? (i := 135) rfl), rfl⟩
theorem imX4_bears : zHas (Cond.instanceMethod yX4_bears) := ⟨zIn2 (List.mem_of_getElem? (i := 136) rfl), rfl⟩
theorem seX4_bears : zHas (Cond.selects RX4 yX4_bears yX4_bears) := ⟨zIn2 (List.mem_of_getElem? (i := 137) rfl), rfl⟩
theorem cdX4_bearsOnceGround : zHas (Cond.code yX4_bearsOnceGround cX4_bearsOnceGround 2 (some .boolean)) := ⟨zIn2 (List.mem_of_getElem? (i := 134) rfl), rfl⟩
theorem mkX4_48 : zHas (Cond.methodLink RX4 48 yX4_isBlank) := ⟨zIn3 (List.mem_of_getElem? (i := 82) rfl), rfl⟩
theorem imX4_isBlank : zHas (Cond.instanceMethod yX4_isBlank) := ⟨zIn2 (List.mem_of_getElem? (i := 162) rfl), rfl⟩
theorem seX4_isBlank : zHas (Cond.selects RX4 yX4_isBlank yX4_isBlank) := ⟨zIn2 (List.mem_of_getElem? (i := 163) rfl), rfl⟩
theorem cdX4_isReady : zHas (Cond.code yX4_isReady cX4_isReady 3 (some .boolean)) := ⟨zIn3 (List.mem_of_getElem? (i := 105) rfl), rfl⟩
theorem mkX4_51 : zHas (Cond.methodLink RX4 51 yX4_bearsOnceGround) := ⟨zIn2 (List.mem_of_getElem? (i := 131) rfl), rfl⟩
theorem imX4_bearsOnceGround : zHas (Cond.instanceMethod yX4_bearsOnceGround) := ⟨zIn2 (List.mem_of_getElem? (i := 132) rfl), rfl⟩
theorem seX4_bearsOnceGround : zHas (Cond.selects RX4 yX4_bearsOnceGround yX4_bearsOnceGround) := ⟨zIn2 (List.mem_of_getElem? (i := 133) rfl), rfl⟩
theorem cdX4_canBeGround : zHas (Cond.code yX4_canBeGround cX4_canBeGround 3 (some .boolean)) := ⟨zIn3 (List.mem_of_getElem? (i := 81) rfl), rfl⟩
theorem cdX4_readySide : zHas (Cond.code yX4_readySide cX4_readySide 2 (some .int)) := ⟨zIn2 (List.mem_of_getElem? (i := 142) rfl), rfl⟩
theorem cdX4_sideToGrind : zHas (Cond.code yX4_sideToGrind cX4_sideToGrind 2 (some .int)) := ⟨zIn2 (List.mem_of_getElem? (i := 130) rfl), rfl⟩
theorem mkX4_54 : zHas (Cond.methodLink RX4 54 yX4_readySide) := ⟨zIn2 (List.mem_of_getElem? (i := 155) rfl), rfl⟩
theorem imX4_readySide : zHas (Cond.instanceMethod yX4_readySide) := ⟨zIn2 (List.mem_of_getElem? (i := 140) rfl), rfl⟩
theorem seX4_readySide : zHas (Cond.selects RX4 yX4_readySide yX4_readySide) := ⟨zIn2 (List.mem_of_getElem? (i := 141) rfl), rfl⟩
theorem mkX4_57 : zHas (Cond.methodLink RX4 57 yX4_sideToGrind) := ⟨zIn2 (List.mem_of_getElem? (i := 156) rfl), rfl⟩
theorem imX4_sideToGrind : zHas (Cond.instanceMethod yX4_sideToGrind) := ⟨zIn2 (List.mem_of_getElem? (i := 128) rfl), rfl⟩
theorem seX4_sideToGrind : zHas (Cond.selects RX4 yX4_sideToGrind yX4_sideToGrind) := ⟨zIn2 (List.mem_of_getElem? (i := 129) rfl), rfl⟩
theorem cdX4_sideFor : zHas (Cond.code yX4_sideFor cX4_sideFor 3 (some .int)) := ⟨zIn2 (List.mem_of_getElem? (i := 154) rfl), rfl⟩
theorem cdX4_isBetterThan : zHas (Cond.code yX4_isBetterThan cX4_isBetterThan 2 (some .boolean)) := ⟨zIn2 (List.mem_of_getElem? (i := 146) rfl), rfl⟩
theorem mkX4_24 : zHas (Cond.methodLink RX4 24 yX4_putIntoDrawer) := ⟨zIn2 (List.mem_of_getElem? (i := 22) rfl), rfl⟩
theorem imX4_putIntoDrawer : zHas (Cond.instanceMethod yX4_putIntoDrawer) := ⟨zIn2 (List.mem_of_getElem? (i := 23) rfl), rfl⟩
theorem seX4_putIntoDrawer : zHas (Cond.selects RX4 yX4_putIntoDrawer yX4_putIntoDrawer) := ⟨zIn2 (List.mem_of_getElem? (i := 24) rfl), rfl⟩
theorem cdX4_makeNew : zHas (Cond.code yX4_makeNew cX4_makeNew 3 (none)) := ⟨zIn2 (List.mem_of_getElem? (i := 21) rfl), rfl⟩
theorem okX3_1 : zHas (Cond.methodLink RX3 1 objectInit) := ⟨zIn1 (List.mem_of_getElem? (i := 70) rfl), rfl⟩
theorem clX3_7 : zHas (Cond.classLink RX3 7 RX2) := ⟨zIn1 (List.mem_of_getElem? (i := 71) rfl), rfl⟩
theorem is2 : zHas (Cond.instantiable RX2 2) := ⟨zIn1 (List.mem_of_getElem? (i := 72) rfl), rfl⟩
theorem imX2_init : zHas (Cond.instanceMethod yX2_init) := ⟨zIn1 (List.mem_of_getElem? (i := 74) rfl), rfl⟩
theorem nkX3_9 : Cond.methodLinkNest RX3 9 yX2_init "TrophyPlates" ∈ lw_tbl := zIn1 (List.mem_of_getElem? (i := 73) rfl)
theorem lkX3_10 : zHas (Cond.fieldLink RX3 10 (TX3 0).1 (TX3 0).2.1 (TX3 0).2.2.1) := ⟨zIn1 (List.mem_of_getElem? (i := 87) rfl), rfl⟩
theorem cdX3_init : zHas (Cond.code yX3_init cX3_init 1 (none)) := ⟨zIn1 (List.mem_of_getElem? (i := 69) rfl), rfl⟩
theorem iniX3 : zHas (Cond.initialized RX3) := ⟨zIn1 (List.mem_of_getElem? (i := 4) rfl), rfl⟩
theorem mkX3_16 : zHas (Cond.methodLink RX3 16 yX2_copyFrom) := ⟨zIn2 (List.mem_of_getElem? (i := 10) rfl), rfl⟩
theorem imX2_copyFrom : zHas (Cond.instanceMethod yX2_copyFrom) := ⟨zIn2 (List.mem_of_getElem? (i := 11) rfl), rfl⟩
theorem seX2_copyFrom : zHas (Cond.selects RX2 yX2_copyFrom yX2_copyFrom) := ⟨zIn2 (List.mem_of_getElem? (i := 12) rfl), rfl⟩
theorem lkX3_20 : zHas (Cond.fieldLink RX3 20 (TX3 1).1 (TX3 1).2.1 (TX3 1).2.2.1) := ⟨zIn1 (List.mem_of_getElem? (i := 89) rfl), rfl⟩
theorem lkX3_24 : zHas (Cond.fieldLink RX3 24 (TX3 2).1 (TX3 2).2.1 (TX3 2).2.2.1) := ⟨zIn1 (List.mem_of_getElem? (i := 92) rfl), rfl⟩
theorem lkX3_27 : zHas (Cond.fieldLink RX3 27 (TX3 3).1 (TX3 3).2.1 (TX3 3).2.2.1) := ⟨zIn1 (List.mem_of_getElem? (i := 95) rfl), rfl⟩
theorem lkX3_30 : zHas (Cond.fieldLink RX3 30 (TX3 4).1 (TX3 4).2.1 (TX3 4).2.2.1) := ⟨zIn1 (List.mem_of_getElem? (i := 97) rfl), rfl⟩
theorem lkX3_33 : zHas (Cond.fieldLink RX3 33 (TX3 5).1 (TX3 5).2.1 (TX3 5).2.2.1) := ⟨zIn1 (List.mem_of_getElem? (i := 100) rfl), rfl⟩
theorem cdX3_copyFrom : zHas (Cond.code yX3_copyFrom cX3_copyFrom 2 (none)) := ⟨zIn2 (List.mem_of_getElem? (i := 9) rfl), rfl⟩
theorem mkX3_37 : zHas (Cond.methodLink RX3 37 yX2_lengthIn) := ⟨zIn2 (List.mem_of_getElem? (i := 112) rfl), rfl⟩
theorem imX2_lengthIn : zHas (Cond.instanceMethod yX2_lengthIn) := ⟨zIn2 (List.mem_of_getElem? (i := 113) rfl), rfl⟩
theorem seX2_lengthIn : zHas (Cond.selects RX2 yX2_lengthIn yX2_lengthIn) := ⟨zIn2 (List.mem_of_getElem? (i := 114) rfl), rfl⟩
theorem cdX3_nameLength : zHas (Cond.code yX3_nameLength cX3_nameLength 1 (some .int)) := ⟨zIn2 (List.mem_of_getElem? (i := 111) rfl), rfl⟩
theorem lkX3_41 : zHas (Cond.fieldLink RX3 41 (TX2 1).1 (TX2 1).2.1 (TX2 1).2.2.1) := ⟨zIn1 (List.mem_of_getElem? (i := 80) rfl), rfl⟩
theorem cdX3_effort : zHas (Cond.code yX3_effort cX3_effort 1 (some .int)) := ⟨zIn2 (List.mem_of_getElem? (i := 160) rfl), rfl⟩
theorem okX5_3 : zHas (Cond.methodLink RX5 3 objectInit) := ⟨zIn1 (List.mem_of_getElem? (i := 22) rfl), rfl⟩
theorem ao4 : Cond.arrayOver (.object RX4) ∈ lw_tbl := zIn1 (List.mem_of_getElem? (i := 24) rfl)
theorem clX5_9 : zHas (Cond.classLink RX5 9 RX4) := ⟨zIn1 (List.mem_of_getElem? (i := 23) rfl), rfl⟩
theorem lkX5_11 : zHas (Cond.fieldLink RX5 11 (TX5 0).1 (TX5 0).2.1 (TX5 0).2.2.1) := ⟨zIn1 (List.mem_of_getElem? (i := 119) rfl), rfl⟩
theorem lkX5_17 : zHas (Cond.fieldLink RX5 17 (TX5 1).1 (TX5 1).2.1 (TX5 1).2.2.1) := ⟨zIn1 (List.mem_of_getElem? (i := 121) rfl), rfl⟩
theorem ao3 : Cond.arrayOver (.object RX3) ∈ lw_tbl := zIn1 (List.mem_of_getElem? (i := 26) rfl)
theorem clX5_21 : zHas (Cond.classLink RX5 21 RX3) := ⟨zIn1 (List.mem_of_getElem? (i := 25) rfl), rfl⟩
theorem lkX5_23 : zHas (Cond.fieldLink RX5 23 (TX5 2).1 (TX5 2).2.1 (TX5 2).2.2.1) := ⟨zIn1 (List.mem_of_getElem? (i := 123) rfl), rfl⟩
theorem lkX5_27 : zHas (Cond.fieldLink RX5 27 (TX5 6).1 (TX5 6).2.1 (TX5 6).2.2.1) := ⟨zIn1 (List.mem_of_getElem? (i := 132) rfl), rfl⟩
theorem lkX5_31 : zHas (Cond.fieldLink RX5 31 (TX5 7).1 (TX5 7).2.1 (TX5 7).2.2.1) := ⟨zIn1 (List.mem_of_getElem? (i := 135) rfl), rfl⟩
theorem lkX5_34 : zHas (Cond.fieldLink RX5 34 (TX5 8).1 (TX5 8).2.1 (TX5 8).2.2.1) := ⟨zIn1 (List.mem_of_getElem? (i := 137) rfl), rfl⟩
theorem lkX5_37 : zHas (Cond.fieldLink RX5 37 (TX5 9).1 (TX5 9).2.1 (TX5 9).2.2.1) := ⟨zIn1 (List.mem_of_getElem? (i := 138) rfl), rfl⟩
theorem is4 : zHas (Cond.instantiable RX4 7) := ⟨zIn1 (List.mem_of_getElem? (i := 27) rfl), rfl⟩
theorem imX4_init : zHas (Cond.instanceMethod yX4_init) := ⟨zIn1 (List.mem_of_getElem? (i := 29) rfl), rfl⟩
theorem nkX5_40 : Cond.methodLinkNest RX5 40 yX4_init "TrophyPlates" ∈ lw_tbl := zIn1 (List.mem_of_getElem? (i := 28) rfl)
theorem is3 : zHas (Cond.instantiable RX3 7) := ⟨zIn1 (List.mem_of_getElem? (i := 66) rfl), rfl⟩
theorem imX3_init : zHas (Cond.instanceMethod yX3_init) := ⟨zIn1 (List.mem_of_getElem? (i := 68) rfl), rfl⟩
theorem nkX5_41 : Cond.methodLinkNest RX5 41 yX3_init "TrophyPlates" ∈ lw_tbl := zIn1 (List.mem_of_getElem? (i := 67) rfl)
theorem cdX5_init : zHas (Cond.code yX5_init cX5_init 2 (none)) := ⟨zIn1 (List.mem_of_getElem? (i := 21) rfl), rfl⟩
theorem iniX5 : zHas (Cond.initialized RX5) := ⟨zIn1 (List.mem_of_getElem? (i := 2) rfl), rfl⟩
theorem lkX5_42 : zHas (Cond.fieldLink RX5 42 (TX5 3).1 (TX5 3).2.1 (TX5 3).2.2.1) := ⟨zIn1 (List.mem_of_getElem? (i := 126) rfl), rfl⟩
theorem mkX5_45 : zHas (Cond.methodLink RX5 45 yX4_copyFrom) := ⟨zIn2 (List.mem_of_getElem? (i := 2) rfl), rfl⟩
theorem imX4_copyFrom : zHas (Cond.instanceMethod yX4_copyFrom) := ⟨zIn2 (List.mem_of_getElem? (i := 3) rfl), rfl⟩
theorem seX4_copyFrom : zHas (Cond.selects RX4 yX4_copyFrom yX4_copyFrom) := ⟨zIn2 (List.mem_of_getElem? (i := 4) rfl), rfl⟩
theorem lkX5_49 : zHas (Cond.fieldLink RX5 49 (TX5 4).1 (TX5 4).2.1 (TX5 4).2.2.1) := ⟨zIn1 (List.mem_of_getElem? (i := 128) rfl), rfl⟩
theorem lkX5_52 : zHas (Cond.fieldLink RX5 52 (TX5 5).1 (TX5 5).2.1 (TX5 5).2.2.1) := ⟨zIn1 (List.mem_of_getElem? (i := 130) rfl), rfl⟩
theorem mkX5_55 : zHas (Cond.methodLink RX5 55 yX3_copyFrom) := ⟨zIn2 (List.mem_of_getElem? (i := 6) rfl), rfl⟩
theorem imX3_copyFrom : zHas (Cond.instanceMethod yX3_copyFrom) := ⟨zIn2 (List.mem_of_getElem? (i := 7) rfl), rfl⟩
theorem seX3_copyFrom : zHas (Cond.selects RX3 yX3_copyFrom yX3_copyFrom) := ⟨zIn2 (List.mem_of_getElem? (i := 8) rfl), rfl⟩
theorem lkX5_58 : zHas (Cond.fieldLink RX5 58 (TX5 10).1 (TX5 10).2.1 (TX5 10).2.2.1) := ⟨zIn1 (List.mem_of_getElem? (i := 141) rfl), rfl⟩
theorem lkX5_61 : zHas (Cond.fieldLink RX5 61 (TX5 11).1 (TX5 11).2.1 (TX5 11).2.2.1) := ⟨zIn1 (List.mem_of_getElem? (i := 143) rfl), rfl⟩
theorem lkX5_64 : zHas (Cond.fieldLink RX5 64 (TX5 12).1 (TX5 12).2.1 (TX5 12).2.2.1) := ⟨zIn1 (List.mem_of_getElem? (i := 145) rfl), rfl⟩
theorem cdX5_copyFrom : zHas (Cond.code yX5_copyFrom cX5_copyFrom 3 (none)) := ⟨zIn2 (List.mem_of_getElem? (i := 1) rfl), rfl⟩
theorem cdX5_hasPlate : zHas (Cond.code yX5_hasPlate cX5_hasPlate 2 (some .boolean)) := ⟨zIn2 (List.mem_of_getElem? (i := 107) rfl), rfl⟩
theorem cdX5_hasShield : zHas (Cond.code yX5_hasShield cX5_hasShield 2 (some .boolean)) := ⟨zIn2 (List.mem_of_getElem? (i := 53) rfl), rfl⟩
theorem cdX5_hasOrder : zHas (Cond.code yX5_hasOrder cX5_hasOrder 2 (some .boolean)) := ⟨zIn2 (List.mem_of_getElem? (i := 103) rfl), rfl⟩
theorem mkX5_67 : zHas (Cond.methodLink RX5 67 yX5_hasOrder) := ⟨zIn2 (List.mem_of_getElem? (i := 100) rfl), rfl⟩
theorem imX5_hasOrder : zHas (Cond.instanceMethod yX5_hasOrder) := ⟨zIn2 (List.mem_of_getElem? (i := 101) rfl), rfl⟩
theorem seX5_hasOrder : zHas (Cond.selects RX5 yX5_hasOrder yX5_hasOrder) := ⟨zIn2 (List.mem_of_getElem? (i := 102) rfl), rfl⟩
theorem mkX5_71 : zHas (Cond.methodLink RX5 71 yX5_hasPlate) := ⟨zIn2 (List.mem_of_getElem? (i := 104) rfl), rfl⟩
theorem imX5_hasPlate : zHas (Cond.instanceMethod yX5_hasPlate) := ⟨zIn2 (List.mem_of_getElem? (i := 105) rfl), rfl⟩
theorem seX5_hasPlate : zHas (Cond.selects RX5 yX5_hasPlate yX5_hasPlate) := ⟨zIn2 (List.mem_of_getElem? (i := 106) rfl), rfl⟩
theorem cdX5_isWorking : zHas (Cond.code yX5_isWorking cX5_isWorking 1 (some .boolean)) := ⟨zIn2 (List.mem_of_getElem? (i := 99) rfl), rfl⟩
theorem mkX5_74 : zHas (Cond.methodLink RX5 74 yX4_makeNew) := ⟨zIn2 (List.mem_of_getElem? (i := 18) rfl), rfl⟩
theorem imX4_makeNew : zHas (Cond.instanceMethod yX4_makeNew) := ⟨zIn2 (List.mem_of_getElem? (i := 19) rfl), rfl⟩
theorem seX4_makeNew : zHas (Cond.selects RX4 yX4_makeNew yX4_makeNew) := ⟨zIn2 (List.mem_of_getElem? (i := 20) rfl), rfl⟩
theorem cdX5_addPlate : zHas (Cond.code yX5_addPlate cX5_addPlate 3 (some .int)) := ⟨zIn2 (List.mem_of_getElem? (i := 17) rfl), rfl⟩
theorem cdX5_hangShield : zHas (Cond.code yX5_hangShield cX5_hangShield 2 (some .int)) := ⟨zIn2 (List.mem_of_getElem? (i := 33) rfl), rfl⟩
theorem mkX5_78 : zHas (Cond.methodLink RX5 78 yX4_grindOff) := ⟨zIn2 (List.mem_of_getElem? (i := 173) rfl), rfl⟩
theorem imX4_grindOff : zHas (Cond.instanceMethod yX4_grindOff) := ⟨zIn2 (List.mem_of_getElem? (i := 174) rfl), rfl⟩
theorem seX4_grindOff : zHas (Cond.selects RX4 yX4_grindOff yX4_grindOff) := ⟨zIn2 (List.mem_of_getElem? (i := 175) rfl), rfl⟩
theorem cdX5_grindSide : zHas (Cond.code yX5_grindSide cX5_grindSide 3 (none)) := ⟨zIn2 (List.mem_of_getElem? (i := 172) rfl), rfl⟩
theorem lkX5_82 : zHas (Cond.fieldLink RX5 82 (TX4 2).1 (TX4 2).2.1 (TX4 2).2.2.1) := ⟨zIn1 (List.mem_of_getElem? (i := 39) rfl), rfl⟩
theorem cdX5_platesIn : zHas (Cond.code yX5_platesIn cX5_platesIn 4 (some .int)) := ⟨zIn2 (List.mem_of_getElem? (i := 231) rfl), rfl⟩
theorem lkX5_85 : zHas (Cond.fieldLink RX5 85 (TX4 5).1 (TX4 5).2.1 (TX4 5).2.2.1) := ⟨zIn1 (List.mem_of_getElem? (i := 45) rfl), rfl⟩
theorem cdX5_platesOn : zHas (Cond.code yX5_platesOn cX5_platesOn 4 (some .int)) := ⟨zIn2 (List.mem_of_getElem? (i := 201) rfl), rfl⟩
theorem lkX5_88 : zHas (Cond.fieldLink RX5 88 (TX4 6).1 (TX4 6).2.1 (TX4 6).2.2.1) := ⟨zIn1 (List.mem_of_getElem? (i := 48) rfl), rfl⟩
theorem cdX5_plateOfYear : zHas (Cond.code yX5_plateOfYear cX5_plateOfYear 4 (some .int)) := ⟨zIn2 (List.mem_of_getElem? (i := 66) rfl), rfl⟩
theorem cdX5_earliestYear : zHas (Cond.code yX5_earliestYear cX5_earliestYear 5 (some .int)) := ⟨zIn2 (List.mem_of_getElem? (i := 205) rfl), rfl⟩
theorem cdX5_latestYear : zHas (Cond.code yX5_latestYear cX5_latestYear 5 (some .int)) := ⟨zIn3 (List.mem_of_getElem? (i := 52) rfl), rfl⟩
theorem mkX5_91 : zHas (Cond.methodLink RX5 91 yX5_platesOn) := ⟨zIn2 (List.mem_of_getElem? (i := 198) rfl), rfl⟩
theorem imX5_platesOn : zHas (Cond.instanceMethod yX5_platesOn) := ⟨zIn2 (List.mem_of_getElem? (i := 199) rfl), rfl⟩
theorem seX5_platesOn : zHas (Cond.selects RX5 yX5_platesOn yX5_platesOn) := ⟨zIn2 (List.mem_of_getElem? (i := 200) rfl), rfl⟩
theorem mkX5_95 : zHas (Cond.methodLink RX5 95 yX5_latestYear) := ⟨zIn3 (List.mem_of_getElem? (i := 57) rfl), rfl⟩
theorem imX5_latestYear : zHas (Cond.instanceMethod yX5_latestYear) := ⟨zIn3 (List.mem_of_getElem? (i := 50) rfl), rfl⟩
theorem seX5_latestYear : zHas (Cond.selects RX5 yX5_latestYear yX5_latestYear) := ⟨zIn3 (List.mem_of_getElem? (i := 51) rfl), rfl⟩
theorem mkX5_98 : zHas (Cond.methodLink RX5 98 yX5_earliestYear) := ⟨zIn2 (List.mem_of_getElem? (i := 202) rfl), rfl⟩
theorem imX5_earliestYear : zHas (Cond.instanceMethod yX5_earliestYear) := ⟨zIn2 (List.mem_of_getElem? (i := 203) rfl), rfl⟩
theorem seX5_earliestYear : zHas (Cond.selects RX5 yX5_earliestYear yX5_earliestYear) := ⟨zIn2 (List.mem_of_getElem? (i := 204) rfl), rfl⟩
theorem cdX5_yearsLeftOut : zHas (Cond.code yX5_yearsLeftOut cX5_yearsLeftOut 3 (some .int)) := ⟨zIn3 (List.mem_of_getElem? (i := 56) rfl), rfl⟩
theorem mkX5_101 : zHas (Cond.methodLink RX5 101 yX4_fixOn) := ⟨zIn2 (List.mem_of_getElem? (i := 193) rfl), rfl⟩
theorem imX4_fixOn : zHas (Cond.instanceMethod yX4_fixOn) := ⟨zIn2 (List.mem_of_getElem? (i := 194) rfl), rfl⟩
theorem seX4_fixOn : zHas (Cond.selects RX4 yX4_fixOn yX4_fixOn) := ⟨zIn2 (List.mem_of_getElem? (i := 195) rfl), rfl⟩
theorem mkX5_104 : zHas (Cond.methodLink RX5 104 yX5_hasShield) := ⟨zIn2 (List.mem_of_getElem? (i := 197) rfl), rfl⟩
theorem imX5_hasShield : zHas (Cond.instanceMethod yX5_hasShield) := ⟨zIn2 (List.mem_of_getElem? (i := 51) rfl), rfl⟩
theorem seX5_hasShield : zHas (Cond.selects RX5 yX5_hasShield yX5_hasShield) := ⟨zIn2 (List.mem_of_getElem? (i := 52) rfl), rfl⟩
theorem mkX5_107 : zHas (Cond.methodLink RX5 107 yX5_plateOfYear) := ⟨zIn2 (List.mem_of_getElem? (i := 206) rfl), rfl⟩
theorem imX5_plateOfYear : zHas (Cond.instanceMethod yX5_plateOfYear) := ⟨zIn2 (List.mem_of_getElem? (i := 64) rfl), rfl⟩
theorem seX5_plateOfYear : zHas (Cond.selects RX5 yX5_plateOfYear yX5_plateOfYear) := ⟨zIn2 (List.mem_of_getElem? (i := 65) rfl), rfl⟩
theorem mkX5_111 : zHas (Cond.methodLink RX5 111 yX4_putIntoDrawer) := ⟨zIn2 (List.mem_of_getElem? (i := 207) rfl), rfl⟩
theorem cdX5_fixPlate : zHas (Cond.code yX5_fixPlate cX5_fixPlate 5 (none)) := ⟨zIn2 (List.mem_of_getElem? (i := 192) rfl), rfl⟩
theorem mkX5_118 : zHas (Cond.methodLink RX5 118 yX4_sideToGrind) := ⟨zIn2 (List.mem_of_getElem? (i := 127) rfl), rfl⟩
theorem mkX5_121 : zHas (Cond.methodLink RX5 121 yX4_readySide) := ⟨zIn2 (List.mem_of_getElem? (i := 139) rfl), rfl⟩
theorem lkX5_124 : zHas (Cond.fieldLink RX5 124 (TX4 0).1 (TX4 0).2.1 (TX4 0).2.2.1) := ⟨zIn1 (List.mem_of_getElem? (i := 34) rfl), rfl⟩
theorem mkX5_127 : zHas (Cond.methodLink RX5 127 yX4_isBetterThan) := ⟨zIn2 (List.mem_of_getElem? (i := 143) rfl), rfl⟩
theorem imX4_isBetterThan : zHas (Cond.instanceMethod yX4_isBetterThan) := ⟨zIn2 (List.mem_of_getElem? (i := 144) rfl), rfl⟩
theorem seX4_isBetterThan : zHas (Cond.selects RX4 yX4_isBetterThan yX4_isBetterThan) := ⟨zIn2 (List.mem_of_getElem? (i := 145) rfl), rfl⟩
theorem cdX5_bestPlate : zHas (Cond.code yX5_bestPlate cX5_bestPlate 9 (some .int)) := ⟨zIn2 (List.mem_of_getElem? (i := 126) rfl), rfl⟩
theorem lkX5_131 : zHas (Cond.fieldLink RX5 131 (TX3 5).1 (TX3 5).2.1 (TX3 5).2.2.1) := ⟨zIn1 (List.mem_of_getElem? (i := 102) rfl), rfl⟩
theorem cdX5_rushes : zHas (Cond.code yX5_rushes cX5_rushes 3 (some .int)) := ⟨zIn2 (List.mem_of_getElem? (i := 79) rfl), rfl⟩
theorem lkX5_135 : zHas (Cond.fieldLink RX5 135 (TX3 1).1 (TX3 1).2.1 (TX3 1).2.2.1) := ⟨zIn1 (List.mem_of_getElem? (i := 91) rfl), rfl⟩
theorem lkX5_136 : zHas (Cond.fieldLink RX5 136 (TX3 2).1 (TX3 2).2.1 (TX3 2).2.2.1) := ⟨zIn1 (List.mem_of_getElem? (i := 94) rfl), rfl⟩
theorem cdX5_isOrdered : zHas (Cond.code yX5_isOrdered cX5_isOrdered 4 (some .boolean)) := ⟨zIn2 (List.mem_of_getElem? (i := 70) rfl), rfl⟩
theorem cdX5_moveAhead : zHas (Cond.code yX5_moveAhead cX5_moveAhead 5 (none)) := ⟨zIn2 (List.mem_of_getElem? (i := 83) rfl), rfl⟩
theorem cdX5_removeOrder : zHas (Cond.code yX5_removeOrder cX5_removeOrder 4 (none)) := ⟨zIn2 (List.mem_of_getElem? (i := 215) rfl), rfl⟩
theorem cdX5_stopWork : zHas (Cond.code yX5_stopWork cX5_stopWork 1 (none)) := ⟨zIn2 (List.mem_of_getElem? (i := 211) rfl), rfl⟩
theorem lkX5_168 : zHas (Cond.fieldLink RX5 168 (TX3 4).1 (TX3 4).2.1 (TX3 4).2.2.1) := ⟨zIn1 (List.mem_of_getElem? (i := 99) rfl), rfl⟩
theorem mkX5_177 : zHas (Cond.methodLink RX5 177 yX4_sideFor) := ⟨zIn2 (List.mem_of_getElem? (i := 151) rfl), rfl⟩
theorem imX4_sideFor : zHas (Cond.instanceMethod yX4_sideFor) := ⟨zIn2 (List.mem_of_getElem? (i := 152) rfl), rfl⟩
theorem seX4_sideFor : zHas (Cond.selects RX4 yX4_sideFor yX4_sideFor) := ⟨zIn2 (List.mem_of_getElem? (i := 153) rfl), rfl⟩
theorem mkX5_180 : zHas (Cond.methodLink RX5 180 yX3_effort) := ⟨zIn2 (List.mem_of_getElem? (i := 157) rfl), rfl⟩
theorem imX3_effort : zHas (Cond.instanceMethod yX3_effort) := ⟨zIn2 (List.mem_of_getElem? (i := 158) rfl), rfl⟩
theorem seX3_effort : zHas (Cond.selects RX3 yX3_effort yX3_effort) := ⟨zIn2 (List.mem_of_getElem? (i := 159) rfl), rfl⟩
theorem mkX5_183 : zHas (Cond.methodLink RX5 183 yX4_isBlank) := ⟨zIn2 (List.mem_of_getElem? (i := 161) rfl), rfl⟩
theorem mkX5_186 : zHas (Cond.methodLink RX5 186 yX5_grindSide) := ⟨zIn2 (List.mem_of_getElem? (i := 169) rfl), rfl⟩
theorem imX5_grindSide : zHas (Cond.instanceMethod yX5_grindSide) := ⟨zIn2 (List.mem_of_getElem? (i := 170) rfl), rfl⟩
theorem seX5_grindSide : zHas (Cond.selects RX5 yX5_grindSide yX5_grindSide) := ⟨zIn2 (List.mem_of_getElem? (i := 171) rfl), rfl⟩
theorem cdX5_beginOrder : zHas (Cond.code yX5_beginOrder cX5_beginOrder 4 (none)) := ⟨zIn2 (List.mem_of_getElem? (i := 150) rfl), rfl⟩
theorem mkX5_144 : zHas (Cond.methodLink RX5 144 yX5_isWorking) := ⟨zIn2 (List.mem_of_getElem? (i := 96) rfl), rfl⟩
theorem imX5_isWorking : zHas (Cond.instanceMethod yX5_isWorking) := ⟨zIn2 (List.mem_of_getElem? (i := 97) rfl), rfl⟩
theorem seX5_isWorking : zHas (Cond.selects RX5 yX5_isWorking yX5_isWorking) := ⟨zIn2 (List.mem_of_getElem? (i := 98) rfl), rfl⟩
theorem mkX5_190 : zHas (Cond.methodLink RX5 190 yX4_engrave) := ⟨zIn2 (List.mem_of_getElem? (i := 188) rfl), rfl⟩
theorem mkX5_193 : zHas (Cond.methodLink RX5 193 yX5_fixPlate) := ⟨zIn2 (List.mem_of_getElem? (i := 189) rfl), rfl⟩
theorem imX5_fixPlate : zHas (Cond.instanceMethod yX5_fixPlate) := ⟨zIn2 (List.mem_of_getElem? (i := 190) rfl), rfl⟩
theorem seX5_fixPlate : zHas (Cond.selects RX5 yX5_fixPlate yX5_fixPlate) := ⟨zIn2 (List.mem_of_getElem? (i := 191) rfl), rfl⟩
theorem mkX5_148 : zHas (Cond.methodLink RX5 148 yX5_stopWork) := ⟨zIn2 (List.mem_of_getElem? (i := 208) rfl), rfl⟩
theorem imX5_stopWork : zHas (Cond.instanceMethod yX5_stopWork) := ⟨zIn2 (List.mem_of_getElem? (i := 209) rfl), rfl⟩
theorem seX5_stopWork : zHas (Cond.selects RX5 yX5_stopWork yX5_stopWork) := ⟨zIn2 (List.mem_of_getElem? (i := 210) rfl), rfl⟩
theorem mkX5_151 : zHas (Cond.methodLink RX5 151 yX5_removeOrder) := ⟨zIn2 (List.mem_of_getElem? (i := 212) rfl), rfl⟩
theorem imX5_removeOrder : zHas (Cond.instanceMethod yX5_removeOrder) := ⟨zIn2 (List.mem_of_getElem? (i := 213) rfl), rfl⟩
theorem seX5_removeOrder : zHas (Cond.selects RX5 yX5_removeOrder yX5_removeOrder) := ⟨zIn2 (List.mem_of_getElem? (i := 214) rfl), rfl⟩
theorem cdX5_finishOrder : zHas (Cond.code yX5_finishOrder cX5_finishOrder 4 (none)) := ⟨zIn2 (List.mem_of_getElem? (i := 187) rfl), rfl⟩
theorem mkX5_197 : zHas (Cond.methodLink RX5 197 yX4_isReady) := ⟨zIn3 (List.mem_of_getElem? (i := 102) rfl), rfl⟩
theorem imX4_isReady : zHas (Cond.instanceMethod yX4_isReady) := ⟨zIn3 (List.mem_of_getElem? (i := 103) rfl), rfl⟩
theorem seX4_isReady : zHas (Cond.selects RX4 yX4_isReady yX4_isReady) := ⟨zIn3 (List.mem_of_getElem? (i := 104) rfl), rfl⟩
theorem mkX5_201 : zHas (Cond.methodLink RX5 201 yX4_canBeGround) := ⟨zIn3 (List.mem_of_getElem? (i := 106) rfl), rfl⟩
theorem imX4_canBeGround : zHas (Cond.instanceMethod yX4_canBeGround) := ⟨zIn3 (List.mem_of_getElem? (i := 79) rfl), rfl⟩
theorem seX4_canBeGround : zHas (Cond.selects RX4 yX4_canBeGround yX4_canBeGround) := ⟨zIn3 (List.mem_of_getElem? (i := 80) rfl), rfl⟩
theorem cdX5_misspell : zHas (Cond.code yX5_misspell cX5_misspell 4 (some .int)) := ⟨zIn3 (List.mem_of_getElem? (i := 101) rfl), rfl⟩
theorem mkX5_114 : zHas (Cond.methodLink RX5 114 yX5_bestPlate) := ⟨zIn2 (List.mem_of_getElem? (i := 123) rfl), rfl⟩
theorem imX5_bestPlate : zHas (Cond.instanceMethod yX5_bestPlate) := ⟨zIn2 (List.mem_of_getElem? (i := 124) rfl), rfl⟩
theorem seX5_bestPlate : zHas (Cond.selects RX5 yX5_bestPlate yX5_bestPlate) := ⟨zIn2 (List.mem_of_getElem? (i := 125) rfl), rfl⟩
theorem cdX5_findPlate : zHas (Cond.code yX5_findPlate cX5_findPlate 4 (some .int)) := ⟨zIn2 (List.mem_of_getElem? (i := 122) rfl), rfl⟩
theorem mkX5_137 : zHas (Cond.methodLink RX5 137 yX5_rushes) := ⟨zIn2 (List.mem_of_getElem? (i := 76) rfl), rfl⟩
theorem imX5_rushes : zHas (Cond.instanceMethod yX5_rushes) := ⟨zIn2 (List.mem_of_getElem? (i := 77) rfl), rfl⟩
theorem seX5_rushes : zHas (Cond.selects RX5 yX5_rushes yX5_rushes) := ⟨zIn2 (List.mem_of_getElem? (i := 78) rfl), rfl⟩
theorem mkX5_141 : zHas (Cond.methodLink RX5 141 yX5_moveAhead) := ⟨zIn2 (List.mem_of_getElem? (i := 80) rfl), rfl⟩
theorem imX5_moveAhead : zHas (Cond.instanceMethod yX5_moveAhead) := ⟨zIn2 (List.mem_of_getElem? (i := 81) rfl), rfl⟩
theorem seX5_moveAhead : zHas (Cond.selects RX5 yX5_moveAhead yX5_moveAhead) := ⟨zIn2 (List.mem_of_getElem? (i := 82) rfl), rfl⟩
theorem cdX5_takeInOrder : zHas (Cond.code yX5_takeInOrder cX5_takeInOrder 3 (some .int)) := ⟨zIn2 (List.mem_of_getElem? (i := 75) rfl), rfl⟩
theorem cdX5_makeRush : zHas (Cond.code yX5_makeRush cX5_makeRush 3 (some .int)) := ⟨zIn3 (List.mem_of_getElem? (i := 17) rfl), rfl⟩
theorem cdX5_dropOrder : zHas (Cond.code yX5_dropOrder cX5_dropOrder 2 (none)) := ⟨zIn3 (List.mem_of_getElem? (i := 73) rfl), rfl⟩
theorem mkX5_165 : zHas (Cond.methodLink RX5 165 yX3_nameLength) := ⟨zIn2 (List.mem_of_getElem? (i := 108) rfl), rfl⟩
theorem imX3_nameLength : zHas (Cond.instanceMethod yX3_nameLength) := ⟨zIn2 (List.mem_of_getElem? (i := 109) rfl), rfl⟩
theorem seX3_nameLength : zHas (Cond.selects RX3 yX3_nameLength yX3_nameLength) := ⟨zIn2 (List.mem_of_getElem? (i := 110) rfl), rfl⟩
theorem mkX5_171 : zHas (Cond.methodLink RX5 171 yX5_findPlate) := ⟨zIn2 (List.mem_of_getElem? (i := 119) rfl), rfl⟩
theorem imX5_findPlate : zHas (Cond.instanceMethod yX5_findPlate) := ⟨zIn2 (List.mem_of_getElem? (i := 120) rfl), rfl⟩
theorem seX5_findPlate : zHas (Cond.selects RX5 yX5_findPlate yX5_findPlate) := ⟨zIn2 (List.mem_of_getElem? (i := 121) rfl), rfl⟩
theorem mkX5_174 : zHas (Cond.methodLink RX5 174 yX5_beginOrder) := ⟨zIn2 (List.mem_of_getElem? (i := 147) rfl), rfl⟩
theorem imX5_beginOrder : zHas (Cond.instanceMethod yX5_beginOrder) := ⟨zIn2 (List.mem_of_getElem? (i := 148) rfl), rfl⟩
theorem seX5_beginOrder : zHas (Cond.selects RX5 yX5_beginOrder yX5_beginOrder) := ⟨zIn2 (List.mem_of_getElem? (i := 149) rfl), rfl⟩
theorem cdX5_takesUpWork : zHas (Cond.code yX5_takesUpWork cX5_takesUpWork 3 (some .boolean)) := ⟨zIn2 (List.mem_of_getElem? (i := 95) rfl), rfl⟩
theorem mkX5_154 : zHas (Cond.methodLink RX5 154 yX5_takesUpWork) := ⟨zIn2 (List.mem_of_getElem? (i := 92) rfl), rfl⟩
theorem imX5_takesUpWork : zHas (Cond.instanceMethod yX5_takesUpWork) := ⟨zIn2 (List.mem_of_getElem? (i := 93) rfl), rfl⟩
theorem seX5_takesUpWork : zHas (Cond.selects RX5 yX5_takesUpWork yX5_takesUpWork) := ⟨zIn2 (List.mem_of_getElem? (i := 94) rfl), rfl⟩
theorem mkX5_157 : zHas (Cond.methodLink RX5 157 Lib.Math.min.name) := ⟨zIn2 (List.mem_of_getElem? (i := 181) rfl), rfl⟩
theorem stMin : zHas (Cond.static Lib.Math.min.name) := ⟨zIn2 (List.mem_of_getElem? (i := 182) rfl), rfl⟩
theorem inMin : zHas (Cond.initialized "java/lang/Math") := ⟨zIn1 (List.mem_of_getElem? (i := 8) rfl), rfl⟩
theorem cdMin : zHas (Cond.code Lib.Math.min.name Lib.Math.min.code 2 (some .int)) := ⟨zIn2 (List.mem_of_getElem? (i := 183) rfl), rfl⟩
theorem mkX5_162 : zHas (Cond.methodLink RX5 162 yX5_finishOrder) := ⟨zIn2 (List.mem_of_getElem? (i := 184) rfl), rfl⟩
theorem imX5_finishOrder : zHas (Cond.instanceMethod yX5_finishOrder) := ⟨zIn2 (List.mem_of_getElem? (i := 185) rfl), rfl⟩
theorem seX5_finishOrder : zHas (Cond.selects RX5 yX5_finishOrder yX5_finishOrder) := ⟨zIn2 (List.mem_of_getElem? (i := 186) rfl), rfl⟩
theorem cdX5_spendMinutes : zHas (Cond.code yX5_spendMinutes cX5_spendMinutes 6 (some .int)) := ⟨zIn2 (List.mem_of_getElem? (i := 91) rfl), rfl⟩
theorem okX0_3 : zHas (Cond.methodLink RX0 3 objectInit) := ⟨zIn1 (List.mem_of_getElem? (i := 198) rfl), rfl⟩
theorem lkX0_9 : zHas (Cond.fieldLink RX0 9 (TX0 1).1 (TX0 1).2.1 (TX0 1).2.2.1) := ⟨zIn1 (List.mem_of_getElem? (i := 200) rfl), rfl⟩
theorem lkX0_15 : zHas (Cond.fieldLink RX0 15 (TX0 0).1 (TX0 0).2.1 (TX0 0).2.2.1) := ⟨zIn1 (List.mem_of_getElem? (i := 199) rfl), rfl⟩
theorem cdX0_init : zHas (Cond.code yX0_init cX0_init 2 (none)) := ⟨zIn1 (List.mem_of_getElem? (i := 197) rfl), rfl⟩
theorem iniX0 : zHas (Cond.initialized RX0) := ⟨zIn1 (List.mem_of_getElem? (i := 7) rfl), rfl⟩
theorem mkX0_19 : zHas (Cond.methodLink RX0 19 yX5_copyFrom) := ⟨zIn3 (List.mem_of_getElem? (i := 12) rfl), rfl⟩
theorem imX5_copyFrom : zHas (Cond.instanceMethod yX5_copyFrom) := ⟨zIn1 (List.mem_of_getElem? (i := 239) rfl), rfl⟩
theorem seX5_copyFrom : zHas (Cond.selects RX5 yX5_copyFrom yX5_copyFrom) := ⟨zIn2 (List.mem_of_getElem? (i := 0) rfl), rfl⟩
theorem lkX0_25 : zHas (Cond.fieldLink RX0 25 (TX5 2).1 (TX5 2).2.1 (TX5 2).2.2.1) := ⟨zIn1 (List.mem_of_getElem? (i := 124) rfl), rfl⟩
theorem lkX0_29 : zHas (Cond.fieldLink RX0 29 (TX3 6).1 (TX3 6).2.1 (TX3 6).2.2.1) := ⟨zIn1 (List.mem_of_getElem? (i := 103) rfl), rfl⟩
theorem mkX0_35 : zHas (Cond.methodLink RX0 35 yX5_hasOrder) := ⟨zIn3 (List.mem_of_getElem? (i := 13) rfl), rfl⟩
theorem mkX0_39 : zHas (Cond.methodLink RX0 39 yX5_makeRush) := ⟨zIn3 (List.mem_of_getElem? (i := 14) rfl), rfl⟩
theorem imX5_makeRush : zHas (Cond.instanceMethod yX5_makeRush) := ⟨zIn3 (List.mem_of_getElem? (i := 15) rfl), rfl⟩
theorem seX5_makeRush : zHas (Cond.selects RX5 yX5_makeRush yX5_makeRush) := ⟨zIn3 (List.mem_of_getElem? (i := 16) rfl), rfl⟩
theorem mkX0_43 : zHas (Cond.methodLink RX0 43 yX5_takesUpWork) := ⟨zIn3 (List.mem_of_getElem? (i := 18) rfl), rfl⟩
theorem lkX0_47 : zHas (Cond.fieldLink RX0 47 (TX5 9).1 (TX5 9).2.1 (TX5 9).2.2.1) := ⟨zIn1 (List.mem_of_getElem? (i := 139) rfl), rfl⟩
theorem lkX0_50 : zHas (Cond.fieldLink RX0 50 (TX5 6).1 (TX5 6).2.1 (TX5 6).2.2.1) := ⟨zIn1 (List.mem_of_getElem? (i := 133) rfl), rfl⟩
theorem mkX0_53 : zHas (Cond.methodLink RX0 53 yX5_finishOrder) := ⟨zIn3 (List.mem_of_getElem? (i := 19) rfl), rfl⟩
theorem cdX0_foresee : zHas (Cond.code yX0_foresee cX0_foresee 5 (none)) := ⟨zIn3 (List.mem_of_getElem? (i := 11) rfl), rfl⟩
theorem okX1_3 : zHas (Cond.methodLink RX1 3 objectInit) := ⟨zIn1 (List.mem_of_getElem? (i := 179) rfl), rfl⟩
theorem ao5 : Cond.arrayOver (.object RX5) ∈ lw_tbl := zIn1 (List.mem_of_getElem? (i := 181) rfl)
theorem clX1_9 : zHas (Cond.classLink RX1 9 RX5) := ⟨zIn1 (List.mem_of_getElem? (i := 180) rfl), rfl⟩
theorem lkX1_11 : zHas (Cond.fieldLink RX1 11 (TX1 0).1 (TX1 0).2.1 (TX1 0).2.2.1) := ⟨zIn1 (List.mem_of_getElem? (i := 183) rfl), rfl⟩
theorem is5 : zHas (Cond.instantiable RX5 13) := ⟨zIn1 (List.mem_of_getElem? (i := 18) rfl), rfl⟩
theorem imX5_init : zHas (Cond.instanceMethod yX5_init) := ⟨zIn1 (List.mem_of_getElem? (i := 20) rfl), rfl⟩
theorem mkX1_17 : zHas (Cond.methodLink RX1 17 yX5_init) := ⟨zIn1 (List.mem_of_getElem? (i := 182) rfl), rfl⟩
theorem cdX1_init : zHas (Cond.code yX1_init cX1_init 2 (none)) := ⟨zIn1 (List.mem_of_getElem? (i := 178) rfl), rfl⟩
theorem iniX1 : zHas (Cond.initialized RX1) := ⟨zIn1 (List.mem_of_getElem? (i := 6) rfl), rfl⟩
theorem lkX1_18 : zHas (Cond.fieldLink RX1 18 (TX1 1).1 (TX1 1).2.1 (TX1 1).2.2.1) := ⟨zIn1 (List.mem_of_getElem? (i := 184) rfl), rfl⟩
theorem cdX1_dropOldest : zHas (Cond.code yX1_dropOldest cX1_dropOldest 3 (none)) := ⟨zIn1 (List.mem_of_getElem? (i := 237) rfl), rfl⟩
theorem mkX1_25 : zHas (Cond.methodLink RX1 25 yX5_copyFrom) := ⟨zIn1 (List.mem_of_getElem? (i := 238) rfl), rfl⟩
theorem cdX1_restoreLatest : zHas (Cond.code yX1_restoreLatest cX1_restoreLatest 2 (none)) := ⟨zIn2 (List.mem_of_getElem? (i := 223) rfl), rfl⟩
theorem mkX1_22 : zHas (Cond.methodLink RX1 22 yX1_dropOldest) := ⟨zIn1 (List.mem_of_getElem? (i := 234) rfl), rfl⟩
theorem imX1_dropOldest : zHas (Cond.instanceMethod yX1_dropOldest) := ⟨zIn1 (List.mem_of_getElem? (i := 235) rfl), rfl⟩
theorem seX1_dropOldest : zHas (Cond.selects RX1 yX1_dropOldest yX1_dropOldest) := ⟨zIn1 (List.mem_of_getElem? (i := 236) rfl), rfl⟩
theorem cdX1_record : zHas (Cond.code yX1_record cX1_record 2 (none)) := ⟨zIn1 (List.mem_of_getElem? (i := 233) rfl), rfl⟩
theorem okX6_1 : zHas (Cond.methodLink RX6 1 objectInit) := ⟨zIn1 (List.mem_of_getElem? (i := 14) rfl), rfl⟩
theorem clX6_7 : zHas (Cond.classLink RX6 7 RX5) := ⟨zIn1 (List.mem_of_getElem? (i := 17) rfl), rfl⟩
theorem mkX6_9 : zHas (Cond.methodLink RX6 9 yX5_init) := ⟨zIn1 (List.mem_of_getElem? (i := 19) rfl), rfl⟩
theorem lkX6_10 : zHas (Cond.fieldLink RX6 10 (TX6 0).1 (TX6 0).2.1 (TX6 0).2.2.1) := ⟨zIn1 (List.mem_of_getElem? (i := 207) rfl), rfl⟩
theorem clX6_16 : zHas (Cond.classLink RX6 16 RX1) := ⟨zIn1 (List.mem_of_getElem? (i := 174) rfl), rfl⟩
theorem is1 : zHas (Cond.instantiable RX1 2) := ⟨zIn1 (List.mem_of_getElem? (i := 175) rfl), rfl⟩
theorem imX1_init : zHas (Cond.instanceMethod yX1_init) := ⟨zIn1 (List.mem_of_getElem? (i := 177) rfl), rfl⟩
theorem mkX6_18 : zHas (Cond.methodLink RX6 18 yX1_init) := ⟨zIn1 (List.mem_of_getElem? (i := 176) rfl), rfl⟩
theorem lkX6_19 : zHas (Cond.fieldLink RX6 19 (TX6 1).1 (TX6 1).2.1 (TX6 1).2.2.1) := ⟨zIn1 (List.mem_of_getElem? (i := 208) rfl), rfl⟩
theorem clX6_23 : zHas (Cond.classLink RX6 23 RX2) := ⟨zIn1 (List.mem_of_getElem? (i := 191) rfl), rfl⟩
theorem nkX6_25 : Cond.methodLinkNest RX6 25 yX2_init "TrophyPlates" ∈ lw_tbl := zIn1 (List.mem_of_getElem? (i := 192) rfl)
theorem lkX6_26 : zHas (Cond.fieldLink RX6 26 (TX6 2).1 (TX6 2).2.1 (TX6 2).2.2.1) := ⟨zIn1 (List.mem_of_getElem? (i := 209) rfl), rfl⟩
theorem clX6_30 : zHas (Cond.classLink RX6 30 RX0) := ⟨zIn1 (List.mem_of_getElem? (i := 193) rfl), rfl⟩
theorem is0 : zHas (Cond.instantiable RX0 2) := ⟨zIn1 (List.mem_of_getElem? (i := 194) rfl), rfl⟩
theorem imX0_init : zHas (Cond.instanceMethod yX0_init) := ⟨zIn1 (List.mem_of_getElem? (i := 196) rfl), rfl⟩
theorem mkX6_32 : zHas (Cond.methodLink RX6 32 yX0_init) := ⟨zIn1 (List.mem_of_getElem? (i := 195) rfl), rfl⟩
theorem lkX6_35 : zHas (Cond.fieldLink RX6 35 (TX6 3).1 (TX6 3).2.1 (TX6 3).2.2.1) := ⟨zIn1 (List.mem_of_getElem? (i := 210) rfl), rfl⟩
theorem lkX6_39 : zHas (Cond.fieldLink RX6 39 (TX6 4).1 (TX6 4).2.1 (TX6 4).2.2.1) := ⟨zIn1 (List.mem_of_getElem? (i := 211) rfl), rfl⟩
theorem cdX6_init : zHas (Cond.code yX6_init cX6_init 2 (none)) := ⟨zIn1 (List.mem_of_getElem? (i := 13) rfl), rfl⟩
theorem iniX6 : zHas (Cond.initialized RX6) := ⟨zIn1 (List.mem_of_getElem? (i := 1) rfl), rfl⟩
theorem mkX6_57 : zHas (Cond.methodLink RX6 57 yX5_hasPlate) := ⟨zIn2 (List.mem_of_getElem? (i := 237) rfl), rfl⟩
theorem lkX6_61 : zHas (Cond.fieldLink RX6 61 (TX5 0).1 (TX5 0).2.1 (TX5 0).2.2.1) := ⟨zIn1 (List.mem_of_getElem? (i := 120) rfl), rfl⟩
theorem lkX6_65 : zHas (Cond.fieldLink RX6 65 (TX4 2).1 (TX4 2).2.1 (TX4 2).2.2.1) := ⟨zIn1 (List.mem_of_getElem? (i := 38) rfl), rfl⟩
theorem mkX6_50 : zHas (Cond.methodLink RX6 50 yX1_record) := ⟨zIn1 (List.mem_of_getElem? (i := 230) rfl), rfl⟩
theorem imX1_record : zHas (Cond.instanceMethod yX1_record) := ⟨zIn1 (List.mem_of_getElem? (i := 231) rfl), rfl⟩
theorem seX1_record : zHas (Cond.selects RX1 yX1_record yX1_record) := ⟨zIn1 (List.mem_of_getElem? (i := 232) rfl), rfl⟩
theorem mkX6_70 : zHas (Cond.methodLink RX6 70 yX5_platesIn) := ⟨zIn2 (List.mem_of_getElem? (i := 228) rfl), rfl⟩
theorem imX5_platesIn : zHas (Cond.instanceMethod yX5_platesIn) := ⟨zIn2 (List.mem_of_getElem? (i := 229) rfl), rfl⟩
theorem seX5_platesIn : zHas (Cond.selects RX5 yX5_platesIn yX5_platesIn) := ⟨zIn2 (List.mem_of_getElem? (i := 230) rfl), rfl⟩
theorem cdX6_spoil : zHas (Cond.code yX6_spoil cX6_spoil 3 (some .int)) := ⟨zIn3 (List.mem_of_getElem? (i := 87) rfl), rfl⟩
theorem lkX6_103 : zHas (Cond.fieldLink RX6 103 (TX2 1).1 (TX2 1).2.1 (TX2 1).2.2.1) := ⟨zIn1 (List.mem_of_getElem? (i := 81) rfl), rfl⟩
theorem cdX6_clearText : zHas (Cond.code yX6_clearText cX6_clearText 2 (some .int)) := ⟨zIn2 (List.mem_of_getElem? (i := 45) rfl), rfl⟩
theorem mkX6_155 : zHas (Cond.methodLink RX6 155 yX5_hasOrder) := ⟨zIn3 (List.mem_of_getElem? (i := 7) rfl), rfl⟩
theorem lkX6_122 : zHas (Cond.fieldLink RX6 122 (TX5 2).1 (TX5 2).2.1 (TX5 2).2.2.1) := ⟨zIn1 (List.mem_of_getElem? (i := 125) rfl), rfl⟩
theorem lkX6_147 : zHas (Cond.fieldLink RX6 147 (TX3 5).1 (TX3 5).2.1 (TX3 5).2.2.1) := ⟨zIn1 (List.mem_of_getElem? (i := 101) rfl), rfl⟩
theorem mkX6_158 : zHas (Cond.methodLink RX6 158 yX5_makeRush) := ⟨zIn3 (List.mem_of_getElem? (i := 65) rfl), rfl⟩
theorem cdX6_hurry : zHas (Cond.code yX6_hurry cX6_hurry 2 (some .int)) := ⟨zIn3 (List.mem_of_getElem? (i := 64) rfl), rfl⟩
theorem mkX6_161 : zHas (Cond.methodLink RX6 161 yX5_dropOrder) := ⟨zIn3 (List.mem_of_getElem? (i := 70) rfl), rfl⟩
theorem imX5_dropOrder : zHas (Cond.instanceMethod yX5_dropOrder) := ⟨zIn3 (List.mem_of_getElem? (i := 71) rfl), rfl⟩
theorem seX5_dropOrder : zHas (Cond.selects RX5 yX5_dropOrder yX5_dropOrder) := ⟨zIn3 (List.mem_of_getElem? (i := 72) rfl), rfl⟩
theorem lkX6_119 : zHas (Cond.fieldLink RX6 119 (TX5 5).1 (TX5 5).2.1 (TX5 5).2.2.1) := ⟨zIn1 (List.mem_of_getElem? (i := 131) rfl), rfl⟩
theorem cdX6_cancel : zHas (Cond.code yX6_cancel cX6_cancel 2 (some .int)) := ⟨zIn3 (List.mem_of_getElem? (i := 69) rfl), rfl⟩
theorem mkX6_167 : zHas (Cond.methodLink RX6 167 yX5_isWorking) := ⟨zIn3 (List.mem_of_getElem? (i := 97) rfl), rfl⟩
theorem mkX6_171 : zHas (Cond.methodLink RX6 171 yX5_misspell) := ⟨zIn3 (List.mem_of_getElem? (i := 98) rfl), rfl⟩
theorem imX5_misspell : zHas (Cond.instanceMethod yX5_misspell) := ⟨zIn3 (List.mem_of_getElem? (i := 99) rfl), rfl⟩
theorem seX5_misspell : zHas (Cond.selects RX5 yX5_misspell yX5_misspell) := ⟨zIn3 (List.mem_of_getElem? (i := 100) rfl), rfl⟩
theorem cdX6_slip : zHas (Cond.code yX6_slip cX6_slip 1 (some .int)) := ⟨zIn3 (List.mem_of_getElem? (i := 96) rfl), rfl⟩
theorem lkX6_174 : zHas (Cond.fieldLink RX6 174 (TX1 1).1 (TX1 1).2.1 (TX1 1).2.2.1) := ⟨zIn1 (List.mem_of_getElem? (i := 185) rfl), rfl⟩
theorem mkX6_177 : zHas (Cond.methodLink RX6 177 yX1_restoreLatest) := ⟨zIn2 (List.mem_of_getElem? (i := 220) rfl), rfl⟩
theorem imX1_restoreLatest : zHas (Cond.instanceMethod yX1_restoreLatest) := ⟨zIn2 (List.mem_of_getElem? (i := 221) rfl), rfl⟩
theorem seX1_restoreLatest : zHas (Cond.selects RX1 yX1_restoreLatest yX1_restoreLatest) := ⟨zIn2 (List.mem_of_getElem? (i := 222) rfl), rfl⟩
theorem cdX6_undo : zHas (Cond.code yX6_undo cX6_undo 1 (some .int)) := ⟨zIn2 (List.mem_of_getElem? (i := 219) rfl), rfl⟩
theorem lkX6_46 : zHas (Cond.fieldLink RX6 46 (TX5 3).1 (TX5 3).2.1 (TX5 3).2.2.1) := ⟨zIn1 (List.mem_of_getElem? (i := 127) rfl), rfl⟩
theorem lkX6_85 : zHas (Cond.fieldLink RX6 85 (TX5 4).1 (TX5 4).2.1 (TX5 4).2.2.1) := ⟨zIn1 (List.mem_of_getElem? (i := 129) rfl), rfl⟩
theorem mkX6_180 : zHas (Cond.methodLink RX6 180 yX5_rushes) := ⟨zIn2 (List.mem_of_getElem? (i := 232) rfl), rfl⟩
theorem lkX6_183 : zHas (Cond.fieldLink RX6 183 (TX5 6).1 (TX5 6).2.1 (TX5 6).2.2.1) := ⟨zIn1 (List.mem_of_getElem? (i := 134) rfl), rfl⟩
theorem lkX6_186 : zHas (Cond.fieldLink RX6 186 (TX5 9).1 (TX5 9).2.1 (TX5 9).2.2.1) := ⟨zIn1 (List.mem_of_getElem? (i := 140) rfl), rfl⟩
theorem lkX6_189 : zHas (Cond.fieldLink RX6 189 (TX5 7).1 (TX5 7).2.1 (TX5 7).2.2.1) := ⟨zIn1 (List.mem_of_getElem? (i := 136) rfl), rfl⟩
theorem lkX6_192 : zHas (Cond.fieldLink RX6 192 (TX5 10).1 (TX5 10).2.1 (TX5 10).2.2.1) := ⟨zIn1 (List.mem_of_getElem? (i := 142) rfl), rfl⟩
theorem lkX6_195 : zHas (Cond.fieldLink RX6 195 (TX5 11).1 (TX5 11).2.1 (TX5 11).2.2.1) := ⟨zIn1 (List.mem_of_getElem? (i := 144) rfl), rfl⟩
theorem lkX6_198 : zHas (Cond.fieldLink RX6 198 (TX5 12).1 (TX5 12).2.1 (TX5 12).2.2.1) := ⟨zIn1 (List.mem_of_getElem? (i := 146) rfl), rfl⟩
theorem cdX6_count : zHas (Cond.code yX6_count cX6_count 2 (some .int)) := ⟨zIn2 (List.mem_of_getElem? (i := 227) rfl), rfl⟩
theorem lkX6_201 : zHas (Cond.fieldLink RX6 201 (TX4 0).1 (TX4 0).2.1 (TX4 0).2.2.1) := ⟨zIn1 (List.mem_of_getElem? (i := 33) rfl), rfl⟩
theorem lkX6_82 : zHas (Cond.fieldLink RX6 82 (TX4 1).1 (TX4 1).2.1 (TX4 1).2.2.1) := ⟨zIn1 (List.mem_of_getElem? (i := 36) rfl), rfl⟩
theorem lkX6_204 : zHas (Cond.fieldLink RX6 204 (TX4 3).1 (TX4 3).2.1 (TX4 3).2.2.1) := ⟨zIn1 (List.mem_of_getElem? (i := 41) rfl), rfl⟩
theorem lkX6_207 : zHas (Cond.fieldLink RX6 207 (TX4 4).1 (TX4 4).2.1 (TX4 4).2.2.1) := ⟨zIn1 (List.mem_of_getElem? (i := 43) rfl), rfl⟩
theorem lkX6_210 : zHas (Cond.fieldLink RX6 210 (TX4 5).1 (TX4 5).2.1 (TX4 5).2.2.1) := ⟨zIn1 (List.mem_of_getElem? (i := 46) rfl), rfl⟩
theorem lkX6_211 : zHas (Cond.fieldLink RX6 211 (TX4 6).1 (TX4 6).2.1 (TX4 6).2.2.1) := ⟨zIn1 (List.mem_of_getElem? (i := 49) rfl), rfl⟩
theorem cdX6_plate : zHas (Cond.code yX6_plate cX6_plate 4 (some .int)) := ⟨zIn2 (List.mem_of_getElem? (i := 236) rfl), rfl⟩
theorem mkX6_91 : zHas (Cond.methodLink RX6 91 yX5_hasShield) := ⟨zIn2 (List.mem_of_getElem? (i := 50) rfl), rfl⟩
theorem lkX6_212 : zHas (Cond.fieldLink RX6 212 (TX5 1).1 (TX5 1).2.1 (TX5 1).2.2.1) := ⟨zIn1 (List.mem_of_getElem? (i := 122) rfl), rfl⟩
theorem mkX6_216 : zHas (Cond.methodLink RX6 216 yX5_platesOn) := ⟨zIn3 (List.mem_of_getElem? (i := 47) rfl), rfl⟩
theorem mkX6_219 : zHas (Cond.methodLink RX6 219 yX5_earliestYear) := ⟨zIn3 (List.mem_of_getElem? (i := 48) rfl), rfl⟩
theorem mkX6_222 : zHas (Cond.methodLink RX6 222 yX5_latestYear) := ⟨zIn3 (List.mem_of_getElem? (i := 49) rfl), rfl⟩
theorem mkX6_225 : zHas (Cond.methodLink RX6 225 yX5_yearsLeftOut) := ⟨zIn3 (List.mem_of_getElem? (i := 53) rfl), rfl⟩
theorem imX5_yearsLeftOut : zHas (Cond.instanceMethod yX5_yearsLeftOut) := ⟨zIn3 (List.mem_of_getElem? (i := 54) rfl), rfl⟩
theorem seX5_yearsLeftOut : zHas (Cond.selects RX5 yX5_yearsLeftOut yX5_yearsLeftOut) := ⟨zIn3 (List.mem_of_getElem? (i := 55) rfl), rfl⟩
theorem cdX6_shield : zHas (Cond.code yX6_shield cX6_shield 3 (some .int)) := ⟨zIn3 (List.mem_of_getElem? (i := 46) rfl), rfl⟩
theorem lkX6_135 : zHas (Cond.fieldLink RX6 135 (TX3 1).1 (TX3 1).2.1 (TX3 1).2.2.1) := ⟨zIn1 (List.mem_of_getElem? (i := 90) rfl), rfl⟩
theorem lkX6_138 : zHas (Cond.fieldLink RX6 138 (TX3 2).1 (TX3 2).2.1 (TX3 2).2.2.1) := ⟨zIn1 (List.mem_of_getElem? (i := 93) rfl), rfl⟩
theorem lkX6_141 : zHas (Cond.fieldLink RX6 141 (TX3 3).1 (TX3 3).2.1 (TX3 3).2.2.1) := ⟨zIn1 (List.mem_of_getElem? (i := 96) rfl), rfl⟩
theorem lkX6_144 : zHas (Cond.fieldLink RX6 144 (TX3 4).1 (TX3 4).2.1 (TX3 4).2.2.1) := ⟨zIn1 (List.mem_of_getElem? (i := 98) rfl), rfl⟩
theorem lkX6_126 : zHas (Cond.fieldLink RX6 126 (TX3 0).1 (TX3 0).2.1 (TX3 0).2.2.1) := ⟨zIn1 (List.mem_of_getElem? (i := 88) rfl), rfl⟩
theorem mkX6_228 : zHas (Cond.methodLink RX6 228 yX3_nameLength) := ⟨zIn3 (List.mem_of_getElem? (i := 36) rfl), rfl⟩
theorem mkX6_231 : zHas (Cond.methodLink RX6 231 yX3_effort) := ⟨zIn3 (List.mem_of_getElem? (i := 37) rfl), rfl⟩
theorem cdX6_orderOf : zHas (Cond.code yX6_orderOf cX6_orderOf 4 (some .int)) := ⟨zIn3 (List.mem_of_getElem? (i := 35) rfl), rfl⟩
theorem lkX6_234 : zHas (Cond.fieldLink RX6 234 (TX2 0).1 (TX2 0).2.1 (TX2 0).2.2.1) := ⟨zIn1 (List.mem_of_getElem? (i := 78) rfl), rfl⟩
theorem cdX6_letter : zHas (Cond.code yX6_letter cX6_letter 4 (some .int)) := ⟨zIn3 (List.mem_of_getElem? (i := 41) rfl), rfl⟩
theorem mkX6_249 : zHas (Cond.methodLink RX6 249 yX0_foresee) := ⟨zIn3 (List.mem_of_getElem? (i := 8) rfl), rfl⟩
theorem imX0_foresee : zHas (Cond.instanceMethod yX0_foresee) := ⟨zIn3 (List.mem_of_getElem? (i := 9) rfl), rfl⟩
theorem seX0_foresee : zHas (Cond.selects RX0 yX0_foresee yX0_foresee) := ⟨zIn3 (List.mem_of_getElem? (i := 10) rfl), rfl⟩
theorem lkX6_253 : zHas (Cond.fieldLink RX6 253 (TX0 1).1 (TX0 1).2.1 (TX0 1).2.2.1) := ⟨zIn1 (List.mem_of_getElem? (i := 201) rfl), rfl⟩
theorem cdX6_doneIn : zHas (Cond.code yX6_doneIn cX6_doneIn 2 (some .int)) := ⟨zIn3 (List.mem_of_getElem? (i := 6) rfl), rfl⟩
theorem cdX6_isWithin : zHas (Cond.code yX6_isWithin cX6_isWithin 3 (some .boolean)) := ⟨zIn1 (List.mem_of_getElem? (i := 229) rfl), rfl⟩
theorem mkX6_42 : zHas (Cond.methodLink RX6 42 yX6_isWithin) := ⟨zIn1 (List.mem_of_getElem? (i := 227) rfl), rfl⟩
theorem stX6_isWithin : zHas (Cond.static yX6_isWithin) := ⟨zIn1 (List.mem_of_getElem? (i := 228) rfl), rfl⟩
theorem cdX6_isYear : zHas (Cond.code yX6_isYear cX6_isYear 1 (some .boolean)) := ⟨zIn2 (List.mem_of_getElem? (i := 56) rfl), rfl⟩
theorem cdX6_isSize : zHas (Cond.code yX6_isSize cX6_isSize 1 (some .boolean)) := ⟨zIn2 (List.mem_of_getElem? (i := 59) rfl), rfl⟩
theorem cdX6_isDepth : zHas (Cond.code yX6_isDepth cX6_isDepth 1 (some .boolean)) := ⟨zIn2 (List.mem_of_getElem? (i := 62) rfl), rfl⟩
theorem mkX6_53 : zHas (Cond.methodLink RX6 53 yX5_addPlate) := ⟨zIn2 (List.mem_of_getElem? (i := 14) rfl), rfl⟩
theorem imX5_addPlate : zHas (Cond.instanceMethod yX5_addPlate) := ⟨zIn2 (List.mem_of_getElem? (i := 15) rfl), rfl⟩
theorem seX5_addPlate : zHas (Cond.selects RX5 yX5_addPlate yX5_addPlate) := ⟨zIn2 (List.mem_of_getElem? (i := 16) rfl), rfl⟩
theorem cdX6_cut : zHas (Cond.code yX6_cut cX6_cut 3 (some .int)) := ⟨zIn1 (List.mem_of_getElem? (i := 226) rfl), rfl⟩
theorem mkX6_74 : zHas (Cond.methodLink RX6 74 yX4_canBeGround) := ⟨zIn3 (List.mem_of_getElem? (i := 78) rfl), rfl⟩
theorem mkX6_78 : zHas (Cond.methodLink RX6 78 yX5_grindSide) := ⟨zIn3 (List.mem_of_getElem? (i := 83) rfl), rfl⟩
theorem cdX6_grind : zHas (Cond.code yX6_grind cX6_grind 4 (some .int)) := ⟨zIn3 (List.mem_of_getElem? (i := 77) rfl), rfl⟩
theorem mkX6_88 : zHas (Cond.methodLink RX6 88 yX5_hangShield) := ⟨zIn2 (List.mem_of_getElem? (i := 30) rfl), rfl⟩
theorem imX5_hangShield : zHas (Cond.instanceMethod yX5_hangShield) := ⟨zIn2 (List.mem_of_getElem? (i := 31) rfl), rfl⟩
theorem seX5_hangShield : zHas (Cond.selects RX5 yX5_hangShield yX5_hangShield) := ⟨zIn2 (List.mem_of_getElem? (i := 32) rfl), rfl⟩
theorem cdX6_addShield : zHas (Cond.code yX6_addShield cX6_addShield 2 (some .int)) := ⟨zIn2 (List.mem_of_getElem? (i := 29) rfl), rfl⟩
theorem mkX6_94 : zHas (Cond.methodLink RX6 94 yX6_isYear) := ⟨zIn2 (List.mem_of_getElem? (i := 54) rfl), rfl⟩
theorem stX6_isYear : zHas (Cond.static yX6_isYear) := ⟨zIn2 (List.mem_of_getElem? (i := 55) rfl), rfl⟩
theorem mkX6_97 : zHas (Cond.methodLink RX6 97 yX5_plateOfYear) := ⟨zIn2 (List.mem_of_getElem? (i := 63) rfl), rfl⟩
theorem mkX6_100 : zHas (Cond.methodLink RX6 100 yX4_putIntoDrawer) := ⟨zIn3 (List.mem_of_getElem? (i := 92) rfl), rfl⟩
theorem cdX6_takeOff : zHas (Cond.code yX6_takeOff cX6_takeOff 4 (some .int)) := ⟨zIn3 (List.mem_of_getElem? (i := 91) rfl), rfl⟩
theorem mkX6_106 : zHas (Cond.methodLink RX6 106 yX2_add) := ⟨zIn2 (List.mem_of_getElem? (i := 38) rfl), rfl⟩
theorem imX2_add : zHas (Cond.instanceMethod yX2_add) := ⟨zIn2 (List.mem_of_getElem? (i := 39) rfl), rfl⟩
theorem seX2_add : zHas (Cond.selects RX2 yX2_add yX2_add) := ⟨zIn2 (List.mem_of_getElem? (i := 40) rfl), rfl⟩
theorem cdX6_append : zHas (Cond.code yX6_append cX6_append 2 (some .int)) := ⟨zIn2 (List.mem_of_getElem? (i := 37) rfl), rfl⟩
theorem mkX6_110 : zHas (Cond.methodLink RX6 110 yX6_isSize) := ⟨zIn2 (List.mem_of_getElem? (i := 57) rfl), rfl⟩
theorem stX6_isSize : zHas (Cond.static yX6_isSize) := ⟨zIn2 (List.mem_of_getElem? (i := 58) rfl), rfl⟩
theorem mkX6_113 : zHas (Cond.methodLink RX6 113 yX6_isDepth) := ⟨zIn2 (List.mem_of_getElem? (i := 60) rfl), rfl⟩
theorem stX6_isDepth : zHas (Cond.static yX6_isDepth) := ⟨zIn2 (List.mem_of_getElem? (i := 61) rfl), rfl⟩
theorem mkX6_116 : zHas (Cond.methodLink RX6 116 yX5_isOrdered) := ⟨zIn2 (List.mem_of_getElem? (i := 67) rfl), rfl⟩
theorem imX5_isOrdered : zHas (Cond.instanceMethod yX5_isOrdered) := ⟨zIn2 (List.mem_of_getElem? (i := 68) rfl), rfl⟩
theorem seX5_isOrdered : zHas (Cond.selects RX5 yX5_isOrdered yX5_isOrdered) := ⟨zIn2 (List.mem_of_getElem? (i := 69) rfl), rfl⟩
theorem mkX6_131 : zHas (Cond.methodLink RX6 131 yX2_copyFrom) := ⟨zIn2 (List.mem_of_getElem? (i := 71) rfl), rfl⟩
theorem mkX6_151 : zHas (Cond.methodLink RX6 151 yX5_takeInOrder) := ⟨zIn2 (List.mem_of_getElem? (i := 72) rfl), rfl⟩
theorem imX5_takeInOrder : zHas (Cond.instanceMethod yX5_takeInOrder) := ⟨zIn2 (List.mem_of_getElem? (i := 73) rfl), rfl⟩
theorem seX5_takeInOrder : zHas (Cond.selects RX5 yX5_takeInOrder yX5_takeInOrder) := ⟨zIn2 (List.mem_of_getElem? (i := 74) rfl), rfl⟩
theorem cdX6_order : zHas (Cond.code yX6_order cX6_order 7 (some .int)) := ⟨zIn2 (List.mem_of_getElem? (i := 49) rfl), rfl⟩
theorem mkX6_164 : zHas (Cond.methodLink RX6 164 yX5_spendMinutes) := ⟨zIn2 (List.mem_of_getElem? (i := 88) rfl), rfl⟩
theorem imX5_spendMinutes : zHas (Cond.instanceMethod yX5_spendMinutes) := ⟨zIn2 (List.mem_of_getElem? (i := 89) rfl), rfl⟩
theorem seX5_spendMinutes : zHas (Cond.selects RX5 yX5_spendMinutes yX5_spendMinutes) := ⟨zIn2 (List.mem_of_getElem? (i := 90) rfl), rfl⟩
theorem cdX6_work : zHas (Cond.code yX6_work cX6_work 2 (some .int)) := ⟨zIn2 (List.mem_of_getElem? (i := 87) rfl), rfl⟩
theorem cdX6_plateFor : zHas (Cond.code yX6_plateFor cX6_plateFor 3 (some .int)) := ⟨zIn3 (List.mem_of_getElem? (i := 113) rfl), rfl⟩
theorem mkX6_237 : zHas (Cond.methodLink RX6 237 yX2_lengthIn) := ⟨zIn3 (List.mem_of_getElem? (i := 2) rfl), rfl⟩
theorem cdX6_lengthOf : zHas (Cond.code yX6_lengthOf cX6_lengthOf 2 (some .int)) := ⟨zIn3 (List.mem_of_getElem? (i := 1) rfl), rfl⟩
theorem cdL_cell : zHas (Cond.code yL_cell cL_cell 2 (some .int)) := ⟨zIn3 (List.mem_of_getElem? (i := 22) rfl), rfl⟩
theorem iniL : zHas (Cond.initialized RL) := ⟨zIn1 (List.mem_of_getElem? (i := 0) rfl), rfl⟩
theorem ckL_7 : zHas (Cond.constant RL 7 2147483647) := ⟨zIn3 (List.mem_of_getElem? (i := 26) rfl), rfl⟩
theorem cdL_low : zHas (Cond.code yL_low cL_low 2 (some .int)) := ⟨zIn3 (List.mem_of_getElem? (i := 25) rfl), rfl⟩
theorem cjL_8 : zHas (Cond.constantLong RL 8 13) := ⟨zIn3 (List.mem_of_getElem? (i := 30) rfl), rfl⟩
theorem cjL_10 : zHas (Cond.constantLong RL 10 31) := ⟨zIn3 (List.mem_of_getElem? (i := 31) rfl), rfl⟩
theorem mkL_12 : zHas (Cond.methodLink RL 12 yX6_count) := ⟨zIn2 (List.mem_of_getElem? (i := 224) rfl), rfl⟩
theorem imX6_count : zHas (Cond.instanceMethod yX6_count) := ⟨zIn2 (List.mem_of_getElem? (i := 225) rfl), rfl⟩
theorem seX6_count : zHas (Cond.selects RX6 yX6_count yX6_count) := ⟨zIn2 (List.mem_of_getElem? (i := 226) rfl), rfl⟩
theorem mkL_18 : zHas (Cond.methodLink RL 18 yX6_plate) := ⟨zIn2 (List.mem_of_getElem? (i := 233) rfl), rfl⟩
theorem imX6_plate : zHas (Cond.instanceMethod yX6_plate) := ⟨zIn2 (List.mem_of_getElem? (i := 234) rfl), rfl⟩
theorem seX6_plate : zHas (Cond.selects RX6 yX6_plate yX6_plate) := ⟨zIn2 (List.mem_of_getElem? (i := 235) rfl), rfl⟩
theorem mkL_22 : zHas (Cond.methodLink RL 22 yX6_orderOf) := ⟨zIn3 (List.mem_of_getElem? (i := 32) rfl), rfl⟩
theorem imX6_orderOf : zHas (Cond.instanceMethod yX6_orderOf) := ⟨zIn3 (List.mem_of_getElem? (i := 33) rfl), rfl⟩
theorem seX6_orderOf : zHas (Cond.selects RX6 yX6_orderOf yX6_orderOf) := ⟨zIn3 (List.mem_of_getElem? (i := 34) rfl), rfl⟩
theorem mkL_25 : zHas (Cond.methodLink RL 25 yX6_letter) := ⟨zIn3 (List.mem_of_getElem? (i := 38) rfl), rfl⟩
theorem imX6_letter : zHas (Cond.instanceMethod yX6_letter) := ⟨zIn3 (List.mem_of_getElem? (i := 39) rfl), rfl⟩
theorem seX6_letter : zHas (Cond.selects RX6 yX6_letter yX6_letter) := ⟨zIn3 (List.mem_of_getElem? (i := 40) rfl), rfl⟩
theorem cjL_28 : zHas (Cond.constantLong RL 28 97) := ⟨zIn3 (List.mem_of_getElem? (i := 42) rfl), rfl⟩
theorem mkL_30 : zHas (Cond.methodLink RL 30 yX6_shield) := ⟨zIn3 (List.mem_of_getElem? (i := 43) rfl), rfl⟩
theorem imX6_shield : zHas (Cond.instanceMethod yX6_shield) := ⟨zIn3 (List.mem_of_getElem? (i := 44) rfl), rfl⟩
theorem seX6_shield : zHas (Cond.selects RX6 yX6_shield yX6_shield) := ⟨zIn3 (List.mem_of_getElem? (i := 45) rfl), rfl⟩
theorem cdL_digest : zHas (Cond.code yL_digest cL_digest 5 (some .long)) := ⟨zIn3 (List.mem_of_getElem? (i := 29) rfl), rfl⟩
theorem mkL_33 : zHas (Cond.methodLink RL 33 yL_low) := ⟨zIn3 (List.mem_of_getElem? (i := 23) rfl), rfl⟩
theorem stL_low : zHas (Cond.static yL_low) := ⟨zIn3 (List.mem_of_getElem? (i := 24) rfl), rfl⟩
theorem mkL_38 : zHas (Cond.methodLink RL 38 yX6_cut) := ⟨zIn1 (List.mem_of_getElem? (i := 223) rfl), rfl⟩
theorem imX6_cut : zHas (Cond.instanceMethod yX6_cut) := ⟨zIn1 (List.mem_of_getElem? (i := 224) rfl), rfl⟩
theorem seX6_cut : zHas (Cond.selects RX6 yX6_cut yX6_cut) := ⟨zIn1 (List.mem_of_getElem? (i := 225) rfl), rfl⟩
theorem mkL_41 : zHas (Cond.methodLink RL 41 yX6_append) := ⟨zIn2 (List.mem_of_getElem? (i := 34) rfl), rfl⟩
theorem imX6_append : zHas (Cond.instanceMethod yX6_append) := ⟨zIn2 (List.mem_of_getElem? (i := 35) rfl), rfl⟩
theorem seX6_append : zHas (Cond.selects RX6 yX6_append yX6_append) := ⟨zIn2 (List.mem_of_getElem? (i := 36) rfl), rfl⟩
theorem mkL_44 : zHas (Cond.methodLink RL 44 yX6_order) := ⟨zIn2 (List.mem_of_getElem? (i := 46) rfl), rfl⟩
theorem imX6_order : zHas (Cond.instanceMethod yX6_order) := ⟨zIn2 (List.mem_of_getElem? (i := 47) rfl), rfl⟩
theorem seX6_order : zHas (Cond.selects RX6 yX6_order yX6_order) := ⟨zIn2 (List.mem_of_getElem? (i := 48) rfl), rfl⟩
theorem mkL_48 : zHas (Cond.methodLink RL 48 yX6_hurry) := ⟨zIn3 (List.mem_of_getElem? (i := 61) rfl), rfl⟩
theorem imX6_hurry : zHas (Cond.instanceMethod yX6_hurry) := ⟨zIn3 (List.mem_of_getElem? (i := 62) rfl), rfl⟩
theorem seX6_hurry : zHas (Cond.selects RX6 yX6_hurry yX6_hurry) := ⟨zIn3 (List.mem_of_getElem? (i := 63) rfl), rfl⟩
theorem mkL_51 : zHas (Cond.methodLink RL 51 yX6_cancel) := ⟨zIn3 (List.mem_of_getElem? (i := 66) rfl), rfl⟩
theorem imX6_cancel : zHas (Cond.instanceMethod yX6_cancel) := ⟨zIn3 (List.mem_of_getElem? (i := 67) rfl), rfl⟩
theorem seX6_cancel : zHas (Cond.selects RX6 yX6_cancel yX6_cancel) := ⟨zIn3 (List.mem_of_getElem? (i := 68) rfl), rfl⟩
theorem mkL_54 : zHas (Cond.methodLink RL 54 yX6_grind) := ⟨zIn3 (List.mem_of_getElem? (i := 74) rfl), rfl⟩
theorem imX6_grind : zHas (Cond.instanceMethod yX6_grind) := ⟨zIn3 (List.mem_of_getElem? (i := 75) rfl), rfl⟩
theorem seX6_grind : zHas (Cond.selects RX6 yX6_grind yX6_grind) := ⟨zIn3 (List.mem_of_getElem? (i := 76) rfl), rfl⟩
theorem mkL_57 : zHas (Cond.methodLink RL 57 yX6_spoil) := ⟨zIn3 (List.mem_of_getElem? (i := 84) rfl), rfl⟩
theorem imX6_spoil : zHas (Cond.instanceMethod yX6_spoil) := ⟨zIn3 (List.mem_of_getElem? (i := 85) rfl), rfl⟩
theorem seX6_spoil : zHas (Cond.selects RX6 yX6_spoil yX6_spoil) := ⟨zIn3 (List.mem_of_getElem? (i := 86) rfl), rfl⟩
theorem mkL_60 : zHas (Cond.methodLink RL 60 yX6_takeOff) := ⟨zIn3 (List.mem_of_getElem? (i := 88) rfl), rfl⟩
theorem imX6_takeOff : zHas (Cond.instanceMethod yX6_takeOff) := ⟨zIn3 (List.mem_of_getElem? (i := 89) rfl), rfl⟩
theorem seX6_takeOff : zHas (Cond.selects RX6 yX6_takeOff yX6_takeOff) := ⟨zIn3 (List.mem_of_getElem? (i := 90) rfl), rfl⟩
theorem mkL_63 : zHas (Cond.methodLink RL 63 yX6_slip) := ⟨zIn3 (List.mem_of_getElem? (i := 93) rfl), rfl⟩
theorem imX6_slip : zHas (Cond.instanceMethod yX6_slip) := ⟨zIn3 (List.mem_of_getElem? (i := 94) rfl), rfl⟩
theorem seX6_slip : zHas (Cond.selects RX6 yX6_slip yX6_slip) := ⟨zIn3 (List.mem_of_getElem? (i := 95) rfl), rfl⟩
theorem mkL_67 : zHas (Cond.methodLink RL 67 yX6_work) := ⟨zIn2 (List.mem_of_getElem? (i := 84) rfl), rfl⟩
theorem imX6_work : zHas (Cond.instanceMethod yX6_work) := ⟨zIn2 (List.mem_of_getElem? (i := 85) rfl), rfl⟩
theorem seX6_work : zHas (Cond.selects RX6 yX6_work yX6_work) := ⟨zIn2 (List.mem_of_getElem? (i := 86) rfl), rfl⟩
theorem cdL_act : zHas (Cond.code yL_act cL_act 5 (some .int)) := ⟨zIn3 (List.mem_of_getElem? (i := 60) rfl), rfl⟩
theorem mkL_70 : zHas (Cond.methodLink RL 70 yX6_plateFor) := ⟨zIn3 (List.mem_of_getElem? (i := 110) rfl), rfl⟩
theorem imX6_plateFor : zHas (Cond.instanceMethod yX6_plateFor) := ⟨zIn3 (List.mem_of_getElem? (i := 111) rfl), rfl⟩
theorem seX6_plateFor : zHas (Cond.selects RX6 yX6_plateFor yX6_plateFor) := ⟨zIn3 (List.mem_of_getElem? (i := 112) rfl), rfl⟩
theorem cdL_isRight : zHas (Cond.code yL_isRight cL_isRight 7 (some .boolean)) := ⟨zIn3 (List.mem_of_getElem? (i := 109) rfl), rfl⟩
theorem cdL_isDone : zHas (Cond.code yL_isDone cL_isDone 7 (some .boolean)) := ⟨zIn3 (List.mem_of_getElem? (i := 116) rfl), rfl⟩
theorem mkL_73 : zHas (Cond.methodLink RL 73 yX6_doneIn) := ⟨zIn3 (List.mem_of_getElem? (i := 3) rfl), rfl⟩
theorem imX6_doneIn : zHas (Cond.instanceMethod yX6_doneIn) := ⟨zIn3 (List.mem_of_getElem? (i := 4) rfl), rfl⟩
theorem seX6_doneIn : zHas (Cond.selects RX6 yX6_doneIn yX6_doneIn) := ⟨zIn3 (List.mem_of_getElem? (i := 5) rfl), rfl⟩
theorem mkL_76 : zHas (Cond.methodLink RL 76 yL_digest) := ⟨zIn3 (List.mem_of_getElem? (i := 27) rfl), rfl⟩
theorem stL_digest : zHas (Cond.static yL_digest) := ⟨zIn3 (List.mem_of_getElem? (i := 28) rfl), rfl⟩
theorem mkL_80 : zHas (Cond.methodLink RL 80 yX6_undo) := ⟨zIn2 (List.mem_of_getElem? (i := 216) rfl), rfl⟩
theorem imX6_undo : zHas (Cond.instanceMethod yX6_undo) := ⟨zIn2 (List.mem_of_getElem? (i := 217) rfl), rfl⟩
theorem seX6_undo : zHas (Cond.selects RX6 yX6_undo yX6_undo) := ⟨zIn2 (List.mem_of_getElem? (i := 218) rfl), rfl⟩
theorem cdL_isForecast : zHas (Cond.code yL_isForecast cL_isForecast 13 (some .boolean)) := ⟨zIn3 (List.mem_of_getElem? (i := 119) rfl), rfl⟩
theorem clL_13 : zHas (Cond.classLink RL 13 RX6) := ⟨zIn1 (List.mem_of_getElem? (i := 9) rfl), rfl⟩
theorem is6 : zHas (Cond.instantiable RX6 5) := ⟨zIn1 (List.mem_of_getElem? (i := 10) rfl), rfl⟩
theorem imX6_init : zHas (Cond.instanceMethod yX6_init) := ⟨zIn1 (List.mem_of_getElem? (i := 12) rfl), rfl⟩
theorem mkL_83 : zHas (Cond.methodLink RL 83 yX6_init) := ⟨zIn1 (List.mem_of_getElem? (i := 11) rfl), rfl⟩
theorem mkL_84 : zHas (Cond.methodLink RL 84 yL_cell) := ⟨zIn3 (List.mem_of_getElem? (i := 20) rfl), rfl⟩
theorem stL_cell : zHas (Cond.static yL_cell) := ⟨zIn3 (List.mem_of_getElem? (i := 21) rfl), rfl⟩
theorem mkL_88 : zHas (Cond.methodLink RL 88 yX6_addShield) := ⟨zIn2 (List.mem_of_getElem? (i := 26) rfl), rfl⟩
theorem imX6_addShield : zHas (Cond.instanceMethod yX6_addShield) := ⟨zIn2 (List.mem_of_getElem? (i := 27) rfl), rfl⟩
theorem seX6_addShield : zHas (Cond.selects RX6 yX6_addShield yX6_addShield) := ⟨zIn2 (List.mem_of_getElem? (i := 28) rfl), rfl⟩
theorem mkL_91 : zHas (Cond.methodLink RL 91 yX6_clearText) := ⟨zIn2 (List.mem_of_getElem? (i := 42) rfl), rfl⟩
theorem imX6_clearText : zHas (Cond.instanceMethod yX6_clearText) := ⟨zIn2 (List.mem_of_getElem? (i := 43) rfl), rfl⟩
theorem seX6_clearText : zHas (Cond.selects RX6 yX6_clearText yX6_clearText) := ⟨zIn2 (List.mem_of_getElem? (i := 44) rfl), rfl⟩
theorem mkL_94 : zHas (Cond.methodLink RL 94 yL_act) := ⟨zIn3 (List.mem_of_getElem? (i := 58) rfl), rfl⟩
theorem stL_act : zHas (Cond.static yL_act) := ⟨zIn3 (List.mem_of_getElem? (i := 59) rfl), rfl⟩
theorem mkL_98 : zHas (Cond.methodLink RL 98 yL_isDone) := ⟨zIn3 (List.mem_of_getElem? (i := 114) rfl), rfl⟩
theorem stL_isDone : zHas (Cond.static yL_isDone) := ⟨zIn3 (List.mem_of_getElem? (i := 115) rfl), rfl⟩
theorem mkL_102 : zHas (Cond.methodLink RL 102 yL_isRight) := ⟨zIn3 (List.mem_of_getElem? (i := 107) rfl), rfl⟩
theorem stL_isRight : zHas (Cond.static yL_isRight) := ⟨zIn3 (List.mem_of_getElem? (i := 108) rfl), rfl⟩
theorem mkL_106 : zHas (Cond.methodLink RL 106 yX6_lengthOf) := ⟨zIn2 (List.mem_of_getElem? (i := 238) rfl), rfl⟩
theorem imX6_lengthOf : zHas (Cond.instanceMethod yX6_lengthOf) := ⟨zIn2 (List.mem_of_getElem? (i := 239) rfl), rfl⟩
theorem seX6_lengthOf : zHas (Cond.selects RX6 yX6_lengthOf yX6_lengthOf) := ⟨zIn3 (List.mem_of_getElem? (i := 0) rfl), rfl⟩
theorem mkL_109 : zHas (Cond.methodLink RL 109 yL_isForecast) := ⟨zIn3 (List.mem_of_getElem? (i := 117) rfl), rfl⟩
theorem stL_isForecast : zHas (Cond.static yL_isForecast) := ⟨zIn3 (List.mem_of_getElem? (i := 118) rfl), rfl⟩
