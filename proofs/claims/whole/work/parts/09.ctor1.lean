theorem kac : Cond.arrayClass .int ∈ sd_big := sd_mem (k := 102) (by decide +kernel) (by decide +kernel)
theorem kob : Cond.instanceMethod objectInit ∈ sd_big ∧ Cond.code objectInit ⟨#[0xb1]⟩ 1 none ∈ sd_big := ⟨sd_mem (k := 68) (by decide +kernel) (by decide +kernel), sd_mem (k := 69) (by decide +kernel) (by decide +kernel)⟩
theorem koX9 : Cond.methodLink RX9 1 objectInit ∈ sd_big := sd_mem (k := 67) (by decide +kernel) (by decide +kernel)
theorem klX9_7 : Cond.classLink RX9 7 RX7 ∈ sd_big := sd_mem (k := 70) (by decide +kernel) (by decide +kernel)
theorem kiX7 : Cond.instantiable RX7 4 ∈ sd_big ∧ Cond.initialized RX7 ∈ sd_big := ⟨sd_mem (k := 71) (by decide +kernel) (by decide +kernel), sd_mem (k := 49) (by decide +kernel) (by decide +kernel)⟩
theorem dfX7 : ∀ j, j < 4 → defaultValue (tyX7 j) = vp_V [.null, .null, .null, .null] j := by
  intro j hj
  rcases (show j = 0 ∨ j = 1 ∨ j = 2 ∨ j = 3 by omega) with rfl | rfl | rfl | rfl <;> rfl
theorem koX7 : Cond.methodLink RX7 3 objectInit ∈ sd_big := sd_mem (k := 75) (by decide +kernel) (by decide +kernel)
theorem klX7_9 : Cond.classLink RX7 9 RX4 ∈ sd_big := sd_mem (k := 76) (by decide +kernel) (by decide +kernel)
theorem kiX4 : Cond.instantiable RX4 4 ∈ sd_big ∧ Cond.initialized RX4 ∈ sd_big := ⟨sd_mem (k := 77) (by decide +kernel) (by decide +kernel), sd_mem (k := 50) (by decide +kernel) (by decide +kernel)⟩
theorem dfX4 : ∀ j, j < 4 → defaultValue (tyX4 j) = vp_V [.null, .null, .null, .int 0] j := by
  intro j hj
  rcases (show j = 0 ∨ j = 1 ∨ j = 2 ∨ j = 3 by omega) with rfl | rfl | rfl | rfl <;> rfl
theorem koX4 : Cond.methodLink RX4 3 objectInit ∈ sd_big := sd_mem (k := 81) (by decide +kernel) (by decide +kernel)
theorem knX7_11 : Cond.methodLinkNest RX7 11 yX4_init "SoundingSheet" ∈ sd_nw := by simp [sd_nw]
set_option maxRecDepth 100000 in
theorem kIX4_init : cn_cal yX4_init cX4_init 1 0 := ⟨⟨sd_mem (k := 80) rfl (by decide +kernel), sd_mem (k := 50) (by decide +kernel) (by decide +kernel), by decide +kernel⟩, sd_mem (k := 79) (by decide +kernel) (by decide +kernel), rfl⟩
theorem klX7_18 : Cond.classLink RX7 18 RX8 ∈ sd_big := sd_mem (k := 103) (by decide +kernel) (by decide +kernel)
theorem kiX8 : Cond.instantiable RX8 5 ∈ sd_big ∧ Cond.initialized RX8 ∈ sd_big := ⟨sd_mem (k := 104) (by decide +kernel) (by decide +kernel), sd_mem (k := 51) (by decide +kernel) (by decide +kernel)⟩
theorem dfX8 : ∀ j, j < 5 → defaultValue (tyX8 j) = vp_V [.null, .null, .null, .long 0, .long 0] j := by
  intro j hj
  rcases (show j = 0 ∨ j = 1 ∨ j = 2 ∨ j = 3 ∨ j = 4 by omega) with rfl | rfl | rfl | rfl | rfl <;> rfl
theorem koX8 : Cond.methodLink RX8 3 objectInit ∈ sd_big := sd_mem (k := 108) (by decide +kernel) (by decide +kernel)
theorem knX7_20 : Cond.methodLinkNest RX7 20 yX8_init "SoundingSheet" ∈ sd_nw := by simp [sd_nw]
set_option maxRecDepth 100000 in
theorem kIX8_init : cn_cal yX8_init cX8_init 1 0 := ⟨⟨sd_mem (k := 107) rfl (by decide +kernel), sd_mem (k := 51) (by decide +kernel) (by decide +kernel), by decide +kernel⟩, sd_mem (k := 106) (by decide +kernel) (by decide +kernel), rfl⟩
theorem klX7_25 : Cond.classLink RX7 25 RX6 ∈ sd_big := sd_mem (k := 131) (by decide +kernel) (by decide +kernel)
theorem kiX6 : Cond.instantiable RX6 11 ∈ sd_big ∧ Cond.initialized RX6 ∈ sd_big := ⟨sd_mem (k := 132) (by decide +kernel) (by decide +kernel), sd_mem (k := 52) (by decide +kernel) (by decide +kernel)⟩
theorem dfX6 : ∀ j, j < 11 → defaultValue (tyX6 j) = vp_V [.null, .null, .null, .null, .null, .null, .null, .null, .null, .null, .int 0] j := by
  intro j hj
  rcases (show j = 0 ∨ j = 1 ∨ j = 2 ∨ j = 3 ∨ j = 4 ∨ j = 5 ∨ j = 6 ∨ j = 7 ∨ j = 8 ∨ j = 9 ∨ j = 10 by omega) with rfl | rfl | rfl | rfl | rfl | rfl | rfl | rfl | rfl | rfl | rfl <;> rfl
theorem koX6 : Cond.methodLink RX6 3 objectInit ∈ sd_big := sd_mem (k := 136) (by decide +kernel) (by decide +kernel)
theorem knX7_27 : Cond.methodLinkNest RX7 27 yX6_init "SoundingSheet" ∈ sd_nw := by simp [sd_nw]
set_option maxRecDepth 100000 in
theorem kIX6_init : cn_cal yX6_init cX6_init 1 0 := ⟨⟨sd_mem (k := 135) rfl (by decide +kernel), sd_mem (k := 52) (by decide +kernel) (by decide +kernel), by decide +kernel⟩, sd_mem (k := 134) (by decide +kernel) (by decide +kernel), rfl⟩
theorem knX9_9 : Cond.methodLinkNest RX9 9 yX7_init "SoundingSheet" ∈ sd_nw := by simp [sd_nw]
set_option maxRecDepth 100000 in
theorem kIX7_init : cn_cal yX7_init cX7_init 1 0 := ⟨⟨sd_mem (k := 74) rfl (by decide +kernel), sd_mem (k := 49) (by decide +kernel) (by decide +kernel), by decide +kernel⟩, sd_mem (k := 73) (by decide +kernel) (by decide +kernel), rfl⟩
theorem klX9_19 : Cond.classLink RX9 19 RX0 ∈ sd_big := sd_mem (k := 223) (by decide +kernel) (by decide +kernel)
theorem kiX0 : Cond.instantiable RX0 8 ∈ sd_big ∧ Cond.initialized RX0 ∈ sd_big := ⟨sd_mem (k := 224) (by decide +kernel) (by decide +kernel), sd_mem (k := 53) (by decide +kernel) (by decide +kernel)⟩
theorem dfX0 : ∀ j, j < 8 → defaultValue (tyX0 j) = vp_V [.null, .null, .null, .int 0, .int 0, .int 0, .int 0, .int 0] j := by
  intro j hj
  rcases (show j = 0 ∨ j = 1 ∨ j = 2 ∨ j = 3 ∨ j = 4 ∨ j = 5 ∨ j = 6 ∨ j = 7 by omega) with rfl | rfl | rfl | rfl | rfl | rfl | rfl | rfl <;> rfl
theorem koX0 : Cond.methodLink RX0 3 objectInit ∈ sd_big := sd_mem (k := 228) (by decide +kernel) (by decide +kernel)
theorem knX9_21 : Cond.methodLinkNest RX9 21 yX0_init "SoundingSheet" ∈ sd_nw := by simp [sd_nw]
set_option maxRecDepth 100000 in
theorem kIX0_init : cn_cal yX0_init cX0_init 1 0 := ⟨⟨sd_mem (k := 227) rfl (by decide +kernel), sd_mem (k := 53) (by decide +kernel) (by decide +kernel), by decide +kernel⟩, sd_mem (k := 226) (by decide +kernel) (by decide +kernel), rfl⟩
theorem klX9_26 : Cond.classLink RX9 26 RX3 ∈ sd_big := sd_mem (k := 258) (by decide +kernel) (by decide +kernel)
theorem kiX3 : Cond.instantiable RX3 7 ∈ sd_big ∧ Cond.initialized RX3 ∈ sd_big := ⟨sd_mem (k := 259) (by decide +kernel) (by decide +kernel), sd_mem (k := 54) (by decide +kernel) (by decide +kernel)⟩
theorem dfX3 : ∀ j, j < 7 → defaultValue (tyX3 j) = vp_V [.null, .null, .null, .null, .int 0, .int 0, .int 0] j := by
  intro j hj
  rcases (show j = 0 ∨ j = 1 ∨ j = 2 ∨ j = 3 ∨ j = 4 ∨ j = 5 ∨ j = 6 by omega) with rfl | rfl | rfl | rfl | rfl | rfl | rfl <;> rfl
theorem koX3 : Cond.methodLink RX3 3 objectInit ∈ sd_big := sd_mem (k := 263) (by decide +kernel) (by decide +kernel)
theorem kmX9_28 : Cond.methodLink RX9 28 yX3_init ∈ sd_big := sd_mem (k := 260) (by decide +kernel) (by decide +kernel)
set_option maxRecDepth 100000 in
theorem kIX3_init : cn_cal yX3_init cX3_init 2 1 := ⟨⟨sd_mem (k := 262) rfl (by decide +kernel), sd_mem (k := 54) (by decide +kernel) (by decide +kernel), by decide +kernel⟩, sd_mem (k := 261) (by decide +kernel) (by decide +kernel), rfl⟩
theorem klX9_35 : Cond.classLink RX9 35 RX5 ∈ sd_big := sd_mem (k := 289) (by decide +kernel) (by decide +kernel)
theorem kiX5 : Cond.instantiable RX5 6 ∈ sd_big ∧ Cond.initialized RX5 ∈ sd_big := ⟨sd_mem (k := 290) (by decide +kernel) (by decide +kernel), sd_mem (k := 55) (by decide +kernel) (by decide +kernel)⟩
theorem dfX5 : ∀ j, j < 6 → defaultValue (tyX5 j) = vp_V [.null, .null, .int 0, .null, .int 0, .null] j := by
  intro j hj
  rcases (show j = 0 ∨ j = 1 ∨ j = 2 ∨ j = 3 ∨ j = 4 ∨ j = 5 by omega) with rfl | rfl | rfl | rfl | rfl | rfl <;> rfl
theorem koX5 : Cond.methodLink RX5 3 objectInit ∈ sd_big := sd_mem (k := 294) (by decide +kernel) (by decide +kernel)
theorem kmX9_37 : Cond.methodLink RX9 37 yX5_init ∈ sd_big := sd_mem (k := 291) (by decide +kernel) (by decide +kernel)
set_option maxRecDepth 100000 in
theorem kIX5_init : cn_cal yX5_init cX5_init 2 1 := ⟨⟨sd_mem (k := 293) rfl (by decide +kernel), sd_mem (k := 55) (by decide +kernel) (by decide +kernel), by decide +kernel⟩, sd_mem (k := 292) (by decide +kernel) (by decide +kernel), rfl⟩
theorem klX9_42 : Cond.classLink RX9 42 RX2 ∈ sd_big := sd_mem (k := 317) (by decide +kernel) (by decide +kernel)
theorem kiX2 : Cond.instantiable RX2 3 ∈ sd_big ∧ Cond.initialized RX2 ∈ sd_big := ⟨sd_mem (k := 318) (by decide +kernel) (by decide +kernel), sd_mem (k := 56) (by decide +kernel) (by decide +kernel)⟩
theorem dfX2 : ∀ j, j < 3 → defaultValue (tyX2 j) = vp_V [.null, .null, .null] j := by
  intro j hj
  rcases (show j = 0 ∨ j = 1 ∨ j = 2 by omega) with rfl | rfl | rfl <;> rfl
theorem koX2 : Cond.methodLink RX2 3 objectInit ∈ sd_big := sd_mem (k := 322) (by decide +kernel) (by decide +kernel)
theorem kmX9_44 : Cond.methodLink RX9 44 yX2_init ∈ sd_big := sd_mem (k := 319) (by decide +kernel) (by decide +kernel)
set_option maxRecDepth 100000 in
theorem kIX2_init : cn_cal yX2_init cX2_init 2 1 := ⟨⟨sd_mem (k := 321) rfl (by decide +kernel), sd_mem (k := 56) (by decide +kernel) (by decide +kernel), by decide +kernel⟩, sd_mem (k := 320) (by decide +kernel) (by decide +kernel), rfl⟩
theorem klX9_49 : Cond.classLink RX9 49 RX1 ∈ sd_big := sd_mem (k := 335) (by decide +kernel) (by decide +kernel)
theorem kiX1 : Cond.instantiable RX1 7 ∈ sd_big ∧ Cond.initialized RX1 ∈ sd_big := ⟨sd_mem (k := 336) (by decide +kernel) (by decide +kernel), sd_mem (k := 57) (by decide +kernel) (by decide +kernel)⟩
theorem dfX1 : ∀ j, j < 7 → defaultValue (tyX1 j) = vp_V [.null, .null, .null, .int 0, .null, .int 0, .int 0] j := by
  intro j hj
  rcases (show j = 0 ∨ j = 1 ∨ j = 2 ∨ j = 3 ∨ j = 4 ∨ j = 5 ∨ j = 6 by omega) with rfl | rfl | rfl | rfl | rfl | rfl | rfl <;> rfl
theorem koX1 : Cond.methodLink RX1 3 objectInit ∈ sd_big := sd_mem (k := 340) (by decide +kernel) (by decide +kernel)
theorem kmX9_51 : Cond.methodLink RX9 51 yX1_init ∈ sd_big := sd_mem (k := 337) (by decide +kernel) (by decide +kernel)
set_option maxRecDepth 100000 in
theorem kIX1_init : cn_cal yX1_init cX1_init 2 1 := ⟨⟨sd_mem (k := 339) rfl (by decide +kernel), sd_mem (k := 57) (by decide +kernel) (by decide +kernel), by decide +kernel⟩, sd_mem (k := 338) (by decide +kernel) (by decide +kernel), rfl⟩
theorem koX10 : Cond.methodLink RX10 1 objectInit ∈ sd_big := sd_mem (k := 817) (by decide +kernel) (by decide +kernel)
theorem kkX10_13 : Cond.constant RX10 13 91280 ∈ sd_big := sd_mem (k := 818) (by decide +kernel) (by decide +kernel)
