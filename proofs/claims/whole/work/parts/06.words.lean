set_option maxRecDepth 100000 in
theorem kYX9_within : sd_calS yX9_within cX9_within 3 (some .boolean) 3 := ⟨⟨sd_mem (k := 400) rfl (by decide +kernel), sd_mem (k := 48) (by decide +kernel) (by decide +kernel), by decide +kernel⟩, sd_mem (k := 399) (by decide +kernel) (by decide +kernel)⟩
theorem kmX9_89 : Cond.methodLink RX9 89 yX9_within ∈ sd_big := sd_mem (k := 398) (by decide +kernel) (by decide +kernel)
theorem kfX4_21 : Cond.fieldLink RX4 21 (TX4 3).1 (TX4 3).2.1 (TX4 3).2.2.1 ∈ sd_big := sd_mem (k := 90) (by decide +kernel) (by decide +kernel)
theorem kcX4 : ∀ x ∈ u_ws RX4 TX4 4, x ∈ sd_big := sd_memL [93, 95, 97, 99] (by decide +kernel) (by decide +kernel)
theorem kfX4_9 : Cond.fieldLink RX4 9 (TX4 0).1 (TX4 0).2.1 (TX4 0).2.2.1 ∈ sd_big := sd_mem (k := 82) (by decide +kernel) (by decide +kernel)
theorem kfX4_15 : Cond.fieldLink RX4 15 (TX4 1).1 (TX4 1).2.1 (TX4 1).2.2.1 ∈ sd_big := sd_mem (k := 84) (by decide +kernel) (by decide +kernel)
theorem kfX4_18 : Cond.fieldLink RX4 18 (TX4 2).1 (TX4 2).2.1 (TX4 2).2.2.1 ∈ sd_big := sd_mem (k := 87) (by decide +kernel) (by decide +kernel)
theorem kfX0_9 : Cond.fieldLink RX0 9 (TX0 0).1 (TX0 0).2.1 (TX0 0).2.2.1 ∈ sd_big := sd_mem (k := 229) (by decide +kernel) (by decide +kernel)
theorem kcX0 : ∀ x ∈ u_ws RX0 TX0 8, x ∈ sd_big := sd_memL [241, 243, 245, 247, 249, 251, 253, 255] (by decide +kernel) (by decide +kernel)
theorem kfX0_21 : Cond.fieldLink RX0 21 (TX0 3).1 (TX0 3).2.1 (TX0 3).2.2.1 ∈ sd_big := sd_mem (k := 232) (by decide +kernel) (by decide +kernel)
theorem kfX0_15 : Cond.fieldLink RX0 15 (TX0 1).1 (TX0 1).2.1 (TX0 1).2.2.1 ∈ sd_big := sd_mem (k := 230) (by decide +kernel) (by decide +kernel)
theorem kfX0_18 : Cond.fieldLink RX0 18 (TX0 2).1 (TX0 2).2.1 (TX0 2).2.2.1 ∈ sd_big := sd_mem (k := 231) (by decide +kernel) (by decide +kernel)
theorem kfX0_25 : Cond.fieldLink RX0 25 (TX0 4).1 (TX0 4).2.1 (TX0 4).2.2.1 ∈ sd_big := sd_mem (k := 233) (by decide +kernel) (by decide +kernel)
set_option maxRecDepth 100000 in
theorem kYJ9_min_7cf53 : sd_calS yJ9_min_7cf53 cJ9_min_7cf53 2 (some .int) 2 := ⟨⟨sd_mem (k := 414) rfl (by decide +kernel), sd_mem (k := 59) (by decide +kernel) (by decide +kernel), by decide +kernel⟩, sd_mem (k := 413) (by decide +kernel) (by decide +kernel)⟩
theorem kmX0_37 : Cond.methodLink RX0 37 yJ9_min_7cf53 ∈ sd_big := sd_mem (k := 412) (by decide +kernel) (by decide +kernel)
set_option maxRecDepth 100000 in
theorem kYX9_isDay : sd_calS yX9_isDay cX9_isDay 1 (some .boolean) 1 := ⟨⟨sd_mem (k := 397) rfl (by decide +kernel), sd_mem (k := 48) (by decide +kernel) (by decide +kernel), by decide +kernel⟩, sd_mem (k := 396) (by decide +kernel) (by decide +kernel)⟩
theorem kmX9_62 : Cond.methodLink RX9 62 yX9_isDay ∈ sd_big := sd_mem (k := 395) (by decide +kernel) (by decide +kernel)
set_option maxRecDepth 100000 in
theorem kYX9_isSpeed : sd_calS yX9_isSpeed cX9_isSpeed 1 (some .boolean) 1 := ⟨⟨sd_mem (k := 403) rfl (by decide +kernel), sd_mem (k := 48) (by decide +kernel) (by decide +kernel), by decide +kernel⟩, sd_mem (k := 402) (by decide +kernel) (by decide +kernel)⟩
theorem kmX9_66 : Cond.methodLink RX9 66 yX9_isSpeed ∈ sd_big := sd_mem (k := 401) (by decide +kernel) (by decide +kernel)
theorem kfX9_10 : Cond.fieldLink RX9 10 (TX9 0).1 (TX9 0).2.1 (TX9 0).2.2.1 ∈ sd_big := sd_mem (k := 366) (by decide +kernel) (by decide +kernel)
theorem kcX9 : ∀ x ∈ u_ws RX9 TX9 8, x ∈ sd_big := sd_memL [374, 376, 378, 380, 382, 384, 386, 388] (by decide +kernel) (by decide +kernel)
theorem kfX9_69 : Cond.fieldLink RX9 69 (TX7 0).1 (TX7 0).2.1 (TX7 0).2.2.1 ∈ sd_big := sd_mem (k := 201) (by decide +kernel) (by decide +kernel)
theorem kcX7 : ∀ x ∈ u_ws RX7 TX7 4, x ∈ sd_big := sd_memL [214, 216, 218, 220] (by decide +kernel) (by decide +kernel)
theorem kfX9_73 : Cond.fieldLink RX9 73 (TX4 3).1 (TX4 3).2.1 (TX4 3).2.2.1 ∈ sd_big := sd_mem (k := 91) (by decide +kernel) (by decide +kernel)
set_option maxRecDepth 100000 in
theorem kYX4_add : sd_calV yX4_add cX4_add 3 (some .int) 2 := ⟨⟨sd_mem (k := 407) rfl (by decide +kernel), sd_mem (k := 50) (by decide +kernel) (by decide +kernel), by decide +kernel⟩, sd_mem (k := 405) (by decide +kernel) (by decide +kernel), sd_mem (k := 406) (by decide +kernel) (by decide +kernel)⟩
theorem kmX9_79 : Cond.methodLink RX9 79 yX4_add ∈ sd_big := sd_mem (k := 404) (by decide +kernel) (by decide +kernel)
theorem kfX9_22 : Cond.fieldLink RX9 22 (TX9 2).1 (TX9 2).2.1 (TX9 2).2.2.1 ∈ sd_big := sd_mem (k := 368) (by decide +kernel) (by decide +kernel)
set_option maxRecDepth 100000 in
theorem kYX0_add : sd_calV yX0_add cX0_add 4 none 3 := ⟨⟨sd_mem (k := 411) rfl (by decide +kernel), sd_mem (k := 53) (by decide +kernel) (by decide +kernel), by decide +kernel⟩, sd_mem (k := 409) (by decide +kernel) (by decide +kernel), sd_mem (k := 410) (by decide +kernel) (by decide +kernel)⟩
theorem kmX9_83 : Cond.methodLink RX9 83 yX0_add ∈ sd_big := sd_mem (k := 408) (by decide +kernel) (by decide +kernel)
theorem kfX8_15 : Cond.fieldLink RX8 15 (TX8 1).1 (TX8 1).2.1 (TX8 1).2.2.1 ∈ sd_big := sd_mem (k := 111) (by decide +kernel) (by decide +kernel)
theorem kcX8 : ∀ x ∈ u_ws RX8 TX8 5, x ∈ sd_big := sd_memL [120, 122, 124, 126, 128] (by decide +kernel) (by decide +kernel)
theorem kfX8_9 : Cond.fieldLink RX8 9 (TX8 0).1 (TX8 0).2.1 (TX8 0).2.2.1 ∈ sd_big := sd_mem (k := 109) (by decide +kernel) (by decide +kernel)
theorem kfX8_18 : Cond.fieldLink RX8 18 (TX8 2).1 (TX8 2).2.1 (TX8 2).2.2.1 ∈ sd_big := sd_mem (k := 112) (by decide +kernel) (by decide +kernel)
set_option maxRecDepth 100000 in
theorem kYX9_isMinute : sd_calS yX9_isMinute cX9_isMinute 1 (some .boolean) 1 := ⟨⟨sd_mem (k := 421) rfl (by decide +kernel), sd_mem (k := 48) (by decide +kernel) (by decide +kernel), by decide +kernel⟩, sd_mem (k := 420) (by decide +kernel) (by decide +kernel)⟩
theorem kmX9_86 : Cond.methodLink RX9 86 yX9_isMinute ∈ sd_big := sd_mem (k := 419) (by decide +kernel) (by decide +kernel)
theorem kfX9_93 : Cond.fieldLink RX9 93 (TX7 1).1 (TX7 1).2.1 (TX7 1).2.2.1 ∈ sd_big := sd_mem (k := 204) (by decide +kernel) (by decide +kernel)
set_option maxRecDepth 100000 in
theorem kYX8_rowOf : sd_calV yX8_rowOf cX8_rowOf 6 (some .int) 2 := ⟨⟨sd_mem (k := 425) rfl (by decide +kernel), sd_mem (k := 51) (by decide +kernel) (by decide +kernel), by decide +kernel⟩, sd_mem (k := 423) (by decide +kernel) (by decide +kernel), sd_mem (k := 424) (by decide +kernel) (by decide +kernel)⟩
theorem kmX9_97 : Cond.methodLink RX9 97 yX8_rowOf ∈ sd_big := sd_mem (k := 422) (by decide +kernel) (by decide +kernel)
theorem kfX9_106 : Cond.fieldLink RX9 106 (TX8 0).1 (TX8 0).2.1 (TX8 0).2.2.1 ∈ sd_big := sd_mem (k := 110) (by decide +kernel) (by decide +kernel)
set_option maxRecDepth 100000 in
theorem kYX8_add : sd_calV yX8_add cX8_add 5 none 3 := ⟨⟨sd_mem (k := 429) rfl (by decide +kernel), sd_mem (k := 51) (by decide +kernel) (by decide +kernel), by decide +kernel⟩, sd_mem (k := 427) (by decide +kernel) (by decide +kernel), sd_mem (k := 428) (by decide +kernel) (by decide +kernel)⟩
theorem kmX9_109 : Cond.methodLink RX9 109 yX8_add ∈ sd_big := sd_mem (k := 426) (by decide +kernel) (by decide +kernel)
theorem kfX9_102 : Cond.fieldLink RX9 102 (TX8 2).1 (TX8 2).2.1 (TX8 2).2.2.1 ∈ sd_big := sd_mem (k := 113) (by decide +kernel) (by decide +kernel)
set_option maxRecDepth 100000 in
theorem kYX4_has : sd_calV yX4_has cX4_has 2 (some .boolean) 1 := ⟨⟨sd_mem (k := 437) rfl (by decide +kernel), sd_mem (k := 50) (by decide +kernel) (by decide +kernel), by decide +kernel⟩, sd_mem (k := 435) (by decide +kernel) (by decide +kernel), sd_mem (k := 436) (by decide +kernel) (by decide +kernel)⟩
theorem kmX9_110 : Cond.methodLink RX9 110 yX4_has ∈ sd_big := sd_mem (k := 434) (by decide +kernel) (by decide +kernel)
theorem kfX9_113 : Cond.fieldLink RX9 113 (TX4 1).1 (TX4 1).2.1 (TX4 1).2.2.1 ∈ sd_big := sd_mem (k := 86) (by decide +kernel) (by decide +kernel)
theorem kfX9_116 : Cond.fieldLink RX9 116 (TX4 2).1 (TX4 2).2.1 (TX4 2).2.2.1 ∈ sd_big := sd_mem (k := 89) (by decide +kernel) (by decide +kernel)
theorem kfX6_24 : Cond.fieldLink RX6 24 (TX6 4).1 (TX6 4).2.1 (TX6 4).2.2.1 ∈ sd_big := sd_mem (k := 152) (by decide +kernel) (by decide +kernel)
theorem kcX6 : ∀ x ∈ u_ws RX6 TX6 11, x ∈ sd_big := sd_memL [177, 179, 181, 183, 185, 187, 189, 191, 193, 195, 197] (by decide +kernel) (by decide +kernel)
theorem kfX6_27 : Cond.fieldLink RX6 27 (TX6 5).1 (TX6 5).2.1 (TX6 5).2.2.1 ∈ sd_big := sd_mem (k := 156) (by decide +kernel) (by decide +kernel)
theorem kfX6_30 : Cond.fieldLink RX6 30 (TX6 6).1 (TX6 6).2.1 (TX6 6).2.2.1 ∈ sd_big := sd_mem (k := 160) (by decide +kernel) (by decide +kernel)
theorem kfX6_36 : Cond.fieldLink RX6 36 (TX6 8).1 (TX6 8).2.1 (TX6 8).2.2.1 ∈ sd_big := sd_mem (k := 165) (by decide +kernel) (by decide +kernel)
theorem kfX6_39 : Cond.fieldLink RX6 39 (TX6 9).1 (TX6 9).2.1 (TX6 9).2.2.1 ∈ sd_big := sd_mem (k := 168) (by decide +kernel) (by decide +kernel)
theorem kfX6_42 : Cond.fieldLink RX6 42 (TX6 10).1 (TX6 10).2.1 (TX6 10).2.2.1 ∈ sd_big := sd_mem (k := 171) (by decide +kernel) (by decide +kernel)
theorem kfX6_9 : Cond.fieldLink RX6 9 (TX6 0).1 (TX6 0).2.1 (TX6 0).2.2.1 ∈ sd_big := sd_mem (k := 137) (by decide +kernel) (by decide +kernel)
theorem kfX6_15 : Cond.fieldLink RX6 15 (TX6 1).1 (TX6 1).2.1 (TX6 1).2.2.1 ∈ sd_big := sd_mem (k := 143) (by decide +kernel) (by decide +kernel)
theorem kfX6_18 : Cond.fieldLink RX6 18 (TX6 2).1 (TX6 2).2.1 (TX6 2).2.2.1 ∈ sd_big := sd_mem (k := 146) (by decide +kernel) (by decide +kernel)
theorem kfX6_21 : Cond.fieldLink RX6 21 (TX6 3).1 (TX6 3).2.1 (TX6 3).2.2.1 ∈ sd_big := sd_mem (k := 149) (by decide +kernel) (by decide +kernel)
theorem kfX6_33 : Cond.fieldLink RX6 33 (TX6 7).1 (TX6 7).2.1 (TX6 7).2.2.1 ∈ sd_big := sd_mem (k := 163) (by decide +kernel) (by decide +kernel)
set_option maxRecDepth 100000 in
theorem kYX6_setOrigin : sd_calV yX6_setOrigin cX6_setOrigin 5 none 4 := ⟨⟨sd_mem (k := 464) rfl (by decide +kernel), sd_mem (k := 52) (by decide +kernel) (by decide +kernel), by decide +kernel⟩, sd_mem (k := 462) (by decide +kernel) (by decide +kernel), sd_mem (k := 463) (by decide +kernel) (by decide +kernel)⟩
theorem kmX6_46 : Cond.methodLink RX6 46 yX6_setOrigin ∈ sd_big := sd_mem (k := 461) (by decide +kernel) (by decide +kernel)
set_option maxRecDepth 100000 in
theorem kYX6_setSpan : sd_calV yX6_setSpan cX6_setSpan 4 none 3 := ⟨⟨sd_mem (k := 468) rfl (by decide +kernel), sd_mem (k := 52) (by decide +kernel) (by decide +kernel), by decide +kernel⟩, sd_mem (k := 466) (by decide +kernel) (by decide +kernel), sd_mem (k := 467) (by decide +kernel) (by decide +kernel)⟩
theorem kmX6_50 : Cond.methodLink RX6 50 yX6_setSpan ∈ sd_big := sd_mem (k := 465) (by decide +kernel) (by decide +kernel)
theorem kfX9_131 : Cond.fieldLink RX9 131 (TX7 2).1 (TX7 2).2.1 (TX7 2).2.2.1 ∈ sd_big := sd_mem (k := 209) (by decide +kernel) (by decide +kernel)
theorem kfX9_152 : Cond.fieldLink RX9 152 (TX6 10).1 (TX6 10).2.1 (TX6 10).2.2.1 ∈ sd_big := sd_mem (k := 176) (by decide +kernel) (by decide +kernel)
set_option maxRecDepth 100000 in
theorem kYX6_add : sd_calV yX6_add cX6_add 5 (some .int) 4 := ⟨⟨sd_mem (k := 460) rfl (by decide +kernel), sd_mem (k := 52) (by decide +kernel) (by decide +kernel), by decide +kernel⟩, sd_mem (k := 458) (by decide +kernel) (by decide +kernel), sd_mem (k := 459) (by decide +kernel) (by decide +kernel)⟩
theorem kmX9_303 : Cond.methodLink RX9 303 yX6_add ∈ sd_big := sd_mem (k := 457) (by decide +kernel) (by decide +kernel)
set_option maxRecDepth 100000 in
theorem kYX9_isPlace : sd_calS yX9_isPlace cX9_isPlace 2 (some .boolean) 2 := ⟨⟨sd_mem (k := 452) rfl (by decide +kernel), sd_mem (k := 48) (by decide +kernel) (by decide +kernel), by decide +kernel⟩, sd_mem (k := 451) (by decide +kernel) (by decide +kernel)⟩
theorem kmX9_127 : Cond.methodLink RX9 127 yX9_isPlace ∈ sd_big := sd_mem (k := 450) (by decide +kernel) (by decide +kernel)
set_option maxRecDepth 100000 in
theorem kYX9_addSounding : sd_calV yX9_addSounding cX9_addSounding 6 (some .int) 4 := ⟨⟨sd_mem (k := 456) rfl (by decide +kernel), sd_mem (k := 48) (by decide +kernel) (by decide +kernel), by decide +kernel⟩, sd_mem (k := 455) (by decide +kernel) (by decide +kernel), sd_mem (k := 1) (by decide +kernel) (by decide +kernel)⟩
theorem kmX9_140 : Cond.methodLink RX9 140 yX9_addSounding ∈ sd_big := sd_mem (k := 453) (by decide +kernel) (by decide +kernel)
theorem kfX9_185 : Cond.fieldLink RX9 185 (TX4 0).1 (TX4 0).2.1 (TX4 0).2.2.1 ∈ sd_big := sd_mem (k := 83) (by decide +kernel) (by decide +kernel)
theorem kmX9_144 : Cond.methodLink RX9 144 yX6_setOrigin ∈ sd_big := sd_mem (k := 469) (by decide +kernel) (by decide +kernel)
set_option maxRecDepth 100000 in
theorem kYX9_addOfLine : sd_calV yX9_addOfLine cX9_addOfLine 8 (some .int) 6 := ⟨⟨sd_mem (k := 449) rfl (by decide +kernel), sd_mem (k := 48) (by decide +kernel) (by decide +kernel), by decide +kernel⟩, sd_mem (k := 448) (by decide +kernel) (by decide +kernel), sd_mem (k := 0) (by decide +kernel) (by decide +kernel)⟩
theorem kmX9_119 : Cond.methodLink RX9 119 yX9_addOfLine ∈ sd_big := sd_mem (k := 446) (by decide +kernel) (by decide +kernel)
theorem kkX9_312 : Cond.constant RX9 312 8388607 ∈ sd_big := sd_mem (k := 477) (by decide +kernel) (by decide +kernel)
theorem kkX9_313 : Cond.constant RX9 313 8388608 ∈ sd_big := sd_mem (k := 478) (by decide +kernel) (by decide +kernel)
set_option maxRecDepth 100000 in
theorem kYX9_cutFloat : sd_calS yX9_cutFloat cX9_cutFloat 3 (some .int) 1 := ⟨⟨sd_mem (k := 476) rfl (by decide +kernel), sd_mem (k := 48) (by decide +kernel) (by decide +kernel), by decide +kernel⟩, sd_mem (k := 475) (by decide +kernel) (by decide +kernel)⟩
theorem kmX9_123 : Cond.methodLink RX9 123 yX9_cutFloat ∈ sd_big := sd_mem (k := 474) (by decide +kernel) (by decide +kernel)
theorem kmX9_135 : Cond.methodLink RX9 135 yX6_setSpan ∈ sd_big := sd_mem (k := 483) (by decide +kernel) (by decide +kernel)
set_option maxRecDepth 100000 in
theorem kYX6_has : sd_calV yX6_has cX6_has 2 (some .boolean) 1 := ⟨⟨sd_mem (k := 495) rfl (by decide +kernel), sd_mem (k := 52) (by decide +kernel) (by decide +kernel), by decide +kernel⟩, sd_mem (k := 493) (by decide +kernel) (by decide +kernel), sd_mem (k := 494) (by decide +kernel) (by decide +kernel)⟩
theorem kmX9_148 : Cond.methodLink RX9 148 yX6_has ∈ sd_big := sd_mem (k := 492) (by decide +kernel) (by decide +kernel)
theorem kfX9_149 : Cond.fieldLink RX9 149 (TX6 7).1 (TX6 7).2.1 (TX6 7).2.2.1 ∈ sd_big := sd_mem (k := 164) (by decide +kernel) (by decide +kernel)
set_option maxRecDepth 100000 in
theorem kYJ9_max_7cf53 : sd_calS yJ9_max_7cf53 cJ9_max_7cf53 2 (some .int) 2 := ⟨⟨sd_mem (k := 515) rfl (by decide +kernel), sd_mem (k := 59) (by decide +kernel) (by decide +kernel), by decide +kernel⟩, sd_mem (k := 514) (by decide +kernel) (by decide +kernel)⟩
theorem kmX8_28 : Cond.methodLink RX8 28 yJ9_max_7cf53 ∈ sd_big := sd_mem (k := 513) (by decide +kernel) (by decide +kernel)
theorem kfX8_25 : Cond.fieldLink RX8 25 (TX8 4).1 (TX8 4).2.1 (TX8 4).2.2.1 ∈ sd_big := sd_mem (k := 117) (by decide +kernel) (by decide +kernel)
theorem kfX8_21 : Cond.fieldLink RX8 21 (TX8 3).1 (TX8 3).2.1 (TX8 3).2.2.1 ∈ sd_big := sd_mem (k := 114) (by decide +kernel) (by decide +kernel)
set_option maxRecDepth 100000 in
theorem kYJ9_floorDiv_f86c9 : sd_calS yJ9_floorDiv_f86c9 cJ9_floorDiv_f86c9 6 (some .long) 2 := ⟨⟨sd_mem (k := 522) rfl (by decide +kernel), sd_mem (k := 59) (by decide +kernel) (by decide +kernel), by decide +kernel⟩, sd_mem (k := 521) (by decide +kernel) (by decide +kernel)⟩
theorem kmX9_307 : Cond.methodLink RX9 307 yJ9_floorDiv_f86c9 ∈ sd_big := sd_mem (k := 520) (by decide +kernel) (by decide +kernel)
theorem kfX7_28 : Cond.fieldLink RX7 28 (TX7 2).1 (TX7 2).2.1 (TX7 2).2.2.1 ∈ sd_big := sd_mem (k := 205) (by decide +kernel) (by decide +kernel)
theorem kfX7_42 : Cond.fieldLink RX7 42 (TX6 3).1 (TX6 3).2.1 (TX6 3).2.2.1 ∈ sd_big := sd_mem (k := 150) (by decide +kernel) (by decide +kernel)
theorem kfX7_12 : Cond.fieldLink RX7 12 (TX7 0).1 (TX7 0).2.1 (TX7 0).2.2.1 ∈ sd_big := sd_mem (k := 200) (by decide +kernel) (by decide +kernel)
theorem kfX7_63 : Cond.fieldLink RX7 63 (TX4 2).1 (TX4 2).2.1 (TX4 2).2.2.1 ∈ sd_big := sd_mem (k := 88) (by decide +kernel) (by decide +kernel)
theorem kkX7_61 : Cond.constantLong RX7 61 2000 ∈ sd_big := sd_mem (k := 516) (by decide +kernel) (by decide +kernel)
theorem kfX7_21 : Cond.fieldLink RX7 21 (TX7 1).1 (TX7 1).2.1 (TX7 1).2.2.1 ∈ sd_big := sd_mem (k := 203) (by decide +kernel) (by decide +kernel)
theorem kfX7_66 : Cond.fieldLink RX7 66 (TX8 4).1 (TX8 4).2.1 (TX8 4).2.2.1 ∈ sd_big := sd_mem (k := 118) (by decide +kernel) (by decide +kernel)
theorem kfX7_70 : Cond.fieldLink RX7 70 (TX8 3).1 (TX8 3).2.1 (TX8 3).2.2.1 ∈ sd_big := sd_mem (k := 115) (by decide +kernel) (by decide +kernel)
set_option maxRecDepth 100000 in
theorem kYX9_floorOf : sd_calS yX9_floorOf cX9_floorOf 4 (some .long) 2 := ⟨⟨sd_mem (k := 519) rfl (by decide +kernel), sd_mem (k := 48) (by decide +kernel) (by decide +kernel), by decide +kernel⟩, sd_mem (k := 518) (by decide +kernel) (by decide +kernel)⟩
theorem knX7_73 : Cond.methodLinkNest RX7 73 yX9_floorOf "SoundingSheet" ∈ sd_nw := by simp [sd_nw]
theorem kfX7_36 : Cond.fieldLink RX7 36 (TX6 5).1 (TX6 5).2.1 (TX6 5).2.2.1 ∈ sd_big := sd_mem (k := 157) (by decide +kernel) (by decide +kernel)
theorem kmX7_38 : Cond.methodLink RX7 38 yX4_has ∈ sd_big := sd_mem (k := 508) (by decide +kernel) (by decide +kernel)
theorem kfX7_45 : Cond.fieldLink RX7 45 (TX6 4).1 (TX6 4).2.1 (TX6 4).2.2.1 ∈ sd_big := sd_mem (k := 153) (by decide +kernel) (by decide +kernel)
theorem kfX7_48 : Cond.fieldLink RX7 48 (TX6 6).1 (TX6 6).2.1 (TX6 6).2.2.1 ∈ sd_big := sd_mem (k := 161) (by decide +kernel) (by decide +kernel)
set_option maxRecDepth 100000 in
theorem kYX8_seek : sd_calV yX8_seek cX8_seek 9 (some .boolean) 2 := ⟨⟨sd_mem (k := 512) rfl (by decide +kernel), sd_mem (k := 51) (by decide +kernel) (by decide +kernel), by decide +kernel⟩, sd_mem (k := 510) (by decide +kernel) (by decide +kernel), sd_mem (k := 511) (by decide +kernel) (by decide +kernel)⟩
theorem kmX7_51 : Cond.methodLink RX7 51 yX8_seek ∈ sd_big := sd_mem (k := 509) (by decide +kernel) (by decide +kernel)
theorem kfX7_55 : Cond.fieldLink RX7 55 (TX6 0).1 (TX6 0).2.1 (TX6 0).2.2.1 ∈ sd_big := sd_mem (k := 138) (by decide +kernel) (by decide +kernel)
theorem kfX7_58 : Cond.fieldLink RX7 58 (TX4 1).1 (TX4 1).2.1 (TX4 1).2.2.1 ∈ sd_big := sd_mem (k := 85) (by decide +kernel) (by decide +kernel)
theorem kfX7_77 : Cond.fieldLink RX7 77 (TX6 10).1 (TX6 10).2.1 (TX6 10).2.2.1 ∈ sd_big := sd_mem (k := 174) (by decide +kernel) (by decide +kernel)
set_option maxRecDepth 100000 in
theorem kYX7_corrected : sd_calV yX7_corrected cX7_corrected 7 (some .int) 1 := ⟨⟨sd_mem (k := 507) rfl (by decide +kernel), sd_mem (k := 49) (by decide +kernel) (by decide +kernel), by decide +kernel⟩, sd_mem (k := 505) (by decide +kernel) (by decide +kernel), sd_mem (k := 506) (by decide +kernel) (by decide +kernel)⟩
theorem kmX7_81 : Cond.methodLink RX7 81 yX7_corrected ∈ sd_big := sd_mem (k := 504) (by decide +kernel) (by decide +kernel)
set_option maxRecDepth 100000 in
theorem kYX7_waiting : sd_calV yX7_waiting cX7_waiting 3 (some .int) 0 := ⟨⟨sd_mem (k := 503) rfl (by decide +kernel), sd_mem (k := 49) (by decide +kernel) (by decide +kernel), by decide +kernel⟩, sd_mem (k := 501) (by decide +kernel) (by decide +kernel), sd_mem (k := 502) (by decide +kernel) (by decide +kernel)⟩
theorem kmX9_153 : Cond.methodLink RX9 153 yX7_waiting ∈ sd_big := sd_mem (k := 500) (by decide +kernel) (by decide +kernel)
theorem kfX9_157 : Cond.fieldLink RX9 157 (TX0 4).1 (TX0 4).2.1 (TX0 4).2.2.1 ∈ sd_big := sd_mem (k := 234) (by decide +kernel) (by decide +kernel)
theorem kfX9_158 : Cond.fieldLink RX9 158 (TX6 0).1 (TX6 0).2.1 (TX6 0).2.2.1 ∈ sd_big := sd_mem (k := 142) (by decide +kernel) (by decide +kernel)
theorem kfX9_161 : Cond.fieldLink RX9 161 (TX6 1).1 (TX6 1).2.1 (TX6 1).2.2.1 ∈ sd_big := sd_mem (k := 145) (by decide +kernel) (by decide +kernel)
theorem kfX9_164 : Cond.fieldLink RX9 164 (TX6 2).1 (TX6 2).2.1 (TX6 2).2.2.1 ∈ sd_big := sd_mem (k := 148) (by decide +kernel) (by decide +kernel)
theorem kfX9_167 : Cond.fieldLink RX9 167 (TX6 3).1 (TX6 3).2.1 (TX6 3).2.2.1 ∈ sd_big := sd_mem (k := 151) (by decide +kernel) (by decide +kernel)
theorem kfX9_170 : Cond.fieldLink RX9 170 (TX6 4).1 (TX6 4).2.1 (TX6 4).2.2.1 ∈ sd_big := sd_mem (k := 155) (by decide +kernel) (by decide +kernel)
theorem kfX9_173 : Cond.fieldLink RX9 173 (TX6 5).1 (TX6 5).2.1 (TX6 5).2.2.1 ∈ sd_big := sd_mem (k := 159) (by decide +kernel) (by decide +kernel)
theorem kfX9_175 : Cond.fieldLink RX9 175 (TX6 6).1 (TX6 6).2.1 (TX6 6).2.2.1 ∈ sd_big := sd_mem (k := 162) (by decide +kernel) (by decide +kernel)
theorem kfX9_178 : Cond.fieldLink RX9 178 (TX6 8).1 (TX6 8).2.1 (TX6 8).2.2.1 ∈ sd_big := sd_mem (k := 167) (by decide +kernel) (by decide +kernel)
theorem kfX9_181 : Cond.fieldLink RX9 181 (TX6 9).1 (TX6 9).2.1 (TX6 9).2.2.1 ∈ sd_big := sd_mem (k := 170) (by decide +kernel) (by decide +kernel)
theorem kmX9_182 : Cond.methodLink RX9 182 yX7_corrected ∈ sd_big := sd_mem (k := 527) (by decide +kernel) (by decide +kernel)
set_option maxRecDepth 100000 in
theorem kYX6_ofLine : sd_calV yX6_ofLine cX6_ofLine 4 (some .int) 1 := ⟨⟨sd_mem (k := 539) rfl (by decide +kernel), sd_mem (k := 52) (by decide +kernel) (by decide +kernel), by decide +kernel⟩, sd_mem (k := 537) (by decide +kernel) (by decide +kernel), sd_mem (k := 538) (by decide +kernel) (by decide +kernel)⟩
theorem kmX9_186 : Cond.methodLink RX9 186 yX6_ofLine ∈ sd_big := sd_mem (k := 536) (by decide +kernel) (by decide +kernel)
theorem kmX9_189 : Cond.methodLink RX9 189 yX8_seek ∈ sd_big := sd_mem (k := 544) (by decide +kernel) (by decide +kernel)
theorem kfX9_192 : Cond.fieldLink RX9 192 (TX8 3).1 (TX8 3).2.1 (TX8 3).2.2.1 ∈ sd_big := sd_mem (k := 116) (by decide +kernel) (by decide +kernel)
theorem kfX9_196 : Cond.fieldLink RX9 196 (TX8 4).1 (TX8 4).2.1 (TX8 4).2.2.1 ∈ sd_big := sd_mem (k := 119) (by decide +kernel) (by decide +kernel)
theorem kmX9_199 : Cond.methodLink RX9 199 yX9_floorOf ∈ sd_big := sd_mem (k := 545) (by decide +kernel) (by decide +kernel)
theorem kfX7_32 : Cond.fieldLink RX7 32 (TX7 3).1 (TX7 3).2.1 (TX7 3).2.2.1 ∈ sd_big := sd_mem (k := 210) (by decide +kernel) (by decide +kernel)
theorem kfX3_31 : Cond.fieldLink RX3 31 (TX3 0).1 (TX3 0).2.1 (TX3 0).2.2.1 ∈ sd_big := sd_mem (k := 264) (by decide +kernel) (by decide +kernel)
theorem kcX3 : ∀ x ∈ u_ws RX3 TX3 7, x ∈ sd_big := sd_memL [274, 276, 278, 280, 282, 284, 286] (by decide +kernel) (by decide +kernel)
theorem kfX3_40 : Cond.fieldLink RX3 40 (TX7 2).1 (TX7 2).2.1 (TX7 2).2.2.1 ∈ sd_big := sd_mem (k := 206) (by decide +kernel) (by decide +kernel)
theorem kfX3_56 : Cond.fieldLink RX3 56 (TX6 0).1 (TX6 0).2.1 (TX6 0).2.2.1 ∈ sd_big := sd_mem (k := 139) (by decide +kernel) (by decide +kernel)
theorem kfX3_59 : Cond.fieldLink RX3 59 (TX7 3).1 (TX7 3).2.1 (TX7 3).2.2.1 ∈ sd_big := sd_mem (k := 211) (by decide +kernel) (by decide +kernel)
theorem kfX3_15 : Cond.fieldLink RX3 15 (TX3 2).1 (TX3 2).2.1 (TX3 2).2.2.1 ∈ sd_big := sd_mem (k := 266) (by decide +kernel) (by decide +kernel)
theorem kfX3_44 : Cond.fieldLink RX3 44 (TX6 10).1 (TX6 10).2.1 (TX6 10).2.2.1 ∈ sd_big := sd_mem (k := 172) (by decide +kernel) (by decide +kernel)
theorem kfX3_49 : Cond.fieldLink RX3 49 (TX6 5).1 (TX6 5).2.1 (TX6 5).2.2.1 ∈ sd_big := sd_mem (k := 158) (by decide +kernel) (by decide +kernel)
set_option maxRecDepth 100000 in
theorem kYX3_canCross : sd_calV yX3_canCross cX3_canCross 2 (some .boolean) 1 := ⟨⟨sd_mem (k := 564) rfl (by decide +kernel), sd_mem (k := 54) (by decide +kernel) (by decide +kernel), by decide +kernel⟩, sd_mem (k := 563) (by decide +kernel) (by decide +kernel), sd_mem (k := 2) (by decide +kernel) (by decide +kernel)⟩
theorem kmX3_52 : Cond.methodLink RX3 52 yX3_canCross ∈ sd_big := sd_mem (k := 561) (by decide +kernel) (by decide +kernel)
theorem kfX3_9 : Cond.fieldLink RX3 9 (TX3 1).1 (TX3 1).2.1 (TX3 1).2.2.1 ∈ sd_big := sd_mem (k := 265) (by decide +kernel) (by decide +kernel)
set_option maxRecDepth 100000 in
theorem kYX7_measure : sd_calV yX7_measure cX7_measure 2 none 0 := ⟨⟨sd_mem (k := 560) rfl (by decide +kernel), sd_mem (k := 49) (by decide +kernel) (by decide +kernel), by decide +kernel⟩, sd_mem (k := 558) (by decide +kernel) (by decide +kernel), sd_mem (k := 559) (by decide +kernel) (by decide +kernel)⟩
theorem kmX3_35 : Cond.methodLink RX3 35 yX7_measure ∈ sd_big := sd_mem (k := 557) (by decide +kernel) (by decide +kernel)
theorem kfX3_21 : Cond.fieldLink RX3 21 (TX3 4).1 (TX3 4).2.1 (TX3 4).2.2.1 ∈ sd_big := sd_mem (k := 268) (by decide +kernel) (by decide +kernel)
set_option maxRecDepth 100000 in
theorem kYX6_apart : sd_calV yX6_apart cX6_apart 5 (some .int) 2 := ⟨⟨sd_mem (k := 572) rfl (by decide +kernel), sd_mem (k := 52) (by decide +kernel) (by decide +kernel), by decide +kernel⟩, sd_mem (k := 570) (by decide +kernel) (by decide +kernel), sd_mem (k := 571) (by decide +kernel) (by decide +kernel)⟩
theorem kmX3_62 : Cond.methodLink RX3 62 yX6_apart ∈ sd_big := sd_mem (k := 569) (by decide +kernel) (by decide +kernel)
theorem kfX3_28 : Cond.fieldLink RX3 28 (TX3 6).1 (TX3 6).2.1 (TX3 6).2.2.1 ∈ sd_big := sd_mem (k := 272) (by decide +kernel) (by decide +kernel)
theorem kfX3_25 : Cond.fieldLink RX3 25 (TX3 5).1 (TX3 5).2.1 (TX3 5).2.2.1 ∈ sd_big := sd_mem (k := 270) (by decide +kernel) (by decide +kernel)
set_option maxRecDepth 100000 in
theorem kYX9_isReach : sd_calS yX9_isReach cX9_isReach 1 (some .boolean) 1 := ⟨⟨sd_mem (k := 552) rfl (by decide +kernel), sd_mem (k := 48) (by decide +kernel) (by decide +kernel), by decide +kernel⟩, sd_mem (k := 551) (by decide +kernel) (by decide +kernel)⟩
theorem kmX9_203 : Cond.methodLink RX9 203 yX9_isReach ∈ sd_big := sd_mem (k := 550) (by decide +kernel) (by decide +kernel)
theorem kfX9_31 : Cond.fieldLink RX9 31 (TX9 3).1 (TX9 3).2.1 (TX9 3).2.2.1 ∈ sd_big := sd_mem (k := 369) (by decide +kernel) (by decide +kernel)
set_option maxRecDepth 100000 in
theorem kYX3_gather : sd_calV yX3_gather cX3_gather 4 none 0 := ⟨⟨sd_mem (k := 556) rfl (by decide +kernel), sd_mem (k := 54) (by decide +kernel) (by decide +kernel), by decide +kernel⟩, sd_mem (k := 554) (by decide +kernel) (by decide +kernel), sd_mem (k := 555) (by decide +kernel) (by decide +kernel)⟩
theorem kmX9_206 : Cond.methodLink RX9 206 yX3_gather ∈ sd_big := sd_mem (k := 553) (by decide +kernel) (by decide +kernel)
set_option maxRecDepth 100000 in
theorem kYX3_find : sd_calV yX3_find cX3_find 7 (some .boolean) 3 := ⟨⟨sd_mem (k := 568) rfl (by decide +kernel), sd_mem (k := 54) (by decide +kernel) (by decide +kernel), by decide +kernel⟩, sd_mem (k := 566) (by decide +kernel) (by decide +kernel), sd_mem (k := 567) (by decide +kernel) (by decide +kernel)⟩
theorem kmX9_209 : Cond.methodLink RX9 209 yX3_find ∈ sd_big := sd_mem (k := 565) (by decide +kernel) (by decide +kernel)
theorem kfX9_212 : Cond.fieldLink RX9 212 (TX3 6).1 (TX3 6).2.1 (TX3 6).2.2.1 ∈ sd_big := sd_mem (k := 273) (by decide +kernel) (by decide +kernel)
theorem kfX9_215 : Cond.fieldLink RX9 215 (TX3 4).1 (TX3 4).2.1 (TX3 4).2.2.1 ∈ sd_big := sd_mem (k := 269) (by decide +kernel) (by decide +kernel)
theorem kfX9_218 : Cond.fieldLink RX9 218 (TX3 5).1 (TX3 5).2.1 (TX3 5).2.2.1 ∈ sd_big := sd_mem (k := 271) (by decide +kernel) (by decide +kernel)
set_option maxRecDepth 100000 in
theorem kYX3_miss : sd_calV yX3_miss cX3_miss 1 (some .int) 0 := ⟨⟨sd_mem (k := 576) rfl (by decide +kernel), sd_mem (k := 54) (by decide +kernel) (by decide +kernel), by decide +kernel⟩, sd_mem (k := 574) (by decide +kernel) (by decide +kernel), sd_mem (k := 575) (by decide +kernel) (by decide +kernel)⟩
theorem kmX9_221 : Cond.methodLink RX9 221 yX3_miss ∈ sd_big := sd_mem (k := 573) (by decide +kernel) (by decide +kernel)
theorem kfX3_18 : Cond.fieldLink RX3 18 (TX3 3).1 (TX3 3).2.1 (TX3 3).2.2.1 ∈ sd_big := sd_mem (k := 267) (by decide +kernel) (by decide +kernel)
theorem kmX3_85 : Cond.methodLink RX3 85 yJ9_max_7cf53 ∈ sd_big := sd_mem (k := 593) (by decide +kernel) (by decide +kernel)
theorem kmX3_90 : Cond.methodLink RX3 90 yX3_miss ∈ sd_big := sd_mem (k := 594) (by decide +kernel) (by decide +kernel)
set_option maxRecDepth 100000 in
theorem kYJ9_abs_0f7a4 : sd_calS yJ9_abs_0f7a4 cJ9_abs_0f7a4 1 (some .int) 1 := ⟨⟨sd_mem (k := 597) rfl (by decide +kernel), sd_mem (k := 59) (by decide +kernel) (by decide +kernel), by decide +kernel⟩, sd_mem (k := 596) (by decide +kernel) (by decide +kernel)⟩
theorem kmX3_94 : Cond.methodLink RX3 94 yJ9_abs_0f7a4 ∈ sd_big := sd_mem (k := 595) (by decide +kernel) (by decide +kernel)
theorem kfX3_71 : Cond.fieldLink RX3 71 (TX7 0).1 (TX7 0).2.1 (TX7 0).2.2.1 ∈ sd_big := sd_mem (k := 202) (by decide +kernel) (by decide +kernel)
theorem kfX3_74 : Cond.fieldLink RX3 74 (TX4 3).1 (TX4 3).2.1 (TX4 3).2.2.1 ∈ sd_big := sd_mem (k := 92) (by decide +kernel) (by decide +kernel)
theorem kmX3_77 : Cond.methodLink RX3 77 yX3_find ∈ sd_big := sd_mem (k := 588) (by decide +kernel) (by decide +kernel)
set_option maxRecDepth 100000 in
theorem kYX3_addMiss : sd_calV yX3_addMiss cX3_addMiss 2 none 1 := ⟨⟨sd_mem (k := 592) rfl (by decide +kernel), sd_mem (k := 54) (by decide +kernel) (by decide +kernel), by decide +kernel⟩, sd_mem (k := 591) (by decide +kernel) (by decide +kernel), sd_mem (k := 3) (by decide +kernel) (by decide +kernel)⟩
theorem kmX3_81 : Cond.methodLink RX3 81 yX3_addMiss ∈ sd_big := sd_mem (k := 589) (by decide +kernel) (by decide +kernel)
set_option maxRecDepth 100000 in
theorem kYJ7_fill_53178 : sd_calS yJ7_fill_53178 cJ7_fill_53178 4 none 2 := ⟨⟨sd_mem (k := 587) rfl (by decide +kernel), sd_mem (k := 60) (by decide +kernel) (by decide +kernel), by decide +kernel⟩, sd_mem (k := 586) (by decide +kernel) (by decide +kernel)⟩
theorem kmX3_65 : Cond.methodLink RX3 65 yJ7_fill_53178 ∈ sd_big := sd_mem (k := 585) (by decide +kernel) (by decide +kernel)
set_option maxRecDepth 100000 in
theorem kYX3_addMisses : sd_calV yX3_addMisses cX3_addMisses 4 none 1 := ⟨⟨sd_mem (k := 584) rfl (by decide +kernel), sd_mem (k := 54) (by decide +kernel) (by decide +kernel), by decide +kernel⟩, sd_mem (k := 582) (by decide +kernel) (by decide +kernel), sd_mem (k := 583) (by decide +kernel) (by decide +kernel)⟩
theorem kmX9_224 : Cond.methodLink RX9 224 yX3_addMisses ∈ sd_big := sd_mem (k := 581) (by decide +kernel) (by decide +kernel)
set_option maxRecDepth 100000 in
theorem kYX3_lineThatMissesMost : sd_calV yX3_lineThatMissesMost cX3_lineThatMissesMost 4 (some .int) 0 := ⟨⟨sd_mem (k := 601) rfl (by decide +kernel), sd_mem (k := 54) (by decide +kernel) (by decide +kernel), by decide +kernel⟩, sd_mem (k := 599) (by decide +kernel) (by decide +kernel), sd_mem (k := 600) (by decide +kernel) (by decide +kernel)⟩
theorem kmX9_228 : Cond.methodLink RX9 228 yX3_lineThatMissesMost ∈ sd_big := sd_mem (k := 598) (by decide +kernel) (by decide +kernel)
set_option maxRecDepth 100000 in
theorem kYX6_isThere : sd_calV yX6_isThere cX6_isThere 3 (some .boolean) 2 := ⟨⟨sd_mem (k := 632) rfl (by decide +kernel), sd_mem (k := 52) (by decide +kernel) (by decide +kernel), by decide +kernel⟩, sd_mem (k := 630) (by decide +kernel) (by decide +kernel), sd_mem (k := 631) (by decide +kernel) (by decide +kernel)⟩
theorem kmX7_85 : Cond.methodLink RX7 85 yX6_isThere ∈ sd_big := sd_mem (k := 629) (by decide +kernel) (by decide +kernel)
theorem kfX5_28 : Cond.fieldLink RX5 28 (TX5 0).1 (TX5 0).2.1 (TX5 0).2.2.1 ∈ sd_big := sd_mem (k := 295) (by decide +kernel) (by decide +kernel)
theorem kcX5 : ∀ x ∈ u_ws RX5 TX5 6, x ∈ sd_big := sd_memL [304, 306, 308, 310, 312, 314] (by decide +kernel) (by decide +kernel)
set_option maxRecDepth 100000 in
theorem kYX7_counts : sd_calV yX7_counts cX7_counts 3 (some .boolean) 2 := ⟨⟨sd_mem (k := 628) rfl (by decide +kernel), sd_mem (k := 49) (by decide +kernel) (by decide +kernel), by decide +kernel⟩, sd_mem (k := 626) (by decide +kernel) (by decide +kernel), sd_mem (k := 627) (by decide +kernel) (by decide +kernel)⟩
theorem kmX5_67 : Cond.methodLink RX5 67 yX7_counts ∈ sd_big := sd_mem (k := 625) (by decide +kernel) (by decide +kernel)
theorem kfX5_9 : Cond.fieldLink RX5 9 (TX5 1).1 (TX5 1).2.1 (TX5 1).2.2.1 ∈ sd_big := sd_mem (k := 296) (by decide +kernel) (by decide +kernel)
theorem kfX5_15 : Cond.fieldLink RX5 15 (TX5 2).1 (TX5 2).2.1 (TX5 2).2.2.1 ∈ sd_big := sd_mem (k := 297) (by decide +kernel) (by decide +kernel)
theorem kfX5_25 : Cond.fieldLink RX5 25 (TX5 5).1 (TX5 5).2.1 (TX5 5).2.2.1 ∈ sd_big := sd_mem (k := 302) (by decide +kernel) (by decide +kernel)
theorem kfX5_55 : Cond.fieldLink RX5 55 (TX6 10).1 (TX6 10).2.1 (TX6 10).2.2.1 ∈ sd_big := sd_mem (k := 175) (by decide +kernel) (by decide +kernel)
theorem kfX5_60 : Cond.fieldLink RX5 60 (TX6 0).1 (TX6 0).2.1 (TX6 0).2.2.1 ∈ sd_big := sd_mem (k := 140) (by decide +kernel) (by decide +kernel)
set_option maxRecDepth 100000 in
theorem kYX6_squareOf : sd_calV yX6_squareOf cX6_squareOf 2 (some .int) 1 := ⟨⟨sd_mem (k := 624) rfl (by decide +kernel), sd_mem (k := 52) (by decide +kernel) (by decide +kernel), by decide +kernel⟩, sd_mem (k := 622) (by decide +kernel) (by decide +kernel), sd_mem (k := 623) (by decide +kernel) (by decide +kernel)⟩
theorem kmX5_63 : Cond.methodLink RX5 63 yX6_squareOf ∈ sd_big := sd_mem (k := 621) (by decide +kernel) (by decide +kernel)
theorem kfX5_51 : Cond.fieldLink RX5 51 (TX7 2).1 (TX7 2).2.1 (TX7 2).2.2.1 ∈ sd_big := sd_mem (k := 208) (by decide +kernel) (by decide +kernel)
set_option maxRecDepth 100000 in
theorem kYX6_spanHas : sd_calV yX6_spanHas cX6_spanHas 5 (some .boolean) 2 := ⟨⟨sd_mem (k := 644) rfl (by decide +kernel), sd_mem (k := 52) (by decide +kernel) (by decide +kernel), by decide +kernel⟩, sd_mem (k := 642) (by decide +kernel) (by decide +kernel), sd_mem (k := 643) (by decide +kernel) (by decide +kernel)⟩
theorem kmX5_80 : Cond.methodLink RX5 80 yX6_spanHas ∈ sd_big := sd_mem (k := 641) (by decide +kernel) (by decide +kernel)
theorem kfX5_83 : Cond.fieldLink RX5 83 (TX7 3).1 (TX7 3).2.1 (TX7 3).2.2.1 ∈ sd_big := sd_mem (k := 213) (by decide +kernel) (by decide +kernel)
theorem kfX5_77 : Cond.fieldLink RX5 77 (TX6 4).1 (TX6 4).2.1 (TX6 4).2.2.1 ∈ sd_big := sd_mem (k := 154) (by decide +kernel) (by decide +kernel)
theorem kfX5_22 : Cond.fieldLink RX5 22 (TX5 4).1 (TX5 4).2.1 (TX5 4).2.2.1 ∈ sd_big := sd_mem (k := 300) (by decide +kernel) (by decide +kernel)
theorem kfX5_19 : Cond.fieldLink RX5 19 (TX5 3).1 (TX5 3).2.1 (TX5 3).2.2.1 ∈ sd_big := sd_mem (k := 298) (by decide +kernel) (by decide +kernel)
set_option maxRecDepth 100000 in
theorem kYX5_add : sd_calV yX5_add cX5_add 3 none 2 := ⟨⟨sd_mem (k := 648) rfl (by decide +kernel), sd_mem (k := 55) (by decide +kernel) (by decide +kernel), by decide +kernel⟩, sd_mem (k := 647) (by decide +kernel) (by decide +kernel), sd_mem (k := 7) (by decide +kernel) (by decide +kernel)⟩
theorem kmX5_74 : Cond.methodLink RX5 74 yX5_add ∈ sd_big := sd_mem (k := 645) (by decide +kernel) (by decide +kernel)
set_option maxRecDepth 100000 in
theorem kYX5_standsInSwept : sd_calV yX5_standsInSwept cX5_standsInSwept 6 (some .boolean) 2 := ⟨⟨sd_mem (k := 640) rfl (by decide +kernel), sd_mem (k := 55) (by decide +kernel) (by decide +kernel), by decide +kernel⟩, sd_mem (k := 639) (by decide +kernel) (by decide +kernel), sd_mem (k := 6) (by decide +kernel) (by decide +kernel)⟩
theorem kmX5_71 : Cond.methodLink RX5 71 yX5_standsInSwept ∈ sd_big := sd_mem (k := 637) (by decide +kernel) (by decide +kernel)
theorem kmX5_90 : Cond.methodLink RX5 90 yX6_apart ∈ sd_big := sd_mem (k := 662) (by decide +kernel) (by decide +kernel)
theorem kmX5_94 : Cond.methodLink RX5 94 yJ9_min_7cf53 ∈ sd_big := sd_mem (k := 663) (by decide +kernel) (by decide +kernel)
theorem kkX5_89 : Cond.constant RX5 89 1000000 ∈ sd_big := sd_mem (k := 661) (by decide +kernel) (by decide +kernel)
set_option maxRecDepth 100000 in
theorem kYX5_distanceToShown : sd_calV yX5_distanceToShown cX5_distanceToShown 4 (some .int) 1 := ⟨⟨sd_mem (k := 660) rfl (by decide +kernel), sd_mem (k := 55) (by decide +kernel) (by decide +kernel), by decide +kernel⟩, sd_mem (k := 659) (by decide +kernel) (by decide +kernel), sd_mem (k := 10) (by decide +kernel) (by decide +kernel)⟩
theorem kmX5_86 : Cond.methodLink RX5 86 yX5_distanceToShown ∈ sd_big := sd_mem (k := 657) (by decide +kernel) (by decide +kernel)
set_option maxRecDepth 100000 in
theorem kYX5_showFarthest : sd_calV yX5_showFarthest cX5_showFarthest 6 none 0 := ⟨⟨sd_mem (k := 656) rfl (by decide +kernel), sd_mem (k := 55) (by decide +kernel) (by decide +kernel), by decide +kernel⟩, sd_mem (k := 655) (by decide +kernel) (by decide +kernel), sd_mem (k := 9) (by decide +kernel) (by decide +kernel)⟩
theorem kmX5_48 : Cond.methodLink RX5 48 yX5_showFarthest ∈ sd_big := sd_mem (k := 653) (by decide +kernel) (by decide +kernel)
theorem kmX5_32 : Cond.methodLink RX5 32 yX7_measure ∈ sd_big := sd_mem (k := 616) (by decide +kernel) (by decide +kernel)
set_option maxRecDepth 100000 in
theorem kYX5_findAll : sd_calV yX5_findAll cX5_findAll 6 none 2 := ⟨⟨sd_mem (k := 620) rfl (by decide +kernel), sd_mem (k := 55) (by decide +kernel) (by decide +kernel), by decide +kernel⟩, sd_mem (k := 619) (by decide +kernel) (by decide +kernel), sd_mem (k := 4) (by decide +kernel) (by decide +kernel)⟩
theorem kmX5_37 : Cond.methodLink RX5 37 yX5_findAll ∈ sd_big := sd_mem (k := 617) (by decide +kernel) (by decide +kernel)
set_option maxRecDepth 100000 in
theorem kYX5_showAlways : sd_calV yX5_showAlways cX5_showAlways 5 none 1 := ⟨⟨sd_mem (k := 636) rfl (by decide +kernel), sd_mem (k := 55) (by decide +kernel) (by decide +kernel), by decide +kernel⟩, sd_mem (k := 635) (by decide +kernel) (by decide +kernel), sd_mem (k := 5) (by decide +kernel) (by decide +kernel)⟩
theorem kmX5_41 : Cond.methodLink RX5 41 yX5_showAlways ∈ sd_big := sd_mem (k := 633) (by decide +kernel) (by decide +kernel)
set_option maxRecDepth 100000 in
theorem kYX5_showShoalest : sd_calV yX5_showShoalest cX5_showShoalest 4 none 0 := ⟨⟨sd_mem (k := 652) rfl (by decide +kernel), sd_mem (k := 55) (by decide +kernel) (by decide +kernel), by decide +kernel⟩, sd_mem (k := 651) (by decide +kernel) (by decide +kernel), sd_mem (k := 8) (by decide +kernel) (by decide +kernel)⟩
theorem kmX5_45 : Cond.methodLink RX5 45 yX5_showShoalest ∈ sd_big := sd_mem (k := 649) (by decide +kernel) (by decide +kernel)
set_option maxRecDepth 100000 in
theorem kYX9_isDensity : sd_calS yX9_isDensity cX9_isDensity 1 (some .boolean) 1 := ⟨⟨sd_mem (k := 608) rfl (by decide +kernel), sd_mem (k := 48) (by decide +kernel) (by decide +kernel), by decide +kernel⟩, sd_mem (k := 607) (by decide +kernel) (by decide +kernel)⟩
theorem kmX9_231 : Cond.methodLink RX9 231 yX9_isDensity ∈ sd_big := sd_mem (k := 606) (by decide +kernel) (by decide +kernel)
set_option maxRecDepth 100000 in
theorem kYX9_isSquare : sd_calS yX9_isSquare cX9_isSquare 1 (some .boolean) 1 := ⟨⟨sd_mem (k := 611) rfl (by decide +kernel), sd_mem (k := 48) (by decide +kernel) (by decide +kernel), by decide +kernel⟩, sd_mem (k := 610) (by decide +kernel) (by decide +kernel)⟩
theorem kmX9_234 : Cond.methodLink RX9 234 yX9_isSquare ∈ sd_big := sd_mem (k := 609) (by decide +kernel) (by decide +kernel)
theorem kfX9_38 : Cond.fieldLink RX9 38 (TX9 4).1 (TX9 4).2.1 (TX9 4).2.2.1 ∈ sd_big := sd_mem (k := 370) (by decide +kernel) (by decide +kernel)
set_option maxRecDepth 100000 in
theorem kYX5_draw : sd_calV yX5_draw cX5_draw 5 none 3 := ⟨⟨sd_mem (k := 615) rfl (by decide +kernel), sd_mem (k := 55) (by decide +kernel) (by decide +kernel), by decide +kernel⟩, sd_mem (k := 613) (by decide +kernel) (by decide +kernel), sd_mem (k := 614) (by decide +kernel) (by decide +kernel)⟩
theorem kmX9_237 : Cond.methodLink RX9 237 yX5_draw ∈ sd_big := sd_mem (k := 612) (by decide +kernel) (by decide +kernel)
theorem kfX9_240 : Cond.fieldLink RX9 240 (TX5 4).1 (TX5 4).2.1 (TX5 4).2.2.1 ∈ sd_big := sd_mem (k := 301) (by decide +kernel) (by decide +kernel)
theorem kfX9_243 : Cond.fieldLink RX9 243 (TX5 3).1 (TX5 3).2.1 (TX5 3).2.2.1 ∈ sd_big := sd_mem (k := 299) (by decide +kernel) (by decide +kernel)
theorem kmX9_246 : Cond.methodLink RX9 246 yX6_isThere ∈ sd_big := sd_mem (k := 668) (by decide +kernel) (by decide +kernel)
theorem kmX9_249 : Cond.methodLink RX9 249 yX6_squareOf ∈ sd_big := sd_mem (k := 669) (by decide +kernel) (by decide +kernel)
theorem kfX9_252 : Cond.fieldLink RX9 252 (TX5 5).1 (TX5 5).2.1 (TX5 5).2.2.1 ∈ sd_big := sd_mem (k := 303) (by decide +kernel) (by decide +kernel)
theorem kfX2_9 : Cond.fieldLink RX2 9 (TX2 1).1 (TX2 1).2.1 (TX2 1).2.2.1 ∈ sd_big := sd_mem (k := 324) (by decide +kernel) (by decide +kernel)
theorem kcX2 : ∀ x ∈ u_ws RX2 TX2 3, x ∈ sd_big := sd_memL [328, 330, 332] (by decide +kernel) (by decide +kernel)
theorem kfX2_18 : Cond.fieldLink RX2 18 (TX2 0).1 (TX2 0).2.1 (TX2 0).2.2.1 ∈ sd_big := sd_mem (k := 323) (by decide +kernel) (by decide +kernel)
theorem kfX2_61 : Cond.fieldLink RX2 61 (TX7 3).1 (TX7 3).2.1 (TX7 3).2.2.1 ∈ sd_big := sd_mem (k := 212) (by decide +kernel) (by decide +kernel)
theorem kmX2_74 : Cond.methodLink RX2 74 yJ9_max_7cf53 ∈ sd_big := sd_mem (k := 689) (by decide +kernel) (by decide +kernel)
theorem kfX2_33 : Cond.fieldLink RX2 33 (TX7 2).1 (TX7 2).2.1 (TX7 2).2.2.1 ∈ sd_big := sd_mem (k := 207) (by decide +kernel) (by decide +kernel)
theorem kfX2_62 : Cond.fieldLink RX2 62 (TX6 1).1 (TX6 1).2.1 (TX6 1).2.2.1 ∈ sd_big := sd_mem (k := 144) (by decide +kernel) (by decide +kernel)
theorem kfX2_65 : Cond.fieldLink RX2 65 (TX6 8).1 (TX6 8).2.1 (TX6 8).2.2.1 ∈ sd_big := sd_mem (k := 166) (by decide +kernel) (by decide +kernel)
theorem kfX2_68 : Cond.fieldLink RX2 68 (TX6 2).1 (TX6 2).2.1 (TX6 2).2.2.1 ∈ sd_big := sd_mem (k := 147) (by decide +kernel) (by decide +kernel)
theorem kfX2_71 : Cond.fieldLink RX2 71 (TX6 9).1 (TX6 9).2.1 (TX6 9).2.2.1 ∈ sd_big := sd_mem (k := 169) (by decide +kernel) (by decide +kernel)
theorem kfX2_15 : Cond.fieldLink RX2 15 (TX2 2).1 (TX2 2).2.1 (TX2 2).2.2.1 ∈ sd_big := sd_mem (k := 325) (by decide +kernel) (by decide +kernel)
theorem kfX2_51 : Cond.fieldLink RX2 51 (TX6 0).1 (TX6 0).2.1 (TX6 0).2.2.1 ∈ sd_big := sd_mem (k := 141) (by decide +kernel) (by decide +kernel)
theorem kmX2_57 : Cond.methodLink RX2 57 yX6_squareOf ∈ sd_big := sd_mem (k := 690) (by decide +kernel) (by decide +kernel)
set_option maxRecDepth 100000 in
theorem kYX2_enterSpan : sd_calV yX2_enterSpan cX2_enterSpan 10 none 1 := ⟨⟨sd_mem (k := 688) rfl (by decide +kernel), sd_mem (k := 56) (by decide +kernel) (by decide +kernel), by decide +kernel⟩, sd_mem (k := 687) (by decide +kernel) (by decide +kernel), sd_mem (k := 12) (by decide +kernel) (by decide +kernel)⟩
theorem kmX2_54 : Cond.methodLink RX2 54 yX2_enterSpan ∈ sd_big := sd_mem (k := 685) (by decide +kernel) (by decide +kernel)
theorem kfX2_37 : Cond.fieldLink RX2 37 (TX6 10).1 (TX6 10).2.1 (TX6 10).2.2.1 ∈ sd_big := sd_mem (k := 173) (by decide +kernel) (by decide +kernel)
theorem kmX2_43 : Cond.methodLink RX2 43 yX7_counts ∈ sd_big := sd_mem (k := 680) (by decide +kernel) (by decide +kernel)
set_option maxRecDepth 100000 in
theorem kYX2_enter : sd_calV yX2_enter cX2_enter 3 none 1 := ⟨⟨sd_mem (k := 684) rfl (by decide +kernel), sd_mem (k := 56) (by decide +kernel) (by decide +kernel), by decide +kernel⟩, sd_mem (k := 683) (by decide +kernel) (by decide +kernel), sd_mem (k := 11) (by decide +kernel) (by decide +kernel)⟩
theorem kmX2_47 : Cond.methodLink RX2 47 yX2_enter ∈ sd_big := sd_mem (k := 681) (by decide +kernel) (by decide +kernel)
theorem kmX2_22 : Cond.methodLink RX2 22 yX7_measure ∈ sd_big := sd_mem (k := 678) (by decide +kernel) (by decide +kernel)
theorem kmX2_27 : Cond.methodLink RX2 27 yJ7_fill_53178 ∈ sd_big := sd_mem (k := 679) (by decide +kernel) (by decide +kernel)
theorem kfX9_45 : Cond.fieldLink RX9 45 (TX9 5).1 (TX9 5).2.1 (TX9 5).2.2.1 ∈ sd_big := sd_mem (k := 371) (by decide +kernel) (by decide +kernel)
set_option maxRecDepth 100000 in
theorem kYX2_draw : sd_calV yX2_draw cX2_draw 3 none 1 := ⟨⟨sd_mem (k := 677) rfl (by decide +kernel), sd_mem (k := 56) (by decide +kernel) (by decide +kernel), by decide +kernel⟩, sd_mem (k := 675) (by decide +kernel) (by decide +kernel), sd_mem (k := 676) (by decide +kernel) (by decide +kernel)⟩
theorem kmX9_255 : Cond.methodLink RX9 255 yX2_draw ∈ sd_big := sd_mem (k := 674) (by decide +kernel) (by decide +kernel)
theorem kfX9_257 : Cond.fieldLink RX9 257 (TX2 2).1 (TX2 2).2.1 (TX2 2).2.2.1 ∈ sd_big := sd_mem (k := 327) (by decide +kernel) (by decide +kernel)
theorem kfX1_31 : Cond.fieldLink RX1 31 (TX1 0).1 (TX1 0).2.1 (TX1 0).2.2.1 ∈ sd_big := sd_mem (k := 341) (by decide +kernel) (by decide +kernel)
theorem kcX1 : ∀ x ∈ u_ws RX1 TX1 7, x ∈ sd_big := sd_memL [351, 353, 355, 357, 359, 361, 363] (by decide +kernel) (by decide +kernel)
theorem kfX1_51 : Cond.fieldLink RX1 51 (TX2 2).1 (TX2 2).2.1 (TX2 2).2.2.1 ∈ sd_big := sd_mem (k := 326) (by decide +kernel) (by decide +kernel)
theorem kfX1_9 : Cond.fieldLink RX1 9 (TX1 1).1 (TX1 1).2.1 (TX1 1).2.2.1 ∈ sd_big := sd_mem (k := 342) (by decide +kernel) (by decide +kernel)
theorem kfX1_18 : Cond.fieldLink RX1 18 (TX1 3).1 (TX1 3).2.1 (TX1 3).2.2.1 ∈ sd_big := sd_mem (k := 344) (by decide +kernel) (by decide +kernel)
theorem kfX1_15 : Cond.fieldLink RX1 15 (TX1 2).1 (TX1 2).2.1 (TX1 2).2.2.1 ∈ sd_big := sd_mem (k := 343) (by decide +kernel) (by decide +kernel)
set_option maxRecDepth 100000 in
theorem kYX1_beside : sd_calS yX1_beside cX1_beside 3 (some .int) 2 := ⟨⟨sd_mem (k := 718) rfl (by decide +kernel), sd_mem (k := 57) (by decide +kernel) (by decide +kernel), by decide +kernel⟩, sd_mem (k := 717) (by decide +kernel) (by decide +kernel)⟩
theorem kmX1_75 : Cond.methodLink RX1 75 yX1_beside ∈ sd_big := sd_mem (k := 716) (by decide +kernel) (by decide +kernel)
set_option maxRecDepth 100000 in
theorem kYX1_reach : sd_calV yX1_reach cX1_reach 5 none 3 := ⟨⟨sd_mem (k := 715) rfl (by decide +kernel), sd_mem (k := 57) (by decide +kernel) (by decide +kernel), by decide +kernel⟩, sd_mem (k := 714) (by decide +kernel) (by decide +kernel), sd_mem (k := 15) (by decide +kernel) (by decide +kernel)⟩
theorem kmX1_71 : Cond.methodLink RX1 71 yX1_reach ∈ sd_big := sd_mem (k := 712) (by decide +kernel) (by decide +kernel)
theorem kmX1_65 : Cond.methodLink RX1 65 yJ7_fill_53178 ∈ sd_big := sd_mem (k := 711) (by decide +kernel) (by decide +kernel)
set_option maxRecDepth 100000 in
theorem kYX1_flood : sd_calV yX1_flood cX1_flood 7 none 2 := ⟨⟨sd_mem (k := 710) rfl (by decide +kernel), sd_mem (k := 57) (by decide +kernel) (by decide +kernel), by decide +kernel⟩, sd_mem (k := 709) (by decide +kernel) (by decide +kernel), sd_mem (k := 14) (by decide +kernel) (by decide +kernel)⟩
theorem kmX1_43 : Cond.methodLink RX1 43 yX1_flood ∈ sd_big := sd_mem (k := 707) (by decide +kernel) (by decide +kernel)
set_option maxRecDepth 100000 in
theorem kYX1_joins : sd_calV yX1_joins cX1_joins 4 (some .boolean) 3 := ⟨⟨sd_mem (k := 706) rfl (by decide +kernel), sd_mem (k := 57) (by decide +kernel) (by decide +kernel), by decide +kernel⟩, sd_mem (k := 704) (by decide +kernel) (by decide +kernel), sd_mem (k := 705) (by decide +kernel) (by decide +kernel)⟩
theorem kmX1_35 : Cond.methodLink RX1 35 yX1_joins ∈ sd_big := sd_mem (k := 703) (by decide +kernel) (by decide +kernel)
set_option maxRecDepth 100000 in
theorem kYX2_leastDepth : sd_calV yX2_leastDepth cX2_leastDepth 4 (some .int) 0 := ⟨⟨sd_mem (k := 726) rfl (by decide +kernel), sd_mem (k := 56) (by decide +kernel) (by decide +kernel), by decide +kernel⟩, sd_mem (k := 724) (by decide +kernel) (by decide +kernel), sd_mem (k := 725) (by decide +kernel) (by decide +kernel)⟩
theorem kmX1_56 : Cond.methodLink RX1 56 yX2_leastDepth ∈ sd_big := sd_mem (k := 723) (by decide +kernel) (by decide +kernel)
theorem kmX1_60 : Cond.methodLink RX1 60 yJ9_min_7cf53 ∈ sd_big := sd_mem (k := 727) (by decide +kernel) (by decide +kernel)
theorem kfX1_22 : Cond.fieldLink RX1 22 (TX1 4).1 (TX1 4).2.1 (TX1 4).2.2.1 ∈ sd_big := sd_mem (k := 345) (by decide +kernel) (by decide +kernel)
theorem kfX1_25 : Cond.fieldLink RX1 25 (TX1 5).1 (TX1 5).2.1 (TX1 5).2.2.1 ∈ sd_big := sd_mem (k := 347) (by decide +kernel) (by decide +kernel)
set_option maxRecDepth 100000 in
theorem kYX1_leastBeside : sd_calV yX1_leastBeside cX1_leastBeside 5 (some .int) 2 := ⟨⟨sd_mem (k := 735) rfl (by decide +kernel), sd_mem (k := 57) (by decide +kernel) (by decide +kernel), by decide +kernel⟩, sd_mem (k := 734) (by decide +kernel) (by decide +kernel), sd_mem (k := 18) (by decide +kernel) (by decide +kernel)⟩
theorem kmX1_78 : Cond.methodLink RX1 78 yX1_leastBeside ∈ sd_big := sd_mem (k := 732) (by decide +kernel) (by decide +kernel)
set_option maxRecDepth 100000 in
theorem kYX1_greatestFloor : sd_calV yX1_greatestFloor cX1_greatestFloor 7 (some .int) 2 := ⟨⟨sd_mem (k := 722) rfl (by decide +kernel), sd_mem (k := 57) (by decide +kernel) (by decide +kernel), by decide +kernel⟩, sd_mem (k := 721) (by decide +kernel) (by decide +kernel), sd_mem (k := 16) (by decide +kernel) (by decide +kernel)⟩
theorem kmX1_39 : Cond.methodLink RX1 39 yX1_greatestFloor ∈ sd_big := sd_mem (k := 719) (by decide +kernel) (by decide +kernel)
theorem kfX1_28 : Cond.fieldLink RX1 28 (TX1 6).1 (TX1 6).2.1 (TX1 6).2.2.1 ∈ sd_big := sd_mem (k := 349) (by decide +kernel) (by decide +kernel)
set_option maxRecDepth 100000 in
theorem kYX1_walk : sd_calV yX1_walk cX1_walk 4 none 1 := ⟨⟨sd_mem (k := 731) rfl (by decide +kernel), sd_mem (k := 57) (by decide +kernel) (by decide +kernel), by decide +kernel⟩, sd_mem (k := 730) (by decide +kernel) (by decide +kernel), sd_mem (k := 17) (by decide +kernel) (by decide +kernel)⟩
theorem kmX1_47 : Cond.methodLink RX1 47 yX1_walk ∈ sd_big := sd_mem (k := 728) (by decide +kernel) (by decide +kernel)
theorem kfX9_54 : Cond.fieldLink RX9 54 (TX9 6).1 (TX9 6).2.1 (TX9 6).2.2.1 ∈ sd_big := sd_mem (k := 372) (by decide +kernel) (by decide +kernel)
set_option maxRecDepth 100000 in
theorem kYX1_find : sd_calV yX1_find cX1_find 3 (some .boolean) 2 := ⟨⟨sd_mem (k := 702) rfl (by decide +kernel), sd_mem (k := 57) (by decide +kernel) (by decide +kernel), by decide +kernel⟩, sd_mem (k := 700) (by decide +kernel) (by decide +kernel), sd_mem (k := 701) (by decide +kernel) (by decide +kernel)⟩
theorem kmX9_305 : Cond.methodLink RX9 305 yX1_find ∈ sd_big := sd_mem (k := 699) (by decide +kernel) (by decide +kernel)
set_option maxRecDepth 100000 in
theorem kYX9_findChannel : sd_calV yX9_findChannel cX9_findChannel 4 (some .boolean) 3 := ⟨⟨sd_mem (k := 698) rfl (by decide +kernel), sd_mem (k := 48) (by decide +kernel) (by decide +kernel), by decide +kernel⟩, sd_mem (k := 697) (by decide +kernel) (by decide +kernel), sd_mem (k := 13) (by decide +kernel) (by decide +kernel)⟩
theorem kmX9_260 : Cond.methodLink RX9 260 yX9_findChannel ∈ sd_big := sd_mem (k := 695) (by decide +kernel) (by decide +kernel)
theorem kfX9_263 : Cond.fieldLink RX9 263 (TX1 6).1 (TX1 6).2.1 (TX1 6).2.2.1 ∈ sd_big := sd_mem (k := 350) (by decide +kernel) (by decide +kernel)
theorem kfX9_266 : Cond.fieldLink RX9 266 (TX1 5).1 (TX1 5).2.1 (TX1 5).2.2.1 ∈ sd_big := sd_mem (k := 348) (by decide +kernel) (by decide +kernel)
theorem kfX9_269 : Cond.fieldLink RX9 269 (TX1 4).1 (TX1 4).2.1 (TX1 4).2.2.1 ∈ sd_big := sd_mem (k := 346) (by decide +kernel) (by decide +kernel)
set_option maxRecDepth 100000 in
theorem kYX1_firstAtFloor : sd_calV yX1_firstAtFloor cX1_firstAtFloor 2 (some .int) 0 := ⟨⟨sd_mem (k := 747) rfl (by decide +kernel), sd_mem (k := 57) (by decide +kernel) (by decide +kernel), by decide +kernel⟩, sd_mem (k := 745) (by decide +kernel) (by decide +kernel), sd_mem (k := 746) (by decide +kernel) (by decide +kernel)⟩
theorem kmX9_272 : Cond.methodLink RX9 272 yX1_firstAtFloor ∈ sd_big := sd_mem (k := 744) (by decide +kernel) (by decide +kernel)
theorem kmX9_275 : Cond.methodLink RX9 275 yX1_joins ∈ sd_big := sd_mem (k := 752) (by decide +kernel) (by decide +kernel)
theorem kfX0_28 : Cond.fieldLink RX0 28 (TX0 5).1 (TX0 5).2.1 (TX0 5).2.2.1 ∈ sd_big := sd_mem (k := 235) (by decide +kernel) (by decide +kernel)
theorem kfX0_31 : Cond.fieldLink RX0 31 (TX0 6).1 (TX0 6).2.1 (TX0 6).2.2.1 ∈ sd_big := sd_mem (k := 237) (by decide +kernel) (by decide +kernel)
theorem kfX0_34 : Cond.fieldLink RX0 34 (TX0 7).1 (TX0 7).2.1 (TX0 7).2.2.1 ∈ sd_big := sd_mem (k := 239) (by decide +kernel) (by decide +kernel)
theorem kmX6_54 : Cond.methodLink RX6 54 yJ9_max_7cf53 ∈ sd_big := sd_mem (k := 778) (by decide +kernel) (by decide +kernel)
theorem kmX4_25 : Cond.methodLink RX4 25 yJ9_max_7cf53 ∈ sd_big := sd_mem (k := 769) (by decide +kernel) (by decide +kernel)
set_option maxRecDepth 100000 in
theorem kYX0_takeLatest : sd_calV yX0_takeLatest cX0_takeLatest 1 (some .boolean) 0 := ⟨⟨sd_mem (k := 764) rfl (by decide +kernel), sd_mem (k := 53) (by decide +kernel) (by decide +kernel), by decide +kernel⟩, sd_mem (k := 762) (by decide +kernel) (by decide +kernel), sd_mem (k := 763) (by decide +kernel) (by decide +kernel)⟩
theorem kmX9_278 : Cond.methodLink RX9 278 yX0_takeLatest ∈ sd_big := sd_mem (k := 761) (by decide +kernel) (by decide +kernel)
theorem kfX9_282 : Cond.fieldLink RX9 282 (TX0 5).1 (TX0 5).2.1 (TX0 5).2.2.1 ∈ sd_big := sd_mem (k := 236) (by decide +kernel) (by decide +kernel)
set_option maxRecDepth 100000 in
theorem kYX4_removeLast : sd_calV yX4_removeLast cX4_removeLast 1 none 0 := ⟨⟨sd_mem (k := 768) rfl (by decide +kernel), sd_mem (k := 50) (by decide +kernel) (by decide +kernel), by decide +kernel⟩, sd_mem (k := 766) (by decide +kernel) (by decide +kernel), sd_mem (k := 767) (by decide +kernel) (by decide +kernel)⟩
theorem kmX9_285 : Cond.methodLink RX9 285 yX4_removeLast ∈ sd_big := sd_mem (k := 765) (by decide +kernel) (by decide +kernel)
theorem kfX9_288 : Cond.fieldLink RX9 288 (TX0 6).1 (TX0 6).2.1 (TX0 6).2.2.1 ∈ sd_big := sd_mem (k := 238) (by decide +kernel) (by decide +kernel)
set_option maxRecDepth 100000 in
theorem kYX8_removeLast : sd_calV yX8_removeLast cX8_removeLast 2 none 1 := ⟨⟨sd_mem (k := 773) rfl (by decide +kernel), sd_mem (k := 51) (by decide +kernel) (by decide +kernel), by decide +kernel⟩, sd_mem (k := 771) (by decide +kernel) (by decide +kernel), sd_mem (k := 772) (by decide +kernel) (by decide +kernel)⟩
theorem kmX9_291 : Cond.methodLink RX9 291 yX8_removeLast ∈ sd_big := sd_mem (k := 770) (by decide +kernel) (by decide +kernel)
theorem kfX9_293 : Cond.fieldLink RX9 293 (TX0 7).1 (TX0 7).2.1 (TX0 7).2.2.1 ∈ sd_big := sd_mem (k := 240) (by decide +kernel) (by decide +kernel)
set_option maxRecDepth 100000 in
theorem kYX6_removeLast : sd_calV yX6_removeLast cX6_removeLast 1 none 0 := ⟨⟨sd_mem (k := 777) rfl (by decide +kernel), sd_mem (k := 52) (by decide +kernel) (by decide +kernel), by decide +kernel⟩, sd_mem (k := 775) (by decide +kernel) (by decide +kernel), sd_mem (k := 776) (by decide +kernel) (by decide +kernel)⟩
theorem kmX9_296 : Cond.methodLink RX9 296 yX6_removeLast ∈ sd_big := sd_mem (k := 774) (by decide +kernel) (by decide +kernel)
theorem kmX4_31 : Cond.methodLink RX4 31 arraycopyName ∈ sd_big := sd_mem (k := 791) (by decide +kernel) (by decide +kernel)
theorem kmX8_34 : Cond.methodLink RX8 34 arraycopyName ∈ sd_big := sd_mem (k := 798) (by decide +kernel) (by decide +kernel)
theorem kmX6_60 : Cond.methodLink RX6 60 arraycopyName ∈ sd_big := sd_mem (k := 803) (by decide +kernel) (by decide +kernel)
set_option maxRecDepth 100000 in
theorem kYX4_copyFrom : sd_calV yX4_copyFrom cX4_copyFrom 2 none 1 := ⟨⟨sd_mem (k := 790) rfl (by decide +kernel), sd_mem (k := 50) (by decide +kernel) (by decide +kernel), by decide +kernel⟩, sd_mem (k := 788) (by decide +kernel) (by decide +kernel), sd_mem (k := 789) (by decide +kernel) (by decide +kernel)⟩
theorem kmX7_88 : Cond.methodLink RX7 88 yX4_copyFrom ∈ sd_big := sd_mem (k := 787) (by decide +kernel) (by decide +kernel)
set_option maxRecDepth 100000 in
theorem kYX8_copyFrom : sd_calV yX8_copyFrom cX8_copyFrom 2 none 1 := ⟨⟨sd_mem (k := 797) rfl (by decide +kernel), sd_mem (k := 51) (by decide +kernel) (by decide +kernel), by decide +kernel⟩, sd_mem (k := 795) (by decide +kernel) (by decide +kernel), sd_mem (k := 796) (by decide +kernel) (by decide +kernel)⟩
theorem kmX7_92 : Cond.methodLink RX7 92 yX8_copyFrom ∈ sd_big := sd_mem (k := 794) (by decide +kernel) (by decide +kernel)
set_option maxRecDepth 100000 in
theorem kYX6_copyFrom : sd_calV yX6_copyFrom cX6_copyFrom 2 none 1 := ⟨⟨sd_mem (k := 802) rfl (by decide +kernel), sd_mem (k := 52) (by decide +kernel) (by decide +kernel), by decide +kernel⟩, sd_mem (k := 800) (by decide +kernel) (by decide +kernel), sd_mem (k := 801) (by decide +kernel) (by decide +kernel)⟩
theorem kmX7_95 : Cond.methodLink RX7 95 yX6_copyFrom ∈ sd_big := sd_mem (k := 799) (by decide +kernel) (by decide +kernel)
theorem kfX9_16 : Cond.fieldLink RX9 16 (TX9 1).1 (TX9 1).2.1 (TX9 1).2.2.1 ∈ sd_big := sd_mem (k := 367) (by decide +kernel) (by decide +kernel)
set_option maxRecDepth 100000 in
theorem kYX7_copyFrom : sd_calV yX7_copyFrom cX7_copyFrom 2 none 1 := ⟨⟨sd_mem (k := 786) rfl (by decide +kernel), sd_mem (k := 49) (by decide +kernel) (by decide +kernel), by decide +kernel⟩, sd_mem (k := 784) (by decide +kernel) (by decide +kernel), sd_mem (k := 785) (by decide +kernel) (by decide +kernel)⟩
theorem kmX9_297 : Cond.methodLink RX9 297 yX7_copyFrom ∈ sd_big := sd_mem (k := 783) (by decide +kernel) (by decide +kernel)
theorem kfX9_58 : Cond.fieldLink RX9 58 (TX9 7).1 (TX9 7).2.1 (TX9 7).2.2.1 ∈ sd_big := sd_mem (k := 373) (by decide +kernel) (by decide +kernel)
set_option maxRecDepth 100000 in
theorem kYX0_forgetAll : sd_calV yX0_forgetAll cX0_forgetAll 1 none 0 := ⟨⟨sd_mem (k := 811) rfl (by decide +kernel), sd_mem (k := 53) (by decide +kernel) (by decide +kernel), by decide +kernel⟩, sd_mem (k := 809) (by decide +kernel) (by decide +kernel), sd_mem (k := 810) (by decide +kernel) (by decide +kernel)⟩
theorem kmX9_300 : Cond.methodLink RX9 300 yX0_forgetAll ∈ sd_big := sd_mem (k := 808) (by decide +kernel) (by decide +kernel)
theorem kfX10_39 : Cond.fieldLink RX10 39 (TX10 3).1 (TX10 3).2.1 (TX10 3).2.2.1 ∈ sd_big := sd_mem (k := 822) (by decide +kernel) (by decide +kernel)
theorem kcX10 : ∀ x ∈ u_ws RX10 TX10 17, x ∈ sd_big := sd_memL [836, 838, 840, 842, 844, 846, 848, 850, 852, 854, 856, 858, 860, 862, 864, 866, 868] (by decide +kernel) (by decide +kernel)
theorem kfX10_35 : Cond.fieldLink RX10 35 (TX10 4).1 (TX10 4).2.1 (TX10 4).2.2.1 ∈ sd_big := sd_mem (k := 823) (by decide +kernel) (by decide +kernel)
theorem kfX10_14 : Cond.fieldLink RX10 14 (TX10 1).1 (TX10 1).2.1 (TX10 1).2.2.1 ∈ sd_big := sd_mem (k := 820) (by decide +kernel) (by decide +kernel)
theorem kfX10_7 : Cond.fieldLink RX10 7 (TX10 0).1 (TX10 0).2.1 (TX10 0).2.2.1 ∈ sd_big := sd_mem (k := 819) (by decide +kernel) (by decide +kernel)
set_option maxRecDepth 100000 in
theorem kYX10_in : sd_calS yX10_in cX10_in 3 (some .boolean) 3 := ⟨⟨sd_mem (k := 889) rfl (by decide +kernel), sd_mem (k := 58) (by decide +kernel) (by decide +kernel), by decide +kernel⟩, sd_mem (k := 888) (by decide +kernel) (by decide +kernel)⟩
theorem kmX10_46 : Cond.methodLink RX10 46 yX10_in ∈ sd_big := sd_mem (k := 887) (by decide +kernel) (by decide +kernel)
set_option maxRecDepth 100000 in
theorem kYX10_acts : sd_calV yX10_acts cX10_acts 2 none 0 := ⟨⟨sd_mem (k := 893) rfl (by decide +kernel), sd_mem (k := 58) (by decide +kernel) (by decide +kernel), by decide +kernel⟩, sd_mem (k := 892) (by decide +kernel) (by decide +kernel), sd_mem (k := 19) (by decide +kernel) (by decide +kernel)⟩
theorem kmX10_50 : Cond.methodLink RX10 50 yX10_acts ∈ sd_big := sd_mem (k := 890) (by decide +kernel) (by decide +kernel)
set_option maxRecDepth 100000 in
theorem kYX10_isLine : sd_calV yX10_isLine cX10_isLine 2 (some .boolean) 1 := ⟨⟨sd_mem (k := 901) rfl (by decide +kernel), sd_mem (k := 58) (by decide +kernel) (by decide +kernel), by decide +kernel⟩, sd_mem (k := 900) (by decide +kernel) (by decide +kernel), sd_mem (k := 20) (by decide +kernel) (by decide +kernel)⟩
theorem kmX10_53 : Cond.methodLink RX10 53 yX10_isLine ∈ sd_big := sd_mem (k := 898) (by decide +kernel) (by decide +kernel)
set_option maxRecDepth 100000 in
theorem kYX10_isPlace : sd_calV yX10_isPlace cX10_isPlace 3 (some .boolean) 2 := ⟨⟨sd_mem (k := 932) rfl (by decide +kernel), sd_mem (k := 58) (by decide +kernel) (by decide +kernel), by decide +kernel⟩, sd_mem (k := 931) (by decide +kernel) (by decide +kernel), sd_mem (k := 23) (by decide +kernel) (by decide +kernel)⟩
theorem kmX10_72 : Cond.methodLink RX10 72 yX10_isPlace ∈ sd_big := sd_mem (k := 929) (by decide +kernel) (by decide +kernel)
set_option maxRecDepth 100000 in
theorem kYX10_mayBe : sd_calV yX10_mayBe cX10_mayBe 5 (some .boolean) 4 := ⟨⟨sd_mem (k := 928) rfl (by decide +kernel), sd_mem (k := 58) (by decide +kernel) (by decide +kernel), by decide +kernel⟩, sd_mem (k := 927) (by decide +kernel) (by decide +kernel), sd_mem (k := 22) (by decide +kernel) (by decide +kernel)⟩
theorem kmX10_75 : Cond.methodLink RX10 75 yX10_mayBe ∈ sd_big := sd_mem (k := 925) (by decide +kernel) (by decide +kernel)
set_option maxRecDepth 100000 in
theorem kYX10_lineOf : sd_calV yX10_lineOf cX10_lineOf 3 (some .int) 2 := ⟨⟨sd_mem (k := 936) rfl (by decide +kernel), sd_mem (k := 58) (by decide +kernel) (by decide +kernel), by decide +kernel⟩, sd_mem (k := 935) (by decide +kernel) (by decide +kernel), sd_mem (k := 24) (by decide +kernel) (by decide +kernel)⟩
theorem kmX10_79 : Cond.methodLink RX10 79 yX10_lineOf ∈ sd_big := sd_mem (k := 933) (by decide +kernel) (by decide +kernel)
set_option maxRecDepth 100000 in
theorem kYX10_add : sd_calV yX10_add cX10_add 12 (some .int) 9 := ⟨⟨sd_mem (k := 940) rfl (by decide +kernel), sd_mem (k := 58) (by decide +kernel) (by decide +kernel), by decide +kernel⟩, sd_mem (k := 939) (by decide +kernel) (by decide +kernel), sd_mem (k := 25) (by decide +kernel) (by decide +kernel)⟩
theorem kmX10_83 : Cond.methodLink RX10 83 yX10_add ∈ sd_big := sd_mem (k := 937) (by decide +kernel) (by decide +kernel)
theorem kkX10_87 : Cond.constant RX10 87 8388607 ∈ sd_big := sd_mem (k := 948) (by decide +kernel) (by decide +kernel)
theorem kkX10_88 : Cond.constant RX10 88 8388608 ∈ sd_big := sd_mem (k := 949) (by decide +kernel) (by decide +kernel)
set_option maxRecDepth 100000 in
theorem kYX10_cut : sd_calS yX10_cut cX10_cut 2 (some .int) 1 := ⟨⟨sd_mem (k := 947) rfl (by decide +kernel), sd_mem (k := 58) (by decide +kernel) (by decide +kernel), by decide +kernel⟩, sd_mem (k := 946) (by decide +kernel) (by decide +kernel)⟩
theorem kmX10_89 : Cond.methodLink RX10 89 yX10_cut ∈ sd_big := sd_mem (k := 945) (by decide +kernel) (by decide +kernel)
set_option maxRecDepth 100000 in
theorem kYX10_isSounding : sd_calV yX10_isSounding cX10_isSounding 2 (some .boolean) 1 := ⟨⟨sd_mem (k := 965) rfl (by decide +kernel), sd_mem (k := 58) (by decide +kernel) (by decide +kernel), by decide +kernel⟩, sd_mem (k := 964) (by decide +kernel) (by decide +kernel), sd_mem (k := 26) (by decide +kernel) (by decide +kernel)⟩
theorem kmX10_93 : Cond.methodLink RX10 93 yX10_isSounding ∈ sd_big := sd_mem (k := 962) (by decide +kernel) (by decide +kernel)
set_option maxRecDepth 100000 in
theorem kYX10_of : sd_calV yX10_of cX10_of 3 (some .int) 2 := ⟨⟨sd_mem (k := 969) rfl (by decide +kernel), sd_mem (k := 58) (by decide +kernel) (by decide +kernel), by decide +kernel⟩, sd_mem (k := 968) (by decide +kernel) (by decide +kernel), sd_mem (k := 27) (by decide +kernel) (by decide +kernel)⟩
theorem kmX10_96 : Cond.methodLink RX10 96 yX10_of ∈ sd_big := sd_mem (k := 966) (by decide +kernel) (by decide +kernel)
theorem kfX10_57 : Cond.fieldLink RX10 57 (TX10 7).1 (TX10 7).2.1 (TX10 7).2.2.1 ∈ sd_big := sd_mem (k := 826) (by decide +kernel) (by decide +kernel)
theorem kfX10_61 : Cond.fieldLink RX10 61 (TX10 6).1 (TX10 6).2.1 (TX10 6).2.2.1 ∈ sd_big := sd_mem (k := 825) (by decide +kernel) (by decide +kernel)
set_option maxRecDepth 100000 in
theorem kYX10_tideAt : sd_calV yX10_tideAt cX10_tideAt 14 (some .boolean) 2 := ⟨⟨sd_mem (k := 917) rfl (by decide +kernel), sd_mem (k := 58) (by decide +kernel) (by decide +kernel), by decide +kernel⟩, sd_mem (k := 916) (by decide +kernel) (by decide +kernel), sd_mem (k := 21) (by decide +kernel) (by decide +kernel)⟩
theorem kmX10_64 : Cond.methodLink RX10 64 yX10_tideAt ∈ sd_big := sd_mem (k := 914) (by decide +kernel) (by decide +kernel)
set_option maxRecDepth 100000 in
theorem kYX10_waits : sd_calV yX10_waits cX10_waits 2 (some .boolean) 1 := ⟨⟨sd_mem (k := 977) rfl (by decide +kernel), sd_mem (k := 58) (by decide +kernel) (by decide +kernel), by decide +kernel⟩, sd_mem (k := 976) (by decide +kernel) (by decide +kernel), sd_mem (k := 28) (by decide +kernel) (by decide +kernel)⟩
theorem kmX10_101 : Cond.methodLink RX10 101 yX10_waits ∈ sd_big := sd_mem (k := 974) (by decide +kernel) (by decide +kernel)
theorem kkX10_99 : Cond.constantLong RX10 99 2000 ∈ sd_big := sd_mem (k := 990) (by decide +kernel) (by decide +kernel)
set_option maxRecDepth 100000 in
theorem kYX10_below : sd_calS yX10_below cX10_below 6 (some .long) 2 := ⟨⟨sd_mem (k := 920) rfl (by decide +kernel), sd_mem (k := 58) (by decide +kernel) (by decide +kernel), by decide +kernel⟩, sd_mem (k := 919) (by decide +kernel) (by decide +kernel)⟩
theorem kmX10_68 : Cond.methodLink RX10 68 yX10_below ∈ sd_big := sd_mem (k := 918) (by decide +kernel) (by decide +kernel)
set_option maxRecDepth 100000 in
theorem kYX10_corrected : sd_calV yX10_corrected cX10_corrected 7 (some .int) 1 := ⟨⟨sd_mem (k := 989) rfl (by decide +kernel), sd_mem (k := 58) (by decide +kernel) (by decide +kernel), by decide +kernel⟩, sd_mem (k := 988) (by decide +kernel) (by decide +kernel), sd_mem (k := 29) (by decide +kernel) (by decide +kernel)⟩
theorem kmX10_104 : Cond.methodLink RX10 104 yX10_corrected ∈ sd_big := sd_mem (k := 986) (by decide +kernel) (by decide +kernel)
theorem kfX10_107 : Cond.fieldLink RX10 107 (TX10 8).1 (TX10 8).2.1 (TX10 8).2.2.1 ∈ sd_big := sd_mem (k := 827) (by decide +kernel) (by decide +kernel)
theorem kfX10_116 : Cond.fieldLink RX10 116 (TX10 10).1 (TX10 10).2.1 (TX10 10).2.2.1 ∈ sd_big := sd_mem (k := 829) (by decide +kernel) (by decide +kernel)
theorem kfX10_119 : Cond.fieldLink RX10 119 (TX10 9).1 (TX10 9).2.1 (TX10 9).2.2.1 ∈ sd_big := sd_mem (k := 828) (by decide +kernel) (by decide +kernel)
set_option maxRecDepth 100000 in
theorem kYX10_far : sd_calV yX10_far cX10_far 5 (some .int) 2 := ⟨⟨sd_mem (k := 1010) rfl (by decide +kernel), sd_mem (k := 58) (by decide +kernel) (by decide +kernel), by decide +kernel⟩, sd_mem (k := 1009) (by decide +kernel) (by decide +kernel), sd_mem (k := 32) (by decide +kernel) (by decide +kernel)⟩
theorem kmX10_113 : Cond.methodLink RX10 113 yX10_far ∈ sd_big := sd_mem (k := 1007) (by decide +kernel) (by decide +kernel)
set_option maxRecDepth 100000 in
theorem kYX10_isOf : sd_calV yX10_isOf cX10_isOf 3 (some .boolean) 2 := ⟨⟨sd_mem (k := 1006) rfl (by decide +kernel), sd_mem (k := 58) (by decide +kernel) (by decide +kernel), by decide +kernel⟩, sd_mem (k := 1005) (by decide +kernel) (by decide +kernel), sd_mem (k := 31) (by decide +kernel) (by decide +kernel)⟩
theorem kmX10_110 : Cond.methodLink RX10 110 yX10_isOf ∈ sd_big := sd_mem (k := 1003) (by decide +kernel) (by decide +kernel)
set_option maxRecDepth 100000 in
theorem kYX10_crosses : sd_calV yX10_crosses cX10_crosses 6 (some .boolean) 3 := ⟨⟨sd_mem (k := 1002) rfl (by decide +kernel), sd_mem (k := 58) (by decide +kernel) (by decide +kernel), by decide +kernel⟩, sd_mem (k := 1001) (by decide +kernel) (by decide +kernel), sd_mem (k := 30) (by decide +kernel) (by decide +kernel)⟩
theorem kmX10_122 : Cond.methodLink RX10 122 yX10_crosses ∈ sd_big := sd_mem (k := 999) (by decide +kernel) (by decide +kernel)
set_option maxRecDepth 100000 in
theorem kYX10_squareOf : sd_calS yX10_squareOf cX10_squareOf 2 (some .int) 2 := ⟨⟨sd_mem (k := 1029) rfl (by decide +kernel), sd_mem (k := 58) (by decide +kernel) (by decide +kernel), by decide +kernel⟩, sd_mem (k := 1028) (by decide +kernel) (by decide +kernel)⟩
theorem kmX10_125 : Cond.methodLink RX10 125 yX10_squareOf ∈ sd_big := sd_mem (k := 1027) (by decide +kernel) (by decide +kernel)
set_option maxRecDepth 100000 in
theorem kYX10_isThere : sd_calV yX10_isThere cX10_isThere 3 (some .boolean) 2 := ⟨⟨sd_mem (k := 1033) rfl (by decide +kernel), sd_mem (k := 58) (by decide +kernel) (by decide +kernel), by decide +kernel⟩, sd_mem (k := 1032) (by decide +kernel) (by decide +kernel), sd_mem (k := 35) (by decide +kernel) (by decide +kernel)⟩
theorem kmX10_128 : Cond.methodLink RX10 128 yX10_isThere ∈ sd_big := sd_mem (k := 1030) (by decide +kernel) (by decide +kernel)
set_option maxRecDepth 100000 in
theorem kYX10_isSwept : sd_calV yX10_isSwept cX10_isSwept 3 (some .boolean) 2 := ⟨⟨sd_mem (k := 1041) rfl (by decide +kernel), sd_mem (k := 58) (by decide +kernel) (by decide +kernel), by decide +kernel⟩, sd_mem (k := 1040) (by decide +kernel) (by decide +kernel), sd_mem (k := 37) (by decide +kernel) (by decide +kernel)⟩
theorem kmX10_131 : Cond.methodLink RX10 131 yX10_isSwept ∈ sd_big := sd_mem (k := 1038) (by decide +kernel) (by decide +kernel)
set_option maxRecDepth 100000 in
theorem kYX10_hasPlace : sd_calV yX10_hasPlace cX10_hasPlace 4 (some .boolean) 3 := ⟨⟨sd_mem (k := 1045) rfl (by decide +kernel), sd_mem (k := 58) (by decide +kernel) (by decide +kernel), by decide +kernel⟩, sd_mem (k := 1044) (by decide +kernel) (by decide +kernel), sd_mem (k := 38) (by decide +kernel) (by decide +kernel)⟩
theorem kmX10_134 : Cond.methodLink RX10 134 yX10_hasPlace ∈ sd_big := sd_mem (k := 1042) (by decide +kernel) (by decide +kernel)
theorem kfX10_20 : Cond.fieldLink RX10 20 (TX10 11).1 (TX10 11).2.1 (TX10 11).2.2.1 ∈ sd_big := sd_mem (k := 830) (by decide +kernel) (by decide +kernel)
theorem kfX10_137 : Cond.fieldLink RX10 137 (TX10 13).1 (TX10 13).2.1 (TX10 13).2.2.1 ∈ sd_big := sd_mem (k := 832) (by decide +kernel) (by decide +kernel)
theorem kfX10_23 : Cond.fieldLink RX10 23 (TX10 12).1 (TX10 12).2.1 (TX10 12).2.2.1 ∈ sd_big := sd_mem (k := 831) (by decide +kernel) (by decide +kernel)
set_option maxRecDepth 100000 in
theorem kYX10_lists : sd_calV yX10_lists cX10_lists 3 none 2 := ⟨⟨sd_mem (k := 1049) rfl (by decide +kernel), sd_mem (k := 58) (by decide +kernel) (by decide +kernel), by decide +kernel⟩, sd_mem (k := 1048) (by decide +kernel) (by decide +kernel), sd_mem (k := 39) (by decide +kernel) (by decide +kernel)⟩
theorem kmX10_146 : Cond.methodLink RX10 146 yX10_lists ∈ sd_big := sd_mem (k := 1046) (by decide +kernel) (by decide +kernel)
set_option maxRecDepth 100000 in
theorem kYX10_isFound : sd_calV yX10_isFound cX10_isFound 4 (some .boolean) 3 := ⟨⟨sd_mem (k := 1026) rfl (by decide +kernel), sd_mem (k := 58) (by decide +kernel) (by decide +kernel), by decide +kernel⟩, sd_mem (k := 1025) (by decide +kernel) (by decide +kernel), sd_mem (k := 34) (by decide +kernel) (by decide +kernel)⟩
theorem kmX10_140 : Cond.methodLink RX10 140 yX10_isFound ∈ sd_big := sd_mem (k := 1023) (by decide +kernel) (by decide +kernel)
set_option maxRecDepth 100000 in
theorem kYX10_isListed : sd_calV yX10_isListed cX10_isListed 4 (some .boolean) 1 := ⟨⟨sd_mem (k := 1053) rfl (by decide +kernel), sd_mem (k := 58) (by decide +kernel) (by decide +kernel), by decide +kernel⟩, sd_mem (k := 1052) (by decide +kernel) (by decide +kernel), sd_mem (k := 40) (by decide +kernel) (by decide +kernel)⟩
theorem kmX10_150 : Cond.methodLink RX10 150 yX10_isListed ∈ sd_big := sd_mem (k := 1050) (by decide +kernel) (by decide +kernel)
set_option maxRecDepth 100000 in
theorem kYX10_isAlways : sd_calV yX10_isAlways cX10_isAlways 4 (some .boolean) 2 := ⟨⟨sd_mem (k := 1037) rfl (by decide +kernel), sd_mem (k := 58) (by decide +kernel) (by decide +kernel), by decide +kernel⟩, sd_mem (k := 1036) (by decide +kernel) (by decide +kernel), sd_mem (k := 36) (by decide +kernel) (by decide +kernel)⟩
theorem kmX10_143 : Cond.methodLink RX10 143 yX10_isAlways ∈ sd_big := sd_mem (k := 1034) (by decide +kernel) (by decide +kernel)
set_option maxRecDepth 100000 in
theorem kYX10_sheet : sd_calV yX10_sheet cX10_sheet 11 none 3 := ⟨⟨sd_mem (k := 1022) rfl (by decide +kernel), sd_mem (k := 58) (by decide +kernel) (by decide +kernel), by decide +kernel⟩, sd_mem (k := 1021) (by decide +kernel) (by decide +kernel), sd_mem (k := 33) (by decide +kernel) (by decide +kernel)⟩
theorem kmX10_153 : Cond.methodLink RX10 153 yX10_sheet ∈ sd_big := sd_mem (k := 1019) (by decide +kernel) (by decide +kernel)
set_option maxRecDepth 100000 in
theorem kYX10_depthOf : sd_calV yX10_depthOf cX10_depthOf 10 (some .int) 2 := ⟨⟨sd_mem (k := 1065) rfl (by decide +kernel), sd_mem (k := 58) (by decide +kernel) (by decide +kernel), by decide +kernel⟩, sd_mem (k := 1064) (by decide +kernel) (by decide +kernel), sd_mem (k := 41) (by decide +kernel) (by decide +kernel)⟩
theorem kmX10_157 : Cond.methodLink RX10 157 yX10_depthOf ∈ sd_big := sd_mem (k := 1062) (by decide +kernel) (by decide +kernel)
theorem kfX10_26 : Cond.fieldLink RX10 26 (TX10 14).1 (TX10 14).2.1 (TX10 14).2.2.1 ∈ sd_big := sd_mem (k := 833) (by decide +kernel) (by decide +kernel)
theorem kfX10_29 : Cond.fieldLink RX10 29 (TX10 15).1 (TX10 15).2.1 (TX10 15).2.2.1 ∈ sd_big := sd_mem (k := 834) (by decide +kernel) (by decide +kernel)
set_option maxRecDepth 100000 in
theorem kYX10_beside : sd_calS yX10_beside cX10_beside 2 (some .int) 2 := ⟨⟨sd_mem (k := 1092) rfl (by decide +kernel), sd_mem (k := 58) (by decide +kernel) (by decide +kernel), by decide +kernel⟩, sd_mem (k := 1091) (by decide +kernel) (by decide +kernel)⟩
theorem kmX10_160 : Cond.methodLink RX10 160 yX10_beside ∈ sd_big := sd_mem (k := 1090) (by decide +kernel) (by decide +kernel)
theorem kfX10_32 : Cond.fieldLink RX10 32 (TX10 16).1 (TX10 16).2.1 (TX10 16).2.2.1 ∈ sd_big := sd_mem (k := 835) (by decide +kernel) (by decide +kernel)
set_option maxRecDepth 100000 in
theorem kYX10_floods : sd_calV yX10_floods cX10_floods 9 (some .boolean) 3 := ⟨⟨sd_mem (k := 1089) rfl (by decide +kernel), sd_mem (k := 58) (by decide +kernel) (by decide +kernel), by decide +kernel⟩, sd_mem (k := 1088) (by decide +kernel) (by decide +kernel), sd_mem (k := 45) (by decide +kernel) (by decide +kernel)⟩
theorem kmX10_167 : Cond.methodLink RX10 167 yX10_floods ∈ sd_big := sd_mem (k := 1086) (by decide +kernel) (by decide +kernel)
set_option maxRecDepth 100000 in
theorem kYX10_depths : sd_calV yX10_depths cX10_depths 3 none 1 := ⟨⟨sd_mem (k := 1085) rfl (by decide +kernel), sd_mem (k := 58) (by decide +kernel) (by decide +kernel), by decide +kernel⟩, sd_mem (k := 1084) (by decide +kernel) (by decide +kernel), sd_mem (k := 44) (by decide +kernel) (by decide +kernel)⟩
theorem kmX10_163 : Cond.methodLink RX10 163 yX10_depths ∈ sd_big := sd_mem (k := 1082) (by decide +kernel) (by decide +kernel)
set_option maxRecDepth 100000 in
theorem kYX10_isAsked : sd_calV yX10_isAsked cX10_isAsked 4 (some .boolean) 3 := ⟨⟨sd_mem (k := 1077) rfl (by decide +kernel), sd_mem (k := 58) (by decide +kernel) (by decide +kernel), by decide +kernel⟩, sd_mem (k := 1076) (by decide +kernel) (by decide +kernel), sd_mem (k := 42) (by decide +kernel) (by decide +kernel)⟩
theorem kmX10_170 : Cond.methodLink RX10 170 yX10_isAsked ∈ sd_big := sd_mem (k := 1074) (by decide +kernel) (by decide +kernel)
set_option maxRecDepth 100000 in
theorem kYX10_channel : sd_calV yX10_channel cX10_channel 7 (some .int) 3 := ⟨⟨sd_mem (k := 1081) rfl (by decide +kernel), sd_mem (k := 58) (by decide +kernel) (by decide +kernel), by decide +kernel⟩, sd_mem (k := 1080) (by decide +kernel) (by decide +kernel), sd_mem (k := 43) (by decide +kernel) (by decide +kernel)⟩
theorem kmX10_173 : Cond.methodLink RX10 173 yX10_channel ∈ sd_big := sd_mem (k := 1078) (by decide +kernel) (by decide +kernel)
set_option maxRecDepth 100000 in
theorem kYX10_next : sd_calV yX10_next cX10_next 5 (some .int) 1 := ⟨⟨sd_mem (k := 1100) rfl (by decide +kernel), sd_mem (k := 58) (by decide +kernel) (by decide +kernel), by decide +kernel⟩, sd_mem (k := 1099) (by decide +kernel) (by decide +kernel), sd_mem (k := 46) (by decide +kernel) (by decide +kernel)⟩
theorem kmX10_177 : Cond.methodLink RX10 177 yX10_next ∈ sd_big := sd_mem (k := 1097) (by decide +kernel) (by decide +kernel)
theorem kfX10_42 : Cond.fieldLink RX10 42 (TX10 5).1 (TX10 5).2.1 (TX10 5).2.2.1 ∈ sd_big := sd_mem (k := 824) (by decide +kernel) (by decide +kernel)
theorem kfX10_17 : Cond.fieldLink RX10 17 (TX10 2).1 (TX10 2).2.1 (TX10 2).2.2.1 ∈ sd_big := sd_mem (k := 821) (by decide +kernel) (by decide +kernel)
