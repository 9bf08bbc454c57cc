/-! references, as they stand through the makings -/
def mr_0 : jm_R := fun _ _ => none
def mr_1 : jm_R := jm_zr mr_0 1
def mr_2 : jm_R := jm_zr mr_1 2
def mr_3 : jm_R := jm_sr mr_2 1 0 2
def mr_4 : jm_R := jm_zr mr_3 3
def mr_5 : jm_R := jm_zr mr_4 4
def mr_6 : jm_R := jm_sr mr_5 3 0 4
def mr_7 : jm_R := jm_sr mr_6 1 2 3
def mr_8 : jm_R := jm_zr mr_7 5
def mr_9 : jm_R := jm_zr mr_8 6
def mr_10 : jm_R := jm_sr mr_9 5 1 6
def mr_11 : jm_R := jm_zr mr_10 7
def mr_12 : jm_R := jm_sr mr_11 5 2 7
def mr_13 : jm_R := jm_zr mr_12 8
def mr_14 : jm_R := jm_sr mr_13 5 3 8
def mr_15 : jm_R := jm_zr mr_14 9
def mr_16 : jm_R := jm_sr mr_15 5 4 9
def mr_17 : jm_R := jm_zr mr_16 10
def mr_18 : jm_R := jm_sr mr_17 5 5 10
def mr_19 : jm_R := jm_zr mr_18 11
def mr_20 : jm_R := jm_sr mr_19 5 6 11
def mr_21 : jm_R := jm_zr mr_20 12
def mr_22 : jm_R := jm_sr mr_21 5 7 12
def mr_23 : jm_R := jm_zr mr_22 13
def mr_24 : jm_R := jm_sr mr_23 5 8 13
def mr_25 : jm_R := jm_zr mr_24 14
def mr_26 : jm_R := jm_sr mr_25 5 9 14
def mr_27 : jm_R := jm_sr mr_26 1 3 5
def mr_28 : jm_R := jm_zr mr_27 15
def mr_29 : jm_R := jm_zr mr_28 16
def mr_30 : jm_R := jm_sr mr_29 15 1 16
def mr_31 : jm_R := jm_zr mr_30 17
def mr_32 : jm_R := jm_sr mr_31 15 2 17
def mr_33 : jm_R := jm_zr mr_32 18
def mr_34 : jm_R := jm_sr mr_33 15 3 18
def mr_35 : jm_R := jm_zr mr_34 19
def mr_36 : jm_R := jm_sr mr_35 15 4 19
def mr_37 : jm_R := jm_zr mr_36 20
def mr_38 : jm_R := jm_sr mr_37 15 5 20
def mr_39 : jm_R := jm_zr mr_38 21
def mr_40 : jm_R := jm_sr mr_39 15 6 21
def mr_41 : jm_R := jm_zr mr_40 22
def mr_42 : jm_R := jm_sr mr_41 15 7 22
def mr_43 : jm_R := jm_zr mr_42 23
def mr_44 : jm_R := jm_sr mr_43 15 8 23
def mr_45 : jm_R := jm_zr mr_44 24
def mr_46 : jm_R := jm_sr mr_45 15 9 24
def mr_47 : jm_R := jm_sr mr_46 1 4 15
def mr_48 : jm_R := jm_zr mr_47 25
def mr_49 : jm_R := jm_zr mr_48 26
def mr_50 : jm_R := jm_sr mr_49 25 1 26
def mr_51 : jm_R := jm_zr mr_50 27
def mr_52 : jm_R := jm_sr mr_51 25 2 27
def mr_53 : jm_R := jm_zr mr_52 28
def mr_54 : jm_R := jm_sr mr_53 25 3 28
def mr_55 : jm_R := jm_zr mr_54 29
def mr_56 : jm_R := jm_sr mr_55 25 4 29
def mr_57 : jm_R := jm_zr mr_56 30
def mr_58 : jm_R := jm_sr mr_57 25 5 30
def mr_59 : jm_R := jm_zr mr_58 31
def mr_60 : jm_R := jm_sr mr_59 25 6 31
def mr_61 : jm_R := jm_zr mr_60 32
def mr_62 : jm_R := jm_sr mr_61 25 7 32
def mr_63 : jm_R := jm_zr mr_62 33
def mr_64 : jm_R := jm_sr mr_63 25 8 33
def mr_65 : jm_R := jm_zr mr_64 34
def mr_66 : jm_R := jm_sr mr_65 25 9 34
def mr_67 : jm_R := jm_sr mr_66 1 5 25
def mr_68 : jm_R := jm_zr mr_67 35
def mr_69 : jm_R := jm_zr mr_68 36
def mr_70 : jm_R := jm_sr mr_69 35 1 36
def mr_71 : jm_R := jm_zr mr_70 37
def mr_72 : jm_R := jm_sr mr_71 35 2 37
def mr_73 : jm_R := jm_zr mr_72 38
def mr_74 : jm_R := jm_sr mr_73 35 3 38
def mr_75 : jm_R := jm_zr mr_74 39
def mr_76 : jm_R := jm_sr mr_75 35 4 39
def mr_77 : jm_R := jm_zr mr_76 40
def mr_78 : jm_R := jm_sr mr_77 35 5 40
def mr_79 : jm_R := jm_zr mr_78 41
def mr_80 : jm_R := jm_sr mr_79 35 6 41
def mr_81 : jm_R := jm_zr mr_80 42
def mr_82 : jm_R := jm_sr mr_81 35 7 42
def mr_83 : jm_R := jm_zr mr_82 43
def mr_84 : jm_R := jm_sr mr_83 35 8 43
def mr_85 : jm_R := jm_zr mr_84 44
def mr_86 : jm_R := jm_sr mr_85 35 9 44
def mr_87 : jm_R := jm_sr mr_86 1 6 35
def mr_88 : jm_R := jm_zr mr_87 45
def mr_89 : jm_R := jm_zr mr_88 46
def mr_90 : jm_R := jm_sr mr_89 45 0 46
def mr_91 : jm_R := jm_zr mr_90 47
def mr_92 : jm_R := jm_sr mr_91 45 2 47
def mr_93 : jm_R := jm_sr mr_92 1 8 45
def mr_94 : jm_R := jm_zr mr_93 48
def mr_95 : jm_R := jm_zr mr_94 49
def mr_96 : jm_R := jm_sr mr_95 48 5 49
def mr_97 : jm_R := jm_zr mr_96 50
def mr_98 : jm_R := jm_sr mr_97 48 6 50
def mr_99 : jm_R := jm_zr mr_98 51
def mr_100 : jm_R := jm_sr mr_99 48 7 51
def mr_101 : jm_R := jm_zr mr_100 52
def mr_102 : jm_R := jm_sr mr_101 48 8 52
def mr_103 : jm_R := jm_sr mr_102 1 10 48
def mr_104 : jm_R := jm_zr mr_103 53
def mr_105 : jm_R := jm_zr mr_104 54
def mr_106 : jm_R := jm_sr mr_105 53 0 54
def mr_107 : jm_R := jm_sr mr_106 1 11 53
def mr_108 : jm_R := jm_zr mr_107 55
def mr_109 : jm_R := jm_zr mr_108 56
def mr_110 : jm_R := jm_sr mr_109 55 0 56
def mr_111 : jm_R := jm_sr mr_110 1 12 55
def mr_112 : jm_R := jm_zr mr_111 57
def mr_113 : jm_R := jm_zr mr_112 58
def mr_114 : jm_R := jm_sr mr_113 57 0 58
def mr_115 : jm_R := jm_sr mr_114 1 13 57
def mr_116 : jm_R := jm_zr mr_115 59
def mr_117 : jm_R := jm_zr mr_116 60
def mr_118 : jm_R := jm_sr mr_117 59 1 60
def mr_119 : jm_R := jm_zr mr_118 61
def mr_120 : jm_R := jm_sr mr_119 59 2 61
def mr_121 : jm_R := jm_zr mr_120 62
def mr_122 : jm_R := jm_sr mr_121 59 3 62
def mr_123 : jm_R := jm_zr mr_122 63
def mr_124 : jm_R := jm_sr mr_123 59 4 63
def mr_125 : jm_R := jm_zr mr_124 64
def mr_126 : jm_R := jm_sr mr_125 59 5 64
def mr_127 : jm_R := jm_zr mr_126 65
def mr_128 : jm_R := jm_sr mr_127 59 6 65
def mr_129 : jm_R := jm_zr mr_128 66
def mr_130 : jm_R := jm_sr mr_129 59 7 66
def mr_131 : jm_R := jm_zr mr_130 67
def mr_132 : jm_R := jm_sr mr_131 59 8 67
def mr_133 : jm_R := jm_zr mr_132 68
def mr_134 : jm_R := jm_sr mr_133 59 9 68
def mr_135 : jm_R := jm_zr mr_134 69
def mr_136 : jm_R := jm_sr mr_135 59 10 69
def mr_137 : jm_R := jm_zr mr_136 70
def mr_138 : jm_R := jm_sr mr_137 59 11 70
def mr_139 : jm_R := jm_zr mr_138 71
def mr_140 : jm_R := jm_sr mr_139 59 13 71
def mr_141 : jm_R := jm_zr mr_140 72
def mr_142 : jm_R := jm_sr mr_141 59 14 72
def mr_143 : jm_R := jm_zr mr_142 73
def mr_144 : jm_R := jm_sr mr_143 59 16 73
def mr_145 : jm_R := jm_zr mr_144 74
def mr_146 : jm_R := jm_sr mr_145 59 20 74
def mr_147 : jm_R := jm_zr mr_146 75
def mr_148 : jm_R := jm_sr mr_147 59 21 75
def mr_149 : jm_R := jm_zr mr_148 76
def mr_150 : jm_R := jm_sr mr_149 59 27 76
def mr_151 : jm_R := jm_zr mr_150 77
def mr_152 : jm_R := jm_sr mr_151 59 28 77
def mr_153 : jm_R := jm_zr mr_152 78
def mr_154 : jm_R := jm_sr mr_153 59 29 78
/-! facts of methods, fields, cells, constants -/
def mY_Law (L : Nat) (xs : Nat → Int32) : jm_Y := (⟨"LyingBeaconsLaw", "law", "([I)Z"⟩, code, 4, some .boolean, room_1, some (L, xs))
def mY_X_init : jm_Y := (⟨"LyingBeacons", "<init>", "()V"⟩, prog_1_method_1_code, 1, none, { frames := 2, cells := 57, slots := 1324, locals := 41 }, none)
theorem cw_X_init : Cond.code (jm_nm mY_X_init) (jm_cd mY_X_init) (jm_ml mY_X_init) (jm_rt mY_X_init) ∈ jm_tbl := jm_in (List.mem_of_getElem? (i := 79) (by decide +kernel)) rfl
theorem ini_X : Cond.initialized "LyingBeacons" ∈ jm_tbl := jm_in (List.mem_of_getElem? (i := 63) (by decide +kernel)) rfl
theorem ok_X_init : jm_ok mY_X_init 0 := ⟨by decide, rfl, cw_X_init, ini_X, by decide +kernel⟩
theorem oi_im : Cond.instanceMethod Lib.objectInit ∈ jm_tbl := jm_in (List.mem_of_getElem? (i := 81) (by decide +kernel)) rfl
theorem oi_cd : Cond.code Lib.objectInit ⟨#[0xb1]⟩ 1 none ∈ jm_tbl := jm_in (List.mem_of_getElem? (i := 82) (by decide +kernel)) rfl
theorem mlo_X_3 : Cond.methodLink "LyingBeacons" 3 Lib.objectInit ∈ jm_tbl := jm_in (List.mem_of_getElem? (i := 80) (by decide +kernel)) rfl
theorem cs_300 : (Int16.ofInt 300).toInt32 = (300 : Int32) := by decide
theorem fo_X_9 : jm_fo "LyingBeacons" 9 7 0 RX8 TX8 14 := ⟨inY8, rfl, by decide, jm_in (List.mem_of_getElem? (i := 285) (by decide +kernel)) rfl⟩
theorem fp_X_9 : jm_fp "LyingBeacons" 9 7 0 RX8 TX8 14 true (.array .byte) := ⟨fo_X_9, ⟨tyX8, tyX8_ok⟩, nmX8, rfl, by decide +kernel, fun h => by first | rfl | cases h⟩
theorem sh_1 : jm_sh 1 = .inr 7 := rfl
theorem ge_1 : 1 ≤ 1 := by decide
theorem le_1_2 : 1 ≤ 2 := by decide
theorem ge_2 : 1 ≤ 2 := by decide
theorem ci_0 : Int32.ofInt 0 = (0 : Int32) := by decide
theorem fo_X_13 : jm_fo "LyingBeacons" 13 7 1 RX8 TX8 14 := ⟨inY8, rfl, by decide, jm_in (List.mem_of_getElem? (i := 286) (by decide +kernel)) rfl⟩
theorem fp_X_13 : jm_fp "LyingBeacons" 13 7 1 RX8 TX8 14 false .int := ⟨fo_X_13, ⟨tyX8, tyX8_ok⟩, nmX8, rfl, by decide +kernel, fun h => by first | rfl | cases h⟩
def mY_Re_init : jm_Y := (⟨"LyingBeacons$Reader", "<init>", "()V"⟩, prog_7_method_1_code, 1, none, { frames := 1, cells := 1, slots := 4, locals := 20 }, none)
theorem cw_Re_init : Cond.code (jm_nm mY_Re_init) (jm_cd mY_Re_init) (jm_ml mY_Re_init) (jm_rt mY_Re_init) ∈ jm_tbl := jm_in (List.mem_of_getElem? (i := 87) (by decide +kernel)) rfl
theorem ini_Re : Cond.initialized "LyingBeacons$Reader" ∈ jm_tbl := jm_in (List.mem_of_getElem? (i := 64) (by decide +kernel)) rfl
theorem ok_Re_init : jm_ok mY_Re_init 0 := ⟨by decide, rfl, cw_Re_init, ini_Re, by decide +kernel⟩
theorem mlo_Re_3 : Cond.methodLink "LyingBeacons$Reader" 3 Lib.objectInit ∈ jm_tbl := jm_in (List.mem_of_getElem? (i := 88) (by decide +kernel)) rfl
theorem ci_4 : Int32.ofInt 4 = (4 : Int32) := by decide
theorem fo_Re_11 : jm_fo "LyingBeacons$Reader" 11 4 0 RX5 TX5 7 := ⟨inY5, rfl, by decide, jm_in (List.mem_of_getElem? (i := 89) (by decide +kernel)) rfl⟩
theorem fp_Re_11 : jm_fp "LyingBeacons$Reader" 11 4 0 RX5 TX5 7 true (.array .int) := ⟨fo_Re_11, ⟨tyX5, tyX5_ok⟩, nmX5, rfl, by decide +kernel, fun h => by first | rfl | cases h⟩
theorem sh_3 : jm_sh 3 = .inr 4 := rfl
theorem ge_3 : 1 ≤ 3 := by decide
theorem le_3_4 : 3 ≤ 4 := by decide
theorem ge_4 : 1 ≤ 4 := by decide
theorem fo_Re_15 : jm_fo "LyingBeacons$Reader" 15 4 1 RX5 TX5 7 := ⟨inY5, rfl, by decide, jm_in (List.mem_of_getElem? (i := 90) (by decide +kernel)) rfl⟩
theorem fp_Re_15 : jm_fp "LyingBeacons$Reader" 15 4 1 RX5 TX5 7 false .int := ⟨fo_Re_15, ⟨tyX5, tyX5_ok⟩, nmX5, rfl, by decide +kernel, fun h => by first | rfl | cases h⟩
theorem fo_Re_19 : jm_fo "LyingBeacons$Reader" 19 4 2 RX5 TX5 7 := ⟨inY5, rfl, by decide, jm_in (List.mem_of_getElem? (i := 91) (by decide +kernel)) rfl⟩
theorem fp_Re_19 : jm_fp "LyingBeacons$Reader" 19 4 2 RX5 TX5 7 false .int := ⟨fo_Re_19, ⟨tyX5, tyX5_ok⟩, nmX5, rfl, by decide +kernel, fun h => by first | rfl | cases h⟩
theorem fo_Re_22 : jm_fo "LyingBeacons$Reader" 22 4 3 RX5 TX5 7 := ⟨inY5, rfl, by decide, jm_in (List.mem_of_getElem? (i := 92) (by decide +kernel)) rfl⟩
theorem fp_Re_22 : jm_fp "LyingBeacons$Reader" 22 4 3 RX5 TX5 7 false .int := ⟨fo_Re_22, ⟨tyX5, tyX5_ok⟩, nmX5, rfl, by decide +kernel, fun h => by first | rfl | cases h⟩
theorem ci_1 : Int32.ofInt 1 = (1 : Int32) := by decide
theorem fo_Re_25 : jm_fo "LyingBeacons$Reader" 25 4 4 RX5 TX5 7 := ⟨inY5, rfl, by decide, jm_in (List.mem_of_getElem? (i := 93) (by decide +kernel)) rfl⟩
theorem fp_Re_25 : jm_fp "LyingBeacons$Reader" 25 4 4 RX5 TX5 7 false .boolean := ⟨fo_Re_25, ⟨tyX5, tyX5_ok⟩, nmX5, rfl, by decide +kernel, fun h => by first | rfl | cases h⟩
theorem fo_Re_29 : jm_fo "LyingBeacons$Reader" 29 4 5 RX5 TX5 7 := ⟨inY5, rfl, by decide, jm_in (List.mem_of_getElem? (i := 94) (by decide +kernel)) rfl⟩
theorem fp_Re_29 : jm_fp "LyingBeacons$Reader" 29 4 5 RX5 TX5 7 false .int := ⟨fo_Re_29, ⟨tyX5, tyX5_ok⟩, nmX5, rfl, by decide +kernel, fun h => by first | rfl | cases h⟩
theorem fo_Re_32 : jm_fo "LyingBeacons$Reader" 32 4 6 RX5 TX5 7 := ⟨inY5, rfl, by decide, jm_in (List.mem_of_getElem? (i := 95) (by decide +kernel)) rfl⟩
theorem fp_Re_32 : jm_fp "LyingBeacons$Reader" 32 4 6 RX5 TX5 7 false .int := ⟨fo_Re_32, ⟨tyX5, tyX5_ok⟩, nmX5, rfl, by decide +kernel, fun h => by first | rfl | cases h⟩
theorem ac_int : Cond.arrayClass .int ∈ jm_tbl := jm_in (List.mem_of_getElem? (i := 112) (by decide +kernel)) rfl
theorem sh_4 : jm_sh 4 = .inl (.int, 4) := rfl
theorem lk_X_init__Re_init : jm_lk mY_X_init mY_Re_init := ⟨Nat.le_of_ble_eq_true rfl, Nat.le_of_ble_eq_true rfl⟩
theorem fo_X_20 : jm_fo "LyingBeacons" 20 7 2 RX8 TX8 14 := ⟨inY8, rfl, by decide, jm_in (List.mem_of_getElem? (i := 287) (by decide +kernel)) rfl⟩
theorem fp_X_20 : jm_fp "LyingBeacons" 20 7 2 RX8 TX8 14 true (.object "LyingBeacons$Reader") := ⟨fo_X_20, ⟨tyX8, tyX8_ok⟩, nmX8, rfl, by decide +kernel, fun h => by first | rfl | cases h⟩
theorem le_1_4 : 1 ≤ 4 := by decide
def mY_Ne_init : jm_Y := (⟨"LyingBeacons$Net", "<init>", "()V"⟩, prog_5_method_1_code, 1, none, { frames := 1, cells := 9, slots := 180, locals := 21 }, none)
theorem cw_Ne_init : Cond.code (jm_nm mY_Ne_init) (jm_cd mY_Ne_init) (jm_ml mY_Ne_init) (jm_rt mY_Ne_init) ∈ jm_tbl := jm_in (List.mem_of_getElem? (i := 117) (by decide +kernel)) rfl
theorem ini_Ne : Cond.initialized "LyingBeacons$Net" ∈ jm_tbl := jm_in (List.mem_of_getElem? (i := 65) (by decide +kernel)) rfl
theorem ok_Ne_init : jm_ok mY_Ne_init 0 := ⟨by decide, rfl, cw_Ne_init, ini_Ne, by decide +kernel⟩
theorem mlo_Ne_3 : Cond.methodLink "LyingBeacons$Net" 3 Lib.objectInit ∈ jm_tbl := jm_in (List.mem_of_getElem? (i := 118) (by decide +kernel)) rfl
theorem fo_Ne_9 : jm_fo "LyingBeacons$Net" 9 2 0 RX3 TX3 12 := ⟨inY3, rfl, by decide, jm_in (List.mem_of_getElem? (i := 123) (by decide +kernel)) rfl⟩
theorem fp_Ne_9 : jm_fp "LyingBeacons$Net" 9 2 0 RX3 TX3 12 false .int := ⟨fo_Ne_9, ⟨tyX3, tyX3_ok⟩, nmX3, rfl, by decide +kernel, fun h => by first | rfl | cases h⟩
theorem cb_10 : (Int8.ofInt 10).toInt32 = (10 : Int32) := by decide
theorem fo_Ne_15 : jm_fo "LyingBeacons$Net" 15 2 1 RX3 TX3 12 := ⟨inY3, rfl, by decide, jm_in (List.mem_of_getElem? (i := 126) (by decide +kernel)) rfl⟩
theorem fp_Ne_15 : jm_fp "LyingBeacons$Net" 15 2 1 RX3 TX3 12 true (.array .int) := ⟨fo_Ne_15, ⟨tyX3, tyX3_ok⟩, nmX3, rfl, by decide +kernel, fun h => by first | rfl | cases h⟩
theorem sh_5 : jm_sh 5 = .inr 2 := rfl
theorem ge_5 : 1 ≤ 5 := by decide
theorem le_5_6 : 5 ≤ 6 := by decide
theorem ge_6 : 1 ≤ 6 := by decide
theorem fo_Ne_19 : jm_fo "LyingBeacons$Net" 19 2 2 RX3 TX3 12 := ⟨inY3, rfl, by decide, jm_in (List.mem_of_getElem? (i := 132) (by decide +kernel)) rfl⟩
theorem fp_Ne_19 : jm_fp "LyingBeacons$Net" 19 2 2 RX3 TX3 12 true (.array .int) := ⟨fo_Ne_19, ⟨tyX3, tyX3_ok⟩, nmX3, rfl, by decide +kernel, fun h => by first | rfl | cases h⟩
theorem le_5_7 : 5 ≤ 7 := by decide
theorem ge_7 : 1 ≤ 7 := by decide
theorem fo_Ne_22 : jm_fo "LyingBeacons$Net" 22 2 3 RX3 TX3 12 := ⟨inY3, rfl, by decide, jm_in (List.mem_of_getElem? (i := 138) (by decide +kernel)) rfl⟩
theorem fp_Ne_22 : jm_fp "LyingBeacons$Net" 22 2 3 RX3 TX3 12 true (.array .int) := ⟨fo_Ne_22, ⟨tyX3, tyX3_ok⟩, nmX3, rfl, by decide +kernel, fun h => by first | rfl | cases h⟩
theorem le_5_8 : 5 ≤ 8 := by decide
theorem ge_8 : 1 ≤ 8 := by decide
theorem fo_Ne_25 : jm_fo "LyingBeacons$Net" 25 2 4 RX3 TX3 12 := ⟨inY3, rfl, by decide, jm_in (List.mem_of_getElem? (i := 144) (by decide +kernel)) rfl⟩
theorem fp_Ne_25 : jm_fp "LyingBeacons$Net" 25 2 4 RX3 TX3 12 true (.array .int) := ⟨fo_Ne_25, ⟨tyX3, tyX3_ok⟩, nmX3, rfl, by decide +kernel, fun h => by first | rfl | cases h⟩
theorem le_5_9 : 5 ≤ 9 := by decide
theorem ge_9 : 1 ≤ 9 := by decide
theorem fo_Ne_28 : jm_fo "LyingBeacons$Net" 28 2 5 RX3 TX3 12 := ⟨inY3, rfl, by decide, jm_in (List.mem_of_getElem? (i := 150) (by decide +kernel)) rfl⟩
theorem fp_Ne_28 : jm_fp "LyingBeacons$Net" 28 2 5 RX3 TX3 12 true (.array .int) := ⟨fo_Ne_28, ⟨tyX3, tyX3_ok⟩, nmX3, rfl, by decide +kernel, fun h => by first | rfl | cases h⟩
theorem le_5_10 : 5 ≤ 10 := by decide
theorem ge_10 : 1 ≤ 10 := by decide
theorem fo_Ne_31 : jm_fo "LyingBeacons$Net" 31 2 6 RX3 TX3 12 := ⟨inY3, rfl, by decide, jm_in (List.mem_of_getElem? (i := 154) (by decide +kernel)) rfl⟩
theorem fp_Ne_31 : jm_fp "LyingBeacons$Net" 31 2 6 RX3 TX3 12 true (.array .int) := ⟨fo_Ne_31, ⟨tyX3, tyX3_ok⟩, nmX3, rfl, by decide +kernel, fun h => by first | rfl | cases h⟩
theorem le_5_11 : 5 ≤ 11 := by decide
theorem ge_11 : 1 ≤ 11 := by decide
theorem fo_Ne_34 : jm_fo "LyingBeacons$Net" 34 2 7 RX3 TX3 12 := ⟨inY3, rfl, by decide, jm_in (List.mem_of_getElem? (i := 157) (by decide +kernel)) rfl⟩
theorem fp_Ne_34 : jm_fp "LyingBeacons$Net" 34 2 7 RX3 TX3 12 true (.array .long) := ⟨fo_Ne_34, ⟨tyX3, tyX3_ok⟩, nmX3, rfl, by decide +kernel, fun h => by first | rfl | cases h⟩
theorem le_5_12 : 5 ≤ 12 := by decide
theorem ge_12 : 1 ≤ 12 := by decide
theorem fo_Ne_38 : jm_fo "LyingBeacons$Net" 38 2 8 RX3 TX3 12 := ⟨inY3, rfl, by decide, jm_in (List.mem_of_getElem? (i := 160) (by decide +kernel)) rfl⟩
theorem fp_Ne_38 : jm_fp "LyingBeacons$Net" 38 2 8 RX3 TX3 12 true (.array .long) := ⟨fo_Ne_38, ⟨tyX3, tyX3_ok⟩, nmX3, rfl, by decide +kernel, fun h => by first | rfl | cases h⟩
theorem le_5_13 : 5 ≤ 13 := by decide
theorem ge_13 : 1 ≤ 13 := by decide
theorem cb_100 : (Int8.ofInt 100).toInt32 = (100 : Int32) := by decide
theorem fo_Ne_41 : jm_fo "LyingBeacons$Net" 41 2 9 RX3 TX3 12 := ⟨inY3, rfl, by decide, jm_in (List.mem_of_getElem? (i := 163) (by decide +kernel)) rfl⟩
theorem fp_Ne_41 : jm_fp "LyingBeacons$Net" 41 2 9 RX3 TX3 12 true (.array .long) := ⟨fo_Ne_41, ⟨tyX3, tyX3_ok⟩, nmX3, rfl, by decide +kernel, fun h => by first | rfl | cases h⟩
theorem le_5_14 : 5 ≤ 14 := by decide
theorem ge_14 : 1 ≤ 14 := by decide
theorem fo_Ne_44 : jm_fo "LyingBeacons$Net" 44 2 10 RX3 TX3 12 := ⟨inY3, rfl, by decide, jm_in (List.mem_of_getElem? (i := 165) (by decide +kernel)) rfl⟩
theorem fp_Ne_44 : jm_fp "LyingBeacons$Net" 44 2 10 RX3 TX3 12 false .int := ⟨fo_Ne_44, ⟨tyX3, tyX3_ok⟩, nmX3, rfl, by decide +kernel, fun h => by first | rfl | cases h⟩
theorem cl_0 : Int64.ofNat ((0 : Fin 2) : Nat) = (0 : Int64) := by decide
theorem fo_Ne_47 : jm_fo "LyingBeacons$Net" 47 2 11 RX3 TX3 12 := ⟨inY3, rfl, by decide, jm_in (List.mem_of_getElem? (i := 168) (by decide +kernel)) rfl⟩
theorem fp_Ne_47 : jm_fp "LyingBeacons$Net" 47 2 11 RX3 TX3 12 false .long := ⟨fo_Ne_47, ⟨tyX3, tyX3_ok⟩, nmX3, rfl, by decide +kernel, fun h => by first | rfl | cases h⟩
def mY_Ne_clear : jm_Y := (⟨"LyingBeacons$Net", "clear", "()V"⟩, prog_5_method_2_code, 2, none, { frames := 0, cells := 0, slots := 0, locals := 0 }, none)
theorem cw_Ne_clear : Cond.code (jm_nm mY_Ne_clear) (jm_cd mY_Ne_clear) (jm_ml mY_Ne_clear) (jm_rt mY_Ne_clear) ∈ jm_tbl := jm_in (List.mem_of_getElem? (i := 122) (by decide +kernel)) rfl
theorem ok_Ne_clear : jm_ok mY_Ne_clear 0 := ⟨by decide, rfl, cw_Ne_clear, ini_Ne, by decide +kernel⟩
theorem mr_26_5_9 : mr_26 5 9 = some 14 := by decide
theorem sh_14 : jm_sh 14 = .inl (.long, 100) := rfl
theorem le_14_14 : 14 ≤ 14 := by decide
theorem mr_26_5_1 : mr_26 5 1 = some 6 := by decide
theorem ci_m1 : Int32.ofInt (-1) = (-1 : Int32) := by decide
theorem mr_26_5_2 : mr_26 5 2 = some 7 := by decide
theorem mr_26_5_3 : mr_26 5 3 = some 8 := by decide
theorem mr_26_5_4 : mr_26 5 4 = some 9 := by decide
theorem mr_26_5_5 : mr_26 5 5 = some 10 := by decide
theorem cb_99 : (Int8.ofInt 99).toInt32 = (99 : Int32) := by decide
theorem mr_26_5_6 : mr_26 5 6 = some 11 := by decide
theorem mr_26_5_7 : mr_26 5 7 = some 12 := by decide
theorem mr_26_5_8 : mr_26 5 8 = some 13 := by decide
theorem sh_13 : jm_sh 13 = .inl (.long, 10) := rfl
theorem le_13_14 : 13 ≤ 14 := by decide
theorem sh_12 : jm_sh 12 = .inl (.long, 10) := rfl
theorem le_12_14 : 12 ≤ 14 := by decide
theorem sh_11 : jm_sh 11 = .inl (.int, 10) := rfl
theorem le_11_14 : 11 ≤ 14 := by decide
theorem sh_10 : jm_sh 10 = .inl (.int, 10) := rfl
theorem le_10_14 : 10 ≤ 14 := by decide
theorem sh_9 : jm_sh 9 = .inl (.int, 10) := rfl
theorem le_9_14 : 9 ≤ 14 := by decide
theorem sh_8 : jm_sh 8 = .inl (.int, 10) := rfl
theorem le_8_14 : 8 ≤ 14 := by decide
theorem sh_7 : jm_sh 7 = .inl (.int, 10) := rfl
theorem le_7_14 : 7 ≤ 14 := by decide
theorem sh_6 : jm_sh 6 = .inl (.int, 10) := rfl
theorem le_6_14 : 6 ≤ 14 := by decide
theorem l0_Ne_init__Ne_clear : jm_l0 mY_Ne_init mY_Ne_clear := ⟨⟨Nat.le_of_ble_eq_true rfl, Nat.le_of_ble_eq_true rfl⟩, rfl, rfl⟩
theorem ml_Ne_51 : Cond.methodLink "LyingBeacons$Net" 51 ⟨"LyingBeacons$Net", "clear", "()V"⟩ ∈ jm_tbl := jm_in (List.mem_of_getElem? (i := 119) (by decide +kernel)) rfl
theorem im_Ne_clear : Cond.instanceMethod ⟨"LyingBeacons$Net", "clear", "()V"⟩ ∈ jm_tbl := jm_in (List.mem_of_getElem? (i := 120) (by decide +kernel)) rfl
theorem se_Ne_clear : Cond.selects "LyingBeacons$Net" ⟨"LyingBeacons$Net", "clear", "()V"⟩ ⟨"LyingBeacons$Net", "clear", "()V"⟩ ∈ jm_tbl := jm_in (List.mem_of_getElem? (i := 121) (by decide +kernel)) rfl
theorem ac_long : Cond.arrayClass .long ∈ jm_tbl := jm_in (List.mem_of_getElem? (i := 196) (by decide +kernel)) rfl
theorem le_5_5 : 5 ≤ 5 := by decide
theorem lk_X_init__Ne_init : jm_lk mY_X_init mY_Ne_init := ⟨Nat.le_of_ble_eq_true rfl, Nat.le_of_ble_eq_true rfl⟩
theorem fo_X_27 : jm_fo "LyingBeacons" 27 7 3 RX8 TX8 14 := ⟨inY8, rfl, by decide, jm_in (List.mem_of_getElem? (i := 288) (by decide +kernel)) rfl⟩
theorem fp_X_27 : jm_fp "LyingBeacons" 27 7 3 RX8 TX8 14 true (.object "LyingBeacons$Net") := ⟨fo_X_27, ⟨tyX8, tyX8_ok⟩, nmX8, rfl, by decide +kernel, fun h => by first | rfl | cases h⟩
theorem le_1_14 : 1 ≤ 14 := by decide
theorem sh_15 : jm_sh 15 = .inr 2 := rfl
theorem ge_15 : 1 ≤ 15 := by decide
theorem le_15_16 : 15 ≤ 16 := by decide
theorem ge_16 : 1 ≤ 16 := by decide
theorem le_15_17 : 15 ≤ 17 := by decide
theorem ge_17 : 1 ≤ 17 := by decide
theorem le_15_18 : 15 ≤ 18 := by decide
theorem ge_18 : 1 ≤ 18 := by decide
theorem le_15_19 : 15 ≤ 19 := by decide
theorem ge_19 : 1 ≤ 19 := by decide
theorem le_15_20 : 15 ≤ 20 := by decide
theorem ge_20 : 1 ≤ 20 := by decide
theorem le_15_21 : 15 ≤ 21 := by decide
theorem ge_21 : 1 ≤ 21 := by decide
theorem le_15_22 : 15 ≤ 22 := by decide
theorem ge_22 : 1 ≤ 22 := by decide
theorem le_15_23 : 15 ≤ 23 := by decide
theorem ge_23 : 1 ≤ 23 := by decide
theorem le_15_24 : 15 ≤ 24 := by decide
theorem ge_24 : 1 ≤ 24 := by decide
theorem mr_46_15_9 : mr_46 15 9 = some 24 := by decide
theorem sh_24 : jm_sh 24 = .inl (.long, 100) := rfl
theorem le_24_24 : 24 ≤ 24 := by decide
theorem mr_46_15_1 : mr_46 15 1 = some 16 := by decide
theorem mr_46_15_2 : mr_46 15 2 = some 17 := by decide
theorem mr_46_15_3 : mr_46 15 3 = some 18 := by decide
theorem mr_46_15_4 : mr_46 15 4 = some 19 := by decide
theorem mr_46_15_5 : mr_46 15 5 = some 20 := by decide
theorem mr_46_15_6 : mr_46 15 6 = some 21 := by decide
theorem mr_46_15_7 : mr_46 15 7 = some 22 := by decide
theorem mr_46_15_8 : mr_46 15 8 = some 23 := by decide
theorem sh_23 : jm_sh 23 = .inl (.long, 10) := rfl
theorem le_23_24 : 23 ≤ 24 := by decide
theorem sh_22 : jm_sh 22 = .inl (.long, 10) := rfl
theorem le_22_24 : 22 ≤ 24 := by decide
theorem sh_21 : jm_sh 21 = .inl (.int, 10) := rfl
theorem le_21_24 : 21 ≤ 24 := by decide
theorem sh_20 : jm_sh 20 = .inl (.int, 10) := rfl
theorem le_20_24 : 20 ≤ 24 := by decide
theorem sh_19 : jm_sh 19 = .inl (.int, 10) := rfl
theorem le_19_24 : 19 ≤ 24 := by decide
theorem sh_18 : jm_sh 18 = .inl (.int, 10) := rfl
theorem le_18_24 : 18 ≤ 24 := by decide
theorem sh_17 : jm_sh 17 = .inl (.int, 10) := rfl
theorem le_17_24 : 17 ≤ 24 := by decide
theorem sh_16 : jm_sh 16 = .inl (.int, 10) := rfl
theorem le_16_24 : 16 ≤ 24 := by decide
theorem le_15_15 : 15 ≤ 15 := by decide
theorem fo_X_31 : jm_fo "LyingBeacons" 31 7 4 RX8 TX8 14 := ⟨inY8, rfl, by decide, jm_in (List.mem_of_getElem? (i := 289) (by decide +kernel)) rfl⟩
theorem fp_X_31 : jm_fp "LyingBeacons" 31 7 4 RX8 TX8 14 true (.object "LyingBeacons$Net") := ⟨fo_X_31, ⟨tyX8, tyX8_ok⟩, nmX8, rfl, by decide +kernel, fun h => by first | rfl | cases h⟩
theorem le_1_24 : 1 ≤ 24 := by decide
theorem sh_25 : jm_sh 25 = .inr 2 := rfl
theorem ge_25 : 1 ≤ 25 := by decide
theorem le_25_26 : 25 ≤ 26 := by decide
theorem ge_26 : 1 ≤ 26 := by decide
theorem le_25_27 : 25 ≤ 27 := by decide
theorem ge_27 : 1 ≤ 27 := by decide
theorem le_25_28 : 25 ≤ 28 := by decide
theorem ge_28 : 1 ≤ 28 := by decide
theorem le_25_29 : 25 ≤ 29 := by decide
theorem ge_29 : 1 ≤ 29 := by decide
theorem le_25_30 : 25 ≤ 30 := by decide
theorem ge_30 : 1 ≤ 30 := by decide
theorem le_25_31 : 25 ≤ 31 := by decide
theorem ge_31 : 1 ≤ 31 := by decide
theorem le_25_32 : 25 ≤ 32 := by decide
theorem ge_32 : 1 ≤ 32 := by decide
theorem le_25_33 : 25 ≤ 33 := by decide
theorem ge_33 : 1 ≤ 33 := by decide
theorem le_25_34 : 25 ≤ 34 := by decide
theorem ge_34 : 1 ≤ 34 := by decide
theorem mr_66_25_9 : mr_66 25 9 = some 34 := by decide
theorem sh_34 : jm_sh 34 = .inl (.long, 100) := rfl
theorem le_34_34 : 34 ≤ 34 := by decide
theorem mr_66_25_1 : mr_66 25 1 = some 26 := by decide
theorem mr_66_25_2 : mr_66 25 2 = some 27 := by decide
theorem mr_66_25_3 : mr_66 25 3 = some 28 := by decide
theorem mr_66_25_4 : mr_66 25 4 = some 29 := by decide
theorem mr_66_25_5 : mr_66 25 5 = some 30 := by decide
theorem mr_66_25_6 : mr_66 25 6 = some 31 := by decide
theorem mr_66_25_7 : mr_66 25 7 = some 32 := by decide
theorem mr_66_25_8 : mr_66 25 8 = some 33 := by decide
theorem sh_33 : jm_sh 33 = .inl (.long, 10) := rfl
theorem le_33_34 : 33 ≤ 34 := by decide
theorem sh_32 : jm_sh 32 = .inl (.long, 10) := rfl
theorem le_32_34 : 32 ≤ 34 := by decide
theorem sh_31 : jm_sh 31 = .inl (.int, 10) := rfl
theorem le_31_34 : 31 ≤ 34 := by decide
theorem sh_30 : jm_sh 30 = .inl (.int, 10) := rfl
theorem le_30_34 : 30 ≤ 34 := by decide
theorem sh_29 : jm_sh 29 = .inl (.int, 10) := rfl
theorem le_29_34 : 29 ≤ 34 := by decide
theorem sh_28 : jm_sh 28 = .inl (.int, 10) := rfl
theorem le_28_34 : 28 ≤ 34 := by decide
theorem sh_27 : jm_sh 27 = .inl (.int, 10) := rfl
theorem le_27_34 : 27 ≤ 34 := by decide
theorem sh_26 : jm_sh 26 = .inl (.int, 10) := rfl
theorem le_26_34 : 26 ≤ 34 := by decide
theorem le_25_25 : 25 ≤ 25 := by decide
theorem fo_X_34 : jm_fo "LyingBeacons" 34 7 5 RX8 TX8 14 := ⟨inY8, rfl, by decide, jm_in (List.mem_of_getElem? (i := 290) (by decide +kernel)) rfl⟩
theorem fp_X_34 : jm_fp "LyingBeacons" 34 7 5 RX8 TX8 14 true (.object "LyingBeacons$Net") := ⟨fo_X_34, ⟨tyX8, tyX8_ok⟩, nmX8, rfl, by decide +kernel, fun h => by first | rfl | cases h⟩
theorem le_1_34 : 1 ≤ 34 := by decide
theorem sh_35 : jm_sh 35 = .inr 2 := rfl
theorem ge_35 : 1 ≤ 35 := by decide
theorem le_35_36 : 35 ≤ 36 := by decide
theorem ge_36 : 1 ≤ 36 := by decide
theorem le_35_37 : 35 ≤ 37 := by decide
theorem ge_37 : 1 ≤ 37 := by decide
theorem le_35_38 : 35 ≤ 38 := by decide
theorem ge_38 : 1 ≤ 38 := by decide
theorem le_35_39 : 35 ≤ 39 := by decide
theorem ge_39 : 1 ≤ 39 := by decide
theorem le_35_40 : 35 ≤ 40 := by decide
theorem ge_40 : 1 ≤ 40 := by decide
theorem le_35_41 : 35 ≤ 41 := by decide
theorem ge_41 : 1 ≤ 41 := by decide
theorem le_35_42 : 35 ≤ 42 := by decide
theorem ge_42 : 1 ≤ 42 := by decide
theorem le_35_43 : 35 ≤ 43 := by decide
theorem ge_43 : 1 ≤ 43 := by decide
theorem le_35_44 : 35 ≤ 44 := by decide
theorem ge_44 : 1 ≤ 44 := by decide
theorem mr_86_35_9 : mr_86 35 9 = some 44 := by decide
theorem sh_44 : jm_sh 44 = .inl (.long, 100) := rfl
theorem le_44_44 : 44 ≤ 44 := by decide
theorem mr_86_35_1 : mr_86 35 1 = some 36 := by decide
theorem mr_86_35_2 : mr_86 35 2 = some 37 := by decide
theorem mr_86_35_3 : mr_86 35 3 = some 38 := by decide
theorem mr_86_35_4 : mr_86 35 4 = some 39 := by decide
theorem mr_86_35_5 : mr_86 35 5 = some 40 := by decide
theorem mr_86_35_6 : mr_86 35 6 = some 41 := by decide
theorem mr_86_35_7 : mr_86 35 7 = some 42 := by decide
theorem mr_86_35_8 : mr_86 35 8 = some 43 := by decide
theorem sh_43 : jm_sh 43 = .inl (.long, 10) := rfl
theorem le_43_44 : 43 ≤ 44 := by decide
theorem sh_42 : jm_sh 42 = .inl (.long, 10) := rfl
theorem le_42_44 : 42 ≤ 44 := by decide
theorem sh_41 : jm_sh 41 = .inl (.int, 10) := rfl
theorem le_41_44 : 41 ≤ 44 := by decide
theorem sh_40 : jm_sh 40 = .inl (.int, 10) := rfl
theorem le_40_44 : 40 ≤ 44 := by decide
theorem sh_39 : jm_sh 39 = .inl (.int, 10) := rfl
theorem le_39_44 : 39 ≤ 44 := by decide
theorem sh_38 : jm_sh 38 = .inl (.int, 10) := rfl
theorem le_38_44 : 38 ≤ 44 := by decide
theorem sh_37 : jm_sh 37 = .inl (.int, 10) := rfl
theorem le_37_44 : 37 ≤ 44 := by decide
theorem sh_36 : jm_sh 36 = .inl (.int, 10) := rfl
theorem le_36_44 : 36 ≤ 44 := by decide
theorem le_35_35 : 35 ≤ 35 := by decide
theorem fo_X_37 : jm_fo "LyingBeacons" 37 7 6 RX8 TX8 14 := ⟨inY8, rfl, by decide, jm_in (List.mem_of_getElem? (i := 291) (by decide +kernel)) rfl⟩
theorem fp_X_37 : jm_fp "LyingBeacons" 37 7 6 RX8 TX8 14 true (.object "LyingBeacons$Net") := ⟨fo_X_37, ⟨tyX8, tyX8_ok⟩, nmX8, rfl, by decide +kernel, fun h => by first | rfl | cases h⟩
theorem le_1_44 : 1 ≤ 44 := by decide
theorem fo_X_40 : jm_fo "LyingBeacons" 40 7 7 RX8 TX8 14 := ⟨inY8, rfl, by decide, jm_in (List.mem_of_getElem? (i := 292) (by decide +kernel)) rfl⟩
theorem fp_X_40 : jm_fp "LyingBeacons" 40 7 7 RX8 TX8 14 false .int := ⟨fo_X_40, ⟨tyX8, tyX8_ok⟩, nmX8, rfl, by decide +kernel, fun h => by first | rfl | cases h⟩
def mY_Ni_init : jm_Y := (⟨"LyingBeacons$Night", "<init>", "()V"⟩, prog_6_method_1_code, 1, none, { frames := 1, cells := 2, slots := 20, locals := 20 }, none)
theorem cw_Ni_init : Cond.code (jm_nm mY_Ni_init) (jm_cd mY_Ni_init) (jm_ml mY_Ni_init) (jm_rt mY_Ni_init) ∈ jm_tbl := jm_in (List.mem_of_getElem? (i := 201) (by decide +kernel)) rfl
theorem ini_Ni : Cond.initialized "LyingBeacons$Night" ∈ jm_tbl := jm_in (List.mem_of_getElem? (i := 66) (by decide +kernel)) rfl
theorem ok_Ni_init : jm_ok mY_Ni_init 0 := ⟨by decide, rfl, cw_Ni_init, ini_Ni, by decide +kernel⟩
theorem mlo_Ni_3 : Cond.methodLink "LyingBeacons$Night" 3 Lib.objectInit ∈ jm_tbl := jm_in (List.mem_of_getElem? (i := 202) (by decide +kernel)) rfl
theorem fo_Ni_9 : jm_fo "LyingBeacons$Night" 9 3 0 RX4 TX4 3 := ⟨inY4, rfl, by decide, jm_in (List.mem_of_getElem? (i := 203) (by decide +kernel)) rfl⟩
theorem fp_Ni_9 : jm_fp "LyingBeacons$Night" 9 3 0 RX4 TX4 3 true (.array .int) := ⟨fo_Ni_9, ⟨tyX4, tyX4_ok⟩, nmX4, rfl, by decide +kernel, fun h => by first | rfl | cases h⟩
theorem sh_45 : jm_sh 45 = .inr 3 := rfl
theorem ge_45 : 1 ≤ 45 := by decide
theorem le_45_46 : 45 ≤ 46 := by decide
theorem ge_46 : 1 ≤ 46 := by decide
theorem cb_m4 : (Int8.ofInt (-4)).toInt32 = (-4 : Int32) := by decide
theorem fo_Ni_15 : jm_fo "LyingBeacons$Night" 15 3 1 RX4 TX4 3 := ⟨inY4, rfl, by decide, jm_in (List.mem_of_getElem? (i := 205) (by decide +kernel)) rfl⟩
theorem fp_Ni_15 : jm_fp "LyingBeacons$Night" 15 3 1 RX4 TX4 3 false .int := ⟨fo_Ni_15, ⟨tyX4, tyX4_ok⟩, nmX4, rfl, by decide +kernel, fun h => by first | rfl | cases h⟩
theorem fo_Ni_19 : jm_fo "LyingBeacons$Night" 19 3 2 RX4 TX4 3 := ⟨inY4, rfl, by decide, jm_in (List.mem_of_getElem? (i := 207) (by decide +kernel)) rfl⟩
theorem fp_Ni_19 : jm_fp "LyingBeacons$Night" 19 3 2 RX4 TX4 3 true (.array .long) := ⟨fo_Ni_19, ⟨tyX4, tyX4_ok⟩, nmX4, rfl, by decide +kernel, fun h => by first | rfl | cases h⟩
theorem le_45_47 : 45 ≤ 47 := by decide
theorem ge_47 : 1 ≤ 47 := by decide
theorem sh_47 : jm_sh 47 = .inl (.long, 10) := rfl
theorem sh_46 : jm_sh 46 = .inl (.int, 10) := rfl
theorem lk_X_init__Ni_init : jm_lk mY_X_init mY_Ni_init := ⟨Nat.le_of_ble_eq_true rfl, Nat.le_of_ble_eq_true rfl⟩
theorem fo_X_46 : jm_fo "LyingBeacons" 46 7 8 RX8 TX8 14 := ⟨inY8, rfl, by decide, jm_in (List.mem_of_getElem? (i := 293) (by decide +kernel)) rfl⟩
theorem fp_X_46 : jm_fp "LyingBeacons" 46 7 8 RX8 TX8 14 true (.object "LyingBeacons$Night") := ⟨fo_X_46, ⟨tyX8, tyX8_ok⟩, nmX8, rfl, by decide +kernel, fun h => by first | rfl | cases h⟩
theorem le_1_47 : 1 ≤ 47 := by decide
theorem fo_X_50 : jm_fo "LyingBeacons" 50 7 9 RX8 TX8 14 := ⟨inY8, rfl, by decide, jm_in (List.mem_of_getElem? (i := 294) (by decide +kernel)) rfl⟩
theorem fp_X_50 : jm_fp "LyingBeacons" 50 7 9 RX8 TX8 14 false .boolean := ⟨fo_X_50, ⟨tyX8, tyX8_ok⟩, nmX8, rfl, by decide +kernel, fun h => by first | rfl | cases h⟩
def mY_Co_init : jm_Y := (⟨"LyingBeacons$Council", "<init>", "()V"⟩, prog_2_method_1_code, 1, none, { frames := 1, cells := 4, slots := 130, locals := 20 }, none)
theorem cw_Co_init : Cond.code (jm_nm mY_Co_init) (jm_cd mY_Co_init) (jm_ml mY_Co_init) (jm_rt mY_Co_init) ∈ jm_tbl := jm_in (List.mem_of_getElem? (i := 219) (by decide +kernel)) rfl
theorem ini_Co : Cond.initialized "LyingBeacons$Council" ∈ jm_tbl := jm_in (List.mem_of_getElem? (i := 67) (by decide +kernel)) rfl
theorem ok_Co_init : jm_ok mY_Co_init 0 := ⟨by decide, rfl, cw_Co_init, ini_Co, by decide +kernel⟩
theorem mlo_Co_3 : Cond.methodLink "LyingBeacons$Council" 3 Lib.objectInit ∈ jm_tbl := jm_in (List.mem_of_getElem? (i := 220) (by decide +kernel)) rfl
theorem fo_Co_9 : jm_fo "LyingBeacons$Council" 9 0 0 RX0 TX0 10 := ⟨inY0, rfl, by decide, jm_in (List.mem_of_getElem? (i := 221) (by decide +kernel)) rfl⟩
theorem fp_Co_9 : jm_fp "LyingBeacons$Council" 9 0 0 RX0 TX0 10 false .int := ⟨fo_Co_9, ⟨tyX0, tyX0_ok⟩, nmX0, rfl, by decide +kernel, fun h => by first | rfl | cases h⟩
theorem fo_Co_15 : jm_fo "LyingBeacons$Council" 15 0 1 RX0 TX0 10 := ⟨inY0, rfl, by decide, jm_in (List.mem_of_getElem? (i := 223) (by decide +kernel)) rfl⟩
theorem fp_Co_15 : jm_fp "LyingBeacons$Council" 15 0 1 RX0 TX0 10 false .int := ⟨fo_Co_15, ⟨tyX0, tyX0_ok⟩, nmX0, rfl, by decide +kernel, fun h => by first | rfl | cases h⟩
theorem fo_Co_18 : jm_fo "LyingBeacons$Council" 18 0 2 RX0 TX0 10 := ⟨inY0, rfl, by decide, jm_in (List.mem_of_getElem? (i := 225) (by decide +kernel)) rfl⟩
theorem fp_Co_18 : jm_fp "LyingBeacons$Council" 18 0 2 RX0 TX0 10 false .int := ⟨fo_Co_18, ⟨tyX0, tyX0_ok⟩, nmX0, rfl, by decide +kernel, fun h => by first | rfl | cases h⟩
theorem fo_Co_21 : jm_fo "LyingBeacons$Council" 21 0 3 RX0 TX0 10 := ⟨inY0, rfl, by decide, jm_in (List.mem_of_getElem? (i := 226) (by decide +kernel)) rfl⟩
theorem fp_Co_21 : jm_fp "LyingBeacons$Council" 21 0 3 RX0 TX0 10 false .int := ⟨fo_Co_21, ⟨tyX0, tyX0_ok⟩, nmX0, rfl, by decide +kernel, fun h => by first | rfl | cases h⟩
theorem fo_Co_24 : jm_fo "LyingBeacons$Council" 24 0 4 RX0 TX0 10 := ⟨inY0, rfl, by decide, jm_in (List.mem_of_getElem? (i := 227) (by decide +kernel)) rfl⟩
theorem fp_Co_24 : jm_fp "LyingBeacons$Council" 24 0 4 RX0 TX0 10 false .int := ⟨fo_Co_24, ⟨tyX0, tyX0_ok⟩, nmX0, rfl, by decide +kernel, fun h => by first | rfl | cases h⟩
theorem fo_Co_27 : jm_fo "LyingBeacons$Council" 27 0 5 RX0 TX0 10 := ⟨inY0, rfl, by decide, jm_in (List.mem_of_getElem? (i := 228) (by decide +kernel)) rfl⟩
theorem fp_Co_27 : jm_fp "LyingBeacons$Council" 27 0 5 RX0 TX0 10 true (.array .int) := ⟨fo_Co_27, ⟨tyX0, tyX0_ok⟩, nmX0, rfl, by decide +kernel, fun h => by first | rfl | cases h⟩
theorem sh_48 : jm_sh 48 = .inr 0 := rfl
theorem ge_48 : 1 ≤ 48 := by decide
theorem le_48_49 : 48 ≤ 49 := by decide
theorem ge_49 : 1 ≤ 49 := by decide
theorem fo_Co_31 : jm_fo "LyingBeacons$Council" 31 0 6 RX0 TX0 10 := ⟨inY0, rfl, by decide, jm_in (List.mem_of_getElem? (i := 229) (by decide +kernel)) rfl⟩
theorem fp_Co_31 : jm_fp "LyingBeacons$Council" 31 0 6 RX0 TX0 10 true (.array .int) := ⟨fo_Co_31, ⟨tyX0, tyX0_ok⟩, nmX0, rfl, by decide +kernel, fun h => by first | rfl | cases h⟩
theorem le_48_50 : 48 ≤ 50 := by decide
theorem ge_50 : 1 ≤ 50 := by decide
theorem fo_Co_34 : jm_fo "LyingBeacons$Council" 34 0 7 RX0 TX0 10 := ⟨inY0, rfl, by decide, jm_in (List.mem_of_getElem? (i := 230) (by decide +kernel)) rfl⟩
theorem fp_Co_34 : jm_fp "LyingBeacons$Council" 34 0 7 RX0 TX0 10 true (.array .int) := ⟨fo_Co_34, ⟨tyX0, tyX0_ok⟩, nmX0, rfl, by decide +kernel, fun h => by first | rfl | cases h⟩
theorem le_48_51 : 48 ≤ 51 := by decide
theorem ge_51 : 1 ≤ 51 := by decide
theorem fo_Co_37 : jm_fo "LyingBeacons$Council" 37 0 8 RX0 TX0 10 := ⟨inY0, rfl, by decide, jm_in (List.mem_of_getElem? (i := 231) (by decide +kernel)) rfl⟩
theorem fp_Co_37 : jm_fp "LyingBeacons$Council" 37 0 8 RX0 TX0 10 true (.array .int) := ⟨fo_Co_37, ⟨tyX0, tyX0_ok⟩, nmX0, rfl, by decide +kernel, fun h => by first | rfl | cases h⟩
theorem le_48_52 : 48 ≤ 52 := by decide
theorem ge_52 : 1 ≤ 52 := by decide
theorem fo_Co_40 : jm_fo "LyingBeacons$Council" 40 0 9 RX0 TX0 10 := ⟨inY0, rfl, by decide, jm_in (List.mem_of_getElem? (i := 232) (by decide +kernel)) rfl⟩
theorem fp_Co_40 : jm_fp "LyingBeacons$Council" 40 0 9 RX0 TX0 10 false .int := ⟨fo_Co_40, ⟨tyX0, tyX0_ok⟩, nmX0, rfl, by decide +kernel, fun h => by first | rfl | cases h⟩
theorem sh_52 : jm_sh 52 = .inl (.int, 100) := rfl
theorem sh_51 : jm_sh 51 = .inl (.int, 10) := rfl
theorem sh_50 : jm_sh 50 = .inl (.int, 10) := rfl
theorem sh_49 : jm_sh 49 = .inl (.int, 10) := rfl
theorem le_48_48 : 48 ≤ 48 := by decide
theorem lk_X_init__Co_init : jm_lk mY_X_init mY_Co_init := ⟨Nat.le_of_ble_eq_true rfl, Nat.le_of_ble_eq_true rfl⟩
theorem fo_X_57 : jm_fo "LyingBeacons" 57 7 10 RX8 TX8 14 := ⟨inY8, rfl, by decide, jm_in (List.mem_of_getElem? (i := 295) (by decide +kernel)) rfl⟩
theorem fp_X_57 : jm_fp "LyingBeacons" 57 7 10 RX8 TX8 14 true (.object "LyingBeacons$Council") := ⟨fo_X_57, ⟨tyX8, tyX8_ok⟩, nmX8, rfl, by decide +kernel, fun h => by first | rfl | cases h⟩
theorem le_1_52 : 1 ≤ 52 := by decide
def mY_Si_init : jm_Y := (⟨"LyingBeacons$Signs", "<init>", "()V"⟩, prog_8_method_1_code, 1, none, { frames := 1, cells := 1, slots := 72, locals := 20 }, none)
theorem cw_Si_init : Cond.code (jm_nm mY_Si_init) (jm_cd mY_Si_init) (jm_ml mY_Si_init) (jm_rt mY_Si_init) ∈ jm_tbl := jm_in (List.mem_of_getElem? (i := 258) (by decide +kernel)) rfl
theorem ini_Si : Cond.initialized "LyingBeacons$Signs" ∈ jm_tbl := jm_in (List.mem_of_getElem? (i := 68) (by decide +kernel)) rfl
theorem ok_Si_init : jm_ok mY_Si_init 0 := ⟨by decide, rfl, cw_Si_init, ini_Si, by decide +kernel⟩
theorem mlo_Si_3 : Cond.methodLink "LyingBeacons$Signs" 3 Lib.objectInit ∈ jm_tbl := jm_in (List.mem_of_getElem? (i := 259) (by decide +kernel)) rfl
theorem cb_72 : (Int8.ofInt 72).toInt32 = (72 : Int32) := by decide
theorem fo_Si_9 : jm_fo "LyingBeacons$Signs" 9 5 0 RX6 TX6 1 := ⟨inY6, rfl, by decide, jm_in (List.mem_of_getElem? (i := 260) (by decide +kernel)) rfl⟩
theorem fp_Si_9 : jm_fp "LyingBeacons$Signs" 9 5 0 RX6 TX6 1 true (.array .int) := ⟨fo_Si_9, ⟨tyX6, tyX6_ok⟩, nmX6, rfl, by decide +kernel, fun h => by first | rfl | cases h⟩
theorem sh_53 : jm_sh 53 = .inr 5 := rfl
theorem ge_53 : 1 ≤ 53 := by decide
theorem le_53_54 : 53 ≤ 54 := by decide
theorem ge_54 : 1 ≤ 54 := by decide
theorem sh_54 : jm_sh 54 = .inl (.int, 72) := rfl
theorem lk_X_init__Si_init : jm_lk mY_X_init mY_Si_init := ⟨Nat.le_of_ble_eq_true rfl, Nat.le_of_ble_eq_true rfl⟩
theorem fo_X_64 : jm_fo "LyingBeacons" 64 7 11 RX8 TX8 14 := ⟨inY8, rfl, by decide, jm_in (List.mem_of_getElem? (i := 296) (by decide +kernel)) rfl⟩
theorem fp_X_64 : jm_fp "LyingBeacons" 64 7 11 RX8 TX8 14 true (.object "LyingBeacons$Signs") := ⟨fo_X_64, ⟨tyX8, tyX8_ok⟩, nmX8, rfl, by decide +kernel, fun h => by first | rfl | cases h⟩
theorem le_1_54 : 1 ≤ 54 := by decide
def mY_Wa_init : jm_Y := (⟨"LyingBeacons$Watchmen", "<init>", "()V"⟩, prog_9_method_1_code, 1, none, { frames := 1, cells := 1, slots := 4, locals := 20 }, none)
theorem cw_Wa_init : Cond.code (jm_nm mY_Wa_init) (jm_cd mY_Wa_init) (jm_ml mY_Wa_init) (jm_rt mY_Wa_init) ∈ jm_tbl := jm_in (List.mem_of_getElem? (i := 268) (by decide +kernel)) rfl
theorem ini_Wa : Cond.initialized "LyingBeacons$Watchmen" ∈ jm_tbl := jm_in (List.mem_of_getElem? (i := 69) (by decide +kernel)) rfl
theorem ok_Wa_init : jm_ok mY_Wa_init 0 := ⟨by decide, rfl, cw_Wa_init, ini_Wa, by decide +kernel⟩
theorem mlo_Wa_3 : Cond.methodLink "LyingBeacons$Watchmen" 3 Lib.objectInit ∈ jm_tbl := jm_in (List.mem_of_getElem? (i := 269) (by decide +kernel)) rfl
theorem fo_Wa_9 : jm_fo "LyingBeacons$Watchmen" 9 6 0 RX7 TX7 1 := ⟨inY7, rfl, by decide, jm_in (List.mem_of_getElem? (i := 270) (by decide +kernel)) rfl⟩
theorem fp_Wa_9 : jm_fp "LyingBeacons$Watchmen" 9 6 0 RX7 TX7 1 true (.array .int) := ⟨fo_Wa_9, ⟨tyX7, tyX7_ok⟩, nmX7, rfl, by decide +kernel, fun h => by first | rfl | cases h⟩
theorem sh_55 : jm_sh 55 = .inr 6 := rfl
theorem ge_55 : 1 ≤ 55 := by decide
theorem le_55_56 : 55 ≤ 56 := by decide
theorem ge_56 : 1 ≤ 56 := by decide
theorem sh_56 : jm_sh 56 = .inl (.int, 4) := rfl
theorem lk_X_init__Wa_init : jm_lk mY_X_init mY_Wa_init := ⟨Nat.le_of_ble_eq_true rfl, Nat.le_of_ble_eq_true rfl⟩
theorem fo_X_71 : jm_fo "LyingBeacons" 71 7 12 RX8 TX8 14 := ⟨inY8, rfl, by decide, jm_in (List.mem_of_getElem? (i := 297) (by decide +kernel)) rfl⟩
theorem fp_X_71 : jm_fp "LyingBeacons" 71 7 12 RX8 TX8 14 true (.object "LyingBeacons$Watchmen") := ⟨fo_X_71, ⟨tyX8, tyX8_ok⟩, nmX8, rfl, by decide +kernel, fun h => by first | rfl | cases h⟩
theorem le_1_56 : 1 ≤ 56 := by decide
def mY_Ki_init : jm_Y := (⟨"LyingBeacons$King", "<init>", "()V"⟩, prog_3_method_1_code, 1, none, { frames := 1, cells := 1, slots := 3, locals := 20 }, none)
theorem cw_Ki_init : Cond.code (jm_nm mY_Ki_init) (jm_cd mY_Ki_init) (jm_ml mY_Ki_init) (jm_rt mY_Ki_init) ∈ jm_tbl := jm_in (List.mem_of_getElem? (i := 278) (by decide +kernel)) rfl
theorem ini_Ki : Cond.initialized "LyingBeacons$King" ∈ jm_tbl := jm_in (List.mem_of_getElem? (i := 70) (by decide +kernel)) rfl
theorem ok_Ki_init : jm_ok mY_Ki_init 0 := ⟨by decide, rfl, cw_Ki_init, ini_Ki, by decide +kernel⟩
theorem mlo_Ki_3 : Cond.methodLink "LyingBeacons$King" 3 Lib.objectInit ∈ jm_tbl := jm_in (List.mem_of_getElem? (i := 279) (by decide +kernel)) rfl
theorem ci_3 : Int32.ofInt 3 = (3 : Int32) := by decide
theorem cs_1000 : (Int16.ofInt 1000).toInt32 = (1000 : Int32) := by decide
theorem ci_2 : Int32.ofInt 2 = (2 : Int32) := by decide
theorem fo_Ki_9 : jm_fo "LyingBeacons$King" 9 1 0 RX1 TX1 1 := ⟨inY1, rfl, by decide, jm_in (List.mem_of_getElem? (i := 280) (by decide +kernel)) rfl⟩
theorem fp_Ki_9 : jm_fp "LyingBeacons$King" 9 1 0 RX1 TX1 1 true (.array .int) := ⟨fo_Ki_9, ⟨tyX1, tyX1_ok⟩, nmX1, rfl, by decide +kernel, fun h => by first | rfl | cases h⟩
theorem sh_57 : jm_sh 57 = .inr 1 := rfl
theorem ge_57 : 1 ≤ 57 := by decide
theorem le_57_58 : 57 ≤ 58 := by decide
theorem ge_58 : 1 ≤ 58 := by decide
theorem sh_58 : jm_sh 58 = .inl (.int, 3) := rfl
theorem le_58_58 : 58 ≤ 58 := by decide
theorem lk_X_init__Ki_init : jm_lk mY_X_init mY_Ki_init := ⟨Nat.le_of_ble_eq_true rfl, Nat.le_of_ble_eq_true rfl⟩
theorem fo_X_78 : jm_fo "LyingBeacons" 78 7 13 RX8 TX8 14 := ⟨inY8, rfl, by decide, jm_in (List.mem_of_getElem? (i := 298) (by decide +kernel)) rfl⟩
theorem fp_X_78 : jm_fp "LyingBeacons" 78 7 13 RX8 TX8 14 true (.object "LyingBeacons$King") := ⟨fo_X_78, ⟨tyX8, tyX8_ok⟩, nmX8, rfl, by decide +kernel, fun h => by first | rfl | cases h⟩
theorem le_1_58 : 1 ≤ 58 := by decide
theorem ml_X_77 : Cond.methodLink "LyingBeacons" 77 ⟨"LyingBeacons$King", "<init>", "()V"⟩ ∈ jm_tbl := jm_in (List.mem_of_getElem? (i := 276) (by decide +kernel)) rfl
theorem im_Ki_init : Cond.instanceMethod ⟨"LyingBeacons$King", "<init>", "()V"⟩ ∈ jm_tbl := jm_in (List.mem_of_getElem? (i := 277) (by decide +kernel)) rfl
theorem cl_X_75 : Cond.classLink "LyingBeacons" 75 "LyingBeacons$King" ∈ jm_tbl := jm_in (List.mem_of_getElem? (i := 274) (by decide +kernel)) rfl
theorem it_Ki : Cond.instantiable "LyingBeacons$King" 1 ∈ jm_tbl := jm_in (List.mem_of_getElem? (i := 275) (by decide +kernel)) rfl
theorem ft_Ki : ∀ k, k < 1 → (jm_fts 1)[k]? = some (tyX1 k) := by decide +kernel
theorem okt_Ki : ∀ k, k < 1 → jm_okT (tyX1 k) = true := by decide +kernel
theorem ml_X_70 : Cond.methodLink "LyingBeacons" 70 ⟨"LyingBeacons$Watchmen", "<init>", "()V"⟩ ∈ jm_tbl := jm_in (List.mem_of_getElem? (i := 266) (by decide +kernel)) rfl
theorem im_Wa_init : Cond.instanceMethod ⟨"LyingBeacons$Watchmen", "<init>", "()V"⟩ ∈ jm_tbl := jm_in (List.mem_of_getElem? (i := 267) (by decide +kernel)) rfl
theorem cl_X_68 : Cond.classLink "LyingBeacons" 68 "LyingBeacons$Watchmen" ∈ jm_tbl := jm_in (List.mem_of_getElem? (i := 264) (by decide +kernel)) rfl
theorem it_Wa : Cond.instantiable "LyingBeacons$Watchmen" 1 ∈ jm_tbl := jm_in (List.mem_of_getElem? (i := 265) (by decide +kernel)) rfl
theorem ft_Wa : ∀ k, k < 1 → (jm_fts 6)[k]? = some (tyX7 k) := by decide +kernel
theorem okt_Wa : ∀ k, k < 1 → jm_okT (tyX7 k) = true := by decide +kernel
theorem ml_X_63 : Cond.methodLink "LyingBeacons" 63 ⟨"LyingBeacons$Signs", "<init>", "()V"⟩ ∈ jm_tbl := jm_in (List.mem_of_getElem? (i := 256) (by decide +kernel)) rfl
theorem im_Si_init : Cond.instanceMethod ⟨"LyingBeacons$Signs", "<init>", "()V"⟩ ∈ jm_tbl := jm_in (List.mem_of_getElem? (i := 257) (by decide +kernel)) rfl
theorem cl_X_61 : Cond.classLink "LyingBeacons" 61 "LyingBeacons$Signs" ∈ jm_tbl := jm_in (List.mem_of_getElem? (i := 254) (by decide +kernel)) rfl
theorem it_Si : Cond.instantiable "LyingBeacons$Signs" 1 ∈ jm_tbl := jm_in (List.mem_of_getElem? (i := 255) (by decide +kernel)) rfl
theorem ft_Si : ∀ k, k < 1 → (jm_fts 5)[k]? = some (tyX6 k) := by decide +kernel
theorem okt_Si : ∀ k, k < 1 → jm_okT (tyX6 k) = true := by decide +kernel
theorem ml_X_56 : Cond.methodLink "LyingBeacons" 56 ⟨"LyingBeacons$Council", "<init>", "()V"⟩ ∈ jm_tbl := jm_in (List.mem_of_getElem? (i := 217) (by decide +kernel)) rfl
theorem im_Co_init : Cond.instanceMethod ⟨"LyingBeacons$Council", "<init>", "()V"⟩ ∈ jm_tbl := jm_in (List.mem_of_getElem? (i := 218) (by decide +kernel)) rfl
theorem cl_X_54 : Cond.classLink "LyingBeacons" 54 "LyingBeacons$Council" ∈ jm_tbl := jm_in (List.mem_of_getElem? (i := 215) (by decide +kernel)) rfl
theorem it_Co : Cond.instantiable "LyingBeacons$Council" 10 ∈ jm_tbl := jm_in (List.mem_of_getElem? (i := 216) (by decide +kernel)) rfl
theorem ft_Co : ∀ k, k < 10 → (jm_fts 0)[k]? = some (tyX0 k) := by decide +kernel
theorem okt_Co : ∀ k, k < 10 → jm_okT (tyX0 k) = true := by decide +kernel
theorem ml_X_45 : Cond.methodLink "LyingBeacons" 45 ⟨"LyingBeacons$Night", "<init>", "()V"⟩ ∈ jm_tbl := jm_in (List.mem_of_getElem? (i := 199) (by decide +kernel)) rfl
theorem im_Ni_init : Cond.instanceMethod ⟨"LyingBeacons$Night", "<init>", "()V"⟩ ∈ jm_tbl := jm_in (List.mem_of_getElem? (i := 200) (by decide +kernel)) rfl
theorem cl_X_43 : Cond.classLink "LyingBeacons" 43 "LyingBeacons$Night" ∈ jm_tbl := jm_in (List.mem_of_getElem? (i := 197) (by decide +kernel)) rfl
theorem it_Ni : Cond.instantiable "LyingBeacons$Night" 3 ∈ jm_tbl := jm_in (List.mem_of_getElem? (i := 198) (by decide +kernel)) rfl
theorem ft_Ni : ∀ k, k < 3 → (jm_fts 3)[k]? = some (tyX4 k) := by decide +kernel
theorem okt_Ni : ∀ k, k < 3 → jm_okT (tyX4 k) = true := by decide +kernel
theorem ml_X_26 : Cond.methodLink "LyingBeacons" 26 ⟨"LyingBeacons$Net", "<init>", "()V"⟩ ∈ jm_tbl := jm_in (List.mem_of_getElem? (i := 115) (by decide +kernel)) rfl
theorem im_Ne_init : Cond.instanceMethod ⟨"LyingBeacons$Net", "<init>", "()V"⟩ ∈ jm_tbl := jm_in (List.mem_of_getElem? (i := 116) (by decide +kernel)) rfl
theorem cl_X_24 : Cond.classLink "LyingBeacons" 24 "LyingBeacons$Net" ∈ jm_tbl := jm_in (List.mem_of_getElem? (i := 113) (by decide +kernel)) rfl
theorem it_Ne : Cond.instantiable "LyingBeacons$Net" 12 ∈ jm_tbl := jm_in (List.mem_of_getElem? (i := 114) (by decide +kernel)) rfl
theorem ft_Ne : ∀ k, k < 12 → (jm_fts 2)[k]? = some (tyX3 k) := by decide +kernel
theorem okt_Ne : ∀ k, k < 12 → jm_okT (tyX3 k) = true := by decide +kernel
theorem ml_X_19 : Cond.methodLink "LyingBeacons" 19 ⟨"LyingBeacons$Reader", "<init>", "()V"⟩ ∈ jm_tbl := jm_in (List.mem_of_getElem? (i := 85) (by decide +kernel)) rfl
theorem im_Re_init : Cond.instanceMethod ⟨"LyingBeacons$Reader", "<init>", "()V"⟩ ∈ jm_tbl := jm_in (List.mem_of_getElem? (i := 86) (by decide +kernel)) rfl
theorem cl_X_17 : Cond.classLink "LyingBeacons" 17 "LyingBeacons$Reader" ∈ jm_tbl := jm_in (List.mem_of_getElem? (i := 83) (by decide +kernel)) rfl
theorem it_Re : Cond.instantiable "LyingBeacons$Reader" 7 ∈ jm_tbl := jm_in (List.mem_of_getElem? (i := 84) (by decide +kernel)) rfl
theorem ft_Re : ∀ k, k < 7 → (jm_fts 4)[k]? = some (tyX5 k) := by decide +kernel
theorem okt_Re : ∀ k, k < 7 → jm_okT (tyX5 k) = true := by decide +kernel
theorem ac_byte : Cond.arrayClass .byte ∈ jm_tbl := jm_in (List.mem_of_getElem? (i := 111) (by decide +kernel)) rfl
theorem sh_2 : jm_sh 2 = .inl (.byte, 300) := rfl
theorem lk_Law_law__X_init (L : Nat) (xs : Nat → Int32) : jm_lk (mY_Law L xs) mY_X_init := ⟨Nat.le_of_ble_eq_true rfl, Nat.le_of_ble_eq_true rfl⟩
def mY_Z_init : jm_Y := (⟨"LyingBeaconsModel", "<init>", "()V"⟩, prog_11_method_1_code, 2, none, { frames := 1, cells := 19, slots := 1580, locals := 20 }, none)
theorem cw_Z_init : Cond.code (jm_nm mY_Z_init) (jm_cd mY_Z_init) (jm_ml mY_Z_init) (jm_rt mY_Z_init) ∈ jm_tbl := jm_in (List.mem_of_getElem? (i := 758) (by decide +kernel)) rfl
theorem ini_Z : Cond.initialized "LyingBeaconsModel" ∈ jm_tbl := jm_in (List.mem_of_getElem? (i := 71) (by decide +kernel)) rfl
theorem ok_Z_init : jm_ok mY_Z_init 0 := ⟨by decide, rfl, cw_Z_init, ini_Z, by decide +kernel⟩
theorem mlo_Z_1 : Cond.methodLink "LyingBeaconsModel" 1 Lib.objectInit ∈ jm_tbl := jm_in (List.mem_of_getElem? (i := 759) (by decide +kernel)) rfl
theorem fo_Z_7 : jm_fo "LyingBeaconsModel" 7 8 1 RX9 TX9 30 := ⟨inY9, rfl, by decide, jm_in (List.mem_of_getElem? (i := 761) (by decide +kernel)) rfl⟩
theorem fp_Z_7 : jm_fp "LyingBeaconsModel" 7 8 1 RX9 TX9 30 true (.array .int) := ⟨fo_Z_7, ⟨tyX9, tyX9_ok⟩, nmX9, rfl, by decide +kernel, fun h => by first | rfl | cases h⟩
theorem sh_59 : jm_sh 59 = .inr 8 := rfl
theorem ge_59 : 1 ≤ 59 := by decide
theorem le_59_60 : 59 ≤ 60 := by decide
theorem ge_60 : 1 ≤ 60 := by decide
theorem fo_Z_13 : jm_fo "LyingBeaconsModel" 13 8 2 RX9 TX9 30 := ⟨inY9, rfl, by decide, jm_in (List.mem_of_getElem? (i := 762) (by decide +kernel)) rfl⟩
theorem fp_Z_13 : jm_fp "LyingBeaconsModel" 13 8 2 RX9 TX9 30 true (.array .int) := ⟨fo_Z_13, ⟨tyX9, tyX9_ok⟩, nmX9, rfl, by decide +kernel, fun h => by first | rfl | cases h⟩
theorem le_59_61 : 59 ≤ 61 := by decide
theorem ge_61 : 1 ≤ 61 := by decide
theorem cb_40 : (Int8.ofInt 40).toInt32 = (40 : Int32) := by decide
theorem fo_Z_16 : jm_fo "LyingBeaconsModel" 16 8 3 RX9 TX9 30 := ⟨inY9, rfl, by decide, jm_in (List.mem_of_getElem? (i := 763) (by decide +kernel)) rfl⟩
theorem fp_Z_16 : jm_fp "LyingBeaconsModel" 16 8 3 RX9 TX9 30 true (.array .int) := ⟨fo_Z_16, ⟨tyX9, tyX9_ok⟩, nmX9, rfl, by decide +kernel, fun h => by first | rfl | cases h⟩
theorem le_59_62 : 59 ≤ 62 := by decide
theorem ge_62 : 1 ≤ 62 := by decide
theorem fo_Z_19 : jm_fo "LyingBeaconsModel" 19 8 4 RX9 TX9 30 := ⟨inY9, rfl, by decide, jm_in (List.mem_of_getElem? (i := 764) (by decide +kernel)) rfl⟩
theorem fp_Z_19 : jm_fp "LyingBeaconsModel" 19 8 4 RX9 TX9 30 true (.array .int) := ⟨fo_Z_19, ⟨tyX9, tyX9_ok⟩, nmX9, rfl, by decide +kernel, fun h => by first | rfl | cases h⟩
theorem le_59_63 : 59 ≤ 63 := by decide
theorem ge_63 : 1 ≤ 63 := by decide
theorem fo_Z_22 : jm_fo "LyingBeaconsModel" 22 8 5 RX9 TX9 30 := ⟨inY9, rfl, by decide, jm_in (List.mem_of_getElem? (i := 765) (by decide +kernel)) rfl⟩
theorem fp_Z_22 : jm_fp "LyingBeaconsModel" 22 8 5 RX9 TX9 30 true (.array .int) := ⟨fo_Z_22, ⟨tyX9, tyX9_ok⟩, nmX9, rfl, by decide +kernel, fun h => by first | rfl | cases h⟩
theorem le_59_64 : 59 ≤ 64 := by decide
theorem ge_64 : 1 ≤ 64 := by decide
theorem fo_Z_25 : jm_fo "LyingBeaconsModel" 25 8 6 RX9 TX9 30 := ⟨inY9, rfl, by decide, jm_in (List.mem_of_getElem? (i := 766) (by decide +kernel)) rfl⟩
theorem fp_Z_25 : jm_fp "LyingBeaconsModel" 25 8 6 RX9 TX9 30 true (.array .int) := ⟨fo_Z_25, ⟨tyX9, tyX9_ok⟩, nmX9, rfl, by decide +kernel, fun h => by first | rfl | cases h⟩
theorem le_59_65 : 59 ≤ 65 := by decide
theorem ge_65 : 1 ≤ 65 := by decide
theorem fo_Z_28 : jm_fo "LyingBeaconsModel" 28 8 7 RX9 TX9 30 := ⟨inY9, rfl, by decide, jm_in (List.mem_of_getElem? (i := 767) (by decide +kernel)) rfl⟩
theorem fp_Z_28 : jm_fp "LyingBeaconsModel" 28 8 7 RX9 TX9 30 true (.array .int) := ⟨fo_Z_28, ⟨tyX9, tyX9_ok⟩, nmX9, rfl, by decide +kernel, fun h => by first | rfl | cases h⟩
theorem le_59_66 : 59 ≤ 66 := by decide
theorem ge_66 : 1 ≤ 66 := by decide
theorem fo_Z_31 : jm_fo "LyingBeaconsModel" 31 8 8 RX9 TX9 30 := ⟨inY9, rfl, by decide, jm_in (List.mem_of_getElem? (i := 768) (by decide +kernel)) rfl⟩
theorem fp_Z_31 : jm_fp "LyingBeaconsModel" 31 8 8 RX9 TX9 30 true (.array .int) := ⟨fo_Z_31, ⟨tyX9, tyX9_ok⟩, nmX9, rfl, by decide +kernel, fun h => by first | rfl | cases h⟩
theorem le_59_67 : 59 ≤ 67 := by decide
theorem ge_67 : 1 ≤ 67 := by decide
theorem cs_860 : (Int16.ofInt 860).toInt32 = (860 : Int32) := by decide
theorem fo_Z_34 : jm_fo "LyingBeaconsModel" 34 8 9 RX9 TX9 30 := ⟨inY9, rfl, by decide, jm_in (List.mem_of_getElem? (i := 769) (by decide +kernel)) rfl⟩
theorem fp_Z_34 : jm_fp "LyingBeaconsModel" 34 8 9 RX9 TX9 30 true (.array .int) := ⟨fo_Z_34, ⟨tyX9, tyX9_ok⟩, nmX9, rfl, by decide +kernel, fun h => by first | rfl | cases h⟩
theorem le_59_68 : 59 ≤ 68 := by decide
theorem ge_68 : 1 ≤ 68 := by decide
theorem cb_9 : (Int8.ofInt 9).toInt32 = (9 : Int32) := by decide
theorem fo_Z_37 : jm_fo "LyingBeaconsModel" 37 8 10 RX9 TX9 30 := ⟨inY9, rfl, by decide, jm_in (List.mem_of_getElem? (i := 770) (by decide +kernel)) rfl⟩
theorem fp_Z_37 : jm_fp "LyingBeaconsModel" 37 8 10 RX9 TX9 30 true (.array .int) := ⟨fo_Z_37, ⟨tyX9, tyX9_ok⟩, nmX9, rfl, by decide +kernel, fun h => by first | rfl | cases h⟩
theorem le_59_69 : 59 ≤ 69 := by decide
theorem ge_69 : 1 ≤ 69 := by decide
theorem cb_30 : (Int8.ofInt 30).toInt32 = (30 : Int32) := by decide
theorem fo_Z_40 : jm_fo "LyingBeaconsModel" 40 8 11 RX9 TX9 30 := ⟨inY9, rfl, by decide, jm_in (List.mem_of_getElem? (i := 771) (by decide +kernel)) rfl⟩
theorem fp_Z_40 : jm_fp "LyingBeaconsModel" 40 8 11 RX9 TX9 30 true (.array .int) := ⟨fo_Z_40, ⟨tyX9, tyX9_ok⟩, nmX9, rfl, by decide +kernel, fun h => by first | rfl | cases h⟩
theorem le_59_70 : 59 ≤ 70 := by decide
theorem ge_70 : 1 ≤ 70 := by decide
theorem fo_Z_43 : jm_fo "LyingBeaconsModel" 43 8 13 RX9 TX9 30 := ⟨inY9, rfl, by decide, jm_in (List.mem_of_getElem? (i := 773) (by decide +kernel)) rfl⟩
theorem fp_Z_43 : jm_fp "LyingBeaconsModel" 43 8 13 RX9 TX9 30 true (.array .int) := ⟨fo_Z_43, ⟨tyX9, tyX9_ok⟩, nmX9, rfl, by decide +kernel, fun h => by first | rfl | cases h⟩
theorem le_59_71 : 59 ≤ 71 := by decide
theorem ge_71 : 1 ≤ 71 := by decide
theorem fo_Z_46 : jm_fo "LyingBeaconsModel" 46 8 14 RX9 TX9 30 := ⟨inY9, rfl, by decide, jm_in (List.mem_of_getElem? (i := 774) (by decide +kernel)) rfl⟩
theorem fp_Z_46 : jm_fp "LyingBeaconsModel" 46 8 14 RX9 TX9 30 true (.array .int) := ⟨fo_Z_46, ⟨tyX9, tyX9_ok⟩, nmX9, rfl, by decide +kernel, fun h => by first | rfl | cases h⟩
theorem le_59_72 : 59 ≤ 72 := by decide
theorem ge_72 : 1 ≤ 72 := by decide
theorem fo_Z_49 : jm_fo "LyingBeaconsModel" 49 8 16 RX9 TX9 30 := ⟨inY9, rfl, by decide, jm_in (List.mem_of_getElem? (i := 776) (by decide +kernel)) rfl⟩
theorem fp_Z_49 : jm_fp "LyingBeaconsModel" 49 8 16 RX9 TX9 30 true (.array .int) := ⟨fo_Z_49, ⟨tyX9, tyX9_ok⟩, nmX9, rfl, by decide +kernel, fun h => by first | rfl | cases h⟩
theorem le_59_73 : 59 ≤ 73 := by decide
theorem ge_73 : 1 ≤ 73 := by decide
theorem cb_60 : (Int8.ofInt 60).toInt32 = (60 : Int32) := by decide
theorem fo_Z_52 : jm_fo "LyingBeaconsModel" 52 8 20 RX9 TX9 30 := ⟨inY9, rfl, by decide, jm_in (List.mem_of_getElem? (i := 780) (by decide +kernel)) rfl⟩
theorem fp_Z_52 : jm_fp "LyingBeaconsModel" 52 8 20 RX9 TX9 30 true (.array .int) := ⟨fo_Z_52, ⟨tyX9, tyX9_ok⟩, nmX9, rfl, by decide +kernel, fun h => by first | rfl | cases h⟩
theorem le_59_74 : 59 ≤ 74 := by decide
theorem ge_74 : 1 ≤ 74 := by decide
theorem fo_Z_55 : jm_fo "LyingBeaconsModel" 55 8 21 RX9 TX9 30 := ⟨inY9, rfl, by decide, jm_in (List.mem_of_getElem? (i := 781) (by decide +kernel)) rfl⟩
theorem fp_Z_55 : jm_fp "LyingBeaconsModel" 55 8 21 RX9 TX9 30 true (.array .int) := ⟨fo_Z_55, ⟨tyX9, tyX9_ok⟩, nmX9, rfl, by decide +kernel, fun h => by first | rfl | cases h⟩
theorem le_59_75 : 59 ≤ 75 := by decide
theorem ge_75 : 1 ≤ 75 := by decide
theorem fo_Z_58 : jm_fo "LyingBeaconsModel" 58 8 27 RX9 TX9 30 := ⟨inY9, rfl, by decide, jm_in (List.mem_of_getElem? (i := 787) (by decide +kernel)) rfl⟩
theorem fp_Z_58 : jm_fp "LyingBeaconsModel" 58 8 27 RX9 TX9 30 true (.array .int) := ⟨fo_Z_58, ⟨tyX9, tyX9_ok⟩, nmX9, rfl, by decide +kernel, fun h => by first | rfl | cases h⟩
theorem le_59_76 : 59 ≤ 76 := by decide
theorem ge_76 : 1 ≤ 76 := by decide
theorem fo_Z_61 : jm_fo "LyingBeaconsModel" 61 8 28 RX9 TX9 30 := ⟨inY9, rfl, by decide, jm_in (List.mem_of_getElem? (i := 788) (by decide +kernel)) rfl⟩
theorem fp_Z_61 : jm_fp "LyingBeaconsModel" 61 8 28 RX9 TX9 30 true (.array .int) := ⟨fo_Z_61, ⟨tyX9, tyX9_ok⟩, nmX9, rfl, by decide +kernel, fun h => by first | rfl | cases h⟩
theorem le_59_77 : 59 ≤ 77 := by decide
theorem ge_77 : 1 ≤ 77 := by decide
theorem fo_Z_64 : jm_fo "LyingBeaconsModel" 64 8 29 RX9 TX9 30 := ⟨inY9, rfl, by decide, jm_in (List.mem_of_getElem? (i := 789) (by decide +kernel)) rfl⟩
theorem fp_Z_64 : jm_fp "LyingBeaconsModel" 64 8 29 RX9 TX9 30 true (.array .int) := ⟨fo_Z_64, ⟨tyX9, tyX9_ok⟩, nmX9, rfl, by decide +kernel, fun h => by first | rfl | cases h⟩
theorem le_59_78 : 59 ≤ 78 := by decide
theorem ge_78 : 1 ≤ 78 := by decide
theorem mr_154_59_11 : mr_154 59 11 = some 70 := by decide
theorem sh_70 : jm_sh 70 = .inl (.int, 30) := rfl
theorem le_70_78 : 70 ≤ 78 := by decide
theorem sh_78 : jm_sh 78 = .inl (.int, 4) := rfl
theorem sh_77 : jm_sh 77 = .inl (.int, 10) := rfl
theorem sh_76 : jm_sh 76 = .inl (.int, 10) := rfl
theorem sh_75 : jm_sh 75 = .inl (.int, 10) := rfl
theorem sh_74 : jm_sh 74 = .inl (.int, 60) := rfl
theorem sh_73 : jm_sh 73 = .inl (.int, 4) := rfl
theorem sh_72 : jm_sh 72 = .inl (.int, 3) := rfl
theorem le_72_72 : 72 ≤ 72 := by decide
theorem sh_71 : jm_sh 71 = .inl (.int, 72) := rfl
theorem sh_69 : jm_sh 69 = .inl (.int, 9) := rfl
theorem sh_68 : jm_sh 68 = .inl (.int, 860) := rfl
theorem sh_67 : jm_sh 67 = .inl (.int, 4) := rfl
theorem sh_66 : jm_sh 66 = .inl (.int, 40) := rfl
theorem sh_65 : jm_sh 65 = .inl (.int, 40) := rfl
theorem sh_64 : jm_sh 64 = .inl (.int, 40) := rfl
theorem sh_63 : jm_sh 63 = .inl (.int, 40) := rfl
theorem sh_62 : jm_sh 62 = .inl (.int, 40) := rfl
theorem sh_61 : jm_sh 61 = .inl (.int, 4) := rfl
theorem sh_60 : jm_sh 60 = .inl (.int, 300) := rfl
theorem lk_Law_law__Z_init (L : Nat) (xs : Nat → Int32) : jm_lk (mY_Law L xs) mY_Z_init := ⟨Nat.le_of_ble_eq_true rfl, Nat.le_of_ble_eq_true rfl⟩
theorem cb_6 : (Int8.ofInt 6).toInt32 = (6 : Int32) := by decide
theorem cb_31 : (Int8.ofInt 31).toInt32 = (31 : Int32) := by decide
theorem cb_32 : (Int8.ofInt 32).toInt32 = (32 : Int32) := by decide
theorem kl_Law_13 : Cond.constantLong "LyingBeaconsLaw" 13 (4294967295 : Int64) ∈ jm_tbl := jm_in (List.mem_of_getElem? (i := 1144) (by decide +kernel)) rfl
def mY_X_write : jm_Y := (⟨"LyingBeacons", "write", "(IJ)I"⟩, prog_1_method_2_code, 5, some .int, { frames := 0, cells := 0, slots := 0, locals := 0 }, none)
theorem cw_X_write : Cond.code (jm_nm mY_X_write) (jm_cd mY_X_write) (jm_ml mY_X_write) (jm_rt mY_X_write) ∈ jm_tbl := jm_in (List.mem_of_getElem? (i := 331) (by decide +kernel)) rfl
theorem ok_X_write : jm_ok mY_X_write 2 := ⟨by decide, rfl, cw_X_write, ini_X, by decide +kernel⟩
theorem cb_8 : (Int8.ofInt 8).toInt32 = (8 : Int32) := by decide
theorem le_1_78 : 1 ≤ 78 := by decide
theorem mr_154_1_0 : mr_154 1 0 = some 2 := by decide
theorem le_2_78 : 2 ≤ 78 := by decide
theorem cb_m3 : (Int8.ofInt (-3)).toInt32 = (-3 : Int32) := by decide
theorem l0_Law__X_write (L : Nat) (xs : Nat → Int32) : jm_l0 (mY_Law L xs) mY_X_write := ⟨⟨Nat.le_of_ble_eq_true rfl, Nat.le_of_ble_eq_true rfl⟩, rfl, rfl⟩
def mY_Z_write : jm_Y := (⟨"LyingBeaconsModel", "write", "(IJ)I"⟩, prog_11_method_5_code, 5, some .int, { frames := 1, cells := 0, slots := 0, locals := 25 }, none)
theorem cw_Z_write : Cond.code (jm_nm mY_Z_write) (jm_cd mY_Z_write) (jm_ml mY_Z_write) (jm_rt mY_Z_write) ∈ jm_tbl := jm_in (List.mem_of_getElem? (i := 854) (by decide +kernel)) rfl
theorem ok_Z_write : jm_ok mY_Z_write 2 := ⟨by decide, rfl, cw_Z_write, ini_Z, by decide +kernel⟩
theorem cl_1 : Int64.ofNat ((1 : Fin 2) : Nat) = (1 : Int64) := by decide
theorem kl_Z_67 : Cond.constantLong "LyingBeaconsModel" 67 (8 : Int64) ∈ jm_tbl := jm_in (List.mem_of_getElem? (i := 855) (by decide +kernel)) rfl
def mY_Z_in : jm_Y := (⟨"LyingBeaconsModel", "in", "(JJJ)Z"⟩, prog_11_method_2_code, 6, some .boolean, { frames := 0, cells := 0, slots := 0, locals := 0 }, none)
theorem cw_Z_in : Cond.code (jm_nm mY_Z_in) (jm_cd mY_Z_in) (jm_ml mY_Z_in) (jm_rt mY_Z_in) ∈ jm_tbl := jm_in (List.mem_of_getElem? (i := 858) (by decide +kernel)) rfl
theorem ok_Z_in : jm_ok mY_Z_in 3 := ⟨by decide, rfl, cw_Z_in, ini_Z, by decide +kernel⟩
theorem l0_Z_write__Z_in : jm_l0 mY_Z_write mY_Z_in := ⟨⟨Nat.le_of_ble_eq_true rfl, Nat.le_of_ble_eq_true rfl⟩, rfl, rfl⟩
theorem fo_Z_73 : jm_fo "LyingBeaconsModel" 73 8 0 RX9 TX9 30 := ⟨inY9, rfl, by decide, jm_in (List.mem_of_getElem? (i := 760) (by decide +kernel)) rfl⟩
theorem mr_154_59_1 : mr_154 59 1 = some 60 := by decide
theorem kl_Z_77 : Cond.constantLong "LyingBeaconsModel" 77 (255 : Int64) ∈ jm_tbl := jm_in (List.mem_of_getElem? (i := 859) (by decide +kernel)) rfl
theorem fp_Z_73 : jm_fp "LyingBeaconsModel" 73 8 0 RX9 TX9 30 false .int := ⟨fo_Z_73, ⟨tyX9, tyX9_ok⟩, nmX9, rfl, by decide +kernel, fun h => by first | rfl | cases h⟩
theorem le_60_78 : 60 ≤ 78 := by decide
theorem ml_Z_69 : Cond.methodLink "LyingBeaconsModel" 69 ⟨"LyingBeaconsModel", "in", "(JJJ)Z"⟩ ∈ jm_tbl := jm_in (List.mem_of_getElem? (i := 856) (by decide +kernel)) rfl
theorem sm_Z_in : Cond.static ⟨"LyingBeaconsModel", "in", "(JJJ)Z"⟩ ∈ jm_tbl := jm_in (List.mem_of_getElem? (i := 857) (by decide +kernel)) rfl
theorem l0_Law__Z_write (L : Nat) (xs : Nat → Int32) : jm_l0 (mY_Law L xs) mY_Z_write := ⟨⟨Nat.le_of_ble_eq_true rfl, Nat.le_of_ble_eq_true rfl⟩, rfl, rfl⟩
theorem ci_6 : Int32.ofInt 6 = (6 : Int32) := by decide
theorem ml_Law_19 : Cond.methodLink "LyingBeaconsLaw" 19 ⟨"LyingBeaconsModel", "write", "(IJ)I"⟩ ∈ jm_tbl := jm_in (List.mem_of_getElem? (i := 851) (by decide +kernel)) rfl
theorem im_Z_write : Cond.instanceMethod ⟨"LyingBeaconsModel", "write", "(IJ)I"⟩ ∈ jm_tbl := jm_in (List.mem_of_getElem? (i := 852) (by decide +kernel)) rfl
theorem se_Z_write : Cond.selects "LyingBeaconsModel" ⟨"LyingBeaconsModel", "write", "(IJ)I"⟩ ⟨"LyingBeaconsModel", "write", "(IJ)I"⟩ ∈ jm_tbl := jm_in (List.mem_of_getElem? (i := 853) (by decide +kernel)) rfl
theorem ml_Law_15 : Cond.methodLink "LyingBeaconsLaw" 15 ⟨"LyingBeacons", "write", "(IJ)I"⟩ ∈ jm_tbl := jm_in (List.mem_of_getElem? (i := 328) (by decide +kernel)) rfl
theorem im_X_write : Cond.instanceMethod ⟨"LyingBeacons", "write", "(IJ)I"⟩ ∈ jm_tbl := jm_in (List.mem_of_getElem? (i := 329) (by decide +kernel)) rfl
theorem se_X_write : Cond.selects "LyingBeacons" ⟨"LyingBeacons", "write", "(IJ)I"⟩ ⟨"LyingBeacons", "write", "(IJ)I"⟩ ∈ jm_tbl := jm_in (List.mem_of_getElem? (i := 330) (by decide +kernel)) rfl
def mY_X_wipe : jm_Y := (⟨"LyingBeacons", "wipe", "()I"⟩, prog_1_method_3_code, 2, some .int, { frames := 0, cells := 0, slots := 0, locals := 0 }, none)
theorem cw_X_wipe : Cond.code (jm_nm mY_X_wipe) (jm_cd mY_X_wipe) (jm_ml mY_X_wipe) (jm_rt mY_X_wipe) ∈ jm_tbl := jm_in (List.mem_of_getElem? (i := 335) (by decide +kernel)) rfl
theorem ok_X_wipe : jm_ok mY_X_wipe 0 := ⟨by decide, rfl, cw_X_wipe, ini_X, by decide +kernel⟩
theorem l0_Law__X_wipe (L : Nat) (xs : Nat → Int32) : jm_l0 (mY_Law L xs) mY_X_wipe := ⟨⟨Nat.le_of_ble_eq_true rfl, Nat.le_of_ble_eq_true rfl⟩, rfl, rfl⟩
def mY_Z_wipe : jm_Y := (⟨"LyingBeaconsModel", "wipe", "()I"⟩, prog_11_method_6_code, 2, some .int, { frames := 0, cells := 0, slots := 0, locals := 0 }, none)
theorem cw_Z_wipe : Cond.code (jm_nm mY_Z_wipe) (jm_cd mY_Z_wipe) (jm_ml mY_Z_wipe) (jm_rt mY_Z_wipe) ∈ jm_tbl := jm_in (List.mem_of_getElem? (i := 863) (by decide +kernel)) rfl
theorem ok_Z_wipe : jm_ok mY_Z_wipe 0 := ⟨by decide, rfl, cw_Z_wipe, ini_Z, by decide +kernel⟩
theorem l0_Law__Z_wipe (L : Nat) (xs : Nat → Int32) : jm_l0 (mY_Law L xs) mY_Z_wipe := ⟨⟨Nat.le_of_ble_eq_true rfl, Nat.le_of_ble_eq_true rfl⟩, rfl, rfl⟩
theorem ml_Law_24 : Cond.methodLink "LyingBeaconsLaw" 24 ⟨"LyingBeaconsModel", "wipe", "()I"⟩ ∈ jm_tbl := jm_in (List.mem_of_getElem? (i := 860) (by decide +kernel)) rfl
theorem im_Z_wipe : Cond.instanceMethod ⟨"LyingBeaconsModel", "wipe", "()I"⟩ ∈ jm_tbl := jm_in (List.mem_of_getElem? (i := 861) (by decide +kernel)) rfl
theorem se_Z_wipe : Cond.selects "LyingBeaconsModel" ⟨"LyingBeaconsModel", "wipe", "()I"⟩ ⟨"LyingBeaconsModel", "wipe", "()I"⟩ ∈ jm_tbl := jm_in (List.mem_of_getElem? (i := 862) (by decide +kernel)) rfl
theorem ml_Law_20 : Cond.methodLink "LyingBeaconsLaw" 20 ⟨"LyingBeacons", "wipe", "()I"⟩ ∈ jm_tbl := jm_in (List.mem_of_getElem? (i := 332) (by decide +kernel)) rfl
theorem im_X_wipe : Cond.instanceMethod ⟨"LyingBeacons", "wipe", "()I"⟩ ∈ jm_tbl := jm_in (List.mem_of_getElem? (i := 333) (by decide +kernel)) rfl
theorem se_X_wipe : Cond.selects "LyingBeacons" ⟨"LyingBeacons", "wipe", "()I"⟩ ⟨"LyingBeacons", "wipe", "()I"⟩ ∈ jm_tbl := jm_in (List.mem_of_getElem? (i := 334) (by decide +kernel)) rfl
def mY_X_fault : jm_Y := (⟨"LyingBeacons", "fault", "()I"⟩, prog_1_method_4_code, 1, some .int, { frames := 5, cells := 0, slots := 0, locals := 114 }, none)
theorem cw_X_fault : Cond.code (jm_nm mY_X_fault) (jm_cd mY_X_fault) (jm_ml mY_X_fault) (jm_rt mY_X_fault) ∈ jm_tbl := jm_in (List.mem_of_getElem? (i := 339) (by decide +kernel)) rfl
theorem ok_X_fault : jm_ok mY_X_fault 0 := ⟨by decide, rfl, cw_X_fault, ini_X, by decide +kernel⟩
theorem mr_154_1_2 : mr_154 1 2 = some 3 := by decide
theorem mr_154_1_3 : mr_154 1 3 = some 5 := by decide
def mY_Re_firstFault : jm_Y := (⟨"LyingBeacons$Reader", "firstFault", "([BILLyingBeacons$Net;)I"⟩, prog_7_method_2_code, 6, some .int, { frames := 4, cells := 0, slots := 0, locals := 89 }, none)
theorem cw_Re_firstFault : Cond.code (jm_nm mY_Re_firstFault) (jm_cd mY_Re_firstFault) (jm_ml mY_Re_firstFault) (jm_rt mY_Re_firstFault) ∈ jm_tbl := jm_in (List.mem_of_getElem? (i := 343) (by decide +kernel)) rfl
theorem ok_Re_firstFault : jm_ok mY_Re_firstFault 3 := ⟨by decide, rfl, cw_Re_firstFault, ini_Re, by decide +kernel⟩
theorem le_5_78 : 5 ≤ 78 := by decide
theorem mr_154_5_9 : mr_154 5 9 = some 14 := by decide
theorem le_14_78 : 14 ≤ 78 := by decide
theorem mr_154_5_1 : mr_154 5 1 = some 6 := by decide
theorem mr_154_5_2 : mr_154 5 2 = some 7 := by decide
theorem mr_154_5_3 : mr_154 5 3 = some 8 := by decide
theorem mr_154_5_4 : mr_154 5 4 = some 9 := by decide
theorem mr_154_5_5 : mr_154 5 5 = some 10 := by decide
theorem mr_154_5_6 : mr_154 5 6 = some 11 := by decide
theorem mr_154_5_7 : mr_154 5 7 = some 12 := by decide
theorem mr_154_5_8 : mr_154 5 8 = some 13 := by decide
theorem le_13_78 : 13 ≤ 78 := by decide
theorem le_12_78 : 12 ≤ 78 := by decide
theorem le_11_78 : 11 ≤ 78 := by decide
theorem le_10_78 : 10 ≤ 78 := by decide
theorem le_9_78 : 9 ≤ 78 := by decide
theorem le_8_78 : 8 ≤ 78 := by decide
theorem le_7_78 : 7 ≤ 78 := by decide
theorem le_6_78 : 6 ≤ 78 := by decide
theorem l0_Re_firstFault__Ne_clear : jm_l0 mY_Re_firstFault mY_Ne_clear := ⟨⟨Nat.le_of_ble_eq_true rfl, Nat.le_of_ble_eq_true rfl⟩, rfl, rfl⟩
theorem le_3_78 : 3 ≤ 78 := by decide
def mY_Re_readItem : jm_Y := (⟨"LyingBeacons$Reader", "readItem", "([BI)Z"⟩, prog_7_method_3_code, 6, some .boolean, { frames := 2, cells := 0, slots := 0, locals := 46 }, none)
theorem cw_Re_readItem : Cond.code (jm_nm mY_Re_readItem) (jm_cd mY_Re_readItem) (jm_ml mY_Re_readItem) (jm_rt mY_Re_readItem) ∈ jm_tbl := jm_in (List.mem_of_getElem? (i := 348) (by decide +kernel)) rfl
theorem ok_Re_readItem : jm_ok mY_Re_readItem 2 := ⟨by decide, rfl, cw_Re_readItem, ini_Re, by decide +kernel⟩
def mY_Re_byteAt : jm_Y := (⟨"LyingBeacons$Reader", "byteAt", "([BI)I"⟩, prog_7_method_5_code, 3, some .int, { frames := 0, cells := 0, slots := 0, locals := 0 }, none)
theorem cw_Re_byteAt : Cond.code (jm_nm mY_Re_byteAt) (jm_cd mY_Re_byteAt) (jm_ml mY_Re_byteAt) (jm_rt mY_Re_byteAt) ∈ jm_tbl := jm_in (List.mem_of_getElem? (i := 352) (by decide +kernel)) rfl
theorem ok_Re_byteAt : jm_ok mY_Re_byteAt 2 := ⟨by decide, rfl, cw_Re_byteAt, ini_Re, by decide +kernel⟩
theorem l0_Re_readItem__Re_byteAt : jm_l0 mY_Re_readItem mY_Re_byteAt := ⟨⟨Nat.le_of_ble_eq_true rfl, Nat.le_of_ble_eq_true rfl⟩, rfl, rfl⟩
def mY_Re_readNumber : jm_Y := (⟨"LyingBeacons$Reader", "readNumber", "([BI)I"⟩, prog_7_method_4_code, 5, some .int, { frames := 1, cells := 0, slots := 0, locals := 22 }, none)
theorem cw_Re_readNumber : Cond.code (jm_nm mY_Re_readNumber) (jm_cd mY_Re_readNumber) (jm_ml mY_Re_readNumber) (jm_rt mY_Re_readNumber) ∈ jm_tbl := jm_in (List.mem_of_getElem? (i := 356) (by decide +kernel)) rfl
theorem ok_Re_readNumber : jm_ok mY_Re_readNumber 2 := ⟨by decide, rfl, cw_Re_readNumber, ini_Re, by decide +kernel⟩
theorem l0_Re_readNumber__Re_byteAt : jm_l0 mY_Re_readNumber mY_Re_byteAt := ⟨⟨Nat.le_of_ble_eq_true rfl, Nat.le_of_ble_eq_true rfl⟩, rfl, rfl⟩
theorem cb_48 : (Int8.ofInt 48).toInt32 = (48 : Int32) := by decide
theorem ml_Re_48 : Cond.methodLink "LyingBeacons$Reader" 48 ⟨"LyingBeacons$Reader", "byteAt", "([BI)I"⟩ ∈ jm_tbl := jm_in (List.mem_of_getElem? (i := 349) (by decide +kernel)) rfl
theorem im_Re_byteAt : Cond.instanceMethod ⟨"LyingBeacons$Reader", "byteAt", "([BI)I"⟩ ∈ jm_tbl := jm_in (List.mem_of_getElem? (i := 351) (by decide +kernel)) rfl
theorem se_Re_byteAt : Cond.selects "LyingBeacons$Reader" ⟨"LyingBeacons$Reader", "byteAt", "([BI)I"⟩ ⟨"LyingBeacons$Reader", "byteAt", "([BI)I"⟩ ∈ jm_tbl := jm_in (List.mem_of_getElem? (i := 1) (by decide +kernel)) rfl
theorem l0_Re_readItem__Re_readNumber : jm_l0 mY_Re_readItem mY_Re_readNumber := ⟨⟨Nat.le_of_ble_eq_true rfl, Nat.le_of_ble_eq_true rfl⟩, rfl, rfl⟩
theorem mr_154_3_0 : mr_154 3 0 = some 4 := by decide
theorem cb_59 : (Int8.ofInt 59).toInt32 = (59 : Int32) := by decide
theorem cb_44 : (Int8.ofInt 44).toInt32 = (44 : Int32) := by decide
theorem le_4_78 : 4 ≤ 78 := by decide
theorem ml_Re_52 : Cond.methodLink "LyingBeacons$Reader" 52 ⟨"LyingBeacons$Reader", "readNumber", "([BI)I"⟩ ∈ jm_tbl := jm_in (List.mem_of_getElem? (i := 353) (by decide +kernel)) rfl
theorem im_Re_readNumber : Cond.instanceMethod ⟨"LyingBeacons$Reader", "readNumber", "([BI)I"⟩ ∈ jm_tbl := jm_in (List.mem_of_getElem? (i := 355) (by decide +kernel)) rfl
theorem se_Re_readNumber : Cond.selects "LyingBeacons$Reader" ⟨"LyingBeacons$Reader", "readNumber", "([BI)I"⟩ ⟨"LyingBeacons$Reader", "readNumber", "([BI)I"⟩ ∈ jm_tbl := jm_in (List.mem_of_getElem? (i := 2) (by decide +kernel)) rfl
theorem l0_Re_firstFault__Re_readItem : jm_l0 mY_Re_firstFault mY_Re_readItem := ⟨⟨Nat.le_of_ble_eq_true rfl, Nat.le_of_ble_eq_true rfl⟩, rfl, rfl⟩
def mY_Re_takeItem : jm_Y := (⟨"LyingBeacons$Reader", "takeItem", "(LLyingBeacons$Net;)Z"⟩, prog_7_method_6_code, 2, some .boolean, { frames := 3, cells := 0, slots := 0, locals := 68 }, none)
theorem cw_Re_takeItem : Cond.code (jm_nm mY_Re_takeItem) (jm_cd mY_Re_takeItem) (jm_ml mY_Re_takeItem) (jm_rt mY_Re_takeItem) ∈ jm_tbl := jm_in (List.mem_of_getElem? (i := 360) (by decide +kernel)) rfl
theorem ok_Re_takeItem : jm_ok mY_Re_takeItem 1 := ⟨by decide, rfl, cw_Re_takeItem, ini_Re, by decide +kernel⟩
theorem cb_104 : (Int8.ofInt 104).toInt32 = (104 : Int32) := by decide
def mY_Ne_isHill : jm_Y := (⟨"LyingBeacons$Net", "isHill", "(I)Z"⟩, prog_5_method_4_code, 2, some .boolean, { frames := 0, cells := 0, slots := 0, locals := 0 }, none)
theorem cw_Ne_isHill : Cond.code (jm_nm mY_Ne_isHill) (jm_cd mY_Ne_isHill) (jm_ml mY_Ne_isHill) (jm_rt mY_Ne_isHill) ∈ jm_tbl := jm_in (List.mem_of_getElem? (i := 376) (by decide +kernel)) rfl
theorem ok_Ne_isHill : jm_ok mY_Ne_isHill 1 := ⟨by decide, rfl, cw_Ne_isHill, ini_Ne, by decide +kernel⟩
theorem l0_Re_takeItem__Ne_isHill : jm_l0 mY_Re_takeItem mY_Ne_isHill := ⟨⟨Nat.le_of_ble_eq_true rfl, Nat.le_of_ble_eq_true rfl⟩, rfl, rfl⟩
def mY_Re_takeMist : jm_Y := (⟨"LyingBeacons$Reader", "takeMist", "(LLyingBeacons$Net;)Z"⟩, prog_7_method_12_code, 4, some .boolean, { frames := 2, cells := 0, slots := 0, locals := 45 }, none)
theorem cw_Re_takeMist : Cond.code (jm_nm mY_Re_takeMist) (jm_cd mY_Re_takeMist) (jm_ml mY_Re_takeMist) (jm_rt mY_Re_takeMist) ∈ jm_tbl := jm_in (List.mem_of_getElem? (i := 410) (by decide +kernel)) rfl
theorem ok_Re_takeMist : jm_ok mY_Re_takeMist 1 := ⟨by decide, rfl, cw_Re_takeMist, ini_Re, by decide +kernel⟩
def mY_Re_isSight : jm_Y := (⟨"LyingBeacons$Reader", "isSight", "(LLyingBeacons$Net;II)Z"⟩, prog_7_method_14_code, 3, some .boolean, { frames := 1, cells := 0, slots := 0, locals := 21 }, none)
theorem cw_Re_isSight : Cond.code (jm_nm mY_Re_isSight) (jm_cd mY_Re_isSight) (jm_ml mY_Re_isSight) (jm_rt mY_Re_isSight) ∈ jm_tbl := jm_in (List.mem_of_getElem? (i := 383) (by decide +kernel)) rfl
theorem ok_Re_isSight : jm_ok mY_Re_isSight 3 := ⟨by decide, rfl, cw_Re_isSight, ini_Re, by decide +kernel⟩
theorem l0_Re_isSight__Ne_isHill : jm_l0 mY_Re_isSight mY_Ne_isHill := ⟨⟨Nat.le_of_ble_eq_true rfl, Nat.le_of_ble_eq_true rfl⟩, rfl, rfl⟩
theorem fo_Re_94 : jm_fo "LyingBeacons$Reader" 94 2 2 RX3 TX3 12 := ⟨inY3, rfl, by decide, jm_in (List.mem_of_getElem? (i := 137) (by decide +kernel)) rfl⟩
theorem ml_Re_58 : Cond.methodLink "LyingBeacons$Reader" 58 ⟨"LyingBeacons$Net", "isHill", "(I)Z"⟩ ∈ jm_tbl := jm_in (List.mem_of_getElem? (i := 373) (by decide +kernel)) rfl
theorem im_Ne_isHill : Cond.instanceMethod ⟨"LyingBeacons$Net", "isHill", "(I)Z"⟩ ∈ jm_tbl := jm_in (List.mem_of_getElem? (i := 374) (by decide +kernel)) rfl
theorem se_Ne_isHill : Cond.selects "LyingBeacons$Net" ⟨"LyingBeacons$Net", "isHill", "(I)Z"⟩ ⟨"LyingBeacons$Net", "isHill", "(I)Z"⟩ ∈ jm_tbl := jm_in (List.mem_of_getElem? (i := 375) (by decide +kernel)) rfl
theorem l0_Re_takeMist__Re_isSight : jm_l0 mY_Re_takeMist mY_Re_isSight := ⟨⟨Nat.le_of_ble_eq_true rfl, Nat.le_of_ble_eq_true rfl⟩, rfl, rfl⟩
def mY_Re_areMinutes : jm_Y := (⟨"LyingBeacons$Reader", "areMinutes", "(I)Z"⟩, prog_7_method_15_code, 2, some .boolean, { frames := 1, cells := 0, slots := 0, locals := 20 }, none)
theorem cw_Re_areMinutes : Cond.code (jm_nm mY_Re_areMinutes) (jm_cd mY_Re_areMinutes) (jm_ml mY_Re_areMinutes) (jm_rt mY_Re_areMinutes) ∈ jm_tbl := jm_in (List.mem_of_getElem? (i := 399) (by decide +kernel)) rfl
theorem ok_Re_areMinutes : jm_ok mY_Re_areMinutes 1 := ⟨by decide, rfl, cw_Re_areMinutes, ini_Re, by decide +kernel⟩
def mY_X_isMinute : jm_Y := (⟨"LyingBeacons", "isMinute", "(I)Z"⟩, prog_1_method_31_code, 1, some .boolean, { frames := 0, cells := 0, slots := 0, locals := 0 }, none)
theorem cw_X_isMinute : Cond.code (jm_nm mY_X_isMinute) (jm_cd mY_X_isMinute) (jm_ml mY_X_isMinute) (jm_rt mY_X_isMinute) ∈ jm_tbl := jm_in (List.mem_of_getElem? (i := 402) (by decide +kernel)) rfl
theorem ok_X_isMinute : jm_ok mY_X_isMinute 1 := ⟨by decide, rfl, cw_X_isMinute, ini_X, by decide +kernel⟩
theorem l0_Re_areMinutes__X_isMinute : jm_l0 mY_Re_areMinutes mY_X_isMinute := ⟨⟨Nat.le_of_ble_eq_true rfl, Nat.le_of_ble_eq_true rfl⟩, rfl, rfl⟩
theorem nl_Re_124 : (("LyingBeacons$Reader", 124, ⟨"LyingBeacons", "isMinute", "(I)Z"⟩, "LyingBeacons") : String × Nat × MethodName × String) ∈ jm_nest := by decide +kernel
theorem sm_X_isMinute : Cond.static ⟨"LyingBeacons", "isMinute", "(I)Z"⟩ ∈ jm_tbl := jm_in (List.mem_of_getElem? (i := 401) (by decide +kernel)) rfl
theorem l0_Re_takeMist__Re_areMinutes : jm_l0 mY_Re_takeMist mY_Re_areMinutes := ⟨⟨Nat.le_of_ble_eq_true rfl, Nat.le_of_ble_eq_true rfl⟩, rfl, rfl⟩
def mY_X_minutesFrom : jm_Y := (⟨"LyingBeacons", "minutesFrom", "(II)J"⟩, prog_1_method_36_code, 2, some .long, { frames := 0, cells := 0, slots := 0, locals := 0 }, none)
theorem cw_X_minutesFrom : Cond.code (jm_nm mY_X_minutesFrom) (jm_cd mY_X_minutesFrom) (jm_ml mY_X_minutesFrom) (jm_rt mY_X_minutesFrom) ∈ jm_tbl := jm_in (List.mem_of_getElem? (i := 405) (by decide +kernel)) rfl
theorem ok_X_minutesFrom : jm_ok mY_X_minutesFrom 2 := ⟨by decide, rfl, cw_X_minutesFrom, ini_X, by decide +kernel⟩
theorem kl_X_267 : Cond.constantLong "LyingBeacons" 267 (-1 : Int64) ∈ jm_tbl := jm_in (List.mem_of_getElem? (i := 406) (by decide +kernel)) rfl
theorem cb_63 : (Int8.ofInt 63).toInt32 = (63 : Int32) := by decide
theorem l0_Re_takeMist__X_minutesFrom : jm_l0 mY_Re_takeMist mY_X_minutesFrom := ⟨⟨Nat.le_of_ble_eq_true rfl, Nat.le_of_ble_eq_true rfl⟩, rfl, rfl⟩
def mY_Ne_addMist : jm_Y := (⟨"LyingBeacons$Net", "addMist", "(IIJ)V"⟩, prog_5_method_11_code, 5, none, { frames := 1, cells := 0, slots := 0, locals := 21 }, none)
theorem cw_Ne_addMist : Cond.code (jm_nm mY_Ne_addMist) (jm_cd mY_Ne_addMist) (jm_ml mY_Ne_addMist) (jm_rt mY_Ne_addMist) ∈ jm_tbl := jm_in (List.mem_of_getElem? (i := 414) (by decide +kernel)) rfl
theorem ok_Ne_addMist : jm_ok mY_Ne_addMist 3 := ⟨by decide, rfl, cw_Ne_addMist, ini_Ne, by decide +kernel⟩
theorem l0_Ne_addMist__Ne_isHill : jm_l0 mY_Ne_addMist mY_Ne_isHill := ⟨⟨Nat.le_of_ble_eq_true rfl, Nat.le_of_ble_eq_true rfl⟩, rfl, rfl⟩
theorem ml_Ne_63 : Cond.methodLink "LyingBeacons$Net" 63 ⟨"LyingBeacons$Net", "isHill", "(I)Z"⟩ ∈ jm_tbl := jm_in (List.mem_of_getElem? (i := 415) (by decide +kernel)) rfl
theorem l0_Re_takeMist__Ne_addMist : jm_l0 mY_Re_takeMist mY_Ne_addMist := ⟨⟨Nat.le_of_ble_eq_true rfl, Nat.le_of_ble_eq_true rfl⟩, rfl, rfl⟩
theorem ml_Re_117 : Cond.methodLink "LyingBeacons$Reader" 117 ⟨"LyingBeacons$Net", "addMist", "(IIJ)V"⟩ ∈ jm_tbl := jm_in (List.mem_of_getElem? (i := 411) (by decide +kernel)) rfl
theorem im_Ne_addMist : Cond.instanceMethod ⟨"LyingBeacons$Net", "addMist", "(IIJ)V"⟩ ∈ jm_tbl := jm_in (List.mem_of_getElem? (i := 412) (by decide +kernel)) rfl
theorem se_Ne_addMist : Cond.selects "LyingBeacons$Net" ⟨"LyingBeacons$Net", "addMist", "(IIJ)V"⟩ ⟨"LyingBeacons$Net", "addMist", "(IIJ)V"⟩ ∈ jm_tbl := jm_in (List.mem_of_getElem? (i := 413) (by decide +kernel)) rfl
theorem nl_Re_113 : (("LyingBeacons$Reader", 113, ⟨"LyingBeacons", "minutesFrom", "(II)J"⟩, "LyingBeacons") : String × Nat × MethodName × String) ∈ jm_nest := by decide +kernel
theorem sm_X_minutesFrom : Cond.static ⟨"LyingBeacons", "minutesFrom", "(II)J"⟩ ∈ jm_tbl := jm_in (List.mem_of_getElem? (i := 404) (by decide +kernel)) rfl
theorem ml_Re_106 : Cond.methodLink "LyingBeacons$Reader" 106 ⟨"LyingBeacons$Reader", "areMinutes", "(I)Z"⟩ ∈ jm_tbl := jm_in (List.mem_of_getElem? (i := 396) (by decide +kernel)) rfl
theorem im_Re_areMinutes : Cond.instanceMethod ⟨"LyingBeacons$Reader", "areMinutes", "(I)Z"⟩ ∈ jm_tbl := jm_in (List.mem_of_getElem? (i := 398) (by decide +kernel)) rfl
theorem se_Re_areMinutes : Cond.selects "LyingBeacons$Reader" ⟨"LyingBeacons$Reader", "areMinutes", "(I)Z"⟩ ⟨"LyingBeacons$Reader", "areMinutes", "(I)Z"⟩ ∈ jm_tbl := jm_in (List.mem_of_getElem? (i := 9) (by decide +kernel)) rfl
theorem ml_Re_90 : Cond.methodLink "LyingBeacons$Reader" 90 ⟨"LyingBeacons$Reader", "isSight", "(LLyingBeacons$Net;II)Z"⟩ ∈ jm_tbl := jm_in (List.mem_of_getElem? (i := 381) (by decide +kernel)) rfl
theorem sm_Re_isSight : Cond.static ⟨"LyingBeacons$Reader", "isSight", "(LLyingBeacons$Net;II)Z"⟩ ∈ jm_tbl := jm_in (List.mem_of_getElem? (i := 382) (by decide +kernel)) rfl
theorem l0_Re_takeItem__Re_takeMist : jm_l0 mY_Re_takeItem mY_Re_takeMist := ⟨⟨Nat.le_of_ble_eq_true rfl, Nat.le_of_ble_eq_true rfl⟩, rfl, rfl⟩
theorem ml_Re_74 : Cond.methodLink "LyingBeacons$Reader" 74 ⟨"LyingBeacons$Reader", "takeMist", "(LLyingBeacons$Net;)Z"⟩ ∈ jm_tbl := jm_in (List.mem_of_getElem? (i := 407) (by decide +kernel)) rfl
theorem im_Re_takeMist : Cond.instanceMethod ⟨"LyingBeacons$Reader", "takeMist", "(LLyingBeacons$Net;)Z"⟩ ∈ jm_tbl := jm_in (List.mem_of_getElem? (i := 409) (by decide +kernel)) rfl
theorem se_Re_takeMist : Cond.selects "LyingBeacons$Reader" ⟨"LyingBeacons$Reader", "takeMist", "(LLyingBeacons$Net;)Z"⟩ ⟨"LyingBeacons$Reader", "takeMist", "(LLyingBeacons$Net;)Z"⟩ ∈ jm_tbl := jm_in (List.mem_of_getElem? (i := 10) (by decide +kernel)) rfl
def mY_Re_takeLiar : jm_Y := (⟨"LyingBeacons$Reader", "takeLiar", "(LLyingBeacons$Net;)Z"⟩, prog_7_method_13_code, 3, some .boolean, { frames := 2, cells := 0, slots := 0, locals := 41 }, none)
theorem cw_Re_takeLiar : Cond.code (jm_nm mY_Re_takeLiar) (jm_cd mY_Re_takeLiar) (jm_ml mY_Re_takeLiar) (jm_rt mY_Re_takeLiar) ∈ jm_tbl := jm_in (List.mem_of_getElem? (i := 419) (by decide +kernel)) rfl
theorem ok_Re_takeLiar : jm_ok mY_Re_takeLiar 1 := ⟨by decide, rfl, cw_Re_takeLiar, ini_Re, by decide +kernel⟩
theorem l0_Re_takeLiar__Ne_isHill : jm_l0 mY_Re_takeLiar mY_Ne_isHill := ⟨⟨Nat.le_of_ble_eq_true rfl, Nat.le_of_ble_eq_true rfl⟩, rfl, rfl⟩
theorem l0_Re_takeLiar__Re_areMinutes : jm_l0 mY_Re_takeLiar mY_Re_areMinutes := ⟨⟨Nat.le_of_ble_eq_true rfl, Nat.le_of_ble_eq_true rfl⟩, rfl, rfl⟩
theorem fo_Re_87 : jm_fo "LyingBeacons$Reader" 87 2 1 RX3 TX3 12 := ⟨inY3, rfl, by decide, jm_in (List.mem_of_getElem? (i := 131) (by decide +kernel)) rfl⟩
theorem fo_Re_121 : jm_fo "LyingBeacons$Reader" 121 2 8 RX3 TX3 12 := ⟨inY3, rfl, by decide, jm_in (List.mem_of_getElem? (i := 162) (by decide +kernel)) rfl⟩
theorem l0_Re_takeLiar__X_minutesFrom : jm_l0 mY_Re_takeLiar mY_X_minutesFrom := ⟨⟨Nat.le_of_ble_eq_true rfl, Nat.le_of_ble_eq_true rfl⟩, rfl, rfl⟩
theorem l0_Re_takeItem__Re_takeLiar : jm_l0 mY_Re_takeItem mY_Re_takeLiar := ⟨⟨Nat.le_of_ble_eq_true rfl, Nat.le_of_ble_eq_true rfl⟩, rfl, rfl⟩
theorem ml_Re_77 : Cond.methodLink "LyingBeacons$Reader" 77 ⟨"LyingBeacons$Reader", "takeLiar", "(LLyingBeacons$Net;)Z"⟩ ∈ jm_tbl := jm_in (List.mem_of_getElem? (i := 416) (by decide +kernel)) rfl
theorem im_Re_takeLiar : Cond.instanceMethod ⟨"LyingBeacons$Reader", "takeLiar", "(LLyingBeacons$Net;)Z"⟩ ∈ jm_tbl := jm_in (List.mem_of_getElem? (i := 418) (by decide +kernel)) rfl
theorem se_Re_takeLiar : Cond.selects "LyingBeacons$Reader" ⟨"LyingBeacons$Reader", "takeLiar", "(LLyingBeacons$Net;)Z"⟩ ⟨"LyingBeacons$Reader", "takeLiar", "(LLyingBeacons$Net;)Z"⟩ ∈ jm_tbl := jm_in (List.mem_of_getElem? (i := 11) (by decide +kernel)) rfl
def mY_Re_takeRule : jm_Y := (⟨"LyingBeacons$Reader", "takeRule", "(LLyingBeacons$Net;)Z"⟩, prog_7_method_9_code, 5, some .boolean, { frames := 1, cells := 0, slots := 0, locals := 21 }, none)
theorem cw_Re_takeRule : Cond.code (jm_nm mY_Re_takeRule) (jm_cd mY_Re_takeRule) (jm_ml mY_Re_takeRule) (jm_rt mY_Re_takeRule) ∈ jm_tbl := jm_in (List.mem_of_getElem? (i := 387) (by decide +kernel)) rfl
theorem ok_Re_takeRule : jm_ok mY_Re_takeRule 1 := ⟨by decide, rfl, cw_Re_takeRule, ini_Re, by decide +kernel⟩
theorem l0_Re_takeRule__Ne_isHill : jm_l0 mY_Re_takeRule mY_Ne_isHill := ⟨⟨Nat.le_of_ble_eq_true rfl, Nat.le_of_ble_eq_true rfl⟩, rfl, rfl⟩
theorem fo_Re_97 : jm_fo "LyingBeacons$Reader" 97 2 3 RX3 TX3 12 := ⟨inY3, rfl, by decide, jm_in (List.mem_of_getElem? (i := 143) (by decide +kernel)) rfl⟩
theorem fo_Re_100 : jm_fo "LyingBeacons$Reader" 100 2 4 RX3 TX3 12 := ⟨inY3, rfl, by decide, jm_in (List.mem_of_getElem? (i := 149) (by decide +kernel)) rfl⟩
theorem l0_Re_takeItem__Re_takeRule : jm_l0 mY_Re_takeItem mY_Re_takeRule := ⟨⟨Nat.le_of_ble_eq_true rfl, Nat.le_of_ble_eq_true rfl⟩, rfl, rfl⟩
theorem ml_Re_65 : Cond.methodLink "LyingBeacons$Reader" 65 ⟨"LyingBeacons$Reader", "takeRule", "(LLyingBeacons$Net;)Z"⟩ ∈ jm_tbl := jm_in (List.mem_of_getElem? (i := 384) (by decide +kernel)) rfl
theorem im_Re_takeRule : Cond.instanceMethod ⟨"LyingBeacons$Reader", "takeRule", "(LLyingBeacons$Net;)Z"⟩ ∈ jm_tbl := jm_in (List.mem_of_getElem? (i := 386) (by decide +kernel)) rfl
theorem se_Re_takeRule : Cond.selects "LyingBeacons$Reader" ⟨"LyingBeacons$Reader", "takeRule", "(LLyingBeacons$Net;)Z"⟩ ⟨"LyingBeacons$Reader", "takeRule", "(LLyingBeacons$Net;)Z"⟩ ∈ jm_tbl := jm_in (List.mem_of_getElem? (i := 6) (by decide +kernel)) rfl
def mY_Re_takeSleep : jm_Y := (⟨"LyingBeacons$Reader", "takeSleep", "(LLyingBeacons$Net;)Z"⟩, prog_7_method_11_code, 3, some .boolean, { frames := 2, cells := 0, slots := 0, locals := 41 }, none)
theorem cw_Re_takeSleep : Cond.code (jm_nm mY_Re_takeSleep) (jm_cd mY_Re_takeSleep) (jm_ml mY_Re_takeSleep) (jm_rt mY_Re_takeSleep) ∈ jm_tbl := jm_in (List.mem_of_getElem? (i := 395) (by decide +kernel)) rfl
theorem ok_Re_takeSleep : jm_ok mY_Re_takeSleep 1 := ⟨by decide, rfl, cw_Re_takeSleep, ini_Re, by decide +kernel⟩
theorem l0_Re_takeSleep__Ne_isHill : jm_l0 mY_Re_takeSleep mY_Ne_isHill := ⟨⟨Nat.le_of_ble_eq_true rfl, Nat.le_of_ble_eq_true rfl⟩, rfl, rfl⟩
theorem l0_Re_takeSleep__Re_areMinutes : jm_l0 mY_Re_takeSleep mY_Re_areMinutes := ⟨⟨Nat.le_of_ble_eq_true rfl, Nat.le_of_ble_eq_true rfl⟩, rfl, rfl⟩
theorem fo_Re_109 : jm_fo "LyingBeacons$Reader" 109 2 7 RX3 TX3 12 := ⟨inY3, rfl, by decide, jm_in (List.mem_of_getElem? (i := 159) (by decide +kernel)) rfl⟩
theorem l0_Re_takeSleep__X_minutesFrom : jm_l0 mY_Re_takeSleep mY_X_minutesFrom := ⟨⟨Nat.le_of_ble_eq_true rfl, Nat.le_of_ble_eq_true rfl⟩, rfl, rfl⟩
theorem l0_Re_takeItem__Re_takeSleep : jm_l0 mY_Re_takeItem mY_Re_takeSleep := ⟨⟨Nat.le_of_ble_eq_true rfl, Nat.le_of_ble_eq_true rfl⟩, rfl, rfl⟩
theorem ml_Re_71 : Cond.methodLink "LyingBeacons$Reader" 71 ⟨"LyingBeacons$Reader", "takeSleep", "(LLyingBeacons$Net;)Z"⟩ ∈ jm_tbl := jm_in (List.mem_of_getElem? (i := 392) (by decide +kernel)) rfl
theorem im_Re_takeSleep : Cond.instanceMethod ⟨"LyingBeacons$Reader", "takeSleep", "(LLyingBeacons$Net;)Z"⟩ ∈ jm_tbl := jm_in (List.mem_of_getElem? (i := 394) (by decide +kernel)) rfl
theorem se_Re_takeSleep : Cond.selects "LyingBeacons$Reader" ⟨"LyingBeacons$Reader", "takeSleep", "(LLyingBeacons$Net;)Z"⟩ ⟨"LyingBeacons$Reader", "takeSleep", "(LLyingBeacons$Net;)Z"⟩ ∈ jm_tbl := jm_in (List.mem_of_getElem? (i := 8) (by decide +kernel)) rfl
def mY_Re_takeSight : jm_Y := (⟨"LyingBeacons$Reader", "takeSight", "(LLyingBeacons$Net;)Z"⟩, prog_7_method_8_code, 4, some .boolean, { frames := 2, cells := 0, slots := 0, locals := 43 }, none)
theorem cw_Re_takeSight : Cond.code (jm_nm mY_Re_takeSight) (jm_cd mY_Re_takeSight) (jm_ml mY_Re_takeSight) (jm_rt mY_Re_takeSight) ∈ jm_tbl := jm_in (List.mem_of_getElem? (i := 380) (by decide +kernel)) rfl
theorem ok_Re_takeSight : jm_ok mY_Re_takeSight 1 := ⟨by decide, rfl, cw_Re_takeSight, ini_Re, by decide +kernel⟩
theorem l0_Re_takeSight__Ne_isHill : jm_l0 mY_Re_takeSight mY_Ne_isHill := ⟨⟨Nat.le_of_ble_eq_true rfl, Nat.le_of_ble_eq_true rfl⟩, rfl, rfl⟩
theorem l0_Re_takeSight__Re_isSight : jm_l0 mY_Re_takeSight mY_Re_isSight := ⟨⟨Nat.le_of_ble_eq_true rfl, Nat.le_of_ble_eq_true rfl⟩, rfl, rfl⟩
theorem l0_Re_takeItem__Re_takeSight : jm_l0 mY_Re_takeItem mY_Re_takeSight := ⟨⟨Nat.le_of_ble_eq_true rfl, Nat.le_of_ble_eq_true rfl⟩, rfl, rfl⟩
theorem ml_Re_62 : Cond.methodLink "LyingBeacons$Reader" 62 ⟨"LyingBeacons$Reader", "takeSight", "(LLyingBeacons$Net;)Z"⟩ ∈ jm_tbl := jm_in (List.mem_of_getElem? (i := 377) (by decide +kernel)) rfl
theorem im_Re_takeSight : Cond.instanceMethod ⟨"LyingBeacons$Reader", "takeSight", "(LLyingBeacons$Net;)Z"⟩ ∈ jm_tbl := jm_in (List.mem_of_getElem? (i := 379) (by decide +kernel)) rfl
theorem se_Re_takeSight : Cond.selects "LyingBeacons$Reader" ⟨"LyingBeacons$Reader", "takeSight", "(LLyingBeacons$Net;)Z"⟩ ⟨"LyingBeacons$Reader", "takeSight", "(LLyingBeacons$Net;)Z"⟩ ∈ jm_tbl := jm_in (List.mem_of_getElem? (i := 5) (by decide +kernel)) rfl
def mY_Re_takeWood : jm_Y := (⟨"LyingBeacons$Reader", "takeWood", "(LLyingBeacons$Net;)Z"⟩, prog_7_method_10_code, 3, some .boolean, { frames := 1, cells := 0, slots := 0, locals := 21 }, none)
theorem cw_Re_takeWood : Cond.code (jm_nm mY_Re_takeWood) (jm_cd mY_Re_takeWood) (jm_ml mY_Re_takeWood) (jm_rt mY_Re_takeWood) ∈ jm_tbl := jm_in (List.mem_of_getElem? (i := 391) (by decide +kernel)) rfl
theorem ok_Re_takeWood : jm_ok mY_Re_takeWood 1 := ⟨by decide, rfl, cw_Re_takeWood, ini_Re, by decide +kernel⟩
theorem l0_Re_takeWood__Ne_isHill : jm_l0 mY_Re_takeWood mY_Ne_isHill := ⟨⟨Nat.le_of_ble_eq_true rfl, Nat.le_of_ble_eq_true rfl⟩, rfl, rfl⟩
theorem fo_Re_103 : jm_fo "LyingBeacons$Reader" 103 2 5 RX3 TX3 12 := ⟨inY3, rfl, by decide, jm_in (List.mem_of_getElem? (i := 153) (by decide +kernel)) rfl⟩
theorem l0_Re_takeItem__Re_takeWood : jm_l0 mY_Re_takeItem mY_Re_takeWood := ⟨⟨Nat.le_of_ble_eq_true rfl, Nat.le_of_ble_eq_true rfl⟩, rfl, rfl⟩
theorem ml_Re_68 : Cond.methodLink "LyingBeacons$Reader" 68 ⟨"LyingBeacons$Reader", "takeWood", "(LLyingBeacons$Net;)Z"⟩ ∈ jm_tbl := jm_in (List.mem_of_getElem? (i := 388) (by decide +kernel)) rfl
theorem im_Re_takeWood : Cond.instanceMethod ⟨"LyingBeacons$Reader", "takeWood", "(LLyingBeacons$Net;)Z"⟩ ∈ jm_tbl := jm_in (List.mem_of_getElem? (i := 390) (by decide +kernel)) rfl
theorem se_Re_takeWood : Cond.selects "LyingBeacons$Reader" ⟨"LyingBeacons$Reader", "takeWood", "(LLyingBeacons$Net;)Z"⟩ ⟨"LyingBeacons$Reader", "takeWood", "(LLyingBeacons$Net;)Z"⟩ ∈ jm_tbl := jm_in (List.mem_of_getElem? (i := 7) (by decide +kernel)) rfl
def mY_Re_takeHill : jm_Y := (⟨"LyingBeacons$Reader", "takeHill", "(LLyingBeacons$Net;)Z"⟩, prog_7_method_7_code, 3, some .boolean, { frames := 2, cells := 0, slots := 0, locals := 43 }, none)
theorem cw_Re_takeHill : Cond.code (jm_nm mY_Re_takeHill) (jm_cd mY_Re_takeHill) (jm_ml mY_Re_takeHill) (jm_rt mY_Re_takeHill) ∈ jm_tbl := jm_in (List.mem_of_getElem? (i := 364) (by decide +kernel)) rfl
theorem ok_Re_takeHill : jm_ok mY_Re_takeHill 1 := ⟨by decide, rfl, cw_Re_takeHill, ini_Re, by decide +kernel⟩
theorem fo_Re_80 : jm_fo "LyingBeacons$Reader" 80 2 0 RX3 TX3 12 := ⟨inY3, rfl, by decide, jm_in (List.mem_of_getElem? (i := 125) (by decide +kernel)) rfl⟩
theorem fp_Re_80 : jm_fp "LyingBeacons$Reader" 80 2 0 RX3 TX3 12 false .int := ⟨fo_Re_80, ⟨tyX3, tyX3_ok⟩, nmX3, rfl, by decide +kernel, fun h => by first | rfl | cases h⟩
def mY_Ne_hasEar : jm_Y := (⟨"LyingBeacons$Net", "hasEar", "()Z"⟩, prog_5_method_7_code, 1, some .boolean, { frames := 1, cells := 0, slots := 0, locals := 23 }, none)
theorem cw_Ne_hasEar : Cond.code (jm_nm mY_Ne_hasEar) (jm_cd mY_Ne_hasEar) (jm_ml mY_Ne_hasEar) (jm_rt mY_Ne_hasEar) ∈ jm_tbl := jm_in (List.mem_of_getElem? (i := 368) (by decide +kernel)) rfl
theorem ok_Ne_hasEar : jm_ok mY_Ne_hasEar 0 := ⟨by decide, rfl, cw_Ne_hasEar, ini_Ne, by decide +kernel⟩
def mY_Ne_ofKind : jm_Y := (⟨"LyingBeacons$Net", "ofKind", "(I)I"⟩, prog_5_method_5_code, 4, some .int, { frames := 0, cells := 0, slots := 0, locals := 0 }, none)
theorem cw_Ne_ofKind : Cond.code (jm_nm mY_Ne_ofKind) (jm_cd mY_Ne_ofKind) (jm_ml mY_Ne_ofKind) (jm_rt mY_Ne_ofKind) ∈ jm_tbl := jm_in (List.mem_of_getElem? (i := 372) (by decide +kernel)) rfl
theorem ok_Ne_ofKind : jm_ok mY_Ne_ofKind 1 := ⟨by decide, rfl, cw_Ne_ofKind, ini_Ne, by decide +kernel⟩
theorem l0_Ne_hasEar__Ne_ofKind : jm_l0 mY_Ne_hasEar mY_Ne_ofKind := ⟨⟨Nat.le_of_ble_eq_true rfl, Nat.le_of_ble_eq_true rfl⟩, rfl, rfl⟩
theorem ml_Ne_54 : Cond.methodLink "LyingBeacons$Net" 54 ⟨"LyingBeacons$Net", "ofKind", "(I)I"⟩ ∈ jm_tbl := jm_in (List.mem_of_getElem? (i := 369) (by decide +kernel)) rfl
theorem im_Ne_ofKind : Cond.instanceMethod ⟨"LyingBeacons$Net", "ofKind", "(I)I"⟩ ∈ jm_tbl := jm_in (List.mem_of_getElem? (i := 370) (by decide +kernel)) rfl
theorem se_Ne_ofKind : Cond.selects "LyingBeacons$Net" ⟨"LyingBeacons$Net", "ofKind", "(I)I"⟩ ⟨"LyingBeacons$Net", "ofKind", "(I)I"⟩ ∈ jm_tbl := jm_in (List.mem_of_getElem? (i := 371) (by decide +kernel)) rfl
theorem l0_Re_takeHill__Ne_hasEar : jm_l0 mY_Re_takeHill mY_Ne_hasEar := ⟨⟨Nat.le_of_ble_eq_true rfl, Nat.le_of_ble_eq_true rfl⟩, rfl, rfl⟩
theorem ml_Re_83 : Cond.methodLink "LyingBeacons$Reader" 83 ⟨"LyingBeacons$Net", "hasEar", "()Z"⟩ ∈ jm_tbl := jm_in (List.mem_of_getElem? (i := 365) (by decide +kernel)) rfl
theorem im_Ne_hasEar : Cond.instanceMethod ⟨"LyingBeacons$Net", "hasEar", "()Z"⟩ ∈ jm_tbl := jm_in (List.mem_of_getElem? (i := 366) (by decide +kernel)) rfl
theorem se_Ne_hasEar : Cond.selects "LyingBeacons$Net" ⟨"LyingBeacons$Net", "hasEar", "()Z"⟩ ⟨"LyingBeacons$Net", "hasEar", "()Z"⟩ ∈ jm_tbl := jm_in (List.mem_of_getElem? (i := 367) (by decide +kernel)) rfl
theorem l0_Re_takeItem__Re_takeHill : jm_l0 mY_Re_takeItem mY_Re_takeHill := ⟨⟨Nat.le_of_ble_eq_true rfl, Nat.le_of_ble_eq_true rfl⟩, rfl, rfl⟩
theorem ml_Re_55 : Cond.methodLink "LyingBeacons$Reader" 55 ⟨"LyingBeacons$Reader", "takeHill", "(LLyingBeacons$Net;)Z"⟩ ∈ jm_tbl := jm_in (List.mem_of_getElem? (i := 361) (by decide +kernel)) rfl
theorem im_Re_takeHill : Cond.instanceMethod ⟨"LyingBeacons$Reader", "takeHill", "(LLyingBeacons$Net;)Z"⟩ ∈ jm_tbl := jm_in (List.mem_of_getElem? (i := 363) (by decide +kernel)) rfl
theorem se_Re_takeHill : Cond.selects "LyingBeacons$Reader" ⟨"LyingBeacons$Reader", "takeHill", "(LLyingBeacons$Net;)Z"⟩ ⟨"LyingBeacons$Reader", "takeHill", "(LLyingBeacons$Net;)Z"⟩ ∈ jm_tbl := jm_in (List.mem_of_getElem? (i := 4) (by decide +kernel)) rfl
theorem l0_Re_firstFault__Re_takeItem : jm_l0 mY_Re_firstFault mY_Re_takeItem := ⟨⟨Nat.le_of_ble_eq_true rfl, Nat.le_of_ble_eq_true rfl⟩, rfl, rfl⟩
theorem ml_Re_44 : Cond.methodLink "LyingBeacons$Reader" 44 ⟨"LyingBeacons$Reader", "takeItem", "(LLyingBeacons$Net;)Z"⟩ ∈ jm_tbl := jm_in (List.mem_of_getElem? (i := 357) (by decide +kernel)) rfl
theorem im_Re_takeItem : Cond.instanceMethod ⟨"LyingBeacons$Reader", "takeItem", "(LLyingBeacons$Net;)Z"⟩ ∈ jm_tbl := jm_in (List.mem_of_getElem? (i := 359) (by decide +kernel)) rfl
theorem se_Re_takeItem : Cond.selects "LyingBeacons$Reader" ⟨"LyingBeacons$Reader", "takeItem", "(LLyingBeacons$Net;)Z"⟩ ⟨"LyingBeacons$Reader", "takeItem", "(LLyingBeacons$Net;)Z"⟩ ∈ jm_tbl := jm_in (List.mem_of_getElem? (i := 3) (by decide +kernel)) rfl
theorem ml_Re_40 : Cond.methodLink "LyingBeacons$Reader" 40 ⟨"LyingBeacons$Reader", "readItem", "([BI)Z"⟩ ∈ jm_tbl := jm_in (List.mem_of_getElem? (i := 345) (by decide +kernel)) rfl
theorem im_Re_readItem : Cond.instanceMethod ⟨"LyingBeacons$Reader", "readItem", "([BI)Z"⟩ ∈ jm_tbl := jm_in (List.mem_of_getElem? (i := 347) (by decide +kernel)) rfl
theorem se_Re_readItem : Cond.selects "LyingBeacons$Reader" ⟨"LyingBeacons$Reader", "readItem", "([BI)Z"⟩ ⟨"LyingBeacons$Reader", "readItem", "([BI)Z"⟩ ∈ jm_tbl := jm_in (List.mem_of_getElem? (i := 0) (by decide +kernel)) rfl
theorem ml_Re_35 : Cond.methodLink "LyingBeacons$Reader" 35 ⟨"LyingBeacons$Net", "clear", "()V"⟩ ∈ jm_tbl := jm_in (List.mem_of_getElem? (i := 344) (by decide +kernel)) rfl
theorem l0_X_fault__Re_firstFault : jm_l0 mY_X_fault mY_Re_firstFault := ⟨⟨Nat.le_of_ble_eq_true rfl, Nat.le_of_ble_eq_true rfl⟩, rfl, rfl⟩
theorem ml_X_82 : Cond.methodLink "LyingBeacons" 82 ⟨"LyingBeacons$Reader", "firstFault", "([BILLyingBeacons$Net;)I"⟩ ∈ jm_tbl := jm_in (List.mem_of_getElem? (i := 340) (by decide +kernel)) rfl
theorem im_Re_firstFault : Cond.instanceMethod ⟨"LyingBeacons$Reader", "firstFault", "([BILLyingBeacons$Net;)I"⟩ ∈ jm_tbl := jm_in (List.mem_of_getElem? (i := 341) (by decide +kernel)) rfl
theorem se_Re_firstFault : Cond.selects "LyingBeacons$Reader" ⟨"LyingBeacons$Reader", "firstFault", "([BILLyingBeacons$Net;)I"⟩ ⟨"LyingBeacons$Reader", "firstFault", "([BILLyingBeacons$Net;)I"⟩ ∈ jm_tbl := jm_in (List.mem_of_getElem? (i := 342) (by decide +kernel)) rfl
theorem l0_Law__X_fault (L : Nat) (xs : Nat → Int32) : jm_l0 (mY_Law L xs) mY_X_fault := ⟨⟨Nat.le_of_ble_eq_true rfl, Nat.le_of_ble_eq_true rfl⟩, rfl, rfl⟩
def mY_Z_fault : jm_Y := (⟨"LyingBeaconsModel", "fault", "()I"⟩, prog_11_method_16_code, 1, some .int, { frames := 5, cells := 0, slots := 0, locals := 117 }, none)
theorem cw_Z_fault : Cond.code (jm_nm mY_Z_fault) (jm_cd mY_Z_fault) (jm_ml mY_Z_fault) (jm_rt mY_Z_fault) ∈ jm_tbl := jm_in (List.mem_of_getElem? (i := 867) (by decide +kernel)) rfl
theorem ok_Z_fault : jm_ok mY_Z_fault 0 := ⟨by decide, rfl, cw_Z_fault, ini_Z, by decide +kernel⟩
def mY_Z_readAll : jm_Y := (⟨"LyingBeaconsModel", "readAll", "()I"⟩, prog_11_method_15_code, 2, some .int, { frames := 4, cells := 0, slots := 0, locals := 96 }, none)
theorem cw_Z_readAll : Cond.code (jm_nm mY_Z_readAll) (jm_cd mY_Z_readAll) (jm_ml mY_Z_readAll) (jm_rt mY_Z_readAll) ∈ jm_tbl := jm_in (List.mem_of_getElem? (i := 871) (by decide +kernel)) rfl
theorem ok_Z_readAll : jm_ok mY_Z_readAll 0 := ⟨by decide, rfl, cw_Z_readAll, ini_Z, by decide +kernel⟩
theorem mr_154_59_2 : mr_154 59 2 = some 61 := by decide
theorem mr_154_59_8 : mr_154 59 8 = some 67 := by decide
theorem fo_Z_105 : jm_fo "LyingBeaconsModel" 105 8 17 RX9 TX9 30 := ⟨inY9, rfl, by decide, jm_in (List.mem_of_getElem? (i := 777) (by decide +kernel)) rfl⟩
theorem fp_Z_105 : jm_fp "LyingBeaconsModel" 105 8 17 RX9 TX9 30 false .int := ⟨fo_Z_105, ⟨tyX9, tyX9_ok⟩, nmX9, rfl, by decide +kernel, fun h => by first | rfl | cases h⟩
theorem fo_Z_108 : jm_fo "LyingBeaconsModel" 108 8 18 RX9 TX9 30 := ⟨inY9, rfl, by decide, jm_in (List.mem_of_getElem? (i := 778) (by decide +kernel)) rfl⟩
theorem fp_Z_108 : jm_fp "LyingBeaconsModel" 108 8 18 RX9 TX9 30 false .int := ⟨fo_Z_108, ⟨tyX9, tyX9_ok⟩, nmX9, rfl, by decide +kernel, fun h => by first | rfl | cases h⟩
theorem fo_Z_92 : jm_fo "LyingBeaconsModel" 92 8 19 RX9 TX9 30 := ⟨inY9, rfl, by decide, jm_in (List.mem_of_getElem? (i := 779) (by decide +kernel)) rfl⟩
theorem fp_Z_92 : jm_fp "LyingBeaconsModel" 92 8 19 RX9 TX9 30 false .boolean := ⟨fo_Z_92, ⟨tyX9, tyX9_ok⟩, nmX9, rfl, by decide +kernel, fun h => by first | rfl | cases h⟩
theorem fo_Z_79 : jm_fo "LyingBeaconsModel" 79 8 15 RX9 TX9 30 := ⟨inY9, rfl, by decide, jm_in (List.mem_of_getElem? (i := 775) (by decide +kernel)) rfl⟩
theorem fp_Z_79 : jm_fp "LyingBeaconsModel" 79 8 15 RX9 TX9 30 false .int := ⟨fo_Z_79, ⟨tyX9, tyX9_ok⟩, nmX9, rfl, by decide +kernel, fun h => by first | rfl | cases h⟩
def mY_Z_item : jm_Y := (⟨"LyingBeaconsModel", "item", "()Z"⟩, prog_11_method_14_code, 2, some .boolean, { frames := 3, cells := 0, slots := 0, locals := 75 }, none)
theorem cw_Z_item : Cond.code (jm_nm mY_Z_item) (jm_cd mY_Z_item) (jm_ml mY_Z_item) (jm_rt mY_Z_item) ∈ jm_tbl := jm_in (List.mem_of_getElem? (i := 875) (by decide +kernel)) rfl
theorem ok_Z_item : jm_ok mY_Z_item 0 := ⟨by decide, rfl, cw_Z_item, ini_Z, by decide +kernel⟩
def mY_Z_spanItem : jm_Y := (⟨"LyingBeaconsModel", "spanItem", "(I)Z"⟩, prog_11_method_13_code, 7, some .boolean, { frames := 2, cells := 0, slots := 0, locals := 49 }, none)
theorem cw_Z_spanItem : Cond.code (jm_nm mY_Z_spanItem) (jm_cd mY_Z_spanItem) (jm_ml mY_Z_spanItem) (jm_rt mY_Z_spanItem) ∈ jm_tbl := jm_in (List.mem_of_getElem? (i := 910) (by decide +kernel)) rfl
theorem ok_Z_spanItem : jm_ok mY_Z_spanItem 1 := ⟨by decide, rfl, cw_Z_spanItem, ini_Z, by decide +kernel⟩
theorem cb_103 : (Int8.ofInt 103).toInt32 = (103 : Int32) := by decide
def mY_Z_numbers : jm_Y := (⟨"LyingBeaconsModel", "numbers", "(I)Z"⟩, prog_11_method_7_code, 5, some .boolean, { frames := 1, cells := 0, slots := 0, locals := 25 }, none)
theorem cw_Z_numbers : Cond.code (jm_nm mY_Z_numbers) (jm_cd mY_Z_numbers) (jm_ml mY_Z_numbers) (jm_rt mY_Z_numbers) ∈ jm_tbl := jm_in (List.mem_of_getElem? (i := 883) (by decide +kernel)) rfl
theorem ok_Z_numbers : jm_ok mY_Z_numbers 1 := ⟨by decide, rfl, cw_Z_numbers, ini_Z, by decide +kernel⟩
theorem kl_Z_86 : Cond.constantLong "LyingBeaconsModel" 86 (2 : Int64) ∈ jm_tbl := jm_in (List.mem_of_getElem? (i := 886) (by decide +kernel)) rfl
theorem l0_Z_numbers__Z_in : jm_l0 mY_Z_numbers mY_Z_in := ⟨⟨Nat.le_of_ble_eq_true rfl, Nat.le_of_ble_eq_true rfl⟩, rfl, rfl⟩
theorem mr_154_59_16 : mr_154 59 16 = some 73 := by decide
theorem le_73_78 : 73 ≤ 78 := by decide
theorem kl_Z_82 : Cond.constantLong "LyingBeaconsModel" 82 (48 : Int64) ∈ jm_tbl := jm_in (List.mem_of_getElem? (i := 884) (by decide +kernel)) rfl
theorem kl_Z_84 : Cond.constantLong "LyingBeaconsModel" 84 (57 : Int64) ∈ jm_tbl := jm_in (List.mem_of_getElem? (i := 885) (by decide +kernel)) rfl
theorem l0_Z_spanItem__Z_numbers : jm_l0 mY_Z_spanItem mY_Z_numbers := ⟨⟨Nat.le_of_ble_eq_true rfl, Nat.le_of_ble_eq_true rfl⟩, rfl, rfl⟩
def mY_Z_isRead : jm_Y := (⟨"LyingBeaconsModel", "isRead", "(I)Z"⟩, prog_11_method_8_code, 2, some .boolean, { frames := 1, cells := 0, slots := 0, locals := 25 }, none)
theorem cw_Z_isRead : Cond.code (jm_nm mY_Z_isRead) (jm_cd mY_Z_isRead) (jm_ml mY_Z_isRead) (jm_rt mY_Z_isRead) ∈ jm_tbl := jm_in (List.mem_of_getElem? (i := 894) (by decide +kernel)) rfl
theorem ok_Z_isRead : jm_ok mY_Z_isRead 1 := ⟨by decide, rfl, cw_Z_isRead, ini_Z, by decide +kernel⟩
theorem l0_Z_isRead__Z_in : jm_l0 mY_Z_isRead mY_Z_in := ⟨⟨Nat.le_of_ble_eq_true rfl, Nat.le_of_ble_eq_true rfl⟩, rfl, rfl⟩
theorem le_61_78 : 61 ≤ 78 := by decide
theorem l0_Z_spanItem__Z_isRead : jm_l0 mY_Z_spanItem mY_Z_isRead := ⟨⟨Nat.le_of_ble_eq_true rfl, Nat.le_of_ble_eq_true rfl⟩, rfl, rfl⟩
theorem mr_154_59_3 : mr_154 59 3 = some 62 := by decide
theorem cb_108 : (Int8.ofInt 108).toInt32 = (108 : Int32) := by decide
theorem cs_645 : (Int16.ofInt 645).toInt32 = (645 : Int32) := by decide
theorem ci_5 : Int32.ofInt 5 = (5 : Int32) := by decide
theorem mr_154_59_9 : mr_154 59 9 = some 68 := by decide
theorem le_67_78 : 67 ≤ 78 := by decide
theorem le_68_78 : 68 ≤ 78 := by decide
theorem mr_154_59_4 : mr_154 59 4 = some 63 := by decide
def mY_Z_has : jm_Y := (⟨"LyingBeaconsModel", "has", "(II)Z"⟩, prog_11_method_3_code, 2, some .boolean, { frames := 0, cells := 0, slots := 0, locals := 0 }, none)
theorem cw_Z_has : Cond.code (jm_nm mY_Z_has) (jm_cd mY_Z_has) (jm_ml mY_Z_has) (jm_rt mY_Z_has) ∈ jm_tbl := jm_in (List.mem_of_getElem? (i := 897) (by decide +kernel)) rfl
theorem ok_Z_has : jm_ok mY_Z_has 2 := ⟨by decide, rfl, cw_Z_has, ini_Z, by decide +kernel⟩
theorem l0_Z_spanItem__Z_has : jm_l0 mY_Z_spanItem mY_Z_has := ⟨⟨Nat.le_of_ble_eq_true rfl, Nat.le_of_ble_eq_true rfl⟩, rfl, rfl⟩
theorem ml_Z_99 : Cond.methodLink "LyingBeaconsModel" 99 ⟨"LyingBeaconsModel", "has", "(II)Z"⟩ ∈ jm_tbl := jm_in (List.mem_of_getElem? (i := 895) (by decide +kernel)) rfl
theorem sm_Z_has : Cond.static ⟨"LyingBeaconsModel", "has", "(II)Z"⟩ ∈ jm_tbl := jm_in (List.mem_of_getElem? (i := 896) (by decide +kernel)) rfl
theorem le_63_78 : 63 ≤ 78 := by decide
theorem ml_Z_96 : Cond.methodLink "LyingBeaconsModel" 96 ⟨"LyingBeaconsModel", "isRead", "(I)Z"⟩ ∈ jm_tbl := jm_in (List.mem_of_getElem? (i := 891) (by decide +kernel)) rfl
theorem im_Z_isRead : Cond.instanceMethod ⟨"LyingBeaconsModel", "isRead", "(I)Z"⟩ ∈ jm_tbl := jm_in (List.mem_of_getElem? (i := 893) (by decide +kernel)) rfl
theorem se_Z_isRead : Cond.selects "LyingBeaconsModel" ⟨"LyingBeaconsModel", "isRead", "(I)Z"⟩ ⟨"LyingBeaconsModel", "isRead", "(I)Z"⟩ ∈ jm_tbl := jm_in (List.mem_of_getElem? (i := 29) (by decide +kernel)) rfl
theorem le_62_78 : 62 ≤ 78 := by decide
theorem ml_Z_88 : Cond.methodLink "LyingBeaconsModel" 88 ⟨"LyingBeaconsModel", "numbers", "(I)Z"⟩ ∈ jm_tbl := jm_in (List.mem_of_getElem? (i := 880) (by decide +kernel)) rfl
theorem im_Z_numbers : Cond.instanceMethod ⟨"LyingBeaconsModel", "numbers", "(I)Z"⟩ ∈ jm_tbl := jm_in (List.mem_of_getElem? (i := 882) (by decide +kernel)) rfl
theorem se_Z_numbers : Cond.selects "LyingBeaconsModel" ⟨"LyingBeaconsModel", "numbers", "(I)Z"⟩ ⟨"LyingBeaconsModel", "numbers", "(I)Z"⟩ ∈ jm_tbl := jm_in (List.mem_of_getElem? (i := 27) (by decide +kernel)) rfl
theorem l0_Z_item__Z_spanItem : jm_l0 mY_Z_item mY_Z_spanItem := ⟨⟨Nat.le_of_ble_eq_true rfl, Nat.le_of_ble_eq_true rfl⟩, rfl, rfl⟩
theorem ml_Z_124 : Cond.methodLink "LyingBeaconsModel" 124 ⟨"LyingBeaconsModel", "spanItem", "(I)Z"⟩ ∈ jm_tbl := jm_in (List.mem_of_getElem? (i := 907) (by decide +kernel)) rfl
theorem im_Z_spanItem : Cond.instanceMethod ⟨"LyingBeaconsModel", "spanItem", "(I)Z"⟩ ∈ jm_tbl := jm_in (List.mem_of_getElem? (i := 909) (by decide +kernel)) rfl
theorem se_Z_spanItem : Cond.selects "LyingBeaconsModel" ⟨"LyingBeaconsModel", "spanItem", "(I)Z"⟩ ⟨"LyingBeaconsModel", "spanItem", "(I)Z"⟩ ∈ jm_tbl := jm_in (List.mem_of_getElem? (i := 32) (by decide +kernel)) rfl
def mY_Z_ruleItem : jm_Y := (⟨"LyingBeaconsModel", "ruleItem", "()Z"⟩, prog_11_method_11_code, 1, some .boolean, { frames := 2, cells := 0, slots := 0, locals := 49 }, none)
theorem cw_Z_ruleItem : Cond.code (jm_nm mY_Z_ruleItem) (jm_cd mY_Z_ruleItem) (jm_ml mY_Z_ruleItem) (jm_rt mY_Z_ruleItem) ∈ jm_tbl := jm_in (List.mem_of_getElem? (i := 901) (by decide +kernel)) rfl
theorem ok_Z_ruleItem : jm_ok mY_Z_ruleItem 0 := ⟨by decide, rfl, cw_Z_ruleItem, ini_Z, by decide +kernel⟩
theorem l0_Z_ruleItem__Z_numbers : jm_l0 mY_Z_ruleItem mY_Z_numbers := ⟨⟨Nat.le_of_ble_eq_true rfl, Nat.le_of_ble_eq_true rfl⟩, rfl, rfl⟩
theorem l0_Z_ruleItem__Z_isRead : jm_l0 mY_Z_ruleItem mY_Z_isRead := ⟨⟨Nat.le_of_ble_eq_true rfl, Nat.le_of_ble_eq_true rfl⟩, rfl, rfl⟩
theorem kl_Z_103 : Cond.constantLong "LyingBeaconsModel" 103 (9 : Int64) ∈ jm_tbl := jm_in (List.mem_of_getElem? (i := 902) (by decide +kernel)) rfl
theorem l0_Z_ruleItem__Z_in : jm_l0 mY_Z_ruleItem mY_Z_in := ⟨⟨Nat.le_of_ble_eq_true rfl, Nat.le_of_ble_eq_true rfl⟩, rfl, rfl⟩
theorem l0_Z_ruleItem__Z_has : jm_l0 mY_Z_ruleItem mY_Z_has := ⟨⟨Nat.le_of_ble_eq_true rfl, Nat.le_of_ble_eq_true rfl⟩, rfl, rfl⟩
theorem mr_154_59_5 : mr_154 59 5 = some 64 := by decide
theorem mr_154_59_6 : mr_154 59 6 = some 65 := by decide
theorem le_65_78 : 65 ≤ 78 := by decide
theorem le_64_78 : 64 ≤ 78 := by decide
theorem l0_Z_item__Z_ruleItem : jm_l0 mY_Z_item mY_Z_ruleItem := ⟨⟨Nat.le_of_ble_eq_true rfl, Nat.le_of_ble_eq_true rfl⟩, rfl, rfl⟩
theorem ml_Z_118 : Cond.methodLink "LyingBeaconsModel" 118 ⟨"LyingBeaconsModel", "ruleItem", "()Z"⟩ ∈ jm_tbl := jm_in (List.mem_of_getElem? (i := 898) (by decide +kernel)) rfl
theorem im_Z_ruleItem : Cond.instanceMethod ⟨"LyingBeaconsModel", "ruleItem", "()Z"⟩ ∈ jm_tbl := jm_in (List.mem_of_getElem? (i := 900) (by decide +kernel)) rfl
theorem se_Z_ruleItem : Cond.selects "LyingBeaconsModel" ⟨"LyingBeaconsModel", "ruleItem", "()Z"⟩ ⟨"LyingBeaconsModel", "ruleItem", "()Z"⟩ ∈ jm_tbl := jm_in (List.mem_of_getElem? (i := 30) (by decide +kernel)) rfl
def mY_Z_seeItem : jm_Y := (⟨"LyingBeaconsModel", "seeItem", "()Z"⟩, prog_11_method_10_code, 1, some .boolean, { frames := 2, cells := 0, slots := 0, locals := 49 }, none)
theorem cw_Z_seeItem : Cond.code (jm_nm mY_Z_seeItem) (jm_cd mY_Z_seeItem) (jm_ml mY_Z_seeItem) (jm_rt mY_Z_seeItem) ∈ jm_tbl := jm_in (List.mem_of_getElem? (i := 890) (by decide +kernel)) rfl
theorem ok_Z_seeItem : jm_ok mY_Z_seeItem 0 := ⟨by decide, rfl, cw_Z_seeItem, ini_Z, by decide +kernel⟩
theorem l0_Z_seeItem__Z_numbers : jm_l0 mY_Z_seeItem mY_Z_numbers := ⟨⟨Nat.le_of_ble_eq_true rfl, Nat.le_of_ble_eq_true rfl⟩, rfl, rfl⟩
theorem l0_Z_seeItem__Z_isRead : jm_l0 mY_Z_seeItem mY_Z_isRead := ⟨⟨Nat.le_of_ble_eq_true rfl, Nat.le_of_ble_eq_true rfl⟩, rfl, rfl⟩
theorem l0_Z_seeItem__Z_has : jm_l0 mY_Z_seeItem mY_Z_has := ⟨⟨Nat.le_of_ble_eq_true rfl, Nat.le_of_ble_eq_true rfl⟩, rfl, rfl⟩
theorem l0_Z_item__Z_seeItem : jm_l0 mY_Z_item mY_Z_seeItem := ⟨⟨Nat.le_of_ble_eq_true rfl, Nat.le_of_ble_eq_true rfl⟩, rfl, rfl⟩
theorem ml_Z_115 : Cond.methodLink "LyingBeaconsModel" 115 ⟨"LyingBeaconsModel", "seeItem", "()Z"⟩ ∈ jm_tbl := jm_in (List.mem_of_getElem? (i := 887) (by decide +kernel)) rfl
theorem im_Z_seeItem : Cond.instanceMethod ⟨"LyingBeaconsModel", "seeItem", "()Z"⟩ ∈ jm_tbl := jm_in (List.mem_of_getElem? (i := 889) (by decide +kernel)) rfl
theorem se_Z_seeItem : Cond.selects "LyingBeaconsModel" ⟨"LyingBeaconsModel", "seeItem", "()Z"⟩ ⟨"LyingBeaconsModel", "seeItem", "()Z"⟩ ∈ jm_tbl := jm_in (List.mem_of_getElem? (i := 28) (by decide +kernel)) rfl
def mY_Z_woodItem : jm_Y := (⟨"LyingBeaconsModel", "woodItem", "()Z"⟩, prog_11_method_12_code, 1, some .boolean, { frames := 2, cells := 0, slots := 0, locals := 49 }, none)
theorem cw_Z_woodItem : Cond.code (jm_nm mY_Z_woodItem) (jm_cd mY_Z_woodItem) (jm_ml mY_Z_woodItem) (jm_rt mY_Z_woodItem) ∈ jm_tbl := jm_in (List.mem_of_getElem? (i := 906) (by decide +kernel)) rfl
theorem ok_Z_woodItem : jm_ok mY_Z_woodItem 0 := ⟨by decide, rfl, cw_Z_woodItem, ini_Z, by decide +kernel⟩
theorem l0_Z_woodItem__Z_numbers : jm_l0 mY_Z_woodItem mY_Z_numbers := ⟨⟨Nat.le_of_ble_eq_true rfl, Nat.le_of_ble_eq_true rfl⟩, rfl, rfl⟩
theorem l0_Z_woodItem__Z_isRead : jm_l0 mY_Z_woodItem mY_Z_isRead := ⟨⟨Nat.le_of_ble_eq_true rfl, Nat.le_of_ble_eq_true rfl⟩, rfl, rfl⟩
theorem l0_Z_woodItem__Z_has : jm_l0 mY_Z_woodItem mY_Z_has := ⟨⟨Nat.le_of_ble_eq_true rfl, Nat.le_of_ble_eq_true rfl⟩, rfl, rfl⟩
theorem mr_154_59_7 : mr_154 59 7 = some 66 := by decide
theorem le_66_78 : 66 ≤ 78 := by decide
theorem l0_Z_item__Z_woodItem : jm_l0 mY_Z_item mY_Z_woodItem := ⟨⟨Nat.le_of_ble_eq_true rfl, Nat.le_of_ble_eq_true rfl⟩, rfl, rfl⟩
theorem ml_Z_121 : Cond.methodLink "LyingBeaconsModel" 121 ⟨"LyingBeaconsModel", "woodItem", "()Z"⟩ ∈ jm_tbl := jm_in (List.mem_of_getElem? (i := 903) (by decide +kernel)) rfl
theorem im_Z_woodItem : Cond.instanceMethod ⟨"LyingBeaconsModel", "woodItem", "()Z"⟩ ∈ jm_tbl := jm_in (List.mem_of_getElem? (i := 905) (by decide +kernel)) rfl
theorem se_Z_woodItem : Cond.selects "LyingBeaconsModel" ⟨"LyingBeaconsModel", "woodItem", "()Z"⟩ ⟨"LyingBeaconsModel", "woodItem", "()Z"⟩ ∈ jm_tbl := jm_in (List.mem_of_getElem? (i := 31) (by decide +kernel)) rfl
def mY_Z_hillItem : jm_Y := (⟨"LyingBeaconsModel", "hillItem", "()Z"⟩, prog_11_method_9_code, 2, some .boolean, { frames := 2, cells := 0, slots := 0, locals := 49 }, none)
theorem cw_Z_hillItem : Cond.code (jm_nm mY_Z_hillItem) (jm_cd mY_Z_hillItem) (jm_ml mY_Z_hillItem) (jm_rt mY_Z_hillItem) ∈ jm_tbl := jm_in (List.mem_of_getElem? (i := 879) (by decide +kernel)) rfl
theorem ok_Z_hillItem : jm_ok mY_Z_hillItem 0 := ⟨by decide, rfl, cw_Z_hillItem, ini_Z, by decide +kernel⟩
theorem l0_Z_hillItem__Z_numbers : jm_l0 mY_Z_hillItem mY_Z_numbers := ⟨⟨Nat.le_of_ble_eq_true rfl, Nat.le_of_ble_eq_true rfl⟩, rfl, rfl⟩
theorem l0_Z_item__Z_hillItem : jm_l0 mY_Z_item mY_Z_hillItem := ⟨⟨Nat.le_of_ble_eq_true rfl, Nat.le_of_ble_eq_true rfl⟩, rfl, rfl⟩
theorem ml_Z_111 : Cond.methodLink "LyingBeaconsModel" 111 ⟨"LyingBeaconsModel", "hillItem", "()Z"⟩ ∈ jm_tbl := jm_in (List.mem_of_getElem? (i := 876) (by decide +kernel)) rfl
theorem im_Z_hillItem : Cond.instanceMethod ⟨"LyingBeaconsModel", "hillItem", "()Z"⟩ ∈ jm_tbl := jm_in (List.mem_of_getElem? (i := 878) (by decide +kernel)) rfl
theorem se_Z_hillItem : Cond.selects "LyingBeaconsModel" ⟨"LyingBeaconsModel", "hillItem", "()Z"⟩ ⟨"LyingBeaconsModel", "hillItem", "()Z"⟩ ∈ jm_tbl := jm_in (List.mem_of_getElem? (i := 26) (by decide +kernel)) rfl
theorem l0_Z_readAll__Z_item : jm_l0 mY_Z_readAll mY_Z_item := ⟨⟨Nat.le_of_ble_eq_true rfl, Nat.le_of_ble_eq_true rfl⟩, rfl, rfl⟩
theorem ml_Z_127 : Cond.methodLink "LyingBeaconsModel" 127 ⟨"LyingBeaconsModel", "item", "()Z"⟩ ∈ jm_tbl := jm_in (List.mem_of_getElem? (i := 872) (by decide +kernel)) rfl
theorem im_Z_item : Cond.instanceMethod ⟨"LyingBeaconsModel", "item", "()Z"⟩ ∈ jm_tbl := jm_in (List.mem_of_getElem? (i := 874) (by decide +kernel)) rfl
theorem se_Z_item : Cond.selects "LyingBeaconsModel" ⟨"LyingBeaconsModel", "item", "()Z"⟩ ⟨"LyingBeaconsModel", "item", "()Z"⟩ ∈ jm_tbl := jm_in (List.mem_of_getElem? (i := 25) (by decide +kernel)) rfl
theorem l0_Z_fault__Z_readAll : jm_l0 mY_Z_fault mY_Z_readAll := ⟨⟨Nat.le_of_ble_eq_true rfl, Nat.le_of_ble_eq_true rfl⟩, rfl, rfl⟩
theorem ml_Z_130 : Cond.methodLink "LyingBeaconsModel" 130 ⟨"LyingBeaconsModel", "readAll", "()I"⟩ ∈ jm_tbl := jm_in (List.mem_of_getElem? (i := 868) (by decide +kernel)) rfl
theorem im_Z_readAll : Cond.instanceMethod ⟨"LyingBeaconsModel", "readAll", "()I"⟩ ∈ jm_tbl := jm_in (List.mem_of_getElem? (i := 870) (by decide +kernel)) rfl
theorem se_Z_readAll : Cond.selects "LyingBeaconsModel" ⟨"LyingBeaconsModel", "readAll", "()I"⟩ ⟨"LyingBeaconsModel", "readAll", "()I"⟩ ∈ jm_tbl := jm_in (List.mem_of_getElem? (i := 24) (by decide +kernel)) rfl
theorem l0_Law__Z_fault (L : Nat) (xs : Nat → Int32) : jm_l0 (mY_Law L xs) mY_Z_fault := ⟨⟨Nat.le_of_ble_eq_true rfl, Nat.le_of_ble_eq_true rfl⟩, rfl, rfl⟩
theorem ml_Law_28 : Cond.methodLink "LyingBeaconsLaw" 28 ⟨"LyingBeaconsModel", "fault", "()I"⟩ ∈ jm_tbl := jm_in (List.mem_of_getElem? (i := 864) (by decide +kernel)) rfl
theorem im_Z_fault : Cond.instanceMethod ⟨"LyingBeaconsModel", "fault", "()I"⟩ ∈ jm_tbl := jm_in (List.mem_of_getElem? (i := 865) (by decide +kernel)) rfl
theorem se_Z_fault : Cond.selects "LyingBeaconsModel" ⟨"LyingBeaconsModel", "fault", "()I"⟩ ⟨"LyingBeaconsModel", "fault", "()I"⟩ ∈ jm_tbl := jm_in (List.mem_of_getElem? (i := 866) (by decide +kernel)) rfl
theorem ml_Law_25 : Cond.methodLink "LyingBeaconsLaw" 25 ⟨"LyingBeacons", "fault", "()I"⟩ ∈ jm_tbl := jm_in (List.mem_of_getElem? (i := 336) (by decide +kernel)) rfl
theorem im_X_fault : Cond.instanceMethod ⟨"LyingBeacons", "fault", "()I"⟩ ∈ jm_tbl := jm_in (List.mem_of_getElem? (i := 337) (by decide +kernel)) rfl
theorem se_X_fault : Cond.selects "LyingBeacons" ⟨"LyingBeacons", "fault", "()I"⟩ ⟨"LyingBeacons", "fault", "()I"⟩ ∈ jm_tbl := jm_in (List.mem_of_getElem? (i := 338) (by decide +kernel)) rfl
def mY_X_lay : jm_Y := (⟨"LyingBeacons", "lay", "()I"⟩, prog_1_method_5_code, 1, some .int, { frames := 5, cells := 0, slots := 0, locals := 114 }, none)
theorem cw_X_lay : Cond.code (jm_nm mY_X_lay) (jm_cd mY_X_lay) (jm_ml mY_X_lay) (jm_rt mY_X_lay) ∈ jm_tbl := jm_in (List.mem_of_getElem? (i := 423) (by decide +kernel)) rfl
theorem ok_X_lay : jm_ok mY_X_lay 0 := ⟨by decide, rfl, cw_X_lay, ini_X, by decide +kernel⟩
theorem l0_X_lay__Re_firstFault : jm_l0 mY_X_lay mY_Re_firstFault := ⟨⟨Nat.le_of_ble_eq_true rfl, Nat.le_of_ble_eq_true rfl⟩, rfl, rfl⟩
theorem mr_154_1_4 : mr_154 1 4 = some 15 := by decide
def mY_Ne_become : jm_Y := (⟨"LyingBeacons$Net", "become", "(LLyingBeacons$Net;)V"⟩, prog_5_method_3_code, 3, none, { frames := 0, cells := 0, slots := 0, locals := 0 }, none)
theorem cw_Ne_become : Cond.code (jm_nm mY_Ne_become) (jm_cd mY_Ne_become) (jm_ml mY_Ne_become) (jm_rt mY_Ne_become) ∈ jm_tbl := jm_in (List.mem_of_getElem? (i := 427) (by decide +kernel)) rfl
theorem ok_Ne_become : jm_ok mY_Ne_become 1 := ⟨by decide, rfl, cw_Ne_become, ini_Ne, by decide +kernel⟩
theorem le_15_78 : 15 ≤ 78 := by decide
theorem mr_154_15_9 : mr_154 15 9 = some 24 := by decide
theorem le_24_78 : 24 ≤ 78 := by decide
theorem mr_154_15_1 : mr_154 15 1 = some 16 := by decide
theorem mr_154_15_2 : mr_154 15 2 = some 17 := by decide
theorem mr_154_15_3 : mr_154 15 3 = some 18 := by decide
theorem mr_154_15_4 : mr_154 15 4 = some 19 := by decide
theorem mr_154_15_5 : mr_154 15 5 = some 20 := by decide
theorem mr_154_15_6 : mr_154 15 6 = some 21 := by decide
theorem mr_154_15_7 : mr_154 15 7 = some 22 := by decide
theorem mr_154_15_8 : mr_154 15 8 = some 23 := by decide
theorem le_23_78 : 23 ≤ 78 := by decide
theorem le_22_78 : 22 ≤ 78 := by decide
theorem le_21_78 : 21 ≤ 78 := by decide
theorem le_20_78 : 20 ≤ 78 := by decide
theorem le_19_78 : 19 ≤ 78 := by decide
theorem le_18_78 : 18 ≤ 78 := by decide
theorem le_17_78 : 17 ≤ 78 := by decide
theorem le_16_78 : 16 ≤ 78 := by decide
theorem l0_X_lay__Ne_become : jm_l0 mY_X_lay mY_Ne_become := ⟨⟨Nat.le_of_ble_eq_true rfl, Nat.le_of_ble_eq_true rfl⟩, rfl, rfl⟩
theorem fo_X_90 : jm_fo "LyingBeacons" 90 2 0 RX3 TX3 12 := ⟨inY3, rfl, by decide, jm_in (List.mem_of_getElem? (i := 124) (by decide +kernel)) rfl⟩
theorem ml_X_86 : Cond.methodLink "LyingBeacons" 86 ⟨"LyingBeacons$Net", "become", "(LLyingBeacons$Net;)V"⟩ ∈ jm_tbl := jm_in (List.mem_of_getElem? (i := 424) (by decide +kernel)) rfl
theorem im_Ne_become : Cond.instanceMethod ⟨"LyingBeacons$Net", "become", "(LLyingBeacons$Net;)V"⟩ ∈ jm_tbl := jm_in (List.mem_of_getElem? (i := 425) (by decide +kernel)) rfl
theorem se_Ne_become : Cond.selects "LyingBeacons$Net" ⟨"LyingBeacons$Net", "become", "(LLyingBeacons$Net;)V"⟩ ⟨"LyingBeacons$Net", "become", "(LLyingBeacons$Net;)V"⟩ ∈ jm_tbl := jm_in (List.mem_of_getElem? (i := 426) (by decide +kernel)) rfl
theorem cb_m2 : (Int8.ofInt (-2)).toInt32 = (-2 : Int32) := by decide
theorem l0_Law__X_lay (L : Nat) (xs : Nat → Int32) : jm_l0 (mY_Law L xs) mY_X_lay := ⟨⟨Nat.le_of_ble_eq_true rfl, Nat.le_of_ble_eq_true rfl⟩, rfl, rfl⟩
def mY_Z_lay : jm_Y := (⟨"LyingBeaconsModel", "lay", "()I"⟩, prog_11_method_18_code, 2, some .int, { frames := 5, cells := 0, slots := 0, locals := 117 }, none)
theorem cw_Z_lay : Cond.code (jm_nm mY_Z_lay) (jm_cd mY_Z_lay) (jm_ml mY_Z_lay) (jm_rt mY_Z_lay) ∈ jm_tbl := jm_in (List.mem_of_getElem? (i := 914) (by decide +kernel)) rfl
theorem ok_Z_lay : jm_ok mY_Z_lay 0 := ⟨by decide, rfl, cw_Z_lay, ini_Z, by decide +kernel⟩
theorem l0_Z_lay__Z_readAll : jm_l0 mY_Z_lay mY_Z_readAll := ⟨⟨Nat.le_of_ble_eq_true rfl, Nat.le_of_ble_eq_true rfl⟩, rfl, rfl⟩
def mY_Z_copy : jm_Y := (⟨"LyingBeaconsModel", "copy", "(II)V"⟩, prog_11_method_17_code, 4, none, { frames := 0, cells := 0, slots := 0, locals := 0 }, none)
theorem cw_Z_copy : Cond.code (jm_nm mY_Z_copy) (jm_cd mY_Z_copy) (jm_ml mY_Z_copy) (jm_rt mY_Z_copy) ∈ jm_tbl := jm_in (List.mem_of_getElem? (i := 918) (by decide +kernel)) rfl
theorem ok_Z_copy : jm_ok mY_Z_copy 2 := ⟨by decide, rfl, cw_Z_copy, ini_Z, by decide +kernel⟩
theorem cs_215 : (Int16.ofInt 215).toInt32 = (215 : Int32) := by decide
theorem l0_Z_lay__Z_copy : jm_l0 mY_Z_lay mY_Z_copy := ⟨⟨Nat.le_of_ble_eq_true rfl, Nat.le_of_ble_eq_true rfl⟩, rfl, rfl⟩
theorem mr_154_59_10 : mr_154 59 10 = some 69 := by decide
theorem le_69_78 : 69 ≤ 78 := by decide
theorem ml_Z_134 : Cond.methodLink "LyingBeaconsModel" 134 ⟨"LyingBeaconsModel", "copy", "(II)V"⟩ ∈ jm_tbl := jm_in (List.mem_of_getElem? (i := 915) (by decide +kernel)) rfl
theorem im_Z_copy : Cond.instanceMethod ⟨"LyingBeaconsModel", "copy", "(II)V"⟩ ∈ jm_tbl := jm_in (List.mem_of_getElem? (i := 917) (by decide +kernel)) rfl
theorem se_Z_copy : Cond.selects "LyingBeaconsModel" ⟨"LyingBeaconsModel", "copy", "(II)V"⟩ ⟨"LyingBeaconsModel", "copy", "(II)V"⟩ ∈ jm_tbl := jm_in (List.mem_of_getElem? (i := 33) (by decide +kernel)) rfl
theorem l0_Law__Z_lay (L : Nat) (xs : Nat → Int32) : jm_l0 (mY_Law L xs) mY_Z_lay := ⟨⟨Nat.le_of_ble_eq_true rfl, Nat.le_of_ble_eq_true rfl⟩, rfl, rfl⟩
theorem ml_Law_32 : Cond.methodLink "LyingBeaconsLaw" 32 ⟨"LyingBeaconsModel", "lay", "()I"⟩ ∈ jm_tbl := jm_in (List.mem_of_getElem? (i := 911) (by decide +kernel)) rfl
theorem im_Z_lay : Cond.instanceMethod ⟨"LyingBeaconsModel", "lay", "()I"⟩ ∈ jm_tbl := jm_in (List.mem_of_getElem? (i := 912) (by decide +kernel)) rfl
theorem se_Z_lay : Cond.selects "LyingBeaconsModel" ⟨"LyingBeaconsModel", "lay", "()I"⟩ ⟨"LyingBeaconsModel", "lay", "()I"⟩ ∈ jm_tbl := jm_in (List.mem_of_getElem? (i := 913) (by decide +kernel)) rfl
theorem ml_Law_29 : Cond.methodLink "LyingBeaconsLaw" 29 ⟨"LyingBeacons", "lay", "()I"⟩ ∈ jm_tbl := jm_in (List.mem_of_getElem? (i := 420) (by decide +kernel)) rfl
theorem im_X_lay : Cond.instanceMethod ⟨"LyingBeacons", "lay", "()I"⟩ ∈ jm_tbl := jm_in (List.mem_of_getElem? (i := 421) (by decide +kernel)) rfl
theorem se_X_lay : Cond.selects "LyingBeacons" ⟨"LyingBeacons", "lay", "()I"⟩ ⟨"LyingBeacons", "lay", "()I"⟩ ∈ jm_tbl := jm_in (List.mem_of_getElem? (i := 422) (by decide +kernel)) rfl
def mY_X_hill : jm_Y := (⟨"LyingBeacons", "hill", "(II)I"⟩, prog_1_method_6_code, 3, some .int, { frames := 1, cells := 0, slots := 0, locals := 21 }, none)
theorem cw_X_hill : Cond.code (jm_nm mY_X_hill) (jm_cd mY_X_hill) (jm_ml mY_X_hill) (jm_rt mY_X_hill) ∈ jm_tbl := jm_in (List.mem_of_getElem? (i := 431) (by decide +kernel)) rfl
theorem ok_X_hill : jm_ok mY_X_hill 2 := ⟨by decide, rfl, cw_X_hill, ini_X, by decide +kernel⟩
theorem l0_X_hill__Ne_isHill : jm_l0 mY_X_hill mY_Ne_isHill := ⟨⟨Nat.le_of_ble_eq_true rfl, Nat.le_of_ble_eq_true rfl⟩, rfl, rfl⟩
theorem fo_X_97 : jm_fo "LyingBeacons" 97 2 1 RX3 TX3 12 := ⟨inY3, rfl, by decide, jm_in (List.mem_of_getElem? (i := 130) (by decide +kernel)) rfl⟩
theorem fo_X_101 : jm_fo "LyingBeacons" 101 2 2 RX3 TX3 12 := ⟨inY3, rfl, by decide, jm_in (List.mem_of_getElem? (i := 135) (by decide +kernel)) rfl⟩
theorem fo_X_104 : jm_fo "LyingBeacons" 104 2 3 RX3 TX3 12 := ⟨inY3, rfl, by decide, jm_in (List.mem_of_getElem? (i := 141) (by decide +kernel)) rfl⟩
theorem fo_X_107 : jm_fo "LyingBeacons" 107 2 4 RX3 TX3 12 := ⟨inY3, rfl, by decide, jm_in (List.mem_of_getElem? (i := 147) (by decide +kernel)) rfl⟩
theorem fo_X_110 : jm_fo "LyingBeacons" 110 2 5 RX3 TX3 12 := ⟨inY3, rfl, by decide, jm_in (List.mem_of_getElem? (i := 152) (by decide +kernel)) rfl⟩
theorem ml_X_93 : Cond.methodLink "LyingBeacons" 93 ⟨"LyingBeacons$Net", "isHill", "(I)Z"⟩ ∈ jm_tbl := jm_in (List.mem_of_getElem? (i := 432) (by decide +kernel)) rfl
theorem l0_Law__X_hill (L : Nat) (xs : Nat → Int32) : jm_l0 (mY_Law L xs) mY_X_hill := ⟨⟨Nat.le_of_ble_eq_true rfl, Nat.le_of_ble_eq_true rfl⟩, rfl, rfl⟩
def mY_Z_hill : jm_Y := (⟨"LyingBeaconsModel", "hill", "(II)I"⟩, prog_11_method_20_code, 3, some .int, { frames := 2, cells := 0, slots := 0, locals := 46 }, none)
theorem cw_Z_hill : Cond.code (jm_nm mY_Z_hill) (jm_cd mY_Z_hill) (jm_ml mY_Z_hill) (jm_rt mY_Z_hill) ∈ jm_tbl := jm_in (List.mem_of_getElem? (i := 922) (by decide +kernel)) rfl
theorem ok_Z_hill : jm_ok mY_Z_hill 2 := ⟨by decide, rfl, cw_Z_hill, ini_Z, by decide +kernel⟩
def mY_Z_isHill : jm_Y := (⟨"LyingBeaconsModel", "isHill", "(I)Z"⟩, prog_11_method_19_code, 2, some .boolean, { frames := 1, cells := 0, slots := 0, locals := 25 }, none)
theorem cw_Z_isHill : Cond.code (jm_nm mY_Z_isHill) (jm_cd mY_Z_isHill) (jm_ml mY_Z_isHill) (jm_rt mY_Z_isHill) ∈ jm_tbl := jm_in (List.mem_of_getElem? (i := 926) (by decide +kernel)) rfl
theorem ok_Z_isHill : jm_ok mY_Z_isHill 1 := ⟨by decide, rfl, cw_Z_isHill, ini_Z, by decide +kernel⟩
theorem l0_Z_isHill__Z_in : jm_l0 mY_Z_isHill mY_Z_in := ⟨⟨Nat.le_of_ble_eq_true rfl, Nat.le_of_ble_eq_true rfl⟩, rfl, rfl⟩
theorem l0_Z_hill__Z_isHill : jm_l0 mY_Z_hill mY_Z_isHill := ⟨⟨Nat.le_of_ble_eq_true rfl, Nat.le_of_ble_eq_true rfl⟩, rfl, rfl⟩
theorem kl_Z_141 : Cond.constantLong "LyingBeaconsModel" 141 (4 : Int64) ∈ jm_tbl := jm_in (List.mem_of_getElem? (i := 927) (by decide +kernel)) rfl
theorem l0_Z_hill__Z_in : jm_l0 mY_Z_hill mY_Z_in := ⟨⟨Nat.le_of_ble_eq_true rfl, Nat.le_of_ble_eq_true rfl⟩, rfl, rfl⟩
theorem ml_Z_138 : Cond.methodLink "LyingBeaconsModel" 138 ⟨"LyingBeaconsModel", "isHill", "(I)Z"⟩ ∈ jm_tbl := jm_in (List.mem_of_getElem? (i := 923) (by decide +kernel)) rfl
theorem im_Z_isHill : Cond.instanceMethod ⟨"LyingBeaconsModel", "isHill", "(I)Z"⟩ ∈ jm_tbl := jm_in (List.mem_of_getElem? (i := 925) (by decide +kernel)) rfl
theorem se_Z_isHill : Cond.selects "LyingBeaconsModel" ⟨"LyingBeaconsModel", "isHill", "(I)Z"⟩ ⟨"LyingBeaconsModel", "isHill", "(I)Z"⟩ ∈ jm_tbl := jm_in (List.mem_of_getElem? (i := 34) (by decide +kernel)) rfl
theorem l0_Law__Z_hill (L : Nat) (xs : Nat → Int32) : jm_l0 (mY_Law L xs) mY_Z_hill := ⟨⟨Nat.le_of_ble_eq_true rfl, Nat.le_of_ble_eq_true rfl⟩, rfl, rfl⟩
theorem ml_Law_37 : Cond.methodLink "LyingBeaconsLaw" 37 ⟨"LyingBeaconsModel", "hill", "(II)I"⟩ ∈ jm_tbl := jm_in (List.mem_of_getElem? (i := 919) (by decide +kernel)) rfl
theorem im_Z_hill : Cond.instanceMethod ⟨"LyingBeaconsModel", "hill", "(II)I"⟩ ∈ jm_tbl := jm_in (List.mem_of_getElem? (i := 920) (by decide +kernel)) rfl
theorem se_Z_hill : Cond.selects "LyingBeaconsModel" ⟨"LyingBeaconsModel", "hill", "(II)I"⟩ ⟨"LyingBeaconsModel", "hill", "(II)I"⟩ ∈ jm_tbl := jm_in (List.mem_of_getElem? (i := 921) (by decide +kernel)) rfl
theorem ml_Law_33 : Cond.methodLink "LyingBeaconsLaw" 33 ⟨"LyingBeacons", "hill", "(II)I"⟩ ∈ jm_tbl := jm_in (List.mem_of_getElem? (i := 428) (by decide +kernel)) rfl
theorem im_X_hill : Cond.instanceMethod ⟨"LyingBeacons", "hill", "(II)I"⟩ ∈ jm_tbl := jm_in (List.mem_of_getElem? (i := 429) (by decide +kernel)) rfl
theorem se_X_hill : Cond.selects "LyingBeacons" ⟨"LyingBeacons", "hill", "(II)I"⟩ ⟨"LyingBeacons", "hill", "(II)I"⟩ ∈ jm_tbl := jm_in (List.mem_of_getElem? (i := 430) (by decide +kernel)) rfl
def mY_X_ship : jm_Y := (⟨"LyingBeacons", "ship", "(III)I"⟩, prog_1_method_7_code, 4, some .int, { frames := 1, cells := 0, slots := 0, locals := 23 }, none)
theorem cw_X_ship : Cond.code (jm_nm mY_X_ship) (jm_cd mY_X_ship) (jm_ml mY_X_ship) (jm_rt mY_X_ship) ∈ jm_tbl := jm_in (List.mem_of_getElem? (i := 436) (by decide +kernel)) rfl
theorem ok_X_ship : jm_ok mY_X_ship 3 := ⟨by decide, rfl, cw_X_ship, ini_X, by decide +kernel⟩
theorem l0_X_ship__Ne_ofKind : jm_l0 mY_X_ship mY_Ne_ofKind := ⟨⟨Nat.le_of_ble_eq_true rfl, Nat.le_of_ble_eq_true rfl⟩, rfl, rfl⟩
theorem l0_X_ship__X_isMinute : jm_l0 mY_X_ship mY_X_isMinute := ⟨⟨Nat.le_of_ble_eq_true rfl, Nat.le_of_ble_eq_true rfl⟩, rfl, rfl⟩
theorem fo_X_120 : jm_fo "LyingBeacons" 120 2 10 RX3 TX3 12 := ⟨inY3, rfl, by decide, jm_in (List.mem_of_getElem? (i := 167) (by decide +kernel)) rfl⟩
theorem fp_X_120 : jm_fp "LyingBeacons" 120 2 10 RX3 TX3 12 false .int := ⟨fo_X_120, ⟨tyX3, tyX3_ok⟩, nmX3, rfl, by decide +kernel, fun h => by first | rfl | cases h⟩
theorem l0_X_ship__X_minutesFrom : jm_l0 mY_X_ship mY_X_minutesFrom := ⟨⟨Nat.le_of_ble_eq_true rfl, Nat.le_of_ble_eq_true rfl⟩, rfl, rfl⟩
theorem fo_X_127 : jm_fo "LyingBeacons" 127 2 11 RX3 TX3 12 := ⟨inY3, rfl, by decide, jm_in (List.mem_of_getElem? (i := 170) (by decide +kernel)) rfl⟩
theorem fp_X_127 : jm_fp "LyingBeacons" 127 2 11 RX3 TX3 12 false .long := ⟨fo_X_127, ⟨tyX3, tyX3_ok⟩, nmX3, rfl, by decide +kernel, fun h => by first | rfl | cases h⟩
theorem ml_X_123 : Cond.methodLink "LyingBeacons" 123 ⟨"LyingBeacons", "minutesFrom", "(II)J"⟩ ∈ jm_tbl := jm_in (List.mem_of_getElem? (i := 439) (by decide +kernel)) rfl
theorem ml_X_117 : Cond.methodLink "LyingBeacons" 117 ⟨"LyingBeacons", "isMinute", "(I)Z"⟩ ∈ jm_tbl := jm_in (List.mem_of_getElem? (i := 438) (by decide +kernel)) rfl
theorem ml_X_113 : Cond.methodLink "LyingBeacons" 113 ⟨"LyingBeacons$Net", "ofKind", "(I)I"⟩ ∈ jm_tbl := jm_in (List.mem_of_getElem? (i := 437) (by decide +kernel)) rfl
theorem l0_Law__X_ship (L : Nat) (xs : Nat → Int32) : jm_l0 (mY_Law L xs) mY_X_ship := ⟨⟨Nat.le_of_ble_eq_true rfl, Nat.le_of_ble_eq_true rfl⟩, rfl, rfl⟩
def mY_Z_ship : jm_Y := (⟨"LyingBeaconsModel", "ship", "(III)I"⟩, prog_11_method_23_code, 4, some .int, { frames := 1, cells := 0, slots := 0, locals := 25 }, none)
theorem cw_Z_ship : Cond.code (jm_nm mY_Z_ship) (jm_cd mY_Z_ship) (jm_ml mY_Z_ship) (jm_rt mY_Z_ship) ∈ jm_tbl := jm_in (List.mem_of_getElem? (i := 931) (by decide +kernel)) rfl
theorem ok_Z_ship : jm_ok mY_Z_ship 3 := ⟨by decide, rfl, cw_Z_ship, ini_Z, by decide +kernel⟩
def mY_Z_ofKind : jm_Y := (⟨"LyingBeaconsModel", "ofKind", "(I)I"⟩, prog_11_method_21_code, 4, some .int, { frames := 0, cells := 0, slots := 0, locals := 0 }, none)
theorem cw_Z_ofKind : Cond.code (jm_nm mY_Z_ofKind) (jm_cd mY_Z_ofKind) (jm_ml mY_Z_ofKind) (jm_rt mY_Z_ofKind) ∈ jm_tbl := jm_in (List.mem_of_getElem? (i := 935) (by decide +kernel)) rfl
theorem ok_Z_ofKind : jm_ok mY_Z_ofKind 1 := ⟨by decide, rfl, cw_Z_ofKind, ini_Z, by decide +kernel⟩
theorem l0_Z_ship__Z_ofKind : jm_l0 mY_Z_ship mY_Z_ofKind := ⟨⟨Nat.le_of_ble_eq_true rfl, Nat.le_of_ble_eq_true rfl⟩, rfl, rfl⟩
theorem kl_Z_147 : Cond.constantLong "LyingBeaconsModel" 147 (59 : Int64) ∈ jm_tbl := jm_in (List.mem_of_getElem? (i := 936) (by decide +kernel)) rfl
theorem l0_Z_ship__Z_in : jm_l0 mY_Z_ship mY_Z_in := ⟨⟨Nat.le_of_ble_eq_true rfl, Nat.le_of_ble_eq_true rfl⟩, rfl, rfl⟩
theorem ml_Z_143 : Cond.methodLink "LyingBeaconsModel" 143 ⟨"LyingBeaconsModel", "ofKind", "(I)I"⟩ ∈ jm_tbl := jm_in (List.mem_of_getElem? (i := 932) (by decide +kernel)) rfl
theorem im_Z_ofKind : Cond.instanceMethod ⟨"LyingBeaconsModel", "ofKind", "(I)I"⟩ ∈ jm_tbl := jm_in (List.mem_of_getElem? (i := 934) (by decide +kernel)) rfl
theorem se_Z_ofKind : Cond.selects "LyingBeaconsModel" ⟨"LyingBeaconsModel", "ofKind", "(I)I"⟩ ⟨"LyingBeaconsModel", "ofKind", "(I)I"⟩ ∈ jm_tbl := jm_in (List.mem_of_getElem? (i := 35) (by decide +kernel)) rfl
theorem l0_Law__Z_ship (L : Nat) (xs : Nat → Int32) : jm_l0 (mY_Law L xs) mY_Z_ship := ⟨⟨Nat.le_of_ble_eq_true rfl, Nat.le_of_ble_eq_true rfl⟩, rfl, rfl⟩
theorem ml_Law_42 : Cond.methodLink "LyingBeaconsLaw" 42 ⟨"LyingBeaconsModel", "ship", "(III)I"⟩ ∈ jm_tbl := jm_in (List.mem_of_getElem? (i := 928) (by decide +kernel)) rfl
theorem im_Z_ship : Cond.instanceMethod ⟨"LyingBeaconsModel", "ship", "(III)I"⟩ ∈ jm_tbl := jm_in (List.mem_of_getElem? (i := 929) (by decide +kernel)) rfl
theorem se_Z_ship : Cond.selects "LyingBeaconsModel" ⟨"LyingBeaconsModel", "ship", "(III)I"⟩ ⟨"LyingBeaconsModel", "ship", "(III)I"⟩ ∈ jm_tbl := jm_in (List.mem_of_getElem? (i := 930) (by decide +kernel)) rfl
theorem ml_Law_38 : Cond.methodLink "LyingBeaconsLaw" 38 ⟨"LyingBeacons", "ship", "(III)I"⟩ ∈ jm_tbl := jm_in (List.mem_of_getElem? (i := 433) (by decide +kernel)) rfl
theorem im_X_ship : Cond.instanceMethod ⟨"LyingBeacons", "ship", "(III)I"⟩ ∈ jm_tbl := jm_in (List.mem_of_getElem? (i := 434) (by decide +kernel)) rfl
theorem se_X_ship : Cond.selects "LyingBeacons" ⟨"LyingBeacons", "ship", "(III)I"⟩ ⟨"LyingBeacons", "ship", "(III)I"⟩ ∈ jm_tbl := jm_in (List.mem_of_getElem? (i := 435) (by decide +kernel)) rfl
def mY_X_burns : jm_Y := (⟨"LyingBeacons", "burns", "(II)I"⟩, prog_1_method_8_code, 3, some .int, { frames := 6, cells := 0, slots := 0, locals := 141 }, none)
theorem cw_X_burns : Cond.code (jm_nm mY_X_burns) (jm_cd mY_X_burns) (jm_ml mY_X_burns) (jm_rt mY_X_burns) ∈ jm_tbl := jm_in (List.mem_of_getElem? (i := 443) (by decide +kernel)) rfl
theorem ok_X_burns : jm_ok mY_X_burns 2 := ⟨by decide, rfl, cw_X_burns, ini_X, by decide +kernel⟩
theorem l0_X_burns__Ne_isHill : jm_l0 mY_X_burns mY_Ne_isHill := ⟨⟨Nat.le_of_ble_eq_true rfl, Nat.le_of_ble_eq_true rfl⟩, rfl, rfl⟩
theorem l0_X_burns__X_isMinute : jm_l0 mY_X_burns mY_X_isMinute := ⟨⟨Nat.le_of_ble_eq_true rfl, Nat.le_of_ble_eq_true rfl⟩, rfl, rfl⟩
def mY_X_playNight : jm_Y := (⟨"LyingBeacons", "playNight", "()V"⟩, prog_1_method_30_code, 1, none, { frames := 5, cells := 0, slots := 0, locals := 121 }, none)
theorem cw_X_playNight : Cond.code (jm_nm mY_X_playNight) (jm_cd mY_X_playNight) (jm_ml mY_X_playNight) (jm_rt mY_X_playNight) ∈ jm_tbl := jm_in (List.mem_of_getElem? (i := 447) (by decide +kernel)) rfl
theorem ok_X_playNight : jm_ok mY_X_playNight 0 := ⟨by decide, rfl, cw_X_playNight, ini_X, by decide +kernel⟩
theorem mr_154_1_8 : mr_154 1 8 = some 45 := by decide
def mY_Ni_play : jm_Y := (⟨"LyingBeacons$Night", "play", "(LLyingBeacons$Net;)V"⟩, prog_6_method_3_code, 3, none, { frames := 4, cells := 0, slots := 0, locals := 99 }, none)
theorem cw_Ni_play : Cond.code (jm_nm mY_Ni_play) (jm_cd mY_Ni_play) (jm_ml mY_Ni_play) (jm_rt mY_Ni_play) ∈ jm_tbl := jm_in (List.mem_of_getElem? (i := 451) (by decide +kernel)) rfl
theorem ok_Ni_play : jm_ok mY_Ni_play 1 := ⟨by decide, rfl, cw_Ni_play, ini_Ni, by decide +kernel⟩
def mY_Ni_playMinute : jm_Y := (⟨"LyingBeacons$Night", "playMinute", "(LLyingBeacons$Net;I)V"⟩, prog_6_method_4_code, 4, none, { frames := 3, cells := 0, slots := 0, locals := 76 }, none)
theorem cw_Ni_playMinute : Cond.code (jm_nm mY_Ni_playMinute) (jm_cd mY_Ni_playMinute) (jm_ml mY_Ni_playMinute) (jm_rt mY_Ni_playMinute) ∈ jm_tbl := jm_in (List.mem_of_getElem? (i := 455) (by decide +kernel)) rfl
theorem ok_Ni_playMinute : jm_ok mY_Ni_playMinute 2 := ⟨by decide, rfl, cw_Ni_playMinute, ini_Ni, by decide +kernel⟩
theorem le_45_78 : 45 ≤ 78 := by decide
theorem mr_154_45_0 : mr_154 45 0 = some 46 := by decide
def mY_Ni_isFired : jm_Y := (⟨"LyingBeacons$Night", "isFired", "(LLyingBeacons$Net;II)Z"⟩, prog_6_method_5_code, 6, some .boolean, { frames := 2, cells := 0, slots := 0, locals := 51 }, none)
theorem cw_Ni_isFired : Cond.code (jm_nm mY_Ni_isFired) (jm_cd mY_Ni_isFired) (jm_ml mY_Ni_isFired) (jm_rt mY_Ni_isFired) ∈ jm_tbl := jm_in (List.mem_of_getElem? (i := 459) (by decide +kernel)) rfl
theorem ok_Ni_isFired : jm_ok mY_Ni_isFired 3 := ⟨by decide, rfl, cw_Ni_isFired, ini_Ni, by decide +kernel⟩
theorem fo_Ni_44 : jm_fo "LyingBeacons$Night" 44 2 8 RX3 TX3 12 := ⟨inY3, rfl, by decide, jm_in (List.mem_of_getElem? (i := 161) (by decide +kernel)) rfl⟩
theorem fo_Ni_47 : jm_fo "LyingBeacons$Night" 47 2 1 RX3 TX3 12 := ⟨inY3, rfl, by decide, jm_in (List.mem_of_getElem? (i := 129) (by decide +kernel)) rfl⟩
theorem fo_Ni_50 : jm_fo "LyingBeacons$Night" 50 2 7 RX3 TX3 12 := ⟨inY3, rfl, by decide, jm_in (List.mem_of_getElem? (i := 158) (by decide +kernel)) rfl⟩
def mY_Ni_isLit : jm_Y := (⟨"LyingBeacons$Night", "isLit", "(II)Z"⟩, prog_6_method_2_code, 3, some .boolean, { frames := 1, cells := 0, slots := 0, locals := 20 }, none)
theorem cw_Ni_isLit : Cond.code (jm_nm mY_Ni_isLit) (jm_cd mY_Ni_isLit) (jm_ml mY_Ni_isLit) (jm_rt mY_Ni_isLit) ∈ jm_tbl := jm_in (List.mem_of_getElem? (i := 463) (by decide +kernel)) rfl
theorem ok_Ni_isLit : jm_ok mY_Ni_isLit 2 := ⟨by decide, rfl, cw_Ni_isLit, ini_Ni, by decide +kernel⟩
theorem l0_Ni_isLit__X_isMinute : jm_l0 mY_Ni_isLit mY_X_isMinute := ⟨⟨Nat.le_of_ble_eq_true rfl, Nat.le_of_ble_eq_true rfl⟩, rfl, rfl⟩
theorem mr_154_45_2 : mr_154 45 2 = some 47 := by decide
theorem le_47_78 : 47 ≤ 78 := by decide
theorem nl_Ni_23 : (("LyingBeacons$Night", 23, ⟨"LyingBeacons", "isMinute", "(I)Z"⟩, "LyingBeacons") : String × Nat × MethodName × String) ∈ jm_nest := by decide +kernel
theorem l0_Ni_isFired__Ni_isLit : jm_l0 mY_Ni_isFired mY_Ni_isLit := ⟨⟨Nat.le_of_ble_eq_true rfl, Nat.le_of_ble_eq_true rfl⟩, rfl, rfl⟩
def mY_Ni_sawShip : jm_Y := (⟨"LyingBeacons$Night", "sawShip", "(LLyingBeacons$Net;II)Z"⟩, prog_6_method_6_code, 3, some .boolean, { frames := 0, cells := 0, slots := 0, locals := 0 }, none)
theorem cw_Ni_sawShip : Cond.code (jm_nm mY_Ni_sawShip) (jm_cd mY_Ni_sawShip) (jm_ml mY_Ni_sawShip) (jm_rt mY_Ni_sawShip) ∈ jm_tbl := jm_in (List.mem_of_getElem? (i := 467) (by decide +kernel)) rfl
theorem ok_Ni_sawShip : jm_ok mY_Ni_sawShip 3 := ⟨by decide, rfl, cw_Ni_sawShip, ini_Ni, by decide +kernel⟩
theorem fo_Ni_63 : jm_fo "LyingBeacons$Night" 63 2 10 RX3 TX3 12 := ⟨inY3, rfl, by decide, jm_in (List.mem_of_getElem? (i := 166) (by decide +kernel)) rfl⟩
theorem fo_Ni_66 : jm_fo "LyingBeacons$Night" 66 2 11 RX3 TX3 12 := ⟨inY3, rfl, by decide, jm_in (List.mem_of_getElem? (i := 169) (by decide +kernel)) rfl⟩
theorem l0_Ni_isFired__Ni_sawShip : jm_l0 mY_Ni_isFired mY_Ni_sawShip := ⟨⟨Nat.le_of_ble_eq_true rfl, Nat.le_of_ble_eq_true rfl⟩, rfl, rfl⟩
def mY_Ni_ruleHeld : jm_Y := (⟨"LyingBeacons$Night", "ruleHeld", "(LLyingBeacons$Net;II)Z"⟩, prog_6_method_7_code, 11, some .boolean, { frames := 1, cells := 0, slots := 0, locals := 21 }, none)
theorem cw_Ni_ruleHeld : Cond.code (jm_nm mY_Ni_ruleHeld) (jm_cd mY_Ni_ruleHeld) (jm_ml mY_Ni_ruleHeld) (jm_rt mY_Ni_ruleHeld) ∈ jm_tbl := jm_in (List.mem_of_getElem? (i := 471) (by decide +kernel)) rfl
theorem ok_Ni_ruleHeld : jm_ok mY_Ni_ruleHeld 3 := ⟨by decide, rfl, cw_Ni_ruleHeld, ini_Ni, by decide +kernel⟩
theorem fo_Ni_70 : jm_fo "LyingBeacons$Night" 70 2 4 RX3 TX3 12 := ⟨inY3, rfl, by decide, jm_in (List.mem_of_getElem? (i := 148) (by decide +kernel)) rfl⟩
theorem l0_Ni_ruleHeld__X_minutesFrom : jm_l0 mY_Ni_ruleHeld mY_X_minutesFrom := ⟨⟨Nat.le_of_ble_eq_true rfl, Nat.le_of_ble_eq_true rfl⟩, rfl, rfl⟩
theorem fo_Ni_85 : jm_fo "LyingBeacons$Night" 85 2 3 RX3 TX3 12 := ⟨inY3, rfl, by decide, jm_in (List.mem_of_getElem? (i := 142) (by decide +kernel)) rfl⟩
theorem fo_Ni_77 : jm_fo "LyingBeacons$Night" 77 2 2 RX3 TX3 12 := ⟨inY3, rfl, by decide, jm_in (List.mem_of_getElem? (i := 136) (by decide +kernel)) rfl⟩
theorem fo_Ni_80 : jm_fo "LyingBeacons$Night" 80 2 9 RX3 TX3 12 := ⟨inY3, rfl, by decide, jm_in (List.mem_of_getElem? (i := 164) (by decide +kernel)) rfl⟩
theorem kl_Ni_83 : Cond.constantLong "LyingBeacons$Night" 83 (-1 : Int64) ∈ jm_tbl := jm_in (List.mem_of_getElem? (i := 473) (by decide +kernel)) rfl
theorem nl_Ni_73 : (("LyingBeacons$Night", 73, ⟨"LyingBeacons", "minutesFrom", "(II)J"⟩, "LyingBeacons") : String × Nat × MethodName × String) ∈ jm_nest := by decide +kernel
theorem l0_Ni_isFired__Ni_ruleHeld : jm_l0 mY_Ni_isFired mY_Ni_ruleHeld := ⟨⟨Nat.le_of_ble_eq_true rfl, Nat.le_of_ble_eq_true rfl⟩, rfl, rfl⟩
theorem ml_Ni_60 : Cond.methodLink "LyingBeacons$Night" 60 ⟨"LyingBeacons$Night", "ruleHeld", "(LLyingBeacons$Net;II)Z"⟩ ∈ jm_tbl := jm_in (List.mem_of_getElem? (i := 468) (by decide +kernel)) rfl
theorem im_Ni_ruleHeld : Cond.instanceMethod ⟨"LyingBeacons$Night", "ruleHeld", "(LLyingBeacons$Net;II)Z"⟩ ∈ jm_tbl := jm_in (List.mem_of_getElem? (i := 470) (by decide +kernel)) rfl
theorem se_Ni_ruleHeld : Cond.selects "LyingBeacons$Night" ⟨"LyingBeacons$Night", "ruleHeld", "(LLyingBeacons$Net;II)Z"⟩ ⟨"LyingBeacons$Night", "ruleHeld", "(LLyingBeacons$Net;II)Z"⟩ ∈ jm_tbl := jm_in (List.mem_of_getElem? (i := 15) (by decide +kernel)) rfl
theorem ml_Ni_57 : Cond.methodLink "LyingBeacons$Night" 57 ⟨"LyingBeacons$Night", "sawShip", "(LLyingBeacons$Net;II)Z"⟩ ∈ jm_tbl := jm_in (List.mem_of_getElem? (i := 465) (by decide +kernel)) rfl
theorem sm_Ni_sawShip : Cond.static ⟨"LyingBeacons$Night", "sawShip", "(LLyingBeacons$Net;II)Z"⟩ ∈ jm_tbl := jm_in (List.mem_of_getElem? (i := 466) (by decide +kernel)) rfl
theorem ml_Ni_53 : Cond.methodLink "LyingBeacons$Night" 53 ⟨"LyingBeacons$Night", "isLit", "(II)Z"⟩ ∈ jm_tbl := jm_in (List.mem_of_getElem? (i := 460) (by decide +kernel)) rfl
theorem im_Ni_isLit : Cond.instanceMethod ⟨"LyingBeacons$Night", "isLit", "(II)Z"⟩ ∈ jm_tbl := jm_in (List.mem_of_getElem? (i := 461) (by decide +kernel)) rfl
theorem se_Ni_isLit : Cond.selects "LyingBeacons$Night" ⟨"LyingBeacons$Night", "isLit", "(II)Z"⟩ ⟨"LyingBeacons$Night", "isLit", "(II)Z"⟩ ∈ jm_tbl := jm_in (List.mem_of_getElem? (i := 462) (by decide +kernel)) rfl
theorem l0_Ni_playMinute__Ni_isFired : jm_l0 mY_Ni_playMinute mY_Ni_isFired := ⟨⟨Nat.le_of_ble_eq_true rfl, Nat.le_of_ble_eq_true rfl⟩, rfl, rfl⟩
theorem le_46_78 : 46 ≤ 78 := by decide
theorem ml_Ni_40 : Cond.methodLink "LyingBeacons$Night" 40 ⟨"LyingBeacons$Night", "isFired", "(LLyingBeacons$Net;II)Z"⟩ ∈ jm_tbl := jm_in (List.mem_of_getElem? (i := 456) (by decide +kernel)) rfl
theorem im_Ni_isFired : Cond.instanceMethod ⟨"LyingBeacons$Night", "isFired", "(LLyingBeacons$Net;II)Z"⟩ ∈ jm_tbl := jm_in (List.mem_of_getElem? (i := 458) (by decide +kernel)) rfl
theorem se_Ni_isFired : Cond.selects "LyingBeacons$Night" ⟨"LyingBeacons$Night", "isFired", "(LLyingBeacons$Net;II)Z"⟩ ⟨"LyingBeacons$Night", "isFired", "(LLyingBeacons$Net;II)Z"⟩ ∈ jm_tbl := jm_in (List.mem_of_getElem? (i := 14) (by decide +kernel)) rfl
theorem l0_Ni_play__Ni_playMinute : jm_l0 mY_Ni_play mY_Ni_playMinute := ⟨⟨Nat.le_of_ble_eq_true rfl, Nat.le_of_ble_eq_true rfl⟩, rfl, rfl⟩
def mY_Ni_isHeard : jm_Y := (⟨"LyingBeacons$Night", "isHeard", "(LLyingBeacons$Net;I)Z"⟩, prog_6_method_8_code, 4, some .boolean, { frames := 2, cells := 0, slots := 0, locals := 51 }, none)
theorem cw_Ni_isHeard : Cond.code (jm_nm mY_Ni_isHeard) (jm_cd mY_Ni_isHeard) (jm_ml mY_Ni_isHeard) (jm_rt mY_Ni_isHeard) ∈ jm_tbl := jm_in (List.mem_of_getElem? (i := 477) (by decide +kernel)) rfl
theorem ok_Ni_isHeard : jm_ok mY_Ni_isHeard 2 := ⟨by decide, rfl, cw_Ni_isHeard, ini_Ni, by decide +kernel⟩
theorem l0_Ni_isHeard__Ni_ruleHeld : jm_l0 mY_Ni_isHeard mY_Ni_ruleHeld := ⟨⟨Nat.le_of_ble_eq_true rfl, Nat.le_of_ble_eq_true rfl⟩, rfl, rfl⟩
theorem l0_Ni_play__Ni_isHeard : jm_l0 mY_Ni_play mY_Ni_isHeard := ⟨⟨Nat.le_of_ble_eq_true rfl, Nat.le_of_ble_eq_true rfl⟩, rfl, rfl⟩
theorem ml_Ni_36 : Cond.methodLink "LyingBeacons$Night" 36 ⟨"LyingBeacons$Night", "isHeard", "(LLyingBeacons$Net;I)Z"⟩ ∈ jm_tbl := jm_in (List.mem_of_getElem? (i := 474) (by decide +kernel)) rfl
theorem im_Ni_isHeard : Cond.instanceMethod ⟨"LyingBeacons$Night", "isHeard", "(LLyingBeacons$Net;I)Z"⟩ ∈ jm_tbl := jm_in (List.mem_of_getElem? (i := 476) (by decide +kernel)) rfl
theorem se_Ni_isHeard : Cond.selects "LyingBeacons$Night" ⟨"LyingBeacons$Night", "isHeard", "(LLyingBeacons$Net;I)Z"⟩ ⟨"LyingBeacons$Night", "isHeard", "(LLyingBeacons$Net;I)Z"⟩ ∈ jm_tbl := jm_in (List.mem_of_getElem? (i := 16) (by decide +kernel)) rfl
theorem ml_Ni_32 : Cond.methodLink "LyingBeacons$Night" 32 ⟨"LyingBeacons$Night", "playMinute", "(LLyingBeacons$Net;I)V"⟩ ∈ jm_tbl := jm_in (List.mem_of_getElem? (i := 452) (by decide +kernel)) rfl
theorem im_Ni_playMinute : Cond.instanceMethod ⟨"LyingBeacons$Night", "playMinute", "(LLyingBeacons$Net;I)V"⟩ ∈ jm_tbl := jm_in (List.mem_of_getElem? (i := 454) (by decide +kernel)) rfl
theorem se_Ni_playMinute : Cond.selects "LyingBeacons$Night" ⟨"LyingBeacons$Night", "playMinute", "(LLyingBeacons$Net;I)V"⟩ ⟨"LyingBeacons$Night", "playMinute", "(LLyingBeacons$Net;I)V"⟩ ∈ jm_tbl := jm_in (List.mem_of_getElem? (i := 13) (by decide +kernel)) rfl
theorem fo_Ni_27 : jm_fo "LyingBeacons$Night" 27 2 5 RX3 TX3 12 := ⟨inY3, rfl, by decide, jm_in (List.mem_of_getElem? (i := 151) (by decide +kernel)) rfl⟩
theorem l0_X_playNight__Ni_play : jm_l0 mY_X_playNight mY_Ni_play := ⟨⟨Nat.le_of_ble_eq_true rfl, Nat.le_of_ble_eq_true rfl⟩, rfl, rfl⟩
theorem ml_X_264 : Cond.methodLink "LyingBeacons" 264 ⟨"LyingBeacons$Night", "play", "(LLyingBeacons$Net;)V"⟩ ∈ jm_tbl := jm_in (List.mem_of_getElem? (i := 448) (by decide +kernel)) rfl
theorem im_Ni_play : Cond.instanceMethod ⟨"LyingBeacons$Night", "play", "(LLyingBeacons$Net;)V"⟩ ∈ jm_tbl := jm_in (List.mem_of_getElem? (i := 449) (by decide +kernel)) rfl
theorem se_Ni_play : Cond.selects "LyingBeacons$Night" ⟨"LyingBeacons$Night", "play", "(LLyingBeacons$Net;)V"⟩ ⟨"LyingBeacons$Night", "play", "(LLyingBeacons$Net;)V"⟩ ∈ jm_tbl := jm_in (List.mem_of_getElem? (i := 450) (by decide +kernel)) rfl
theorem l0_X_burns__X_playNight : jm_l0 mY_X_burns mY_X_playNight := ⟨⟨Nat.le_of_ble_eq_true rfl, Nat.le_of_ble_eq_true rfl⟩, rfl, rfl⟩
theorem l0_X_burns__Ni_isLit : jm_l0 mY_X_burns mY_Ni_isLit := ⟨⟨Nat.le_of_ble_eq_true rfl, Nat.le_of_ble_eq_true rfl⟩, rfl, rfl⟩
theorem ml_X_134 : Cond.methodLink "LyingBeacons" 134 ⟨"LyingBeacons$Night", "isLit", "(II)Z"⟩ ∈ jm_tbl := jm_in (List.mem_of_getElem? (i := 478) (by decide +kernel)) rfl
theorem ml_X_131 : Cond.methodLink "LyingBeacons" 131 ⟨"LyingBeacons", "playNight", "()V"⟩ ∈ jm_tbl := jm_in (List.mem_of_getElem? (i := 444) (by decide +kernel)) rfl
theorem im_X_playNight : Cond.instanceMethod ⟨"LyingBeacons", "playNight", "()V"⟩ ∈ jm_tbl := jm_in (List.mem_of_getElem? (i := 446) (by decide +kernel)) rfl
theorem se_X_playNight : Cond.selects "LyingBeacons" ⟨"LyingBeacons", "playNight", "()V"⟩ ⟨"LyingBeacons", "playNight", "()V"⟩ ∈ jm_tbl := jm_in (List.mem_of_getElem? (i := 12) (by decide +kernel)) rfl
theorem l0_Law__X_burns (L : Nat) (xs : Nat → Int32) : jm_l0 (mY_Law L xs) mY_X_burns := ⟨⟨Nat.le_of_ble_eq_true rfl, Nat.le_of_ble_eq_true rfl⟩, rfl, rfl⟩
def mY_Z_burns : jm_Y := (⟨"LyingBeaconsModel", "burns", "(II)I"⟩, prog_11_method_30_code, 3, some .int, { frames := 5, cells := 0, slots := 0, locals := 124 }, none)
theorem cw_Z_burns : Cond.code (jm_nm mY_Z_burns) (jm_cd mY_Z_burns) (jm_ml mY_Z_burns) (jm_rt mY_Z_burns) ∈ jm_tbl := jm_in (List.mem_of_getElem? (i := 940) (by decide +kernel)) rfl
theorem ok_Z_burns : jm_ok mY_Z_burns 2 := ⟨by decide, rfl, cw_Z_burns, ini_Z, by decide +kernel⟩
theorem l0_Z_burns__Z_isHill : jm_l0 mY_Z_burns mY_Z_isHill := ⟨⟨Nat.le_of_ble_eq_true rfl, Nat.le_of_ble_eq_true rfl⟩, rfl, rfl⟩
theorem l0_Z_burns__Z_in : jm_l0 mY_Z_burns mY_Z_in := ⟨⟨Nat.le_of_ble_eq_true rfl, Nat.le_of_ble_eq_true rfl⟩, rfl, rfl⟩
def mY_Z_layNight : jm_Y := (⟨"LyingBeaconsModel", "layNight", "()V"⟩, prog_11_method_29_code, 4, none, { frames := 4, cells := 0, slots := 0, locals := 101 }, none)
theorem cw_Z_layNight : Cond.code (jm_nm mY_Z_layNight) (jm_cd mY_Z_layNight) (jm_ml mY_Z_layNight) (jm_rt mY_Z_layNight) ∈ jm_tbl := jm_in (List.mem_of_getElem? (i := 944) (by decide +kernel)) rfl
theorem ok_Z_layNight : jm_ok mY_Z_layNight 0 := ⟨by decide, rfl, cw_Z_layNight, ini_Z, by decide +kernel⟩
theorem mr_154_59_20 : mr_154 59 20 = some 74 := by decide
theorem mr_154_59_21 : mr_154 59 21 = some 75 := by decide
theorem l0_Z_layNight__Z_has : jm_l0 mY_Z_layNight mY_Z_has := ⟨⟨Nat.le_of_ble_eq_true rfl, Nat.le_of_ble_eq_true rfl⟩, rfl, rfl⟩
theorem le_75_78 : 75 ≤ 78 := by decide
theorem le_74_78 : 74 ≤ 78 := by decide
def mY_Z_kindles : jm_Y := (⟨"LyingBeaconsModel", "kindles", "(II)Z"⟩, prog_11_method_28_code, 4, some .boolean, { frames := 3, cells := 0, slots := 0, locals := 78 }, none)
theorem cw_Z_kindles : Cond.code (jm_nm mY_Z_kindles) (jm_cd mY_Z_kindles) (jm_ml mY_Z_kindles) (jm_rt mY_Z_kindles) ∈ jm_tbl := jm_in (List.mem_of_getElem? (i := 948) (by decide +kernel)) rfl
theorem ok_Z_kindles : jm_ok mY_Z_kindles 2 := ⟨by decide, rfl, cw_Z_kindles, ini_Z, by decide +kernel⟩
def mY_Z_isLiar : jm_Y := (⟨"LyingBeaconsModel", "isLiar", "(I)Z"⟩, prog_11_method_26_code, 4, some .boolean, { frames := 0, cells := 0, slots := 0, locals := 0 }, none)
theorem cw_Z_isLiar : Cond.code (jm_nm mY_Z_isLiar) (jm_cd mY_Z_isLiar) (jm_ml mY_Z_isLiar) (jm_rt mY_Z_isLiar) ∈ jm_tbl := jm_in (List.mem_of_getElem? (i := 952) (by decide +kernel)) rfl
theorem ok_Z_isLiar : jm_ok mY_Z_isLiar 1 := ⟨by decide, rfl, cw_Z_isLiar, ini_Z, by decide +kernel⟩
theorem l0_Z_kindles__Z_isLiar : jm_l0 mY_Z_kindles mY_Z_isLiar := ⟨⟨Nat.le_of_ble_eq_true rfl, Nat.le_of_ble_eq_true rfl⟩, rfl, rfl⟩
theorem cb_115 : (Int8.ofInt 115).toInt32 = (115 : Int32) := by decide
def mY_Z_isTold : jm_Y := (⟨"LyingBeaconsModel", "isTold", "(III)Z"⟩, prog_11_method_24_code, 6, some .boolean, { frames := 1, cells := 0, slots := 0, locals := 25 }, none)
theorem cw_Z_isTold : Cond.code (jm_nm mY_Z_isTold) (jm_cd mY_Z_isTold) (jm_ml mY_Z_isTold) (jm_rt mY_Z_isTold) ∈ jm_tbl := jm_in (List.mem_of_getElem? (i := 956) (by decide +kernel)) rfl
theorem ok_Z_isTold : jm_ok mY_Z_isTold 3 := ⟨by decide, rfl, cw_Z_isTold, ini_Z, by decide +kernel⟩
theorem l0_Z_isTold__Z_in : jm_l0 mY_Z_isTold mY_Z_in := ⟨⟨Nat.le_of_ble_eq_true rfl, Nat.le_of_ble_eq_true rfl⟩, rfl, rfl⟩
theorem l0_Z_kindles__Z_isTold : jm_l0 mY_Z_kindles mY_Z_isTold := ⟨⟨Nat.le_of_ble_eq_true rfl, Nat.le_of_ble_eq_true rfl⟩, rfl, rfl⟩
theorem l0_Z_kindles__Z_has : jm_l0 mY_Z_kindles mY_Z_has := ⟨⟨Nat.le_of_ble_eq_true rfl, Nat.le_of_ble_eq_true rfl⟩, rfl, rfl⟩
def mY_Z_held : jm_Y := (⟨"LyingBeaconsModel", "held", "(II)Z"⟩, prog_11_method_27_code, 7, some .boolean, { frames := 2, cells := 0, slots := 0, locals := 52 }, none)
theorem cw_Z_held : Cond.code (jm_nm mY_Z_held) (jm_cd mY_Z_held) (jm_ml mY_Z_held) (jm_rt mY_Z_held) ∈ jm_tbl := jm_in (List.mem_of_getElem? (i := 960) (by decide +kernel)) rfl
theorem ok_Z_held : jm_ok mY_Z_held 2 := ⟨by decide, rfl, cw_Z_held, ini_Z, by decide +kernel⟩
theorem l0_Z_held__Z_has : jm_l0 mY_Z_held mY_Z_has := ⟨⟨Nat.le_of_ble_eq_true rfl, Nat.le_of_ble_eq_true rfl⟩, rfl, rfl⟩
def mY_Z_isMist : jm_Y := (⟨"LyingBeaconsModel", "isMist", "(III)Z"⟩, prog_11_method_25_code, 8, some .boolean, { frames := 1, cells := 0, slots := 0, locals := 25 }, none)
theorem cw_Z_isMist : Cond.code (jm_nm mY_Z_isMist) (jm_cd mY_Z_isMist) (jm_ml mY_Z_isMist) (jm_rt mY_Z_isMist) ∈ jm_tbl := jm_in (List.mem_of_getElem? (i := 964) (by decide +kernel)) rfl
theorem ok_Z_isMist : jm_ok mY_Z_isMist 3 := ⟨by decide, rfl, cw_Z_isMist, ini_Z, by decide +kernel⟩
theorem l0_Z_isMist__Z_in : jm_l0 mY_Z_isMist mY_Z_in := ⟨⟨Nat.le_of_ble_eq_true rfl, Nat.le_of_ble_eq_true rfl⟩, rfl, rfl⟩
theorem l0_Z_held__Z_isMist : jm_l0 mY_Z_held mY_Z_isMist := ⟨⟨Nat.le_of_ble_eq_true rfl, Nat.le_of_ble_eq_true rfl⟩, rfl, rfl⟩
theorem ml_Z_149 : Cond.methodLink "LyingBeaconsModel" 149 ⟨"LyingBeaconsModel", "isMist", "(III)Z"⟩ ∈ jm_tbl := jm_in (List.mem_of_getElem? (i := 961) (by decide +kernel)) rfl
theorem im_Z_isMist : Cond.instanceMethod ⟨"LyingBeaconsModel", "isMist", "(III)Z"⟩ ∈ jm_tbl := jm_in (List.mem_of_getElem? (i := 963) (by decide +kernel)) rfl
theorem se_Z_isMist : Cond.selects "LyingBeaconsModel" ⟨"LyingBeaconsModel", "isMist", "(III)Z"⟩ ⟨"LyingBeaconsModel", "isMist", "(III)Z"⟩ ∈ jm_tbl := jm_in (List.mem_of_getElem? (i := 41) (by decide +kernel)) rfl
theorem l0_Z_kindles__Z_held : jm_l0 mY_Z_kindles mY_Z_held := ⟨⟨Nat.le_of_ble_eq_true rfl, Nat.le_of_ble_eq_true rfl⟩, rfl, rfl⟩
theorem ml_Z_159 : Cond.methodLink "LyingBeaconsModel" 159 ⟨"LyingBeaconsModel", "held", "(II)Z"⟩ ∈ jm_tbl := jm_in (List.mem_of_getElem? (i := 957) (by decide +kernel)) rfl
theorem im_Z_held : Cond.instanceMethod ⟨"LyingBeaconsModel", "held", "(II)Z"⟩ ∈ jm_tbl := jm_in (List.mem_of_getElem? (i := 959) (by decide +kernel)) rfl
theorem se_Z_held : Cond.selects "LyingBeaconsModel" ⟨"LyingBeaconsModel", "held", "(II)Z"⟩ ⟨"LyingBeaconsModel", "held", "(II)Z"⟩ ∈ jm_tbl := jm_in (List.mem_of_getElem? (i := 40) (by decide +kernel)) rfl
theorem l0_Z_kindles__Z_in : jm_l0 mY_Z_kindles mY_Z_in := ⟨⟨Nat.le_of_ble_eq_true rfl, Nat.le_of_ble_eq_true rfl⟩, rfl, rfl⟩
theorem ml_Z_156 : Cond.methodLink "LyingBeaconsModel" 156 ⟨"LyingBeaconsModel", "isTold", "(III)Z"⟩ ∈ jm_tbl := jm_in (List.mem_of_getElem? (i := 953) (by decide +kernel)) rfl
theorem im_Z_isTold : Cond.instanceMethod ⟨"LyingBeaconsModel", "isTold", "(III)Z"⟩ ∈ jm_tbl := jm_in (List.mem_of_getElem? (i := 955) (by decide +kernel)) rfl
theorem se_Z_isTold : Cond.selects "LyingBeaconsModel" ⟨"LyingBeaconsModel", "isTold", "(III)Z"⟩ ⟨"LyingBeaconsModel", "isTold", "(III)Z"⟩ ∈ jm_tbl := jm_in (List.mem_of_getElem? (i := 39) (by decide +kernel)) rfl
theorem ml_Z_153 : Cond.methodLink "LyingBeaconsModel" 153 ⟨"LyingBeaconsModel", "isLiar", "(I)Z"⟩ ∈ jm_tbl := jm_in (List.mem_of_getElem? (i := 949) (by decide +kernel)) rfl
theorem im_Z_isLiar : Cond.instanceMethod ⟨"LyingBeaconsModel", "isLiar", "(I)Z"⟩ ∈ jm_tbl := jm_in (List.mem_of_getElem? (i := 951) (by decide +kernel)) rfl
theorem se_Z_isLiar : Cond.selects "LyingBeaconsModel" ⟨"LyingBeaconsModel", "isLiar", "(I)Z"⟩ ⟨"LyingBeaconsModel", "isLiar", "(I)Z"⟩ ∈ jm_tbl := jm_in (List.mem_of_getElem? (i := 38) (by decide +kernel)) rfl
theorem l0_Z_layNight__Z_kindles : jm_l0 mY_Z_layNight mY_Z_kindles := ⟨⟨Nat.le_of_ble_eq_true rfl, Nat.le_of_ble_eq_true rfl⟩, rfl, rfl⟩
theorem ml_Z_162 : Cond.methodLink "LyingBeaconsModel" 162 ⟨"LyingBeaconsModel", "kindles", "(II)Z"⟩ ∈ jm_tbl := jm_in (List.mem_of_getElem? (i := 945) (by decide +kernel)) rfl
theorem im_Z_kindles : Cond.instanceMethod ⟨"LyingBeaconsModel", "kindles", "(II)Z"⟩ ∈ jm_tbl := jm_in (List.mem_of_getElem? (i := 947) (by decide +kernel)) rfl
theorem se_Z_kindles : Cond.selects "LyingBeaconsModel" ⟨"LyingBeaconsModel", "kindles", "(II)Z"⟩ ⟨"LyingBeaconsModel", "kindles", "(II)Z"⟩ ∈ jm_tbl := jm_in (List.mem_of_getElem? (i := 37) (by decide +kernel)) rfl
theorem l0_Z_burns__Z_layNight : jm_l0 mY_Z_burns mY_Z_layNight := ⟨⟨Nat.le_of_ble_eq_true rfl, Nat.le_of_ble_eq_true rfl⟩, rfl, rfl⟩
theorem ml_Z_165 : Cond.methodLink "LyingBeaconsModel" 165 ⟨"LyingBeaconsModel", "layNight", "()V"⟩ ∈ jm_tbl := jm_in (List.mem_of_getElem? (i := 941) (by decide +kernel)) rfl
theorem im_Z_layNight : Cond.instanceMethod ⟨"LyingBeaconsModel", "layNight", "()V"⟩ ∈ jm_tbl := jm_in (List.mem_of_getElem? (i := 943) (by decide +kernel)) rfl
theorem se_Z_layNight : Cond.selects "LyingBeaconsModel" ⟨"LyingBeaconsModel", "layNight", "()V"⟩ ⟨"LyingBeaconsModel", "layNight", "()V"⟩ ∈ jm_tbl := jm_in (List.mem_of_getElem? (i := 36) (by decide +kernel)) rfl
theorem l0_Law__Z_burns (L : Nat) (xs : Nat → Int32) : jm_l0 (mY_Law L xs) mY_Z_burns := ⟨⟨Nat.le_of_ble_eq_true rfl, Nat.le_of_ble_eq_true rfl⟩, rfl, rfl⟩
theorem ml_Law_46 : Cond.methodLink "LyingBeaconsLaw" 46 ⟨"LyingBeaconsModel", "burns", "(II)I"⟩ ∈ jm_tbl := jm_in (List.mem_of_getElem? (i := 937) (by decide +kernel)) rfl
theorem im_Z_burns : Cond.instanceMethod ⟨"LyingBeaconsModel", "burns", "(II)I"⟩ ∈ jm_tbl := jm_in (List.mem_of_getElem? (i := 938) (by decide +kernel)) rfl
theorem se_Z_burns : Cond.selects "LyingBeaconsModel" ⟨"LyingBeaconsModel", "burns", "(II)I"⟩ ⟨"LyingBeaconsModel", "burns", "(II)I"⟩ ∈ jm_tbl := jm_in (List.mem_of_getElem? (i := 939) (by decide +kernel)) rfl
theorem ml_Law_43 : Cond.methodLink "LyingBeaconsLaw" 43 ⟨"LyingBeacons", "burns", "(II)I"⟩ ∈ jm_tbl := jm_in (List.mem_of_getElem? (i := 440) (by decide +kernel)) rfl
theorem im_X_burns : Cond.instanceMethod ⟨"LyingBeacons", "burns", "(II)I"⟩ ∈ jm_tbl := jm_in (List.mem_of_getElem? (i := 441) (by decide +kernel)) rfl
theorem se_X_burns : Cond.selects "LyingBeacons" ⟨"LyingBeacons", "burns", "(II)I"⟩ ⟨"LyingBeacons", "burns", "(II)I"⟩ ∈ jm_tbl := jm_in (List.mem_of_getElem? (i := 442) (by decide +kernel)) rfl
def mY_X_seen : jm_Y := (⟨"LyingBeacons", "seen", "(I)I"⟩, prog_1_method_9_code, 4, some .int, { frames := 6, cells := 0, slots := 0, locals := 141 }, none)
theorem cw_X_seen : Cond.code (jm_nm mY_X_seen) (jm_cd mY_X_seen) (jm_ml mY_X_seen) (jm_rt mY_X_seen) ∈ jm_tbl := jm_in (List.mem_of_getElem? (i := 482) (by decide +kernel)) rfl
theorem ok_X_seen : jm_ok mY_X_seen 1 := ⟨by decide, rfl, cw_X_seen, ini_X, by decide +kernel⟩
theorem l0_X_seen__X_isMinute : jm_l0 mY_X_seen mY_X_isMinute := ⟨⟨Nat.le_of_ble_eq_true rfl, Nat.le_of_ble_eq_true rfl⟩, rfl, rfl⟩
theorem l0_X_seen__X_playNight : jm_l0 mY_X_seen mY_X_playNight := ⟨⟨Nat.le_of_ble_eq_true rfl, Nat.le_of_ble_eq_true rfl⟩, rfl, rfl⟩
theorem l0_X_seen__Ni_isLit : jm_l0 mY_X_seen mY_Ni_isLit := ⟨⟨Nat.le_of_ble_eq_true rfl, Nat.le_of_ble_eq_true rfl⟩, rfl, rfl⟩
theorem l0_Law__X_seen (L : Nat) (xs : Nat → Int32) : jm_l0 (mY_Law L xs) mY_X_seen := ⟨⟨Nat.le_of_ble_eq_true rfl, Nat.le_of_ble_eq_true rfl⟩, rfl, rfl⟩
def mY_Z_seen : jm_Y := (⟨"LyingBeaconsModel", "seen", "(I)I"⟩, prog_11_method_31_code, 2, some .int, { frames := 5, cells := 0, slots := 0, locals := 124 }, none)
theorem cw_Z_seen : Cond.code (jm_nm mY_Z_seen) (jm_cd mY_Z_seen) (jm_ml mY_Z_seen) (jm_rt mY_Z_seen) ∈ jm_tbl := jm_in (List.mem_of_getElem? (i := 968) (by decide +kernel)) rfl
theorem ok_Z_seen : jm_ok mY_Z_seen 1 := ⟨by decide, rfl, cw_Z_seen, ini_Z, by decide +kernel⟩
theorem l0_Z_seen__Z_in : jm_l0 mY_Z_seen mY_Z_in := ⟨⟨Nat.le_of_ble_eq_true rfl, Nat.le_of_ble_eq_true rfl⟩, rfl, rfl⟩
theorem l0_Z_seen__Z_layNight : jm_l0 mY_Z_seen mY_Z_layNight := ⟨⟨Nat.le_of_ble_eq_true rfl, Nat.le_of_ble_eq_true rfl⟩, rfl, rfl⟩
theorem l0_Law__Z_seen (L : Nat) (xs : Nat → Int32) : jm_l0 (mY_Law L xs) mY_Z_seen := ⟨⟨Nat.le_of_ble_eq_true rfl, Nat.le_of_ble_eq_true rfl⟩, rfl, rfl⟩
theorem ml_Law_51 : Cond.methodLink "LyingBeaconsLaw" 51 ⟨"LyingBeaconsModel", "seen", "(I)I"⟩ ∈ jm_tbl := jm_in (List.mem_of_getElem? (i := 965) (by decide +kernel)) rfl
theorem im_Z_seen : Cond.instanceMethod ⟨"LyingBeaconsModel", "seen", "(I)I"⟩ ∈ jm_tbl := jm_in (List.mem_of_getElem? (i := 966) (by decide +kernel)) rfl
theorem se_Z_seen : Cond.selects "LyingBeaconsModel" ⟨"LyingBeaconsModel", "seen", "(I)I"⟩ ⟨"LyingBeaconsModel", "seen", "(I)I"⟩ ∈ jm_tbl := jm_in (List.mem_of_getElem? (i := 967) (by decide +kernel)) rfl
theorem ml_Law_47 : Cond.methodLink "LyingBeaconsLaw" 47 ⟨"LyingBeacons", "seen", "(I)I"⟩ ∈ jm_tbl := jm_in (List.mem_of_getElem? (i := 479) (by decide +kernel)) rfl
theorem im_X_seen : Cond.instanceMethod ⟨"LyingBeacons", "seen", "(I)I"⟩ ∈ jm_tbl := jm_in (List.mem_of_getElem? (i := 480) (by decide +kernel)) rfl
theorem se_X_seen : Cond.selects "LyingBeacons" ⟨"LyingBeacons", "seen", "(I)I"⟩ ⟨"LyingBeacons", "seen", "(I)I"⟩ ∈ jm_tbl := jm_in (List.mem_of_getElem? (i := 481) (by decide +kernel)) rfl
def mY_X_wood : jm_Y := (⟨"LyingBeacons", "wood", "(I)I"⟩, prog_1_method_10_code, 2, some .int, { frames := 6, cells := 0, slots := 0, locals := 141 }, none)
theorem cw_X_wood : Cond.code (jm_nm mY_X_wood) (jm_cd mY_X_wood) (jm_ml mY_X_wood) (jm_rt mY_X_wood) ∈ jm_tbl := jm_in (List.mem_of_getElem? (i := 486) (by decide +kernel)) rfl
theorem ok_X_wood : jm_ok mY_X_wood 1 := ⟨by decide, rfl, cw_X_wood, ini_X, by decide +kernel⟩
theorem l0_X_wood__Ne_isHill : jm_l0 mY_X_wood mY_Ne_isHill := ⟨⟨Nat.le_of_ble_eq_true rfl, Nat.le_of_ble_eq_true rfl⟩, rfl, rfl⟩
theorem l0_X_wood__X_playNight : jm_l0 mY_X_wood mY_X_playNight := ⟨⟨Nat.le_of_ble_eq_true rfl, Nat.le_of_ble_eq_true rfl⟩, rfl, rfl⟩
theorem fo_X_138 : jm_fo "LyingBeacons" 138 3 0 RX4 TX4 3 := ⟨inY4, rfl, by decide, jm_in (List.mem_of_getElem? (i := 204) (by decide +kernel)) rfl⟩
theorem l0_Law__X_wood (L : Nat) (xs : Nat → Int32) : jm_l0 (mY_Law L xs) mY_X_wood := ⟨⟨Nat.le_of_ble_eq_true rfl, Nat.le_of_ble_eq_true rfl⟩, rfl, rfl⟩
def mY_Z_wood : jm_Y := (⟨"LyingBeaconsModel", "wood", "(I)I"⟩, prog_11_method_32_code, 2, some .int, { frames := 5, cells := 0, slots := 0, locals := 124 }, none)
theorem cw_Z_wood : Cond.code (jm_nm mY_Z_wood) (jm_cd mY_Z_wood) (jm_ml mY_Z_wood) (jm_rt mY_Z_wood) ∈ jm_tbl := jm_in (List.mem_of_getElem? (i := 972) (by decide +kernel)) rfl
theorem ok_Z_wood : jm_ok mY_Z_wood 1 := ⟨by decide, rfl, cw_Z_wood, ini_Z, by decide +kernel⟩
theorem l0_Z_wood__Z_isHill : jm_l0 mY_Z_wood mY_Z_isHill := ⟨⟨Nat.le_of_ble_eq_true rfl, Nat.le_of_ble_eq_true rfl⟩, rfl, rfl⟩
theorem l0_Z_wood__Z_layNight : jm_l0 mY_Z_wood mY_Z_layNight := ⟨⟨Nat.le_of_ble_eq_true rfl, Nat.le_of_ble_eq_true rfl⟩, rfl, rfl⟩
theorem l0_Law__Z_wood (L : Nat) (xs : Nat → Int32) : jm_l0 (mY_Law L xs) mY_Z_wood := ⟨⟨Nat.le_of_ble_eq_true rfl, Nat.le_of_ble_eq_true rfl⟩, rfl, rfl⟩
theorem ml_Law_55 : Cond.methodLink "LyingBeaconsLaw" 55 ⟨"LyingBeaconsModel", "wood", "(I)I"⟩ ∈ jm_tbl := jm_in (List.mem_of_getElem? (i := 969) (by decide +kernel)) rfl
theorem im_Z_wood : Cond.instanceMethod ⟨"LyingBeaconsModel", "wood", "(I)I"⟩ ∈ jm_tbl := jm_in (List.mem_of_getElem? (i := 970) (by decide +kernel)) rfl
theorem se_Z_wood : Cond.selects "LyingBeaconsModel" ⟨"LyingBeaconsModel", "wood", "(I)I"⟩ ⟨"LyingBeaconsModel", "wood", "(I)I"⟩ ∈ jm_tbl := jm_in (List.mem_of_getElem? (i := 971) (by decide +kernel)) rfl
theorem ml_Law_52 : Cond.methodLink "LyingBeaconsLaw" 52 ⟨"LyingBeacons", "wood", "(I)I"⟩ ∈ jm_tbl := jm_in (List.mem_of_getElem? (i := 483) (by decide +kernel)) rfl
theorem im_X_wood : Cond.instanceMethod ⟨"LyingBeacons", "wood", "(I)I"⟩ ∈ jm_tbl := jm_in (List.mem_of_getElem? (i := 484) (by decide +kernel)) rfl
theorem se_X_wood : Cond.selects "LyingBeacons" ⟨"LyingBeacons", "wood", "(I)I"⟩ ⟨"LyingBeacons", "wood", "(I)I"⟩ ∈ jm_tbl := jm_in (List.mem_of_getElem? (i := 485) (by decide +kernel)) rfl
def mY_X_alarm : jm_Y := (⟨"LyingBeacons", "alarm", "()I"⟩, prog_1_method_11_code, 1, some .int, { frames := 6, cells := 0, slots := 0, locals := 141 }, none)
theorem cw_X_alarm : Cond.code (jm_nm mY_X_alarm) (jm_cd mY_X_alarm) (jm_ml mY_X_alarm) (jm_rt mY_X_alarm) ∈ jm_tbl := jm_in (List.mem_of_getElem? (i := 490) (by decide +kernel)) rfl
theorem ok_X_alarm : jm_ok mY_X_alarm 0 := ⟨by decide, rfl, cw_X_alarm, ini_X, by decide +kernel⟩
theorem l0_X_alarm__Ne_hasEar : jm_l0 mY_X_alarm mY_Ne_hasEar := ⟨⟨Nat.le_of_ble_eq_true rfl, Nat.le_of_ble_eq_true rfl⟩, rfl, rfl⟩
theorem l0_X_alarm__X_playNight : jm_l0 mY_X_alarm mY_X_playNight := ⟨⟨Nat.le_of_ble_eq_true rfl, Nat.le_of_ble_eq_true rfl⟩, rfl, rfl⟩
theorem fo_X_145 : jm_fo "LyingBeacons" 145 3 1 RX4 TX4 3 := ⟨inY4, rfl, by decide, jm_in (List.mem_of_getElem? (i := 206) (by decide +kernel)) rfl⟩
theorem ml_X_141 : Cond.methodLink "LyingBeacons" 141 ⟨"LyingBeacons$Net", "hasEar", "()Z"⟩ ∈ jm_tbl := jm_in (List.mem_of_getElem? (i := 491) (by decide +kernel)) rfl
theorem l0_Law__X_alarm (L : Nat) (xs : Nat → Int32) : jm_l0 (mY_Law L xs) mY_X_alarm := ⟨⟨Nat.le_of_ble_eq_true rfl, Nat.le_of_ble_eq_true rfl⟩, rfl, rfl⟩
def mY_Z_alarm : jm_Y := (⟨"LyingBeaconsModel", "alarm", "()I"⟩, prog_11_method_33_code, 3, some .int, { frames := 5, cells := 0, slots := 0, locals := 124 }, none)
theorem cw_Z_alarm : Cond.code (jm_nm mY_Z_alarm) (jm_cd mY_Z_alarm) (jm_ml mY_Z_alarm) (jm_rt mY_Z_alarm) ∈ jm_tbl := jm_in (List.mem_of_getElem? (i := 976) (by decide +kernel)) rfl
theorem ok_Z_alarm : jm_ok mY_Z_alarm 0 := ⟨by decide, rfl, cw_Z_alarm, ini_Z, by decide +kernel⟩
def mY_Z_ear : jm_Y := (⟨"LyingBeaconsModel", "ear", "()I"⟩, prog_11_method_22_code, 2, some .int, { frames := 0, cells := 0, slots := 0, locals := 0 }, none)
theorem cw_Z_ear : Cond.code (jm_nm mY_Z_ear) (jm_cd mY_Z_ear) (jm_ml mY_Z_ear) (jm_rt mY_Z_ear) ∈ jm_tbl := jm_in (List.mem_of_getElem? (i := 980) (by decide +kernel)) rfl
theorem ok_Z_ear : jm_ok mY_Z_ear 0 := ⟨by decide, rfl, cw_Z_ear, ini_Z, by decide +kernel⟩
theorem l0_Z_alarm__Z_ear : jm_l0 mY_Z_alarm mY_Z_ear := ⟨⟨Nat.le_of_ble_eq_true rfl, Nat.le_of_ble_eq_true rfl⟩, rfl, rfl⟩
theorem l0_Z_alarm__Z_layNight : jm_l0 mY_Z_alarm mY_Z_layNight := ⟨⟨Nat.le_of_ble_eq_true rfl, Nat.le_of_ble_eq_true rfl⟩, rfl, rfl⟩
theorem l0_Z_alarm__Z_held : jm_l0 mY_Z_alarm mY_Z_held := ⟨⟨Nat.le_of_ble_eq_true rfl, Nat.le_of_ble_eq_true rfl⟩, rfl, rfl⟩
theorem l0_Z_alarm__Z_isTold : jm_l0 mY_Z_alarm mY_Z_isTold := ⟨⟨Nat.le_of_ble_eq_true rfl, Nat.le_of_ble_eq_true rfl⟩, rfl, rfl⟩
theorem ml_Z_168 : Cond.methodLink "LyingBeaconsModel" 168 ⟨"LyingBeaconsModel", "ear", "()I"⟩ ∈ jm_tbl := jm_in (List.mem_of_getElem? (i := 977) (by decide +kernel)) rfl
theorem im_Z_ear : Cond.instanceMethod ⟨"LyingBeaconsModel", "ear", "()I"⟩ ∈ jm_tbl := jm_in (List.mem_of_getElem? (i := 979) (by decide +kernel)) rfl
theorem se_Z_ear : Cond.selects "LyingBeaconsModel" ⟨"LyingBeaconsModel", "ear", "()I"⟩ ⟨"LyingBeaconsModel", "ear", "()I"⟩ ∈ jm_tbl := jm_in (List.mem_of_getElem? (i := 42) (by decide +kernel)) rfl
theorem l0_Law__Z_alarm (L : Nat) (xs : Nat → Int32) : jm_l0 (mY_Law L xs) mY_Z_alarm := ⟨⟨Nat.le_of_ble_eq_true rfl, Nat.le_of_ble_eq_true rfl⟩, rfl, rfl⟩
theorem ml_Law_59 : Cond.methodLink "LyingBeaconsLaw" 59 ⟨"LyingBeaconsModel", "alarm", "()I"⟩ ∈ jm_tbl := jm_in (List.mem_of_getElem? (i := 973) (by decide +kernel)) rfl
theorem im_Z_alarm : Cond.instanceMethod ⟨"LyingBeaconsModel", "alarm", "()I"⟩ ∈ jm_tbl := jm_in (List.mem_of_getElem? (i := 974) (by decide +kernel)) rfl
theorem se_Z_alarm : Cond.selects "LyingBeaconsModel" ⟨"LyingBeaconsModel", "alarm", "()I"⟩ ⟨"LyingBeaconsModel", "alarm", "()I"⟩ ∈ jm_tbl := jm_in (List.mem_of_getElem? (i := 975) (by decide +kernel)) rfl
theorem ml_Law_56 : Cond.methodLink "LyingBeaconsLaw" 56 ⟨"LyingBeacons", "alarm", "()I"⟩ ∈ jm_tbl := jm_in (List.mem_of_getElem? (i := 487) (by decide +kernel)) rfl
theorem im_X_alarm : Cond.instanceMethod ⟨"LyingBeacons", "alarm", "()I"⟩ ∈ jm_tbl := jm_in (List.mem_of_getElem? (i := 488) (by decide +kernel)) rfl
theorem se_X_alarm : Cond.selects "LyingBeacons" ⟨"LyingBeacons", "alarm", "()I"⟩ ⟨"LyingBeacons", "alarm", "()I"⟩ ∈ jm_tbl := jm_in (List.mem_of_getElem? (i := 489) (by decide +kernel)) rfl
def mY_X_falseBy : jm_Y := (⟨"LyingBeacons", "falseBy", "(I)I"⟩, prog_1_method_12_code, 2, some .int, { frames := 3, cells := 0, slots := 0, locals := 66 }, none)
theorem cw_X_falseBy : Cond.code (jm_nm mY_X_falseBy) (jm_cd mY_X_falseBy) (jm_ml mY_X_falseBy) (jm_rt mY_X_falseBy) ∈ jm_tbl := jm_in (List.mem_of_getElem? (i := 495) (by decide +kernel)) rfl
theorem ok_X_falseBy : jm_ok mY_X_falseBy 1 := ⟨by decide, rfl, cw_X_falseBy, ini_X, by decide +kernel⟩
def mY_Ne_folk : jm_Y := (⟨"LyingBeacons$Net", "folk", "()I"⟩, prog_5_method_6_code, 1, some .int, { frames := 1, cells := 0, slots := 0, locals := 23 }, none)
theorem cw_Ne_folk : Cond.code (jm_nm mY_Ne_folk) (jm_cd mY_Ne_folk) (jm_ml mY_Ne_folk) (jm_rt mY_Ne_folk) ∈ jm_tbl := jm_in (List.mem_of_getElem? (i := 499) (by decide +kernel)) rfl
theorem ok_Ne_folk : jm_ok mY_Ne_folk 0 := ⟨by decide, rfl, cw_Ne_folk, ini_Ne, by decide +kernel⟩
theorem l0_Ne_folk__Ne_ofKind : jm_l0 mY_Ne_folk mY_Ne_ofKind := ⟨⟨Nat.le_of_ble_eq_true rfl, Nat.le_of_ble_eq_true rfl⟩, rfl, rfl⟩
theorem l0_X_falseBy__Ne_folk : jm_l0 mY_X_falseBy mY_Ne_folk := ⟨⟨Nat.le_of_ble_eq_true rfl, Nat.le_of_ble_eq_true rfl⟩, rfl, rfl⟩
theorem l0_X_falseBy__Ne_hasEar : jm_l0 mY_X_falseBy mY_Ne_hasEar := ⟨⟨Nat.le_of_ble_eq_true rfl, Nat.le_of_ble_eq_true rfl⟩, rfl, rfl⟩
theorem mr_154_1_10 : mr_154 1 10 = some 48 := by decide
def mY_Co_study : jm_Y := (⟨"LyingBeacons$Council", "study", "(LLyingBeacons$Net;)V"⟩, prog_2_method_2_code, 3, none, { frames := 2, cells := 0, slots := 0, locals := 43 }, none)
theorem cw_Co_study : Cond.code (jm_nm mY_Co_study) (jm_cd mY_Co_study) (jm_ml mY_Co_study) (jm_rt mY_Co_study) ∈ jm_tbl := jm_in (List.mem_of_getElem? (i := 503) (by decide +kernel)) rfl
theorem ok_Co_study : jm_ok mY_Co_study 1 := ⟨by decide, rfl, cw_Co_study, ini_Co, by decide +kernel⟩
theorem l0_Co_study__Ne_ofKind : jm_l0 mY_Co_study mY_Ne_ofKind := ⟨⟨Nat.le_of_ble_eq_true rfl, Nat.le_of_ble_eq_true rfl⟩, rfl, rfl⟩
theorem l0_Co_study__Ne_folk : jm_l0 mY_Co_study mY_Ne_folk := ⟨⟨Nat.le_of_ble_eq_true rfl, Nat.le_of_ble_eq_true rfl⟩, rfl, rfl⟩
theorem le_48_78 : 48 ≤ 78 := by decide
theorem mr_154_48_5 : mr_154 48 5 = some 49 := by decide
theorem fo_Co_52 : jm_fo "LyingBeacons$Council" 52 2 2 RX3 TX3 12 := ⟨inY3, rfl, by decide, jm_in (List.mem_of_getElem? (i := 133) (by decide +kernel)) rfl⟩
theorem mr_154_48_6 : mr_154 48 6 = some 50 := by decide
theorem fo_Co_53 : jm_fo "LyingBeacons$Council" 53 2 3 RX3 TX3 12 := ⟨inY3, rfl, by decide, jm_in (List.mem_of_getElem? (i := 139) (by decide +kernel)) rfl⟩
theorem mr_154_48_7 : mr_154 48 7 = some 51 := by decide
theorem fo_Co_54 : jm_fo "LyingBeacons$Council" 54 2 4 RX3 TX3 12 := ⟨inY3, rfl, by decide, jm_in (List.mem_of_getElem? (i := 145) (by decide +kernel)) rfl⟩
theorem fo_Co_55 : jm_fo "LyingBeacons$Council" 55 2 1 RX3 TX3 12 := ⟨inY3, rfl, by decide, jm_in (List.mem_of_getElem? (i := 127) (by decide +kernel)) rfl⟩
theorem le_51_78 : 51 ≤ 78 := by decide
theorem le_50_78 : 50 ≤ 78 := by decide
theorem le_49_78 : 49 ≤ 78 := by decide
theorem ml_Co_49 : Cond.methodLink "LyingBeacons$Council" 49 ⟨"LyingBeacons$Net", "folk", "()I"⟩ ∈ jm_tbl := jm_in (List.mem_of_getElem? (i := 505) (by decide +kernel)) rfl
theorem im_Ne_folk : Cond.instanceMethod ⟨"LyingBeacons$Net", "folk", "()I"⟩ ∈ jm_tbl := jm_in (List.mem_of_getElem? (i := 497) (by decide +kernel)) rfl
theorem se_Ne_folk : Cond.selects "LyingBeacons$Net" ⟨"LyingBeacons$Net", "folk", "()I"⟩ ⟨"LyingBeacons$Net", "folk", "()I"⟩ ∈ jm_tbl := jm_in (List.mem_of_getElem? (i := 498) (by decide +kernel)) rfl
theorem ml_Co_43 : Cond.methodLink "LyingBeacons$Council" 43 ⟨"LyingBeacons$Net", "ofKind", "(I)I"⟩ ∈ jm_tbl := jm_in (List.mem_of_getElem? (i := 504) (by decide +kernel)) rfl
theorem l0_X_falseBy__Co_study : jm_l0 mY_X_falseBy mY_Co_study := ⟨⟨Nat.le_of_ble_eq_true rfl, Nat.le_of_ble_eq_true rfl⟩, rfl, rfl⟩
def mY_Co_isFooledBy : jm_Y := (⟨"LyingBeacons$Council", "isFooledBy", "(I)Z"⟩, prog_2_method_4_code, 2, some .boolean, { frames := 2, cells := 0, slots := 0, locals := 45 }, none)
theorem cw_Co_isFooledBy : Cond.code (jm_nm mY_Co_isFooledBy) (jm_cd mY_Co_isFooledBy) (jm_ml mY_Co_isFooledBy) (jm_rt mY_Co_isFooledBy) ∈ jm_tbl := jm_in (List.mem_of_getElem? (i := 509) (by decide +kernel)) rfl
theorem ok_Co_isFooledBy : jm_ok mY_Co_isFooledBy 1 := ⟨by decide, rfl, cw_Co_isFooledBy, ini_Co, by decide +kernel⟩
def mY_Co_ring : jm_Y := (⟨"LyingBeacons$Council", "ring", "(I)I"⟩, prog_2_method_3_code, 6, some .int, { frames := 1, cells := 0, slots := 0, locals := 20 }, none)
theorem cw_Co_ring : Cond.code (jm_nm mY_Co_ring) (jm_cd mY_Co_ring) (jm_ml mY_Co_ring) (jm_rt mY_Co_ring) ∈ jm_tbl := jm_in (List.mem_of_getElem? (i := 513) (by decide +kernel)) rfl
theorem ok_Co_ring : jm_ok mY_Co_ring 1 := ⟨by decide, rfl, cw_Co_ring, ini_Co, by decide +kernel⟩
def mY_JI_bitCount : jm_Y := (⟨"java/lang/Integer", "bitCount", "(I)I"⟩, prog_12_method_49_code, 1, some .int, { frames := 0, cells := 0, slots := 0, locals := 0 }, none)
theorem cw_JI_bitCount : Cond.code (jm_nm mY_JI_bitCount) (jm_cd mY_JI_bitCount) (jm_ml mY_JI_bitCount) (jm_rt mY_JI_bitCount) ∈ jm_tbl := jm_in (List.mem_of_getElem? (i := 516) (by decide +kernel)) rfl
theorem ini_JI : Cond.initialized "java/lang/Integer" ∈ jm_tbl := jm_in (List.mem_of_getElem? (i := 72) (by decide +kernel)) rfl
theorem ok_JI_bitCount : jm_ok mY_JI_bitCount 1 := ⟨by decide, rfl, cw_JI_bitCount, ini_JI, by decide +kernel⟩
theorem k_JI_265 : Cond.constant "java/lang/Integer" 265 (1431655765 : Int32) ∈ jm_tbl := jm_in (List.mem_of_getElem? (i := 517) (by decide +kernel)) rfl
theorem k_JI_266 : Cond.constant "java/lang/Integer" 266 (858993459 : Int32) ∈ jm_tbl := jm_in (List.mem_of_getElem? (i := 518) (by decide +kernel)) rfl
theorem k_JI_267 : Cond.constant "java/lang/Integer" 267 (252645135 : Int32) ∈ jm_tbl := jm_in (List.mem_of_getElem? (i := 519) (by decide +kernel)) rfl
theorem cb_16 : (Int8.ofInt 16).toInt32 = (16 : Int32) := by decide
theorem l0_Co_ring__JI_bitCount : jm_l0 mY_Co_ring mY_JI_bitCount := ⟨⟨Nat.le_of_ble_eq_true rfl, Nat.le_of_ble_eq_true rfl⟩, rfl, rfl⟩
theorem ml_Co_58 : Cond.methodLink "LyingBeacons$Council" 58 ⟨"java/lang/Integer", "bitCount", "(I)I"⟩ ∈ jm_tbl := jm_in (List.mem_of_getElem? (i := 514) (by decide +kernel)) rfl
theorem sm_JI_bitCount : Cond.static ⟨"java/lang/Integer", "bitCount", "(I)I"⟩ ∈ jm_tbl := jm_in (List.mem_of_getElem? (i := 515) (by decide +kernel)) rfl
theorem l0_Co_isFooledBy__Co_ring : jm_l0 mY_Co_isFooledBy mY_Co_ring := ⟨⟨Nat.le_of_ble_eq_true rfl, Nat.le_of_ble_eq_true rfl⟩, rfl, rfl⟩
theorem l0_Co_isFooledBy__JI_bitCount : jm_l0 mY_Co_isFooledBy mY_JI_bitCount := ⟨⟨Nat.le_of_ble_eq_true rfl, Nat.le_of_ble_eq_true rfl⟩, rfl, rfl⟩
theorem ml_Co_63 : Cond.methodLink "LyingBeacons$Council" 63 ⟨"LyingBeacons$Council", "ring", "(I)I"⟩ ∈ jm_tbl := jm_in (List.mem_of_getElem? (i := 510) (by decide +kernel)) rfl
theorem im_Co_ring : Cond.instanceMethod ⟨"LyingBeacons$Council", "ring", "(I)I"⟩ ∈ jm_tbl := jm_in (List.mem_of_getElem? (i := 511) (by decide +kernel)) rfl
theorem se_Co_ring : Cond.selects "LyingBeacons$Council" ⟨"LyingBeacons$Council", "ring", "(I)I"⟩ ⟨"LyingBeacons$Council", "ring", "(I)I"⟩ ∈ jm_tbl := jm_in (List.mem_of_getElem? (i := 512) (by decide +kernel)) rfl
theorem l0_X_falseBy__Co_isFooledBy : jm_l0 mY_X_falseBy mY_Co_isFooledBy := ⟨⟨Nat.le_of_ble_eq_true rfl, Nat.le_of_ble_eq_true rfl⟩, rfl, rfl⟩
theorem ml_X_155 : Cond.methodLink "LyingBeacons" 155 ⟨"LyingBeacons$Council", "isFooledBy", "(I)Z"⟩ ∈ jm_tbl := jm_in (List.mem_of_getElem? (i := 506) (by decide +kernel)) rfl
theorem im_Co_isFooledBy : Cond.instanceMethod ⟨"LyingBeacons$Council", "isFooledBy", "(I)Z"⟩ ∈ jm_tbl := jm_in (List.mem_of_getElem? (i := 507) (by decide +kernel)) rfl
theorem se_Co_isFooledBy : Cond.selects "LyingBeacons$Council" ⟨"LyingBeacons$Council", "isFooledBy", "(I)Z"⟩ ⟨"LyingBeacons$Council", "isFooledBy", "(I)Z"⟩ ∈ jm_tbl := jm_in (List.mem_of_getElem? (i := 508) (by decide +kernel)) rfl
theorem ml_X_152 : Cond.methodLink "LyingBeacons" 152 ⟨"LyingBeacons$Council", "study", "(LLyingBeacons$Net;)V"⟩ ∈ jm_tbl := jm_in (List.mem_of_getElem? (i := 500) (by decide +kernel)) rfl
theorem im_Co_study : Cond.instanceMethod ⟨"LyingBeacons$Council", "study", "(LLyingBeacons$Net;)V"⟩ ∈ jm_tbl := jm_in (List.mem_of_getElem? (i := 501) (by decide +kernel)) rfl
theorem se_Co_study : Cond.selects "LyingBeacons$Council" ⟨"LyingBeacons$Council", "study", "(LLyingBeacons$Net;)V"⟩ ⟨"LyingBeacons$Council", "study", "(LLyingBeacons$Net;)V"⟩ ∈ jm_tbl := jm_in (List.mem_of_getElem? (i := 502) (by decide +kernel)) rfl
theorem ml_X_148 : Cond.methodLink "LyingBeacons" 148 ⟨"LyingBeacons$Net", "folk", "()I"⟩ ∈ jm_tbl := jm_in (List.mem_of_getElem? (i := 496) (by decide +kernel)) rfl
theorem l0_Law__X_falseBy (L : Nat) (xs : Nat → Int32) : jm_l0 (mY_Law L xs) mY_X_falseBy := ⟨⟨Nat.le_of_ble_eq_true rfl, Nat.le_of_ble_eq_true rfl⟩, rfl, rfl⟩
def mY_Z_falseBy : jm_Y := (⟨"LyingBeaconsModel", "falseBy", "(I)I"⟩, prog_11_method_42_code, 2, some .int, { frames := 4, cells := 0, slots := 0, locals := 92 }, none)
theorem cw_Z_falseBy : Cond.code (jm_nm mY_Z_falseBy) (jm_cd mY_Z_falseBy) (jm_ml mY_Z_falseBy) (jm_rt mY_Z_falseBy) ∈ jm_tbl := jm_in (List.mem_of_getElem? (i := 984) (by decide +kernel)) rfl
theorem ok_Z_falseBy : jm_ok mY_Z_falseBy 1 := ⟨by decide, rfl, cw_Z_falseBy, ini_Z, by decide +kernel⟩
def mY_Z_asTold : jm_Y := (⟨"LyingBeaconsModel", "asTold", "()V"⟩, prog_11_method_34_code, 2, none, { frames := 0, cells := 0, slots := 0, locals := 0 }, none)
theorem cw_Z_asTold : Cond.code (jm_nm mY_Z_asTold) (jm_cd mY_Z_asTold) (jm_ml mY_Z_asTold) (jm_rt mY_Z_asTold) ∈ jm_tbl := jm_in (List.mem_of_getElem? (i := 988) (by decide +kernel)) rfl
theorem ok_Z_asTold : jm_ok mY_Z_asTold 0 := ⟨by decide, rfl, cw_Z_asTold, ini_Z, by decide +kernel⟩
theorem fo_Z_171 : jm_fo "LyingBeaconsModel" 171 8 22 RX9 TX9 30 := ⟨inY9, rfl, by decide, jm_in (List.mem_of_getElem? (i := 782) (by decide +kernel)) rfl⟩
theorem fp_Z_171 : jm_fp "LyingBeaconsModel" 171 8 22 RX9 TX9 30 false .int := ⟨fo_Z_171, ⟨tyX9, tyX9_ok⟩, nmX9, rfl, by decide +kernel, fun h => by first | rfl | cases h⟩
theorem fo_Z_174 : jm_fo "LyingBeaconsModel" 174 8 23 RX9 TX9 30 := ⟨inY9, rfl, by decide, jm_in (List.mem_of_getElem? (i := 783) (by decide +kernel)) rfl⟩
theorem fp_Z_174 : jm_fp "LyingBeaconsModel" 174 8 23 RX9 TX9 30 false .int := ⟨fo_Z_174, ⟨tyX9, tyX9_ok⟩, nmX9, rfl, by decide +kernel, fun h => by first | rfl | cases h⟩
theorem fo_Z_177 : jm_fo "LyingBeaconsModel" 177 8 24 RX9 TX9 30 := ⟨inY9, rfl, by decide, jm_in (List.mem_of_getElem? (i := 784) (by decide +kernel)) rfl⟩
theorem fp_Z_177 : jm_fp "LyingBeaconsModel" 177 8 24 RX9 TX9 30 false .int := ⟨fo_Z_177, ⟨tyX9, tyX9_ok⟩, nmX9, rfl, by decide +kernel, fun h => by first | rfl | cases h⟩
theorem fo_Z_180 : jm_fo "LyingBeaconsModel" 180 8 25 RX9 TX9 30 := ⟨inY9, rfl, by decide, jm_in (List.mem_of_getElem? (i := 785) (by decide +kernel)) rfl⟩
theorem fp_Z_180 : jm_fp "LyingBeaconsModel" 180 8 25 RX9 TX9 30 false .int := ⟨fo_Z_180, ⟨tyX9, tyX9_ok⟩, nmX9, rfl, by decide +kernel, fun h => by first | rfl | cases h⟩
theorem fo_Z_183 : jm_fo "LyingBeaconsModel" 183 8 26 RX9 TX9 30 := ⟨inY9, rfl, by decide, jm_in (List.mem_of_getElem? (i := 786) (by decide +kernel)) rfl⟩
theorem fp_Z_183 : jm_fp "LyingBeaconsModel" 183 8 26 RX9 TX9 30 false .int := ⟨fo_Z_183, ⟨tyX9, tyX9_ok⟩, nmX9, rfl, by decide +kernel, fun h => by first | rfl | cases h⟩
theorem l0_Z_falseBy__Z_asTold : jm_l0 mY_Z_falseBy mY_Z_asTold := ⟨⟨Nat.le_of_ble_eq_true rfl, Nat.le_of_ble_eq_true rfl⟩, rfl, rfl⟩
def mY_Z_men : jm_Y := (⟨"LyingBeaconsModel", "men", "()I"⟩, prog_11_method_40_code, 1, some .int, { frames := 1, cells := 0, slots := 0, locals := 23 }, none)
theorem cw_Z_men : Cond.code (jm_nm mY_Z_men) (jm_cd mY_Z_men) (jm_ml mY_Z_men) (jm_rt mY_Z_men) ∈ jm_tbl := jm_in (List.mem_of_getElem? (i := 992) (by decide +kernel)) rfl
theorem ok_Z_men : jm_ok mY_Z_men 0 := ⟨by decide, rfl, cw_Z_men, ini_Z, by decide +kernel⟩
theorem l0_Z_men__Z_ofKind : jm_l0 mY_Z_men mY_Z_ofKind := ⟨⟨Nat.le_of_ble_eq_true rfl, Nat.le_of_ble_eq_true rfl⟩, rfl, rfl⟩
theorem l0_Z_falseBy__Z_men : jm_l0 mY_Z_falseBy mY_Z_men := ⟨⟨Nat.le_of_ble_eq_true rfl, Nat.le_of_ble_eq_true rfl⟩, rfl, rfl⟩
theorem l0_Z_falseBy__Z_ear : jm_l0 mY_Z_falseBy mY_Z_ear := ⟨⟨Nat.le_of_ble_eq_true rfl, Nat.le_of_ble_eq_true rfl⟩, rfl, rfl⟩
def mY_Z_isFalse : jm_Y := (⟨"LyingBeaconsModel", "isFalse", "(I)Z"⟩, prog_11_method_41_code, 2, some .boolean, { frames := 3, cells := 0, slots := 0, locals := 71 }, none)
theorem cw_Z_isFalse : Cond.code (jm_nm mY_Z_isFalse) (jm_cd mY_Z_isFalse) (jm_ml mY_Z_isFalse) (jm_rt mY_Z_isFalse) ∈ jm_tbl := jm_in (List.mem_of_getElem? (i := 996) (by decide +kernel)) rfl
theorem ok_Z_isFalse : jm_ok mY_Z_isFalse 1 := ⟨by decide, rfl, cw_Z_isFalse, ini_Z, by decide +kernel⟩
def mY_Z_kindle : jm_Y := (⟨"LyingBeaconsModel", "kindle", "(II)V"⟩, prog_11_method_39_code, 4, none, { frames := 1, cells := 0, slots := 0, locals := 21 }, none)
theorem cw_Z_kindle : Cond.code (jm_nm mY_Z_kindle) (jm_cd mY_Z_kindle) (jm_ml mY_Z_kindle) (jm_rt mY_Z_kindle) ∈ jm_tbl := jm_in (List.mem_of_getElem? (i := 1000) (by decide +kernel)) rfl
theorem ok_Z_kindle : jm_ok mY_Z_kindle 2 := ⟨by decide, rfl, cw_Z_kindle, ini_Z, by decide +kernel⟩
theorem mr_154_59_27 : mr_154 59 27 = some 76 := by decide
theorem l0_Z_kindle__Z_has : jm_l0 mY_Z_kindle mY_Z_has := ⟨⟨Nat.le_of_ble_eq_true rfl, Nat.le_of_ble_eq_true rfl⟩, rfl, rfl⟩
theorem k_Z_186 : Cond.constant "LyingBeaconsModel" 186 (1000000 : Int32) ∈ jm_tbl := jm_in (List.mem_of_getElem? (i := 1001) (by decide +kernel)) rfl
theorem le_76_78 : 76 ≤ 78 := by decide
theorem l0_Z_isFalse__Z_kindle : jm_l0 mY_Z_isFalse mY_Z_kindle := ⟨⟨Nat.le_of_ble_eq_true rfl, Nat.le_of_ble_eq_true rfl⟩, rfl, rfl⟩
def mY_Z_spread : jm_Y := (⟨"LyingBeaconsModel", "spread", "(I)V"⟩, prog_11_method_38_code, 6, none, { frames := 2, cells := 0, slots := 0, locals := 46 }, none)
theorem cw_Z_spread : Cond.code (jm_nm mY_Z_spread) (jm_cd mY_Z_spread) (jm_ml mY_Z_spread) (jm_rt mY_Z_spread) ∈ jm_tbl := jm_in (List.mem_of_getElem? (i := 1005) (by decide +kernel)) rfl
theorem ok_Z_spread : jm_ok mY_Z_spread 1 := ⟨by decide, rfl, cw_Z_spread, ini_Z, by decide +kernel⟩
theorem l0_Z_spread__Z_has : jm_l0 mY_Z_spread mY_Z_has := ⟨⟨Nat.le_of_ble_eq_true rfl, Nat.le_of_ble_eq_true rfl⟩, rfl, rfl⟩
def mY_Z_takes : jm_Y := (⟨"LyingBeaconsModel", "takes", "(I)I"⟩, prog_11_method_36_code, 2, some .int, { frames := 0, cells := 0, slots := 0, locals := 0 }, none)
theorem cw_Z_takes : Cond.code (jm_nm mY_Z_takes) (jm_cd mY_Z_takes) (jm_ml mY_Z_takes) (jm_rt mY_Z_takes) ∈ jm_tbl := jm_in (List.mem_of_getElem? (i := 1017) (by decide +kernel)) rfl
theorem ok_Z_takes : jm_ok mY_Z_takes 1 := ⟨by decide, rfl, cw_Z_takes, ini_Z, by decide +kernel⟩
theorem l0_Z_spread__Z_takes : jm_l0 mY_Z_spread mY_Z_takes := ⟨⟨Nat.le_of_ble_eq_true rfl, Nat.le_of_ble_eq_true rfl⟩, rfl, rfl⟩
theorem ml_Z_193 : Cond.methodLink "LyingBeaconsModel" 193 ⟨"LyingBeaconsModel", "takes", "(I)I"⟩ ∈ jm_tbl := jm_in (List.mem_of_getElem? (i := 1014) (by decide +kernel)) rfl
theorem im_Z_takes : Cond.instanceMethod ⟨"LyingBeaconsModel", "takes", "(I)I"⟩ ∈ jm_tbl := jm_in (List.mem_of_getElem? (i := 1016) (by decide +kernel)) rfl
theorem se_Z_takes : Cond.selects "LyingBeaconsModel" ⟨"LyingBeaconsModel", "takes", "(I)I"⟩ ⟨"LyingBeaconsModel", "takes", "(I)I"⟩ ∈ jm_tbl := jm_in (List.mem_of_getElem? (i := 50) (by decide +kernel)) rfl
def mY_Z_together : jm_Y := (⟨"LyingBeaconsModel", "together", "(I)I"⟩, prog_11_method_37_code, 6, some .int, { frames := 1, cells := 0, slots := 0, locals := 21 }, none)
theorem cw_Z_together : Cond.code (jm_nm mY_Z_together) (jm_cd mY_Z_together) (jm_ml mY_Z_together) (jm_rt mY_Z_together) ∈ jm_tbl := jm_in (List.mem_of_getElem? (i := 1009) (by decide +kernel)) rfl
theorem ok_Z_together : jm_ok mY_Z_together 1 := ⟨by decide, rfl, cw_Z_together, ini_Z, by decide +kernel⟩
def mY_Z_needs : jm_Y := (⟨"LyingBeaconsModel", "needs", "(I)I"⟩, prog_11_method_35_code, 2, some .int, { frames := 0, cells := 0, slots := 0, locals := 0 }, none)
theorem cw_Z_needs : Cond.code (jm_nm mY_Z_needs) (jm_cd mY_Z_needs) (jm_ml mY_Z_needs) (jm_rt mY_Z_needs) ∈ jm_tbl := jm_in (List.mem_of_getElem? (i := 1013) (by decide +kernel)) rfl
theorem ok_Z_needs : jm_ok mY_Z_needs 1 := ⟨by decide, rfl, cw_Z_needs, ini_Z, by decide +kernel⟩
theorem l0_Z_together__Z_needs : jm_l0 mY_Z_together mY_Z_needs := ⟨⟨Nat.le_of_ble_eq_true rfl, Nat.le_of_ble_eq_true rfl⟩, rfl, rfl⟩
theorem mr_154_59_28 : mr_154 59 28 = some 77 := by decide
theorem le_77_78 : 77 ≤ 78 := by decide
theorem ml_Z_187 : Cond.methodLink "LyingBeaconsModel" 187 ⟨"LyingBeaconsModel", "needs", "(I)I"⟩ ∈ jm_tbl := jm_in (List.mem_of_getElem? (i := 1010) (by decide +kernel)) rfl
theorem im_Z_needs : Cond.instanceMethod ⟨"LyingBeaconsModel", "needs", "(I)I"⟩ ∈ jm_tbl := jm_in (List.mem_of_getElem? (i := 1012) (by decide +kernel)) rfl
theorem se_Z_needs : Cond.selects "LyingBeaconsModel" ⟨"LyingBeaconsModel", "needs", "(I)I"⟩ ⟨"LyingBeaconsModel", "needs", "(I)I"⟩ ∈ jm_tbl := jm_in (List.mem_of_getElem? (i := 49) (by decide +kernel)) rfl
theorem l0_Z_together__Z_has : jm_l0 mY_Z_together mY_Z_has := ⟨⟨Nat.le_of_ble_eq_true rfl, Nat.le_of_ble_eq_true rfl⟩, rfl, rfl⟩
theorem l0_Z_spread__Z_together : jm_l0 mY_Z_spread mY_Z_together := ⟨⟨Nat.le_of_ble_eq_true rfl, Nat.le_of_ble_eq_true rfl⟩, rfl, rfl⟩
theorem ml_Z_190 : Cond.methodLink "LyingBeaconsModel" 190 ⟨"LyingBeaconsModel", "together", "(I)I"⟩ ∈ jm_tbl := jm_in (List.mem_of_getElem? (i := 1006) (by decide +kernel)) rfl
theorem im_Z_together : Cond.instanceMethod ⟨"LyingBeaconsModel", "together", "(I)I"⟩ ∈ jm_tbl := jm_in (List.mem_of_getElem? (i := 1008) (by decide +kernel)) rfl
theorem se_Z_together : Cond.selects "LyingBeaconsModel" ⟨"LyingBeaconsModel", "together", "(I)I"⟩ ⟨"LyingBeaconsModel", "together", "(I)I"⟩ ∈ jm_tbl := jm_in (List.mem_of_getElem? (i := 48) (by decide +kernel)) rfl
theorem l0_Z_isFalse__Z_spread : jm_l0 mY_Z_isFalse mY_Z_spread := ⟨⟨Nat.le_of_ble_eq_true rfl, Nat.le_of_ble_eq_true rfl⟩, rfl, rfl⟩
theorem l0_Z_isFalse__Z_ear : jm_l0 mY_Z_isFalse mY_Z_ear := ⟨⟨Nat.le_of_ble_eq_true rfl, Nat.le_of_ble_eq_true rfl⟩, rfl, rfl⟩
theorem l0_Z_isFalse__Z_together : jm_l0 mY_Z_isFalse mY_Z_together := ⟨⟨Nat.le_of_ble_eq_true rfl, Nat.le_of_ble_eq_true rfl⟩, rfl, rfl⟩
theorem ml_Z_199 : Cond.methodLink "LyingBeaconsModel" 199 ⟨"LyingBeaconsModel", "spread", "(I)V"⟩ ∈ jm_tbl := jm_in (List.mem_of_getElem? (i := 1002) (by decide +kernel)) rfl
theorem im_Z_spread : Cond.instanceMethod ⟨"LyingBeaconsModel", "spread", "(I)V"⟩ ∈ jm_tbl := jm_in (List.mem_of_getElem? (i := 1004) (by decide +kernel)) rfl
theorem se_Z_spread : Cond.selects "LyingBeaconsModel" ⟨"LyingBeaconsModel", "spread", "(I)V"⟩ ⟨"LyingBeaconsModel", "spread", "(I)V"⟩ ∈ jm_tbl := jm_in (List.mem_of_getElem? (i := 47) (by decide +kernel)) rfl
theorem ml_Z_196 : Cond.methodLink "LyingBeaconsModel" 196 ⟨"LyingBeaconsModel", "kindle", "(II)V"⟩ ∈ jm_tbl := jm_in (List.mem_of_getElem? (i := 997) (by decide +kernel)) rfl
theorem im_Z_kindle : Cond.instanceMethod ⟨"LyingBeaconsModel", "kindle", "(II)V"⟩ ∈ jm_tbl := jm_in (List.mem_of_getElem? (i := 999) (by decide +kernel)) rfl
theorem se_Z_kindle : Cond.selects "LyingBeaconsModel" ⟨"LyingBeaconsModel", "kindle", "(II)V"⟩ ⟨"LyingBeaconsModel", "kindle", "(II)V"⟩ ∈ jm_tbl := jm_in (List.mem_of_getElem? (i := 46) (by decide +kernel)) rfl
theorem l0_Z_falseBy__Z_isFalse : jm_l0 mY_Z_falseBy mY_Z_isFalse := ⟨⟨Nat.le_of_ble_eq_true rfl, Nat.le_of_ble_eq_true rfl⟩, rfl, rfl⟩
theorem ml_Z_209 : Cond.methodLink "LyingBeaconsModel" 209 ⟨"LyingBeaconsModel", "isFalse", "(I)Z"⟩ ∈ jm_tbl := jm_in (List.mem_of_getElem? (i := 993) (by decide +kernel)) rfl
theorem im_Z_isFalse : Cond.instanceMethod ⟨"LyingBeaconsModel", "isFalse", "(I)Z"⟩ ∈ jm_tbl := jm_in (List.mem_of_getElem? (i := 995) (by decide +kernel)) rfl
theorem se_Z_isFalse : Cond.selects "LyingBeaconsModel" ⟨"LyingBeaconsModel", "isFalse", "(I)Z"⟩ ⟨"LyingBeaconsModel", "isFalse", "(I)Z"⟩ ∈ jm_tbl := jm_in (List.mem_of_getElem? (i := 45) (by decide +kernel)) rfl
theorem ml_Z_206 : Cond.methodLink "LyingBeaconsModel" 206 ⟨"LyingBeaconsModel", "men", "()I"⟩ ∈ jm_tbl := jm_in (List.mem_of_getElem? (i := 989) (by decide +kernel)) rfl
theorem im_Z_men : Cond.instanceMethod ⟨"LyingBeaconsModel", "men", "()I"⟩ ∈ jm_tbl := jm_in (List.mem_of_getElem? (i := 991) (by decide +kernel)) rfl
theorem se_Z_men : Cond.selects "LyingBeaconsModel" ⟨"LyingBeaconsModel", "men", "()I"⟩ ⟨"LyingBeaconsModel", "men", "()I"⟩ ∈ jm_tbl := jm_in (List.mem_of_getElem? (i := 44) (by decide +kernel)) rfl
theorem ml_Z_203 : Cond.methodLink "LyingBeaconsModel" 203 ⟨"LyingBeaconsModel", "asTold", "()V"⟩ ∈ jm_tbl := jm_in (List.mem_of_getElem? (i := 985) (by decide +kernel)) rfl
theorem im_Z_asTold : Cond.instanceMethod ⟨"LyingBeaconsModel", "asTold", "()V"⟩ ∈ jm_tbl := jm_in (List.mem_of_getElem? (i := 987) (by decide +kernel)) rfl
theorem se_Z_asTold : Cond.selects "LyingBeaconsModel" ⟨"LyingBeaconsModel", "asTold", "()V"⟩ ⟨"LyingBeaconsModel", "asTold", "()V"⟩ ∈ jm_tbl := jm_in (List.mem_of_getElem? (i := 43) (by decide +kernel)) rfl
theorem l0_Law__Z_falseBy (L : Nat) (xs : Nat → Int32) : jm_l0 (mY_Law L xs) mY_Z_falseBy := ⟨⟨Nat.le_of_ble_eq_true rfl, Nat.le_of_ble_eq_true rfl⟩, rfl, rfl⟩
theorem ml_Law_63 : Cond.methodLink "LyingBeaconsLaw" 63 ⟨"LyingBeaconsModel", "falseBy", "(I)I"⟩ ∈ jm_tbl := jm_in (List.mem_of_getElem? (i := 981) (by decide +kernel)) rfl
theorem im_Z_falseBy : Cond.instanceMethod ⟨"LyingBeaconsModel", "falseBy", "(I)I"⟩ ∈ jm_tbl := jm_in (List.mem_of_getElem? (i := 982) (by decide +kernel)) rfl
theorem se_Z_falseBy : Cond.selects "LyingBeaconsModel" ⟨"LyingBeaconsModel", "falseBy", "(I)I"⟩ ⟨"LyingBeaconsModel", "falseBy", "(I)I"⟩ ∈ jm_tbl := jm_in (List.mem_of_getElem? (i := 983) (by decide +kernel)) rfl
theorem ml_Law_60 : Cond.methodLink "LyingBeaconsLaw" 60 ⟨"LyingBeacons", "falseBy", "(I)I"⟩ ∈ jm_tbl := jm_in (List.mem_of_getElem? (i := 492) (by decide +kernel)) rfl
theorem im_X_falseBy : Cond.instanceMethod ⟨"LyingBeacons", "falseBy", "(I)I"⟩ ∈ jm_tbl := jm_in (List.mem_of_getElem? (i := 493) (by decide +kernel)) rfl
theorem se_X_falseBy : Cond.selects "LyingBeacons" ⟨"LyingBeacons", "falseBy", "(I)I"⟩ ⟨"LyingBeacons", "falseBy", "(I)I"⟩ ∈ jm_tbl := jm_in (List.mem_of_getElem? (i := 494) (by decide +kernel)) rfl
def mY_X_falseFor : jm_Y := (⟨"LyingBeacons", "falseFor", "(II)I"⟩, prog_1_method_13_code, 4, some .int, { frames := 4, cells := 0, slots := 0, locals := 90 }, none)
theorem cw_X_falseFor : Cond.code (jm_nm mY_X_falseFor) (jm_cd mY_X_falseFor) (jm_ml mY_X_falseFor) (jm_rt mY_X_falseFor) ∈ jm_tbl := jm_in (List.mem_of_getElem? (i := 523) (by decide +kernel)) rfl
theorem ok_X_falseFor : jm_ok mY_X_falseFor 2 := ⟨by decide, rfl, cw_X_falseFor, ini_X, by decide +kernel⟩
def mY_X_isNumberOfLiars : jm_Y := (⟨"LyingBeacons", "isNumberOfLiars", "(I)Z"⟩, prog_1_method_32_code, 1, some .boolean, { frames := 0, cells := 0, slots := 0, locals := 0 }, none)
theorem cw_X_isNumberOfLiars : Cond.code (jm_nm mY_X_isNumberOfLiars) (jm_cd mY_X_isNumberOfLiars) (jm_ml mY_X_isNumberOfLiars) (jm_rt mY_X_isNumberOfLiars) ∈ jm_tbl := jm_in (List.mem_of_getElem? (i := 526) (by decide +kernel)) rfl
theorem ok_X_isNumberOfLiars : jm_ok mY_X_isNumberOfLiars 1 := ⟨by decide, rfl, cw_X_isNumberOfLiars, ini_X, by decide +kernel⟩
theorem l0_X_falseFor__X_isNumberOfLiars : jm_l0 mY_X_falseFor mY_X_isNumberOfLiars := ⟨⟨Nat.le_of_ble_eq_true rfl, Nat.le_of_ble_eq_true rfl⟩, rfl, rfl⟩
theorem l0_X_falseFor__Ne_hasEar : jm_l0 mY_X_falseFor mY_Ne_hasEar := ⟨⟨Nat.le_of_ble_eq_true rfl, Nat.le_of_ble_eq_true rfl⟩, rfl, rfl⟩
theorem l0_X_falseFor__Co_study : jm_l0 mY_X_falseFor mY_Co_study := ⟨⟨Nat.le_of_ble_eq_true rfl, Nat.le_of_ble_eq_true rfl⟩, rfl, rfl⟩
def mY_Co_leastFoolingSet : jm_Y := (⟨"LyingBeacons$Council", "leastFoolingSet", "(I)I"⟩, prog_2_method_6_code, 4, some .int, { frames := 3, cells := 0, slots := 0, locals := 66 }, none)
theorem cw_Co_leastFoolingSet : Cond.code (jm_nm mY_Co_leastFoolingSet) (jm_cd mY_Co_leastFoolingSet) (jm_ml mY_Co_leastFoolingSet) (jm_rt mY_Co_leastFoolingSet) ∈ jm_tbl := jm_in (List.mem_of_getElem? (i := 538) (by decide +kernel)) rfl
theorem ok_Co_leastFoolingSet : jm_ok mY_Co_leastFoolingSet 1 := ⟨by decide, rfl, cw_Co_leastFoolingSet, ini_Co, by decide +kernel⟩
theorem cs_1024 : (Int16.ofInt 1024).toInt32 = (1024 : Int32) := by decide
theorem l0_Co_leastFoolingSet__JI_bitCount : jm_l0 mY_Co_leastFoolingSet mY_JI_bitCount := ⟨⟨Nat.le_of_ble_eq_true rfl, Nat.le_of_ble_eq_true rfl⟩, rfl, rfl⟩
def mY_Co_nextSet : jm_Y := (⟨"LyingBeacons$Council", "nextSet", "(II)I"⟩, prog_2_method_7_code, 2, some .int, { frames := 0, cells := 0, slots := 0, locals := 0 }, none)
theorem cw_Co_nextSet : Cond.code (jm_nm mY_Co_nextSet) (jm_cd mY_Co_nextSet) (jm_ml mY_Co_nextSet) (jm_rt mY_Co_nextSet) ∈ jm_tbl := jm_in (List.mem_of_getElem? (i := 534) (by decide +kernel)) rfl
theorem ok_Co_nextSet : jm_ok mY_Co_nextSet 2 := ⟨by decide, rfl, cw_Co_nextSet, ini_Co, by decide +kernel⟩
theorem l0_Co_leastFoolingSet__Co_nextSet : jm_l0 mY_Co_leastFoolingSet mY_Co_nextSet := ⟨⟨Nat.le_of_ble_eq_true rfl, Nat.le_of_ble_eq_true rfl⟩, rfl, rfl⟩
theorem ml_Co_70 : Cond.methodLink "LyingBeacons$Council" 70 ⟨"LyingBeacons$Council", "nextSet", "(II)I"⟩ ∈ jm_tbl := jm_in (List.mem_of_getElem? (i := 532) (by decide +kernel)) rfl
theorem sm_Co_nextSet : Cond.static ⟨"LyingBeacons$Council", "nextSet", "(II)I"⟩ ∈ jm_tbl := jm_in (List.mem_of_getElem? (i := 533) (by decide +kernel)) rfl
theorem l0_Co_leastFoolingSet__Co_isFooledBy : jm_l0 mY_Co_leastFoolingSet mY_Co_isFooledBy := ⟨⟨Nat.le_of_ble_eq_true rfl, Nat.le_of_ble_eq_true rfl⟩, rfl, rfl⟩
theorem ml_Co_66 : Cond.methodLink "LyingBeacons$Council" 66 ⟨"LyingBeacons$Council", "isFooledBy", "(I)Z"⟩ ∈ jm_tbl := jm_in (List.mem_of_getElem? (i := 531) (by decide +kernel)) rfl
theorem l0_X_falseFor__Co_leastFoolingSet : jm_l0 mY_X_falseFor mY_Co_leastFoolingSet := ⟨⟨Nat.le_of_ble_eq_true rfl, Nat.le_of_ble_eq_true rfl⟩, rfl, rfl⟩
theorem l0_X_falseFor__Co_ring : jm_l0 mY_X_falseFor mY_Co_ring := ⟨⟨Nat.le_of_ble_eq_true rfl, Nat.le_of_ble_eq_true rfl⟩, rfl, rfl⟩
theorem ml_X_167 : Cond.methodLink "LyingBeacons" 167 ⟨"LyingBeacons$Council", "ring", "(I)I"⟩ ∈ jm_tbl := jm_in (List.mem_of_getElem? (i := 539) (by decide +kernel)) rfl
theorem ml_X_164 : Cond.methodLink "LyingBeacons" 164 ⟨"LyingBeacons$Council", "leastFoolingSet", "(I)I"⟩ ∈ jm_tbl := jm_in (List.mem_of_getElem? (i := 535) (by decide +kernel)) rfl
theorem im_Co_leastFoolingSet : Cond.instanceMethod ⟨"LyingBeacons$Council", "leastFoolingSet", "(I)I"⟩ ∈ jm_tbl := jm_in (List.mem_of_getElem? (i := 536) (by decide +kernel)) rfl
theorem se_Co_leastFoolingSet : Cond.selects "LyingBeacons$Council" ⟨"LyingBeacons$Council", "leastFoolingSet", "(I)I"⟩ ⟨"LyingBeacons$Council", "leastFoolingSet", "(I)I"⟩ ∈ jm_tbl := jm_in (List.mem_of_getElem? (i := 537) (by decide +kernel)) rfl
def mY_Co_foolingSets : jm_Y := (⟨"LyingBeacons$Council", "foolingSets", "(I)I"⟩, prog_2_method_5_code, 5, some .int, { frames := 3, cells := 0, slots := 0, locals := 66 }, none)
theorem cw_Co_foolingSets : Cond.code (jm_nm mY_Co_foolingSets) (jm_cd mY_Co_foolingSets) (jm_ml mY_Co_foolingSets) (jm_rt mY_Co_foolingSets) ∈ jm_tbl := jm_in (List.mem_of_getElem? (i := 530) (by decide +kernel)) rfl
theorem ok_Co_foolingSets : jm_ok mY_Co_foolingSets 1 := ⟨by decide, rfl, cw_Co_foolingSets, ini_Co, by decide +kernel⟩
theorem l0_Co_foolingSets__JI_bitCount : jm_l0 mY_Co_foolingSets mY_JI_bitCount := ⟨⟨Nat.le_of_ble_eq_true rfl, Nat.le_of_ble_eq_true rfl⟩, rfl, rfl⟩
theorem l0_Co_foolingSets__Co_nextSet : jm_l0 mY_Co_foolingSets mY_Co_nextSet := ⟨⟨Nat.le_of_ble_eq_true rfl, Nat.le_of_ble_eq_true rfl⟩, rfl, rfl⟩
theorem l0_Co_foolingSets__Co_isFooledBy : jm_l0 mY_Co_foolingSets mY_Co_isFooledBy := ⟨⟨Nat.le_of_ble_eq_true rfl, Nat.le_of_ble_eq_true rfl⟩, rfl, rfl⟩
theorem l0_X_falseFor__Co_foolingSets : jm_l0 mY_X_falseFor mY_Co_foolingSets := ⟨⟨Nat.le_of_ble_eq_true rfl, Nat.le_of_ble_eq_true rfl⟩, rfl, rfl⟩
theorem ml_X_161 : Cond.methodLink "LyingBeacons" 161 ⟨"LyingBeacons$Council", "foolingSets", "(I)I"⟩ ∈ jm_tbl := jm_in (List.mem_of_getElem? (i := 527) (by decide +kernel)) rfl
theorem im_Co_foolingSets : Cond.instanceMethod ⟨"LyingBeacons$Council", "foolingSets", "(I)I"⟩ ∈ jm_tbl := jm_in (List.mem_of_getElem? (i := 528) (by decide +kernel)) rfl
theorem se_Co_foolingSets : Cond.selects "LyingBeacons$Council" ⟨"LyingBeacons$Council", "foolingSets", "(I)I"⟩ ⟨"LyingBeacons$Council", "foolingSets", "(I)I"⟩ ∈ jm_tbl := jm_in (List.mem_of_getElem? (i := 529) (by decide +kernel)) rfl
theorem ml_X_158 : Cond.methodLink "LyingBeacons" 158 ⟨"LyingBeacons", "isNumberOfLiars", "(I)Z"⟩ ∈ jm_tbl := jm_in (List.mem_of_getElem? (i := 524) (by decide +kernel)) rfl
theorem sm_X_isNumberOfLiars : Cond.static ⟨"LyingBeacons", "isNumberOfLiars", "(I)Z"⟩ ∈ jm_tbl := jm_in (List.mem_of_getElem? (i := 525) (by decide +kernel)) rfl
theorem l0_Law__X_falseFor (L : Nat) (xs : Nat → Int32) : jm_l0 (mY_Law L xs) mY_X_falseFor := ⟨⟨Nat.le_of_ble_eq_true rfl, Nat.le_of_ble_eq_true rfl⟩, rfl, rfl⟩
def mY_Z_falseFor : jm_Y := (⟨"LyingBeaconsModel", "falseFor", "(II)I"⟩, prog_11_method_43_code, 7, some .int, { frames := 4, cells := 0, slots := 0, locals := 92 }, none)
theorem cw_Z_falseFor : Cond.code (jm_nm mY_Z_falseFor) (jm_cd mY_Z_falseFor) (jm_ml mY_Z_falseFor) (jm_rt mY_Z_falseFor) ∈ jm_tbl := jm_in (List.mem_of_getElem? (i := 1021) (by decide +kernel)) rfl
theorem ok_Z_falseFor : jm_ok mY_Z_falseFor 2 := ⟨by decide, rfl, cw_Z_falseFor, ini_Z, by decide +kernel⟩
theorem l0_Z_falseFor__Z_in : jm_l0 mY_Z_falseFor mY_Z_in := ⟨⟨Nat.le_of_ble_eq_true rfl, Nat.le_of_ble_eq_true rfl⟩, rfl, rfl⟩
theorem l0_Z_falseFor__Z_ear : jm_l0 mY_Z_falseFor mY_Z_ear := ⟨⟨Nat.le_of_ble_eq_true rfl, Nat.le_of_ble_eq_true rfl⟩, rfl, rfl⟩
theorem l0_Z_falseFor__Z_asTold : jm_l0 mY_Z_falseFor mY_Z_asTold := ⟨⟨Nat.le_of_ble_eq_true rfl, Nat.le_of_ble_eq_true rfl⟩, rfl, rfl⟩
theorem l0_Z_falseFor__Z_isFalse : jm_l0 mY_Z_falseFor mY_Z_isFalse := ⟨⟨Nat.le_of_ble_eq_true rfl, Nat.le_of_ble_eq_true rfl⟩, rfl, rfl⟩
theorem l0_Z_falseFor__Z_men : jm_l0 mY_Z_falseFor mY_Z_men := ⟨⟨Nat.le_of_ble_eq_true rfl, Nat.le_of_ble_eq_true rfl⟩, rfl, rfl⟩
def mY_Z_bits : jm_Y := (⟨"LyingBeaconsModel", "bits", "(I)I"⟩, prog_11_method_4_code, 3, some .int, { frames := 0, cells := 0, slots := 0, locals := 0 }, none)
theorem cw_Z_bits : Cond.code (jm_nm mY_Z_bits) (jm_cd mY_Z_bits) (jm_ml mY_Z_bits) (jm_rt mY_Z_bits) ∈ jm_tbl := jm_in (List.mem_of_getElem? (i := 1024) (by decide +kernel)) rfl
theorem ok_Z_bits : jm_ok mY_Z_bits 1 := ⟨by decide, rfl, cw_Z_bits, ini_Z, by decide +kernel⟩
theorem l0_Z_falseFor__Z_bits : jm_l0 mY_Z_falseFor mY_Z_bits := ⟨⟨Nat.le_of_ble_eq_true rfl, Nat.le_of_ble_eq_true rfl⟩, rfl, rfl⟩
theorem ml_Z_212 : Cond.methodLink "LyingBeaconsModel" 212 ⟨"LyingBeaconsModel", "bits", "(I)I"⟩ ∈ jm_tbl := jm_in (List.mem_of_getElem? (i := 1022) (by decide +kernel)) rfl
theorem sm_Z_bits : Cond.static ⟨"LyingBeaconsModel", "bits", "(I)I"⟩ ∈ jm_tbl := jm_in (List.mem_of_getElem? (i := 1023) (by decide +kernel)) rfl
theorem l0_Law__Z_falseFor (L : Nat) (xs : Nat → Int32) : jm_l0 (mY_Law L xs) mY_Z_falseFor := ⟨⟨Nat.le_of_ble_eq_true rfl, Nat.le_of_ble_eq_true rfl⟩, rfl, rfl⟩
theorem ml_Law_67 : Cond.methodLink "LyingBeaconsLaw" 67 ⟨"LyingBeaconsModel", "falseFor", "(II)I"⟩ ∈ jm_tbl := jm_in (List.mem_of_getElem? (i := 1018) (by decide +kernel)) rfl
theorem im_Z_falseFor : Cond.instanceMethod ⟨"LyingBeaconsModel", "falseFor", "(II)I"⟩ ∈ jm_tbl := jm_in (List.mem_of_getElem? (i := 1019) (by decide +kernel)) rfl
theorem se_Z_falseFor : Cond.selects "LyingBeaconsModel" ⟨"LyingBeaconsModel", "falseFor", "(II)I"⟩ ⟨"LyingBeaconsModel", "falseFor", "(II)I"⟩ ∈ jm_tbl := jm_in (List.mem_of_getElem? (i := 1020) (by decide +kernel)) rfl
theorem ml_Law_64 : Cond.methodLink "LyingBeaconsLaw" 64 ⟨"LyingBeacons", "falseFor", "(II)I"⟩ ∈ jm_tbl := jm_in (List.mem_of_getElem? (i := 520) (by decide +kernel)) rfl
theorem im_X_falseFor : Cond.instanceMethod ⟨"LyingBeacons", "falseFor", "(II)I"⟩ ∈ jm_tbl := jm_in (List.mem_of_getElem? (i := 521) (by decide +kernel)) rfl
theorem se_X_falseFor : Cond.selects "LyingBeacons" ⟨"LyingBeacons", "falseFor", "(II)I"⟩ ⟨"LyingBeacons", "falseFor", "(II)I"⟩ ∈ jm_tbl := jm_in (List.mem_of_getElem? (i := 522) (by decide +kernel)) rfl
def mY_X_trueBy : jm_Y := (⟨"LyingBeacons", "trueBy", "(II)I"⟩, prog_1_method_14_code, 3, some .int, { frames := 4, cells := 0, slots := 0, locals := 93 }, none)
theorem cw_X_trueBy : Cond.code (jm_nm mY_X_trueBy) (jm_cd mY_X_trueBy) (jm_ml mY_X_trueBy) (jm_rt mY_X_trueBy) ∈ jm_tbl := jm_in (List.mem_of_getElem? (i := 543) (by decide +kernel)) rfl
theorem ok_X_trueBy : jm_ok mY_X_trueBy 2 := ⟨by decide, rfl, cw_X_trueBy, ini_X, by decide +kernel⟩
theorem l0_X_trueBy__Ne_isHill : jm_l0 mY_X_trueBy mY_Ne_isHill := ⟨⟨Nat.le_of_ble_eq_true rfl, Nat.le_of_ble_eq_true rfl⟩, rfl, rfl⟩
theorem l0_X_trueBy__Ne_folk : jm_l0 mY_X_trueBy mY_Ne_folk := ⟨⟨Nat.le_of_ble_eq_true rfl, Nat.le_of_ble_eq_true rfl⟩, rfl, rfl⟩
theorem l0_X_trueBy__Ne_hasEar : jm_l0 mY_X_trueBy mY_Ne_hasEar := ⟨⟨Nat.le_of_ble_eq_true rfl, Nat.le_of_ble_eq_true rfl⟩, rfl, rfl⟩
theorem l0_X_trueBy__Co_study : jm_l0 mY_X_trueBy mY_Co_study := ⟨⟨Nat.le_of_ble_eq_true rfl, Nat.le_of_ble_eq_true rfl⟩, rfl, rfl⟩
def mY_Co_trueMinute : jm_Y := (⟨"LyingBeacons$Council", "trueMinute", "(II)I"⟩, prog_2_method_8_code, 3, some .int, { frames := 3, cells := 0, slots := 0, locals := 71 }, none)
theorem cw_Co_trueMinute : Cond.code (jm_nm mY_Co_trueMinute) (jm_cd mY_Co_trueMinute) (jm_ml mY_Co_trueMinute) (jm_rt mY_Co_trueMinute) ∈ jm_tbl := jm_in (List.mem_of_getElem? (i := 547) (by decide +kernel)) rfl
theorem ok_Co_trueMinute : jm_ok mY_Co_trueMinute 2 := ⟨by decide, rfl, cw_Co_trueMinute, ini_Co, by decide +kernel⟩
def mY_Co_spread : jm_Y := (⟨"LyingBeacons$Council", "spread", "(III)I"⟩, prog_2_method_11_code, 9, some .int, { frames := 2, cells := 0, slots := 0, locals := 43 }, none)
theorem cw_Co_spread : Cond.code (jm_nm mY_Co_spread) (jm_cd mY_Co_spread) (jm_ml mY_Co_spread) (jm_rt mY_Co_spread) ∈ jm_tbl := jm_in (List.mem_of_getElem? (i := 551) (by decide +kernel)) rfl
theorem ok_Co_spread : jm_ok mY_Co_spread 3 := ⟨by decide, rfl, cw_Co_spread, ini_Co, by decide +kernel⟩
theorem mr_154_48_8 : mr_154 48 8 = some 52 := by decide
def mY_Co_ruleHeld : jm_Y := (⟨"LyingBeacons$Council", "ruleHeld", "(II)Z"⟩, prog_2_method_12_code, 4, some .boolean, { frames := 1, cells := 0, slots := 0, locals := 20 }, none)
theorem cw_Co_ruleHeld : Cond.code (jm_nm mY_Co_ruleHeld) (jm_cd mY_Co_ruleHeld) (jm_ml mY_Co_ruleHeld) (jm_rt mY_Co_ruleHeld) ∈ jm_tbl := jm_in (List.mem_of_getElem? (i := 555) (by decide +kernel)) rfl
theorem ok_Co_ruleHeld : jm_ok mY_Co_ruleHeld 2 := ⟨by decide, rfl, cw_Co_ruleHeld, ini_Co, by decide +kernel⟩
theorem l0_Co_ruleHeld__JI_bitCount : jm_l0 mY_Co_ruleHeld mY_JI_bitCount := ⟨⟨Nat.le_of_ble_eq_true rfl, Nat.le_of_ble_eq_true rfl⟩, rfl, rfl⟩
theorem le_52_78 : 52 ≤ 78 := by decide
theorem l0_Co_spread__Co_ruleHeld : jm_l0 mY_Co_spread mY_Co_ruleHeld := ⟨⟨Nat.le_of_ble_eq_true rfl, Nat.le_of_ble_eq_true rfl⟩, rfl, rfl⟩
theorem ml_Co_78 : Cond.methodLink "LyingBeacons$Council" 78 ⟨"LyingBeacons$Council", "ruleHeld", "(II)Z"⟩ ∈ jm_tbl := jm_in (List.mem_of_getElem? (i := 552) (by decide +kernel)) rfl
theorem im_Co_ruleHeld : Cond.instanceMethod ⟨"LyingBeacons$Council", "ruleHeld", "(II)Z"⟩ ∈ jm_tbl := jm_in (List.mem_of_getElem? (i := 554) (by decide +kernel)) rfl
theorem se_Co_ruleHeld : Cond.selects "LyingBeacons$Council" ⟨"LyingBeacons$Council", "ruleHeld", "(II)Z"⟩ ⟨"LyingBeacons$Council", "ruleHeld", "(II)Z"⟩ ∈ jm_tbl := jm_in (List.mem_of_getElem? (i := 18) (by decide +kernel)) rfl
theorem l0_Co_trueMinute__Co_spread : jm_l0 mY_Co_trueMinute mY_Co_spread := ⟨⟨Nat.le_of_ble_eq_true rfl, Nat.le_of_ble_eq_true rfl⟩, rfl, rfl⟩
theorem ml_Co_74 : Cond.methodLink "LyingBeacons$Council" 74 ⟨"LyingBeacons$Council", "spread", "(III)I"⟩ ∈ jm_tbl := jm_in (List.mem_of_getElem? (i := 548) (by decide +kernel)) rfl
theorem im_Co_spread : Cond.instanceMethod ⟨"LyingBeacons$Council", "spread", "(III)I"⟩ ∈ jm_tbl := jm_in (List.mem_of_getElem? (i := 550) (by decide +kernel)) rfl
theorem se_Co_spread : Cond.selects "LyingBeacons$Council" ⟨"LyingBeacons$Council", "spread", "(III)I"⟩ ⟨"LyingBeacons$Council", "spread", "(III)I"⟩ ∈ jm_tbl := jm_in (List.mem_of_getElem? (i := 17) (by decide +kernel)) rfl
theorem l0_X_trueBy__Co_trueMinute : jm_l0 mY_X_trueBy mY_Co_trueMinute := ⟨⟨Nat.le_of_ble_eq_true rfl, Nat.le_of_ble_eq_true rfl⟩, rfl, rfl⟩
theorem ml_X_170 : Cond.methodLink "LyingBeacons" 170 ⟨"LyingBeacons$Council", "trueMinute", "(II)I"⟩ ∈ jm_tbl := jm_in (List.mem_of_getElem? (i := 544) (by decide +kernel)) rfl
theorem im_Co_trueMinute : Cond.instanceMethod ⟨"LyingBeacons$Council", "trueMinute", "(II)I"⟩ ∈ jm_tbl := jm_in (List.mem_of_getElem? (i := 545) (by decide +kernel)) rfl
theorem se_Co_trueMinute : Cond.selects "LyingBeacons$Council" ⟨"LyingBeacons$Council", "trueMinute", "(II)I"⟩ ⟨"LyingBeacons$Council", "trueMinute", "(II)I"⟩ ∈ jm_tbl := jm_in (List.mem_of_getElem? (i := 546) (by decide +kernel)) rfl
theorem l0_Law__X_trueBy (L : Nat) (xs : Nat → Int32) : jm_l0 (mY_Law L xs) mY_X_trueBy := ⟨⟨Nat.le_of_ble_eq_true rfl, Nat.le_of_ble_eq_true rfl⟩, rfl, rfl⟩
def mY_Z_trueBy : jm_Y := (⟨"LyingBeaconsModel", "trueBy", "(II)I"⟩, prog_11_method_45_code, 4, some .int, { frames := 4, cells := 0, slots := 0, locals := 94 }, none)
theorem cw_Z_trueBy : Cond.code (jm_nm mY_Z_trueBy) (jm_cd mY_Z_trueBy) (jm_ml mY_Z_trueBy) (jm_rt mY_Z_trueBy) ∈ jm_tbl := jm_in (List.mem_of_getElem? (i := 1028) (by decide +kernel)) rfl
theorem ok_Z_trueBy : jm_ok mY_Z_trueBy 2 := ⟨by decide, rfl, cw_Z_trueBy, ini_Z, by decide +kernel⟩
theorem l0_Z_trueBy__Z_asTold : jm_l0 mY_Z_trueBy mY_Z_asTold := ⟨⟨Nat.le_of_ble_eq_true rfl, Nat.le_of_ble_eq_true rfl⟩, rfl, rfl⟩
theorem l0_Z_trueBy__Z_isHill : jm_l0 mY_Z_trueBy mY_Z_isHill := ⟨⟨Nat.le_of_ble_eq_true rfl, Nat.le_of_ble_eq_true rfl⟩, rfl, rfl⟩
theorem l0_Z_trueBy__Z_men : jm_l0 mY_Z_trueBy mY_Z_men := ⟨⟨Nat.le_of_ble_eq_true rfl, Nat.le_of_ble_eq_true rfl⟩, rfl, rfl⟩
theorem l0_Z_trueBy__Z_has : jm_l0 mY_Z_trueBy mY_Z_has := ⟨⟨Nat.le_of_ble_eq_true rfl, Nat.le_of_ble_eq_true rfl⟩, rfl, rfl⟩
theorem l0_Z_trueBy__Z_ear : jm_l0 mY_Z_trueBy mY_Z_ear := ⟨⟨Nat.le_of_ble_eq_true rfl, Nat.le_of_ble_eq_true rfl⟩, rfl, rfl⟩
def mY_Z_alarmBy : jm_Y := (⟨"LyingBeaconsModel", "alarmBy", "(II)I"⟩, prog_11_method_44_code, 4, some .int, { frames := 3, cells := 0, slots := 0, locals := 71 }, none)
theorem cw_Z_alarmBy : Cond.code (jm_nm mY_Z_alarmBy) (jm_cd mY_Z_alarmBy) (jm_ml mY_Z_alarmBy) (jm_rt mY_Z_alarmBy) ∈ jm_tbl := jm_in (List.mem_of_getElem? (i := 1032) (by decide +kernel)) rfl
theorem ok_Z_alarmBy : jm_ok mY_Z_alarmBy 2 := ⟨by decide, rfl, cw_Z_alarmBy, ini_Z, by decide +kernel⟩
theorem l0_Z_alarmBy__Z_kindle : jm_l0 mY_Z_alarmBy mY_Z_kindle := ⟨⟨Nat.le_of_ble_eq_true rfl, Nat.le_of_ble_eq_true rfl⟩, rfl, rfl⟩
theorem l0_Z_alarmBy__Z_spread : jm_l0 mY_Z_alarmBy mY_Z_spread := ⟨⟨Nat.le_of_ble_eq_true rfl, Nat.le_of_ble_eq_true rfl⟩, rfl, rfl⟩
theorem l0_Z_alarmBy__Z_ear : jm_l0 mY_Z_alarmBy mY_Z_ear := ⟨⟨Nat.le_of_ble_eq_true rfl, Nat.le_of_ble_eq_true rfl⟩, rfl, rfl⟩
theorem l0_Z_alarmBy__Z_together : jm_l0 mY_Z_alarmBy mY_Z_together := ⟨⟨Nat.le_of_ble_eq_true rfl, Nat.le_of_ble_eq_true rfl⟩, rfl, rfl⟩
theorem l0_Z_alarmBy__Z_takes : jm_l0 mY_Z_alarmBy mY_Z_takes := ⟨⟨Nat.le_of_ble_eq_true rfl, Nat.le_of_ble_eq_true rfl⟩, rfl, rfl⟩
theorem l0_Z_trueBy__Z_alarmBy : jm_l0 mY_Z_trueBy mY_Z_alarmBy := ⟨⟨Nat.le_of_ble_eq_true rfl, Nat.le_of_ble_eq_true rfl⟩, rfl, rfl⟩
theorem ml_Z_215 : Cond.methodLink "LyingBeaconsModel" 215 ⟨"LyingBeaconsModel", "alarmBy", "(II)I"⟩ ∈ jm_tbl := jm_in (List.mem_of_getElem? (i := 1029) (by decide +kernel)) rfl
theorem im_Z_alarmBy : Cond.instanceMethod ⟨"LyingBeaconsModel", "alarmBy", "(II)I"⟩ ∈ jm_tbl := jm_in (List.mem_of_getElem? (i := 1031) (by decide +kernel)) rfl
theorem se_Z_alarmBy : Cond.selects "LyingBeaconsModel" ⟨"LyingBeaconsModel", "alarmBy", "(II)I"⟩ ⟨"LyingBeaconsModel", "alarmBy", "(II)I"⟩ ∈ jm_tbl := jm_in (List.mem_of_getElem? (i := 51) (by decide +kernel)) rfl
theorem l0_Law__Z_trueBy (L : Nat) (xs : Nat → Int32) : jm_l0 (mY_Law L xs) mY_Z_trueBy := ⟨⟨Nat.le_of_ble_eq_true rfl, Nat.le_of_ble_eq_true rfl⟩, rfl, rfl⟩
theorem ml_Law_71 : Cond.methodLink "LyingBeaconsLaw" 71 ⟨"LyingBeaconsModel", "trueBy", "(II)I"⟩ ∈ jm_tbl := jm_in (List.mem_of_getElem? (i := 1025) (by decide +kernel)) rfl
theorem im_Z_trueBy : Cond.instanceMethod ⟨"LyingBeaconsModel", "trueBy", "(II)I"⟩ ∈ jm_tbl := jm_in (List.mem_of_getElem? (i := 1026) (by decide +kernel)) rfl
theorem se_Z_trueBy : Cond.selects "LyingBeaconsModel" ⟨"LyingBeaconsModel", "trueBy", "(II)I"⟩ ⟨"LyingBeaconsModel", "trueBy", "(II)I"⟩ ∈ jm_tbl := jm_in (List.mem_of_getElem? (i := 1027) (by decide +kernel)) rfl
theorem ml_Law_68 : Cond.methodLink "LyingBeaconsLaw" 68 ⟨"LyingBeacons", "trueBy", "(II)I"⟩ ∈ jm_tbl := jm_in (List.mem_of_getElem? (i := 540) (by decide +kernel)) rfl
theorem im_X_trueBy : Cond.instanceMethod ⟨"LyingBeacons", "trueBy", "(II)I"⟩ ∈ jm_tbl := jm_in (List.mem_of_getElem? (i := 541) (by decide +kernel)) rfl
theorem se_X_trueBy : Cond.selects "LyingBeacons" ⟨"LyingBeacons", "trueBy", "(II)I"⟩ ⟨"LyingBeacons", "trueBy", "(II)I"⟩ ∈ jm_tbl := jm_in (List.mem_of_getElem? (i := 542) (by decide +kernel)) rfl
def mY_X_late : jm_Y := (⟨"LyingBeacons", "late", "(II)I"⟩, prog_1_method_15_code, 3, some .int, { frames := 5, cells := 0, slots := 0, locals := 125 }, none)
theorem cw_X_late : Cond.code (jm_nm mY_X_late) (jm_cd mY_X_late) (jm_ml mY_X_late) (jm_rt mY_X_late) ∈ jm_tbl := jm_in (List.mem_of_getElem? (i := 559) (by decide +kernel)) rfl
theorem ok_X_late : jm_ok mY_X_late 2 := ⟨by decide, rfl, cw_X_late, ini_X, by decide +kernel⟩
theorem l0_X_late__X_isNumberOfLiars : jm_l0 mY_X_late mY_X_isNumberOfLiars := ⟨⟨Nat.le_of_ble_eq_true rfl, Nat.le_of_ble_eq_true rfl⟩, rfl, rfl⟩
theorem l0_X_late__Ne_hasEar : jm_l0 mY_X_late mY_Ne_hasEar := ⟨⟨Nat.le_of_ble_eq_true rfl, Nat.le_of_ble_eq_true rfl⟩, rfl, rfl⟩
theorem l0_X_late__Co_study : jm_l0 mY_X_late mY_Co_study := ⟨⟨Nat.le_of_ble_eq_true rfl, Nat.le_of_ble_eq_true rfl⟩, rfl, rfl⟩
def mY_Co_latestWithOneSightGone : jm_Y := (⟨"LyingBeacons$Council", "latestWithOneSightGone", "(I)I"⟩, prog_2_method_14_code, 7, some .int, { frames := 4, cells := 0, slots := 0, locals := 99 }, none)
theorem cw_Co_latestWithOneSightGone : Cond.code (jm_nm mY_Co_latestWithOneSightGone) (jm_cd mY_Co_latestWithOneSightGone) (jm_ml mY_Co_latestWithOneSightGone) (jm_rt mY_Co_latestWithOneSightGone) ∈ jm_tbl := jm_in (List.mem_of_getElem? (i := 573) (by decide +kernel)) rfl
theorem ok_Co_latestWithOneSightGone : jm_ok mY_Co_latestWithOneSightGone 1 := ⟨by decide, rfl, cw_Co_latestWithOneSightGone, ini_Co, by decide +kernel⟩
def mY_Co_latest : jm_Y := (⟨"LyingBeacons$Council", "latest", "(I)I"⟩, prog_2_method_13_code, 9, some .int, { frames := 3, cells := 0, slots := 0, locals := 71 }, none)
theorem cw_Co_latest : Cond.code (jm_nm mY_Co_latest) (jm_cd mY_Co_latest) (jm_ml mY_Co_latest) (jm_rt mY_Co_latest) ∈ jm_tbl := jm_in (List.mem_of_getElem? (i := 563) (by decide +kernel)) rfl
theorem ok_Co_latest : jm_ok mY_Co_latest 1 := ⟨by decide, rfl, cw_Co_latest, ini_Co, by decide +kernel⟩
theorem l0_Co_latest__JI_bitCount : jm_l0 mY_Co_latest mY_JI_bitCount := ⟨⟨Nat.le_of_ble_eq_true rfl, Nat.le_of_ble_eq_true rfl⟩, rfl, rfl⟩
theorem ini_JM : Cond.initialized "java/lang/Math" ∈ jm_tbl := jm_in (List.mem_of_getElem? (i := 73) (by decide +kernel)) rfl
theorem mm_min : Cond.code Lib.Math.min.name Lib.Math.min.code 2 (some .int) ∈ jm_tbl := jm_in (List.mem_of_getElem? (i := 566) (by decide +kernel)) rfl
theorem ml_Co_82 : Cond.methodLink "LyingBeacons$Council" 82 ⟨"java/lang/Math", "min", "(II)I"⟩ ∈ jm_tbl := jm_in (List.mem_of_getElem? (i := 564) (by decide +kernel)) rfl
theorem sm_JM_min : Cond.static ⟨"java/lang/Math", "min", "(II)I"⟩ ∈ jm_tbl := jm_in (List.mem_of_getElem? (i := 565) (by decide +kernel)) rfl
theorem l0_Co_latest__Co_nextSet : jm_l0 mY_Co_latest mY_Co_nextSet := ⟨⟨Nat.le_of_ble_eq_true rfl, Nat.le_of_ble_eq_true rfl⟩, rfl, rfl⟩
theorem l0_Co_latest__Co_spread : jm_l0 mY_Co_latest mY_Co_spread := ⟨⟨Nat.le_of_ble_eq_true rfl, Nat.le_of_ble_eq_true rfl⟩, rfl, rfl⟩
theorem mm_max : Cond.code Lib.Math.max.name Lib.Math.max.code 2 (some .int) ∈ jm_tbl := jm_in (List.mem_of_getElem? (i := 569) (by decide +kernel)) rfl
theorem ml_Co_87 : Cond.methodLink "LyingBeacons$Council" 87 ⟨"java/lang/Math", "max", "(II)I"⟩ ∈ jm_tbl := jm_in (List.mem_of_getElem? (i := 567) (by decide +kernel)) rfl
theorem sm_JM_max : Cond.static ⟨"java/lang/Math", "max", "(II)I"⟩ ∈ jm_tbl := jm_in (List.mem_of_getElem? (i := 568) (by decide +kernel)) rfl
theorem l0_Co_latestWithOneSightGone__Co_latest : jm_l0 mY_Co_latestWithOneSightGone mY_Co_latest := ⟨⟨Nat.le_of_ble_eq_true rfl, Nat.le_of_ble_eq_true rfl⟩, rfl, rfl⟩
theorem ml_Co_94 : Cond.methodLink "LyingBeacons$Council" 94 ⟨"LyingBeacons$Council", "latest", "(I)I"⟩ ∈ jm_tbl := jm_in (List.mem_of_getElem? (i := 578) (by decide +kernel)) rfl
theorem im_Co_latest : Cond.instanceMethod ⟨"LyingBeacons$Council", "latest", "(I)I"⟩ ∈ jm_tbl := jm_in (List.mem_of_getElem? (i := 561) (by decide +kernel)) rfl
theorem se_Co_latest : Cond.selects "LyingBeacons$Council" ⟨"LyingBeacons$Council", "latest", "(I)I"⟩ ⟨"LyingBeacons$Council", "latest", "(I)I"⟩ ∈ jm_tbl := jm_in (List.mem_of_getElem? (i := 562) (by decide +kernel)) rfl
def mY_Co_turnSight : jm_Y := (⟨"LyingBeacons$Council", "turnSight", "(II)V"⟩, prog_2_method_15_code, 3, none, { frames := 0, cells := 0, slots := 0, locals := 0 }, none)
theorem cw_Co_turnSight : Cond.code (jm_nm mY_Co_turnSight) (jm_cd mY_Co_turnSight) (jm_ml mY_Co_turnSight) (jm_rt mY_Co_turnSight) ∈ jm_tbl := jm_in (List.mem_of_getElem? (i := 577) (by decide +kernel)) rfl
theorem ok_Co_turnSight : jm_ok mY_Co_turnSight 2 := ⟨by decide, rfl, cw_Co_turnSight, ini_Co, by decide +kernel⟩
theorem l0_Co_latestWithOneSightGone__Co_turnSight : jm_l0 mY_Co_latestWithOneSightGone mY_Co_turnSight := ⟨⟨Nat.le_of_ble_eq_true rfl, Nat.le_of_ble_eq_true rfl⟩, rfl, rfl⟩
theorem ml_Co_90 : Cond.methodLink "LyingBeacons$Council" 90 ⟨"LyingBeacons$Council", "turnSight", "(II)V"⟩ ∈ jm_tbl := jm_in (List.mem_of_getElem? (i := 574) (by decide +kernel)) rfl
theorem im_Co_turnSight : Cond.instanceMethod ⟨"LyingBeacons$Council", "turnSight", "(II)V"⟩ ∈ jm_tbl := jm_in (List.mem_of_getElem? (i := 576) (by decide +kernel)) rfl
theorem se_Co_turnSight : Cond.selects "LyingBeacons$Council" ⟨"LyingBeacons$Council", "turnSight", "(II)V"⟩ ⟨"LyingBeacons$Council", "turnSight", "(II)V"⟩ ∈ jm_tbl := jm_in (List.mem_of_getElem? (i := 19) (by decide +kernel)) rfl
theorem l0_X_late__Co_latestWithOneSightGone : jm_l0 mY_X_late mY_Co_latestWithOneSightGone := ⟨⟨Nat.le_of_ble_eq_true rfl, Nat.le_of_ble_eq_true rfl⟩, rfl, rfl⟩
theorem ml_X_177 : Cond.methodLink "LyingBeacons" 177 ⟨"LyingBeacons$Council", "latestWithOneSightGone", "(I)I"⟩ ∈ jm_tbl := jm_in (List.mem_of_getElem? (i := 570) (by decide +kernel)) rfl
theorem im_Co_latestWithOneSightGone : Cond.instanceMethod ⟨"LyingBeacons$Council", "latestWithOneSightGone", "(I)I"⟩ ∈ jm_tbl := jm_in (List.mem_of_getElem? (i := 571) (by decide +kernel)) rfl
theorem se_Co_latestWithOneSightGone : Cond.selects "LyingBeacons$Council" ⟨"LyingBeacons$Council", "latestWithOneSightGone", "(I)I"⟩ ⟨"LyingBeacons$Council", "latestWithOneSightGone", "(I)I"⟩ ∈ jm_tbl := jm_in (List.mem_of_getElem? (i := 572) (by decide +kernel)) rfl
theorem l0_X_late__Co_latest : jm_l0 mY_X_late mY_Co_latest := ⟨⟨Nat.le_of_ble_eq_true rfl, Nat.le_of_ble_eq_true rfl⟩, rfl, rfl⟩
theorem ml_X_174 : Cond.methodLink "LyingBeacons" 174 ⟨"LyingBeacons$Council", "latest", "(I)I"⟩ ∈ jm_tbl := jm_in (List.mem_of_getElem? (i := 560) (by decide +kernel)) rfl
theorem l0_Law__X_late (L : Nat) (xs : Nat → Int32) : jm_l0 (mY_Law L xs) mY_X_late := ⟨⟨Nat.le_of_ble_eq_true rfl, Nat.le_of_ble_eq_true rfl⟩, rfl, rfl⟩
def mY_Z_late : jm_Y := (⟨"LyingBeaconsModel", "late", "(II)I"⟩, prog_11_method_48_code, 4, some .int, { frames := 6, cells := 0, slots := 0, locals := 147 }, none)
theorem cw_Z_late : Cond.code (jm_nm mY_Z_late) (jm_cd mY_Z_late) (jm_ml mY_Z_late) (jm_rt mY_Z_late) ∈ jm_tbl := jm_in (List.mem_of_getElem? (i := 1036) (by decide +kernel)) rfl
theorem ok_Z_late : jm_ok mY_Z_late 2 := ⟨by decide, rfl, cw_Z_late, ini_Z, by decide +kernel⟩
theorem l0_Z_late__Z_in : jm_l0 mY_Z_late mY_Z_in := ⟨⟨Nat.le_of_ble_eq_true rfl, Nat.le_of_ble_eq_true rfl⟩, rfl, rfl⟩
theorem l0_Z_late__Z_ear : jm_l0 mY_Z_late mY_Z_ear := ⟨⟨Nat.le_of_ble_eq_true rfl, Nat.le_of_ble_eq_true rfl⟩, rfl, rfl⟩
theorem l0_Z_late__Z_asTold : jm_l0 mY_Z_late mY_Z_asTold := ⟨⟨Nat.le_of_ble_eq_true rfl, Nat.le_of_ble_eq_true rfl⟩, rfl, rfl⟩
def mY_Z_lateOf : jm_Y := (⟨"LyingBeaconsModel", "lateOf", "(II)I"⟩, prog_11_method_47_code, 7, some .int, { frames := 5, cells := 0, slots := 0, locals := 121 }, none)
theorem cw_Z_lateOf : Cond.code (jm_nm mY_Z_lateOf) (jm_cd mY_Z_lateOf) (jm_ml mY_Z_lateOf) (jm_rt mY_Z_lateOf) ∈ jm_tbl := jm_in (List.mem_of_getElem? (i := 1040) (by decide +kernel)) rfl
theorem ok_Z_lateOf : jm_ok mY_Z_lateOf 2 := ⟨by decide, rfl, cw_Z_lateOf, ini_Z, by decide +kernel⟩
def mY_Z_latest : jm_Y := (⟨"LyingBeaconsModel", "latest", "(I)I"⟩, prog_11_method_46_code, 8, some .int, { frames := 4, cells := 0, slots := 0, locals := 94 }, none)
theorem cw_Z_latest : Cond.code (jm_nm mY_Z_latest) (jm_cd mY_Z_latest) (jm_ml mY_Z_latest) (jm_rt mY_Z_latest) ∈ jm_tbl := jm_in (List.mem_of_getElem? (i := 1044) (by decide +kernel)) rfl
theorem ok_Z_latest : jm_ok mY_Z_latest 1 := ⟨by decide, rfl, cw_Z_latest, ini_Z, by decide +kernel⟩
theorem l0_Z_latest__Z_men : jm_l0 mY_Z_latest mY_Z_men := ⟨⟨Nat.le_of_ble_eq_true rfl, Nat.le_of_ble_eq_true rfl⟩, rfl, rfl⟩
theorem l0_Z_latest__Z_bits : jm_l0 mY_Z_latest mY_Z_bits := ⟨⟨Nat.le_of_ble_eq_true rfl, Nat.le_of_ble_eq_true rfl⟩, rfl, rfl⟩
theorem l0_Z_latest__Z_alarmBy : jm_l0 mY_Z_latest mY_Z_alarmBy := ⟨⟨Nat.le_of_ble_eq_true rfl, Nat.le_of_ble_eq_true rfl⟩, rfl, rfl⟩
theorem l0_Z_lateOf__Z_latest : jm_l0 mY_Z_lateOf mY_Z_latest := ⟨⟨Nat.le_of_ble_eq_true rfl, Nat.le_of_ble_eq_true rfl⟩, rfl, rfl⟩
theorem ml_Z_219 : Cond.methodLink "LyingBeaconsModel" 219 ⟨"LyingBeaconsModel", "latest", "(I)I"⟩ ∈ jm_tbl := jm_in (List.mem_of_getElem? (i := 1041) (by decide +kernel)) rfl
theorem im_Z_latest : Cond.instanceMethod ⟨"LyingBeaconsModel", "latest", "(I)I"⟩ ∈ jm_tbl := jm_in (List.mem_of_getElem? (i := 1043) (by decide +kernel)) rfl
theorem se_Z_latest : Cond.selects "LyingBeaconsModel" ⟨"LyingBeaconsModel", "latest", "(I)I"⟩ ⟨"LyingBeaconsModel", "latest", "(I)I"⟩ ∈ jm_tbl := jm_in (List.mem_of_getElem? (i := 53) (by decide +kernel)) rfl
theorem l0_Z_lateOf__Z_has : jm_l0 mY_Z_lateOf mY_Z_has := ⟨⟨Nat.le_of_ble_eq_true rfl, Nat.le_of_ble_eq_true rfl⟩, rfl, rfl⟩
theorem l0_Z_late__Z_lateOf : jm_l0 mY_Z_late mY_Z_lateOf := ⟨⟨Nat.le_of_ble_eq_true rfl, Nat.le_of_ble_eq_true rfl⟩, rfl, rfl⟩
theorem ml_Z_222 : Cond.methodLink "LyingBeaconsModel" 222 ⟨"LyingBeaconsModel", "lateOf", "(II)I"⟩ ∈ jm_tbl := jm_in (List.mem_of_getElem? (i := 1037) (by decide +kernel)) rfl
theorem im_Z_lateOf : Cond.instanceMethod ⟨"LyingBeaconsModel", "lateOf", "(II)I"⟩ ∈ jm_tbl := jm_in (List.mem_of_getElem? (i := 1039) (by decide +kernel)) rfl
theorem se_Z_lateOf : Cond.selects "LyingBeaconsModel" ⟨"LyingBeaconsModel", "lateOf", "(II)I"⟩ ⟨"LyingBeaconsModel", "lateOf", "(II)I"⟩ ∈ jm_tbl := jm_in (List.mem_of_getElem? (i := 52) (by decide +kernel)) rfl
theorem l0_Law__Z_late (L : Nat) (xs : Nat → Int32) : jm_l0 (mY_Law L xs) mY_Z_late := ⟨⟨Nat.le_of_ble_eq_true rfl, Nat.le_of_ble_eq_true rfl⟩, rfl, rfl⟩
theorem ml_Law_75 : Cond.methodLink "LyingBeaconsLaw" 75 ⟨"LyingBeaconsModel", "late", "(II)I"⟩ ∈ jm_tbl := jm_in (List.mem_of_getElem? (i := 1033) (by decide +kernel)) rfl
theorem im_Z_late : Cond.instanceMethod ⟨"LyingBeaconsModel", "late", "(II)I"⟩ ∈ jm_tbl := jm_in (List.mem_of_getElem? (i := 1034) (by decide +kernel)) rfl
theorem se_Z_late : Cond.selects "LyingBeaconsModel" ⟨"LyingBeaconsModel", "late", "(II)I"⟩ ⟨"LyingBeaconsModel", "late", "(II)I"⟩ ∈ jm_tbl := jm_in (List.mem_of_getElem? (i := 1035) (by decide +kernel)) rfl
theorem ml_Law_72 : Cond.methodLink "LyingBeaconsLaw" 72 ⟨"LyingBeacons", "late", "(II)I"⟩ ∈ jm_tbl := jm_in (List.mem_of_getElem? (i := 556) (by decide +kernel)) rfl
theorem im_X_late : Cond.instanceMethod ⟨"LyingBeacons", "late", "(II)I"⟩ ∈ jm_tbl := jm_in (List.mem_of_getElem? (i := 557) (by decide +kernel)) rfl
theorem se_X_late : Cond.selects "LyingBeacons" ⟨"LyingBeacons", "late", "(II)I"⟩ ⟨"LyingBeacons", "late", "(II)I"⟩ ∈ jm_tbl := jm_in (List.mem_of_getElem? (i := 558) (by decide +kernel)) rfl
def mY_X_bears : jm_Y := (⟨"LyingBeacons", "bears", "()I"⟩, prog_1_method_16_code, 1, some .int, { frames := 6, cells := 0, slots := 0, locals := 143 }, none)
theorem cw_X_bears : Cond.code (jm_nm mY_X_bears) (jm_cd mY_X_bears) (jm_ml mY_X_bears) (jm_rt mY_X_bears) ∈ jm_tbl := jm_in (List.mem_of_getElem? (i := 582) (by decide +kernel)) rfl
theorem ok_X_bears : jm_ok mY_X_bears 0 := ⟨by decide, rfl, cw_X_bears, ini_X, by decide +kernel⟩
theorem l0_X_bears__Ne_hasEar : jm_l0 mY_X_bears mY_Ne_hasEar := ⟨⟨Nat.le_of_ble_eq_true rfl, Nat.le_of_ble_eq_true rfl⟩, rfl, rfl⟩
theorem l0_X_bears__Co_study : jm_l0 mY_X_bears mY_Co_study := ⟨⟨Nat.le_of_ble_eq_true rfl, Nat.le_of_ble_eq_true rfl⟩, rfl, rfl⟩
def mY_Co_mostBorne : jm_Y := (⟨"LyingBeacons$Council", "mostBorne", "()I"⟩, prog_2_method_17_code, 3, some .int, { frames := 5, cells := 0, slots := 0, locals := 121 }, none)
theorem cw_Co_mostBorne : Cond.code (jm_nm mY_Co_mostBorne) (jm_cd mY_Co_mostBorne) (jm_ml mY_Co_mostBorne) (jm_rt mY_Co_mostBorne) ∈ jm_tbl := jm_in (List.mem_of_getElem? (i := 586) (by decide +kernel)) rfl
theorem ok_Co_mostBorne : jm_ok mY_Co_mostBorne 0 := ⟨by decide, rfl, cw_Co_mostBorne, ini_Co, by decide +kernel⟩
def mY_Co_latestIfBorne : jm_Y := (⟨"LyingBeacons$Council", "latestIfBorne", "(I)I"⟩, prog_2_method_16_code, 3, some .int, { frames := 4, cells := 0, slots := 0, locals := 99 }, none)
theorem cw_Co_latestIfBorne : Cond.code (jm_nm mY_Co_latestIfBorne) (jm_cd mY_Co_latestIfBorne) (jm_ml mY_Co_latestIfBorne) (jm_rt mY_Co_latestIfBorne) ∈ jm_tbl := jm_in (List.mem_of_getElem? (i := 590) (by decide +kernel)) rfl
theorem ok_Co_latestIfBorne : jm_ok mY_Co_latestIfBorne 1 := ⟨by decide, rfl, cw_Co_latestIfBorne, ini_Co, by decide +kernel⟩
theorem l0_Co_latestIfBorne__JI_bitCount : jm_l0 mY_Co_latestIfBorne mY_JI_bitCount := ⟨⟨Nat.le_of_ble_eq_true rfl, Nat.le_of_ble_eq_true rfl⟩, rfl, rfl⟩
theorem l0_Co_latestIfBorne__Co_leastFoolingSet : jm_l0 mY_Co_latestIfBorne mY_Co_leastFoolingSet := ⟨⟨Nat.le_of_ble_eq_true rfl, Nat.le_of_ble_eq_true rfl⟩, rfl, rfl⟩
theorem l0_Co_latestIfBorne__Co_latest : jm_l0 mY_Co_latestIfBorne mY_Co_latest := ⟨⟨Nat.le_of_ble_eq_true rfl, Nat.le_of_ble_eq_true rfl⟩, rfl, rfl⟩
theorem ml_Co_97 : Cond.methodLink "LyingBeacons$Council" 97 ⟨"LyingBeacons$Council", "leastFoolingSet", "(I)I"⟩ ∈ jm_tbl := jm_in (List.mem_of_getElem? (i := 591) (by decide +kernel)) rfl
theorem l0_Co_mostBorne__Co_latestIfBorne : jm_l0 mY_Co_mostBorne mY_Co_latestIfBorne := ⟨⟨Nat.le_of_ble_eq_true rfl, Nat.le_of_ble_eq_true rfl⟩, rfl, rfl⟩
theorem ml_Co_100 : Cond.methodLink "LyingBeacons$Council" 100 ⟨"LyingBeacons$Council", "latestIfBorne", "(I)I"⟩ ∈ jm_tbl := jm_in (List.mem_of_getElem? (i := 587) (by decide +kernel)) rfl
theorem im_Co_latestIfBorne : Cond.instanceMethod ⟨"LyingBeacons$Council", "latestIfBorne", "(I)I"⟩ ∈ jm_tbl := jm_in (List.mem_of_getElem? (i := 589) (by decide +kernel)) rfl
theorem se_Co_latestIfBorne : Cond.selects "LyingBeacons$Council" ⟨"LyingBeacons$Council", "latestIfBorne", "(I)I"⟩ ⟨"LyingBeacons$Council", "latestIfBorne", "(I)I"⟩ ∈ jm_tbl := jm_in (List.mem_of_getElem? (i := 20) (by decide +kernel)) rfl
theorem l0_X_bears__Co_mostBorne : jm_l0 mY_X_bears mY_Co_mostBorne := ⟨⟨Nat.le_of_ble_eq_true rfl, Nat.le_of_ble_eq_true rfl⟩, rfl, rfl⟩
theorem ml_X_180 : Cond.methodLink "LyingBeacons" 180 ⟨"LyingBeacons$Council", "mostBorne", "()I"⟩ ∈ jm_tbl := jm_in (List.mem_of_getElem? (i := 583) (by decide +kernel)) rfl
theorem im_Co_mostBorne : Cond.instanceMethod ⟨"LyingBeacons$Council", "mostBorne", "()I"⟩ ∈ jm_tbl := jm_in (List.mem_of_getElem? (i := 584) (by decide +kernel)) rfl
theorem se_Co_mostBorne : Cond.selects "LyingBeacons$Council" ⟨"LyingBeacons$Council", "mostBorne", "()I"⟩ ⟨"LyingBeacons$Council", "mostBorne", "()I"⟩ ∈ jm_tbl := jm_in (List.mem_of_getElem? (i := 585) (by decide +kernel)) rfl
theorem l0_Law__X_bears (L : Nat) (xs : Nat → Int32) : jm_l0 (mY_Law L xs) mY_X_bears := ⟨⟨Nat.le_of_ble_eq_true rfl, Nat.le_of_ble_eq_true rfl⟩, rfl, rfl⟩
def mY_Z_bears : jm_Y := (⟨"LyingBeaconsModel", "bears", "()I"⟩, prog_11_method_51_code, 1, some .int, { frames := 7, cells := 0, slots := 0, locals := 165 }, none)
theorem cw_Z_bears : Cond.code (jm_nm mY_Z_bears) (jm_cd mY_Z_bears) (jm_ml mY_Z_bears) (jm_rt mY_Z_bears) ∈ jm_tbl := jm_in (List.mem_of_getElem? (i := 1048) (by decide +kernel)) rfl
theorem ok_Z_bears : jm_ok mY_Z_bears 0 := ⟨by decide, rfl, cw_Z_bears, ini_Z, by decide +kernel⟩
theorem l0_Z_bears__Z_ear : jm_l0 mY_Z_bears mY_Z_ear := ⟨⟨Nat.le_of_ble_eq_true rfl, Nat.le_of_ble_eq_true rfl⟩, rfl, rfl⟩
theorem l0_Z_bears__Z_asTold : jm_l0 mY_Z_bears mY_Z_asTold := ⟨⟨Nat.le_of_ble_eq_true rfl, Nat.le_of_ble_eq_true rfl⟩, rfl, rfl⟩
def mY_Z_mostBorne : jm_Y := (⟨"LyingBeaconsModel", "mostBorne", "()I"⟩, prog_11_method_50_code, 3, some .int, { frames := 6, cells := 0, slots := 0, locals := 143 }, none)
theorem cw_Z_mostBorne : Cond.code (jm_nm mY_Z_mostBorne) (jm_cd mY_Z_mostBorne) (jm_ml mY_Z_mostBorne) (jm_rt mY_Z_mostBorne) ∈ jm_tbl := jm_in (List.mem_of_getElem? (i := 1052) (by decide +kernel)) rfl
theorem ok_Z_mostBorne : jm_ok mY_Z_mostBorne 0 := ⟨by decide, rfl, cw_Z_mostBorne, ini_Z, by decide +kernel⟩
def mY_Z_bearsSo : jm_Y := (⟨"LyingBeaconsModel", "bearsSo", "(I)Z"⟩, prog_11_method_49_code, 3, some .boolean, { frames := 5, cells := 0, slots := 0, locals := 121 }, none)
theorem cw_Z_bearsSo : Cond.code (jm_nm mY_Z_bearsSo) (jm_cd mY_Z_bearsSo) (jm_ml mY_Z_bearsSo) (jm_rt mY_Z_bearsSo) ∈ jm_tbl := jm_in (List.mem_of_getElem? (i := 1056) (by decide +kernel)) rfl
theorem ok_Z_bearsSo : jm_ok mY_Z_bearsSo 1 := ⟨by decide, rfl, cw_Z_bearsSo, ini_Z, by decide +kernel⟩
theorem l0_Z_bearsSo__Z_latest : jm_l0 mY_Z_bearsSo mY_Z_latest := ⟨⟨Nat.le_of_ble_eq_true rfl, Nat.le_of_ble_eq_true rfl⟩, rfl, rfl⟩
theorem l0_Z_bearsSo__Z_men : jm_l0 mY_Z_bearsSo mY_Z_men := ⟨⟨Nat.le_of_ble_eq_true rfl, Nat.le_of_ble_eq_true rfl⟩, rfl, rfl⟩
theorem l0_Z_bearsSo__Z_bits : jm_l0 mY_Z_bearsSo mY_Z_bits := ⟨⟨Nat.le_of_ble_eq_true rfl, Nat.le_of_ble_eq_true rfl⟩, rfl, rfl⟩
theorem l0_Z_bearsSo__Z_isFalse : jm_l0 mY_Z_bearsSo mY_Z_isFalse := ⟨⟨Nat.le_of_ble_eq_true rfl, Nat.le_of_ble_eq_true rfl⟩, rfl, rfl⟩
theorem l0_Z_mostBorne__Z_bearsSo : jm_l0 mY_Z_mostBorne mY_Z_bearsSo := ⟨⟨Nat.le_of_ble_eq_true rfl, Nat.le_of_ble_eq_true rfl⟩, rfl, rfl⟩
theorem ml_Z_225 : Cond.methodLink "LyingBeaconsModel" 225 ⟨"LyingBeaconsModel", "bearsSo", "(I)Z"⟩ ∈ jm_tbl := jm_in (List.mem_of_getElem? (i := 1053) (by decide +kernel)) rfl
theorem im_Z_bearsSo : Cond.instanceMethod ⟨"LyingBeaconsModel", "bearsSo", "(I)Z"⟩ ∈ jm_tbl := jm_in (List.mem_of_getElem? (i := 1055) (by decide +kernel)) rfl
theorem se_Z_bearsSo : Cond.selects "LyingBeaconsModel" ⟨"LyingBeaconsModel", "bearsSo", "(I)Z"⟩ ⟨"LyingBeaconsModel", "bearsSo", "(I)Z"⟩ ∈ jm_tbl := jm_in (List.mem_of_getElem? (i := 55) (by decide +kernel)) rfl
theorem l0_Z_bears__Z_mostBorne : jm_l0 mY_Z_bears mY_Z_mostBorne := ⟨⟨Nat.le_of_ble_eq_true rfl, Nat.le_of_ble_eq_true rfl⟩, rfl, rfl⟩
theorem ml_Z_228 : Cond.methodLink "LyingBeaconsModel" 228 ⟨"LyingBeaconsModel", "mostBorne", "()I"⟩ ∈ jm_tbl := jm_in (List.mem_of_getElem? (i := 1049) (by decide +kernel)) rfl
theorem im_Z_mostBorne : Cond.instanceMethod ⟨"LyingBeaconsModel", "mostBorne", "()I"⟩ ∈ jm_tbl := jm_in (List.mem_of_getElem? (i := 1051) (by decide +kernel)) rfl
theorem se_Z_mostBorne : Cond.selects "LyingBeaconsModel" ⟨"LyingBeaconsModel", "mostBorne", "()I"⟩ ⟨"LyingBeaconsModel", "mostBorne", "()I"⟩ ∈ jm_tbl := jm_in (List.mem_of_getElem? (i := 54) (by decide +kernel)) rfl
theorem l0_Law__Z_bears (L : Nat) (xs : Nat → Int32) : jm_l0 (mY_Law L xs) mY_Z_bears := ⟨⟨Nat.le_of_ble_eq_true rfl, Nat.le_of_ble_eq_true rfl⟩, rfl, rfl⟩
theorem ml_Law_79 : Cond.methodLink "LyingBeaconsLaw" 79 ⟨"LyingBeaconsModel", "bears", "()I"⟩ ∈ jm_tbl := jm_in (List.mem_of_getElem? (i := 1045) (by decide +kernel)) rfl
theorem im_Z_bears : Cond.instanceMethod ⟨"LyingBeaconsModel", "bears", "()I"⟩ ∈ jm_tbl := jm_in (List.mem_of_getElem? (i := 1046) (by decide +kernel)) rfl
theorem se_Z_bears : Cond.selects "LyingBeaconsModel" ⟨"LyingBeaconsModel", "bears", "()I"⟩ ⟨"LyingBeaconsModel", "bears", "()I"⟩ ∈ jm_tbl := jm_in (List.mem_of_getElem? (i := 1047) (by decide +kernel)) rfl
theorem ml_Law_76 : Cond.methodLink "LyingBeaconsLaw" 76 ⟨"LyingBeacons", "bears", "()I"⟩ ∈ jm_tbl := jm_in (List.mem_of_getElem? (i := 579) (by decide +kernel)) rfl
theorem im_X_bears : Cond.instanceMethod ⟨"LyingBeacons", "bears", "()I"⟩ ∈ jm_tbl := jm_in (List.mem_of_getElem? (i := 580) (by decide +kernel)) rfl
theorem se_X_bears : Cond.selects "LyingBeacons" ⟨"LyingBeacons", "bears", "()I"⟩ ⟨"LyingBeacons", "bears", "()I"⟩ ∈ jm_tbl := jm_in (List.mem_of_getElem? (i := 581) (by decide +kernel)) rfl
def mY_X_bestRule : jm_Y := (⟨"LyingBeacons", "bestRule", "(II)I"⟩, prog_1_method_17_code, 3, some .int, { frames := 6, cells := 0, slots := 0, locals := 145 }, none)
theorem cw_X_bestRule : Cond.code (jm_nm mY_X_bestRule) (jm_cd mY_X_bestRule) (jm_ml mY_X_bestRule) (jm_rt mY_X_bestRule) ∈ jm_tbl := jm_in (List.mem_of_getElem? (i := 595) (by decide +kernel)) rfl
theorem ok_X_bestRule : jm_ok mY_X_bestRule 2 := ⟨by decide, rfl, cw_X_bestRule, ini_X, by decide +kernel⟩
theorem l0_X_bestRule__X_isNumberOfLiars : jm_l0 mY_X_bestRule mY_X_isNumberOfLiars := ⟨⟨Nat.le_of_ble_eq_true rfl, Nat.le_of_ble_eq_true rfl⟩, rfl, rfl⟩
theorem l0_X_bestRule__Ne_hasEar : jm_l0 mY_X_bestRule mY_Ne_hasEar := ⟨⟨Nat.le_of_ble_eq_true rfl, Nat.le_of_ble_eq_true rfl⟩, rfl, rfl⟩
theorem l0_X_bestRule__Co_study : jm_l0 mY_X_bestRule mY_Co_study := ⟨⟨Nat.le_of_ble_eq_true rfl, Nat.le_of_ble_eq_true rfl⟩, rfl, rfl⟩
def mY_Co_seekBestRule : jm_Y := (⟨"LyingBeacons$Council", "seekBestRule", "(I)V"⟩, prog_2_method_18_code, 5, none, { frames := 5, cells := 0, slots := 0, locals := 121 }, none)
theorem cw_Co_seekBestRule : Cond.code (jm_nm mY_Co_seekBestRule) (jm_cd mY_Co_seekBestRule) (jm_ml mY_Co_seekBestRule) (jm_rt mY_Co_seekBestRule) ∈ jm_tbl := jm_in (List.mem_of_getElem? (i := 599) (by decide +kernel)) rfl
theorem ok_Co_seekBestRule : jm_ok mY_Co_seekBestRule 1 := ⟨by decide, rfl, cw_Co_seekBestRule, ini_Co, by decide +kernel⟩
def mY_Co_ruleAllBy : jm_Y := (⟨"LyingBeacons$Council", "ruleAllBy", "(II)V"⟩, prog_2_method_19_code, 4, none, { frames := 0, cells := 0, slots := 0, locals := 0 }, none)
theorem cw_Co_ruleAllBy : Cond.code (jm_nm mY_Co_ruleAllBy) (jm_cd mY_Co_ruleAllBy) (jm_ml mY_Co_ruleAllBy) (jm_rt mY_Co_ruleAllBy) ∈ jm_tbl := jm_in (List.mem_of_getElem? (i := 603) (by decide +kernel)) rfl
theorem ok_Co_ruleAllBy : jm_ok mY_Co_ruleAllBy 2 := ⟨by decide, rfl, cw_Co_ruleAllBy, ini_Co, by decide +kernel⟩
theorem l0_Co_seekBestRule__Co_ruleAllBy : jm_l0 mY_Co_seekBestRule mY_Co_ruleAllBy := ⟨⟨Nat.le_of_ble_eq_true rfl, Nat.le_of_ble_eq_true rfl⟩, rfl, rfl⟩
theorem l0_Co_seekBestRule__Co_latestIfBorne : jm_l0 mY_Co_seekBestRule mY_Co_latestIfBorne := ⟨⟨Nat.le_of_ble_eq_true rfl, Nat.le_of_ble_eq_true rfl⟩, rfl, rfl⟩
theorem ml_Co_103 : Cond.methodLink "LyingBeacons$Council" 103 ⟨"LyingBeacons$Council", "ruleAllBy", "(II)V"⟩ ∈ jm_tbl := jm_in (List.mem_of_getElem? (i := 600) (by decide +kernel)) rfl
theorem im_Co_ruleAllBy : Cond.instanceMethod ⟨"LyingBeacons$Council", "ruleAllBy", "(II)V"⟩ ∈ jm_tbl := jm_in (List.mem_of_getElem? (i := 602) (by decide +kernel)) rfl
theorem se_Co_ruleAllBy : Cond.selects "LyingBeacons$Council" ⟨"LyingBeacons$Council", "ruleAllBy", "(II)V"⟩ ⟨"LyingBeacons$Council", "ruleAllBy", "(II)V"⟩ ∈ jm_tbl := jm_in (List.mem_of_getElem? (i := 21) (by decide +kernel)) rfl
theorem l0_X_bestRule__Co_seekBestRule : jm_l0 mY_X_bestRule mY_Co_seekBestRule := ⟨⟨Nat.le_of_ble_eq_true rfl, Nat.le_of_ble_eq_true rfl⟩, rfl, rfl⟩
theorem fo_X_190 : jm_fo "LyingBeacons" 190 0 1 RX0 TX0 10 := ⟨inY0, rfl, by decide, jm_in (List.mem_of_getElem? (i := 224) (by decide +kernel)) rfl⟩
theorem fo_X_187 : jm_fo "LyingBeacons" 187 0 0 RX0 TX0 10 := ⟨inY0, rfl, by decide, jm_in (List.mem_of_getElem? (i := 222) (by decide +kernel)) rfl⟩
theorem ml_X_183 : Cond.methodLink "LyingBeacons" 183 ⟨"LyingBeacons$Council", "seekBestRule", "(I)V"⟩ ∈ jm_tbl := jm_in (List.mem_of_getElem? (i := 596) (by decide +kernel)) rfl
theorem im_Co_seekBestRule : Cond.instanceMethod ⟨"LyingBeacons$Council", "seekBestRule", "(I)V"⟩ ∈ jm_tbl := jm_in (List.mem_of_getElem? (i := 597) (by decide +kernel)) rfl
theorem se_Co_seekBestRule : Cond.selects "LyingBeacons$Council" ⟨"LyingBeacons$Council", "seekBestRule", "(I)V"⟩ ⟨"LyingBeacons$Council", "seekBestRule", "(I)V"⟩ ∈ jm_tbl := jm_in (List.mem_of_getElem? (i := 598) (by decide +kernel)) rfl
theorem l0_Law__X_bestRule (L : Nat) (xs : Nat → Int32) : jm_l0 (mY_Law L xs) mY_X_bestRule := ⟨⟨Nat.le_of_ble_eq_true rfl, Nat.le_of_ble_eq_true rfl⟩, rfl, rfl⟩
def mY_Z_bestRule : jm_Y := (⟨"LyingBeaconsModel", "bestRule", "(II)I"⟩, prog_11_method_52_code, 8, some .int, { frames := 6, cells := 0, slots := 0, locals := 143 }, none)
theorem cw_Z_bestRule : Cond.code (jm_nm mY_Z_bestRule) (jm_cd mY_Z_bestRule) (jm_ml mY_Z_bestRule) (jm_rt mY_Z_bestRule) ∈ jm_tbl := jm_in (List.mem_of_getElem? (i := 1060) (by decide +kernel)) rfl
theorem ok_Z_bestRule : jm_ok mY_Z_bestRule 2 := ⟨by decide, rfl, cw_Z_bestRule, ini_Z, by decide +kernel⟩
theorem l0_Z_bestRule__Z_in : jm_l0 mY_Z_bestRule mY_Z_in := ⟨⟨Nat.le_of_ble_eq_true rfl, Nat.le_of_ble_eq_true rfl⟩, rfl, rfl⟩
theorem l0_Z_bestRule__Z_ear : jm_l0 mY_Z_bestRule mY_Z_ear := ⟨⟨Nat.le_of_ble_eq_true rfl, Nat.le_of_ble_eq_true rfl⟩, rfl, rfl⟩
theorem l0_Z_bestRule__Z_asTold : jm_l0 mY_Z_bestRule mY_Z_asTold := ⟨⟨Nat.le_of_ble_eq_true rfl, Nat.le_of_ble_eq_true rfl⟩, rfl, rfl⟩
theorem l0_Z_bestRule__Z_bearsSo : jm_l0 mY_Z_bestRule mY_Z_bearsSo := ⟨⟨Nat.le_of_ble_eq_true rfl, Nat.le_of_ble_eq_true rfl⟩, rfl, rfl⟩
theorem l0_Z_bestRule__Z_latest : jm_l0 mY_Z_bestRule mY_Z_latest := ⟨⟨Nat.le_of_ble_eq_true rfl, Nat.le_of_ble_eq_true rfl⟩, rfl, rfl⟩
theorem l0_Law__Z_bestRule (L : Nat) (xs : Nat → Int32) : jm_l0 (mY_Law L xs) mY_Z_bestRule := ⟨⟨Nat.le_of_ble_eq_true rfl, Nat.le_of_ble_eq_true rfl⟩, rfl, rfl⟩
theorem ml_Law_83 : Cond.methodLink "LyingBeaconsLaw" 83 ⟨"LyingBeaconsModel", "bestRule", "(II)I"⟩ ∈ jm_tbl := jm_in (List.mem_of_getElem? (i := 1057) (by decide +kernel)) rfl
theorem im_Z_bestRule : Cond.instanceMethod ⟨"LyingBeaconsModel", "bestRule", "(II)I"⟩ ∈ jm_tbl := jm_in (List.mem_of_getElem? (i := 1058) (by decide +kernel)) rfl
theorem se_Z_bestRule : Cond.selects "LyingBeaconsModel" ⟨"LyingBeaconsModel", "bestRule", "(II)I"⟩ ⟨"LyingBeaconsModel", "bestRule", "(II)I"⟩ ∈ jm_tbl := jm_in (List.mem_of_getElem? (i := 1059) (by decide +kernel)) rfl
theorem ml_Law_80 : Cond.methodLink "LyingBeaconsLaw" 80 ⟨"LyingBeacons", "bestRule", "(II)I"⟩ ∈ jm_tbl := jm_in (List.mem_of_getElem? (i := 592) (by decide +kernel)) rfl
theorem im_X_bestRule : Cond.instanceMethod ⟨"LyingBeacons", "bestRule", "(II)I"⟩ ∈ jm_tbl := jm_in (List.mem_of_getElem? (i := 593) (by decide +kernel)) rfl
theorem se_X_bestRule : Cond.selects "LyingBeacons" ⟨"LyingBeacons", "bestRule", "(II)I"⟩ ⟨"LyingBeacons", "bestRule", "(II)I"⟩ ∈ jm_tbl := jm_in (List.mem_of_getElem? (i := 594) (by decide +kernel)) rfl
def mY_X_added : jm_Y := (⟨"LyingBeacons", "added", "(I)I"⟩, prog_1_method_18_code, 2, some .int, { frames := 6, cells := 0, slots := 0, locals := 147 }, none)
theorem cw_X_added : Cond.code (jm_nm mY_X_added) (jm_cd mY_X_added) (jm_ml mY_X_added) (jm_rt mY_X_added) ∈ jm_tbl := jm_in (List.mem_of_getElem? (i := 607) (by decide +kernel)) rfl
theorem ok_X_added : jm_ok mY_X_added 1 := ⟨by decide, rfl, cw_X_added, ini_X, by decide +kernel⟩
theorem l0_X_added__X_isNumberOfLiars : jm_l0 mY_X_added mY_X_isNumberOfLiars := ⟨⟨Nat.le_of_ble_eq_true rfl, Nat.le_of_ble_eq_true rfl⟩, rfl, rfl⟩
theorem l0_X_added__Ne_hasEar : jm_l0 mY_X_added mY_Ne_hasEar := ⟨⟨Nat.le_of_ble_eq_true rfl, Nat.le_of_ble_eq_true rfl⟩, rfl, rfl⟩
theorem l0_X_added__Co_study : jm_l0 mY_X_added mY_Co_study := ⟨⟨Nat.le_of_ble_eq_true rfl, Nat.le_of_ble_eq_true rfl⟩, rfl, rfl⟩
theorem l0_X_added__Ne_ofKind : jm_l0 mY_X_added mY_Ne_ofKind := ⟨⟨Nat.le_of_ble_eq_true rfl, Nat.le_of_ble_eq_true rfl⟩, rfl, rfl⟩
def mY_Co_fewestSpares : jm_Y := (⟨"LyingBeacons$Council", "fewestSpares", "(II)I"⟩, prog_2_method_20_code, 7, some .int, { frames := 5, cells := 0, slots := 0, locals := 121 }, none)
theorem cw_Co_fewestSpares : Cond.code (jm_nm mY_Co_fewestSpares) (jm_cd mY_Co_fewestSpares) (jm_ml mY_Co_fewestSpares) (jm_rt mY_Co_fewestSpares) ∈ jm_tbl := jm_in (List.mem_of_getElem? (i := 611) (by decide +kernel)) rfl
theorem ok_Co_fewestSpares : jm_ok mY_Co_fewestSpares 2 := ⟨by decide, rfl, cw_Co_fewestSpares, ini_Co, by decide +kernel⟩
theorem l0_Co_fewestSpares__JI_bitCount : jm_l0 mY_Co_fewestSpares mY_JI_bitCount := ⟨⟨Nat.le_of_ble_eq_true rfl, Nat.le_of_ble_eq_true rfl⟩, rfl, rfl⟩
theorem l0_Co_fewestSpares__Co_nextSet : jm_l0 mY_Co_fewestSpares mY_Co_nextSet := ⟨⟨Nat.le_of_ble_eq_true rfl, Nat.le_of_ble_eq_true rfl⟩, rfl, rfl⟩
theorem l0_Co_fewestSpares__Co_latestIfBorne : jm_l0 mY_Co_fewestSpares mY_Co_latestIfBorne := ⟨⟨Nat.le_of_ble_eq_true rfl, Nat.le_of_ble_eq_true rfl⟩, rfl, rfl⟩
theorem l0_X_added__Co_fewestSpares : jm_l0 mY_X_added mY_Co_fewestSpares := ⟨⟨Nat.le_of_ble_eq_true rfl, Nat.le_of_ble_eq_true rfl⟩, rfl, rfl⟩
theorem ml_X_193 : Cond.methodLink "LyingBeacons" 193 ⟨"LyingBeacons$Council", "fewestSpares", "(II)I"⟩ ∈ jm_tbl := jm_in (List.mem_of_getElem? (i := 608) (by decide +kernel)) rfl
theorem im_Co_fewestSpares : Cond.instanceMethod ⟨"LyingBeacons$Council", "fewestSpares", "(II)I"⟩ ∈ jm_tbl := jm_in (List.mem_of_getElem? (i := 609) (by decide +kernel)) rfl
theorem se_Co_fewestSpares : Cond.selects "LyingBeacons$Council" ⟨"LyingBeacons$Council", "fewestSpares", "(II)I"⟩ ⟨"LyingBeacons$Council", "fewestSpares", "(II)I"⟩ ∈ jm_tbl := jm_in (List.mem_of_getElem? (i := 610) (by decide +kernel)) rfl
theorem l0_Law__X_added (L : Nat) (xs : Nat → Int32) : jm_l0 (mY_Law L xs) mY_X_added := ⟨⟨Nat.le_of_ble_eq_true rfl, Nat.le_of_ble_eq_true rfl⟩, rfl, rfl⟩
def mY_Z_added : jm_Y := (⟨"LyingBeaconsModel", "added", "(I)I"⟩, prog_11_method_53_code, 7, some .int, { frames := 7, cells := 0, slots := 0, locals := 165 }, none)
theorem cw_Z_added : Cond.code (jm_nm mY_Z_added) (jm_cd mY_Z_added) (jm_ml mY_Z_added) (jm_rt mY_Z_added) ∈ jm_tbl := jm_in (List.mem_of_getElem? (i := 1064) (by decide +kernel)) rfl
theorem ok_Z_added : jm_ok mY_Z_added 1 := ⟨by decide, rfl, cw_Z_added, ini_Z, by decide +kernel⟩
theorem l0_Z_added__Z_in : jm_l0 mY_Z_added mY_Z_in := ⟨⟨Nat.le_of_ble_eq_true rfl, Nat.le_of_ble_eq_true rfl⟩, rfl, rfl⟩
theorem l0_Z_added__Z_ear : jm_l0 mY_Z_added mY_Z_ear := ⟨⟨Nat.le_of_ble_eq_true rfl, Nat.le_of_ble_eq_true rfl⟩, rfl, rfl⟩
theorem l0_Z_added__Z_asTold : jm_l0 mY_Z_added mY_Z_asTold := ⟨⟨Nat.le_of_ble_eq_true rfl, Nat.le_of_ble_eq_true rfl⟩, rfl, rfl⟩
theorem l0_Z_added__Z_ofKind : jm_l0 mY_Z_added mY_Z_ofKind := ⟨⟨Nat.le_of_ble_eq_true rfl, Nat.le_of_ble_eq_true rfl⟩, rfl, rfl⟩
theorem l0_Z_added__Z_mostBorne : jm_l0 mY_Z_added mY_Z_mostBorne := ⟨⟨Nat.le_of_ble_eq_true rfl, Nat.le_of_ble_eq_true rfl⟩, rfl, rfl⟩
theorem l0_Z_added__Z_bits : jm_l0 mY_Z_added mY_Z_bits := ⟨⟨Nat.le_of_ble_eq_true rfl, Nat.le_of_ble_eq_true rfl⟩, rfl, rfl⟩
theorem l0_Law__Z_added (L : Nat) (xs : Nat → Int32) : jm_l0 (mY_Law L xs) mY_Z_added := ⟨⟨Nat.le_of_ble_eq_true rfl, Nat.le_of_ble_eq_true rfl⟩, rfl, rfl⟩
theorem ml_Law_87 : Cond.methodLink "LyingBeaconsLaw" 87 ⟨"LyingBeaconsModel", "added", "(I)I"⟩ ∈ jm_tbl := jm_in (List.mem_of_getElem? (i := 1061) (by decide +kernel)) rfl
theorem im_Z_added : Cond.instanceMethod ⟨"LyingBeaconsModel", "added", "(I)I"⟩ ∈ jm_tbl := jm_in (List.mem_of_getElem? (i := 1062) (by decide +kernel)) rfl
theorem se_Z_added : Cond.selects "LyingBeaconsModel" ⟨"LyingBeaconsModel", "added", "(I)I"⟩ ⟨"LyingBeaconsModel", "added", "(I)I"⟩ ∈ jm_tbl := jm_in (List.mem_of_getElem? (i := 1063) (by decide +kernel)) rfl
theorem ml_Law_84 : Cond.methodLink "LyingBeaconsLaw" 84 ⟨"LyingBeacons", "added", "(I)I"⟩ ∈ jm_tbl := jm_in (List.mem_of_getElem? (i := 604) (by decide +kernel)) rfl
theorem im_X_added : Cond.instanceMethod ⟨"LyingBeacons", "added", "(I)I"⟩ ∈ jm_tbl := jm_in (List.mem_of_getElem? (i := 605) (by decide +kernel)) rfl
theorem se_X_added : Cond.selects "LyingBeacons" ⟨"LyingBeacons", "added", "(I)I"⟩ ⟨"LyingBeacons", "added", "(I)I"⟩ ∈ jm_tbl := jm_in (List.mem_of_getElem? (i := 606) (by decide +kernel)) rfl
def mY_X_log : jm_Y := (⟨"LyingBeacons", "log", "(II)I"⟩, prog_1_method_19_code, 4, some .int, { frames := 1, cells := 0, slots := 0, locals := 21 }, none)
theorem cw_X_log : Cond.code (jm_nm mY_X_log) (jm_cd mY_X_log) (jm_ml mY_X_log) (jm_rt mY_X_log) ∈ jm_tbl := jm_in (List.mem_of_getElem? (i := 615) (by decide +kernel)) rfl
theorem ok_X_log : jm_ok mY_X_log 2 := ⟨by decide, rfl, cw_X_log, ini_X, by decide +kernel⟩
theorem l0_X_log__Ne_isHill : jm_l0 mY_X_log mY_Ne_isHill := ⟨⟨Nat.le_of_ble_eq_true rfl, Nat.le_of_ble_eq_true rfl⟩, rfl, rfl⟩
theorem cb_m100 : (Int8.ofInt (-100)).toInt32 = (-100 : Int32) := by decide
theorem fo_X_196 : jm_fo "LyingBeacons" 196 2 6 RX3 TX3 12 := ⟨inY3, rfl, by decide, jm_in (List.mem_of_getElem? (i := 156) (by decide +kernel)) rfl⟩
theorem l0_Law__X_log (L : Nat) (xs : Nat → Int32) : jm_l0 (mY_Law L xs) mY_X_log := ⟨⟨Nat.le_of_ble_eq_true rfl, Nat.le_of_ble_eq_true rfl⟩, rfl, rfl⟩
def mY_Z_log : jm_Y := (⟨"LyingBeaconsModel", "log", "(II)I"⟩, prog_11_method_54_code, 4, some .int, { frames := 2, cells := 0, slots := 0, locals := 46 }, none)
theorem cw_Z_log : Cond.code (jm_nm mY_Z_log) (jm_cd mY_Z_log) (jm_ml mY_Z_log) (jm_rt mY_Z_log) ∈ jm_tbl := jm_in (List.mem_of_getElem? (i := 1068) (by decide +kernel)) rfl
theorem ok_Z_log : jm_ok mY_Z_log 2 := ⟨by decide, rfl, cw_Z_log, ini_Z, by decide +kernel⟩
theorem l0_Z_log__Z_isHill : jm_l0 mY_Z_log mY_Z_isHill := ⟨⟨Nat.le_of_ble_eq_true rfl, Nat.le_of_ble_eq_true rfl⟩, rfl, rfl⟩
theorem kl_Z_231 : Cond.constantLong "LyingBeaconsModel" 231 (-1 : Int64) ∈ jm_tbl := jm_in (List.mem_of_getElem? (i := 1069) (by decide +kernel)) rfl
theorem kl_Z_233 : Cond.constantLong "LyingBeaconsModel" 233 (60 : Int64) ∈ jm_tbl := jm_in (List.mem_of_getElem? (i := 1070) (by decide +kernel)) rfl
theorem l0_Z_log__Z_in : jm_l0 mY_Z_log mY_Z_in := ⟨⟨Nat.le_of_ble_eq_true rfl, Nat.le_of_ble_eq_true rfl⟩, rfl, rfl⟩
theorem l0_Law__Z_log (L : Nat) (xs : Nat → Int32) : jm_l0 (mY_Law L xs) mY_Z_log := ⟨⟨Nat.le_of_ble_eq_true rfl, Nat.le_of_ble_eq_true rfl⟩, rfl, rfl⟩
theorem ml_Law_91 : Cond.methodLink "LyingBeaconsLaw" 91 ⟨"LyingBeaconsModel", "log", "(II)I"⟩ ∈ jm_tbl := jm_in (List.mem_of_getElem? (i := 1065) (by decide +kernel)) rfl
theorem im_Z_log : Cond.instanceMethod ⟨"LyingBeaconsModel", "log", "(II)I"⟩ ∈ jm_tbl := jm_in (List.mem_of_getElem? (i := 1066) (by decide +kernel)) rfl
theorem se_Z_log : Cond.selects "LyingBeaconsModel" ⟨"LyingBeaconsModel", "log", "(II)I"⟩ ⟨"LyingBeaconsModel", "log", "(II)I"⟩ ∈ jm_tbl := jm_in (List.mem_of_getElem? (i := 1067) (by decide +kernel)) rfl
theorem ml_Law_88 : Cond.methodLink "LyingBeaconsLaw" 88 ⟨"LyingBeacons", "log", "(II)I"⟩ ∈ jm_tbl := jm_in (List.mem_of_getElem? (i := 612) (by decide +kernel)) rfl
theorem im_X_log : Cond.instanceMethod ⟨"LyingBeacons", "log", "(II)I"⟩ ∈ jm_tbl := jm_in (List.mem_of_getElem? (i := 613) (by decide +kernel)) rfl
theorem se_X_log : Cond.selects "LyingBeacons" ⟨"LyingBeacons", "log", "(II)I"⟩ ⟨"LyingBeacons", "log", "(II)I"⟩ ∈ jm_tbl := jm_in (List.mem_of_getElem? (i := 614) (by decide +kernel)) rfl
def mY_X_logs : jm_Y := (⟨"LyingBeacons", "logs", "(I)I"⟩, prog_1_method_20_code, 2, some .int, { frames := 5, cells := 0, slots := 0, locals := 118 }, none)
theorem cw_X_logs : Cond.code (jm_nm mY_X_logs) (jm_cd mY_X_logs) (jm_ml mY_X_logs) (jm_rt mY_X_logs) ∈ jm_tbl := jm_in (List.mem_of_getElem? (i := 619) (by decide +kernel)) rfl
theorem ok_X_logs : jm_ok mY_X_logs 1 := ⟨by decide, rfl, cw_X_logs, ini_X, by decide +kernel⟩
def mY_Lo_sureWithoutCause : jm_Y := (⟨"LyingBeacons$Logbook", "sureWithoutCause", "(LLyingBeacons$Net;)I"⟩, prog_4_method_2_code, 1, some .int, { frames := 4, cells := 0, slots := 0, locals := 92 }, none)
theorem cw_Lo_sureWithoutCause : Cond.code (jm_nm mY_Lo_sureWithoutCause) (jm_cd mY_Lo_sureWithoutCause) (jm_ml mY_Lo_sureWithoutCause) (jm_rt mY_Lo_sureWithoutCause) ∈ jm_tbl := jm_in (List.mem_of_getElem? (i := 622) (by decide +kernel)) rfl
theorem ini_Lo : Cond.initialized "LyingBeacons$Logbook" ∈ jm_tbl := jm_in (List.mem_of_getElem? (i := 74) (by decide +kernel)) rfl
theorem ok_Lo_sureWithoutCause : jm_ok mY_Lo_sureWithoutCause 1 := ⟨by decide, rfl, cw_Lo_sureWithoutCause, ini_Lo, by decide +kernel⟩
def mY_Lo_judged : jm_Y := (⟨"LyingBeacons$Logbook", "judged", "(LLyingBeacons$Net;I)I"⟩, prog_4_method_4_code, 4, some .int, { frames := 3, cells := 0, slots := 0, locals := 69 }, none)
theorem cw_Lo_judged : Cond.code (jm_nm mY_Lo_judged) (jm_cd mY_Lo_judged) (jm_ml mY_Lo_judged) (jm_rt mY_Lo_judged) ∈ jm_tbl := jm_in (List.mem_of_getElem? (i := 625) (by decide +kernel)) rfl
theorem ok_Lo_judged : jm_ok mY_Lo_judged 2 := ⟨by decide, rfl, cw_Lo_judged, ini_Lo, by decide +kernel⟩
def mY_Lo_judgement : jm_Y := (⟨"LyingBeacons$Logbook", "judgement", "(LLyingBeacons$Net;I)I"⟩, prog_4_method_5_code, 7, some .int, { frames := 2, cells := 0, slots := 0, locals := 43 }, none)
theorem cw_Lo_judgement : Cond.code (jm_nm mY_Lo_judgement) (jm_cd mY_Lo_judgement) (jm_ml mY_Lo_judgement) (jm_rt mY_Lo_judgement) ∈ jm_tbl := jm_in (List.mem_of_getElem? (i := 628) (by decide +kernel)) rfl
theorem ok_Lo_judgement : jm_ok mY_Lo_judgement 2 := ⟨by decide, rfl, cw_Lo_judgement, ini_Lo, by decide +kernel⟩
theorem fo_Lo_18 : jm_fo "LyingBeacons$Logbook" 18 2 1 RX3 TX3 12 := ⟨inY3, rfl, by decide, jm_in (List.mem_of_getElem? (i := 128) (by decide +kernel)) rfl⟩
theorem fo_Lo_24 : jm_fo "LyingBeacons$Logbook" 24 2 6 RX3 TX3 12 := ⟨inY3, rfl, by decide, jm_in (List.mem_of_getElem? (i := 155) (by decide +kernel)) rfl⟩
def mY_Lo_isBurning : jm_Y := (⟨"LyingBeacons$Logbook", "isBurning", "(I)Z"⟩, prog_4_method_6_code, 1, some .boolean, { frames := 0, cells := 0, slots := 0, locals := 0 }, none)
theorem cw_Lo_isBurning : Cond.code (jm_nm mY_Lo_isBurning) (jm_cd mY_Lo_isBurning) (jm_ml mY_Lo_isBurning) (jm_rt mY_Lo_isBurning) ∈ jm_tbl := jm_in (List.mem_of_getElem? (i := 631) (by decide +kernel)) rfl
theorem ok_Lo_isBurning : jm_ok mY_Lo_isBurning 1 := ⟨by decide, rfl, cw_Lo_isBurning, ini_Lo, by decide +kernel⟩
theorem l0_Lo_judgement__Lo_isBurning : jm_l0 mY_Lo_judgement mY_Lo_isBurning := ⟨⟨Nat.le_of_ble_eq_true rfl, Nat.le_of_ble_eq_true rfl⟩, rfl, rfl⟩
theorem fo_Lo_31 : jm_fo "LyingBeacons$Logbook" 31 2 4 RX3 TX3 12 := ⟨inY3, rfl, by decide, jm_in (List.mem_of_getElem? (i := 146) (by decide +kernel)) rfl⟩
theorem fo_Lo_34 : jm_fo "LyingBeacons$Logbook" 34 2 2 RX3 TX3 12 := ⟨inY3, rfl, by decide, jm_in (List.mem_of_getElem? (i := 134) (by decide +kernel)) rfl⟩
theorem l0_Lo_judgement__Ne_folk : jm_l0 mY_Lo_judgement mY_Ne_folk := ⟨⟨Nat.le_of_ble_eq_true rfl, Nat.le_of_ble_eq_true rfl⟩, rfl, rfl⟩
theorem fo_Lo_41 : jm_fo "LyingBeacons$Logbook" 41 2 3 RX3 TX3 12 := ⟨inY3, rfl, by decide, jm_in (List.mem_of_getElem? (i := 140) (by decide +kernel)) rfl⟩
theorem ml_Lo_37 : Cond.methodLink "LyingBeacons$Logbook" 37 ⟨"LyingBeacons$Net", "folk", "()I"⟩ ∈ jm_tbl := jm_in (List.mem_of_getElem? (i := 632) (by decide +kernel)) rfl
theorem ml_Lo_27 : Cond.methodLink "LyingBeacons$Logbook" 27 ⟨"LyingBeacons$Logbook", "isBurning", "(I)Z"⟩ ∈ jm_tbl := jm_in (List.mem_of_getElem? (i := 629) (by decide +kernel)) rfl
theorem sm_Lo_isBurning : Cond.static ⟨"LyingBeacons$Logbook", "isBurning", "(I)Z"⟩ ∈ jm_tbl := jm_in (List.mem_of_getElem? (i := 630) (by decide +kernel)) rfl
theorem l0_Lo_judged__Lo_judgement : jm_l0 mY_Lo_judged mY_Lo_judgement := ⟨⟨Nat.le_of_ble_eq_true rfl, Nat.le_of_ble_eq_true rfl⟩, rfl, rfl⟩
theorem ml_Lo_15 : Cond.methodLink "LyingBeacons$Logbook" 15 ⟨"LyingBeacons$Logbook", "judgement", "(LLyingBeacons$Net;I)I"⟩ ∈ jm_tbl := jm_in (List.mem_of_getElem? (i := 626) (by decide +kernel)) rfl
theorem sm_Lo_judgement : Cond.static ⟨"LyingBeacons$Logbook", "judgement", "(LLyingBeacons$Net;I)I"⟩ ∈ jm_tbl := jm_in (List.mem_of_getElem? (i := 627) (by decide +kernel)) rfl
theorem l0_Lo_sureWithoutCause__Lo_judged : jm_l0 mY_Lo_sureWithoutCause mY_Lo_judged := ⟨⟨Nat.le_of_ble_eq_true rfl, Nat.le_of_ble_eq_true rfl⟩, rfl, rfl⟩
theorem ml_Lo_11 : Cond.methodLink "LyingBeacons$Logbook" 11 ⟨"LyingBeacons$Logbook", "judged", "(LLyingBeacons$Net;I)I"⟩ ∈ jm_tbl := jm_in (List.mem_of_getElem? (i := 623) (by decide +kernel)) rfl
theorem sm_Lo_judged : Cond.static ⟨"LyingBeacons$Logbook", "judged", "(LLyingBeacons$Net;I)I"⟩ ∈ jm_tbl := jm_in (List.mem_of_getElem? (i := 624) (by decide +kernel)) rfl
theorem l0_X_logs__Lo_sureWithoutCause : jm_l0 mY_X_logs mY_Lo_sureWithoutCause := ⟨⟨Nat.le_of_ble_eq_true rfl, Nat.le_of_ble_eq_true rfl⟩, rfl, rfl⟩
theorem ml_X_199 : Cond.methodLink "LyingBeacons" 199 ⟨"LyingBeacons$Logbook", "sureWithoutCause", "(LLyingBeacons$Net;)I"⟩ ∈ jm_tbl := jm_in (List.mem_of_getElem? (i := 620) (by decide +kernel)) rfl
theorem sm_Lo_sureWithoutCause : Cond.static ⟨"LyingBeacons$Logbook", "sureWithoutCause", "(LLyingBeacons$Net;)I"⟩ ∈ jm_tbl := jm_in (List.mem_of_getElem? (i := 621) (by decide +kernel)) rfl
def mY_Lo_maybeWithoutCause : jm_Y := (⟨"LyingBeacons$Logbook", "maybeWithoutCause", "(LLyingBeacons$Net;)I"⟩, prog_4_method_3_code, 1, some .int, { frames := 4, cells := 0, slots := 0, locals := 92 }, none)
theorem cw_Lo_maybeWithoutCause : Cond.code (jm_nm mY_Lo_maybeWithoutCause) (jm_cd mY_Lo_maybeWithoutCause) (jm_ml mY_Lo_maybeWithoutCause) (jm_rt mY_Lo_maybeWithoutCause) ∈ jm_tbl := jm_in (List.mem_of_getElem? (i := 635) (by decide +kernel)) rfl
theorem ok_Lo_maybeWithoutCause : jm_ok mY_Lo_maybeWithoutCause 1 := ⟨by decide, rfl, cw_Lo_maybeWithoutCause, ini_Lo, by decide +kernel⟩
theorem l0_Lo_maybeWithoutCause__Lo_judged : jm_l0 mY_Lo_maybeWithoutCause mY_Lo_judged := ⟨⟨Nat.le_of_ble_eq_true rfl, Nat.le_of_ble_eq_true rfl⟩, rfl, rfl⟩
theorem l0_X_logs__Lo_maybeWithoutCause : jm_l0 mY_X_logs mY_Lo_maybeWithoutCause := ⟨⟨Nat.le_of_ble_eq_true rfl, Nat.le_of_ble_eq_true rfl⟩, rfl, rfl⟩
theorem ml_X_205 : Cond.methodLink "LyingBeacons" 205 ⟨"LyingBeacons$Logbook", "maybeWithoutCause", "(LLyingBeacons$Net;)I"⟩ ∈ jm_tbl := jm_in (List.mem_of_getElem? (i := 633) (by decide +kernel)) rfl
theorem sm_Lo_maybeWithoutCause : Cond.static ⟨"LyingBeacons$Logbook", "maybeWithoutCause", "(LLyingBeacons$Net;)I"⟩ ∈ jm_tbl := jm_in (List.mem_of_getElem? (i := 634) (by decide +kernel)) rfl
def mY_Lo_toBeAsked : jm_Y := (⟨"LyingBeacons$Logbook", "toBeAsked", "(LLyingBeacons$Net;)I"⟩, prog_4_method_7_code, 7, some .int, { frames := 4, cells := 0, slots := 0, locals := 92 }, none)
theorem cw_Lo_toBeAsked : Cond.code (jm_nm mY_Lo_toBeAsked) (jm_cd mY_Lo_toBeAsked) (jm_ml mY_Lo_toBeAsked) (jm_rt mY_Lo_toBeAsked) ∈ jm_tbl := jm_in (List.mem_of_getElem? (i := 638) (by decide +kernel)) rfl
theorem ok_Lo_toBeAsked : jm_ok mY_Lo_toBeAsked 1 := ⟨by decide, rfl, cw_Lo_toBeAsked, ini_Lo, by decide +kernel⟩
theorem l0_Lo_toBeAsked__Lo_judged : jm_l0 mY_Lo_toBeAsked mY_Lo_judged := ⟨⟨Nat.le_of_ble_eq_true rfl, Nat.le_of_ble_eq_true rfl⟩, rfl, rfl⟩
theorem l0_Lo_toBeAsked__Ne_folk : jm_l0 mY_Lo_toBeAsked mY_Ne_folk := ⟨⟨Nat.le_of_ble_eq_true rfl, Nat.le_of_ble_eq_true rfl⟩, rfl, rfl⟩
theorem l0_Lo_toBeAsked__JI_bitCount : jm_l0 mY_Lo_toBeAsked mY_JI_bitCount := ⟨⟨Nat.le_of_ble_eq_true rfl, Nat.le_of_ble_eq_true rfl⟩, rfl, rfl⟩
theorem ml_Lo_44 : Cond.methodLink "LyingBeacons$Logbook" 44 ⟨"java/lang/Integer", "bitCount", "(I)I"⟩ ∈ jm_tbl := jm_in (List.mem_of_getElem? (i := 639) (by decide +kernel)) rfl
theorem l0_X_logs__Lo_toBeAsked : jm_l0 mY_X_logs mY_Lo_toBeAsked := ⟨⟨Nat.le_of_ble_eq_true rfl, Nat.le_of_ble_eq_true rfl⟩, rfl, rfl⟩
theorem ml_X_208 : Cond.methodLink "LyingBeacons" 208 ⟨"LyingBeacons$Logbook", "toBeAsked", "(LLyingBeacons$Net;)I"⟩ ∈ jm_tbl := jm_in (List.mem_of_getElem? (i := 636) (by decide +kernel)) rfl
theorem sm_Lo_toBeAsked : Cond.static ⟨"LyingBeacons$Logbook", "toBeAsked", "(LLyingBeacons$Net;)I"⟩ ∈ jm_tbl := jm_in (List.mem_of_getElem? (i := 637) (by decide +kernel)) rfl
theorem l0_X_logs__Co_study : jm_l0 mY_X_logs mY_Co_study := ⟨⟨Nat.le_of_ble_eq_true rfl, Nat.le_of_ble_eq_true rfl⟩, rfl, rfl⟩
def mY_Lo_tooSoon : jm_Y := (⟨"LyingBeacons$Logbook", "tooSoon", "(LLyingBeacons$Net;LLyingBeacons$Council;)I"⟩, prog_4_method_8_code, 6, some .int, { frames := 4, cells := 0, slots := 0, locals := 91 }, none)
theorem cw_Lo_tooSoon : Cond.code (jm_nm mY_Lo_tooSoon) (jm_cd mY_Lo_tooSoon) (jm_ml mY_Lo_tooSoon) (jm_rt mY_Lo_tooSoon) ∈ jm_tbl := jm_in (List.mem_of_getElem? (i := 642) (by decide +kernel)) rfl
theorem ok_Lo_tooSoon : jm_ok mY_Lo_tooSoon 2 := ⟨by decide, rfl, cw_Lo_tooSoon, ini_Lo, by decide +kernel⟩
def mY_Lo_earliestHead : jm_Y := (⟨"LyingBeacons$Logbook", "earliestHead", "(LLyingBeacons$Net;)I"⟩, prog_4_method_9_code, 3, some .int, { frames := 1, cells := 0, slots := 0, locals := 21 }, none)
theorem cw_Lo_earliestHead : Cond.code (jm_nm mY_Lo_earliestHead) (jm_cd mY_Lo_earliestHead) (jm_ml mY_Lo_earliestHead) (jm_rt mY_Lo_earliestHead) ∈ jm_tbl := jm_in (List.mem_of_getElem? (i := 645) (by decide +kernel)) rfl
theorem ok_Lo_earliestHead : jm_ok mY_Lo_earliestHead 1 := ⟨by decide, rfl, cw_Lo_earliestHead, ini_Lo, by decide +kernel⟩
theorem ml_Lo_62 : Cond.methodLink "LyingBeacons$Logbook" 62 ⟨"java/lang/Math", "min", "(II)I"⟩ ∈ jm_tbl := jm_in (List.mem_of_getElem? (i := 646) (by decide +kernel)) rfl
theorem l0_Lo_tooSoon__Lo_earliestHead : jm_l0 mY_Lo_tooSoon mY_Lo_earliestHead := ⟨⟨Nat.le_of_ble_eq_true rfl, Nat.le_of_ble_eq_true rfl⟩, rfl, rfl⟩
def mY_Co_spreadFromAllHeads : jm_Y := (⟨"LyingBeacons$Council", "spreadFromAllHeads", "()V"⟩, prog_2_method_9_code, 1, none, { frames := 3, cells := 0, slots := 0, locals := 71 }, none)
theorem cw_Co_spreadFromAllHeads : Cond.code (jm_nm mY_Co_spreadFromAllHeads) (jm_cd mY_Co_spreadFromAllHeads) (jm_ml mY_Co_spreadFromAllHeads) (jm_rt mY_Co_spreadFromAllHeads) ∈ jm_tbl := jm_in (List.mem_of_getElem? (i := 650) (by decide +kernel)) rfl
theorem ok_Co_spreadFromAllHeads : jm_ok mY_Co_spreadFromAllHeads 0 := ⟨by decide, rfl, cw_Co_spreadFromAllHeads, ini_Co, by decide +kernel⟩
theorem l0_Co_spreadFromAllHeads__Co_spread : jm_l0 mY_Co_spreadFromAllHeads mY_Co_spread := ⟨⟨Nat.le_of_ble_eq_true rfl, Nat.le_of_ble_eq_true rfl⟩, rfl, rfl⟩
theorem l0_Lo_tooSoon__Co_spreadFromAllHeads : jm_l0 mY_Lo_tooSoon mY_Co_spreadFromAllHeads := ⟨⟨Nat.le_of_ble_eq_true rfl, Nat.le_of_ble_eq_true rfl⟩, rfl, rfl⟩
theorem l0_Lo_tooSoon__Lo_isBurning : jm_l0 mY_Lo_tooSoon mY_Lo_isBurning := ⟨⟨Nat.le_of_ble_eq_true rfl, Nat.le_of_ble_eq_true rfl⟩, rfl, rfl⟩
def mY_Co_burnsFrom : jm_Y := (⟨"LyingBeacons$Council", "burnsFrom", "(I)I"⟩, prog_2_method_10_code, 3, some .int, { frames := 0, cells := 0, slots := 0, locals := 0 }, none)
theorem cw_Co_burnsFrom : Cond.code (jm_nm mY_Co_burnsFrom) (jm_cd mY_Co_burnsFrom) (jm_ml mY_Co_burnsFrom) (jm_rt mY_Co_burnsFrom) ∈ jm_tbl := jm_in (List.mem_of_getElem? (i := 654) (by decide +kernel)) rfl
theorem ok_Co_burnsFrom : jm_ok mY_Co_burnsFrom 1 := ⟨by decide, rfl, cw_Co_burnsFrom, ini_Co, by decide +kernel⟩
theorem l0_Lo_tooSoon__Co_burnsFrom : jm_l0 mY_Lo_tooSoon mY_Co_burnsFrom := ⟨⟨Nat.le_of_ble_eq_true rfl, Nat.le_of_ble_eq_true rfl⟩, rfl, rfl⟩
theorem ml_Lo_59 : Cond.methodLink "LyingBeacons$Logbook" 59 ⟨"LyingBeacons$Council", "burnsFrom", "(I)I"⟩ ∈ jm_tbl := jm_in (List.mem_of_getElem? (i := 651) (by decide +kernel)) rfl
theorem im_Co_burnsFrom : Cond.instanceMethod ⟨"LyingBeacons$Council", "burnsFrom", "(I)I"⟩ ∈ jm_tbl := jm_in (List.mem_of_getElem? (i := 652) (by decide +kernel)) rfl
theorem se_Co_burnsFrom : Cond.selects "LyingBeacons$Council" ⟨"LyingBeacons$Council", "burnsFrom", "(I)I"⟩ ⟨"LyingBeacons$Council", "burnsFrom", "(I)I"⟩ ∈ jm_tbl := jm_in (List.mem_of_getElem? (i := 653) (by decide +kernel)) rfl
theorem ml_Lo_54 : Cond.methodLink "LyingBeacons$Logbook" 54 ⟨"LyingBeacons$Council", "spreadFromAllHeads", "()V"⟩ ∈ jm_tbl := jm_in (List.mem_of_getElem? (i := 647) (by decide +kernel)) rfl
theorem im_Co_spreadFromAllHeads : Cond.instanceMethod ⟨"LyingBeacons$Council", "spreadFromAllHeads", "()V"⟩ ∈ jm_tbl := jm_in (List.mem_of_getElem? (i := 648) (by decide +kernel)) rfl
theorem se_Co_spreadFromAllHeads : Cond.selects "LyingBeacons$Council" ⟨"LyingBeacons$Council", "spreadFromAllHeads", "()V"⟩ ⟨"LyingBeacons$Council", "spreadFromAllHeads", "()V"⟩ ∈ jm_tbl := jm_in (List.mem_of_getElem? (i := 649) (by decide +kernel)) rfl
theorem ml_Lo_50 : Cond.methodLink "LyingBeacons$Logbook" 50 ⟨"LyingBeacons$Logbook", "earliestHead", "(LLyingBeacons$Net;)I"⟩ ∈ jm_tbl := jm_in (List.mem_of_getElem? (i := 643) (by decide +kernel)) rfl
theorem sm_Lo_earliestHead : Cond.static ⟨"LyingBeacons$Logbook", "earliestHead", "(LLyingBeacons$Net;)I"⟩ ∈ jm_tbl := jm_in (List.mem_of_getElem? (i := 644) (by decide +kernel)) rfl
theorem l0_X_logs__Lo_tooSoon : jm_l0 mY_X_logs mY_Lo_tooSoon := ⟨⟨Nat.le_of_ble_eq_true rfl, Nat.le_of_ble_eq_true rfl⟩, rfl, rfl⟩
theorem ml_X_211 : Cond.methodLink "LyingBeacons" 211 ⟨"LyingBeacons$Logbook", "tooSoon", "(LLyingBeacons$Net;LLyingBeacons$Council;)I"⟩ ∈ jm_tbl := jm_in (List.mem_of_getElem? (i := 640) (by decide +kernel)) rfl
theorem sm_Lo_tooSoon : Cond.static ⟨"LyingBeacons$Logbook", "tooSoon", "(LLyingBeacons$Net;LLyingBeacons$Council;)I"⟩ ∈ jm_tbl := jm_in (List.mem_of_getElem? (i := 641) (by decide +kernel)) rfl
theorem l0_Law__X_logs (L : Nat) (xs : Nat → Int32) : jm_l0 (mY_Law L xs) mY_X_logs := ⟨⟨Nat.le_of_ble_eq_true rfl, Nat.le_of_ble_eq_true rfl⟩, rfl, rfl⟩
def mY_Z_logs : jm_Y := (⟨"LyingBeaconsModel", "logs", "(I)I"⟩, prog_11_method_59_code, 2, some .int, { frames := 4, cells := 0, slots := 0, locals := 99 }, none)
theorem cw_Z_logs : Cond.code (jm_nm mY_Z_logs) (jm_cd mY_Z_logs) (jm_ml mY_Z_logs) (jm_rt mY_Z_logs) ∈ jm_tbl := jm_in (List.mem_of_getElem? (i := 1074) (by decide +kernel)) rfl
theorem ok_Z_logs : jm_ok mY_Z_logs 1 := ⟨by decide, rfl, cw_Z_logs, ini_Z, by decide +kernel⟩
def mY_Z_causes : jm_Y := (⟨"LyingBeaconsModel", "causes", "(I)I"⟩, prog_11_method_56_code, 4, some .int, { frames := 2, cells := 0, slots := 0, locals := 51 }, none)
theorem cw_Z_causes : Cond.code (jm_nm mY_Z_causes) (jm_cd mY_Z_causes) (jm_ml mY_Z_causes) (jm_rt mY_Z_causes) ∈ jm_tbl := jm_in (List.mem_of_getElem? (i := 1078) (by decide +kernel)) rfl
theorem ok_Z_causes : jm_ok mY_Z_causes 1 := ⟨by decide, rfl, cw_Z_causes, ini_Z, by decide +kernel⟩
def mY_Z_cause : jm_Y := (⟨"LyingBeaconsModel", "cause", "(I)I"⟩, prog_11_method_55_code, 7, some .int, { frames := 1, cells := 0, slots := 0, locals := 25 }, none)
theorem cw_Z_cause : Cond.code (jm_nm mY_Z_cause) (jm_cd mY_Z_cause) (jm_ml mY_Z_cause) (jm_rt mY_Z_cause) ∈ jm_tbl := jm_in (List.mem_of_getElem? (i := 1082) (by decide +kernel)) rfl
theorem ok_Z_cause : jm_ok mY_Z_cause 1 := ⟨by decide, rfl, cw_Z_cause, ini_Z, by decide +kernel⟩
theorem l0_Z_cause__Z_in : jm_l0 mY_Z_cause mY_Z_in := ⟨⟨Nat.le_of_ble_eq_true rfl, Nat.le_of_ble_eq_true rfl⟩, rfl, rfl⟩
theorem l0_Z_cause__Z_has : jm_l0 mY_Z_cause mY_Z_has := ⟨⟨Nat.le_of_ble_eq_true rfl, Nat.le_of_ble_eq_true rfl⟩, rfl, rfl⟩
theorem l0_Z_causes__Z_cause : jm_l0 mY_Z_causes mY_Z_cause := ⟨⟨Nat.le_of_ble_eq_true rfl, Nat.le_of_ble_eq_true rfl⟩, rfl, rfl⟩
theorem ml_Z_235 : Cond.methodLink "LyingBeaconsModel" 235 ⟨"LyingBeaconsModel", "cause", "(I)I"⟩ ∈ jm_tbl := jm_in (List.mem_of_getElem? (i := 1079) (by decide +kernel)) rfl
theorem im_Z_cause : Cond.instanceMethod ⟨"LyingBeaconsModel", "cause", "(I)I"⟩ ∈ jm_tbl := jm_in (List.mem_of_getElem? (i := 1081) (by decide +kernel)) rfl
theorem se_Z_cause : Cond.selects "LyingBeaconsModel" ⟨"LyingBeaconsModel", "cause", "(I)I"⟩ ⟨"LyingBeaconsModel", "cause", "(I)I"⟩ ∈ jm_tbl := jm_in (List.mem_of_getElem? (i := 57) (by decide +kernel)) rfl
theorem l0_Z_logs__Z_causes : jm_l0 mY_Z_logs mY_Z_causes := ⟨⟨Nat.le_of_ble_eq_true rfl, Nat.le_of_ble_eq_true rfl⟩, rfl, rfl⟩
theorem ml_Z_238 : Cond.methodLink "LyingBeaconsModel" 238 ⟨"LyingBeaconsModel", "causes", "(I)I"⟩ ∈ jm_tbl := jm_in (List.mem_of_getElem? (i := 1075) (by decide +kernel)) rfl
theorem im_Z_causes : Cond.instanceMethod ⟨"LyingBeaconsModel", "causes", "(I)I"⟩ ∈ jm_tbl := jm_in (List.mem_of_getElem? (i := 1077) (by decide +kernel)) rfl
theorem se_Z_causes : Cond.selects "LyingBeaconsModel" ⟨"LyingBeaconsModel", "causes", "(I)I"⟩ ⟨"LyingBeaconsModel", "causes", "(I)I"⟩ ∈ jm_tbl := jm_in (List.mem_of_getElem? (i := 56) (by decide +kernel)) rfl
def mY_Z_asked : jm_Y := (⟨"LyingBeaconsModel", "asked", "()I"⟩, prog_11_method_57_code, 6, some .int, { frames := 3, cells := 0, slots := 0, locals := 74 }, none)
theorem cw_Z_asked : Cond.code (jm_nm mY_Z_asked) (jm_cd mY_Z_asked) (jm_ml mY_Z_asked) (jm_rt mY_Z_asked) ∈ jm_tbl := jm_in (List.mem_of_getElem? (i := 1086) (by decide +kernel)) rfl
theorem ok_Z_asked : jm_ok mY_Z_asked 0 := ⟨by decide, rfl, cw_Z_asked, ini_Z, by decide +kernel⟩
theorem l0_Z_asked__Z_causes : jm_l0 mY_Z_asked mY_Z_causes := ⟨⟨Nat.le_of_ble_eq_true rfl, Nat.le_of_ble_eq_true rfl⟩, rfl, rfl⟩
theorem l0_Z_asked__Z_bits : jm_l0 mY_Z_asked mY_Z_bits := ⟨⟨Nat.le_of_ble_eq_true rfl, Nat.le_of_ble_eq_true rfl⟩, rfl, rfl⟩
theorem l0_Z_logs__Z_asked : jm_l0 mY_Z_logs mY_Z_asked := ⟨⟨Nat.le_of_ble_eq_true rfl, Nat.le_of_ble_eq_true rfl⟩, rfl, rfl⟩
theorem ml_Z_241 : Cond.methodLink "LyingBeaconsModel" 241 ⟨"LyingBeaconsModel", "asked", "()I"⟩ ∈ jm_tbl := jm_in (List.mem_of_getElem? (i := 1083) (by decide +kernel)) rfl
theorem im_Z_asked : Cond.instanceMethod ⟨"LyingBeaconsModel", "asked", "()I"⟩ ∈ jm_tbl := jm_in (List.mem_of_getElem? (i := 1085) (by decide +kernel)) rfl
theorem se_Z_asked : Cond.selects "LyingBeaconsModel" ⟨"LyingBeaconsModel", "asked", "()I"⟩ ⟨"LyingBeaconsModel", "asked", "()I"⟩ ∈ jm_tbl := jm_in (List.mem_of_getElem? (i := 58) (by decide +kernel)) rfl
def mY_Z_soon : jm_Y := (⟨"LyingBeaconsModel", "soon", "()I"⟩, prog_11_method_58_code, 5, some .int, { frames := 3, cells := 0, slots := 0, locals := 71 }, none)
theorem cw_Z_soon : Cond.code (jm_nm mY_Z_soon) (jm_cd mY_Z_soon) (jm_ml mY_Z_soon) (jm_rt mY_Z_soon) ∈ jm_tbl := jm_in (List.mem_of_getElem? (i := 1090) (by decide +kernel)) rfl
theorem ok_Z_soon : jm_ok mY_Z_soon 0 := ⟨by decide, rfl, cw_Z_soon, ini_Z, by decide +kernel⟩
theorem l0_Z_soon__Z_asTold : jm_l0 mY_Z_soon mY_Z_asTold := ⟨⟨Nat.le_of_ble_eq_true rfl, Nat.le_of_ble_eq_true rfl⟩, rfl, rfl⟩
theorem l0_Z_soon__Z_ofKind : jm_l0 mY_Z_soon mY_Z_ofKind := ⟨⟨Nat.le_of_ble_eq_true rfl, Nat.le_of_ble_eq_true rfl⟩, rfl, rfl⟩
theorem l0_Z_soon__Z_kindle : jm_l0 mY_Z_soon mY_Z_kindle := ⟨⟨Nat.le_of_ble_eq_true rfl, Nat.le_of_ble_eq_true rfl⟩, rfl, rfl⟩
theorem l0_Z_soon__Z_spread : jm_l0 mY_Z_soon mY_Z_spread := ⟨⟨Nat.le_of_ble_eq_true rfl, Nat.le_of_ble_eq_true rfl⟩, rfl, rfl⟩
theorem l0_Z_soon__Z_in : jm_l0 mY_Z_soon mY_Z_in := ⟨⟨Nat.le_of_ble_eq_true rfl, Nat.le_of_ble_eq_true rfl⟩, rfl, rfl⟩
theorem l0_Z_logs__Z_soon : jm_l0 mY_Z_logs mY_Z_soon := ⟨⟨Nat.le_of_ble_eq_true rfl, Nat.le_of_ble_eq_true rfl⟩, rfl, rfl⟩
theorem ml_Z_244 : Cond.methodLink "LyingBeaconsModel" 244 ⟨"LyingBeaconsModel", "soon", "()I"⟩ ∈ jm_tbl := jm_in (List.mem_of_getElem? (i := 1087) (by decide +kernel)) rfl
theorem im_Z_soon : Cond.instanceMethod ⟨"LyingBeaconsModel", "soon", "()I"⟩ ∈ jm_tbl := jm_in (List.mem_of_getElem? (i := 1089) (by decide +kernel)) rfl
theorem se_Z_soon : Cond.selects "LyingBeaconsModel" ⟨"LyingBeaconsModel", "soon", "()I"⟩ ⟨"LyingBeaconsModel", "soon", "()I"⟩ ∈ jm_tbl := jm_in (List.mem_of_getElem? (i := 59) (by decide +kernel)) rfl
theorem l0_Law__Z_logs (L : Nat) (xs : Nat → Int32) : jm_l0 (mY_Law L xs) mY_Z_logs := ⟨⟨Nat.le_of_ble_eq_true rfl, Nat.le_of_ble_eq_true rfl⟩, rfl, rfl⟩
theorem ml_Law_95 : Cond.methodLink "LyingBeaconsLaw" 95 ⟨"LyingBeaconsModel", "logs", "(I)I"⟩ ∈ jm_tbl := jm_in (List.mem_of_getElem? (i := 1071) (by decide +kernel)) rfl
theorem im_Z_logs : Cond.instanceMethod ⟨"LyingBeaconsModel", "logs", "(I)I"⟩ ∈ jm_tbl := jm_in (List.mem_of_getElem? (i := 1072) (by decide +kernel)) rfl
theorem se_Z_logs : Cond.selects "LyingBeaconsModel" ⟨"LyingBeaconsModel", "logs", "(I)I"⟩ ⟨"LyingBeaconsModel", "logs", "(I)I"⟩ ∈ jm_tbl := jm_in (List.mem_of_getElem? (i := 1073) (by decide +kernel)) rfl
theorem ml_Law_92 : Cond.methodLink "LyingBeaconsLaw" 92 ⟨"LyingBeacons", "logs", "(I)I"⟩ ∈ jm_tbl := jm_in (List.mem_of_getElem? (i := 616) (by decide +kernel)) rfl
theorem im_X_logs : Cond.instanceMethod ⟨"LyingBeacons", "logs", "(I)I"⟩ ∈ jm_tbl := jm_in (List.mem_of_getElem? (i := 617) (by decide +kernel)) rfl
theorem se_X_logs : Cond.selects "LyingBeacons" ⟨"LyingBeacons", "logs", "(I)I"⟩ ⟨"LyingBeacons", "logs", "(I)I"⟩ ∈ jm_tbl := jm_in (List.mem_of_getElem? (i := 618) (by decide +kernel)) rfl
def mY_X_sign : jm_Y := (⟨"LyingBeacons", "sign", "(III)I"⟩, prog_1_method_21_code, 5, some .int, { frames := 2, cells := 0, slots := 0, locals := 43 }, none)
theorem cw_X_sign : Cond.code (jm_nm mY_X_sign) (jm_cd mY_X_sign) (jm_ml mY_X_sign) (jm_rt mY_X_sign) ∈ jm_tbl := jm_in (List.mem_of_getElem? (i := 658) (by decide +kernel)) rfl
theorem ok_X_sign : jm_ok mY_X_sign 3 := ⟨by decide, rfl, cw_X_sign, ini_X, by decide +kernel⟩
def mY_X_isSign : jm_Y := (⟨"LyingBeacons", "isSign", "(I)Z"⟩, prog_1_method_33_code, 1, some .boolean, { frames := 0, cells := 0, slots := 0, locals := 0 }, none)
theorem cw_X_isSign : Cond.code (jm_nm mY_X_isSign) (jm_cd mY_X_isSign) (jm_ml mY_X_isSign) (jm_rt mY_X_isSign) ∈ jm_tbl := jm_in (List.mem_of_getElem? (i := 661) (by decide +kernel)) rfl
theorem ok_X_isSign : jm_ok mY_X_isSign 1 := ⟨by decide, rfl, cw_X_isSign, ini_X, by decide +kernel⟩
theorem l0_X_sign__X_isSign : jm_l0 mY_X_sign mY_X_isSign := ⟨⟨Nat.le_of_ble_eq_true rfl, Nat.le_of_ble_eq_true rfl⟩, rfl, rfl⟩
theorem cb_12 : (Int8.ofInt 12).toInt32 = (12 : Int32) := by decide
theorem mr_154_1_11 : mr_154 1 11 = some 53 := by decide
def mY_Si_firesIn : jm_Y := (⟨"LyingBeacons$Signs", "firesIn", "(II)I"⟩, prog_8_method_2_code, 3, some .int, { frames := 1, cells := 0, slots := 0, locals := 20 }, none)
theorem cw_Si_firesIn : Cond.code (jm_nm mY_Si_firesIn) (jm_cd mY_Si_firesIn) (jm_ml mY_Si_firesIn) (jm_rt mY_Si_firesIn) ∈ jm_tbl := jm_in (List.mem_of_getElem? (i := 665) (by decide +kernel)) rfl
theorem ok_Si_firesIn : jm_ok mY_Si_firesIn 2 := ⟨by decide, rfl, cw_Si_firesIn, ini_Si, by decide +kernel⟩
theorem l0_Si_firesIn__X_isSign : jm_l0 mY_Si_firesIn mY_X_isSign := ⟨⟨Nat.le_of_ble_eq_true rfl, Nat.le_of_ble_eq_true rfl⟩, rfl, rfl⟩
theorem le_53_78 : 53 ≤ 78 := by decide
theorem mr_154_53_0 : mr_154 53 0 = some 54 := by decide
theorem le_54_78 : 54 ≤ 78 := by decide
theorem nl_Si_15 : (("LyingBeacons$Signs", 15, ⟨"LyingBeacons", "isSign", "(I)Z"⟩, "LyingBeacons") : String × Nat × MethodName × String) ∈ jm_nest := by decide +kernel
theorem sm_X_isSign : Cond.static ⟨"LyingBeacons", "isSign", "(I)Z"⟩ ∈ jm_tbl := jm_in (List.mem_of_getElem? (i := 660) (by decide +kernel)) rfl
theorem l0_X_sign__Si_firesIn : jm_l0 mY_X_sign mY_Si_firesIn := ⟨⟨Nat.le_of_ble_eq_true rfl, Nat.le_of_ble_eq_true rfl⟩, rfl, rfl⟩
def mY_Si_setFires : jm_Y := (⟨"LyingBeacons$Signs", "setFires", "(III)V"⟩, prog_8_method_3_code, 4, none, { frames := 1, cells := 0, slots := 0, locals := 20 }, none)
theorem cw_Si_setFires : Cond.code (jm_nm mY_Si_setFires) (jm_cd mY_Si_setFires) (jm_ml mY_Si_setFires) (jm_rt mY_Si_setFires) ∈ jm_tbl := jm_in (List.mem_of_getElem? (i := 670) (by decide +kernel)) rfl
theorem ok_Si_setFires : jm_ok mY_Si_setFires 3 := ⟨by decide, rfl, cw_Si_setFires, ini_Si, by decide +kernel⟩
theorem l0_Si_setFires__X_isSign : jm_l0 mY_Si_setFires mY_X_isSign := ⟨⟨Nat.le_of_ble_eq_true rfl, Nat.le_of_ble_eq_true rfl⟩, rfl, rfl⟩
theorem l0_X_sign__Si_setFires : jm_l0 mY_X_sign mY_Si_setFires := ⟨⟨Nat.le_of_ble_eq_true rfl, Nat.le_of_ble_eq_true rfl⟩, rfl, rfl⟩
theorem ml_X_221 : Cond.methodLink "LyingBeacons" 221 ⟨"LyingBeacons$Signs", "setFires", "(III)V"⟩ ∈ jm_tbl := jm_in (List.mem_of_getElem? (i := 667) (by decide +kernel)) rfl
theorem im_Si_setFires : Cond.instanceMethod ⟨"LyingBeacons$Signs", "setFires", "(III)V"⟩ ∈ jm_tbl := jm_in (List.mem_of_getElem? (i := 668) (by decide +kernel)) rfl
theorem se_Si_setFires : Cond.selects "LyingBeacons$Signs" ⟨"LyingBeacons$Signs", "setFires", "(III)V"⟩ ⟨"LyingBeacons$Signs", "setFires", "(III)V"⟩ ∈ jm_tbl := jm_in (List.mem_of_getElem? (i := 669) (by decide +kernel)) rfl
theorem ml_X_218 : Cond.methodLink "LyingBeacons" 218 ⟨"LyingBeacons$Signs", "firesIn", "(II)I"⟩ ∈ jm_tbl := jm_in (List.mem_of_getElem? (i := 662) (by decide +kernel)) rfl
theorem im_Si_firesIn : Cond.instanceMethod ⟨"LyingBeacons$Signs", "firesIn", "(II)I"⟩ ∈ jm_tbl := jm_in (List.mem_of_getElem? (i := 663) (by decide +kernel)) rfl
theorem se_Si_firesIn : Cond.selects "LyingBeacons$Signs" ⟨"LyingBeacons$Signs", "firesIn", "(II)I"⟩ ⟨"LyingBeacons$Signs", "firesIn", "(II)I"⟩ ∈ jm_tbl := jm_in (List.mem_of_getElem? (i := 664) (by decide +kernel)) rfl
theorem ml_X_215 : Cond.methodLink "LyingBeacons" 215 ⟨"LyingBeacons", "isSign", "(I)Z"⟩ ∈ jm_tbl := jm_in (List.mem_of_getElem? (i := 659) (by decide +kernel)) rfl
theorem l0_Law__X_sign (L : Nat) (xs : Nat → Int32) : jm_l0 (mY_Law L xs) mY_X_sign := ⟨⟨Nat.le_of_ble_eq_true rfl, Nat.le_of_ble_eq_true rfl⟩, rfl, rfl⟩
def mY_Z_sign : jm_Y := (⟨"LyingBeaconsModel", "sign", "(III)I"⟩, prog_11_method_60_code, 5, some .int, { frames := 1, cells := 0, slots := 0, locals := 25 }, none)
theorem cw_Z_sign : Cond.code (jm_nm mY_Z_sign) (jm_cd mY_Z_sign) (jm_ml mY_Z_sign) (jm_rt mY_Z_sign) ∈ jm_tbl := jm_in (List.mem_of_getElem? (i := 1094) (by decide +kernel)) rfl
theorem ok_Z_sign : jm_ok mY_Z_sign 3 := ⟨by decide, rfl, cw_Z_sign, ini_Z, by decide +kernel⟩
theorem kl_Z_247 : Cond.constantLong "LyingBeaconsModel" 247 (5 : Int64) ∈ jm_tbl := jm_in (List.mem_of_getElem? (i := 1095) (by decide +kernel)) rfl
theorem l0_Z_sign__Z_in : jm_l0 mY_Z_sign mY_Z_in := ⟨⟨Nat.le_of_ble_eq_true rfl, Nat.le_of_ble_eq_true rfl⟩, rfl, rfl⟩
theorem kl_Z_249 : Cond.constantLong "LyingBeaconsModel" 249 (11 : Int64) ∈ jm_tbl := jm_in (List.mem_of_getElem? (i := 1096) (by decide +kernel)) rfl
theorem kl_Z_251 : Cond.constantLong "LyingBeaconsModel" 251 (3 : Int64) ∈ jm_tbl := jm_in (List.mem_of_getElem? (i := 1097) (by decide +kernel)) rfl
theorem mr_154_59_13 : mr_154 59 13 = some 71 := by decide
theorem le_71_78 : 71 ≤ 78 := by decide
theorem l0_Law__Z_sign (L : Nat) (xs : Nat → Int32) : jm_l0 (mY_Law L xs) mY_Z_sign := ⟨⟨Nat.le_of_ble_eq_true rfl, Nat.le_of_ble_eq_true rfl⟩, rfl, rfl⟩
theorem ml_Law_99 : Cond.methodLink "LyingBeaconsLaw" 99 ⟨"LyingBeaconsModel", "sign", "(III)I"⟩ ∈ jm_tbl := jm_in (List.mem_of_getElem? (i := 1091) (by decide +kernel)) rfl
theorem im_Z_sign : Cond.instanceMethod ⟨"LyingBeaconsModel", "sign", "(III)I"⟩ ∈ jm_tbl := jm_in (List.mem_of_getElem? (i := 1092) (by decide +kernel)) rfl
theorem se_Z_sign : Cond.selects "LyingBeaconsModel" ⟨"LyingBeaconsModel", "sign", "(III)I"⟩ ⟨"LyingBeaconsModel", "sign", "(III)I"⟩ ∈ jm_tbl := jm_in (List.mem_of_getElem? (i := 1093) (by decide +kernel)) rfl
theorem ml_Law_96 : Cond.methodLink "LyingBeaconsLaw" 96 ⟨"LyingBeacons", "sign", "(III)I"⟩ ∈ jm_tbl := jm_in (List.mem_of_getElem? (i := 655) (by decide +kernel)) rfl
theorem im_X_sign : Cond.instanceMethod ⟨"LyingBeacons", "sign", "(III)I"⟩ ∈ jm_tbl := jm_in (List.mem_of_getElem? (i := 656) (by decide +kernel)) rfl
theorem se_X_sign : Cond.selects "LyingBeacons" ⟨"LyingBeacons", "sign", "(III)I"⟩ ⟨"LyingBeacons", "sign", "(III)I"⟩ ∈ jm_tbl := jm_in (List.mem_of_getElem? (i := 657) (by decide +kernel)) rfl
def mY_X_near : jm_Y := (⟨"LyingBeacons", "near", "(II)I"⟩, prog_1_method_22_code, 3, some .int, { frames := 4, cells := 0, slots := 0, locals := 93 }, none)
theorem cw_X_near : Cond.code (jm_nm mY_X_near) (jm_cd mY_X_near) (jm_ml mY_X_near) (jm_rt mY_X_near) ∈ jm_tbl := jm_in (List.mem_of_getElem? (i := 674) (by decide +kernel)) rfl
theorem ok_X_near : jm_ok mY_X_near 2 := ⟨by decide, rfl, cw_X_near, ini_X, by decide +kernel⟩
theorem l0_X_near__X_isSign : jm_l0 mY_X_near mY_X_isSign := ⟨⟨Nat.le_of_ble_eq_true rfl, Nat.le_of_ble_eq_true rfl⟩, rfl, rfl⟩
def mY_Si_fewestTaken : jm_Y := (⟨"LyingBeacons$Signs", "fewestTaken", "(II)I"⟩, prog_8_method_4_code, 5, some .int, { frames := 3, cells := 0, slots := 0, locals := 69 }, none)
theorem cw_Si_fewestTaken : Cond.code (jm_nm mY_Si_fewestTaken) (jm_cd mY_Si_fewestTaken) (jm_ml mY_Si_fewestTaken) (jm_rt mY_Si_fewestTaken) ∈ jm_tbl := jm_in (List.mem_of_getElem? (i := 678) (by decide +kernel)) rfl
theorem ok_Si_fewestTaken : jm_ok mY_Si_fewestTaken 2 := ⟨by decide, rfl, cw_Si_fewestTaken, ini_Si, by decide +kernel⟩
theorem cb_24 : (Int8.ofInt 24).toInt32 = (24 : Int32) := by decide
def mY_Si_takenIfMoved : jm_Y := (⟨"LyingBeacons$Signs", "takenIfMoved", "(III)I"⟩, prog_8_method_5_code, 8, some .int, { frames := 2, cells := 0, slots := 0, locals := 42 }, none)
theorem cw_Si_takenIfMoved : Cond.code (jm_nm mY_Si_takenIfMoved) (jm_cd mY_Si_takenIfMoved) (jm_ml mY_Si_takenIfMoved) (jm_rt mY_Si_takenIfMoved) ∈ jm_tbl := jm_in (List.mem_of_getElem? (i := 682) (by decide +kernel)) rfl
theorem ok_Si_takenIfMoved : jm_ok mY_Si_takenIfMoved 3 := ⟨by decide, rfl, cw_Si_takenIfMoved, ini_Si, by decide +kernel⟩
theorem cb_15 : (Int8.ofInt 15).toInt32 = (15 : Int32) := by decide
theorem l0_Si_takenIfMoved__Si_firesIn : jm_l0 mY_Si_takenIfMoved mY_Si_firesIn := ⟨⟨Nat.le_of_ble_eq_true rfl, Nat.le_of_ble_eq_true rfl⟩, rfl, rfl⟩
theorem ml_Si_29 : Cond.methodLink "LyingBeacons$Signs" 29 ⟨"LyingBeacons$Signs", "firesIn", "(II)I"⟩ ∈ jm_tbl := jm_in (List.mem_of_getElem? (i := 683) (by decide +kernel)) rfl
theorem l0_Si_fewestTaken__Si_takenIfMoved : jm_l0 mY_Si_fewestTaken mY_Si_takenIfMoved := ⟨⟨Nat.le_of_ble_eq_true rfl, Nat.le_of_ble_eq_true rfl⟩, rfl, rfl⟩
theorem ml_Si_23 : Cond.methodLink "LyingBeacons$Signs" 23 ⟨"java/lang/Math", "min", "(II)I"⟩ ∈ jm_tbl := jm_in (List.mem_of_getElem? (i := 684) (by decide +kernel)) rfl
theorem ml_Si_19 : Cond.methodLink "LyingBeacons$Signs" 19 ⟨"LyingBeacons$Signs", "takenIfMoved", "(III)I"⟩ ∈ jm_tbl := jm_in (List.mem_of_getElem? (i := 679) (by decide +kernel)) rfl
theorem im_Si_takenIfMoved : Cond.instanceMethod ⟨"LyingBeacons$Signs", "takenIfMoved", "(III)I"⟩ ∈ jm_tbl := jm_in (List.mem_of_getElem? (i := 681) (by decide +kernel)) rfl
theorem se_Si_takenIfMoved : Cond.selects "LyingBeacons$Signs" ⟨"LyingBeacons$Signs", "takenIfMoved", "(III)I"⟩ ⟨"LyingBeacons$Signs", "takenIfMoved", "(III)I"⟩ ∈ jm_tbl := jm_in (List.mem_of_getElem? (i := 22) (by decide +kernel)) rfl
theorem l0_X_near__Si_fewestTaken : jm_l0 mY_X_near mY_Si_fewestTaken := ⟨⟨Nat.le_of_ble_eq_true rfl, Nat.le_of_ble_eq_true rfl⟩, rfl, rfl⟩
theorem ml_X_225 : Cond.methodLink "LyingBeacons" 225 ⟨"LyingBeacons$Signs", "fewestTaken", "(II)I"⟩ ∈ jm_tbl := jm_in (List.mem_of_getElem? (i := 675) (by decide +kernel)) rfl
theorem im_Si_fewestTaken : Cond.instanceMethod ⟨"LyingBeacons$Signs", "fewestTaken", "(II)I"⟩ ∈ jm_tbl := jm_in (List.mem_of_getElem? (i := 676) (by decide +kernel)) rfl
theorem se_Si_fewestTaken : Cond.selects "LyingBeacons$Signs" ⟨"LyingBeacons$Signs", "fewestTaken", "(II)I"⟩ ⟨"LyingBeacons$Signs", "fewestTaken", "(II)I"⟩ ∈ jm_tbl := jm_in (List.mem_of_getElem? (i := 677) (by decide +kernel)) rfl
theorem l0_Law__X_near (L : Nat) (xs : Nat → Int32) : jm_l0 (mY_Law L xs) mY_X_near := ⟨⟨Nat.le_of_ble_eq_true rfl, Nat.le_of_ble_eq_true rfl⟩, rfl, rfl⟩
def mY_Z_near : jm_Y := (⟨"LyingBeaconsModel", "near", "(II)I"⟩, prog_11_method_61_code, 9, some .int, { frames := 1, cells := 0, slots := 0, locals := 25 }, none)
theorem cw_Z_near : Cond.code (jm_nm mY_Z_near) (jm_cd mY_Z_near) (jm_ml mY_Z_near) (jm_rt mY_Z_near) ∈ jm_tbl := jm_in (List.mem_of_getElem? (i := 1101) (by decide +kernel)) rfl
theorem ok_Z_near : jm_ok mY_Z_near 2 := ⟨by decide, rfl, cw_Z_near, ini_Z, by decide +kernel⟩
theorem l0_Z_near__Z_in : jm_l0 mY_Z_near mY_Z_in := ⟨⟨Nat.le_of_ble_eq_true rfl, Nat.le_of_ble_eq_true rfl⟩, rfl, rfl⟩
theorem l0_Law__Z_near (L : Nat) (xs : Nat → Int32) : jm_l0 (mY_Law L xs) mY_Z_near := ⟨⟨Nat.le_of_ble_eq_true rfl, Nat.le_of_ble_eq_true rfl⟩, rfl, rfl⟩
theorem ml_Law_103 : Cond.methodLink "LyingBeaconsLaw" 103 ⟨"LyingBeaconsModel", "near", "(II)I"⟩ ∈ jm_tbl := jm_in (List.mem_of_getElem? (i := 1098) (by decide +kernel)) rfl
theorem im_Z_near : Cond.instanceMethod ⟨"LyingBeaconsModel", "near", "(II)I"⟩ ∈ jm_tbl := jm_in (List.mem_of_getElem? (i := 1099) (by decide +kernel)) rfl
theorem se_Z_near : Cond.selects "LyingBeaconsModel" ⟨"LyingBeaconsModel", "near", "(II)I"⟩ ⟨"LyingBeaconsModel", "near", "(II)I"⟩ ∈ jm_tbl := jm_in (List.mem_of_getElem? (i := 1100) (by decide +kernel)) rfl
theorem ml_Law_100 : Cond.methodLink "LyingBeaconsLaw" 100 ⟨"LyingBeacons", "near", "(II)I"⟩ ∈ jm_tbl := jm_in (List.mem_of_getElem? (i := 671) (by decide +kernel)) rfl
theorem im_X_near : Cond.instanceMethod ⟨"LyingBeacons", "near", "(II)I"⟩ ∈ jm_tbl := jm_in (List.mem_of_getElem? (i := 672) (by decide +kernel)) rfl
theorem se_X_near : Cond.selects "LyingBeacons" ⟨"LyingBeacons", "near", "(II)I"⟩ ⟨"LyingBeacons", "near", "(II)I"⟩ ∈ jm_tbl := jm_in (List.mem_of_getElem? (i := 673) (by decide +kernel)) rfl
def mY_X_watch : jm_Y := (⟨"LyingBeacons", "watch", "(IIIII)I"⟩, prog_1_method_23_code, 6, some .int, { frames := 2, cells := 0, slots := 0, locals := 48 }, none)
theorem cw_X_watch : Cond.code (jm_nm mY_X_watch) (jm_cd mY_X_watch) (jm_ml mY_X_watch) (jm_rt mY_X_watch) ∈ jm_tbl := jm_in (List.mem_of_getElem? (i := 688) (by decide +kernel)) rfl
theorem ok_X_watch : jm_ok mY_X_watch 5 := ⟨by decide, rfl, cw_X_watch, ini_X, by decide +kernel⟩
def mY_X_isMan : jm_Y := (⟨"LyingBeacons", "isMan", "(I)Z"⟩, prog_1_method_34_code, 1, some .boolean, { frames := 0, cells := 0, slots := 0, locals := 0 }, none)
theorem cw_X_isMan : Cond.code (jm_nm mY_X_isMan) (jm_cd mY_X_isMan) (jm_ml mY_X_isMan) (jm_rt mY_X_isMan) ∈ jm_tbl := jm_in (List.mem_of_getElem? (i := 691) (by decide +kernel)) rfl
theorem ok_X_isMan : jm_ok mY_X_isMan 1 := ⟨by decide, rfl, cw_X_isMan, ini_X, by decide +kernel⟩
theorem l0_X_watch__X_isMan : jm_l0 mY_X_watch mY_X_isMan := ⟨⟨Nat.le_of_ble_eq_true rfl, Nat.le_of_ble_eq_true rfl⟩, rfl, rfl⟩
theorem mr_154_1_12 : mr_154 1 12 = some 55 := by decide
def mY_Wa_come : jm_Y := (⟨"LyingBeacons$Watchmen", "come", "(IIII)V"⟩, prog_9_method_2_code, 5, none, { frames := 0, cells := 0, slots := 0, locals := 0 }, none)
theorem cw_Wa_come : Cond.code (jm_nm mY_Wa_come) (jm_cd mY_Wa_come) (jm_ml mY_Wa_come) (jm_rt mY_Wa_come) ∈ jm_tbl := jm_in (List.mem_of_getElem? (i := 695) (by decide +kernel)) rfl
theorem ok_Wa_come : jm_ok mY_Wa_come 4 := ⟨by decide, rfl, cw_Wa_come, ini_Wa, by decide +kernel⟩
theorem le_55_78 : 55 ≤ 78 := by decide
theorem mr_154_55_0 : mr_154 55 0 = some 56 := by decide
theorem le_56_78 : 56 ≤ 78 := by decide
theorem l0_X_watch__Wa_come : jm_l0 mY_X_watch mY_Wa_come := ⟨⟨Nat.le_of_ble_eq_true rfl, Nat.le_of_ble_eq_true rfl⟩, rfl, rfl⟩
def mY_Wa_hoursWatched : jm_Y := (⟨"LyingBeacons$Watchmen", "hoursWatched", "(I)I"⟩, prog_9_method_3_code, 5, some .int, { frames := 1, cells := 0, slots := 0, locals := 24 }, none)
theorem cw_Wa_hoursWatched : Cond.code (jm_nm mY_Wa_hoursWatched) (jm_cd mY_Wa_hoursWatched) (jm_ml mY_Wa_hoursWatched) (jm_rt mY_Wa_hoursWatched) ∈ jm_tbl := jm_in (List.mem_of_getElem? (i := 699) (by decide +kernel)) rfl
theorem ok_Wa_hoursWatched : jm_ok mY_Wa_hoursWatched 1 := ⟨by decide, rfl, cw_Wa_hoursWatched, ini_Wa, by decide +kernel⟩
def mY_Wa_nextAwake : jm_Y := (⟨"LyingBeacons$Watchmen", "nextAwake", "(I)I"⟩, prog_9_method_4_code, 5, some .int, { frames := 0, cells := 0, slots := 0, locals := 0 }, none)
theorem cw_Wa_nextAwake : Cond.code (jm_nm mY_Wa_nextAwake) (jm_cd mY_Wa_nextAwake) (jm_ml mY_Wa_nextAwake) (jm_rt mY_Wa_nextAwake) ∈ jm_tbl := jm_in (List.mem_of_getElem? (i := 703) (by decide +kernel)) rfl
theorem ok_Wa_nextAwake : jm_ok mY_Wa_nextAwake 1 := ⟨by decide, rfl, cw_Wa_nextAwake, ini_Wa, by decide +kernel⟩
theorem l0_Wa_hoursWatched__Wa_nextAwake : jm_l0 mY_Wa_hoursWatched mY_Wa_nextAwake := ⟨⟨Nat.le_of_ble_eq_true rfl, Nat.le_of_ble_eq_true rfl⟩, rfl, rfl⟩
theorem ml_Wa_15 : Cond.methodLink "LyingBeacons$Watchmen" 15 ⟨"LyingBeacons$Watchmen", "nextAwake", "(I)I"⟩ ∈ jm_tbl := jm_in (List.mem_of_getElem? (i := 700) (by decide +kernel)) rfl
theorem im_Wa_nextAwake : Cond.instanceMethod ⟨"LyingBeacons$Watchmen", "nextAwake", "(I)I"⟩ ∈ jm_tbl := jm_in (List.mem_of_getElem? (i := 702) (by decide +kernel)) rfl
theorem se_Wa_nextAwake : Cond.selects "LyingBeacons$Watchmen" ⟨"LyingBeacons$Watchmen", "nextAwake", "(I)I"⟩ ⟨"LyingBeacons$Watchmen", "nextAwake", "(I)I"⟩ ∈ jm_tbl := jm_in (List.mem_of_getElem? (i := 23) (by decide +kernel)) rfl
theorem l0_X_watch__Wa_hoursWatched : jm_l0 mY_X_watch mY_Wa_hoursWatched := ⟨⟨Nat.le_of_ble_eq_true rfl, Nat.le_of_ble_eq_true rfl⟩, rfl, rfl⟩
theorem ml_X_235 : Cond.methodLink "LyingBeacons" 235 ⟨"LyingBeacons$Watchmen", "hoursWatched", "(I)I"⟩ ∈ jm_tbl := jm_in (List.mem_of_getElem? (i := 696) (by decide +kernel)) rfl
theorem im_Wa_hoursWatched : Cond.instanceMethod ⟨"LyingBeacons$Watchmen", "hoursWatched", "(I)I"⟩ ∈ jm_tbl := jm_in (List.mem_of_getElem? (i := 697) (by decide +kernel)) rfl
theorem se_Wa_hoursWatched : Cond.selects "LyingBeacons$Watchmen" ⟨"LyingBeacons$Watchmen", "hoursWatched", "(I)I"⟩ ⟨"LyingBeacons$Watchmen", "hoursWatched", "(I)I"⟩ ∈ jm_tbl := jm_in (List.mem_of_getElem? (i := 698) (by decide +kernel)) rfl
theorem ml_X_231 : Cond.methodLink "LyingBeacons" 231 ⟨"LyingBeacons$Watchmen", "come", "(IIII)V"⟩ ∈ jm_tbl := jm_in (List.mem_of_getElem? (i := 692) (by decide +kernel)) rfl
theorem im_Wa_come : Cond.instanceMethod ⟨"LyingBeacons$Watchmen", "come", "(IIII)V"⟩ ∈ jm_tbl := jm_in (List.mem_of_getElem? (i := 693) (by decide +kernel)) rfl
theorem se_Wa_come : Cond.selects "LyingBeacons$Watchmen" ⟨"LyingBeacons$Watchmen", "come", "(IIII)V"⟩ ⟨"LyingBeacons$Watchmen", "come", "(IIII)V"⟩ ∈ jm_tbl := jm_in (List.mem_of_getElem? (i := 694) (by decide +kernel)) rfl
theorem ml_X_228 : Cond.methodLink "LyingBeacons" 228 ⟨"LyingBeacons", "isMan", "(I)Z"⟩ ∈ jm_tbl := jm_in (List.mem_of_getElem? (i := 689) (by decide +kernel)) rfl
theorem sm_X_isMan : Cond.static ⟨"LyingBeacons", "isMan", "(I)Z"⟩ ∈ jm_tbl := jm_in (List.mem_of_getElem? (i := 690) (by decide +kernel)) rfl
theorem l0_Law__X_watch (L : Nat) (xs : Nat → Int32) : jm_l0 (mY_Law L xs) mY_X_watch := ⟨⟨Nat.le_of_ble_eq_true rfl, Nat.le_of_ble_eq_true rfl⟩, rfl, rfl⟩
def mY_Z_watch : jm_Y := (⟨"LyingBeaconsModel", "watch", "(IIIII)I"⟩, prog_11_method_62_code, 11, some .int, { frames := 1, cells := 0, slots := 0, locals := 25 }, none)
theorem cw_Z_watch : Cond.code (jm_nm mY_Z_watch) (jm_cd mY_Z_watch) (jm_ml mY_Z_watch) (jm_rt mY_Z_watch) ∈ jm_tbl := jm_in (List.mem_of_getElem? (i := 1105) (by decide +kernel)) rfl
theorem ok_Z_watch : jm_ok mY_Z_watch 5 := ⟨by decide, rfl, cw_Z_watch, ini_Z, by decide +kernel⟩
theorem kl_Z_253 : Cond.constantLong "LyingBeaconsModel" 253 (12 : Int64) ∈ jm_tbl := jm_in (List.mem_of_getElem? (i := 1106) (by decide +kernel)) rfl
theorem l0_Z_watch__Z_in : jm_l0 mY_Z_watch mY_Z_in := ⟨⟨Nat.le_of_ble_eq_true rfl, Nat.le_of_ble_eq_true rfl⟩, rfl, rfl⟩
theorem mr_154_59_29 : mr_154 59 29 = some 78 := by decide
theorem le_78_78 : 78 ≤ 78 := by decide
theorem l0_Law__Z_watch (L : Nat) (xs : Nat → Int32) : jm_l0 (mY_Law L xs) mY_Z_watch := ⟨⟨Nat.le_of_ble_eq_true rfl, Nat.le_of_ble_eq_true rfl⟩, rfl, rfl⟩
theorem ml_Law_108 : Cond.methodLink "LyingBeaconsLaw" 108 ⟨"LyingBeaconsModel", "watch", "(IIIII)I"⟩ ∈ jm_tbl := jm_in (List.mem_of_getElem? (i := 1102) (by decide +kernel)) rfl
theorem im_Z_watch : Cond.instanceMethod ⟨"LyingBeaconsModel", "watch", "(IIIII)I"⟩ ∈ jm_tbl := jm_in (List.mem_of_getElem? (i := 1103) (by decide +kernel)) rfl
theorem se_Z_watch : Cond.selects "LyingBeaconsModel" ⟨"LyingBeaconsModel", "watch", "(IIIII)I"⟩ ⟨"LyingBeaconsModel", "watch", "(IIIII)I"⟩ ∈ jm_tbl := jm_in (List.mem_of_getElem? (i := 1104) (by decide +kernel)) rfl
theorem ml_Law_104 : Cond.methodLink "LyingBeaconsLaw" 104 ⟨"LyingBeacons", "watch", "(IIIII)I"⟩ ∈ jm_tbl := jm_in (List.mem_of_getElem? (i := 685) (by decide +kernel)) rfl
theorem im_X_watch : Cond.instanceMethod ⟨"LyingBeacons", "watch", "(IIIII)I"⟩ ∈ jm_tbl := jm_in (List.mem_of_getElem? (i := 686) (by decide +kernel)) rfl
theorem se_X_watch : Cond.selects "LyingBeacons" ⟨"LyingBeacons", "watch", "(IIIII)I"⟩ ⟨"LyingBeacons", "watch", "(IIIII)I"⟩ ∈ jm_tbl := jm_in (List.mem_of_getElem? (i := 687) (by decide +kernel)) rfl
def mY_X_cost : jm_Y := (⟨"LyingBeacons", "cost", "(II)I"⟩, prog_1_method_24_code, 4, some .int, { frames := 0, cells := 0, slots := 0, locals := 0 }, none)
theorem cw_X_cost : Cond.code (jm_nm mY_X_cost) (jm_cd mY_X_cost) (jm_ml mY_X_cost) (jm_rt mY_X_cost) ∈ jm_tbl := jm_in (List.mem_of_getElem? (i := 707) (by decide +kernel)) rfl
theorem ok_X_cost : jm_ok mY_X_cost 2 := ⟨by decide, rfl, cw_X_cost, ini_X, by decide +kernel⟩
theorem mr_154_1_13 : mr_154 1 13 = some 57 := by decide
theorem fo_X_238 : jm_fo "LyingBeacons" 238 1 0 RX1 TX1 1 := ⟨inY1, rfl, by decide, jm_in (List.mem_of_getElem? (i := 281) (by decide +kernel)) rfl⟩
theorem le_57_78 : 57 ≤ 78 := by decide
theorem mr_154_57_0 : mr_154 57 0 = some 58 := by decide
theorem le_58_78 : 58 ≤ 78 := by decide
theorem l0_Law__X_cost (L : Nat) (xs : Nat → Int32) : jm_l0 (mY_Law L xs) mY_X_cost := ⟨⟨Nat.le_of_ble_eq_true rfl, Nat.le_of_ble_eq_true rfl⟩, rfl, rfl⟩
def mY_Z_cost : jm_Y := (⟨"LyingBeaconsModel", "cost", "(II)I"⟩, prog_11_method_63_code, 4, some .int, { frames := 1, cells := 0, slots := 0, locals := 25 }, none)
theorem cw_Z_cost : Cond.code (jm_nm mY_Z_cost) (jm_cd mY_Z_cost) (jm_ml mY_Z_cost) (jm_rt mY_Z_cost) ∈ jm_tbl := jm_in (List.mem_of_getElem? (i := 1110) (by decide +kernel)) rfl
theorem ok_Z_cost : jm_ok mY_Z_cost 2 := ⟨by decide, rfl, cw_Z_cost, ini_Z, by decide +kernel⟩
theorem l0_Z_cost__Z_in : jm_l0 mY_Z_cost mY_Z_in := ⟨⟨Nat.le_of_ble_eq_true rfl, Nat.le_of_ble_eq_true rfl⟩, rfl, rfl⟩
theorem kl_Z_255 : Cond.constantLong "LyingBeaconsModel" 255 (1000 : Int64) ∈ jm_tbl := jm_in (List.mem_of_getElem? (i := 1111) (by decide +kernel)) rfl
theorem mr_154_59_14 : mr_154 59 14 = some 72 := by decide
theorem le_72_78 : 72 ≤ 78 := by decide
theorem l0_Law__Z_cost (L : Nat) (xs : Nat → Int32) : jm_l0 (mY_Law L xs) mY_Z_cost := ⟨⟨Nat.le_of_ble_eq_true rfl, Nat.le_of_ble_eq_true rfl⟩, rfl, rfl⟩
theorem ml_Law_112 : Cond.methodLink "LyingBeaconsLaw" 112 ⟨"LyingBeaconsModel", "cost", "(II)I"⟩ ∈ jm_tbl := jm_in (List.mem_of_getElem? (i := 1107) (by decide +kernel)) rfl
theorem im_Z_cost : Cond.instanceMethod ⟨"LyingBeaconsModel", "cost", "(II)I"⟩ ∈ jm_tbl := jm_in (List.mem_of_getElem? (i := 1108) (by decide +kernel)) rfl
theorem se_Z_cost : Cond.selects "LyingBeaconsModel" ⟨"LyingBeaconsModel", "cost", "(II)I"⟩ ⟨"LyingBeaconsModel", "cost", "(II)I"⟩ ∈ jm_tbl := jm_in (List.mem_of_getElem? (i := 1109) (by decide +kernel)) rfl
theorem ml_Law_109 : Cond.methodLink "LyingBeaconsLaw" 109 ⟨"LyingBeacons", "cost", "(II)I"⟩ ∈ jm_tbl := jm_in (List.mem_of_getElem? (i := 704) (by decide +kernel)) rfl
theorem im_X_cost : Cond.instanceMethod ⟨"LyingBeacons", "cost", "(II)I"⟩ ∈ jm_tbl := jm_in (List.mem_of_getElem? (i := 705) (by decide +kernel)) rfl
theorem se_X_cost : Cond.selects "LyingBeacons" ⟨"LyingBeacons", "cost", "(II)I"⟩ ⟨"LyingBeacons", "cost", "(II)I"⟩ ∈ jm_tbl := jm_in (List.mem_of_getElem? (i := 706) (by decide +kernel)) rfl
def mY_X_sends : jm_Y := (⟨"LyingBeacons", "sends", "(II)I"⟩, prog_1_method_25_code, 3, some .int, { frames := 1, cells := 0, slots := 0, locals := 23 }, none)
theorem cw_X_sends : Cond.code (jm_nm mY_X_sends) (jm_cd mY_X_sends) (jm_ml mY_X_sends) (jm_rt mY_X_sends) ∈ jm_tbl := jm_in (List.mem_of_getElem? (i := 711) (by decide +kernel)) rfl
theorem ok_X_sends : jm_ok mY_X_sends 2 := ⟨by decide, rfl, cw_X_sends, ini_X, by decide +kernel⟩
def mY_X_isNumberOfNights : jm_Y := (⟨"LyingBeacons", "isNumberOfNights", "(I)Z"⟩, prog_1_method_35_code, 1, some .boolean, { frames := 0, cells := 0, slots := 0, locals := 0 }, none)
theorem cw_X_isNumberOfNights : Cond.code (jm_nm mY_X_isNumberOfNights) (jm_cd mY_X_isNumberOfNights) (jm_ml mY_X_isNumberOfNights) (jm_rt mY_X_isNumberOfNights) ∈ jm_tbl := jm_in (List.mem_of_getElem? (i := 714) (by decide +kernel)) rfl
theorem ok_X_isNumberOfNights : jm_ok mY_X_isNumberOfNights 1 := ⟨by decide, rfl, cw_X_isNumberOfNights, ini_X, by decide +kernel⟩
theorem l0_X_sends__X_isNumberOfNights : jm_l0 mY_X_sends mY_X_isNumberOfNights := ⟨⟨Nat.le_of_ble_eq_true rfl, Nat.le_of_ble_eq_true rfl⟩, rfl, rfl⟩
def mY_Ki_wouldSend : jm_Y := (⟨"LyingBeacons$King", "wouldSend", "(II)Z"⟩, prog_3_method_2_code, 4, some .boolean, { frames := 0, cells := 0, slots := 0, locals := 0 }, none)
theorem cw_Ki_wouldSend : Cond.code (jm_nm mY_Ki_wouldSend) (jm_cd mY_Ki_wouldSend) (jm_ml mY_Ki_wouldSend) (jm_rt mY_Ki_wouldSend) ∈ jm_tbl := jm_in (List.mem_of_getElem? (i := 718) (by decide +kernel)) rfl
theorem ok_Ki_wouldSend : jm_ok mY_Ki_wouldSend 2 := ⟨by decide, rfl, cw_Ki_wouldSend, ini_Ki, by decide +kernel⟩
theorem l0_X_sends__Ki_wouldSend : jm_l0 mY_X_sends mY_Ki_wouldSend := ⟨⟨Nat.le_of_ble_eq_true rfl, Nat.le_of_ble_eq_true rfl⟩, rfl, rfl⟩
theorem ml_X_244 : Cond.methodLink "LyingBeacons" 244 ⟨"LyingBeacons$King", "wouldSend", "(II)Z"⟩ ∈ jm_tbl := jm_in (List.mem_of_getElem? (i := 715) (by decide +kernel)) rfl
theorem im_Ki_wouldSend : Cond.instanceMethod ⟨"LyingBeacons$King", "wouldSend", "(II)Z"⟩ ∈ jm_tbl := jm_in (List.mem_of_getElem? (i := 716) (by decide +kernel)) rfl
theorem se_Ki_wouldSend : Cond.selects "LyingBeacons$King" ⟨"LyingBeacons$King", "wouldSend", "(II)Z"⟩ ⟨"LyingBeacons$King", "wouldSend", "(II)Z"⟩ ∈ jm_tbl := jm_in (List.mem_of_getElem? (i := 717) (by decide +kernel)) rfl
theorem ml_X_241 : Cond.methodLink "LyingBeacons" 241 ⟨"LyingBeacons", "isNumberOfNights", "(I)Z"⟩ ∈ jm_tbl := jm_in (List.mem_of_getElem? (i := 712) (by decide +kernel)) rfl
theorem sm_X_isNumberOfNights : Cond.static ⟨"LyingBeacons", "isNumberOfNights", "(I)Z"⟩ ∈ jm_tbl := jm_in (List.mem_of_getElem? (i := 713) (by decide +kernel)) rfl
theorem l0_Law__X_sends (L : Nat) (xs : Nat → Int32) : jm_l0 (mY_Law L xs) mY_X_sends := ⟨⟨Nat.le_of_ble_eq_true rfl, Nat.le_of_ble_eq_true rfl⟩, rfl, rfl⟩
def mY_Z_sends : jm_Y := (⟨"LyingBeaconsModel", "sends", "(II)I"⟩, prog_11_method_66_code, 3, some .int, { frames := 2, cells := 0, slots := 0, locals := 46 }, none)
theorem cw_Z_sends : Cond.code (jm_nm mY_Z_sends) (jm_cd mY_Z_sends) (jm_ml mY_Z_sends) (jm_rt mY_Z_sends) ∈ jm_tbl := jm_in (List.mem_of_getElem? (i := 1115) (by decide +kernel)) rfl
theorem ok_Z_sends : jm_ok mY_Z_sends 2 := ⟨by decide, rfl, cw_Z_sends, ini_Z, by decide +kernel⟩
def mY_Z_areNights : jm_Y := (⟨"LyingBeaconsModel", "areNights", "(II)Z"⟩, prog_11_method_65_code, 2, some .boolean, { frames := 1, cells := 0, slots := 0, locals := 25 }, none)
theorem cw_Z_areNights : Cond.code (jm_nm mY_Z_areNights) (jm_cd mY_Z_areNights) (jm_ml mY_Z_areNights) (jm_rt mY_Z_areNights) ∈ jm_tbl := jm_in (List.mem_of_getElem? (i := 1118) (by decide +kernel)) rfl
theorem ok_Z_areNights : jm_ok mY_Z_areNights 2 := ⟨by decide, rfl, cw_Z_areNights, ini_Z, by decide +kernel⟩
theorem kl_Z_257 : Cond.constantLong "LyingBeaconsModel" 257 (100 : Int64) ∈ jm_tbl := jm_in (List.mem_of_getElem? (i := 1119) (by decide +kernel)) rfl
theorem l0_Z_areNights__Z_in : jm_l0 mY_Z_areNights mY_Z_in := ⟨⟨Nat.le_of_ble_eq_true rfl, Nat.le_of_ble_eq_true rfl⟩, rfl, rfl⟩
theorem l0_Z_sends__Z_areNights : jm_l0 mY_Z_sends mY_Z_areNights := ⟨⟨Nat.le_of_ble_eq_true rfl, Nat.le_of_ble_eq_true rfl⟩, rfl, rfl⟩
def mY_Z_doesSend : jm_Y := (⟨"LyingBeaconsModel", "doesSend", "(II)Z"⟩, prog_11_method_64_code, 3, some .boolean, { frames := 0, cells := 0, slots := 0, locals := 0 }, none)
theorem cw_Z_doesSend : Cond.code (jm_nm mY_Z_doesSend) (jm_cd mY_Z_doesSend) (jm_ml mY_Z_doesSend) (jm_rt mY_Z_doesSend) ∈ jm_tbl := jm_in (List.mem_of_getElem? (i := 1123) (by decide +kernel)) rfl
theorem ok_Z_doesSend : jm_ok mY_Z_doesSend 2 := ⟨by decide, rfl, cw_Z_doesSend, ini_Z, by decide +kernel⟩
theorem l0_Z_sends__Z_doesSend : jm_l0 mY_Z_sends mY_Z_doesSend := ⟨⟨Nat.le_of_ble_eq_true rfl, Nat.le_of_ble_eq_true rfl⟩, rfl, rfl⟩
theorem ml_Z_262 : Cond.methodLink "LyingBeaconsModel" 262 ⟨"LyingBeaconsModel", "doesSend", "(II)Z"⟩ ∈ jm_tbl := jm_in (List.mem_of_getElem? (i := 1120) (by decide +kernel)) rfl
theorem im_Z_doesSend : Cond.instanceMethod ⟨"LyingBeaconsModel", "doesSend", "(II)Z"⟩ ∈ jm_tbl := jm_in (List.mem_of_getElem? (i := 1122) (by decide +kernel)) rfl
theorem se_Z_doesSend : Cond.selects "LyingBeaconsModel" ⟨"LyingBeaconsModel", "doesSend", "(II)Z"⟩ ⟨"LyingBeaconsModel", "doesSend", "(II)Z"⟩ ∈ jm_tbl := jm_in (List.mem_of_getElem? (i := 60) (by decide +kernel)) rfl
theorem ml_Z_259 : Cond.methodLink "LyingBeaconsModel" 259 ⟨"LyingBeaconsModel", "areNights", "(II)Z"⟩ ∈ jm_tbl := jm_in (List.mem_of_getElem? (i := 1116) (by decide +kernel)) rfl
theorem sm_Z_areNights : Cond.static ⟨"LyingBeaconsModel", "areNights", "(II)Z"⟩ ∈ jm_tbl := jm_in (List.mem_of_getElem? (i := 1117) (by decide +kernel)) rfl
theorem l0_Law__Z_sends (L : Nat) (xs : Nat → Int32) : jm_l0 (mY_Law L xs) mY_Z_sends := ⟨⟨Nat.le_of_ble_eq_true rfl, Nat.le_of_ble_eq_true rfl⟩, rfl, rfl⟩
theorem ml_Law_116 : Cond.methodLink "LyingBeaconsLaw" 116 ⟨"LyingBeaconsModel", "sends", "(II)I"⟩ ∈ jm_tbl := jm_in (List.mem_of_getElem? (i := 1112) (by decide +kernel)) rfl
theorem im_Z_sends : Cond.instanceMethod ⟨"LyingBeaconsModel", "sends", "(II)I"⟩ ∈ jm_tbl := jm_in (List.mem_of_getElem? (i := 1113) (by decide +kernel)) rfl
theorem se_Z_sends : Cond.selects "LyingBeaconsModel" ⟨"LyingBeaconsModel", "sends", "(II)I"⟩ ⟨"LyingBeaconsModel", "sends", "(II)I"⟩ ∈ jm_tbl := jm_in (List.mem_of_getElem? (i := 1114) (by decide +kernel)) rfl
theorem ml_Law_113 : Cond.methodLink "LyingBeaconsLaw" 113 ⟨"LyingBeacons", "sends", "(II)I"⟩ ∈ jm_tbl := jm_in (List.mem_of_getElem? (i := 708) (by decide +kernel)) rfl
theorem im_X_sends : Cond.instanceMethod ⟨"LyingBeacons", "sends", "(II)I"⟩ ∈ jm_tbl := jm_in (List.mem_of_getElem? (i := 709) (by decide +kernel)) rfl
theorem se_X_sends : Cond.selects "LyingBeacons" ⟨"LyingBeacons", "sends", "(II)I"⟩ ⟨"LyingBeacons", "sends", "(II)I"⟩ ∈ jm_tbl := jm_in (List.mem_of_getElem? (i := 710) (by decide +kernel)) rfl
def mY_X_unbelieved : jm_Y := (⟨"LyingBeacons", "unbelieved", "(II)I"⟩, prog_1_method_26_code, 3, some .int, { frames := 2, cells := 0, slots := 0, locals := 46 }, none)
theorem cw_X_unbelieved : Cond.code (jm_nm mY_X_unbelieved) (jm_cd mY_X_unbelieved) (jm_ml mY_X_unbelieved) (jm_rt mY_X_unbelieved) ∈ jm_tbl := jm_in (List.mem_of_getElem? (i := 722) (by decide +kernel)) rfl
theorem ok_X_unbelieved : jm_ok mY_X_unbelieved 2 := ⟨by decide, rfl, cw_X_unbelieved, ini_X, by decide +kernel⟩
theorem l0_X_unbelieved__X_isNumberOfNights : jm_l0 mY_X_unbelieved mY_X_isNumberOfNights := ⟨⟨Nat.le_of_ble_eq_true rfl, Nat.le_of_ble_eq_true rfl⟩, rfl, rfl⟩
def mY_Ki_moreFalseNights : jm_Y := (⟨"LyingBeacons$King", "moreFalseNights", "(II)I"⟩, prog_3_method_3_code, 4, some .int, { frames := 1, cells := 0, slots := 0, locals := 23 }, none)
theorem cw_Ki_moreFalseNights : Cond.code (jm_nm mY_Ki_moreFalseNights) (jm_cd mY_Ki_moreFalseNights) (jm_ml mY_Ki_moreFalseNights) (jm_rt mY_Ki_moreFalseNights) ∈ jm_tbl := jm_in (List.mem_of_getElem? (i := 726) (by decide +kernel)) rfl
theorem ok_Ki_moreFalseNights : jm_ok mY_Ki_moreFalseNights 2 := ⟨by decide, rfl, cw_Ki_moreFalseNights, ini_Ki, by decide +kernel⟩
theorem l0_Ki_moreFalseNights__Ki_wouldSend : jm_l0 mY_Ki_moreFalseNights mY_Ki_wouldSend := ⟨⟨Nat.le_of_ble_eq_true rfl, Nat.le_of_ble_eq_true rfl⟩, rfl, rfl⟩
theorem ml_Ki_15 : Cond.methodLink "LyingBeacons$King" 15 ⟨"LyingBeacons$King", "wouldSend", "(II)Z"⟩ ∈ jm_tbl := jm_in (List.mem_of_getElem? (i := 727) (by decide +kernel)) rfl
theorem l0_X_unbelieved__Ki_moreFalseNights : jm_l0 mY_X_unbelieved mY_Ki_moreFalseNights := ⟨⟨Nat.le_of_ble_eq_true rfl, Nat.le_of_ble_eq_true rfl⟩, rfl, rfl⟩
theorem ml_X_247 : Cond.methodLink "LyingBeacons" 247 ⟨"LyingBeacons$King", "moreFalseNights", "(II)I"⟩ ∈ jm_tbl := jm_in (List.mem_of_getElem? (i := 723) (by decide +kernel)) rfl
theorem im_Ki_moreFalseNights : Cond.instanceMethod ⟨"LyingBeacons$King", "moreFalseNights", "(II)I"⟩ ∈ jm_tbl := jm_in (List.mem_of_getElem? (i := 724) (by decide +kernel)) rfl
theorem se_Ki_moreFalseNights : Cond.selects "LyingBeacons$King" ⟨"LyingBeacons$King", "moreFalseNights", "(II)I"⟩ ⟨"LyingBeacons$King", "moreFalseNights", "(II)I"⟩ ∈ jm_tbl := jm_in (List.mem_of_getElem? (i := 725) (by decide +kernel)) rfl
theorem l0_Law__X_unbelieved (L : Nat) (xs : Nat → Int32) : jm_l0 (mY_Law L xs) mY_X_unbelieved := ⟨⟨Nat.le_of_ble_eq_true rfl, Nat.le_of_ble_eq_true rfl⟩, rfl, rfl⟩
def mY_Z_unbelieved : jm_Y := (⟨"LyingBeaconsModel", "unbelieved", "(II)I"⟩, prog_11_method_67_code, 4, some .int, { frames := 2, cells := 0, slots := 0, locals := 46 }, none)
theorem cw_Z_unbelieved : Cond.code (jm_nm mY_Z_unbelieved) (jm_cd mY_Z_unbelieved) (jm_ml mY_Z_unbelieved) (jm_rt mY_Z_unbelieved) ∈ jm_tbl := jm_in (List.mem_of_getElem? (i := 1127) (by decide +kernel)) rfl
theorem ok_Z_unbelieved : jm_ok mY_Z_unbelieved 2 := ⟨by decide, rfl, cw_Z_unbelieved, ini_Z, by decide +kernel⟩
theorem l0_Z_unbelieved__Z_areNights : jm_l0 mY_Z_unbelieved mY_Z_areNights := ⟨⟨Nat.le_of_ble_eq_true rfl, Nat.le_of_ble_eq_true rfl⟩, rfl, rfl⟩
theorem l0_Z_unbelieved__Z_doesSend : jm_l0 mY_Z_unbelieved mY_Z_doesSend := ⟨⟨Nat.le_of_ble_eq_true rfl, Nat.le_of_ble_eq_true rfl⟩, rfl, rfl⟩
theorem l0_Law__Z_unbelieved (L : Nat) (xs : Nat → Int32) : jm_l0 (mY_Law L xs) mY_Z_unbelieved := ⟨⟨Nat.le_of_ble_eq_true rfl, Nat.le_of_ble_eq_true rfl⟩, rfl, rfl⟩
theorem ml_Law_120 : Cond.methodLink "LyingBeaconsLaw" 120 ⟨"LyingBeaconsModel", "unbelieved", "(II)I"⟩ ∈ jm_tbl := jm_in (List.mem_of_getElem? (i := 1124) (by decide +kernel)) rfl
theorem im_Z_unbelieved : Cond.instanceMethod ⟨"LyingBeaconsModel", "unbelieved", "(II)I"⟩ ∈ jm_tbl := jm_in (List.mem_of_getElem? (i := 1125) (by decide +kernel)) rfl
theorem se_Z_unbelieved : Cond.selects "LyingBeaconsModel" ⟨"LyingBeaconsModel", "unbelieved", "(II)I"⟩ ⟨"LyingBeaconsModel", "unbelieved", "(II)I"⟩ ∈ jm_tbl := jm_in (List.mem_of_getElem? (i := 1126) (by decide +kernel)) rfl
theorem ml_Law_117 : Cond.methodLink "LyingBeaconsLaw" 117 ⟨"LyingBeacons", "unbelieved", "(II)I"⟩ ∈ jm_tbl := jm_in (List.mem_of_getElem? (i := 719) (by decide +kernel)) rfl
theorem im_X_unbelieved : Cond.instanceMethod ⟨"LyingBeacons", "unbelieved", "(II)I"⟩ ∈ jm_tbl := jm_in (List.mem_of_getElem? (i := 720) (by decide +kernel)) rfl
theorem se_X_unbelieved : Cond.selects "LyingBeacons" ⟨"LyingBeacons", "unbelieved", "(II)I"⟩ ⟨"LyingBeacons", "unbelieved", "(II)I"⟩ ∈ jm_tbl := jm_in (List.mem_of_getElem? (i := 721) (by decide +kernel)) rfl
def mY_X_keep : jm_Y := (⟨"LyingBeacons", "keep", "()I"⟩, prog_1_method_27_code, 2, some .int, { frames := 1, cells := 0, slots := 0, locals := 22 }, none)
theorem cw_X_keep : Cond.code (jm_nm mY_X_keep) (jm_cd mY_X_keep) (jm_ml mY_X_keep) (jm_rt mY_X_keep) ∈ jm_tbl := jm_in (List.mem_of_getElem? (i := 731) (by decide +kernel)) rfl
theorem ok_X_keep : jm_ok mY_X_keep 0 := ⟨by decide, rfl, cw_X_keep, ini_X, by decide +kernel⟩
theorem mr_154_1_6 : mr_154 1 6 = some 35 := by decide
theorem le_35_78 : 35 ≤ 78 := by decide
theorem mr_154_35_9 : mr_154 35 9 = some 44 := by decide
theorem le_44_78 : 44 ≤ 78 := by decide
theorem mr_154_35_1 : mr_154 35 1 = some 36 := by decide
theorem mr_154_35_2 : mr_154 35 2 = some 37 := by decide
theorem mr_154_35_3 : mr_154 35 3 = some 38 := by decide
theorem mr_154_35_4 : mr_154 35 4 = some 39 := by decide
theorem mr_154_35_5 : mr_154 35 5 = some 40 := by decide
theorem mr_154_35_6 : mr_154 35 6 = some 41 := by decide
theorem mr_154_35_7 : mr_154 35 7 = some 42 := by decide
theorem mr_154_35_8 : mr_154 35 8 = some 43 := by decide
theorem le_43_78 : 43 ≤ 78 := by decide
theorem le_42_78 : 42 ≤ 78 := by decide
theorem le_41_78 : 41 ≤ 78 := by decide
theorem le_40_78 : 40 ≤ 78 := by decide
theorem le_39_78 : 39 ≤ 78 := by decide
theorem le_38_78 : 38 ≤ 78 := by decide
theorem le_37_78 : 37 ≤ 78 := by decide
theorem le_36_78 : 36 ≤ 78 := by decide
theorem l0_X_keep__Ne_become : jm_l0 mY_X_keep mY_Ne_become := ⟨⟨Nat.le_of_ble_eq_true rfl, Nat.le_of_ble_eq_true rfl⟩, rfl, rfl⟩
theorem mr_154_1_5 : mr_154 1 5 = some 25 := by decide
theorem le_25_78 : 25 ≤ 78 := by decide
theorem mr_154_25_9 : mr_154 25 9 = some 34 := by decide
theorem le_34_78 : 34 ≤ 78 := by decide
theorem mr_154_25_1 : mr_154 25 1 = some 26 := by decide
theorem mr_154_25_2 : mr_154 25 2 = some 27 := by decide
theorem mr_154_25_3 : mr_154 25 3 = some 28 := by decide
theorem mr_154_25_4 : mr_154 25 4 = some 29 := by decide
theorem mr_154_25_5 : mr_154 25 5 = some 30 := by decide
theorem mr_154_25_6 : mr_154 25 6 = some 31 := by decide
theorem mr_154_25_7 : mr_154 25 7 = some 32 := by decide
theorem mr_154_25_8 : mr_154 25 8 = some 33 := by decide
theorem le_33_78 : 33 ≤ 78 := by decide
theorem le_32_78 : 32 ≤ 78 := by decide
theorem le_31_78 : 31 ≤ 78 := by decide
theorem le_30_78 : 30 ≤ 78 := by decide
theorem le_29_78 : 29 ≤ 78 := by decide
theorem le_28_78 : 28 ≤ 78 := by decide
theorem le_27_78 : 27 ≤ 78 := by decide
theorem le_26_78 : 26 ≤ 78 := by decide
theorem l0_Law__X_keep (L : Nat) (xs : Nat → Int32) : jm_l0 (mY_Law L xs) mY_X_keep := ⟨⟨Nat.le_of_ble_eq_true rfl, Nat.le_of_ble_eq_true rfl⟩, rfl, rfl⟩
def mY_Z_keep : jm_Y := (⟨"LyingBeaconsModel", "keep", "()I"⟩, prog_11_method_69_code, 1, some .int, { frames := 2, cells := 0, slots := 0, locals := 46 }, none)
theorem cw_Z_keep : Cond.code (jm_nm mY_Z_keep) (jm_cd mY_Z_keep) (jm_ml mY_Z_keep) (jm_rt mY_Z_keep) ∈ jm_tbl := jm_in (List.mem_of_getElem? (i := 1131) (by decide +kernel)) rfl
theorem ok_Z_keep : jm_ok mY_Z_keep 0 := ⟨by decide, rfl, cw_Z_keep, ini_Z, by decide +kernel⟩
theorem fo_Z_265 : jm_fo "LyingBeaconsModel" 265 8 12 RX9 TX9 30 := ⟨inY9, rfl, by decide, jm_in (List.mem_of_getElem? (i := 772) (by decide +kernel)) rfl⟩
def mY_Z_copyAll : jm_Y := (⟨"LyingBeaconsModel", "copyAll", "(II)V"⟩, prog_11_method_68_code, 4, none, { frames := 1, cells := 0, slots := 0, locals := 23 }, none)
theorem cw_Z_copyAll : Cond.code (jm_nm mY_Z_copyAll) (jm_cd mY_Z_copyAll) (jm_ml mY_Z_copyAll) (jm_rt mY_Z_copyAll) ∈ jm_tbl := jm_in (List.mem_of_getElem? (i := 1135) (by decide +kernel)) rfl
theorem ok_Z_copyAll : jm_ok mY_Z_copyAll 2 := ⟨by decide, rfl, cw_Z_copyAll, ini_Z, by decide +kernel⟩
theorem l0_Z_copyAll__Z_copy : jm_l0 mY_Z_copyAll mY_Z_copy := ⟨⟨Nat.le_of_ble_eq_true rfl, Nat.le_of_ble_eq_true rfl⟩, rfl, rfl⟩
theorem l0_Z_keep__Z_copyAll : jm_l0 mY_Z_keep mY_Z_copyAll := ⟨⟨Nat.le_of_ble_eq_true rfl, Nat.le_of_ble_eq_true rfl⟩, rfl, rfl⟩
theorem fp_Z_265 : jm_fp "LyingBeaconsModel" 265 8 12 RX9 TX9 30 false .int := ⟨fo_Z_265, ⟨tyX9, tyX9_ok⟩, nmX9, rfl, by decide +kernel, fun h => by first | rfl | cases h⟩
theorem ml_Z_268 : Cond.methodLink "LyingBeaconsModel" 268 ⟨"LyingBeaconsModel", "copyAll", "(II)V"⟩ ∈ jm_tbl := jm_in (List.mem_of_getElem? (i := 1132) (by decide +kernel)) rfl
theorem im_Z_copyAll : Cond.instanceMethod ⟨"LyingBeaconsModel", "copyAll", "(II)V"⟩ ∈ jm_tbl := jm_in (List.mem_of_getElem? (i := 1134) (by decide +kernel)) rfl
theorem se_Z_copyAll : Cond.selects "LyingBeaconsModel" ⟨"LyingBeaconsModel", "copyAll", "(II)V"⟩ ⟨"LyingBeaconsModel", "copyAll", "(II)V"⟩ ∈ jm_tbl := jm_in (List.mem_of_getElem? (i := 61) (by decide +kernel)) rfl
theorem l0_Law__Z_keep (L : Nat) (xs : Nat → Int32) : jm_l0 (mY_Law L xs) mY_Z_keep := ⟨⟨Nat.le_of_ble_eq_true rfl, Nat.le_of_ble_eq_true rfl⟩, rfl, rfl⟩
theorem ml_Law_124 : Cond.methodLink "LyingBeaconsLaw" 124 ⟨"LyingBeaconsModel", "keep", "()I"⟩ ∈ jm_tbl := jm_in (List.mem_of_getElem? (i := 1128) (by decide +kernel)) rfl
theorem im_Z_keep : Cond.instanceMethod ⟨"LyingBeaconsModel", "keep", "()I"⟩ ∈ jm_tbl := jm_in (List.mem_of_getElem? (i := 1129) (by decide +kernel)) rfl
theorem se_Z_keep : Cond.selects "LyingBeaconsModel" ⟨"LyingBeaconsModel", "keep", "()I"⟩ ⟨"LyingBeaconsModel", "keep", "()I"⟩ ∈ jm_tbl := jm_in (List.mem_of_getElem? (i := 1130) (by decide +kernel)) rfl
theorem ml_Law_121 : Cond.methodLink "LyingBeaconsLaw" 121 ⟨"LyingBeacons", "keep", "()I"⟩ ∈ jm_tbl := jm_in (List.mem_of_getElem? (i := 728) (by decide +kernel)) rfl
theorem im_X_keep : Cond.instanceMethod ⟨"LyingBeacons", "keep", "()I"⟩ ∈ jm_tbl := jm_in (List.mem_of_getElem? (i := 729) (by decide +kernel)) rfl
theorem se_X_keep : Cond.selects "LyingBeacons" ⟨"LyingBeacons", "keep", "()I"⟩ ⟨"LyingBeacons", "keep", "()I"⟩ ∈ jm_tbl := jm_in (List.mem_of_getElem? (i := 730) (by decide +kernel)) rfl
def mY_X_back : jm_Y := (⟨"LyingBeacons", "back", "()I"⟩, prog_1_method_28_code, 1, some .int, { frames := 1, cells := 0, slots := 0, locals := 22 }, none)
theorem cw_X_back : Cond.code (jm_nm mY_X_back) (jm_cd mY_X_back) (jm_ml mY_X_back) (jm_rt mY_X_back) ∈ jm_tbl := jm_in (List.mem_of_getElem? (i := 735) (by decide +kernel)) rfl
theorem ok_X_back : jm_ok mY_X_back 0 := ⟨by decide, rfl, cw_X_back, ini_X, by decide +kernel⟩
theorem l0_X_back__Ne_become : jm_l0 mY_X_back mY_Ne_become := ⟨⟨Nat.le_of_ble_eq_true rfl, Nat.le_of_ble_eq_true rfl⟩, rfl, rfl⟩
theorem l0_Law__X_back (L : Nat) (xs : Nat → Int32) : jm_l0 (mY_Law L xs) mY_X_back := ⟨⟨Nat.le_of_ble_eq_true rfl, Nat.le_of_ble_eq_true rfl⟩, rfl, rfl⟩
def mY_Z_back : jm_Y := (⟨"LyingBeaconsModel", "back", "()I"⟩, prog_11_method_70_code, 1, some .int, { frames := 2, cells := 0, slots := 0, locals := 46 }, none)
theorem cw_Z_back : Cond.code (jm_nm mY_Z_back) (jm_cd mY_Z_back) (jm_ml mY_Z_back) (jm_rt mY_Z_back) ∈ jm_tbl := jm_in (List.mem_of_getElem? (i := 1139) (by decide +kernel)) rfl
theorem ok_Z_back : jm_ok mY_Z_back 0 := ⟨by decide, rfl, cw_Z_back, ini_Z, by decide +kernel⟩
theorem l0_Z_back__Z_copyAll : jm_l0 mY_Z_back mY_Z_copyAll := ⟨⟨Nat.le_of_ble_eq_true rfl, Nat.le_of_ble_eq_true rfl⟩, rfl, rfl⟩
theorem l0_Law__Z_back (L : Nat) (xs : Nat → Int32) : jm_l0 (mY_Law L xs) mY_Z_back := ⟨⟨Nat.le_of_ble_eq_true rfl, Nat.le_of_ble_eq_true rfl⟩, rfl, rfl⟩
theorem ml_Law_128 : Cond.methodLink "LyingBeaconsLaw" 128 ⟨"LyingBeaconsModel", "back", "()I"⟩ ∈ jm_tbl := jm_in (List.mem_of_getElem? (i := 1136) (by decide +kernel)) rfl
theorem im_Z_back : Cond.instanceMethod ⟨"LyingBeaconsModel", "back", "()I"⟩ ∈ jm_tbl := jm_in (List.mem_of_getElem? (i := 1137) (by decide +kernel)) rfl
theorem se_Z_back : Cond.selects "LyingBeaconsModel" ⟨"LyingBeaconsModel", "back", "()I"⟩ ⟨"LyingBeaconsModel", "back", "()I"⟩ ∈ jm_tbl := jm_in (List.mem_of_getElem? (i := 1138) (by decide +kernel)) rfl
theorem ml_Law_125 : Cond.methodLink "LyingBeaconsLaw" 125 ⟨"LyingBeacons", "back", "()I"⟩ ∈ jm_tbl := jm_in (List.mem_of_getElem? (i := 732) (by decide +kernel)) rfl
theorem im_X_back : Cond.instanceMethod ⟨"LyingBeacons", "back", "()I"⟩ ∈ jm_tbl := jm_in (List.mem_of_getElem? (i := 733) (by decide +kernel)) rfl
theorem se_X_back : Cond.selects "LyingBeacons" ⟨"LyingBeacons", "back", "()I"⟩ ⟨"LyingBeacons", "back", "()I"⟩ ∈ jm_tbl := jm_in (List.mem_of_getElem? (i := 734) (by decide +kernel)) rfl
def mY_X_count : jm_Y := (⟨"LyingBeacons", "count", "(I)I"⟩, prog_1_method_29_code, 2, some .int, { frames := 2, cells := 0, slots := 0, locals := 42 }, none)
theorem cw_X_count : Cond.code (jm_nm mY_X_count) (jm_cd mY_X_count) (jm_ml mY_X_count) (jm_rt mY_X_count) ∈ jm_tbl := jm_in (List.mem_of_getElem? (i := 739) (by decide +kernel)) rfl
theorem ok_X_count : jm_ok mY_X_count 1 := ⟨by decide, rfl, cw_X_count, ini_X, by decide +kernel⟩
def mY_Ne_sights : jm_Y := (⟨"LyingBeacons$Net", "sights", "()I"⟩, prog_5_method_8_code, 3, some .int, { frames := 1, cells := 0, slots := 0, locals := 20 }, none)
theorem cw_Ne_sights : Cond.code (jm_nm mY_Ne_sights) (jm_cd mY_Ne_sights) (jm_ml mY_Ne_sights) (jm_rt mY_Ne_sights) ∈ jm_tbl := jm_in (List.mem_of_getElem? (i := 743) (by decide +kernel)) rfl
theorem ok_Ne_sights : jm_ok mY_Ne_sights 0 := ⟨by decide, rfl, cw_Ne_sights, ini_Ne, by decide +kernel⟩
theorem l0_Ne_sights__JI_bitCount : jm_l0 mY_Ne_sights mY_JI_bitCount := ⟨⟨Nat.le_of_ble_eq_true rfl, Nat.le_of_ble_eq_true rfl⟩, rfl, rfl⟩
theorem ml_Ne_58 : Cond.methodLink "LyingBeacons$Net" 58 ⟨"java/lang/Integer", "bitCount", "(I)I"⟩ ∈ jm_tbl := jm_in (List.mem_of_getElem? (i := 744) (by decide +kernel)) rfl
theorem l0_X_count__Ne_sights : jm_l0 mY_X_count mY_Ne_sights := ⟨⟨Nat.le_of_ble_eq_true rfl, Nat.le_of_ble_eq_true rfl⟩, rfl, rfl⟩
theorem ml_X_250 : Cond.methodLink "LyingBeacons" 250 ⟨"LyingBeacons$Net", "sights", "()I"⟩ ∈ jm_tbl := jm_in (List.mem_of_getElem? (i := 740) (by decide +kernel)) rfl
theorem im_Ne_sights : Cond.instanceMethod ⟨"LyingBeacons$Net", "sights", "()I"⟩ ∈ jm_tbl := jm_in (List.mem_of_getElem? (i := 741) (by decide +kernel)) rfl
theorem se_Ne_sights : Cond.selects "LyingBeacons$Net" ⟨"LyingBeacons$Net", "sights", "()I"⟩ ⟨"LyingBeacons$Net", "sights", "()I"⟩ ∈ jm_tbl := jm_in (List.mem_of_getElem? (i := 742) (by decide +kernel)) rfl
theorem l0_X_count__Ne_ofKind : jm_l0 mY_X_count mY_Ne_ofKind := ⟨⟨Nat.le_of_ble_eq_true rfl, Nat.le_of_ble_eq_true rfl⟩, rfl, rfl⟩
theorem l0_X_count__JI_bitCount : jm_l0 mY_X_count mY_JI_bitCount := ⟨⟨Nat.le_of_ble_eq_true rfl, Nat.le_of_ble_eq_true rfl⟩, rfl, rfl⟩
theorem ml_X_253 : Cond.methodLink "LyingBeacons" 253 ⟨"java/lang/Integer", "bitCount", "(I)I"⟩ ∈ jm_tbl := jm_in (List.mem_of_getElem? (i := 745) (by decide +kernel)) rfl
def mY_Ne_liars : jm_Y := (⟨"LyingBeacons$Net", "liars", "()I"⟩, prog_5_method_9_code, 3, some .int, { frames := 0, cells := 0, slots := 0, locals := 0 }, none)
theorem cw_Ne_liars : Cond.code (jm_nm mY_Ne_liars) (jm_cd mY_Ne_liars) (jm_ml mY_Ne_liars) (jm_rt mY_Ne_liars) ∈ jm_tbl := jm_in (List.mem_of_getElem? (i := 749) (by decide +kernel)) rfl
theorem ok_Ne_liars : jm_ok mY_Ne_liars 0 := ⟨by decide, rfl, cw_Ne_liars, ini_Ne, by decide +kernel⟩
theorem l0_X_count__Ne_liars : jm_l0 mY_X_count mY_Ne_liars := ⟨⟨Nat.le_of_ble_eq_true rfl, Nat.le_of_ble_eq_true rfl⟩, rfl, rfl⟩
theorem ml_X_258 : Cond.methodLink "LyingBeacons" 258 ⟨"LyingBeacons$Net", "liars", "()I"⟩ ∈ jm_tbl := jm_in (List.mem_of_getElem? (i := 746) (by decide +kernel)) rfl
theorem im_Ne_liars : Cond.instanceMethod ⟨"LyingBeacons$Net", "liars", "()I"⟩ ∈ jm_tbl := jm_in (List.mem_of_getElem? (i := 747) (by decide +kernel)) rfl
theorem se_Ne_liars : Cond.selects "LyingBeacons$Net" ⟨"LyingBeacons$Net", "liars", "()I"⟩ ⟨"LyingBeacons$Net", "liars", "()I"⟩ ∈ jm_tbl := jm_in (List.mem_of_getElem? (i := 748) (by decide +kernel)) rfl
def mY_Ne_logsWritten : jm_Y := (⟨"LyingBeacons$Net", "logsWritten", "()I"⟩, prog_5_method_10_code, 3, some .int, { frames := 0, cells := 0, slots := 0, locals := 0 }, none)
theorem cw_Ne_logsWritten : Cond.code (jm_nm mY_Ne_logsWritten) (jm_cd mY_Ne_logsWritten) (jm_ml mY_Ne_logsWritten) (jm_rt mY_Ne_logsWritten) ∈ jm_tbl := jm_in (List.mem_of_getElem? (i := 753) (by decide +kernel)) rfl
theorem ok_Ne_logsWritten : jm_ok mY_Ne_logsWritten 0 := ⟨by decide, rfl, cw_Ne_logsWritten, ini_Ne, by decide +kernel⟩
theorem l0_X_count__Ne_logsWritten : jm_l0 mY_X_count mY_Ne_logsWritten := ⟨⟨Nat.le_of_ble_eq_true rfl, Nat.le_of_ble_eq_true rfl⟩, rfl, rfl⟩
theorem ml_X_261 : Cond.methodLink "LyingBeacons" 261 ⟨"LyingBeacons$Net", "logsWritten", "()I"⟩ ∈ jm_tbl := jm_in (List.mem_of_getElem? (i := 750) (by decide +kernel)) rfl
theorem im_Ne_logsWritten : Cond.instanceMethod ⟨"LyingBeacons$Net", "logsWritten", "()I"⟩ ∈ jm_tbl := jm_in (List.mem_of_getElem? (i := 751) (by decide +kernel)) rfl
theorem se_Ne_logsWritten : Cond.selects "LyingBeacons$Net" ⟨"LyingBeacons$Net", "logsWritten", "()I"⟩ ⟨"LyingBeacons$Net", "logsWritten", "()I"⟩ ∈ jm_tbl := jm_in (List.mem_of_getElem? (i := 752) (by decide +kernel)) rfl
theorem l0_Law__X_count (L : Nat) (xs : Nat → Int32) : jm_l0 (mY_Law L xs) mY_X_count := ⟨⟨Nat.le_of_ble_eq_true rfl, Nat.le_of_ble_eq_true rfl⟩, rfl, rfl⟩
def mY_Z_count : jm_Y := (⟨"LyingBeaconsModel", "count", "(I)I"⟩, prog_11_method_71_code, 4, some .int, { frames := 1, cells := 0, slots := 0, locals := 23 }, none)
theorem cw_Z_count : Cond.code (jm_nm mY_Z_count) (jm_cd mY_Z_count) (jm_ml mY_Z_count) (jm_rt mY_Z_count) ∈ jm_tbl := jm_in (List.mem_of_getElem? (i := 1143) (by decide +kernel)) rfl
theorem ok_Z_count : jm_ok mY_Z_count 1 := ⟨by decide, rfl, cw_Z_count, ini_Z, by decide +kernel⟩
theorem l0_Z_count__Z_bits : jm_l0 mY_Z_count mY_Z_bits := ⟨⟨Nat.le_of_ble_eq_true rfl, Nat.le_of_ble_eq_true rfl⟩, rfl, rfl⟩
theorem l0_Z_count__Z_ofKind : jm_l0 mY_Z_count mY_Z_ofKind := ⟨⟨Nat.le_of_ble_eq_true rfl, Nat.le_of_ble_eq_true rfl⟩, rfl, rfl⟩
theorem l0_Z_count__Z_isLiar : jm_l0 mY_Z_count mY_Z_isLiar := ⟨⟨Nat.le_of_ble_eq_true rfl, Nat.le_of_ble_eq_true rfl⟩, rfl, rfl⟩
theorem l0_Law__Z_count (L : Nat) (xs : Nat → Int32) : jm_l0 (mY_Law L xs) mY_Z_count := ⟨⟨Nat.le_of_ble_eq_true rfl, Nat.le_of_ble_eq_true rfl⟩, rfl, rfl⟩
theorem ml_Law_132 : Cond.methodLink "LyingBeaconsLaw" 132 ⟨"LyingBeaconsModel", "count", "(I)I"⟩ ∈ jm_tbl := jm_in (List.mem_of_getElem? (i := 1140) (by decide +kernel)) rfl
theorem im_Z_count : Cond.instanceMethod ⟨"LyingBeaconsModel", "count", "(I)I"⟩ ∈ jm_tbl := jm_in (List.mem_of_getElem? (i := 1141) (by decide +kernel)) rfl
theorem se_Z_count : Cond.selects "LyingBeaconsModel" ⟨"LyingBeaconsModel", "count", "(I)I"⟩ ⟨"LyingBeaconsModel", "count", "(I)I"⟩ ∈ jm_tbl := jm_in (List.mem_of_getElem? (i := 1142) (by decide +kernel)) rfl
theorem ml_Law_129 : Cond.methodLink "LyingBeaconsLaw" 129 ⟨"LyingBeacons", "count", "(I)I"⟩ ∈ jm_tbl := jm_in (List.mem_of_getElem? (i := 736) (by decide +kernel)) rfl
theorem im_X_count : Cond.instanceMethod ⟨"LyingBeacons", "count", "(I)I"⟩ ∈ jm_tbl := jm_in (List.mem_of_getElem? (i := 737) (by decide +kernel)) rfl
theorem se_X_count : Cond.selects "LyingBeacons" ⟨"LyingBeacons", "count", "(I)I"⟩ ⟨"LyingBeacons", "count", "(I)I"⟩ ∈ jm_tbl := jm_in (List.mem_of_getElem? (i := 738) (by decide +kernel)) rfl
theorem ml_Law_12 : Cond.methodLink "LyingBeaconsLaw" 12 ⟨"LyingBeaconsModel", "<init>", "()V"⟩ ∈ jm_tbl := jm_in (List.mem_of_getElem? (i := 756) (by decide +kernel)) rfl
theorem im_Z_init : Cond.instanceMethod ⟨"LyingBeaconsModel", "<init>", "()V"⟩ ∈ jm_tbl := jm_in (List.mem_of_getElem? (i := 757) (by decide +kernel)) rfl
theorem cl_Law_10 : Cond.classLink "LyingBeaconsLaw" 10 "LyingBeaconsModel" ∈ jm_tbl := jm_in (List.mem_of_getElem? (i := 754) (by decide +kernel)) rfl
theorem it_Z : Cond.instantiable "LyingBeaconsModel" 30 ∈ jm_tbl := jm_in (List.mem_of_getElem? (i := 755) (by decide +kernel)) rfl
theorem ft_Z : ∀ k, k < 30 → (jm_fts 8)[k]? = some (tyX9 k) := by decide +kernel
theorem okt_Z : ∀ k, k < 30 → jm_okT (tyX9 k) = true := by decide +kernel
theorem ml_Law_9 : Cond.methodLink "LyingBeaconsLaw" 9 ⟨"LyingBeacons", "<init>", "()V"⟩ ∈ jm_tbl := jm_in (List.mem_of_getElem? (i := 77) (by decide +kernel)) rfl
theorem im_X_init : Cond.instanceMethod ⟨"LyingBeacons", "<init>", "()V"⟩ ∈ jm_tbl := jm_in (List.mem_of_getElem? (i := 78) (by decide +kernel)) rfl
theorem cl_Law_7 : Cond.classLink "LyingBeaconsLaw" 7 "LyingBeacons" ∈ jm_tbl := jm_in (List.mem_of_getElem? (i := 75) (by decide +kernel)) rfl
theorem it_X : Cond.instantiable "LyingBeacons" 14 ∈ jm_tbl := jm_in (List.mem_of_getElem? (i := 76) (by decide +kernel)) rfl
theorem ft_X : ∀ k, k < 14 → (jm_fts 7)[k]? = some (tyX8 k) := by decide +kernel
theorem okt_X : ∀ k, k < 14 → jm_okT (tyX8 k) = true := by decide +kernel
