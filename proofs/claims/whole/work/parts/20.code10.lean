theorem d_Z_keep_0 : decode (jm_cd mY_Z_keep) 0 = .ok (.aload_n 0, 1) := by decide +kernel
theorem d_Z_keep_1 : decode (jm_cd mY_Z_keep) 1 = .ok (.getfield 265, 3) := by decide +kernel
theorem d_Z_keep_4 : decode (jm_cd mY_Z_keep) 4 = .ok (.iconst 2, 1) := by decide +kernel
theorem d_Z_keep_5 : decode (jm_cd mY_Z_keep) 5 = .ok (.if_icmp .ne 6, 3) := by decide +kernel
theorem d_Z_keep_8 : decode (jm_cd mY_Z_keep) 8 = .ok (.bipush (-3), 2) := by decide +kernel
theorem d_Z_keep_10 : decode (jm_cd mY_Z_keep) 10 = .ok (.ireturn, 1) := by decide +kernel
theorem d_Z_keep_11 : decode (jm_cd mY_Z_keep) 11 = .ok (.aload_n 0, 1) := by decide +kernel
theorem d_Z_keep_12 : decode (jm_cd mY_Z_keep) 12 = .ok (.iconst 0, 1) := by decide +kernel
theorem d_Z_keep_13 : decode (jm_cd mY_Z_keep) 13 = .ok (.iconst 1, 1) := by decide +kernel
theorem d_Z_keep_14 : decode (jm_cd mY_Z_keep) 14 = .ok (.aload_n 0, 1) := by decide +kernel
theorem d_Z_keep_15 : decode (jm_cd mY_Z_keep) 15 = .ok (.getfield 265, 3) := by decide +kernel
theorem d_Z_keep_18 : decode (jm_cd mY_Z_keep) 18 = .ok (.iadd, 1) := by decide +kernel
theorem d_Z_keep_19 : decode (jm_cd mY_Z_keep) 19 = .ok (.invokevirtual 268, 3) := by decide +kernel
theorem d_Z_keep_22 : decode (jm_cd mY_Z_keep) 22 = .ok (.aload_n 0, 1) := by decide +kernel
theorem d_Z_keep_23 : decode (jm_cd mY_Z_keep) 23 = .ok (.dup, 1) := by decide +kernel
theorem d_Z_keep_24 : decode (jm_cd mY_Z_keep) 24 = .ok (.getfield 265, 3) := by decide +kernel
theorem d_Z_keep_27 : decode (jm_cd mY_Z_keep) 27 = .ok (.iconst 1, 1) := by decide +kernel
theorem d_Z_keep_28 : decode (jm_cd mY_Z_keep) 28 = .ok (.iadd, 1) := by decide +kernel
theorem d_Z_keep_29 : decode (jm_cd mY_Z_keep) 29 = .ok (.putfield 265, 3) := by decide +kernel
theorem d_Z_keep_32 : decode (jm_cd mY_Z_keep) 32 = .ok (.aload_n 0, 1) := by decide +kernel
theorem d_Z_keep_33 : decode (jm_cd mY_Z_keep) 33 = .ok (.getfield 265, 3) := by decide +kernel
theorem d_Z_keep_36 : decode (jm_cd mY_Z_keep) 36 = .ok (.ireturn, 1) := by decide +kernel
def s_Z_keep (s : jm_M) : Option (Int32 × jm_M) := (if (s.1 59 12) = 2 then (some ((-3), s)) else jm_bd (s_Z_copyAll s 0 (1 + (s.1 59 12))) (fun s1 => jm_ev (jm_si s1 59 12 ((s1.1 59 12) + 1)) (fun s2 => (some (s2.1 59 12, s2)))))
set_option maxRecDepth 100000 in
set_option maxHeartbeats 4000000 in
theorem s_Z_keep_ok (s : jm_M) : jm_Sim mY_Z_keep 0 0 0 [(0, .ref 59)] [] 78 mr_154 s (s_Z_keep s) (jm_rP 78 mr_154) := by
  unfold s_Z_keep
  refine jm_aload_n (pc := 0) (q := 0) (x := 59) d_Z_keep_0 rfl ?_
  refine jm_gi (pc := 1) (i := 59) d_Z_keep_1 fo_Z_265 sh_59 ge_59 le_59_78 rfl (fun _ => rfl) ?_
  refine jm_iconst (pc := 4) (v := 2) d_Z_keep_4 ci_2 ?_
  refine jm_icmp_ne (pc := 5) (tgt := 11) d_Z_keep_5 (by decide) ?_ ?_
  · refine jm_bipush (pc := 8) (v := (-3)) d_Z_keep_8 cb_m3 ?_
    exact jm_iret (pc := 10) (x := (-3)) d_Z_keep_10 rfl rfl rfl rfl rfl
  · refine jm_aload_n (pc := 11) (q := 0) (x := 59) d_Z_keep_11 rfl ?_
    refine jm_iconst (pc := 12) (v := 0) d_Z_keep_12 ci_0 ?_
    refine jm_iconst (pc := 13) (v := 1) d_Z_keep_13 ci_1 ?_
    refine jm_aload_n (pc := 14) (q := 0) (x := 59) d_Z_keep_14 rfl ?_
    refine jm_gi (pc := 15) (i := 59) d_Z_keep_15 fo_Z_265 sh_59 ge_59 le_59_78 rfl (fun _ => rfl) ?_
    refine jm_iadd (pc := 18) d_Z_keep_18 ?_
    refine jm_Vv (pc := 19) (Y' := mY_Z_copyAll) (i := 59) (avs := [.int 0, .int (1 + (s.1 59 12))]) (rest := []) (s_Z_copyAll_ok s 0 (1 + (s.1 59 12))) ok_Z_copyAll l0_Z_keep__Z_copyAll ml_Z_268 im_Z_copyAll se_Z_copyAll d_Z_keep_19 rfl sh_59 rfl rfl ge_59 le_59_78 rfl (Nat.le_of_ble_eq_true rfl) (Nat.le_of_ble_eq_true rfl) (Nat.le_of_ble_eq_true rfl) (Nat.le_of_ble_eq_true rfl) (fun s1 => ?_)
    refine jm_aload_n (pc := 22) (q := 0) (x := 59) d_Z_keep_22 rfl ?_
    refine jm_dup (pc := 23) d_Z_keep_23 rfl ?_
    refine jm_gi (pc := 24) (i := 59) d_Z_keep_24 fo_Z_265 sh_59 ge_59 le_59_78 rfl (fun _ => rfl) ?_
    refine jm_iconst (pc := 27) (v := 1) d_Z_keep_27 ci_1 ?_
    refine jm_iadd (pc := 28) d_Z_keep_28 ?_
    refine jm_pi (pc := 29) (i := 59) d_Z_keep_29 fp_Z_265 sh_59 ge_59 le_59_78 rfl rfl rfl (fun _ _ _ => rfl) (fun s2 => ?_)
    refine jm_aload_n (pc := 32) (q := 0) (x := 59) d_Z_keep_32 rfl ?_
    refine jm_gi (pc := 33) (i := 59) d_Z_keep_33 fo_Z_265 sh_59 ge_59 le_59_78 rfl (fun _ => rfl) ?_
    exact jm_iret (pc := 36) (x := s2.1 59 12) d_Z_keep_36 rfl rfl rfl rfl rfl
def s_Ne_become_15_35_L136 : Nat → Int32 → jm_M → Option jm_M
  | 0, _, _ => none
  | n + 1, x2, s => (if 100 ≤ x2 then (some s) else jm_ldl s 44 100 x2 (fun v4 => jm_stl s 24 100 x2 v4 (fun s5 => s_Ne_become_15_35_L136 n (x2 + 1) s5)))
set_option maxRecDepth 100000 in
set_option maxHeartbeats 4000000 in
theorem s_Ne_become_15_35_L136_ok : ∀ (n : Nat) (x2 : Int32) (s : jm_M), jm_Sim mY_Ne_become 0 0 136 [(0, .ref 15), (1, .ref 35), (2, .int x2)] [] 78 mr_154 s (s_Ne_become_15_35_L136 n x2 s) (jm_rV 78 mr_154) := by
  intro n
  induction n with
  | zero => intro x2 s; exact jm_none
  | succ n ih =>
    intro x2 s
    rw [s_Ne_become_15_35_L136]
    refine jm_iload_n (pc := 136) (q := 2) (x := x2) d_Ne_become_136 rfl ?_
    refine jm_bipush (pc := 137) (v := 100) d_Ne_become_137 cb_100 ?_
    refine jm_icmp_ge (pc := 139) (tgt := 160) d_Ne_become_139 (by decide) ?_ ?_
    · exact jm_vret (pc := 160) d_Ne_become_160 rfl rfl rfl rfl
    · refine jm_aload_n (pc := 142) (q := 0) (x := 15) d_Ne_become_142 rfl ?_
      refine jm_gr (pc := 143) (i := 15) d_Ne_become_143 fo_Ne_41 sh_15 ge_15 le_15_78 rfl (fun _ => rfl) mr_154_15_9 ge_24 ?_
      refine jm_iload_n (pc := 146) (q := 2) (x := x2) d_Ne_become_146 rfl ?_
      refine jm_aload_n (pc := 147) (q := 1) (x := 35) d_Ne_become_147 rfl ?_
      refine jm_gr (pc := 148) (i := 35) d_Ne_become_148 fo_Ne_41 sh_35 ge_35 le_35_78 rfl (fun _ => rfl) mr_154_35_9 ge_44 ?_
      refine jm_iload_n (pc := 151) (q := 2) (x := x2) d_Ne_become_151 rfl ?_
      refine jm_lald (pc := 152) d_Ne_become_152 sh_44 ge_44 le_44_78 (fun v4 => ?_)
      refine jm_last (pc := 153) d_Ne_become_153 sh_24 ge_24 le_24_78 (fun s5 => ?_)
      refine jm_iinc (pc := 154) (q := 2) (x := x2) (v := 1) (L2 := [(2, .int (x2 + 1)), (0, .ref 15), (1, .ref 35)]) d_Ne_become_154 rfl ci_1 (Nat.le_of_ble_eq_true rfl) rfl ?_
      refine jm_goto (pc := 157) (tgt := 136) d_Ne_become_157 (by decide) ?_
      refine jm_sub (L2 := [(0, .ref 15), (1, .ref 35), (2, .int (x2 + 1))]) [1, 2, 0] rfl ?_
      exact ih (x2 + 1) s5
def s_Ne_become_15_35_L26 : Nat → Int32 → jm_M → Option jm_M
  | 0, _, _ => none
  | n + 1, x2, s => (if 10 ≤ x2 then s_Ne_become_15_35_L136 5000 0 s else jm_ldi s 36 10 x2 (fun v6 => jm_sti s 16 10 x2 v6 (fun s7 => jm_ldi s7 37 10 x2 (fun v8 => jm_sti s7 17 10 x2 v8 (fun s9 => jm_ldi s9 38 10 x2 (fun v10 => jm_sti s9 18 10 x2 v10 (fun s11 => jm_ldi s11 39 10 x2 (fun v12 => jm_sti s11 19 10 x2 v12 (fun s13 => jm_ldi s13 40 10 x2 (fun v14 => jm_sti s13 20 10 x2 v14 (fun s15 => jm_ldi s15 41 10 x2 (fun v16 => jm_sti s15 21 10 x2 v16 (fun s17 => jm_ldl s17 42 10 x2 (fun v18 => jm_stl s17 22 10 x2 v18 (fun s19 => jm_ldl s19 43 10 x2 (fun v20 => jm_stl s19 23 10 x2 v20 (fun s21 => s_Ne_become_15_35_L26 n (x2 + 1) s21)))))))))))))))))
set_option maxRecDepth 100000 in
set_option maxHeartbeats 4000000 in
theorem s_Ne_become_15_35_L26_ok : ∀ (n : Nat) (x2 : Int32) (s : jm_M), jm_Sim mY_Ne_become 0 0 26 [(0, .ref 15), (1, .ref 35), (2, .int x2)] [] 78 mr_154 s (s_Ne_become_15_35_L26 n x2 s) (jm_rV 78 mr_154) := by
  intro n
  induction n with
  | zero => intro x2 s; exact jm_none
  | succ n ih =>
    intro x2 s
    rw [s_Ne_become_15_35_L26]
    refine jm_iload_n (pc := 26) (q := 2) (x := x2) d_Ne_become_26 rfl ?_
    refine jm_bipush (pc := 27) (v := 10) d_Ne_become_27 cb_10 ?_
    refine jm_icmp_ge (pc := 29) (tgt := 134) d_Ne_become_29 (by decide) ?_ ?_
    · refine jm_iconst (pc := 134) (v := 0) d_Ne_become_134 ci_0 ?_
      refine jm_istore_n (pc := 135) (i := 2) (L2 := [(2, .int 0), (0, .ref 15), (1, .ref 35)]) d_Ne_become_135 rfl (Nat.le_of_ble_eq_true rfl) rfl ?_
      refine jm_sub (L2 := [(0, .ref 15), (1, .ref 35), (2, .int 0)]) [1, 2, 0] rfl ?_
      exact s_Ne_become_15_35_L136_ok 5000 0 s
    · refine jm_aload_n (pc := 32) (q := 0) (x := 15) d_Ne_become_32 rfl ?_
      refine jm_gr (pc := 33) (i := 15) d_Ne_become_33 fo_Ne_15 sh_15 ge_15 le_15_78 rfl (fun _ => rfl) mr_154_15_1 ge_16 ?_
      refine jm_iload_n (pc := 36) (q := 2) (x := x2) d_Ne_become_36 rfl ?_
      refine jm_aload_n (pc := 37) (q := 1) (x := 35) d_Ne_become_37 rfl ?_
      refine jm_gr (pc := 38) (i := 35) d_Ne_become_38 fo_Ne_15 sh_35 ge_35 le_35_78 rfl (fun _ => rfl) mr_154_35_1 ge_36 ?_
      refine jm_iload_n (pc := 41) (q := 2) (x := x2) d_Ne_become_41 rfl ?_
      refine jm_iald (pc := 42) d_Ne_become_42 sh_36 ge_36 le_36_78 (fun v6 => ?_)
      refine jm_iast (pc := 43) d_Ne_become_43 sh_16 ge_16 le_16_78 (fun s7 => ?_)
      refine jm_aload_n (pc := 44) (q := 0) (x := 15) d_Ne_become_44 rfl ?_
      refine jm_gr (pc := 45) (i := 15) d_Ne_become_45 fo_Ne_19 sh_15 ge_15 le_15_78 rfl (fun _ => rfl) mr_154_15_2 ge_17 ?_
      refine jm_iload_n (pc := 48) (q := 2) (x := x2) d_Ne_become_48 rfl ?_
      refine jm_aload_n (pc := 49) (q := 1) (x := 35) d_Ne_become_49 rfl ?_
      refine jm_gr (pc := 50) (i := 35) d_Ne_become_50 fo_Ne_19 sh_35 ge_35 le_35_78 rfl (fun _ => rfl) mr_154_35_2 ge_37 ?_
      refine jm_iload_n (pc := 53) (q := 2) (x := x2) d_Ne_become_53 rfl ?_
      refine jm_iald (pc := 54) d_Ne_become_54 sh_37 ge_37 le_37_78 (fun v8 => ?_)
      refine jm_iast (pc := 55) d_Ne_become_55 sh_17 ge_17 le_17_78 (fun s9 => ?_)
      refine jm_aload_n (pc := 56) (q := 0) (x := 15) d_Ne_become_56 rfl ?_
      refine jm_gr (pc := 57) (i := 15) d_Ne_become_57 fo_Ne_22 sh_15 ge_15 le_15_78 rfl (fun _ => rfl) mr_154_15_3 ge_18 ?_
      refine jm_iload_n (pc := 60) (q := 2) (x := x2) d_Ne_become_60 rfl ?_
      refine jm_aload_n (pc := 61) (q := 1) (x := 35) d_Ne_become_61 rfl ?_
      refine jm_gr (pc := 62) (i := 35) d_Ne_become_62 fo_Ne_22 sh_35 ge_35 le_35_78 rfl (fun _ => rfl) mr_154_35_3 ge_38 ?_
      refine jm_iload_n (pc := 65) (q := 2) (x := x2) d_Ne_become_65 rfl ?_
      refine jm_iald (pc := 66) d_Ne_become_66 sh_38 ge_38 le_38_78 (fun v10 => ?_)
      refine jm_iast (pc := 67) d_Ne_become_67 sh_18 ge_18 le_18_78 (fun s11 => ?_)
      refine jm_aload_n (pc := 68) (q := 0) (x := 15) d_Ne_become_68 rfl ?_
      refine jm_gr (pc := 69) (i := 15) d_Ne_become_69 fo_Ne_25 sh_15 ge_15 le_15_78 rfl (fun _ => rfl) mr_154_15_4 ge_19 ?_
      refine jm_iload_n (pc := 72) (q := 2) (x := x2) d_Ne_become_72 rfl ?_
      refine jm_aload_n (pc := 73) (q := 1) (x := 35) d_Ne_become_73 rfl ?_
      refine jm_gr (pc := 74) (i := 35) d_Ne_become_74 fo_Ne_25 sh_35 ge_35 le_35_78 rfl (fun _ => rfl) mr_154_35_4 ge_39 ?_
      refine jm_iload_n (pc := 77) (q := 2) (x := x2) d_Ne_become_77 rfl ?_
      refine jm_iald (pc := 78) d_Ne_become_78 sh_39 ge_39 le_39_78 (fun v12 => ?_)
      refine jm_iast (pc := 79) d_Ne_become_79 sh_19 ge_19 le_19_78 (fun s13 => ?_)
      refine jm_aload_n (pc := 80) (q := 0) (x := 15) d_Ne_become_80 rfl ?_
      refine jm_gr (pc := 81) (i := 15) d_Ne_become_81 fo_Ne_28 sh_15 ge_15 le_15_78 rfl (fun _ => rfl) mr_154_15_5 ge_20 ?_
      refine jm_iload_n (pc := 84) (q := 2) (x := x2) d_Ne_become_84 rfl ?_
      refine jm_aload_n (pc := 85) (q := 1) (x := 35) d_Ne_become_85 rfl ?_
      refine jm_gr (pc := 86) (i := 35) d_Ne_become_86 fo_Ne_28 sh_35 ge_35 le_35_78 rfl (fun _ => rfl) mr_154_35_5 ge_40 ?_
      refine jm_iload_n (pc := 89) (q := 2) (x := x2) d_Ne_become_89 rfl ?_
      refine jm_iald (pc := 90) d_Ne_become_90 sh_40 ge_40 le_40_78 (fun v14 => ?_)
      refine jm_iast (pc := 91) d_Ne_become_91 sh_20 ge_20 le_20_78 (fun s15 => ?_)
      refine jm_aload_n (pc := 92) (q := 0) (x := 15) d_Ne_become_92 rfl ?_
      refine jm_gr (pc := 93) (i := 15) d_Ne_become_93 fo_Ne_31 sh_15 ge_15 le_15_78 rfl (fun _ => rfl) mr_154_15_6 ge_21 ?_
      refine jm_iload_n (pc := 96) (q := 2) (x := x2) d_Ne_become_96 rfl ?_
      refine jm_aload_n (pc := 97) (q := 1) (x := 35) d_Ne_become_97 rfl ?_
      refine jm_gr (pc := 98) (i := 35) d_Ne_become_98 fo_Ne_31 sh_35 ge_35 le_35_78 rfl (fun _ => rfl) mr_154_35_6 ge_41 ?_
      refine jm_iload_n (pc := 101) (q := 2) (x := x2) d_Ne_become_101 rfl ?_
      refine jm_iald (pc := 102) d_Ne_become_102 sh_41 ge_41 le_41_78 (fun v16 => ?_)
      refine jm_iast (pc := 103) d_Ne_become_103 sh_21 ge_21 le_21_78 (fun s17 => ?_)
      refine jm_aload_n (pc := 104) (q := 0) (x := 15) d_Ne_become_104 rfl ?_
      refine jm_gr (pc := 105) (i := 15) d_Ne_become_105 fo_Ne_34 sh_15 ge_15 le_15_78 rfl (fun _ => rfl) mr_154_15_7 ge_22 ?_
      refine jm_iload_n (pc := 108) (q := 2) (x := x2) d_Ne_become_108 rfl ?_
      refine jm_aload_n (pc := 109) (q := 1) (x := 35) d_Ne_become_109 rfl ?_
      refine jm_gr (pc := 110) (i := 35) d_Ne_become_110 fo_Ne_34 sh_35 ge_35 le_35_78 rfl (fun _ => rfl) mr_154_35_7 ge_42 ?_
      refine jm_iload_n (pc := 113) (q := 2) (x := x2) d_Ne_become_113 rfl ?_
      refine jm_lald (pc := 114) d_Ne_become_114 sh_42 ge_42 le_42_78 (fun v18 => ?_)
      refine jm_last (pc := 115) d_Ne_become_115 sh_22 ge_22 le_22_78 (fun s19 => ?_)
      refine jm_aload_n (pc := 116) (q := 0) (x := 15) d_Ne_become_116 rfl ?_
      refine jm_gr (pc := 117) (i := 15) d_Ne_become_117 fo_Ne_38 sh_15 ge_15 le_15_78 rfl (fun _ => rfl) mr_154_15_8 ge_23 ?_
      refine jm_iload_n (pc := 120) (q := 2) (x := x2) d_Ne_become_120 rfl ?_
      refine jm_aload_n (pc := 121) (q := 1) (x := 35) d_Ne_become_121 rfl ?_
      refine jm_gr (pc := 122) (i := 35) d_Ne_become_122 fo_Ne_38 sh_35 ge_35 le_35_78 rfl (fun _ => rfl) mr_154_35_8 ge_43 ?_
      refine jm_iload_n (pc := 125) (q := 2) (x := x2) d_Ne_become_125 rfl ?_
      refine jm_lald (pc := 126) d_Ne_become_126 sh_43 ge_43 le_43_78 (fun v20 => ?_)
      refine jm_last (pc := 127) d_Ne_become_127 sh_23 ge_23 le_23_78 (fun s21 => ?_)
      refine jm_iinc (pc := 128) (q := 2) (x := x2) (v := 1) (L2 := [(2, .int (x2 + 1)), (0, .ref 15), (1, .ref 35)]) d_Ne_become_128 rfl ci_1 (Nat.le_of_ble_eq_true rfl) rfl ?_
      refine jm_goto (pc := 131) (tgt := 26) d_Ne_become_131 (by decide) ?_
      refine jm_sub (L2 := [(0, .ref 15), (1, .ref 35), (2, .int (x2 + 1))]) [1, 2, 0] rfl ?_
      exact ih (x2 + 1) s21
def s_Ne_become_15_35 (s : jm_M) : Option jm_M := jm_ev (jm_si s 15 0 (s.1 35 0)) (fun s1 => jm_ev (jm_si s1 15 10 (s1.1 35 10)) (fun s2 => jm_ev (jm_sl s2 15 11 (s2.2 35 11)) (fun s3 => s_Ne_become_15_35_L26 5000 0 s3)))
set_option maxRecDepth 100000 in
set_option maxHeartbeats 4000000 in
theorem s_Ne_become_15_35_ok (s : jm_M) : jm_Sim mY_Ne_become 0 0 0 [(0, .ref 15), (1, .ref 35)] [] 78 mr_154 s (s_Ne_become_15_35 s) (jm_rV 78 mr_154) := by
  unfold s_Ne_become_15_35
  refine jm_aload_n (pc := 0) (q := 0) (x := 15) d_Ne_become_0 rfl ?_
  refine jm_aload_n (pc := 1) (q := 1) (x := 35) d_Ne_become_1 rfl ?_
  refine jm_gi (pc := 2) (i := 35) d_Ne_become_2 fo_Ne_9 sh_35 ge_35 le_35_78 rfl (fun _ => rfl) ?_
  refine jm_pi (pc := 5) (i := 15) d_Ne_become_5 fp_Ne_9 sh_15 ge_15 le_15_78 rfl rfl rfl (fun _ _ _ => rfl) (fun s1 => ?_)
  refine jm_aload_n (pc := 8) (q := 0) (x := 15) d_Ne_become_8 rfl ?_
  refine jm_aload_n (pc := 9) (q := 1) (x := 35) d_Ne_become_9 rfl ?_
  refine jm_gi (pc := 10) (i := 35) d_Ne_become_10 fo_Ne_44 sh_35 ge_35 le_35_78 rfl (fun _ => rfl) ?_
  refine jm_pi (pc := 13) (i := 15) d_Ne_become_13 fp_Ne_44 sh_15 ge_15 le_15_78 rfl rfl rfl (fun _ _ _ => rfl) (fun s2 => ?_)
  refine jm_aload_n (pc := 16) (q := 0) (x := 15) d_Ne_become_16 rfl ?_
  refine jm_aload_n (pc := 17) (q := 1) (x := 35) d_Ne_become_17 rfl ?_
  refine jm_gl (pc := 18) (i := 35) d_Ne_become_18 fo_Ne_47 sh_35 ge_35 le_35_78 rfl ?_
  refine jm_pl (pc := 21) (i := 15) d_Ne_become_21 fp_Ne_47 sh_15 ge_15 le_15_78 rfl (fun s3 => ?_)
  refine jm_iconst (pc := 24) (v := 0) d_Ne_become_24 ci_0 ?_
  refine jm_istore_n (pc := 25) (i := 2) (L2 := [(2, .int 0), (0, .ref 15), (1, .ref 35)]) d_Ne_become_25 rfl (Nat.le_of_ble_eq_true rfl) rfl ?_
  refine jm_sub (L2 := [(0, .ref 15), (1, .ref 35), (2, .int 0)]) [1, 2, 0] rfl ?_
  exact s_Ne_become_15_35_L26_ok 5000 0 s3
def s_Ne_become_15_25_L136 : Nat → Int32 → jm_M → Option jm_M
  | 0, _, _ => none
  | n + 1, x2, s => (if 100 ≤ x2 then (some s) else jm_ldl s 34 100 x2 (fun v4 => jm_stl s 24 100 x2 v4 (fun s5 => s_Ne_become_15_25_L136 n (x2 + 1) s5)))
set_option maxRecDepth 100000 in
set_option maxHeartbeats 4000000 in
theorem s_Ne_become_15_25_L136_ok : ∀ (n : Nat) (x2 : Int32) (s : jm_M), jm_Sim mY_Ne_become 0 0 136 [(0, .ref 15), (1, .ref 25), (2, .int x2)] [] 78 mr_154 s (s_Ne_become_15_25_L136 n x2 s) (jm_rV 78 mr_154) := by
  intro n
  induction n with
  | zero => intro x2 s; exact jm_none
  | succ n ih =>
    intro x2 s
    rw [s_Ne_become_15_25_L136]
    refine jm_iload_n (pc := 136) (q := 2) (x := x2) d_Ne_become_136 rfl ?_
    refine jm_bipush (pc := 137) (v := 100) d_Ne_become_137 cb_100 ?_
    refine jm_icmp_ge (pc := 139) (tgt := 160) d_Ne_become_139 (by decide) ?_ ?_
    · exact jm_vret (pc := 160) d_Ne_become_160 rfl rfl rfl rfl
    · refine jm_aload_n (pc := 142) (q := 0) (x := 15) d_Ne_become_142 rfl ?_
      refine jm_gr (pc := 143) (i := 15) d_Ne_become_143 fo_Ne_41 sh_15 ge_15 le_15_78 rfl (fun _ => rfl) mr_154_15_9 ge_24 ?_
      refine jm_iload_n (pc := 146) (q := 2) (x := x2) d_Ne_become_146 rfl ?_
      refine jm_aload_n (pc := 147) (q := 1) (x := 25) d_Ne_become_147 rfl ?_
      refine jm_gr (pc := 148) (i := 25) d_Ne_become_148 fo_Ne_41 sh_25 ge_25 le_25_78 rfl (fun _ => rfl) mr_154_25_9 ge_34 ?_
      refine jm_iload_n (pc := 151) (q := 2) (x := x2) d_Ne_become_151 rfl ?_
      refine jm_lald (pc := 152) d_Ne_become_152 sh_34 ge_34 le_34_78 (fun v4 => ?_)
      refine jm_last (pc := 153) d_Ne_become_153 sh_24 ge_24 le_24_78 (fun s5 => ?_)
      refine jm_iinc (pc := 154) (q := 2) (x := x2) (v := 1) (L2 := [(2, .int (x2 + 1)), (0, .ref 15), (1, .ref 25)]) d_Ne_become_154 rfl ci_1 (Nat.le_of_ble_eq_true rfl) rfl ?_
      refine jm_goto (pc := 157) (tgt := 136) d_Ne_become_157 (by decide) ?_
      refine jm_sub (L2 := [(0, .ref 15), (1, .ref 25), (2, .int (x2 + 1))]) [1, 2, 0] rfl ?_
      exact ih (x2 + 1) s5
def s_Ne_become_15_25_L26 : Nat → Int32 → jm_M → Option jm_M
  | 0, _, _ => none
  | n + 1, x2, s => (if 10 ≤ x2 then s_Ne_become_15_25_L136 5000 0 s else jm_ldi s 26 10 x2 (fun v6 => jm_sti s 16 10 x2 v6 (fun s7 => jm_ldi s7 27 10 x2 (fun v8 => jm_sti s7 17 10 x2 v8 (fun s9 => jm_ldi s9 28 10 x2 (fun v10 => jm_sti s9 18 10 x2 v10 (fun s11 => jm_ldi s11 29 10 x2 (fun v12 => jm_sti s11 19 10 x2 v12 (fun s13 => jm_ldi s13 30 10 x2 (fun v14 => jm_sti s13 20 10 x2 v14 (fun s15 => jm_ldi s15 31 10 x2 (fun v16 => jm_sti s15 21 10 x2 v16 (fun s17 => jm_ldl s17 32 10 x2 (fun v18 => jm_stl s17 22 10 x2 v18 (fun s19 => jm_ldl s19 33 10 x2 (fun v20 => jm_stl s19 23 10 x2 v20 (fun s21 => s_Ne_become_15_25_L26 n (x2 + 1) s21)))))))))))))))))
set_option maxRecDepth 100000 in
set_option maxHeartbeats 4000000 in
theorem s_Ne_become_15_25_L26_ok : ∀ (n : Nat) (x2 : Int32) (s : jm_M), jm_Sim mY_Ne_become 0 0 26 [(0, .ref 15), (1, .ref 25), (2, .int x2)] [] 78 mr_154 s (s_Ne_become_15_25_L26 n x2 s) (jm_rV 78 mr_154) := by
  intro n
  induction n with
  | zero => intro x2 s; exact jm_none
  | succ n ih =>
    intro x2 s
    rw [s_Ne_become_15_25_L26]
    refine jm_iload_n (pc := 26) (q := 2) (x := x2) d_Ne_become_26 rfl ?_
    refine jm_bipush (pc := 27) (v := 10) d_Ne_become_27 cb_10 ?_
    refine jm_icmp_ge (pc := 29) (tgt := 134) d_Ne_become_29 (by decide) ?_ ?_
    · refine jm_iconst (pc := 134) (v := 0) d_Ne_become_134 ci_0 ?_
      refine jm_istore_n (pc := 135) (i := 2) (L2 := [(2, .int 0), (0, .ref 15), (1, .ref 25)]) d_Ne_become_135 rfl (Nat.le_of_ble_eq_true rfl) rfl ?_
      refine jm_sub (L2 := [(0, .ref 15), (1, .ref 25), (2, .int 0)]) [1, 2, 0] rfl ?_
      exact s_Ne_become_15_25_L136_ok 5000 0 s
    · refine jm_aload_n (pc := 32) (q := 0) (x := 15) d_Ne_become_32 rfl ?_
      refine jm_gr (pc := 33) (i := 15) d_Ne_become_33 fo_Ne_15 sh_15 ge_15 le_15_78 rfl (fun _ => rfl) mr_154_15_1 ge_16 ?_
      refine jm_iload_n (pc := 36) (q := 2) (x := x2) d_Ne_become_36 rfl ?_
      refine jm_aload_n (pc := 37) (q := 1) (x := 25) d_Ne_become_37 rfl ?_
      refine jm_gr (pc := 38) (i := 25) d_Ne_become_38 fo_Ne_15 sh_25 ge_25 le_25_78 rfl (fun _ => rfl) mr_154_25_1 ge_26 ?_
      refine jm_iload_n (pc := 41) (q := 2) (x := x2) d_Ne_become_41 rfl ?_
      refine jm_iald (pc := 42) d_Ne_become_42 sh_26 ge_26 le_26_78 (fun v6 => ?_)
      refine jm_iast (pc := 43) d_Ne_become_43 sh_16 ge_16 le_16_78 (fun s7 => ?_)
      refine jm_aload_n (pc := 44) (q := 0) (x := 15) d_Ne_become_44 rfl ?_
      refine jm_gr (pc := 45) (i := 15) d_Ne_become_45 fo_Ne_19 sh_15 ge_15 le_15_78 rfl (fun _ => rfl) mr_154_15_2 ge_17 ?_
      refine jm_iload_n (pc := 48) (q := 2) (x := x2) d_Ne_become_48 rfl ?_
      refine jm_aload_n (pc := 49) (q := 1) (x := 25) d_Ne_become_49 rfl ?_
      refine jm_gr (pc := 50) (i := 25) d_Ne_become_50 fo_Ne_19 sh_25 ge_25 le_25_78 rfl (fun _ => rfl) mr_154_25_2 ge_27 ?_
      refine jm_iload_n (pc := 53) (q := 2) (x := x2) d_Ne_become_53 rfl ?_
      refine jm_iald (pc := 54) d_Ne_become_54 sh_27 ge_27 le_27_78 (fun v8 => ?_)
      refine jm_iast (pc := 55) d_Ne_become_55 sh_17 ge_17 le_17_78 (fun s9 => ?_)
      refine jm_aload_n (pc := 56) (q := 0) (x := 15) d_Ne_become_56 rfl ?_
      refine jm_gr (pc := 57) (i := 15) d_Ne_become_57 fo_Ne_22 sh_15 ge_15 le_15_78 rfl (fun _ => rfl) mr_154_15_3 ge_18 ?_
      refine jm_iload_n (pc := 60) (q := 2) (x := x2) d_Ne_become_60 rfl ?_
      refine jm_aload_n (pc := 61) (q := 1) (x := 25) d_Ne_become_61 rfl ?_
      refine jm_gr (pc := 62) (i := 25) d_Ne_become_62 fo_Ne_22 sh_25 ge_25 le_25_78 rfl (fun _ => rfl) mr_154_25_3 ge_28 ?_
      refine jm_iload_n (pc := 65) (q := 2) (x := x2) d_Ne_become_65 rfl ?_
      refine jm_iald (pc := 66) d_Ne_become_66 sh_28 ge_28 le_28_78 (fun v10 => ?_)
      refine jm_iast (pc := 67) d_Ne_become_67 sh_18 ge_18 le_18_78 (fun s11 => ?_)
      refine jm_aload_n (pc := 68) (q := 0) (x := 15) d_Ne_become_68 rfl ?_
      refine jm_gr (pc := 69) (i := 15) d_Ne_become_69 fo_Ne_25 sh_15 ge_15 le_15_78 rfl (fun _ => rfl) mr_154_15_4 ge_19 ?_
      refine jm_iload_n (pc := 72) (q := 2) (x := x2) d_Ne_become_72 rfl ?_
      refine jm_aload_n (pc := 73) (q := 1) (x := 25) d_Ne_become_73 rfl ?_
      refine jm_gr (pc := 74) (i := 25) d_Ne_become_74 fo_Ne_25 sh_25 ge_25 le_25_78 rfl (fun _ => rfl) mr_154_25_4 ge_29 ?_
      refine jm_iload_n (pc := 77) (q := 2) (x := x2) d_Ne_become_77 rfl ?_
      refine jm_iald (pc := 78) d_Ne_become_78 sh_29 ge_29 le_29_78 (fun v12 => ?_)
      refine jm_iast (pc := 79) d_Ne_become_79 sh_19 ge_19 le_19_78 (fun s13 => ?_)
      refine jm_aload_n (pc := 80) (q := 0) (x := 15) d_Ne_become_80 rfl ?_
      refine jm_gr (pc := 81) (i := 15) d_Ne_become_81 fo_Ne_28 sh_15 ge_15 le_15_78 rfl (fun _ => rfl) mr_154_15_5 ge_20 ?_
      refine jm_iload_n (pc := 84) (q := 2) (x := x2) d_Ne_become_84 rfl ?_
      refine jm_aload_n (pc := 85) (q := 1) (x := 25) d_Ne_become_85 rfl ?_
      refine jm_gr (pc := 86) (i := 25) d_Ne_become_86 fo_Ne_28 sh_25 ge_25 le_25_78 rfl (fun _ => rfl) mr_154_25_5 ge_30 ?_
      refine jm_iload_n (pc := 89) (q := 2) (x := x2) d_Ne_become_89 rfl ?_
      refine jm_iald (pc := 90) d_Ne_become_90 sh_30 ge_30 le_30_78 (fun v14 => ?_)
      refine jm_iast (pc := 91) d_Ne_become_91 sh_20 ge_20 le_20_78 (fun s15 => ?_)
      refine jm_aload_n (pc := 92) (q := 0) (x := 15) d_Ne_become_92 rfl ?_
      refine jm_gr (pc := 93) (i := 15) d_Ne_become_93 fo_Ne_31 sh_15 ge_15 le_15_78 rfl (fun _ => rfl) mr_154_15_6 ge_21 ?_
      refine jm_iload_n (pc := 96) (q := 2) (x := x2) d_Ne_become_96 rfl ?_
      refine jm_aload_n (pc := 97) (q := 1) (x := 25) d_Ne_become_97 rfl ?_
      refine jm_gr (pc := 98) (i := 25) d_Ne_become_98 fo_Ne_31 sh_25 ge_25 le_25_78 rfl (fun _ => rfl) mr_154_25_6 ge_31 ?_
      refine jm_iload_n (pc := 101) (q := 2) (x := x2) d_Ne_become_101 rfl ?_
      refine jm_iald (pc := 102) d_Ne_become_102 sh_31 ge_31 le_31_78 (fun v16 => ?_)
      refine jm_iast (pc := 103) d_Ne_become_103 sh_21 ge_21 le_21_78 (fun s17 => ?_)
      refine jm_aload_n (pc := 104) (q := 0) (x := 15) d_Ne_become_104 rfl ?_
      refine jm_gr (pc := 105) (i := 15) d_Ne_become_105 fo_Ne_34 sh_15 ge_15 le_15_78 rfl (fun _ => rfl) mr_154_15_7 ge_22 ?_
      refine jm_iload_n (pc := 108) (q := 2) (x := x2) d_Ne_become_108 rfl ?_
      refine jm_aload_n (pc := 109) (q := 1) (x := 25) d_Ne_become_109 rfl ?_
      refine jm_gr (pc := 110) (i := 25) d_Ne_become_110 fo_Ne_34 sh_25 ge_25 le_25_78 rfl (fun _ => rfl) mr_154_25_7 ge_32 ?_
      refine jm_iload_n (pc := 113) (q := 2) (x := x2) d_Ne_become_113 rfl ?_
      refine jm_lald (pc := 114) d_Ne_become_114 sh_32 ge_32 le_32_78 (fun v18 => ?_)
      refine jm_last (pc := 115) d_Ne_become_115 sh_22 ge_22 le_22_78 (fun s19 => ?_)
      refine jm_aload_n (pc := 116) (q := 0) (x := 15) d_Ne_become_116 rfl ?_
      refine jm_gr (pc := 117) (i := 15) d_Ne_become_117 fo_Ne_38 sh_15 ge_15 le_15_78 rfl (fun _ => rfl) mr_154_15_8 ge_23 ?_
      refine jm_iload_n (pc := 120) (q := 2) (x := x2) d_Ne_become_120 rfl ?_
      refine jm_aload_n (pc := 121) (q := 1) (x := 25) d_Ne_become_121 rfl ?_
      refine jm_gr (pc := 122) (i := 25) d_Ne_become_122 fo_Ne_38 sh_25 ge_25 le_25_78 rfl (fun _ => rfl) mr_154_25_8 ge_33 ?_
      refine jm_iload_n (pc := 125) (q := 2) (x := x2) d_Ne_become_125 rfl ?_
      refine jm_lald (pc := 126) d_Ne_become_126 sh_33 ge_33 le_33_78 (fun v20 => ?_)
      refine jm_last (pc := 127) d_Ne_become_127 sh_23 ge_23 le_23_78 (fun s21 => ?_)
      refine jm_iinc (pc := 128) (q := 2) (x := x2) (v := 1) (L2 := [(2, .int (x2 + 1)), (0, .ref 15), (1, .ref 25)]) d_Ne_become_128 rfl ci_1 (Nat.le_of_ble_eq_true rfl) rfl ?_
      refine jm_goto (pc := 131) (tgt := 26) d_Ne_become_131 (by decide) ?_
      refine jm_sub (L2 := [(0, .ref 15), (1, .ref 25), (2, .int (x2 + 1))]) [1, 2, 0] rfl ?_
      exact ih (x2 + 1) s21
def s_Ne_become_15_25 (s : jm_M) : Option jm_M := jm_ev (jm_si s 15 0 (s.1 25 0)) (fun s1 => jm_ev (jm_si s1 15 10 (s1.1 25 10)) (fun s2 => jm_ev (jm_sl s2 15 11 (s2.2 25 11)) (fun s3 => s_Ne_become_15_25_L26 5000 0 s3)))
set_option maxRecDepth 100000 in
set_option maxHeartbeats 4000000 in
theorem s_Ne_become_15_25_ok (s : jm_M) : jm_Sim mY_Ne_become 0 0 0 [(0, .ref 15), (1, .ref 25)] [] 78 mr_154 s (s_Ne_become_15_25 s) (jm_rV 78 mr_154) := by
  unfold s_Ne_become_15_25
  refine jm_aload_n (pc := 0) (q := 0) (x := 15) d_Ne_become_0 rfl ?_
  refine jm_aload_n (pc := 1) (q := 1) (x := 25) d_Ne_become_1 rfl ?_
  refine jm_gi (pc := 2) (i := 25) d_Ne_become_2 fo_Ne_9 sh_25 ge_25 le_25_78 rfl (fun _ => rfl) ?_
  refine jm_pi (pc := 5) (i := 15) d_Ne_become_5 fp_Ne_9 sh_15 ge_15 le_15_78 rfl rfl rfl (fun _ _ _ => rfl) (fun s1 => ?_)
  refine jm_aload_n (pc := 8) (q := 0) (x := 15) d_Ne_become_8 rfl ?_
  refine jm_aload_n (pc := 9) (q := 1) (x := 25) d_Ne_become_9 rfl ?_
  refine jm_gi (pc := 10) (i := 25) d_Ne_become_10 fo_Ne_44 sh_25 ge_25 le_25_78 rfl (fun _ => rfl) ?_
  refine jm_pi (pc := 13) (i := 15) d_Ne_become_13 fp_Ne_44 sh_15 ge_15 le_15_78 rfl rfl rfl (fun _ _ _ => rfl) (fun s2 => ?_)
  refine jm_aload_n (pc := 16) (q := 0) (x := 15) d_Ne_become_16 rfl ?_
  refine jm_aload_n (pc := 17) (q := 1) (x := 25) d_Ne_become_17 rfl ?_
  refine jm_gl (pc := 18) (i := 25) d_Ne_become_18 fo_Ne_47 sh_25 ge_25 le_25_78 rfl ?_
  refine jm_pl (pc := 21) (i := 15) d_Ne_become_21 fp_Ne_47 sh_15 ge_15 le_15_78 rfl (fun s3 => ?_)
  refine jm_iconst (pc := 24) (v := 0) d_Ne_become_24 ci_0 ?_
  refine jm_istore_n (pc := 25) (i := 2) (L2 := [(2, .int 0), (0, .ref 15), (1, .ref 25)]) d_Ne_become_25 rfl (Nat.le_of_ble_eq_true rfl) rfl ?_
  refine jm_sub (L2 := [(0, .ref 15), (1, .ref 25), (2, .int 0)]) [1, 2, 0] rfl ?_
  exact s_Ne_become_15_25_L26_ok 5000 0 s3
theorem d_X_back_0 : decode (jm_cd mY_X_back) 0 = .ok (.aload_n 0, 1) := by decide +kernel
theorem d_X_back_1 : decode (jm_cd mY_X_back) 1 = .ok (.getfield 40, 3) := by decide +kernel
theorem d_X_back_4 : decode (jm_cd mY_X_back) 4 = .ok (.ifCond .gt 6, 3) := by decide +kernel
theorem d_X_back_7 : decode (jm_cd mY_X_back) 7 = .ok (.bipush (-2), 2) := by decide +kernel
theorem d_X_back_9 : decode (jm_cd mY_X_back) 9 = .ok (.ireturn, 1) := by decide +kernel
theorem d_X_back_10 : decode (jm_cd mY_X_back) 10 = .ok (.aload_n 0, 1) := by decide +kernel
theorem d_X_back_11 : decode (jm_cd mY_X_back) 11 = .ok (.dup, 1) := by decide +kernel
theorem d_X_back_12 : decode (jm_cd mY_X_back) 12 = .ok (.getfield 40, 3) := by decide +kernel
theorem d_X_back_15 : decode (jm_cd mY_X_back) 15 = .ok (.iconst 1, 1) := by decide +kernel
theorem d_X_back_16 : decode (jm_cd mY_X_back) 16 = .ok (.isub, 1) := by decide +kernel
theorem d_X_back_17 : decode (jm_cd mY_X_back) 17 = .ok (.putfield 40, 3) := by decide +kernel
theorem d_X_back_20 : decode (jm_cd mY_X_back) 20 = .ok (.aload_n 0, 1) := by decide +kernel
theorem d_X_back_21 : decode (jm_cd mY_X_back) 21 = .ok (.getfield 31, 3) := by decide +kernel
theorem d_X_back_24 : decode (jm_cd mY_X_back) 24 = .ok (.aload_n 0, 1) := by decide +kernel
theorem d_X_back_25 : decode (jm_cd mY_X_back) 25 = .ok (.getfield 40, 3) := by decide +kernel
theorem d_X_back_28 : decode (jm_cd mY_X_back) 28 = .ok (.ifCond .ne 10, 3) := by decide +kernel
theorem d_X_back_31 : decode (jm_cd mY_X_back) 31 = .ok (.aload_n 0, 1) := by decide +kernel
theorem d_X_back_32 : decode (jm_cd mY_X_back) 32 = .ok (.getfield 34, 3) := by decide +kernel
theorem d_X_back_35 : decode (jm_cd mY_X_back) 35 = .ok (.goto 7, 3) := by decide +kernel
theorem d_X_back_38 : decode (jm_cd mY_X_back) 38 = .ok (.aload_n 0, 1) := by decide +kernel
theorem d_X_back_39 : decode (jm_cd mY_X_back) 39 = .ok (.getfield 37, 3) := by decide +kernel
theorem d_X_back_42 : decode (jm_cd mY_X_back) 42 = .ok (.invokevirtual 86, 3) := by decide +kernel
theorem d_X_back_45 : decode (jm_cd mY_X_back) 45 = .ok (.aload_n 0, 1) := by decide +kernel
theorem d_X_back_46 : decode (jm_cd mY_X_back) 46 = .ok (.iconst 0, 1) := by decide +kernel
theorem d_X_back_47 : decode (jm_cd mY_X_back) 47 = .ok (.putfield 50, 3) := by decide +kernel
theorem d_X_back_50 : decode (jm_cd mY_X_back) 50 = .ok (.aload_n 0, 1) := by decide +kernel
theorem d_X_back_51 : decode (jm_cd mY_X_back) 51 = .ok (.getfield 40, 3) := by decide +kernel
theorem d_X_back_54 : decode (jm_cd mY_X_back) 54 = .ok (.ireturn, 1) := by decide +kernel
def s_X_back_J42 (s : jm_M) : Option (Int32 × jm_M) := jm_bd (s_Ne_become_15_35 s) (fun s2 => jm_ev (jm_si s2 1 9 0) (fun s3 => (some (s3.1 1 7, s3))))
set_option maxRecDepth 100000 in
set_option maxHeartbeats 4000000 in
theorem s_X_back_J42_ok (s : jm_M) : jm_Sim mY_X_back 0 0 42 [(0, .ref 1)] [.ref 35, .ref 15] 78 mr_154 s (s_X_back_J42 s) (jm_rP 78 mr_154) := by
  unfold s_X_back_J42
  refine jm_Vv (pc := 42) (Y' := mY_Ne_become) (i := 15) (avs := [.ref 35]) (rest := []) (s_Ne_become_15_35_ok s) ok_Ne_become l0_X_back__Ne_become ml_X_86 im_Ne_become se_Ne_become d_X_back_42 rfl sh_15 rfl rfl ge_15 le_15_78 rfl (Nat.le_of_ble_eq_true rfl) (Nat.le_of_ble_eq_true rfl) (Nat.le_of_ble_eq_true rfl) (Nat.le_of_ble_eq_true rfl) (fun s2 => ?_)
  refine jm_aload_n (pc := 45) (q := 0) (x := 1) d_X_back_45 rfl ?_
  refine jm_iconst (pc := 46) (v := 0) d_X_back_46 ci_0 ?_
  refine jm_pi (pc := 47) (i := 1) d_X_back_47 fp_X_50 sh_1 ge_1 le_1_78 rfl (by decide) (by decide) (fun _ _ _ => rfl) (fun s3 => ?_)
  refine jm_aload_n (pc := 50) (q := 0) (x := 1) d_X_back_50 rfl ?_
  refine jm_gi (pc := 51) (i := 1) d_X_back_51 fo_X_40 sh_1 ge_1 le_1_78 rfl (fun _ => rfl) ?_
  exact jm_iret (pc := 54) (x := s3.1 1 7) d_X_back_54 rfl rfl rfl rfl rfl
def s_X_back (s : jm_M) : Option (Int32 × jm_M) := (if 0 < (s.1 1 7) then jm_ev (jm_si s 1 7 ((s.1 1 7) - 1)) (fun s1 => (if (s1.1 1 7) = 0 then jm_bd (s_Ne_become_15_25 s1) (fun s4 => jm_ev (jm_si s4 1 9 0) (fun s5 => (some (s5.1 1 7, s5)))) else s_X_back_J42  s1)) else (some ((-2), s)))
set_option maxRecDepth 100000 in
set_option maxHeartbeats 4000000 in
theorem s_X_back_ok (s : jm_M) : jm_Sim mY_X_back 0 0 0 [(0, .ref 1)] [] 78 mr_154 s (s_X_back s) (jm_rP 78 mr_154) := by
  unfold s_X_back
  refine jm_aload_n (pc := 0) (q := 0) (x := 1) d_X_back_0 rfl ?_
  refine jm_gi (pc := 1) (i := 1) d_X_back_1 fo_X_40 sh_1 ge_1 le_1_78 rfl (fun _ => rfl) ?_
  refine jm_if_gt (pc := 4) (tgt := 10) d_X_back_4 (by decide) ?_ ?_
  · refine jm_aload_n (pc := 10) (q := 0) (x := 1) d_X_back_10 rfl ?_
    refine jm_dup (pc := 11) d_X_back_11 rfl ?_
    refine jm_gi (pc := 12) (i := 1) d_X_back_12 fo_X_40 sh_1 ge_1 le_1_78 rfl (fun _ => rfl) ?_
    refine jm_iconst (pc := 15) (v := 1) d_X_back_15 ci_1 ?_
    refine jm_isub (pc := 16) d_X_back_16 ?_
    refine jm_pi (pc := 17) (i := 1) d_X_back_17 fp_X_40 sh_1 ge_1 le_1_78 rfl rfl rfl (fun _ _ _ => rfl) (fun s1 => ?_)
    refine jm_aload_n (pc := 20) (q := 0) (x := 1) d_X_back_20 rfl ?_
    refine jm_gr (pc := 21) (i := 1) d_X_back_21 fo_X_31 sh_1 ge_1 le_1_78 rfl (fun _ => rfl) mr_154_1_4 ge_15 ?_
    refine jm_aload_n (pc := 24) (q := 0) (x := 1) d_X_back_24 rfl ?_
    refine jm_gi (pc := 25) (i := 1) d_X_back_25 fo_X_40 sh_1 ge_1 le_1_78 rfl (fun _ => rfl) ?_
    refine jm_if_ne (pc := 28) (tgt := 38) d_X_back_28 (by decide) ?_ ?_
    · refine jm_aload_n (pc := 31) (q := 0) (x := 1) d_X_back_31 rfl ?_
      refine jm_gr (pc := 32) (i := 1) d_X_back_32 fo_X_34 sh_1 ge_1 le_1_78 rfl (fun _ => rfl) mr_154_1_5 ge_25 ?_
      refine jm_goto (pc := 35) (tgt := 42) d_X_back_35 (by decide) ?_
      refine jm_Vv (pc := 42) (Y' := mY_Ne_become) (i := 15) (avs := [.ref 25]) (rest := []) (s_Ne_become_15_25_ok s1) ok_Ne_become l0_X_back__Ne_become ml_X_86 im_Ne_become se_Ne_become d_X_back_42 rfl sh_15 rfl rfl ge_15 le_15_78 rfl (Nat.le_of_ble_eq_true rfl) (Nat.le_of_ble_eq_true rfl) (Nat.le_of_ble_eq_true rfl) (Nat.le_of_ble_eq_true rfl) (fun s4 => ?_)
      refine jm_aload_n (pc := 45) (q := 0) (x := 1) d_X_back_45 rfl ?_
      refine jm_iconst (pc := 46) (v := 0) d_X_back_46 ci_0 ?_
      refine jm_pi (pc := 47) (i := 1) d_X_back_47 fp_X_50 sh_1 ge_1 le_1_78 rfl (by decide) (by decide) (fun _ _ _ => rfl) (fun s5 => ?_)
      refine jm_aload_n (pc := 50) (q := 0) (x := 1) d_X_back_50 rfl ?_
      refine jm_gi (pc := 51) (i := 1) d_X_back_51 fo_X_40 sh_1 ge_1 le_1_78 rfl (fun _ => rfl) ?_
      exact jm_iret (pc := 54) (x := s5.1 1 7) d_X_back_54 rfl rfl rfl rfl rfl
    · refine jm_aload_n (pc := 38) (q := 0) (x := 1) d_X_back_38 rfl ?_
      refine jm_gr (pc := 39) (i := 1) d_X_back_39 fo_X_37 sh_1 ge_1 le_1_78 rfl (fun _ => rfl) mr_154_1_6 ge_35 ?_
      exact s_X_back_J42_ok  s1
  · refine jm_bipush (pc := 7) (v := (-2)) d_X_back_7 cb_m2 ?_
    exact jm_iret (pc := 9) (x := (-2)) d_X_back_9 rfl rfl rfl rfl rfl
theorem d_Z_back_0 : decode (jm_cd mY_Z_back) 0 = .ok (.aload_n 0, 1) := by decide +kernel
theorem d_Z_back_1 : decode (jm_cd mY_Z_back) 1 = .ok (.getfield 265, 3) := by decide +kernel
theorem d_Z_back_4 : decode (jm_cd mY_Z_back) 4 = .ok (.ifCond .ne 6, 3) := by decide +kernel
theorem d_Z_back_7 : decode (jm_cd mY_Z_back) 7 = .ok (.bipush (-2), 2) := by decide +kernel
theorem d_Z_back_9 : decode (jm_cd mY_Z_back) 9 = .ok (.ireturn, 1) := by decide +kernel
theorem d_Z_back_10 : decode (jm_cd mY_Z_back) 10 = .ok (.aload_n 0, 1) := by decide +kernel
theorem d_Z_back_11 : decode (jm_cd mY_Z_back) 11 = .ok (.dup, 1) := by decide +kernel
theorem d_Z_back_12 : decode (jm_cd mY_Z_back) 12 = .ok (.getfield 265, 3) := by decide +kernel
theorem d_Z_back_15 : decode (jm_cd mY_Z_back) 15 = .ok (.iconst 1, 1) := by decide +kernel
theorem d_Z_back_16 : decode (jm_cd mY_Z_back) 16 = .ok (.isub, 1) := by decide +kernel
theorem d_Z_back_17 : decode (jm_cd mY_Z_back) 17 = .ok (.putfield 265, 3) := by decide +kernel
theorem d_Z_back_20 : decode (jm_cd mY_Z_back) 20 = .ok (.aload_n 0, 1) := by decide +kernel
theorem d_Z_back_21 : decode (jm_cd mY_Z_back) 21 = .ok (.iconst 1, 1) := by decide +kernel
theorem d_Z_back_22 : decode (jm_cd mY_Z_back) 22 = .ok (.aload_n 0, 1) := by decide +kernel
theorem d_Z_back_23 : decode (jm_cd mY_Z_back) 23 = .ok (.getfield 265, 3) := by decide +kernel
theorem d_Z_back_26 : decode (jm_cd mY_Z_back) 26 = .ok (.iadd, 1) := by decide +kernel
theorem d_Z_back_27 : decode (jm_cd mY_Z_back) 27 = .ok (.iconst 0, 1) := by decide +kernel
theorem d_Z_back_28 : decode (jm_cd mY_Z_back) 28 = .ok (.invokevirtual 268, 3) := by decide +kernel
theorem d_Z_back_31 : decode (jm_cd mY_Z_back) 31 = .ok (.aload_n 0, 1) := by decide +kernel
theorem d_Z_back_32 : decode (jm_cd mY_Z_back) 32 = .ok (.getfield 265, 3) := by decide +kernel
theorem d_Z_back_35 : decode (jm_cd mY_Z_back) 35 = .ok (.ireturn, 1) := by decide +kernel
def s_Z_back (s : jm_M) : Option (Int32 × jm_M) := (if (s.1 59 12) = 0 then (some ((-2), s)) else jm_ev (jm_si s 59 12 ((s.1 59 12) - 1)) (fun s1 => jm_bd (s_Z_copyAll s1 (1 + (s1.1 59 12)) 0) (fun s2 => (some (s2.1 59 12, s2)))))
set_option maxRecDepth 100000 in
set_option maxHeartbeats 4000000 in
theorem s_Z_back_ok (s : jm_M) : jm_Sim mY_Z_back 0 0 0 [(0, .ref 59)] [] 78 mr_154 s (s_Z_back s) (jm_rP 78 mr_154) := by
  unfold s_Z_back
  refine jm_aload_n (pc := 0) (q := 0) (x := 59) d_Z_back_0 rfl ?_
  refine jm_gi (pc := 1) (i := 59) d_Z_back_1 fo_Z_265 sh_59 ge_59 le_59_78 rfl (fun _ => rfl) ?_
  refine jm_if_ne (pc := 4) (tgt := 10) d_Z_back_4 (by decide) ?_ ?_
  · refine jm_bipush (pc := 7) (v := (-2)) d_Z_back_7 cb_m2 ?_
    exact jm_iret (pc := 9) (x := (-2)) d_Z_back_9 rfl rfl rfl rfl rfl
  · refine jm_aload_n (pc := 10) (q := 0) (x := 59) d_Z_back_10 rfl ?_
    refine jm_dup (pc := 11) d_Z_back_11 rfl ?_
    refine jm_gi (pc := 12) (i := 59) d_Z_back_12 fo_Z_265 sh_59 ge_59 le_59_78 rfl (fun _ => rfl) ?_
    refine jm_iconst (pc := 15) (v := 1) d_Z_back_15 ci_1 ?_
    refine jm_isub (pc := 16) d_Z_back_16 ?_
    refine jm_pi (pc := 17) (i := 59) d_Z_back_17 fp_Z_265 sh_59 ge_59 le_59_78 rfl rfl rfl (fun _ _ _ => rfl) (fun s1 => ?_)
    refine jm_aload_n (pc := 20) (q := 0) (x := 59) d_Z_back_20 rfl ?_
    refine jm_iconst (pc := 21) (v := 1) d_Z_back_21 ci_1 ?_
    refine jm_aload_n (pc := 22) (q := 0) (x := 59) d_Z_back_22 rfl ?_
    refine jm_gi (pc := 23) (i := 59) d_Z_back_23 fo_Z_265 sh_59 ge_59 le_59_78 rfl (fun _ => rfl) ?_
    refine jm_iadd (pc := 26) d_Z_back_26 ?_
    refine jm_iconst (pc := 27) (v := 0) d_Z_back_27 ci_0 ?_
    refine jm_Vv (pc := 28) (Y' := mY_Z_copyAll) (i := 59) (avs := [.int (1 + (s1.1 59 12)), .int 0]) (rest := []) (s_Z_copyAll_ok s1 (1 + (s1.1 59 12)) 0) ok_Z_copyAll l0_Z_back__Z_copyAll ml_Z_268 im_Z_copyAll se_Z_copyAll d_Z_back_28 rfl sh_59 rfl rfl ge_59 le_59_78 rfl (Nat.le_of_ble_eq_true rfl) (Nat.le_of_ble_eq_true rfl) (Nat.le_of_ble_eq_true rfl) (Nat.le_of_ble_eq_true rfl) (fun s2 => ?_)
    refine jm_aload_n (pc := 31) (q := 0) (x := 59) d_Z_back_31 rfl ?_
    refine jm_gi (pc := 32) (i := 59) d_Z_back_32 fo_Z_265 sh_59 ge_59 le_59_78 rfl (fun _ => rfl) ?_
    exact jm_iret (pc := 35) (x := s2.1 59 12) d_Z_back_35 rfl rfl rfl rfl rfl
theorem d_Ne_sights_0 : decode (jm_cd mY_Ne_sights) 0 = .ok (.iconst 0, 1) := by decide +kernel
theorem d_Ne_sights_1 : decode (jm_cd mY_Ne_sights) 1 = .ok (.istore_n 1, 1) := by decide +kernel
theorem d_Ne_sights_2 : decode (jm_cd mY_Ne_sights) 2 = .ok (.iconst 0, 1) := by decide +kernel
theorem d_Ne_sights_3 : decode (jm_cd mY_Ne_sights) 3 = .ok (.istore_n 2, 1) := by decide +kernel
theorem d_Ne_sights_4 : decode (jm_cd mY_Ne_sights) 4 = .ok (.iload_n 2, 1) := by decide +kernel
theorem d_Ne_sights_5 : decode (jm_cd mY_Ne_sights) 5 = .ok (.bipush 10, 2) := by decide +kernel
theorem d_Ne_sights_7 : decode (jm_cd mY_Ne_sights) 7 = .ok (.if_icmp .ge 21, 3) := by decide +kernel
theorem d_Ne_sights_10 : decode (jm_cd mY_Ne_sights) 10 = .ok (.iload_n 1, 1) := by decide +kernel
theorem d_Ne_sights_11 : decode (jm_cd mY_Ne_sights) 11 = .ok (.aload_n 0, 1) := by decide +kernel
theorem d_Ne_sights_12 : decode (jm_cd mY_Ne_sights) 12 = .ok (.getfield 19, 3) := by decide +kernel
theorem d_Ne_sights_15 : decode (jm_cd mY_Ne_sights) 15 = .ok (.iload_n 2, 1) := by decide +kernel
theorem d_Ne_sights_16 : decode (jm_cd mY_Ne_sights) 16 = .ok (.iaload, 1) := by decide +kernel
theorem d_Ne_sights_17 : decode (jm_cd mY_Ne_sights) 17 = .ok (.invokestatic 58, 3) := by decide +kernel
theorem d_Ne_sights_20 : decode (jm_cd mY_Ne_sights) 20 = .ok (.iadd, 1) := by decide +kernel
theorem d_Ne_sights_21 : decode (jm_cd mY_Ne_sights) 21 = .ok (.istore_n 1, 1) := by decide +kernel
theorem d_Ne_sights_22 : decode (jm_cd mY_Ne_sights) 22 = .ok (.iinc 2 1, 3) := by decide +kernel
theorem d_Ne_sights_25 : decode (jm_cd mY_Ne_sights) 25 = .ok (.goto (-21), 3) := by decide +kernel
theorem d_Ne_sights_28 : decode (jm_cd mY_Ne_sights) 28 = .ok (.iload_n 1, 1) := by decide +kernel
theorem d_Ne_sights_29 : decode (jm_cd mY_Ne_sights) 29 = .ok (.iconst 1, 1) := by decide +kernel
theorem d_Ne_sights_30 : decode (jm_cd mY_Ne_sights) 30 = .ok (.ishr, 1) := by decide +kernel
theorem d_Ne_sights_31 : decode (jm_cd mY_Ne_sights) 31 = .ok (.ireturn, 1) := by decide +kernel
def s_Ne_sights_15_L4 (s : jm_M) : Nat → Int32 → Int32 → Option Int32
  | 0, _, _ => none
  | n + 1, x1, x2 => (if 10 ≤ x2 then (some (x1 >>> (1 &&& 31))) else jm_ldi s 17 10 x2 (fun v1 => jm_bd (s_JI_bitCount s v1) (fun v2 => jm_vi (x1 + v2) (fun v3 => s_Ne_sights_15_L4 s n v3 (x2 + 1)))))
set_option maxRecDepth 100000 in
set_option maxHeartbeats 4000000 in
theorem s_Ne_sights_15_L4_ok (s : jm_M) : ∀ (n : Nat) (x1 : Int32) (x2 : Int32), jm_Sim mY_Ne_sights 0 0 4 [(0, .ref 15), (1, .int x1), (2, .int x2)] [] 78 mr_154 s (s_Ne_sights_15_L4 s n x1 x2) (jm_rI 78 mr_154 s) := by
  intro n
  induction n with
  | zero => intro x1 x2; exact jm_none
  | succ n ih =>
    intro x1 x2
    rw [s_Ne_sights_15_L4]
    refine jm_iload_n (pc := 4) (q := 2) (x := x2) d_Ne_sights_4 rfl ?_
    refine jm_bipush (pc := 5) (v := 10) d_Ne_sights_5 cb_10 ?_
    refine jm_icmp_ge (pc := 7) (tgt := 28) d_Ne_sights_7 (by decide) ?_ ?_
    · refine jm_iload_n (pc := 28) (q := 1) (x := x1) d_Ne_sights_28 rfl ?_
      refine jm_iconst (pc := 29) (v := 1) d_Ne_sights_29 ci_1 ?_
      refine jm_ishr (pc := 30) d_Ne_sights_30 ?_
      exact jm_iret (pc := 31) (x := x1 >>> (1 &&& 31)) d_Ne_sights_31 rfl rfl rfl rfl rfl
    · refine jm_iload_n (pc := 10) (q := 1) (x := x1) d_Ne_sights_10 rfl ?_
      refine jm_aload_n (pc := 11) (q := 0) (x := 15) d_Ne_sights_11 rfl ?_
      refine jm_gr (pc := 12) (i := 15) d_Ne_sights_12 fo_Ne_19 sh_15 ge_15 le_15_78 rfl (fun _ => rfl) mr_154_15_2 ge_17 ?_
      refine jm_iload_n (pc := 15) (q := 2) (x := x2) d_Ne_sights_15 rfl ?_
      refine jm_iald (pc := 16) d_Ne_sights_16 sh_17 ge_17 le_17_78 (fun v1 => ?_)
      refine jm_Sp (pc := 17) (Y' := mY_JI_bitCount) (avs := [.int v1]) (rest := [.int x1]) (s_JI_bitCount_ok s v1) ok_JI_bitCount l0_Ne_sights__JI_bitCount ml_Ne_58 sm_JI_bitCount d_Ne_sights_17 rfl rfl (Nat.le_of_ble_eq_true rfl) (Nat.le_of_ble_eq_true rfl) (Nat.le_of_ble_eq_true rfl) (Nat.le_of_ble_eq_true rfl) (fun v2 => ?_)
      refine jm_iadd (pc := 20) d_Ne_sights_20 ?_
      refine jm_nvi (fun v3 => ?_)
      refine jm_istore_n (pc := 21) (i := 1) (L2 := [(1, .int v3), (0, .ref 15), (2, .int x2)]) d_Ne_sights_21 rfl (Nat.le_of_ble_eq_true rfl) rfl ?_
      refine jm_iinc (pc := 22) (q := 2) (x := x2) (v := 1) (L2 := [(2, .int (x2 + 1)), (1, .int v3), (0, .ref 15)]) d_Ne_sights_22 rfl ci_1 (Nat.le_of_ble_eq_true rfl) rfl ?_
      refine jm_goto (pc := 25) (tgt := 4) d_Ne_sights_25 (by decide) ?_
      refine jm_sub (L2 := [(0, .ref 15), (1, .int v3), (2, .int (x2 + 1))]) [2, 1, 0] rfl ?_
      exact ih v3 (x2 + 1)
def s_Ne_sights_15 (s : jm_M) : Option Int32 := s_Ne_sights_15_L4 s 5000 0 0
set_option maxRecDepth 100000 in
set_option maxHeartbeats 4000000 in
theorem s_Ne_sights_15_ok (s : jm_M) : jm_Sim mY_Ne_sights 0 0 0 [(0, .ref 15)] [] 78 mr_154 s (s_Ne_sights_15 s) (jm_rI 78 mr_154 s) := by
  unfold s_Ne_sights_15
  refine jm_iconst (pc := 0) (v := 0) d_Ne_sights_0 ci_0 ?_
  refine jm_istore_n (pc := 1) (i := 1) (L2 := [(1, .int 0), (0, .ref 15)]) d_Ne_sights_1 rfl (Nat.le_of_ble_eq_true rfl) rfl ?_
  refine jm_iconst (pc := 2) (v := 0) d_Ne_sights_2 ci_0 ?_
  refine jm_istore_n (pc := 3) (i := 2) (L2 := [(2, .int 0), (1, .int 0), (0, .ref 15)]) d_Ne_sights_3 rfl (Nat.le_of_ble_eq_true rfl) rfl ?_
  refine jm_sub (L2 := [(0, .ref 15), (1, .int 0), (2, .int 0)]) [2, 1, 0] rfl ?_
  exact s_Ne_sights_15_L4_ok s 5000 0 0
theorem d_Ne_liars_0 : decode (jm_cd mY_Ne_liars) 0 = .ok (.iconst 0, 1) := by decide +kernel
theorem d_Ne_liars_1 : decode (jm_cd mY_Ne_liars) 1 = .ok (.istore_n 1, 1) := by decide +kernel
theorem d_Ne_liars_2 : decode (jm_cd mY_Ne_liars) 2 = .ok (.iconst 0, 1) := by decide +kernel
theorem d_Ne_liars_3 : decode (jm_cd mY_Ne_liars) 3 = .ok (.istore_n 2, 1) := by decide +kernel
theorem d_Ne_liars_4 : decode (jm_cd mY_Ne_liars) 4 = .ok (.iload_n 2, 1) := by decide +kernel
theorem d_Ne_liars_5 : decode (jm_cd mY_Ne_liars) 5 = .ok (.bipush 10, 2) := by decide +kernel
theorem d_Ne_liars_7 : decode (jm_cd mY_Ne_liars) 7 = .ok (.if_icmp .ge 23, 3) := by decide +kernel
theorem d_Ne_liars_10 : decode (jm_cd mY_Ne_liars) 10 = .ok (.aload_n 0, 1) := by decide +kernel
theorem d_Ne_liars_11 : decode (jm_cd mY_Ne_liars) 11 = .ok (.getfield 38, 3) := by decide +kernel
theorem d_Ne_liars_14 : decode (jm_cd mY_Ne_liars) 14 = .ok (.iload_n 2, 1) := by decide +kernel
theorem d_Ne_liars_15 : decode (jm_cd mY_Ne_liars) 15 = .ok (.laload, 1) := by decide +kernel
theorem d_Ne_liars_16 : decode (jm_cd mY_Ne_liars) 16 = .ok (.lconst 0, 1) := by decide +kernel
theorem d_Ne_liars_17 : decode (jm_cd mY_Ne_liars) 17 = .ok (.lcmp, 1) := by decide +kernel
theorem d_Ne_liars_18 : decode (jm_cd mY_Ne_liars) 18 = .ok (.ifCond .eq 6, 3) := by decide +kernel
theorem d_Ne_liars_21 : decode (jm_cd mY_Ne_liars) 21 = .ok (.iinc 1 1, 3) := by decide +kernel
theorem d_Ne_liars_24 : decode (jm_cd mY_Ne_liars) 24 = .ok (.iinc 2 1, 3) := by decide +kernel
theorem d_Ne_liars_27 : decode (jm_cd mY_Ne_liars) 27 = .ok (.goto (-23), 3) := by decide +kernel
theorem d_Ne_liars_30 : decode (jm_cd mY_Ne_liars) 30 = .ok (.iload_n 1, 1) := by decide +kernel
theorem d_Ne_liars_31 : decode (jm_cd mY_Ne_liars) 31 = .ok (.ireturn, 1) := by decide +kernel
def s_Ne_liars_15_L4 (s : jm_M) : Nat → Int32 → Int32 → Option Int32
  | 0, _, _ => none
  | n + 1, x1, x2 => (if 10 ≤ x2 then (some x1) else jm_ldl s 23 10 x2 (fun v1 => (if (lg_cmp v1 0) = 0 then s_Ne_liars_15_L4 s n x1 (x2 + 1) else s_Ne_liars_15_L4 s n (x1 + 1) (x2 + 1))))
set_option maxRecDepth 100000 in
set_option maxHeartbeats 4000000 in
theorem s_Ne_liars_15_L4_ok (s : jm_M) : ∀ (n : Nat) (x1 : Int32) (x2 : Int32), jm_Sim mY_Ne_liars 0 0 4 [(0, .ref 15), (1, .int x1), (2, .int x2)] [] 78 mr_154 s (s_Ne_liars_15_L4 s n x1 x2) (jm_rI 78 mr_154 s) := by
  intro n
  induction n with
  | zero => intro x1 x2; exact jm_none
  | succ n ih =>
    intro x1 x2
    rw [s_Ne_liars_15_L4]
    refine jm_iload_n (pc := 4) (q := 2) (x := x2) d_Ne_liars_4 rfl ?_
    refine jm_bipush (pc := 5) (v := 10) d_Ne_liars_5 cb_10 ?_
    refine jm_icmp_ge (pc := 7) (tgt := 30) d_Ne_liars_7 (by decide) ?_ ?_
    · refine jm_iload_n (pc := 30) (q := 1) (x := x1) d_Ne_liars_30 rfl ?_
      exact jm_iret (pc := 31) (x := x1) d_Ne_liars_31 rfl rfl rfl rfl rfl
    · refine jm_aload_n (pc := 10) (q := 0) (x := 15) d_Ne_liars_10 rfl ?_
      refine jm_gr (pc := 11) (i := 15) d_Ne_liars_11 fo_Ne_38 sh_15 ge_15 le_15_78 rfl (fun _ => rfl) mr_154_15_8 ge_23 ?_
      refine jm_iload_n (pc := 14) (q := 2) (x := x2) d_Ne_liars_14 rfl ?_
      refine jm_lald (pc := 15) d_Ne_liars_15 sh_23 ge_23 le_23_78 (fun v1 => ?_)
      refine jm_lconst (pc := 16) (v := 0) d_Ne_liars_16 cl_0 ?_
      refine jm_lcmp (pc := 17) d_Ne_liars_17 ?_
      refine jm_if_eq (pc := 18) (tgt := 24) d_Ne_liars_18 (by decide) ?_ ?_
      · refine jm_iinc (pc := 24) (q := 2) (x := x2) (v := 1) (L2 := [(2, .int (x2 + 1)), (0, .ref 15), (1, .int x1)]) d_Ne_liars_24 rfl ci_1 (Nat.le_of_ble_eq_true rfl) rfl ?_
        refine jm_goto (pc := 27) (tgt := 4) d_Ne_liars_27 (by decide) ?_
        refine jm_sub (L2 := [(0, .ref 15), (1, .int x1), (2, .int (x2 + 1))]) [1, 2, 0] rfl ?_
        exact ih x1 (x2 + 1)
      · refine jm_iinc (pc := 21) (q := 1) (x := x1) (v := 1) (L2 := [(1, .int (x1 + 1)), (0, .ref 15), (2, .int x2)]) d_Ne_liars_21 rfl ci_1 (Nat.le_of_ble_eq_true rfl) rfl ?_
        refine jm_iinc (pc := 24) (q := 2) (x := x2) (v := 1) (L2 := [(2, .int (x2 + 1)), (1, .int (x1 + 1)), (0, .ref 15)]) d_Ne_liars_24 rfl ci_1 (Nat.le_of_ble_eq_true rfl) rfl ?_
        refine jm_goto (pc := 27) (tgt := 4) d_Ne_liars_27 (by decide) ?_
        refine jm_sub (L2 := [(0, .ref 15), (1, .int (x1 + 1)), (2, .int (x2 + 1))]) [2, 1, 0] rfl ?_
        exact ih (x1 + 1) (x2 + 1)
def s_Ne_liars_15 (s : jm_M) : Option Int32 := s_Ne_liars_15_L4 s 5000 0 0
set_option maxRecDepth 100000 in
set_option maxHeartbeats 4000000 in
theorem s_Ne_liars_15_ok (s : jm_M) : jm_Sim mY_Ne_liars 0 0 0 [(0, .ref 15)] [] 78 mr_154 s (s_Ne_liars_15 s) (jm_rI 78 mr_154 s) := by
  unfold s_Ne_liars_15
  refine jm_iconst (pc := 0) (v := 0) d_Ne_liars_0 ci_0 ?_
  refine jm_istore_n (pc := 1) (i := 1) (L2 := [(1, .int 0), (0, .ref 15)]) d_Ne_liars_1 rfl (Nat.le_of_ble_eq_true rfl) rfl ?_
  refine jm_iconst (pc := 2) (v := 0) d_Ne_liars_2 ci_0 ?_
  refine jm_istore_n (pc := 3) (i := 2) (L2 := [(2, .int 0), (1, .int 0), (0, .ref 15)]) d_Ne_liars_3 rfl (Nat.le_of_ble_eq_true rfl) rfl ?_
  refine jm_sub (L2 := [(0, .ref 15), (1, .int 0), (2, .int 0)]) [2, 1, 0] rfl ?_
  exact s_Ne_liars_15_L4_ok s 5000 0 0
theorem d_Ne_logsWritten_0 : decode (jm_cd mY_Ne_logsWritten) 0 = .ok (.iconst 0, 1) := by decide +kernel
theorem d_Ne_logsWritten_1 : decode (jm_cd mY_Ne_logsWritten) 1 = .ok (.istore_n 1, 1) := by decide +kernel
theorem d_Ne_logsWritten_2 : decode (jm_cd mY_Ne_logsWritten) 2 = .ok (.iconst 0, 1) := by decide +kernel
theorem d_Ne_logsWritten_3 : decode (jm_cd mY_Ne_logsWritten) 3 = .ok (.istore_n 2, 1) := by decide +kernel
theorem d_Ne_logsWritten_4 : decode (jm_cd mY_Ne_logsWritten) 4 = .ok (.iload_n 2, 1) := by decide +kernel
theorem d_Ne_logsWritten_5 : decode (jm_cd mY_Ne_logsWritten) 5 = .ok (.bipush 10, 2) := by decide +kernel
theorem d_Ne_logsWritten_7 : decode (jm_cd mY_Ne_logsWritten) 7 = .ok (.if_icmp .ge 22, 3) := by decide +kernel
theorem d_Ne_logsWritten_10 : decode (jm_cd mY_Ne_logsWritten) 10 = .ok (.aload_n 0, 1) := by decide +kernel
theorem d_Ne_logsWritten_11 : decode (jm_cd mY_Ne_logsWritten) 11 = .ok (.getfield 31, 3) := by decide +kernel
theorem d_Ne_logsWritten_14 : decode (jm_cd mY_Ne_logsWritten) 14 = .ok (.iload_n 2, 1) := by decide +kernel
theorem d_Ne_logsWritten_15 : decode (jm_cd mY_Ne_logsWritten) 15 = .ok (.iaload, 1) := by decide +kernel
theorem d_Ne_logsWritten_16 : decode (jm_cd mY_Ne_logsWritten) 16 = .ok (.iconst (-1), 1) := by decide +kernel
theorem d_Ne_logsWritten_17 : decode (jm_cd mY_Ne_logsWritten) 17 = .ok (.if_icmp .eq 6, 3) := by decide +kernel
theorem d_Ne_logsWritten_20 : decode (jm_cd mY_Ne_logsWritten) 20 = .ok (.iinc 1 1, 3) := by decide +kernel
theorem d_Ne_logsWritten_23 : decode (jm_cd mY_Ne_logsWritten) 23 = .ok (.iinc 2 1, 3) := by decide +kernel
theorem d_Ne_logsWritten_26 : decode (jm_cd mY_Ne_logsWritten) 26 = .ok (.goto (-22), 3) := by decide +kernel
theorem d_Ne_logsWritten_29 : decode (jm_cd mY_Ne_logsWritten) 29 = .ok (.iload_n 1, 1) := by decide +kernel
theorem d_Ne_logsWritten_30 : decode (jm_cd mY_Ne_logsWritten) 30 = .ok (.ireturn, 1) := by decide +kernel
def s_Ne_logsWritten_15_L4 (s : jm_M) : Nat → Int32 → Int32 → Option Int32
  | 0, _, _ => none
  | n + 1, x1, x2 => (if 10 ≤ x2 then (some x1) else jm_ldi s 21 10 x2 (fun v1 => (if v1 = (-1) then s_Ne_logsWritten_15_L4 s n x1 (x2 + 1) else s_Ne_logsWritten_15_L4 s n (x1 + 1) (x2 + 1))))
set_option maxRecDepth 100000 in
set_option maxHeartbeats 4000000 in
theorem s_Ne_logsWritten_15_L4_ok (s : jm_M) : ∀ (n : Nat) (x1 : Int32) (x2 : Int32), jm_Sim mY_Ne_logsWritten 0 0 4 [(0, .ref 15), (1, .int x1), (2, .int x2)] [] 78 mr_154 s (s_Ne_logsWritten_15_L4 s n x1 x2) (jm_rI 78 mr_154 s) := by
  intro n
  induction n with
  | zero => intro x1 x2; exact jm_none
  | succ n ih =>
    intro x1 x2
    rw [s_Ne_logsWritten_15_L4]
    refine jm_iload_n (pc := 4) (q := 2) (x := x2) d_Ne_logsWritten_4 rfl ?_
    refine jm_bipush (pc := 5) (v := 10) d_Ne_logsWritten_5 cb_10 ?_
    refine jm_icmp_ge (pc := 7) (tgt := 29) d_Ne_logsWritten_7 (by decide) ?_ ?_
    · refine jm_iload_n (pc := 29) (q := 1) (x := x1) d_Ne_logsWritten_29 rfl ?_
      exact jm_iret (pc := 30) (x := x1) d_Ne_logsWritten_30 rfl rfl rfl rfl rfl
    · refine jm_aload_n (pc := 10) (q := 0) (x := 15) d_Ne_logsWritten_10 rfl ?_
      refine jm_gr (pc := 11) (i := 15) d_Ne_logsWritten_11 fo_Ne_31 sh_15 ge_15 le_15_78 rfl (fun _ => rfl) mr_154_15_6 ge_21 ?_
      refine jm_iload_n (pc := 14) (q := 2) (x := x2) d_Ne_logsWritten_14 rfl ?_
      refine jm_iald (pc := 15) d_Ne_logsWritten_15 sh_21 ge_21 le_21_78 (fun v1 => ?_)
      refine jm_iconst (pc := 16) (v := (-1)) d_Ne_logsWritten_16 ci_m1 ?_
      refine jm_icmp_eq (pc := 17) (tgt := 23) d_Ne_logsWritten_17 (by decide) ?_ ?_
      · refine jm_iinc (pc := 23) (q := 2) (x := x2) (v := 1) (L2 := [(2, .int (x2 + 1)), (0, .ref 15), (1, .int x1)]) d_Ne_logsWritten_23 rfl ci_1 (Nat.le_of_ble_eq_true rfl) rfl ?_
        refine jm_goto (pc := 26) (tgt := 4) d_Ne_logsWritten_26 (by decide) ?_
        refine jm_sub (L2 := [(0, .ref 15), (1, .int x1), (2, .int (x2 + 1))]) [1, 2, 0] rfl ?_
        exact ih x1 (x2 + 1)
      · refine jm_iinc (pc := 20) (q := 1) (x := x1) (v := 1) (L2 := [(1, .int (x1 + 1)), (0, .ref 15), (2, .int x2)]) d_Ne_logsWritten_20 rfl ci_1 (Nat.le_of_ble_eq_true rfl) rfl ?_
        refine jm_iinc (pc := 23) (q := 2) (x := x2) (v := 1) (L2 := [(2, .int (x2 + 1)), (1, .int (x1 + 1)), (0, .ref 15)]) d_Ne_logsWritten_23 rfl ci_1 (Nat.le_of_ble_eq_true rfl) rfl ?_
        refine jm_goto (pc := 26) (tgt := 4) d_Ne_logsWritten_26 (by decide) ?_
        refine jm_sub (L2 := [(0, .ref 15), (1, .int (x1 + 1)), (2, .int (x2 + 1))]) [2, 1, 0] rfl ?_
        exact ih (x1 + 1) (x2 + 1)
def s_Ne_logsWritten_15 (s : jm_M) : Option Int32 := s_Ne_logsWritten_15_L4 s 5000 0 0
set_option maxRecDepth 100000 in
set_option maxHeartbeats 4000000 in
theorem s_Ne_logsWritten_15_ok (s : jm_M) : jm_Sim mY_Ne_logsWritten 0 0 0 [(0, .ref 15)] [] 78 mr_154 s (s_Ne_logsWritten_15 s) (jm_rI 78 mr_154 s) := by
  unfold s_Ne_logsWritten_15
  refine jm_iconst (pc := 0) (v := 0) d_Ne_logsWritten_0 ci_0 ?_
  refine jm_istore_n (pc := 1) (i := 1) (L2 := [(1, .int 0), (0, .ref 15)]) d_Ne_logsWritten_1 rfl (Nat.le_of_ble_eq_true rfl) rfl ?_
  refine jm_iconst (pc := 2) (v := 0) d_Ne_logsWritten_2 ci_0 ?_
  refine jm_istore_n (pc := 3) (i := 2) (L2 := [(2, .int 0), (1, .int 0), (0, .ref 15)]) d_Ne_logsWritten_3 rfl (Nat.le_of_ble_eq_true rfl) rfl ?_
  refine jm_sub (L2 := [(0, .ref 15), (1, .int 0), (2, .int 0)]) [2, 1, 0] rfl ?_
  exact s_Ne_logsWritten_15_L4_ok s 5000 0 0
theorem d_X_count_0 : decode (jm_cd mY_X_count) 0 = .ok (.iload_n 1, 1) := by decide +kernel
theorem d_X_count_1 : decode (jm_cd mY_X_count) 1 = .ok (.tableswitch 113 0 7 #[47, 55, 63, 75, 87, 95, 100, 108], 47) := by decide +kernel
theorem d_X_count_48 : decode (jm_cd mY_X_count) 48 = .ok (.aload_n 0, 1) := by decide +kernel
theorem d_X_count_49 : decode (jm_cd mY_X_count) 49 = .ok (.getfield 31, 3) := by decide +kernel
theorem d_X_count_52 : decode (jm_cd mY_X_count) 52 = .ok (.getfield 90, 3) := by decide +kernel
theorem d_X_count_55 : decode (jm_cd mY_X_count) 55 = .ok (.ireturn, 1) := by decide +kernel
theorem d_X_count_56 : decode (jm_cd mY_X_count) 56 = .ok (.aload_n 0, 1) := by decide +kernel
theorem d_X_count_57 : decode (jm_cd mY_X_count) 57 = .ok (.getfield 31, 3) := by decide +kernel
theorem d_X_count_60 : decode (jm_cd mY_X_count) 60 = .ok (.invokevirtual 250, 3) := by decide +kernel
theorem d_X_count_63 : decode (jm_cd mY_X_count) 63 = .ok (.ireturn, 1) := by decide +kernel
theorem d_X_count_64 : decode (jm_cd mY_X_count) 64 = .ok (.aload_n 0, 1) := by decide +kernel
theorem d_X_count_65 : decode (jm_cd mY_X_count) 65 = .ok (.getfield 31, 3) := by decide +kernel
theorem d_X_count_68 : decode (jm_cd mY_X_count) 68 = .ok (.iconst 1, 1) := by decide +kernel
theorem d_X_count_69 : decode (jm_cd mY_X_count) 69 = .ok (.invokevirtual 113, 3) := by decide +kernel
theorem d_X_count_72 : decode (jm_cd mY_X_count) 72 = .ok (.invokestatic 253, 3) := by decide +kernel
theorem d_X_count_75 : decode (jm_cd mY_X_count) 75 = .ok (.ireturn, 1) := by decide +kernel
theorem d_X_count_76 : decode (jm_cd mY_X_count) 76 = .ok (.aload_n 0, 1) := by decide +kernel
theorem d_X_count_77 : decode (jm_cd mY_X_count) 77 = .ok (.getfield 31, 3) := by decide +kernel
theorem d_X_count_80 : decode (jm_cd mY_X_count) 80 = .ok (.iconst 3, 1) := by decide +kernel
theorem d_X_count_81 : decode (jm_cd mY_X_count) 81 = .ok (.invokevirtual 113, 3) := by decide +kernel
theorem d_X_count_84 : decode (jm_cd mY_X_count) 84 = .ok (.invokestatic 253, 3) := by decide +kernel
theorem d_X_count_87 : decode (jm_cd mY_X_count) 87 = .ok (.ireturn, 1) := by decide +kernel
theorem d_X_count_88 : decode (jm_cd mY_X_count) 88 = .ok (.aload_n 0, 1) := by decide +kernel
theorem d_X_count_89 : decode (jm_cd mY_X_count) 89 = .ok (.getfield 31, 3) := by decide +kernel
theorem d_X_count_92 : decode (jm_cd mY_X_count) 92 = .ok (.invokevirtual 258, 3) := by decide +kernel
theorem d_X_count_95 : decode (jm_cd mY_X_count) 95 = .ok (.ireturn, 1) := by decide +kernel
theorem d_X_count_96 : decode (jm_cd mY_X_count) 96 = .ok (.aload_n 0, 1) := by decide +kernel
theorem d_X_count_97 : decode (jm_cd mY_X_count) 97 = .ok (.getfield 13, 3) := by decide +kernel
theorem d_X_count_100 : decode (jm_cd mY_X_count) 100 = .ok (.ireturn, 1) := by decide +kernel
theorem d_X_count_101 : decode (jm_cd mY_X_count) 101 = .ok (.aload_n 0, 1) := by decide +kernel
theorem d_X_count_102 : decode (jm_cd mY_X_count) 102 = .ok (.getfield 31, 3) := by decide +kernel
theorem d_X_count_105 : decode (jm_cd mY_X_count) 105 = .ok (.invokevirtual 261, 3) := by decide +kernel
theorem d_X_count_108 : decode (jm_cd mY_X_count) 108 = .ok (.ireturn, 1) := by decide +kernel
theorem d_X_count_109 : decode (jm_cd mY_X_count) 109 = .ok (.aload_n 0, 1) := by decide +kernel
theorem d_X_count_110 : decode (jm_cd mY_X_count) 110 = .ok (.getfield 40, 3) := by decide +kernel
theorem d_X_count_113 : decode (jm_cd mY_X_count) 113 = .ok (.ireturn, 1) := by decide +kernel
theorem d_X_count_114 : decode (jm_cd mY_X_count) 114 = .ok (.iconst (-1), 1) := by decide +kernel
theorem d_X_count_115 : decode (jm_cd mY_X_count) 115 = .ok (.ireturn, 1) := by decide +kernel
def s_X_count (s : jm_M) (a0 : Int32) : Option Int32 := (if a0 = 0 then (some (s.1 15 0)) else (if a0 = 1 then jm_bd (s_Ne_sights_15 s) (fun v1 => (some v1)) else (if a0 = 2 then jm_bd (s_Ne_ofKind_15 s 1) (fun v2 => jm_bd (s_JI_bitCount s v2) (fun v3 => (some v3))) else (if a0 = 3 then jm_bd (s_Ne_ofKind_15 s 3) (fun v4 => jm_bd (s_JI_bitCount s v4) (fun v5 => (some v5))) else (if a0 = 4 then jm_bd (s_Ne_liars_15 s) (fun v6 => (some v6)) else (if a0 = 5 then (some (s.1 1 1)) else (if a0 = 6 then jm_bd (s_Ne_logsWritten_15 s) (fun v7 => (some v7)) else (if a0 = 7 then (some (s.1 1 7)) else (some (-1))))))))))
set_option maxRecDepth 100000 in
set_option maxHeartbeats 4000000 in
theorem s_X_count_ok (s : jm_M) (a0 : Int32) : jm_Sim mY_X_count 0 0 0 [(0, .ref 1), (1, .int a0)] [] 78 mr_154 s (s_X_count s a0) (jm_rI 78 mr_154 s) := by
  unfold s_X_count
  refine jm_iload_n (pc := 0) (q := 1) (x := a0) d_X_count_0 rfl ?_
  refine jm_case 0 ?_ (fun h0 => ?_)
  · refine jm_tswIn (pc := 1) (tgt := 48) d_X_count_1 (by decide) (by decide) (off := 47) (by decide) (by decide) ?_
    refine jm_aload_n (pc := 48) (q := 0) (x := 1) d_X_count_48 rfl ?_
    refine jm_gr (pc := 49) (i := 1) d_X_count_49 fo_X_31 sh_1 ge_1 le_1_78 rfl (fun _ => rfl) mr_154_1_4 ge_15 ?_
    refine jm_gi (pc := 52) (i := 15) d_X_count_52 fo_X_90 sh_15 ge_15 le_15_78 rfl (fun _ => rfl) ?_
    exact jm_iret (pc := 55) (x := s.1 15 0) d_X_count_55 rfl rfl rfl rfl rfl
  refine jm_case 1 ?_ (fun h1 => ?_)
  · refine jm_tswIn (pc := 1) (tgt := 56) d_X_count_1 (by decide) (by decide) (off := 55) (by decide) (by decide) ?_
    refine jm_aload_n (pc := 56) (q := 0) (x := 1) d_X_count_56 rfl ?_
    refine jm_gr (pc := 57) (i := 1) d_X_count_57 fo_X_31 sh_1 ge_1 le_1_78 rfl (fun _ => rfl) mr_154_1_4 ge_15 ?_
    refine jm_Vp (pc := 60) (Y' := mY_Ne_sights) (i := 15) (avs := []) (rest := []) (s_Ne_sights_15_ok s) ok_Ne_sights l0_X_count__Ne_sights ml_X_250 im_Ne_sights se_Ne_sights d_X_count_60 rfl sh_15 rfl rfl ge_15 le_15_78 rfl (Nat.le_of_ble_eq_true rfl) (Nat.le_of_ble_eq_true rfl) (Nat.le_of_ble_eq_true rfl) (Nat.le_of_ble_eq_true rfl) (fun v1 => ?_)
    exact jm_iret (pc := 63) (x := v1) d_X_count_63 rfl rfl rfl rfl rfl
  refine jm_case 2 ?_ (fun h2 => ?_)
  · refine jm_tswIn (pc := 1) (tgt := 64) d_X_count_1 (by decide) (by decide) (off := 63) (by decide) (by decide) ?_
    refine jm_aload_n (pc := 64) (q := 0) (x := 1) d_X_count_64 rfl ?_
    refine jm_gr (pc := 65) (i := 1) d_X_count_65 fo_X_31 sh_1 ge_1 le_1_78 rfl (fun _ => rfl) mr_154_1_4 ge_15 ?_
    refine jm_iconst (pc := 68) (v := 1) d_X_count_68 ci_1 ?_
    refine jm_Vp (pc := 69) (Y' := mY_Ne_ofKind) (i := 15) (avs := [.int 1]) (rest := []) (s_Ne_ofKind_15_ok s 1) ok_Ne_ofKind l0_X_count__Ne_ofKind ml_X_113 im_Ne_ofKind se_Ne_ofKind d_X_count_69 rfl sh_15 rfl rfl ge_15 le_15_78 rfl (Nat.le_of_ble_eq_true rfl) (Nat.le_of_ble_eq_true rfl) (Nat.le_of_ble_eq_true rfl) (Nat.le_of_ble_eq_true rfl) (fun v2 => ?_)
    refine jm_Sp (pc := 72) (Y' := mY_JI_bitCount) (avs := [.int v2]) (rest := []) (s_JI_bitCount_ok s v2) ok_JI_bitCount l0_X_count__JI_bitCount ml_X_253 sm_JI_bitCount d_X_count_72 rfl rfl (Nat.le_of_ble_eq_true rfl) (Nat.le_of_ble_eq_true rfl) (Nat.le_of_ble_eq_true rfl) (Nat.le_of_ble_eq_true rfl) (fun v3 => ?_)
    exact jm_iret (pc := 75) (x := v3) d_X_count_75 rfl rfl rfl rfl rfl
  refine jm_case 3 ?_ (fun h3 => ?_)
  · refine jm_tswIn (pc := 1) (tgt := 76) d_X_count_1 (by decide) (by decide) (off := 75) (by decide) (by decide) ?_
    refine jm_aload_n (pc := 76) (q := 0) (x := 1) d_X_count_76 rfl ?_
    refine jm_gr (pc := 77) (i := 1) d_X_count_77 fo_X_31 sh_1 ge_1 le_1_78 rfl (fun _ => rfl) mr_154_1_4 ge_15 ?_
    refine jm_iconst (pc := 80) (v := 3) d_X_count_80 ci_3 ?_
    refine jm_Vp (pc := 81) (Y' := mY_Ne_ofKind) (i := 15) (avs := [.int 3]) (rest := []) (s_Ne_ofKind_15_ok s 3) ok_Ne_ofKind l0_X_count__Ne_ofKind ml_X_113 im_Ne_ofKind se_Ne_ofKind d_X_count_81 rfl sh_15 rfl rfl ge_15 le_15_78 rfl (Nat.le_of_ble_eq_true rfl) (Nat.le_of_ble_eq_true rfl) (Nat.le_of_ble_eq_true rfl) (Nat.le_of_ble_eq_true rfl) (fun v4 => ?_)
    refine jm_Sp (pc := 84) (Y' := mY_JI_bitCount) (avs := [.int v4]) (rest := []) (s_JI_bitCount_ok s v4) ok_JI_bitCount l0_X_count__JI_bitCount ml_X_253 sm_JI_bitCount d_X_count_84 rfl rfl (Nat.le_of_ble_eq_true rfl) (Nat.le_of_ble_eq_true rfl) (Nat.le_of_ble_eq_true rfl) (Nat.le_of_ble_eq_true rfl) (fun v5 => ?_)
    exact jm_iret (pc := 87) (x := v5) d_X_count_87 rfl rfl rfl rfl rfl
  refine jm_case 4 ?_ (fun h4 => ?_)
  · refine jm_tswIn (pc := 1) (tgt := 88) d_X_count_1 (by decide) (by decide) (off := 87) (by decide) (by decide) ?_
    refine jm_aload_n (pc := 88) (q := 0) (x := 1) d_X_count_88 rfl ?_
    refine jm_gr (pc := 89) (i := 1) d_X_count_89 fo_X_31 sh_1 ge_1 le_1_78 rfl (fun _ => rfl) mr_154_1_4 ge_15 ?_
    refine jm_Vp (pc := 92) (Y' := mY_Ne_liars) (i := 15) (avs := []) (rest := []) (s_Ne_liars_15_ok s) ok_Ne_liars l0_X_count__Ne_liars ml_X_258 im_Ne_liars se_Ne_liars d_X_count_92 rfl sh_15 rfl rfl ge_15 le_15_78 rfl (Nat.le_of_ble_eq_true rfl) (Nat.le_of_ble_eq_true rfl) (Nat.le_of_ble_eq_true rfl) (Nat.le_of_ble_eq_true rfl) (fun v6 => ?_)
    exact jm_iret (pc := 95) (x := v6) d_X_count_95 rfl rfl rfl rfl rfl
  refine jm_case 5 ?_ (fun h5 => ?_)
  · refine jm_tswIn (pc := 1) (tgt := 96) d_X_count_1 (by decide) (by decide) (off := 95) (by decide) (by decide) ?_
    refine jm_aload_n (pc := 96) (q := 0) (x := 1) d_X_count_96 rfl ?_
    refine jm_gi (pc := 97) (i := 1) d_X_count_97 fo_X_13 sh_1 ge_1 le_1_78 rfl (fun _ => rfl) ?_
    exact jm_iret (pc := 100) (x := s.1 1 1) d_X_count_100 rfl rfl rfl rfl rfl
  refine jm_case 6 ?_ (fun h6 => ?_)
  · refine jm_tswIn (pc := 1) (tgt := 101) d_X_count_1 (by decide) (by decide) (off := 100) (by decide) (by decide) ?_
    refine jm_aload_n (pc := 101) (q := 0) (x := 1) d_X_count_101 rfl ?_
    refine jm_gr (pc := 102) (i := 1) d_X_count_102 fo_X_31 sh_1 ge_1 le_1_78 rfl (fun _ => rfl) mr_154_1_4 ge_15 ?_
    refine jm_Vp (pc := 105) (Y' := mY_Ne_logsWritten) (i := 15) (avs := []) (rest := []) (s_Ne_logsWritten_15_ok s) ok_Ne_logsWritten l0_X_count__Ne_logsWritten ml_X_261 im_Ne_logsWritten se_Ne_logsWritten d_X_count_105 rfl sh_15 rfl rfl ge_15 le_15_78 rfl (Nat.le_of_ble_eq_true rfl) (Nat.le_of_ble_eq_true rfl) (Nat.le_of_ble_eq_true rfl) (Nat.le_of_ble_eq_true rfl) (fun v7 => ?_)
    exact jm_iret (pc := 108) (x := v7) d_X_count_108 rfl rfl rfl rfl rfl
  refine jm_case 7 ?_ (fun h7 => ?_)
  · refine jm_tswIn (pc := 1) (tgt := 109) d_X_count_1 (by decide) (by decide) (off := 108) (by decide) (by decide) ?_
    refine jm_aload_n (pc := 109) (q := 0) (x := 1) d_X_count_109 rfl ?_
    refine jm_gi (pc := 110) (i := 1) d_X_count_110 fo_X_40 sh_1 ge_1 le_1_78 rfl (fun _ => rfl) ?_
    exact jm_iret (pc := 113) (x := s.1 1 7) d_X_count_113 rfl rfl rfl rfl rfl
  refine jm_tswOut (pc := 1) (tgt := 114) d_X_count_1 (by have e0 := jm_neT 0 h0 (a := 0) (by decide); have e1 := jm_neT 1 h1 (a := 1) (by decide); have e2 := jm_neT 2 h2 (a := 2) (by decide); have e3 := jm_neT 3 h3 (a := 3) (by decide); have e4 := jm_neT 4 h4 (a := 4) (by decide); have e5 := jm_neT 5 h5 (a := 5) (by decide); have e6 := jm_neT 6 h6 (a := 6) (by decide); have e7 := jm_neT 7 h7 (a := 7) (by decide); omega) (by decide) ?_
  refine jm_iconst (pc := 114) (v := (-1)) d_X_count_114 ci_m1 ?_
  exact jm_iret (pc := 115) (x := (-1)) d_X_count_115 rfl rfl rfl rfl rfl
theorem d_Z_count_0 : decode (jm_cd mY_Z_count) 0 = .ok (.iconst 0, 1) := by decide +kernel
theorem d_Z_count_1 : decode (jm_cd mY_Z_count) 1 = .ok (.istore_n 2, 1) := by decide +kernel
theorem d_Z_count_2 : decode (jm_cd mY_Z_count) 2 = .ok (.iload_n 1, 1) := by decide +kernel
theorem d_Z_count_3 : decode (jm_cd mY_Z_count) 3 = .ok (.tableswitch 187 0 7 #[45, 52, 86, 95, 104, 140, 145, 182], 45) := by decide +kernel
theorem d_Z_count_48 : decode (jm_cd mY_Z_count) 48 = .ok (.aload_n 0, 1) := by decide +kernel
theorem d_Z_count_49 : decode (jm_cd mY_Z_count) 49 = .ok (.getfield 13, 3) := by decide +kernel
theorem d_Z_count_52 : decode (jm_cd mY_Z_count) 52 = .ok (.iconst 0, 1) := by decide +kernel
theorem d_Z_count_53 : decode (jm_cd mY_Z_count) 53 = .ok (.iaload, 1) := by decide +kernel
theorem d_Z_count_54 : decode (jm_cd mY_Z_count) 54 = .ok (.ireturn, 1) := by decide +kernel
theorem d_Z_count_55 : decode (jm_cd mY_Z_count) 55 = .ok (.iconst 0, 1) := by decide +kernel
theorem d_Z_count_56 : decode (jm_cd mY_Z_count) 56 = .ok (.istore_n 3, 1) := by decide +kernel
theorem d_Z_count_57 : decode (jm_cd mY_Z_count) 57 = .ok (.iload_n 3, 1) := by decide +kernel
theorem d_Z_count_58 : decode (jm_cd mY_Z_count) 58 = .ok (.aload_n 0, 1) := by decide +kernel
theorem d_Z_count_59 : decode (jm_cd mY_Z_count) 59 = .ok (.getfield 13, 3) := by decide +kernel
theorem d_Z_count_62 : decode (jm_cd mY_Z_count) 62 = .ok (.iconst 0, 1) := by decide +kernel
theorem d_Z_count_63 : decode (jm_cd mY_Z_count) 63 = .ok (.iaload, 1) := by decide +kernel
theorem d_Z_count_64 : decode (jm_cd mY_Z_count) 64 = .ok (.if_icmp .ge 21, 3) := by decide +kernel
theorem d_Z_count_67 : decode (jm_cd mY_Z_count) 67 = .ok (.iload_n 2, 1) := by decide +kernel
theorem d_Z_count_68 : decode (jm_cd mY_Z_count) 68 = .ok (.aload_n 0, 1) := by decide +kernel
theorem d_Z_count_69 : decode (jm_cd mY_Z_count) 69 = .ok (.getfield 19, 3) := by decide +kernel
theorem d_Z_count_72 : decode (jm_cd mY_Z_count) 72 = .ok (.iload_n 3, 1) := by decide +kernel
theorem d_Z_count_73 : decode (jm_cd mY_Z_count) 73 = .ok (.iaload, 1) := by decide +kernel
theorem d_Z_count_74 : decode (jm_cd mY_Z_count) 74 = .ok (.invokestatic 212, 3) := by decide +kernel
theorem d_Z_count_77 : decode (jm_cd mY_Z_count) 77 = .ok (.iadd, 1) := by decide +kernel
theorem d_Z_count_78 : decode (jm_cd mY_Z_count) 78 = .ok (.istore_n 2, 1) := by decide +kernel
theorem d_Z_count_79 : decode (jm_cd mY_Z_count) 79 = .ok (.iinc 3 1, 3) := by decide +kernel
theorem d_Z_count_82 : decode (jm_cd mY_Z_count) 82 = .ok (.goto (-25), 3) := by decide +kernel
theorem d_Z_count_85 : decode (jm_cd mY_Z_count) 85 = .ok (.iload_n 2, 1) := by decide +kernel
theorem d_Z_count_86 : decode (jm_cd mY_Z_count) 86 = .ok (.iconst 2, 1) := by decide +kernel
theorem d_Z_count_87 : decode (jm_cd mY_Z_count) 87 = .ok (.idiv, 1) := by decide +kernel
theorem d_Z_count_88 : decode (jm_cd mY_Z_count) 88 = .ok (.ireturn, 1) := by decide +kernel
theorem d_Z_count_89 : decode (jm_cd mY_Z_count) 89 = .ok (.aload_n 0, 1) := by decide +kernel
theorem d_Z_count_90 : decode (jm_cd mY_Z_count) 90 = .ok (.iconst 1, 1) := by decide +kernel
theorem d_Z_count_91 : decode (jm_cd mY_Z_count) 91 = .ok (.invokevirtual 143, 3) := by decide +kernel
theorem d_Z_count_94 : decode (jm_cd mY_Z_count) 94 = .ok (.invokestatic 212, 3) := by decide +kernel
theorem d_Z_count_97 : decode (jm_cd mY_Z_count) 97 = .ok (.ireturn, 1) := by decide +kernel
theorem d_Z_count_98 : decode (jm_cd mY_Z_count) 98 = .ok (.aload_n 0, 1) := by decide +kernel
theorem d_Z_count_99 : decode (jm_cd mY_Z_count) 99 = .ok (.iconst 3, 1) := by decide +kernel
theorem d_Z_count_100 : decode (jm_cd mY_Z_count) 100 = .ok (.invokevirtual 143, 3) := by decide +kernel
theorem d_Z_count_103 : decode (jm_cd mY_Z_count) 103 = .ok (.invokestatic 212, 3) := by decide +kernel
theorem d_Z_count_106 : decode (jm_cd mY_Z_count) 106 = .ok (.ireturn, 1) := by decide +kernel
theorem d_Z_count_107 : decode (jm_cd mY_Z_count) 107 = .ok (.iconst 0, 1) := by decide +kernel
theorem d_Z_count_108 : decode (jm_cd mY_Z_count) 108 = .ok (.istore_n 3, 1) := by decide +kernel
theorem d_Z_count_109 : decode (jm_cd mY_Z_count) 109 = .ok (.iload_n 3, 1) := by decide +kernel
theorem d_Z_count_110 : decode (jm_cd mY_Z_count) 110 = .ok (.aload_n 0, 1) := by decide +kernel
theorem d_Z_count_111 : decode (jm_cd mY_Z_count) 111 = .ok (.getfield 13, 3) := by decide +kernel
theorem d_Z_count_114 : decode (jm_cd mY_Z_count) 114 = .ok (.iconst 0, 1) := by decide +kernel
theorem d_Z_count_115 : decode (jm_cd mY_Z_count) 115 = .ok (.iaload, 1) := by decide +kernel
theorem d_Z_count_116 : decode (jm_cd mY_Z_count) 116 = .ok (.if_icmp .ge 25, 3) := by decide +kernel
theorem d_Z_count_119 : decode (jm_cd mY_Z_count) 119 = .ok (.iload_n 2, 1) := by decide +kernel
theorem d_Z_count_120 : decode (jm_cd mY_Z_count) 120 = .ok (.aload_n 0, 1) := by decide +kernel
theorem d_Z_count_121 : decode (jm_cd mY_Z_count) 121 = .ok (.iload_n 3, 1) := by decide +kernel
theorem d_Z_count_122 : decode (jm_cd mY_Z_count) 122 = .ok (.invokevirtual 153, 3) := by decide +kernel
theorem d_Z_count_125 : decode (jm_cd mY_Z_count) 125 = .ok (.ifCond .eq 7, 3) := by decide +kernel
theorem d_Z_count_128 : decode (jm_cd mY_Z_count) 128 = .ok (.iconst 1, 1) := by decide +kernel
theorem d_Z_count_129 : decode (jm_cd mY_Z_count) 129 = .ok (.goto 4, 3) := by decide +kernel
theorem d_Z_count_132 : decode (jm_cd mY_Z_count) 132 = .ok (.iconst 0, 1) := by decide +kernel
theorem d_Z_count_133 : decode (jm_cd mY_Z_count) 133 = .ok (.iadd, 1) := by decide +kernel
theorem d_Z_count_134 : decode (jm_cd mY_Z_count) 134 = .ok (.istore_n 2, 1) := by decide +kernel
theorem d_Z_count_135 : decode (jm_cd mY_Z_count) 135 = .ok (.iinc 3 1, 3) := by decide +kernel
theorem d_Z_count_138 : decode (jm_cd mY_Z_count) 138 = .ok (.goto (-29), 3) := by decide +kernel
theorem d_Z_count_141 : decode (jm_cd mY_Z_count) 141 = .ok (.iload_n 2, 1) := by decide +kernel
theorem d_Z_count_142 : decode (jm_cd mY_Z_count) 142 = .ok (.ireturn, 1) := by decide +kernel
theorem d_Z_count_143 : decode (jm_cd mY_Z_count) 143 = .ok (.aload_n 0, 1) := by decide +kernel
theorem d_Z_count_144 : decode (jm_cd mY_Z_count) 144 = .ok (.getfield 73, 3) := by decide +kernel
theorem d_Z_count_147 : decode (jm_cd mY_Z_count) 147 = .ok (.ireturn, 1) := by decide +kernel
theorem d_Z_count_148 : decode (jm_cd mY_Z_count) 148 = .ok (.iconst 0, 1) := by decide +kernel
theorem d_Z_count_149 : decode (jm_cd mY_Z_count) 149 = .ok (.istore_n 3, 1) := by decide +kernel
theorem d_Z_count_150 : decode (jm_cd mY_Z_count) 150 = .ok (.iload_n 3, 1) := by decide +kernel
theorem d_Z_count_151 : decode (jm_cd mY_Z_count) 151 = .ok (.aload_n 0, 1) := by decide +kernel
theorem d_Z_count_152 : decode (jm_cd mY_Z_count) 152 = .ok (.getfield 13, 3) := by decide +kernel
theorem d_Z_count_155 : decode (jm_cd mY_Z_count) 155 = .ok (.iconst 0, 1) := by decide +kernel
theorem d_Z_count_156 : decode (jm_cd mY_Z_count) 156 = .ok (.iaload, 1) := by decide +kernel
theorem d_Z_count_157 : decode (jm_cd mY_Z_count) 157 = .ok (.if_icmp .ge 26, 3) := by decide +kernel
theorem d_Z_count_160 : decode (jm_cd mY_Z_count) 160 = .ok (.iload_n 2, 1) := by decide +kernel
theorem d_Z_count_161 : decode (jm_cd mY_Z_count) 161 = .ok (.aload_n 0, 1) := by decide +kernel
theorem d_Z_count_162 : decode (jm_cd mY_Z_count) 162 = .ok (.getfield 40, 3) := by decide +kernel
theorem d_Z_count_165 : decode (jm_cd mY_Z_count) 165 = .ok (.iload_n 3, 1) := by decide +kernel
theorem d_Z_count_166 : decode (jm_cd mY_Z_count) 166 = .ok (.iaload, 1) := by decide +kernel
theorem d_Z_count_167 : decode (jm_cd mY_Z_count) 167 = .ok (.ifCond .lt 7, 3) := by decide +kernel
theorem d_Z_count_170 : decode (jm_cd mY_Z_count) 170 = .ok (.iconst 1, 1) := by decide +kernel
theorem d_Z_count_171 : decode (jm_cd mY_Z_count) 171 = .ok (.goto 4, 3) := by decide +kernel
theorem d_Z_count_174 : decode (jm_cd mY_Z_count) 174 = .ok (.iconst 0, 1) := by decide +kernel
theorem d_Z_count_175 : decode (jm_cd mY_Z_count) 175 = .ok (.iadd, 1) := by decide +kernel
theorem d_Z_count_176 : decode (jm_cd mY_Z_count) 176 = .ok (.istore_n 2, 1) := by decide +kernel
theorem d_Z_count_177 : decode (jm_cd mY_Z_count) 177 = .ok (.iinc 3 1, 3) := by decide +kernel
theorem d_Z_count_180 : decode (jm_cd mY_Z_count) 180 = .ok (.goto (-30), 3) := by decide +kernel
theorem d_Z_count_183 : decode (jm_cd mY_Z_count) 183 = .ok (.iload_n 2, 1) := by decide +kernel
theorem d_Z_count_184 : decode (jm_cd mY_Z_count) 184 = .ok (.ireturn, 1) := by decide +kernel
theorem d_Z_count_185 : decode (jm_cd mY_Z_count) 185 = .ok (.aload_n 0, 1) := by decide +kernel
theorem d_Z_count_186 : decode (jm_cd mY_Z_count) 186 = .ok (.getfield 265, 3) := by decide +kernel
theorem d_Z_count_189 : decode (jm_cd mY_Z_count) 189 = .ok (.ireturn, 1) := by decide +kernel
theorem d_Z_count_190 : decode (jm_cd mY_Z_count) 190 = .ok (.iconst (-1), 1) := by decide +kernel
theorem d_Z_count_191 : decode (jm_cd mY_Z_count) 191 = .ok (.ireturn, 1) := by decide +kernel
def s_Z_count_L57 (s : jm_M) : Nat → Int32 → Int32 → Option Int32
  | 0, _, _ => none
  | n + 1, x2, x3 => jm_ldi s 61 4 0 (fun v2 => (if v2 ≤ x3 then (some (x2 / 2)) else jm_ldi s 63 40 x3 (fun v3 => jm_bd (s_Z_bits s v3) (fun v4 => jm_vi (x2 + v4) (fun v5 => s_Z_count_L57 s n v5 (x3 + 1))))))
set_option maxRecDepth 100000 in
set_option maxHeartbeats 4000000 in
theorem s_Z_count_L57_ok (s : jm_M) : ∀ (n : Nat) (x2 : Int32) (x3 : Int32), jm_Sim mY_Z_count 0 0 57 [(0, .ref 59), (2, .int x2), (3, .int x3)] [] 78 mr_154 s (s_Z_count_L57 s n x2 x3) (jm_rI 78 mr_154 s) := by
  intro n
  induction n with
  | zero => intro x2 x3; exact jm_none
  | succ n ih =>
    intro x2 x3
    rw [s_Z_count_L57]
    refine jm_iload_n (pc := 57) (q := 2) (x := x3) d_Z_count_57 rfl ?_
    refine jm_aload_n (pc := 58) (q := 0) (x := 59) d_Z_count_58 rfl ?_
    refine jm_gr (pc := 59) (i := 59) d_Z_count_59 fo_Z_13 sh_59 ge_59 le_59_78 rfl (fun _ => rfl) mr_154_59_2 ge_61 ?_
    refine jm_iconst (pc := 62) (v := 0) d_Z_count_62 ci_0 ?_
    refine jm_iald (pc := 63) d_Z_count_63 sh_61 ge_61 le_61_78 (fun v2 => ?_)
    refine jm_icmp_ge (pc := 64) (tgt := 85) d_Z_count_64 (by decide) ?_ ?_
    · refine jm_iload_n (pc := 85) (q := 1) (x := x2) d_Z_count_85 rfl ?_
      refine jm_iconst (pc := 86) (v := 2) d_Z_count_86 ci_2 ?_
      refine jm_idiv (pc := 87) d_Z_count_87 (by decide) ?_
      exact jm_iret (pc := 88) (x := x2 / 2) d_Z_count_88 rfl rfl rfl rfl rfl
    · refine jm_iload_n (pc := 67) (q := 1) (x := x2) d_Z_count_67 rfl ?_
      refine jm_aload_n (pc := 68) (q := 0) (x := 59) d_Z_count_68 rfl ?_
      refine jm_gr (pc := 69) (i := 59) d_Z_count_69 fo_Z_19 sh_59 ge_59 le_59_78 rfl (fun _ => rfl) mr_154_59_4 ge_63 ?_
      refine jm_iload_n (pc := 72) (q := 2) (x := x3) d_Z_count_72 rfl ?_
      refine jm_iald (pc := 73) d_Z_count_73 sh_63 ge_63 le_63_78 (fun v3 => ?_)
      refine jm_Sp (pc := 74) (Y' := mY_Z_bits) (avs := [.int v3]) (rest := [.int x2]) (s_Z_bits_ok s v3) ok_Z_bits l0_Z_count__Z_bits ml_Z_212 sm_Z_bits d_Z_count_74 rfl rfl (Nat.le_of_ble_eq_true rfl) (Nat.le_of_ble_eq_true rfl) (Nat.le_of_ble_eq_true rfl) (Nat.le_of_ble_eq_true rfl) (fun v4 => ?_)
      refine jm_iadd (pc := 77) d_Z_count_77 ?_
      refine jm_nvi (fun v5 => ?_)
      refine jm_istore_n (pc := 78) (i := 2) (L2 := [(2, .int v5), (0, .ref 59), (3, .int x3)]) d_Z_count_78 rfl (Nat.le_of_ble_eq_true rfl) rfl ?_
      refine jm_iinc (pc := 79) (q := 2) (x := x3) (v := 1) (L2 := [(3, .int (x3 + 1)), (2, .int v5), (0, .ref 59)]) d_Z_count_79 rfl ci_1 (Nat.le_of_ble_eq_true rfl) rfl ?_
      refine jm_goto (pc := 82) (tgt := 57) d_Z_count_82 (by decide) ?_
      refine jm_sub (L2 := [(0, .ref 59), (2, .int v5), (3, .int (x3 + 1))]) [2, 1, 0] rfl ?_
      exact ih v5 (x3 + 1)
def s_Z_count_L109 (s : jm_M) : Nat → Int32 → Int32 → Option Int32
  | 0, _, _ => none
  | n + 1, x2, x3 => jm_ldi s 61 4 0 (fun v10 => (if v10 ≤ x3 then (some x2) else jm_bd (s_Z_isLiar s x3) (fun v11 => (if v11 = 0 then jm_vi (x2 + 0) (fun v12 => s_Z_count_L109 s n v12 (x3 + 1)) else jm_vi (x2 + 1) (fun v13 => s_Z_count_L109 s n v13 (x3 + 1))))))
set_option maxRecDepth 100000 in
set_option maxHeartbeats 4000000 in
theorem s_Z_count_L109_ok (s : jm_M) : ∀ (n : Nat) (x2 : Int32) (x3 : Int32), jm_Sim mY_Z_count 0 0 109 [(0, .ref 59), (2, .int x2), (3, .int x3)] [] 78 mr_154 s (s_Z_count_L109 s n x2 x3) (jm_rI 78 mr_154 s) := by
  intro n
  induction n with
  | zero => intro x2 x3; exact jm_none
  | succ n ih =>
    intro x2 x3
    rw [s_Z_count_L109]
    refine jm_iload_n (pc := 109) (q := 2) (x := x3) d_Z_count_109 rfl ?_
    refine jm_aload_n (pc := 110) (q := 0) (x := 59) d_Z_count_110 rfl ?_
    refine jm_gr (pc := 111) (i := 59) d_Z_count_111 fo_Z_13 sh_59 ge_59 le_59_78 rfl (fun _ => rfl) mr_154_59_2 ge_61 ?_
    refine jm_iconst (pc := 114) (v := 0) d_Z_count_114 ci_0 ?_
    refine jm_iald (pc := 115) d_Z_count_115 sh_61 ge_61 le_61_78 (fun v10 => ?_)
    refine jm_icmp_ge (pc := 116) (tgt := 141) d_Z_count_116 (by decide) ?_ ?_
    · refine jm_iload_n (pc := 141) (q := 1) (x := x2) d_Z_count_141 rfl ?_
      exact jm_iret (pc := 142) (x := x2) d_Z_count_142 rfl rfl rfl rfl rfl
    · refine jm_iload_n (pc := 119) (q := 1) (x := x2) d_Z_count_119 rfl ?_
      refine jm_aload_n (pc := 120) (q := 0) (x := 59) d_Z_count_120 rfl ?_
      refine jm_iload_n (pc := 121) (q := 2) (x := x3) d_Z_count_121 rfl ?_
      refine jm_Vp (pc := 122) (Y' := mY_Z_isLiar) (i := 59) (avs := [.int x3]) (rest := [.int x2]) (s_Z_isLiar_ok s x3) ok_Z_isLiar l0_Z_count__Z_isLiar ml_Z_153 im_Z_isLiar se_Z_isLiar d_Z_count_122 rfl sh_59 rfl rfl ge_59 le_59_78 rfl (Nat.le_of_ble_eq_true rfl) (Nat.le_of_ble_eq_true rfl) (Nat.le_of_ble_eq_true rfl) (Nat.le_of_ble_eq_true rfl) (fun v11 => ?_)
      refine jm_if_eq (pc := 125) (tgt := 132) d_Z_count_125 (by decide) ?_ ?_
      · refine jm_iconst (pc := 132) (v := 0) d_Z_count_132 ci_0 ?_
        refine jm_iadd (pc := 133) d_Z_count_133 ?_
        refine jm_nvi (fun v12 => ?_)
        refine jm_istore_n (pc := 134) (i := 2) (L2 := [(2, .int v12), (0, .ref 59), (3, .int x3)]) d_Z_count_134 rfl (Nat.le_of_ble_eq_true rfl) rfl ?_
        refine jm_iinc (pc := 135) (q := 2) (x := x3) (v := 1) (L2 := [(3, .int (x3 + 1)), (2, .int v12), (0, .ref 59)]) d_Z_count_135 rfl ci_1 (Nat.le_of_ble_eq_true rfl) rfl ?_
        refine jm_goto (pc := 138) (tgt := 109) d_Z_count_138 (by decide) ?_
        refine jm_sub (L2 := [(0, .ref 59), (2, .int v12), (3, .int (x3 + 1))]) [2, 1, 0] rfl ?_
        exact ih v12 (x3 + 1)
      · refine jm_iconst (pc := 128) (v := 1) d_Z_count_128 ci_1 ?_
        refine jm_goto (pc := 129) (tgt := 133) d_Z_count_129 (by decide) ?_
        refine jm_iadd (pc := 133) d_Z_count_133 ?_
        refine jm_nvi (fun v13 => ?_)
        refine jm_istore_n (pc := 134) (i := 2) (L2 := [(2, .int v13), (0, .ref 59), (3, .int x3)]) d_Z_count_134 rfl (Nat.le_of_ble_eq_true rfl) rfl ?_
        refine jm_iinc (pc := 135) (q := 2) (x := x3) (v := 1) (L2 := [(3, .int (x3 + 1)), (2, .int v13), (0, .ref 59)]) d_Z_count_135 rfl ci_1 (Nat.le_of_ble_eq_true rfl) rfl ?_
        refine jm_goto (pc := 138) (tgt := 109) d_Z_count_138 (by decide) ?_
        refine jm_sub (L2 := [(0, .ref 59), (2, .int v13), (3, .int (x3 + 1))]) [2, 1, 0] rfl ?_
        exact ih v13 (x3 + 1)
def s_Z_count_L150 (s : jm_M) : Nat → Int32 → Int32 → Option Int32
  | 0, _, _ => none
  | n + 1, x2, x3 => jm_ldi s 61 4 0 (fun v14 => (if v14 ≤ x3 then (some x2) else jm_ldi s 70 30 x3 (fun v15 => (if v15 < 0 then jm_vi (x2 + 0) (fun v16 => s_Z_count_L150 s n v16 (x3 + 1)) else jm_vi (x2 + 1) (fun v17 => s_Z_count_L150 s n v17 (x3 + 1))))))
set_option maxRecDepth 100000 in
set_option maxHeartbeats 4000000 in
theorem s_Z_count_L150_ok (s : jm_M) : ∀ (n : Nat) (x2 : Int32) (x3 : Int32), jm_Sim mY_Z_count 0 0 150 [(0, .ref 59), (2, .int x2), (3, .int x3)] [] 78 mr_154 s (s_Z_count_L150 s n x2 x3) (jm_rI 78 mr_154 s) := by
  intro n
  induction n with
  | zero => intro x2 x3; exact jm_none
  | succ n ih =>
    intro x2 x3
    rw [s_Z_count_L150]
    refine jm_iload_n (pc := 150) (q := 2) (x := x3) d_Z_count_150 rfl ?_
    refine jm_aload_n (pc := 151) (q := 0) (x := 59) d_Z_count_151 rfl ?_
    refine jm_gr (pc := 152) (i := 59) d_Z_count_152 fo_Z_13 sh_59 ge_59 le_59_78 rfl (fun _ => rfl) mr_154_59_2 ge_61 ?_
    refine jm_iconst (pc := 155) (v := 0) d_Z_count_155 ci_0 ?_
    refine jm_iald (pc := 156) d_Z_count_156 sh_61 ge_61 le_61_78 (fun v14 => ?_)
    refine jm_icmp_ge (pc := 157) (tgt := 183) d_Z_count_157 (by decide) ?_ ?_
    · refine jm_iload_n (pc := 183) (q := 1) (x := x2) d_Z_count_183 rfl ?_
      exact jm_iret (pc := 184) (x := x2) d_Z_count_184 rfl rfl rfl rfl rfl
    · refine jm_iload_n (pc := 160) (q := 1) (x := x2) d_Z_count_160 rfl ?_
      refine jm_aload_n (pc := 161) (q := 0) (x := 59) d_Z_count_161 rfl ?_
      refine jm_gr (pc := 162) (i := 59) d_Z_count_162 fo_Z_40 sh_59 ge_59 le_59_78 rfl (fun _ => rfl) mr_154_59_11 ge_70 ?_
      refine jm_iload_n (pc := 165) (q := 2) (x := x3) d_Z_count_165 rfl ?_
      refine jm_iald (pc := 166) d_Z_count_166 sh_70 ge_70 le_70_78 (fun v15 => ?_)
      refine jm_if_lt (pc := 167) (tgt := 174) d_Z_count_167 (by decide) ?_ ?_
      · refine jm_iconst (pc := 174) (v := 0) d_Z_count_174 ci_0 ?_
        refine jm_iadd (pc := 175) d_Z_count_175 ?_
        refine jm_nvi (fun v16 => ?_)
        refine jm_istore_n (pc := 176) (i := 2) (L2 := [(2, .int v16), (0, .ref 59), (3, .int x3)]) d_Z_count_176 rfl (Nat.le_of_ble_eq_true rfl) rfl ?_
        refine jm_iinc (pc := 177) (q := 2) (x := x3) (v := 1) (L2 := [(3, .int (x3 + 1)), (2, .int v16), (0, .ref 59)]) d_Z_count_177 rfl ci_1 (Nat.le_of_ble_eq_true rfl) rfl ?_
        refine jm_goto (pc := 180) (tgt := 150) d_Z_count_180 (by decide) ?_
        refine jm_sub (L2 := [(0, .ref 59), (2, .int v16), (3, .int (x3 + 1))]) [2, 1, 0] rfl ?_
        exact ih v16 (x3 + 1)
      · refine jm_iconst (pc := 170) (v := 1) d_Z_count_170 ci_1 ?_
        refine jm_goto (pc := 171) (tgt := 175) d_Z_count_171 (by decide) ?_
        refine jm_iadd (pc := 175) d_Z_count_175 ?_
        refine jm_nvi (fun v17 => ?_)
        refine jm_istore_n (pc := 176) (i := 2) (L2 := [(2, .int v17), (0, .ref 59), (3, .int x3)]) d_Z_count_176 rfl (Nat.le_of_ble_eq_true rfl) rfl ?_
        refine jm_iinc (pc := 177) (q := 2) (x := x3) (v := 1) (L2 := [(3, .int (x3 + 1)), (2, .int v17), (0, .ref 59)]) d_Z_count_177 rfl ci_1 (Nat.le_of_ble_eq_true rfl) rfl ?_
        refine jm_goto (pc := 180) (tgt := 150) d_Z_count_180 (by decide) ?_
        refine jm_sub (L2 := [(0, .ref 59), (2, .int v17), (3, .int (x3 + 1))]) [2, 1, 0] rfl ?_
        exact ih v17 (x3 + 1)
def s_Z_count (s : jm_M) (a0 : Int32) : Option Int32 := (if a0 = 0 then jm_ldi s 61 4 0 (fun v1 => (some v1)) else (if a0 = 1 then s_Z_count_L57 s 5000 0 0 else (if a0 = 2 then jm_bd (s_Z_ofKind s 1) (fun v6 => jm_bd (s_Z_bits s v6) (fun v7 => (some v7))) else (if a0 = 3 then jm_bd (s_Z_ofKind s 3) (fun v8 => jm_bd (s_Z_bits s v8) (fun v9 => (some v9))) else (if a0 = 4 then s_Z_count_L109 s 5000 0 0 else (if a0 = 5 then (some (s.1 59 0)) else (if a0 = 6 then s_Z_count_L150 s 5000 0 0 else (if a0 = 7 then (some (s.1 59 12)) else (some (-1))))))))))
set_option maxRecDepth 100000 in
set_option maxHeartbeats 4000000 in
theorem s_Z_count_ok (s : jm_M) (a0 : Int32) : jm_Sim mY_Z_count 0 0 0 [(0, .ref 59), (1, .int a0)] [] 78 mr_154 s (s_Z_count s a0) (jm_rI 78 mr_154 s) := by
  unfold s_Z_count
  refine jm_iconst (pc := 0) (v := 0) d_Z_count_0 ci_0 ?_
  refine jm_istore_n (pc := 1) (i := 2) (L2 := [(2, .int 0), (0, .ref 59), (1, .int a0)]) d_Z_count_1 rfl (Nat.le_of_ble_eq_true rfl) rfl ?_
  refine jm_iload_n (pc := 2) (q := 2) (x := a0) d_Z_count_2 rfl ?_
  refine jm_case 0 ?_ (fun h0 => ?_)
  · refine jm_tswIn (pc := 3) (tgt := 48) d_Z_count_3 (by decide) (by decide) (off := 45) (by decide) (by decide) ?_
    refine jm_aload_n (pc := 48) (q := 1) (x := 59) d_Z_count_48 rfl ?_
    refine jm_gr (pc := 49) (i := 59) d_Z_count_49 fo_Z_13 sh_59 ge_59 le_59_78 rfl (fun _ => rfl) mr_154_59_2 ge_61 ?_
    refine jm_iconst (pc := 52) (v := 0) d_Z_count_52 ci_0 ?_
    refine jm_iald (pc := 53) d_Z_count_53 sh_61 ge_61 le_61_78 (fun v1 => ?_)
    exact jm_iret (pc := 54) (x := v1) d_Z_count_54 rfl rfl rfl rfl rfl
  refine jm_case 1 ?_ (fun h1 => ?_)
  · refine jm_tswIn (pc := 3) (tgt := 55) d_Z_count_3 (by decide) (by decide) (off := 52) (by decide) (by decide) ?_
    refine jm_iconst (pc := 55) (v := 0) d_Z_count_55 ci_0 ?_
    refine jm_istore_n (pc := 56) (i := 3) (L2 := [(3, .int 0), (2, .int 0), (0, .ref 59), (1, .int a0)]) d_Z_count_56 rfl (Nat.le_of_ble_eq_true rfl) rfl ?_
    refine jm_sub (L2 := [(0, .ref 59), (2, .int 0), (3, .int 0)]) [2, 1, 0] rfl ?_
    exact s_Z_count_L57_ok s 5000 0 0
  refine jm_case 2 ?_ (fun h2 => ?_)
  · refine jm_tswIn (pc := 3) (tgt := 89) d_Z_count_3 (by decide) (by decide) (off := 86) (by decide) (by decide) ?_
    refine jm_aload_n (pc := 89) (q := 1) (x := 59) d_Z_count_89 rfl ?_
    refine jm_iconst (pc := 90) (v := 1) d_Z_count_90 ci_1 ?_
    refine jm_Vp (pc := 91) (Y' := mY_Z_ofKind) (i := 59) (avs := [.int 1]) (rest := []) (s_Z_ofKind_ok s 1) ok_Z_ofKind l0_Z_count__Z_ofKind ml_Z_143 im_Z_ofKind se_Z_ofKind d_Z_count_91 rfl sh_59 rfl rfl ge_59 le_59_78 rfl (Nat.le_of_ble_eq_true rfl) (Nat.le_of_ble_eq_true rfl) (Nat.le_of_ble_eq_true rfl) (Nat.le_of_ble_eq_true rfl) (fun v6 => ?_)
    refine jm_Sp (pc := 94) (Y' := mY_Z_bits) (avs := [.int v6]) (rest := []) (s_Z_bits_ok s v6) ok_Z_bits l0_Z_count__Z_bits ml_Z_212 sm_Z_bits d_Z_count_94 rfl rfl (Nat.le_of_ble_eq_true rfl) (Nat.le_of_ble_eq_true rfl) (Nat.le_of_ble_eq_true rfl) (Nat.le_of_ble_eq_true rfl) (fun v7 => ?_)
    exact jm_iret (pc := 97) (x := v7) d_Z_count_97 rfl rfl rfl rfl rfl
  refine jm_case 3 ?_ (fun h3 => ?_)
  · refine jm_tswIn (pc := 3) (tgt := 98) d_Z_count_3 (by decide) (by decide) (off := 95) (by decide) (by decide) ?_
    refine jm_aload_n (pc := 98) (q := 1) (x := 59) d_Z_count_98 rfl ?_
    refine jm_iconst (pc := 99) (v := 3) d_Z_count_99 ci_3 ?_
    refine jm_Vp (pc := 100) (Y' := mY_Z_ofKind) (i := 59) (avs := [.int 3]) (rest := []) (s_Z_ofKind_ok s 3) ok_Z_ofKind l0_Z_count__Z_ofKind ml_Z_143 im_Z_ofKind se_Z_ofKind d_Z_count_100 rfl sh_59 rfl rfl ge_59 le_59_78 rfl (Nat.le_of_ble_eq_true rfl) (Nat.le_of_ble_eq_true rfl) (Nat.le_of_ble_eq_true rfl) (Nat.le_of_ble_eq_true rfl) (fun v8 => ?_)
    refine jm_Sp (pc := 103) (Y' := mY_Z_bits) (avs := [.int v8]) (rest := []) (s_Z_bits_ok s v8) ok_Z_bits l0_Z_count__Z_bits ml_Z_212 sm_Z_bits d_Z_count_103 rfl rfl (Nat.le_of_ble_eq_true rfl) (Nat.le_of_ble_eq_true rfl) (Nat.le_of_ble_eq_true rfl) (Nat.le_of_ble_eq_true rfl) (fun v9 => ?_)
    exact jm_iret (pc := 106) (x := v9) d_Z_count_106 rfl rfl rfl rfl rfl
  refine jm_case 4 ?_ (fun h4 => ?_)
  · refine jm_tswIn (pc := 3) (tgt := 107) d_Z_count_3 (by decide) (by decide) (off := 104) (by decide) (by decide) ?_
    refine jm_iconst (pc := 107) (v := 0) d_Z_count_107 ci_0 ?_
    refine jm_istore_n (pc := 108) (i := 3) (L2 := [(3, .int 0), (2, .int 0), (0, .ref 59), (1, .int a0)]) d_Z_count_108 rfl (Nat.le_of_ble_eq_true rfl) rfl ?_
    refine jm_sub (L2 := [(0, .ref 59), (2, .int 0), (3, .int 0)]) [2, 1, 0] rfl ?_
    exact s_Z_count_L109_ok s 5000 0 0
  refine jm_case 5 ?_ (fun h5 => ?_)
  · refine jm_tswIn (pc := 3) (tgt := 143) d_Z_count_3 (by decide) (by decide) (off := 140) (by decide) (by decide) ?_
    refine jm_aload_n (pc := 143) (q := 1) (x := 59) d_Z_count_143 rfl ?_
    refine jm_gi (pc := 144) (i := 59) d_Z_count_144 fo_Z_73 sh_59 ge_59 le_59_78 rfl (fun _ => rfl) ?_
    exact jm_iret (pc := 147) (x := s.1 59 0) d_Z_count_147 rfl rfl rfl rfl rfl
  refine jm_case 6 ?_ (fun h6 => ?_)
  · refine jm_tswIn (pc := 3) (tgt := 148) d_Z_count_3 (by decide) (by decide) (off := 145) (by decide) (by decide) ?_
    refine jm_iconst (pc := 148) (v := 0) d_Z_count_148 ci_0 ?_
    refine jm_istore_n (pc := 149) (i := 3) (L2 := [(3, .int 0), (2, .int 0), (0, .ref 59), (1, .int a0)]) d_Z_count_149 rfl (Nat.le_of_ble_eq_true rfl) rfl ?_
    refine jm_sub (L2 := [(0, .ref 59), (2, .int 0), (3, .int 0)]) [2, 1, 0] rfl ?_
    exact s_Z_count_L150_ok s 5000 0 0
  refine jm_case 7 ?_ (fun h7 => ?_)
  · refine jm_tswIn (pc := 3) (tgt := 185) d_Z_count_3 (by decide) (by decide) (off := 182) (by decide) (by decide) ?_
    refine jm_aload_n (pc := 185) (q := 1) (x := 59) d_Z_count_185 rfl ?_
    refine jm_gi (pc := 186) (i := 59) d_Z_count_186 fo_Z_265 sh_59 ge_59 le_59_78 rfl (fun _ => rfl) ?_
    exact jm_iret (pc := 189) (x := s.1 59 12) d_Z_count_189 rfl rfl rfl rfl rfl
  refine jm_tswOut (pc := 3) (tgt := 190) d_Z_count_3 (by have e0 := jm_neT 0 h0 (a := 0) (by decide); have e1 := jm_neT 1 h1 (a := 1) (by decide); have e2 := jm_neT 2 h2 (a := 2) (by decide); have e3 := jm_neT 3 h3 (a := 3) (by decide); have e4 := jm_neT 4 h4 (a := 4) (by decide); have e5 := jm_neT 5 h5 (a := 5) (by decide); have e6 := jm_neT 6 h6 (a := 6) (by decide); have e7 := jm_neT 7 h7 (a := 7) (by decide); omega) (by decide) ?_
  refine jm_iconst (pc := 190) (v := (-1)) d_Z_count_190 ci_m1 ?_
  exact jm_iret (pc := 191) (x := (-1)) d_Z_count_191 rfl rfl rfl rfl rfl
theorem d_Law_law_0 : decode code 0 = .ok (.new 7, 3) := by decide +kernel
theorem d_Law_law_3 : decode code 3 = .ok (.dup, 1) := by decide +kernel
theorem d_Law_law_4 : decode code 4 = .ok (.invokespecial 9, 3) := by decide +kernel
theorem d_Law_law_7 : decode code 7 = .ok (.astore_n 1, 1) := by decide +kernel
theorem d_Law_law_8 : decode code 8 = .ok (.new 10, 3) := by decide +kernel
theorem d_Law_law_11 : decode code 11 = .ok (.dup, 1) := by decide +kernel
theorem d_Law_law_12 : decode code 12 = .ok (.invokespecial 12, 3) := by decide +kernel
theorem d_Law_law_15 : decode code 15 = .ok (.astore_n 2, 1) := by decide +kernel
theorem d_Law_law_16 : decode code 16 = .ok (.iconst 0, 1) := by decide +kernel
theorem d_Law_law_17 : decode code 17 = .ok (.istore_n 3, 1) := by decide +kernel
theorem d_Law_law_18 : decode code 18 = .ok (.iload_n 3, 1) := by decide +kernel
theorem d_Law_law_19 : decode code 19 = .ok (.aload_n 0, 1) := by decide +kernel
theorem d_Law_law_20 : decode code 20 = .ok (.arraylength, 1) := by decide +kernel
theorem d_Law_law_21 : decode code 21 = .ok (.bipush 6, 2) := by decide +kernel
theorem d_Law_law_23 : decode code 23 = .ok (.isub, 1) := by decide +kernel
theorem d_Law_law_24 : decode code 24 = .ok (.if_icmp .gt 946, 3) := by decide +kernel
theorem d_Law_law_27 : decode code 27 = .ok (.aload_n 0, 1) := by decide +kernel
theorem d_Law_law_28 : decode code 28 = .ok (.iload_n 3, 1) := by decide +kernel
theorem d_Law_law_29 : decode code 29 = .ok (.iaload, 1) := by decide +kernel
theorem d_Law_law_30 : decode code 30 = .ok (.bipush 31, 2) := by decide +kernel
theorem d_Law_law_32 : decode code 32 = .ok (.iand, 1) := by decide +kernel
theorem d_Law_law_33 : decode code 33 = .ok (.tableswitch 931 0 27 #[127, 190, 203, 216, 229, 262, 305, 338, 361, 384, 397, 420, 453, 486, 519, 532, 565, 588, 621, 644, 687, 720, 783, 816, 849, 882, 895, 908], 127) := by decide +kernel
theorem d_Law_law_160 : decode code 160 = .ok (.aload_n 1, 1) := by decide +kernel
theorem d_Law_law_161 : decode code 161 = .ok (.aload_n 0, 1) := by decide +kernel
theorem d_Law_law_162 : decode code 162 = .ok (.iload_n 3, 1) := by decide +kernel
theorem d_Law_law_163 : decode code 163 = .ok (.iconst 1, 1) := by decide +kernel
theorem d_Law_law_164 : decode code 164 = .ok (.iadd, 1) := by decide +kernel
theorem d_Law_law_165 : decode code 165 = .ok (.iaload, 1) := by decide +kernel
theorem d_Law_law_166 : decode code 166 = .ok (.aload_n 0, 1) := by decide +kernel
theorem d_Law_law_167 : decode code 167 = .ok (.iload_n 3, 1) := by decide +kernel
theorem d_Law_law_168 : decode code 168 = .ok (.iconst 2, 1) := by decide +kernel
theorem d_Law_law_169 : decode code 169 = .ok (.iadd, 1) := by decide +kernel
theorem d_Law_law_170 : decode code 170 = .ok (.iaload, 1) := by decide +kernel
theorem d_Law_law_171 : decode code 171 = .ok (.i2l, 1) := by decide +kernel
theorem d_Law_law_172 : decode code 172 = .ok (.bipush 32, 2) := by decide +kernel
theorem d_Law_law_174 : decode code 174 = .ok (.lshl, 1) := by decide +kernel
theorem d_Law_law_175 : decode code 175 = .ok (.aload_n 0, 1) := by decide +kernel
theorem d_Law_law_176 : decode code 176 = .ok (.iload_n 3, 1) := by decide +kernel
theorem d_Law_law_177 : decode code 177 = .ok (.iconst 3, 1) := by decide +kernel
theorem d_Law_law_178 : decode code 178 = .ok (.iadd, 1) := by decide +kernel
theorem d_Law_law_179 : decode code 179 = .ok (.iaload, 1) := by decide +kernel
theorem d_Law_law_180 : decode code 180 = .ok (.i2l, 1) := by decide +kernel
theorem d_Law_law_181 : decode code 181 = .ok (.ldc2_w 13, 3) := by decide +kernel
theorem d_Law_law_184 : decode code 184 = .ok (.land, 1) := by decide +kernel
theorem d_Law_law_185 : decode code 185 = .ok (.lor, 1) := by decide +kernel
theorem d_Law_law_186 : decode code 186 = .ok (.invokevirtual 15, 3) := by decide +kernel
theorem d_Law_law_189 : decode code 189 = .ok (.aload_n 2, 1) := by decide +kernel
theorem d_Law_law_190 : decode code 190 = .ok (.aload_n 0, 1) := by decide +kernel
theorem d_Law_law_191 : decode code 191 = .ok (.iload_n 3, 1) := by decide +kernel
theorem d_Law_law_192 : decode code 192 = .ok (.iconst 1, 1) := by decide +kernel
theorem d_Law_law_193 : decode code 193 = .ok (.iadd, 1) := by decide +kernel
theorem d_Law_law_194 : decode code 194 = .ok (.iaload, 1) := by decide +kernel
theorem d_Law_law_195 : decode code 195 = .ok (.aload_n 0, 1) := by decide +kernel
theorem d_Law_law_196 : decode code 196 = .ok (.iload_n 3, 1) := by decide +kernel
theorem d_Law_law_197 : decode code 197 = .ok (.iconst 2, 1) := by decide +kernel
theorem d_Law_law_198 : decode code 198 = .ok (.iadd, 1) := by decide +kernel
theorem d_Law_law_199 : decode code 199 = .ok (.iaload, 1) := by decide +kernel
theorem d_Law_law_200 : decode code 200 = .ok (.i2l, 1) := by decide +kernel
theorem d_Law_law_201 : decode code 201 = .ok (.bipush 32, 2) := by decide +kernel
theorem d_Law_law_203 : decode code 203 = .ok (.lshl, 1) := by decide +kernel
theorem d_Law_law_204 : decode code 204 = .ok (.aload_n 0, 1) := by decide +kernel
theorem d_Law_law_205 : decode code 205 = .ok (.iload_n 3, 1) := by decide +kernel
theorem d_Law_law_206 : decode code 206 = .ok (.iconst 3, 1) := by decide +kernel
theorem d_Law_law_207 : decode code 207 = .ok (.iadd, 1) := by decide +kernel
theorem d_Law_law_208 : decode code 208 = .ok (.iaload, 1) := by decide +kernel
theorem d_Law_law_209 : decode code 209 = .ok (.i2l, 1) := by decide +kernel
theorem d_Law_law_210 : decode code 210 = .ok (.ldc2_w 13, 3) := by decide +kernel
theorem d_Law_law_213 : decode code 213 = .ok (.land, 1) := by decide +kernel
theorem d_Law_law_214 : decode code 214 = .ok (.lor, 1) := by decide +kernel
theorem d_Law_law_215 : decode code 215 = .ok (.invokevirtual 19, 3) := by decide +kernel
theorem d_Law_law_218 : decode code 218 = .ok (.if_icmp .eq 746, 3) := by decide +kernel
theorem d_Law_law_221 : decode code 221 = .ok (.iconst 0, 1) := by decide +kernel
theorem d_Law_law_222 : decode code 222 = .ok (.ireturn, 1) := by decide +kernel
theorem d_Law_law_223 : decode code 223 = .ok (.aload_n 1, 1) := by decide +kernel
theorem d_Law_law_224 : decode code 224 = .ok (.invokevirtual 20, 3) := by decide +kernel
theorem d_Law_law_227 : decode code 227 = .ok (.aload_n 2, 1) := by decide +kernel
theorem d_Law_law_228 : decode code 228 = .ok (.invokevirtual 24, 3) := by decide +kernel
theorem d_Law_law_231 : decode code 231 = .ok (.if_icmp .eq 733, 3) := by decide +kernel
theorem d_Law_law_234 : decode code 234 = .ok (.iconst 0, 1) := by decide +kernel
theorem d_Law_law_235 : decode code 235 = .ok (.ireturn, 1) := by decide +kernel
theorem d_Law_law_236 : decode code 236 = .ok (.aload_n 1, 1) := by decide +kernel
theorem d_Law_law_237 : decode code 237 = .ok (.invokevirtual 25, 3) := by decide +kernel
theorem d_Law_law_240 : decode code 240 = .ok (.aload_n 2, 1) := by decide +kernel
theorem d_Law_law_241 : decode code 241 = .ok (.invokevirtual 28, 3) := by decide +kernel
theorem d_Law_law_244 : decode code 244 = .ok (.if_icmp .eq 720, 3) := by decide +kernel
theorem d_Law_law_247 : decode code 247 = .ok (.iconst 0, 1) := by decide +kernel
theorem d_Law_law_248 : decode code 248 = .ok (.ireturn, 1) := by decide +kernel
theorem d_Law_law_249 : decode code 249 = .ok (.aload_n 1, 1) := by decide +kernel
theorem d_Law_law_250 : decode code 250 = .ok (.invokevirtual 29, 3) := by decide +kernel
theorem d_Law_law_253 : decode code 253 = .ok (.aload_n 2, 1) := by decide +kernel
theorem d_Law_law_254 : decode code 254 = .ok (.invokevirtual 32, 3) := by decide +kernel
theorem d_Law_law_257 : decode code 257 = .ok (.if_icmp .eq 707, 3) := by decide +kernel
theorem d_Law_law_260 : decode code 260 = .ok (.iconst 0, 1) := by decide +kernel
theorem d_Law_law_261 : decode code 261 = .ok (.ireturn, 1) := by decide +kernel
theorem d_Law_law_262 : decode code 262 = .ok (.aload_n 1, 1) := by decide +kernel
theorem d_Law_law_263 : decode code 263 = .ok (.aload_n 0, 1) := by decide +kernel
theorem d_Law_law_264 : decode code 264 = .ok (.iload_n 3, 1) := by decide +kernel
theorem d_Law_law_265 : decode code 265 = .ok (.iconst 1, 1) := by decide +kernel
theorem d_Law_law_266 : decode code 266 = .ok (.iadd, 1) := by decide +kernel
theorem d_Law_law_267 : decode code 267 = .ok (.iaload, 1) := by decide +kernel
theorem d_Law_law_268 : decode code 268 = .ok (.aload_n 0, 1) := by decide +kernel
theorem d_Law_law_269 : decode code 269 = .ok (.iload_n 3, 1) := by decide +kernel
theorem d_Law_law_270 : decode code 270 = .ok (.iconst 2, 1) := by decide +kernel
theorem d_Law_law_271 : decode code 271 = .ok (.iadd, 1) := by decide +kernel
theorem d_Law_law_272 : decode code 272 = .ok (.iaload, 1) := by decide +kernel
theorem d_Law_law_273 : decode code 273 = .ok (.invokevirtual 33, 3) := by decide +kernel
theorem d_Law_law_276 : decode code 276 = .ok (.aload_n 2, 1) := by decide +kernel
theorem d_Law_law_277 : decode code 277 = .ok (.aload_n 0, 1) := by decide +kernel
theorem d_Law_law_278 : decode code 278 = .ok (.iload_n 3, 1) := by decide +kernel
theorem d_Law_law_279 : decode code 279 = .ok (.iconst 1, 1) := by decide +kernel
theorem d_Law_law_280 : decode code 280 = .ok (.iadd, 1) := by decide +kernel
theorem d_Law_law_281 : decode code 281 = .ok (.iaload, 1) := by decide +kernel
theorem d_Law_law_282 : decode code 282 = .ok (.aload_n 0, 1) := by decide +kernel
theorem d_Law_law_283 : decode code 283 = .ok (.iload_n 3, 1) := by decide +kernel
theorem d_Law_law_284 : decode code 284 = .ok (.iconst 2, 1) := by decide +kernel
theorem d_Law_law_285 : decode code 285 = .ok (.iadd, 1) := by decide +kernel
theorem d_Law_law_286 : decode code 286 = .ok (.iaload, 1) := by decide +kernel
theorem d_Law_law_287 : decode code 287 = .ok (.invokevirtual 37, 3) := by decide +kernel
theorem d_Law_law_290 : decode code 290 = .ok (.if_icmp .eq 674, 3) := by decide +kernel
theorem d_Law_law_293 : decode code 293 = .ok (.iconst 0, 1) := by decide +kernel
theorem d_Law_law_294 : decode code 294 = .ok (.ireturn, 1) := by decide +kernel
theorem d_Law_law_295 : decode code 295 = .ok (.aload_n 1, 1) := by decide +kernel
theorem d_Law_law_296 : decode code 296 = .ok (.aload_n 0, 1) := by decide +kernel
theorem d_Law_law_297 : decode code 297 = .ok (.iload_n 3, 1) := by decide +kernel
theorem d_Law_law_298 : decode code 298 = .ok (.iconst 1, 1) := by decide +kernel
theorem d_Law_law_299 : decode code 299 = .ok (.iadd, 1) := by decide +kernel
theorem d_Law_law_300 : decode code 300 = .ok (.iaload, 1) := by decide +kernel
theorem d_Law_law_301 : decode code 301 = .ok (.aload_n 0, 1) := by decide +kernel
theorem d_Law_law_302 : decode code 302 = .ok (.iload_n 3, 1) := by decide +kernel
theorem d_Law_law_303 : decode code 303 = .ok (.iconst 2, 1) := by decide +kernel
theorem d_Law_law_304 : decode code 304 = .ok (.iadd, 1) := by decide +kernel
theorem d_Law_law_305 : decode code 305 = .ok (.iaload, 1) := by decide +kernel
theorem d_Law_law_306 : decode code 306 = .ok (.aload_n 0, 1) := by decide +kernel
theorem d_Law_law_307 : decode code 307 = .ok (.iload_n 3, 1) := by decide +kernel
theorem d_Law_law_308 : decode code 308 = .ok (.iconst 3, 1) := by decide +kernel
theorem d_Law_law_309 : decode code 309 = .ok (.iadd, 1) := by decide +kernel
theorem d_Law_law_310 : decode code 310 = .ok (.iaload, 1) := by decide +kernel
theorem d_Law_law_311 : decode code 311 = .ok (.invokevirtual 38, 3) := by decide +kernel
theorem d_Law_law_314 : decode code 314 = .ok (.aload_n 2, 1) := by decide +kernel
theorem d_Law_law_315 : decode code 315 = .ok (.aload_n 0, 1) := by decide +kernel
theorem d_Law_law_316 : decode code 316 = .ok (.iload_n 3, 1) := by decide +kernel
theorem d_Law_law_317 : decode code 317 = .ok (.iconst 1, 1) := by decide +kernel
theorem d_Law_law_318 : decode code 318 = .ok (.iadd, 1) := by decide +kernel
theorem d_Law_law_319 : decode code 319 = .ok (.iaload, 1) := by decide +kernel
theorem d_Law_law_320 : decode code 320 = .ok (.aload_n 0, 1) := by decide +kernel
theorem d_Law_law_321 : decode code 321 = .ok (.iload_n 3, 1) := by decide +kernel
theorem d_Law_law_322 : decode code 322 = .ok (.iconst 2, 1) := by decide +kernel
theorem d_Law_law_323 : decode code 323 = .ok (.iadd, 1) := by decide +kernel
theorem d_Law_law_324 : decode code 324 = .ok (.iaload, 1) := by decide +kernel
theorem d_Law_law_325 : decode code 325 = .ok (.aload_n 0, 1) := by decide +kernel
theorem d_Law_law_326 : decode code 326 = .ok (.iload_n 3, 1) := by decide +kernel
theorem d_Law_law_327 : decode code 327 = .ok (.iconst 3, 1) := by decide +kernel
theorem d_Law_law_328 : decode code 328 = .ok (.iadd, 1) := by decide +kernel
theorem d_Law_law_329 : decode code 329 = .ok (.iaload, 1) := by decide +kernel
theorem d_Law_law_330 : decode code 330 = .ok (.invokevirtual 42, 3) := by decide +kernel
theorem d_Law_law_333 : decode code 333 = .ok (.if_icmp .eq 631, 3) := by decide +kernel
theorem d_Law_law_336 : decode code 336 = .ok (.iconst 0, 1) := by decide +kernel
theorem d_Law_law_337 : decode code 337 = .ok (.ireturn, 1) := by decide +kernel
theorem d_Law_law_338 : decode code 338 = .ok (.aload_n 1, 1) := by decide +kernel
theorem d_Law_law_339 : decode code 339 = .ok (.aload_n 0, 1) := by decide +kernel
theorem d_Law_law_340 : decode code 340 = .ok (.iload_n 3, 1) := by decide +kernel
theorem d_Law_law_341 : decode code 341 = .ok (.iconst 1, 1) := by decide +kernel
theorem d_Law_law_342 : decode code 342 = .ok (.iadd, 1) := by decide +kernel
theorem d_Law_law_343 : decode code 343 = .ok (.iaload, 1) := by decide +kernel
theorem d_Law_law_344 : decode code 344 = .ok (.aload_n 0, 1) := by decide +kernel
theorem d_Law_law_345 : decode code 345 = .ok (.iload_n 3, 1) := by decide +kernel
theorem d_Law_law_346 : decode code 346 = .ok (.iconst 2, 1) := by decide +kernel
theorem d_Law_law_347 : decode code 347 = .ok (.iadd, 1) := by decide +kernel
theorem d_Law_law_348 : decode code 348 = .ok (.iaload, 1) := by decide +kernel
theorem d_Law_law_349 : decode code 349 = .ok (.invokevirtual 43, 3) := by decide +kernel
theorem d_Law_law_352 : decode code 352 = .ok (.aload_n 2, 1) := by decide +kernel
theorem d_Law_law_353 : decode code 353 = .ok (.aload_n 0, 1) := by decide +kernel
theorem d_Law_law_354 : decode code 354 = .ok (.iload_n 3, 1) := by decide +kernel
theorem d_Law_law_355 : decode code 355 = .ok (.iconst 1, 1) := by decide +kernel
theorem d_Law_law_356 : decode code 356 = .ok (.iadd, 1) := by decide +kernel
theorem d_Law_law_357 : decode code 357 = .ok (.iaload, 1) := by decide +kernel
theorem d_Law_law_358 : decode code 358 = .ok (.aload_n 0, 1) := by decide +kernel
theorem d_Law_law_359 : decode code 359 = .ok (.iload_n 3, 1) := by decide +kernel
theorem d_Law_law_360 : decode code 360 = .ok (.iconst 2, 1) := by decide +kernel
theorem d_Law_law_361 : decode code 361 = .ok (.iadd, 1) := by decide +kernel
theorem d_Law_law_362 : decode code 362 = .ok (.iaload, 1) := by decide +kernel
theorem d_Law_law_363 : decode code 363 = .ok (.invokevirtual 46, 3) := by decide +kernel
theorem d_Law_law_366 : decode code 366 = .ok (.if_icmp .eq 598, 3) := by decide +kernel
theorem d_Law_law_369 : decode code 369 = .ok (.iconst 0, 1) := by decide +kernel
theorem d_Law_law_370 : decode code 370 = .ok (.ireturn, 1) := by decide +kernel
theorem d_Law_law_371 : decode code 371 = .ok (.aload_n 1, 1) := by decide +kernel
theorem d_Law_law_372 : decode code 372 = .ok (.aload_n 0, 1) := by decide +kernel
theorem d_Law_law_373 : decode code 373 = .ok (.iload_n 3, 1) := by decide +kernel
theorem d_Law_law_374 : decode code 374 = .ok (.iconst 1, 1) := by decide +kernel
theorem d_Law_law_375 : decode code 375 = .ok (.iadd, 1) := by decide +kernel
theorem d_Law_law_376 : decode code 376 = .ok (.iaload, 1) := by decide +kernel
theorem d_Law_law_377 : decode code 377 = .ok (.invokevirtual 47, 3) := by decide +kernel
theorem d_Law_law_380 : decode code 380 = .ok (.aload_n 2, 1) := by decide +kernel
theorem d_Law_law_381 : decode code 381 = .ok (.aload_n 0, 1) := by decide +kernel
theorem d_Law_law_382 : decode code 382 = .ok (.iload_n 3, 1) := by decide +kernel
theorem d_Law_law_383 : decode code 383 = .ok (.iconst 1, 1) := by decide +kernel
theorem d_Law_law_384 : decode code 384 = .ok (.iadd, 1) := by decide +kernel
theorem d_Law_law_385 : decode code 385 = .ok (.iaload, 1) := by decide +kernel
theorem d_Law_law_386 : decode code 386 = .ok (.invokevirtual 51, 3) := by decide +kernel
theorem d_Law_law_389 : decode code 389 = .ok (.if_icmp .eq 575, 3) := by decide +kernel
theorem d_Law_law_392 : decode code 392 = .ok (.iconst 0, 1) := by decide +kernel
theorem d_Law_law_393 : decode code 393 = .ok (.ireturn, 1) := by decide +kernel
theorem d_Law_law_394 : decode code 394 = .ok (.aload_n 1, 1) := by decide +kernel
theorem d_Law_law_395 : decode code 395 = .ok (.aload_n 0, 1) := by decide +kernel
theorem d_Law_law_396 : decode code 396 = .ok (.iload_n 3, 1) := by decide +kernel
theorem d_Law_law_397 : decode code 397 = .ok (.iconst 1, 1) := by decide +kernel
theorem d_Law_law_398 : decode code 398 = .ok (.iadd, 1) := by decide +kernel
theorem d_Law_law_399 : decode code 399 = .ok (.iaload, 1) := by decide +kernel
theorem d_Law_law_400 : decode code 400 = .ok (.invokevirtual 52, 3) := by decide +kernel
theorem d_Law_law_403 : decode code 403 = .ok (.aload_n 2, 1) := by decide +kernel
theorem d_Law_law_404 : decode code 404 = .ok (.aload_n 0, 1) := by decide +kernel
theorem d_Law_law_405 : decode code 405 = .ok (.iload_n 3, 1) := by decide +kernel
theorem d_Law_law_406 : decode code 406 = .ok (.iconst 1, 1) := by decide +kernel
theorem d_Law_law_407 : decode code 407 = .ok (.iadd, 1) := by decide +kernel
theorem d_Law_law_408 : decode code 408 = .ok (.iaload, 1) := by decide +kernel
theorem d_Law_law_409 : decode code 409 = .ok (.invokevirtual 55, 3) := by decide +kernel
theorem d_Law_law_412 : decode code 412 = .ok (.if_icmp .eq 552, 3) := by decide +kernel
theorem d_Law_law_415 : decode code 415 = .ok (.iconst 0, 1) := by decide +kernel
theorem d_Law_law_416 : decode code 416 = .ok (.ireturn, 1) := by decide +kernel
theorem d_Law_law_417 : decode code 417 = .ok (.aload_n 1, 1) := by decide +kernel
theorem d_Law_law_418 : decode code 418 = .ok (.invokevirtual 56, 3) := by decide +kernel
theorem d_Law_law_421 : decode code 421 = .ok (.aload_n 2, 1) := by decide +kernel
theorem d_Law_law_422 : decode code 422 = .ok (.invokevirtual 59, 3) := by decide +kernel
theorem d_Law_law_425 : decode code 425 = .ok (.if_icmp .eq 539, 3) := by decide +kernel
theorem d_Law_law_428 : decode code 428 = .ok (.iconst 0, 1) := by decide +kernel
theorem d_Law_law_429 : decode code 429 = .ok (.ireturn, 1) := by decide +kernel
theorem d_Law_law_430 : decode code 430 = .ok (.aload_n 1, 1) := by decide +kernel
theorem d_Law_law_431 : decode code 431 = .ok (.aload_n 0, 1) := by decide +kernel
theorem d_Law_law_432 : decode code 432 = .ok (.iload_n 3, 1) := by decide +kernel
theorem d_Law_law_433 : decode code 433 = .ok (.iconst 1, 1) := by decide +kernel
theorem d_Law_law_434 : decode code 434 = .ok (.iadd, 1) := by decide +kernel
theorem d_Law_law_435 : decode code 435 = .ok (.iaload, 1) := by decide +kernel
theorem d_Law_law_436 : decode code 436 = .ok (.invokevirtual 60, 3) := by decide +kernel
theorem d_Law_law_439 : decode code 439 = .ok (.aload_n 2, 1) := by decide +kernel
theorem d_Law_law_440 : decode code 440 = .ok (.aload_n 0, 1) := by decide +kernel
theorem d_Law_law_441 : decode code 441 = .ok (.iload_n 3, 1) := by decide +kernel
theorem d_Law_law_442 : decode code 442 = .ok (.iconst 1, 1) := by decide +kernel
theorem d_Law_law_443 : decode code 443 = .ok (.iadd, 1) := by decide +kernel
theorem d_Law_law_444 : decode code 444 = .ok (.iaload, 1) := by decide +kernel
theorem d_Law_law_445 : decode code 445 = .ok (.invokevirtual 63, 3) := by decide +kernel
theorem d_Law_law_448 : decode code 448 = .ok (.if_icmp .eq 516, 3) := by decide +kernel
theorem d_Law_law_451 : decode code 451 = .ok (.iconst 0, 1) := by decide +kernel
theorem d_Law_law_452 : decode code 452 = .ok (.ireturn, 1) := by decide +kernel
theorem d_Law_law_453 : decode code 453 = .ok (.aload_n 1, 1) := by decide +kernel
theorem d_Law_law_454 : decode code 454 = .ok (.aload_n 0, 1) := by decide +kernel
theorem d_Law_law_455 : decode code 455 = .ok (.iload_n 3, 1) := by decide +kernel
theorem d_Law_law_456 : decode code 456 = .ok (.iconst 1, 1) := by decide +kernel
theorem d_Law_law_457 : decode code 457 = .ok (.iadd, 1) := by decide +kernel
theorem d_Law_law_458 : decode code 458 = .ok (.iaload, 1) := by decide +kernel
theorem d_Law_law_459 : decode code 459 = .ok (.aload_n 0, 1) := by decide +kernel
theorem d_Law_law_460 : decode code 460 = .ok (.iload_n 3, 1) := by decide +kernel
theorem d_Law_law_461 : decode code 461 = .ok (.iconst 2, 1) := by decide +kernel
theorem d_Law_law_462 : decode code 462 = .ok (.iadd, 1) := by decide +kernel
theorem d_Law_law_463 : decode code 463 = .ok (.iaload, 1) := by decide +kernel
theorem d_Law_law_464 : decode code 464 = .ok (.invokevirtual 64, 3) := by decide +kernel
theorem d_Law_law_467 : decode code 467 = .ok (.aload_n 2, 1) := by decide +kernel
theorem d_Law_law_468 : decode code 468 = .ok (.aload_n 0, 1) := by decide +kernel
theorem d_Law_law_469 : decode code 469 = .ok (.iload_n 3, 1) := by decide +kernel
theorem d_Law_law_470 : decode code 470 = .ok (.iconst 1, 1) := by decide +kernel
theorem d_Law_law_471 : decode code 471 = .ok (.iadd, 1) := by decide +kernel
theorem d_Law_law_472 : decode code 472 = .ok (.iaload, 1) := by decide +kernel
theorem d_Law_law_473 : decode code 473 = .ok (.aload_n 0, 1) := by decide +kernel
theorem d_Law_law_474 : decode code 474 = .ok (.iload_n 3, 1) := by decide +kernel
theorem d_Law_law_475 : decode code 475 = .ok (.iconst 2, 1) := by decide +kernel
theorem d_Law_law_476 : decode code 476 = .ok (.iadd, 1) := by decide +kernel
theorem d_Law_law_477 : decode code 477 = .ok (.iaload, 1) := by decide +kernel
theorem d_Law_law_478 : decode code 478 = .ok (.invokevirtual 67, 3) := by decide +kernel
theorem d_Law_law_481 : decode code 481 = .ok (.if_icmp .eq 483, 3) := by decide +kernel
theorem d_Law_law_484 : decode code 484 = .ok (.iconst 0, 1) := by decide +kernel
theorem d_Law_law_485 : decode code 485 = .ok (.ireturn, 1) := by decide +kernel
theorem d_Law_law_486 : decode code 486 = .ok (.aload_n 1, 1) := by decide +kernel
theorem d_Law_law_487 : decode code 487 = .ok (.aload_n 0, 1) := by decide +kernel
theorem d_Law_law_488 : decode code 488 = .ok (.iload_n 3, 1) := by decide +kernel
theorem d_Law_law_489 : decode code 489 = .ok (.iconst 1, 1) := by decide +kernel
theorem d_Law_law_490 : decode code 490 = .ok (.iadd, 1) := by decide +kernel
theorem d_Law_law_491 : decode code 491 = .ok (.iaload, 1) := by decide +kernel
theorem d_Law_law_492 : decode code 492 = .ok (.aload_n 0, 1) := by decide +kernel
theorem d_Law_law_493 : decode code 493 = .ok (.iload_n 3, 1) := by decide +kernel
theorem d_Law_law_494 : decode code 494 = .ok (.iconst 2, 1) := by decide +kernel
theorem d_Law_law_495 : decode code 495 = .ok (.iadd, 1) := by decide +kernel
theorem d_Law_law_496 : decode code 496 = .ok (.iaload, 1) := by decide +kernel
theorem d_Law_law_497 : decode code 497 = .ok (.invokevirtual 68, 3) := by decide +kernel
theorem d_Law_law_500 : decode code 500 = .ok (.aload_n 2, 1) := by decide +kernel
theorem d_Law_law_501 : decode code 501 = .ok (.aload_n 0, 1) := by decide +kernel
theorem d_Law_law_502 : decode code 502 = .ok (.iload_n 3, 1) := by decide +kernel
theorem d_Law_law_503 : decode code 503 = .ok (.iconst 1, 1) := by decide +kernel
theorem d_Law_law_504 : decode code 504 = .ok (.iadd, 1) := by decide +kernel
theorem d_Law_law_505 : decode code 505 = .ok (.iaload, 1) := by decide +kernel
theorem d_Law_law_506 : decode code 506 = .ok (.aload_n 0, 1) := by decide +kernel
theorem d_Law_law_507 : decode code 507 = .ok (.iload_n 3, 1) := by decide +kernel
theorem d_Law_law_508 : decode code 508 = .ok (.iconst 2, 1) := by decide +kernel
theorem d_Law_law_509 : decode code 509 = .ok (.iadd, 1) := by decide +kernel
theorem d_Law_law_510 : decode code 510 = .ok (.iaload, 1) := by decide +kernel
theorem d_Law_law_511 : decode code 511 = .ok (.invokevirtual 71, 3) := by decide +kernel
theorem d_Law_law_514 : decode code 514 = .ok (.if_icmp .eq 450, 3) := by decide +kernel
theorem d_Law_law_517 : decode code 517 = .ok (.iconst 0, 1) := by decide +kernel
theorem d_Law_law_518 : decode code 518 = .ok (.ireturn, 1) := by decide +kernel
theorem d_Law_law_519 : decode code 519 = .ok (.aload_n 1, 1) := by decide +kernel
theorem d_Law_law_520 : decode code 520 = .ok (.aload_n 0, 1) := by decide +kernel
theorem d_Law_law_521 : decode code 521 = .ok (.iload_n 3, 1) := by decide +kernel
theorem d_Law_law_522 : decode code 522 = .ok (.iconst 1, 1) := by decide +kernel
theorem d_Law_law_523 : decode code 523 = .ok (.iadd, 1) := by decide +kernel
theorem d_Law_law_524 : decode code 524 = .ok (.iaload, 1) := by decide +kernel
theorem d_Law_law_525 : decode code 525 = .ok (.aload_n 0, 1) := by decide +kernel
theorem d_Law_law_526 : decode code 526 = .ok (.iload_n 3, 1) := by decide +kernel
theorem d_Law_law_527 : decode code 527 = .ok (.iconst 2, 1) := by decide +kernel
theorem d_Law_law_528 : decode code 528 = .ok (.iadd, 1) := by decide +kernel
theorem d_Law_law_529 : decode code 529 = .ok (.iaload, 1) := by decide +kernel
theorem d_Law_law_530 : decode code 530 = .ok (.invokevirtual 72, 3) := by decide +kernel
theorem d_Law_law_533 : decode code 533 = .ok (.aload_n 2, 1) := by decide +kernel
theorem d_Law_law_534 : decode code 534 = .ok (.aload_n 0, 1) := by decide +kernel
theorem d_Law_law_535 : decode code 535 = .ok (.iload_n 3, 1) := by decide +kernel
theorem d_Law_law_536 : decode code 536 = .ok (.iconst 1, 1) := by decide +kernel
theorem d_Law_law_537 : decode code 537 = .ok (.iadd, 1) := by decide +kernel
theorem d_Law_law_538 : decode code 538 = .ok (.iaload, 1) := by decide +kernel
theorem d_Law_law_539 : decode code 539 = .ok (.aload_n 0, 1) := by decide +kernel
theorem d_Law_law_540 : decode code 540 = .ok (.iload_n 3, 1) := by decide +kernel
theorem d_Law_law_541 : decode code 541 = .ok (.iconst 2, 1) := by decide +kernel
theorem d_Law_law_542 : decode code 542 = .ok (.iadd, 1) := by decide +kernel
theorem d_Law_law_543 : decode code 543 = .ok (.iaload, 1) := by decide +kernel
theorem d_Law_law_544 : decode code 544 = .ok (.invokevirtual 75, 3) := by decide +kernel
theorem d_Law_law_547 : decode code 547 = .ok (.if_icmp .eq 417, 3) := by decide +kernel
theorem d_Law_law_550 : decode code 550 = .ok (.iconst 0, 1) := by decide +kernel
theorem d_Law_law_551 : decode code 551 = .ok (.ireturn, 1) := by decide +kernel
theorem d_Law_law_552 : decode code 552 = .ok (.aload_n 1, 1) := by decide +kernel
theorem d_Law_law_553 : decode code 553 = .ok (.invokevirtual 76, 3) := by decide +kernel
theorem d_Law_law_556 : decode code 556 = .ok (.aload_n 2, 1) := by decide +kernel
theorem d_Law_law_557 : decode code 557 = .ok (.invokevirtual 79, 3) := by decide +kernel
theorem d_Law_law_560 : decode code 560 = .ok (.if_icmp .eq 404, 3) := by decide +kernel
theorem d_Law_law_563 : decode code 563 = .ok (.iconst 0, 1) := by decide +kernel
theorem d_Law_law_564 : decode code 564 = .ok (.ireturn, 1) := by decide +kernel
theorem d_Law_law_565 : decode code 565 = .ok (.aload_n 1, 1) := by decide +kernel
theorem d_Law_law_566 : decode code 566 = .ok (.aload_n 0, 1) := by decide +kernel
theorem d_Law_law_567 : decode code 567 = .ok (.iload_n 3, 1) := by decide +kernel
theorem d_Law_law_568 : decode code 568 = .ok (.iconst 1, 1) := by decide +kernel
theorem d_Law_law_569 : decode code 569 = .ok (.iadd, 1) := by decide +kernel
theorem d_Law_law_570 : decode code 570 = .ok (.iaload, 1) := by decide +kernel
theorem d_Law_law_571 : decode code 571 = .ok (.aload_n 0, 1) := by decide +kernel
theorem d_Law_law_572 : decode code 572 = .ok (.iload_n 3, 1) := by decide +kernel
theorem d_Law_law_573 : decode code 573 = .ok (.iconst 2, 1) := by decide +kernel
theorem d_Law_law_574 : decode code 574 = .ok (.iadd, 1) := by decide +kernel
theorem d_Law_law_575 : decode code 575 = .ok (.iaload, 1) := by decide +kernel
theorem d_Law_law_576 : decode code 576 = .ok (.invokevirtual 80, 3) := by decide +kernel
theorem d_Law_law_579 : decode code 579 = .ok (.aload_n 2, 1) := by decide +kernel
theorem d_Law_law_580 : decode code 580 = .ok (.aload_n 0, 1) := by decide +kernel
theorem d_Law_law_581 : decode code 581 = .ok (.iload_n 3, 1) := by decide +kernel
theorem d_Law_law_582 : decode code 582 = .ok (.iconst 1, 1) := by decide +kernel
theorem d_Law_law_583 : decode code 583 = .ok (.iadd, 1) := by decide +kernel
theorem d_Law_law_584 : decode code 584 = .ok (.iaload, 1) := by decide +kernel
theorem d_Law_law_585 : decode code 585 = .ok (.aload_n 0, 1) := by decide +kernel
theorem d_Law_law_586 : decode code 586 = .ok (.iload_n 3, 1) := by decide +kernel
theorem d_Law_law_587 : decode code 587 = .ok (.iconst 2, 1) := by decide +kernel
theorem d_Law_law_588 : decode code 588 = .ok (.iadd, 1) := by decide +kernel
theorem d_Law_law_589 : decode code 589 = .ok (.iaload, 1) := by decide +kernel
theorem d_Law_law_590 : decode code 590 = .ok (.invokevirtual 83, 3) := by decide +kernel
theorem d_Law_law_593 : decode code 593 = .ok (.if_icmp .eq 371, 3) := by decide +kernel
theorem d_Law_law_596 : decode code 596 = .ok (.iconst 0, 1) := by decide +kernel
theorem d_Law_law_597 : decode code 597 = .ok (.ireturn, 1) := by decide +kernel
theorem d_Law_law_598 : decode code 598 = .ok (.aload_n 1, 1) := by decide +kernel
theorem d_Law_law_599 : decode code 599 = .ok (.aload_n 0, 1) := by decide +kernel
theorem d_Law_law_600 : decode code 600 = .ok (.iload_n 3, 1) := by decide +kernel
theorem d_Law_law_601 : decode code 601 = .ok (.iconst 1, 1) := by decide +kernel
theorem d_Law_law_602 : decode code 602 = .ok (.iadd, 1) := by decide +kernel
theorem d_Law_law_603 : decode code 603 = .ok (.iaload, 1) := by decide +kernel
theorem d_Law_law_604 : decode code 604 = .ok (.invokevirtual 84, 3) := by decide +kernel
theorem d_Law_law_607 : decode code 607 = .ok (.aload_n 2, 1) := by decide +kernel
theorem d_Law_law_608 : decode code 608 = .ok (.aload_n 0, 1) := by decide +kernel
theorem d_Law_law_609 : decode code 609 = .ok (.iload_n 3, 1) := by decide +kernel
theorem d_Law_law_610 : decode code 610 = .ok (.iconst 1, 1) := by decide +kernel
theorem d_Law_law_611 : decode code 611 = .ok (.iadd, 1) := by decide +kernel
theorem d_Law_law_612 : decode code 612 = .ok (.iaload, 1) := by decide +kernel
theorem d_Law_law_613 : decode code 613 = .ok (.invokevirtual 87, 3) := by decide +kernel
theorem d_Law_law_616 : decode code 616 = .ok (.if_icmp .eq 348, 3) := by decide +kernel
theorem d_Law_law_619 : decode code 619 = .ok (.iconst 0, 1) := by decide +kernel
theorem d_Law_law_620 : decode code 620 = .ok (.ireturn, 1) := by decide +kernel
theorem d_Law_law_621 : decode code 621 = .ok (.aload_n 1, 1) := by decide +kernel
theorem d_Law_law_622 : decode code 622 = .ok (.aload_n 0, 1) := by decide +kernel
theorem d_Law_law_623 : decode code 623 = .ok (.iload_n 3, 1) := by decide +kernel
theorem d_Law_law_624 : decode code 624 = .ok (.iconst 1, 1) := by decide +kernel
theorem d_Law_law_625 : decode code 625 = .ok (.iadd, 1) := by decide +kernel
theorem d_Law_law_626 : decode code 626 = .ok (.iaload, 1) := by decide +kernel
theorem d_Law_law_627 : decode code 627 = .ok (.aload_n 0, 1) := by decide +kernel
theorem d_Law_law_628 : decode code 628 = .ok (.iload_n 3, 1) := by decide +kernel
theorem d_Law_law_629 : decode code 629 = .ok (.iconst 2, 1) := by decide +kernel
theorem d_Law_law_630 : decode code 630 = .ok (.iadd, 1) := by decide +kernel
theorem d_Law_law_631 : decode code 631 = .ok (.iaload, 1) := by decide +kernel
theorem d_Law_law_632 : decode code 632 = .ok (.invokevirtual 88, 3) := by decide +kernel
theorem d_Law_law_635 : decode code 635 = .ok (.aload_n 2, 1) := by decide +kernel
theorem d_Law_law_636 : decode code 636 = .ok (.aload_n 0, 1) := by decide +kernel
theorem d_Law_law_637 : decode code 637 = .ok (.iload_n 3, 1) := by decide +kernel
theorem d_Law_law_638 : decode code 638 = .ok (.iconst 1, 1) := by decide +kernel
theorem d_Law_law_639 : decode code 639 = .ok (.iadd, 1) := by decide +kernel
theorem d_Law_law_640 : decode code 640 = .ok (.iaload, 1) := by decide +kernel
theorem d_Law_law_641 : decode code 641 = .ok (.aload_n 0, 1) := by decide +kernel
theorem d_Law_law_642 : decode code 642 = .ok (.iload_n 3, 1) := by decide +kernel
theorem d_Law_law_643 : decode code 643 = .ok (.iconst 2, 1) := by decide +kernel
theorem d_Law_law_644 : decode code 644 = .ok (.iadd, 1) := by decide +kernel
theorem d_Law_law_645 : decode code 645 = .ok (.iaload, 1) := by decide +kernel
theorem d_Law_law_646 : decode code 646 = .ok (.invokevirtual 91, 3) := by decide +kernel
theorem d_Law_law_649 : decode code 649 = .ok (.if_icmp .eq 315, 3) := by decide +kernel
theorem d_Law_law_652 : decode code 652 = .ok (.iconst 0, 1) := by decide +kernel
theorem d_Law_law_653 : decode code 653 = .ok (.ireturn, 1) := by decide +kernel
theorem d_Law_law_654 : decode code 654 = .ok (.aload_n 1, 1) := by decide +kernel
theorem d_Law_law_655 : decode code 655 = .ok (.aload_n 0, 1) := by decide +kernel
theorem d_Law_law_656 : decode code 656 = .ok (.iload_n 3, 1) := by decide +kernel
theorem d_Law_law_657 : decode code 657 = .ok (.iconst 1, 1) := by decide +kernel
theorem d_Law_law_658 : decode code 658 = .ok (.iadd, 1) := by decide +kernel
theorem d_Law_law_659 : decode code 659 = .ok (.iaload, 1) := by decide +kernel
theorem d_Law_law_660 : decode code 660 = .ok (.invokevirtual 92, 3) := by decide +kernel
theorem d_Law_law_663 : decode code 663 = .ok (.aload_n 2, 1) := by decide +kernel
theorem d_Law_law_664 : decode code 664 = .ok (.aload_n 0, 1) := by decide +kernel
theorem d_Law_law_665 : decode code 665 = .ok (.iload_n 3, 1) := by decide +kernel
theorem d_Law_law_666 : decode code 666 = .ok (.iconst 1, 1) := by decide +kernel
theorem d_Law_law_667 : decode code 667 = .ok (.iadd, 1) := by decide +kernel
theorem d_Law_law_668 : decode code 668 = .ok (.iaload, 1) := by decide +kernel
theorem d_Law_law_669 : decode code 669 = .ok (.invokevirtual 95, 3) := by decide +kernel
theorem d_Law_law_672 : decode code 672 = .ok (.if_icmp .eq 292, 3) := by decide +kernel
theorem d_Law_law_675 : decode code 675 = .ok (.iconst 0, 1) := by decide +kernel
theorem d_Law_law_676 : decode code 676 = .ok (.ireturn, 1) := by decide +kernel
theorem d_Law_law_677 : decode code 677 = .ok (.aload_n 1, 1) := by decide +kernel
theorem d_Law_law_678 : decode code 678 = .ok (.aload_n 0, 1) := by decide +kernel
theorem d_Law_law_679 : decode code 679 = .ok (.iload_n 3, 1) := by decide +kernel
theorem d_Law_law_680 : decode code 680 = .ok (.iconst 1, 1) := by decide +kernel
theorem d_Law_law_681 : decode code 681 = .ok (.iadd, 1) := by decide +kernel
theorem d_Law_law_682 : decode code 682 = .ok (.iaload, 1) := by decide +kernel
theorem d_Law_law_683 : decode code 683 = .ok (.aload_n 0, 1) := by decide +kernel
theorem d_Law_law_684 : decode code 684 = .ok (.iload_n 3, 1) := by decide +kernel
theorem d_Law_law_685 : decode code 685 = .ok (.iconst 2, 1) := by decide +kernel
theorem d_Law_law_686 : decode code 686 = .ok (.iadd, 1) := by decide +kernel
theorem d_Law_law_687 : decode code 687 = .ok (.iaload, 1) := by decide +kernel
theorem d_Law_law_688 : decode code 688 = .ok (.aload_n 0, 1) := by decide +kernel
theorem d_Law_law_689 : decode code 689 = .ok (.iload_n 3, 1) := by decide +kernel
theorem d_Law_law_690 : decode code 690 = .ok (.iconst 3, 1) := by decide +kernel
theorem d_Law_law_691 : decode code 691 = .ok (.iadd, 1) := by decide +kernel
theorem d_Law_law_692 : decode code 692 = .ok (.iaload, 1) := by decide +kernel
theorem d_Law_law_693 : decode code 693 = .ok (.invokevirtual 96, 3) := by decide +kernel
theorem d_Law_law_696 : decode code 696 = .ok (.aload_n 2, 1) := by decide +kernel
theorem d_Law_law_697 : decode code 697 = .ok (.aload_n 0, 1) := by decide +kernel
theorem d_Law_law_698 : decode code 698 = .ok (.iload_n 3, 1) := by decide +kernel
theorem d_Law_law_699 : decode code 699 = .ok (.iconst 1, 1) := by decide +kernel
theorem d_Law_law_700 : decode code 700 = .ok (.iadd, 1) := by decide +kernel
theorem d_Law_law_701 : decode code 701 = .ok (.iaload, 1) := by decide +kernel
theorem d_Law_law_702 : decode code 702 = .ok (.aload_n 0, 1) := by decide +kernel
theorem d_Law_law_703 : decode code 703 = .ok (.iload_n 3, 1) := by decide +kernel
theorem d_Law_law_704 : decode code 704 = .ok (.iconst 2, 1) := by decide +kernel
theorem d_Law_law_705 : decode code 705 = .ok (.iadd, 1) := by decide +kernel
theorem d_Law_law_706 : decode code 706 = .ok (.iaload, 1) := by decide +kernel
theorem d_Law_law_707 : decode code 707 = .ok (.aload_n 0, 1) := by decide +kernel
theorem d_Law_law_708 : decode code 708 = .ok (.iload_n 3, 1) := by decide +kernel
theorem d_Law_law_709 : decode code 709 = .ok (.iconst 3, 1) := by decide +kernel
theorem d_Law_law_710 : decode code 710 = .ok (.iadd, 1) := by decide +kernel
theorem d_Law_law_711 : decode code 711 = .ok (.iaload, 1) := by decide +kernel
theorem d_Law_law_712 : decode code 712 = .ok (.invokevirtual 99, 3) := by decide +kernel
theorem d_Law_law_715 : decode code 715 = .ok (.if_icmp .eq 249, 3) := by decide +kernel
theorem d_Law_law_718 : decode code 718 = .ok (.iconst 0, 1) := by decide +kernel
theorem d_Law_law_719 : decode code 719 = .ok (.ireturn, 1) := by decide +kernel
theorem d_Law_law_720 : decode code 720 = .ok (.aload_n 1, 1) := by decide +kernel
theorem d_Law_law_721 : decode code 721 = .ok (.aload_n 0, 1) := by decide +kernel
theorem d_Law_law_722 : decode code 722 = .ok (.iload_n 3, 1) := by decide +kernel
theorem d_Law_law_723 : decode code 723 = .ok (.iconst 1, 1) := by decide +kernel
theorem d_Law_law_724 : decode code 724 = .ok (.iadd, 1) := by decide +kernel
theorem d_Law_law_725 : decode code 725 = .ok (.iaload, 1) := by decide +kernel
theorem d_Law_law_726 : decode code 726 = .ok (.aload_n 0, 1) := by decide +kernel
theorem d_Law_law_727 : decode code 727 = .ok (.iload_n 3, 1) := by decide +kernel
theorem d_Law_law_728 : decode code 728 = .ok (.iconst 2, 1) := by decide +kernel
theorem d_Law_law_729 : decode code 729 = .ok (.iadd, 1) := by decide +kernel
theorem d_Law_law_730 : decode code 730 = .ok (.iaload, 1) := by decide +kernel
theorem d_Law_law_731 : decode code 731 = .ok (.invokevirtual 100, 3) := by decide +kernel
theorem d_Law_law_734 : decode code 734 = .ok (.aload_n 2, 1) := by decide +kernel
theorem d_Law_law_735 : decode code 735 = .ok (.aload_n 0, 1) := by decide +kernel
theorem d_Law_law_736 : decode code 736 = .ok (.iload_n 3, 1) := by decide +kernel
theorem d_Law_law_737 : decode code 737 = .ok (.iconst 1, 1) := by decide +kernel
theorem d_Law_law_738 : decode code 738 = .ok (.iadd, 1) := by decide +kernel
theorem d_Law_law_739 : decode code 739 = .ok (.iaload, 1) := by decide +kernel
theorem d_Law_law_740 : decode code 740 = .ok (.aload_n 0, 1) := by decide +kernel
theorem d_Law_law_741 : decode code 741 = .ok (.iload_n 3, 1) := by decide +kernel
theorem d_Law_law_742 : decode code 742 = .ok (.iconst 2, 1) := by decide +kernel
theorem d_Law_law_743 : decode code 743 = .ok (.iadd, 1) := by decide +kernel
theorem d_Law_law_744 : decode code 744 = .ok (.iaload, 1) := by decide +kernel
theorem d_Law_law_745 : decode code 745 = .ok (.invokevirtual 103, 3) := by decide +kernel
theorem d_Law_law_748 : decode code 748 = .ok (.if_icmp .eq 216, 3) := by decide +kernel
theorem d_Law_law_751 : decode code 751 = .ok (.iconst 0, 1) := by decide +kernel
theorem d_Law_law_752 : decode code 752 = .ok (.ireturn, 1) := by decide +kernel
theorem d_Law_law_753 : decode code 753 = .ok (.aload_n 1, 1) := by decide +kernel
theorem d_Law_law_754 : decode code 754 = .ok (.aload_n 0, 1) := by decide +kernel
theorem d_Law_law_755 : decode code 755 = .ok (.iload_n 3, 1) := by decide +kernel
theorem d_Law_law_756 : decode code 756 = .ok (.iconst 1, 1) := by decide +kernel
theorem d_Law_law_757 : decode code 757 = .ok (.iadd, 1) := by decide +kernel
theorem d_Law_law_758 : decode code 758 = .ok (.iaload, 1) := by decide +kernel
theorem d_Law_law_759 : decode code 759 = .ok (.aload_n 0, 1) := by decide +kernel
theorem d_Law_law_760 : decode code 760 = .ok (.iload_n 3, 1) := by decide +kernel
theorem d_Law_law_761 : decode code 761 = .ok (.iconst 2, 1) := by decide +kernel
theorem d_Law_law_762 : decode code 762 = .ok (.iadd, 1) := by decide +kernel
theorem d_Law_law_763 : decode code 763 = .ok (.iaload, 1) := by decide +kernel
theorem d_Law_law_764 : decode code 764 = .ok (.aload_n 0, 1) := by decide +kernel
theorem d_Law_law_765 : decode code 765 = .ok (.iload_n 3, 1) := by decide +kernel
theorem d_Law_law_766 : decode code 766 = .ok (.iconst 3, 1) := by decide +kernel
theorem d_Law_law_767 : decode code 767 = .ok (.iadd, 1) := by decide +kernel
theorem d_Law_law_768 : decode code 768 = .ok (.iaload, 1) := by decide +kernel
theorem d_Law_law_769 : decode code 769 = .ok (.aload_n 0, 1) := by decide +kernel
theorem d_Law_law_770 : decode code 770 = .ok (.iload_n 3, 1) := by decide +kernel
theorem d_Law_law_771 : decode code 771 = .ok (.iconst 4, 1) := by decide +kernel
theorem d_Law_law_772 : decode code 772 = .ok (.iadd, 1) := by decide +kernel
theorem d_Law_law_773 : decode code 773 = .ok (.iaload, 1) := by decide +kernel
theorem d_Law_law_774 : decode code 774 = .ok (.aload_n 0, 1) := by decide +kernel
theorem d_Law_law_775 : decode code 775 = .ok (.iload_n 3, 1) := by decide +kernel
theorem d_Law_law_776 : decode code 776 = .ok (.iconst 5, 1) := by decide +kernel
theorem d_Law_law_777 : decode code 777 = .ok (.iadd, 1) := by decide +kernel
theorem d_Law_law_778 : decode code 778 = .ok (.iaload, 1) := by decide +kernel
theorem d_Law_law_779 : decode code 779 = .ok (.invokevirtual 104, 3) := by decide +kernel
theorem d_Law_law_782 : decode code 782 = .ok (.aload_n 2, 1) := by decide +kernel
theorem d_Law_law_783 : decode code 783 = .ok (.aload_n 0, 1) := by decide +kernel
theorem d_Law_law_784 : decode code 784 = .ok (.iload_n 3, 1) := by decide +kernel
theorem d_Law_law_785 : decode code 785 = .ok (.iconst 1, 1) := by decide +kernel
theorem d_Law_law_786 : decode code 786 = .ok (.iadd, 1) := by decide +kernel
theorem d_Law_law_787 : decode code 787 = .ok (.iaload, 1) := by decide +kernel
theorem d_Law_law_788 : decode code 788 = .ok (.aload_n 0, 1) := by decide +kernel
theorem d_Law_law_789 : decode code 789 = .ok (.iload_n 3, 1) := by decide +kernel
theorem d_Law_law_790 : decode code 790 = .ok (.iconst 2, 1) := by decide +kernel
theorem d_Law_law_791 : decode code 791 = .ok (.iadd, 1) := by decide +kernel
theorem d_Law_law_792 : decode code 792 = .ok (.iaload, 1) := by decide +kernel
theorem d_Law_law_793 : decode code 793 = .ok (.aload_n 0, 1) := by decide +kernel
theorem d_Law_law_794 : decode code 794 = .ok (.iload_n 3, 1) := by decide +kernel
theorem d_Law_law_795 : decode code 795 = .ok (.iconst 3, 1) := by decide +kernel
theorem d_Law_law_796 : decode code 796 = .ok (.iadd, 1) := by decide +kernel
theorem d_Law_law_797 : decode code 797 = .ok (.iaload, 1) := by decide +kernel
theorem d_Law_law_798 : decode code 798 = .ok (.aload_n 0, 1) := by decide +kernel
theorem d_Law_law_799 : decode code 799 = .ok (.iload_n 3, 1) := by decide +kernel
theorem d_Law_law_800 : decode code 800 = .ok (.iconst 4, 1) := by decide +kernel
theorem d_Law_law_801 : decode code 801 = .ok (.iadd, 1) := by decide +kernel
theorem d_Law_law_802 : decode code 802 = .ok (.iaload, 1) := by decide +kernel
theorem d_Law_law_803 : decode code 803 = .ok (.aload_n 0, 1) := by decide +kernel
theorem d_Law_law_804 : decode code 804 = .ok (.iload_n 3, 1) := by decide +kernel
theorem d_Law_law_805 : decode code 805 = .ok (.iconst 5, 1) := by decide +kernel
theorem d_Law_law_806 : decode code 806 = .ok (.iadd, 1) := by decide +kernel
theorem d_Law_law_807 : decode code 807 = .ok (.iaload, 1) := by decide +kernel
theorem d_Law_law_808 : decode code 808 = .ok (.invokevirtual 108, 3) := by decide +kernel
theorem d_Law_law_811 : decode code 811 = .ok (.if_icmp .eq 153, 3) := by decide +kernel
theorem d_Law_law_814 : decode code 814 = .ok (.iconst 0, 1) := by decide +kernel
theorem d_Law_law_815 : decode code 815 = .ok (.ireturn, 1) := by decide +kernel
theorem d_Law_law_816 : decode code 816 = .ok (.aload_n 1, 1) := by decide +kernel
theorem d_Law_law_817 : decode code 817 = .ok (.aload_n 0, 1) := by decide +kernel
theorem d_Law_law_818 : decode code 818 = .ok (.iload_n 3, 1) := by decide +kernel
theorem d_Law_law_819 : decode code 819 = .ok (.iconst 1, 1) := by decide +kernel
theorem d_Law_law_820 : decode code 820 = .ok (.iadd, 1) := by decide +kernel
theorem d_Law_law_821 : decode code 821 = .ok (.iaload, 1) := by decide +kernel
theorem d_Law_law_822 : decode code 822 = .ok (.aload_n 0, 1) := by decide +kernel
theorem d_Law_law_823 : decode code 823 = .ok (.iload_n 3, 1) := by decide +kernel
theorem d_Law_law_824 : decode code 824 = .ok (.iconst 2, 1) := by decide +kernel
theorem d_Law_law_825 : decode code 825 = .ok (.iadd, 1) := by decide +kernel
theorem d_Law_law_826 : decode code 826 = .ok (.iaload, 1) := by decide +kernel
theorem d_Law_law_827 : decode code 827 = .ok (.invokevirtual 109, 3) := by decide +kernel
theorem d_Law_law_830 : decode code 830 = .ok (.aload_n 2, 1) := by decide +kernel
theorem d_Law_law_831 : decode code 831 = .ok (.aload_n 0, 1) := by decide +kernel
theorem d_Law_law_832 : decode code 832 = .ok (.iload_n 3, 1) := by decide +kernel
theorem d_Law_law_833 : decode code 833 = .ok (.iconst 1, 1) := by decide +kernel
theorem d_Law_law_834 : decode code 834 = .ok (.iadd, 1) := by decide +kernel
theorem d_Law_law_835 : decode code 835 = .ok (.iaload, 1) := by decide +kernel
theorem d_Law_law_836 : decode code 836 = .ok (.aload_n 0, 1) := by decide +kernel
theorem d_Law_law_837 : decode code 837 = .ok (.iload_n 3, 1) := by decide +kernel
theorem d_Law_law_838 : decode code 838 = .ok (.iconst 2, 1) := by decide +kernel
theorem d_Law_law_839 : decode code 839 = .ok (.iadd, 1) := by decide +kernel
theorem d_Law_law_840 : decode code 840 = .ok (.iaload, 1) := by decide +kernel
theorem d_Law_law_841 : decode code 841 = .ok (.invokevirtual 112, 3) := by decide +kernel
theorem d_Law_law_844 : decode code 844 = .ok (.if_icmp .eq 120, 3) := by decide +kernel
theorem d_Law_law_847 : decode code 847 = .ok (.iconst 0, 1) := by decide +kernel
theorem d_Law_law_848 : decode code 848 = .ok (.ireturn, 1) := by decide +kernel
theorem d_Law_law_849 : decode code 849 = .ok (.aload_n 1, 1) := by decide +kernel
theorem d_Law_law_850 : decode code 850 = .ok (.aload_n 0, 1) := by decide +kernel
theorem d_Law_law_851 : decode code 851 = .ok (.iload_n 3, 1) := by decide +kernel
theorem d_Law_law_852 : decode code 852 = .ok (.iconst 1, 1) := by decide +kernel
theorem d_Law_law_853 : decode code 853 = .ok (.iadd, 1) := by decide +kernel
theorem d_Law_law_854 : decode code 854 = .ok (.iaload, 1) := by decide +kernel
theorem d_Law_law_855 : decode code 855 = .ok (.aload_n 0, 1) := by decide +kernel
theorem d_Law_law_856 : decode code 856 = .ok (.iload_n 3, 1) := by decide +kernel
theorem d_Law_law_857 : decode code 857 = .ok (.iconst 2, 1) := by decide +kernel
theorem d_Law_law_858 : decode code 858 = .ok (.iadd, 1) := by decide +kernel
theorem d_Law_law_859 : decode code 859 = .ok (.iaload, 1) := by decide +kernel
theorem d_Law_law_860 : decode code 860 = .ok (.invokevirtual 113, 3) := by decide +kernel
theorem d_Law_law_863 : decode code 863 = .ok (.aload_n 2, 1) := by decide +kernel
theorem d_Law_law_864 : decode code 864 = .ok (.aload_n 0, 1) := by decide +kernel
theorem d_Law_law_865 : decode code 865 = .ok (.iload_n 3, 1) := by decide +kernel
theorem d_Law_law_866 : decode code 866 = .ok (.iconst 1, 1) := by decide +kernel
theorem d_Law_law_867 : decode code 867 = .ok (.iadd, 1) := by decide +kernel
theorem d_Law_law_868 : decode code 868 = .ok (.iaload, 1) := by decide +kernel
theorem d_Law_law_869 : decode code 869 = .ok (.aload_n 0, 1) := by decide +kernel
theorem d_Law_law_870 : decode code 870 = .ok (.iload_n 3, 1) := by decide +kernel
theorem d_Law_law_871 : decode code 871 = .ok (.iconst 2, 1) := by decide +kernel
theorem d_Law_law_872 : decode code 872 = .ok (.iadd, 1) := by decide +kernel
theorem d_Law_law_873 : decode code 873 = .ok (.iaload, 1) := by decide +kernel
theorem d_Law_law_874 : decode code 874 = .ok (.invokevirtual 116, 3) := by decide +kernel
theorem d_Law_law_877 : decode code 877 = .ok (.if_icmp .eq 87, 3) := by decide +kernel
theorem d_Law_law_880 : decode code 880 = .ok (.iconst 0, 1) := by decide +kernel
theorem d_Law_law_881 : decode code 881 = .ok (.ireturn, 1) := by decide +kernel
theorem d_Law_law_882 : decode code 882 = .ok (.aload_n 1, 1) := by decide +kernel
theorem d_Law_law_883 : decode code 883 = .ok (.aload_n 0, 1) := by decide +kernel
theorem d_Law_law_884 : decode code 884 = .ok (.iload_n 3, 1) := by decide +kernel
theorem d_Law_law_885 : decode code 885 = .ok (.iconst 1, 1) := by decide +kernel
theorem d_Law_law_886 : decode code 886 = .ok (.iadd, 1) := by decide +kernel
theorem d_Law_law_887 : decode code 887 = .ok (.iaload, 1) := by decide +kernel
theorem d_Law_law_888 : decode code 888 = .ok (.aload_n 0, 1) := by decide +kernel
theorem d_Law_law_889 : decode code 889 = .ok (.iload_n 3, 1) := by decide +kernel
theorem d_Law_law_890 : decode code 890 = .ok (.iconst 2, 1) := by decide +kernel
theorem d_Law_law_891 : decode code 891 = .ok (.iadd, 1) := by decide +kernel
theorem d_Law_law_892 : decode code 892 = .ok (.iaload, 1) := by decide +kernel
theorem d_Law_law_893 : decode code 893 = .ok (.invokevirtual 117, 3) := by decide +kernel
theorem d_Law_law_896 : decode code 896 = .ok (.aload_n 2, 1) := by decide +kernel
theorem d_Law_law_897 : decode code 897 = .ok (.aload_n 0, 1) := by decide +kernel
theorem d_Law_law_898 : decode code 898 = .ok (.iload_n 3, 1) := by decide +kernel
theorem d_Law_law_899 : decode code 899 = .ok (.iconst 1, 1) := by decide +kernel
theorem d_Law_law_900 : decode code 900 = .ok (.iadd, 1) := by decide +kernel
theorem d_Law_law_901 : decode code 901 = .ok (.iaload, 1) := by decide +kernel
theorem d_Law_law_902 : decode code 902 = .ok (.aload_n 0, 1) := by decide +kernel
theorem d_Law_law_903 : decode code 903 = .ok (.iload_n 3, 1) := by decide +kernel
theorem d_Law_law_904 : decode code 904 = .ok (.iconst 2, 1) := by decide +kernel
theorem d_Law_law_905 : decode code 905 = .ok (.iadd, 1) := by decide +kernel
theorem d_Law_law_906 : decode code 906 = .ok (.iaload, 1) := by decide +kernel
theorem d_Law_law_907 : decode code 907 = .ok (.invokevirtual 120, 3) := by decide +kernel
theorem d_Law_law_910 : decode code 910 = .ok (.if_icmp .eq 54, 3) := by decide +kernel
theorem d_Law_law_913 : decode code 913 = .ok (.iconst 0, 1) := by decide +kernel
theorem d_Law_law_914 : decode code 914 = .ok (.ireturn, 1) := by decide +kernel
theorem d_Law_law_915 : decode code 915 = .ok (.aload_n 1, 1) := by decide +kernel
theorem d_Law_law_916 : decode code 916 = .ok (.invokevirtual 121, 3) := by decide +kernel
theorem d_Law_law_919 : decode code 919 = .ok (.aload_n 2, 1) := by decide +kernel
theorem d_Law_law_920 : decode code 920 = .ok (.invokevirtual 124, 3) := by decide +kernel
theorem d_Law_law_923 : decode code 923 = .ok (.if_icmp .eq 41, 3) := by decide +kernel
theorem d_Law_law_926 : decode code 926 = .ok (.iconst 0, 1) := by decide +kernel
theorem d_Law_law_927 : decode code 927 = .ok (.ireturn, 1) := by decide +kernel
theorem d_Law_law_928 : decode code 928 = .ok (.aload_n 1, 1) := by decide +kernel
theorem d_Law_law_929 : decode code 929 = .ok (.invokevirtual 125, 3) := by decide +kernel
theorem d_Law_law_932 : decode code 932 = .ok (.aload_n 2, 1) := by decide +kernel
theorem d_Law_law_933 : decode code 933 = .ok (.invokevirtual 128, 3) := by decide +kernel
theorem d_Law_law_936 : decode code 936 = .ok (.if_icmp .eq 28, 3) := by decide +kernel
theorem d_Law_law_939 : decode code 939 = .ok (.iconst 0, 1) := by decide +kernel
theorem d_Law_law_940 : decode code 940 = .ok (.ireturn, 1) := by decide +kernel
theorem d_Law_law_941 : decode code 941 = .ok (.aload_n 1, 1) := by decide +kernel
theorem d_Law_law_942 : decode code 942 = .ok (.aload_n 0, 1) := by decide +kernel
theorem d_Law_law_943 : decode code 943 = .ok (.iload_n 3, 1) := by decide +kernel
theorem d_Law_law_944 : decode code 944 = .ok (.iconst 1, 1) := by decide +kernel
theorem d_Law_law_945 : decode code 945 = .ok (.iadd, 1) := by decide +kernel
theorem d_Law_law_946 : decode code 946 = .ok (.iaload, 1) := by decide +kernel
theorem d_Law_law_947 : decode code 947 = .ok (.invokevirtual 129, 3) := by decide +kernel
theorem d_Law_law_950 : decode code 950 = .ok (.aload_n 2, 1) := by decide +kernel
theorem d_Law_law_951 : decode code 951 = .ok (.aload_n 0, 1) := by decide +kernel
theorem d_Law_law_952 : decode code 952 = .ok (.iload_n 3, 1) := by decide +kernel
theorem d_Law_law_953 : decode code 953 = .ok (.iconst 1, 1) := by decide +kernel
theorem d_Law_law_954 : decode code 954 = .ok (.iadd, 1) := by decide +kernel
theorem d_Law_law_955 : decode code 955 = .ok (.iaload, 1) := by decide +kernel
theorem d_Law_law_956 : decode code 956 = .ok (.invokevirtual 132, 3) := by decide +kernel
theorem d_Law_law_959 : decode code 959 = .ok (.if_icmp .eq 5, 3) := by decide +kernel
theorem d_Law_law_962 : decode code 962 = .ok (.iconst 0, 1) := by decide +kernel
theorem d_Law_law_963 : decode code 963 = .ok (.ireturn, 1) := by decide +kernel
theorem d_Law_law_964 : decode code 964 = .ok (.iinc 3 6, 3) := by decide +kernel
theorem d_Law_law_967 : decode code 967 = .ok (.goto (-949), 3) := by decide +kernel
theorem d_Law_law_970 : decode code 970 = .ok (.iconst 1, 1) := by decide +kernel
theorem d_Law_law_971 : decode code 971 = .ok (.ireturn, 1) := by decide +kernel
def s_Law_law_t0_L18 (L : Nat) (xs : Nat → Int32) : Nat → Int32 → jm_M → Option (Int32 × jm_M)
  | 0, _, _ => none
  | n + 1, x3, s => (if ((Int32.ofNat L) - 6) < x3 then (some (1, s)) else jm_lds xs L x3 (fun v5 => jm_vi (v5 &&& 31) (fun v6 => (if v6 = 0 then jm_lds xs L (x3 + 1) (fun v7 => jm_lds xs L (x3 + 2) (fun v8 => jm_lds xs L (x3 + 3) (fun v9 => jm_b2 (s_X_write s v7 ((v8.toInt64 <<< ((32 : Int32).toInt64 &&& 63)) ||| (v9.toInt64 &&& 4294967295))) (fun v10 s11 => jm_lds xs L (x3 + 1) (fun v12 => jm_lds xs L (x3 + 2) (fun v13 => jm_lds xs L (x3 + 3) (fun v14 => jm_b2 (s_Z_write s11 v12 ((v13.toInt64 <<< ((32 : Int32).toInt64 &&& 63)) ||| (v14.toInt64 &&& 4294967295))) (fun v15 s16 => (if v10 = v15 then s_Law_law_t0_L18 L xs n (x3 + 6) s16 else (some (0, s16))))))))))) else (if v6 = 1 then jm_b2 (s_X_wipe s) (fun v17 s18 => jm_b2 (s_Z_wipe s18) (fun v19 s20 => (if v17 = v19 then s_Law_law_t0_L18 L xs n (x3 + 6) s20 else (some (0, s20))))) else (if v6 = 2 then jm_b2 (s_X_fault s) (fun v21 s22 => jm_b2 (s_Z_fault s22) (fun v23 s24 => (if v21 = v23 then s_Law_law_t0_L18 L xs n (x3 + 6) s24 else (some (0, s24))))) else (if v6 = 3 then jm_b2 (s_X_lay s) (fun v25 s26 => jm_b2 (s_Z_lay s26) (fun v27 s28 => (if v25 = v27 then s_Law_law_t0_L18 L xs n (x3 + 6) s28 else (some (0, s28))))) else (if v6 = 4 then jm_lds xs L (x3 + 1) (fun v29 => jm_lds xs L (x3 + 2) (fun v30 => jm_bd (s_X_hill s v29 v30) (fun v31 => jm_lds xs L (x3 + 1) (fun v32 => jm_lds xs L (x3 + 2) (fun v33 => jm_bd (s_Z_hill s v32 v33) (fun v34 => (if v31 = v34 then s_Law_law_t0_L18 L xs n (x3 + 6) s else (some (0, s))))))))) else (if v6 = 5 then jm_lds xs L (x3 + 1) (fun v35 => jm_lds xs L (x3 + 2) (fun v36 => jm_lds xs L (x3 + 3) (fun v37 => jm_b2 (s_X_ship s v35 v36 v37) (fun v38 s39 => jm_lds xs L (x3 + 1) (fun v40 => jm_lds xs L (x3 + 2) (fun v41 => jm_lds xs L (x3 + 3) (fun v42 => jm_b2 (s_Z_ship s39 v40 v41 v42) (fun v43 s44 => (if v38 = v43 then s_Law_law_t0_L18 L xs n (x3 + 6) s44 else (some (0, s44))))))))))) else (if v6 = 6 then jm_lds xs L (x3 + 1) (fun v45 => jm_lds xs L (x3 + 2) (fun v46 => jm_b2 (s_X_burns s v45 v46) (fun v47 s48 => jm_lds xs L (x3 + 1) (fun v49 => jm_lds xs L (x3 + 2) (fun v50 => jm_b2 (s_Z_burns s48 v49 v50) (fun v51 s52 => (if v47 = v51 then s_Law_law_t0_L18 L xs n (x3 + 6) s52 else (some (0, s52))))))))) else (if v6 = 7 then jm_lds xs L (x3 + 1) (fun v53 => jm_b2 (s_X_seen s v53) (fun v54 s55 => jm_lds xs L (x3 + 1) (fun v56 => jm_b2 (s_Z_seen s55 v56) (fun v57 s58 => (if v54 = v57 then s_Law_law_t0_L18 L xs n (x3 + 6) s58 else (some (0, s58))))))) else (if v6 = 8 then jm_lds xs L (x3 + 1) (fun v59 => jm_b2 (s_X_wood s v59) (fun v60 s61 => jm_lds xs L (x3 + 1) (fun v62 => jm_b2 (s_Z_wood s61 v62) (fun v63 s64 => (if v60 = v63 then s_Law_law_t0_L18 L xs n (x3 + 6) s64 else (some (0, s64))))))) else (if v6 = 9 then jm_b2 (s_X_alarm s) (fun v65 s66 => jm_b2 (s_Z_alarm s66) (fun v67 s68 => (if v65 = v67 then s_Law_law_t0_L18 L xs n (x3 + 6) s68 else (some (0, s68))))) else (if v6 = 10 then jm_lds xs L (x3 + 1) (fun v69 => jm_b2 (s_X_falseBy s v69) (fun v70 s71 => jm_lds xs L (x3 + 1) (fun v72 => jm_b2 (s_Z_falseBy s71 v72) (fun v73 s74 => (if v70 = v73 then s_Law_law_t0_L18 L xs n (x3 + 6) s74 else (some (0, s74))))))) else (if v6 = 11 then jm_lds xs L (x3 + 1) (fun v75 => jm_lds xs L (x3 + 2) (fun v76 => jm_b2 (s_X_falseFor s v75 v76) (fun v77 s78 => jm_lds xs L (x3 + 1) (fun v79 => jm_lds xs L (x3 + 2) (fun v80 => jm_b2 (s_Z_falseFor s78 v79 v80) (fun v81 s82 => (if v77 = v81 then s_Law_law_t0_L18 L xs n (x3 + 6) s82 else (some (0, s82))))))))) else (if v6 = 12 then jm_lds xs L (x3 + 1) (fun v83 => jm_lds xs L (x3 + 2) (fun v84 => jm_b2 (s_X_trueBy s v83 v84) (fun v85 s86 => jm_lds xs L (x3 + 1) (fun v87 => jm_lds xs L (x3 + 2) (fun v88 => jm_b2 (s_Z_trueBy s86 v87 v88) (fun v89 s90 => (if v85 = v89 then s_Law_law_t0_L18 L xs n (x3 + 6) s90 else (some (0, s90))))))))) else (if v6 = 13 then jm_lds xs L (x3 + 1) (fun v91 => jm_lds xs L (x3 + 2) (fun v92 => jm_b2 (s_X_late s v91 v92) (fun v93 s94 => jm_lds xs L (x3 + 1) (fun v95 => jm_lds xs L (x3 + 2) (fun v96 => jm_b2 (s_Z_late s94 v95 v96) (fun v97 s98 => (if v93 = v97 then s_Law_law_t0_L18 L xs n (x3 + 6) s98 else (some (0, s98))))))))) else (if v6 = 14 then jm_b2 (s_X_bears s) (fun v99 s100 => jm_b2 (s_Z_bears s100) (fun v101 s102 => (if v99 = v101 then s_Law_law_t0_L18 L xs n (x3 + 6) s102 else (some (0, s102))))) else (if v6 = 15 then jm_lds xs L (x3 + 1) (fun v103 => jm_lds xs L (x3 + 2) (fun v104 => jm_b2 (s_X_bestRule s v103 v104) (fun v105 s106 => jm_lds xs L (x3 + 1) (fun v107 => jm_lds xs L (x3 + 2) (fun v108 => jm_b2 (s_Z_bestRule s106 v107 v108) (fun v109 s110 => (if v105 = v109 then s_Law_law_t0_L18 L xs n (x3 + 6) s110 else (some (0, s110))))))))) else (if v6 = 16 then jm_lds xs L (x3 + 1) (fun v111 => jm_b2 (s_X_added s v111) (fun v112 s113 => jm_lds xs L (x3 + 1) (fun v114 => jm_b2 (s_Z_added s113 v114) (fun v115 s116 => (if v112 = v115 then s_Law_law_t0_L18 L xs n (x3 + 6) s116 else (some (0, s116))))))) else (if v6 = 17 then jm_lds xs L (x3 + 1) (fun v117 => jm_lds xs L (x3 + 2) (fun v118 => jm_b2 (s_X_log s v117 v118) (fun v119 s120 => jm_lds xs L (x3 + 1) (fun v121 => jm_lds xs L (x3 + 2) (fun v122 => jm_b2 (s_Z_log s120 v121 v122) (fun v123 s124 => (if v119 = v123 then s_Law_law_t0_L18 L xs n (x3 + 6) s124 else (some (0, s124))))))))) else (if v6 = 18 then jm_lds xs L (x3 + 1) (fun v125 => jm_b2 (s_X_logs s v125) (fun v126 s127 => jm_lds xs L (x3 + 1) (fun v128 => jm_b2 (s_Z_logs s127 v128) (fun v129 s130 => (if v126 = v129 then s_Law_law_t0_L18 L xs n (x3 + 6) s130 else (some (0, s130))))))) else (if v6 = 19 then jm_lds xs L (x3 + 1) (fun v131 => jm_lds xs L (x3 + 2) (fun v132 => jm_lds xs L (x3 + 3) (fun v133 => jm_b2 (s_X_sign s v131 v132 v133) (fun v134 s135 => jm_lds xs L (x3 + 1) (fun v136 => jm_lds xs L (x3 + 2) (fun v137 => jm_lds xs L (x3 + 3) (fun v138 => jm_b2 (s_Z_sign s135 v136 v137 v138) (fun v139 s140 => (if v134 = v139 then s_Law_law_t0_L18 L xs n (x3 + 6) s140 else (some (0, s140))))))))))) else (if v6 = 20 then jm_lds xs L (x3 + 1) (fun v141 => jm_lds xs L (x3 + 2) (fun v142 => jm_bd (s_X_near s v141 v142) (fun v143 => jm_lds xs L (x3 + 1) (fun v144 => jm_lds xs L (x3 + 2) (fun v145 => jm_bd (s_Z_near s v144 v145) (fun v146 => (if v143 = v146 then s_Law_law_t0_L18 L xs n (x3 + 6) s else (some (0, s))))))))) else (if v6 = 21 then jm_lds xs L (x3 + 1) (fun v147 => jm_lds xs L (x3 + 2) (fun v148 => jm_lds xs L (x3 + 3) (fun v149 => jm_lds xs L (x3 + 4) (fun v150 => jm_lds xs L (x3 + 5) (fun v151 => jm_b2 (s_X_watch s v147 v148 v149 v150 v151) (fun v152 s153 => jm_lds xs L (x3 + 1) (fun v154 => jm_lds xs L (x3 + 2) (fun v155 => jm_lds xs L (x3 + 3) (fun v156 => jm_lds xs L (x3 + 4) (fun v157 => jm_lds xs L (x3 + 5) (fun v158 => jm_b2 (s_Z_watch s153 v154 v155 v156 v157 v158) (fun v159 s160 => (if v152 = v159 then s_Law_law_t0_L18 L xs n (x3 + 6) s160 else (some (0, s160))))))))))))))) else (if v6 = 22 then jm_lds xs L (x3 + 1) (fun v161 => jm_lds xs L (x3 + 2) (fun v162 => jm_b2 (s_X_cost s v161 v162) (fun v163 s164 => jm_lds xs L (x3 + 1) (fun v165 => jm_lds xs L (x3 + 2) (fun v166 => jm_b2 (s_Z_cost s164 v165 v166) (fun v167 s168 => (if v163 = v167 then s_Law_law_t0_L18 L xs n (x3 + 6) s168 else (some (0, s168))))))))) else (if v6 = 23 then jm_lds xs L (x3 + 1) (fun v169 => jm_lds xs L (x3 + 2) (fun v170 => jm_bd (s_X_sends s v169 v170) (fun v171 => jm_lds xs L (x3 + 1) (fun v172 => jm_lds xs L (x3 + 2) (fun v173 => jm_bd (s_Z_sends s v172 v173) (fun v174 => (if v171 = v174 then s_Law_law_t0_L18 L xs n (x3 + 6) s else (some (0, s))))))))) else (if v6 = 24 then jm_lds xs L (x3 + 1) (fun v175 => jm_lds xs L (x3 + 2) (fun v176 => jm_bd (s_X_unbelieved s v175 v176) (fun v177 => jm_lds xs L (x3 + 1) (fun v178 => jm_lds xs L (x3 + 2) (fun v179 => jm_bd (s_Z_unbelieved s v178 v179) (fun v180 => (if v177 = v180 then s_Law_law_t0_L18 L xs n (x3 + 6) s else (some (0, s))))))))) else (if v6 = 25 then jm_b2 (s_X_keep s) (fun v181 s182 => jm_b2 (s_Z_keep s182) (fun v183 s184 => (if v181 = v183 then s_Law_law_t0_L18 L xs n (x3 + 6) s184 else (some (0, s184))))) else (if v6 = 26 then jm_b2 (s_X_back s) (fun v185 s186 => jm_b2 (s_Z_back s186) (fun v187 s188 => (if v185 = v187 then s_Law_law_t0_L18 L xs n (x3 + 6) s188 else (some (0, s188))))) else (if v6 = 27 then jm_lds xs L (x3 + 1) (fun v189 => jm_bd (s_X_count s v189) (fun v190 => jm_lds xs L (x3 + 1) (fun v191 => jm_bd (s_Z_count s v191) (fun v192 => (if v190 = v192 then s_Law_law_t0_L18 L xs n (x3 + 6) s else (some (0, s))))))) else s_Law_law_t0_L18 L xs n (x3 + 6) s)))))))))))))))))))))))))))))))
set_option maxRecDepth 100000 in
set_option maxHeartbeats 4000000 in
theorem s_Law_law_t0_L18_ok (L : Nat) (xs : Nat → Int32) : ∀ (n : Nat) (x3 : Int32) (s : jm_M), jm_Sim (mY_Law L xs) 78 2948 18 [(0, .ref 0), (1, .ref 1), (2, .ref 59), (3, .int x3)] [] 78 mr_154 s (s_Law_law_t0_L18 L xs n x3 s) (jm_rP 78 mr_154) := by
  intro n
  induction n with
  | zero => intro x3 s; exact jm_none
  | succ n ih =>
    intro x3 s
    rw [s_Law_law_t0_L18]
    refine jm_iload_n (pc := 18) (q := 3) (x := x3) d_Law_law_18 rfl ?_
    refine jm_aload_n (pc := 19) (q := 0) (x := 0) d_Law_law_19 rfl ?_
    refine jm_slen2 (pc := 20) (xs := xs) d_Law_law_20 rfl ?_
    refine jm_bipush (pc := 21) (v := 6) d_Law_law_21 cb_6 ?_
    refine jm_isub (pc := 23) d_Law_law_23 ?_
    refine jm_icmp_gt (pc := 24) (tgt := 970) d_Law_law_24 (by decide) ?_ ?_
    · refine jm_iconst (pc := 970) (v := 1) d_Law_law_970 ci_1 ?_
      exact jm_iret (pc := 971) (x := 1) d_Law_law_971 rfl (by decide) rfl rfl rfl
    · refine jm_aload_n (pc := 27) (q := 0) (x := 0) d_Law_law_27 rfl ?_
      refine jm_iload_n (pc := 28) (q := 3) (x := x3) d_Law_law_28 rfl ?_
      refine jm_sld (pc := 29) d_Law_law_29 rfl (fun v5 => ?_)
      refine jm_bipush (pc := 30) (v := 31) d_Law_law_30 cb_31 ?_
      refine jm_iand (pc := 32) d_Law_law_32 ?_
      refine jm_nvi (fun v6 => ?_)
      refine jm_case 0 ?_ (fun h0 => ?_)
      · refine jm_tswIn (pc := 33) (tgt := 160) d_Law_law_33 (by decide) (by decide) (off := 127) (by decide) (by decide) ?_
        refine jm_aload_n (pc := 160) (q := 1) (x := 1) d_Law_law_160 rfl ?_
        refine jm_aload_n (pc := 161) (q := 0) (x := 0) d_Law_law_161 rfl ?_
        refine jm_iload_n (pc := 162) (q := 3) (x := x3) d_Law_law_162 rfl ?_
        refine jm_iconst (pc := 163) (v := 1) d_Law_law_163 ci_1 ?_
        refine jm_iadd (pc := 164) d_Law_law_164 ?_
        refine jm_sld (pc := 165) d_Law_law_165 rfl (fun v7 => ?_)
        refine jm_aload_n (pc := 166) (q := 0) (x := 0) d_Law_law_166 rfl ?_
        refine jm_iload_n (pc := 167) (q := 3) (x := x3) d_Law_law_167 rfl ?_
        refine jm_iconst (pc := 168) (v := 2) d_Law_law_168 ci_2 ?_
        refine jm_iadd (pc := 169) d_Law_law_169 ?_
        refine jm_sld (pc := 170) d_Law_law_170 rfl (fun v8 => ?_)
        refine jm_i2l (pc := 171) d_Law_law_171 ?_
        refine jm_bipush (pc := 172) (v := 32) d_Law_law_172 cb_32 ?_
        refine jm_lshl (pc := 174) d_Law_law_174 ?_
        refine jm_aload_n (pc := 175) (q := 0) (x := 0) d_Law_law_175 rfl ?_
        refine jm_iload_n (pc := 176) (q := 3) (x := x3) d_Law_law_176 rfl ?_
        refine jm_iconst (pc := 177) (v := 3) d_Law_law_177 ci_3 ?_
        refine jm_iadd (pc := 178) d_Law_law_178 ?_
        refine jm_sld (pc := 179) d_Law_law_179 rfl (fun v9 => ?_)
        refine jm_i2l (pc := 180) d_Law_law_180 ?_
        refine jm_ldc2 (pc := 181) (v := 4294967295) d_Law_law_181 kl_Law_13 ?_
        refine jm_land (pc := 184) d_Law_law_184 ?_
        refine jm_lor (pc := 185) d_Law_law_185 ?_
        refine jm_Vi (pc := 186) (Y' := mY_X_write) (i := 1) (avs := [.int v7, .long ((v8.toInt64 <<< ((32 : Int32).toInt64 &&& 63)) ||| (v9.toInt64 &&& 4294967295))]) (rest := []) (s_X_write_ok s v7 ((v8.toInt64 <<< ((32 : Int32).toInt64 &&& 63)) ||| (v9.toInt64 &&& 4294967295))) ok_X_write (l0_Law__X_write L xs) ml_Law_15 im_X_write se_X_write d_Law_law_186 rfl sh_1 rfl rfl ge_1 le_1_78 rfl (Nat.le_of_ble_eq_true rfl) (Nat.le_of_ble_eq_true rfl) (Nat.le_of_ble_eq_true rfl) (Nat.le_of_ble_eq_true rfl) (fun v10 s11 => ?_)
        refine jm_aload_n (pc := 189) (q := 2) (x := 59) d_Law_law_189 rfl ?_
        refine jm_aload_n (pc := 190) (q := 0) (x := 0) d_Law_law_190 rfl ?_
        refine jm_iload_n (pc := 191) (q := 3) (x := x3) d_Law_law_191 rfl ?_
        refine jm_iconst (pc := 192) (v := 1) d_Law_law_192 ci_1 ?_
        refine jm_iadd (pc := 193) d_Law_law_193 ?_
        refine jm_sld (pc := 194) d_Law_law_194 rfl (fun v12 => ?_)
        refine jm_aload_n (pc := 195) (q := 0) (x := 0) d_Law_law_195 rfl ?_
        refine jm_iload_n (pc := 196) (q := 3) (x := x3) d_Law_law_196 rfl ?_
        refine jm_iconst (pc := 197) (v := 2) d_Law_law_197 ci_2 ?_
        refine jm_iadd (pc := 198) d_Law_law_198 ?_
        refine jm_sld (pc := 199) d_Law_law_199 rfl (fun v13 => ?_)
        refine jm_i2l (pc := 200) d_Law_law_200 ?_
        refine jm_bipush (pc := 201) (v := 32) d_Law_law_201 cb_32 ?_
        refine jm_lshl (pc := 203) d_Law_law_203 ?_
        refine jm_aload_n (pc := 204) (q := 0) (x := 0) d_Law_law_204 rfl ?_
        refine jm_iload_n (pc := 205) (q := 3) (x := x3) d_Law_law_205 rfl ?_
        refine jm_iconst (pc := 206) (v := 3) d_Law_law_206 ci_3 ?_
        refine jm_iadd (pc := 207) d_Law_law_207 ?_
        refine jm_sld (pc := 208) d_Law_law_208 rfl (fun v14 => ?_)
        refine jm_i2l (pc := 209) d_Law_law_209 ?_
        refine jm_ldc2 (pc := 210) (v := 4294967295) d_Law_law_210 kl_Law_13 ?_
        refine jm_land (pc := 213) d_Law_law_213 ?_
        refine jm_lor (pc := 214) d_Law_law_214 ?_
        refine jm_Vi (pc := 215) (Y' := mY_Z_write) (i := 59) (avs := [.int v12, .long ((v13.toInt64 <<< ((32 : Int32).toInt64 &&& 63)) ||| (v14.toInt64 &&& 4294967295))]) (rest := [.int v10]) (s_Z_write_ok s11 v12 ((v13.toInt64 <<< ((32 : Int32).toInt64 &&& 63)) ||| (v14.toInt64 &&& 4294967295))) ok_Z_write (l0_Law__Z_write L xs) ml_Law_19 im_Z_write se_Z_write d_Law_law_215 rfl sh_59 rfl rfl ge_59 le_59_78 rfl (Nat.le_of_ble_eq_true rfl) (Nat.le_of_ble_eq_true rfl) (Nat.le_of_ble_eq_true rfl) (Nat.le_of_ble_eq_true rfl) (fun v15 s16 => ?_)
        refine jm_icmp_eq (pc := 218) (tgt := 964) d_Law_law_218 (by decide) ?_ ?_
        · refine jm_iinc (pc := 964) (q := 3) (x := x3) (v := 6) (L2 := [(3, .int (x3 + 6)), (0, .ref 0), (1, .ref 1), (2, .ref 59)]) d_Law_law_964 rfl ci_6 (Nat.le_of_ble_eq_true rfl) rfl ?_
          refine jm_goto (pc := 967) (tgt := 18) d_Law_law_967 (by decide) ?_
          refine jm_sub (L2 := [(0, .ref 0), (1, .ref 1), (2, .ref 59), (3, .int (x3 + 6))]) [1, 2, 3, 0] rfl ?_
          exact ih (x3 + 6) s16
        · refine jm_iconst (pc := 221) (v := 0) d_Law_law_221 ci_0 ?_
          exact jm_iret (pc := 222) (x := 0) d_Law_law_222 rfl (by decide) rfl rfl rfl
      refine jm_case 1 ?_ (fun h1 => ?_)
      · refine jm_tswIn (pc := 33) (tgt := 223) d_Law_law_33 (by decide) (by decide) (off := 190) (by decide) (by decide) ?_
        refine jm_aload_n (pc := 223) (q := 1) (x := 1) d_Law_law_223 rfl ?_
        refine jm_Vi (pc := 224) (Y' := mY_X_wipe) (i := 1) (avs := []) (rest := []) (s_X_wipe_ok s) ok_X_wipe (l0_Law__X_wipe L xs) ml_Law_20 im_X_wipe se_X_wipe d_Law_law_224 rfl sh_1 rfl rfl ge_1 le_1_78 rfl (Nat.le_of_ble_eq_true rfl) (Nat.le_of_ble_eq_true rfl) (Nat.le_of_ble_eq_true rfl) (Nat.le_of_ble_eq_true rfl) (fun v17 s18 => ?_)
        refine jm_aload_n (pc := 227) (q := 2) (x := 59) d_Law_law_227 rfl ?_
        refine jm_Vi (pc := 228) (Y' := mY_Z_wipe) (i := 59) (avs := []) (rest := [.int v17]) (s_Z_wipe_ok s18) ok_Z_wipe (l0_Law__Z_wipe L xs) ml_Law_24 im_Z_wipe se_Z_wipe d_Law_law_228 rfl sh_59 rfl rfl ge_59 le_59_78 rfl (Nat.le_of_ble_eq_true rfl) (Nat.le_of_ble_eq_true rfl) (Nat.le_of_ble_eq_true rfl) (Nat.le_of_ble_eq_true rfl) (fun v19 s20 => ?_)
        refine jm_icmp_eq (pc := 231) (tgt := 964) d_Law_law_231 (by decide) ?_ ?_
        · refine jm_iinc (pc := 964) (q := 3) (x := x3) (v := 6) (L2 := [(3, .int (x3 + 6)), (0, .ref 0), (1, .ref 1), (2, .ref 59)]) d_Law_law_964 rfl ci_6 (Nat.le_of_ble_eq_true rfl) rfl ?_
          refine jm_goto (pc := 967) (tgt := 18) d_Law_law_967 (by decide) ?_
          refine jm_sub (L2 := [(0, .ref 0), (1, .ref 1), (2, .ref 59), (3, .int (x3 + 6))]) [1, 2, 3, 0] rfl ?_
          exact ih (x3 + 6) s20
        · refine jm_iconst (pc := 234) (v := 0) d_Law_law_234 ci_0 ?_
          exact jm_iret (pc := 235) (x := 0) d_Law_law_235 rfl (by decide) rfl rfl rfl
      refine jm_case 2 ?_ (fun h2 => ?_)
      · refine jm_tswIn (pc := 33) (tgt := 236) d_Law_law_33 (by decide) (by decide) (off := 203) (by decide) (by decide) ?_
        refine jm_aload_n (pc := 236) (q := 1) (x := 1) d_Law_law_236 rfl ?_
        refine jm_Vi (pc := 237) (Y' := mY_X_fault) (i := 1) (avs := []) (rest := []) (s_X_fault_ok s) ok_X_fault (l0_Law__X_fault L xs) ml_Law_25 im_X_fault se_X_fault d_Law_law_237 rfl sh_1 rfl rfl ge_1 le_1_78 rfl (Nat.le_of_ble_eq_true rfl) (Nat.le_of_ble_eq_true rfl) (Nat.le_of_ble_eq_true rfl) (Nat.le_of_ble_eq_true rfl) (fun v21 s22 => ?_)
        refine jm_aload_n (pc := 240) (q := 2) (x := 59) d_Law_law_240 rfl ?_
        refine jm_Vi (pc := 241) (Y' := mY_Z_fault) (i := 59) (avs := []) (rest := [.int v21]) (s_Z_fault_ok s22) ok_Z_fault (l0_Law__Z_fault L xs) ml_Law_28 im_Z_fault se_Z_fault d_Law_law_241 rfl sh_59 rfl rfl ge_59 le_59_78 rfl (Nat.le_of_ble_eq_true rfl) (Nat.le_of_ble_eq_true rfl) (Nat.le_of_ble_eq_true rfl) (Nat.le_of_ble_eq_true rfl) (fun v23 s24 => ?_)
        refine jm_icmp_eq (pc := 244) (tgt := 964) d_Law_law_244 (by decide) ?_ ?_
        · refine jm_iinc (pc := 964) (q := 3) (x := x3) (v := 6) (L2 := [(3, .int (x3 + 6)), (0, .ref 0), (1, .ref 1), (2, .ref 59)]) d_Law_law_964 rfl ci_6 (Nat.le_of_ble_eq_true rfl) rfl ?_
          refine jm_goto (pc := 967) (tgt := 18) d_Law_law_967 (by decide) ?_
          refine jm_sub (L2 := [(0, .ref 0), (1, .ref 1), (2, .ref 59), (3, .int (x3 + 6))]) [1, 2, 3, 0] rfl ?_
          exact ih (x3 + 6) s24
        · refine jm_iconst (pc := 247) (v := 0) d_Law_law_247 ci_0 ?_
          exact jm_iret (pc := 248) (x := 0) d_Law_law_248 rfl (by decide) rfl rfl rfl
      refine jm_case 3 ?_ (fun h3 => ?_)
      · refine jm_tswIn (pc := 33) (tgt := 249) d_Law_law_33 (by decide) (by decide) (off := 216) (by decide) (by decide) ?_
        refine jm_aload_n (pc := 249) (q := 1) (x := 1) d_Law_law_249 rfl ?_
        refine jm_Vi (pc := 250) (Y' := mY_X_lay) (i := 1) (avs := []) (rest := []) (s_X_lay_ok s) ok_X_lay (l0_Law__X_lay L xs) ml_Law_29 im_X_lay se_X_lay d_Law_law_250 rfl sh_1 rfl rfl ge_1 le_1_78 rfl (Nat.le_of_ble_eq_true rfl) (Nat.le_of_ble_eq_true rfl) (Nat.le_of_ble_eq_true rfl) (Nat.le_of_ble_eq_true rfl) (fun v25 s26 => ?_)
        refine jm_aload_n (pc := 253) (q := 2) (x := 59) d_Law_law_253 rfl ?_
        refine jm_Vi (pc := 254) (Y' := mY_Z_lay) (i := 59) (avs := []) (rest := [.int v25]) (s_Z_lay_ok s26) ok_Z_lay (l0_Law__Z_lay L xs) ml_Law_32 im_Z_lay se_Z_lay d_Law_law_254 rfl sh_59 rfl rfl ge_59 le_59_78 rfl (Nat.le_of_ble_eq_true rfl) (Nat.le_of_ble_eq_true rfl) (Nat.le_of_ble_eq_true rfl) (Nat.le_of_ble_eq_true rfl) (fun v27 s28 => ?_)
        refine jm_icmp_eq (pc := 257) (tgt := 964) d_Law_law_257 (by decide) ?_ ?_
        · refine jm_iinc (pc := 964) (q := 3) (x := x3) (v := 6) (L2 := [(3, .int (x3 + 6)), (0, .ref 0), (1, .ref 1), (2, .ref 59)]) d_Law_law_964 rfl ci_6 (Nat.le_of_ble_eq_true rfl) rfl ?_
          refine jm_goto (pc := 967) (tgt := 18) d_Law_law_967 (by decide) ?_
          refine jm_sub (L2 := [(0, .ref 0), (1, .ref 1), (2, .ref 59), (3, .int (x3 + 6))]) [1, 2, 3, 0] rfl ?_
          exact ih (x3 + 6) s28
        · refine jm_iconst (pc := 260) (v := 0) d_Law_law_260 ci_0 ?_
          exact jm_iret (pc := 261) (x := 0) d_Law_law_261 rfl (by decide) rfl rfl rfl
      refine jm_case 4 ?_ (fun h4 => ?_)
      · refine jm_tswIn (pc := 33) (tgt := 262) d_Law_law_33 (by decide) (by decide) (off := 229) (by decide) (by decide) ?_
        refine jm_aload_n (pc := 262) (q := 1) (x := 1) d_Law_law_262 rfl ?_
        refine jm_aload_n (pc := 263) (q := 0) (x := 0) d_Law_law_263 rfl ?_
        refine jm_iload_n (pc := 264) (q := 3) (x := x3) d_Law_law_264 rfl ?_
        refine jm_iconst (pc := 265) (v := 1) d_Law_law_265 ci_1 ?_
        refine jm_iadd (pc := 266) d_Law_law_266 ?_
        refine jm_sld (pc := 267) d_Law_law_267 rfl (fun v29 => ?_)
        refine jm_aload_n (pc := 268) (q := 0) (x := 0) d_Law_law_268 rfl ?_
        refine jm_iload_n (pc := 269) (q := 3) (x := x3) d_Law_law_269 rfl ?_
        refine jm_iconst (pc := 270) (v := 2) d_Law_law_270 ci_2 ?_
        refine jm_iadd (pc := 271) d_Law_law_271 ?_
        refine jm_sld (pc := 272) d_Law_law_272 rfl (fun v30 => ?_)
        refine jm_Vp (pc := 273) (Y' := mY_X_hill) (i := 1) (avs := [.int v29, .int v30]) (rest := []) (s_X_hill_ok s v29 v30) ok_X_hill (l0_Law__X_hill L xs) ml_Law_33 im_X_hill se_X_hill d_Law_law_273 rfl sh_1 rfl rfl ge_1 le_1_78 rfl (Nat.le_of_ble_eq_true rfl) (Nat.le_of_ble_eq_true rfl) (Nat.le_of_ble_eq_true rfl) (Nat.le_of_ble_eq_true rfl) (fun v31 => ?_)
        refine jm_aload_n (pc := 276) (q := 2) (x := 59) d_Law_law_276 rfl ?_
        refine jm_aload_n (pc := 277) (q := 0) (x := 0) d_Law_law_277 rfl ?_
        refine jm_iload_n (pc := 278) (q := 3) (x := x3) d_Law_law_278 rfl ?_
        refine jm_iconst (pc := 279) (v := 1) d_Law_law_279 ci_1 ?_
        refine jm_iadd (pc := 280) d_Law_law_280 ?_
        refine jm_sld (pc := 281) d_Law_law_281 rfl (fun v32 => ?_)
        refine jm_aload_n (pc := 282) (q := 0) (x := 0) d_Law_law_282 rfl ?_
        refine jm_iload_n (pc := 283) (q := 3) (x := x3) d_Law_law_283 rfl ?_
        refine jm_iconst (pc := 284) (v := 2) d_Law_law_284 ci_2 ?_
        refine jm_iadd (pc := 285) d_Law_law_285 ?_
        refine jm_sld (pc := 286) d_Law_law_286 rfl (fun v33 => ?_)
        refine jm_Vp (pc := 287) (Y' := mY_Z_hill) (i := 59) (avs := [.int v32, .int v33]) (rest := [.int v31]) (s_Z_hill_ok s v32 v33) ok_Z_hill (l0_Law__Z_hill L xs) ml_Law_37 im_Z_hill se_Z_hill d_Law_law_287 rfl sh_59 rfl rfl ge_59 le_59_78 rfl (Nat.le_of_ble_eq_true rfl) (Nat.le_of_ble_eq_true rfl) (Nat.le_of_ble_eq_true rfl) (Nat.le_of_ble_eq_true rfl) (fun v34 => ?_)
        refine jm_icmp_eq (pc := 290) (tgt := 964) d_Law_law_290 (by decide) ?_ ?_
        · refine jm_iinc (pc := 964) (q := 3) (x := x3) (v := 6) (L2 := [(3, .int (x3 + 6)), (0, .ref 0), (1, .ref 1), (2, .ref 59)]) d_Law_law_964 rfl ci_6 (Nat.le_of_ble_eq_true rfl) rfl ?_
          refine jm_goto (pc := 967) (tgt := 18) d_Law_law_967 (by decide) ?_
          refine jm_sub (L2 := [(0, .ref 0), (1, .ref 1), (2, .ref 59), (3, .int (x3 + 6))]) [1, 2, 3, 0] rfl ?_
          exact ih (x3 + 6) s
        · refine jm_iconst (pc := 293) (v := 0) d_Law_law_293 ci_0 ?_
          exact jm_iret (pc := 294) (x := 0) d_Law_law_294 rfl (by decide) rfl rfl rfl
      refine jm_case 5 ?_ (fun h5 => ?_)
      · refine jm_tswIn (pc := 33) (tgt := 295) d_Law_law_33 (by decide) (by decide) (off := 262) (by decide) (by decide) ?_
        refine jm_aload_n (pc := 295) (q := 1) (x := 1) d_Law_law_295 rfl ?_
        refine jm_aload_n (pc := 296) (q := 0) (x := 0) d_Law_law_296 rfl ?_
        refine jm_iload_n (pc := 297) (q := 3) (x := x3) d_Law_law_297 rfl ?_
        refine jm_iconst (pc := 298) (v := 1) d_Law_law_298 ci_1 ?_
        refine jm_iadd (pc := 299) d_Law_law_299 ?_
        refine jm_sld (pc := 300) d_Law_law_300 rfl (fun v35 => ?_)
        refine jm_aload_n (pc := 301) (q := 0) (x := 0) d_Law_law_301 rfl ?_
        refine jm_iload_n (pc := 302) (q := 3) (x := x3) d_Law_law_302 rfl ?_
        refine jm_iconst (pc := 303) (v := 2) d_Law_law_303 ci_2 ?_
        refine jm_iadd (pc := 304) d_Law_law_304 ?_
        refine jm_sld (pc := 305) d_Law_law_305 rfl (fun v36 => ?_)
        refine jm_aload_n (pc := 306) (q := 0) (x := 0) d_Law_law_306 rfl ?_
        refine jm_iload_n (pc := 307) (q := 3) (x := x3) d_Law_law_307 rfl ?_
        refine jm_iconst (pc := 308) (v := 3) d_Law_law_308 ci_3 ?_
        refine jm_iadd (pc := 309) d_Law_law_309 ?_
        refine jm_sld (pc := 310) d_Law_law_310 rfl (fun v37 => ?_)
        refine jm_Vi (pc := 311) (Y' := mY_X_ship) (i := 1) (avs := [.int v35, .int v36, .int v37]) (rest := []) (s_X_ship_ok s v35 v36 v37) ok_X_ship (l0_Law__X_ship L xs) ml_Law_38 im_X_ship se_X_ship d_Law_law_311 rfl sh_1 rfl rfl ge_1 le_1_78 rfl (Nat.le_of_ble_eq_true rfl) (Nat.le_of_ble_eq_true rfl) (Nat.le_of_ble_eq_true rfl) (Nat.le_of_ble_eq_true rfl) (fun v38 s39 => ?_)
        refine jm_aload_n (pc := 314) (q := 2) (x := 59) d_Law_law_314 rfl ?_
        refine jm_aload_n (pc := 315) (q := 0) (x := 0) d_Law_law_315 rfl ?_
        refine jm_iload_n (pc := 316) (q := 3) (x := x3) d_Law_law_316 rfl ?_
        refine jm_iconst (pc := 317) (v := 1) d_Law_law_317 ci_1 ?_
        refine jm_iadd (pc := 318) d_Law_law_318 ?_
        refine jm_sld (pc := 319) d_Law_law_319 rfl (fun v40 => ?_)
        refine jm_aload_n (pc := 320) (q := 0) (x := 0) d_Law_law_320 rfl ?_
        refine jm_iload_n (pc := 321) (q := 3) (x := x3) d_Law_law_321 rfl ?_
        refine jm_iconst (pc := 322) (v := 2) d_Law_law_322 ci_2 ?_
        refine jm_iadd (pc := 323) d_Law_law_323 ?_
        refine jm_sld (pc := 324) d_Law_law_324 rfl (fun v41 => ?_)
        refine jm_aload_n (pc := 325) (q := 0) (x := 0) d_Law_law_325 rfl ?_
        refine jm_iload_n (pc := 326) (q := 3) (x := x3) d_Law_law_326 rfl ?_
        refine jm_iconst (pc := 327) (v := 3) d_Law_law_327 ci_3 ?_
        refine jm_iadd (pc := 328) d_Law_law_328 ?_
        refine jm_sld (pc := 329) d_Law_law_329 rfl (fun v42 => ?_)
        refine jm_Vi (pc := 330) (Y' := mY_Z_ship) (i := 59) (avs := [.int v40, .int v41, .int v42]) (rest := [.int v38]) (s_Z_ship_ok s39 v40 v41 v42) ok_Z_ship (l0_Law__Z_ship L xs) ml_Law_42 im_Z_ship se_Z_ship d_Law_law_330 rfl sh_59 rfl rfl ge_59 le_59_78 rfl (Nat.le_of_ble_eq_true rfl) (Nat.le_of_ble_eq_true rfl) (Nat.le_of_ble_eq_true rfl) (Nat.le_of_ble_eq_true rfl) (fun v43 s44 => ?_)
        refine jm_icmp_eq (pc := 333) (tgt := 964) d_Law_law_333 (by decide) ?_ ?_
        · refine jm_iinc (pc := 964) (q := 3) (x := x3) (v := 6) (L2 := [(3, .int (x3 + 6)), (0, .ref 0), (1, .ref 1), (2, .ref 59)]) d_Law_law_964 rfl ci_6 (Nat.le_of_ble_eq_true rfl) rfl ?_
          refine jm_goto (pc := 967) (tgt := 18) d_Law_law_967 (by decide) ?_
          refine jm_sub (L2 := [(0, .ref 0), (1, .ref 1), (2, .ref 59), (3, .int (x3 + 6))]) [1, 2, 3, 0] rfl ?_
          exact ih (x3 + 6) s44
        · refine jm_iconst (pc := 336) (v := 0) d_Law_law_336 ci_0 ?_
          exact jm_iret (pc := 337) (x := 0) d_Law_law_337 rfl (by decide) rfl rfl rfl
      refine jm_case 6 ?_ (fun h6 => ?_)
      · refine jm_tswIn (pc := 33) (tgt := 338) d_Law_law_33 (by decide) (by decide) (off := 305) (by decide) (by decide) ?_
        refine jm_aload_n (pc := 338) (q := 1) (x := 1) d_Law_law_338 rfl ?_
        refine jm_aload_n (pc := 339) (q := 0) (x := 0) d_Law_law_339 rfl ?_
        refine jm_iload_n (pc := 340) (q := 3) (x := x3) d_Law_law_340 rfl ?_
        refine jm_iconst (pc := 341) (v := 1) d_Law_law_341 ci_1 ?_
        refine jm_iadd (pc := 342) d_Law_law_342 ?_
        refine jm_sld (pc := 343) d_Law_law_343 rfl (fun v45 => ?_)
        refine jm_aload_n (pc := 344) (q := 0) (x := 0) d_Law_law_344 rfl ?_
        refine jm_iload_n (pc := 345) (q := 3) (x := x3) d_Law_law_345 rfl ?_
        refine jm_iconst (pc := 346) (v := 2) d_Law_law_346 ci_2 ?_
        refine jm_iadd (pc := 347) d_Law_law_347 ?_
        refine jm_sld (pc := 348) d_Law_law_348 rfl (fun v46 => ?_)
        refine jm_Vi (pc := 349) (Y' := mY_X_burns) (i := 1) (avs := [.int v45, .int v46]) (rest := []) (s_X_burns_ok s v45 v46) ok_X_burns (l0_Law__X_burns L xs) ml_Law_43 im_X_burns se_X_burns d_Law_law_349 rfl sh_1 rfl rfl ge_1 le_1_78 rfl (Nat.le_of_ble_eq_true rfl) (Nat.le_of_ble_eq_true rfl) (Nat.le_of_ble_eq_true rfl) (Nat.le_of_ble_eq_true rfl) (fun v47 s48 => ?_)
        refine jm_aload_n (pc := 352) (q := 2) (x := 59) d_Law_law_352 rfl ?_
        refine jm_aload_n (pc := 353) (q := 0) (x := 0) d_Law_law_353 rfl ?_
        refine jm_iload_n (pc := 354) (q := 3) (x := x3) d_Law_law_354 rfl ?_
        refine jm_iconst (pc := 355) (v := 1) d_Law_law_355 ci_1 ?_
        refine jm_iadd (pc := 356) d_Law_law_356 ?_
        refine jm_sld (pc := 357) d_Law_law_357 rfl (fun v49 => ?_)
        refine jm_aload_n (pc := 358) (q := 0) (x := 0) d_Law_law_358 rfl ?_
        refine jm_iload_n (pc := 359) (q := 3) (x := x3) d_Law_law_359 rfl ?_
        refine jm_iconst (pc := 360) (v := 2) d_Law_law_360 ci_2 ?_
        refine jm_iadd (pc := 361) d_Law_law_361 ?_
        refine jm_sld (pc := 362) d_Law_law_362 rfl (fun v50 => ?_)
        refine jm_Vi (pc := 363) (Y' := mY_Z_burns) (i := 59) (avs := [.int v49, .int v50]) (rest := [.int v47]) (s_Z_burns_ok s48 v49 v50) ok_Z_burns (l0_Law__Z_burns L xs) ml_Law_46 im_Z_burns se_Z_burns d_Law_law_363 rfl sh_59 rfl rfl ge_59 le_59_78 rfl (Nat.le_of_ble_eq_true rfl) (Nat.le_of_ble_eq_true rfl) (Nat.le_of_ble_eq_true rfl) (Nat.le_of_ble_eq_true rfl) (fun v51 s52 => ?_)
        refine jm_icmp_eq (pc := 366) (tgt := 964) d_Law_law_366 (by decide) ?_ ?_
        · refine jm_iinc (pc := 964) (q := 3) (x := x3) (v := 6) (L2 := [(3, .int (x3 + 6)), (0, .ref 0), (1, .ref 1), (2, .ref 59)]) d_Law_law_964 rfl ci_6 (Nat.le_of_ble_eq_true rfl) rfl ?_
          refine jm_goto (pc := 967) (tgt := 18) d_Law_law_967 (by decide) ?_
          refine jm_sub (L2 := [(0, .ref 0), (1, .ref 1), (2, .ref 59), (3, .int (x3 + 6))]) [1, 2, 3, 0] rfl ?_
          exact ih (x3 + 6) s52
        · refine jm_iconst (pc := 369) (v := 0) d_Law_law_369 ci_0 ?_
          exact jm_iret (pc := 370) (x := 0) d_Law_law_370 rfl (by decide) rfl rfl rfl
      refine jm_case 7 ?_ (fun h7 => ?_)
      · refine jm_tswIn (pc := 33) (tgt := 371) d_Law_law_33 (by decide) (by decide) (off := 338) (by decide) (by decide) ?_
        refine jm_aload_n (pc := 371) (q := 1) (x := 1) d_Law_law_371 rfl ?_
        refine jm_aload_n (pc := 372) (q := 0) (x := 0) d_Law_law_372 rfl ?_
        refine jm_iload_n (pc := 373) (q := 3) (x := x3) d_Law_law_373 rfl ?_
        refine jm_iconst (pc := 374) (v := 1) d_Law_law_374 ci_1 ?_
        refine jm_iadd (pc := 375) d_Law_law_375 ?_
        refine jm_sld (pc := 376) d_Law_law_376 rfl (fun v53 => ?_)
        refine jm_Vi (pc := 377) (Y' := mY_X_seen) (i := 1) (avs := [.int v53]) (rest := []) (s_X_seen_ok s v53) ok_X_seen (l0_Law__X_seen L xs) ml_Law_47 im_X_seen se_X_seen d_Law_law_377 rfl sh_1 rfl rfl ge_1 le_1_78 rfl (Nat.le_of_ble_eq_true rfl) (Nat.le_of_ble_eq_true rfl) (Nat.le_of_ble_eq_true rfl) (Nat.le_of_ble_eq_true rfl) (fun v54 s55 => ?_)
        refine jm_aload_n (pc := 380) (q := 2) (x := 59) d_Law_law_380 rfl ?_
        refine jm_aload_n (pc := 381) (q := 0) (x := 0) d_Law_law_381 rfl ?_
        refine jm_iload_n (pc := 382) (q := 3) (x := x3) d_Law_law_382 rfl ?_
        refine jm_iconst (pc := 383) (v := 1) d_Law_law_383 ci_1 ?_
        refine jm_iadd (pc := 384) d_Law_law_384 ?_
        refine jm_sld (pc := 385) d_Law_law_385 rfl (fun v56 => ?_)
        refine jm_Vi (pc := 386) (Y' := mY_Z_seen) (i := 59) (avs := [.int v56]) (rest := [.int v54]) (s_Z_seen_ok s55 v56) ok_Z_seen (l0_Law__Z_seen L xs) ml_Law_51 im_Z_seen se_Z_seen d_Law_law_386 rfl sh_59 rfl rfl ge_59 le_59_78 rfl (Nat.le_of_ble_eq_true rfl) (Nat.le_of_ble_eq_true rfl) (Nat.le_of_ble_eq_true rfl) (Nat.le_of_ble_eq_true rfl) (fun v57 s58 => ?_)
        refine jm_icmp_eq (pc := 389) (tgt := 964) d_Law_law_389 (by decide) ?_ ?_
        · refine jm_iinc (pc := 964) (q := 3) (x := x3) (v := 6) (L2 := [(3, .int (x3 + 6)), (0, .ref 0), (1, .ref 1), (2, .ref 59)]) d_Law_law_964 rfl ci_6 (Nat.le_of_ble_eq_true rfl) rfl ?_
          refine jm_goto (pc := 967) (tgt := 18) d_Law_law_967 (by decide) ?_
          refine jm_sub (L2 := [(0, .ref 0), (1, .ref 1), (2, .ref 59), (3, .int (x3 + 6))]) [1, 2, 3, 0] rfl ?_
          exact ih (x3 + 6) s58
        · refine jm_iconst (pc := 392) (v := 0) d_Law_law_392 ci_0 ?_
          exact jm_iret (pc := 393) (x := 0) d_Law_law_393 rfl (by decide) rfl rfl rfl
      refine jm_case 8 ?_ (fun h8 => ?_)
      · refine jm_tswIn (pc := 33) (tgt := 394) d_Law_law_33 (by decide) (by decide) (off := 361) (by decide) (by decide) ?_
        refine jm_aload_n (pc := 394) (q := 1) (x := 1) d_Law_law_394 rfl ?_
        refine jm_aload_n (pc := 395) (q := 0) (x := 0) d_Law_law_395 rfl ?_
        refine jm_iload_n (pc := 396) (q := 3) (x := x3) d_Law_law_396 rfl ?_
        refine jm_iconst (pc := 397) (v := 1) d_Law_law_397 ci_1 ?_
        refine jm_iadd (pc := 398) d_Law_law_398 ?_
        refine jm_sld (pc := 399) d_Law_law_399 rfl (fun v59 => ?_)
        refine jm_Vi (pc := 400) (Y' := mY_X_wood) (i := 1) (avs := [.int v59]) (rest := []) (s_X_wood_ok s v59) ok_X_wood (l0_Law__X_wood L xs) ml_Law_52 im_X_wood se_X_wood d_Law_law_400 rfl sh_1 rfl rfl ge_1 le_1_78 rfl (Nat.le_of_ble_eq_true rfl) (Nat.le_of_ble_eq_true rfl) (Nat.le_of_ble_eq_true rfl) (Nat.le_of_ble_eq_true rfl) (fun v60 s61 => ?_)
        refine jm_aload_n (pc := 403) (q := 2) (x := 59) d_Law_law_403 rfl ?_
        refine jm_aload_n (pc := 404) (q := 0) (x := 0) d_Law_law_404 rfl ?_
        refine jm_iload_n (pc := 405) (q := 3) (x := x3) d_Law_law_405 rfl ?_
        refine jm_iconst (pc := 406) (v := 1) d_Law_law_406 ci_1 ?_
        refine jm_iadd (pc := 407) d_Law_law_407 ?_
        refine jm_sld (pc := 408) d_Law_law_408 rfl (fun v62 => ?_)
        refine jm_Vi (pc := 409) (Y' := mY_Z_wood) (i := 59) (avs := [.int v62]) (rest := [.int v60]) (s_Z_wood_ok s61 v62) ok_Z_wood (l0_Law__Z_wood L xs) ml_Law_55 im_Z_wood se_Z_wood d_Law_law_409 rfl sh_59 rfl rfl ge_59 le_59_78 rfl (Nat.le_of_ble_eq_true rfl) (Nat.le_of_ble_eq_true rfl) (Nat.le_of_ble_eq_true rfl) (Nat.le_of_ble_eq_true rfl) (fun v63 s64 => ?_)
        refine jm_icmp_eq (pc := 412) (tgt := 964) d_Law_law_412 (by decide) ?_ ?_
        · refine jm_iinc (pc := 964) (q := 3) (x := x3) (v := 6) (L2 := [(3, .int (x3 + 6)), (0, .ref 0), (1, .ref 1), (2, .ref 59)]) d_Law_law_964 rfl ci_6 (Nat.le_of_ble_eq_true rfl) rfl ?_
          refine jm_goto (pc := 967) (tgt := 18) d_Law_law_967 (by decide) ?_
          refine jm_sub (L2 := [(0, .ref 0), (1, .ref 1), (2, .ref 59), (3, .int (x3 + 6))]) [1, 2, 3, 0] rfl ?_
          exact ih (x3 + 6) s64
        · refine jm_iconst (pc := 415) (v := 0) d_Law_law_415 ci_0 ?_
          exact jm_iret (pc := 416) (x := 0) d_Law_law_416 rfl (by decide) rfl rfl rfl
      refine jm_case 9 ?_ (fun h9 => ?_)
      · refine jm_tswIn (pc := 33) (tgt := 417) d_Law_law_33 (by decide) (by decide) (off := 384) (by decide) (by decide) ?_
        refine jm_aload_n (pc := 417) (q := 1) (x := 1) d_Law_law_417 rfl ?_
        refine jm_Vi (pc := 418) (Y' := mY_X_alarm) (i := 1) (avs := []) (rest := []) (s_X_alarm_ok s) ok_X_alarm (l0_Law__X_alarm L xs) ml_Law_56 im_X_alarm se_X_alarm d_Law_law_418 rfl sh_1 rfl rfl ge_1 le_1_78 rfl (Nat.le_of_ble_eq_true rfl) (Nat.le_of_ble_eq_true rfl) (Nat.le_of_ble_eq_true rfl) (Nat.le_of_ble_eq_true rfl) (fun v65 s66 => ?_)
        refine jm_aload_n (pc := 421) (q := 2) (x := 59) d_Law_law_421 rfl ?_
        refine jm_Vi (pc := 422) (Y' := mY_Z_alarm) (i := 59) (avs := []) (rest := [.int v65]) (s_Z_alarm_ok s66) ok_Z_alarm (l0_Law__Z_alarm L xs) ml_Law_59 im_Z_alarm se_Z_alarm d_Law_law_422 rfl sh_59 rfl rfl ge_59 le_59_78 rfl (Nat.le_of_ble_eq_true rfl) (Nat.le_of_ble_eq_true rfl) (Nat.le_of_ble_eq_true rfl) (Nat.le_of_ble_eq_true rfl) (fun v67 s68 => ?_)
        refine jm_icmp_eq (pc := 425) (tgt := 964) d_Law_law_425 (by decide) ?_ ?_
        · refine jm_iinc (pc := 964) (q := 3) (x := x3) (v := 6) (L2 := [(3, .int (x3 + 6)), (0, .ref 0), (1, .ref 1), (2, .ref 59)]) d_Law_law_964 rfl ci_6 (Nat.le_of_ble_eq_true rfl) rfl ?_
          refine jm_goto (pc := 967) (tgt := 18) d_Law_law_967 (by decide) ?_
          refine jm_sub (L2 := [(0, .ref 0), (1, .ref 1), (2, .ref 59), (3, .int (x3 + 6))]) [1, 2, 3, 0] rfl ?_
          exact ih (x3 + 6) s68
        · refine jm_iconst (pc := 428) (v := 0) d_Law_law_428 ci_0 ?_
          exact jm_iret (pc := 429) (x := 0) d_Law_law_429 rfl (by decide) rfl rfl rfl
      refine jm_case 10 ?_ (fun h10 => ?_)
      · refine jm_tswIn (pc := 33) (tgt := 430) d_Law_law_33 (by decide) (by decide) (off := 397) (by decide) (by decide) ?_
        refine jm_aload_n (pc := 430) (q := 1) (x := 1) d_Law_law_430 rfl ?_
        refine jm_aload_n (pc := 431) (q := 0) (x := 0) d_Law_law_431 rfl ?_
        refine jm_iload_n (pc := 432) (q := 3) (x := x3) d_Law_law_432 rfl ?_
        refine jm_iconst (pc := 433) (v := 1) d_Law_law_433 ci_1 ?_
        refine jm_iadd (pc := 434) d_Law_law_434 ?_
        refine jm_sld (pc := 435) d_Law_law_435 rfl (fun v69 => ?_)
        refine jm_Vi (pc := 436) (Y' := mY_X_falseBy) (i := 1) (avs := [.int v69]) (rest := []) (s_X_falseBy_ok s v69) ok_X_falseBy (l0_Law__X_falseBy L xs) ml_Law_60 im_X_falseBy se_X_falseBy d_Law_law_436 rfl sh_1 rfl rfl ge_1 le_1_78 rfl (Nat.le_of_ble_eq_true rfl) (Nat.le_of_ble_eq_true rfl) (Nat.le_of_ble_eq_true rfl) (Nat.le_of_ble_eq_true rfl) (fun v70 s71 => ?_)
        refine jm_aload_n (pc := 439) (q := 2) (x := 59) d_Law_law_439 rfl ?_
        refine jm_aload_n (pc := 440) (q := 0) (x := 0) d_Law_law_440 rfl ?_
        refine jm_iload_n (pc := 441) (q := 3) (x := x3) d_Law_law_441 rfl ?_
        refine jm_iconst (pc := 442) (v := 1) d_Law_law_442 ci_1 ?_
        refine jm_iadd (pc := 443) d_Law_law_443 ?_
        refine jm_sld (pc := 444) d_Law_law_444 rfl (fun v72 => ?_)
        refine jm_Vi (pc := 445) (Y' := mY_Z_falseBy) (i := 59) (avs := [.int v72]) (rest := [.int v70]) (s_Z_falseBy_ok s71 v72) ok_Z_falseBy (l0_Law__Z_falseBy L xs) ml_Law_63 im_Z_falseBy se_Z_falseBy d_Law_law_445 rfl sh_59 rfl rfl ge_59 le_59_78 rfl (Nat.le_of_ble_eq_true rfl) (Nat.le_of_ble_eq_true rfl) (Nat.le_of_ble_eq_true rfl) (Nat.le_of_ble_eq_true rfl) (fun v73 s74 => ?_)
        refine jm_icmp_eq (pc := 448) (tgt := 964) d_Law_law_448 (by decide) ?_ ?_
        · refine jm_iinc (pc := 964) (q := 3) (x := x3) (v := 6) (L2 := [(3, .int (x3 + 6)), (0, .ref 0), (1, .ref 1), (2, .ref 59)]) d_Law_law_964 rfl ci_6 (Nat.le_of_ble_eq_true rfl) rfl ?_
          refine jm_goto (pc := 967) (tgt := 18) d_Law_law_967 (by decide) ?_
          refine jm_sub (L2 := [(0, .ref 0), (1, .ref 1), (2, .ref 59), (3, .int (x3 + 6))]) [1, 2, 3, 0] rfl ?_
          exact ih (x3 + 6) s74
        · refine jm_iconst (pc := 451) (v := 0) d_Law_law_451 ci_0 ?_
          exact jm_iret (pc := 452) (x := 0) d_Law_law_452 rfl (by decide) rfl rfl rfl
      refine jm_case 11 ?_ (fun h11 => ?_)
      · refine jm_tswIn (pc := 33) (tgt := 453) d_Law_law_33 (by decide) (by decide) (off := 420) (by decide) (by decide) ?_
        refine jm_aload_n (pc := 453) (q := 1) (x := 1) d_Law_law_453 rfl ?_
        refine jm_aload_n (pc := 454) (q := 0) (x := 0) d_Law_law_454 rfl ?_
        refine jm_iload_n (pc := 455) (q := 3) (x := x3) d_Law_law_455 rfl ?_
        refine jm_iconst (pc := 456) (v := 1) d_Law_law_456 ci_1 ?_
        refine jm_iadd (pc := 457) d_Law_law_457 ?_
        refine jm_sld (pc := 458) d_Law_law_458 rfl (fun v75 => ?_)
        refine jm_aload_n (pc := 459) (q := 0) (x := 0) d_Law_law_459 rfl ?_
        refine jm_iload_n (pc := 460) (q := 3) (x := x3) d_Law_law_460 rfl ?_
        refine jm_iconst (pc := 461) (v := 2) d_Law_law_461 ci_2 ?_
        refine jm_iadd (pc := 462) d_Law_law_462 ?_
        refine jm_sld (pc := 463) d_Law_law_463 rfl (fun v76 => ?_)
        refine jm_Vi (pc := 464) (Y' := mY_X_falseFor) (i := 1) (avs := [.int v75, .int v76]) (rest := []) (s_X_falseFor_ok s v75 v76) ok_X_falseFor (l0_Law__X_falseFor L xs) ml_Law_64 im_X_falseFor se_X_falseFor d_Law_law_464 rfl sh_1 rfl rfl ge_1 le_1_78 rfl (Nat.le_of_ble_eq_true rfl) (Nat.le_of_ble_eq_true rfl) (Nat.le_of_ble_eq_true rfl) (Nat.le_of_ble_eq_true rfl) (fun v77 s78 => ?_)
        refine jm_aload_n (pc := 467) (q := 2) (x := 59) d_Law_law_467 rfl ?_
        refine jm_aload_n (pc := 468) (q := 0) (x := 0) d_Law_law_468 rfl ?_
        refine jm_iload_n (pc := 469) (q := 3) (x := x3) d_Law_law_469 rfl ?_
        refine jm_iconst (pc := 470) (v := 1) d_Law_law_470 ci_1 ?_
        refine jm_iadd (pc := 471) d_Law_law_471 ?_
        refine jm_sld (pc := 472) d_Law_law_472 rfl (fun v79 => ?_)
        refine jm_aload_n (pc := 473) (q := 0) (x := 0) d_Law_law_473 rfl ?_
        refine jm_iload_n (pc := 474) (q := 3) (x := x3) d_Law_law_474 rfl ?_
        refine jm_iconst (pc := 475) (v := 2) d_Law_law_475 ci_2 ?_
        refine jm_iadd (pc := 476) d_Law_law_476 ?_
        refine jm_sld (pc := 477) d_Law_law_477 rfl (fun v80 => ?_)
        refine jm_Vi (pc := 478) (Y' := mY_Z_falseFor) (i := 59) (avs := [.int v79, .int v80]) (rest := [.int v77]) (s_Z_falseFor_ok s78 v79 v80) ok_Z_falseFor (l0_Law__Z_falseFor L xs) ml_Law_67 im_Z_falseFor se_Z_falseFor d_Law_law_478 rfl sh_59 rfl rfl ge_59 le_59_78 rfl (Nat.le_of_ble_eq_true rfl) (Nat.le_of_ble_eq_true rfl) (Nat.le_of_ble_eq_true rfl) (Nat.le_of_ble_eq_true rfl) (fun v81 s82 => ?_)
        refine jm_icmp_eq (pc := 481) (tgt := 964) d_Law_law_481 (by decide) ?_ ?_
        · refine jm_iinc (pc := 964) (q := 3) (x := x3) (v := 6) (L2 := [(3, .int (x3 + 6)), (0, .ref 0), (1, .ref 1), (2, .ref 59)]) d_Law_law_964 rfl ci_6 (Nat.le_of_ble_eq_true rfl) rfl ?_
          refine jm_goto (pc := 967) (tgt := 18) d_Law_law_967 (by decide) ?_
          refine jm_sub (L2 := [(0, .ref 0), (1, .ref 1), (2, .ref 59), (3, .int (x3 + 6))]) [1, 2, 3, 0] rfl ?_
          exact ih (x3 + 6) s82
        · refine jm_iconst (pc := 484) (v := 0) d_Law_law_484 ci_0 ?_
          exact jm_iret (pc := 485) (x := 0) d_Law_law_485 rfl (by decide) rfl rfl rfl
      refine jm_case 12 ?_ (fun h12 => ?_)
      · refine jm_tswIn (pc := 33) (tgt := 486) d_Law_law_33 (by decide) (by decide) (off := 453) (by decide) (by decide) ?_
        refine jm_aload_n (pc := 486) (q := 1) (x := 1) d_Law_law_486 rfl ?_
        refine jm_aload_n (pc := 487) (q := 0) (x := 0) d_Law_law_487 rfl ?_
        refine jm_iload_n (pc := 488) (q := 3) (x := x3) d_Law_law_488 rfl ?_
        refine jm_iconst (pc := 489) (v := 1) d_Law_law_489 ci_1 ?_
        refine jm_iadd (pc := 490) d_Law_law_490 ?_
        refine jm_sld (pc := 491) d_Law_law_491 rfl (fun v83 => ?_)
        refine jm_aload_n (pc := 492) (q := 0) (x := 0) d_Law_law_492 rfl ?_
        refine jm_iload_n (pc := 493) (q := 3) (x := x3) d_Law_law_493 rfl ?_
        refine jm_iconst (pc := 494) (v := 2) d_Law_law_494 ci_2 ?_
        refine jm_iadd (pc := 495) d_Law_law_495 ?_
        refine jm_sld (pc := 496) d_Law_law_496 rfl (fun v84 => ?_)
        refine jm_Vi (pc := 497) (Y' := mY_X_trueBy) (i := 1) (avs := [.int v83, .int v84]) (rest := []) (s_X_trueBy_ok s v83 v84) ok_X_trueBy (l0_Law__X_trueBy L xs) ml_Law_68 im_X_trueBy se_X_trueBy d_Law_law_497 rfl sh_1 rfl rfl ge_1 le_1_78 rfl (Nat.le_of_ble_eq_true rfl) (Nat.le_of_ble_eq_true rfl) (Nat.le_of_ble_eq_true rfl) (Nat.le_of_ble_eq_true rfl) (fun v85 s86 => ?_)
        refine jm_aload_n (pc := 500) (q := 2) (x := 59) d_Law_law_500 rfl ?_
        refine jm_aload_n (pc := 501) (q := 0) (x := 0) d_Law_law_501 rfl ?_
        refine jm_iload_n (pc := 502) (q := 3) (x := x3) d_Law_law_502 rfl ?_
        refine jm_iconst (pc := 503) (v := 1) d_Law_law_503 ci_1 ?_
        refine jm_iadd (pc := 504) d_Law_law_504 ?_
        refine jm_sld (pc := 505) d_Law_law_505 rfl (fun v87 => ?_)
        refine jm_aload_n (pc := 506) (q := 0) (x := 0) d_Law_law_506 rfl ?_
        refine jm_iload_n (pc := 507) (q := 3) (x := x3) d_Law_law_507 rfl ?_
        refine jm_iconst (pc := 508) (v := 2) d_Law_law_508 ci_2 ?_
        refine jm_iadd (pc := 509) d_Law_law_509 ?_
        refine jm_sld (pc := 510) d_Law_law_510 rfl (fun v88 => ?_)
        refine jm_Vi (pc := 511) (Y' := mY_Z_trueBy) (i := 59) (avs := [.int v87, .int v88]) (rest := [.int v85]) (s_Z_trueBy_ok s86 v87 v88) ok_Z_trueBy (l0_Law__Z_trueBy L xs) ml_Law_71 im_Z_trueBy se_Z_trueBy d_Law_law_511 rfl sh_59 rfl rfl ge_59 le_59_78 rfl (Nat.le_of_ble_eq_true rfl) (Nat.le_of_ble_eq_true rfl) (Nat.le_of_ble_eq_true rfl) (Nat.le_of_ble_eq_true rfl) (fun v89 s90 => ?_)
        refine jm_icmp_eq (pc := 514) (tgt := 964) d_Law_law_514 (by decide) ?_ ?_
        · refine jm_iinc (pc := 964) (q := 3) (x := x3) (v := 6) (L2 := [(3, .int (x3 + 6)), (0, .ref 0), (1, .ref 1), (2, .ref 59)]) d_Law_law_964 rfl ci_6 (Nat.le_of_ble_eq_true rfl) rfl ?_
          refine jm_goto (pc := 967) (tgt := 18) d_Law_law_967 (by decide) ?_
          refine jm_sub (L2 := [(0, .ref 0), (1, .ref 1), (2, .ref 59), (3, .int (x3 + 6))]) [1, 2, 3, 0] rfl ?_
          exact ih (x3 + 6) s90
        · refine jm_iconst (pc := 517) (v := 0) d_Law_law_517 ci_0 ?_
          exact jm_iret (pc := 518) (x := 0) d_Law_law_518 rfl (by decide) rfl rfl rfl
      refine jm_case 13 ?_ (fun h13 => ?_)
      · refine jm_tswIn (pc := 33) (tgt := 519) d_Law_law_33 (by decide) (by decide) (off := 486) (by decide) (by decide) ?_
        refine jm_aload_n (pc := 519) (q := 1) (x := 1) d_Law_law_519 rfl ?_
        refine jm_aload_n (pc := 520) (q := 0) (x := 0) d_Law_law_520 rfl ?_
        refine jm_iload_n (pc := 521) (q := 3) (x := x3) d_Law_law_521 rfl ?_
        refine jm_iconst (pc := 522) (v := 1) d_Law_law_522 ci_1 ?_
        refine jm_iadd (pc := 523) d_Law_law_523 ?_
        refine jm_sld (pc := 524) d_Law_law_524 rfl (fun v91 => ?_)
        refine jm_aload_n (pc := 525) (q := 0) (x := 0) d_Law_law_525 rfl ?_
        refine jm_iload_n (pc := 526) (q := 3) (x := x3) d_Law_law_526 rfl ?_
        refine jm_iconst (pc := 527) (v := 2) d_Law_law_527 ci_2 ?_
        refine jm_iadd (pc := 528) d_Law_law_528 ?_
        refine jm_sld (pc := 529) d_Law_law_529 rfl (fun v92 => ?_)
        refine jm_Vi (pc := 530) (Y' := mY_X_late) (i := 1) (avs := [.int v91, .int v92]) (rest := []) (s_X_late_ok s v91 v92) ok_X_late (l0_Law__X_late L xs) ml_Law_72 im_X_late se_X_late d_Law_law_530 rfl sh_1 rfl rfl ge_1 le_1_78 rfl (Nat.le_of_ble_eq_true rfl) (Nat.le_of_ble_eq_true rfl) (Nat.le_of_ble_eq_true rfl) (Nat.le_of_ble_eq_true rfl) (fun v93 s94 => ?_)
        refine jm_aload_n (pc := 533) (q := 2) (x := 59) d_Law_law_533 rfl ?_
        refine jm_aload_n (pc := 534) (q := 0) (x := 0) d_Law_law_534 rfl ?_
        refine jm_iload_n (pc := 535) (q := 3) (x := x3) d_Law_law_535 rfl ?_
        refine jm_iconst (pc := 536) (v := 1) d_Law_law_536 ci_1 ?_
        refine jm_iadd (pc := 537) d_Law_law_537 ?_
        refine jm_sld (pc := 538) d_Law_law_538 rfl (fun v95 => ?_)
        refine jm_aload_n (pc := 539) (q := 0) (x := 0) d_Law_law_539 rfl ?_
        refine jm_iload_n (pc := 540) (q := 3) (x := x3) d_Law_law_540 rfl ?_
        refine jm_iconst (pc := 541) (v := 2) d_Law_law_541 ci_2 ?_
        refine jm_iadd (pc := 542) d_Law_law_542 ?_
        refine jm_sld (pc := 543) d_Law_law_543 rfl (fun v96 => ?_)
        refine jm_Vi (pc := 544) (Y' := mY_Z_late) (i := 59) (avs := [.int v95, .int v96]) (rest := [.int v93]) (s_Z_late_ok s94 v95 v96) ok_Z_late (l0_Law__Z_late L xs) ml_Law_75 im_Z_late se_Z_late d_Law_law_544 rfl sh_59 rfl rfl ge_59 le_59_78 rfl (Nat.le_of_ble_eq_true rfl) (Nat.le_of_ble_eq_true rfl) (Nat.le_of_ble_eq_true rfl) (Nat.le_of_ble_eq_true rfl) (fun v97 s98 => ?_)
        refine jm_icmp_eq (pc := 547) (tgt := 964) d_Law_law_547 (by decide) ?_ ?_
        · refine jm_iinc (pc := 964) (q := 3) (x := x3) (v := 6) (L2 := [(3, .int (x3 + 6)), (0, .ref 0), (1, .ref 1), (2, .ref 59)]) d_Law_law_964 rfl ci_6 (Nat.le_of_ble_eq_true rfl) rfl ?_
          refine jm_goto (pc := 967) (tgt := 18) d_Law_law_967 (by decide) ?_
          refine jm_sub (L2 := [(0, .ref 0), (1, .ref 1), (2, .ref 59), (3, .int (x3 + 6))]) [1, 2, 3, 0] rfl ?_
          exact ih (x3 + 6) s98
        · refine jm_iconst (pc := 550) (v := 0) d_Law_law_550 ci_0 ?_
          exact jm_iret (pc := 551) (x := 0) d_Law_law_551 rfl (by decide) rfl rfl rfl
      refine jm_case 14 ?_ (fun h14 => ?_)
      · refine jm_tswIn (pc := 33) (tgt := 552) d_Law_law_33 (by decide) (by decide) (off := 519) (by decide) (by decide) ?_
        refine jm_aload_n (pc := 552) (q := 1) (x := 1) d_Law_law_552 rfl ?_
        refine jm_Vi (pc := 553) (Y' := mY_X_bears) (i := 1) (avs := []) (rest := []) (s_X_bears_ok s) ok_X_bears (l0_Law__X_bears L xs) ml_Law_76 im_X_bears se_X_bears d_Law_law_553 rfl sh_1 rfl rfl ge_1 le_1_78 rfl (Nat.le_of_ble_eq_true rfl) (Nat.le_of_ble_eq_true rfl) (Nat.le_of_ble_eq_true rfl) (Nat.le_of_ble_eq_true rfl) (fun v99 s100 => ?_)
        refine jm_aload_n (pc := 556) (q := 2) (x := 59) d_Law_law_556 rfl ?_
        refine jm_Vi (pc := 557) (Y' := mY_Z_bears) (i := 59) (avs := []) (rest := [.int v99]) (s_Z_bears_ok s100) ok_Z_bears (l0_Law__Z_bears L xs) ml_Law_79 im_Z_bears se_Z_bears d_Law_law_557 rfl sh_59 rfl rfl ge_59 le_59_78 rfl (Nat.le_of_ble_eq_true rfl) (Nat.le_of_ble_eq_true rfl) (Nat.le_of_ble_eq_true rfl) (Nat.le_of_ble_eq_true rfl) (fun v101 s102 => ?_)
        refine jm_icmp_eq (pc := 560) (tgt := 964) d_Law_law_560 (by decide) ?_ ?_
        · refine jm_iinc (pc := 964) (q := 3) (x := x3) (v := 6) (L2 := [(3, .int (x3 + 6)), (0, .ref 0), (1, .ref 1), (2, .ref 59)]) d_Law_law_964 rfl ci_6 (Nat.le_of_ble_eq_true rfl) rfl ?_
          refine jm_goto (pc := 967) (tgt := 18) d_Law_law_967 (by decide) ?_
          refine jm_sub (L2 := [(0, .ref 0), (1, .ref 1), (2, .ref 59), (3, .int (x3 + 6))]) [1, 2, 3, 0] rfl ?_
          exact ih (x3 + 6) s102
        · refine jm_iconst (pc := 563) (v := 0) d_Law_law_563 ci_0 ?_
          exact jm_iret (pc := 564) (x := 0) d_Law_law_564 rfl (by decide) rfl rfl rfl
      refine jm_case 15 ?_ (fun h15 => ?_)
      · refine jm_tswIn (pc := 33) (tgt := 565) d_Law_law_33 (by decide) (by decide) (off := 532) (by decide) (by decide) ?_
        refine jm_aload_n (pc := 565) (q := 1) (x := 1) d_Law_law_565 rfl ?_
        refine jm_aload_n (pc := 566) (q := 0) (x := 0) d_Law_law_566 rfl ?_
        refine jm_iload_n (pc := 567) (q := 3) (x := x3) d_Law_law_567 rfl ?_
        refine jm_iconst (pc := 568) (v := 1) d_Law_law_568 ci_1 ?_
        refine jm_iadd (pc := 569) d_Law_law_569 ?_
        refine jm_sld (pc := 570) d_Law_law_570 rfl (fun v103 => ?_)
        refine jm_aload_n (pc := 571) (q := 0) (x := 0) d_Law_law_571 rfl ?_
        refine jm_iload_n (pc := 572) (q := 3) (x := x3) d_Law_law_572 rfl ?_
        refine jm_iconst (pc := 573) (v := 2) d_Law_law_573 ci_2 ?_
        refine jm_iadd (pc := 574) d_Law_law_574 ?_
        refine jm_sld (pc := 575) d_Law_law_575 rfl (fun v104 => ?_)
        refine jm_Vi (pc := 576) (Y' := mY_X_bestRule) (i := 1) (avs := [.int v103, .int v104]) (rest := []) (s_X_bestRule_ok s v103 v104) ok_X_bestRule (l0_Law__X_bestRule L xs) ml_Law_80 im_X_bestRule se_X_bestRule d_Law_law_576 rfl sh_1 rfl rfl ge_1 le_1_78 rfl (Nat.le_of_ble_eq_true rfl) (Nat.le_of_ble_eq_true rfl) (Nat.le_of_ble_eq_true rfl) (Nat.le_of_ble_eq_true rfl) (fun v105 s106 => ?_)
        refine jm_aload_n (pc := 579) (q := 2) (x := 59) d_Law_law_579 rfl ?_
        refine jm_aload_n (pc := 580) (q := 0) (x := 0) d_Law_law_580 rfl ?_
        refine jm_iload_n (pc := 581) (q := 3) (x := x3) d_Law_law_581 rfl ?_
        refine jm_iconst (pc := 582) (v := 1) d_Law_law_582 ci_1 ?_
        refine jm_iadd (pc := 583) d_Law_law_583 ?_
        refine jm_sld (pc := 584) d_Law_law_584 rfl (fun v107 => ?_)
        refine jm_aload_n (pc := 585) (q := 0) (x := 0) d_Law_law_585 rfl ?_
        refine jm_iload_n (pc := 586) (q := 3) (x := x3) d_Law_law_586 rfl ?_
        refine jm_iconst (pc := 587) (v := 2) d_Law_law_587 ci_2 ?_
        refine jm_iadd (pc := 588) d_Law_law_588 ?_
        refine jm_sld (pc := 589) d_Law_law_589 rfl (fun v108 => ?_)
        refine jm_Vi (pc := 590) (Y' := mY_Z_bestRule) (i := 59) (avs := [.int v107, .int v108]) (rest := [.int v105]) (s_Z_bestRule_ok s106 v107 v108) ok_Z_bestRule (l0_Law__Z_bestRule L xs) ml_Law_83 im_Z_bestRule se_Z_bestRule d_Law_law_590 rfl sh_59 rfl rfl ge_59 le_59_78 rfl (Nat.le_of_ble_eq_true rfl) (Nat.le_of_ble_eq_true rfl) (Nat.le_of_ble_eq_true rfl) (Nat.le_of_ble_eq_true rfl) (fun v109 s110 => ?_)
        refine jm_icmp_eq (pc := 593) (tgt := 964) d_Law_law_593 (by decide) ?_ ?_
        · refine jm_iinc (pc := 964) (q := 3) (x := x3) (v := 6) (L2 := [(3, .int (x3 + 6)), (0, .ref 0), (1, .ref 1), (2, .ref 59)]) d_Law_law_964 rfl ci_6 (Nat.le_of_ble_eq_true rfl) rfl ?_
          refine jm_goto (pc := 967) (tgt := 18) d_Law_law_967 (by decide) ?_
          refine jm_sub (L2 := [(0, .ref 0), (1, .ref 1), (2, .ref 59), (3, .int (x3 + 6))]) [1, 2, 3, 0] rfl ?_
          exact ih (x3 + 6) s110
        · refine jm_iconst (pc := 596) (v := 0) d_Law_law_596 ci_0 ?_
          exact jm_iret (pc := 597) (x := 0) d_Law_law_597 rfl (by decide) rfl rfl rfl
      refine jm_case 16 ?_ (fun h16 => ?_)
      · refine jm_tswIn (pc := 33) (tgt := 598) d_Law_law_33 (by decide) (by decide) (off := 565) (by decide) (by decide) ?_
        refine jm_aload_n (pc := 598) (q := 1) (x := 1) d_Law_law_598 rfl ?_
        refine jm_aload_n (pc := 599) (q := 0) (x := 0) d_Law_law_599 rfl ?_
        refine jm_iload_n (pc := 600) (q := 3) (x := x3) d_Law_law_600 rfl ?_
        refine jm_iconst (pc := 601) (v := 1) d_Law_law_601 ci_1 ?_
        refine jm_iadd (pc := 602) d_Law_law_602 ?_
        refine jm_sld (pc := 603) d_Law_law_603 rfl (fun v111 => ?_)
        refine jm_Vi (pc := 604) (Y' := mY_X_added) (i := 1) (avs := [.int v111]) (rest := []) (s_X_added_ok s v111) ok_X_added (l0_Law__X_added L xs) ml_Law_84 im_X_added se_X_added d_Law_law_604 rfl sh_1 rfl rfl ge_1 le_1_78 rfl (Nat.le_of_ble_eq_true rfl) (Nat.le_of_ble_eq_true rfl) (Nat.le_of_ble_eq_true rfl) (Nat.le_of_ble_eq_true rfl) (fun v112 s113 => ?_)
        refine jm_aload_n (pc := 607) (q := 2) (x := 59) d_Law_law_607 rfl ?_
        refine jm_aload_n (pc := 608) (q := 0) (x := 0) d_Law_law_608 rfl ?_
        refine jm_iload_n (pc := 609) (q := 3) (x := x3) d_Law_law_609 rfl ?_
        refine jm_iconst (pc := 610) (v := 1) d_Law_law_610 ci_1 ?_
        refine jm_iadd (pc := 611) d_Law_law_611 ?_
        refine jm_sld (pc := 612) d_Law_law_612 rfl (fun v114 => ?_)
        refine jm_Vi (pc := 613) (Y' := mY_Z_added) (i := 59) (avs := [.int v114]) (rest := [.int v112]) (s_Z_added_ok s113 v114) ok_Z_added (l0_Law__Z_added L xs) ml_Law_87 im_Z_added se_Z_added d_Law_law_613 rfl sh_59 rfl rfl ge_59 le_59_78 rfl (Nat.le_of_ble_eq_true rfl) (Nat.le_of_ble_eq_true rfl) (Nat.le_of_ble_eq_true rfl) (Nat.le_of_ble_eq_true rfl) (fun v115 s116 => ?_)
        refine jm_icmp_eq (pc := 616) (tgt := 964) d_Law_law_616 (by decide) ?_ ?_
        · refine jm_iinc (pc := 964) (q := 3) (x := x3) (v := 6) (L2 := [(3, .int (x3 + 6)), (0, .ref 0), (1, .ref 1), (2, .ref 59)]) d_Law_law_964 rfl ci_6 (Nat.le_of_ble_eq_true rfl) rfl ?_
          refine jm_goto (pc := 967) (tgt := 18) d_Law_law_967 (by decide) ?_
          refine jm_sub (L2 := [(0, .ref 0), (1, .ref 1), (2, .ref 59), (3, .int (x3 + 6))]) [1, 2, 3, 0] rfl ?_
          exact ih (x3 + 6) s116
        · refine jm_iconst (pc := 619) (v := 0) d_Law_law_619 ci_0 ?_
          exact jm_iret (pc := 620) (x := 0) d_Law_law_620 rfl (by decide) rfl rfl rfl
      refine jm_case 17 ?_ (fun h17 => ?_)
      · refine jm_tswIn (pc := 33) (tgt := 621) d_Law_law_33 (by decide) (by decide) (off := 588) (by decide) (by decide) ?_
        refine jm_aload_n (pc := 621) (q := 1) (x := 1) d_Law_law_621 rfl ?_
        refine jm_aload_n (pc := 622) (q := 0) (x := 0) d_Law_law_622 rfl ?_
        refine jm_iload_n (pc := 623) (q := 3) (x := x3) d_Law_law_623 rfl ?_
        refine jm_iconst (pc := 624) (v := 1) d_Law_law_624 ci_1 ?_
        refine jm_iadd (pc := 625) d_Law_law_625 ?_
        refine jm_sld (pc := 626) d_Law_law_626 rfl (fun v117 => ?_)
        refine jm_aload_n (pc := 627) (q := 0) (x := 0) d_Law_law_627 rfl ?_
        refine jm_iload_n (pc := 628) (q := 3) (x := x3) d_Law_law_628 rfl ?_
        refine jm_iconst (pc := 629) (v := 2) d_Law_law_629 ci_2 ?_
        refine jm_iadd (pc := 630) d_Law_law_630 ?_
        refine jm_sld (pc := 631) d_Law_law_631 rfl (fun v118 => ?_)
        refine jm_Vi (pc := 632) (Y' := mY_X_log) (i := 1) (avs := [.int v117, .int v118]) (rest := []) (s_X_log_ok s v117 v118) ok_X_log (l0_Law__X_log L xs) ml_Law_88 im_X_log se_X_log d_Law_law_632 rfl sh_1 rfl rfl ge_1 le_1_78 rfl (Nat.le_of_ble_eq_true rfl) (Nat.le_of_ble_eq_true rfl) (Nat.le_of_ble_eq_true rfl) (Nat.le_of_ble_eq_true rfl) (fun v119 s120 => ?_)
        refine jm_aload_n (pc := 635) (q := 2) (x := 59) d_Law_law_635 rfl ?_
        refine jm_aload_n (pc := 636) (q := 0) (x := 0) d_Law_law_636 rfl ?_
        refine jm_iload_n (pc := 637) (q := 3) (x := x3) d_Law_law_637 rfl ?_
        refine jm_iconst (pc := 638) (v := 1) d_Law_law_638 ci_1 ?_
        refine jm_iadd (pc := 639) d_Law_law_639 ?_
        refine jm_sld (pc := 640) d_Law_law_640 rfl (fun v121 => ?_)
        refine jm_aload_n (pc := 641) (q := 0) (x := 0) d_Law_law_641 rfl ?_
        refine jm_iload_n (pc := 642) (q := 3) (x := x3) d_Law_law_642 rfl ?_
        refine jm_iconst (pc := 643) (v := 2) d_Law_law_643 ci_2 ?_
        refine jm_iadd (pc := 644) d_Law_law_644 ?_
        refine jm_sld (pc := 645) d_Law_law_645 rfl (fun v122 => ?_)
        refine jm_Vi (pc := 646) (Y' := mY_Z_log) (i := 59) (avs := [.int v121, .int v122]) (rest := [.int v119]) (s_Z_log_ok s120 v121 v122) ok_Z_log (l0_Law__Z_log L xs) ml_Law_91 im_Z_log se_Z_log d_Law_law_646 rfl sh_59 rfl rfl ge_59 le_59_78 rfl (Nat.le_of_ble_eq_true rfl) (Nat.le_of_ble_eq_true rfl) (Nat.le_of_ble_eq_true rfl) (Nat.le_of_ble_eq_true rfl) (fun v123 s124 => ?_)
        refine jm_icmp_eq (pc := 649) (tgt := 964) d_Law_law_649 (by decide) ?_ ?_
        · refine jm_iinc (pc := 964) (q := 3) (x := x3) (v := 6) (L2 := [(3, .int (x3 + 6)), (0, .ref 0), (1, .ref 1), (2, .ref 59)]) d_Law_law_964 rfl ci_6 (Nat.le_of_ble_eq_true rfl) rfl ?_
          refine jm_goto (pc := 967) (tgt := 18) d_Law_law_967 (by decide) ?_
          refine jm_sub (L2 := [(0, .ref 0), (1, .ref 1), (2, .ref 59), (3, .int (x3 + 6))]) [1, 2, 3, 0] rfl ?_
          exact ih (x3 + 6) s124
        · refine jm_iconst (pc := 652) (v := 0) d_Law_law_652 ci_0 ?_
          exact jm_iret (pc := 653) (x := 0) d_Law_law_653 rfl (by decide) rfl rfl rfl
      refine jm_case 18 ?_ (fun h18 => ?_)
      · refine jm_tswIn (pc := 33) (tgt := 654) d_Law_law_33 (by decide) (by decide) (off := 621) (by decide) (by decide) ?_
        refine jm_aload_n (pc := 654) (q := 1) (x := 1) d_Law_law_654 rfl ?_
        refine jm_aload_n (pc := 655) (q := 0) (x := 0) d_Law_law_655 rfl ?_
        refine jm_iload_n (pc := 656) (q := 3) (x := x3) d_Law_law_656 rfl ?_
        refine jm_iconst (pc := 657) (v := 1) d_Law_law_657 ci_1 ?_
        refine jm_iadd (pc := 658) d_Law_law_658 ?_
        refine jm_sld (pc := 659) d_Law_law_659 rfl (fun v125 => ?_)
        refine jm_Vi (pc := 660) (Y' := mY_X_logs) (i := 1) (avs := [.int v125]) (rest := []) (s_X_logs_ok s v125) ok_X_logs (l0_Law__X_logs L xs) ml_Law_92 im_X_logs se_X_logs d_Law_law_660 rfl sh_1 rfl rfl ge_1 le_1_78 rfl (Nat.le_of_ble_eq_true rfl) (Nat.le_of_ble_eq_true rfl) (Nat.le_of_ble_eq_true rfl) (Nat.le_of_ble_eq_true rfl) (fun v126 s127 => ?_)
        refine jm_aload_n (pc := 663) (q := 2) (x := 59) d_Law_law_663 rfl ?_
        refine jm_aload_n (pc := 664) (q := 0) (x := 0) d_Law_law_664 rfl ?_
        refine jm_iload_n (pc := 665) (q := 3) (x := x3) d_Law_law_665 rfl ?_
        refine jm_iconst (pc := 666) (v := 1) d_Law_law_666 ci_1 ?_
        refine jm_iadd (pc := 667) d_Law_law_667 ?_
        refine jm_sld (pc := 668) d_Law_law_668 rfl (fun v128 => ?_)
        refine jm_Vi (pc := 669) (Y' := mY_Z_logs) (i := 59) (avs := [.int v128]) (rest := [.int v126]) (s_Z_logs_ok s127 v128) ok_Z_logs (l0_Law__Z_logs L xs) ml_Law_95 im_Z_logs se_Z_logs d_Law_law_669 rfl sh_59 rfl rfl ge_59 le_59_78 rfl (Nat.le_of_ble_eq_true rfl) (Nat.le_of_ble_eq_true rfl) (Nat.le_of_ble_eq_true rfl) (Nat.le_of_ble_eq_true rfl) (fun v129 s130 => ?_)
        refine jm_icmp_eq (pc := 672) (tgt := 964) d_Law_law_672 (by decide) ?_ ?_
        · refine jm_iinc (pc := 964) (q := 3) (x := x3) (v := 6) (L2 := [(3, .int (x3 + 6)), (0, .ref 0), (1, .ref 1), (2, .ref 59)]) d_Law_law_964 rfl ci_6 (Nat.le_of_ble_eq_true rfl) rfl ?_
          refine jm_goto (pc := 967) (tgt := 18) d_Law_law_967 (by decide) ?_
          refine jm_sub (L2 := [(0, .ref 0), (1, .ref 1), (2, .ref 59), (3, .int (x3 + 6))]) [1, 2, 3, 0] rfl ?_
          exact ih (x3 + 6) s130
        · refine jm_iconst (pc := 675) (v := 0) d_Law_law_675 ci_0 ?_
          exact jm_iret (pc := 676) (x := 0) d_Law_law_676 rfl (by decide) rfl rfl rfl
      refine jm_case 19 ?_ (fun h19 => ?_)
      · refine jm_tswIn (pc := 33) (tgt := 677) d_Law_law_33 (by decide) (by decide) (off := 644) (by decide) (by decide) ?_
        refine jm_aload_n (pc := 677) (q := 1) (x := 1) d_Law_law_677 rfl ?_
        refine jm_aload_n (pc := 678) (q := 0) (x := 0) d_Law_law_678 rfl ?_
        refine jm_iload_n (pc := 679) (q := 3) (x := x3) d_Law_law_679 rfl ?_
        refine jm_iconst (pc := 680) (v := 1) d_Law_law_680 ci_1 ?_
        refine jm_iadd (pc := 681) d_Law_law_681 ?_
        refine jm_sld (pc := 682) d_Law_law_682 rfl (fun v131 => ?_)
        refine jm_aload_n (pc := 683) (q := 0) (x := 0) d_Law_law_683 rfl ?_
        refine jm_iload_n (pc := 684) (q := 3) (x := x3) d_Law_law_684 rfl ?_
        refine jm_iconst (pc := 685) (v := 2) d_Law_law_685 ci_2 ?_
        refine jm_iadd (pc := 686) d_Law_law_686 ?_
        refine jm_sld (pc := 687) d_Law_law_687 rfl (fun v132 => ?_)
        refine jm_aload_n (pc := 688) (q := 0) (x := 0) d_Law_law_688 rfl ?_
        refine jm_iload_n (pc := 689) (q := 3) (x := x3) d_Law_law_689 rfl ?_
        refine jm_iconst (pc := 690) (v := 3) d_Law_law_690 ci_3 ?_
        refine jm_iadd (pc := 691) d_Law_law_691 ?_
        refine jm_sld (pc := 692) d_Law_law_692 rfl (fun v133 => ?_)
        refine jm_Vi (pc := 693) (Y' := mY_X_sign) (i := 1) (avs := [.int v131, .int v132, .int v133]) (rest := []) (s_X_sign_ok s v131 v132 v133) ok_X_sign (l0_Law__X_sign L xs) ml_Law_96 im_X_sign se_X_sign d_Law_law_693 rfl sh_1 rfl rfl ge_1 le_1_78 rfl (Nat.le_of_ble_eq_true rfl) (Nat.le_of_ble_eq_true rfl) (Nat.le_of_ble_eq_true rfl) (Nat.le_of_ble_eq_true rfl) (fun v134 s135 => ?_)
        refine jm_aload_n (pc := 696) (q := 2) (x := 59) d_Law_law_696 rfl ?_
        refine jm_aload_n (pc := 697) (q := 0) (x := 0) d_Law_law_697 rfl ?_
        refine jm_iload_n (pc := 698) (q := 3) (x := x3) d_Law_law_698 rfl ?_
        refine jm_iconst (pc := 699) (v := 1) d_Law_law_699 ci_1 ?_
        refine jm_iadd (pc := 700) d_Law_law_700 ?_
        refine jm_sld (pc := 701) d_Law_law_701 rfl (fun v136 => ?_)
        refine jm_aload_n (pc := 702) (q := 0) (x := 0) d_Law_law_702 rfl ?_
        refine jm_iload_n (pc := 703) (q := 3) (x := x3) d_Law_law_703 rfl ?_
        refine jm_iconst (pc := 704) (v := 2) d_Law_law_704 ci_2 ?_
        refine jm_iadd (pc := 705) d_Law_law_705 ?_
        refine jm_sld (pc := 706) d_Law_law_706 rfl (fun v137 => ?_)
        refine jm_aload_n (pc := 707) (q := 0) (x := 0) d_Law_law_707 rfl ?_
        refine jm_iload_n (pc := 708) (q := 3) (x := x3) d_Law_law_708 rfl ?_
        refine jm_iconst (pc := 709) (v := 3) d_Law_law_709 ci_3 ?_
        refine jm_iadd (pc := 710) d_Law_law_710 ?_
        refine jm_sld (pc := 711) d_Law_law_711 rfl (fun v138 => ?_)
        refine jm_Vi (pc := 712) (Y' := mY_Z_sign) (i := 59) (avs := [.int v136, .int v137, .int v138]) (rest := [.int v134]) (s_Z_sign_ok s135 v136 v137 v138) ok_Z_sign (l0_Law__Z_sign L xs) ml_Law_99 im_Z_sign se_Z_sign d_Law_law_712 rfl sh_59 rfl rfl ge_59 le_59_78 rfl (Nat.le_of_ble_eq_true rfl) (Nat.le_of_ble_eq_true rfl) (Nat.le_of_ble_eq_true rfl) (Nat.le_of_ble_eq_true rfl) (fun v139 s140 => ?_)
        refine jm_icmp_eq (pc := 715) (tgt := 964) d_Law_law_715 (by decide) ?_ ?_
        · refine jm_iinc (pc := 964) (q := 3) (x := x3) (v := 6) (L2 := [(3, .int (x3 + 6)), (0, .ref 0), (1, .ref 1), (2, .ref 59)]) d_Law_law_964 rfl ci_6 (Nat.le_of_ble_eq_true rfl) rfl ?_
          refine jm_goto (pc := 967) (tgt := 18) d_Law_law_967 (by decide) ?_
          refine jm_sub (L2 := [(0, .ref 0), (1, .ref 1), (2, .ref 59), (3, .int (x3 + 6))]) [1, 2, 3, 0] rfl ?_
          exact ih (x3 + 6) s140
        · refine jm_iconst (pc := 718) (v := 0) d_Law_law_718 ci_0 ?_
          exact jm_iret (pc := 719) (x := 0) d_Law_law_719 rfl (by decide) rfl rfl rfl
      refine jm_case 20 ?_ (fun h20 => ?_)
      · refine jm_tswIn (pc := 33) (tgt := 720) d_Law_law_33 (by decide) (by decide) (off := 687) (by decide) (by decide) ?_
        refine jm_aload_n (pc := 720) (q := 1) (x := 1) d_Law_law_720 rfl ?_
        refine jm_aload_n (pc := 721) (q := 0) (x := 0) d_Law_law_721 rfl ?_
        refine jm_iload_n (pc := 722) (q := 3) (x := x3) d_Law_law_722 rfl ?_
        refine jm_iconst (pc := 723) (v := 1) d_Law_law_723 ci_1 ?_
        refine jm_iadd (pc := 724) d_Law_law_724 ?_
        refine jm_sld (pc := 725) d_Law_law_725 rfl (fun v141 => ?_)
        refine jm_aload_n (pc := 726) (q := 0) (x := 0) d_Law_law_726 rfl ?_
        refine jm_iload_n (pc := 727) (q := 3) (x := x3) d_Law_law_727 rfl ?_
        refine jm_iconst (pc := 728) (v := 2) d_Law_law_728 ci_2 ?_
        refine jm_iadd (pc := 729) d_Law_law_729 ?_
        refine jm_sld (pc := 730) d_Law_law_730 rfl (fun v142 => ?_)
        refine jm_Vp (pc := 731) (Y' := mY_X_near) (i := 1) (avs := [.int v141, .int v142]) (rest := []) (s_X_near_ok s v141 v142) ok_X_near (l0_Law__X_near L xs) ml_Law_100 im_X_near se_X_near d_Law_law_731 rfl sh_1 rfl rfl ge_1 le_1_78 rfl (Nat.le_of_ble_eq_true rfl) (Nat.le_of_ble_eq_true rfl) (Nat.le_of_ble_eq_true rfl) (Nat.le_of_ble_eq_true rfl) (fun v143 => ?_)
        refine jm_aload_n (pc := 734) (q := 2) (x := 59) d_Law_law_734 rfl ?_
        refine jm_aload_n (pc := 735) (q := 0) (x := 0) d_Law_law_735 rfl ?_
        refine jm_iload_n (pc := 736) (q := 3) (x := x3) d_Law_law_736 rfl ?_
        refine jm_iconst (pc := 737) (v := 1) d_Law_law_737 ci_1 ?_
        refine jm_iadd (pc := 738) d_Law_law_738 ?_
        refine jm_sld (pc := 739) d_Law_law_739 rfl (fun v144 => ?_)
        refine jm_aload_n (pc := 740) (q := 0) (x := 0) d_Law_law_740 rfl ?_
        refine jm_iload_n (pc := 741) (q := 3) (x := x3) d_Law_law_741 rfl ?_
        refine jm_iconst (pc := 742) (v := 2) d_Law_law_742 ci_2 ?_
        refine jm_iadd (pc := 743) d_Law_law_743 ?_
        refine jm_sld (pc := 744) d_Law_law_744 rfl (fun v145 => ?_)
        refine jm_Vp (pc := 745) (Y' := mY_Z_near) (i := 59) (avs := [.int v144, .int v145]) (rest := [.int v143]) (s_Z_near_ok s v144 v145) ok_Z_near (l0_Law__Z_near L xs) ml_Law_103 im_Z_near se_Z_near d_Law_law_745 rfl sh_59 rfl rfl ge_59 le_59_78 rfl (Nat.le_of_ble_eq_true rfl) (Nat.le_of_ble_eq_true rfl) (Nat.le_of_ble_eq_true rfl) (Nat.le_of_ble_eq_true rfl) (fun v146 => ?_)
        refine jm_icmp_eq (pc := 748) (tgt := 964) d_Law_law_748 (by decide) ?_ ?_
        · refine jm_iinc (pc := 964) (q := 3) (x := x3) (v := 6) (L2 := [(3, .int (x3 + 6)), (0, .ref 0), (1, .ref 1), (2, .ref 59)]) d_Law_law_964 rfl ci_6 (Nat.le_of_ble_eq_true rfl) rfl ?_
          refine jm_goto (pc := 967) (tgt := 18) d_Law_law_967 (by decide) ?_
          refine jm_sub (L2 := [(0, .ref 0), (1, .ref 1), (2, .ref 59), (3, .int (x3 + 6))]) [1, 2, 3, 0] rfl ?_
          exact ih (x3 + 6) s
        · refine jm_iconst (pc := 751) (v := 0) d_Law_law_751 ci_0 ?_
          exact jm_iret (pc := 752) (x := 0) d_Law_law_752 rfl (by decide) rfl rfl rfl
      refine jm_case 21 ?_ (fun h21 => ?_)
      · refine jm_tswIn (pc := 33) (tgt := 753) d_Law_law_33 (by decide) (by decide) (off := 720) (by decide) (by decide) ?_
        refine jm_aload_n (pc := 753) (q := 1) (x := 1) d_Law_law_753 rfl ?_
        refine jm_aload_n (pc := 754) (q := 0) (x := 0) d_Law_law_754 rfl ?_
        refine jm_iload_n (pc := 755) (q := 3) (x := x3) d_Law_law_755 rfl ?_
        refine jm_iconst (pc := 756) (v := 1) d_Law_law_756 ci_1 ?_
        refine jm_iadd (pc := 757) d_Law_law_757 ?_
        refine jm_sld (pc := 758) d_Law_law_758 rfl (fun v147 => ?_)
        refine jm_aload_n (pc := 759) (q := 0) (x := 0) d_Law_law_759 rfl ?_
        refine jm_iload_n (pc := 760) (q := 3) (x := x3) d_Law_law_760 rfl ?_
        refine jm_iconst (pc := 761) (v := 2) d_Law_law_761 ci_2 ?_
        refine jm_iadd (pc := 762) d_Law_law_762 ?_
        refine jm_sld (pc := 763) d_Law_law_763 rfl (fun v148 => ?_)
        refine jm_aload_n (pc := 764) (q := 0) (x := 0) d_Law_law_764 rfl ?_
        refine jm_iload_n (pc := 765) (q := 3) (x := x3) d_Law_law_765 rfl ?_
        refine jm_iconst (pc := 766) (v := 3) d_Law_law_766 ci_3 ?_
        refine jm_iadd (pc := 767) d_Law_law_767 ?_
        refine jm_sld (pc := 768) d_Law_law_768 rfl (fun v149 => ?_)
        refine jm_aload_n (pc := 769) (q := 0) (x := 0) d_Law_law_769 rfl ?_
        refine jm_iload_n (pc := 770) (q := 3) (x := x3) d_Law_law_770 rfl ?_
        refine jm_iconst (pc := 771) (v := 4) d_Law_law_771 ci_4 ?_
        refine jm_iadd (pc := 772) d_Law_law_772 ?_
        refine jm_sld (pc := 773) d_Law_law_773 rfl (fun v150 => ?_)
        refine jm_aload_n (pc := 774) (q := 0) (x := 0) d_Law_law_774 rfl ?_
        refine jm_iload_n (pc := 775) (q := 3) (x := x3) d_Law_law_775 rfl ?_
        refine jm_iconst (pc := 776) (v := 5) d_Law_law_776 ci_5 ?_
        refine jm_iadd (pc := 777) d_Law_law_777 ?_
        refine jm_sld (pc := 778) d_Law_law_778 rfl (fun v151 => ?_)
        refine jm_Vi (pc := 779) (Y' := mY_X_watch) (i := 1) (avs := [.int v147, .int v148, .int v149, .int v150, .int v151]) (rest := []) (s_X_watch_ok s v147 v148 v149 v150 v151) ok_X_watch (l0_Law__X_watch L xs) ml_Law_104 im_X_watch se_X_watch d_Law_law_779 rfl sh_1 rfl rfl ge_1 le_1_78 rfl (Nat.le_of_ble_eq_true rfl) (Nat.le_of_ble_eq_true rfl) (Nat.le_of_ble_eq_true rfl) (Nat.le_of_ble_eq_true rfl) (fun v152 s153 => ?_)
        refine jm_aload_n (pc := 782) (q := 2) (x := 59) d_Law_law_782 rfl ?_
        refine jm_aload_n (pc := 783) (q := 0) (x := 0) d_Law_law_783 rfl ?_
        refine jm_iload_n (pc := 784) (q := 3) (x := x3) d_Law_law_784 rfl ?_
        refine jm_iconst (pc := 785) (v := 1) d_Law_law_785 ci_1 ?_
        refine jm_iadd (pc := 786) d_Law_law_786 ?_
        refine jm_sld (pc := 787) d_Law_law_787 rfl (fun v154 => ?_)
        refine jm_aload_n (pc := 788) (q := 0) (x := 0) d_Law_law_788 rfl ?_
        refine jm_iload_n (pc := 789) (q := 3) (x := x3) d_Law_law_789 rfl ?_
        refine jm_iconst (pc := 790) (v := 2) d_Law_law_790 ci_2 ?_
        refine jm_iadd (pc := 791) d_Law_law_791 ?_
        refine jm_sld (pc := 792) d_Law_law_792 rfl (fun v155 => ?_)
        refine jm_aload_n (pc := 793) (q := 0) (x := 0) d_Law_law_793 rfl ?_
        refine jm_iload_n (pc := 794) (q := 3) (x := x3) d_Law_law_794 rfl ?_
        refine jm_iconst (pc := 795) (v := 3) d_Law_law_795 ci_3 ?_
        refine jm_iadd (pc := 796) d_Law_law_796 ?_
        refine jm_sld (pc := 797) d_Law_law_797 rfl (fun v156 => ?_)
        refine jm_aload_n (pc := 798) (q := 0) (x := 0) d_Law_law_798 rfl ?_
        refine jm_iload_n (pc := 799) (q := 3) (x := x3) d_Law_law_799 rfl ?_
        refine jm_iconst (pc := 800) (v := 4) d_Law_law_800 ci_4 ?_
        refine jm_iadd (pc := 801) d_Law_law_801 ?_
        refine jm_sld (pc := 802) d_Law_law_802 rfl (fun v157 => ?_)
        refine jm_aload_n (pc := 803) (q := 0) (x := 0) d_Law_law_803 rfl ?_
        refine jm_iload_n (pc := 804) (q := 3) (x := x3) d_Law_law_804 rfl ?_
        refine jm_iconst (pc := 805) (v := 5) d_Law_law_805 ci_5 ?_
        refine jm_iadd (pc := 806) d_Law_law_806 ?_
        refine jm_sld (pc := 807) d_Law_law_807 rfl (fun v158 => ?_)
        refine jm_Vi (pc := 808) (Y' := mY_Z_watch) (i := 59) (avs := [.int v154, .int v155, .int v156, .int v157, .int v158]) (rest := [.int v152]) (s_Z_watch_ok s153 v154 v155 v156 v157 v158) ok_Z_watch (l0_Law__Z_watch L xs) ml_Law_108 im_Z_watch se_Z_watch d_Law_law_808 rfl sh_59 rfl rfl ge_59 le_59_78 rfl (Nat.le_of_ble_eq_true rfl) (Nat.le_of_ble_eq_true rfl) (Nat.le_of_ble_eq_true rfl) (Nat.le_of_ble_eq_true rfl) (fun v159 s160 => ?_)
        refine jm_icmp_eq (pc := 811) (tgt := 964) d_Law_law_811 (by decide) ?_ ?_
        · refine jm_iinc (pc := 964) (q := 3) (x := x3) (v := 6) (L2 := [(3, .int (x3 + 6)), (0, .ref 0), (1, .ref 1), (2, .ref 59)]) d_Law_law_964 rfl ci_6 (Nat.le_of_ble_eq_true rfl) rfl ?_
          refine jm_goto (pc := 967) (tgt := 18) d_Law_law_967 (by decide) ?_
          refine jm_sub (L2 := [(0, .ref 0), (1, .ref 1), (2, .ref 59), (3, .int (x3 + 6))]) [1, 2, 3, 0] rfl ?_
          exact ih (x3 + 6) s160
        · refine jm_iconst (pc := 814) (v := 0) d_Law_law_814 ci_0 ?_
          exact jm_iret (pc := 815) (x := 0) d_Law_law_815 rfl (by decide) rfl rfl rfl
      refine jm_case 22 ?_ (fun h22 => ?_)
      · refine jm_tswIn (pc := 33) (tgt := 816) d_Law_law_33 (by decide) (by decide) (off := 783) (by decide) (by decide) ?_
        refine jm_aload_n (pc := 816) (q := 1) (x := 1) d_Law_law_816 rfl ?_
        refine jm_aload_n (pc := 817) (q := 0) (x := 0) d_Law_law_817 rfl ?_
        refine jm_iload_n (pc := 818) (q := 3) (x := x3) d_Law_law_818 rfl ?_
        refine jm_iconst (pc := 819) (v := 1) d_Law_law_819 ci_1 ?_
        refine jm_iadd (pc := 820) d_Law_law_820 ?_
        refine jm_sld (pc := 821) d_Law_law_821 rfl (fun v161 => ?_)
        refine jm_aload_n (pc := 822) (q := 0) (x := 0) d_Law_law_822 rfl ?_
        refine jm_iload_n (pc := 823) (q := 3) (x := x3) d_Law_law_823 rfl ?_
        refine jm_iconst (pc := 824) (v := 2) d_Law_law_824 ci_2 ?_
        refine jm_iadd (pc := 825) d_Law_law_825 ?_
        refine jm_sld (pc := 826) d_Law_law_826 rfl (fun v162 => ?_)
        refine jm_Vi (pc := 827) (Y' := mY_X_cost) (i := 1) (avs := [.int v161, .int v162]) (rest := []) (s_X_cost_ok s v161 v162) ok_X_cost (l0_Law__X_cost L xs) ml_Law_109 im_X_cost se_X_cost d_Law_law_827 rfl sh_1 rfl rfl ge_1 le_1_78 rfl (Nat.le_of_ble_eq_true rfl) (Nat.le_of_ble_eq_true rfl) (Nat.le_of_ble_eq_true rfl) (Nat.le_of_ble_eq_true rfl) (fun v163 s164 => ?_)
        refine jm_aload_n (pc := 830) (q := 2) (x := 59) d_Law_law_830 rfl ?_
        refine jm_aload_n (pc := 831) (q := 0) (x := 0) d_Law_law_831 rfl ?_
        refine jm_iload_n (pc := 832) (q := 3) (x := x3) d_Law_law_832 rfl ?_
        refine jm_iconst (pc := 833) (v := 1) d_Law_law_833 ci_1 ?_
        refine jm_iadd (pc := 834) d_Law_law_834 ?_
        refine jm_sld (pc := 835) d_Law_law_835 rfl (fun v165 => ?_)
        refine jm_aload_n (pc := 836) (q := 0) (x := 0) d_Law_law_836 rfl ?_
        refine jm_iload_n (pc := 837) (q := 3) (x := x3) d_Law_law_837 rfl ?_
        refine jm_iconst (pc := 838) (v := 2) d_Law_law_838 ci_2 ?_
        refine jm_iadd (pc := 839) d_Law_law_839 ?_
        refine jm_sld (pc := 840) d_Law_law_840 rfl (fun v166 => ?_)
        refine jm_Vi (pc := 841) (Y' := mY_Z_cost) (i := 59) (avs := [.int v165, .int v166]) (rest := [.int v163]) (s_Z_cost_ok s164 v165 v166) ok_Z_cost (l0_Law__Z_cost L xs) ml_Law_112 im_Z_cost se_Z_cost d_Law_law_841 rfl sh_59 rfl rfl ge_59 le_59_78 rfl (Nat.le_of_ble_eq_true rfl) (Nat.le_of_ble_eq_true rfl) (Nat.le_of_ble_eq_true rfl) (Nat.le_of_ble_eq_true rfl) (fun v167 s168 => ?_)
        refine jm_icmp_eq (pc := 844) (tgt := 964) d_Law_law_844 (by decide) ?_ ?_
        · refine jm_iinc (pc := 964) (q := 3) (x := x3) (v := 6) (L2 := [(3, .int (x3 + 6)), (0, .ref 0), (1, .ref 1), (2, .ref 59)]) d_Law_law_964 rfl ci_6 (Nat.le_of_ble_eq_true rfl) rfl ?_
          refine jm_goto (pc := 967) (tgt := 18) d_Law_law_967 (by decide) ?_
          refine jm_sub (L2 := [(0, .ref 0), (1, .ref 1), (2, .ref 59), (3, .int (x3 + 6))]) [1, 2, 3, 0] rfl ?_
          exact ih (x3 + 6) s168
        · refine jm_iconst (pc := 847) (v := 0) d_Law_law_847 ci_0 ?_
          exact jm_iret (pc := 848) (x := 0) d_Law_law_848 rfl (by decide) rfl rfl rfl
      refine jm_case 23 ?_ (fun h23 => ?_)
      · refine jm_tswIn (pc := 33) (tgt := 849) d_Law_law_33 (by decide) (by decide) (off := 816) (by decide) (by decide) ?_
        refine jm_aload_n (pc := 849) (q := 1) (x := 1) d_Law_law_849 rfl ?_
        refine jm_aload_n (pc := 850) (q := 0) (x := 0) d_Law_law_850 rfl ?_
        refine jm_iload_n (pc := 851) (q := 3) (x := x3) d_Law_law_851 rfl ?_
        refine jm_iconst (pc := 852) (v := 1) d_Law_law_852 ci_1 ?_
        refine jm_iadd (pc := 853) d_Law_law_853 ?_
        refine jm_sld (pc := 854) d_Law_law_854 rfl (fun v169 => ?_)
        refine jm_aload_n (pc := 855) (q := 0) (x := 0) d_Law_law_855 rfl ?_
        refine jm_iload_n (pc := 856) (q := 3) (x := x3) d_Law_law_856 rfl ?_
        refine jm_iconst (pc := 857) (v := 2) d_Law_law_857 ci_2 ?_
        refine jm_iadd (pc := 858) d_Law_law_858 ?_
        refine jm_sld (pc := 859) d_Law_law_859 rfl (fun v170 => ?_)
        refine jm_Vp (pc := 860) (Y' := mY_X_sends) (i := 1) (avs := [.int v169, .int v170]) (rest := []) (s_X_sends_ok s v169 v170) ok_X_sends (l0_Law__X_sends L xs) ml_Law_113 im_X_sends se_X_sends d_Law_law_860 rfl sh_1 rfl rfl ge_1 le_1_78 rfl (Nat.le_of_ble_eq_true rfl) (Nat.le_of_ble_eq_true rfl) (Nat.le_of_ble_eq_true rfl) (Nat.le_of_ble_eq_true rfl) (fun v171 => ?_)
        refine jm_aload_n (pc := 863) (q := 2) (x := 59) d_Law_law_863 rfl ?_
        refine jm_aload_n (pc := 864) (q := 0) (x := 0) d_Law_law_864 rfl ?_
        refine jm_iload_n (pc := 865) (q := 3) (x := x3) d_Law_law_865 rfl ?_
        refine jm_iconst (pc := 866) (v := 1) d_Law_law_866 ci_1 ?_
        refine jm_iadd (pc := 867) d_Law_law_867 ?_
        refine jm_sld (pc := 868) d_Law_law_868 rfl (fun v172 => ?_)
        refine jm_aload_n (pc := 869) (q := 0) (x := 0) d_Law_law_869 rfl ?_
        refine jm_iload_n (pc := 870) (q := 3) (x := x3) d_Law_law_870 rfl ?_
        refine jm_iconst (pc := 871) (v := 2) d_Law_law_871 ci_2 ?_
        refine jm_iadd (pc := 872) d_Law_law_872 ?_
        refine jm_sld (pc := 873) d_Law_law_873 rfl (fun v173 => ?_)
        refine jm_Vp (pc := 874) (Y' := mY_Z_sends) (i := 59) (avs := [.int v172, .int v173]) (rest := [.int v171]) (s_Z_sends_ok s v172 v173) ok_Z_sends (l0_Law__Z_sends L xs) ml_Law_116 im_Z_sends se_Z_sends d_Law_law_874 rfl sh_59 rfl rfl ge_59 le_59_78 rfl (Nat.le_of_ble_eq_true rfl) (Nat.le_of_ble_eq_true rfl) (Nat.le_of_ble_eq_true rfl) (Nat.le_of_ble_eq_true rfl) (fun v174 => ?_)
        refine jm_icmp_eq (pc := 877) (tgt := 964) d_Law_law_877 (by decide) ?_ ?_
        · refine jm_iinc (pc := 964) (q := 3) (x := x3) (v := 6) (L2 := [(3, .int (x3 + 6)), (0, .ref 0), (1, .ref 1), (2, .ref 59)]) d_Law_law_964 rfl ci_6 (Nat.le_of_ble_eq_true rfl) rfl ?_
          refine jm_goto (pc := 967) (tgt := 18) d_Law_law_967 (by decide) ?_
          refine jm_sub (L2 := [(0, .ref 0), (1, .ref 1), (2, .ref 59), (3, .int (x3 + 6))]) [1, 2, 3, 0] rfl ?_
          exact ih (x3 + 6) s
        · refine jm_iconst (pc := 880) (v := 0) d_Law_law_880 ci_0 ?_
          exact jm_iret (pc := 881) (x := 0) d_Law_law_881 rfl (by decide) rfl rfl rfl
      refine jm_case 24 ?_ (fun h24 => ?_)
      · refine jm_tswIn (pc := 33) (tgt := 882) d_Law_law_33 (by decide) (by decide) (off := 849) (by decide) (by decide) ?_
        refine jm_aload_n (pc := 882) (q := 1) (x := 1) d_Law_law_882 rfl ?_
        refine jm_aload_n (pc := 883) (q := 0) (x := 0) d_Law_law_883 rfl ?_
        refine jm_iload_n (pc := 884) (q := 3) (x := x3) d_Law_law_884 rfl ?_
        refine jm_iconst (pc := 885) (v := 1) d_Law_law_885 ci_1 ?_
        refine jm_iadd (pc := 886) d_Law_law_886 ?_
        refine jm_sld (pc := 887) d_Law_law_887 rfl (fun v175 => ?_)
        refine jm_aload_n (pc := 888) (q := 0) (x := 0) d_Law_law_888 rfl ?_
        refine jm_iload_n (pc := 889) (q := 3) (x := x3) d_Law_law_889 rfl ?_
        refine jm_iconst (pc := 890) (v := 2) d_Law_law_890 ci_2 ?_
        refine jm_iadd (pc := 891) d_Law_law_891 ?_
        refine jm_sld (pc := 892) d_Law_law_892 rfl (fun v176 => ?_)
        refine jm_Vp (pc := 893) (Y' := mY_X_unbelieved) (i := 1) (avs := [.int v175, .int v176]) (rest := []) (s_X_unbelieved_ok s v175 v176) ok_X_unbelieved (l0_Law__X_unbelieved L xs) ml_Law_117 im_X_unbelieved se_X_unbelieved d_Law_law_893 rfl sh_1 rfl rfl ge_1 le_1_78 rfl (Nat.le_of_ble_eq_true rfl) (Nat.le_of_ble_eq_true rfl) (Nat.le_of_ble_eq_true rfl) (Nat.le_of_ble_eq_true rfl) (fun v177 => ?_)
        refine jm_aload_n (pc := 896) (q := 2) (x := 59) d_Law_law_896 rfl ?_
        refine jm_aload_n (pc := 897) (q := 0) (x := 0) d_Law_law_897 rfl ?_
        refine jm_iload_n (pc := 898) (q := 3) (x := x3) d_Law_law_898 rfl ?_
        refine jm_iconst (pc := 899) (v := 1) d_Law_law_899 ci_1 ?_
        refine jm_iadd (pc := 900) d_Law_law_900 ?_
        refine jm_sld (pc := 901) d_Law_law_901 rfl (fun v178 => ?_)
        refine jm_aload_n (pc := 902) (q := 0) (x := 0) d_Law_law_902 rfl ?_
        refine jm_iload_n (pc := 903) (q := 3) (x := x3) d_Law_law_903 rfl ?_
        refine jm_iconst (pc := 904) (v := 2) d_Law_law_904 ci_2 ?_
        refine jm_iadd (pc := 905) d_Law_law_905 ?_
        refine jm_sld (pc := 906) d_Law_law_906 rfl (fun v179 => ?_)
        refine jm_Vp (pc := 907) (Y' := mY_Z_unbelieved) (i := 59) (avs := [.int v178, .int v179]) (rest := [.int v177]) (s_Z_unbelieved_ok s v178 v179) ok_Z_unbelieved (l0_Law__Z_unbelieved L xs) ml_Law_120 im_Z_unbelieved se_Z_unbelieved d_Law_law_907 rfl sh_59 rfl rfl ge_59 le_59_78 rfl (Nat.le_of_ble_eq_true rfl) (Nat.le_of_ble_eq_true rfl) (Nat.le_of_ble_eq_true rfl) (Nat.le_of_ble_eq_true rfl) (fun v180 => ?_)
        refine jm_icmp_eq (pc := 910) (tgt := 964) d_Law_law_910 (by decide) ?_ ?_
        · refine jm_iinc (pc := 964) (q := 3) (x := x3) (v := 6) (L2 := [(3, .int (x3 + 6)), (0, .ref 0), (1, .ref 1), (2, .ref 59)]) d_Law_law_964 rfl ci_6 (Nat.le_of_ble_eq_true rfl) rfl ?_
          refine jm_goto (pc := 967) (tgt := 18) d_Law_law_967 (by decide) ?_
          refine jm_sub (L2 := [(0, .ref 0), (1, .ref 1), (2, .ref 59), (3, .int (x3 + 6))]) [1, 2, 3, 0] rfl ?_
          exact ih (x3 + 6) s
        · refine jm_iconst (pc := 913) (v := 0) d_Law_law_913 ci_0 ?_
          exact jm_iret (pc := 914) (x := 0) d_Law_law_914 rfl (by decide) rfl rfl rfl
      refine jm_case 25 ?_ (fun h25 => ?_)
      · refine jm_tswIn (pc := 33) (tgt := 915) d_Law_law_33 (by decide) (by decide) (off := 882) (by decide) (by decide) ?_
        refine jm_aload_n (pc := 915) (q := 1) (x := 1) d_Law_law_915 rfl ?_
        refine jm_Vi (pc := 916) (Y' := mY_X_keep) (i := 1) (avs := []) (rest := []) (s_X_keep_ok s) ok_X_keep (l0_Law__X_keep L xs) ml_Law_121 im_X_keep se_X_keep d_Law_law_916 rfl sh_1 rfl rfl ge_1 le_1_78 rfl (Nat.le_of_ble_eq_true rfl) (Nat.le_of_ble_eq_true rfl) (Nat.le_of_ble_eq_true rfl) (Nat.le_of_ble_eq_true rfl) (fun v181 s182 => ?_)
        refine jm_aload_n (pc := 919) (q := 2) (x := 59) d_Law_law_919 rfl ?_
        refine jm_Vi (pc := 920) (Y' := mY_Z_keep) (i := 59) (avs := []) (rest := [.int v181]) (s_Z_keep_ok s182) ok_Z_keep (l0_Law__Z_keep L xs) ml_Law_124 im_Z_keep se_Z_keep d_Law_law_920 rfl sh_59 rfl rfl ge_59 le_59_78 rfl (Nat.le_of_ble_eq_true rfl) (Nat.le_of_ble_eq_true rfl) (Nat.le_of_ble_eq_true rfl) (Nat.le_of_ble_eq_true rfl) (fun v183 s184 => ?_)
        refine jm_icmp_eq (pc := 923) (tgt := 964) d_Law_law_923 (by decide) ?_ ?_
        · refine jm_iinc (pc := 964) (q := 3) (x := x3) (v := 6) (L2 := [(3, .int (x3 + 6)), (0, .ref 0), (1, .ref 1), (2, .ref 59)]) d_Law_law_964 rfl ci_6 (Nat.le_of_ble_eq_true rfl) rfl ?_
          refine jm_goto (pc := 967) (tgt := 18) d_Law_law_967 (by decide) ?_
          refine jm_sub (L2 := [(0, .ref 0), (1, .ref 1), (2, .ref 59), (3, .int (x3 + 6))]) [1, 2, 3, 0] rfl ?_
          exact ih (x3 + 6) s184
        · refine jm_iconst (pc := 926) (v := 0) d_Law_law_926 ci_0 ?_
          exact jm_iret (pc := 927) (x := 0) d_Law_law_927 rfl (by decide) rfl rfl rfl
      refine jm_case 26 ?_ (fun h26 => ?_)
      · refine jm_tswIn (pc := 33) (tgt := 928) d_Law_law_33 (by decide) (by decide) (off := 895) (by decide) (by decide) ?_
        refine jm_aload_n (pc := 928) (q := 1) (x := 1) d_Law_law_928 rfl ?_
        refine jm_Vi (pc := 929) (Y' := mY_X_back) (i := 1) (avs := []) (rest := []) (s_X_back_ok s) ok_X_back (l0_Law__X_back L xs) ml_Law_125 im_X_back se_X_back d_Law_law_929 rfl sh_1 rfl rfl ge_1 le_1_78 rfl (Nat.le_of_ble_eq_true rfl) (Nat.le_of_ble_eq_true rfl) (Nat.le_of_ble_eq_true rfl) (Nat.le_of_ble_eq_true rfl) (fun v185 s186 => ?_)
        refine jm_aload_n (pc := 932) (q := 2) (x := 59) d_Law_law_932 rfl ?_
        refine jm_Vi (pc := 933) (Y' := mY_Z_back) (i := 59) (avs := []) (rest := [.int v185]) (s_Z_back_ok s186) ok_Z_back (l0_Law__Z_back L xs) ml_Law_128 im_Z_back se_Z_back d_Law_law_933 rfl sh_59 rfl rfl ge_59 le_59_78 rfl (Nat.le_of_ble_eq_true rfl) (Nat.le_of_ble_eq_true rfl) (Nat.le_of_ble_eq_true rfl) (Nat.le_of_ble_eq_true rfl) (fun v187 s188 => ?_)
        refine jm_icmp_eq (pc := 936) (tgt := 964) d_Law_law_936 (by decide) ?_ ?_
        · refine jm_iinc (pc := 964) (q := 3) (x := x3) (v := 6) (L2 := [(3, .int (x3 + 6)), (0, .ref 0), (1, .ref 1), (2, .ref 59)]) d_Law_law_964 rfl ci_6 (Nat.le_of_ble_eq_true rfl) rfl ?_
          refine jm_goto (pc := 967) (tgt := 18) d_Law_law_967 (by decide) ?_
          refine jm_sub (L2 := [(0, .ref 0), (1, .ref 1), (2, .ref 59), (3, .int (x3 + 6))]) [1, 2, 3, 0] rfl ?_
          exact ih (x3 + 6) s188
        · refine jm_iconst (pc := 939) (v := 0) d_Law_law_939 ci_0 ?_
          exact jm_iret (pc := 940) (x := 0) d_Law_law_940 rfl (by decide) rfl rfl rfl
      refine jm_case 27 ?_ (fun h27 => ?_)
      · refine jm_tswIn (pc := 33) (tgt := 941) d_Law_law_33 (by decide) (by decide) (off := 908) (by decide) (by decide) ?_
        refine jm_aload_n (pc := 941) (q := 1) (x := 1) d_Law_law_941 rfl ?_
        refine jm_aload_n (pc := 942) (q := 0) (x := 0) d_Law_law_942 rfl ?_
        refine jm_iload_n (pc := 943) (q := 3) (x := x3) d_Law_law_943 rfl ?_
        refine jm_iconst (pc := 944) (v := 1) d_Law_law_944 ci_1 ?_
        refine jm_iadd (pc := 945) d_Law_law_945 ?_
        refine jm_sld (pc := 946) d_Law_law_946 rfl (fun v189 => ?_)
        refine jm_Vp (pc := 947) (Y' := mY_X_count) (i := 1) (avs := [.int v189]) (rest := []) (s_X_count_ok s v189) ok_X_count (l0_Law__X_count L xs) ml_Law_129 im_X_count se_X_count d_Law_law_947 rfl sh_1 rfl rfl ge_1 le_1_78 rfl (Nat.le_of_ble_eq_true rfl) (Nat.le_of_ble_eq_true rfl) (Nat.le_of_ble_eq_true rfl) (Nat.le_of_ble_eq_true rfl) (fun v190 => ?_)
        refine jm_aload_n (pc := 950) (q := 2) (x := 59) d_Law_law_950 rfl ?_
        refine jm_aload_n (pc := 951) (q := 0) (x := 0) d_Law_law_951 rfl ?_
        refine jm_iload_n (pc := 952) (q := 3) (x := x3) d_Law_law_952 rfl ?_
        refine jm_iconst (pc := 953) (v := 1) d_Law_law_953 ci_1 ?_
        refine jm_iadd (pc := 954) d_Law_law_954 ?_
        refine jm_sld (pc := 955) d_Law_law_955 rfl (fun v191 => ?_)
        refine jm_Vp (pc := 956) (Y' := mY_Z_count) (i := 59) (avs := [.int v191]) (rest := [.int v190]) (s_Z_count_ok s v191) ok_Z_count (l0_Law__Z_count L xs) ml_Law_132 im_Z_count se_Z_count d_Law_law_956 rfl sh_59 rfl rfl ge_59 le_59_78 rfl (Nat.le_of_ble_eq_true rfl) (Nat.le_of_ble_eq_true rfl) (Nat.le_of_ble_eq_true rfl) (Nat.le_of_ble_eq_true rfl) (fun v192 => ?_)
        refine jm_icmp_eq (pc := 959) (tgt := 964) d_Law_law_959 (by decide) ?_ ?_
        · refine jm_iinc (pc := 964) (q := 3) (x := x3) (v := 6) (L2 := [(3, .int (x3 + 6)), (0, .ref 0), (1, .ref 1), (2, .ref 59)]) d_Law_law_964 rfl ci_6 (Nat.le_of_ble_eq_true rfl) rfl ?_
          refine jm_goto (pc := 967) (tgt := 18) d_Law_law_967 (by decide) ?_
          refine jm_sub (L2 := [(0, .ref 0), (1, .ref 1), (2, .ref 59), (3, .int (x3 + 6))]) [1, 2, 3, 0] rfl ?_
          exact ih (x3 + 6) s
        · refine jm_iconst (pc := 962) (v := 0) d_Law_law_962 ci_0 ?_
          exact jm_iret (pc := 963) (x := 0) d_Law_law_963 rfl (by decide) rfl rfl rfl
      refine jm_tswOut (pc := 33) (tgt := 964) d_Law_law_33 (by have e0 := jm_neT 0 h0 (a := 0) (by decide); have e1 := jm_neT 1 h1 (a := 1) (by decide); have e2 := jm_neT 2 h2 (a := 2) (by decide); have e3 := jm_neT 3 h3 (a := 3) (by decide); have e4 := jm_neT 4 h4 (a := 4) (by decide); have e5 := jm_neT 5 h5 (a := 5) (by decide); have e6 := jm_neT 6 h6 (a := 6) (by decide); have e7 := jm_neT 7 h7 (a := 7) (by decide); have e8 := jm_neT 8 h8 (a := 8) (by decide); have e9 := jm_neT 9 h9 (a := 9) (by decide); have e10 := jm_neT 10 h10 (a := 10) (by decide); have e11 := jm_neT 11 h11 (a := 11) (by decide); have e12 := jm_neT 12 h12 (a := 12) (by decide); have e13 := jm_neT 13 h13 (a := 13) (by decide); have e14 := jm_neT 14 h14 (a := 14) (by decide); have e15 := jm_neT 15 h15 (a := 15) (by decide); have e16 := jm_neT 16 h16 (a := 16) (by decide); have e17 := jm_neT 17 h17 (a := 17) (by decide); have e18 := jm_neT 18 h18 (a := 18) (by decide); have e19 := jm_neT 19 h19 (a := 19) (by decide); have e20 := jm_neT 20 h20 (a := 20) (by decide); have e21 := jm_neT 21 h21 (a := 21) (by decide); have e22 := jm_neT 22 h22 (a := 22) (by decide); have e23 := jm_neT 23 h23 (a := 23) (by decide); have e24 := jm_neT 24 h24 (a := 24) (by decide); have e25 := jm_neT 25 h25 (a := 25) (by decide); have e26 := jm_neT 26 h26 (a := 26) (by decide); have e27 := jm_neT 27 h27 (a := 27) (by decide); omega) (by decide) ?_
      refine jm_iinc (pc := 964) (q := 3) (x := x3) (v := 6) (L2 := [(3, .int (x3 + 6)), (0, .ref 0), (1, .ref 1), (2, .ref 59)]) d_Law_law_964 rfl ci_6 (Nat.le_of_ble_eq_true rfl) rfl ?_
      refine jm_goto (pc := 967) (tgt := 18) d_Law_law_967 (by decide) ?_
      refine jm_sub (L2 := [(0, .ref 0), (1, .ref 1), (2, .ref 59), (3, .int (x3 + 6))]) [1, 2, 3, 0] rfl ?_
      exact ih (x3 + 6) s
def s_Law_law_t0 (L : Nat) (xs : Nat → Int32) (s : jm_M) : Option (Int32 × jm_M) := jm_ev (jm_z s 1) (fun s1 => jm_bd (s_X_init s1) (fun s2 => jm_ev (jm_z s2 59) (fun s3 => jm_bd (s_Z_init s3) (fun s4 => s_Law_law_t0_L18 L xs 5000 0 s4))))
set_option maxRecDepth 100000 in
set_option maxHeartbeats 4000000 in
theorem s_Law_law_t0_ok (L : Nat) (xs : Nat → Int32) (s : jm_M) : jm_Sim (mY_Law L xs) 0 0 0 [(0, .ref 0)] [] 0 mr_0 s (s_Law_law_t0 L xs s) (jm_rP 78 mr_154) := by
  unfold s_Law_law_t0
  refine jm_new (pc := 0) (ci := 7) d_Law_law_0 inY8 rfl tyX8_ok ft_X okt_X cl_Law_7 it_X ini_X sh_1 (Nat.le_of_ble_eq_true rfl) (Nat.le_of_ble_eq_true rfl) (fun s1 => ?_)
  show jm_Sim _ 1 14 3 [(0, .ref 0)] [.ref 1] 1 mr_1 s1 _ _
  refine jm_dup (pc := 3) d_Law_law_3 rfl ?_
  refine jm_runI (pc := 4) (Y' := mY_X_init) (i := 1) (avs := []) (rest := [.ref 1]) (s_X_init_ok s1) ok_X_init (lk_Law_law__X_init L xs) ml_Law_9 im_X_init rfl rfl d_Law_law_4 rfl ge_1 rfl (Nat.le_of_ble_eq_true rfl) (Nat.le_of_ble_eq_true rfl) (Nat.le_of_ble_eq_true rfl) (Nat.le_of_ble_eq_true rfl) (fun _ _ _ => rfl) (fun s2 => ?_)
  show jm_Sim _ 58 1338 7 [(0, .ref 0)] [.ref 1] 58 mr_115 s2 _ _
  refine jm_astore_n (pc := 7) (i := 1) (L2 := [(1, .ref 1), (0, .ref 0)]) d_Law_law_7 rfl (Nat.le_of_ble_eq_true rfl) rfl ?_
  refine jm_new (pc := 8) (ci := 8) d_Law_law_8 inY9 rfl tyX9_ok ft_Z okt_Z cl_Law_10 it_Z ini_Z sh_59 (Nat.le_of_ble_eq_true rfl) (Nat.le_of_ble_eq_true rfl) (fun s3 => ?_)
  show jm_Sim _ 59 1368 11 [(1, .ref 1), (0, .ref 0)] [.ref 59] 59 mr_116 s3 _ _
  refine jm_dup (pc := 11) d_Law_law_11 rfl ?_
  refine jm_runI (pc := 12) (Y' := mY_Z_init) (i := 59) (avs := []) (rest := [.ref 59]) (s_Z_init_ok s3) ok_Z_init (lk_Law_law__Z_init L xs) ml_Law_12 im_Z_init rfl rfl d_Law_law_12 rfl ge_59 rfl (Nat.le_of_ble_eq_true rfl) (Nat.le_of_ble_eq_true rfl) (Nat.le_of_ble_eq_true rfl) (Nat.le_of_ble_eq_true rfl) (fun _ _ _ => rfl) (fun s4 => ?_)
  show jm_Sim _ 78 2948 15 [(1, .ref 1), (0, .ref 0)] [.ref 59] 78 mr_154 s4 _ _
  refine jm_astore_n (pc := 15) (i := 2) (L2 := [(2, .ref 59), (1, .ref 1), (0, .ref 0)]) d_Law_law_15 rfl (Nat.le_of_ble_eq_true rfl) rfl ?_
  refine jm_iconst (pc := 16) (v := 0) d_Law_law_16 ci_0 ?_
  refine jm_istore_n (pc := 17) (i := 3) (L2 := [(3, .int 0), (2, .ref 59), (1, .ref 1), (0, .ref 0)]) d_Law_law_17 rfl (Nat.le_of_ble_eq_true rfl) rfl ?_
  refine jm_sub (L2 := [(0, .ref 0), (1, .ref 1), (2, .ref 59), (3, .int 0)]) [3, 2, 1, 0] rfl ?_
  exact s_Law_law_t0_L18_ok L xs 5000 0 s4
