theorem d_Z_item_0 : decode (jm_cd mY_Z_item) 0 = .ok (.aload_n 0, 1) := by decide +kernel
theorem d_Z_item_1 : decode (jm_cd mY_Z_item) 1 = .ok (.getfield 7, 3) := by decide +kernel
theorem d_Z_item_4 : decode (jm_cd mY_Z_item) 4 = .ok (.aload_n 0, 1) := by decide +kernel
theorem d_Z_item_5 : decode (jm_cd mY_Z_item) 5 = .ok (.getfield 79, 3) := by decide +kernel
theorem d_Z_item_8 : decode (jm_cd mY_Z_item) 8 = .ok (.iaload, 1) := by decide +kernel
theorem d_Z_item_9 : decode (jm_cd mY_Z_item) 9 = .ok (.istore_n 1, 1) := by decide +kernel
theorem d_Z_item_10 : decode (jm_cd mY_Z_item) 10 = .ok (.aload_n 0, 1) := by decide +kernel
theorem d_Z_item_11 : decode (jm_cd mY_Z_item) 11 = .ok (.dup, 1) := by decide +kernel
theorem d_Z_item_12 : decode (jm_cd mY_Z_item) 12 = .ok (.getfield 79, 3) := by decide +kernel
theorem d_Z_item_15 : decode (jm_cd mY_Z_item) 15 = .ok (.iconst 1, 1) := by decide +kernel
theorem d_Z_item_16 : decode (jm_cd mY_Z_item) 16 = .ok (.iadd, 1) := by decide +kernel
theorem d_Z_item_17 : decode (jm_cd mY_Z_item) 17 = .ok (.putfield 79, 3) := by decide +kernel
theorem d_Z_item_20 : decode (jm_cd mY_Z_item) 20 = .ok (.iload_n 1, 1) := by decide +kernel
theorem d_Z_item_21 : decode (jm_cd mY_Z_item) 21 = .ok (.bipush 104, 2) := by decide +kernel
theorem d_Z_item_23 : decode (jm_cd mY_Z_item) 23 = .ok (.if_icmp .ne 8, 3) := by decide +kernel
theorem d_Z_item_26 : decode (jm_cd mY_Z_item) 26 = .ok (.aload_n 0, 1) := by decide +kernel
theorem d_Z_item_27 : decode (jm_cd mY_Z_item) 27 = .ok (.invokevirtual 111, 3) := by decide +kernel
theorem d_Z_item_30 : decode (jm_cd mY_Z_item) 30 = .ok (.ireturn, 1) := by decide +kernel
theorem d_Z_item_31 : decode (jm_cd mY_Z_item) 31 = .ok (.aload_n 0, 1) := by decide +kernel
theorem d_Z_item_32 : decode (jm_cd mY_Z_item) 32 = .ok (.iconst 1, 1) := by decide +kernel
theorem d_Z_item_33 : decode (jm_cd mY_Z_item) 33 = .ok (.putfield 92, 3) := by decide +kernel
theorem d_Z_item_36 : decode (jm_cd mY_Z_item) 36 = .ok (.iload_n 1, 1) := by decide +kernel
theorem d_Z_item_37 : decode (jm_cd mY_Z_item) 37 = .ok (.tableswitch 104 103 119 #[98, 104, 104, 104, 104, 98, 104, 104, 104, 104, 104, 88, 98, 104, 104, 83, 93], 83) := by decide +kernel
theorem d_Z_item_120 : decode (jm_cd mY_Z_item) 120 = .ok (.aload_n 0, 1) := by decide +kernel
theorem d_Z_item_121 : decode (jm_cd mY_Z_item) 121 = .ok (.invokevirtual 115, 3) := by decide +kernel
theorem d_Z_item_124 : decode (jm_cd mY_Z_item) 124 = .ok (.ireturn, 1) := by decide +kernel
theorem d_Z_item_125 : decode (jm_cd mY_Z_item) 125 = .ok (.aload_n 0, 1) := by decide +kernel
theorem d_Z_item_126 : decode (jm_cd mY_Z_item) 126 = .ok (.invokevirtual 118, 3) := by decide +kernel
theorem d_Z_item_129 : decode (jm_cd mY_Z_item) 129 = .ok (.ireturn, 1) := by decide +kernel
theorem d_Z_item_130 : decode (jm_cd mY_Z_item) 130 = .ok (.aload_n 0, 1) := by decide +kernel
theorem d_Z_item_131 : decode (jm_cd mY_Z_item) 131 = .ok (.invokevirtual 121, 3) := by decide +kernel
theorem d_Z_item_134 : decode (jm_cd mY_Z_item) 134 = .ok (.ireturn, 1) := by decide +kernel
theorem d_Z_item_135 : decode (jm_cd mY_Z_item) 135 = .ok (.aload_n 0, 1) := by decide +kernel
theorem d_Z_item_136 : decode (jm_cd mY_Z_item) 136 = .ok (.iload_n 1, 1) := by decide +kernel
theorem d_Z_item_137 : decode (jm_cd mY_Z_item) 137 = .ok (.invokevirtual 124, 3) := by decide +kernel
theorem d_Z_item_140 : decode (jm_cd mY_Z_item) 140 = .ok (.ireturn, 1) := by decide +kernel
theorem d_Z_item_141 : decode (jm_cd mY_Z_item) 141 = .ok (.iconst 0, 1) := by decide +kernel
theorem d_Z_item_142 : decode (jm_cd mY_Z_item) 142 = .ok (.ireturn, 1) := by decide +kernel
def s_Z_item_J135 (x1 : Int32) (s : jm_M) : Option (Int32 × jm_M) := jm_b2 (s_Z_spanItem s x1) (fun v4 s5 => (jm_gb v4 (some (v4, s5))))
set_option maxRecDepth 100000 in
set_option maxHeartbeats 4000000 in
theorem s_Z_item_J135_ok (x1 : Int32) (s : jm_M) : jm_Sim mY_Z_item 0 0 135 [(0, .ref 59), (1, .int x1)] [] 78 mr_154 s (s_Z_item_J135 x1 s) (jm_rP 78 mr_154) := by
  unfold s_Z_item_J135
  refine jm_aload_n (pc := 135) (q := 0) (x := 59) d_Z_item_135 rfl ?_
  refine jm_iload_n (pc := 136) (q := 1) (x := x1) d_Z_item_136 rfl ?_
  refine jm_Vi (pc := 137) (Y' := mY_Z_spanItem) (i := 59) (avs := [.int x1]) (rest := []) (s_Z_spanItem_ok s x1) ok_Z_spanItem l0_Z_item__Z_spanItem ml_Z_124 im_Z_spanItem se_Z_spanItem d_Z_item_137 rfl sh_59 rfl rfl ge_59 le_59_78 rfl (Nat.le_of_ble_eq_true rfl) (Nat.le_of_ble_eq_true rfl) (Nat.le_of_ble_eq_true rfl) (Nat.le_of_ble_eq_true rfl) (fun v4 s5 => ?_)
  exact jm_zret (pc := 140) d_Z_item_140 rfl rfl rfl rfl
def s_Z_item (s : jm_M) : Option (Int32 × jm_M) := jm_ldi s 60 300 (s.1 59 15) (fun v1 => jm_ev (jm_si s 59 15 ((s.1 59 15) + 1)) (fun s2 => (if v1 = 104 then jm_b2 (s_Z_hillItem s2) (fun v12 s13 => (jm_gb v12 (some (v12, s13)))) else jm_ev (jm_si s2 59 19 1) (fun s3 => (if v1 = 103 then s_Z_item_J135 v1 s3 else (if v1 = 104 then (some (0, s3)) else (if v1 = 105 then (some (0, s3)) else (if v1 = 106 then (some (0, s3)) else (if v1 = 107 then (some (0, s3)) else (if v1 = 108 then s_Z_item_J135 v1 s3 else (if v1 = 109 then (some (0, s3)) else (if v1 = 110 then (some (0, s3)) else (if v1 = 111 then (some (0, s3)) else (if v1 = 112 then (some (0, s3)) else (if v1 = 113 then (some (0, s3)) else (if v1 = 114 then jm_b2 (s_Z_ruleItem s3) (fun v6 s7 => (jm_gb v6 (some (v6, s7)))) else (if v1 = 115 then s_Z_item_J135 v1 s3 else (if v1 = 116 then (some (0, s3)) else (if v1 = 117 then (some (0, s3)) else (if v1 = 118 then jm_b2 (s_Z_seeItem s3) (fun v8 s9 => (jm_gb v8 (some (v8, s9)))) else (if v1 = 119 then jm_b2 (s_Z_woodItem s3) (fun v10 s11 => (jm_gb v10 (some (v10, s11)))) else (some (0, s3)))))))))))))))))))))))
set_option maxRecDepth 100000 in
set_option maxHeartbeats 4000000 in
theorem s_Z_item_ok (s : jm_M) : jm_Sim mY_Z_item 0 0 0 [(0, .ref 59)] [] 78 mr_154 s (s_Z_item s) (jm_rP 78 mr_154) := by
  unfold s_Z_item
  refine jm_aload_n (pc := 0) (q := 0) (x := 59) d_Z_item_0 rfl ?_
  refine jm_gr (pc := 1) (i := 59) d_Z_item_1 fo_Z_7 sh_59 ge_59 le_59_78 rfl (fun _ => rfl) mr_154_59_1 ge_60 ?_
  refine jm_aload_n (pc := 4) (q := 0) (x := 59) d_Z_item_4 rfl ?_
  refine jm_gi (pc := 5) (i := 59) d_Z_item_5 fo_Z_79 sh_59 ge_59 le_59_78 rfl (fun _ => rfl) ?_
  refine jm_iald (pc := 8) d_Z_item_8 sh_60 ge_60 le_60_78 (fun v1 => ?_)
  refine jm_istore_n (pc := 9) (i := 1) (L2 := [(1, .int v1), (0, .ref 59)]) d_Z_item_9 rfl (Nat.le_of_ble_eq_true rfl) rfl ?_
  refine jm_aload_n (pc := 10) (q := 1) (x := 59) d_Z_item_10 rfl ?_
  refine jm_dup (pc := 11) d_Z_item_11 rfl ?_
  refine jm_gi (pc := 12) (i := 59) d_Z_item_12 fo_Z_79 sh_59 ge_59 le_59_78 rfl (fun _ => rfl) ?_
  refine jm_iconst (pc := 15) (v := 1) d_Z_item_15 ci_1 ?_
  refine jm_iadd (pc := 16) d_Z_item_16 ?_
  refine jm_pi (pc := 17) (i := 59) d_Z_item_17 fp_Z_79 sh_59 ge_59 le_59_78 rfl rfl rfl (fun _ _ _ => rfl) (fun s2 => ?_)
  refine jm_iload_n (pc := 20) (q := 0) (x := v1) d_Z_item_20 rfl ?_
  refine jm_bipush (pc := 21) (v := 104) d_Z_item_21 cb_104 ?_
  refine jm_icmp_ne (pc := 23) (tgt := 31) d_Z_item_23 (by decide) ?_ ?_
  · refine jm_aload_n (pc := 26) (q := 1) (x := 59) d_Z_item_26 rfl ?_
    refine jm_Vi (pc := 27) (Y' := mY_Z_hillItem) (i := 59) (avs := []) (rest := []) (s_Z_hillItem_ok s2) ok_Z_hillItem l0_Z_item__Z_hillItem ml_Z_111 im_Z_hillItem se_Z_hillItem d_Z_item_27 rfl sh_59 rfl rfl ge_59 le_59_78 rfl (Nat.le_of_ble_eq_true rfl) (Nat.le_of_ble_eq_true rfl) (Nat.le_of_ble_eq_true rfl) (Nat.le_of_ble_eq_true rfl) (fun v12 s13 => ?_)
    exact jm_zret (pc := 30) d_Z_item_30 rfl rfl rfl rfl
  · refine jm_aload_n (pc := 31) (q := 1) (x := 59) d_Z_item_31 rfl ?_
    refine jm_iconst (pc := 32) (v := 1) d_Z_item_32 ci_1 ?_
    refine jm_pi (pc := 33) (i := 59) d_Z_item_33 fp_Z_92 sh_59 ge_59 le_59_78 rfl (by decide) (by decide) (fun _ _ _ => rfl) (fun s3 => ?_)
    refine jm_iload_n (pc := 36) (q := 0) (x := v1) d_Z_item_36 rfl ?_
    refine jm_case 103 ?_ (fun h0 => ?_)
    · refine jm_tswIn (pc := 37) (tgt := 135) d_Z_item_37 (by decide) (by decide) (off := 98) (by decide) (by decide) ?_
      refine jm_sub (L2 := [(0, .ref 59), (1, .int v1)]) [1, 0] rfl ?_
      exact s_Z_item_J135_ok v1 s3
    refine jm_case 104 ?_ (fun h1 => ?_)
    · refine jm_tswIn (pc := 37) (tgt := 141) d_Z_item_37 (by decide) (by decide) (off := 104) (by decide) (by decide) ?_
      refine jm_iconst (pc := 141) (v := 0) d_Z_item_141 ci_0 ?_
      exact jm_iret (pc := 142) (x := 0) d_Z_item_142 rfl (by decide) rfl rfl rfl
    refine jm_case 105 ?_ (fun h2 => ?_)
    · refine jm_tswIn (pc := 37) (tgt := 141) d_Z_item_37 (by decide) (by decide) (off := 104) (by decide) (by decide) ?_
      refine jm_iconst (pc := 141) (v := 0) d_Z_item_141 ci_0 ?_
      exact jm_iret (pc := 142) (x := 0) d_Z_item_142 rfl (by decide) rfl rfl rfl
    refine jm_case 106 ?_ (fun h3 => ?_)
    · refine jm_tswIn (pc := 37) (tgt := 141) d_Z_item_37 (by decide) (by decide) (off := 104) (by decide) (by decide) ?_
      refine jm_iconst (pc := 141) (v := 0) d_Z_item_141 ci_0 ?_
      exact jm_iret (pc := 142) (x := 0) d_Z_item_142 rfl (by decide) rfl rfl rfl
    refine jm_case 107 ?_ (fun h4 => ?_)
    · refine jm_tswIn (pc := 37) (tgt := 141) d_Z_item_37 (by decide) (by decide) (off := 104) (by decide) (by decide) ?_
      refine jm_iconst (pc := 141) (v := 0) d_Z_item_141 ci_0 ?_
      exact jm_iret (pc := 142) (x := 0) d_Z_item_142 rfl (by decide) rfl rfl rfl
    refine jm_case 108 ?_ (fun h5 => ?_)
    · refine jm_tswIn (pc := 37) (tgt := 135) d_Z_item_37 (by decide) (by decide) (off := 98) (by decide) (by decide) ?_
      refine jm_sub (L2 := [(0, .ref 59), (1, .int v1)]) [1, 0] rfl ?_
      exact s_Z_item_J135_ok v1 s3
    refine jm_case 109 ?_ (fun h6 => ?_)
    · refine jm_tswIn (pc := 37) (tgt := 141) d_Z_item_37 (by decide) (by decide) (off := 104) (by decide) (by decide) ?_
      refine jm_iconst (pc := 141) (v := 0) d_Z_item_141 ci_0 ?_
      exact jm_iret (pc := 142) (x := 0) d_Z_item_142 rfl (by decide) rfl rfl rfl
    refine jm_case 110 ?_ (fun h7 => ?_)
    · refine jm_tswIn (pc := 37) (tgt := 141) d_Z_item_37 (by decide) (by decide) (off := 104) (by decide) (by decide) ?_
      refine jm_iconst (pc := 141) (v := 0) d_Z_item_141 ci_0 ?_
      exact jm_iret (pc := 142) (x := 0) d_Z_item_142 rfl (by decide) rfl rfl rfl
    refine jm_case 111 ?_ (fun h8 => ?_)
    · refine jm_tswIn (pc := 37) (tgt := 141) d_Z_item_37 (by decide) (by decide) (off := 104) (by decide) (by decide) ?_
      refine jm_iconst (pc := 141) (v := 0) d_Z_item_141 ci_0 ?_
      exact jm_iret (pc := 142) (x := 0) d_Z_item_142 rfl (by decide) rfl rfl rfl
    refine jm_case 112 ?_ (fun h9 => ?_)
    · refine jm_tswIn (pc := 37) (tgt := 141) d_Z_item_37 (by decide) (by decide) (off := 104) (by decide) (by decide) ?_
      refine jm_iconst (pc := 141) (v := 0) d_Z_item_141 ci_0 ?_
      exact jm_iret (pc := 142) (x := 0) d_Z_item_142 rfl (by decide) rfl rfl rfl
    refine jm_case 113 ?_ (fun h10 => ?_)
    · refine jm_tswIn (pc := 37) (tgt := 141) d_Z_item_37 (by decide) (by decide) (off := 104) (by decide) (by decide) ?_
      refine jm_iconst (pc := 141) (v := 0) d_Z_item_141 ci_0 ?_
      exact jm_iret (pc := 142) (x := 0) d_Z_item_142 rfl (by decide) rfl rfl rfl
    refine jm_case 114 ?_ (fun h11 => ?_)
    · refine jm_tswIn (pc := 37) (tgt := 125) d_Z_item_37 (by decide) (by decide) (off := 88) (by decide) (by decide) ?_
      refine jm_aload_n (pc := 125) (q := 1) (x := 59) d_Z_item_125 rfl ?_
      refine jm_Vi (pc := 126) (Y' := mY_Z_ruleItem) (i := 59) (avs := []) (rest := []) (s_Z_ruleItem_ok s3) ok_Z_ruleItem l0_Z_item__Z_ruleItem ml_Z_118 im_Z_ruleItem se_Z_ruleItem d_Z_item_126 rfl sh_59 rfl rfl ge_59 le_59_78 rfl (Nat.le_of_ble_eq_true rfl) (Nat.le_of_ble_eq_true rfl) (Nat.le_of_ble_eq_true rfl) (Nat.le_of_ble_eq_true rfl) (fun v6 s7 => ?_)
      exact jm_zret (pc := 129) d_Z_item_129 rfl rfl rfl rfl
    refine jm_case 115 ?_ (fun h12 => ?_)
    · refine jm_tswIn (pc := 37) (tgt := 135) d_Z_item_37 (by decide) (by decide) (off := 98) (by decide) (by decide) ?_
      refine jm_sub (L2 := [(0, .ref 59), (1, .int v1)]) [1, 0] rfl ?_
      exact s_Z_item_J135_ok v1 s3
    refine jm_case 116 ?_ (fun h13 => ?_)
    · refine jm_tswIn (pc := 37) (tgt := 141) d_Z_item_37 (by decide) (by decide) (off := 104) (by decide) (by decide) ?_
      refine jm_iconst (pc := 141) (v := 0) d_Z_item_141 ci_0 ?_
      exact jm_iret (pc := 142) (x := 0) d_Z_item_142 rfl (by decide) rfl rfl rfl
    refine jm_case 117 ?_ (fun h14 => ?_)
    · refine jm_tswIn (pc := 37) (tgt := 141) d_Z_item_37 (by decide) (by decide) (off := 104) (by decide) (by decide) ?_
      refine jm_iconst (pc := 141) (v := 0) d_Z_item_141 ci_0 ?_
      exact jm_iret (pc := 142) (x := 0) d_Z_item_142 rfl (by decide) rfl rfl rfl
    refine jm_case 118 ?_ (fun h15 => ?_)
    · refine jm_tswIn (pc := 37) (tgt := 120) d_Z_item_37 (by decide) (by decide) (off := 83) (by decide) (by decide) ?_
      refine jm_aload_n (pc := 120) (q := 1) (x := 59) d_Z_item_120 rfl ?_
      refine jm_Vi (pc := 121) (Y' := mY_Z_seeItem) (i := 59) (avs := []) (rest := []) (s_Z_seeItem_ok s3) ok_Z_seeItem l0_Z_item__Z_seeItem ml_Z_115 im_Z_seeItem se_Z_seeItem d_Z_item_121 rfl sh_59 rfl rfl ge_59 le_59_78 rfl (Nat.le_of_ble_eq_true rfl) (Nat.le_of_ble_eq_true rfl) (Nat.le_of_ble_eq_true rfl) (Nat.le_of_ble_eq_true rfl) (fun v8 s9 => ?_)
      exact jm_zret (pc := 124) d_Z_item_124 rfl rfl rfl rfl
    refine jm_case 119 ?_ (fun h16 => ?_)
    · refine jm_tswIn (pc := 37) (tgt := 130) d_Z_item_37 (by decide) (by decide) (off := 93) (by decide) (by decide) ?_
      refine jm_aload_n (pc := 130) (q := 1) (x := 59) d_Z_item_130 rfl ?_
      refine jm_Vi (pc := 131) (Y' := mY_Z_woodItem) (i := 59) (avs := []) (rest := []) (s_Z_woodItem_ok s3) ok_Z_woodItem l0_Z_item__Z_woodItem ml_Z_121 im_Z_woodItem se_Z_woodItem d_Z_item_131 rfl sh_59 rfl rfl ge_59 le_59_78 rfl (Nat.le_of_ble_eq_true rfl) (Nat.le_of_ble_eq_true rfl) (Nat.le_of_ble_eq_true rfl) (Nat.le_of_ble_eq_true rfl) (fun v10 s11 => ?_)
      exact jm_zret (pc := 134) d_Z_item_134 rfl rfl rfl rfl
    refine jm_tswOut (pc := 37) (tgt := 141) d_Z_item_37 (by have e0 := jm_neT 103 h0 (a := 103) (by decide); have e1 := jm_neT 104 h1 (a := 104) (by decide); have e2 := jm_neT 105 h2 (a := 105) (by decide); have e3 := jm_neT 106 h3 (a := 106) (by decide); have e4 := jm_neT 107 h4 (a := 107) (by decide); have e5 := jm_neT 108 h5 (a := 108) (by decide); have e6 := jm_neT 109 h6 (a := 109) (by decide); have e7 := jm_neT 110 h7 (a := 110) (by decide); have e8 := jm_neT 111 h8 (a := 111) (by decide); have e9 := jm_neT 112 h9 (a := 112) (by decide); have e10 := jm_neT 113 h10 (a := 113) (by decide); have e11 := jm_neT 114 h11 (a := 114) (by decide); have e12 := jm_neT 115 h12 (a := 115) (by decide); have e13 := jm_neT 116 h13 (a := 116) (by decide); have e14 := jm_neT 117 h14 (a := 117) (by decide); have e15 := jm_neT 118 h15 (a := 118) (by decide); have e16 := jm_neT 119 h16 (a := 119) (by decide); omega) (by decide) ?_
    refine jm_iconst (pc := 141) (v := 0) d_Z_item_141 ci_0 ?_
    exact jm_iret (pc := 142) (x := 0) d_Z_item_142 rfl (by decide) rfl rfl rfl
theorem d_Z_readAll_0 : decode (jm_cd mY_Z_readAll) 0 = .ok (.aload_n 0, 1) := by decide +kernel
theorem d_Z_readAll_1 : decode (jm_cd mY_Z_readAll) 1 = .ok (.getfield 13, 3) := by decide +kernel
theorem d_Z_readAll_4 : decode (jm_cd mY_Z_readAll) 4 = .ok (.iconst 3, 1) := by decide +kernel
theorem d_Z_readAll_5 : decode (jm_cd mY_Z_readAll) 5 = .ok (.iconst 0, 1) := by decide +kernel
theorem d_Z_readAll_6 : decode (jm_cd mY_Z_readAll) 6 = .ok (.iastore, 1) := by decide +kernel
theorem d_Z_readAll_7 : decode (jm_cd mY_Z_readAll) 7 = .ok (.aload_n 0, 1) := by decide +kernel
theorem d_Z_readAll_8 : decode (jm_cd mY_Z_readAll) 8 = .ok (.getfield 31, 3) := by decide +kernel
theorem d_Z_readAll_11 : decode (jm_cd mY_Z_readAll) 11 = .ok (.iconst 3, 1) := by decide +kernel
theorem d_Z_readAll_12 : decode (jm_cd mY_Z_readAll) 12 = .ok (.iconst 0, 1) := by decide +kernel
theorem d_Z_readAll_13 : decode (jm_cd mY_Z_readAll) 13 = .ok (.iastore, 1) := by decide +kernel
theorem d_Z_readAll_14 : decode (jm_cd mY_Z_readAll) 14 = .ok (.aload_n 0, 1) := by decide +kernel
theorem d_Z_readAll_15 : decode (jm_cd mY_Z_readAll) 15 = .ok (.iconst 0, 1) := by decide +kernel
theorem d_Z_readAll_16 : decode (jm_cd mY_Z_readAll) 16 = .ok (.putfield 105, 3) := by decide +kernel
theorem d_Z_readAll_19 : decode (jm_cd mY_Z_readAll) 19 = .ok (.aload_n 0, 1) := by decide +kernel
theorem d_Z_readAll_20 : decode (jm_cd mY_Z_readAll) 20 = .ok (.iconst 0, 1) := by decide +kernel
theorem d_Z_readAll_21 : decode (jm_cd mY_Z_readAll) 21 = .ok (.putfield 108, 3) := by decide +kernel
theorem d_Z_readAll_24 : decode (jm_cd mY_Z_readAll) 24 = .ok (.aload_n 0, 1) := by decide +kernel
theorem d_Z_readAll_25 : decode (jm_cd mY_Z_readAll) 25 = .ok (.iconst 0, 1) := by decide +kernel
theorem d_Z_readAll_26 : decode (jm_cd mY_Z_readAll) 26 = .ok (.putfield 92, 3) := by decide +kernel
theorem d_Z_readAll_29 : decode (jm_cd mY_Z_readAll) 29 = .ok (.aload_n 0, 1) := by decide +kernel
theorem d_Z_readAll_30 : decode (jm_cd mY_Z_readAll) 30 = .ok (.iconst 0, 1) := by decide +kernel
theorem d_Z_readAll_31 : decode (jm_cd mY_Z_readAll) 31 = .ok (.putfield 79, 3) := by decide +kernel
theorem d_Z_readAll_34 : decode (jm_cd mY_Z_readAll) 34 = .ok (.aload_n 0, 1) := by decide +kernel
theorem d_Z_readAll_35 : decode (jm_cd mY_Z_readAll) 35 = .ok (.getfield 79, 3) := by decide +kernel
theorem d_Z_readAll_38 : decode (jm_cd mY_Z_readAll) 38 = .ok (.aload_n 0, 1) := by decide +kernel
theorem d_Z_readAll_39 : decode (jm_cd mY_Z_readAll) 39 = .ok (.getfield 73, 3) := by decide +kernel
theorem d_Z_readAll_42 : decode (jm_cd mY_Z_readAll) 42 = .ok (.if_icmp .ge 20, 3) := by decide +kernel
theorem d_Z_readAll_45 : decode (jm_cd mY_Z_readAll) 45 = .ok (.aload_n 0, 1) := by decide +kernel
theorem d_Z_readAll_46 : decode (jm_cd mY_Z_readAll) 46 = .ok (.getfield 79, 3) := by decide +kernel
theorem d_Z_readAll_49 : decode (jm_cd mY_Z_readAll) 49 = .ok (.istore_n 1, 1) := by decide +kernel
theorem d_Z_readAll_50 : decode (jm_cd mY_Z_readAll) 50 = .ok (.aload_n 0, 1) := by decide +kernel
theorem d_Z_readAll_51 : decode (jm_cd mY_Z_readAll) 51 = .ok (.invokevirtual 127, 3) := by decide +kernel
theorem d_Z_readAll_54 : decode (jm_cd mY_Z_readAll) 54 = .ok (.ifCond .ne 5, 3) := by decide +kernel
theorem d_Z_readAll_57 : decode (jm_cd mY_Z_readAll) 57 = .ok (.iload_n 1, 1) := by decide +kernel
theorem d_Z_readAll_58 : decode (jm_cd mY_Z_readAll) 58 = .ok (.ireturn, 1) := by decide +kernel
theorem d_Z_readAll_59 : decode (jm_cd mY_Z_readAll) 59 = .ok (.goto (-25), 3) := by decide +kernel
theorem d_Z_readAll_62 : decode (jm_cd mY_Z_readAll) 62 = .ok (.bipush (-4), 2) := by decide +kernel
theorem d_Z_readAll_64 : decode (jm_cd mY_Z_readAll) 64 = .ok (.ireturn, 1) := by decide +kernel
def s_Z_readAll_L34 : Nat → jm_M → Option (Int32 × jm_M)
  | 0, _ => none
  | n + 1, s => (if (s.1 59 0) ≤ (s.1 59 15) then (some ((-4), s)) else jm_vi (s.1 59 15) (fun v7 => jm_b2 (s_Z_item s) (fun v8 s9 => (if v8 = 0 then (some (v7, s9)) else s_Z_readAll_L34 n  s9))))
set_option maxRecDepth 100000 in
set_option maxHeartbeats 4000000 in
theorem s_Z_readAll_L34_ok : ∀ (n : Nat) (s : jm_M), jm_Sim mY_Z_readAll 0 0 34 [(0, .ref 59)] [] 78 mr_154 s (s_Z_readAll_L34 n s) (jm_rP 78 mr_154) := by
  intro n
  induction n with
  | zero => intro s; exact jm_none
  | succ n ih =>
    intro s
    rw [s_Z_readAll_L34]
    refine jm_aload_n (pc := 34) (q := 0) (x := 59) d_Z_readAll_34 rfl ?_
    refine jm_gi (pc := 35) (i := 59) d_Z_readAll_35 fo_Z_79 sh_59 ge_59 le_59_78 rfl (fun _ => rfl) ?_
    refine jm_aload_n (pc := 38) (q := 0) (x := 59) d_Z_readAll_38 rfl ?_
    refine jm_gi (pc := 39) (i := 59) d_Z_readAll_39 fo_Z_73 sh_59 ge_59 le_59_78 rfl (fun _ => rfl) ?_
    refine jm_icmp_ge (pc := 42) (tgt := 62) d_Z_readAll_42 (by decide) ?_ ?_
    · refine jm_bipush (pc := 62) (v := (-4)) d_Z_readAll_62 cb_m4 ?_
      exact jm_iret (pc := 64) (x := (-4)) d_Z_readAll_64 rfl rfl rfl rfl rfl
    · refine jm_aload_n (pc := 45) (q := 0) (x := 59) d_Z_readAll_45 rfl ?_
      refine jm_gi (pc := 46) (i := 59) d_Z_readAll_46 fo_Z_79 sh_59 ge_59 le_59_78 rfl (fun _ => rfl) ?_
      refine jm_nvi (fun v7 => ?_)
      refine jm_istore_n (pc := 49) (i := 1) (L2 := [(1, .int v7), (0, .ref 59)]) d_Z_readAll_49 rfl (Nat.le_of_ble_eq_true rfl) rfl ?_
      refine jm_aload_n (pc := 50) (q := 1) (x := 59) d_Z_readAll_50 rfl ?_
      refine jm_Vi (pc := 51) (Y' := mY_Z_item) (i := 59) (avs := []) (rest := []) (s_Z_item_ok s) ok_Z_item l0_Z_readAll__Z_item ml_Z_127 im_Z_item se_Z_item d_Z_readAll_51 rfl sh_59 rfl rfl ge_59 le_59_78 rfl (Nat.le_of_ble_eq_true rfl) (Nat.le_of_ble_eq_true rfl) (Nat.le_of_ble_eq_true rfl) (Nat.le_of_ble_eq_true rfl) (fun v8 s9 => ?_)
      refine jm_if_ne (pc := 54) (tgt := 59) d_Z_readAll_54 (by decide) ?_ ?_
      · refine jm_iload_n (pc := 57) (q := 0) (x := v7) d_Z_readAll_57 rfl ?_
        exact jm_iret (pc := 58) (x := v7) d_Z_readAll_58 rfl rfl rfl rfl rfl
      · refine jm_goto (pc := 59) (tgt := 34) d_Z_readAll_59 (by decide) ?_
        refine jm_sub (L2 := [(0, .ref 59)]) [1] rfl ?_
        exact ih  s9
def s_Z_readAll (s : jm_M) : Option (Int32 × jm_M) := jm_sti s 61 4 3 0 (fun s1 => jm_sti s1 67 4 3 0 (fun s2 => jm_ev (jm_si s2 59 17 0) (fun s3 => jm_ev (jm_si s3 59 18 0) (fun s4 => jm_ev (jm_si s4 59 19 0) (fun s5 => jm_ev (jm_si s5 59 15 0) (fun s6 => s_Z_readAll_L34 5000  s6))))))
set_option maxRecDepth 100000 in
set_option maxHeartbeats 4000000 in
theorem s_Z_readAll_ok (s : jm_M) : jm_Sim mY_Z_readAll 0 0 0 [(0, .ref 59)] [] 78 mr_154 s (s_Z_readAll s) (jm_rP 78 mr_154) := by
  unfold s_Z_readAll
  refine jm_aload_n (pc := 0) (q := 0) (x := 59) d_Z_readAll_0 rfl ?_
  refine jm_gr (pc := 1) (i := 59) d_Z_readAll_1 fo_Z_13 sh_59 ge_59 le_59_78 rfl (fun _ => rfl) mr_154_59_2 ge_61 ?_
  refine jm_iconst (pc := 4) (v := 3) d_Z_readAll_4 ci_3 ?_
  refine jm_iconst (pc := 5) (v := 0) d_Z_readAll_5 ci_0 ?_
  refine jm_iast (pc := 6) d_Z_readAll_6 sh_61 ge_61 le_61_78 (fun s1 => ?_)
  refine jm_aload_n (pc := 7) (q := 0) (x := 59) d_Z_readAll_7 rfl ?_
  refine jm_gr (pc := 8) (i := 59) d_Z_readAll_8 fo_Z_31 sh_59 ge_59 le_59_78 rfl (fun _ => rfl) mr_154_59_8 ge_67 ?_
  refine jm_iconst (pc := 11) (v := 3) d_Z_readAll_11 ci_3 ?_
  refine jm_iconst (pc := 12) (v := 0) d_Z_readAll_12 ci_0 ?_
  refine jm_iast (pc := 13) d_Z_readAll_13 sh_67 ge_67 le_67_78 (fun s2 => ?_)
  refine jm_aload_n (pc := 14) (q := 0) (x := 59) d_Z_readAll_14 rfl ?_
  refine jm_iconst (pc := 15) (v := 0) d_Z_readAll_15 ci_0 ?_
  refine jm_pi (pc := 16) (i := 59) d_Z_readAll_16 fp_Z_105 sh_59 ge_59 le_59_78 rfl rfl rfl (fun _ _ _ => rfl) (fun s3 => ?_)
  refine jm_aload_n (pc := 19) (q := 0) (x := 59) d_Z_readAll_19 rfl ?_
  refine jm_iconst (pc := 20) (v := 0) d_Z_readAll_20 ci_0 ?_
  refine jm_pi (pc := 21) (i := 59) d_Z_readAll_21 fp_Z_108 sh_59 ge_59 le_59_78 rfl rfl rfl (fun _ _ _ => rfl) (fun s4 => ?_)
  refine jm_aload_n (pc := 24) (q := 0) (x := 59) d_Z_readAll_24 rfl ?_
  refine jm_iconst (pc := 25) (v := 0) d_Z_readAll_25 ci_0 ?_
  refine jm_pi (pc := 26) (i := 59) d_Z_readAll_26 fp_Z_92 sh_59 ge_59 le_59_78 rfl (by decide) (by decide) (fun _ _ _ => rfl) (fun s5 => ?_)
  refine jm_aload_n (pc := 29) (q := 0) (x := 59) d_Z_readAll_29 rfl ?_
  refine jm_iconst (pc := 30) (v := 0) d_Z_readAll_30 ci_0 ?_
  refine jm_pi (pc := 31) (i := 59) d_Z_readAll_31 fp_Z_79 sh_59 ge_59 le_59_78 rfl rfl rfl (fun _ _ _ => rfl) (fun s6 => ?_)
  exact s_Z_readAll_L34_ok 5000  s6
theorem d_Z_fault_0 : decode (jm_cd mY_Z_fault) 0 = .ok (.aload_n 0, 1) := by decide +kernel
theorem d_Z_fault_1 : decode (jm_cd mY_Z_fault) 1 = .ok (.invokevirtual 130, 3) := by decide +kernel
theorem d_Z_fault_4 : decode (jm_cd mY_Z_fault) 4 = .ok (.ireturn, 1) := by decide +kernel
def s_Z_fault (s : jm_M) : Option (Int32 × jm_M) := jm_b2 (s_Z_readAll s) (fun v1 s2 => (some (v1, s2)))
set_option maxRecDepth 100000 in
set_option maxHeartbeats 4000000 in
theorem s_Z_fault_ok (s : jm_M) : jm_Sim mY_Z_fault 0 0 0 [(0, .ref 59)] [] 78 mr_154 s (s_Z_fault s) (jm_rP 78 mr_154) := by
  unfold s_Z_fault
  refine jm_aload_n (pc := 0) (q := 0) (x := 59) d_Z_fault_0 rfl ?_
  refine jm_Vi (pc := 1) (Y' := mY_Z_readAll) (i := 59) (avs := []) (rest := []) (s_Z_readAll_ok s) ok_Z_readAll l0_Z_fault__Z_readAll ml_Z_130 im_Z_readAll se_Z_readAll d_Z_fault_1 rfl sh_59 rfl rfl ge_59 le_59_78 rfl (Nat.le_of_ble_eq_true rfl) (Nat.le_of_ble_eq_true rfl) (Nat.le_of_ble_eq_true rfl) (Nat.le_of_ble_eq_true rfl) (fun v1 s2 => ?_)
  exact jm_iret (pc := 4) (x := v1) d_Z_fault_4 rfl rfl rfl rfl rfl
theorem d_Ne_become_0 : decode (jm_cd mY_Ne_become) 0 = .ok (.aload_n 0, 1) := by decide +kernel
theorem d_Ne_become_1 : decode (jm_cd mY_Ne_become) 1 = .ok (.aload_n 1, 1) := by decide +kernel
theorem d_Ne_become_2 : decode (jm_cd mY_Ne_become) 2 = .ok (.getfield 9, 3) := by decide +kernel
theorem d_Ne_become_5 : decode (jm_cd mY_Ne_become) 5 = .ok (.putfield 9, 3) := by decide +kernel
theorem d_Ne_become_8 : decode (jm_cd mY_Ne_become) 8 = .ok (.aload_n 0, 1) := by decide +kernel
theorem d_Ne_become_9 : decode (jm_cd mY_Ne_become) 9 = .ok (.aload_n 1, 1) := by decide +kernel
theorem d_Ne_become_10 : decode (jm_cd mY_Ne_become) 10 = .ok (.getfield 44, 3) := by decide +kernel
theorem d_Ne_become_13 : decode (jm_cd mY_Ne_become) 13 = .ok (.putfield 44, 3) := by decide +kernel
theorem d_Ne_become_16 : decode (jm_cd mY_Ne_become) 16 = .ok (.aload_n 0, 1) := by decide +kernel
theorem d_Ne_become_17 : decode (jm_cd mY_Ne_become) 17 = .ok (.aload_n 1, 1) := by decide +kernel
theorem d_Ne_become_18 : decode (jm_cd mY_Ne_become) 18 = .ok (.getfield 47, 3) := by decide +kernel
theorem d_Ne_become_21 : decode (jm_cd mY_Ne_become) 21 = .ok (.putfield 47, 3) := by decide +kernel
theorem d_Ne_become_24 : decode (jm_cd mY_Ne_become) 24 = .ok (.iconst 0, 1) := by decide +kernel
theorem d_Ne_become_25 : decode (jm_cd mY_Ne_become) 25 = .ok (.istore_n 2, 1) := by decide +kernel
theorem d_Ne_become_26 : decode (jm_cd mY_Ne_become) 26 = .ok (.iload_n 2, 1) := by decide +kernel
theorem d_Ne_become_27 : decode (jm_cd mY_Ne_become) 27 = .ok (.bipush 10, 2) := by decide +kernel
theorem d_Ne_become_29 : decode (jm_cd mY_Ne_become) 29 = .ok (.if_icmp .ge 105, 3) := by decide +kernel
theorem d_Ne_become_32 : decode (jm_cd mY_Ne_become) 32 = .ok (.aload_n 0, 1) := by decide +kernel
theorem d_Ne_become_33 : decode (jm_cd mY_Ne_become) 33 = .ok (.getfield 15, 3) := by decide +kernel
theorem d_Ne_become_36 : decode (jm_cd mY_Ne_become) 36 = .ok (.iload_n 2, 1) := by decide +kernel
theorem d_Ne_become_37 : decode (jm_cd mY_Ne_become) 37 = .ok (.aload_n 1, 1) := by decide +kernel
theorem d_Ne_become_38 : decode (jm_cd mY_Ne_become) 38 = .ok (.getfield 15, 3) := by decide +kernel
theorem d_Ne_become_41 : decode (jm_cd mY_Ne_become) 41 = .ok (.iload_n 2, 1) := by decide +kernel
theorem d_Ne_become_42 : decode (jm_cd mY_Ne_become) 42 = .ok (.iaload, 1) := by decide +kernel
theorem d_Ne_become_43 : decode (jm_cd mY_Ne_become) 43 = .ok (.iastore, 1) := by decide +kernel
theorem d_Ne_become_44 : decode (jm_cd mY_Ne_become) 44 = .ok (.aload_n 0, 1) := by decide +kernel
theorem d_Ne_become_45 : decode (jm_cd mY_Ne_become) 45 = .ok (.getfield 19, 3) := by decide +kernel
theorem d_Ne_become_48 : decode (jm_cd mY_Ne_become) 48 = .ok (.iload_n 2, 1) := by decide +kernel
theorem d_Ne_become_49 : decode (jm_cd mY_Ne_become) 49 = .ok (.aload_n 1, 1) := by decide +kernel
theorem d_Ne_become_50 : decode (jm_cd mY_Ne_become) 50 = .ok (.getfield 19, 3) := by decide +kernel
theorem d_Ne_become_53 : decode (jm_cd mY_Ne_become) 53 = .ok (.iload_n 2, 1) := by decide +kernel
theorem d_Ne_become_54 : decode (jm_cd mY_Ne_become) 54 = .ok (.iaload, 1) := by decide +kernel
theorem d_Ne_become_55 : decode (jm_cd mY_Ne_become) 55 = .ok (.iastore, 1) := by decide +kernel
theorem d_Ne_become_56 : decode (jm_cd mY_Ne_become) 56 = .ok (.aload_n 0, 1) := by decide +kernel
theorem d_Ne_become_57 : decode (jm_cd mY_Ne_become) 57 = .ok (.getfield 22, 3) := by decide +kernel
theorem d_Ne_become_60 : decode (jm_cd mY_Ne_become) 60 = .ok (.iload_n 2, 1) := by decide +kernel
theorem d_Ne_become_61 : decode (jm_cd mY_Ne_become) 61 = .ok (.aload_n 1, 1) := by decide +kernel
theorem d_Ne_become_62 : decode (jm_cd mY_Ne_become) 62 = .ok (.getfield 22, 3) := by decide +kernel
theorem d_Ne_become_65 : decode (jm_cd mY_Ne_become) 65 = .ok (.iload_n 2, 1) := by decide +kernel
theorem d_Ne_become_66 : decode (jm_cd mY_Ne_become) 66 = .ok (.iaload, 1) := by decide +kernel
theorem d_Ne_become_67 : decode (jm_cd mY_Ne_become) 67 = .ok (.iastore, 1) := by decide +kernel
theorem d_Ne_become_68 : decode (jm_cd mY_Ne_become) 68 = .ok (.aload_n 0, 1) := by decide +kernel
theorem d_Ne_become_69 : decode (jm_cd mY_Ne_become) 69 = .ok (.getfield 25, 3) := by decide +kernel
theorem d_Ne_become_72 : decode (jm_cd mY_Ne_become) 72 = .ok (.iload_n 2, 1) := by decide +kernel
theorem d_Ne_become_73 : decode (jm_cd mY_Ne_become) 73 = .ok (.aload_n 1, 1) := by decide +kernel
theorem d_Ne_become_74 : decode (jm_cd mY_Ne_become) 74 = .ok (.getfield 25, 3) := by decide +kernel
theorem d_Ne_become_77 : decode (jm_cd mY_Ne_become) 77 = .ok (.iload_n 2, 1) := by decide +kernel
theorem d_Ne_become_78 : decode (jm_cd mY_Ne_become) 78 = .ok (.iaload, 1) := by decide +kernel
theorem d_Ne_become_79 : decode (jm_cd mY_Ne_become) 79 = .ok (.iastore, 1) := by decide +kernel
theorem d_Ne_become_80 : decode (jm_cd mY_Ne_become) 80 = .ok (.aload_n 0, 1) := by decide +kernel
theorem d_Ne_become_81 : decode (jm_cd mY_Ne_become) 81 = .ok (.getfield 28, 3) := by decide +kernel
theorem d_Ne_become_84 : decode (jm_cd mY_Ne_become) 84 = .ok (.iload_n 2, 1) := by decide +kernel
theorem d_Ne_become_85 : decode (jm_cd mY_Ne_become) 85 = .ok (.aload_n 1, 1) := by decide +kernel
theorem d_Ne_become_86 : decode (jm_cd mY_Ne_become) 86 = .ok (.getfield 28, 3) := by decide +kernel
theorem d_Ne_become_89 : decode (jm_cd mY_Ne_become) 89 = .ok (.iload_n 2, 1) := by decide +kernel
theorem d_Ne_become_90 : decode (jm_cd mY_Ne_become) 90 = .ok (.iaload, 1) := by decide +kernel
theorem d_Ne_become_91 : decode (jm_cd mY_Ne_become) 91 = .ok (.iastore, 1) := by decide +kernel
theorem d_Ne_become_92 : decode (jm_cd mY_Ne_become) 92 = .ok (.aload_n 0, 1) := by decide +kernel
theorem d_Ne_become_93 : decode (jm_cd mY_Ne_become) 93 = .ok (.getfield 31, 3) := by decide +kernel
theorem d_Ne_become_96 : decode (jm_cd mY_Ne_become) 96 = .ok (.iload_n 2, 1) := by decide +kernel
theorem d_Ne_become_97 : decode (jm_cd mY_Ne_become) 97 = .ok (.aload_n 1, 1) := by decide +kernel
theorem d_Ne_become_98 : decode (jm_cd mY_Ne_become) 98 = .ok (.getfield 31, 3) := by decide +kernel
theorem d_Ne_become_101 : decode (jm_cd mY_Ne_become) 101 = .ok (.iload_n 2, 1) := by decide +kernel
theorem d_Ne_become_102 : decode (jm_cd mY_Ne_become) 102 = .ok (.iaload, 1) := by decide +kernel
theorem d_Ne_become_103 : decode (jm_cd mY_Ne_become) 103 = .ok (.iastore, 1) := by decide +kernel
theorem d_Ne_become_104 : decode (jm_cd mY_Ne_become) 104 = .ok (.aload_n 0, 1) := by decide +kernel
theorem d_Ne_become_105 : decode (jm_cd mY_Ne_become) 105 = .ok (.getfield 34, 3) := by decide +kernel
theorem d_Ne_become_108 : decode (jm_cd mY_Ne_become) 108 = .ok (.iload_n 2, 1) := by decide +kernel
theorem d_Ne_become_109 : decode (jm_cd mY_Ne_become) 109 = .ok (.aload_n 1, 1) := by decide +kernel
theorem d_Ne_become_110 : decode (jm_cd mY_Ne_become) 110 = .ok (.getfield 34, 3) := by decide +kernel
theorem d_Ne_become_113 : decode (jm_cd mY_Ne_become) 113 = .ok (.iload_n 2, 1) := by decide +kernel
theorem d_Ne_become_114 : decode (jm_cd mY_Ne_become) 114 = .ok (.laload, 1) := by decide +kernel
theorem d_Ne_become_115 : decode (jm_cd mY_Ne_become) 115 = .ok (.lastore, 1) := by decide +kernel
theorem d_Ne_become_116 : decode (jm_cd mY_Ne_become) 116 = .ok (.aload_n 0, 1) := by decide +kernel
theorem d_Ne_become_117 : decode (jm_cd mY_Ne_become) 117 = .ok (.getfield 38, 3) := by decide +kernel
theorem d_Ne_become_120 : decode (jm_cd mY_Ne_become) 120 = .ok (.iload_n 2, 1) := by decide +kernel
theorem d_Ne_become_121 : decode (jm_cd mY_Ne_become) 121 = .ok (.aload_n 1, 1) := by decide +kernel
theorem d_Ne_become_122 : decode (jm_cd mY_Ne_become) 122 = .ok (.getfield 38, 3) := by decide +kernel
theorem d_Ne_become_125 : decode (jm_cd mY_Ne_become) 125 = .ok (.iload_n 2, 1) := by decide +kernel
theorem d_Ne_become_126 : decode (jm_cd mY_Ne_become) 126 = .ok (.laload, 1) := by decide +kernel
theorem d_Ne_become_127 : decode (jm_cd mY_Ne_become) 127 = .ok (.lastore, 1) := by decide +kernel
theorem d_Ne_become_128 : decode (jm_cd mY_Ne_become) 128 = .ok (.iinc 2 1, 3) := by decide +kernel
theorem d_Ne_become_131 : decode (jm_cd mY_Ne_become) 131 = .ok (.goto (-105), 3) := by decide +kernel
theorem d_Ne_become_134 : decode (jm_cd mY_Ne_become) 134 = .ok (.iconst 0, 1) := by decide +kernel
theorem d_Ne_become_135 : decode (jm_cd mY_Ne_become) 135 = .ok (.istore_n 2, 1) := by decide +kernel
theorem d_Ne_become_136 : decode (jm_cd mY_Ne_become) 136 = .ok (.iload_n 2, 1) := by decide +kernel
theorem d_Ne_become_137 : decode (jm_cd mY_Ne_become) 137 = .ok (.bipush 100, 2) := by decide +kernel
theorem d_Ne_become_139 : decode (jm_cd mY_Ne_become) 139 = .ok (.if_icmp .ge 21, 3) := by decide +kernel
theorem d_Ne_become_142 : decode (jm_cd mY_Ne_become) 142 = .ok (.aload_n 0, 1) := by decide +kernel
theorem d_Ne_become_143 : decode (jm_cd mY_Ne_become) 143 = .ok (.getfield 41, 3) := by decide +kernel
theorem d_Ne_become_146 : decode (jm_cd mY_Ne_become) 146 = .ok (.iload_n 2, 1) := by decide +kernel
theorem d_Ne_become_147 : decode (jm_cd mY_Ne_become) 147 = .ok (.aload_n 1, 1) := by decide +kernel
theorem d_Ne_become_148 : decode (jm_cd mY_Ne_become) 148 = .ok (.getfield 41, 3) := by decide +kernel
theorem d_Ne_become_151 : decode (jm_cd mY_Ne_become) 151 = .ok (.iload_n 2, 1) := by decide +kernel
theorem d_Ne_become_152 : decode (jm_cd mY_Ne_become) 152 = .ok (.laload, 1) := by decide +kernel
theorem d_Ne_become_153 : decode (jm_cd mY_Ne_become) 153 = .ok (.lastore, 1) := by decide +kernel
theorem d_Ne_become_154 : decode (jm_cd mY_Ne_become) 154 = .ok (.iinc 2 1, 3) := by decide +kernel
theorem d_Ne_become_157 : decode (jm_cd mY_Ne_become) 157 = .ok (.goto (-21), 3) := by decide +kernel
theorem d_Ne_become_160 : decode (jm_cd mY_Ne_become) 160 = .ok (.return_, 1) := by decide +kernel
def s_Ne_become_15_5_L136 : Nat → Int32 → jm_M → Option jm_M
  | 0, _, _ => none
  | n + 1, x2, s => (if 100 ≤ x2 then (some s) else jm_ldl s 14 100 x2 (fun v4 => jm_stl s 24 100 x2 v4 (fun s5 => s_Ne_become_15_5_L136 n (x2 + 1) s5)))
set_option maxRecDepth 100000 in
set_option maxHeartbeats 4000000 in
theorem s_Ne_become_15_5_L136_ok : ∀ (n : Nat) (x2 : Int32) (s : jm_M), jm_Sim mY_Ne_become 0 0 136 [(0, .ref 15), (1, .ref 5), (2, .int x2)] [] 78 mr_154 s (s_Ne_become_15_5_L136 n x2 s) (jm_rV 78 mr_154) := by
  intro n
  induction n with
  | zero => intro x2 s; exact jm_none
  | succ n ih =>
    intro x2 s
    rw [s_Ne_become_15_5_L136]
    refine jm_iload_n (pc := 136) (q := 2) (x := x2) d_Ne_become_136 rfl ?_
    refine jm_bipush (pc := 137) (v := 100) d_Ne_become_137 cb_100 ?_
    refine jm_icmp_ge (pc := 139) (tgt := 160) d_Ne_become_139 (by decide) ?_ ?_
    · exact jm_vret (pc := 160) d_Ne_become_160 rfl rfl rfl rfl
    · refine jm_aload_n (pc := 142) (q := 0) (x := 15) d_Ne_become_142 rfl ?_
      refine jm_gr (pc := 143) (i := 15) d_Ne_become_143 fo_Ne_41 sh_15 ge_15 le_15_78 rfl (fun _ => rfl) mr_154_15_9 ge_24 ?_
      refine jm_iload_n (pc := 146) (q := 2) (x := x2) d_Ne_become_146 rfl ?_
      refine jm_aload_n (pc := 147) (q := 1) (x := 5) d_Ne_become_147 rfl ?_
      refine jm_gr (pc := 148) (i := 5) d_Ne_become_148 fo_Ne_41 sh_5 ge_5 le_5_78 rfl (fun _ => rfl) mr_154_5_9 ge_14 ?_
      refine jm_iload_n (pc := 151) (q := 2) (x := x2) d_Ne_become_151 rfl ?_
      refine jm_lald (pc := 152) d_Ne_become_152 sh_14 ge_14 le_14_78 (fun v4 => ?_)
      refine jm_last (pc := 153) d_Ne_become_153 sh_24 ge_24 le_24_78 (fun s5 => ?_)
      refine jm_iinc (pc := 154) (q := 2) (x := x2) (v := 1) (L2 := [(2, .int (x2 + 1)), (0, .ref 15), (1, .ref 5)]) d_Ne_become_154 rfl ci_1 (Nat.le_of_ble_eq_true rfl) rfl ?_
      refine jm_goto (pc := 157) (tgt := 136) d_Ne_become_157 (by decide) ?_
      refine jm_sub (L2 := [(0, .ref 15), (1, .ref 5), (2, .int (x2 + 1))]) [1, 2, 0] rfl ?_
      exact ih (x2 + 1) s5
def s_Ne_become_15_5_L26 : Nat → Int32 → jm_M → Option jm_M
  | 0, _, _ => none
  | n + 1, x2, s => (if 10 ≤ x2 then s_Ne_become_15_5_L136 5000 0 s else jm_ldi s 6 10 x2 (fun v6 => jm_sti s 16 10 x2 v6 (fun s7 => jm_ldi s7 7 10 x2 (fun v8 => jm_sti s7 17 10 x2 v8 (fun s9 => jm_ldi s9 8 10 x2 (fun v10 => jm_sti s9 18 10 x2 v10 (fun s11 => jm_ldi s11 9 10 x2 (fun v12 => jm_sti s11 19 10 x2 v12 (fun s13 => jm_ldi s13 10 10 x2 (fun v14 => jm_sti s13 20 10 x2 v14 (fun s15 => jm_ldi s15 11 10 x2 (fun v16 => jm_sti s15 21 10 x2 v16 (fun s17 => jm_ldl s17 12 10 x2 (fun v18 => jm_stl s17 22 10 x2 v18 (fun s19 => jm_ldl s19 13 10 x2 (fun v20 => jm_stl s19 23 10 x2 v20 (fun s21 => s_Ne_become_15_5_L26 n (x2 + 1) s21)))))))))))))))))
set_option maxRecDepth 100000 in
set_option maxHeartbeats 4000000 in
theorem s_Ne_become_15_5_L26_ok : ∀ (n : Nat) (x2 : Int32) (s : jm_M), jm_Sim mY_Ne_become 0 0 26 [(0, .ref 15), (1, .ref 5), (2, .int x2)] [] 78 mr_154 s (s_Ne_become_15_5_L26 n x2 s) (jm_rV 78 mr_154) := by
  intro n
  induction n with
  | zero => intro x2 s; exact jm_none
  | succ n ih =>
    intro x2 s
    rw [s_Ne_become_15_5_L26]
    refine jm_iload_n (pc := 26) (q := 2) (x := x2) d_Ne_become_26 rfl ?_
    refine jm_bipush (pc := 27) (v := 10) d_Ne_become_27 cb_10 ?_
    refine jm_icmp_ge (pc := 29) (tgt := 134) d_Ne_become_29 (by decide) ?_ ?_
    · refine jm_iconst (pc := 134) (v := 0) d_Ne_become_134 ci_0 ?_
      refine jm_istore_n (pc := 135) (i := 2) (L2 := [(2, .int 0), (0, .ref 15), (1, .ref 5)]) d_Ne_become_135 rfl (Nat.le_of_ble_eq_true rfl) rfl ?_
      refine jm_sub (L2 := [(0, .ref 15), (1, .ref 5), (2, .int 0)]) [1, 2, 0] rfl ?_
      exact s_Ne_become_15_5_L136_ok 5000 0 s
    · refine jm_aload_n (pc := 32) (q := 0) (x := 15) d_Ne_become_32 rfl ?_
      refine jm_gr (pc := 33) (i := 15) d_Ne_become_33 fo_Ne_15 sh_15 ge_15 le_15_78 rfl (fun _ => rfl) mr_154_15_1 ge_16 ?_
      refine jm_iload_n (pc := 36) (q := 2) (x := x2) d_Ne_become_36 rfl ?_
      refine jm_aload_n (pc := 37) (q := 1) (x := 5) d_Ne_become_37 rfl ?_
      refine jm_gr (pc := 38) (i := 5) d_Ne_become_38 fo_Ne_15 sh_5 ge_5 le_5_78 rfl (fun _ => rfl) mr_154_5_1 ge_6 ?_
      refine jm_iload_n (pc := 41) (q := 2) (x := x2) d_Ne_become_41 rfl ?_
      refine jm_iald (pc := 42) d_Ne_become_42 sh_6 ge_6 le_6_78 (fun v6 => ?_)
      refine jm_iast (pc := 43) d_Ne_become_43 sh_16 ge_16 le_16_78 (fun s7 => ?_)
      refine jm_aload_n (pc := 44) (q := 0) (x := 15) d_Ne_become_44 rfl ?_
      refine jm_gr (pc := 45) (i := 15) d_Ne_become_45 fo_Ne_19 sh_15 ge_15 le_15_78 rfl (fun _ => rfl) mr_154_15_2 ge_17 ?_
      refine jm_iload_n (pc := 48) (q := 2) (x := x2) d_Ne_become_48 rfl ?_
      refine jm_aload_n (pc := 49) (q := 1) (x := 5) d_Ne_become_49 rfl ?_
      refine jm_gr (pc := 50) (i := 5) d_Ne_become_50 fo_Ne_19 sh_5 ge_5 le_5_78 rfl (fun _ => rfl) mr_154_5_2 ge_7 ?_
      refine jm_iload_n (pc := 53) (q := 2) (x := x2) d_Ne_become_53 rfl ?_
      refine jm_iald (pc := 54) d_Ne_become_54 sh_7 ge_7 le_7_78 (fun v8 => ?_)
      refine jm_iast (pc := 55) d_Ne_become_55 sh_17 ge_17 le_17_78 (fun s9 => ?_)
      refine jm_aload_n (pc := 56) (q := 0) (x := 15) d_Ne_become_56 rfl ?_
      refine jm_gr (pc := 57) (i := 15) d_Ne_become_57 fo_Ne_22 sh_15 ge_15 le_15_78 rfl (fun _ => rfl) mr_154_15_3 ge_18 ?_
      refine jm_iload_n (pc := 60) (q := 2) (x := x2) d_Ne_become_60 rfl ?_
      refine jm_aload_n (pc := 61) (q := 1) (x := 5) d_Ne_become_61 rfl ?_
      refine jm_gr (pc := 62) (i := 5) d_Ne_become_62 fo_Ne_22 sh_5 ge_5 le_5_78 rfl (fun _ => rfl) mr_154_5_3 ge_8 ?_
      refine jm_iload_n (pc := 65) (q := 2) (x := x2) d_Ne_become_65 rfl ?_
      refine jm_iald (pc := 66) d_Ne_become_66 sh_8 ge_8 le_8_78 (fun v10 => ?_)
      refine jm_iast (pc := 67) d_Ne_become_67 sh_18 ge_18 le_18_78 (fun s11 => ?_)
      refine jm_aload_n (pc := 68) (q := 0) (x := 15) d_Ne_become_68 rfl ?_
      refine jm_gr (pc := 69) (i := 15) d_Ne_become_69 fo_Ne_25 sh_15 ge_15 le_15_78 rfl (fun _ => rfl) mr_154_15_4 ge_19 ?_
      refine jm_iload_n (pc := 72) (q := 2) (x := x2) d_Ne_become_72 rfl ?_
      refine jm_aload_n (pc := 73) (q := 1) (x := 5) d_Ne_become_73 rfl ?_
      refine jm_gr (pc := 74) (i := 5) d_Ne_become_74 fo_Ne_25 sh_5 ge_5 le_5_78 rfl (fun _ => rfl) mr_154_5_4 ge_9 ?_
      refine jm_iload_n (pc := 77) (q := 2) (x := x2) d_Ne_become_77 rfl ?_
      refine jm_iald (pc := 78) d_Ne_become_78 sh_9 ge_9 le_9_78 (fun v12 => ?_)
      refine jm_iast (pc := 79) d_Ne_become_79 sh_19 ge_19 le_19_78 (fun s13 => ?_)
      refine jm_aload_n (pc := 80) (q := 0) (x := 15) d_Ne_become_80 rfl ?_
      refine jm_gr (pc := 81) (i := 15) d_Ne_become_81 fo_Ne_28 sh_15 ge_15 le_15_78 rfl (fun _ => rfl) mr_154_15_5 ge_20 ?_
      refine jm_iload_n (pc := 84) (q := 2) (x := x2) d_Ne_become_84 rfl ?_
      refine jm_aload_n (pc := 85) (q := 1) (x := 5) d_Ne_become_85 rfl ?_
      refine jm_gr (pc := 86) (i := 5) d_Ne_become_86 fo_Ne_28 sh_5 ge_5 le_5_78 rfl (fun _ => rfl) mr_154_5_5 ge_10 ?_
      refine jm_iload_n (pc := 89) (q := 2) (x := x2) d_Ne_become_89 rfl ?_
      refine jm_iald (pc := 90) d_Ne_become_90 sh_10 ge_10 le_10_78 (fun v14 => ?_)
      refine jm_iast (pc := 91) d_Ne_become_91 sh_20 ge_20 le_20_78 (fun s15 => ?_)
      refine jm_aload_n (pc := 92) (q := 0) (x := 15) d_Ne_become_92 rfl ?_
      refine jm_gr (pc := 93) (i := 15) d_Ne_become_93 fo_Ne_31 sh_15 ge_15 le_15_78 rfl (fun _ => rfl) mr_154_15_6 ge_21 ?_
      refine jm_iload_n (pc := 96) (q := 2) (x := x2) d_Ne_become_96 rfl ?_
      refine jm_aload_n (pc := 97) (q := 1) (x := 5) d_Ne_become_97 rfl ?_
      refine jm_gr (pc := 98) (i := 5) d_Ne_become_98 fo_Ne_31 sh_5 ge_5 le_5_78 rfl (fun _ => rfl) mr_154_5_6 ge_11 ?_
      refine jm_iload_n (pc := 101) (q := 2) (x := x2) d_Ne_become_101 rfl ?_
      refine jm_iald (pc := 102) d_Ne_become_102 sh_11 ge_11 le_11_78 (fun v16 => ?_)
      refine jm_iast (pc := 103) d_Ne_become_103 sh_21 ge_21 le_21_78 (fun s17 => ?_)
      refine jm_aload_n (pc := 104) (q := 0) (x := 15) d_Ne_become_104 rfl ?_
      refine jm_gr (pc := 105) (i := 15) d_Ne_become_105 fo_Ne_34 sh_15 ge_15 le_15_78 rfl (fun _ => rfl) mr_154_15_7 ge_22 ?_
      refine jm_iload_n (pc := 108) (q := 2) (x := x2) d_Ne_become_108 rfl ?_
      refine jm_aload_n (pc := 109) (q := 1) (x := 5) d_Ne_become_109 rfl ?_
      refine jm_gr (pc := 110) (i := 5) d_Ne_become_110 fo_Ne_34 sh_5 ge_5 le_5_78 rfl (fun _ => rfl) mr_154_5_7 ge_12 ?_
      refine jm_iload_n (pc := 113) (q := 2) (x := x2) d_Ne_become_113 rfl ?_
      refine jm_lald (pc := 114) d_Ne_become_114 sh_12 ge_12 le_12_78 (fun v18 => ?_)
      refine jm_last (pc := 115) d_Ne_become_115 sh_22 ge_22 le_22_78 (fun s19 => ?_)
      refine jm_aload_n (pc := 116) (q := 0) (x := 15) d_Ne_become_116 rfl ?_
      refine jm_gr (pc := 117) (i := 15) d_Ne_become_117 fo_Ne_38 sh_15 ge_15 le_15_78 rfl (fun _ => rfl) mr_154_15_8 ge_23 ?_
      refine jm_iload_n (pc := 120) (q := 2) (x := x2) d_Ne_become_120 rfl ?_
      refine jm_aload_n (pc := 121) (q := 1) (x := 5) d_Ne_become_121 rfl ?_
      refine jm_gr (pc := 122) (i := 5) d_Ne_become_122 fo_Ne_38 sh_5 ge_5 le_5_78 rfl (fun _ => rfl) mr_154_5_8 ge_13 ?_
      refine jm_iload_n (pc := 125) (q := 2) (x := x2) d_Ne_become_125 rfl ?_
      refine jm_lald (pc := 126) d_Ne_become_126 sh_13 ge_13 le_13_78 (fun v20 => ?_)
      refine jm_last (pc := 127) d_Ne_become_127 sh_23 ge_23 le_23_78 (fun s21 => ?_)
      refine jm_iinc (pc := 128) (q := 2) (x := x2) (v := 1) (L2 := [(2, .int (x2 + 1)), (0, .ref 15), (1, .ref 5)]) d_Ne_become_128 rfl ci_1 (Nat.le_of_ble_eq_true rfl) rfl ?_
      refine jm_goto (pc := 131) (tgt := 26) d_Ne_become_131 (by decide) ?_
      refine jm_sub (L2 := [(0, .ref 15), (1, .ref 5), (2, .int (x2 + 1))]) [1, 2, 0] rfl ?_
      exact ih (x2 + 1) s21
def s_Ne_become_15_5 (s : jm_M) : Option jm_M := jm_ev (jm_si s 15 0 (s.1 5 0)) (fun s1 => jm_ev (jm_si s1 15 10 (s1.1 5 10)) (fun s2 => jm_ev (jm_sl s2 15 11 (s2.2 5 11)) (fun s3 => s_Ne_become_15_5_L26 5000 0 s3)))
set_option maxRecDepth 100000 in
set_option maxHeartbeats 4000000 in
theorem s_Ne_become_15_5_ok (s : jm_M) : jm_Sim mY_Ne_become 0 0 0 [(0, .ref 15), (1, .ref 5)] [] 78 mr_154 s (s_Ne_become_15_5 s) (jm_rV 78 mr_154) := by
  unfold s_Ne_become_15_5
  refine jm_aload_n (pc := 0) (q := 0) (x := 15) d_Ne_become_0 rfl ?_
  refine jm_aload_n (pc := 1) (q := 1) (x := 5) d_Ne_become_1 rfl ?_
  refine jm_gi (pc := 2) (i := 5) d_Ne_become_2 fo_Ne_9 sh_5 ge_5 le_5_78 rfl (fun _ => rfl) ?_
  refine jm_pi (pc := 5) (i := 15) d_Ne_become_5 fp_Ne_9 sh_15 ge_15 le_15_78 rfl rfl rfl (fun _ _ _ => rfl) (fun s1 => ?_)
  refine jm_aload_n (pc := 8) (q := 0) (x := 15) d_Ne_become_8 rfl ?_
  refine jm_aload_n (pc := 9) (q := 1) (x := 5) d_Ne_become_9 rfl ?_
  refine jm_gi (pc := 10) (i := 5) d_Ne_become_10 fo_Ne_44 sh_5 ge_5 le_5_78 rfl (fun _ => rfl) ?_
  refine jm_pi (pc := 13) (i := 15) d_Ne_become_13 fp_Ne_44 sh_15 ge_15 le_15_78 rfl rfl rfl (fun _ _ _ => rfl) (fun s2 => ?_)
  refine jm_aload_n (pc := 16) (q := 0) (x := 15) d_Ne_become_16 rfl ?_
  refine jm_aload_n (pc := 17) (q := 1) (x := 5) d_Ne_become_17 rfl ?_
  refine jm_gl (pc := 18) (i := 5) d_Ne_become_18 fo_Ne_47 sh_5 ge_5 le_5_78 rfl ?_
  refine jm_pl (pc := 21) (i := 15) d_Ne_become_21 fp_Ne_47 sh_15 ge_15 le_15_78 rfl (fun s3 => ?_)
  refine jm_iconst (pc := 24) (v := 0) d_Ne_become_24 ci_0 ?_
  refine jm_istore_n (pc := 25) (i := 2) (L2 := [(2, .int 0), (0, .ref 15), (1, .ref 5)]) d_Ne_become_25 rfl (Nat.le_of_ble_eq_true rfl) rfl ?_
  refine jm_sub (L2 := [(0, .ref 15), (1, .ref 5), (2, .int 0)]) [1, 2, 0] rfl ?_
  exact s_Ne_become_15_5_L26_ok 5000 0 s3
theorem d_X_lay_0 : decode (jm_cd mY_X_lay) 0 = .ok (.aload_n 0, 1) := by decide +kernel
theorem d_X_lay_1 : decode (jm_cd mY_X_lay) 1 = .ok (.getfield 20, 3) := by decide +kernel
theorem d_X_lay_4 : decode (jm_cd mY_X_lay) 4 = .ok (.aload_n 0, 1) := by decide +kernel
theorem d_X_lay_5 : decode (jm_cd mY_X_lay) 5 = .ok (.getfield 9, 3) := by decide +kernel
theorem d_X_lay_8 : decode (jm_cd mY_X_lay) 8 = .ok (.aload_n 0, 1) := by decide +kernel
theorem d_X_lay_9 : decode (jm_cd mY_X_lay) 9 = .ok (.getfield 13, 3) := by decide +kernel
theorem d_X_lay_12 : decode (jm_cd mY_X_lay) 12 = .ok (.aload_n 0, 1) := by decide +kernel
theorem d_X_lay_13 : decode (jm_cd mY_X_lay) 13 = .ok (.getfield 27, 3) := by decide +kernel
theorem d_X_lay_16 : decode (jm_cd mY_X_lay) 16 = .ok (.invokevirtual 82, 3) := by decide +kernel
theorem d_X_lay_19 : decode (jm_cd mY_X_lay) 19 = .ok (.bipush (-4), 2) := by decide +kernel
theorem d_X_lay_21 : decode (jm_cd mY_X_lay) 21 = .ok (.if_icmp .eq 6, 3) := by decide +kernel
theorem d_X_lay_24 : decode (jm_cd mY_X_lay) 24 = .ok (.bipush (-2), 2) := by decide +kernel
theorem d_X_lay_26 : decode (jm_cd mY_X_lay) 26 = .ok (.ireturn, 1) := by decide +kernel
theorem d_X_lay_27 : decode (jm_cd mY_X_lay) 27 = .ok (.aload_n 0, 1) := by decide +kernel
theorem d_X_lay_28 : decode (jm_cd mY_X_lay) 28 = .ok (.getfield 31, 3) := by decide +kernel
theorem d_X_lay_31 : decode (jm_cd mY_X_lay) 31 = .ok (.aload_n 0, 1) := by decide +kernel
theorem d_X_lay_32 : decode (jm_cd mY_X_lay) 32 = .ok (.getfield 27, 3) := by decide +kernel
theorem d_X_lay_35 : decode (jm_cd mY_X_lay) 35 = .ok (.invokevirtual 86, 3) := by decide +kernel
theorem d_X_lay_38 : decode (jm_cd mY_X_lay) 38 = .ok (.aload_n 0, 1) := by decide +kernel
theorem d_X_lay_39 : decode (jm_cd mY_X_lay) 39 = .ok (.iconst 0, 1) := by decide +kernel
theorem d_X_lay_40 : decode (jm_cd mY_X_lay) 40 = .ok (.putfield 50, 3) := by decide +kernel
theorem d_X_lay_43 : decode (jm_cd mY_X_lay) 43 = .ok (.aload_n 0, 1) := by decide +kernel
theorem d_X_lay_44 : decode (jm_cd mY_X_lay) 44 = .ok (.getfield 31, 3) := by decide +kernel
theorem d_X_lay_47 : decode (jm_cd mY_X_lay) 47 = .ok (.getfield 90, 3) := by decide +kernel
theorem d_X_lay_50 : decode (jm_cd mY_X_lay) 50 = .ok (.ireturn, 1) := by decide +kernel
def s_X_lay (s : jm_M) : Option (Int32 × jm_M) := jm_b2 (s_Re_firstFault_3_2_5 s (s.1 1 1)) (fun v1 s2 => (if v1 = (-4) then jm_bd (s_Ne_become_15_5 s2) (fun s3 => jm_ev (jm_si s3 1 9 0) (fun s4 => (some (s4.1 15 0, s4)))) else (some ((-2), s2))))
set_option maxRecDepth 100000 in
set_option maxHeartbeats 4000000 in
theorem s_X_lay_ok (s : jm_M) : jm_Sim mY_X_lay 0 0 0 [(0, .ref 1)] [] 78 mr_154 s (s_X_lay s) (jm_rP 78 mr_154) := by
  unfold s_X_lay
  refine jm_aload_n (pc := 0) (q := 0) (x := 1) d_X_lay_0 rfl ?_
  refine jm_gr (pc := 1) (i := 1) d_X_lay_1 fo_X_20 sh_1 ge_1 le_1_78 rfl (fun _ => rfl) mr_154_1_2 ge_3 ?_
  refine jm_aload_n (pc := 4) (q := 0) (x := 1) d_X_lay_4 rfl ?_
  refine jm_gr (pc := 5) (i := 1) d_X_lay_5 fo_X_9 sh_1 ge_1 le_1_78 rfl (fun _ => rfl) mr_154_1_0 ge_2 ?_
  refine jm_aload_n (pc := 8) (q := 0) (x := 1) d_X_lay_8 rfl ?_
  refine jm_gi (pc := 9) (i := 1) d_X_lay_9 fo_X_13 sh_1 ge_1 le_1_78 rfl (fun _ => rfl) ?_
  refine jm_aload_n (pc := 12) (q := 0) (x := 1) d_X_lay_12 rfl ?_
  refine jm_gr (pc := 13) (i := 1) d_X_lay_13 fo_X_27 sh_1 ge_1 le_1_78 rfl (fun _ => rfl) mr_154_1_3 ge_5 ?_
  refine jm_Vi (pc := 16) (Y' := mY_Re_firstFault) (i := 3) (avs := [.ref 2, .int (s.1 1 1), .ref 5]) (rest := []) (s_Re_firstFault_3_2_5_ok s (s.1 1 1)) ok_Re_firstFault l0_X_lay__Re_firstFault ml_X_82 im_Re_firstFault se_Re_firstFault d_X_lay_16 rfl sh_3 rfl rfl ge_3 le_3_78 rfl (Nat.le_of_ble_eq_true rfl) (Nat.le_of_ble_eq_true rfl) (Nat.le_of_ble_eq_true rfl) (Nat.le_of_ble_eq_true rfl) (fun v1 s2 => ?_)
  refine jm_bipush (pc := 19) (v := (-4)) d_X_lay_19 cb_m4 ?_
  refine jm_icmp_eq (pc := 21) (tgt := 27) d_X_lay_21 (by decide) ?_ ?_
  · refine jm_aload_n (pc := 27) (q := 0) (x := 1) d_X_lay_27 rfl ?_
    refine jm_gr (pc := 28) (i := 1) d_X_lay_28 fo_X_31 sh_1 ge_1 le_1_78 rfl (fun _ => rfl) mr_154_1_4 ge_15 ?_
    refine jm_aload_n (pc := 31) (q := 0) (x := 1) d_X_lay_31 rfl ?_
    refine jm_gr (pc := 32) (i := 1) d_X_lay_32 fo_X_27 sh_1 ge_1 le_1_78 rfl (fun _ => rfl) mr_154_1_3 ge_5 ?_
    refine jm_Vv (pc := 35) (Y' := mY_Ne_become) (i := 15) (avs := [.ref 5]) (rest := []) (s_Ne_become_15_5_ok s2) ok_Ne_become l0_X_lay__Ne_become ml_X_86 im_Ne_become se_Ne_become d_X_lay_35 rfl sh_15 rfl rfl ge_15 le_15_78 rfl (Nat.le_of_ble_eq_true rfl) (Nat.le_of_ble_eq_true rfl) (Nat.le_of_ble_eq_true rfl) (Nat.le_of_ble_eq_true rfl) (fun s3 => ?_)
    refine jm_aload_n (pc := 38) (q := 0) (x := 1) d_X_lay_38 rfl ?_
    refine jm_iconst (pc := 39) (v := 0) d_X_lay_39 ci_0 ?_
    refine jm_pi (pc := 40) (i := 1) d_X_lay_40 fp_X_50 sh_1 ge_1 le_1_78 rfl (by decide) (by decide) (fun _ _ _ => rfl) (fun s4 => ?_)
    refine jm_aload_n (pc := 43) (q := 0) (x := 1) d_X_lay_43 rfl ?_
    refine jm_gr (pc := 44) (i := 1) d_X_lay_44 fo_X_31 sh_1 ge_1 le_1_78 rfl (fun _ => rfl) mr_154_1_4 ge_15 ?_
    refine jm_gi (pc := 47) (i := 15) d_X_lay_47 fo_X_90 sh_15 ge_15 le_15_78 rfl (fun _ => rfl) ?_
    exact jm_iret (pc := 50) (x := s4.1 15 0) d_X_lay_50 rfl rfl rfl rfl rfl
  · refine jm_bipush (pc := 24) (v := (-2)) d_X_lay_24 cb_m2 ?_
    exact jm_iret (pc := 26) (x := (-2)) d_X_lay_26 rfl rfl rfl rfl rfl
theorem d_Z_copy_0 : decode (jm_cd mY_Z_copy) 0 = .ok (.aload_n 0, 1) := by decide +kernel
theorem d_Z_copy_1 : decode (jm_cd mY_Z_copy) 1 = .ok (.getfield 13, 3) := by decide +kernel
theorem d_Z_copy_4 : decode (jm_cd mY_Z_copy) 4 = .ok (.iload_n 2, 1) := by decide +kernel
theorem d_Z_copy_5 : decode (jm_cd mY_Z_copy) 5 = .ok (.aload_n 0, 1) := by decide +kernel
theorem d_Z_copy_6 : decode (jm_cd mY_Z_copy) 6 = .ok (.getfield 13, 3) := by decide +kernel
theorem d_Z_copy_9 : decode (jm_cd mY_Z_copy) 9 = .ok (.iload_n 1, 1) := by decide +kernel
theorem d_Z_copy_10 : decode (jm_cd mY_Z_copy) 10 = .ok (.iaload, 1) := by decide +kernel
theorem d_Z_copy_11 : decode (jm_cd mY_Z_copy) 11 = .ok (.iastore, 1) := by decide +kernel
theorem d_Z_copy_12 : decode (jm_cd mY_Z_copy) 12 = .ok (.aload_n 0, 1) := by decide +kernel
theorem d_Z_copy_13 : decode (jm_cd mY_Z_copy) 13 = .ok (.getfield 31, 3) := by decide +kernel
theorem d_Z_copy_16 : decode (jm_cd mY_Z_copy) 16 = .ok (.iload_n 2, 1) := by decide +kernel
theorem d_Z_copy_17 : decode (jm_cd mY_Z_copy) 17 = .ok (.aload_n 0, 1) := by decide +kernel
theorem d_Z_copy_18 : decode (jm_cd mY_Z_copy) 18 = .ok (.getfield 31, 3) := by decide +kernel
theorem d_Z_copy_21 : decode (jm_cd mY_Z_copy) 21 = .ok (.iload_n 1, 1) := by decide +kernel
theorem d_Z_copy_22 : decode (jm_cd mY_Z_copy) 22 = .ok (.iaload, 1) := by decide +kernel
theorem d_Z_copy_23 : decode (jm_cd mY_Z_copy) 23 = .ok (.iastore, 1) := by decide +kernel
theorem d_Z_copy_24 : decode (jm_cd mY_Z_copy) 24 = .ok (.iconst 0, 1) := by decide +kernel
theorem d_Z_copy_25 : decode (jm_cd mY_Z_copy) 25 = .ok (.istore_n 3, 1) := by decide +kernel
theorem d_Z_copy_26 : decode (jm_cd mY_Z_copy) 26 = .ok (.iload_n 3, 1) := by decide +kernel
theorem d_Z_copy_27 : decode (jm_cd mY_Z_copy) 27 = .ok (.bipush 10, 2) := by decide +kernel
theorem d_Z_copy_29 : decode (jm_cd mY_Z_copy) 29 = .ok (.if_icmp .ge 119, 3) := by decide +kernel
theorem d_Z_copy_32 : decode (jm_cd mY_Z_copy) 32 = .ok (.aload_n 0, 1) := by decide +kernel
theorem d_Z_copy_33 : decode (jm_cd mY_Z_copy) 33 = .ok (.getfield 16, 3) := by decide +kernel
theorem d_Z_copy_36 : decode (jm_cd mY_Z_copy) 36 = .ok (.bipush 10, 2) := by decide +kernel
theorem d_Z_copy_38 : decode (jm_cd mY_Z_copy) 38 = .ok (.iload_n 2, 1) := by decide +kernel
theorem d_Z_copy_39 : decode (jm_cd mY_Z_copy) 39 = .ok (.imul, 1) := by decide +kernel
theorem d_Z_copy_40 : decode (jm_cd mY_Z_copy) 40 = .ok (.iload_n 3, 1) := by decide +kernel
theorem d_Z_copy_41 : decode (jm_cd mY_Z_copy) 41 = .ok (.iadd, 1) := by decide +kernel
theorem d_Z_copy_42 : decode (jm_cd mY_Z_copy) 42 = .ok (.aload_n 0, 1) := by decide +kernel
theorem d_Z_copy_43 : decode (jm_cd mY_Z_copy) 43 = .ok (.getfield 16, 3) := by decide +kernel
theorem d_Z_copy_46 : decode (jm_cd mY_Z_copy) 46 = .ok (.bipush 10, 2) := by decide +kernel
theorem d_Z_copy_48 : decode (jm_cd mY_Z_copy) 48 = .ok (.iload_n 1, 1) := by decide +kernel
theorem d_Z_copy_49 : decode (jm_cd mY_Z_copy) 49 = .ok (.imul, 1) := by decide +kernel
theorem d_Z_copy_50 : decode (jm_cd mY_Z_copy) 50 = .ok (.iload_n 3, 1) := by decide +kernel
theorem d_Z_copy_51 : decode (jm_cd mY_Z_copy) 51 = .ok (.iadd, 1) := by decide +kernel
theorem d_Z_copy_52 : decode (jm_cd mY_Z_copy) 52 = .ok (.iaload, 1) := by decide +kernel
theorem d_Z_copy_53 : decode (jm_cd mY_Z_copy) 53 = .ok (.iastore, 1) := by decide +kernel
theorem d_Z_copy_54 : decode (jm_cd mY_Z_copy) 54 = .ok (.aload_n 0, 1) := by decide +kernel
theorem d_Z_copy_55 : decode (jm_cd mY_Z_copy) 55 = .ok (.getfield 19, 3) := by decide +kernel
theorem d_Z_copy_58 : decode (jm_cd mY_Z_copy) 58 = .ok (.bipush 10, 2) := by decide +kernel
theorem d_Z_copy_60 : decode (jm_cd mY_Z_copy) 60 = .ok (.iload_n 2, 1) := by decide +kernel
theorem d_Z_copy_61 : decode (jm_cd mY_Z_copy) 61 = .ok (.imul, 1) := by decide +kernel
theorem d_Z_copy_62 : decode (jm_cd mY_Z_copy) 62 = .ok (.iload_n 3, 1) := by decide +kernel
theorem d_Z_copy_63 : decode (jm_cd mY_Z_copy) 63 = .ok (.iadd, 1) := by decide +kernel
theorem d_Z_copy_64 : decode (jm_cd mY_Z_copy) 64 = .ok (.aload_n 0, 1) := by decide +kernel
theorem d_Z_copy_65 : decode (jm_cd mY_Z_copy) 65 = .ok (.getfield 19, 3) := by decide +kernel
theorem d_Z_copy_68 : decode (jm_cd mY_Z_copy) 68 = .ok (.bipush 10, 2) := by decide +kernel
theorem d_Z_copy_70 : decode (jm_cd mY_Z_copy) 70 = .ok (.iload_n 1, 1) := by decide +kernel
theorem d_Z_copy_71 : decode (jm_cd mY_Z_copy) 71 = .ok (.imul, 1) := by decide +kernel
theorem d_Z_copy_72 : decode (jm_cd mY_Z_copy) 72 = .ok (.iload_n 3, 1) := by decide +kernel
theorem d_Z_copy_73 : decode (jm_cd mY_Z_copy) 73 = .ok (.iadd, 1) := by decide +kernel
theorem d_Z_copy_74 : decode (jm_cd mY_Z_copy) 74 = .ok (.iaload, 1) := by decide +kernel
theorem d_Z_copy_75 : decode (jm_cd mY_Z_copy) 75 = .ok (.iastore, 1) := by decide +kernel
theorem d_Z_copy_76 : decode (jm_cd mY_Z_copy) 76 = .ok (.aload_n 0, 1) := by decide +kernel
theorem d_Z_copy_77 : decode (jm_cd mY_Z_copy) 77 = .ok (.getfield 22, 3) := by decide +kernel
theorem d_Z_copy_80 : decode (jm_cd mY_Z_copy) 80 = .ok (.bipush 10, 2) := by decide +kernel
theorem d_Z_copy_82 : decode (jm_cd mY_Z_copy) 82 = .ok (.iload_n 2, 1) := by decide +kernel
theorem d_Z_copy_83 : decode (jm_cd mY_Z_copy) 83 = .ok (.imul, 1) := by decide +kernel
theorem d_Z_copy_84 : decode (jm_cd mY_Z_copy) 84 = .ok (.iload_n 3, 1) := by decide +kernel
theorem d_Z_copy_85 : decode (jm_cd mY_Z_copy) 85 = .ok (.iadd, 1) := by decide +kernel
theorem d_Z_copy_86 : decode (jm_cd mY_Z_copy) 86 = .ok (.aload_n 0, 1) := by decide +kernel
theorem d_Z_copy_87 : decode (jm_cd mY_Z_copy) 87 = .ok (.getfield 22, 3) := by decide +kernel
theorem d_Z_copy_90 : decode (jm_cd mY_Z_copy) 90 = .ok (.bipush 10, 2) := by decide +kernel
theorem d_Z_copy_92 : decode (jm_cd mY_Z_copy) 92 = .ok (.iload_n 1, 1) := by decide +kernel
theorem d_Z_copy_93 : decode (jm_cd mY_Z_copy) 93 = .ok (.imul, 1) := by decide +kernel
theorem d_Z_copy_94 : decode (jm_cd mY_Z_copy) 94 = .ok (.iload_n 3, 1) := by decide +kernel
theorem d_Z_copy_95 : decode (jm_cd mY_Z_copy) 95 = .ok (.iadd, 1) := by decide +kernel
theorem d_Z_copy_96 : decode (jm_cd mY_Z_copy) 96 = .ok (.iaload, 1) := by decide +kernel
theorem d_Z_copy_97 : decode (jm_cd mY_Z_copy) 97 = .ok (.iastore, 1) := by decide +kernel
theorem d_Z_copy_98 : decode (jm_cd mY_Z_copy) 98 = .ok (.aload_n 0, 1) := by decide +kernel
theorem d_Z_copy_99 : decode (jm_cd mY_Z_copy) 99 = .ok (.getfield 25, 3) := by decide +kernel
theorem d_Z_copy_102 : decode (jm_cd mY_Z_copy) 102 = .ok (.bipush 10, 2) := by decide +kernel
theorem d_Z_copy_104 : decode (jm_cd mY_Z_copy) 104 = .ok (.iload_n 2, 1) := by decide +kernel
theorem d_Z_copy_105 : decode (jm_cd mY_Z_copy) 105 = .ok (.imul, 1) := by decide +kernel
theorem d_Z_copy_106 : decode (jm_cd mY_Z_copy) 106 = .ok (.iload_n 3, 1) := by decide +kernel
theorem d_Z_copy_107 : decode (jm_cd mY_Z_copy) 107 = .ok (.iadd, 1) := by decide +kernel
theorem d_Z_copy_108 : decode (jm_cd mY_Z_copy) 108 = .ok (.aload_n 0, 1) := by decide +kernel
theorem d_Z_copy_109 : decode (jm_cd mY_Z_copy) 109 = .ok (.getfield 25, 3) := by decide +kernel
theorem d_Z_copy_112 : decode (jm_cd mY_Z_copy) 112 = .ok (.bipush 10, 2) := by decide +kernel
theorem d_Z_copy_114 : decode (jm_cd mY_Z_copy) 114 = .ok (.iload_n 1, 1) := by decide +kernel
theorem d_Z_copy_115 : decode (jm_cd mY_Z_copy) 115 = .ok (.imul, 1) := by decide +kernel
theorem d_Z_copy_116 : decode (jm_cd mY_Z_copy) 116 = .ok (.iload_n 3, 1) := by decide +kernel
theorem d_Z_copy_117 : decode (jm_cd mY_Z_copy) 117 = .ok (.iadd, 1) := by decide +kernel
theorem d_Z_copy_118 : decode (jm_cd mY_Z_copy) 118 = .ok (.iaload, 1) := by decide +kernel
theorem d_Z_copy_119 : decode (jm_cd mY_Z_copy) 119 = .ok (.iastore, 1) := by decide +kernel
theorem d_Z_copy_120 : decode (jm_cd mY_Z_copy) 120 = .ok (.aload_n 0, 1) := by decide +kernel
theorem d_Z_copy_121 : decode (jm_cd mY_Z_copy) 121 = .ok (.getfield 28, 3) := by decide +kernel
theorem d_Z_copy_124 : decode (jm_cd mY_Z_copy) 124 = .ok (.bipush 10, 2) := by decide +kernel
theorem d_Z_copy_126 : decode (jm_cd mY_Z_copy) 126 = .ok (.iload_n 2, 1) := by decide +kernel
theorem d_Z_copy_127 : decode (jm_cd mY_Z_copy) 127 = .ok (.imul, 1) := by decide +kernel
theorem d_Z_copy_128 : decode (jm_cd mY_Z_copy) 128 = .ok (.iload_n 3, 1) := by decide +kernel
theorem d_Z_copy_129 : decode (jm_cd mY_Z_copy) 129 = .ok (.iadd, 1) := by decide +kernel
theorem d_Z_copy_130 : decode (jm_cd mY_Z_copy) 130 = .ok (.aload_n 0, 1) := by decide +kernel
theorem d_Z_copy_131 : decode (jm_cd mY_Z_copy) 131 = .ok (.getfield 28, 3) := by decide +kernel
theorem d_Z_copy_134 : decode (jm_cd mY_Z_copy) 134 = .ok (.bipush 10, 2) := by decide +kernel
theorem d_Z_copy_136 : decode (jm_cd mY_Z_copy) 136 = .ok (.iload_n 1, 1) := by decide +kernel
theorem d_Z_copy_137 : decode (jm_cd mY_Z_copy) 137 = .ok (.imul, 1) := by decide +kernel
theorem d_Z_copy_138 : decode (jm_cd mY_Z_copy) 138 = .ok (.iload_n 3, 1) := by decide +kernel
theorem d_Z_copy_139 : decode (jm_cd mY_Z_copy) 139 = .ok (.iadd, 1) := by decide +kernel
theorem d_Z_copy_140 : decode (jm_cd mY_Z_copy) 140 = .ok (.iaload, 1) := by decide +kernel
theorem d_Z_copy_141 : decode (jm_cd mY_Z_copy) 141 = .ok (.iastore, 1) := by decide +kernel
theorem d_Z_copy_142 : decode (jm_cd mY_Z_copy) 142 = .ok (.iinc 3 1, 3) := by decide +kernel
theorem d_Z_copy_145 : decode (jm_cd mY_Z_copy) 145 = .ok (.goto (-119), 3) := by decide +kernel
theorem d_Z_copy_148 : decode (jm_cd mY_Z_copy) 148 = .ok (.iconst 0, 1) := by decide +kernel
theorem d_Z_copy_149 : decode (jm_cd mY_Z_copy) 149 = .ok (.istore_n 3, 1) := by decide +kernel
theorem d_Z_copy_150 : decode (jm_cd mY_Z_copy) 150 = .ok (.iload_n 3, 1) := by decide +kernel
theorem d_Z_copy_151 : decode (jm_cd mY_Z_copy) 151 = .ok (.sipush 215, 3) := by decide +kernel
theorem d_Z_copy_154 : decode (jm_cd mY_Z_copy) 154 = .ok (.if_icmp .ge 33, 3) := by decide +kernel
theorem d_Z_copy_157 : decode (jm_cd mY_Z_copy) 157 = .ok (.aload_n 0, 1) := by decide +kernel
theorem d_Z_copy_158 : decode (jm_cd mY_Z_copy) 158 = .ok (.getfield 34, 3) := by decide +kernel
theorem d_Z_copy_161 : decode (jm_cd mY_Z_copy) 161 = .ok (.sipush 215, 3) := by decide +kernel
theorem d_Z_copy_164 : decode (jm_cd mY_Z_copy) 164 = .ok (.iload_n 2, 1) := by decide +kernel
theorem d_Z_copy_165 : decode (jm_cd mY_Z_copy) 165 = .ok (.imul, 1) := by decide +kernel
theorem d_Z_copy_166 : decode (jm_cd mY_Z_copy) 166 = .ok (.iload_n 3, 1) := by decide +kernel
theorem d_Z_copy_167 : decode (jm_cd mY_Z_copy) 167 = .ok (.iadd, 1) := by decide +kernel
theorem d_Z_copy_168 : decode (jm_cd mY_Z_copy) 168 = .ok (.aload_n 0, 1) := by decide +kernel
theorem d_Z_copy_169 : decode (jm_cd mY_Z_copy) 169 = .ok (.getfield 34, 3) := by decide +kernel
theorem d_Z_copy_172 : decode (jm_cd mY_Z_copy) 172 = .ok (.sipush 215, 3) := by decide +kernel
theorem d_Z_copy_175 : decode (jm_cd mY_Z_copy) 175 = .ok (.iload_n 1, 1) := by decide +kernel
theorem d_Z_copy_176 : decode (jm_cd mY_Z_copy) 176 = .ok (.imul, 1) := by decide +kernel
theorem d_Z_copy_177 : decode (jm_cd mY_Z_copy) 177 = .ok (.iload_n 3, 1) := by decide +kernel
theorem d_Z_copy_178 : decode (jm_cd mY_Z_copy) 178 = .ok (.iadd, 1) := by decide +kernel
theorem d_Z_copy_179 : decode (jm_cd mY_Z_copy) 179 = .ok (.iaload, 1) := by decide +kernel
theorem d_Z_copy_180 : decode (jm_cd mY_Z_copy) 180 = .ok (.iastore, 1) := by decide +kernel
theorem d_Z_copy_181 : decode (jm_cd mY_Z_copy) 181 = .ok (.iinc 3 1, 3) := by decide +kernel
theorem d_Z_copy_184 : decode (jm_cd mY_Z_copy) 184 = .ok (.goto (-34), 3) := by decide +kernel
theorem d_Z_copy_187 : decode (jm_cd mY_Z_copy) 187 = .ok (.return_, 1) := by decide +kernel
def s_Z_copy_L150 : Nat → Int32 → Int32 → Int32 → jm_M → Option jm_M
  | 0, _, _, _, _ => none
  | n + 1, x1, x2, x3, s => (if 215 ≤ x3 then (some s) else jm_ldi s 68 860 ((215 * x1) + x3) (fun v5 => jm_sti s 68 860 ((215 * x2) + x3) v5 (fun s6 => s_Z_copy_L150 n x1 x2 (x3 + 1) s6)))
set_option maxRecDepth 100000 in
set_option maxHeartbeats 4000000 in
theorem s_Z_copy_L150_ok : ∀ (n : Nat) (x1 : Int32) (x2 : Int32) (x3 : Int32) (s : jm_M), jm_Sim mY_Z_copy 0 0 150 [(0, .ref 59), (1, .int x1), (2, .int x2), (3, .int x3)] [] 78 mr_154 s (s_Z_copy_L150 n x1 x2 x3 s) (jm_rV 78 mr_154) := by
  intro n
  induction n with
  | zero => intro x1 x2 x3 s; exact jm_none
  | succ n ih =>
    intro x1 x2 x3 s
    rw [s_Z_copy_L150]
    refine jm_iload_n (pc := 150) (q := 3) (x := x3) d_Z_copy_150 rfl ?_
    refine jm_sipush (pc := 151) (v := 215) d_Z_copy_151 cs_215 ?_
    refine jm_icmp_ge (pc := 154) (tgt := 187) d_Z_copy_154 (by decide) ?_ ?_
    · exact jm_vret (pc := 187) d_Z_copy_187 rfl rfl rfl rfl
    · refine jm_aload_n (pc := 157) (q := 0) (x := 59) d_Z_copy_157 rfl ?_
      refine jm_gr (pc := 158) (i := 59) d_Z_copy_158 fo_Z_34 sh_59 ge_59 le_59_78 rfl (fun _ => rfl) mr_154_59_9 ge_68 ?_
      refine jm_sipush (pc := 161) (v := 215) d_Z_copy_161 cs_215 ?_
      refine jm_iload_n (pc := 164) (q := 2) (x := x2) d_Z_copy_164 rfl ?_
      refine jm_imul (pc := 165) d_Z_copy_165 ?_
      refine jm_iload_n (pc := 166) (q := 3) (x := x3) d_Z_copy_166 rfl ?_
      refine jm_iadd (pc := 167) d_Z_copy_167 ?_
      refine jm_aload_n (pc := 168) (q := 0) (x := 59) d_Z_copy_168 rfl ?_
      refine jm_gr (pc := 169) (i := 59) d_Z_copy_169 fo_Z_34 sh_59 ge_59 le_59_78 rfl (fun _ => rfl) mr_154_59_9 ge_68 ?_
      refine jm_sipush (pc := 172) (v := 215) d_Z_copy_172 cs_215 ?_
      refine jm_iload_n (pc := 175) (q := 1) (x := x1) d_Z_copy_175 rfl ?_
      refine jm_imul (pc := 176) d_Z_copy_176 ?_
      refine jm_iload_n (pc := 177) (q := 3) (x := x3) d_Z_copy_177 rfl ?_
      refine jm_iadd (pc := 178) d_Z_copy_178 ?_
      refine jm_iald (pc := 179) d_Z_copy_179 sh_68 ge_68 le_68_78 (fun v5 => ?_)
      refine jm_iast (pc := 180) d_Z_copy_180 sh_68 ge_68 le_68_78 (fun s6 => ?_)
      refine jm_iinc (pc := 181) (q := 3) (x := x3) (v := 1) (L2 := [(3, .int (x3 + 1)), (0, .ref 59), (1, .int x1), (2, .int x2)]) d_Z_copy_181 rfl ci_1 (Nat.le_of_ble_eq_true rfl) rfl ?_
      refine jm_goto (pc := 184) (tgt := 150) d_Z_copy_184 (by decide) ?_
      refine jm_sub (L2 := [(0, .ref 59), (1, .int x1), (2, .int x2), (3, .int (x3 + 1))]) [1, 2, 3, 0] rfl ?_
      exact ih x1 x2 (x3 + 1) s6
def s_Z_copy_L26 : Nat → Int32 → Int32 → Int32 → jm_M → Option jm_M
  | 0, _, _, _, _ => none
  | n + 1, x1, x2, x3, s => (if 10 ≤ x3 then s_Z_copy_L150 5000 x1 x2 0 s else jm_ldi s 62 40 ((10 * x1) + x3) (fun v7 => jm_sti s 62 40 ((10 * x2) + x3) v7 (fun s8 => jm_ldi s8 63 40 ((10 * x1) + x3) (fun v9 => jm_sti s8 63 40 ((10 * x2) + x3) v9 (fun s10 => jm_ldi s10 64 40 ((10 * x1) + x3) (fun v11 => jm_sti s10 64 40 ((10 * x2) + x3) v11 (fun s12 => jm_ldi s12 65 40 ((10 * x1) + x3) (fun v13 => jm_sti s12 65 40 ((10 * x2) + x3) v13 (fun s14 => jm_ldi s14 66 40 ((10 * x1) + x3) (fun v15 => jm_sti s14 66 40 ((10 * x2) + x3) v15 (fun s16 => s_Z_copy_L26 n x1 x2 (x3 + 1) s16)))))))))))
set_option maxRecDepth 100000 in
set_option maxHeartbeats 4000000 in
theorem s_Z_copy_L26_ok : ∀ (n : Nat) (x1 : Int32) (x2 : Int32) (x3 : Int32) (s : jm_M), jm_Sim mY_Z_copy 0 0 26 [(0, .ref 59), (1, .int x1), (2, .int x2), (3, .int x3)] [] 78 mr_154 s (s_Z_copy_L26 n x1 x2 x3 s) (jm_rV 78 mr_154) := by
  intro n
  induction n with
  | zero => intro x1 x2 x3 s; exact jm_none
  | succ n ih =>
    intro x1 x2 x3 s
    rw [s_Z_copy_L26]
    refine jm_iload_n (pc := 26) (q := 3) (x := x3) d_Z_copy_26 rfl ?_
    refine jm_bipush (pc := 27) (v := 10) d_Z_copy_27 cb_10 ?_
    refine jm_icmp_ge (pc := 29) (tgt := 148) d_Z_copy_29 (by decide) ?_ ?_
    · refine jm_iconst (pc := 148) (v := 0) d_Z_copy_148 ci_0 ?_
      refine jm_istore_n (pc := 149) (i := 3) (L2 := [(3, .int 0), (0, .ref 59), (1, .int x1), (2, .int x2)]) d_Z_copy_149 rfl (Nat.le_of_ble_eq_true rfl) rfl ?_
      refine jm_sub (L2 := [(0, .ref 59), (1, .int x1), (2, .int x2), (3, .int 0)]) [1, 2, 3, 0] rfl ?_
      exact s_Z_copy_L150_ok 5000 x1 x2 0 s
    · refine jm_aload_n (pc := 32) (q := 0) (x := 59) d_Z_copy_32 rfl ?_
      refine jm_gr (pc := 33) (i := 59) d_Z_copy_33 fo_Z_16 sh_59 ge_59 le_59_78 rfl (fun _ => rfl) mr_154_59_3 ge_62 ?_
      refine jm_bipush (pc := 36) (v := 10) d_Z_copy_36 cb_10 ?_
      refine jm_iload_n (pc := 38) (q := 2) (x := x2) d_Z_copy_38 rfl ?_
      refine jm_imul (pc := 39) d_Z_copy_39 ?_
      refine jm_iload_n (pc := 40) (q := 3) (x := x3) d_Z_copy_40 rfl ?_
      refine jm_iadd (pc := 41) d_Z_copy_41 ?_
      refine jm_aload_n (pc := 42) (q := 0) (x := 59) d_Z_copy_42 rfl ?_
      refine jm_gr (pc := 43) (i := 59) d_Z_copy_43 fo_Z_16 sh_59 ge_59 le_59_78 rfl (fun _ => rfl) mr_154_59_3 ge_62 ?_
      refine jm_bipush (pc := 46) (v := 10) d_Z_copy_46 cb_10 ?_
      refine jm_iload_n (pc := 48) (q := 1) (x := x1) d_Z_copy_48 rfl ?_
      refine jm_imul (pc := 49) d_Z_copy_49 ?_
      refine jm_iload_n (pc := 50) (q := 3) (x := x3) d_Z_copy_50 rfl ?_
      refine jm_iadd (pc := 51) d_Z_copy_51 ?_
      refine jm_iald (pc := 52) d_Z_copy_52 sh_62 ge_62 le_62_78 (fun v7 => ?_)
      refine jm_iast (pc := 53) d_Z_copy_53 sh_62 ge_62 le_62_78 (fun s8 => ?_)
      refine jm_aload_n (pc := 54) (q := 0) (x := 59) d_Z_copy_54 rfl ?_
      refine jm_gr (pc := 55) (i := 59) d_Z_copy_55 fo_Z_19 sh_59 ge_59 le_59_78 rfl (fun _ => rfl) mr_154_59_4 ge_63 ?_
      refine jm_bipush (pc := 58) (v := 10) d_Z_copy_58 cb_10 ?_
      refine jm_iload_n (pc := 60) (q := 2) (x := x2) d_Z_copy_60 rfl ?_
      refine jm_imul (pc := 61) d_Z_copy_61 ?_
      refine jm_iload_n (pc := 62) (q := 3) (x := x3) d_Z_copy_62 rfl ?_
      refine jm_iadd (pc := 63) d_Z_copy_63 ?_
      refine jm_aload_n (pc := 64) (q := 0) (x := 59) d_Z_copy_64 rfl ?_
      refine jm_gr (pc := 65) (i := 59) d_Z_copy_65 fo_Z_19 sh_59 ge_59 le_59_78 rfl (fun _ => rfl) mr_154_59_4 ge_63 ?_
      refine jm_bipush (pc := 68) (v := 10) d_Z_copy_68 cb_10 ?_
      refine jm_iload_n (pc := 70) (q := 1) (x := x1) d_Z_copy_70 rfl ?_
      refine jm_imul (pc := 71) d_Z_copy_71 ?_
      refine jm_iload_n (pc := 72) (q := 3) (x := x3) d_Z_copy_72 rfl ?_
      refine jm_iadd (pc := 73) d_Z_copy_73 ?_
      refine jm_iald (pc := 74) d_Z_copy_74 sh_63 ge_63 le_63_78 (fun v9 => ?_)
      refine jm_iast (pc := 75) d_Z_copy_75 sh_63 ge_63 le_63_78 (fun s10 => ?_)
      refine jm_aload_n (pc := 76) (q := 0) (x := 59) d_Z_copy_76 rfl ?_
      refine jm_gr (pc := 77) (i := 59) d_Z_copy_77 fo_Z_22 sh_59 ge_59 le_59_78 rfl (fun _ => rfl) mr_154_59_5 ge_64 ?_
      refine jm_bipush (pc := 80) (v := 10) d_Z_copy_80 cb_10 ?_
      refine jm_iload_n (pc := 82) (q := 2) (x := x2) d_Z_copy_82 rfl ?_
      refine jm_imul (pc := 83) d_Z_copy_83 ?_
      refine jm_iload_n (pc := 84) (q := 3) (x := x3) d_Z_copy_84 rfl ?_
      refine jm_iadd (pc := 85) d_Z_copy_85 ?_
      refine jm_aload_n (pc := 86) (q := 0) (x := 59) d_Z_copy_86 rfl ?_
      refine jm_gr (pc := 87) (i := 59) d_Z_copy_87 fo_Z_22 sh_59 ge_59 le_59_78 rfl (fun _ => rfl) mr_154_59_5 ge_64 ?_
      refine jm_bipush (pc := 90) (v := 10) d_Z_copy_90 cb_10 ?_
      refine jm_iload_n (pc := 92) (q := 1) (x := x1) d_Z_copy_92 rfl ?_
      refine jm_imul (pc := 93) d_Z_copy_93 ?_
      refine jm_iload_n (pc := 94) (q := 3) (x := x3) d_Z_copy_94 rfl ?_
      refine jm_iadd (pc := 95) d_Z_copy_95 ?_
      refine jm_iald (pc := 96) d_Z_copy_96 sh_64 ge_64 le_64_78 (fun v11 => ?_)
      refine jm_iast (pc := 97) d_Z_copy_97 sh_64 ge_64 le_64_78 (fun s12 => ?_)
      refine jm_aload_n (pc := 98) (q := 0) (x := 59) d_Z_copy_98 rfl ?_
      refine jm_gr (pc := 99) (i := 59) d_Z_copy_99 fo_Z_25 sh_59 ge_59 le_59_78 rfl (fun _ => rfl) mr_154_59_6 ge_65 ?_
      refine jm_bipush (pc := 102) (v := 10) d_Z_copy_102 cb_10 ?_
      refine jm_iload_n (pc := 104) (q := 2) (x := x2) d_Z_copy_104 rfl ?_
      refine jm_imul (pc := 105) d_Z_copy_105 ?_
      refine jm_iload_n (pc := 106) (q := 3) (x := x3) d_Z_copy_106 rfl ?_
      refine jm_iadd (pc := 107) d_Z_copy_107 ?_
      refine jm_aload_n (pc := 108) (q := 0) (x := 59) d_Z_copy_108 rfl ?_
      refine jm_gr (pc := 109) (i := 59) d_Z_copy_109 fo_Z_25 sh_59 ge_59 le_59_78 rfl (fun _ => rfl) mr_154_59_6 ge_65 ?_
      refine jm_bipush (pc := 112) (v := 10) d_Z_copy_112 cb_10 ?_
      refine jm_iload_n (pc := 114) (q := 1) (x := x1) d_Z_copy_114 rfl ?_
      refine jm_imul (pc := 115) d_Z_copy_115 ?_
      refine jm_iload_n (pc := 116) (q := 3) (x := x3) d_Z_copy_116 rfl ?_
      refine jm_iadd (pc := 117) d_Z_copy_117 ?_
      refine jm_iald (pc := 118) d_Z_copy_118 sh_65 ge_65 le_65_78 (fun v13 => ?_)
      refine jm_iast (pc := 119) d_Z_copy_119 sh_65 ge_65 le_65_78 (fun s14 => ?_)
      refine jm_aload_n (pc := 120) (q := 0) (x := 59) d_Z_copy_120 rfl ?_
      refine jm_gr (pc := 121) (i := 59) d_Z_copy_121 fo_Z_28 sh_59 ge_59 le_59_78 rfl (fun _ => rfl) mr_154_59_7 ge_66 ?_
      refine jm_bipush (pc := 124) (v := 10) d_Z_copy_124 cb_10 ?_
      refine jm_iload_n (pc := 126) (q := 2) (x := x2) d_Z_copy_126 rfl ?_
      refine jm_imul (pc := 127) d_Z_copy_127 ?_
      refine jm_iload_n (pc := 128) (q := 3) (x := x3) d_Z_copy_128 rfl ?_
      refine jm_iadd (pc := 129) d_Z_copy_129 ?_
      refine jm_aload_n (pc := 130) (q := 0) (x := 59) d_Z_copy_130 rfl ?_
      refine jm_gr (pc := 131) (i := 59) d_Z_copy_131 fo_Z_28 sh_59 ge_59 le_59_78 rfl (fun _ => rfl) mr_154_59_7 ge_66 ?_
      refine jm_bipush (pc := 134) (v := 10) d_Z_copy_134 cb_10 ?_
      refine jm_iload_n (pc := 136) (q := 1) (x := x1) d_Z_copy_136 rfl ?_
      refine jm_imul (pc := 137) d_Z_copy_137 ?_
      refine jm_iload_n (pc := 138) (q := 3) (x := x3) d_Z_copy_138 rfl ?_
      refine jm_iadd (pc := 139) d_Z_copy_139 ?_
      refine jm_iald (pc := 140) d_Z_copy_140 sh_66 ge_66 le_66_78 (fun v15 => ?_)
      refine jm_iast (pc := 141) d_Z_copy_141 sh_66 ge_66 le_66_78 (fun s16 => ?_)
      refine jm_iinc (pc := 142) (q := 3) (x := x3) (v := 1) (L2 := [(3, .int (x3 + 1)), (0, .ref 59), (1, .int x1), (2, .int x2)]) d_Z_copy_142 rfl ci_1 (Nat.le_of_ble_eq_true rfl) rfl ?_
      refine jm_goto (pc := 145) (tgt := 26) d_Z_copy_145 (by decide) ?_
      refine jm_sub (L2 := [(0, .ref 59), (1, .int x1), (2, .int x2), (3, .int (x3 + 1))]) [1, 2, 3, 0] rfl ?_
      exact ih x1 x2 (x3 + 1) s16
def s_Z_copy (s : jm_M) (a0 : Int32) (a1 : Int32) : Option jm_M := jm_ldi s 61 4 a0 (fun v1 => jm_sti s 61 4 a1 v1 (fun s2 => jm_ldi s2 67 4 a0 (fun v3 => jm_sti s2 67 4 a1 v3 (fun s4 => s_Z_copy_L26 5000 a0 a1 0 s4))))
set_option maxRecDepth 100000 in
set_option maxHeartbeats 4000000 in
theorem s_Z_copy_ok (s : jm_M) (a0 : Int32) (a1 : Int32) : jm_Sim mY_Z_copy 0 0 0 [(0, .ref 59), (1, .int a0), (2, .int a1)] [] 78 mr_154 s (s_Z_copy s a0 a1) (jm_rV 78 mr_154) := by
  unfold s_Z_copy
  refine jm_aload_n (pc := 0) (q := 0) (x := 59) d_Z_copy_0 rfl ?_
  refine jm_gr (pc := 1) (i := 59) d_Z_copy_1 fo_Z_13 sh_59 ge_59 le_59_78 rfl (fun _ => rfl) mr_154_59_2 ge_61 ?_
  refine jm_iload_n (pc := 4) (q := 2) (x := a1) d_Z_copy_4 rfl ?_
  refine jm_aload_n (pc := 5) (q := 0) (x := 59) d_Z_copy_5 rfl ?_
  refine jm_gr (pc := 6) (i := 59) d_Z_copy_6 fo_Z_13 sh_59 ge_59 le_59_78 rfl (fun _ => rfl) mr_154_59_2 ge_61 ?_
  refine jm_iload_n (pc := 9) (q := 1) (x := a0) d_Z_copy_9 rfl ?_
  refine jm_iald (pc := 10) d_Z_copy_10 sh_61 ge_61 le_61_78 (fun v1 => ?_)
  refine jm_iast (pc := 11) d_Z_copy_11 sh_61 ge_61 le_61_78 (fun s2 => ?_)
  refine jm_aload_n (pc := 12) (q := 0) (x := 59) d_Z_copy_12 rfl ?_
  refine jm_gr (pc := 13) (i := 59) d_Z_copy_13 fo_Z_31 sh_59 ge_59 le_59_78 rfl (fun _ => rfl) mr_154_59_8 ge_67 ?_
  refine jm_iload_n (pc := 16) (q := 2) (x := a1) d_Z_copy_16 rfl ?_
  refine jm_aload_n (pc := 17) (q := 0) (x := 59) d_Z_copy_17 rfl ?_
  refine jm_gr (pc := 18) (i := 59) d_Z_copy_18 fo_Z_31 sh_59 ge_59 le_59_78 rfl (fun _ => rfl) mr_154_59_8 ge_67 ?_
  refine jm_iload_n (pc := 21) (q := 1) (x := a0) d_Z_copy_21 rfl ?_
  refine jm_iald (pc := 22) d_Z_copy_22 sh_67 ge_67 le_67_78 (fun v3 => ?_)
  refine jm_iast (pc := 23) d_Z_copy_23 sh_67 ge_67 le_67_78 (fun s4 => ?_)
  refine jm_iconst (pc := 24) (v := 0) d_Z_copy_24 ci_0 ?_
  refine jm_istore_n (pc := 25) (i := 3) (L2 := [(3, .int 0), (0, .ref 59), (1, .int a0), (2, .int a1)]) d_Z_copy_25 rfl (Nat.le_of_ble_eq_true rfl) rfl ?_
  refine jm_sub (L2 := [(0, .ref 59), (1, .int a0), (2, .int a1), (3, .int 0)]) [1, 2, 3, 0] rfl ?_
  exact s_Z_copy_L26_ok 5000 a0 a1 0 s4
theorem d_Z_lay_0 : decode (jm_cd mY_Z_lay) 0 = .ok (.aload_n 0, 1) := by decide +kernel
theorem d_Z_lay_1 : decode (jm_cd mY_Z_lay) 1 = .ok (.invokevirtual 130, 3) := by decide +kernel
theorem d_Z_lay_4 : decode (jm_cd mY_Z_lay) 4 = .ok (.bipush (-4), 2) := by decide +kernel
theorem d_Z_lay_6 : decode (jm_cd mY_Z_lay) 6 = .ok (.if_icmp .eq 6, 3) := by decide +kernel
theorem d_Z_lay_9 : decode (jm_cd mY_Z_lay) 9 = .ok (.bipush (-2), 2) := by decide +kernel
theorem d_Z_lay_11 : decode (jm_cd mY_Z_lay) 11 = .ok (.ireturn, 1) := by decide +kernel
theorem d_Z_lay_12 : decode (jm_cd mY_Z_lay) 12 = .ok (.aload_n 0, 1) := by decide +kernel
theorem d_Z_lay_13 : decode (jm_cd mY_Z_lay) 13 = .ok (.iconst 3, 1) := by decide +kernel
theorem d_Z_lay_14 : decode (jm_cd mY_Z_lay) 14 = .ok (.iconst 0, 1) := by decide +kernel
theorem d_Z_lay_15 : decode (jm_cd mY_Z_lay) 15 = .ok (.invokevirtual 134, 3) := by decide +kernel
theorem d_Z_lay_18 : decode (jm_cd mY_Z_lay) 18 = .ok (.aload_n 0, 1) := by decide +kernel
theorem d_Z_lay_19 : decode (jm_cd mY_Z_lay) 19 = .ok (.getfield 37, 3) := by decide +kernel
theorem d_Z_lay_22 : decode (jm_cd mY_Z_lay) 22 = .ok (.iconst 0, 1) := by decide +kernel
theorem d_Z_lay_23 : decode (jm_cd mY_Z_lay) 23 = .ok (.iconst 0, 1) := by decide +kernel
theorem d_Z_lay_24 : decode (jm_cd mY_Z_lay) 24 = .ok (.iastore, 1) := by decide +kernel
theorem d_Z_lay_25 : decode (jm_cd mY_Z_lay) 25 = .ok (.iconst 0, 1) := by decide +kernel
theorem d_Z_lay_26 : decode (jm_cd mY_Z_lay) 26 = .ok (.istore_n 1, 1) := by decide +kernel
theorem d_Z_lay_27 : decode (jm_cd mY_Z_lay) 27 = .ok (.iload_n 1, 1) := by decide +kernel
theorem d_Z_lay_28 : decode (jm_cd mY_Z_lay) 28 = .ok (.bipush 10, 2) := by decide +kernel
theorem d_Z_lay_30 : decode (jm_cd mY_Z_lay) 30 = .ok (.if_icmp .ge 16, 3) := by decide +kernel
theorem d_Z_lay_33 : decode (jm_cd mY_Z_lay) 33 = .ok (.aload_n 0, 1) := by decide +kernel
theorem d_Z_lay_34 : decode (jm_cd mY_Z_lay) 34 = .ok (.getfield 40, 3) := by decide +kernel
theorem d_Z_lay_37 : decode (jm_cd mY_Z_lay) 37 = .ok (.iload_n 1, 1) := by decide +kernel
theorem d_Z_lay_38 : decode (jm_cd mY_Z_lay) 38 = .ok (.iconst (-1), 1) := by decide +kernel
theorem d_Z_lay_39 : decode (jm_cd mY_Z_lay) 39 = .ok (.iastore, 1) := by decide +kernel
theorem d_Z_lay_40 : decode (jm_cd mY_Z_lay) 40 = .ok (.iinc 1 1, 3) := by decide +kernel
theorem d_Z_lay_43 : decode (jm_cd mY_Z_lay) 43 = .ok (.goto (-16), 3) := by decide +kernel
theorem d_Z_lay_46 : decode (jm_cd mY_Z_lay) 46 = .ok (.aload_n 0, 1) := by decide +kernel
theorem d_Z_lay_47 : decode (jm_cd mY_Z_lay) 47 = .ok (.getfield 13, 3) := by decide +kernel
theorem d_Z_lay_50 : decode (jm_cd mY_Z_lay) 50 = .ok (.iconst 0, 1) := by decide +kernel
theorem d_Z_lay_51 : decode (jm_cd mY_Z_lay) 51 = .ok (.iaload, 1) := by decide +kernel
theorem d_Z_lay_52 : decode (jm_cd mY_Z_lay) 52 = .ok (.ireturn, 1) := by decide +kernel
def s_Z_lay_L27 : Nat → Int32 → jm_M → Option (Int32 × jm_M)
  | 0, _, _ => none
  | n + 1, x1, s => (if 10 ≤ x1 then jm_ldi s 61 4 0 (fun v5 => (some (v5, s))) else jm_sti s 70 30 x1 (-1) (fun s6 => s_Z_lay_L27 n (x1 + 1) s6))
set_option maxRecDepth 100000 in
set_option maxHeartbeats 4000000 in
theorem s_Z_lay_L27_ok : ∀ (n : Nat) (x1 : Int32) (s : jm_M), jm_Sim mY_Z_lay 0 0 27 [(0, .ref 59), (1, .int x1)] [] 78 mr_154 s (s_Z_lay_L27 n x1 s) (jm_rP 78 mr_154) := by
  intro n
  induction n with
  | zero => intro x1 s; exact jm_none
  | succ n ih =>
    intro x1 s
    rw [s_Z_lay_L27]
    refine jm_iload_n (pc := 27) (q := 1) (x := x1) d_Z_lay_27 rfl ?_
    refine jm_bipush (pc := 28) (v := 10) d_Z_lay_28 cb_10 ?_
    refine jm_icmp_ge (pc := 30) (tgt := 46) d_Z_lay_30 (by decide) ?_ ?_
    · refine jm_aload_n (pc := 46) (q := 0) (x := 59) d_Z_lay_46 rfl ?_
      refine jm_gr (pc := 47) (i := 59) d_Z_lay_47 fo_Z_13 sh_59 ge_59 le_59_78 rfl (fun _ => rfl) mr_154_59_2 ge_61 ?_
      refine jm_iconst (pc := 50) (v := 0) d_Z_lay_50 ci_0 ?_
      refine jm_iald (pc := 51) d_Z_lay_51 sh_61 ge_61 le_61_78 (fun v5 => ?_)
      exact jm_iret (pc := 52) (x := v5) d_Z_lay_52 rfl rfl rfl rfl rfl
    · refine jm_aload_n (pc := 33) (q := 0) (x := 59) d_Z_lay_33 rfl ?_
      refine jm_gr (pc := 34) (i := 59) d_Z_lay_34 fo_Z_40 sh_59 ge_59 le_59_78 rfl (fun _ => rfl) mr_154_59_11 ge_70 ?_
      refine jm_iload_n (pc := 37) (q := 1) (x := x1) d_Z_lay_37 rfl ?_
      refine jm_iconst (pc := 38) (v := (-1)) d_Z_lay_38 ci_m1 ?_
      refine jm_iast (pc := 39) d_Z_lay_39 sh_70 ge_70 le_70_78 (fun s6 => ?_)
      refine jm_iinc (pc := 40) (q := 1) (x := x1) (v := 1) (L2 := [(1, .int (x1 + 1)), (0, .ref 59)]) d_Z_lay_40 rfl ci_1 (Nat.le_of_ble_eq_true rfl) rfl ?_
      refine jm_goto (pc := 43) (tgt := 27) d_Z_lay_43 (by decide) ?_
      refine jm_sub (L2 := [(0, .ref 59), (1, .int (x1 + 1))]) [1, 0] rfl ?_
      exact ih (x1 + 1) s6
def s_Z_lay (s : jm_M) : Option (Int32 × jm_M) := jm_b2 (s_Z_readAll s) (fun v1 s2 => (if v1 = (-4) then jm_bd (s_Z_copy s2 3 0) (fun s3 => jm_sti s3 69 9 0 0 (fun s4 => s_Z_lay_L27 5000 0 s4)) else (some ((-2), s2))))
set_option maxRecDepth 100000 in
set_option maxHeartbeats 4000000 in
theorem s_Z_lay_ok (s : jm_M) : jm_Sim mY_Z_lay 0 0 0 [(0, .ref 59)] [] 78 mr_154 s (s_Z_lay s) (jm_rP 78 mr_154) := by
  unfold s_Z_lay
  refine jm_aload_n (pc := 0) (q := 0) (x := 59) d_Z_lay_0 rfl ?_
  refine jm_Vi (pc := 1) (Y' := mY_Z_readAll) (i := 59) (avs := []) (rest := []) (s_Z_readAll_ok s) ok_Z_readAll l0_Z_lay__Z_readAll ml_Z_130 im_Z_readAll se_Z_readAll d_Z_lay_1 rfl sh_59 rfl rfl ge_59 le_59_78 rfl (Nat.le_of_ble_eq_true rfl) (Nat.le_of_ble_eq_true rfl) (Nat.le_of_ble_eq_true rfl) (Nat.le_of_ble_eq_true rfl) (fun v1 s2 => ?_)
  refine jm_bipush (pc := 4) (v := (-4)) d_Z_lay_4 cb_m4 ?_
  refine jm_icmp_eq (pc := 6) (tgt := 12) d_Z_lay_6 (by decide) ?_ ?_
  · refine jm_aload_n (pc := 12) (q := 0) (x := 59) d_Z_lay_12 rfl ?_
    refine jm_iconst (pc := 13) (v := 3) d_Z_lay_13 ci_3 ?_
    refine jm_iconst (pc := 14) (v := 0) d_Z_lay_14 ci_0 ?_
    refine jm_Vv (pc := 15) (Y' := mY_Z_copy) (i := 59) (avs := [.int 3, .int 0]) (rest := []) (s_Z_copy_ok s2 3 0) ok_Z_copy l0_Z_lay__Z_copy ml_Z_134 im_Z_copy se_Z_copy d_Z_lay_15 rfl sh_59 rfl rfl ge_59 le_59_78 rfl (Nat.le_of_ble_eq_true rfl) (Nat.le_of_ble_eq_true rfl) (Nat.le_of_ble_eq_true rfl) (Nat.le_of_ble_eq_true rfl) (fun s3 => ?_)
    refine jm_aload_n (pc := 18) (q := 0) (x := 59) d_Z_lay_18 rfl ?_
    refine jm_gr (pc := 19) (i := 59) d_Z_lay_19 fo_Z_37 sh_59 ge_59 le_59_78 rfl (fun _ => rfl) mr_154_59_10 ge_69 ?_
    refine jm_iconst (pc := 22) (v := 0) d_Z_lay_22 ci_0 ?_
    refine jm_iconst (pc := 23) (v := 0) d_Z_lay_23 ci_0 ?_
    refine jm_iast (pc := 24) d_Z_lay_24 sh_69 ge_69 le_69_78 (fun s4 => ?_)
    refine jm_iconst (pc := 25) (v := 0) d_Z_lay_25 ci_0 ?_
    refine jm_istore_n (pc := 26) (i := 1) (L2 := [(1, .int 0), (0, .ref 59)]) d_Z_lay_26 rfl (Nat.le_of_ble_eq_true rfl) rfl ?_
    refine jm_sub (L2 := [(0, .ref 59), (1, .int 0)]) [1, 0] rfl ?_
    exact s_Z_lay_L27_ok 5000 0 s4
  · refine jm_bipush (pc := 9) (v := (-2)) d_Z_lay_9 cb_m2 ?_
    exact jm_iret (pc := 11) (x := (-2)) d_Z_lay_11 rfl rfl rfl rfl rfl
def s_Ne_isHill_15 (s : jm_M) (a0 : Int32) : Option Int32 := (if a0 < 0 then (some 0) else (if (s.1 15 0) ≤ a0 then (some 0) else (if 10 ≤ a0 then (some 0) else (some 1))))
set_option maxRecDepth 100000 in
set_option maxHeartbeats 4000000 in
theorem s_Ne_isHill_15_ok (s : jm_M) (a0 : Int32) : jm_Sim mY_Ne_isHill 0 0 0 [(0, .ref 15), (1, .int a0)] [] 78 mr_154 s (s_Ne_isHill_15 s a0) (jm_rI 78 mr_154 s) := by
  unfold s_Ne_isHill_15
  refine jm_iload_n (pc := 0) (q := 1) (x := a0) d_Ne_isHill_0 rfl ?_
  refine jm_if_lt (pc := 1) (tgt := 22) d_Ne_isHill_1 (by decide) ?_ ?_
  · refine jm_iconst (pc := 22) (v := 0) d_Ne_isHill_22 ci_0 ?_
    exact jm_iret (pc := 23) (x := 0) d_Ne_isHill_23 rfl (by decide) rfl rfl rfl
  · refine jm_iload_n (pc := 4) (q := 1) (x := a0) d_Ne_isHill_4 rfl ?_
    refine jm_aload_n (pc := 5) (q := 0) (x := 15) d_Ne_isHill_5 rfl ?_
    refine jm_gi (pc := 6) (i := 15) d_Ne_isHill_6 fo_Ne_9 sh_15 ge_15 le_15_78 rfl (fun _ => rfl) ?_
    refine jm_icmp_ge (pc := 9) (tgt := 22) d_Ne_isHill_9 (by decide) ?_ ?_
    · refine jm_iconst (pc := 22) (v := 0) d_Ne_isHill_22 ci_0 ?_
      exact jm_iret (pc := 23) (x := 0) d_Ne_isHill_23 rfl (by decide) rfl rfl rfl
    · refine jm_iload_n (pc := 12) (q := 1) (x := a0) d_Ne_isHill_12 rfl ?_
      refine jm_bipush (pc := 13) (v := 10) d_Ne_isHill_13 cb_10 ?_
      refine jm_icmp_ge (pc := 15) (tgt := 22) d_Ne_isHill_15 (by decide) ?_ ?_
      · refine jm_iconst (pc := 22) (v := 0) d_Ne_isHill_22 ci_0 ?_
        exact jm_iret (pc := 23) (x := 0) d_Ne_isHill_23 rfl (by decide) rfl rfl rfl
      · refine jm_iconst (pc := 18) (v := 1) d_Ne_isHill_18 ci_1 ?_
        refine jm_goto (pc := 19) (tgt := 23) d_Ne_isHill_19 (by decide) ?_
        exact jm_iret (pc := 23) (x := 1) d_Ne_isHill_23 rfl (by decide) rfl rfl rfl
theorem d_X_hill_0 : decode (jm_cd mY_X_hill) 0 = .ok (.aload_n 0, 1) := by decide +kernel
theorem d_X_hill_1 : decode (jm_cd mY_X_hill) 1 = .ok (.getfield 31, 3) := by decide +kernel
theorem d_X_hill_4 : decode (jm_cd mY_X_hill) 4 = .ok (.iload_n 1, 1) := by decide +kernel
theorem d_X_hill_5 : decode (jm_cd mY_X_hill) 5 = .ok (.invokevirtual 93, 3) := by decide +kernel
theorem d_X_hill_8 : decode (jm_cd mY_X_hill) 8 = .ok (.ifCond .ne 5, 3) := by decide +kernel
theorem d_X_hill_11 : decode (jm_cd mY_X_hill) 11 = .ok (.iconst (-1), 1) := by decide +kernel
theorem d_X_hill_12 : decode (jm_cd mY_X_hill) 12 = .ok (.ireturn, 1) := by decide +kernel
theorem d_X_hill_13 : decode (jm_cd mY_X_hill) 13 = .ok (.iload_n 2, 1) := by decide +kernel
theorem d_X_hill_14 : decode (jm_cd mY_X_hill) 14 = .ok (.tableswitch 84 0 4 #[34, 44, 54, 64, 74], 34) := by decide +kernel
theorem d_X_hill_48 : decode (jm_cd mY_X_hill) 48 = .ok (.aload_n 0, 1) := by decide +kernel
theorem d_X_hill_49 : decode (jm_cd mY_X_hill) 49 = .ok (.getfield 31, 3) := by decide +kernel
theorem d_X_hill_52 : decode (jm_cd mY_X_hill) 52 = .ok (.getfield 97, 3) := by decide +kernel
theorem d_X_hill_55 : decode (jm_cd mY_X_hill) 55 = .ok (.iload_n 1, 1) := by decide +kernel
theorem d_X_hill_56 : decode (jm_cd mY_X_hill) 56 = .ok (.iaload, 1) := by decide +kernel
theorem d_X_hill_57 : decode (jm_cd mY_X_hill) 57 = .ok (.ireturn, 1) := by decide +kernel
theorem d_X_hill_58 : decode (jm_cd mY_X_hill) 58 = .ok (.aload_n 0, 1) := by decide +kernel
theorem d_X_hill_59 : decode (jm_cd mY_X_hill) 59 = .ok (.getfield 31, 3) := by decide +kernel
theorem d_X_hill_62 : decode (jm_cd mY_X_hill) 62 = .ok (.getfield 101, 3) := by decide +kernel
theorem d_X_hill_65 : decode (jm_cd mY_X_hill) 65 = .ok (.iload_n 1, 1) := by decide +kernel
theorem d_X_hill_66 : decode (jm_cd mY_X_hill) 66 = .ok (.iaload, 1) := by decide +kernel
theorem d_X_hill_67 : decode (jm_cd mY_X_hill) 67 = .ok (.ireturn, 1) := by decide +kernel
theorem d_X_hill_68 : decode (jm_cd mY_X_hill) 68 = .ok (.aload_n 0, 1) := by decide +kernel
theorem d_X_hill_69 : decode (jm_cd mY_X_hill) 69 = .ok (.getfield 31, 3) := by decide +kernel
theorem d_X_hill_72 : decode (jm_cd mY_X_hill) 72 = .ok (.getfield 104, 3) := by decide +kernel
theorem d_X_hill_75 : decode (jm_cd mY_X_hill) 75 = .ok (.iload_n 1, 1) := by decide +kernel
theorem d_X_hill_76 : decode (jm_cd mY_X_hill) 76 = .ok (.iaload, 1) := by decide +kernel
theorem d_X_hill_77 : decode (jm_cd mY_X_hill) 77 = .ok (.ireturn, 1) := by decide +kernel
theorem d_X_hill_78 : decode (jm_cd mY_X_hill) 78 = .ok (.aload_n 0, 1) := by decide +kernel
theorem d_X_hill_79 : decode (jm_cd mY_X_hill) 79 = .ok (.getfield 31, 3) := by decide +kernel
theorem d_X_hill_82 : decode (jm_cd mY_X_hill) 82 = .ok (.getfield 107, 3) := by decide +kernel
theorem d_X_hill_85 : decode (jm_cd mY_X_hill) 85 = .ok (.iload_n 1, 1) := by decide +kernel
theorem d_X_hill_86 : decode (jm_cd mY_X_hill) 86 = .ok (.iaload, 1) := by decide +kernel
theorem d_X_hill_87 : decode (jm_cd mY_X_hill) 87 = .ok (.ireturn, 1) := by decide +kernel
theorem d_X_hill_88 : decode (jm_cd mY_X_hill) 88 = .ok (.aload_n 0, 1) := by decide +kernel
theorem d_X_hill_89 : decode (jm_cd mY_X_hill) 89 = .ok (.getfield 31, 3) := by decide +kernel
theorem d_X_hill_92 : decode (jm_cd mY_X_hill) 92 = .ok (.getfield 110, 3) := by decide +kernel
theorem d_X_hill_95 : decode (jm_cd mY_X_hill) 95 = .ok (.iload_n 1, 1) := by decide +kernel
theorem d_X_hill_96 : decode (jm_cd mY_X_hill) 96 = .ok (.iaload, 1) := by decide +kernel
theorem d_X_hill_97 : decode (jm_cd mY_X_hill) 97 = .ok (.ireturn, 1) := by decide +kernel
theorem d_X_hill_98 : decode (jm_cd mY_X_hill) 98 = .ok (.iconst (-1), 1) := by decide +kernel
theorem d_X_hill_99 : decode (jm_cd mY_X_hill) 99 = .ok (.ireturn, 1) := by decide +kernel
def s_X_hill (s : jm_M) (a0 : Int32) (a1 : Int32) : Option Int32 := jm_bd (s_Ne_isHill_15 s a0) (fun v1 => (if v1 = 0 then (some (-1)) else (if a1 = 0 then jm_ldi s 16 10 a0 (fun v2 => (some v2)) else (if a1 = 1 then jm_ldi s 17 10 a0 (fun v3 => (some v3)) else (if a1 = 2 then jm_ldi s 18 10 a0 (fun v4 => (some v4)) else (if a1 = 3 then jm_ldi s 19 10 a0 (fun v5 => (some v5)) else (if a1 = 4 then jm_ldi s 20 10 a0 (fun v6 => (some v6)) else (some (-1)))))))))
set_option maxRecDepth 100000 in
set_option maxHeartbeats 4000000 in
theorem s_X_hill_ok (s : jm_M) (a0 : Int32) (a1 : Int32) : jm_Sim mY_X_hill 0 0 0 [(0, .ref 1), (1, .int a0), (2, .int a1)] [] 78 mr_154 s (s_X_hill s a0 a1) (jm_rI 78 mr_154 s) := by
  unfold s_X_hill
  refine jm_aload_n (pc := 0) (q := 0) (x := 1) d_X_hill_0 rfl ?_
  refine jm_gr (pc := 1) (i := 1) d_X_hill_1 fo_X_31 sh_1 ge_1 le_1_78 rfl (fun _ => rfl) mr_154_1_4 ge_15 ?_
  refine jm_iload_n (pc := 4) (q := 1) (x := a0) d_X_hill_4 rfl ?_
  refine jm_Vp (pc := 5) (Y' := mY_Ne_isHill) (i := 15) (avs := [.int a0]) (rest := []) (s_Ne_isHill_15_ok s a0) ok_Ne_isHill l0_X_hill__Ne_isHill ml_X_93 im_Ne_isHill se_Ne_isHill d_X_hill_5 rfl sh_15 rfl rfl ge_15 le_15_78 rfl (Nat.le_of_ble_eq_true rfl) (Nat.le_of_ble_eq_true rfl) (Nat.le_of_ble_eq_true rfl) (Nat.le_of_ble_eq_true rfl) (fun v1 => ?_)
  refine jm_if_ne (pc := 8) (tgt := 13) d_X_hill_8 (by decide) ?_ ?_
  · refine jm_iconst (pc := 11) (v := (-1)) d_X_hill_11 ci_m1 ?_
    exact jm_iret (pc := 12) (x := (-1)) d_X_hill_12 rfl rfl rfl rfl rfl
  · refine jm_iload_n (pc := 13) (q := 2) (x := a1) d_X_hill_13 rfl ?_
    refine jm_case 0 ?_ (fun h0 => ?_)
    · refine jm_tswIn (pc := 14) (tgt := 48) d_X_hill_14 (by decide) (by decide) (off := 34) (by decide) (by decide) ?_
      refine jm_aload_n (pc := 48) (q := 0) (x := 1) d_X_hill_48 rfl ?_
      refine jm_gr (pc := 49) (i := 1) d_X_hill_49 fo_X_31 sh_1 ge_1 le_1_78 rfl (fun _ => rfl) mr_154_1_4 ge_15 ?_
      refine jm_gr (pc := 52) (i := 15) d_X_hill_52 fo_X_97 sh_15 ge_15 le_15_78 rfl (fun _ => rfl) mr_154_15_1 ge_16 ?_
      refine jm_iload_n (pc := 55) (q := 1) (x := a0) d_X_hill_55 rfl ?_
      refine jm_iald (pc := 56) d_X_hill_56 sh_16 ge_16 le_16_78 (fun v2 => ?_)
      exact jm_iret (pc := 57) (x := v2) d_X_hill_57 rfl rfl rfl rfl rfl
    refine jm_case 1 ?_ (fun h1 => ?_)
    · refine jm_tswIn (pc := 14) (tgt := 58) d_X_hill_14 (by decide) (by decide) (off := 44) (by decide) (by decide) ?_
      refine jm_aload_n (pc := 58) (q := 0) (x := 1) d_X_hill_58 rfl ?_
      refine jm_gr (pc := 59) (i := 1) d_X_hill_59 fo_X_31 sh_1 ge_1 le_1_78 rfl (fun _ => rfl) mr_154_1_4 ge_15 ?_
      refine jm_gr (pc := 62) (i := 15) d_X_hill_62 fo_X_101 sh_15 ge_15 le_15_78 rfl (fun _ => rfl) mr_154_15_2 ge_17 ?_
      refine jm_iload_n (pc := 65) (q := 1) (x := a0) d_X_hill_65 rfl ?_
      refine jm_iald (pc := 66) d_X_hill_66 sh_17 ge_17 le_17_78 (fun v3 => ?_)
      exact jm_iret (pc := 67) (x := v3) d_X_hill_67 rfl rfl rfl rfl rfl
    refine jm_case 2 ?_ (fun h2 => ?_)
    · refine jm_tswIn (pc := 14) (tgt := 68) d_X_hill_14 (by decide) (by decide) (off := 54) (by decide) (by decide) ?_
      refine jm_aload_n (pc := 68) (q := 0) (x := 1) d_X_hill_68 rfl ?_
      refine jm_gr (pc := 69) (i := 1) d_X_hill_69 fo_X_31 sh_1 ge_1 le_1_78 rfl (fun _ => rfl) mr_154_1_4 ge_15 ?_
      refine jm_gr (pc := 72) (i := 15) d_X_hill_72 fo_X_104 sh_15 ge_15 le_15_78 rfl (fun _ => rfl) mr_154_15_3 ge_18 ?_
      refine jm_iload_n (pc := 75) (q := 1) (x := a0) d_X_hill_75 rfl ?_
      refine jm_iald (pc := 76) d_X_hill_76 sh_18 ge_18 le_18_78 (fun v4 => ?_)
      exact jm_iret (pc := 77) (x := v4) d_X_hill_77 rfl rfl rfl rfl rfl
    refine jm_case 3 ?_ (fun h3 => ?_)
    · refine jm_tswIn (pc := 14) (tgt := 78) d_X_hill_14 (by decide) (by decide) (off := 64) (by decide) (by decide) ?_
      refine jm_aload_n (pc := 78) (q := 0) (x := 1) d_X_hill_78 rfl ?_
      refine jm_gr (pc := 79) (i := 1) d_X_hill_79 fo_X_31 sh_1 ge_1 le_1_78 rfl (fun _ => rfl) mr_154_1_4 ge_15 ?_
      refine jm_gr (pc := 82) (i := 15) d_X_hill_82 fo_X_107 sh_15 ge_15 le_15_78 rfl (fun _ => rfl) mr_154_15_4 ge_19 ?_
      refine jm_iload_n (pc := 85) (q := 1) (x := a0) d_X_hill_85 rfl ?_
      refine jm_iald (pc := 86) d_X_hill_86 sh_19 ge_19 le_19_78 (fun v5 => ?_)
      exact jm_iret (pc := 87) (x := v5) d_X_hill_87 rfl rfl rfl rfl rfl
    refine jm_case 4 ?_ (fun h4 => ?_)
    · refine jm_tswIn (pc := 14) (tgt := 88) d_X_hill_14 (by decide) (by decide) (off := 74) (by decide) (by decide) ?_
      refine jm_aload_n (pc := 88) (q := 0) (x := 1) d_X_hill_88 rfl ?_
      refine jm_gr (pc := 89) (i := 1) d_X_hill_89 fo_X_31 sh_1 ge_1 le_1_78 rfl (fun _ => rfl) mr_154_1_4 ge_15 ?_
      refine jm_gr (pc := 92) (i := 15) d_X_hill_92 fo_X_110 sh_15 ge_15 le_15_78 rfl (fun _ => rfl) mr_154_15_5 ge_20 ?_
      refine jm_iload_n (pc := 95) (q := 1) (x := a0) d_X_hill_95 rfl ?_
      refine jm_iald (pc := 96) d_X_hill_96 sh_20 ge_20 le_20_78 (fun v6 => ?_)
      exact jm_iret (pc := 97) (x := v6) d_X_hill_97 rfl rfl rfl rfl rfl
    refine jm_tswOut (pc := 14) (tgt := 98) d_X_hill_14 (by have e0 := jm_neT 0 h0 (a := 0) (by decide); have e1 := jm_neT 1 h1 (a := 1) (by decide); have e2 := jm_neT 2 h2 (a := 2) (by decide); have e3 := jm_neT 3 h3 (a := 3) (by decide); have e4 := jm_neT 4 h4 (a := 4) (by decide); omega) (by decide) ?_
    refine jm_iconst (pc := 98) (v := (-1)) d_X_hill_98 ci_m1 ?_
    exact jm_iret (pc := 99) (x := (-1)) d_X_hill_99 rfl rfl rfl rfl rfl
theorem d_Z_isHill_0 : decode (jm_cd mY_Z_isHill) 0 = .ok (.iload_n 1, 1) := by decide +kernel
theorem d_Z_isHill_1 : decode (jm_cd mY_Z_isHill) 1 = .ok (.i2l, 1) := by decide +kernel
theorem d_Z_isHill_2 : decode (jm_cd mY_Z_isHill) 2 = .ok (.lconst 0, 1) := by decide +kernel
theorem d_Z_isHill_3 : decode (jm_cd mY_Z_isHill) 3 = .ok (.aload_n 0, 1) := by decide +kernel
theorem d_Z_isHill_4 : decode (jm_cd mY_Z_isHill) 4 = .ok (.getfield 13, 3) := by decide +kernel
theorem d_Z_isHill_7 : decode (jm_cd mY_Z_isHill) 7 = .ok (.iconst 0, 1) := by decide +kernel
theorem d_Z_isHill_8 : decode (jm_cd mY_Z_isHill) 8 = .ok (.iaload, 1) := by decide +kernel
theorem d_Z_isHill_9 : decode (jm_cd mY_Z_isHill) 9 = .ok (.iconst 1, 1) := by decide +kernel
theorem d_Z_isHill_10 : decode (jm_cd mY_Z_isHill) 10 = .ok (.isub, 1) := by decide +kernel
theorem d_Z_isHill_11 : decode (jm_cd mY_Z_isHill) 11 = .ok (.i2l, 1) := by decide +kernel
theorem d_Z_isHill_12 : decode (jm_cd mY_Z_isHill) 12 = .ok (.invokestatic 69, 3) := by decide +kernel
theorem d_Z_isHill_15 : decode (jm_cd mY_Z_isHill) 15 = .ok (.ireturn, 1) := by decide +kernel
def s_Z_isHill (s : jm_M) (a0 : Int32) : Option Int32 := jm_ldi s 61 4 0 (fun v1 => jm_bd (s_Z_in s a0.toInt64 0 ((v1 - 1).toInt64)) (fun v2 => (jm_gb v2 (some v2))))
set_option maxRecDepth 100000 in
set_option maxHeartbeats 4000000 in
theorem s_Z_isHill_ok (s : jm_M) (a0 : Int32) : jm_Sim mY_Z_isHill 0 0 0 [(0, .ref 59), (1, .int a0)] [] 78 mr_154 s (s_Z_isHill s a0) (jm_rI 78 mr_154 s) := by
  unfold s_Z_isHill
  refine jm_iload_n (pc := 0) (q := 1) (x := a0) d_Z_isHill_0 rfl ?_
  refine jm_i2l (pc := 1) d_Z_isHill_1 ?_
  refine jm_lconst (pc := 2) (v := 0) d_Z_isHill_2 cl_0 ?_
  refine jm_aload_n (pc := 3) (q := 0) (x := 59) d_Z_isHill_3 rfl ?_
  refine jm_gr (pc := 4) (i := 59) d_Z_isHill_4 fo_Z_13 sh_59 ge_59 le_59_78 rfl (fun _ => rfl) mr_154_59_2 ge_61 ?_
  refine jm_iconst (pc := 7) (v := 0) d_Z_isHill_7 ci_0 ?_
  refine jm_iald (pc := 8) d_Z_isHill_8 sh_61 ge_61 le_61_78 (fun v1 => ?_)
  refine jm_iconst (pc := 9) (v := 1) d_Z_isHill_9 ci_1 ?_
  refine jm_isub (pc := 10) d_Z_isHill_10 ?_
  refine jm_i2l (pc := 11) d_Z_isHill_11 ?_
  refine jm_Sp (pc := 12) (Y' := mY_Z_in) (avs := [.long a0.toInt64, .long 0, .long ((v1 - 1).toInt64)]) (rest := []) (s_Z_in_ok s a0.toInt64 0 ((v1 - 1).toInt64)) ok_Z_in l0_Z_isHill__Z_in ml_Z_69 sm_Z_in d_Z_isHill_12 rfl rfl (Nat.le_of_ble_eq_true rfl) (Nat.le_of_ble_eq_true rfl) (Nat.le_of_ble_eq_true rfl) (Nat.le_of_ble_eq_true rfl) (fun v2 => ?_)
  exact jm_zret (pc := 15) d_Z_isHill_15 rfl rfl rfl rfl
theorem d_Z_hill_0 : decode (jm_cd mY_Z_hill) 0 = .ok (.aload_n 0, 1) := by decide +kernel
theorem d_Z_hill_1 : decode (jm_cd mY_Z_hill) 1 = .ok (.iload_n 1, 1) := by decide +kernel
theorem d_Z_hill_2 : decode (jm_cd mY_Z_hill) 2 = .ok (.invokevirtual 138, 3) := by decide +kernel
theorem d_Z_hill_5 : decode (jm_cd mY_Z_hill) 5 = .ok (.ifCond .eq 15, 3) := by decide +kernel
theorem d_Z_hill_8 : decode (jm_cd mY_Z_hill) 8 = .ok (.iload_n 2, 1) := by decide +kernel
theorem d_Z_hill_9 : decode (jm_cd mY_Z_hill) 9 = .ok (.i2l, 1) := by decide +kernel
theorem d_Z_hill_10 : decode (jm_cd mY_Z_hill) 10 = .ok (.lconst 0, 1) := by decide +kernel
theorem d_Z_hill_11 : decode (jm_cd mY_Z_hill) 11 = .ok (.ldc2_w 141, 3) := by decide +kernel
theorem d_Z_hill_14 : decode (jm_cd mY_Z_hill) 14 = .ok (.invokestatic 69, 3) := by decide +kernel
theorem d_Z_hill_17 : decode (jm_cd mY_Z_hill) 17 = .ok (.ifCond .ne 5, 3) := by decide +kernel
theorem d_Z_hill_20 : decode (jm_cd mY_Z_hill) 20 = .ok (.iconst (-1), 1) := by decide +kernel
theorem d_Z_hill_21 : decode (jm_cd mY_Z_hill) 21 = .ok (.ireturn, 1) := by decide +kernel
theorem d_Z_hill_22 : decode (jm_cd mY_Z_hill) 22 = .ok (.iload_n 2, 1) := by decide +kernel
theorem d_Z_hill_23 : decode (jm_cd mY_Z_hill) 23 = .ok (.tableswitch 57 0 3 #[29, 36, 43, 50], 29) := by decide +kernel
theorem d_Z_hill_52 : decode (jm_cd mY_Z_hill) 52 = .ok (.aload_n 0, 1) := by decide +kernel
theorem d_Z_hill_53 : decode (jm_cd mY_Z_hill) 53 = .ok (.getfield 16, 3) := by decide +kernel
theorem d_Z_hill_56 : decode (jm_cd mY_Z_hill) 56 = .ok (.iload_n 1, 1) := by decide +kernel
theorem d_Z_hill_57 : decode (jm_cd mY_Z_hill) 57 = .ok (.iaload, 1) := by decide +kernel
theorem d_Z_hill_58 : decode (jm_cd mY_Z_hill) 58 = .ok (.ireturn, 1) := by decide +kernel
theorem d_Z_hill_59 : decode (jm_cd mY_Z_hill) 59 = .ok (.aload_n 0, 1) := by decide +kernel
theorem d_Z_hill_60 : decode (jm_cd mY_Z_hill) 60 = .ok (.getfield 19, 3) := by decide +kernel
theorem d_Z_hill_63 : decode (jm_cd mY_Z_hill) 63 = .ok (.iload_n 1, 1) := by decide +kernel
theorem d_Z_hill_64 : decode (jm_cd mY_Z_hill) 64 = .ok (.iaload, 1) := by decide +kernel
theorem d_Z_hill_65 : decode (jm_cd mY_Z_hill) 65 = .ok (.ireturn, 1) := by decide +kernel
theorem d_Z_hill_66 : decode (jm_cd mY_Z_hill) 66 = .ok (.aload_n 0, 1) := by decide +kernel
theorem d_Z_hill_67 : decode (jm_cd mY_Z_hill) 67 = .ok (.getfield 22, 3) := by decide +kernel
theorem d_Z_hill_70 : decode (jm_cd mY_Z_hill) 70 = .ok (.iload_n 1, 1) := by decide +kernel
theorem d_Z_hill_71 : decode (jm_cd mY_Z_hill) 71 = .ok (.iaload, 1) := by decide +kernel
theorem d_Z_hill_72 : decode (jm_cd mY_Z_hill) 72 = .ok (.ireturn, 1) := by decide +kernel
theorem d_Z_hill_73 : decode (jm_cd mY_Z_hill) 73 = .ok (.aload_n 0, 1) := by decide +kernel
theorem d_Z_hill_74 : decode (jm_cd mY_Z_hill) 74 = .ok (.getfield 25, 3) := by decide +kernel
theorem d_Z_hill_77 : decode (jm_cd mY_Z_hill) 77 = .ok (.iload_n 1, 1) := by decide +kernel
theorem d_Z_hill_78 : decode (jm_cd mY_Z_hill) 78 = .ok (.iaload, 1) := by decide +kernel
theorem d_Z_hill_79 : decode (jm_cd mY_Z_hill) 79 = .ok (.ireturn, 1) := by decide +kernel
theorem d_Z_hill_80 : decode (jm_cd mY_Z_hill) 80 = .ok (.aload_n 0, 1) := by decide +kernel
theorem d_Z_hill_81 : decode (jm_cd mY_Z_hill) 81 = .ok (.getfield 28, 3) := by decide +kernel
theorem d_Z_hill_84 : decode (jm_cd mY_Z_hill) 84 = .ok (.iload_n 1, 1) := by decide +kernel
theorem d_Z_hill_85 : decode (jm_cd mY_Z_hill) 85 = .ok (.iaload, 1) := by decide +kernel
theorem d_Z_hill_86 : decode (jm_cd mY_Z_hill) 86 = .ok (.ireturn, 1) := by decide +kernel
def s_Z_hill (s : jm_M) (a0 : Int32) (a1 : Int32) : Option Int32 := jm_bd (s_Z_isHill s a0) (fun v1 => (if v1 = 0 then (some (-1)) else jm_bd (s_Z_in s a1.toInt64 0 4) (fun v2 => (if v2 = 0 then (some (-1)) else (if a1 = 0 then jm_ldi s 62 40 a0 (fun v3 => (some v3)) else (if a1 = 1 then jm_ldi s 63 40 a0 (fun v4 => (some v4)) else (if a1 = 2 then jm_ldi s 64 40 a0 (fun v5 => (some v5)) else (if a1 = 3 then jm_ldi s 65 40 a0 (fun v6 => (some v6)) else jm_ldi s 66 40 a0 (fun v7 => (some v7))))))))))
set_option maxRecDepth 100000 in
set_option maxHeartbeats 4000000 in
theorem s_Z_hill_ok (s : jm_M) (a0 : Int32) (a1 : Int32) : jm_Sim mY_Z_hill 0 0 0 [(0, .ref 59), (1, .int a0), (2, .int a1)] [] 78 mr_154 s (s_Z_hill s a0 a1) (jm_rI 78 mr_154 s) := by
  unfold s_Z_hill
  refine jm_aload_n (pc := 0) (q := 0) (x := 59) d_Z_hill_0 rfl ?_
  refine jm_iload_n (pc := 1) (q := 1) (x := a0) d_Z_hill_1 rfl ?_
  refine jm_Vp (pc := 2) (Y' := mY_Z_isHill) (i := 59) (avs := [.int a0]) (rest := []) (s_Z_isHill_ok s a0) ok_Z_isHill l0_Z_hill__Z_isHill ml_Z_138 im_Z_isHill se_Z_isHill d_Z_hill_2 rfl sh_59 rfl rfl ge_59 le_59_78 rfl (Nat.le_of_ble_eq_true rfl) (Nat.le_of_ble_eq_true rfl) (Nat.le_of_ble_eq_true rfl) (Nat.le_of_ble_eq_true rfl) (fun v1 => ?_)
  refine jm_if_eq (pc := 5) (tgt := 20) d_Z_hill_5 (by decide) ?_ ?_
  · refine jm_iconst (pc := 20) (v := (-1)) d_Z_hill_20 ci_m1 ?_
    exact jm_iret (pc := 21) (x := (-1)) d_Z_hill_21 rfl rfl rfl rfl rfl
  · refine jm_iload_n (pc := 8) (q := 2) (x := a1) d_Z_hill_8 rfl ?_
    refine jm_i2l (pc := 9) d_Z_hill_9 ?_
    refine jm_lconst (pc := 10) (v := 0) d_Z_hill_10 cl_0 ?_
    refine jm_ldc2 (pc := 11) (v := 4) d_Z_hill_11 kl_Z_141 ?_
    refine jm_Sp (pc := 14) (Y' := mY_Z_in) (avs := [.long a1.toInt64, .long 0, .long 4]) (rest := []) (s_Z_in_ok s a1.toInt64 0 4) ok_Z_in l0_Z_hill__Z_in ml_Z_69 sm_Z_in d_Z_hill_14 rfl rfl (Nat.le_of_ble_eq_true rfl) (Nat.le_of_ble_eq_true rfl) (Nat.le_of_ble_eq_true rfl) (Nat.le_of_ble_eq_true rfl) (fun v2 => ?_)
    refine jm_if_ne (pc := 17) (tgt := 22) d_Z_hill_17 (by decide) ?_ ?_
    · refine jm_iconst (pc := 20) (v := (-1)) d_Z_hill_20 ci_m1 ?_
      exact jm_iret (pc := 21) (x := (-1)) d_Z_hill_21 rfl rfl rfl rfl rfl
    · refine jm_iload_n (pc := 22) (q := 2) (x := a1) d_Z_hill_22 rfl ?_
      refine jm_case 0 ?_ (fun h0 => ?_)
      · refine jm_tswIn (pc := 23) (tgt := 52) d_Z_hill_23 (by decide) (by decide) (off := 29) (by decide) (by decide) ?_
        refine jm_aload_n (pc := 52) (q := 0) (x := 59) d_Z_hill_52 rfl ?_
        refine jm_gr (pc := 53) (i := 59) d_Z_hill_53 fo_Z_16 sh_59 ge_59 le_59_78 rfl (fun _ => rfl) mr_154_59_3 ge_62 ?_
        refine jm_iload_n (pc := 56) (q := 1) (x := a0) d_Z_hill_56 rfl ?_
        refine jm_iald (pc := 57) d_Z_hill_57 sh_62 ge_62 le_62_78 (fun v3 => ?_)
        exact jm_iret (pc := 58) (x := v3) d_Z_hill_58 rfl rfl rfl rfl rfl
      refine jm_case 1 ?_ (fun h1 => ?_)
      · refine jm_tswIn (pc := 23) (tgt := 59) d_Z_hill_23 (by decide) (by decide) (off := 36) (by decide) (by decide) ?_
        refine jm_aload_n (pc := 59) (q := 0) (x := 59) d_Z_hill_59 rfl ?_
        refine jm_gr (pc := 60) (i := 59) d_Z_hill_60 fo_Z_19 sh_59 ge_59 le_59_78 rfl (fun _ => rfl) mr_154_59_4 ge_63 ?_
        refine jm_iload_n (pc := 63) (q := 1) (x := a0) d_Z_hill_63 rfl ?_
        refine jm_iald (pc := 64) d_Z_hill_64 sh_63 ge_63 le_63_78 (fun v4 => ?_)
        exact jm_iret (pc := 65) (x := v4) d_Z_hill_65 rfl rfl rfl rfl rfl
      refine jm_case 2 ?_ (fun h2 => ?_)
      · refine jm_tswIn (pc := 23) (tgt := 66) d_Z_hill_23 (by decide) (by decide) (off := 43) (by decide) (by decide) ?_
        refine jm_aload_n (pc := 66) (q := 0) (x := 59) d_Z_hill_66 rfl ?_
        refine jm_gr (pc := 67) (i := 59) d_Z_hill_67 fo_Z_22 sh_59 ge_59 le_59_78 rfl (fun _ => rfl) mr_154_59_5 ge_64 ?_
        refine jm_iload_n (pc := 70) (q := 1) (x := a0) d_Z_hill_70 rfl ?_
        refine jm_iald (pc := 71) d_Z_hill_71 sh_64 ge_64 le_64_78 (fun v5 => ?_)
        exact jm_iret (pc := 72) (x := v5) d_Z_hill_72 rfl rfl rfl rfl rfl
      refine jm_case 3 ?_ (fun h3 => ?_)
      · refine jm_tswIn (pc := 23) (tgt := 73) d_Z_hill_23 (by decide) (by decide) (off := 50) (by decide) (by decide) ?_
        refine jm_aload_n (pc := 73) (q := 0) (x := 59) d_Z_hill_73 rfl ?_
        refine jm_gr (pc := 74) (i := 59) d_Z_hill_74 fo_Z_25 sh_59 ge_59 le_59_78 rfl (fun _ => rfl) mr_154_59_6 ge_65 ?_
        refine jm_iload_n (pc := 77) (q := 1) (x := a0) d_Z_hill_77 rfl ?_
        refine jm_iald (pc := 78) d_Z_hill_78 sh_65 ge_65 le_65_78 (fun v6 => ?_)
        exact jm_iret (pc := 79) (x := v6) d_Z_hill_79 rfl rfl rfl rfl rfl
      refine jm_tswOut (pc := 23) (tgt := 80) d_Z_hill_23 (by have e0 := jm_neT 0 h0 (a := 0) (by decide); have e1 := jm_neT 1 h1 (a := 1) (by decide); have e2 := jm_neT 2 h2 (a := 2) (by decide); have e3 := jm_neT 3 h3 (a := 3) (by decide); omega) (by decide) ?_
      refine jm_aload_n (pc := 80) (q := 0) (x := 59) d_Z_hill_80 rfl ?_
      refine jm_gr (pc := 81) (i := 59) d_Z_hill_81 fo_Z_28 sh_59 ge_59 le_59_78 rfl (fun _ => rfl) mr_154_59_7 ge_66 ?_
      refine jm_iload_n (pc := 84) (q := 1) (x := a0) d_Z_hill_84 rfl ?_
      refine jm_iald (pc := 85) d_Z_hill_85 sh_66 ge_66 le_66_78 (fun v7 => ?_)
      exact jm_iret (pc := 86) (x := v7) d_Z_hill_86 rfl rfl rfl rfl rfl
def s_Ne_ofKind_15_L4 (s : jm_M) : Nat → Int32 → Int32 → Int32 → Option Int32
  | 0, _, _, _ => none
  | n + 1, x1, x2, x3 => (if 10 ≤ x3 then (some x2) else jm_ldi s 16 10 x3 (fun v1 => (if v1 = x1 then jm_vi (x2 ||| (1 <<< (x3 &&& 31))) (fun v2 => s_Ne_ofKind_15_L4 s n x1 v2 (x3 + 1)) else s_Ne_ofKind_15_L4 s n x1 x2 (x3 + 1))))
set_option maxRecDepth 100000 in
set_option maxHeartbeats 4000000 in
theorem s_Ne_ofKind_15_L4_ok (s : jm_M) : ∀ (n : Nat) (x1 : Int32) (x2 : Int32) (x3 : Int32), jm_Sim mY_Ne_ofKind 0 0 4 [(0, .ref 15), (1, .int x1), (2, .int x2), (3, .int x3)] [] 78 mr_154 s (s_Ne_ofKind_15_L4 s n x1 x2 x3) (jm_rI 78 mr_154 s) := by
  intro n
  induction n with
  | zero => intro x1 x2 x3; exact jm_none
  | succ n ih =>
    intro x1 x2 x3
    rw [s_Ne_ofKind_15_L4]
    refine jm_iload_n (pc := 4) (q := 3) (x := x3) d_Ne_ofKind_4 rfl ?_
    refine jm_bipush (pc := 5) (v := 10) d_Ne_ofKind_5 cb_10 ?_
    refine jm_icmp_ge (pc := 7) (tgt := 32) d_Ne_ofKind_7 (by decide) ?_ ?_
    · refine jm_iload_n (pc := 32) (q := 2) (x := x2) d_Ne_ofKind_32 rfl ?_
      exact jm_iret (pc := 33) (x := x2) d_Ne_ofKind_33 rfl rfl rfl rfl rfl
    · refine jm_aload_n (pc := 10) (q := 0) (x := 15) d_Ne_ofKind_10 rfl ?_
      refine jm_gr (pc := 11) (i := 15) d_Ne_ofKind_11 fo_Ne_15 sh_15 ge_15 le_15_78 rfl (fun _ => rfl) mr_154_15_1 ge_16 ?_
      refine jm_iload_n (pc := 14) (q := 3) (x := x3) d_Ne_ofKind_14 rfl ?_
      refine jm_iald (pc := 15) d_Ne_ofKind_15 sh_16 ge_16 le_16_78 (fun v1 => ?_)
      refine jm_iload_n (pc := 16) (q := 1) (x := x1) d_Ne_ofKind_16 rfl ?_
      refine jm_icmp_ne (pc := 17) (tgt := 26) d_Ne_ofKind_17 (by decide) ?_ ?_
      · refine jm_iload_n (pc := 20) (q := 2) (x := x2) d_Ne_ofKind_20 rfl ?_
        refine jm_iconst (pc := 21) (v := 1) d_Ne_ofKind_21 ci_1 ?_
        refine jm_iload_n (pc := 22) (q := 3) (x := x3) d_Ne_ofKind_22 rfl ?_
        refine jm_ishl (pc := 23) d_Ne_ofKind_23 ?_
        refine jm_ior (pc := 24) d_Ne_ofKind_24 ?_
        refine jm_nvi (fun v2 => ?_)
        refine jm_istore_n (pc := 25) (i := 2) (L2 := [(2, .int v2), (0, .ref 15), (1, .int x1), (3, .int x3)]) d_Ne_ofKind_25 rfl (Nat.le_of_ble_eq_true rfl) rfl ?_
        refine jm_iinc (pc := 26) (q := 3) (x := x3) (v := 1) (L2 := [(3, .int (x3 + 1)), (2, .int v2), (0, .ref 15), (1, .int x1)]) d_Ne_ofKind_26 rfl ci_1 (Nat.le_of_ble_eq_true rfl) rfl ?_
        refine jm_goto (pc := 29) (tgt := 4) d_Ne_ofKind_29 (by decide) ?_
        refine jm_sub (L2 := [(0, .ref 15), (1, .int x1), (2, .int v2), (3, .int (x3 + 1))]) [2, 3, 1, 0] rfl ?_
        exact ih x1 v2 (x3 + 1)
      · refine jm_iinc (pc := 26) (q := 3) (x := x3) (v := 1) (L2 := [(3, .int (x3 + 1)), (0, .ref 15), (1, .int x1), (2, .int x2)]) d_Ne_ofKind_26 rfl ci_1 (Nat.le_of_ble_eq_true rfl) rfl ?_
        refine jm_goto (pc := 29) (tgt := 4) d_Ne_ofKind_29 (by decide) ?_
        refine jm_sub (L2 := [(0, .ref 15), (1, .int x1), (2, .int x2), (3, .int (x3 + 1))]) [1, 2, 3, 0] rfl ?_
        exact ih x1 x2 (x3 + 1)
def s_Ne_ofKind_15 (s : jm_M) (a0 : Int32) : Option Int32 := s_Ne_ofKind_15_L4 s 5000 a0 0 0
set_option maxRecDepth 100000 in
set_option maxHeartbeats 4000000 in
theorem s_Ne_ofKind_15_ok (s : jm_M) (a0 : Int32) : jm_Sim mY_Ne_ofKind 0 0 0 [(0, .ref 15), (1, .int a0)] [] 78 mr_154 s (s_Ne_ofKind_15 s a0) (jm_rI 78 mr_154 s) := by
  unfold s_Ne_ofKind_15
  refine jm_iconst (pc := 0) (v := 0) d_Ne_ofKind_0 ci_0 ?_
  refine jm_istore_n (pc := 1) (i := 2) (L2 := [(2, .int 0), (0, .ref 15), (1, .int a0)]) d_Ne_ofKind_1 rfl (Nat.le_of_ble_eq_true rfl) rfl ?_
  refine jm_iconst (pc := 2) (v := 0) d_Ne_ofKind_2 ci_0 ?_
  refine jm_istore_n (pc := 3) (i := 3) (L2 := [(3, .int 0), (2, .int 0), (0, .ref 15), (1, .int a0)]) d_Ne_ofKind_3 rfl (Nat.le_of_ble_eq_true rfl) rfl ?_
  refine jm_sub (L2 := [(0, .ref 15), (1, .int a0), (2, .int 0), (3, .int 0)]) [2, 3, 1, 0] rfl ?_
  exact s_Ne_ofKind_15_L4_ok s 5000 a0 0 0
theorem d_X_ship_0 : decode (jm_cd mY_X_ship) 0 = .ok (.iload_n 1, 1) := by decide +kernel
theorem d_X_ship_1 : decode (jm_cd mY_X_ship) 1 = .ok (.aload_n 0, 1) := by decide +kernel
theorem d_X_ship_2 : decode (jm_cd mY_X_ship) 2 = .ok (.getfield 31, 3) := by decide +kernel
theorem d_X_ship_5 : decode (jm_cd mY_X_ship) 5 = .ok (.iconst 1, 1) := by decide +kernel
theorem d_X_ship_6 : decode (jm_cd mY_X_ship) 6 = .ok (.invokevirtual 113, 3) := by decide +kernel
theorem d_X_ship_9 : decode (jm_cd mY_X_ship) 9 = .ok (.iconst (-1), 1) := by decide +kernel
theorem d_X_ship_10 : decode (jm_cd mY_X_ship) 10 = .ok (.ixor, 1) := by decide +kernel
theorem d_X_ship_11 : decode (jm_cd mY_X_ship) 11 = .ok (.iand, 1) := by decide +kernel
theorem d_X_ship_12 : decode (jm_cd mY_X_ship) 12 = .ok (.ifCond .ne 22, 3) := by decide +kernel
theorem d_X_ship_15 : decode (jm_cd mY_X_ship) 15 = .ok (.iload_n 2, 1) := by decide +kernel
theorem d_X_ship_16 : decode (jm_cd mY_X_ship) 16 = .ok (.invokestatic 117, 3) := by decide +kernel
theorem d_X_ship_19 : decode (jm_cd mY_X_ship) 19 = .ok (.ifCond .eq 15, 3) := by decide +kernel
theorem d_X_ship_22 : decode (jm_cd mY_X_ship) 22 = .ok (.iload_n 3, 1) := by decide +kernel
theorem d_X_ship_23 : decode (jm_cd mY_X_ship) 23 = .ok (.invokestatic 117, 3) := by decide +kernel
theorem d_X_ship_26 : decode (jm_cd mY_X_ship) 26 = .ok (.ifCond .eq 8, 3) := by decide +kernel
theorem d_X_ship_29 : decode (jm_cd mY_X_ship) 29 = .ok (.iload_n 2, 1) := by decide +kernel
theorem d_X_ship_30 : decode (jm_cd mY_X_ship) 30 = .ok (.iload_n 3, 1) := by decide +kernel
theorem d_X_ship_31 : decode (jm_cd mY_X_ship) 31 = .ok (.if_icmp .le 5, 3) := by decide +kernel
theorem d_X_ship_34 : decode (jm_cd mY_X_ship) 34 = .ok (.iconst (-1), 1) := by decide +kernel
theorem d_X_ship_35 : decode (jm_cd mY_X_ship) 35 = .ok (.ireturn, 1) := by decide +kernel
theorem d_X_ship_36 : decode (jm_cd mY_X_ship) 36 = .ok (.aload_n 0, 1) := by decide +kernel
theorem d_X_ship_37 : decode (jm_cd mY_X_ship) 37 = .ok (.getfield 31, 3) := by decide +kernel
theorem d_X_ship_40 : decode (jm_cd mY_X_ship) 40 = .ok (.iload_n 1, 1) := by decide +kernel
theorem d_X_ship_41 : decode (jm_cd mY_X_ship) 41 = .ok (.putfield 120, 3) := by decide +kernel
theorem d_X_ship_44 : decode (jm_cd mY_X_ship) 44 = .ok (.aload_n 0, 1) := by decide +kernel
theorem d_X_ship_45 : decode (jm_cd mY_X_ship) 45 = .ok (.getfield 31, 3) := by decide +kernel
theorem d_X_ship_48 : decode (jm_cd mY_X_ship) 48 = .ok (.iload_n 2, 1) := by decide +kernel
theorem d_X_ship_49 : decode (jm_cd mY_X_ship) 49 = .ok (.iload_n 3, 1) := by decide +kernel
theorem d_X_ship_50 : decode (jm_cd mY_X_ship) 50 = .ok (.invokestatic 123, 3) := by decide +kernel
theorem d_X_ship_53 : decode (jm_cd mY_X_ship) 53 = .ok (.putfield 127, 3) := by decide +kernel
theorem d_X_ship_56 : decode (jm_cd mY_X_ship) 56 = .ok (.aload_n 0, 1) := by decide +kernel
theorem d_X_ship_57 : decode (jm_cd mY_X_ship) 57 = .ok (.iconst 0, 1) := by decide +kernel
theorem d_X_ship_58 : decode (jm_cd mY_X_ship) 58 = .ok (.putfield 50, 3) := by decide +kernel
theorem d_X_ship_61 : decode (jm_cd mY_X_ship) 61 = .ok (.iconst 0, 1) := by decide +kernel
theorem d_X_ship_62 : decode (jm_cd mY_X_ship) 62 = .ok (.ireturn, 1) := by decide +kernel
def s_X_ship (s : jm_M) (a0 : Int32) (a1 : Int32) (a2 : Int32) : Option (Int32 × jm_M) := jm_bd (s_Ne_ofKind_15 s 1) (fun v1 => (if (a0 &&& (v1 ^^^ (-1))) = 0 then jm_bd (s_X_isMinute s a1) (fun v2 => (if v2 = 0 then (some ((-1), s)) else jm_bd (s_X_isMinute s a2) (fun v3 => (if v3 = 0 then (some ((-1), s)) else (if a1 ≤ a2 then jm_ev (jm_si s 15 10 a0) (fun s4 => jm_bd (s_X_minutesFrom s4 a1 a2) (fun v5 => jm_ev (jm_sl s4 15 11 v5) (fun s6 => jm_ev (jm_si s6 1 9 0) (fun s7 => (some (0, s7)))))) else (some ((-1), s))))))) else (some ((-1), s))))
set_option maxRecDepth 100000 in
set_option maxHeartbeats 4000000 in
theorem s_X_ship_ok (s : jm_M) (a0 : Int32) (a1 : Int32) (a2 : Int32) : jm_Sim mY_X_ship 0 0 0 [(0, .ref 1), (1, .int a0), (2, .int a1), (3, .int a2)] [] 78 mr_154 s (s_X_ship s a0 a1 a2) (jm_rP 78 mr_154) := by
  unfold s_X_ship
  refine jm_iload_n (pc := 0) (q := 1) (x := a0) d_X_ship_0 rfl ?_
  refine jm_aload_n (pc := 1) (q := 0) (x := 1) d_X_ship_1 rfl ?_
  refine jm_gr (pc := 2) (i := 1) d_X_ship_2 fo_X_31 sh_1 ge_1 le_1_78 rfl (fun _ => rfl) mr_154_1_4 ge_15 ?_
  refine jm_iconst (pc := 5) (v := 1) d_X_ship_5 ci_1 ?_
  refine jm_Vp (pc := 6) (Y' := mY_Ne_ofKind) (i := 15) (avs := [.int 1]) (rest := [.int a0]) (s_Ne_ofKind_15_ok s 1) ok_Ne_ofKind l0_X_ship__Ne_ofKind ml_X_113 im_Ne_ofKind se_Ne_ofKind d_X_ship_6 rfl sh_15 rfl rfl ge_15 le_15_78 rfl (Nat.le_of_ble_eq_true rfl) (Nat.le_of_ble_eq_true rfl) (Nat.le_of_ble_eq_true rfl) (Nat.le_of_ble_eq_true rfl) (fun v1 => ?_)
  refine jm_iconst (pc := 9) (v := (-1)) d_X_ship_9 ci_m1 ?_
  refine jm_ixor (pc := 10) d_X_ship_10 ?_
  refine jm_iand (pc := 11) d_X_ship_11 ?_
  refine jm_if_ne (pc := 12) (tgt := 34) d_X_ship_12 (by decide) ?_ ?_
  · refine jm_iload_n (pc := 15) (q := 2) (x := a1) d_X_ship_15 rfl ?_
    refine jm_Sp (pc := 16) (Y' := mY_X_isMinute) (avs := [.int a1]) (rest := []) (s_X_isMinute_ok s a1) ok_X_isMinute l0_X_ship__X_isMinute ml_X_117 sm_X_isMinute d_X_ship_16 rfl rfl (Nat.le_of_ble_eq_true rfl) (Nat.le_of_ble_eq_true rfl) (Nat.le_of_ble_eq_true rfl) (Nat.le_of_ble_eq_true rfl) (fun v2 => ?_)
    refine jm_if_eq (pc := 19) (tgt := 34) d_X_ship_19 (by decide) ?_ ?_
    · refine jm_iconst (pc := 34) (v := (-1)) d_X_ship_34 ci_m1 ?_
      exact jm_iret (pc := 35) (x := (-1)) d_X_ship_35 rfl rfl rfl rfl rfl
    · refine jm_iload_n (pc := 22) (q := 3) (x := a2) d_X_ship_22 rfl ?_
      refine jm_Sp (pc := 23) (Y' := mY_X_isMinute) (avs := [.int a2]) (rest := []) (s_X_isMinute_ok s a2) ok_X_isMinute l0_X_ship__X_isMinute ml_X_117 sm_X_isMinute d_X_ship_23 rfl rfl (Nat.le_of_ble_eq_true rfl) (Nat.le_of_ble_eq_true rfl) (Nat.le_of_ble_eq_true rfl) (Nat.le_of_ble_eq_true rfl) (fun v3 => ?_)
      refine jm_if_eq (pc := 26) (tgt := 34) d_X_ship_26 (by decide) ?_ ?_
      · refine jm_iconst (pc := 34) (v := (-1)) d_X_ship_34 ci_m1 ?_
        exact jm_iret (pc := 35) (x := (-1)) d_X_ship_35 rfl rfl rfl rfl rfl
      · refine jm_iload_n (pc := 29) (q := 2) (x := a1) d_X_ship_29 rfl ?_
        refine jm_iload_n (pc := 30) (q := 3) (x := a2) d_X_ship_30 rfl ?_
        refine jm_icmp_le (pc := 31) (tgt := 36) d_X_ship_31 (by decide) ?_ ?_
        · refine jm_aload_n (pc := 36) (q := 0) (x := 1) d_X_ship_36 rfl ?_
          refine jm_gr (pc := 37) (i := 1) d_X_ship_37 fo_X_31 sh_1 ge_1 le_1_78 rfl (fun _ => rfl) mr_154_1_4 ge_15 ?_
          refine jm_iload_n (pc := 40) (q := 1) (x := a0) d_X_ship_40 rfl ?_
          refine jm_pi (pc := 41) (i := 15) d_X_ship_41 fp_X_120 sh_15 ge_15 le_15_78 rfl rfl rfl (fun _ _ _ => rfl) (fun s4 => ?_)
          refine jm_aload_n (pc := 44) (q := 0) (x := 1) d_X_ship_44 rfl ?_
          refine jm_gr (pc := 45) (i := 1) d_X_ship_45 fo_X_31 sh_1 ge_1 le_1_78 rfl (fun _ => rfl) mr_154_1_4 ge_15 ?_
          refine jm_iload_n (pc := 48) (q := 2) (x := a1) d_X_ship_48 rfl ?_
          refine jm_iload_n (pc := 49) (q := 3) (x := a2) d_X_ship_49 rfl ?_
          refine jm_Sl (pc := 50) (Y' := mY_X_minutesFrom) (avs := [.int a1, .int a2]) (rest := [.ref 15]) (s_X_minutesFrom_ok s4 a1 a2) ok_X_minutesFrom l0_X_ship__X_minutesFrom ml_X_123 sm_X_minutesFrom d_X_ship_50 rfl rfl (Nat.le_of_ble_eq_true rfl) (Nat.le_of_ble_eq_true rfl) (Nat.le_of_ble_eq_true rfl) (Nat.le_of_ble_eq_true rfl) (fun v5 => ?_)
          refine jm_pl (pc := 53) (i := 15) d_X_ship_53 fp_X_127 sh_15 ge_15 le_15_78 rfl (fun s6 => ?_)
          refine jm_aload_n (pc := 56) (q := 0) (x := 1) d_X_ship_56 rfl ?_
          refine jm_iconst (pc := 57) (v := 0) d_X_ship_57 ci_0 ?_
          refine jm_pi (pc := 58) (i := 1) d_X_ship_58 fp_X_50 sh_1 ge_1 le_1_78 rfl (by decide) (by decide) (fun _ _ _ => rfl) (fun s7 => ?_)
          refine jm_iconst (pc := 61) (v := 0) d_X_ship_61 ci_0 ?_
          exact jm_iret (pc := 62) (x := 0) d_X_ship_62 rfl rfl rfl rfl rfl
        · refine jm_iconst (pc := 34) (v := (-1)) d_X_ship_34 ci_m1 ?_
          exact jm_iret (pc := 35) (x := (-1)) d_X_ship_35 rfl rfl rfl rfl rfl
  · refine jm_iconst (pc := 34) (v := (-1)) d_X_ship_34 ci_m1 ?_
    exact jm_iret (pc := 35) (x := (-1)) d_X_ship_35 rfl rfl rfl rfl rfl
theorem d_Z_ofKind_0 : decode (jm_cd mY_Z_ofKind) 0 = .ok (.iconst 0, 1) := by decide +kernel
theorem d_Z_ofKind_1 : decode (jm_cd mY_Z_ofKind) 1 = .ok (.istore_n 2, 1) := by decide +kernel
theorem d_Z_ofKind_2 : decode (jm_cd mY_Z_ofKind) 2 = .ok (.iconst 0, 1) := by decide +kernel
theorem d_Z_ofKind_3 : decode (jm_cd mY_Z_ofKind) 3 = .ok (.istore_n 3, 1) := by decide +kernel
theorem d_Z_ofKind_4 : decode (jm_cd mY_Z_ofKind) 4 = .ok (.iload_n 3, 1) := by decide +kernel
theorem d_Z_ofKind_5 : decode (jm_cd mY_Z_ofKind) 5 = .ok (.aload_n 0, 1) := by decide +kernel
theorem d_Z_ofKind_6 : decode (jm_cd mY_Z_ofKind) 6 = .ok (.getfield 13, 3) := by decide +kernel
theorem d_Z_ofKind_9 : decode (jm_cd mY_Z_ofKind) 9 = .ok (.iconst 0, 1) := by decide +kernel
theorem d_Z_ofKind_10 : decode (jm_cd mY_Z_ofKind) 10 = .ok (.iaload, 1) := by decide +kernel
theorem d_Z_ofKind_11 : decode (jm_cd mY_Z_ofKind) 11 = .ok (.if_icmp .ge 29, 3) := by decide +kernel
theorem d_Z_ofKind_14 : decode (jm_cd mY_Z_ofKind) 14 = .ok (.iload_n 2, 1) := by decide +kernel
theorem d_Z_ofKind_15 : decode (jm_cd mY_Z_ofKind) 15 = .ok (.aload_n 0, 1) := by decide +kernel
theorem d_Z_ofKind_16 : decode (jm_cd mY_Z_ofKind) 16 = .ok (.getfield 16, 3) := by decide +kernel
theorem d_Z_ofKind_19 : decode (jm_cd mY_Z_ofKind) 19 = .ok (.iload_n 3, 1) := by decide +kernel
theorem d_Z_ofKind_20 : decode (jm_cd mY_Z_ofKind) 20 = .ok (.iaload, 1) := by decide +kernel
theorem d_Z_ofKind_21 : decode (jm_cd mY_Z_ofKind) 21 = .ok (.iload_n 1, 1) := by decide +kernel
theorem d_Z_ofKind_22 : decode (jm_cd mY_Z_ofKind) 22 = .ok (.if_icmp .ne 9, 3) := by decide +kernel
theorem d_Z_ofKind_25 : decode (jm_cd mY_Z_ofKind) 25 = .ok (.iconst 1, 1) := by decide +kernel
theorem d_Z_ofKind_26 : decode (jm_cd mY_Z_ofKind) 26 = .ok (.iload_n 3, 1) := by decide +kernel
theorem d_Z_ofKind_27 : decode (jm_cd mY_Z_ofKind) 27 = .ok (.ishl, 1) := by decide +kernel
theorem d_Z_ofKind_28 : decode (jm_cd mY_Z_ofKind) 28 = .ok (.goto 4, 3) := by decide +kernel
theorem d_Z_ofKind_31 : decode (jm_cd mY_Z_ofKind) 31 = .ok (.iconst 0, 1) := by decide +kernel
theorem d_Z_ofKind_32 : decode (jm_cd mY_Z_ofKind) 32 = .ok (.ior, 1) := by decide +kernel
theorem d_Z_ofKind_33 : decode (jm_cd mY_Z_ofKind) 33 = .ok (.istore_n 2, 1) := by decide +kernel
theorem d_Z_ofKind_34 : decode (jm_cd mY_Z_ofKind) 34 = .ok (.iinc 3 1, 3) := by decide +kernel
theorem d_Z_ofKind_37 : decode (jm_cd mY_Z_ofKind) 37 = .ok (.goto (-33), 3) := by decide +kernel
theorem d_Z_ofKind_40 : decode (jm_cd mY_Z_ofKind) 40 = .ok (.iload_n 2, 1) := by decide +kernel
theorem d_Z_ofKind_41 : decode (jm_cd mY_Z_ofKind) 41 = .ok (.ireturn, 1) := by decide +kernel
def s_Z_ofKind_L4 (s : jm_M) : Nat → Int32 → Int32 → Int32 → Option Int32
  | 0, _, _, _ => none
  | n + 1, x1, x2, x3 => jm_ldi s 61 4 0 (fun v1 => (if v1 ≤ x3 then (some x2) else jm_ldi s 62 40 x3 (fun v2 => (if v2 = x1 then jm_vi (x2 ||| (1 <<< (x3 &&& 31))) (fun v4 => s_Z_ofKind_L4 s n x1 v4 (x3 + 1)) else jm_vi (x2 ||| 0) (fun v3 => s_Z_ofKind_L4 s n x1 v3 (x3 + 1))))))
set_option maxRecDepth 100000 in
set_option maxHeartbeats 4000000 in
theorem s_Z_ofKind_L4_ok (s : jm_M) : ∀ (n : Nat) (x1 : Int32) (x2 : Int32) (x3 : Int32), jm_Sim mY_Z_ofKind 0 0 4 [(0, .ref 59), (1, .int x1), (2, .int x2), (3, .int x3)] [] 78 mr_154 s (s_Z_ofKind_L4 s n x1 x2 x3) (jm_rI 78 mr_154 s) := by
  intro n
  induction n with
  | zero => intro x1 x2 x3; exact jm_none
  | succ n ih =>
    intro x1 x2 x3
    rw [s_Z_ofKind_L4]
    refine jm_iload_n (pc := 4) (q := 3) (x := x3) d_Z_ofKind_4 rfl ?_
    refine jm_aload_n (pc := 5) (q := 0) (x := 59) d_Z_ofKind_5 rfl ?_
    refine jm_gr (pc := 6) (i := 59) d_Z_ofKind_6 fo_Z_13 sh_59 ge_59 le_59_78 rfl (fun _ => rfl) mr_154_59_2 ge_61 ?_
    refine jm_iconst (pc := 9) (v := 0) d_Z_ofKind_9 ci_0 ?_
    refine jm_iald (pc := 10) d_Z_ofKind_10 sh_61 ge_61 le_61_78 (fun v1 => ?_)
    refine jm_icmp_ge (pc := 11) (tgt := 40) d_Z_ofKind_11 (by decide) ?_ ?_
    · refine jm_iload_n (pc := 40) (q := 2) (x := x2) d_Z_ofKind_40 rfl ?_
      exact jm_iret (pc := 41) (x := x2) d_Z_ofKind_41 rfl rfl rfl rfl rfl
    · refine jm_iload_n (pc := 14) (q := 2) (x := x2) d_Z_ofKind_14 rfl ?_
      refine jm_aload_n (pc := 15) (q := 0) (x := 59) d_Z_ofKind_15 rfl ?_
      refine jm_gr (pc := 16) (i := 59) d_Z_ofKind_16 fo_Z_16 sh_59 ge_59 le_59_78 rfl (fun _ => rfl) mr_154_59_3 ge_62 ?_
      refine jm_iload_n (pc := 19) (q := 3) (x := x3) d_Z_ofKind_19 rfl ?_
      refine jm_iald (pc := 20) d_Z_ofKind_20 sh_62 ge_62 le_62_78 (fun v2 => ?_)
      refine jm_iload_n (pc := 21) (q := 1) (x := x1) d_Z_ofKind_21 rfl ?_
      refine jm_icmp_ne (pc := 22) (tgt := 31) d_Z_ofKind_22 (by decide) ?_ ?_
      · refine jm_iconst (pc := 25) (v := 1) d_Z_ofKind_25 ci_1 ?_
        refine jm_iload_n (pc := 26) (q := 3) (x := x3) d_Z_ofKind_26 rfl ?_
        refine jm_ishl (pc := 27) d_Z_ofKind_27 ?_
        refine jm_goto (pc := 28) (tgt := 32) d_Z_ofKind_28 (by decide) ?_
        refine jm_ior (pc := 32) d_Z_ofKind_32 ?_
        refine jm_nvi (fun v4 => ?_)
        refine jm_istore_n (pc := 33) (i := 2) (L2 := [(2, .int v4), (0, .ref 59), (1, .int x1), (3, .int x3)]) d_Z_ofKind_33 rfl (Nat.le_of_ble_eq_true rfl) rfl ?_
        refine jm_iinc (pc := 34) (q := 3) (x := x3) (v := 1) (L2 := [(3, .int (x3 + 1)), (2, .int v4), (0, .ref 59), (1, .int x1)]) d_Z_ofKind_34 rfl ci_1 (Nat.le_of_ble_eq_true rfl) rfl ?_
        refine jm_goto (pc := 37) (tgt := 4) d_Z_ofKind_37 (by decide) ?_
        refine jm_sub (L2 := [(0, .ref 59), (1, .int x1), (2, .int v4), (3, .int (x3 + 1))]) [2, 3, 1, 0] rfl ?_
        exact ih x1 v4 (x3 + 1)
      · refine jm_iconst (pc := 31) (v := 0) d_Z_ofKind_31 ci_0 ?_
        refine jm_ior (pc := 32) d_Z_ofKind_32 ?_
        refine jm_nvi (fun v3 => ?_)
        refine jm_istore_n (pc := 33) (i := 2) (L2 := [(2, .int v3), (0, .ref 59), (1, .int x1), (3, .int x3)]) d_Z_ofKind_33 rfl (Nat.le_of_ble_eq_true rfl) rfl ?_
        refine jm_iinc (pc := 34) (q := 3) (x := x3) (v := 1) (L2 := [(3, .int (x3 + 1)), (2, .int v3), (0, .ref 59), (1, .int x1)]) d_Z_ofKind_34 rfl ci_1 (Nat.le_of_ble_eq_true rfl) rfl ?_
        refine jm_goto (pc := 37) (tgt := 4) d_Z_ofKind_37 (by decide) ?_
        refine jm_sub (L2 := [(0, .ref 59), (1, .int x1), (2, .int v3), (3, .int (x3 + 1))]) [2, 3, 1, 0] rfl ?_
        exact ih x1 v3 (x3 + 1)
def s_Z_ofKind (s : jm_M) (a0 : Int32) : Option Int32 := s_Z_ofKind_L4 s 5000 a0 0 0
set_option maxRecDepth 100000 in
set_option maxHeartbeats 4000000 in
theorem s_Z_ofKind_ok (s : jm_M) (a0 : Int32) : jm_Sim mY_Z_ofKind 0 0 0 [(0, .ref 59), (1, .int a0)] [] 78 mr_154 s (s_Z_ofKind s a0) (jm_rI 78 mr_154 s) := by
  unfold s_Z_ofKind
  refine jm_iconst (pc := 0) (v := 0) d_Z_ofKind_0 ci_0 ?_
  refine jm_istore_n (pc := 1) (i := 2) (L2 := [(2, .int 0), (0, .ref 59), (1, .int a0)]) d_Z_ofKind_1 rfl (Nat.le_of_ble_eq_true rfl) rfl ?_
  refine jm_iconst (pc := 2) (v := 0) d_Z_ofKind_2 ci_0 ?_
  refine jm_istore_n (pc := 3) (i := 3) (L2 := [(3, .int 0), (2, .int 0), (0, .ref 59), (1, .int a0)]) d_Z_ofKind_3 rfl (Nat.le_of_ble_eq_true rfl) rfl ?_
  refine jm_sub (L2 := [(0, .ref 59), (1, .int a0), (2, .int 0), (3, .int 0)]) [2, 3, 1, 0] rfl ?_
  exact s_Z_ofKind_L4_ok s 5000 a0 0 0
theorem d_Z_ship_0 : decode (jm_cd mY_Z_ship) 0 = .ok (.iload_n 1, 1) := by decide +kernel
theorem d_Z_ship_1 : decode (jm_cd mY_Z_ship) 1 = .ok (.ifCond .lt 40, 3) := by decide +kernel
theorem d_Z_ship_4 : decode (jm_cd mY_Z_ship) 4 = .ok (.iload_n 1, 1) := by decide +kernel
theorem d_Z_ship_5 : decode (jm_cd mY_Z_ship) 5 = .ok (.aload_n 0, 1) := by decide +kernel
theorem d_Z_ship_6 : decode (jm_cd mY_Z_ship) 6 = .ok (.iconst 1, 1) := by decide +kernel
theorem d_Z_ship_7 : decode (jm_cd mY_Z_ship) 7 = .ok (.invokevirtual 143, 3) := by decide +kernel
theorem d_Z_ship_10 : decode (jm_cd mY_Z_ship) 10 = .ok (.iconst (-1), 1) := by decide +kernel
theorem d_Z_ship_11 : decode (jm_cd mY_Z_ship) 11 = .ok (.ixor, 1) := by decide +kernel
theorem d_Z_ship_12 : decode (jm_cd mY_Z_ship) 12 = .ok (.iand, 1) := by decide +kernel
theorem d_Z_ship_13 : decode (jm_cd mY_Z_ship) 13 = .ok (.ifCond .ne 28, 3) := by decide +kernel
theorem d_Z_ship_16 : decode (jm_cd mY_Z_ship) 16 = .ok (.iload_n 2, 1) := by decide +kernel
theorem d_Z_ship_17 : decode (jm_cd mY_Z_ship) 17 = .ok (.i2l, 1) := by decide +kernel
theorem d_Z_ship_18 : decode (jm_cd mY_Z_ship) 18 = .ok (.lconst 0, 1) := by decide +kernel
theorem d_Z_ship_19 : decode (jm_cd mY_Z_ship) 19 = .ok (.ldc2_w 147, 3) := by decide +kernel
theorem d_Z_ship_22 : decode (jm_cd mY_Z_ship) 22 = .ok (.invokestatic 69, 3) := by decide +kernel
theorem d_Z_ship_25 : decode (jm_cd mY_Z_ship) 25 = .ok (.ifCond .eq 16, 3) := by decide +kernel
theorem d_Z_ship_28 : decode (jm_cd mY_Z_ship) 28 = .ok (.iload_n 3, 1) := by decide +kernel
theorem d_Z_ship_29 : decode (jm_cd mY_Z_ship) 29 = .ok (.i2l, 1) := by decide +kernel
theorem d_Z_ship_30 : decode (jm_cd mY_Z_ship) 30 = .ok (.iload_n 2, 1) := by decide +kernel
theorem d_Z_ship_31 : decode (jm_cd mY_Z_ship) 31 = .ok (.i2l, 1) := by decide +kernel
theorem d_Z_ship_32 : decode (jm_cd mY_Z_ship) 32 = .ok (.ldc2_w 147, 3) := by decide +kernel
theorem d_Z_ship_35 : decode (jm_cd mY_Z_ship) 35 = .ok (.invokestatic 69, 3) := by decide +kernel
theorem d_Z_ship_38 : decode (jm_cd mY_Z_ship) 38 = .ok (.ifCond .ne 5, 3) := by decide +kernel
theorem d_Z_ship_41 : decode (jm_cd mY_Z_ship) 41 = .ok (.iconst (-1), 1) := by decide +kernel
theorem d_Z_ship_42 : decode (jm_cd mY_Z_ship) 42 = .ok (.ireturn, 1) := by decide +kernel
theorem d_Z_ship_43 : decode (jm_cd mY_Z_ship) 43 = .ok (.aload_n 0, 1) := by decide +kernel
theorem d_Z_ship_44 : decode (jm_cd mY_Z_ship) 44 = .ok (.getfield 37, 3) := by decide +kernel
theorem d_Z_ship_47 : decode (jm_cd mY_Z_ship) 47 = .ok (.iconst 0, 1) := by decide +kernel
theorem d_Z_ship_48 : decode (jm_cd mY_Z_ship) 48 = .ok (.iload_n 1, 1) := by decide +kernel
theorem d_Z_ship_49 : decode (jm_cd mY_Z_ship) 49 = .ok (.iastore, 1) := by decide +kernel
theorem d_Z_ship_50 : decode (jm_cd mY_Z_ship) 50 = .ok (.aload_n 0, 1) := by decide +kernel
theorem d_Z_ship_51 : decode (jm_cd mY_Z_ship) 51 = .ok (.getfield 37, 3) := by decide +kernel
theorem d_Z_ship_54 : decode (jm_cd mY_Z_ship) 54 = .ok (.iconst 1, 1) := by decide +kernel
theorem d_Z_ship_55 : decode (jm_cd mY_Z_ship) 55 = .ok (.iload_n 2, 1) := by decide +kernel
theorem d_Z_ship_56 : decode (jm_cd mY_Z_ship) 56 = .ok (.iastore, 1) := by decide +kernel
theorem d_Z_ship_57 : decode (jm_cd mY_Z_ship) 57 = .ok (.aload_n 0, 1) := by decide +kernel
theorem d_Z_ship_58 : decode (jm_cd mY_Z_ship) 58 = .ok (.getfield 37, 3) := by decide +kernel
theorem d_Z_ship_61 : decode (jm_cd mY_Z_ship) 61 = .ok (.iconst 2, 1) := by decide +kernel
theorem d_Z_ship_62 : decode (jm_cd mY_Z_ship) 62 = .ok (.iload_n 3, 1) := by decide +kernel
theorem d_Z_ship_63 : decode (jm_cd mY_Z_ship) 63 = .ok (.iastore, 1) := by decide +kernel
theorem d_Z_ship_64 : decode (jm_cd mY_Z_ship) 64 = .ok (.iconst 0, 1) := by decide +kernel
theorem d_Z_ship_65 : decode (jm_cd mY_Z_ship) 65 = .ok (.ireturn, 1) := by decide +kernel
def s_Z_ship (s : jm_M) (a0 : Int32) (a1 : Int32) (a2 : Int32) : Option (Int32 × jm_M) := (if a0 < 0 then (some ((-1), s)) else jm_bd (s_Z_ofKind s 1) (fun v1 => (if (a0 &&& (v1 ^^^ (-1))) = 0 then jm_bd (s_Z_in s a1.toInt64 0 59) (fun v2 => (if v2 = 0 then (some ((-1), s)) else jm_bd (s_Z_in s a2.toInt64 a1.toInt64 59) (fun v3 => (if v3 = 0 then (some ((-1), s)) else jm_sti s 69 9 0 a0 (fun s4 => jm_sti s4 69 9 1 a1 (fun s5 => jm_sti s5 69 9 2 a2 (fun s6 => (some (0, s6))))))))) else (some ((-1), s)))))
set_option maxRecDepth 100000 in
set_option maxHeartbeats 4000000 in
theorem s_Z_ship_ok (s : jm_M) (a0 : Int32) (a1 : Int32) (a2 : Int32) : jm_Sim mY_Z_ship 0 0 0 [(0, .ref 59), (1, .int a0), (2, .int a1), (3, .int a2)] [] 78 mr_154 s (s_Z_ship s a0 a1 a2) (jm_rP 78 mr_154) := by
  unfold s_Z_ship
  refine jm_iload_n (pc := 0) (q := 1) (x := a0) d_Z_ship_0 rfl ?_
  refine jm_if_lt (pc := 1) (tgt := 41) d_Z_ship_1 (by decide) ?_ ?_
  · refine jm_iconst (pc := 41) (v := (-1)) d_Z_ship_41 ci_m1 ?_
    exact jm_iret (pc := 42) (x := (-1)) d_Z_ship_42 rfl rfl rfl rfl rfl
  · refine jm_iload_n (pc := 4) (q := 1) (x := a0) d_Z_ship_4 rfl ?_
    refine jm_aload_n (pc := 5) (q := 0) (x := 59) d_Z_ship_5 rfl ?_
    refine jm_iconst (pc := 6) (v := 1) d_Z_ship_6 ci_1 ?_
    refine jm_Vp (pc := 7) (Y' := mY_Z_ofKind) (i := 59) (avs := [.int 1]) (rest := [.int a0]) (s_Z_ofKind_ok s 1) ok_Z_ofKind l0_Z_ship__Z_ofKind ml_Z_143 im_Z_ofKind se_Z_ofKind d_Z_ship_7 rfl sh_59 rfl rfl ge_59 le_59_78 rfl (Nat.le_of_ble_eq_true rfl) (Nat.le_of_ble_eq_true rfl) (Nat.le_of_ble_eq_true rfl) (Nat.le_of_ble_eq_true rfl) (fun v1 => ?_)
    refine jm_iconst (pc := 10) (v := (-1)) d_Z_ship_10 ci_m1 ?_
    refine jm_ixor (pc := 11) d_Z_ship_11 ?_
    refine jm_iand (pc := 12) d_Z_ship_12 ?_
    refine jm_if_ne (pc := 13) (tgt := 41) d_Z_ship_13 (by decide) ?_ ?_
    · refine jm_iload_n (pc := 16) (q := 2) (x := a1) d_Z_ship_16 rfl ?_
      refine jm_i2l (pc := 17) d_Z_ship_17 ?_
      refine jm_lconst (pc := 18) (v := 0) d_Z_ship_18 cl_0 ?_
      refine jm_ldc2 (pc := 19) (v := 59) d_Z_ship_19 kl_Z_147 ?_
      refine jm_Sp (pc := 22) (Y' := mY_Z_in) (avs := [.long a1.toInt64, .long 0, .long 59]) (rest := []) (s_Z_in_ok s a1.toInt64 0 59) ok_Z_in l0_Z_ship__Z_in ml_Z_69 sm_Z_in d_Z_ship_22 rfl rfl (Nat.le_of_ble_eq_true rfl) (Nat.le_of_ble_eq_true rfl) (Nat.le_of_ble_eq_true rfl) (Nat.le_of_ble_eq_true rfl) (fun v2 => ?_)
      refine jm_if_eq (pc := 25) (tgt := 41) d_Z_ship_25 (by decide) ?_ ?_
      · refine jm_iconst (pc := 41) (v := (-1)) d_Z_ship_41 ci_m1 ?_
        exact jm_iret (pc := 42) (x := (-1)) d_Z_ship_42 rfl rfl rfl rfl rfl
      · refine jm_iload_n (pc := 28) (q := 3) (x := a2) d_Z_ship_28 rfl ?_
        refine jm_i2l (pc := 29) d_Z_ship_29 ?_
        refine jm_iload_n (pc := 30) (q := 2) (x := a1) d_Z_ship_30 rfl ?_
        refine jm_i2l (pc := 31) d_Z_ship_31 ?_
        refine jm_ldc2 (pc := 32) (v := 59) d_Z_ship_32 kl_Z_147 ?_
        refine jm_Sp (pc := 35) (Y' := mY_Z_in) (avs := [.long a2.toInt64, .long a1.toInt64, .long 59]) (rest := []) (s_Z_in_ok s a2.toInt64 a1.toInt64 59) ok_Z_in l0_Z_ship__Z_in ml_Z_69 sm_Z_in d_Z_ship_35 rfl rfl (Nat.le_of_ble_eq_true rfl) (Nat.le_of_ble_eq_true rfl) (Nat.le_of_ble_eq_true rfl) (Nat.le_of_ble_eq_true rfl) (fun v3 => ?_)
        refine jm_if_ne (pc := 38) (tgt := 43) d_Z_ship_38 (by decide) ?_ ?_
        · refine jm_iconst (pc := 41) (v := (-1)) d_Z_ship_41 ci_m1 ?_
          exact jm_iret (pc := 42) (x := (-1)) d_Z_ship_42 rfl rfl rfl rfl rfl
        · refine jm_aload_n (pc := 43) (q := 0) (x := 59) d_Z_ship_43 rfl ?_
          refine jm_gr (pc := 44) (i := 59) d_Z_ship_44 fo_Z_37 sh_59 ge_59 le_59_78 rfl (fun _ => rfl) mr_154_59_10 ge_69 ?_
          refine jm_iconst (pc := 47) (v := 0) d_Z_ship_47 ci_0 ?_
          refine jm_iload_n (pc := 48) (q := 1) (x := a0) d_Z_ship_48 rfl ?_
          refine jm_iast (pc := 49) d_Z_ship_49 sh_69 ge_69 le_69_78 (fun s4 => ?_)
          refine jm_aload_n (pc := 50) (q := 0) (x := 59) d_Z_ship_50 rfl ?_
          refine jm_gr (pc := 51) (i := 59) d_Z_ship_51 fo_Z_37 sh_59 ge_59 le_59_78 rfl (fun _ => rfl) mr_154_59_10 ge_69 ?_
          refine jm_iconst (pc := 54) (v := 1) d_Z_ship_54 ci_1 ?_
          refine jm_iload_n (pc := 55) (q := 2) (x := a1) d_Z_ship_55 rfl ?_
          refine jm_iast (pc := 56) d_Z_ship_56 sh_69 ge_69 le_69_78 (fun s5 => ?_)
          refine jm_aload_n (pc := 57) (q := 0) (x := 59) d_Z_ship_57 rfl ?_
          refine jm_gr (pc := 58) (i := 59) d_Z_ship_58 fo_Z_37 sh_59 ge_59 le_59_78 rfl (fun _ => rfl) mr_154_59_10 ge_69 ?_
          refine jm_iconst (pc := 61) (v := 2) d_Z_ship_61 ci_2 ?_
          refine jm_iload_n (pc := 62) (q := 3) (x := a2) d_Z_ship_62 rfl ?_
          refine jm_iast (pc := 63) d_Z_ship_63 sh_69 ge_69 le_69_78 (fun s6 => ?_)
          refine jm_iconst (pc := 64) (v := 0) d_Z_ship_64 ci_0 ?_
          exact jm_iret (pc := 65) (x := 0) d_Z_ship_65 rfl rfl rfl rfl rfl
    · refine jm_iconst (pc := 41) (v := (-1)) d_Z_ship_41 ci_m1 ?_
      exact jm_iret (pc := 42) (x := (-1)) d_Z_ship_42 rfl rfl rfl rfl rfl
theorem d_Ni_isLit_0 : decode (jm_cd mY_Ni_isLit) 0 = .ok (.iload_n 1, 1) := by decide +kernel
theorem d_Ni_isLit_1 : decode (jm_cd mY_Ni_isLit) 1 = .ok (.ifCond .lt 35, 3) := by decide +kernel
theorem d_Ni_isLit_4 : decode (jm_cd mY_Ni_isLit) 4 = .ok (.iload_n 1, 1) := by decide +kernel
theorem d_Ni_isLit_5 : decode (jm_cd mY_Ni_isLit) 5 = .ok (.bipush 10, 2) := by decide +kernel
theorem d_Ni_isLit_7 : decode (jm_cd mY_Ni_isLit) 7 = .ok (.if_icmp .ge 29, 3) := by decide +kernel
theorem d_Ni_isLit_10 : decode (jm_cd mY_Ni_isLit) 10 = .ok (.iload_n 2, 1) := by decide +kernel
theorem d_Ni_isLit_11 : decode (jm_cd mY_Ni_isLit) 11 = .ok (.invokestatic 23, 3) := by decide +kernel
theorem d_Ni_isLit_14 : decode (jm_cd mY_Ni_isLit) 14 = .ok (.ifCond .eq 22, 3) := by decide +kernel
theorem d_Ni_isLit_17 : decode (jm_cd mY_Ni_isLit) 17 = .ok (.aload_n 0, 1) := by decide +kernel
theorem d_Ni_isLit_18 : decode (jm_cd mY_Ni_isLit) 18 = .ok (.getfield 19, 3) := by decide +kernel
theorem d_Ni_isLit_21 : decode (jm_cd mY_Ni_isLit) 21 = .ok (.iload_n 1, 1) := by decide +kernel
theorem d_Ni_isLit_22 : decode (jm_cd mY_Ni_isLit) 22 = .ok (.laload, 1) := by decide +kernel
theorem d_Ni_isLit_23 : decode (jm_cd mY_Ni_isLit) 23 = .ok (.iload_n 2, 1) := by decide +kernel
theorem d_Ni_isLit_24 : decode (jm_cd mY_Ni_isLit) 24 = .ok (.lushr, 1) := by decide +kernel
theorem d_Ni_isLit_25 : decode (jm_cd mY_Ni_isLit) 25 = .ok (.lconst 1, 1) := by decide +kernel
theorem d_Ni_isLit_26 : decode (jm_cd mY_Ni_isLit) 26 = .ok (.land, 1) := by decide +kernel
theorem d_Ni_isLit_27 : decode (jm_cd mY_Ni_isLit) 27 = .ok (.lconst 0, 1) := by decide +kernel
theorem d_Ni_isLit_28 : decode (jm_cd mY_Ni_isLit) 28 = .ok (.lcmp, 1) := by decide +kernel
theorem d_Ni_isLit_29 : decode (jm_cd mY_Ni_isLit) 29 = .ok (.ifCond .eq 7, 3) := by decide +kernel
theorem d_Ni_isLit_32 : decode (jm_cd mY_Ni_isLit) 32 = .ok (.iconst 1, 1) := by decide +kernel
theorem d_Ni_isLit_33 : decode (jm_cd mY_Ni_isLit) 33 = .ok (.goto 4, 3) := by decide +kernel
theorem d_Ni_isLit_36 : decode (jm_cd mY_Ni_isLit) 36 = .ok (.iconst 0, 1) := by decide +kernel
theorem d_Ni_isLit_37 : decode (jm_cd mY_Ni_isLit) 37 = .ok (.ireturn, 1) := by decide +kernel
def s_Ni_isLit (s : jm_M) (a0 : Int32) (a1 : Int32) : Option Int32 := (if a0 < 0 then (some 0) else (if 10 ≤ a0 then (some 0) else jm_bd (s_X_isMinute s a1) (fun v1 => (if v1 = 0 then (some 0) else jm_ldl s 47 10 a0 (fun v2 => (if (lg_cmp (((v2.toUInt64 >>> (a1.toInt64.toUInt64 &&& Int64.toUInt64 63)).toInt64) &&& 1) 0) = 0 then (some 0) else (some 1)))))))
set_option maxRecDepth 100000 in
set_option maxHeartbeats 4000000 in
theorem s_Ni_isLit_ok (s : jm_M) (a0 : Int32) (a1 : Int32) : jm_Sim mY_Ni_isLit 0 0 0 [(0, .ref 45), (1, .int a0), (2, .int a1)] [] 78 mr_154 s (s_Ni_isLit s a0 a1) (jm_rI 78 mr_154 s) := by
  unfold s_Ni_isLit
  refine jm_iload_n (pc := 0) (q := 1) (x := a0) d_Ni_isLit_0 rfl ?_
  refine jm_if_lt (pc := 1) (tgt := 36) d_Ni_isLit_1 (by decide) ?_ ?_
  · refine jm_iconst (pc := 36) (v := 0) d_Ni_isLit_36 ci_0 ?_
    exact jm_iret (pc := 37) (x := 0) d_Ni_isLit_37 rfl (by decide) rfl rfl rfl
  · refine jm_iload_n (pc := 4) (q := 1) (x := a0) d_Ni_isLit_4 rfl ?_
    refine jm_bipush (pc := 5) (v := 10) d_Ni_isLit_5 cb_10 ?_
    refine jm_icmp_ge (pc := 7) (tgt := 36) d_Ni_isLit_7 (by decide) ?_ ?_
    · refine jm_iconst (pc := 36) (v := 0) d_Ni_isLit_36 ci_0 ?_
      exact jm_iret (pc := 37) (x := 0) d_Ni_isLit_37 rfl (by decide) rfl rfl rfl
    · refine jm_iload_n (pc := 10) (q := 2) (x := a1) d_Ni_isLit_10 rfl ?_
      refine jm_Np (pc := 11) (Y' := mY_X_isMinute) (avs := [.int a1]) (rest := []) (s_X_isMinute_ok s a1) ok_X_isMinute l0_Ni_isLit__X_isMinute nl_Ni_23 sm_X_isMinute d_Ni_isLit_11 rfl rfl (Nat.le_of_ble_eq_true rfl) (Nat.le_of_ble_eq_true rfl) (Nat.le_of_ble_eq_true rfl) (Nat.le_of_ble_eq_true rfl) (fun v1 => ?_)
      refine jm_if_eq (pc := 14) (tgt := 36) d_Ni_isLit_14 (by decide) ?_ ?_
      · refine jm_iconst (pc := 36) (v := 0) d_Ni_isLit_36 ci_0 ?_
        exact jm_iret (pc := 37) (x := 0) d_Ni_isLit_37 rfl (by decide) rfl rfl rfl
      · refine jm_aload_n (pc := 17) (q := 0) (x := 45) d_Ni_isLit_17 rfl ?_
        refine jm_gr (pc := 18) (i := 45) d_Ni_isLit_18 fo_Ni_19 sh_45 ge_45 le_45_78 rfl (fun _ => rfl) mr_154_45_2 ge_47 ?_
        refine jm_iload_n (pc := 21) (q := 1) (x := a0) d_Ni_isLit_21 rfl ?_
        refine jm_lald (pc := 22) d_Ni_isLit_22 sh_47 ge_47 le_47_78 (fun v2 => ?_)
        refine jm_iload_n (pc := 23) (q := 2) (x := a1) d_Ni_isLit_23 rfl ?_
        refine jm_lushr (pc := 24) d_Ni_isLit_24 ?_
        refine jm_lconst (pc := 25) (v := 1) d_Ni_isLit_25 cl_1 ?_
        refine jm_land (pc := 26) d_Ni_isLit_26 ?_
        refine jm_lconst (pc := 27) (v := 0) d_Ni_isLit_27 cl_0 ?_
        refine jm_lcmp (pc := 28) d_Ni_isLit_28 ?_
        refine jm_if_eq (pc := 29) (tgt := 36) d_Ni_isLit_29 (by decide) ?_ ?_
        · refine jm_iconst (pc := 36) (v := 0) d_Ni_isLit_36 ci_0 ?_
          exact jm_iret (pc := 37) (x := 0) d_Ni_isLit_37 rfl (by decide) rfl rfl rfl
        · refine jm_iconst (pc := 32) (v := 1) d_Ni_isLit_32 ci_1 ?_
          refine jm_goto (pc := 33) (tgt := 37) d_Ni_isLit_33 (by decide) ?_
          exact jm_iret (pc := 37) (x := 1) d_Ni_isLit_37 rfl (by decide) rfl rfl rfl
theorem d_Ni_sawShip_0 : decode (jm_cd mY_Ni_sawShip) 0 = .ok (.aload_n 0, 1) := by decide +kernel
theorem d_Ni_sawShip_1 : decode (jm_cd mY_Ni_sawShip) 1 = .ok (.getfield 63, 3) := by decide +kernel
theorem d_Ni_sawShip_4 : decode (jm_cd mY_Ni_sawShip) 4 = .ok (.iload_n 1, 1) := by decide +kernel
theorem d_Ni_sawShip_5 : decode (jm_cd mY_Ni_sawShip) 5 = .ok (.ishr, 1) := by decide +kernel
theorem d_Ni_sawShip_6 : decode (jm_cd mY_Ni_sawShip) 6 = .ok (.iconst 1, 1) := by decide +kernel
theorem d_Ni_sawShip_7 : decode (jm_cd mY_Ni_sawShip) 7 = .ok (.iand, 1) := by decide +kernel
theorem d_Ni_sawShip_8 : decode (jm_cd mY_Ni_sawShip) 8 = .ok (.ifCond .eq 20, 3) := by decide +kernel
theorem d_Ni_sawShip_11 : decode (jm_cd mY_Ni_sawShip) 11 = .ok (.aload_n 0, 1) := by decide +kernel
theorem d_Ni_sawShip_12 : decode (jm_cd mY_Ni_sawShip) 12 = .ok (.getfield 66, 3) := by decide +kernel
theorem d_Ni_sawShip_15 : decode (jm_cd mY_Ni_sawShip) 15 = .ok (.iload_n 2, 1) := by decide +kernel
theorem d_Ni_sawShip_16 : decode (jm_cd mY_Ni_sawShip) 16 = .ok (.lushr, 1) := by decide +kernel
theorem d_Ni_sawShip_17 : decode (jm_cd mY_Ni_sawShip) 17 = .ok (.lconst 1, 1) := by decide +kernel
theorem d_Ni_sawShip_18 : decode (jm_cd mY_Ni_sawShip) 18 = .ok (.land, 1) := by decide +kernel
theorem d_Ni_sawShip_19 : decode (jm_cd mY_Ni_sawShip) 19 = .ok (.lconst 0, 1) := by decide +kernel
theorem d_Ni_sawShip_20 : decode (jm_cd mY_Ni_sawShip) 20 = .ok (.lcmp, 1) := by decide +kernel
theorem d_Ni_sawShip_21 : decode (jm_cd mY_Ni_sawShip) 21 = .ok (.ifCond .eq 7, 3) := by decide +kernel
theorem d_Ni_sawShip_24 : decode (jm_cd mY_Ni_sawShip) 24 = .ok (.iconst 1, 1) := by decide +kernel
theorem d_Ni_sawShip_25 : decode (jm_cd mY_Ni_sawShip) 25 = .ok (.goto 4, 3) := by decide +kernel
theorem d_Ni_sawShip_28 : decode (jm_cd mY_Ni_sawShip) 28 = .ok (.iconst 0, 1) := by decide +kernel
theorem d_Ni_sawShip_29 : decode (jm_cd mY_Ni_sawShip) 29 = .ok (.ireturn, 1) := by decide +kernel
def s_Ni_sawShip (s : jm_M) (a1 : Int32) (a2 : Int32) : Option Int32 := (if (((s.1 15 10) >>> (a1 &&& 31)) &&& 1) = 0 then (some 0) else (if (lg_cmp ((((s.2 15 11).toUInt64 >>> (a2.toInt64.toUInt64 &&& Int64.toUInt64 63)).toInt64) &&& 1) 0) = 0 then (some 0) else (some 1)))
set_option maxRecDepth 100000 in
set_option maxHeartbeats 4000000 in
theorem s_Ni_sawShip_ok (s : jm_M) (a1 : Int32) (a2 : Int32) : jm_Sim mY_Ni_sawShip 0 0 0 [(0, .ref 15), (1, .int a1), (2, .int a2)] [] 78 mr_154 s (s_Ni_sawShip s a1 a2) (jm_rI 78 mr_154 s) := by
  unfold s_Ni_sawShip
  refine jm_aload_n (pc := 0) (q := 0) (x := 15) d_Ni_sawShip_0 rfl ?_
  refine jm_gi (pc := 1) (i := 15) d_Ni_sawShip_1 fo_Ni_63 sh_15 ge_15 le_15_78 rfl (fun _ => rfl) ?_
  refine jm_iload_n (pc := 4) (q := 1) (x := a1) d_Ni_sawShip_4 rfl ?_
  refine jm_ishr (pc := 5) d_Ni_sawShip_5 ?_
  refine jm_iconst (pc := 6) (v := 1) d_Ni_sawShip_6 ci_1 ?_
  refine jm_iand (pc := 7) d_Ni_sawShip_7 ?_
  refine jm_if_eq (pc := 8) (tgt := 28) d_Ni_sawShip_8 (by decide) ?_ ?_
  · refine jm_iconst (pc := 28) (v := 0) d_Ni_sawShip_28 ci_0 ?_
    exact jm_iret (pc := 29) (x := 0) d_Ni_sawShip_29 rfl (by decide) rfl rfl rfl
  · refine jm_aload_n (pc := 11) (q := 0) (x := 15) d_Ni_sawShip_11 rfl ?_
    refine jm_gl (pc := 12) (i := 15) d_Ni_sawShip_12 fo_Ni_66 sh_15 ge_15 le_15_78 rfl ?_
    refine jm_iload_n (pc := 15) (q := 2) (x := a2) d_Ni_sawShip_15 rfl ?_
    refine jm_lushr (pc := 16) d_Ni_sawShip_16 ?_
    refine jm_lconst (pc := 17) (v := 1) d_Ni_sawShip_17 cl_1 ?_
    refine jm_land (pc := 18) d_Ni_sawShip_18 ?_
    refine jm_lconst (pc := 19) (v := 0) d_Ni_sawShip_19 cl_0 ?_
    refine jm_lcmp (pc := 20) d_Ni_sawShip_20 ?_
    refine jm_if_eq (pc := 21) (tgt := 28) d_Ni_sawShip_21 (by decide) ?_ ?_
    · refine jm_iconst (pc := 28) (v := 0) d_Ni_sawShip_28 ci_0 ?_
      exact jm_iret (pc := 29) (x := 0) d_Ni_sawShip_29 rfl (by decide) rfl rfl rfl
    · refine jm_iconst (pc := 24) (v := 1) d_Ni_sawShip_24 ci_1 ?_
      refine jm_goto (pc := 25) (tgt := 29) d_Ni_sawShip_25 (by decide) ?_
      exact jm_iret (pc := 29) (x := 1) d_Ni_sawShip_29 rfl (by decide) rfl rfl rfl
theorem d_Ni_ruleHeld_0 : decode (jm_cd mY_Ni_ruleHeld) 0 = .ok (.iload_n 2, 1) := by decide +kernel
theorem d_Ni_ruleHeld_1 : decode (jm_cd mY_Ni_ruleHeld) 1 = .ok (.ifCond .lt 9, 3) := by decide +kernel
theorem d_Ni_ruleHeld_4 : decode (jm_cd mY_Ni_ruleHeld) 4 = .ok (.iload_n 2, 1) := by decide +kernel
theorem d_Ni_ruleHeld_5 : decode (jm_cd mY_Ni_ruleHeld) 5 = .ok (.bipush 10, 2) := by decide +kernel
theorem d_Ni_ruleHeld_7 : decode (jm_cd mY_Ni_ruleHeld) 7 = .ok (.if_icmp .lt 5, 3) := by decide +kernel
theorem d_Ni_ruleHeld_10 : decode (jm_cd mY_Ni_ruleHeld) 10 = .ok (.iconst 0, 1) := by decide +kernel
theorem d_Ni_ruleHeld_11 : decode (jm_cd mY_Ni_ruleHeld) 11 = .ok (.ireturn, 1) := by decide +kernel
theorem d_Ni_ruleHeld_12 : decode (jm_cd mY_Ni_ruleHeld) 12 = .ok (.iload_n 3, 1) := by decide +kernel
theorem d_Ni_ruleHeld_13 : decode (jm_cd mY_Ni_ruleHeld) 13 = .ok (.aload_n 1, 1) := by decide +kernel
theorem d_Ni_ruleHeld_14 : decode (jm_cd mY_Ni_ruleHeld) 14 = .ok (.getfield 70, 3) := by decide +kernel
theorem d_Ni_ruleHeld_17 : decode (jm_cd mY_Ni_ruleHeld) 17 = .ok (.iload_n 2, 1) := by decide +kernel
theorem d_Ni_ruleHeld_18 : decode (jm_cd mY_Ni_ruleHeld) 18 = .ok (.iaload, 1) := by decide +kernel
theorem d_Ni_ruleHeld_19 : decode (jm_cd mY_Ni_ruleHeld) 19 = .ok (.isub, 1) := by decide +kernel
theorem d_Ni_ruleHeld_20 : decode (jm_cd mY_Ni_ruleHeld) 20 = .ok (.iconst 1, 1) := by decide +kernel
theorem d_Ni_ruleHeld_21 : decode (jm_cd mY_Ni_ruleHeld) 21 = .ok (.iadd, 1) := by decide +kernel
theorem d_Ni_ruleHeld_22 : decode (jm_cd mY_Ni_ruleHeld) 22 = .ok (.istore 4, 2) := by decide +kernel
theorem d_Ni_ruleHeld_24 : decode (jm_cd mY_Ni_ruleHeld) 24 = .ok (.iload 4, 2) := by decide +kernel
theorem d_Ni_ruleHeld_26 : decode (jm_cd mY_Ni_ruleHeld) 26 = .ok (.ifCond .ge 5, 3) := by decide +kernel
theorem d_Ni_ruleHeld_29 : decode (jm_cd mY_Ni_ruleHeld) 29 = .ok (.iconst 0, 1) := by decide +kernel
theorem d_Ni_ruleHeld_30 : decode (jm_cd mY_Ni_ruleHeld) 30 = .ok (.ireturn, 1) := by decide +kernel
theorem d_Ni_ruleHeld_31 : decode (jm_cd mY_Ni_ruleHeld) 31 = .ok (.iload 4, 2) := by decide +kernel
theorem d_Ni_ruleHeld_33 : decode (jm_cd mY_Ni_ruleHeld) 33 = .ok (.iload_n 3, 1) := by decide +kernel
theorem d_Ni_ruleHeld_34 : decode (jm_cd mY_Ni_ruleHeld) 34 = .ok (.invokestatic 73, 3) := by decide +kernel
theorem d_Ni_ruleHeld_37 : decode (jm_cd mY_Ni_ruleHeld) 37 = .ok (.lstore 5, 2) := by decide +kernel
theorem d_Ni_ruleHeld_39 : decode (jm_cd mY_Ni_ruleHeld) 39 = .ok (.iconst 0, 1) := by decide +kernel
theorem d_Ni_ruleHeld_40 : decode (jm_cd mY_Ni_ruleHeld) 40 = .ok (.istore 7, 2) := by decide +kernel
theorem d_Ni_ruleHeld_42 : decode (jm_cd mY_Ni_ruleHeld) 42 = .ok (.iconst 0, 1) := by decide +kernel
theorem d_Ni_ruleHeld_43 : decode (jm_cd mY_Ni_ruleHeld) 43 = .ok (.istore 8, 2) := by decide +kernel
theorem d_Ni_ruleHeld_45 : decode (jm_cd mY_Ni_ruleHeld) 45 = .ok (.iload 8, 2) := by decide +kernel
theorem d_Ni_ruleHeld_47 : decode (jm_cd mY_Ni_ruleHeld) 47 = .ok (.bipush 10, 2) := by decide +kernel
theorem d_Ni_ruleHeld_49 : decode (jm_cd mY_Ni_ruleHeld) 49 = .ok (.if_icmp .ge 63, 3) := by decide +kernel
theorem d_Ni_ruleHeld_52 : decode (jm_cd mY_Ni_ruleHeld) 52 = .ok (.aload_n 1, 1) := by decide +kernel
theorem d_Ni_ruleHeld_53 : decode (jm_cd mY_Ni_ruleHeld) 53 = .ok (.getfield 77, 3) := by decide +kernel
theorem d_Ni_ruleHeld_56 : decode (jm_cd mY_Ni_ruleHeld) 56 = .ok (.iload_n 2, 1) := by decide +kernel
theorem d_Ni_ruleHeld_57 : decode (jm_cd mY_Ni_ruleHeld) 57 = .ok (.iaload, 1) := by decide +kernel
theorem d_Ni_ruleHeld_58 : decode (jm_cd mY_Ni_ruleHeld) 58 = .ok (.iload 8, 2) := by decide +kernel
theorem d_Ni_ruleHeld_60 : decode (jm_cd mY_Ni_ruleHeld) 60 = .ok (.ishr, 1) := by decide +kernel
theorem d_Ni_ruleHeld_61 : decode (jm_cd mY_Ni_ruleHeld) 61 = .ok (.iconst 1, 1) := by decide +kernel
theorem d_Ni_ruleHeld_62 : decode (jm_cd mY_Ni_ruleHeld) 62 = .ok (.iand, 1) := by decide +kernel
theorem d_Ni_ruleHeld_63 : decode (jm_cd mY_Ni_ruleHeld) 63 = .ok (.ifCond .eq 43, 3) := by decide +kernel
theorem d_Ni_ruleHeld_66 : decode (jm_cd mY_Ni_ruleHeld) 66 = .ok (.aload_n 0, 1) := by decide +kernel
theorem d_Ni_ruleHeld_67 : decode (jm_cd mY_Ni_ruleHeld) 67 = .ok (.getfield 19, 3) := by decide +kernel
theorem d_Ni_ruleHeld_70 : decode (jm_cd mY_Ni_ruleHeld) 70 = .ok (.iload 8, 2) := by decide +kernel
theorem d_Ni_ruleHeld_72 : decode (jm_cd mY_Ni_ruleHeld) 72 = .ok (.laload, 1) := by decide +kernel
theorem d_Ni_ruleHeld_73 : decode (jm_cd mY_Ni_ruleHeld) 73 = .ok (.aload_n 1, 1) := by decide +kernel
theorem d_Ni_ruleHeld_74 : decode (jm_cd mY_Ni_ruleHeld) 74 = .ok (.getfield 80, 3) := by decide +kernel
theorem d_Ni_ruleHeld_77 : decode (jm_cd mY_Ni_ruleHeld) 77 = .ok (.iload_n 2, 1) := by decide +kernel
theorem d_Ni_ruleHeld_78 : decode (jm_cd mY_Ni_ruleHeld) 78 = .ok (.bipush 10, 2) := by decide +kernel
theorem d_Ni_ruleHeld_80 : decode (jm_cd mY_Ni_ruleHeld) 80 = .ok (.imul, 1) := by decide +kernel
theorem d_Ni_ruleHeld_81 : decode (jm_cd mY_Ni_ruleHeld) 81 = .ok (.iload 8, 2) := by decide +kernel
theorem d_Ni_ruleHeld_83 : decode (jm_cd mY_Ni_ruleHeld) 83 = .ok (.iadd, 1) := by decide +kernel
theorem d_Ni_ruleHeld_84 : decode (jm_cd mY_Ni_ruleHeld) 84 = .ok (.laload, 1) := by decide +kernel
theorem d_Ni_ruleHeld_85 : decode (jm_cd mY_Ni_ruleHeld) 85 = .ok (.ldc2_w 83, 3) := by decide +kernel
theorem d_Ni_ruleHeld_88 : decode (jm_cd mY_Ni_ruleHeld) 88 = .ok (.lxor, 1) := by decide +kernel
theorem d_Ni_ruleHeld_89 : decode (jm_cd mY_Ni_ruleHeld) 89 = .ok (.land, 1) := by decide +kernel
theorem d_Ni_ruleHeld_90 : decode (jm_cd mY_Ni_ruleHeld) 90 = .ok (.lstore 9, 2) := by decide +kernel
theorem d_Ni_ruleHeld_92 : decode (jm_cd mY_Ni_ruleHeld) 92 = .ok (.lload 9, 2) := by decide +kernel
theorem d_Ni_ruleHeld_94 : decode (jm_cd mY_Ni_ruleHeld) 94 = .ok (.lload 5, 2) := by decide +kernel
theorem d_Ni_ruleHeld_96 : decode (jm_cd mY_Ni_ruleHeld) 96 = .ok (.land, 1) := by decide +kernel
theorem d_Ni_ruleHeld_97 : decode (jm_cd mY_Ni_ruleHeld) 97 = .ok (.lload 5, 2) := by decide +kernel
theorem d_Ni_ruleHeld_99 : decode (jm_cd mY_Ni_ruleHeld) 99 = .ok (.lcmp, 1) := by decide +kernel
theorem d_Ni_ruleHeld_100 : decode (jm_cd mY_Ni_ruleHeld) 100 = .ok (.ifCond .ne 6, 3) := by decide +kernel
theorem d_Ni_ruleHeld_103 : decode (jm_cd mY_Ni_ruleHeld) 103 = .ok (.iinc 7 1, 3) := by decide +kernel
theorem d_Ni_ruleHeld_106 : decode (jm_cd mY_Ni_ruleHeld) 106 = .ok (.iinc 8 1, 3) := by decide +kernel
theorem d_Ni_ruleHeld_109 : decode (jm_cd mY_Ni_ruleHeld) 109 = .ok (.goto (-64), 3) := by decide +kernel
theorem d_Ni_ruleHeld_112 : decode (jm_cd mY_Ni_ruleHeld) 112 = .ok (.iload 7, 2) := by decide +kernel
theorem d_Ni_ruleHeld_114 : decode (jm_cd mY_Ni_ruleHeld) 114 = .ok (.aload_n 1, 1) := by decide +kernel
theorem d_Ni_ruleHeld_115 : decode (jm_cd mY_Ni_ruleHeld) 115 = .ok (.getfield 85, 3) := by decide +kernel
theorem d_Ni_ruleHeld_118 : decode (jm_cd mY_Ni_ruleHeld) 118 = .ok (.iload_n 2, 1) := by decide +kernel
theorem d_Ni_ruleHeld_119 : decode (jm_cd mY_Ni_ruleHeld) 119 = .ok (.iaload, 1) := by decide +kernel
theorem d_Ni_ruleHeld_120 : decode (jm_cd mY_Ni_ruleHeld) 120 = .ok (.if_icmp .lt 7, 3) := by decide +kernel
theorem d_Ni_ruleHeld_123 : decode (jm_cd mY_Ni_ruleHeld) 123 = .ok (.iconst 1, 1) := by decide +kernel
theorem d_Ni_ruleHeld_124 : decode (jm_cd mY_Ni_ruleHeld) 124 = .ok (.goto 4, 3) := by decide +kernel
theorem d_Ni_ruleHeld_127 : decode (jm_cd mY_Ni_ruleHeld) 127 = .ok (.iconst 0, 1) := by decide +kernel
theorem d_Ni_ruleHeld_128 : decode (jm_cd mY_Ni_ruleHeld) 128 = .ok (.ireturn, 1) := by decide +kernel
def s_Ni_ruleHeld_45_15_L45 (s : jm_M) : Nat → Int32 → Int64 → Int32 → Int32 → Option Int32
  | 0, _, _, _, _ => none
  | n + 1, x2, x5, x7, x8 => (if 10 ≤ x8 then jm_ldi s 18 10 x2 (fun v4 => (if x7 < v4 then (some 0) else (some 1))) else jm_ldi s 17 10 x2 (fun v5 => (if ((v5 >>> (x8 &&& 31)) &&& 1) = 0 then s_Ni_ruleHeld_45_15_L45 s n x2 x5 x7 (x8 + 1) else jm_ldl s 47 10 x8 (fun v6 => jm_ldl s 24 100 ((x2 * 10) + x8) (fun v7 => jm_vl (v6 &&& (v7 ^^^ (-1))) (fun v8 => (if (lg_cmp (v8 &&& x5) x5) = 0 then s_Ni_ruleHeld_45_15_L45 s n x2 x5 (x7 + 1) (x8 + 1) else s_Ni_ruleHeld_45_15_L45 s n x2 x5 x7 (x8 + 1))))))))
set_option maxRecDepth 100000 in
set_option maxHeartbeats 4000000 in
theorem s_Ni_ruleHeld_45_15_L45_ok (s : jm_M) : ∀ (n : Nat) (x2 : Int32) (x5 : Int64) (x7 : Int32) (x8 : Int32), jm_Sim mY_Ni_ruleHeld 0 0 45 [(0, .ref 45), (1, .ref 15), (2, .int x2), (5, .long x5), (7, .int x7), (8, .int x8)] [] 78 mr_154 s (s_Ni_ruleHeld_45_15_L45 s n x2 x5 x7 x8) (jm_rI 78 mr_154 s) := by
  intro n
  induction n with
  | zero => intro x2 x5 x7 x8; exact jm_none
  | succ n ih =>
    intro x2 x5 x7 x8
    rw [s_Ni_ruleHeld_45_15_L45]
    refine jm_iload (pc := 45) (q := 5) (x := x8) d_Ni_ruleHeld_45 rfl ?_
    refine jm_bipush (pc := 47) (v := 10) d_Ni_ruleHeld_47 cb_10 ?_
    refine jm_icmp_ge (pc := 49) (tgt := 112) d_Ni_ruleHeld_49 (by decide) ?_ ?_
    · refine jm_iload (pc := 112) (q := 4) (x := x7) d_Ni_ruleHeld_112 rfl ?_
      refine jm_aload_n (pc := 114) (q := 1) (x := 15) d_Ni_ruleHeld_114 rfl ?_
      refine jm_gr (pc := 115) (i := 15) d_Ni_ruleHeld_115 fo_Ni_85 sh_15 ge_15 le_15_78 rfl (fun _ => rfl) mr_154_15_3 ge_18 ?_
      refine jm_iload_n (pc := 118) (q := 2) (x := x2) d_Ni_ruleHeld_118 rfl ?_
      refine jm_iald (pc := 119) d_Ni_ruleHeld_119 sh_18 ge_18 le_18_78 (fun v4 => ?_)
      refine jm_icmp_lt (pc := 120) (tgt := 127) d_Ni_ruleHeld_120 (by decide) ?_ ?_
      · refine jm_iconst (pc := 127) (v := 0) d_Ni_ruleHeld_127 ci_0 ?_
        exact jm_iret (pc := 128) (x := 0) d_Ni_ruleHeld_128 rfl (by decide) rfl rfl rfl
      · refine jm_iconst (pc := 123) (v := 1) d_Ni_ruleHeld_123 ci_1 ?_
        refine jm_goto (pc := 124) (tgt := 128) d_Ni_ruleHeld_124 (by decide) ?_
        exact jm_iret (pc := 128) (x := 1) d_Ni_ruleHeld_128 rfl (by decide) rfl rfl rfl
    · refine jm_aload_n (pc := 52) (q := 1) (x := 15) d_Ni_ruleHeld_52 rfl ?_
      refine jm_gr (pc := 53) (i := 15) d_Ni_ruleHeld_53 fo_Ni_77 sh_15 ge_15 le_15_78 rfl (fun _ => rfl) mr_154_15_2 ge_17 ?_
      refine jm_iload_n (pc := 56) (q := 2) (x := x2) d_Ni_ruleHeld_56 rfl ?_
      refine jm_iald (pc := 57) d_Ni_ruleHeld_57 sh_17 ge_17 le_17_78 (fun v5 => ?_)
      refine jm_iload (pc := 58) (q := 5) (x := x8) d_Ni_ruleHeld_58 rfl ?_
      refine jm_ishr (pc := 60) d_Ni_ruleHeld_60 ?_
      refine jm_iconst (pc := 61) (v := 1) d_Ni_ruleHeld_61 ci_1 ?_
      refine jm_iand (pc := 62) d_Ni_ruleHeld_62 ?_
      refine jm_if_eq (pc := 63) (tgt := 106) d_Ni_ruleHeld_63 (by decide) ?_ ?_
      · refine jm_iinc (pc := 106) (q := 5) (x := x8) (v := 1) (L2 := [(8, .int (x8 + 1)), (0, .ref 45), (1, .ref 15), (2, .int x2), (5, .long x5), (7, .int x7)]) d_Ni_ruleHeld_106 rfl ci_1 (Nat.le_of_ble_eq_true rfl) rfl ?_
        refine jm_goto (pc := 109) (tgt := 45) d_Ni_ruleHeld_109 (by decide) ?_
        refine jm_sub (L2 := [(0, .ref 45), (1, .ref 15), (2, .int x2), (5, .long x5), (7, .int x7), (8, .int (x8 + 1))]) [1, 2, 3, 4, 5, 0] rfl ?_
        exact ih x2 x5 x7 (x8 + 1)
      · refine jm_aload_n (pc := 66) (q := 0) (x := 45) d_Ni_ruleHeld_66 rfl ?_
        refine jm_gr (pc := 67) (i := 45) d_Ni_ruleHeld_67 fo_Ni_19 sh_45 ge_45 le_45_78 rfl (fun _ => rfl) mr_154_45_2 ge_47 ?_
        refine jm_iload (pc := 70) (q := 5) (x := x8) d_Ni_ruleHeld_70 rfl ?_
        refine jm_lald (pc := 72) d_Ni_ruleHeld_72 sh_47 ge_47 le_47_78 (fun v6 => ?_)
        refine jm_aload_n (pc := 73) (q := 1) (x := 15) d_Ni_ruleHeld_73 rfl ?_
        refine jm_gr (pc := 74) (i := 15) d_Ni_ruleHeld_74 fo_Ni_80 sh_15 ge_15 le_15_78 rfl (fun _ => rfl) mr_154_15_9 ge_24 ?_
        refine jm_iload_n (pc := 77) (q := 2) (x := x2) d_Ni_ruleHeld_77 rfl ?_
        refine jm_bipush (pc := 78) (v := 10) d_Ni_ruleHeld_78 cb_10 ?_
        refine jm_imul (pc := 80) d_Ni_ruleHeld_80 ?_
        refine jm_iload (pc := 81) (q := 5) (x := x8) d_Ni_ruleHeld_81 rfl ?_
        refine jm_iadd (pc := 83) d_Ni_ruleHeld_83 ?_
        refine jm_lald (pc := 84) d_Ni_ruleHeld_84 sh_24 ge_24 le_24_78 (fun v7 => ?_)
        refine jm_ldc2 (pc := 85) (v := (-1)) d_Ni_ruleHeld_85 kl_Ni_83 ?_
        refine jm_lxor (pc := 88) d_Ni_ruleHeld_88 ?_
        refine jm_land (pc := 89) d_Ni_ruleHeld_89 ?_
        refine jm_nvl (fun v8 => ?_)
        refine jm_lstore (pc := 90) (L2 := [(9, .long v8), (0, .ref 45), (1, .ref 15), (2, .int x2), (5, .long x5), (7, .int x7), (8, .int x8)]) d_Ni_ruleHeld_90 (Nat.le_of_ble_eq_true rfl) rfl ?_
        refine jm_lload (pc := 92) (q := 0) (x := v8) d_Ni_ruleHeld_92 rfl ?_
        refine jm_lload (pc := 94) (q := 4) (x := x5) d_Ni_ruleHeld_94 rfl ?_
        refine jm_land (pc := 96) d_Ni_ruleHeld_96 ?_
        refine jm_lload (pc := 97) (q := 4) (x := x5) d_Ni_ruleHeld_97 rfl ?_
        refine jm_lcmp (pc := 99) d_Ni_ruleHeld_99 ?_
        refine jm_if_ne (pc := 100) (tgt := 106) d_Ni_ruleHeld_100 (by decide) ?_ ?_
        · refine jm_iinc (pc := 103) (q := 5) (x := x7) (v := 1) (L2 := [(7, .int (x7 + 1)), (9, .long v8), (0, .ref 45), (1, .ref 15), (2, .int x2), (5, .long x5), (8, .int x8)]) d_Ni_ruleHeld_103 rfl ci_1 (Nat.le_of_ble_eq_true rfl) rfl ?_
          refine jm_iinc (pc := 106) (q := 6) (x := x8) (v := 1) (L2 := [(8, .int (x8 + 1)), (7, .int (x7 + 1)), (9, .long v8), (0, .ref 45), (1, .ref 15), (2, .int x2), (5, .long x5)]) d_Ni_ruleHeld_106 rfl ci_1 (Nat.le_of_ble_eq_true rfl) rfl ?_
          refine jm_goto (pc := 109) (tgt := 45) d_Ni_ruleHeld_109 (by decide) ?_
          refine jm_sub (L2 := [(0, .ref 45), (1, .ref 15), (2, .int x2), (5, .long x5), (7, .int (x7 + 1)), (8, .int (x8 + 1))]) [3, 4, 5, 6, 1, 0] rfl ?_
          exact ih x2 x5 (x7 + 1) (x8 + 1)
        · refine jm_iinc (pc := 106) (q := 6) (x := x8) (v := 1) (L2 := [(8, .int (x8 + 1)), (9, .long v8), (0, .ref 45), (1, .ref 15), (2, .int x2), (5, .long x5), (7, .int x7)]) d_Ni_ruleHeld_106 rfl ci_1 (Nat.le_of_ble_eq_true rfl) rfl ?_
          refine jm_goto (pc := 109) (tgt := 45) d_Ni_ruleHeld_109 (by decide) ?_
          refine jm_sub (L2 := [(0, .ref 45), (1, .ref 15), (2, .int x2), (5, .long x5), (7, .int x7), (8, .int (x8 + 1))]) [2, 3, 4, 5, 6, 0] rfl ?_
          exact ih x2 x5 x7 (x8 + 1)
def s_Ni_ruleHeld_45_15 (s : jm_M) (a1 : Int32) (a2 : Int32) : Option Int32 := (if a1 < 0 then (some 0) else (if a1 < 10 then jm_ldi s 19 10 a1 (fun v1 => jm_vi ((a2 - v1) + 1) (fun v2 => (if 0 ≤ v2 then jm_bd (s_X_minutesFrom s v2 a2) (fun v3 => s_Ni_ruleHeld_45_15_L45 s 5000 a1 v3 0 0) else (some 0)))) else (some 0)))
set_option maxRecDepth 100000 in
set_option maxHeartbeats 4000000 in
theorem s_Ni_ruleHeld_45_15_ok (s : jm_M) (a1 : Int32) (a2 : Int32) : jm_Sim mY_Ni_ruleHeld 0 0 0 [(0, .ref 45), (1, .ref 15), (2, .int a1), (3, .int a2)] [] 78 mr_154 s (s_Ni_ruleHeld_45_15 s a1 a2) (jm_rI 78 mr_154 s) := by
  unfold s_Ni_ruleHeld_45_15
  refine jm_iload_n (pc := 0) (q := 2) (x := a1) d_Ni_ruleHeld_0 rfl ?_
  refine jm_if_lt (pc := 1) (tgt := 10) d_Ni_ruleHeld_1 (by decide) ?_ ?_
  · refine jm_iconst (pc := 10) (v := 0) d_Ni_ruleHeld_10 ci_0 ?_
    exact jm_iret (pc := 11) (x := 0) d_Ni_ruleHeld_11 rfl (by decide) rfl rfl rfl
  · refine jm_iload_n (pc := 4) (q := 2) (x := a1) d_Ni_ruleHeld_4 rfl ?_
    refine jm_bipush (pc := 5) (v := 10) d_Ni_ruleHeld_5 cb_10 ?_
    refine jm_icmp_lt (pc := 7) (tgt := 12) d_Ni_ruleHeld_7 (by decide) ?_ ?_
    · refine jm_iload_n (pc := 12) (q := 3) (x := a2) d_Ni_ruleHeld_12 rfl ?_
      refine jm_aload_n (pc := 13) (q := 1) (x := 15) d_Ni_ruleHeld_13 rfl ?_
      refine jm_gr (pc := 14) (i := 15) d_Ni_ruleHeld_14 fo_Ni_70 sh_15 ge_15 le_15_78 rfl (fun _ => rfl) mr_154_15_4 ge_19 ?_
      refine jm_iload_n (pc := 17) (q := 2) (x := a1) d_Ni_ruleHeld_17 rfl ?_
      refine jm_iald (pc := 18) d_Ni_ruleHeld_18 sh_19 ge_19 le_19_78 (fun v1 => ?_)
      refine jm_isub (pc := 19) d_Ni_ruleHeld_19 ?_
      refine jm_iconst (pc := 20) (v := 1) d_Ni_ruleHeld_20 ci_1 ?_
      refine jm_iadd (pc := 21) d_Ni_ruleHeld_21 ?_
      refine jm_nvi (fun v2 => ?_)
      refine jm_istore (pc := 22) (L2 := [(4, .int v2), (0, .ref 45), (1, .ref 15), (2, .int a1), (3, .int a2)]) d_Ni_ruleHeld_22 (Nat.le_of_ble_eq_true rfl) rfl ?_
      refine jm_iload (pc := 24) (q := 0) (x := v2) d_Ni_ruleHeld_24 rfl ?_
      refine jm_if_ge (pc := 26) (tgt := 31) d_Ni_ruleHeld_26 (by decide) ?_ ?_
      · refine jm_iload (pc := 31) (q := 0) (x := v2) d_Ni_ruleHeld_31 rfl ?_
        refine jm_iload_n (pc := 33) (q := 4) (x := a2) d_Ni_ruleHeld_33 rfl ?_
        refine jm_Nl (pc := 34) (Y' := mY_X_minutesFrom) (avs := [.int v2, .int a2]) (rest := []) (s_X_minutesFrom_ok s v2 a2) ok_X_minutesFrom l0_Ni_ruleHeld__X_minutesFrom nl_Ni_73 sm_X_minutesFrom d_Ni_ruleHeld_34 rfl rfl (Nat.le_of_ble_eq_true rfl) (Nat.le_of_ble_eq_true rfl) (Nat.le_of_ble_eq_true rfl) (Nat.le_of_ble_eq_true rfl) (fun v3 => ?_)
        refine jm_lstore (pc := 37) (L2 := [(5, .long v3), (4, .int v2), (0, .ref 45), (1, .ref 15), (2, .int a1), (3, .int a2)]) d_Ni_ruleHeld_37 (Nat.le_of_ble_eq_true rfl) rfl ?_
        refine jm_iconst (pc := 39) (v := 0) d_Ni_ruleHeld_39 ci_0 ?_
        refine jm_istore (pc := 40) (L2 := [(7, .int 0), (5, .long v3), (4, .int v2), (0, .ref 45), (1, .ref 15), (2, .int a1), (3, .int a2)]) d_Ni_ruleHeld_40 (Nat.le_of_ble_eq_true rfl) rfl ?_
        refine jm_iconst (pc := 42) (v := 0) d_Ni_ruleHeld_42 ci_0 ?_
        refine jm_istore (pc := 43) (L2 := [(8, .int 0), (7, .int 0), (5, .long v3), (4, .int v2), (0, .ref 45), (1, .ref 15), (2, .int a1), (3, .int a2)]) d_Ni_ruleHeld_43 (Nat.le_of_ble_eq_true rfl) rfl ?_
        refine jm_sub (L2 := [(0, .ref 45), (1, .ref 15), (2, .int a1), (5, .long v3), (7, .int 0), (8, .int 0)]) [4, 5, 6, 2, 1, 0] rfl ?_
        exact s_Ni_ruleHeld_45_15_L45_ok s 5000 a1 v3 0 0
      · refine jm_iconst (pc := 29) (v := 0) d_Ni_ruleHeld_29 ci_0 ?_
        exact jm_iret (pc := 30) (x := 0) d_Ni_ruleHeld_30 rfl (by decide) rfl rfl rfl
    · refine jm_iconst (pc := 10) (v := 0) d_Ni_ruleHeld_10 ci_0 ?_
      exact jm_iret (pc := 11) (x := 0) d_Ni_ruleHeld_11 rfl (by decide) rfl rfl rfl
