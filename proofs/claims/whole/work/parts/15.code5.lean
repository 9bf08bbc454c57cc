theorem d_Z_seen_0 : decode (jm_cd mY_Z_seen) 0 = .ok (.iload_n 1, 1) := by decide +kernel
theorem d_Z_seen_1 : decode (jm_cd mY_Z_seen) 1 = .ok (.i2l, 1) := by decide +kernel
theorem d_Z_seen_2 : decode (jm_cd mY_Z_seen) 2 = .ok (.lconst 0, 1) := by decide +kernel
theorem d_Z_seen_3 : decode (jm_cd mY_Z_seen) 3 = .ok (.ldc2_w 147, 3) := by decide +kernel
theorem d_Z_seen_6 : decode (jm_cd mY_Z_seen) 6 = .ok (.invokestatic 69, 3) := by decide +kernel
theorem d_Z_seen_9 : decode (jm_cd mY_Z_seen) 9 = .ok (.ifCond .ne 5, 3) := by decide +kernel
theorem d_Z_seen_12 : decode (jm_cd mY_Z_seen) 12 = .ok (.iconst (-1), 1) := by decide +kernel
theorem d_Z_seen_13 : decode (jm_cd mY_Z_seen) 13 = .ok (.ireturn, 1) := by decide +kernel
theorem d_Z_seen_14 : decode (jm_cd mY_Z_seen) 14 = .ok (.aload_n 0, 1) := by decide +kernel
theorem d_Z_seen_15 : decode (jm_cd mY_Z_seen) 15 = .ok (.invokevirtual 165, 3) := by decide +kernel
theorem d_Z_seen_18 : decode (jm_cd mY_Z_seen) 18 = .ok (.aload_n 0, 1) := by decide +kernel
theorem d_Z_seen_19 : decode (jm_cd mY_Z_seen) 19 = .ok (.getfield 52, 3) := by decide +kernel
theorem d_Z_seen_22 : decode (jm_cd mY_Z_seen) 22 = .ok (.iload_n 1, 1) := by decide +kernel
theorem d_Z_seen_23 : decode (jm_cd mY_Z_seen) 23 = .ok (.iaload, 1) := by decide +kernel
theorem d_Z_seen_24 : decode (jm_cd mY_Z_seen) 24 = .ok (.ireturn, 1) := by decide +kernel
def s_Z_seen (s : jm_M) (a0 : Int32) : Option (Int32 × jm_M) := jm_bd (s_Z_in s a0.toInt64 0 59) (fun v1 => (if v1 = 0 then (some ((-1), s)) else jm_bd (s_Z_layNight s) (fun s2 => jm_ldi s2 74 60 a0 (fun v3 => (some (v3, s2))))))
set_option maxRecDepth 100000 in
set_option maxHeartbeats 4000000 in
theorem s_Z_seen_ok (s : jm_M) (a0 : Int32) : jm_Sim mY_Z_seen 0 0 0 [(0, .ref 59), (1, .int a0)] [] 78 mr_154 s (s_Z_seen s a0) (jm_rP 78 mr_154) := by
  unfold s_Z_seen
  refine jm_iload_n (pc := 0) (q := 1) (x := a0) d_Z_seen_0 rfl ?_
  refine jm_i2l (pc := 1) d_Z_seen_1 ?_
  refine jm_lconst (pc := 2) (v := 0) d_Z_seen_2 cl_0 ?_
  refine jm_ldc2 (pc := 3) (v := 59) d_Z_seen_3 kl_Z_147 ?_
  refine jm_Sp (pc := 6) (Y' := mY_Z_in) (avs := [.long a0.toInt64, .long 0, .long 59]) (rest := []) (s_Z_in_ok s a0.toInt64 0 59) ok_Z_in l0_Z_seen__Z_in ml_Z_69 sm_Z_in d_Z_seen_6 rfl rfl (Nat.le_of_ble_eq_true rfl) (Nat.le_of_ble_eq_true rfl) (Nat.le_of_ble_eq_true rfl) (Nat.le_of_ble_eq_true rfl) (fun v1 => ?_)
  refine jm_if_ne (pc := 9) (tgt := 14) d_Z_seen_9 (by decide) ?_ ?_
  · refine jm_iconst (pc := 12) (v := (-1)) d_Z_seen_12 ci_m1 ?_
    exact jm_iret (pc := 13) (x := (-1)) d_Z_seen_13 rfl rfl rfl rfl rfl
  · refine jm_aload_n (pc := 14) (q := 0) (x := 59) d_Z_seen_14 rfl ?_
    refine jm_Vv (pc := 15) (Y' := mY_Z_layNight) (i := 59) (avs := []) (rest := []) (s_Z_layNight_ok s) ok_Z_layNight l0_Z_seen__Z_layNight ml_Z_165 im_Z_layNight se_Z_layNight d_Z_seen_15 rfl sh_59 rfl rfl ge_59 le_59_78 rfl (Nat.le_of_ble_eq_true rfl) (Nat.le_of_ble_eq_true rfl) (Nat.le_of_ble_eq_true rfl) (Nat.le_of_ble_eq_true rfl) (fun s2 => ?_)
    refine jm_aload_n (pc := 18) (q := 0) (x := 59) d_Z_seen_18 rfl ?_
    refine jm_gr (pc := 19) (i := 59) d_Z_seen_19 fo_Z_52 sh_59 ge_59 le_59_78 rfl (fun _ => rfl) mr_154_59_20 ge_74 ?_
    refine jm_iload_n (pc := 22) (q := 1) (x := a0) d_Z_seen_22 rfl ?_
    refine jm_iald (pc := 23) d_Z_seen_23 sh_74 ge_74 le_74_78 (fun v3 => ?_)
    exact jm_iret (pc := 24) (x := v3) d_Z_seen_24 rfl rfl rfl rfl rfl
theorem d_X_wood_0 : decode (jm_cd mY_X_wood) 0 = .ok (.aload_n 0, 1) := by decide +kernel
theorem d_X_wood_1 : decode (jm_cd mY_X_wood) 1 = .ok (.getfield 31, 3) := by decide +kernel
theorem d_X_wood_4 : decode (jm_cd mY_X_wood) 4 = .ok (.iload_n 1, 1) := by decide +kernel
theorem d_X_wood_5 : decode (jm_cd mY_X_wood) 5 = .ok (.invokevirtual 93, 3) := by decide +kernel
theorem d_X_wood_8 : decode (jm_cd mY_X_wood) 8 = .ok (.ifCond .ne 5, 3) := by decide +kernel
theorem d_X_wood_11 : decode (jm_cd mY_X_wood) 11 = .ok (.iconst (-1), 1) := by decide +kernel
theorem d_X_wood_12 : decode (jm_cd mY_X_wood) 12 = .ok (.ireturn, 1) := by decide +kernel
theorem d_X_wood_13 : decode (jm_cd mY_X_wood) 13 = .ok (.aload_n 0, 1) := by decide +kernel
theorem d_X_wood_14 : decode (jm_cd mY_X_wood) 14 = .ok (.invokevirtual 131, 3) := by decide +kernel
theorem d_X_wood_17 : decode (jm_cd mY_X_wood) 17 = .ok (.aload_n 0, 1) := by decide +kernel
theorem d_X_wood_18 : decode (jm_cd mY_X_wood) 18 = .ok (.getfield 46, 3) := by decide +kernel
theorem d_X_wood_21 : decode (jm_cd mY_X_wood) 21 = .ok (.getfield 138, 3) := by decide +kernel
theorem d_X_wood_24 : decode (jm_cd mY_X_wood) 24 = .ok (.iload_n 1, 1) := by decide +kernel
theorem d_X_wood_25 : decode (jm_cd mY_X_wood) 25 = .ok (.iaload, 1) := by decide +kernel
theorem d_X_wood_26 : decode (jm_cd mY_X_wood) 26 = .ok (.ireturn, 1) := by decide +kernel
def s_X_wood (s : jm_M) (a0 : Int32) : Option (Int32 × jm_M) := jm_bd (s_Ne_isHill_15 s a0) (fun v1 => (if v1 = 0 then (some ((-1), s)) else jm_bd (s_X_playNight s) (fun s2 => jm_ldi s2 46 10 a0 (fun v3 => (some (v3, s2))))))
set_option maxRecDepth 100000 in
set_option maxHeartbeats 4000000 in
theorem s_X_wood_ok (s : jm_M) (a0 : Int32) : jm_Sim mY_X_wood 0 0 0 [(0, .ref 1), (1, .int a0)] [] 78 mr_154 s (s_X_wood s a0) (jm_rP 78 mr_154) := by
  unfold s_X_wood
  refine jm_aload_n (pc := 0) (q := 0) (x := 1) d_X_wood_0 rfl ?_
  refine jm_gr (pc := 1) (i := 1) d_X_wood_1 fo_X_31 sh_1 ge_1 le_1_78 rfl (fun _ => rfl) mr_154_1_4 ge_15 ?_
  refine jm_iload_n (pc := 4) (q := 1) (x := a0) d_X_wood_4 rfl ?_
  refine jm_Vp (pc := 5) (Y' := mY_Ne_isHill) (i := 15) (avs := [.int a0]) (rest := []) (s_Ne_isHill_15_ok s a0) ok_Ne_isHill l0_X_wood__Ne_isHill ml_X_93 im_Ne_isHill se_Ne_isHill d_X_wood_5 rfl sh_15 rfl rfl ge_15 le_15_78 rfl (Nat.le_of_ble_eq_true rfl) (Nat.le_of_ble_eq_true rfl) (Nat.le_of_ble_eq_true rfl) (Nat.le_of_ble_eq_true rfl) (fun v1 => ?_)
  refine jm_if_ne (pc := 8) (tgt := 13) d_X_wood_8 (by decide) ?_ ?_
  · refine jm_iconst (pc := 11) (v := (-1)) d_X_wood_11 ci_m1 ?_
    exact jm_iret (pc := 12) (x := (-1)) d_X_wood_12 rfl rfl rfl rfl rfl
  · refine jm_aload_n (pc := 13) (q := 0) (x := 1) d_X_wood_13 rfl ?_
    refine jm_Vv (pc := 14) (Y' := mY_X_playNight) (i := 1) (avs := []) (rest := []) (s_X_playNight_ok s) ok_X_playNight l0_X_wood__X_playNight ml_X_131 im_X_playNight se_X_playNight d_X_wood_14 rfl sh_1 rfl rfl ge_1 le_1_78 rfl (Nat.le_of_ble_eq_true rfl) (Nat.le_of_ble_eq_true rfl) (Nat.le_of_ble_eq_true rfl) (Nat.le_of_ble_eq_true rfl) (fun s2 => ?_)
    refine jm_aload_n (pc := 17) (q := 0) (x := 1) d_X_wood_17 rfl ?_
    refine jm_gr (pc := 18) (i := 1) d_X_wood_18 fo_X_46 sh_1 ge_1 le_1_78 rfl (fun _ => rfl) mr_154_1_8 ge_45 ?_
    refine jm_gr (pc := 21) (i := 45) d_X_wood_21 fo_X_138 sh_45 ge_45 le_45_78 rfl (fun _ => rfl) mr_154_45_0 ge_46 ?_
    refine jm_iload_n (pc := 24) (q := 1) (x := a0) d_X_wood_24 rfl ?_
    refine jm_iald (pc := 25) d_X_wood_25 sh_46 ge_46 le_46_78 (fun v3 => ?_)
    exact jm_iret (pc := 26) (x := v3) d_X_wood_26 rfl rfl rfl rfl rfl
theorem d_Z_wood_0 : decode (jm_cd mY_Z_wood) 0 = .ok (.aload_n 0, 1) := by decide +kernel
theorem d_Z_wood_1 : decode (jm_cd mY_Z_wood) 1 = .ok (.iload_n 1, 1) := by decide +kernel
theorem d_Z_wood_2 : decode (jm_cd mY_Z_wood) 2 = .ok (.invokevirtual 138, 3) := by decide +kernel
theorem d_Z_wood_5 : decode (jm_cd mY_Z_wood) 5 = .ok (.ifCond .ne 5, 3) := by decide +kernel
theorem d_Z_wood_8 : decode (jm_cd mY_Z_wood) 8 = .ok (.iconst (-1), 1) := by decide +kernel
theorem d_Z_wood_9 : decode (jm_cd mY_Z_wood) 9 = .ok (.ireturn, 1) := by decide +kernel
theorem d_Z_wood_10 : decode (jm_cd mY_Z_wood) 10 = .ok (.aload_n 0, 1) := by decide +kernel
theorem d_Z_wood_11 : decode (jm_cd mY_Z_wood) 11 = .ok (.invokevirtual 165, 3) := by decide +kernel
theorem d_Z_wood_14 : decode (jm_cd mY_Z_wood) 14 = .ok (.aload_n 0, 1) := by decide +kernel
theorem d_Z_wood_15 : decode (jm_cd mY_Z_wood) 15 = .ok (.getfield 55, 3) := by decide +kernel
theorem d_Z_wood_18 : decode (jm_cd mY_Z_wood) 18 = .ok (.iload_n 1, 1) := by decide +kernel
theorem d_Z_wood_19 : decode (jm_cd mY_Z_wood) 19 = .ok (.iaload, 1) := by decide +kernel
theorem d_Z_wood_20 : decode (jm_cd mY_Z_wood) 20 = .ok (.ireturn, 1) := by decide +kernel
def s_Z_wood (s : jm_M) (a0 : Int32) : Option (Int32 × jm_M) := jm_bd (s_Z_isHill s a0) (fun v1 => (if v1 = 0 then (some ((-1), s)) else jm_bd (s_Z_layNight s) (fun s2 => jm_ldi s2 75 10 a0 (fun v3 => (some (v3, s2))))))
set_option maxRecDepth 100000 in
set_option maxHeartbeats 4000000 in
theorem s_Z_wood_ok (s : jm_M) (a0 : Int32) : jm_Sim mY_Z_wood 0 0 0 [(0, .ref 59), (1, .int a0)] [] 78 mr_154 s (s_Z_wood s a0) (jm_rP 78 mr_154) := by
  unfold s_Z_wood
  refine jm_aload_n (pc := 0) (q := 0) (x := 59) d_Z_wood_0 rfl ?_
  refine jm_iload_n (pc := 1) (q := 1) (x := a0) d_Z_wood_1 rfl ?_
  refine jm_Vp (pc := 2) (Y' := mY_Z_isHill) (i := 59) (avs := [.int a0]) (rest := []) (s_Z_isHill_ok s a0) ok_Z_isHill l0_Z_wood__Z_isHill ml_Z_138 im_Z_isHill se_Z_isHill d_Z_wood_2 rfl sh_59 rfl rfl ge_59 le_59_78 rfl (Nat.le_of_ble_eq_true rfl) (Nat.le_of_ble_eq_true rfl) (Nat.le_of_ble_eq_true rfl) (Nat.le_of_ble_eq_true rfl) (fun v1 => ?_)
  refine jm_if_ne (pc := 5) (tgt := 10) d_Z_wood_5 (by decide) ?_ ?_
  · refine jm_iconst (pc := 8) (v := (-1)) d_Z_wood_8 ci_m1 ?_
    exact jm_iret (pc := 9) (x := (-1)) d_Z_wood_9 rfl rfl rfl rfl rfl
  · refine jm_aload_n (pc := 10) (q := 0) (x := 59) d_Z_wood_10 rfl ?_
    refine jm_Vv (pc := 11) (Y' := mY_Z_layNight) (i := 59) (avs := []) (rest := []) (s_Z_layNight_ok s) ok_Z_layNight l0_Z_wood__Z_layNight ml_Z_165 im_Z_layNight se_Z_layNight d_Z_wood_11 rfl sh_59 rfl rfl ge_59 le_59_78 rfl (Nat.le_of_ble_eq_true rfl) (Nat.le_of_ble_eq_true rfl) (Nat.le_of_ble_eq_true rfl) (Nat.le_of_ble_eq_true rfl) (fun s2 => ?_)
    refine jm_aload_n (pc := 14) (q := 0) (x := 59) d_Z_wood_14 rfl ?_
    refine jm_gr (pc := 15) (i := 59) d_Z_wood_15 fo_Z_55 sh_59 ge_59 le_59_78 rfl (fun _ => rfl) mr_154_59_21 ge_75 ?_
    refine jm_iload_n (pc := 18) (q := 1) (x := a0) d_Z_wood_18 rfl ?_
    refine jm_iald (pc := 19) d_Z_wood_19 sh_75 ge_75 le_75_78 (fun v3 => ?_)
    exact jm_iret (pc := 20) (x := v3) d_Z_wood_20 rfl rfl rfl rfl rfl
def s_Ne_hasEar_15 (s : jm_M) : Option Int32 := jm_bd (s_Ne_ofKind_15 s 2) (fun v1 => (if v1 = 0 then (some 0) else (some 1)))
set_option maxRecDepth 100000 in
set_option maxHeartbeats 4000000 in
theorem s_Ne_hasEar_15_ok (s : jm_M) : jm_Sim mY_Ne_hasEar 0 0 0 [(0, .ref 15)] [] 78 mr_154 s (s_Ne_hasEar_15 s) (jm_rI 78 mr_154 s) := by
  unfold s_Ne_hasEar_15
  refine jm_aload_n (pc := 0) (q := 0) (x := 15) d_Ne_hasEar_0 rfl ?_
  refine jm_iconst (pc := 1) (v := 2) d_Ne_hasEar_1 ci_2 ?_
  refine jm_Vp (pc := 2) (Y' := mY_Ne_ofKind) (i := 15) (avs := [.int 2]) (rest := []) (s_Ne_ofKind_15_ok s 2) ok_Ne_ofKind l0_Ne_hasEar__Ne_ofKind ml_Ne_54 im_Ne_ofKind se_Ne_ofKind d_Ne_hasEar_2 rfl sh_15 rfl rfl ge_15 le_15_78 rfl (Nat.le_of_ble_eq_true rfl) (Nat.le_of_ble_eq_true rfl) (Nat.le_of_ble_eq_true rfl) (Nat.le_of_ble_eq_true rfl) (fun v1 => ?_)
  refine jm_if_eq (pc := 5) (tgt := 12) d_Ne_hasEar_5 (by decide) ?_ ?_
  · refine jm_iconst (pc := 12) (v := 0) d_Ne_hasEar_12 ci_0 ?_
    exact jm_iret (pc := 13) (x := 0) d_Ne_hasEar_13 rfl (by decide) rfl rfl rfl
  · refine jm_iconst (pc := 8) (v := 1) d_Ne_hasEar_8 ci_1 ?_
    refine jm_goto (pc := 9) (tgt := 13) d_Ne_hasEar_9 (by decide) ?_
    exact jm_iret (pc := 13) (x := 1) d_Ne_hasEar_13 rfl (by decide) rfl rfl rfl
theorem d_X_alarm_0 : decode (jm_cd mY_X_alarm) 0 = .ok (.aload_n 0, 1) := by decide +kernel
theorem d_X_alarm_1 : decode (jm_cd mY_X_alarm) 1 = .ok (.getfield 31, 3) := by decide +kernel
theorem d_X_alarm_4 : decode (jm_cd mY_X_alarm) 4 = .ok (.invokevirtual 141, 3) := by decide +kernel
theorem d_X_alarm_7 : decode (jm_cd mY_X_alarm) 7 = .ok (.ifCond .ne 6, 3) := by decide +kernel
theorem d_X_alarm_10 : decode (jm_cd mY_X_alarm) 10 = .ok (.bipush (-2), 2) := by decide +kernel
theorem d_X_alarm_12 : decode (jm_cd mY_X_alarm) 12 = .ok (.ireturn, 1) := by decide +kernel
theorem d_X_alarm_13 : decode (jm_cd mY_X_alarm) 13 = .ok (.aload_n 0, 1) := by decide +kernel
theorem d_X_alarm_14 : decode (jm_cd mY_X_alarm) 14 = .ok (.invokevirtual 131, 3) := by decide +kernel
theorem d_X_alarm_17 : decode (jm_cd mY_X_alarm) 17 = .ok (.aload_n 0, 1) := by decide +kernel
theorem d_X_alarm_18 : decode (jm_cd mY_X_alarm) 18 = .ok (.getfield 46, 3) := by decide +kernel
theorem d_X_alarm_21 : decode (jm_cd mY_X_alarm) 21 = .ok (.getfield 145, 3) := by decide +kernel
theorem d_X_alarm_24 : decode (jm_cd mY_X_alarm) 24 = .ok (.ireturn, 1) := by decide +kernel
def s_X_alarm (s : jm_M) : Option (Int32 × jm_M) := jm_bd (s_Ne_hasEar_15 s) (fun v1 => (if v1 = 0 then (some ((-2), s)) else jm_bd (s_X_playNight s) (fun s2 => (some (s2.1 45 1, s2)))))
set_option maxRecDepth 100000 in
set_option maxHeartbeats 4000000 in
theorem s_X_alarm_ok (s : jm_M) : jm_Sim mY_X_alarm 0 0 0 [(0, .ref 1)] [] 78 mr_154 s (s_X_alarm s) (jm_rP 78 mr_154) := by
  unfold s_X_alarm
  refine jm_aload_n (pc := 0) (q := 0) (x := 1) d_X_alarm_0 rfl ?_
  refine jm_gr (pc := 1) (i := 1) d_X_alarm_1 fo_X_31 sh_1 ge_1 le_1_78 rfl (fun _ => rfl) mr_154_1_4 ge_15 ?_
  refine jm_Vp (pc := 4) (Y' := mY_Ne_hasEar) (i := 15) (avs := []) (rest := []) (s_Ne_hasEar_15_ok s) ok_Ne_hasEar l0_X_alarm__Ne_hasEar ml_X_141 im_Ne_hasEar se_Ne_hasEar d_X_alarm_4 rfl sh_15 rfl rfl ge_15 le_15_78 rfl (Nat.le_of_ble_eq_true rfl) (Nat.le_of_ble_eq_true rfl) (Nat.le_of_ble_eq_true rfl) (Nat.le_of_ble_eq_true rfl) (fun v1 => ?_)
  refine jm_if_ne (pc := 7) (tgt := 13) d_X_alarm_7 (by decide) ?_ ?_
  · refine jm_bipush (pc := 10) (v := (-2)) d_X_alarm_10 cb_m2 ?_
    exact jm_iret (pc := 12) (x := (-2)) d_X_alarm_12 rfl rfl rfl rfl rfl
  · refine jm_aload_n (pc := 13) (q := 0) (x := 1) d_X_alarm_13 rfl ?_
    refine jm_Vv (pc := 14) (Y' := mY_X_playNight) (i := 1) (avs := []) (rest := []) (s_X_playNight_ok s) ok_X_playNight l0_X_alarm__X_playNight ml_X_131 im_X_playNight se_X_playNight d_X_alarm_14 rfl sh_1 rfl rfl ge_1 le_1_78 rfl (Nat.le_of_ble_eq_true rfl) (Nat.le_of_ble_eq_true rfl) (Nat.le_of_ble_eq_true rfl) (Nat.le_of_ble_eq_true rfl) (fun s2 => ?_)
    refine jm_aload_n (pc := 17) (q := 0) (x := 1) d_X_alarm_17 rfl ?_
    refine jm_gr (pc := 18) (i := 1) d_X_alarm_18 fo_X_46 sh_1 ge_1 le_1_78 rfl (fun _ => rfl) mr_154_1_8 ge_45 ?_
    refine jm_gi (pc := 21) (i := 45) d_X_alarm_21 fo_X_145 sh_45 ge_45 le_45_78 rfl (fun _ => rfl) ?_
    exact jm_iret (pc := 24) (x := s2.1 45 1) d_X_alarm_24 rfl rfl rfl rfl rfl
theorem d_Z_ear_0 : decode (jm_cd mY_Z_ear) 0 = .ok (.iconst 0, 1) := by decide +kernel
theorem d_Z_ear_1 : decode (jm_cd mY_Z_ear) 1 = .ok (.istore_n 1, 1) := by decide +kernel
theorem d_Z_ear_2 : decode (jm_cd mY_Z_ear) 2 = .ok (.iload_n 1, 1) := by decide +kernel
theorem d_Z_ear_3 : decode (jm_cd mY_Z_ear) 3 = .ok (.aload_n 0, 1) := by decide +kernel
theorem d_Z_ear_4 : decode (jm_cd mY_Z_ear) 4 = .ok (.getfield 13, 3) := by decide +kernel
theorem d_Z_ear_7 : decode (jm_cd mY_Z_ear) 7 = .ok (.iconst 0, 1) := by decide +kernel
theorem d_Z_ear_8 : decode (jm_cd mY_Z_ear) 8 = .ok (.iaload, 1) := by decide +kernel
theorem d_Z_ear_9 : decode (jm_cd mY_Z_ear) 9 = .ok (.if_icmp .ge 21, 3) := by decide +kernel
theorem d_Z_ear_12 : decode (jm_cd mY_Z_ear) 12 = .ok (.aload_n 0, 1) := by decide +kernel
theorem d_Z_ear_13 : decode (jm_cd mY_Z_ear) 13 = .ok (.getfield 16, 3) := by decide +kernel
theorem d_Z_ear_16 : decode (jm_cd mY_Z_ear) 16 = .ok (.iload_n 1, 1) := by decide +kernel
theorem d_Z_ear_17 : decode (jm_cd mY_Z_ear) 17 = .ok (.iaload, 1) := by decide +kernel
theorem d_Z_ear_18 : decode (jm_cd mY_Z_ear) 18 = .ok (.iconst 2, 1) := by decide +kernel
theorem d_Z_ear_19 : decode (jm_cd mY_Z_ear) 19 = .ok (.if_icmp .ne 5, 3) := by decide +kernel
theorem d_Z_ear_22 : decode (jm_cd mY_Z_ear) 22 = .ok (.iload_n 1, 1) := by decide +kernel
theorem d_Z_ear_23 : decode (jm_cd mY_Z_ear) 23 = .ok (.ireturn, 1) := by decide +kernel
theorem d_Z_ear_24 : decode (jm_cd mY_Z_ear) 24 = .ok (.iinc 1 1, 3) := by decide +kernel
theorem d_Z_ear_27 : decode (jm_cd mY_Z_ear) 27 = .ok (.goto (-25), 3) := by decide +kernel
theorem d_Z_ear_30 : decode (jm_cd mY_Z_ear) 30 = .ok (.bipush (-4), 2) := by decide +kernel
theorem d_Z_ear_32 : decode (jm_cd mY_Z_ear) 32 = .ok (.ireturn, 1) := by decide +kernel
def s_Z_ear_L2 (s : jm_M) : Nat → Int32 → Option Int32
  | 0, _ => none
  | n + 1, x1 => jm_ldi s 61 4 0 (fun v1 => (if v1 ≤ x1 then (some (-4)) else jm_ldi s 62 40 x1 (fun v2 => (if v2 = 2 then (some x1) else s_Z_ear_L2 s n (x1 + 1)))))
set_option maxRecDepth 100000 in
set_option maxHeartbeats 4000000 in
theorem s_Z_ear_L2_ok (s : jm_M) : ∀ (n : Nat) (x1 : Int32), jm_Sim mY_Z_ear 0 0 2 [(0, .ref 59), (1, .int x1)] [] 78 mr_154 s (s_Z_ear_L2 s n x1) (jm_rI 78 mr_154 s) := by
  intro n
  induction n with
  | zero => intro x1; exact jm_none
  | succ n ih =>
    intro x1
    rw [s_Z_ear_L2]
    refine jm_iload_n (pc := 2) (q := 1) (x := x1) d_Z_ear_2 rfl ?_
    refine jm_aload_n (pc := 3) (q := 0) (x := 59) d_Z_ear_3 rfl ?_
    refine jm_gr (pc := 4) (i := 59) d_Z_ear_4 fo_Z_13 sh_59 ge_59 le_59_78 rfl (fun _ => rfl) mr_154_59_2 ge_61 ?_
    refine jm_iconst (pc := 7) (v := 0) d_Z_ear_7 ci_0 ?_
    refine jm_iald (pc := 8) d_Z_ear_8 sh_61 ge_61 le_61_78 (fun v1 => ?_)
    refine jm_icmp_ge (pc := 9) (tgt := 30) d_Z_ear_9 (by decide) ?_ ?_
    · refine jm_bipush (pc := 30) (v := (-4)) d_Z_ear_30 cb_m4 ?_
      exact jm_iret (pc := 32) (x := (-4)) d_Z_ear_32 rfl rfl rfl rfl rfl
    · refine jm_aload_n (pc := 12) (q := 0) (x := 59) d_Z_ear_12 rfl ?_
      refine jm_gr (pc := 13) (i := 59) d_Z_ear_13 fo_Z_16 sh_59 ge_59 le_59_78 rfl (fun _ => rfl) mr_154_59_3 ge_62 ?_
      refine jm_iload_n (pc := 16) (q := 1) (x := x1) d_Z_ear_16 rfl ?_
      refine jm_iald (pc := 17) d_Z_ear_17 sh_62 ge_62 le_62_78 (fun v2 => ?_)
      refine jm_iconst (pc := 18) (v := 2) d_Z_ear_18 ci_2 ?_
      refine jm_icmp_ne (pc := 19) (tgt := 24) d_Z_ear_19 (by decide) ?_ ?_
      · refine jm_iload_n (pc := 22) (q := 1) (x := x1) d_Z_ear_22 rfl ?_
        exact jm_iret (pc := 23) (x := x1) d_Z_ear_23 rfl rfl rfl rfl rfl
      · refine jm_iinc (pc := 24) (q := 1) (x := x1) (v := 1) (L2 := [(1, .int (x1 + 1)), (0, .ref 59)]) d_Z_ear_24 rfl ci_1 (Nat.le_of_ble_eq_true rfl) rfl ?_
        refine jm_goto (pc := 27) (tgt := 2) d_Z_ear_27 (by decide) ?_
        refine jm_sub (L2 := [(0, .ref 59), (1, .int (x1 + 1))]) [1, 0] rfl ?_
        exact ih (x1 + 1)
def s_Z_ear (s : jm_M) : Option Int32 := s_Z_ear_L2 s 5000 0
set_option maxRecDepth 100000 in
set_option maxHeartbeats 4000000 in
theorem s_Z_ear_ok (s : jm_M) : jm_Sim mY_Z_ear 0 0 0 [(0, .ref 59)] [] 78 mr_154 s (s_Z_ear s) (jm_rI 78 mr_154 s) := by
  unfold s_Z_ear
  refine jm_iconst (pc := 0) (v := 0) d_Z_ear_0 ci_0 ?_
  refine jm_istore_n (pc := 1) (i := 1) (L2 := [(1, .int 0), (0, .ref 59)]) d_Z_ear_1 rfl (Nat.le_of_ble_eq_true rfl) rfl ?_
  refine jm_sub (L2 := [(0, .ref 59), (1, .int 0)]) [1, 0] rfl ?_
  exact s_Z_ear_L2_ok s 5000 0
theorem d_Z_alarm_0 : decode (jm_cd mY_Z_alarm) 0 = .ok (.aload_n 0, 1) := by decide +kernel
theorem d_Z_alarm_1 : decode (jm_cd mY_Z_alarm) 1 = .ok (.invokevirtual 168, 3) := by decide +kernel
theorem d_Z_alarm_4 : decode (jm_cd mY_Z_alarm) 4 = .ok (.istore_n 1, 1) := by decide +kernel
theorem d_Z_alarm_5 : decode (jm_cd mY_Z_alarm) 5 = .ok (.iload_n 1, 1) := by decide +kernel
theorem d_Z_alarm_6 : decode (jm_cd mY_Z_alarm) 6 = .ok (.bipush (-4), 2) := by decide +kernel
theorem d_Z_alarm_8 : decode (jm_cd mY_Z_alarm) 8 = .ok (.if_icmp .ne 6, 3) := by decide +kernel
theorem d_Z_alarm_11 : decode (jm_cd mY_Z_alarm) 11 = .ok (.bipush (-2), 2) := by decide +kernel
theorem d_Z_alarm_13 : decode (jm_cd mY_Z_alarm) 13 = .ok (.ireturn, 1) := by decide +kernel
theorem d_Z_alarm_14 : decode (jm_cd mY_Z_alarm) 14 = .ok (.aload_n 0, 1) := by decide +kernel
theorem d_Z_alarm_15 : decode (jm_cd mY_Z_alarm) 15 = .ok (.invokevirtual 165, 3) := by decide +kernel
theorem d_Z_alarm_18 : decode (jm_cd mY_Z_alarm) 18 = .ok (.iconst 0, 1) := by decide +kernel
theorem d_Z_alarm_19 : decode (jm_cd mY_Z_alarm) 19 = .ok (.istore_n 2, 1) := by decide +kernel
theorem d_Z_alarm_20 : decode (jm_cd mY_Z_alarm) 20 = .ok (.iload_n 2, 1) := by decide +kernel
theorem d_Z_alarm_21 : decode (jm_cd mY_Z_alarm) 21 = .ok (.bipush 60, 2) := by decide +kernel
theorem d_Z_alarm_23 : decode (jm_cd mY_Z_alarm) 23 = .ok (.if_icmp .ge 31, 3) := by decide +kernel
theorem d_Z_alarm_26 : decode (jm_cd mY_Z_alarm) 26 = .ok (.aload_n 0, 1) := by decide +kernel
theorem d_Z_alarm_27 : decode (jm_cd mY_Z_alarm) 27 = .ok (.iload_n 1, 1) := by decide +kernel
theorem d_Z_alarm_28 : decode (jm_cd mY_Z_alarm) 28 = .ok (.iload_n 2, 1) := by decide +kernel
theorem d_Z_alarm_29 : decode (jm_cd mY_Z_alarm) 29 = .ok (.invokevirtual 159, 3) := by decide +kernel
theorem d_Z_alarm_32 : decode (jm_cd mY_Z_alarm) 32 = .ok (.ifCond .eq 16, 3) := by decide +kernel
theorem d_Z_alarm_35 : decode (jm_cd mY_Z_alarm) 35 = .ok (.aload_n 0, 1) := by decide +kernel
theorem d_Z_alarm_36 : decode (jm_cd mY_Z_alarm) 36 = .ok (.bipush 115, 2) := by decide +kernel
theorem d_Z_alarm_38 : decode (jm_cd mY_Z_alarm) 38 = .ok (.iload_n 1, 1) := by decide +kernel
theorem d_Z_alarm_39 : decode (jm_cd mY_Z_alarm) 39 = .ok (.iload_n 2, 1) := by decide +kernel
theorem d_Z_alarm_40 : decode (jm_cd mY_Z_alarm) 40 = .ok (.invokevirtual 156, 3) := by decide +kernel
theorem d_Z_alarm_43 : decode (jm_cd mY_Z_alarm) 43 = .ok (.ifCond .ne 5, 3) := by decide +kernel
theorem d_Z_alarm_46 : decode (jm_cd mY_Z_alarm) 46 = .ok (.iload_n 2, 1) := by decide +kernel
theorem d_Z_alarm_47 : decode (jm_cd mY_Z_alarm) 47 = .ok (.ireturn, 1) := by decide +kernel
theorem d_Z_alarm_48 : decode (jm_cd mY_Z_alarm) 48 = .ok (.iinc 2 1, 3) := by decide +kernel
theorem d_Z_alarm_51 : decode (jm_cd mY_Z_alarm) 51 = .ok (.goto (-31), 3) := by decide +kernel
theorem d_Z_alarm_54 : decode (jm_cd mY_Z_alarm) 54 = .ok (.bipush (-4), 2) := by decide +kernel
theorem d_Z_alarm_56 : decode (jm_cd mY_Z_alarm) 56 = .ok (.ireturn, 1) := by decide +kernel
def s_Z_alarm_L20 : Nat → Int32 → Int32 → jm_M → Option (Int32 × jm_M)
  | 0, _, _, _ => none
  | n + 1, x1, x2, s => (if 60 ≤ x2 then (some ((-4), s)) else jm_bd (s_Z_held s x1 x2) (fun v3 => (if v3 = 0 then s_Z_alarm_L20 n x1 (x2 + 1) s else jm_bd (s_Z_isTold s 115 x1 x2) (fun v4 => (if v4 = 0 then (some (x2, s)) else s_Z_alarm_L20 n x1 (x2 + 1) s)))))
set_option maxRecDepth 100000 in
set_option maxHeartbeats 4000000 in
theorem s_Z_alarm_L20_ok : ∀ (n : Nat) (x1 : Int32) (x2 : Int32) (s : jm_M), jm_Sim mY_Z_alarm 0 0 20 [(0, .ref 59), (1, .int x1), (2, .int x2)] [] 78 mr_154 s (s_Z_alarm_L20 n x1 x2 s) (jm_rP 78 mr_154) := by
  intro n
  induction n with
  | zero => intro x1 x2 s; exact jm_none
  | succ n ih =>
    intro x1 x2 s
    rw [s_Z_alarm_L20]
    refine jm_iload_n (pc := 20) (q := 2) (x := x2) d_Z_alarm_20 rfl ?_
    refine jm_bipush (pc := 21) (v := 60) d_Z_alarm_21 cb_60 ?_
    refine jm_icmp_ge (pc := 23) (tgt := 54) d_Z_alarm_23 (by decide) ?_ ?_
    · refine jm_bipush (pc := 54) (v := (-4)) d_Z_alarm_54 cb_m4 ?_
      exact jm_iret (pc := 56) (x := (-4)) d_Z_alarm_56 rfl rfl rfl rfl rfl
    · refine jm_aload_n (pc := 26) (q := 0) (x := 59) d_Z_alarm_26 rfl ?_
      refine jm_iload_n (pc := 27) (q := 1) (x := x1) d_Z_alarm_27 rfl ?_
      refine jm_iload_n (pc := 28) (q := 2) (x := x2) d_Z_alarm_28 rfl ?_
      refine jm_Vp (pc := 29) (Y' := mY_Z_held) (i := 59) (avs := [.int x1, .int x2]) (rest := []) (s_Z_held_ok s x1 x2) ok_Z_held l0_Z_alarm__Z_held ml_Z_159 im_Z_held se_Z_held d_Z_alarm_29 rfl sh_59 rfl rfl ge_59 le_59_78 rfl (Nat.le_of_ble_eq_true rfl) (Nat.le_of_ble_eq_true rfl) (Nat.le_of_ble_eq_true rfl) (Nat.le_of_ble_eq_true rfl) (fun v3 => ?_)
      refine jm_if_eq (pc := 32) (tgt := 48) d_Z_alarm_32 (by decide) ?_ ?_
      · refine jm_iinc (pc := 48) (q := 2) (x := x2) (v := 1) (L2 := [(2, .int (x2 + 1)), (0, .ref 59), (1, .int x1)]) d_Z_alarm_48 rfl ci_1 (Nat.le_of_ble_eq_true rfl) rfl ?_
        refine jm_goto (pc := 51) (tgt := 20) d_Z_alarm_51 (by decide) ?_
        refine jm_sub (L2 := [(0, .ref 59), (1, .int x1), (2, .int (x2 + 1))]) [1, 2, 0] rfl ?_
        exact ih x1 (x2 + 1) s
      · refine jm_aload_n (pc := 35) (q := 0) (x := 59) d_Z_alarm_35 rfl ?_
        refine jm_bipush (pc := 36) (v := 115) d_Z_alarm_36 cb_115 ?_
        refine jm_iload_n (pc := 38) (q := 1) (x := x1) d_Z_alarm_38 rfl ?_
        refine jm_iload_n (pc := 39) (q := 2) (x := x2) d_Z_alarm_39 rfl ?_
        refine jm_Vp (pc := 40) (Y' := mY_Z_isTold) (i := 59) (avs := [.int 115, .int x1, .int x2]) (rest := []) (s_Z_isTold_ok s 115 x1 x2) ok_Z_isTold l0_Z_alarm__Z_isTold ml_Z_156 im_Z_isTold se_Z_isTold d_Z_alarm_40 rfl sh_59 rfl rfl ge_59 le_59_78 rfl (Nat.le_of_ble_eq_true rfl) (Nat.le_of_ble_eq_true rfl) (Nat.le_of_ble_eq_true rfl) (Nat.le_of_ble_eq_true rfl) (fun v4 => ?_)
        refine jm_if_ne (pc := 43) (tgt := 48) d_Z_alarm_43 (by decide) ?_ ?_
        · refine jm_iload_n (pc := 46) (q := 2) (x := x2) d_Z_alarm_46 rfl ?_
          exact jm_iret (pc := 47) (x := x2) d_Z_alarm_47 rfl rfl rfl rfl rfl
        · refine jm_iinc (pc := 48) (q := 2) (x := x2) (v := 1) (L2 := [(2, .int (x2 + 1)), (0, .ref 59), (1, .int x1)]) d_Z_alarm_48 rfl ci_1 (Nat.le_of_ble_eq_true rfl) rfl ?_
          refine jm_goto (pc := 51) (tgt := 20) d_Z_alarm_51 (by decide) ?_
          refine jm_sub (L2 := [(0, .ref 59), (1, .int x1), (2, .int (x2 + 1))]) [1, 2, 0] rfl ?_
          exact ih x1 (x2 + 1) s
def s_Z_alarm (s : jm_M) : Option (Int32 × jm_M) := jm_bd (s_Z_ear s) (fun v1 => (if v1 = (-4) then (some ((-2), s)) else jm_bd (s_Z_layNight s) (fun s2 => s_Z_alarm_L20 5000 v1 0 s2)))
set_option maxRecDepth 100000 in
set_option maxHeartbeats 4000000 in
theorem s_Z_alarm_ok (s : jm_M) : jm_Sim mY_Z_alarm 0 0 0 [(0, .ref 59)] [] 78 mr_154 s (s_Z_alarm s) (jm_rP 78 mr_154) := by
  unfold s_Z_alarm
  refine jm_aload_n (pc := 0) (q := 0) (x := 59) d_Z_alarm_0 rfl ?_
  refine jm_Vp (pc := 1) (Y' := mY_Z_ear) (i := 59) (avs := []) (rest := []) (s_Z_ear_ok s) ok_Z_ear l0_Z_alarm__Z_ear ml_Z_168 im_Z_ear se_Z_ear d_Z_alarm_1 rfl sh_59 rfl rfl ge_59 le_59_78 rfl (Nat.le_of_ble_eq_true rfl) (Nat.le_of_ble_eq_true rfl) (Nat.le_of_ble_eq_true rfl) (Nat.le_of_ble_eq_true rfl) (fun v1 => ?_)
  refine jm_istore_n (pc := 4) (i := 1) (L2 := [(1, .int v1), (0, .ref 59)]) d_Z_alarm_4 rfl (Nat.le_of_ble_eq_true rfl) rfl ?_
  refine jm_iload_n (pc := 5) (q := 0) (x := v1) d_Z_alarm_5 rfl ?_
  refine jm_bipush (pc := 6) (v := (-4)) d_Z_alarm_6 cb_m4 ?_
  refine jm_icmp_ne (pc := 8) (tgt := 14) d_Z_alarm_8 (by decide) ?_ ?_
  · refine jm_bipush (pc := 11) (v := (-2)) d_Z_alarm_11 cb_m2 ?_
    exact jm_iret (pc := 13) (x := (-2)) d_Z_alarm_13 rfl rfl rfl rfl rfl
  · refine jm_aload_n (pc := 14) (q := 1) (x := 59) d_Z_alarm_14 rfl ?_
    refine jm_Vv (pc := 15) (Y' := mY_Z_layNight) (i := 59) (avs := []) (rest := []) (s_Z_layNight_ok s) ok_Z_layNight l0_Z_alarm__Z_layNight ml_Z_165 im_Z_layNight se_Z_layNight d_Z_alarm_15 rfl sh_59 rfl rfl ge_59 le_59_78 rfl (Nat.le_of_ble_eq_true rfl) (Nat.le_of_ble_eq_true rfl) (Nat.le_of_ble_eq_true rfl) (Nat.le_of_ble_eq_true rfl) (fun s2 => ?_)
    refine jm_iconst (pc := 18) (v := 0) d_Z_alarm_18 ci_0 ?_
    refine jm_istore_n (pc := 19) (i := 2) (L2 := [(2, .int 0), (1, .int v1), (0, .ref 59)]) d_Z_alarm_19 rfl (Nat.le_of_ble_eq_true rfl) rfl ?_
    refine jm_sub (L2 := [(0, .ref 59), (1, .int v1), (2, .int 0)]) [2, 1, 0] rfl ?_
    exact s_Z_alarm_L20_ok 5000 v1 0 s2
theorem d_Ne_folk_0 : decode (jm_cd mY_Ne_folk) 0 = .ok (.aload_n 0, 1) := by decide +kernel
theorem d_Ne_folk_1 : decode (jm_cd mY_Ne_folk) 1 = .ok (.iconst 0, 1) := by decide +kernel
theorem d_Ne_folk_2 : decode (jm_cd mY_Ne_folk) 2 = .ok (.invokevirtual 54, 3) := by decide +kernel
theorem d_Ne_folk_5 : decode (jm_cd mY_Ne_folk) 5 = .ok (.aload_n 0, 1) := by decide +kernel
theorem d_Ne_folk_6 : decode (jm_cd mY_Ne_folk) 6 = .ok (.iconst 1, 1) := by decide +kernel
theorem d_Ne_folk_7 : decode (jm_cd mY_Ne_folk) 7 = .ok (.invokevirtual 54, 3) := by decide +kernel
theorem d_Ne_folk_10 : decode (jm_cd mY_Ne_folk) 10 = .ok (.ior, 1) := by decide +kernel
theorem d_Ne_folk_11 : decode (jm_cd mY_Ne_folk) 11 = .ok (.ireturn, 1) := by decide +kernel
def s_Ne_folk_15 (s : jm_M) : Option Int32 := jm_bd (s_Ne_ofKind_15 s 0) (fun v1 => jm_bd (s_Ne_ofKind_15 s 1) (fun v2 => (some (v1 ||| v2))))
set_option maxRecDepth 100000 in
set_option maxHeartbeats 4000000 in
theorem s_Ne_folk_15_ok (s : jm_M) : jm_Sim mY_Ne_folk 0 0 0 [(0, .ref 15)] [] 78 mr_154 s (s_Ne_folk_15 s) (jm_rI 78 mr_154 s) := by
  unfold s_Ne_folk_15
  refine jm_aload_n (pc := 0) (q := 0) (x := 15) d_Ne_folk_0 rfl ?_
  refine jm_iconst (pc := 1) (v := 0) d_Ne_folk_1 ci_0 ?_
  refine jm_Vp (pc := 2) (Y' := mY_Ne_ofKind) (i := 15) (avs := [.int 0]) (rest := []) (s_Ne_ofKind_15_ok s 0) ok_Ne_ofKind l0_Ne_folk__Ne_ofKind ml_Ne_54 im_Ne_ofKind se_Ne_ofKind d_Ne_folk_2 rfl sh_15 rfl rfl ge_15 le_15_78 rfl (Nat.le_of_ble_eq_true rfl) (Nat.le_of_ble_eq_true rfl) (Nat.le_of_ble_eq_true rfl) (Nat.le_of_ble_eq_true rfl) (fun v1 => ?_)
  refine jm_aload_n (pc := 5) (q := 0) (x := 15) d_Ne_folk_5 rfl ?_
  refine jm_iconst (pc := 6) (v := 1) d_Ne_folk_6 ci_1 ?_
  refine jm_Vp (pc := 7) (Y' := mY_Ne_ofKind) (i := 15) (avs := [.int 1]) (rest := [.int v1]) (s_Ne_ofKind_15_ok s 1) ok_Ne_ofKind l0_Ne_folk__Ne_ofKind ml_Ne_54 im_Ne_ofKind se_Ne_ofKind d_Ne_folk_7 rfl sh_15 rfl rfl ge_15 le_15_78 rfl (Nat.le_of_ble_eq_true rfl) (Nat.le_of_ble_eq_true rfl) (Nat.le_of_ble_eq_true rfl) (Nat.le_of_ble_eq_true rfl) (fun v2 => ?_)
  refine jm_ior (pc := 10) d_Ne_folk_10 ?_
  exact jm_iret (pc := 11) (x := v1 ||| v2) d_Ne_folk_11 rfl rfl rfl rfl rfl
theorem d_Co_study_0 : decode (jm_cd mY_Co_study) 0 = .ok (.aload_n 0, 1) := by decide +kernel
theorem d_Co_study_1 : decode (jm_cd mY_Co_study) 1 = .ok (.iconst (-1), 1) := by decide +kernel
theorem d_Co_study_2 : decode (jm_cd mY_Co_study) 2 = .ok (.putfield 18, 3) := by decide +kernel
theorem d_Co_study_5 : decode (jm_cd mY_Co_study) 5 = .ok (.aload_n 0, 1) := by decide +kernel
theorem d_Co_study_6 : decode (jm_cd mY_Co_study) 6 = .ok (.aload_n 1, 1) := by decide +kernel
theorem d_Co_study_7 : decode (jm_cd mY_Co_study) 7 = .ok (.iconst 1, 1) := by decide +kernel
theorem d_Co_study_8 : decode (jm_cd mY_Co_study) 8 = .ok (.invokevirtual 43, 3) := by decide +kernel
theorem d_Co_study_11 : decode (jm_cd mY_Co_study) 11 = .ok (.putfield 21, 3) := by decide +kernel
theorem d_Co_study_14 : decode (jm_cd mY_Co_study) 14 = .ok (.aload_n 0, 1) := by decide +kernel
theorem d_Co_study_15 : decode (jm_cd mY_Co_study) 15 = .ok (.aload_n 1, 1) := by decide +kernel
theorem d_Co_study_16 : decode (jm_cd mY_Co_study) 16 = .ok (.invokevirtual 49, 3) := by decide +kernel
theorem d_Co_study_19 : decode (jm_cd mY_Co_study) 19 = .ok (.putfield 24, 3) := by decide +kernel
theorem d_Co_study_22 : decode (jm_cd mY_Co_study) 22 = .ok (.iconst 0, 1) := by decide +kernel
theorem d_Co_study_23 : decode (jm_cd mY_Co_study) 23 = .ok (.istore_n 2, 1) := by decide +kernel
theorem d_Co_study_24 : decode (jm_cd mY_Co_study) 24 = .ok (.iload_n 2, 1) := by decide +kernel
theorem d_Co_study_25 : decode (jm_cd mY_Co_study) 25 = .ok (.bipush 10, 2) := by decide +kernel
theorem d_Co_study_27 : decode (jm_cd mY_Co_study) 27 = .ok (.if_icmp .ge 60, 3) := by decide +kernel
theorem d_Co_study_30 : decode (jm_cd mY_Co_study) 30 = .ok (.aload_n 0, 1) := by decide +kernel
theorem d_Co_study_31 : decode (jm_cd mY_Co_study) 31 = .ok (.getfield 27, 3) := by decide +kernel
theorem d_Co_study_34 : decode (jm_cd mY_Co_study) 34 = .ok (.iload_n 2, 1) := by decide +kernel
theorem d_Co_study_35 : decode (jm_cd mY_Co_study) 35 = .ok (.aload_n 1, 1) := by decide +kernel
theorem d_Co_study_36 : decode (jm_cd mY_Co_study) 36 = .ok (.getfield 52, 3) := by decide +kernel
theorem d_Co_study_39 : decode (jm_cd mY_Co_study) 39 = .ok (.iload_n 2, 1) := by decide +kernel
theorem d_Co_study_40 : decode (jm_cd mY_Co_study) 40 = .ok (.iaload, 1) := by decide +kernel
theorem d_Co_study_41 : decode (jm_cd mY_Co_study) 41 = .ok (.iastore, 1) := by decide +kernel
theorem d_Co_study_42 : decode (jm_cd mY_Co_study) 42 = .ok (.aload_n 0, 1) := by decide +kernel
theorem d_Co_study_43 : decode (jm_cd mY_Co_study) 43 = .ok (.getfield 31, 3) := by decide +kernel
theorem d_Co_study_46 : decode (jm_cd mY_Co_study) 46 = .ok (.iload_n 2, 1) := by decide +kernel
theorem d_Co_study_47 : decode (jm_cd mY_Co_study) 47 = .ok (.aload_n 1, 1) := by decide +kernel
theorem d_Co_study_48 : decode (jm_cd mY_Co_study) 48 = .ok (.getfield 53, 3) := by decide +kernel
theorem d_Co_study_51 : decode (jm_cd mY_Co_study) 51 = .ok (.iload_n 2, 1) := by decide +kernel
theorem d_Co_study_52 : decode (jm_cd mY_Co_study) 52 = .ok (.iaload, 1) := by decide +kernel
theorem d_Co_study_53 : decode (jm_cd mY_Co_study) 53 = .ok (.iastore, 1) := by decide +kernel
theorem d_Co_study_54 : decode (jm_cd mY_Co_study) 54 = .ok (.aload_n 0, 1) := by decide +kernel
theorem d_Co_study_55 : decode (jm_cd mY_Co_study) 55 = .ok (.getfield 34, 3) := by decide +kernel
theorem d_Co_study_58 : decode (jm_cd mY_Co_study) 58 = .ok (.iload_n 2, 1) := by decide +kernel
theorem d_Co_study_59 : decode (jm_cd mY_Co_study) 59 = .ok (.aload_n 1, 1) := by decide +kernel
theorem d_Co_study_60 : decode (jm_cd mY_Co_study) 60 = .ok (.getfield 54, 3) := by decide +kernel
theorem d_Co_study_63 : decode (jm_cd mY_Co_study) 63 = .ok (.iload_n 2, 1) := by decide +kernel
theorem d_Co_study_64 : decode (jm_cd mY_Co_study) 64 = .ok (.iaload, 1) := by decide +kernel
theorem d_Co_study_65 : decode (jm_cd mY_Co_study) 65 = .ok (.iastore, 1) := by decide +kernel
theorem d_Co_study_66 : decode (jm_cd mY_Co_study) 66 = .ok (.aload_n 1, 1) := by decide +kernel
theorem d_Co_study_67 : decode (jm_cd mY_Co_study) 67 = .ok (.getfield 55, 3) := by decide +kernel
theorem d_Co_study_70 : decode (jm_cd mY_Co_study) 70 = .ok (.iload_n 2, 1) := by decide +kernel
theorem d_Co_study_71 : decode (jm_cd mY_Co_study) 71 = .ok (.iaload, 1) := by decide +kernel
theorem d_Co_study_72 : decode (jm_cd mY_Co_study) 72 = .ok (.iconst 2, 1) := by decide +kernel
theorem d_Co_study_73 : decode (jm_cd mY_Co_study) 73 = .ok (.if_icmp .ne 8, 3) := by decide +kernel
theorem d_Co_study_76 : decode (jm_cd mY_Co_study) 76 = .ok (.aload_n 0, 1) := by decide +kernel
theorem d_Co_study_77 : decode (jm_cd mY_Co_study) 77 = .ok (.iload_n 2, 1) := by decide +kernel
theorem d_Co_study_78 : decode (jm_cd mY_Co_study) 78 = .ok (.putfield 18, 3) := by decide +kernel
theorem d_Co_study_81 : decode (jm_cd mY_Co_study) 81 = .ok (.iinc 2 1, 3) := by decide +kernel
theorem d_Co_study_84 : decode (jm_cd mY_Co_study) 84 = .ok (.goto (-60), 3) := by decide +kernel
theorem d_Co_study_87 : decode (jm_cd mY_Co_study) 87 = .ok (.return_, 1) := by decide +kernel
def s_Co_study_48_15_L24 : Nat → Int32 → jm_M → Option jm_M
  | 0, _, _ => none
  | n + 1, x2, s => (if 10 ≤ x2 then (some s) else jm_ldi s 17 10 x2 (fun v6 => jm_sti s 49 10 x2 v6 (fun s7 => jm_ldi s7 18 10 x2 (fun v8 => jm_sti s7 50 10 x2 v8 (fun s9 => jm_ldi s9 19 10 x2 (fun v10 => jm_sti s9 51 10 x2 v10 (fun s11 => jm_ldi s11 16 10 x2 (fun v12 => (if v12 = 2 then jm_ev (jm_si s11 48 2 x2) (fun s13 => s_Co_study_48_15_L24 n (x2 + 1) s13) else s_Co_study_48_15_L24 n (x2 + 1) s11)))))))))
set_option maxRecDepth 100000 in
set_option maxHeartbeats 4000000 in
theorem s_Co_study_48_15_L24_ok : ∀ (n : Nat) (x2 : Int32) (s : jm_M), jm_Sim mY_Co_study 0 0 24 [(0, .ref 48), (1, .ref 15), (2, .int x2)] [] 78 mr_154 s (s_Co_study_48_15_L24 n x2 s) (jm_rV 78 mr_154) := by
  intro n
  induction n with
  | zero => intro x2 s; exact jm_none
  | succ n ih =>
    intro x2 s
    rw [s_Co_study_48_15_L24]
    refine jm_iload_n (pc := 24) (q := 2) (x := x2) d_Co_study_24 rfl ?_
    refine jm_bipush (pc := 25) (v := 10) d_Co_study_25 cb_10 ?_
    refine jm_icmp_ge (pc := 27) (tgt := 87) d_Co_study_27 (by decide) ?_ ?_
    · exact jm_vret (pc := 87) d_Co_study_87 rfl rfl rfl rfl
    · refine jm_aload_n (pc := 30) (q := 0) (x := 48) d_Co_study_30 rfl ?_
      refine jm_gr (pc := 31) (i := 48) d_Co_study_31 fo_Co_27 sh_48 ge_48 le_48_78 rfl (fun _ => rfl) mr_154_48_5 ge_49 ?_
      refine jm_iload_n (pc := 34) (q := 2) (x := x2) d_Co_study_34 rfl ?_
      refine jm_aload_n (pc := 35) (q := 1) (x := 15) d_Co_study_35 rfl ?_
      refine jm_gr (pc := 36) (i := 15) d_Co_study_36 fo_Co_52 sh_15 ge_15 le_15_78 rfl (fun _ => rfl) mr_154_15_2 ge_17 ?_
      refine jm_iload_n (pc := 39) (q := 2) (x := x2) d_Co_study_39 rfl ?_
      refine jm_iald (pc := 40) d_Co_study_40 sh_17 ge_17 le_17_78 (fun v6 => ?_)
      refine jm_iast (pc := 41) d_Co_study_41 sh_49 ge_49 le_49_78 (fun s7 => ?_)
      refine jm_aload_n (pc := 42) (q := 0) (x := 48) d_Co_study_42 rfl ?_
      refine jm_gr (pc := 43) (i := 48) d_Co_study_43 fo_Co_31 sh_48 ge_48 le_48_78 rfl (fun _ => rfl) mr_154_48_6 ge_50 ?_
      refine jm_iload_n (pc := 46) (q := 2) (x := x2) d_Co_study_46 rfl ?_
      refine jm_aload_n (pc := 47) (q := 1) (x := 15) d_Co_study_47 rfl ?_
      refine jm_gr (pc := 48) (i := 15) d_Co_study_48 fo_Co_53 sh_15 ge_15 le_15_78 rfl (fun _ => rfl) mr_154_15_3 ge_18 ?_
      refine jm_iload_n (pc := 51) (q := 2) (x := x2) d_Co_study_51 rfl ?_
      refine jm_iald (pc := 52) d_Co_study_52 sh_18 ge_18 le_18_78 (fun v8 => ?_)
      refine jm_iast (pc := 53) d_Co_study_53 sh_50 ge_50 le_50_78 (fun s9 => ?_)
      refine jm_aload_n (pc := 54) (q := 0) (x := 48) d_Co_study_54 rfl ?_
      refine jm_gr (pc := 55) (i := 48) d_Co_study_55 fo_Co_34 sh_48 ge_48 le_48_78 rfl (fun _ => rfl) mr_154_48_7 ge_51 ?_
      refine jm_iload_n (pc := 58) (q := 2) (x := x2) d_Co_study_58 rfl ?_
      refine jm_aload_n (pc := 59) (q := 1) (x := 15) d_Co_study_59 rfl ?_
      refine jm_gr (pc := 60) (i := 15) d_Co_study_60 fo_Co_54 sh_15 ge_15 le_15_78 rfl (fun _ => rfl) mr_154_15_4 ge_19 ?_
      refine jm_iload_n (pc := 63) (q := 2) (x := x2) d_Co_study_63 rfl ?_
      refine jm_iald (pc := 64) d_Co_study_64 sh_19 ge_19 le_19_78 (fun v10 => ?_)
      refine jm_iast (pc := 65) d_Co_study_65 sh_51 ge_51 le_51_78 (fun s11 => ?_)
      refine jm_aload_n (pc := 66) (q := 1) (x := 15) d_Co_study_66 rfl ?_
      refine jm_gr (pc := 67) (i := 15) d_Co_study_67 fo_Co_55 sh_15 ge_15 le_15_78 rfl (fun _ => rfl) mr_154_15_1 ge_16 ?_
      refine jm_iload_n (pc := 70) (q := 2) (x := x2) d_Co_study_70 rfl ?_
      refine jm_iald (pc := 71) d_Co_study_71 sh_16 ge_16 le_16_78 (fun v12 => ?_)
      refine jm_iconst (pc := 72) (v := 2) d_Co_study_72 ci_2 ?_
      refine jm_icmp_ne (pc := 73) (tgt := 81) d_Co_study_73 (by decide) ?_ ?_
      · refine jm_aload_n (pc := 76) (q := 0) (x := 48) d_Co_study_76 rfl ?_
        refine jm_iload_n (pc := 77) (q := 2) (x := x2) d_Co_study_77 rfl ?_
        refine jm_pi (pc := 78) (i := 48) d_Co_study_78 fp_Co_18 sh_48 ge_48 le_48_78 rfl rfl rfl (fun _ _ _ => rfl) (fun s13 => ?_)
        refine jm_iinc (pc := 81) (q := 2) (x := x2) (v := 1) (L2 := [(2, .int (x2 + 1)), (0, .ref 48), (1, .ref 15)]) d_Co_study_81 rfl ci_1 (Nat.le_of_ble_eq_true rfl) rfl ?_
        refine jm_goto (pc := 84) (tgt := 24) d_Co_study_84 (by decide) ?_
        refine jm_sub (L2 := [(0, .ref 48), (1, .ref 15), (2, .int (x2 + 1))]) [1, 2, 0] rfl ?_
        exact ih (x2 + 1) s13
      · refine jm_iinc (pc := 81) (q := 2) (x := x2) (v := 1) (L2 := [(2, .int (x2 + 1)), (0, .ref 48), (1, .ref 15)]) d_Co_study_81 rfl ci_1 (Nat.le_of_ble_eq_true rfl) rfl ?_
        refine jm_goto (pc := 84) (tgt := 24) d_Co_study_84 (by decide) ?_
        refine jm_sub (L2 := [(0, .ref 48), (1, .ref 15), (2, .int (x2 + 1))]) [1, 2, 0] rfl ?_
        exact ih (x2 + 1) s11
def s_Co_study_48_15 (s : jm_M) : Option jm_M := jm_ev (jm_si s 48 2 (-1)) (fun s1 => jm_bd (s_Ne_ofKind_15 s1 1) (fun v2 => jm_ev (jm_si s1 48 3 v2) (fun s3 => jm_bd (s_Ne_folk_15 s3) (fun v4 => jm_ev (jm_si s3 48 4 v4) (fun s5 => s_Co_study_48_15_L24 5000 0 s5)))))
set_option maxRecDepth 100000 in
set_option maxHeartbeats 4000000 in
theorem s_Co_study_48_15_ok (s : jm_M) : jm_Sim mY_Co_study 0 0 0 [(0, .ref 48), (1, .ref 15)] [] 78 mr_154 s (s_Co_study_48_15 s) (jm_rV 78 mr_154) := by
  unfold s_Co_study_48_15
  refine jm_aload_n (pc := 0) (q := 0) (x := 48) d_Co_study_0 rfl ?_
  refine jm_iconst (pc := 1) (v := (-1)) d_Co_study_1 ci_m1 ?_
  refine jm_pi (pc := 2) (i := 48) d_Co_study_2 fp_Co_18 sh_48 ge_48 le_48_78 rfl rfl rfl (fun _ _ _ => rfl) (fun s1 => ?_)
  refine jm_aload_n (pc := 5) (q := 0) (x := 48) d_Co_study_5 rfl ?_
  refine jm_aload_n (pc := 6) (q := 1) (x := 15) d_Co_study_6 rfl ?_
  refine jm_iconst (pc := 7) (v := 1) d_Co_study_7 ci_1 ?_
  refine jm_Vp (pc := 8) (Y' := mY_Ne_ofKind) (i := 15) (avs := [.int 1]) (rest := [.ref 48]) (s_Ne_ofKind_15_ok s1 1) ok_Ne_ofKind l0_Co_study__Ne_ofKind ml_Co_43 im_Ne_ofKind se_Ne_ofKind d_Co_study_8 rfl sh_15 rfl rfl ge_15 le_15_78 rfl (Nat.le_of_ble_eq_true rfl) (Nat.le_of_ble_eq_true rfl) (Nat.le_of_ble_eq_true rfl) (Nat.le_of_ble_eq_true rfl) (fun v2 => ?_)
  refine jm_pi (pc := 11) (i := 48) d_Co_study_11 fp_Co_21 sh_48 ge_48 le_48_78 rfl rfl rfl (fun _ _ _ => rfl) (fun s3 => ?_)
  refine jm_aload_n (pc := 14) (q := 0) (x := 48) d_Co_study_14 rfl ?_
  refine jm_aload_n (pc := 15) (q := 1) (x := 15) d_Co_study_15 rfl ?_
  refine jm_Vp (pc := 16) (Y' := mY_Ne_folk) (i := 15) (avs := []) (rest := [.ref 48]) (s_Ne_folk_15_ok s3) ok_Ne_folk l0_Co_study__Ne_folk ml_Co_49 im_Ne_folk se_Ne_folk d_Co_study_16 rfl sh_15 rfl rfl ge_15 le_15_78 rfl (Nat.le_of_ble_eq_true rfl) (Nat.le_of_ble_eq_true rfl) (Nat.le_of_ble_eq_true rfl) (Nat.le_of_ble_eq_true rfl) (fun v4 => ?_)
  refine jm_pi (pc := 19) (i := 48) d_Co_study_19 fp_Co_24 sh_48 ge_48 le_48_78 rfl rfl rfl (fun _ _ _ => rfl) (fun s5 => ?_)
  refine jm_iconst (pc := 22) (v := 0) d_Co_study_22 ci_0 ?_
  refine jm_istore_n (pc := 23) (i := 2) (L2 := [(2, .int 0), (0, .ref 48), (1, .ref 15)]) d_Co_study_23 rfl (Nat.le_of_ble_eq_true rfl) rfl ?_
  refine jm_sub (L2 := [(0, .ref 48), (1, .ref 15), (2, .int 0)]) [1, 2, 0] rfl ?_
  exact s_Co_study_48_15_L24_ok 5000 0 s5
theorem d_JI_bitCount_0 : decode (jm_cd mY_JI_bitCount) 0 = .ok (.iload_n 0, 1) := by decide +kernel
theorem d_JI_bitCount_1 : decode (jm_cd mY_JI_bitCount) 1 = .ok (.iload_n 0, 1) := by decide +kernel
theorem d_JI_bitCount_2 : decode (jm_cd mY_JI_bitCount) 2 = .ok (.iconst 1, 1) := by decide +kernel
theorem d_JI_bitCount_3 : decode (jm_cd mY_JI_bitCount) 3 = .ok (.iushr, 1) := by decide +kernel
theorem d_JI_bitCount_4 : decode (jm_cd mY_JI_bitCount) 4 = .ok (.ldc_w 265, 3) := by decide +kernel
theorem d_JI_bitCount_7 : decode (jm_cd mY_JI_bitCount) 7 = .ok (.iand, 1) := by decide +kernel
theorem d_JI_bitCount_8 : decode (jm_cd mY_JI_bitCount) 8 = .ok (.isub, 1) := by decide +kernel
theorem d_JI_bitCount_9 : decode (jm_cd mY_JI_bitCount) 9 = .ok (.istore_n 0, 1) := by decide +kernel
theorem d_JI_bitCount_10 : decode (jm_cd mY_JI_bitCount) 10 = .ok (.iload_n 0, 1) := by decide +kernel
theorem d_JI_bitCount_11 : decode (jm_cd mY_JI_bitCount) 11 = .ok (.ldc_w 266, 3) := by decide +kernel
theorem d_JI_bitCount_14 : decode (jm_cd mY_JI_bitCount) 14 = .ok (.iand, 1) := by decide +kernel
theorem d_JI_bitCount_15 : decode (jm_cd mY_JI_bitCount) 15 = .ok (.iload_n 0, 1) := by decide +kernel
theorem d_JI_bitCount_16 : decode (jm_cd mY_JI_bitCount) 16 = .ok (.iconst 2, 1) := by decide +kernel
theorem d_JI_bitCount_17 : decode (jm_cd mY_JI_bitCount) 17 = .ok (.iushr, 1) := by decide +kernel
theorem d_JI_bitCount_18 : decode (jm_cd mY_JI_bitCount) 18 = .ok (.ldc_w 266, 3) := by decide +kernel
theorem d_JI_bitCount_21 : decode (jm_cd mY_JI_bitCount) 21 = .ok (.iand, 1) := by decide +kernel
theorem d_JI_bitCount_22 : decode (jm_cd mY_JI_bitCount) 22 = .ok (.iadd, 1) := by decide +kernel
theorem d_JI_bitCount_23 : decode (jm_cd mY_JI_bitCount) 23 = .ok (.istore_n 0, 1) := by decide +kernel
theorem d_JI_bitCount_24 : decode (jm_cd mY_JI_bitCount) 24 = .ok (.iload_n 0, 1) := by decide +kernel
theorem d_JI_bitCount_25 : decode (jm_cd mY_JI_bitCount) 25 = .ok (.iload_n 0, 1) := by decide +kernel
theorem d_JI_bitCount_26 : decode (jm_cd mY_JI_bitCount) 26 = .ok (.iconst 4, 1) := by decide +kernel
theorem d_JI_bitCount_27 : decode (jm_cd mY_JI_bitCount) 27 = .ok (.iushr, 1) := by decide +kernel
theorem d_JI_bitCount_28 : decode (jm_cd mY_JI_bitCount) 28 = .ok (.iadd, 1) := by decide +kernel
theorem d_JI_bitCount_29 : decode (jm_cd mY_JI_bitCount) 29 = .ok (.ldc_w 267, 3) := by decide +kernel
theorem d_JI_bitCount_32 : decode (jm_cd mY_JI_bitCount) 32 = .ok (.iand, 1) := by decide +kernel
theorem d_JI_bitCount_33 : decode (jm_cd mY_JI_bitCount) 33 = .ok (.istore_n 0, 1) := by decide +kernel
theorem d_JI_bitCount_34 : decode (jm_cd mY_JI_bitCount) 34 = .ok (.iload_n 0, 1) := by decide +kernel
theorem d_JI_bitCount_35 : decode (jm_cd mY_JI_bitCount) 35 = .ok (.iload_n 0, 1) := by decide +kernel
theorem d_JI_bitCount_36 : decode (jm_cd mY_JI_bitCount) 36 = .ok (.bipush 8, 2) := by decide +kernel
theorem d_JI_bitCount_38 : decode (jm_cd mY_JI_bitCount) 38 = .ok (.iushr, 1) := by decide +kernel
theorem d_JI_bitCount_39 : decode (jm_cd mY_JI_bitCount) 39 = .ok (.iadd, 1) := by decide +kernel
theorem d_JI_bitCount_40 : decode (jm_cd mY_JI_bitCount) 40 = .ok (.istore_n 0, 1) := by decide +kernel
theorem d_JI_bitCount_41 : decode (jm_cd mY_JI_bitCount) 41 = .ok (.iload_n 0, 1) := by decide +kernel
theorem d_JI_bitCount_42 : decode (jm_cd mY_JI_bitCount) 42 = .ok (.iload_n 0, 1) := by decide +kernel
theorem d_JI_bitCount_43 : decode (jm_cd mY_JI_bitCount) 43 = .ok (.bipush 16, 2) := by decide +kernel
theorem d_JI_bitCount_45 : decode (jm_cd mY_JI_bitCount) 45 = .ok (.iushr, 1) := by decide +kernel
theorem d_JI_bitCount_46 : decode (jm_cd mY_JI_bitCount) 46 = .ok (.iadd, 1) := by decide +kernel
theorem d_JI_bitCount_47 : decode (jm_cd mY_JI_bitCount) 47 = .ok (.istore_n 0, 1) := by decide +kernel
theorem d_JI_bitCount_48 : decode (jm_cd mY_JI_bitCount) 48 = .ok (.iload_n 0, 1) := by decide +kernel
theorem d_JI_bitCount_49 : decode (jm_cd mY_JI_bitCount) 49 = .ok (.bipush 63, 2) := by decide +kernel
theorem d_JI_bitCount_51 : decode (jm_cd mY_JI_bitCount) 51 = .ok (.iand, 1) := by decide +kernel
theorem d_JI_bitCount_52 : decode (jm_cd mY_JI_bitCount) 52 = .ok (.ireturn, 1) := by decide +kernel
def s_JI_bitCount (s : jm_M) (a0 : Int32) : Option Int32 := jm_vi (a0 - (((a0.toUInt32 >>> ((1 : Int32).toUInt32 &&& Int32.toUInt32 31)).toInt32) &&& 1431655765)) (fun v1 => jm_vi ((v1 &&& 858993459) + (((v1.toUInt32 >>> ((2 : Int32).toUInt32 &&& Int32.toUInt32 31)).toInt32) &&& 858993459)) (fun v2 => jm_vi ((v2 + ((v2.toUInt32 >>> ((4 : Int32).toUInt32 &&& Int32.toUInt32 31)).toInt32)) &&& 252645135) (fun v3 => jm_vi (v3 + ((v3.toUInt32 >>> ((8 : Int32).toUInt32 &&& Int32.toUInt32 31)).toInt32)) (fun v4 => jm_vi (v4 + ((v4.toUInt32 >>> ((16 : Int32).toUInt32 &&& Int32.toUInt32 31)).toInt32)) (fun v5 => (some (v5 &&& 63)))))))
set_option maxRecDepth 100000 in
set_option maxHeartbeats 4000000 in
theorem s_JI_bitCount_ok (s : jm_M) (a0 : Int32) : jm_Sim mY_JI_bitCount 0 0 0 [(0, .int a0)] [] 78 mr_154 s (s_JI_bitCount s a0) (jm_rI 78 mr_154 s) := by
  unfold s_JI_bitCount
  refine jm_iload_n (pc := 0) (q := 0) (x := a0) d_JI_bitCount_0 rfl ?_
  refine jm_iload_n (pc := 1) (q := 0) (x := a0) d_JI_bitCount_1 rfl ?_
  refine jm_iconst (pc := 2) (v := 1) d_JI_bitCount_2 ci_1 ?_
  refine jm_iushr (pc := 3) d_JI_bitCount_3 ?_
  refine jm_ldcw (pc := 4) (v := 1431655765) d_JI_bitCount_4 k_JI_265 ?_
  refine jm_iand (pc := 7) d_JI_bitCount_7 ?_
  refine jm_isub (pc := 8) d_JI_bitCount_8 ?_
  refine jm_nvi (fun v1 => ?_)
  refine jm_istore_n (pc := 9) (i := 0) (L2 := [(0, .int v1)]) d_JI_bitCount_9 rfl (Nat.le_of_ble_eq_true rfl) rfl ?_
  refine jm_iload_n (pc := 10) (q := 0) (x := v1) d_JI_bitCount_10 rfl ?_
  refine jm_ldcw (pc := 11) (v := 858993459) d_JI_bitCount_11 k_JI_266 ?_
  refine jm_iand (pc := 14) d_JI_bitCount_14 ?_
  refine jm_iload_n (pc := 15) (q := 0) (x := v1) d_JI_bitCount_15 rfl ?_
  refine jm_iconst (pc := 16) (v := 2) d_JI_bitCount_16 ci_2 ?_
  refine jm_iushr (pc := 17) d_JI_bitCount_17 ?_
  refine jm_ldcw (pc := 18) (v := 858993459) d_JI_bitCount_18 k_JI_266 ?_
  refine jm_iand (pc := 21) d_JI_bitCount_21 ?_
  refine jm_iadd (pc := 22) d_JI_bitCount_22 ?_
  refine jm_nvi (fun v2 => ?_)
  refine jm_istore_n (pc := 23) (i := 0) (L2 := [(0, .int v2)]) d_JI_bitCount_23 rfl (Nat.le_of_ble_eq_true rfl) rfl ?_
  refine jm_iload_n (pc := 24) (q := 0) (x := v2) d_JI_bitCount_24 rfl ?_
  refine jm_iload_n (pc := 25) (q := 0) (x := v2) d_JI_bitCount_25 rfl ?_
  refine jm_iconst (pc := 26) (v := 4) d_JI_bitCount_26 ci_4 ?_
  refine jm_iushr (pc := 27) d_JI_bitCount_27 ?_
  refine jm_iadd (pc := 28) d_JI_bitCount_28 ?_
  refine jm_ldcw (pc := 29) (v := 252645135) d_JI_bitCount_29 k_JI_267 ?_
  refine jm_iand (pc := 32) d_JI_bitCount_32 ?_
  refine jm_nvi (fun v3 => ?_)
  refine jm_istore_n (pc := 33) (i := 0) (L2 := [(0, .int v3)]) d_JI_bitCount_33 rfl (Nat.le_of_ble_eq_true rfl) rfl ?_
  refine jm_iload_n (pc := 34) (q := 0) (x := v3) d_JI_bitCount_34 rfl ?_
  refine jm_iload_n (pc := 35) (q := 0) (x := v3) d_JI_bitCount_35 rfl ?_
  refine jm_bipush (pc := 36) (v := 8) d_JI_bitCount_36 cb_8 ?_
  refine jm_iushr (pc := 38) d_JI_bitCount_38 ?_
  refine jm_iadd (pc := 39) d_JI_bitCount_39 ?_
  refine jm_nvi (fun v4 => ?_)
  refine jm_istore_n (pc := 40) (i := 0) (L2 := [(0, .int v4)]) d_JI_bitCount_40 rfl (Nat.le_of_ble_eq_true rfl) rfl ?_
  refine jm_iload_n (pc := 41) (q := 0) (x := v4) d_JI_bitCount_41 rfl ?_
  refine jm_iload_n (pc := 42) (q := 0) (x := v4) d_JI_bitCount_42 rfl ?_
  refine jm_bipush (pc := 43) (v := 16) d_JI_bitCount_43 cb_16 ?_
  refine jm_iushr (pc := 45) d_JI_bitCount_45 ?_
  refine jm_iadd (pc := 46) d_JI_bitCount_46 ?_
  refine jm_nvi (fun v5 => ?_)
  refine jm_istore_n (pc := 47) (i := 0) (L2 := [(0, .int v5)]) d_JI_bitCount_47 rfl (Nat.le_of_ble_eq_true rfl) rfl ?_
  refine jm_iload_n (pc := 48) (q := 0) (x := v5) d_JI_bitCount_48 rfl ?_
  refine jm_bipush (pc := 49) (v := 63) d_JI_bitCount_49 cb_63 ?_
  refine jm_iand (pc := 51) d_JI_bitCount_51 ?_
  exact jm_iret (pc := 52) (x := v5 &&& 63) d_JI_bitCount_52 rfl rfl rfl rfl rfl
theorem d_Co_ring_0 : decode (jm_cd mY_Co_ring) 0 = .ok (.iload_n 1, 1) := by decide +kernel
theorem d_Co_ring_1 : decode (jm_cd mY_Co_ring) 1 = .ok (.istore_n 2, 1) := by decide +kernel
theorem d_Co_ring_2 : decode (jm_cd mY_Co_ring) 2 = .ok (.iconst 0, 1) := by decide +kernel
theorem d_Co_ring_3 : decode (jm_cd mY_Co_ring) 3 = .ok (.istore_n 3, 1) := by decide +kernel
theorem d_Co_ring_4 : decode (jm_cd mY_Co_ring) 4 = .ok (.iload_n 3, 1) := by decide +kernel
theorem d_Co_ring_5 : decode (jm_cd mY_Co_ring) 5 = .ok (.bipush 10, 2) := by decide +kernel
theorem d_Co_ring_7 : decode (jm_cd mY_Co_ring) 7 = .ok (.if_icmp .ge 78, 3) := by decide +kernel
theorem d_Co_ring_10 : decode (jm_cd mY_Co_ring) 10 = .ok (.iload_n 2, 1) := by decide +kernel
theorem d_Co_ring_11 : decode (jm_cd mY_Co_ring) 11 = .ok (.istore 4, 2) := by decide +kernel
theorem d_Co_ring_13 : decode (jm_cd mY_Co_ring) 13 = .ok (.iconst 0, 1) := by decide +kernel
theorem d_Co_ring_14 : decode (jm_cd mY_Co_ring) 14 = .ok (.istore 5, 2) := by decide +kernel
theorem d_Co_ring_16 : decode (jm_cd mY_Co_ring) 16 = .ok (.iload 5, 2) := by decide +kernel
theorem d_Co_ring_18 : decode (jm_cd mY_Co_ring) 18 = .ok (.bipush 10, 2) := by decide +kernel
theorem d_Co_ring_20 : decode (jm_cd mY_Co_ring) 20 = .ok (.if_icmp .ge 50, 3) := by decide +kernel
theorem d_Co_ring_23 : decode (jm_cd mY_Co_ring) 23 = .ok (.aload_n 0, 1) := by decide +kernel
theorem d_Co_ring_24 : decode (jm_cd mY_Co_ring) 24 = .ok (.getfield 24, 3) := by decide +kernel
theorem d_Co_ring_27 : decode (jm_cd mY_Co_ring) 27 = .ok (.iload 5, 2) := by decide +kernel
theorem d_Co_ring_29 : decode (jm_cd mY_Co_ring) 29 = .ok (.ishr, 1) := by decide +kernel
theorem d_Co_ring_30 : decode (jm_cd mY_Co_ring) 30 = .ok (.iconst 1, 1) := by decide +kernel
theorem d_Co_ring_31 : decode (jm_cd mY_Co_ring) 31 = .ok (.iand, 1) := by decide +kernel
theorem d_Co_ring_32 : decode (jm_cd mY_Co_ring) 32 = .ok (.ifCond .eq 32, 3) := by decide +kernel
theorem d_Co_ring_35 : decode (jm_cd mY_Co_ring) 35 = .ok (.aload_n 0, 1) := by decide +kernel
theorem d_Co_ring_36 : decode (jm_cd mY_Co_ring) 36 = .ok (.getfield 27, 3) := by decide +kernel
theorem d_Co_ring_39 : decode (jm_cd mY_Co_ring) 39 = .ok (.iload 5, 2) := by decide +kernel
theorem d_Co_ring_41 : decode (jm_cd mY_Co_ring) 41 = .ok (.iaload, 1) := by decide +kernel
theorem d_Co_ring_42 : decode (jm_cd mY_Co_ring) 42 = .ok (.iload_n 2, 1) := by decide +kernel
theorem d_Co_ring_43 : decode (jm_cd mY_Co_ring) 43 = .ok (.iand, 1) := by decide +kernel
theorem d_Co_ring_44 : decode (jm_cd mY_Co_ring) 44 = .ok (.invokestatic 58, 3) := by decide +kernel
theorem d_Co_ring_47 : decode (jm_cd mY_Co_ring) 47 = .ok (.aload_n 0, 1) := by decide +kernel
theorem d_Co_ring_48 : decode (jm_cd mY_Co_ring) 48 = .ok (.getfield 31, 3) := by decide +kernel
theorem d_Co_ring_51 : decode (jm_cd mY_Co_ring) 51 = .ok (.iload 5, 2) := by decide +kernel
theorem d_Co_ring_53 : decode (jm_cd mY_Co_ring) 53 = .ok (.iaload, 1) := by decide +kernel
theorem d_Co_ring_54 : decode (jm_cd mY_Co_ring) 54 = .ok (.if_icmp .lt 10, 3) := by decide +kernel
theorem d_Co_ring_57 : decode (jm_cd mY_Co_ring) 57 = .ok (.iload_n 2, 1) := by decide +kernel
theorem d_Co_ring_58 : decode (jm_cd mY_Co_ring) 58 = .ok (.iconst 1, 1) := by decide +kernel
theorem d_Co_ring_59 : decode (jm_cd mY_Co_ring) 59 = .ok (.iload 5, 2) := by decide +kernel
theorem d_Co_ring_61 : decode (jm_cd mY_Co_ring) 61 = .ok (.ishl, 1) := by decide +kernel
theorem d_Co_ring_62 : decode (jm_cd mY_Co_ring) 62 = .ok (.ior, 1) := by decide +kernel
theorem d_Co_ring_63 : decode (jm_cd mY_Co_ring) 63 = .ok (.istore_n 2, 1) := by decide +kernel
theorem d_Co_ring_64 : decode (jm_cd mY_Co_ring) 64 = .ok (.iinc 5 1, 3) := by decide +kernel
theorem d_Co_ring_67 : decode (jm_cd mY_Co_ring) 67 = .ok (.goto (-51), 3) := by decide +kernel
theorem d_Co_ring_70 : decode (jm_cd mY_Co_ring) 70 = .ok (.iload_n 2, 1) := by decide +kernel
theorem d_Co_ring_71 : decode (jm_cd mY_Co_ring) 71 = .ok (.iload 4, 2) := by decide +kernel
theorem d_Co_ring_73 : decode (jm_cd mY_Co_ring) 73 = .ok (.if_icmp .ne 6, 3) := by decide +kernel
theorem d_Co_ring_76 : decode (jm_cd mY_Co_ring) 76 = .ok (.goto 9, 3) := by decide +kernel
theorem d_Co_ring_79 : decode (jm_cd mY_Co_ring) 79 = .ok (.iinc 3 1, 3) := by decide +kernel
theorem d_Co_ring_82 : decode (jm_cd mY_Co_ring) 82 = .ok (.goto (-78), 3) := by decide +kernel
theorem d_Co_ring_85 : decode (jm_cd mY_Co_ring) 85 = .ok (.iload_n 2, 1) := by decide +kernel
theorem d_Co_ring_86 : decode (jm_cd mY_Co_ring) 86 = .ok (.ireturn, 1) := by decide +kernel
def s_Co_ring_L16 (s : jm_M) (k4 : Int32 → Int32 → Option Int32) : Nat → Int32 → Int32 → Int32 → Int32 → Option Int32
  | 0, _, _, _, _ => none
  | n + 1, x2, x3, x4, x5 => (if 10 ≤ x5 then (if x2 = x4 then (some x2) else k4 x2 (x3 + 1)) else (if (((s.1 48 4) >>> (x5 &&& 31)) &&& 1) = 0 then s_Co_ring_L16 s k4 n x2 x3 x4 (x5 + 1) else jm_ldi s 49 10 x5 (fun v1 => jm_bd (s_JI_bitCount s (v1 &&& x2)) (fun v2 => jm_ldi s 50 10 x5 (fun v3 => (if v2 < v3 then s_Co_ring_L16 s k4 n x2 x3 x4 (x5 + 1) else jm_vi (x2 ||| (1 <<< (x5 &&& 31))) (fun v4 => s_Co_ring_L16 s k4 n v4 x3 x4 (x5 + 1))))))))
set_option maxRecDepth 100000 in
set_option maxHeartbeats 4000000 in
theorem s_Co_ring_L16_ok (s : jm_M) {k4 : Int32 → Int32 → Option Int32} (hk4 : ∀ (x2 : Int32) (x3 : Int32), jm_Sim mY_Co_ring 0 0 4 [(0, .ref 48), (2, .int x2), (3, .int x3)] [] 78 mr_154 s (k4 x2 x3) (jm_rI 78 mr_154 s)) : ∀ (n : Nat) (x2 : Int32) (x3 : Int32) (x4 : Int32) (x5 : Int32), jm_Sim mY_Co_ring 0 0 16 [(0, .ref 48), (2, .int x2), (3, .int x3), (4, .int x4), (5, .int x5)] [] 78 mr_154 s (s_Co_ring_L16 s k4 n x2 x3 x4 x5) (jm_rI 78 mr_154 s) := by
  intro n
  induction n with
  | zero => intro x2 x3 x4 x5; exact jm_none
  | succ n ih =>
    intro x2 x3 x4 x5
    rw [s_Co_ring_L16]
    refine jm_iload (pc := 16) (q := 4) (x := x5) d_Co_ring_16 rfl ?_
    refine jm_bipush (pc := 18) (v := 10) d_Co_ring_18 cb_10 ?_
    refine jm_icmp_ge (pc := 20) (tgt := 70) d_Co_ring_20 (by decide) ?_ ?_
    · refine jm_iload_n (pc := 70) (q := 1) (x := x2) d_Co_ring_70 rfl ?_
      refine jm_iload (pc := 71) (q := 3) (x := x4) d_Co_ring_71 rfl ?_
      refine jm_icmp_ne (pc := 73) (tgt := 79) d_Co_ring_73 (by decide) ?_ ?_
      · refine jm_goto (pc := 76) (tgt := 85) d_Co_ring_76 (by decide) ?_
        refine jm_iload_n (pc := 85) (q := 1) (x := x2) d_Co_ring_85 rfl ?_
        exact jm_iret (pc := 86) (x := x2) d_Co_ring_86 rfl rfl rfl rfl rfl
      · refine jm_iinc (pc := 79) (q := 2) (x := x3) (v := 1) (L2 := [(3, .int (x3 + 1)), (0, .ref 48), (2, .int x2), (4, .int x4), (5, .int x5)]) d_Co_ring_79 rfl ci_1 (Nat.le_of_ble_eq_true rfl) rfl ?_
        refine jm_goto (pc := 82) (tgt := 4) d_Co_ring_82 (by decide) ?_
        refine jm_sub (L2 := [(0, .ref 48), (2, .int x2), (3, .int (x3 + 1))]) [1, 2, 0] rfl ?_
        exact hk4 x2 (x3 + 1)
    · refine jm_aload_n (pc := 23) (q := 0) (x := 48) d_Co_ring_23 rfl ?_
      refine jm_gi (pc := 24) (i := 48) d_Co_ring_24 fo_Co_24 sh_48 ge_48 le_48_78 rfl (fun _ => rfl) ?_
      refine jm_iload (pc := 27) (q := 4) (x := x5) d_Co_ring_27 rfl ?_
      refine jm_ishr (pc := 29) d_Co_ring_29 ?_
      refine jm_iconst (pc := 30) (v := 1) d_Co_ring_30 ci_1 ?_
      refine jm_iand (pc := 31) d_Co_ring_31 ?_
      refine jm_if_eq (pc := 32) (tgt := 64) d_Co_ring_32 (by decide) ?_ ?_
      · refine jm_iinc (pc := 64) (q := 4) (x := x5) (v := 1) (L2 := [(5, .int (x5 + 1)), (0, .ref 48), (2, .int x2), (3, .int x3), (4, .int x4)]) d_Co_ring_64 rfl ci_1 (Nat.le_of_ble_eq_true rfl) rfl ?_
        refine jm_goto (pc := 67) (tgt := 16) d_Co_ring_67 (by decide) ?_
        refine jm_sub (L2 := [(0, .ref 48), (2, .int x2), (3, .int x3), (4, .int x4), (5, .int (x5 + 1))]) [1, 2, 3, 4, 0] rfl ?_
        exact ih x2 x3 x4 (x5 + 1)
      · refine jm_aload_n (pc := 35) (q := 0) (x := 48) d_Co_ring_35 rfl ?_
        refine jm_gr (pc := 36) (i := 48) d_Co_ring_36 fo_Co_27 sh_48 ge_48 le_48_78 rfl (fun _ => rfl) mr_154_48_5 ge_49 ?_
        refine jm_iload (pc := 39) (q := 4) (x := x5) d_Co_ring_39 rfl ?_
        refine jm_iald (pc := 41) d_Co_ring_41 sh_49 ge_49 le_49_78 (fun v1 => ?_)
        refine jm_iload_n (pc := 42) (q := 1) (x := x2) d_Co_ring_42 rfl ?_
        refine jm_iand (pc := 43) d_Co_ring_43 ?_
        refine jm_Sp (pc := 44) (Y' := mY_JI_bitCount) (avs := [.int (v1 &&& x2)]) (rest := []) (s_JI_bitCount_ok s (v1 &&& x2)) ok_JI_bitCount l0_Co_ring__JI_bitCount ml_Co_58 sm_JI_bitCount d_Co_ring_44 rfl rfl (Nat.le_of_ble_eq_true rfl) (Nat.le_of_ble_eq_true rfl) (Nat.le_of_ble_eq_true rfl) (Nat.le_of_ble_eq_true rfl) (fun v2 => ?_)
        refine jm_aload_n (pc := 47) (q := 0) (x := 48) d_Co_ring_47 rfl ?_
        refine jm_gr (pc := 48) (i := 48) d_Co_ring_48 fo_Co_31 sh_48 ge_48 le_48_78 rfl (fun _ => rfl) mr_154_48_6 ge_50 ?_
        refine jm_iload (pc := 51) (q := 4) (x := x5) d_Co_ring_51 rfl ?_
        refine jm_iald (pc := 53) d_Co_ring_53 sh_50 ge_50 le_50_78 (fun v3 => ?_)
        refine jm_icmp_lt (pc := 54) (tgt := 64) d_Co_ring_54 (by decide) ?_ ?_
        · refine jm_iinc (pc := 64) (q := 4) (x := x5) (v := 1) (L2 := [(5, .int (x5 + 1)), (0, .ref 48), (2, .int x2), (3, .int x3), (4, .int x4)]) d_Co_ring_64 rfl ci_1 (Nat.le_of_ble_eq_true rfl) rfl ?_
          refine jm_goto (pc := 67) (tgt := 16) d_Co_ring_67 (by decide) ?_
          refine jm_sub (L2 := [(0, .ref 48), (2, .int x2), (3, .int x3), (4, .int x4), (5, .int (x5 + 1))]) [1, 2, 3, 4, 0] rfl ?_
          exact ih x2 x3 x4 (x5 + 1)
        · refine jm_iload_n (pc := 57) (q := 1) (x := x2) d_Co_ring_57 rfl ?_
          refine jm_iconst (pc := 58) (v := 1) d_Co_ring_58 ci_1 ?_
          refine jm_iload (pc := 59) (q := 4) (x := x5) d_Co_ring_59 rfl ?_
          refine jm_ishl (pc := 61) d_Co_ring_61 ?_
          refine jm_ior (pc := 62) d_Co_ring_62 ?_
          refine jm_nvi (fun v4 => ?_)
          refine jm_istore_n (pc := 63) (i := 2) (L2 := [(2, .int v4), (0, .ref 48), (3, .int x3), (4, .int x4), (5, .int x5)]) d_Co_ring_63 rfl (Nat.le_of_ble_eq_true rfl) rfl ?_
          refine jm_iinc (pc := 64) (q := 4) (x := x5) (v := 1) (L2 := [(5, .int (x5 + 1)), (2, .int v4), (0, .ref 48), (3, .int x3), (4, .int x4)]) d_Co_ring_64 rfl ci_1 (Nat.le_of_ble_eq_true rfl) rfl ?_
          refine jm_goto (pc := 67) (tgt := 16) d_Co_ring_67 (by decide) ?_
          refine jm_sub (L2 := [(0, .ref 48), (2, .int v4), (3, .int x3), (4, .int x4), (5, .int (x5 + 1))]) [2, 1, 3, 4, 0] rfl ?_
          exact ih v4 x3 x4 (x5 + 1)
def s_Co_ring_L4 (s : jm_M) : Nat → Int32 → Int32 → Option Int32
  | 0, _, _ => none
  | n + 1, x2, x3 => (if 10 ≤ x3 then (some x2) else s_Co_ring_L16 s (s_Co_ring_L4 s n) 5000 x2 x3 x2 0)
set_option maxRecDepth 100000 in
set_option maxHeartbeats 4000000 in
theorem s_Co_ring_L4_ok (s : jm_M) : ∀ (n : Nat) (x2 : Int32) (x3 : Int32), jm_Sim mY_Co_ring 0 0 4 [(0, .ref 48), (2, .int x2), (3, .int x3)] [] 78 mr_154 s (s_Co_ring_L4 s n x2 x3) (jm_rI 78 mr_154 s) := by
  intro n
  induction n with
  | zero => intro x2 x3; exact jm_none
  | succ n ih =>
    intro x2 x3
    rw [s_Co_ring_L4]
    refine jm_iload_n (pc := 4) (q := 2) (x := x3) d_Co_ring_4 rfl ?_
    refine jm_bipush (pc := 5) (v := 10) d_Co_ring_5 cb_10 ?_
    refine jm_icmp_ge (pc := 7) (tgt := 85) d_Co_ring_7 (by decide) ?_ ?_
    · refine jm_iload_n (pc := 85) (q := 1) (x := x2) d_Co_ring_85 rfl ?_
      exact jm_iret (pc := 86) (x := x2) d_Co_ring_86 rfl rfl rfl rfl rfl
    · refine jm_iload_n (pc := 10) (q := 1) (x := x2) d_Co_ring_10 rfl ?_
      refine jm_istore (pc := 11) (L2 := [(4, .int x2), (0, .ref 48), (2, .int x2), (3, .int x3)]) d_Co_ring_11 (Nat.le_of_ble_eq_true rfl) rfl ?_
      refine jm_iconst (pc := 13) (v := 0) d_Co_ring_13 ci_0 ?_
      refine jm_istore (pc := 14) (L2 := [(5, .int 0), (4, .int x2), (0, .ref 48), (2, .int x2), (3, .int x3)]) d_Co_ring_14 (Nat.le_of_ble_eq_true rfl) rfl ?_
      refine jm_sub (L2 := [(0, .ref 48), (2, .int x2), (3, .int x3), (4, .int x2), (5, .int 0)]) [2, 3, 4, 1, 0] rfl ?_
      exact s_Co_ring_L16_ok s ih 5000 x2 x3 x2 0
def s_Co_ring (s : jm_M) (a0 : Int32) : Option Int32 := s_Co_ring_L4 s 5000 a0 0
set_option maxRecDepth 100000 in
set_option maxHeartbeats 4000000 in
theorem s_Co_ring_ok (s : jm_M) (a0 : Int32) : jm_Sim mY_Co_ring 0 0 0 [(0, .ref 48), (1, .int a0)] [] 78 mr_154 s (s_Co_ring s a0) (jm_rI 78 mr_154 s) := by
  unfold s_Co_ring
  refine jm_iload_n (pc := 0) (q := 1) (x := a0) d_Co_ring_0 rfl ?_
  refine jm_istore_n (pc := 1) (i := 2) (L2 := [(2, .int a0), (0, .ref 48), (1, .int a0)]) d_Co_ring_1 rfl (Nat.le_of_ble_eq_true rfl) rfl ?_
  refine jm_iconst (pc := 2) (v := 0) d_Co_ring_2 ci_0 ?_
  refine jm_istore_n (pc := 3) (i := 3) (L2 := [(3, .int 0), (2, .int a0), (0, .ref 48), (1, .int a0)]) d_Co_ring_3 rfl (Nat.le_of_ble_eq_true rfl) rfl ?_
  refine jm_sub (L2 := [(0, .ref 48), (2, .int a0), (3, .int 0)]) [2, 1, 0] rfl ?_
  exact s_Co_ring_L4_ok s 5000 a0 0
theorem d_Co_isFooledBy_0 : decode (jm_cd mY_Co_isFooledBy) 0 = .ok (.aload_n 0, 1) := by decide +kernel
theorem d_Co_isFooledBy_1 : decode (jm_cd mY_Co_isFooledBy) 1 = .ok (.getfield 18, 3) := by decide +kernel
theorem d_Co_isFooledBy_4 : decode (jm_cd mY_Co_isFooledBy) 4 = .ok (.ifCond .lt 12, 3) := by decide +kernel
theorem d_Co_isFooledBy_7 : decode (jm_cd mY_Co_isFooledBy) 7 = .ok (.aload_n 0, 1) := by decide +kernel
theorem d_Co_isFooledBy_8 : decode (jm_cd mY_Co_isFooledBy) 8 = .ok (.getfield 18, 3) := by decide +kernel
theorem d_Co_isFooledBy_11 : decode (jm_cd mY_Co_isFooledBy) 11 = .ok (.bipush 10, 2) := by decide +kernel
theorem d_Co_isFooledBy_13 : decode (jm_cd mY_Co_isFooledBy) 13 = .ok (.if_icmp .lt 5, 3) := by decide +kernel
theorem d_Co_isFooledBy_16 : decode (jm_cd mY_Co_isFooledBy) 16 = .ok (.iconst 0, 1) := by decide +kernel
theorem d_Co_isFooledBy_17 : decode (jm_cd mY_Co_isFooledBy) 17 = .ok (.ireturn, 1) := by decide +kernel
theorem d_Co_isFooledBy_18 : decode (jm_cd mY_Co_isFooledBy) 18 = .ok (.aload_n 0, 1) := by decide +kernel
theorem d_Co_isFooledBy_19 : decode (jm_cd mY_Co_isFooledBy) 19 = .ok (.getfield 27, 3) := by decide +kernel
theorem d_Co_isFooledBy_22 : decode (jm_cd mY_Co_isFooledBy) 22 = .ok (.aload_n 0, 1) := by decide +kernel
theorem d_Co_isFooledBy_23 : decode (jm_cd mY_Co_isFooledBy) 23 = .ok (.getfield 18, 3) := by decide +kernel
theorem d_Co_isFooledBy_26 : decode (jm_cd mY_Co_isFooledBy) 26 = .ok (.iaload, 1) := by decide +kernel
theorem d_Co_isFooledBy_27 : decode (jm_cd mY_Co_isFooledBy) 27 = .ok (.aload_n 0, 1) := by decide +kernel
theorem d_Co_isFooledBy_28 : decode (jm_cd mY_Co_isFooledBy) 28 = .ok (.iload_n 1, 1) := by decide +kernel
theorem d_Co_isFooledBy_29 : decode (jm_cd mY_Co_isFooledBy) 29 = .ok (.invokevirtual 63, 3) := by decide +kernel
theorem d_Co_isFooledBy_32 : decode (jm_cd mY_Co_isFooledBy) 32 = .ok (.iand, 1) := by decide +kernel
theorem d_Co_isFooledBy_33 : decode (jm_cd mY_Co_isFooledBy) 33 = .ok (.invokestatic 58, 3) := by decide +kernel
theorem d_Co_isFooledBy_36 : decode (jm_cd mY_Co_isFooledBy) 36 = .ok (.aload_n 0, 1) := by decide +kernel
theorem d_Co_isFooledBy_37 : decode (jm_cd mY_Co_isFooledBy) 37 = .ok (.getfield 31, 3) := by decide +kernel
theorem d_Co_isFooledBy_40 : decode (jm_cd mY_Co_isFooledBy) 40 = .ok (.aload_n 0, 1) := by decide +kernel
theorem d_Co_isFooledBy_41 : decode (jm_cd mY_Co_isFooledBy) 41 = .ok (.getfield 18, 3) := by decide +kernel
theorem d_Co_isFooledBy_44 : decode (jm_cd mY_Co_isFooledBy) 44 = .ok (.iaload, 1) := by decide +kernel
theorem d_Co_isFooledBy_45 : decode (jm_cd mY_Co_isFooledBy) 45 = .ok (.if_icmp .lt 7, 3) := by decide +kernel
theorem d_Co_isFooledBy_48 : decode (jm_cd mY_Co_isFooledBy) 48 = .ok (.iconst 1, 1) := by decide +kernel
theorem d_Co_isFooledBy_49 : decode (jm_cd mY_Co_isFooledBy) 49 = .ok (.goto 4, 3) := by decide +kernel
theorem d_Co_isFooledBy_52 : decode (jm_cd mY_Co_isFooledBy) 52 = .ok (.iconst 0, 1) := by decide +kernel
theorem d_Co_isFooledBy_53 : decode (jm_cd mY_Co_isFooledBy) 53 = .ok (.ireturn, 1) := by decide +kernel
def s_Co_isFooledBy (s : jm_M) (a0 : Int32) : Option Int32 := (if (s.1 48 2) < 0 then (some 0) else (if (s.1 48 2) < 10 then jm_ldi s 49 10 (s.1 48 2) (fun v1 => jm_bd (s_Co_ring s a0) (fun v2 => jm_bd (s_JI_bitCount s (v1 &&& v2)) (fun v3 => jm_ldi s 50 10 (s.1 48 2) (fun v4 => (if v3 < v4 then (some 0) else (some 1)))))) else (some 0)))
set_option maxRecDepth 100000 in
set_option maxHeartbeats 4000000 in
theorem s_Co_isFooledBy_ok (s : jm_M) (a0 : Int32) : jm_Sim mY_Co_isFooledBy 0 0 0 [(0, .ref 48), (1, .int a0)] [] 78 mr_154 s (s_Co_isFooledBy s a0) (jm_rI 78 mr_154 s) := by
  unfold s_Co_isFooledBy
  refine jm_aload_n (pc := 0) (q := 0) (x := 48) d_Co_isFooledBy_0 rfl ?_
  refine jm_gi (pc := 1) (i := 48) d_Co_isFooledBy_1 fo_Co_18 sh_48 ge_48 le_48_78 rfl (fun _ => rfl) ?_
  refine jm_if_lt (pc := 4) (tgt := 16) d_Co_isFooledBy_4 (by decide) ?_ ?_
  · refine jm_iconst (pc := 16) (v := 0) d_Co_isFooledBy_16 ci_0 ?_
    exact jm_iret (pc := 17) (x := 0) d_Co_isFooledBy_17 rfl (by decide) rfl rfl rfl
  · refine jm_aload_n (pc := 7) (q := 0) (x := 48) d_Co_isFooledBy_7 rfl ?_
    refine jm_gi (pc := 8) (i := 48) d_Co_isFooledBy_8 fo_Co_18 sh_48 ge_48 le_48_78 rfl (fun _ => rfl) ?_
    refine jm_bipush (pc := 11) (v := 10) d_Co_isFooledBy_11 cb_10 ?_
    refine jm_icmp_lt (pc := 13) (tgt := 18) d_Co_isFooledBy_13 (by decide) ?_ ?_
    · refine jm_aload_n (pc := 18) (q := 0) (x := 48) d_Co_isFooledBy_18 rfl ?_
      refine jm_gr (pc := 19) (i := 48) d_Co_isFooledBy_19 fo_Co_27 sh_48 ge_48 le_48_78 rfl (fun _ => rfl) mr_154_48_5 ge_49 ?_
      refine jm_aload_n (pc := 22) (q := 0) (x := 48) d_Co_isFooledBy_22 rfl ?_
      refine jm_gi (pc := 23) (i := 48) d_Co_isFooledBy_23 fo_Co_18 sh_48 ge_48 le_48_78 rfl (fun _ => rfl) ?_
      refine jm_iald (pc := 26) d_Co_isFooledBy_26 sh_49 ge_49 le_49_78 (fun v1 => ?_)
      refine jm_aload_n (pc := 27) (q := 0) (x := 48) d_Co_isFooledBy_27 rfl ?_
      refine jm_iload_n (pc := 28) (q := 1) (x := a0) d_Co_isFooledBy_28 rfl ?_
      refine jm_Vp (pc := 29) (Y' := mY_Co_ring) (i := 48) (avs := [.int a0]) (rest := [.int v1]) (s_Co_ring_ok s a0) ok_Co_ring l0_Co_isFooledBy__Co_ring ml_Co_63 im_Co_ring se_Co_ring d_Co_isFooledBy_29 rfl sh_48 rfl rfl ge_48 le_48_78 rfl (Nat.le_of_ble_eq_true rfl) (Nat.le_of_ble_eq_true rfl) (Nat.le_of_ble_eq_true rfl) (Nat.le_of_ble_eq_true rfl) (fun v2 => ?_)
      refine jm_iand (pc := 32) d_Co_isFooledBy_32 ?_
      refine jm_Sp (pc := 33) (Y' := mY_JI_bitCount) (avs := [.int (v1 &&& v2)]) (rest := []) (s_JI_bitCount_ok s (v1 &&& v2)) ok_JI_bitCount l0_Co_isFooledBy__JI_bitCount ml_Co_58 sm_JI_bitCount d_Co_isFooledBy_33 rfl rfl (Nat.le_of_ble_eq_true rfl) (Nat.le_of_ble_eq_true rfl) (Nat.le_of_ble_eq_true rfl) (Nat.le_of_ble_eq_true rfl) (fun v3 => ?_)
      refine jm_aload_n (pc := 36) (q := 0) (x := 48) d_Co_isFooledBy_36 rfl ?_
      refine jm_gr (pc := 37) (i := 48) d_Co_isFooledBy_37 fo_Co_31 sh_48 ge_48 le_48_78 rfl (fun _ => rfl) mr_154_48_6 ge_50 ?_
      refine jm_aload_n (pc := 40) (q := 0) (x := 48) d_Co_isFooledBy_40 rfl ?_
      refine jm_gi (pc := 41) (i := 48) d_Co_isFooledBy_41 fo_Co_18 sh_48 ge_48 le_48_78 rfl (fun _ => rfl) ?_
      refine jm_iald (pc := 44) d_Co_isFooledBy_44 sh_50 ge_50 le_50_78 (fun v4 => ?_)
      refine jm_icmp_lt (pc := 45) (tgt := 52) d_Co_isFooledBy_45 (by decide) ?_ ?_
      · refine jm_iconst (pc := 52) (v := 0) d_Co_isFooledBy_52 ci_0 ?_
        exact jm_iret (pc := 53) (x := 0) d_Co_isFooledBy_53 rfl (by decide) rfl rfl rfl
      · refine jm_iconst (pc := 48) (v := 1) d_Co_isFooledBy_48 ci_1 ?_
        refine jm_goto (pc := 49) (tgt := 53) d_Co_isFooledBy_49 (by decide) ?_
        exact jm_iret (pc := 53) (x := 1) d_Co_isFooledBy_53 rfl (by decide) rfl rfl rfl
    · refine jm_iconst (pc := 16) (v := 0) d_Co_isFooledBy_16 ci_0 ?_
      exact jm_iret (pc := 17) (x := 0) d_Co_isFooledBy_17 rfl (by decide) rfl rfl rfl
theorem d_X_falseBy_0 : decode (jm_cd mY_X_falseBy) 0 = .ok (.iload_n 1, 1) := by decide +kernel
theorem d_X_falseBy_1 : decode (jm_cd mY_X_falseBy) 1 = .ok (.aload_n 0, 1) := by decide +kernel
theorem d_X_falseBy_2 : decode (jm_cd mY_X_falseBy) 2 = .ok (.getfield 31, 3) := by decide +kernel
theorem d_X_falseBy_5 : decode (jm_cd mY_X_falseBy) 5 = .ok (.invokevirtual 148, 3) := by decide +kernel
theorem d_X_falseBy_8 : decode (jm_cd mY_X_falseBy) 8 = .ok (.iconst (-1), 1) := by decide +kernel
theorem d_X_falseBy_9 : decode (jm_cd mY_X_falseBy) 9 = .ok (.ixor, 1) := by decide +kernel
theorem d_X_falseBy_10 : decode (jm_cd mY_X_falseBy) 10 = .ok (.iand, 1) := by decide +kernel
theorem d_X_falseBy_11 : decode (jm_cd mY_X_falseBy) 11 = .ok (.ifCond .eq 5, 3) := by decide +kernel
theorem d_X_falseBy_14 : decode (jm_cd mY_X_falseBy) 14 = .ok (.iconst (-1), 1) := by decide +kernel
theorem d_X_falseBy_15 : decode (jm_cd mY_X_falseBy) 15 = .ok (.ireturn, 1) := by decide +kernel
theorem d_X_falseBy_16 : decode (jm_cd mY_X_falseBy) 16 = .ok (.aload_n 0, 1) := by decide +kernel
theorem d_X_falseBy_17 : decode (jm_cd mY_X_falseBy) 17 = .ok (.getfield 31, 3) := by decide +kernel
theorem d_X_falseBy_20 : decode (jm_cd mY_X_falseBy) 20 = .ok (.invokevirtual 141, 3) := by decide +kernel
theorem d_X_falseBy_23 : decode (jm_cd mY_X_falseBy) 23 = .ok (.ifCond .ne 6, 3) := by decide +kernel
theorem d_X_falseBy_26 : decode (jm_cd mY_X_falseBy) 26 = .ok (.bipush (-2), 2) := by decide +kernel
theorem d_X_falseBy_28 : decode (jm_cd mY_X_falseBy) 28 = .ok (.ireturn, 1) := by decide +kernel
theorem d_X_falseBy_29 : decode (jm_cd mY_X_falseBy) 29 = .ok (.aload_n 0, 1) := by decide +kernel
theorem d_X_falseBy_30 : decode (jm_cd mY_X_falseBy) 30 = .ok (.getfield 57, 3) := by decide +kernel
theorem d_X_falseBy_33 : decode (jm_cd mY_X_falseBy) 33 = .ok (.aload_n 0, 1) := by decide +kernel
theorem d_X_falseBy_34 : decode (jm_cd mY_X_falseBy) 34 = .ok (.getfield 31, 3) := by decide +kernel
theorem d_X_falseBy_37 : decode (jm_cd mY_X_falseBy) 37 = .ok (.invokevirtual 152, 3) := by decide +kernel
theorem d_X_falseBy_40 : decode (jm_cd mY_X_falseBy) 40 = .ok (.aload_n 0, 1) := by decide +kernel
theorem d_X_falseBy_41 : decode (jm_cd mY_X_falseBy) 41 = .ok (.getfield 57, 3) := by decide +kernel
theorem d_X_falseBy_44 : decode (jm_cd mY_X_falseBy) 44 = .ok (.iload_n 1, 1) := by decide +kernel
theorem d_X_falseBy_45 : decode (jm_cd mY_X_falseBy) 45 = .ok (.invokevirtual 155, 3) := by decide +kernel
theorem d_X_falseBy_48 : decode (jm_cd mY_X_falseBy) 48 = .ok (.ifCond .eq 7, 3) := by decide +kernel
theorem d_X_falseBy_51 : decode (jm_cd mY_X_falseBy) 51 = .ok (.iconst 1, 1) := by decide +kernel
theorem d_X_falseBy_52 : decode (jm_cd mY_X_falseBy) 52 = .ok (.goto 4, 3) := by decide +kernel
theorem d_X_falseBy_55 : decode (jm_cd mY_X_falseBy) 55 = .ok (.iconst 0, 1) := by decide +kernel
theorem d_X_falseBy_56 : decode (jm_cd mY_X_falseBy) 56 = .ok (.ireturn, 1) := by decide +kernel
def s_X_falseBy (s : jm_M) (a0 : Int32) : Option (Int32 × jm_M) := jm_bd (s_Ne_folk_15 s) (fun v1 => (if (a0 &&& (v1 ^^^ (-1))) = 0 then jm_bd (s_Ne_hasEar_15 s) (fun v2 => (if v2 = 0 then (some ((-2), s)) else jm_bd (s_Co_study_48_15 s) (fun s3 => jm_bd (s_Co_isFooledBy s3 a0) (fun v4 => (if v4 = 0 then (some (0, s3)) else (some (1, s3))))))) else (some ((-1), s))))
set_option maxRecDepth 100000 in
set_option maxHeartbeats 4000000 in
theorem s_X_falseBy_ok (s : jm_M) (a0 : Int32) : jm_Sim mY_X_falseBy 0 0 0 [(0, .ref 1), (1, .int a0)] [] 78 mr_154 s (s_X_falseBy s a0) (jm_rP 78 mr_154) := by
  unfold s_X_falseBy
  refine jm_iload_n (pc := 0) (q := 1) (x := a0) d_X_falseBy_0 rfl ?_
  refine jm_aload_n (pc := 1) (q := 0) (x := 1) d_X_falseBy_1 rfl ?_
  refine jm_gr (pc := 2) (i := 1) d_X_falseBy_2 fo_X_31 sh_1 ge_1 le_1_78 rfl (fun _ => rfl) mr_154_1_4 ge_15 ?_
  refine jm_Vp (pc := 5) (Y' := mY_Ne_folk) (i := 15) (avs := []) (rest := [.int a0]) (s_Ne_folk_15_ok s) ok_Ne_folk l0_X_falseBy__Ne_folk ml_X_148 im_Ne_folk se_Ne_folk d_X_falseBy_5 rfl sh_15 rfl rfl ge_15 le_15_78 rfl (Nat.le_of_ble_eq_true rfl) (Nat.le_of_ble_eq_true rfl) (Nat.le_of_ble_eq_true rfl) (Nat.le_of_ble_eq_true rfl) (fun v1 => ?_)
  refine jm_iconst (pc := 8) (v := (-1)) d_X_falseBy_8 ci_m1 ?_
  refine jm_ixor (pc := 9) d_X_falseBy_9 ?_
  refine jm_iand (pc := 10) d_X_falseBy_10 ?_
  refine jm_if_eq (pc := 11) (tgt := 16) d_X_falseBy_11 (by decide) ?_ ?_
  · refine jm_aload_n (pc := 16) (q := 0) (x := 1) d_X_falseBy_16 rfl ?_
    refine jm_gr (pc := 17) (i := 1) d_X_falseBy_17 fo_X_31 sh_1 ge_1 le_1_78 rfl (fun _ => rfl) mr_154_1_4 ge_15 ?_
    refine jm_Vp (pc := 20) (Y' := mY_Ne_hasEar) (i := 15) (avs := []) (rest := []) (s_Ne_hasEar_15_ok s) ok_Ne_hasEar l0_X_falseBy__Ne_hasEar ml_X_141 im_Ne_hasEar se_Ne_hasEar d_X_falseBy_20 rfl sh_15 rfl rfl ge_15 le_15_78 rfl (Nat.le_of_ble_eq_true rfl) (Nat.le_of_ble_eq_true rfl) (Nat.le_of_ble_eq_true rfl) (Nat.le_of_ble_eq_true rfl) (fun v2 => ?_)
    refine jm_if_ne (pc := 23) (tgt := 29) d_X_falseBy_23 (by decide) ?_ ?_
    · refine jm_bipush (pc := 26) (v := (-2)) d_X_falseBy_26 cb_m2 ?_
      exact jm_iret (pc := 28) (x := (-2)) d_X_falseBy_28 rfl rfl rfl rfl rfl
    · refine jm_aload_n (pc := 29) (q := 0) (x := 1) d_X_falseBy_29 rfl ?_
      refine jm_gr (pc := 30) (i := 1) d_X_falseBy_30 fo_X_57 sh_1 ge_1 le_1_78 rfl (fun _ => rfl) mr_154_1_10 ge_48 ?_
      refine jm_aload_n (pc := 33) (q := 0) (x := 1) d_X_falseBy_33 rfl ?_
      refine jm_gr (pc := 34) (i := 1) d_X_falseBy_34 fo_X_31 sh_1 ge_1 le_1_78 rfl (fun _ => rfl) mr_154_1_4 ge_15 ?_
      refine jm_Vv (pc := 37) (Y' := mY_Co_study) (i := 48) (avs := [.ref 15]) (rest := []) (s_Co_study_48_15_ok s) ok_Co_study l0_X_falseBy__Co_study ml_X_152 im_Co_study se_Co_study d_X_falseBy_37 rfl sh_48 rfl rfl ge_48 le_48_78 rfl (Nat.le_of_ble_eq_true rfl) (Nat.le_of_ble_eq_true rfl) (Nat.le_of_ble_eq_true rfl) (Nat.le_of_ble_eq_true rfl) (fun s3 => ?_)
      refine jm_aload_n (pc := 40) (q := 0) (x := 1) d_X_falseBy_40 rfl ?_
      refine jm_gr (pc := 41) (i := 1) d_X_falseBy_41 fo_X_57 sh_1 ge_1 le_1_78 rfl (fun _ => rfl) mr_154_1_10 ge_48 ?_
      refine jm_iload_n (pc := 44) (q := 1) (x := a0) d_X_falseBy_44 rfl ?_
      refine jm_Vp (pc := 45) (Y' := mY_Co_isFooledBy) (i := 48) (avs := [.int a0]) (rest := []) (s_Co_isFooledBy_ok s3 a0) ok_Co_isFooledBy l0_X_falseBy__Co_isFooledBy ml_X_155 im_Co_isFooledBy se_Co_isFooledBy d_X_falseBy_45 rfl sh_48 rfl rfl ge_48 le_48_78 rfl (Nat.le_of_ble_eq_true rfl) (Nat.le_of_ble_eq_true rfl) (Nat.le_of_ble_eq_true rfl) (Nat.le_of_ble_eq_true rfl) (fun v4 => ?_)
      refine jm_if_eq (pc := 48) (tgt := 55) d_X_falseBy_48 (by decide) ?_ ?_
      · refine jm_iconst (pc := 55) (v := 0) d_X_falseBy_55 ci_0 ?_
        exact jm_iret (pc := 56) (x := 0) d_X_falseBy_56 rfl rfl rfl rfl rfl
      · refine jm_iconst (pc := 51) (v := 1) d_X_falseBy_51 ci_1 ?_
        refine jm_goto (pc := 52) (tgt := 56) d_X_falseBy_52 (by decide) ?_
        exact jm_iret (pc := 56) (x := 1) d_X_falseBy_56 rfl rfl rfl rfl rfl
  · refine jm_iconst (pc := 14) (v := (-1)) d_X_falseBy_14 ci_m1 ?_
    exact jm_iret (pc := 15) (x := (-1)) d_X_falseBy_15 rfl rfl rfl rfl rfl
theorem d_Z_asTold_0 : decode (jm_cd mY_Z_asTold) 0 = .ok (.aload_n 0, 1) := by decide +kernel
theorem d_Z_asTold_1 : decode (jm_cd mY_Z_asTold) 1 = .ok (.iconst 0, 1) := by decide +kernel
theorem d_Z_asTold_2 : decode (jm_cd mY_Z_asTold) 2 = .ok (.putfield 171, 3) := by decide +kernel
theorem d_Z_asTold_5 : decode (jm_cd mY_Z_asTold) 5 = .ok (.iconst 0, 1) := by decide +kernel
theorem d_Z_asTold_6 : decode (jm_cd mY_Z_asTold) 6 = .ok (.istore_n 1, 1) := by decide +kernel
theorem d_Z_asTold_7 : decode (jm_cd mY_Z_asTold) 7 = .ok (.iload_n 1, 1) := by decide +kernel
theorem d_Z_asTold_8 : decode (jm_cd mY_Z_asTold) 8 = .ok (.aload_n 0, 1) := by decide +kernel
theorem d_Z_asTold_9 : decode (jm_cd mY_Z_asTold) 9 = .ok (.getfield 13, 3) := by decide +kernel
theorem d_Z_asTold_12 : decode (jm_cd mY_Z_asTold) 12 = .ok (.iconst 0, 1) := by decide +kernel
theorem d_Z_asTold_13 : decode (jm_cd mY_Z_asTold) 13 = .ok (.iaload, 1) := by decide +kernel
theorem d_Z_asTold_14 : decode (jm_cd mY_Z_asTold) 14 = .ok (.if_icmp .ge 35, 3) := by decide +kernel
theorem d_Z_asTold_17 : decode (jm_cd mY_Z_asTold) 17 = .ok (.aload_n 0, 1) := by decide +kernel
theorem d_Z_asTold_18 : decode (jm_cd mY_Z_asTold) 18 = .ok (.dup, 1) := by decide +kernel
theorem d_Z_asTold_19 : decode (jm_cd mY_Z_asTold) 19 = .ok (.getfield 171, 3) := by decide +kernel
theorem d_Z_asTold_22 : decode (jm_cd mY_Z_asTold) 22 = .ok (.aload_n 0, 1) := by decide +kernel
theorem d_Z_asTold_23 : decode (jm_cd mY_Z_asTold) 23 = .ok (.getfield 16, 3) := by decide +kernel
theorem d_Z_asTold_26 : decode (jm_cd mY_Z_asTold) 26 = .ok (.iload_n 1, 1) := by decide +kernel
theorem d_Z_asTold_27 : decode (jm_cd mY_Z_asTold) 27 = .ok (.iaload, 1) := by decide +kernel
theorem d_Z_asTold_28 : decode (jm_cd mY_Z_asTold) 28 = .ok (.iconst 3, 1) := by decide +kernel
theorem d_Z_asTold_29 : decode (jm_cd mY_Z_asTold) 29 = .ok (.if_icmp .ge 9, 3) := by decide +kernel
theorem d_Z_asTold_32 : decode (jm_cd mY_Z_asTold) 32 = .ok (.iconst 1, 1) := by decide +kernel
theorem d_Z_asTold_33 : decode (jm_cd mY_Z_asTold) 33 = .ok (.iload_n 1, 1) := by decide +kernel
theorem d_Z_asTold_34 : decode (jm_cd mY_Z_asTold) 34 = .ok (.ishl, 1) := by decide +kernel
theorem d_Z_asTold_35 : decode (jm_cd mY_Z_asTold) 35 = .ok (.goto 4, 3) := by decide +kernel
theorem d_Z_asTold_38 : decode (jm_cd mY_Z_asTold) 38 = .ok (.iconst 0, 1) := by decide +kernel
theorem d_Z_asTold_39 : decode (jm_cd mY_Z_asTold) 39 = .ok (.ior, 1) := by decide +kernel
theorem d_Z_asTold_40 : decode (jm_cd mY_Z_asTold) 40 = .ok (.putfield 171, 3) := by decide +kernel
theorem d_Z_asTold_43 : decode (jm_cd mY_Z_asTold) 43 = .ok (.iinc 1 1, 3) := by decide +kernel
theorem d_Z_asTold_46 : decode (jm_cd mY_Z_asTold) 46 = .ok (.goto (-39), 3) := by decide +kernel
theorem d_Z_asTold_49 : decode (jm_cd mY_Z_asTold) 49 = .ok (.aload_n 0, 1) := by decide +kernel
theorem d_Z_asTold_50 : decode (jm_cd mY_Z_asTold) 50 = .ok (.iconst 0, 1) := by decide +kernel
theorem d_Z_asTold_51 : decode (jm_cd mY_Z_asTold) 51 = .ok (.putfield 174, 3) := by decide +kernel
theorem d_Z_asTold_54 : decode (jm_cd mY_Z_asTold) 54 = .ok (.aload_n 0, 1) := by decide +kernel
theorem d_Z_asTold_55 : decode (jm_cd mY_Z_asTold) 55 = .ok (.iconst 0, 1) := by decide +kernel
theorem d_Z_asTold_56 : decode (jm_cd mY_Z_asTold) 56 = .ok (.putfield 177, 3) := by decide +kernel
theorem d_Z_asTold_59 : decode (jm_cd mY_Z_asTold) 59 = .ok (.aload_n 0, 1) := by decide +kernel
theorem d_Z_asTold_60 : decode (jm_cd mY_Z_asTold) 60 = .ok (.bipush (-4), 2) := by decide +kernel
theorem d_Z_asTold_62 : decode (jm_cd mY_Z_asTold) 62 = .ok (.putfield 180, 3) := by decide +kernel
theorem d_Z_asTold_65 : decode (jm_cd mY_Z_asTold) 65 = .ok (.aload_n 0, 1) := by decide +kernel
theorem d_Z_asTold_66 : decode (jm_cd mY_Z_asTold) 66 = .ok (.bipush (-4), 2) := by decide +kernel
theorem d_Z_asTold_68 : decode (jm_cd mY_Z_asTold) 68 = .ok (.putfield 183, 3) := by decide +kernel
theorem d_Z_asTold_71 : decode (jm_cd mY_Z_asTold) 71 = .ok (.return_, 1) := by decide +kernel
def s_Z_asTold_J39 (k5 : Int32 → jm_M → Option jm_M) (x1 : Int32) (y0 : Int32) (y1 : Int32) (s : jm_M) : Option jm_M := jm_ev (jm_si s 59 22 (y1 ||| y0)) (fun s8 => k5 (x1 + 1) s8)
set_option maxRecDepth 100000 in
set_option maxHeartbeats 4000000 in
theorem s_Z_asTold_J39_ok {k5 : Int32 → jm_M → Option jm_M} (hk5 : ∀ (x1 : Int32) (s : jm_M), jm_Sim mY_Z_asTold 0 0 7 [(0, .ref 59), (1, .int x1)] [] 78 mr_154 s (k5 x1 s) (jm_rV 78 mr_154)) (x1 : Int32) (y0 : Int32) (y1 : Int32) (s : jm_M) : jm_Sim mY_Z_asTold 0 0 39 [(0, .ref 59), (1, .int x1)] [.int y0, .int y1, .ref 59] 78 mr_154 s (s_Z_asTold_J39 k5 x1 y0 y1 s) (jm_rV 78 mr_154) := by
  unfold s_Z_asTold_J39
  refine jm_ior (pc := 39) d_Z_asTold_39 ?_
  refine jm_pi (pc := 40) (i := 59) d_Z_asTold_40 fp_Z_171 sh_59 ge_59 le_59_78 rfl rfl rfl (fun _ _ _ => rfl) (fun s8 => ?_)
  refine jm_iinc (pc := 43) (q := 1) (x := x1) (v := 1) (L2 := [(1, .int (x1 + 1)), (0, .ref 59)]) d_Z_asTold_43 rfl ci_1 (Nat.le_of_ble_eq_true rfl) rfl ?_
  refine jm_goto (pc := 46) (tgt := 7) d_Z_asTold_46 (by decide) ?_
  refine jm_sub (L2 := [(0, .ref 59), (1, .int (x1 + 1))]) [1, 0] rfl ?_
  exact hk5 (x1 + 1) s8
def s_Z_asTold_L7 : Nat → Int32 → jm_M → Option jm_M
  | 0, _, _ => none
  | n + 1, x1, s => jm_ldi s 61 4 0 (fun v2 => (if v2 ≤ x1 then jm_ev (jm_si s 59 23 0) (fun s3 => jm_ev (jm_si s3 59 24 0) (fun s4 => jm_ev (jm_si s4 59 25 (-4)) (fun s5 => jm_ev (jm_si s5 59 26 (-4)) (fun s6 => (some s6))))) else jm_ldi s 62 40 x1 (fun v7 => (if 3 ≤ v7 then s_Z_asTold_J39 (s_Z_asTold_L7 n) x1 0 (s.1 59 22) s else s_Z_asTold_J39 (s_Z_asTold_L7 n) x1 (1 <<< (x1 &&& 31)) (s.1 59 22) s))))
set_option maxRecDepth 100000 in
set_option maxHeartbeats 4000000 in
theorem s_Z_asTold_L7_ok : ∀ (n : Nat) (x1 : Int32) (s : jm_M), jm_Sim mY_Z_asTold 0 0 7 [(0, .ref 59), (1, .int x1)] [] 78 mr_154 s (s_Z_asTold_L7 n x1 s) (jm_rV 78 mr_154) := by
  intro n
  induction n with
  | zero => intro x1 s; exact jm_none
  | succ n ih =>
    intro x1 s
    rw [s_Z_asTold_L7]
    refine jm_iload_n (pc := 7) (q := 1) (x := x1) d_Z_asTold_7 rfl ?_
    refine jm_aload_n (pc := 8) (q := 0) (x := 59) d_Z_asTold_8 rfl ?_
    refine jm_gr (pc := 9) (i := 59) d_Z_asTold_9 fo_Z_13 sh_59 ge_59 le_59_78 rfl (fun _ => rfl) mr_154_59_2 ge_61 ?_
    refine jm_iconst (pc := 12) (v := 0) d_Z_asTold_12 ci_0 ?_
    refine jm_iald (pc := 13) d_Z_asTold_13 sh_61 ge_61 le_61_78 (fun v2 => ?_)
    refine jm_icmp_ge (pc := 14) (tgt := 49) d_Z_asTold_14 (by decide) ?_ ?_
    · refine jm_aload_n (pc := 49) (q := 0) (x := 59) d_Z_asTold_49 rfl ?_
      refine jm_iconst (pc := 50) (v := 0) d_Z_asTold_50 ci_0 ?_
      refine jm_pi (pc := 51) (i := 59) d_Z_asTold_51 fp_Z_174 sh_59 ge_59 le_59_78 rfl rfl rfl (fun _ _ _ => rfl) (fun s3 => ?_)
      refine jm_aload_n (pc := 54) (q := 0) (x := 59) d_Z_asTold_54 rfl ?_
      refine jm_iconst (pc := 55) (v := 0) d_Z_asTold_55 ci_0 ?_
      refine jm_pi (pc := 56) (i := 59) d_Z_asTold_56 fp_Z_177 sh_59 ge_59 le_59_78 rfl rfl rfl (fun _ _ _ => rfl) (fun s4 => ?_)
      refine jm_aload_n (pc := 59) (q := 0) (x := 59) d_Z_asTold_59 rfl ?_
      refine jm_bipush (pc := 60) (v := (-4)) d_Z_asTold_60 cb_m4 ?_
      refine jm_pi (pc := 62) (i := 59) d_Z_asTold_62 fp_Z_180 sh_59 ge_59 le_59_78 rfl rfl rfl (fun _ _ _ => rfl) (fun s5 => ?_)
      refine jm_aload_n (pc := 65) (q := 0) (x := 59) d_Z_asTold_65 rfl ?_
      refine jm_bipush (pc := 66) (v := (-4)) d_Z_asTold_66 cb_m4 ?_
      refine jm_pi (pc := 68) (i := 59) d_Z_asTold_68 fp_Z_183 sh_59 ge_59 le_59_78 rfl rfl rfl (fun _ _ _ => rfl) (fun s6 => ?_)
      exact jm_vret (pc := 71) d_Z_asTold_71 rfl rfl rfl rfl
    · refine jm_aload_n (pc := 17) (q := 0) (x := 59) d_Z_asTold_17 rfl ?_
      refine jm_dup (pc := 18) d_Z_asTold_18 rfl ?_
      refine jm_gi (pc := 19) (i := 59) d_Z_asTold_19 fo_Z_171 sh_59 ge_59 le_59_78 rfl (fun _ => rfl) ?_
      refine jm_aload_n (pc := 22) (q := 0) (x := 59) d_Z_asTold_22 rfl ?_
      refine jm_gr (pc := 23) (i := 59) d_Z_asTold_23 fo_Z_16 sh_59 ge_59 le_59_78 rfl (fun _ => rfl) mr_154_59_3 ge_62 ?_
      refine jm_iload_n (pc := 26) (q := 1) (x := x1) d_Z_asTold_26 rfl ?_
      refine jm_iald (pc := 27) d_Z_asTold_27 sh_62 ge_62 le_62_78 (fun v7 => ?_)
      refine jm_iconst (pc := 28) (v := 3) d_Z_asTold_28 ci_3 ?_
      refine jm_icmp_ge (pc := 29) (tgt := 38) d_Z_asTold_29 (by decide) ?_ ?_
      · refine jm_iconst (pc := 38) (v := 0) d_Z_asTold_38 ci_0 ?_
        exact s_Z_asTold_J39_ok ih x1 0 (s.1 59 22) s
      · refine jm_iconst (pc := 32) (v := 1) d_Z_asTold_32 ci_1 ?_
        refine jm_iload_n (pc := 33) (q := 1) (x := x1) d_Z_asTold_33 rfl ?_
        refine jm_ishl (pc := 34) d_Z_asTold_34 ?_
        refine jm_goto (pc := 35) (tgt := 39) d_Z_asTold_35 (by decide) ?_
        exact s_Z_asTold_J39_ok ih x1 (1 <<< (x1 &&& 31)) (s.1 59 22) s
def s_Z_asTold (s : jm_M) : Option jm_M := jm_ev (jm_si s 59 22 0) (fun s1 => s_Z_asTold_L7 5000 0 s1)
set_option maxRecDepth 100000 in
set_option maxHeartbeats 4000000 in
theorem s_Z_asTold_ok (s : jm_M) : jm_Sim mY_Z_asTold 0 0 0 [(0, .ref 59)] [] 78 mr_154 s (s_Z_asTold s) (jm_rV 78 mr_154) := by
  unfold s_Z_asTold
  refine jm_aload_n (pc := 0) (q := 0) (x := 59) d_Z_asTold_0 rfl ?_
  refine jm_iconst (pc := 1) (v := 0) d_Z_asTold_1 ci_0 ?_
  refine jm_pi (pc := 2) (i := 59) d_Z_asTold_2 fp_Z_171 sh_59 ge_59 le_59_78 rfl rfl rfl (fun _ _ _ => rfl) (fun s1 => ?_)
  refine jm_iconst (pc := 5) (v := 0) d_Z_asTold_5 ci_0 ?_
  refine jm_istore_n (pc := 6) (i := 1) (L2 := [(1, .int 0), (0, .ref 59)]) d_Z_asTold_6 rfl (Nat.le_of_ble_eq_true rfl) rfl ?_
  refine jm_sub (L2 := [(0, .ref 59), (1, .int 0)]) [1, 0] rfl ?_
  exact s_Z_asTold_L7_ok 5000 0 s1
theorem d_Z_men_0 : decode (jm_cd mY_Z_men) 0 = .ok (.aload_n 0, 1) := by decide +kernel
theorem d_Z_men_1 : decode (jm_cd mY_Z_men) 1 = .ok (.getfield 171, 3) := by decide +kernel
theorem d_Z_men_4 : decode (jm_cd mY_Z_men) 4 = .ok (.aload_n 0, 1) := by decide +kernel
theorem d_Z_men_5 : decode (jm_cd mY_Z_men) 5 = .ok (.iconst 2, 1) := by decide +kernel
theorem d_Z_men_6 : decode (jm_cd mY_Z_men) 6 = .ok (.invokevirtual 143, 3) := by decide +kernel
theorem d_Z_men_9 : decode (jm_cd mY_Z_men) 9 = .ok (.iconst (-1), 1) := by decide +kernel
theorem d_Z_men_10 : decode (jm_cd mY_Z_men) 10 = .ok (.ixor, 1) := by decide +kernel
theorem d_Z_men_11 : decode (jm_cd mY_Z_men) 11 = .ok (.iand, 1) := by decide +kernel
theorem d_Z_men_12 : decode (jm_cd mY_Z_men) 12 = .ok (.ireturn, 1) := by decide +kernel
def s_Z_men (s : jm_M) : Option Int32 := jm_bd (s_Z_ofKind s 2) (fun v1 => (some ((s.1 59 22) &&& (v1 ^^^ (-1)))))
set_option maxRecDepth 100000 in
set_option maxHeartbeats 4000000 in
theorem s_Z_men_ok (s : jm_M) : jm_Sim mY_Z_men 0 0 0 [(0, .ref 59)] [] 78 mr_154 s (s_Z_men s) (jm_rI 78 mr_154 s) := by
  unfold s_Z_men
  refine jm_aload_n (pc := 0) (q := 0) (x := 59) d_Z_men_0 rfl ?_
  refine jm_gi (pc := 1) (i := 59) d_Z_men_1 fo_Z_171 sh_59 ge_59 le_59_78 rfl (fun _ => rfl) ?_
  refine jm_aload_n (pc := 4) (q := 0) (x := 59) d_Z_men_4 rfl ?_
  refine jm_iconst (pc := 5) (v := 2) d_Z_men_5 ci_2 ?_
  refine jm_Vp (pc := 6) (Y' := mY_Z_ofKind) (i := 59) (avs := [.int 2]) (rest := [.int (s.1 59 22)]) (s_Z_ofKind_ok s 2) ok_Z_ofKind l0_Z_men__Z_ofKind ml_Z_143 im_Z_ofKind se_Z_ofKind d_Z_men_6 rfl sh_59 rfl rfl ge_59 le_59_78 rfl (Nat.le_of_ble_eq_true rfl) (Nat.le_of_ble_eq_true rfl) (Nat.le_of_ble_eq_true rfl) (Nat.le_of_ble_eq_true rfl) (fun v1 => ?_)
  refine jm_iconst (pc := 9) (v := (-1)) d_Z_men_9 ci_m1 ?_
  refine jm_ixor (pc := 10) d_Z_men_10 ?_
  refine jm_iand (pc := 11) d_Z_men_11 ?_
  exact jm_iret (pc := 12) (x := (s.1 59 22) &&& (v1 ^^^ (-1))) d_Z_men_12 rfl rfl rfl rfl rfl
theorem d_Z_kindle_0 : decode (jm_cd mY_Z_kindle) 0 = .ok (.iconst 0, 1) := by decide +kernel
theorem d_Z_kindle_1 : decode (jm_cd mY_Z_kindle) 1 = .ok (.istore_n 3, 1) := by decide +kernel
theorem d_Z_kindle_2 : decode (jm_cd mY_Z_kindle) 2 = .ok (.iload_n 3, 1) := by decide +kernel
theorem d_Z_kindle_3 : decode (jm_cd mY_Z_kindle) 3 = .ok (.aload_n 0, 1) := by decide +kernel
theorem d_Z_kindle_4 : decode (jm_cd mY_Z_kindle) 4 = .ok (.getfield 13, 3) := by decide +kernel
theorem d_Z_kindle_7 : decode (jm_cd mY_Z_kindle) 7 = .ok (.iconst 0, 1) := by decide +kernel
theorem d_Z_kindle_8 : decode (jm_cd mY_Z_kindle) 8 = .ok (.iaload, 1) := by decide +kernel
theorem d_Z_kindle_9 : decode (jm_cd mY_Z_kindle) 9 = .ok (.if_icmp .ge 29, 3) := by decide +kernel
theorem d_Z_kindle_12 : decode (jm_cd mY_Z_kindle) 12 = .ok (.aload_n 0, 1) := by decide +kernel
theorem d_Z_kindle_13 : decode (jm_cd mY_Z_kindle) 13 = .ok (.getfield 58, 3) := by decide +kernel
theorem d_Z_kindle_16 : decode (jm_cd mY_Z_kindle) 16 = .ok (.iload_n 3, 1) := by decide +kernel
theorem d_Z_kindle_17 : decode (jm_cd mY_Z_kindle) 17 = .ok (.iload_n 1, 1) := by decide +kernel
theorem d_Z_kindle_18 : decode (jm_cd mY_Z_kindle) 18 = .ok (.iload_n 3, 1) := by decide +kernel
theorem d_Z_kindle_19 : decode (jm_cd mY_Z_kindle) 19 = .ok (.invokestatic 99, 3) := by decide +kernel
theorem d_Z_kindle_22 : decode (jm_cd mY_Z_kindle) 22 = .ok (.ifCond .eq 7, 3) := by decide +kernel
theorem d_Z_kindle_25 : decode (jm_cd mY_Z_kindle) 25 = .ok (.iload_n 2, 1) := by decide +kernel
theorem d_Z_kindle_26 : decode (jm_cd mY_Z_kindle) 26 = .ok (.goto 5, 3) := by decide +kernel
theorem d_Z_kindle_29 : decode (jm_cd mY_Z_kindle) 29 = .ok (.ldc 186, 2) := by decide +kernel
theorem d_Z_kindle_31 : decode (jm_cd mY_Z_kindle) 31 = .ok (.iastore, 1) := by decide +kernel
theorem d_Z_kindle_32 : decode (jm_cd mY_Z_kindle) 32 = .ok (.iinc 3 1, 3) := by decide +kernel
theorem d_Z_kindle_35 : decode (jm_cd mY_Z_kindle) 35 = .ok (.goto (-33), 3) := by decide +kernel
theorem d_Z_kindle_38 : decode (jm_cd mY_Z_kindle) 38 = .ok (.return_, 1) := by decide +kernel
def s_Z_kindle_J31 (k2 : Int32 → Int32 → Int32 → jm_M → Option jm_M) (x1 : Int32) (x2 : Int32) (x3 : Int32) (y0 : Int32) (y1 : Int32) (s : jm_M) : Option jm_M := jm_sti s 76 10 y1 y0 (fun s3 => k2 x1 x2 (x3 + 1) s3)
set_option maxRecDepth 100000 in
set_option maxHeartbeats 4000000 in
theorem s_Z_kindle_J31_ok {k2 : Int32 → Int32 → Int32 → jm_M → Option jm_M} (hk2 : ∀ (x1 : Int32) (x2 : Int32) (x3 : Int32) (s : jm_M), jm_Sim mY_Z_kindle 0 0 2 [(0, .ref 59), (1, .int x1), (2, .int x2), (3, .int x3)] [] 78 mr_154 s (k2 x1 x2 x3 s) (jm_rV 78 mr_154)) (x1 : Int32) (x2 : Int32) (x3 : Int32) (y0 : Int32) (y1 : Int32) (s : jm_M) : jm_Sim mY_Z_kindle 0 0 31 [(0, .ref 59), (1, .int x1), (2, .int x2), (3, .int x3)] [.int y0, .int y1, .ref 76] 78 mr_154 s (s_Z_kindle_J31 k2 x1 x2 x3 y0 y1 s) (jm_rV 78 mr_154) := by
  unfold s_Z_kindle_J31
  refine jm_iast (pc := 31) d_Z_kindle_31 sh_76 ge_76 le_76_78 (fun s3 => ?_)
  refine jm_iinc (pc := 32) (q := 3) (x := x3) (v := 1) (L2 := [(3, .int (x3 + 1)), (0, .ref 59), (1, .int x1), (2, .int x2)]) d_Z_kindle_32 rfl ci_1 (Nat.le_of_ble_eq_true rfl) rfl ?_
  refine jm_goto (pc := 35) (tgt := 2) d_Z_kindle_35 (by decide) ?_
  refine jm_sub (L2 := [(0, .ref 59), (1, .int x1), (2, .int x2), (3, .int (x3 + 1))]) [1, 2, 3, 0] rfl ?_
  exact hk2 x1 x2 (x3 + 1) s3
def s_Z_kindle_L2 : Nat → Int32 → Int32 → Int32 → jm_M → Option jm_M
  | 0, _, _, _, _ => none
  | n + 1, x1, x2, x3, s => jm_ldi s 61 4 0 (fun v1 => (if v1 ≤ x3 then (some s) else jm_bd (s_Z_has s x1 x3) (fun v2 => (if v2 = 0 then s_Z_kindle_J31 (s_Z_kindle_L2 n) x1 x2 x3 1000000 x3 s else s_Z_kindle_J31 (s_Z_kindle_L2 n) x1 x2 x3 x2 x3 s))))
set_option maxRecDepth 100000 in
set_option maxHeartbeats 4000000 in
theorem s_Z_kindle_L2_ok : ∀ (n : Nat) (x1 : Int32) (x2 : Int32) (x3 : Int32) (s : jm_M), jm_Sim mY_Z_kindle 0 0 2 [(0, .ref 59), (1, .int x1), (2, .int x2), (3, .int x3)] [] 78 mr_154 s (s_Z_kindle_L2 n x1 x2 x3 s) (jm_rV 78 mr_154) := by
  intro n
  induction n with
  | zero => intro x1 x2 x3 s; exact jm_none
  | succ n ih =>
    intro x1 x2 x3 s
    rw [s_Z_kindle_L2]
    refine jm_iload_n (pc := 2) (q := 3) (x := x3) d_Z_kindle_2 rfl ?_
    refine jm_aload_n (pc := 3) (q := 0) (x := 59) d_Z_kindle_3 rfl ?_
    refine jm_gr (pc := 4) (i := 59) d_Z_kindle_4 fo_Z_13 sh_59 ge_59 le_59_78 rfl (fun _ => rfl) mr_154_59_2 ge_61 ?_
    refine jm_iconst (pc := 7) (v := 0) d_Z_kindle_7 ci_0 ?_
    refine jm_iald (pc := 8) d_Z_kindle_8 sh_61 ge_61 le_61_78 (fun v1 => ?_)
    refine jm_icmp_ge (pc := 9) (tgt := 38) d_Z_kindle_9 (by decide) ?_ ?_
    · exact jm_vret (pc := 38) d_Z_kindle_38 rfl rfl rfl rfl
    · refine jm_aload_n (pc := 12) (q := 0) (x := 59) d_Z_kindle_12 rfl ?_
      refine jm_gr (pc := 13) (i := 59) d_Z_kindle_13 fo_Z_58 sh_59 ge_59 le_59_78 rfl (fun _ => rfl) mr_154_59_27 ge_76 ?_
      refine jm_iload_n (pc := 16) (q := 3) (x := x3) d_Z_kindle_16 rfl ?_
      refine jm_iload_n (pc := 17) (q := 1) (x := x1) d_Z_kindle_17 rfl ?_
      refine jm_iload_n (pc := 18) (q := 3) (x := x3) d_Z_kindle_18 rfl ?_
      refine jm_Sp (pc := 19) (Y' := mY_Z_has) (avs := [.int x1, .int x3]) (rest := [.int x3, .ref 76]) (s_Z_has_ok s x1 x3) ok_Z_has l0_Z_kindle__Z_has ml_Z_99 sm_Z_has d_Z_kindle_19 rfl rfl (Nat.le_of_ble_eq_true rfl) (Nat.le_of_ble_eq_true rfl) (Nat.le_of_ble_eq_true rfl) (Nat.le_of_ble_eq_true rfl) (fun v2 => ?_)
      refine jm_if_eq (pc := 22) (tgt := 29) d_Z_kindle_22 (by decide) ?_ ?_
      · refine jm_ldc (pc := 29) (v := 1000000) d_Z_kindle_29 k_Z_186 ?_
        exact s_Z_kindle_J31_ok ih x1 x2 x3 1000000 x3 s
      · refine jm_iload_n (pc := 25) (q := 2) (x := x2) d_Z_kindle_25 rfl ?_
        refine jm_goto (pc := 26) (tgt := 31) d_Z_kindle_26 (by decide) ?_
        exact s_Z_kindle_J31_ok ih x1 x2 x3 x2 x3 s
def s_Z_kindle (s : jm_M) (a0 : Int32) (a1 : Int32) : Option jm_M := s_Z_kindle_L2 5000 a0 a1 0 s
set_option maxRecDepth 100000 in
set_option maxHeartbeats 4000000 in
theorem s_Z_kindle_ok (s : jm_M) (a0 : Int32) (a1 : Int32) : jm_Sim mY_Z_kindle 0 0 0 [(0, .ref 59), (1, .int a0), (2, .int a1)] [] 78 mr_154 s (s_Z_kindle s a0 a1) (jm_rV 78 mr_154) := by
  unfold s_Z_kindle
  refine jm_iconst (pc := 0) (v := 0) d_Z_kindle_0 ci_0 ?_
  refine jm_istore_n (pc := 1) (i := 3) (L2 := [(3, .int 0), (0, .ref 59), (1, .int a0), (2, .int a1)]) d_Z_kindle_1 rfl (Nat.le_of_ble_eq_true rfl) rfl ?_
  refine jm_sub (L2 := [(0, .ref 59), (1, .int a0), (2, .int a1), (3, .int 0)]) [1, 2, 3, 0] rfl ?_
  exact s_Z_kindle_L2_ok 5000 a0 a1 0 s
theorem d_Z_takes_0 : decode (jm_cd mY_Z_takes) 0 = .ok (.aload_n 0, 1) := by decide +kernel
theorem d_Z_takes_1 : decode (jm_cd mY_Z_takes) 1 = .ok (.getfield 177, 3) := by decide +kernel
theorem d_Z_takes_4 : decode (jm_cd mY_Z_takes) 4 = .ok (.ifCond .le 10, 3) := by decide +kernel
theorem d_Z_takes_7 : decode (jm_cd mY_Z_takes) 7 = .ok (.aload_n 0, 1) := by decide +kernel
theorem d_Z_takes_8 : decode (jm_cd mY_Z_takes) 8 = .ok (.getfield 177, 3) := by decide +kernel
theorem d_Z_takes_11 : decode (jm_cd mY_Z_takes) 11 = .ok (.goto 9, 3) := by decide +kernel
theorem d_Z_takes_14 : decode (jm_cd mY_Z_takes) 14 = .ok (.aload_n 0, 1) := by decide +kernel
theorem d_Z_takes_15 : decode (jm_cd mY_Z_takes) 15 = .ok (.getfield 25, 3) := by decide +kernel
theorem d_Z_takes_18 : decode (jm_cd mY_Z_takes) 18 = .ok (.iload_n 1, 1) := by decide +kernel
theorem d_Z_takes_19 : decode (jm_cd mY_Z_takes) 19 = .ok (.iaload, 1) := by decide +kernel
theorem d_Z_takes_20 : decode (jm_cd mY_Z_takes) 20 = .ok (.ireturn, 1) := by decide +kernel
def s_Z_takes (s : jm_M) (a0 : Int32) : Option Int32 := (if (s.1 59 24) ≤ 0 then jm_ldi s 65 40 a0 (fun v1 => (some v1)) else (some (s.1 59 24)))
set_option maxRecDepth 100000 in
set_option maxHeartbeats 4000000 in
theorem s_Z_takes_ok (s : jm_M) (a0 : Int32) : jm_Sim mY_Z_takes 0 0 0 [(0, .ref 59), (1, .int a0)] [] 78 mr_154 s (s_Z_takes s a0) (jm_rI 78 mr_154 s) := by
  unfold s_Z_takes
  refine jm_aload_n (pc := 0) (q := 0) (x := 59) d_Z_takes_0 rfl ?_
  refine jm_gi (pc := 1) (i := 59) d_Z_takes_1 fo_Z_177 sh_59 ge_59 le_59_78 rfl (fun _ => rfl) ?_
  refine jm_if_le (pc := 4) (tgt := 14) d_Z_takes_4 (by decide) ?_ ?_
  · refine jm_aload_n (pc := 14) (q := 0) (x := 59) d_Z_takes_14 rfl ?_
    refine jm_gr (pc := 15) (i := 59) d_Z_takes_15 fo_Z_25 sh_59 ge_59 le_59_78 rfl (fun _ => rfl) mr_154_59_6 ge_65 ?_
    refine jm_iload_n (pc := 18) (q := 1) (x := a0) d_Z_takes_18 rfl ?_
    refine jm_iald (pc := 19) d_Z_takes_19 sh_65 ge_65 le_65_78 (fun v1 => ?_)
    exact jm_iret (pc := 20) (x := v1) d_Z_takes_20 rfl rfl rfl rfl rfl
  · refine jm_aload_n (pc := 7) (q := 0) (x := 59) d_Z_takes_7 rfl ?_
    refine jm_gi (pc := 8) (i := 59) d_Z_takes_8 fo_Z_177 sh_59 ge_59 le_59_78 rfl (fun _ => rfl) ?_
    refine jm_goto (pc := 11) (tgt := 20) d_Z_takes_11 (by decide) ?_
    exact jm_iret (pc := 20) (x := s.1 59 24) d_Z_takes_20 rfl rfl rfl rfl rfl
theorem d_Z_needs_0 : decode (jm_cd mY_Z_needs) 0 = .ok (.aload_n 0, 1) := by decide +kernel
theorem d_Z_needs_1 : decode (jm_cd mY_Z_needs) 1 = .ok (.getfield 174, 3) := by decide +kernel
theorem d_Z_needs_4 : decode (jm_cd mY_Z_needs) 4 = .ok (.ifCond .le 10, 3) := by decide +kernel
theorem d_Z_needs_7 : decode (jm_cd mY_Z_needs) 7 = .ok (.aload_n 0, 1) := by decide +kernel
theorem d_Z_needs_8 : decode (jm_cd mY_Z_needs) 8 = .ok (.getfield 174, 3) := by decide +kernel
theorem d_Z_needs_11 : decode (jm_cd mY_Z_needs) 11 = .ok (.goto 9, 3) := by decide +kernel
theorem d_Z_needs_14 : decode (jm_cd mY_Z_needs) 14 = .ok (.aload_n 0, 1) := by decide +kernel
theorem d_Z_needs_15 : decode (jm_cd mY_Z_needs) 15 = .ok (.getfield 22, 3) := by decide +kernel
theorem d_Z_needs_18 : decode (jm_cd mY_Z_needs) 18 = .ok (.iload_n 1, 1) := by decide +kernel
theorem d_Z_needs_19 : decode (jm_cd mY_Z_needs) 19 = .ok (.iaload, 1) := by decide +kernel
theorem d_Z_needs_20 : decode (jm_cd mY_Z_needs) 20 = .ok (.ireturn, 1) := by decide +kernel
def s_Z_needs (s : jm_M) (a0 : Int32) : Option Int32 := (if (s.1 59 23) ≤ 0 then jm_ldi s 64 40 a0 (fun v1 => (some v1)) else (some (s.1 59 23)))
set_option maxRecDepth 100000 in
set_option maxHeartbeats 4000000 in
theorem s_Z_needs_ok (s : jm_M) (a0 : Int32) : jm_Sim mY_Z_needs 0 0 0 [(0, .ref 59), (1, .int a0)] [] 78 mr_154 s (s_Z_needs s a0) (jm_rI 78 mr_154 s) := by
  unfold s_Z_needs
  refine jm_aload_n (pc := 0) (q := 0) (x := 59) d_Z_needs_0 rfl ?_
  refine jm_gi (pc := 1) (i := 59) d_Z_needs_1 fo_Z_174 sh_59 ge_59 le_59_78 rfl (fun _ => rfl) ?_
  refine jm_if_le (pc := 4) (tgt := 14) d_Z_needs_4 (by decide) ?_ ?_
  · refine jm_aload_n (pc := 14) (q := 0) (x := 59) d_Z_needs_14 rfl ?_
    refine jm_gr (pc := 15) (i := 59) d_Z_needs_15 fo_Z_22 sh_59 ge_59 le_59_78 rfl (fun _ => rfl) mr_154_59_5 ge_64 ?_
    refine jm_iload_n (pc := 18) (q := 1) (x := a0) d_Z_needs_18 rfl ?_
    refine jm_iald (pc := 19) d_Z_needs_19 sh_64 ge_64 le_64_78 (fun v1 => ?_)
    exact jm_iret (pc := 20) (x := v1) d_Z_needs_20 rfl rfl rfl rfl rfl
  · refine jm_aload_n (pc := 7) (q := 0) (x := 59) d_Z_needs_7 rfl ?_
    refine jm_gi (pc := 8) (i := 59) d_Z_needs_8 fo_Z_174 sh_59 ge_59 le_59_78 rfl (fun _ => rfl) ?_
    refine jm_goto (pc := 11) (tgt := 20) d_Z_needs_11 (by decide) ?_
    exact jm_iret (pc := 20) (x := s.1 59 23) d_Z_needs_20 rfl rfl rfl rfl rfl
theorem d_Z_together_0 : decode (jm_cd mY_Z_together) 0 = .ok (.iconst 0, 1) := by decide +kernel
theorem d_Z_together_1 : decode (jm_cd mY_Z_together) 1 = .ok (.istore_n 2, 1) := by decide +kernel
theorem d_Z_together_2 : decode (jm_cd mY_Z_together) 2 = .ok (.iconst 0, 1) := by decide +kernel
theorem d_Z_together_3 : decode (jm_cd mY_Z_together) 3 = .ok (.istore_n 3, 1) := by decide +kernel
theorem d_Z_together_4 : decode (jm_cd mY_Z_together) 4 = .ok (.iload_n 3, 1) := by decide +kernel
theorem d_Z_together_5 : decode (jm_cd mY_Z_together) 5 = .ok (.aload_n 0, 1) := by decide +kernel
theorem d_Z_together_6 : decode (jm_cd mY_Z_together) 6 = .ok (.getfield 13, 3) := by decide +kernel
theorem d_Z_together_9 : decode (jm_cd mY_Z_together) 9 = .ok (.iconst 0, 1) := by decide +kernel
theorem d_Z_together_10 : decode (jm_cd mY_Z_together) 10 = .ok (.iaload, 1) := by decide +kernel
theorem d_Z_together_11 : decode (jm_cd mY_Z_together) 11 = .ok (.if_icmp .ge 141, 3) := by decide +kernel
theorem d_Z_together_14 : decode (jm_cd mY_Z_together) 14 = .ok (.iload_n 1, 1) := by decide +kernel
theorem d_Z_together_15 : decode (jm_cd mY_Z_together) 15 = .ok (.aload_n 0, 1) := by decide +kernel
theorem d_Z_together_16 : decode (jm_cd mY_Z_together) 16 = .ok (.getfield 180, 3) := by decide +kernel
theorem d_Z_together_19 : decode (jm_cd mY_Z_together) 19 = .ok (.if_icmp .ne 11, 3) := by decide +kernel
theorem d_Z_together_22 : decode (jm_cd mY_Z_together) 22 = .ok (.iload_n 3, 1) := by decide +kernel
theorem d_Z_together_23 : decode (jm_cd mY_Z_together) 23 = .ok (.aload_n 0, 1) := by decide +kernel
theorem d_Z_together_24 : decode (jm_cd mY_Z_together) 24 = .ok (.getfield 183, 3) := by decide +kernel
theorem d_Z_together_27 : decode (jm_cd mY_Z_together) 27 = .ok (.if_icmp .eq 19, 3) := by decide +kernel
theorem d_Z_together_30 : decode (jm_cd mY_Z_together) 30 = .ok (.iload_n 1, 1) := by decide +kernel
theorem d_Z_together_31 : decode (jm_cd mY_Z_together) 31 = .ok (.aload_n 0, 1) := by decide +kernel
theorem d_Z_together_32 : decode (jm_cd mY_Z_together) 32 = .ok (.getfield 183, 3) := by decide +kernel
theorem d_Z_together_35 : decode (jm_cd mY_Z_together) 35 = .ok (.if_icmp .ne 15, 3) := by decide +kernel
theorem d_Z_together_38 : decode (jm_cd mY_Z_together) 38 = .ok (.iload_n 3, 1) := by decide +kernel
theorem d_Z_together_39 : decode (jm_cd mY_Z_together) 39 = .ok (.aload_n 0, 1) := by decide +kernel
theorem d_Z_together_40 : decode (jm_cd mY_Z_together) 40 = .ok (.getfield 180, 3) := by decide +kernel
theorem d_Z_together_43 : decode (jm_cd mY_Z_together) 43 = .ok (.if_icmp .ne 7, 3) := by decide +kernel
theorem d_Z_together_46 : decode (jm_cd mY_Z_together) 46 = .ok (.iconst 1, 1) := by decide +kernel
theorem d_Z_together_47 : decode (jm_cd mY_Z_together) 47 = .ok (.goto 4, 3) := by decide +kernel
theorem d_Z_together_50 : decode (jm_cd mY_Z_together) 50 = .ok (.iconst 0, 1) := by decide +kernel
theorem d_Z_together_51 : decode (jm_cd mY_Z_together) 51 = .ok (.istore 4, 2) := by decide +kernel
theorem d_Z_together_53 : decode (jm_cd mY_Z_together) 53 = .ok (.aload_n 0, 1) := by decide +kernel
theorem d_Z_together_54 : decode (jm_cd mY_Z_together) 54 = .ok (.getfield 19, 3) := by decide +kernel
theorem d_Z_together_57 : decode (jm_cd mY_Z_together) 57 = .ok (.iload_n 1, 1) := by decide +kernel
theorem d_Z_together_58 : decode (jm_cd mY_Z_together) 58 = .ok (.iaload, 1) := by decide +kernel
theorem d_Z_together_59 : decode (jm_cd mY_Z_together) 59 = .ok (.iload_n 3, 1) := by decide +kernel
theorem d_Z_together_60 : decode (jm_cd mY_Z_together) 60 = .ok (.invokestatic 99, 3) := by decide +kernel
theorem d_Z_together_63 : decode (jm_cd mY_Z_together) 63 = .ok (.ifCond .eq 83, 3) := by decide +kernel
theorem d_Z_together_66 : decode (jm_cd mY_Z_together) 66 = .ok (.iload 4, 2) := by decide +kernel
theorem d_Z_together_68 : decode (jm_cd mY_Z_together) 68 = .ok (.ifCond .ne 78, 3) := by decide +kernel
theorem d_Z_together_71 : decode (jm_cd mY_Z_together) 71 = .ok (.aload_n 0, 1) := by decide +kernel
theorem d_Z_together_72 : decode (jm_cd mY_Z_together) 72 = .ok (.getfield 58, 3) := by decide +kernel
theorem d_Z_together_75 : decode (jm_cd mY_Z_together) 75 = .ok (.iload_n 3, 1) := by decide +kernel
theorem d_Z_together_76 : decode (jm_cd mY_Z_together) 76 = .ok (.iaload, 1) := by decide +kernel
theorem d_Z_together_77 : decode (jm_cd mY_Z_together) 77 = .ok (.ldc 186, 2) := by decide +kernel
theorem d_Z_together_79 : decode (jm_cd mY_Z_together) 79 = .ok (.if_icmp .ge 67, 3) := by decide +kernel
theorem d_Z_together_82 : decode (jm_cd mY_Z_together) 82 = .ok (.iload_n 2, 1) := by decide +kernel
theorem d_Z_together_83 : decode (jm_cd mY_Z_together) 83 = .ok (.istore 5, 2) := by decide +kernel
theorem d_Z_together_85 : decode (jm_cd mY_Z_together) 85 = .ok (.iload 5, 2) := by decide +kernel
theorem d_Z_together_87 : decode (jm_cd mY_Z_together) 87 = .ok (.ifCond .le 43, 3) := by decide +kernel
theorem d_Z_together_90 : decode (jm_cd mY_Z_together) 90 = .ok (.aload_n 0, 1) := by decide +kernel
theorem d_Z_together_91 : decode (jm_cd mY_Z_together) 91 = .ok (.getfield 61, 3) := by decide +kernel
theorem d_Z_together_94 : decode (jm_cd mY_Z_together) 94 = .ok (.iload 5, 2) := by decide +kernel
theorem d_Z_together_96 : decode (jm_cd mY_Z_together) 96 = .ok (.iconst 1, 1) := by decide +kernel
theorem d_Z_together_97 : decode (jm_cd mY_Z_together) 97 = .ok (.isub, 1) := by decide +kernel
theorem d_Z_together_98 : decode (jm_cd mY_Z_together) 98 = .ok (.iaload, 1) := by decide +kernel
theorem d_Z_together_99 : decode (jm_cd mY_Z_together) 99 = .ok (.aload_n 0, 1) := by decide +kernel
theorem d_Z_together_100 : decode (jm_cd mY_Z_together) 100 = .ok (.getfield 58, 3) := by decide +kernel
theorem d_Z_together_103 : decode (jm_cd mY_Z_together) 103 = .ok (.iload_n 3, 1) := by decide +kernel
theorem d_Z_together_104 : decode (jm_cd mY_Z_together) 104 = .ok (.iaload, 1) := by decide +kernel
theorem d_Z_together_105 : decode (jm_cd mY_Z_together) 105 = .ok (.if_icmp .le 25, 3) := by decide +kernel
theorem d_Z_together_108 : decode (jm_cd mY_Z_together) 108 = .ok (.aload_n 0, 1) := by decide +kernel
theorem d_Z_together_109 : decode (jm_cd mY_Z_together) 109 = .ok (.getfield 61, 3) := by decide +kernel
theorem d_Z_together_112 : decode (jm_cd mY_Z_together) 112 = .ok (.iload 5, 2) := by decide +kernel
theorem d_Z_together_114 : decode (jm_cd mY_Z_together) 114 = .ok (.aload_n 0, 1) := by decide +kernel
theorem d_Z_together_115 : decode (jm_cd mY_Z_together) 115 = .ok (.getfield 61, 3) := by decide +kernel
theorem d_Z_together_118 : decode (jm_cd mY_Z_together) 118 = .ok (.iload 5, 2) := by decide +kernel
theorem d_Z_together_120 : decode (jm_cd mY_Z_together) 120 = .ok (.iconst 1, 1) := by decide +kernel
theorem d_Z_together_121 : decode (jm_cd mY_Z_together) 121 = .ok (.isub, 1) := by decide +kernel
theorem d_Z_together_122 : decode (jm_cd mY_Z_together) 122 = .ok (.iaload, 1) := by decide +kernel
theorem d_Z_together_123 : decode (jm_cd mY_Z_together) 123 = .ok (.iastore, 1) := by decide +kernel
theorem d_Z_together_124 : decode (jm_cd mY_Z_together) 124 = .ok (.iinc 5 (-1), 3) := by decide +kernel
theorem d_Z_together_127 : decode (jm_cd mY_Z_together) 127 = .ok (.goto (-42), 3) := by decide +kernel
theorem d_Z_together_130 : decode (jm_cd mY_Z_together) 130 = .ok (.aload_n 0, 1) := by decide +kernel
theorem d_Z_together_131 : decode (jm_cd mY_Z_together) 131 = .ok (.getfield 61, 3) := by decide +kernel
theorem d_Z_together_134 : decode (jm_cd mY_Z_together) 134 = .ok (.iload 5, 2) := by decide +kernel
theorem d_Z_together_136 : decode (jm_cd mY_Z_together) 136 = .ok (.aload_n 0, 1) := by decide +kernel
theorem d_Z_together_137 : decode (jm_cd mY_Z_together) 137 = .ok (.getfield 58, 3) := by decide +kernel
theorem d_Z_together_140 : decode (jm_cd mY_Z_together) 140 = .ok (.iload_n 3, 1) := by decide +kernel
theorem d_Z_together_141 : decode (jm_cd mY_Z_together) 141 = .ok (.iaload, 1) := by decide +kernel
theorem d_Z_together_142 : decode (jm_cd mY_Z_together) 142 = .ok (.iastore, 1) := by decide +kernel
theorem d_Z_together_143 : decode (jm_cd mY_Z_together) 143 = .ok (.iinc 2 1, 3) := by decide +kernel
theorem d_Z_together_146 : decode (jm_cd mY_Z_together) 146 = .ok (.iinc 3 1, 3) := by decide +kernel
theorem d_Z_together_149 : decode (jm_cd mY_Z_together) 149 = .ok (.goto (-145), 3) := by decide +kernel
theorem d_Z_together_152 : decode (jm_cd mY_Z_together) 152 = .ok (.aload_n 0, 1) := by decide +kernel
theorem d_Z_together_153 : decode (jm_cd mY_Z_together) 153 = .ok (.iload_n 1, 1) := by decide +kernel
theorem d_Z_together_154 : decode (jm_cd mY_Z_together) 154 = .ok (.invokevirtual 187, 3) := by decide +kernel
theorem d_Z_together_157 : decode (jm_cd mY_Z_together) 157 = .ok (.iload_n 2, 1) := by decide +kernel
theorem d_Z_together_158 : decode (jm_cd mY_Z_together) 158 = .ok (.if_icmp .le 8, 3) := by decide +kernel
theorem d_Z_together_161 : decode (jm_cd mY_Z_together) 161 = .ok (.ldc 186, 2) := by decide +kernel
theorem d_Z_together_163 : decode (jm_cd mY_Z_together) 163 = .ok (.goto 15, 3) := by decide +kernel
theorem d_Z_together_166 : decode (jm_cd mY_Z_together) 166 = .ok (.aload_n 0, 1) := by decide +kernel
theorem d_Z_together_167 : decode (jm_cd mY_Z_together) 167 = .ok (.getfield 61, 3) := by decide +kernel
theorem d_Z_together_170 : decode (jm_cd mY_Z_together) 170 = .ok (.aload_n 0, 1) := by decide +kernel
theorem d_Z_together_171 : decode (jm_cd mY_Z_together) 171 = .ok (.iload_n 1, 1) := by decide +kernel
theorem d_Z_together_172 : decode (jm_cd mY_Z_together) 172 = .ok (.invokevirtual 187, 3) := by decide +kernel
theorem d_Z_together_175 : decode (jm_cd mY_Z_together) 175 = .ok (.iconst 1, 1) := by decide +kernel
theorem d_Z_together_176 : decode (jm_cd mY_Z_together) 176 = .ok (.isub, 1) := by decide +kernel
theorem d_Z_together_177 : decode (jm_cd mY_Z_together) 177 = .ok (.iaload, 1) := by decide +kernel
theorem d_Z_together_178 : decode (jm_cd mY_Z_together) 178 = .ok (.ireturn, 1) := by decide +kernel
def s_Z_together_J130 (k4 : Int32 → Int32 → Int32 → jm_M → Option (Int32 × jm_M)) (x1 : Int32) (x2 : Int32) (x3 : Int32) (x5 : Int32) (s : jm_M) : Option (Int32 × jm_M) := jm_ldi s 76 10 x3 (fun v8 => jm_sti s 77 10 x5 v8 (fun s9 => k4 x1 (x2 + 1) (x3 + 1) s9))
set_option maxRecDepth 100000 in
set_option maxHeartbeats 4000000 in
theorem s_Z_together_J130_ok {k4 : Int32 → Int32 → Int32 → jm_M → Option (Int32 × jm_M)} (hk4 : ∀ (x1 : Int32) (x2 : Int32) (x3 : Int32) (s : jm_M), jm_Sim mY_Z_together 0 0 4 [(0, .ref 59), (1, .int x1), (2, .int x2), (3, .int x3)] [] 78 mr_154 s (k4 x1 x2 x3 s) (jm_rP 78 mr_154)) (x1 : Int32) (x2 : Int32) (x3 : Int32) (x5 : Int32) (s : jm_M) : jm_Sim mY_Z_together 0 0 130 [(0, .ref 59), (1, .int x1), (2, .int x2), (3, .int x3), (5, .int x5)] [] 78 mr_154 s (s_Z_together_J130 k4 x1 x2 x3 x5 s) (jm_rP 78 mr_154) := by
  unfold s_Z_together_J130
  refine jm_aload_n (pc := 130) (q := 0) (x := 59) d_Z_together_130 rfl ?_
  refine jm_gr (pc := 131) (i := 59) d_Z_together_131 fo_Z_61 sh_59 ge_59 le_59_78 rfl (fun _ => rfl) mr_154_59_28 ge_77 ?_
  refine jm_iload (pc := 134) (q := 4) (x := x5) d_Z_together_134 rfl ?_
  refine jm_aload_n (pc := 136) (q := 0) (x := 59) d_Z_together_136 rfl ?_
  refine jm_gr (pc := 137) (i := 59) d_Z_together_137 fo_Z_58 sh_59 ge_59 le_59_78 rfl (fun _ => rfl) mr_154_59_27 ge_76 ?_
  refine jm_iload_n (pc := 140) (q := 3) (x := x3) d_Z_together_140 rfl ?_
  refine jm_iald (pc := 141) d_Z_together_141 sh_76 ge_76 le_76_78 (fun v8 => ?_)
  refine jm_iast (pc := 142) d_Z_together_142 sh_77 ge_77 le_77_78 (fun s9 => ?_)
  refine jm_iinc (pc := 143) (q := 2) (x := x2) (v := 1) (L2 := [(2, .int (x2 + 1)), (0, .ref 59), (1, .int x1), (3, .int x3), (5, .int x5)]) d_Z_together_143 rfl ci_1 (Nat.le_of_ble_eq_true rfl) rfl ?_
  refine jm_iinc (pc := 146) (q := 3) (x := x3) (v := 1) (L2 := [(3, .int (x3 + 1)), (2, .int (x2 + 1)), (0, .ref 59), (1, .int x1), (5, .int x5)]) d_Z_together_146 rfl ci_1 (Nat.le_of_ble_eq_true rfl) rfl ?_
  refine jm_goto (pc := 149) (tgt := 4) d_Z_together_149 (by decide) ?_
  refine jm_sub (L2 := [(0, .ref 59), (1, .int x1), (2, .int (x2 + 1)), (3, .int (x3 + 1))]) [2, 3, 1, 0] rfl ?_
  exact hk4 x1 (x2 + 1) (x3 + 1) s9
def s_Z_together_L85 (k4 : Int32 → Int32 → Int32 → jm_M → Option (Int32 × jm_M)) : Nat → Int32 → Int32 → Int32 → Int32 → jm_M → Option (Int32 × jm_M)
  | 0, _, _, _, _, _ => none
  | n + 1, x1, x2, x3, x5, s => (if x5 ≤ 0 then s_Z_together_J130 k4 x1 x2 x3 x5 s else jm_ldi s 77 10 (x5 - 1) (fun v10 => jm_ldi s 76 10 x3 (fun v11 => (if v10 ≤ v11 then s_Z_together_J130 k4 x1 x2 x3 x5 s else jm_ldi s 77 10 (x5 - 1) (fun v12 => jm_sti s 77 10 x5 v12 (fun s13 => s_Z_together_L85 k4 n x1 x2 x3 (x5 + (-1)) s13))))))
set_option maxRecDepth 100000 in
set_option maxHeartbeats 4000000 in
theorem s_Z_together_L85_ok {k4 : Int32 → Int32 → Int32 → jm_M → Option (Int32 × jm_M)} (hk4 : ∀ (x1 : Int32) (x2 : Int32) (x3 : Int32) (s : jm_M), jm_Sim mY_Z_together 0 0 4 [(0, .ref 59), (1, .int x1), (2, .int x2), (3, .int x3)] [] 78 mr_154 s (k4 x1 x2 x3 s) (jm_rP 78 mr_154)) : ∀ (n : Nat) (x1 : Int32) (x2 : Int32) (x3 : Int32) (x5 : Int32) (s : jm_M), jm_Sim mY_Z_together 0 0 85 [(0, .ref 59), (1, .int x1), (2, .int x2), (3, .int x3), (5, .int x5)] [] 78 mr_154 s (s_Z_together_L85 k4 n x1 x2 x3 x5 s) (jm_rP 78 mr_154) := by
  intro n
  induction n with
  | zero => intro x1 x2 x3 x5 s; exact jm_none
  | succ n ih =>
    intro x1 x2 x3 x5 s
    rw [s_Z_together_L85]
    refine jm_iload (pc := 85) (q := 4) (x := x5) d_Z_together_85 rfl ?_
    refine jm_if_le (pc := 87) (tgt := 130) d_Z_together_87 (by decide) ?_ ?_
    · exact s_Z_together_J130_ok hk4 x1 x2 x3 x5 s
    · refine jm_aload_n (pc := 90) (q := 0) (x := 59) d_Z_together_90 rfl ?_
      refine jm_gr (pc := 91) (i := 59) d_Z_together_91 fo_Z_61 sh_59 ge_59 le_59_78 rfl (fun _ => rfl) mr_154_59_28 ge_77 ?_
      refine jm_iload (pc := 94) (q := 4) (x := x5) d_Z_together_94 rfl ?_
      refine jm_iconst (pc := 96) (v := 1) d_Z_together_96 ci_1 ?_
      refine jm_isub (pc := 97) d_Z_together_97 ?_
      refine jm_iald (pc := 98) d_Z_together_98 sh_77 ge_77 le_77_78 (fun v10 => ?_)
      refine jm_aload_n (pc := 99) (q := 0) (x := 59) d_Z_together_99 rfl ?_
      refine jm_gr (pc := 100) (i := 59) d_Z_together_100 fo_Z_58 sh_59 ge_59 le_59_78 rfl (fun _ => rfl) mr_154_59_27 ge_76 ?_
      refine jm_iload_n (pc := 103) (q := 3) (x := x3) d_Z_together_103 rfl ?_
      refine jm_iald (pc := 104) d_Z_together_104 sh_76 ge_76 le_76_78 (fun v11 => ?_)
      refine jm_icmp_le (pc := 105) (tgt := 130) d_Z_together_105 (by decide) ?_ ?_
      · exact s_Z_together_J130_ok hk4 x1 x2 x3 x5 s
      · refine jm_aload_n (pc := 108) (q := 0) (x := 59) d_Z_together_108 rfl ?_
        refine jm_gr (pc := 109) (i := 59) d_Z_together_109 fo_Z_61 sh_59 ge_59 le_59_78 rfl (fun _ => rfl) mr_154_59_28 ge_77 ?_
        refine jm_iload (pc := 112) (q := 4) (x := x5) d_Z_together_112 rfl ?_
        refine jm_aload_n (pc := 114) (q := 0) (x := 59) d_Z_together_114 rfl ?_
        refine jm_gr (pc := 115) (i := 59) d_Z_together_115 fo_Z_61 sh_59 ge_59 le_59_78 rfl (fun _ => rfl) mr_154_59_28 ge_77 ?_
        refine jm_iload (pc := 118) (q := 4) (x := x5) d_Z_together_118 rfl ?_
        refine jm_iconst (pc := 120) (v := 1) d_Z_together_120 ci_1 ?_
        refine jm_isub (pc := 121) d_Z_together_121 ?_
        refine jm_iald (pc := 122) d_Z_together_122 sh_77 ge_77 le_77_78 (fun v12 => ?_)
        refine jm_iast (pc := 123) d_Z_together_123 sh_77 ge_77 le_77_78 (fun s13 => ?_)
        refine jm_iinc (pc := 124) (q := 4) (x := x5) (v := (-1)) (L2 := [(5, .int (x5 + (-1))), (0, .ref 59), (1, .int x1), (2, .int x2), (3, .int x3)]) d_Z_together_124 rfl ci_m1 (Nat.le_of_ble_eq_true rfl) rfl ?_
        refine jm_goto (pc := 127) (tgt := 85) d_Z_together_127 (by decide) ?_
        refine jm_sub (L2 := [(0, .ref 59), (1, .int x1), (2, .int x2), (3, .int x3), (5, .int (x5 + (-1)))]) [1, 2, 3, 4, 0] rfl ?_
        exact ih x1 x2 x3 (x5 + (-1)) s13
def s_Z_together_J51 (k4 : Int32 → Int32 → Int32 → jm_M → Option (Int32 × jm_M)) (x1 : Int32) (x2 : Int32) (x3 : Int32) (y0 : Int32) (s : jm_M) : Option (Int32 × jm_M) := jm_ldi s 63 40 x1 (fun v5 => jm_bd (s_Z_has s v5 x3) (fun v6 => (if v6 = 0 then k4 x1 x2 (x3 + 1) s else (if y0 = 0 then jm_ldi s 76 10 x3 (fun v7 => (if 1000000 ≤ v7 then k4 x1 x2 (x3 + 1) s else s_Z_together_L85 k4 5000 x1 x2 x3 x2 s)) else k4 x1 x2 (x3 + 1) s))))
set_option maxRecDepth 100000 in
set_option maxHeartbeats 4000000 in
theorem s_Z_together_J51_ok {k4 : Int32 → Int32 → Int32 → jm_M → Option (Int32 × jm_M)} (hk4 : ∀ (x1 : Int32) (x2 : Int32) (x3 : Int32) (s : jm_M), jm_Sim mY_Z_together 0 0 4 [(0, .ref 59), (1, .int x1), (2, .int x2), (3, .int x3)] [] 78 mr_154 s (k4 x1 x2 x3 s) (jm_rP 78 mr_154)) (x1 : Int32) (x2 : Int32) (x3 : Int32) (y0 : Int32) (s : jm_M) : jm_Sim mY_Z_together 0 0 51 [(0, .ref 59), (1, .int x1), (2, .int x2), (3, .int x3)] [.int y0] 78 mr_154 s (s_Z_together_J51 k4 x1 x2 x3 y0 s) (jm_rP 78 mr_154) := by
  unfold s_Z_together_J51
  refine jm_istore (pc := 51) (L2 := [(4, .int y0), (0, .ref 59), (1, .int x1), (2, .int x2), (3, .int x3)]) d_Z_together_51 (Nat.le_of_ble_eq_true rfl) rfl ?_
  refine jm_aload_n (pc := 53) (q := 1) (x := 59) d_Z_together_53 rfl ?_
  refine jm_gr (pc := 54) (i := 59) d_Z_together_54 fo_Z_19 sh_59 ge_59 le_59_78 rfl (fun _ => rfl) mr_154_59_4 ge_63 ?_
  refine jm_iload_n (pc := 57) (q := 2) (x := x1) d_Z_together_57 rfl ?_
  refine jm_iald (pc := 58) d_Z_together_58 sh_63 ge_63 le_63_78 (fun v5 => ?_)
  refine jm_iload_n (pc := 59) (q := 4) (x := x3) d_Z_together_59 rfl ?_
  refine jm_Sp (pc := 60) (Y' := mY_Z_has) (avs := [.int v5, .int x3]) (rest := []) (s_Z_has_ok s v5 x3) ok_Z_has l0_Z_together__Z_has ml_Z_99 sm_Z_has d_Z_together_60 rfl rfl (Nat.le_of_ble_eq_true rfl) (Nat.le_of_ble_eq_true rfl) (Nat.le_of_ble_eq_true rfl) (Nat.le_of_ble_eq_true rfl) (fun v6 => ?_)
  refine jm_if_eq (pc := 63) (tgt := 146) d_Z_together_63 (by decide) ?_ ?_
  · refine jm_iinc (pc := 146) (q := 4) (x := x3) (v := 1) (L2 := [(3, .int (x3 + 1)), (4, .int y0), (0, .ref 59), (1, .int x1), (2, .int x2)]) d_Z_together_146 rfl ci_1 (Nat.le_of_ble_eq_true rfl) rfl ?_
    refine jm_goto (pc := 149) (tgt := 4) d_Z_together_149 (by decide) ?_
    refine jm_sub (L2 := [(0, .ref 59), (1, .int x1), (2, .int x2), (3, .int (x3 + 1))]) [2, 3, 4, 0] rfl ?_
    exact hk4 x1 x2 (x3 + 1) s
  · refine jm_iload (pc := 66) (q := 0) (x := y0) d_Z_together_66 rfl ?_
    refine jm_if_ne (pc := 68) (tgt := 146) d_Z_together_68 (by decide) ?_ ?_
    · refine jm_aload_n (pc := 71) (q := 1) (x := 59) d_Z_together_71 rfl ?_
      refine jm_gr (pc := 72) (i := 59) d_Z_together_72 fo_Z_58 sh_59 ge_59 le_59_78 rfl (fun _ => rfl) mr_154_59_27 ge_76 ?_
      refine jm_iload_n (pc := 75) (q := 4) (x := x3) d_Z_together_75 rfl ?_
      refine jm_iald (pc := 76) d_Z_together_76 sh_76 ge_76 le_76_78 (fun v7 => ?_)
      refine jm_ldc (pc := 77) (v := 1000000) d_Z_together_77 k_Z_186 ?_
      refine jm_icmp_ge (pc := 79) (tgt := 146) d_Z_together_79 (by decide) ?_ ?_
      · refine jm_iinc (pc := 146) (q := 4) (x := x3) (v := 1) (L2 := [(3, .int (x3 + 1)), (4, .int y0), (0, .ref 59), (1, .int x1), (2, .int x2)]) d_Z_together_146 rfl ci_1 (Nat.le_of_ble_eq_true rfl) rfl ?_
        refine jm_goto (pc := 149) (tgt := 4) d_Z_together_149 (by decide) ?_
        refine jm_sub (L2 := [(0, .ref 59), (1, .int x1), (2, .int x2), (3, .int (x3 + 1))]) [2, 3, 4, 0] rfl ?_
        exact hk4 x1 x2 (x3 + 1) s
      · refine jm_iload_n (pc := 82) (q := 3) (x := x2) d_Z_together_82 rfl ?_
        refine jm_istore (pc := 83) (L2 := [(5, .int x2), (4, .int y0), (0, .ref 59), (1, .int x1), (2, .int x2), (3, .int x3)]) d_Z_together_83 (Nat.le_of_ble_eq_true rfl) rfl ?_
        refine jm_sub (L2 := [(0, .ref 59), (1, .int x1), (2, .int x2), (3, .int x3), (5, .int x2)]) [2, 3, 4, 5, 0] rfl ?_
        exact s_Z_together_L85_ok hk4 5000 x1 x2 x3 x2 s
    · refine jm_iinc (pc := 146) (q := 4) (x := x3) (v := 1) (L2 := [(3, .int (x3 + 1)), (4, .int y0), (0, .ref 59), (1, .int x1), (2, .int x2)]) d_Z_together_146 rfl ci_1 (Nat.le_of_ble_eq_true rfl) rfl ?_
      refine jm_goto (pc := 149) (tgt := 4) d_Z_together_149 (by decide) ?_
      refine jm_sub (L2 := [(0, .ref 59), (1, .int x1), (2, .int x2), (3, .int (x3 + 1))]) [2, 3, 4, 0] rfl ?_
      exact hk4 x1 x2 (x3 + 1) s
def s_Z_together_J30 (k4 : Int32 → Int32 → Int32 → jm_M → Option (Int32 × jm_M)) (x1 : Int32) (x2 : Int32) (x3 : Int32) (s : jm_M) : Option (Int32 × jm_M) := (if x1 = (s.1 59 26) then (if x3 = (s.1 59 25) then s_Z_together_J51 k4 x1 x2 x3 1 s else s_Z_together_J51 k4 x1 x2 x3 0 s) else s_Z_together_J51 k4 x1 x2 x3 0 s)
set_option maxRecDepth 100000 in
set_option maxHeartbeats 4000000 in
theorem s_Z_together_J30_ok {k4 : Int32 → Int32 → Int32 → jm_M → Option (Int32 × jm_M)} (hk4 : ∀ (x1 : Int32) (x2 : Int32) (x3 : Int32) (s : jm_M), jm_Sim mY_Z_together 0 0 4 [(0, .ref 59), (1, .int x1), (2, .int x2), (3, .int x3)] [] 78 mr_154 s (k4 x1 x2 x3 s) (jm_rP 78 mr_154)) (x1 : Int32) (x2 : Int32) (x3 : Int32) (s : jm_M) : jm_Sim mY_Z_together 0 0 30 [(0, .ref 59), (1, .int x1), (2, .int x2), (3, .int x3)] [] 78 mr_154 s (s_Z_together_J30 k4 x1 x2 x3 s) (jm_rP 78 mr_154) := by
  unfold s_Z_together_J30
  refine jm_iload_n (pc := 30) (q := 1) (x := x1) d_Z_together_30 rfl ?_
  refine jm_aload_n (pc := 31) (q := 0) (x := 59) d_Z_together_31 rfl ?_
  refine jm_gi (pc := 32) (i := 59) d_Z_together_32 fo_Z_183 sh_59 ge_59 le_59_78 rfl (fun _ => rfl) ?_
  refine jm_icmp_ne (pc := 35) (tgt := 50) d_Z_together_35 (by decide) ?_ ?_
  · refine jm_iload_n (pc := 38) (q := 3) (x := x3) d_Z_together_38 rfl ?_
    refine jm_aload_n (pc := 39) (q := 0) (x := 59) d_Z_together_39 rfl ?_
    refine jm_gi (pc := 40) (i := 59) d_Z_together_40 fo_Z_180 sh_59 ge_59 le_59_78 rfl (fun _ => rfl) ?_
    refine jm_icmp_ne (pc := 43) (tgt := 50) d_Z_together_43 (by decide) ?_ ?_
    · refine jm_iconst (pc := 46) (v := 1) d_Z_together_46 ci_1 ?_
      refine jm_goto (pc := 47) (tgt := 51) d_Z_together_47 (by decide) ?_
      exact s_Z_together_J51_ok hk4 x1 x2 x3 1 s
    · refine jm_iconst (pc := 50) (v := 0) d_Z_together_50 ci_0 ?_
      exact s_Z_together_J51_ok hk4 x1 x2 x3 0 s
  · refine jm_iconst (pc := 50) (v := 0) d_Z_together_50 ci_0 ?_
    exact s_Z_together_J51_ok hk4 x1 x2 x3 0 s
def s_Z_together_L4 : Nat → Int32 → Int32 → Int32 → jm_M → Option (Int32 × jm_M)
  | 0, _, _, _, _ => none
  | n + 1, x1, x2, x3, s => jm_ldi s 61 4 0 (fun v1 => (if v1 ≤ x3 then jm_bd (s_Z_needs s x1) (fun v2 => (if v2 ≤ x2 then jm_bd (s_Z_needs s x1) (fun v3 => jm_ldi s 77 10 (v3 - 1) (fun v4 => (some (v4, s)))) else (some (1000000, s)))) else (if x1 = (s.1 59 25) then (if x3 = (s.1 59 26) then s_Z_together_J51 (s_Z_together_L4 n) x1 x2 x3 1 s else s_Z_together_J30 (s_Z_together_L4 n) x1 x2 x3 s) else s_Z_together_J30 (s_Z_together_L4 n) x1 x2 x3 s)))
set_option maxRecDepth 100000 in
set_option maxHeartbeats 4000000 in
theorem s_Z_together_L4_ok : ∀ (n : Nat) (x1 : Int32) (x2 : Int32) (x3 : Int32) (s : jm_M), jm_Sim mY_Z_together 0 0 4 [(0, .ref 59), (1, .int x1), (2, .int x2), (3, .int x3)] [] 78 mr_154 s (s_Z_together_L4 n x1 x2 x3 s) (jm_rP 78 mr_154) := by
  intro n
  induction n with
  | zero => intro x1 x2 x3 s; exact jm_none
  | succ n ih =>
    intro x1 x2 x3 s
    rw [s_Z_together_L4]
    refine jm_iload_n (pc := 4) (q := 3) (x := x3) d_Z_together_4 rfl ?_
    refine jm_aload_n (pc := 5) (q := 0) (x := 59) d_Z_together_5 rfl ?_
    refine jm_gr (pc := 6) (i := 59) d_Z_together_6 fo_Z_13 sh_59 ge_59 le_59_78 rfl (fun _ => rfl) mr_154_59_2 ge_61 ?_
    refine jm_iconst (pc := 9) (v := 0) d_Z_together_9 ci_0 ?_
    refine jm_iald (pc := 10) d_Z_together_10 sh_61 ge_61 le_61_78 (fun v1 => ?_)
    refine jm_icmp_ge (pc := 11) (tgt := 152) d_Z_together_11 (by decide) ?_ ?_
    · refine jm_aload_n (pc := 152) (q := 0) (x := 59) d_Z_together_152 rfl ?_
      refine jm_iload_n (pc := 153) (q := 1) (x := x1) d_Z_together_153 rfl ?_
      refine jm_Vp (pc := 154) (Y' := mY_Z_needs) (i := 59) (avs := [.int x1]) (rest := []) (s_Z_needs_ok s x1) ok_Z_needs l0_Z_together__Z_needs ml_Z_187 im_Z_needs se_Z_needs d_Z_together_154 rfl sh_59 rfl rfl ge_59 le_59_78 rfl (Nat.le_of_ble_eq_true rfl) (Nat.le_of_ble_eq_true rfl) (Nat.le_of_ble_eq_true rfl) (Nat.le_of_ble_eq_true rfl) (fun v2 => ?_)
      refine jm_iload_n (pc := 157) (q := 2) (x := x2) d_Z_together_157 rfl ?_
      refine jm_icmp_le (pc := 158) (tgt := 166) d_Z_together_158 (by decide) ?_ ?_
      · refine jm_aload_n (pc := 166) (q := 0) (x := 59) d_Z_together_166 rfl ?_
        refine jm_gr (pc := 167) (i := 59) d_Z_together_167 fo_Z_61 sh_59 ge_59 le_59_78 rfl (fun _ => rfl) mr_154_59_28 ge_77 ?_
        refine jm_aload_n (pc := 170) (q := 0) (x := 59) d_Z_together_170 rfl ?_
        refine jm_iload_n (pc := 171) (q := 1) (x := x1) d_Z_together_171 rfl ?_
        refine jm_Vp (pc := 172) (Y' := mY_Z_needs) (i := 59) (avs := [.int x1]) (rest := [.ref 77]) (s_Z_needs_ok s x1) ok_Z_needs l0_Z_together__Z_needs ml_Z_187 im_Z_needs se_Z_needs d_Z_together_172 rfl sh_59 rfl rfl ge_59 le_59_78 rfl (Nat.le_of_ble_eq_true rfl) (Nat.le_of_ble_eq_true rfl) (Nat.le_of_ble_eq_true rfl) (Nat.le_of_ble_eq_true rfl) (fun v3 => ?_)
        refine jm_iconst (pc := 175) (v := 1) d_Z_together_175 ci_1 ?_
        refine jm_isub (pc := 176) d_Z_together_176 ?_
        refine jm_iald (pc := 177) d_Z_together_177 sh_77 ge_77 le_77_78 (fun v4 => ?_)
        exact jm_iret (pc := 178) (x := v4) d_Z_together_178 rfl rfl rfl rfl rfl
      · refine jm_ldc (pc := 161) (v := 1000000) d_Z_together_161 k_Z_186 ?_
        refine jm_goto (pc := 163) (tgt := 178) d_Z_together_163 (by decide) ?_
        exact jm_iret (pc := 178) (x := 1000000) d_Z_together_178 rfl rfl rfl rfl rfl
    · refine jm_iload_n (pc := 14) (q := 1) (x := x1) d_Z_together_14 rfl ?_
      refine jm_aload_n (pc := 15) (q := 0) (x := 59) d_Z_together_15 rfl ?_
      refine jm_gi (pc := 16) (i := 59) d_Z_together_16 fo_Z_180 sh_59 ge_59 le_59_78 rfl (fun _ => rfl) ?_
      refine jm_icmp_ne (pc := 19) (tgt := 30) d_Z_together_19 (by decide) ?_ ?_
      · refine jm_iload_n (pc := 22) (q := 3) (x := x3) d_Z_together_22 rfl ?_
        refine jm_aload_n (pc := 23) (q := 0) (x := 59) d_Z_together_23 rfl ?_
        refine jm_gi (pc := 24) (i := 59) d_Z_together_24 fo_Z_183 sh_59 ge_59 le_59_78 rfl (fun _ => rfl) ?_
        refine jm_icmp_eq (pc := 27) (tgt := 46) d_Z_together_27 (by decide) ?_ ?_
        · refine jm_iconst (pc := 46) (v := 1) d_Z_together_46 ci_1 ?_
          refine jm_goto (pc := 47) (tgt := 51) d_Z_together_47 (by decide) ?_
          exact s_Z_together_J51_ok ih x1 x2 x3 1 s
        · exact s_Z_together_J30_ok ih x1 x2 x3 s
      · exact s_Z_together_J30_ok ih x1 x2 x3 s
def s_Z_together (s : jm_M) (a0 : Int32) : Option (Int32 × jm_M) := s_Z_together_L4 5000 a0 0 0 s
set_option maxRecDepth 100000 in
set_option maxHeartbeats 4000000 in
theorem s_Z_together_ok (s : jm_M) (a0 : Int32) : jm_Sim mY_Z_together 0 0 0 [(0, .ref 59), (1, .int a0)] [] 78 mr_154 s (s_Z_together s a0) (jm_rP 78 mr_154) := by
  unfold s_Z_together
  refine jm_iconst (pc := 0) (v := 0) d_Z_together_0 ci_0 ?_
  refine jm_istore_n (pc := 1) (i := 2) (L2 := [(2, .int 0), (0, .ref 59), (1, .int a0)]) d_Z_together_1 rfl (Nat.le_of_ble_eq_true rfl) rfl ?_
  refine jm_iconst (pc := 2) (v := 0) d_Z_together_2 ci_0 ?_
  refine jm_istore_n (pc := 3) (i := 3) (L2 := [(3, .int 0), (2, .int 0), (0, .ref 59), (1, .int a0)]) d_Z_together_3 rfl (Nat.le_of_ble_eq_true rfl) rfl ?_
  refine jm_sub (L2 := [(0, .ref 59), (1, .int a0), (2, .int 0), (3, .int 0)]) [2, 3, 1, 0] rfl ?_
  exact s_Z_together_L4_ok 5000 a0 0 0 s
theorem d_Z_spread_0 : decode (jm_cd mY_Z_spread) 0 = .ok (.iconst 1, 1) := by decide +kernel
theorem d_Z_spread_1 : decode (jm_cd mY_Z_spread) 1 = .ok (.istore_n 2, 1) := by decide +kernel
theorem d_Z_spread_2 : decode (jm_cd mY_Z_spread) 2 = .ok (.iload_n 2, 1) := by decide +kernel
theorem d_Z_spread_3 : decode (jm_cd mY_Z_spread) 3 = .ok (.ifCond .eq 119, 3) := by decide +kernel
theorem d_Z_spread_6 : decode (jm_cd mY_Z_spread) 6 = .ok (.iconst 0, 1) := by decide +kernel
theorem d_Z_spread_7 : decode (jm_cd mY_Z_spread) 7 = .ok (.istore_n 2, 1) := by decide +kernel
theorem d_Z_spread_8 : decode (jm_cd mY_Z_spread) 8 = .ok (.iconst 0, 1) := by decide +kernel
theorem d_Z_spread_9 : decode (jm_cd mY_Z_spread) 9 = .ok (.istore_n 3, 1) := by decide +kernel
theorem d_Z_spread_10 : decode (jm_cd mY_Z_spread) 10 = .ok (.iload_n 3, 1) := by decide +kernel
theorem d_Z_spread_11 : decode (jm_cd mY_Z_spread) 11 = .ok (.aload_n 0, 1) := by decide +kernel
theorem d_Z_spread_12 : decode (jm_cd mY_Z_spread) 12 = .ok (.getfield 13, 3) := by decide +kernel
theorem d_Z_spread_15 : decode (jm_cd mY_Z_spread) 15 = .ok (.iconst 0, 1) := by decide +kernel
theorem d_Z_spread_16 : decode (jm_cd mY_Z_spread) 16 = .ok (.iaload, 1) := by decide +kernel
theorem d_Z_spread_17 : decode (jm_cd mY_Z_spread) 17 = .ok (.if_icmp .ge 102, 3) := by decide +kernel
theorem d_Z_spread_20 : decode (jm_cd mY_Z_spread) 20 = .ok (.aload_n 0, 1) := by decide +kernel
theorem d_Z_spread_21 : decode (jm_cd mY_Z_spread) 21 = .ok (.getfield 171, 3) := by decide +kernel
theorem d_Z_spread_24 : decode (jm_cd mY_Z_spread) 24 = .ok (.iload_n 3, 1) := by decide +kernel
theorem d_Z_spread_25 : decode (jm_cd mY_Z_spread) 25 = .ok (.invokestatic 99, 3) := by decide +kernel
theorem d_Z_spread_28 : decode (jm_cd mY_Z_spread) 28 = .ok (.ifCond .eq 25, 3) := by decide +kernel
theorem d_Z_spread_31 : decode (jm_cd mY_Z_spread) 31 = .ok (.aload_n 0, 1) := by decide +kernel
theorem d_Z_spread_32 : decode (jm_cd mY_Z_spread) 32 = .ok (.getfield 16, 3) := by decide +kernel
theorem d_Z_spread_35 : decode (jm_cd mY_Z_spread) 35 = .ok (.iload_n 3, 1) := by decide +kernel
theorem d_Z_spread_36 : decode (jm_cd mY_Z_spread) 36 = .ok (.iaload, 1) := by decide +kernel
theorem d_Z_spread_37 : decode (jm_cd mY_Z_spread) 37 = .ok (.iconst 2, 1) := by decide +kernel
theorem d_Z_spread_38 : decode (jm_cd mY_Z_spread) 38 = .ok (.if_icmp .eq 15, 3) := by decide +kernel
theorem d_Z_spread_41 : decode (jm_cd mY_Z_spread) 41 = .ok (.iload_n 1, 1) := by decide +kernel
theorem d_Z_spread_42 : decode (jm_cd mY_Z_spread) 42 = .ok (.iload_n 3, 1) := by decide +kernel
theorem d_Z_spread_43 : decode (jm_cd mY_Z_spread) 43 = .ok (.invokestatic 99, 3) := by decide +kernel
theorem d_Z_spread_46 : decode (jm_cd mY_Z_spread) 46 = .ok (.ifCond .ne 7, 3) := by decide +kernel
theorem d_Z_spread_49 : decode (jm_cd mY_Z_spread) 49 = .ok (.iconst 1, 1) := by decide +kernel
theorem d_Z_spread_50 : decode (jm_cd mY_Z_spread) 50 = .ok (.goto 4, 3) := by decide +kernel
theorem d_Z_spread_53 : decode (jm_cd mY_Z_spread) 53 = .ok (.iconst 0, 1) := by decide +kernel
theorem d_Z_spread_54 : decode (jm_cd mY_Z_spread) 54 = .ok (.istore 4, 2) := by decide +kernel
theorem d_Z_spread_56 : decode (jm_cd mY_Z_spread) 56 = .ok (.iload 4, 2) := by decide +kernel
theorem d_Z_spread_58 : decode (jm_cd mY_Z_spread) 58 = .ok (.ifCond .eq 11, 3) := by decide +kernel
theorem d_Z_spread_61 : decode (jm_cd mY_Z_spread) 61 = .ok (.aload_n 0, 1) := by decide +kernel
theorem d_Z_spread_62 : decode (jm_cd mY_Z_spread) 62 = .ok (.iload_n 3, 1) := by decide +kernel
theorem d_Z_spread_63 : decode (jm_cd mY_Z_spread) 63 = .ok (.invokevirtual 190, 3) := by decide +kernel
theorem d_Z_spread_66 : decode (jm_cd mY_Z_spread) 66 = .ok (.goto 5, 3) := by decide +kernel
theorem d_Z_spread_69 : decode (jm_cd mY_Z_spread) 69 = .ok (.ldc 186, 2) := by decide +kernel
theorem d_Z_spread_71 : decode (jm_cd mY_Z_spread) 71 = .ok (.istore 5, 2) := by decide +kernel
theorem d_Z_spread_73 : decode (jm_cd mY_Z_spread) 73 = .ok (.iload 5, 2) := by decide +kernel
theorem d_Z_spread_75 : decode (jm_cd mY_Z_spread) 75 = .ok (.ldc 186, 2) := by decide +kernel
theorem d_Z_spread_77 : decode (jm_cd mY_Z_spread) 77 = .ok (.if_icmp .ge 36, 3) := by decide +kernel
theorem d_Z_spread_80 : decode (jm_cd mY_Z_spread) 80 = .ok (.iload 5, 2) := by decide +kernel
theorem d_Z_spread_82 : decode (jm_cd mY_Z_spread) 82 = .ok (.aload_n 0, 1) := by decide +kernel
theorem d_Z_spread_83 : decode (jm_cd mY_Z_spread) 83 = .ok (.iload_n 3, 1) := by decide +kernel
theorem d_Z_spread_84 : decode (jm_cd mY_Z_spread) 84 = .ok (.invokevirtual 193, 3) := by decide +kernel
theorem d_Z_spread_87 : decode (jm_cd mY_Z_spread) 87 = .ok (.iadd, 1) := by decide +kernel
theorem d_Z_spread_88 : decode (jm_cd mY_Z_spread) 88 = .ok (.aload_n 0, 1) := by decide +kernel
theorem d_Z_spread_89 : decode (jm_cd mY_Z_spread) 89 = .ok (.getfield 58, 3) := by decide +kernel
theorem d_Z_spread_92 : decode (jm_cd mY_Z_spread) 92 = .ok (.iload_n 3, 1) := by decide +kernel
theorem d_Z_spread_93 : decode (jm_cd mY_Z_spread) 93 = .ok (.iaload, 1) := by decide +kernel
theorem d_Z_spread_94 : decode (jm_cd mY_Z_spread) 94 = .ok (.if_icmp .ge 19, 3) := by decide +kernel
theorem d_Z_spread_97 : decode (jm_cd mY_Z_spread) 97 = .ok (.aload_n 0, 1) := by decide +kernel
theorem d_Z_spread_98 : decode (jm_cd mY_Z_spread) 98 = .ok (.getfield 58, 3) := by decide +kernel
theorem d_Z_spread_101 : decode (jm_cd mY_Z_spread) 101 = .ok (.iload_n 3, 1) := by decide +kernel
theorem d_Z_spread_102 : decode (jm_cd mY_Z_spread) 102 = .ok (.iload 5, 2) := by decide +kernel
theorem d_Z_spread_104 : decode (jm_cd mY_Z_spread) 104 = .ok (.aload_n 0, 1) := by decide +kernel
theorem d_Z_spread_105 : decode (jm_cd mY_Z_spread) 105 = .ok (.iload_n 3, 1) := by decide +kernel
theorem d_Z_spread_106 : decode (jm_cd mY_Z_spread) 106 = .ok (.invokevirtual 193, 3) := by decide +kernel
theorem d_Z_spread_109 : decode (jm_cd mY_Z_spread) 109 = .ok (.iadd, 1) := by decide +kernel
theorem d_Z_spread_110 : decode (jm_cd mY_Z_spread) 110 = .ok (.iastore, 1) := by decide +kernel
theorem d_Z_spread_111 : decode (jm_cd mY_Z_spread) 111 = .ok (.iconst 1, 1) := by decide +kernel
theorem d_Z_spread_112 : decode (jm_cd mY_Z_spread) 112 = .ok (.istore_n 2, 1) := by decide +kernel
theorem d_Z_spread_113 : decode (jm_cd mY_Z_spread) 113 = .ok (.iinc 3 1, 3) := by decide +kernel
theorem d_Z_spread_116 : decode (jm_cd mY_Z_spread) 116 = .ok (.goto (-106), 3) := by decide +kernel
theorem d_Z_spread_119 : decode (jm_cd mY_Z_spread) 119 = .ok (.goto (-117), 3) := by decide +kernel
theorem d_Z_spread_122 : decode (jm_cd mY_Z_spread) 122 = .ok (.return_, 1) := by decide +kernel
def s_Z_spread_J71 (k2 : Int32 → Int32 → jm_M → Option jm_M) (k8 : Int32 → Int32 → Int32 → jm_M → Option jm_M) (x1 : Int32) (x2 : Int32) (x3 : Int32) (y0 : Int32) (s : jm_M) : Option jm_M := (if 1000000 ≤ y0 then k8 x1 x2 (x3 + 1) s else jm_bd (s_Z_takes s x3) (fun v3 => jm_ldi s 76 10 x3 (fun v4 => (if v4 ≤ (y0 + v3) then k8 x1 x2 (x3 + 1) s else jm_bd (s_Z_takes s x3) (fun v5 => jm_sti s 76 10 x3 (y0 + v5) (fun s6 => k8 x1 1 (x3 + 1) s6))))))
set_option maxRecDepth 100000 in
set_option maxHeartbeats 4000000 in
theorem s_Z_spread_J71_ok {k2 : Int32 → Int32 → jm_M → Option jm_M} (hk2 : ∀ (x1 : Int32) (x2 : Int32) (s : jm_M), jm_Sim mY_Z_spread 0 0 2 [(0, .ref 59), (1, .int x1), (2, .int x2)] [] 78 mr_154 s (k2 x1 x2 s) (jm_rV 78 mr_154)) {k8 : Int32 → Int32 → Int32 → jm_M → Option jm_M} (hk8 : ∀ (x1 : Int32) (x2 : Int32) (x3 : Int32) (s : jm_M), jm_Sim mY_Z_spread 0 0 10 [(0, .ref 59), (1, .int x1), (2, .int x2), (3, .int x3)] [] 78 mr_154 s (k8 x1 x2 x3 s) (jm_rV 78 mr_154)) (x1 : Int32) (x2 : Int32) (x3 : Int32) (y0 : Int32) (s : jm_M) : jm_Sim mY_Z_spread 0 0 71 [(0, .ref 59), (1, .int x1), (2, .int x2), (3, .int x3)] [.int y0] 78 mr_154 s (s_Z_spread_J71 k2 k8 x1 x2 x3 y0 s) (jm_rV 78 mr_154) := by
  unfold s_Z_spread_J71
  refine jm_istore (pc := 71) (L2 := [(5, .int y0), (0, .ref 59), (1, .int x1), (2, .int x2), (3, .int x3)]) d_Z_spread_71 (Nat.le_of_ble_eq_true rfl) rfl ?_
  refine jm_iload (pc := 73) (q := 0) (x := y0) d_Z_spread_73 rfl ?_
  refine jm_ldc (pc := 75) (v := 1000000) d_Z_spread_75 k_Z_186 ?_
  refine jm_icmp_ge (pc := 77) (tgt := 113) d_Z_spread_77 (by decide) ?_ ?_
  · refine jm_iinc (pc := 113) (q := 4) (x := x3) (v := 1) (L2 := [(3, .int (x3 + 1)), (5, .int y0), (0, .ref 59), (1, .int x1), (2, .int x2)]) d_Z_spread_113 rfl ci_1 (Nat.le_of_ble_eq_true rfl) rfl ?_
    refine jm_goto (pc := 116) (tgt := 10) d_Z_spread_116 (by decide) ?_
    refine jm_sub (L2 := [(0, .ref 59), (1, .int x1), (2, .int x2), (3, .int (x3 + 1))]) [2, 3, 4, 0] rfl ?_
    exact hk8 x1 x2 (x3 + 1) s
  · refine jm_iload (pc := 80) (q := 0) (x := y0) d_Z_spread_80 rfl ?_
    refine jm_aload_n (pc := 82) (q := 1) (x := 59) d_Z_spread_82 rfl ?_
    refine jm_iload_n (pc := 83) (q := 4) (x := x3) d_Z_spread_83 rfl ?_
    refine jm_Vp (pc := 84) (Y' := mY_Z_takes) (i := 59) (avs := [.int x3]) (rest := [.int y0]) (s_Z_takes_ok s x3) ok_Z_takes l0_Z_spread__Z_takes ml_Z_193 im_Z_takes se_Z_takes d_Z_spread_84 rfl sh_59 rfl rfl ge_59 le_59_78 rfl (Nat.le_of_ble_eq_true rfl) (Nat.le_of_ble_eq_true rfl) (Nat.le_of_ble_eq_true rfl) (Nat.le_of_ble_eq_true rfl) (fun v3 => ?_)
    refine jm_iadd (pc := 87) d_Z_spread_87 ?_
    refine jm_aload_n (pc := 88) (q := 1) (x := 59) d_Z_spread_88 rfl ?_
    refine jm_gr (pc := 89) (i := 59) d_Z_spread_89 fo_Z_58 sh_59 ge_59 le_59_78 rfl (fun _ => rfl) mr_154_59_27 ge_76 ?_
    refine jm_iload_n (pc := 92) (q := 4) (x := x3) d_Z_spread_92 rfl ?_
    refine jm_iald (pc := 93) d_Z_spread_93 sh_76 ge_76 le_76_78 (fun v4 => ?_)
    refine jm_icmp_ge (pc := 94) (tgt := 113) d_Z_spread_94 (by decide) ?_ ?_
    · refine jm_iinc (pc := 113) (q := 4) (x := x3) (v := 1) (L2 := [(3, .int (x3 + 1)), (5, .int y0), (0, .ref 59), (1, .int x1), (2, .int x2)]) d_Z_spread_113 rfl ci_1 (Nat.le_of_ble_eq_true rfl) rfl ?_
      refine jm_goto (pc := 116) (tgt := 10) d_Z_spread_116 (by decide) ?_
      refine jm_sub (L2 := [(0, .ref 59), (1, .int x1), (2, .int x2), (3, .int (x3 + 1))]) [2, 3, 4, 0] rfl ?_
      exact hk8 x1 x2 (x3 + 1) s
    · refine jm_aload_n (pc := 97) (q := 1) (x := 59) d_Z_spread_97 rfl ?_
      refine jm_gr (pc := 98) (i := 59) d_Z_spread_98 fo_Z_58 sh_59 ge_59 le_59_78 rfl (fun _ => rfl) mr_154_59_27 ge_76 ?_
      refine jm_iload_n (pc := 101) (q := 4) (x := x3) d_Z_spread_101 rfl ?_
      refine jm_iload (pc := 102) (q := 0) (x := y0) d_Z_spread_102 rfl ?_
      refine jm_aload_n (pc := 104) (q := 1) (x := 59) d_Z_spread_104 rfl ?_
      refine jm_iload_n (pc := 105) (q := 4) (x := x3) d_Z_spread_105 rfl ?_
      refine jm_Vp (pc := 106) (Y' := mY_Z_takes) (i := 59) (avs := [.int x3]) (rest := [.int y0, .int x3, .ref 76]) (s_Z_takes_ok s x3) ok_Z_takes l0_Z_spread__Z_takes ml_Z_193 im_Z_takes se_Z_takes d_Z_spread_106 rfl sh_59 rfl rfl ge_59 le_59_78 rfl (Nat.le_of_ble_eq_true rfl) (Nat.le_of_ble_eq_true rfl) (Nat.le_of_ble_eq_true rfl) (Nat.le_of_ble_eq_true rfl) (fun v5 => ?_)
      refine jm_iadd (pc := 109) d_Z_spread_109 ?_
      refine jm_iast (pc := 110) d_Z_spread_110 sh_76 ge_76 le_76_78 (fun s6 => ?_)
      refine jm_iconst (pc := 111) (v := 1) d_Z_spread_111 ci_1 ?_
      refine jm_istore_n (pc := 112) (i := 2) (L2 := [(2, .int 1), (5, .int y0), (0, .ref 59), (1, .int x1), (3, .int x3)]) d_Z_spread_112 rfl (Nat.le_of_ble_eq_true rfl) rfl ?_
      refine jm_iinc (pc := 113) (q := 4) (x := x3) (v := 1) (L2 := [(3, .int (x3 + 1)), (2, .int 1), (5, .int y0), (0, .ref 59), (1, .int x1)]) d_Z_spread_113 rfl ci_1 (Nat.le_of_ble_eq_true rfl) rfl ?_
      refine jm_goto (pc := 116) (tgt := 10) d_Z_spread_116 (by decide) ?_
      refine jm_sub (L2 := [(0, .ref 59), (1, .int x1), (2, .int 1), (3, .int (x3 + 1))]) [3, 4, 1, 0] rfl ?_
      exact hk8 x1 1 (x3 + 1) s6
def s_Z_spread_J54 (k2 : Int32 → Int32 → jm_M → Option jm_M) (k8 : Int32 → Int32 → Int32 → jm_M → Option jm_M) (x1 : Int32) (x2 : Int32) (x3 : Int32) (y0 : Int32) (s : jm_M) : Option jm_M := (if y0 = 0 then s_Z_spread_J71 k2 k8 x1 x2 x3 1000000 s else jm_b2 (s_Z_together s x3) (fun v7 s8 => s_Z_spread_J71 k2 k8 x1 x2 x3 v7 s8))
set_option maxRecDepth 100000 in
set_option maxHeartbeats 4000000 in
theorem s_Z_spread_J54_ok {k2 : Int32 → Int32 → jm_M → Option jm_M} (hk2 : ∀ (x1 : Int32) (x2 : Int32) (s : jm_M), jm_Sim mY_Z_spread 0 0 2 [(0, .ref 59), (1, .int x1), (2, .int x2)] [] 78 mr_154 s (k2 x1 x2 s) (jm_rV 78 mr_154)) {k8 : Int32 → Int32 → Int32 → jm_M → Option jm_M} (hk8 : ∀ (x1 : Int32) (x2 : Int32) (x3 : Int32) (s : jm_M), jm_Sim mY_Z_spread 0 0 10 [(0, .ref 59), (1, .int x1), (2, .int x2), (3, .int x3)] [] 78 mr_154 s (k8 x1 x2 x3 s) (jm_rV 78 mr_154)) (x1 : Int32) (x2 : Int32) (x3 : Int32) (y0 : Int32) (s : jm_M) : jm_Sim mY_Z_spread 0 0 54 [(0, .ref 59), (1, .int x1), (2, .int x2), (3, .int x3)] [.int y0] 78 mr_154 s (s_Z_spread_J54 k2 k8 x1 x2 x3 y0 s) (jm_rV 78 mr_154) := by
  unfold s_Z_spread_J54
  refine jm_istore (pc := 54) (L2 := [(4, .int y0), (0, .ref 59), (1, .int x1), (2, .int x2), (3, .int x3)]) d_Z_spread_54 (Nat.le_of_ble_eq_true rfl) rfl ?_
  refine jm_iload (pc := 56) (q := 0) (x := y0) d_Z_spread_56 rfl ?_
  refine jm_if_eq (pc := 58) (tgt := 69) d_Z_spread_58 (by decide) ?_ ?_
  · refine jm_ldc (pc := 69) (v := 1000000) d_Z_spread_69 k_Z_186 ?_
    refine jm_sub (L2 := [(0, .ref 59), (1, .int x1), (2, .int x2), (3, .int x3)]) [1, 2, 3, 4] rfl ?_
    exact s_Z_spread_J71_ok hk2 hk8 x1 x2 x3 1000000 s
  · refine jm_aload_n (pc := 61) (q := 1) (x := 59) d_Z_spread_61 rfl ?_
    refine jm_iload_n (pc := 62) (q := 4) (x := x3) d_Z_spread_62 rfl ?_
    refine jm_Vi (pc := 63) (Y' := mY_Z_together) (i := 59) (avs := [.int x3]) (rest := []) (s_Z_together_ok s x3) ok_Z_together l0_Z_spread__Z_together ml_Z_190 im_Z_together se_Z_together d_Z_spread_63 rfl sh_59 rfl rfl ge_59 le_59_78 rfl (Nat.le_of_ble_eq_true rfl) (Nat.le_of_ble_eq_true rfl) (Nat.le_of_ble_eq_true rfl) (Nat.le_of_ble_eq_true rfl) (fun v7 s8 => ?_)
    refine jm_goto (pc := 66) (tgt := 71) d_Z_spread_66 (by decide) ?_
    refine jm_sub (L2 := [(0, .ref 59), (1, .int x1), (2, .int x2), (3, .int x3)]) [1, 2, 3, 4] rfl ?_
    exact s_Z_spread_J71_ok hk2 hk8 x1 x2 x3 v7 s8
def s_Z_spread_L10 (k2 : Int32 → Int32 → jm_M → Option jm_M) : Nat → Int32 → Int32 → Int32 → jm_M → Option jm_M
  | 0, _, _, _, _ => none
  | n + 1, x1, x2, x3, s => jm_ldi s 61 4 0 (fun v1 => (if v1 ≤ x3 then k2 x1 x2 s else jm_bd (s_Z_has s (s.1 59 22) x3) (fun v2 => (if v2 = 0 then s_Z_spread_J54 k2 (s_Z_spread_L10 k2 n) x1 x2 x3 0 s else jm_ldi s 62 40 x3 (fun v9 => (if v9 = 2 then s_Z_spread_J54 k2 (s_Z_spread_L10 k2 n) x1 x2 x3 0 s else jm_bd (s_Z_has s x1 x3) (fun v10 => (if v10 = 0 then s_Z_spread_J54 k2 (s_Z_spread_L10 k2 n) x1 x2 x3 1 s else s_Z_spread_J54 k2 (s_Z_spread_L10 k2 n) x1 x2 x3 0 s))))))))
set_option maxRecDepth 100000 in
set_option maxHeartbeats 4000000 in
theorem s_Z_spread_L10_ok {k2 : Int32 → Int32 → jm_M → Option jm_M} (hk2 : ∀ (x1 : Int32) (x2 : Int32) (s : jm_M), jm_Sim mY_Z_spread 0 0 2 [(0, .ref 59), (1, .int x1), (2, .int x2)] [] 78 mr_154 s (k2 x1 x2 s) (jm_rV 78 mr_154)) : ∀ (n : Nat) (x1 : Int32) (x2 : Int32) (x3 : Int32) (s : jm_M), jm_Sim mY_Z_spread 0 0 10 [(0, .ref 59), (1, .int x1), (2, .int x2), (3, .int x3)] [] 78 mr_154 s (s_Z_spread_L10 k2 n x1 x2 x3 s) (jm_rV 78 mr_154) := by
  intro n
  induction n with
  | zero => intro x1 x2 x3 s; exact jm_none
  | succ n ih =>
    intro x1 x2 x3 s
    rw [s_Z_spread_L10]
    refine jm_iload_n (pc := 10) (q := 3) (x := x3) d_Z_spread_10 rfl ?_
    refine jm_aload_n (pc := 11) (q := 0) (x := 59) d_Z_spread_11 rfl ?_
    refine jm_gr (pc := 12) (i := 59) d_Z_spread_12 fo_Z_13 sh_59 ge_59 le_59_78 rfl (fun _ => rfl) mr_154_59_2 ge_61 ?_
    refine jm_iconst (pc := 15) (v := 0) d_Z_spread_15 ci_0 ?_
    refine jm_iald (pc := 16) d_Z_spread_16 sh_61 ge_61 le_61_78 (fun v1 => ?_)
    refine jm_icmp_ge (pc := 17) (tgt := 119) d_Z_spread_17 (by decide) ?_ ?_
    · refine jm_goto (pc := 119) (tgt := 2) d_Z_spread_119 (by decide) ?_
      refine jm_sub (L2 := [(0, .ref 59), (1, .int x1), (2, .int x2)]) [0, 1, 2] rfl ?_
      exact hk2 x1 x2 s
    · refine jm_aload_n (pc := 20) (q := 0) (x := 59) d_Z_spread_20 rfl ?_
      refine jm_gi (pc := 21) (i := 59) d_Z_spread_21 fo_Z_171 sh_59 ge_59 le_59_78 rfl (fun _ => rfl) ?_
      refine jm_iload_n (pc := 24) (q := 3) (x := x3) d_Z_spread_24 rfl ?_
      refine jm_Sp (pc := 25) (Y' := mY_Z_has) (avs := [.int (s.1 59 22), .int x3]) (rest := []) (s_Z_has_ok s (s.1 59 22) x3) ok_Z_has l0_Z_spread__Z_has ml_Z_99 sm_Z_has d_Z_spread_25 rfl rfl (Nat.le_of_ble_eq_true rfl) (Nat.le_of_ble_eq_true rfl) (Nat.le_of_ble_eq_true rfl) (Nat.le_of_ble_eq_true rfl) (fun v2 => ?_)
      refine jm_if_eq (pc := 28) (tgt := 53) d_Z_spread_28 (by decide) ?_ ?_
      · refine jm_iconst (pc := 53) (v := 0) d_Z_spread_53 ci_0 ?_
        exact s_Z_spread_J54_ok hk2 ih x1 x2 x3 0 s
      · refine jm_aload_n (pc := 31) (q := 0) (x := 59) d_Z_spread_31 rfl ?_
        refine jm_gr (pc := 32) (i := 59) d_Z_spread_32 fo_Z_16 sh_59 ge_59 le_59_78 rfl (fun _ => rfl) mr_154_59_3 ge_62 ?_
        refine jm_iload_n (pc := 35) (q := 3) (x := x3) d_Z_spread_35 rfl ?_
        refine jm_iald (pc := 36) d_Z_spread_36 sh_62 ge_62 le_62_78 (fun v9 => ?_)
        refine jm_iconst (pc := 37) (v := 2) d_Z_spread_37 ci_2 ?_
        refine jm_icmp_eq (pc := 38) (tgt := 53) d_Z_spread_38 (by decide) ?_ ?_
        · refine jm_iconst (pc := 53) (v := 0) d_Z_spread_53 ci_0 ?_
          exact s_Z_spread_J54_ok hk2 ih x1 x2 x3 0 s
        · refine jm_iload_n (pc := 41) (q := 1) (x := x1) d_Z_spread_41 rfl ?_
          refine jm_iload_n (pc := 42) (q := 3) (x := x3) d_Z_spread_42 rfl ?_
          refine jm_Sp (pc := 43) (Y' := mY_Z_has) (avs := [.int x1, .int x3]) (rest := []) (s_Z_has_ok s x1 x3) ok_Z_has l0_Z_spread__Z_has ml_Z_99 sm_Z_has d_Z_spread_43 rfl rfl (Nat.le_of_ble_eq_true rfl) (Nat.le_of_ble_eq_true rfl) (Nat.le_of_ble_eq_true rfl) (Nat.le_of_ble_eq_true rfl) (fun v10 => ?_)
          refine jm_if_ne (pc := 46) (tgt := 53) d_Z_spread_46 (by decide) ?_ ?_
          · refine jm_iconst (pc := 49) (v := 1) d_Z_spread_49 ci_1 ?_
            refine jm_goto (pc := 50) (tgt := 54) d_Z_spread_50 (by decide) ?_
            exact s_Z_spread_J54_ok hk2 ih x1 x2 x3 1 s
          · refine jm_iconst (pc := 53) (v := 0) d_Z_spread_53 ci_0 ?_
            exact s_Z_spread_J54_ok hk2 ih x1 x2 x3 0 s
def s_Z_spread_L2 : Nat → Int32 → Int32 → jm_M → Option jm_M
  | 0, _, _, _ => none
  | n + 1, x1, x2, s => (if x2 = 0 then (some s) else s_Z_spread_L10 (s_Z_spread_L2 n) 5000 x1 0 0 s)
set_option maxRecDepth 100000 in
set_option maxHeartbeats 4000000 in
theorem s_Z_spread_L2_ok : ∀ (n : Nat) (x1 : Int32) (x2 : Int32) (s : jm_M), jm_Sim mY_Z_spread 0 0 2 [(0, .ref 59), (1, .int x1), (2, .int x2)] [] 78 mr_154 s (s_Z_spread_L2 n x1 x2 s) (jm_rV 78 mr_154) := by
  intro n
  induction n with
  | zero => intro x1 x2 s; exact jm_none
  | succ n ih =>
    intro x1 x2 s
    rw [s_Z_spread_L2]
    refine jm_iload_n (pc := 2) (q := 2) (x := x2) d_Z_spread_2 rfl ?_
    refine jm_if_eq (pc := 3) (tgt := 122) d_Z_spread_3 (by decide) ?_ ?_
    · exact jm_vret (pc := 122) d_Z_spread_122 rfl rfl rfl rfl
    · refine jm_iconst (pc := 6) (v := 0) d_Z_spread_6 ci_0 ?_
      refine jm_istore_n (pc := 7) (i := 2) (L2 := [(2, .int 0), (0, .ref 59), (1, .int x1)]) d_Z_spread_7 rfl (Nat.le_of_ble_eq_true rfl) rfl ?_
      refine jm_iconst (pc := 8) (v := 0) d_Z_spread_8 ci_0 ?_
      refine jm_istore_n (pc := 9) (i := 3) (L2 := [(3, .int 0), (2, .int 0), (0, .ref 59), (1, .int x1)]) d_Z_spread_9 rfl (Nat.le_of_ble_eq_true rfl) rfl ?_
      refine jm_sub (L2 := [(0, .ref 59), (1, .int x1), (2, .int 0), (3, .int 0)]) [2, 3, 1, 0] rfl ?_
      exact s_Z_spread_L10_ok ih 5000 x1 0 0 s
def s_Z_spread (s : jm_M) (a0 : Int32) : Option jm_M := s_Z_spread_L2 5000 a0 1 s
set_option maxRecDepth 100000 in
set_option maxHeartbeats 4000000 in
theorem s_Z_spread_ok (s : jm_M) (a0 : Int32) : jm_Sim mY_Z_spread 0 0 0 [(0, .ref 59), (1, .int a0)] [] 78 mr_154 s (s_Z_spread s a0) (jm_rV 78 mr_154) := by
  unfold s_Z_spread
  refine jm_iconst (pc := 0) (v := 1) d_Z_spread_0 ci_1 ?_
  refine jm_istore_n (pc := 1) (i := 2) (L2 := [(2, .int 1), (0, .ref 59), (1, .int a0)]) d_Z_spread_1 rfl (Nat.le_of_ble_eq_true rfl) rfl ?_
  refine jm_sub (L2 := [(0, .ref 59), (1, .int a0), (2, .int 1)]) [1, 2, 0] rfl ?_
  exact s_Z_spread_L2_ok 5000 a0 1 s
theorem d_Z_isFalse_0 : decode (jm_cd mY_Z_isFalse) 0 = .ok (.aload_n 0, 1) := by decide +kernel
theorem d_Z_isFalse_1 : decode (jm_cd mY_Z_isFalse) 1 = .ok (.iload_n 1, 1) := by decide +kernel
theorem d_Z_isFalse_2 : decode (jm_cd mY_Z_isFalse) 2 = .ok (.iconst 0, 1) := by decide +kernel
theorem d_Z_isFalse_3 : decode (jm_cd mY_Z_isFalse) 3 = .ok (.invokevirtual 196, 3) := by decide +kernel
theorem d_Z_isFalse_6 : decode (jm_cd mY_Z_isFalse) 6 = .ok (.aload_n 0, 1) := by decide +kernel
theorem d_Z_isFalse_7 : decode (jm_cd mY_Z_isFalse) 7 = .ok (.iconst 0, 1) := by decide +kernel
theorem d_Z_isFalse_8 : decode (jm_cd mY_Z_isFalse) 8 = .ok (.invokevirtual 199, 3) := by decide +kernel
theorem d_Z_isFalse_11 : decode (jm_cd mY_Z_isFalse) 11 = .ok (.aload_n 0, 1) := by decide +kernel
theorem d_Z_isFalse_12 : decode (jm_cd mY_Z_isFalse) 12 = .ok (.aload_n 0, 1) := by decide +kernel
theorem d_Z_isFalse_13 : decode (jm_cd mY_Z_isFalse) 13 = .ok (.invokevirtual 168, 3) := by decide +kernel
theorem d_Z_isFalse_16 : decode (jm_cd mY_Z_isFalse) 16 = .ok (.invokevirtual 190, 3) := by decide +kernel
theorem d_Z_isFalse_19 : decode (jm_cd mY_Z_isFalse) 19 = .ok (.ldc 186, 2) := by decide +kernel
theorem d_Z_isFalse_21 : decode (jm_cd mY_Z_isFalse) 21 = .ok (.if_icmp .ge 7, 3) := by decide +kernel
theorem d_Z_isFalse_24 : decode (jm_cd mY_Z_isFalse) 24 = .ok (.iconst 1, 1) := by decide +kernel
theorem d_Z_isFalse_25 : decode (jm_cd mY_Z_isFalse) 25 = .ok (.goto 4, 3) := by decide +kernel
theorem d_Z_isFalse_28 : decode (jm_cd mY_Z_isFalse) 28 = .ok (.iconst 0, 1) := by decide +kernel
theorem d_Z_isFalse_29 : decode (jm_cd mY_Z_isFalse) 29 = .ok (.ireturn, 1) := by decide +kernel
def s_Z_isFalse (s : jm_M) (a0 : Int32) : Option (Int32 × jm_M) := jm_bd (s_Z_kindle s a0 0) (fun s1 => jm_bd (s_Z_spread s1 0) (fun s2 => jm_bd (s_Z_ear s2) (fun v3 => jm_b2 (s_Z_together s2 v3) (fun v4 s5 => (if 1000000 ≤ v4 then (some (0, s5)) else (some (1, s5)))))))
set_option maxRecDepth 100000 in
set_option maxHeartbeats 4000000 in
theorem s_Z_isFalse_ok (s : jm_M) (a0 : Int32) : jm_Sim mY_Z_isFalse 0 0 0 [(0, .ref 59), (1, .int a0)] [] 78 mr_154 s (s_Z_isFalse s a0) (jm_rP 78 mr_154) := by
  unfold s_Z_isFalse
  refine jm_aload_n (pc := 0) (q := 0) (x := 59) d_Z_isFalse_0 rfl ?_
  refine jm_iload_n (pc := 1) (q := 1) (x := a0) d_Z_isFalse_1 rfl ?_
  refine jm_iconst (pc := 2) (v := 0) d_Z_isFalse_2 ci_0 ?_
  refine jm_Vv (pc := 3) (Y' := mY_Z_kindle) (i := 59) (avs := [.int a0, .int 0]) (rest := []) (s_Z_kindle_ok s a0 0) ok_Z_kindle l0_Z_isFalse__Z_kindle ml_Z_196 im_Z_kindle se_Z_kindle d_Z_isFalse_3 rfl sh_59 rfl rfl ge_59 le_59_78 rfl (Nat.le_of_ble_eq_true rfl) (Nat.le_of_ble_eq_true rfl) (Nat.le_of_ble_eq_true rfl) (Nat.le_of_ble_eq_true rfl) (fun s1 => ?_)
  refine jm_aload_n (pc := 6) (q := 0) (x := 59) d_Z_isFalse_6 rfl ?_
  refine jm_iconst (pc := 7) (v := 0) d_Z_isFalse_7 ci_0 ?_
  refine jm_Vv (pc := 8) (Y' := mY_Z_spread) (i := 59) (avs := [.int 0]) (rest := []) (s_Z_spread_ok s1 0) ok_Z_spread l0_Z_isFalse__Z_spread ml_Z_199 im_Z_spread se_Z_spread d_Z_isFalse_8 rfl sh_59 rfl rfl ge_59 le_59_78 rfl (Nat.le_of_ble_eq_true rfl) (Nat.le_of_ble_eq_true rfl) (Nat.le_of_ble_eq_true rfl) (Nat.le_of_ble_eq_true rfl) (fun s2 => ?_)
  refine jm_aload_n (pc := 11) (q := 0) (x := 59) d_Z_isFalse_11 rfl ?_
  refine jm_aload_n (pc := 12) (q := 0) (x := 59) d_Z_isFalse_12 rfl ?_
  refine jm_Vp (pc := 13) (Y' := mY_Z_ear) (i := 59) (avs := []) (rest := [.ref 59]) (s_Z_ear_ok s2) ok_Z_ear l0_Z_isFalse__Z_ear ml_Z_168 im_Z_ear se_Z_ear d_Z_isFalse_13 rfl sh_59 rfl rfl ge_59 le_59_78 rfl (Nat.le_of_ble_eq_true rfl) (Nat.le_of_ble_eq_true rfl) (Nat.le_of_ble_eq_true rfl) (Nat.le_of_ble_eq_true rfl) (fun v3 => ?_)
  refine jm_Vi (pc := 16) (Y' := mY_Z_together) (i := 59) (avs := [.int v3]) (rest := []) (s_Z_together_ok s2 v3) ok_Z_together l0_Z_isFalse__Z_together ml_Z_190 im_Z_together se_Z_together d_Z_isFalse_16 rfl sh_59 rfl rfl ge_59 le_59_78 rfl (Nat.le_of_ble_eq_true rfl) (Nat.le_of_ble_eq_true rfl) (Nat.le_of_ble_eq_true rfl) (Nat.le_of_ble_eq_true rfl) (fun v4 s5 => ?_)
  refine jm_ldc (pc := 19) (v := 1000000) d_Z_isFalse_19 k_Z_186 ?_
  refine jm_icmp_ge (pc := 21) (tgt := 28) d_Z_isFalse_21 (by decide) ?_ ?_
  · refine jm_iconst (pc := 28) (v := 0) d_Z_isFalse_28 ci_0 ?_
    exact jm_iret (pc := 29) (x := 0) d_Z_isFalse_29 rfl (by decide) rfl rfl rfl
  · refine jm_iconst (pc := 24) (v := 1) d_Z_isFalse_24 ci_1 ?_
    refine jm_goto (pc := 25) (tgt := 29) d_Z_isFalse_25 (by decide) ?_
    exact jm_iret (pc := 29) (x := 1) d_Z_isFalse_29 rfl (by decide) rfl rfl rfl
theorem d_Z_falseBy_0 : decode (jm_cd mY_Z_falseBy) 0 = .ok (.aload_n 0, 1) := by decide +kernel
theorem d_Z_falseBy_1 : decode (jm_cd mY_Z_falseBy) 1 = .ok (.invokevirtual 203, 3) := by decide +kernel
theorem d_Z_falseBy_4 : decode (jm_cd mY_Z_falseBy) 4 = .ok (.iload_n 1, 1) := by decide +kernel
theorem d_Z_falseBy_5 : decode (jm_cd mY_Z_falseBy) 5 = .ok (.ifCond .lt 14, 3) := by decide +kernel
theorem d_Z_falseBy_8 : decode (jm_cd mY_Z_falseBy) 8 = .ok (.iload_n 1, 1) := by decide +kernel
theorem d_Z_falseBy_9 : decode (jm_cd mY_Z_falseBy) 9 = .ok (.aload_n 0, 1) := by decide +kernel
theorem d_Z_falseBy_10 : decode (jm_cd mY_Z_falseBy) 10 = .ok (.invokevirtual 206, 3) := by decide +kernel
theorem d_Z_falseBy_13 : decode (jm_cd mY_Z_falseBy) 13 = .ok (.iconst (-1), 1) := by decide +kernel
theorem d_Z_falseBy_14 : decode (jm_cd mY_Z_falseBy) 14 = .ok (.ixor, 1) := by decide +kernel
theorem d_Z_falseBy_15 : decode (jm_cd mY_Z_falseBy) 15 = .ok (.iand, 1) := by decide +kernel
theorem d_Z_falseBy_16 : decode (jm_cd mY_Z_falseBy) 16 = .ok (.ifCond .eq 5, 3) := by decide +kernel
theorem d_Z_falseBy_19 : decode (jm_cd mY_Z_falseBy) 19 = .ok (.iconst (-1), 1) := by decide +kernel
theorem d_Z_falseBy_20 : decode (jm_cd mY_Z_falseBy) 20 = .ok (.ireturn, 1) := by decide +kernel
theorem d_Z_falseBy_21 : decode (jm_cd mY_Z_falseBy) 21 = .ok (.aload_n 0, 1) := by decide +kernel
theorem d_Z_falseBy_22 : decode (jm_cd mY_Z_falseBy) 22 = .ok (.invokevirtual 168, 3) := by decide +kernel
theorem d_Z_falseBy_25 : decode (jm_cd mY_Z_falseBy) 25 = .ok (.bipush (-4), 2) := by decide +kernel
theorem d_Z_falseBy_27 : decode (jm_cd mY_Z_falseBy) 27 = .ok (.if_icmp .ne 8, 3) := by decide +kernel
theorem d_Z_falseBy_30 : decode (jm_cd mY_Z_falseBy) 30 = .ok (.bipush (-2), 2) := by decide +kernel
theorem d_Z_falseBy_32 : decode (jm_cd mY_Z_falseBy) 32 = .ok (.goto 16, 3) := by decide +kernel
theorem d_Z_falseBy_35 : decode (jm_cd mY_Z_falseBy) 35 = .ok (.aload_n 0, 1) := by decide +kernel
theorem d_Z_falseBy_36 : decode (jm_cd mY_Z_falseBy) 36 = .ok (.iload_n 1, 1) := by decide +kernel
theorem d_Z_falseBy_37 : decode (jm_cd mY_Z_falseBy) 37 = .ok (.invokevirtual 209, 3) := by decide +kernel
theorem d_Z_falseBy_40 : decode (jm_cd mY_Z_falseBy) 40 = .ok (.ifCond .eq 7, 3) := by decide +kernel
theorem d_Z_falseBy_43 : decode (jm_cd mY_Z_falseBy) 43 = .ok (.iconst 1, 1) := by decide +kernel
theorem d_Z_falseBy_44 : decode (jm_cd mY_Z_falseBy) 44 = .ok (.goto 4, 3) := by decide +kernel
theorem d_Z_falseBy_47 : decode (jm_cd mY_Z_falseBy) 47 = .ok (.iconst 0, 1) := by decide +kernel
theorem d_Z_falseBy_48 : decode (jm_cd mY_Z_falseBy) 48 = .ok (.ireturn, 1) := by decide +kernel
def s_Z_falseBy (s : jm_M) (a0 : Int32) : Option (Int32 × jm_M) := jm_bd (s_Z_asTold s) (fun s1 => (if a0 < 0 then (some ((-1), s1)) else jm_bd (s_Z_men s1) (fun v2 => (if (a0 &&& (v2 ^^^ (-1))) = 0 then jm_bd (s_Z_ear s1) (fun v3 => (if v3 = (-4) then (some ((-2), s1)) else jm_b2 (s_Z_isFalse s1 a0) (fun v4 s5 => (if v4 = 0 then (some (0, s5)) else (some (1, s5)))))) else (some ((-1), s1))))))
set_option maxRecDepth 100000 in
set_option maxHeartbeats 4000000 in
theorem s_Z_falseBy_ok (s : jm_M) (a0 : Int32) : jm_Sim mY_Z_falseBy 0 0 0 [(0, .ref 59), (1, .int a0)] [] 78 mr_154 s (s_Z_falseBy s a0) (jm_rP 78 mr_154) := by
  unfold s_Z_falseBy
  refine jm_aload_n (pc := 0) (q := 0) (x := 59) d_Z_falseBy_0 rfl ?_
  refine jm_Vv (pc := 1) (Y' := mY_Z_asTold) (i := 59) (avs := []) (rest := []) (s_Z_asTold_ok s) ok_Z_asTold l0_Z_falseBy__Z_asTold ml_Z_203 im_Z_asTold se_Z_asTold d_Z_falseBy_1 rfl sh_59 rfl rfl ge_59 le_59_78 rfl (Nat.le_of_ble_eq_true rfl) (Nat.le_of_ble_eq_true rfl) (Nat.le_of_ble_eq_true rfl) (Nat.le_of_ble_eq_true rfl) (fun s1 => ?_)
  refine jm_iload_n (pc := 4) (q := 1) (x := a0) d_Z_falseBy_4 rfl ?_
  refine jm_if_lt (pc := 5) (tgt := 19) d_Z_falseBy_5 (by decide) ?_ ?_
  · refine jm_iconst (pc := 19) (v := (-1)) d_Z_falseBy_19 ci_m1 ?_
    exact jm_iret (pc := 20) (x := (-1)) d_Z_falseBy_20 rfl rfl rfl rfl rfl
  · refine jm_iload_n (pc := 8) (q := 1) (x := a0) d_Z_falseBy_8 rfl ?_
    refine jm_aload_n (pc := 9) (q := 0) (x := 59) d_Z_falseBy_9 rfl ?_
    refine jm_Vp (pc := 10) (Y' := mY_Z_men) (i := 59) (avs := []) (rest := [.int a0]) (s_Z_men_ok s1) ok_Z_men l0_Z_falseBy__Z_men ml_Z_206 im_Z_men se_Z_men d_Z_falseBy_10 rfl sh_59 rfl rfl ge_59 le_59_78 rfl (Nat.le_of_ble_eq_true rfl) (Nat.le_of_ble_eq_true rfl) (Nat.le_of_ble_eq_true rfl) (Nat.le_of_ble_eq_true rfl) (fun v2 => ?_)
    refine jm_iconst (pc := 13) (v := (-1)) d_Z_falseBy_13 ci_m1 ?_
    refine jm_ixor (pc := 14) d_Z_falseBy_14 ?_
    refine jm_iand (pc := 15) d_Z_falseBy_15 ?_
    refine jm_if_eq (pc := 16) (tgt := 21) d_Z_falseBy_16 (by decide) ?_ ?_
    · refine jm_aload_n (pc := 21) (q := 0) (x := 59) d_Z_falseBy_21 rfl ?_
      refine jm_Vp (pc := 22) (Y' := mY_Z_ear) (i := 59) (avs := []) (rest := []) (s_Z_ear_ok s1) ok_Z_ear l0_Z_falseBy__Z_ear ml_Z_168 im_Z_ear se_Z_ear d_Z_falseBy_22 rfl sh_59 rfl rfl ge_59 le_59_78 rfl (Nat.le_of_ble_eq_true rfl) (Nat.le_of_ble_eq_true rfl) (Nat.le_of_ble_eq_true rfl) (Nat.le_of_ble_eq_true rfl) (fun v3 => ?_)
      refine jm_bipush (pc := 25) (v := (-4)) d_Z_falseBy_25 cb_m4 ?_
      refine jm_icmp_ne (pc := 27) (tgt := 35) d_Z_falseBy_27 (by decide) ?_ ?_
      · refine jm_bipush (pc := 30) (v := (-2)) d_Z_falseBy_30 cb_m2 ?_
        refine jm_goto (pc := 32) (tgt := 48) d_Z_falseBy_32 (by decide) ?_
        exact jm_iret (pc := 48) (x := (-2)) d_Z_falseBy_48 rfl rfl rfl rfl rfl
      · refine jm_aload_n (pc := 35) (q := 0) (x := 59) d_Z_falseBy_35 rfl ?_
        refine jm_iload_n (pc := 36) (q := 1) (x := a0) d_Z_falseBy_36 rfl ?_
        refine jm_Vi (pc := 37) (Y' := mY_Z_isFalse) (i := 59) (avs := [.int a0]) (rest := []) (s_Z_isFalse_ok s1 a0) ok_Z_isFalse l0_Z_falseBy__Z_isFalse ml_Z_209 im_Z_isFalse se_Z_isFalse d_Z_falseBy_37 rfl sh_59 rfl rfl ge_59 le_59_78 rfl (Nat.le_of_ble_eq_true rfl) (Nat.le_of_ble_eq_true rfl) (Nat.le_of_ble_eq_true rfl) (Nat.le_of_ble_eq_true rfl) (fun v4 s5 => ?_)
        refine jm_if_eq (pc := 40) (tgt := 47) d_Z_falseBy_40 (by decide) ?_ ?_
        · refine jm_iconst (pc := 47) (v := 0) d_Z_falseBy_47 ci_0 ?_
          exact jm_iret (pc := 48) (x := 0) d_Z_falseBy_48 rfl rfl rfl rfl rfl
        · refine jm_iconst (pc := 43) (v := 1) d_Z_falseBy_43 ci_1 ?_
          refine jm_goto (pc := 44) (tgt := 48) d_Z_falseBy_44 (by decide) ?_
          exact jm_iret (pc := 48) (x := 1) d_Z_falseBy_48 rfl rfl rfl rfl rfl
    · refine jm_iconst (pc := 19) (v := (-1)) d_Z_falseBy_19 ci_m1 ?_
      exact jm_iret (pc := 20) (x := (-1)) d_Z_falseBy_20 rfl rfl rfl rfl rfl
theorem d_X_isNumberOfLiars_0 : decode (jm_cd mY_X_isNumberOfLiars) 0 = .ok (.iload_n 0, 1) := by decide +kernel
theorem d_X_isNumberOfLiars_1 : decode (jm_cd mY_X_isNumberOfLiars) 1 = .ok (.ifCond .lt 13, 3) := by decide +kernel
theorem d_X_isNumberOfLiars_4 : decode (jm_cd mY_X_isNumberOfLiars) 4 = .ok (.iload_n 0, 1) := by decide +kernel
theorem d_X_isNumberOfLiars_5 : decode (jm_cd mY_X_isNumberOfLiars) 5 = .ok (.bipush 9, 2) := by decide +kernel
theorem d_X_isNumberOfLiars_7 : decode (jm_cd mY_X_isNumberOfLiars) 7 = .ok (.if_icmp .gt 7, 3) := by decide +kernel
theorem d_X_isNumberOfLiars_10 : decode (jm_cd mY_X_isNumberOfLiars) 10 = .ok (.iconst 1, 1) := by decide +kernel
theorem d_X_isNumberOfLiars_11 : decode (jm_cd mY_X_isNumberOfLiars) 11 = .ok (.goto 4, 3) := by decide +kernel
theorem d_X_isNumberOfLiars_14 : decode (jm_cd mY_X_isNumberOfLiars) 14 = .ok (.iconst 0, 1) := by decide +kernel
theorem d_X_isNumberOfLiars_15 : decode (jm_cd mY_X_isNumberOfLiars) 15 = .ok (.ireturn, 1) := by decide +kernel
def s_X_isNumberOfLiars (s : jm_M) (a0 : Int32) : Option Int32 := (if a0 < 0 then (some 0) else (if 9 < a0 then (some 0) else (some 1)))
set_option maxRecDepth 100000 in
set_option maxHeartbeats 4000000 in
theorem s_X_isNumberOfLiars_ok (s : jm_M) (a0 : Int32) : jm_Sim mY_X_isNumberOfLiars 0 0 0 [(0, .int a0)] [] 78 mr_154 s (s_X_isNumberOfLiars s a0) (jm_rI 78 mr_154 s) := by
  unfold s_X_isNumberOfLiars
  refine jm_iload_n (pc := 0) (q := 0) (x := a0) d_X_isNumberOfLiars_0 rfl ?_
  refine jm_if_lt (pc := 1) (tgt := 14) d_X_isNumberOfLiars_1 (by decide) ?_ ?_
  · refine jm_iconst (pc := 14) (v := 0) d_X_isNumberOfLiars_14 ci_0 ?_
    exact jm_iret (pc := 15) (x := 0) d_X_isNumberOfLiars_15 rfl (by decide) rfl rfl rfl
  · refine jm_iload_n (pc := 4) (q := 0) (x := a0) d_X_isNumberOfLiars_4 rfl ?_
    refine jm_bipush (pc := 5) (v := 9) d_X_isNumberOfLiars_5 cb_9 ?_
    refine jm_icmp_gt (pc := 7) (tgt := 14) d_X_isNumberOfLiars_7 (by decide) ?_ ?_
    · refine jm_iconst (pc := 14) (v := 0) d_X_isNumberOfLiars_14 ci_0 ?_
      exact jm_iret (pc := 15) (x := 0) d_X_isNumberOfLiars_15 rfl (by decide) rfl rfl rfl
    · refine jm_iconst (pc := 10) (v := 1) d_X_isNumberOfLiars_10 ci_1 ?_
      refine jm_goto (pc := 11) (tgt := 15) d_X_isNumberOfLiars_11 (by decide) ?_
      exact jm_iret (pc := 15) (x := 1) d_X_isNumberOfLiars_15 rfl (by decide) rfl rfl rfl
theorem d_Co_nextSet_0 : decode (jm_cd mY_Co_nextSet) 0 = .ok (.iload_n 0, 1) := by decide +kernel
theorem d_Co_nextSet_1 : decode (jm_cd mY_Co_nextSet) 1 = .ok (.iload_n 1, 1) := by decide +kernel
theorem d_Co_nextSet_2 : decode (jm_cd mY_Co_nextSet) 2 = .ok (.isub, 1) := by decide +kernel
theorem d_Co_nextSet_3 : decode (jm_cd mY_Co_nextSet) 3 = .ok (.iload_n 1, 1) := by decide +kernel
theorem d_Co_nextSet_4 : decode (jm_cd mY_Co_nextSet) 4 = .ok (.iand, 1) := by decide +kernel
theorem d_Co_nextSet_5 : decode (jm_cd mY_Co_nextSet) 5 = .ok (.ireturn, 1) := by decide +kernel
def s_Co_nextSet (s : jm_M) (a0 : Int32) (a1 : Int32) : Option Int32 := (some ((a0 - a1) &&& a1))
set_option maxRecDepth 100000 in
set_option maxHeartbeats 4000000 in
theorem s_Co_nextSet_ok (s : jm_M) (a0 : Int32) (a1 : Int32) : jm_Sim mY_Co_nextSet 0 0 0 [(0, .int a0), (1, .int a1)] [] 78 mr_154 s (s_Co_nextSet s a0 a1) (jm_rI 78 mr_154 s) := by
  unfold s_Co_nextSet
  refine jm_iload_n (pc := 0) (q := 0) (x := a0) d_Co_nextSet_0 rfl ?_
  refine jm_iload_n (pc := 1) (q := 1) (x := a1) d_Co_nextSet_1 rfl ?_
  refine jm_isub (pc := 2) d_Co_nextSet_2 ?_
  refine jm_iload_n (pc := 3) (q := 1) (x := a1) d_Co_nextSet_3 rfl ?_
  refine jm_iand (pc := 4) d_Co_nextSet_4 ?_
  exact jm_iret (pc := 5) (x := (a0 - a1) &&& a1) d_Co_nextSet_5 rfl rfl rfl rfl rfl
theorem d_Co_leastFoolingSet_0 : decode (jm_cd mY_Co_leastFoolingSet) 0 = .ok (.iconst 0, 1) := by decide +kernel
theorem d_Co_leastFoolingSet_1 : decode (jm_cd mY_Co_leastFoolingSet) 1 = .ok (.istore_n 2, 1) := by decide +kernel
theorem d_Co_leastFoolingSet_2 : decode (jm_cd mY_Co_leastFoolingSet) 2 = .ok (.iconst 0, 1) := by decide +kernel
theorem d_Co_leastFoolingSet_3 : decode (jm_cd mY_Co_leastFoolingSet) 3 = .ok (.istore_n 3, 1) := by decide +kernel
theorem d_Co_leastFoolingSet_4 : decode (jm_cd mY_Co_leastFoolingSet) 4 = .ok (.iload_n 3, 1) := by decide +kernel
theorem d_Co_leastFoolingSet_5 : decode (jm_cd mY_Co_leastFoolingSet) 5 = .ok (.sipush 1024, 3) := by decide +kernel
theorem d_Co_leastFoolingSet_8 : decode (jm_cd mY_Co_leastFoolingSet) 8 = .ok (.if_icmp .ge 43, 3) := by decide +kernel
theorem d_Co_leastFoolingSet_11 : decode (jm_cd mY_Co_leastFoolingSet) 11 = .ok (.iload_n 2, 1) := by decide +kernel
theorem d_Co_leastFoolingSet_12 : decode (jm_cd mY_Co_leastFoolingSet) 12 = .ok (.invokestatic 58, 3) := by decide +kernel
theorem d_Co_leastFoolingSet_15 : decode (jm_cd mY_Co_leastFoolingSet) 15 = .ok (.iload_n 1, 1) := by decide +kernel
theorem d_Co_leastFoolingSet_16 : decode (jm_cd mY_Co_leastFoolingSet) 16 = .ok (.if_icmp .ne 13, 3) := by decide +kernel
theorem d_Co_leastFoolingSet_19 : decode (jm_cd mY_Co_leastFoolingSet) 19 = .ok (.aload_n 0, 1) := by decide +kernel
theorem d_Co_leastFoolingSet_20 : decode (jm_cd mY_Co_leastFoolingSet) 20 = .ok (.iload_n 2, 1) := by decide +kernel
theorem d_Co_leastFoolingSet_21 : decode (jm_cd mY_Co_leastFoolingSet) 21 = .ok (.invokevirtual 66, 3) := by decide +kernel
theorem d_Co_leastFoolingSet_24 : decode (jm_cd mY_Co_leastFoolingSet) 24 = .ok (.ifCond .eq 5, 3) := by decide +kernel
theorem d_Co_leastFoolingSet_27 : decode (jm_cd mY_Co_leastFoolingSet) 27 = .ok (.iload_n 2, 1) := by decide +kernel
theorem d_Co_leastFoolingSet_28 : decode (jm_cd mY_Co_leastFoolingSet) 28 = .ok (.ireturn, 1) := by decide +kernel
theorem d_Co_leastFoolingSet_29 : decode (jm_cd mY_Co_leastFoolingSet) 29 = .ok (.iload_n 2, 1) := by decide +kernel
theorem d_Co_leastFoolingSet_30 : decode (jm_cd mY_Co_leastFoolingSet) 30 = .ok (.aload_n 0, 1) := by decide +kernel
theorem d_Co_leastFoolingSet_31 : decode (jm_cd mY_Co_leastFoolingSet) 31 = .ok (.getfield 24, 3) := by decide +kernel
theorem d_Co_leastFoolingSet_34 : decode (jm_cd mY_Co_leastFoolingSet) 34 = .ok (.invokestatic 70, 3) := by decide +kernel
theorem d_Co_leastFoolingSet_37 : decode (jm_cd mY_Co_leastFoolingSet) 37 = .ok (.istore_n 2, 1) := by decide +kernel
theorem d_Co_leastFoolingSet_38 : decode (jm_cd mY_Co_leastFoolingSet) 38 = .ok (.iload_n 2, 1) := by decide +kernel
theorem d_Co_leastFoolingSet_39 : decode (jm_cd mY_Co_leastFoolingSet) 39 = .ok (.ifCond .ne 6, 3) := by decide +kernel
theorem d_Co_leastFoolingSet_42 : decode (jm_cd mY_Co_leastFoolingSet) 42 = .ok (.goto 9, 3) := by decide +kernel
theorem d_Co_leastFoolingSet_45 : decode (jm_cd mY_Co_leastFoolingSet) 45 = .ok (.iinc 3 1, 3) := by decide +kernel
theorem d_Co_leastFoolingSet_48 : decode (jm_cd mY_Co_leastFoolingSet) 48 = .ok (.goto (-44), 3) := by decide +kernel
theorem d_Co_leastFoolingSet_51 : decode (jm_cd mY_Co_leastFoolingSet) 51 = .ok (.bipush (-4), 2) := by decide +kernel
theorem d_Co_leastFoolingSet_53 : decode (jm_cd mY_Co_leastFoolingSet) 53 = .ok (.ireturn, 1) := by decide +kernel
def s_Co_leastFoolingSet_J29 (s : jm_M) (k4 : Int32 → Int32 → Int32 → Option Int32) (x1 : Int32) (x2 : Int32) (x3 : Int32) : Option Int32 := jm_bd (s_Co_nextSet s x2 (s.1 48 4)) (fun v2 => (if v2 = 0 then (some (-4)) else k4 x1 v2 (x3 + 1)))
set_option maxRecDepth 100000 in
set_option maxHeartbeats 4000000 in
theorem s_Co_leastFoolingSet_J29_ok (s : jm_M) {k4 : Int32 → Int32 → Int32 → Option Int32} (hk4 : ∀ (x1 : Int32) (x2 : Int32) (x3 : Int32), jm_Sim mY_Co_leastFoolingSet 0 0 4 [(0, .ref 48), (1, .int x1), (2, .int x2), (3, .int x3)] [] 78 mr_154 s (k4 x1 x2 x3) (jm_rI 78 mr_154 s)) (x1 : Int32) (x2 : Int32) (x3 : Int32) : jm_Sim mY_Co_leastFoolingSet 0 0 29 [(0, .ref 48), (1, .int x1), (2, .int x2), (3, .int x3)] [] 78 mr_154 s (s_Co_leastFoolingSet_J29 s k4 x1 x2 x3) (jm_rI 78 mr_154 s) := by
  unfold s_Co_leastFoolingSet_J29
  refine jm_iload_n (pc := 29) (q := 2) (x := x2) d_Co_leastFoolingSet_29 rfl ?_
  refine jm_aload_n (pc := 30) (q := 0) (x := 48) d_Co_leastFoolingSet_30 rfl ?_
  refine jm_gi (pc := 31) (i := 48) d_Co_leastFoolingSet_31 fo_Co_24 sh_48 ge_48 le_48_78 rfl (fun _ => rfl) ?_
  refine jm_Sp (pc := 34) (Y' := mY_Co_nextSet) (avs := [.int x2, .int (s.1 48 4)]) (rest := []) (s_Co_nextSet_ok s x2 (s.1 48 4)) ok_Co_nextSet l0_Co_leastFoolingSet__Co_nextSet ml_Co_70 sm_Co_nextSet d_Co_leastFoolingSet_34 rfl rfl (Nat.le_of_ble_eq_true rfl) (Nat.le_of_ble_eq_true rfl) (Nat.le_of_ble_eq_true rfl) (Nat.le_of_ble_eq_true rfl) (fun v2 => ?_)
  refine jm_istore_n (pc := 37) (i := 2) (L2 := [(2, .int v2), (0, .ref 48), (1, .int x1), (3, .int x3)]) d_Co_leastFoolingSet_37 rfl (Nat.le_of_ble_eq_true rfl) rfl ?_
  refine jm_iload_n (pc := 38) (q := 0) (x := v2) d_Co_leastFoolingSet_38 rfl ?_
  refine jm_if_ne (pc := 39) (tgt := 45) d_Co_leastFoolingSet_39 (by decide) ?_ ?_
  · refine jm_goto (pc := 42) (tgt := 51) d_Co_leastFoolingSet_42 (by decide) ?_
    refine jm_bipush (pc := 51) (v := (-4)) d_Co_leastFoolingSet_51 cb_m4 ?_
    exact jm_iret (pc := 53) (x := (-4)) d_Co_leastFoolingSet_53 rfl rfl rfl rfl rfl
  · refine jm_iinc (pc := 45) (q := 3) (x := x3) (v := 1) (L2 := [(3, .int (x3 + 1)), (2, .int v2), (0, .ref 48), (1, .int x1)]) d_Co_leastFoolingSet_45 rfl ci_1 (Nat.le_of_ble_eq_true rfl) rfl ?_
    refine jm_goto (pc := 48) (tgt := 4) d_Co_leastFoolingSet_48 (by decide) ?_
    refine jm_sub (L2 := [(0, .ref 48), (1, .int x1), (2, .int v2), (3, .int (x3 + 1))]) [2, 3, 1, 0] rfl ?_
    exact hk4 x1 v2 (x3 + 1)
def s_Co_leastFoolingSet_L4 (s : jm_M) : Nat → Int32 → Int32 → Int32 → Option Int32
  | 0, _, _, _ => none
  | n + 1, x1, x2, x3 => (if 1024 ≤ x3 then (some (-4)) else jm_bd (s_JI_bitCount s x2) (fun v1 => (if v1 = x1 then jm_bd (s_Co_isFooledBy s x2) (fun v3 => (if v3 = 0 then s_Co_leastFoolingSet_J29 s (s_Co_leastFoolingSet_L4 s n) x1 x2 x3 else (some x2))) else s_Co_leastFoolingSet_J29 s (s_Co_leastFoolingSet_L4 s n) x1 x2 x3)))
set_option maxRecDepth 100000 in
set_option maxHeartbeats 4000000 in
theorem s_Co_leastFoolingSet_L4_ok (s : jm_M) : ∀ (n : Nat) (x1 : Int32) (x2 : Int32) (x3 : Int32), jm_Sim mY_Co_leastFoolingSet 0 0 4 [(0, .ref 48), (1, .int x1), (2, .int x2), (3, .int x3)] [] 78 mr_154 s (s_Co_leastFoolingSet_L4 s n x1 x2 x3) (jm_rI 78 mr_154 s) := by
  intro n
  induction n with
  | zero => intro x1 x2 x3; exact jm_none
  | succ n ih =>
    intro x1 x2 x3
    rw [s_Co_leastFoolingSet_L4]
    refine jm_iload_n (pc := 4) (q := 3) (x := x3) d_Co_leastFoolingSet_4 rfl ?_
    refine jm_sipush (pc := 5) (v := 1024) d_Co_leastFoolingSet_5 cs_1024 ?_
    refine jm_icmp_ge (pc := 8) (tgt := 51) d_Co_leastFoolingSet_8 (by decide) ?_ ?_
    · refine jm_bipush (pc := 51) (v := (-4)) d_Co_leastFoolingSet_51 cb_m4 ?_
      exact jm_iret (pc := 53) (x := (-4)) d_Co_leastFoolingSet_53 rfl rfl rfl rfl rfl
    · refine jm_iload_n (pc := 11) (q := 2) (x := x2) d_Co_leastFoolingSet_11 rfl ?_
      refine jm_Sp (pc := 12) (Y' := mY_JI_bitCount) (avs := [.int x2]) (rest := []) (s_JI_bitCount_ok s x2) ok_JI_bitCount l0_Co_leastFoolingSet__JI_bitCount ml_Co_58 sm_JI_bitCount d_Co_leastFoolingSet_12 rfl rfl (Nat.le_of_ble_eq_true rfl) (Nat.le_of_ble_eq_true rfl) (Nat.le_of_ble_eq_true rfl) (Nat.le_of_ble_eq_true rfl) (fun v1 => ?_)
      refine jm_iload_n (pc := 15) (q := 1) (x := x1) d_Co_leastFoolingSet_15 rfl ?_
      refine jm_icmp_ne (pc := 16) (tgt := 29) d_Co_leastFoolingSet_16 (by decide) ?_ ?_
      · refine jm_aload_n (pc := 19) (q := 0) (x := 48) d_Co_leastFoolingSet_19 rfl ?_
        refine jm_iload_n (pc := 20) (q := 2) (x := x2) d_Co_leastFoolingSet_20 rfl ?_
        refine jm_Vp (pc := 21) (Y' := mY_Co_isFooledBy) (i := 48) (avs := [.int x2]) (rest := []) (s_Co_isFooledBy_ok s x2) ok_Co_isFooledBy l0_Co_leastFoolingSet__Co_isFooledBy ml_Co_66 im_Co_isFooledBy se_Co_isFooledBy d_Co_leastFoolingSet_21 rfl sh_48 rfl rfl ge_48 le_48_78 rfl (Nat.le_of_ble_eq_true rfl) (Nat.le_of_ble_eq_true rfl) (Nat.le_of_ble_eq_true rfl) (Nat.le_of_ble_eq_true rfl) (fun v3 => ?_)
        refine jm_if_eq (pc := 24) (tgt := 29) d_Co_leastFoolingSet_24 (by decide) ?_ ?_
        · exact s_Co_leastFoolingSet_J29_ok s ih x1 x2 x3
        · refine jm_iload_n (pc := 27) (q := 2) (x := x2) d_Co_leastFoolingSet_27 rfl ?_
          exact jm_iret (pc := 28) (x := x2) d_Co_leastFoolingSet_28 rfl rfl rfl rfl rfl
      · exact s_Co_leastFoolingSet_J29_ok s ih x1 x2 x3
def s_Co_leastFoolingSet (s : jm_M) (a0 : Int32) : Option Int32 := s_Co_leastFoolingSet_L4 s 5000 a0 0 0
set_option maxRecDepth 100000 in
set_option maxHeartbeats 4000000 in
theorem s_Co_leastFoolingSet_ok (s : jm_M) (a0 : Int32) : jm_Sim mY_Co_leastFoolingSet 0 0 0 [(0, .ref 48), (1, .int a0)] [] 78 mr_154 s (s_Co_leastFoolingSet s a0) (jm_rI 78 mr_154 s) := by
  unfold s_Co_leastFoolingSet
  refine jm_iconst (pc := 0) (v := 0) d_Co_leastFoolingSet_0 ci_0 ?_
  refine jm_istore_n (pc := 1) (i := 2) (L2 := [(2, .int 0), (0, .ref 48), (1, .int a0)]) d_Co_leastFoolingSet_1 rfl (Nat.le_of_ble_eq_true rfl) rfl ?_
  refine jm_iconst (pc := 2) (v := 0) d_Co_leastFoolingSet_2 ci_0 ?_
  refine jm_istore_n (pc := 3) (i := 3) (L2 := [(3, .int 0), (2, .int 0), (0, .ref 48), (1, .int a0)]) d_Co_leastFoolingSet_3 rfl (Nat.le_of_ble_eq_true rfl) rfl ?_
  refine jm_sub (L2 := [(0, .ref 48), (1, .int a0), (2, .int 0), (3, .int 0)]) [2, 3, 1, 0] rfl ?_
  exact s_Co_leastFoolingSet_L4_ok s 5000 a0 0 0
theorem d_Co_foolingSets_0 : decode (jm_cd mY_Co_foolingSets) 0 = .ok (.iconst 0, 1) := by decide +kernel
theorem d_Co_foolingSets_1 : decode (jm_cd mY_Co_foolingSets) 1 = .ok (.istore_n 2, 1) := by decide +kernel
theorem d_Co_foolingSets_2 : decode (jm_cd mY_Co_foolingSets) 2 = .ok (.iconst 0, 1) := by decide +kernel
theorem d_Co_foolingSets_3 : decode (jm_cd mY_Co_foolingSets) 3 = .ok (.istore_n 3, 1) := by decide +kernel
theorem d_Co_foolingSets_4 : decode (jm_cd mY_Co_foolingSets) 4 = .ok (.iconst 0, 1) := by decide +kernel
theorem d_Co_foolingSets_5 : decode (jm_cd mY_Co_foolingSets) 5 = .ok (.istore 4, 2) := by decide +kernel
theorem d_Co_foolingSets_7 : decode (jm_cd mY_Co_foolingSets) 7 = .ok (.iload 4, 2) := by decide +kernel
theorem d_Co_foolingSets_9 : decode (jm_cd mY_Co_foolingSets) 9 = .ok (.sipush 1024, 3) := by decide +kernel
theorem d_Co_foolingSets_12 : decode (jm_cd mY_Co_foolingSets) 12 = .ok (.if_icmp .ge 44, 3) := by decide +kernel
theorem d_Co_foolingSets_15 : decode (jm_cd mY_Co_foolingSets) 15 = .ok (.iload_n 3, 1) := by decide +kernel
theorem d_Co_foolingSets_16 : decode (jm_cd mY_Co_foolingSets) 16 = .ok (.invokestatic 58, 3) := by decide +kernel
theorem d_Co_foolingSets_19 : decode (jm_cd mY_Co_foolingSets) 19 = .ok (.iload_n 1, 1) := by decide +kernel
theorem d_Co_foolingSets_20 : decode (jm_cd mY_Co_foolingSets) 20 = .ok (.if_icmp .ne 14, 3) := by decide +kernel
theorem d_Co_foolingSets_23 : decode (jm_cd mY_Co_foolingSets) 23 = .ok (.aload_n 0, 1) := by decide +kernel
theorem d_Co_foolingSets_24 : decode (jm_cd mY_Co_foolingSets) 24 = .ok (.iload_n 3, 1) := by decide +kernel
theorem d_Co_foolingSets_25 : decode (jm_cd mY_Co_foolingSets) 25 = .ok (.invokevirtual 66, 3) := by decide +kernel
theorem d_Co_foolingSets_28 : decode (jm_cd mY_Co_foolingSets) 28 = .ok (.ifCond .eq 6, 3) := by decide +kernel
theorem d_Co_foolingSets_31 : decode (jm_cd mY_Co_foolingSets) 31 = .ok (.iinc 2 1, 3) := by decide +kernel
theorem d_Co_foolingSets_34 : decode (jm_cd mY_Co_foolingSets) 34 = .ok (.iload_n 3, 1) := by decide +kernel
theorem d_Co_foolingSets_35 : decode (jm_cd mY_Co_foolingSets) 35 = .ok (.aload_n 0, 1) := by decide +kernel
theorem d_Co_foolingSets_36 : decode (jm_cd mY_Co_foolingSets) 36 = .ok (.getfield 24, 3) := by decide +kernel
theorem d_Co_foolingSets_39 : decode (jm_cd mY_Co_foolingSets) 39 = .ok (.invokestatic 70, 3) := by decide +kernel
theorem d_Co_foolingSets_42 : decode (jm_cd mY_Co_foolingSets) 42 = .ok (.istore_n 3, 1) := by decide +kernel
theorem d_Co_foolingSets_43 : decode (jm_cd mY_Co_foolingSets) 43 = .ok (.iload_n 3, 1) := by decide +kernel
theorem d_Co_foolingSets_44 : decode (jm_cd mY_Co_foolingSets) 44 = .ok (.ifCond .ne 6, 3) := by decide +kernel
theorem d_Co_foolingSets_47 : decode (jm_cd mY_Co_foolingSets) 47 = .ok (.goto 9, 3) := by decide +kernel
theorem d_Co_foolingSets_50 : decode (jm_cd mY_Co_foolingSets) 50 = .ok (.iinc 4 1, 3) := by decide +kernel
theorem d_Co_foolingSets_53 : decode (jm_cd mY_Co_foolingSets) 53 = .ok (.goto (-46), 3) := by decide +kernel
theorem d_Co_foolingSets_56 : decode (jm_cd mY_Co_foolingSets) 56 = .ok (.iload_n 2, 1) := by decide +kernel
theorem d_Co_foolingSets_57 : decode (jm_cd mY_Co_foolingSets) 57 = .ok (.ireturn, 1) := by decide +kernel
def s_Co_foolingSets_J34 (s : jm_M) (k6 : Int32 → Int32 → Int32 → Int32 → Option Int32) (x1 : Int32) (x2 : Int32) (x3 : Int32) (x4 : Int32) : Option Int32 := jm_bd (s_Co_nextSet s x3 (s.1 48 4)) (fun v2 => (if v2 = 0 then (some x2) else k6 x1 x2 v2 (x4 + 1)))
set_option maxRecDepth 100000 in
set_option maxHeartbeats 4000000 in
theorem s_Co_foolingSets_J34_ok (s : jm_M) {k6 : Int32 → Int32 → Int32 → Int32 → Option Int32} (hk6 : ∀ (x1 : Int32) (x2 : Int32) (x3 : Int32) (x4 : Int32), jm_Sim mY_Co_foolingSets 0 0 7 [(0, .ref 48), (1, .int x1), (2, .int x2), (3, .int x3), (4, .int x4)] [] 78 mr_154 s (k6 x1 x2 x3 x4) (jm_rI 78 mr_154 s)) (x1 : Int32) (x2 : Int32) (x3 : Int32) (x4 : Int32) : jm_Sim mY_Co_foolingSets 0 0 34 [(0, .ref 48), (1, .int x1), (2, .int x2), (3, .int x3), (4, .int x4)] [] 78 mr_154 s (s_Co_foolingSets_J34 s k6 x1 x2 x3 x4) (jm_rI 78 mr_154 s) := by
  unfold s_Co_foolingSets_J34
  refine jm_iload_n (pc := 34) (q := 3) (x := x3) d_Co_foolingSets_34 rfl ?_
  refine jm_aload_n (pc := 35) (q := 0) (x := 48) d_Co_foolingSets_35 rfl ?_
  refine jm_gi (pc := 36) (i := 48) d_Co_foolingSets_36 fo_Co_24 sh_48 ge_48 le_48_78 rfl (fun _ => rfl) ?_
  refine jm_Sp (pc := 39) (Y' := mY_Co_nextSet) (avs := [.int x3, .int (s.1 48 4)]) (rest := []) (s_Co_nextSet_ok s x3 (s.1 48 4)) ok_Co_nextSet l0_Co_foolingSets__Co_nextSet ml_Co_70 sm_Co_nextSet d_Co_foolingSets_39 rfl rfl (Nat.le_of_ble_eq_true rfl) (Nat.le_of_ble_eq_true rfl) (Nat.le_of_ble_eq_true rfl) (Nat.le_of_ble_eq_true rfl) (fun v2 => ?_)
  refine jm_istore_n (pc := 42) (i := 3) (L2 := [(3, .int v2), (0, .ref 48), (1, .int x1), (2, .int x2), (4, .int x4)]) d_Co_foolingSets_42 rfl (Nat.le_of_ble_eq_true rfl) rfl ?_
  refine jm_iload_n (pc := 43) (q := 0) (x := v2) d_Co_foolingSets_43 rfl ?_
  refine jm_if_ne (pc := 44) (tgt := 50) d_Co_foolingSets_44 (by decide) ?_ ?_
  · refine jm_goto (pc := 47) (tgt := 56) d_Co_foolingSets_47 (by decide) ?_
    refine jm_iload_n (pc := 56) (q := 3) (x := x2) d_Co_foolingSets_56 rfl ?_
    exact jm_iret (pc := 57) (x := x2) d_Co_foolingSets_57 rfl rfl rfl rfl rfl
  · refine jm_iinc (pc := 50) (q := 4) (x := x4) (v := 1) (L2 := [(4, .int (x4 + 1)), (3, .int v2), (0, .ref 48), (1, .int x1), (2, .int x2)]) d_Co_foolingSets_50 rfl ci_1 (Nat.le_of_ble_eq_true rfl) rfl ?_
    refine jm_goto (pc := 53) (tgt := 7) d_Co_foolingSets_53 (by decide) ?_
    refine jm_sub (L2 := [(0, .ref 48), (1, .int x1), (2, .int x2), (3, .int v2), (4, .int (x4 + 1))]) [2, 3, 4, 1, 0] rfl ?_
    exact hk6 x1 x2 v2 (x4 + 1)
def s_Co_foolingSets_L7 (s : jm_M) : Nat → Int32 → Int32 → Int32 → Int32 → Option Int32
  | 0, _, _, _, _ => none
  | n + 1, x1, x2, x3, x4 => (if 1024 ≤ x4 then (some x2) else jm_bd (s_JI_bitCount s x3) (fun v1 => (if v1 = x1 then jm_bd (s_Co_isFooledBy s x3) (fun v3 => (if v3 = 0 then s_Co_foolingSets_J34 s (s_Co_foolingSets_L7 s n) x1 x2 x3 x4 else s_Co_foolingSets_J34 s (s_Co_foolingSets_L7 s n) x1 (x2 + 1) x3 x4)) else s_Co_foolingSets_J34 s (s_Co_foolingSets_L7 s n) x1 x2 x3 x4)))
set_option maxRecDepth 100000 in
set_option maxHeartbeats 4000000 in
theorem s_Co_foolingSets_L7_ok (s : jm_M) : ∀ (n : Nat) (x1 : Int32) (x2 : Int32) (x3 : Int32) (x4 : Int32), jm_Sim mY_Co_foolingSets 0 0 7 [(0, .ref 48), (1, .int x1), (2, .int x2), (3, .int x3), (4, .int x4)] [] 78 mr_154 s (s_Co_foolingSets_L7 s n x1 x2 x3 x4) (jm_rI 78 mr_154 s) := by
  intro n
  induction n with
  | zero => intro x1 x2 x3 x4; exact jm_none
  | succ n ih =>
    intro x1 x2 x3 x4
    rw [s_Co_foolingSets_L7]
    refine jm_iload (pc := 7) (q := 4) (x := x4) d_Co_foolingSets_7 rfl ?_
    refine jm_sipush (pc := 9) (v := 1024) d_Co_foolingSets_9 cs_1024 ?_
    refine jm_icmp_ge (pc := 12) (tgt := 56) d_Co_foolingSets_12 (by decide) ?_ ?_
    · refine jm_iload_n (pc := 56) (q := 2) (x := x2) d_Co_foolingSets_56 rfl ?_
      exact jm_iret (pc := 57) (x := x2) d_Co_foolingSets_57 rfl rfl rfl rfl rfl
    · refine jm_iload_n (pc := 15) (q := 3) (x := x3) d_Co_foolingSets_15 rfl ?_
      refine jm_Sp (pc := 16) (Y' := mY_JI_bitCount) (avs := [.int x3]) (rest := []) (s_JI_bitCount_ok s x3) ok_JI_bitCount l0_Co_foolingSets__JI_bitCount ml_Co_58 sm_JI_bitCount d_Co_foolingSets_16 rfl rfl (Nat.le_of_ble_eq_true rfl) (Nat.le_of_ble_eq_true rfl) (Nat.le_of_ble_eq_true rfl) (Nat.le_of_ble_eq_true rfl) (fun v1 => ?_)
      refine jm_iload_n (pc := 19) (q := 1) (x := x1) d_Co_foolingSets_19 rfl ?_
      refine jm_icmp_ne (pc := 20) (tgt := 34) d_Co_foolingSets_20 (by decide) ?_ ?_
      · refine jm_aload_n (pc := 23) (q := 0) (x := 48) d_Co_foolingSets_23 rfl ?_
        refine jm_iload_n (pc := 24) (q := 3) (x := x3) d_Co_foolingSets_24 rfl ?_
        refine jm_Vp (pc := 25) (Y' := mY_Co_isFooledBy) (i := 48) (avs := [.int x3]) (rest := []) (s_Co_isFooledBy_ok s x3) ok_Co_isFooledBy l0_Co_foolingSets__Co_isFooledBy ml_Co_66 im_Co_isFooledBy se_Co_isFooledBy d_Co_foolingSets_25 rfl sh_48 rfl rfl ge_48 le_48_78 rfl (Nat.le_of_ble_eq_true rfl) (Nat.le_of_ble_eq_true rfl) (Nat.le_of_ble_eq_true rfl) (Nat.le_of_ble_eq_true rfl) (fun v3 => ?_)
        refine jm_if_eq (pc := 28) (tgt := 34) d_Co_foolingSets_28 (by decide) ?_ ?_
        · exact s_Co_foolingSets_J34_ok s ih x1 x2 x3 x4
        · refine jm_iinc (pc := 31) (q := 2) (x := x2) (v := 1) (L2 := [(2, .int (x2 + 1)), (0, .ref 48), (1, .int x1), (3, .int x3), (4, .int x4)]) d_Co_foolingSets_31 rfl ci_1 (Nat.le_of_ble_eq_true rfl) rfl ?_
          refine jm_sub (L2 := [(0, .ref 48), (1, .int x1), (2, .int (x2 + 1)), (3, .int x3), (4, .int x4)]) [1, 2, 0, 3, 4] rfl ?_
          exact s_Co_foolingSets_J34_ok s ih x1 (x2 + 1) x3 x4
      · exact s_Co_foolingSets_J34_ok s ih x1 x2 x3 x4
def s_Co_foolingSets (s : jm_M) (a0 : Int32) : Option Int32 := s_Co_foolingSets_L7 s 5000 a0 0 0 0
set_option maxRecDepth 100000 in
set_option maxHeartbeats 4000000 in
theorem s_Co_foolingSets_ok (s : jm_M) (a0 : Int32) : jm_Sim mY_Co_foolingSets 0 0 0 [(0, .ref 48), (1, .int a0)] [] 78 mr_154 s (s_Co_foolingSets s a0) (jm_rI 78 mr_154 s) := by
  unfold s_Co_foolingSets
  refine jm_iconst (pc := 0) (v := 0) d_Co_foolingSets_0 ci_0 ?_
  refine jm_istore_n (pc := 1) (i := 2) (L2 := [(2, .int 0), (0, .ref 48), (1, .int a0)]) d_Co_foolingSets_1 rfl (Nat.le_of_ble_eq_true rfl) rfl ?_
  refine jm_iconst (pc := 2) (v := 0) d_Co_foolingSets_2 ci_0 ?_
  refine jm_istore_n (pc := 3) (i := 3) (L2 := [(3, .int 0), (2, .int 0), (0, .ref 48), (1, .int a0)]) d_Co_foolingSets_3 rfl (Nat.le_of_ble_eq_true rfl) rfl ?_
  refine jm_iconst (pc := 4) (v := 0) d_Co_foolingSets_4 ci_0 ?_
  refine jm_istore (pc := 5) (L2 := [(4, .int 0), (3, .int 0), (2, .int 0), (0, .ref 48), (1, .int a0)]) d_Co_foolingSets_5 (Nat.le_of_ble_eq_true rfl) rfl ?_
  refine jm_sub (L2 := [(0, .ref 48), (1, .int a0), (2, .int 0), (3, .int 0), (4, .int 0)]) [3, 4, 2, 1, 0] rfl ?_
  exact s_Co_foolingSets_L7_ok s 5000 a0 0 0 0
