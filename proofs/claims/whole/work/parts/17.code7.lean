theorem d_Z_late_0 : decode (jm_cd mY_Z_late) 0 = .ok (.iload_n 1, 1) := by decide +kernel
theorem d_Z_late_1 : decode (jm_cd mY_Z_late) 1 = .ok (.i2l, 1) := by decide +kernel
theorem d_Z_late_2 : decode (jm_cd mY_Z_late) 2 = .ok (.lconst 0, 1) := by decide +kernel
theorem d_Z_late_3 : decode (jm_cd mY_Z_late) 3 = .ok (.ldc2_w 103, 3) := by decide +kernel
theorem d_Z_late_6 : decode (jm_cd mY_Z_late) 6 = .ok (.invokestatic 69, 3) := by decide +kernel
theorem d_Z_late_9 : decode (jm_cd mY_Z_late) 9 = .ok (.ifCond .eq 13, 3) := by decide +kernel
theorem d_Z_late_12 : decode (jm_cd mY_Z_late) 12 = .ok (.iload_n 2, 1) := by decide +kernel
theorem d_Z_late_13 : decode (jm_cd mY_Z_late) 13 = .ok (.i2l, 1) := by decide +kernel
theorem d_Z_late_14 : decode (jm_cd mY_Z_late) 14 = .ok (.lconst 0, 1) := by decide +kernel
theorem d_Z_late_15 : decode (jm_cd mY_Z_late) 15 = .ok (.lconst 1, 1) := by decide +kernel
theorem d_Z_late_16 : decode (jm_cd mY_Z_late) 16 = .ok (.invokestatic 69, 3) := by decide +kernel
theorem d_Z_late_19 : decode (jm_cd mY_Z_late) 19 = .ok (.ifCond .ne 5, 3) := by decide +kernel
theorem d_Z_late_22 : decode (jm_cd mY_Z_late) 22 = .ok (.iconst (-1), 1) := by decide +kernel
theorem d_Z_late_23 : decode (jm_cd mY_Z_late) 23 = .ok (.ireturn, 1) := by decide +kernel
theorem d_Z_late_24 : decode (jm_cd mY_Z_late) 24 = .ok (.aload_n 0, 1) := by decide +kernel
theorem d_Z_late_25 : decode (jm_cd mY_Z_late) 25 = .ok (.invokevirtual 168, 3) := by decide +kernel
theorem d_Z_late_28 : decode (jm_cd mY_Z_late) 28 = .ok (.bipush (-4), 2) := by decide +kernel
theorem d_Z_late_30 : decode (jm_cd mY_Z_late) 30 = .ok (.if_icmp .ne 6, 3) := by decide +kernel
theorem d_Z_late_33 : decode (jm_cd mY_Z_late) 33 = .ok (.bipush (-2), 2) := by decide +kernel
theorem d_Z_late_35 : decode (jm_cd mY_Z_late) 35 = .ok (.ireturn, 1) := by decide +kernel
theorem d_Z_late_36 : decode (jm_cd mY_Z_late) 36 = .ok (.aload_n 0, 1) := by decide +kernel
theorem d_Z_late_37 : decode (jm_cd mY_Z_late) 37 = .ok (.invokevirtual 203, 3) := by decide +kernel
theorem d_Z_late_40 : decode (jm_cd mY_Z_late) 40 = .ok (.aload_n 0, 1) := by decide +kernel
theorem d_Z_late_41 : decode (jm_cd mY_Z_late) 41 = .ok (.iload_n 1, 1) := by decide +kernel
theorem d_Z_late_42 : decode (jm_cd mY_Z_late) 42 = .ok (.iload_n 2, 1) := by decide +kernel
theorem d_Z_late_43 : decode (jm_cd mY_Z_late) 43 = .ok (.invokevirtual 222, 3) := by decide +kernel
theorem d_Z_late_46 : decode (jm_cd mY_Z_late) 46 = .ok (.istore_n 3, 1) := by decide +kernel
theorem d_Z_late_47 : decode (jm_cd mY_Z_late) 47 = .ok (.iload_n 3, 1) := by decide +kernel
theorem d_Z_late_48 : decode (jm_cd mY_Z_late) 48 = .ok (.ldc 186, 2) := by decide +kernel
theorem d_Z_late_50 : decode (jm_cd mY_Z_late) 50 = .ok (.if_icmp .ne 8, 3) := by decide +kernel
theorem d_Z_late_53 : decode (jm_cd mY_Z_late) 53 = .ok (.bipush (-4), 2) := by decide +kernel
theorem d_Z_late_55 : decode (jm_cd mY_Z_late) 55 = .ok (.goto 4, 3) := by decide +kernel
theorem d_Z_late_58 : decode (jm_cd mY_Z_late) 58 = .ok (.iload_n 3, 1) := by decide +kernel
theorem d_Z_late_59 : decode (jm_cd mY_Z_late) 59 = .ok (.ireturn, 1) := by decide +kernel
def s_Z_late (s : jm_M) (a0 : Int32) (a1 : Int32) : Option (Int32 × jm_M) := jm_bd (s_Z_in s a0.toInt64 0 9) (fun v1 => (if v1 = 0 then (some ((-1), s)) else jm_bd (s_Z_in s a1.toInt64 0 1) (fun v2 => (if v2 = 0 then (some ((-1), s)) else jm_bd (s_Z_ear s) (fun v3 => (if v3 = (-4) then (some ((-2), s)) else jm_bd (s_Z_asTold s) (fun s4 => jm_b2 (s_Z_lateOf s4 a0 a1) (fun v5 s6 => (if v5 = 1000000 then (some ((-4), s6)) else (some (v5, s6)))))))))))
set_option maxRecDepth 100000 in
set_option maxHeartbeats 4000000 in
theorem s_Z_late_ok (s : jm_M) (a0 : Int32) (a1 : Int32) : jm_Sim mY_Z_late 0 0 0 [(0, .ref 59), (1, .int a0), (2, .int a1)] [] 78 mr_154 s (s_Z_late s a0 a1) (jm_rP 78 mr_154) := by
  unfold s_Z_late
  refine jm_iload_n (pc := 0) (q := 1) (x := a0) d_Z_late_0 rfl ?_
  refine jm_i2l (pc := 1) d_Z_late_1 ?_
  refine jm_lconst (pc := 2) (v := 0) d_Z_late_2 cl_0 ?_
  refine jm_ldc2 (pc := 3) (v := 9) d_Z_late_3 kl_Z_103 ?_
  refine jm_Sp (pc := 6) (Y' := mY_Z_in) (avs := [.long a0.toInt64, .long 0, .long 9]) (rest := []) (s_Z_in_ok s a0.toInt64 0 9) ok_Z_in l0_Z_late__Z_in ml_Z_69 sm_Z_in d_Z_late_6 rfl rfl (Nat.le_of_ble_eq_true rfl) (Nat.le_of_ble_eq_true rfl) (Nat.le_of_ble_eq_true rfl) (Nat.le_of_ble_eq_true rfl) (fun v1 => ?_)
  refine jm_if_eq (pc := 9) (tgt := 22) d_Z_late_9 (by decide) ?_ ?_
  · refine jm_iconst (pc := 22) (v := (-1)) d_Z_late_22 ci_m1 ?_
    exact jm_iret (pc := 23) (x := (-1)) d_Z_late_23 rfl rfl rfl rfl rfl
  · refine jm_iload_n (pc := 12) (q := 2) (x := a1) d_Z_late_12 rfl ?_
    refine jm_i2l (pc := 13) d_Z_late_13 ?_
    refine jm_lconst (pc := 14) (v := 0) d_Z_late_14 cl_0 ?_
    refine jm_lconst (pc := 15) (v := 1) d_Z_late_15 cl_1 ?_
    refine jm_Sp (pc := 16) (Y' := mY_Z_in) (avs := [.long a1.toInt64, .long 0, .long 1]) (rest := []) (s_Z_in_ok s a1.toInt64 0 1) ok_Z_in l0_Z_late__Z_in ml_Z_69 sm_Z_in d_Z_late_16 rfl rfl (Nat.le_of_ble_eq_true rfl) (Nat.le_of_ble_eq_true rfl) (Nat.le_of_ble_eq_true rfl) (Nat.le_of_ble_eq_true rfl) (fun v2 => ?_)
    refine jm_if_ne (pc := 19) (tgt := 24) d_Z_late_19 (by decide) ?_ ?_
    · refine jm_iconst (pc := 22) (v := (-1)) d_Z_late_22 ci_m1 ?_
      exact jm_iret (pc := 23) (x := (-1)) d_Z_late_23 rfl rfl rfl rfl rfl
    · refine jm_aload_n (pc := 24) (q := 0) (x := 59) d_Z_late_24 rfl ?_
      refine jm_Vp (pc := 25) (Y' := mY_Z_ear) (i := 59) (avs := []) (rest := []) (s_Z_ear_ok s) ok_Z_ear l0_Z_late__Z_ear ml_Z_168 im_Z_ear se_Z_ear d_Z_late_25 rfl sh_59 rfl rfl ge_59 le_59_78 rfl (Nat.le_of_ble_eq_true rfl) (Nat.le_of_ble_eq_true rfl) (Nat.le_of_ble_eq_true rfl) (Nat.le_of_ble_eq_true rfl) (fun v3 => ?_)
      refine jm_bipush (pc := 28) (v := (-4)) d_Z_late_28 cb_m4 ?_
      refine jm_icmp_ne (pc := 30) (tgt := 36) d_Z_late_30 (by decide) ?_ ?_
      · refine jm_bipush (pc := 33) (v := (-2)) d_Z_late_33 cb_m2 ?_
        exact jm_iret (pc := 35) (x := (-2)) d_Z_late_35 rfl rfl rfl rfl rfl
      · refine jm_aload_n (pc := 36) (q := 0) (x := 59) d_Z_late_36 rfl ?_
        refine jm_Vv (pc := 37) (Y' := mY_Z_asTold) (i := 59) (avs := []) (rest := []) (s_Z_asTold_ok s) ok_Z_asTold l0_Z_late__Z_asTold ml_Z_203 im_Z_asTold se_Z_asTold d_Z_late_37 rfl sh_59 rfl rfl ge_59 le_59_78 rfl (Nat.le_of_ble_eq_true rfl) (Nat.le_of_ble_eq_true rfl) (Nat.le_of_ble_eq_true rfl) (Nat.le_of_ble_eq_true rfl) (fun s4 => ?_)
        refine jm_aload_n (pc := 40) (q := 0) (x := 59) d_Z_late_40 rfl ?_
        refine jm_iload_n (pc := 41) (q := 1) (x := a0) d_Z_late_41 rfl ?_
        refine jm_iload_n (pc := 42) (q := 2) (x := a1) d_Z_late_42 rfl ?_
        refine jm_Vi (pc := 43) (Y' := mY_Z_lateOf) (i := 59) (avs := [.int a0, .int a1]) (rest := []) (s_Z_lateOf_ok s4 a0 a1) ok_Z_lateOf l0_Z_late__Z_lateOf ml_Z_222 im_Z_lateOf se_Z_lateOf d_Z_late_43 rfl sh_59 rfl rfl ge_59 le_59_78 rfl (Nat.le_of_ble_eq_true rfl) (Nat.le_of_ble_eq_true rfl) (Nat.le_of_ble_eq_true rfl) (Nat.le_of_ble_eq_true rfl) (fun v5 s6 => ?_)
        refine jm_istore_n (pc := 46) (i := 3) (L2 := [(3, .int v5), (0, .ref 59), (1, .int a0), (2, .int a1)]) d_Z_late_46 rfl (Nat.le_of_ble_eq_true rfl) rfl ?_
        refine jm_iload_n (pc := 47) (q := 0) (x := v5) d_Z_late_47 rfl ?_
        refine jm_ldc (pc := 48) (v := 1000000) d_Z_late_48 k_Z_186 ?_
        refine jm_icmp_ne (pc := 50) (tgt := 58) d_Z_late_50 (by decide) ?_ ?_
        · refine jm_bipush (pc := 53) (v := (-4)) d_Z_late_53 cb_m4 ?_
          refine jm_goto (pc := 55) (tgt := 59) d_Z_late_55 (by decide) ?_
          exact jm_iret (pc := 59) (x := (-4)) d_Z_late_59 rfl rfl rfl rfl rfl
        · refine jm_iload_n (pc := 58) (q := 0) (x := v5) d_Z_late_58 rfl ?_
          exact jm_iret (pc := 59) (x := v5) d_Z_late_59 rfl rfl rfl rfl rfl
theorem d_Co_latestIfBorne_0 : decode (jm_cd mY_Co_latestIfBorne) 0 = .ok (.iload_n 1, 1) := by decide +kernel
theorem d_Co_latestIfBorne_1 : decode (jm_cd mY_Co_latestIfBorne) 1 = .ok (.aload_n 0, 1) := by decide +kernel
theorem d_Co_latestIfBorne_2 : decode (jm_cd mY_Co_latestIfBorne) 2 = .ok (.getfield 24, 3) := by decide +kernel
theorem d_Co_latestIfBorne_5 : decode (jm_cd mY_Co_latestIfBorne) 5 = .ok (.invokestatic 58, 3) := by decide +kernel
theorem d_Co_latestIfBorne_8 : decode (jm_cd mY_Co_latestIfBorne) 8 = .ok (.invokestatic 82, 3) := by decide +kernel
theorem d_Co_latestIfBorne_11 : decode (jm_cd mY_Co_latestIfBorne) 11 = .ok (.istore_n 2, 1) := by decide +kernel
theorem d_Co_latestIfBorne_12 : decode (jm_cd mY_Co_latestIfBorne) 12 = .ok (.aload_n 0, 1) := by decide +kernel
theorem d_Co_latestIfBorne_13 : decode (jm_cd mY_Co_latestIfBorne) 13 = .ok (.iload_n 2, 1) := by decide +kernel
theorem d_Co_latestIfBorne_14 : decode (jm_cd mY_Co_latestIfBorne) 14 = .ok (.invokevirtual 97, 3) := by decide +kernel
theorem d_Co_latestIfBorne_17 : decode (jm_cd mY_Co_latestIfBorne) 17 = .ok (.bipush (-4), 2) := by decide +kernel
theorem d_Co_latestIfBorne_19 : decode (jm_cd mY_Co_latestIfBorne) 19 = .ok (.if_icmp .ne 11, 3) := by decide +kernel
theorem d_Co_latestIfBorne_22 : decode (jm_cd mY_Co_latestIfBorne) 22 = .ok (.aload_n 0, 1) := by decide +kernel
theorem d_Co_latestIfBorne_23 : decode (jm_cd mY_Co_latestIfBorne) 23 = .ok (.iload_n 1, 1) := by decide +kernel
theorem d_Co_latestIfBorne_24 : decode (jm_cd mY_Co_latestIfBorne) 24 = .ok (.invokevirtual 94, 3) := by decide +kernel
theorem d_Co_latestIfBorne_27 : decode (jm_cd mY_Co_latestIfBorne) 27 = .ok (.goto 5, 3) := by decide +kernel
theorem d_Co_latestIfBorne_30 : decode (jm_cd mY_Co_latestIfBorne) 30 = .ok (.bipush (-4), 2) := by decide +kernel
theorem d_Co_latestIfBorne_32 : decode (jm_cd mY_Co_latestIfBorne) 32 = .ok (.ireturn, 1) := by decide +kernel
def s_Co_latestIfBorne (s : jm_M) (a0 : Int32) : Option (Int32 × jm_M) := jm_bd (s_JI_bitCount s (s.1 48 4)) (fun v1 => jm_vi (jm_min a0 v1) (fun v2 => jm_bd (s_Co_leastFoolingSet s v2) (fun v3 => (if v3 = (-4) then jm_b2 (s_Co_latest s a0) (fun v4 s5 => (some (v4, s5))) else (some ((-4), s))))))
set_option maxRecDepth 100000 in
set_option maxHeartbeats 4000000 in
theorem s_Co_latestIfBorne_ok (s : jm_M) (a0 : Int32) : jm_Sim mY_Co_latestIfBorne 0 0 0 [(0, .ref 48), (1, .int a0)] [] 78 mr_154 s (s_Co_latestIfBorne s a0) (jm_rP 78 mr_154) := by
  unfold s_Co_latestIfBorne
  refine jm_iload_n (pc := 0) (q := 1) (x := a0) d_Co_latestIfBorne_0 rfl ?_
  refine jm_aload_n (pc := 1) (q := 0) (x := 48) d_Co_latestIfBorne_1 rfl ?_
  refine jm_gi (pc := 2) (i := 48) d_Co_latestIfBorne_2 fo_Co_24 sh_48 ge_48 le_48_78 rfl (fun _ => rfl) ?_
  refine jm_Sp (pc := 5) (Y' := mY_JI_bitCount) (avs := [.int (s.1 48 4)]) (rest := [.int a0]) (s_JI_bitCount_ok s (s.1 48 4)) ok_JI_bitCount l0_Co_latestIfBorne__JI_bitCount ml_Co_58 sm_JI_bitCount d_Co_latestIfBorne_5 rfl rfl (Nat.le_of_ble_eq_true rfl) (Nat.le_of_ble_eq_true rfl) (Nat.le_of_ble_eq_true rfl) (Nat.le_of_ble_eq_true rfl) (fun v1 => ?_)
  refine jm_mmin (pc := 8) d_Co_latestIfBorne_8 ml_Co_82 sm_JM_min ini_JM mm_min (Nat.le_of_ble_eq_true rfl) (Nat.le_of_ble_eq_true rfl) (Nat.le_of_ble_eq_true rfl) (Nat.le_of_ble_eq_true rfl) ?_
  refine jm_nvi (fun v2 => ?_)
  refine jm_istore_n (pc := 11) (i := 2) (L2 := [(2, .int v2), (0, .ref 48), (1, .int a0)]) d_Co_latestIfBorne_11 rfl (Nat.le_of_ble_eq_true rfl) rfl ?_
  refine jm_aload_n (pc := 12) (q := 1) (x := 48) d_Co_latestIfBorne_12 rfl ?_
  refine jm_iload_n (pc := 13) (q := 0) (x := v2) d_Co_latestIfBorne_13 rfl ?_
  refine jm_Vp (pc := 14) (Y' := mY_Co_leastFoolingSet) (i := 48) (avs := [.int v2]) (rest := []) (s_Co_leastFoolingSet_ok s v2) ok_Co_leastFoolingSet l0_Co_latestIfBorne__Co_leastFoolingSet ml_Co_97 im_Co_leastFoolingSet se_Co_leastFoolingSet d_Co_latestIfBorne_14 rfl sh_48 rfl rfl ge_48 le_48_78 rfl (Nat.le_of_ble_eq_true rfl) (Nat.le_of_ble_eq_true rfl) (Nat.le_of_ble_eq_true rfl) (Nat.le_of_ble_eq_true rfl) (fun v3 => ?_)
  refine jm_bipush (pc := 17) (v := (-4)) d_Co_latestIfBorne_17 cb_m4 ?_
  refine jm_icmp_ne (pc := 19) (tgt := 30) d_Co_latestIfBorne_19 (by decide) ?_ ?_
  · refine jm_aload_n (pc := 22) (q := 1) (x := 48) d_Co_latestIfBorne_22 rfl ?_
    refine jm_iload_n (pc := 23) (q := 2) (x := a0) d_Co_latestIfBorne_23 rfl ?_
    refine jm_Vi (pc := 24) (Y' := mY_Co_latest) (i := 48) (avs := [.int a0]) (rest := []) (s_Co_latest_ok s a0) ok_Co_latest l0_Co_latestIfBorne__Co_latest ml_Co_94 im_Co_latest se_Co_latest d_Co_latestIfBorne_24 rfl sh_48 rfl rfl ge_48 le_48_78 rfl (Nat.le_of_ble_eq_true rfl) (Nat.le_of_ble_eq_true rfl) (Nat.le_of_ble_eq_true rfl) (Nat.le_of_ble_eq_true rfl) (fun v4 s5 => ?_)
    refine jm_goto (pc := 27) (tgt := 32) d_Co_latestIfBorne_27 (by decide) ?_
    exact jm_iret (pc := 32) (x := v4) d_Co_latestIfBorne_32 rfl rfl rfl rfl rfl
  · refine jm_bipush (pc := 30) (v := (-4)) d_Co_latestIfBorne_30 cb_m4 ?_
    exact jm_iret (pc := 32) (x := (-4)) d_Co_latestIfBorne_32 rfl rfl rfl rfl rfl
theorem d_Co_mostBorne_0 : decode (jm_cd mY_Co_mostBorne) 0 = .ok (.bipush (-4), 2) := by decide +kernel
theorem d_Co_mostBorne_2 : decode (jm_cd mY_Co_mostBorne) 2 = .ok (.istore_n 1, 1) := by decide +kernel
theorem d_Co_mostBorne_3 : decode (jm_cd mY_Co_mostBorne) 3 = .ok (.iconst 0, 1) := by decide +kernel
theorem d_Co_mostBorne_4 : decode (jm_cd mY_Co_mostBorne) 4 = .ok (.istore_n 2, 1) := by decide +kernel
theorem d_Co_mostBorne_5 : decode (jm_cd mY_Co_mostBorne) 5 = .ok (.iload_n 2, 1) := by decide +kernel
theorem d_Co_mostBorne_6 : decode (jm_cd mY_Co_mostBorne) 6 = .ok (.bipush 9, 2) := by decide +kernel
theorem d_Co_mostBorne_8 : decode (jm_cd mY_Co_mostBorne) 8 = .ok (.if_icmp .gt 24, 3) := by decide +kernel
theorem d_Co_mostBorne_11 : decode (jm_cd mY_Co_mostBorne) 11 = .ok (.aload_n 0, 1) := by decide +kernel
theorem d_Co_mostBorne_12 : decode (jm_cd mY_Co_mostBorne) 12 = .ok (.iload_n 2, 1) := by decide +kernel
theorem d_Co_mostBorne_13 : decode (jm_cd mY_Co_mostBorne) 13 = .ok (.invokevirtual 100, 3) := by decide +kernel
theorem d_Co_mostBorne_16 : decode (jm_cd mY_Co_mostBorne) 16 = .ok (.bipush (-4), 2) := by decide +kernel
theorem d_Co_mostBorne_18 : decode (jm_cd mY_Co_mostBorne) 18 = .ok (.if_icmp .ne 6, 3) := by decide +kernel
theorem d_Co_mostBorne_21 : decode (jm_cd mY_Co_mostBorne) 21 = .ok (.goto 11, 3) := by decide +kernel
theorem d_Co_mostBorne_24 : decode (jm_cd mY_Co_mostBorne) 24 = .ok (.iload_n 2, 1) := by decide +kernel
theorem d_Co_mostBorne_25 : decode (jm_cd mY_Co_mostBorne) 25 = .ok (.istore_n 1, 1) := by decide +kernel
theorem d_Co_mostBorne_26 : decode (jm_cd mY_Co_mostBorne) 26 = .ok (.iinc 2 1, 3) := by decide +kernel
theorem d_Co_mostBorne_29 : decode (jm_cd mY_Co_mostBorne) 29 = .ok (.goto (-24), 3) := by decide +kernel
theorem d_Co_mostBorne_32 : decode (jm_cd mY_Co_mostBorne) 32 = .ok (.iload_n 1, 1) := by decide +kernel
theorem d_Co_mostBorne_33 : decode (jm_cd mY_Co_mostBorne) 33 = .ok (.ireturn, 1) := by decide +kernel
def s_Co_mostBorne_L5 : Nat → Int32 → Int32 → jm_M → Option (Int32 × jm_M)
  | 0, _, _, _ => none
  | n + 1, x1, x2, s => (if 9 < x2 then (some (x1, s)) else jm_b2 (s_Co_latestIfBorne s x2) (fun v1 s2 => (if v1 = (-4) then (some (x1, s2)) else s_Co_mostBorne_L5 n x2 (x2 + 1) s2)))
set_option maxRecDepth 100000 in
set_option maxHeartbeats 4000000 in
theorem s_Co_mostBorne_L5_ok : ∀ (n : Nat) (x1 : Int32) (x2 : Int32) (s : jm_M), jm_Sim mY_Co_mostBorne 0 0 5 [(0, .ref 48), (1, .int x1), (2, .int x2)] [] 78 mr_154 s (s_Co_mostBorne_L5 n x1 x2 s) (jm_rP 78 mr_154) := by
  intro n
  induction n with
  | zero => intro x1 x2 s; exact jm_none
  | succ n ih =>
    intro x1 x2 s
    rw [s_Co_mostBorne_L5]
    refine jm_iload_n (pc := 5) (q := 2) (x := x2) d_Co_mostBorne_5 rfl ?_
    refine jm_bipush (pc := 6) (v := 9) d_Co_mostBorne_6 cb_9 ?_
    refine jm_icmp_gt (pc := 8) (tgt := 32) d_Co_mostBorne_8 (by decide) ?_ ?_
    · refine jm_iload_n (pc := 32) (q := 1) (x := x1) d_Co_mostBorne_32 rfl ?_
      exact jm_iret (pc := 33) (x := x1) d_Co_mostBorne_33 rfl rfl rfl rfl rfl
    · refine jm_aload_n (pc := 11) (q := 0) (x := 48) d_Co_mostBorne_11 rfl ?_
      refine jm_iload_n (pc := 12) (q := 2) (x := x2) d_Co_mostBorne_12 rfl ?_
      refine jm_Vi (pc := 13) (Y' := mY_Co_latestIfBorne) (i := 48) (avs := [.int x2]) (rest := []) (s_Co_latestIfBorne_ok s x2) ok_Co_latestIfBorne l0_Co_mostBorne__Co_latestIfBorne ml_Co_100 im_Co_latestIfBorne se_Co_latestIfBorne d_Co_mostBorne_13 rfl sh_48 rfl rfl ge_48 le_48_78 rfl (Nat.le_of_ble_eq_true rfl) (Nat.le_of_ble_eq_true rfl) (Nat.le_of_ble_eq_true rfl) (Nat.le_of_ble_eq_true rfl) (fun v1 s2 => ?_)
      refine jm_bipush (pc := 16) (v := (-4)) d_Co_mostBorne_16 cb_m4 ?_
      refine jm_icmp_ne (pc := 18) (tgt := 24) d_Co_mostBorne_18 (by decide) ?_ ?_
      · refine jm_goto (pc := 21) (tgt := 32) d_Co_mostBorne_21 (by decide) ?_
        refine jm_iload_n (pc := 32) (q := 1) (x := x1) d_Co_mostBorne_32 rfl ?_
        exact jm_iret (pc := 33) (x := x1) d_Co_mostBorne_33 rfl rfl rfl rfl rfl
      · refine jm_iload_n (pc := 24) (q := 2) (x := x2) d_Co_mostBorne_24 rfl ?_
        refine jm_istore_n (pc := 25) (i := 1) (L2 := [(1, .int x2), (0, .ref 48), (2, .int x2)]) d_Co_mostBorne_25 rfl (Nat.le_of_ble_eq_true rfl) rfl ?_
        refine jm_iinc (pc := 26) (q := 2) (x := x2) (v := 1) (L2 := [(2, .int (x2 + 1)), (1, .int x2), (0, .ref 48)]) d_Co_mostBorne_26 rfl ci_1 (Nat.le_of_ble_eq_true rfl) rfl ?_
        refine jm_goto (pc := 29) (tgt := 5) d_Co_mostBorne_29 (by decide) ?_
        refine jm_sub (L2 := [(0, .ref 48), (1, .int x2), (2, .int (x2 + 1))]) [2, 1, 0] rfl ?_
        exact ih x2 (x2 + 1) s2
def s_Co_mostBorne (s : jm_M) : Option (Int32 × jm_M) := s_Co_mostBorne_L5 5000 (-4) 0 s
set_option maxRecDepth 100000 in
set_option maxHeartbeats 4000000 in
theorem s_Co_mostBorne_ok (s : jm_M) : jm_Sim mY_Co_mostBorne 0 0 0 [(0, .ref 48)] [] 78 mr_154 s (s_Co_mostBorne s) (jm_rP 78 mr_154) := by
  unfold s_Co_mostBorne
  refine jm_bipush (pc := 0) (v := (-4)) d_Co_mostBorne_0 cb_m4 ?_
  refine jm_istore_n (pc := 2) (i := 1) (L2 := [(1, .int (-4)), (0, .ref 48)]) d_Co_mostBorne_2 rfl (Nat.le_of_ble_eq_true rfl) rfl ?_
  refine jm_iconst (pc := 3) (v := 0) d_Co_mostBorne_3 ci_0 ?_
  refine jm_istore_n (pc := 4) (i := 2) (L2 := [(2, .int 0), (1, .int (-4)), (0, .ref 48)]) d_Co_mostBorne_4 rfl (Nat.le_of_ble_eq_true rfl) rfl ?_
  refine jm_sub (L2 := [(0, .ref 48), (1, .int (-4)), (2, .int 0)]) [2, 1, 0] rfl ?_
  exact s_Co_mostBorne_L5_ok 5000 (-4) 0 s
theorem d_X_bears_0 : decode (jm_cd mY_X_bears) 0 = .ok (.aload_n 0, 1) := by decide +kernel
theorem d_X_bears_1 : decode (jm_cd mY_X_bears) 1 = .ok (.getfield 31, 3) := by decide +kernel
theorem d_X_bears_4 : decode (jm_cd mY_X_bears) 4 = .ok (.invokevirtual 141, 3) := by decide +kernel
theorem d_X_bears_7 : decode (jm_cd mY_X_bears) 7 = .ok (.ifCond .ne 6, 3) := by decide +kernel
theorem d_X_bears_10 : decode (jm_cd mY_X_bears) 10 = .ok (.bipush (-2), 2) := by decide +kernel
theorem d_X_bears_12 : decode (jm_cd mY_X_bears) 12 = .ok (.ireturn, 1) := by decide +kernel
theorem d_X_bears_13 : decode (jm_cd mY_X_bears) 13 = .ok (.aload_n 0, 1) := by decide +kernel
theorem d_X_bears_14 : decode (jm_cd mY_X_bears) 14 = .ok (.getfield 57, 3) := by decide +kernel
theorem d_X_bears_17 : decode (jm_cd mY_X_bears) 17 = .ok (.aload_n 0, 1) := by decide +kernel
theorem d_X_bears_18 : decode (jm_cd mY_X_bears) 18 = .ok (.getfield 31, 3) := by decide +kernel
theorem d_X_bears_21 : decode (jm_cd mY_X_bears) 21 = .ok (.invokevirtual 152, 3) := by decide +kernel
theorem d_X_bears_24 : decode (jm_cd mY_X_bears) 24 = .ok (.aload_n 0, 1) := by decide +kernel
theorem d_X_bears_25 : decode (jm_cd mY_X_bears) 25 = .ok (.getfield 57, 3) := by decide +kernel
theorem d_X_bears_28 : decode (jm_cd mY_X_bears) 28 = .ok (.invokevirtual 180, 3) := by decide +kernel
theorem d_X_bears_31 : decode (jm_cd mY_X_bears) 31 = .ok (.ireturn, 1) := by decide +kernel
def s_X_bears (s : jm_M) : Option (Int32 × jm_M) := jm_bd (s_Ne_hasEar_15 s) (fun v1 => (if v1 = 0 then (some ((-2), s)) else jm_bd (s_Co_study_48_15 s) (fun s2 => jm_b2 (s_Co_mostBorne s2) (fun v3 s4 => (some (v3, s4))))))
set_option maxRecDepth 100000 in
set_option maxHeartbeats 4000000 in
theorem s_X_bears_ok (s : jm_M) : jm_Sim mY_X_bears 0 0 0 [(0, .ref 1)] [] 78 mr_154 s (s_X_bears s) (jm_rP 78 mr_154) := by
  unfold s_X_bears
  refine jm_aload_n (pc := 0) (q := 0) (x := 1) d_X_bears_0 rfl ?_
  refine jm_gr (pc := 1) (i := 1) d_X_bears_1 fo_X_31 sh_1 ge_1 le_1_78 rfl (fun _ => rfl) mr_154_1_4 ge_15 ?_
  refine jm_Vp (pc := 4) (Y' := mY_Ne_hasEar) (i := 15) (avs := []) (rest := []) (s_Ne_hasEar_15_ok s) ok_Ne_hasEar l0_X_bears__Ne_hasEar ml_X_141 im_Ne_hasEar se_Ne_hasEar d_X_bears_4 rfl sh_15 rfl rfl ge_15 le_15_78 rfl (Nat.le_of_ble_eq_true rfl) (Nat.le_of_ble_eq_true rfl) (Nat.le_of_ble_eq_true rfl) (Nat.le_of_ble_eq_true rfl) (fun v1 => ?_)
  refine jm_if_ne (pc := 7) (tgt := 13) d_X_bears_7 (by decide) ?_ ?_
  · refine jm_bipush (pc := 10) (v := (-2)) d_X_bears_10 cb_m2 ?_
    exact jm_iret (pc := 12) (x := (-2)) d_X_bears_12 rfl rfl rfl rfl rfl
  · refine jm_aload_n (pc := 13) (q := 0) (x := 1) d_X_bears_13 rfl ?_
    refine jm_gr (pc := 14) (i := 1) d_X_bears_14 fo_X_57 sh_1 ge_1 le_1_78 rfl (fun _ => rfl) mr_154_1_10 ge_48 ?_
    refine jm_aload_n (pc := 17) (q := 0) (x := 1) d_X_bears_17 rfl ?_
    refine jm_gr (pc := 18) (i := 1) d_X_bears_18 fo_X_31 sh_1 ge_1 le_1_78 rfl (fun _ => rfl) mr_154_1_4 ge_15 ?_
    refine jm_Vv (pc := 21) (Y' := mY_Co_study) (i := 48) (avs := [.ref 15]) (rest := []) (s_Co_study_48_15_ok s) ok_Co_study l0_X_bears__Co_study ml_X_152 im_Co_study se_Co_study d_X_bears_21 rfl sh_48 rfl rfl ge_48 le_48_78 rfl (Nat.le_of_ble_eq_true rfl) (Nat.le_of_ble_eq_true rfl) (Nat.le_of_ble_eq_true rfl) (Nat.le_of_ble_eq_true rfl) (fun s2 => ?_)
    refine jm_aload_n (pc := 24) (q := 0) (x := 1) d_X_bears_24 rfl ?_
    refine jm_gr (pc := 25) (i := 1) d_X_bears_25 fo_X_57 sh_1 ge_1 le_1_78 rfl (fun _ => rfl) mr_154_1_10 ge_48 ?_
    refine jm_Vi (pc := 28) (Y' := mY_Co_mostBorne) (i := 48) (avs := []) (rest := []) (s_Co_mostBorne_ok s2) ok_Co_mostBorne l0_X_bears__Co_mostBorne ml_X_180 im_Co_mostBorne se_Co_mostBorne d_X_bears_28 rfl sh_48 rfl rfl ge_48 le_48_78 rfl (Nat.le_of_ble_eq_true rfl) (Nat.le_of_ble_eq_true rfl) (Nat.le_of_ble_eq_true rfl) (Nat.le_of_ble_eq_true rfl) (fun v3 s4 => ?_)
    exact jm_iret (pc := 31) (x := v3) d_X_bears_31 rfl rfl rfl rfl rfl
theorem d_Z_bearsSo_0 : decode (jm_cd mY_Z_bearsSo) 0 = .ok (.iconst 0, 1) := by decide +kernel
theorem d_Z_bearsSo_1 : decode (jm_cd mY_Z_bearsSo) 1 = .ok (.istore_n 2, 1) := by decide +kernel
theorem d_Z_bearsSo_2 : decode (jm_cd mY_Z_bearsSo) 2 = .ok (.iload_n 2, 1) := by decide +kernel
theorem d_Z_bearsSo_3 : decode (jm_cd mY_Z_bearsSo) 3 = .ok (.iconst 1, 1) := by decide +kernel
theorem d_Z_bearsSo_4 : decode (jm_cd mY_Z_bearsSo) 4 = .ok (.aload_n 0, 1) := by decide +kernel
theorem d_Z_bearsSo_5 : decode (jm_cd mY_Z_bearsSo) 5 = .ok (.getfield 13, 3) := by decide +kernel
theorem d_Z_bearsSo_8 : decode (jm_cd mY_Z_bearsSo) 8 = .ok (.iconst 0, 1) := by decide +kernel
theorem d_Z_bearsSo_9 : decode (jm_cd mY_Z_bearsSo) 9 = .ok (.iaload, 1) := by decide +kernel
theorem d_Z_bearsSo_10 : decode (jm_cd mY_Z_bearsSo) 10 = .ok (.ishl, 1) := by decide +kernel
theorem d_Z_bearsSo_11 : decode (jm_cd mY_Z_bearsSo) 11 = .ok (.if_icmp .ge 38, 3) := by decide +kernel
theorem d_Z_bearsSo_14 : decode (jm_cd mY_Z_bearsSo) 14 = .ok (.iload_n 2, 1) := by decide +kernel
theorem d_Z_bearsSo_15 : decode (jm_cd mY_Z_bearsSo) 15 = .ok (.aload_n 0, 1) := by decide +kernel
theorem d_Z_bearsSo_16 : decode (jm_cd mY_Z_bearsSo) 16 = .ok (.invokevirtual 206, 3) := by decide +kernel
theorem d_Z_bearsSo_19 : decode (jm_cd mY_Z_bearsSo) 19 = .ok (.iconst (-1), 1) := by decide +kernel
theorem d_Z_bearsSo_20 : decode (jm_cd mY_Z_bearsSo) 20 = .ok (.ixor, 1) := by decide +kernel
theorem d_Z_bearsSo_21 : decode (jm_cd mY_Z_bearsSo) 21 = .ok (.iand, 1) := by decide +kernel
theorem d_Z_bearsSo_22 : decode (jm_cd mY_Z_bearsSo) 22 = .ok (.ifCond .ne 21, 3) := by decide +kernel
theorem d_Z_bearsSo_25 : decode (jm_cd mY_Z_bearsSo) 25 = .ok (.iload_n 2, 1) := by decide +kernel
theorem d_Z_bearsSo_26 : decode (jm_cd mY_Z_bearsSo) 26 = .ok (.invokestatic 212, 3) := by decide +kernel
theorem d_Z_bearsSo_29 : decode (jm_cd mY_Z_bearsSo) 29 = .ok (.iload_n 1, 1) := by decide +kernel
theorem d_Z_bearsSo_30 : decode (jm_cd mY_Z_bearsSo) 30 = .ok (.if_icmp .gt 13, 3) := by decide +kernel
theorem d_Z_bearsSo_33 : decode (jm_cd mY_Z_bearsSo) 33 = .ok (.aload_n 0, 1) := by decide +kernel
theorem d_Z_bearsSo_34 : decode (jm_cd mY_Z_bearsSo) 34 = .ok (.iload_n 2, 1) := by decide +kernel
theorem d_Z_bearsSo_35 : decode (jm_cd mY_Z_bearsSo) 35 = .ok (.invokevirtual 209, 3) := by decide +kernel
theorem d_Z_bearsSo_38 : decode (jm_cd mY_Z_bearsSo) 38 = .ok (.ifCond .eq 5, 3) := by decide +kernel
theorem d_Z_bearsSo_41 : decode (jm_cd mY_Z_bearsSo) 41 = .ok (.iconst 0, 1) := by decide +kernel
theorem d_Z_bearsSo_42 : decode (jm_cd mY_Z_bearsSo) 42 = .ok (.ireturn, 1) := by decide +kernel
theorem d_Z_bearsSo_43 : decode (jm_cd mY_Z_bearsSo) 43 = .ok (.iinc 2 1, 3) := by decide +kernel
theorem d_Z_bearsSo_46 : decode (jm_cd mY_Z_bearsSo) 46 = .ok (.goto (-44), 3) := by decide +kernel
theorem d_Z_bearsSo_49 : decode (jm_cd mY_Z_bearsSo) 49 = .ok (.aload_n 0, 1) := by decide +kernel
theorem d_Z_bearsSo_50 : decode (jm_cd mY_Z_bearsSo) 50 = .ok (.iload_n 1, 1) := by decide +kernel
theorem d_Z_bearsSo_51 : decode (jm_cd mY_Z_bearsSo) 51 = .ok (.invokevirtual 219, 3) := by decide +kernel
theorem d_Z_bearsSo_54 : decode (jm_cd mY_Z_bearsSo) 54 = .ok (.ldc 186, 2) := by decide +kernel
theorem d_Z_bearsSo_56 : decode (jm_cd mY_Z_bearsSo) 56 = .ok (.if_icmp .ge 7, 3) := by decide +kernel
theorem d_Z_bearsSo_59 : decode (jm_cd mY_Z_bearsSo) 59 = .ok (.iconst 1, 1) := by decide +kernel
theorem d_Z_bearsSo_60 : decode (jm_cd mY_Z_bearsSo) 60 = .ok (.goto 4, 3) := by decide +kernel
theorem d_Z_bearsSo_63 : decode (jm_cd mY_Z_bearsSo) 63 = .ok (.iconst 0, 1) := by decide +kernel
theorem d_Z_bearsSo_64 : decode (jm_cd mY_Z_bearsSo) 64 = .ok (.ireturn, 1) := by decide +kernel
def s_Z_bearsSo_L2 : Nat → Int32 → Int32 → jm_M → Option (Int32 × jm_M)
  | 0, _, _, _ => none
  | n + 1, x1, x2, s => jm_ldi s 61 4 0 (fun v1 => (if (1 <<< (v1 &&& 31)) ≤ x2 then jm_b2 (s_Z_latest s x1) (fun v2 s3 => (if 1000000 ≤ v2 then (some (0, s3)) else (some (1, s3)))) else jm_bd (s_Z_men s) (fun v4 => (if (x2 &&& (v4 ^^^ (-1))) = 0 then jm_bd (s_Z_bits s x2) (fun v5 => (if x1 < v5 then s_Z_bearsSo_L2 n x1 (x2 + 1) s else jm_b2 (s_Z_isFalse s x2) (fun v6 s7 => (if v6 = 0 then s_Z_bearsSo_L2 n x1 (x2 + 1) s7 else (some (0, s7)))))) else s_Z_bearsSo_L2 n x1 (x2 + 1) s))))
set_option maxRecDepth 100000 in
set_option maxHeartbeats 4000000 in
theorem s_Z_bearsSo_L2_ok : ∀ (n : Nat) (x1 : Int32) (x2 : Int32) (s : jm_M), jm_Sim mY_Z_bearsSo 0 0 2 [(0, .ref 59), (1, .int x1), (2, .int x2)] [] 78 mr_154 s (s_Z_bearsSo_L2 n x1 x2 s) (jm_rP 78 mr_154) := by
  intro n
  induction n with
  | zero => intro x1 x2 s; exact jm_none
  | succ n ih =>
    intro x1 x2 s
    rw [s_Z_bearsSo_L2]
    refine jm_iload_n (pc := 2) (q := 2) (x := x2) d_Z_bearsSo_2 rfl ?_
    refine jm_iconst (pc := 3) (v := 1) d_Z_bearsSo_3 ci_1 ?_
    refine jm_aload_n (pc := 4) (q := 0) (x := 59) d_Z_bearsSo_4 rfl ?_
    refine jm_gr (pc := 5) (i := 59) d_Z_bearsSo_5 fo_Z_13 sh_59 ge_59 le_59_78 rfl (fun _ => rfl) mr_154_59_2 ge_61 ?_
    refine jm_iconst (pc := 8) (v := 0) d_Z_bearsSo_8 ci_0 ?_
    refine jm_iald (pc := 9) d_Z_bearsSo_9 sh_61 ge_61 le_61_78 (fun v1 => ?_)
    refine jm_ishl (pc := 10) d_Z_bearsSo_10 ?_
    refine jm_icmp_ge (pc := 11) (tgt := 49) d_Z_bearsSo_11 (by decide) ?_ ?_
    · refine jm_aload_n (pc := 49) (q := 0) (x := 59) d_Z_bearsSo_49 rfl ?_
      refine jm_iload_n (pc := 50) (q := 1) (x := x1) d_Z_bearsSo_50 rfl ?_
      refine jm_Vi (pc := 51) (Y' := mY_Z_latest) (i := 59) (avs := [.int x1]) (rest := []) (s_Z_latest_ok s x1) ok_Z_latest l0_Z_bearsSo__Z_latest ml_Z_219 im_Z_latest se_Z_latest d_Z_bearsSo_51 rfl sh_59 rfl rfl ge_59 le_59_78 rfl (Nat.le_of_ble_eq_true rfl) (Nat.le_of_ble_eq_true rfl) (Nat.le_of_ble_eq_true rfl) (Nat.le_of_ble_eq_true rfl) (fun v2 s3 => ?_)
      refine jm_ldc (pc := 54) (v := 1000000) d_Z_bearsSo_54 k_Z_186 ?_
      refine jm_icmp_ge (pc := 56) (tgt := 63) d_Z_bearsSo_56 (by decide) ?_ ?_
      · refine jm_iconst (pc := 63) (v := 0) d_Z_bearsSo_63 ci_0 ?_
        exact jm_iret (pc := 64) (x := 0) d_Z_bearsSo_64 rfl (by decide) rfl rfl rfl
      · refine jm_iconst (pc := 59) (v := 1) d_Z_bearsSo_59 ci_1 ?_
        refine jm_goto (pc := 60) (tgt := 64) d_Z_bearsSo_60 (by decide) ?_
        exact jm_iret (pc := 64) (x := 1) d_Z_bearsSo_64 rfl (by decide) rfl rfl rfl
    · refine jm_iload_n (pc := 14) (q := 2) (x := x2) d_Z_bearsSo_14 rfl ?_
      refine jm_aload_n (pc := 15) (q := 0) (x := 59) d_Z_bearsSo_15 rfl ?_
      refine jm_Vp (pc := 16) (Y' := mY_Z_men) (i := 59) (avs := []) (rest := [.int x2]) (s_Z_men_ok s) ok_Z_men l0_Z_bearsSo__Z_men ml_Z_206 im_Z_men se_Z_men d_Z_bearsSo_16 rfl sh_59 rfl rfl ge_59 le_59_78 rfl (Nat.le_of_ble_eq_true rfl) (Nat.le_of_ble_eq_true rfl) (Nat.le_of_ble_eq_true rfl) (Nat.le_of_ble_eq_true rfl) (fun v4 => ?_)
      refine jm_iconst (pc := 19) (v := (-1)) d_Z_bearsSo_19 ci_m1 ?_
      refine jm_ixor (pc := 20) d_Z_bearsSo_20 ?_
      refine jm_iand (pc := 21) d_Z_bearsSo_21 ?_
      refine jm_if_ne (pc := 22) (tgt := 43) d_Z_bearsSo_22 (by decide) ?_ ?_
      · refine jm_iload_n (pc := 25) (q := 2) (x := x2) d_Z_bearsSo_25 rfl ?_
        refine jm_Sp (pc := 26) (Y' := mY_Z_bits) (avs := [.int x2]) (rest := []) (s_Z_bits_ok s x2) ok_Z_bits l0_Z_bearsSo__Z_bits ml_Z_212 sm_Z_bits d_Z_bearsSo_26 rfl rfl (Nat.le_of_ble_eq_true rfl) (Nat.le_of_ble_eq_true rfl) (Nat.le_of_ble_eq_true rfl) (Nat.le_of_ble_eq_true rfl) (fun v5 => ?_)
        refine jm_iload_n (pc := 29) (q := 1) (x := x1) d_Z_bearsSo_29 rfl ?_
        refine jm_icmp_gt (pc := 30) (tgt := 43) d_Z_bearsSo_30 (by decide) ?_ ?_
        · refine jm_iinc (pc := 43) (q := 2) (x := x2) (v := 1) (L2 := [(2, .int (x2 + 1)), (0, .ref 59), (1, .int x1)]) d_Z_bearsSo_43 rfl ci_1 (Nat.le_of_ble_eq_true rfl) rfl ?_
          refine jm_goto (pc := 46) (tgt := 2) d_Z_bearsSo_46 (by decide) ?_
          refine jm_sub (L2 := [(0, .ref 59), (1, .int x1), (2, .int (x2 + 1))]) [1, 2, 0] rfl ?_
          exact ih x1 (x2 + 1) s
        · refine jm_aload_n (pc := 33) (q := 0) (x := 59) d_Z_bearsSo_33 rfl ?_
          refine jm_iload_n (pc := 34) (q := 2) (x := x2) d_Z_bearsSo_34 rfl ?_
          refine jm_Vi (pc := 35) (Y' := mY_Z_isFalse) (i := 59) (avs := [.int x2]) (rest := []) (s_Z_isFalse_ok s x2) ok_Z_isFalse l0_Z_bearsSo__Z_isFalse ml_Z_209 im_Z_isFalse se_Z_isFalse d_Z_bearsSo_35 rfl sh_59 rfl rfl ge_59 le_59_78 rfl (Nat.le_of_ble_eq_true rfl) (Nat.le_of_ble_eq_true rfl) (Nat.le_of_ble_eq_true rfl) (Nat.le_of_ble_eq_true rfl) (fun v6 s7 => ?_)
          refine jm_if_eq (pc := 38) (tgt := 43) d_Z_bearsSo_38 (by decide) ?_ ?_
          · refine jm_iinc (pc := 43) (q := 2) (x := x2) (v := 1) (L2 := [(2, .int (x2 + 1)), (0, .ref 59), (1, .int x1)]) d_Z_bearsSo_43 rfl ci_1 (Nat.le_of_ble_eq_true rfl) rfl ?_
            refine jm_goto (pc := 46) (tgt := 2) d_Z_bearsSo_46 (by decide) ?_
            refine jm_sub (L2 := [(0, .ref 59), (1, .int x1), (2, .int (x2 + 1))]) [1, 2, 0] rfl ?_
            exact ih x1 (x2 + 1) s7
          · refine jm_iconst (pc := 41) (v := 0) d_Z_bearsSo_41 ci_0 ?_
            exact jm_iret (pc := 42) (x := 0) d_Z_bearsSo_42 rfl (by decide) rfl rfl rfl
      · refine jm_iinc (pc := 43) (q := 2) (x := x2) (v := 1) (L2 := [(2, .int (x2 + 1)), (0, .ref 59), (1, .int x1)]) d_Z_bearsSo_43 rfl ci_1 (Nat.le_of_ble_eq_true rfl) rfl ?_
        refine jm_goto (pc := 46) (tgt := 2) d_Z_bearsSo_46 (by decide) ?_
        refine jm_sub (L2 := [(0, .ref 59), (1, .int x1), (2, .int (x2 + 1))]) [1, 2, 0] rfl ?_
        exact ih x1 (x2 + 1) s
def s_Z_bearsSo (s : jm_M) (a0 : Int32) : Option (Int32 × jm_M) := s_Z_bearsSo_L2 5000 a0 0 s
set_option maxRecDepth 100000 in
set_option maxHeartbeats 4000000 in
theorem s_Z_bearsSo_ok (s : jm_M) (a0 : Int32) : jm_Sim mY_Z_bearsSo 0 0 0 [(0, .ref 59), (1, .int a0)] [] 78 mr_154 s (s_Z_bearsSo s a0) (jm_rP 78 mr_154) := by
  unfold s_Z_bearsSo
  refine jm_iconst (pc := 0) (v := 0) d_Z_bearsSo_0 ci_0 ?_
  refine jm_istore_n (pc := 1) (i := 2) (L2 := [(2, .int 0), (0, .ref 59), (1, .int a0)]) d_Z_bearsSo_1 rfl (Nat.le_of_ble_eq_true rfl) rfl ?_
  refine jm_sub (L2 := [(0, .ref 59), (1, .int a0), (2, .int 0)]) [1, 2, 0] rfl ?_
  exact s_Z_bearsSo_L2_ok 5000 a0 0 s
theorem d_Z_mostBorne_0 : decode (jm_cd mY_Z_mostBorne) 0 = .ok (.bipush (-4), 2) := by decide +kernel
theorem d_Z_mostBorne_2 : decode (jm_cd mY_Z_mostBorne) 2 = .ok (.istore_n 1, 1) := by decide +kernel
theorem d_Z_mostBorne_3 : decode (jm_cd mY_Z_mostBorne) 3 = .ok (.iconst 0, 1) := by decide +kernel
theorem d_Z_mostBorne_4 : decode (jm_cd mY_Z_mostBorne) 4 = .ok (.istore_n 2, 1) := by decide +kernel
theorem d_Z_mostBorne_5 : decode (jm_cd mY_Z_mostBorne) 5 = .ok (.iload_n 2, 1) := by decide +kernel
theorem d_Z_mostBorne_6 : decode (jm_cd mY_Z_mostBorne) 6 = .ok (.bipush 9, 2) := by decide +kernel
theorem d_Z_mostBorne_8 : decode (jm_cd mY_Z_mostBorne) 8 = .ok (.if_icmp .gt 23, 3) := by decide +kernel
theorem d_Z_mostBorne_11 : decode (jm_cd mY_Z_mostBorne) 11 = .ok (.aload_n 0, 1) := by decide +kernel
theorem d_Z_mostBorne_12 : decode (jm_cd mY_Z_mostBorne) 12 = .ok (.iload_n 2, 1) := by decide +kernel
theorem d_Z_mostBorne_13 : decode (jm_cd mY_Z_mostBorne) 13 = .ok (.invokevirtual 225, 3) := by decide +kernel
theorem d_Z_mostBorne_16 : decode (jm_cd mY_Z_mostBorne) 16 = .ok (.ifCond .eq 7, 3) := by decide +kernel
theorem d_Z_mostBorne_19 : decode (jm_cd mY_Z_mostBorne) 19 = .ok (.iload_n 2, 1) := by decide +kernel
theorem d_Z_mostBorne_20 : decode (jm_cd mY_Z_mostBorne) 20 = .ok (.goto 4, 3) := by decide +kernel
theorem d_Z_mostBorne_23 : decode (jm_cd mY_Z_mostBorne) 23 = .ok (.iload_n 1, 1) := by decide +kernel
theorem d_Z_mostBorne_24 : decode (jm_cd mY_Z_mostBorne) 24 = .ok (.istore_n 1, 1) := by decide +kernel
theorem d_Z_mostBorne_25 : decode (jm_cd mY_Z_mostBorne) 25 = .ok (.iinc 2 1, 3) := by decide +kernel
theorem d_Z_mostBorne_28 : decode (jm_cd mY_Z_mostBorne) 28 = .ok (.goto (-23), 3) := by decide +kernel
theorem d_Z_mostBorne_31 : decode (jm_cd mY_Z_mostBorne) 31 = .ok (.iload_n 1, 1) := by decide +kernel
theorem d_Z_mostBorne_32 : decode (jm_cd mY_Z_mostBorne) 32 = .ok (.ireturn, 1) := by decide +kernel
def s_Z_mostBorne_L5 : Nat → Int32 → Int32 → jm_M → Option (Int32 × jm_M)
  | 0, _, _, _ => none
  | n + 1, x1, x2, s => (if 9 < x2 then (some (x1, s)) else jm_b2 (s_Z_bearsSo s x2) (fun v1 s2 => (if v1 = 0 then s_Z_mostBorne_L5 n x1 (x2 + 1) s2 else s_Z_mostBorne_L5 n x2 (x2 + 1) s2)))
set_option maxRecDepth 100000 in
set_option maxHeartbeats 4000000 in
theorem s_Z_mostBorne_L5_ok : ∀ (n : Nat) (x1 : Int32) (x2 : Int32) (s : jm_M), jm_Sim mY_Z_mostBorne 0 0 5 [(0, .ref 59), (1, .int x1), (2, .int x2)] [] 78 mr_154 s (s_Z_mostBorne_L5 n x1 x2 s) (jm_rP 78 mr_154) := by
  intro n
  induction n with
  | zero => intro x1 x2 s; exact jm_none
  | succ n ih =>
    intro x1 x2 s
    rw [s_Z_mostBorne_L5]
    refine jm_iload_n (pc := 5) (q := 2) (x := x2) d_Z_mostBorne_5 rfl ?_
    refine jm_bipush (pc := 6) (v := 9) d_Z_mostBorne_6 cb_9 ?_
    refine jm_icmp_gt (pc := 8) (tgt := 31) d_Z_mostBorne_8 (by decide) ?_ ?_
    · refine jm_iload_n (pc := 31) (q := 1) (x := x1) d_Z_mostBorne_31 rfl ?_
      exact jm_iret (pc := 32) (x := x1) d_Z_mostBorne_32 rfl rfl rfl rfl rfl
    · refine jm_aload_n (pc := 11) (q := 0) (x := 59) d_Z_mostBorne_11 rfl ?_
      refine jm_iload_n (pc := 12) (q := 2) (x := x2) d_Z_mostBorne_12 rfl ?_
      refine jm_Vi (pc := 13) (Y' := mY_Z_bearsSo) (i := 59) (avs := [.int x2]) (rest := []) (s_Z_bearsSo_ok s x2) ok_Z_bearsSo l0_Z_mostBorne__Z_bearsSo ml_Z_225 im_Z_bearsSo se_Z_bearsSo d_Z_mostBorne_13 rfl sh_59 rfl rfl ge_59 le_59_78 rfl (Nat.le_of_ble_eq_true rfl) (Nat.le_of_ble_eq_true rfl) (Nat.le_of_ble_eq_true rfl) (Nat.le_of_ble_eq_true rfl) (fun v1 s2 => ?_)
      refine jm_if_eq (pc := 16) (tgt := 23) d_Z_mostBorne_16 (by decide) ?_ ?_
      · refine jm_iload_n (pc := 23) (q := 1) (x := x1) d_Z_mostBorne_23 rfl ?_
        refine jm_istore_n (pc := 24) (i := 1) (L2 := [(1, .int x1), (0, .ref 59), (2, .int x2)]) d_Z_mostBorne_24 rfl (Nat.le_of_ble_eq_true rfl) rfl ?_
        refine jm_iinc (pc := 25) (q := 2) (x := x2) (v := 1) (L2 := [(2, .int (x2 + 1)), (1, .int x1), (0, .ref 59)]) d_Z_mostBorne_25 rfl ci_1 (Nat.le_of_ble_eq_true rfl) rfl ?_
        refine jm_goto (pc := 28) (tgt := 5) d_Z_mostBorne_28 (by decide) ?_
        refine jm_sub (L2 := [(0, .ref 59), (1, .int x1), (2, .int (x2 + 1))]) [2, 1, 0] rfl ?_
        exact ih x1 (x2 + 1) s2
      · refine jm_iload_n (pc := 19) (q := 2) (x := x2) d_Z_mostBorne_19 rfl ?_
        refine jm_goto (pc := 20) (tgt := 24) d_Z_mostBorne_20 (by decide) ?_
        refine jm_istore_n (pc := 24) (i := 1) (L2 := [(1, .int x2), (0, .ref 59), (2, .int x2)]) d_Z_mostBorne_24 rfl (Nat.le_of_ble_eq_true rfl) rfl ?_
        refine jm_iinc (pc := 25) (q := 2) (x := x2) (v := 1) (L2 := [(2, .int (x2 + 1)), (1, .int x2), (0, .ref 59)]) d_Z_mostBorne_25 rfl ci_1 (Nat.le_of_ble_eq_true rfl) rfl ?_
        refine jm_goto (pc := 28) (tgt := 5) d_Z_mostBorne_28 (by decide) ?_
        refine jm_sub (L2 := [(0, .ref 59), (1, .int x2), (2, .int (x2 + 1))]) [2, 1, 0] rfl ?_
        exact ih x2 (x2 + 1) s2
def s_Z_mostBorne (s : jm_M) : Option (Int32 × jm_M) := s_Z_mostBorne_L5 5000 (-4) 0 s
set_option maxRecDepth 100000 in
set_option maxHeartbeats 4000000 in
theorem s_Z_mostBorne_ok (s : jm_M) : jm_Sim mY_Z_mostBorne 0 0 0 [(0, .ref 59)] [] 78 mr_154 s (s_Z_mostBorne s) (jm_rP 78 mr_154) := by
  unfold s_Z_mostBorne
  refine jm_bipush (pc := 0) (v := (-4)) d_Z_mostBorne_0 cb_m4 ?_
  refine jm_istore_n (pc := 2) (i := 1) (L2 := [(1, .int (-4)), (0, .ref 59)]) d_Z_mostBorne_2 rfl (Nat.le_of_ble_eq_true rfl) rfl ?_
  refine jm_iconst (pc := 3) (v := 0) d_Z_mostBorne_3 ci_0 ?_
  refine jm_istore_n (pc := 4) (i := 2) (L2 := [(2, .int 0), (1, .int (-4)), (0, .ref 59)]) d_Z_mostBorne_4 rfl (Nat.le_of_ble_eq_true rfl) rfl ?_
  refine jm_sub (L2 := [(0, .ref 59), (1, .int (-4)), (2, .int 0)]) [2, 1, 0] rfl ?_
  exact s_Z_mostBorne_L5_ok 5000 (-4) 0 s
theorem d_Z_bears_0 : decode (jm_cd mY_Z_bears) 0 = .ok (.aload_n 0, 1) := by decide +kernel
theorem d_Z_bears_1 : decode (jm_cd mY_Z_bears) 1 = .ok (.invokevirtual 168, 3) := by decide +kernel
theorem d_Z_bears_4 : decode (jm_cd mY_Z_bears) 4 = .ok (.bipush (-4), 2) := by decide +kernel
theorem d_Z_bears_6 : decode (jm_cd mY_Z_bears) 6 = .ok (.if_icmp .ne 6, 3) := by decide +kernel
theorem d_Z_bears_9 : decode (jm_cd mY_Z_bears) 9 = .ok (.bipush (-2), 2) := by decide +kernel
theorem d_Z_bears_11 : decode (jm_cd mY_Z_bears) 11 = .ok (.ireturn, 1) := by decide +kernel
theorem d_Z_bears_12 : decode (jm_cd mY_Z_bears) 12 = .ok (.aload_n 0, 1) := by decide +kernel
theorem d_Z_bears_13 : decode (jm_cd mY_Z_bears) 13 = .ok (.invokevirtual 203, 3) := by decide +kernel
theorem d_Z_bears_16 : decode (jm_cd mY_Z_bears) 16 = .ok (.aload_n 0, 1) := by decide +kernel
theorem d_Z_bears_17 : decode (jm_cd mY_Z_bears) 17 = .ok (.invokevirtual 228, 3) := by decide +kernel
theorem d_Z_bears_20 : decode (jm_cd mY_Z_bears) 20 = .ok (.ireturn, 1) := by decide +kernel
def s_Z_bears (s : jm_M) : Option (Int32 × jm_M) := jm_bd (s_Z_ear s) (fun v1 => (if v1 = (-4) then (some ((-2), s)) else jm_bd (s_Z_asTold s) (fun s2 => jm_b2 (s_Z_mostBorne s2) (fun v3 s4 => (some (v3, s4))))))
set_option maxRecDepth 100000 in
set_option maxHeartbeats 4000000 in
theorem s_Z_bears_ok (s : jm_M) : jm_Sim mY_Z_bears 0 0 0 [(0, .ref 59)] [] 78 mr_154 s (s_Z_bears s) (jm_rP 78 mr_154) := by
  unfold s_Z_bears
  refine jm_aload_n (pc := 0) (q := 0) (x := 59) d_Z_bears_0 rfl ?_
  refine jm_Vp (pc := 1) (Y' := mY_Z_ear) (i := 59) (avs := []) (rest := []) (s_Z_ear_ok s) ok_Z_ear l0_Z_bears__Z_ear ml_Z_168 im_Z_ear se_Z_ear d_Z_bears_1 rfl sh_59 rfl rfl ge_59 le_59_78 rfl (Nat.le_of_ble_eq_true rfl) (Nat.le_of_ble_eq_true rfl) (Nat.le_of_ble_eq_true rfl) (Nat.le_of_ble_eq_true rfl) (fun v1 => ?_)
  refine jm_bipush (pc := 4) (v := (-4)) d_Z_bears_4 cb_m4 ?_
  refine jm_icmp_ne (pc := 6) (tgt := 12) d_Z_bears_6 (by decide) ?_ ?_
  · refine jm_bipush (pc := 9) (v := (-2)) d_Z_bears_9 cb_m2 ?_
    exact jm_iret (pc := 11) (x := (-2)) d_Z_bears_11 rfl rfl rfl rfl rfl
  · refine jm_aload_n (pc := 12) (q := 0) (x := 59) d_Z_bears_12 rfl ?_
    refine jm_Vv (pc := 13) (Y' := mY_Z_asTold) (i := 59) (avs := []) (rest := []) (s_Z_asTold_ok s) ok_Z_asTold l0_Z_bears__Z_asTold ml_Z_203 im_Z_asTold se_Z_asTold d_Z_bears_13 rfl sh_59 rfl rfl ge_59 le_59_78 rfl (Nat.le_of_ble_eq_true rfl) (Nat.le_of_ble_eq_true rfl) (Nat.le_of_ble_eq_true rfl) (Nat.le_of_ble_eq_true rfl) (fun s2 => ?_)
    refine jm_aload_n (pc := 16) (q := 0) (x := 59) d_Z_bears_16 rfl ?_
    refine jm_Vi (pc := 17) (Y' := mY_Z_mostBorne) (i := 59) (avs := []) (rest := []) (s_Z_mostBorne_ok s2) ok_Z_mostBorne l0_Z_bears__Z_mostBorne ml_Z_228 im_Z_mostBorne se_Z_mostBorne d_Z_bears_17 rfl sh_59 rfl rfl ge_59 le_59_78 rfl (Nat.le_of_ble_eq_true rfl) (Nat.le_of_ble_eq_true rfl) (Nat.le_of_ble_eq_true rfl) (Nat.le_of_ble_eq_true rfl) (fun v3 s4 => ?_)
    exact jm_iret (pc := 20) (x := v3) d_Z_bears_20 rfl rfl rfl rfl rfl
theorem d_Co_ruleAllBy_0 : decode (jm_cd mY_Co_ruleAllBy) 0 = .ok (.iconst 0, 1) := by decide +kernel
theorem d_Co_ruleAllBy_1 : decode (jm_cd mY_Co_ruleAllBy) 1 = .ok (.istore_n 3, 1) := by decide +kernel
theorem d_Co_ruleAllBy_2 : decode (jm_cd mY_Co_ruleAllBy) 2 = .ok (.iload_n 3, 1) := by decide +kernel
theorem d_Co_ruleAllBy_3 : decode (jm_cd mY_Co_ruleAllBy) 3 = .ok (.bipush 10, 2) := by decide +kernel
theorem d_Co_ruleAllBy_5 : decode (jm_cd mY_Co_ruleAllBy) 5 = .ok (.if_icmp .ge 23, 3) := by decide +kernel
theorem d_Co_ruleAllBy_8 : decode (jm_cd mY_Co_ruleAllBy) 8 = .ok (.aload_n 0, 1) := by decide +kernel
theorem d_Co_ruleAllBy_9 : decode (jm_cd mY_Co_ruleAllBy) 9 = .ok (.getfield 31, 3) := by decide +kernel
theorem d_Co_ruleAllBy_12 : decode (jm_cd mY_Co_ruleAllBy) 12 = .ok (.iload_n 3, 1) := by decide +kernel
theorem d_Co_ruleAllBy_13 : decode (jm_cd mY_Co_ruleAllBy) 13 = .ok (.iload_n 1, 1) := by decide +kernel
theorem d_Co_ruleAllBy_14 : decode (jm_cd mY_Co_ruleAllBy) 14 = .ok (.iastore, 1) := by decide +kernel
theorem d_Co_ruleAllBy_15 : decode (jm_cd mY_Co_ruleAllBy) 15 = .ok (.aload_n 0, 1) := by decide +kernel
theorem d_Co_ruleAllBy_16 : decode (jm_cd mY_Co_ruleAllBy) 16 = .ok (.getfield 34, 3) := by decide +kernel
theorem d_Co_ruleAllBy_19 : decode (jm_cd mY_Co_ruleAllBy) 19 = .ok (.iload_n 3, 1) := by decide +kernel
theorem d_Co_ruleAllBy_20 : decode (jm_cd mY_Co_ruleAllBy) 20 = .ok (.iload_n 2, 1) := by decide +kernel
theorem d_Co_ruleAllBy_21 : decode (jm_cd mY_Co_ruleAllBy) 21 = .ok (.iastore, 1) := by decide +kernel
theorem d_Co_ruleAllBy_22 : decode (jm_cd mY_Co_ruleAllBy) 22 = .ok (.iinc 3 1, 3) := by decide +kernel
theorem d_Co_ruleAllBy_25 : decode (jm_cd mY_Co_ruleAllBy) 25 = .ok (.goto (-23), 3) := by decide +kernel
theorem d_Co_ruleAllBy_28 : decode (jm_cd mY_Co_ruleAllBy) 28 = .ok (.return_, 1) := by decide +kernel
def s_Co_ruleAllBy_L2 : Nat → Int32 → Int32 → Int32 → jm_M → Option jm_M
  | 0, _, _, _, _ => none
  | n + 1, x1, x2, x3, s => (if 10 ≤ x3 then (some s) else jm_sti s 50 10 x3 x1 (fun s1 => jm_sti s1 51 10 x3 x2 (fun s2 => s_Co_ruleAllBy_L2 n x1 x2 (x3 + 1) s2)))
set_option maxRecDepth 100000 in
set_option maxHeartbeats 4000000 in
theorem s_Co_ruleAllBy_L2_ok : ∀ (n : Nat) (x1 : Int32) (x2 : Int32) (x3 : Int32) (s : jm_M), jm_Sim mY_Co_ruleAllBy 0 0 2 [(0, .ref 48), (1, .int x1), (2, .int x2), (3, .int x3)] [] 78 mr_154 s (s_Co_ruleAllBy_L2 n x1 x2 x3 s) (jm_rV 78 mr_154) := by
  intro n
  induction n with
  | zero => intro x1 x2 x3 s; exact jm_none
  | succ n ih =>
    intro x1 x2 x3 s
    rw [s_Co_ruleAllBy_L2]
    refine jm_iload_n (pc := 2) (q := 3) (x := x3) d_Co_ruleAllBy_2 rfl ?_
    refine jm_bipush (pc := 3) (v := 10) d_Co_ruleAllBy_3 cb_10 ?_
    refine jm_icmp_ge (pc := 5) (tgt := 28) d_Co_ruleAllBy_5 (by decide) ?_ ?_
    · exact jm_vret (pc := 28) d_Co_ruleAllBy_28 rfl rfl rfl rfl
    · refine jm_aload_n (pc := 8) (q := 0) (x := 48) d_Co_ruleAllBy_8 rfl ?_
      refine jm_gr (pc := 9) (i := 48) d_Co_ruleAllBy_9 fo_Co_31 sh_48 ge_48 le_48_78 rfl (fun _ => rfl) mr_154_48_6 ge_50 ?_
      refine jm_iload_n (pc := 12) (q := 3) (x := x3) d_Co_ruleAllBy_12 rfl ?_
      refine jm_iload_n (pc := 13) (q := 1) (x := x1) d_Co_ruleAllBy_13 rfl ?_
      refine jm_iast (pc := 14) d_Co_ruleAllBy_14 sh_50 ge_50 le_50_78 (fun s1 => ?_)
      refine jm_aload_n (pc := 15) (q := 0) (x := 48) d_Co_ruleAllBy_15 rfl ?_
      refine jm_gr (pc := 16) (i := 48) d_Co_ruleAllBy_16 fo_Co_34 sh_48 ge_48 le_48_78 rfl (fun _ => rfl) mr_154_48_7 ge_51 ?_
      refine jm_iload_n (pc := 19) (q := 3) (x := x3) d_Co_ruleAllBy_19 rfl ?_
      refine jm_iload_n (pc := 20) (q := 2) (x := x2) d_Co_ruleAllBy_20 rfl ?_
      refine jm_iast (pc := 21) d_Co_ruleAllBy_21 sh_51 ge_51 le_51_78 (fun s2 => ?_)
      refine jm_iinc (pc := 22) (q := 3) (x := x3) (v := 1) (L2 := [(3, .int (x3 + 1)), (0, .ref 48), (1, .int x1), (2, .int x2)]) d_Co_ruleAllBy_22 rfl ci_1 (Nat.le_of_ble_eq_true rfl) rfl ?_
      refine jm_goto (pc := 25) (tgt := 2) d_Co_ruleAllBy_25 (by decide) ?_
      refine jm_sub (L2 := [(0, .ref 48), (1, .int x1), (2, .int x2), (3, .int (x3 + 1))]) [1, 2, 3, 0] rfl ?_
      exact ih x1 x2 (x3 + 1) s2
def s_Co_ruleAllBy (s : jm_M) (a0 : Int32) (a1 : Int32) : Option jm_M := s_Co_ruleAllBy_L2 5000 a0 a1 0 s
set_option maxRecDepth 100000 in
set_option maxHeartbeats 4000000 in
theorem s_Co_ruleAllBy_ok (s : jm_M) (a0 : Int32) (a1 : Int32) : jm_Sim mY_Co_ruleAllBy 0 0 0 [(0, .ref 48), (1, .int a0), (2, .int a1)] [] 78 mr_154 s (s_Co_ruleAllBy s a0 a1) (jm_rV 78 mr_154) := by
  unfold s_Co_ruleAllBy
  refine jm_iconst (pc := 0) (v := 0) d_Co_ruleAllBy_0 ci_0 ?_
  refine jm_istore_n (pc := 1) (i := 3) (L2 := [(3, .int 0), (0, .ref 48), (1, .int a0), (2, .int a1)]) d_Co_ruleAllBy_1 rfl (Nat.le_of_ble_eq_true rfl) rfl ?_
  refine jm_sub (L2 := [(0, .ref 48), (1, .int a0), (2, .int a1), (3, .int 0)]) [1, 2, 3, 0] rfl ?_
  exact s_Co_ruleAllBy_L2_ok 5000 a0 a1 0 s
theorem d_Co_seekBestRule_0 : decode (jm_cd mY_Co_seekBestRule) 0 = .ok (.aload_n 0, 1) := by decide +kernel
theorem d_Co_seekBestRule_1 : decode (jm_cd mY_Co_seekBestRule) 1 = .ok (.bipush (-4), 2) := by decide +kernel
theorem d_Co_seekBestRule_3 : decode (jm_cd mY_Co_seekBestRule) 3 = .ok (.putfield 9, 3) := by decide +kernel
theorem d_Co_seekBestRule_6 : decode (jm_cd mY_Co_seekBestRule) 6 = .ok (.aload_n 0, 1) := by decide +kernel
theorem d_Co_seekBestRule_7 : decode (jm_cd mY_Co_seekBestRule) 7 = .ok (.bipush (-4), 2) := by decide +kernel
theorem d_Co_seekBestRule_9 : decode (jm_cd mY_Co_seekBestRule) 9 = .ok (.putfield 15, 3) := by decide +kernel
theorem d_Co_seekBestRule_12 : decode (jm_cd mY_Co_seekBestRule) 12 = .ok (.iconst 1, 1) := by decide +kernel
theorem d_Co_seekBestRule_13 : decode (jm_cd mY_Co_seekBestRule) 13 = .ok (.istore_n 2, 1) := by decide +kernel
theorem d_Co_seekBestRule_14 : decode (jm_cd mY_Co_seekBestRule) 14 = .ok (.iload_n 2, 1) := by decide +kernel
theorem d_Co_seekBestRule_15 : decode (jm_cd mY_Co_seekBestRule) 15 = .ok (.iconst 4, 1) := by decide +kernel
theorem d_Co_seekBestRule_16 : decode (jm_cd mY_Co_seekBestRule) 16 = .ok (.if_icmp .gt 76, 3) := by decide +kernel
theorem d_Co_seekBestRule_19 : decode (jm_cd mY_Co_seekBestRule) 19 = .ok (.iconst 1, 1) := by decide +kernel
theorem d_Co_seekBestRule_20 : decode (jm_cd mY_Co_seekBestRule) 20 = .ok (.istore_n 3, 1) := by decide +kernel
theorem d_Co_seekBestRule_21 : decode (jm_cd mY_Co_seekBestRule) 21 = .ok (.iload_n 3, 1) := by decide +kernel
theorem d_Co_seekBestRule_22 : decode (jm_cd mY_Co_seekBestRule) 22 = .ok (.iconst 3, 1) := by decide +kernel
theorem d_Co_seekBestRule_23 : decode (jm_cd mY_Co_seekBestRule) 23 = .ok (.if_icmp .gt 63, 3) := by decide +kernel
theorem d_Co_seekBestRule_26 : decode (jm_cd mY_Co_seekBestRule) 26 = .ok (.aload_n 0, 1) := by decide +kernel
theorem d_Co_seekBestRule_27 : decode (jm_cd mY_Co_seekBestRule) 27 = .ok (.iload_n 2, 1) := by decide +kernel
theorem d_Co_seekBestRule_28 : decode (jm_cd mY_Co_seekBestRule) 28 = .ok (.iload_n 3, 1) := by decide +kernel
theorem d_Co_seekBestRule_29 : decode (jm_cd mY_Co_seekBestRule) 29 = .ok (.invokevirtual 103, 3) := by decide +kernel
theorem d_Co_seekBestRule_32 : decode (jm_cd mY_Co_seekBestRule) 32 = .ok (.aload_n 0, 1) := by decide +kernel
theorem d_Co_seekBestRule_33 : decode (jm_cd mY_Co_seekBestRule) 33 = .ok (.iload_n 1, 1) := by decide +kernel
theorem d_Co_seekBestRule_34 : decode (jm_cd mY_Co_seekBestRule) 34 = .ok (.invokevirtual 100, 3) := by decide +kernel
theorem d_Co_seekBestRule_37 : decode (jm_cd mY_Co_seekBestRule) 37 = .ok (.istore 4, 2) := by decide +kernel
theorem d_Co_seekBestRule_39 : decode (jm_cd mY_Co_seekBestRule) 39 = .ok (.iload 4, 2) := by decide +kernel
theorem d_Co_seekBestRule_41 : decode (jm_cd mY_Co_seekBestRule) 41 = .ok (.bipush (-4), 2) := by decide +kernel
theorem d_Co_seekBestRule_43 : decode (jm_cd mY_Co_seekBestRule) 43 = .ok (.if_icmp .eq 37, 3) := by decide +kernel
theorem d_Co_seekBestRule_46 : decode (jm_cd mY_Co_seekBestRule) 46 = .ok (.aload_n 0, 1) := by decide +kernel
theorem d_Co_seekBestRule_47 : decode (jm_cd mY_Co_seekBestRule) 47 = .ok (.getfield 15, 3) := by decide +kernel
theorem d_Co_seekBestRule_50 : decode (jm_cd mY_Co_seekBestRule) 50 = .ok (.bipush (-4), 2) := by decide +kernel
theorem d_Co_seekBestRule_52 : decode (jm_cd mY_Co_seekBestRule) 52 = .ok (.if_icmp .eq 12, 3) := by decide +kernel
theorem d_Co_seekBestRule_55 : decode (jm_cd mY_Co_seekBestRule) 55 = .ok (.iload 4, 2) := by decide +kernel
theorem d_Co_seekBestRule_57 : decode (jm_cd mY_Co_seekBestRule) 57 = .ok (.aload_n 0, 1) := by decide +kernel
theorem d_Co_seekBestRule_58 : decode (jm_cd mY_Co_seekBestRule) 58 = .ok (.getfield 15, 3) := by decide +kernel
theorem d_Co_seekBestRule_61 : decode (jm_cd mY_Co_seekBestRule) 61 = .ok (.if_icmp .ge 19, 3) := by decide +kernel
theorem d_Co_seekBestRule_64 : decode (jm_cd mY_Co_seekBestRule) 64 = .ok (.aload_n 0, 1) := by decide +kernel
theorem d_Co_seekBestRule_65 : decode (jm_cd mY_Co_seekBestRule) 65 = .ok (.bipush 10, 2) := by decide +kernel
theorem d_Co_seekBestRule_67 : decode (jm_cd mY_Co_seekBestRule) 67 = .ok (.iload_n 2, 1) := by decide +kernel
theorem d_Co_seekBestRule_68 : decode (jm_cd mY_Co_seekBestRule) 68 = .ok (.imul, 1) := by decide +kernel
theorem d_Co_seekBestRule_69 : decode (jm_cd mY_Co_seekBestRule) 69 = .ok (.iload_n 3, 1) := by decide +kernel
theorem d_Co_seekBestRule_70 : decode (jm_cd mY_Co_seekBestRule) 70 = .ok (.iadd, 1) := by decide +kernel
theorem d_Co_seekBestRule_71 : decode (jm_cd mY_Co_seekBestRule) 71 = .ok (.putfield 9, 3) := by decide +kernel
theorem d_Co_seekBestRule_74 : decode (jm_cd mY_Co_seekBestRule) 74 = .ok (.aload_n 0, 1) := by decide +kernel
theorem d_Co_seekBestRule_75 : decode (jm_cd mY_Co_seekBestRule) 75 = .ok (.iload 4, 2) := by decide +kernel
theorem d_Co_seekBestRule_77 : decode (jm_cd mY_Co_seekBestRule) 77 = .ok (.putfield 15, 3) := by decide +kernel
theorem d_Co_seekBestRule_80 : decode (jm_cd mY_Co_seekBestRule) 80 = .ok (.iinc 3 1, 3) := by decide +kernel
theorem d_Co_seekBestRule_83 : decode (jm_cd mY_Co_seekBestRule) 83 = .ok (.goto (-62), 3) := by decide +kernel
theorem d_Co_seekBestRule_86 : decode (jm_cd mY_Co_seekBestRule) 86 = .ok (.iinc 2 1, 3) := by decide +kernel
theorem d_Co_seekBestRule_89 : decode (jm_cd mY_Co_seekBestRule) 89 = .ok (.goto (-75), 3) := by decide +kernel
theorem d_Co_seekBestRule_92 : decode (jm_cd mY_Co_seekBestRule) 92 = .ok (.return_, 1) := by decide +kernel
def s_Co_seekBestRule_J64 (k8 : Int32 → Int32 → jm_M → Option jm_M) (k13 : Int32 → Int32 → Int32 → jm_M → Option jm_M) (x1 : Int32) (x2 : Int32) (x3 : Int32) (x4 : Int32) (s : jm_M) : Option jm_M := jm_ev (jm_si s 48 0 ((10 * x2) + x3)) (fun s6 => jm_ev (jm_si s6 48 1 x4) (fun s7 => k13 x1 x2 (x3 + 1) s7))
set_option maxRecDepth 100000 in
set_option maxHeartbeats 4000000 in
theorem s_Co_seekBestRule_J64_ok {k8 : Int32 → Int32 → jm_M → Option jm_M} (hk8 : ∀ (x1 : Int32) (x2 : Int32) (s : jm_M), jm_Sim mY_Co_seekBestRule 0 0 14 [(0, .ref 48), (1, .int x1), (2, .int x2)] [] 78 mr_154 s (k8 x1 x2 s) (jm_rV 78 mr_154)) {k13 : Int32 → Int32 → Int32 → jm_M → Option jm_M} (hk13 : ∀ (x1 : Int32) (x2 : Int32) (x3 : Int32) (s : jm_M), jm_Sim mY_Co_seekBestRule 0 0 21 [(0, .ref 48), (1, .int x1), (2, .int x2), (3, .int x3)] [] 78 mr_154 s (k13 x1 x2 x3 s) (jm_rV 78 mr_154)) (x1 : Int32) (x2 : Int32) (x3 : Int32) (x4 : Int32) (s : jm_M) : jm_Sim mY_Co_seekBestRule 0 0 64 [(0, .ref 48), (1, .int x1), (2, .int x2), (3, .int x3), (4, .int x4)] [] 78 mr_154 s (s_Co_seekBestRule_J64 k8 k13 x1 x2 x3 x4 s) (jm_rV 78 mr_154) := by
  unfold s_Co_seekBestRule_J64
  refine jm_aload_n (pc := 64) (q := 0) (x := 48) d_Co_seekBestRule_64 rfl ?_
  refine jm_bipush (pc := 65) (v := 10) d_Co_seekBestRule_65 cb_10 ?_
  refine jm_iload_n (pc := 67) (q := 2) (x := x2) d_Co_seekBestRule_67 rfl ?_
  refine jm_imul (pc := 68) d_Co_seekBestRule_68 ?_
  refine jm_iload_n (pc := 69) (q := 3) (x := x3) d_Co_seekBestRule_69 rfl ?_
  refine jm_iadd (pc := 70) d_Co_seekBestRule_70 ?_
  refine jm_pi (pc := 71) (i := 48) d_Co_seekBestRule_71 fp_Co_9 sh_48 ge_48 le_48_78 rfl rfl rfl (fun _ _ _ => rfl) (fun s6 => ?_)
  refine jm_aload_n (pc := 74) (q := 0) (x := 48) d_Co_seekBestRule_74 rfl ?_
  refine jm_iload (pc := 75) (q := 4) (x := x4) d_Co_seekBestRule_75 rfl ?_
  refine jm_pi (pc := 77) (i := 48) d_Co_seekBestRule_77 fp_Co_15 sh_48 ge_48 le_48_78 rfl rfl rfl (fun _ _ _ => rfl) (fun s7 => ?_)
  refine jm_iinc (pc := 80) (q := 3) (x := x3) (v := 1) (L2 := [(3, .int (x3 + 1)), (0, .ref 48), (1, .int x1), (2, .int x2), (4, .int x4)]) d_Co_seekBestRule_80 rfl ci_1 (Nat.le_of_ble_eq_true rfl) rfl ?_
  refine jm_goto (pc := 83) (tgt := 21) d_Co_seekBestRule_83 (by decide) ?_
  refine jm_sub (L2 := [(0, .ref 48), (1, .int x1), (2, .int x2), (3, .int (x3 + 1))]) [1, 2, 3, 0] rfl ?_
  exact hk13 x1 x2 (x3 + 1) s7
def s_Co_seekBestRule_L21 (k8 : Int32 → Int32 → jm_M → Option jm_M) : Nat → Int32 → Int32 → Int32 → jm_M → Option jm_M
  | 0, _, _, _, _ => none
  | n + 1, x1, x2, x3, s => (if 3 < x3 then k8 x1 (x2 + 1) s else jm_bd (s_Co_ruleAllBy s x2 x3) (fun s3 => jm_b2 (s_Co_latestIfBorne s3 x1) (fun v4 s5 => (if v4 = (-4) then s_Co_seekBestRule_L21 k8 n x1 x2 (x3 + 1) s5 else (if (s5.1 48 1) = (-4) then s_Co_seekBestRule_J64 k8 (s_Co_seekBestRule_L21 k8 n) x1 x2 x3 v4 s5 else (if (s5.1 48 1) ≤ v4 then s_Co_seekBestRule_L21 k8 n x1 x2 (x3 + 1) s5 else s_Co_seekBestRule_J64 k8 (s_Co_seekBestRule_L21 k8 n) x1 x2 x3 v4 s5))))))
set_option maxRecDepth 100000 in
set_option maxHeartbeats 4000000 in
theorem s_Co_seekBestRule_L21_ok {k8 : Int32 → Int32 → jm_M → Option jm_M} (hk8 : ∀ (x1 : Int32) (x2 : Int32) (s : jm_M), jm_Sim mY_Co_seekBestRule 0 0 14 [(0, .ref 48), (1, .int x1), (2, .int x2)] [] 78 mr_154 s (k8 x1 x2 s) (jm_rV 78 mr_154)) : ∀ (n : Nat) (x1 : Int32) (x2 : Int32) (x3 : Int32) (s : jm_M), jm_Sim mY_Co_seekBestRule 0 0 21 [(0, .ref 48), (1, .int x1), (2, .int x2), (3, .int x3)] [] 78 mr_154 s (s_Co_seekBestRule_L21 k8 n x1 x2 x3 s) (jm_rV 78 mr_154) := by
  intro n
  induction n with
  | zero => intro x1 x2 x3 s; exact jm_none
  | succ n ih =>
    intro x1 x2 x3 s
    rw [s_Co_seekBestRule_L21]
    refine jm_iload_n (pc := 21) (q := 3) (x := x3) d_Co_seekBestRule_21 rfl ?_
    refine jm_iconst (pc := 22) (v := 3) d_Co_seekBestRule_22 ci_3 ?_
    refine jm_icmp_gt (pc := 23) (tgt := 86) d_Co_seekBestRule_23 (by decide) ?_ ?_
    · refine jm_iinc (pc := 86) (q := 2) (x := x2) (v := 1) (L2 := [(2, .int (x2 + 1)), (0, .ref 48), (1, .int x1), (3, .int x3)]) d_Co_seekBestRule_86 rfl ci_1 (Nat.le_of_ble_eq_true rfl) rfl ?_
      refine jm_goto (pc := 89) (tgt := 14) d_Co_seekBestRule_89 (by decide) ?_
      refine jm_sub (L2 := [(0, .ref 48), (1, .int x1), (2, .int (x2 + 1))]) [1, 2, 0] rfl ?_
      exact hk8 x1 (x2 + 1) s
    · refine jm_aload_n (pc := 26) (q := 0) (x := 48) d_Co_seekBestRule_26 rfl ?_
      refine jm_iload_n (pc := 27) (q := 2) (x := x2) d_Co_seekBestRule_27 rfl ?_
      refine jm_iload_n (pc := 28) (q := 3) (x := x3) d_Co_seekBestRule_28 rfl ?_
      refine jm_Vv (pc := 29) (Y' := mY_Co_ruleAllBy) (i := 48) (avs := [.int x2, .int x3]) (rest := []) (s_Co_ruleAllBy_ok s x2 x3) ok_Co_ruleAllBy l0_Co_seekBestRule__Co_ruleAllBy ml_Co_103 im_Co_ruleAllBy se_Co_ruleAllBy d_Co_seekBestRule_29 rfl sh_48 rfl rfl ge_48 le_48_78 rfl (Nat.le_of_ble_eq_true rfl) (Nat.le_of_ble_eq_true rfl) (Nat.le_of_ble_eq_true rfl) (Nat.le_of_ble_eq_true rfl) (fun s3 => ?_)
      refine jm_aload_n (pc := 32) (q := 0) (x := 48) d_Co_seekBestRule_32 rfl ?_
      refine jm_iload_n (pc := 33) (q := 1) (x := x1) d_Co_seekBestRule_33 rfl ?_
      refine jm_Vi (pc := 34) (Y' := mY_Co_latestIfBorne) (i := 48) (avs := [.int x1]) (rest := []) (s_Co_latestIfBorne_ok s3 x1) ok_Co_latestIfBorne l0_Co_seekBestRule__Co_latestIfBorne ml_Co_100 im_Co_latestIfBorne se_Co_latestIfBorne d_Co_seekBestRule_34 rfl sh_48 rfl rfl ge_48 le_48_78 rfl (Nat.le_of_ble_eq_true rfl) (Nat.le_of_ble_eq_true rfl) (Nat.le_of_ble_eq_true rfl) (Nat.le_of_ble_eq_true rfl) (fun v4 s5 => ?_)
      refine jm_istore (pc := 37) (L2 := [(4, .int v4), (0, .ref 48), (1, .int x1), (2, .int x2), (3, .int x3)]) d_Co_seekBestRule_37 (Nat.le_of_ble_eq_true rfl) rfl ?_
      refine jm_iload (pc := 39) (q := 0) (x := v4) d_Co_seekBestRule_39 rfl ?_
      refine jm_bipush (pc := 41) (v := (-4)) d_Co_seekBestRule_41 cb_m4 ?_
      refine jm_icmp_eq (pc := 43) (tgt := 80) d_Co_seekBestRule_43 (by decide) ?_ ?_
      · refine jm_iinc (pc := 80) (q := 4) (x := x3) (v := 1) (L2 := [(3, .int (x3 + 1)), (4, .int v4), (0, .ref 48), (1, .int x1), (2, .int x2)]) d_Co_seekBestRule_80 rfl ci_1 (Nat.le_of_ble_eq_true rfl) rfl ?_
        refine jm_goto (pc := 83) (tgt := 21) d_Co_seekBestRule_83 (by decide) ?_
        refine jm_sub (L2 := [(0, .ref 48), (1, .int x1), (2, .int x2), (3, .int (x3 + 1))]) [2, 3, 4, 0] rfl ?_
        exact ih x1 x2 (x3 + 1) s5
      · refine jm_aload_n (pc := 46) (q := 1) (x := 48) d_Co_seekBestRule_46 rfl ?_
        refine jm_gi (pc := 47) (i := 48) d_Co_seekBestRule_47 fo_Co_15 sh_48 ge_48 le_48_78 rfl (fun _ => rfl) ?_
        refine jm_bipush (pc := 50) (v := (-4)) d_Co_seekBestRule_50 cb_m4 ?_
        refine jm_icmp_eq (pc := 52) (tgt := 64) d_Co_seekBestRule_52 (by decide) ?_ ?_
        · refine jm_sub (L2 := [(0, .ref 48), (1, .int x1), (2, .int x2), (3, .int x3), (4, .int v4)]) [1, 2, 3, 4, 0] rfl ?_
          exact s_Co_seekBestRule_J64_ok hk8 ih x1 x2 x3 v4 s5
        · refine jm_iload (pc := 55) (q := 0) (x := v4) d_Co_seekBestRule_55 rfl ?_
          refine jm_aload_n (pc := 57) (q := 1) (x := 48) d_Co_seekBestRule_57 rfl ?_
          refine jm_gi (pc := 58) (i := 48) d_Co_seekBestRule_58 fo_Co_15 sh_48 ge_48 le_48_78 rfl (fun _ => rfl) ?_
          refine jm_icmp_ge (pc := 61) (tgt := 80) d_Co_seekBestRule_61 (by decide) ?_ ?_
          · refine jm_iinc (pc := 80) (q := 4) (x := x3) (v := 1) (L2 := [(3, .int (x3 + 1)), (4, .int v4), (0, .ref 48), (1, .int x1), (2, .int x2)]) d_Co_seekBestRule_80 rfl ci_1 (Nat.le_of_ble_eq_true rfl) rfl ?_
            refine jm_goto (pc := 83) (tgt := 21) d_Co_seekBestRule_83 (by decide) ?_
            refine jm_sub (L2 := [(0, .ref 48), (1, .int x1), (2, .int x2), (3, .int (x3 + 1))]) [2, 3, 4, 0] rfl ?_
            exact ih x1 x2 (x3 + 1) s5
          · refine jm_sub (L2 := [(0, .ref 48), (1, .int x1), (2, .int x2), (3, .int x3), (4, .int v4)]) [1, 2, 3, 4, 0] rfl ?_
            exact s_Co_seekBestRule_J64_ok hk8 ih x1 x2 x3 v4 s5
def s_Co_seekBestRule_L14 : Nat → Int32 → Int32 → jm_M → Option jm_M
  | 0, _, _, _ => none
  | n + 1, x1, x2, s => (if 4 < x2 then (some s) else s_Co_seekBestRule_L21 (s_Co_seekBestRule_L14 n) 5000 x1 x2 1 s)
set_option maxRecDepth 100000 in
set_option maxHeartbeats 4000000 in
theorem s_Co_seekBestRule_L14_ok : ∀ (n : Nat) (x1 : Int32) (x2 : Int32) (s : jm_M), jm_Sim mY_Co_seekBestRule 0 0 14 [(0, .ref 48), (1, .int x1), (2, .int x2)] [] 78 mr_154 s (s_Co_seekBestRule_L14 n x1 x2 s) (jm_rV 78 mr_154) := by
  intro n
  induction n with
  | zero => intro x1 x2 s; exact jm_none
  | succ n ih =>
    intro x1 x2 s
    rw [s_Co_seekBestRule_L14]
    refine jm_iload_n (pc := 14) (q := 2) (x := x2) d_Co_seekBestRule_14 rfl ?_
    refine jm_iconst (pc := 15) (v := 4) d_Co_seekBestRule_15 ci_4 ?_
    refine jm_icmp_gt (pc := 16) (tgt := 92) d_Co_seekBestRule_16 (by decide) ?_ ?_
    · exact jm_vret (pc := 92) d_Co_seekBestRule_92 rfl rfl rfl rfl
    · refine jm_iconst (pc := 19) (v := 1) d_Co_seekBestRule_19 ci_1 ?_
      refine jm_istore_n (pc := 20) (i := 3) (L2 := [(3, .int 1), (0, .ref 48), (1, .int x1), (2, .int x2)]) d_Co_seekBestRule_20 rfl (Nat.le_of_ble_eq_true rfl) rfl ?_
      refine jm_sub (L2 := [(0, .ref 48), (1, .int x1), (2, .int x2), (3, .int 1)]) [1, 2, 3, 0] rfl ?_
      exact s_Co_seekBestRule_L21_ok ih 5000 x1 x2 1 s
def s_Co_seekBestRule (s : jm_M) (a0 : Int32) : Option jm_M := jm_ev (jm_si s 48 0 (-4)) (fun s1 => jm_ev (jm_si s1 48 1 (-4)) (fun s2 => s_Co_seekBestRule_L14 5000 a0 1 s2))
set_option maxRecDepth 100000 in
set_option maxHeartbeats 4000000 in
theorem s_Co_seekBestRule_ok (s : jm_M) (a0 : Int32) : jm_Sim mY_Co_seekBestRule 0 0 0 [(0, .ref 48), (1, .int a0)] [] 78 mr_154 s (s_Co_seekBestRule s a0) (jm_rV 78 mr_154) := by
  unfold s_Co_seekBestRule
  refine jm_aload_n (pc := 0) (q := 0) (x := 48) d_Co_seekBestRule_0 rfl ?_
  refine jm_bipush (pc := 1) (v := (-4)) d_Co_seekBestRule_1 cb_m4 ?_
  refine jm_pi (pc := 3) (i := 48) d_Co_seekBestRule_3 fp_Co_9 sh_48 ge_48 le_48_78 rfl rfl rfl (fun _ _ _ => rfl) (fun s1 => ?_)
  refine jm_aload_n (pc := 6) (q := 0) (x := 48) d_Co_seekBestRule_6 rfl ?_
  refine jm_bipush (pc := 7) (v := (-4)) d_Co_seekBestRule_7 cb_m4 ?_
  refine jm_pi (pc := 9) (i := 48) d_Co_seekBestRule_9 fp_Co_15 sh_48 ge_48 le_48_78 rfl rfl rfl (fun _ _ _ => rfl) (fun s2 => ?_)
  refine jm_iconst (pc := 12) (v := 1) d_Co_seekBestRule_12 ci_1 ?_
  refine jm_istore_n (pc := 13) (i := 2) (L2 := [(2, .int 1), (0, .ref 48), (1, .int a0)]) d_Co_seekBestRule_13 rfl (Nat.le_of_ble_eq_true rfl) rfl ?_
  refine jm_sub (L2 := [(0, .ref 48), (1, .int a0), (2, .int 1)]) [1, 2, 0] rfl ?_
  exact s_Co_seekBestRule_L14_ok 5000 a0 1 s2
theorem d_X_bestRule_0 : decode (jm_cd mY_X_bestRule) 0 = .ok (.iload_n 1, 1) := by decide +kernel
theorem d_X_bestRule_1 : decode (jm_cd mY_X_bestRule) 1 = .ok (.invokestatic 158, 3) := by decide +kernel
theorem d_X_bestRule_4 : decode (jm_cd mY_X_bestRule) 4 = .ok (.ifCond .eq 12, 3) := by decide +kernel
theorem d_X_bestRule_7 : decode (jm_cd mY_X_bestRule) 7 = .ok (.iload_n 2, 1) := by decide +kernel
theorem d_X_bestRule_8 : decode (jm_cd mY_X_bestRule) 8 = .ok (.ifCond .lt 8, 3) := by decide +kernel
theorem d_X_bestRule_11 : decode (jm_cd mY_X_bestRule) 11 = .ok (.iload_n 2, 1) := by decide +kernel
theorem d_X_bestRule_12 : decode (jm_cd mY_X_bestRule) 12 = .ok (.iconst 1, 1) := by decide +kernel
theorem d_X_bestRule_13 : decode (jm_cd mY_X_bestRule) 13 = .ok (.if_icmp .le 5, 3) := by decide +kernel
theorem d_X_bestRule_16 : decode (jm_cd mY_X_bestRule) 16 = .ok (.iconst (-1), 1) := by decide +kernel
theorem d_X_bestRule_17 : decode (jm_cd mY_X_bestRule) 17 = .ok (.ireturn, 1) := by decide +kernel
theorem d_X_bestRule_18 : decode (jm_cd mY_X_bestRule) 18 = .ok (.aload_n 0, 1) := by decide +kernel
theorem d_X_bestRule_19 : decode (jm_cd mY_X_bestRule) 19 = .ok (.getfield 31, 3) := by decide +kernel
theorem d_X_bestRule_22 : decode (jm_cd mY_X_bestRule) 22 = .ok (.invokevirtual 141, 3) := by decide +kernel
theorem d_X_bestRule_25 : decode (jm_cd mY_X_bestRule) 25 = .ok (.ifCond .ne 6, 3) := by decide +kernel
theorem d_X_bestRule_28 : decode (jm_cd mY_X_bestRule) 28 = .ok (.bipush (-2), 2) := by decide +kernel
theorem d_X_bestRule_30 : decode (jm_cd mY_X_bestRule) 30 = .ok (.ireturn, 1) := by decide +kernel
theorem d_X_bestRule_31 : decode (jm_cd mY_X_bestRule) 31 = .ok (.aload_n 0, 1) := by decide +kernel
theorem d_X_bestRule_32 : decode (jm_cd mY_X_bestRule) 32 = .ok (.getfield 57, 3) := by decide +kernel
theorem d_X_bestRule_35 : decode (jm_cd mY_X_bestRule) 35 = .ok (.aload_n 0, 1) := by decide +kernel
theorem d_X_bestRule_36 : decode (jm_cd mY_X_bestRule) 36 = .ok (.getfield 31, 3) := by decide +kernel
theorem d_X_bestRule_39 : decode (jm_cd mY_X_bestRule) 39 = .ok (.invokevirtual 152, 3) := by decide +kernel
theorem d_X_bestRule_42 : decode (jm_cd mY_X_bestRule) 42 = .ok (.aload_n 0, 1) := by decide +kernel
theorem d_X_bestRule_43 : decode (jm_cd mY_X_bestRule) 43 = .ok (.getfield 57, 3) := by decide +kernel
theorem d_X_bestRule_46 : decode (jm_cd mY_X_bestRule) 46 = .ok (.iload_n 1, 1) := by decide +kernel
theorem d_X_bestRule_47 : decode (jm_cd mY_X_bestRule) 47 = .ok (.invokevirtual 183, 3) := by decide +kernel
theorem d_X_bestRule_50 : decode (jm_cd mY_X_bestRule) 50 = .ok (.iload_n 2, 1) := by decide +kernel
theorem d_X_bestRule_51 : decode (jm_cd mY_X_bestRule) 51 = .ok (.ifCond .ne 13, 3) := by decide +kernel
theorem d_X_bestRule_54 : decode (jm_cd mY_X_bestRule) 54 = .ok (.aload_n 0, 1) := by decide +kernel
theorem d_X_bestRule_55 : decode (jm_cd mY_X_bestRule) 55 = .ok (.getfield 57, 3) := by decide +kernel
theorem d_X_bestRule_58 : decode (jm_cd mY_X_bestRule) 58 = .ok (.getfield 187, 3) := by decide +kernel
theorem d_X_bestRule_61 : decode (jm_cd mY_X_bestRule) 61 = .ok (.goto 10, 3) := by decide +kernel
theorem d_X_bestRule_64 : decode (jm_cd mY_X_bestRule) 64 = .ok (.aload_n 0, 1) := by decide +kernel
theorem d_X_bestRule_65 : decode (jm_cd mY_X_bestRule) 65 = .ok (.getfield 57, 3) := by decide +kernel
theorem d_X_bestRule_68 : decode (jm_cd mY_X_bestRule) 68 = .ok (.getfield 190, 3) := by decide +kernel
theorem d_X_bestRule_71 : decode (jm_cd mY_X_bestRule) 71 = .ok (.ireturn, 1) := by decide +kernel
def s_X_bestRule (s : jm_M) (a0 : Int32) (a1 : Int32) : Option (Int32 × jm_M) := jm_bd (s_X_isNumberOfLiars s a0) (fun v1 => (if v1 = 0 then (some ((-1), s)) else (if a1 < 0 then (some ((-1), s)) else (if a1 ≤ 1 then jm_bd (s_Ne_hasEar_15 s) (fun v2 => (if v2 = 0 then (some ((-2), s)) else jm_bd (s_Co_study_48_15 s) (fun s3 => jm_bd (s_Co_seekBestRule s3 a0) (fun s4 => (if a1 = 0 then (some (s4.1 48 0, s4)) else (some (s4.1 48 1, s4))))))) else (some ((-1), s))))))
set_option maxRecDepth 100000 in
set_option maxHeartbeats 4000000 in
theorem s_X_bestRule_ok (s : jm_M) (a0 : Int32) (a1 : Int32) : jm_Sim mY_X_bestRule 0 0 0 [(0, .ref 1), (1, .int a0), (2, .int a1)] [] 78 mr_154 s (s_X_bestRule s a0 a1) (jm_rP 78 mr_154) := by
  unfold s_X_bestRule
  refine jm_iload_n (pc := 0) (q := 1) (x := a0) d_X_bestRule_0 rfl ?_
  refine jm_Sp (pc := 1) (Y' := mY_X_isNumberOfLiars) (avs := [.int a0]) (rest := []) (s_X_isNumberOfLiars_ok s a0) ok_X_isNumberOfLiars l0_X_bestRule__X_isNumberOfLiars ml_X_158 sm_X_isNumberOfLiars d_X_bestRule_1 rfl rfl (Nat.le_of_ble_eq_true rfl) (Nat.le_of_ble_eq_true rfl) (Nat.le_of_ble_eq_true rfl) (Nat.le_of_ble_eq_true rfl) (fun v1 => ?_)
  refine jm_if_eq (pc := 4) (tgt := 16) d_X_bestRule_4 (by decide) ?_ ?_
  · refine jm_iconst (pc := 16) (v := (-1)) d_X_bestRule_16 ci_m1 ?_
    exact jm_iret (pc := 17) (x := (-1)) d_X_bestRule_17 rfl rfl rfl rfl rfl
  · refine jm_iload_n (pc := 7) (q := 2) (x := a1) d_X_bestRule_7 rfl ?_
    refine jm_if_lt (pc := 8) (tgt := 16) d_X_bestRule_8 (by decide) ?_ ?_
    · refine jm_iconst (pc := 16) (v := (-1)) d_X_bestRule_16 ci_m1 ?_
      exact jm_iret (pc := 17) (x := (-1)) d_X_bestRule_17 rfl rfl rfl rfl rfl
    · refine jm_iload_n (pc := 11) (q := 2) (x := a1) d_X_bestRule_11 rfl ?_
      refine jm_iconst (pc := 12) (v := 1) d_X_bestRule_12 ci_1 ?_
      refine jm_icmp_le (pc := 13) (tgt := 18) d_X_bestRule_13 (by decide) ?_ ?_
      · refine jm_aload_n (pc := 18) (q := 0) (x := 1) d_X_bestRule_18 rfl ?_
        refine jm_gr (pc := 19) (i := 1) d_X_bestRule_19 fo_X_31 sh_1 ge_1 le_1_78 rfl (fun _ => rfl) mr_154_1_4 ge_15 ?_
        refine jm_Vp (pc := 22) (Y' := mY_Ne_hasEar) (i := 15) (avs := []) (rest := []) (s_Ne_hasEar_15_ok s) ok_Ne_hasEar l0_X_bestRule__Ne_hasEar ml_X_141 im_Ne_hasEar se_Ne_hasEar d_X_bestRule_22 rfl sh_15 rfl rfl ge_15 le_15_78 rfl (Nat.le_of_ble_eq_true rfl) (Nat.le_of_ble_eq_true rfl) (Nat.le_of_ble_eq_true rfl) (Nat.le_of_ble_eq_true rfl) (fun v2 => ?_)
        refine jm_if_ne (pc := 25) (tgt := 31) d_X_bestRule_25 (by decide) ?_ ?_
        · refine jm_bipush (pc := 28) (v := (-2)) d_X_bestRule_28 cb_m2 ?_
          exact jm_iret (pc := 30) (x := (-2)) d_X_bestRule_30 rfl rfl rfl rfl rfl
        · refine jm_aload_n (pc := 31) (q := 0) (x := 1) d_X_bestRule_31 rfl ?_
          refine jm_gr (pc := 32) (i := 1) d_X_bestRule_32 fo_X_57 sh_1 ge_1 le_1_78 rfl (fun _ => rfl) mr_154_1_10 ge_48 ?_
          refine jm_aload_n (pc := 35) (q := 0) (x := 1) d_X_bestRule_35 rfl ?_
          refine jm_gr (pc := 36) (i := 1) d_X_bestRule_36 fo_X_31 sh_1 ge_1 le_1_78 rfl (fun _ => rfl) mr_154_1_4 ge_15 ?_
          refine jm_Vv (pc := 39) (Y' := mY_Co_study) (i := 48) (avs := [.ref 15]) (rest := []) (s_Co_study_48_15_ok s) ok_Co_study l0_X_bestRule__Co_study ml_X_152 im_Co_study se_Co_study d_X_bestRule_39 rfl sh_48 rfl rfl ge_48 le_48_78 rfl (Nat.le_of_ble_eq_true rfl) (Nat.le_of_ble_eq_true rfl) (Nat.le_of_ble_eq_true rfl) (Nat.le_of_ble_eq_true rfl) (fun s3 => ?_)
          refine jm_aload_n (pc := 42) (q := 0) (x := 1) d_X_bestRule_42 rfl ?_
          refine jm_gr (pc := 43) (i := 1) d_X_bestRule_43 fo_X_57 sh_1 ge_1 le_1_78 rfl (fun _ => rfl) mr_154_1_10 ge_48 ?_
          refine jm_iload_n (pc := 46) (q := 1) (x := a0) d_X_bestRule_46 rfl ?_
          refine jm_Vv (pc := 47) (Y' := mY_Co_seekBestRule) (i := 48) (avs := [.int a0]) (rest := []) (s_Co_seekBestRule_ok s3 a0) ok_Co_seekBestRule l0_X_bestRule__Co_seekBestRule ml_X_183 im_Co_seekBestRule se_Co_seekBestRule d_X_bestRule_47 rfl sh_48 rfl rfl ge_48 le_48_78 rfl (Nat.le_of_ble_eq_true rfl) (Nat.le_of_ble_eq_true rfl) (Nat.le_of_ble_eq_true rfl) (Nat.le_of_ble_eq_true rfl) (fun s4 => ?_)
          refine jm_iload_n (pc := 50) (q := 2) (x := a1) d_X_bestRule_50 rfl ?_
          refine jm_if_ne (pc := 51) (tgt := 64) d_X_bestRule_51 (by decide) ?_ ?_
          · refine jm_aload_n (pc := 54) (q := 0) (x := 1) d_X_bestRule_54 rfl ?_
            refine jm_gr (pc := 55) (i := 1) d_X_bestRule_55 fo_X_57 sh_1 ge_1 le_1_78 rfl (fun _ => rfl) mr_154_1_10 ge_48 ?_
            refine jm_gi (pc := 58) (i := 48) d_X_bestRule_58 fo_X_187 sh_48 ge_48 le_48_78 rfl (fun _ => rfl) ?_
            refine jm_goto (pc := 61) (tgt := 71) d_X_bestRule_61 (by decide) ?_
            exact jm_iret (pc := 71) (x := s4.1 48 0) d_X_bestRule_71 rfl rfl rfl rfl rfl
          · refine jm_aload_n (pc := 64) (q := 0) (x := 1) d_X_bestRule_64 rfl ?_
            refine jm_gr (pc := 65) (i := 1) d_X_bestRule_65 fo_X_57 sh_1 ge_1 le_1_78 rfl (fun _ => rfl) mr_154_1_10 ge_48 ?_
            refine jm_gi (pc := 68) (i := 48) d_X_bestRule_68 fo_X_190 sh_48 ge_48 le_48_78 rfl (fun _ => rfl) ?_
            exact jm_iret (pc := 71) (x := s4.1 48 1) d_X_bestRule_71 rfl rfl rfl rfl rfl
      · refine jm_iconst (pc := 16) (v := (-1)) d_X_bestRule_16 ci_m1 ?_
        exact jm_iret (pc := 17) (x := (-1)) d_X_bestRule_17 rfl rfl rfl rfl rfl
theorem d_Z_bestRule_0 : decode (jm_cd mY_Z_bestRule) 0 = .ok (.iload_n 1, 1) := by decide +kernel
theorem d_Z_bestRule_1 : decode (jm_cd mY_Z_bestRule) 1 = .ok (.i2l, 1) := by decide +kernel
theorem d_Z_bestRule_2 : decode (jm_cd mY_Z_bestRule) 2 = .ok (.lconst 0, 1) := by decide +kernel
theorem d_Z_bestRule_3 : decode (jm_cd mY_Z_bestRule) 3 = .ok (.ldc2_w 103, 3) := by decide +kernel
theorem d_Z_bestRule_6 : decode (jm_cd mY_Z_bestRule) 6 = .ok (.invokestatic 69, 3) := by decide +kernel
theorem d_Z_bestRule_9 : decode (jm_cd mY_Z_bestRule) 9 = .ok (.ifCond .eq 13, 3) := by decide +kernel
theorem d_Z_bestRule_12 : decode (jm_cd mY_Z_bestRule) 12 = .ok (.iload_n 2, 1) := by decide +kernel
theorem d_Z_bestRule_13 : decode (jm_cd mY_Z_bestRule) 13 = .ok (.i2l, 1) := by decide +kernel
theorem d_Z_bestRule_14 : decode (jm_cd mY_Z_bestRule) 14 = .ok (.lconst 0, 1) := by decide +kernel
theorem d_Z_bestRule_15 : decode (jm_cd mY_Z_bestRule) 15 = .ok (.lconst 1, 1) := by decide +kernel
theorem d_Z_bestRule_16 : decode (jm_cd mY_Z_bestRule) 16 = .ok (.invokestatic 69, 3) := by decide +kernel
theorem d_Z_bestRule_19 : decode (jm_cd mY_Z_bestRule) 19 = .ok (.ifCond .ne 5, 3) := by decide +kernel
theorem d_Z_bestRule_22 : decode (jm_cd mY_Z_bestRule) 22 = .ok (.iconst (-1), 1) := by decide +kernel
theorem d_Z_bestRule_23 : decode (jm_cd mY_Z_bestRule) 23 = .ok (.ireturn, 1) := by decide +kernel
theorem d_Z_bestRule_24 : decode (jm_cd mY_Z_bestRule) 24 = .ok (.aload_n 0, 1) := by decide +kernel
theorem d_Z_bestRule_25 : decode (jm_cd mY_Z_bestRule) 25 = .ok (.invokevirtual 168, 3) := by decide +kernel
theorem d_Z_bestRule_28 : decode (jm_cd mY_Z_bestRule) 28 = .ok (.bipush (-4), 2) := by decide +kernel
theorem d_Z_bestRule_30 : decode (jm_cd mY_Z_bestRule) 30 = .ok (.if_icmp .ne 6, 3) := by decide +kernel
theorem d_Z_bestRule_33 : decode (jm_cd mY_Z_bestRule) 33 = .ok (.bipush (-2), 2) := by decide +kernel
theorem d_Z_bestRule_35 : decode (jm_cd mY_Z_bestRule) 35 = .ok (.ireturn, 1) := by decide +kernel
theorem d_Z_bestRule_36 : decode (jm_cd mY_Z_bestRule) 36 = .ok (.aload_n 0, 1) := by decide +kernel
theorem d_Z_bestRule_37 : decode (jm_cd mY_Z_bestRule) 37 = .ok (.invokevirtual 203, 3) := by decide +kernel
theorem d_Z_bestRule_40 : decode (jm_cd mY_Z_bestRule) 40 = .ok (.bipush (-4), 2) := by decide +kernel
theorem d_Z_bestRule_42 : decode (jm_cd mY_Z_bestRule) 42 = .ok (.istore_n 3, 1) := by decide +kernel
theorem d_Z_bestRule_43 : decode (jm_cd mY_Z_bestRule) 43 = .ok (.bipush (-4), 2) := by decide +kernel
theorem d_Z_bestRule_45 : decode (jm_cd mY_Z_bestRule) 45 = .ok (.istore 4, 2) := by decide +kernel
theorem d_Z_bestRule_47 : decode (jm_cd mY_Z_bestRule) 47 = .ok (.iconst 1, 1) := by decide +kernel
theorem d_Z_bestRule_48 : decode (jm_cd mY_Z_bestRule) 48 = .ok (.istore 5, 2) := by decide +kernel
theorem d_Z_bestRule_50 : decode (jm_cd mY_Z_bestRule) 50 = .ok (.iload 5, 2) := by decide +kernel
theorem d_Z_bestRule_52 : decode (jm_cd mY_Z_bestRule) 52 = .ok (.iconst 4, 1) := by decide +kernel
theorem d_Z_bestRule_53 : decode (jm_cd mY_Z_bestRule) 53 = .ok (.if_icmp .gt 77, 3) := by decide +kernel
theorem d_Z_bestRule_56 : decode (jm_cd mY_Z_bestRule) 56 = .ok (.iconst 1, 1) := by decide +kernel
theorem d_Z_bestRule_57 : decode (jm_cd mY_Z_bestRule) 57 = .ok (.istore 6, 2) := by decide +kernel
theorem d_Z_bestRule_59 : decode (jm_cd mY_Z_bestRule) 59 = .ok (.iload 6, 2) := by decide +kernel
theorem d_Z_bestRule_61 : decode (jm_cd mY_Z_bestRule) 61 = .ok (.iconst 3, 1) := by decide +kernel
theorem d_Z_bestRule_62 : decode (jm_cd mY_Z_bestRule) 62 = .ok (.if_icmp .gt 62, 3) := by decide +kernel
theorem d_Z_bestRule_65 : decode (jm_cd mY_Z_bestRule) 65 = .ok (.aload_n 0, 1) := by decide +kernel
theorem d_Z_bestRule_66 : decode (jm_cd mY_Z_bestRule) 66 = .ok (.iload 5, 2) := by decide +kernel
theorem d_Z_bestRule_68 : decode (jm_cd mY_Z_bestRule) 68 = .ok (.putfield 174, 3) := by decide +kernel
theorem d_Z_bestRule_71 : decode (jm_cd mY_Z_bestRule) 71 = .ok (.aload_n 0, 1) := by decide +kernel
theorem d_Z_bestRule_72 : decode (jm_cd mY_Z_bestRule) 72 = .ok (.iload 6, 2) := by decide +kernel
theorem d_Z_bestRule_74 : decode (jm_cd mY_Z_bestRule) 74 = .ok (.putfield 177, 3) := by decide +kernel
theorem d_Z_bestRule_77 : decode (jm_cd mY_Z_bestRule) 77 = .ok (.aload_n 0, 1) := by decide +kernel
theorem d_Z_bestRule_78 : decode (jm_cd mY_Z_bestRule) 78 = .ok (.iload_n 1, 1) := by decide +kernel
theorem d_Z_bestRule_79 : decode (jm_cd mY_Z_bestRule) 79 = .ok (.invokevirtual 225, 3) := by decide +kernel
theorem d_Z_bestRule_82 : decode (jm_cd mY_Z_bestRule) 82 = .ok (.ifCond .eq 36, 3) := by decide +kernel
theorem d_Z_bestRule_85 : decode (jm_cd mY_Z_bestRule) 85 = .ok (.aload_n 0, 1) := by decide +kernel
theorem d_Z_bestRule_86 : decode (jm_cd mY_Z_bestRule) 86 = .ok (.iload_n 1, 1) := by decide +kernel
theorem d_Z_bestRule_87 : decode (jm_cd mY_Z_bestRule) 87 = .ok (.invokevirtual 219, 3) := by decide +kernel
theorem d_Z_bestRule_90 : decode (jm_cd mY_Z_bestRule) 90 = .ok (.istore 7, 2) := by decide +kernel
theorem d_Z_bestRule_92 : decode (jm_cd mY_Z_bestRule) 92 = .ok (.iload_n 3, 1) := by decide +kernel
theorem d_Z_bestRule_93 : decode (jm_cd mY_Z_bestRule) 93 = .ok (.bipush (-4), 2) := by decide +kernel
theorem d_Z_bestRule_95 : decode (jm_cd mY_Z_bestRule) 95 = .ok (.if_icmp .eq 10, 3) := by decide +kernel
theorem d_Z_bestRule_98 : decode (jm_cd mY_Z_bestRule) 98 = .ok (.iload 7, 2) := by decide +kernel
theorem d_Z_bestRule_100 : decode (jm_cd mY_Z_bestRule) 100 = .ok (.iload 4, 2) := by decide +kernel
theorem d_Z_bestRule_102 : decode (jm_cd mY_Z_bestRule) 102 = .ok (.if_icmp .ge 16, 3) := by decide +kernel
theorem d_Z_bestRule_105 : decode (jm_cd mY_Z_bestRule) 105 = .ok (.bipush 10, 2) := by decide +kernel
theorem d_Z_bestRule_107 : decode (jm_cd mY_Z_bestRule) 107 = .ok (.iload 5, 2) := by decide +kernel
theorem d_Z_bestRule_109 : decode (jm_cd mY_Z_bestRule) 109 = .ok (.imul, 1) := by decide +kernel
theorem d_Z_bestRule_110 : decode (jm_cd mY_Z_bestRule) 110 = .ok (.iload 6, 2) := by decide +kernel
theorem d_Z_bestRule_112 : decode (jm_cd mY_Z_bestRule) 112 = .ok (.iadd, 1) := by decide +kernel
theorem d_Z_bestRule_113 : decode (jm_cd mY_Z_bestRule) 113 = .ok (.istore_n 3, 1) := by decide +kernel
theorem d_Z_bestRule_114 : decode (jm_cd mY_Z_bestRule) 114 = .ok (.iload 7, 2) := by decide +kernel
theorem d_Z_bestRule_116 : decode (jm_cd mY_Z_bestRule) 116 = .ok (.istore 4, 2) := by decide +kernel
theorem d_Z_bestRule_118 : decode (jm_cd mY_Z_bestRule) 118 = .ok (.iinc 6 1, 3) := by decide +kernel
theorem d_Z_bestRule_121 : decode (jm_cd mY_Z_bestRule) 121 = .ok (.goto (-62), 3) := by decide +kernel
theorem d_Z_bestRule_124 : decode (jm_cd mY_Z_bestRule) 124 = .ok (.iinc 5 1, 3) := by decide +kernel
theorem d_Z_bestRule_127 : decode (jm_cd mY_Z_bestRule) 127 = .ok (.goto (-77), 3) := by decide +kernel
theorem d_Z_bestRule_130 : decode (jm_cd mY_Z_bestRule) 130 = .ok (.iload_n 2, 1) := by decide +kernel
theorem d_Z_bestRule_131 : decode (jm_cd mY_Z_bestRule) 131 = .ok (.ifCond .ne 7, 3) := by decide +kernel
theorem d_Z_bestRule_134 : decode (jm_cd mY_Z_bestRule) 134 = .ok (.iload_n 3, 1) := by decide +kernel
theorem d_Z_bestRule_135 : decode (jm_cd mY_Z_bestRule) 135 = .ok (.goto 5, 3) := by decide +kernel
theorem d_Z_bestRule_138 : decode (jm_cd mY_Z_bestRule) 138 = .ok (.iload 4, 2) := by decide +kernel
theorem d_Z_bestRule_140 : decode (jm_cd mY_Z_bestRule) 140 = .ok (.ireturn, 1) := by decide +kernel
def s_Z_bestRule_J105 (k28 : Int32 → Int32 → Int32 → Int32 → Int32 → jm_M → Option (Int32 × jm_M)) (k33 : Int32 → Int32 → Int32 → Int32 → Int32 → Int32 → jm_M → Option (Int32 × jm_M)) (x1 : Int32) (x2 : Int32) (x5 : Int32) (x6 : Int32) (x7 : Int32) (s : jm_M) : Option (Int32 × jm_M) := jm_vi ((10 * x5) + x6) (fun v11 => k33 x1 x2 v11 x7 x5 (x6 + 1) s)
set_option maxRecDepth 100000 in
set_option maxHeartbeats 4000000 in
theorem s_Z_bestRule_J105_ok {k28 : Int32 → Int32 → Int32 → Int32 → Int32 → jm_M → Option (Int32 × jm_M)} (hk28 : ∀ (x1 : Int32) (x2 : Int32) (x3 : Int32) (x4 : Int32) (x5 : Int32) (s : jm_M), jm_Sim mY_Z_bestRule 0 0 50 [(0, .ref 59), (1, .int x1), (2, .int x2), (3, .int x3), (4, .int x4), (5, .int x5)] [] 78 mr_154 s (k28 x1 x2 x3 x4 x5 s) (jm_rP 78 mr_154)) {k33 : Int32 → Int32 → Int32 → Int32 → Int32 → Int32 → jm_M → Option (Int32 × jm_M)} (hk33 : ∀ (x1 : Int32) (x2 : Int32) (x3 : Int32) (x4 : Int32) (x5 : Int32) (x6 : Int32) (s : jm_M), jm_Sim mY_Z_bestRule 0 0 59 [(0, .ref 59), (1, .int x1), (2, .int x2), (3, .int x3), (4, .int x4), (5, .int x5), (6, .int x6)] [] 78 mr_154 s (k33 x1 x2 x3 x4 x5 x6 s) (jm_rP 78 mr_154)) (x1 : Int32) (x2 : Int32) (x5 : Int32) (x6 : Int32) (x7 : Int32) (s : jm_M) : jm_Sim mY_Z_bestRule 0 0 105 [(0, .ref 59), (1, .int x1), (2, .int x2), (5, .int x5), (6, .int x6), (7, .int x7)] [] 78 mr_154 s (s_Z_bestRule_J105 k28 k33 x1 x2 x5 x6 x7 s) (jm_rP 78 mr_154) := by
  unfold s_Z_bestRule_J105
  refine jm_bipush (pc := 105) (v := 10) d_Z_bestRule_105 cb_10 ?_
  refine jm_iload (pc := 107) (q := 3) (x := x5) d_Z_bestRule_107 rfl ?_
  refine jm_imul (pc := 109) d_Z_bestRule_109 ?_
  refine jm_iload (pc := 110) (q := 4) (x := x6) d_Z_bestRule_110 rfl ?_
  refine jm_iadd (pc := 112) d_Z_bestRule_112 ?_
  refine jm_nvi (fun v11 => ?_)
  refine jm_istore_n (pc := 113) (i := 3) (L2 := [(3, .int v11), (0, .ref 59), (1, .int x1), (2, .int x2), (5, .int x5), (6, .int x6), (7, .int x7)]) d_Z_bestRule_113 rfl (Nat.le_of_ble_eq_true rfl) rfl ?_
  refine jm_iload (pc := 114) (q := 6) (x := x7) d_Z_bestRule_114 rfl ?_
  refine jm_istore (pc := 116) (L2 := [(4, .int x7), (3, .int v11), (0, .ref 59), (1, .int x1), (2, .int x2), (5, .int x5), (6, .int x6), (7, .int x7)]) d_Z_bestRule_116 (Nat.le_of_ble_eq_true rfl) rfl ?_
  refine jm_iinc (pc := 118) (q := 6) (x := x6) (v := 1) (L2 := [(6, .int (x6 + 1)), (4, .int x7), (3, .int v11), (0, .ref 59), (1, .int x1), (2, .int x2), (5, .int x5), (7, .int x7)]) d_Z_bestRule_118 rfl ci_1 (Nat.le_of_ble_eq_true rfl) rfl ?_
  refine jm_goto (pc := 121) (tgt := 59) d_Z_bestRule_121 (by decide) ?_
  refine jm_sub (L2 := [(0, .ref 59), (1, .int x1), (2, .int x2), (3, .int v11), (4, .int x7), (5, .int x5), (6, .int (x6 + 1))]) [3, 4, 5, 2, 1, 6, 0] rfl ?_
  exact hk33 x1 x2 v11 x7 x5 (x6 + 1) s
def s_Z_bestRule_L59 (k28 : Int32 → Int32 → Int32 → Int32 → Int32 → jm_M → Option (Int32 × jm_M)) : Nat → Int32 → Int32 → Int32 → Int32 → Int32 → Int32 → jm_M → Option (Int32 × jm_M)
  | 0, _, _, _, _, _, _, _ => none
  | n + 1, x1, x2, x3, x4, x5, x6, s => (if 3 < x6 then k28 x1 x2 x3 x4 (x5 + 1) s else jm_ev (jm_si s 59 23 x5) (fun s5 => jm_ev (jm_si s5 59 24 x6) (fun s6 => jm_b2 (s_Z_bearsSo s6 x1) (fun v7 s8 => (if v7 = 0 then s_Z_bestRule_L59 k28 n x1 x2 x3 x4 x5 (x6 + 1) s8 else jm_b2 (s_Z_latest s8 x1) (fun v9 s10 => (if x3 = (-4) then s_Z_bestRule_J105 k28 (s_Z_bestRule_L59 k28 n) x1 x2 x5 x6 v9 s10 else (if x4 ≤ v9 then s_Z_bestRule_L59 k28 n x1 x2 x3 x4 x5 (x6 + 1) s10 else s_Z_bestRule_J105 k28 (s_Z_bestRule_L59 k28 n) x1 x2 x5 x6 v9 s10))))))))
set_option maxRecDepth 100000 in
set_option maxHeartbeats 4000000 in
theorem s_Z_bestRule_L59_ok {k28 : Int32 → Int32 → Int32 → Int32 → Int32 → jm_M → Option (Int32 × jm_M)} (hk28 : ∀ (x1 : Int32) (x2 : Int32) (x3 : Int32) (x4 : Int32) (x5 : Int32) (s : jm_M), jm_Sim mY_Z_bestRule 0 0 50 [(0, .ref 59), (1, .int x1), (2, .int x2), (3, .int x3), (4, .int x4), (5, .int x5)] [] 78 mr_154 s (k28 x1 x2 x3 x4 x5 s) (jm_rP 78 mr_154)) : ∀ (n : Nat) (x1 : Int32) (x2 : Int32) (x3 : Int32) (x4 : Int32) (x5 : Int32) (x6 : Int32) (s : jm_M), jm_Sim mY_Z_bestRule 0 0 59 [(0, .ref 59), (1, .int x1), (2, .int x2), (3, .int x3), (4, .int x4), (5, .int x5), (6, .int x6)] [] 78 mr_154 s (s_Z_bestRule_L59 k28 n x1 x2 x3 x4 x5 x6 s) (jm_rP 78 mr_154) := by
  intro n
  induction n with
  | zero => intro x1 x2 x3 x4 x5 x6 s; exact jm_none
  | succ n ih =>
    intro x1 x2 x3 x4 x5 x6 s
    rw [s_Z_bestRule_L59]
    refine jm_iload (pc := 59) (q := 6) (x := x6) d_Z_bestRule_59 rfl ?_
    refine jm_iconst (pc := 61) (v := 3) d_Z_bestRule_61 ci_3 ?_
    refine jm_icmp_gt (pc := 62) (tgt := 124) d_Z_bestRule_62 (by decide) ?_ ?_
    · refine jm_iinc (pc := 124) (q := 5) (x := x5) (v := 1) (L2 := [(5, .int (x5 + 1)), (0, .ref 59), (1, .int x1), (2, .int x2), (3, .int x3), (4, .int x4), (6, .int x6)]) d_Z_bestRule_124 rfl ci_1 (Nat.le_of_ble_eq_true rfl) rfl ?_
      refine jm_goto (pc := 127) (tgt := 50) d_Z_bestRule_127 (by decide) ?_
      refine jm_sub (L2 := [(0, .ref 59), (1, .int x1), (2, .int x2), (3, .int x3), (4, .int x4), (5, .int (x5 + 1))]) [1, 2, 3, 4, 5, 0] rfl ?_
      exact hk28 x1 x2 x3 x4 (x5 + 1) s
    · refine jm_aload_n (pc := 65) (q := 0) (x := 59) d_Z_bestRule_65 rfl ?_
      refine jm_iload (pc := 66) (q := 5) (x := x5) d_Z_bestRule_66 rfl ?_
      refine jm_pi (pc := 68) (i := 59) d_Z_bestRule_68 fp_Z_174 sh_59 ge_59 le_59_78 rfl rfl rfl (fun _ _ _ => rfl) (fun s5 => ?_)
      refine jm_aload_n (pc := 71) (q := 0) (x := 59) d_Z_bestRule_71 rfl ?_
      refine jm_iload (pc := 72) (q := 6) (x := x6) d_Z_bestRule_72 rfl ?_
      refine jm_pi (pc := 74) (i := 59) d_Z_bestRule_74 fp_Z_177 sh_59 ge_59 le_59_78 rfl rfl rfl (fun _ _ _ => rfl) (fun s6 => ?_)
      refine jm_aload_n (pc := 77) (q := 0) (x := 59) d_Z_bestRule_77 rfl ?_
      refine jm_iload_n (pc := 78) (q := 1) (x := x1) d_Z_bestRule_78 rfl ?_
      refine jm_Vi (pc := 79) (Y' := mY_Z_bearsSo) (i := 59) (avs := [.int x1]) (rest := []) (s_Z_bearsSo_ok s6 x1) ok_Z_bearsSo l0_Z_bestRule__Z_bearsSo ml_Z_225 im_Z_bearsSo se_Z_bearsSo d_Z_bestRule_79 rfl sh_59 rfl rfl ge_59 le_59_78 rfl (Nat.le_of_ble_eq_true rfl) (Nat.le_of_ble_eq_true rfl) (Nat.le_of_ble_eq_true rfl) (Nat.le_of_ble_eq_true rfl) (fun v7 s8 => ?_)
      refine jm_if_eq (pc := 82) (tgt := 118) d_Z_bestRule_82 (by decide) ?_ ?_
      · refine jm_iinc (pc := 118) (q := 6) (x := x6) (v := 1) (L2 := [(6, .int (x6 + 1)), (0, .ref 59), (1, .int x1), (2, .int x2), (3, .int x3), (4, .int x4), (5, .int x5)]) d_Z_bestRule_118 rfl ci_1 (Nat.le_of_ble_eq_true rfl) rfl ?_
        refine jm_goto (pc := 121) (tgt := 59) d_Z_bestRule_121 (by decide) ?_
        refine jm_sub (L2 := [(0, .ref 59), (1, .int x1), (2, .int x2), (3, .int x3), (4, .int x4), (5, .int x5), (6, .int (x6 + 1))]) [1, 2, 3, 4, 5, 6, 0] rfl ?_
        exact ih x1 x2 x3 x4 x5 (x6 + 1) s8
      · refine jm_aload_n (pc := 85) (q := 0) (x := 59) d_Z_bestRule_85 rfl ?_
        refine jm_iload_n (pc := 86) (q := 1) (x := x1) d_Z_bestRule_86 rfl ?_
        refine jm_Vi (pc := 87) (Y' := mY_Z_latest) (i := 59) (avs := [.int x1]) (rest := []) (s_Z_latest_ok s8 x1) ok_Z_latest l0_Z_bestRule__Z_latest ml_Z_219 im_Z_latest se_Z_latest d_Z_bestRule_87 rfl sh_59 rfl rfl ge_59 le_59_78 rfl (Nat.le_of_ble_eq_true rfl) (Nat.le_of_ble_eq_true rfl) (Nat.le_of_ble_eq_true rfl) (Nat.le_of_ble_eq_true rfl) (fun v9 s10 => ?_)
        refine jm_istore (pc := 90) (L2 := [(7, .int v9), (0, .ref 59), (1, .int x1), (2, .int x2), (3, .int x3), (4, .int x4), (5, .int x5), (6, .int x6)]) d_Z_bestRule_90 (Nat.le_of_ble_eq_true rfl) rfl ?_
        refine jm_iload_n (pc := 92) (q := 4) (x := x3) d_Z_bestRule_92 rfl ?_
        refine jm_bipush (pc := 93) (v := (-4)) d_Z_bestRule_93 cb_m4 ?_
        refine jm_icmp_eq (pc := 95) (tgt := 105) d_Z_bestRule_95 (by decide) ?_ ?_
        · refine jm_sub (L2 := [(0, .ref 59), (1, .int x1), (2, .int x2), (5, .int x5), (6, .int x6), (7, .int v9)]) [1, 2, 3, 6, 7, 0] rfl ?_
          exact s_Z_bestRule_J105_ok hk28 ih x1 x2 x5 x6 v9 s10
        · refine jm_iload (pc := 98) (q := 0) (x := v9) d_Z_bestRule_98 rfl ?_
          refine jm_iload (pc := 100) (q := 5) (x := x4) d_Z_bestRule_100 rfl ?_
          refine jm_icmp_ge (pc := 102) (tgt := 118) d_Z_bestRule_102 (by decide) ?_ ?_
          · refine jm_iinc (pc := 118) (q := 7) (x := x6) (v := 1) (L2 := [(6, .int (x6 + 1)), (7, .int v9), (0, .ref 59), (1, .int x1), (2, .int x2), (3, .int x3), (4, .int x4), (5, .int x5)]) d_Z_bestRule_118 rfl ci_1 (Nat.le_of_ble_eq_true rfl) rfl ?_
            refine jm_goto (pc := 121) (tgt := 59) d_Z_bestRule_121 (by decide) ?_
            refine jm_sub (L2 := [(0, .ref 59), (1, .int x1), (2, .int x2), (3, .int x3), (4, .int x4), (5, .int x5), (6, .int (x6 + 1))]) [2, 3, 4, 5, 6, 7, 0] rfl ?_
            exact ih x1 x2 x3 x4 x5 (x6 + 1) s10
          · refine jm_sub (L2 := [(0, .ref 59), (1, .int x1), (2, .int x2), (5, .int x5), (6, .int x6), (7, .int v9)]) [1, 2, 3, 6, 7, 0] rfl ?_
            exact s_Z_bestRule_J105_ok hk28 ih x1 x2 x5 x6 v9 s10
def s_Z_bestRule_L50 : Nat → Int32 → Int32 → Int32 → Int32 → Int32 → jm_M → Option (Int32 × jm_M)
  | 0, _, _, _, _, _, _ => none
  | n + 1, x1, x2, x3, x4, x5, s => (if 4 < x5 then (if x2 = 0 then (some (x3, s)) else (some (x4, s))) else s_Z_bestRule_L59 (s_Z_bestRule_L50 n) 5000 x1 x2 x3 x4 x5 1 s)
set_option maxRecDepth 100000 in
set_option maxHeartbeats 4000000 in
theorem s_Z_bestRule_L50_ok : ∀ (n : Nat) (x1 : Int32) (x2 : Int32) (x3 : Int32) (x4 : Int32) (x5 : Int32) (s : jm_M), jm_Sim mY_Z_bestRule 0 0 50 [(0, .ref 59), (1, .int x1), (2, .int x2), (3, .int x3), (4, .int x4), (5, .int x5)] [] 78 mr_154 s (s_Z_bestRule_L50 n x1 x2 x3 x4 x5 s) (jm_rP 78 mr_154) := by
  intro n
  induction n with
  | zero => intro x1 x2 x3 x4 x5 s; exact jm_none
  | succ n ih =>
    intro x1 x2 x3 x4 x5 s
    rw [s_Z_bestRule_L50]
    refine jm_iload (pc := 50) (q := 5) (x := x5) d_Z_bestRule_50 rfl ?_
    refine jm_iconst (pc := 52) (v := 4) d_Z_bestRule_52 ci_4 ?_
    refine jm_icmp_gt (pc := 53) (tgt := 130) d_Z_bestRule_53 (by decide) ?_ ?_
    · refine jm_iload_n (pc := 130) (q := 2) (x := x2) d_Z_bestRule_130 rfl ?_
      refine jm_if_ne (pc := 131) (tgt := 138) d_Z_bestRule_131 (by decide) ?_ ?_
      · refine jm_iload_n (pc := 134) (q := 3) (x := x3) d_Z_bestRule_134 rfl ?_
        refine jm_goto (pc := 135) (tgt := 140) d_Z_bestRule_135 (by decide) ?_
        exact jm_iret (pc := 140) (x := x3) d_Z_bestRule_140 rfl rfl rfl rfl rfl
      · refine jm_iload (pc := 138) (q := 4) (x := x4) d_Z_bestRule_138 rfl ?_
        exact jm_iret (pc := 140) (x := x4) d_Z_bestRule_140 rfl rfl rfl rfl rfl
    · refine jm_iconst (pc := 56) (v := 1) d_Z_bestRule_56 ci_1 ?_
      refine jm_istore (pc := 57) (L2 := [(6, .int 1), (0, .ref 59), (1, .int x1), (2, .int x2), (3, .int x3), (4, .int x4), (5, .int x5)]) d_Z_bestRule_57 (Nat.le_of_ble_eq_true rfl) rfl ?_
      refine jm_sub (L2 := [(0, .ref 59), (1, .int x1), (2, .int x2), (3, .int x3), (4, .int x4), (5, .int x5), (6, .int 1)]) [1, 2, 3, 4, 5, 6, 0] rfl ?_
      exact s_Z_bestRule_L59_ok ih 5000 x1 x2 x3 x4 x5 1 s
def s_Z_bestRule (s : jm_M) (a0 : Int32) (a1 : Int32) : Option (Int32 × jm_M) := jm_bd (s_Z_in s a0.toInt64 0 9) (fun v1 => (if v1 = 0 then (some ((-1), s)) else jm_bd (s_Z_in s a1.toInt64 0 1) (fun v2 => (if v2 = 0 then (some ((-1), s)) else jm_bd (s_Z_ear s) (fun v3 => (if v3 = (-4) then (some ((-2), s)) else jm_bd (s_Z_asTold s) (fun s4 => s_Z_bestRule_L50 5000 a0 a1 (-4) (-4) 1 s4)))))))
set_option maxRecDepth 100000 in
set_option maxHeartbeats 4000000 in
theorem s_Z_bestRule_ok (s : jm_M) (a0 : Int32) (a1 : Int32) : jm_Sim mY_Z_bestRule 0 0 0 [(0, .ref 59), (1, .int a0), (2, .int a1)] [] 78 mr_154 s (s_Z_bestRule s a0 a1) (jm_rP 78 mr_154) := by
  unfold s_Z_bestRule
  refine jm_iload_n (pc := 0) (q := 1) (x := a0) d_Z_bestRule_0 rfl ?_
  refine jm_i2l (pc := 1) d_Z_bestRule_1 ?_
  refine jm_lconst (pc := 2) (v := 0) d_Z_bestRule_2 cl_0 ?_
  refine jm_ldc2 (pc := 3) (v := 9) d_Z_bestRule_3 kl_Z_103 ?_
  refine jm_Sp (pc := 6) (Y' := mY_Z_in) (avs := [.long a0.toInt64, .long 0, .long 9]) (rest := []) (s_Z_in_ok s a0.toInt64 0 9) ok_Z_in l0_Z_bestRule__Z_in ml_Z_69 sm_Z_in d_Z_bestRule_6 rfl rfl (Nat.le_of_ble_eq_true rfl) (Nat.le_of_ble_eq_true rfl) (Nat.le_of_ble_eq_true rfl) (Nat.le_of_ble_eq_true rfl) (fun v1 => ?_)
  refine jm_if_eq (pc := 9) (tgt := 22) d_Z_bestRule_9 (by decide) ?_ ?_
  · refine jm_iconst (pc := 22) (v := (-1)) d_Z_bestRule_22 ci_m1 ?_
    exact jm_iret (pc := 23) (x := (-1)) d_Z_bestRule_23 rfl rfl rfl rfl rfl
  · refine jm_iload_n (pc := 12) (q := 2) (x := a1) d_Z_bestRule_12 rfl ?_
    refine jm_i2l (pc := 13) d_Z_bestRule_13 ?_
    refine jm_lconst (pc := 14) (v := 0) d_Z_bestRule_14 cl_0 ?_
    refine jm_lconst (pc := 15) (v := 1) d_Z_bestRule_15 cl_1 ?_
    refine jm_Sp (pc := 16) (Y' := mY_Z_in) (avs := [.long a1.toInt64, .long 0, .long 1]) (rest := []) (s_Z_in_ok s a1.toInt64 0 1) ok_Z_in l0_Z_bestRule__Z_in ml_Z_69 sm_Z_in d_Z_bestRule_16 rfl rfl (Nat.le_of_ble_eq_true rfl) (Nat.le_of_ble_eq_true rfl) (Nat.le_of_ble_eq_true rfl) (Nat.le_of_ble_eq_true rfl) (fun v2 => ?_)
    refine jm_if_ne (pc := 19) (tgt := 24) d_Z_bestRule_19 (by decide) ?_ ?_
    · refine jm_iconst (pc := 22) (v := (-1)) d_Z_bestRule_22 ci_m1 ?_
      exact jm_iret (pc := 23) (x := (-1)) d_Z_bestRule_23 rfl rfl rfl rfl rfl
    · refine jm_aload_n (pc := 24) (q := 0) (x := 59) d_Z_bestRule_24 rfl ?_
      refine jm_Vp (pc := 25) (Y' := mY_Z_ear) (i := 59) (avs := []) (rest := []) (s_Z_ear_ok s) ok_Z_ear l0_Z_bestRule__Z_ear ml_Z_168 im_Z_ear se_Z_ear d_Z_bestRule_25 rfl sh_59 rfl rfl ge_59 le_59_78 rfl (Nat.le_of_ble_eq_true rfl) (Nat.le_of_ble_eq_true rfl) (Nat.le_of_ble_eq_true rfl) (Nat.le_of_ble_eq_true rfl) (fun v3 => ?_)
      refine jm_bipush (pc := 28) (v := (-4)) d_Z_bestRule_28 cb_m4 ?_
      refine jm_icmp_ne (pc := 30) (tgt := 36) d_Z_bestRule_30 (by decide) ?_ ?_
      · refine jm_bipush (pc := 33) (v := (-2)) d_Z_bestRule_33 cb_m2 ?_
        exact jm_iret (pc := 35) (x := (-2)) d_Z_bestRule_35 rfl rfl rfl rfl rfl
      · refine jm_aload_n (pc := 36) (q := 0) (x := 59) d_Z_bestRule_36 rfl ?_
        refine jm_Vv (pc := 37) (Y' := mY_Z_asTold) (i := 59) (avs := []) (rest := []) (s_Z_asTold_ok s) ok_Z_asTold l0_Z_bestRule__Z_asTold ml_Z_203 im_Z_asTold se_Z_asTold d_Z_bestRule_37 rfl sh_59 rfl rfl ge_59 le_59_78 rfl (Nat.le_of_ble_eq_true rfl) (Nat.le_of_ble_eq_true rfl) (Nat.le_of_ble_eq_true rfl) (Nat.le_of_ble_eq_true rfl) (fun s4 => ?_)
        refine jm_bipush (pc := 40) (v := (-4)) d_Z_bestRule_40 cb_m4 ?_
        refine jm_istore_n (pc := 42) (i := 3) (L2 := [(3, .int (-4)), (0, .ref 59), (1, .int a0), (2, .int a1)]) d_Z_bestRule_42 rfl (Nat.le_of_ble_eq_true rfl) rfl ?_
        refine jm_bipush (pc := 43) (v := (-4)) d_Z_bestRule_43 cb_m4 ?_
        refine jm_istore (pc := 45) (L2 := [(4, .int (-4)), (3, .int (-4)), (0, .ref 59), (1, .int a0), (2, .int a1)]) d_Z_bestRule_45 (Nat.le_of_ble_eq_true rfl) rfl ?_
        refine jm_iconst (pc := 47) (v := 1) d_Z_bestRule_47 ci_1 ?_
        refine jm_istore (pc := 48) (L2 := [(5, .int 1), (4, .int (-4)), (3, .int (-4)), (0, .ref 59), (1, .int a0), (2, .int a1)]) d_Z_bestRule_48 (Nat.le_of_ble_eq_true rfl) rfl ?_
        refine jm_sub (L2 := [(0, .ref 59), (1, .int a0), (2, .int a1), (3, .int (-4)), (4, .int (-4)), (5, .int 1)]) [3, 4, 5, 2, 1, 0] rfl ?_
        exact s_Z_bestRule_L50_ok 5000 a0 a1 (-4) (-4) 1 s4
theorem d_Co_fewestSpares_0 : decode (jm_cd mY_Co_fewestSpares) 0 = .ok (.aload_n 0, 1) := by decide +kernel
theorem d_Co_fewestSpares_1 : decode (jm_cd mY_Co_fewestSpares) 1 = .ok (.getfield 24, 3) := by decide +kernel
theorem d_Co_fewestSpares_4 : decode (jm_cd mY_Co_fewestSpares) 4 = .ok (.istore_n 3, 1) := by decide +kernel
theorem d_Co_fewestSpares_5 : decode (jm_cd mY_Co_fewestSpares) 5 = .ok (.iconst 0, 1) := by decide +kernel
theorem d_Co_fewestSpares_6 : decode (jm_cd mY_Co_fewestSpares) 6 = .ok (.istore 4, 2) := by decide +kernel
theorem d_Co_fewestSpares_8 : decode (jm_cd mY_Co_fewestSpares) 8 = .ok (.iload 4, 2) := by decide +kernel
theorem d_Co_fewestSpares_10 : decode (jm_cd mY_Co_fewestSpares) 10 = .ok (.bipush 10, 2) := by decide +kernel
theorem d_Co_fewestSpares_12 : decode (jm_cd mY_Co_fewestSpares) 12 = .ok (.if_icmp .gt 76, 3) := by decide +kernel
theorem d_Co_fewestSpares_15 : decode (jm_cd mY_Co_fewestSpares) 15 = .ok (.iconst 0, 1) := by decide +kernel
theorem d_Co_fewestSpares_16 : decode (jm_cd mY_Co_fewestSpares) 16 = .ok (.istore 5, 2) := by decide +kernel
theorem d_Co_fewestSpares_18 : decode (jm_cd mY_Co_fewestSpares) 18 = .ok (.iconst 0, 1) := by decide +kernel
theorem d_Co_fewestSpares_19 : decode (jm_cd mY_Co_fewestSpares) 19 = .ok (.istore 6, 2) := by decide +kernel
theorem d_Co_fewestSpares_21 : decode (jm_cd mY_Co_fewestSpares) 21 = .ok (.iload 6, 2) := by decide +kernel
theorem d_Co_fewestSpares_23 : decode (jm_cd mY_Co_fewestSpares) 23 = .ok (.sipush 1024, 3) := by decide +kernel
theorem d_Co_fewestSpares_26 : decode (jm_cd mY_Co_fewestSpares) 26 = .ok (.if_icmp .ge 56, 3) := by decide +kernel
theorem d_Co_fewestSpares_29 : decode (jm_cd mY_Co_fewestSpares) 29 = .ok (.aload_n 0, 1) := by decide +kernel
theorem d_Co_fewestSpares_30 : decode (jm_cd mY_Co_fewestSpares) 30 = .ok (.iload_n 3, 1) := by decide +kernel
theorem d_Co_fewestSpares_31 : decode (jm_cd mY_Co_fewestSpares) 31 = .ok (.iload 5, 2) := by decide +kernel
theorem d_Co_fewestSpares_33 : decode (jm_cd mY_Co_fewestSpares) 33 = .ok (.ior, 1) := by decide +kernel
theorem d_Co_fewestSpares_34 : decode (jm_cd mY_Co_fewestSpares) 34 = .ok (.putfield 24, 3) := by decide +kernel
theorem d_Co_fewestSpares_37 : decode (jm_cd mY_Co_fewestSpares) 37 = .ok (.iload 5, 2) := by decide +kernel
theorem d_Co_fewestSpares_39 : decode (jm_cd mY_Co_fewestSpares) 39 = .ok (.invokestatic 58, 3) := by decide +kernel
theorem d_Co_fewestSpares_42 : decode (jm_cd mY_Co_fewestSpares) 42 = .ok (.iload 4, 2) := by decide +kernel
theorem d_Co_fewestSpares_44 : decode (jm_cd mY_Co_fewestSpares) 44 = .ok (.if_icmp .ne 16, 3) := by decide +kernel
theorem d_Co_fewestSpares_47 : decode (jm_cd mY_Co_fewestSpares) 47 = .ok (.aload_n 0, 1) := by decide +kernel
theorem d_Co_fewestSpares_48 : decode (jm_cd mY_Co_fewestSpares) 48 = .ok (.iload_n 1, 1) := by decide +kernel
theorem d_Co_fewestSpares_49 : decode (jm_cd mY_Co_fewestSpares) 49 = .ok (.invokevirtual 100, 3) := by decide +kernel
theorem d_Co_fewestSpares_52 : decode (jm_cd mY_Co_fewestSpares) 52 = .ok (.bipush (-4), 2) := by decide +kernel
theorem d_Co_fewestSpares_54 : decode (jm_cd mY_Co_fewestSpares) 54 = .ok (.if_icmp .eq 6, 3) := by decide +kernel
theorem d_Co_fewestSpares_57 : decode (jm_cd mY_Co_fewestSpares) 57 = .ok (.iload 5, 2) := by decide +kernel
theorem d_Co_fewestSpares_59 : decode (jm_cd mY_Co_fewestSpares) 59 = .ok (.ireturn, 1) := by decide +kernel
theorem d_Co_fewestSpares_60 : decode (jm_cd mY_Co_fewestSpares) 60 = .ok (.iload 5, 2) := by decide +kernel
theorem d_Co_fewestSpares_62 : decode (jm_cd mY_Co_fewestSpares) 62 = .ok (.iload_n 2, 1) := by decide +kernel
theorem d_Co_fewestSpares_63 : decode (jm_cd mY_Co_fewestSpares) 63 = .ok (.invokestatic 70, 3) := by decide +kernel
theorem d_Co_fewestSpares_66 : decode (jm_cd mY_Co_fewestSpares) 66 = .ok (.istore 5, 2) := by decide +kernel
theorem d_Co_fewestSpares_68 : decode (jm_cd mY_Co_fewestSpares) 68 = .ok (.iload 5, 2) := by decide +kernel
theorem d_Co_fewestSpares_70 : decode (jm_cd mY_Co_fewestSpares) 70 = .ok (.ifCond .ne 6, 3) := by decide +kernel
theorem d_Co_fewestSpares_73 : decode (jm_cd mY_Co_fewestSpares) 73 = .ok (.goto 9, 3) := by decide +kernel
theorem d_Co_fewestSpares_76 : decode (jm_cd mY_Co_fewestSpares) 76 = .ok (.iinc 6 1, 3) := by decide +kernel
theorem d_Co_fewestSpares_79 : decode (jm_cd mY_Co_fewestSpares) 79 = .ok (.goto (-58), 3) := by decide +kernel
theorem d_Co_fewestSpares_82 : decode (jm_cd mY_Co_fewestSpares) 82 = .ok (.iinc 4 1, 3) := by decide +kernel
theorem d_Co_fewestSpares_85 : decode (jm_cd mY_Co_fewestSpares) 85 = .ok (.goto (-77), 3) := by decide +kernel
theorem d_Co_fewestSpares_88 : decode (jm_cd mY_Co_fewestSpares) 88 = .ok (.bipush (-4), 2) := by decide +kernel
theorem d_Co_fewestSpares_90 : decode (jm_cd mY_Co_fewestSpares) 90 = .ok (.ireturn, 1) := by decide +kernel
def s_Co_fewestSpares_J60 (k5 : Int32 → Int32 → Int32 → Int32 → jm_M → Option (Int32 × jm_M)) (k12 : Int32 → Int32 → Int32 → Int32 → Int32 → Int32 → jm_M → Option (Int32 × jm_M)) (x1 : Int32) (x2 : Int32) (x3 : Int32) (x4 : Int32) (x5 : Int32) (x6 : Int32) (s : jm_M) : Option (Int32 × jm_M) := jm_bd (s_Co_nextSet s x5 x2) (fun v4 => (if v4 = 0 then k5 x1 x2 x3 (x4 + 1) s else k12 x1 x2 x3 x4 v4 (x6 + 1) s))
set_option maxRecDepth 100000 in
set_option maxHeartbeats 4000000 in
theorem s_Co_fewestSpares_J60_ok {k5 : Int32 → Int32 → Int32 → Int32 → jm_M → Option (Int32 × jm_M)} (hk5 : ∀ (x1 : Int32) (x2 : Int32) (x3 : Int32) (x4 : Int32) (s : jm_M), jm_Sim mY_Co_fewestSpares 0 0 8 [(0, .ref 48), (1, .int x1), (2, .int x2), (3, .int x3), (4, .int x4)] [] 78 mr_154 s (k5 x1 x2 x3 x4 s) (jm_rP 78 mr_154)) {k12 : Int32 → Int32 → Int32 → Int32 → Int32 → Int32 → jm_M → Option (Int32 × jm_M)} (hk12 : ∀ (x1 : Int32) (x2 : Int32) (x3 : Int32) (x4 : Int32) (x5 : Int32) (x6 : Int32) (s : jm_M), jm_Sim mY_Co_fewestSpares 0 0 21 [(0, .ref 48), (1, .int x1), (2, .int x2), (3, .int x3), (4, .int x4), (5, .int x5), (6, .int x6)] [] 78 mr_154 s (k12 x1 x2 x3 x4 x5 x6 s) (jm_rP 78 mr_154)) (x1 : Int32) (x2 : Int32) (x3 : Int32) (x4 : Int32) (x5 : Int32) (x6 : Int32) (s : jm_M) : jm_Sim mY_Co_fewestSpares 0 0 60 [(0, .ref 48), (1, .int x1), (2, .int x2), (3, .int x3), (4, .int x4), (5, .int x5), (6, .int x6)] [] 78 mr_154 s (s_Co_fewestSpares_J60 k5 k12 x1 x2 x3 x4 x5 x6 s) (jm_rP 78 mr_154) := by
  unfold s_Co_fewestSpares_J60
  refine jm_iload (pc := 60) (q := 5) (x := x5) d_Co_fewestSpares_60 rfl ?_
  refine jm_iload_n (pc := 62) (q := 2) (x := x2) d_Co_fewestSpares_62 rfl ?_
  refine jm_Sp (pc := 63) (Y' := mY_Co_nextSet) (avs := [.int x5, .int x2]) (rest := []) (s_Co_nextSet_ok s x5 x2) ok_Co_nextSet l0_Co_fewestSpares__Co_nextSet ml_Co_70 sm_Co_nextSet d_Co_fewestSpares_63 rfl rfl (Nat.le_of_ble_eq_true rfl) (Nat.le_of_ble_eq_true rfl) (Nat.le_of_ble_eq_true rfl) (Nat.le_of_ble_eq_true rfl) (fun v4 => ?_)
  refine jm_istore (pc := 66) (L2 := [(5, .int v4), (0, .ref 48), (1, .int x1), (2, .int x2), (3, .int x3), (4, .int x4), (6, .int x6)]) d_Co_fewestSpares_66 (Nat.le_of_ble_eq_true rfl) rfl ?_
  refine jm_iload (pc := 68) (q := 0) (x := v4) d_Co_fewestSpares_68 rfl ?_
  refine jm_if_ne (pc := 70) (tgt := 76) d_Co_fewestSpares_70 (by decide) ?_ ?_
  · refine jm_goto (pc := 73) (tgt := 82) d_Co_fewestSpares_73 (by decide) ?_
    refine jm_iinc (pc := 82) (q := 5) (x := x4) (v := 1) (L2 := [(4, .int (x4 + 1)), (5, .int v4), (0, .ref 48), (1, .int x1), (2, .int x2), (3, .int x3), (6, .int x6)]) d_Co_fewestSpares_82 rfl ci_1 (Nat.le_of_ble_eq_true rfl) rfl ?_
    refine jm_goto (pc := 85) (tgt := 8) d_Co_fewestSpares_85 (by decide) ?_
    refine jm_sub (L2 := [(0, .ref 48), (1, .int x1), (2, .int x2), (3, .int x3), (4, .int (x4 + 1))]) [2, 3, 4, 5, 0] rfl ?_
    exact hk5 x1 x2 x3 (x4 + 1) s
  · refine jm_iinc (pc := 76) (q := 6) (x := x6) (v := 1) (L2 := [(6, .int (x6 + 1)), (5, .int v4), (0, .ref 48), (1, .int x1), (2, .int x2), (3, .int x3), (4, .int x4)]) d_Co_fewestSpares_76 rfl ci_1 (Nat.le_of_ble_eq_true rfl) rfl ?_
    refine jm_goto (pc := 79) (tgt := 21) d_Co_fewestSpares_79 (by decide) ?_
    refine jm_sub (L2 := [(0, .ref 48), (1, .int x1), (2, .int x2), (3, .int x3), (4, .int x4), (5, .int v4), (6, .int (x6 + 1))]) [2, 3, 4, 5, 6, 1, 0] rfl ?_
    exact hk12 x1 x2 x3 x4 v4 (x6 + 1) s
def s_Co_fewestSpares_L21 (k5 : Int32 → Int32 → Int32 → Int32 → jm_M → Option (Int32 × jm_M)) : Nat → Int32 → Int32 → Int32 → Int32 → Int32 → Int32 → jm_M → Option (Int32 × jm_M)
  | 0, _, _, _, _, _, _, _ => none
  | n + 1, x1, x2, x3, x4, x5, x6, s => (if 1024 ≤ x6 then k5 x1 x2 x3 (x4 + 1) s else jm_ev (jm_si s 48 4 (x3 ||| x5)) (fun s2 => jm_bd (s_JI_bitCount s2 x5) (fun v3 => (if v3 = x4 then jm_b2 (s_Co_latestIfBorne s2 x1) (fun v5 s6 => (if v5 = (-4) then s_Co_fewestSpares_J60 k5 (s_Co_fewestSpares_L21 k5 n) x1 x2 x3 x4 x5 x6 s6 else (some (x5, s6)))) else s_Co_fewestSpares_J60 k5 (s_Co_fewestSpares_L21 k5 n) x1 x2 x3 x4 x5 x6 s2))))
set_option maxRecDepth 100000 in
set_option maxHeartbeats 4000000 in
theorem s_Co_fewestSpares_L21_ok {k5 : Int32 → Int32 → Int32 → Int32 → jm_M → Option (Int32 × jm_M)} (hk5 : ∀ (x1 : Int32) (x2 : Int32) (x3 : Int32) (x4 : Int32) (s : jm_M), jm_Sim mY_Co_fewestSpares 0 0 8 [(0, .ref 48), (1, .int x1), (2, .int x2), (3, .int x3), (4, .int x4)] [] 78 mr_154 s (k5 x1 x2 x3 x4 s) (jm_rP 78 mr_154)) : ∀ (n : Nat) (x1 : Int32) (x2 : Int32) (x3 : Int32) (x4 : Int32) (x5 : Int32) (x6 : Int32) (s : jm_M), jm_Sim mY_Co_fewestSpares 0 0 21 [(0, .ref 48), (1, .int x1), (2, .int x2), (3, .int x3), (4, .int x4), (5, .int x5), (6, .int x6)] [] 78 mr_154 s (s_Co_fewestSpares_L21 k5 n x1 x2 x3 x4 x5 x6 s) (jm_rP 78 mr_154) := by
  intro n
  induction n with
  | zero => intro x1 x2 x3 x4 x5 x6 s; exact jm_none
  | succ n ih =>
    intro x1 x2 x3 x4 x5 x6 s
    rw [s_Co_fewestSpares_L21]
    refine jm_iload (pc := 21) (q := 6) (x := x6) d_Co_fewestSpares_21 rfl ?_
    refine jm_sipush (pc := 23) (v := 1024) d_Co_fewestSpares_23 cs_1024 ?_
    refine jm_icmp_ge (pc := 26) (tgt := 82) d_Co_fewestSpares_26 (by decide) ?_ ?_
    · refine jm_iinc (pc := 82) (q := 4) (x := x4) (v := 1) (L2 := [(4, .int (x4 + 1)), (0, .ref 48), (1, .int x1), (2, .int x2), (3, .int x3), (5, .int x5), (6, .int x6)]) d_Co_fewestSpares_82 rfl ci_1 (Nat.le_of_ble_eq_true rfl) rfl ?_
      refine jm_goto (pc := 85) (tgt := 8) d_Co_fewestSpares_85 (by decide) ?_
      refine jm_sub (L2 := [(0, .ref 48), (1, .int x1), (2, .int x2), (3, .int x3), (4, .int (x4 + 1))]) [1, 2, 3, 4, 0] rfl ?_
      exact hk5 x1 x2 x3 (x4 + 1) s
    · refine jm_aload_n (pc := 29) (q := 0) (x := 48) d_Co_fewestSpares_29 rfl ?_
      refine jm_iload_n (pc := 30) (q := 3) (x := x3) d_Co_fewestSpares_30 rfl ?_
      refine jm_iload (pc := 31) (q := 5) (x := x5) d_Co_fewestSpares_31 rfl ?_
      refine jm_ior (pc := 33) d_Co_fewestSpares_33 ?_
      refine jm_pi (pc := 34) (i := 48) d_Co_fewestSpares_34 fp_Co_24 sh_48 ge_48 le_48_78 rfl rfl rfl (fun _ _ _ => rfl) (fun s2 => ?_)
      refine jm_iload (pc := 37) (q := 5) (x := x5) d_Co_fewestSpares_37 rfl ?_
      refine jm_Sp (pc := 39) (Y' := mY_JI_bitCount) (avs := [.int x5]) (rest := []) (s_JI_bitCount_ok s2 x5) ok_JI_bitCount l0_Co_fewestSpares__JI_bitCount ml_Co_58 sm_JI_bitCount d_Co_fewestSpares_39 rfl rfl (Nat.le_of_ble_eq_true rfl) (Nat.le_of_ble_eq_true rfl) (Nat.le_of_ble_eq_true rfl) (Nat.le_of_ble_eq_true rfl) (fun v3 => ?_)
      refine jm_iload (pc := 42) (q := 4) (x := x4) d_Co_fewestSpares_42 rfl ?_
      refine jm_icmp_ne (pc := 44) (tgt := 60) d_Co_fewestSpares_44 (by decide) ?_ ?_
      · refine jm_aload_n (pc := 47) (q := 0) (x := 48) d_Co_fewestSpares_47 rfl ?_
        refine jm_iload_n (pc := 48) (q := 1) (x := x1) d_Co_fewestSpares_48 rfl ?_
        refine jm_Vi (pc := 49) (Y' := mY_Co_latestIfBorne) (i := 48) (avs := [.int x1]) (rest := []) (s_Co_latestIfBorne_ok s2 x1) ok_Co_latestIfBorne l0_Co_fewestSpares__Co_latestIfBorne ml_Co_100 im_Co_latestIfBorne se_Co_latestIfBorne d_Co_fewestSpares_49 rfl sh_48 rfl rfl ge_48 le_48_78 rfl (Nat.le_of_ble_eq_true rfl) (Nat.le_of_ble_eq_true rfl) (Nat.le_of_ble_eq_true rfl) (Nat.le_of_ble_eq_true rfl) (fun v5 s6 => ?_)
        refine jm_bipush (pc := 52) (v := (-4)) d_Co_fewestSpares_52 cb_m4 ?_
        refine jm_icmp_eq (pc := 54) (tgt := 60) d_Co_fewestSpares_54 (by decide) ?_ ?_
        · exact s_Co_fewestSpares_J60_ok hk5 ih x1 x2 x3 x4 x5 x6 s6
        · refine jm_iload (pc := 57) (q := 5) (x := x5) d_Co_fewestSpares_57 rfl ?_
          exact jm_iret (pc := 59) (x := x5) d_Co_fewestSpares_59 rfl rfl rfl rfl rfl
      · exact s_Co_fewestSpares_J60_ok hk5 ih x1 x2 x3 x4 x5 x6 s2
def s_Co_fewestSpares_L8 : Nat → Int32 → Int32 → Int32 → Int32 → jm_M → Option (Int32 × jm_M)
  | 0, _, _, _, _, _ => none
  | n + 1, x1, x2, x3, x4, s => (if 10 < x4 then (some ((-4), s)) else s_Co_fewestSpares_L21 (s_Co_fewestSpares_L8 n) 5000 x1 x2 x3 x4 0 0 s)
set_option maxRecDepth 100000 in
set_option maxHeartbeats 4000000 in
theorem s_Co_fewestSpares_L8_ok : ∀ (n : Nat) (x1 : Int32) (x2 : Int32) (x3 : Int32) (x4 : Int32) (s : jm_M), jm_Sim mY_Co_fewestSpares 0 0 8 [(0, .ref 48), (1, .int x1), (2, .int x2), (3, .int x3), (4, .int x4)] [] 78 mr_154 s (s_Co_fewestSpares_L8 n x1 x2 x3 x4 s) (jm_rP 78 mr_154) := by
  intro n
  induction n with
  | zero => intro x1 x2 x3 x4 s; exact jm_none
  | succ n ih =>
    intro x1 x2 x3 x4 s
    rw [s_Co_fewestSpares_L8]
    refine jm_iload (pc := 8) (q := 4) (x := x4) d_Co_fewestSpares_8 rfl ?_
    refine jm_bipush (pc := 10) (v := 10) d_Co_fewestSpares_10 cb_10 ?_
    refine jm_icmp_gt (pc := 12) (tgt := 88) d_Co_fewestSpares_12 (by decide) ?_ ?_
    · refine jm_bipush (pc := 88) (v := (-4)) d_Co_fewestSpares_88 cb_m4 ?_
      exact jm_iret (pc := 90) (x := (-4)) d_Co_fewestSpares_90 rfl rfl rfl rfl rfl
    · refine jm_iconst (pc := 15) (v := 0) d_Co_fewestSpares_15 ci_0 ?_
      refine jm_istore (pc := 16) (L2 := [(5, .int 0), (0, .ref 48), (1, .int x1), (2, .int x2), (3, .int x3), (4, .int x4)]) d_Co_fewestSpares_16 (Nat.le_of_ble_eq_true rfl) rfl ?_
      refine jm_iconst (pc := 18) (v := 0) d_Co_fewestSpares_18 ci_0 ?_
      refine jm_istore (pc := 19) (L2 := [(6, .int 0), (5, .int 0), (0, .ref 48), (1, .int x1), (2, .int x2), (3, .int x3), (4, .int x4)]) d_Co_fewestSpares_19 (Nat.le_of_ble_eq_true rfl) rfl ?_
      refine jm_sub (L2 := [(0, .ref 48), (1, .int x1), (2, .int x2), (3, .int x3), (4, .int x4), (5, .int 0), (6, .int 0)]) [2, 3, 4, 5, 6, 1, 0] rfl ?_
      exact s_Co_fewestSpares_L21_ok ih 5000 x1 x2 x3 x4 0 0 s
def s_Co_fewestSpares (s : jm_M) (a0 : Int32) (a1 : Int32) : Option (Int32 × jm_M) := jm_vi (s.1 48 4) (fun v1 => s_Co_fewestSpares_L8 5000 a0 a1 v1 0 s)
set_option maxRecDepth 100000 in
set_option maxHeartbeats 4000000 in
theorem s_Co_fewestSpares_ok (s : jm_M) (a0 : Int32) (a1 : Int32) : jm_Sim mY_Co_fewestSpares 0 0 0 [(0, .ref 48), (1, .int a0), (2, .int a1)] [] 78 mr_154 s (s_Co_fewestSpares s a0 a1) (jm_rP 78 mr_154) := by
  unfold s_Co_fewestSpares
  refine jm_aload_n (pc := 0) (q := 0) (x := 48) d_Co_fewestSpares_0 rfl ?_
  refine jm_gi (pc := 1) (i := 48) d_Co_fewestSpares_1 fo_Co_24 sh_48 ge_48 le_48_78 rfl (fun _ => rfl) ?_
  refine jm_nvi (fun v1 => ?_)
  refine jm_istore_n (pc := 4) (i := 3) (L2 := [(3, .int v1), (0, .ref 48), (1, .int a0), (2, .int a1)]) d_Co_fewestSpares_4 rfl (Nat.le_of_ble_eq_true rfl) rfl ?_
  refine jm_iconst (pc := 5) (v := 0) d_Co_fewestSpares_5 ci_0 ?_
  refine jm_istore (pc := 6) (L2 := [(4, .int 0), (3, .int v1), (0, .ref 48), (1, .int a0), (2, .int a1)]) d_Co_fewestSpares_6 (Nat.le_of_ble_eq_true rfl) rfl ?_
  refine jm_sub (L2 := [(0, .ref 48), (1, .int a0), (2, .int a1), (3, .int v1), (4, .int 0)]) [2, 3, 4, 1, 0] rfl ?_
  exact s_Co_fewestSpares_L8_ok 5000 a0 a1 v1 0 s
theorem d_X_added_0 : decode (jm_cd mY_X_added) 0 = .ok (.iload_n 1, 1) := by decide +kernel
theorem d_X_added_1 : decode (jm_cd mY_X_added) 1 = .ok (.invokestatic 158, 3) := by decide +kernel
theorem d_X_added_4 : decode (jm_cd mY_X_added) 4 = .ok (.ifCond .ne 5, 3) := by decide +kernel
theorem d_X_added_7 : decode (jm_cd mY_X_added) 7 = .ok (.iconst (-1), 1) := by decide +kernel
theorem d_X_added_8 : decode (jm_cd mY_X_added) 8 = .ok (.ireturn, 1) := by decide +kernel
theorem d_X_added_9 : decode (jm_cd mY_X_added) 9 = .ok (.aload_n 0, 1) := by decide +kernel
theorem d_X_added_10 : decode (jm_cd mY_X_added) 10 = .ok (.getfield 31, 3) := by decide +kernel
theorem d_X_added_13 : decode (jm_cd mY_X_added) 13 = .ok (.invokevirtual 141, 3) := by decide +kernel
theorem d_X_added_16 : decode (jm_cd mY_X_added) 16 = .ok (.ifCond .ne 6, 3) := by decide +kernel
theorem d_X_added_19 : decode (jm_cd mY_X_added) 19 = .ok (.bipush (-2), 2) := by decide +kernel
theorem d_X_added_21 : decode (jm_cd mY_X_added) 21 = .ok (.ireturn, 1) := by decide +kernel
theorem d_X_added_22 : decode (jm_cd mY_X_added) 22 = .ok (.aload_n 0, 1) := by decide +kernel
theorem d_X_added_23 : decode (jm_cd mY_X_added) 23 = .ok (.getfield 57, 3) := by decide +kernel
theorem d_X_added_26 : decode (jm_cd mY_X_added) 26 = .ok (.aload_n 0, 1) := by decide +kernel
theorem d_X_added_27 : decode (jm_cd mY_X_added) 27 = .ok (.getfield 31, 3) := by decide +kernel
theorem d_X_added_30 : decode (jm_cd mY_X_added) 30 = .ok (.invokevirtual 152, 3) := by decide +kernel
theorem d_X_added_33 : decode (jm_cd mY_X_added) 33 = .ok (.aload_n 0, 1) := by decide +kernel
theorem d_X_added_34 : decode (jm_cd mY_X_added) 34 = .ok (.getfield 57, 3) := by decide +kernel
theorem d_X_added_37 : decode (jm_cd mY_X_added) 37 = .ok (.iload_n 1, 1) := by decide +kernel
theorem d_X_added_38 : decode (jm_cd mY_X_added) 38 = .ok (.aload_n 0, 1) := by decide +kernel
theorem d_X_added_39 : decode (jm_cd mY_X_added) 39 = .ok (.getfield 31, 3) := by decide +kernel
theorem d_X_added_42 : decode (jm_cd mY_X_added) 42 = .ok (.iconst 3, 1) := by decide +kernel
theorem d_X_added_43 : decode (jm_cd mY_X_added) 43 = .ok (.invokevirtual 113, 3) := by decide +kernel
theorem d_X_added_46 : decode (jm_cd mY_X_added) 46 = .ok (.invokevirtual 193, 3) := by decide +kernel
theorem d_X_added_49 : decode (jm_cd mY_X_added) 49 = .ok (.ireturn, 1) := by decide +kernel
def s_X_added (s : jm_M) (a0 : Int32) : Option (Int32 × jm_M) := jm_bd (s_X_isNumberOfLiars s a0) (fun v1 => (if v1 = 0 then (some ((-1), s)) else jm_bd (s_Ne_hasEar_15 s) (fun v2 => (if v2 = 0 then (some ((-2), s)) else jm_bd (s_Co_study_48_15 s) (fun s3 => jm_bd (s_Ne_ofKind_15 s3 3) (fun v4 => jm_b2 (s_Co_fewestSpares s3 a0 v4) (fun v5 s6 => (some (v5, s6)))))))))
set_option maxRecDepth 100000 in
set_option maxHeartbeats 4000000 in
theorem s_X_added_ok (s : jm_M) (a0 : Int32) : jm_Sim mY_X_added 0 0 0 [(0, .ref 1), (1, .int a0)] [] 78 mr_154 s (s_X_added s a0) (jm_rP 78 mr_154) := by
  unfold s_X_added
  refine jm_iload_n (pc := 0) (q := 1) (x := a0) d_X_added_0 rfl ?_
  refine jm_Sp (pc := 1) (Y' := mY_X_isNumberOfLiars) (avs := [.int a0]) (rest := []) (s_X_isNumberOfLiars_ok s a0) ok_X_isNumberOfLiars l0_X_added__X_isNumberOfLiars ml_X_158 sm_X_isNumberOfLiars d_X_added_1 rfl rfl (Nat.le_of_ble_eq_true rfl) (Nat.le_of_ble_eq_true rfl) (Nat.le_of_ble_eq_true rfl) (Nat.le_of_ble_eq_true rfl) (fun v1 => ?_)
  refine jm_if_ne (pc := 4) (tgt := 9) d_X_added_4 (by decide) ?_ ?_
  · refine jm_iconst (pc := 7) (v := (-1)) d_X_added_7 ci_m1 ?_
    exact jm_iret (pc := 8) (x := (-1)) d_X_added_8 rfl rfl rfl rfl rfl
  · refine jm_aload_n (pc := 9) (q := 0) (x := 1) d_X_added_9 rfl ?_
    refine jm_gr (pc := 10) (i := 1) d_X_added_10 fo_X_31 sh_1 ge_1 le_1_78 rfl (fun _ => rfl) mr_154_1_4 ge_15 ?_
    refine jm_Vp (pc := 13) (Y' := mY_Ne_hasEar) (i := 15) (avs := []) (rest := []) (s_Ne_hasEar_15_ok s) ok_Ne_hasEar l0_X_added__Ne_hasEar ml_X_141 im_Ne_hasEar se_Ne_hasEar d_X_added_13 rfl sh_15 rfl rfl ge_15 le_15_78 rfl (Nat.le_of_ble_eq_true rfl) (Nat.le_of_ble_eq_true rfl) (Nat.le_of_ble_eq_true rfl) (Nat.le_of_ble_eq_true rfl) (fun v2 => ?_)
    refine jm_if_ne (pc := 16) (tgt := 22) d_X_added_16 (by decide) ?_ ?_
    · refine jm_bipush (pc := 19) (v := (-2)) d_X_added_19 cb_m2 ?_
      exact jm_iret (pc := 21) (x := (-2)) d_X_added_21 rfl rfl rfl rfl rfl
    · refine jm_aload_n (pc := 22) (q := 0) (x := 1) d_X_added_22 rfl ?_
      refine jm_gr (pc := 23) (i := 1) d_X_added_23 fo_X_57 sh_1 ge_1 le_1_78 rfl (fun _ => rfl) mr_154_1_10 ge_48 ?_
      refine jm_aload_n (pc := 26) (q := 0) (x := 1) d_X_added_26 rfl ?_
      refine jm_gr (pc := 27) (i := 1) d_X_added_27 fo_X_31 sh_1 ge_1 le_1_78 rfl (fun _ => rfl) mr_154_1_4 ge_15 ?_
      refine jm_Vv (pc := 30) (Y' := mY_Co_study) (i := 48) (avs := [.ref 15]) (rest := []) (s_Co_study_48_15_ok s) ok_Co_study l0_X_added__Co_study ml_X_152 im_Co_study se_Co_study d_X_added_30 rfl sh_48 rfl rfl ge_48 le_48_78 rfl (Nat.le_of_ble_eq_true rfl) (Nat.le_of_ble_eq_true rfl) (Nat.le_of_ble_eq_true rfl) (Nat.le_of_ble_eq_true rfl) (fun s3 => ?_)
      refine jm_aload_n (pc := 33) (q := 0) (x := 1) d_X_added_33 rfl ?_
      refine jm_gr (pc := 34) (i := 1) d_X_added_34 fo_X_57 sh_1 ge_1 le_1_78 rfl (fun _ => rfl) mr_154_1_10 ge_48 ?_
      refine jm_iload_n (pc := 37) (q := 1) (x := a0) d_X_added_37 rfl ?_
      refine jm_aload_n (pc := 38) (q := 0) (x := 1) d_X_added_38 rfl ?_
      refine jm_gr (pc := 39) (i := 1) d_X_added_39 fo_X_31 sh_1 ge_1 le_1_78 rfl (fun _ => rfl) mr_154_1_4 ge_15 ?_
      refine jm_iconst (pc := 42) (v := 3) d_X_added_42 ci_3 ?_
      refine jm_Vp (pc := 43) (Y' := mY_Ne_ofKind) (i := 15) (avs := [.int 3]) (rest := [.int a0, .ref 48]) (s_Ne_ofKind_15_ok s3 3) ok_Ne_ofKind l0_X_added__Ne_ofKind ml_X_113 im_Ne_ofKind se_Ne_ofKind d_X_added_43 rfl sh_15 rfl rfl ge_15 le_15_78 rfl (Nat.le_of_ble_eq_true rfl) (Nat.le_of_ble_eq_true rfl) (Nat.le_of_ble_eq_true rfl) (Nat.le_of_ble_eq_true rfl) (fun v4 => ?_)
      refine jm_Vi (pc := 46) (Y' := mY_Co_fewestSpares) (i := 48) (avs := [.int a0, .int v4]) (rest := []) (s_Co_fewestSpares_ok s3 a0 v4) ok_Co_fewestSpares l0_X_added__Co_fewestSpares ml_X_193 im_Co_fewestSpares se_Co_fewestSpares d_X_added_46 rfl sh_48 rfl rfl ge_48 le_48_78 rfl (Nat.le_of_ble_eq_true rfl) (Nat.le_of_ble_eq_true rfl) (Nat.le_of_ble_eq_true rfl) (Nat.le_of_ble_eq_true rfl) (fun v5 s6 => ?_)
      exact jm_iret (pc := 49) (x := v5) d_X_added_49 rfl rfl rfl rfl rfl
theorem d_Z_added_0 : decode (jm_cd mY_Z_added) 0 = .ok (.iload_n 1, 1) := by decide +kernel
theorem d_Z_added_1 : decode (jm_cd mY_Z_added) 1 = .ok (.i2l, 1) := by decide +kernel
theorem d_Z_added_2 : decode (jm_cd mY_Z_added) 2 = .ok (.lconst 0, 1) := by decide +kernel
theorem d_Z_added_3 : decode (jm_cd mY_Z_added) 3 = .ok (.ldc2_w 103, 3) := by decide +kernel
theorem d_Z_added_6 : decode (jm_cd mY_Z_added) 6 = .ok (.invokestatic 69, 3) := by decide +kernel
theorem d_Z_added_9 : decode (jm_cd mY_Z_added) 9 = .ok (.ifCond .ne 5, 3) := by decide +kernel
theorem d_Z_added_12 : decode (jm_cd mY_Z_added) 12 = .ok (.iconst (-1), 1) := by decide +kernel
theorem d_Z_added_13 : decode (jm_cd mY_Z_added) 13 = .ok (.ireturn, 1) := by decide +kernel
theorem d_Z_added_14 : decode (jm_cd mY_Z_added) 14 = .ok (.aload_n 0, 1) := by decide +kernel
theorem d_Z_added_15 : decode (jm_cd mY_Z_added) 15 = .ok (.invokevirtual 168, 3) := by decide +kernel
theorem d_Z_added_18 : decode (jm_cd mY_Z_added) 18 = .ok (.bipush (-4), 2) := by decide +kernel
theorem d_Z_added_20 : decode (jm_cd mY_Z_added) 20 = .ok (.if_icmp .ne 6, 3) := by decide +kernel
theorem d_Z_added_23 : decode (jm_cd mY_Z_added) 23 = .ok (.bipush (-2), 2) := by decide +kernel
theorem d_Z_added_25 : decode (jm_cd mY_Z_added) 25 = .ok (.ireturn, 1) := by decide +kernel
theorem d_Z_added_26 : decode (jm_cd mY_Z_added) 26 = .ok (.aload_n 0, 1) := by decide +kernel
theorem d_Z_added_27 : decode (jm_cd mY_Z_added) 27 = .ok (.invokevirtual 203, 3) := by decide +kernel
theorem d_Z_added_30 : decode (jm_cd mY_Z_added) 30 = .ok (.aload_n 0, 1) := by decide +kernel
theorem d_Z_added_31 : decode (jm_cd mY_Z_added) 31 = .ok (.getfield 171, 3) := by decide +kernel
theorem d_Z_added_34 : decode (jm_cd mY_Z_added) 34 = .ok (.istore_n 2, 1) := by decide +kernel
theorem d_Z_added_35 : decode (jm_cd mY_Z_added) 35 = .ok (.aload_n 0, 1) := by decide +kernel
theorem d_Z_added_36 : decode (jm_cd mY_Z_added) 36 = .ok (.iconst 3, 1) := by decide +kernel
theorem d_Z_added_37 : decode (jm_cd mY_Z_added) 37 = .ok (.invokevirtual 143, 3) := by decide +kernel
theorem d_Z_added_40 : decode (jm_cd mY_Z_added) 40 = .ok (.istore_n 3, 1) := by decide +kernel
theorem d_Z_added_41 : decode (jm_cd mY_Z_added) 41 = .ok (.bipush (-4), 2) := by decide +kernel
theorem d_Z_added_43 : decode (jm_cd mY_Z_added) 43 = .ok (.istore 4, 2) := by decide +kernel
theorem d_Z_added_45 : decode (jm_cd mY_Z_added) 45 = .ok (.iconst 0, 1) := by decide +kernel
theorem d_Z_added_46 : decode (jm_cd mY_Z_added) 46 = .ok (.istore 5, 2) := by decide +kernel
theorem d_Z_added_48 : decode (jm_cd mY_Z_added) 48 = .ok (.iload 5, 2) := by decide +kernel
theorem d_Z_added_50 : decode (jm_cd mY_Z_added) 50 = .ok (.iload_n 3, 1) := by decide +kernel
theorem d_Z_added_51 : decode (jm_cd mY_Z_added) 51 = .ok (.if_icmp .gt 74, 3) := by decide +kernel
theorem d_Z_added_54 : decode (jm_cd mY_Z_added) 54 = .ok (.iload 5, 2) := by decide +kernel
theorem d_Z_added_56 : decode (jm_cd mY_Z_added) 56 = .ok (.iload_n 3, 1) := by decide +kernel
theorem d_Z_added_57 : decode (jm_cd mY_Z_added) 57 = .ok (.iconst (-1), 1) := by decide +kernel
theorem d_Z_added_58 : decode (jm_cd mY_Z_added) 58 = .ok (.ixor, 1) := by decide +kernel
theorem d_Z_added_59 : decode (jm_cd mY_Z_added) 59 = .ok (.iand, 1) := by decide +kernel
theorem d_Z_added_60 : decode (jm_cd mY_Z_added) 60 = .ok (.ifCond .ne 59, 3) := by decide +kernel
theorem d_Z_added_63 : decode (jm_cd mY_Z_added) 63 = .ok (.iload 4, 2) := by decide +kernel
theorem d_Z_added_65 : decode (jm_cd mY_Z_added) 65 = .ok (.bipush (-4), 2) := by decide +kernel
theorem d_Z_added_67 : decode (jm_cd mY_Z_added) 67 = .ok (.if_icmp .eq 16, 3) := by decide +kernel
theorem d_Z_added_70 : decode (jm_cd mY_Z_added) 70 = .ok (.iload 5, 2) := by decide +kernel
theorem d_Z_added_72 : decode (jm_cd mY_Z_added) 72 = .ok (.invokestatic 212, 3) := by decide +kernel
theorem d_Z_added_75 : decode (jm_cd mY_Z_added) 75 = .ok (.iload 4, 2) := by decide +kernel
theorem d_Z_added_77 : decode (jm_cd mY_Z_added) 77 = .ok (.invokestatic 212, 3) := by decide +kernel
theorem d_Z_added_80 : decode (jm_cd mY_Z_added) 80 = .ok (.if_icmp .ge 39, 3) := by decide +kernel
theorem d_Z_added_83 : decode (jm_cd mY_Z_added) 83 = .ok (.aload_n 0, 1) := by decide +kernel
theorem d_Z_added_84 : decode (jm_cd mY_Z_added) 84 = .ok (.iload_n 2, 1) := by decide +kernel
theorem d_Z_added_85 : decode (jm_cd mY_Z_added) 85 = .ok (.iload 5, 2) := by decide +kernel
theorem d_Z_added_87 : decode (jm_cd mY_Z_added) 87 = .ok (.ior, 1) := by decide +kernel
theorem d_Z_added_88 : decode (jm_cd mY_Z_added) 88 = .ok (.putfield 171, 3) := by decide +kernel
theorem d_Z_added_91 : decode (jm_cd mY_Z_added) 91 = .ok (.aload_n 0, 1) := by decide +kernel
theorem d_Z_added_92 : decode (jm_cd mY_Z_added) 92 = .ok (.invokevirtual 228, 3) := by decide +kernel
theorem d_Z_added_95 : decode (jm_cd mY_Z_added) 95 = .ok (.istore 6, 2) := by decide +kernel
theorem d_Z_added_97 : decode (jm_cd mY_Z_added) 97 = .ok (.iload 6, 2) := by decide +kernel
theorem d_Z_added_99 : decode (jm_cd mY_Z_added) 99 = .ok (.bipush (-4), 2) := by decide +kernel
theorem d_Z_added_101 : decode (jm_cd mY_Z_added) 101 = .ok (.if_icmp .eq 14, 3) := by decide +kernel
theorem d_Z_added_104 : decode (jm_cd mY_Z_added) 104 = .ok (.iload 6, 2) := by decide +kernel
theorem d_Z_added_106 : decode (jm_cd mY_Z_added) 106 = .ok (.iload_n 1, 1) := by decide +kernel
theorem d_Z_added_107 : decode (jm_cd mY_Z_added) 107 = .ok (.if_icmp .lt 8, 3) := by decide +kernel
theorem d_Z_added_110 : decode (jm_cd mY_Z_added) 110 = .ok (.iload 5, 2) := by decide +kernel
theorem d_Z_added_112 : decode (jm_cd mY_Z_added) 112 = .ok (.goto 5, 3) := by decide +kernel
theorem d_Z_added_115 : decode (jm_cd mY_Z_added) 115 = .ok (.iload 4, 2) := by decide +kernel
theorem d_Z_added_117 : decode (jm_cd mY_Z_added) 117 = .ok (.istore 4, 2) := by decide +kernel
theorem d_Z_added_119 : decode (jm_cd mY_Z_added) 119 = .ok (.iinc 5 1, 3) := by decide +kernel
theorem d_Z_added_122 : decode (jm_cd mY_Z_added) 122 = .ok (.goto (-74), 3) := by decide +kernel
theorem d_Z_added_125 : decode (jm_cd mY_Z_added) 125 = .ok (.iload 4, 2) := by decide +kernel
theorem d_Z_added_127 : decode (jm_cd mY_Z_added) 127 = .ok (.ireturn, 1) := by decide +kernel
def s_Z_added_J83 (k27 : Int32 → Int32 → Int32 → Int32 → Int32 → jm_M → Option (Int32 × jm_M)) (x1 : Int32) (x2 : Int32) (x3 : Int32) (x4 : Int32) (x5 : Int32) (s : jm_M) : Option (Int32 × jm_M) := jm_ev (jm_si s 59 22 (x2 ||| x5)) (fun s6 => jm_b2 (s_Z_mostBorne s6) (fun v7 s8 => (if v7 = (-4) then k27 x1 x2 x3 x4 (x5 + 1) s8 else (if v7 < x1 then k27 x1 x2 x3 x4 (x5 + 1) s8 else k27 x1 x2 x3 x5 (x5 + 1) s8))))
set_option maxRecDepth 100000 in
set_option maxHeartbeats 4000000 in
theorem s_Z_added_J83_ok {k27 : Int32 → Int32 → Int32 → Int32 → Int32 → jm_M → Option (Int32 × jm_M)} (hk27 : ∀ (x1 : Int32) (x2 : Int32) (x3 : Int32) (x4 : Int32) (x5 : Int32) (s : jm_M), jm_Sim mY_Z_added 0 0 48 [(0, .ref 59), (1, .int x1), (2, .int x2), (3, .int x3), (4, .int x4), (5, .int x5)] [] 78 mr_154 s (k27 x1 x2 x3 x4 x5 s) (jm_rP 78 mr_154)) (x1 : Int32) (x2 : Int32) (x3 : Int32) (x4 : Int32) (x5 : Int32) (s : jm_M) : jm_Sim mY_Z_added 0 0 83 [(0, .ref 59), (1, .int x1), (2, .int x2), (3, .int x3), (4, .int x4), (5, .int x5)] [] 78 mr_154 s (s_Z_added_J83 k27 x1 x2 x3 x4 x5 s) (jm_rP 78 mr_154) := by
  unfold s_Z_added_J83
  refine jm_aload_n (pc := 83) (q := 0) (x := 59) d_Z_added_83 rfl ?_
  refine jm_iload_n (pc := 84) (q := 2) (x := x2) d_Z_added_84 rfl ?_
  refine jm_iload (pc := 85) (q := 5) (x := x5) d_Z_added_85 rfl ?_
  refine jm_ior (pc := 87) d_Z_added_87 ?_
  refine jm_pi (pc := 88) (i := 59) d_Z_added_88 fp_Z_171 sh_59 ge_59 le_59_78 rfl rfl rfl (fun _ _ _ => rfl) (fun s6 => ?_)
  refine jm_aload_n (pc := 91) (q := 0) (x := 59) d_Z_added_91 rfl ?_
  refine jm_Vi (pc := 92) (Y' := mY_Z_mostBorne) (i := 59) (avs := []) (rest := []) (s_Z_mostBorne_ok s6) ok_Z_mostBorne l0_Z_added__Z_mostBorne ml_Z_228 im_Z_mostBorne se_Z_mostBorne d_Z_added_92 rfl sh_59 rfl rfl ge_59 le_59_78 rfl (Nat.le_of_ble_eq_true rfl) (Nat.le_of_ble_eq_true rfl) (Nat.le_of_ble_eq_true rfl) (Nat.le_of_ble_eq_true rfl) (fun v7 s8 => ?_)
  refine jm_istore (pc := 95) (L2 := [(6, .int v7), (0, .ref 59), (1, .int x1), (2, .int x2), (3, .int x3), (4, .int x4), (5, .int x5)]) d_Z_added_95 (Nat.le_of_ble_eq_true rfl) rfl ?_
  refine jm_iload (pc := 97) (q := 0) (x := v7) d_Z_added_97 rfl ?_
  refine jm_bipush (pc := 99) (v := (-4)) d_Z_added_99 cb_m4 ?_
  refine jm_icmp_eq (pc := 101) (tgt := 115) d_Z_added_101 (by decide) ?_ ?_
  · refine jm_iload (pc := 115) (q := 5) (x := x4) d_Z_added_115 rfl ?_
    refine jm_istore (pc := 117) (L2 := [(4, .int x4), (6, .int v7), (0, .ref 59), (1, .int x1), (2, .int x2), (3, .int x3), (5, .int x5)]) d_Z_added_117 (Nat.le_of_ble_eq_true rfl) rfl ?_
    refine jm_iinc (pc := 119) (q := 6) (x := x5) (v := 1) (L2 := [(5, .int (x5 + 1)), (4, .int x4), (6, .int v7), (0, .ref 59), (1, .int x1), (2, .int x2), (3, .int x3)]) d_Z_added_119 rfl ci_1 (Nat.le_of_ble_eq_true rfl) rfl ?_
    refine jm_goto (pc := 122) (tgt := 48) d_Z_added_122 (by decide) ?_
    refine jm_sub (L2 := [(0, .ref 59), (1, .int x1), (2, .int x2), (3, .int x3), (4, .int x4), (5, .int (x5 + 1))]) [3, 4, 5, 6, 1, 0] rfl ?_
    exact hk27 x1 x2 x3 x4 (x5 + 1) s8
  · refine jm_iload (pc := 104) (q := 0) (x := v7) d_Z_added_104 rfl ?_
    refine jm_iload_n (pc := 106) (q := 2) (x := x1) d_Z_added_106 rfl ?_
    refine jm_icmp_lt (pc := 107) (tgt := 115) d_Z_added_107 (by decide) ?_ ?_
    · refine jm_iload (pc := 115) (q := 5) (x := x4) d_Z_added_115 rfl ?_
      refine jm_istore (pc := 117) (L2 := [(4, .int x4), (6, .int v7), (0, .ref 59), (1, .int x1), (2, .int x2), (3, .int x3), (5, .int x5)]) d_Z_added_117 (Nat.le_of_ble_eq_true rfl) rfl ?_
      refine jm_iinc (pc := 119) (q := 6) (x := x5) (v := 1) (L2 := [(5, .int (x5 + 1)), (4, .int x4), (6, .int v7), (0, .ref 59), (1, .int x1), (2, .int x2), (3, .int x3)]) d_Z_added_119 rfl ci_1 (Nat.le_of_ble_eq_true rfl) rfl ?_
      refine jm_goto (pc := 122) (tgt := 48) d_Z_added_122 (by decide) ?_
      refine jm_sub (L2 := [(0, .ref 59), (1, .int x1), (2, .int x2), (3, .int x3), (4, .int x4), (5, .int (x5 + 1))]) [3, 4, 5, 6, 1, 0] rfl ?_
      exact hk27 x1 x2 x3 x4 (x5 + 1) s8
    · refine jm_iload (pc := 110) (q := 6) (x := x5) d_Z_added_110 rfl ?_
      refine jm_goto (pc := 112) (tgt := 117) d_Z_added_112 (by decide) ?_
      refine jm_istore (pc := 117) (L2 := [(4, .int x5), (6, .int v7), (0, .ref 59), (1, .int x1), (2, .int x2), (3, .int x3), (5, .int x5)]) d_Z_added_117 (Nat.le_of_ble_eq_true rfl) rfl ?_
      refine jm_iinc (pc := 119) (q := 6) (x := x5) (v := 1) (L2 := [(5, .int (x5 + 1)), (4, .int x5), (6, .int v7), (0, .ref 59), (1, .int x1), (2, .int x2), (3, .int x3)]) d_Z_added_119 rfl ci_1 (Nat.le_of_ble_eq_true rfl) rfl ?_
      refine jm_goto (pc := 122) (tgt := 48) d_Z_added_122 (by decide) ?_
      refine jm_sub (L2 := [(0, .ref 59), (1, .int x1), (2, .int x2), (3, .int x3), (4, .int x5), (5, .int (x5 + 1))]) [3, 4, 5, 6, 1, 0] rfl ?_
      exact hk27 x1 x2 x3 x5 (x5 + 1) s8
def s_Z_added_L48 : Nat → Int32 → Int32 → Int32 → Int32 → Int32 → jm_M → Option (Int32 × jm_M)
  | 0, _, _, _, _, _, _ => none
  | n + 1, x1, x2, x3, x4, x5, s => (if x3 < x5 then (some (x4, s)) else (if (x5 &&& (x3 ^^^ (-1))) = 0 then (if x4 = (-4) then s_Z_added_J83 (s_Z_added_L48 n) x1 x2 x3 x4 x5 s else jm_bd (s_Z_bits s x5) (fun v9 => jm_bd (s_Z_bits s x4) (fun v10 => (if v10 ≤ v9 then s_Z_added_L48 n x1 x2 x3 x4 (x5 + 1) s else s_Z_added_J83 (s_Z_added_L48 n) x1 x2 x3 x4 x5 s)))) else s_Z_added_L48 n x1 x2 x3 x4 (x5 + 1) s))
set_option maxRecDepth 100000 in
set_option maxHeartbeats 4000000 in
theorem s_Z_added_L48_ok : ∀ (n : Nat) (x1 : Int32) (x2 : Int32) (x3 : Int32) (x4 : Int32) (x5 : Int32) (s : jm_M), jm_Sim mY_Z_added 0 0 48 [(0, .ref 59), (1, .int x1), (2, .int x2), (3, .int x3), (4, .int x4), (5, .int x5)] [] 78 mr_154 s (s_Z_added_L48 n x1 x2 x3 x4 x5 s) (jm_rP 78 mr_154) := by
  intro n
  induction n with
  | zero => intro x1 x2 x3 x4 x5 s; exact jm_none
  | succ n ih =>
    intro x1 x2 x3 x4 x5 s
    rw [s_Z_added_L48]
    refine jm_iload (pc := 48) (q := 5) (x := x5) d_Z_added_48 rfl ?_
    refine jm_iload_n (pc := 50) (q := 3) (x := x3) d_Z_added_50 rfl ?_
    refine jm_icmp_gt (pc := 51) (tgt := 125) d_Z_added_51 (by decide) ?_ ?_
    · refine jm_iload (pc := 125) (q := 4) (x := x4) d_Z_added_125 rfl ?_
      exact jm_iret (pc := 127) (x := x4) d_Z_added_127 rfl rfl rfl rfl rfl
    · refine jm_iload (pc := 54) (q := 5) (x := x5) d_Z_added_54 rfl ?_
      refine jm_iload_n (pc := 56) (q := 3) (x := x3) d_Z_added_56 rfl ?_
      refine jm_iconst (pc := 57) (v := (-1)) d_Z_added_57 ci_m1 ?_
      refine jm_ixor (pc := 58) d_Z_added_58 ?_
      refine jm_iand (pc := 59) d_Z_added_59 ?_
      refine jm_if_ne (pc := 60) (tgt := 119) d_Z_added_60 (by decide) ?_ ?_
      · refine jm_iload (pc := 63) (q := 4) (x := x4) d_Z_added_63 rfl ?_
        refine jm_bipush (pc := 65) (v := (-4)) d_Z_added_65 cb_m4 ?_
        refine jm_icmp_eq (pc := 67) (tgt := 83) d_Z_added_67 (by decide) ?_ ?_
        · exact s_Z_added_J83_ok ih x1 x2 x3 x4 x5 s
        · refine jm_iload (pc := 70) (q := 5) (x := x5) d_Z_added_70 rfl ?_
          refine jm_Sp (pc := 72) (Y' := mY_Z_bits) (avs := [.int x5]) (rest := []) (s_Z_bits_ok s x5) ok_Z_bits l0_Z_added__Z_bits ml_Z_212 sm_Z_bits d_Z_added_72 rfl rfl (Nat.le_of_ble_eq_true rfl) (Nat.le_of_ble_eq_true rfl) (Nat.le_of_ble_eq_true rfl) (Nat.le_of_ble_eq_true rfl) (fun v9 => ?_)
          refine jm_iload (pc := 75) (q := 4) (x := x4) d_Z_added_75 rfl ?_
          refine jm_Sp (pc := 77) (Y' := mY_Z_bits) (avs := [.int x4]) (rest := [.int v9]) (s_Z_bits_ok s x4) ok_Z_bits l0_Z_added__Z_bits ml_Z_212 sm_Z_bits d_Z_added_77 rfl rfl (Nat.le_of_ble_eq_true rfl) (Nat.le_of_ble_eq_true rfl) (Nat.le_of_ble_eq_true rfl) (Nat.le_of_ble_eq_true rfl) (fun v10 => ?_)
          refine jm_icmp_ge (pc := 80) (tgt := 119) d_Z_added_80 (by decide) ?_ ?_
          · refine jm_iinc (pc := 119) (q := 5) (x := x5) (v := 1) (L2 := [(5, .int (x5 + 1)), (0, .ref 59), (1, .int x1), (2, .int x2), (3, .int x3), (4, .int x4)]) d_Z_added_119 rfl ci_1 (Nat.le_of_ble_eq_true rfl) rfl ?_
            refine jm_goto (pc := 122) (tgt := 48) d_Z_added_122 (by decide) ?_
            refine jm_sub (L2 := [(0, .ref 59), (1, .int x1), (2, .int x2), (3, .int x3), (4, .int x4), (5, .int (x5 + 1))]) [1, 2, 3, 4, 5, 0] rfl ?_
            exact ih x1 x2 x3 x4 (x5 + 1) s
          · exact s_Z_added_J83_ok ih x1 x2 x3 x4 x5 s
      · refine jm_iinc (pc := 119) (q := 5) (x := x5) (v := 1) (L2 := [(5, .int (x5 + 1)), (0, .ref 59), (1, .int x1), (2, .int x2), (3, .int x3), (4, .int x4)]) d_Z_added_119 rfl ci_1 (Nat.le_of_ble_eq_true rfl) rfl ?_
        refine jm_goto (pc := 122) (tgt := 48) d_Z_added_122 (by decide) ?_
        refine jm_sub (L2 := [(0, .ref 59), (1, .int x1), (2, .int x2), (3, .int x3), (4, .int x4), (5, .int (x5 + 1))]) [1, 2, 3, 4, 5, 0] rfl ?_
        exact ih x1 x2 x3 x4 (x5 + 1) s
def s_Z_added (s : jm_M) (a0 : Int32) : Option (Int32 × jm_M) := jm_bd (s_Z_in s a0.toInt64 0 9) (fun v1 => (if v1 = 0 then (some ((-1), s)) else jm_bd (s_Z_ear s) (fun v2 => (if v2 = (-4) then (some ((-2), s)) else jm_bd (s_Z_asTold s) (fun s3 => jm_vi (s3.1 59 22) (fun v4 => jm_bd (s_Z_ofKind s3 3) (fun v5 => s_Z_added_L48 5000 a0 v4 v5 (-4) 0 s3)))))))
set_option maxRecDepth 100000 in
set_option maxHeartbeats 4000000 in
theorem s_Z_added_ok (s : jm_M) (a0 : Int32) : jm_Sim mY_Z_added 0 0 0 [(0, .ref 59), (1, .int a0)] [] 78 mr_154 s (s_Z_added s a0) (jm_rP 78 mr_154) := by
  unfold s_Z_added
  refine jm_iload_n (pc := 0) (q := 1) (x := a0) d_Z_added_0 rfl ?_
  refine jm_i2l (pc := 1) d_Z_added_1 ?_
  refine jm_lconst (pc := 2) (v := 0) d_Z_added_2 cl_0 ?_
  refine jm_ldc2 (pc := 3) (v := 9) d_Z_added_3 kl_Z_103 ?_
  refine jm_Sp (pc := 6) (Y' := mY_Z_in) (avs := [.long a0.toInt64, .long 0, .long 9]) (rest := []) (s_Z_in_ok s a0.toInt64 0 9) ok_Z_in l0_Z_added__Z_in ml_Z_69 sm_Z_in d_Z_added_6 rfl rfl (Nat.le_of_ble_eq_true rfl) (Nat.le_of_ble_eq_true rfl) (Nat.le_of_ble_eq_true rfl) (Nat.le_of_ble_eq_true rfl) (fun v1 => ?_)
  refine jm_if_ne (pc := 9) (tgt := 14) d_Z_added_9 (by decide) ?_ ?_
  · refine jm_iconst (pc := 12) (v := (-1)) d_Z_added_12 ci_m1 ?_
    exact jm_iret (pc := 13) (x := (-1)) d_Z_added_13 rfl rfl rfl rfl rfl
  · refine jm_aload_n (pc := 14) (q := 0) (x := 59) d_Z_added_14 rfl ?_
    refine jm_Vp (pc := 15) (Y' := mY_Z_ear) (i := 59) (avs := []) (rest := []) (s_Z_ear_ok s) ok_Z_ear l0_Z_added__Z_ear ml_Z_168 im_Z_ear se_Z_ear d_Z_added_15 rfl sh_59 rfl rfl ge_59 le_59_78 rfl (Nat.le_of_ble_eq_true rfl) (Nat.le_of_ble_eq_true rfl) (Nat.le_of_ble_eq_true rfl) (Nat.le_of_ble_eq_true rfl) (fun v2 => ?_)
    refine jm_bipush (pc := 18) (v := (-4)) d_Z_added_18 cb_m4 ?_
    refine jm_icmp_ne (pc := 20) (tgt := 26) d_Z_added_20 (by decide) ?_ ?_
    · refine jm_bipush (pc := 23) (v := (-2)) d_Z_added_23 cb_m2 ?_
      exact jm_iret (pc := 25) (x := (-2)) d_Z_added_25 rfl rfl rfl rfl rfl
    · refine jm_aload_n (pc := 26) (q := 0) (x := 59) d_Z_added_26 rfl ?_
      refine jm_Vv (pc := 27) (Y' := mY_Z_asTold) (i := 59) (avs := []) (rest := []) (s_Z_asTold_ok s) ok_Z_asTold l0_Z_added__Z_asTold ml_Z_203 im_Z_asTold se_Z_asTold d_Z_added_27 rfl sh_59 rfl rfl ge_59 le_59_78 rfl (Nat.le_of_ble_eq_true rfl) (Nat.le_of_ble_eq_true rfl) (Nat.le_of_ble_eq_true rfl) (Nat.le_of_ble_eq_true rfl) (fun s3 => ?_)
      refine jm_aload_n (pc := 30) (q := 0) (x := 59) d_Z_added_30 rfl ?_
      refine jm_gi (pc := 31) (i := 59) d_Z_added_31 fo_Z_171 sh_59 ge_59 le_59_78 rfl (fun _ => rfl) ?_
      refine jm_nvi (fun v4 => ?_)
      refine jm_istore_n (pc := 34) (i := 2) (L2 := [(2, .int v4), (0, .ref 59), (1, .int a0)]) d_Z_added_34 rfl (Nat.le_of_ble_eq_true rfl) rfl ?_
      refine jm_aload_n (pc := 35) (q := 1) (x := 59) d_Z_added_35 rfl ?_
      refine jm_iconst (pc := 36) (v := 3) d_Z_added_36 ci_3 ?_
      refine jm_Vp (pc := 37) (Y' := mY_Z_ofKind) (i := 59) (avs := [.int 3]) (rest := []) (s_Z_ofKind_ok s3 3) ok_Z_ofKind l0_Z_added__Z_ofKind ml_Z_143 im_Z_ofKind se_Z_ofKind d_Z_added_37 rfl sh_59 rfl rfl ge_59 le_59_78 rfl (Nat.le_of_ble_eq_true rfl) (Nat.le_of_ble_eq_true rfl) (Nat.le_of_ble_eq_true rfl) (Nat.le_of_ble_eq_true rfl) (fun v5 => ?_)
      refine jm_istore_n (pc := 40) (i := 3) (L2 := [(3, .int v5), (2, .int v4), (0, .ref 59), (1, .int a0)]) d_Z_added_40 rfl (Nat.le_of_ble_eq_true rfl) rfl ?_
      refine jm_bipush (pc := 41) (v := (-4)) d_Z_added_41 cb_m4 ?_
      refine jm_istore (pc := 43) (L2 := [(4, .int (-4)), (3, .int v5), (2, .int v4), (0, .ref 59), (1, .int a0)]) d_Z_added_43 (Nat.le_of_ble_eq_true rfl) rfl ?_
      refine jm_iconst (pc := 45) (v := 0) d_Z_added_45 ci_0 ?_
      refine jm_istore (pc := 46) (L2 := [(5, .int 0), (4, .int (-4)), (3, .int v5), (2, .int v4), (0, .ref 59), (1, .int a0)]) d_Z_added_46 (Nat.le_of_ble_eq_true rfl) rfl ?_
      refine jm_sub (L2 := [(0, .ref 59), (1, .int a0), (2, .int v4), (3, .int v5), (4, .int (-4)), (5, .int 0)]) [4, 5, 3, 2, 1, 0] rfl ?_
      exact s_Z_added_L48_ok 5000 a0 v4 v5 (-4) 0 s3
theorem d_X_log_0 : decode (jm_cd mY_X_log) 0 = .ok (.aload_n 0, 1) := by decide +kernel
theorem d_X_log_1 : decode (jm_cd mY_X_log) 1 = .ok (.getfield 31, 3) := by decide +kernel
theorem d_X_log_4 : decode (jm_cd mY_X_log) 4 = .ok (.iload_n 1, 1) := by decide +kernel
theorem d_X_log_5 : decode (jm_cd mY_X_log) 5 = .ok (.invokevirtual 93, 3) := by decide +kernel
theorem d_X_log_8 : decode (jm_cd mY_X_log) 8 = .ok (.ifCond .eq 14, 3) := by decide +kernel
theorem d_X_log_11 : decode (jm_cd mY_X_log) 11 = .ok (.iload_n 2, 1) := by decide +kernel
theorem d_X_log_12 : decode (jm_cd mY_X_log) 12 = .ok (.iconst (-1), 1) := by decide +kernel
theorem d_X_log_13 : decode (jm_cd mY_X_log) 13 = .ok (.if_icmp .lt 9, 3) := by decide +kernel
theorem d_X_log_16 : decode (jm_cd mY_X_log) 16 = .ok (.iload_n 2, 1) := by decide +kernel
theorem d_X_log_17 : decode (jm_cd mY_X_log) 17 = .ok (.bipush 60, 2) := by decide +kernel
theorem d_X_log_19 : decode (jm_cd mY_X_log) 19 = .ok (.if_icmp .le 6, 3) := by decide +kernel
theorem d_X_log_22 : decode (jm_cd mY_X_log) 22 = .ok (.bipush (-100), 2) := by decide +kernel
theorem d_X_log_24 : decode (jm_cd mY_X_log) 24 = .ok (.ireturn, 1) := by decide +kernel
theorem d_X_log_25 : decode (jm_cd mY_X_log) 25 = .ok (.aload_n 0, 1) := by decide +kernel
theorem d_X_log_26 : decode (jm_cd mY_X_log) 26 = .ok (.getfield 31, 3) := by decide +kernel
theorem d_X_log_29 : decode (jm_cd mY_X_log) 29 = .ok (.getfield 196, 3) := by decide +kernel
theorem d_X_log_32 : decode (jm_cd mY_X_log) 32 = .ok (.iload_n 1, 1) := by decide +kernel
theorem d_X_log_33 : decode (jm_cd mY_X_log) 33 = .ok (.iaload, 1) := by decide +kernel
theorem d_X_log_34 : decode (jm_cd mY_X_log) 34 = .ok (.istore_n 3, 1) := by decide +kernel
theorem d_X_log_35 : decode (jm_cd mY_X_log) 35 = .ok (.aload_n 0, 1) := by decide +kernel
theorem d_X_log_36 : decode (jm_cd mY_X_log) 36 = .ok (.getfield 31, 3) := by decide +kernel
theorem d_X_log_39 : decode (jm_cd mY_X_log) 39 = .ok (.getfield 196, 3) := by decide +kernel
theorem d_X_log_42 : decode (jm_cd mY_X_log) 42 = .ok (.iload_n 1, 1) := by decide +kernel
theorem d_X_log_43 : decode (jm_cd mY_X_log) 43 = .ok (.iload_n 2, 1) := by decide +kernel
theorem d_X_log_44 : decode (jm_cd mY_X_log) 44 = .ok (.iastore, 1) := by decide +kernel
theorem d_X_log_45 : decode (jm_cd mY_X_log) 45 = .ok (.iload_n 3, 1) := by decide +kernel
theorem d_X_log_46 : decode (jm_cd mY_X_log) 46 = .ok (.ireturn, 1) := by decide +kernel
def s_X_log (s : jm_M) (a0 : Int32) (a1 : Int32) : Option (Int32 × jm_M) := jm_bd (s_Ne_isHill_15 s a0) (fun v1 => (if v1 = 0 then (some ((-100), s)) else (if a1 < (-1) then (some ((-100), s)) else (if a1 ≤ 60 then jm_ldi s 21 10 a0 (fun v2 => jm_sti s 21 10 a0 a1 (fun s3 => (some (v2, s3)))) else (some ((-100), s))))))
set_option maxRecDepth 100000 in
set_option maxHeartbeats 4000000 in
theorem s_X_log_ok (s : jm_M) (a0 : Int32) (a1 : Int32) : jm_Sim mY_X_log 0 0 0 [(0, .ref 1), (1, .int a0), (2, .int a1)] [] 78 mr_154 s (s_X_log s a0 a1) (jm_rP 78 mr_154) := by
  unfold s_X_log
  refine jm_aload_n (pc := 0) (q := 0) (x := 1) d_X_log_0 rfl ?_
  refine jm_gr (pc := 1) (i := 1) d_X_log_1 fo_X_31 sh_1 ge_1 le_1_78 rfl (fun _ => rfl) mr_154_1_4 ge_15 ?_
  refine jm_iload_n (pc := 4) (q := 1) (x := a0) d_X_log_4 rfl ?_
  refine jm_Vp (pc := 5) (Y' := mY_Ne_isHill) (i := 15) (avs := [.int a0]) (rest := []) (s_Ne_isHill_15_ok s a0) ok_Ne_isHill l0_X_log__Ne_isHill ml_X_93 im_Ne_isHill se_Ne_isHill d_X_log_5 rfl sh_15 rfl rfl ge_15 le_15_78 rfl (Nat.le_of_ble_eq_true rfl) (Nat.le_of_ble_eq_true rfl) (Nat.le_of_ble_eq_true rfl) (Nat.le_of_ble_eq_true rfl) (fun v1 => ?_)
  refine jm_if_eq (pc := 8) (tgt := 22) d_X_log_8 (by decide) ?_ ?_
  · refine jm_bipush (pc := 22) (v := (-100)) d_X_log_22 cb_m100 ?_
    exact jm_iret (pc := 24) (x := (-100)) d_X_log_24 rfl rfl rfl rfl rfl
  · refine jm_iload_n (pc := 11) (q := 2) (x := a1) d_X_log_11 rfl ?_
    refine jm_iconst (pc := 12) (v := (-1)) d_X_log_12 ci_m1 ?_
    refine jm_icmp_lt (pc := 13) (tgt := 22) d_X_log_13 (by decide) ?_ ?_
    · refine jm_bipush (pc := 22) (v := (-100)) d_X_log_22 cb_m100 ?_
      exact jm_iret (pc := 24) (x := (-100)) d_X_log_24 rfl rfl rfl rfl rfl
    · refine jm_iload_n (pc := 16) (q := 2) (x := a1) d_X_log_16 rfl ?_
      refine jm_bipush (pc := 17) (v := 60) d_X_log_17 cb_60 ?_
      refine jm_icmp_le (pc := 19) (tgt := 25) d_X_log_19 (by decide) ?_ ?_
      · refine jm_aload_n (pc := 25) (q := 0) (x := 1) d_X_log_25 rfl ?_
        refine jm_gr (pc := 26) (i := 1) d_X_log_26 fo_X_31 sh_1 ge_1 le_1_78 rfl (fun _ => rfl) mr_154_1_4 ge_15 ?_
        refine jm_gr (pc := 29) (i := 15) d_X_log_29 fo_X_196 sh_15 ge_15 le_15_78 rfl (fun _ => rfl) mr_154_15_6 ge_21 ?_
        refine jm_iload_n (pc := 32) (q := 1) (x := a0) d_X_log_32 rfl ?_
        refine jm_iald (pc := 33) d_X_log_33 sh_21 ge_21 le_21_78 (fun v2 => ?_)
        refine jm_istore_n (pc := 34) (i := 3) (L2 := [(3, .int v2), (0, .ref 1), (1, .int a0), (2, .int a1)]) d_X_log_34 rfl (Nat.le_of_ble_eq_true rfl) rfl ?_
        refine jm_aload_n (pc := 35) (q := 1) (x := 1) d_X_log_35 rfl ?_
        refine jm_gr (pc := 36) (i := 1) d_X_log_36 fo_X_31 sh_1 ge_1 le_1_78 rfl (fun _ => rfl) mr_154_1_4 ge_15 ?_
        refine jm_gr (pc := 39) (i := 15) d_X_log_39 fo_X_196 sh_15 ge_15 le_15_78 rfl (fun _ => rfl) mr_154_15_6 ge_21 ?_
        refine jm_iload_n (pc := 42) (q := 2) (x := a0) d_X_log_42 rfl ?_
        refine jm_iload_n (pc := 43) (q := 3) (x := a1) d_X_log_43 rfl ?_
        refine jm_iast (pc := 44) d_X_log_44 sh_21 ge_21 le_21_78 (fun s3 => ?_)
        refine jm_iload_n (pc := 45) (q := 0) (x := v2) d_X_log_45 rfl ?_
        exact jm_iret (pc := 46) (x := v2) d_X_log_46 rfl rfl rfl rfl rfl
      · refine jm_bipush (pc := 22) (v := (-100)) d_X_log_22 cb_m100 ?_
        exact jm_iret (pc := 24) (x := (-100)) d_X_log_24 rfl rfl rfl rfl rfl
theorem d_Z_log_0 : decode (jm_cd mY_Z_log) 0 = .ok (.aload_n 0, 1) := by decide +kernel
theorem d_Z_log_1 : decode (jm_cd mY_Z_log) 1 = .ok (.iload_n 1, 1) := by decide +kernel
theorem d_Z_log_2 : decode (jm_cd mY_Z_log) 2 = .ok (.invokevirtual 138, 3) := by decide +kernel
theorem d_Z_log_5 : decode (jm_cd mY_Z_log) 5 = .ok (.ifCond .eq 17, 3) := by decide +kernel
theorem d_Z_log_8 : decode (jm_cd mY_Z_log) 8 = .ok (.iload_n 2, 1) := by decide +kernel
theorem d_Z_log_9 : decode (jm_cd mY_Z_log) 9 = .ok (.i2l, 1) := by decide +kernel
theorem d_Z_log_10 : decode (jm_cd mY_Z_log) 10 = .ok (.ldc2_w 231, 3) := by decide +kernel
theorem d_Z_log_13 : decode (jm_cd mY_Z_log) 13 = .ok (.ldc2_w 233, 3) := by decide +kernel
theorem d_Z_log_16 : decode (jm_cd mY_Z_log) 16 = .ok (.invokestatic 69, 3) := by decide +kernel
theorem d_Z_log_19 : decode (jm_cd mY_Z_log) 19 = .ok (.ifCond .ne 6, 3) := by decide +kernel
theorem d_Z_log_22 : decode (jm_cd mY_Z_log) 22 = .ok (.bipush (-100), 2) := by decide +kernel
theorem d_Z_log_24 : decode (jm_cd mY_Z_log) 24 = .ok (.ireturn, 1) := by decide +kernel
theorem d_Z_log_25 : decode (jm_cd mY_Z_log) 25 = .ok (.aload_n 0, 1) := by decide +kernel
theorem d_Z_log_26 : decode (jm_cd mY_Z_log) 26 = .ok (.getfield 40, 3) := by decide +kernel
theorem d_Z_log_29 : decode (jm_cd mY_Z_log) 29 = .ok (.iload_n 1, 1) := by decide +kernel
theorem d_Z_log_30 : decode (jm_cd mY_Z_log) 30 = .ok (.iaload, 1) := by decide +kernel
theorem d_Z_log_31 : decode (jm_cd mY_Z_log) 31 = .ok (.istore_n 3, 1) := by decide +kernel
theorem d_Z_log_32 : decode (jm_cd mY_Z_log) 32 = .ok (.aload_n 0, 1) := by decide +kernel
theorem d_Z_log_33 : decode (jm_cd mY_Z_log) 33 = .ok (.getfield 40, 3) := by decide +kernel
theorem d_Z_log_36 : decode (jm_cd mY_Z_log) 36 = .ok (.iload_n 1, 1) := by decide +kernel
theorem d_Z_log_37 : decode (jm_cd mY_Z_log) 37 = .ok (.iload_n 2, 1) := by decide +kernel
theorem d_Z_log_38 : decode (jm_cd mY_Z_log) 38 = .ok (.iastore, 1) := by decide +kernel
theorem d_Z_log_39 : decode (jm_cd mY_Z_log) 39 = .ok (.iload_n 3, 1) := by decide +kernel
theorem d_Z_log_40 : decode (jm_cd mY_Z_log) 40 = .ok (.ireturn, 1) := by decide +kernel
def s_Z_log (s : jm_M) (a0 : Int32) (a1 : Int32) : Option (Int32 × jm_M) := jm_bd (s_Z_isHill s a0) (fun v1 => (if v1 = 0 then (some ((-100), s)) else jm_bd (s_Z_in s a1.toInt64 (-1) 60) (fun v2 => (if v2 = 0 then (some ((-100), s)) else jm_ldi s 70 30 a0 (fun v3 => jm_sti s 70 30 a0 a1 (fun s4 => (some (v3, s4))))))))
set_option maxRecDepth 100000 in
set_option maxHeartbeats 4000000 in
theorem s_Z_log_ok (s : jm_M) (a0 : Int32) (a1 : Int32) : jm_Sim mY_Z_log 0 0 0 [(0, .ref 59), (1, .int a0), (2, .int a1)] [] 78 mr_154 s (s_Z_log s a0 a1) (jm_rP 78 mr_154) := by
  unfold s_Z_log
  refine jm_aload_n (pc := 0) (q := 0) (x := 59) d_Z_log_0 rfl ?_
  refine jm_iload_n (pc := 1) (q := 1) (x := a0) d_Z_log_1 rfl ?_
  refine jm_Vp (pc := 2) (Y' := mY_Z_isHill) (i := 59) (avs := [.int a0]) (rest := []) (s_Z_isHill_ok s a0) ok_Z_isHill l0_Z_log__Z_isHill ml_Z_138 im_Z_isHill se_Z_isHill d_Z_log_2 rfl sh_59 rfl rfl ge_59 le_59_78 rfl (Nat.le_of_ble_eq_true rfl) (Nat.le_of_ble_eq_true rfl) (Nat.le_of_ble_eq_true rfl) (Nat.le_of_ble_eq_true rfl) (fun v1 => ?_)
  refine jm_if_eq (pc := 5) (tgt := 22) d_Z_log_5 (by decide) ?_ ?_
  · refine jm_bipush (pc := 22) (v := (-100)) d_Z_log_22 cb_m100 ?_
    exact jm_iret (pc := 24) (x := (-100)) d_Z_log_24 rfl rfl rfl rfl rfl
  · refine jm_iload_n (pc := 8) (q := 2) (x := a1) d_Z_log_8 rfl ?_
    refine jm_i2l (pc := 9) d_Z_log_9 ?_
    refine jm_ldc2 (pc := 10) (v := (-1)) d_Z_log_10 kl_Z_231 ?_
    refine jm_ldc2 (pc := 13) (v := 60) d_Z_log_13 kl_Z_233 ?_
    refine jm_Sp (pc := 16) (Y' := mY_Z_in) (avs := [.long a1.toInt64, .long (-1), .long 60]) (rest := []) (s_Z_in_ok s a1.toInt64 (-1) 60) ok_Z_in l0_Z_log__Z_in ml_Z_69 sm_Z_in d_Z_log_16 rfl rfl (Nat.le_of_ble_eq_true rfl) (Nat.le_of_ble_eq_true rfl) (Nat.le_of_ble_eq_true rfl) (Nat.le_of_ble_eq_true rfl) (fun v2 => ?_)
    refine jm_if_ne (pc := 19) (tgt := 25) d_Z_log_19 (by decide) ?_ ?_
    · refine jm_bipush (pc := 22) (v := (-100)) d_Z_log_22 cb_m100 ?_
      exact jm_iret (pc := 24) (x := (-100)) d_Z_log_24 rfl rfl rfl rfl rfl
    · refine jm_aload_n (pc := 25) (q := 0) (x := 59) d_Z_log_25 rfl ?_
      refine jm_gr (pc := 26) (i := 59) d_Z_log_26 fo_Z_40 sh_59 ge_59 le_59_78 rfl (fun _ => rfl) mr_154_59_11 ge_70 ?_
      refine jm_iload_n (pc := 29) (q := 1) (x := a0) d_Z_log_29 rfl ?_
      refine jm_iald (pc := 30) d_Z_log_30 sh_70 ge_70 le_70_78 (fun v3 => ?_)
      refine jm_istore_n (pc := 31) (i := 3) (L2 := [(3, .int v3), (0, .ref 59), (1, .int a0), (2, .int a1)]) d_Z_log_31 rfl (Nat.le_of_ble_eq_true rfl) rfl ?_
      refine jm_aload_n (pc := 32) (q := 1) (x := 59) d_Z_log_32 rfl ?_
      refine jm_gr (pc := 33) (i := 59) d_Z_log_33 fo_Z_40 sh_59 ge_59 le_59_78 rfl (fun _ => rfl) mr_154_59_11 ge_70 ?_
      refine jm_iload_n (pc := 36) (q := 2) (x := a0) d_Z_log_36 rfl ?_
      refine jm_iload_n (pc := 37) (q := 3) (x := a1) d_Z_log_37 rfl ?_
      refine jm_iast (pc := 38) d_Z_log_38 sh_70 ge_70 le_70_78 (fun s4 => ?_)
      refine jm_iload_n (pc := 39) (q := 0) (x := v3) d_Z_log_39 rfl ?_
      exact jm_iret (pc := 40) (x := v3) d_Z_log_40 rfl rfl rfl rfl rfl
theorem d_Lo_isBurning_0 : decode (jm_cd mY_Lo_isBurning) 0 = .ok (.iload_n 0, 1) := by decide +kernel
theorem d_Lo_isBurning_1 : decode (jm_cd mY_Lo_isBurning) 1 = .ok (.iconst (-1), 1) := by decide +kernel
theorem d_Lo_isBurning_2 : decode (jm_cd mY_Lo_isBurning) 2 = .ok (.if_icmp .eq 13, 3) := by decide +kernel
theorem d_Lo_isBurning_5 : decode (jm_cd mY_Lo_isBurning) 5 = .ok (.iload_n 0, 1) := by decide +kernel
theorem d_Lo_isBurning_6 : decode (jm_cd mY_Lo_isBurning) 6 = .ok (.bipush 60, 2) := by decide +kernel
theorem d_Lo_isBurning_8 : decode (jm_cd mY_Lo_isBurning) 8 = .ok (.if_icmp .ge 7, 3) := by decide +kernel
theorem d_Lo_isBurning_11 : decode (jm_cd mY_Lo_isBurning) 11 = .ok (.iconst 1, 1) := by decide +kernel
theorem d_Lo_isBurning_12 : decode (jm_cd mY_Lo_isBurning) 12 = .ok (.goto 4, 3) := by decide +kernel
theorem d_Lo_isBurning_15 : decode (jm_cd mY_Lo_isBurning) 15 = .ok (.iconst 0, 1) := by decide +kernel
theorem d_Lo_isBurning_16 : decode (jm_cd mY_Lo_isBurning) 16 = .ok (.ireturn, 1) := by decide +kernel
def s_Lo_isBurning (s : jm_M) (a0 : Int32) : Option Int32 := (if a0 = (-1) then (some 0) else (if 60 ≤ a0 then (some 0) else (some 1)))
set_option maxRecDepth 100000 in
set_option maxHeartbeats 4000000 in
theorem s_Lo_isBurning_ok (s : jm_M) (a0 : Int32) : jm_Sim mY_Lo_isBurning 0 0 0 [(0, .int a0)] [] 78 mr_154 s (s_Lo_isBurning s a0) (jm_rI 78 mr_154 s) := by
  unfold s_Lo_isBurning
  refine jm_iload_n (pc := 0) (q := 0) (x := a0) d_Lo_isBurning_0 rfl ?_
  refine jm_iconst (pc := 1) (v := (-1)) d_Lo_isBurning_1 ci_m1 ?_
  refine jm_icmp_eq (pc := 2) (tgt := 15) d_Lo_isBurning_2 (by decide) ?_ ?_
  · refine jm_iconst (pc := 15) (v := 0) d_Lo_isBurning_15 ci_0 ?_
    exact jm_iret (pc := 16) (x := 0) d_Lo_isBurning_16 rfl (by decide) rfl rfl rfl
  · refine jm_iload_n (pc := 5) (q := 0) (x := a0) d_Lo_isBurning_5 rfl ?_
    refine jm_bipush (pc := 6) (v := 60) d_Lo_isBurning_6 cb_60 ?_
    refine jm_icmp_ge (pc := 8) (tgt := 15) d_Lo_isBurning_8 (by decide) ?_ ?_
    · refine jm_iconst (pc := 15) (v := 0) d_Lo_isBurning_15 ci_0 ?_
      exact jm_iret (pc := 16) (x := 0) d_Lo_isBurning_16 rfl (by decide) rfl rfl rfl
    · refine jm_iconst (pc := 11) (v := 1) d_Lo_isBurning_11 ci_1 ?_
      refine jm_goto (pc := 12) (tgt := 16) d_Lo_isBurning_12 (by decide) ?_
      exact jm_iret (pc := 16) (x := 1) d_Lo_isBurning_16 rfl (by decide) rfl rfl rfl
theorem d_Lo_judgement_0 : decode (jm_cd mY_Lo_judgement) 0 = .ok (.iload_n 1, 1) := by decide +kernel
theorem d_Lo_judgement_1 : decode (jm_cd mY_Lo_judgement) 1 = .ok (.ifCond .lt 30, 3) := by decide +kernel
theorem d_Lo_judgement_4 : decode (jm_cd mY_Lo_judgement) 4 = .ok (.iload_n 1, 1) := by decide +kernel
theorem d_Lo_judgement_5 : decode (jm_cd mY_Lo_judgement) 5 = .ok (.bipush 10, 2) := by decide +kernel
theorem d_Lo_judgement_7 : decode (jm_cd mY_Lo_judgement) 7 = .ok (.if_icmp .ge 24, 3) := by decide +kernel
theorem d_Lo_judgement_10 : decode (jm_cd mY_Lo_judgement) 10 = .ok (.aload_n 0, 1) := by decide +kernel
theorem d_Lo_judgement_11 : decode (jm_cd mY_Lo_judgement) 11 = .ok (.getfield 18, 3) := by decide +kernel
theorem d_Lo_judgement_14 : decode (jm_cd mY_Lo_judgement) 14 = .ok (.iload_n 1, 1) := by decide +kernel
theorem d_Lo_judgement_15 : decode (jm_cd mY_Lo_judgement) 15 = .ok (.iaload, 1) := by decide +kernel
theorem d_Lo_judgement_16 : decode (jm_cd mY_Lo_judgement) 16 = .ok (.ifCond .ne 15, 3) := by decide +kernel
theorem d_Lo_judgement_19 : decode (jm_cd mY_Lo_judgement) 19 = .ok (.aload_n 0, 1) := by decide +kernel
theorem d_Lo_judgement_20 : decode (jm_cd mY_Lo_judgement) 20 = .ok (.getfield 24, 3) := by decide +kernel
theorem d_Lo_judgement_23 : decode (jm_cd mY_Lo_judgement) 23 = .ok (.iload_n 1, 1) := by decide +kernel
theorem d_Lo_judgement_24 : decode (jm_cd mY_Lo_judgement) 24 = .ok (.iaload, 1) := by decide +kernel
theorem d_Lo_judgement_25 : decode (jm_cd mY_Lo_judgement) 25 = .ok (.invokestatic 27, 3) := by decide +kernel
theorem d_Lo_judgement_28 : decode (jm_cd mY_Lo_judgement) 28 = .ok (.ifCond .ne 5, 3) := by decide +kernel
theorem d_Lo_judgement_31 : decode (jm_cd mY_Lo_judgement) 31 = .ok (.iconst (-1), 1) := by decide +kernel
theorem d_Lo_judgement_32 : decode (jm_cd mY_Lo_judgement) 32 = .ok (.ireturn, 1) := by decide +kernel
theorem d_Lo_judgement_33 : decode (jm_cd mY_Lo_judgement) 33 = .ok (.aload_n 0, 1) := by decide +kernel
theorem d_Lo_judgement_34 : decode (jm_cd mY_Lo_judgement) 34 = .ok (.getfield 24, 3) := by decide +kernel
theorem d_Lo_judgement_37 : decode (jm_cd mY_Lo_judgement) 37 = .ok (.iload_n 1, 1) := by decide +kernel
theorem d_Lo_judgement_38 : decode (jm_cd mY_Lo_judgement) 38 = .ok (.iaload, 1) := by decide +kernel
theorem d_Lo_judgement_39 : decode (jm_cd mY_Lo_judgement) 39 = .ok (.aload_n 0, 1) := by decide +kernel
theorem d_Lo_judgement_40 : decode (jm_cd mY_Lo_judgement) 40 = .ok (.getfield 31, 3) := by decide +kernel
theorem d_Lo_judgement_43 : decode (jm_cd mY_Lo_judgement) 43 = .ok (.iload_n 1, 1) := by decide +kernel
theorem d_Lo_judgement_44 : decode (jm_cd mY_Lo_judgement) 44 = .ok (.iaload, 1) := by decide +kernel
theorem d_Lo_judgement_45 : decode (jm_cd mY_Lo_judgement) 45 = .ok (.isub, 1) := by decide +kernel
theorem d_Lo_judgement_46 : decode (jm_cd mY_Lo_judgement) 46 = .ok (.istore_n 2, 1) := by decide +kernel
theorem d_Lo_judgement_47 : decode (jm_cd mY_Lo_judgement) 47 = .ok (.iconst 0, 1) := by decide +kernel
theorem d_Lo_judgement_48 : decode (jm_cd mY_Lo_judgement) 48 = .ok (.istore_n 3, 1) := by decide +kernel
theorem d_Lo_judgement_49 : decode (jm_cd mY_Lo_judgement) 49 = .ok (.iconst 0, 1) := by decide +kernel
theorem d_Lo_judgement_50 : decode (jm_cd mY_Lo_judgement) 50 = .ok (.istore 4, 2) := by decide +kernel
theorem d_Lo_judgement_52 : decode (jm_cd mY_Lo_judgement) 52 = .ok (.aload_n 0, 1) := by decide +kernel
theorem d_Lo_judgement_53 : decode (jm_cd mY_Lo_judgement) 53 = .ok (.getfield 34, 3) := by decide +kernel
theorem d_Lo_judgement_56 : decode (jm_cd mY_Lo_judgement) 56 = .ok (.iload_n 1, 1) := by decide +kernel
theorem d_Lo_judgement_57 : decode (jm_cd mY_Lo_judgement) 57 = .ok (.iaload, 1) := by decide +kernel
theorem d_Lo_judgement_58 : decode (jm_cd mY_Lo_judgement) 58 = .ok (.aload_n 0, 1) := by decide +kernel
theorem d_Lo_judgement_59 : decode (jm_cd mY_Lo_judgement) 59 = .ok (.invokevirtual 37, 3) := by decide +kernel
theorem d_Lo_judgement_62 : decode (jm_cd mY_Lo_judgement) 62 = .ok (.iand, 1) := by decide +kernel
theorem d_Lo_judgement_63 : decode (jm_cd mY_Lo_judgement) 63 = .ok (.istore 5, 2) := by decide +kernel
theorem d_Lo_judgement_65 : decode (jm_cd mY_Lo_judgement) 65 = .ok (.iconst 0, 1) := by decide +kernel
theorem d_Lo_judgement_66 : decode (jm_cd mY_Lo_judgement) 66 = .ok (.istore 6, 2) := by decide +kernel
theorem d_Lo_judgement_68 : decode (jm_cd mY_Lo_judgement) 68 = .ok (.iload 6, 2) := by decide +kernel
theorem d_Lo_judgement_70 : decode (jm_cd mY_Lo_judgement) 70 = .ok (.bipush 10, 2) := by decide +kernel
theorem d_Lo_judgement_72 : decode (jm_cd mY_Lo_judgement) 72 = .ok (.if_icmp .ge 54, 3) := by decide +kernel
theorem d_Lo_judgement_75 : decode (jm_cd mY_Lo_judgement) 75 = .ok (.iload_n 2, 1) := by decide +kernel
theorem d_Lo_judgement_76 : decode (jm_cd mY_Lo_judgement) 76 = .ok (.ifCond .lt 44, 3) := by decide +kernel
theorem d_Lo_judgement_79 : decode (jm_cd mY_Lo_judgement) 79 = .ok (.iload 5, 2) := by decide +kernel
theorem d_Lo_judgement_81 : decode (jm_cd mY_Lo_judgement) 81 = .ok (.iload 6, 2) := by decide +kernel
theorem d_Lo_judgement_83 : decode (jm_cd mY_Lo_judgement) 83 = .ok (.ishr, 1) := by decide +kernel
theorem d_Lo_judgement_84 : decode (jm_cd mY_Lo_judgement) 84 = .ok (.iconst 1, 1) := by decide +kernel
theorem d_Lo_judgement_85 : decode (jm_cd mY_Lo_judgement) 85 = .ok (.iand, 1) := by decide +kernel
theorem d_Lo_judgement_86 : decode (jm_cd mY_Lo_judgement) 86 = .ok (.ifCond .eq 34, 3) := by decide +kernel
theorem d_Lo_judgement_89 : decode (jm_cd mY_Lo_judgement) 89 = .ok (.aload_n 0, 1) := by decide +kernel
theorem d_Lo_judgement_90 : decode (jm_cd mY_Lo_judgement) 90 = .ok (.getfield 24, 3) := by decide +kernel
theorem d_Lo_judgement_93 : decode (jm_cd mY_Lo_judgement) 93 = .ok (.iload 6, 2) := by decide +kernel
theorem d_Lo_judgement_95 : decode (jm_cd mY_Lo_judgement) 95 = .ok (.iaload, 1) := by decide +kernel
theorem d_Lo_judgement_96 : decode (jm_cd mY_Lo_judgement) 96 = .ok (.iconst (-1), 1) := by decide +kernel
theorem d_Lo_judgement_97 : decode (jm_cd mY_Lo_judgement) 97 = .ok (.if_icmp .ne 9, 3) := by decide +kernel
theorem d_Lo_judgement_100 : decode (jm_cd mY_Lo_judgement) 100 = .ok (.iinc 4 1, 3) := by decide +kernel
theorem d_Lo_judgement_103 : decode (jm_cd mY_Lo_judgement) 103 = .ok (.goto 17, 3) := by decide +kernel
theorem d_Lo_judgement_106 : decode (jm_cd mY_Lo_judgement) 106 = .ok (.aload_n 0, 1) := by decide +kernel
theorem d_Lo_judgement_107 : decode (jm_cd mY_Lo_judgement) 107 = .ok (.getfield 24, 3) := by decide +kernel
theorem d_Lo_judgement_110 : decode (jm_cd mY_Lo_judgement) 110 = .ok (.iload 6, 2) := by decide +kernel
theorem d_Lo_judgement_112 : decode (jm_cd mY_Lo_judgement) 112 = .ok (.iaload, 1) := by decide +kernel
theorem d_Lo_judgement_113 : decode (jm_cd mY_Lo_judgement) 113 = .ok (.iload_n 2, 1) := by decide +kernel
theorem d_Lo_judgement_114 : decode (jm_cd mY_Lo_judgement) 114 = .ok (.if_icmp .gt 6, 3) := by decide +kernel
theorem d_Lo_judgement_117 : decode (jm_cd mY_Lo_judgement) 117 = .ok (.iinc 3 1, 3) := by decide +kernel
theorem d_Lo_judgement_120 : decode (jm_cd mY_Lo_judgement) 120 = .ok (.iinc 6 1, 3) := by decide +kernel
theorem d_Lo_judgement_123 : decode (jm_cd mY_Lo_judgement) 123 = .ok (.goto (-55), 3) := by decide +kernel
theorem d_Lo_judgement_126 : decode (jm_cd mY_Lo_judgement) 126 = .ok (.iload_n 3, 1) := by decide +kernel
theorem d_Lo_judgement_127 : decode (jm_cd mY_Lo_judgement) 127 = .ok (.iload 4, 2) := by decide +kernel
theorem d_Lo_judgement_129 : decode (jm_cd mY_Lo_judgement) 129 = .ok (.iadd, 1) := by decide +kernel
theorem d_Lo_judgement_130 : decode (jm_cd mY_Lo_judgement) 130 = .ok (.aload_n 0, 1) := by decide +kernel
theorem d_Lo_judgement_131 : decode (jm_cd mY_Lo_judgement) 131 = .ok (.getfield 41, 3) := by decide +kernel
theorem d_Lo_judgement_134 : decode (jm_cd mY_Lo_judgement) 134 = .ok (.iload_n 1, 1) := by decide +kernel
theorem d_Lo_judgement_135 : decode (jm_cd mY_Lo_judgement) 135 = .ok (.iaload, 1) := by decide +kernel
theorem d_Lo_judgement_136 : decode (jm_cd mY_Lo_judgement) 136 = .ok (.if_icmp .ge 5, 3) := by decide +kernel
theorem d_Lo_judgement_139 : decode (jm_cd mY_Lo_judgement) 139 = .ok (.iconst 0, 1) := by decide +kernel
theorem d_Lo_judgement_140 : decode (jm_cd mY_Lo_judgement) 140 = .ok (.ireturn, 1) := by decide +kernel
theorem d_Lo_judgement_141 : decode (jm_cd mY_Lo_judgement) 141 = .ok (.iload_n 3, 1) := by decide +kernel
theorem d_Lo_judgement_142 : decode (jm_cd mY_Lo_judgement) 142 = .ok (.aload_n 0, 1) := by decide +kernel
theorem d_Lo_judgement_143 : decode (jm_cd mY_Lo_judgement) 143 = .ok (.getfield 41, 3) := by decide +kernel
theorem d_Lo_judgement_146 : decode (jm_cd mY_Lo_judgement) 146 = .ok (.iload_n 1, 1) := by decide +kernel
theorem d_Lo_judgement_147 : decode (jm_cd mY_Lo_judgement) 147 = .ok (.iaload, 1) := by decide +kernel
theorem d_Lo_judgement_148 : decode (jm_cd mY_Lo_judgement) 148 = .ok (.if_icmp .ge 7, 3) := by decide +kernel
theorem d_Lo_judgement_151 : decode (jm_cd mY_Lo_judgement) 151 = .ok (.iconst 1, 1) := by decide +kernel
theorem d_Lo_judgement_152 : decode (jm_cd mY_Lo_judgement) 152 = .ok (.goto 4, 3) := by decide +kernel
theorem d_Lo_judgement_155 : decode (jm_cd mY_Lo_judgement) 155 = .ok (.iconst 2, 1) := by decide +kernel
theorem d_Lo_judgement_156 : decode (jm_cd mY_Lo_judgement) 156 = .ok (.ireturn, 1) := by decide +kernel
def s_Lo_judgement_15_L68 (s : jm_M) : Nat → Int32 → Int32 → Int32 → Int32 → Int32 → Int32 → Option Int32
  | 0, _, _, _, _, _, _ => none
  | n + 1, x1, x2, x3, x4, x5, x6 => (if 10 ≤ x6 then jm_ldi s 18 10 x1 (fun v10 => (if v10 ≤ (x3 + x4) then jm_ldi s 18 10 x1 (fun v11 => (if v11 ≤ x3 then (some 2) else (some 1))) else (some 0))) else (if x2 < 0 then s_Lo_judgement_15_L68 s n x1 x2 x3 x4 x5 (x6 + 1) else (if ((x5 >>> (x6 &&& 31)) &&& 1) = 0 then s_Lo_judgement_15_L68 s n x1 x2 x3 x4 x5 (x6 + 1) else jm_ldi s 21 10 x6 (fun v12 => (if v12 = (-1) then s_Lo_judgement_15_L68 s n x1 x2 x3 (x4 + 1) x5 (x6 + 1) else jm_ldi s 21 10 x6 (fun v13 => (if x2 < v13 then s_Lo_judgement_15_L68 s n x1 x2 x3 x4 x5 (x6 + 1) else s_Lo_judgement_15_L68 s n x1 x2 (x3 + 1) x4 x5 (x6 + 1))))))))
set_option maxRecDepth 100000 in
set_option maxHeartbeats 4000000 in
theorem s_Lo_judgement_15_L68_ok (s : jm_M) : ∀ (n : Nat) (x1 : Int32) (x2 : Int32) (x3 : Int32) (x4 : Int32) (x5 : Int32) (x6 : Int32), jm_Sim mY_Lo_judgement 0 0 68 [(0, .ref 15), (1, .int x1), (2, .int x2), (3, .int x3), (4, .int x4), (5, .int x5), (6, .int x6)] [] 78 mr_154 s (s_Lo_judgement_15_L68 s n x1 x2 x3 x4 x5 x6) (jm_rI 78 mr_154 s) := by
  intro n
  induction n with
  | zero => intro x1 x2 x3 x4 x5 x6; exact jm_none
  | succ n ih =>
    intro x1 x2 x3 x4 x5 x6
    rw [s_Lo_judgement_15_L68]
    refine jm_iload (pc := 68) (q := 6) (x := x6) d_Lo_judgement_68 rfl ?_
    refine jm_bipush (pc := 70) (v := 10) d_Lo_judgement_70 cb_10 ?_
    refine jm_icmp_ge (pc := 72) (tgt := 126) d_Lo_judgement_72 (by decide) ?_ ?_
    · refine jm_iload_n (pc := 126) (q := 3) (x := x3) d_Lo_judgement_126 rfl ?_
      refine jm_iload (pc := 127) (q := 4) (x := x4) d_Lo_judgement_127 rfl ?_
      refine jm_iadd (pc := 129) d_Lo_judgement_129 ?_
      refine jm_aload_n (pc := 130) (q := 0) (x := 15) d_Lo_judgement_130 rfl ?_
      refine jm_gr (pc := 131) (i := 15) d_Lo_judgement_131 fo_Lo_41 sh_15 ge_15 le_15_78 rfl (fun _ => rfl) mr_154_15_3 ge_18 ?_
      refine jm_iload_n (pc := 134) (q := 1) (x := x1) d_Lo_judgement_134 rfl ?_
      refine jm_iald (pc := 135) d_Lo_judgement_135 sh_18 ge_18 le_18_78 (fun v10 => ?_)
      refine jm_icmp_ge (pc := 136) (tgt := 141) d_Lo_judgement_136 (by decide) ?_ ?_
      · refine jm_iload_n (pc := 141) (q := 3) (x := x3) d_Lo_judgement_141 rfl ?_
        refine jm_aload_n (pc := 142) (q := 0) (x := 15) d_Lo_judgement_142 rfl ?_
        refine jm_gr (pc := 143) (i := 15) d_Lo_judgement_143 fo_Lo_41 sh_15 ge_15 le_15_78 rfl (fun _ => rfl) mr_154_15_3 ge_18 ?_
        refine jm_iload_n (pc := 146) (q := 1) (x := x1) d_Lo_judgement_146 rfl ?_
        refine jm_iald (pc := 147) d_Lo_judgement_147 sh_18 ge_18 le_18_78 (fun v11 => ?_)
        refine jm_icmp_ge (pc := 148) (tgt := 155) d_Lo_judgement_148 (by decide) ?_ ?_
        · refine jm_iconst (pc := 155) (v := 2) d_Lo_judgement_155 ci_2 ?_
          exact jm_iret (pc := 156) (x := 2) d_Lo_judgement_156 rfl rfl rfl rfl rfl
        · refine jm_iconst (pc := 151) (v := 1) d_Lo_judgement_151 ci_1 ?_
          refine jm_goto (pc := 152) (tgt := 156) d_Lo_judgement_152 (by decide) ?_
          exact jm_iret (pc := 156) (x := 1) d_Lo_judgement_156 rfl rfl rfl rfl rfl
      · refine jm_iconst (pc := 139) (v := 0) d_Lo_judgement_139 ci_0 ?_
        exact jm_iret (pc := 140) (x := 0) d_Lo_judgement_140 rfl rfl rfl rfl rfl
    · refine jm_iload_n (pc := 75) (q := 2) (x := x2) d_Lo_judgement_75 rfl ?_
      refine jm_if_lt (pc := 76) (tgt := 120) d_Lo_judgement_76 (by decide) ?_ ?_
      · refine jm_iinc (pc := 120) (q := 6) (x := x6) (v := 1) (L2 := [(6, .int (x6 + 1)), (0, .ref 15), (1, .int x1), (2, .int x2), (3, .int x3), (4, .int x4), (5, .int x5)]) d_Lo_judgement_120 rfl ci_1 (Nat.le_of_ble_eq_true rfl) rfl ?_
        refine jm_goto (pc := 123) (tgt := 68) d_Lo_judgement_123 (by decide) ?_
        refine jm_sub (L2 := [(0, .ref 15), (1, .int x1), (2, .int x2), (3, .int x3), (4, .int x4), (5, .int x5), (6, .int (x6 + 1))]) [1, 2, 3, 4, 5, 6, 0] rfl ?_
        exact ih x1 x2 x3 x4 x5 (x6 + 1)
      · refine jm_iload (pc := 79) (q := 5) (x := x5) d_Lo_judgement_79 rfl ?_
        refine jm_iload (pc := 81) (q := 6) (x := x6) d_Lo_judgement_81 rfl ?_
        refine jm_ishr (pc := 83) d_Lo_judgement_83 ?_
        refine jm_iconst (pc := 84) (v := 1) d_Lo_judgement_84 ci_1 ?_
        refine jm_iand (pc := 85) d_Lo_judgement_85 ?_
        refine jm_if_eq (pc := 86) (tgt := 120) d_Lo_judgement_86 (by decide) ?_ ?_
        · refine jm_iinc (pc := 120) (q := 6) (x := x6) (v := 1) (L2 := [(6, .int (x6 + 1)), (0, .ref 15), (1, .int x1), (2, .int x2), (3, .int x3), (4, .int x4), (5, .int x5)]) d_Lo_judgement_120 rfl ci_1 (Nat.le_of_ble_eq_true rfl) rfl ?_
          refine jm_goto (pc := 123) (tgt := 68) d_Lo_judgement_123 (by decide) ?_
          refine jm_sub (L2 := [(0, .ref 15), (1, .int x1), (2, .int x2), (3, .int x3), (4, .int x4), (5, .int x5), (6, .int (x6 + 1))]) [1, 2, 3, 4, 5, 6, 0] rfl ?_
          exact ih x1 x2 x3 x4 x5 (x6 + 1)
        · refine jm_aload_n (pc := 89) (q := 0) (x := 15) d_Lo_judgement_89 rfl ?_
          refine jm_gr (pc := 90) (i := 15) d_Lo_judgement_90 fo_Lo_24 sh_15 ge_15 le_15_78 rfl (fun _ => rfl) mr_154_15_6 ge_21 ?_
          refine jm_iload (pc := 93) (q := 6) (x := x6) d_Lo_judgement_93 rfl ?_
          refine jm_iald (pc := 95) d_Lo_judgement_95 sh_21 ge_21 le_21_78 (fun v12 => ?_)
          refine jm_iconst (pc := 96) (v := (-1)) d_Lo_judgement_96 ci_m1 ?_
          refine jm_icmp_ne (pc := 97) (tgt := 106) d_Lo_judgement_97 (by decide) ?_ ?_
          · refine jm_iinc (pc := 100) (q := 4) (x := x4) (v := 1) (L2 := [(4, .int (x4 + 1)), (0, .ref 15), (1, .int x1), (2, .int x2), (3, .int x3), (5, .int x5), (6, .int x6)]) d_Lo_judgement_100 rfl ci_1 (Nat.le_of_ble_eq_true rfl) rfl ?_
            refine jm_goto (pc := 103) (tgt := 120) d_Lo_judgement_103 (by decide) ?_
            refine jm_iinc (pc := 120) (q := 6) (x := x6) (v := 1) (L2 := [(6, .int (x6 + 1)), (4, .int (x4 + 1)), (0, .ref 15), (1, .int x1), (2, .int x2), (3, .int x3), (5, .int x5)]) d_Lo_judgement_120 rfl ci_1 (Nat.le_of_ble_eq_true rfl) rfl ?_
            refine jm_goto (pc := 123) (tgt := 68) d_Lo_judgement_123 (by decide) ?_
            refine jm_sub (L2 := [(0, .ref 15), (1, .int x1), (2, .int x2), (3, .int x3), (4, .int (x4 + 1)), (5, .int x5), (6, .int (x6 + 1))]) [2, 3, 4, 5, 1, 6, 0] rfl ?_
            exact ih x1 x2 x3 (x4 + 1) x5 (x6 + 1)
          · refine jm_aload_n (pc := 106) (q := 0) (x := 15) d_Lo_judgement_106 rfl ?_
            refine jm_gr (pc := 107) (i := 15) d_Lo_judgement_107 fo_Lo_24 sh_15 ge_15 le_15_78 rfl (fun _ => rfl) mr_154_15_6 ge_21 ?_
            refine jm_iload (pc := 110) (q := 6) (x := x6) d_Lo_judgement_110 rfl ?_
            refine jm_iald (pc := 112) d_Lo_judgement_112 sh_21 ge_21 le_21_78 (fun v13 => ?_)
            refine jm_iload_n (pc := 113) (q := 2) (x := x2) d_Lo_judgement_113 rfl ?_
            refine jm_icmp_gt (pc := 114) (tgt := 120) d_Lo_judgement_114 (by decide) ?_ ?_
            · refine jm_iinc (pc := 120) (q := 6) (x := x6) (v := 1) (L2 := [(6, .int (x6 + 1)), (0, .ref 15), (1, .int x1), (2, .int x2), (3, .int x3), (4, .int x4), (5, .int x5)]) d_Lo_judgement_120 rfl ci_1 (Nat.le_of_ble_eq_true rfl) rfl ?_
              refine jm_goto (pc := 123) (tgt := 68) d_Lo_judgement_123 (by decide) ?_
              refine jm_sub (L2 := [(0, .ref 15), (1, .int x1), (2, .int x2), (3, .int x3), (4, .int x4), (5, .int x5), (6, .int (x6 + 1))]) [1, 2, 3, 4, 5, 6, 0] rfl ?_
              exact ih x1 x2 x3 x4 x5 (x6 + 1)
            · refine jm_iinc (pc := 117) (q := 3) (x := x3) (v := 1) (L2 := [(3, .int (x3 + 1)), (0, .ref 15), (1, .int x1), (2, .int x2), (4, .int x4), (5, .int x5), (6, .int x6)]) d_Lo_judgement_117 rfl ci_1 (Nat.le_of_ble_eq_true rfl) rfl ?_
              refine jm_iinc (pc := 120) (q := 6) (x := x6) (v := 1) (L2 := [(6, .int (x6 + 1)), (3, .int (x3 + 1)), (0, .ref 15), (1, .int x1), (2, .int x2), (4, .int x4), (5, .int x5)]) d_Lo_judgement_120 rfl ci_1 (Nat.le_of_ble_eq_true rfl) rfl ?_
              refine jm_goto (pc := 123) (tgt := 68) d_Lo_judgement_123 (by decide) ?_
              refine jm_sub (L2 := [(0, .ref 15), (1, .int x1), (2, .int x2), (3, .int (x3 + 1)), (4, .int x4), (5, .int x5), (6, .int (x6 + 1))]) [2, 3, 4, 1, 5, 6, 0] rfl ?_
              exact ih x1 x2 (x3 + 1) x4 x5 (x6 + 1)
def s_Lo_judgement_15 (s : jm_M) (a1 : Int32) : Option Int32 := (if a1 < 0 then (some (-1)) else (if 10 ≤ a1 then (some (-1)) else jm_ldi s 16 10 a1 (fun v1 => (if v1 = 0 then jm_ldi s 21 10 a1 (fun v2 => jm_bd (s_Lo_isBurning s v2) (fun v3 => (if v3 = 0 then (some (-1)) else jm_ldi s 21 10 a1 (fun v4 => jm_ldi s 19 10 a1 (fun v5 => jm_vi (v4 - v5) (fun v6 => jm_ldi s 17 10 a1 (fun v7 => jm_bd (s_Ne_folk_15 s) (fun v8 => jm_vi (v7 &&& v8) (fun v9 => s_Lo_judgement_15_L68 s 5000 a1 v6 0 0 v9 0))))))))) else (some (-1))))))
set_option maxRecDepth 100000 in
set_option maxHeartbeats 4000000 in
theorem s_Lo_judgement_15_ok (s : jm_M) (a1 : Int32) : jm_Sim mY_Lo_judgement 0 0 0 [(0, .ref 15), (1, .int a1)] [] 78 mr_154 s (s_Lo_judgement_15 s a1) (jm_rI 78 mr_154 s) := by
  unfold s_Lo_judgement_15
  refine jm_iload_n (pc := 0) (q := 1) (x := a1) d_Lo_judgement_0 rfl ?_
  refine jm_if_lt (pc := 1) (tgt := 31) d_Lo_judgement_1 (by decide) ?_ ?_
  · refine jm_iconst (pc := 31) (v := (-1)) d_Lo_judgement_31 ci_m1 ?_
    exact jm_iret (pc := 32) (x := (-1)) d_Lo_judgement_32 rfl rfl rfl rfl rfl
  · refine jm_iload_n (pc := 4) (q := 1) (x := a1) d_Lo_judgement_4 rfl ?_
    refine jm_bipush (pc := 5) (v := 10) d_Lo_judgement_5 cb_10 ?_
    refine jm_icmp_ge (pc := 7) (tgt := 31) d_Lo_judgement_7 (by decide) ?_ ?_
    · refine jm_iconst (pc := 31) (v := (-1)) d_Lo_judgement_31 ci_m1 ?_
      exact jm_iret (pc := 32) (x := (-1)) d_Lo_judgement_32 rfl rfl rfl rfl rfl
    · refine jm_aload_n (pc := 10) (q := 0) (x := 15) d_Lo_judgement_10 rfl ?_
      refine jm_gr (pc := 11) (i := 15) d_Lo_judgement_11 fo_Lo_18 sh_15 ge_15 le_15_78 rfl (fun _ => rfl) mr_154_15_1 ge_16 ?_
      refine jm_iload_n (pc := 14) (q := 1) (x := a1) d_Lo_judgement_14 rfl ?_
      refine jm_iald (pc := 15) d_Lo_judgement_15 sh_16 ge_16 le_16_78 (fun v1 => ?_)
      refine jm_if_ne (pc := 16) (tgt := 31) d_Lo_judgement_16 (by decide) ?_ ?_
      · refine jm_aload_n (pc := 19) (q := 0) (x := 15) d_Lo_judgement_19 rfl ?_
        refine jm_gr (pc := 20) (i := 15) d_Lo_judgement_20 fo_Lo_24 sh_15 ge_15 le_15_78 rfl (fun _ => rfl) mr_154_15_6 ge_21 ?_
        refine jm_iload_n (pc := 23) (q := 1) (x := a1) d_Lo_judgement_23 rfl ?_
        refine jm_iald (pc := 24) d_Lo_judgement_24 sh_21 ge_21 le_21_78 (fun v2 => ?_)
        refine jm_Sp (pc := 25) (Y' := mY_Lo_isBurning) (avs := [.int v2]) (rest := []) (s_Lo_isBurning_ok s v2) ok_Lo_isBurning l0_Lo_judgement__Lo_isBurning ml_Lo_27 sm_Lo_isBurning d_Lo_judgement_25 rfl rfl (Nat.le_of_ble_eq_true rfl) (Nat.le_of_ble_eq_true rfl) (Nat.le_of_ble_eq_true rfl) (Nat.le_of_ble_eq_true rfl) (fun v3 => ?_)
        refine jm_if_ne (pc := 28) (tgt := 33) d_Lo_judgement_28 (by decide) ?_ ?_
        · refine jm_iconst (pc := 31) (v := (-1)) d_Lo_judgement_31 ci_m1 ?_
          exact jm_iret (pc := 32) (x := (-1)) d_Lo_judgement_32 rfl rfl rfl rfl rfl
        · refine jm_aload_n (pc := 33) (q := 0) (x := 15) d_Lo_judgement_33 rfl ?_
          refine jm_gr (pc := 34) (i := 15) d_Lo_judgement_34 fo_Lo_24 sh_15 ge_15 le_15_78 rfl (fun _ => rfl) mr_154_15_6 ge_21 ?_
          refine jm_iload_n (pc := 37) (q := 1) (x := a1) d_Lo_judgement_37 rfl ?_
          refine jm_iald (pc := 38) d_Lo_judgement_38 sh_21 ge_21 le_21_78 (fun v4 => ?_)
          refine jm_aload_n (pc := 39) (q := 0) (x := 15) d_Lo_judgement_39 rfl ?_
          refine jm_gr (pc := 40) (i := 15) d_Lo_judgement_40 fo_Lo_31 sh_15 ge_15 le_15_78 rfl (fun _ => rfl) mr_154_15_4 ge_19 ?_
          refine jm_iload_n (pc := 43) (q := 1) (x := a1) d_Lo_judgement_43 rfl ?_
          refine jm_iald (pc := 44) d_Lo_judgement_44 sh_19 ge_19 le_19_78 (fun v5 => ?_)
          refine jm_isub (pc := 45) d_Lo_judgement_45 ?_
          refine jm_nvi (fun v6 => ?_)
          refine jm_istore_n (pc := 46) (i := 2) (L2 := [(2, .int v6), (0, .ref 15), (1, .int a1)]) d_Lo_judgement_46 rfl (Nat.le_of_ble_eq_true rfl) rfl ?_
          refine jm_iconst (pc := 47) (v := 0) d_Lo_judgement_47 ci_0 ?_
          refine jm_istore_n (pc := 48) (i := 3) (L2 := [(3, .int 0), (2, .int v6), (0, .ref 15), (1, .int a1)]) d_Lo_judgement_48 rfl (Nat.le_of_ble_eq_true rfl) rfl ?_
          refine jm_iconst (pc := 49) (v := 0) d_Lo_judgement_49 ci_0 ?_
          refine jm_istore (pc := 50) (L2 := [(4, .int 0), (3, .int 0), (2, .int v6), (0, .ref 15), (1, .int a1)]) d_Lo_judgement_50 (Nat.le_of_ble_eq_true rfl) rfl ?_
          refine jm_aload_n (pc := 52) (q := 3) (x := 15) d_Lo_judgement_52 rfl ?_
          refine jm_gr (pc := 53) (i := 15) d_Lo_judgement_53 fo_Lo_34 sh_15 ge_15 le_15_78 rfl (fun _ => rfl) mr_154_15_2 ge_17 ?_
          refine jm_iload_n (pc := 56) (q := 4) (x := a1) d_Lo_judgement_56 rfl ?_
          refine jm_iald (pc := 57) d_Lo_judgement_57 sh_17 ge_17 le_17_78 (fun v7 => ?_)
          refine jm_aload_n (pc := 58) (q := 3) (x := 15) d_Lo_judgement_58 rfl ?_
          refine jm_Vp (pc := 59) (Y' := mY_Ne_folk) (i := 15) (avs := []) (rest := [.int v7]) (s_Ne_folk_15_ok s) ok_Ne_folk l0_Lo_judgement__Ne_folk ml_Lo_37 im_Ne_folk se_Ne_folk d_Lo_judgement_59 rfl sh_15 rfl rfl ge_15 le_15_78 rfl (Nat.le_of_ble_eq_true rfl) (Nat.le_of_ble_eq_true rfl) (Nat.le_of_ble_eq_true rfl) (Nat.le_of_ble_eq_true rfl) (fun v8 => ?_)
          refine jm_iand (pc := 62) d_Lo_judgement_62 ?_
          refine jm_nvi (fun v9 => ?_)
          refine jm_istore (pc := 63) (L2 := [(5, .int v9), (4, .int 0), (3, .int 0), (2, .int v6), (0, .ref 15), (1, .int a1)]) d_Lo_judgement_63 (Nat.le_of_ble_eq_true rfl) rfl ?_
          refine jm_iconst (pc := 65) (v := 0) d_Lo_judgement_65 ci_0 ?_
          refine jm_istore (pc := 66) (L2 := [(6, .int 0), (5, .int v9), (4, .int 0), (3, .int 0), (2, .int v6), (0, .ref 15), (1, .int a1)]) d_Lo_judgement_66 (Nat.le_of_ble_eq_true rfl) rfl ?_
          refine jm_sub (L2 := [(0, .ref 15), (1, .int a1), (2, .int v6), (3, .int 0), (4, .int 0), (5, .int v9), (6, .int 0)]) [5, 6, 4, 3, 2, 1, 0] rfl ?_
          exact s_Lo_judgement_15_L68_ok s 5000 a1 v6 0 0 v9 0
      · refine jm_iconst (pc := 31) (v := (-1)) d_Lo_judgement_31 ci_m1 ?_
        exact jm_iret (pc := 32) (x := (-1)) d_Lo_judgement_32 rfl rfl rfl rfl rfl
theorem d_Lo_judged_0 : decode (jm_cd mY_Lo_judged) 0 = .ok (.iconst 0, 1) := by decide +kernel
theorem d_Lo_judged_1 : decode (jm_cd mY_Lo_judged) 1 = .ok (.istore_n 2, 1) := by decide +kernel
theorem d_Lo_judged_2 : decode (jm_cd mY_Lo_judged) 2 = .ok (.iconst 0, 1) := by decide +kernel
theorem d_Lo_judged_3 : decode (jm_cd mY_Lo_judged) 3 = .ok (.istore_n 3, 1) := by decide +kernel
theorem d_Lo_judged_4 : decode (jm_cd mY_Lo_judged) 4 = .ok (.iload_n 3, 1) := by decide +kernel
theorem d_Lo_judged_5 : decode (jm_cd mY_Lo_judged) 5 = .ok (.bipush 10, 2) := by decide +kernel
theorem d_Lo_judged_7 : decode (jm_cd mY_Lo_judged) 7 = .ok (.if_icmp .ge 24, 3) := by decide +kernel
theorem d_Lo_judged_10 : decode (jm_cd mY_Lo_judged) 10 = .ok (.aload_n 0, 1) := by decide +kernel
theorem d_Lo_judged_11 : decode (jm_cd mY_Lo_judged) 11 = .ok (.iload_n 3, 1) := by decide +kernel
theorem d_Lo_judged_12 : decode (jm_cd mY_Lo_judged) 12 = .ok (.invokestatic 15, 3) := by decide +kernel
theorem d_Lo_judged_15 : decode (jm_cd mY_Lo_judged) 15 = .ok (.iload_n 1, 1) := by decide +kernel
theorem d_Lo_judged_16 : decode (jm_cd mY_Lo_judged) 16 = .ok (.if_icmp .ne 9, 3) := by decide +kernel
theorem d_Lo_judged_19 : decode (jm_cd mY_Lo_judged) 19 = .ok (.iload_n 2, 1) := by decide +kernel
theorem d_Lo_judged_20 : decode (jm_cd mY_Lo_judged) 20 = .ok (.iconst 1, 1) := by decide +kernel
theorem d_Lo_judged_21 : decode (jm_cd mY_Lo_judged) 21 = .ok (.iload_n 3, 1) := by decide +kernel
theorem d_Lo_judged_22 : decode (jm_cd mY_Lo_judged) 22 = .ok (.ishl, 1) := by decide +kernel
theorem d_Lo_judged_23 : decode (jm_cd mY_Lo_judged) 23 = .ok (.ior, 1) := by decide +kernel
theorem d_Lo_judged_24 : decode (jm_cd mY_Lo_judged) 24 = .ok (.istore_n 2, 1) := by decide +kernel
theorem d_Lo_judged_25 : decode (jm_cd mY_Lo_judged) 25 = .ok (.iinc 3 1, 3) := by decide +kernel
theorem d_Lo_judged_28 : decode (jm_cd mY_Lo_judged) 28 = .ok (.goto (-24), 3) := by decide +kernel
theorem d_Lo_judged_31 : decode (jm_cd mY_Lo_judged) 31 = .ok (.iload_n 2, 1) := by decide +kernel
theorem d_Lo_judged_32 : decode (jm_cd mY_Lo_judged) 32 = .ok (.ireturn, 1) := by decide +kernel
def s_Lo_judged_15_L4 (s : jm_M) : Nat → Int32 → Int32 → Int32 → Option Int32
  | 0, _, _, _ => none
  | n + 1, x1, x2, x3 => (if 10 ≤ x3 then (some x2) else jm_bd (s_Lo_judgement_15 s x3) (fun v1 => (if v1 = x1 then jm_vi (x2 ||| (1 <<< (x3 &&& 31))) (fun v2 => s_Lo_judged_15_L4 s n x1 v2 (x3 + 1)) else s_Lo_judged_15_L4 s n x1 x2 (x3 + 1))))
set_option maxRecDepth 100000 in
set_option maxHeartbeats 4000000 in
theorem s_Lo_judged_15_L4_ok (s : jm_M) : ∀ (n : Nat) (x1 : Int32) (x2 : Int32) (x3 : Int32), jm_Sim mY_Lo_judged 0 0 4 [(0, .ref 15), (1, .int x1), (2, .int x2), (3, .int x3)] [] 78 mr_154 s (s_Lo_judged_15_L4 s n x1 x2 x3) (jm_rI 78 mr_154 s) := by
  intro n
  induction n with
  | zero => intro x1 x2 x3; exact jm_none
  | succ n ih =>
    intro x1 x2 x3
    rw [s_Lo_judged_15_L4]
    refine jm_iload_n (pc := 4) (q := 3) (x := x3) d_Lo_judged_4 rfl ?_
    refine jm_bipush (pc := 5) (v := 10) d_Lo_judged_5 cb_10 ?_
    refine jm_icmp_ge (pc := 7) (tgt := 31) d_Lo_judged_7 (by decide) ?_ ?_
    · refine jm_iload_n (pc := 31) (q := 2) (x := x2) d_Lo_judged_31 rfl ?_
      exact jm_iret (pc := 32) (x := x2) d_Lo_judged_32 rfl rfl rfl rfl rfl
    · refine jm_aload_n (pc := 10) (q := 0) (x := 15) d_Lo_judged_10 rfl ?_
      refine jm_iload_n (pc := 11) (q := 3) (x := x3) d_Lo_judged_11 rfl ?_
      refine jm_Sp (pc := 12) (Y' := mY_Lo_judgement) (avs := [.ref 15, .int x3]) (rest := []) (s_Lo_judgement_15_ok s x3) ok_Lo_judgement l0_Lo_judged__Lo_judgement ml_Lo_15 sm_Lo_judgement d_Lo_judged_12 rfl rfl (Nat.le_of_ble_eq_true rfl) (Nat.le_of_ble_eq_true rfl) (Nat.le_of_ble_eq_true rfl) (Nat.le_of_ble_eq_true rfl) (fun v1 => ?_)
      refine jm_iload_n (pc := 15) (q := 1) (x := x1) d_Lo_judged_15 rfl ?_
      refine jm_icmp_ne (pc := 16) (tgt := 25) d_Lo_judged_16 (by decide) ?_ ?_
      · refine jm_iload_n (pc := 19) (q := 2) (x := x2) d_Lo_judged_19 rfl ?_
        refine jm_iconst (pc := 20) (v := 1) d_Lo_judged_20 ci_1 ?_
        refine jm_iload_n (pc := 21) (q := 3) (x := x3) d_Lo_judged_21 rfl ?_
        refine jm_ishl (pc := 22) d_Lo_judged_22 ?_
        refine jm_ior (pc := 23) d_Lo_judged_23 ?_
        refine jm_nvi (fun v2 => ?_)
        refine jm_istore_n (pc := 24) (i := 2) (L2 := [(2, .int v2), (0, .ref 15), (1, .int x1), (3, .int x3)]) d_Lo_judged_24 rfl (Nat.le_of_ble_eq_true rfl) rfl ?_
        refine jm_iinc (pc := 25) (q := 3) (x := x3) (v := 1) (L2 := [(3, .int (x3 + 1)), (2, .int v2), (0, .ref 15), (1, .int x1)]) d_Lo_judged_25 rfl ci_1 (Nat.le_of_ble_eq_true rfl) rfl ?_
        refine jm_goto (pc := 28) (tgt := 4) d_Lo_judged_28 (by decide) ?_
        refine jm_sub (L2 := [(0, .ref 15), (1, .int x1), (2, .int v2), (3, .int (x3 + 1))]) [2, 3, 1, 0] rfl ?_
        exact ih x1 v2 (x3 + 1)
      · refine jm_iinc (pc := 25) (q := 3) (x := x3) (v := 1) (L2 := [(3, .int (x3 + 1)), (0, .ref 15), (1, .int x1), (2, .int x2)]) d_Lo_judged_25 rfl ci_1 (Nat.le_of_ble_eq_true rfl) rfl ?_
        refine jm_goto (pc := 28) (tgt := 4) d_Lo_judged_28 (by decide) ?_
        refine jm_sub (L2 := [(0, .ref 15), (1, .int x1), (2, .int x2), (3, .int (x3 + 1))]) [1, 2, 3, 0] rfl ?_
        exact ih x1 x2 (x3 + 1)
def s_Lo_judged_15 (s : jm_M) (a1 : Int32) : Option Int32 := s_Lo_judged_15_L4 s 5000 a1 0 0
set_option maxRecDepth 100000 in
set_option maxHeartbeats 4000000 in
theorem s_Lo_judged_15_ok (s : jm_M) (a1 : Int32) : jm_Sim mY_Lo_judged 0 0 0 [(0, .ref 15), (1, .int a1)] [] 78 mr_154 s (s_Lo_judged_15 s a1) (jm_rI 78 mr_154 s) := by
  unfold s_Lo_judged_15
  refine jm_iconst (pc := 0) (v := 0) d_Lo_judged_0 ci_0 ?_
  refine jm_istore_n (pc := 1) (i := 2) (L2 := [(2, .int 0), (0, .ref 15), (1, .int a1)]) d_Lo_judged_1 rfl (Nat.le_of_ble_eq_true rfl) rfl ?_
  refine jm_iconst (pc := 2) (v := 0) d_Lo_judged_2 ci_0 ?_
  refine jm_istore_n (pc := 3) (i := 3) (L2 := [(3, .int 0), (2, .int 0), (0, .ref 15), (1, .int a1)]) d_Lo_judged_3 rfl (Nat.le_of_ble_eq_true rfl) rfl ?_
  refine jm_sub (L2 := [(0, .ref 15), (1, .int a1), (2, .int 0), (3, .int 0)]) [2, 3, 1, 0] rfl ?_
  exact s_Lo_judged_15_L4_ok s 5000 a1 0 0
theorem d_Lo_sureWithoutCause_0 : decode (jm_cd mY_Lo_sureWithoutCause) 0 = .ok (.aload_n 0, 1) := by decide +kernel
theorem d_Lo_sureWithoutCause_1 : decode (jm_cd mY_Lo_sureWithoutCause) 1 = .ok (.iconst 0, 1) := by decide +kernel
theorem d_Lo_sureWithoutCause_2 : decode (jm_cd mY_Lo_sureWithoutCause) 2 = .ok (.invokestatic 11, 3) := by decide +kernel
theorem d_Lo_sureWithoutCause_5 : decode (jm_cd mY_Lo_sureWithoutCause) 5 = .ok (.ireturn, 1) := by decide +kernel
def s_Lo_sureWithoutCause_15 (s : jm_M) : Option Int32 := jm_bd (s_Lo_judged_15 s 0) (fun v1 => (some v1))
set_option maxRecDepth 100000 in
set_option maxHeartbeats 4000000 in
theorem s_Lo_sureWithoutCause_15_ok (s : jm_M) : jm_Sim mY_Lo_sureWithoutCause 0 0 0 [(0, .ref 15)] [] 78 mr_154 s (s_Lo_sureWithoutCause_15 s) (jm_rI 78 mr_154 s) := by
  unfold s_Lo_sureWithoutCause_15
  refine jm_aload_n (pc := 0) (q := 0) (x := 15) d_Lo_sureWithoutCause_0 rfl ?_
  refine jm_iconst (pc := 1) (v := 0) d_Lo_sureWithoutCause_1 ci_0 ?_
  refine jm_Sp (pc := 2) (Y' := mY_Lo_judged) (avs := [.ref 15, .int 0]) (rest := []) (s_Lo_judged_15_ok s 0) ok_Lo_judged l0_Lo_sureWithoutCause__Lo_judged ml_Lo_11 sm_Lo_judged d_Lo_sureWithoutCause_2 rfl rfl (Nat.le_of_ble_eq_true rfl) (Nat.le_of_ble_eq_true rfl) (Nat.le_of_ble_eq_true rfl) (Nat.le_of_ble_eq_true rfl) (fun v1 => ?_)
  exact jm_iret (pc := 5) (x := v1) d_Lo_sureWithoutCause_5 rfl rfl rfl rfl rfl
theorem d_Lo_maybeWithoutCause_0 : decode (jm_cd mY_Lo_maybeWithoutCause) 0 = .ok (.aload_n 0, 1) := by decide +kernel
theorem d_Lo_maybeWithoutCause_1 : decode (jm_cd mY_Lo_maybeWithoutCause) 1 = .ok (.iconst 1, 1) := by decide +kernel
theorem d_Lo_maybeWithoutCause_2 : decode (jm_cd mY_Lo_maybeWithoutCause) 2 = .ok (.invokestatic 11, 3) := by decide +kernel
theorem d_Lo_maybeWithoutCause_5 : decode (jm_cd mY_Lo_maybeWithoutCause) 5 = .ok (.ireturn, 1) := by decide +kernel
def s_Lo_maybeWithoutCause_15 (s : jm_M) : Option Int32 := jm_bd (s_Lo_judged_15 s 1) (fun v1 => (some v1))
set_option maxRecDepth 100000 in
set_option maxHeartbeats 4000000 in
theorem s_Lo_maybeWithoutCause_15_ok (s : jm_M) : jm_Sim mY_Lo_maybeWithoutCause 0 0 0 [(0, .ref 15)] [] 78 mr_154 s (s_Lo_maybeWithoutCause_15 s) (jm_rI 78 mr_154 s) := by
  unfold s_Lo_maybeWithoutCause_15
  refine jm_aload_n (pc := 0) (q := 0) (x := 15) d_Lo_maybeWithoutCause_0 rfl ?_
  refine jm_iconst (pc := 1) (v := 1) d_Lo_maybeWithoutCause_1 ci_1 ?_
  refine jm_Sp (pc := 2) (Y' := mY_Lo_judged) (avs := [.ref 15, .int 1]) (rest := []) (s_Lo_judged_15_ok s 1) ok_Lo_judged l0_Lo_maybeWithoutCause__Lo_judged ml_Lo_11 sm_Lo_judged d_Lo_maybeWithoutCause_2 rfl rfl (Nat.le_of_ble_eq_true rfl) (Nat.le_of_ble_eq_true rfl) (Nat.le_of_ble_eq_true rfl) (Nat.le_of_ble_eq_true rfl) (fun v1 => ?_)
  exact jm_iret (pc := 5) (x := v1) d_Lo_maybeWithoutCause_5 rfl rfl rfl rfl rfl
theorem d_Lo_toBeAsked_0 : decode (jm_cd mY_Lo_toBeAsked) 0 = .ok (.aload_n 0, 1) := by decide +kernel
theorem d_Lo_toBeAsked_1 : decode (jm_cd mY_Lo_toBeAsked) 1 = .ok (.iconst 1, 1) := by decide +kernel
theorem d_Lo_toBeAsked_2 : decode (jm_cd mY_Lo_toBeAsked) 2 = .ok (.invokestatic 11, 3) := by decide +kernel
theorem d_Lo_toBeAsked_5 : decode (jm_cd mY_Lo_toBeAsked) 5 = .ok (.istore_n 1, 1) := by decide +kernel
theorem d_Lo_toBeAsked_6 : decode (jm_cd mY_Lo_toBeAsked) 6 = .ok (.aload_n 0, 1) := by decide +kernel
theorem d_Lo_toBeAsked_7 : decode (jm_cd mY_Lo_toBeAsked) 7 = .ok (.invokevirtual 37, 3) := by decide +kernel
theorem d_Lo_toBeAsked_10 : decode (jm_cd mY_Lo_toBeAsked) 10 = .ok (.istore_n 2, 1) := by decide +kernel
theorem d_Lo_toBeAsked_11 : decode (jm_cd mY_Lo_toBeAsked) 11 = .ok (.bipush (-4), 2) := by decide +kernel
theorem d_Lo_toBeAsked_13 : decode (jm_cd mY_Lo_toBeAsked) 13 = .ok (.istore_n 3, 1) := by decide +kernel
theorem d_Lo_toBeAsked_14 : decode (jm_cd mY_Lo_toBeAsked) 14 = .ok (.iconst 0, 1) := by decide +kernel
theorem d_Lo_toBeAsked_15 : decode (jm_cd mY_Lo_toBeAsked) 15 = .ok (.istore 4, 2) := by decide +kernel
theorem d_Lo_toBeAsked_17 : decode (jm_cd mY_Lo_toBeAsked) 17 = .ok (.iconst 0, 1) := by decide +kernel
theorem d_Lo_toBeAsked_18 : decode (jm_cd mY_Lo_toBeAsked) 18 = .ok (.istore 5, 2) := by decide +kernel
theorem d_Lo_toBeAsked_20 : decode (jm_cd mY_Lo_toBeAsked) 20 = .ok (.iload 5, 2) := by decide +kernel
theorem d_Lo_toBeAsked_22 : decode (jm_cd mY_Lo_toBeAsked) 22 = .ok (.bipush 10, 2) := by decide +kernel
theorem d_Lo_toBeAsked_24 : decode (jm_cd mY_Lo_toBeAsked) 24 = .ok (.if_icmp .ge 57, 3) := by decide +kernel
theorem d_Lo_toBeAsked_27 : decode (jm_cd mY_Lo_toBeAsked) 27 = .ok (.aload_n 0, 1) := by decide +kernel
theorem d_Lo_toBeAsked_28 : decode (jm_cd mY_Lo_toBeAsked) 28 = .ok (.getfield 34, 3) := by decide +kernel
theorem d_Lo_toBeAsked_31 : decode (jm_cd mY_Lo_toBeAsked) 31 = .ok (.iload 5, 2) := by decide +kernel
theorem d_Lo_toBeAsked_33 : decode (jm_cd mY_Lo_toBeAsked) 33 = .ok (.iaload, 1) := by decide +kernel
theorem d_Lo_toBeAsked_34 : decode (jm_cd mY_Lo_toBeAsked) 34 = .ok (.iload_n 1, 1) := by decide +kernel
theorem d_Lo_toBeAsked_35 : decode (jm_cd mY_Lo_toBeAsked) 35 = .ok (.iand, 1) := by decide +kernel
theorem d_Lo_toBeAsked_36 : decode (jm_cd mY_Lo_toBeAsked) 36 = .ok (.invokestatic 44, 3) := by decide +kernel
theorem d_Lo_toBeAsked_39 : decode (jm_cd mY_Lo_toBeAsked) 39 = .ok (.istore 6, 2) := by decide +kernel
theorem d_Lo_toBeAsked_41 : decode (jm_cd mY_Lo_toBeAsked) 41 = .ok (.iload_n 2, 1) := by decide +kernel
theorem d_Lo_toBeAsked_42 : decode (jm_cd mY_Lo_toBeAsked) 42 = .ok (.iload 5, 2) := by decide +kernel
theorem d_Lo_toBeAsked_44 : decode (jm_cd mY_Lo_toBeAsked) 44 = .ok (.ishr, 1) := by decide +kernel
theorem d_Lo_toBeAsked_45 : decode (jm_cd mY_Lo_toBeAsked) 45 = .ok (.iconst 1, 1) := by decide +kernel
theorem d_Lo_toBeAsked_46 : decode (jm_cd mY_Lo_toBeAsked) 46 = .ok (.iand, 1) := by decide +kernel
theorem d_Lo_toBeAsked_47 : decode (jm_cd mY_Lo_toBeAsked) 47 = .ok (.ifCond .eq 28, 3) := by decide +kernel
theorem d_Lo_toBeAsked_50 : decode (jm_cd mY_Lo_toBeAsked) 50 = .ok (.aload_n 0, 1) := by decide +kernel
theorem d_Lo_toBeAsked_51 : decode (jm_cd mY_Lo_toBeAsked) 51 = .ok (.getfield 24, 3) := by decide +kernel
theorem d_Lo_toBeAsked_54 : decode (jm_cd mY_Lo_toBeAsked) 54 = .ok (.iload 5, 2) := by decide +kernel
theorem d_Lo_toBeAsked_56 : decode (jm_cd mY_Lo_toBeAsked) 56 = .ok (.iaload, 1) := by decide +kernel
theorem d_Lo_toBeAsked_57 : decode (jm_cd mY_Lo_toBeAsked) 57 = .ok (.iconst (-1), 1) := by decide +kernel
theorem d_Lo_toBeAsked_58 : decode (jm_cd mY_Lo_toBeAsked) 58 = .ok (.if_icmp .ne 17, 3) := by decide +kernel
theorem d_Lo_toBeAsked_61 : decode (jm_cd mY_Lo_toBeAsked) 61 = .ok (.iload 6, 2) := by decide +kernel
theorem d_Lo_toBeAsked_63 : decode (jm_cd mY_Lo_toBeAsked) 63 = .ok (.iload 4, 2) := by decide +kernel
theorem d_Lo_toBeAsked_65 : decode (jm_cd mY_Lo_toBeAsked) 65 = .ok (.if_icmp .le 10, 3) := by decide +kernel
theorem d_Lo_toBeAsked_68 : decode (jm_cd mY_Lo_toBeAsked) 68 = .ok (.iload 5, 2) := by decide +kernel
theorem d_Lo_toBeAsked_70 : decode (jm_cd mY_Lo_toBeAsked) 70 = .ok (.istore_n 3, 1) := by decide +kernel
theorem d_Lo_toBeAsked_71 : decode (jm_cd mY_Lo_toBeAsked) 71 = .ok (.iload 6, 2) := by decide +kernel
theorem d_Lo_toBeAsked_73 : decode (jm_cd mY_Lo_toBeAsked) 73 = .ok (.istore 4, 2) := by decide +kernel
theorem d_Lo_toBeAsked_75 : decode (jm_cd mY_Lo_toBeAsked) 75 = .ok (.iinc 5 1, 3) := by decide +kernel
theorem d_Lo_toBeAsked_78 : decode (jm_cd mY_Lo_toBeAsked) 78 = .ok (.goto (-58), 3) := by decide +kernel
theorem d_Lo_toBeAsked_81 : decode (jm_cd mY_Lo_toBeAsked) 81 = .ok (.iload_n 3, 1) := by decide +kernel
theorem d_Lo_toBeAsked_82 : decode (jm_cd mY_Lo_toBeAsked) 82 = .ok (.ireturn, 1) := by decide +kernel
def s_Lo_toBeAsked_15_L20 (s : jm_M) : Nat → Int32 → Int32 → Int32 → Int32 → Int32 → Option Int32
  | 0, _, _, _, _, _ => none
  | n + 1, x1, x2, x3, x4, x5 => (if 10 ≤ x5 then (some x3) else jm_ldi s 17 10 x5 (fun v3 => jm_bd (s_JI_bitCount s (v3 &&& x1)) (fun v4 => (if ((x2 >>> (x5 &&& 31)) &&& 1) = 0 then s_Lo_toBeAsked_15_L20 s n x1 x2 x3 x4 (x5 + 1) else jm_ldi s 21 10 x5 (fun v5 => (if v5 = (-1) then (if v4 ≤ x4 then s_Lo_toBeAsked_15_L20 s n x1 x2 x3 x4 (x5 + 1) else s_Lo_toBeAsked_15_L20 s n x1 x2 x5 v4 (x5 + 1)) else s_Lo_toBeAsked_15_L20 s n x1 x2 x3 x4 (x5 + 1)))))))
set_option maxRecDepth 100000 in
set_option maxHeartbeats 4000000 in
theorem s_Lo_toBeAsked_15_L20_ok (s : jm_M) : ∀ (n : Nat) (x1 : Int32) (x2 : Int32) (x3 : Int32) (x4 : Int32) (x5 : Int32), jm_Sim mY_Lo_toBeAsked 0 0 20 [(0, .ref 15), (1, .int x1), (2, .int x2), (3, .int x3), (4, .int x4), (5, .int x5)] [] 78 mr_154 s (s_Lo_toBeAsked_15_L20 s n x1 x2 x3 x4 x5) (jm_rI 78 mr_154 s) := by
  intro n
  induction n with
  | zero => intro x1 x2 x3 x4 x5; exact jm_none
  | succ n ih =>
    intro x1 x2 x3 x4 x5
    rw [s_Lo_toBeAsked_15_L20]
    refine jm_iload (pc := 20) (q := 5) (x := x5) d_Lo_toBeAsked_20 rfl ?_
    refine jm_bipush (pc := 22) (v := 10) d_Lo_toBeAsked_22 cb_10 ?_
    refine jm_icmp_ge (pc := 24) (tgt := 81) d_Lo_toBeAsked_24 (by decide) ?_ ?_
    · refine jm_iload_n (pc := 81) (q := 3) (x := x3) d_Lo_toBeAsked_81 rfl ?_
      exact jm_iret (pc := 82) (x := x3) d_Lo_toBeAsked_82 rfl rfl rfl rfl rfl
    · refine jm_aload_n (pc := 27) (q := 0) (x := 15) d_Lo_toBeAsked_27 rfl ?_
      refine jm_gr (pc := 28) (i := 15) d_Lo_toBeAsked_28 fo_Lo_34 sh_15 ge_15 le_15_78 rfl (fun _ => rfl) mr_154_15_2 ge_17 ?_
      refine jm_iload (pc := 31) (q := 5) (x := x5) d_Lo_toBeAsked_31 rfl ?_
      refine jm_iald (pc := 33) d_Lo_toBeAsked_33 sh_17 ge_17 le_17_78 (fun v3 => ?_)
      refine jm_iload_n (pc := 34) (q := 1) (x := x1) d_Lo_toBeAsked_34 rfl ?_
      refine jm_iand (pc := 35) d_Lo_toBeAsked_35 ?_
      refine jm_Sp (pc := 36) (Y' := mY_JI_bitCount) (avs := [.int (v3 &&& x1)]) (rest := []) (s_JI_bitCount_ok s (v3 &&& x1)) ok_JI_bitCount l0_Lo_toBeAsked__JI_bitCount ml_Lo_44 sm_JI_bitCount d_Lo_toBeAsked_36 rfl rfl (Nat.le_of_ble_eq_true rfl) (Nat.le_of_ble_eq_true rfl) (Nat.le_of_ble_eq_true rfl) (Nat.le_of_ble_eq_true rfl) (fun v4 => ?_)
      refine jm_istore (pc := 39) (L2 := [(6, .int v4), (0, .ref 15), (1, .int x1), (2, .int x2), (3, .int x3), (4, .int x4), (5, .int x5)]) d_Lo_toBeAsked_39 (Nat.le_of_ble_eq_true rfl) rfl ?_
      refine jm_iload_n (pc := 41) (q := 3) (x := x2) d_Lo_toBeAsked_41 rfl ?_
      refine jm_iload (pc := 42) (q := 6) (x := x5) d_Lo_toBeAsked_42 rfl ?_
      refine jm_ishr (pc := 44) d_Lo_toBeAsked_44 ?_
      refine jm_iconst (pc := 45) (v := 1) d_Lo_toBeAsked_45 ci_1 ?_
      refine jm_iand (pc := 46) d_Lo_toBeAsked_46 ?_
      refine jm_if_eq (pc := 47) (tgt := 75) d_Lo_toBeAsked_47 (by decide) ?_ ?_
      · refine jm_iinc (pc := 75) (q := 6) (x := x5) (v := 1) (L2 := [(5, .int (x5 + 1)), (6, .int v4), (0, .ref 15), (1, .int x1), (2, .int x2), (3, .int x3), (4, .int x4)]) d_Lo_toBeAsked_75 rfl ci_1 (Nat.le_of_ble_eq_true rfl) rfl ?_
        refine jm_goto (pc := 78) (tgt := 20) d_Lo_toBeAsked_78 (by decide) ?_
        refine jm_sub (L2 := [(0, .ref 15), (1, .int x1), (2, .int x2), (3, .int x3), (4, .int x4), (5, .int (x5 + 1))]) [2, 3, 4, 5, 6, 0] rfl ?_
        exact ih x1 x2 x3 x4 (x5 + 1)
      · refine jm_aload_n (pc := 50) (q := 1) (x := 15) d_Lo_toBeAsked_50 rfl ?_
        refine jm_gr (pc := 51) (i := 15) d_Lo_toBeAsked_51 fo_Lo_24 sh_15 ge_15 le_15_78 rfl (fun _ => rfl) mr_154_15_6 ge_21 ?_
        refine jm_iload (pc := 54) (q := 6) (x := x5) d_Lo_toBeAsked_54 rfl ?_
        refine jm_iald (pc := 56) d_Lo_toBeAsked_56 sh_21 ge_21 le_21_78 (fun v5 => ?_)
        refine jm_iconst (pc := 57) (v := (-1)) d_Lo_toBeAsked_57 ci_m1 ?_
        refine jm_icmp_ne (pc := 58) (tgt := 75) d_Lo_toBeAsked_58 (by decide) ?_ ?_
        · refine jm_iload (pc := 61) (q := 0) (x := v4) d_Lo_toBeAsked_61 rfl ?_
          refine jm_iload (pc := 63) (q := 5) (x := x4) d_Lo_toBeAsked_63 rfl ?_
          refine jm_icmp_le (pc := 65) (tgt := 75) d_Lo_toBeAsked_65 (by decide) ?_ ?_
          · refine jm_iinc (pc := 75) (q := 6) (x := x5) (v := 1) (L2 := [(5, .int (x5 + 1)), (6, .int v4), (0, .ref 15), (1, .int x1), (2, .int x2), (3, .int x3), (4, .int x4)]) d_Lo_toBeAsked_75 rfl ci_1 (Nat.le_of_ble_eq_true rfl) rfl ?_
            refine jm_goto (pc := 78) (tgt := 20) d_Lo_toBeAsked_78 (by decide) ?_
            refine jm_sub (L2 := [(0, .ref 15), (1, .int x1), (2, .int x2), (3, .int x3), (4, .int x4), (5, .int (x5 + 1))]) [2, 3, 4, 5, 6, 0] rfl ?_
            exact ih x1 x2 x3 x4 (x5 + 1)
          · refine jm_iload (pc := 68) (q := 6) (x := x5) d_Lo_toBeAsked_68 rfl ?_
            refine jm_istore_n (pc := 70) (i := 3) (L2 := [(3, .int x5), (6, .int v4), (0, .ref 15), (1, .int x1), (2, .int x2), (4, .int x4), (5, .int x5)]) d_Lo_toBeAsked_70 rfl (Nat.le_of_ble_eq_true rfl) rfl ?_
            refine jm_iload (pc := 71) (q := 1) (x := v4) d_Lo_toBeAsked_71 rfl ?_
            refine jm_istore (pc := 73) (L2 := [(4, .int v4), (3, .int x5), (6, .int v4), (0, .ref 15), (1, .int x1), (2, .int x2), (5, .int x5)]) d_Lo_toBeAsked_73 (Nat.le_of_ble_eq_true rfl) rfl ?_
            refine jm_iinc (pc := 75) (q := 6) (x := x5) (v := 1) (L2 := [(5, .int (x5 + 1)), (4, .int v4), (3, .int x5), (6, .int v4), (0, .ref 15), (1, .int x1), (2, .int x2)]) d_Lo_toBeAsked_75 rfl ci_1 (Nat.le_of_ble_eq_true rfl) rfl ?_
            refine jm_goto (pc := 78) (tgt := 20) d_Lo_toBeAsked_78 (by decide) ?_
            refine jm_sub (L2 := [(0, .ref 15), (1, .int x1), (2, .int x2), (3, .int x5), (4, .int v4), (5, .int (x5 + 1))]) [4, 5, 6, 2, 1, 0] rfl ?_
            exact ih x1 x2 x5 v4 (x5 + 1)
        · refine jm_iinc (pc := 75) (q := 6) (x := x5) (v := 1) (L2 := [(5, .int (x5 + 1)), (6, .int v4), (0, .ref 15), (1, .int x1), (2, .int x2), (3, .int x3), (4, .int x4)]) d_Lo_toBeAsked_75 rfl ci_1 (Nat.le_of_ble_eq_true rfl) rfl ?_
          refine jm_goto (pc := 78) (tgt := 20) d_Lo_toBeAsked_78 (by decide) ?_
          refine jm_sub (L2 := [(0, .ref 15), (1, .int x1), (2, .int x2), (3, .int x3), (4, .int x4), (5, .int (x5 + 1))]) [2, 3, 4, 5, 6, 0] rfl ?_
          exact ih x1 x2 x3 x4 (x5 + 1)
def s_Lo_toBeAsked_15 (s : jm_M) : Option Int32 := jm_bd (s_Lo_judged_15 s 1) (fun v1 => jm_bd (s_Ne_folk_15 s) (fun v2 => s_Lo_toBeAsked_15_L20 s 5000 v1 v2 (-4) 0 0))
set_option maxRecDepth 100000 in
set_option maxHeartbeats 4000000 in
theorem s_Lo_toBeAsked_15_ok (s : jm_M) : jm_Sim mY_Lo_toBeAsked 0 0 0 [(0, .ref 15)] [] 78 mr_154 s (s_Lo_toBeAsked_15 s) (jm_rI 78 mr_154 s) := by
  unfold s_Lo_toBeAsked_15
  refine jm_aload_n (pc := 0) (q := 0) (x := 15) d_Lo_toBeAsked_0 rfl ?_
  refine jm_iconst (pc := 1) (v := 1) d_Lo_toBeAsked_1 ci_1 ?_
  refine jm_Sp (pc := 2) (Y' := mY_Lo_judged) (avs := [.ref 15, .int 1]) (rest := []) (s_Lo_judged_15_ok s 1) ok_Lo_judged l0_Lo_toBeAsked__Lo_judged ml_Lo_11 sm_Lo_judged d_Lo_toBeAsked_2 rfl rfl (Nat.le_of_ble_eq_true rfl) (Nat.le_of_ble_eq_true rfl) (Nat.le_of_ble_eq_true rfl) (Nat.le_of_ble_eq_true rfl) (fun v1 => ?_)
  refine jm_istore_n (pc := 5) (i := 1) (L2 := [(1, .int v1), (0, .ref 15)]) d_Lo_toBeAsked_5 rfl (Nat.le_of_ble_eq_true rfl) rfl ?_
  refine jm_aload_n (pc := 6) (q := 1) (x := 15) d_Lo_toBeAsked_6 rfl ?_
  refine jm_Vp (pc := 7) (Y' := mY_Ne_folk) (i := 15) (avs := []) (rest := []) (s_Ne_folk_15_ok s) ok_Ne_folk l0_Lo_toBeAsked__Ne_folk ml_Lo_37 im_Ne_folk se_Ne_folk d_Lo_toBeAsked_7 rfl sh_15 rfl rfl ge_15 le_15_78 rfl (Nat.le_of_ble_eq_true rfl) (Nat.le_of_ble_eq_true rfl) (Nat.le_of_ble_eq_true rfl) (Nat.le_of_ble_eq_true rfl) (fun v2 => ?_)
  refine jm_istore_n (pc := 10) (i := 2) (L2 := [(2, .int v2), (1, .int v1), (0, .ref 15)]) d_Lo_toBeAsked_10 rfl (Nat.le_of_ble_eq_true rfl) rfl ?_
  refine jm_bipush (pc := 11) (v := (-4)) d_Lo_toBeAsked_11 cb_m4 ?_
  refine jm_istore_n (pc := 13) (i := 3) (L2 := [(3, .int (-4)), (2, .int v2), (1, .int v1), (0, .ref 15)]) d_Lo_toBeAsked_13 rfl (Nat.le_of_ble_eq_true rfl) rfl ?_
  refine jm_iconst (pc := 14) (v := 0) d_Lo_toBeAsked_14 ci_0 ?_
  refine jm_istore (pc := 15) (L2 := [(4, .int 0), (3, .int (-4)), (2, .int v2), (1, .int v1), (0, .ref 15)]) d_Lo_toBeAsked_15 (Nat.le_of_ble_eq_true rfl) rfl ?_
  refine jm_iconst (pc := 17) (v := 0) d_Lo_toBeAsked_17 ci_0 ?_
  refine jm_istore (pc := 18) (L2 := [(5, .int 0), (4, .int 0), (3, .int (-4)), (2, .int v2), (1, .int v1), (0, .ref 15)]) d_Lo_toBeAsked_18 (Nat.le_of_ble_eq_true rfl) rfl ?_
  refine jm_sub (L2 := [(0, .ref 15), (1, .int v1), (2, .int v2), (3, .int (-4)), (4, .int 0), (5, .int 0)]) [5, 4, 3, 2, 1, 0] rfl ?_
  exact s_Lo_toBeAsked_15_L20_ok s 5000 v1 v2 (-4) 0 0
theorem d_Lo_earliestHead_0 : decode (jm_cd mY_Lo_earliestHead) 0 = .ok (.bipush 60, 2) := by decide +kernel
theorem d_Lo_earliestHead_2 : decode (jm_cd mY_Lo_earliestHead) 2 = .ok (.istore_n 1, 1) := by decide +kernel
theorem d_Lo_earliestHead_3 : decode (jm_cd mY_Lo_earliestHead) 3 = .ok (.iconst 0, 1) := by decide +kernel
theorem d_Lo_earliestHead_4 : decode (jm_cd mY_Lo_earliestHead) 4 = .ok (.istore_n 2, 1) := by decide +kernel
theorem d_Lo_earliestHead_5 : decode (jm_cd mY_Lo_earliestHead) 5 = .ok (.iload_n 2, 1) := by decide +kernel
theorem d_Lo_earliestHead_6 : decode (jm_cd mY_Lo_earliestHead) 6 = .ok (.bipush 10, 2) := by decide +kernel
theorem d_Lo_earliestHead_8 : decode (jm_cd mY_Lo_earliestHead) 8 = .ok (.if_icmp .ge 40, 3) := by decide +kernel
theorem d_Lo_earliestHead_11 : decode (jm_cd mY_Lo_earliestHead) 11 = .ok (.aload_n 0, 1) := by decide +kernel
theorem d_Lo_earliestHead_12 : decode (jm_cd mY_Lo_earliestHead) 12 = .ok (.getfield 18, 3) := by decide +kernel
theorem d_Lo_earliestHead_15 : decode (jm_cd mY_Lo_earliestHead) 15 = .ok (.iload_n 2, 1) := by decide +kernel
theorem d_Lo_earliestHead_16 : decode (jm_cd mY_Lo_earliestHead) 16 = .ok (.iaload, 1) := by decide +kernel
theorem d_Lo_earliestHead_17 : decode (jm_cd mY_Lo_earliestHead) 17 = .ok (.iconst 1, 1) := by decide +kernel
theorem d_Lo_earliestHead_18 : decode (jm_cd mY_Lo_earliestHead) 18 = .ok (.if_icmp .ne 24, 3) := by decide +kernel
theorem d_Lo_earliestHead_21 : decode (jm_cd mY_Lo_earliestHead) 21 = .ok (.aload_n 0, 1) := by decide +kernel
theorem d_Lo_earliestHead_22 : decode (jm_cd mY_Lo_earliestHead) 22 = .ok (.getfield 24, 3) := by decide +kernel
theorem d_Lo_earliestHead_25 : decode (jm_cd mY_Lo_earliestHead) 25 = .ok (.iload_n 2, 1) := by decide +kernel
theorem d_Lo_earliestHead_26 : decode (jm_cd mY_Lo_earliestHead) 26 = .ok (.iaload, 1) := by decide +kernel
theorem d_Lo_earliestHead_27 : decode (jm_cd mY_Lo_earliestHead) 27 = .ok (.iconst (-1), 1) := by decide +kernel
theorem d_Lo_earliestHead_28 : decode (jm_cd mY_Lo_earliestHead) 28 = .ok (.if_icmp .eq 14, 3) := by decide +kernel
theorem d_Lo_earliestHead_31 : decode (jm_cd mY_Lo_earliestHead) 31 = .ok (.iload_n 1, 1) := by decide +kernel
theorem d_Lo_earliestHead_32 : decode (jm_cd mY_Lo_earliestHead) 32 = .ok (.aload_n 0, 1) := by decide +kernel
theorem d_Lo_earliestHead_33 : decode (jm_cd mY_Lo_earliestHead) 33 = .ok (.getfield 24, 3) := by decide +kernel
theorem d_Lo_earliestHead_36 : decode (jm_cd mY_Lo_earliestHead) 36 = .ok (.iload_n 2, 1) := by decide +kernel
theorem d_Lo_earliestHead_37 : decode (jm_cd mY_Lo_earliestHead) 37 = .ok (.iaload, 1) := by decide +kernel
theorem d_Lo_earliestHead_38 : decode (jm_cd mY_Lo_earliestHead) 38 = .ok (.invokestatic 62, 3) := by decide +kernel
theorem d_Lo_earliestHead_41 : decode (jm_cd mY_Lo_earliestHead) 41 = .ok (.istore_n 1, 1) := by decide +kernel
theorem d_Lo_earliestHead_42 : decode (jm_cd mY_Lo_earliestHead) 42 = .ok (.iinc 2 1, 3) := by decide +kernel
theorem d_Lo_earliestHead_45 : decode (jm_cd mY_Lo_earliestHead) 45 = .ok (.goto (-40), 3) := by decide +kernel
theorem d_Lo_earliestHead_48 : decode (jm_cd mY_Lo_earliestHead) 48 = .ok (.iload_n 1, 1) := by decide +kernel
theorem d_Lo_earliestHead_49 : decode (jm_cd mY_Lo_earliestHead) 49 = .ok (.ireturn, 1) := by decide +kernel
def s_Lo_earliestHead_15_L5 (s : jm_M) : Nat → Int32 → Int32 → Option Int32
  | 0, _, _ => none
  | n + 1, x1, x2 => (if 10 ≤ x2 then (some x1) else jm_ldi s 16 10 x2 (fun v1 => (if v1 = 1 then jm_ldi s 21 10 x2 (fun v2 => (if v2 = (-1) then s_Lo_earliestHead_15_L5 s n x1 (x2 + 1) else jm_ldi s 21 10 x2 (fun v3 => jm_vi (jm_min x1 v3) (fun v4 => s_Lo_earliestHead_15_L5 s n v4 (x2 + 1))))) else s_Lo_earliestHead_15_L5 s n x1 (x2 + 1))))
set_option maxRecDepth 100000 in
set_option maxHeartbeats 4000000 in
theorem s_Lo_earliestHead_15_L5_ok (s : jm_M) : ∀ (n : Nat) (x1 : Int32) (x2 : Int32), jm_Sim mY_Lo_earliestHead 0 0 5 [(0, .ref 15), (1, .int x1), (2, .int x2)] [] 78 mr_154 s (s_Lo_earliestHead_15_L5 s n x1 x2) (jm_rI 78 mr_154 s) := by
  intro n
  induction n with
  | zero => intro x1 x2; exact jm_none
  | succ n ih =>
    intro x1 x2
    rw [s_Lo_earliestHead_15_L5]
    refine jm_iload_n (pc := 5) (q := 2) (x := x2) d_Lo_earliestHead_5 rfl ?_
    refine jm_bipush (pc := 6) (v := 10) d_Lo_earliestHead_6 cb_10 ?_
    refine jm_icmp_ge (pc := 8) (tgt := 48) d_Lo_earliestHead_8 (by decide) ?_ ?_
    · refine jm_iload_n (pc := 48) (q := 1) (x := x1) d_Lo_earliestHead_48 rfl ?_
      exact jm_iret (pc := 49) (x := x1) d_Lo_earliestHead_49 rfl rfl rfl rfl rfl
    · refine jm_aload_n (pc := 11) (q := 0) (x := 15) d_Lo_earliestHead_11 rfl ?_
      refine jm_gr (pc := 12) (i := 15) d_Lo_earliestHead_12 fo_Lo_18 sh_15 ge_15 le_15_78 rfl (fun _ => rfl) mr_154_15_1 ge_16 ?_
      refine jm_iload_n (pc := 15) (q := 2) (x := x2) d_Lo_earliestHead_15 rfl ?_
      refine jm_iald (pc := 16) d_Lo_earliestHead_16 sh_16 ge_16 le_16_78 (fun v1 => ?_)
      refine jm_iconst (pc := 17) (v := 1) d_Lo_earliestHead_17 ci_1 ?_
      refine jm_icmp_ne (pc := 18) (tgt := 42) d_Lo_earliestHead_18 (by decide) ?_ ?_
      · refine jm_aload_n (pc := 21) (q := 0) (x := 15) d_Lo_earliestHead_21 rfl ?_
        refine jm_gr (pc := 22) (i := 15) d_Lo_earliestHead_22 fo_Lo_24 sh_15 ge_15 le_15_78 rfl (fun _ => rfl) mr_154_15_6 ge_21 ?_
        refine jm_iload_n (pc := 25) (q := 2) (x := x2) d_Lo_earliestHead_25 rfl ?_
        refine jm_iald (pc := 26) d_Lo_earliestHead_26 sh_21 ge_21 le_21_78 (fun v2 => ?_)
        refine jm_iconst (pc := 27) (v := (-1)) d_Lo_earliestHead_27 ci_m1 ?_
        refine jm_icmp_eq (pc := 28) (tgt := 42) d_Lo_earliestHead_28 (by decide) ?_ ?_
        · refine jm_iinc (pc := 42) (q := 2) (x := x2) (v := 1) (L2 := [(2, .int (x2 + 1)), (0, .ref 15), (1, .int x1)]) d_Lo_earliestHead_42 rfl ci_1 (Nat.le_of_ble_eq_true rfl) rfl ?_
          refine jm_goto (pc := 45) (tgt := 5) d_Lo_earliestHead_45 (by decide) ?_
          refine jm_sub (L2 := [(0, .ref 15), (1, .int x1), (2, .int (x2 + 1))]) [1, 2, 0] rfl ?_
          exact ih x1 (x2 + 1)
        · refine jm_iload_n (pc := 31) (q := 1) (x := x1) d_Lo_earliestHead_31 rfl ?_
          refine jm_aload_n (pc := 32) (q := 0) (x := 15) d_Lo_earliestHead_32 rfl ?_
          refine jm_gr (pc := 33) (i := 15) d_Lo_earliestHead_33 fo_Lo_24 sh_15 ge_15 le_15_78 rfl (fun _ => rfl) mr_154_15_6 ge_21 ?_
          refine jm_iload_n (pc := 36) (q := 2) (x := x2) d_Lo_earliestHead_36 rfl ?_
          refine jm_iald (pc := 37) d_Lo_earliestHead_37 sh_21 ge_21 le_21_78 (fun v3 => ?_)
          refine jm_mmin (pc := 38) d_Lo_earliestHead_38 ml_Lo_62 sm_JM_min ini_JM mm_min (Nat.le_of_ble_eq_true rfl) (Nat.le_of_ble_eq_true rfl) (Nat.le_of_ble_eq_true rfl) (Nat.le_of_ble_eq_true rfl) ?_
          refine jm_nvi (fun v4 => ?_)
          refine jm_istore_n (pc := 41) (i := 1) (L2 := [(1, .int v4), (0, .ref 15), (2, .int x2)]) d_Lo_earliestHead_41 rfl (Nat.le_of_ble_eq_true rfl) rfl ?_
          refine jm_iinc (pc := 42) (q := 2) (x := x2) (v := 1) (L2 := [(2, .int (x2 + 1)), (1, .int v4), (0, .ref 15)]) d_Lo_earliestHead_42 rfl ci_1 (Nat.le_of_ble_eq_true rfl) rfl ?_
          refine jm_goto (pc := 45) (tgt := 5) d_Lo_earliestHead_45 (by decide) ?_
          refine jm_sub (L2 := [(0, .ref 15), (1, .int v4), (2, .int (x2 + 1))]) [2, 1, 0] rfl ?_
          exact ih v4 (x2 + 1)
      · refine jm_iinc (pc := 42) (q := 2) (x := x2) (v := 1) (L2 := [(2, .int (x2 + 1)), (0, .ref 15), (1, .int x1)]) d_Lo_earliestHead_42 rfl ci_1 (Nat.le_of_ble_eq_true rfl) rfl ?_
        refine jm_goto (pc := 45) (tgt := 5) d_Lo_earliestHead_45 (by decide) ?_
        refine jm_sub (L2 := [(0, .ref 15), (1, .int x1), (2, .int (x2 + 1))]) [1, 2, 0] rfl ?_
        exact ih x1 (x2 + 1)
def s_Lo_earliestHead_15 (s : jm_M) : Option Int32 := s_Lo_earliestHead_15_L5 s 5000 60 0
set_option maxRecDepth 100000 in
set_option maxHeartbeats 4000000 in
theorem s_Lo_earliestHead_15_ok (s : jm_M) : jm_Sim mY_Lo_earliestHead 0 0 0 [(0, .ref 15)] [] 78 mr_154 s (s_Lo_earliestHead_15 s) (jm_rI 78 mr_154 s) := by
  unfold s_Lo_earliestHead_15
  refine jm_bipush (pc := 0) (v := 60) d_Lo_earliestHead_0 cb_60 ?_
  refine jm_istore_n (pc := 2) (i := 1) (L2 := [(1, .int 60), (0, .ref 15)]) d_Lo_earliestHead_2 rfl (Nat.le_of_ble_eq_true rfl) rfl ?_
  refine jm_iconst (pc := 3) (v := 0) d_Lo_earliestHead_3 ci_0 ?_
  refine jm_istore_n (pc := 4) (i := 2) (L2 := [(2, .int 0), (1, .int 60), (0, .ref 15)]) d_Lo_earliestHead_4 rfl (Nat.le_of_ble_eq_true rfl) rfl ?_
  refine jm_sub (L2 := [(0, .ref 15), (1, .int 60), (2, .int 0)]) [2, 1, 0] rfl ?_
  exact s_Lo_earliestHead_15_L5_ok s 5000 60 0
