theorem d_X_falseFor_0 : decode (jm_cd mY_X_falseFor) 0 = .ok (.iload_n 1, 1) := by decide +kernel
theorem d_X_falseFor_1 : decode (jm_cd mY_X_falseFor) 1 = .ok (.invokestatic 158, 3) := by decide +kernel
theorem d_X_falseFor_4 : decode (jm_cd mY_X_falseFor) 4 = .ok (.ifCond .eq 12, 3) := by decide +kernel
theorem d_X_falseFor_7 : decode (jm_cd mY_X_falseFor) 7 = .ok (.iload_n 2, 1) := by decide +kernel
theorem d_X_falseFor_8 : decode (jm_cd mY_X_falseFor) 8 = .ok (.ifCond .lt 8, 3) := by decide +kernel
theorem d_X_falseFor_11 : decode (jm_cd mY_X_falseFor) 11 = .ok (.iload_n 2, 1) := by decide +kernel
theorem d_X_falseFor_12 : decode (jm_cd mY_X_falseFor) 12 = .ok (.iconst 2, 1) := by decide +kernel
theorem d_X_falseFor_13 : decode (jm_cd mY_X_falseFor) 13 = .ok (.if_icmp .le 5, 3) := by decide +kernel
theorem d_X_falseFor_16 : decode (jm_cd mY_X_falseFor) 16 = .ok (.iconst (-1), 1) := by decide +kernel
theorem d_X_falseFor_17 : decode (jm_cd mY_X_falseFor) 17 = .ok (.ireturn, 1) := by decide +kernel
theorem d_X_falseFor_18 : decode (jm_cd mY_X_falseFor) 18 = .ok (.aload_n 0, 1) := by decide +kernel
theorem d_X_falseFor_19 : decode (jm_cd mY_X_falseFor) 19 = .ok (.getfield 31, 3) := by decide +kernel
theorem d_X_falseFor_22 : decode (jm_cd mY_X_falseFor) 22 = .ok (.invokevirtual 141, 3) := by decide +kernel
theorem d_X_falseFor_25 : decode (jm_cd mY_X_falseFor) 25 = .ok (.ifCond .ne 6, 3) := by decide +kernel
theorem d_X_falseFor_28 : decode (jm_cd mY_X_falseFor) 28 = .ok (.bipush (-2), 2) := by decide +kernel
theorem d_X_falseFor_30 : decode (jm_cd mY_X_falseFor) 30 = .ok (.ireturn, 1) := by decide +kernel
theorem d_X_falseFor_31 : decode (jm_cd mY_X_falseFor) 31 = .ok (.aload_n 0, 1) := by decide +kernel
theorem d_X_falseFor_32 : decode (jm_cd mY_X_falseFor) 32 = .ok (.getfield 57, 3) := by decide +kernel
theorem d_X_falseFor_35 : decode (jm_cd mY_X_falseFor) 35 = .ok (.aload_n 0, 1) := by decide +kernel
theorem d_X_falseFor_36 : decode (jm_cd mY_X_falseFor) 36 = .ok (.getfield 31, 3) := by decide +kernel
theorem d_X_falseFor_39 : decode (jm_cd mY_X_falseFor) 39 = .ok (.invokevirtual 152, 3) := by decide +kernel
theorem d_X_falseFor_42 : decode (jm_cd mY_X_falseFor) 42 = .ok (.iload_n 2, 1) := by decide +kernel
theorem d_X_falseFor_43 : decode (jm_cd mY_X_falseFor) 43 = .ok (.ifCond .ne 12, 3) := by decide +kernel
theorem d_X_falseFor_46 : decode (jm_cd mY_X_falseFor) 46 = .ok (.aload_n 0, 1) := by decide +kernel
theorem d_X_falseFor_47 : decode (jm_cd mY_X_falseFor) 47 = .ok (.getfield 57, 3) := by decide +kernel
theorem d_X_falseFor_50 : decode (jm_cd mY_X_falseFor) 50 = .ok (.iload_n 1, 1) := by decide +kernel
theorem d_X_falseFor_51 : decode (jm_cd mY_X_falseFor) 51 = .ok (.invokevirtual 161, 3) := by decide +kernel
theorem d_X_falseFor_54 : decode (jm_cd mY_X_falseFor) 54 = .ok (.ireturn, 1) := by decide +kernel
theorem d_X_falseFor_55 : decode (jm_cd mY_X_falseFor) 55 = .ok (.aload_n 0, 1) := by decide +kernel
theorem d_X_falseFor_56 : decode (jm_cd mY_X_falseFor) 56 = .ok (.getfield 57, 3) := by decide +kernel
theorem d_X_falseFor_59 : decode (jm_cd mY_X_falseFor) 59 = .ok (.iload_n 1, 1) := by decide +kernel
theorem d_X_falseFor_60 : decode (jm_cd mY_X_falseFor) 60 = .ok (.invokevirtual 164, 3) := by decide +kernel
theorem d_X_falseFor_63 : decode (jm_cd mY_X_falseFor) 63 = .ok (.istore_n 3, 1) := by decide +kernel
theorem d_X_falseFor_64 : decode (jm_cd mY_X_falseFor) 64 = .ok (.iload_n 3, 1) := by decide +kernel
theorem d_X_falseFor_65 : decode (jm_cd mY_X_falseFor) 65 = .ok (.bipush (-4), 2) := by decide +kernel
theorem d_X_falseFor_67 : decode (jm_cd mY_X_falseFor) 67 = .ok (.if_icmp .eq 8, 3) := by decide +kernel
theorem d_X_falseFor_70 : decode (jm_cd mY_X_falseFor) 70 = .ok (.iload_n 2, 1) := by decide +kernel
theorem d_X_falseFor_71 : decode (jm_cd mY_X_falseFor) 71 = .ok (.iconst 1, 1) := by decide +kernel
theorem d_X_falseFor_72 : decode (jm_cd mY_X_falseFor) 72 = .ok (.if_icmp .ne 5, 3) := by decide +kernel
theorem d_X_falseFor_75 : decode (jm_cd mY_X_falseFor) 75 = .ok (.iload_n 3, 1) := by decide +kernel
theorem d_X_falseFor_76 : decode (jm_cd mY_X_falseFor) 76 = .ok (.ireturn, 1) := by decide +kernel
theorem d_X_falseFor_77 : decode (jm_cd mY_X_falseFor) 77 = .ok (.aload_n 0, 1) := by decide +kernel
theorem d_X_falseFor_78 : decode (jm_cd mY_X_falseFor) 78 = .ok (.getfield 57, 3) := by decide +kernel
theorem d_X_falseFor_81 : decode (jm_cd mY_X_falseFor) 81 = .ok (.iload_n 3, 1) := by decide +kernel
theorem d_X_falseFor_82 : decode (jm_cd mY_X_falseFor) 82 = .ok (.invokevirtual 167, 3) := by decide +kernel
theorem d_X_falseFor_85 : decode (jm_cd mY_X_falseFor) 85 = .ok (.ireturn, 1) := by decide +kernel
def s_X_falseFor (s : jm_M) (a0 : Int32) (a1 : Int32) : Option (Int32 × jm_M) := jm_bd (s_X_isNumberOfLiars s a0) (fun v1 => (if v1 = 0 then (some ((-1), s)) else (if a1 < 0 then (some ((-1), s)) else (if a1 ≤ 2 then jm_bd (s_Ne_hasEar_15 s) (fun v2 => (if v2 = 0 then (some ((-2), s)) else jm_bd (s_Co_study_48_15 s) (fun s3 => (if a1 = 0 then jm_bd (s_Co_foolingSets s3 a0) (fun v6 => (some (v6, s3))) else jm_bd (s_Co_leastFoolingSet s3 a0) (fun v4 => (if v4 = (-4) then (some (v4, s3)) else (if a1 = 1 then (some (v4, s3)) else jm_bd (s_Co_ring s3 v4) (fun v5 => (some (v5, s3)))))))))) else (some ((-1), s))))))
set_option maxRecDepth 100000 in
set_option maxHeartbeats 4000000 in
theorem s_X_falseFor_ok (s : jm_M) (a0 : Int32) (a1 : Int32) : jm_Sim mY_X_falseFor 0 0 0 [(0, .ref 1), (1, .int a0), (2, .int a1)] [] 78 mr_154 s (s_X_falseFor s a0 a1) (jm_rP 78 mr_154) := by
  unfold s_X_falseFor
  refine jm_iload_n (pc := 0) (q := 1) (x := a0) d_X_falseFor_0 rfl ?_
  refine jm_Sp (pc := 1) (Y' := mY_X_isNumberOfLiars) (avs := [.int a0]) (rest := []) (s_X_isNumberOfLiars_ok s a0) ok_X_isNumberOfLiars l0_X_falseFor__X_isNumberOfLiars ml_X_158 sm_X_isNumberOfLiars d_X_falseFor_1 rfl rfl (Nat.le_of_ble_eq_true rfl) (Nat.le_of_ble_eq_true rfl) (Nat.le_of_ble_eq_true rfl) (Nat.le_of_ble_eq_true rfl) (fun v1 => ?_)
  refine jm_if_eq (pc := 4) (tgt := 16) d_X_falseFor_4 (by decide) ?_ ?_
  · refine jm_iconst (pc := 16) (v := (-1)) d_X_falseFor_16 ci_m1 ?_
    exact jm_iret (pc := 17) (x := (-1)) d_X_falseFor_17 rfl rfl rfl rfl rfl
  · refine jm_iload_n (pc := 7) (q := 2) (x := a1) d_X_falseFor_7 rfl ?_
    refine jm_if_lt (pc := 8) (tgt := 16) d_X_falseFor_8 (by decide) ?_ ?_
    · refine jm_iconst (pc := 16) (v := (-1)) d_X_falseFor_16 ci_m1 ?_
      exact jm_iret (pc := 17) (x := (-1)) d_X_falseFor_17 rfl rfl rfl rfl rfl
    · refine jm_iload_n (pc := 11) (q := 2) (x := a1) d_X_falseFor_11 rfl ?_
      refine jm_iconst (pc := 12) (v := 2) d_X_falseFor_12 ci_2 ?_
      refine jm_icmp_le (pc := 13) (tgt := 18) d_X_falseFor_13 (by decide) ?_ ?_
      · refine jm_aload_n (pc := 18) (q := 0) (x := 1) d_X_falseFor_18 rfl ?_
        refine jm_gr (pc := 19) (i := 1) d_X_falseFor_19 fo_X_31 sh_1 ge_1 le_1_78 rfl (fun _ => rfl) mr_154_1_4 ge_15 ?_
        refine jm_Vp (pc := 22) (Y' := mY_Ne_hasEar) (i := 15) (avs := []) (rest := []) (s_Ne_hasEar_15_ok s) ok_Ne_hasEar l0_X_falseFor__Ne_hasEar ml_X_141 im_Ne_hasEar se_Ne_hasEar d_X_falseFor_22 rfl sh_15 rfl rfl ge_15 le_15_78 rfl (Nat.le_of_ble_eq_true rfl) (Nat.le_of_ble_eq_true rfl) (Nat.le_of_ble_eq_true rfl) (Nat.le_of_ble_eq_true rfl) (fun v2 => ?_)
        refine jm_if_ne (pc := 25) (tgt := 31) d_X_falseFor_25 (by decide) ?_ ?_
        · refine jm_bipush (pc := 28) (v := (-2)) d_X_falseFor_28 cb_m2 ?_
          exact jm_iret (pc := 30) (x := (-2)) d_X_falseFor_30 rfl rfl rfl rfl rfl
        · refine jm_aload_n (pc := 31) (q := 0) (x := 1) d_X_falseFor_31 rfl ?_
          refine jm_gr (pc := 32) (i := 1) d_X_falseFor_32 fo_X_57 sh_1 ge_1 le_1_78 rfl (fun _ => rfl) mr_154_1_10 ge_48 ?_
          refine jm_aload_n (pc := 35) (q := 0) (x := 1) d_X_falseFor_35 rfl ?_
          refine jm_gr (pc := 36) (i := 1) d_X_falseFor_36 fo_X_31 sh_1 ge_1 le_1_78 rfl (fun _ => rfl) mr_154_1_4 ge_15 ?_
          refine jm_Vv (pc := 39) (Y' := mY_Co_study) (i := 48) (avs := [.ref 15]) (rest := []) (s_Co_study_48_15_ok s) ok_Co_study l0_X_falseFor__Co_study ml_X_152 im_Co_study se_Co_study d_X_falseFor_39 rfl sh_48 rfl rfl ge_48 le_48_78 rfl (Nat.le_of_ble_eq_true rfl) (Nat.le_of_ble_eq_true rfl) (Nat.le_of_ble_eq_true rfl) (Nat.le_of_ble_eq_true rfl) (fun s3 => ?_)
          refine jm_iload_n (pc := 42) (q := 2) (x := a1) d_X_falseFor_42 rfl ?_
          refine jm_if_ne (pc := 43) (tgt := 55) d_X_falseFor_43 (by decide) ?_ ?_
          · refine jm_aload_n (pc := 46) (q := 0) (x := 1) d_X_falseFor_46 rfl ?_
            refine jm_gr (pc := 47) (i := 1) d_X_falseFor_47 fo_X_57 sh_1 ge_1 le_1_78 rfl (fun _ => rfl) mr_154_1_10 ge_48 ?_
            refine jm_iload_n (pc := 50) (q := 1) (x := a0) d_X_falseFor_50 rfl ?_
            refine jm_Vp (pc := 51) (Y' := mY_Co_foolingSets) (i := 48) (avs := [.int a0]) (rest := []) (s_Co_foolingSets_ok s3 a0) ok_Co_foolingSets l0_X_falseFor__Co_foolingSets ml_X_161 im_Co_foolingSets se_Co_foolingSets d_X_falseFor_51 rfl sh_48 rfl rfl ge_48 le_48_78 rfl (Nat.le_of_ble_eq_true rfl) (Nat.le_of_ble_eq_true rfl) (Nat.le_of_ble_eq_true rfl) (Nat.le_of_ble_eq_true rfl) (fun v6 => ?_)
            exact jm_iret (pc := 54) (x := v6) d_X_falseFor_54 rfl rfl rfl rfl rfl
          · refine jm_aload_n (pc := 55) (q := 0) (x := 1) d_X_falseFor_55 rfl ?_
            refine jm_gr (pc := 56) (i := 1) d_X_falseFor_56 fo_X_57 sh_1 ge_1 le_1_78 rfl (fun _ => rfl) mr_154_1_10 ge_48 ?_
            refine jm_iload_n (pc := 59) (q := 1) (x := a0) d_X_falseFor_59 rfl ?_
            refine jm_Vp (pc := 60) (Y' := mY_Co_leastFoolingSet) (i := 48) (avs := [.int a0]) (rest := []) (s_Co_leastFoolingSet_ok s3 a0) ok_Co_leastFoolingSet l0_X_falseFor__Co_leastFoolingSet ml_X_164 im_Co_leastFoolingSet se_Co_leastFoolingSet d_X_falseFor_60 rfl sh_48 rfl rfl ge_48 le_48_78 rfl (Nat.le_of_ble_eq_true rfl) (Nat.le_of_ble_eq_true rfl) (Nat.le_of_ble_eq_true rfl) (Nat.le_of_ble_eq_true rfl) (fun v4 => ?_)
            refine jm_istore_n (pc := 63) (i := 3) (L2 := [(3, .int v4), (0, .ref 1), (1, .int a0), (2, .int a1)]) d_X_falseFor_63 rfl (Nat.le_of_ble_eq_true rfl) rfl ?_
            refine jm_iload_n (pc := 64) (q := 0) (x := v4) d_X_falseFor_64 rfl ?_
            refine jm_bipush (pc := 65) (v := (-4)) d_X_falseFor_65 cb_m4 ?_
            refine jm_icmp_eq (pc := 67) (tgt := 75) d_X_falseFor_67 (by decide) ?_ ?_
            · refine jm_iload_n (pc := 75) (q := 0) (x := v4) d_X_falseFor_75 rfl ?_
              exact jm_iret (pc := 76) (x := v4) d_X_falseFor_76 rfl rfl rfl rfl rfl
            · refine jm_iload_n (pc := 70) (q := 3) (x := a1) d_X_falseFor_70 rfl ?_
              refine jm_iconst (pc := 71) (v := 1) d_X_falseFor_71 ci_1 ?_
              refine jm_icmp_ne (pc := 72) (tgt := 77) d_X_falseFor_72 (by decide) ?_ ?_
              · refine jm_iload_n (pc := 75) (q := 0) (x := v4) d_X_falseFor_75 rfl ?_
                exact jm_iret (pc := 76) (x := v4) d_X_falseFor_76 rfl rfl rfl rfl rfl
              · refine jm_aload_n (pc := 77) (q := 1) (x := 1) d_X_falseFor_77 rfl ?_
                refine jm_gr (pc := 78) (i := 1) d_X_falseFor_78 fo_X_57 sh_1 ge_1 le_1_78 rfl (fun _ => rfl) mr_154_1_10 ge_48 ?_
                refine jm_iload_n (pc := 81) (q := 0) (x := v4) d_X_falseFor_81 rfl ?_
                refine jm_Vp (pc := 82) (Y' := mY_Co_ring) (i := 48) (avs := [.int v4]) (rest := []) (s_Co_ring_ok s3 v4) ok_Co_ring l0_X_falseFor__Co_ring ml_X_167 im_Co_ring se_Co_ring d_X_falseFor_82 rfl sh_48 rfl rfl ge_48 le_48_78 rfl (Nat.le_of_ble_eq_true rfl) (Nat.le_of_ble_eq_true rfl) (Nat.le_of_ble_eq_true rfl) (Nat.le_of_ble_eq_true rfl) (fun v5 => ?_)
                exact jm_iret (pc := 85) (x := v5) d_X_falseFor_85 rfl rfl rfl rfl rfl
      · refine jm_iconst (pc := 16) (v := (-1)) d_X_falseFor_16 ci_m1 ?_
        exact jm_iret (pc := 17) (x := (-1)) d_X_falseFor_17 rfl rfl rfl rfl rfl
theorem d_Z_bits_0 : decode (jm_cd mY_Z_bits) 0 = .ok (.iconst 0, 1) := by decide +kernel
theorem d_Z_bits_1 : decode (jm_cd mY_Z_bits) 1 = .ok (.istore_n 1, 1) := by decide +kernel
theorem d_Z_bits_2 : decode (jm_cd mY_Z_bits) 2 = .ok (.iload_n 0, 1) := by decide +kernel
theorem d_Z_bits_3 : decode (jm_cd mY_Z_bits) 3 = .ok (.istore_n 2, 1) := by decide +kernel
theorem d_Z_bits_4 : decode (jm_cd mY_Z_bits) 4 = .ok (.iload_n 2, 1) := by decide +kernel
theorem d_Z_bits_5 : decode (jm_cd mY_Z_bits) 5 = .ok (.ifCond .eq 15, 3) := by decide +kernel
theorem d_Z_bits_8 : decode (jm_cd mY_Z_bits) 8 = .ok (.iinc 1 1, 3) := by decide +kernel
theorem d_Z_bits_11 : decode (jm_cd mY_Z_bits) 11 = .ok (.iload_n 2, 1) := by decide +kernel
theorem d_Z_bits_12 : decode (jm_cd mY_Z_bits) 12 = .ok (.iload_n 2, 1) := by decide +kernel
theorem d_Z_bits_13 : decode (jm_cd mY_Z_bits) 13 = .ok (.iconst 1, 1) := by decide +kernel
theorem d_Z_bits_14 : decode (jm_cd mY_Z_bits) 14 = .ok (.isub, 1) := by decide +kernel
theorem d_Z_bits_15 : decode (jm_cd mY_Z_bits) 15 = .ok (.iand, 1) := by decide +kernel
theorem d_Z_bits_16 : decode (jm_cd mY_Z_bits) 16 = .ok (.istore_n 2, 1) := by decide +kernel
theorem d_Z_bits_17 : decode (jm_cd mY_Z_bits) 17 = .ok (.goto (-13), 3) := by decide +kernel
theorem d_Z_bits_20 : decode (jm_cd mY_Z_bits) 20 = .ok (.iload_n 1, 1) := by decide +kernel
theorem d_Z_bits_21 : decode (jm_cd mY_Z_bits) 21 = .ok (.ireturn, 1) := by decide +kernel
def s_Z_bits_L4 (s : jm_M) : Nat → Int32 → Int32 → Option Int32
  | 0, _, _ => none
  | n + 1, x1, x2 => (if x2 = 0 then (some x1) else jm_vi (x2 &&& (x2 - 1)) (fun v1 => s_Z_bits_L4 s n (x1 + 1) v1))
set_option maxRecDepth 100000 in
set_option maxHeartbeats 4000000 in
theorem s_Z_bits_L4_ok (s : jm_M) : ∀ (n : Nat) (x1 : Int32) (x2 : Int32), jm_Sim mY_Z_bits 0 0 4 [(1, .int x1), (2, .int x2)] [] 78 mr_154 s (s_Z_bits_L4 s n x1 x2) (jm_rI 78 mr_154 s) := by
  intro n
  induction n with
  | zero => intro x1 x2; exact jm_none
  | succ n ih =>
    intro x1 x2
    rw [s_Z_bits_L4]
    refine jm_iload_n (pc := 4) (q := 1) (x := x2) d_Z_bits_4 rfl ?_
    refine jm_if_eq (pc := 5) (tgt := 20) d_Z_bits_5 (by decide) ?_ ?_
    · refine jm_iload_n (pc := 20) (q := 0) (x := x1) d_Z_bits_20 rfl ?_
      exact jm_iret (pc := 21) (x := x1) d_Z_bits_21 rfl rfl rfl rfl rfl
    · refine jm_iinc (pc := 8) (q := 0) (x := x1) (v := 1) (L2 := [(1, .int (x1 + 1)), (2, .int x2)]) d_Z_bits_8 rfl ci_1 (Nat.le_of_ble_eq_true rfl) rfl ?_
      refine jm_iload_n (pc := 11) (q := 1) (x := x2) d_Z_bits_11 rfl ?_
      refine jm_iload_n (pc := 12) (q := 1) (x := x2) d_Z_bits_12 rfl ?_
      refine jm_iconst (pc := 13) (v := 1) d_Z_bits_13 ci_1 ?_
      refine jm_isub (pc := 14) d_Z_bits_14 ?_
      refine jm_iand (pc := 15) d_Z_bits_15 ?_
      refine jm_nvi (fun v1 => ?_)
      refine jm_istore_n (pc := 16) (i := 2) (L2 := [(2, .int v1), (1, .int (x1 + 1))]) d_Z_bits_16 rfl (Nat.le_of_ble_eq_true rfl) rfl ?_
      refine jm_goto (pc := 17) (tgt := 4) d_Z_bits_17 (by decide) ?_
      refine jm_sub (L2 := [(1, .int (x1 + 1)), (2, .int v1)]) [1, 0] rfl ?_
      exact ih (x1 + 1) v1
def s_Z_bits (s : jm_M) (a0 : Int32) : Option Int32 := s_Z_bits_L4 s 5000 0 a0
set_option maxRecDepth 100000 in
set_option maxHeartbeats 4000000 in
theorem s_Z_bits_ok (s : jm_M) (a0 : Int32) : jm_Sim mY_Z_bits 0 0 0 [(0, .int a0)] [] 78 mr_154 s (s_Z_bits s a0) (jm_rI 78 mr_154 s) := by
  unfold s_Z_bits
  refine jm_iconst (pc := 0) (v := 0) d_Z_bits_0 ci_0 ?_
  refine jm_istore_n (pc := 1) (i := 1) (L2 := [(1, .int 0), (0, .int a0)]) d_Z_bits_1 rfl (Nat.le_of_ble_eq_true rfl) rfl ?_
  refine jm_iload_n (pc := 2) (q := 1) (x := a0) d_Z_bits_2 rfl ?_
  refine jm_istore_n (pc := 3) (i := 2) (L2 := [(2, .int a0), (1, .int 0), (0, .int a0)]) d_Z_bits_3 rfl (Nat.le_of_ble_eq_true rfl) rfl ?_
  refine jm_sub (L2 := [(1, .int 0), (2, .int a0)]) [1, 0] rfl ?_
  exact s_Z_bits_L4_ok s 5000 0 a0
theorem d_Z_falseFor_0 : decode (jm_cd mY_Z_falseFor) 0 = .ok (.iload_n 1, 1) := by decide +kernel
theorem d_Z_falseFor_1 : decode (jm_cd mY_Z_falseFor) 1 = .ok (.i2l, 1) := by decide +kernel
theorem d_Z_falseFor_2 : decode (jm_cd mY_Z_falseFor) 2 = .ok (.lconst 0, 1) := by decide +kernel
theorem d_Z_falseFor_3 : decode (jm_cd mY_Z_falseFor) 3 = .ok (.ldc2_w 103, 3) := by decide +kernel
theorem d_Z_falseFor_6 : decode (jm_cd mY_Z_falseFor) 6 = .ok (.invokestatic 69, 3) := by decide +kernel
theorem d_Z_falseFor_9 : decode (jm_cd mY_Z_falseFor) 9 = .ok (.ifCond .eq 15, 3) := by decide +kernel
theorem d_Z_falseFor_12 : decode (jm_cd mY_Z_falseFor) 12 = .ok (.iload_n 2, 1) := by decide +kernel
theorem d_Z_falseFor_13 : decode (jm_cd mY_Z_falseFor) 13 = .ok (.i2l, 1) := by decide +kernel
theorem d_Z_falseFor_14 : decode (jm_cd mY_Z_falseFor) 14 = .ok (.lconst 0, 1) := by decide +kernel
theorem d_Z_falseFor_15 : decode (jm_cd mY_Z_falseFor) 15 = .ok (.ldc2_w 86, 3) := by decide +kernel
theorem d_Z_falseFor_18 : decode (jm_cd mY_Z_falseFor) 18 = .ok (.invokestatic 69, 3) := by decide +kernel
theorem d_Z_falseFor_21 : decode (jm_cd mY_Z_falseFor) 21 = .ok (.ifCond .ne 5, 3) := by decide +kernel
theorem d_Z_falseFor_24 : decode (jm_cd mY_Z_falseFor) 24 = .ok (.iconst (-1), 1) := by decide +kernel
theorem d_Z_falseFor_25 : decode (jm_cd mY_Z_falseFor) 25 = .ok (.ireturn, 1) := by decide +kernel
theorem d_Z_falseFor_26 : decode (jm_cd mY_Z_falseFor) 26 = .ok (.aload_n 0, 1) := by decide +kernel
theorem d_Z_falseFor_27 : decode (jm_cd mY_Z_falseFor) 27 = .ok (.invokevirtual 168, 3) := by decide +kernel
theorem d_Z_falseFor_30 : decode (jm_cd mY_Z_falseFor) 30 = .ok (.bipush (-4), 2) := by decide +kernel
theorem d_Z_falseFor_32 : decode (jm_cd mY_Z_falseFor) 32 = .ok (.if_icmp .ne 6, 3) := by decide +kernel
theorem d_Z_falseFor_35 : decode (jm_cd mY_Z_falseFor) 35 = .ok (.bipush (-2), 2) := by decide +kernel
theorem d_Z_falseFor_37 : decode (jm_cd mY_Z_falseFor) 37 = .ok (.ireturn, 1) := by decide +kernel
theorem d_Z_falseFor_38 : decode (jm_cd mY_Z_falseFor) 38 = .ok (.aload_n 0, 1) := by decide +kernel
theorem d_Z_falseFor_39 : decode (jm_cd mY_Z_falseFor) 39 = .ok (.invokevirtual 203, 3) := by decide +kernel
theorem d_Z_falseFor_42 : decode (jm_cd mY_Z_falseFor) 42 = .ok (.iconst 0, 1) := by decide +kernel
theorem d_Z_falseFor_43 : decode (jm_cd mY_Z_falseFor) 43 = .ok (.istore_n 3, 1) := by decide +kernel
theorem d_Z_falseFor_44 : decode (jm_cd mY_Z_falseFor) 44 = .ok (.bipush (-4), 2) := by decide +kernel
theorem d_Z_falseFor_46 : decode (jm_cd mY_Z_falseFor) 46 = .ok (.istore 4, 2) := by decide +kernel
theorem d_Z_falseFor_48 : decode (jm_cd mY_Z_falseFor) 48 = .ok (.iconst 0, 1) := by decide +kernel
theorem d_Z_falseFor_49 : decode (jm_cd mY_Z_falseFor) 49 = .ok (.istore 5, 2) := by decide +kernel
theorem d_Z_falseFor_51 : decode (jm_cd mY_Z_falseFor) 51 = .ok (.iload 5, 2) := by decide +kernel
theorem d_Z_falseFor_53 : decode (jm_cd mY_Z_falseFor) 53 = .ok (.iconst 1, 1) := by decide +kernel
theorem d_Z_falseFor_54 : decode (jm_cd mY_Z_falseFor) 54 = .ok (.aload_n 0, 1) := by decide +kernel
theorem d_Z_falseFor_55 : decode (jm_cd mY_Z_falseFor) 55 = .ok (.getfield 13, 3) := by decide +kernel
theorem d_Z_falseFor_58 : decode (jm_cd mY_Z_falseFor) 58 = .ok (.iconst 0, 1) := by decide +kernel
theorem d_Z_falseFor_59 : decode (jm_cd mY_Z_falseFor) 59 = .ok (.iaload, 1) := by decide +kernel
theorem d_Z_falseFor_60 : decode (jm_cd mY_Z_falseFor) 60 = .ok (.ishl, 1) := by decide +kernel
theorem d_Z_falseFor_61 : decode (jm_cd mY_Z_falseFor) 61 = .ok (.if_icmp .ge 58, 3) := by decide +kernel
theorem d_Z_falseFor_64 : decode (jm_cd mY_Z_falseFor) 64 = .ok (.iload 5, 2) := by decide +kernel
theorem d_Z_falseFor_66 : decode (jm_cd mY_Z_falseFor) 66 = .ok (.aload_n 0, 1) := by decide +kernel
theorem d_Z_falseFor_67 : decode (jm_cd mY_Z_falseFor) 67 = .ok (.invokevirtual 206, 3) := by decide +kernel
theorem d_Z_falseFor_70 : decode (jm_cd mY_Z_falseFor) 70 = .ok (.iconst (-1), 1) := by decide +kernel
theorem d_Z_falseFor_71 : decode (jm_cd mY_Z_falseFor) 71 = .ok (.ixor, 1) := by decide +kernel
theorem d_Z_falseFor_72 : decode (jm_cd mY_Z_falseFor) 72 = .ok (.iand, 1) := by decide +kernel
theorem d_Z_falseFor_73 : decode (jm_cd mY_Z_falseFor) 73 = .ok (.ifCond .ne 40, 3) := by decide +kernel
theorem d_Z_falseFor_76 : decode (jm_cd mY_Z_falseFor) 76 = .ok (.iload 5, 2) := by decide +kernel
theorem d_Z_falseFor_78 : decode (jm_cd mY_Z_falseFor) 78 = .ok (.invokestatic 212, 3) := by decide +kernel
theorem d_Z_falseFor_81 : decode (jm_cd mY_Z_falseFor) 81 = .ok (.iload_n 1, 1) := by decide +kernel
theorem d_Z_falseFor_82 : decode (jm_cd mY_Z_falseFor) 82 = .ok (.if_icmp .ne 31, 3) := by decide +kernel
theorem d_Z_falseFor_85 : decode (jm_cd mY_Z_falseFor) 85 = .ok (.aload_n 0, 1) := by decide +kernel
theorem d_Z_falseFor_86 : decode (jm_cd mY_Z_falseFor) 86 = .ok (.iload 5, 2) := by decide +kernel
theorem d_Z_falseFor_88 : decode (jm_cd mY_Z_falseFor) 88 = .ok (.invokevirtual 209, 3) := by decide +kernel
theorem d_Z_falseFor_91 : decode (jm_cd mY_Z_falseFor) 91 = .ok (.ifCond .eq 22, 3) := by decide +kernel
theorem d_Z_falseFor_94 : decode (jm_cd mY_Z_falseFor) 94 = .ok (.iload 4, 2) := by decide +kernel
theorem d_Z_falseFor_96 : decode (jm_cd mY_Z_falseFor) 96 = .ok (.bipush (-4), 2) := by decide +kernel
theorem d_Z_falseFor_98 : decode (jm_cd mY_Z_falseFor) 98 = .ok (.if_icmp .ne 8, 3) := by decide +kernel
theorem d_Z_falseFor_101 : decode (jm_cd mY_Z_falseFor) 101 = .ok (.iload 5, 2) := by decide +kernel
theorem d_Z_falseFor_103 : decode (jm_cd mY_Z_falseFor) 103 = .ok (.goto 5, 3) := by decide +kernel
theorem d_Z_falseFor_106 : decode (jm_cd mY_Z_falseFor) 106 = .ok (.iload 4, 2) := by decide +kernel
theorem d_Z_falseFor_108 : decode (jm_cd mY_Z_falseFor) 108 = .ok (.istore 4, 2) := by decide +kernel
theorem d_Z_falseFor_110 : decode (jm_cd mY_Z_falseFor) 110 = .ok (.iinc 3 1, 3) := by decide +kernel
theorem d_Z_falseFor_113 : decode (jm_cd mY_Z_falseFor) 113 = .ok (.iinc 5 1, 3) := by decide +kernel
theorem d_Z_falseFor_116 : decode (jm_cd mY_Z_falseFor) 116 = .ok (.goto (-65), 3) := by decide +kernel
theorem d_Z_falseFor_119 : decode (jm_cd mY_Z_falseFor) 119 = .ok (.iload_n 2, 1) := by decide +kernel
theorem d_Z_falseFor_120 : decode (jm_cd mY_Z_falseFor) 120 = .ok (.iconst 2, 1) := by decide +kernel
theorem d_Z_falseFor_121 : decode (jm_cd mY_Z_falseFor) 121 = .ok (.if_icmp .lt 10, 3) := by decide +kernel
theorem d_Z_falseFor_124 : decode (jm_cd mY_Z_falseFor) 124 = .ok (.iload 4, 2) := by decide +kernel
theorem d_Z_falseFor_126 : decode (jm_cd mY_Z_falseFor) 126 = .ok (.bipush (-4), 2) := by decide +kernel
theorem d_Z_falseFor_128 : decode (jm_cd mY_Z_falseFor) 128 = .ok (.if_icmp .ne 14, 3) := by decide +kernel
theorem d_Z_falseFor_131 : decode (jm_cd mY_Z_falseFor) 131 = .ok (.iload_n 2, 1) := by decide +kernel
theorem d_Z_falseFor_132 : decode (jm_cd mY_Z_falseFor) 132 = .ok (.ifCond .ne 7, 3) := by decide +kernel
theorem d_Z_falseFor_135 : decode (jm_cd mY_Z_falseFor) 135 = .ok (.iload_n 3, 1) := by decide +kernel
theorem d_Z_falseFor_136 : decode (jm_cd mY_Z_falseFor) 136 = .ok (.goto 5, 3) := by decide +kernel
theorem d_Z_falseFor_139 : decode (jm_cd mY_Z_falseFor) 139 = .ok (.iload 4, 2) := by decide +kernel
theorem d_Z_falseFor_141 : decode (jm_cd mY_Z_falseFor) 141 = .ok (.ireturn, 1) := by decide +kernel
theorem d_Z_falseFor_142 : decode (jm_cd mY_Z_falseFor) 142 = .ok (.aload_n 0, 1) := by decide +kernel
theorem d_Z_falseFor_143 : decode (jm_cd mY_Z_falseFor) 143 = .ok (.iload 4, 2) := by decide +kernel
theorem d_Z_falseFor_145 : decode (jm_cd mY_Z_falseFor) 145 = .ok (.invokevirtual 209, 3) := by decide +kernel
theorem d_Z_falseFor_148 : decode (jm_cd mY_Z_falseFor) 148 = .ok (.pop, 1) := by decide +kernel
theorem d_Z_falseFor_149 : decode (jm_cd mY_Z_falseFor) 149 = .ok (.iconst 0, 1) := by decide +kernel
theorem d_Z_falseFor_150 : decode (jm_cd mY_Z_falseFor) 150 = .ok (.istore 5, 2) := by decide +kernel
theorem d_Z_falseFor_152 : decode (jm_cd mY_Z_falseFor) 152 = .ok (.iconst 0, 1) := by decide +kernel
theorem d_Z_falseFor_153 : decode (jm_cd mY_Z_falseFor) 153 = .ok (.istore 6, 2) := by decide +kernel
theorem d_Z_falseFor_155 : decode (jm_cd mY_Z_falseFor) 155 = .ok (.iload 6, 2) := by decide +kernel
theorem d_Z_falseFor_157 : decode (jm_cd mY_Z_falseFor) 157 = .ok (.aload_n 0, 1) := by decide +kernel
theorem d_Z_falseFor_158 : decode (jm_cd mY_Z_falseFor) 158 = .ok (.getfield 13, 3) := by decide +kernel
theorem d_Z_falseFor_161 : decode (jm_cd mY_Z_falseFor) 161 = .ok (.iconst 0, 1) := by decide +kernel
theorem d_Z_falseFor_162 : decode (jm_cd mY_Z_falseFor) 162 = .ok (.iaload, 1) := by decide +kernel
theorem d_Z_falseFor_163 : decode (jm_cd mY_Z_falseFor) 163 = .ok (.if_icmp .ge 34, 3) := by decide +kernel
theorem d_Z_falseFor_166 : decode (jm_cd mY_Z_falseFor) 166 = .ok (.iload 5, 2) := by decide +kernel
theorem d_Z_falseFor_168 : decode (jm_cd mY_Z_falseFor) 168 = .ok (.aload_n 0, 1) := by decide +kernel
theorem d_Z_falseFor_169 : decode (jm_cd mY_Z_falseFor) 169 = .ok (.getfield 58, 3) := by decide +kernel
theorem d_Z_falseFor_172 : decode (jm_cd mY_Z_falseFor) 172 = .ok (.iload 6, 2) := by decide +kernel
theorem d_Z_falseFor_174 : decode (jm_cd mY_Z_falseFor) 174 = .ok (.iaload, 1) := by decide +kernel
theorem d_Z_falseFor_175 : decode (jm_cd mY_Z_falseFor) 175 = .ok (.ldc 186, 2) := by decide +kernel
theorem d_Z_falseFor_177 : decode (jm_cd mY_Z_falseFor) 177 = .ok (.if_icmp .ge 10, 3) := by decide +kernel
theorem d_Z_falseFor_180 : decode (jm_cd mY_Z_falseFor) 180 = .ok (.iconst 1, 1) := by decide +kernel
theorem d_Z_falseFor_181 : decode (jm_cd mY_Z_falseFor) 181 = .ok (.iload 6, 2) := by decide +kernel
theorem d_Z_falseFor_183 : decode (jm_cd mY_Z_falseFor) 183 = .ok (.ishl, 1) := by decide +kernel
theorem d_Z_falseFor_184 : decode (jm_cd mY_Z_falseFor) 184 = .ok (.goto 4, 3) := by decide +kernel
theorem d_Z_falseFor_187 : decode (jm_cd mY_Z_falseFor) 187 = .ok (.iconst 0, 1) := by decide +kernel
theorem d_Z_falseFor_188 : decode (jm_cd mY_Z_falseFor) 188 = .ok (.ior, 1) := by decide +kernel
theorem d_Z_falseFor_189 : decode (jm_cd mY_Z_falseFor) 189 = .ok (.istore 5, 2) := by decide +kernel
theorem d_Z_falseFor_191 : decode (jm_cd mY_Z_falseFor) 191 = .ok (.iinc 6 1, 3) := by decide +kernel
theorem d_Z_falseFor_194 : decode (jm_cd mY_Z_falseFor) 194 = .ok (.goto (-39), 3) := by decide +kernel
theorem d_Z_falseFor_197 : decode (jm_cd mY_Z_falseFor) 197 = .ok (.iload 5, 2) := by decide +kernel
theorem d_Z_falseFor_199 : decode (jm_cd mY_Z_falseFor) 199 = .ok (.ireturn, 1) := by decide +kernel
def s_Z_falseFor_J131 (x2 : Int32) (x3 : Int32) (x4 : Int32) (s : jm_M) : Option (Int32 × jm_M) := (if x2 = 0 then (some (x3, s)) else (some (x4, s)))
set_option maxRecDepth 100000 in
set_option maxHeartbeats 4000000 in
theorem s_Z_falseFor_J131_ok (x2 : Int32) (x3 : Int32) (x4 : Int32) (s : jm_M) : jm_Sim mY_Z_falseFor 0 0 131 [(2, .int x2), (3, .int x3), (4, .int x4)] [] 78 mr_154 s (s_Z_falseFor_J131 x2 x3 x4 s) (jm_rP 78 mr_154) := by
  unfold s_Z_falseFor_J131
  refine jm_iload_n (pc := 131) (q := 0) (x := x2) d_Z_falseFor_131 rfl ?_
  refine jm_if_ne (pc := 132) (tgt := 139) d_Z_falseFor_132 (by decide) ?_ ?_
  · refine jm_iload_n (pc := 135) (q := 1) (x := x3) d_Z_falseFor_135 rfl ?_
    refine jm_goto (pc := 136) (tgt := 141) d_Z_falseFor_136 (by decide) ?_
    exact jm_iret (pc := 141) (x := x3) d_Z_falseFor_141 rfl rfl rfl rfl rfl
  · refine jm_iload (pc := 139) (q := 2) (x := x4) d_Z_falseFor_139 rfl ?_
    exact jm_iret (pc := 141) (x := x4) d_Z_falseFor_141 rfl rfl rfl rfl rfl
def s_Z_falseFor_L155 : Nat → Int32 → Int32 → jm_M → Option (Int32 × jm_M)
  | 0, _, _, _ => none
  | n + 1, x5, x6, s => jm_ldi s 61 4 0 (fun v8 => (if v8 ≤ x6 then (some (x5, s)) else jm_ldi s 76 10 x6 (fun v9 => (if 1000000 ≤ v9 then jm_vi (x5 ||| 0) (fun v10 => s_Z_falseFor_L155 n v10 (x6 + 1) s) else jm_vi (x5 ||| (1 <<< (x6 &&& 31))) (fun v11 => s_Z_falseFor_L155 n v11 (x6 + 1) s)))))
set_option maxRecDepth 100000 in
set_option maxHeartbeats 4000000 in
theorem s_Z_falseFor_L155_ok : ∀ (n : Nat) (x5 : Int32) (x6 : Int32) (s : jm_M), jm_Sim mY_Z_falseFor 0 0 155 [(0, .ref 59), (5, .int x5), (6, .int x6)] [] 78 mr_154 s (s_Z_falseFor_L155 n x5 x6 s) (jm_rP 78 mr_154) := by
  intro n
  induction n with
  | zero => intro x5 x6 s; exact jm_none
  | succ n ih =>
    intro x5 x6 s
    rw [s_Z_falseFor_L155]
    refine jm_iload (pc := 155) (q := 2) (x := x6) d_Z_falseFor_155 rfl ?_
    refine jm_aload_n (pc := 157) (q := 0) (x := 59) d_Z_falseFor_157 rfl ?_
    refine jm_gr (pc := 158) (i := 59) d_Z_falseFor_158 fo_Z_13 sh_59 ge_59 le_59_78 rfl (fun _ => rfl) mr_154_59_2 ge_61 ?_
    refine jm_iconst (pc := 161) (v := 0) d_Z_falseFor_161 ci_0 ?_
    refine jm_iald (pc := 162) d_Z_falseFor_162 sh_61 ge_61 le_61_78 (fun v8 => ?_)
    refine jm_icmp_ge (pc := 163) (tgt := 197) d_Z_falseFor_163 (by decide) ?_ ?_
    · refine jm_iload (pc := 197) (q := 1) (x := x5) d_Z_falseFor_197 rfl ?_
      exact jm_iret (pc := 199) (x := x5) d_Z_falseFor_199 rfl rfl rfl rfl rfl
    · refine jm_iload (pc := 166) (q := 1) (x := x5) d_Z_falseFor_166 rfl ?_
      refine jm_aload_n (pc := 168) (q := 0) (x := 59) d_Z_falseFor_168 rfl ?_
      refine jm_gr (pc := 169) (i := 59) d_Z_falseFor_169 fo_Z_58 sh_59 ge_59 le_59_78 rfl (fun _ => rfl) mr_154_59_27 ge_76 ?_
      refine jm_iload (pc := 172) (q := 2) (x := x6) d_Z_falseFor_172 rfl ?_
      refine jm_iald (pc := 174) d_Z_falseFor_174 sh_76 ge_76 le_76_78 (fun v9 => ?_)
      refine jm_ldc (pc := 175) (v := 1000000) d_Z_falseFor_175 k_Z_186 ?_
      refine jm_icmp_ge (pc := 177) (tgt := 187) d_Z_falseFor_177 (by decide) ?_ ?_
      · refine jm_iconst (pc := 187) (v := 0) d_Z_falseFor_187 ci_0 ?_
        refine jm_ior (pc := 188) d_Z_falseFor_188 ?_
        refine jm_nvi (fun v10 => ?_)
        refine jm_istore (pc := 189) (L2 := [(5, .int v10), (0, .ref 59), (6, .int x6)]) d_Z_falseFor_189 (Nat.le_of_ble_eq_true rfl) rfl ?_
        refine jm_iinc (pc := 191) (q := 2) (x := x6) (v := 1) (L2 := [(6, .int (x6 + 1)), (5, .int v10), (0, .ref 59)]) d_Z_falseFor_191 rfl ci_1 (Nat.le_of_ble_eq_true rfl) rfl ?_
        refine jm_goto (pc := 194) (tgt := 155) d_Z_falseFor_194 (by decide) ?_
        refine jm_sub (L2 := [(0, .ref 59), (5, .int v10), (6, .int (x6 + 1))]) [2, 1, 0] rfl ?_
        exact ih v10 (x6 + 1) s
      · refine jm_iconst (pc := 180) (v := 1) d_Z_falseFor_180 ci_1 ?_
        refine jm_iload (pc := 181) (q := 2) (x := x6) d_Z_falseFor_181 rfl ?_
        refine jm_ishl (pc := 183) d_Z_falseFor_183 ?_
        refine jm_goto (pc := 184) (tgt := 188) d_Z_falseFor_184 (by decide) ?_
        refine jm_ior (pc := 188) d_Z_falseFor_188 ?_
        refine jm_nvi (fun v11 => ?_)
        refine jm_istore (pc := 189) (L2 := [(5, .int v11), (0, .ref 59), (6, .int x6)]) d_Z_falseFor_189 (Nat.le_of_ble_eq_true rfl) rfl ?_
        refine jm_iinc (pc := 191) (q := 2) (x := x6) (v := 1) (L2 := [(6, .int (x6 + 1)), (5, .int v11), (0, .ref 59)]) d_Z_falseFor_191 rfl ci_1 (Nat.le_of_ble_eq_true rfl) rfl ?_
        refine jm_goto (pc := 194) (tgt := 155) d_Z_falseFor_194 (by decide) ?_
        refine jm_sub (L2 := [(0, .ref 59), (5, .int v11), (6, .int (x6 + 1))]) [2, 1, 0] rfl ?_
        exact ih v11 (x6 + 1) s
def s_Z_falseFor_L51 : Nat → Int32 → Int32 → Int32 → Int32 → Int32 → jm_M → Option (Int32 × jm_M)
  | 0, _, _, _, _, _, _ => none
  | n + 1, x1, x2, x3, x4, x5, s => jm_ldi s 61 4 0 (fun v5 => (if (1 <<< (v5 &&& 31)) ≤ x5 then (if x2 < 2 then s_Z_falseFor_J131 x2 x3 x4 s else (if x4 = (-4) then s_Z_falseFor_J131 x2 x3 x4 s else jm_b2 (s_Z_isFalse s x4) (fun v6 s7 => s_Z_falseFor_L155 5000 0 0 s7))) else jm_bd (s_Z_men s) (fun v12 => (if (x5 &&& (v12 ^^^ (-1))) = 0 then jm_bd (s_Z_bits s x5) (fun v13 => (if v13 = x1 then jm_b2 (s_Z_isFalse s x5) (fun v14 s15 => (if v14 = 0 then s_Z_falseFor_L51 n x1 x2 x3 x4 (x5 + 1) s15 else (if x4 = (-4) then s_Z_falseFor_L51 n x1 x2 (x3 + 1) x5 (x5 + 1) s15 else s_Z_falseFor_L51 n x1 x2 (x3 + 1) x4 (x5 + 1) s15))) else s_Z_falseFor_L51 n x1 x2 x3 x4 (x5 + 1) s)) else s_Z_falseFor_L51 n x1 x2 x3 x4 (x5 + 1) s))))
set_option maxRecDepth 100000 in
set_option maxHeartbeats 4000000 in
theorem s_Z_falseFor_L51_ok : ∀ (n : Nat) (x1 : Int32) (x2 : Int32) (x3 : Int32) (x4 : Int32) (x5 : Int32) (s : jm_M), jm_Sim mY_Z_falseFor 0 0 51 [(0, .ref 59), (1, .int x1), (2, .int x2), (3, .int x3), (4, .int x4), (5, .int x5)] [] 78 mr_154 s (s_Z_falseFor_L51 n x1 x2 x3 x4 x5 s) (jm_rP 78 mr_154) := by
  intro n
  induction n with
  | zero => intro x1 x2 x3 x4 x5 s; exact jm_none
  | succ n ih =>
    intro x1 x2 x3 x4 x5 s
    rw [s_Z_falseFor_L51]
    refine jm_iload (pc := 51) (q := 5) (x := x5) d_Z_falseFor_51 rfl ?_
    refine jm_iconst (pc := 53) (v := 1) d_Z_falseFor_53 ci_1 ?_
    refine jm_aload_n (pc := 54) (q := 0) (x := 59) d_Z_falseFor_54 rfl ?_
    refine jm_gr (pc := 55) (i := 59) d_Z_falseFor_55 fo_Z_13 sh_59 ge_59 le_59_78 rfl (fun _ => rfl) mr_154_59_2 ge_61 ?_
    refine jm_iconst (pc := 58) (v := 0) d_Z_falseFor_58 ci_0 ?_
    refine jm_iald (pc := 59) d_Z_falseFor_59 sh_61 ge_61 le_61_78 (fun v5 => ?_)
    refine jm_ishl (pc := 60) d_Z_falseFor_60 ?_
    refine jm_icmp_ge (pc := 61) (tgt := 119) d_Z_falseFor_61 (by decide) ?_ ?_
    · refine jm_iload_n (pc := 119) (q := 2) (x := x2) d_Z_falseFor_119 rfl ?_
      refine jm_iconst (pc := 120) (v := 2) d_Z_falseFor_120 ci_2 ?_
      refine jm_icmp_lt (pc := 121) (tgt := 131) d_Z_falseFor_121 (by decide) ?_ ?_
      · refine jm_sub (L2 := [(2, .int x2), (3, .int x3), (4, .int x4)]) [2, 3, 4] rfl ?_
        exact s_Z_falseFor_J131_ok x2 x3 x4 s
      · refine jm_iload (pc := 124) (q := 4) (x := x4) d_Z_falseFor_124 rfl ?_
        refine jm_bipush (pc := 126) (v := (-4)) d_Z_falseFor_126 cb_m4 ?_
        refine jm_icmp_ne (pc := 128) (tgt := 142) d_Z_falseFor_128 (by decide) ?_ ?_
        · refine jm_sub (L2 := [(2, .int x2), (3, .int x3), (4, .int x4)]) [2, 3, 4] rfl ?_
          exact s_Z_falseFor_J131_ok x2 x3 x4 s
        · refine jm_aload_n (pc := 142) (q := 0) (x := 59) d_Z_falseFor_142 rfl ?_
          refine jm_iload (pc := 143) (q := 4) (x := x4) d_Z_falseFor_143 rfl ?_
          refine jm_Vi (pc := 145) (Y' := mY_Z_isFalse) (i := 59) (avs := [.int x4]) (rest := []) (s_Z_isFalse_ok s x4) ok_Z_isFalse l0_Z_falseFor__Z_isFalse ml_Z_209 im_Z_isFalse se_Z_isFalse d_Z_falseFor_145 rfl sh_59 rfl rfl ge_59 le_59_78 rfl (Nat.le_of_ble_eq_true rfl) (Nat.le_of_ble_eq_true rfl) (Nat.le_of_ble_eq_true rfl) (Nat.le_of_ble_eq_true rfl) (fun v6 s7 => ?_)
          refine jm_pop (pc := 148) d_Z_falseFor_148 rfl ?_
          refine jm_iconst (pc := 149) (v := 0) d_Z_falseFor_149 ci_0 ?_
          refine jm_istore (pc := 150) (L2 := [(5, .int 0), (0, .ref 59), (1, .int x1), (2, .int x2), (3, .int x3), (4, .int x4)]) d_Z_falseFor_150 (Nat.le_of_ble_eq_true rfl) rfl ?_
          refine jm_iconst (pc := 152) (v := 0) d_Z_falseFor_152 ci_0 ?_
          refine jm_istore (pc := 153) (L2 := [(6, .int 0), (5, .int 0), (0, .ref 59), (1, .int x1), (2, .int x2), (3, .int x3), (4, .int x4)]) d_Z_falseFor_153 (Nat.le_of_ble_eq_true rfl) rfl ?_
          refine jm_sub (L2 := [(0, .ref 59), (5, .int 0), (6, .int 0)]) [2, 1, 0] rfl ?_
          exact s_Z_falseFor_L155_ok 5000 0 0 s7
    · refine jm_iload (pc := 64) (q := 5) (x := x5) d_Z_falseFor_64 rfl ?_
      refine jm_aload_n (pc := 66) (q := 0) (x := 59) d_Z_falseFor_66 rfl ?_
      refine jm_Vp (pc := 67) (Y' := mY_Z_men) (i := 59) (avs := []) (rest := [.int x5]) (s_Z_men_ok s) ok_Z_men l0_Z_falseFor__Z_men ml_Z_206 im_Z_men se_Z_men d_Z_falseFor_67 rfl sh_59 rfl rfl ge_59 le_59_78 rfl (Nat.le_of_ble_eq_true rfl) (Nat.le_of_ble_eq_true rfl) (Nat.le_of_ble_eq_true rfl) (Nat.le_of_ble_eq_true rfl) (fun v12 => ?_)
      refine jm_iconst (pc := 70) (v := (-1)) d_Z_falseFor_70 ci_m1 ?_
      refine jm_ixor (pc := 71) d_Z_falseFor_71 ?_
      refine jm_iand (pc := 72) d_Z_falseFor_72 ?_
      refine jm_if_ne (pc := 73) (tgt := 113) d_Z_falseFor_73 (by decide) ?_ ?_
      · refine jm_iload (pc := 76) (q := 5) (x := x5) d_Z_falseFor_76 rfl ?_
        refine jm_Sp (pc := 78) (Y' := mY_Z_bits) (avs := [.int x5]) (rest := []) (s_Z_bits_ok s x5) ok_Z_bits l0_Z_falseFor__Z_bits ml_Z_212 sm_Z_bits d_Z_falseFor_78 rfl rfl (Nat.le_of_ble_eq_true rfl) (Nat.le_of_ble_eq_true rfl) (Nat.le_of_ble_eq_true rfl) (Nat.le_of_ble_eq_true rfl) (fun v13 => ?_)
        refine jm_iload_n (pc := 81) (q := 1) (x := x1) d_Z_falseFor_81 rfl ?_
        refine jm_icmp_ne (pc := 82) (tgt := 113) d_Z_falseFor_82 (by decide) ?_ ?_
        · refine jm_aload_n (pc := 85) (q := 0) (x := 59) d_Z_falseFor_85 rfl ?_
          refine jm_iload (pc := 86) (q := 5) (x := x5) d_Z_falseFor_86 rfl ?_
          refine jm_Vi (pc := 88) (Y' := mY_Z_isFalse) (i := 59) (avs := [.int x5]) (rest := []) (s_Z_isFalse_ok s x5) ok_Z_isFalse l0_Z_falseFor__Z_isFalse ml_Z_209 im_Z_isFalse se_Z_isFalse d_Z_falseFor_88 rfl sh_59 rfl rfl ge_59 le_59_78 rfl (Nat.le_of_ble_eq_true rfl) (Nat.le_of_ble_eq_true rfl) (Nat.le_of_ble_eq_true rfl) (Nat.le_of_ble_eq_true rfl) (fun v14 s15 => ?_)
          refine jm_if_eq (pc := 91) (tgt := 113) d_Z_falseFor_91 (by decide) ?_ ?_
          · refine jm_iinc (pc := 113) (q := 5) (x := x5) (v := 1) (L2 := [(5, .int (x5 + 1)), (0, .ref 59), (1, .int x1), (2, .int x2), (3, .int x3), (4, .int x4)]) d_Z_falseFor_113 rfl ci_1 (Nat.le_of_ble_eq_true rfl) rfl ?_
            refine jm_goto (pc := 116) (tgt := 51) d_Z_falseFor_116 (by decide) ?_
            refine jm_sub (L2 := [(0, .ref 59), (1, .int x1), (2, .int x2), (3, .int x3), (4, .int x4), (5, .int (x5 + 1))]) [1, 2, 3, 4, 5, 0] rfl ?_
            exact ih x1 x2 x3 x4 (x5 + 1) s15
          · refine jm_iload (pc := 94) (q := 4) (x := x4) d_Z_falseFor_94 rfl ?_
            refine jm_bipush (pc := 96) (v := (-4)) d_Z_falseFor_96 cb_m4 ?_
            refine jm_icmp_ne (pc := 98) (tgt := 106) d_Z_falseFor_98 (by decide) ?_ ?_
            · refine jm_iload (pc := 101) (q := 5) (x := x5) d_Z_falseFor_101 rfl ?_
              refine jm_goto (pc := 103) (tgt := 108) d_Z_falseFor_103 (by decide) ?_
              refine jm_istore (pc := 108) (L2 := [(4, .int x5), (0, .ref 59), (1, .int x1), (2, .int x2), (3, .int x3), (5, .int x5)]) d_Z_falseFor_108 (Nat.le_of_ble_eq_true rfl) rfl ?_
              refine jm_iinc (pc := 110) (q := 4) (x := x3) (v := 1) (L2 := [(3, .int (x3 + 1)), (4, .int x5), (0, .ref 59), (1, .int x1), (2, .int x2), (5, .int x5)]) d_Z_falseFor_110 rfl ci_1 (Nat.le_of_ble_eq_true rfl) rfl ?_
              refine jm_iinc (pc := 113) (q := 5) (x := x5) (v := 1) (L2 := [(5, .int (x5 + 1)), (3, .int (x3 + 1)), (4, .int x5), (0, .ref 59), (1, .int x1), (2, .int x2)]) d_Z_falseFor_113 rfl ci_1 (Nat.le_of_ble_eq_true rfl) rfl ?_
              refine jm_goto (pc := 116) (tgt := 51) d_Z_falseFor_116 (by decide) ?_
              refine jm_sub (L2 := [(0, .ref 59), (1, .int x1), (2, .int x2), (3, .int (x3 + 1)), (4, .int x5), (5, .int (x5 + 1))]) [3, 4, 5, 1, 2, 0] rfl ?_
              exact ih x1 x2 (x3 + 1) x5 (x5 + 1) s15
            · refine jm_iload (pc := 106) (q := 4) (x := x4) d_Z_falseFor_106 rfl ?_
              refine jm_istore (pc := 108) (L2 := [(4, .int x4), (0, .ref 59), (1, .int x1), (2, .int x2), (3, .int x3), (5, .int x5)]) d_Z_falseFor_108 (Nat.le_of_ble_eq_true rfl) rfl ?_
              refine jm_iinc (pc := 110) (q := 4) (x := x3) (v := 1) (L2 := [(3, .int (x3 + 1)), (4, .int x4), (0, .ref 59), (1, .int x1), (2, .int x2), (5, .int x5)]) d_Z_falseFor_110 rfl ci_1 (Nat.le_of_ble_eq_true rfl) rfl ?_
              refine jm_iinc (pc := 113) (q := 5) (x := x5) (v := 1) (L2 := [(5, .int (x5 + 1)), (3, .int (x3 + 1)), (4, .int x4), (0, .ref 59), (1, .int x1), (2, .int x2)]) d_Z_falseFor_113 rfl ci_1 (Nat.le_of_ble_eq_true rfl) rfl ?_
              refine jm_goto (pc := 116) (tgt := 51) d_Z_falseFor_116 (by decide) ?_
              refine jm_sub (L2 := [(0, .ref 59), (1, .int x1), (2, .int x2), (3, .int (x3 + 1)), (4, .int x4), (5, .int (x5 + 1))]) [3, 4, 5, 1, 2, 0] rfl ?_
              exact ih x1 x2 (x3 + 1) x4 (x5 + 1) s15
        · refine jm_iinc (pc := 113) (q := 5) (x := x5) (v := 1) (L2 := [(5, .int (x5 + 1)), (0, .ref 59), (1, .int x1), (2, .int x2), (3, .int x3), (4, .int x4)]) d_Z_falseFor_113 rfl ci_1 (Nat.le_of_ble_eq_true rfl) rfl ?_
          refine jm_goto (pc := 116) (tgt := 51) d_Z_falseFor_116 (by decide) ?_
          refine jm_sub (L2 := [(0, .ref 59), (1, .int x1), (2, .int x2), (3, .int x3), (4, .int x4), (5, .int (x5 + 1))]) [1, 2, 3, 4, 5, 0] rfl ?_
          exact ih x1 x2 x3 x4 (x5 + 1) s
      · refine jm_iinc (pc := 113) (q := 5) (x := x5) (v := 1) (L2 := [(5, .int (x5 + 1)), (0, .ref 59), (1, .int x1), (2, .int x2), (3, .int x3), (4, .int x4)]) d_Z_falseFor_113 rfl ci_1 (Nat.le_of_ble_eq_true rfl) rfl ?_
        refine jm_goto (pc := 116) (tgt := 51) d_Z_falseFor_116 (by decide) ?_
        refine jm_sub (L2 := [(0, .ref 59), (1, .int x1), (2, .int x2), (3, .int x3), (4, .int x4), (5, .int (x5 + 1))]) [1, 2, 3, 4, 5, 0] rfl ?_
        exact ih x1 x2 x3 x4 (x5 + 1) s
def s_Z_falseFor (s : jm_M) (a0 : Int32) (a1 : Int32) : Option (Int32 × jm_M) := jm_bd (s_Z_in s a0.toInt64 0 9) (fun v1 => (if v1 = 0 then (some ((-1), s)) else jm_bd (s_Z_in s a1.toInt64 0 2) (fun v2 => (if v2 = 0 then (some ((-1), s)) else jm_bd (s_Z_ear s) (fun v3 => (if v3 = (-4) then (some ((-2), s)) else jm_bd (s_Z_asTold s) (fun s4 => s_Z_falseFor_L51 5000 a0 a1 0 (-4) 0 s4)))))))
set_option maxRecDepth 100000 in
set_option maxHeartbeats 4000000 in
theorem s_Z_falseFor_ok (s : jm_M) (a0 : Int32) (a1 : Int32) : jm_Sim mY_Z_falseFor 0 0 0 [(0, .ref 59), (1, .int a0), (2, .int a1)] [] 78 mr_154 s (s_Z_falseFor s a0 a1) (jm_rP 78 mr_154) := by
  unfold s_Z_falseFor
  refine jm_iload_n (pc := 0) (q := 1) (x := a0) d_Z_falseFor_0 rfl ?_
  refine jm_i2l (pc := 1) d_Z_falseFor_1 ?_
  refine jm_lconst (pc := 2) (v := 0) d_Z_falseFor_2 cl_0 ?_
  refine jm_ldc2 (pc := 3) (v := 9) d_Z_falseFor_3 kl_Z_103 ?_
  refine jm_Sp (pc := 6) (Y' := mY_Z_in) (avs := [.long a0.toInt64, .long 0, .long 9]) (rest := []) (s_Z_in_ok s a0.toInt64 0 9) ok_Z_in l0_Z_falseFor__Z_in ml_Z_69 sm_Z_in d_Z_falseFor_6 rfl rfl (Nat.le_of_ble_eq_true rfl) (Nat.le_of_ble_eq_true rfl) (Nat.le_of_ble_eq_true rfl) (Nat.le_of_ble_eq_true rfl) (fun v1 => ?_)
  refine jm_if_eq (pc := 9) (tgt := 24) d_Z_falseFor_9 (by decide) ?_ ?_
  · refine jm_iconst (pc := 24) (v := (-1)) d_Z_falseFor_24 ci_m1 ?_
    exact jm_iret (pc := 25) (x := (-1)) d_Z_falseFor_25 rfl rfl rfl rfl rfl
  · refine jm_iload_n (pc := 12) (q := 2) (x := a1) d_Z_falseFor_12 rfl ?_
    refine jm_i2l (pc := 13) d_Z_falseFor_13 ?_
    refine jm_lconst (pc := 14) (v := 0) d_Z_falseFor_14 cl_0 ?_
    refine jm_ldc2 (pc := 15) (v := 2) d_Z_falseFor_15 kl_Z_86 ?_
    refine jm_Sp (pc := 18) (Y' := mY_Z_in) (avs := [.long a1.toInt64, .long 0, .long 2]) (rest := []) (s_Z_in_ok s a1.toInt64 0 2) ok_Z_in l0_Z_falseFor__Z_in ml_Z_69 sm_Z_in d_Z_falseFor_18 rfl rfl (Nat.le_of_ble_eq_true rfl) (Nat.le_of_ble_eq_true rfl) (Nat.le_of_ble_eq_true rfl) (Nat.le_of_ble_eq_true rfl) (fun v2 => ?_)
    refine jm_if_ne (pc := 21) (tgt := 26) d_Z_falseFor_21 (by decide) ?_ ?_
    · refine jm_iconst (pc := 24) (v := (-1)) d_Z_falseFor_24 ci_m1 ?_
      exact jm_iret (pc := 25) (x := (-1)) d_Z_falseFor_25 rfl rfl rfl rfl rfl
    · refine jm_aload_n (pc := 26) (q := 0) (x := 59) d_Z_falseFor_26 rfl ?_
      refine jm_Vp (pc := 27) (Y' := mY_Z_ear) (i := 59) (avs := []) (rest := []) (s_Z_ear_ok s) ok_Z_ear l0_Z_falseFor__Z_ear ml_Z_168 im_Z_ear se_Z_ear d_Z_falseFor_27 rfl sh_59 rfl rfl ge_59 le_59_78 rfl (Nat.le_of_ble_eq_true rfl) (Nat.le_of_ble_eq_true rfl) (Nat.le_of_ble_eq_true rfl) (Nat.le_of_ble_eq_true rfl) (fun v3 => ?_)
      refine jm_bipush (pc := 30) (v := (-4)) d_Z_falseFor_30 cb_m4 ?_
      refine jm_icmp_ne (pc := 32) (tgt := 38) d_Z_falseFor_32 (by decide) ?_ ?_
      · refine jm_bipush (pc := 35) (v := (-2)) d_Z_falseFor_35 cb_m2 ?_
        exact jm_iret (pc := 37) (x := (-2)) d_Z_falseFor_37 rfl rfl rfl rfl rfl
      · refine jm_aload_n (pc := 38) (q := 0) (x := 59) d_Z_falseFor_38 rfl ?_
        refine jm_Vv (pc := 39) (Y' := mY_Z_asTold) (i := 59) (avs := []) (rest := []) (s_Z_asTold_ok s) ok_Z_asTold l0_Z_falseFor__Z_asTold ml_Z_203 im_Z_asTold se_Z_asTold d_Z_falseFor_39 rfl sh_59 rfl rfl ge_59 le_59_78 rfl (Nat.le_of_ble_eq_true rfl) (Nat.le_of_ble_eq_true rfl) (Nat.le_of_ble_eq_true rfl) (Nat.le_of_ble_eq_true rfl) (fun s4 => ?_)
        refine jm_iconst (pc := 42) (v := 0) d_Z_falseFor_42 ci_0 ?_
        refine jm_istore_n (pc := 43) (i := 3) (L2 := [(3, .int 0), (0, .ref 59), (1, .int a0), (2, .int a1)]) d_Z_falseFor_43 rfl (Nat.le_of_ble_eq_true rfl) rfl ?_
        refine jm_bipush (pc := 44) (v := (-4)) d_Z_falseFor_44 cb_m4 ?_
        refine jm_istore (pc := 46) (L2 := [(4, .int (-4)), (3, .int 0), (0, .ref 59), (1, .int a0), (2, .int a1)]) d_Z_falseFor_46 (Nat.le_of_ble_eq_true rfl) rfl ?_
        refine jm_iconst (pc := 48) (v := 0) d_Z_falseFor_48 ci_0 ?_
        refine jm_istore (pc := 49) (L2 := [(5, .int 0), (4, .int (-4)), (3, .int 0), (0, .ref 59), (1, .int a0), (2, .int a1)]) d_Z_falseFor_49 (Nat.le_of_ble_eq_true rfl) rfl ?_
        refine jm_sub (L2 := [(0, .ref 59), (1, .int a0), (2, .int a1), (3, .int 0), (4, .int (-4)), (5, .int 0)]) [3, 4, 5, 2, 1, 0] rfl ?_
        exact s_Z_falseFor_L51_ok 5000 a0 a1 0 (-4) 0 s4
theorem d_Co_ruleHeld_0 : decode (jm_cd mY_Co_ruleHeld) 0 = .ok (.iload_n 1, 1) := by decide +kernel
theorem d_Co_ruleHeld_1 : decode (jm_cd mY_Co_ruleHeld) 1 = .ok (.ifCond .lt 9, 3) := by decide +kernel
theorem d_Co_ruleHeld_4 : decode (jm_cd mY_Co_ruleHeld) 4 = .ok (.iload_n 1, 1) := by decide +kernel
theorem d_Co_ruleHeld_5 : decode (jm_cd mY_Co_ruleHeld) 5 = .ok (.bipush 10, 2) := by decide +kernel
theorem d_Co_ruleHeld_7 : decode (jm_cd mY_Co_ruleHeld) 7 = .ok (.if_icmp .lt 5, 3) := by decide +kernel
theorem d_Co_ruleHeld_10 : decode (jm_cd mY_Co_ruleHeld) 10 = .ok (.iconst 0, 1) := by decide +kernel
theorem d_Co_ruleHeld_11 : decode (jm_cd mY_Co_ruleHeld) 11 = .ok (.ireturn, 1) := by decide +kernel
theorem d_Co_ruleHeld_12 : decode (jm_cd mY_Co_ruleHeld) 12 = .ok (.iload_n 2, 1) := by decide +kernel
theorem d_Co_ruleHeld_13 : decode (jm_cd mY_Co_ruleHeld) 13 = .ok (.aload_n 0, 1) := by decide +kernel
theorem d_Co_ruleHeld_14 : decode (jm_cd mY_Co_ruleHeld) 14 = .ok (.getfield 34, 3) := by decide +kernel
theorem d_Co_ruleHeld_17 : decode (jm_cd mY_Co_ruleHeld) 17 = .ok (.iload_n 1, 1) := by decide +kernel
theorem d_Co_ruleHeld_18 : decode (jm_cd mY_Co_ruleHeld) 18 = .ok (.iaload, 1) := by decide +kernel
theorem d_Co_ruleHeld_19 : decode (jm_cd mY_Co_ruleHeld) 19 = .ok (.isub, 1) := by decide +kernel
theorem d_Co_ruleHeld_20 : decode (jm_cd mY_Co_ruleHeld) 20 = .ok (.iconst 1, 1) := by decide +kernel
theorem d_Co_ruleHeld_21 : decode (jm_cd mY_Co_ruleHeld) 21 = .ok (.iadd, 1) := by decide +kernel
theorem d_Co_ruleHeld_22 : decode (jm_cd mY_Co_ruleHeld) 22 = .ok (.istore_n 3, 1) := by decide +kernel
theorem d_Co_ruleHeld_23 : decode (jm_cd mY_Co_ruleHeld) 23 = .ok (.iload_n 3, 1) := by decide +kernel
theorem d_Co_ruleHeld_24 : decode (jm_cd mY_Co_ruleHeld) 24 = .ok (.iconst 1, 1) := by decide +kernel
theorem d_Co_ruleHeld_25 : decode (jm_cd mY_Co_ruleHeld) 25 = .ok (.if_icmp .lt 9, 3) := by decide +kernel
theorem d_Co_ruleHeld_28 : decode (jm_cd mY_Co_ruleHeld) 28 = .ok (.iload_n 3, 1) := by decide +kernel
theorem d_Co_ruleHeld_29 : decode (jm_cd mY_Co_ruleHeld) 29 = .ok (.bipush 100, 2) := by decide +kernel
theorem d_Co_ruleHeld_31 : decode (jm_cd mY_Co_ruleHeld) 31 = .ok (.if_icmp .lt 5, 3) := by decide +kernel
theorem d_Co_ruleHeld_34 : decode (jm_cd mY_Co_ruleHeld) 34 = .ok (.iconst 0, 1) := by decide +kernel
theorem d_Co_ruleHeld_35 : decode (jm_cd mY_Co_ruleHeld) 35 = .ok (.ireturn, 1) := by decide +kernel
theorem d_Co_ruleHeld_36 : decode (jm_cd mY_Co_ruleHeld) 36 = .ok (.aload_n 0, 1) := by decide +kernel
theorem d_Co_ruleHeld_37 : decode (jm_cd mY_Co_ruleHeld) 37 = .ok (.getfield 27, 3) := by decide +kernel
theorem d_Co_ruleHeld_40 : decode (jm_cd mY_Co_ruleHeld) 40 = .ok (.iload_n 1, 1) := by decide +kernel
theorem d_Co_ruleHeld_41 : decode (jm_cd mY_Co_ruleHeld) 41 = .ok (.iaload, 1) := by decide +kernel
theorem d_Co_ruleHeld_42 : decode (jm_cd mY_Co_ruleHeld) 42 = .ok (.aload_n 0, 1) := by decide +kernel
theorem d_Co_ruleHeld_43 : decode (jm_cd mY_Co_ruleHeld) 43 = .ok (.getfield 37, 3) := by decide +kernel
theorem d_Co_ruleHeld_46 : decode (jm_cd mY_Co_ruleHeld) 46 = .ok (.iload_n 3, 1) := by decide +kernel
theorem d_Co_ruleHeld_47 : decode (jm_cd mY_Co_ruleHeld) 47 = .ok (.iaload, 1) := by decide +kernel
theorem d_Co_ruleHeld_48 : decode (jm_cd mY_Co_ruleHeld) 48 = .ok (.iand, 1) := by decide +kernel
theorem d_Co_ruleHeld_49 : decode (jm_cd mY_Co_ruleHeld) 49 = .ok (.invokestatic 58, 3) := by decide +kernel
theorem d_Co_ruleHeld_52 : decode (jm_cd mY_Co_ruleHeld) 52 = .ok (.aload_n 0, 1) := by decide +kernel
theorem d_Co_ruleHeld_53 : decode (jm_cd mY_Co_ruleHeld) 53 = .ok (.getfield 31, 3) := by decide +kernel
theorem d_Co_ruleHeld_56 : decode (jm_cd mY_Co_ruleHeld) 56 = .ok (.iload_n 1, 1) := by decide +kernel
theorem d_Co_ruleHeld_57 : decode (jm_cd mY_Co_ruleHeld) 57 = .ok (.iaload, 1) := by decide +kernel
theorem d_Co_ruleHeld_58 : decode (jm_cd mY_Co_ruleHeld) 58 = .ok (.if_icmp .lt 7, 3) := by decide +kernel
theorem d_Co_ruleHeld_61 : decode (jm_cd mY_Co_ruleHeld) 61 = .ok (.iconst 1, 1) := by decide +kernel
theorem d_Co_ruleHeld_62 : decode (jm_cd mY_Co_ruleHeld) 62 = .ok (.goto 4, 3) := by decide +kernel
theorem d_Co_ruleHeld_65 : decode (jm_cd mY_Co_ruleHeld) 65 = .ok (.iconst 0, 1) := by decide +kernel
theorem d_Co_ruleHeld_66 : decode (jm_cd mY_Co_ruleHeld) 66 = .ok (.ireturn, 1) := by decide +kernel
def s_Co_ruleHeld (s : jm_M) (a0 : Int32) (a1 : Int32) : Option Int32 := (if a0 < 0 then (some 0) else (if a0 < 10 then jm_ldi s 51 10 a0 (fun v1 => jm_vi ((a1 - v1) + 1) (fun v2 => (if v2 < 1 then (some 0) else (if v2 < 100 then jm_ldi s 49 10 a0 (fun v3 => jm_ldi s 52 100 v2 (fun v4 => jm_bd (s_JI_bitCount s (v3 &&& v4)) (fun v5 => jm_ldi s 50 10 a0 (fun v6 => (if v5 < v6 then (some 0) else (some 1)))))) else (some 0))))) else (some 0)))
set_option maxRecDepth 100000 in
set_option maxHeartbeats 4000000 in
theorem s_Co_ruleHeld_ok (s : jm_M) (a0 : Int32) (a1 : Int32) : jm_Sim mY_Co_ruleHeld 0 0 0 [(0, .ref 48), (1, .int a0), (2, .int a1)] [] 78 mr_154 s (s_Co_ruleHeld s a0 a1) (jm_rI 78 mr_154 s) := by
  unfold s_Co_ruleHeld
  refine jm_iload_n (pc := 0) (q := 1) (x := a0) d_Co_ruleHeld_0 rfl ?_
  refine jm_if_lt (pc := 1) (tgt := 10) d_Co_ruleHeld_1 (by decide) ?_ ?_
  · refine jm_iconst (pc := 10) (v := 0) d_Co_ruleHeld_10 ci_0 ?_
    exact jm_iret (pc := 11) (x := 0) d_Co_ruleHeld_11 rfl (by decide) rfl rfl rfl
  · refine jm_iload_n (pc := 4) (q := 1) (x := a0) d_Co_ruleHeld_4 rfl ?_
    refine jm_bipush (pc := 5) (v := 10) d_Co_ruleHeld_5 cb_10 ?_
    refine jm_icmp_lt (pc := 7) (tgt := 12) d_Co_ruleHeld_7 (by decide) ?_ ?_
    · refine jm_iload_n (pc := 12) (q := 2) (x := a1) d_Co_ruleHeld_12 rfl ?_
      refine jm_aload_n (pc := 13) (q := 0) (x := 48) d_Co_ruleHeld_13 rfl ?_
      refine jm_gr (pc := 14) (i := 48) d_Co_ruleHeld_14 fo_Co_34 sh_48 ge_48 le_48_78 rfl (fun _ => rfl) mr_154_48_7 ge_51 ?_
      refine jm_iload_n (pc := 17) (q := 1) (x := a0) d_Co_ruleHeld_17 rfl ?_
      refine jm_iald (pc := 18) d_Co_ruleHeld_18 sh_51 ge_51 le_51_78 (fun v1 => ?_)
      refine jm_isub (pc := 19) d_Co_ruleHeld_19 ?_
      refine jm_iconst (pc := 20) (v := 1) d_Co_ruleHeld_20 ci_1 ?_
      refine jm_iadd (pc := 21) d_Co_ruleHeld_21 ?_
      refine jm_nvi (fun v2 => ?_)
      refine jm_istore_n (pc := 22) (i := 3) (L2 := [(3, .int v2), (0, .ref 48), (1, .int a0), (2, .int a1)]) d_Co_ruleHeld_22 rfl (Nat.le_of_ble_eq_true rfl) rfl ?_
      refine jm_iload_n (pc := 23) (q := 0) (x := v2) d_Co_ruleHeld_23 rfl ?_
      refine jm_iconst (pc := 24) (v := 1) d_Co_ruleHeld_24 ci_1 ?_
      refine jm_icmp_lt (pc := 25) (tgt := 34) d_Co_ruleHeld_25 (by decide) ?_ ?_
      · refine jm_iconst (pc := 34) (v := 0) d_Co_ruleHeld_34 ci_0 ?_
        exact jm_iret (pc := 35) (x := 0) d_Co_ruleHeld_35 rfl (by decide) rfl rfl rfl
      · refine jm_iload_n (pc := 28) (q := 0) (x := v2) d_Co_ruleHeld_28 rfl ?_
        refine jm_bipush (pc := 29) (v := 100) d_Co_ruleHeld_29 cb_100 ?_
        refine jm_icmp_lt (pc := 31) (tgt := 36) d_Co_ruleHeld_31 (by decide) ?_ ?_
        · refine jm_aload_n (pc := 36) (q := 1) (x := 48) d_Co_ruleHeld_36 rfl ?_
          refine jm_gr (pc := 37) (i := 48) d_Co_ruleHeld_37 fo_Co_27 sh_48 ge_48 le_48_78 rfl (fun _ => rfl) mr_154_48_5 ge_49 ?_
          refine jm_iload_n (pc := 40) (q := 2) (x := a0) d_Co_ruleHeld_40 rfl ?_
          refine jm_iald (pc := 41) d_Co_ruleHeld_41 sh_49 ge_49 le_49_78 (fun v3 => ?_)
          refine jm_aload_n (pc := 42) (q := 1) (x := 48) d_Co_ruleHeld_42 rfl ?_
          refine jm_gr (pc := 43) (i := 48) d_Co_ruleHeld_43 fo_Co_37 sh_48 ge_48 le_48_78 rfl (fun _ => rfl) mr_154_48_8 ge_52 ?_
          refine jm_iload_n (pc := 46) (q := 0) (x := v2) d_Co_ruleHeld_46 rfl ?_
          refine jm_iald (pc := 47) d_Co_ruleHeld_47 sh_52 ge_52 le_52_78 (fun v4 => ?_)
          refine jm_iand (pc := 48) d_Co_ruleHeld_48 ?_
          refine jm_Sp (pc := 49) (Y' := mY_JI_bitCount) (avs := [.int (v3 &&& v4)]) (rest := []) (s_JI_bitCount_ok s (v3 &&& v4)) ok_JI_bitCount l0_Co_ruleHeld__JI_bitCount ml_Co_58 sm_JI_bitCount d_Co_ruleHeld_49 rfl rfl (Nat.le_of_ble_eq_true rfl) (Nat.le_of_ble_eq_true rfl) (Nat.le_of_ble_eq_true rfl) (Nat.le_of_ble_eq_true rfl) (fun v5 => ?_)
          refine jm_aload_n (pc := 52) (q := 1) (x := 48) d_Co_ruleHeld_52 rfl ?_
          refine jm_gr (pc := 53) (i := 48) d_Co_ruleHeld_53 fo_Co_31 sh_48 ge_48 le_48_78 rfl (fun _ => rfl) mr_154_48_6 ge_50 ?_
          refine jm_iload_n (pc := 56) (q := 2) (x := a0) d_Co_ruleHeld_56 rfl ?_
          refine jm_iald (pc := 57) d_Co_ruleHeld_57 sh_50 ge_50 le_50_78 (fun v6 => ?_)
          refine jm_icmp_lt (pc := 58) (tgt := 65) d_Co_ruleHeld_58 (by decide) ?_ ?_
          · refine jm_iconst (pc := 65) (v := 0) d_Co_ruleHeld_65 ci_0 ?_
            exact jm_iret (pc := 66) (x := 0) d_Co_ruleHeld_66 rfl (by decide) rfl rfl rfl
          · refine jm_iconst (pc := 61) (v := 1) d_Co_ruleHeld_61 ci_1 ?_
            refine jm_goto (pc := 62) (tgt := 66) d_Co_ruleHeld_62 (by decide) ?_
            exact jm_iret (pc := 66) (x := 1) d_Co_ruleHeld_66 rfl (by decide) rfl rfl rfl
        · refine jm_iconst (pc := 34) (v := 0) d_Co_ruleHeld_34 ci_0 ?_
          exact jm_iret (pc := 35) (x := 0) d_Co_ruleHeld_35 rfl (by decide) rfl rfl rfl
    · refine jm_iconst (pc := 10) (v := 0) d_Co_ruleHeld_10 ci_0 ?_
      exact jm_iret (pc := 11) (x := 0) d_Co_ruleHeld_11 rfl (by decide) rfl rfl rfl
theorem d_Co_spread_0 : decode (jm_cd mY_Co_spread) 0 = .ok (.aload_n 0, 1) := by decide +kernel
theorem d_Co_spread_1 : decode (jm_cd mY_Co_spread) 1 = .ok (.getfield 24, 3) := by decide +kernel
theorem d_Co_spread_4 : decode (jm_cd mY_Co_spread) 4 = .ok (.iload_n 2, 1) := by decide +kernel
theorem d_Co_spread_5 : decode (jm_cd mY_Co_spread) 5 = .ok (.iconst (-1), 1) := by decide +kernel
theorem d_Co_spread_6 : decode (jm_cd mY_Co_spread) 6 = .ok (.ixor, 1) := by decide +kernel
theorem d_Co_spread_7 : decode (jm_cd mY_Co_spread) 7 = .ok (.iand, 1) := by decide +kernel
theorem d_Co_spread_8 : decode (jm_cd mY_Co_spread) 8 = .ok (.iload_n 1, 1) := by decide +kernel
theorem d_Co_spread_9 : decode (jm_cd mY_Co_spread) 9 = .ok (.iconst (-1), 1) := by decide +kernel
theorem d_Co_spread_10 : decode (jm_cd mY_Co_spread) 10 = .ok (.ixor, 1) := by decide +kernel
theorem d_Co_spread_11 : decode (jm_cd mY_Co_spread) 11 = .ok (.iand, 1) := by decide +kernel
theorem d_Co_spread_12 : decode (jm_cd mY_Co_spread) 12 = .ok (.istore 4, 2) := by decide +kernel
theorem d_Co_spread_14 : decode (jm_cd mY_Co_spread) 14 = .ok (.iload_n 1, 1) := by decide +kernel
theorem d_Co_spread_15 : decode (jm_cd mY_Co_spread) 15 = .ok (.istore 5, 2) := by decide +kernel
theorem d_Co_spread_17 : decode (jm_cd mY_Co_spread) 17 = .ok (.iconst 1, 1) := by decide +kernel
theorem d_Co_spread_18 : decode (jm_cd mY_Co_spread) 18 = .ok (.istore 6, 2) := by decide +kernel
theorem d_Co_spread_20 : decode (jm_cd mY_Co_spread) 20 = .ok (.iconst 1, 1) := by decide +kernel
theorem d_Co_spread_21 : decode (jm_cd mY_Co_spread) 21 = .ok (.istore 7, 2) := by decide +kernel
theorem d_Co_spread_23 : decode (jm_cd mY_Co_spread) 23 = .ok (.iload 7, 2) := by decide +kernel
theorem d_Co_spread_25 : decode (jm_cd mY_Co_spread) 25 = .ok (.bipush 100, 2) := by decide +kernel
theorem d_Co_spread_27 : decode (jm_cd mY_Co_spread) 27 = .ok (.if_icmp .ge 108, 3) := by decide +kernel
theorem d_Co_spread_30 : decode (jm_cd mY_Co_spread) 30 = .ok (.iload 7, 2) := by decide +kernel
theorem d_Co_spread_32 : decode (jm_cd mY_Co_spread) 32 = .ok (.iload 6, 2) := by decide +kernel
theorem d_Co_spread_34 : decode (jm_cd mY_Co_spread) 34 = .ok (.bipush 9, 2) := by decide +kernel
theorem d_Co_spread_36 : decode (jm_cd mY_Co_spread) 36 = .ok (.iadd, 1) := by decide +kernel
theorem d_Co_spread_37 : decode (jm_cd mY_Co_spread) 37 = .ok (.if_icmp .gt 98, 3) := by decide +kernel
theorem d_Co_spread_40 : decode (jm_cd mY_Co_spread) 40 = .ok (.aload_n 0, 1) := by decide +kernel
theorem d_Co_spread_41 : decode (jm_cd mY_Co_spread) 41 = .ok (.getfield 37, 3) := by decide +kernel
theorem d_Co_spread_44 : decode (jm_cd mY_Co_spread) 44 = .ok (.iload 7, 2) := by decide +kernel
theorem d_Co_spread_46 : decode (jm_cd mY_Co_spread) 46 = .ok (.iload 5, 2) := by decide +kernel
theorem d_Co_spread_48 : decode (jm_cd mY_Co_spread) 48 = .ok (.iastore, 1) := by decide +kernel
theorem d_Co_spread_49 : decode (jm_cd mY_Co_spread) 49 = .ok (.aload_n 0, 1) := by decide +kernel
theorem d_Co_spread_50 : decode (jm_cd mY_Co_spread) 50 = .ok (.iload 7, 2) := by decide +kernel
theorem d_Co_spread_52 : decode (jm_cd mY_Co_spread) 52 = .ok (.putfield 40, 3) := by decide +kernel
theorem d_Co_spread_55 : decode (jm_cd mY_Co_spread) 55 = .ok (.aload_n 0, 1) := by decide +kernel
theorem d_Co_spread_56 : decode (jm_cd mY_Co_spread) 56 = .ok (.iload_n 3, 1) := by decide +kernel
theorem d_Co_spread_57 : decode (jm_cd mY_Co_spread) 57 = .ok (.iload 7, 2) := by decide +kernel
theorem d_Co_spread_59 : decode (jm_cd mY_Co_spread) 59 = .ok (.invokevirtual 78, 3) := by decide +kernel
theorem d_Co_spread_62 : decode (jm_cd mY_Co_spread) 62 = .ok (.ifCond .eq 6, 3) := by decide +kernel
theorem d_Co_spread_65 : decode (jm_cd mY_Co_spread) 65 = .ok (.iload 7, 2) := by decide +kernel
theorem d_Co_spread_67 : decode (jm_cd mY_Co_spread) 67 = .ok (.ireturn, 1) := by decide +kernel
theorem d_Co_spread_68 : decode (jm_cd mY_Co_spread) 68 = .ok (.iconst 0, 1) := by decide +kernel
theorem d_Co_spread_69 : decode (jm_cd mY_Co_spread) 69 = .ok (.istore 8, 2) := by decide +kernel
theorem d_Co_spread_71 : decode (jm_cd mY_Co_spread) 71 = .ok (.iload 8, 2) := by decide +kernel
theorem d_Co_spread_73 : decode (jm_cd mY_Co_spread) 73 = .ok (.bipush 10, 2) := by decide +kernel
theorem d_Co_spread_75 : decode (jm_cd mY_Co_spread) 75 = .ok (.if_icmp .ge 45, 3) := by decide +kernel
theorem d_Co_spread_78 : decode (jm_cd mY_Co_spread) 78 = .ok (.iload 4, 2) := by decide +kernel
theorem d_Co_spread_80 : decode (jm_cd mY_Co_spread) 80 = .ok (.iload 8, 2) := by decide +kernel
theorem d_Co_spread_82 : decode (jm_cd mY_Co_spread) 82 = .ok (.ishr, 1) := by decide +kernel
theorem d_Co_spread_83 : decode (jm_cd mY_Co_spread) 83 = .ok (.iconst 1, 1) := by decide +kernel
theorem d_Co_spread_84 : decode (jm_cd mY_Co_spread) 84 = .ok (.iand, 1) := by decide +kernel
theorem d_Co_spread_85 : decode (jm_cd mY_Co_spread) 85 = .ok (.ifCond .eq 29, 3) := by decide +kernel
theorem d_Co_spread_88 : decode (jm_cd mY_Co_spread) 88 = .ok (.aload_n 0, 1) := by decide +kernel
theorem d_Co_spread_89 : decode (jm_cd mY_Co_spread) 89 = .ok (.iload 8, 2) := by decide +kernel
theorem d_Co_spread_91 : decode (jm_cd mY_Co_spread) 91 = .ok (.iload 7, 2) := by decide +kernel
theorem d_Co_spread_93 : decode (jm_cd mY_Co_spread) 93 = .ok (.invokevirtual 78, 3) := by decide +kernel
theorem d_Co_spread_96 : decode (jm_cd mY_Co_spread) 96 = .ok (.ifCond .eq 18, 3) := by decide +kernel
theorem d_Co_spread_99 : decode (jm_cd mY_Co_spread) 99 = .ok (.iload 5, 2) := by decide +kernel
theorem d_Co_spread_101 : decode (jm_cd mY_Co_spread) 101 = .ok (.iconst 1, 1) := by decide +kernel
theorem d_Co_spread_102 : decode (jm_cd mY_Co_spread) 102 = .ok (.iload 8, 2) := by decide +kernel
theorem d_Co_spread_104 : decode (jm_cd mY_Co_spread) 104 = .ok (.ishl, 1) := by decide +kernel
theorem d_Co_spread_105 : decode (jm_cd mY_Co_spread) 105 = .ok (.ior, 1) := by decide +kernel
theorem d_Co_spread_106 : decode (jm_cd mY_Co_spread) 106 = .ok (.istore 5, 2) := by decide +kernel
theorem d_Co_spread_108 : decode (jm_cd mY_Co_spread) 108 = .ok (.iload 7, 2) := by decide +kernel
theorem d_Co_spread_110 : decode (jm_cd mY_Co_spread) 110 = .ok (.iconst 1, 1) := by decide +kernel
theorem d_Co_spread_111 : decode (jm_cd mY_Co_spread) 111 = .ok (.iadd, 1) := by decide +kernel
theorem d_Co_spread_112 : decode (jm_cd mY_Co_spread) 112 = .ok (.istore 6, 2) := by decide +kernel
theorem d_Co_spread_114 : decode (jm_cd mY_Co_spread) 114 = .ok (.iinc 8 1, 3) := by decide +kernel
theorem d_Co_spread_117 : decode (jm_cd mY_Co_spread) 117 = .ok (.goto (-46), 3) := by decide +kernel
theorem d_Co_spread_120 : decode (jm_cd mY_Co_spread) 120 = .ok (.iload 4, 2) := by decide +kernel
theorem d_Co_spread_122 : decode (jm_cd mY_Co_spread) 122 = .ok (.iload 5, 2) := by decide +kernel
theorem d_Co_spread_124 : decode (jm_cd mY_Co_spread) 124 = .ok (.iconst (-1), 1) := by decide +kernel
theorem d_Co_spread_125 : decode (jm_cd mY_Co_spread) 125 = .ok (.ixor, 1) := by decide +kernel
theorem d_Co_spread_126 : decode (jm_cd mY_Co_spread) 126 = .ok (.iand, 1) := by decide +kernel
theorem d_Co_spread_127 : decode (jm_cd mY_Co_spread) 127 = .ok (.istore 4, 2) := by decide +kernel
theorem d_Co_spread_129 : decode (jm_cd mY_Co_spread) 129 = .ok (.iinc 7 1, 3) := by decide +kernel
theorem d_Co_spread_132 : decode (jm_cd mY_Co_spread) 132 = .ok (.goto (-109), 3) := by decide +kernel
theorem d_Co_spread_135 : decode (jm_cd mY_Co_spread) 135 = .ok (.bipush (-4), 2) := by decide +kernel
theorem d_Co_spread_137 : decode (jm_cd mY_Co_spread) 137 = .ok (.ireturn, 1) := by decide +kernel
def s_Co_spread_L71 (k17 : Int32 → Int32 → Int32 → Int32 → Int32 → jm_M → Option (Int32 × jm_M)) : Nat → Int32 → Int32 → Int32 → Int32 → Int32 → Int32 → jm_M → Option (Int32 × jm_M)
  | 0, _, _, _, _, _, _, _ => none
  | n + 1, x3, x4, x5, x6, x7, x8, s => (if 10 ≤ x8 then jm_vi (x4 &&& (x5 ^^^ (-1))) (fun v5 => k17 x3 v5 x5 x6 (x7 + 1) s) else (if ((x4 >>> (x8 &&& 31)) &&& 1) = 0 then s_Co_spread_L71 k17 n x3 x4 x5 x6 x7 (x8 + 1) s else jm_bd (s_Co_ruleHeld s x8 x7) (fun v6 => (if v6 = 0 then s_Co_spread_L71 k17 n x3 x4 x5 x6 x7 (x8 + 1) s else jm_vi (x5 ||| (1 <<< (x8 &&& 31))) (fun v7 => jm_vi (x7 + 1) (fun v8 => s_Co_spread_L71 k17 n x3 x4 v7 v8 x7 (x8 + 1) s))))))
set_option maxRecDepth 100000 in
set_option maxHeartbeats 4000000 in
theorem s_Co_spread_L71_ok {k17 : Int32 → Int32 → Int32 → Int32 → Int32 → jm_M → Option (Int32 × jm_M)} (hk17 : ∀ (x3 : Int32) (x4 : Int32) (x5 : Int32) (x6 : Int32) (x7 : Int32) (s : jm_M), jm_Sim mY_Co_spread 0 0 23 [(0, .ref 48), (3, .int x3), (4, .int x4), (5, .int x5), (6, .int x6), (7, .int x7)] [] 78 mr_154 s (k17 x3 x4 x5 x6 x7 s) (jm_rP 78 mr_154)) : ∀ (n : Nat) (x3 : Int32) (x4 : Int32) (x5 : Int32) (x6 : Int32) (x7 : Int32) (x8 : Int32) (s : jm_M), jm_Sim mY_Co_spread 0 0 71 [(0, .ref 48), (3, .int x3), (4, .int x4), (5, .int x5), (6, .int x6), (7, .int x7), (8, .int x8)] [] 78 mr_154 s (s_Co_spread_L71 k17 n x3 x4 x5 x6 x7 x8 s) (jm_rP 78 mr_154) := by
  intro n
  induction n with
  | zero => intro x3 x4 x5 x6 x7 x8 s; exact jm_none
  | succ n ih =>
    intro x3 x4 x5 x6 x7 x8 s
    rw [s_Co_spread_L71]
    refine jm_iload (pc := 71) (q := 6) (x := x8) d_Co_spread_71 rfl ?_
    refine jm_bipush (pc := 73) (v := 10) d_Co_spread_73 cb_10 ?_
    refine jm_icmp_ge (pc := 75) (tgt := 120) d_Co_spread_75 (by decide) ?_ ?_
    · refine jm_iload (pc := 120) (q := 2) (x := x4) d_Co_spread_120 rfl ?_
      refine jm_iload (pc := 122) (q := 3) (x := x5) d_Co_spread_122 rfl ?_
      refine jm_iconst (pc := 124) (v := (-1)) d_Co_spread_124 ci_m1 ?_
      refine jm_ixor (pc := 125) d_Co_spread_125 ?_
      refine jm_iand (pc := 126) d_Co_spread_126 ?_
      refine jm_nvi (fun v5 => ?_)
      refine jm_istore (pc := 127) (L2 := [(4, .int v5), (0, .ref 48), (3, .int x3), (5, .int x5), (6, .int x6), (7, .int x7), (8, .int x8)]) d_Co_spread_127 (Nat.le_of_ble_eq_true rfl) rfl ?_
      refine jm_iinc (pc := 129) (q := 5) (x := x7) (v := 1) (L2 := [(7, .int (x7 + 1)), (4, .int v5), (0, .ref 48), (3, .int x3), (5, .int x5), (6, .int x6), (8, .int x8)]) d_Co_spread_129 rfl ci_1 (Nat.le_of_ble_eq_true rfl) rfl ?_
      refine jm_goto (pc := 132) (tgt := 23) d_Co_spread_132 (by decide) ?_
      refine jm_sub (L2 := [(0, .ref 48), (3, .int x3), (4, .int v5), (5, .int x5), (6, .int x6), (7, .int (x7 + 1))]) [2, 3, 1, 4, 5, 0] rfl ?_
      exact hk17 x3 v5 x5 x6 (x7 + 1) s
    · refine jm_iload (pc := 78) (q := 2) (x := x4) d_Co_spread_78 rfl ?_
      refine jm_iload (pc := 80) (q := 6) (x := x8) d_Co_spread_80 rfl ?_
      refine jm_ishr (pc := 82) d_Co_spread_82 ?_
      refine jm_iconst (pc := 83) (v := 1) d_Co_spread_83 ci_1 ?_
      refine jm_iand (pc := 84) d_Co_spread_84 ?_
      refine jm_if_eq (pc := 85) (tgt := 114) d_Co_spread_85 (by decide) ?_ ?_
      · refine jm_iinc (pc := 114) (q := 6) (x := x8) (v := 1) (L2 := [(8, .int (x8 + 1)), (0, .ref 48), (3, .int x3), (4, .int x4), (5, .int x5), (6, .int x6), (7, .int x7)]) d_Co_spread_114 rfl ci_1 (Nat.le_of_ble_eq_true rfl) rfl ?_
        refine jm_goto (pc := 117) (tgt := 71) d_Co_spread_117 (by decide) ?_
        refine jm_sub (L2 := [(0, .ref 48), (3, .int x3), (4, .int x4), (5, .int x5), (6, .int x6), (7, .int x7), (8, .int (x8 + 1))]) [1, 2, 3, 4, 5, 6, 0] rfl ?_
        exact ih x3 x4 x5 x6 x7 (x8 + 1) s
      · refine jm_aload_n (pc := 88) (q := 0) (x := 48) d_Co_spread_88 rfl ?_
        refine jm_iload (pc := 89) (q := 6) (x := x8) d_Co_spread_89 rfl ?_
        refine jm_iload (pc := 91) (q := 5) (x := x7) d_Co_spread_91 rfl ?_
        refine jm_Vp (pc := 93) (Y' := mY_Co_ruleHeld) (i := 48) (avs := [.int x8, .int x7]) (rest := []) (s_Co_ruleHeld_ok s x8 x7) ok_Co_ruleHeld l0_Co_spread__Co_ruleHeld ml_Co_78 im_Co_ruleHeld se_Co_ruleHeld d_Co_spread_93 rfl sh_48 rfl rfl ge_48 le_48_78 rfl (Nat.le_of_ble_eq_true rfl) (Nat.le_of_ble_eq_true rfl) (Nat.le_of_ble_eq_true rfl) (Nat.le_of_ble_eq_true rfl) (fun v6 => ?_)
        refine jm_if_eq (pc := 96) (tgt := 114) d_Co_spread_96 (by decide) ?_ ?_
        · refine jm_iinc (pc := 114) (q := 6) (x := x8) (v := 1) (L2 := [(8, .int (x8 + 1)), (0, .ref 48), (3, .int x3), (4, .int x4), (5, .int x5), (6, .int x6), (7, .int x7)]) d_Co_spread_114 rfl ci_1 (Nat.le_of_ble_eq_true rfl) rfl ?_
          refine jm_goto (pc := 117) (tgt := 71) d_Co_spread_117 (by decide) ?_
          refine jm_sub (L2 := [(0, .ref 48), (3, .int x3), (4, .int x4), (5, .int x5), (6, .int x6), (7, .int x7), (8, .int (x8 + 1))]) [1, 2, 3, 4, 5, 6, 0] rfl ?_
          exact ih x3 x4 x5 x6 x7 (x8 + 1) s
        · refine jm_iload (pc := 99) (q := 3) (x := x5) d_Co_spread_99 rfl ?_
          refine jm_iconst (pc := 101) (v := 1) d_Co_spread_101 ci_1 ?_
          refine jm_iload (pc := 102) (q := 6) (x := x8) d_Co_spread_102 rfl ?_
          refine jm_ishl (pc := 104) d_Co_spread_104 ?_
          refine jm_ior (pc := 105) d_Co_spread_105 ?_
          refine jm_nvi (fun v7 => ?_)
          refine jm_istore (pc := 106) (L2 := [(5, .int v7), (0, .ref 48), (3, .int x3), (4, .int x4), (6, .int x6), (7, .int x7), (8, .int x8)]) d_Co_spread_106 (Nat.le_of_ble_eq_true rfl) rfl ?_
          refine jm_iload (pc := 108) (q := 5) (x := x7) d_Co_spread_108 rfl ?_
          refine jm_iconst (pc := 110) (v := 1) d_Co_spread_110 ci_1 ?_
          refine jm_iadd (pc := 111) d_Co_spread_111 ?_
          refine jm_nvi (fun v8 => ?_)
          refine jm_istore (pc := 112) (L2 := [(6, .int v8), (5, .int v7), (0, .ref 48), (3, .int x3), (4, .int x4), (7, .int x7), (8, .int x8)]) d_Co_spread_112 (Nat.le_of_ble_eq_true rfl) rfl ?_
          refine jm_iinc (pc := 114) (q := 6) (x := x8) (v := 1) (L2 := [(8, .int (x8 + 1)), (6, .int v8), (5, .int v7), (0, .ref 48), (3, .int x3), (4, .int x4), (7, .int x7)]) d_Co_spread_114 rfl ci_1 (Nat.le_of_ble_eq_true rfl) rfl ?_
          refine jm_goto (pc := 117) (tgt := 71) d_Co_spread_117 (by decide) ?_
          refine jm_sub (L2 := [(0, .ref 48), (3, .int x3), (4, .int x4), (5, .int v7), (6, .int v8), (7, .int x7), (8, .int (x8 + 1))]) [3, 4, 5, 2, 1, 6, 0] rfl ?_
          exact ih x3 x4 v7 v8 x7 (x8 + 1) s
def s_Co_spread_L23 : Nat → Int32 → Int32 → Int32 → Int32 → Int32 → jm_M → Option (Int32 × jm_M)
  | 0, _, _, _, _, _, _ => none
  | n + 1, x3, x4, x5, x6, x7, s => (if 100 ≤ x7 then (some ((-4), s)) else (if (x6 + 9) < x7 then (some ((-4), s)) else jm_sti s 52 100 x7 x5 (fun s2 => jm_ev (jm_si s2 48 9 x7) (fun s3 => jm_bd (s_Co_ruleHeld s3 x3 x7) (fun v4 => (if v4 = 0 then s_Co_spread_L71 (s_Co_spread_L23 n) 5000 x3 x4 x5 x6 x7 0 s3 else (some (x7, s3))))))))
set_option maxRecDepth 100000 in
set_option maxHeartbeats 4000000 in
theorem s_Co_spread_L23_ok : ∀ (n : Nat) (x3 : Int32) (x4 : Int32) (x5 : Int32) (x6 : Int32) (x7 : Int32) (s : jm_M), jm_Sim mY_Co_spread 0 0 23 [(0, .ref 48), (3, .int x3), (4, .int x4), (5, .int x5), (6, .int x6), (7, .int x7)] [] 78 mr_154 s (s_Co_spread_L23 n x3 x4 x5 x6 x7 s) (jm_rP 78 mr_154) := by
  intro n
  induction n with
  | zero => intro x3 x4 x5 x6 x7 s; exact jm_none
  | succ n ih =>
    intro x3 x4 x5 x6 x7 s
    rw [s_Co_spread_L23]
    refine jm_iload (pc := 23) (q := 5) (x := x7) d_Co_spread_23 rfl ?_
    refine jm_bipush (pc := 25) (v := 100) d_Co_spread_25 cb_100 ?_
    refine jm_icmp_ge (pc := 27) (tgt := 135) d_Co_spread_27 (by decide) ?_ ?_
    · refine jm_bipush (pc := 135) (v := (-4)) d_Co_spread_135 cb_m4 ?_
      exact jm_iret (pc := 137) (x := (-4)) d_Co_spread_137 rfl rfl rfl rfl rfl
    · refine jm_iload (pc := 30) (q := 5) (x := x7) d_Co_spread_30 rfl ?_
      refine jm_iload (pc := 32) (q := 4) (x := x6) d_Co_spread_32 rfl ?_
      refine jm_bipush (pc := 34) (v := 9) d_Co_spread_34 cb_9 ?_
      refine jm_iadd (pc := 36) d_Co_spread_36 ?_
      refine jm_icmp_gt (pc := 37) (tgt := 135) d_Co_spread_37 (by decide) ?_ ?_
      · refine jm_bipush (pc := 135) (v := (-4)) d_Co_spread_135 cb_m4 ?_
        exact jm_iret (pc := 137) (x := (-4)) d_Co_spread_137 rfl rfl rfl rfl rfl
      · refine jm_aload_n (pc := 40) (q := 0) (x := 48) d_Co_spread_40 rfl ?_
        refine jm_gr (pc := 41) (i := 48) d_Co_spread_41 fo_Co_37 sh_48 ge_48 le_48_78 rfl (fun _ => rfl) mr_154_48_8 ge_52 ?_
        refine jm_iload (pc := 44) (q := 5) (x := x7) d_Co_spread_44 rfl ?_
        refine jm_iload (pc := 46) (q := 3) (x := x5) d_Co_spread_46 rfl ?_
        refine jm_iast (pc := 48) d_Co_spread_48 sh_52 ge_52 le_52_78 (fun s2 => ?_)
        refine jm_aload_n (pc := 49) (q := 0) (x := 48) d_Co_spread_49 rfl ?_
        refine jm_iload (pc := 50) (q := 5) (x := x7) d_Co_spread_50 rfl ?_
        refine jm_pi (pc := 52) (i := 48) d_Co_spread_52 fp_Co_40 sh_48 ge_48 le_48_78 rfl rfl rfl (fun _ _ _ => rfl) (fun s3 => ?_)
        refine jm_aload_n (pc := 55) (q := 0) (x := 48) d_Co_spread_55 rfl ?_
        refine jm_iload_n (pc := 56) (q := 1) (x := x3) d_Co_spread_56 rfl ?_
        refine jm_iload (pc := 57) (q := 5) (x := x7) d_Co_spread_57 rfl ?_
        refine jm_Vp (pc := 59) (Y' := mY_Co_ruleHeld) (i := 48) (avs := [.int x3, .int x7]) (rest := []) (s_Co_ruleHeld_ok s3 x3 x7) ok_Co_ruleHeld l0_Co_spread__Co_ruleHeld ml_Co_78 im_Co_ruleHeld se_Co_ruleHeld d_Co_spread_59 rfl sh_48 rfl rfl ge_48 le_48_78 rfl (Nat.le_of_ble_eq_true rfl) (Nat.le_of_ble_eq_true rfl) (Nat.le_of_ble_eq_true rfl) (Nat.le_of_ble_eq_true rfl) (fun v4 => ?_)
        refine jm_if_eq (pc := 62) (tgt := 68) d_Co_spread_62 (by decide) ?_ ?_
        · refine jm_iconst (pc := 68) (v := 0) d_Co_spread_68 ci_0 ?_
          refine jm_istore (pc := 69) (L2 := [(8, .int 0), (0, .ref 48), (3, .int x3), (4, .int x4), (5, .int x5), (6, .int x6), (7, .int x7)]) d_Co_spread_69 (Nat.le_of_ble_eq_true rfl) rfl ?_
          refine jm_sub (L2 := [(0, .ref 48), (3, .int x3), (4, .int x4), (5, .int x5), (6, .int x6), (7, .int x7), (8, .int 0)]) [1, 2, 3, 4, 5, 6, 0] rfl ?_
          exact s_Co_spread_L71_ok ih 5000 x3 x4 x5 x6 x7 0 s3
        · refine jm_iload (pc := 65) (q := 5) (x := x7) d_Co_spread_65 rfl ?_
          exact jm_iret (pc := 67) (x := x7) d_Co_spread_67 rfl rfl rfl rfl rfl
def s_Co_spread (s : jm_M) (a0 : Int32) (a1 : Int32) (a2 : Int32) : Option (Int32 × jm_M) := jm_vi (((s.1 48 4) &&& (a1 ^^^ (-1))) &&& (a0 ^^^ (-1))) (fun v1 => s_Co_spread_L23 5000 a2 v1 a0 1 1 s)
set_option maxRecDepth 100000 in
set_option maxHeartbeats 4000000 in
theorem s_Co_spread_ok (s : jm_M) (a0 : Int32) (a1 : Int32) (a2 : Int32) : jm_Sim mY_Co_spread 0 0 0 [(0, .ref 48), (1, .int a0), (2, .int a1), (3, .int a2)] [] 78 mr_154 s (s_Co_spread s a0 a1 a2) (jm_rP 78 mr_154) := by
  unfold s_Co_spread
  refine jm_aload_n (pc := 0) (q := 0) (x := 48) d_Co_spread_0 rfl ?_
  refine jm_gi (pc := 1) (i := 48) d_Co_spread_1 fo_Co_24 sh_48 ge_48 le_48_78 rfl (fun _ => rfl) ?_
  refine jm_iload_n (pc := 4) (q := 2) (x := a1) d_Co_spread_4 rfl ?_
  refine jm_iconst (pc := 5) (v := (-1)) d_Co_spread_5 ci_m1 ?_
  refine jm_ixor (pc := 6) d_Co_spread_6 ?_
  refine jm_iand (pc := 7) d_Co_spread_7 ?_
  refine jm_iload_n (pc := 8) (q := 1) (x := a0) d_Co_spread_8 rfl ?_
  refine jm_iconst (pc := 9) (v := (-1)) d_Co_spread_9 ci_m1 ?_
  refine jm_ixor (pc := 10) d_Co_spread_10 ?_
  refine jm_iand (pc := 11) d_Co_spread_11 ?_
  refine jm_nvi (fun v1 => ?_)
  refine jm_istore (pc := 12) (L2 := [(4, .int v1), (0, .ref 48), (1, .int a0), (2, .int a1), (3, .int a2)]) d_Co_spread_12 (Nat.le_of_ble_eq_true rfl) rfl ?_
  refine jm_iload_n (pc := 14) (q := 2) (x := a0) d_Co_spread_14 rfl ?_
  refine jm_istore (pc := 15) (L2 := [(5, .int a0), (4, .int v1), (0, .ref 48), (1, .int a0), (2, .int a1), (3, .int a2)]) d_Co_spread_15 (Nat.le_of_ble_eq_true rfl) rfl ?_
  refine jm_iconst (pc := 17) (v := 1) d_Co_spread_17 ci_1 ?_
  refine jm_istore (pc := 18) (L2 := [(6, .int 1), (5, .int a0), (4, .int v1), (0, .ref 48), (1, .int a0), (2, .int a1), (3, .int a2)]) d_Co_spread_18 (Nat.le_of_ble_eq_true rfl) rfl ?_
  refine jm_iconst (pc := 20) (v := 1) d_Co_spread_20 ci_1 ?_
  refine jm_istore (pc := 21) (L2 := [(7, .int 1), (6, .int 1), (5, .int a0), (4, .int v1), (0, .ref 48), (1, .int a0), (2, .int a1), (3, .int a2)]) d_Co_spread_21 (Nat.le_of_ble_eq_true rfl) rfl ?_
  refine jm_sub (L2 := [(0, .ref 48), (3, .int a2), (4, .int v1), (5, .int a0), (6, .int 1), (7, .int 1)]) [4, 7, 3, 2, 1, 0] rfl ?_
  exact s_Co_spread_L23_ok 5000 a2 v1 a0 1 1 s
theorem d_Co_trueMinute_0 : decode (jm_cd mY_Co_trueMinute) 0 = .ok (.aload_n 0, 1) := by decide +kernel
theorem d_Co_trueMinute_1 : decode (jm_cd mY_Co_trueMinute) 1 = .ok (.iconst 1, 1) := by decide +kernel
theorem d_Co_trueMinute_2 : decode (jm_cd mY_Co_trueMinute) 2 = .ok (.iload_n 1, 1) := by decide +kernel
theorem d_Co_trueMinute_3 : decode (jm_cd mY_Co_trueMinute) 3 = .ok (.ishl, 1) := by decide +kernel
theorem d_Co_trueMinute_4 : decode (jm_cd mY_Co_trueMinute) 4 = .ok (.iload_n 2, 1) := by decide +kernel
theorem d_Co_trueMinute_5 : decode (jm_cd mY_Co_trueMinute) 5 = .ok (.aload_n 0, 1) := by decide +kernel
theorem d_Co_trueMinute_6 : decode (jm_cd mY_Co_trueMinute) 6 = .ok (.getfield 18, 3) := by decide +kernel
theorem d_Co_trueMinute_9 : decode (jm_cd mY_Co_trueMinute) 9 = .ok (.invokevirtual 74, 3) := by decide +kernel
theorem d_Co_trueMinute_12 : decode (jm_cd mY_Co_trueMinute) 12 = .ok (.ireturn, 1) := by decide +kernel
def s_Co_trueMinute (s : jm_M) (a0 : Int32) (a1 : Int32) : Option (Int32 × jm_M) := jm_b2 (s_Co_spread s (1 <<< (a0 &&& 31)) a1 (s.1 48 2)) (fun v1 s2 => (some (v1, s2)))
set_option maxRecDepth 100000 in
set_option maxHeartbeats 4000000 in
theorem s_Co_trueMinute_ok (s : jm_M) (a0 : Int32) (a1 : Int32) : jm_Sim mY_Co_trueMinute 0 0 0 [(0, .ref 48), (1, .int a0), (2, .int a1)] [] 78 mr_154 s (s_Co_trueMinute s a0 a1) (jm_rP 78 mr_154) := by
  unfold s_Co_trueMinute
  refine jm_aload_n (pc := 0) (q := 0) (x := 48) d_Co_trueMinute_0 rfl ?_
  refine jm_iconst (pc := 1) (v := 1) d_Co_trueMinute_1 ci_1 ?_
  refine jm_iload_n (pc := 2) (q := 1) (x := a0) d_Co_trueMinute_2 rfl ?_
  refine jm_ishl (pc := 3) d_Co_trueMinute_3 ?_
  refine jm_iload_n (pc := 4) (q := 2) (x := a1) d_Co_trueMinute_4 rfl ?_
  refine jm_aload_n (pc := 5) (q := 0) (x := 48) d_Co_trueMinute_5 rfl ?_
  refine jm_gi (pc := 6) (i := 48) d_Co_trueMinute_6 fo_Co_18 sh_48 ge_48 le_48_78 rfl (fun _ => rfl) ?_
  refine jm_Vi (pc := 9) (Y' := mY_Co_spread) (i := 48) (avs := [.int (1 <<< (a0 &&& 31)), .int a1, .int (s.1 48 2)]) (rest := []) (s_Co_spread_ok s (1 <<< (a0 &&& 31)) a1 (s.1 48 2)) ok_Co_spread l0_Co_trueMinute__Co_spread ml_Co_74 im_Co_spread se_Co_spread d_Co_trueMinute_9 rfl sh_48 rfl rfl ge_48 le_48_78 rfl (Nat.le_of_ble_eq_true rfl) (Nat.le_of_ble_eq_true rfl) (Nat.le_of_ble_eq_true rfl) (Nat.le_of_ble_eq_true rfl) (fun v1 s2 => ?_)
  exact jm_iret (pc := 12) (x := v1) d_Co_trueMinute_12 rfl rfl rfl rfl rfl
theorem d_X_trueBy_0 : decode (jm_cd mY_X_trueBy) 0 = .ok (.aload_n 0, 1) := by decide +kernel
theorem d_X_trueBy_1 : decode (jm_cd mY_X_trueBy) 1 = .ok (.getfield 31, 3) := by decide +kernel
theorem d_X_trueBy_4 : decode (jm_cd mY_X_trueBy) 4 = .ok (.iload_n 1, 1) := by decide +kernel
theorem d_X_trueBy_5 : decode (jm_cd mY_X_trueBy) 5 = .ok (.invokevirtual 93, 3) := by decide +kernel
theorem d_X_trueBy_8 : decode (jm_cd mY_X_trueBy) 8 = .ok (.ifCond .eq 36, 3) := by decide +kernel
theorem d_X_trueBy_11 : decode (jm_cd mY_X_trueBy) 11 = .ok (.aload_n 0, 1) := by decide +kernel
theorem d_X_trueBy_12 : decode (jm_cd mY_X_trueBy) 12 = .ok (.getfield 31, 3) := by decide +kernel
theorem d_X_trueBy_15 : decode (jm_cd mY_X_trueBy) 15 = .ok (.getfield 97, 3) := by decide +kernel
theorem d_X_trueBy_18 : decode (jm_cd mY_X_trueBy) 18 = .ok (.iload_n 1, 1) := by decide +kernel
theorem d_X_trueBy_19 : decode (jm_cd mY_X_trueBy) 19 = .ok (.iaload, 1) := by decide +kernel
theorem d_X_trueBy_20 : decode (jm_cd mY_X_trueBy) 20 = .ok (.iconst 1, 1) := by decide +kernel
theorem d_X_trueBy_21 : decode (jm_cd mY_X_trueBy) 21 = .ok (.if_icmp .ne 23, 3) := by decide +kernel
theorem d_X_trueBy_24 : decode (jm_cd mY_X_trueBy) 24 = .ok (.iload_n 2, 1) := by decide +kernel
theorem d_X_trueBy_25 : decode (jm_cd mY_X_trueBy) 25 = .ok (.aload_n 0, 1) := by decide +kernel
theorem d_X_trueBy_26 : decode (jm_cd mY_X_trueBy) 26 = .ok (.getfield 31, 3) := by decide +kernel
theorem d_X_trueBy_29 : decode (jm_cd mY_X_trueBy) 29 = .ok (.invokevirtual 148, 3) := by decide +kernel
theorem d_X_trueBy_32 : decode (jm_cd mY_X_trueBy) 32 = .ok (.iconst 1, 1) := by decide +kernel
theorem d_X_trueBy_33 : decode (jm_cd mY_X_trueBy) 33 = .ok (.iload_n 1, 1) := by decide +kernel
theorem d_X_trueBy_34 : decode (jm_cd mY_X_trueBy) 34 = .ok (.ishl, 1) := by decide +kernel
theorem d_X_trueBy_35 : decode (jm_cd mY_X_trueBy) 35 = .ok (.iconst (-1), 1) := by decide +kernel
theorem d_X_trueBy_36 : decode (jm_cd mY_X_trueBy) 36 = .ok (.ixor, 1) := by decide +kernel
theorem d_X_trueBy_37 : decode (jm_cd mY_X_trueBy) 37 = .ok (.iand, 1) := by decide +kernel
theorem d_X_trueBy_38 : decode (jm_cd mY_X_trueBy) 38 = .ok (.iconst (-1), 1) := by decide +kernel
theorem d_X_trueBy_39 : decode (jm_cd mY_X_trueBy) 39 = .ok (.ixor, 1) := by decide +kernel
theorem d_X_trueBy_40 : decode (jm_cd mY_X_trueBy) 40 = .ok (.iand, 1) := by decide +kernel
theorem d_X_trueBy_41 : decode (jm_cd mY_X_trueBy) 41 = .ok (.ifCond .eq 5, 3) := by decide +kernel
theorem d_X_trueBy_44 : decode (jm_cd mY_X_trueBy) 44 = .ok (.iconst (-1), 1) := by decide +kernel
theorem d_X_trueBy_45 : decode (jm_cd mY_X_trueBy) 45 = .ok (.ireturn, 1) := by decide +kernel
theorem d_X_trueBy_46 : decode (jm_cd mY_X_trueBy) 46 = .ok (.aload_n 0, 1) := by decide +kernel
theorem d_X_trueBy_47 : decode (jm_cd mY_X_trueBy) 47 = .ok (.getfield 31, 3) := by decide +kernel
theorem d_X_trueBy_50 : decode (jm_cd mY_X_trueBy) 50 = .ok (.invokevirtual 141, 3) := by decide +kernel
theorem d_X_trueBy_53 : decode (jm_cd mY_X_trueBy) 53 = .ok (.ifCond .ne 6, 3) := by decide +kernel
theorem d_X_trueBy_56 : decode (jm_cd mY_X_trueBy) 56 = .ok (.bipush (-2), 2) := by decide +kernel
theorem d_X_trueBy_58 : decode (jm_cd mY_X_trueBy) 58 = .ok (.ireturn, 1) := by decide +kernel
theorem d_X_trueBy_59 : decode (jm_cd mY_X_trueBy) 59 = .ok (.aload_n 0, 1) := by decide +kernel
theorem d_X_trueBy_60 : decode (jm_cd mY_X_trueBy) 60 = .ok (.getfield 57, 3) := by decide +kernel
theorem d_X_trueBy_63 : decode (jm_cd mY_X_trueBy) 63 = .ok (.aload_n 0, 1) := by decide +kernel
theorem d_X_trueBy_64 : decode (jm_cd mY_X_trueBy) 64 = .ok (.getfield 31, 3) := by decide +kernel
theorem d_X_trueBy_67 : decode (jm_cd mY_X_trueBy) 67 = .ok (.invokevirtual 152, 3) := by decide +kernel
theorem d_X_trueBy_70 : decode (jm_cd mY_X_trueBy) 70 = .ok (.aload_n 0, 1) := by decide +kernel
theorem d_X_trueBy_71 : decode (jm_cd mY_X_trueBy) 71 = .ok (.getfield 57, 3) := by decide +kernel
theorem d_X_trueBy_74 : decode (jm_cd mY_X_trueBy) 74 = .ok (.iload_n 1, 1) := by decide +kernel
theorem d_X_trueBy_75 : decode (jm_cd mY_X_trueBy) 75 = .ok (.iload_n 2, 1) := by decide +kernel
theorem d_X_trueBy_76 : decode (jm_cd mY_X_trueBy) 76 = .ok (.invokevirtual 170, 3) := by decide +kernel
theorem d_X_trueBy_79 : decode (jm_cd mY_X_trueBy) 79 = .ok (.ireturn, 1) := by decide +kernel
def s_X_trueBy (s : jm_M) (a0 : Int32) (a1 : Int32) : Option (Int32 × jm_M) := jm_bd (s_Ne_isHill_15 s a0) (fun v1 => (if v1 = 0 then (some ((-1), s)) else jm_ldi s 16 10 a0 (fun v2 => (if v2 = 1 then jm_bd (s_Ne_folk_15 s) (fun v3 => (if (a1 &&& ((v3 &&& ((1 <<< (a0 &&& 31)) ^^^ (-1))) ^^^ (-1))) = 0 then jm_bd (s_Ne_hasEar_15 s) (fun v4 => (if v4 = 0 then (some ((-2), s)) else jm_bd (s_Co_study_48_15 s) (fun s5 => jm_b2 (s_Co_trueMinute s5 a0 a1) (fun v6 s7 => (some (v6, s7)))))) else (some ((-1), s)))) else (some ((-1), s))))))
set_option maxRecDepth 100000 in
set_option maxHeartbeats 4000000 in
theorem s_X_trueBy_ok (s : jm_M) (a0 : Int32) (a1 : Int32) : jm_Sim mY_X_trueBy 0 0 0 [(0, .ref 1), (1, .int a0), (2, .int a1)] [] 78 mr_154 s (s_X_trueBy s a0 a1) (jm_rP 78 mr_154) := by
  unfold s_X_trueBy
  refine jm_aload_n (pc := 0) (q := 0) (x := 1) d_X_trueBy_0 rfl ?_
  refine jm_gr (pc := 1) (i := 1) d_X_trueBy_1 fo_X_31 sh_1 ge_1 le_1_78 rfl (fun _ => rfl) mr_154_1_4 ge_15 ?_
  refine jm_iload_n (pc := 4) (q := 1) (x := a0) d_X_trueBy_4 rfl ?_
  refine jm_Vp (pc := 5) (Y' := mY_Ne_isHill) (i := 15) (avs := [.int a0]) (rest := []) (s_Ne_isHill_15_ok s a0) ok_Ne_isHill l0_X_trueBy__Ne_isHill ml_X_93 im_Ne_isHill se_Ne_isHill d_X_trueBy_5 rfl sh_15 rfl rfl ge_15 le_15_78 rfl (Nat.le_of_ble_eq_true rfl) (Nat.le_of_ble_eq_true rfl) (Nat.le_of_ble_eq_true rfl) (Nat.le_of_ble_eq_true rfl) (fun v1 => ?_)
  refine jm_if_eq (pc := 8) (tgt := 44) d_X_trueBy_8 (by decide) ?_ ?_
  · refine jm_iconst (pc := 44) (v := (-1)) d_X_trueBy_44 ci_m1 ?_
    exact jm_iret (pc := 45) (x := (-1)) d_X_trueBy_45 rfl rfl rfl rfl rfl
  · refine jm_aload_n (pc := 11) (q := 0) (x := 1) d_X_trueBy_11 rfl ?_
    refine jm_gr (pc := 12) (i := 1) d_X_trueBy_12 fo_X_31 sh_1 ge_1 le_1_78 rfl (fun _ => rfl) mr_154_1_4 ge_15 ?_
    refine jm_gr (pc := 15) (i := 15) d_X_trueBy_15 fo_X_97 sh_15 ge_15 le_15_78 rfl (fun _ => rfl) mr_154_15_1 ge_16 ?_
    refine jm_iload_n (pc := 18) (q := 1) (x := a0) d_X_trueBy_18 rfl ?_
    refine jm_iald (pc := 19) d_X_trueBy_19 sh_16 ge_16 le_16_78 (fun v2 => ?_)
    refine jm_iconst (pc := 20) (v := 1) d_X_trueBy_20 ci_1 ?_
    refine jm_icmp_ne (pc := 21) (tgt := 44) d_X_trueBy_21 (by decide) ?_ ?_
    · refine jm_iload_n (pc := 24) (q := 2) (x := a1) d_X_trueBy_24 rfl ?_
      refine jm_aload_n (pc := 25) (q := 0) (x := 1) d_X_trueBy_25 rfl ?_
      refine jm_gr (pc := 26) (i := 1) d_X_trueBy_26 fo_X_31 sh_1 ge_1 le_1_78 rfl (fun _ => rfl) mr_154_1_4 ge_15 ?_
      refine jm_Vp (pc := 29) (Y' := mY_Ne_folk) (i := 15) (avs := []) (rest := [.int a1]) (s_Ne_folk_15_ok s) ok_Ne_folk l0_X_trueBy__Ne_folk ml_X_148 im_Ne_folk se_Ne_folk d_X_trueBy_29 rfl sh_15 rfl rfl ge_15 le_15_78 rfl (Nat.le_of_ble_eq_true rfl) (Nat.le_of_ble_eq_true rfl) (Nat.le_of_ble_eq_true rfl) (Nat.le_of_ble_eq_true rfl) (fun v3 => ?_)
      refine jm_iconst (pc := 32) (v := 1) d_X_trueBy_32 ci_1 ?_
      refine jm_iload_n (pc := 33) (q := 1) (x := a0) d_X_trueBy_33 rfl ?_
      refine jm_ishl (pc := 34) d_X_trueBy_34 ?_
      refine jm_iconst (pc := 35) (v := (-1)) d_X_trueBy_35 ci_m1 ?_
      refine jm_ixor (pc := 36) d_X_trueBy_36 ?_
      refine jm_iand (pc := 37) d_X_trueBy_37 ?_
      refine jm_iconst (pc := 38) (v := (-1)) d_X_trueBy_38 ci_m1 ?_
      refine jm_ixor (pc := 39) d_X_trueBy_39 ?_
      refine jm_iand (pc := 40) d_X_trueBy_40 ?_
      refine jm_if_eq (pc := 41) (tgt := 46) d_X_trueBy_41 (by decide) ?_ ?_
      · refine jm_aload_n (pc := 46) (q := 0) (x := 1) d_X_trueBy_46 rfl ?_
        refine jm_gr (pc := 47) (i := 1) d_X_trueBy_47 fo_X_31 sh_1 ge_1 le_1_78 rfl (fun _ => rfl) mr_154_1_4 ge_15 ?_
        refine jm_Vp (pc := 50) (Y' := mY_Ne_hasEar) (i := 15) (avs := []) (rest := []) (s_Ne_hasEar_15_ok s) ok_Ne_hasEar l0_X_trueBy__Ne_hasEar ml_X_141 im_Ne_hasEar se_Ne_hasEar d_X_trueBy_50 rfl sh_15 rfl rfl ge_15 le_15_78 rfl (Nat.le_of_ble_eq_true rfl) (Nat.le_of_ble_eq_true rfl) (Nat.le_of_ble_eq_true rfl) (Nat.le_of_ble_eq_true rfl) (fun v4 => ?_)
        refine jm_if_ne (pc := 53) (tgt := 59) d_X_trueBy_53 (by decide) ?_ ?_
        · refine jm_bipush (pc := 56) (v := (-2)) d_X_trueBy_56 cb_m2 ?_
          exact jm_iret (pc := 58) (x := (-2)) d_X_trueBy_58 rfl rfl rfl rfl rfl
        · refine jm_aload_n (pc := 59) (q := 0) (x := 1) d_X_trueBy_59 rfl ?_
          refine jm_gr (pc := 60) (i := 1) d_X_trueBy_60 fo_X_57 sh_1 ge_1 le_1_78 rfl (fun _ => rfl) mr_154_1_10 ge_48 ?_
          refine jm_aload_n (pc := 63) (q := 0) (x := 1) d_X_trueBy_63 rfl ?_
          refine jm_gr (pc := 64) (i := 1) d_X_trueBy_64 fo_X_31 sh_1 ge_1 le_1_78 rfl (fun _ => rfl) mr_154_1_4 ge_15 ?_
          refine jm_Vv (pc := 67) (Y' := mY_Co_study) (i := 48) (avs := [.ref 15]) (rest := []) (s_Co_study_48_15_ok s) ok_Co_study l0_X_trueBy__Co_study ml_X_152 im_Co_study se_Co_study d_X_trueBy_67 rfl sh_48 rfl rfl ge_48 le_48_78 rfl (Nat.le_of_ble_eq_true rfl) (Nat.le_of_ble_eq_true rfl) (Nat.le_of_ble_eq_true rfl) (Nat.le_of_ble_eq_true rfl) (fun s5 => ?_)
          refine jm_aload_n (pc := 70) (q := 0) (x := 1) d_X_trueBy_70 rfl ?_
          refine jm_gr (pc := 71) (i := 1) d_X_trueBy_71 fo_X_57 sh_1 ge_1 le_1_78 rfl (fun _ => rfl) mr_154_1_10 ge_48 ?_
          refine jm_iload_n (pc := 74) (q := 1) (x := a0) d_X_trueBy_74 rfl ?_
          refine jm_iload_n (pc := 75) (q := 2) (x := a1) d_X_trueBy_75 rfl ?_
          refine jm_Vi (pc := 76) (Y' := mY_Co_trueMinute) (i := 48) (avs := [.int a0, .int a1]) (rest := []) (s_Co_trueMinute_ok s5 a0 a1) ok_Co_trueMinute l0_X_trueBy__Co_trueMinute ml_X_170 im_Co_trueMinute se_Co_trueMinute d_X_trueBy_76 rfl sh_48 rfl rfl ge_48 le_48_78 rfl (Nat.le_of_ble_eq_true rfl) (Nat.le_of_ble_eq_true rfl) (Nat.le_of_ble_eq_true rfl) (Nat.le_of_ble_eq_true rfl) (fun v6 s7 => ?_)
          exact jm_iret (pc := 79) (x := v6) d_X_trueBy_79 rfl rfl rfl rfl rfl
      · refine jm_iconst (pc := 44) (v := (-1)) d_X_trueBy_44 ci_m1 ?_
        exact jm_iret (pc := 45) (x := (-1)) d_X_trueBy_45 rfl rfl rfl rfl rfl
    · refine jm_iconst (pc := 44) (v := (-1)) d_X_trueBy_44 ci_m1 ?_
      exact jm_iret (pc := 45) (x := (-1)) d_X_trueBy_45 rfl rfl rfl rfl rfl
theorem d_Z_alarmBy_0 : decode (jm_cd mY_Z_alarmBy) 0 = .ok (.aload_n 0, 1) := by decide +kernel
theorem d_Z_alarmBy_1 : decode (jm_cd mY_Z_alarmBy) 1 = .ok (.iconst 1, 1) := by decide +kernel
theorem d_Z_alarmBy_2 : decode (jm_cd mY_Z_alarmBy) 2 = .ok (.iload_n 1, 1) := by decide +kernel
theorem d_Z_alarmBy_3 : decode (jm_cd mY_Z_alarmBy) 3 = .ok (.ishl, 1) := by decide +kernel
theorem d_Z_alarmBy_4 : decode (jm_cd mY_Z_alarmBy) 4 = .ok (.iconst 1, 1) := by decide +kernel
theorem d_Z_alarmBy_5 : decode (jm_cd mY_Z_alarmBy) 5 = .ok (.invokevirtual 196, 3) := by decide +kernel
theorem d_Z_alarmBy_8 : decode (jm_cd mY_Z_alarmBy) 8 = .ok (.aload_n 0, 1) := by decide +kernel
theorem d_Z_alarmBy_9 : decode (jm_cd mY_Z_alarmBy) 9 = .ok (.iload_n 2, 1) := by decide +kernel
theorem d_Z_alarmBy_10 : decode (jm_cd mY_Z_alarmBy) 10 = .ok (.iconst 1, 1) := by decide +kernel
theorem d_Z_alarmBy_11 : decode (jm_cd mY_Z_alarmBy) 11 = .ok (.iload_n 1, 1) := by decide +kernel
theorem d_Z_alarmBy_12 : decode (jm_cd mY_Z_alarmBy) 12 = .ok (.ishl, 1) := by decide +kernel
theorem d_Z_alarmBy_13 : decode (jm_cd mY_Z_alarmBy) 13 = .ok (.ior, 1) := by decide +kernel
theorem d_Z_alarmBy_14 : decode (jm_cd mY_Z_alarmBy) 14 = .ok (.invokevirtual 199, 3) := by decide +kernel
theorem d_Z_alarmBy_17 : decode (jm_cd mY_Z_alarmBy) 17 = .ok (.aload_n 0, 1) := by decide +kernel
theorem d_Z_alarmBy_18 : decode (jm_cd mY_Z_alarmBy) 18 = .ok (.aload_n 0, 1) := by decide +kernel
theorem d_Z_alarmBy_19 : decode (jm_cd mY_Z_alarmBy) 19 = .ok (.invokevirtual 168, 3) := by decide +kernel
theorem d_Z_alarmBy_22 : decode (jm_cd mY_Z_alarmBy) 22 = .ok (.invokevirtual 190, 3) := by decide +kernel
theorem d_Z_alarmBy_25 : decode (jm_cd mY_Z_alarmBy) 25 = .ok (.istore_n 3, 1) := by decide +kernel
theorem d_Z_alarmBy_26 : decode (jm_cd mY_Z_alarmBy) 26 = .ok (.iload_n 3, 1) := by decide +kernel
theorem d_Z_alarmBy_27 : decode (jm_cd mY_Z_alarmBy) 27 = .ok (.ldc 186, 2) := by decide +kernel
theorem d_Z_alarmBy_29 : decode (jm_cd mY_Z_alarmBy) 29 = .ok (.if_icmp .ne 8, 3) := by decide +kernel
theorem d_Z_alarmBy_32 : decode (jm_cd mY_Z_alarmBy) 32 = .ok (.ldc 186, 2) := by decide +kernel
theorem d_Z_alarmBy_34 : decode (jm_cd mY_Z_alarmBy) 34 = .ok (.goto 15, 3) := by decide +kernel
theorem d_Z_alarmBy_37 : decode (jm_cd mY_Z_alarmBy) 37 = .ok (.iload_n 3, 1) := by decide +kernel
theorem d_Z_alarmBy_38 : decode (jm_cd mY_Z_alarmBy) 38 = .ok (.aload_n 0, 1) := by decide +kernel
theorem d_Z_alarmBy_39 : decode (jm_cd mY_Z_alarmBy) 39 = .ok (.aload_n 0, 1) := by decide +kernel
theorem d_Z_alarmBy_40 : decode (jm_cd mY_Z_alarmBy) 40 = .ok (.invokevirtual 168, 3) := by decide +kernel
theorem d_Z_alarmBy_43 : decode (jm_cd mY_Z_alarmBy) 43 = .ok (.invokevirtual 193, 3) := by decide +kernel
theorem d_Z_alarmBy_46 : decode (jm_cd mY_Z_alarmBy) 46 = .ok (.iadd, 1) := by decide +kernel
theorem d_Z_alarmBy_47 : decode (jm_cd mY_Z_alarmBy) 47 = .ok (.iconst 1, 1) := by decide +kernel
theorem d_Z_alarmBy_48 : decode (jm_cd mY_Z_alarmBy) 48 = .ok (.isub, 1) := by decide +kernel
theorem d_Z_alarmBy_49 : decode (jm_cd mY_Z_alarmBy) 49 = .ok (.ireturn, 1) := by decide +kernel
def s_Z_alarmBy (s : jm_M) (a0 : Int32) (a1 : Int32) : Option (Int32 × jm_M) := jm_bd (s_Z_kindle s (1 <<< (a0 &&& 31)) 1) (fun s1 => jm_bd (s_Z_spread s1 (a1 ||| (1 <<< (a0 &&& 31)))) (fun s2 => jm_bd (s_Z_ear s2) (fun v3 => jm_b2 (s_Z_together s2 v3) (fun v4 s5 => (if v4 = 1000000 then (some (1000000, s5)) else jm_bd (s_Z_ear s5) (fun v6 => jm_bd (s_Z_takes s5 v6) (fun v7 => (some ((v4 + v7) - 1, s5)))))))))
set_option maxRecDepth 100000 in
set_option maxHeartbeats 4000000 in
theorem s_Z_alarmBy_ok (s : jm_M) (a0 : Int32) (a1 : Int32) : jm_Sim mY_Z_alarmBy 0 0 0 [(0, .ref 59), (1, .int a0), (2, .int a1)] [] 78 mr_154 s (s_Z_alarmBy s a0 a1) (jm_rP 78 mr_154) := by
  unfold s_Z_alarmBy
  refine jm_aload_n (pc := 0) (q := 0) (x := 59) d_Z_alarmBy_0 rfl ?_
  refine jm_iconst (pc := 1) (v := 1) d_Z_alarmBy_1 ci_1 ?_
  refine jm_iload_n (pc := 2) (q := 1) (x := a0) d_Z_alarmBy_2 rfl ?_
  refine jm_ishl (pc := 3) d_Z_alarmBy_3 ?_
  refine jm_iconst (pc := 4) (v := 1) d_Z_alarmBy_4 ci_1 ?_
  refine jm_Vv (pc := 5) (Y' := mY_Z_kindle) (i := 59) (avs := [.int (1 <<< (a0 &&& 31)), .int 1]) (rest := []) (s_Z_kindle_ok s (1 <<< (a0 &&& 31)) 1) ok_Z_kindle l0_Z_alarmBy__Z_kindle ml_Z_196 im_Z_kindle se_Z_kindle d_Z_alarmBy_5 rfl sh_59 rfl rfl ge_59 le_59_78 rfl (Nat.le_of_ble_eq_true rfl) (Nat.le_of_ble_eq_true rfl) (Nat.le_of_ble_eq_true rfl) (Nat.le_of_ble_eq_true rfl) (fun s1 => ?_)
  refine jm_aload_n (pc := 8) (q := 0) (x := 59) d_Z_alarmBy_8 rfl ?_
  refine jm_iload_n (pc := 9) (q := 2) (x := a1) d_Z_alarmBy_9 rfl ?_
  refine jm_iconst (pc := 10) (v := 1) d_Z_alarmBy_10 ci_1 ?_
  refine jm_iload_n (pc := 11) (q := 1) (x := a0) d_Z_alarmBy_11 rfl ?_
  refine jm_ishl (pc := 12) d_Z_alarmBy_12 ?_
  refine jm_ior (pc := 13) d_Z_alarmBy_13 ?_
  refine jm_Vv (pc := 14) (Y' := mY_Z_spread) (i := 59) (avs := [.int (a1 ||| (1 <<< (a0 &&& 31)))]) (rest := []) (s_Z_spread_ok s1 (a1 ||| (1 <<< (a0 &&& 31)))) ok_Z_spread l0_Z_alarmBy__Z_spread ml_Z_199 im_Z_spread se_Z_spread d_Z_alarmBy_14 rfl sh_59 rfl rfl ge_59 le_59_78 rfl (Nat.le_of_ble_eq_true rfl) (Nat.le_of_ble_eq_true rfl) (Nat.le_of_ble_eq_true rfl) (Nat.le_of_ble_eq_true rfl) (fun s2 => ?_)
  refine jm_aload_n (pc := 17) (q := 0) (x := 59) d_Z_alarmBy_17 rfl ?_
  refine jm_aload_n (pc := 18) (q := 0) (x := 59) d_Z_alarmBy_18 rfl ?_
  refine jm_Vp (pc := 19) (Y' := mY_Z_ear) (i := 59) (avs := []) (rest := [.ref 59]) (s_Z_ear_ok s2) ok_Z_ear l0_Z_alarmBy__Z_ear ml_Z_168 im_Z_ear se_Z_ear d_Z_alarmBy_19 rfl sh_59 rfl rfl ge_59 le_59_78 rfl (Nat.le_of_ble_eq_true rfl) (Nat.le_of_ble_eq_true rfl) (Nat.le_of_ble_eq_true rfl) (Nat.le_of_ble_eq_true rfl) (fun v3 => ?_)
  refine jm_Vi (pc := 22) (Y' := mY_Z_together) (i := 59) (avs := [.int v3]) (rest := []) (s_Z_together_ok s2 v3) ok_Z_together l0_Z_alarmBy__Z_together ml_Z_190 im_Z_together se_Z_together d_Z_alarmBy_22 rfl sh_59 rfl rfl ge_59 le_59_78 rfl (Nat.le_of_ble_eq_true rfl) (Nat.le_of_ble_eq_true rfl) (Nat.le_of_ble_eq_true rfl) (Nat.le_of_ble_eq_true rfl) (fun v4 s5 => ?_)
  refine jm_istore_n (pc := 25) (i := 3) (L2 := [(3, .int v4), (0, .ref 59), (1, .int a0), (2, .int a1)]) d_Z_alarmBy_25 rfl (Nat.le_of_ble_eq_true rfl) rfl ?_
  refine jm_iload_n (pc := 26) (q := 0) (x := v4) d_Z_alarmBy_26 rfl ?_
  refine jm_ldc (pc := 27) (v := 1000000) d_Z_alarmBy_27 k_Z_186 ?_
  refine jm_icmp_ne (pc := 29) (tgt := 37) d_Z_alarmBy_29 (by decide) ?_ ?_
  · refine jm_ldc (pc := 32) (v := 1000000) d_Z_alarmBy_32 k_Z_186 ?_
    refine jm_goto (pc := 34) (tgt := 49) d_Z_alarmBy_34 (by decide) ?_
    exact jm_iret (pc := 49) (x := 1000000) d_Z_alarmBy_49 rfl rfl rfl rfl rfl
  · refine jm_iload_n (pc := 37) (q := 0) (x := v4) d_Z_alarmBy_37 rfl ?_
    refine jm_aload_n (pc := 38) (q := 1) (x := 59) d_Z_alarmBy_38 rfl ?_
    refine jm_aload_n (pc := 39) (q := 1) (x := 59) d_Z_alarmBy_39 rfl ?_
    refine jm_Vp (pc := 40) (Y' := mY_Z_ear) (i := 59) (avs := []) (rest := [.ref 59, .int v4]) (s_Z_ear_ok s5) ok_Z_ear l0_Z_alarmBy__Z_ear ml_Z_168 im_Z_ear se_Z_ear d_Z_alarmBy_40 rfl sh_59 rfl rfl ge_59 le_59_78 rfl (Nat.le_of_ble_eq_true rfl) (Nat.le_of_ble_eq_true rfl) (Nat.le_of_ble_eq_true rfl) (Nat.le_of_ble_eq_true rfl) (fun v6 => ?_)
    refine jm_Vp (pc := 43) (Y' := mY_Z_takes) (i := 59) (avs := [.int v6]) (rest := [.int v4]) (s_Z_takes_ok s5 v6) ok_Z_takes l0_Z_alarmBy__Z_takes ml_Z_193 im_Z_takes se_Z_takes d_Z_alarmBy_43 rfl sh_59 rfl rfl ge_59 le_59_78 rfl (Nat.le_of_ble_eq_true rfl) (Nat.le_of_ble_eq_true rfl) (Nat.le_of_ble_eq_true rfl) (Nat.le_of_ble_eq_true rfl) (fun v7 => ?_)
    refine jm_iadd (pc := 46) d_Z_alarmBy_46 ?_
    refine jm_iconst (pc := 47) (v := 1) d_Z_alarmBy_47 ci_1 ?_
    refine jm_isub (pc := 48) d_Z_alarmBy_48 ?_
    exact jm_iret (pc := 49) (x := (v4 + v7) - 1) d_Z_alarmBy_49 rfl rfl rfl rfl rfl
theorem d_Z_trueBy_0 : decode (jm_cd mY_Z_trueBy) 0 = .ok (.aload_n 0, 1) := by decide +kernel
theorem d_Z_trueBy_1 : decode (jm_cd mY_Z_trueBy) 1 = .ok (.invokevirtual 203, 3) := by decide +kernel
theorem d_Z_trueBy_4 : decode (jm_cd mY_Z_trueBy) 4 = .ok (.aload_n 0, 1) := by decide +kernel
theorem d_Z_trueBy_5 : decode (jm_cd mY_Z_trueBy) 5 = .ok (.iload_n 1, 1) := by decide +kernel
theorem d_Z_trueBy_6 : decode (jm_cd mY_Z_trueBy) 6 = .ok (.invokevirtual 138, 3) := by decide +kernel
theorem d_Z_trueBy_9 : decode (jm_cd mY_Z_trueBy) 9 = .ok (.ifCond .eq 36, 3) := by decide +kernel
theorem d_Z_trueBy_12 : decode (jm_cd mY_Z_trueBy) 12 = .ok (.aload_n 0, 1) := by decide +kernel
theorem d_Z_trueBy_13 : decode (jm_cd mY_Z_trueBy) 13 = .ok (.getfield 16, 3) := by decide +kernel
theorem d_Z_trueBy_16 : decode (jm_cd mY_Z_trueBy) 16 = .ok (.iload_n 1, 1) := by decide +kernel
theorem d_Z_trueBy_17 : decode (jm_cd mY_Z_trueBy) 17 = .ok (.iaload, 1) := by decide +kernel
theorem d_Z_trueBy_18 : decode (jm_cd mY_Z_trueBy) 18 = .ok (.iconst 1, 1) := by decide +kernel
theorem d_Z_trueBy_19 : decode (jm_cd mY_Z_trueBy) 19 = .ok (.if_icmp .ne 26, 3) := by decide +kernel
theorem d_Z_trueBy_22 : decode (jm_cd mY_Z_trueBy) 22 = .ok (.iload_n 2, 1) := by decide +kernel
theorem d_Z_trueBy_23 : decode (jm_cd mY_Z_trueBy) 23 = .ok (.ifCond .lt 22, 3) := by decide +kernel
theorem d_Z_trueBy_26 : decode (jm_cd mY_Z_trueBy) 26 = .ok (.iload_n 2, 1) := by decide +kernel
theorem d_Z_trueBy_27 : decode (jm_cd mY_Z_trueBy) 27 = .ok (.aload_n 0, 1) := by decide +kernel
theorem d_Z_trueBy_28 : decode (jm_cd mY_Z_trueBy) 28 = .ok (.invokevirtual 206, 3) := by decide +kernel
theorem d_Z_trueBy_31 : decode (jm_cd mY_Z_trueBy) 31 = .ok (.iconst (-1), 1) := by decide +kernel
theorem d_Z_trueBy_32 : decode (jm_cd mY_Z_trueBy) 32 = .ok (.ixor, 1) := by decide +kernel
theorem d_Z_trueBy_33 : decode (jm_cd mY_Z_trueBy) 33 = .ok (.iand, 1) := by decide +kernel
theorem d_Z_trueBy_34 : decode (jm_cd mY_Z_trueBy) 34 = .ok (.ifCond .ne 11, 3) := by decide +kernel
theorem d_Z_trueBy_37 : decode (jm_cd mY_Z_trueBy) 37 = .ok (.iload_n 2, 1) := by decide +kernel
theorem d_Z_trueBy_38 : decode (jm_cd mY_Z_trueBy) 38 = .ok (.iload_n 1, 1) := by decide +kernel
theorem d_Z_trueBy_39 : decode (jm_cd mY_Z_trueBy) 39 = .ok (.invokestatic 99, 3) := by decide +kernel
theorem d_Z_trueBy_42 : decode (jm_cd mY_Z_trueBy) 42 = .ok (.ifCond .eq 5, 3) := by decide +kernel
theorem d_Z_trueBy_45 : decode (jm_cd mY_Z_trueBy) 45 = .ok (.iconst (-1), 1) := by decide +kernel
theorem d_Z_trueBy_46 : decode (jm_cd mY_Z_trueBy) 46 = .ok (.ireturn, 1) := by decide +kernel
theorem d_Z_trueBy_47 : decode (jm_cd mY_Z_trueBy) 47 = .ok (.aload_n 0, 1) := by decide +kernel
theorem d_Z_trueBy_48 : decode (jm_cd mY_Z_trueBy) 48 = .ok (.invokevirtual 168, 3) := by decide +kernel
theorem d_Z_trueBy_51 : decode (jm_cd mY_Z_trueBy) 51 = .ok (.bipush (-4), 2) := by decide +kernel
theorem d_Z_trueBy_53 : decode (jm_cd mY_Z_trueBy) 53 = .ok (.if_icmp .ne 6, 3) := by decide +kernel
theorem d_Z_trueBy_56 : decode (jm_cd mY_Z_trueBy) 56 = .ok (.bipush (-2), 2) := by decide +kernel
theorem d_Z_trueBy_58 : decode (jm_cd mY_Z_trueBy) 58 = .ok (.ireturn, 1) := by decide +kernel
theorem d_Z_trueBy_59 : decode (jm_cd mY_Z_trueBy) 59 = .ok (.aload_n 0, 1) := by decide +kernel
theorem d_Z_trueBy_60 : decode (jm_cd mY_Z_trueBy) 60 = .ok (.iload_n 1, 1) := by decide +kernel
theorem d_Z_trueBy_61 : decode (jm_cd mY_Z_trueBy) 61 = .ok (.iload_n 2, 1) := by decide +kernel
theorem d_Z_trueBy_62 : decode (jm_cd mY_Z_trueBy) 62 = .ok (.invokevirtual 215, 3) := by decide +kernel
theorem d_Z_trueBy_65 : decode (jm_cd mY_Z_trueBy) 65 = .ok (.istore_n 3, 1) := by decide +kernel
theorem d_Z_trueBy_66 : decode (jm_cd mY_Z_trueBy) 66 = .ok (.iload_n 3, 1) := by decide +kernel
theorem d_Z_trueBy_67 : decode (jm_cd mY_Z_trueBy) 67 = .ok (.ldc 186, 2) := by decide +kernel
theorem d_Z_trueBy_69 : decode (jm_cd mY_Z_trueBy) 69 = .ok (.if_icmp .ne 8, 3) := by decide +kernel
theorem d_Z_trueBy_72 : decode (jm_cd mY_Z_trueBy) 72 = .ok (.bipush (-4), 2) := by decide +kernel
theorem d_Z_trueBy_74 : decode (jm_cd mY_Z_trueBy) 74 = .ok (.goto 4, 3) := by decide +kernel
theorem d_Z_trueBy_77 : decode (jm_cd mY_Z_trueBy) 77 = .ok (.iload_n 3, 1) := by decide +kernel
theorem d_Z_trueBy_78 : decode (jm_cd mY_Z_trueBy) 78 = .ok (.ireturn, 1) := by decide +kernel
def s_Z_trueBy (s : jm_M) (a0 : Int32) (a1 : Int32) : Option (Int32 × jm_M) := jm_bd (s_Z_asTold s) (fun s1 => jm_bd (s_Z_isHill s1 a0) (fun v2 => (if v2 = 0 then (some ((-1), s1)) else jm_ldi s1 62 40 a0 (fun v3 => (if v3 = 1 then (if a1 < 0 then (some ((-1), s1)) else jm_bd (s_Z_men s1) (fun v4 => (if (a1 &&& (v4 ^^^ (-1))) = 0 then jm_bd (s_Z_has s1 a1 a0) (fun v5 => (if v5 = 0 then jm_bd (s_Z_ear s1) (fun v6 => (if v6 = (-4) then (some ((-2), s1)) else jm_b2 (s_Z_alarmBy s1 a0 a1) (fun v7 s8 => (if v7 = 1000000 then (some ((-4), s8)) else (some (v7, s8)))))) else (some ((-1), s1)))) else (some ((-1), s1))))) else (some ((-1), s1)))))))
set_option maxRecDepth 100000 in
set_option maxHeartbeats 4000000 in
theorem s_Z_trueBy_ok (s : jm_M) (a0 : Int32) (a1 : Int32) : jm_Sim mY_Z_trueBy 0 0 0 [(0, .ref 59), (1, .int a0), (2, .int a1)] [] 78 mr_154 s (s_Z_trueBy s a0 a1) (jm_rP 78 mr_154) := by
  unfold s_Z_trueBy
  refine jm_aload_n (pc := 0) (q := 0) (x := 59) d_Z_trueBy_0 rfl ?_
  refine jm_Vv (pc := 1) (Y' := mY_Z_asTold) (i := 59) (avs := []) (rest := []) (s_Z_asTold_ok s) ok_Z_asTold l0_Z_trueBy__Z_asTold ml_Z_203 im_Z_asTold se_Z_asTold d_Z_trueBy_1 rfl sh_59 rfl rfl ge_59 le_59_78 rfl (Nat.le_of_ble_eq_true rfl) (Nat.le_of_ble_eq_true rfl) (Nat.le_of_ble_eq_true rfl) (Nat.le_of_ble_eq_true rfl) (fun s1 => ?_)
  refine jm_aload_n (pc := 4) (q := 0) (x := 59) d_Z_trueBy_4 rfl ?_
  refine jm_iload_n (pc := 5) (q := 1) (x := a0) d_Z_trueBy_5 rfl ?_
  refine jm_Vp (pc := 6) (Y' := mY_Z_isHill) (i := 59) (avs := [.int a0]) (rest := []) (s_Z_isHill_ok s1 a0) ok_Z_isHill l0_Z_trueBy__Z_isHill ml_Z_138 im_Z_isHill se_Z_isHill d_Z_trueBy_6 rfl sh_59 rfl rfl ge_59 le_59_78 rfl (Nat.le_of_ble_eq_true rfl) (Nat.le_of_ble_eq_true rfl) (Nat.le_of_ble_eq_true rfl) (Nat.le_of_ble_eq_true rfl) (fun v2 => ?_)
  refine jm_if_eq (pc := 9) (tgt := 45) d_Z_trueBy_9 (by decide) ?_ ?_
  · refine jm_iconst (pc := 45) (v := (-1)) d_Z_trueBy_45 ci_m1 ?_
    exact jm_iret (pc := 46) (x := (-1)) d_Z_trueBy_46 rfl rfl rfl rfl rfl
  · refine jm_aload_n (pc := 12) (q := 0) (x := 59) d_Z_trueBy_12 rfl ?_
    refine jm_gr (pc := 13) (i := 59) d_Z_trueBy_13 fo_Z_16 sh_59 ge_59 le_59_78 rfl (fun _ => rfl) mr_154_59_3 ge_62 ?_
    refine jm_iload_n (pc := 16) (q := 1) (x := a0) d_Z_trueBy_16 rfl ?_
    refine jm_iald (pc := 17) d_Z_trueBy_17 sh_62 ge_62 le_62_78 (fun v3 => ?_)
    refine jm_iconst (pc := 18) (v := 1) d_Z_trueBy_18 ci_1 ?_
    refine jm_icmp_ne (pc := 19) (tgt := 45) d_Z_trueBy_19 (by decide) ?_ ?_
    · refine jm_iload_n (pc := 22) (q := 2) (x := a1) d_Z_trueBy_22 rfl ?_
      refine jm_if_lt (pc := 23) (tgt := 45) d_Z_trueBy_23 (by decide) ?_ ?_
      · refine jm_iconst (pc := 45) (v := (-1)) d_Z_trueBy_45 ci_m1 ?_
        exact jm_iret (pc := 46) (x := (-1)) d_Z_trueBy_46 rfl rfl rfl rfl rfl
      · refine jm_iload_n (pc := 26) (q := 2) (x := a1) d_Z_trueBy_26 rfl ?_
        refine jm_aload_n (pc := 27) (q := 0) (x := 59) d_Z_trueBy_27 rfl ?_
        refine jm_Vp (pc := 28) (Y' := mY_Z_men) (i := 59) (avs := []) (rest := [.int a1]) (s_Z_men_ok s1) ok_Z_men l0_Z_trueBy__Z_men ml_Z_206 im_Z_men se_Z_men d_Z_trueBy_28 rfl sh_59 rfl rfl ge_59 le_59_78 rfl (Nat.le_of_ble_eq_true rfl) (Nat.le_of_ble_eq_true rfl) (Nat.le_of_ble_eq_true rfl) (Nat.le_of_ble_eq_true rfl) (fun v4 => ?_)
        refine jm_iconst (pc := 31) (v := (-1)) d_Z_trueBy_31 ci_m1 ?_
        refine jm_ixor (pc := 32) d_Z_trueBy_32 ?_
        refine jm_iand (pc := 33) d_Z_trueBy_33 ?_
        refine jm_if_ne (pc := 34) (tgt := 45) d_Z_trueBy_34 (by decide) ?_ ?_
        · refine jm_iload_n (pc := 37) (q := 2) (x := a1) d_Z_trueBy_37 rfl ?_
          refine jm_iload_n (pc := 38) (q := 1) (x := a0) d_Z_trueBy_38 rfl ?_
          refine jm_Sp (pc := 39) (Y' := mY_Z_has) (avs := [.int a1, .int a0]) (rest := []) (s_Z_has_ok s1 a1 a0) ok_Z_has l0_Z_trueBy__Z_has ml_Z_99 sm_Z_has d_Z_trueBy_39 rfl rfl (Nat.le_of_ble_eq_true rfl) (Nat.le_of_ble_eq_true rfl) (Nat.le_of_ble_eq_true rfl) (Nat.le_of_ble_eq_true rfl) (fun v5 => ?_)
          refine jm_if_eq (pc := 42) (tgt := 47) d_Z_trueBy_42 (by decide) ?_ ?_
          · refine jm_aload_n (pc := 47) (q := 0) (x := 59) d_Z_trueBy_47 rfl ?_
            refine jm_Vp (pc := 48) (Y' := mY_Z_ear) (i := 59) (avs := []) (rest := []) (s_Z_ear_ok s1) ok_Z_ear l0_Z_trueBy__Z_ear ml_Z_168 im_Z_ear se_Z_ear d_Z_trueBy_48 rfl sh_59 rfl rfl ge_59 le_59_78 rfl (Nat.le_of_ble_eq_true rfl) (Nat.le_of_ble_eq_true rfl) (Nat.le_of_ble_eq_true rfl) (Nat.le_of_ble_eq_true rfl) (fun v6 => ?_)
            refine jm_bipush (pc := 51) (v := (-4)) d_Z_trueBy_51 cb_m4 ?_
            refine jm_icmp_ne (pc := 53) (tgt := 59) d_Z_trueBy_53 (by decide) ?_ ?_
            · refine jm_bipush (pc := 56) (v := (-2)) d_Z_trueBy_56 cb_m2 ?_
              exact jm_iret (pc := 58) (x := (-2)) d_Z_trueBy_58 rfl rfl rfl rfl rfl
            · refine jm_aload_n (pc := 59) (q := 0) (x := 59) d_Z_trueBy_59 rfl ?_
              refine jm_iload_n (pc := 60) (q := 1) (x := a0) d_Z_trueBy_60 rfl ?_
              refine jm_iload_n (pc := 61) (q := 2) (x := a1) d_Z_trueBy_61 rfl ?_
              refine jm_Vi (pc := 62) (Y' := mY_Z_alarmBy) (i := 59) (avs := [.int a0, .int a1]) (rest := []) (s_Z_alarmBy_ok s1 a0 a1) ok_Z_alarmBy l0_Z_trueBy__Z_alarmBy ml_Z_215 im_Z_alarmBy se_Z_alarmBy d_Z_trueBy_62 rfl sh_59 rfl rfl ge_59 le_59_78 rfl (Nat.le_of_ble_eq_true rfl) (Nat.le_of_ble_eq_true rfl) (Nat.le_of_ble_eq_true rfl) (Nat.le_of_ble_eq_true rfl) (fun v7 s8 => ?_)
              refine jm_istore_n (pc := 65) (i := 3) (L2 := [(3, .int v7), (0, .ref 59), (1, .int a0), (2, .int a1)]) d_Z_trueBy_65 rfl (Nat.le_of_ble_eq_true rfl) rfl ?_
              refine jm_iload_n (pc := 66) (q := 0) (x := v7) d_Z_trueBy_66 rfl ?_
              refine jm_ldc (pc := 67) (v := 1000000) d_Z_trueBy_67 k_Z_186 ?_
              refine jm_icmp_ne (pc := 69) (tgt := 77) d_Z_trueBy_69 (by decide) ?_ ?_
              · refine jm_bipush (pc := 72) (v := (-4)) d_Z_trueBy_72 cb_m4 ?_
                refine jm_goto (pc := 74) (tgt := 78) d_Z_trueBy_74 (by decide) ?_
                exact jm_iret (pc := 78) (x := (-4)) d_Z_trueBy_78 rfl rfl rfl rfl rfl
              · refine jm_iload_n (pc := 77) (q := 0) (x := v7) d_Z_trueBy_77 rfl ?_
                exact jm_iret (pc := 78) (x := v7) d_Z_trueBy_78 rfl rfl rfl rfl rfl
          · refine jm_iconst (pc := 45) (v := (-1)) d_Z_trueBy_45 ci_m1 ?_
            exact jm_iret (pc := 46) (x := (-1)) d_Z_trueBy_46 rfl rfl rfl rfl rfl
        · refine jm_iconst (pc := 45) (v := (-1)) d_Z_trueBy_45 ci_m1 ?_
          exact jm_iret (pc := 46) (x := (-1)) d_Z_trueBy_46 rfl rfl rfl rfl rfl
    · refine jm_iconst (pc := 45) (v := (-1)) d_Z_trueBy_45 ci_m1 ?_
      exact jm_iret (pc := 46) (x := (-1)) d_Z_trueBy_46 rfl rfl rfl rfl rfl
theorem d_Co_latest_0 : decode (jm_cd mY_Co_latest) 0 = .ok (.iload_n 1, 1) := by decide +kernel
theorem d_Co_latest_1 : decode (jm_cd mY_Co_latest) 1 = .ok (.aload_n 0, 1) := by decide +kernel
theorem d_Co_latest_2 : decode (jm_cd mY_Co_latest) 2 = .ok (.getfield 24, 3) := by decide +kernel
theorem d_Co_latest_5 : decode (jm_cd mY_Co_latest) 5 = .ok (.invokestatic 58, 3) := by decide +kernel
theorem d_Co_latest_8 : decode (jm_cd mY_Co_latest) 8 = .ok (.iconst 1, 1) := by decide +kernel
theorem d_Co_latest_9 : decode (jm_cd mY_Co_latest) 9 = .ok (.isub, 1) := by decide +kernel
theorem d_Co_latest_10 : decode (jm_cd mY_Co_latest) 10 = .ok (.invokestatic 82, 3) := by decide +kernel
theorem d_Co_latest_13 : decode (jm_cd mY_Co_latest) 13 = .ok (.istore_n 2, 1) := by decide +kernel
theorem d_Co_latest_14 : decode (jm_cd mY_Co_latest) 14 = .ok (.bipush (-4), 2) := by decide +kernel
theorem d_Co_latest_16 : decode (jm_cd mY_Co_latest) 16 = .ok (.istore_n 3, 1) := by decide +kernel
theorem d_Co_latest_17 : decode (jm_cd mY_Co_latest) 17 = .ok (.iconst 0, 1) := by decide +kernel
theorem d_Co_latest_18 : decode (jm_cd mY_Co_latest) 18 = .ok (.istore 4, 2) := by decide +kernel
theorem d_Co_latest_20 : decode (jm_cd mY_Co_latest) 20 = .ok (.iconst 0, 1) := by decide +kernel
theorem d_Co_latest_21 : decode (jm_cd mY_Co_latest) 21 = .ok (.istore 5, 2) := by decide +kernel
theorem d_Co_latest_23 : decode (jm_cd mY_Co_latest) 23 = .ok (.iload 5, 2) := by decide +kernel
theorem d_Co_latest_25 : decode (jm_cd mY_Co_latest) 25 = .ok (.sipush 1024, 3) := by decide +kernel
theorem d_Co_latest_28 : decode (jm_cd mY_Co_latest) 28 = .ok (.if_icmp .ge 111, 3) := by decide +kernel
theorem d_Co_latest_31 : decode (jm_cd mY_Co_latest) 31 = .ok (.iload 4, 2) := by decide +kernel
theorem d_Co_latest_33 : decode (jm_cd mY_Co_latest) 33 = .ok (.invokestatic 58, 3) := by decide +kernel
theorem d_Co_latest_36 : decode (jm_cd mY_Co_latest) 36 = .ok (.iload_n 2, 1) := by decide +kernel
theorem d_Co_latest_37 : decode (jm_cd mY_Co_latest) 37 = .ok (.if_icmp .ne 15, 3) := by decide +kernel
theorem d_Co_latest_40 : decode (jm_cd mY_Co_latest) 40 = .ok (.aload_n 0, 1) := by decide +kernel
theorem d_Co_latest_41 : decode (jm_cd mY_Co_latest) 41 = .ok (.getfield 21, 3) := by decide +kernel
theorem d_Co_latest_44 : decode (jm_cd mY_Co_latest) 44 = .ok (.iload 4, 2) := by decide +kernel
theorem d_Co_latest_46 : decode (jm_cd mY_Co_latest) 46 = .ok (.iconst (-1), 1) := by decide +kernel
theorem d_Co_latest_47 : decode (jm_cd mY_Co_latest) 47 = .ok (.ixor, 1) := by decide +kernel
theorem d_Co_latest_48 : decode (jm_cd mY_Co_latest) 48 = .ok (.iand, 1) := by decide +kernel
theorem d_Co_latest_49 : decode (jm_cd mY_Co_latest) 49 = .ok (.goto 4, 3) := by decide +kernel
theorem d_Co_latest_52 : decode (jm_cd mY_Co_latest) 52 = .ok (.iconst 0, 1) := by decide +kernel
theorem d_Co_latest_53 : decode (jm_cd mY_Co_latest) 53 = .ok (.istore 6, 2) := by decide +kernel
theorem d_Co_latest_55 : decode (jm_cd mY_Co_latest) 55 = .ok (.iconst 0, 1) := by decide +kernel
theorem d_Co_latest_56 : decode (jm_cd mY_Co_latest) 56 = .ok (.istore 7, 2) := by decide +kernel
theorem d_Co_latest_58 : decode (jm_cd mY_Co_latest) 58 = .ok (.iload 7, 2) := by decide +kernel
theorem d_Co_latest_60 : decode (jm_cd mY_Co_latest) 60 = .ok (.bipush 10, 2) := by decide +kernel
theorem d_Co_latest_62 : decode (jm_cd mY_Co_latest) 62 = .ok (.if_icmp .ge 52, 3) := by decide +kernel
theorem d_Co_latest_65 : decode (jm_cd mY_Co_latest) 65 = .ok (.iload 6, 2) := by decide +kernel
theorem d_Co_latest_67 : decode (jm_cd mY_Co_latest) 67 = .ok (.iload 7, 2) := by decide +kernel
theorem d_Co_latest_69 : decode (jm_cd mY_Co_latest) 69 = .ok (.ishr, 1) := by decide +kernel
theorem d_Co_latest_70 : decode (jm_cd mY_Co_latest) 70 = .ok (.iconst 1, 1) := by decide +kernel
theorem d_Co_latest_71 : decode (jm_cd mY_Co_latest) 71 = .ok (.iand, 1) := by decide +kernel
theorem d_Co_latest_72 : decode (jm_cd mY_Co_latest) 72 = .ok (.ifCond .eq 36, 3) := by decide +kernel
theorem d_Co_latest_75 : decode (jm_cd mY_Co_latest) 75 = .ok (.aload_n 0, 1) := by decide +kernel
theorem d_Co_latest_76 : decode (jm_cd mY_Co_latest) 76 = .ok (.iconst 1, 1) := by decide +kernel
theorem d_Co_latest_77 : decode (jm_cd mY_Co_latest) 77 = .ok (.iload 7, 2) := by decide +kernel
theorem d_Co_latest_79 : decode (jm_cd mY_Co_latest) 79 = .ok (.ishl, 1) := by decide +kernel
theorem d_Co_latest_80 : decode (jm_cd mY_Co_latest) 80 = .ok (.iload 4, 2) := by decide +kernel
theorem d_Co_latest_82 : decode (jm_cd mY_Co_latest) 82 = .ok (.aload_n 0, 1) := by decide +kernel
theorem d_Co_latest_83 : decode (jm_cd mY_Co_latest) 83 = .ok (.getfield 18, 3) := by decide +kernel
theorem d_Co_latest_86 : decode (jm_cd mY_Co_latest) 86 = .ok (.invokevirtual 74, 3) := by decide +kernel
theorem d_Co_latest_89 : decode (jm_cd mY_Co_latest) 89 = .ok (.istore 8, 2) := by decide +kernel
theorem d_Co_latest_91 : decode (jm_cd mY_Co_latest) 91 = .ok (.iload 8, 2) := by decide +kernel
theorem d_Co_latest_93 : decode (jm_cd mY_Co_latest) 93 = .ok (.bipush (-4), 2) := by decide +kernel
theorem d_Co_latest_95 : decode (jm_cd mY_Co_latest) 95 = .ok (.if_icmp .ne 6, 3) := by decide +kernel
theorem d_Co_latest_98 : decode (jm_cd mY_Co_latest) 98 = .ok (.bipush (-4), 2) := by decide +kernel
theorem d_Co_latest_100 : decode (jm_cd mY_Co_latest) 100 = .ok (.ireturn, 1) := by decide +kernel
theorem d_Co_latest_101 : decode (jm_cd mY_Co_latest) 101 = .ok (.iload_n 3, 1) := by decide +kernel
theorem d_Co_latest_102 : decode (jm_cd mY_Co_latest) 102 = .ok (.iload 8, 2) := by decide +kernel
theorem d_Co_latest_104 : decode (jm_cd mY_Co_latest) 104 = .ok (.invokestatic 87, 3) := by decide +kernel
theorem d_Co_latest_107 : decode (jm_cd mY_Co_latest) 107 = .ok (.istore_n 3, 1) := by decide +kernel
theorem d_Co_latest_108 : decode (jm_cd mY_Co_latest) 108 = .ok (.iinc 7 1, 3) := by decide +kernel
theorem d_Co_latest_111 : decode (jm_cd mY_Co_latest) 111 = .ok (.goto (-53), 3) := by decide +kernel
theorem d_Co_latest_114 : decode (jm_cd mY_Co_latest) 114 = .ok (.iload 4, 2) := by decide +kernel
theorem d_Co_latest_116 : decode (jm_cd mY_Co_latest) 116 = .ok (.aload_n 0, 1) := by decide +kernel
theorem d_Co_latest_117 : decode (jm_cd mY_Co_latest) 117 = .ok (.getfield 24, 3) := by decide +kernel
theorem d_Co_latest_120 : decode (jm_cd mY_Co_latest) 120 = .ok (.invokestatic 70, 3) := by decide +kernel
theorem d_Co_latest_123 : decode (jm_cd mY_Co_latest) 123 = .ok (.istore 4, 2) := by decide +kernel
theorem d_Co_latest_125 : decode (jm_cd mY_Co_latest) 125 = .ok (.iload 4, 2) := by decide +kernel
theorem d_Co_latest_127 : decode (jm_cd mY_Co_latest) 127 = .ok (.ifCond .ne 6, 3) := by decide +kernel
theorem d_Co_latest_130 : decode (jm_cd mY_Co_latest) 130 = .ok (.goto 9, 3) := by decide +kernel
theorem d_Co_latest_133 : decode (jm_cd mY_Co_latest) 133 = .ok (.iinc 5 1, 3) := by decide +kernel
theorem d_Co_latest_136 : decode (jm_cd mY_Co_latest) 136 = .ok (.goto (-113), 3) := by decide +kernel
theorem d_Co_latest_139 : decode (jm_cd mY_Co_latest) 139 = .ok (.iload_n 3, 1) := by decide +kernel
theorem d_Co_latest_140 : decode (jm_cd mY_Co_latest) 140 = .ok (.ireturn, 1) := by decide +kernel
def s_Co_latest_L58 (k14 : Int32 → Int32 → Int32 → Int32 → jm_M → Option (Int32 × jm_M)) : Nat → Int32 → Int32 → Int32 → Int32 → Int32 → Int32 → jm_M → Option (Int32 × jm_M)
  | 0, _, _, _, _, _, _, _ => none
  | n + 1, x2, x3, x4, x5, x6, x7, s => (if 10 ≤ x7 then jm_bd (s_Co_nextSet s x4 (s.1 48 4)) (fun v4 => (if v4 = 0 then (some (x3, s)) else k14 x2 x3 v4 (x5 + 1) s)) else (if ((x6 >>> (x7 &&& 31)) &&& 1) = 0 then s_Co_latest_L58 k14 n x2 x3 x4 x5 x6 (x7 + 1) s else jm_b2 (s_Co_spread s (1 <<< (x7 &&& 31)) x4 (s.1 48 2)) (fun v5 s6 => (if v5 = (-4) then (some ((-4), s6)) else jm_vi (jm_max x3 v5) (fun v7 => s_Co_latest_L58 k14 n x2 v7 x4 x5 x6 (x7 + 1) s6)))))
set_option maxRecDepth 100000 in
set_option maxHeartbeats 4000000 in
theorem s_Co_latest_L58_ok {k14 : Int32 → Int32 → Int32 → Int32 → jm_M → Option (Int32 × jm_M)} (hk14 : ∀ (x2 : Int32) (x3 : Int32) (x4 : Int32) (x5 : Int32) (s : jm_M), jm_Sim mY_Co_latest 0 0 23 [(0, .ref 48), (2, .int x2), (3, .int x3), (4, .int x4), (5, .int x5)] [] 78 mr_154 s (k14 x2 x3 x4 x5 s) (jm_rP 78 mr_154)) : ∀ (n : Nat) (x2 : Int32) (x3 : Int32) (x4 : Int32) (x5 : Int32) (x6 : Int32) (x7 : Int32) (s : jm_M), jm_Sim mY_Co_latest 0 0 58 [(0, .ref 48), (2, .int x2), (3, .int x3), (4, .int x4), (5, .int x5), (6, .int x6), (7, .int x7)] [] 78 mr_154 s (s_Co_latest_L58 k14 n x2 x3 x4 x5 x6 x7 s) (jm_rP 78 mr_154) := by
  intro n
  induction n with
  | zero => intro x2 x3 x4 x5 x6 x7 s; exact jm_none
  | succ n ih =>
    intro x2 x3 x4 x5 x6 x7 s
    rw [s_Co_latest_L58]
    refine jm_iload (pc := 58) (q := 6) (x := x7) d_Co_latest_58 rfl ?_
    refine jm_bipush (pc := 60) (v := 10) d_Co_latest_60 cb_10 ?_
    refine jm_icmp_ge (pc := 62) (tgt := 114) d_Co_latest_62 (by decide) ?_ ?_
    · refine jm_iload (pc := 114) (q := 3) (x := x4) d_Co_latest_114 rfl ?_
      refine jm_aload_n (pc := 116) (q := 0) (x := 48) d_Co_latest_116 rfl ?_
      refine jm_gi (pc := 117) (i := 48) d_Co_latest_117 fo_Co_24 sh_48 ge_48 le_48_78 rfl (fun _ => rfl) ?_
      refine jm_Sp (pc := 120) (Y' := mY_Co_nextSet) (avs := [.int x4, .int (s.1 48 4)]) (rest := []) (s_Co_nextSet_ok s x4 (s.1 48 4)) ok_Co_nextSet l0_Co_latest__Co_nextSet ml_Co_70 sm_Co_nextSet d_Co_latest_120 rfl rfl (Nat.le_of_ble_eq_true rfl) (Nat.le_of_ble_eq_true rfl) (Nat.le_of_ble_eq_true rfl) (Nat.le_of_ble_eq_true rfl) (fun v4 => ?_)
      refine jm_istore (pc := 123) (L2 := [(4, .int v4), (0, .ref 48), (2, .int x2), (3, .int x3), (5, .int x5), (6, .int x6), (7, .int x7)]) d_Co_latest_123 (Nat.le_of_ble_eq_true rfl) rfl ?_
      refine jm_iload (pc := 125) (q := 0) (x := v4) d_Co_latest_125 rfl ?_
      refine jm_if_ne (pc := 127) (tgt := 133) d_Co_latest_127 (by decide) ?_ ?_
      · refine jm_goto (pc := 130) (tgt := 139) d_Co_latest_130 (by decide) ?_
        refine jm_iload_n (pc := 139) (q := 3) (x := x3) d_Co_latest_139 rfl ?_
        exact jm_iret (pc := 140) (x := x3) d_Co_latest_140 rfl rfl rfl rfl rfl
      · refine jm_iinc (pc := 133) (q := 4) (x := x5) (v := 1) (L2 := [(5, .int (x5 + 1)), (4, .int v4), (0, .ref 48), (2, .int x2), (3, .int x3), (6, .int x6), (7, .int x7)]) d_Co_latest_133 rfl ci_1 (Nat.le_of_ble_eq_true rfl) rfl ?_
        refine jm_goto (pc := 136) (tgt := 23) d_Co_latest_136 (by decide) ?_
        refine jm_sub (L2 := [(0, .ref 48), (2, .int x2), (3, .int x3), (4, .int v4), (5, .int (x5 + 1))]) [2, 3, 4, 1, 0] rfl ?_
        exact hk14 x2 x3 v4 (x5 + 1) s
    · refine jm_iload (pc := 65) (q := 5) (x := x6) d_Co_latest_65 rfl ?_
      refine jm_iload (pc := 67) (q := 6) (x := x7) d_Co_latest_67 rfl ?_
      refine jm_ishr (pc := 69) d_Co_latest_69 ?_
      refine jm_iconst (pc := 70) (v := 1) d_Co_latest_70 ci_1 ?_
      refine jm_iand (pc := 71) d_Co_latest_71 ?_
      refine jm_if_eq (pc := 72) (tgt := 108) d_Co_latest_72 (by decide) ?_ ?_
      · refine jm_iinc (pc := 108) (q := 6) (x := x7) (v := 1) (L2 := [(7, .int (x7 + 1)), (0, .ref 48), (2, .int x2), (3, .int x3), (4, .int x4), (5, .int x5), (6, .int x6)]) d_Co_latest_108 rfl ci_1 (Nat.le_of_ble_eq_true rfl) rfl ?_
        refine jm_goto (pc := 111) (tgt := 58) d_Co_latest_111 (by decide) ?_
        refine jm_sub (L2 := [(0, .ref 48), (2, .int x2), (3, .int x3), (4, .int x4), (5, .int x5), (6, .int x6), (7, .int (x7 + 1))]) [1, 2, 3, 4, 5, 6, 0] rfl ?_
        exact ih x2 x3 x4 x5 x6 (x7 + 1) s
      · refine jm_aload_n (pc := 75) (q := 0) (x := 48) d_Co_latest_75 rfl ?_
        refine jm_iconst (pc := 76) (v := 1) d_Co_latest_76 ci_1 ?_
        refine jm_iload (pc := 77) (q := 6) (x := x7) d_Co_latest_77 rfl ?_
        refine jm_ishl (pc := 79) d_Co_latest_79 ?_
        refine jm_iload (pc := 80) (q := 3) (x := x4) d_Co_latest_80 rfl ?_
        refine jm_aload_n (pc := 82) (q := 0) (x := 48) d_Co_latest_82 rfl ?_
        refine jm_gi (pc := 83) (i := 48) d_Co_latest_83 fo_Co_18 sh_48 ge_48 le_48_78 rfl (fun _ => rfl) ?_
        refine jm_Vi (pc := 86) (Y' := mY_Co_spread) (i := 48) (avs := [.int (1 <<< (x7 &&& 31)), .int x4, .int (s.1 48 2)]) (rest := []) (s_Co_spread_ok s (1 <<< (x7 &&& 31)) x4 (s.1 48 2)) ok_Co_spread l0_Co_latest__Co_spread ml_Co_74 im_Co_spread se_Co_spread d_Co_latest_86 rfl sh_48 rfl rfl ge_48 le_48_78 rfl (Nat.le_of_ble_eq_true rfl) (Nat.le_of_ble_eq_true rfl) (Nat.le_of_ble_eq_true rfl) (Nat.le_of_ble_eq_true rfl) (fun v5 s6 => ?_)
        refine jm_istore (pc := 89) (L2 := [(8, .int v5), (0, .ref 48), (2, .int x2), (3, .int x3), (4, .int x4), (5, .int x5), (6, .int x6), (7, .int x7)]) d_Co_latest_89 (Nat.le_of_ble_eq_true rfl) rfl ?_
        refine jm_iload (pc := 91) (q := 0) (x := v5) d_Co_latest_91 rfl ?_
        refine jm_bipush (pc := 93) (v := (-4)) d_Co_latest_93 cb_m4 ?_
        refine jm_icmp_ne (pc := 95) (tgt := 101) d_Co_latest_95 (by decide) ?_ ?_
        · refine jm_bipush (pc := 98) (v := (-4)) d_Co_latest_98 cb_m4 ?_
          exact jm_iret (pc := 100) (x := (-4)) d_Co_latest_100 rfl rfl rfl rfl rfl
        · refine jm_iload_n (pc := 101) (q := 3) (x := x3) d_Co_latest_101 rfl ?_
          refine jm_iload (pc := 102) (q := 0) (x := v5) d_Co_latest_102 rfl ?_
          refine jm_mmax (pc := 104) d_Co_latest_104 ml_Co_87 sm_JM_max ini_JM mm_max (Nat.le_of_ble_eq_true rfl) (Nat.le_of_ble_eq_true rfl) (Nat.le_of_ble_eq_true rfl) (Nat.le_of_ble_eq_true rfl) ?_
          refine jm_nvi (fun v7 => ?_)
          refine jm_istore_n (pc := 107) (i := 3) (L2 := [(3, .int v7), (8, .int v5), (0, .ref 48), (2, .int x2), (4, .int x4), (5, .int x5), (6, .int x6), (7, .int x7)]) d_Co_latest_107 rfl (Nat.le_of_ble_eq_true rfl) rfl ?_
          refine jm_iinc (pc := 108) (q := 7) (x := x7) (v := 1) (L2 := [(7, .int (x7 + 1)), (3, .int v7), (8, .int v5), (0, .ref 48), (2, .int x2), (4, .int x4), (5, .int x5), (6, .int x6)]) d_Co_latest_108 rfl ci_1 (Nat.le_of_ble_eq_true rfl) rfl ?_
          refine jm_goto (pc := 111) (tgt := 58) d_Co_latest_111 (by decide) ?_
          refine jm_sub (L2 := [(0, .ref 48), (2, .int x2), (3, .int v7), (4, .int x4), (5, .int x5), (6, .int x6), (7, .int (x7 + 1))]) [3, 4, 1, 5, 6, 7, 0] rfl ?_
          exact ih x2 v7 x4 x5 x6 (x7 + 1) s6
def s_Co_latest_L23 : Nat → Int32 → Int32 → Int32 → Int32 → jm_M → Option (Int32 × jm_M)
  | 0, _, _, _, _, _ => none
  | n + 1, x2, x3, x4, x5, s => (if 1024 ≤ x5 then (some (x3, s)) else jm_bd (s_JI_bitCount s x4) (fun v3 => (if v3 = x2 then jm_vi ((s.1 48 3) &&& (x4 ^^^ (-1))) (fun v8 => s_Co_latest_L58 (s_Co_latest_L23 n) 5000 x2 x3 x4 x5 v8 0 s) else s_Co_latest_L58 (s_Co_latest_L23 n) 5000 x2 x3 x4 x5 0 0 s)))
set_option maxRecDepth 100000 in
set_option maxHeartbeats 4000000 in
theorem s_Co_latest_L23_ok : ∀ (n : Nat) (x2 : Int32) (x3 : Int32) (x4 : Int32) (x5 : Int32) (s : jm_M), jm_Sim mY_Co_latest 0 0 23 [(0, .ref 48), (2, .int x2), (3, .int x3), (4, .int x4), (5, .int x5)] [] 78 mr_154 s (s_Co_latest_L23 n x2 x3 x4 x5 s) (jm_rP 78 mr_154) := by
  intro n
  induction n with
  | zero => intro x2 x3 x4 x5 s; exact jm_none
  | succ n ih =>
    intro x2 x3 x4 x5 s
    rw [s_Co_latest_L23]
    refine jm_iload (pc := 23) (q := 4) (x := x5) d_Co_latest_23 rfl ?_
    refine jm_sipush (pc := 25) (v := 1024) d_Co_latest_25 cs_1024 ?_
    refine jm_icmp_ge (pc := 28) (tgt := 139) d_Co_latest_28 (by decide) ?_ ?_
    · refine jm_iload_n (pc := 139) (q := 2) (x := x3) d_Co_latest_139 rfl ?_
      exact jm_iret (pc := 140) (x := x3) d_Co_latest_140 rfl rfl rfl rfl rfl
    · refine jm_iload (pc := 31) (q := 3) (x := x4) d_Co_latest_31 rfl ?_
      refine jm_Sp (pc := 33) (Y' := mY_JI_bitCount) (avs := [.int x4]) (rest := []) (s_JI_bitCount_ok s x4) ok_JI_bitCount l0_Co_latest__JI_bitCount ml_Co_58 sm_JI_bitCount d_Co_latest_33 rfl rfl (Nat.le_of_ble_eq_true rfl) (Nat.le_of_ble_eq_true rfl) (Nat.le_of_ble_eq_true rfl) (Nat.le_of_ble_eq_true rfl) (fun v3 => ?_)
      refine jm_iload_n (pc := 36) (q := 1) (x := x2) d_Co_latest_36 rfl ?_
      refine jm_icmp_ne (pc := 37) (tgt := 52) d_Co_latest_37 (by decide) ?_ ?_
      · refine jm_aload_n (pc := 40) (q := 0) (x := 48) d_Co_latest_40 rfl ?_
        refine jm_gi (pc := 41) (i := 48) d_Co_latest_41 fo_Co_21 sh_48 ge_48 le_48_78 rfl (fun _ => rfl) ?_
        refine jm_iload (pc := 44) (q := 3) (x := x4) d_Co_latest_44 rfl ?_
        refine jm_iconst (pc := 46) (v := (-1)) d_Co_latest_46 ci_m1 ?_
        refine jm_ixor (pc := 47) d_Co_latest_47 ?_
        refine jm_iand (pc := 48) d_Co_latest_48 ?_
        refine jm_goto (pc := 49) (tgt := 53) d_Co_latest_49 (by decide) ?_
        refine jm_nvi (fun v8 => ?_)
        refine jm_istore (pc := 53) (L2 := [(6, .int v8), (0, .ref 48), (2, .int x2), (3, .int x3), (4, .int x4), (5, .int x5)]) d_Co_latest_53 (Nat.le_of_ble_eq_true rfl) rfl ?_
        refine jm_iconst (pc := 55) (v := 0) d_Co_latest_55 ci_0 ?_
        refine jm_istore (pc := 56) (L2 := [(7, .int 0), (6, .int v8), (0, .ref 48), (2, .int x2), (3, .int x3), (4, .int x4), (5, .int x5)]) d_Co_latest_56 (Nat.le_of_ble_eq_true rfl) rfl ?_
        refine jm_sub (L2 := [(0, .ref 48), (2, .int x2), (3, .int x3), (4, .int x4), (5, .int x5), (6, .int v8), (7, .int 0)]) [2, 3, 4, 5, 6, 1, 0] rfl ?_
        exact s_Co_latest_L58_ok ih 5000 x2 x3 x4 x5 v8 0 s
      · refine jm_iconst (pc := 52) (v := 0) d_Co_latest_52 ci_0 ?_
        refine jm_istore (pc := 53) (L2 := [(6, .int 0), (0, .ref 48), (2, .int x2), (3, .int x3), (4, .int x4), (5, .int x5)]) d_Co_latest_53 (Nat.le_of_ble_eq_true rfl) rfl ?_
        refine jm_iconst (pc := 55) (v := 0) d_Co_latest_55 ci_0 ?_
        refine jm_istore (pc := 56) (L2 := [(7, .int 0), (6, .int 0), (0, .ref 48), (2, .int x2), (3, .int x3), (4, .int x4), (5, .int x5)]) d_Co_latest_56 (Nat.le_of_ble_eq_true rfl) rfl ?_
        refine jm_sub (L2 := [(0, .ref 48), (2, .int x2), (3, .int x3), (4, .int x4), (5, .int x5), (6, .int 0), (7, .int 0)]) [2, 3, 4, 5, 6, 1, 0] rfl ?_
        exact s_Co_latest_L58_ok ih 5000 x2 x3 x4 x5 0 0 s
def s_Co_latest (s : jm_M) (a0 : Int32) : Option (Int32 × jm_M) := jm_bd (s_JI_bitCount s (s.1 48 4)) (fun v1 => jm_vi (jm_min a0 (v1 - 1)) (fun v2 => s_Co_latest_L23 5000 v2 (-4) 0 0 s))
set_option maxRecDepth 100000 in
set_option maxHeartbeats 4000000 in
theorem s_Co_latest_ok (s : jm_M) (a0 : Int32) : jm_Sim mY_Co_latest 0 0 0 [(0, .ref 48), (1, .int a0)] [] 78 mr_154 s (s_Co_latest s a0) (jm_rP 78 mr_154) := by
  unfold s_Co_latest
  refine jm_iload_n (pc := 0) (q := 1) (x := a0) d_Co_latest_0 rfl ?_
  refine jm_aload_n (pc := 1) (q := 0) (x := 48) d_Co_latest_1 rfl ?_
  refine jm_gi (pc := 2) (i := 48) d_Co_latest_2 fo_Co_24 sh_48 ge_48 le_48_78 rfl (fun _ => rfl) ?_
  refine jm_Sp (pc := 5) (Y' := mY_JI_bitCount) (avs := [.int (s.1 48 4)]) (rest := [.int a0]) (s_JI_bitCount_ok s (s.1 48 4)) ok_JI_bitCount l0_Co_latest__JI_bitCount ml_Co_58 sm_JI_bitCount d_Co_latest_5 rfl rfl (Nat.le_of_ble_eq_true rfl) (Nat.le_of_ble_eq_true rfl) (Nat.le_of_ble_eq_true rfl) (Nat.le_of_ble_eq_true rfl) (fun v1 => ?_)
  refine jm_iconst (pc := 8) (v := 1) d_Co_latest_8 ci_1 ?_
  refine jm_isub (pc := 9) d_Co_latest_9 ?_
  refine jm_mmin (pc := 10) d_Co_latest_10 ml_Co_82 sm_JM_min ini_JM mm_min (Nat.le_of_ble_eq_true rfl) (Nat.le_of_ble_eq_true rfl) (Nat.le_of_ble_eq_true rfl) (Nat.le_of_ble_eq_true rfl) ?_
  refine jm_nvi (fun v2 => ?_)
  refine jm_istore_n (pc := 13) (i := 2) (L2 := [(2, .int v2), (0, .ref 48), (1, .int a0)]) d_Co_latest_13 rfl (Nat.le_of_ble_eq_true rfl) rfl ?_
  refine jm_bipush (pc := 14) (v := (-4)) d_Co_latest_14 cb_m4 ?_
  refine jm_istore_n (pc := 16) (i := 3) (L2 := [(3, .int (-4)), (2, .int v2), (0, .ref 48), (1, .int a0)]) d_Co_latest_16 rfl (Nat.le_of_ble_eq_true rfl) rfl ?_
  refine jm_iconst (pc := 17) (v := 0) d_Co_latest_17 ci_0 ?_
  refine jm_istore (pc := 18) (L2 := [(4, .int 0), (3, .int (-4)), (2, .int v2), (0, .ref 48), (1, .int a0)]) d_Co_latest_18 (Nat.le_of_ble_eq_true rfl) rfl ?_
  refine jm_iconst (pc := 20) (v := 0) d_Co_latest_20 ci_0 ?_
  refine jm_istore (pc := 21) (L2 := [(5, .int 0), (4, .int 0), (3, .int (-4)), (2, .int v2), (0, .ref 48), (1, .int a0)]) d_Co_latest_21 (Nat.le_of_ble_eq_true rfl) rfl ?_
  refine jm_sub (L2 := [(0, .ref 48), (2, .int v2), (3, .int (-4)), (4, .int 0), (5, .int 0)]) [4, 3, 2, 1, 0] rfl ?_
  exact s_Co_latest_L23_ok 5000 v2 (-4) 0 0 s
theorem d_Co_turnSight_0 : decode (jm_cd mY_Co_turnSight) 0 = .ok (.iload_n 1, 1) := by decide +kernel
theorem d_Co_turnSight_1 : decode (jm_cd mY_Co_turnSight) 1 = .ok (.ifCond .lt 43, 3) := by decide +kernel
theorem d_Co_turnSight_4 : decode (jm_cd mY_Co_turnSight) 4 = .ok (.iload_n 1, 1) := by decide +kernel
theorem d_Co_turnSight_5 : decode (jm_cd mY_Co_turnSight) 5 = .ok (.bipush 10, 2) := by decide +kernel
theorem d_Co_turnSight_7 : decode (jm_cd mY_Co_turnSight) 7 = .ok (.if_icmp .ge 37, 3) := by decide +kernel
theorem d_Co_turnSight_10 : decode (jm_cd mY_Co_turnSight) 10 = .ok (.iload_n 2, 1) := by decide +kernel
theorem d_Co_turnSight_11 : decode (jm_cd mY_Co_turnSight) 11 = .ok (.ifCond .lt 33, 3) := by decide +kernel
theorem d_Co_turnSight_14 : decode (jm_cd mY_Co_turnSight) 14 = .ok (.iload_n 2, 1) := by decide +kernel
theorem d_Co_turnSight_15 : decode (jm_cd mY_Co_turnSight) 15 = .ok (.bipush 10, 2) := by decide +kernel
theorem d_Co_turnSight_17 : decode (jm_cd mY_Co_turnSight) 17 = .ok (.if_icmp .ge 27, 3) := by decide +kernel
theorem d_Co_turnSight_20 : decode (jm_cd mY_Co_turnSight) 20 = .ok (.aload_n 0, 1) := by decide +kernel
theorem d_Co_turnSight_21 : decode (jm_cd mY_Co_turnSight) 21 = .ok (.getfield 27, 3) := by decide +kernel
theorem d_Co_turnSight_24 : decode (jm_cd mY_Co_turnSight) 24 = .ok (.iload_n 1, 1) := by decide +kernel
theorem d_Co_turnSight_25 : decode (jm_cd mY_Co_turnSight) 25 = .ok (.dup2, 1) := by decide +kernel
theorem d_Co_turnSight_26 : decode (jm_cd mY_Co_turnSight) 26 = .ok (.iaload, 1) := by decide +kernel
theorem d_Co_turnSight_27 : decode (jm_cd mY_Co_turnSight) 27 = .ok (.iconst 1, 1) := by decide +kernel
theorem d_Co_turnSight_28 : decode (jm_cd mY_Co_turnSight) 28 = .ok (.iload_n 2, 1) := by decide +kernel
theorem d_Co_turnSight_29 : decode (jm_cd mY_Co_turnSight) 29 = .ok (.ishl, 1) := by decide +kernel
theorem d_Co_turnSight_30 : decode (jm_cd mY_Co_turnSight) 30 = .ok (.ixor, 1) := by decide +kernel
theorem d_Co_turnSight_31 : decode (jm_cd mY_Co_turnSight) 31 = .ok (.iastore, 1) := by decide +kernel
theorem d_Co_turnSight_32 : decode (jm_cd mY_Co_turnSight) 32 = .ok (.aload_n 0, 1) := by decide +kernel
theorem d_Co_turnSight_33 : decode (jm_cd mY_Co_turnSight) 33 = .ok (.getfield 27, 3) := by decide +kernel
theorem d_Co_turnSight_36 : decode (jm_cd mY_Co_turnSight) 36 = .ok (.iload_n 2, 1) := by decide +kernel
theorem d_Co_turnSight_37 : decode (jm_cd mY_Co_turnSight) 37 = .ok (.dup2, 1) := by decide +kernel
theorem d_Co_turnSight_38 : decode (jm_cd mY_Co_turnSight) 38 = .ok (.iaload, 1) := by decide +kernel
theorem d_Co_turnSight_39 : decode (jm_cd mY_Co_turnSight) 39 = .ok (.iconst 1, 1) := by decide +kernel
theorem d_Co_turnSight_40 : decode (jm_cd mY_Co_turnSight) 40 = .ok (.iload_n 1, 1) := by decide +kernel
theorem d_Co_turnSight_41 : decode (jm_cd mY_Co_turnSight) 41 = .ok (.ishl, 1) := by decide +kernel
theorem d_Co_turnSight_42 : decode (jm_cd mY_Co_turnSight) 42 = .ok (.ixor, 1) := by decide +kernel
theorem d_Co_turnSight_43 : decode (jm_cd mY_Co_turnSight) 43 = .ok (.iastore, 1) := by decide +kernel
theorem d_Co_turnSight_44 : decode (jm_cd mY_Co_turnSight) 44 = .ok (.return_, 1) := by decide +kernel
def s_Co_turnSight (s : jm_M) (a0 : Int32) (a1 : Int32) : Option jm_M := (if a0 < 0 then (some s) else (if 10 ≤ a0 then (some s) else (if a1 < 0 then (some s) else (if 10 ≤ a1 then (some s) else jm_ldi s 49 10 a0 (fun v1 => jm_sti s 49 10 a0 (v1 ^^^ (1 <<< (a1 &&& 31))) (fun s2 => jm_ldi s2 49 10 a1 (fun v3 => jm_sti s2 49 10 a1 (v3 ^^^ (1 <<< (a0 &&& 31))) (fun s4 => (some s4)))))))))
set_option maxRecDepth 100000 in
set_option maxHeartbeats 4000000 in
theorem s_Co_turnSight_ok (s : jm_M) (a0 : Int32) (a1 : Int32) : jm_Sim mY_Co_turnSight 0 0 0 [(0, .ref 48), (1, .int a0), (2, .int a1)] [] 78 mr_154 s (s_Co_turnSight s a0 a1) (jm_rV 78 mr_154) := by
  unfold s_Co_turnSight
  refine jm_iload_n (pc := 0) (q := 1) (x := a0) d_Co_turnSight_0 rfl ?_
  refine jm_if_lt (pc := 1) (tgt := 44) d_Co_turnSight_1 (by decide) ?_ ?_
  · exact jm_vret (pc := 44) d_Co_turnSight_44 rfl rfl rfl rfl
  · refine jm_iload_n (pc := 4) (q := 1) (x := a0) d_Co_turnSight_4 rfl ?_
    refine jm_bipush (pc := 5) (v := 10) d_Co_turnSight_5 cb_10 ?_
    refine jm_icmp_ge (pc := 7) (tgt := 44) d_Co_turnSight_7 (by decide) ?_ ?_
    · exact jm_vret (pc := 44) d_Co_turnSight_44 rfl rfl rfl rfl
    · refine jm_iload_n (pc := 10) (q := 2) (x := a1) d_Co_turnSight_10 rfl ?_
      refine jm_if_lt (pc := 11) (tgt := 44) d_Co_turnSight_11 (by decide) ?_ ?_
      · exact jm_vret (pc := 44) d_Co_turnSight_44 rfl rfl rfl rfl
      · refine jm_iload_n (pc := 14) (q := 2) (x := a1) d_Co_turnSight_14 rfl ?_
        refine jm_bipush (pc := 15) (v := 10) d_Co_turnSight_15 cb_10 ?_
        refine jm_icmp_ge (pc := 17) (tgt := 44) d_Co_turnSight_17 (by decide) ?_ ?_
        · exact jm_vret (pc := 44) d_Co_turnSight_44 rfl rfl rfl rfl
        · refine jm_aload_n (pc := 20) (q := 0) (x := 48) d_Co_turnSight_20 rfl ?_
          refine jm_gr (pc := 21) (i := 48) d_Co_turnSight_21 fo_Co_27 sh_48 ge_48 le_48_78 rfl (fun _ => rfl) mr_154_48_5 ge_49 ?_
          refine jm_iload_n (pc := 24) (q := 1) (x := a0) d_Co_turnSight_24 rfl ?_
          refine jm_dup2 (pc := 25) d_Co_turnSight_25 rfl rfl ?_
          refine jm_iald (pc := 26) d_Co_turnSight_26 sh_49 ge_49 le_49_78 (fun v1 => ?_)
          refine jm_iconst (pc := 27) (v := 1) d_Co_turnSight_27 ci_1 ?_
          refine jm_iload_n (pc := 28) (q := 2) (x := a1) d_Co_turnSight_28 rfl ?_
          refine jm_ishl (pc := 29) d_Co_turnSight_29 ?_
          refine jm_ixor (pc := 30) d_Co_turnSight_30 ?_
          refine jm_iast (pc := 31) d_Co_turnSight_31 sh_49 ge_49 le_49_78 (fun s2 => ?_)
          refine jm_aload_n (pc := 32) (q := 0) (x := 48) d_Co_turnSight_32 rfl ?_
          refine jm_gr (pc := 33) (i := 48) d_Co_turnSight_33 fo_Co_27 sh_48 ge_48 le_48_78 rfl (fun _ => rfl) mr_154_48_5 ge_49 ?_
          refine jm_iload_n (pc := 36) (q := 2) (x := a1) d_Co_turnSight_36 rfl ?_
          refine jm_dup2 (pc := 37) d_Co_turnSight_37 rfl rfl ?_
          refine jm_iald (pc := 38) d_Co_turnSight_38 sh_49 ge_49 le_49_78 (fun v3 => ?_)
          refine jm_iconst (pc := 39) (v := 1) d_Co_turnSight_39 ci_1 ?_
          refine jm_iload_n (pc := 40) (q := 1) (x := a0) d_Co_turnSight_40 rfl ?_
          refine jm_ishl (pc := 41) d_Co_turnSight_41 ?_
          refine jm_ixor (pc := 42) d_Co_turnSight_42 ?_
          refine jm_iast (pc := 43) d_Co_turnSight_43 sh_49 ge_49 le_49_78 (fun s4 => ?_)
          exact jm_vret (pc := 44) d_Co_turnSight_44 rfl rfl rfl rfl
theorem d_Co_latestWithOneSightGone_0 : decode (jm_cd mY_Co_latestWithOneSightGone) 0 = .ok (.bipush (-4), 2) := by decide +kernel
theorem d_Co_latestWithOneSightGone_2 : decode (jm_cd mY_Co_latestWithOneSightGone) 2 = .ok (.istore_n 2, 1) := by decide +kernel
theorem d_Co_latestWithOneSightGone_3 : decode (jm_cd mY_Co_latestWithOneSightGone) 3 = .ok (.iconst 0, 1) := by decide +kernel
theorem d_Co_latestWithOneSightGone_4 : decode (jm_cd mY_Co_latestWithOneSightGone) 4 = .ok (.istore_n 3, 1) := by decide +kernel
theorem d_Co_latestWithOneSightGone_5 : decode (jm_cd mY_Co_latestWithOneSightGone) 5 = .ok (.iconst 0, 1) := by decide +kernel
theorem d_Co_latestWithOneSightGone_6 : decode (jm_cd mY_Co_latestWithOneSightGone) 6 = .ok (.istore 4, 2) := by decide +kernel
theorem d_Co_latestWithOneSightGone_8 : decode (jm_cd mY_Co_latestWithOneSightGone) 8 = .ok (.iload 4, 2) := by decide +kernel
theorem d_Co_latestWithOneSightGone_10 : decode (jm_cd mY_Co_latestWithOneSightGone) 10 = .ok (.bipush 10, 2) := by decide +kernel
theorem d_Co_latestWithOneSightGone_12 : decode (jm_cd mY_Co_latestWithOneSightGone) 12 = .ok (.if_icmp .ge 85, 3) := by decide +kernel
theorem d_Co_latestWithOneSightGone_15 : decode (jm_cd mY_Co_latestWithOneSightGone) 15 = .ok (.iload 4, 2) := by decide +kernel
theorem d_Co_latestWithOneSightGone_17 : decode (jm_cd mY_Co_latestWithOneSightGone) 17 = .ok (.iconst 1, 1) := by decide +kernel
theorem d_Co_latestWithOneSightGone_18 : decode (jm_cd mY_Co_latestWithOneSightGone) 18 = .ok (.iadd, 1) := by decide +kernel
theorem d_Co_latestWithOneSightGone_19 : decode (jm_cd mY_Co_latestWithOneSightGone) 19 = .ok (.istore 5, 2) := by decide +kernel
theorem d_Co_latestWithOneSightGone_21 : decode (jm_cd mY_Co_latestWithOneSightGone) 21 = .ok (.iload 5, 2) := by decide +kernel
theorem d_Co_latestWithOneSightGone_23 : decode (jm_cd mY_Co_latestWithOneSightGone) 23 = .ok (.bipush 10, 2) := by decide +kernel
theorem d_Co_latestWithOneSightGone_25 : decode (jm_cd mY_Co_latestWithOneSightGone) 25 = .ok (.if_icmp .ge 66, 3) := by decide +kernel
theorem d_Co_latestWithOneSightGone_28 : decode (jm_cd mY_Co_latestWithOneSightGone) 28 = .ok (.aload_n 0, 1) := by decide +kernel
theorem d_Co_latestWithOneSightGone_29 : decode (jm_cd mY_Co_latestWithOneSightGone) 29 = .ok (.getfield 27, 3) := by decide +kernel
theorem d_Co_latestWithOneSightGone_32 : decode (jm_cd mY_Co_latestWithOneSightGone) 32 = .ok (.iload 4, 2) := by decide +kernel
theorem d_Co_latestWithOneSightGone_34 : decode (jm_cd mY_Co_latestWithOneSightGone) 34 = .ok (.iaload, 1) := by decide +kernel
theorem d_Co_latestWithOneSightGone_35 : decode (jm_cd mY_Co_latestWithOneSightGone) 35 = .ok (.iload 5, 2) := by decide +kernel
theorem d_Co_latestWithOneSightGone_37 : decode (jm_cd mY_Co_latestWithOneSightGone) 37 = .ok (.ishr, 1) := by decide +kernel
theorem d_Co_latestWithOneSightGone_38 : decode (jm_cd mY_Co_latestWithOneSightGone) 38 = .ok (.iconst 1, 1) := by decide +kernel
theorem d_Co_latestWithOneSightGone_39 : decode (jm_cd mY_Co_latestWithOneSightGone) 39 = .ok (.iand, 1) := by decide +kernel
theorem d_Co_latestWithOneSightGone_40 : decode (jm_cd mY_Co_latestWithOneSightGone) 40 = .ok (.ifCond .eq 45, 3) := by decide +kernel
theorem d_Co_latestWithOneSightGone_43 : decode (jm_cd mY_Co_latestWithOneSightGone) 43 = .ok (.iconst 1, 1) := by decide +kernel
theorem d_Co_latestWithOneSightGone_44 : decode (jm_cd mY_Co_latestWithOneSightGone) 44 = .ok (.istore_n 3, 1) := by decide +kernel
theorem d_Co_latestWithOneSightGone_45 : decode (jm_cd mY_Co_latestWithOneSightGone) 45 = .ok (.aload_n 0, 1) := by decide +kernel
theorem d_Co_latestWithOneSightGone_46 : decode (jm_cd mY_Co_latestWithOneSightGone) 46 = .ok (.iload 4, 2) := by decide +kernel
theorem d_Co_latestWithOneSightGone_48 : decode (jm_cd mY_Co_latestWithOneSightGone) 48 = .ok (.iload 5, 2) := by decide +kernel
theorem d_Co_latestWithOneSightGone_50 : decode (jm_cd mY_Co_latestWithOneSightGone) 50 = .ok (.invokevirtual 90, 3) := by decide +kernel
theorem d_Co_latestWithOneSightGone_53 : decode (jm_cd mY_Co_latestWithOneSightGone) 53 = .ok (.aload_n 0, 1) := by decide +kernel
theorem d_Co_latestWithOneSightGone_54 : decode (jm_cd mY_Co_latestWithOneSightGone) 54 = .ok (.iload_n 1, 1) := by decide +kernel
theorem d_Co_latestWithOneSightGone_55 : decode (jm_cd mY_Co_latestWithOneSightGone) 55 = .ok (.invokevirtual 94, 3) := by decide +kernel
theorem d_Co_latestWithOneSightGone_58 : decode (jm_cd mY_Co_latestWithOneSightGone) 58 = .ok (.istore 6, 2) := by decide +kernel
theorem d_Co_latestWithOneSightGone_60 : decode (jm_cd mY_Co_latestWithOneSightGone) 60 = .ok (.aload_n 0, 1) := by decide +kernel
theorem d_Co_latestWithOneSightGone_61 : decode (jm_cd mY_Co_latestWithOneSightGone) 61 = .ok (.iload 4, 2) := by decide +kernel
theorem d_Co_latestWithOneSightGone_63 : decode (jm_cd mY_Co_latestWithOneSightGone) 63 = .ok (.iload 5, 2) := by decide +kernel
theorem d_Co_latestWithOneSightGone_65 : decode (jm_cd mY_Co_latestWithOneSightGone) 65 = .ok (.invokevirtual 90, 3) := by decide +kernel
theorem d_Co_latestWithOneSightGone_68 : decode (jm_cd mY_Co_latestWithOneSightGone) 68 = .ok (.iload 6, 2) := by decide +kernel
theorem d_Co_latestWithOneSightGone_70 : decode (jm_cd mY_Co_latestWithOneSightGone) 70 = .ok (.bipush (-4), 2) := by decide +kernel
theorem d_Co_latestWithOneSightGone_72 : decode (jm_cd mY_Co_latestWithOneSightGone) 72 = .ok (.if_icmp .ne 6, 3) := by decide +kernel
theorem d_Co_latestWithOneSightGone_75 : decode (jm_cd mY_Co_latestWithOneSightGone) 75 = .ok (.bipush (-4), 2) := by decide +kernel
theorem d_Co_latestWithOneSightGone_77 : decode (jm_cd mY_Co_latestWithOneSightGone) 77 = .ok (.ireturn, 1) := by decide +kernel
theorem d_Co_latestWithOneSightGone_78 : decode (jm_cd mY_Co_latestWithOneSightGone) 78 = .ok (.iload_n 2, 1) := by decide +kernel
theorem d_Co_latestWithOneSightGone_79 : decode (jm_cd mY_Co_latestWithOneSightGone) 79 = .ok (.iload 6, 2) := by decide +kernel
theorem d_Co_latestWithOneSightGone_81 : decode (jm_cd mY_Co_latestWithOneSightGone) 81 = .ok (.invokestatic 87, 3) := by decide +kernel
theorem d_Co_latestWithOneSightGone_84 : decode (jm_cd mY_Co_latestWithOneSightGone) 84 = .ok (.istore_n 2, 1) := by decide +kernel
theorem d_Co_latestWithOneSightGone_85 : decode (jm_cd mY_Co_latestWithOneSightGone) 85 = .ok (.iinc 5 1, 3) := by decide +kernel
theorem d_Co_latestWithOneSightGone_88 : decode (jm_cd mY_Co_latestWithOneSightGone) 88 = .ok (.goto (-67), 3) := by decide +kernel
theorem d_Co_latestWithOneSightGone_91 : decode (jm_cd mY_Co_latestWithOneSightGone) 91 = .ok (.iinc 4 1, 3) := by decide +kernel
theorem d_Co_latestWithOneSightGone_94 : decode (jm_cd mY_Co_latestWithOneSightGone) 94 = .ok (.goto (-86), 3) := by decide +kernel
theorem d_Co_latestWithOneSightGone_97 : decode (jm_cd mY_Co_latestWithOneSightGone) 97 = .ok (.iload_n 3, 1) := by decide +kernel
theorem d_Co_latestWithOneSightGone_98 : decode (jm_cd mY_Co_latestWithOneSightGone) 98 = .ok (.ifCond .eq 7, 3) := by decide +kernel
theorem d_Co_latestWithOneSightGone_101 : decode (jm_cd mY_Co_latestWithOneSightGone) 101 = .ok (.iload_n 2, 1) := by decide +kernel
theorem d_Co_latestWithOneSightGone_102 : decode (jm_cd mY_Co_latestWithOneSightGone) 102 = .ok (.goto 8, 3) := by decide +kernel
theorem d_Co_latestWithOneSightGone_105 : decode (jm_cd mY_Co_latestWithOneSightGone) 105 = .ok (.aload_n 0, 1) := by decide +kernel
theorem d_Co_latestWithOneSightGone_106 : decode (jm_cd mY_Co_latestWithOneSightGone) 106 = .ok (.iload_n 1, 1) := by decide +kernel
theorem d_Co_latestWithOneSightGone_107 : decode (jm_cd mY_Co_latestWithOneSightGone) 107 = .ok (.invokevirtual 94, 3) := by decide +kernel
theorem d_Co_latestWithOneSightGone_110 : decode (jm_cd mY_Co_latestWithOneSightGone) 110 = .ok (.ireturn, 1) := by decide +kernel
def s_Co_latestWithOneSightGone_L21 (k6 : Int32 → Int32 → Int32 → Int32 → jm_M → Option (Int32 × jm_M)) : Nat → Int32 → Int32 → Int32 → Int32 → Int32 → jm_M → Option (Int32 × jm_M)
  | 0, _, _, _, _, _, _ => none
  | n + 1, x1, x2, x3, x4, x5, s => (if 10 ≤ x5 then k6 x1 x2 x3 (x4 + 1) s else jm_ldi s 49 10 x4 (fun v4 => (if ((v4 >>> (x5 &&& 31)) &&& 1) = 0 then s_Co_latestWithOneSightGone_L21 k6 n x1 x2 x3 x4 (x5 + 1) s else jm_bd (s_Co_turnSight s x4 x5) (fun s5 => jm_b2 (s_Co_latest s5 x1) (fun v6 s7 => jm_bd (s_Co_turnSight s7 x4 x5) (fun s8 => (if v6 = (-4) then (some ((-4), s8)) else jm_vi (jm_max x2 v6) (fun v9 => s_Co_latestWithOneSightGone_L21 k6 n x1 v9 1 x4 (x5 + 1) s8))))))))
set_option maxRecDepth 100000 in
set_option maxHeartbeats 4000000 in
theorem s_Co_latestWithOneSightGone_L21_ok {k6 : Int32 → Int32 → Int32 → Int32 → jm_M → Option (Int32 × jm_M)} (hk6 : ∀ (x1 : Int32) (x2 : Int32) (x3 : Int32) (x4 : Int32) (s : jm_M), jm_Sim mY_Co_latestWithOneSightGone 0 0 8 [(0, .ref 48), (1, .int x1), (2, .int x2), (3, .int x3), (4, .int x4)] [] 78 mr_154 s (k6 x1 x2 x3 x4 s) (jm_rP 78 mr_154)) : ∀ (n : Nat) (x1 : Int32) (x2 : Int32) (x3 : Int32) (x4 : Int32) (x5 : Int32) (s : jm_M), jm_Sim mY_Co_latestWithOneSightGone 0 0 21 [(0, .ref 48), (1, .int x1), (2, .int x2), (3, .int x3), (4, .int x4), (5, .int x5)] [] 78 mr_154 s (s_Co_latestWithOneSightGone_L21 k6 n x1 x2 x3 x4 x5 s) (jm_rP 78 mr_154) := by
  intro n
  induction n with
  | zero => intro x1 x2 x3 x4 x5 s; exact jm_none
  | succ n ih =>
    intro x1 x2 x3 x4 x5 s
    rw [s_Co_latestWithOneSightGone_L21]
    refine jm_iload (pc := 21) (q := 5) (x := x5) d_Co_latestWithOneSightGone_21 rfl ?_
    refine jm_bipush (pc := 23) (v := 10) d_Co_latestWithOneSightGone_23 cb_10 ?_
    refine jm_icmp_ge (pc := 25) (tgt := 91) d_Co_latestWithOneSightGone_25 (by decide) ?_ ?_
    · refine jm_iinc (pc := 91) (q := 4) (x := x4) (v := 1) (L2 := [(4, .int (x4 + 1)), (0, .ref 48), (1, .int x1), (2, .int x2), (3, .int x3), (5, .int x5)]) d_Co_latestWithOneSightGone_91 rfl ci_1 (Nat.le_of_ble_eq_true rfl) rfl ?_
      refine jm_goto (pc := 94) (tgt := 8) d_Co_latestWithOneSightGone_94 (by decide) ?_
      refine jm_sub (L2 := [(0, .ref 48), (1, .int x1), (2, .int x2), (3, .int x3), (4, .int (x4 + 1))]) [1, 2, 3, 4, 0] rfl ?_
      exact hk6 x1 x2 x3 (x4 + 1) s
    · refine jm_aload_n (pc := 28) (q := 0) (x := 48) d_Co_latestWithOneSightGone_28 rfl ?_
      refine jm_gr (pc := 29) (i := 48) d_Co_latestWithOneSightGone_29 fo_Co_27 sh_48 ge_48 le_48_78 rfl (fun _ => rfl) mr_154_48_5 ge_49 ?_
      refine jm_iload (pc := 32) (q := 4) (x := x4) d_Co_latestWithOneSightGone_32 rfl ?_
      refine jm_iald (pc := 34) d_Co_latestWithOneSightGone_34 sh_49 ge_49 le_49_78 (fun v4 => ?_)
      refine jm_iload (pc := 35) (q := 5) (x := x5) d_Co_latestWithOneSightGone_35 rfl ?_
      refine jm_ishr (pc := 37) d_Co_latestWithOneSightGone_37 ?_
      refine jm_iconst (pc := 38) (v := 1) d_Co_latestWithOneSightGone_38 ci_1 ?_
      refine jm_iand (pc := 39) d_Co_latestWithOneSightGone_39 ?_
      refine jm_if_eq (pc := 40) (tgt := 85) d_Co_latestWithOneSightGone_40 (by decide) ?_ ?_
      · refine jm_iinc (pc := 85) (q := 5) (x := x5) (v := 1) (L2 := [(5, .int (x5 + 1)), (0, .ref 48), (1, .int x1), (2, .int x2), (3, .int x3), (4, .int x4)]) d_Co_latestWithOneSightGone_85 rfl ci_1 (Nat.le_of_ble_eq_true rfl) rfl ?_
        refine jm_goto (pc := 88) (tgt := 21) d_Co_latestWithOneSightGone_88 (by decide) ?_
        refine jm_sub (L2 := [(0, .ref 48), (1, .int x1), (2, .int x2), (3, .int x3), (4, .int x4), (5, .int (x5 + 1))]) [1, 2, 3, 4, 5, 0] rfl ?_
        exact ih x1 x2 x3 x4 (x5 + 1) s
      · refine jm_iconst (pc := 43) (v := 1) d_Co_latestWithOneSightGone_43 ci_1 ?_
        refine jm_istore_n (pc := 44) (i := 3) (L2 := [(3, .int 1), (0, .ref 48), (1, .int x1), (2, .int x2), (4, .int x4), (5, .int x5)]) d_Co_latestWithOneSightGone_44 rfl (Nat.le_of_ble_eq_true rfl) rfl ?_
        refine jm_aload_n (pc := 45) (q := 1) (x := 48) d_Co_latestWithOneSightGone_45 rfl ?_
        refine jm_iload (pc := 46) (q := 4) (x := x4) d_Co_latestWithOneSightGone_46 rfl ?_
        refine jm_iload (pc := 48) (q := 5) (x := x5) d_Co_latestWithOneSightGone_48 rfl ?_
        refine jm_Vv (pc := 50) (Y' := mY_Co_turnSight) (i := 48) (avs := [.int x4, .int x5]) (rest := []) (s_Co_turnSight_ok s x4 x5) ok_Co_turnSight l0_Co_latestWithOneSightGone__Co_turnSight ml_Co_90 im_Co_turnSight se_Co_turnSight d_Co_latestWithOneSightGone_50 rfl sh_48 rfl rfl ge_48 le_48_78 rfl (Nat.le_of_ble_eq_true rfl) (Nat.le_of_ble_eq_true rfl) (Nat.le_of_ble_eq_true rfl) (Nat.le_of_ble_eq_true rfl) (fun s5 => ?_)
        refine jm_aload_n (pc := 53) (q := 1) (x := 48) d_Co_latestWithOneSightGone_53 rfl ?_
        refine jm_iload_n (pc := 54) (q := 2) (x := x1) d_Co_latestWithOneSightGone_54 rfl ?_
        refine jm_Vi (pc := 55) (Y' := mY_Co_latest) (i := 48) (avs := [.int x1]) (rest := []) (s_Co_latest_ok s5 x1) ok_Co_latest l0_Co_latestWithOneSightGone__Co_latest ml_Co_94 im_Co_latest se_Co_latest d_Co_latestWithOneSightGone_55 rfl sh_48 rfl rfl ge_48 le_48_78 rfl (Nat.le_of_ble_eq_true rfl) (Nat.le_of_ble_eq_true rfl) (Nat.le_of_ble_eq_true rfl) (Nat.le_of_ble_eq_true rfl) (fun v6 s7 => ?_)
        refine jm_istore (pc := 58) (L2 := [(6, .int v6), (3, .int 1), (0, .ref 48), (1, .int x1), (2, .int x2), (4, .int x4), (5, .int x5)]) d_Co_latestWithOneSightGone_58 (Nat.le_of_ble_eq_true rfl) rfl ?_
        refine jm_aload_n (pc := 60) (q := 2) (x := 48) d_Co_latestWithOneSightGone_60 rfl ?_
        refine jm_iload (pc := 61) (q := 5) (x := x4) d_Co_latestWithOneSightGone_61 rfl ?_
        refine jm_iload (pc := 63) (q := 6) (x := x5) d_Co_latestWithOneSightGone_63 rfl ?_
        refine jm_Vv (pc := 65) (Y' := mY_Co_turnSight) (i := 48) (avs := [.int x4, .int x5]) (rest := []) (s_Co_turnSight_ok s7 x4 x5) ok_Co_turnSight l0_Co_latestWithOneSightGone__Co_turnSight ml_Co_90 im_Co_turnSight se_Co_turnSight d_Co_latestWithOneSightGone_65 rfl sh_48 rfl rfl ge_48 le_48_78 rfl (Nat.le_of_ble_eq_true rfl) (Nat.le_of_ble_eq_true rfl) (Nat.le_of_ble_eq_true rfl) (Nat.le_of_ble_eq_true rfl) (fun s8 => ?_)
        refine jm_iload (pc := 68) (q := 0) (x := v6) d_Co_latestWithOneSightGone_68 rfl ?_
        refine jm_bipush (pc := 70) (v := (-4)) d_Co_latestWithOneSightGone_70 cb_m4 ?_
        refine jm_icmp_ne (pc := 72) (tgt := 78) d_Co_latestWithOneSightGone_72 (by decide) ?_ ?_
        · refine jm_bipush (pc := 75) (v := (-4)) d_Co_latestWithOneSightGone_75 cb_m4 ?_
          exact jm_iret (pc := 77) (x := (-4)) d_Co_latestWithOneSightGone_77 rfl rfl rfl rfl rfl
        · refine jm_iload_n (pc := 78) (q := 4) (x := x2) d_Co_latestWithOneSightGone_78 rfl ?_
          refine jm_iload (pc := 79) (q := 0) (x := v6) d_Co_latestWithOneSightGone_79 rfl ?_
          refine jm_mmax (pc := 81) d_Co_latestWithOneSightGone_81 ml_Co_87 sm_JM_max ini_JM mm_max (Nat.le_of_ble_eq_true rfl) (Nat.le_of_ble_eq_true rfl) (Nat.le_of_ble_eq_true rfl) (Nat.le_of_ble_eq_true rfl) ?_
          refine jm_nvi (fun v9 => ?_)
          refine jm_istore_n (pc := 84) (i := 2) (L2 := [(2, .int v9), (6, .int v6), (3, .int 1), (0, .ref 48), (1, .int x1), (4, .int x4), (5, .int x5)]) d_Co_latestWithOneSightGone_84 rfl (Nat.le_of_ble_eq_true rfl) rfl ?_
          refine jm_iinc (pc := 85) (q := 6) (x := x5) (v := 1) (L2 := [(5, .int (x5 + 1)), (2, .int v9), (6, .int v6), (3, .int 1), (0, .ref 48), (1, .int x1), (4, .int x4)]) d_Co_latestWithOneSightGone_85 rfl ci_1 (Nat.le_of_ble_eq_true rfl) rfl ?_
          refine jm_goto (pc := 88) (tgt := 21) d_Co_latestWithOneSightGone_88 (by decide) ?_
          refine jm_sub (L2 := [(0, .ref 48), (1, .int x1), (2, .int v9), (3, .int 1), (4, .int x4), (5, .int (x5 + 1))]) [4, 5, 1, 3, 6, 0] rfl ?_
          exact ih x1 v9 1 x4 (x5 + 1) s8
def s_Co_latestWithOneSightGone_L8 : Nat → Int32 → Int32 → Int32 → Int32 → jm_M → Option (Int32 × jm_M)
  | 0, _, _, _, _, _ => none
  | n + 1, x1, x2, x3, x4, s => (if 10 ≤ x4 then (if x3 = 0 then jm_b2 (s_Co_latest s x1) (fun v1 s2 => (some (v1, s2))) else (some (x2, s))) else jm_vi (x4 + 1) (fun v3 => s_Co_latestWithOneSightGone_L21 (s_Co_latestWithOneSightGone_L8 n) 5000 x1 x2 x3 x4 v3 s))
set_option maxRecDepth 100000 in
set_option maxHeartbeats 4000000 in
theorem s_Co_latestWithOneSightGone_L8_ok : ∀ (n : Nat) (x1 : Int32) (x2 : Int32) (x3 : Int32) (x4 : Int32) (s : jm_M), jm_Sim mY_Co_latestWithOneSightGone 0 0 8 [(0, .ref 48), (1, .int x1), (2, .int x2), (3, .int x3), (4, .int x4)] [] 78 mr_154 s (s_Co_latestWithOneSightGone_L8 n x1 x2 x3 x4 s) (jm_rP 78 mr_154) := by
  intro n
  induction n with
  | zero => intro x1 x2 x3 x4 s; exact jm_none
  | succ n ih =>
    intro x1 x2 x3 x4 s
    rw [s_Co_latestWithOneSightGone_L8]
    refine jm_iload (pc := 8) (q := 4) (x := x4) d_Co_latestWithOneSightGone_8 rfl ?_
    refine jm_bipush (pc := 10) (v := 10) d_Co_latestWithOneSightGone_10 cb_10 ?_
    refine jm_icmp_ge (pc := 12) (tgt := 97) d_Co_latestWithOneSightGone_12 (by decide) ?_ ?_
    · refine jm_iload_n (pc := 97) (q := 3) (x := x3) d_Co_latestWithOneSightGone_97 rfl ?_
      refine jm_if_eq (pc := 98) (tgt := 105) d_Co_latestWithOneSightGone_98 (by decide) ?_ ?_
      · refine jm_aload_n (pc := 105) (q := 0) (x := 48) d_Co_latestWithOneSightGone_105 rfl ?_
        refine jm_iload_n (pc := 106) (q := 1) (x := x1) d_Co_latestWithOneSightGone_106 rfl ?_
        refine jm_Vi (pc := 107) (Y' := mY_Co_latest) (i := 48) (avs := [.int x1]) (rest := []) (s_Co_latest_ok s x1) ok_Co_latest l0_Co_latestWithOneSightGone__Co_latest ml_Co_94 im_Co_latest se_Co_latest d_Co_latestWithOneSightGone_107 rfl sh_48 rfl rfl ge_48 le_48_78 rfl (Nat.le_of_ble_eq_true rfl) (Nat.le_of_ble_eq_true rfl) (Nat.le_of_ble_eq_true rfl) (Nat.le_of_ble_eq_true rfl) (fun v1 s2 => ?_)
        exact jm_iret (pc := 110) (x := v1) d_Co_latestWithOneSightGone_110 rfl rfl rfl rfl rfl
      · refine jm_iload_n (pc := 101) (q := 2) (x := x2) d_Co_latestWithOneSightGone_101 rfl ?_
        refine jm_goto (pc := 102) (tgt := 110) d_Co_latestWithOneSightGone_102 (by decide) ?_
        exact jm_iret (pc := 110) (x := x2) d_Co_latestWithOneSightGone_110 rfl rfl rfl rfl rfl
    · refine jm_iload (pc := 15) (q := 4) (x := x4) d_Co_latestWithOneSightGone_15 rfl ?_
      refine jm_iconst (pc := 17) (v := 1) d_Co_latestWithOneSightGone_17 ci_1 ?_
      refine jm_iadd (pc := 18) d_Co_latestWithOneSightGone_18 ?_
      refine jm_nvi (fun v3 => ?_)
      refine jm_istore (pc := 19) (L2 := [(5, .int v3), (0, .ref 48), (1, .int x1), (2, .int x2), (3, .int x3), (4, .int x4)]) d_Co_latestWithOneSightGone_19 (Nat.le_of_ble_eq_true rfl) rfl ?_
      refine jm_sub (L2 := [(0, .ref 48), (1, .int x1), (2, .int x2), (3, .int x3), (4, .int x4), (5, .int v3)]) [1, 2, 3, 4, 5, 0] rfl ?_
      exact s_Co_latestWithOneSightGone_L21_ok ih 5000 x1 x2 x3 x4 v3 s
def s_Co_latestWithOneSightGone (s : jm_M) (a0 : Int32) : Option (Int32 × jm_M) := s_Co_latestWithOneSightGone_L8 5000 a0 (-4) 0 0 s
set_option maxRecDepth 100000 in
set_option maxHeartbeats 4000000 in
theorem s_Co_latestWithOneSightGone_ok (s : jm_M) (a0 : Int32) : jm_Sim mY_Co_latestWithOneSightGone 0 0 0 [(0, .ref 48), (1, .int a0)] [] 78 mr_154 s (s_Co_latestWithOneSightGone s a0) (jm_rP 78 mr_154) := by
  unfold s_Co_latestWithOneSightGone
  refine jm_bipush (pc := 0) (v := (-4)) d_Co_latestWithOneSightGone_0 cb_m4 ?_
  refine jm_istore_n (pc := 2) (i := 2) (L2 := [(2, .int (-4)), (0, .ref 48), (1, .int a0)]) d_Co_latestWithOneSightGone_2 rfl (Nat.le_of_ble_eq_true rfl) rfl ?_
  refine jm_iconst (pc := 3) (v := 0) d_Co_latestWithOneSightGone_3 ci_0 ?_
  refine jm_istore_n (pc := 4) (i := 3) (L2 := [(3, .int 0), (2, .int (-4)), (0, .ref 48), (1, .int a0)]) d_Co_latestWithOneSightGone_4 rfl (Nat.le_of_ble_eq_true rfl) rfl ?_
  refine jm_iconst (pc := 5) (v := 0) d_Co_latestWithOneSightGone_5 ci_0 ?_
  refine jm_istore (pc := 6) (L2 := [(4, .int 0), (3, .int 0), (2, .int (-4)), (0, .ref 48), (1, .int a0)]) d_Co_latestWithOneSightGone_6 (Nat.le_of_ble_eq_true rfl) rfl ?_
  refine jm_sub (L2 := [(0, .ref 48), (1, .int a0), (2, .int (-4)), (3, .int 0), (4, .int 0)]) [3, 4, 2, 1, 0] rfl ?_
  exact s_Co_latestWithOneSightGone_L8_ok 5000 a0 (-4) 0 0 s
theorem d_X_late_0 : decode (jm_cd mY_X_late) 0 = .ok (.iload_n 1, 1) := by decide +kernel
theorem d_X_late_1 : decode (jm_cd mY_X_late) 1 = .ok (.invokestatic 158, 3) := by decide +kernel
theorem d_X_late_4 : decode (jm_cd mY_X_late) 4 = .ok (.ifCond .eq 12, 3) := by decide +kernel
theorem d_X_late_7 : decode (jm_cd mY_X_late) 7 = .ok (.iload_n 2, 1) := by decide +kernel
theorem d_X_late_8 : decode (jm_cd mY_X_late) 8 = .ok (.ifCond .lt 8, 3) := by decide +kernel
theorem d_X_late_11 : decode (jm_cd mY_X_late) 11 = .ok (.iload_n 2, 1) := by decide +kernel
theorem d_X_late_12 : decode (jm_cd mY_X_late) 12 = .ok (.iconst 1, 1) := by decide +kernel
theorem d_X_late_13 : decode (jm_cd mY_X_late) 13 = .ok (.if_icmp .le 5, 3) := by decide +kernel
theorem d_X_late_16 : decode (jm_cd mY_X_late) 16 = .ok (.iconst (-1), 1) := by decide +kernel
theorem d_X_late_17 : decode (jm_cd mY_X_late) 17 = .ok (.ireturn, 1) := by decide +kernel
theorem d_X_late_18 : decode (jm_cd mY_X_late) 18 = .ok (.aload_n 0, 1) := by decide +kernel
theorem d_X_late_19 : decode (jm_cd mY_X_late) 19 = .ok (.getfield 31, 3) := by decide +kernel
theorem d_X_late_22 : decode (jm_cd mY_X_late) 22 = .ok (.invokevirtual 141, 3) := by decide +kernel
theorem d_X_late_25 : decode (jm_cd mY_X_late) 25 = .ok (.ifCond .ne 6, 3) := by decide +kernel
theorem d_X_late_28 : decode (jm_cd mY_X_late) 28 = .ok (.bipush (-2), 2) := by decide +kernel
theorem d_X_late_30 : decode (jm_cd mY_X_late) 30 = .ok (.ireturn, 1) := by decide +kernel
theorem d_X_late_31 : decode (jm_cd mY_X_late) 31 = .ok (.aload_n 0, 1) := by decide +kernel
theorem d_X_late_32 : decode (jm_cd mY_X_late) 32 = .ok (.getfield 57, 3) := by decide +kernel
theorem d_X_late_35 : decode (jm_cd mY_X_late) 35 = .ok (.aload_n 0, 1) := by decide +kernel
theorem d_X_late_36 : decode (jm_cd mY_X_late) 36 = .ok (.getfield 31, 3) := by decide +kernel
theorem d_X_late_39 : decode (jm_cd mY_X_late) 39 = .ok (.invokevirtual 152, 3) := by decide +kernel
theorem d_X_late_42 : decode (jm_cd mY_X_late) 42 = .ok (.iload_n 2, 1) := by decide +kernel
theorem d_X_late_43 : decode (jm_cd mY_X_late) 43 = .ok (.ifCond .ne 14, 3) := by decide +kernel
theorem d_X_late_46 : decode (jm_cd mY_X_late) 46 = .ok (.aload_n 0, 1) := by decide +kernel
theorem d_X_late_47 : decode (jm_cd mY_X_late) 47 = .ok (.getfield 57, 3) := by decide +kernel
theorem d_X_late_50 : decode (jm_cd mY_X_late) 50 = .ok (.iload_n 1, 1) := by decide +kernel
theorem d_X_late_51 : decode (jm_cd mY_X_late) 51 = .ok (.invokevirtual 174, 3) := by decide +kernel
theorem d_X_late_54 : decode (jm_cd mY_X_late) 54 = .ok (.goto 11, 3) := by decide +kernel
theorem d_X_late_57 : decode (jm_cd mY_X_late) 57 = .ok (.aload_n 0, 1) := by decide +kernel
theorem d_X_late_58 : decode (jm_cd mY_X_late) 58 = .ok (.getfield 57, 3) := by decide +kernel
theorem d_X_late_61 : decode (jm_cd mY_X_late) 61 = .ok (.iload_n 1, 1) := by decide +kernel
theorem d_X_late_62 : decode (jm_cd mY_X_late) 62 = .ok (.invokevirtual 177, 3) := by decide +kernel
theorem d_X_late_65 : decode (jm_cd mY_X_late) 65 = .ok (.ireturn, 1) := by decide +kernel
def s_X_late (s : jm_M) (a0 : Int32) (a1 : Int32) : Option (Int32 × jm_M) := jm_bd (s_X_isNumberOfLiars s a0) (fun v1 => (if v1 = 0 then (some ((-1), s)) else (if a1 < 0 then (some ((-1), s)) else (if a1 ≤ 1 then jm_bd (s_Ne_hasEar_15 s) (fun v2 => (if v2 = 0 then (some ((-2), s)) else jm_bd (s_Co_study_48_15 s) (fun s3 => (if a1 = 0 then jm_b2 (s_Co_latest s3 a0) (fun v6 s7 => (some (v6, s7))) else jm_b2 (s_Co_latestWithOneSightGone s3 a0) (fun v4 s5 => (some (v4, s5))))))) else (some ((-1), s))))))
set_option maxRecDepth 100000 in
set_option maxHeartbeats 4000000 in
theorem s_X_late_ok (s : jm_M) (a0 : Int32) (a1 : Int32) : jm_Sim mY_X_late 0 0 0 [(0, .ref 1), (1, .int a0), (2, .int a1)] [] 78 mr_154 s (s_X_late s a0 a1) (jm_rP 78 mr_154) := by
  unfold s_X_late
  refine jm_iload_n (pc := 0) (q := 1) (x := a0) d_X_late_0 rfl ?_
  refine jm_Sp (pc := 1) (Y' := mY_X_isNumberOfLiars) (avs := [.int a0]) (rest := []) (s_X_isNumberOfLiars_ok s a0) ok_X_isNumberOfLiars l0_X_late__X_isNumberOfLiars ml_X_158 sm_X_isNumberOfLiars d_X_late_1 rfl rfl (Nat.le_of_ble_eq_true rfl) (Nat.le_of_ble_eq_true rfl) (Nat.le_of_ble_eq_true rfl) (Nat.le_of_ble_eq_true rfl) (fun v1 => ?_)
  refine jm_if_eq (pc := 4) (tgt := 16) d_X_late_4 (by decide) ?_ ?_
  · refine jm_iconst (pc := 16) (v := (-1)) d_X_late_16 ci_m1 ?_
    exact jm_iret (pc := 17) (x := (-1)) d_X_late_17 rfl rfl rfl rfl rfl
  · refine jm_iload_n (pc := 7) (q := 2) (x := a1) d_X_late_7 rfl ?_
    refine jm_if_lt (pc := 8) (tgt := 16) d_X_late_8 (by decide) ?_ ?_
    · refine jm_iconst (pc := 16) (v := (-1)) d_X_late_16 ci_m1 ?_
      exact jm_iret (pc := 17) (x := (-1)) d_X_late_17 rfl rfl rfl rfl rfl
    · refine jm_iload_n (pc := 11) (q := 2) (x := a1) d_X_late_11 rfl ?_
      refine jm_iconst (pc := 12) (v := 1) d_X_late_12 ci_1 ?_
      refine jm_icmp_le (pc := 13) (tgt := 18) d_X_late_13 (by decide) ?_ ?_
      · refine jm_aload_n (pc := 18) (q := 0) (x := 1) d_X_late_18 rfl ?_
        refine jm_gr (pc := 19) (i := 1) d_X_late_19 fo_X_31 sh_1 ge_1 le_1_78 rfl (fun _ => rfl) mr_154_1_4 ge_15 ?_
        refine jm_Vp (pc := 22) (Y' := mY_Ne_hasEar) (i := 15) (avs := []) (rest := []) (s_Ne_hasEar_15_ok s) ok_Ne_hasEar l0_X_late__Ne_hasEar ml_X_141 im_Ne_hasEar se_Ne_hasEar d_X_late_22 rfl sh_15 rfl rfl ge_15 le_15_78 rfl (Nat.le_of_ble_eq_true rfl) (Nat.le_of_ble_eq_true rfl) (Nat.le_of_ble_eq_true rfl) (Nat.le_of_ble_eq_true rfl) (fun v2 => ?_)
        refine jm_if_ne (pc := 25) (tgt := 31) d_X_late_25 (by decide) ?_ ?_
        · refine jm_bipush (pc := 28) (v := (-2)) d_X_late_28 cb_m2 ?_
          exact jm_iret (pc := 30) (x := (-2)) d_X_late_30 rfl rfl rfl rfl rfl
        · refine jm_aload_n (pc := 31) (q := 0) (x := 1) d_X_late_31 rfl ?_
          refine jm_gr (pc := 32) (i := 1) d_X_late_32 fo_X_57 sh_1 ge_1 le_1_78 rfl (fun _ => rfl) mr_154_1_10 ge_48 ?_
          refine jm_aload_n (pc := 35) (q := 0) (x := 1) d_X_late_35 rfl ?_
          refine jm_gr (pc := 36) (i := 1) d_X_late_36 fo_X_31 sh_1 ge_1 le_1_78 rfl (fun _ => rfl) mr_154_1_4 ge_15 ?_
          refine jm_Vv (pc := 39) (Y' := mY_Co_study) (i := 48) (avs := [.ref 15]) (rest := []) (s_Co_study_48_15_ok s) ok_Co_study l0_X_late__Co_study ml_X_152 im_Co_study se_Co_study d_X_late_39 rfl sh_48 rfl rfl ge_48 le_48_78 rfl (Nat.le_of_ble_eq_true rfl) (Nat.le_of_ble_eq_true rfl) (Nat.le_of_ble_eq_true rfl) (Nat.le_of_ble_eq_true rfl) (fun s3 => ?_)
          refine jm_iload_n (pc := 42) (q := 2) (x := a1) d_X_late_42 rfl ?_
          refine jm_if_ne (pc := 43) (tgt := 57) d_X_late_43 (by decide) ?_ ?_
          · refine jm_aload_n (pc := 46) (q := 0) (x := 1) d_X_late_46 rfl ?_
            refine jm_gr (pc := 47) (i := 1) d_X_late_47 fo_X_57 sh_1 ge_1 le_1_78 rfl (fun _ => rfl) mr_154_1_10 ge_48 ?_
            refine jm_iload_n (pc := 50) (q := 1) (x := a0) d_X_late_50 rfl ?_
            refine jm_Vi (pc := 51) (Y' := mY_Co_latest) (i := 48) (avs := [.int a0]) (rest := []) (s_Co_latest_ok s3 a0) ok_Co_latest l0_X_late__Co_latest ml_X_174 im_Co_latest se_Co_latest d_X_late_51 rfl sh_48 rfl rfl ge_48 le_48_78 rfl (Nat.le_of_ble_eq_true rfl) (Nat.le_of_ble_eq_true rfl) (Nat.le_of_ble_eq_true rfl) (Nat.le_of_ble_eq_true rfl) (fun v6 s7 => ?_)
            refine jm_goto (pc := 54) (tgt := 65) d_X_late_54 (by decide) ?_
            exact jm_iret (pc := 65) (x := v6) d_X_late_65 rfl rfl rfl rfl rfl
          · refine jm_aload_n (pc := 57) (q := 0) (x := 1) d_X_late_57 rfl ?_
            refine jm_gr (pc := 58) (i := 1) d_X_late_58 fo_X_57 sh_1 ge_1 le_1_78 rfl (fun _ => rfl) mr_154_1_10 ge_48 ?_
            refine jm_iload_n (pc := 61) (q := 1) (x := a0) d_X_late_61 rfl ?_
            refine jm_Vi (pc := 62) (Y' := mY_Co_latestWithOneSightGone) (i := 48) (avs := [.int a0]) (rest := []) (s_Co_latestWithOneSightGone_ok s3 a0) ok_Co_latestWithOneSightGone l0_X_late__Co_latestWithOneSightGone ml_X_177 im_Co_latestWithOneSightGone se_Co_latestWithOneSightGone d_X_late_62 rfl sh_48 rfl rfl ge_48 le_48_78 rfl (Nat.le_of_ble_eq_true rfl) (Nat.le_of_ble_eq_true rfl) (Nat.le_of_ble_eq_true rfl) (Nat.le_of_ble_eq_true rfl) (fun v4 s5 => ?_)
            exact jm_iret (pc := 65) (x := v4) d_X_late_65 rfl rfl rfl rfl rfl
      · refine jm_iconst (pc := 16) (v := (-1)) d_X_late_16 ci_m1 ?_
        exact jm_iret (pc := 17) (x := (-1)) d_X_late_17 rfl rfl rfl rfl rfl
theorem d_Z_latest_0 : decode (jm_cd mY_Z_latest) 0 = .ok (.iconst (-1), 1) := by decide +kernel
theorem d_Z_latest_1 : decode (jm_cd mY_Z_latest) 1 = .ok (.istore_n 2, 1) := by decide +kernel
theorem d_Z_latest_2 : decode (jm_cd mY_Z_latest) 2 = .ok (.iconst 0, 1) := by decide +kernel
theorem d_Z_latest_3 : decode (jm_cd mY_Z_latest) 3 = .ok (.istore_n 3, 1) := by decide +kernel
theorem d_Z_latest_4 : decode (jm_cd mY_Z_latest) 4 = .ok (.iload_n 3, 1) := by decide +kernel
theorem d_Z_latest_5 : decode (jm_cd mY_Z_latest) 5 = .ok (.aload_n 0, 1) := by decide +kernel
theorem d_Z_latest_6 : decode (jm_cd mY_Z_latest) 6 = .ok (.getfield 13, 3) := by decide +kernel
theorem d_Z_latest_9 : decode (jm_cd mY_Z_latest) 9 = .ok (.iconst 0, 1) := by decide +kernel
theorem d_Z_latest_10 : decode (jm_cd mY_Z_latest) 10 = .ok (.iaload, 1) := by decide +kernel
theorem d_Z_latest_11 : decode (jm_cd mY_Z_latest) 11 = .ok (.if_icmp .ge 109, 3) := by decide +kernel
theorem d_Z_latest_14 : decode (jm_cd mY_Z_latest) 14 = .ok (.aload_n 0, 1) := by decide +kernel
theorem d_Z_latest_15 : decode (jm_cd mY_Z_latest) 15 = .ok (.getfield 16, 3) := by decide +kernel
theorem d_Z_latest_18 : decode (jm_cd mY_Z_latest) 18 = .ok (.iload_n 3, 1) := by decide +kernel
theorem d_Z_latest_19 : decode (jm_cd mY_Z_latest) 19 = .ok (.iaload, 1) := by decide +kernel
theorem d_Z_latest_20 : decode (jm_cd mY_Z_latest) 20 = .ok (.iconst 1, 1) := by decide +kernel
theorem d_Z_latest_21 : decode (jm_cd mY_Z_latest) 21 = .ok (.if_icmp .ne 93, 3) := by decide +kernel
theorem d_Z_latest_24 : decode (jm_cd mY_Z_latest) 24 = .ok (.aload_n 0, 1) := by decide +kernel
theorem d_Z_latest_25 : decode (jm_cd mY_Z_latest) 25 = .ok (.invokevirtual 206, 3) := by decide +kernel
theorem d_Z_latest_28 : decode (jm_cd mY_Z_latest) 28 = .ok (.iconst 1, 1) := by decide +kernel
theorem d_Z_latest_29 : decode (jm_cd mY_Z_latest) 29 = .ok (.iload_n 3, 1) := by decide +kernel
theorem d_Z_latest_30 : decode (jm_cd mY_Z_latest) 30 = .ok (.ishl, 1) := by decide +kernel
theorem d_Z_latest_31 : decode (jm_cd mY_Z_latest) 31 = .ok (.iconst (-1), 1) := by decide +kernel
theorem d_Z_latest_32 : decode (jm_cd mY_Z_latest) 32 = .ok (.ixor, 1) := by decide +kernel
theorem d_Z_latest_33 : decode (jm_cd mY_Z_latest) 33 = .ok (.iand, 1) := by decide +kernel
theorem d_Z_latest_34 : decode (jm_cd mY_Z_latest) 34 = .ok (.istore 4, 2) := by decide +kernel
theorem d_Z_latest_36 : decode (jm_cd mY_Z_latest) 36 = .ok (.iload_n 1, 1) := by decide +kernel
theorem d_Z_latest_37 : decode (jm_cd mY_Z_latest) 37 = .ok (.iload 4, 2) := by decide +kernel
theorem d_Z_latest_39 : decode (jm_cd mY_Z_latest) 39 = .ok (.invokestatic 212, 3) := by decide +kernel
theorem d_Z_latest_42 : decode (jm_cd mY_Z_latest) 42 = .ok (.if_icmp .ge 7, 3) := by decide +kernel
theorem d_Z_latest_45 : decode (jm_cd mY_Z_latest) 45 = .ok (.iload_n 1, 1) := by decide +kernel
theorem d_Z_latest_46 : decode (jm_cd mY_Z_latest) 46 = .ok (.goto 8, 3) := by decide +kernel
theorem d_Z_latest_49 : decode (jm_cd mY_Z_latest) 49 = .ok (.iload 4, 2) := by decide +kernel
theorem d_Z_latest_51 : decode (jm_cd mY_Z_latest) 51 = .ok (.invokestatic 212, 3) := by decide +kernel
theorem d_Z_latest_54 : decode (jm_cd mY_Z_latest) 54 = .ok (.istore 5, 2) := by decide +kernel
theorem d_Z_latest_56 : decode (jm_cd mY_Z_latest) 56 = .ok (.iconst 0, 1) := by decide +kernel
theorem d_Z_latest_57 : decode (jm_cd mY_Z_latest) 57 = .ok (.istore 6, 2) := by decide +kernel
theorem d_Z_latest_59 : decode (jm_cd mY_Z_latest) 59 = .ok (.iload 6, 2) := by decide +kernel
theorem d_Z_latest_61 : decode (jm_cd mY_Z_latest) 61 = .ok (.iload 4, 2) := by decide +kernel
theorem d_Z_latest_63 : decode (jm_cd mY_Z_latest) 63 = .ok (.if_icmp .gt 51, 3) := by decide +kernel
theorem d_Z_latest_66 : decode (jm_cd mY_Z_latest) 66 = .ok (.iload 6, 2) := by decide +kernel
theorem d_Z_latest_68 : decode (jm_cd mY_Z_latest) 68 = .ok (.iload 4, 2) := by decide +kernel
theorem d_Z_latest_70 : decode (jm_cd mY_Z_latest) 70 = .ok (.iconst (-1), 1) := by decide +kernel
theorem d_Z_latest_71 : decode (jm_cd mY_Z_latest) 71 = .ok (.ixor, 1) := by decide +kernel
theorem d_Z_latest_72 : decode (jm_cd mY_Z_latest) 72 = .ok (.iand, 1) := by decide +kernel
theorem d_Z_latest_73 : decode (jm_cd mY_Z_latest) 73 = .ok (.ifCond .ne 35, 3) := by decide +kernel
theorem d_Z_latest_76 : decode (jm_cd mY_Z_latest) 76 = .ok (.iload 6, 2) := by decide +kernel
theorem d_Z_latest_78 : decode (jm_cd mY_Z_latest) 78 = .ok (.invokestatic 212, 3) := by decide +kernel
theorem d_Z_latest_81 : decode (jm_cd mY_Z_latest) 81 = .ok (.iload 5, 2) := by decide +kernel
theorem d_Z_latest_83 : decode (jm_cd mY_Z_latest) 83 = .ok (.if_icmp .ne 25, 3) := by decide +kernel
theorem d_Z_latest_86 : decode (jm_cd mY_Z_latest) 86 = .ok (.aload_n 0, 1) := by decide +kernel
theorem d_Z_latest_87 : decode (jm_cd mY_Z_latest) 87 = .ok (.iload_n 3, 1) := by decide +kernel
theorem d_Z_latest_88 : decode (jm_cd mY_Z_latest) 88 = .ok (.iload 6, 2) := by decide +kernel
theorem d_Z_latest_90 : decode (jm_cd mY_Z_latest) 90 = .ok (.invokevirtual 215, 3) := by decide +kernel
theorem d_Z_latest_93 : decode (jm_cd mY_Z_latest) 93 = .ok (.istore 7, 2) := by decide +kernel
theorem d_Z_latest_95 : decode (jm_cd mY_Z_latest) 95 = .ok (.iload 7, 2) := by decide +kernel
theorem d_Z_latest_97 : decode (jm_cd mY_Z_latest) 97 = .ok (.iload_n 2, 1) := by decide +kernel
theorem d_Z_latest_98 : decode (jm_cd mY_Z_latest) 98 = .ok (.if_icmp .le 8, 3) := by decide +kernel
theorem d_Z_latest_101 : decode (jm_cd mY_Z_latest) 101 = .ok (.iload 7, 2) := by decide +kernel
theorem d_Z_latest_103 : decode (jm_cd mY_Z_latest) 103 = .ok (.goto 4, 3) := by decide +kernel
theorem d_Z_latest_106 : decode (jm_cd mY_Z_latest) 106 = .ok (.iload_n 2, 1) := by decide +kernel
theorem d_Z_latest_107 : decode (jm_cd mY_Z_latest) 107 = .ok (.istore_n 2, 1) := by decide +kernel
theorem d_Z_latest_108 : decode (jm_cd mY_Z_latest) 108 = .ok (.iinc 6 1, 3) := by decide +kernel
theorem d_Z_latest_111 : decode (jm_cd mY_Z_latest) 111 = .ok (.goto (-52), 3) := by decide +kernel
theorem d_Z_latest_114 : decode (jm_cd mY_Z_latest) 114 = .ok (.iinc 3 1, 3) := by decide +kernel
theorem d_Z_latest_117 : decode (jm_cd mY_Z_latest) 117 = .ok (.goto (-113), 3) := by decide +kernel
theorem d_Z_latest_120 : decode (jm_cd mY_Z_latest) 120 = .ok (.iload_n 2, 1) := by decide +kernel
theorem d_Z_latest_121 : decode (jm_cd mY_Z_latest) 121 = .ok (.ifCond .ge 8, 3) := by decide +kernel
theorem d_Z_latest_124 : decode (jm_cd mY_Z_latest) 124 = .ok (.ldc 186, 2) := by decide +kernel
theorem d_Z_latest_126 : decode (jm_cd mY_Z_latest) 126 = .ok (.goto 4, 3) := by decide +kernel
theorem d_Z_latest_129 : decode (jm_cd mY_Z_latest) 129 = .ok (.iload_n 2, 1) := by decide +kernel
theorem d_Z_latest_130 : decode (jm_cd mY_Z_latest) 130 = .ok (.ireturn, 1) := by decide +kernel
def s_Z_latest_L59 (k4 : Int32 → Int32 → Int32 → jm_M → Option (Int32 × jm_M)) : Nat → Int32 → Int32 → Int32 → Int32 → Int32 → Int32 → jm_M → Option (Int32 × jm_M)
  | 0, _, _, _, _, _, _, _ => none
  | n + 1, x1, x2, x3, x4, x5, x6, s => (if x4 < x6 then k4 x1 x2 (x3 + 1) s else (if (x6 &&& (x4 ^^^ (-1))) = 0 then jm_bd (s_Z_bits s x6) (fun v7 => (if v7 = x5 then jm_b2 (s_Z_alarmBy s x3 x6) (fun v8 s9 => (if v8 ≤ x2 then s_Z_latest_L59 k4 n x1 x2 x3 x4 x5 (x6 + 1) s9 else s_Z_latest_L59 k4 n x1 v8 x3 x4 x5 (x6 + 1) s9)) else s_Z_latest_L59 k4 n x1 x2 x3 x4 x5 (x6 + 1) s)) else s_Z_latest_L59 k4 n x1 x2 x3 x4 x5 (x6 + 1) s))
set_option maxRecDepth 100000 in
set_option maxHeartbeats 4000000 in
theorem s_Z_latest_L59_ok {k4 : Int32 → Int32 → Int32 → jm_M → Option (Int32 × jm_M)} (hk4 : ∀ (x1 : Int32) (x2 : Int32) (x3 : Int32) (s : jm_M), jm_Sim mY_Z_latest 0 0 4 [(0, .ref 59), (1, .int x1), (2, .int x2), (3, .int x3)] [] 78 mr_154 s (k4 x1 x2 x3 s) (jm_rP 78 mr_154)) : ∀ (n : Nat) (x1 : Int32) (x2 : Int32) (x3 : Int32) (x4 : Int32) (x5 : Int32) (x6 : Int32) (s : jm_M), jm_Sim mY_Z_latest 0 0 59 [(0, .ref 59), (1, .int x1), (2, .int x2), (3, .int x3), (4, .int x4), (5, .int x5), (6, .int x6)] [] 78 mr_154 s (s_Z_latest_L59 k4 n x1 x2 x3 x4 x5 x6 s) (jm_rP 78 mr_154) := by
  intro n
  induction n with
  | zero => intro x1 x2 x3 x4 x5 x6 s; exact jm_none
  | succ n ih =>
    intro x1 x2 x3 x4 x5 x6 s
    rw [s_Z_latest_L59]
    refine jm_iload (pc := 59) (q := 6) (x := x6) d_Z_latest_59 rfl ?_
    refine jm_iload (pc := 61) (q := 4) (x := x4) d_Z_latest_61 rfl ?_
    refine jm_icmp_gt (pc := 63) (tgt := 114) d_Z_latest_63 (by decide) ?_ ?_
    · refine jm_iinc (pc := 114) (q := 3) (x := x3) (v := 1) (L2 := [(3, .int (x3 + 1)), (0, .ref 59), (1, .int x1), (2, .int x2), (4, .int x4), (5, .int x5), (6, .int x6)]) d_Z_latest_114 rfl ci_1 (Nat.le_of_ble_eq_true rfl) rfl ?_
      refine jm_goto (pc := 117) (tgt := 4) d_Z_latest_117 (by decide) ?_
      refine jm_sub (L2 := [(0, .ref 59), (1, .int x1), (2, .int x2), (3, .int (x3 + 1))]) [1, 2, 3, 0] rfl ?_
      exact hk4 x1 x2 (x3 + 1) s
    · refine jm_iload (pc := 66) (q := 6) (x := x6) d_Z_latest_66 rfl ?_
      refine jm_iload (pc := 68) (q := 4) (x := x4) d_Z_latest_68 rfl ?_
      refine jm_iconst (pc := 70) (v := (-1)) d_Z_latest_70 ci_m1 ?_
      refine jm_ixor (pc := 71) d_Z_latest_71 ?_
      refine jm_iand (pc := 72) d_Z_latest_72 ?_
      refine jm_if_ne (pc := 73) (tgt := 108) d_Z_latest_73 (by decide) ?_ ?_
      · refine jm_iload (pc := 76) (q := 6) (x := x6) d_Z_latest_76 rfl ?_
        refine jm_Sp (pc := 78) (Y' := mY_Z_bits) (avs := [.int x6]) (rest := []) (s_Z_bits_ok s x6) ok_Z_bits l0_Z_latest__Z_bits ml_Z_212 sm_Z_bits d_Z_latest_78 rfl rfl (Nat.le_of_ble_eq_true rfl) (Nat.le_of_ble_eq_true rfl) (Nat.le_of_ble_eq_true rfl) (Nat.le_of_ble_eq_true rfl) (fun v7 => ?_)
        refine jm_iload (pc := 81) (q := 5) (x := x5) d_Z_latest_81 rfl ?_
        refine jm_icmp_ne (pc := 83) (tgt := 108) d_Z_latest_83 (by decide) ?_ ?_
        · refine jm_aload_n (pc := 86) (q := 0) (x := 59) d_Z_latest_86 rfl ?_
          refine jm_iload_n (pc := 87) (q := 3) (x := x3) d_Z_latest_87 rfl ?_
          refine jm_iload (pc := 88) (q := 6) (x := x6) d_Z_latest_88 rfl ?_
          refine jm_Vi (pc := 90) (Y' := mY_Z_alarmBy) (i := 59) (avs := [.int x3, .int x6]) (rest := []) (s_Z_alarmBy_ok s x3 x6) ok_Z_alarmBy l0_Z_latest__Z_alarmBy ml_Z_215 im_Z_alarmBy se_Z_alarmBy d_Z_latest_90 rfl sh_59 rfl rfl ge_59 le_59_78 rfl (Nat.le_of_ble_eq_true rfl) (Nat.le_of_ble_eq_true rfl) (Nat.le_of_ble_eq_true rfl) (Nat.le_of_ble_eq_true rfl) (fun v8 s9 => ?_)
          refine jm_istore (pc := 93) (L2 := [(7, .int v8), (0, .ref 59), (1, .int x1), (2, .int x2), (3, .int x3), (4, .int x4), (5, .int x5), (6, .int x6)]) d_Z_latest_93 (Nat.le_of_ble_eq_true rfl) rfl ?_
          refine jm_iload (pc := 95) (q := 0) (x := v8) d_Z_latest_95 rfl ?_
          refine jm_iload_n (pc := 97) (q := 3) (x := x2) d_Z_latest_97 rfl ?_
          refine jm_icmp_le (pc := 98) (tgt := 106) d_Z_latest_98 (by decide) ?_ ?_
          · refine jm_iload_n (pc := 106) (q := 3) (x := x2) d_Z_latest_106 rfl ?_
            refine jm_istore_n (pc := 107) (i := 2) (L2 := [(2, .int x2), (7, .int v8), (0, .ref 59), (1, .int x1), (3, .int x3), (4, .int x4), (5, .int x5), (6, .int x6)]) d_Z_latest_107 rfl (Nat.le_of_ble_eq_true rfl) rfl ?_
            refine jm_iinc (pc := 108) (q := 7) (x := x6) (v := 1) (L2 := [(6, .int (x6 + 1)), (2, .int x2), (7, .int v8), (0, .ref 59), (1, .int x1), (3, .int x3), (4, .int x4), (5, .int x5)]) d_Z_latest_108 rfl ci_1 (Nat.le_of_ble_eq_true rfl) rfl ?_
            refine jm_goto (pc := 111) (tgt := 59) d_Z_latest_111 (by decide) ?_
            refine jm_sub (L2 := [(0, .ref 59), (1, .int x1), (2, .int x2), (3, .int x3), (4, .int x4), (5, .int x5), (6, .int (x6 + 1))]) [3, 4, 1, 5, 6, 7, 0] rfl ?_
            exact ih x1 x2 x3 x4 x5 (x6 + 1) s9
          · refine jm_iload (pc := 101) (q := 0) (x := v8) d_Z_latest_101 rfl ?_
            refine jm_goto (pc := 103) (tgt := 107) d_Z_latest_103 (by decide) ?_
            refine jm_istore_n (pc := 107) (i := 2) (L2 := [(2, .int v8), (7, .int v8), (0, .ref 59), (1, .int x1), (3, .int x3), (4, .int x4), (5, .int x5), (6, .int x6)]) d_Z_latest_107 rfl (Nat.le_of_ble_eq_true rfl) rfl ?_
            refine jm_iinc (pc := 108) (q := 7) (x := x6) (v := 1) (L2 := [(6, .int (x6 + 1)), (2, .int v8), (7, .int v8), (0, .ref 59), (1, .int x1), (3, .int x3), (4, .int x4), (5, .int x5)]) d_Z_latest_108 rfl ci_1 (Nat.le_of_ble_eq_true rfl) rfl ?_
            refine jm_goto (pc := 111) (tgt := 59) d_Z_latest_111 (by decide) ?_
            refine jm_sub (L2 := [(0, .ref 59), (1, .int x1), (2, .int v8), (3, .int x3), (4, .int x4), (5, .int x5), (6, .int (x6 + 1))]) [3, 4, 1, 5, 6, 7, 0] rfl ?_
            exact ih x1 v8 x3 x4 x5 (x6 + 1) s9
        · refine jm_iinc (pc := 108) (q := 6) (x := x6) (v := 1) (L2 := [(6, .int (x6 + 1)), (0, .ref 59), (1, .int x1), (2, .int x2), (3, .int x3), (4, .int x4), (5, .int x5)]) d_Z_latest_108 rfl ci_1 (Nat.le_of_ble_eq_true rfl) rfl ?_
          refine jm_goto (pc := 111) (tgt := 59) d_Z_latest_111 (by decide) ?_
          refine jm_sub (L2 := [(0, .ref 59), (1, .int x1), (2, .int x2), (3, .int x3), (4, .int x4), (5, .int x5), (6, .int (x6 + 1))]) [1, 2, 3, 4, 5, 6, 0] rfl ?_
          exact ih x1 x2 x3 x4 x5 (x6 + 1) s
      · refine jm_iinc (pc := 108) (q := 6) (x := x6) (v := 1) (L2 := [(6, .int (x6 + 1)), (0, .ref 59), (1, .int x1), (2, .int x2), (3, .int x3), (4, .int x4), (5, .int x5)]) d_Z_latest_108 rfl ci_1 (Nat.le_of_ble_eq_true rfl) rfl ?_
        refine jm_goto (pc := 111) (tgt := 59) d_Z_latest_111 (by decide) ?_
        refine jm_sub (L2 := [(0, .ref 59), (1, .int x1), (2, .int x2), (3, .int x3), (4, .int x4), (5, .int x5), (6, .int (x6 + 1))]) [1, 2, 3, 4, 5, 6, 0] rfl ?_
        exact ih x1 x2 x3 x4 x5 (x6 + 1) s
def s_Z_latest_L4 : Nat → Int32 → Int32 → Int32 → jm_M → Option (Int32 × jm_M)
  | 0, _, _, _, _ => none
  | n + 1, x1, x2, x3, s => jm_ldi s 61 4 0 (fun v1 => (if v1 ≤ x3 then (if 0 ≤ x2 then (some (x2, s)) else (some (1000000, s))) else jm_ldi s 62 40 x3 (fun v2 => (if v2 = 1 then jm_bd (s_Z_men s) (fun v3 => jm_vi (v3 &&& ((1 <<< (x3 &&& 31)) ^^^ (-1))) (fun v4 => jm_bd (s_Z_bits s v4) (fun v5 => (if v5 ≤ x1 then jm_bd (s_Z_bits s v4) (fun v6 => s_Z_latest_L59 (s_Z_latest_L4 n) 5000 x1 x2 x3 v4 v6 0 s) else s_Z_latest_L59 (s_Z_latest_L4 n) 5000 x1 x2 x3 v4 x1 0 s)))) else s_Z_latest_L4 n x1 x2 (x3 + 1) s))))
set_option maxRecDepth 100000 in
set_option maxHeartbeats 4000000 in
theorem s_Z_latest_L4_ok : ∀ (n : Nat) (x1 : Int32) (x2 : Int32) (x3 : Int32) (s : jm_M), jm_Sim mY_Z_latest 0 0 4 [(0, .ref 59), (1, .int x1), (2, .int x2), (3, .int x3)] [] 78 mr_154 s (s_Z_latest_L4 n x1 x2 x3 s) (jm_rP 78 mr_154) := by
  intro n
  induction n with
  | zero => intro x1 x2 x3 s; exact jm_none
  | succ n ih =>
    intro x1 x2 x3 s
    rw [s_Z_latest_L4]
    refine jm_iload_n (pc := 4) (q := 3) (x := x3) d_Z_latest_4 rfl ?_
    refine jm_aload_n (pc := 5) (q := 0) (x := 59) d_Z_latest_5 rfl ?_
    refine jm_gr (pc := 6) (i := 59) d_Z_latest_6 fo_Z_13 sh_59 ge_59 le_59_78 rfl (fun _ => rfl) mr_154_59_2 ge_61 ?_
    refine jm_iconst (pc := 9) (v := 0) d_Z_latest_9 ci_0 ?_
    refine jm_iald (pc := 10) d_Z_latest_10 sh_61 ge_61 le_61_78 (fun v1 => ?_)
    refine jm_icmp_ge (pc := 11) (tgt := 120) d_Z_latest_11 (by decide) ?_ ?_
    · refine jm_iload_n (pc := 120) (q := 2) (x := x2) d_Z_latest_120 rfl ?_
      refine jm_if_ge (pc := 121) (tgt := 129) d_Z_latest_121 (by decide) ?_ ?_
      · refine jm_iload_n (pc := 129) (q := 2) (x := x2) d_Z_latest_129 rfl ?_
        exact jm_iret (pc := 130) (x := x2) d_Z_latest_130 rfl rfl rfl rfl rfl
      · refine jm_ldc (pc := 124) (v := 1000000) d_Z_latest_124 k_Z_186 ?_
        refine jm_goto (pc := 126) (tgt := 130) d_Z_latest_126 (by decide) ?_
        exact jm_iret (pc := 130) (x := 1000000) d_Z_latest_130 rfl rfl rfl rfl rfl
    · refine jm_aload_n (pc := 14) (q := 0) (x := 59) d_Z_latest_14 rfl ?_
      refine jm_gr (pc := 15) (i := 59) d_Z_latest_15 fo_Z_16 sh_59 ge_59 le_59_78 rfl (fun _ => rfl) mr_154_59_3 ge_62 ?_
      refine jm_iload_n (pc := 18) (q := 3) (x := x3) d_Z_latest_18 rfl ?_
      refine jm_iald (pc := 19) d_Z_latest_19 sh_62 ge_62 le_62_78 (fun v2 => ?_)
      refine jm_iconst (pc := 20) (v := 1) d_Z_latest_20 ci_1 ?_
      refine jm_icmp_ne (pc := 21) (tgt := 114) d_Z_latest_21 (by decide) ?_ ?_
      · refine jm_aload_n (pc := 24) (q := 0) (x := 59) d_Z_latest_24 rfl ?_
        refine jm_Vp (pc := 25) (Y' := mY_Z_men) (i := 59) (avs := []) (rest := []) (s_Z_men_ok s) ok_Z_men l0_Z_latest__Z_men ml_Z_206 im_Z_men se_Z_men d_Z_latest_25 rfl sh_59 rfl rfl ge_59 le_59_78 rfl (Nat.le_of_ble_eq_true rfl) (Nat.le_of_ble_eq_true rfl) (Nat.le_of_ble_eq_true rfl) (Nat.le_of_ble_eq_true rfl) (fun v3 => ?_)
        refine jm_iconst (pc := 28) (v := 1) d_Z_latest_28 ci_1 ?_
        refine jm_iload_n (pc := 29) (q := 3) (x := x3) d_Z_latest_29 rfl ?_
        refine jm_ishl (pc := 30) d_Z_latest_30 ?_
        refine jm_iconst (pc := 31) (v := (-1)) d_Z_latest_31 ci_m1 ?_
        refine jm_ixor (pc := 32) d_Z_latest_32 ?_
        refine jm_iand (pc := 33) d_Z_latest_33 ?_
        refine jm_nvi (fun v4 => ?_)
        refine jm_istore (pc := 34) (L2 := [(4, .int v4), (0, .ref 59), (1, .int x1), (2, .int x2), (3, .int x3)]) d_Z_latest_34 (Nat.le_of_ble_eq_true rfl) rfl ?_
        refine jm_iload_n (pc := 36) (q := 2) (x := x1) d_Z_latest_36 rfl ?_
        refine jm_iload (pc := 37) (q := 0) (x := v4) d_Z_latest_37 rfl ?_
        refine jm_Sp (pc := 39) (Y' := mY_Z_bits) (avs := [.int v4]) (rest := [.int x1]) (s_Z_bits_ok s v4) ok_Z_bits l0_Z_latest__Z_bits ml_Z_212 sm_Z_bits d_Z_latest_39 rfl rfl (Nat.le_of_ble_eq_true rfl) (Nat.le_of_ble_eq_true rfl) (Nat.le_of_ble_eq_true rfl) (Nat.le_of_ble_eq_true rfl) (fun v5 => ?_)
        refine jm_icmp_ge (pc := 42) (tgt := 49) d_Z_latest_42 (by decide) ?_ ?_
        · refine jm_iload (pc := 49) (q := 0) (x := v4) d_Z_latest_49 rfl ?_
          refine jm_Sp (pc := 51) (Y' := mY_Z_bits) (avs := [.int v4]) (rest := []) (s_Z_bits_ok s v4) ok_Z_bits l0_Z_latest__Z_bits ml_Z_212 sm_Z_bits d_Z_latest_51 rfl rfl (Nat.le_of_ble_eq_true rfl) (Nat.le_of_ble_eq_true rfl) (Nat.le_of_ble_eq_true rfl) (Nat.le_of_ble_eq_true rfl) (fun v6 => ?_)
          refine jm_istore (pc := 54) (L2 := [(5, .int v6), (4, .int v4), (0, .ref 59), (1, .int x1), (2, .int x2), (3, .int x3)]) d_Z_latest_54 (Nat.le_of_ble_eq_true rfl) rfl ?_
          refine jm_iconst (pc := 56) (v := 0) d_Z_latest_56 ci_0 ?_
          refine jm_istore (pc := 57) (L2 := [(6, .int 0), (5, .int v6), (4, .int v4), (0, .ref 59), (1, .int x1), (2, .int x2), (3, .int x3)]) d_Z_latest_57 (Nat.le_of_ble_eq_true rfl) rfl ?_
          refine jm_sub (L2 := [(0, .ref 59), (1, .int x1), (2, .int x2), (3, .int x3), (4, .int v4), (5, .int v6), (6, .int 0)]) [3, 4, 5, 6, 2, 1, 0] rfl ?_
          exact s_Z_latest_L59_ok ih 5000 x1 x2 x3 v4 v6 0 s
        · refine jm_iload_n (pc := 45) (q := 2) (x := x1) d_Z_latest_45 rfl ?_
          refine jm_goto (pc := 46) (tgt := 54) d_Z_latest_46 (by decide) ?_
          refine jm_istore (pc := 54) (L2 := [(5, .int x1), (4, .int v4), (0, .ref 59), (1, .int x1), (2, .int x2), (3, .int x3)]) d_Z_latest_54 (Nat.le_of_ble_eq_true rfl) rfl ?_
          refine jm_iconst (pc := 56) (v := 0) d_Z_latest_56 ci_0 ?_
          refine jm_istore (pc := 57) (L2 := [(6, .int 0), (5, .int x1), (4, .int v4), (0, .ref 59), (1, .int x1), (2, .int x2), (3, .int x3)]) d_Z_latest_57 (Nat.le_of_ble_eq_true rfl) rfl ?_
          refine jm_sub (L2 := [(0, .ref 59), (1, .int x1), (2, .int x2), (3, .int x3), (4, .int v4), (5, .int x1), (6, .int 0)]) [3, 4, 5, 6, 2, 1, 0] rfl ?_
          exact s_Z_latest_L59_ok ih 5000 x1 x2 x3 v4 x1 0 s
      · refine jm_iinc (pc := 114) (q := 3) (x := x3) (v := 1) (L2 := [(3, .int (x3 + 1)), (0, .ref 59), (1, .int x1), (2, .int x2)]) d_Z_latest_114 rfl ci_1 (Nat.le_of_ble_eq_true rfl) rfl ?_
        refine jm_goto (pc := 117) (tgt := 4) d_Z_latest_117 (by decide) ?_
        refine jm_sub (L2 := [(0, .ref 59), (1, .int x1), (2, .int x2), (3, .int (x3 + 1))]) [1, 2, 3, 0] rfl ?_
        exact ih x1 x2 (x3 + 1) s
def s_Z_latest (s : jm_M) (a0 : Int32) : Option (Int32 × jm_M) := s_Z_latest_L4 5000 a0 (-1) 0 s
set_option maxRecDepth 100000 in
set_option maxHeartbeats 4000000 in
theorem s_Z_latest_ok (s : jm_M) (a0 : Int32) : jm_Sim mY_Z_latest 0 0 0 [(0, .ref 59), (1, .int a0)] [] 78 mr_154 s (s_Z_latest s a0) (jm_rP 78 mr_154) := by
  unfold s_Z_latest
  refine jm_iconst (pc := 0) (v := (-1)) d_Z_latest_0 ci_m1 ?_
  refine jm_istore_n (pc := 1) (i := 2) (L2 := [(2, .int (-1)), (0, .ref 59), (1, .int a0)]) d_Z_latest_1 rfl (Nat.le_of_ble_eq_true rfl) rfl ?_
  refine jm_iconst (pc := 2) (v := 0) d_Z_latest_2 ci_0 ?_
  refine jm_istore_n (pc := 3) (i := 3) (L2 := [(3, .int 0), (2, .int (-1)), (0, .ref 59), (1, .int a0)]) d_Z_latest_3 rfl (Nat.le_of_ble_eq_true rfl) rfl ?_
  refine jm_sub (L2 := [(0, .ref 59), (1, .int a0), (2, .int (-1)), (3, .int 0)]) [2, 3, 1, 0] rfl ?_
  exact s_Z_latest_L4_ok 5000 a0 (-1) 0 s
theorem d_Z_lateOf_0 : decode (jm_cd mY_Z_lateOf) 0 = .ok (.iconst (-1), 1) := by decide +kernel
theorem d_Z_lateOf_1 : decode (jm_cd mY_Z_lateOf) 1 = .ok (.istore_n 3, 1) := by decide +kernel
theorem d_Z_lateOf_2 : decode (jm_cd mY_Z_lateOf) 2 = .ok (.iconst 0, 1) := by decide +kernel
theorem d_Z_lateOf_3 : decode (jm_cd mY_Z_lateOf) 3 = .ok (.istore 4, 2) := by decide +kernel
theorem d_Z_lateOf_5 : decode (jm_cd mY_Z_lateOf) 5 = .ok (.iload 4, 2) := by decide +kernel
theorem d_Z_lateOf_7 : decode (jm_cd mY_Z_lateOf) 7 = .ok (.aload_n 0, 1) := by decide +kernel
theorem d_Z_lateOf_8 : decode (jm_cd mY_Z_lateOf) 8 = .ok (.getfield 13, 3) := by decide +kernel
theorem d_Z_lateOf_11 : decode (jm_cd mY_Z_lateOf) 11 = .ok (.iconst 0, 1) := by decide +kernel
theorem d_Z_lateOf_12 : decode (jm_cd mY_Z_lateOf) 12 = .ok (.iaload, 1) := by decide +kernel
theorem d_Z_lateOf_13 : decode (jm_cd mY_Z_lateOf) 13 = .ok (.if_icmp .ge 77, 3) := by decide +kernel
theorem d_Z_lateOf_16 : decode (jm_cd mY_Z_lateOf) 16 = .ok (.iload_n 2, 1) := by decide +kernel
theorem d_Z_lateOf_17 : decode (jm_cd mY_Z_lateOf) 17 = .ok (.iconst 1, 1) := by decide +kernel
theorem d_Z_lateOf_18 : decode (jm_cd mY_Z_lateOf) 18 = .ok (.if_icmp .ne 72, 3) := by decide +kernel
theorem d_Z_lateOf_21 : decode (jm_cd mY_Z_lateOf) 21 = .ok (.iconst 0, 1) := by decide +kernel
theorem d_Z_lateOf_22 : decode (jm_cd mY_Z_lateOf) 22 = .ok (.istore 5, 2) := by decide +kernel
theorem d_Z_lateOf_24 : decode (jm_cd mY_Z_lateOf) 24 = .ok (.iload 5, 2) := by decide +kernel
theorem d_Z_lateOf_26 : decode (jm_cd mY_Z_lateOf) 26 = .ok (.iload 4, 2) := by decide +kernel
theorem d_Z_lateOf_28 : decode (jm_cd mY_Z_lateOf) 28 = .ok (.if_icmp .ge 56, 3) := by decide +kernel
theorem d_Z_lateOf_31 : decode (jm_cd mY_Z_lateOf) 31 = .ok (.aload_n 0, 1) := by decide +kernel
theorem d_Z_lateOf_32 : decode (jm_cd mY_Z_lateOf) 32 = .ok (.getfield 19, 3) := by decide +kernel
theorem d_Z_lateOf_35 : decode (jm_cd mY_Z_lateOf) 35 = .ok (.iload 4, 2) := by decide +kernel
theorem d_Z_lateOf_37 : decode (jm_cd mY_Z_lateOf) 37 = .ok (.iaload, 1) := by decide +kernel
theorem d_Z_lateOf_38 : decode (jm_cd mY_Z_lateOf) 38 = .ok (.iload 5, 2) := by decide +kernel
theorem d_Z_lateOf_40 : decode (jm_cd mY_Z_lateOf) 40 = .ok (.invokestatic 99, 3) := by decide +kernel
theorem d_Z_lateOf_43 : decode (jm_cd mY_Z_lateOf) 43 = .ok (.ifCond .eq 35, 3) := by decide +kernel
theorem d_Z_lateOf_46 : decode (jm_cd mY_Z_lateOf) 46 = .ok (.aload_n 0, 1) := by decide +kernel
theorem d_Z_lateOf_47 : decode (jm_cd mY_Z_lateOf) 47 = .ok (.iload 4, 2) := by decide +kernel
theorem d_Z_lateOf_49 : decode (jm_cd mY_Z_lateOf) 49 = .ok (.putfield 180, 3) := by decide +kernel
theorem d_Z_lateOf_52 : decode (jm_cd mY_Z_lateOf) 52 = .ok (.aload_n 0, 1) := by decide +kernel
theorem d_Z_lateOf_53 : decode (jm_cd mY_Z_lateOf) 53 = .ok (.iload 5, 2) := by decide +kernel
theorem d_Z_lateOf_55 : decode (jm_cd mY_Z_lateOf) 55 = .ok (.putfield 183, 3) := by decide +kernel
theorem d_Z_lateOf_58 : decode (jm_cd mY_Z_lateOf) 58 = .ok (.aload_n 0, 1) := by decide +kernel
theorem d_Z_lateOf_59 : decode (jm_cd mY_Z_lateOf) 59 = .ok (.iload_n 1, 1) := by decide +kernel
theorem d_Z_lateOf_60 : decode (jm_cd mY_Z_lateOf) 60 = .ok (.invokevirtual 219, 3) := by decide +kernel
theorem d_Z_lateOf_63 : decode (jm_cd mY_Z_lateOf) 63 = .ok (.istore 6, 2) := by decide +kernel
theorem d_Z_lateOf_65 : decode (jm_cd mY_Z_lateOf) 65 = .ok (.iload 6, 2) := by decide +kernel
theorem d_Z_lateOf_67 : decode (jm_cd mY_Z_lateOf) 67 = .ok (.iload_n 3, 1) := by decide +kernel
theorem d_Z_lateOf_68 : decode (jm_cd mY_Z_lateOf) 68 = .ok (.if_icmp .le 8, 3) := by decide +kernel
theorem d_Z_lateOf_71 : decode (jm_cd mY_Z_lateOf) 71 = .ok (.iload 6, 2) := by decide +kernel
theorem d_Z_lateOf_73 : decode (jm_cd mY_Z_lateOf) 73 = .ok (.goto 4, 3) := by decide +kernel
theorem d_Z_lateOf_76 : decode (jm_cd mY_Z_lateOf) 76 = .ok (.iload_n 3, 1) := by decide +kernel
theorem d_Z_lateOf_77 : decode (jm_cd mY_Z_lateOf) 77 = .ok (.istore_n 3, 1) := by decide +kernel
theorem d_Z_lateOf_78 : decode (jm_cd mY_Z_lateOf) 78 = .ok (.iinc 5 1, 3) := by decide +kernel
theorem d_Z_lateOf_81 : decode (jm_cd mY_Z_lateOf) 81 = .ok (.goto (-57), 3) := by decide +kernel
theorem d_Z_lateOf_84 : decode (jm_cd mY_Z_lateOf) 84 = .ok (.iinc 4 1, 3) := by decide +kernel
theorem d_Z_lateOf_87 : decode (jm_cd mY_Z_lateOf) 87 = .ok (.goto (-82), 3) := by decide +kernel
theorem d_Z_lateOf_90 : decode (jm_cd mY_Z_lateOf) 90 = .ok (.aload_n 0, 1) := by decide +kernel
theorem d_Z_lateOf_91 : decode (jm_cd mY_Z_lateOf) 91 = .ok (.bipush (-4), 2) := by decide +kernel
theorem d_Z_lateOf_93 : decode (jm_cd mY_Z_lateOf) 93 = .ok (.putfield 180, 3) := by decide +kernel
theorem d_Z_lateOf_96 : decode (jm_cd mY_Z_lateOf) 96 = .ok (.aload_n 0, 1) := by decide +kernel
theorem d_Z_lateOf_97 : decode (jm_cd mY_Z_lateOf) 97 = .ok (.bipush (-4), 2) := by decide +kernel
theorem d_Z_lateOf_99 : decode (jm_cd mY_Z_lateOf) 99 = .ok (.putfield 183, 3) := by decide +kernel
theorem d_Z_lateOf_102 : decode (jm_cd mY_Z_lateOf) 102 = .ok (.iload_n 3, 1) := by decide +kernel
theorem d_Z_lateOf_103 : decode (jm_cd mY_Z_lateOf) 103 = .ok (.ifCond .ge 11, 3) := by decide +kernel
theorem d_Z_lateOf_106 : decode (jm_cd mY_Z_lateOf) 106 = .ok (.aload_n 0, 1) := by decide +kernel
theorem d_Z_lateOf_107 : decode (jm_cd mY_Z_lateOf) 107 = .ok (.iload_n 1, 1) := by decide +kernel
theorem d_Z_lateOf_108 : decode (jm_cd mY_Z_lateOf) 108 = .ok (.invokevirtual 219, 3) := by decide +kernel
theorem d_Z_lateOf_111 : decode (jm_cd mY_Z_lateOf) 111 = .ok (.goto 4, 3) := by decide +kernel
theorem d_Z_lateOf_114 : decode (jm_cd mY_Z_lateOf) 114 = .ok (.iload_n 3, 1) := by decide +kernel
theorem d_Z_lateOf_115 : decode (jm_cd mY_Z_lateOf) 115 = .ok (.ireturn, 1) := by decide +kernel
def s_Z_lateOf_J90 (x1 : Int32) (x3 : Int32) (s : jm_M) : Option (Int32 × jm_M) := jm_ev (jm_si s 59 25 (-4)) (fun s2 => jm_ev (jm_si s2 59 26 (-4)) (fun s3 => (if 0 ≤ x3 then (some (x3, s3)) else jm_b2 (s_Z_latest s3 x1) (fun v4 s5 => (some (v4, s5))))))
set_option maxRecDepth 100000 in
set_option maxHeartbeats 4000000 in
theorem s_Z_lateOf_J90_ok (x1 : Int32) (x3 : Int32) (s : jm_M) : jm_Sim mY_Z_lateOf 0 0 90 [(0, .ref 59), (1, .int x1), (3, .int x3)] [] 78 mr_154 s (s_Z_lateOf_J90 x1 x3 s) (jm_rP 78 mr_154) := by
  unfold s_Z_lateOf_J90
  refine jm_aload_n (pc := 90) (q := 0) (x := 59) d_Z_lateOf_90 rfl ?_
  refine jm_bipush (pc := 91) (v := (-4)) d_Z_lateOf_91 cb_m4 ?_
  refine jm_pi (pc := 93) (i := 59) d_Z_lateOf_93 fp_Z_180 sh_59 ge_59 le_59_78 rfl rfl rfl (fun _ _ _ => rfl) (fun s2 => ?_)
  refine jm_aload_n (pc := 96) (q := 0) (x := 59) d_Z_lateOf_96 rfl ?_
  refine jm_bipush (pc := 97) (v := (-4)) d_Z_lateOf_97 cb_m4 ?_
  refine jm_pi (pc := 99) (i := 59) d_Z_lateOf_99 fp_Z_183 sh_59 ge_59 le_59_78 rfl rfl rfl (fun _ _ _ => rfl) (fun s3 => ?_)
  refine jm_iload_n (pc := 102) (q := 2) (x := x3) d_Z_lateOf_102 rfl ?_
  refine jm_if_ge (pc := 103) (tgt := 114) d_Z_lateOf_103 (by decide) ?_ ?_
  · refine jm_iload_n (pc := 114) (q := 2) (x := x3) d_Z_lateOf_114 rfl ?_
    exact jm_iret (pc := 115) (x := x3) d_Z_lateOf_115 rfl rfl rfl rfl rfl
  · refine jm_aload_n (pc := 106) (q := 0) (x := 59) d_Z_lateOf_106 rfl ?_
    refine jm_iload_n (pc := 107) (q := 1) (x := x1) d_Z_lateOf_107 rfl ?_
    refine jm_Vi (pc := 108) (Y' := mY_Z_latest) (i := 59) (avs := [.int x1]) (rest := []) (s_Z_latest_ok s3 x1) ok_Z_latest l0_Z_lateOf__Z_latest ml_Z_219 im_Z_latest se_Z_latest d_Z_lateOf_108 rfl sh_59 rfl rfl ge_59 le_59_78 rfl (Nat.le_of_ble_eq_true rfl) (Nat.le_of_ble_eq_true rfl) (Nat.le_of_ble_eq_true rfl) (Nat.le_of_ble_eq_true rfl) (fun v4 s5 => ?_)
    refine jm_goto (pc := 111) (tgt := 115) d_Z_lateOf_111 (by decide) ?_
    exact jm_iret (pc := 115) (x := v4) d_Z_lateOf_115 rfl rfl rfl rfl rfl
def s_Z_lateOf_L24 (k4 : Int32 → Int32 → Int32 → Int32 → jm_M → Option (Int32 × jm_M)) : Nat → Int32 → Int32 → Int32 → Int32 → Int32 → jm_M → Option (Int32 × jm_M)
  | 0, _, _, _, _, _, _ => none
  | n + 1, x1, x2, x3, x4, x5, s => (if x4 ≤ x5 then k4 x1 x2 x3 (x4 + 1) s else jm_ldi s 63 40 x4 (fun v6 => jm_bd (s_Z_has s v6 x5) (fun v7 => (if v7 = 0 then s_Z_lateOf_L24 k4 n x1 x2 x3 x4 (x5 + 1) s else jm_ev (jm_si s 59 25 x4) (fun s8 => jm_ev (jm_si s8 59 26 x5) (fun s9 => jm_b2 (s_Z_latest s9 x1) (fun v10 s11 => (if v10 ≤ x3 then s_Z_lateOf_L24 k4 n x1 x2 x3 x4 (x5 + 1) s11 else s_Z_lateOf_L24 k4 n x1 x2 v10 x4 (x5 + 1) s11))))))))
set_option maxRecDepth 100000 in
set_option maxHeartbeats 4000000 in
theorem s_Z_lateOf_L24_ok {k4 : Int32 → Int32 → Int32 → Int32 → jm_M → Option (Int32 × jm_M)} (hk4 : ∀ (x1 : Int32) (x2 : Int32) (x3 : Int32) (x4 : Int32) (s : jm_M), jm_Sim mY_Z_lateOf 0 0 5 [(0, .ref 59), (1, .int x1), (2, .int x2), (3, .int x3), (4, .int x4)] [] 78 mr_154 s (k4 x1 x2 x3 x4 s) (jm_rP 78 mr_154)) : ∀ (n : Nat) (x1 : Int32) (x2 : Int32) (x3 : Int32) (x4 : Int32) (x5 : Int32) (s : jm_M), jm_Sim mY_Z_lateOf 0 0 24 [(0, .ref 59), (1, .int x1), (2, .int x2), (3, .int x3), (4, .int x4), (5, .int x5)] [] 78 mr_154 s (s_Z_lateOf_L24 k4 n x1 x2 x3 x4 x5 s) (jm_rP 78 mr_154) := by
  intro n
  induction n with
  | zero => intro x1 x2 x3 x4 x5 s; exact jm_none
  | succ n ih =>
    intro x1 x2 x3 x4 x5 s
    rw [s_Z_lateOf_L24]
    refine jm_iload (pc := 24) (q := 5) (x := x5) d_Z_lateOf_24 rfl ?_
    refine jm_iload (pc := 26) (q := 4) (x := x4) d_Z_lateOf_26 rfl ?_
    refine jm_icmp_ge (pc := 28) (tgt := 84) d_Z_lateOf_28 (by decide) ?_ ?_
    · refine jm_iinc (pc := 84) (q := 4) (x := x4) (v := 1) (L2 := [(4, .int (x4 + 1)), (0, .ref 59), (1, .int x1), (2, .int x2), (3, .int x3), (5, .int x5)]) d_Z_lateOf_84 rfl ci_1 (Nat.le_of_ble_eq_true rfl) rfl ?_
      refine jm_goto (pc := 87) (tgt := 5) d_Z_lateOf_87 (by decide) ?_
      refine jm_sub (L2 := [(0, .ref 59), (1, .int x1), (2, .int x2), (3, .int x3), (4, .int (x4 + 1))]) [1, 2, 3, 4, 0] rfl ?_
      exact hk4 x1 x2 x3 (x4 + 1) s
    · refine jm_aload_n (pc := 31) (q := 0) (x := 59) d_Z_lateOf_31 rfl ?_
      refine jm_gr (pc := 32) (i := 59) d_Z_lateOf_32 fo_Z_19 sh_59 ge_59 le_59_78 rfl (fun _ => rfl) mr_154_59_4 ge_63 ?_
      refine jm_iload (pc := 35) (q := 4) (x := x4) d_Z_lateOf_35 rfl ?_
      refine jm_iald (pc := 37) d_Z_lateOf_37 sh_63 ge_63 le_63_78 (fun v6 => ?_)
      refine jm_iload (pc := 38) (q := 5) (x := x5) d_Z_lateOf_38 rfl ?_
      refine jm_Sp (pc := 40) (Y' := mY_Z_has) (avs := [.int v6, .int x5]) (rest := []) (s_Z_has_ok s v6 x5) ok_Z_has l0_Z_lateOf__Z_has ml_Z_99 sm_Z_has d_Z_lateOf_40 rfl rfl (Nat.le_of_ble_eq_true rfl) (Nat.le_of_ble_eq_true rfl) (Nat.le_of_ble_eq_true rfl) (Nat.le_of_ble_eq_true rfl) (fun v7 => ?_)
      refine jm_if_eq (pc := 43) (tgt := 78) d_Z_lateOf_43 (by decide) ?_ ?_
      · refine jm_iinc (pc := 78) (q := 5) (x := x5) (v := 1) (L2 := [(5, .int (x5 + 1)), (0, .ref 59), (1, .int x1), (2, .int x2), (3, .int x3), (4, .int x4)]) d_Z_lateOf_78 rfl ci_1 (Nat.le_of_ble_eq_true rfl) rfl ?_
        refine jm_goto (pc := 81) (tgt := 24) d_Z_lateOf_81 (by decide) ?_
        refine jm_sub (L2 := [(0, .ref 59), (1, .int x1), (2, .int x2), (3, .int x3), (4, .int x4), (5, .int (x5 + 1))]) [1, 2, 3, 4, 5, 0] rfl ?_
        exact ih x1 x2 x3 x4 (x5 + 1) s
      · refine jm_aload_n (pc := 46) (q := 0) (x := 59) d_Z_lateOf_46 rfl ?_
        refine jm_iload (pc := 47) (q := 4) (x := x4) d_Z_lateOf_47 rfl ?_
        refine jm_pi (pc := 49) (i := 59) d_Z_lateOf_49 fp_Z_180 sh_59 ge_59 le_59_78 rfl rfl rfl (fun _ _ _ => rfl) (fun s8 => ?_)
        refine jm_aload_n (pc := 52) (q := 0) (x := 59) d_Z_lateOf_52 rfl ?_
        refine jm_iload (pc := 53) (q := 5) (x := x5) d_Z_lateOf_53 rfl ?_
        refine jm_pi (pc := 55) (i := 59) d_Z_lateOf_55 fp_Z_183 sh_59 ge_59 le_59_78 rfl rfl rfl (fun _ _ _ => rfl) (fun s9 => ?_)
        refine jm_aload_n (pc := 58) (q := 0) (x := 59) d_Z_lateOf_58 rfl ?_
        refine jm_iload_n (pc := 59) (q := 1) (x := x1) d_Z_lateOf_59 rfl ?_
        refine jm_Vi (pc := 60) (Y' := mY_Z_latest) (i := 59) (avs := [.int x1]) (rest := []) (s_Z_latest_ok s9 x1) ok_Z_latest l0_Z_lateOf__Z_latest ml_Z_219 im_Z_latest se_Z_latest d_Z_lateOf_60 rfl sh_59 rfl rfl ge_59 le_59_78 rfl (Nat.le_of_ble_eq_true rfl) (Nat.le_of_ble_eq_true rfl) (Nat.le_of_ble_eq_true rfl) (Nat.le_of_ble_eq_true rfl) (fun v10 s11 => ?_)
        refine jm_istore (pc := 63) (L2 := [(6, .int v10), (0, .ref 59), (1, .int x1), (2, .int x2), (3, .int x3), (4, .int x4), (5, .int x5)]) d_Z_lateOf_63 (Nat.le_of_ble_eq_true rfl) rfl ?_
        refine jm_iload (pc := 65) (q := 0) (x := v10) d_Z_lateOf_65 rfl ?_
        refine jm_iload_n (pc := 67) (q := 4) (x := x3) d_Z_lateOf_67 rfl ?_
        refine jm_icmp_le (pc := 68) (tgt := 76) d_Z_lateOf_68 (by decide) ?_ ?_
        · refine jm_iload_n (pc := 76) (q := 4) (x := x3) d_Z_lateOf_76 rfl ?_
          refine jm_istore_n (pc := 77) (i := 3) (L2 := [(3, .int x3), (6, .int v10), (0, .ref 59), (1, .int x1), (2, .int x2), (4, .int x4), (5, .int x5)]) d_Z_lateOf_77 rfl (Nat.le_of_ble_eq_true rfl) rfl ?_
          refine jm_iinc (pc := 78) (q := 6) (x := x5) (v := 1) (L2 := [(5, .int (x5 + 1)), (3, .int x3), (6, .int v10), (0, .ref 59), (1, .int x1), (2, .int x2), (4, .int x4)]) d_Z_lateOf_78 rfl ci_1 (Nat.le_of_ble_eq_true rfl) rfl ?_
          refine jm_goto (pc := 81) (tgt := 24) d_Z_lateOf_81 (by decide) ?_
          refine jm_sub (L2 := [(0, .ref 59), (1, .int x1), (2, .int x2), (3, .int x3), (4, .int x4), (5, .int (x5 + 1))]) [3, 4, 5, 1, 6, 0] rfl ?_
          exact ih x1 x2 x3 x4 (x5 + 1) s11
        · refine jm_iload (pc := 71) (q := 0) (x := v10) d_Z_lateOf_71 rfl ?_
          refine jm_goto (pc := 73) (tgt := 77) d_Z_lateOf_73 (by decide) ?_
          refine jm_istore_n (pc := 77) (i := 3) (L2 := [(3, .int v10), (6, .int v10), (0, .ref 59), (1, .int x1), (2, .int x2), (4, .int x4), (5, .int x5)]) d_Z_lateOf_77 rfl (Nat.le_of_ble_eq_true rfl) rfl ?_
          refine jm_iinc (pc := 78) (q := 6) (x := x5) (v := 1) (L2 := [(5, .int (x5 + 1)), (3, .int v10), (6, .int v10), (0, .ref 59), (1, .int x1), (2, .int x2), (4, .int x4)]) d_Z_lateOf_78 rfl ci_1 (Nat.le_of_ble_eq_true rfl) rfl ?_
          refine jm_goto (pc := 81) (tgt := 24) d_Z_lateOf_81 (by decide) ?_
          refine jm_sub (L2 := [(0, .ref 59), (1, .int x1), (2, .int x2), (3, .int v10), (4, .int x4), (5, .int (x5 + 1))]) [3, 4, 5, 1, 6, 0] rfl ?_
          exact ih x1 x2 v10 x4 (x5 + 1) s11
def s_Z_lateOf_L5 : Nat → Int32 → Int32 → Int32 → Int32 → jm_M → Option (Int32 × jm_M)
  | 0, _, _, _, _, _ => none
  | n + 1, x1, x2, x3, x4, s => jm_ldi s 61 4 0 (fun v1 => (if v1 ≤ x4 then s_Z_lateOf_J90 x1 x3 s else (if x2 = 1 then s_Z_lateOf_L24 (s_Z_lateOf_L5 n) 5000 x1 x2 x3 x4 0 s else s_Z_lateOf_J90 x1 x3 s)))
set_option maxRecDepth 100000 in
set_option maxHeartbeats 4000000 in
theorem s_Z_lateOf_L5_ok : ∀ (n : Nat) (x1 : Int32) (x2 : Int32) (x3 : Int32) (x4 : Int32) (s : jm_M), jm_Sim mY_Z_lateOf 0 0 5 [(0, .ref 59), (1, .int x1), (2, .int x2), (3, .int x3), (4, .int x4)] [] 78 mr_154 s (s_Z_lateOf_L5 n x1 x2 x3 x4 s) (jm_rP 78 mr_154) := by
  intro n
  induction n with
  | zero => intro x1 x2 x3 x4 s; exact jm_none
  | succ n ih =>
    intro x1 x2 x3 x4 s
    rw [s_Z_lateOf_L5]
    refine jm_iload (pc := 5) (q := 4) (x := x4) d_Z_lateOf_5 rfl ?_
    refine jm_aload_n (pc := 7) (q := 0) (x := 59) d_Z_lateOf_7 rfl ?_
    refine jm_gr (pc := 8) (i := 59) d_Z_lateOf_8 fo_Z_13 sh_59 ge_59 le_59_78 rfl (fun _ => rfl) mr_154_59_2 ge_61 ?_
    refine jm_iconst (pc := 11) (v := 0) d_Z_lateOf_11 ci_0 ?_
    refine jm_iald (pc := 12) d_Z_lateOf_12 sh_61 ge_61 le_61_78 (fun v1 => ?_)
    refine jm_icmp_ge (pc := 13) (tgt := 90) d_Z_lateOf_13 (by decide) ?_ ?_
    · refine jm_sub (L2 := [(0, .ref 59), (1, .int x1), (3, .int x3)]) [0, 1, 3] rfl ?_
      exact s_Z_lateOf_J90_ok x1 x3 s
    · refine jm_iload_n (pc := 16) (q := 2) (x := x2) d_Z_lateOf_16 rfl ?_
      refine jm_iconst (pc := 17) (v := 1) d_Z_lateOf_17 ci_1 ?_
      refine jm_icmp_ne (pc := 18) (tgt := 90) d_Z_lateOf_18 (by decide) ?_ ?_
      · refine jm_iconst (pc := 21) (v := 0) d_Z_lateOf_21 ci_0 ?_
        refine jm_istore (pc := 22) (L2 := [(5, .int 0), (0, .ref 59), (1, .int x1), (2, .int x2), (3, .int x3), (4, .int x4)]) d_Z_lateOf_22 (Nat.le_of_ble_eq_true rfl) rfl ?_
        refine jm_sub (L2 := [(0, .ref 59), (1, .int x1), (2, .int x2), (3, .int x3), (4, .int x4), (5, .int 0)]) [1, 2, 3, 4, 5, 0] rfl ?_
        exact s_Z_lateOf_L24_ok ih 5000 x1 x2 x3 x4 0 s
      · refine jm_sub (L2 := [(0, .ref 59), (1, .int x1), (3, .int x3)]) [0, 1, 3] rfl ?_
        exact s_Z_lateOf_J90_ok x1 x3 s
def s_Z_lateOf (s : jm_M) (a0 : Int32) (a1 : Int32) : Option (Int32 × jm_M) := s_Z_lateOf_L5 5000 a0 a1 (-1) 0 s
set_option maxRecDepth 100000 in
set_option maxHeartbeats 4000000 in
theorem s_Z_lateOf_ok (s : jm_M) (a0 : Int32) (a1 : Int32) : jm_Sim mY_Z_lateOf 0 0 0 [(0, .ref 59), (1, .int a0), (2, .int a1)] [] 78 mr_154 s (s_Z_lateOf s a0 a1) (jm_rP 78 mr_154) := by
  unfold s_Z_lateOf
  refine jm_iconst (pc := 0) (v := (-1)) d_Z_lateOf_0 ci_m1 ?_
  refine jm_istore_n (pc := 1) (i := 3) (L2 := [(3, .int (-1)), (0, .ref 59), (1, .int a0), (2, .int a1)]) d_Z_lateOf_1 rfl (Nat.le_of_ble_eq_true rfl) rfl ?_
  refine jm_iconst (pc := 2) (v := 0) d_Z_lateOf_2 ci_0 ?_
  refine jm_istore (pc := 3) (L2 := [(4, .int 0), (3, .int (-1)), (0, .ref 59), (1, .int a0), (2, .int a1)]) d_Z_lateOf_3 (Nat.le_of_ble_eq_true rfl) rfl ?_
  refine jm_sub (L2 := [(0, .ref 59), (1, .int a0), (2, .int a1), (3, .int (-1)), (4, .int 0)]) [2, 3, 4, 1, 0] rfl ?_
  exact s_Z_lateOf_L5_ok 5000 a0 a1 (-1) 0 s
