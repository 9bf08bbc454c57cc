theorem d_X_write_0 : decode (jm_cd mY_X_write) 0 = .ok (.iload_n 1, 1) := by decide +kernel
theorem d_X_write_1 : decode (jm_cd mY_X_write) 1 = .ok (.iconst 1, 1) := by decide +kernel
theorem d_X_write_2 : decode (jm_cd mY_X_write) 2 = .ok (.if_icmp .lt 9, 3) := by decide +kernel
theorem d_X_write_5 : decode (jm_cd mY_X_write) 5 = .ok (.iload_n 1, 1) := by decide +kernel
theorem d_X_write_6 : decode (jm_cd mY_X_write) 6 = .ok (.bipush 8, 2) := by decide +kernel
theorem d_X_write_8 : decode (jm_cd mY_X_write) 8 = .ok (.if_icmp .le 5, 3) := by decide +kernel
theorem d_X_write_11 : decode (jm_cd mY_X_write) 11 = .ok (.iconst (-1), 1) := by decide +kernel
theorem d_X_write_12 : decode (jm_cd mY_X_write) 12 = .ok (.ireturn, 1) := by decide +kernel
theorem d_X_write_13 : decode (jm_cd mY_X_write) 13 = .ok (.aload_n 0, 1) := by decide +kernel
theorem d_X_write_14 : decode (jm_cd mY_X_write) 14 = .ok (.getfield 13, 3) := by decide +kernel
theorem d_X_write_17 : decode (jm_cd mY_X_write) 17 = .ok (.iload_n 1, 1) := by decide +kernel
theorem d_X_write_18 : decode (jm_cd mY_X_write) 18 = .ok (.iadd, 1) := by decide +kernel
theorem d_X_write_19 : decode (jm_cd mY_X_write) 19 = .ok (.sipush 300, 3) := by decide +kernel
theorem d_X_write_22 : decode (jm_cd mY_X_write) 22 = .ok (.if_icmp .le 6, 3) := by decide +kernel
theorem d_X_write_25 : decode (jm_cd mY_X_write) 25 = .ok (.bipush (-3), 2) := by decide +kernel
theorem d_X_write_27 : decode (jm_cd mY_X_write) 27 = .ok (.ireturn, 1) := by decide +kernel
theorem d_X_write_28 : decode (jm_cd mY_X_write) 28 = .ok (.iload_n 1, 1) := by decide +kernel
theorem d_X_write_29 : decode (jm_cd mY_X_write) 29 = .ok (.iconst 1, 1) := by decide +kernel
theorem d_X_write_30 : decode (jm_cd mY_X_write) 30 = .ok (.isub, 1) := by decide +kernel
theorem d_X_write_31 : decode (jm_cd mY_X_write) 31 = .ok (.istore 4, 2) := by decide +kernel
theorem d_X_write_33 : decode (jm_cd mY_X_write) 33 = .ok (.iload 4, 2) := by decide +kernel
theorem d_X_write_35 : decode (jm_cd mY_X_write) 35 = .ok (.ifCond .lt 37, 3) := by decide +kernel
theorem d_X_write_38 : decode (jm_cd mY_X_write) 38 = .ok (.aload_n 0, 1) := by decide +kernel
theorem d_X_write_39 : decode (jm_cd mY_X_write) 39 = .ok (.getfield 9, 3) := by decide +kernel
theorem d_X_write_42 : decode (jm_cd mY_X_write) 42 = .ok (.aload_n 0, 1) := by decide +kernel
theorem d_X_write_43 : decode (jm_cd mY_X_write) 43 = .ok (.getfield 13, 3) := by decide +kernel
theorem d_X_write_46 : decode (jm_cd mY_X_write) 46 = .ok (.lload_n 2, 1) := by decide +kernel
theorem d_X_write_47 : decode (jm_cd mY_X_write) 47 = .ok (.bipush 8, 2) := by decide +kernel
theorem d_X_write_49 : decode (jm_cd mY_X_write) 49 = .ok (.iload 4, 2) := by decide +kernel
theorem d_X_write_51 : decode (jm_cd mY_X_write) 51 = .ok (.imul, 1) := by decide +kernel
theorem d_X_write_52 : decode (jm_cd mY_X_write) 52 = .ok (.lushr, 1) := by decide +kernel
theorem d_X_write_53 : decode (jm_cd mY_X_write) 53 = .ok (.l2i, 1) := by decide +kernel
theorem d_X_write_54 : decode (jm_cd mY_X_write) 54 = .ok (.i2b, 1) := by decide +kernel
theorem d_X_write_55 : decode (jm_cd mY_X_write) 55 = .ok (.bastore, 1) := by decide +kernel
theorem d_X_write_56 : decode (jm_cd mY_X_write) 56 = .ok (.aload_n 0, 1) := by decide +kernel
theorem d_X_write_57 : decode (jm_cd mY_X_write) 57 = .ok (.dup, 1) := by decide +kernel
theorem d_X_write_58 : decode (jm_cd mY_X_write) 58 = .ok (.getfield 13, 3) := by decide +kernel
theorem d_X_write_61 : decode (jm_cd mY_X_write) 61 = .ok (.iconst 1, 1) := by decide +kernel
theorem d_X_write_62 : decode (jm_cd mY_X_write) 62 = .ok (.iadd, 1) := by decide +kernel
theorem d_X_write_63 : decode (jm_cd mY_X_write) 63 = .ok (.putfield 13, 3) := by decide +kernel
theorem d_X_write_66 : decode (jm_cd mY_X_write) 66 = .ok (.iinc 4 (-1), 3) := by decide +kernel
theorem d_X_write_69 : decode (jm_cd mY_X_write) 69 = .ok (.goto (-36), 3) := by decide +kernel
theorem d_X_write_72 : decode (jm_cd mY_X_write) 72 = .ok (.aload_n 0, 1) := by decide +kernel
theorem d_X_write_73 : decode (jm_cd mY_X_write) 73 = .ok (.getfield 13, 3) := by decide +kernel
theorem d_X_write_76 : decode (jm_cd mY_X_write) 76 = .ok (.ireturn, 1) := by decide +kernel
def s_X_write_L33 : Nat → Int64 → Int32 → jm_M → Option (Int32 × jm_M)
  | 0, _, _, _ => none
  | n + 1, x2, x4, s => (if x4 < 0 then (some (s.1 1 1, s)) else jm_sti s 2 300 (s.1 1 1) (vp_nar .byte ((((x2.toUInt64 >>> ((8 * x4).toInt64.toUInt64 &&& Int64.toUInt64 63)).toInt64).toInt32).toInt8.toInt32)) (fun s2 => jm_ev (jm_si s2 1 1 ((s2.1 1 1) + 1)) (fun s3 => s_X_write_L33 n x2 (x4 + (-1)) s3)))
set_option maxRecDepth 100000 in
set_option maxHeartbeats 4000000 in
theorem s_X_write_L33_ok : ∀ (n : Nat) (x2 : Int64) (x4 : Int32) (s : jm_M), jm_Sim mY_X_write 0 0 33 [(0, .ref 1), (2, .long x2), (4, .int x4)] [] 78 mr_154 s (s_X_write_L33 n x2 x4 s) (jm_rP 78 mr_154) := by
  intro n
  induction n with
  | zero => intro x2 x4 s; exact jm_none
  | succ n ih =>
    intro x2 x4 s
    rw [s_X_write_L33]
    refine jm_iload (pc := 33) (q := 2) (x := x4) d_X_write_33 rfl ?_
    refine jm_if_lt (pc := 35) (tgt := 72) d_X_write_35 (by decide) ?_ ?_
    · refine jm_aload_n (pc := 72) (q := 0) (x := 1) d_X_write_72 rfl ?_
      refine jm_gi (pc := 73) (i := 1) d_X_write_73 fo_X_13 sh_1 ge_1 le_1_78 rfl (fun _ => rfl) ?_
      exact jm_iret (pc := 76) (x := s.1 1 1) d_X_write_76 rfl rfl rfl rfl rfl
    · refine jm_aload_n (pc := 38) (q := 0) (x := 1) d_X_write_38 rfl ?_
      refine jm_gr (pc := 39) (i := 1) d_X_write_39 fo_X_9 sh_1 ge_1 le_1_78 rfl (fun _ => rfl) mr_154_1_0 ge_2 ?_
      refine jm_aload_n (pc := 42) (q := 0) (x := 1) d_X_write_42 rfl ?_
      refine jm_gi (pc := 43) (i := 1) d_X_write_43 fo_X_13 sh_1 ge_1 le_1_78 rfl (fun _ => rfl) ?_
      refine jm_lload_n (pc := 46) (q := 1) (x := x2) d_X_write_46 rfl ?_
      refine jm_bipush (pc := 47) (v := 8) d_X_write_47 cb_8 ?_
      refine jm_iload (pc := 49) (q := 2) (x := x4) d_X_write_49 rfl ?_
      refine jm_imul (pc := 51) d_X_write_51 ?_
      refine jm_lushr (pc := 52) d_X_write_52 ?_
      refine jm_l2i (pc := 53) d_X_write_53 ?_
      refine jm_i2b (pc := 54) d_X_write_54 ?_
      refine jm_bast (pc := 55) d_X_write_55 sh_2 ge_2 le_2_78 (fun s2 => ?_)
      refine jm_aload_n (pc := 56) (q := 0) (x := 1) d_X_write_56 rfl ?_
      refine jm_dup (pc := 57) d_X_write_57 rfl ?_
      refine jm_gi (pc := 58) (i := 1) d_X_write_58 fo_X_13 sh_1 ge_1 le_1_78 rfl (fun _ => rfl) ?_
      refine jm_iconst (pc := 61) (v := 1) d_X_write_61 ci_1 ?_
      refine jm_iadd (pc := 62) d_X_write_62 ?_
      refine jm_pi (pc := 63) (i := 1) d_X_write_63 fp_X_13 sh_1 ge_1 le_1_78 rfl rfl rfl (fun _ _ _ => rfl) (fun s3 => ?_)
      refine jm_iinc (pc := 66) (q := 2) (x := x4) (v := (-1)) (L2 := [(4, .int (x4 + (-1))), (0, .ref 1), (2, .long x2)]) d_X_write_66 rfl ci_m1 (Nat.le_of_ble_eq_true rfl) rfl ?_
      refine jm_goto (pc := 69) (tgt := 33) d_X_write_69 (by decide) ?_
      refine jm_sub (L2 := [(0, .ref 1), (2, .long x2), (4, .int (x4 + (-1)))]) [1, 2, 0] rfl ?_
      exact ih x2 (x4 + (-1)) s3
def s_X_write (s : jm_M) (a0 : Int32) (a1 : Int64) : Option (Int32 × jm_M) := (if a0 < 1 then (some ((-1), s)) else (if a0 ≤ 8 then (if ((s.1 1 1) + a0) ≤ 300 then jm_vi (a0 - 1) (fun v1 => s_X_write_L33 5000 a1 v1 s) else (some ((-3), s))) else (some ((-1), s))))
set_option maxRecDepth 100000 in
set_option maxHeartbeats 4000000 in
theorem s_X_write_ok (s : jm_M) (a0 : Int32) (a1 : Int64) : jm_Sim mY_X_write 0 0 0 [(0, .ref 1), (1, .int a0), (2, .long a1)] [] 78 mr_154 s (s_X_write s a0 a1) (jm_rP 78 mr_154) := by
  unfold s_X_write
  refine jm_iload_n (pc := 0) (q := 1) (x := a0) d_X_write_0 rfl ?_
  refine jm_iconst (pc := 1) (v := 1) d_X_write_1 ci_1 ?_
  refine jm_icmp_lt (pc := 2) (tgt := 11) d_X_write_2 (by decide) ?_ ?_
  · refine jm_iconst (pc := 11) (v := (-1)) d_X_write_11 ci_m1 ?_
    exact jm_iret (pc := 12) (x := (-1)) d_X_write_12 rfl rfl rfl rfl rfl
  · refine jm_iload_n (pc := 5) (q := 1) (x := a0) d_X_write_5 rfl ?_
    refine jm_bipush (pc := 6) (v := 8) d_X_write_6 cb_8 ?_
    refine jm_icmp_le (pc := 8) (tgt := 13) d_X_write_8 (by decide) ?_ ?_
    · refine jm_aload_n (pc := 13) (q := 0) (x := 1) d_X_write_13 rfl ?_
      refine jm_gi (pc := 14) (i := 1) d_X_write_14 fo_X_13 sh_1 ge_1 le_1_78 rfl (fun _ => rfl) ?_
      refine jm_iload_n (pc := 17) (q := 1) (x := a0) d_X_write_17 rfl ?_
      refine jm_iadd (pc := 18) d_X_write_18 ?_
      refine jm_sipush (pc := 19) (v := 300) d_X_write_19 cs_300 ?_
      refine jm_icmp_le (pc := 22) (tgt := 28) d_X_write_22 (by decide) ?_ ?_
      · refine jm_iload_n (pc := 28) (q := 1) (x := a0) d_X_write_28 rfl ?_
        refine jm_iconst (pc := 29) (v := 1) d_X_write_29 ci_1 ?_
        refine jm_isub (pc := 30) d_X_write_30 ?_
        refine jm_nvi (fun v1 => ?_)
        refine jm_istore (pc := 31) (L2 := [(4, .int v1), (0, .ref 1), (1, .int a0), (2, .long a1)]) d_X_write_31 (Nat.le_of_ble_eq_true rfl) rfl ?_
        refine jm_sub (L2 := [(0, .ref 1), (2, .long a1), (4, .int v1)]) [1, 3, 0] rfl ?_
        exact s_X_write_L33_ok 5000 a1 v1 s
      · refine jm_bipush (pc := 25) (v := (-3)) d_X_write_25 cb_m3 ?_
        exact jm_iret (pc := 27) (x := (-3)) d_X_write_27 rfl rfl rfl rfl rfl
    · refine jm_iconst (pc := 11) (v := (-1)) d_X_write_11 ci_m1 ?_
      exact jm_iret (pc := 12) (x := (-1)) d_X_write_12 rfl rfl rfl rfl rfl
theorem d_Z_in_0 : decode (jm_cd mY_Z_in) 0 = .ok (.lload_n 0, 1) := by decide +kernel
theorem d_Z_in_1 : decode (jm_cd mY_Z_in) 1 = .ok (.lload_n 2, 1) := by decide +kernel
theorem d_Z_in_2 : decode (jm_cd mY_Z_in) 2 = .ok (.lcmp, 1) := by decide +kernel
theorem d_Z_in_3 : decode (jm_cd mY_Z_in) 3 = .ok (.ifCond .lt 14, 3) := by decide +kernel
theorem d_Z_in_6 : decode (jm_cd mY_Z_in) 6 = .ok (.lload_n 0, 1) := by decide +kernel
theorem d_Z_in_7 : decode (jm_cd mY_Z_in) 7 = .ok (.lload 4, 2) := by decide +kernel
theorem d_Z_in_9 : decode (jm_cd mY_Z_in) 9 = .ok (.lcmp, 1) := by decide +kernel
theorem d_Z_in_10 : decode (jm_cd mY_Z_in) 10 = .ok (.ifCond .gt 7, 3) := by decide +kernel
theorem d_Z_in_13 : decode (jm_cd mY_Z_in) 13 = .ok (.iconst 1, 1) := by decide +kernel
theorem d_Z_in_14 : decode (jm_cd mY_Z_in) 14 = .ok (.goto 4, 3) := by decide +kernel
theorem d_Z_in_17 : decode (jm_cd mY_Z_in) 17 = .ok (.iconst 0, 1) := by decide +kernel
theorem d_Z_in_18 : decode (jm_cd mY_Z_in) 18 = .ok (.ireturn, 1) := by decide +kernel
def s_Z_in (s : jm_M) (a0 : Int64) (a1 : Int64) (a2 : Int64) : Option Int32 := (if (lg_cmp a0 a1) < 0 then (some 0) else (if 0 < (lg_cmp a0 a2) then (some 0) else (some 1)))
set_option maxRecDepth 100000 in
set_option maxHeartbeats 4000000 in
theorem s_Z_in_ok (s : jm_M) (a0 : Int64) (a1 : Int64) (a2 : Int64) : jm_Sim mY_Z_in 0 0 0 [(0, .long a0), (2, .long a1), (4, .long a2)] [] 78 mr_154 s (s_Z_in s a0 a1 a2) (jm_rI 78 mr_154 s) := by
  unfold s_Z_in
  refine jm_lload_n (pc := 0) (q := 0) (x := a0) d_Z_in_0 rfl ?_
  refine jm_lload_n (pc := 1) (q := 1) (x := a1) d_Z_in_1 rfl ?_
  refine jm_lcmp (pc := 2) d_Z_in_2 ?_
  refine jm_if_lt (pc := 3) (tgt := 17) d_Z_in_3 (by decide) ?_ ?_
  · refine jm_iconst (pc := 17) (v := 0) d_Z_in_17 ci_0 ?_
    exact jm_iret (pc := 18) (x := 0) d_Z_in_18 rfl (by decide) rfl rfl rfl
  · refine jm_lload_n (pc := 6) (q := 0) (x := a0) d_Z_in_6 rfl ?_
    refine jm_lload (pc := 7) (q := 2) (x := a2) d_Z_in_7 rfl ?_
    refine jm_lcmp (pc := 9) d_Z_in_9 ?_
    refine jm_if_gt (pc := 10) (tgt := 17) d_Z_in_10 (by decide) ?_ ?_
    · refine jm_iconst (pc := 17) (v := 0) d_Z_in_17 ci_0 ?_
      exact jm_iret (pc := 18) (x := 0) d_Z_in_18 rfl (by decide) rfl rfl rfl
    · refine jm_iconst (pc := 13) (v := 1) d_Z_in_13 ci_1 ?_
      refine jm_goto (pc := 14) (tgt := 18) d_Z_in_14 (by decide) ?_
      exact jm_iret (pc := 18) (x := 1) d_Z_in_18 rfl (by decide) rfl rfl rfl
theorem d_Z_write_0 : decode (jm_cd mY_Z_write) 0 = .ok (.iload_n 1, 1) := by decide +kernel
theorem d_Z_write_1 : decode (jm_cd mY_Z_write) 1 = .ok (.i2l, 1) := by decide +kernel
theorem d_Z_write_2 : decode (jm_cd mY_Z_write) 2 = .ok (.lconst 1, 1) := by decide +kernel
theorem d_Z_write_3 : decode (jm_cd mY_Z_write) 3 = .ok (.ldc2_w 67, 3) := by decide +kernel
theorem d_Z_write_6 : decode (jm_cd mY_Z_write) 6 = .ok (.invokestatic 69, 3) := by decide +kernel
theorem d_Z_write_9 : decode (jm_cd mY_Z_write) 9 = .ok (.ifCond .ne 5, 3) := by decide +kernel
theorem d_Z_write_12 : decode (jm_cd mY_Z_write) 12 = .ok (.iconst (-1), 1) := by decide +kernel
theorem d_Z_write_13 : decode (jm_cd mY_Z_write) 13 = .ok (.ireturn, 1) := by decide +kernel
theorem d_Z_write_14 : decode (jm_cd mY_Z_write) 14 = .ok (.aload_n 0, 1) := by decide +kernel
theorem d_Z_write_15 : decode (jm_cd mY_Z_write) 15 = .ok (.getfield 73, 3) := by decide +kernel
theorem d_Z_write_18 : decode (jm_cd mY_Z_write) 18 = .ok (.iload_n 1, 1) := by decide +kernel
theorem d_Z_write_19 : decode (jm_cd mY_Z_write) 19 = .ok (.iadd, 1) := by decide +kernel
theorem d_Z_write_20 : decode (jm_cd mY_Z_write) 20 = .ok (.sipush 300, 3) := by decide +kernel
theorem d_Z_write_23 : decode (jm_cd mY_Z_write) 23 = .ok (.if_icmp .le 6, 3) := by decide +kernel
theorem d_Z_write_26 : decode (jm_cd mY_Z_write) 26 = .ok (.bipush (-3), 2) := by decide +kernel
theorem d_Z_write_28 : decode (jm_cd mY_Z_write) 28 = .ok (.ireturn, 1) := by decide +kernel
theorem d_Z_write_29 : decode (jm_cd mY_Z_write) 29 = .ok (.iload_n 1, 1) := by decide +kernel
theorem d_Z_write_30 : decode (jm_cd mY_Z_write) 30 = .ok (.iconst 1, 1) := by decide +kernel
theorem d_Z_write_31 : decode (jm_cd mY_Z_write) 31 = .ok (.isub, 1) := by decide +kernel
theorem d_Z_write_32 : decode (jm_cd mY_Z_write) 32 = .ok (.istore 4, 2) := by decide +kernel
theorem d_Z_write_34 : decode (jm_cd mY_Z_write) 34 = .ok (.iload 4, 2) := by decide +kernel
theorem d_Z_write_36 : decode (jm_cd mY_Z_write) 36 = .ok (.ifCond .lt 40, 3) := by decide +kernel
theorem d_Z_write_39 : decode (jm_cd mY_Z_write) 39 = .ok (.aload_n 0, 1) := by decide +kernel
theorem d_Z_write_40 : decode (jm_cd mY_Z_write) 40 = .ok (.getfield 7, 3) := by decide +kernel
theorem d_Z_write_43 : decode (jm_cd mY_Z_write) 43 = .ok (.aload_n 0, 1) := by decide +kernel
theorem d_Z_write_44 : decode (jm_cd mY_Z_write) 44 = .ok (.getfield 73, 3) := by decide +kernel
theorem d_Z_write_47 : decode (jm_cd mY_Z_write) 47 = .ok (.lload_n 2, 1) := by decide +kernel
theorem d_Z_write_48 : decode (jm_cd mY_Z_write) 48 = .ok (.bipush 8, 2) := by decide +kernel
theorem d_Z_write_50 : decode (jm_cd mY_Z_write) 50 = .ok (.iload 4, 2) := by decide +kernel
theorem d_Z_write_52 : decode (jm_cd mY_Z_write) 52 = .ok (.imul, 1) := by decide +kernel
theorem d_Z_write_53 : decode (jm_cd mY_Z_write) 53 = .ok (.lshr, 1) := by decide +kernel
theorem d_Z_write_54 : decode (jm_cd mY_Z_write) 54 = .ok (.ldc2_w 77, 3) := by decide +kernel
theorem d_Z_write_57 : decode (jm_cd mY_Z_write) 57 = .ok (.land, 1) := by decide +kernel
theorem d_Z_write_58 : decode (jm_cd mY_Z_write) 58 = .ok (.l2i, 1) := by decide +kernel
theorem d_Z_write_59 : decode (jm_cd mY_Z_write) 59 = .ok (.iastore, 1) := by decide +kernel
theorem d_Z_write_60 : decode (jm_cd mY_Z_write) 60 = .ok (.aload_n 0, 1) := by decide +kernel
theorem d_Z_write_61 : decode (jm_cd mY_Z_write) 61 = .ok (.dup, 1) := by decide +kernel
theorem d_Z_write_62 : decode (jm_cd mY_Z_write) 62 = .ok (.getfield 73, 3) := by decide +kernel
theorem d_Z_write_65 : decode (jm_cd mY_Z_write) 65 = .ok (.iconst 1, 1) := by decide +kernel
theorem d_Z_write_66 : decode (jm_cd mY_Z_write) 66 = .ok (.iadd, 1) := by decide +kernel
theorem d_Z_write_67 : decode (jm_cd mY_Z_write) 67 = .ok (.putfield 73, 3) := by decide +kernel
theorem d_Z_write_70 : decode (jm_cd mY_Z_write) 70 = .ok (.iinc 4 (-1), 3) := by decide +kernel
theorem d_Z_write_73 : decode (jm_cd mY_Z_write) 73 = .ok (.goto (-39), 3) := by decide +kernel
theorem d_Z_write_76 : decode (jm_cd mY_Z_write) 76 = .ok (.aload_n 0, 1) := by decide +kernel
theorem d_Z_write_77 : decode (jm_cd mY_Z_write) 77 = .ok (.getfield 73, 3) := by decide +kernel
theorem d_Z_write_80 : decode (jm_cd mY_Z_write) 80 = .ok (.ireturn, 1) := by decide +kernel
def s_Z_write_L34 : Nat → Int64 → Int32 → jm_M → Option (Int32 × jm_M)
  | 0, _, _, _ => none
  | n + 1, x2, x4, s => (if x4 < 0 then (some (s.1 59 0, s)) else jm_sti s 60 300 (s.1 59 0) (((x2 >>> ((8 * x4).toInt64 &&& 63)) &&& 255).toInt32) (fun s3 => jm_ev (jm_si s3 59 0 ((s3.1 59 0) + 1)) (fun s4 => s_Z_write_L34 n x2 (x4 + (-1)) s4)))
set_option maxRecDepth 100000 in
set_option maxHeartbeats 4000000 in
theorem s_Z_write_L34_ok : ∀ (n : Nat) (x2 : Int64) (x4 : Int32) (s : jm_M), jm_Sim mY_Z_write 0 0 34 [(0, .ref 59), (2, .long x2), (4, .int x4)] [] 78 mr_154 s (s_Z_write_L34 n x2 x4 s) (jm_rP 78 mr_154) := by
  intro n
  induction n with
  | zero => intro x2 x4 s; exact jm_none
  | succ n ih =>
    intro x2 x4 s
    rw [s_Z_write_L34]
    refine jm_iload (pc := 34) (q := 2) (x := x4) d_Z_write_34 rfl ?_
    refine jm_if_lt (pc := 36) (tgt := 76) d_Z_write_36 (by decide) ?_ ?_
    · refine jm_aload_n (pc := 76) (q := 0) (x := 59) d_Z_write_76 rfl ?_
      refine jm_gi (pc := 77) (i := 59) d_Z_write_77 fo_Z_73 sh_59 ge_59 le_59_78 rfl (fun _ => rfl) ?_
      exact jm_iret (pc := 80) (x := s.1 59 0) d_Z_write_80 rfl rfl rfl rfl rfl
    · refine jm_aload_n (pc := 39) (q := 0) (x := 59) d_Z_write_39 rfl ?_
      refine jm_gr (pc := 40) (i := 59) d_Z_write_40 fo_Z_7 sh_59 ge_59 le_59_78 rfl (fun _ => rfl) mr_154_59_1 ge_60 ?_
      refine jm_aload_n (pc := 43) (q := 0) (x := 59) d_Z_write_43 rfl ?_
      refine jm_gi (pc := 44) (i := 59) d_Z_write_44 fo_Z_73 sh_59 ge_59 le_59_78 rfl (fun _ => rfl) ?_
      refine jm_lload_n (pc := 47) (q := 1) (x := x2) d_Z_write_47 rfl ?_
      refine jm_bipush (pc := 48) (v := 8) d_Z_write_48 cb_8 ?_
      refine jm_iload (pc := 50) (q := 2) (x := x4) d_Z_write_50 rfl ?_
      refine jm_imul (pc := 52) d_Z_write_52 ?_
      refine jm_lshr (pc := 53) d_Z_write_53 ?_
      refine jm_ldc2 (pc := 54) (v := 255) d_Z_write_54 kl_Z_77 ?_
      refine jm_land (pc := 57) d_Z_write_57 ?_
      refine jm_l2i (pc := 58) d_Z_write_58 ?_
      refine jm_iast (pc := 59) d_Z_write_59 sh_60 ge_60 le_60_78 (fun s3 => ?_)
      refine jm_aload_n (pc := 60) (q := 0) (x := 59) d_Z_write_60 rfl ?_
      refine jm_dup (pc := 61) d_Z_write_61 rfl ?_
      refine jm_gi (pc := 62) (i := 59) d_Z_write_62 fo_Z_73 sh_59 ge_59 le_59_78 rfl (fun _ => rfl) ?_
      refine jm_iconst (pc := 65) (v := 1) d_Z_write_65 ci_1 ?_
      refine jm_iadd (pc := 66) d_Z_write_66 ?_
      refine jm_pi (pc := 67) (i := 59) d_Z_write_67 fp_Z_73 sh_59 ge_59 le_59_78 rfl rfl rfl (fun _ _ _ => rfl) (fun s4 => ?_)
      refine jm_iinc (pc := 70) (q := 2) (x := x4) (v := (-1)) (L2 := [(4, .int (x4 + (-1))), (0, .ref 59), (2, .long x2)]) d_Z_write_70 rfl ci_m1 (Nat.le_of_ble_eq_true rfl) rfl ?_
      refine jm_goto (pc := 73) (tgt := 34) d_Z_write_73 (by decide) ?_
      refine jm_sub (L2 := [(0, .ref 59), (2, .long x2), (4, .int (x4 + (-1)))]) [1, 2, 0] rfl ?_
      exact ih x2 (x4 + (-1)) s4
def s_Z_write (s : jm_M) (a0 : Int32) (a1 : Int64) : Option (Int32 × jm_M) := jm_bd (s_Z_in s a0.toInt64 1 8) (fun v1 => (if v1 = 0 then (some ((-1), s)) else (if ((s.1 59 0) + a0) ≤ 300 then jm_vi (a0 - 1) (fun v2 => s_Z_write_L34 5000 a1 v2 s) else (some ((-3), s)))))
set_option maxRecDepth 100000 in
set_option maxHeartbeats 4000000 in
theorem s_Z_write_ok (s : jm_M) (a0 : Int32) (a1 : Int64) : jm_Sim mY_Z_write 0 0 0 [(0, .ref 59), (1, .int a0), (2, .long a1)] [] 78 mr_154 s (s_Z_write s a0 a1) (jm_rP 78 mr_154) := by
  unfold s_Z_write
  refine jm_iload_n (pc := 0) (q := 1) (x := a0) d_Z_write_0 rfl ?_
  refine jm_i2l (pc := 1) d_Z_write_1 ?_
  refine jm_lconst (pc := 2) (v := 1) d_Z_write_2 cl_1 ?_
  refine jm_ldc2 (pc := 3) (v := 8) d_Z_write_3 kl_Z_67 ?_
  refine jm_Sp (pc := 6) (Y' := mY_Z_in) (avs := [.long a0.toInt64, .long 1, .long 8]) (rest := []) (s_Z_in_ok s a0.toInt64 1 8) ok_Z_in l0_Z_write__Z_in ml_Z_69 sm_Z_in d_Z_write_6 rfl rfl (Nat.le_of_ble_eq_true rfl) (Nat.le_of_ble_eq_true rfl) (Nat.le_of_ble_eq_true rfl) (Nat.le_of_ble_eq_true rfl) (fun v1 => ?_)
  refine jm_if_ne (pc := 9) (tgt := 14) d_Z_write_9 (by decide) ?_ ?_
  · refine jm_iconst (pc := 12) (v := (-1)) d_Z_write_12 ci_m1 ?_
    exact jm_iret (pc := 13) (x := (-1)) d_Z_write_13 rfl rfl rfl rfl rfl
  · refine jm_aload_n (pc := 14) (q := 0) (x := 59) d_Z_write_14 rfl ?_
    refine jm_gi (pc := 15) (i := 59) d_Z_write_15 fo_Z_73 sh_59 ge_59 le_59_78 rfl (fun _ => rfl) ?_
    refine jm_iload_n (pc := 18) (q := 1) (x := a0) d_Z_write_18 rfl ?_
    refine jm_iadd (pc := 19) d_Z_write_19 ?_
    refine jm_sipush (pc := 20) (v := 300) d_Z_write_20 cs_300 ?_
    refine jm_icmp_le (pc := 23) (tgt := 29) d_Z_write_23 (by decide) ?_ ?_
    · refine jm_iload_n (pc := 29) (q := 1) (x := a0) d_Z_write_29 rfl ?_
      refine jm_iconst (pc := 30) (v := 1) d_Z_write_30 ci_1 ?_
      refine jm_isub (pc := 31) d_Z_write_31 ?_
      refine jm_nvi (fun v2 => ?_)
      refine jm_istore (pc := 32) (L2 := [(4, .int v2), (0, .ref 59), (1, .int a0), (2, .long a1)]) d_Z_write_32 (Nat.le_of_ble_eq_true rfl) rfl ?_
      refine jm_sub (L2 := [(0, .ref 59), (2, .long a1), (4, .int v2)]) [1, 3, 0] rfl ?_
      exact s_Z_write_L34_ok 5000 a1 v2 s
    · refine jm_bipush (pc := 26) (v := (-3)) d_Z_write_26 cb_m3 ?_
      exact jm_iret (pc := 28) (x := (-3)) d_Z_write_28 rfl rfl rfl rfl rfl
theorem d_X_wipe_0 : decode (jm_cd mY_X_wipe) 0 = .ok (.aload_n 0, 1) := by decide +kernel
theorem d_X_wipe_1 : decode (jm_cd mY_X_wipe) 1 = .ok (.getfield 13, 3) := by decide +kernel
theorem d_X_wipe_4 : decode (jm_cd mY_X_wipe) 4 = .ok (.istore_n 1, 1) := by decide +kernel
theorem d_X_wipe_5 : decode (jm_cd mY_X_wipe) 5 = .ok (.aload_n 0, 1) := by decide +kernel
theorem d_X_wipe_6 : decode (jm_cd mY_X_wipe) 6 = .ok (.iconst 0, 1) := by decide +kernel
theorem d_X_wipe_7 : decode (jm_cd mY_X_wipe) 7 = .ok (.putfield 13, 3) := by decide +kernel
theorem d_X_wipe_10 : decode (jm_cd mY_X_wipe) 10 = .ok (.iload_n 1, 1) := by decide +kernel
theorem d_X_wipe_11 : decode (jm_cd mY_X_wipe) 11 = .ok (.ireturn, 1) := by decide +kernel
def s_X_wipe (s : jm_M) : Option (Int32 × jm_M) := jm_vi (s.1 1 1) (fun v1 => jm_ev (jm_si s 1 1 0) (fun s2 => (some (v1, s2))))
set_option maxRecDepth 100000 in
set_option maxHeartbeats 4000000 in
theorem s_X_wipe_ok (s : jm_M) : jm_Sim mY_X_wipe 0 0 0 [(0, .ref 1)] [] 78 mr_154 s (s_X_wipe s) (jm_rP 78 mr_154) := by
  unfold s_X_wipe
  refine jm_aload_n (pc := 0) (q := 0) (x := 1) d_X_wipe_0 rfl ?_
  refine jm_gi (pc := 1) (i := 1) d_X_wipe_1 fo_X_13 sh_1 ge_1 le_1_78 rfl (fun _ => rfl) ?_
  refine jm_nvi (fun v1 => ?_)
  refine jm_istore_n (pc := 4) (i := 1) (L2 := [(1, .int v1), (0, .ref 1)]) d_X_wipe_4 rfl (Nat.le_of_ble_eq_true rfl) rfl ?_
  refine jm_aload_n (pc := 5) (q := 1) (x := 1) d_X_wipe_5 rfl ?_
  refine jm_iconst (pc := 6) (v := 0) d_X_wipe_6 ci_0 ?_
  refine jm_pi (pc := 7) (i := 1) d_X_wipe_7 fp_X_13 sh_1 ge_1 le_1_78 rfl rfl rfl (fun _ _ _ => rfl) (fun s2 => ?_)
  refine jm_iload_n (pc := 10) (q := 0) (x := v1) d_X_wipe_10 rfl ?_
  exact jm_iret (pc := 11) (x := v1) d_X_wipe_11 rfl rfl rfl rfl rfl
theorem d_Z_wipe_0 : decode (jm_cd mY_Z_wipe) 0 = .ok (.aload_n 0, 1) := by decide +kernel
theorem d_Z_wipe_1 : decode (jm_cd mY_Z_wipe) 1 = .ok (.getfield 73, 3) := by decide +kernel
theorem d_Z_wipe_4 : decode (jm_cd mY_Z_wipe) 4 = .ok (.istore_n 1, 1) := by decide +kernel
theorem d_Z_wipe_5 : decode (jm_cd mY_Z_wipe) 5 = .ok (.aload_n 0, 1) := by decide +kernel
theorem d_Z_wipe_6 : decode (jm_cd mY_Z_wipe) 6 = .ok (.iconst 0, 1) := by decide +kernel
theorem d_Z_wipe_7 : decode (jm_cd mY_Z_wipe) 7 = .ok (.putfield 73, 3) := by decide +kernel
theorem d_Z_wipe_10 : decode (jm_cd mY_Z_wipe) 10 = .ok (.iload_n 1, 1) := by decide +kernel
theorem d_Z_wipe_11 : decode (jm_cd mY_Z_wipe) 11 = .ok (.ireturn, 1) := by decide +kernel
def s_Z_wipe (s : jm_M) : Option (Int32 × jm_M) := jm_vi (s.1 59 0) (fun v1 => jm_ev (jm_si s 59 0 0) (fun s2 => (some (v1, s2))))
set_option maxRecDepth 100000 in
set_option maxHeartbeats 4000000 in
theorem s_Z_wipe_ok (s : jm_M) : jm_Sim mY_Z_wipe 0 0 0 [(0, .ref 59)] [] 78 mr_154 s (s_Z_wipe s) (jm_rP 78 mr_154) := by
  unfold s_Z_wipe
  refine jm_aload_n (pc := 0) (q := 0) (x := 59) d_Z_wipe_0 rfl ?_
  refine jm_gi (pc := 1) (i := 59) d_Z_wipe_1 fo_Z_73 sh_59 ge_59 le_59_78 rfl (fun _ => rfl) ?_
  refine jm_nvi (fun v1 => ?_)
  refine jm_istore_n (pc := 4) (i := 1) (L2 := [(1, .int v1), (0, .ref 59)]) d_Z_wipe_4 rfl (Nat.le_of_ble_eq_true rfl) rfl ?_
  refine jm_aload_n (pc := 5) (q := 1) (x := 59) d_Z_wipe_5 rfl ?_
  refine jm_iconst (pc := 6) (v := 0) d_Z_wipe_6 ci_0 ?_
  refine jm_pi (pc := 7) (i := 59) d_Z_wipe_7 fp_Z_73 sh_59 ge_59 le_59_78 rfl rfl rfl (fun _ _ _ => rfl) (fun s2 => ?_)
  refine jm_iload_n (pc := 10) (q := 0) (x := v1) d_Z_wipe_10 rfl ?_
  exact jm_iret (pc := 11) (x := v1) d_Z_wipe_11 rfl rfl rfl rfl rfl
def s_Ne_clear_5_L88 : Nat → Int32 → jm_M → Option jm_M
  | 0, _, _ => none
  | n + 1, x1, s => (if 100 ≤ x1 then (some s) else jm_stl s 14 100 x1 0 (fun s4 => s_Ne_clear_5_L88 n (x1 + 1) s4))
set_option maxRecDepth 100000 in
set_option maxHeartbeats 4000000 in
theorem s_Ne_clear_5_L88_ok : ∀ (n : Nat) (x1 : Int32) (s : jm_M), jm_Sim mY_Ne_clear 0 0 88 [(0, .ref 5), (1, .int x1)] [] 78 mr_154 s (s_Ne_clear_5_L88 n x1 s) (jm_rV 78 mr_154) := by
  intro n
  induction n with
  | zero => intro x1 s; exact jm_none
  | succ n ih =>
    intro x1 s
    rw [s_Ne_clear_5_L88]
    refine jm_iload_n (pc := 88) (q := 1) (x := x1) d_Ne_clear_88 rfl ?_
    refine jm_bipush (pc := 89) (v := 100) d_Ne_clear_89 cb_100 ?_
    refine jm_icmp_ge (pc := 91) (tgt := 107) d_Ne_clear_91 (by decide) ?_ ?_
    · exact jm_vret (pc := 107) d_Ne_clear_107 rfl rfl rfl rfl
    · refine jm_aload_n (pc := 94) (q := 0) (x := 5) d_Ne_clear_94 rfl ?_
      refine jm_gr (pc := 95) (i := 5) d_Ne_clear_95 fo_Ne_41 sh_5 ge_5 le_5_78 rfl (fun _ => rfl) mr_154_5_9 ge_14 ?_
      refine jm_iload_n (pc := 98) (q := 1) (x := x1) d_Ne_clear_98 rfl ?_
      refine jm_lconst (pc := 99) (v := 0) d_Ne_clear_99 cl_0 ?_
      refine jm_last (pc := 100) d_Ne_clear_100 sh_14 ge_14 le_14_78 (fun s4 => ?_)
      refine jm_iinc (pc := 101) (q := 1) (x := x1) (v := 1) (L2 := [(1, .int (x1 + 1)), (0, .ref 5)]) d_Ne_clear_101 rfl ci_1 (Nat.le_of_ble_eq_true rfl) rfl ?_
      refine jm_goto (pc := 104) (tgt := 88) d_Ne_clear_104 (by decide) ?_
      refine jm_sub (L2 := [(0, .ref 5), (1, .int (x1 + 1))]) [1, 0] rfl ?_
      exact ih (x1 + 1) s4
def s_Ne_clear_5_L17 : Nat → Int32 → jm_M → Option jm_M
  | 0, _, _ => none
  | n + 1, x1, s => (if 10 ≤ x1 then s_Ne_clear_5_L88 5000 0 s else jm_sti s 6 10 x1 (-1) (fun s5 => jm_sti s5 7 10 x1 0 (fun s6 => jm_sti s6 8 10 x1 1 (fun s7 => jm_sti s7 9 10 x1 1 (fun s8 => jm_sti s8 10 10 x1 99 (fun s9 => jm_sti s9 11 10 x1 (-1) (fun s10 => jm_stl s10 12 10 x1 0 (fun s11 => jm_stl s11 13 10 x1 0 (fun s12 => s_Ne_clear_5_L17 n (x1 + 1) s12)))))))))
set_option maxRecDepth 100000 in
set_option maxHeartbeats 4000000 in
theorem s_Ne_clear_5_L17_ok : ∀ (n : Nat) (x1 : Int32) (s : jm_M), jm_Sim mY_Ne_clear 0 0 17 [(0, .ref 5), (1, .int x1)] [] 78 mr_154 s (s_Ne_clear_5_L17 n x1 s) (jm_rV 78 mr_154) := by
  intro n
  induction n with
  | zero => intro x1 s; exact jm_none
  | succ n ih =>
    intro x1 s
    rw [s_Ne_clear_5_L17]
    refine jm_iload_n (pc := 17) (q := 1) (x := x1) d_Ne_clear_17 rfl ?_
    refine jm_bipush (pc := 18) (v := 10) d_Ne_clear_18 cb_10 ?_
    refine jm_icmp_ge (pc := 20) (tgt := 86) d_Ne_clear_20 (by decide) ?_ ?_
    · refine jm_iconst (pc := 86) (v := 0) d_Ne_clear_86 ci_0 ?_
      refine jm_istore_n (pc := 87) (i := 1) (L2 := [(1, .int 0), (0, .ref 5)]) d_Ne_clear_87 rfl (Nat.le_of_ble_eq_true rfl) rfl ?_
      refine jm_sub (L2 := [(0, .ref 5), (1, .int 0)]) [1, 0] rfl ?_
      exact s_Ne_clear_5_L88_ok 5000 0 s
    · refine jm_aload_n (pc := 23) (q := 0) (x := 5) d_Ne_clear_23 rfl ?_
      refine jm_gr (pc := 24) (i := 5) d_Ne_clear_24 fo_Ne_15 sh_5 ge_5 le_5_78 rfl (fun _ => rfl) mr_154_5_1 ge_6 ?_
      refine jm_iload_n (pc := 27) (q := 1) (x := x1) d_Ne_clear_27 rfl ?_
      refine jm_iconst (pc := 28) (v := (-1)) d_Ne_clear_28 ci_m1 ?_
      refine jm_iast (pc := 29) d_Ne_clear_29 sh_6 ge_6 le_6_78 (fun s5 => ?_)
      refine jm_aload_n (pc := 30) (q := 0) (x := 5) d_Ne_clear_30 rfl ?_
      refine jm_gr (pc := 31) (i := 5) d_Ne_clear_31 fo_Ne_19 sh_5 ge_5 le_5_78 rfl (fun _ => rfl) mr_154_5_2 ge_7 ?_
      refine jm_iload_n (pc := 34) (q := 1) (x := x1) d_Ne_clear_34 rfl ?_
      refine jm_iconst (pc := 35) (v := 0) d_Ne_clear_35 ci_0 ?_
      refine jm_iast (pc := 36) d_Ne_clear_36 sh_7 ge_7 le_7_78 (fun s6 => ?_)
      refine jm_aload_n (pc := 37) (q := 0) (x := 5) d_Ne_clear_37 rfl ?_
      refine jm_gr (pc := 38) (i := 5) d_Ne_clear_38 fo_Ne_22 sh_5 ge_5 le_5_78 rfl (fun _ => rfl) mr_154_5_3 ge_8 ?_
      refine jm_iload_n (pc := 41) (q := 1) (x := x1) d_Ne_clear_41 rfl ?_
      refine jm_iconst (pc := 42) (v := 1) d_Ne_clear_42 ci_1 ?_
      refine jm_iast (pc := 43) d_Ne_clear_43 sh_8 ge_8 le_8_78 (fun s7 => ?_)
      refine jm_aload_n (pc := 44) (q := 0) (x := 5) d_Ne_clear_44 rfl ?_
      refine jm_gr (pc := 45) (i := 5) d_Ne_clear_45 fo_Ne_25 sh_5 ge_5 le_5_78 rfl (fun _ => rfl) mr_154_5_4 ge_9 ?_
      refine jm_iload_n (pc := 48) (q := 1) (x := x1) d_Ne_clear_48 rfl ?_
      refine jm_iconst (pc := 49) (v := 1) d_Ne_clear_49 ci_1 ?_
      refine jm_iast (pc := 50) d_Ne_clear_50 sh_9 ge_9 le_9_78 (fun s8 => ?_)
      refine jm_aload_n (pc := 51) (q := 0) (x := 5) d_Ne_clear_51 rfl ?_
      refine jm_gr (pc := 52) (i := 5) d_Ne_clear_52 fo_Ne_28 sh_5 ge_5 le_5_78 rfl (fun _ => rfl) mr_154_5_5 ge_10 ?_
      refine jm_iload_n (pc := 55) (q := 1) (x := x1) d_Ne_clear_55 rfl ?_
      refine jm_bipush (pc := 56) (v := 99) d_Ne_clear_56 cb_99 ?_
      refine jm_iast (pc := 58) d_Ne_clear_58 sh_10 ge_10 le_10_78 (fun s9 => ?_)
      refine jm_aload_n (pc := 59) (q := 0) (x := 5) d_Ne_clear_59 rfl ?_
      refine jm_gr (pc := 60) (i := 5) d_Ne_clear_60 fo_Ne_31 sh_5 ge_5 le_5_78 rfl (fun _ => rfl) mr_154_5_6 ge_11 ?_
      refine jm_iload_n (pc := 63) (q := 1) (x := x1) d_Ne_clear_63 rfl ?_
      refine jm_iconst (pc := 64) (v := (-1)) d_Ne_clear_64 ci_m1 ?_
      refine jm_iast (pc := 65) d_Ne_clear_65 sh_11 ge_11 le_11_78 (fun s10 => ?_)
      refine jm_aload_n (pc := 66) (q := 0) (x := 5) d_Ne_clear_66 rfl ?_
      refine jm_gr (pc := 67) (i := 5) d_Ne_clear_67 fo_Ne_34 sh_5 ge_5 le_5_78 rfl (fun _ => rfl) mr_154_5_7 ge_12 ?_
      refine jm_iload_n (pc := 70) (q := 1) (x := x1) d_Ne_clear_70 rfl ?_
      refine jm_lconst (pc := 71) (v := 0) d_Ne_clear_71 cl_0 ?_
      refine jm_last (pc := 72) d_Ne_clear_72 sh_12 ge_12 le_12_78 (fun s11 => ?_)
      refine jm_aload_n (pc := 73) (q := 0) (x := 5) d_Ne_clear_73 rfl ?_
      refine jm_gr (pc := 74) (i := 5) d_Ne_clear_74 fo_Ne_38 sh_5 ge_5 le_5_78 rfl (fun _ => rfl) mr_154_5_8 ge_13 ?_
      refine jm_iload_n (pc := 77) (q := 1) (x := x1) d_Ne_clear_77 rfl ?_
      refine jm_lconst (pc := 78) (v := 0) d_Ne_clear_78 cl_0 ?_
      refine jm_last (pc := 79) d_Ne_clear_79 sh_13 ge_13 le_13_78 (fun s12 => ?_)
      refine jm_iinc (pc := 80) (q := 1) (x := x1) (v := 1) (L2 := [(1, .int (x1 + 1)), (0, .ref 5)]) d_Ne_clear_80 rfl ci_1 (Nat.le_of_ble_eq_true rfl) rfl ?_
      refine jm_goto (pc := 83) (tgt := 17) d_Ne_clear_83 (by decide) ?_
      refine jm_sub (L2 := [(0, .ref 5), (1, .int (x1 + 1))]) [1, 0] rfl ?_
      exact ih (x1 + 1) s12
def s_Ne_clear_5 (s : jm_M) : Option jm_M := jm_ev (jm_si s 5 0 0) (fun s1 => jm_ev (jm_si s1 5 10 0) (fun s2 => jm_ev (jm_sl s2 5 11 0) (fun s3 => s_Ne_clear_5_L17 5000 0 s3)))
set_option maxRecDepth 100000 in
set_option maxHeartbeats 4000000 in
theorem s_Ne_clear_5_ok (s : jm_M) : jm_Sim mY_Ne_clear 0 0 0 [(0, .ref 5)] [] 78 mr_154 s (s_Ne_clear_5 s) (jm_rV 78 mr_154) := by
  unfold s_Ne_clear_5
  refine jm_aload_n (pc := 0) (q := 0) (x := 5) d_Ne_clear_0 rfl ?_
  refine jm_iconst (pc := 1) (v := 0) d_Ne_clear_1 ci_0 ?_
  refine jm_pi (pc := 2) (i := 5) d_Ne_clear_2 fp_Ne_9 sh_5 ge_5 le_5_78 rfl rfl rfl (fun _ _ _ => rfl) (fun s1 => ?_)
  refine jm_aload_n (pc := 5) (q := 0) (x := 5) d_Ne_clear_5 rfl ?_
  refine jm_iconst (pc := 6) (v := 0) d_Ne_clear_6 ci_0 ?_
  refine jm_pi (pc := 7) (i := 5) d_Ne_clear_7 fp_Ne_44 sh_5 ge_5 le_5_78 rfl rfl rfl (fun _ _ _ => rfl) (fun s2 => ?_)
  refine jm_aload_n (pc := 10) (q := 0) (x := 5) d_Ne_clear_10 rfl ?_
  refine jm_lconst (pc := 11) (v := 0) d_Ne_clear_11 cl_0 ?_
  refine jm_pl (pc := 12) (i := 5) d_Ne_clear_12 fp_Ne_47 sh_5 ge_5 le_5_78 rfl (fun s3 => ?_)
  refine jm_iconst (pc := 15) (v := 0) d_Ne_clear_15 ci_0 ?_
  refine jm_istore_n (pc := 16) (i := 1) (L2 := [(1, .int 0), (0, .ref 5)]) d_Ne_clear_16 rfl (Nat.le_of_ble_eq_true rfl) rfl ?_
  refine jm_sub (L2 := [(0, .ref 5), (1, .int 0)]) [1, 0] rfl ?_
  exact s_Ne_clear_5_L17_ok 5000 0 s3
theorem d_Re_byteAt_0 : decode (jm_cd mY_Re_byteAt) 0 = .ok (.aload_n 0, 1) := by decide +kernel
theorem d_Re_byteAt_1 : decode (jm_cd mY_Re_byteAt) 1 = .ok (.getfield 19, 3) := by decide +kernel
theorem d_Re_byteAt_4 : decode (jm_cd mY_Re_byteAt) 4 = .ok (.ifCond .lt 29, 3) := by decide +kernel
theorem d_Re_byteAt_7 : decode (jm_cd mY_Re_byteAt) 7 = .ok (.aload_n 0, 1) := by decide +kernel
theorem d_Re_byteAt_8 : decode (jm_cd mY_Re_byteAt) 8 = .ok (.getfield 19, 3) := by decide +kernel
theorem d_Re_byteAt_11 : decode (jm_cd mY_Re_byteAt) 11 = .ok (.iload_n 2, 1) := by decide +kernel
theorem d_Re_byteAt_12 : decode (jm_cd mY_Re_byteAt) 12 = .ok (.if_icmp .ge 21, 3) := by decide +kernel
theorem d_Re_byteAt_15 : decode (jm_cd mY_Re_byteAt) 15 = .ok (.aload_n 0, 1) := by decide +kernel
theorem d_Re_byteAt_16 : decode (jm_cd mY_Re_byteAt) 16 = .ok (.getfield 19, 3) := by decide +kernel
theorem d_Re_byteAt_19 : decode (jm_cd mY_Re_byteAt) 19 = .ok (.aload_n 1, 1) := by decide +kernel
theorem d_Re_byteAt_20 : decode (jm_cd mY_Re_byteAt) 20 = .ok (.arraylength, 1) := by decide +kernel
theorem d_Re_byteAt_21 : decode (jm_cd mY_Re_byteAt) 21 = .ok (.if_icmp .ge 12, 3) := by decide +kernel
theorem d_Re_byteAt_24 : decode (jm_cd mY_Re_byteAt) 24 = .ok (.aload_n 1, 1) := by decide +kernel
theorem d_Re_byteAt_25 : decode (jm_cd mY_Re_byteAt) 25 = .ok (.aload_n 0, 1) := by decide +kernel
theorem d_Re_byteAt_26 : decode (jm_cd mY_Re_byteAt) 26 = .ok (.getfield 19, 3) := by decide +kernel
theorem d_Re_byteAt_29 : decode (jm_cd mY_Re_byteAt) 29 = .ok (.baload, 1) := by decide +kernel
theorem d_Re_byteAt_30 : decode (jm_cd mY_Re_byteAt) 30 = .ok (.goto 4, 3) := by decide +kernel
theorem d_Re_byteAt_33 : decode (jm_cd mY_Re_byteAt) 33 = .ok (.iconst (-1), 1) := by decide +kernel
theorem d_Re_byteAt_34 : decode (jm_cd mY_Re_byteAt) 34 = .ok (.ireturn, 1) := by decide +kernel
def s_Re_byteAt_3_2 (s : jm_M) (a1 : Int32) : Option Int32 := (if (s.1 3 2) < 0 then (some (-1)) else (if a1 ≤ (s.1 3 2) then (some (-1)) else (if 300 ≤ (s.1 3 2) then (some (-1)) else jm_ldi s 2 300 (s.1 3 2) (fun v1 => (some v1)))))
set_option maxRecDepth 100000 in
set_option maxHeartbeats 4000000 in
theorem s_Re_byteAt_3_2_ok (s : jm_M) (a1 : Int32) : jm_Sim mY_Re_byteAt 0 0 0 [(0, .ref 3), (1, .ref 2), (2, .int a1)] [] 78 mr_154 s (s_Re_byteAt_3_2 s a1) (jm_rI 78 mr_154 s) := by
  unfold s_Re_byteAt_3_2
  refine jm_aload_n (pc := 0) (q := 0) (x := 3) d_Re_byteAt_0 rfl ?_
  refine jm_gi (pc := 1) (i := 3) d_Re_byteAt_1 fo_Re_19 sh_3 ge_3 le_3_78 rfl (fun _ => rfl) ?_
  refine jm_if_lt (pc := 4) (tgt := 33) d_Re_byteAt_4 (by decide) ?_ ?_
  · refine jm_iconst (pc := 33) (v := (-1)) d_Re_byteAt_33 ci_m1 ?_
    exact jm_iret (pc := 34) (x := (-1)) d_Re_byteAt_34 rfl rfl rfl rfl rfl
  · refine jm_aload_n (pc := 7) (q := 0) (x := 3) d_Re_byteAt_7 rfl ?_
    refine jm_gi (pc := 8) (i := 3) d_Re_byteAt_8 fo_Re_19 sh_3 ge_3 le_3_78 rfl (fun _ => rfl) ?_
    refine jm_iload_n (pc := 11) (q := 2) (x := a1) d_Re_byteAt_11 rfl ?_
    refine jm_icmp_ge (pc := 12) (tgt := 33) d_Re_byteAt_12 (by decide) ?_ ?_
    · refine jm_iconst (pc := 33) (v := (-1)) d_Re_byteAt_33 ci_m1 ?_
      exact jm_iret (pc := 34) (x := (-1)) d_Re_byteAt_34 rfl rfl rfl rfl rfl
    · refine jm_aload_n (pc := 15) (q := 0) (x := 3) d_Re_byteAt_15 rfl ?_
      refine jm_gi (pc := 16) (i := 3) d_Re_byteAt_16 fo_Re_19 sh_3 ge_3 le_3_78 rfl (fun _ => rfl) ?_
      refine jm_aload_n (pc := 19) (q := 1) (x := 2) d_Re_byteAt_19 rfl ?_
      refine jm_blen (pc := 20) (v := 300) d_Re_byteAt_20 sh_2 ge_2 le_2_78 (by decide) ?_
      refine jm_icmp_ge (pc := 21) (tgt := 33) d_Re_byteAt_21 (by decide) ?_ ?_
      · refine jm_iconst (pc := 33) (v := (-1)) d_Re_byteAt_33 ci_m1 ?_
        exact jm_iret (pc := 34) (x := (-1)) d_Re_byteAt_34 rfl rfl rfl rfl rfl
      · refine jm_aload_n (pc := 24) (q := 1) (x := 2) d_Re_byteAt_24 rfl ?_
        refine jm_aload_n (pc := 25) (q := 0) (x := 3) d_Re_byteAt_25 rfl ?_
        refine jm_gi (pc := 26) (i := 3) d_Re_byteAt_26 fo_Re_19 sh_3 ge_3 le_3_78 rfl (fun _ => rfl) ?_
        refine jm_bald (pc := 29) d_Re_byteAt_29 sh_2 ge_2 le_2_78 (fun v1 => ?_)
        refine jm_goto (pc := 30) (tgt := 34) d_Re_byteAt_30 (by decide) ?_
        exact jm_iret (pc := 34) (x := v1) d_Re_byteAt_34 rfl rfl rfl rfl rfl
theorem d_Re_readNumber_0 : decode (jm_cd mY_Re_readNumber) 0 = .ok (.aload_n 0, 1) := by decide +kernel
theorem d_Re_readNumber_1 : decode (jm_cd mY_Re_readNumber) 1 = .ok (.aload_n 1, 1) := by decide +kernel
theorem d_Re_readNumber_2 : decode (jm_cd mY_Re_readNumber) 2 = .ok (.iload_n 2, 1) := by decide +kernel
theorem d_Re_readNumber_3 : decode (jm_cd mY_Re_readNumber) 3 = .ok (.invokevirtual 48, 3) := by decide +kernel
theorem d_Re_readNumber_6 : decode (jm_cd mY_Re_readNumber) 6 = .ok (.bipush 48, 2) := by decide +kernel
theorem d_Re_readNumber_8 : decode (jm_cd mY_Re_readNumber) 8 = .ok (.isub, 1) := by decide +kernel
theorem d_Re_readNumber_9 : decode (jm_cd mY_Re_readNumber) 9 = .ok (.istore_n 3, 1) := by decide +kernel
theorem d_Re_readNumber_10 : decode (jm_cd mY_Re_readNumber) 10 = .ok (.iload_n 3, 1) := by decide +kernel
theorem d_Re_readNumber_11 : decode (jm_cd mY_Re_readNumber) 11 = .ok (.ifCond .lt 9, 3) := by decide +kernel
theorem d_Re_readNumber_14 : decode (jm_cd mY_Re_readNumber) 14 = .ok (.iload_n 3, 1) := by decide +kernel
theorem d_Re_readNumber_15 : decode (jm_cd mY_Re_readNumber) 15 = .ok (.bipush 9, 2) := by decide +kernel
theorem d_Re_readNumber_17 : decode (jm_cd mY_Re_readNumber) 17 = .ok (.if_icmp .le 5, 3) := by decide +kernel
theorem d_Re_readNumber_20 : decode (jm_cd mY_Re_readNumber) 20 = .ok (.iconst (-1), 1) := by decide +kernel
theorem d_Re_readNumber_21 : decode (jm_cd mY_Re_readNumber) 21 = .ok (.ireturn, 1) := by decide +kernel
theorem d_Re_readNumber_22 : decode (jm_cd mY_Re_readNumber) 22 = .ok (.aload_n 0, 1) := by decide +kernel
theorem d_Re_readNumber_23 : decode (jm_cd mY_Re_readNumber) 23 = .ok (.dup, 1) := by decide +kernel
theorem d_Re_readNumber_24 : decode (jm_cd mY_Re_readNumber) 24 = .ok (.getfield 19, 3) := by decide +kernel
theorem d_Re_readNumber_27 : decode (jm_cd mY_Re_readNumber) 27 = .ok (.iconst 1, 1) := by decide +kernel
theorem d_Re_readNumber_28 : decode (jm_cd mY_Re_readNumber) 28 = .ok (.iadd, 1) := by decide +kernel
theorem d_Re_readNumber_29 : decode (jm_cd mY_Re_readNumber) 29 = .ok (.putfield 19, 3) := by decide +kernel
theorem d_Re_readNumber_32 : decode (jm_cd mY_Re_readNumber) 32 = .ok (.aload_n 0, 1) := by decide +kernel
theorem d_Re_readNumber_33 : decode (jm_cd mY_Re_readNumber) 33 = .ok (.aload_n 1, 1) := by decide +kernel
theorem d_Re_readNumber_34 : decode (jm_cd mY_Re_readNumber) 34 = .ok (.iload_n 2, 1) := by decide +kernel
theorem d_Re_readNumber_35 : decode (jm_cd mY_Re_readNumber) 35 = .ok (.invokevirtual 48, 3) := by decide +kernel
theorem d_Re_readNumber_38 : decode (jm_cd mY_Re_readNumber) 38 = .ok (.bipush 48, 2) := by decide +kernel
theorem d_Re_readNumber_40 : decode (jm_cd mY_Re_readNumber) 40 = .ok (.isub, 1) := by decide +kernel
theorem d_Re_readNumber_41 : decode (jm_cd mY_Re_readNumber) 41 = .ok (.istore 4, 2) := by decide +kernel
theorem d_Re_readNumber_43 : decode (jm_cd mY_Re_readNumber) 43 = .ok (.iload 4, 2) := by decide +kernel
theorem d_Re_readNumber_45 : decode (jm_cd mY_Re_readNumber) 45 = .ok (.ifCond .lt 10, 3) := by decide +kernel
theorem d_Re_readNumber_48 : decode (jm_cd mY_Re_readNumber) 48 = .ok (.iload 4, 2) := by decide +kernel
theorem d_Re_readNumber_50 : decode (jm_cd mY_Re_readNumber) 50 = .ok (.bipush 9, 2) := by decide +kernel
theorem d_Re_readNumber_52 : decode (jm_cd mY_Re_readNumber) 52 = .ok (.if_icmp .le 5, 3) := by decide +kernel
theorem d_Re_readNumber_55 : decode (jm_cd mY_Re_readNumber) 55 = .ok (.iload_n 3, 1) := by decide +kernel
theorem d_Re_readNumber_56 : decode (jm_cd mY_Re_readNumber) 56 = .ok (.ireturn, 1) := by decide +kernel
theorem d_Re_readNumber_57 : decode (jm_cd mY_Re_readNumber) 57 = .ok (.aload_n 0, 1) := by decide +kernel
theorem d_Re_readNumber_58 : decode (jm_cd mY_Re_readNumber) 58 = .ok (.dup, 1) := by decide +kernel
theorem d_Re_readNumber_59 : decode (jm_cd mY_Re_readNumber) 59 = .ok (.getfield 19, 3) := by decide +kernel
theorem d_Re_readNumber_62 : decode (jm_cd mY_Re_readNumber) 62 = .ok (.iconst 1, 1) := by decide +kernel
theorem d_Re_readNumber_63 : decode (jm_cd mY_Re_readNumber) 63 = .ok (.iadd, 1) := by decide +kernel
theorem d_Re_readNumber_64 : decode (jm_cd mY_Re_readNumber) 64 = .ok (.putfield 19, 3) := by decide +kernel
theorem d_Re_readNumber_67 : decode (jm_cd mY_Re_readNumber) 67 = .ok (.bipush 10, 2) := by decide +kernel
theorem d_Re_readNumber_69 : decode (jm_cd mY_Re_readNumber) 69 = .ok (.iload_n 3, 1) := by decide +kernel
theorem d_Re_readNumber_70 : decode (jm_cd mY_Re_readNumber) 70 = .ok (.imul, 1) := by decide +kernel
theorem d_Re_readNumber_71 : decode (jm_cd mY_Re_readNumber) 71 = .ok (.iload 4, 2) := by decide +kernel
theorem d_Re_readNumber_73 : decode (jm_cd mY_Re_readNumber) 73 = .ok (.iadd, 1) := by decide +kernel
theorem d_Re_readNumber_74 : decode (jm_cd mY_Re_readNumber) 74 = .ok (.ireturn, 1) := by decide +kernel
def s_Re_readNumber_3_2 (s : jm_M) (a1 : Int32) : Option (Int32 × jm_M) := jm_bd (s_Re_byteAt_3_2 s a1) (fun v1 => jm_vi (v1 - 48) (fun v2 => (if v2 < 0 then (some ((-1), s)) else (if v2 ≤ 9 then jm_ev (jm_si s 3 2 ((s.1 3 2) + 1)) (fun s3 => jm_bd (s_Re_byteAt_3_2 s3 a1) (fun v4 => jm_vi (v4 - 48) (fun v5 => (if v5 < 0 then (some (v2, s3)) else (if v5 ≤ 9 then jm_ev (jm_si s3 3 2 ((s3.1 3 2) + 1)) (fun s6 => (some ((10 * v2) + v5, s6))) else (some (v2, s3))))))) else (some ((-1), s))))))
set_option maxRecDepth 100000 in
set_option maxHeartbeats 4000000 in
theorem s_Re_readNumber_3_2_ok (s : jm_M) (a1 : Int32) : jm_Sim mY_Re_readNumber 0 0 0 [(0, .ref 3), (1, .ref 2), (2, .int a1)] [] 78 mr_154 s (s_Re_readNumber_3_2 s a1) (jm_rP 78 mr_154) := by
  unfold s_Re_readNumber_3_2
  refine jm_aload_n (pc := 0) (q := 0) (x := 3) d_Re_readNumber_0 rfl ?_
  refine jm_aload_n (pc := 1) (q := 1) (x := 2) d_Re_readNumber_1 rfl ?_
  refine jm_iload_n (pc := 2) (q := 2) (x := a1) d_Re_readNumber_2 rfl ?_
  refine jm_Vp (pc := 3) (Y' := mY_Re_byteAt) (i := 3) (avs := [.ref 2, .int a1]) (rest := []) (s_Re_byteAt_3_2_ok s a1) ok_Re_byteAt l0_Re_readNumber__Re_byteAt ml_Re_48 im_Re_byteAt se_Re_byteAt d_Re_readNumber_3 rfl sh_3 rfl rfl ge_3 le_3_78 rfl (Nat.le_of_ble_eq_true rfl) (Nat.le_of_ble_eq_true rfl) (Nat.le_of_ble_eq_true rfl) (Nat.le_of_ble_eq_true rfl) (fun v1 => ?_)
  refine jm_bipush (pc := 6) (v := 48) d_Re_readNumber_6 cb_48 ?_
  refine jm_isub (pc := 8) d_Re_readNumber_8 ?_
  refine jm_nvi (fun v2 => ?_)
  refine jm_istore_n (pc := 9) (i := 3) (L2 := [(3, .int v2), (0, .ref 3), (1, .ref 2), (2, .int a1)]) d_Re_readNumber_9 rfl (Nat.le_of_ble_eq_true rfl) rfl ?_
  refine jm_iload_n (pc := 10) (q := 0) (x := v2) d_Re_readNumber_10 rfl ?_
  refine jm_if_lt (pc := 11) (tgt := 20) d_Re_readNumber_11 (by decide) ?_ ?_
  · refine jm_iconst (pc := 20) (v := (-1)) d_Re_readNumber_20 ci_m1 ?_
    exact jm_iret (pc := 21) (x := (-1)) d_Re_readNumber_21 rfl rfl rfl rfl rfl
  · refine jm_iload_n (pc := 14) (q := 0) (x := v2) d_Re_readNumber_14 rfl ?_
    refine jm_bipush (pc := 15) (v := 9) d_Re_readNumber_15 cb_9 ?_
    refine jm_icmp_le (pc := 17) (tgt := 22) d_Re_readNumber_17 (by decide) ?_ ?_
    · refine jm_aload_n (pc := 22) (q := 1) (x := 3) d_Re_readNumber_22 rfl ?_
      refine jm_dup (pc := 23) d_Re_readNumber_23 rfl ?_
      refine jm_gi (pc := 24) (i := 3) d_Re_readNumber_24 fo_Re_19 sh_3 ge_3 le_3_78 rfl (fun _ => rfl) ?_
      refine jm_iconst (pc := 27) (v := 1) d_Re_readNumber_27 ci_1 ?_
      refine jm_iadd (pc := 28) d_Re_readNumber_28 ?_
      refine jm_pi (pc := 29) (i := 3) d_Re_readNumber_29 fp_Re_19 sh_3 ge_3 le_3_78 rfl rfl rfl (fun _ _ _ => rfl) (fun s3 => ?_)
      refine jm_aload_n (pc := 32) (q := 1) (x := 3) d_Re_readNumber_32 rfl ?_
      refine jm_aload_n (pc := 33) (q := 2) (x := 2) d_Re_readNumber_33 rfl ?_
      refine jm_iload_n (pc := 34) (q := 3) (x := a1) d_Re_readNumber_34 rfl ?_
      refine jm_Vp (pc := 35) (Y' := mY_Re_byteAt) (i := 3) (avs := [.ref 2, .int a1]) (rest := []) (s_Re_byteAt_3_2_ok s3 a1) ok_Re_byteAt l0_Re_readNumber__Re_byteAt ml_Re_48 im_Re_byteAt se_Re_byteAt d_Re_readNumber_35 rfl sh_3 rfl rfl ge_3 le_3_78 rfl (Nat.le_of_ble_eq_true rfl) (Nat.le_of_ble_eq_true rfl) (Nat.le_of_ble_eq_true rfl) (Nat.le_of_ble_eq_true rfl) (fun v4 => ?_)
      refine jm_bipush (pc := 38) (v := 48) d_Re_readNumber_38 cb_48 ?_
      refine jm_isub (pc := 40) d_Re_readNumber_40 ?_
      refine jm_nvi (fun v5 => ?_)
      refine jm_istore (pc := 41) (L2 := [(4, .int v5), (3, .int v2), (0, .ref 3), (1, .ref 2), (2, .int a1)]) d_Re_readNumber_41 (Nat.le_of_ble_eq_true rfl) rfl ?_
      refine jm_iload (pc := 43) (q := 0) (x := v5) d_Re_readNumber_43 rfl ?_
      refine jm_if_lt (pc := 45) (tgt := 55) d_Re_readNumber_45 (by decide) ?_ ?_
      · refine jm_iload_n (pc := 55) (q := 1) (x := v2) d_Re_readNumber_55 rfl ?_
        exact jm_iret (pc := 56) (x := v2) d_Re_readNumber_56 rfl rfl rfl rfl rfl
      · refine jm_iload (pc := 48) (q := 0) (x := v5) d_Re_readNumber_48 rfl ?_
        refine jm_bipush (pc := 50) (v := 9) d_Re_readNumber_50 cb_9 ?_
        refine jm_icmp_le (pc := 52) (tgt := 57) d_Re_readNumber_52 (by decide) ?_ ?_
        · refine jm_aload_n (pc := 57) (q := 2) (x := 3) d_Re_readNumber_57 rfl ?_
          refine jm_dup (pc := 58) d_Re_readNumber_58 rfl ?_
          refine jm_gi (pc := 59) (i := 3) d_Re_readNumber_59 fo_Re_19 sh_3 ge_3 le_3_78 rfl (fun _ => rfl) ?_
          refine jm_iconst (pc := 62) (v := 1) d_Re_readNumber_62 ci_1 ?_
          refine jm_iadd (pc := 63) d_Re_readNumber_63 ?_
          refine jm_pi (pc := 64) (i := 3) d_Re_readNumber_64 fp_Re_19 sh_3 ge_3 le_3_78 rfl rfl rfl (fun _ _ _ => rfl) (fun s6 => ?_)
          refine jm_bipush (pc := 67) (v := 10) d_Re_readNumber_67 cb_10 ?_
          refine jm_iload_n (pc := 69) (q := 1) (x := v2) d_Re_readNumber_69 rfl ?_
          refine jm_imul (pc := 70) d_Re_readNumber_70 ?_
          refine jm_iload (pc := 71) (q := 0) (x := v5) d_Re_readNumber_71 rfl ?_
          refine jm_iadd (pc := 73) d_Re_readNumber_73 ?_
          exact jm_iret (pc := 74) (x := (10 * v2) + v5) d_Re_readNumber_74 rfl rfl rfl rfl rfl
        · refine jm_iload_n (pc := 55) (q := 1) (x := v2) d_Re_readNumber_55 rfl ?_
          exact jm_iret (pc := 56) (x := v2) d_Re_readNumber_56 rfl rfl rfl rfl rfl
    · refine jm_iconst (pc := 20) (v := (-1)) d_Re_readNumber_20 ci_m1 ?_
      exact jm_iret (pc := 21) (x := (-1)) d_Re_readNumber_21 rfl rfl rfl rfl rfl
theorem d_Re_readItem_0 : decode (jm_cd mY_Re_readItem) 0 = .ok (.aload_n 0, 1) := by decide +kernel
theorem d_Re_readItem_1 : decode (jm_cd mY_Re_readItem) 1 = .ok (.aload_n 0, 1) := by decide +kernel
theorem d_Re_readItem_2 : decode (jm_cd mY_Re_readItem) 2 = .ok (.aload_n 1, 1) := by decide +kernel
theorem d_Re_readItem_3 : decode (jm_cd mY_Re_readItem) 3 = .ok (.iload_n 2, 1) := by decide +kernel
theorem d_Re_readItem_4 : decode (jm_cd mY_Re_readItem) 4 = .ok (.invokevirtual 48, 3) := by decide +kernel
theorem d_Re_readItem_7 : decode (jm_cd mY_Re_readItem) 7 = .ok (.putfield 22, 3) := by decide +kernel
theorem d_Re_readItem_10 : decode (jm_cd mY_Re_readItem) 10 = .ok (.aload_n 0, 1) := by decide +kernel
theorem d_Re_readItem_11 : decode (jm_cd mY_Re_readItem) 11 = .ok (.dup, 1) := by decide +kernel
theorem d_Re_readItem_12 : decode (jm_cd mY_Re_readItem) 12 = .ok (.getfield 19, 3) := by decide +kernel
theorem d_Re_readItem_15 : decode (jm_cd mY_Re_readItem) 15 = .ok (.iconst 1, 1) := by decide +kernel
theorem d_Re_readItem_16 : decode (jm_cd mY_Re_readItem) 16 = .ok (.iadd, 1) := by decide +kernel
theorem d_Re_readItem_17 : decode (jm_cd mY_Re_readItem) 17 = .ok (.putfield 19, 3) := by decide +kernel
theorem d_Re_readItem_20 : decode (jm_cd mY_Re_readItem) 20 = .ok (.aload_n 0, 1) := by decide +kernel
theorem d_Re_readItem_21 : decode (jm_cd mY_Re_readItem) 21 = .ok (.iconst 0, 1) := by decide +kernel
theorem d_Re_readItem_22 : decode (jm_cd mY_Re_readItem) 22 = .ok (.putfield 15, 3) := by decide +kernel
theorem d_Re_readItem_25 : decode (jm_cd mY_Re_readItem) 25 = .ok (.iconst 0, 1) := by decide +kernel
theorem d_Re_readItem_26 : decode (jm_cd mY_Re_readItem) 26 = .ok (.istore_n 3, 1) := by decide +kernel
theorem d_Re_readItem_27 : decode (jm_cd mY_Re_readItem) 27 = .ok (.iload_n 3, 1) := by decide +kernel
theorem d_Re_readItem_28 : decode (jm_cd mY_Re_readItem) 28 = .ok (.iconst 4, 1) := by decide +kernel
theorem d_Re_readItem_29 : decode (jm_cd mY_Re_readItem) 29 = .ok (.if_icmp .ge 75, 3) := by decide +kernel
theorem d_Re_readItem_32 : decode (jm_cd mY_Re_readItem) 32 = .ok (.aload_n 0, 1) := by decide +kernel
theorem d_Re_readItem_33 : decode (jm_cd mY_Re_readItem) 33 = .ok (.aload_n 1, 1) := by decide +kernel
theorem d_Re_readItem_34 : decode (jm_cd mY_Re_readItem) 34 = .ok (.iload_n 2, 1) := by decide +kernel
theorem d_Re_readItem_35 : decode (jm_cd mY_Re_readItem) 35 = .ok (.invokevirtual 52, 3) := by decide +kernel
theorem d_Re_readItem_38 : decode (jm_cd mY_Re_readItem) 38 = .ok (.istore 4, 2) := by decide +kernel
theorem d_Re_readItem_40 : decode (jm_cd mY_Re_readItem) 40 = .ok (.iload 4, 2) := by decide +kernel
theorem d_Re_readItem_42 : decode (jm_cd mY_Re_readItem) 42 = .ok (.ifCond .ge 5, 3) := by decide +kernel
theorem d_Re_readItem_45 : decode (jm_cd mY_Re_readItem) 45 = .ok (.iconst 0, 1) := by decide +kernel
theorem d_Re_readItem_46 : decode (jm_cd mY_Re_readItem) 46 = .ok (.ireturn, 1) := by decide +kernel
theorem d_Re_readItem_47 : decode (jm_cd mY_Re_readItem) 47 = .ok (.aload_n 0, 1) := by decide +kernel
theorem d_Re_readItem_48 : decode (jm_cd mY_Re_readItem) 48 = .ok (.getfield 11, 3) := by decide +kernel
theorem d_Re_readItem_51 : decode (jm_cd mY_Re_readItem) 51 = .ok (.iload_n 3, 1) := by decide +kernel
theorem d_Re_readItem_52 : decode (jm_cd mY_Re_readItem) 52 = .ok (.iload 4, 2) := by decide +kernel
theorem d_Re_readItem_54 : decode (jm_cd mY_Re_readItem) 54 = .ok (.iastore, 1) := by decide +kernel
theorem d_Re_readItem_55 : decode (jm_cd mY_Re_readItem) 55 = .ok (.aload_n 0, 1) := by decide +kernel
theorem d_Re_readItem_56 : decode (jm_cd mY_Re_readItem) 56 = .ok (.iload_n 3, 1) := by decide +kernel
theorem d_Re_readItem_57 : decode (jm_cd mY_Re_readItem) 57 = .ok (.iconst 1, 1) := by decide +kernel
theorem d_Re_readItem_58 : decode (jm_cd mY_Re_readItem) 58 = .ok (.iadd, 1) := by decide +kernel
theorem d_Re_readItem_59 : decode (jm_cd mY_Re_readItem) 59 = .ok (.putfield 15, 3) := by decide +kernel
theorem d_Re_readItem_62 : decode (jm_cd mY_Re_readItem) 62 = .ok (.aload_n 0, 1) := by decide +kernel
theorem d_Re_readItem_63 : decode (jm_cd mY_Re_readItem) 63 = .ok (.aload_n 1, 1) := by decide +kernel
theorem d_Re_readItem_64 : decode (jm_cd mY_Re_readItem) 64 = .ok (.iload_n 2, 1) := by decide +kernel
theorem d_Re_readItem_65 : decode (jm_cd mY_Re_readItem) 65 = .ok (.invokevirtual 48, 3) := by decide +kernel
theorem d_Re_readItem_68 : decode (jm_cd mY_Re_readItem) 68 = .ok (.istore 5, 2) := by decide +kernel
theorem d_Re_readItem_70 : decode (jm_cd mY_Re_readItem) 70 = .ok (.aload_n 0, 1) := by decide +kernel
theorem d_Re_readItem_71 : decode (jm_cd mY_Re_readItem) 71 = .ok (.dup, 1) := by decide +kernel
theorem d_Re_readItem_72 : decode (jm_cd mY_Re_readItem) 72 = .ok (.getfield 19, 3) := by decide +kernel
theorem d_Re_readItem_75 : decode (jm_cd mY_Re_readItem) 75 = .ok (.iconst 1, 1) := by decide +kernel
theorem d_Re_readItem_76 : decode (jm_cd mY_Re_readItem) 76 = .ok (.iadd, 1) := by decide +kernel
theorem d_Re_readItem_77 : decode (jm_cd mY_Re_readItem) 77 = .ok (.putfield 19, 3) := by decide +kernel
theorem d_Re_readItem_80 : decode (jm_cd mY_Re_readItem) 80 = .ok (.iload 5, 2) := by decide +kernel
theorem d_Re_readItem_82 : decode (jm_cd mY_Re_readItem) 82 = .ok (.bipush 59, 2) := by decide +kernel
theorem d_Re_readItem_84 : decode (jm_cd mY_Re_readItem) 84 = .ok (.if_icmp .ne 5, 3) := by decide +kernel
theorem d_Re_readItem_87 : decode (jm_cd mY_Re_readItem) 87 = .ok (.iconst 1, 1) := by decide +kernel
theorem d_Re_readItem_88 : decode (jm_cd mY_Re_readItem) 88 = .ok (.ireturn, 1) := by decide +kernel
theorem d_Re_readItem_89 : decode (jm_cd mY_Re_readItem) 89 = .ok (.iload 5, 2) := by decide +kernel
theorem d_Re_readItem_91 : decode (jm_cd mY_Re_readItem) 91 = .ok (.bipush 44, 2) := by decide +kernel
theorem d_Re_readItem_93 : decode (jm_cd mY_Re_readItem) 93 = .ok (.if_icmp .eq 5, 3) := by decide +kernel
theorem d_Re_readItem_96 : decode (jm_cd mY_Re_readItem) 96 = .ok (.iconst 0, 1) := by decide +kernel
theorem d_Re_readItem_97 : decode (jm_cd mY_Re_readItem) 97 = .ok (.ireturn, 1) := by decide +kernel
theorem d_Re_readItem_98 : decode (jm_cd mY_Re_readItem) 98 = .ok (.iinc 3 1, 3) := by decide +kernel
theorem d_Re_readItem_101 : decode (jm_cd mY_Re_readItem) 101 = .ok (.goto (-74), 3) := by decide +kernel
theorem d_Re_readItem_104 : decode (jm_cd mY_Re_readItem) 104 = .ok (.iconst 0, 1) := by decide +kernel
theorem d_Re_readItem_105 : decode (jm_cd mY_Re_readItem) 105 = .ok (.ireturn, 1) := by decide +kernel
def s_Re_readItem_3_2_L27 : Nat → Int32 → Int32 → jm_M → Option (Int32 × jm_M)
  | 0, _, _, _ => none
  | n + 1, x2, x3, s => (if 4 ≤ x3 then (some (0, s)) else jm_b2 (s_Re_readNumber_3_2 s x2) (fun v5 s6 => (if 0 ≤ v5 then jm_sti s6 4 4 x3 v5 (fun s7 => jm_ev (jm_si s7 3 1 (x3 + 1)) (fun s8 => jm_bd (s_Re_byteAt_3_2 s8 x2) (fun v9 => jm_ev (jm_si s8 3 2 ((s8.1 3 2) + 1)) (fun s10 => (if v9 = 59 then (some (1, s10)) else (if v9 = 44 then s_Re_readItem_3_2_L27 n x2 (x3 + 1) s10 else (some (0, s10)))))))) else (some (0, s6)))))
set_option maxRecDepth 100000 in
set_option maxHeartbeats 4000000 in
theorem s_Re_readItem_3_2_L27_ok : ∀ (n : Nat) (x2 : Int32) (x3 : Int32) (s : jm_M), jm_Sim mY_Re_readItem 0 0 27 [(0, .ref 3), (1, .ref 2), (2, .int x2), (3, .int x3)] [] 78 mr_154 s (s_Re_readItem_3_2_L27 n x2 x3 s) (jm_rP 78 mr_154) := by
  intro n
  induction n with
  | zero => intro x2 x3 s; exact jm_none
  | succ n ih =>
    intro x2 x3 s
    rw [s_Re_readItem_3_2_L27]
    refine jm_iload_n (pc := 27) (q := 3) (x := x3) d_Re_readItem_27 rfl ?_
    refine jm_iconst (pc := 28) (v := 4) d_Re_readItem_28 ci_4 ?_
    refine jm_icmp_ge (pc := 29) (tgt := 104) d_Re_readItem_29 (by decide) ?_ ?_
    · refine jm_iconst (pc := 104) (v := 0) d_Re_readItem_104 ci_0 ?_
      exact jm_iret (pc := 105) (x := 0) d_Re_readItem_105 rfl (by decide) rfl rfl rfl
    · refine jm_aload_n (pc := 32) (q := 0) (x := 3) d_Re_readItem_32 rfl ?_
      refine jm_aload_n (pc := 33) (q := 1) (x := 2) d_Re_readItem_33 rfl ?_
      refine jm_iload_n (pc := 34) (q := 2) (x := x2) d_Re_readItem_34 rfl ?_
      refine jm_Vi (pc := 35) (Y' := mY_Re_readNumber) (i := 3) (avs := [.ref 2, .int x2]) (rest := []) (s_Re_readNumber_3_2_ok s x2) ok_Re_readNumber l0_Re_readItem__Re_readNumber ml_Re_52 im_Re_readNumber se_Re_readNumber d_Re_readItem_35 rfl sh_3 rfl rfl ge_3 le_3_78 rfl (Nat.le_of_ble_eq_true rfl) (Nat.le_of_ble_eq_true rfl) (Nat.le_of_ble_eq_true rfl) (Nat.le_of_ble_eq_true rfl) (fun v5 s6 => ?_)
      refine jm_istore (pc := 38) (L2 := [(4, .int v5), (0, .ref 3), (1, .ref 2), (2, .int x2), (3, .int x3)]) d_Re_readItem_38 (Nat.le_of_ble_eq_true rfl) rfl ?_
      refine jm_iload (pc := 40) (q := 0) (x := v5) d_Re_readItem_40 rfl ?_
      refine jm_if_ge (pc := 42) (tgt := 47) d_Re_readItem_42 (by decide) ?_ ?_
      · refine jm_aload_n (pc := 47) (q := 1) (x := 3) d_Re_readItem_47 rfl ?_
        refine jm_gr (pc := 48) (i := 3) d_Re_readItem_48 fo_Re_11 sh_3 ge_3 le_3_78 rfl (fun _ => rfl) mr_154_3_0 ge_4 ?_
        refine jm_iload_n (pc := 51) (q := 4) (x := x3) d_Re_readItem_51 rfl ?_
        refine jm_iload (pc := 52) (q := 0) (x := v5) d_Re_readItem_52 rfl ?_
        refine jm_iast (pc := 54) d_Re_readItem_54 sh_4 ge_4 le_4_78 (fun s7 => ?_)
        refine jm_aload_n (pc := 55) (q := 1) (x := 3) d_Re_readItem_55 rfl ?_
        refine jm_iload_n (pc := 56) (q := 4) (x := x3) d_Re_readItem_56 rfl ?_
        refine jm_iconst (pc := 57) (v := 1) d_Re_readItem_57 ci_1 ?_
        refine jm_iadd (pc := 58) d_Re_readItem_58 ?_
        refine jm_pi (pc := 59) (i := 3) d_Re_readItem_59 fp_Re_15 sh_3 ge_3 le_3_78 rfl rfl rfl (fun _ _ _ => rfl) (fun s8 => ?_)
        refine jm_aload_n (pc := 62) (q := 1) (x := 3) d_Re_readItem_62 rfl ?_
        refine jm_aload_n (pc := 63) (q := 2) (x := 2) d_Re_readItem_63 rfl ?_
        refine jm_iload_n (pc := 64) (q := 3) (x := x2) d_Re_readItem_64 rfl ?_
        refine jm_Vp (pc := 65) (Y' := mY_Re_byteAt) (i := 3) (avs := [.ref 2, .int x2]) (rest := []) (s_Re_byteAt_3_2_ok s8 x2) ok_Re_byteAt l0_Re_readItem__Re_byteAt ml_Re_48 im_Re_byteAt se_Re_byteAt d_Re_readItem_65 rfl sh_3 rfl rfl ge_3 le_3_78 rfl (Nat.le_of_ble_eq_true rfl) (Nat.le_of_ble_eq_true rfl) (Nat.le_of_ble_eq_true rfl) (Nat.le_of_ble_eq_true rfl) (fun v9 => ?_)
        refine jm_istore (pc := 68) (L2 := [(5, .int v9), (4, .int v5), (0, .ref 3), (1, .ref 2), (2, .int x2), (3, .int x3)]) d_Re_readItem_68 (Nat.le_of_ble_eq_true rfl) rfl ?_
        refine jm_aload_n (pc := 70) (q := 2) (x := 3) d_Re_readItem_70 rfl ?_
        refine jm_dup (pc := 71) d_Re_readItem_71 rfl ?_
        refine jm_gi (pc := 72) (i := 3) d_Re_readItem_72 fo_Re_19 sh_3 ge_3 le_3_78 rfl (fun _ => rfl) ?_
        refine jm_iconst (pc := 75) (v := 1) d_Re_readItem_75 ci_1 ?_
        refine jm_iadd (pc := 76) d_Re_readItem_76 ?_
        refine jm_pi (pc := 77) (i := 3) d_Re_readItem_77 fp_Re_19 sh_3 ge_3 le_3_78 rfl rfl rfl (fun _ _ _ => rfl) (fun s10 => ?_)
        refine jm_iload (pc := 80) (q := 0) (x := v9) d_Re_readItem_80 rfl ?_
        refine jm_bipush (pc := 82) (v := 59) d_Re_readItem_82 cb_59 ?_
        refine jm_icmp_ne (pc := 84) (tgt := 89) d_Re_readItem_84 (by decide) ?_ ?_
        · refine jm_iconst (pc := 87) (v := 1) d_Re_readItem_87 ci_1 ?_
          exact jm_iret (pc := 88) (x := 1) d_Re_readItem_88 rfl (by decide) rfl rfl rfl
        · refine jm_iload (pc := 89) (q := 0) (x := v9) d_Re_readItem_89 rfl ?_
          refine jm_bipush (pc := 91) (v := 44) d_Re_readItem_91 cb_44 ?_
          refine jm_icmp_eq (pc := 93) (tgt := 98) d_Re_readItem_93 (by decide) ?_ ?_
          · refine jm_iinc (pc := 98) (q := 5) (x := x3) (v := 1) (L2 := [(3, .int (x3 + 1)), (5, .int v9), (4, .int v5), (0, .ref 3), (1, .ref 2), (2, .int x2)]) d_Re_readItem_98 rfl ci_1 (Nat.le_of_ble_eq_true rfl) rfl ?_
            refine jm_goto (pc := 101) (tgt := 27) d_Re_readItem_101 (by decide) ?_
            refine jm_sub (L2 := [(0, .ref 3), (1, .ref 2), (2, .int x2), (3, .int (x3 + 1))]) [3, 4, 5, 0] rfl ?_
            exact ih x2 (x3 + 1) s10
          · refine jm_iconst (pc := 96) (v := 0) d_Re_readItem_96 ci_0 ?_
            exact jm_iret (pc := 97) (x := 0) d_Re_readItem_97 rfl (by decide) rfl rfl rfl
      · refine jm_iconst (pc := 45) (v := 0) d_Re_readItem_45 ci_0 ?_
        exact jm_iret (pc := 46) (x := 0) d_Re_readItem_46 rfl (by decide) rfl rfl rfl
def s_Re_readItem_3_2 (s : jm_M) (a1 : Int32) : Option (Int32 × jm_M) := jm_bd (s_Re_byteAt_3_2 s a1) (fun v1 => jm_ev (jm_si s 3 3 v1) (fun s2 => jm_ev (jm_si s2 3 2 ((s2.1 3 2) + 1)) (fun s3 => jm_ev (jm_si s3 3 1 0) (fun s4 => s_Re_readItem_3_2_L27 5000 a1 0 s4))))
set_option maxRecDepth 100000 in
set_option maxHeartbeats 4000000 in
theorem s_Re_readItem_3_2_ok (s : jm_M) (a1 : Int32) : jm_Sim mY_Re_readItem 0 0 0 [(0, .ref 3), (1, .ref 2), (2, .int a1)] [] 78 mr_154 s (s_Re_readItem_3_2 s a1) (jm_rP 78 mr_154) := by
  unfold s_Re_readItem_3_2
  refine jm_aload_n (pc := 0) (q := 0) (x := 3) d_Re_readItem_0 rfl ?_
  refine jm_aload_n (pc := 1) (q := 0) (x := 3) d_Re_readItem_1 rfl ?_
  refine jm_aload_n (pc := 2) (q := 1) (x := 2) d_Re_readItem_2 rfl ?_
  refine jm_iload_n (pc := 3) (q := 2) (x := a1) d_Re_readItem_3 rfl ?_
  refine jm_Vp (pc := 4) (Y' := mY_Re_byteAt) (i := 3) (avs := [.ref 2, .int a1]) (rest := [.ref 3]) (s_Re_byteAt_3_2_ok s a1) ok_Re_byteAt l0_Re_readItem__Re_byteAt ml_Re_48 im_Re_byteAt se_Re_byteAt d_Re_readItem_4 rfl sh_3 rfl rfl ge_3 le_3_78 rfl (Nat.le_of_ble_eq_true rfl) (Nat.le_of_ble_eq_true rfl) (Nat.le_of_ble_eq_true rfl) (Nat.le_of_ble_eq_true rfl) (fun v1 => ?_)
  refine jm_pi (pc := 7) (i := 3) d_Re_readItem_7 fp_Re_22 sh_3 ge_3 le_3_78 rfl rfl rfl (fun _ _ _ => rfl) (fun s2 => ?_)
  refine jm_aload_n (pc := 10) (q := 0) (x := 3) d_Re_readItem_10 rfl ?_
  refine jm_dup (pc := 11) d_Re_readItem_11 rfl ?_
  refine jm_gi (pc := 12) (i := 3) d_Re_readItem_12 fo_Re_19 sh_3 ge_3 le_3_78 rfl (fun _ => rfl) ?_
  refine jm_iconst (pc := 15) (v := 1) d_Re_readItem_15 ci_1 ?_
  refine jm_iadd (pc := 16) d_Re_readItem_16 ?_
  refine jm_pi (pc := 17) (i := 3) d_Re_readItem_17 fp_Re_19 sh_3 ge_3 le_3_78 rfl rfl rfl (fun _ _ _ => rfl) (fun s3 => ?_)
  refine jm_aload_n (pc := 20) (q := 0) (x := 3) d_Re_readItem_20 rfl ?_
  refine jm_iconst (pc := 21) (v := 0) d_Re_readItem_21 ci_0 ?_
  refine jm_pi (pc := 22) (i := 3) d_Re_readItem_22 fp_Re_15 sh_3 ge_3 le_3_78 rfl rfl rfl (fun _ _ _ => rfl) (fun s4 => ?_)
  refine jm_iconst (pc := 25) (v := 0) d_Re_readItem_25 ci_0 ?_
  refine jm_istore_n (pc := 26) (i := 3) (L2 := [(3, .int 0), (0, .ref 3), (1, .ref 2), (2, .int a1)]) d_Re_readItem_26 rfl (Nat.le_of_ble_eq_true rfl) rfl ?_
  refine jm_sub (L2 := [(0, .ref 3), (1, .ref 2), (2, .int a1), (3, .int 0)]) [1, 2, 3, 0] rfl ?_
  exact s_Re_readItem_3_2_L27_ok 5000 a1 0 s4
theorem d_Ne_isHill_0 : decode (jm_cd mY_Ne_isHill) 0 = .ok (.iload_n 1, 1) := by decide +kernel
theorem d_Ne_isHill_1 : decode (jm_cd mY_Ne_isHill) 1 = .ok (.ifCond .lt 21, 3) := by decide +kernel
theorem d_Ne_isHill_4 : decode (jm_cd mY_Ne_isHill) 4 = .ok (.iload_n 1, 1) := by decide +kernel
theorem d_Ne_isHill_5 : decode (jm_cd mY_Ne_isHill) 5 = .ok (.aload_n 0, 1) := by decide +kernel
theorem d_Ne_isHill_6 : decode (jm_cd mY_Ne_isHill) 6 = .ok (.getfield 9, 3) := by decide +kernel
theorem d_Ne_isHill_9 : decode (jm_cd mY_Ne_isHill) 9 = .ok (.if_icmp .ge 13, 3) := by decide +kernel
theorem d_Ne_isHill_12 : decode (jm_cd mY_Ne_isHill) 12 = .ok (.iload_n 1, 1) := by decide +kernel
theorem d_Ne_isHill_13 : decode (jm_cd mY_Ne_isHill) 13 = .ok (.bipush 10, 2) := by decide +kernel
theorem d_Ne_isHill_15 : decode (jm_cd mY_Ne_isHill) 15 = .ok (.if_icmp .ge 7, 3) := by decide +kernel
theorem d_Ne_isHill_18 : decode (jm_cd mY_Ne_isHill) 18 = .ok (.iconst 1, 1) := by decide +kernel
theorem d_Ne_isHill_19 : decode (jm_cd mY_Ne_isHill) 19 = .ok (.goto 4, 3) := by decide +kernel
theorem d_Ne_isHill_22 : decode (jm_cd mY_Ne_isHill) 22 = .ok (.iconst 0, 1) := by decide +kernel
theorem d_Ne_isHill_23 : decode (jm_cd mY_Ne_isHill) 23 = .ok (.ireturn, 1) := by decide +kernel
def s_Ne_isHill_5 (s : jm_M) (a0 : Int32) : Option Int32 := (if a0 < 0 then (some 0) else (if (s.1 5 0) ≤ a0 then (some 0) else (if 10 ≤ a0 then (some 0) else (some 1))))
set_option maxRecDepth 100000 in
set_option maxHeartbeats 4000000 in
theorem s_Ne_isHill_5_ok (s : jm_M) (a0 : Int32) : jm_Sim mY_Ne_isHill 0 0 0 [(0, .ref 5), (1, .int a0)] [] 78 mr_154 s (s_Ne_isHill_5 s a0) (jm_rI 78 mr_154 s) := by
  unfold s_Ne_isHill_5
  refine jm_iload_n (pc := 0) (q := 1) (x := a0) d_Ne_isHill_0 rfl ?_
  refine jm_if_lt (pc := 1) (tgt := 22) d_Ne_isHill_1 (by decide) ?_ ?_
  · refine jm_iconst (pc := 22) (v := 0) d_Ne_isHill_22 ci_0 ?_
    exact jm_iret (pc := 23) (x := 0) d_Ne_isHill_23 rfl (by decide) rfl rfl rfl
  · refine jm_iload_n (pc := 4) (q := 1) (x := a0) d_Ne_isHill_4 rfl ?_
    refine jm_aload_n (pc := 5) (q := 0) (x := 5) d_Ne_isHill_5 rfl ?_
    refine jm_gi (pc := 6) (i := 5) d_Ne_isHill_6 fo_Ne_9 sh_5 ge_5 le_5_78 rfl (fun _ => rfl) ?_
    refine jm_icmp_ge (pc := 9) (tgt := 22) d_Ne_isHill_9 (by decide) ?_ ?_
    · refine jm_iconst (pc := 22) (v := 0) d_Ne_isHill_22 ci_0 ?_
      exact jm_iret (pc := 23) (x := 0) d_Ne_isHill_23 rfl (by decide) rfl rfl rfl
    · refine jm_iload_n (pc := 12) (q := 1) (x := a0) d_Ne_isHill_12 rfl ?_
      refine jm_bipush (pc := 13) (v := 10) d_Ne_isHill_13 cb_10 ?_
      refine jm_icmp_ge (pc := 15) (tgt := 22) d_Ne_isHill_15 (by decide) ?_ ?_
      · refine jm_iconst (pc := 22) (v := 0) d_Ne_isHill_22 ci_0 ?_
        exact jm_iret (pc := 23) (x := 0) d_Ne_isHill_23 rfl (by decide) rfl rfl rfl
      · refine jm_iconst (pc := 18) (v := 1) d_Ne_isHill_18 ci_1 ?_
        refine jm_goto (pc := 19) (tgt := 23) d_Ne_isHill_19 (by decide) ?_
        exact jm_iret (pc := 23) (x := 1) d_Ne_isHill_23 rfl (by decide) rfl rfl rfl
theorem d_Re_isSight_0 : decode (jm_cd mY_Re_isSight) 0 = .ok (.aload_n 0, 1) := by decide +kernel
theorem d_Re_isSight_1 : decode (jm_cd mY_Re_isSight) 1 = .ok (.iload_n 1, 1) := by decide +kernel
theorem d_Re_isSight_2 : decode (jm_cd mY_Re_isSight) 2 = .ok (.invokevirtual 58, 3) := by decide +kernel
theorem d_Re_isSight_5 : decode (jm_cd mY_Re_isSight) 5 = .ok (.ifCond .eq 28, 3) := by decide +kernel
theorem d_Re_isSight_8 : decode (jm_cd mY_Re_isSight) 8 = .ok (.aload_n 0, 1) := by decide +kernel
theorem d_Re_isSight_9 : decode (jm_cd mY_Re_isSight) 9 = .ok (.iload_n 2, 1) := by decide +kernel
theorem d_Re_isSight_10 : decode (jm_cd mY_Re_isSight) 10 = .ok (.invokevirtual 58, 3) := by decide +kernel
theorem d_Re_isSight_13 : decode (jm_cd mY_Re_isSight) 13 = .ok (.ifCond .eq 20, 3) := by decide +kernel
theorem d_Re_isSight_16 : decode (jm_cd mY_Re_isSight) 16 = .ok (.aload_n 0, 1) := by decide +kernel
theorem d_Re_isSight_17 : decode (jm_cd mY_Re_isSight) 17 = .ok (.getfield 94, 3) := by decide +kernel
theorem d_Re_isSight_20 : decode (jm_cd mY_Re_isSight) 20 = .ok (.iload_n 1, 1) := by decide +kernel
theorem d_Re_isSight_21 : decode (jm_cd mY_Re_isSight) 21 = .ok (.iaload, 1) := by decide +kernel
theorem d_Re_isSight_22 : decode (jm_cd mY_Re_isSight) 22 = .ok (.iload_n 2, 1) := by decide +kernel
theorem d_Re_isSight_23 : decode (jm_cd mY_Re_isSight) 23 = .ok (.ishr, 1) := by decide +kernel
theorem d_Re_isSight_24 : decode (jm_cd mY_Re_isSight) 24 = .ok (.iconst 1, 1) := by decide +kernel
theorem d_Re_isSight_25 : decode (jm_cd mY_Re_isSight) 25 = .ok (.iand, 1) := by decide +kernel
theorem d_Re_isSight_26 : decode (jm_cd mY_Re_isSight) 26 = .ok (.ifCond .eq 7, 3) := by decide +kernel
theorem d_Re_isSight_29 : decode (jm_cd mY_Re_isSight) 29 = .ok (.iconst 1, 1) := by decide +kernel
theorem d_Re_isSight_30 : decode (jm_cd mY_Re_isSight) 30 = .ok (.goto 4, 3) := by decide +kernel
theorem d_Re_isSight_33 : decode (jm_cd mY_Re_isSight) 33 = .ok (.iconst 0, 1) := by decide +kernel
theorem d_Re_isSight_34 : decode (jm_cd mY_Re_isSight) 34 = .ok (.ireturn, 1) := by decide +kernel
def s_Re_isSight (s : jm_M) (a1 : Int32) (a2 : Int32) : Option Int32 := jm_bd (s_Ne_isHill_5 s a1) (fun v1 => (if v1 = 0 then (some 0) else jm_bd (s_Ne_isHill_5 s a2) (fun v2 => (if v2 = 0 then (some 0) else jm_ldi s 7 10 a1 (fun v3 => (if ((v3 >>> (a2 &&& 31)) &&& 1) = 0 then (some 0) else (some 1)))))))
set_option maxRecDepth 100000 in
set_option maxHeartbeats 4000000 in
theorem s_Re_isSight_ok (s : jm_M) (a1 : Int32) (a2 : Int32) : jm_Sim mY_Re_isSight 0 0 0 [(0, .ref 5), (1, .int a1), (2, .int a2)] [] 78 mr_154 s (s_Re_isSight s a1 a2) (jm_rI 78 mr_154 s) := by
  unfold s_Re_isSight
  refine jm_aload_n (pc := 0) (q := 0) (x := 5) d_Re_isSight_0 rfl ?_
  refine jm_iload_n (pc := 1) (q := 1) (x := a1) d_Re_isSight_1 rfl ?_
  refine jm_Vp (pc := 2) (Y' := mY_Ne_isHill) (i := 5) (avs := [.int a1]) (rest := []) (s_Ne_isHill_5_ok s a1) ok_Ne_isHill l0_Re_isSight__Ne_isHill ml_Re_58 im_Ne_isHill se_Ne_isHill d_Re_isSight_2 rfl sh_5 rfl rfl ge_5 le_5_78 rfl (Nat.le_of_ble_eq_true rfl) (Nat.le_of_ble_eq_true rfl) (Nat.le_of_ble_eq_true rfl) (Nat.le_of_ble_eq_true rfl) (fun v1 => ?_)
  refine jm_if_eq (pc := 5) (tgt := 33) d_Re_isSight_5 (by decide) ?_ ?_
  · refine jm_iconst (pc := 33) (v := 0) d_Re_isSight_33 ci_0 ?_
    exact jm_iret (pc := 34) (x := 0) d_Re_isSight_34 rfl (by decide) rfl rfl rfl
  · refine jm_aload_n (pc := 8) (q := 0) (x := 5) d_Re_isSight_8 rfl ?_
    refine jm_iload_n (pc := 9) (q := 2) (x := a2) d_Re_isSight_9 rfl ?_
    refine jm_Vp (pc := 10) (Y' := mY_Ne_isHill) (i := 5) (avs := [.int a2]) (rest := []) (s_Ne_isHill_5_ok s a2) ok_Ne_isHill l0_Re_isSight__Ne_isHill ml_Re_58 im_Ne_isHill se_Ne_isHill d_Re_isSight_10 rfl sh_5 rfl rfl ge_5 le_5_78 rfl (Nat.le_of_ble_eq_true rfl) (Nat.le_of_ble_eq_true rfl) (Nat.le_of_ble_eq_true rfl) (Nat.le_of_ble_eq_true rfl) (fun v2 => ?_)
    refine jm_if_eq (pc := 13) (tgt := 33) d_Re_isSight_13 (by decide) ?_ ?_
    · refine jm_iconst (pc := 33) (v := 0) d_Re_isSight_33 ci_0 ?_
      exact jm_iret (pc := 34) (x := 0) d_Re_isSight_34 rfl (by decide) rfl rfl rfl
    · refine jm_aload_n (pc := 16) (q := 0) (x := 5) d_Re_isSight_16 rfl ?_
      refine jm_gr (pc := 17) (i := 5) d_Re_isSight_17 fo_Re_94 sh_5 ge_5 le_5_78 rfl (fun _ => rfl) mr_154_5_2 ge_7 ?_
      refine jm_iload_n (pc := 20) (q := 1) (x := a1) d_Re_isSight_20 rfl ?_
      refine jm_iald (pc := 21) d_Re_isSight_21 sh_7 ge_7 le_7_78 (fun v3 => ?_)
      refine jm_iload_n (pc := 22) (q := 2) (x := a2) d_Re_isSight_22 rfl ?_
      refine jm_ishr (pc := 23) d_Re_isSight_23 ?_
      refine jm_iconst (pc := 24) (v := 1) d_Re_isSight_24 ci_1 ?_
      refine jm_iand (pc := 25) d_Re_isSight_25 ?_
      refine jm_if_eq (pc := 26) (tgt := 33) d_Re_isSight_26 (by decide) ?_ ?_
      · refine jm_iconst (pc := 33) (v := 0) d_Re_isSight_33 ci_0 ?_
        exact jm_iret (pc := 34) (x := 0) d_Re_isSight_34 rfl (by decide) rfl rfl rfl
      · refine jm_iconst (pc := 29) (v := 1) d_Re_isSight_29 ci_1 ?_
        refine jm_goto (pc := 30) (tgt := 34) d_Re_isSight_30 (by decide) ?_
        exact jm_iret (pc := 34) (x := 1) d_Re_isSight_34 rfl (by decide) rfl rfl rfl
theorem d_X_isMinute_0 : decode (jm_cd mY_X_isMinute) 0 = .ok (.iload_n 0, 1) := by decide +kernel
theorem d_X_isMinute_1 : decode (jm_cd mY_X_isMinute) 1 = .ok (.ifCond .lt 13, 3) := by decide +kernel
theorem d_X_isMinute_4 : decode (jm_cd mY_X_isMinute) 4 = .ok (.iload_n 0, 1) := by decide +kernel
theorem d_X_isMinute_5 : decode (jm_cd mY_X_isMinute) 5 = .ok (.bipush 60, 2) := by decide +kernel
theorem d_X_isMinute_7 : decode (jm_cd mY_X_isMinute) 7 = .ok (.if_icmp .ge 7, 3) := by decide +kernel
theorem d_X_isMinute_10 : decode (jm_cd mY_X_isMinute) 10 = .ok (.iconst 1, 1) := by decide +kernel
theorem d_X_isMinute_11 : decode (jm_cd mY_X_isMinute) 11 = .ok (.goto 4, 3) := by decide +kernel
theorem d_X_isMinute_14 : decode (jm_cd mY_X_isMinute) 14 = .ok (.iconst 0, 1) := by decide +kernel
theorem d_X_isMinute_15 : decode (jm_cd mY_X_isMinute) 15 = .ok (.ireturn, 1) := by decide +kernel
def s_X_isMinute (s : jm_M) (a0 : Int32) : Option Int32 := (if a0 < 0 then (some 0) else (if 60 ≤ a0 then (some 0) else (some 1)))
set_option maxRecDepth 100000 in
set_option maxHeartbeats 4000000 in
theorem s_X_isMinute_ok (s : jm_M) (a0 : Int32) : jm_Sim mY_X_isMinute 0 0 0 [(0, .int a0)] [] 78 mr_154 s (s_X_isMinute s a0) (jm_rI 78 mr_154 s) := by
  unfold s_X_isMinute
  refine jm_iload_n (pc := 0) (q := 0) (x := a0) d_X_isMinute_0 rfl ?_
  refine jm_if_lt (pc := 1) (tgt := 14) d_X_isMinute_1 (by decide) ?_ ?_
  · refine jm_iconst (pc := 14) (v := 0) d_X_isMinute_14 ci_0 ?_
    exact jm_iret (pc := 15) (x := 0) d_X_isMinute_15 rfl (by decide) rfl rfl rfl
  · refine jm_iload_n (pc := 4) (q := 0) (x := a0) d_X_isMinute_4 rfl ?_
    refine jm_bipush (pc := 5) (v := 60) d_X_isMinute_5 cb_60 ?_
    refine jm_icmp_ge (pc := 7) (tgt := 14) d_X_isMinute_7 (by decide) ?_ ?_
    · refine jm_iconst (pc := 14) (v := 0) d_X_isMinute_14 ci_0 ?_
      exact jm_iret (pc := 15) (x := 0) d_X_isMinute_15 rfl (by decide) rfl rfl rfl
    · refine jm_iconst (pc := 10) (v := 1) d_X_isMinute_10 ci_1 ?_
      refine jm_goto (pc := 11) (tgt := 15) d_X_isMinute_11 (by decide) ?_
      exact jm_iret (pc := 15) (x := 1) d_X_isMinute_15 rfl (by decide) rfl rfl rfl
theorem d_Re_areMinutes_0 : decode (jm_cd mY_Re_areMinutes) 0 = .ok (.iload_n 1, 1) := by decide +kernel
theorem d_Re_areMinutes_1 : decode (jm_cd mY_Re_areMinutes) 1 = .ok (.ifCond .lt 10, 3) := by decide +kernel
theorem d_Re_areMinutes_4 : decode (jm_cd mY_Re_areMinutes) 4 = .ok (.iload_n 1, 1) := by decide +kernel
theorem d_Re_areMinutes_5 : decode (jm_cd mY_Re_areMinutes) 5 = .ok (.iconst 1, 1) := by decide +kernel
theorem d_Re_areMinutes_6 : decode (jm_cd mY_Re_areMinutes) 6 = .ok (.iadd, 1) := by decide +kernel
theorem d_Re_areMinutes_7 : decode (jm_cd mY_Re_areMinutes) 7 = .ok (.iconst 4, 1) := by decide +kernel
theorem d_Re_areMinutes_8 : decode (jm_cd mY_Re_areMinutes) 8 = .ok (.if_icmp .lt 5, 3) := by decide +kernel
theorem d_Re_areMinutes_11 : decode (jm_cd mY_Re_areMinutes) 11 = .ok (.iconst 0, 1) := by decide +kernel
theorem d_Re_areMinutes_12 : decode (jm_cd mY_Re_areMinutes) 12 = .ok (.ireturn, 1) := by decide +kernel
theorem d_Re_areMinutes_13 : decode (jm_cd mY_Re_areMinutes) 13 = .ok (.aload_n 0, 1) := by decide +kernel
theorem d_Re_areMinutes_14 : decode (jm_cd mY_Re_areMinutes) 14 = .ok (.getfield 11, 3) := by decide +kernel
theorem d_Re_areMinutes_17 : decode (jm_cd mY_Re_areMinutes) 17 = .ok (.iload_n 1, 1) := by decide +kernel
theorem d_Re_areMinutes_18 : decode (jm_cd mY_Re_areMinutes) 18 = .ok (.iaload, 1) := by decide +kernel
theorem d_Re_areMinutes_19 : decode (jm_cd mY_Re_areMinutes) 19 = .ok (.invokestatic 124, 3) := by decide +kernel
theorem d_Re_areMinutes_22 : decode (jm_cd mY_Re_areMinutes) 22 = .ok (.ifCond .eq 38, 3) := by decide +kernel
theorem d_Re_areMinutes_25 : decode (jm_cd mY_Re_areMinutes) 25 = .ok (.aload_n 0, 1) := by decide +kernel
theorem d_Re_areMinutes_26 : decode (jm_cd mY_Re_areMinutes) 26 = .ok (.getfield 11, 3) := by decide +kernel
theorem d_Re_areMinutes_29 : decode (jm_cd mY_Re_areMinutes) 29 = .ok (.iload_n 1, 1) := by decide +kernel
theorem d_Re_areMinutes_30 : decode (jm_cd mY_Re_areMinutes) 30 = .ok (.iconst 1, 1) := by decide +kernel
theorem d_Re_areMinutes_31 : decode (jm_cd mY_Re_areMinutes) 31 = .ok (.iadd, 1) := by decide +kernel
theorem d_Re_areMinutes_32 : decode (jm_cd mY_Re_areMinutes) 32 = .ok (.iaload, 1) := by decide +kernel
theorem d_Re_areMinutes_33 : decode (jm_cd mY_Re_areMinutes) 33 = .ok (.invokestatic 124, 3) := by decide +kernel
theorem d_Re_areMinutes_36 : decode (jm_cd mY_Re_areMinutes) 36 = .ok (.ifCond .eq 24, 3) := by decide +kernel
theorem d_Re_areMinutes_39 : decode (jm_cd mY_Re_areMinutes) 39 = .ok (.aload_n 0, 1) := by decide +kernel
theorem d_Re_areMinutes_40 : decode (jm_cd mY_Re_areMinutes) 40 = .ok (.getfield 11, 3) := by decide +kernel
theorem d_Re_areMinutes_43 : decode (jm_cd mY_Re_areMinutes) 43 = .ok (.iload_n 1, 1) := by decide +kernel
theorem d_Re_areMinutes_44 : decode (jm_cd mY_Re_areMinutes) 44 = .ok (.iaload, 1) := by decide +kernel
theorem d_Re_areMinutes_45 : decode (jm_cd mY_Re_areMinutes) 45 = .ok (.aload_n 0, 1) := by decide +kernel
theorem d_Re_areMinutes_46 : decode (jm_cd mY_Re_areMinutes) 46 = .ok (.getfield 11, 3) := by decide +kernel
theorem d_Re_areMinutes_49 : decode (jm_cd mY_Re_areMinutes) 49 = .ok (.iload_n 1, 1) := by decide +kernel
theorem d_Re_areMinutes_50 : decode (jm_cd mY_Re_areMinutes) 50 = .ok (.iconst 1, 1) := by decide +kernel
theorem d_Re_areMinutes_51 : decode (jm_cd mY_Re_areMinutes) 51 = .ok (.iadd, 1) := by decide +kernel
theorem d_Re_areMinutes_52 : decode (jm_cd mY_Re_areMinutes) 52 = .ok (.iaload, 1) := by decide +kernel
theorem d_Re_areMinutes_53 : decode (jm_cd mY_Re_areMinutes) 53 = .ok (.if_icmp .gt 7, 3) := by decide +kernel
theorem d_Re_areMinutes_56 : decode (jm_cd mY_Re_areMinutes) 56 = .ok (.iconst 1, 1) := by decide +kernel
theorem d_Re_areMinutes_57 : decode (jm_cd mY_Re_areMinutes) 57 = .ok (.goto 4, 3) := by decide +kernel
theorem d_Re_areMinutes_60 : decode (jm_cd mY_Re_areMinutes) 60 = .ok (.iconst 0, 1) := by decide +kernel
theorem d_Re_areMinutes_61 : decode (jm_cd mY_Re_areMinutes) 61 = .ok (.ireturn, 1) := by decide +kernel
def s_Re_areMinutes (s : jm_M) (a0 : Int32) : Option Int32 := (if a0 < 0 then (some 0) else (if (a0 + 1) < 4 then jm_ldi s 4 4 a0 (fun v1 => jm_bd (s_X_isMinute s v1) (fun v2 => (if v2 = 0 then (some 0) else jm_ldi s 4 4 (a0 + 1) (fun v3 => jm_bd (s_X_isMinute s v3) (fun v4 => (if v4 = 0 then (some 0) else jm_ldi s 4 4 a0 (fun v5 => jm_ldi s 4 4 (a0 + 1) (fun v6 => (if v6 < v5 then (some 0) else (some 1)))))))))) else (some 0)))
set_option maxRecDepth 100000 in
set_option maxHeartbeats 4000000 in
theorem s_Re_areMinutes_ok (s : jm_M) (a0 : Int32) : jm_Sim mY_Re_areMinutes 0 0 0 [(0, .ref 3), (1, .int a0)] [] 78 mr_154 s (s_Re_areMinutes s a0) (jm_rI 78 mr_154 s) := by
  unfold s_Re_areMinutes
  refine jm_iload_n (pc := 0) (q := 1) (x := a0) d_Re_areMinutes_0 rfl ?_
  refine jm_if_lt (pc := 1) (tgt := 11) d_Re_areMinutes_1 (by decide) ?_ ?_
  · refine jm_iconst (pc := 11) (v := 0) d_Re_areMinutes_11 ci_0 ?_
    exact jm_iret (pc := 12) (x := 0) d_Re_areMinutes_12 rfl (by decide) rfl rfl rfl
  · refine jm_iload_n (pc := 4) (q := 1) (x := a0) d_Re_areMinutes_4 rfl ?_
    refine jm_iconst (pc := 5) (v := 1) d_Re_areMinutes_5 ci_1 ?_
    refine jm_iadd (pc := 6) d_Re_areMinutes_6 ?_
    refine jm_iconst (pc := 7) (v := 4) d_Re_areMinutes_7 ci_4 ?_
    refine jm_icmp_lt (pc := 8) (tgt := 13) d_Re_areMinutes_8 (by decide) ?_ ?_
    · refine jm_aload_n (pc := 13) (q := 0) (x := 3) d_Re_areMinutes_13 rfl ?_
      refine jm_gr (pc := 14) (i := 3) d_Re_areMinutes_14 fo_Re_11 sh_3 ge_3 le_3_78 rfl (fun _ => rfl) mr_154_3_0 ge_4 ?_
      refine jm_iload_n (pc := 17) (q := 1) (x := a0) d_Re_areMinutes_17 rfl ?_
      refine jm_iald (pc := 18) d_Re_areMinutes_18 sh_4 ge_4 le_4_78 (fun v1 => ?_)
      refine jm_Np (pc := 19) (Y' := mY_X_isMinute) (avs := [.int v1]) (rest := []) (s_X_isMinute_ok s v1) ok_X_isMinute l0_Re_areMinutes__X_isMinute nl_Re_124 sm_X_isMinute d_Re_areMinutes_19 rfl rfl (Nat.le_of_ble_eq_true rfl) (Nat.le_of_ble_eq_true rfl) (Nat.le_of_ble_eq_true rfl) (Nat.le_of_ble_eq_true rfl) (fun v2 => ?_)
      refine jm_if_eq (pc := 22) (tgt := 60) d_Re_areMinutes_22 (by decide) ?_ ?_
      · refine jm_iconst (pc := 60) (v := 0) d_Re_areMinutes_60 ci_0 ?_
        exact jm_iret (pc := 61) (x := 0) d_Re_areMinutes_61 rfl (by decide) rfl rfl rfl
      · refine jm_aload_n (pc := 25) (q := 0) (x := 3) d_Re_areMinutes_25 rfl ?_
        refine jm_gr (pc := 26) (i := 3) d_Re_areMinutes_26 fo_Re_11 sh_3 ge_3 le_3_78 rfl (fun _ => rfl) mr_154_3_0 ge_4 ?_
        refine jm_iload_n (pc := 29) (q := 1) (x := a0) d_Re_areMinutes_29 rfl ?_
        refine jm_iconst (pc := 30) (v := 1) d_Re_areMinutes_30 ci_1 ?_
        refine jm_iadd (pc := 31) d_Re_areMinutes_31 ?_
        refine jm_iald (pc := 32) d_Re_areMinutes_32 sh_4 ge_4 le_4_78 (fun v3 => ?_)
        refine jm_Np (pc := 33) (Y' := mY_X_isMinute) (avs := [.int v3]) (rest := []) (s_X_isMinute_ok s v3) ok_X_isMinute l0_Re_areMinutes__X_isMinute nl_Re_124 sm_X_isMinute d_Re_areMinutes_33 rfl rfl (Nat.le_of_ble_eq_true rfl) (Nat.le_of_ble_eq_true rfl) (Nat.le_of_ble_eq_true rfl) (Nat.le_of_ble_eq_true rfl) (fun v4 => ?_)
        refine jm_if_eq (pc := 36) (tgt := 60) d_Re_areMinutes_36 (by decide) ?_ ?_
        · refine jm_iconst (pc := 60) (v := 0) d_Re_areMinutes_60 ci_0 ?_
          exact jm_iret (pc := 61) (x := 0) d_Re_areMinutes_61 rfl (by decide) rfl rfl rfl
        · refine jm_aload_n (pc := 39) (q := 0) (x := 3) d_Re_areMinutes_39 rfl ?_
          refine jm_gr (pc := 40) (i := 3) d_Re_areMinutes_40 fo_Re_11 sh_3 ge_3 le_3_78 rfl (fun _ => rfl) mr_154_3_0 ge_4 ?_
          refine jm_iload_n (pc := 43) (q := 1) (x := a0) d_Re_areMinutes_43 rfl ?_
          refine jm_iald (pc := 44) d_Re_areMinutes_44 sh_4 ge_4 le_4_78 (fun v5 => ?_)
          refine jm_aload_n (pc := 45) (q := 0) (x := 3) d_Re_areMinutes_45 rfl ?_
          refine jm_gr (pc := 46) (i := 3) d_Re_areMinutes_46 fo_Re_11 sh_3 ge_3 le_3_78 rfl (fun _ => rfl) mr_154_3_0 ge_4 ?_
          refine jm_iload_n (pc := 49) (q := 1) (x := a0) d_Re_areMinutes_49 rfl ?_
          refine jm_iconst (pc := 50) (v := 1) d_Re_areMinutes_50 ci_1 ?_
          refine jm_iadd (pc := 51) d_Re_areMinutes_51 ?_
          refine jm_iald (pc := 52) d_Re_areMinutes_52 sh_4 ge_4 le_4_78 (fun v6 => ?_)
          refine jm_icmp_gt (pc := 53) (tgt := 60) d_Re_areMinutes_53 (by decide) ?_ ?_
          · refine jm_iconst (pc := 60) (v := 0) d_Re_areMinutes_60 ci_0 ?_
            exact jm_iret (pc := 61) (x := 0) d_Re_areMinutes_61 rfl (by decide) rfl rfl rfl
          · refine jm_iconst (pc := 56) (v := 1) d_Re_areMinutes_56 ci_1 ?_
            refine jm_goto (pc := 57) (tgt := 61) d_Re_areMinutes_57 (by decide) ?_
            exact jm_iret (pc := 61) (x := 1) d_Re_areMinutes_61 rfl (by decide) rfl rfl rfl
    · refine jm_iconst (pc := 11) (v := 0) d_Re_areMinutes_11 ci_0 ?_
      exact jm_iret (pc := 12) (x := 0) d_Re_areMinutes_12 rfl (by decide) rfl rfl rfl
theorem d_X_minutesFrom_0 : decode (jm_cd mY_X_minutesFrom) 0 = .ok (.ldc2_w 267, 3) := by decide +kernel
theorem d_X_minutesFrom_3 : decode (jm_cd mY_X_minutesFrom) 3 = .ok (.bipush 63, 2) := by decide +kernel
theorem d_X_minutesFrom_5 : decode (jm_cd mY_X_minutesFrom) 5 = .ok (.iload_n 1, 1) := by decide +kernel
theorem d_X_minutesFrom_6 : decode (jm_cd mY_X_minutesFrom) 6 = .ok (.iload_n 0, 1) := by decide +kernel
theorem d_X_minutesFrom_7 : decode (jm_cd mY_X_minutesFrom) 7 = .ok (.isub, 1) := by decide +kernel
theorem d_X_minutesFrom_8 : decode (jm_cd mY_X_minutesFrom) 8 = .ok (.isub, 1) := by decide +kernel
theorem d_X_minutesFrom_9 : decode (jm_cd mY_X_minutesFrom) 9 = .ok (.lushr, 1) := by decide +kernel
theorem d_X_minutesFrom_10 : decode (jm_cd mY_X_minutesFrom) 10 = .ok (.iload_n 0, 1) := by decide +kernel
theorem d_X_minutesFrom_11 : decode (jm_cd mY_X_minutesFrom) 11 = .ok (.lshl, 1) := by decide +kernel
theorem d_X_minutesFrom_12 : decode (jm_cd mY_X_minutesFrom) 12 = .ok (.lreturn, 1) := by decide +kernel
def s_X_minutesFrom (s : jm_M) (a0 : Int32) (a1 : Int32) : Option Int64 := (some (((((-1) : Int64).toUInt64 >>> ((63 - (a1 - a0)).toInt64.toUInt64 &&& Int64.toUInt64 63)).toInt64) <<< (a0.toInt64 &&& 63)))
set_option maxRecDepth 100000 in
set_option maxHeartbeats 4000000 in
theorem s_X_minutesFrom_ok (s : jm_M) (a0 : Int32) (a1 : Int32) : jm_Sim mY_X_minutesFrom 0 0 0 [(0, .int a0), (1, .int a1)] [] 78 mr_154 s (s_X_minutesFrom s a0 a1) (jm_rL 78 mr_154 s) := by
  unfold s_X_minutesFrom
  refine jm_ldc2 (pc := 0) (v := (-1)) d_X_minutesFrom_0 kl_X_267 ?_
  refine jm_bipush (pc := 3) (v := 63) d_X_minutesFrom_3 cb_63 ?_
  refine jm_iload_n (pc := 5) (q := 1) (x := a1) d_X_minutesFrom_5 rfl ?_
  refine jm_iload_n (pc := 6) (q := 0) (x := a0) d_X_minutesFrom_6 rfl ?_
  refine jm_isub (pc := 7) d_X_minutesFrom_7 ?_
  refine jm_isub (pc := 8) d_X_minutesFrom_8 ?_
  refine jm_lushr (pc := 9) d_X_minutesFrom_9 ?_
  refine jm_iload_n (pc := 10) (q := 0) (x := a0) d_X_minutesFrom_10 rfl ?_
  refine jm_lshl (pc := 11) d_X_minutesFrom_11 ?_
  exact jm_lret (pc := 12) d_X_minutesFrom_12 rfl rfl rfl rfl
theorem d_Ne_addMist_0 : decode (jm_cd mY_Ne_addMist) 0 = .ok (.aload_n 0, 1) := by decide +kernel
theorem d_Ne_addMist_1 : decode (jm_cd mY_Ne_addMist) 1 = .ok (.iload_n 1, 1) := by decide +kernel
theorem d_Ne_addMist_2 : decode (jm_cd mY_Ne_addMist) 2 = .ok (.invokevirtual 63, 3) := by decide +kernel
theorem d_Ne_addMist_5 : decode (jm_cd mY_Ne_addMist) 5 = .ok (.ifCond .eq 41, 3) := by decide +kernel
theorem d_Ne_addMist_8 : decode (jm_cd mY_Ne_addMist) 8 = .ok (.aload_n 0, 1) := by decide +kernel
theorem d_Ne_addMist_9 : decode (jm_cd mY_Ne_addMist) 9 = .ok (.iload_n 2, 1) := by decide +kernel
theorem d_Ne_addMist_10 : decode (jm_cd mY_Ne_addMist) 10 = .ok (.invokevirtual 63, 3) := by decide +kernel
theorem d_Ne_addMist_13 : decode (jm_cd mY_Ne_addMist) 13 = .ok (.ifCond .eq 33, 3) := by decide +kernel
theorem d_Ne_addMist_16 : decode (jm_cd mY_Ne_addMist) 16 = .ok (.aload_n 0, 1) := by decide +kernel
theorem d_Ne_addMist_17 : decode (jm_cd mY_Ne_addMist) 17 = .ok (.getfield 41, 3) := by decide +kernel
theorem d_Ne_addMist_20 : decode (jm_cd mY_Ne_addMist) 20 = .ok (.iload_n 1, 1) := by decide +kernel
theorem d_Ne_addMist_21 : decode (jm_cd mY_Ne_addMist) 21 = .ok (.bipush 10, 2) := by decide +kernel
theorem d_Ne_addMist_23 : decode (jm_cd mY_Ne_addMist) 23 = .ok (.imul, 1) := by decide +kernel
theorem d_Ne_addMist_24 : decode (jm_cd mY_Ne_addMist) 24 = .ok (.iload_n 2, 1) := by decide +kernel
theorem d_Ne_addMist_25 : decode (jm_cd mY_Ne_addMist) 25 = .ok (.iadd, 1) := by decide +kernel
theorem d_Ne_addMist_26 : decode (jm_cd mY_Ne_addMist) 26 = .ok (.dup2, 1) := by decide +kernel
theorem d_Ne_addMist_27 : decode (jm_cd mY_Ne_addMist) 27 = .ok (.laload, 1) := by decide +kernel
theorem d_Ne_addMist_28 : decode (jm_cd mY_Ne_addMist) 28 = .ok (.lload_n 3, 1) := by decide +kernel
theorem d_Ne_addMist_29 : decode (jm_cd mY_Ne_addMist) 29 = .ok (.lor, 1) := by decide +kernel
theorem d_Ne_addMist_30 : decode (jm_cd mY_Ne_addMist) 30 = .ok (.lastore, 1) := by decide +kernel
theorem d_Ne_addMist_31 : decode (jm_cd mY_Ne_addMist) 31 = .ok (.aload_n 0, 1) := by decide +kernel
theorem d_Ne_addMist_32 : decode (jm_cd mY_Ne_addMist) 32 = .ok (.getfield 41, 3) := by decide +kernel
theorem d_Ne_addMist_35 : decode (jm_cd mY_Ne_addMist) 35 = .ok (.iload_n 2, 1) := by decide +kernel
theorem d_Ne_addMist_36 : decode (jm_cd mY_Ne_addMist) 36 = .ok (.bipush 10, 2) := by decide +kernel
theorem d_Ne_addMist_38 : decode (jm_cd mY_Ne_addMist) 38 = .ok (.imul, 1) := by decide +kernel
theorem d_Ne_addMist_39 : decode (jm_cd mY_Ne_addMist) 39 = .ok (.iload_n 1, 1) := by decide +kernel
theorem d_Ne_addMist_40 : decode (jm_cd mY_Ne_addMist) 40 = .ok (.iadd, 1) := by decide +kernel
theorem d_Ne_addMist_41 : decode (jm_cd mY_Ne_addMist) 41 = .ok (.dup2, 1) := by decide +kernel
theorem d_Ne_addMist_42 : decode (jm_cd mY_Ne_addMist) 42 = .ok (.laload, 1) := by decide +kernel
theorem d_Ne_addMist_43 : decode (jm_cd mY_Ne_addMist) 43 = .ok (.lload_n 3, 1) := by decide +kernel
theorem d_Ne_addMist_44 : decode (jm_cd mY_Ne_addMist) 44 = .ok (.lor, 1) := by decide +kernel
theorem d_Ne_addMist_45 : decode (jm_cd mY_Ne_addMist) 45 = .ok (.lastore, 1) := by decide +kernel
theorem d_Ne_addMist_46 : decode (jm_cd mY_Ne_addMist) 46 = .ok (.return_, 1) := by decide +kernel
def s_Ne_addMist_5 (s : jm_M) (a0 : Int32) (a1 : Int32) (a2 : Int64) : Option jm_M := jm_bd (s_Ne_isHill_5 s a0) (fun v1 => (if v1 = 0 then (some s) else jm_bd (s_Ne_isHill_5 s a1) (fun v2 => (if v2 = 0 then (some s) else jm_vi ((a0 * 10) + a1) (fun v3 => jm_ldl s 14 100 v3 (fun v4 => jm_stl s 14 100 v3 (v4 ||| a2) (fun s5 => jm_vi ((a1 * 10) + a0) (fun v6 => jm_ldl s5 14 100 v6 (fun v7 => jm_stl s5 14 100 v6 (v7 ||| a2) (fun s8 => (some s8)))))))))))
set_option maxRecDepth 100000 in
set_option maxHeartbeats 4000000 in
theorem s_Ne_addMist_5_ok (s : jm_M) (a0 : Int32) (a1 : Int32) (a2 : Int64) : jm_Sim mY_Ne_addMist 0 0 0 [(0, .ref 5), (1, .int a0), (2, .int a1), (3, .long a2)] [] 78 mr_154 s (s_Ne_addMist_5 s a0 a1 a2) (jm_rV 78 mr_154) := by
  unfold s_Ne_addMist_5
  refine jm_aload_n (pc := 0) (q := 0) (x := 5) d_Ne_addMist_0 rfl ?_
  refine jm_iload_n (pc := 1) (q := 1) (x := a0) d_Ne_addMist_1 rfl ?_
  refine jm_Vp (pc := 2) (Y' := mY_Ne_isHill) (i := 5) (avs := [.int a0]) (rest := []) (s_Ne_isHill_5_ok s a0) ok_Ne_isHill l0_Ne_addMist__Ne_isHill ml_Ne_63 im_Ne_isHill se_Ne_isHill d_Ne_addMist_2 rfl sh_5 rfl rfl ge_5 le_5_78 rfl (Nat.le_of_ble_eq_true rfl) (Nat.le_of_ble_eq_true rfl) (Nat.le_of_ble_eq_true rfl) (Nat.le_of_ble_eq_true rfl) (fun v1 => ?_)
  refine jm_if_eq (pc := 5) (tgt := 46) d_Ne_addMist_5 (by decide) ?_ ?_
  · exact jm_vret (pc := 46) d_Ne_addMist_46 rfl rfl rfl rfl
  · refine jm_aload_n (pc := 8) (q := 0) (x := 5) d_Ne_addMist_8 rfl ?_
    refine jm_iload_n (pc := 9) (q := 2) (x := a1) d_Ne_addMist_9 rfl ?_
    refine jm_Vp (pc := 10) (Y' := mY_Ne_isHill) (i := 5) (avs := [.int a1]) (rest := []) (s_Ne_isHill_5_ok s a1) ok_Ne_isHill l0_Ne_addMist__Ne_isHill ml_Ne_63 im_Ne_isHill se_Ne_isHill d_Ne_addMist_10 rfl sh_5 rfl rfl ge_5 le_5_78 rfl (Nat.le_of_ble_eq_true rfl) (Nat.le_of_ble_eq_true rfl) (Nat.le_of_ble_eq_true rfl) (Nat.le_of_ble_eq_true rfl) (fun v2 => ?_)
    refine jm_if_eq (pc := 13) (tgt := 46) d_Ne_addMist_13 (by decide) ?_ ?_
    · exact jm_vret (pc := 46) d_Ne_addMist_46 rfl rfl rfl rfl
    · refine jm_aload_n (pc := 16) (q := 0) (x := 5) d_Ne_addMist_16 rfl ?_
      refine jm_gr (pc := 17) (i := 5) d_Ne_addMist_17 fo_Ne_41 sh_5 ge_5 le_5_78 rfl (fun _ => rfl) mr_154_5_9 ge_14 ?_
      refine jm_iload_n (pc := 20) (q := 1) (x := a0) d_Ne_addMist_20 rfl ?_
      refine jm_bipush (pc := 21) (v := 10) d_Ne_addMist_21 cb_10 ?_
      refine jm_imul (pc := 23) d_Ne_addMist_23 ?_
      refine jm_iload_n (pc := 24) (q := 2) (x := a1) d_Ne_addMist_24 rfl ?_
      refine jm_iadd (pc := 25) d_Ne_addMist_25 ?_
      refine jm_nvi (fun v3 => ?_)
      refine jm_dup2 (pc := 26) d_Ne_addMist_26 rfl rfl ?_
      refine jm_lald (pc := 27) d_Ne_addMist_27 sh_14 ge_14 le_14_78 (fun v4 => ?_)
      refine jm_lload_n (pc := 28) (q := 3) (x := a2) d_Ne_addMist_28 rfl ?_
      refine jm_lor (pc := 29) d_Ne_addMist_29 ?_
      refine jm_last (pc := 30) d_Ne_addMist_30 sh_14 ge_14 le_14_78 (fun s5 => ?_)
      refine jm_aload_n (pc := 31) (q := 0) (x := 5) d_Ne_addMist_31 rfl ?_
      refine jm_gr (pc := 32) (i := 5) d_Ne_addMist_32 fo_Ne_41 sh_5 ge_5 le_5_78 rfl (fun _ => rfl) mr_154_5_9 ge_14 ?_
      refine jm_iload_n (pc := 35) (q := 2) (x := a1) d_Ne_addMist_35 rfl ?_
      refine jm_bipush (pc := 36) (v := 10) d_Ne_addMist_36 cb_10 ?_
      refine jm_imul (pc := 38) d_Ne_addMist_38 ?_
      refine jm_iload_n (pc := 39) (q := 1) (x := a0) d_Ne_addMist_39 rfl ?_
      refine jm_iadd (pc := 40) d_Ne_addMist_40 ?_
      refine jm_nvi (fun v6 => ?_)
      refine jm_dup2 (pc := 41) d_Ne_addMist_41 rfl rfl ?_
      refine jm_lald (pc := 42) d_Ne_addMist_42 sh_14 ge_14 le_14_78 (fun v7 => ?_)
      refine jm_lload_n (pc := 43) (q := 3) (x := a2) d_Ne_addMist_43 rfl ?_
      refine jm_lor (pc := 44) d_Ne_addMist_44 ?_
      refine jm_last (pc := 45) d_Ne_addMist_45 sh_14 ge_14 le_14_78 (fun s8 => ?_)
      exact jm_vret (pc := 46) d_Ne_addMist_46 rfl rfl rfl rfl
theorem d_Re_takeMist_0 : decode (jm_cd mY_Re_takeMist) 0 = .ok (.aload_n 0, 1) := by decide +kernel
theorem d_Re_takeMist_1 : decode (jm_cd mY_Re_takeMist) 1 = .ok (.getfield 11, 3) := by decide +kernel
theorem d_Re_takeMist_4 : decode (jm_cd mY_Re_takeMist) 4 = .ok (.iconst 0, 1) := by decide +kernel
theorem d_Re_takeMist_5 : decode (jm_cd mY_Re_takeMist) 5 = .ok (.iaload, 1) := by decide +kernel
theorem d_Re_takeMist_6 : decode (jm_cd mY_Re_takeMist) 6 = .ok (.istore_n 2, 1) := by decide +kernel
theorem d_Re_takeMist_7 : decode (jm_cd mY_Re_takeMist) 7 = .ok (.aload_n 0, 1) := by decide +kernel
theorem d_Re_takeMist_8 : decode (jm_cd mY_Re_takeMist) 8 = .ok (.getfield 11, 3) := by decide +kernel
theorem d_Re_takeMist_11 : decode (jm_cd mY_Re_takeMist) 11 = .ok (.iconst 1, 1) := by decide +kernel
theorem d_Re_takeMist_12 : decode (jm_cd mY_Re_takeMist) 12 = .ok (.iaload, 1) := by decide +kernel
theorem d_Re_takeMist_13 : decode (jm_cd mY_Re_takeMist) 13 = .ok (.istore_n 3, 1) := by decide +kernel
theorem d_Re_takeMist_14 : decode (jm_cd mY_Re_takeMist) 14 = .ok (.aload_n 0, 1) := by decide +kernel
theorem d_Re_takeMist_15 : decode (jm_cd mY_Re_takeMist) 15 = .ok (.getfield 15, 3) := by decide +kernel
theorem d_Re_takeMist_18 : decode (jm_cd mY_Re_takeMist) 18 = .ok (.iconst 4, 1) := by decide +kernel
theorem d_Re_takeMist_19 : decode (jm_cd mY_Re_takeMist) 19 = .ok (.if_icmp .ne 20, 3) := by decide +kernel
theorem d_Re_takeMist_22 : decode (jm_cd mY_Re_takeMist) 22 = .ok (.aload_n 1, 1) := by decide +kernel
theorem d_Re_takeMist_23 : decode (jm_cd mY_Re_takeMist) 23 = .ok (.iload_n 2, 1) := by decide +kernel
theorem d_Re_takeMist_24 : decode (jm_cd mY_Re_takeMist) 24 = .ok (.iload_n 3, 1) := by decide +kernel
theorem d_Re_takeMist_25 : decode (jm_cd mY_Re_takeMist) 25 = .ok (.invokestatic 90, 3) := by decide +kernel
theorem d_Re_takeMist_28 : decode (jm_cd mY_Re_takeMist) 28 = .ok (.ifCond .eq 11, 3) := by decide +kernel
theorem d_Re_takeMist_31 : decode (jm_cd mY_Re_takeMist) 31 = .ok (.aload_n 0, 1) := by decide +kernel
theorem d_Re_takeMist_32 : decode (jm_cd mY_Re_takeMist) 32 = .ok (.iconst 2, 1) := by decide +kernel
theorem d_Re_takeMist_33 : decode (jm_cd mY_Re_takeMist) 33 = .ok (.invokevirtual 106, 3) := by decide +kernel
theorem d_Re_takeMist_36 : decode (jm_cd mY_Re_takeMist) 36 = .ok (.ifCond .ne 5, 3) := by decide +kernel
theorem d_Re_takeMist_39 : decode (jm_cd mY_Re_takeMist) 39 = .ok (.iconst 0, 1) := by decide +kernel
theorem d_Re_takeMist_40 : decode (jm_cd mY_Re_takeMist) 40 = .ok (.ireturn, 1) := by decide +kernel
theorem d_Re_takeMist_41 : decode (jm_cd mY_Re_takeMist) 41 = .ok (.aload_n 1, 1) := by decide +kernel
theorem d_Re_takeMist_42 : decode (jm_cd mY_Re_takeMist) 42 = .ok (.iload_n 2, 1) := by decide +kernel
theorem d_Re_takeMist_43 : decode (jm_cd mY_Re_takeMist) 43 = .ok (.iload_n 3, 1) := by decide +kernel
theorem d_Re_takeMist_44 : decode (jm_cd mY_Re_takeMist) 44 = .ok (.aload_n 0, 1) := by decide +kernel
theorem d_Re_takeMist_45 : decode (jm_cd mY_Re_takeMist) 45 = .ok (.getfield 11, 3) := by decide +kernel
theorem d_Re_takeMist_48 : decode (jm_cd mY_Re_takeMist) 48 = .ok (.iconst 2, 1) := by decide +kernel
theorem d_Re_takeMist_49 : decode (jm_cd mY_Re_takeMist) 49 = .ok (.iaload, 1) := by decide +kernel
theorem d_Re_takeMist_50 : decode (jm_cd mY_Re_takeMist) 50 = .ok (.aload_n 0, 1) := by decide +kernel
theorem d_Re_takeMist_51 : decode (jm_cd mY_Re_takeMist) 51 = .ok (.getfield 11, 3) := by decide +kernel
theorem d_Re_takeMist_54 : decode (jm_cd mY_Re_takeMist) 54 = .ok (.iconst 3, 1) := by decide +kernel
theorem d_Re_takeMist_55 : decode (jm_cd mY_Re_takeMist) 55 = .ok (.iaload, 1) := by decide +kernel
theorem d_Re_takeMist_56 : decode (jm_cd mY_Re_takeMist) 56 = .ok (.invokestatic 113, 3) := by decide +kernel
theorem d_Re_takeMist_59 : decode (jm_cd mY_Re_takeMist) 59 = .ok (.invokevirtual 117, 3) := by decide +kernel
theorem d_Re_takeMist_62 : decode (jm_cd mY_Re_takeMist) 62 = .ok (.iconst 1, 1) := by decide +kernel
theorem d_Re_takeMist_63 : decode (jm_cd mY_Re_takeMist) 63 = .ok (.ireturn, 1) := by decide +kernel
def s_Re_takeMist_3_5 (s : jm_M) : Option (Int32 × jm_M) := jm_ldi s 4 4 0 (fun v1 => jm_ldi s 4 4 1 (fun v2 => (if (s.1 3 1) = 4 then jm_bd (s_Re_isSight s v1 v2) (fun v3 => (if v3 = 0 then (some (0, s)) else jm_bd (s_Re_areMinutes s 2) (fun v4 => (if v4 = 0 then (some (0, s)) else jm_ldi s 4 4 2 (fun v5 => jm_ldi s 4 4 3 (fun v6 => jm_bd (s_X_minutesFrom s v5 v6) (fun v7 => jm_bd (s_Ne_addMist_5 s v1 v2 v7) (fun s8 => (some (1, s8)))))))))) else (some (0, s)))))
set_option maxRecDepth 100000 in
set_option maxHeartbeats 4000000 in
theorem s_Re_takeMist_3_5_ok (s : jm_M) : jm_Sim mY_Re_takeMist 0 0 0 [(0, .ref 3), (1, .ref 5)] [] 78 mr_154 s (s_Re_takeMist_3_5 s) (jm_rP 78 mr_154) := by
  unfold s_Re_takeMist_3_5
  refine jm_aload_n (pc := 0) (q := 0) (x := 3) d_Re_takeMist_0 rfl ?_
  refine jm_gr (pc := 1) (i := 3) d_Re_takeMist_1 fo_Re_11 sh_3 ge_3 le_3_78 rfl (fun _ => rfl) mr_154_3_0 ge_4 ?_
  refine jm_iconst (pc := 4) (v := 0) d_Re_takeMist_4 ci_0 ?_
  refine jm_iald (pc := 5) d_Re_takeMist_5 sh_4 ge_4 le_4_78 (fun v1 => ?_)
  refine jm_istore_n (pc := 6) (i := 2) (L2 := [(2, .int v1), (0, .ref 3), (1, .ref 5)]) d_Re_takeMist_6 rfl (Nat.le_of_ble_eq_true rfl) rfl ?_
  refine jm_aload_n (pc := 7) (q := 1) (x := 3) d_Re_takeMist_7 rfl ?_
  refine jm_gr (pc := 8) (i := 3) d_Re_takeMist_8 fo_Re_11 sh_3 ge_3 le_3_78 rfl (fun _ => rfl) mr_154_3_0 ge_4 ?_
  refine jm_iconst (pc := 11) (v := 1) d_Re_takeMist_11 ci_1 ?_
  refine jm_iald (pc := 12) d_Re_takeMist_12 sh_4 ge_4 le_4_78 (fun v2 => ?_)
  refine jm_istore_n (pc := 13) (i := 3) (L2 := [(3, .int v2), (2, .int v1), (0, .ref 3), (1, .ref 5)]) d_Re_takeMist_13 rfl (Nat.le_of_ble_eq_true rfl) rfl ?_
  refine jm_aload_n (pc := 14) (q := 2) (x := 3) d_Re_takeMist_14 rfl ?_
  refine jm_gi (pc := 15) (i := 3) d_Re_takeMist_15 fo_Re_15 sh_3 ge_3 le_3_78 rfl (fun _ => rfl) ?_
  refine jm_iconst (pc := 18) (v := 4) d_Re_takeMist_18 ci_4 ?_
  refine jm_icmp_ne (pc := 19) (tgt := 39) d_Re_takeMist_19 (by decide) ?_ ?_
  · refine jm_aload_n (pc := 22) (q := 3) (x := 5) d_Re_takeMist_22 rfl ?_
    refine jm_iload_n (pc := 23) (q := 1) (x := v1) d_Re_takeMist_23 rfl ?_
    refine jm_iload_n (pc := 24) (q := 0) (x := v2) d_Re_takeMist_24 rfl ?_
    refine jm_Sp (pc := 25) (Y' := mY_Re_isSight) (avs := [.ref 5, .int v1, .int v2]) (rest := []) (s_Re_isSight_ok s v1 v2) ok_Re_isSight l0_Re_takeMist__Re_isSight ml_Re_90 sm_Re_isSight d_Re_takeMist_25 rfl rfl (Nat.le_of_ble_eq_true rfl) (Nat.le_of_ble_eq_true rfl) (Nat.le_of_ble_eq_true rfl) (Nat.le_of_ble_eq_true rfl) (fun v3 => ?_)
    refine jm_if_eq (pc := 28) (tgt := 39) d_Re_takeMist_28 (by decide) ?_ ?_
    · refine jm_iconst (pc := 39) (v := 0) d_Re_takeMist_39 ci_0 ?_
      exact jm_iret (pc := 40) (x := 0) d_Re_takeMist_40 rfl (by decide) rfl rfl rfl
    · refine jm_aload_n (pc := 31) (q := 2) (x := 3) d_Re_takeMist_31 rfl ?_
      refine jm_iconst (pc := 32) (v := 2) d_Re_takeMist_32 ci_2 ?_
      refine jm_Vp (pc := 33) (Y' := mY_Re_areMinutes) (i := 3) (avs := [.int 2]) (rest := []) (s_Re_areMinutes_ok s 2) ok_Re_areMinutes l0_Re_takeMist__Re_areMinutes ml_Re_106 im_Re_areMinutes se_Re_areMinutes d_Re_takeMist_33 rfl sh_3 rfl rfl ge_3 le_3_78 rfl (Nat.le_of_ble_eq_true rfl) (Nat.le_of_ble_eq_true rfl) (Nat.le_of_ble_eq_true rfl) (Nat.le_of_ble_eq_true rfl) (fun v4 => ?_)
      refine jm_if_ne (pc := 36) (tgt := 41) d_Re_takeMist_36 (by decide) ?_ ?_
      · refine jm_iconst (pc := 39) (v := 0) d_Re_takeMist_39 ci_0 ?_
        exact jm_iret (pc := 40) (x := 0) d_Re_takeMist_40 rfl (by decide) rfl rfl rfl
      · refine jm_aload_n (pc := 41) (q := 3) (x := 5) d_Re_takeMist_41 rfl ?_
        refine jm_iload_n (pc := 42) (q := 1) (x := v1) d_Re_takeMist_42 rfl ?_
        refine jm_iload_n (pc := 43) (q := 0) (x := v2) d_Re_takeMist_43 rfl ?_
        refine jm_aload_n (pc := 44) (q := 2) (x := 3) d_Re_takeMist_44 rfl ?_
        refine jm_gr (pc := 45) (i := 3) d_Re_takeMist_45 fo_Re_11 sh_3 ge_3 le_3_78 rfl (fun _ => rfl) mr_154_3_0 ge_4 ?_
        refine jm_iconst (pc := 48) (v := 2) d_Re_takeMist_48 ci_2 ?_
        refine jm_iald (pc := 49) d_Re_takeMist_49 sh_4 ge_4 le_4_78 (fun v5 => ?_)
        refine jm_aload_n (pc := 50) (q := 2) (x := 3) d_Re_takeMist_50 rfl ?_
        refine jm_gr (pc := 51) (i := 3) d_Re_takeMist_51 fo_Re_11 sh_3 ge_3 le_3_78 rfl (fun _ => rfl) mr_154_3_0 ge_4 ?_
        refine jm_iconst (pc := 54) (v := 3) d_Re_takeMist_54 ci_3 ?_
        refine jm_iald (pc := 55) d_Re_takeMist_55 sh_4 ge_4 le_4_78 (fun v6 => ?_)
        refine jm_Nl (pc := 56) (Y' := mY_X_minutesFrom) (avs := [.int v5, .int v6]) (rest := [.int v2, .int v1, .ref 5]) (s_X_minutesFrom_ok s v5 v6) ok_X_minutesFrom l0_Re_takeMist__X_minutesFrom nl_Re_113 sm_X_minutesFrom d_Re_takeMist_56 rfl rfl (Nat.le_of_ble_eq_true rfl) (Nat.le_of_ble_eq_true rfl) (Nat.le_of_ble_eq_true rfl) (Nat.le_of_ble_eq_true rfl) (fun v7 => ?_)
        refine jm_Vv (pc := 59) (Y' := mY_Ne_addMist) (i := 5) (avs := [.int v1, .int v2, .long v7]) (rest := []) (s_Ne_addMist_5_ok s v1 v2 v7) ok_Ne_addMist l0_Re_takeMist__Ne_addMist ml_Re_117 im_Ne_addMist se_Ne_addMist d_Re_takeMist_59 rfl sh_5 rfl rfl ge_5 le_5_78 rfl (Nat.le_of_ble_eq_true rfl) (Nat.le_of_ble_eq_true rfl) (Nat.le_of_ble_eq_true rfl) (Nat.le_of_ble_eq_true rfl) (fun s8 => ?_)
        refine jm_iconst (pc := 62) (v := 1) d_Re_takeMist_62 ci_1 ?_
        exact jm_iret (pc := 63) (x := 1) d_Re_takeMist_63 rfl (by decide) rfl rfl rfl
  · refine jm_iconst (pc := 39) (v := 0) d_Re_takeMist_39 ci_0 ?_
    exact jm_iret (pc := 40) (x := 0) d_Re_takeMist_40 rfl (by decide) rfl rfl rfl
theorem d_Re_takeLiar_0 : decode (jm_cd mY_Re_takeLiar) 0 = .ok (.aload_n 0, 1) := by decide +kernel
theorem d_Re_takeLiar_1 : decode (jm_cd mY_Re_takeLiar) 1 = .ok (.getfield 11, 3) := by decide +kernel
theorem d_Re_takeLiar_4 : decode (jm_cd mY_Re_takeLiar) 4 = .ok (.iconst 0, 1) := by decide +kernel
theorem d_Re_takeLiar_5 : decode (jm_cd mY_Re_takeLiar) 5 = .ok (.iaload, 1) := by decide +kernel
theorem d_Re_takeLiar_6 : decode (jm_cd mY_Re_takeLiar) 6 = .ok (.istore_n 2, 1) := by decide +kernel
theorem d_Re_takeLiar_7 : decode (jm_cd mY_Re_takeLiar) 7 = .ok (.aload_n 0, 1) := by decide +kernel
theorem d_Re_takeLiar_8 : decode (jm_cd mY_Re_takeLiar) 8 = .ok (.getfield 15, 3) := by decide +kernel
theorem d_Re_takeLiar_11 : decode (jm_cd mY_Re_takeLiar) 11 = .ok (.iconst 3, 1) := by decide +kernel
theorem d_Re_takeLiar_12 : decode (jm_cd mY_Re_takeLiar) 12 = .ok (.if_icmp .ne 19, 3) := by decide +kernel
theorem d_Re_takeLiar_15 : decode (jm_cd mY_Re_takeLiar) 15 = .ok (.aload_n 1, 1) := by decide +kernel
theorem d_Re_takeLiar_16 : decode (jm_cd mY_Re_takeLiar) 16 = .ok (.iload_n 2, 1) := by decide +kernel
theorem d_Re_takeLiar_17 : decode (jm_cd mY_Re_takeLiar) 17 = .ok (.invokevirtual 58, 3) := by decide +kernel
theorem d_Re_takeLiar_20 : decode (jm_cd mY_Re_takeLiar) 20 = .ok (.ifCond .eq 11, 3) := by decide +kernel
theorem d_Re_takeLiar_23 : decode (jm_cd mY_Re_takeLiar) 23 = .ok (.aload_n 0, 1) := by decide +kernel
theorem d_Re_takeLiar_24 : decode (jm_cd mY_Re_takeLiar) 24 = .ok (.iconst 1, 1) := by decide +kernel
theorem d_Re_takeLiar_25 : decode (jm_cd mY_Re_takeLiar) 25 = .ok (.invokevirtual 106, 3) := by decide +kernel
theorem d_Re_takeLiar_28 : decode (jm_cd mY_Re_takeLiar) 28 = .ok (.ifCond .ne 5, 3) := by decide +kernel
theorem d_Re_takeLiar_31 : decode (jm_cd mY_Re_takeLiar) 31 = .ok (.iconst 0, 1) := by decide +kernel
theorem d_Re_takeLiar_32 : decode (jm_cd mY_Re_takeLiar) 32 = .ok (.ireturn, 1) := by decide +kernel
theorem d_Re_takeLiar_33 : decode (jm_cd mY_Re_takeLiar) 33 = .ok (.aload_n 1, 1) := by decide +kernel
theorem d_Re_takeLiar_34 : decode (jm_cd mY_Re_takeLiar) 34 = .ok (.getfield 87, 3) := by decide +kernel
theorem d_Re_takeLiar_37 : decode (jm_cd mY_Re_takeLiar) 37 = .ok (.iload_n 2, 1) := by decide +kernel
theorem d_Re_takeLiar_38 : decode (jm_cd mY_Re_takeLiar) 38 = .ok (.iaload, 1) := by decide +kernel
theorem d_Re_takeLiar_39 : decode (jm_cd mY_Re_takeLiar) 39 = .ok (.iconst 2, 1) := by decide +kernel
theorem d_Re_takeLiar_40 : decode (jm_cd mY_Re_takeLiar) 40 = .ok (.if_icmp .eq 13, 3) := by decide +kernel
theorem d_Re_takeLiar_43 : decode (jm_cd mY_Re_takeLiar) 43 = .ok (.aload_n 1, 1) := by decide +kernel
theorem d_Re_takeLiar_44 : decode (jm_cd mY_Re_takeLiar) 44 = .ok (.getfield 87, 3) := by decide +kernel
theorem d_Re_takeLiar_47 : decode (jm_cd mY_Re_takeLiar) 47 = .ok (.iload_n 2, 1) := by decide +kernel
theorem d_Re_takeLiar_48 : decode (jm_cd mY_Re_takeLiar) 48 = .ok (.iaload, 1) := by decide +kernel
theorem d_Re_takeLiar_49 : decode (jm_cd mY_Re_takeLiar) 49 = .ok (.iconst 3, 1) := by decide +kernel
theorem d_Re_takeLiar_50 : decode (jm_cd mY_Re_takeLiar) 50 = .ok (.if_icmp .ne 5, 3) := by decide +kernel
theorem d_Re_takeLiar_53 : decode (jm_cd mY_Re_takeLiar) 53 = .ok (.iconst 0, 1) := by decide +kernel
theorem d_Re_takeLiar_54 : decode (jm_cd mY_Re_takeLiar) 54 = .ok (.ireturn, 1) := by decide +kernel
theorem d_Re_takeLiar_55 : decode (jm_cd mY_Re_takeLiar) 55 = .ok (.aload_n 1, 1) := by decide +kernel
theorem d_Re_takeLiar_56 : decode (jm_cd mY_Re_takeLiar) 56 = .ok (.getfield 121, 3) := by decide +kernel
theorem d_Re_takeLiar_59 : decode (jm_cd mY_Re_takeLiar) 59 = .ok (.iload_n 2, 1) := by decide +kernel
theorem d_Re_takeLiar_60 : decode (jm_cd mY_Re_takeLiar) 60 = .ok (.dup2, 1) := by decide +kernel
theorem d_Re_takeLiar_61 : decode (jm_cd mY_Re_takeLiar) 61 = .ok (.laload, 1) := by decide +kernel
theorem d_Re_takeLiar_62 : decode (jm_cd mY_Re_takeLiar) 62 = .ok (.aload_n 0, 1) := by decide +kernel
theorem d_Re_takeLiar_63 : decode (jm_cd mY_Re_takeLiar) 63 = .ok (.getfield 11, 3) := by decide +kernel
theorem d_Re_takeLiar_66 : decode (jm_cd mY_Re_takeLiar) 66 = .ok (.iconst 1, 1) := by decide +kernel
theorem d_Re_takeLiar_67 : decode (jm_cd mY_Re_takeLiar) 67 = .ok (.iaload, 1) := by decide +kernel
theorem d_Re_takeLiar_68 : decode (jm_cd mY_Re_takeLiar) 68 = .ok (.aload_n 0, 1) := by decide +kernel
theorem d_Re_takeLiar_69 : decode (jm_cd mY_Re_takeLiar) 69 = .ok (.getfield 11, 3) := by decide +kernel
theorem d_Re_takeLiar_72 : decode (jm_cd mY_Re_takeLiar) 72 = .ok (.iconst 2, 1) := by decide +kernel
theorem d_Re_takeLiar_73 : decode (jm_cd mY_Re_takeLiar) 73 = .ok (.iaload, 1) := by decide +kernel
theorem d_Re_takeLiar_74 : decode (jm_cd mY_Re_takeLiar) 74 = .ok (.invokestatic 113, 3) := by decide +kernel
theorem d_Re_takeLiar_77 : decode (jm_cd mY_Re_takeLiar) 77 = .ok (.lor, 1) := by decide +kernel
theorem d_Re_takeLiar_78 : decode (jm_cd mY_Re_takeLiar) 78 = .ok (.lastore, 1) := by decide +kernel
theorem d_Re_takeLiar_79 : decode (jm_cd mY_Re_takeLiar) 79 = .ok (.iconst 1, 1) := by decide +kernel
theorem d_Re_takeLiar_80 : decode (jm_cd mY_Re_takeLiar) 80 = .ok (.ireturn, 1) := by decide +kernel
def s_Re_takeLiar_3_5 (s : jm_M) : Option (Int32 × jm_M) := jm_ldi s 4 4 0 (fun v1 => (if (s.1 3 1) = 3 then jm_bd (s_Ne_isHill_5 s v1) (fun v2 => (if v2 = 0 then (some (0, s)) else jm_bd (s_Re_areMinutes s 1) (fun v3 => (if v3 = 0 then (some (0, s)) else jm_ldi s 6 10 v1 (fun v4 => (if v4 = 2 then (some (0, s)) else jm_ldi s 6 10 v1 (fun v5 => (if v5 = 3 then (some (0, s)) else jm_ldl s 13 10 v1 (fun v6 => jm_ldi s 4 4 1 (fun v7 => jm_ldi s 4 4 2 (fun v8 => jm_bd (s_X_minutesFrom s v7 v8) (fun v9 => jm_stl s 13 10 v1 (v6 ||| v9) (fun s10 => (some (1, s10))))))))))))))) else (some (0, s))))
set_option maxRecDepth 100000 in
set_option maxHeartbeats 4000000 in
theorem s_Re_takeLiar_3_5_ok (s : jm_M) : jm_Sim mY_Re_takeLiar 0 0 0 [(0, .ref 3), (1, .ref 5)] [] 78 mr_154 s (s_Re_takeLiar_3_5 s) (jm_rP 78 mr_154) := by
  unfold s_Re_takeLiar_3_5
  refine jm_aload_n (pc := 0) (q := 0) (x := 3) d_Re_takeLiar_0 rfl ?_
  refine jm_gr (pc := 1) (i := 3) d_Re_takeLiar_1 fo_Re_11 sh_3 ge_3 le_3_78 rfl (fun _ => rfl) mr_154_3_0 ge_4 ?_
  refine jm_iconst (pc := 4) (v := 0) d_Re_takeLiar_4 ci_0 ?_
  refine jm_iald (pc := 5) d_Re_takeLiar_5 sh_4 ge_4 le_4_78 (fun v1 => ?_)
  refine jm_istore_n (pc := 6) (i := 2) (L2 := [(2, .int v1), (0, .ref 3), (1, .ref 5)]) d_Re_takeLiar_6 rfl (Nat.le_of_ble_eq_true rfl) rfl ?_
  refine jm_aload_n (pc := 7) (q := 1) (x := 3) d_Re_takeLiar_7 rfl ?_
  refine jm_gi (pc := 8) (i := 3) d_Re_takeLiar_8 fo_Re_15 sh_3 ge_3 le_3_78 rfl (fun _ => rfl) ?_
  refine jm_iconst (pc := 11) (v := 3) d_Re_takeLiar_11 ci_3 ?_
  refine jm_icmp_ne (pc := 12) (tgt := 31) d_Re_takeLiar_12 (by decide) ?_ ?_
  · refine jm_aload_n (pc := 15) (q := 2) (x := 5) d_Re_takeLiar_15 rfl ?_
    refine jm_iload_n (pc := 16) (q := 0) (x := v1) d_Re_takeLiar_16 rfl ?_
    refine jm_Vp (pc := 17) (Y' := mY_Ne_isHill) (i := 5) (avs := [.int v1]) (rest := []) (s_Ne_isHill_5_ok s v1) ok_Ne_isHill l0_Re_takeLiar__Ne_isHill ml_Re_58 im_Ne_isHill se_Ne_isHill d_Re_takeLiar_17 rfl sh_5 rfl rfl ge_5 le_5_78 rfl (Nat.le_of_ble_eq_true rfl) (Nat.le_of_ble_eq_true rfl) (Nat.le_of_ble_eq_true rfl) (Nat.le_of_ble_eq_true rfl) (fun v2 => ?_)
    refine jm_if_eq (pc := 20) (tgt := 31) d_Re_takeLiar_20 (by decide) ?_ ?_
    · refine jm_iconst (pc := 31) (v := 0) d_Re_takeLiar_31 ci_0 ?_
      exact jm_iret (pc := 32) (x := 0) d_Re_takeLiar_32 rfl (by decide) rfl rfl rfl
    · refine jm_aload_n (pc := 23) (q := 1) (x := 3) d_Re_takeLiar_23 rfl ?_
      refine jm_iconst (pc := 24) (v := 1) d_Re_takeLiar_24 ci_1 ?_
      refine jm_Vp (pc := 25) (Y' := mY_Re_areMinutes) (i := 3) (avs := [.int 1]) (rest := []) (s_Re_areMinutes_ok s 1) ok_Re_areMinutes l0_Re_takeLiar__Re_areMinutes ml_Re_106 im_Re_areMinutes se_Re_areMinutes d_Re_takeLiar_25 rfl sh_3 rfl rfl ge_3 le_3_78 rfl (Nat.le_of_ble_eq_true rfl) (Nat.le_of_ble_eq_true rfl) (Nat.le_of_ble_eq_true rfl) (Nat.le_of_ble_eq_true rfl) (fun v3 => ?_)
      refine jm_if_ne (pc := 28) (tgt := 33) d_Re_takeLiar_28 (by decide) ?_ ?_
      · refine jm_iconst (pc := 31) (v := 0) d_Re_takeLiar_31 ci_0 ?_
        exact jm_iret (pc := 32) (x := 0) d_Re_takeLiar_32 rfl (by decide) rfl rfl rfl
      · refine jm_aload_n (pc := 33) (q := 2) (x := 5) d_Re_takeLiar_33 rfl ?_
        refine jm_gr (pc := 34) (i := 5) d_Re_takeLiar_34 fo_Re_87 sh_5 ge_5 le_5_78 rfl (fun _ => rfl) mr_154_5_1 ge_6 ?_
        refine jm_iload_n (pc := 37) (q := 0) (x := v1) d_Re_takeLiar_37 rfl ?_
        refine jm_iald (pc := 38) d_Re_takeLiar_38 sh_6 ge_6 le_6_78 (fun v4 => ?_)
        refine jm_iconst (pc := 39) (v := 2) d_Re_takeLiar_39 ci_2 ?_
        refine jm_icmp_eq (pc := 40) (tgt := 53) d_Re_takeLiar_40 (by decide) ?_ ?_
        · refine jm_iconst (pc := 53) (v := 0) d_Re_takeLiar_53 ci_0 ?_
          exact jm_iret (pc := 54) (x := 0) d_Re_takeLiar_54 rfl (by decide) rfl rfl rfl
        · refine jm_aload_n (pc := 43) (q := 2) (x := 5) d_Re_takeLiar_43 rfl ?_
          refine jm_gr (pc := 44) (i := 5) d_Re_takeLiar_44 fo_Re_87 sh_5 ge_5 le_5_78 rfl (fun _ => rfl) mr_154_5_1 ge_6 ?_
          refine jm_iload_n (pc := 47) (q := 0) (x := v1) d_Re_takeLiar_47 rfl ?_
          refine jm_iald (pc := 48) d_Re_takeLiar_48 sh_6 ge_6 le_6_78 (fun v5 => ?_)
          refine jm_iconst (pc := 49) (v := 3) d_Re_takeLiar_49 ci_3 ?_
          refine jm_icmp_ne (pc := 50) (tgt := 55) d_Re_takeLiar_50 (by decide) ?_ ?_
          · refine jm_iconst (pc := 53) (v := 0) d_Re_takeLiar_53 ci_0 ?_
            exact jm_iret (pc := 54) (x := 0) d_Re_takeLiar_54 rfl (by decide) rfl rfl rfl
          · refine jm_aload_n (pc := 55) (q := 2) (x := 5) d_Re_takeLiar_55 rfl ?_
            refine jm_gr (pc := 56) (i := 5) d_Re_takeLiar_56 fo_Re_121 sh_5 ge_5 le_5_78 rfl (fun _ => rfl) mr_154_5_8 ge_13 ?_
            refine jm_iload_n (pc := 59) (q := 0) (x := v1) d_Re_takeLiar_59 rfl ?_
            refine jm_dup2 (pc := 60) d_Re_takeLiar_60 rfl rfl ?_
            refine jm_lald (pc := 61) d_Re_takeLiar_61 sh_13 ge_13 le_13_78 (fun v6 => ?_)
            refine jm_aload_n (pc := 62) (q := 1) (x := 3) d_Re_takeLiar_62 rfl ?_
            refine jm_gr (pc := 63) (i := 3) d_Re_takeLiar_63 fo_Re_11 sh_3 ge_3 le_3_78 rfl (fun _ => rfl) mr_154_3_0 ge_4 ?_
            refine jm_iconst (pc := 66) (v := 1) d_Re_takeLiar_66 ci_1 ?_
            refine jm_iald (pc := 67) d_Re_takeLiar_67 sh_4 ge_4 le_4_78 (fun v7 => ?_)
            refine jm_aload_n (pc := 68) (q := 1) (x := 3) d_Re_takeLiar_68 rfl ?_
            refine jm_gr (pc := 69) (i := 3) d_Re_takeLiar_69 fo_Re_11 sh_3 ge_3 le_3_78 rfl (fun _ => rfl) mr_154_3_0 ge_4 ?_
            refine jm_iconst (pc := 72) (v := 2) d_Re_takeLiar_72 ci_2 ?_
            refine jm_iald (pc := 73) d_Re_takeLiar_73 sh_4 ge_4 le_4_78 (fun v8 => ?_)
            refine jm_Nl (pc := 74) (Y' := mY_X_minutesFrom) (avs := [.int v7, .int v8]) (rest := [.long v6, .int v1, .ref 13]) (s_X_minutesFrom_ok s v7 v8) ok_X_minutesFrom l0_Re_takeLiar__X_minutesFrom nl_Re_113 sm_X_minutesFrom d_Re_takeLiar_74 rfl rfl (Nat.le_of_ble_eq_true rfl) (Nat.le_of_ble_eq_true rfl) (Nat.le_of_ble_eq_true rfl) (Nat.le_of_ble_eq_true rfl) (fun v9 => ?_)
            refine jm_lor (pc := 77) d_Re_takeLiar_77 ?_
            refine jm_last (pc := 78) d_Re_takeLiar_78 sh_13 ge_13 le_13_78 (fun s10 => ?_)
            refine jm_iconst (pc := 79) (v := 1) d_Re_takeLiar_79 ci_1 ?_
            exact jm_iret (pc := 80) (x := 1) d_Re_takeLiar_80 rfl (by decide) rfl rfl rfl
  · refine jm_iconst (pc := 31) (v := 0) d_Re_takeLiar_31 ci_0 ?_
    exact jm_iret (pc := 32) (x := 0) d_Re_takeLiar_32 rfl (by decide) rfl rfl rfl
theorem d_Re_takeRule_0 : decode (jm_cd mY_Re_takeRule) 0 = .ok (.aload_n 0, 1) := by decide +kernel
theorem d_Re_takeRule_1 : decode (jm_cd mY_Re_takeRule) 1 = .ok (.getfield 11, 3) := by decide +kernel
theorem d_Re_takeRule_4 : decode (jm_cd mY_Re_takeRule) 4 = .ok (.iconst 0, 1) := by decide +kernel
theorem d_Re_takeRule_5 : decode (jm_cd mY_Re_takeRule) 5 = .ok (.iaload, 1) := by decide +kernel
theorem d_Re_takeRule_6 : decode (jm_cd mY_Re_takeRule) 6 = .ok (.istore_n 2, 1) := by decide +kernel
theorem d_Re_takeRule_7 : decode (jm_cd mY_Re_takeRule) 7 = .ok (.aload_n 0, 1) := by decide +kernel
theorem d_Re_takeRule_8 : decode (jm_cd mY_Re_takeRule) 8 = .ok (.getfield 11, 3) := by decide +kernel
theorem d_Re_takeRule_11 : decode (jm_cd mY_Re_takeRule) 11 = .ok (.iconst 1, 1) := by decide +kernel
theorem d_Re_takeRule_12 : decode (jm_cd mY_Re_takeRule) 12 = .ok (.iaload, 1) := by decide +kernel
theorem d_Re_takeRule_13 : decode (jm_cd mY_Re_takeRule) 13 = .ok (.istore_n 3, 1) := by decide +kernel
theorem d_Re_takeRule_14 : decode (jm_cd mY_Re_takeRule) 14 = .ok (.aload_n 0, 1) := by decide +kernel
theorem d_Re_takeRule_15 : decode (jm_cd mY_Re_takeRule) 15 = .ok (.getfield 11, 3) := by decide +kernel
theorem d_Re_takeRule_18 : decode (jm_cd mY_Re_takeRule) 18 = .ok (.iconst 2, 1) := by decide +kernel
theorem d_Re_takeRule_19 : decode (jm_cd mY_Re_takeRule) 19 = .ok (.iaload, 1) := by decide +kernel
theorem d_Re_takeRule_20 : decode (jm_cd mY_Re_takeRule) 20 = .ok (.istore 4, 2) := by decide +kernel
theorem d_Re_takeRule_22 : decode (jm_cd mY_Re_takeRule) 22 = .ok (.aload_n 0, 1) := by decide +kernel
theorem d_Re_takeRule_23 : decode (jm_cd mY_Re_takeRule) 23 = .ok (.getfield 15, 3) := by decide +kernel
theorem d_Re_takeRule_26 : decode (jm_cd mY_Re_takeRule) 26 = .ok (.iconst 3, 1) := by decide +kernel
theorem d_Re_takeRule_27 : decode (jm_cd mY_Re_takeRule) 27 = .ok (.if_icmp .ne 22, 3) := by decide +kernel
theorem d_Re_takeRule_30 : decode (jm_cd mY_Re_takeRule) 30 = .ok (.aload_n 1, 1) := by decide +kernel
theorem d_Re_takeRule_31 : decode (jm_cd mY_Re_takeRule) 31 = .ok (.iload_n 2, 1) := by decide +kernel
theorem d_Re_takeRule_32 : decode (jm_cd mY_Re_takeRule) 32 = .ok (.invokevirtual 58, 3) := by decide +kernel
theorem d_Re_takeRule_35 : decode (jm_cd mY_Re_takeRule) 35 = .ok (.ifCond .eq 14, 3) := by decide +kernel
theorem d_Re_takeRule_38 : decode (jm_cd mY_Re_takeRule) 38 = .ok (.aload_n 0, 1) := by decide +kernel
theorem d_Re_takeRule_39 : decode (jm_cd mY_Re_takeRule) 39 = .ok (.getfield 29, 3) := by decide +kernel
theorem d_Re_takeRule_42 : decode (jm_cd mY_Re_takeRule) 42 = .ok (.iload_n 2, 1) := by decide +kernel
theorem d_Re_takeRule_43 : decode (jm_cd mY_Re_takeRule) 43 = .ok (.ishr, 1) := by decide +kernel
theorem d_Re_takeRule_44 : decode (jm_cd mY_Re_takeRule) 44 = .ok (.iconst 1, 1) := by decide +kernel
theorem d_Re_takeRule_45 : decode (jm_cd mY_Re_takeRule) 45 = .ok (.iand, 1) := by decide +kernel
theorem d_Re_takeRule_46 : decode (jm_cd mY_Re_takeRule) 46 = .ok (.ifCond .eq 5, 3) := by decide +kernel
theorem d_Re_takeRule_49 : decode (jm_cd mY_Re_takeRule) 49 = .ok (.iconst 0, 1) := by decide +kernel
theorem d_Re_takeRule_50 : decode (jm_cd mY_Re_takeRule) 50 = .ok (.ireturn, 1) := by decide +kernel
theorem d_Re_takeRule_51 : decode (jm_cd mY_Re_takeRule) 51 = .ok (.iload_n 3, 1) := by decide +kernel
theorem d_Re_takeRule_52 : decode (jm_cd mY_Re_takeRule) 52 = .ok (.iconst 1, 1) := by decide +kernel
theorem d_Re_takeRule_53 : decode (jm_cd mY_Re_takeRule) 53 = .ok (.if_icmp .lt 22, 3) := by decide +kernel
theorem d_Re_takeRule_56 : decode (jm_cd mY_Re_takeRule) 56 = .ok (.iload_n 3, 1) := by decide +kernel
theorem d_Re_takeRule_57 : decode (jm_cd mY_Re_takeRule) 57 = .ok (.bipush 9, 2) := by decide +kernel
theorem d_Re_takeRule_59 : decode (jm_cd mY_Re_takeRule) 59 = .ok (.if_icmp .gt 16, 3) := by decide +kernel
theorem d_Re_takeRule_62 : decode (jm_cd mY_Re_takeRule) 62 = .ok (.iload 4, 2) := by decide +kernel
theorem d_Re_takeRule_64 : decode (jm_cd mY_Re_takeRule) 64 = .ok (.iconst 1, 1) := by decide +kernel
theorem d_Re_takeRule_65 : decode (jm_cd mY_Re_takeRule) 65 = .ok (.if_icmp .lt 10, 3) := by decide +kernel
theorem d_Re_takeRule_68 : decode (jm_cd mY_Re_takeRule) 68 = .ok (.iload 4, 2) := by decide +kernel
theorem d_Re_takeRule_70 : decode (jm_cd mY_Re_takeRule) 70 = .ok (.bipush 9, 2) := by decide +kernel
theorem d_Re_takeRule_72 : decode (jm_cd mY_Re_takeRule) 72 = .ok (.if_icmp .le 5, 3) := by decide +kernel
theorem d_Re_takeRule_75 : decode (jm_cd mY_Re_takeRule) 75 = .ok (.iconst 0, 1) := by decide +kernel
theorem d_Re_takeRule_76 : decode (jm_cd mY_Re_takeRule) 76 = .ok (.ireturn, 1) := by decide +kernel
theorem d_Re_takeRule_77 : decode (jm_cd mY_Re_takeRule) 77 = .ok (.aload_n 1, 1) := by decide +kernel
theorem d_Re_takeRule_78 : decode (jm_cd mY_Re_takeRule) 78 = .ok (.getfield 97, 3) := by decide +kernel
theorem d_Re_takeRule_81 : decode (jm_cd mY_Re_takeRule) 81 = .ok (.iload_n 2, 1) := by decide +kernel
theorem d_Re_takeRule_82 : decode (jm_cd mY_Re_takeRule) 82 = .ok (.iload_n 3, 1) := by decide +kernel
theorem d_Re_takeRule_83 : decode (jm_cd mY_Re_takeRule) 83 = .ok (.iastore, 1) := by decide +kernel
theorem d_Re_takeRule_84 : decode (jm_cd mY_Re_takeRule) 84 = .ok (.aload_n 1, 1) := by decide +kernel
theorem d_Re_takeRule_85 : decode (jm_cd mY_Re_takeRule) 85 = .ok (.getfield 100, 3) := by decide +kernel
theorem d_Re_takeRule_88 : decode (jm_cd mY_Re_takeRule) 88 = .ok (.iload_n 2, 1) := by decide +kernel
theorem d_Re_takeRule_89 : decode (jm_cd mY_Re_takeRule) 89 = .ok (.iload 4, 2) := by decide +kernel
theorem d_Re_takeRule_91 : decode (jm_cd mY_Re_takeRule) 91 = .ok (.iastore, 1) := by decide +kernel
theorem d_Re_takeRule_92 : decode (jm_cd mY_Re_takeRule) 92 = .ok (.aload_n 0, 1) := by decide +kernel
theorem d_Re_takeRule_93 : decode (jm_cd mY_Re_takeRule) 93 = .ok (.dup, 1) := by decide +kernel
theorem d_Re_takeRule_94 : decode (jm_cd mY_Re_takeRule) 94 = .ok (.getfield 29, 3) := by decide +kernel
theorem d_Re_takeRule_97 : decode (jm_cd mY_Re_takeRule) 97 = .ok (.iconst 1, 1) := by decide +kernel
theorem d_Re_takeRule_98 : decode (jm_cd mY_Re_takeRule) 98 = .ok (.iload_n 2, 1) := by decide +kernel
theorem d_Re_takeRule_99 : decode (jm_cd mY_Re_takeRule) 99 = .ok (.ishl, 1) := by decide +kernel
theorem d_Re_takeRule_100 : decode (jm_cd mY_Re_takeRule) 100 = .ok (.ior, 1) := by decide +kernel
theorem d_Re_takeRule_101 : decode (jm_cd mY_Re_takeRule) 101 = .ok (.putfield 29, 3) := by decide +kernel
theorem d_Re_takeRule_104 : decode (jm_cd mY_Re_takeRule) 104 = .ok (.iconst 1, 1) := by decide +kernel
theorem d_Re_takeRule_105 : decode (jm_cd mY_Re_takeRule) 105 = .ok (.ireturn, 1) := by decide +kernel
def s_Re_takeRule_3_5 (s : jm_M) : Option (Int32 × jm_M) := jm_ldi s 4 4 0 (fun v1 => jm_ldi s 4 4 1 (fun v2 => jm_ldi s 4 4 2 (fun v3 => (if (s.1 3 1) = 3 then jm_bd (s_Ne_isHill_5 s v1) (fun v4 => (if v4 = 0 then (some (0, s)) else (if (((s.1 3 5) >>> (v1 &&& 31)) &&& 1) = 0 then (if v2 < 1 then (some (0, s)) else (if 9 < v2 then (some (0, s)) else (if v3 < 1 then (some (0, s)) else (if v3 ≤ 9 then jm_sti s 8 10 v1 v2 (fun s5 => jm_sti s5 9 10 v1 v3 (fun s6 => jm_ev (jm_si s6 3 5 ((s6.1 3 5) ||| (1 <<< (v1 &&& 31)))) (fun s7 => (some (1, s7))))) else (some (0, s)))))) else (some (0, s))))) else (some (0, s))))))
set_option maxRecDepth 100000 in
set_option maxHeartbeats 4000000 in
theorem s_Re_takeRule_3_5_ok (s : jm_M) : jm_Sim mY_Re_takeRule 0 0 0 [(0, .ref 3), (1, .ref 5)] [] 78 mr_154 s (s_Re_takeRule_3_5 s) (jm_rP 78 mr_154) := by
  unfold s_Re_takeRule_3_5
  refine jm_aload_n (pc := 0) (q := 0) (x := 3) d_Re_takeRule_0 rfl ?_
  refine jm_gr (pc := 1) (i := 3) d_Re_takeRule_1 fo_Re_11 sh_3 ge_3 le_3_78 rfl (fun _ => rfl) mr_154_3_0 ge_4 ?_
  refine jm_iconst (pc := 4) (v := 0) d_Re_takeRule_4 ci_0 ?_
  refine jm_iald (pc := 5) d_Re_takeRule_5 sh_4 ge_4 le_4_78 (fun v1 => ?_)
  refine jm_istore_n (pc := 6) (i := 2) (L2 := [(2, .int v1), (0, .ref 3), (1, .ref 5)]) d_Re_takeRule_6 rfl (Nat.le_of_ble_eq_true rfl) rfl ?_
  refine jm_aload_n (pc := 7) (q := 1) (x := 3) d_Re_takeRule_7 rfl ?_
  refine jm_gr (pc := 8) (i := 3) d_Re_takeRule_8 fo_Re_11 sh_3 ge_3 le_3_78 rfl (fun _ => rfl) mr_154_3_0 ge_4 ?_
  refine jm_iconst (pc := 11) (v := 1) d_Re_takeRule_11 ci_1 ?_
  refine jm_iald (pc := 12) d_Re_takeRule_12 sh_4 ge_4 le_4_78 (fun v2 => ?_)
  refine jm_istore_n (pc := 13) (i := 3) (L2 := [(3, .int v2), (2, .int v1), (0, .ref 3), (1, .ref 5)]) d_Re_takeRule_13 rfl (Nat.le_of_ble_eq_true rfl) rfl ?_
  refine jm_aload_n (pc := 14) (q := 2) (x := 3) d_Re_takeRule_14 rfl ?_
  refine jm_gr (pc := 15) (i := 3) d_Re_takeRule_15 fo_Re_11 sh_3 ge_3 le_3_78 rfl (fun _ => rfl) mr_154_3_0 ge_4 ?_
  refine jm_iconst (pc := 18) (v := 2) d_Re_takeRule_18 ci_2 ?_
  refine jm_iald (pc := 19) d_Re_takeRule_19 sh_4 ge_4 le_4_78 (fun v3 => ?_)
  refine jm_istore (pc := 20) (L2 := [(4, .int v3), (3, .int v2), (2, .int v1), (0, .ref 3), (1, .ref 5)]) d_Re_takeRule_20 (Nat.le_of_ble_eq_true rfl) rfl ?_
  refine jm_aload_n (pc := 22) (q := 3) (x := 3) d_Re_takeRule_22 rfl ?_
  refine jm_gi (pc := 23) (i := 3) d_Re_takeRule_23 fo_Re_15 sh_3 ge_3 le_3_78 rfl (fun _ => rfl) ?_
  refine jm_iconst (pc := 26) (v := 3) d_Re_takeRule_26 ci_3 ?_
  refine jm_icmp_ne (pc := 27) (tgt := 49) d_Re_takeRule_27 (by decide) ?_ ?_
  · refine jm_aload_n (pc := 30) (q := 4) (x := 5) d_Re_takeRule_30 rfl ?_
    refine jm_iload_n (pc := 31) (q := 2) (x := v1) d_Re_takeRule_31 rfl ?_
    refine jm_Vp (pc := 32) (Y' := mY_Ne_isHill) (i := 5) (avs := [.int v1]) (rest := []) (s_Ne_isHill_5_ok s v1) ok_Ne_isHill l0_Re_takeRule__Ne_isHill ml_Re_58 im_Ne_isHill se_Ne_isHill d_Re_takeRule_32 rfl sh_5 rfl rfl ge_5 le_5_78 rfl (Nat.le_of_ble_eq_true rfl) (Nat.le_of_ble_eq_true rfl) (Nat.le_of_ble_eq_true rfl) (Nat.le_of_ble_eq_true rfl) (fun v4 => ?_)
    refine jm_if_eq (pc := 35) (tgt := 49) d_Re_takeRule_35 (by decide) ?_ ?_
    · refine jm_iconst (pc := 49) (v := 0) d_Re_takeRule_49 ci_0 ?_
      exact jm_iret (pc := 50) (x := 0) d_Re_takeRule_50 rfl (by decide) rfl rfl rfl
    · refine jm_aload_n (pc := 38) (q := 3) (x := 3) d_Re_takeRule_38 rfl ?_
      refine jm_gi (pc := 39) (i := 3) d_Re_takeRule_39 fo_Re_29 sh_3 ge_3 le_3_78 rfl (fun _ => rfl) ?_
      refine jm_iload_n (pc := 42) (q := 2) (x := v1) d_Re_takeRule_42 rfl ?_
      refine jm_ishr (pc := 43) d_Re_takeRule_43 ?_
      refine jm_iconst (pc := 44) (v := 1) d_Re_takeRule_44 ci_1 ?_
      refine jm_iand (pc := 45) d_Re_takeRule_45 ?_
      refine jm_if_eq (pc := 46) (tgt := 51) d_Re_takeRule_46 (by decide) ?_ ?_
      · refine jm_iload_n (pc := 51) (q := 1) (x := v2) d_Re_takeRule_51 rfl ?_
        refine jm_iconst (pc := 52) (v := 1) d_Re_takeRule_52 ci_1 ?_
        refine jm_icmp_lt (pc := 53) (tgt := 75) d_Re_takeRule_53 (by decide) ?_ ?_
        · refine jm_iconst (pc := 75) (v := 0) d_Re_takeRule_75 ci_0 ?_
          exact jm_iret (pc := 76) (x := 0) d_Re_takeRule_76 rfl (by decide) rfl rfl rfl
        · refine jm_iload_n (pc := 56) (q := 1) (x := v2) d_Re_takeRule_56 rfl ?_
          refine jm_bipush (pc := 57) (v := 9) d_Re_takeRule_57 cb_9 ?_
          refine jm_icmp_gt (pc := 59) (tgt := 75) d_Re_takeRule_59 (by decide) ?_ ?_
          · refine jm_iconst (pc := 75) (v := 0) d_Re_takeRule_75 ci_0 ?_
            exact jm_iret (pc := 76) (x := 0) d_Re_takeRule_76 rfl (by decide) rfl rfl rfl
          · refine jm_iload (pc := 62) (q := 0) (x := v3) d_Re_takeRule_62 rfl ?_
            refine jm_iconst (pc := 64) (v := 1) d_Re_takeRule_64 ci_1 ?_
            refine jm_icmp_lt (pc := 65) (tgt := 75) d_Re_takeRule_65 (by decide) ?_ ?_
            · refine jm_iconst (pc := 75) (v := 0) d_Re_takeRule_75 ci_0 ?_
              exact jm_iret (pc := 76) (x := 0) d_Re_takeRule_76 rfl (by decide) rfl rfl rfl
            · refine jm_iload (pc := 68) (q := 0) (x := v3) d_Re_takeRule_68 rfl ?_
              refine jm_bipush (pc := 70) (v := 9) d_Re_takeRule_70 cb_9 ?_
              refine jm_icmp_le (pc := 72) (tgt := 77) d_Re_takeRule_72 (by decide) ?_ ?_
              · refine jm_aload_n (pc := 77) (q := 4) (x := 5) d_Re_takeRule_77 rfl ?_
                refine jm_gr (pc := 78) (i := 5) d_Re_takeRule_78 fo_Re_97 sh_5 ge_5 le_5_78 rfl (fun _ => rfl) mr_154_5_3 ge_8 ?_
                refine jm_iload_n (pc := 81) (q := 2) (x := v1) d_Re_takeRule_81 rfl ?_
                refine jm_iload_n (pc := 82) (q := 1) (x := v2) d_Re_takeRule_82 rfl ?_
                refine jm_iast (pc := 83) d_Re_takeRule_83 sh_8 ge_8 le_8_78 (fun s5 => ?_)
                refine jm_aload_n (pc := 84) (q := 4) (x := 5) d_Re_takeRule_84 rfl ?_
                refine jm_gr (pc := 85) (i := 5) d_Re_takeRule_85 fo_Re_100 sh_5 ge_5 le_5_78 rfl (fun _ => rfl) mr_154_5_4 ge_9 ?_
                refine jm_iload_n (pc := 88) (q := 2) (x := v1) d_Re_takeRule_88 rfl ?_
                refine jm_iload (pc := 89) (q := 0) (x := v3) d_Re_takeRule_89 rfl ?_
                refine jm_iast (pc := 91) d_Re_takeRule_91 sh_9 ge_9 le_9_78 (fun s6 => ?_)
                refine jm_aload_n (pc := 92) (q := 3) (x := 3) d_Re_takeRule_92 rfl ?_
                refine jm_dup (pc := 93) d_Re_takeRule_93 rfl ?_
                refine jm_gi (pc := 94) (i := 3) d_Re_takeRule_94 fo_Re_29 sh_3 ge_3 le_3_78 rfl (fun _ => rfl) ?_
                refine jm_iconst (pc := 97) (v := 1) d_Re_takeRule_97 ci_1 ?_
                refine jm_iload_n (pc := 98) (q := 2) (x := v1) d_Re_takeRule_98 rfl ?_
                refine jm_ishl (pc := 99) d_Re_takeRule_99 ?_
                refine jm_ior (pc := 100) d_Re_takeRule_100 ?_
                refine jm_pi (pc := 101) (i := 3) d_Re_takeRule_101 fp_Re_29 sh_3 ge_3 le_3_78 rfl rfl rfl (fun _ _ _ => rfl) (fun s7 => ?_)
                refine jm_iconst (pc := 104) (v := 1) d_Re_takeRule_104 ci_1 ?_
                exact jm_iret (pc := 105) (x := 1) d_Re_takeRule_105 rfl (by decide) rfl rfl rfl
              · refine jm_iconst (pc := 75) (v := 0) d_Re_takeRule_75 ci_0 ?_
                exact jm_iret (pc := 76) (x := 0) d_Re_takeRule_76 rfl (by decide) rfl rfl rfl
      · refine jm_iconst (pc := 49) (v := 0) d_Re_takeRule_49 ci_0 ?_
        exact jm_iret (pc := 50) (x := 0) d_Re_takeRule_50 rfl (by decide) rfl rfl rfl
  · refine jm_iconst (pc := 49) (v := 0) d_Re_takeRule_49 ci_0 ?_
    exact jm_iret (pc := 50) (x := 0) d_Re_takeRule_50 rfl (by decide) rfl rfl rfl
theorem d_Re_takeSleep_0 : decode (jm_cd mY_Re_takeSleep) 0 = .ok (.aload_n 0, 1) := by decide +kernel
theorem d_Re_takeSleep_1 : decode (jm_cd mY_Re_takeSleep) 1 = .ok (.getfield 11, 3) := by decide +kernel
theorem d_Re_takeSleep_4 : decode (jm_cd mY_Re_takeSleep) 4 = .ok (.iconst 0, 1) := by decide +kernel
theorem d_Re_takeSleep_5 : decode (jm_cd mY_Re_takeSleep) 5 = .ok (.iaload, 1) := by decide +kernel
theorem d_Re_takeSleep_6 : decode (jm_cd mY_Re_takeSleep) 6 = .ok (.istore_n 2, 1) := by decide +kernel
theorem d_Re_takeSleep_7 : decode (jm_cd mY_Re_takeSleep) 7 = .ok (.aload_n 0, 1) := by decide +kernel
theorem d_Re_takeSleep_8 : decode (jm_cd mY_Re_takeSleep) 8 = .ok (.getfield 15, 3) := by decide +kernel
theorem d_Re_takeSleep_11 : decode (jm_cd mY_Re_takeSleep) 11 = .ok (.iconst 3, 1) := by decide +kernel
theorem d_Re_takeSleep_12 : decode (jm_cd mY_Re_takeSleep) 12 = .ok (.if_icmp .ne 19, 3) := by decide +kernel
theorem d_Re_takeSleep_15 : decode (jm_cd mY_Re_takeSleep) 15 = .ok (.aload_n 1, 1) := by decide +kernel
theorem d_Re_takeSleep_16 : decode (jm_cd mY_Re_takeSleep) 16 = .ok (.iload_n 2, 1) := by decide +kernel
theorem d_Re_takeSleep_17 : decode (jm_cd mY_Re_takeSleep) 17 = .ok (.invokevirtual 58, 3) := by decide +kernel
theorem d_Re_takeSleep_20 : decode (jm_cd mY_Re_takeSleep) 20 = .ok (.ifCond .eq 11, 3) := by decide +kernel
theorem d_Re_takeSleep_23 : decode (jm_cd mY_Re_takeSleep) 23 = .ok (.aload_n 0, 1) := by decide +kernel
theorem d_Re_takeSleep_24 : decode (jm_cd mY_Re_takeSleep) 24 = .ok (.iconst 1, 1) := by decide +kernel
theorem d_Re_takeSleep_25 : decode (jm_cd mY_Re_takeSleep) 25 = .ok (.invokevirtual 106, 3) := by decide +kernel
theorem d_Re_takeSleep_28 : decode (jm_cd mY_Re_takeSleep) 28 = .ok (.ifCond .ne 5, 3) := by decide +kernel
theorem d_Re_takeSleep_31 : decode (jm_cd mY_Re_takeSleep) 31 = .ok (.iconst 0, 1) := by decide +kernel
theorem d_Re_takeSleep_32 : decode (jm_cd mY_Re_takeSleep) 32 = .ok (.ireturn, 1) := by decide +kernel
theorem d_Re_takeSleep_33 : decode (jm_cd mY_Re_takeSleep) 33 = .ok (.aload_n 1, 1) := by decide +kernel
theorem d_Re_takeSleep_34 : decode (jm_cd mY_Re_takeSleep) 34 = .ok (.getfield 109, 3) := by decide +kernel
theorem d_Re_takeSleep_37 : decode (jm_cd mY_Re_takeSleep) 37 = .ok (.iload_n 2, 1) := by decide +kernel
theorem d_Re_takeSleep_38 : decode (jm_cd mY_Re_takeSleep) 38 = .ok (.dup2, 1) := by decide +kernel
theorem d_Re_takeSleep_39 : decode (jm_cd mY_Re_takeSleep) 39 = .ok (.laload, 1) := by decide +kernel
theorem d_Re_takeSleep_40 : decode (jm_cd mY_Re_takeSleep) 40 = .ok (.aload_n 0, 1) := by decide +kernel
theorem d_Re_takeSleep_41 : decode (jm_cd mY_Re_takeSleep) 41 = .ok (.getfield 11, 3) := by decide +kernel
theorem d_Re_takeSleep_44 : decode (jm_cd mY_Re_takeSleep) 44 = .ok (.iconst 1, 1) := by decide +kernel
theorem d_Re_takeSleep_45 : decode (jm_cd mY_Re_takeSleep) 45 = .ok (.iaload, 1) := by decide +kernel
theorem d_Re_takeSleep_46 : decode (jm_cd mY_Re_takeSleep) 46 = .ok (.aload_n 0, 1) := by decide +kernel
theorem d_Re_takeSleep_47 : decode (jm_cd mY_Re_takeSleep) 47 = .ok (.getfield 11, 3) := by decide +kernel
theorem d_Re_takeSleep_50 : decode (jm_cd mY_Re_takeSleep) 50 = .ok (.iconst 2, 1) := by decide +kernel
theorem d_Re_takeSleep_51 : decode (jm_cd mY_Re_takeSleep) 51 = .ok (.iaload, 1) := by decide +kernel
theorem d_Re_takeSleep_52 : decode (jm_cd mY_Re_takeSleep) 52 = .ok (.invokestatic 113, 3) := by decide +kernel
theorem d_Re_takeSleep_55 : decode (jm_cd mY_Re_takeSleep) 55 = .ok (.lor, 1) := by decide +kernel
theorem d_Re_takeSleep_56 : decode (jm_cd mY_Re_takeSleep) 56 = .ok (.lastore, 1) := by decide +kernel
theorem d_Re_takeSleep_57 : decode (jm_cd mY_Re_takeSleep) 57 = .ok (.iconst 1, 1) := by decide +kernel
theorem d_Re_takeSleep_58 : decode (jm_cd mY_Re_takeSleep) 58 = .ok (.ireturn, 1) := by decide +kernel
def s_Re_takeSleep_3_5 (s : jm_M) : Option (Int32 × jm_M) := jm_ldi s 4 4 0 (fun v1 => (if (s.1 3 1) = 3 then jm_bd (s_Ne_isHill_5 s v1) (fun v2 => (if v2 = 0 then (some (0, s)) else jm_bd (s_Re_areMinutes s 1) (fun v3 => (if v3 = 0 then (some (0, s)) else jm_ldl s 12 10 v1 (fun v4 => jm_ldi s 4 4 1 (fun v5 => jm_ldi s 4 4 2 (fun v6 => jm_bd (s_X_minutesFrom s v5 v6) (fun v7 => jm_stl s 12 10 v1 (v4 ||| v7) (fun s8 => (some (1, s8))))))))))) else (some (0, s))))
set_option maxRecDepth 100000 in
set_option maxHeartbeats 4000000 in
theorem s_Re_takeSleep_3_5_ok (s : jm_M) : jm_Sim mY_Re_takeSleep 0 0 0 [(0, .ref 3), (1, .ref 5)] [] 78 mr_154 s (s_Re_takeSleep_3_5 s) (jm_rP 78 mr_154) := by
  unfold s_Re_takeSleep_3_5
  refine jm_aload_n (pc := 0) (q := 0) (x := 3) d_Re_takeSleep_0 rfl ?_
  refine jm_gr (pc := 1) (i := 3) d_Re_takeSleep_1 fo_Re_11 sh_3 ge_3 le_3_78 rfl (fun _ => rfl) mr_154_3_0 ge_4 ?_
  refine jm_iconst (pc := 4) (v := 0) d_Re_takeSleep_4 ci_0 ?_
  refine jm_iald (pc := 5) d_Re_takeSleep_5 sh_4 ge_4 le_4_78 (fun v1 => ?_)
  refine jm_istore_n (pc := 6) (i := 2) (L2 := [(2, .int v1), (0, .ref 3), (1, .ref 5)]) d_Re_takeSleep_6 rfl (Nat.le_of_ble_eq_true rfl) rfl ?_
  refine jm_aload_n (pc := 7) (q := 1) (x := 3) d_Re_takeSleep_7 rfl ?_
  refine jm_gi (pc := 8) (i := 3) d_Re_takeSleep_8 fo_Re_15 sh_3 ge_3 le_3_78 rfl (fun _ => rfl) ?_
  refine jm_iconst (pc := 11) (v := 3) d_Re_takeSleep_11 ci_3 ?_
  refine jm_icmp_ne (pc := 12) (tgt := 31) d_Re_takeSleep_12 (by decide) ?_ ?_
  · refine jm_aload_n (pc := 15) (q := 2) (x := 5) d_Re_takeSleep_15 rfl ?_
    refine jm_iload_n (pc := 16) (q := 0) (x := v1) d_Re_takeSleep_16 rfl ?_
    refine jm_Vp (pc := 17) (Y' := mY_Ne_isHill) (i := 5) (avs := [.int v1]) (rest := []) (s_Ne_isHill_5_ok s v1) ok_Ne_isHill l0_Re_takeSleep__Ne_isHill ml_Re_58 im_Ne_isHill se_Ne_isHill d_Re_takeSleep_17 rfl sh_5 rfl rfl ge_5 le_5_78 rfl (Nat.le_of_ble_eq_true rfl) (Nat.le_of_ble_eq_true rfl) (Nat.le_of_ble_eq_true rfl) (Nat.le_of_ble_eq_true rfl) (fun v2 => ?_)
    refine jm_if_eq (pc := 20) (tgt := 31) d_Re_takeSleep_20 (by decide) ?_ ?_
    · refine jm_iconst (pc := 31) (v := 0) d_Re_takeSleep_31 ci_0 ?_
      exact jm_iret (pc := 32) (x := 0) d_Re_takeSleep_32 rfl (by decide) rfl rfl rfl
    · refine jm_aload_n (pc := 23) (q := 1) (x := 3) d_Re_takeSleep_23 rfl ?_
      refine jm_iconst (pc := 24) (v := 1) d_Re_takeSleep_24 ci_1 ?_
      refine jm_Vp (pc := 25) (Y' := mY_Re_areMinutes) (i := 3) (avs := [.int 1]) (rest := []) (s_Re_areMinutes_ok s 1) ok_Re_areMinutes l0_Re_takeSleep__Re_areMinutes ml_Re_106 im_Re_areMinutes se_Re_areMinutes d_Re_takeSleep_25 rfl sh_3 rfl rfl ge_3 le_3_78 rfl (Nat.le_of_ble_eq_true rfl) (Nat.le_of_ble_eq_true rfl) (Nat.le_of_ble_eq_true rfl) (Nat.le_of_ble_eq_true rfl) (fun v3 => ?_)
      refine jm_if_ne (pc := 28) (tgt := 33) d_Re_takeSleep_28 (by decide) ?_ ?_
      · refine jm_iconst (pc := 31) (v := 0) d_Re_takeSleep_31 ci_0 ?_
        exact jm_iret (pc := 32) (x := 0) d_Re_takeSleep_32 rfl (by decide) rfl rfl rfl
      · refine jm_aload_n (pc := 33) (q := 2) (x := 5) d_Re_takeSleep_33 rfl ?_
        refine jm_gr (pc := 34) (i := 5) d_Re_takeSleep_34 fo_Re_109 sh_5 ge_5 le_5_78 rfl (fun _ => rfl) mr_154_5_7 ge_12 ?_
        refine jm_iload_n (pc := 37) (q := 0) (x := v1) d_Re_takeSleep_37 rfl ?_
        refine jm_dup2 (pc := 38) d_Re_takeSleep_38 rfl rfl ?_
        refine jm_lald (pc := 39) d_Re_takeSleep_39 sh_12 ge_12 le_12_78 (fun v4 => ?_)
        refine jm_aload_n (pc := 40) (q := 1) (x := 3) d_Re_takeSleep_40 rfl ?_
        refine jm_gr (pc := 41) (i := 3) d_Re_takeSleep_41 fo_Re_11 sh_3 ge_3 le_3_78 rfl (fun _ => rfl) mr_154_3_0 ge_4 ?_
        refine jm_iconst (pc := 44) (v := 1) d_Re_takeSleep_44 ci_1 ?_
        refine jm_iald (pc := 45) d_Re_takeSleep_45 sh_4 ge_4 le_4_78 (fun v5 => ?_)
        refine jm_aload_n (pc := 46) (q := 1) (x := 3) d_Re_takeSleep_46 rfl ?_
        refine jm_gr (pc := 47) (i := 3) d_Re_takeSleep_47 fo_Re_11 sh_3 ge_3 le_3_78 rfl (fun _ => rfl) mr_154_3_0 ge_4 ?_
        refine jm_iconst (pc := 50) (v := 2) d_Re_takeSleep_50 ci_2 ?_
        refine jm_iald (pc := 51) d_Re_takeSleep_51 sh_4 ge_4 le_4_78 (fun v6 => ?_)
        refine jm_Nl (pc := 52) (Y' := mY_X_minutesFrom) (avs := [.int v5, .int v6]) (rest := [.long v4, .int v1, .ref 12]) (s_X_minutesFrom_ok s v5 v6) ok_X_minutesFrom l0_Re_takeSleep__X_minutesFrom nl_Re_113 sm_X_minutesFrom d_Re_takeSleep_52 rfl rfl (Nat.le_of_ble_eq_true rfl) (Nat.le_of_ble_eq_true rfl) (Nat.le_of_ble_eq_true rfl) (Nat.le_of_ble_eq_true rfl) (fun v7 => ?_)
        refine jm_lor (pc := 55) d_Re_takeSleep_55 ?_
        refine jm_last (pc := 56) d_Re_takeSleep_56 sh_12 ge_12 le_12_78 (fun s8 => ?_)
        refine jm_iconst (pc := 57) (v := 1) d_Re_takeSleep_57 ci_1 ?_
        exact jm_iret (pc := 58) (x := 1) d_Re_takeSleep_58 rfl (by decide) rfl rfl rfl
  · refine jm_iconst (pc := 31) (v := 0) d_Re_takeSleep_31 ci_0 ?_
    exact jm_iret (pc := 32) (x := 0) d_Re_takeSleep_32 rfl (by decide) rfl rfl rfl
theorem d_Re_takeSight_0 : decode (jm_cd mY_Re_takeSight) 0 = .ok (.aload_n 0, 1) := by decide +kernel
theorem d_Re_takeSight_1 : decode (jm_cd mY_Re_takeSight) 1 = .ok (.getfield 11, 3) := by decide +kernel
theorem d_Re_takeSight_4 : decode (jm_cd mY_Re_takeSight) 4 = .ok (.iconst 0, 1) := by decide +kernel
theorem d_Re_takeSight_5 : decode (jm_cd mY_Re_takeSight) 5 = .ok (.iaload, 1) := by decide +kernel
theorem d_Re_takeSight_6 : decode (jm_cd mY_Re_takeSight) 6 = .ok (.istore_n 2, 1) := by decide +kernel
theorem d_Re_takeSight_7 : decode (jm_cd mY_Re_takeSight) 7 = .ok (.aload_n 0, 1) := by decide +kernel
theorem d_Re_takeSight_8 : decode (jm_cd mY_Re_takeSight) 8 = .ok (.getfield 11, 3) := by decide +kernel
theorem d_Re_takeSight_11 : decode (jm_cd mY_Re_takeSight) 11 = .ok (.iconst 1, 1) := by decide +kernel
theorem d_Re_takeSight_12 : decode (jm_cd mY_Re_takeSight) 12 = .ok (.iaload, 1) := by decide +kernel
theorem d_Re_takeSight_13 : decode (jm_cd mY_Re_takeSight) 13 = .ok (.istore_n 3, 1) := by decide +kernel
theorem d_Re_takeSight_14 : decode (jm_cd mY_Re_takeSight) 14 = .ok (.aload_n 0, 1) := by decide +kernel
theorem d_Re_takeSight_15 : decode (jm_cd mY_Re_takeSight) 15 = .ok (.getfield 15, 3) := by decide +kernel
theorem d_Re_takeSight_18 : decode (jm_cd mY_Re_takeSight) 18 = .ok (.iconst 2, 1) := by decide +kernel
theorem d_Re_takeSight_19 : decode (jm_cd mY_Re_takeSight) 19 = .ok (.if_icmp .ne 33, 3) := by decide +kernel
theorem d_Re_takeSight_22 : decode (jm_cd mY_Re_takeSight) 22 = .ok (.aload_n 1, 1) := by decide +kernel
theorem d_Re_takeSight_23 : decode (jm_cd mY_Re_takeSight) 23 = .ok (.iload_n 2, 1) := by decide +kernel
theorem d_Re_takeSight_24 : decode (jm_cd mY_Re_takeSight) 24 = .ok (.invokevirtual 58, 3) := by decide +kernel
theorem d_Re_takeSight_27 : decode (jm_cd mY_Re_takeSight) 27 = .ok (.ifCond .eq 25, 3) := by decide +kernel
theorem d_Re_takeSight_30 : decode (jm_cd mY_Re_takeSight) 30 = .ok (.aload_n 1, 1) := by decide +kernel
theorem d_Re_takeSight_31 : decode (jm_cd mY_Re_takeSight) 31 = .ok (.iload_n 3, 1) := by decide +kernel
theorem d_Re_takeSight_32 : decode (jm_cd mY_Re_takeSight) 32 = .ok (.invokevirtual 58, 3) := by decide +kernel
theorem d_Re_takeSight_35 : decode (jm_cd mY_Re_takeSight) 35 = .ok (.ifCond .eq 17, 3) := by decide +kernel
theorem d_Re_takeSight_38 : decode (jm_cd mY_Re_takeSight) 38 = .ok (.iload_n 2, 1) := by decide +kernel
theorem d_Re_takeSight_39 : decode (jm_cd mY_Re_takeSight) 39 = .ok (.iload_n 3, 1) := by decide +kernel
theorem d_Re_takeSight_40 : decode (jm_cd mY_Re_takeSight) 40 = .ok (.if_icmp .eq 12, 3) := by decide +kernel
theorem d_Re_takeSight_43 : decode (jm_cd mY_Re_takeSight) 43 = .ok (.aload_n 1, 1) := by decide +kernel
theorem d_Re_takeSight_44 : decode (jm_cd mY_Re_takeSight) 44 = .ok (.iload_n 2, 1) := by decide +kernel
theorem d_Re_takeSight_45 : decode (jm_cd mY_Re_takeSight) 45 = .ok (.iload_n 3, 1) := by decide +kernel
theorem d_Re_takeSight_46 : decode (jm_cd mY_Re_takeSight) 46 = .ok (.invokestatic 90, 3) := by decide +kernel
theorem d_Re_takeSight_49 : decode (jm_cd mY_Re_takeSight) 49 = .ok (.ifCond .eq 5, 3) := by decide +kernel
theorem d_Re_takeSight_52 : decode (jm_cd mY_Re_takeSight) 52 = .ok (.iconst 0, 1) := by decide +kernel
theorem d_Re_takeSight_53 : decode (jm_cd mY_Re_takeSight) 53 = .ok (.ireturn, 1) := by decide +kernel
theorem d_Re_takeSight_54 : decode (jm_cd mY_Re_takeSight) 54 = .ok (.aload_n 1, 1) := by decide +kernel
theorem d_Re_takeSight_55 : decode (jm_cd mY_Re_takeSight) 55 = .ok (.getfield 94, 3) := by decide +kernel
theorem d_Re_takeSight_58 : decode (jm_cd mY_Re_takeSight) 58 = .ok (.iload_n 2, 1) := by decide +kernel
theorem d_Re_takeSight_59 : decode (jm_cd mY_Re_takeSight) 59 = .ok (.dup2, 1) := by decide +kernel
theorem d_Re_takeSight_60 : decode (jm_cd mY_Re_takeSight) 60 = .ok (.iaload, 1) := by decide +kernel
theorem d_Re_takeSight_61 : decode (jm_cd mY_Re_takeSight) 61 = .ok (.iconst 1, 1) := by decide +kernel
theorem d_Re_takeSight_62 : decode (jm_cd mY_Re_takeSight) 62 = .ok (.iload_n 3, 1) := by decide +kernel
theorem d_Re_takeSight_63 : decode (jm_cd mY_Re_takeSight) 63 = .ok (.ishl, 1) := by decide +kernel
theorem d_Re_takeSight_64 : decode (jm_cd mY_Re_takeSight) 64 = .ok (.ior, 1) := by decide +kernel
theorem d_Re_takeSight_65 : decode (jm_cd mY_Re_takeSight) 65 = .ok (.iastore, 1) := by decide +kernel
theorem d_Re_takeSight_66 : decode (jm_cd mY_Re_takeSight) 66 = .ok (.aload_n 1, 1) := by decide +kernel
theorem d_Re_takeSight_67 : decode (jm_cd mY_Re_takeSight) 67 = .ok (.getfield 94, 3) := by decide +kernel
theorem d_Re_takeSight_70 : decode (jm_cd mY_Re_takeSight) 70 = .ok (.iload_n 3, 1) := by decide +kernel
theorem d_Re_takeSight_71 : decode (jm_cd mY_Re_takeSight) 71 = .ok (.dup2, 1) := by decide +kernel
theorem d_Re_takeSight_72 : decode (jm_cd mY_Re_takeSight) 72 = .ok (.iaload, 1) := by decide +kernel
theorem d_Re_takeSight_73 : decode (jm_cd mY_Re_takeSight) 73 = .ok (.iconst 1, 1) := by decide +kernel
theorem d_Re_takeSight_74 : decode (jm_cd mY_Re_takeSight) 74 = .ok (.iload_n 2, 1) := by decide +kernel
theorem d_Re_takeSight_75 : decode (jm_cd mY_Re_takeSight) 75 = .ok (.ishl, 1) := by decide +kernel
theorem d_Re_takeSight_76 : decode (jm_cd mY_Re_takeSight) 76 = .ok (.ior, 1) := by decide +kernel
theorem d_Re_takeSight_77 : decode (jm_cd mY_Re_takeSight) 77 = .ok (.iastore, 1) := by decide +kernel
theorem d_Re_takeSight_78 : decode (jm_cd mY_Re_takeSight) 78 = .ok (.iconst 1, 1) := by decide +kernel
theorem d_Re_takeSight_79 : decode (jm_cd mY_Re_takeSight) 79 = .ok (.ireturn, 1) := by decide +kernel
def s_Re_takeSight_3_5 (s : jm_M) : Option (Int32 × jm_M) := jm_ldi s 4 4 0 (fun v1 => jm_ldi s 4 4 1 (fun v2 => (if (s.1 3 1) = 2 then jm_bd (s_Ne_isHill_5 s v1) (fun v3 => (if v3 = 0 then (some (0, s)) else jm_bd (s_Ne_isHill_5 s v2) (fun v4 => (if v4 = 0 then (some (0, s)) else (if v1 = v2 then (some (0, s)) else jm_bd (s_Re_isSight s v1 v2) (fun v5 => (if v5 = 0 then jm_ldi s 7 10 v1 (fun v6 => jm_sti s 7 10 v1 (v6 ||| (1 <<< (v2 &&& 31))) (fun s7 => jm_ldi s7 7 10 v2 (fun v8 => jm_sti s7 7 10 v2 (v8 ||| (1 <<< (v1 &&& 31))) (fun s9 => (some (1, s9)))))) else (some (0, s))))))))) else (some (0, s)))))
set_option maxRecDepth 100000 in
set_option maxHeartbeats 4000000 in
theorem s_Re_takeSight_3_5_ok (s : jm_M) : jm_Sim mY_Re_takeSight 0 0 0 [(0, .ref 3), (1, .ref 5)] [] 78 mr_154 s (s_Re_takeSight_3_5 s) (jm_rP 78 mr_154) := by
  unfold s_Re_takeSight_3_5
  refine jm_aload_n (pc := 0) (q := 0) (x := 3) d_Re_takeSight_0 rfl ?_
  refine jm_gr (pc := 1) (i := 3) d_Re_takeSight_1 fo_Re_11 sh_3 ge_3 le_3_78 rfl (fun _ => rfl) mr_154_3_0 ge_4 ?_
  refine jm_iconst (pc := 4) (v := 0) d_Re_takeSight_4 ci_0 ?_
  refine jm_iald (pc := 5) d_Re_takeSight_5 sh_4 ge_4 le_4_78 (fun v1 => ?_)
  refine jm_istore_n (pc := 6) (i := 2) (L2 := [(2, .int v1), (0, .ref 3), (1, .ref 5)]) d_Re_takeSight_6 rfl (Nat.le_of_ble_eq_true rfl) rfl ?_
  refine jm_aload_n (pc := 7) (q := 1) (x := 3) d_Re_takeSight_7 rfl ?_
  refine jm_gr (pc := 8) (i := 3) d_Re_takeSight_8 fo_Re_11 sh_3 ge_3 le_3_78 rfl (fun _ => rfl) mr_154_3_0 ge_4 ?_
  refine jm_iconst (pc := 11) (v := 1) d_Re_takeSight_11 ci_1 ?_
  refine jm_iald (pc := 12) d_Re_takeSight_12 sh_4 ge_4 le_4_78 (fun v2 => ?_)
  refine jm_istore_n (pc := 13) (i := 3) (L2 := [(3, .int v2), (2, .int v1), (0, .ref 3), (1, .ref 5)]) d_Re_takeSight_13 rfl (Nat.le_of_ble_eq_true rfl) rfl ?_
  refine jm_aload_n (pc := 14) (q := 2) (x := 3) d_Re_takeSight_14 rfl ?_
  refine jm_gi (pc := 15) (i := 3) d_Re_takeSight_15 fo_Re_15 sh_3 ge_3 le_3_78 rfl (fun _ => rfl) ?_
  refine jm_iconst (pc := 18) (v := 2) d_Re_takeSight_18 ci_2 ?_
  refine jm_icmp_ne (pc := 19) (tgt := 52) d_Re_takeSight_19 (by decide) ?_ ?_
  · refine jm_aload_n (pc := 22) (q := 3) (x := 5) d_Re_takeSight_22 rfl ?_
    refine jm_iload_n (pc := 23) (q := 1) (x := v1) d_Re_takeSight_23 rfl ?_
    refine jm_Vp (pc := 24) (Y' := mY_Ne_isHill) (i := 5) (avs := [.int v1]) (rest := []) (s_Ne_isHill_5_ok s v1) ok_Ne_isHill l0_Re_takeSight__Ne_isHill ml_Re_58 im_Ne_isHill se_Ne_isHill d_Re_takeSight_24 rfl sh_5 rfl rfl ge_5 le_5_78 rfl (Nat.le_of_ble_eq_true rfl) (Nat.le_of_ble_eq_true rfl) (Nat.le_of_ble_eq_true rfl) (Nat.le_of_ble_eq_true rfl) (fun v3 => ?_)
    refine jm_if_eq (pc := 27) (tgt := 52) d_Re_takeSight_27 (by decide) ?_ ?_
    · refine jm_iconst (pc := 52) (v := 0) d_Re_takeSight_52 ci_0 ?_
      exact jm_iret (pc := 53) (x := 0) d_Re_takeSight_53 rfl (by decide) rfl rfl rfl
    · refine jm_aload_n (pc := 30) (q := 3) (x := 5) d_Re_takeSight_30 rfl ?_
      refine jm_iload_n (pc := 31) (q := 0) (x := v2) d_Re_takeSight_31 rfl ?_
      refine jm_Vp (pc := 32) (Y' := mY_Ne_isHill) (i := 5) (avs := [.int v2]) (rest := []) (s_Ne_isHill_5_ok s v2) ok_Ne_isHill l0_Re_takeSight__Ne_isHill ml_Re_58 im_Ne_isHill se_Ne_isHill d_Re_takeSight_32 rfl sh_5 rfl rfl ge_5 le_5_78 rfl (Nat.le_of_ble_eq_true rfl) (Nat.le_of_ble_eq_true rfl) (Nat.le_of_ble_eq_true rfl) (Nat.le_of_ble_eq_true rfl) (fun v4 => ?_)
      refine jm_if_eq (pc := 35) (tgt := 52) d_Re_takeSight_35 (by decide) ?_ ?_
      · refine jm_iconst (pc := 52) (v := 0) d_Re_takeSight_52 ci_0 ?_
        exact jm_iret (pc := 53) (x := 0) d_Re_takeSight_53 rfl (by decide) rfl rfl rfl
      · refine jm_iload_n (pc := 38) (q := 1) (x := v1) d_Re_takeSight_38 rfl ?_
        refine jm_iload_n (pc := 39) (q := 0) (x := v2) d_Re_takeSight_39 rfl ?_
        refine jm_icmp_eq (pc := 40) (tgt := 52) d_Re_takeSight_40 (by decide) ?_ ?_
        · refine jm_iconst (pc := 52) (v := 0) d_Re_takeSight_52 ci_0 ?_
          exact jm_iret (pc := 53) (x := 0) d_Re_takeSight_53 rfl (by decide) rfl rfl rfl
        · refine jm_aload_n (pc := 43) (q := 3) (x := 5) d_Re_takeSight_43 rfl ?_
          refine jm_iload_n (pc := 44) (q := 1) (x := v1) d_Re_takeSight_44 rfl ?_
          refine jm_iload_n (pc := 45) (q := 0) (x := v2) d_Re_takeSight_45 rfl ?_
          refine jm_Sp (pc := 46) (Y' := mY_Re_isSight) (avs := [.ref 5, .int v1, .int v2]) (rest := []) (s_Re_isSight_ok s v1 v2) ok_Re_isSight l0_Re_takeSight__Re_isSight ml_Re_90 sm_Re_isSight d_Re_takeSight_46 rfl rfl (Nat.le_of_ble_eq_true rfl) (Nat.le_of_ble_eq_true rfl) (Nat.le_of_ble_eq_true rfl) (Nat.le_of_ble_eq_true rfl) (fun v5 => ?_)
          refine jm_if_eq (pc := 49) (tgt := 54) d_Re_takeSight_49 (by decide) ?_ ?_
          · refine jm_aload_n (pc := 54) (q := 3) (x := 5) d_Re_takeSight_54 rfl ?_
            refine jm_gr (pc := 55) (i := 5) d_Re_takeSight_55 fo_Re_94 sh_5 ge_5 le_5_78 rfl (fun _ => rfl) mr_154_5_2 ge_7 ?_
            refine jm_iload_n (pc := 58) (q := 1) (x := v1) d_Re_takeSight_58 rfl ?_
            refine jm_dup2 (pc := 59) d_Re_takeSight_59 rfl rfl ?_
            refine jm_iald (pc := 60) d_Re_takeSight_60 sh_7 ge_7 le_7_78 (fun v6 => ?_)
            refine jm_iconst (pc := 61) (v := 1) d_Re_takeSight_61 ci_1 ?_
            refine jm_iload_n (pc := 62) (q := 0) (x := v2) d_Re_takeSight_62 rfl ?_
            refine jm_ishl (pc := 63) d_Re_takeSight_63 ?_
            refine jm_ior (pc := 64) d_Re_takeSight_64 ?_
            refine jm_iast (pc := 65) d_Re_takeSight_65 sh_7 ge_7 le_7_78 (fun s7 => ?_)
            refine jm_aload_n (pc := 66) (q := 3) (x := 5) d_Re_takeSight_66 rfl ?_
            refine jm_gr (pc := 67) (i := 5) d_Re_takeSight_67 fo_Re_94 sh_5 ge_5 le_5_78 rfl (fun _ => rfl) mr_154_5_2 ge_7 ?_
            refine jm_iload_n (pc := 70) (q := 0) (x := v2) d_Re_takeSight_70 rfl ?_
            refine jm_dup2 (pc := 71) d_Re_takeSight_71 rfl rfl ?_
            refine jm_iald (pc := 72) d_Re_takeSight_72 sh_7 ge_7 le_7_78 (fun v8 => ?_)
            refine jm_iconst (pc := 73) (v := 1) d_Re_takeSight_73 ci_1 ?_
            refine jm_iload_n (pc := 74) (q := 1) (x := v1) d_Re_takeSight_74 rfl ?_
            refine jm_ishl (pc := 75) d_Re_takeSight_75 ?_
            refine jm_ior (pc := 76) d_Re_takeSight_76 ?_
            refine jm_iast (pc := 77) d_Re_takeSight_77 sh_7 ge_7 le_7_78 (fun s9 => ?_)
            refine jm_iconst (pc := 78) (v := 1) d_Re_takeSight_78 ci_1 ?_
            exact jm_iret (pc := 79) (x := 1) d_Re_takeSight_79 rfl (by decide) rfl rfl rfl
          · refine jm_iconst (pc := 52) (v := 0) d_Re_takeSight_52 ci_0 ?_
            exact jm_iret (pc := 53) (x := 0) d_Re_takeSight_53 rfl (by decide) rfl rfl rfl
  · refine jm_iconst (pc := 52) (v := 0) d_Re_takeSight_52 ci_0 ?_
    exact jm_iret (pc := 53) (x := 0) d_Re_takeSight_53 rfl (by decide) rfl rfl rfl
theorem d_Re_takeWood_0 : decode (jm_cd mY_Re_takeWood) 0 = .ok (.aload_n 0, 1) := by decide +kernel
theorem d_Re_takeWood_1 : decode (jm_cd mY_Re_takeWood) 1 = .ok (.getfield 11, 3) := by decide +kernel
theorem d_Re_takeWood_4 : decode (jm_cd mY_Re_takeWood) 4 = .ok (.iconst 0, 1) := by decide +kernel
theorem d_Re_takeWood_5 : decode (jm_cd mY_Re_takeWood) 5 = .ok (.iaload, 1) := by decide +kernel
theorem d_Re_takeWood_6 : decode (jm_cd mY_Re_takeWood) 6 = .ok (.istore_n 2, 1) := by decide +kernel
theorem d_Re_takeWood_7 : decode (jm_cd mY_Re_takeWood) 7 = .ok (.aload_n 0, 1) := by decide +kernel
theorem d_Re_takeWood_8 : decode (jm_cd mY_Re_takeWood) 8 = .ok (.getfield 15, 3) := by decide +kernel
theorem d_Re_takeWood_11 : decode (jm_cd mY_Re_takeWood) 11 = .ok (.iconst 2, 1) := by decide +kernel
theorem d_Re_takeWood_12 : decode (jm_cd mY_Re_takeWood) 12 = .ok (.if_icmp .ne 22, 3) := by decide +kernel
theorem d_Re_takeWood_15 : decode (jm_cd mY_Re_takeWood) 15 = .ok (.aload_n 1, 1) := by decide +kernel
theorem d_Re_takeWood_16 : decode (jm_cd mY_Re_takeWood) 16 = .ok (.iload_n 2, 1) := by decide +kernel
theorem d_Re_takeWood_17 : decode (jm_cd mY_Re_takeWood) 17 = .ok (.invokevirtual 58, 3) := by decide +kernel
theorem d_Re_takeWood_20 : decode (jm_cd mY_Re_takeWood) 20 = .ok (.ifCond .eq 14, 3) := by decide +kernel
theorem d_Re_takeWood_23 : decode (jm_cd mY_Re_takeWood) 23 = .ok (.aload_n 0, 1) := by decide +kernel
theorem d_Re_takeWood_24 : decode (jm_cd mY_Re_takeWood) 24 = .ok (.getfield 32, 3) := by decide +kernel
theorem d_Re_takeWood_27 : decode (jm_cd mY_Re_takeWood) 27 = .ok (.iload_n 2, 1) := by decide +kernel
theorem d_Re_takeWood_28 : decode (jm_cd mY_Re_takeWood) 28 = .ok (.ishr, 1) := by decide +kernel
theorem d_Re_takeWood_29 : decode (jm_cd mY_Re_takeWood) 29 = .ok (.iconst 1, 1) := by decide +kernel
theorem d_Re_takeWood_30 : decode (jm_cd mY_Re_takeWood) 30 = .ok (.iand, 1) := by decide +kernel
theorem d_Re_takeWood_31 : decode (jm_cd mY_Re_takeWood) 31 = .ok (.ifCond .eq 5, 3) := by decide +kernel
theorem d_Re_takeWood_34 : decode (jm_cd mY_Re_takeWood) 34 = .ok (.iconst 0, 1) := by decide +kernel
theorem d_Re_takeWood_35 : decode (jm_cd mY_Re_takeWood) 35 = .ok (.ireturn, 1) := by decide +kernel
theorem d_Re_takeWood_36 : decode (jm_cd mY_Re_takeWood) 36 = .ok (.aload_n 1, 1) := by decide +kernel
theorem d_Re_takeWood_37 : decode (jm_cd mY_Re_takeWood) 37 = .ok (.getfield 103, 3) := by decide +kernel
theorem d_Re_takeWood_40 : decode (jm_cd mY_Re_takeWood) 40 = .ok (.iload_n 2, 1) := by decide +kernel
theorem d_Re_takeWood_41 : decode (jm_cd mY_Re_takeWood) 41 = .ok (.aload_n 0, 1) := by decide +kernel
theorem d_Re_takeWood_42 : decode (jm_cd mY_Re_takeWood) 42 = .ok (.getfield 11, 3) := by decide +kernel
theorem d_Re_takeWood_45 : decode (jm_cd mY_Re_takeWood) 45 = .ok (.iconst 1, 1) := by decide +kernel
theorem d_Re_takeWood_46 : decode (jm_cd mY_Re_takeWood) 46 = .ok (.iaload, 1) := by decide +kernel
theorem d_Re_takeWood_47 : decode (jm_cd mY_Re_takeWood) 47 = .ok (.iastore, 1) := by decide +kernel
theorem d_Re_takeWood_48 : decode (jm_cd mY_Re_takeWood) 48 = .ok (.aload_n 0, 1) := by decide +kernel
theorem d_Re_takeWood_49 : decode (jm_cd mY_Re_takeWood) 49 = .ok (.dup, 1) := by decide +kernel
theorem d_Re_takeWood_50 : decode (jm_cd mY_Re_takeWood) 50 = .ok (.getfield 32, 3) := by decide +kernel
theorem d_Re_takeWood_53 : decode (jm_cd mY_Re_takeWood) 53 = .ok (.iconst 1, 1) := by decide +kernel
theorem d_Re_takeWood_54 : decode (jm_cd mY_Re_takeWood) 54 = .ok (.iload_n 2, 1) := by decide +kernel
theorem d_Re_takeWood_55 : decode (jm_cd mY_Re_takeWood) 55 = .ok (.ishl, 1) := by decide +kernel
theorem d_Re_takeWood_56 : decode (jm_cd mY_Re_takeWood) 56 = .ok (.ior, 1) := by decide +kernel
theorem d_Re_takeWood_57 : decode (jm_cd mY_Re_takeWood) 57 = .ok (.putfield 32, 3) := by decide +kernel
theorem d_Re_takeWood_60 : decode (jm_cd mY_Re_takeWood) 60 = .ok (.iconst 1, 1) := by decide +kernel
theorem d_Re_takeWood_61 : decode (jm_cd mY_Re_takeWood) 61 = .ok (.ireturn, 1) := by decide +kernel
def s_Re_takeWood_3_5 (s : jm_M) : Option (Int32 × jm_M) := jm_ldi s 4 4 0 (fun v1 => (if (s.1 3 1) = 2 then jm_bd (s_Ne_isHill_5 s v1) (fun v2 => (if v2 = 0 then (some (0, s)) else (if (((s.1 3 6) >>> (v1 &&& 31)) &&& 1) = 0 then jm_ldi s 4 4 1 (fun v3 => jm_sti s 10 10 v1 v3 (fun s4 => jm_ev (jm_si s4 3 6 ((s4.1 3 6) ||| (1 <<< (v1 &&& 31)))) (fun s5 => (some (1, s5))))) else (some (0, s))))) else (some (0, s))))
set_option maxRecDepth 100000 in
set_option maxHeartbeats 4000000 in
theorem s_Re_takeWood_3_5_ok (s : jm_M) : jm_Sim mY_Re_takeWood 0 0 0 [(0, .ref 3), (1, .ref 5)] [] 78 mr_154 s (s_Re_takeWood_3_5 s) (jm_rP 78 mr_154) := by
  unfold s_Re_takeWood_3_5
  refine jm_aload_n (pc := 0) (q := 0) (x := 3) d_Re_takeWood_0 rfl ?_
  refine jm_gr (pc := 1) (i := 3) d_Re_takeWood_1 fo_Re_11 sh_3 ge_3 le_3_78 rfl (fun _ => rfl) mr_154_3_0 ge_4 ?_
  refine jm_iconst (pc := 4) (v := 0) d_Re_takeWood_4 ci_0 ?_
  refine jm_iald (pc := 5) d_Re_takeWood_5 sh_4 ge_4 le_4_78 (fun v1 => ?_)
  refine jm_istore_n (pc := 6) (i := 2) (L2 := [(2, .int v1), (0, .ref 3), (1, .ref 5)]) d_Re_takeWood_6 rfl (Nat.le_of_ble_eq_true rfl) rfl ?_
  refine jm_aload_n (pc := 7) (q := 1) (x := 3) d_Re_takeWood_7 rfl ?_
  refine jm_gi (pc := 8) (i := 3) d_Re_takeWood_8 fo_Re_15 sh_3 ge_3 le_3_78 rfl (fun _ => rfl) ?_
  refine jm_iconst (pc := 11) (v := 2) d_Re_takeWood_11 ci_2 ?_
  refine jm_icmp_ne (pc := 12) (tgt := 34) d_Re_takeWood_12 (by decide) ?_ ?_
  · refine jm_aload_n (pc := 15) (q := 2) (x := 5) d_Re_takeWood_15 rfl ?_
    refine jm_iload_n (pc := 16) (q := 0) (x := v1) d_Re_takeWood_16 rfl ?_
    refine jm_Vp (pc := 17) (Y' := mY_Ne_isHill) (i := 5) (avs := [.int v1]) (rest := []) (s_Ne_isHill_5_ok s v1) ok_Ne_isHill l0_Re_takeWood__Ne_isHill ml_Re_58 im_Ne_isHill se_Ne_isHill d_Re_takeWood_17 rfl sh_5 rfl rfl ge_5 le_5_78 rfl (Nat.le_of_ble_eq_true rfl) (Nat.le_of_ble_eq_true rfl) (Nat.le_of_ble_eq_true rfl) (Nat.le_of_ble_eq_true rfl) (fun v2 => ?_)
    refine jm_if_eq (pc := 20) (tgt := 34) d_Re_takeWood_20 (by decide) ?_ ?_
    · refine jm_iconst (pc := 34) (v := 0) d_Re_takeWood_34 ci_0 ?_
      exact jm_iret (pc := 35) (x := 0) d_Re_takeWood_35 rfl (by decide) rfl rfl rfl
    · refine jm_aload_n (pc := 23) (q := 1) (x := 3) d_Re_takeWood_23 rfl ?_
      refine jm_gi (pc := 24) (i := 3) d_Re_takeWood_24 fo_Re_32 sh_3 ge_3 le_3_78 rfl (fun _ => rfl) ?_
      refine jm_iload_n (pc := 27) (q := 0) (x := v1) d_Re_takeWood_27 rfl ?_
      refine jm_ishr (pc := 28) d_Re_takeWood_28 ?_
      refine jm_iconst (pc := 29) (v := 1) d_Re_takeWood_29 ci_1 ?_
      refine jm_iand (pc := 30) d_Re_takeWood_30 ?_
      refine jm_if_eq (pc := 31) (tgt := 36) d_Re_takeWood_31 (by decide) ?_ ?_
      · refine jm_aload_n (pc := 36) (q := 2) (x := 5) d_Re_takeWood_36 rfl ?_
        refine jm_gr (pc := 37) (i := 5) d_Re_takeWood_37 fo_Re_103 sh_5 ge_5 le_5_78 rfl (fun _ => rfl) mr_154_5_5 ge_10 ?_
        refine jm_iload_n (pc := 40) (q := 0) (x := v1) d_Re_takeWood_40 rfl ?_
        refine jm_aload_n (pc := 41) (q := 1) (x := 3) d_Re_takeWood_41 rfl ?_
        refine jm_gr (pc := 42) (i := 3) d_Re_takeWood_42 fo_Re_11 sh_3 ge_3 le_3_78 rfl (fun _ => rfl) mr_154_3_0 ge_4 ?_
        refine jm_iconst (pc := 45) (v := 1) d_Re_takeWood_45 ci_1 ?_
        refine jm_iald (pc := 46) d_Re_takeWood_46 sh_4 ge_4 le_4_78 (fun v3 => ?_)
        refine jm_iast (pc := 47) d_Re_takeWood_47 sh_10 ge_10 le_10_78 (fun s4 => ?_)
        refine jm_aload_n (pc := 48) (q := 1) (x := 3) d_Re_takeWood_48 rfl ?_
        refine jm_dup (pc := 49) d_Re_takeWood_49 rfl ?_
        refine jm_gi (pc := 50) (i := 3) d_Re_takeWood_50 fo_Re_32 sh_3 ge_3 le_3_78 rfl (fun _ => rfl) ?_
        refine jm_iconst (pc := 53) (v := 1) d_Re_takeWood_53 ci_1 ?_
        refine jm_iload_n (pc := 54) (q := 0) (x := v1) d_Re_takeWood_54 rfl ?_
        refine jm_ishl (pc := 55) d_Re_takeWood_55 ?_
        refine jm_ior (pc := 56) d_Re_takeWood_56 ?_
        refine jm_pi (pc := 57) (i := 3) d_Re_takeWood_57 fp_Re_32 sh_3 ge_3 le_3_78 rfl rfl rfl (fun _ _ _ => rfl) (fun s5 => ?_)
        refine jm_iconst (pc := 60) (v := 1) d_Re_takeWood_60 ci_1 ?_
        exact jm_iret (pc := 61) (x := 1) d_Re_takeWood_61 rfl (by decide) rfl rfl rfl
      · refine jm_iconst (pc := 34) (v := 0) d_Re_takeWood_34 ci_0 ?_
        exact jm_iret (pc := 35) (x := 0) d_Re_takeWood_35 rfl (by decide) rfl rfl rfl
  · refine jm_iconst (pc := 34) (v := 0) d_Re_takeWood_34 ci_0 ?_
    exact jm_iret (pc := 35) (x := 0) d_Re_takeWood_35 rfl (by decide) rfl rfl rfl
