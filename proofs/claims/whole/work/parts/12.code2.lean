theorem d_Ne_ofKind_0 : decode (jm_cd mY_Ne_ofKind) 0 = .ok (.iconst 0, 1) := by decide +kernel
theorem d_Ne_ofKind_1 : decode (jm_cd mY_Ne_ofKind) 1 = .ok (.istore_n 2, 1) := by decide +kernel
theorem d_Ne_ofKind_2 : decode (jm_cd mY_Ne_ofKind) 2 = .ok (.iconst 0, 1) := by decide +kernel
theorem d_Ne_ofKind_3 : decode (jm_cd mY_Ne_ofKind) 3 = .ok (.istore_n 3, 1) := by decide +kernel
theorem d_Ne_ofKind_4 : decode (jm_cd mY_Ne_ofKind) 4 = .ok (.iload_n 3, 1) := by decide +kernel
theorem d_Ne_ofKind_5 : decode (jm_cd mY_Ne_ofKind) 5 = .ok (.bipush 10, 2) := by decide +kernel
theorem d_Ne_ofKind_7 : decode (jm_cd mY_Ne_ofKind) 7 = .ok (.if_icmp .ge 25, 3) := by decide +kernel
theorem d_Ne_ofKind_10 : decode (jm_cd mY_Ne_ofKind) 10 = .ok (.aload_n 0, 1) := by decide +kernel
theorem d_Ne_ofKind_11 : decode (jm_cd mY_Ne_ofKind) 11 = .ok (.getfield 15, 3) := by decide +kernel
theorem d_Ne_ofKind_14 : decode (jm_cd mY_Ne_ofKind) 14 = .ok (.iload_n 3, 1) := by decide +kernel
theorem d_Ne_ofKind_15 : decode (jm_cd mY_Ne_ofKind) 15 = .ok (.iaload, 1) := by decide +kernel
theorem d_Ne_ofKind_16 : decode (jm_cd mY_Ne_ofKind) 16 = .ok (.iload_n 1, 1) := by decide +kernel
theorem d_Ne_ofKind_17 : decode (jm_cd mY_Ne_ofKind) 17 = .ok (.if_icmp .ne 9, 3) := by decide +kernel
theorem d_Ne_ofKind_20 : decode (jm_cd mY_Ne_ofKind) 20 = .ok (.iload_n 2, 1) := by decide +kernel
theorem d_Ne_ofKind_21 : decode (jm_cd mY_Ne_ofKind) 21 = .ok (.iconst 1, 1) := by decide +kernel
theorem d_Ne_ofKind_22 : decode (jm_cd mY_Ne_ofKind) 22 = .ok (.iload_n 3, 1) := by decide +kernel
theorem d_Ne_ofKind_23 : decode (jm_cd mY_Ne_ofKind) 23 = .ok (.ishl, 1) := by decide +kernel
theorem d_Ne_ofKind_24 : decode (jm_cd mY_Ne_ofKind) 24 = .ok (.ior, 1) := by decide +kernel
theorem d_Ne_ofKind_25 : decode (jm_cd mY_Ne_ofKind) 25 = .ok (.istore_n 2, 1) := by decide +kernel
theorem d_Ne_ofKind_26 : decode (jm_cd mY_Ne_ofKind) 26 = .ok (.iinc 3 1, 3) := by decide +kernel
theorem d_Ne_ofKind_29 : decode (jm_cd mY_Ne_ofKind) 29 = .ok (.goto (-25), 3) := by decide +kernel
theorem d_Ne_ofKind_32 : decode (jm_cd mY_Ne_ofKind) 32 = .ok (.iload_n 2, 1) := by decide +kernel
theorem d_Ne_ofKind_33 : decode (jm_cd mY_Ne_ofKind) 33 = .ok (.ireturn, 1) := by decide +kernel
def s_Ne_ofKind_5_L4 (s : jm_M) : Nat → Int32 → Int32 → Int32 → Option Int32
  | 0, _, _, _ => none
  | n + 1, x1, x2, x3 => (if 10 ≤ x3 then (some x2) else jm_ldi s 6 10 x3 (fun v1 => (if v1 = x1 then jm_vi (x2 ||| (1 <<< (x3 &&& 31))) (fun v2 => s_Ne_ofKind_5_L4 s n x1 v2 (x3 + 1)) else s_Ne_ofKind_5_L4 s n x1 x2 (x3 + 1))))
set_option maxRecDepth 100000 in
set_option maxHeartbeats 4000000 in
theorem s_Ne_ofKind_5_L4_ok (s : jm_M) : ∀ (n : Nat) (x1 : Int32) (x2 : Int32) (x3 : Int32), jm_Sim mY_Ne_ofKind 0 0 4 [(0, .ref 5), (1, .int x1), (2, .int x2), (3, .int x3)] [] 78 mr_154 s (s_Ne_ofKind_5_L4 s n x1 x2 x3) (jm_rI 78 mr_154 s) := by
  intro n
  induction n with
  | zero => intro x1 x2 x3; exact jm_none
  | succ n ih =>
    intro x1 x2 x3
    rw [s_Ne_ofKind_5_L4]
    refine jm_iload_n (pc := 4) (q := 3) (x := x3) d_Ne_ofKind_4 rfl ?_
    refine jm_bipush (pc := 5) (v := 10) d_Ne_ofKind_5 cb_10 ?_
    refine jm_icmp_ge (pc := 7) (tgt := 32) d_Ne_ofKind_7 (by decide) ?_ ?_
    · refine jm_iload_n (pc := 32) (q := 2) (x := x2) d_Ne_ofKind_32 rfl ?_
      exact jm_iret (pc := 33) (x := x2) d_Ne_ofKind_33 rfl rfl rfl rfl rfl
    · refine jm_aload_n (pc := 10) (q := 0) (x := 5) d_Ne_ofKind_10 rfl ?_
      refine jm_gr (pc := 11) (i := 5) d_Ne_ofKind_11 fo_Ne_15 sh_5 ge_5 le_5_78 rfl (fun _ => rfl) mr_154_5_1 ge_6 ?_
      refine jm_iload_n (pc := 14) (q := 3) (x := x3) d_Ne_ofKind_14 rfl ?_
      refine jm_iald (pc := 15) d_Ne_ofKind_15 sh_6 ge_6 le_6_78 (fun v1 => ?_)
      refine jm_iload_n (pc := 16) (q := 1) (x := x1) d_Ne_ofKind_16 rfl ?_
      refine jm_icmp_ne (pc := 17) (tgt := 26) d_Ne_ofKind_17 (by decide) ?_ ?_
      · refine jm_iload_n (pc := 20) (q := 2) (x := x2) d_Ne_ofKind_20 rfl ?_
        refine jm_iconst (pc := 21) (v := 1) d_Ne_ofKind_21 ci_1 ?_
        refine jm_iload_n (pc := 22) (q := 3) (x := x3) d_Ne_ofKind_22 rfl ?_
        refine jm_ishl (pc := 23) d_Ne_ofKind_23 ?_
        refine jm_ior (pc := 24) d_Ne_ofKind_24 ?_
        refine jm_nvi (fun v2 => ?_)
        refine jm_istore_n (pc := 25) (i := 2) (L2 := [(2, .int v2), (0, .ref 5), (1, .int x1), (3, .int x3)]) d_Ne_ofKind_25 rfl (Nat.le_of_ble_eq_true rfl) rfl ?_
        refine jm_iinc (pc := 26) (q := 3) (x := x3) (v := 1) (L2 := [(3, .int (x3 + 1)), (2, .int v2), (0, .ref 5), (1, .int x1)]) d_Ne_ofKind_26 rfl ci_1 (Nat.le_of_ble_eq_true rfl) rfl ?_
        refine jm_goto (pc := 29) (tgt := 4) d_Ne_ofKind_29 (by decide) ?_
        refine jm_sub (L2 := [(0, .ref 5), (1, .int x1), (2, .int v2), (3, .int (x3 + 1))]) [2, 3, 1, 0] rfl ?_
        exact ih x1 v2 (x3 + 1)
      · refine jm_iinc (pc := 26) (q := 3) (x := x3) (v := 1) (L2 := [(3, .int (x3 + 1)), (0, .ref 5), (1, .int x1), (2, .int x2)]) d_Ne_ofKind_26 rfl ci_1 (Nat.le_of_ble_eq_true rfl) rfl ?_
        refine jm_goto (pc := 29) (tgt := 4) d_Ne_ofKind_29 (by decide) ?_
        refine jm_sub (L2 := [(0, .ref 5), (1, .int x1), (2, .int x2), (3, .int (x3 + 1))]) [1, 2, 3, 0] rfl ?_
        exact ih x1 x2 (x3 + 1)
def s_Ne_ofKind_5 (s : jm_M) (a0 : Int32) : Option Int32 := s_Ne_ofKind_5_L4 s 5000 a0 0 0
set_option maxRecDepth 100000 in
set_option maxHeartbeats 4000000 in
theorem s_Ne_ofKind_5_ok (s : jm_M) (a0 : Int32) : jm_Sim mY_Ne_ofKind 0 0 0 [(0, .ref 5), (1, .int a0)] [] 78 mr_154 s (s_Ne_ofKind_5 s a0) (jm_rI 78 mr_154 s) := by
  unfold s_Ne_ofKind_5
  refine jm_iconst (pc := 0) (v := 0) d_Ne_ofKind_0 ci_0 ?_
  refine jm_istore_n (pc := 1) (i := 2) (L2 := [(2, .int 0), (0, .ref 5), (1, .int a0)]) d_Ne_ofKind_1 rfl (Nat.le_of_ble_eq_true rfl) rfl ?_
  refine jm_iconst (pc := 2) (v := 0) d_Ne_ofKind_2 ci_0 ?_
  refine jm_istore_n (pc := 3) (i := 3) (L2 := [(3, .int 0), (2, .int 0), (0, .ref 5), (1, .int a0)]) d_Ne_ofKind_3 rfl (Nat.le_of_ble_eq_true rfl) rfl ?_
  refine jm_sub (L2 := [(0, .ref 5), (1, .int a0), (2, .int 0), (3, .int 0)]) [2, 3, 1, 0] rfl ?_
  exact s_Ne_ofKind_5_L4_ok s 5000 a0 0 0
theorem d_Ne_hasEar_0 : decode (jm_cd mY_Ne_hasEar) 0 = .ok (.aload_n 0, 1) := by decide +kernel
theorem d_Ne_hasEar_1 : decode (jm_cd mY_Ne_hasEar) 1 = .ok (.iconst 2, 1) := by decide +kernel
theorem d_Ne_hasEar_2 : decode (jm_cd mY_Ne_hasEar) 2 = .ok (.invokevirtual 54, 3) := by decide +kernel
theorem d_Ne_hasEar_5 : decode (jm_cd mY_Ne_hasEar) 5 = .ok (.ifCond .eq 7, 3) := by decide +kernel
theorem d_Ne_hasEar_8 : decode (jm_cd mY_Ne_hasEar) 8 = .ok (.iconst 1, 1) := by decide +kernel
theorem d_Ne_hasEar_9 : decode (jm_cd mY_Ne_hasEar) 9 = .ok (.goto 4, 3) := by decide +kernel
theorem d_Ne_hasEar_12 : decode (jm_cd mY_Ne_hasEar) 12 = .ok (.iconst 0, 1) := by decide +kernel
theorem d_Ne_hasEar_13 : decode (jm_cd mY_Ne_hasEar) 13 = .ok (.ireturn, 1) := by decide +kernel
def s_Ne_hasEar_5 (s : jm_M) : Option Int32 := jm_bd (s_Ne_ofKind_5 s 2) (fun v1 => (if v1 = 0 then (some 0) else (some 1)))
set_option maxRecDepth 100000 in
set_option maxHeartbeats 4000000 in
theorem s_Ne_hasEar_5_ok (s : jm_M) : jm_Sim mY_Ne_hasEar 0 0 0 [(0, .ref 5)] [] 78 mr_154 s (s_Ne_hasEar_5 s) (jm_rI 78 mr_154 s) := by
  unfold s_Ne_hasEar_5
  refine jm_aload_n (pc := 0) (q := 0) (x := 5) d_Ne_hasEar_0 rfl ?_
  refine jm_iconst (pc := 1) (v := 2) d_Ne_hasEar_1 ci_2 ?_
  refine jm_Vp (pc := 2) (Y' := mY_Ne_ofKind) (i := 5) (avs := [.int 2]) (rest := []) (s_Ne_ofKind_5_ok s 2) ok_Ne_ofKind l0_Ne_hasEar__Ne_ofKind ml_Ne_54 im_Ne_ofKind se_Ne_ofKind d_Ne_hasEar_2 rfl sh_5 rfl rfl ge_5 le_5_78 rfl (Nat.le_of_ble_eq_true rfl) (Nat.le_of_ble_eq_true rfl) (Nat.le_of_ble_eq_true rfl) (Nat.le_of_ble_eq_true rfl) (fun v1 => ?_)
  refine jm_if_eq (pc := 5) (tgt := 12) d_Ne_hasEar_5 (by decide) ?_ ?_
  · refine jm_iconst (pc := 12) (v := 0) d_Ne_hasEar_12 ci_0 ?_
    exact jm_iret (pc := 13) (x := 0) d_Ne_hasEar_13 rfl (by decide) rfl rfl rfl
  · refine jm_iconst (pc := 8) (v := 1) d_Ne_hasEar_8 ci_1 ?_
    refine jm_goto (pc := 9) (tgt := 13) d_Ne_hasEar_9 (by decide) ?_
    exact jm_iret (pc := 13) (x := 1) d_Ne_hasEar_13 rfl (by decide) rfl rfl rfl
theorem d_Re_takeHill_0 : decode (jm_cd mY_Re_takeHill) 0 = .ok (.aload_n 0, 1) := by decide +kernel
theorem d_Re_takeHill_1 : decode (jm_cd mY_Re_takeHill) 1 = .ok (.getfield 11, 3) := by decide +kernel
theorem d_Re_takeHill_4 : decode (jm_cd mY_Re_takeHill) 4 = .ok (.iconst 0, 1) := by decide +kernel
theorem d_Re_takeHill_5 : decode (jm_cd mY_Re_takeHill) 5 = .ok (.iaload, 1) := by decide +kernel
theorem d_Re_takeHill_6 : decode (jm_cd mY_Re_takeHill) 6 = .ok (.istore_n 2, 1) := by decide +kernel
theorem d_Re_takeHill_7 : decode (jm_cd mY_Re_takeHill) 7 = .ok (.aload_n 0, 1) := by decide +kernel
theorem d_Re_takeHill_8 : decode (jm_cd mY_Re_takeHill) 8 = .ok (.getfield 15, 3) := by decide +kernel
theorem d_Re_takeHill_11 : decode (jm_cd mY_Re_takeHill) 11 = .ok (.iconst 1, 1) := by decide +kernel
theorem d_Re_takeHill_12 : decode (jm_cd mY_Re_takeHill) 12 = .ok (.if_icmp .ne 29, 3) := by decide +kernel
theorem d_Re_takeHill_15 : decode (jm_cd mY_Re_takeHill) 15 = .ok (.iload_n 2, 1) := by decide +kernel
theorem d_Re_takeHill_16 : decode (jm_cd mY_Re_takeHill) 16 = .ok (.iconst 3, 1) := by decide +kernel
theorem d_Re_takeHill_17 : decode (jm_cd mY_Re_takeHill) 17 = .ok (.if_icmp .gt 24, 3) := by decide +kernel
theorem d_Re_takeHill_20 : decode (jm_cd mY_Re_takeHill) 20 = .ok (.aload_n 1, 1) := by decide +kernel
theorem d_Re_takeHill_21 : decode (jm_cd mY_Re_takeHill) 21 = .ok (.getfield 80, 3) := by decide +kernel
theorem d_Re_takeHill_24 : decode (jm_cd mY_Re_takeHill) 24 = .ok (.bipush 10, 2) := by decide +kernel
theorem d_Re_takeHill_26 : decode (jm_cd mY_Re_takeHill) 26 = .ok (.if_icmp .ge 15, 3) := by decide +kernel
theorem d_Re_takeHill_29 : decode (jm_cd mY_Re_takeHill) 29 = .ok (.iload_n 2, 1) := by decide +kernel
theorem d_Re_takeHill_30 : decode (jm_cd mY_Re_takeHill) 30 = .ok (.iconst 2, 1) := by decide +kernel
theorem d_Re_takeHill_31 : decode (jm_cd mY_Re_takeHill) 31 = .ok (.if_icmp .ne 12, 3) := by decide +kernel
theorem d_Re_takeHill_34 : decode (jm_cd mY_Re_takeHill) 34 = .ok (.aload_n 1, 1) := by decide +kernel
theorem d_Re_takeHill_35 : decode (jm_cd mY_Re_takeHill) 35 = .ok (.invokevirtual 83, 3) := by decide +kernel
theorem d_Re_takeHill_38 : decode (jm_cd mY_Re_takeHill) 38 = .ok (.ifCond .eq 5, 3) := by decide +kernel
theorem d_Re_takeHill_41 : decode (jm_cd mY_Re_takeHill) 41 = .ok (.iconst 0, 1) := by decide +kernel
theorem d_Re_takeHill_42 : decode (jm_cd mY_Re_takeHill) 42 = .ok (.ireturn, 1) := by decide +kernel
theorem d_Re_takeHill_43 : decode (jm_cd mY_Re_takeHill) 43 = .ok (.aload_n 1, 1) := by decide +kernel
theorem d_Re_takeHill_44 : decode (jm_cd mY_Re_takeHill) 44 = .ok (.getfield 87, 3) := by decide +kernel
theorem d_Re_takeHill_47 : decode (jm_cd mY_Re_takeHill) 47 = .ok (.aload_n 1, 1) := by decide +kernel
theorem d_Re_takeHill_48 : decode (jm_cd mY_Re_takeHill) 48 = .ok (.getfield 80, 3) := by decide +kernel
theorem d_Re_takeHill_51 : decode (jm_cd mY_Re_takeHill) 51 = .ok (.iload_n 2, 1) := by decide +kernel
theorem d_Re_takeHill_52 : decode (jm_cd mY_Re_takeHill) 52 = .ok (.iastore, 1) := by decide +kernel
theorem d_Re_takeHill_53 : decode (jm_cd mY_Re_takeHill) 53 = .ok (.aload_n 1, 1) := by decide +kernel
theorem d_Re_takeHill_54 : decode (jm_cd mY_Re_takeHill) 54 = .ok (.dup, 1) := by decide +kernel
theorem d_Re_takeHill_55 : decode (jm_cd mY_Re_takeHill) 55 = .ok (.getfield 80, 3) := by decide +kernel
theorem d_Re_takeHill_58 : decode (jm_cd mY_Re_takeHill) 58 = .ok (.iconst 1, 1) := by decide +kernel
theorem d_Re_takeHill_59 : decode (jm_cd mY_Re_takeHill) 59 = .ok (.iadd, 1) := by decide +kernel
theorem d_Re_takeHill_60 : decode (jm_cd mY_Re_takeHill) 60 = .ok (.putfield 80, 3) := by decide +kernel
theorem d_Re_takeHill_63 : decode (jm_cd mY_Re_takeHill) 63 = .ok (.iconst 1, 1) := by decide +kernel
theorem d_Re_takeHill_64 : decode (jm_cd mY_Re_takeHill) 64 = .ok (.ireturn, 1) := by decide +kernel
def s_Re_takeHill_3_5_J43 (x2 : Int32) (s : jm_M) : Option (Int32 × jm_M) := jm_sti s 6 10 (s.1 5 0) x2 (fun s2 => jm_ev (jm_si s2 5 0 ((s2.1 5 0) + 1)) (fun s3 => (some (1, s3))))
set_option maxRecDepth 100000 in
set_option maxHeartbeats 4000000 in
theorem s_Re_takeHill_3_5_J43_ok (x2 : Int32) (s : jm_M) : jm_Sim mY_Re_takeHill 0 0 43 [(1, .ref 5), (2, .int x2)] [] 78 mr_154 s (s_Re_takeHill_3_5_J43 x2 s) (jm_rP 78 mr_154) := by
  unfold s_Re_takeHill_3_5_J43
  refine jm_aload_n (pc := 43) (q := 0) (x := 5) d_Re_takeHill_43 rfl ?_
  refine jm_gr (pc := 44) (i := 5) d_Re_takeHill_44 fo_Re_87 sh_5 ge_5 le_5_78 rfl (fun _ => rfl) mr_154_5_1 ge_6 ?_
  refine jm_aload_n (pc := 47) (q := 0) (x := 5) d_Re_takeHill_47 rfl ?_
  refine jm_gi (pc := 48) (i := 5) d_Re_takeHill_48 fo_Re_80 sh_5 ge_5 le_5_78 rfl (fun _ => rfl) ?_
  refine jm_iload_n (pc := 51) (q := 1) (x := x2) d_Re_takeHill_51 rfl ?_
  refine jm_iast (pc := 52) d_Re_takeHill_52 sh_6 ge_6 le_6_78 (fun s2 => ?_)
  refine jm_aload_n (pc := 53) (q := 0) (x := 5) d_Re_takeHill_53 rfl ?_
  refine jm_dup (pc := 54) d_Re_takeHill_54 rfl ?_
  refine jm_gi (pc := 55) (i := 5) d_Re_takeHill_55 fo_Re_80 sh_5 ge_5 le_5_78 rfl (fun _ => rfl) ?_
  refine jm_iconst (pc := 58) (v := 1) d_Re_takeHill_58 ci_1 ?_
  refine jm_iadd (pc := 59) d_Re_takeHill_59 ?_
  refine jm_pi (pc := 60) (i := 5) d_Re_takeHill_60 fp_Re_80 sh_5 ge_5 le_5_78 rfl rfl rfl (fun _ _ _ => rfl) (fun s3 => ?_)
  refine jm_iconst (pc := 63) (v := 1) d_Re_takeHill_63 ci_1 ?_
  exact jm_iret (pc := 64) (x := 1) d_Re_takeHill_64 rfl (by decide) rfl rfl rfl
def s_Re_takeHill_3_5 (s : jm_M) : Option (Int32 × jm_M) := jm_ldi s 4 4 0 (fun v1 => (if (s.1 3 1) = 1 then (if 3 < v1 then (some (0, s)) else (if 10 ≤ (s.1 5 0) then (some (0, s)) else (if v1 = 2 then jm_bd (s_Ne_hasEar_5 s) (fun v4 => (if v4 = 0 then s_Re_takeHill_3_5_J43 v1 s else (some (0, s)))) else s_Re_takeHill_3_5_J43 v1 s))) else (some (0, s))))
set_option maxRecDepth 100000 in
set_option maxHeartbeats 4000000 in
theorem s_Re_takeHill_3_5_ok (s : jm_M) : jm_Sim mY_Re_takeHill 0 0 0 [(0, .ref 3), (1, .ref 5)] [] 78 mr_154 s (s_Re_takeHill_3_5 s) (jm_rP 78 mr_154) := by
  unfold s_Re_takeHill_3_5
  refine jm_aload_n (pc := 0) (q := 0) (x := 3) d_Re_takeHill_0 rfl ?_
  refine jm_gr (pc := 1) (i := 3) d_Re_takeHill_1 fo_Re_11 sh_3 ge_3 le_3_78 rfl (fun _ => rfl) mr_154_3_0 ge_4 ?_
  refine jm_iconst (pc := 4) (v := 0) d_Re_takeHill_4 ci_0 ?_
  refine jm_iald (pc := 5) d_Re_takeHill_5 sh_4 ge_4 le_4_78 (fun v1 => ?_)
  refine jm_istore_n (pc := 6) (i := 2) (L2 := [(2, .int v1), (0, .ref 3), (1, .ref 5)]) d_Re_takeHill_6 rfl (Nat.le_of_ble_eq_true rfl) rfl ?_
  refine jm_aload_n (pc := 7) (q := 1) (x := 3) d_Re_takeHill_7 rfl ?_
  refine jm_gi (pc := 8) (i := 3) d_Re_takeHill_8 fo_Re_15 sh_3 ge_3 le_3_78 rfl (fun _ => rfl) ?_
  refine jm_iconst (pc := 11) (v := 1) d_Re_takeHill_11 ci_1 ?_
  refine jm_icmp_ne (pc := 12) (tgt := 41) d_Re_takeHill_12 (by decide) ?_ ?_
  · refine jm_iload_n (pc := 15) (q := 0) (x := v1) d_Re_takeHill_15 rfl ?_
    refine jm_iconst (pc := 16) (v := 3) d_Re_takeHill_16 ci_3 ?_
    refine jm_icmp_gt (pc := 17) (tgt := 41) d_Re_takeHill_17 (by decide) ?_ ?_
    · refine jm_iconst (pc := 41) (v := 0) d_Re_takeHill_41 ci_0 ?_
      exact jm_iret (pc := 42) (x := 0) d_Re_takeHill_42 rfl (by decide) rfl rfl rfl
    · refine jm_aload_n (pc := 20) (q := 2) (x := 5) d_Re_takeHill_20 rfl ?_
      refine jm_gi (pc := 21) (i := 5) d_Re_takeHill_21 fo_Re_80 sh_5 ge_5 le_5_78 rfl (fun _ => rfl) ?_
      refine jm_bipush (pc := 24) (v := 10) d_Re_takeHill_24 cb_10 ?_
      refine jm_icmp_ge (pc := 26) (tgt := 41) d_Re_takeHill_26 (by decide) ?_ ?_
      · refine jm_iconst (pc := 41) (v := 0) d_Re_takeHill_41 ci_0 ?_
        exact jm_iret (pc := 42) (x := 0) d_Re_takeHill_42 rfl (by decide) rfl rfl rfl
      · refine jm_iload_n (pc := 29) (q := 0) (x := v1) d_Re_takeHill_29 rfl ?_
        refine jm_iconst (pc := 30) (v := 2) d_Re_takeHill_30 ci_2 ?_
        refine jm_icmp_ne (pc := 31) (tgt := 43) d_Re_takeHill_31 (by decide) ?_ ?_
        · refine jm_aload_n (pc := 34) (q := 2) (x := 5) d_Re_takeHill_34 rfl ?_
          refine jm_Vp (pc := 35) (Y' := mY_Ne_hasEar) (i := 5) (avs := []) (rest := []) (s_Ne_hasEar_5_ok s) ok_Ne_hasEar l0_Re_takeHill__Ne_hasEar ml_Re_83 im_Ne_hasEar se_Ne_hasEar d_Re_takeHill_35 rfl sh_5 rfl rfl ge_5 le_5_78 rfl (Nat.le_of_ble_eq_true rfl) (Nat.le_of_ble_eq_true rfl) (Nat.le_of_ble_eq_true rfl) (Nat.le_of_ble_eq_true rfl) (fun v4 => ?_)
          refine jm_if_eq (pc := 38) (tgt := 43) d_Re_takeHill_38 (by decide) ?_ ?_
          · refine jm_sub (L2 := [(1, .ref 5), (2, .int v1)]) [2, 0] rfl ?_
            exact s_Re_takeHill_3_5_J43_ok v1 s
          · refine jm_iconst (pc := 41) (v := 0) d_Re_takeHill_41 ci_0 ?_
            exact jm_iret (pc := 42) (x := 0) d_Re_takeHill_42 rfl (by decide) rfl rfl rfl
        · refine jm_sub (L2 := [(1, .ref 5), (2, .int v1)]) [2, 0] rfl ?_
          exact s_Re_takeHill_3_5_J43_ok v1 s
  · refine jm_iconst (pc := 41) (v := 0) d_Re_takeHill_41 ci_0 ?_
    exact jm_iret (pc := 42) (x := 0) d_Re_takeHill_42 rfl (by decide) rfl rfl rfl
theorem d_Re_takeItem_0 : decode (jm_cd mY_Re_takeItem) 0 = .ok (.aload_n 0, 1) := by decide +kernel
theorem d_Re_takeItem_1 : decode (jm_cd mY_Re_takeItem) 1 = .ok (.getfield 22, 3) := by decide +kernel
theorem d_Re_takeItem_4 : decode (jm_cd mY_Re_takeItem) 4 = .ok (.bipush 104, 2) := by decide +kernel
theorem d_Re_takeItem_6 : decode (jm_cd mY_Re_takeItem) 6 = .ok (.if_icmp .ne 24, 3) := by decide +kernel
theorem d_Re_takeItem_9 : decode (jm_cd mY_Re_takeItem) 9 = .ok (.aload_n 0, 1) := by decide +kernel
theorem d_Re_takeItem_10 : decode (jm_cd mY_Re_takeItem) 10 = .ok (.getfield 25, 3) := by decide +kernel
theorem d_Re_takeItem_13 : decode (jm_cd mY_Re_takeItem) 13 = .ok (.ifCond .eq 15, 3) := by decide +kernel
theorem d_Re_takeItem_16 : decode (jm_cd mY_Re_takeItem) 16 = .ok (.aload_n 0, 1) := by decide +kernel
theorem d_Re_takeItem_17 : decode (jm_cd mY_Re_takeItem) 17 = .ok (.aload_n 1, 1) := by decide +kernel
theorem d_Re_takeItem_18 : decode (jm_cd mY_Re_takeItem) 18 = .ok (.invokevirtual 55, 3) := by decide +kernel
theorem d_Re_takeItem_21 : decode (jm_cd mY_Re_takeItem) 21 = .ok (.ifCond .eq 7, 3) := by decide +kernel
theorem d_Re_takeItem_24 : decode (jm_cd mY_Re_takeItem) 24 = .ok (.iconst 1, 1) := by decide +kernel
theorem d_Re_takeItem_25 : decode (jm_cd mY_Re_takeItem) 25 = .ok (.goto 4, 3) := by decide +kernel
theorem d_Re_takeItem_28 : decode (jm_cd mY_Re_takeItem) 28 = .ok (.iconst 0, 1) := by decide +kernel
theorem d_Re_takeItem_29 : decode (jm_cd mY_Re_takeItem) 29 = .ok (.ireturn, 1) := by decide +kernel
theorem d_Re_takeItem_30 : decode (jm_cd mY_Re_takeItem) 30 = .ok (.aload_n 0, 1) := by decide +kernel
theorem d_Re_takeItem_31 : decode (jm_cd mY_Re_takeItem) 31 = .ok (.iconst 0, 1) := by decide +kernel
theorem d_Re_takeItem_32 : decode (jm_cd mY_Re_takeItem) 32 = .ok (.putfield 25, 3) := by decide +kernel
theorem d_Re_takeItem_35 : decode (jm_cd mY_Re_takeItem) 35 = .ok (.aload_n 1, 1) := by decide +kernel
theorem d_Re_takeItem_36 : decode (jm_cd mY_Re_takeItem) 36 = .ok (.aload_n 0, 1) := by decide +kernel
theorem d_Re_takeItem_37 : decode (jm_cd mY_Re_takeItem) 37 = .ok (.getfield 11, 3) := by decide +kernel
theorem d_Re_takeItem_40 : decode (jm_cd mY_Re_takeItem) 40 = .ok (.iconst 0, 1) := by decide +kernel
theorem d_Re_takeItem_41 : decode (jm_cd mY_Re_takeItem) 41 = .ok (.iaload, 1) := by decide +kernel
theorem d_Re_takeItem_42 : decode (jm_cd mY_Re_takeItem) 42 = .ok (.invokevirtual 58, 3) := by decide +kernel
theorem d_Re_takeItem_45 : decode (jm_cd mY_Re_takeItem) 45 = .ok (.ifCond .ne 5, 3) := by decide +kernel
theorem d_Re_takeItem_48 : decode (jm_cd mY_Re_takeItem) 48 = .ok (.iconst 0, 1) := by decide +kernel
theorem d_Re_takeItem_49 : decode (jm_cd mY_Re_takeItem) 49 = .ok (.ireturn, 1) := by decide +kernel
theorem d_Re_takeItem_50 : decode (jm_cd mY_Re_takeItem) 50 = .ok (.aload_n 0, 1) := by decide +kernel
theorem d_Re_takeItem_51 : decode (jm_cd mY_Re_takeItem) 51 = .ok (.getfield 22, 3) := by decide +kernel
theorem d_Re_takeItem_54 : decode (jm_cd mY_Re_takeItem) 54 = .ok (.tableswitch 118 103 119 #[106, 118, 118, 118, 118, 112, 118, 118, 118, 118, 118, 88, 100, 118, 118, 82, 94], 82) := by decide +kernel
theorem d_Re_takeItem_136 : decode (jm_cd mY_Re_takeItem) 136 = .ok (.aload_n 0, 1) := by decide +kernel
theorem d_Re_takeItem_137 : decode (jm_cd mY_Re_takeItem) 137 = .ok (.aload_n 1, 1) := by decide +kernel
theorem d_Re_takeItem_138 : decode (jm_cd mY_Re_takeItem) 138 = .ok (.invokevirtual 62, 3) := by decide +kernel
theorem d_Re_takeItem_141 : decode (jm_cd mY_Re_takeItem) 141 = .ok (.ireturn, 1) := by decide +kernel
theorem d_Re_takeItem_142 : decode (jm_cd mY_Re_takeItem) 142 = .ok (.aload_n 0, 1) := by decide +kernel
theorem d_Re_takeItem_143 : decode (jm_cd mY_Re_takeItem) 143 = .ok (.aload_n 1, 1) := by decide +kernel
theorem d_Re_takeItem_144 : decode (jm_cd mY_Re_takeItem) 144 = .ok (.invokevirtual 65, 3) := by decide +kernel
theorem d_Re_takeItem_147 : decode (jm_cd mY_Re_takeItem) 147 = .ok (.ireturn, 1) := by decide +kernel
theorem d_Re_takeItem_148 : decode (jm_cd mY_Re_takeItem) 148 = .ok (.aload_n 0, 1) := by decide +kernel
theorem d_Re_takeItem_149 : decode (jm_cd mY_Re_takeItem) 149 = .ok (.aload_n 1, 1) := by decide +kernel
theorem d_Re_takeItem_150 : decode (jm_cd mY_Re_takeItem) 150 = .ok (.invokevirtual 68, 3) := by decide +kernel
theorem d_Re_takeItem_153 : decode (jm_cd mY_Re_takeItem) 153 = .ok (.ireturn, 1) := by decide +kernel
theorem d_Re_takeItem_154 : decode (jm_cd mY_Re_takeItem) 154 = .ok (.aload_n 0, 1) := by decide +kernel
theorem d_Re_takeItem_155 : decode (jm_cd mY_Re_takeItem) 155 = .ok (.aload_n 1, 1) := by decide +kernel
theorem d_Re_takeItem_156 : decode (jm_cd mY_Re_takeItem) 156 = .ok (.invokevirtual 71, 3) := by decide +kernel
theorem d_Re_takeItem_159 : decode (jm_cd mY_Re_takeItem) 159 = .ok (.ireturn, 1) := by decide +kernel
theorem d_Re_takeItem_160 : decode (jm_cd mY_Re_takeItem) 160 = .ok (.aload_n 0, 1) := by decide +kernel
theorem d_Re_takeItem_161 : decode (jm_cd mY_Re_takeItem) 161 = .ok (.aload_n 1, 1) := by decide +kernel
theorem d_Re_takeItem_162 : decode (jm_cd mY_Re_takeItem) 162 = .ok (.invokevirtual 74, 3) := by decide +kernel
theorem d_Re_takeItem_165 : decode (jm_cd mY_Re_takeItem) 165 = .ok (.ireturn, 1) := by decide +kernel
theorem d_Re_takeItem_166 : decode (jm_cd mY_Re_takeItem) 166 = .ok (.aload_n 0, 1) := by decide +kernel
theorem d_Re_takeItem_167 : decode (jm_cd mY_Re_takeItem) 167 = .ok (.aload_n 1, 1) := by decide +kernel
theorem d_Re_takeItem_168 : decode (jm_cd mY_Re_takeItem) 168 = .ok (.invokevirtual 77, 3) := by decide +kernel
theorem d_Re_takeItem_171 : decode (jm_cd mY_Re_takeItem) 171 = .ok (.ireturn, 1) := by decide +kernel
theorem d_Re_takeItem_172 : decode (jm_cd mY_Re_takeItem) 172 = .ok (.iconst 0, 1) := by decide +kernel
theorem d_Re_takeItem_173 : decode (jm_cd mY_Re_takeItem) 173 = .ok (.ireturn, 1) := by decide +kernel
def s_Re_takeItem_3_5 (s : jm_M) : Option (Int32 × jm_M) := (if (s.1 3 3) = 104 then (if (s.1 3 4) = 0 then (some (0, s)) else jm_b2 (s_Re_takeHill_3_5 s) (fun v17 s18 => (if v17 = 0 then (some (0, s18)) else (some (1, s18))))) else jm_ev (jm_si s 3 4 0) (fun s1 => jm_ldi s1 4 4 0 (fun v2 => jm_bd (s_Ne_isHill_5 s1 v2) (fun v3 => (if v3 = 0 then (some (0, s1)) else jm_vi (s1.1 3 3) (fun v4 => (if v4 = 103 then jm_b2 (s_Re_takeMist_3_5 s1) (fun v5 s6 => (jm_gb v5 (some (v5, s6)))) else (if v4 = 104 then (some (0, s1)) else (if v4 = 105 then (some (0, s1)) else (if v4 = 106 then (some (0, s1)) else (if v4 = 107 then (some (0, s1)) else (if v4 = 108 then jm_b2 (s_Re_takeLiar_3_5 s1) (fun v7 s8 => (jm_gb v7 (some (v7, s8)))) else (if v4 = 109 then (some (0, s1)) else (if v4 = 110 then (some (0, s1)) else (if v4 = 111 then (some (0, s1)) else (if v4 = 112 then (some (0, s1)) else (if v4 = 113 then (some (0, s1)) else (if v4 = 114 then jm_b2 (s_Re_takeRule_3_5 s1) (fun v9 s10 => (jm_gb v9 (some (v9, s10)))) else (if v4 = 115 then jm_b2 (s_Re_takeSleep_3_5 s1) (fun v11 s12 => (jm_gb v11 (some (v11, s12)))) else (if v4 = 116 then (some (0, s1)) else (if v4 = 117 then (some (0, s1)) else (if v4 = 118 then jm_b2 (s_Re_takeSight_3_5 s1) (fun v13 s14 => (jm_gb v13 (some (v13, s14)))) else (if v4 = 119 then jm_b2 (s_Re_takeWood_3_5 s1) (fun v15 s16 => (jm_gb v15 (some (v15, s16)))) else (some (0, s1)))))))))))))))))))))))))
set_option maxRecDepth 100000 in
set_option maxHeartbeats 4000000 in
theorem s_Re_takeItem_3_5_ok (s : jm_M) : jm_Sim mY_Re_takeItem 0 0 0 [(0, .ref 3), (1, .ref 5)] [] 78 mr_154 s (s_Re_takeItem_3_5 s) (jm_rP 78 mr_154) := by
  unfold s_Re_takeItem_3_5
  refine jm_aload_n (pc := 0) (q := 0) (x := 3) d_Re_takeItem_0 rfl ?_
  refine jm_gi (pc := 1) (i := 3) d_Re_takeItem_1 fo_Re_22 sh_3 ge_3 le_3_78 rfl (fun _ => rfl) ?_
  refine jm_bipush (pc := 4) (v := 104) d_Re_takeItem_4 cb_104 ?_
  refine jm_icmp_ne (pc := 6) (tgt := 30) d_Re_takeItem_6 (by decide) ?_ ?_
  · refine jm_aload_n (pc := 9) (q := 0) (x := 3) d_Re_takeItem_9 rfl ?_
    refine jm_gi (pc := 10) (i := 3) d_Re_takeItem_10 fo_Re_25 sh_3 ge_3 le_3_78 rfl (fun _ => rfl) ?_
    refine jm_if_eq (pc := 13) (tgt := 28) d_Re_takeItem_13 (by decide) ?_ ?_
    · refine jm_iconst (pc := 28) (v := 0) d_Re_takeItem_28 ci_0 ?_
      exact jm_iret (pc := 29) (x := 0) d_Re_takeItem_29 rfl (by decide) rfl rfl rfl
    · refine jm_aload_n (pc := 16) (q := 0) (x := 3) d_Re_takeItem_16 rfl ?_
      refine jm_aload_n (pc := 17) (q := 1) (x := 5) d_Re_takeItem_17 rfl ?_
      refine jm_Vi (pc := 18) (Y' := mY_Re_takeHill) (i := 3) (avs := [.ref 5]) (rest := []) (s_Re_takeHill_3_5_ok s) ok_Re_takeHill l0_Re_takeItem__Re_takeHill ml_Re_55 im_Re_takeHill se_Re_takeHill d_Re_takeItem_18 rfl sh_3 rfl rfl ge_3 le_3_78 rfl (Nat.le_of_ble_eq_true rfl) (Nat.le_of_ble_eq_true rfl) (Nat.le_of_ble_eq_true rfl) (Nat.le_of_ble_eq_true rfl) (fun v17 s18 => ?_)
      refine jm_if_eq (pc := 21) (tgt := 28) d_Re_takeItem_21 (by decide) ?_ ?_
      · refine jm_iconst (pc := 28) (v := 0) d_Re_takeItem_28 ci_0 ?_
        exact jm_iret (pc := 29) (x := 0) d_Re_takeItem_29 rfl (by decide) rfl rfl rfl
      · refine jm_iconst (pc := 24) (v := 1) d_Re_takeItem_24 ci_1 ?_
        refine jm_goto (pc := 25) (tgt := 29) d_Re_takeItem_25 (by decide) ?_
        exact jm_iret (pc := 29) (x := 1) d_Re_takeItem_29 rfl (by decide) rfl rfl rfl
  · refine jm_aload_n (pc := 30) (q := 0) (x := 3) d_Re_takeItem_30 rfl ?_
    refine jm_iconst (pc := 31) (v := 0) d_Re_takeItem_31 ci_0 ?_
    refine jm_pi (pc := 32) (i := 3) d_Re_takeItem_32 fp_Re_25 sh_3 ge_3 le_3_78 rfl (by decide) (by decide) (fun _ _ _ => rfl) (fun s1 => ?_)
    refine jm_aload_n (pc := 35) (q := 1) (x := 5) d_Re_takeItem_35 rfl ?_
    refine jm_aload_n (pc := 36) (q := 0) (x := 3) d_Re_takeItem_36 rfl ?_
    refine jm_gr (pc := 37) (i := 3) d_Re_takeItem_37 fo_Re_11 sh_3 ge_3 le_3_78 rfl (fun _ => rfl) mr_154_3_0 ge_4 ?_
    refine jm_iconst (pc := 40) (v := 0) d_Re_takeItem_40 ci_0 ?_
    refine jm_iald (pc := 41) d_Re_takeItem_41 sh_4 ge_4 le_4_78 (fun v2 => ?_)
    refine jm_Vp (pc := 42) (Y' := mY_Ne_isHill) (i := 5) (avs := [.int v2]) (rest := []) (s_Ne_isHill_5_ok s1 v2) ok_Ne_isHill l0_Re_takeItem__Ne_isHill ml_Re_58 im_Ne_isHill se_Ne_isHill d_Re_takeItem_42 rfl sh_5 rfl rfl ge_5 le_5_78 rfl (Nat.le_of_ble_eq_true rfl) (Nat.le_of_ble_eq_true rfl) (Nat.le_of_ble_eq_true rfl) (Nat.le_of_ble_eq_true rfl) (fun v3 => ?_)
    refine jm_if_ne (pc := 45) (tgt := 50) d_Re_takeItem_45 (by decide) ?_ ?_
    · refine jm_iconst (pc := 48) (v := 0) d_Re_takeItem_48 ci_0 ?_
      exact jm_iret (pc := 49) (x := 0) d_Re_takeItem_49 rfl (by decide) rfl rfl rfl
    · refine jm_aload_n (pc := 50) (q := 0) (x := 3) d_Re_takeItem_50 rfl ?_
      refine jm_gi (pc := 51) (i := 3) d_Re_takeItem_51 fo_Re_22 sh_3 ge_3 le_3_78 rfl (fun _ => rfl) ?_
      refine jm_nvi (fun v4 => ?_)
      refine jm_case 103 ?_ (fun h0 => ?_)
      · refine jm_tswIn (pc := 54) (tgt := 160) d_Re_takeItem_54 (by decide) (by decide) (off := 106) (by decide) (by decide) ?_
        refine jm_aload_n (pc := 160) (q := 0) (x := 3) d_Re_takeItem_160 rfl ?_
        refine jm_aload_n (pc := 161) (q := 1) (x := 5) d_Re_takeItem_161 rfl ?_
        refine jm_Vi (pc := 162) (Y' := mY_Re_takeMist) (i := 3) (avs := [.ref 5]) (rest := []) (s_Re_takeMist_3_5_ok s1) ok_Re_takeMist l0_Re_takeItem__Re_takeMist ml_Re_74 im_Re_takeMist se_Re_takeMist d_Re_takeItem_162 rfl sh_3 rfl rfl ge_3 le_3_78 rfl (Nat.le_of_ble_eq_true rfl) (Nat.le_of_ble_eq_true rfl) (Nat.le_of_ble_eq_true rfl) (Nat.le_of_ble_eq_true rfl) (fun v5 s6 => ?_)
        exact jm_zret (pc := 165) d_Re_takeItem_165 rfl rfl rfl rfl
      refine jm_case 104 ?_ (fun h1 => ?_)
      · refine jm_tswIn (pc := 54) (tgt := 172) d_Re_takeItem_54 (by decide) (by decide) (off := 118) (by decide) (by decide) ?_
        refine jm_iconst (pc := 172) (v := 0) d_Re_takeItem_172 ci_0 ?_
        exact jm_iret (pc := 173) (x := 0) d_Re_takeItem_173 rfl (by decide) rfl rfl rfl
      refine jm_case 105 ?_ (fun h2 => ?_)
      · refine jm_tswIn (pc := 54) (tgt := 172) d_Re_takeItem_54 (by decide) (by decide) (off := 118) (by decide) (by decide) ?_
        refine jm_iconst (pc := 172) (v := 0) d_Re_takeItem_172 ci_0 ?_
        exact jm_iret (pc := 173) (x := 0) d_Re_takeItem_173 rfl (by decide) rfl rfl rfl
      refine jm_case 106 ?_ (fun h3 => ?_)
      · refine jm_tswIn (pc := 54) (tgt := 172) d_Re_takeItem_54 (by decide) (by decide) (off := 118) (by decide) (by decide) ?_
        refine jm_iconst (pc := 172) (v := 0) d_Re_takeItem_172 ci_0 ?_
        exact jm_iret (pc := 173) (x := 0) d_Re_takeItem_173 rfl (by decide) rfl rfl rfl
      refine jm_case 107 ?_ (fun h4 => ?_)
      · refine jm_tswIn (pc := 54) (tgt := 172) d_Re_takeItem_54 (by decide) (by decide) (off := 118) (by decide) (by decide) ?_
        refine jm_iconst (pc := 172) (v := 0) d_Re_takeItem_172 ci_0 ?_
        exact jm_iret (pc := 173) (x := 0) d_Re_takeItem_173 rfl (by decide) rfl rfl rfl
      refine jm_case 108 ?_ (fun h5 => ?_)
      · refine jm_tswIn (pc := 54) (tgt := 166) d_Re_takeItem_54 (by decide) (by decide) (off := 112) (by decide) (by decide) ?_
        refine jm_aload_n (pc := 166) (q := 0) (x := 3) d_Re_takeItem_166 rfl ?_
        refine jm_aload_n (pc := 167) (q := 1) (x := 5) d_Re_takeItem_167 rfl ?_
        refine jm_Vi (pc := 168) (Y' := mY_Re_takeLiar) (i := 3) (avs := [.ref 5]) (rest := []) (s_Re_takeLiar_3_5_ok s1) ok_Re_takeLiar l0_Re_takeItem__Re_takeLiar ml_Re_77 im_Re_takeLiar se_Re_takeLiar d_Re_takeItem_168 rfl sh_3 rfl rfl ge_3 le_3_78 rfl (Nat.le_of_ble_eq_true rfl) (Nat.le_of_ble_eq_true rfl) (Nat.le_of_ble_eq_true rfl) (Nat.le_of_ble_eq_true rfl) (fun v7 s8 => ?_)
        exact jm_zret (pc := 171) d_Re_takeItem_171 rfl rfl rfl rfl
      refine jm_case 109 ?_ (fun h6 => ?_)
      · refine jm_tswIn (pc := 54) (tgt := 172) d_Re_takeItem_54 (by decide) (by decide) (off := 118) (by decide) (by decide) ?_
        refine jm_iconst (pc := 172) (v := 0) d_Re_takeItem_172 ci_0 ?_
        exact jm_iret (pc := 173) (x := 0) d_Re_takeItem_173 rfl (by decide) rfl rfl rfl
      refine jm_case 110 ?_ (fun h7 => ?_)
      · refine jm_tswIn (pc := 54) (tgt := 172) d_Re_takeItem_54 (by decide) (by decide) (off := 118) (by decide) (by decide) ?_
        refine jm_iconst (pc := 172) (v := 0) d_Re_takeItem_172 ci_0 ?_
        exact jm_iret (pc := 173) (x := 0) d_Re_takeItem_173 rfl (by decide) rfl rfl rfl
      refine jm_case 111 ?_ (fun h8 => ?_)
      · refine jm_tswIn (pc := 54) (tgt := 172) d_Re_takeItem_54 (by decide) (by decide) (off := 118) (by decide) (by decide) ?_
        refine jm_iconst (pc := 172) (v := 0) d_Re_takeItem_172 ci_0 ?_
        exact jm_iret (pc := 173) (x := 0) d_Re_takeItem_173 rfl (by decide) rfl rfl rfl
      refine jm_case 112 ?_ (fun h9 => ?_)
      · refine jm_tswIn (pc := 54) (tgt := 172) d_Re_takeItem_54 (by decide) (by decide) (off := 118) (by decide) (by decide) ?_
        refine jm_iconst (pc := 172) (v := 0) d_Re_takeItem_172 ci_0 ?_
        exact jm_iret (pc := 173) (x := 0) d_Re_takeItem_173 rfl (by decide) rfl rfl rfl
      refine jm_case 113 ?_ (fun h10 => ?_)
      · refine jm_tswIn (pc := 54) (tgt := 172) d_Re_takeItem_54 (by decide) (by decide) (off := 118) (by decide) (by decide) ?_
        refine jm_iconst (pc := 172) (v := 0) d_Re_takeItem_172 ci_0 ?_
        exact jm_iret (pc := 173) (x := 0) d_Re_takeItem_173 rfl (by decide) rfl rfl rfl
      refine jm_case 114 ?_ (fun h11 => ?_)
      · refine jm_tswIn (pc := 54) (tgt := 142) d_Re_takeItem_54 (by decide) (by decide) (off := 88) (by decide) (by decide) ?_
        refine jm_aload_n (pc := 142) (q := 0) (x := 3) d_Re_takeItem_142 rfl ?_
        refine jm_aload_n (pc := 143) (q := 1) (x := 5) d_Re_takeItem_143 rfl ?_
        refine jm_Vi (pc := 144) (Y' := mY_Re_takeRule) (i := 3) (avs := [.ref 5]) (rest := []) (s_Re_takeRule_3_5_ok s1) ok_Re_takeRule l0_Re_takeItem__Re_takeRule ml_Re_65 im_Re_takeRule se_Re_takeRule d_Re_takeItem_144 rfl sh_3 rfl rfl ge_3 le_3_78 rfl (Nat.le_of_ble_eq_true rfl) (Nat.le_of_ble_eq_true rfl) (Nat.le_of_ble_eq_true rfl) (Nat.le_of_ble_eq_true rfl) (fun v9 s10 => ?_)
        exact jm_zret (pc := 147) d_Re_takeItem_147 rfl rfl rfl rfl
      refine jm_case 115 ?_ (fun h12 => ?_)
      · refine jm_tswIn (pc := 54) (tgt := 154) d_Re_takeItem_54 (by decide) (by decide) (off := 100) (by decide) (by decide) ?_
        refine jm_aload_n (pc := 154) (q := 0) (x := 3) d_Re_takeItem_154 rfl ?_
        refine jm_aload_n (pc := 155) (q := 1) (x := 5) d_Re_takeItem_155 rfl ?_
        refine jm_Vi (pc := 156) (Y' := mY_Re_takeSleep) (i := 3) (avs := [.ref 5]) (rest := []) (s_Re_takeSleep_3_5_ok s1) ok_Re_takeSleep l0_Re_takeItem__Re_takeSleep ml_Re_71 im_Re_takeSleep se_Re_takeSleep d_Re_takeItem_156 rfl sh_3 rfl rfl ge_3 le_3_78 rfl (Nat.le_of_ble_eq_true rfl) (Nat.le_of_ble_eq_true rfl) (Nat.le_of_ble_eq_true rfl) (Nat.le_of_ble_eq_true rfl) (fun v11 s12 => ?_)
        exact jm_zret (pc := 159) d_Re_takeItem_159 rfl rfl rfl rfl
      refine jm_case 116 ?_ (fun h13 => ?_)
      · refine jm_tswIn (pc := 54) (tgt := 172) d_Re_takeItem_54 (by decide) (by decide) (off := 118) (by decide) (by decide) ?_
        refine jm_iconst (pc := 172) (v := 0) d_Re_takeItem_172 ci_0 ?_
        exact jm_iret (pc := 173) (x := 0) d_Re_takeItem_173 rfl (by decide) rfl rfl rfl
      refine jm_case 117 ?_ (fun h14 => ?_)
      · refine jm_tswIn (pc := 54) (tgt := 172) d_Re_takeItem_54 (by decide) (by decide) (off := 118) (by decide) (by decide) ?_
        refine jm_iconst (pc := 172) (v := 0) d_Re_takeItem_172 ci_0 ?_
        exact jm_iret (pc := 173) (x := 0) d_Re_takeItem_173 rfl (by decide) rfl rfl rfl
      refine jm_case 118 ?_ (fun h15 => ?_)
      · refine jm_tswIn (pc := 54) (tgt := 136) d_Re_takeItem_54 (by decide) (by decide) (off := 82) (by decide) (by decide) ?_
        refine jm_aload_n (pc := 136) (q := 0) (x := 3) d_Re_takeItem_136 rfl ?_
        refine jm_aload_n (pc := 137) (q := 1) (x := 5) d_Re_takeItem_137 rfl ?_
        refine jm_Vi (pc := 138) (Y' := mY_Re_takeSight) (i := 3) (avs := [.ref 5]) (rest := []) (s_Re_takeSight_3_5_ok s1) ok_Re_takeSight l0_Re_takeItem__Re_takeSight ml_Re_62 im_Re_takeSight se_Re_takeSight d_Re_takeItem_138 rfl sh_3 rfl rfl ge_3 le_3_78 rfl (Nat.le_of_ble_eq_true rfl) (Nat.le_of_ble_eq_true rfl) (Nat.le_of_ble_eq_true rfl) (Nat.le_of_ble_eq_true rfl) (fun v13 s14 => ?_)
        exact jm_zret (pc := 141) d_Re_takeItem_141 rfl rfl rfl rfl
      refine jm_case 119 ?_ (fun h16 => ?_)
      · refine jm_tswIn (pc := 54) (tgt := 148) d_Re_takeItem_54 (by decide) (by decide) (off := 94) (by decide) (by decide) ?_
        refine jm_aload_n (pc := 148) (q := 0) (x := 3) d_Re_takeItem_148 rfl ?_
        refine jm_aload_n (pc := 149) (q := 1) (x := 5) d_Re_takeItem_149 rfl ?_
        refine jm_Vi (pc := 150) (Y' := mY_Re_takeWood) (i := 3) (avs := [.ref 5]) (rest := []) (s_Re_takeWood_3_5_ok s1) ok_Re_takeWood l0_Re_takeItem__Re_takeWood ml_Re_68 im_Re_takeWood se_Re_takeWood d_Re_takeItem_150 rfl sh_3 rfl rfl ge_3 le_3_78 rfl (Nat.le_of_ble_eq_true rfl) (Nat.le_of_ble_eq_true rfl) (Nat.le_of_ble_eq_true rfl) (Nat.le_of_ble_eq_true rfl) (fun v15 s16 => ?_)
        exact jm_zret (pc := 153) d_Re_takeItem_153 rfl rfl rfl rfl
      refine jm_tswOut (pc := 54) (tgt := 172) d_Re_takeItem_54 (by have e0 := jm_neT 103 h0 (a := 103) (by decide); have e1 := jm_neT 104 h1 (a := 104) (by decide); have e2 := jm_neT 105 h2 (a := 105) (by decide); have e3 := jm_neT 106 h3 (a := 106) (by decide); have e4 := jm_neT 107 h4 (a := 107) (by decide); have e5 := jm_neT 108 h5 (a := 108) (by decide); have e6 := jm_neT 109 h6 (a := 109) (by decide); have e7 := jm_neT 110 h7 (a := 110) (by decide); have e8 := jm_neT 111 h8 (a := 111) (by decide); have e9 := jm_neT 112 h9 (a := 112) (by decide); have e10 := jm_neT 113 h10 (a := 113) (by decide); have e11 := jm_neT 114 h11 (a := 114) (by decide); have e12 := jm_neT 115 h12 (a := 115) (by decide); have e13 := jm_neT 116 h13 (a := 116) (by decide); have e14 := jm_neT 117 h14 (a := 117) (by decide); have e15 := jm_neT 118 h15 (a := 118) (by decide); have e16 := jm_neT 119 h16 (a := 119) (by decide); omega) (by decide) ?_
      refine jm_iconst (pc := 172) (v := 0) d_Re_takeItem_172 ci_0 ?_
      exact jm_iret (pc := 173) (x := 0) d_Re_takeItem_173 rfl (by decide) rfl rfl rfl
theorem d_Re_firstFault_0 : decode (jm_cd mY_Re_firstFault) 0 = .ok (.aload_n 3, 1) := by decide +kernel
theorem d_Re_firstFault_1 : decode (jm_cd mY_Re_firstFault) 1 = .ok (.invokevirtual 35, 3) := by decide +kernel
theorem d_Re_firstFault_4 : decode (jm_cd mY_Re_firstFault) 4 = .ok (.aload_n 0, 1) := by decide +kernel
theorem d_Re_firstFault_5 : decode (jm_cd mY_Re_firstFault) 5 = .ok (.iconst 0, 1) := by decide +kernel
theorem d_Re_firstFault_6 : decode (jm_cd mY_Re_firstFault) 6 = .ok (.putfield 19, 3) := by decide +kernel
theorem d_Re_firstFault_9 : decode (jm_cd mY_Re_firstFault) 9 = .ok (.aload_n 0, 1) := by decide +kernel
theorem d_Re_firstFault_10 : decode (jm_cd mY_Re_firstFault) 10 = .ok (.iconst 1, 1) := by decide +kernel
theorem d_Re_firstFault_11 : decode (jm_cd mY_Re_firstFault) 11 = .ok (.putfield 25, 3) := by decide +kernel
theorem d_Re_firstFault_14 : decode (jm_cd mY_Re_firstFault) 14 = .ok (.aload_n 0, 1) := by decide +kernel
theorem d_Re_firstFault_15 : decode (jm_cd mY_Re_firstFault) 15 = .ok (.iconst 0, 1) := by decide +kernel
theorem d_Re_firstFault_16 : decode (jm_cd mY_Re_firstFault) 16 = .ok (.putfield 29, 3) := by decide +kernel
theorem d_Re_firstFault_19 : decode (jm_cd mY_Re_firstFault) 19 = .ok (.aload_n 0, 1) := by decide +kernel
theorem d_Re_firstFault_20 : decode (jm_cd mY_Re_firstFault) 20 = .ok (.iconst 0, 1) := by decide +kernel
theorem d_Re_firstFault_21 : decode (jm_cd mY_Re_firstFault) 21 = .ok (.putfield 32, 3) := by decide +kernel
theorem d_Re_firstFault_24 : decode (jm_cd mY_Re_firstFault) 24 = .ok (.iconst 0, 1) := by decide +kernel
theorem d_Re_firstFault_25 : decode (jm_cd mY_Re_firstFault) 25 = .ok (.istore 4, 2) := by decide +kernel
theorem d_Re_firstFault_27 : decode (jm_cd mY_Re_firstFault) 27 = .ok (.iload 4, 2) := by decide +kernel
theorem d_Re_firstFault_29 : decode (jm_cd mY_Re_firstFault) 29 = .ok (.sipush 300, 3) := by decide +kernel
theorem d_Re_firstFault_32 : decode (jm_cd mY_Re_firstFault) 32 = .ok (.if_icmp .ge 43, 3) := by decide +kernel
theorem d_Re_firstFault_35 : decode (jm_cd mY_Re_firstFault) 35 = .ok (.aload_n 0, 1) := by decide +kernel
theorem d_Re_firstFault_36 : decode (jm_cd mY_Re_firstFault) 36 = .ok (.getfield 19, 3) := by decide +kernel
theorem d_Re_firstFault_39 : decode (jm_cd mY_Re_firstFault) 39 = .ok (.iload_n 2, 1) := by decide +kernel
theorem d_Re_firstFault_40 : decode (jm_cd mY_Re_firstFault) 40 = .ok (.if_icmp .ge 35, 3) := by decide +kernel
theorem d_Re_firstFault_43 : decode (jm_cd mY_Re_firstFault) 43 = .ok (.aload_n 0, 1) := by decide +kernel
theorem d_Re_firstFault_44 : decode (jm_cd mY_Re_firstFault) 44 = .ok (.getfield 19, 3) := by decide +kernel
theorem d_Re_firstFault_47 : decode (jm_cd mY_Re_firstFault) 47 = .ok (.istore 5, 2) := by decide +kernel
theorem d_Re_firstFault_49 : decode (jm_cd mY_Re_firstFault) 49 = .ok (.aload_n 0, 1) := by decide +kernel
theorem d_Re_firstFault_50 : decode (jm_cd mY_Re_firstFault) 50 = .ok (.aload_n 1, 1) := by decide +kernel
theorem d_Re_firstFault_51 : decode (jm_cd mY_Re_firstFault) 51 = .ok (.iload_n 2, 1) := by decide +kernel
theorem d_Re_firstFault_52 : decode (jm_cd mY_Re_firstFault) 52 = .ok (.invokevirtual 40, 3) := by decide +kernel
theorem d_Re_firstFault_55 : decode (jm_cd mY_Re_firstFault) 55 = .ok (.ifCond .eq 11, 3) := by decide +kernel
theorem d_Re_firstFault_58 : decode (jm_cd mY_Re_firstFault) 58 = .ok (.aload_n 0, 1) := by decide +kernel
theorem d_Re_firstFault_59 : decode (jm_cd mY_Re_firstFault) 59 = .ok (.aload_n 3, 1) := by decide +kernel
theorem d_Re_firstFault_60 : decode (jm_cd mY_Re_firstFault) 60 = .ok (.invokevirtual 44, 3) := by decide +kernel
theorem d_Re_firstFault_63 : decode (jm_cd mY_Re_firstFault) 63 = .ok (.ifCond .ne 6, 3) := by decide +kernel
theorem d_Re_firstFault_66 : decode (jm_cd mY_Re_firstFault) 66 = .ok (.iload 5, 2) := by decide +kernel
theorem d_Re_firstFault_68 : decode (jm_cd mY_Re_firstFault) 68 = .ok (.ireturn, 1) := by decide +kernel
theorem d_Re_firstFault_69 : decode (jm_cd mY_Re_firstFault) 69 = .ok (.iinc 4 1, 3) := by decide +kernel
theorem d_Re_firstFault_72 : decode (jm_cd mY_Re_firstFault) 72 = .ok (.goto (-45), 3) := by decide +kernel
theorem d_Re_firstFault_75 : decode (jm_cd mY_Re_firstFault) 75 = .ok (.bipush (-4), 2) := by decide +kernel
theorem d_Re_firstFault_77 : decode (jm_cd mY_Re_firstFault) 77 = .ok (.ireturn, 1) := by decide +kernel
def s_Re_firstFault_3_2_5_L27 : Nat → Int32 → Int32 → jm_M → Option (Int32 × jm_M)
  | 0, _, _, _ => none
  | n + 1, x2, x4, s => (if 300 ≤ x4 then (some ((-4), s)) else (if x2 ≤ (s.1 3 2) then (some ((-4), s)) else jm_vi (s.1 3 2) (fun v6 => jm_b2 (s_Re_readItem_3_2 s x2) (fun v7 s8 => (if v7 = 0 then (some (v6, s8)) else jm_b2 (s_Re_takeItem_3_5 s8) (fun v9 s10 => (if v9 = 0 then (some (v6, s10)) else s_Re_firstFault_3_2_5_L27 n x2 (x4 + 1) s10)))))))
set_option maxRecDepth 100000 in
set_option maxHeartbeats 4000000 in
theorem s_Re_firstFault_3_2_5_L27_ok : ∀ (n : Nat) (x2 : Int32) (x4 : Int32) (s : jm_M), jm_Sim mY_Re_firstFault 0 0 27 [(0, .ref 3), (1, .ref 2), (2, .int x2), (3, .ref 5), (4, .int x4)] [] 78 mr_154 s (s_Re_firstFault_3_2_5_L27 n x2 x4 s) (jm_rP 78 mr_154) := by
  intro n
  induction n with
  | zero => intro x2 x4 s; exact jm_none
  | succ n ih =>
    intro x2 x4 s
    rw [s_Re_firstFault_3_2_5_L27]
    refine jm_iload (pc := 27) (q := 4) (x := x4) d_Re_firstFault_27 rfl ?_
    refine jm_sipush (pc := 29) (v := 300) d_Re_firstFault_29 cs_300 ?_
    refine jm_icmp_ge (pc := 32) (tgt := 75) d_Re_firstFault_32 (by decide) ?_ ?_
    · refine jm_bipush (pc := 75) (v := (-4)) d_Re_firstFault_75 cb_m4 ?_
      exact jm_iret (pc := 77) (x := (-4)) d_Re_firstFault_77 rfl rfl rfl rfl rfl
    · refine jm_aload_n (pc := 35) (q := 0) (x := 3) d_Re_firstFault_35 rfl ?_
      refine jm_gi (pc := 36) (i := 3) d_Re_firstFault_36 fo_Re_19 sh_3 ge_3 le_3_78 rfl (fun _ => rfl) ?_
      refine jm_iload_n (pc := 39) (q := 2) (x := x2) d_Re_firstFault_39 rfl ?_
      refine jm_icmp_ge (pc := 40) (tgt := 75) d_Re_firstFault_40 (by decide) ?_ ?_
      · refine jm_bipush (pc := 75) (v := (-4)) d_Re_firstFault_75 cb_m4 ?_
        exact jm_iret (pc := 77) (x := (-4)) d_Re_firstFault_77 rfl rfl rfl rfl rfl
      · refine jm_aload_n (pc := 43) (q := 0) (x := 3) d_Re_firstFault_43 rfl ?_
        refine jm_gi (pc := 44) (i := 3) d_Re_firstFault_44 fo_Re_19 sh_3 ge_3 le_3_78 rfl (fun _ => rfl) ?_
        refine jm_nvi (fun v6 => ?_)
        refine jm_istore (pc := 47) (L2 := [(5, .int v6), (0, .ref 3), (1, .ref 2), (2, .int x2), (3, .ref 5), (4, .int x4)]) d_Re_firstFault_47 (Nat.le_of_ble_eq_true rfl) rfl ?_
        refine jm_aload_n (pc := 49) (q := 1) (x := 3) d_Re_firstFault_49 rfl ?_
        refine jm_aload_n (pc := 50) (q := 2) (x := 2) d_Re_firstFault_50 rfl ?_
        refine jm_iload_n (pc := 51) (q := 3) (x := x2) d_Re_firstFault_51 rfl ?_
        refine jm_Vi (pc := 52) (Y' := mY_Re_readItem) (i := 3) (avs := [.ref 2, .int x2]) (rest := []) (s_Re_readItem_3_2_ok s x2) ok_Re_readItem l0_Re_firstFault__Re_readItem ml_Re_40 im_Re_readItem se_Re_readItem d_Re_firstFault_52 rfl sh_3 rfl rfl ge_3 le_3_78 rfl (Nat.le_of_ble_eq_true rfl) (Nat.le_of_ble_eq_true rfl) (Nat.le_of_ble_eq_true rfl) (Nat.le_of_ble_eq_true rfl) (fun v7 s8 => ?_)
        refine jm_if_eq (pc := 55) (tgt := 66) d_Re_firstFault_55 (by decide) ?_ ?_
        · refine jm_iload (pc := 66) (q := 0) (x := v6) d_Re_firstFault_66 rfl ?_
          exact jm_iret (pc := 68) (x := v6) d_Re_firstFault_68 rfl rfl rfl rfl rfl
        · refine jm_aload_n (pc := 58) (q := 1) (x := 3) d_Re_firstFault_58 rfl ?_
          refine jm_aload_n (pc := 59) (q := 4) (x := 5) d_Re_firstFault_59 rfl ?_
          refine jm_Vi (pc := 60) (Y' := mY_Re_takeItem) (i := 3) (avs := [.ref 5]) (rest := []) (s_Re_takeItem_3_5_ok s8) ok_Re_takeItem l0_Re_firstFault__Re_takeItem ml_Re_44 im_Re_takeItem se_Re_takeItem d_Re_firstFault_60 rfl sh_3 rfl rfl ge_3 le_3_78 rfl (Nat.le_of_ble_eq_true rfl) (Nat.le_of_ble_eq_true rfl) (Nat.le_of_ble_eq_true rfl) (Nat.le_of_ble_eq_true rfl) (fun v9 s10 => ?_)
          refine jm_if_ne (pc := 63) (tgt := 69) d_Re_firstFault_63 (by decide) ?_ ?_
          · refine jm_iload (pc := 66) (q := 0) (x := v6) d_Re_firstFault_66 rfl ?_
            exact jm_iret (pc := 68) (x := v6) d_Re_firstFault_68 rfl rfl rfl rfl rfl
          · refine jm_iinc (pc := 69) (q := 5) (x := x4) (v := 1) (L2 := [(4, .int (x4 + 1)), (5, .int v6), (0, .ref 3), (1, .ref 2), (2, .int x2), (3, .ref 5)]) d_Re_firstFault_69 rfl ci_1 (Nat.le_of_ble_eq_true rfl) rfl ?_
            refine jm_goto (pc := 72) (tgt := 27) d_Re_firstFault_72 (by decide) ?_
            refine jm_sub (L2 := [(0, .ref 3), (1, .ref 2), (2, .int x2), (3, .ref 5), (4, .int (x4 + 1))]) [2, 3, 4, 5, 0] rfl ?_
            exact ih x2 (x4 + 1) s10
def s_Re_firstFault_3_2_5 (s : jm_M) (a1 : Int32) : Option (Int32 × jm_M) := jm_bd (s_Ne_clear_5 s) (fun s1 => jm_ev (jm_si s1 3 2 0) (fun s2 => jm_ev (jm_si s2 3 4 1) (fun s3 => jm_ev (jm_si s3 3 5 0) (fun s4 => jm_ev (jm_si s4 3 6 0) (fun s5 => s_Re_firstFault_3_2_5_L27 5000 a1 0 s5)))))
set_option maxRecDepth 100000 in
set_option maxHeartbeats 4000000 in
theorem s_Re_firstFault_3_2_5_ok (s : jm_M) (a1 : Int32) : jm_Sim mY_Re_firstFault 0 0 0 [(0, .ref 3), (1, .ref 2), (2, .int a1), (3, .ref 5)] [] 78 mr_154 s (s_Re_firstFault_3_2_5 s a1) (jm_rP 78 mr_154) := by
  unfold s_Re_firstFault_3_2_5
  refine jm_aload_n (pc := 0) (q := 3) (x := 5) d_Re_firstFault_0 rfl ?_
  refine jm_Vv (pc := 1) (Y' := mY_Ne_clear) (i := 5) (avs := []) (rest := []) (s_Ne_clear_5_ok s) ok_Ne_clear l0_Re_firstFault__Ne_clear ml_Re_35 im_Ne_clear se_Ne_clear d_Re_firstFault_1 rfl sh_5 rfl rfl ge_5 le_5_78 rfl (Nat.le_of_ble_eq_true rfl) (Nat.le_of_ble_eq_true rfl) (Nat.le_of_ble_eq_true rfl) (Nat.le_of_ble_eq_true rfl) (fun s1 => ?_)
  refine jm_aload_n (pc := 4) (q := 0) (x := 3) d_Re_firstFault_4 rfl ?_
  refine jm_iconst (pc := 5) (v := 0) d_Re_firstFault_5 ci_0 ?_
  refine jm_pi (pc := 6) (i := 3) d_Re_firstFault_6 fp_Re_19 sh_3 ge_3 le_3_78 rfl rfl rfl (fun _ _ _ => rfl) (fun s2 => ?_)
  refine jm_aload_n (pc := 9) (q := 0) (x := 3) d_Re_firstFault_9 rfl ?_
  refine jm_iconst (pc := 10) (v := 1) d_Re_firstFault_10 ci_1 ?_
  refine jm_pi (pc := 11) (i := 3) d_Re_firstFault_11 fp_Re_25 sh_3 ge_3 le_3_78 rfl (by decide) (by decide) (fun _ _ _ => rfl) (fun s3 => ?_)
  refine jm_aload_n (pc := 14) (q := 0) (x := 3) d_Re_firstFault_14 rfl ?_
  refine jm_iconst (pc := 15) (v := 0) d_Re_firstFault_15 ci_0 ?_
  refine jm_pi (pc := 16) (i := 3) d_Re_firstFault_16 fp_Re_29 sh_3 ge_3 le_3_78 rfl rfl rfl (fun _ _ _ => rfl) (fun s4 => ?_)
  refine jm_aload_n (pc := 19) (q := 0) (x := 3) d_Re_firstFault_19 rfl ?_
  refine jm_iconst (pc := 20) (v := 0) d_Re_firstFault_20 ci_0 ?_
  refine jm_pi (pc := 21) (i := 3) d_Re_firstFault_21 fp_Re_32 sh_3 ge_3 le_3_78 rfl rfl rfl (fun _ _ _ => rfl) (fun s5 => ?_)
  refine jm_iconst (pc := 24) (v := 0) d_Re_firstFault_24 ci_0 ?_
  refine jm_istore (pc := 25) (L2 := [(4, .int 0), (0, .ref 3), (1, .ref 2), (2, .int a1), (3, .ref 5)]) d_Re_firstFault_25 (Nat.le_of_ble_eq_true rfl) rfl ?_
  refine jm_sub (L2 := [(0, .ref 3), (1, .ref 2), (2, .int a1), (3, .ref 5), (4, .int 0)]) [1, 2, 3, 4, 0] rfl ?_
  exact s_Re_firstFault_3_2_5_L27_ok 5000 a1 0 s5
theorem d_X_fault_0 : decode (jm_cd mY_X_fault) 0 = .ok (.aload_n 0, 1) := by decide +kernel
theorem d_X_fault_1 : decode (jm_cd mY_X_fault) 1 = .ok (.getfield 20, 3) := by decide +kernel
theorem d_X_fault_4 : decode (jm_cd mY_X_fault) 4 = .ok (.aload_n 0, 1) := by decide +kernel
theorem d_X_fault_5 : decode (jm_cd mY_X_fault) 5 = .ok (.getfield 9, 3) := by decide +kernel
theorem d_X_fault_8 : decode (jm_cd mY_X_fault) 8 = .ok (.aload_n 0, 1) := by decide +kernel
theorem d_X_fault_9 : decode (jm_cd mY_X_fault) 9 = .ok (.getfield 13, 3) := by decide +kernel
theorem d_X_fault_12 : decode (jm_cd mY_X_fault) 12 = .ok (.aload_n 0, 1) := by decide +kernel
theorem d_X_fault_13 : decode (jm_cd mY_X_fault) 13 = .ok (.getfield 27, 3) := by decide +kernel
theorem d_X_fault_16 : decode (jm_cd mY_X_fault) 16 = .ok (.invokevirtual 82, 3) := by decide +kernel
theorem d_X_fault_19 : decode (jm_cd mY_X_fault) 19 = .ok (.ireturn, 1) := by decide +kernel
def s_X_fault (s : jm_M) : Option (Int32 × jm_M) := jm_b2 (s_Re_firstFault_3_2_5 s (s.1 1 1)) (fun v1 s2 => (some (v1, s2)))
set_option maxRecDepth 100000 in
set_option maxHeartbeats 4000000 in
theorem s_X_fault_ok (s : jm_M) : jm_Sim mY_X_fault 0 0 0 [(0, .ref 1)] [] 78 mr_154 s (s_X_fault s) (jm_rP 78 mr_154) := by
  unfold s_X_fault
  refine jm_aload_n (pc := 0) (q := 0) (x := 1) d_X_fault_0 rfl ?_
  refine jm_gr (pc := 1) (i := 1) d_X_fault_1 fo_X_20 sh_1 ge_1 le_1_78 rfl (fun _ => rfl) mr_154_1_2 ge_3 ?_
  refine jm_aload_n (pc := 4) (q := 0) (x := 1) d_X_fault_4 rfl ?_
  refine jm_gr (pc := 5) (i := 1) d_X_fault_5 fo_X_9 sh_1 ge_1 le_1_78 rfl (fun _ => rfl) mr_154_1_0 ge_2 ?_
  refine jm_aload_n (pc := 8) (q := 0) (x := 1) d_X_fault_8 rfl ?_
  refine jm_gi (pc := 9) (i := 1) d_X_fault_9 fo_X_13 sh_1 ge_1 le_1_78 rfl (fun _ => rfl) ?_
  refine jm_aload_n (pc := 12) (q := 0) (x := 1) d_X_fault_12 rfl ?_
  refine jm_gr (pc := 13) (i := 1) d_X_fault_13 fo_X_27 sh_1 ge_1 le_1_78 rfl (fun _ => rfl) mr_154_1_3 ge_5 ?_
  refine jm_Vi (pc := 16) (Y' := mY_Re_firstFault) (i := 3) (avs := [.ref 2, .int (s.1 1 1), .ref 5]) (rest := []) (s_Re_firstFault_3_2_5_ok s (s.1 1 1)) ok_Re_firstFault l0_X_fault__Re_firstFault ml_X_82 im_Re_firstFault se_Re_firstFault d_X_fault_16 rfl sh_3 rfl rfl ge_3 le_3_78 rfl (Nat.le_of_ble_eq_true rfl) (Nat.le_of_ble_eq_true rfl) (Nat.le_of_ble_eq_true rfl) (Nat.le_of_ble_eq_true rfl) (fun v1 s2 => ?_)
  exact jm_iret (pc := 19) (x := v1) d_X_fault_19 rfl rfl rfl rfl rfl
theorem d_Z_numbers_0 : decode (jm_cd mY_Z_numbers) 0 = .ok (.iconst 0, 1) := by decide +kernel
theorem d_Z_numbers_1 : decode (jm_cd mY_Z_numbers) 1 = .ok (.istore_n 2, 1) := by decide +kernel
theorem d_Z_numbers_2 : decode (jm_cd mY_Z_numbers) 2 = .ok (.iload_n 2, 1) := by decide +kernel
theorem d_Z_numbers_3 : decode (jm_cd mY_Z_numbers) 3 = .ok (.iload_n 1, 1) := by decide +kernel
theorem d_Z_numbers_4 : decode (jm_cd mY_Z_numbers) 4 = .ok (.if_icmp .ge 157, 3) := by decide +kernel
theorem d_Z_numbers_7 : decode (jm_cd mY_Z_numbers) 7 = .ok (.iconst 0, 1) := by decide +kernel
theorem d_Z_numbers_8 : decode (jm_cd mY_Z_numbers) 8 = .ok (.istore_n 3, 1) := by decide +kernel
theorem d_Z_numbers_9 : decode (jm_cd mY_Z_numbers) 9 = .ok (.iconst 0, 1) := by decide +kernel
theorem d_Z_numbers_10 : decode (jm_cd mY_Z_numbers) 10 = .ok (.istore 4, 2) := by decide +kernel
theorem d_Z_numbers_12 : decode (jm_cd mY_Z_numbers) 12 = .ok (.aload_n 0, 1) := by decide +kernel
theorem d_Z_numbers_13 : decode (jm_cd mY_Z_numbers) 13 = .ok (.getfield 79, 3) := by decide +kernel
theorem d_Z_numbers_16 : decode (jm_cd mY_Z_numbers) 16 = .ok (.aload_n 0, 1) := by decide +kernel
theorem d_Z_numbers_17 : decode (jm_cd mY_Z_numbers) 17 = .ok (.getfield 73, 3) := by decide +kernel
theorem d_Z_numbers_20 : decode (jm_cd mY_Z_numbers) 20 = .ok (.if_icmp .ge 66, 3) := by decide +kernel
theorem d_Z_numbers_23 : decode (jm_cd mY_Z_numbers) 23 = .ok (.aload_n 0, 1) := by decide +kernel
theorem d_Z_numbers_24 : decode (jm_cd mY_Z_numbers) 24 = .ok (.getfield 7, 3) := by decide +kernel
theorem d_Z_numbers_27 : decode (jm_cd mY_Z_numbers) 27 = .ok (.aload_n 0, 1) := by decide +kernel
theorem d_Z_numbers_28 : decode (jm_cd mY_Z_numbers) 28 = .ok (.getfield 79, 3) := by decide +kernel
theorem d_Z_numbers_31 : decode (jm_cd mY_Z_numbers) 31 = .ok (.iaload, 1) := by decide +kernel
theorem d_Z_numbers_32 : decode (jm_cd mY_Z_numbers) 32 = .ok (.i2l, 1) := by decide +kernel
theorem d_Z_numbers_33 : decode (jm_cd mY_Z_numbers) 33 = .ok (.ldc2_w 82, 3) := by decide +kernel
theorem d_Z_numbers_36 : decode (jm_cd mY_Z_numbers) 36 = .ok (.ldc2_w 84, 3) := by decide +kernel
theorem d_Z_numbers_39 : decode (jm_cd mY_Z_numbers) 39 = .ok (.invokestatic 69, 3) := by decide +kernel
theorem d_Z_numbers_42 : decode (jm_cd mY_Z_numbers) 42 = .ok (.ifCond .eq 44, 3) := by decide +kernel
theorem d_Z_numbers_45 : decode (jm_cd mY_Z_numbers) 45 = .ok (.iload_n 3, 1) := by decide +kernel
theorem d_Z_numbers_46 : decode (jm_cd mY_Z_numbers) 46 = .ok (.iconst 3, 1) := by decide +kernel
theorem d_Z_numbers_47 : decode (jm_cd mY_Z_numbers) 47 = .ok (.if_icmp .ge 39, 3) := by decide +kernel
theorem d_Z_numbers_50 : decode (jm_cd mY_Z_numbers) 50 = .ok (.bipush 10, 2) := by decide +kernel
theorem d_Z_numbers_52 : decode (jm_cd mY_Z_numbers) 52 = .ok (.iload 4, 2) := by decide +kernel
theorem d_Z_numbers_54 : decode (jm_cd mY_Z_numbers) 54 = .ok (.imul, 1) := by decide +kernel
theorem d_Z_numbers_55 : decode (jm_cd mY_Z_numbers) 55 = .ok (.aload_n 0, 1) := by decide +kernel
theorem d_Z_numbers_56 : decode (jm_cd mY_Z_numbers) 56 = .ok (.getfield 7, 3) := by decide +kernel
theorem d_Z_numbers_59 : decode (jm_cd mY_Z_numbers) 59 = .ok (.aload_n 0, 1) := by decide +kernel
theorem d_Z_numbers_60 : decode (jm_cd mY_Z_numbers) 60 = .ok (.getfield 79, 3) := by decide +kernel
theorem d_Z_numbers_63 : decode (jm_cd mY_Z_numbers) 63 = .ok (.iaload, 1) := by decide +kernel
theorem d_Z_numbers_64 : decode (jm_cd mY_Z_numbers) 64 = .ok (.iadd, 1) := by decide +kernel
theorem d_Z_numbers_65 : decode (jm_cd mY_Z_numbers) 65 = .ok (.bipush 48, 2) := by decide +kernel
theorem d_Z_numbers_67 : decode (jm_cd mY_Z_numbers) 67 = .ok (.isub, 1) := by decide +kernel
theorem d_Z_numbers_68 : decode (jm_cd mY_Z_numbers) 68 = .ok (.istore 4, 2) := by decide +kernel
theorem d_Z_numbers_70 : decode (jm_cd mY_Z_numbers) 70 = .ok (.iinc 3 1, 3) := by decide +kernel
theorem d_Z_numbers_73 : decode (jm_cd mY_Z_numbers) 73 = .ok (.aload_n 0, 1) := by decide +kernel
theorem d_Z_numbers_74 : decode (jm_cd mY_Z_numbers) 74 = .ok (.dup, 1) := by decide +kernel
theorem d_Z_numbers_75 : decode (jm_cd mY_Z_numbers) 75 = .ok (.getfield 79, 3) := by decide +kernel
theorem d_Z_numbers_78 : decode (jm_cd mY_Z_numbers) 78 = .ok (.iconst 1, 1) := by decide +kernel
theorem d_Z_numbers_79 : decode (jm_cd mY_Z_numbers) 79 = .ok (.iadd, 1) := by decide +kernel
theorem d_Z_numbers_80 : decode (jm_cd mY_Z_numbers) 80 = .ok (.putfield 79, 3) := by decide +kernel
theorem d_Z_numbers_83 : decode (jm_cd mY_Z_numbers) 83 = .ok (.goto (-71), 3) := by decide +kernel
theorem d_Z_numbers_86 : decode (jm_cd mY_Z_numbers) 86 = .ok (.iload_n 3, 1) := by decide +kernel
theorem d_Z_numbers_87 : decode (jm_cd mY_Z_numbers) 87 = .ok (.i2l, 1) := by decide +kernel
theorem d_Z_numbers_88 : decode (jm_cd mY_Z_numbers) 88 = .ok (.lconst 1, 1) := by decide +kernel
theorem d_Z_numbers_89 : decode (jm_cd mY_Z_numbers) 89 = .ok (.ldc2_w 86, 3) := by decide +kernel
theorem d_Z_numbers_92 : decode (jm_cd mY_Z_numbers) 92 = .ok (.invokestatic 69, 3) := by decide +kernel
theorem d_Z_numbers_95 : decode (jm_cd mY_Z_numbers) 95 = .ok (.ifCond .eq 40, 3) := by decide +kernel
theorem d_Z_numbers_98 : decode (jm_cd mY_Z_numbers) 98 = .ok (.aload_n 0, 1) := by decide +kernel
theorem d_Z_numbers_99 : decode (jm_cd mY_Z_numbers) 99 = .ok (.getfield 79, 3) := by decide +kernel
theorem d_Z_numbers_102 : decode (jm_cd mY_Z_numbers) 102 = .ok (.aload_n 0, 1) := by decide +kernel
theorem d_Z_numbers_103 : decode (jm_cd mY_Z_numbers) 103 = .ok (.getfield 73, 3) := by decide +kernel
theorem d_Z_numbers_106 : decode (jm_cd mY_Z_numbers) 106 = .ok (.if_icmp .eq 29, 3) := by decide +kernel
theorem d_Z_numbers_109 : decode (jm_cd mY_Z_numbers) 109 = .ok (.aload_n 0, 1) := by decide +kernel
theorem d_Z_numbers_110 : decode (jm_cd mY_Z_numbers) 110 = .ok (.getfield 7, 3) := by decide +kernel
theorem d_Z_numbers_113 : decode (jm_cd mY_Z_numbers) 113 = .ok (.aload_n 0, 1) := by decide +kernel
theorem d_Z_numbers_114 : decode (jm_cd mY_Z_numbers) 114 = .ok (.getfield 79, 3) := by decide +kernel
theorem d_Z_numbers_117 : decode (jm_cd mY_Z_numbers) 117 = .ok (.iaload, 1) := by decide +kernel
theorem d_Z_numbers_118 : decode (jm_cd mY_Z_numbers) 118 = .ok (.iload_n 2, 1) := by decide +kernel
theorem d_Z_numbers_119 : decode (jm_cd mY_Z_numbers) 119 = .ok (.iload_n 1, 1) := by decide +kernel
theorem d_Z_numbers_120 : decode (jm_cd mY_Z_numbers) 120 = .ok (.iconst 1, 1) := by decide +kernel
theorem d_Z_numbers_121 : decode (jm_cd mY_Z_numbers) 121 = .ok (.isub, 1) := by decide +kernel
theorem d_Z_numbers_122 : decode (jm_cd mY_Z_numbers) 122 = .ok (.if_icmp .ge 8, 3) := by decide +kernel
theorem d_Z_numbers_125 : decode (jm_cd mY_Z_numbers) 125 = .ok (.bipush 44, 2) := by decide +kernel
theorem d_Z_numbers_127 : decode (jm_cd mY_Z_numbers) 127 = .ok (.goto 5, 3) := by decide +kernel
theorem d_Z_numbers_130 : decode (jm_cd mY_Z_numbers) 130 = .ok (.bipush 59, 2) := by decide +kernel
theorem d_Z_numbers_132 : decode (jm_cd mY_Z_numbers) 132 = .ok (.if_icmp .eq 5, 3) := by decide +kernel
theorem d_Z_numbers_135 : decode (jm_cd mY_Z_numbers) 135 = .ok (.iconst 0, 1) := by decide +kernel
theorem d_Z_numbers_136 : decode (jm_cd mY_Z_numbers) 136 = .ok (.ireturn, 1) := by decide +kernel
theorem d_Z_numbers_137 : decode (jm_cd mY_Z_numbers) 137 = .ok (.aload_n 0, 1) := by decide +kernel
theorem d_Z_numbers_138 : decode (jm_cd mY_Z_numbers) 138 = .ok (.getfield 49, 3) := by decide +kernel
theorem d_Z_numbers_141 : decode (jm_cd mY_Z_numbers) 141 = .ok (.iload_n 2, 1) := by decide +kernel
theorem d_Z_numbers_142 : decode (jm_cd mY_Z_numbers) 142 = .ok (.iload 4, 2) := by decide +kernel
theorem d_Z_numbers_144 : decode (jm_cd mY_Z_numbers) 144 = .ok (.iastore, 1) := by decide +kernel
theorem d_Z_numbers_145 : decode (jm_cd mY_Z_numbers) 145 = .ok (.aload_n 0, 1) := by decide +kernel
theorem d_Z_numbers_146 : decode (jm_cd mY_Z_numbers) 146 = .ok (.dup, 1) := by decide +kernel
theorem d_Z_numbers_147 : decode (jm_cd mY_Z_numbers) 147 = .ok (.getfield 79, 3) := by decide +kernel
theorem d_Z_numbers_150 : decode (jm_cd mY_Z_numbers) 150 = .ok (.iconst 1, 1) := by decide +kernel
theorem d_Z_numbers_151 : decode (jm_cd mY_Z_numbers) 151 = .ok (.iadd, 1) := by decide +kernel
theorem d_Z_numbers_152 : decode (jm_cd mY_Z_numbers) 152 = .ok (.putfield 79, 3) := by decide +kernel
theorem d_Z_numbers_155 : decode (jm_cd mY_Z_numbers) 155 = .ok (.iinc 2 1, 3) := by decide +kernel
theorem d_Z_numbers_158 : decode (jm_cd mY_Z_numbers) 158 = .ok (.goto (-156), 3) := by decide +kernel
theorem d_Z_numbers_161 : decode (jm_cd mY_Z_numbers) 161 = .ok (.iconst 1, 1) := by decide +kernel
theorem d_Z_numbers_162 : decode (jm_cd mY_Z_numbers) 162 = .ok (.ireturn, 1) := by decide +kernel
def s_Z_numbers_J132 (k2 : Int32 → Int32 → jm_M → Option (Int32 × jm_M)) (x1 : Int32) (x2 : Int32) (x4 : Int32) (y0 : Int32) (y1 : Int32) (s : jm_M) : Option (Int32 × jm_M) := (if y1 = y0 then jm_sti s 73 4 x2 x4 (fun s3 => jm_ev (jm_si s3 59 15 ((s3.1 59 15) + 1)) (fun s4 => k2 x1 (x2 + 1) s4)) else (some (0, s)))
set_option maxRecDepth 100000 in
set_option maxHeartbeats 4000000 in
theorem s_Z_numbers_J132_ok {k2 : Int32 → Int32 → jm_M → Option (Int32 × jm_M)} (hk2 : ∀ (x1 : Int32) (x2 : Int32) (s : jm_M), jm_Sim mY_Z_numbers 0 0 2 [(0, .ref 59), (1, .int x1), (2, .int x2)] [] 78 mr_154 s (k2 x1 x2 s) (jm_rP 78 mr_154)) (x1 : Int32) (x2 : Int32) (x4 : Int32) (y0 : Int32) (y1 : Int32) (s : jm_M) : jm_Sim mY_Z_numbers 0 0 132 [(0, .ref 59), (1, .int x1), (2, .int x2), (4, .int x4)] [.int y0, .int y1] 78 mr_154 s (s_Z_numbers_J132 k2 x1 x2 x4 y0 y1 s) (jm_rP 78 mr_154) := by
  unfold s_Z_numbers_J132
  refine jm_icmp_eq (pc := 132) (tgt := 137) d_Z_numbers_132 (by decide) ?_ ?_
  · refine jm_aload_n (pc := 137) (q := 0) (x := 59) d_Z_numbers_137 rfl ?_
    refine jm_gr (pc := 138) (i := 59) d_Z_numbers_138 fo_Z_49 sh_59 ge_59 le_59_78 rfl (fun _ => rfl) mr_154_59_16 ge_73 ?_
    refine jm_iload_n (pc := 141) (q := 2) (x := x2) d_Z_numbers_141 rfl ?_
    refine jm_iload (pc := 142) (q := 3) (x := x4) d_Z_numbers_142 rfl ?_
    refine jm_iast (pc := 144) d_Z_numbers_144 sh_73 ge_73 le_73_78 (fun s3 => ?_)
    refine jm_aload_n (pc := 145) (q := 0) (x := 59) d_Z_numbers_145 rfl ?_
    refine jm_dup (pc := 146) d_Z_numbers_146 rfl ?_
    refine jm_gi (pc := 147) (i := 59) d_Z_numbers_147 fo_Z_79 sh_59 ge_59 le_59_78 rfl (fun _ => rfl) ?_
    refine jm_iconst (pc := 150) (v := 1) d_Z_numbers_150 ci_1 ?_
    refine jm_iadd (pc := 151) d_Z_numbers_151 ?_
    refine jm_pi (pc := 152) (i := 59) d_Z_numbers_152 fp_Z_79 sh_59 ge_59 le_59_78 rfl rfl rfl (fun _ _ _ => rfl) (fun s4 => ?_)
    refine jm_iinc (pc := 155) (q := 2) (x := x2) (v := 1) (L2 := [(2, .int (x2 + 1)), (0, .ref 59), (1, .int x1), (4, .int x4)]) d_Z_numbers_155 rfl ci_1 (Nat.le_of_ble_eq_true rfl) rfl ?_
    refine jm_goto (pc := 158) (tgt := 2) d_Z_numbers_158 (by decide) ?_
    refine jm_sub (L2 := [(0, .ref 59), (1, .int x1), (2, .int (x2 + 1))]) [1, 2, 0] rfl ?_
    exact hk2 x1 (x2 + 1) s4
  · refine jm_iconst (pc := 135) (v := 0) d_Z_numbers_135 ci_0 ?_
    exact jm_iret (pc := 136) (x := 0) d_Z_numbers_136 rfl (by decide) rfl rfl rfl
def s_Z_numbers_J86 (k2 : Int32 → Int32 → jm_M → Option (Int32 × jm_M)) (x1 : Int32) (x2 : Int32) (x3 : Int32) (x4 : Int32) (s : jm_M) : Option (Int32 × jm_M) := jm_bd (s_Z_in s x3.toInt64 1 2) (fun v1 => (if v1 = 0 then (some (0, s)) else (if (s.1 59 15) = (s.1 59 0) then (some (0, s)) else jm_ldi s 60 300 (s.1 59 15) (fun v2 => (if (x1 - 1) ≤ x2 then s_Z_numbers_J132 k2 x1 x2 x4 59 v2 s else s_Z_numbers_J132 k2 x1 x2 x4 44 v2 s)))))
set_option maxRecDepth 100000 in
set_option maxHeartbeats 4000000 in
theorem s_Z_numbers_J86_ok {k2 : Int32 → Int32 → jm_M → Option (Int32 × jm_M)} (hk2 : ∀ (x1 : Int32) (x2 : Int32) (s : jm_M), jm_Sim mY_Z_numbers 0 0 2 [(0, .ref 59), (1, .int x1), (2, .int x2)] [] 78 mr_154 s (k2 x1 x2 s) (jm_rP 78 mr_154)) (x1 : Int32) (x2 : Int32) (x3 : Int32) (x4 : Int32) (s : jm_M) : jm_Sim mY_Z_numbers 0 0 86 [(0, .ref 59), (1, .int x1), (2, .int x2), (3, .int x3), (4, .int x4)] [] 78 mr_154 s (s_Z_numbers_J86 k2 x1 x2 x3 x4 s) (jm_rP 78 mr_154) := by
  unfold s_Z_numbers_J86
  refine jm_iload_n (pc := 86) (q := 3) (x := x3) d_Z_numbers_86 rfl ?_
  refine jm_i2l (pc := 87) d_Z_numbers_87 ?_
  refine jm_lconst (pc := 88) (v := 1) d_Z_numbers_88 cl_1 ?_
  refine jm_ldc2 (pc := 89) (v := 2) d_Z_numbers_89 kl_Z_86 ?_
  refine jm_Sp (pc := 92) (Y' := mY_Z_in) (avs := [.long x3.toInt64, .long 1, .long 2]) (rest := []) (s_Z_in_ok s x3.toInt64 1 2) ok_Z_in l0_Z_numbers__Z_in ml_Z_69 sm_Z_in d_Z_numbers_92 rfl rfl (Nat.le_of_ble_eq_true rfl) (Nat.le_of_ble_eq_true rfl) (Nat.le_of_ble_eq_true rfl) (Nat.le_of_ble_eq_true rfl) (fun v1 => ?_)
  refine jm_if_eq (pc := 95) (tgt := 135) d_Z_numbers_95 (by decide) ?_ ?_
  · refine jm_iconst (pc := 135) (v := 0) d_Z_numbers_135 ci_0 ?_
    exact jm_iret (pc := 136) (x := 0) d_Z_numbers_136 rfl (by decide) rfl rfl rfl
  · refine jm_aload_n (pc := 98) (q := 0) (x := 59) d_Z_numbers_98 rfl ?_
    refine jm_gi (pc := 99) (i := 59) d_Z_numbers_99 fo_Z_79 sh_59 ge_59 le_59_78 rfl (fun _ => rfl) ?_
    refine jm_aload_n (pc := 102) (q := 0) (x := 59) d_Z_numbers_102 rfl ?_
    refine jm_gi (pc := 103) (i := 59) d_Z_numbers_103 fo_Z_73 sh_59 ge_59 le_59_78 rfl (fun _ => rfl) ?_
    refine jm_icmp_eq (pc := 106) (tgt := 135) d_Z_numbers_106 (by decide) ?_ ?_
    · refine jm_iconst (pc := 135) (v := 0) d_Z_numbers_135 ci_0 ?_
      exact jm_iret (pc := 136) (x := 0) d_Z_numbers_136 rfl (by decide) rfl rfl rfl
    · refine jm_aload_n (pc := 109) (q := 0) (x := 59) d_Z_numbers_109 rfl ?_
      refine jm_gr (pc := 110) (i := 59) d_Z_numbers_110 fo_Z_7 sh_59 ge_59 le_59_78 rfl (fun _ => rfl) mr_154_59_1 ge_60 ?_
      refine jm_aload_n (pc := 113) (q := 0) (x := 59) d_Z_numbers_113 rfl ?_
      refine jm_gi (pc := 114) (i := 59) d_Z_numbers_114 fo_Z_79 sh_59 ge_59 le_59_78 rfl (fun _ => rfl) ?_
      refine jm_iald (pc := 117) d_Z_numbers_117 sh_60 ge_60 le_60_78 (fun v2 => ?_)
      refine jm_iload_n (pc := 118) (q := 2) (x := x2) d_Z_numbers_118 rfl ?_
      refine jm_iload_n (pc := 119) (q := 1) (x := x1) d_Z_numbers_119 rfl ?_
      refine jm_iconst (pc := 120) (v := 1) d_Z_numbers_120 ci_1 ?_
      refine jm_isub (pc := 121) d_Z_numbers_121 ?_
      refine jm_icmp_ge (pc := 122) (tgt := 130) d_Z_numbers_122 (by decide) ?_ ?_
      · refine jm_bipush (pc := 130) (v := 59) d_Z_numbers_130 cb_59 ?_
        refine jm_sub (L2 := [(0, .ref 59), (1, .int x1), (2, .int x2), (4, .int x4)]) [0, 1, 2, 4] rfl ?_
        exact s_Z_numbers_J132_ok hk2 x1 x2 x4 59 v2 s
      · refine jm_bipush (pc := 125) (v := 44) d_Z_numbers_125 cb_44 ?_
        refine jm_goto (pc := 127) (tgt := 132) d_Z_numbers_127 (by decide) ?_
        refine jm_sub (L2 := [(0, .ref 59), (1, .int x1), (2, .int x2), (4, .int x4)]) [0, 1, 2, 4] rfl ?_
        exact s_Z_numbers_J132_ok hk2 x1 x2 x4 44 v2 s
def s_Z_numbers_L12 (k2 : Int32 → Int32 → jm_M → Option (Int32 × jm_M)) : Nat → Int32 → Int32 → Int32 → Int32 → jm_M → Option (Int32 × jm_M)
  | 0, _, _, _, _, _ => none
  | n + 1, x1, x2, x3, x4, s => (if (s.1 59 0) ≤ (s.1 59 15) then s_Z_numbers_J86 k2 x1 x2 x3 x4 s else jm_ldi s 60 300 (s.1 59 15) (fun v5 => jm_bd (s_Z_in s v5.toInt64 48 57) (fun v6 => (if v6 = 0 then s_Z_numbers_J86 k2 x1 x2 x3 x4 s else (if 3 ≤ x3 then s_Z_numbers_J86 k2 x1 x2 x3 x4 s else jm_ldi s 60 300 (s.1 59 15) (fun v7 => jm_vi (((10 * x4) + v7) - 48) (fun v8 => jm_ev (jm_si s 59 15 ((s.1 59 15) + 1)) (fun s9 => s_Z_numbers_L12 k2 n x1 x2 (x3 + 1) v8 s9))))))))
set_option maxRecDepth 100000 in
set_option maxHeartbeats 4000000 in
theorem s_Z_numbers_L12_ok {k2 : Int32 → Int32 → jm_M → Option (Int32 × jm_M)} (hk2 : ∀ (x1 : Int32) (x2 : Int32) (s : jm_M), jm_Sim mY_Z_numbers 0 0 2 [(0, .ref 59), (1, .int x1), (2, .int x2)] [] 78 mr_154 s (k2 x1 x2 s) (jm_rP 78 mr_154)) : ∀ (n : Nat) (x1 : Int32) (x2 : Int32) (x3 : Int32) (x4 : Int32) (s : jm_M), jm_Sim mY_Z_numbers 0 0 12 [(0, .ref 59), (1, .int x1), (2, .int x2), (3, .int x3), (4, .int x4)] [] 78 mr_154 s (s_Z_numbers_L12 k2 n x1 x2 x3 x4 s) (jm_rP 78 mr_154) := by
  intro n
  induction n with
  | zero => intro x1 x2 x3 x4 s; exact jm_none
  | succ n ih =>
    intro x1 x2 x3 x4 s
    rw [s_Z_numbers_L12]
    refine jm_aload_n (pc := 12) (q := 0) (x := 59) d_Z_numbers_12 rfl ?_
    refine jm_gi (pc := 13) (i := 59) d_Z_numbers_13 fo_Z_79 sh_59 ge_59 le_59_78 rfl (fun _ => rfl) ?_
    refine jm_aload_n (pc := 16) (q := 0) (x := 59) d_Z_numbers_16 rfl ?_
    refine jm_gi (pc := 17) (i := 59) d_Z_numbers_17 fo_Z_73 sh_59 ge_59 le_59_78 rfl (fun _ => rfl) ?_
    refine jm_icmp_ge (pc := 20) (tgt := 86) d_Z_numbers_20 (by decide) ?_ ?_
    · exact s_Z_numbers_J86_ok hk2 x1 x2 x3 x4 s
    · refine jm_aload_n (pc := 23) (q := 0) (x := 59) d_Z_numbers_23 rfl ?_
      refine jm_gr (pc := 24) (i := 59) d_Z_numbers_24 fo_Z_7 sh_59 ge_59 le_59_78 rfl (fun _ => rfl) mr_154_59_1 ge_60 ?_
      refine jm_aload_n (pc := 27) (q := 0) (x := 59) d_Z_numbers_27 rfl ?_
      refine jm_gi (pc := 28) (i := 59) d_Z_numbers_28 fo_Z_79 sh_59 ge_59 le_59_78 rfl (fun _ => rfl) ?_
      refine jm_iald (pc := 31) d_Z_numbers_31 sh_60 ge_60 le_60_78 (fun v5 => ?_)
      refine jm_i2l (pc := 32) d_Z_numbers_32 ?_
      refine jm_ldc2 (pc := 33) (v := 48) d_Z_numbers_33 kl_Z_82 ?_
      refine jm_ldc2 (pc := 36) (v := 57) d_Z_numbers_36 kl_Z_84 ?_
      refine jm_Sp (pc := 39) (Y' := mY_Z_in) (avs := [.long v5.toInt64, .long 48, .long 57]) (rest := []) (s_Z_in_ok s v5.toInt64 48 57) ok_Z_in l0_Z_numbers__Z_in ml_Z_69 sm_Z_in d_Z_numbers_39 rfl rfl (Nat.le_of_ble_eq_true rfl) (Nat.le_of_ble_eq_true rfl) (Nat.le_of_ble_eq_true rfl) (Nat.le_of_ble_eq_true rfl) (fun v6 => ?_)
      refine jm_if_eq (pc := 42) (tgt := 86) d_Z_numbers_42 (by decide) ?_ ?_
      · exact s_Z_numbers_J86_ok hk2 x1 x2 x3 x4 s
      · refine jm_iload_n (pc := 45) (q := 3) (x := x3) d_Z_numbers_45 rfl ?_
        refine jm_iconst (pc := 46) (v := 3) d_Z_numbers_46 ci_3 ?_
        refine jm_icmp_ge (pc := 47) (tgt := 86) d_Z_numbers_47 (by decide) ?_ ?_
        · exact s_Z_numbers_J86_ok hk2 x1 x2 x3 x4 s
        · refine jm_bipush (pc := 50) (v := 10) d_Z_numbers_50 cb_10 ?_
          refine jm_iload (pc := 52) (q := 4) (x := x4) d_Z_numbers_52 rfl ?_
          refine jm_imul (pc := 54) d_Z_numbers_54 ?_
          refine jm_aload_n (pc := 55) (q := 0) (x := 59) d_Z_numbers_55 rfl ?_
          refine jm_gr (pc := 56) (i := 59) d_Z_numbers_56 fo_Z_7 sh_59 ge_59 le_59_78 rfl (fun _ => rfl) mr_154_59_1 ge_60 ?_
          refine jm_aload_n (pc := 59) (q := 0) (x := 59) d_Z_numbers_59 rfl ?_
          refine jm_gi (pc := 60) (i := 59) d_Z_numbers_60 fo_Z_79 sh_59 ge_59 le_59_78 rfl (fun _ => rfl) ?_
          refine jm_iald (pc := 63) d_Z_numbers_63 sh_60 ge_60 le_60_78 (fun v7 => ?_)
          refine jm_iadd (pc := 64) d_Z_numbers_64 ?_
          refine jm_bipush (pc := 65) (v := 48) d_Z_numbers_65 cb_48 ?_
          refine jm_isub (pc := 67) d_Z_numbers_67 ?_
          refine jm_nvi (fun v8 => ?_)
          refine jm_istore (pc := 68) (L2 := [(4, .int v8), (0, .ref 59), (1, .int x1), (2, .int x2), (3, .int x3)]) d_Z_numbers_68 (Nat.le_of_ble_eq_true rfl) rfl ?_
          refine jm_iinc (pc := 70) (q := 4) (x := x3) (v := 1) (L2 := [(3, .int (x3 + 1)), (4, .int v8), (0, .ref 59), (1, .int x1), (2, .int x2)]) d_Z_numbers_70 rfl ci_1 (Nat.le_of_ble_eq_true rfl) rfl ?_
          refine jm_aload_n (pc := 73) (q := 2) (x := 59) d_Z_numbers_73 rfl ?_
          refine jm_dup (pc := 74) d_Z_numbers_74 rfl ?_
          refine jm_gi (pc := 75) (i := 59) d_Z_numbers_75 fo_Z_79 sh_59 ge_59 le_59_78 rfl (fun _ => rfl) ?_
          refine jm_iconst (pc := 78) (v := 1) d_Z_numbers_78 ci_1 ?_
          refine jm_iadd (pc := 79) d_Z_numbers_79 ?_
          refine jm_pi (pc := 80) (i := 59) d_Z_numbers_80 fp_Z_79 sh_59 ge_59 le_59_78 rfl rfl rfl (fun _ _ _ => rfl) (fun s9 => ?_)
          refine jm_goto (pc := 83) (tgt := 12) d_Z_numbers_83 (by decide) ?_
          refine jm_sub (L2 := [(0, .ref 59), (1, .int x1), (2, .int x2), (3, .int (x3 + 1)), (4, .int v8)]) [2, 3, 4, 0, 1] rfl ?_
          exact ih x1 x2 (x3 + 1) v8 s9
def s_Z_numbers_L2 : Nat → Int32 → Int32 → jm_M → Option (Int32 × jm_M)
  | 0, _, _, _ => none
  | n + 1, x1, x2, s => (if x1 ≤ x2 then (some (1, s)) else s_Z_numbers_L12 (s_Z_numbers_L2 n) 5000 x1 x2 0 0 s)
set_option maxRecDepth 100000 in
set_option maxHeartbeats 4000000 in
theorem s_Z_numbers_L2_ok : ∀ (n : Nat) (x1 : Int32) (x2 : Int32) (s : jm_M), jm_Sim mY_Z_numbers 0 0 2 [(0, .ref 59), (1, .int x1), (2, .int x2)] [] 78 mr_154 s (s_Z_numbers_L2 n x1 x2 s) (jm_rP 78 mr_154) := by
  intro n
  induction n with
  | zero => intro x1 x2 s; exact jm_none
  | succ n ih =>
    intro x1 x2 s
    rw [s_Z_numbers_L2]
    refine jm_iload_n (pc := 2) (q := 2) (x := x2) d_Z_numbers_2 rfl ?_
    refine jm_iload_n (pc := 3) (q := 1) (x := x1) d_Z_numbers_3 rfl ?_
    refine jm_icmp_ge (pc := 4) (tgt := 161) d_Z_numbers_4 (by decide) ?_ ?_
    · refine jm_iconst (pc := 161) (v := 1) d_Z_numbers_161 ci_1 ?_
      exact jm_iret (pc := 162) (x := 1) d_Z_numbers_162 rfl (by decide) rfl rfl rfl
    · refine jm_iconst (pc := 7) (v := 0) d_Z_numbers_7 ci_0 ?_
      refine jm_istore_n (pc := 8) (i := 3) (L2 := [(3, .int 0), (0, .ref 59), (1, .int x1), (2, .int x2)]) d_Z_numbers_8 rfl (Nat.le_of_ble_eq_true rfl) rfl ?_
      refine jm_iconst (pc := 9) (v := 0) d_Z_numbers_9 ci_0 ?_
      refine jm_istore (pc := 10) (L2 := [(4, .int 0), (3, .int 0), (0, .ref 59), (1, .int x1), (2, .int x2)]) d_Z_numbers_10 (Nat.le_of_ble_eq_true rfl) rfl ?_
      refine jm_sub (L2 := [(0, .ref 59), (1, .int x1), (2, .int x2), (3, .int 0), (4, .int 0)]) [2, 3, 4, 1, 0] rfl ?_
      exact s_Z_numbers_L12_ok ih 5000 x1 x2 0 0 s
def s_Z_numbers (s : jm_M) (a0 : Int32) : Option (Int32 × jm_M) := s_Z_numbers_L2 5000 a0 0 s
set_option maxRecDepth 100000 in
set_option maxHeartbeats 4000000 in
theorem s_Z_numbers_ok (s : jm_M) (a0 : Int32) : jm_Sim mY_Z_numbers 0 0 0 [(0, .ref 59), (1, .int a0)] [] 78 mr_154 s (s_Z_numbers s a0) (jm_rP 78 mr_154) := by
  unfold s_Z_numbers
  refine jm_iconst (pc := 0) (v := 0) d_Z_numbers_0 ci_0 ?_
  refine jm_istore_n (pc := 1) (i := 2) (L2 := [(2, .int 0), (0, .ref 59), (1, .int a0)]) d_Z_numbers_1 rfl (Nat.le_of_ble_eq_true rfl) rfl ?_
  refine jm_sub (L2 := [(0, .ref 59), (1, .int a0), (2, .int 0)]) [1, 2, 0] rfl ?_
  exact s_Z_numbers_L2_ok 5000 a0 0 s
theorem d_Z_isRead_0 : decode (jm_cd mY_Z_isRead) 0 = .ok (.iload_n 1, 1) := by decide +kernel
theorem d_Z_isRead_1 : decode (jm_cd mY_Z_isRead) 1 = .ok (.i2l, 1) := by decide +kernel
theorem d_Z_isRead_2 : decode (jm_cd mY_Z_isRead) 2 = .ok (.lconst 0, 1) := by decide +kernel
theorem d_Z_isRead_3 : decode (jm_cd mY_Z_isRead) 3 = .ok (.aload_n 0, 1) := by decide +kernel
theorem d_Z_isRead_4 : decode (jm_cd mY_Z_isRead) 4 = .ok (.getfield 13, 3) := by decide +kernel
theorem d_Z_isRead_7 : decode (jm_cd mY_Z_isRead) 7 = .ok (.iconst 3, 1) := by decide +kernel
theorem d_Z_isRead_8 : decode (jm_cd mY_Z_isRead) 8 = .ok (.iaload, 1) := by decide +kernel
theorem d_Z_isRead_9 : decode (jm_cd mY_Z_isRead) 9 = .ok (.iconst 1, 1) := by decide +kernel
theorem d_Z_isRead_10 : decode (jm_cd mY_Z_isRead) 10 = .ok (.isub, 1) := by decide +kernel
theorem d_Z_isRead_11 : decode (jm_cd mY_Z_isRead) 11 = .ok (.i2l, 1) := by decide +kernel
theorem d_Z_isRead_12 : decode (jm_cd mY_Z_isRead) 12 = .ok (.invokestatic 69, 3) := by decide +kernel
theorem d_Z_isRead_15 : decode (jm_cd mY_Z_isRead) 15 = .ok (.ireturn, 1) := by decide +kernel
def s_Z_isRead (s : jm_M) (a0 : Int32) : Option Int32 := jm_ldi s 61 4 3 (fun v1 => jm_bd (s_Z_in s a0.toInt64 0 ((v1 - 1).toInt64)) (fun v2 => (jm_gb v2 (some v2))))
set_option maxRecDepth 100000 in
set_option maxHeartbeats 4000000 in
theorem s_Z_isRead_ok (s : jm_M) (a0 : Int32) : jm_Sim mY_Z_isRead 0 0 0 [(0, .ref 59), (1, .int a0)] [] 78 mr_154 s (s_Z_isRead s a0) (jm_rI 78 mr_154 s) := by
  unfold s_Z_isRead
  refine jm_iload_n (pc := 0) (q := 1) (x := a0) d_Z_isRead_0 rfl ?_
  refine jm_i2l (pc := 1) d_Z_isRead_1 ?_
  refine jm_lconst (pc := 2) (v := 0) d_Z_isRead_2 cl_0 ?_
  refine jm_aload_n (pc := 3) (q := 0) (x := 59) d_Z_isRead_3 rfl ?_
  refine jm_gr (pc := 4) (i := 59) d_Z_isRead_4 fo_Z_13 sh_59 ge_59 le_59_78 rfl (fun _ => rfl) mr_154_59_2 ge_61 ?_
  refine jm_iconst (pc := 7) (v := 3) d_Z_isRead_7 ci_3 ?_
  refine jm_iald (pc := 8) d_Z_isRead_8 sh_61 ge_61 le_61_78 (fun v1 => ?_)
  refine jm_iconst (pc := 9) (v := 1) d_Z_isRead_9 ci_1 ?_
  refine jm_isub (pc := 10) d_Z_isRead_10 ?_
  refine jm_i2l (pc := 11) d_Z_isRead_11 ?_
  refine jm_Sp (pc := 12) (Y' := mY_Z_in) (avs := [.long a0.toInt64, .long 0, .long ((v1 - 1).toInt64)]) (rest := []) (s_Z_in_ok s a0.toInt64 0 ((v1 - 1).toInt64)) ok_Z_in l0_Z_isRead__Z_in ml_Z_69 sm_Z_in d_Z_isRead_12 rfl rfl (Nat.le_of_ble_eq_true rfl) (Nat.le_of_ble_eq_true rfl) (Nat.le_of_ble_eq_true rfl) (Nat.le_of_ble_eq_true rfl) (fun v2 => ?_)
  exact jm_zret (pc := 15) d_Z_isRead_15 rfl rfl rfl rfl
theorem d_Z_has_0 : decode (jm_cd mY_Z_has) 0 = .ok (.iload_n 0, 1) := by decide +kernel
theorem d_Z_has_1 : decode (jm_cd mY_Z_has) 1 = .ok (.iload_n 1, 1) := by decide +kernel
theorem d_Z_has_2 : decode (jm_cd mY_Z_has) 2 = .ok (.ishr, 1) := by decide +kernel
theorem d_Z_has_3 : decode (jm_cd mY_Z_has) 3 = .ok (.iconst 1, 1) := by decide +kernel
theorem d_Z_has_4 : decode (jm_cd mY_Z_has) 4 = .ok (.iand, 1) := by decide +kernel
theorem d_Z_has_5 : decode (jm_cd mY_Z_has) 5 = .ok (.iconst 1, 1) := by decide +kernel
theorem d_Z_has_6 : decode (jm_cd mY_Z_has) 6 = .ok (.if_icmp .ne 7, 3) := by decide +kernel
theorem d_Z_has_9 : decode (jm_cd mY_Z_has) 9 = .ok (.iconst 1, 1) := by decide +kernel
theorem d_Z_has_10 : decode (jm_cd mY_Z_has) 10 = .ok (.goto 4, 3) := by decide +kernel
theorem d_Z_has_13 : decode (jm_cd mY_Z_has) 13 = .ok (.iconst 0, 1) := by decide +kernel
theorem d_Z_has_14 : decode (jm_cd mY_Z_has) 14 = .ok (.ireturn, 1) := by decide +kernel
def s_Z_has (s : jm_M) (a0 : Int32) (a1 : Int32) : Option Int32 := (if ((a0 >>> (a1 &&& 31)) &&& 1) = 1 then (some 1) else (some 0))
set_option maxRecDepth 100000 in
set_option maxHeartbeats 4000000 in
theorem s_Z_has_ok (s : jm_M) (a0 : Int32) (a1 : Int32) : jm_Sim mY_Z_has 0 0 0 [(0, .int a0), (1, .int a1)] [] 78 mr_154 s (s_Z_has s a0 a1) (jm_rI 78 mr_154 s) := by
  unfold s_Z_has
  refine jm_iload_n (pc := 0) (q := 0) (x := a0) d_Z_has_0 rfl ?_
  refine jm_iload_n (pc := 1) (q := 1) (x := a1) d_Z_has_1 rfl ?_
  refine jm_ishr (pc := 2) d_Z_has_2 ?_
  refine jm_iconst (pc := 3) (v := 1) d_Z_has_3 ci_1 ?_
  refine jm_iand (pc := 4) d_Z_has_4 ?_
  refine jm_iconst (pc := 5) (v := 1) d_Z_has_5 ci_1 ?_
  refine jm_icmp_ne (pc := 6) (tgt := 13) d_Z_has_6 (by decide) ?_ ?_
  · refine jm_iconst (pc := 9) (v := 1) d_Z_has_9 ci_1 ?_
    refine jm_goto (pc := 10) (tgt := 14) d_Z_has_10 (by decide) ?_
    exact jm_iret (pc := 14) (x := 1) d_Z_has_14 rfl (by decide) rfl rfl rfl
  · refine jm_iconst (pc := 13) (v := 0) d_Z_has_13 ci_0 ?_
    exact jm_iret (pc := 14) (x := 0) d_Z_has_14 rfl (by decide) rfl rfl rfl
theorem d_Z_spanItem_0 : decode (jm_cd mY_Z_spanItem) 0 = .ok (.iload_n 1, 1) := by decide +kernel
theorem d_Z_spanItem_1 : decode (jm_cd mY_Z_spanItem) 1 = .ok (.bipush 103, 2) := by decide +kernel
theorem d_Z_spanItem_3 : decode (jm_cd mY_Z_spanItem) 3 = .ok (.if_icmp .ne 7, 3) := by decide +kernel
theorem d_Z_spanItem_6 : decode (jm_cd mY_Z_spanItem) 6 = .ok (.iconst 4, 1) := by decide +kernel
theorem d_Z_spanItem_7 : decode (jm_cd mY_Z_spanItem) 7 = .ok (.goto 4, 3) := by decide +kernel
theorem d_Z_spanItem_10 : decode (jm_cd mY_Z_spanItem) 10 = .ok (.iconst 3, 1) := by decide +kernel
theorem d_Z_spanItem_11 : decode (jm_cd mY_Z_spanItem) 11 = .ok (.istore_n 2, 1) := by decide +kernel
theorem d_Z_spanItem_12 : decode (jm_cd mY_Z_spanItem) 12 = .ok (.aload_n 0, 1) := by decide +kernel
theorem d_Z_spanItem_13 : decode (jm_cd mY_Z_spanItem) 13 = .ok (.iload_n 2, 1) := by decide +kernel
theorem d_Z_spanItem_14 : decode (jm_cd mY_Z_spanItem) 14 = .ok (.invokevirtual 88, 3) := by decide +kernel
theorem d_Z_spanItem_17 : decode (jm_cd mY_Z_spanItem) 17 = .ok (.ifCond .eq 16, 3) := by decide +kernel
theorem d_Z_spanItem_20 : decode (jm_cd mY_Z_spanItem) 20 = .ok (.aload_n 0, 1) := by decide +kernel
theorem d_Z_spanItem_21 : decode (jm_cd mY_Z_spanItem) 21 = .ok (.aload_n 0, 1) := by decide +kernel
theorem d_Z_spanItem_22 : decode (jm_cd mY_Z_spanItem) 22 = .ok (.getfield 49, 3) := by decide +kernel
theorem d_Z_spanItem_25 : decode (jm_cd mY_Z_spanItem) 25 = .ok (.iconst 0, 1) := by decide +kernel
theorem d_Z_spanItem_26 : decode (jm_cd mY_Z_spanItem) 26 = .ok (.iaload, 1) := by decide +kernel
theorem d_Z_spanItem_27 : decode (jm_cd mY_Z_spanItem) 27 = .ok (.invokevirtual 96, 3) := by decide +kernel
theorem d_Z_spanItem_30 : decode (jm_cd mY_Z_spanItem) 30 = .ok (.ifCond .ne 5, 3) := by decide +kernel
theorem d_Z_spanItem_33 : decode (jm_cd mY_Z_spanItem) 33 = .ok (.iconst 0, 1) := by decide +kernel
theorem d_Z_spanItem_34 : decode (jm_cd mY_Z_spanItem) 34 = .ok (.ireturn, 1) := by decide +kernel
theorem d_Z_spanItem_35 : decode (jm_cd mY_Z_spanItem) 35 = .ok (.aload_n 0, 1) := by decide +kernel
theorem d_Z_spanItem_36 : decode (jm_cd mY_Z_spanItem) 36 = .ok (.getfield 49, 3) := by decide +kernel
theorem d_Z_spanItem_39 : decode (jm_cd mY_Z_spanItem) 39 = .ok (.iload_n 2, 1) := by decide +kernel
theorem d_Z_spanItem_40 : decode (jm_cd mY_Z_spanItem) 40 = .ok (.iconst 2, 1) := by decide +kernel
theorem d_Z_spanItem_41 : decode (jm_cd mY_Z_spanItem) 41 = .ok (.isub, 1) := by decide +kernel
theorem d_Z_spanItem_42 : decode (jm_cd mY_Z_spanItem) 42 = .ok (.iaload, 1) := by decide +kernel
theorem d_Z_spanItem_43 : decode (jm_cd mY_Z_spanItem) 43 = .ok (.istore_n 3, 1) := by decide +kernel
theorem d_Z_spanItem_44 : decode (jm_cd mY_Z_spanItem) 44 = .ok (.aload_n 0, 1) := by decide +kernel
theorem d_Z_spanItem_45 : decode (jm_cd mY_Z_spanItem) 45 = .ok (.getfield 49, 3) := by decide +kernel
theorem d_Z_spanItem_48 : decode (jm_cd mY_Z_spanItem) 48 = .ok (.iload_n 2, 1) := by decide +kernel
theorem d_Z_spanItem_49 : decode (jm_cd mY_Z_spanItem) 49 = .ok (.iconst 1, 1) := by decide +kernel
theorem d_Z_spanItem_50 : decode (jm_cd mY_Z_spanItem) 50 = .ok (.isub, 1) := by decide +kernel
theorem d_Z_spanItem_51 : decode (jm_cd mY_Z_spanItem) 51 = .ok (.iaload, 1) := by decide +kernel
theorem d_Z_spanItem_52 : decode (jm_cd mY_Z_spanItem) 52 = .ok (.istore 4, 2) := by decide +kernel
theorem d_Z_spanItem_54 : decode (jm_cd mY_Z_spanItem) 54 = .ok (.aload_n 0, 1) := by decide +kernel
theorem d_Z_spanItem_55 : decode (jm_cd mY_Z_spanItem) 55 = .ok (.getfield 16, 3) := by decide +kernel
theorem d_Z_spanItem_58 : decode (jm_cd mY_Z_spanItem) 58 = .ok (.bipush 30, 2) := by decide +kernel
theorem d_Z_spanItem_60 : decode (jm_cd mY_Z_spanItem) 60 = .ok (.aload_n 0, 1) := by decide +kernel
theorem d_Z_spanItem_61 : decode (jm_cd mY_Z_spanItem) 61 = .ok (.getfield 49, 3) := by decide +kernel
theorem d_Z_spanItem_64 : decode (jm_cd mY_Z_spanItem) 64 = .ok (.iconst 0, 1) := by decide +kernel
theorem d_Z_spanItem_65 : decode (jm_cd mY_Z_spanItem) 65 = .ok (.iaload, 1) := by decide +kernel
theorem d_Z_spanItem_66 : decode (jm_cd mY_Z_spanItem) 66 = .ok (.iadd, 1) := by decide +kernel
theorem d_Z_spanItem_67 : decode (jm_cd mY_Z_spanItem) 67 = .ok (.iaload, 1) := by decide +kernel
theorem d_Z_spanItem_68 : decode (jm_cd mY_Z_spanItem) 68 = .ok (.istore 5, 2) := by decide +kernel
theorem d_Z_spanItem_70 : decode (jm_cd mY_Z_spanItem) 70 = .ok (.iload 4, 2) := by decide +kernel
theorem d_Z_spanItem_72 : decode (jm_cd mY_Z_spanItem) 72 = .ok (.bipush 59, 2) := by decide +kernel
theorem d_Z_spanItem_74 : decode (jm_cd mY_Z_spanItem) 74 = .ok (.if_icmp .gt 21, 3) := by decide +kernel
theorem d_Z_spanItem_77 : decode (jm_cd mY_Z_spanItem) 77 = .ok (.iload_n 3, 1) := by decide +kernel
theorem d_Z_spanItem_78 : decode (jm_cd mY_Z_spanItem) 78 = .ok (.iload 4, 2) := by decide +kernel
theorem d_Z_spanItem_80 : decode (jm_cd mY_Z_spanItem) 80 = .ok (.if_icmp .gt 15, 3) := by decide +kernel
theorem d_Z_spanItem_83 : decode (jm_cd mY_Z_spanItem) 83 = .ok (.iload_n 1, 1) := by decide +kernel
theorem d_Z_spanItem_84 : decode (jm_cd mY_Z_spanItem) 84 = .ok (.bipush 108, 2) := by decide +kernel
theorem d_Z_spanItem_86 : decode (jm_cd mY_Z_spanItem) 86 = .ok (.if_icmp .ne 11, 3) := by decide +kernel
theorem d_Z_spanItem_89 : decode (jm_cd mY_Z_spanItem) 89 = .ok (.iload 5, 2) := by decide +kernel
theorem d_Z_spanItem_91 : decode (jm_cd mY_Z_spanItem) 91 = .ok (.iconst 1, 1) := by decide +kernel
theorem d_Z_spanItem_92 : decode (jm_cd mY_Z_spanItem) 92 = .ok (.if_icmp .le 5, 3) := by decide +kernel
theorem d_Z_spanItem_95 : decode (jm_cd mY_Z_spanItem) 95 = .ok (.iconst 0, 1) := by decide +kernel
theorem d_Z_spanItem_96 : decode (jm_cd mY_Z_spanItem) 96 = .ok (.ireturn, 1) := by decide +kernel
theorem d_Z_spanItem_97 : decode (jm_cd mY_Z_spanItem) 97 = .ok (.iload_n 1, 1) := by decide +kernel
theorem d_Z_spanItem_98 : decode (jm_cd mY_Z_spanItem) 98 = .ok (.bipush 103, 2) := by decide +kernel
theorem d_Z_spanItem_100 : decode (jm_cd mY_Z_spanItem) 100 = .ok (.if_icmp .ne 44, 3) := by decide +kernel
theorem d_Z_spanItem_103 : decode (jm_cd mY_Z_spanItem) 103 = .ok (.aload_n 0, 1) := by decide +kernel
theorem d_Z_spanItem_104 : decode (jm_cd mY_Z_spanItem) 104 = .ok (.aload_n 0, 1) := by decide +kernel
theorem d_Z_spanItem_105 : decode (jm_cd mY_Z_spanItem) 105 = .ok (.getfield 49, 3) := by decide +kernel
theorem d_Z_spanItem_108 : decode (jm_cd mY_Z_spanItem) 108 = .ok (.iconst 1, 1) := by decide +kernel
theorem d_Z_spanItem_109 : decode (jm_cd mY_Z_spanItem) 109 = .ok (.iaload, 1) := by decide +kernel
theorem d_Z_spanItem_110 : decode (jm_cd mY_Z_spanItem) 110 = .ok (.invokevirtual 96, 3) := by decide +kernel
theorem d_Z_spanItem_113 : decode (jm_cd mY_Z_spanItem) 113 = .ok (.ifCond .eq 29, 3) := by decide +kernel
theorem d_Z_spanItem_116 : decode (jm_cd mY_Z_spanItem) 116 = .ok (.aload_n 0, 1) := by decide +kernel
theorem d_Z_spanItem_117 : decode (jm_cd mY_Z_spanItem) 117 = .ok (.getfield 19, 3) := by decide +kernel
theorem d_Z_spanItem_120 : decode (jm_cd mY_Z_spanItem) 120 = .ok (.bipush 30, 2) := by decide +kernel
theorem d_Z_spanItem_122 : decode (jm_cd mY_Z_spanItem) 122 = .ok (.aload_n 0, 1) := by decide +kernel
theorem d_Z_spanItem_123 : decode (jm_cd mY_Z_spanItem) 123 = .ok (.getfield 49, 3) := by decide +kernel
theorem d_Z_spanItem_126 : decode (jm_cd mY_Z_spanItem) 126 = .ok (.iconst 0, 1) := by decide +kernel
theorem d_Z_spanItem_127 : decode (jm_cd mY_Z_spanItem) 127 = .ok (.iaload, 1) := by decide +kernel
theorem d_Z_spanItem_128 : decode (jm_cd mY_Z_spanItem) 128 = .ok (.iadd, 1) := by decide +kernel
theorem d_Z_spanItem_129 : decode (jm_cd mY_Z_spanItem) 129 = .ok (.iaload, 1) := by decide +kernel
theorem d_Z_spanItem_130 : decode (jm_cd mY_Z_spanItem) 130 = .ok (.aload_n 0, 1) := by decide +kernel
theorem d_Z_spanItem_131 : decode (jm_cd mY_Z_spanItem) 131 = .ok (.getfield 49, 3) := by decide +kernel
theorem d_Z_spanItem_134 : decode (jm_cd mY_Z_spanItem) 134 = .ok (.iconst 1, 1) := by decide +kernel
theorem d_Z_spanItem_135 : decode (jm_cd mY_Z_spanItem) 135 = .ok (.iaload, 1) := by decide +kernel
theorem d_Z_spanItem_136 : decode (jm_cd mY_Z_spanItem) 136 = .ok (.invokestatic 99, 3) := by decide +kernel
theorem d_Z_spanItem_139 : decode (jm_cd mY_Z_spanItem) 139 = .ok (.ifCond .ne 5, 3) := by decide +kernel
theorem d_Z_spanItem_142 : decode (jm_cd mY_Z_spanItem) 142 = .ok (.iconst 0, 1) := by decide +kernel
theorem d_Z_spanItem_143 : decode (jm_cd mY_Z_spanItem) 143 = .ok (.ireturn, 1) := by decide +kernel
theorem d_Z_spanItem_144 : decode (jm_cd mY_Z_spanItem) 144 = .ok (.sipush 645, 3) := by decide +kernel
theorem d_Z_spanItem_147 : decode (jm_cd mY_Z_spanItem) 147 = .ok (.iconst 5, 1) := by decide +kernel
theorem d_Z_spanItem_148 : decode (jm_cd mY_Z_spanItem) 148 = .ok (.aload_n 0, 1) := by decide +kernel
theorem d_Z_spanItem_149 : decode (jm_cd mY_Z_spanItem) 149 = .ok (.getfield 31, 3) := by decide +kernel
theorem d_Z_spanItem_152 : decode (jm_cd mY_Z_spanItem) 152 = .ok (.iconst 3, 1) := by decide +kernel
theorem d_Z_spanItem_153 : decode (jm_cd mY_Z_spanItem) 153 = .ok (.iaload, 1) := by decide +kernel
theorem d_Z_spanItem_154 : decode (jm_cd mY_Z_spanItem) 154 = .ok (.imul, 1) := by decide +kernel
theorem d_Z_spanItem_155 : decode (jm_cd mY_Z_spanItem) 155 = .ok (.iadd, 1) := by decide +kernel
theorem d_Z_spanItem_156 : decode (jm_cd mY_Z_spanItem) 156 = .ok (.istore 6, 2) := by decide +kernel
theorem d_Z_spanItem_158 : decode (jm_cd mY_Z_spanItem) 158 = .ok (.aload_n 0, 1) := by decide +kernel
theorem d_Z_spanItem_159 : decode (jm_cd mY_Z_spanItem) 159 = .ok (.getfield 34, 3) := by decide +kernel
theorem d_Z_spanItem_162 : decode (jm_cd mY_Z_spanItem) 162 = .ok (.iload 6, 2) := by decide +kernel
theorem d_Z_spanItem_164 : decode (jm_cd mY_Z_spanItem) 164 = .ok (.iload_n 1, 1) := by decide +kernel
theorem d_Z_spanItem_165 : decode (jm_cd mY_Z_spanItem) 165 = .ok (.iastore, 1) := by decide +kernel
theorem d_Z_spanItem_166 : decode (jm_cd mY_Z_spanItem) 166 = .ok (.aload_n 0, 1) := by decide +kernel
theorem d_Z_spanItem_167 : decode (jm_cd mY_Z_spanItem) 167 = .ok (.getfield 34, 3) := by decide +kernel
theorem d_Z_spanItem_170 : decode (jm_cd mY_Z_spanItem) 170 = .ok (.iload 6, 2) := by decide +kernel
theorem d_Z_spanItem_172 : decode (jm_cd mY_Z_spanItem) 172 = .ok (.iconst 1, 1) := by decide +kernel
theorem d_Z_spanItem_173 : decode (jm_cd mY_Z_spanItem) 173 = .ok (.iadd, 1) := by decide +kernel
theorem d_Z_spanItem_174 : decode (jm_cd mY_Z_spanItem) 174 = .ok (.aload_n 0, 1) := by decide +kernel
theorem d_Z_spanItem_175 : decode (jm_cd mY_Z_spanItem) 175 = .ok (.getfield 49, 3) := by decide +kernel
theorem d_Z_spanItem_178 : decode (jm_cd mY_Z_spanItem) 178 = .ok (.iconst 0, 1) := by decide +kernel
theorem d_Z_spanItem_179 : decode (jm_cd mY_Z_spanItem) 179 = .ok (.iaload, 1) := by decide +kernel
theorem d_Z_spanItem_180 : decode (jm_cd mY_Z_spanItem) 180 = .ok (.iastore, 1) := by decide +kernel
theorem d_Z_spanItem_181 : decode (jm_cd mY_Z_spanItem) 181 = .ok (.aload_n 0, 1) := by decide +kernel
theorem d_Z_spanItem_182 : decode (jm_cd mY_Z_spanItem) 182 = .ok (.getfield 34, 3) := by decide +kernel
theorem d_Z_spanItem_185 : decode (jm_cd mY_Z_spanItem) 185 = .ok (.iload 6, 2) := by decide +kernel
theorem d_Z_spanItem_187 : decode (jm_cd mY_Z_spanItem) 187 = .ok (.iconst 2, 1) := by decide +kernel
theorem d_Z_spanItem_188 : decode (jm_cd mY_Z_spanItem) 188 = .ok (.iadd, 1) := by decide +kernel
theorem d_Z_spanItem_189 : decode (jm_cd mY_Z_spanItem) 189 = .ok (.iload_n 1, 1) := by decide +kernel
theorem d_Z_spanItem_190 : decode (jm_cd mY_Z_spanItem) 190 = .ok (.bipush 103, 2) := by decide +kernel
theorem d_Z_spanItem_192 : decode (jm_cd mY_Z_spanItem) 192 = .ok (.if_icmp .ne 12, 3) := by decide +kernel
theorem d_Z_spanItem_195 : decode (jm_cd mY_Z_spanItem) 195 = .ok (.aload_n 0, 1) := by decide +kernel
theorem d_Z_spanItem_196 : decode (jm_cd mY_Z_spanItem) 196 = .ok (.getfield 49, 3) := by decide +kernel
theorem d_Z_spanItem_199 : decode (jm_cd mY_Z_spanItem) 199 = .ok (.iconst 1, 1) := by decide +kernel
theorem d_Z_spanItem_200 : decode (jm_cd mY_Z_spanItem) 200 = .ok (.iaload, 1) := by decide +kernel
theorem d_Z_spanItem_201 : decode (jm_cd mY_Z_spanItem) 201 = .ok (.goto 4, 3) := by decide +kernel
theorem d_Z_spanItem_204 : decode (jm_cd mY_Z_spanItem) 204 = .ok (.iconst 0, 1) := by decide +kernel
theorem d_Z_spanItem_205 : decode (jm_cd mY_Z_spanItem) 205 = .ok (.iastore, 1) := by decide +kernel
theorem d_Z_spanItem_206 : decode (jm_cd mY_Z_spanItem) 206 = .ok (.aload_n 0, 1) := by decide +kernel
theorem d_Z_spanItem_207 : decode (jm_cd mY_Z_spanItem) 207 = .ok (.getfield 34, 3) := by decide +kernel
theorem d_Z_spanItem_210 : decode (jm_cd mY_Z_spanItem) 210 = .ok (.iload 6, 2) := by decide +kernel
theorem d_Z_spanItem_212 : decode (jm_cd mY_Z_spanItem) 212 = .ok (.iconst 3, 1) := by decide +kernel
theorem d_Z_spanItem_213 : decode (jm_cd mY_Z_spanItem) 213 = .ok (.iadd, 1) := by decide +kernel
theorem d_Z_spanItem_214 : decode (jm_cd mY_Z_spanItem) 214 = .ok (.iload_n 3, 1) := by decide +kernel
theorem d_Z_spanItem_215 : decode (jm_cd mY_Z_spanItem) 215 = .ok (.iastore, 1) := by decide +kernel
theorem d_Z_spanItem_216 : decode (jm_cd mY_Z_spanItem) 216 = .ok (.aload_n 0, 1) := by decide +kernel
theorem d_Z_spanItem_217 : decode (jm_cd mY_Z_spanItem) 217 = .ok (.getfield 34, 3) := by decide +kernel
theorem d_Z_spanItem_220 : decode (jm_cd mY_Z_spanItem) 220 = .ok (.iload 6, 2) := by decide +kernel
theorem d_Z_spanItem_222 : decode (jm_cd mY_Z_spanItem) 222 = .ok (.iconst 4, 1) := by decide +kernel
theorem d_Z_spanItem_223 : decode (jm_cd mY_Z_spanItem) 223 = .ok (.iadd, 1) := by decide +kernel
theorem d_Z_spanItem_224 : decode (jm_cd mY_Z_spanItem) 224 = .ok (.iload 4, 2) := by decide +kernel
theorem d_Z_spanItem_226 : decode (jm_cd mY_Z_spanItem) 226 = .ok (.iastore, 1) := by decide +kernel
theorem d_Z_spanItem_227 : decode (jm_cd mY_Z_spanItem) 227 = .ok (.aload_n 0, 1) := by decide +kernel
theorem d_Z_spanItem_228 : decode (jm_cd mY_Z_spanItem) 228 = .ok (.getfield 31, 3) := by decide +kernel
theorem d_Z_spanItem_231 : decode (jm_cd mY_Z_spanItem) 231 = .ok (.iconst 3, 1) := by decide +kernel
theorem d_Z_spanItem_232 : decode (jm_cd mY_Z_spanItem) 232 = .ok (.dup2, 1) := by decide +kernel
theorem d_Z_spanItem_233 : decode (jm_cd mY_Z_spanItem) 233 = .ok (.iaload, 1) := by decide +kernel
theorem d_Z_spanItem_234 : decode (jm_cd mY_Z_spanItem) 234 = .ok (.iconst 1, 1) := by decide +kernel
theorem d_Z_spanItem_235 : decode (jm_cd mY_Z_spanItem) 235 = .ok (.iadd, 1) := by decide +kernel
theorem d_Z_spanItem_236 : decode (jm_cd mY_Z_spanItem) 236 = .ok (.iastore, 1) := by decide +kernel
theorem d_Z_spanItem_237 : decode (jm_cd mY_Z_spanItem) 237 = .ok (.iconst 1, 1) := by decide +kernel
theorem d_Z_spanItem_238 : decode (jm_cd mY_Z_spanItem) 238 = .ok (.ireturn, 1) := by decide +kernel
def s_Z_spanItem_J205 (x3 : Int32) (x4 : Int32) (x6 : Int32) (y0 : Int32) (y1 : Int32) (s : jm_M) : Option (Int32 × jm_M) := jm_sti s 68 860 y1 y0 (fun s14 => jm_sti s14 68 860 (x6 + 3) x3 (fun s15 => jm_sti s15 68 860 (x6 + 4) x4 (fun s16 => jm_ldi s16 67 4 3 (fun v17 => jm_sti s16 67 4 3 (v17 + 1) (fun s18 => (some (1, s18)))))))
set_option maxRecDepth 100000 in
set_option maxHeartbeats 4000000 in
theorem s_Z_spanItem_J205_ok (x3 : Int32) (x4 : Int32) (x6 : Int32) (y0 : Int32) (y1 : Int32) (s : jm_M) : jm_Sim mY_Z_spanItem 0 0 205 [(0, .ref 59), (3, .int x3), (4, .int x4), (6, .int x6)] [.int y0, .int y1, .ref 68] 78 mr_154 s (s_Z_spanItem_J205 x3 x4 x6 y0 y1 s) (jm_rP 78 mr_154) := by
  unfold s_Z_spanItem_J205
  refine jm_iast (pc := 205) d_Z_spanItem_205 sh_68 ge_68 le_68_78 (fun s14 => ?_)
  refine jm_aload_n (pc := 206) (q := 0) (x := 59) d_Z_spanItem_206 rfl ?_
  refine jm_gr (pc := 207) (i := 59) d_Z_spanItem_207 fo_Z_34 sh_59 ge_59 le_59_78 rfl (fun _ => rfl) mr_154_59_9 ge_68 ?_
  refine jm_iload (pc := 210) (q := 3) (x := x6) d_Z_spanItem_210 rfl ?_
  refine jm_iconst (pc := 212) (v := 3) d_Z_spanItem_212 ci_3 ?_
  refine jm_iadd (pc := 213) d_Z_spanItem_213 ?_
  refine jm_iload_n (pc := 214) (q := 1) (x := x3) d_Z_spanItem_214 rfl ?_
  refine jm_iast (pc := 215) d_Z_spanItem_215 sh_68 ge_68 le_68_78 (fun s15 => ?_)
  refine jm_aload_n (pc := 216) (q := 0) (x := 59) d_Z_spanItem_216 rfl ?_
  refine jm_gr (pc := 217) (i := 59) d_Z_spanItem_217 fo_Z_34 sh_59 ge_59 le_59_78 rfl (fun _ => rfl) mr_154_59_9 ge_68 ?_
  refine jm_iload (pc := 220) (q := 3) (x := x6) d_Z_spanItem_220 rfl ?_
  refine jm_iconst (pc := 222) (v := 4) d_Z_spanItem_222 ci_4 ?_
  refine jm_iadd (pc := 223) d_Z_spanItem_223 ?_
  refine jm_iload (pc := 224) (q := 2) (x := x4) d_Z_spanItem_224 rfl ?_
  refine jm_iast (pc := 226) d_Z_spanItem_226 sh_68 ge_68 le_68_78 (fun s16 => ?_)
  refine jm_aload_n (pc := 227) (q := 0) (x := 59) d_Z_spanItem_227 rfl ?_
  refine jm_gr (pc := 228) (i := 59) d_Z_spanItem_228 fo_Z_31 sh_59 ge_59 le_59_78 rfl (fun _ => rfl) mr_154_59_8 ge_67 ?_
  refine jm_iconst (pc := 231) (v := 3) d_Z_spanItem_231 ci_3 ?_
  refine jm_dup2 (pc := 232) d_Z_spanItem_232 rfl rfl ?_
  refine jm_iald (pc := 233) d_Z_spanItem_233 sh_67 ge_67 le_67_78 (fun v17 => ?_)
  refine jm_iconst (pc := 234) (v := 1) d_Z_spanItem_234 ci_1 ?_
  refine jm_iadd (pc := 235) d_Z_spanItem_235 ?_
  refine jm_iast (pc := 236) d_Z_spanItem_236 sh_67 ge_67 le_67_78 (fun s18 => ?_)
  refine jm_iconst (pc := 237) (v := 1) d_Z_spanItem_237 ci_1 ?_
  exact jm_iret (pc := 238) (x := 1) d_Z_spanItem_238 rfl (by decide) rfl rfl rfl
def s_Z_spanItem_J144 (x1 : Int32) (x3 : Int32) (x4 : Int32) (s : jm_M) : Option (Int32 × jm_M) := jm_ldi s 67 4 3 (fun v9 => jm_vi (645 + (5 * v9)) (fun v10 => jm_sti s 68 860 v10 x1 (fun s11 => jm_ldi s11 73 4 0 (fun v12 => jm_sti s11 68 860 (v10 + 1) v12 (fun s13 => (if x1 = 103 then jm_ldi s13 73 4 1 (fun v19 => s_Z_spanItem_J205 x3 x4 v10 v19 (v10 + 2) s13) else s_Z_spanItem_J205 x3 x4 v10 0 (v10 + 2) s13))))))
set_option maxRecDepth 100000 in
set_option maxHeartbeats 4000000 in
theorem s_Z_spanItem_J144_ok (x1 : Int32) (x3 : Int32) (x4 : Int32) (s : jm_M) : jm_Sim mY_Z_spanItem 0 0 144 [(0, .ref 59), (1, .int x1), (3, .int x3), (4, .int x4)] [] 78 mr_154 s (s_Z_spanItem_J144 x1 x3 x4 s) (jm_rP 78 mr_154) := by
  unfold s_Z_spanItem_J144
  refine jm_sipush (pc := 144) (v := 645) d_Z_spanItem_144 cs_645 ?_
  refine jm_iconst (pc := 147) (v := 5) d_Z_spanItem_147 ci_5 ?_
  refine jm_aload_n (pc := 148) (q := 0) (x := 59) d_Z_spanItem_148 rfl ?_
  refine jm_gr (pc := 149) (i := 59) d_Z_spanItem_149 fo_Z_31 sh_59 ge_59 le_59_78 rfl (fun _ => rfl) mr_154_59_8 ge_67 ?_
  refine jm_iconst (pc := 152) (v := 3) d_Z_spanItem_152 ci_3 ?_
  refine jm_iald (pc := 153) d_Z_spanItem_153 sh_67 ge_67 le_67_78 (fun v9 => ?_)
  refine jm_imul (pc := 154) d_Z_spanItem_154 ?_
  refine jm_iadd (pc := 155) d_Z_spanItem_155 ?_
  refine jm_nvi (fun v10 => ?_)
  refine jm_istore (pc := 156) (L2 := [(6, .int v10), (0, .ref 59), (1, .int x1), (3, .int x3), (4, .int x4)]) d_Z_spanItem_156 (Nat.le_of_ble_eq_true rfl) rfl ?_
  refine jm_aload_n (pc := 158) (q := 1) (x := 59) d_Z_spanItem_158 rfl ?_
  refine jm_gr (pc := 159) (i := 59) d_Z_spanItem_159 fo_Z_34 sh_59 ge_59 le_59_78 rfl (fun _ => rfl) mr_154_59_9 ge_68 ?_
  refine jm_iload (pc := 162) (q := 0) (x := v10) d_Z_spanItem_162 rfl ?_
  refine jm_iload_n (pc := 164) (q := 2) (x := x1) d_Z_spanItem_164 rfl ?_
  refine jm_iast (pc := 165) d_Z_spanItem_165 sh_68 ge_68 le_68_78 (fun s11 => ?_)
  refine jm_aload_n (pc := 166) (q := 1) (x := 59) d_Z_spanItem_166 rfl ?_
  refine jm_gr (pc := 167) (i := 59) d_Z_spanItem_167 fo_Z_34 sh_59 ge_59 le_59_78 rfl (fun _ => rfl) mr_154_59_9 ge_68 ?_
  refine jm_iload (pc := 170) (q := 0) (x := v10) d_Z_spanItem_170 rfl ?_
  refine jm_iconst (pc := 172) (v := 1) d_Z_spanItem_172 ci_1 ?_
  refine jm_iadd (pc := 173) d_Z_spanItem_173 ?_
  refine jm_aload_n (pc := 174) (q := 1) (x := 59) d_Z_spanItem_174 rfl ?_
  refine jm_gr (pc := 175) (i := 59) d_Z_spanItem_175 fo_Z_49 sh_59 ge_59 le_59_78 rfl (fun _ => rfl) mr_154_59_16 ge_73 ?_
  refine jm_iconst (pc := 178) (v := 0) d_Z_spanItem_178 ci_0 ?_
  refine jm_iald (pc := 179) d_Z_spanItem_179 sh_73 ge_73 le_73_78 (fun v12 => ?_)
  refine jm_iast (pc := 180) d_Z_spanItem_180 sh_68 ge_68 le_68_78 (fun s13 => ?_)
  refine jm_aload_n (pc := 181) (q := 1) (x := 59) d_Z_spanItem_181 rfl ?_
  refine jm_gr (pc := 182) (i := 59) d_Z_spanItem_182 fo_Z_34 sh_59 ge_59 le_59_78 rfl (fun _ => rfl) mr_154_59_9 ge_68 ?_
  refine jm_iload (pc := 185) (q := 0) (x := v10) d_Z_spanItem_185 rfl ?_
  refine jm_iconst (pc := 187) (v := 2) d_Z_spanItem_187 ci_2 ?_
  refine jm_iadd (pc := 188) d_Z_spanItem_188 ?_
  refine jm_iload_n (pc := 189) (q := 2) (x := x1) d_Z_spanItem_189 rfl ?_
  refine jm_bipush (pc := 190) (v := 103) d_Z_spanItem_190 cb_103 ?_
  refine jm_icmp_ne (pc := 192) (tgt := 204) d_Z_spanItem_192 (by decide) ?_ ?_
  · refine jm_aload_n (pc := 195) (q := 1) (x := 59) d_Z_spanItem_195 rfl ?_
    refine jm_gr (pc := 196) (i := 59) d_Z_spanItem_196 fo_Z_49 sh_59 ge_59 le_59_78 rfl (fun _ => rfl) mr_154_59_16 ge_73 ?_
    refine jm_iconst (pc := 199) (v := 1) d_Z_spanItem_199 ci_1 ?_
    refine jm_iald (pc := 200) d_Z_spanItem_200 sh_73 ge_73 le_73_78 (fun v19 => ?_)
    refine jm_goto (pc := 201) (tgt := 205) d_Z_spanItem_201 (by decide) ?_
    refine jm_sub (L2 := [(0, .ref 59), (3, .int x3), (4, .int x4), (6, .int v10)]) [1, 3, 4, 0] rfl ?_
    exact s_Z_spanItem_J205_ok x3 x4 v10 v19 (v10 + 2) s13
  · refine jm_iconst (pc := 204) (v := 0) d_Z_spanItem_204 ci_0 ?_
    refine jm_sub (L2 := [(0, .ref 59), (3, .int x3), (4, .int x4), (6, .int v10)]) [1, 3, 4, 0] rfl ?_
    exact s_Z_spanItem_J205_ok x3 x4 v10 0 (v10 + 2) s13
def s_Z_spanItem_J97 (x1 : Int32) (x3 : Int32) (x4 : Int32) (s : jm_M) : Option (Int32 × jm_M) := (if x1 = 103 then jm_ldi s 73 4 1 (fun v20 => jm_bd (s_Z_isRead s v20) (fun v21 => (if v21 = 0 then (some (0, s)) else jm_ldi s 73 4 0 (fun v22 => jm_ldi s 63 40 (30 + v22) (fun v23 => jm_ldi s 73 4 1 (fun v24 => jm_bd (s_Z_has s v23 v24) (fun v25 => (if v25 = 0 then (some (0, s)) else s_Z_spanItem_J144 x1 x3 x4 s)))))))) else s_Z_spanItem_J144 x1 x3 x4 s)
set_option maxRecDepth 100000 in
set_option maxHeartbeats 4000000 in
theorem s_Z_spanItem_J97_ok (x1 : Int32) (x3 : Int32) (x4 : Int32) (s : jm_M) : jm_Sim mY_Z_spanItem 0 0 97 [(0, .ref 59), (1, .int x1), (3, .int x3), (4, .int x4)] [] 78 mr_154 s (s_Z_spanItem_J97 x1 x3 x4 s) (jm_rP 78 mr_154) := by
  unfold s_Z_spanItem_J97
  refine jm_iload_n (pc := 97) (q := 1) (x := x1) d_Z_spanItem_97 rfl ?_
  refine jm_bipush (pc := 98) (v := 103) d_Z_spanItem_98 cb_103 ?_
  refine jm_icmp_ne (pc := 100) (tgt := 144) d_Z_spanItem_100 (by decide) ?_ ?_
  · refine jm_aload_n (pc := 103) (q := 0) (x := 59) d_Z_spanItem_103 rfl ?_
    refine jm_aload_n (pc := 104) (q := 0) (x := 59) d_Z_spanItem_104 rfl ?_
    refine jm_gr (pc := 105) (i := 59) d_Z_spanItem_105 fo_Z_49 sh_59 ge_59 le_59_78 rfl (fun _ => rfl) mr_154_59_16 ge_73 ?_
    refine jm_iconst (pc := 108) (v := 1) d_Z_spanItem_108 ci_1 ?_
    refine jm_iald (pc := 109) d_Z_spanItem_109 sh_73 ge_73 le_73_78 (fun v20 => ?_)
    refine jm_Vp (pc := 110) (Y' := mY_Z_isRead) (i := 59) (avs := [.int v20]) (rest := []) (s_Z_isRead_ok s v20) ok_Z_isRead l0_Z_spanItem__Z_isRead ml_Z_96 im_Z_isRead se_Z_isRead d_Z_spanItem_110 rfl sh_59 rfl rfl ge_59 le_59_78 rfl (Nat.le_of_ble_eq_true rfl) (Nat.le_of_ble_eq_true rfl) (Nat.le_of_ble_eq_true rfl) (Nat.le_of_ble_eq_true rfl) (fun v21 => ?_)
    refine jm_if_eq (pc := 113) (tgt := 142) d_Z_spanItem_113 (by decide) ?_ ?_
    · refine jm_iconst (pc := 142) (v := 0) d_Z_spanItem_142 ci_0 ?_
      exact jm_iret (pc := 143) (x := 0) d_Z_spanItem_143 rfl (by decide) rfl rfl rfl
    · refine jm_aload_n (pc := 116) (q := 0) (x := 59) d_Z_spanItem_116 rfl ?_
      refine jm_gr (pc := 117) (i := 59) d_Z_spanItem_117 fo_Z_19 sh_59 ge_59 le_59_78 rfl (fun _ => rfl) mr_154_59_4 ge_63 ?_
      refine jm_bipush (pc := 120) (v := 30) d_Z_spanItem_120 cb_30 ?_
      refine jm_aload_n (pc := 122) (q := 0) (x := 59) d_Z_spanItem_122 rfl ?_
      refine jm_gr (pc := 123) (i := 59) d_Z_spanItem_123 fo_Z_49 sh_59 ge_59 le_59_78 rfl (fun _ => rfl) mr_154_59_16 ge_73 ?_
      refine jm_iconst (pc := 126) (v := 0) d_Z_spanItem_126 ci_0 ?_
      refine jm_iald (pc := 127) d_Z_spanItem_127 sh_73 ge_73 le_73_78 (fun v22 => ?_)
      refine jm_iadd (pc := 128) d_Z_spanItem_128 ?_
      refine jm_iald (pc := 129) d_Z_spanItem_129 sh_63 ge_63 le_63_78 (fun v23 => ?_)
      refine jm_aload_n (pc := 130) (q := 0) (x := 59) d_Z_spanItem_130 rfl ?_
      refine jm_gr (pc := 131) (i := 59) d_Z_spanItem_131 fo_Z_49 sh_59 ge_59 le_59_78 rfl (fun _ => rfl) mr_154_59_16 ge_73 ?_
      refine jm_iconst (pc := 134) (v := 1) d_Z_spanItem_134 ci_1 ?_
      refine jm_iald (pc := 135) d_Z_spanItem_135 sh_73 ge_73 le_73_78 (fun v24 => ?_)
      refine jm_Sp (pc := 136) (Y' := mY_Z_has) (avs := [.int v23, .int v24]) (rest := []) (s_Z_has_ok s v23 v24) ok_Z_has l0_Z_spanItem__Z_has ml_Z_99 sm_Z_has d_Z_spanItem_136 rfl rfl (Nat.le_of_ble_eq_true rfl) (Nat.le_of_ble_eq_true rfl) (Nat.le_of_ble_eq_true rfl) (Nat.le_of_ble_eq_true rfl) (fun v25 => ?_)
      refine jm_if_ne (pc := 139) (tgt := 144) d_Z_spanItem_139 (by decide) ?_ ?_
      · refine jm_iconst (pc := 142) (v := 0) d_Z_spanItem_142 ci_0 ?_
        exact jm_iret (pc := 143) (x := 0) d_Z_spanItem_143 rfl (by decide) rfl rfl rfl
      · exact s_Z_spanItem_J144_ok x1 x3 x4 s
  · exact s_Z_spanItem_J144_ok x1 x3 x4 s
def s_Z_spanItem_J11 (x1 : Int32) (y0 : Int32) (s : jm_M) : Option (Int32 × jm_M) := jm_b2 (s_Z_numbers s y0) (fun v1 s2 => (if v1 = 0 then (some (0, s2)) else jm_ldi s2 73 4 0 (fun v3 => jm_bd (s_Z_isRead s2 v3) (fun v4 => (if v4 = 0 then (some (0, s2)) else jm_ldi s2 73 4 (y0 - 2) (fun v5 => jm_ldi s2 73 4 (y0 - 1) (fun v6 => jm_ldi s2 73 4 0 (fun v7 => jm_ldi s2 62 40 (30 + v7) (fun v8 => (if 59 < v6 then (some (0, s2)) else (if v6 < v5 then (some (0, s2)) else (if x1 = 108 then (if v8 ≤ 1 then s_Z_spanItem_J97 x1 v5 v6 s2 else (some (0, s2))) else s_Z_spanItem_J97 x1 v5 v6 s2))))))))))))
set_option maxRecDepth 100000 in
set_option maxHeartbeats 4000000 in
theorem s_Z_spanItem_J11_ok (x1 : Int32) (y0 : Int32) (s : jm_M) : jm_Sim mY_Z_spanItem 0 0 11 [(0, .ref 59), (1, .int x1)] [.int y0] 78 mr_154 s (s_Z_spanItem_J11 x1 y0 s) (jm_rP 78 mr_154) := by
  unfold s_Z_spanItem_J11
  refine jm_istore_n (pc := 11) (i := 2) (L2 := [(2, .int y0), (0, .ref 59), (1, .int x1)]) d_Z_spanItem_11 rfl (Nat.le_of_ble_eq_true rfl) rfl ?_
  refine jm_aload_n (pc := 12) (q := 1) (x := 59) d_Z_spanItem_12 rfl ?_
  refine jm_iload_n (pc := 13) (q := 0) (x := y0) d_Z_spanItem_13 rfl ?_
  refine jm_Vi (pc := 14) (Y' := mY_Z_numbers) (i := 59) (avs := [.int y0]) (rest := []) (s_Z_numbers_ok s y0) ok_Z_numbers l0_Z_spanItem__Z_numbers ml_Z_88 im_Z_numbers se_Z_numbers d_Z_spanItem_14 rfl sh_59 rfl rfl ge_59 le_59_78 rfl (Nat.le_of_ble_eq_true rfl) (Nat.le_of_ble_eq_true rfl) (Nat.le_of_ble_eq_true rfl) (Nat.le_of_ble_eq_true rfl) (fun v1 s2 => ?_)
  refine jm_if_eq (pc := 17) (tgt := 33) d_Z_spanItem_17 (by decide) ?_ ?_
  · refine jm_iconst (pc := 33) (v := 0) d_Z_spanItem_33 ci_0 ?_
    exact jm_iret (pc := 34) (x := 0) d_Z_spanItem_34 rfl (by decide) rfl rfl rfl
  · refine jm_aload_n (pc := 20) (q := 1) (x := 59) d_Z_spanItem_20 rfl ?_
    refine jm_aload_n (pc := 21) (q := 1) (x := 59) d_Z_spanItem_21 rfl ?_
    refine jm_gr (pc := 22) (i := 59) d_Z_spanItem_22 fo_Z_49 sh_59 ge_59 le_59_78 rfl (fun _ => rfl) mr_154_59_16 ge_73 ?_
    refine jm_iconst (pc := 25) (v := 0) d_Z_spanItem_25 ci_0 ?_
    refine jm_iald (pc := 26) d_Z_spanItem_26 sh_73 ge_73 le_73_78 (fun v3 => ?_)
    refine jm_Vp (pc := 27) (Y' := mY_Z_isRead) (i := 59) (avs := [.int v3]) (rest := []) (s_Z_isRead_ok s2 v3) ok_Z_isRead l0_Z_spanItem__Z_isRead ml_Z_96 im_Z_isRead se_Z_isRead d_Z_spanItem_27 rfl sh_59 rfl rfl ge_59 le_59_78 rfl (Nat.le_of_ble_eq_true rfl) (Nat.le_of_ble_eq_true rfl) (Nat.le_of_ble_eq_true rfl) (Nat.le_of_ble_eq_true rfl) (fun v4 => ?_)
    refine jm_if_ne (pc := 30) (tgt := 35) d_Z_spanItem_30 (by decide) ?_ ?_
    · refine jm_iconst (pc := 33) (v := 0) d_Z_spanItem_33 ci_0 ?_
      exact jm_iret (pc := 34) (x := 0) d_Z_spanItem_34 rfl (by decide) rfl rfl rfl
    · refine jm_aload_n (pc := 35) (q := 1) (x := 59) d_Z_spanItem_35 rfl ?_
      refine jm_gr (pc := 36) (i := 59) d_Z_spanItem_36 fo_Z_49 sh_59 ge_59 le_59_78 rfl (fun _ => rfl) mr_154_59_16 ge_73 ?_
      refine jm_iload_n (pc := 39) (q := 0) (x := y0) d_Z_spanItem_39 rfl ?_
      refine jm_iconst (pc := 40) (v := 2) d_Z_spanItem_40 ci_2 ?_
      refine jm_isub (pc := 41) d_Z_spanItem_41 ?_
      refine jm_iald (pc := 42) d_Z_spanItem_42 sh_73 ge_73 le_73_78 (fun v5 => ?_)
      refine jm_istore_n (pc := 43) (i := 3) (L2 := [(3, .int v5), (2, .int y0), (0, .ref 59), (1, .int x1)]) d_Z_spanItem_43 rfl (Nat.le_of_ble_eq_true rfl) rfl ?_
      refine jm_aload_n (pc := 44) (q := 2) (x := 59) d_Z_spanItem_44 rfl ?_
      refine jm_gr (pc := 45) (i := 59) d_Z_spanItem_45 fo_Z_49 sh_59 ge_59 le_59_78 rfl (fun _ => rfl) mr_154_59_16 ge_73 ?_
      refine jm_iload_n (pc := 48) (q := 1) (x := y0) d_Z_spanItem_48 rfl ?_
      refine jm_iconst (pc := 49) (v := 1) d_Z_spanItem_49 ci_1 ?_
      refine jm_isub (pc := 50) d_Z_spanItem_50 ?_
      refine jm_iald (pc := 51) d_Z_spanItem_51 sh_73 ge_73 le_73_78 (fun v6 => ?_)
      refine jm_istore (pc := 52) (L2 := [(4, .int v6), (3, .int v5), (2, .int y0), (0, .ref 59), (1, .int x1)]) d_Z_spanItem_52 (Nat.le_of_ble_eq_true rfl) rfl ?_
      refine jm_aload_n (pc := 54) (q := 3) (x := 59) d_Z_spanItem_54 rfl ?_
      refine jm_gr (pc := 55) (i := 59) d_Z_spanItem_55 fo_Z_16 sh_59 ge_59 le_59_78 rfl (fun _ => rfl) mr_154_59_3 ge_62 ?_
      refine jm_bipush (pc := 58) (v := 30) d_Z_spanItem_58 cb_30 ?_
      refine jm_aload_n (pc := 60) (q := 3) (x := 59) d_Z_spanItem_60 rfl ?_
      refine jm_gr (pc := 61) (i := 59) d_Z_spanItem_61 fo_Z_49 sh_59 ge_59 le_59_78 rfl (fun _ => rfl) mr_154_59_16 ge_73 ?_
      refine jm_iconst (pc := 64) (v := 0) d_Z_spanItem_64 ci_0 ?_
      refine jm_iald (pc := 65) d_Z_spanItem_65 sh_73 ge_73 le_73_78 (fun v7 => ?_)
      refine jm_iadd (pc := 66) d_Z_spanItem_66 ?_
      refine jm_iald (pc := 67) d_Z_spanItem_67 sh_62 ge_62 le_62_78 (fun v8 => ?_)
      refine jm_istore (pc := 68) (L2 := [(5, .int v8), (4, .int v6), (3, .int v5), (2, .int y0), (0, .ref 59), (1, .int x1)]) d_Z_spanItem_68 (Nat.le_of_ble_eq_true rfl) rfl ?_
      refine jm_iload (pc := 70) (q := 1) (x := v6) d_Z_spanItem_70 rfl ?_
      refine jm_bipush (pc := 72) (v := 59) d_Z_spanItem_72 cb_59 ?_
      refine jm_icmp_gt (pc := 74) (tgt := 95) d_Z_spanItem_74 (by decide) ?_ ?_
      · refine jm_iconst (pc := 95) (v := 0) d_Z_spanItem_95 ci_0 ?_
        exact jm_iret (pc := 96) (x := 0) d_Z_spanItem_96 rfl (by decide) rfl rfl rfl
      · refine jm_iload_n (pc := 77) (q := 2) (x := v5) d_Z_spanItem_77 rfl ?_
        refine jm_iload (pc := 78) (q := 1) (x := v6) d_Z_spanItem_78 rfl ?_
        refine jm_icmp_gt (pc := 80) (tgt := 95) d_Z_spanItem_80 (by decide) ?_ ?_
        · refine jm_iconst (pc := 95) (v := 0) d_Z_spanItem_95 ci_0 ?_
          exact jm_iret (pc := 96) (x := 0) d_Z_spanItem_96 rfl (by decide) rfl rfl rfl
        · refine jm_iload_n (pc := 83) (q := 5) (x := x1) d_Z_spanItem_83 rfl ?_
          refine jm_bipush (pc := 84) (v := 108) d_Z_spanItem_84 cb_108 ?_
          refine jm_icmp_ne (pc := 86) (tgt := 97) d_Z_spanItem_86 (by decide) ?_ ?_
          · refine jm_iload (pc := 89) (q := 0) (x := v8) d_Z_spanItem_89 rfl ?_
            refine jm_iconst (pc := 91) (v := 1) d_Z_spanItem_91 ci_1 ?_
            refine jm_icmp_le (pc := 92) (tgt := 97) d_Z_spanItem_92 (by decide) ?_ ?_
            · refine jm_sub (L2 := [(0, .ref 59), (1, .int x1), (3, .int v5), (4, .int v6)]) [4, 5, 2, 1] rfl ?_
              exact s_Z_spanItem_J97_ok x1 v5 v6 s2
            · refine jm_iconst (pc := 95) (v := 0) d_Z_spanItem_95 ci_0 ?_
              exact jm_iret (pc := 96) (x := 0) d_Z_spanItem_96 rfl (by decide) rfl rfl rfl
          · refine jm_sub (L2 := [(0, .ref 59), (1, .int x1), (3, .int v5), (4, .int v6)]) [4, 5, 2, 1] rfl ?_
            exact s_Z_spanItem_J97_ok x1 v5 v6 s2
def s_Z_spanItem (s : jm_M) (a0 : Int32) : Option (Int32 × jm_M) := (if a0 = 103 then s_Z_spanItem_J11 a0 4 s else s_Z_spanItem_J11 a0 3 s)
set_option maxRecDepth 100000 in
set_option maxHeartbeats 4000000 in
theorem s_Z_spanItem_ok (s : jm_M) (a0 : Int32) : jm_Sim mY_Z_spanItem 0 0 0 [(0, .ref 59), (1, .int a0)] [] 78 mr_154 s (s_Z_spanItem s a0) (jm_rP 78 mr_154) := by
  unfold s_Z_spanItem
  refine jm_iload_n (pc := 0) (q := 1) (x := a0) d_Z_spanItem_0 rfl ?_
  refine jm_bipush (pc := 1) (v := 103) d_Z_spanItem_1 cb_103 ?_
  refine jm_icmp_ne (pc := 3) (tgt := 10) d_Z_spanItem_3 (by decide) ?_ ?_
  · refine jm_iconst (pc := 6) (v := 4) d_Z_spanItem_6 ci_4 ?_
    refine jm_goto (pc := 7) (tgt := 11) d_Z_spanItem_7 (by decide) ?_
    exact s_Z_spanItem_J11_ok a0 4 s
  · refine jm_iconst (pc := 10) (v := 3) d_Z_spanItem_10 ci_3 ?_
    exact s_Z_spanItem_J11_ok a0 3 s
theorem d_Z_ruleItem_0 : decode (jm_cd mY_Z_ruleItem) 0 = .ok (.aload_n 0, 1) := by decide +kernel
theorem d_Z_ruleItem_1 : decode (jm_cd mY_Z_ruleItem) 1 = .ok (.iconst 3, 1) := by decide +kernel
theorem d_Z_ruleItem_2 : decode (jm_cd mY_Z_ruleItem) 2 = .ok (.invokevirtual 88, 3) := by decide +kernel
theorem d_Z_ruleItem_5 : decode (jm_cd mY_Z_ruleItem) 5 = .ok (.ifCond .eq 66, 3) := by decide +kernel
theorem d_Z_ruleItem_8 : decode (jm_cd mY_Z_ruleItem) 8 = .ok (.aload_n 0, 1) := by decide +kernel
theorem d_Z_ruleItem_9 : decode (jm_cd mY_Z_ruleItem) 9 = .ok (.aload_n 0, 1) := by decide +kernel
theorem d_Z_ruleItem_10 : decode (jm_cd mY_Z_ruleItem) 10 = .ok (.getfield 49, 3) := by decide +kernel
theorem d_Z_ruleItem_13 : decode (jm_cd mY_Z_ruleItem) 13 = .ok (.iconst 0, 1) := by decide +kernel
theorem d_Z_ruleItem_14 : decode (jm_cd mY_Z_ruleItem) 14 = .ok (.iaload, 1) := by decide +kernel
theorem d_Z_ruleItem_15 : decode (jm_cd mY_Z_ruleItem) 15 = .ok (.invokevirtual 96, 3) := by decide +kernel
theorem d_Z_ruleItem_18 : decode (jm_cd mY_Z_ruleItem) 18 = .ok (.ifCond .eq 53, 3) := by decide +kernel
theorem d_Z_ruleItem_21 : decode (jm_cd mY_Z_ruleItem) 21 = .ok (.aload_n 0, 1) := by decide +kernel
theorem d_Z_ruleItem_22 : decode (jm_cd mY_Z_ruleItem) 22 = .ok (.getfield 49, 3) := by decide +kernel
theorem d_Z_ruleItem_25 : decode (jm_cd mY_Z_ruleItem) 25 = .ok (.iconst 1, 1) := by decide +kernel
theorem d_Z_ruleItem_26 : decode (jm_cd mY_Z_ruleItem) 26 = .ok (.iaload, 1) := by decide +kernel
theorem d_Z_ruleItem_27 : decode (jm_cd mY_Z_ruleItem) 27 = .ok (.i2l, 1) := by decide +kernel
theorem d_Z_ruleItem_28 : decode (jm_cd mY_Z_ruleItem) 28 = .ok (.lconst 1, 1) := by decide +kernel
theorem d_Z_ruleItem_29 : decode (jm_cd mY_Z_ruleItem) 29 = .ok (.ldc2_w 103, 3) := by decide +kernel
theorem d_Z_ruleItem_32 : decode (jm_cd mY_Z_ruleItem) 32 = .ok (.invokestatic 69, 3) := by decide +kernel
theorem d_Z_ruleItem_35 : decode (jm_cd mY_Z_ruleItem) 35 = .ok (.ifCond .eq 36, 3) := by decide +kernel
theorem d_Z_ruleItem_38 : decode (jm_cd mY_Z_ruleItem) 38 = .ok (.aload_n 0, 1) := by decide +kernel
theorem d_Z_ruleItem_39 : decode (jm_cd mY_Z_ruleItem) 39 = .ok (.getfield 49, 3) := by decide +kernel
theorem d_Z_ruleItem_42 : decode (jm_cd mY_Z_ruleItem) 42 = .ok (.iconst 2, 1) := by decide +kernel
theorem d_Z_ruleItem_43 : decode (jm_cd mY_Z_ruleItem) 43 = .ok (.iaload, 1) := by decide +kernel
theorem d_Z_ruleItem_44 : decode (jm_cd mY_Z_ruleItem) 44 = .ok (.i2l, 1) := by decide +kernel
theorem d_Z_ruleItem_45 : decode (jm_cd mY_Z_ruleItem) 45 = .ok (.lconst 1, 1) := by decide +kernel
theorem d_Z_ruleItem_46 : decode (jm_cd mY_Z_ruleItem) 46 = .ok (.ldc2_w 103, 3) := by decide +kernel
theorem d_Z_ruleItem_49 : decode (jm_cd mY_Z_ruleItem) 49 = .ok (.invokestatic 69, 3) := by decide +kernel
theorem d_Z_ruleItem_52 : decode (jm_cd mY_Z_ruleItem) 52 = .ok (.ifCond .eq 19, 3) := by decide +kernel
theorem d_Z_ruleItem_55 : decode (jm_cd mY_Z_ruleItem) 55 = .ok (.aload_n 0, 1) := by decide +kernel
theorem d_Z_ruleItem_56 : decode (jm_cd mY_Z_ruleItem) 56 = .ok (.getfield 105, 3) := by decide +kernel
theorem d_Z_ruleItem_59 : decode (jm_cd mY_Z_ruleItem) 59 = .ok (.aload_n 0, 1) := by decide +kernel
theorem d_Z_ruleItem_60 : decode (jm_cd mY_Z_ruleItem) 60 = .ok (.getfield 49, 3) := by decide +kernel
theorem d_Z_ruleItem_63 : decode (jm_cd mY_Z_ruleItem) 63 = .ok (.iconst 0, 1) := by decide +kernel
theorem d_Z_ruleItem_64 : decode (jm_cd mY_Z_ruleItem) 64 = .ok (.iaload, 1) := by decide +kernel
theorem d_Z_ruleItem_65 : decode (jm_cd mY_Z_ruleItem) 65 = .ok (.invokestatic 99, 3) := by decide +kernel
theorem d_Z_ruleItem_68 : decode (jm_cd mY_Z_ruleItem) 68 = .ok (.ifCond .eq 5, 3) := by decide +kernel
theorem d_Z_ruleItem_71 : decode (jm_cd mY_Z_ruleItem) 71 = .ok (.iconst 0, 1) := by decide +kernel
theorem d_Z_ruleItem_72 : decode (jm_cd mY_Z_ruleItem) 72 = .ok (.ireturn, 1) := by decide +kernel
theorem d_Z_ruleItem_73 : decode (jm_cd mY_Z_ruleItem) 73 = .ok (.aload_n 0, 1) := by decide +kernel
theorem d_Z_ruleItem_74 : decode (jm_cd mY_Z_ruleItem) 74 = .ok (.dup, 1) := by decide +kernel
theorem d_Z_ruleItem_75 : decode (jm_cd mY_Z_ruleItem) 75 = .ok (.getfield 105, 3) := by decide +kernel
theorem d_Z_ruleItem_78 : decode (jm_cd mY_Z_ruleItem) 78 = .ok (.iconst 1, 1) := by decide +kernel
theorem d_Z_ruleItem_79 : decode (jm_cd mY_Z_ruleItem) 79 = .ok (.aload_n 0, 1) := by decide +kernel
theorem d_Z_ruleItem_80 : decode (jm_cd mY_Z_ruleItem) 80 = .ok (.getfield 49, 3) := by decide +kernel
theorem d_Z_ruleItem_83 : decode (jm_cd mY_Z_ruleItem) 83 = .ok (.iconst 0, 1) := by decide +kernel
theorem d_Z_ruleItem_84 : decode (jm_cd mY_Z_ruleItem) 84 = .ok (.iaload, 1) := by decide +kernel
theorem d_Z_ruleItem_85 : decode (jm_cd mY_Z_ruleItem) 85 = .ok (.ishl, 1) := by decide +kernel
theorem d_Z_ruleItem_86 : decode (jm_cd mY_Z_ruleItem) 86 = .ok (.ior, 1) := by decide +kernel
theorem d_Z_ruleItem_87 : decode (jm_cd mY_Z_ruleItem) 87 = .ok (.putfield 105, 3) := by decide +kernel
theorem d_Z_ruleItem_90 : decode (jm_cd mY_Z_ruleItem) 90 = .ok (.aload_n 0, 1) := by decide +kernel
theorem d_Z_ruleItem_91 : decode (jm_cd mY_Z_ruleItem) 91 = .ok (.getfield 22, 3) := by decide +kernel
theorem d_Z_ruleItem_94 : decode (jm_cd mY_Z_ruleItem) 94 = .ok (.bipush 30, 2) := by decide +kernel
theorem d_Z_ruleItem_96 : decode (jm_cd mY_Z_ruleItem) 96 = .ok (.aload_n 0, 1) := by decide +kernel
theorem d_Z_ruleItem_97 : decode (jm_cd mY_Z_ruleItem) 97 = .ok (.getfield 49, 3) := by decide +kernel
theorem d_Z_ruleItem_100 : decode (jm_cd mY_Z_ruleItem) 100 = .ok (.iconst 0, 1) := by decide +kernel
theorem d_Z_ruleItem_101 : decode (jm_cd mY_Z_ruleItem) 101 = .ok (.iaload, 1) := by decide +kernel
theorem d_Z_ruleItem_102 : decode (jm_cd mY_Z_ruleItem) 102 = .ok (.iadd, 1) := by decide +kernel
theorem d_Z_ruleItem_103 : decode (jm_cd mY_Z_ruleItem) 103 = .ok (.aload_n 0, 1) := by decide +kernel
theorem d_Z_ruleItem_104 : decode (jm_cd mY_Z_ruleItem) 104 = .ok (.getfield 49, 3) := by decide +kernel
theorem d_Z_ruleItem_107 : decode (jm_cd mY_Z_ruleItem) 107 = .ok (.iconst 1, 1) := by decide +kernel
theorem d_Z_ruleItem_108 : decode (jm_cd mY_Z_ruleItem) 108 = .ok (.iaload, 1) := by decide +kernel
theorem d_Z_ruleItem_109 : decode (jm_cd mY_Z_ruleItem) 109 = .ok (.iastore, 1) := by decide +kernel
theorem d_Z_ruleItem_110 : decode (jm_cd mY_Z_ruleItem) 110 = .ok (.aload_n 0, 1) := by decide +kernel
theorem d_Z_ruleItem_111 : decode (jm_cd mY_Z_ruleItem) 111 = .ok (.getfield 25, 3) := by decide +kernel
theorem d_Z_ruleItem_114 : decode (jm_cd mY_Z_ruleItem) 114 = .ok (.bipush 30, 2) := by decide +kernel
theorem d_Z_ruleItem_116 : decode (jm_cd mY_Z_ruleItem) 116 = .ok (.aload_n 0, 1) := by decide +kernel
theorem d_Z_ruleItem_117 : decode (jm_cd mY_Z_ruleItem) 117 = .ok (.getfield 49, 3) := by decide +kernel
theorem d_Z_ruleItem_120 : decode (jm_cd mY_Z_ruleItem) 120 = .ok (.iconst 0, 1) := by decide +kernel
theorem d_Z_ruleItem_121 : decode (jm_cd mY_Z_ruleItem) 121 = .ok (.iaload, 1) := by decide +kernel
theorem d_Z_ruleItem_122 : decode (jm_cd mY_Z_ruleItem) 122 = .ok (.iadd, 1) := by decide +kernel
theorem d_Z_ruleItem_123 : decode (jm_cd mY_Z_ruleItem) 123 = .ok (.aload_n 0, 1) := by decide +kernel
theorem d_Z_ruleItem_124 : decode (jm_cd mY_Z_ruleItem) 124 = .ok (.getfield 49, 3) := by decide +kernel
theorem d_Z_ruleItem_127 : decode (jm_cd mY_Z_ruleItem) 127 = .ok (.iconst 2, 1) := by decide +kernel
theorem d_Z_ruleItem_128 : decode (jm_cd mY_Z_ruleItem) 128 = .ok (.iaload, 1) := by decide +kernel
theorem d_Z_ruleItem_129 : decode (jm_cd mY_Z_ruleItem) 129 = .ok (.iastore, 1) := by decide +kernel
theorem d_Z_ruleItem_130 : decode (jm_cd mY_Z_ruleItem) 130 = .ok (.iconst 1, 1) := by decide +kernel
theorem d_Z_ruleItem_131 : decode (jm_cd mY_Z_ruleItem) 131 = .ok (.ireturn, 1) := by decide +kernel
def s_Z_ruleItem (s : jm_M) : Option (Int32 × jm_M) := jm_b2 (s_Z_numbers s 3) (fun v1 s2 => (if v1 = 0 then (some (0, s2)) else jm_ldi s2 73 4 0 (fun v3 => jm_bd (s_Z_isRead s2 v3) (fun v4 => (if v4 = 0 then (some (0, s2)) else jm_ldi s2 73 4 1 (fun v5 => jm_bd (s_Z_in s2 v5.toInt64 1 9) (fun v6 => (if v6 = 0 then (some (0, s2)) else jm_ldi s2 73 4 2 (fun v7 => jm_bd (s_Z_in s2 v7.toInt64 1 9) (fun v8 => (if v8 = 0 then (some (0, s2)) else jm_ldi s2 73 4 0 (fun v9 => jm_bd (s_Z_has s2 (s2.1 59 17) v9) (fun v10 => (if v10 = 0 then jm_ldi s2 73 4 0 (fun v11 => jm_ev (jm_si s2 59 17 ((s2.1 59 17) ||| (1 <<< (v11 &&& 31)))) (fun s12 => jm_ldi s12 73 4 0 (fun v13 => jm_ldi s12 73 4 1 (fun v14 => jm_sti s12 64 40 (30 + v13) v14 (fun s15 => jm_ldi s15 73 4 0 (fun v16 => jm_ldi s15 73 4 2 (fun v17 => jm_sti s15 65 40 (30 + v16) v17 (fun s18 => (some (1, s18)))))))))) else (some (0, s2))))))))))))))))
set_option maxRecDepth 100000 in
set_option maxHeartbeats 4000000 in
theorem s_Z_ruleItem_ok (s : jm_M) : jm_Sim mY_Z_ruleItem 0 0 0 [(0, .ref 59)] [] 78 mr_154 s (s_Z_ruleItem s) (jm_rP 78 mr_154) := by
  unfold s_Z_ruleItem
  refine jm_aload_n (pc := 0) (q := 0) (x := 59) d_Z_ruleItem_0 rfl ?_
  refine jm_iconst (pc := 1) (v := 3) d_Z_ruleItem_1 ci_3 ?_
  refine jm_Vi (pc := 2) (Y' := mY_Z_numbers) (i := 59) (avs := [.int 3]) (rest := []) (s_Z_numbers_ok s 3) ok_Z_numbers l0_Z_ruleItem__Z_numbers ml_Z_88 im_Z_numbers se_Z_numbers d_Z_ruleItem_2 rfl sh_59 rfl rfl ge_59 le_59_78 rfl (Nat.le_of_ble_eq_true rfl) (Nat.le_of_ble_eq_true rfl) (Nat.le_of_ble_eq_true rfl) (Nat.le_of_ble_eq_true rfl) (fun v1 s2 => ?_)
  refine jm_if_eq (pc := 5) (tgt := 71) d_Z_ruleItem_5 (by decide) ?_ ?_
  · refine jm_iconst (pc := 71) (v := 0) d_Z_ruleItem_71 ci_0 ?_
    exact jm_iret (pc := 72) (x := 0) d_Z_ruleItem_72 rfl (by decide) rfl rfl rfl
  · refine jm_aload_n (pc := 8) (q := 0) (x := 59) d_Z_ruleItem_8 rfl ?_
    refine jm_aload_n (pc := 9) (q := 0) (x := 59) d_Z_ruleItem_9 rfl ?_
    refine jm_gr (pc := 10) (i := 59) d_Z_ruleItem_10 fo_Z_49 sh_59 ge_59 le_59_78 rfl (fun _ => rfl) mr_154_59_16 ge_73 ?_
    refine jm_iconst (pc := 13) (v := 0) d_Z_ruleItem_13 ci_0 ?_
    refine jm_iald (pc := 14) d_Z_ruleItem_14 sh_73 ge_73 le_73_78 (fun v3 => ?_)
    refine jm_Vp (pc := 15) (Y' := mY_Z_isRead) (i := 59) (avs := [.int v3]) (rest := []) (s_Z_isRead_ok s2 v3) ok_Z_isRead l0_Z_ruleItem__Z_isRead ml_Z_96 im_Z_isRead se_Z_isRead d_Z_ruleItem_15 rfl sh_59 rfl rfl ge_59 le_59_78 rfl (Nat.le_of_ble_eq_true rfl) (Nat.le_of_ble_eq_true rfl) (Nat.le_of_ble_eq_true rfl) (Nat.le_of_ble_eq_true rfl) (fun v4 => ?_)
    refine jm_if_eq (pc := 18) (tgt := 71) d_Z_ruleItem_18 (by decide) ?_ ?_
    · refine jm_iconst (pc := 71) (v := 0) d_Z_ruleItem_71 ci_0 ?_
      exact jm_iret (pc := 72) (x := 0) d_Z_ruleItem_72 rfl (by decide) rfl rfl rfl
    · refine jm_aload_n (pc := 21) (q := 0) (x := 59) d_Z_ruleItem_21 rfl ?_
      refine jm_gr (pc := 22) (i := 59) d_Z_ruleItem_22 fo_Z_49 sh_59 ge_59 le_59_78 rfl (fun _ => rfl) mr_154_59_16 ge_73 ?_
      refine jm_iconst (pc := 25) (v := 1) d_Z_ruleItem_25 ci_1 ?_
      refine jm_iald (pc := 26) d_Z_ruleItem_26 sh_73 ge_73 le_73_78 (fun v5 => ?_)
      refine jm_i2l (pc := 27) d_Z_ruleItem_27 ?_
      refine jm_lconst (pc := 28) (v := 1) d_Z_ruleItem_28 cl_1 ?_
      refine jm_ldc2 (pc := 29) (v := 9) d_Z_ruleItem_29 kl_Z_103 ?_
      refine jm_Sp (pc := 32) (Y' := mY_Z_in) (avs := [.long v5.toInt64, .long 1, .long 9]) (rest := []) (s_Z_in_ok s2 v5.toInt64 1 9) ok_Z_in l0_Z_ruleItem__Z_in ml_Z_69 sm_Z_in d_Z_ruleItem_32 rfl rfl (Nat.le_of_ble_eq_true rfl) (Nat.le_of_ble_eq_true rfl) (Nat.le_of_ble_eq_true rfl) (Nat.le_of_ble_eq_true rfl) (fun v6 => ?_)
      refine jm_if_eq (pc := 35) (tgt := 71) d_Z_ruleItem_35 (by decide) ?_ ?_
      · refine jm_iconst (pc := 71) (v := 0) d_Z_ruleItem_71 ci_0 ?_
        exact jm_iret (pc := 72) (x := 0) d_Z_ruleItem_72 rfl (by decide) rfl rfl rfl
      · refine jm_aload_n (pc := 38) (q := 0) (x := 59) d_Z_ruleItem_38 rfl ?_
        refine jm_gr (pc := 39) (i := 59) d_Z_ruleItem_39 fo_Z_49 sh_59 ge_59 le_59_78 rfl (fun _ => rfl) mr_154_59_16 ge_73 ?_
        refine jm_iconst (pc := 42) (v := 2) d_Z_ruleItem_42 ci_2 ?_
        refine jm_iald (pc := 43) d_Z_ruleItem_43 sh_73 ge_73 le_73_78 (fun v7 => ?_)
        refine jm_i2l (pc := 44) d_Z_ruleItem_44 ?_
        refine jm_lconst (pc := 45) (v := 1) d_Z_ruleItem_45 cl_1 ?_
        refine jm_ldc2 (pc := 46) (v := 9) d_Z_ruleItem_46 kl_Z_103 ?_
        refine jm_Sp (pc := 49) (Y' := mY_Z_in) (avs := [.long v7.toInt64, .long 1, .long 9]) (rest := []) (s_Z_in_ok s2 v7.toInt64 1 9) ok_Z_in l0_Z_ruleItem__Z_in ml_Z_69 sm_Z_in d_Z_ruleItem_49 rfl rfl (Nat.le_of_ble_eq_true rfl) (Nat.le_of_ble_eq_true rfl) (Nat.le_of_ble_eq_true rfl) (Nat.le_of_ble_eq_true rfl) (fun v8 => ?_)
        refine jm_if_eq (pc := 52) (tgt := 71) d_Z_ruleItem_52 (by decide) ?_ ?_
        · refine jm_iconst (pc := 71) (v := 0) d_Z_ruleItem_71 ci_0 ?_
          exact jm_iret (pc := 72) (x := 0) d_Z_ruleItem_72 rfl (by decide) rfl rfl rfl
        · refine jm_aload_n (pc := 55) (q := 0) (x := 59) d_Z_ruleItem_55 rfl ?_
          refine jm_gi (pc := 56) (i := 59) d_Z_ruleItem_56 fo_Z_105 sh_59 ge_59 le_59_78 rfl (fun _ => rfl) ?_
          refine jm_aload_n (pc := 59) (q := 0) (x := 59) d_Z_ruleItem_59 rfl ?_
          refine jm_gr (pc := 60) (i := 59) d_Z_ruleItem_60 fo_Z_49 sh_59 ge_59 le_59_78 rfl (fun _ => rfl) mr_154_59_16 ge_73 ?_
          refine jm_iconst (pc := 63) (v := 0) d_Z_ruleItem_63 ci_0 ?_
          refine jm_iald (pc := 64) d_Z_ruleItem_64 sh_73 ge_73 le_73_78 (fun v9 => ?_)
          refine jm_Sp (pc := 65) (Y' := mY_Z_has) (avs := [.int (s2.1 59 17), .int v9]) (rest := []) (s_Z_has_ok s2 (s2.1 59 17) v9) ok_Z_has l0_Z_ruleItem__Z_has ml_Z_99 sm_Z_has d_Z_ruleItem_65 rfl rfl (Nat.le_of_ble_eq_true rfl) (Nat.le_of_ble_eq_true rfl) (Nat.le_of_ble_eq_true rfl) (Nat.le_of_ble_eq_true rfl) (fun v10 => ?_)
          refine jm_if_eq (pc := 68) (tgt := 73) d_Z_ruleItem_68 (by decide) ?_ ?_
          · refine jm_aload_n (pc := 73) (q := 0) (x := 59) d_Z_ruleItem_73 rfl ?_
            refine jm_dup (pc := 74) d_Z_ruleItem_74 rfl ?_
            refine jm_gi (pc := 75) (i := 59) d_Z_ruleItem_75 fo_Z_105 sh_59 ge_59 le_59_78 rfl (fun _ => rfl) ?_
            refine jm_iconst (pc := 78) (v := 1) d_Z_ruleItem_78 ci_1 ?_
            refine jm_aload_n (pc := 79) (q := 0) (x := 59) d_Z_ruleItem_79 rfl ?_
            refine jm_gr (pc := 80) (i := 59) d_Z_ruleItem_80 fo_Z_49 sh_59 ge_59 le_59_78 rfl (fun _ => rfl) mr_154_59_16 ge_73 ?_
            refine jm_iconst (pc := 83) (v := 0) d_Z_ruleItem_83 ci_0 ?_
            refine jm_iald (pc := 84) d_Z_ruleItem_84 sh_73 ge_73 le_73_78 (fun v11 => ?_)
            refine jm_ishl (pc := 85) d_Z_ruleItem_85 ?_
            refine jm_ior (pc := 86) d_Z_ruleItem_86 ?_
            refine jm_pi (pc := 87) (i := 59) d_Z_ruleItem_87 fp_Z_105 sh_59 ge_59 le_59_78 rfl rfl rfl (fun _ _ _ => rfl) (fun s12 => ?_)
            refine jm_aload_n (pc := 90) (q := 0) (x := 59) d_Z_ruleItem_90 rfl ?_
            refine jm_gr (pc := 91) (i := 59) d_Z_ruleItem_91 fo_Z_22 sh_59 ge_59 le_59_78 rfl (fun _ => rfl) mr_154_59_5 ge_64 ?_
            refine jm_bipush (pc := 94) (v := 30) d_Z_ruleItem_94 cb_30 ?_
            refine jm_aload_n (pc := 96) (q := 0) (x := 59) d_Z_ruleItem_96 rfl ?_
            refine jm_gr (pc := 97) (i := 59) d_Z_ruleItem_97 fo_Z_49 sh_59 ge_59 le_59_78 rfl (fun _ => rfl) mr_154_59_16 ge_73 ?_
            refine jm_iconst (pc := 100) (v := 0) d_Z_ruleItem_100 ci_0 ?_
            refine jm_iald (pc := 101) d_Z_ruleItem_101 sh_73 ge_73 le_73_78 (fun v13 => ?_)
            refine jm_iadd (pc := 102) d_Z_ruleItem_102 ?_
            refine jm_aload_n (pc := 103) (q := 0) (x := 59) d_Z_ruleItem_103 rfl ?_
            refine jm_gr (pc := 104) (i := 59) d_Z_ruleItem_104 fo_Z_49 sh_59 ge_59 le_59_78 rfl (fun _ => rfl) mr_154_59_16 ge_73 ?_
            refine jm_iconst (pc := 107) (v := 1) d_Z_ruleItem_107 ci_1 ?_
            refine jm_iald (pc := 108) d_Z_ruleItem_108 sh_73 ge_73 le_73_78 (fun v14 => ?_)
            refine jm_iast (pc := 109) d_Z_ruleItem_109 sh_64 ge_64 le_64_78 (fun s15 => ?_)
            refine jm_aload_n (pc := 110) (q := 0) (x := 59) d_Z_ruleItem_110 rfl ?_
            refine jm_gr (pc := 111) (i := 59) d_Z_ruleItem_111 fo_Z_25 sh_59 ge_59 le_59_78 rfl (fun _ => rfl) mr_154_59_6 ge_65 ?_
            refine jm_bipush (pc := 114) (v := 30) d_Z_ruleItem_114 cb_30 ?_
            refine jm_aload_n (pc := 116) (q := 0) (x := 59) d_Z_ruleItem_116 rfl ?_
            refine jm_gr (pc := 117) (i := 59) d_Z_ruleItem_117 fo_Z_49 sh_59 ge_59 le_59_78 rfl (fun _ => rfl) mr_154_59_16 ge_73 ?_
            refine jm_iconst (pc := 120) (v := 0) d_Z_ruleItem_120 ci_0 ?_
            refine jm_iald (pc := 121) d_Z_ruleItem_121 sh_73 ge_73 le_73_78 (fun v16 => ?_)
            refine jm_iadd (pc := 122) d_Z_ruleItem_122 ?_
            refine jm_aload_n (pc := 123) (q := 0) (x := 59) d_Z_ruleItem_123 rfl ?_
            refine jm_gr (pc := 124) (i := 59) d_Z_ruleItem_124 fo_Z_49 sh_59 ge_59 le_59_78 rfl (fun _ => rfl) mr_154_59_16 ge_73 ?_
            refine jm_iconst (pc := 127) (v := 2) d_Z_ruleItem_127 ci_2 ?_
            refine jm_iald (pc := 128) d_Z_ruleItem_128 sh_73 ge_73 le_73_78 (fun v17 => ?_)
            refine jm_iast (pc := 129) d_Z_ruleItem_129 sh_65 ge_65 le_65_78 (fun s18 => ?_)
            refine jm_iconst (pc := 130) (v := 1) d_Z_ruleItem_130 ci_1 ?_
            exact jm_iret (pc := 131) (x := 1) d_Z_ruleItem_131 rfl (by decide) rfl rfl rfl
          · refine jm_iconst (pc := 71) (v := 0) d_Z_ruleItem_71 ci_0 ?_
            exact jm_iret (pc := 72) (x := 0) d_Z_ruleItem_72 rfl (by decide) rfl rfl rfl
theorem d_Z_seeItem_0 : decode (jm_cd mY_Z_seeItem) 0 = .ok (.aload_n 0, 1) := by decide +kernel
theorem d_Z_seeItem_1 : decode (jm_cd mY_Z_seeItem) 1 = .ok (.iconst 2, 1) := by decide +kernel
theorem d_Z_seeItem_2 : decode (jm_cd mY_Z_seeItem) 2 = .ok (.invokevirtual 88, 3) := by decide +kernel
theorem d_Z_seeItem_5 : decode (jm_cd mY_Z_seeItem) 5 = .ok (.ifCond .eq 70, 3) := by decide +kernel
theorem d_Z_seeItem_8 : decode (jm_cd mY_Z_seeItem) 8 = .ok (.aload_n 0, 1) := by decide +kernel
theorem d_Z_seeItem_9 : decode (jm_cd mY_Z_seeItem) 9 = .ok (.aload_n 0, 1) := by decide +kernel
theorem d_Z_seeItem_10 : decode (jm_cd mY_Z_seeItem) 10 = .ok (.getfield 49, 3) := by decide +kernel
theorem d_Z_seeItem_13 : decode (jm_cd mY_Z_seeItem) 13 = .ok (.iconst 0, 1) := by decide +kernel
theorem d_Z_seeItem_14 : decode (jm_cd mY_Z_seeItem) 14 = .ok (.iaload, 1) := by decide +kernel
theorem d_Z_seeItem_15 : decode (jm_cd mY_Z_seeItem) 15 = .ok (.invokevirtual 96, 3) := by decide +kernel
theorem d_Z_seeItem_18 : decode (jm_cd mY_Z_seeItem) 18 = .ok (.ifCond .eq 57, 3) := by decide +kernel
theorem d_Z_seeItem_21 : decode (jm_cd mY_Z_seeItem) 21 = .ok (.aload_n 0, 1) := by decide +kernel
theorem d_Z_seeItem_22 : decode (jm_cd mY_Z_seeItem) 22 = .ok (.aload_n 0, 1) := by decide +kernel
theorem d_Z_seeItem_23 : decode (jm_cd mY_Z_seeItem) 23 = .ok (.getfield 49, 3) := by decide +kernel
theorem d_Z_seeItem_26 : decode (jm_cd mY_Z_seeItem) 26 = .ok (.iconst 1, 1) := by decide +kernel
theorem d_Z_seeItem_27 : decode (jm_cd mY_Z_seeItem) 27 = .ok (.iaload, 1) := by decide +kernel
theorem d_Z_seeItem_28 : decode (jm_cd mY_Z_seeItem) 28 = .ok (.invokevirtual 96, 3) := by decide +kernel
theorem d_Z_seeItem_31 : decode (jm_cd mY_Z_seeItem) 31 = .ok (.ifCond .eq 44, 3) := by decide +kernel
theorem d_Z_seeItem_34 : decode (jm_cd mY_Z_seeItem) 34 = .ok (.aload_n 0, 1) := by decide +kernel
theorem d_Z_seeItem_35 : decode (jm_cd mY_Z_seeItem) 35 = .ok (.getfield 49, 3) := by decide +kernel
theorem d_Z_seeItem_38 : decode (jm_cd mY_Z_seeItem) 38 = .ok (.iconst 0, 1) := by decide +kernel
theorem d_Z_seeItem_39 : decode (jm_cd mY_Z_seeItem) 39 = .ok (.iaload, 1) := by decide +kernel
theorem d_Z_seeItem_40 : decode (jm_cd mY_Z_seeItem) 40 = .ok (.aload_n 0, 1) := by decide +kernel
theorem d_Z_seeItem_41 : decode (jm_cd mY_Z_seeItem) 41 = .ok (.getfield 49, 3) := by decide +kernel
theorem d_Z_seeItem_44 : decode (jm_cd mY_Z_seeItem) 44 = .ok (.iconst 1, 1) := by decide +kernel
theorem d_Z_seeItem_45 : decode (jm_cd mY_Z_seeItem) 45 = .ok (.iaload, 1) := by decide +kernel
theorem d_Z_seeItem_46 : decode (jm_cd mY_Z_seeItem) 46 = .ok (.if_icmp .eq 29, 3) := by decide +kernel
theorem d_Z_seeItem_49 : decode (jm_cd mY_Z_seeItem) 49 = .ok (.aload_n 0, 1) := by decide +kernel
theorem d_Z_seeItem_50 : decode (jm_cd mY_Z_seeItem) 50 = .ok (.getfield 19, 3) := by decide +kernel
theorem d_Z_seeItem_53 : decode (jm_cd mY_Z_seeItem) 53 = .ok (.bipush 30, 2) := by decide +kernel
theorem d_Z_seeItem_55 : decode (jm_cd mY_Z_seeItem) 55 = .ok (.aload_n 0, 1) := by decide +kernel
theorem d_Z_seeItem_56 : decode (jm_cd mY_Z_seeItem) 56 = .ok (.getfield 49, 3) := by decide +kernel
theorem d_Z_seeItem_59 : decode (jm_cd mY_Z_seeItem) 59 = .ok (.iconst 0, 1) := by decide +kernel
theorem d_Z_seeItem_60 : decode (jm_cd mY_Z_seeItem) 60 = .ok (.iaload, 1) := by decide +kernel
theorem d_Z_seeItem_61 : decode (jm_cd mY_Z_seeItem) 61 = .ok (.iadd, 1) := by decide +kernel
theorem d_Z_seeItem_62 : decode (jm_cd mY_Z_seeItem) 62 = .ok (.iaload, 1) := by decide +kernel
theorem d_Z_seeItem_63 : decode (jm_cd mY_Z_seeItem) 63 = .ok (.aload_n 0, 1) := by decide +kernel
theorem d_Z_seeItem_64 : decode (jm_cd mY_Z_seeItem) 64 = .ok (.getfield 49, 3) := by decide +kernel
theorem d_Z_seeItem_67 : decode (jm_cd mY_Z_seeItem) 67 = .ok (.iconst 1, 1) := by decide +kernel
theorem d_Z_seeItem_68 : decode (jm_cd mY_Z_seeItem) 68 = .ok (.iaload, 1) := by decide +kernel
theorem d_Z_seeItem_69 : decode (jm_cd mY_Z_seeItem) 69 = .ok (.invokestatic 99, 3) := by decide +kernel
theorem d_Z_seeItem_72 : decode (jm_cd mY_Z_seeItem) 72 = .ok (.ifCond .eq 5, 3) := by decide +kernel
theorem d_Z_seeItem_75 : decode (jm_cd mY_Z_seeItem) 75 = .ok (.iconst 0, 1) := by decide +kernel
theorem d_Z_seeItem_76 : decode (jm_cd mY_Z_seeItem) 76 = .ok (.ireturn, 1) := by decide +kernel
theorem d_Z_seeItem_77 : decode (jm_cd mY_Z_seeItem) 77 = .ok (.aload_n 0, 1) := by decide +kernel
theorem d_Z_seeItem_78 : decode (jm_cd mY_Z_seeItem) 78 = .ok (.getfield 19, 3) := by decide +kernel
theorem d_Z_seeItem_81 : decode (jm_cd mY_Z_seeItem) 81 = .ok (.bipush 30, 2) := by decide +kernel
theorem d_Z_seeItem_83 : decode (jm_cd mY_Z_seeItem) 83 = .ok (.aload_n 0, 1) := by decide +kernel
theorem d_Z_seeItem_84 : decode (jm_cd mY_Z_seeItem) 84 = .ok (.getfield 49, 3) := by decide +kernel
theorem d_Z_seeItem_87 : decode (jm_cd mY_Z_seeItem) 87 = .ok (.iconst 0, 1) := by decide +kernel
theorem d_Z_seeItem_88 : decode (jm_cd mY_Z_seeItem) 88 = .ok (.iaload, 1) := by decide +kernel
theorem d_Z_seeItem_89 : decode (jm_cd mY_Z_seeItem) 89 = .ok (.iadd, 1) := by decide +kernel
theorem d_Z_seeItem_90 : decode (jm_cd mY_Z_seeItem) 90 = .ok (.dup2, 1) := by decide +kernel
theorem d_Z_seeItem_91 : decode (jm_cd mY_Z_seeItem) 91 = .ok (.iaload, 1) := by decide +kernel
theorem d_Z_seeItem_92 : decode (jm_cd mY_Z_seeItem) 92 = .ok (.iconst 1, 1) := by decide +kernel
theorem d_Z_seeItem_93 : decode (jm_cd mY_Z_seeItem) 93 = .ok (.aload_n 0, 1) := by decide +kernel
theorem d_Z_seeItem_94 : decode (jm_cd mY_Z_seeItem) 94 = .ok (.getfield 49, 3) := by decide +kernel
theorem d_Z_seeItem_97 : decode (jm_cd mY_Z_seeItem) 97 = .ok (.iconst 1, 1) := by decide +kernel
theorem d_Z_seeItem_98 : decode (jm_cd mY_Z_seeItem) 98 = .ok (.iaload, 1) := by decide +kernel
theorem d_Z_seeItem_99 : decode (jm_cd mY_Z_seeItem) 99 = .ok (.ishl, 1) := by decide +kernel
theorem d_Z_seeItem_100 : decode (jm_cd mY_Z_seeItem) 100 = .ok (.ior, 1) := by decide +kernel
theorem d_Z_seeItem_101 : decode (jm_cd mY_Z_seeItem) 101 = .ok (.iastore, 1) := by decide +kernel
theorem d_Z_seeItem_102 : decode (jm_cd mY_Z_seeItem) 102 = .ok (.aload_n 0, 1) := by decide +kernel
theorem d_Z_seeItem_103 : decode (jm_cd mY_Z_seeItem) 103 = .ok (.getfield 19, 3) := by decide +kernel
theorem d_Z_seeItem_106 : decode (jm_cd mY_Z_seeItem) 106 = .ok (.bipush 30, 2) := by decide +kernel
theorem d_Z_seeItem_108 : decode (jm_cd mY_Z_seeItem) 108 = .ok (.aload_n 0, 1) := by decide +kernel
theorem d_Z_seeItem_109 : decode (jm_cd mY_Z_seeItem) 109 = .ok (.getfield 49, 3) := by decide +kernel
theorem d_Z_seeItem_112 : decode (jm_cd mY_Z_seeItem) 112 = .ok (.iconst 1, 1) := by decide +kernel
theorem d_Z_seeItem_113 : decode (jm_cd mY_Z_seeItem) 113 = .ok (.iaload, 1) := by decide +kernel
theorem d_Z_seeItem_114 : decode (jm_cd mY_Z_seeItem) 114 = .ok (.iadd, 1) := by decide +kernel
theorem d_Z_seeItem_115 : decode (jm_cd mY_Z_seeItem) 115 = .ok (.dup2, 1) := by decide +kernel
theorem d_Z_seeItem_116 : decode (jm_cd mY_Z_seeItem) 116 = .ok (.iaload, 1) := by decide +kernel
theorem d_Z_seeItem_117 : decode (jm_cd mY_Z_seeItem) 117 = .ok (.iconst 1, 1) := by decide +kernel
theorem d_Z_seeItem_118 : decode (jm_cd mY_Z_seeItem) 118 = .ok (.aload_n 0, 1) := by decide +kernel
theorem d_Z_seeItem_119 : decode (jm_cd mY_Z_seeItem) 119 = .ok (.getfield 49, 3) := by decide +kernel
theorem d_Z_seeItem_122 : decode (jm_cd mY_Z_seeItem) 122 = .ok (.iconst 0, 1) := by decide +kernel
theorem d_Z_seeItem_123 : decode (jm_cd mY_Z_seeItem) 123 = .ok (.iaload, 1) := by decide +kernel
theorem d_Z_seeItem_124 : decode (jm_cd mY_Z_seeItem) 124 = .ok (.ishl, 1) := by decide +kernel
theorem d_Z_seeItem_125 : decode (jm_cd mY_Z_seeItem) 125 = .ok (.ior, 1) := by decide +kernel
theorem d_Z_seeItem_126 : decode (jm_cd mY_Z_seeItem) 126 = .ok (.iastore, 1) := by decide +kernel
theorem d_Z_seeItem_127 : decode (jm_cd mY_Z_seeItem) 127 = .ok (.iconst 1, 1) := by decide +kernel
theorem d_Z_seeItem_128 : decode (jm_cd mY_Z_seeItem) 128 = .ok (.ireturn, 1) := by decide +kernel
def s_Z_seeItem (s : jm_M) : Option (Int32 × jm_M) := jm_b2 (s_Z_numbers s 2) (fun v1 s2 => (if v1 = 0 then (some (0, s2)) else jm_ldi s2 73 4 0 (fun v3 => jm_bd (s_Z_isRead s2 v3) (fun v4 => (if v4 = 0 then (some (0, s2)) else jm_ldi s2 73 4 1 (fun v5 => jm_bd (s_Z_isRead s2 v5) (fun v6 => (if v6 = 0 then (some (0, s2)) else jm_ldi s2 73 4 0 (fun v7 => jm_ldi s2 73 4 1 (fun v8 => (if v7 = v8 then (some (0, s2)) else jm_ldi s2 73 4 0 (fun v9 => jm_ldi s2 63 40 (30 + v9) (fun v10 => jm_ldi s2 73 4 1 (fun v11 => jm_bd (s_Z_has s2 v10 v11) (fun v12 => (if v12 = 0 then jm_ldi s2 73 4 0 (fun v13 => jm_vi (30 + v13) (fun v14 => jm_ldi s2 63 40 v14 (fun v15 => jm_ldi s2 73 4 1 (fun v16 => jm_sti s2 63 40 v14 (v15 ||| (1 <<< (v16 &&& 31))) (fun s17 => jm_ldi s17 73 4 1 (fun v18 => jm_vi (30 + v18) (fun v19 => jm_ldi s17 63 40 v19 (fun v20 => jm_ldi s17 73 4 0 (fun v21 => jm_sti s17 63 40 v19 (v20 ||| (1 <<< (v21 &&& 31))) (fun s22 => (some (1, s22)))))))))))) else (some (0, s2))))))))))))))))))
set_option maxRecDepth 100000 in
set_option maxHeartbeats 4000000 in
theorem s_Z_seeItem_ok (s : jm_M) : jm_Sim mY_Z_seeItem 0 0 0 [(0, .ref 59)] [] 78 mr_154 s (s_Z_seeItem s) (jm_rP 78 mr_154) := by
  unfold s_Z_seeItem
  refine jm_aload_n (pc := 0) (q := 0) (x := 59) d_Z_seeItem_0 rfl ?_
  refine jm_iconst (pc := 1) (v := 2) d_Z_seeItem_1 ci_2 ?_
  refine jm_Vi (pc := 2) (Y' := mY_Z_numbers) (i := 59) (avs := [.int 2]) (rest := []) (s_Z_numbers_ok s 2) ok_Z_numbers l0_Z_seeItem__Z_numbers ml_Z_88 im_Z_numbers se_Z_numbers d_Z_seeItem_2 rfl sh_59 rfl rfl ge_59 le_59_78 rfl (Nat.le_of_ble_eq_true rfl) (Nat.le_of_ble_eq_true rfl) (Nat.le_of_ble_eq_true rfl) (Nat.le_of_ble_eq_true rfl) (fun v1 s2 => ?_)
  refine jm_if_eq (pc := 5) (tgt := 75) d_Z_seeItem_5 (by decide) ?_ ?_
  · refine jm_iconst (pc := 75) (v := 0) d_Z_seeItem_75 ci_0 ?_
    exact jm_iret (pc := 76) (x := 0) d_Z_seeItem_76 rfl (by decide) rfl rfl rfl
  · refine jm_aload_n (pc := 8) (q := 0) (x := 59) d_Z_seeItem_8 rfl ?_
    refine jm_aload_n (pc := 9) (q := 0) (x := 59) d_Z_seeItem_9 rfl ?_
    refine jm_gr (pc := 10) (i := 59) d_Z_seeItem_10 fo_Z_49 sh_59 ge_59 le_59_78 rfl (fun _ => rfl) mr_154_59_16 ge_73 ?_
    refine jm_iconst (pc := 13) (v := 0) d_Z_seeItem_13 ci_0 ?_
    refine jm_iald (pc := 14) d_Z_seeItem_14 sh_73 ge_73 le_73_78 (fun v3 => ?_)
    refine jm_Vp (pc := 15) (Y' := mY_Z_isRead) (i := 59) (avs := [.int v3]) (rest := []) (s_Z_isRead_ok s2 v3) ok_Z_isRead l0_Z_seeItem__Z_isRead ml_Z_96 im_Z_isRead se_Z_isRead d_Z_seeItem_15 rfl sh_59 rfl rfl ge_59 le_59_78 rfl (Nat.le_of_ble_eq_true rfl) (Nat.le_of_ble_eq_true rfl) (Nat.le_of_ble_eq_true rfl) (Nat.le_of_ble_eq_true rfl) (fun v4 => ?_)
    refine jm_if_eq (pc := 18) (tgt := 75) d_Z_seeItem_18 (by decide) ?_ ?_
    · refine jm_iconst (pc := 75) (v := 0) d_Z_seeItem_75 ci_0 ?_
      exact jm_iret (pc := 76) (x := 0) d_Z_seeItem_76 rfl (by decide) rfl rfl rfl
    · refine jm_aload_n (pc := 21) (q := 0) (x := 59) d_Z_seeItem_21 rfl ?_
      refine jm_aload_n (pc := 22) (q := 0) (x := 59) d_Z_seeItem_22 rfl ?_
      refine jm_gr (pc := 23) (i := 59) d_Z_seeItem_23 fo_Z_49 sh_59 ge_59 le_59_78 rfl (fun _ => rfl) mr_154_59_16 ge_73 ?_
      refine jm_iconst (pc := 26) (v := 1) d_Z_seeItem_26 ci_1 ?_
      refine jm_iald (pc := 27) d_Z_seeItem_27 sh_73 ge_73 le_73_78 (fun v5 => ?_)
      refine jm_Vp (pc := 28) (Y' := mY_Z_isRead) (i := 59) (avs := [.int v5]) (rest := []) (s_Z_isRead_ok s2 v5) ok_Z_isRead l0_Z_seeItem__Z_isRead ml_Z_96 im_Z_isRead se_Z_isRead d_Z_seeItem_28 rfl sh_59 rfl rfl ge_59 le_59_78 rfl (Nat.le_of_ble_eq_true rfl) (Nat.le_of_ble_eq_true rfl) (Nat.le_of_ble_eq_true rfl) (Nat.le_of_ble_eq_true rfl) (fun v6 => ?_)
      refine jm_if_eq (pc := 31) (tgt := 75) d_Z_seeItem_31 (by decide) ?_ ?_
      · refine jm_iconst (pc := 75) (v := 0) d_Z_seeItem_75 ci_0 ?_
        exact jm_iret (pc := 76) (x := 0) d_Z_seeItem_76 rfl (by decide) rfl rfl rfl
      · refine jm_aload_n (pc := 34) (q := 0) (x := 59) d_Z_seeItem_34 rfl ?_
        refine jm_gr (pc := 35) (i := 59) d_Z_seeItem_35 fo_Z_49 sh_59 ge_59 le_59_78 rfl (fun _ => rfl) mr_154_59_16 ge_73 ?_
        refine jm_iconst (pc := 38) (v := 0) d_Z_seeItem_38 ci_0 ?_
        refine jm_iald (pc := 39) d_Z_seeItem_39 sh_73 ge_73 le_73_78 (fun v7 => ?_)
        refine jm_aload_n (pc := 40) (q := 0) (x := 59) d_Z_seeItem_40 rfl ?_
        refine jm_gr (pc := 41) (i := 59) d_Z_seeItem_41 fo_Z_49 sh_59 ge_59 le_59_78 rfl (fun _ => rfl) mr_154_59_16 ge_73 ?_
        refine jm_iconst (pc := 44) (v := 1) d_Z_seeItem_44 ci_1 ?_
        refine jm_iald (pc := 45) d_Z_seeItem_45 sh_73 ge_73 le_73_78 (fun v8 => ?_)
        refine jm_icmp_eq (pc := 46) (tgt := 75) d_Z_seeItem_46 (by decide) ?_ ?_
        · refine jm_iconst (pc := 75) (v := 0) d_Z_seeItem_75 ci_0 ?_
          exact jm_iret (pc := 76) (x := 0) d_Z_seeItem_76 rfl (by decide) rfl rfl rfl
        · refine jm_aload_n (pc := 49) (q := 0) (x := 59) d_Z_seeItem_49 rfl ?_
          refine jm_gr (pc := 50) (i := 59) d_Z_seeItem_50 fo_Z_19 sh_59 ge_59 le_59_78 rfl (fun _ => rfl) mr_154_59_4 ge_63 ?_
          refine jm_bipush (pc := 53) (v := 30) d_Z_seeItem_53 cb_30 ?_
          refine jm_aload_n (pc := 55) (q := 0) (x := 59) d_Z_seeItem_55 rfl ?_
          refine jm_gr (pc := 56) (i := 59) d_Z_seeItem_56 fo_Z_49 sh_59 ge_59 le_59_78 rfl (fun _ => rfl) mr_154_59_16 ge_73 ?_
          refine jm_iconst (pc := 59) (v := 0) d_Z_seeItem_59 ci_0 ?_
          refine jm_iald (pc := 60) d_Z_seeItem_60 sh_73 ge_73 le_73_78 (fun v9 => ?_)
          refine jm_iadd (pc := 61) d_Z_seeItem_61 ?_
          refine jm_iald (pc := 62) d_Z_seeItem_62 sh_63 ge_63 le_63_78 (fun v10 => ?_)
          refine jm_aload_n (pc := 63) (q := 0) (x := 59) d_Z_seeItem_63 rfl ?_
          refine jm_gr (pc := 64) (i := 59) d_Z_seeItem_64 fo_Z_49 sh_59 ge_59 le_59_78 rfl (fun _ => rfl) mr_154_59_16 ge_73 ?_
          refine jm_iconst (pc := 67) (v := 1) d_Z_seeItem_67 ci_1 ?_
          refine jm_iald (pc := 68) d_Z_seeItem_68 sh_73 ge_73 le_73_78 (fun v11 => ?_)
          refine jm_Sp (pc := 69) (Y' := mY_Z_has) (avs := [.int v10, .int v11]) (rest := []) (s_Z_has_ok s2 v10 v11) ok_Z_has l0_Z_seeItem__Z_has ml_Z_99 sm_Z_has d_Z_seeItem_69 rfl rfl (Nat.le_of_ble_eq_true rfl) (Nat.le_of_ble_eq_true rfl) (Nat.le_of_ble_eq_true rfl) (Nat.le_of_ble_eq_true rfl) (fun v12 => ?_)
          refine jm_if_eq (pc := 72) (tgt := 77) d_Z_seeItem_72 (by decide) ?_ ?_
          · refine jm_aload_n (pc := 77) (q := 0) (x := 59) d_Z_seeItem_77 rfl ?_
            refine jm_gr (pc := 78) (i := 59) d_Z_seeItem_78 fo_Z_19 sh_59 ge_59 le_59_78 rfl (fun _ => rfl) mr_154_59_4 ge_63 ?_
            refine jm_bipush (pc := 81) (v := 30) d_Z_seeItem_81 cb_30 ?_
            refine jm_aload_n (pc := 83) (q := 0) (x := 59) d_Z_seeItem_83 rfl ?_
            refine jm_gr (pc := 84) (i := 59) d_Z_seeItem_84 fo_Z_49 sh_59 ge_59 le_59_78 rfl (fun _ => rfl) mr_154_59_16 ge_73 ?_
            refine jm_iconst (pc := 87) (v := 0) d_Z_seeItem_87 ci_0 ?_
            refine jm_iald (pc := 88) d_Z_seeItem_88 sh_73 ge_73 le_73_78 (fun v13 => ?_)
            refine jm_iadd (pc := 89) d_Z_seeItem_89 ?_
            refine jm_nvi (fun v14 => ?_)
            refine jm_dup2 (pc := 90) d_Z_seeItem_90 rfl rfl ?_
            refine jm_iald (pc := 91) d_Z_seeItem_91 sh_63 ge_63 le_63_78 (fun v15 => ?_)
            refine jm_iconst (pc := 92) (v := 1) d_Z_seeItem_92 ci_1 ?_
            refine jm_aload_n (pc := 93) (q := 0) (x := 59) d_Z_seeItem_93 rfl ?_
            refine jm_gr (pc := 94) (i := 59) d_Z_seeItem_94 fo_Z_49 sh_59 ge_59 le_59_78 rfl (fun _ => rfl) mr_154_59_16 ge_73 ?_
            refine jm_iconst (pc := 97) (v := 1) d_Z_seeItem_97 ci_1 ?_
            refine jm_iald (pc := 98) d_Z_seeItem_98 sh_73 ge_73 le_73_78 (fun v16 => ?_)
            refine jm_ishl (pc := 99) d_Z_seeItem_99 ?_
            refine jm_ior (pc := 100) d_Z_seeItem_100 ?_
            refine jm_iast (pc := 101) d_Z_seeItem_101 sh_63 ge_63 le_63_78 (fun s17 => ?_)
            refine jm_aload_n (pc := 102) (q := 0) (x := 59) d_Z_seeItem_102 rfl ?_
            refine jm_gr (pc := 103) (i := 59) d_Z_seeItem_103 fo_Z_19 sh_59 ge_59 le_59_78 rfl (fun _ => rfl) mr_154_59_4 ge_63 ?_
            refine jm_bipush (pc := 106) (v := 30) d_Z_seeItem_106 cb_30 ?_
            refine jm_aload_n (pc := 108) (q := 0) (x := 59) d_Z_seeItem_108 rfl ?_
            refine jm_gr (pc := 109) (i := 59) d_Z_seeItem_109 fo_Z_49 sh_59 ge_59 le_59_78 rfl (fun _ => rfl) mr_154_59_16 ge_73 ?_
            refine jm_iconst (pc := 112) (v := 1) d_Z_seeItem_112 ci_1 ?_
            refine jm_iald (pc := 113) d_Z_seeItem_113 sh_73 ge_73 le_73_78 (fun v18 => ?_)
            refine jm_iadd (pc := 114) d_Z_seeItem_114 ?_
            refine jm_nvi (fun v19 => ?_)
            refine jm_dup2 (pc := 115) d_Z_seeItem_115 rfl rfl ?_
            refine jm_iald (pc := 116) d_Z_seeItem_116 sh_63 ge_63 le_63_78 (fun v20 => ?_)
            refine jm_iconst (pc := 117) (v := 1) d_Z_seeItem_117 ci_1 ?_
            refine jm_aload_n (pc := 118) (q := 0) (x := 59) d_Z_seeItem_118 rfl ?_
            refine jm_gr (pc := 119) (i := 59) d_Z_seeItem_119 fo_Z_49 sh_59 ge_59 le_59_78 rfl (fun _ => rfl) mr_154_59_16 ge_73 ?_
            refine jm_iconst (pc := 122) (v := 0) d_Z_seeItem_122 ci_0 ?_
            refine jm_iald (pc := 123) d_Z_seeItem_123 sh_73 ge_73 le_73_78 (fun v21 => ?_)
            refine jm_ishl (pc := 124) d_Z_seeItem_124 ?_
            refine jm_ior (pc := 125) d_Z_seeItem_125 ?_
            refine jm_iast (pc := 126) d_Z_seeItem_126 sh_63 ge_63 le_63_78 (fun s22 => ?_)
            refine jm_iconst (pc := 127) (v := 1) d_Z_seeItem_127 ci_1 ?_
            exact jm_iret (pc := 128) (x := 1) d_Z_seeItem_128 rfl (by decide) rfl rfl rfl
          · refine jm_iconst (pc := 75) (v := 0) d_Z_seeItem_75 ci_0 ?_
            exact jm_iret (pc := 76) (x := 0) d_Z_seeItem_76 rfl (by decide) rfl rfl rfl
theorem d_Z_woodItem_0 : decode (jm_cd mY_Z_woodItem) 0 = .ok (.aload_n 0, 1) := by decide +kernel
theorem d_Z_woodItem_1 : decode (jm_cd mY_Z_woodItem) 1 = .ok (.iconst 2, 1) := by decide +kernel
theorem d_Z_woodItem_2 : decode (jm_cd mY_Z_woodItem) 2 = .ok (.invokevirtual 88, 3) := by decide +kernel
theorem d_Z_woodItem_5 : decode (jm_cd mY_Z_woodItem) 5 = .ok (.ifCond .eq 32, 3) := by decide +kernel
theorem d_Z_woodItem_8 : decode (jm_cd mY_Z_woodItem) 8 = .ok (.aload_n 0, 1) := by decide +kernel
theorem d_Z_woodItem_9 : decode (jm_cd mY_Z_woodItem) 9 = .ok (.aload_n 0, 1) := by decide +kernel
theorem d_Z_woodItem_10 : decode (jm_cd mY_Z_woodItem) 10 = .ok (.getfield 49, 3) := by decide +kernel
theorem d_Z_woodItem_13 : decode (jm_cd mY_Z_woodItem) 13 = .ok (.iconst 0, 1) := by decide +kernel
theorem d_Z_woodItem_14 : decode (jm_cd mY_Z_woodItem) 14 = .ok (.iaload, 1) := by decide +kernel
theorem d_Z_woodItem_15 : decode (jm_cd mY_Z_woodItem) 15 = .ok (.invokevirtual 96, 3) := by decide +kernel
theorem d_Z_woodItem_18 : decode (jm_cd mY_Z_woodItem) 18 = .ok (.ifCond .eq 19, 3) := by decide +kernel
theorem d_Z_woodItem_21 : decode (jm_cd mY_Z_woodItem) 21 = .ok (.aload_n 0, 1) := by decide +kernel
theorem d_Z_woodItem_22 : decode (jm_cd mY_Z_woodItem) 22 = .ok (.getfield 108, 3) := by decide +kernel
theorem d_Z_woodItem_25 : decode (jm_cd mY_Z_woodItem) 25 = .ok (.aload_n 0, 1) := by decide +kernel
theorem d_Z_woodItem_26 : decode (jm_cd mY_Z_woodItem) 26 = .ok (.getfield 49, 3) := by decide +kernel
theorem d_Z_woodItem_29 : decode (jm_cd mY_Z_woodItem) 29 = .ok (.iconst 0, 1) := by decide +kernel
theorem d_Z_woodItem_30 : decode (jm_cd mY_Z_woodItem) 30 = .ok (.iaload, 1) := by decide +kernel
theorem d_Z_woodItem_31 : decode (jm_cd mY_Z_woodItem) 31 = .ok (.invokestatic 99, 3) := by decide +kernel
theorem d_Z_woodItem_34 : decode (jm_cd mY_Z_woodItem) 34 = .ok (.ifCond .eq 5, 3) := by decide +kernel
theorem d_Z_woodItem_37 : decode (jm_cd mY_Z_woodItem) 37 = .ok (.iconst 0, 1) := by decide +kernel
theorem d_Z_woodItem_38 : decode (jm_cd mY_Z_woodItem) 38 = .ok (.ireturn, 1) := by decide +kernel
theorem d_Z_woodItem_39 : decode (jm_cd mY_Z_woodItem) 39 = .ok (.aload_n 0, 1) := by decide +kernel
theorem d_Z_woodItem_40 : decode (jm_cd mY_Z_woodItem) 40 = .ok (.dup, 1) := by decide +kernel
theorem d_Z_woodItem_41 : decode (jm_cd mY_Z_woodItem) 41 = .ok (.getfield 108, 3) := by decide +kernel
theorem d_Z_woodItem_44 : decode (jm_cd mY_Z_woodItem) 44 = .ok (.iconst 1, 1) := by decide +kernel
theorem d_Z_woodItem_45 : decode (jm_cd mY_Z_woodItem) 45 = .ok (.aload_n 0, 1) := by decide +kernel
theorem d_Z_woodItem_46 : decode (jm_cd mY_Z_woodItem) 46 = .ok (.getfield 49, 3) := by decide +kernel
theorem d_Z_woodItem_49 : decode (jm_cd mY_Z_woodItem) 49 = .ok (.iconst 0, 1) := by decide +kernel
theorem d_Z_woodItem_50 : decode (jm_cd mY_Z_woodItem) 50 = .ok (.iaload, 1) := by decide +kernel
theorem d_Z_woodItem_51 : decode (jm_cd mY_Z_woodItem) 51 = .ok (.ishl, 1) := by decide +kernel
theorem d_Z_woodItem_52 : decode (jm_cd mY_Z_woodItem) 52 = .ok (.ior, 1) := by decide +kernel
theorem d_Z_woodItem_53 : decode (jm_cd mY_Z_woodItem) 53 = .ok (.putfield 108, 3) := by decide +kernel
theorem d_Z_woodItem_56 : decode (jm_cd mY_Z_woodItem) 56 = .ok (.aload_n 0, 1) := by decide +kernel
theorem d_Z_woodItem_57 : decode (jm_cd mY_Z_woodItem) 57 = .ok (.getfield 28, 3) := by decide +kernel
theorem d_Z_woodItem_60 : decode (jm_cd mY_Z_woodItem) 60 = .ok (.bipush 30, 2) := by decide +kernel
theorem d_Z_woodItem_62 : decode (jm_cd mY_Z_woodItem) 62 = .ok (.aload_n 0, 1) := by decide +kernel
theorem d_Z_woodItem_63 : decode (jm_cd mY_Z_woodItem) 63 = .ok (.getfield 49, 3) := by decide +kernel
theorem d_Z_woodItem_66 : decode (jm_cd mY_Z_woodItem) 66 = .ok (.iconst 0, 1) := by decide +kernel
theorem d_Z_woodItem_67 : decode (jm_cd mY_Z_woodItem) 67 = .ok (.iaload, 1) := by decide +kernel
theorem d_Z_woodItem_68 : decode (jm_cd mY_Z_woodItem) 68 = .ok (.iadd, 1) := by decide +kernel
theorem d_Z_woodItem_69 : decode (jm_cd mY_Z_woodItem) 69 = .ok (.aload_n 0, 1) := by decide +kernel
theorem d_Z_woodItem_70 : decode (jm_cd mY_Z_woodItem) 70 = .ok (.getfield 49, 3) := by decide +kernel
theorem d_Z_woodItem_73 : decode (jm_cd mY_Z_woodItem) 73 = .ok (.iconst 1, 1) := by decide +kernel
theorem d_Z_woodItem_74 : decode (jm_cd mY_Z_woodItem) 74 = .ok (.iaload, 1) := by decide +kernel
theorem d_Z_woodItem_75 : decode (jm_cd mY_Z_woodItem) 75 = .ok (.iastore, 1) := by decide +kernel
theorem d_Z_woodItem_76 : decode (jm_cd mY_Z_woodItem) 76 = .ok (.iconst 1, 1) := by decide +kernel
theorem d_Z_woodItem_77 : decode (jm_cd mY_Z_woodItem) 77 = .ok (.ireturn, 1) := by decide +kernel
def s_Z_woodItem (s : jm_M) : Option (Int32 × jm_M) := jm_b2 (s_Z_numbers s 2) (fun v1 s2 => (if v1 = 0 then (some (0, s2)) else jm_ldi s2 73 4 0 (fun v3 => jm_bd (s_Z_isRead s2 v3) (fun v4 => (if v4 = 0 then (some (0, s2)) else jm_ldi s2 73 4 0 (fun v5 => jm_bd (s_Z_has s2 (s2.1 59 18) v5) (fun v6 => (if v6 = 0 then jm_ldi s2 73 4 0 (fun v7 => jm_ev (jm_si s2 59 18 ((s2.1 59 18) ||| (1 <<< (v7 &&& 31)))) (fun s8 => jm_ldi s8 73 4 0 (fun v9 => jm_ldi s8 73 4 1 (fun v10 => jm_sti s8 66 40 (30 + v9) v10 (fun s11 => (some (1, s11))))))) else (some (0, s2))))))))))
set_option maxRecDepth 100000 in
set_option maxHeartbeats 4000000 in
theorem s_Z_woodItem_ok (s : jm_M) : jm_Sim mY_Z_woodItem 0 0 0 [(0, .ref 59)] [] 78 mr_154 s (s_Z_woodItem s) (jm_rP 78 mr_154) := by
  unfold s_Z_woodItem
  refine jm_aload_n (pc := 0) (q := 0) (x := 59) d_Z_woodItem_0 rfl ?_
  refine jm_iconst (pc := 1) (v := 2) d_Z_woodItem_1 ci_2 ?_
  refine jm_Vi (pc := 2) (Y' := mY_Z_numbers) (i := 59) (avs := [.int 2]) (rest := []) (s_Z_numbers_ok s 2) ok_Z_numbers l0_Z_woodItem__Z_numbers ml_Z_88 im_Z_numbers se_Z_numbers d_Z_woodItem_2 rfl sh_59 rfl rfl ge_59 le_59_78 rfl (Nat.le_of_ble_eq_true rfl) (Nat.le_of_ble_eq_true rfl) (Nat.le_of_ble_eq_true rfl) (Nat.le_of_ble_eq_true rfl) (fun v1 s2 => ?_)
  refine jm_if_eq (pc := 5) (tgt := 37) d_Z_woodItem_5 (by decide) ?_ ?_
  · refine jm_iconst (pc := 37) (v := 0) d_Z_woodItem_37 ci_0 ?_
    exact jm_iret (pc := 38) (x := 0) d_Z_woodItem_38 rfl (by decide) rfl rfl rfl
  · refine jm_aload_n (pc := 8) (q := 0) (x := 59) d_Z_woodItem_8 rfl ?_
    refine jm_aload_n (pc := 9) (q := 0) (x := 59) d_Z_woodItem_9 rfl ?_
    refine jm_gr (pc := 10) (i := 59) d_Z_woodItem_10 fo_Z_49 sh_59 ge_59 le_59_78 rfl (fun _ => rfl) mr_154_59_16 ge_73 ?_
    refine jm_iconst (pc := 13) (v := 0) d_Z_woodItem_13 ci_0 ?_
    refine jm_iald (pc := 14) d_Z_woodItem_14 sh_73 ge_73 le_73_78 (fun v3 => ?_)
    refine jm_Vp (pc := 15) (Y' := mY_Z_isRead) (i := 59) (avs := [.int v3]) (rest := []) (s_Z_isRead_ok s2 v3) ok_Z_isRead l0_Z_woodItem__Z_isRead ml_Z_96 im_Z_isRead se_Z_isRead d_Z_woodItem_15 rfl sh_59 rfl rfl ge_59 le_59_78 rfl (Nat.le_of_ble_eq_true rfl) (Nat.le_of_ble_eq_true rfl) (Nat.le_of_ble_eq_true rfl) (Nat.le_of_ble_eq_true rfl) (fun v4 => ?_)
    refine jm_if_eq (pc := 18) (tgt := 37) d_Z_woodItem_18 (by decide) ?_ ?_
    · refine jm_iconst (pc := 37) (v := 0) d_Z_woodItem_37 ci_0 ?_
      exact jm_iret (pc := 38) (x := 0) d_Z_woodItem_38 rfl (by decide) rfl rfl rfl
    · refine jm_aload_n (pc := 21) (q := 0) (x := 59) d_Z_woodItem_21 rfl ?_
      refine jm_gi (pc := 22) (i := 59) d_Z_woodItem_22 fo_Z_108 sh_59 ge_59 le_59_78 rfl (fun _ => rfl) ?_
      refine jm_aload_n (pc := 25) (q := 0) (x := 59) d_Z_woodItem_25 rfl ?_
      refine jm_gr (pc := 26) (i := 59) d_Z_woodItem_26 fo_Z_49 sh_59 ge_59 le_59_78 rfl (fun _ => rfl) mr_154_59_16 ge_73 ?_
      refine jm_iconst (pc := 29) (v := 0) d_Z_woodItem_29 ci_0 ?_
      refine jm_iald (pc := 30) d_Z_woodItem_30 sh_73 ge_73 le_73_78 (fun v5 => ?_)
      refine jm_Sp (pc := 31) (Y' := mY_Z_has) (avs := [.int (s2.1 59 18), .int v5]) (rest := []) (s_Z_has_ok s2 (s2.1 59 18) v5) ok_Z_has l0_Z_woodItem__Z_has ml_Z_99 sm_Z_has d_Z_woodItem_31 rfl rfl (Nat.le_of_ble_eq_true rfl) (Nat.le_of_ble_eq_true rfl) (Nat.le_of_ble_eq_true rfl) (Nat.le_of_ble_eq_true rfl) (fun v6 => ?_)
      refine jm_if_eq (pc := 34) (tgt := 39) d_Z_woodItem_34 (by decide) ?_ ?_
      · refine jm_aload_n (pc := 39) (q := 0) (x := 59) d_Z_woodItem_39 rfl ?_
        refine jm_dup (pc := 40) d_Z_woodItem_40 rfl ?_
        refine jm_gi (pc := 41) (i := 59) d_Z_woodItem_41 fo_Z_108 sh_59 ge_59 le_59_78 rfl (fun _ => rfl) ?_
        refine jm_iconst (pc := 44) (v := 1) d_Z_woodItem_44 ci_1 ?_
        refine jm_aload_n (pc := 45) (q := 0) (x := 59) d_Z_woodItem_45 rfl ?_
        refine jm_gr (pc := 46) (i := 59) d_Z_woodItem_46 fo_Z_49 sh_59 ge_59 le_59_78 rfl (fun _ => rfl) mr_154_59_16 ge_73 ?_
        refine jm_iconst (pc := 49) (v := 0) d_Z_woodItem_49 ci_0 ?_
        refine jm_iald (pc := 50) d_Z_woodItem_50 sh_73 ge_73 le_73_78 (fun v7 => ?_)
        refine jm_ishl (pc := 51) d_Z_woodItem_51 ?_
        refine jm_ior (pc := 52) d_Z_woodItem_52 ?_
        refine jm_pi (pc := 53) (i := 59) d_Z_woodItem_53 fp_Z_108 sh_59 ge_59 le_59_78 rfl rfl rfl (fun _ _ _ => rfl) (fun s8 => ?_)
        refine jm_aload_n (pc := 56) (q := 0) (x := 59) d_Z_woodItem_56 rfl ?_
        refine jm_gr (pc := 57) (i := 59) d_Z_woodItem_57 fo_Z_28 sh_59 ge_59 le_59_78 rfl (fun _ => rfl) mr_154_59_7 ge_66 ?_
        refine jm_bipush (pc := 60) (v := 30) d_Z_woodItem_60 cb_30 ?_
        refine jm_aload_n (pc := 62) (q := 0) (x := 59) d_Z_woodItem_62 rfl ?_
        refine jm_gr (pc := 63) (i := 59) d_Z_woodItem_63 fo_Z_49 sh_59 ge_59 le_59_78 rfl (fun _ => rfl) mr_154_59_16 ge_73 ?_
        refine jm_iconst (pc := 66) (v := 0) d_Z_woodItem_66 ci_0 ?_
        refine jm_iald (pc := 67) d_Z_woodItem_67 sh_73 ge_73 le_73_78 (fun v9 => ?_)
        refine jm_iadd (pc := 68) d_Z_woodItem_68 ?_
        refine jm_aload_n (pc := 69) (q := 0) (x := 59) d_Z_woodItem_69 rfl ?_
        refine jm_gr (pc := 70) (i := 59) d_Z_woodItem_70 fo_Z_49 sh_59 ge_59 le_59_78 rfl (fun _ => rfl) mr_154_59_16 ge_73 ?_
        refine jm_iconst (pc := 73) (v := 1) d_Z_woodItem_73 ci_1 ?_
        refine jm_iald (pc := 74) d_Z_woodItem_74 sh_73 ge_73 le_73_78 (fun v10 => ?_)
        refine jm_iast (pc := 75) d_Z_woodItem_75 sh_66 ge_66 le_66_78 (fun s11 => ?_)
        refine jm_iconst (pc := 76) (v := 1) d_Z_woodItem_76 ci_1 ?_
        exact jm_iret (pc := 77) (x := 1) d_Z_woodItem_77 rfl (by decide) rfl rfl rfl
      · refine jm_iconst (pc := 37) (v := 0) d_Z_woodItem_37 ci_0 ?_
        exact jm_iret (pc := 38) (x := 0) d_Z_woodItem_38 rfl (by decide) rfl rfl rfl
theorem d_Z_hillItem_0 : decode (jm_cd mY_Z_hillItem) 0 = .ok (.aload_n 0, 1) := by decide +kernel
theorem d_Z_hillItem_1 : decode (jm_cd mY_Z_hillItem) 1 = .ok (.iconst 1, 1) := by decide +kernel
theorem d_Z_hillItem_2 : decode (jm_cd mY_Z_hillItem) 2 = .ok (.invokevirtual 88, 3) := by decide +kernel
theorem d_Z_hillItem_5 : decode (jm_cd mY_Z_hillItem) 5 = .ok (.ifCond .eq 31, 3) := by decide +kernel
theorem d_Z_hillItem_8 : decode (jm_cd mY_Z_hillItem) 8 = .ok (.aload_n 0, 1) := by decide +kernel
theorem d_Z_hillItem_9 : decode (jm_cd mY_Z_hillItem) 9 = .ok (.getfield 49, 3) := by decide +kernel
theorem d_Z_hillItem_12 : decode (jm_cd mY_Z_hillItem) 12 = .ok (.iconst 0, 1) := by decide +kernel
theorem d_Z_hillItem_13 : decode (jm_cd mY_Z_hillItem) 13 = .ok (.iaload, 1) := by decide +kernel
theorem d_Z_hillItem_14 : decode (jm_cd mY_Z_hillItem) 14 = .ok (.iconst 3, 1) := by decide +kernel
theorem d_Z_hillItem_15 : decode (jm_cd mY_Z_hillItem) 15 = .ok (.if_icmp .gt 21, 3) := by decide +kernel
theorem d_Z_hillItem_18 : decode (jm_cd mY_Z_hillItem) 18 = .ok (.aload_n 0, 1) := by decide +kernel
theorem d_Z_hillItem_19 : decode (jm_cd mY_Z_hillItem) 19 = .ok (.getfield 92, 3) := by decide +kernel
theorem d_Z_hillItem_22 : decode (jm_cd mY_Z_hillItem) 22 = .ok (.ifCond .ne 14, 3) := by decide +kernel
theorem d_Z_hillItem_25 : decode (jm_cd mY_Z_hillItem) 25 = .ok (.aload_n 0, 1) := by decide +kernel
theorem d_Z_hillItem_26 : decode (jm_cd mY_Z_hillItem) 26 = .ok (.getfield 13, 3) := by decide +kernel
theorem d_Z_hillItem_29 : decode (jm_cd mY_Z_hillItem) 29 = .ok (.iconst 3, 1) := by decide +kernel
theorem d_Z_hillItem_30 : decode (jm_cd mY_Z_hillItem) 30 = .ok (.iaload, 1) := by decide +kernel
theorem d_Z_hillItem_31 : decode (jm_cd mY_Z_hillItem) 31 = .ok (.bipush 10, 2) := by decide +kernel
theorem d_Z_hillItem_33 : decode (jm_cd mY_Z_hillItem) 33 = .ok (.if_icmp .ne 5, 3) := by decide +kernel
theorem d_Z_hillItem_36 : decode (jm_cd mY_Z_hillItem) 36 = .ok (.iconst 0, 1) := by decide +kernel
theorem d_Z_hillItem_37 : decode (jm_cd mY_Z_hillItem) 37 = .ok (.ireturn, 1) := by decide +kernel
theorem d_Z_hillItem_38 : decode (jm_cd mY_Z_hillItem) 38 = .ok (.iconst 0, 1) := by decide +kernel
theorem d_Z_hillItem_39 : decode (jm_cd mY_Z_hillItem) 39 = .ok (.istore_n 1, 1) := by decide +kernel
theorem d_Z_hillItem_40 : decode (jm_cd mY_Z_hillItem) 40 = .ok (.iload_n 1, 1) := by decide +kernel
theorem d_Z_hillItem_41 : decode (jm_cd mY_Z_hillItem) 41 = .ok (.aload_n 0, 1) := by decide +kernel
theorem d_Z_hillItem_42 : decode (jm_cd mY_Z_hillItem) 42 = .ok (.getfield 13, 3) := by decide +kernel
theorem d_Z_hillItem_45 : decode (jm_cd mY_Z_hillItem) 45 = .ok (.iconst 3, 1) := by decide +kernel
theorem d_Z_hillItem_46 : decode (jm_cd mY_Z_hillItem) 46 = .ok (.iaload, 1) := by decide +kernel
theorem d_Z_hillItem_47 : decode (jm_cd mY_Z_hillItem) 47 = .ok (.if_icmp .ge 34, 3) := by decide +kernel
theorem d_Z_hillItem_50 : decode (jm_cd mY_Z_hillItem) 50 = .ok (.aload_n 0, 1) := by decide +kernel
theorem d_Z_hillItem_51 : decode (jm_cd mY_Z_hillItem) 51 = .ok (.getfield 49, 3) := by decide +kernel
theorem d_Z_hillItem_54 : decode (jm_cd mY_Z_hillItem) 54 = .ok (.iconst 0, 1) := by decide +kernel
theorem d_Z_hillItem_55 : decode (jm_cd mY_Z_hillItem) 55 = .ok (.iaload, 1) := by decide +kernel
theorem d_Z_hillItem_56 : decode (jm_cd mY_Z_hillItem) 56 = .ok (.iconst 2, 1) := by decide +kernel
theorem d_Z_hillItem_57 : decode (jm_cd mY_Z_hillItem) 57 = .ok (.if_icmp .ne 18, 3) := by decide +kernel
theorem d_Z_hillItem_60 : decode (jm_cd mY_Z_hillItem) 60 = .ok (.aload_n 0, 1) := by decide +kernel
theorem d_Z_hillItem_61 : decode (jm_cd mY_Z_hillItem) 61 = .ok (.getfield 16, 3) := by decide +kernel
theorem d_Z_hillItem_64 : decode (jm_cd mY_Z_hillItem) 64 = .ok (.bipush 30, 2) := by decide +kernel
theorem d_Z_hillItem_66 : decode (jm_cd mY_Z_hillItem) 66 = .ok (.iload_n 1, 1) := by decide +kernel
theorem d_Z_hillItem_67 : decode (jm_cd mY_Z_hillItem) 67 = .ok (.iadd, 1) := by decide +kernel
theorem d_Z_hillItem_68 : decode (jm_cd mY_Z_hillItem) 68 = .ok (.iaload, 1) := by decide +kernel
theorem d_Z_hillItem_69 : decode (jm_cd mY_Z_hillItem) 69 = .ok (.iconst 2, 1) := by decide +kernel
theorem d_Z_hillItem_70 : decode (jm_cd mY_Z_hillItem) 70 = .ok (.if_icmp .ne 5, 3) := by decide +kernel
theorem d_Z_hillItem_73 : decode (jm_cd mY_Z_hillItem) 73 = .ok (.iconst 0, 1) := by decide +kernel
theorem d_Z_hillItem_74 : decode (jm_cd mY_Z_hillItem) 74 = .ok (.ireturn, 1) := by decide +kernel
theorem d_Z_hillItem_75 : decode (jm_cd mY_Z_hillItem) 75 = .ok (.iinc 1 1, 3) := by decide +kernel
theorem d_Z_hillItem_78 : decode (jm_cd mY_Z_hillItem) 78 = .ok (.goto (-38), 3) := by decide +kernel
theorem d_Z_hillItem_81 : decode (jm_cd mY_Z_hillItem) 81 = .ok (.bipush 30, 2) := by decide +kernel
theorem d_Z_hillItem_83 : decode (jm_cd mY_Z_hillItem) 83 = .ok (.aload_n 0, 1) := by decide +kernel
theorem d_Z_hillItem_84 : decode (jm_cd mY_Z_hillItem) 84 = .ok (.getfield 13, 3) := by decide +kernel
theorem d_Z_hillItem_87 : decode (jm_cd mY_Z_hillItem) 87 = .ok (.iconst 3, 1) := by decide +kernel
theorem d_Z_hillItem_88 : decode (jm_cd mY_Z_hillItem) 88 = .ok (.iaload, 1) := by decide +kernel
theorem d_Z_hillItem_89 : decode (jm_cd mY_Z_hillItem) 89 = .ok (.iadd, 1) := by decide +kernel
theorem d_Z_hillItem_90 : decode (jm_cd mY_Z_hillItem) 90 = .ok (.istore_n 1, 1) := by decide +kernel
theorem d_Z_hillItem_91 : decode (jm_cd mY_Z_hillItem) 91 = .ok (.aload_n 0, 1) := by decide +kernel
theorem d_Z_hillItem_92 : decode (jm_cd mY_Z_hillItem) 92 = .ok (.getfield 16, 3) := by decide +kernel
theorem d_Z_hillItem_95 : decode (jm_cd mY_Z_hillItem) 95 = .ok (.iload_n 1, 1) := by decide +kernel
theorem d_Z_hillItem_96 : decode (jm_cd mY_Z_hillItem) 96 = .ok (.aload_n 0, 1) := by decide +kernel
theorem d_Z_hillItem_97 : decode (jm_cd mY_Z_hillItem) 97 = .ok (.getfield 49, 3) := by decide +kernel
theorem d_Z_hillItem_100 : decode (jm_cd mY_Z_hillItem) 100 = .ok (.iconst 0, 1) := by decide +kernel
theorem d_Z_hillItem_101 : decode (jm_cd mY_Z_hillItem) 101 = .ok (.iaload, 1) := by decide +kernel
theorem d_Z_hillItem_102 : decode (jm_cd mY_Z_hillItem) 102 = .ok (.iastore, 1) := by decide +kernel
theorem d_Z_hillItem_103 : decode (jm_cd mY_Z_hillItem) 103 = .ok (.aload_n 0, 1) := by decide +kernel
theorem d_Z_hillItem_104 : decode (jm_cd mY_Z_hillItem) 104 = .ok (.getfield 19, 3) := by decide +kernel
theorem d_Z_hillItem_107 : decode (jm_cd mY_Z_hillItem) 107 = .ok (.iload_n 1, 1) := by decide +kernel
theorem d_Z_hillItem_108 : decode (jm_cd mY_Z_hillItem) 108 = .ok (.iconst 0, 1) := by decide +kernel
theorem d_Z_hillItem_109 : decode (jm_cd mY_Z_hillItem) 109 = .ok (.iastore, 1) := by decide +kernel
theorem d_Z_hillItem_110 : decode (jm_cd mY_Z_hillItem) 110 = .ok (.aload_n 0, 1) := by decide +kernel
theorem d_Z_hillItem_111 : decode (jm_cd mY_Z_hillItem) 111 = .ok (.getfield 22, 3) := by decide +kernel
theorem d_Z_hillItem_114 : decode (jm_cd mY_Z_hillItem) 114 = .ok (.iload_n 1, 1) := by decide +kernel
theorem d_Z_hillItem_115 : decode (jm_cd mY_Z_hillItem) 115 = .ok (.iconst 1, 1) := by decide +kernel
theorem d_Z_hillItem_116 : decode (jm_cd mY_Z_hillItem) 116 = .ok (.iastore, 1) := by decide +kernel
theorem d_Z_hillItem_117 : decode (jm_cd mY_Z_hillItem) 117 = .ok (.aload_n 0, 1) := by decide +kernel
theorem d_Z_hillItem_118 : decode (jm_cd mY_Z_hillItem) 118 = .ok (.getfield 25, 3) := by decide +kernel
theorem d_Z_hillItem_121 : decode (jm_cd mY_Z_hillItem) 121 = .ok (.iload_n 1, 1) := by decide +kernel
theorem d_Z_hillItem_122 : decode (jm_cd mY_Z_hillItem) 122 = .ok (.iconst 1, 1) := by decide +kernel
theorem d_Z_hillItem_123 : decode (jm_cd mY_Z_hillItem) 123 = .ok (.iastore, 1) := by decide +kernel
theorem d_Z_hillItem_124 : decode (jm_cd mY_Z_hillItem) 124 = .ok (.aload_n 0, 1) := by decide +kernel
theorem d_Z_hillItem_125 : decode (jm_cd mY_Z_hillItem) 125 = .ok (.getfield 28, 3) := by decide +kernel
theorem d_Z_hillItem_128 : decode (jm_cd mY_Z_hillItem) 128 = .ok (.iload_n 1, 1) := by decide +kernel
theorem d_Z_hillItem_129 : decode (jm_cd mY_Z_hillItem) 129 = .ok (.bipush 99, 2) := by decide +kernel
theorem d_Z_hillItem_131 : decode (jm_cd mY_Z_hillItem) 131 = .ok (.iastore, 1) := by decide +kernel
theorem d_Z_hillItem_132 : decode (jm_cd mY_Z_hillItem) 132 = .ok (.aload_n 0, 1) := by decide +kernel
theorem d_Z_hillItem_133 : decode (jm_cd mY_Z_hillItem) 133 = .ok (.getfield 13, 3) := by decide +kernel
theorem d_Z_hillItem_136 : decode (jm_cd mY_Z_hillItem) 136 = .ok (.iconst 3, 1) := by decide +kernel
theorem d_Z_hillItem_137 : decode (jm_cd mY_Z_hillItem) 137 = .ok (.dup2, 1) := by decide +kernel
theorem d_Z_hillItem_138 : decode (jm_cd mY_Z_hillItem) 138 = .ok (.iaload, 1) := by decide +kernel
theorem d_Z_hillItem_139 : decode (jm_cd mY_Z_hillItem) 139 = .ok (.iconst 1, 1) := by decide +kernel
theorem d_Z_hillItem_140 : decode (jm_cd mY_Z_hillItem) 140 = .ok (.iadd, 1) := by decide +kernel
theorem d_Z_hillItem_141 : decode (jm_cd mY_Z_hillItem) 141 = .ok (.iastore, 1) := by decide +kernel
theorem d_Z_hillItem_142 : decode (jm_cd mY_Z_hillItem) 142 = .ok (.iconst 1, 1) := by decide +kernel
theorem d_Z_hillItem_143 : decode (jm_cd mY_Z_hillItem) 143 = .ok (.ireturn, 1) := by decide +kernel
def s_Z_hillItem_L40 : Nat → Int32 → jm_M → Option (Int32 × jm_M)
  | 0, _, _ => none
  | n + 1, x1, s => jm_ldi s 61 4 3 (fun v5 => (if v5 ≤ x1 then jm_ldi s 61 4 3 (fun v6 => jm_vi (30 + v6) (fun v7 => jm_ldi s 73 4 0 (fun v8 => jm_sti s 62 40 v7 v8 (fun s9 => jm_sti s9 63 40 v7 0 (fun s10 => jm_sti s10 64 40 v7 1 (fun s11 => jm_sti s11 65 40 v7 1 (fun s12 => jm_sti s12 66 40 v7 99 (fun s13 => jm_ldi s13 61 4 3 (fun v14 => jm_sti s13 61 4 3 (v14 + 1) (fun s15 => (some (1, s15)))))))))))) else jm_ldi s 73 4 0 (fun v16 => (if v16 = 2 then jm_ldi s 62 40 (30 + x1) (fun v17 => (if v17 = 2 then (some (0, s)) else s_Z_hillItem_L40 n (x1 + 1) s)) else s_Z_hillItem_L40 n (x1 + 1) s))))
set_option maxRecDepth 100000 in
set_option maxHeartbeats 4000000 in
theorem s_Z_hillItem_L40_ok : ∀ (n : Nat) (x1 : Int32) (s : jm_M), jm_Sim mY_Z_hillItem 0 0 40 [(0, .ref 59), (1, .int x1)] [] 78 mr_154 s (s_Z_hillItem_L40 n x1 s) (jm_rP 78 mr_154) := by
  intro n
  induction n with
  | zero => intro x1 s; exact jm_none
  | succ n ih =>
    intro x1 s
    rw [s_Z_hillItem_L40]
    refine jm_iload_n (pc := 40) (q := 1) (x := x1) d_Z_hillItem_40 rfl ?_
    refine jm_aload_n (pc := 41) (q := 0) (x := 59) d_Z_hillItem_41 rfl ?_
    refine jm_gr (pc := 42) (i := 59) d_Z_hillItem_42 fo_Z_13 sh_59 ge_59 le_59_78 rfl (fun _ => rfl) mr_154_59_2 ge_61 ?_
    refine jm_iconst (pc := 45) (v := 3) d_Z_hillItem_45 ci_3 ?_
    refine jm_iald (pc := 46) d_Z_hillItem_46 sh_61 ge_61 le_61_78 (fun v5 => ?_)
    refine jm_icmp_ge (pc := 47) (tgt := 81) d_Z_hillItem_47 (by decide) ?_ ?_
    · refine jm_bipush (pc := 81) (v := 30) d_Z_hillItem_81 cb_30 ?_
      refine jm_aload_n (pc := 83) (q := 0) (x := 59) d_Z_hillItem_83 rfl ?_
      refine jm_gr (pc := 84) (i := 59) d_Z_hillItem_84 fo_Z_13 sh_59 ge_59 le_59_78 rfl (fun _ => rfl) mr_154_59_2 ge_61 ?_
      refine jm_iconst (pc := 87) (v := 3) d_Z_hillItem_87 ci_3 ?_
      refine jm_iald (pc := 88) d_Z_hillItem_88 sh_61 ge_61 le_61_78 (fun v6 => ?_)
      refine jm_iadd (pc := 89) d_Z_hillItem_89 ?_
      refine jm_nvi (fun v7 => ?_)
      refine jm_istore_n (pc := 90) (i := 1) (L2 := [(1, .int v7), (0, .ref 59)]) d_Z_hillItem_90 rfl (Nat.le_of_ble_eq_true rfl) rfl ?_
      refine jm_aload_n (pc := 91) (q := 1) (x := 59) d_Z_hillItem_91 rfl ?_
      refine jm_gr (pc := 92) (i := 59) d_Z_hillItem_92 fo_Z_16 sh_59 ge_59 le_59_78 rfl (fun _ => rfl) mr_154_59_3 ge_62 ?_
      refine jm_iload_n (pc := 95) (q := 0) (x := v7) d_Z_hillItem_95 rfl ?_
      refine jm_aload_n (pc := 96) (q := 1) (x := 59) d_Z_hillItem_96 rfl ?_
      refine jm_gr (pc := 97) (i := 59) d_Z_hillItem_97 fo_Z_49 sh_59 ge_59 le_59_78 rfl (fun _ => rfl) mr_154_59_16 ge_73 ?_
      refine jm_iconst (pc := 100) (v := 0) d_Z_hillItem_100 ci_0 ?_
      refine jm_iald (pc := 101) d_Z_hillItem_101 sh_73 ge_73 le_73_78 (fun v8 => ?_)
      refine jm_iast (pc := 102) d_Z_hillItem_102 sh_62 ge_62 le_62_78 (fun s9 => ?_)
      refine jm_aload_n (pc := 103) (q := 1) (x := 59) d_Z_hillItem_103 rfl ?_
      refine jm_gr (pc := 104) (i := 59) d_Z_hillItem_104 fo_Z_19 sh_59 ge_59 le_59_78 rfl (fun _ => rfl) mr_154_59_4 ge_63 ?_
      refine jm_iload_n (pc := 107) (q := 0) (x := v7) d_Z_hillItem_107 rfl ?_
      refine jm_iconst (pc := 108) (v := 0) d_Z_hillItem_108 ci_0 ?_
      refine jm_iast (pc := 109) d_Z_hillItem_109 sh_63 ge_63 le_63_78 (fun s10 => ?_)
      refine jm_aload_n (pc := 110) (q := 1) (x := 59) d_Z_hillItem_110 rfl ?_
      refine jm_gr (pc := 111) (i := 59) d_Z_hillItem_111 fo_Z_22 sh_59 ge_59 le_59_78 rfl (fun _ => rfl) mr_154_59_5 ge_64 ?_
      refine jm_iload_n (pc := 114) (q := 0) (x := v7) d_Z_hillItem_114 rfl ?_
      refine jm_iconst (pc := 115) (v := 1) d_Z_hillItem_115 ci_1 ?_
      refine jm_iast (pc := 116) d_Z_hillItem_116 sh_64 ge_64 le_64_78 (fun s11 => ?_)
      refine jm_aload_n (pc := 117) (q := 1) (x := 59) d_Z_hillItem_117 rfl ?_
      refine jm_gr (pc := 118) (i := 59) d_Z_hillItem_118 fo_Z_25 sh_59 ge_59 le_59_78 rfl (fun _ => rfl) mr_154_59_6 ge_65 ?_
      refine jm_iload_n (pc := 121) (q := 0) (x := v7) d_Z_hillItem_121 rfl ?_
      refine jm_iconst (pc := 122) (v := 1) d_Z_hillItem_122 ci_1 ?_
      refine jm_iast (pc := 123) d_Z_hillItem_123 sh_65 ge_65 le_65_78 (fun s12 => ?_)
      refine jm_aload_n (pc := 124) (q := 1) (x := 59) d_Z_hillItem_124 rfl ?_
      refine jm_gr (pc := 125) (i := 59) d_Z_hillItem_125 fo_Z_28 sh_59 ge_59 le_59_78 rfl (fun _ => rfl) mr_154_59_7 ge_66 ?_
      refine jm_iload_n (pc := 128) (q := 0) (x := v7) d_Z_hillItem_128 rfl ?_
      refine jm_bipush (pc := 129) (v := 99) d_Z_hillItem_129 cb_99 ?_
      refine jm_iast (pc := 131) d_Z_hillItem_131 sh_66 ge_66 le_66_78 (fun s13 => ?_)
      refine jm_aload_n (pc := 132) (q := 1) (x := 59) d_Z_hillItem_132 rfl ?_
      refine jm_gr (pc := 133) (i := 59) d_Z_hillItem_133 fo_Z_13 sh_59 ge_59 le_59_78 rfl (fun _ => rfl) mr_154_59_2 ge_61 ?_
      refine jm_iconst (pc := 136) (v := 3) d_Z_hillItem_136 ci_3 ?_
      refine jm_dup2 (pc := 137) d_Z_hillItem_137 rfl rfl ?_
      refine jm_iald (pc := 138) d_Z_hillItem_138 sh_61 ge_61 le_61_78 (fun v14 => ?_)
      refine jm_iconst (pc := 139) (v := 1) d_Z_hillItem_139 ci_1 ?_
      refine jm_iadd (pc := 140) d_Z_hillItem_140 ?_
      refine jm_iast (pc := 141) d_Z_hillItem_141 sh_61 ge_61 le_61_78 (fun s15 => ?_)
      refine jm_iconst (pc := 142) (v := 1) d_Z_hillItem_142 ci_1 ?_
      exact jm_iret (pc := 143) (x := 1) d_Z_hillItem_143 rfl (by decide) rfl rfl rfl
    · refine jm_aload_n (pc := 50) (q := 0) (x := 59) d_Z_hillItem_50 rfl ?_
      refine jm_gr (pc := 51) (i := 59) d_Z_hillItem_51 fo_Z_49 sh_59 ge_59 le_59_78 rfl (fun _ => rfl) mr_154_59_16 ge_73 ?_
      refine jm_iconst (pc := 54) (v := 0) d_Z_hillItem_54 ci_0 ?_
      refine jm_iald (pc := 55) d_Z_hillItem_55 sh_73 ge_73 le_73_78 (fun v16 => ?_)
      refine jm_iconst (pc := 56) (v := 2) d_Z_hillItem_56 ci_2 ?_
      refine jm_icmp_ne (pc := 57) (tgt := 75) d_Z_hillItem_57 (by decide) ?_ ?_
      · refine jm_aload_n (pc := 60) (q := 0) (x := 59) d_Z_hillItem_60 rfl ?_
        refine jm_gr (pc := 61) (i := 59) d_Z_hillItem_61 fo_Z_16 sh_59 ge_59 le_59_78 rfl (fun _ => rfl) mr_154_59_3 ge_62 ?_
        refine jm_bipush (pc := 64) (v := 30) d_Z_hillItem_64 cb_30 ?_
        refine jm_iload_n (pc := 66) (q := 1) (x := x1) d_Z_hillItem_66 rfl ?_
        refine jm_iadd (pc := 67) d_Z_hillItem_67 ?_
        refine jm_iald (pc := 68) d_Z_hillItem_68 sh_62 ge_62 le_62_78 (fun v17 => ?_)
        refine jm_iconst (pc := 69) (v := 2) d_Z_hillItem_69 ci_2 ?_
        refine jm_icmp_ne (pc := 70) (tgt := 75) d_Z_hillItem_70 (by decide) ?_ ?_
        · refine jm_iconst (pc := 73) (v := 0) d_Z_hillItem_73 ci_0 ?_
          exact jm_iret (pc := 74) (x := 0) d_Z_hillItem_74 rfl (by decide) rfl rfl rfl
        · refine jm_iinc (pc := 75) (q := 1) (x := x1) (v := 1) (L2 := [(1, .int (x1 + 1)), (0, .ref 59)]) d_Z_hillItem_75 rfl ci_1 (Nat.le_of_ble_eq_true rfl) rfl ?_
          refine jm_goto (pc := 78) (tgt := 40) d_Z_hillItem_78 (by decide) ?_
          refine jm_sub (L2 := [(0, .ref 59), (1, .int (x1 + 1))]) [1, 0] rfl ?_
          exact ih (x1 + 1) s
      · refine jm_iinc (pc := 75) (q := 1) (x := x1) (v := 1) (L2 := [(1, .int (x1 + 1)), (0, .ref 59)]) d_Z_hillItem_75 rfl ci_1 (Nat.le_of_ble_eq_true rfl) rfl ?_
        refine jm_goto (pc := 78) (tgt := 40) d_Z_hillItem_78 (by decide) ?_
        refine jm_sub (L2 := [(0, .ref 59), (1, .int (x1 + 1))]) [1, 0] rfl ?_
        exact ih (x1 + 1) s
def s_Z_hillItem (s : jm_M) : Option (Int32 × jm_M) := jm_b2 (s_Z_numbers s 1) (fun v1 s2 => (if v1 = 0 then (some (0, s2)) else jm_ldi s2 73 4 0 (fun v3 => (if 3 < v3 then (some (0, s2)) else (if (s2.1 59 19) = 0 then jm_ldi s2 61 4 3 (fun v4 => (if v4 = 10 then (some (0, s2)) else s_Z_hillItem_L40 5000 0 s2)) else (some (0, s2)))))))
set_option maxRecDepth 100000 in
set_option maxHeartbeats 4000000 in
theorem s_Z_hillItem_ok (s : jm_M) : jm_Sim mY_Z_hillItem 0 0 0 [(0, .ref 59)] [] 78 mr_154 s (s_Z_hillItem s) (jm_rP 78 mr_154) := by
  unfold s_Z_hillItem
  refine jm_aload_n (pc := 0) (q := 0) (x := 59) d_Z_hillItem_0 rfl ?_
  refine jm_iconst (pc := 1) (v := 1) d_Z_hillItem_1 ci_1 ?_
  refine jm_Vi (pc := 2) (Y' := mY_Z_numbers) (i := 59) (avs := [.int 1]) (rest := []) (s_Z_numbers_ok s 1) ok_Z_numbers l0_Z_hillItem__Z_numbers ml_Z_88 im_Z_numbers se_Z_numbers d_Z_hillItem_2 rfl sh_59 rfl rfl ge_59 le_59_78 rfl (Nat.le_of_ble_eq_true rfl) (Nat.le_of_ble_eq_true rfl) (Nat.le_of_ble_eq_true rfl) (Nat.le_of_ble_eq_true rfl) (fun v1 s2 => ?_)
  refine jm_if_eq (pc := 5) (tgt := 36) d_Z_hillItem_5 (by decide) ?_ ?_
  · refine jm_iconst (pc := 36) (v := 0) d_Z_hillItem_36 ci_0 ?_
    exact jm_iret (pc := 37) (x := 0) d_Z_hillItem_37 rfl (by decide) rfl rfl rfl
  · refine jm_aload_n (pc := 8) (q := 0) (x := 59) d_Z_hillItem_8 rfl ?_
    refine jm_gr (pc := 9) (i := 59) d_Z_hillItem_9 fo_Z_49 sh_59 ge_59 le_59_78 rfl (fun _ => rfl) mr_154_59_16 ge_73 ?_
    refine jm_iconst (pc := 12) (v := 0) d_Z_hillItem_12 ci_0 ?_
    refine jm_iald (pc := 13) d_Z_hillItem_13 sh_73 ge_73 le_73_78 (fun v3 => ?_)
    refine jm_iconst (pc := 14) (v := 3) d_Z_hillItem_14 ci_3 ?_
    refine jm_icmp_gt (pc := 15) (tgt := 36) d_Z_hillItem_15 (by decide) ?_ ?_
    · refine jm_iconst (pc := 36) (v := 0) d_Z_hillItem_36 ci_0 ?_
      exact jm_iret (pc := 37) (x := 0) d_Z_hillItem_37 rfl (by decide) rfl rfl rfl
    · refine jm_aload_n (pc := 18) (q := 0) (x := 59) d_Z_hillItem_18 rfl ?_
      refine jm_gi (pc := 19) (i := 59) d_Z_hillItem_19 fo_Z_92 sh_59 ge_59 le_59_78 rfl (fun _ => rfl) ?_
      refine jm_if_ne (pc := 22) (tgt := 36) d_Z_hillItem_22 (by decide) ?_ ?_
      · refine jm_aload_n (pc := 25) (q := 0) (x := 59) d_Z_hillItem_25 rfl ?_
        refine jm_gr (pc := 26) (i := 59) d_Z_hillItem_26 fo_Z_13 sh_59 ge_59 le_59_78 rfl (fun _ => rfl) mr_154_59_2 ge_61 ?_
        refine jm_iconst (pc := 29) (v := 3) d_Z_hillItem_29 ci_3 ?_
        refine jm_iald (pc := 30) d_Z_hillItem_30 sh_61 ge_61 le_61_78 (fun v4 => ?_)
        refine jm_bipush (pc := 31) (v := 10) d_Z_hillItem_31 cb_10 ?_
        refine jm_icmp_ne (pc := 33) (tgt := 38) d_Z_hillItem_33 (by decide) ?_ ?_
        · refine jm_iconst (pc := 36) (v := 0) d_Z_hillItem_36 ci_0 ?_
          exact jm_iret (pc := 37) (x := 0) d_Z_hillItem_37 rfl (by decide) rfl rfl rfl
        · refine jm_iconst (pc := 38) (v := 0) d_Z_hillItem_38 ci_0 ?_
          refine jm_istore_n (pc := 39) (i := 1) (L2 := [(1, .int 0), (0, .ref 59)]) d_Z_hillItem_39 rfl (Nat.le_of_ble_eq_true rfl) rfl ?_
          refine jm_sub (L2 := [(0, .ref 59), (1, .int 0)]) [1, 0] rfl ?_
          exact s_Z_hillItem_L40_ok 5000 0 s2
      · refine jm_iconst (pc := 36) (v := 0) d_Z_hillItem_36 ci_0 ?_
        exact jm_iret (pc := 37) (x := 0) d_Z_hillItem_37 rfl (by decide) rfl rfl rfl
