theorem d_Co_spreadFromAllHeads_0 : decode (jm_cd mY_Co_spreadFromAllHeads) 0 = .ok (.aload_n 0, 1) := by decide +kernel
theorem d_Co_spreadFromAllHeads_1 : decode (jm_cd mY_Co_spreadFromAllHeads) 1 = .ok (.aload_n 0, 1) := by decide +kernel
theorem d_Co_spreadFromAllHeads_2 : decode (jm_cd mY_Co_spreadFromAllHeads) 2 = .ok (.getfield 21, 3) := by decide +kernel
theorem d_Co_spreadFromAllHeads_5 : decode (jm_cd mY_Co_spreadFromAllHeads) 5 = .ok (.iconst 0, 1) := by decide +kernel
theorem d_Co_spreadFromAllHeads_6 : decode (jm_cd mY_Co_spreadFromAllHeads) 6 = .ok (.iconst (-1), 1) := by decide +kernel
theorem d_Co_spreadFromAllHeads_7 : decode (jm_cd mY_Co_spreadFromAllHeads) 7 = .ok (.invokevirtual 74, 3) := by decide +kernel
theorem d_Co_spreadFromAllHeads_10 : decode (jm_cd mY_Co_spreadFromAllHeads) 10 = .ok (.pop, 1) := by decide +kernel
theorem d_Co_spreadFromAllHeads_11 : decode (jm_cd mY_Co_spreadFromAllHeads) 11 = .ok (.return_, 1) := by decide +kernel
def s_Co_spreadFromAllHeads (s : jm_M) : Option jm_M := jm_b2 (s_Co_spread s (s.1 48 3) 0 (-1)) (fun v1 s2 => (some s2))
set_option maxRecDepth 100000 in
set_option maxHeartbeats 4000000 in
theorem s_Co_spreadFromAllHeads_ok (s : jm_M) : jm_Sim mY_Co_spreadFromAllHeads 0 0 0 [(0, .ref 48)] [] 78 mr_154 s (s_Co_spreadFromAllHeads s) (jm_rV 78 mr_154) := by
  unfold s_Co_spreadFromAllHeads
  refine jm_aload_n (pc := 0) (q := 0) (x := 48) d_Co_spreadFromAllHeads_0 rfl ?_
  refine jm_aload_n (pc := 1) (q := 0) (x := 48) d_Co_spreadFromAllHeads_1 rfl ?_
  refine jm_gi (pc := 2) (i := 48) d_Co_spreadFromAllHeads_2 fo_Co_21 sh_48 ge_48 le_48_78 rfl (fun _ => rfl) ?_
  refine jm_iconst (pc := 5) (v := 0) d_Co_spreadFromAllHeads_5 ci_0 ?_
  refine jm_iconst (pc := 6) (v := (-1)) d_Co_spreadFromAllHeads_6 ci_m1 ?_
  refine jm_Vi (pc := 7) (Y' := mY_Co_spread) (i := 48) (avs := [.int (s.1 48 3), .int 0, .int (-1)]) (rest := []) (s_Co_spread_ok s (s.1 48 3) 0 (-1)) ok_Co_spread l0_Co_spreadFromAllHeads__Co_spread ml_Co_74 im_Co_spread se_Co_spread d_Co_spreadFromAllHeads_7 rfl sh_48 rfl rfl ge_48 le_48_78 rfl (Nat.le_of_ble_eq_true rfl) (Nat.le_of_ble_eq_true rfl) (Nat.le_of_ble_eq_true rfl) (Nat.le_of_ble_eq_true rfl) (fun v1 s2 => ?_)
  refine jm_pop (pc := 10) d_Co_spreadFromAllHeads_10 rfl ?_
  exact jm_vret (pc := 11) d_Co_spreadFromAllHeads_11 rfl rfl rfl rfl
theorem d_Co_burnsFrom_0 : decode (jm_cd mY_Co_burnsFrom) 0 = .ok (.iconst 1, 1) := by decide +kernel
theorem d_Co_burnsFrom_1 : decode (jm_cd mY_Co_burnsFrom) 1 = .ok (.istore_n 2, 1) := by decide +kernel
theorem d_Co_burnsFrom_2 : decode (jm_cd mY_Co_burnsFrom) 2 = .ok (.iload_n 2, 1) := by decide +kernel
theorem d_Co_burnsFrom_3 : decode (jm_cd mY_Co_burnsFrom) 3 = .ok (.aload_n 0, 1) := by decide +kernel
theorem d_Co_burnsFrom_4 : decode (jm_cd mY_Co_burnsFrom) 4 = .ok (.getfield 40, 3) := by decide +kernel
theorem d_Co_burnsFrom_7 : decode (jm_cd mY_Co_burnsFrom) 7 = .ok (.if_icmp .gt 30, 3) := by decide +kernel
theorem d_Co_burnsFrom_10 : decode (jm_cd mY_Co_burnsFrom) 10 = .ok (.iload_n 2, 1) := by decide +kernel
theorem d_Co_burnsFrom_11 : decode (jm_cd mY_Co_burnsFrom) 11 = .ok (.bipush 100, 2) := by decide +kernel
theorem d_Co_burnsFrom_13 : decode (jm_cd mY_Co_burnsFrom) 13 = .ok (.if_icmp .ge 24, 3) := by decide +kernel
theorem d_Co_burnsFrom_16 : decode (jm_cd mY_Co_burnsFrom) 16 = .ok (.aload_n 0, 1) := by decide +kernel
theorem d_Co_burnsFrom_17 : decode (jm_cd mY_Co_burnsFrom) 17 = .ok (.getfield 37, 3) := by decide +kernel
theorem d_Co_burnsFrom_20 : decode (jm_cd mY_Co_burnsFrom) 20 = .ok (.iload_n 2, 1) := by decide +kernel
theorem d_Co_burnsFrom_21 : decode (jm_cd mY_Co_burnsFrom) 21 = .ok (.iaload, 1) := by decide +kernel
theorem d_Co_burnsFrom_22 : decode (jm_cd mY_Co_burnsFrom) 22 = .ok (.iload_n 1, 1) := by decide +kernel
theorem d_Co_burnsFrom_23 : decode (jm_cd mY_Co_burnsFrom) 23 = .ok (.ishr, 1) := by decide +kernel
theorem d_Co_burnsFrom_24 : decode (jm_cd mY_Co_burnsFrom) 24 = .ok (.iconst 1, 1) := by decide +kernel
theorem d_Co_burnsFrom_25 : decode (jm_cd mY_Co_burnsFrom) 25 = .ok (.iand, 1) := by decide +kernel
theorem d_Co_burnsFrom_26 : decode (jm_cd mY_Co_burnsFrom) 26 = .ok (.ifCond .eq 5, 3) := by decide +kernel
theorem d_Co_burnsFrom_29 : decode (jm_cd mY_Co_burnsFrom) 29 = .ok (.iload_n 2, 1) := by decide +kernel
theorem d_Co_burnsFrom_30 : decode (jm_cd mY_Co_burnsFrom) 30 = .ok (.ireturn, 1) := by decide +kernel
theorem d_Co_burnsFrom_31 : decode (jm_cd mY_Co_burnsFrom) 31 = .ok (.iinc 2 1, 3) := by decide +kernel
theorem d_Co_burnsFrom_34 : decode (jm_cd mY_Co_burnsFrom) 34 = .ok (.goto (-32), 3) := by decide +kernel
theorem d_Co_burnsFrom_37 : decode (jm_cd mY_Co_burnsFrom) 37 = .ok (.bipush (-4), 2) := by decide +kernel
theorem d_Co_burnsFrom_39 : decode (jm_cd mY_Co_burnsFrom) 39 = .ok (.ireturn, 1) := by decide +kernel
def s_Co_burnsFrom_L2 (s : jm_M) : Nat → Int32 → Int32 → Option Int32
  | 0, _, _ => none
  | n + 1, x1, x2 => (if (s.1 48 9) < x2 then (some (-4)) else (if 100 ≤ x2 then (some (-4)) else jm_ldi s 52 100 x2 (fun v1 => (if ((v1 >>> (x1 &&& 31)) &&& 1) = 0 then s_Co_burnsFrom_L2 s n x1 (x2 + 1) else (some x2)))))
set_option maxRecDepth 100000 in
set_option maxHeartbeats 4000000 in
theorem s_Co_burnsFrom_L2_ok (s : jm_M) : ∀ (n : Nat) (x1 : Int32) (x2 : Int32), jm_Sim mY_Co_burnsFrom 0 0 2 [(0, .ref 48), (1, .int x1), (2, .int x2)] [] 78 mr_154 s (s_Co_burnsFrom_L2 s n x1 x2) (jm_rI 78 mr_154 s) := by
  intro n
  induction n with
  | zero => intro x1 x2; exact jm_none
  | succ n ih =>
    intro x1 x2
    rw [s_Co_burnsFrom_L2]
    refine jm_iload_n (pc := 2) (q := 2) (x := x2) d_Co_burnsFrom_2 rfl ?_
    refine jm_aload_n (pc := 3) (q := 0) (x := 48) d_Co_burnsFrom_3 rfl ?_
    refine jm_gi (pc := 4) (i := 48) d_Co_burnsFrom_4 fo_Co_40 sh_48 ge_48 le_48_78 rfl (fun _ => rfl) ?_
    refine jm_icmp_gt (pc := 7) (tgt := 37) d_Co_burnsFrom_7 (by decide) ?_ ?_
    · refine jm_bipush (pc := 37) (v := (-4)) d_Co_burnsFrom_37 cb_m4 ?_
      exact jm_iret (pc := 39) (x := (-4)) d_Co_burnsFrom_39 rfl rfl rfl rfl rfl
    · refine jm_iload_n (pc := 10) (q := 2) (x := x2) d_Co_burnsFrom_10 rfl ?_
      refine jm_bipush (pc := 11) (v := 100) d_Co_burnsFrom_11 cb_100 ?_
      refine jm_icmp_ge (pc := 13) (tgt := 37) d_Co_burnsFrom_13 (by decide) ?_ ?_
      · refine jm_bipush (pc := 37) (v := (-4)) d_Co_burnsFrom_37 cb_m4 ?_
        exact jm_iret (pc := 39) (x := (-4)) d_Co_burnsFrom_39 rfl rfl rfl rfl rfl
      · refine jm_aload_n (pc := 16) (q := 0) (x := 48) d_Co_burnsFrom_16 rfl ?_
        refine jm_gr (pc := 17) (i := 48) d_Co_burnsFrom_17 fo_Co_37 sh_48 ge_48 le_48_78 rfl (fun _ => rfl) mr_154_48_8 ge_52 ?_
        refine jm_iload_n (pc := 20) (q := 2) (x := x2) d_Co_burnsFrom_20 rfl ?_
        refine jm_iald (pc := 21) d_Co_burnsFrom_21 sh_52 ge_52 le_52_78 (fun v1 => ?_)
        refine jm_iload_n (pc := 22) (q := 1) (x := x1) d_Co_burnsFrom_22 rfl ?_
        refine jm_ishr (pc := 23) d_Co_burnsFrom_23 ?_
        refine jm_iconst (pc := 24) (v := 1) d_Co_burnsFrom_24 ci_1 ?_
        refine jm_iand (pc := 25) d_Co_burnsFrom_25 ?_
        refine jm_if_eq (pc := 26) (tgt := 31) d_Co_burnsFrom_26 (by decide) ?_ ?_
        · refine jm_iinc (pc := 31) (q := 2) (x := x2) (v := 1) (L2 := [(2, .int (x2 + 1)), (0, .ref 48), (1, .int x1)]) d_Co_burnsFrom_31 rfl ci_1 (Nat.le_of_ble_eq_true rfl) rfl ?_
          refine jm_goto (pc := 34) (tgt := 2) d_Co_burnsFrom_34 (by decide) ?_
          refine jm_sub (L2 := [(0, .ref 48), (1, .int x1), (2, .int (x2 + 1))]) [1, 2, 0] rfl ?_
          exact ih x1 (x2 + 1)
        · refine jm_iload_n (pc := 29) (q := 2) (x := x2) d_Co_burnsFrom_29 rfl ?_
          exact jm_iret (pc := 30) (x := x2) d_Co_burnsFrom_30 rfl rfl rfl rfl rfl
def s_Co_burnsFrom (s : jm_M) (a0 : Int32) : Option Int32 := s_Co_burnsFrom_L2 s 5000 a0 1
set_option maxRecDepth 100000 in
set_option maxHeartbeats 4000000 in
theorem s_Co_burnsFrom_ok (s : jm_M) (a0 : Int32) : jm_Sim mY_Co_burnsFrom 0 0 0 [(0, .ref 48), (1, .int a0)] [] 78 mr_154 s (s_Co_burnsFrom s a0) (jm_rI 78 mr_154 s) := by
  unfold s_Co_burnsFrom
  refine jm_iconst (pc := 0) (v := 1) d_Co_burnsFrom_0 ci_1 ?_
  refine jm_istore_n (pc := 1) (i := 2) (L2 := [(2, .int 1), (0, .ref 48), (1, .int a0)]) d_Co_burnsFrom_1 rfl (Nat.le_of_ble_eq_true rfl) rfl ?_
  refine jm_sub (L2 := [(0, .ref 48), (1, .int a0), (2, .int 1)]) [1, 2, 0] rfl ?_
  exact s_Co_burnsFrom_L2_ok s 5000 a0 1
theorem d_Lo_tooSoon_0 : decode (jm_cd mY_Lo_tooSoon) 0 = .ok (.aload_n 0, 1) := by decide +kernel
theorem d_Lo_tooSoon_1 : decode (jm_cd mY_Lo_tooSoon) 1 = .ok (.invokestatic 50, 3) := by decide +kernel
theorem d_Lo_tooSoon_4 : decode (jm_cd mY_Lo_tooSoon) 4 = .ok (.istore_n 2, 1) := by decide +kernel
theorem d_Lo_tooSoon_5 : decode (jm_cd mY_Lo_tooSoon) 5 = .ok (.iload_n 2, 1) := by decide +kernel
theorem d_Lo_tooSoon_6 : decode (jm_cd mY_Lo_tooSoon) 6 = .ok (.bipush 60, 2) := by decide +kernel
theorem d_Lo_tooSoon_8 : decode (jm_cd mY_Lo_tooSoon) 8 = .ok (.if_icmp .ne 5, 3) := by decide +kernel
theorem d_Lo_tooSoon_11 : decode (jm_cd mY_Lo_tooSoon) 11 = .ok (.iconst 0, 1) := by decide +kernel
theorem d_Lo_tooSoon_12 : decode (jm_cd mY_Lo_tooSoon) 12 = .ok (.ireturn, 1) := by decide +kernel
theorem d_Lo_tooSoon_13 : decode (jm_cd mY_Lo_tooSoon) 13 = .ok (.aload_n 1, 1) := by decide +kernel
theorem d_Lo_tooSoon_14 : decode (jm_cd mY_Lo_tooSoon) 14 = .ok (.invokevirtual 54, 3) := by decide +kernel
theorem d_Lo_tooSoon_17 : decode (jm_cd mY_Lo_tooSoon) 17 = .ok (.iconst 0, 1) := by decide +kernel
theorem d_Lo_tooSoon_18 : decode (jm_cd mY_Lo_tooSoon) 18 = .ok (.istore_n 3, 1) := by decide +kernel
theorem d_Lo_tooSoon_19 : decode (jm_cd mY_Lo_tooSoon) 19 = .ok (.iconst 0, 1) := by decide +kernel
theorem d_Lo_tooSoon_20 : decode (jm_cd mY_Lo_tooSoon) 20 = .ok (.istore 4, 2) := by decide +kernel
theorem d_Lo_tooSoon_22 : decode (jm_cd mY_Lo_tooSoon) 22 = .ok (.iload 4, 2) := by decide +kernel
theorem d_Lo_tooSoon_24 : decode (jm_cd mY_Lo_tooSoon) 24 = .ok (.bipush 10, 2) := by decide +kernel
theorem d_Lo_tooSoon_26 : decode (jm_cd mY_Lo_tooSoon) 26 = .ok (.if_icmp .ge 70, 3) := by decide +kernel
theorem d_Lo_tooSoon_29 : decode (jm_cd mY_Lo_tooSoon) 29 = .ok (.aload_n 0, 1) := by decide +kernel
theorem d_Lo_tooSoon_30 : decode (jm_cd mY_Lo_tooSoon) 30 = .ok (.getfield 18, 3) := by decide +kernel
theorem d_Lo_tooSoon_33 : decode (jm_cd mY_Lo_tooSoon) 33 = .ok (.iload 4, 2) := by decide +kernel
theorem d_Lo_tooSoon_35 : decode (jm_cd mY_Lo_tooSoon) 35 = .ok (.iaload, 1) := by decide +kernel
theorem d_Lo_tooSoon_36 : decode (jm_cd mY_Lo_tooSoon) 36 = .ok (.ifCond .ne 54, 3) := by decide +kernel
theorem d_Lo_tooSoon_39 : decode (jm_cd mY_Lo_tooSoon) 39 = .ok (.aload_n 0, 1) := by decide +kernel
theorem d_Lo_tooSoon_40 : decode (jm_cd mY_Lo_tooSoon) 40 = .ok (.getfield 24, 3) := by decide +kernel
theorem d_Lo_tooSoon_43 : decode (jm_cd mY_Lo_tooSoon) 43 = .ok (.iload 4, 2) := by decide +kernel
theorem d_Lo_tooSoon_45 : decode (jm_cd mY_Lo_tooSoon) 45 = .ok (.iaload, 1) := by decide +kernel
theorem d_Lo_tooSoon_46 : decode (jm_cd mY_Lo_tooSoon) 46 = .ok (.invokestatic 27, 3) := by decide +kernel
theorem d_Lo_tooSoon_49 : decode (jm_cd mY_Lo_tooSoon) 49 = .ok (.ifCond .eq 41, 3) := by decide +kernel
theorem d_Lo_tooSoon_52 : decode (jm_cd mY_Lo_tooSoon) 52 = .ok (.aload_n 1, 1) := by decide +kernel
theorem d_Lo_tooSoon_53 : decode (jm_cd mY_Lo_tooSoon) 53 = .ok (.iload 4, 2) := by decide +kernel
theorem d_Lo_tooSoon_55 : decode (jm_cd mY_Lo_tooSoon) 55 = .ok (.invokevirtual 59, 3) := by decide +kernel
theorem d_Lo_tooSoon_58 : decode (jm_cd mY_Lo_tooSoon) 58 = .ok (.istore 5, 2) := by decide +kernel
theorem d_Lo_tooSoon_60 : decode (jm_cd mY_Lo_tooSoon) 60 = .ok (.iload 5, 2) := by decide +kernel
theorem d_Lo_tooSoon_62 : decode (jm_cd mY_Lo_tooSoon) 62 = .ok (.bipush (-4), 2) := by decide +kernel
theorem d_Lo_tooSoon_64 : decode (jm_cd mY_Lo_tooSoon) 64 = .ok (.if_icmp .eq 19, 3) := by decide +kernel
theorem d_Lo_tooSoon_67 : decode (jm_cd mY_Lo_tooSoon) 67 = .ok (.aload_n 0, 1) := by decide +kernel
theorem d_Lo_tooSoon_68 : decode (jm_cd mY_Lo_tooSoon) 68 = .ok (.getfield 24, 3) := by decide +kernel
theorem d_Lo_tooSoon_71 : decode (jm_cd mY_Lo_tooSoon) 71 = .ok (.iload 4, 2) := by decide +kernel
theorem d_Lo_tooSoon_73 : decode (jm_cd mY_Lo_tooSoon) 73 = .ok (.iaload, 1) := by decide +kernel
theorem d_Lo_tooSoon_74 : decode (jm_cd mY_Lo_tooSoon) 74 = .ok (.iload 5, 2) := by decide +kernel
theorem d_Lo_tooSoon_76 : decode (jm_cd mY_Lo_tooSoon) 76 = .ok (.iload_n 2, 1) := by decide +kernel
theorem d_Lo_tooSoon_77 : decode (jm_cd mY_Lo_tooSoon) 77 = .ok (.iadd, 1) := by decide +kernel
theorem d_Lo_tooSoon_78 : decode (jm_cd mY_Lo_tooSoon) 78 = .ok (.iconst 1, 1) := by decide +kernel
theorem d_Lo_tooSoon_79 : decode (jm_cd mY_Lo_tooSoon) 79 = .ok (.isub, 1) := by decide +kernel
theorem d_Lo_tooSoon_80 : decode (jm_cd mY_Lo_tooSoon) 80 = .ok (.if_icmp .ge 10, 3) := by decide +kernel
theorem d_Lo_tooSoon_83 : decode (jm_cd mY_Lo_tooSoon) 83 = .ok (.iload_n 3, 1) := by decide +kernel
theorem d_Lo_tooSoon_84 : decode (jm_cd mY_Lo_tooSoon) 84 = .ok (.iconst 1, 1) := by decide +kernel
theorem d_Lo_tooSoon_85 : decode (jm_cd mY_Lo_tooSoon) 85 = .ok (.iload 4, 2) := by decide +kernel
theorem d_Lo_tooSoon_87 : decode (jm_cd mY_Lo_tooSoon) 87 = .ok (.ishl, 1) := by decide +kernel
theorem d_Lo_tooSoon_88 : decode (jm_cd mY_Lo_tooSoon) 88 = .ok (.ior, 1) := by decide +kernel
theorem d_Lo_tooSoon_89 : decode (jm_cd mY_Lo_tooSoon) 89 = .ok (.istore_n 3, 1) := by decide +kernel
theorem d_Lo_tooSoon_90 : decode (jm_cd mY_Lo_tooSoon) 90 = .ok (.iinc 4 1, 3) := by decide +kernel
theorem d_Lo_tooSoon_93 : decode (jm_cd mY_Lo_tooSoon) 93 = .ok (.goto (-71), 3) := by decide +kernel
theorem d_Lo_tooSoon_96 : decode (jm_cd mY_Lo_tooSoon) 96 = .ok (.iload_n 3, 1) := by decide +kernel
theorem d_Lo_tooSoon_97 : decode (jm_cd mY_Lo_tooSoon) 97 = .ok (.ireturn, 1) := by decide +kernel
def s_Lo_tooSoon_15_48_L22 : Nat → Int32 → Int32 → Int32 → jm_M → Option (Int32 × jm_M)
  | 0, _, _, _, _ => none
  | n + 1, x2, x3, x4, s => (if 10 ≤ x4 then (some (x3, s)) else jm_ldi s 16 10 x4 (fun v3 => (if v3 = 0 then jm_ldi s 21 10 x4 (fun v4 => jm_bd (s_Lo_isBurning s v4) (fun v5 => (if v5 = 0 then s_Lo_tooSoon_15_48_L22 n x2 x3 (x4 + 1) s else jm_bd (s_Co_burnsFrom s x4) (fun v6 => (if v6 = (-4) then jm_vi (x3 ||| (1 <<< (x4 &&& 31))) (fun v7 => s_Lo_tooSoon_15_48_L22 n x2 v7 (x4 + 1) s) else jm_ldi s 21 10 x4 (fun v8 => (if ((v6 + x2) - 1) ≤ v8 then s_Lo_tooSoon_15_48_L22 n x2 x3 (x4 + 1) s else jm_vi (x3 ||| (1 <<< (x4 &&& 31))) (fun v9 => s_Lo_tooSoon_15_48_L22 n x2 v9 (x4 + 1) s)))))))) else s_Lo_tooSoon_15_48_L22 n x2 x3 (x4 + 1) s)))
set_option maxRecDepth 100000 in
set_option maxHeartbeats 4000000 in
theorem s_Lo_tooSoon_15_48_L22_ok : ∀ (n : Nat) (x2 : Int32) (x3 : Int32) (x4 : Int32) (s : jm_M), jm_Sim mY_Lo_tooSoon 0 0 22 [(0, .ref 15), (1, .ref 48), (2, .int x2), (3, .int x3), (4, .int x4)] [] 78 mr_154 s (s_Lo_tooSoon_15_48_L22 n x2 x3 x4 s) (jm_rP 78 mr_154) := by
  intro n
  induction n with
  | zero => intro x2 x3 x4 s; exact jm_none
  | succ n ih =>
    intro x2 x3 x4 s
    rw [s_Lo_tooSoon_15_48_L22]
    refine jm_iload (pc := 22) (q := 4) (x := x4) d_Lo_tooSoon_22 rfl ?_
    refine jm_bipush (pc := 24) (v := 10) d_Lo_tooSoon_24 cb_10 ?_
    refine jm_icmp_ge (pc := 26) (tgt := 96) d_Lo_tooSoon_26 (by decide) ?_ ?_
    · refine jm_iload_n (pc := 96) (q := 3) (x := x3) d_Lo_tooSoon_96 rfl ?_
      exact jm_iret (pc := 97) (x := x3) d_Lo_tooSoon_97 rfl rfl rfl rfl rfl
    · refine jm_aload_n (pc := 29) (q := 0) (x := 15) d_Lo_tooSoon_29 rfl ?_
      refine jm_gr (pc := 30) (i := 15) d_Lo_tooSoon_30 fo_Lo_18 sh_15 ge_15 le_15_78 rfl (fun _ => rfl) mr_154_15_1 ge_16 ?_
      refine jm_iload (pc := 33) (q := 4) (x := x4) d_Lo_tooSoon_33 rfl ?_
      refine jm_iald (pc := 35) d_Lo_tooSoon_35 sh_16 ge_16 le_16_78 (fun v3 => ?_)
      refine jm_if_ne (pc := 36) (tgt := 90) d_Lo_tooSoon_36 (by decide) ?_ ?_
      · refine jm_aload_n (pc := 39) (q := 0) (x := 15) d_Lo_tooSoon_39 rfl ?_
        refine jm_gr (pc := 40) (i := 15) d_Lo_tooSoon_40 fo_Lo_24 sh_15 ge_15 le_15_78 rfl (fun _ => rfl) mr_154_15_6 ge_21 ?_
        refine jm_iload (pc := 43) (q := 4) (x := x4) d_Lo_tooSoon_43 rfl ?_
        refine jm_iald (pc := 45) d_Lo_tooSoon_45 sh_21 ge_21 le_21_78 (fun v4 => ?_)
        refine jm_Sp (pc := 46) (Y' := mY_Lo_isBurning) (avs := [.int v4]) (rest := []) (s_Lo_isBurning_ok s v4) ok_Lo_isBurning l0_Lo_tooSoon__Lo_isBurning ml_Lo_27 sm_Lo_isBurning d_Lo_tooSoon_46 rfl rfl (Nat.le_of_ble_eq_true rfl) (Nat.le_of_ble_eq_true rfl) (Nat.le_of_ble_eq_true rfl) (Nat.le_of_ble_eq_true rfl) (fun v5 => ?_)
        refine jm_if_eq (pc := 49) (tgt := 90) d_Lo_tooSoon_49 (by decide) ?_ ?_
        · refine jm_iinc (pc := 90) (q := 4) (x := x4) (v := 1) (L2 := [(4, .int (x4 + 1)), (0, .ref 15), (1, .ref 48), (2, .int x2), (3, .int x3)]) d_Lo_tooSoon_90 rfl ci_1 (Nat.le_of_ble_eq_true rfl) rfl ?_
          refine jm_goto (pc := 93) (tgt := 22) d_Lo_tooSoon_93 (by decide) ?_
          refine jm_sub (L2 := [(0, .ref 15), (1, .ref 48), (2, .int x2), (3, .int x3), (4, .int (x4 + 1))]) [1, 2, 3, 4, 0] rfl ?_
          exact ih x2 x3 (x4 + 1) s
        · refine jm_aload_n (pc := 52) (q := 1) (x := 48) d_Lo_tooSoon_52 rfl ?_
          refine jm_iload (pc := 53) (q := 4) (x := x4) d_Lo_tooSoon_53 rfl ?_
          refine jm_Vp (pc := 55) (Y' := mY_Co_burnsFrom) (i := 48) (avs := [.int x4]) (rest := []) (s_Co_burnsFrom_ok s x4) ok_Co_burnsFrom l0_Lo_tooSoon__Co_burnsFrom ml_Lo_59 im_Co_burnsFrom se_Co_burnsFrom d_Lo_tooSoon_55 rfl sh_48 rfl rfl ge_48 le_48_78 rfl (Nat.le_of_ble_eq_true rfl) (Nat.le_of_ble_eq_true rfl) (Nat.le_of_ble_eq_true rfl) (Nat.le_of_ble_eq_true rfl) (fun v6 => ?_)
          refine jm_istore (pc := 58) (L2 := [(5, .int v6), (0, .ref 15), (1, .ref 48), (2, .int x2), (3, .int x3), (4, .int x4)]) d_Lo_tooSoon_58 (Nat.le_of_ble_eq_true rfl) rfl ?_
          refine jm_iload (pc := 60) (q := 0) (x := v6) d_Lo_tooSoon_60 rfl ?_
          refine jm_bipush (pc := 62) (v := (-4)) d_Lo_tooSoon_62 cb_m4 ?_
          refine jm_icmp_eq (pc := 64) (tgt := 83) d_Lo_tooSoon_64 (by decide) ?_ ?_
          · refine jm_iload_n (pc := 83) (q := 4) (x := x3) d_Lo_tooSoon_83 rfl ?_
            refine jm_iconst (pc := 84) (v := 1) d_Lo_tooSoon_84 ci_1 ?_
            refine jm_iload (pc := 85) (q := 5) (x := x4) d_Lo_tooSoon_85 rfl ?_
            refine jm_ishl (pc := 87) d_Lo_tooSoon_87 ?_
            refine jm_ior (pc := 88) d_Lo_tooSoon_88 ?_
            refine jm_nvi (fun v7 => ?_)
            refine jm_istore_n (pc := 89) (i := 3) (L2 := [(3, .int v7), (5, .int v6), (0, .ref 15), (1, .ref 48), (2, .int x2), (4, .int x4)]) d_Lo_tooSoon_89 rfl (Nat.le_of_ble_eq_true rfl) rfl ?_
            refine jm_iinc (pc := 90) (q := 5) (x := x4) (v := 1) (L2 := [(4, .int (x4 + 1)), (3, .int v7), (5, .int v6), (0, .ref 15), (1, .ref 48), (2, .int x2)]) d_Lo_tooSoon_90 rfl ci_1 (Nat.le_of_ble_eq_true rfl) rfl ?_
            refine jm_goto (pc := 93) (tgt := 22) d_Lo_tooSoon_93 (by decide) ?_
            refine jm_sub (L2 := [(0, .ref 15), (1, .ref 48), (2, .int x2), (3, .int v7), (4, .int (x4 + 1))]) [3, 4, 5, 1, 0] rfl ?_
            exact ih x2 v7 (x4 + 1) s
          · refine jm_aload_n (pc := 67) (q := 1) (x := 15) d_Lo_tooSoon_67 rfl ?_
            refine jm_gr (pc := 68) (i := 15) d_Lo_tooSoon_68 fo_Lo_24 sh_15 ge_15 le_15_78 rfl (fun _ => rfl) mr_154_15_6 ge_21 ?_
            refine jm_iload (pc := 71) (q := 5) (x := x4) d_Lo_tooSoon_71 rfl ?_
            refine jm_iald (pc := 73) d_Lo_tooSoon_73 sh_21 ge_21 le_21_78 (fun v8 => ?_)
            refine jm_iload (pc := 74) (q := 0) (x := v6) d_Lo_tooSoon_74 rfl ?_
            refine jm_iload_n (pc := 76) (q := 3) (x := x2) d_Lo_tooSoon_76 rfl ?_
            refine jm_iadd (pc := 77) d_Lo_tooSoon_77 ?_
            refine jm_iconst (pc := 78) (v := 1) d_Lo_tooSoon_78 ci_1 ?_
            refine jm_isub (pc := 79) d_Lo_tooSoon_79 ?_
            refine jm_icmp_ge (pc := 80) (tgt := 90) d_Lo_tooSoon_80 (by decide) ?_ ?_
            · refine jm_iinc (pc := 90) (q := 5) (x := x4) (v := 1) (L2 := [(4, .int (x4 + 1)), (5, .int v6), (0, .ref 15), (1, .ref 48), (2, .int x2), (3, .int x3)]) d_Lo_tooSoon_90 rfl ci_1 (Nat.le_of_ble_eq_true rfl) rfl ?_
              refine jm_goto (pc := 93) (tgt := 22) d_Lo_tooSoon_93 (by decide) ?_
              refine jm_sub (L2 := [(0, .ref 15), (1, .ref 48), (2, .int x2), (3, .int x3), (4, .int (x4 + 1))]) [2, 3, 4, 5, 0] rfl ?_
              exact ih x2 x3 (x4 + 1) s
            · refine jm_iload_n (pc := 83) (q := 4) (x := x3) d_Lo_tooSoon_83 rfl ?_
              refine jm_iconst (pc := 84) (v := 1) d_Lo_tooSoon_84 ci_1 ?_
              refine jm_iload (pc := 85) (q := 5) (x := x4) d_Lo_tooSoon_85 rfl ?_
              refine jm_ishl (pc := 87) d_Lo_tooSoon_87 ?_
              refine jm_ior (pc := 88) d_Lo_tooSoon_88 ?_
              refine jm_nvi (fun v9 => ?_)
              refine jm_istore_n (pc := 89) (i := 3) (L2 := [(3, .int v9), (5, .int v6), (0, .ref 15), (1, .ref 48), (2, .int x2), (4, .int x4)]) d_Lo_tooSoon_89 rfl (Nat.le_of_ble_eq_true rfl) rfl ?_
              refine jm_iinc (pc := 90) (q := 5) (x := x4) (v := 1) (L2 := [(4, .int (x4 + 1)), (3, .int v9), (5, .int v6), (0, .ref 15), (1, .ref 48), (2, .int x2)]) d_Lo_tooSoon_90 rfl ci_1 (Nat.le_of_ble_eq_true rfl) rfl ?_
              refine jm_goto (pc := 93) (tgt := 22) d_Lo_tooSoon_93 (by decide) ?_
              refine jm_sub (L2 := [(0, .ref 15), (1, .ref 48), (2, .int x2), (3, .int v9), (4, .int (x4 + 1))]) [3, 4, 5, 1, 0] rfl ?_
              exact ih x2 v9 (x4 + 1) s
      · refine jm_iinc (pc := 90) (q := 4) (x := x4) (v := 1) (L2 := [(4, .int (x4 + 1)), (0, .ref 15), (1, .ref 48), (2, .int x2), (3, .int x3)]) d_Lo_tooSoon_90 rfl ci_1 (Nat.le_of_ble_eq_true rfl) rfl ?_
        refine jm_goto (pc := 93) (tgt := 22) d_Lo_tooSoon_93 (by decide) ?_
        refine jm_sub (L2 := [(0, .ref 15), (1, .ref 48), (2, .int x2), (3, .int x3), (4, .int (x4 + 1))]) [1, 2, 3, 4, 0] rfl ?_
        exact ih x2 x3 (x4 + 1) s
def s_Lo_tooSoon_15_48 (s : jm_M) : Option (Int32 × jm_M) := jm_bd (s_Lo_earliestHead_15 s) (fun v1 => (if v1 = 60 then (some (0, s)) else jm_bd (s_Co_spreadFromAllHeads s) (fun s2 => s_Lo_tooSoon_15_48_L22 5000 v1 0 0 s2)))
set_option maxRecDepth 100000 in
set_option maxHeartbeats 4000000 in
theorem s_Lo_tooSoon_15_48_ok (s : jm_M) : jm_Sim mY_Lo_tooSoon 0 0 0 [(0, .ref 15), (1, .ref 48)] [] 78 mr_154 s (s_Lo_tooSoon_15_48 s) (jm_rP 78 mr_154) := by
  unfold s_Lo_tooSoon_15_48
  refine jm_aload_n (pc := 0) (q := 0) (x := 15) d_Lo_tooSoon_0 rfl ?_
  refine jm_Sp (pc := 1) (Y' := mY_Lo_earliestHead) (avs := [.ref 15]) (rest := []) (s_Lo_earliestHead_15_ok s) ok_Lo_earliestHead l0_Lo_tooSoon__Lo_earliestHead ml_Lo_50 sm_Lo_earliestHead d_Lo_tooSoon_1 rfl rfl (Nat.le_of_ble_eq_true rfl) (Nat.le_of_ble_eq_true rfl) (Nat.le_of_ble_eq_true rfl) (Nat.le_of_ble_eq_true rfl) (fun v1 => ?_)
  refine jm_istore_n (pc := 4) (i := 2) (L2 := [(2, .int v1), (0, .ref 15), (1, .ref 48)]) d_Lo_tooSoon_4 rfl (Nat.le_of_ble_eq_true rfl) rfl ?_
  refine jm_iload_n (pc := 5) (q := 0) (x := v1) d_Lo_tooSoon_5 rfl ?_
  refine jm_bipush (pc := 6) (v := 60) d_Lo_tooSoon_6 cb_60 ?_
  refine jm_icmp_ne (pc := 8) (tgt := 13) d_Lo_tooSoon_8 (by decide) ?_ ?_
  · refine jm_iconst (pc := 11) (v := 0) d_Lo_tooSoon_11 ci_0 ?_
    exact jm_iret (pc := 12) (x := 0) d_Lo_tooSoon_12 rfl rfl rfl rfl rfl
  · refine jm_aload_n (pc := 13) (q := 2) (x := 48) d_Lo_tooSoon_13 rfl ?_
    refine jm_Vv (pc := 14) (Y' := mY_Co_spreadFromAllHeads) (i := 48) (avs := []) (rest := []) (s_Co_spreadFromAllHeads_ok s) ok_Co_spreadFromAllHeads l0_Lo_tooSoon__Co_spreadFromAllHeads ml_Lo_54 im_Co_spreadFromAllHeads se_Co_spreadFromAllHeads d_Lo_tooSoon_14 rfl sh_48 rfl rfl ge_48 le_48_78 rfl (Nat.le_of_ble_eq_true rfl) (Nat.le_of_ble_eq_true rfl) (Nat.le_of_ble_eq_true rfl) (Nat.le_of_ble_eq_true rfl) (fun s2 => ?_)
    refine jm_iconst (pc := 17) (v := 0) d_Lo_tooSoon_17 ci_0 ?_
    refine jm_istore_n (pc := 18) (i := 3) (L2 := [(3, .int 0), (2, .int v1), (0, .ref 15), (1, .ref 48)]) d_Lo_tooSoon_18 rfl (Nat.le_of_ble_eq_true rfl) rfl ?_
    refine jm_iconst (pc := 19) (v := 0) d_Lo_tooSoon_19 ci_0 ?_
    refine jm_istore (pc := 20) (L2 := [(4, .int 0), (3, .int 0), (2, .int v1), (0, .ref 15), (1, .ref 48)]) d_Lo_tooSoon_20 (Nat.le_of_ble_eq_true rfl) rfl ?_
    refine jm_sub (L2 := [(0, .ref 15), (1, .ref 48), (2, .int v1), (3, .int 0), (4, .int 0)]) [3, 4, 2, 1, 0] rfl ?_
    exact s_Lo_tooSoon_15_48_L22_ok 5000 v1 0 0 s2
theorem d_X_logs_0 : decode (jm_cd mY_X_logs) 0 = .ok (.iload_n 1, 1) := by decide +kernel
theorem d_X_logs_1 : decode (jm_cd mY_X_logs) 1 = .ok (.tableswitch 78 0 3 #[31, 39, 47, 55], 31) := by decide +kernel
theorem d_X_logs_32 : decode (jm_cd mY_X_logs) 32 = .ok (.aload_n 0, 1) := by decide +kernel
theorem d_X_logs_33 : decode (jm_cd mY_X_logs) 33 = .ok (.getfield 31, 3) := by decide +kernel
theorem d_X_logs_36 : decode (jm_cd mY_X_logs) 36 = .ok (.invokestatic 199, 3) := by decide +kernel
theorem d_X_logs_39 : decode (jm_cd mY_X_logs) 39 = .ok (.ireturn, 1) := by decide +kernel
theorem d_X_logs_40 : decode (jm_cd mY_X_logs) 40 = .ok (.aload_n 0, 1) := by decide +kernel
theorem d_X_logs_41 : decode (jm_cd mY_X_logs) 41 = .ok (.getfield 31, 3) := by decide +kernel
theorem d_X_logs_44 : decode (jm_cd mY_X_logs) 44 = .ok (.invokestatic 205, 3) := by decide +kernel
theorem d_X_logs_47 : decode (jm_cd mY_X_logs) 47 = .ok (.ireturn, 1) := by decide +kernel
theorem d_X_logs_48 : decode (jm_cd mY_X_logs) 48 = .ok (.aload_n 0, 1) := by decide +kernel
theorem d_X_logs_49 : decode (jm_cd mY_X_logs) 49 = .ok (.getfield 31, 3) := by decide +kernel
theorem d_X_logs_52 : decode (jm_cd mY_X_logs) 52 = .ok (.invokestatic 208, 3) := by decide +kernel
theorem d_X_logs_55 : decode (jm_cd mY_X_logs) 55 = .ok (.ireturn, 1) := by decide +kernel
theorem d_X_logs_56 : decode (jm_cd mY_X_logs) 56 = .ok (.aload_n 0, 1) := by decide +kernel
theorem d_X_logs_57 : decode (jm_cd mY_X_logs) 57 = .ok (.getfield 57, 3) := by decide +kernel
theorem d_X_logs_60 : decode (jm_cd mY_X_logs) 60 = .ok (.aload_n 0, 1) := by decide +kernel
theorem d_X_logs_61 : decode (jm_cd mY_X_logs) 61 = .ok (.getfield 31, 3) := by decide +kernel
theorem d_X_logs_64 : decode (jm_cd mY_X_logs) 64 = .ok (.invokevirtual 152, 3) := by decide +kernel
theorem d_X_logs_67 : decode (jm_cd mY_X_logs) 67 = .ok (.aload_n 0, 1) := by decide +kernel
theorem d_X_logs_68 : decode (jm_cd mY_X_logs) 68 = .ok (.getfield 31, 3) := by decide +kernel
theorem d_X_logs_71 : decode (jm_cd mY_X_logs) 71 = .ok (.aload_n 0, 1) := by decide +kernel
theorem d_X_logs_72 : decode (jm_cd mY_X_logs) 72 = .ok (.getfield 57, 3) := by decide +kernel
theorem d_X_logs_75 : decode (jm_cd mY_X_logs) 75 = .ok (.invokestatic 211, 3) := by decide +kernel
theorem d_X_logs_78 : decode (jm_cd mY_X_logs) 78 = .ok (.ireturn, 1) := by decide +kernel
theorem d_X_logs_79 : decode (jm_cd mY_X_logs) 79 = .ok (.iconst (-1), 1) := by decide +kernel
theorem d_X_logs_80 : decode (jm_cd mY_X_logs) 80 = .ok (.ireturn, 1) := by decide +kernel
def s_X_logs (s : jm_M) (a0 : Int32) : Option (Int32 × jm_M) := (if a0 = 0 then jm_bd (s_Lo_sureWithoutCause_15 s) (fun v1 => (some (v1, s))) else (if a0 = 1 then jm_bd (s_Lo_maybeWithoutCause_15 s) (fun v2 => (some (v2, s))) else (if a0 = 2 then jm_bd (s_Lo_toBeAsked_15 s) (fun v3 => (some (v3, s))) else (if a0 = 3 then jm_bd (s_Co_study_48_15 s) (fun s4 => jm_b2 (s_Lo_tooSoon_15_48 s4) (fun v5 s6 => (some (v5, s6)))) else (some ((-1), s))))))
set_option maxRecDepth 100000 in
set_option maxHeartbeats 4000000 in
theorem s_X_logs_ok (s : jm_M) (a0 : Int32) : jm_Sim mY_X_logs 0 0 0 [(0, .ref 1), (1, .int a0)] [] 78 mr_154 s (s_X_logs s a0) (jm_rP 78 mr_154) := by
  unfold s_X_logs
  refine jm_iload_n (pc := 0) (q := 1) (x := a0) d_X_logs_0 rfl ?_
  refine jm_case 0 ?_ (fun h0 => ?_)
  · refine jm_tswIn (pc := 1) (tgt := 32) d_X_logs_1 (by decide) (by decide) (off := 31) (by decide) (by decide) ?_
    refine jm_aload_n (pc := 32) (q := 0) (x := 1) d_X_logs_32 rfl ?_
    refine jm_gr (pc := 33) (i := 1) d_X_logs_33 fo_X_31 sh_1 ge_1 le_1_78 rfl (fun _ => rfl) mr_154_1_4 ge_15 ?_
    refine jm_Sp (pc := 36) (Y' := mY_Lo_sureWithoutCause) (avs := [.ref 15]) (rest := []) (s_Lo_sureWithoutCause_15_ok s) ok_Lo_sureWithoutCause l0_X_logs__Lo_sureWithoutCause ml_X_199 sm_Lo_sureWithoutCause d_X_logs_36 rfl rfl (Nat.le_of_ble_eq_true rfl) (Nat.le_of_ble_eq_true rfl) (Nat.le_of_ble_eq_true rfl) (Nat.le_of_ble_eq_true rfl) (fun v1 => ?_)
    exact jm_iret (pc := 39) (x := v1) d_X_logs_39 rfl rfl rfl rfl rfl
  refine jm_case 1 ?_ (fun h1 => ?_)
  · refine jm_tswIn (pc := 1) (tgt := 40) d_X_logs_1 (by decide) (by decide) (off := 39) (by decide) (by decide) ?_
    refine jm_aload_n (pc := 40) (q := 0) (x := 1) d_X_logs_40 rfl ?_
    refine jm_gr (pc := 41) (i := 1) d_X_logs_41 fo_X_31 sh_1 ge_1 le_1_78 rfl (fun _ => rfl) mr_154_1_4 ge_15 ?_
    refine jm_Sp (pc := 44) (Y' := mY_Lo_maybeWithoutCause) (avs := [.ref 15]) (rest := []) (s_Lo_maybeWithoutCause_15_ok s) ok_Lo_maybeWithoutCause l0_X_logs__Lo_maybeWithoutCause ml_X_205 sm_Lo_maybeWithoutCause d_X_logs_44 rfl rfl (Nat.le_of_ble_eq_true rfl) (Nat.le_of_ble_eq_true rfl) (Nat.le_of_ble_eq_true rfl) (Nat.le_of_ble_eq_true rfl) (fun v2 => ?_)
    exact jm_iret (pc := 47) (x := v2) d_X_logs_47 rfl rfl rfl rfl rfl
  refine jm_case 2 ?_ (fun h2 => ?_)
  · refine jm_tswIn (pc := 1) (tgt := 48) d_X_logs_1 (by decide) (by decide) (off := 47) (by decide) (by decide) ?_
    refine jm_aload_n (pc := 48) (q := 0) (x := 1) d_X_logs_48 rfl ?_
    refine jm_gr (pc := 49) (i := 1) d_X_logs_49 fo_X_31 sh_1 ge_1 le_1_78 rfl (fun _ => rfl) mr_154_1_4 ge_15 ?_
    refine jm_Sp (pc := 52) (Y' := mY_Lo_toBeAsked) (avs := [.ref 15]) (rest := []) (s_Lo_toBeAsked_15_ok s) ok_Lo_toBeAsked l0_X_logs__Lo_toBeAsked ml_X_208 sm_Lo_toBeAsked d_X_logs_52 rfl rfl (Nat.le_of_ble_eq_true rfl) (Nat.le_of_ble_eq_true rfl) (Nat.le_of_ble_eq_true rfl) (Nat.le_of_ble_eq_true rfl) (fun v3 => ?_)
    exact jm_iret (pc := 55) (x := v3) d_X_logs_55 rfl rfl rfl rfl rfl
  refine jm_case 3 ?_ (fun h3 => ?_)
  · refine jm_tswIn (pc := 1) (tgt := 56) d_X_logs_1 (by decide) (by decide) (off := 55) (by decide) (by decide) ?_
    refine jm_aload_n (pc := 56) (q := 0) (x := 1) d_X_logs_56 rfl ?_
    refine jm_gr (pc := 57) (i := 1) d_X_logs_57 fo_X_57 sh_1 ge_1 le_1_78 rfl (fun _ => rfl) mr_154_1_10 ge_48 ?_
    refine jm_aload_n (pc := 60) (q := 0) (x := 1) d_X_logs_60 rfl ?_
    refine jm_gr (pc := 61) (i := 1) d_X_logs_61 fo_X_31 sh_1 ge_1 le_1_78 rfl (fun _ => rfl) mr_154_1_4 ge_15 ?_
    refine jm_Vv (pc := 64) (Y' := mY_Co_study) (i := 48) (avs := [.ref 15]) (rest := []) (s_Co_study_48_15_ok s) ok_Co_study l0_X_logs__Co_study ml_X_152 im_Co_study se_Co_study d_X_logs_64 rfl sh_48 rfl rfl ge_48 le_48_78 rfl (Nat.le_of_ble_eq_true rfl) (Nat.le_of_ble_eq_true rfl) (Nat.le_of_ble_eq_true rfl) (Nat.le_of_ble_eq_true rfl) (fun s4 => ?_)
    refine jm_aload_n (pc := 67) (q := 0) (x := 1) d_X_logs_67 rfl ?_
    refine jm_gr (pc := 68) (i := 1) d_X_logs_68 fo_X_31 sh_1 ge_1 le_1_78 rfl (fun _ => rfl) mr_154_1_4 ge_15 ?_
    refine jm_aload_n (pc := 71) (q := 0) (x := 1) d_X_logs_71 rfl ?_
    refine jm_gr (pc := 72) (i := 1) d_X_logs_72 fo_X_57 sh_1 ge_1 le_1_78 rfl (fun _ => rfl) mr_154_1_10 ge_48 ?_
    refine jm_Si (pc := 75) (Y' := mY_Lo_tooSoon) (avs := [.ref 15, .ref 48]) (rest := []) (s_Lo_tooSoon_15_48_ok s4) ok_Lo_tooSoon l0_X_logs__Lo_tooSoon ml_X_211 sm_Lo_tooSoon d_X_logs_75 rfl rfl (Nat.le_of_ble_eq_true rfl) (Nat.le_of_ble_eq_true rfl) (Nat.le_of_ble_eq_true rfl) (Nat.le_of_ble_eq_true rfl) (fun v5 s6 => ?_)
    exact jm_iret (pc := 78) (x := v5) d_X_logs_78 rfl rfl rfl rfl rfl
  refine jm_tswOut (pc := 1) (tgt := 79) d_X_logs_1 (by have e0 := jm_neT 0 h0 (a := 0) (by decide); have e1 := jm_neT 1 h1 (a := 1) (by decide); have e2 := jm_neT 2 h2 (a := 2) (by decide); have e3 := jm_neT 3 h3 (a := 3) (by decide); omega) (by decide) ?_
  refine jm_iconst (pc := 79) (v := (-1)) d_X_logs_79 ci_m1 ?_
  exact jm_iret (pc := 80) (x := (-1)) d_X_logs_80 rfl rfl rfl rfl rfl
theorem d_Z_cause_0 : decode (jm_cd mY_Z_cause) 0 = .ok (.aload_n 0, 1) := by decide +kernel
theorem d_Z_cause_1 : decode (jm_cd mY_Z_cause) 1 = .ok (.getfield 40, 3) := by decide +kernel
theorem d_Z_cause_4 : decode (jm_cd mY_Z_cause) 4 = .ok (.iload_n 1, 1) := by decide +kernel
theorem d_Z_cause_5 : decode (jm_cd mY_Z_cause) 5 = .ok (.iaload, 1) := by decide +kernel
theorem d_Z_cause_6 : decode (jm_cd mY_Z_cause) 6 = .ok (.istore_n 2, 1) := by decide +kernel
theorem d_Z_cause_7 : decode (jm_cd mY_Z_cause) 7 = .ok (.aload_n 0, 1) := by decide +kernel
theorem d_Z_cause_8 : decode (jm_cd mY_Z_cause) 8 = .ok (.getfield 16, 3) := by decide +kernel
theorem d_Z_cause_11 : decode (jm_cd mY_Z_cause) 11 = .ok (.iload_n 1, 1) := by decide +kernel
theorem d_Z_cause_12 : decode (jm_cd mY_Z_cause) 12 = .ok (.iaload, 1) := by decide +kernel
theorem d_Z_cause_13 : decode (jm_cd mY_Z_cause) 13 = .ok (.ifCond .ne 15, 3) := by decide +kernel
theorem d_Z_cause_16 : decode (jm_cd mY_Z_cause) 16 = .ok (.iload_n 2, 1) := by decide +kernel
theorem d_Z_cause_17 : decode (jm_cd mY_Z_cause) 17 = .ok (.i2l, 1) := by decide +kernel
theorem d_Z_cause_18 : decode (jm_cd mY_Z_cause) 18 = .ok (.lconst 0, 1) := by decide +kernel
theorem d_Z_cause_19 : decode (jm_cd mY_Z_cause) 19 = .ok (.ldc2_w 147, 3) := by decide +kernel
theorem d_Z_cause_22 : decode (jm_cd mY_Z_cause) 22 = .ok (.invokestatic 69, 3) := by decide +kernel
theorem d_Z_cause_25 : decode (jm_cd mY_Z_cause) 25 = .ok (.ifCond .ne 5, 3) := by decide +kernel
theorem d_Z_cause_28 : decode (jm_cd mY_Z_cause) 28 = .ok (.iconst 0, 1) := by decide +kernel
theorem d_Z_cause_29 : decode (jm_cd mY_Z_cause) 29 = .ok (.ireturn, 1) := by decide +kernel
theorem d_Z_cause_30 : decode (jm_cd mY_Z_cause) 30 = .ok (.iload_n 2, 1) := by decide +kernel
theorem d_Z_cause_31 : decode (jm_cd mY_Z_cause) 31 = .ok (.aload_n 0, 1) := by decide +kernel
theorem d_Z_cause_32 : decode (jm_cd mY_Z_cause) 32 = .ok (.getfield 25, 3) := by decide +kernel
theorem d_Z_cause_35 : decode (jm_cd mY_Z_cause) 35 = .ok (.iload_n 1, 1) := by decide +kernel
theorem d_Z_cause_36 : decode (jm_cd mY_Z_cause) 36 = .ok (.iaload, 1) := by decide +kernel
theorem d_Z_cause_37 : decode (jm_cd mY_Z_cause) 37 = .ok (.isub, 1) := by decide +kernel
theorem d_Z_cause_38 : decode (jm_cd mY_Z_cause) 38 = .ok (.istore_n 3, 1) := by decide +kernel
theorem d_Z_cause_39 : decode (jm_cd mY_Z_cause) 39 = .ok (.iconst 0, 1) := by decide +kernel
theorem d_Z_cause_40 : decode (jm_cd mY_Z_cause) 40 = .ok (.istore 4, 2) := by decide +kernel
theorem d_Z_cause_42 : decode (jm_cd mY_Z_cause) 42 = .ok (.iconst 0, 1) := by decide +kernel
theorem d_Z_cause_43 : decode (jm_cd mY_Z_cause) 43 = .ok (.istore 5, 2) := by decide +kernel
theorem d_Z_cause_45 : decode (jm_cd mY_Z_cause) 45 = .ok (.iconst 0, 1) := by decide +kernel
theorem d_Z_cause_46 : decode (jm_cd mY_Z_cause) 46 = .ok (.istore 6, 2) := by decide +kernel
theorem d_Z_cause_48 : decode (jm_cd mY_Z_cause) 48 = .ok (.iload 6, 2) := by decide +kernel
theorem d_Z_cause_50 : decode (jm_cd mY_Z_cause) 50 = .ok (.aload_n 0, 1) := by decide +kernel
theorem d_Z_cause_51 : decode (jm_cd mY_Z_cause) 51 = .ok (.getfield 13, 3) := by decide +kernel
theorem d_Z_cause_54 : decode (jm_cd mY_Z_cause) 54 = .ok (.iconst 0, 1) := by decide +kernel
theorem d_Z_cause_55 : decode (jm_cd mY_Z_cause) 55 = .ok (.iaload, 1) := by decide +kernel
theorem d_Z_cause_56 : decode (jm_cd mY_Z_cause) 56 = .ok (.if_icmp .ge 85, 3) := by decide +kernel
theorem d_Z_cause_59 : decode (jm_cd mY_Z_cause) 59 = .ok (.aload_n 0, 1) := by decide +kernel
theorem d_Z_cause_60 : decode (jm_cd mY_Z_cause) 60 = .ok (.getfield 19, 3) := by decide +kernel
theorem d_Z_cause_63 : decode (jm_cd mY_Z_cause) 63 = .ok (.iload_n 1, 1) := by decide +kernel
theorem d_Z_cause_64 : decode (jm_cd mY_Z_cause) 64 = .ok (.iaload, 1) := by decide +kernel
theorem d_Z_cause_65 : decode (jm_cd mY_Z_cause) 65 = .ok (.iload 6, 2) := by decide +kernel
theorem d_Z_cause_67 : decode (jm_cd mY_Z_cause) 67 = .ok (.invokestatic 99, 3) := by decide +kernel
theorem d_Z_cause_70 : decode (jm_cd mY_Z_cause) 70 = .ok (.ifCond .eq 65, 3) := by decide +kernel
theorem d_Z_cause_73 : decode (jm_cd mY_Z_cause) 73 = .ok (.aload_n 0, 1) := by decide +kernel
theorem d_Z_cause_74 : decode (jm_cd mY_Z_cause) 74 = .ok (.getfield 16, 3) := by decide +kernel
theorem d_Z_cause_77 : decode (jm_cd mY_Z_cause) 77 = .ok (.iload 6, 2) := by decide +kernel
theorem d_Z_cause_79 : decode (jm_cd mY_Z_cause) 79 = .ok (.iaload, 1) := by decide +kernel
theorem d_Z_cause_80 : decode (jm_cd mY_Z_cause) 80 = .ok (.iconst 2, 1) := by decide +kernel
theorem d_Z_cause_81 : decode (jm_cd mY_Z_cause) 81 = .ok (.if_icmp .ge 54, 3) := by decide +kernel
theorem d_Z_cause_84 : decode (jm_cd mY_Z_cause) 84 = .ok (.iload_n 3, 1) := by decide +kernel
theorem d_Z_cause_85 : decode (jm_cd mY_Z_cause) 85 = .ok (.ifCond .lt 50, 3) := by decide +kernel
theorem d_Z_cause_88 : decode (jm_cd mY_Z_cause) 88 = .ok (.iload 4, 2) := by decide +kernel
theorem d_Z_cause_90 : decode (jm_cd mY_Z_cause) 90 = .ok (.aload_n 0, 1) := by decide +kernel
theorem d_Z_cause_91 : decode (jm_cd mY_Z_cause) 91 = .ok (.getfield 40, 3) := by decide +kernel
theorem d_Z_cause_94 : decode (jm_cd mY_Z_cause) 94 = .ok (.iload 6, 2) := by decide +kernel
theorem d_Z_cause_96 : decode (jm_cd mY_Z_cause) 96 = .ok (.iaload, 1) := by decide +kernel
theorem d_Z_cause_97 : decode (jm_cd mY_Z_cause) 97 = .ok (.i2l, 1) := by decide +kernel
theorem d_Z_cause_98 : decode (jm_cd mY_Z_cause) 98 = .ok (.lconst 0, 1) := by decide +kernel
theorem d_Z_cause_99 : decode (jm_cd mY_Z_cause) 99 = .ok (.iload_n 3, 1) := by decide +kernel
theorem d_Z_cause_100 : decode (jm_cd mY_Z_cause) 100 = .ok (.i2l, 1) := by decide +kernel
theorem d_Z_cause_101 : decode (jm_cd mY_Z_cause) 101 = .ok (.invokestatic 69, 3) := by decide +kernel
theorem d_Z_cause_104 : decode (jm_cd mY_Z_cause) 104 = .ok (.ifCond .eq 7, 3) := by decide +kernel
theorem d_Z_cause_107 : decode (jm_cd mY_Z_cause) 107 = .ok (.iconst 1, 1) := by decide +kernel
theorem d_Z_cause_108 : decode (jm_cd mY_Z_cause) 108 = .ok (.goto 4, 3) := by decide +kernel
theorem d_Z_cause_111 : decode (jm_cd mY_Z_cause) 111 = .ok (.iconst 0, 1) := by decide +kernel
theorem d_Z_cause_112 : decode (jm_cd mY_Z_cause) 112 = .ok (.iadd, 1) := by decide +kernel
theorem d_Z_cause_113 : decode (jm_cd mY_Z_cause) 113 = .ok (.istore 4, 2) := by decide +kernel
theorem d_Z_cause_115 : decode (jm_cd mY_Z_cause) 115 = .ok (.iload 5, 2) := by decide +kernel
theorem d_Z_cause_117 : decode (jm_cd mY_Z_cause) 117 = .ok (.aload_n 0, 1) := by decide +kernel
theorem d_Z_cause_118 : decode (jm_cd mY_Z_cause) 118 = .ok (.getfield 40, 3) := by decide +kernel
theorem d_Z_cause_121 : decode (jm_cd mY_Z_cause) 121 = .ok (.iload 6, 2) := by decide +kernel
theorem d_Z_cause_123 : decode (jm_cd mY_Z_cause) 123 = .ok (.iaload, 1) := by decide +kernel
theorem d_Z_cause_124 : decode (jm_cd mY_Z_cause) 124 = .ok (.ifCond .ge 7, 3) := by decide +kernel
theorem d_Z_cause_127 : decode (jm_cd mY_Z_cause) 127 = .ok (.iconst 1, 1) := by decide +kernel
theorem d_Z_cause_128 : decode (jm_cd mY_Z_cause) 128 = .ok (.goto 4, 3) := by decide +kernel
theorem d_Z_cause_131 : decode (jm_cd mY_Z_cause) 131 = .ok (.iconst 0, 1) := by decide +kernel
theorem d_Z_cause_132 : decode (jm_cd mY_Z_cause) 132 = .ok (.iadd, 1) := by decide +kernel
theorem d_Z_cause_133 : decode (jm_cd mY_Z_cause) 133 = .ok (.istore 5, 2) := by decide +kernel
theorem d_Z_cause_135 : decode (jm_cd mY_Z_cause) 135 = .ok (.iinc 6 1, 3) := by decide +kernel
theorem d_Z_cause_138 : decode (jm_cd mY_Z_cause) 138 = .ok (.goto (-90), 3) := by decide +kernel
theorem d_Z_cause_141 : decode (jm_cd mY_Z_cause) 141 = .ok (.iload 4, 2) := by decide +kernel
theorem d_Z_cause_143 : decode (jm_cd mY_Z_cause) 143 = .ok (.aload_n 0, 1) := by decide +kernel
theorem d_Z_cause_144 : decode (jm_cd mY_Z_cause) 144 = .ok (.getfield 22, 3) := by decide +kernel
theorem d_Z_cause_147 : decode (jm_cd mY_Z_cause) 147 = .ok (.iload_n 1, 1) := by decide +kernel
theorem d_Z_cause_148 : decode (jm_cd mY_Z_cause) 148 = .ok (.iaload, 1) := by decide +kernel
theorem d_Z_cause_149 : decode (jm_cd mY_Z_cause) 149 = .ok (.if_icmp .lt 7, 3) := by decide +kernel
theorem d_Z_cause_152 : decode (jm_cd mY_Z_cause) 152 = .ok (.iconst 0, 1) := by decide +kernel
theorem d_Z_cause_153 : decode (jm_cd mY_Z_cause) 153 = .ok (.goto 22, 3) := by decide +kernel
theorem d_Z_cause_156 : decode (jm_cd mY_Z_cause) 156 = .ok (.iload 4, 2) := by decide +kernel
theorem d_Z_cause_158 : decode (jm_cd mY_Z_cause) 158 = .ok (.iload 5, 2) := by decide +kernel
theorem d_Z_cause_160 : decode (jm_cd mY_Z_cause) 160 = .ok (.iadd, 1) := by decide +kernel
theorem d_Z_cause_161 : decode (jm_cd mY_Z_cause) 161 = .ok (.aload_n 0, 1) := by decide +kernel
theorem d_Z_cause_162 : decode (jm_cd mY_Z_cause) 162 = .ok (.getfield 22, 3) := by decide +kernel
theorem d_Z_cause_165 : decode (jm_cd mY_Z_cause) 165 = .ok (.iload_n 1, 1) := by decide +kernel
theorem d_Z_cause_166 : decode (jm_cd mY_Z_cause) 166 = .ok (.iaload, 1) := by decide +kernel
theorem d_Z_cause_167 : decode (jm_cd mY_Z_cause) 167 = .ok (.if_icmp .lt 7, 3) := by decide +kernel
theorem d_Z_cause_170 : decode (jm_cd mY_Z_cause) 170 = .ok (.iconst 1, 1) := by decide +kernel
theorem d_Z_cause_171 : decode (jm_cd mY_Z_cause) 171 = .ok (.goto 4, 3) := by decide +kernel
theorem d_Z_cause_174 : decode (jm_cd mY_Z_cause) 174 = .ok (.iconst 2, 1) := by decide +kernel
theorem d_Z_cause_175 : decode (jm_cd mY_Z_cause) 175 = .ok (.ireturn, 1) := by decide +kernel
def s_Z_cause_J112 (s : jm_M) (k31 : Int32 → Int32 → Int32 → Int32 → Int32 → Option Int32) (x1 : Int32) (x3 : Int32) (x5 : Int32) (x6 : Int32) (y0 : Int32) (y1 : Int32) : Option Int32 := jm_vi (y1 + y0) (fun v14 => jm_ldi s 70 30 x6 (fun v15 => (if 0 ≤ v15 then jm_vi (x5 + 0) (fun v16 => k31 x1 x3 v14 v16 (x6 + 1)) else jm_vi (x5 + 1) (fun v17 => k31 x1 x3 v14 v17 (x6 + 1)))))
set_option maxRecDepth 100000 in
set_option maxHeartbeats 4000000 in
theorem s_Z_cause_J112_ok (s : jm_M) {k31 : Int32 → Int32 → Int32 → Int32 → Int32 → Option Int32} (hk31 : ∀ (x1 : Int32) (x3 : Int32) (x4 : Int32) (x5 : Int32) (x6 : Int32), jm_Sim mY_Z_cause 0 0 48 [(0, .ref 59), (1, .int x1), (3, .int x3), (4, .int x4), (5, .int x5), (6, .int x6)] [] 78 mr_154 s (k31 x1 x3 x4 x5 x6) (jm_rI 78 mr_154 s)) (x1 : Int32) (x3 : Int32) (x5 : Int32) (x6 : Int32) (y0 : Int32) (y1 : Int32) : jm_Sim mY_Z_cause 0 0 112 [(0, .ref 59), (1, .int x1), (3, .int x3), (5, .int x5), (6, .int x6)] [.int y0, .int y1] 78 mr_154 s (s_Z_cause_J112 s k31 x1 x3 x5 x6 y0 y1) (jm_rI 78 mr_154 s) := by
  unfold s_Z_cause_J112
  refine jm_iadd (pc := 112) d_Z_cause_112 ?_
  refine jm_nvi (fun v14 => ?_)
  refine jm_istore (pc := 113) (L2 := [(4, .int v14), (0, .ref 59), (1, .int x1), (3, .int x3), (5, .int x5), (6, .int x6)]) d_Z_cause_113 (Nat.le_of_ble_eq_true rfl) rfl ?_
  refine jm_iload (pc := 115) (q := 4) (x := x5) d_Z_cause_115 rfl ?_
  refine jm_aload_n (pc := 117) (q := 1) (x := 59) d_Z_cause_117 rfl ?_
  refine jm_gr (pc := 118) (i := 59) d_Z_cause_118 fo_Z_40 sh_59 ge_59 le_59_78 rfl (fun _ => rfl) mr_154_59_11 ge_70 ?_
  refine jm_iload (pc := 121) (q := 5) (x := x6) d_Z_cause_121 rfl ?_
  refine jm_iald (pc := 123) d_Z_cause_123 sh_70 ge_70 le_70_78 (fun v15 => ?_)
  refine jm_if_ge (pc := 124) (tgt := 131) d_Z_cause_124 (by decide) ?_ ?_
  · refine jm_iconst (pc := 131) (v := 0) d_Z_cause_131 ci_0 ?_
    refine jm_iadd (pc := 132) d_Z_cause_132 ?_
    refine jm_nvi (fun v16 => ?_)
    refine jm_istore (pc := 133) (L2 := [(5, .int v16), (4, .int v14), (0, .ref 59), (1, .int x1), (3, .int x3), (6, .int x6)]) d_Z_cause_133 (Nat.le_of_ble_eq_true rfl) rfl ?_
    refine jm_iinc (pc := 135) (q := 5) (x := x6) (v := 1) (L2 := [(6, .int (x6 + 1)), (5, .int v16), (4, .int v14), (0, .ref 59), (1, .int x1), (3, .int x3)]) d_Z_cause_135 rfl ci_1 (Nat.le_of_ble_eq_true rfl) rfl ?_
    refine jm_goto (pc := 138) (tgt := 48) d_Z_cause_138 (by decide) ?_
    refine jm_sub (L2 := [(0, .ref 59), (1, .int x1), (3, .int x3), (4, .int v14), (5, .int v16), (6, .int (x6 + 1))]) [3, 4, 5, 2, 1, 0] rfl ?_
    exact hk31 x1 x3 v14 v16 (x6 + 1)
  · refine jm_iconst (pc := 127) (v := 1) d_Z_cause_127 ci_1 ?_
    refine jm_goto (pc := 128) (tgt := 132) d_Z_cause_128 (by decide) ?_
    refine jm_iadd (pc := 132) d_Z_cause_132 ?_
    refine jm_nvi (fun v17 => ?_)
    refine jm_istore (pc := 133) (L2 := [(5, .int v17), (4, .int v14), (0, .ref 59), (1, .int x1), (3, .int x3), (6, .int x6)]) d_Z_cause_133 (Nat.le_of_ble_eq_true rfl) rfl ?_
    refine jm_iinc (pc := 135) (q := 5) (x := x6) (v := 1) (L2 := [(6, .int (x6 + 1)), (5, .int v17), (4, .int v14), (0, .ref 59), (1, .int x1), (3, .int x3)]) d_Z_cause_135 rfl ci_1 (Nat.le_of_ble_eq_true rfl) rfl ?_
    refine jm_goto (pc := 138) (tgt := 48) d_Z_cause_138 (by decide) ?_
    refine jm_sub (L2 := [(0, .ref 59), (1, .int x1), (3, .int x3), (4, .int v14), (5, .int v17), (6, .int (x6 + 1))]) [3, 4, 5, 2, 1, 0] rfl ?_
    exact hk31 x1 x3 v14 v17 (x6 + 1)
def s_Z_cause_L48 (s : jm_M) : Nat → Int32 → Int32 → Int32 → Int32 → Int32 → Option Int32
  | 0, _, _, _, _, _ => none
  | n + 1, x1, x3, x4, x5, x6 => jm_ldi s 61 4 0 (fun v6 => (if v6 ≤ x6 then jm_ldi s 64 40 x1 (fun v7 => (if x4 < v7 then jm_ldi s 64 40 x1 (fun v8 => (if (x4 + x5) < v8 then (some 2) else (some 1))) else (some 0))) else jm_ldi s 63 40 x1 (fun v9 => jm_bd (s_Z_has s v9 x6) (fun v10 => (if v10 = 0 then s_Z_cause_L48 s n x1 x3 x4 x5 (x6 + 1) else jm_ldi s 62 40 x6 (fun v11 => (if 2 ≤ v11 then s_Z_cause_L48 s n x1 x3 x4 x5 (x6 + 1) else (if x3 < 0 then s_Z_cause_L48 s n x1 x3 x4 x5 (x6 + 1) else jm_ldi s 70 30 x6 (fun v12 => jm_bd (s_Z_in s v12.toInt64 0 x3.toInt64) (fun v13 => (if v13 = 0 then s_Z_cause_J112 s (s_Z_cause_L48 s n) x1 x3 x5 x6 0 x4 else s_Z_cause_J112 s (s_Z_cause_L48 s n) x1 x3 x5 x6 1 x4)))))))))))
set_option maxRecDepth 100000 in
set_option maxHeartbeats 4000000 in
theorem s_Z_cause_L48_ok (s : jm_M) : ∀ (n : Nat) (x1 : Int32) (x3 : Int32) (x4 : Int32) (x5 : Int32) (x6 : Int32), jm_Sim mY_Z_cause 0 0 48 [(0, .ref 59), (1, .int x1), (3, .int x3), (4, .int x4), (5, .int x5), (6, .int x6)] [] 78 mr_154 s (s_Z_cause_L48 s n x1 x3 x4 x5 x6) (jm_rI 78 mr_154 s) := by
  intro n
  induction n with
  | zero => intro x1 x3 x4 x5 x6; exact jm_none
  | succ n ih =>
    intro x1 x3 x4 x5 x6
    rw [s_Z_cause_L48]
    refine jm_iload (pc := 48) (q := 5) (x := x6) d_Z_cause_48 rfl ?_
    refine jm_aload_n (pc := 50) (q := 0) (x := 59) d_Z_cause_50 rfl ?_
    refine jm_gr (pc := 51) (i := 59) d_Z_cause_51 fo_Z_13 sh_59 ge_59 le_59_78 rfl (fun _ => rfl) mr_154_59_2 ge_61 ?_
    refine jm_iconst (pc := 54) (v := 0) d_Z_cause_54 ci_0 ?_
    refine jm_iald (pc := 55) d_Z_cause_55 sh_61 ge_61 le_61_78 (fun v6 => ?_)
    refine jm_icmp_ge (pc := 56) (tgt := 141) d_Z_cause_56 (by decide) ?_ ?_
    · refine jm_iload (pc := 141) (q := 3) (x := x4) d_Z_cause_141 rfl ?_
      refine jm_aload_n (pc := 143) (q := 0) (x := 59) d_Z_cause_143 rfl ?_
      refine jm_gr (pc := 144) (i := 59) d_Z_cause_144 fo_Z_22 sh_59 ge_59 le_59_78 rfl (fun _ => rfl) mr_154_59_5 ge_64 ?_
      refine jm_iload_n (pc := 147) (q := 1) (x := x1) d_Z_cause_147 rfl ?_
      refine jm_iald (pc := 148) d_Z_cause_148 sh_64 ge_64 le_64_78 (fun v7 => ?_)
      refine jm_icmp_lt (pc := 149) (tgt := 156) d_Z_cause_149 (by decide) ?_ ?_
      · refine jm_iload (pc := 156) (q := 3) (x := x4) d_Z_cause_156 rfl ?_
        refine jm_iload (pc := 158) (q := 4) (x := x5) d_Z_cause_158 rfl ?_
        refine jm_iadd (pc := 160) d_Z_cause_160 ?_
        refine jm_aload_n (pc := 161) (q := 0) (x := 59) d_Z_cause_161 rfl ?_
        refine jm_gr (pc := 162) (i := 59) d_Z_cause_162 fo_Z_22 sh_59 ge_59 le_59_78 rfl (fun _ => rfl) mr_154_59_5 ge_64 ?_
        refine jm_iload_n (pc := 165) (q := 1) (x := x1) d_Z_cause_165 rfl ?_
        refine jm_iald (pc := 166) d_Z_cause_166 sh_64 ge_64 le_64_78 (fun v8 => ?_)
        refine jm_icmp_lt (pc := 167) (tgt := 174) d_Z_cause_167 (by decide) ?_ ?_
        · refine jm_iconst (pc := 174) (v := 2) d_Z_cause_174 ci_2 ?_
          exact jm_iret (pc := 175) (x := 2) d_Z_cause_175 rfl rfl rfl rfl rfl
        · refine jm_iconst (pc := 170) (v := 1) d_Z_cause_170 ci_1 ?_
          refine jm_goto (pc := 171) (tgt := 175) d_Z_cause_171 (by decide) ?_
          exact jm_iret (pc := 175) (x := 1) d_Z_cause_175 rfl rfl rfl rfl rfl
      · refine jm_iconst (pc := 152) (v := 0) d_Z_cause_152 ci_0 ?_
        refine jm_goto (pc := 153) (tgt := 175) d_Z_cause_153 (by decide) ?_
        exact jm_iret (pc := 175) (x := 0) d_Z_cause_175 rfl rfl rfl rfl rfl
    · refine jm_aload_n (pc := 59) (q := 0) (x := 59) d_Z_cause_59 rfl ?_
      refine jm_gr (pc := 60) (i := 59) d_Z_cause_60 fo_Z_19 sh_59 ge_59 le_59_78 rfl (fun _ => rfl) mr_154_59_4 ge_63 ?_
      refine jm_iload_n (pc := 63) (q := 1) (x := x1) d_Z_cause_63 rfl ?_
      refine jm_iald (pc := 64) d_Z_cause_64 sh_63 ge_63 le_63_78 (fun v9 => ?_)
      refine jm_iload (pc := 65) (q := 5) (x := x6) d_Z_cause_65 rfl ?_
      refine jm_Sp (pc := 67) (Y' := mY_Z_has) (avs := [.int v9, .int x6]) (rest := []) (s_Z_has_ok s v9 x6) ok_Z_has l0_Z_cause__Z_has ml_Z_99 sm_Z_has d_Z_cause_67 rfl rfl (Nat.le_of_ble_eq_true rfl) (Nat.le_of_ble_eq_true rfl) (Nat.le_of_ble_eq_true rfl) (Nat.le_of_ble_eq_true rfl) (fun v10 => ?_)
      refine jm_if_eq (pc := 70) (tgt := 135) d_Z_cause_70 (by decide) ?_ ?_
      · refine jm_iinc (pc := 135) (q := 5) (x := x6) (v := 1) (L2 := [(6, .int (x6 + 1)), (0, .ref 59), (1, .int x1), (3, .int x3), (4, .int x4), (5, .int x5)]) d_Z_cause_135 rfl ci_1 (Nat.le_of_ble_eq_true rfl) rfl ?_
        refine jm_goto (pc := 138) (tgt := 48) d_Z_cause_138 (by decide) ?_
        refine jm_sub (L2 := [(0, .ref 59), (1, .int x1), (3, .int x3), (4, .int x4), (5, .int x5), (6, .int (x6 + 1))]) [1, 2, 3, 4, 5, 0] rfl ?_
        exact ih x1 x3 x4 x5 (x6 + 1)
      · refine jm_aload_n (pc := 73) (q := 0) (x := 59) d_Z_cause_73 rfl ?_
        refine jm_gr (pc := 74) (i := 59) d_Z_cause_74 fo_Z_16 sh_59 ge_59 le_59_78 rfl (fun _ => rfl) mr_154_59_3 ge_62 ?_
        refine jm_iload (pc := 77) (q := 5) (x := x6) d_Z_cause_77 rfl ?_
        refine jm_iald (pc := 79) d_Z_cause_79 sh_62 ge_62 le_62_78 (fun v11 => ?_)
        refine jm_iconst (pc := 80) (v := 2) d_Z_cause_80 ci_2 ?_
        refine jm_icmp_ge (pc := 81) (tgt := 135) d_Z_cause_81 (by decide) ?_ ?_
        · refine jm_iinc (pc := 135) (q := 5) (x := x6) (v := 1) (L2 := [(6, .int (x6 + 1)), (0, .ref 59), (1, .int x1), (3, .int x3), (4, .int x4), (5, .int x5)]) d_Z_cause_135 rfl ci_1 (Nat.le_of_ble_eq_true rfl) rfl ?_
          refine jm_goto (pc := 138) (tgt := 48) d_Z_cause_138 (by decide) ?_
          refine jm_sub (L2 := [(0, .ref 59), (1, .int x1), (3, .int x3), (4, .int x4), (5, .int x5), (6, .int (x6 + 1))]) [1, 2, 3, 4, 5, 0] rfl ?_
          exact ih x1 x3 x4 x5 (x6 + 1)
        · refine jm_iload_n (pc := 84) (q := 2) (x := x3) d_Z_cause_84 rfl ?_
          refine jm_if_lt (pc := 85) (tgt := 135) d_Z_cause_85 (by decide) ?_ ?_
          · refine jm_iinc (pc := 135) (q := 5) (x := x6) (v := 1) (L2 := [(6, .int (x6 + 1)), (0, .ref 59), (1, .int x1), (3, .int x3), (4, .int x4), (5, .int x5)]) d_Z_cause_135 rfl ci_1 (Nat.le_of_ble_eq_true rfl) rfl ?_
            refine jm_goto (pc := 138) (tgt := 48) d_Z_cause_138 (by decide) ?_
            refine jm_sub (L2 := [(0, .ref 59), (1, .int x1), (3, .int x3), (4, .int x4), (5, .int x5), (6, .int (x6 + 1))]) [1, 2, 3, 4, 5, 0] rfl ?_
            exact ih x1 x3 x4 x5 (x6 + 1)
          · refine jm_iload (pc := 88) (q := 3) (x := x4) d_Z_cause_88 rfl ?_
            refine jm_aload_n (pc := 90) (q := 0) (x := 59) d_Z_cause_90 rfl ?_
            refine jm_gr (pc := 91) (i := 59) d_Z_cause_91 fo_Z_40 sh_59 ge_59 le_59_78 rfl (fun _ => rfl) mr_154_59_11 ge_70 ?_
            refine jm_iload (pc := 94) (q := 5) (x := x6) d_Z_cause_94 rfl ?_
            refine jm_iald (pc := 96) d_Z_cause_96 sh_70 ge_70 le_70_78 (fun v12 => ?_)
            refine jm_i2l (pc := 97) d_Z_cause_97 ?_
            refine jm_lconst (pc := 98) (v := 0) d_Z_cause_98 cl_0 ?_
            refine jm_iload_n (pc := 99) (q := 2) (x := x3) d_Z_cause_99 rfl ?_
            refine jm_i2l (pc := 100) d_Z_cause_100 ?_
            refine jm_Sp (pc := 101) (Y' := mY_Z_in) (avs := [.long v12.toInt64, .long 0, .long x3.toInt64]) (rest := [.int x4]) (s_Z_in_ok s v12.toInt64 0 x3.toInt64) ok_Z_in l0_Z_cause__Z_in ml_Z_69 sm_Z_in d_Z_cause_101 rfl rfl (Nat.le_of_ble_eq_true rfl) (Nat.le_of_ble_eq_true rfl) (Nat.le_of_ble_eq_true rfl) (Nat.le_of_ble_eq_true rfl) (fun v13 => ?_)
            refine jm_if_eq (pc := 104) (tgt := 111) d_Z_cause_104 (by decide) ?_ ?_
            · refine jm_iconst (pc := 111) (v := 0) d_Z_cause_111 ci_0 ?_
              refine jm_sub (L2 := [(0, .ref 59), (1, .int x1), (3, .int x3), (5, .int x5), (6, .int x6)]) [0, 1, 2, 4, 5] rfl ?_
              exact s_Z_cause_J112_ok s ih x1 x3 x5 x6 0 x4
            · refine jm_iconst (pc := 107) (v := 1) d_Z_cause_107 ci_1 ?_
              refine jm_goto (pc := 108) (tgt := 112) d_Z_cause_108 (by decide) ?_
              refine jm_sub (L2 := [(0, .ref 59), (1, .int x1), (3, .int x3), (5, .int x5), (6, .int x6)]) [0, 1, 2, 4, 5] rfl ?_
              exact s_Z_cause_J112_ok s ih x1 x3 x5 x6 1 x4
def s_Z_cause (s : jm_M) (a0 : Int32) : Option Int32 := jm_ldi s 70 30 a0 (fun v1 => jm_ldi s 62 40 a0 (fun v2 => (if v2 = 0 then jm_bd (s_Z_in s v1.toInt64 0 59) (fun v3 => (if v3 = 0 then (some 0) else jm_ldi s 65 40 a0 (fun v4 => jm_vi (v1 - v4) (fun v5 => s_Z_cause_L48 s 5000 a0 v5 0 0 0)))) else (some 0))))
set_option maxRecDepth 100000 in
set_option maxHeartbeats 4000000 in
theorem s_Z_cause_ok (s : jm_M) (a0 : Int32) : jm_Sim mY_Z_cause 0 0 0 [(0, .ref 59), (1, .int a0)] [] 78 mr_154 s (s_Z_cause s a0) (jm_rI 78 mr_154 s) := by
  unfold s_Z_cause
  refine jm_aload_n (pc := 0) (q := 0) (x := 59) d_Z_cause_0 rfl ?_
  refine jm_gr (pc := 1) (i := 59) d_Z_cause_1 fo_Z_40 sh_59 ge_59 le_59_78 rfl (fun _ => rfl) mr_154_59_11 ge_70 ?_
  refine jm_iload_n (pc := 4) (q := 1) (x := a0) d_Z_cause_4 rfl ?_
  refine jm_iald (pc := 5) d_Z_cause_5 sh_70 ge_70 le_70_78 (fun v1 => ?_)
  refine jm_istore_n (pc := 6) (i := 2) (L2 := [(2, .int v1), (0, .ref 59), (1, .int a0)]) d_Z_cause_6 rfl (Nat.le_of_ble_eq_true rfl) rfl ?_
  refine jm_aload_n (pc := 7) (q := 1) (x := 59) d_Z_cause_7 rfl ?_
  refine jm_gr (pc := 8) (i := 59) d_Z_cause_8 fo_Z_16 sh_59 ge_59 le_59_78 rfl (fun _ => rfl) mr_154_59_3 ge_62 ?_
  refine jm_iload_n (pc := 11) (q := 2) (x := a0) d_Z_cause_11 rfl ?_
  refine jm_iald (pc := 12) d_Z_cause_12 sh_62 ge_62 le_62_78 (fun v2 => ?_)
  refine jm_if_ne (pc := 13) (tgt := 28) d_Z_cause_13 (by decide) ?_ ?_
  · refine jm_iload_n (pc := 16) (q := 0) (x := v1) d_Z_cause_16 rfl ?_
    refine jm_i2l (pc := 17) d_Z_cause_17 ?_
    refine jm_lconst (pc := 18) (v := 0) d_Z_cause_18 cl_0 ?_
    refine jm_ldc2 (pc := 19) (v := 59) d_Z_cause_19 kl_Z_147 ?_
    refine jm_Sp (pc := 22) (Y' := mY_Z_in) (avs := [.long v1.toInt64, .long 0, .long 59]) (rest := []) (s_Z_in_ok s v1.toInt64 0 59) ok_Z_in l0_Z_cause__Z_in ml_Z_69 sm_Z_in d_Z_cause_22 rfl rfl (Nat.le_of_ble_eq_true rfl) (Nat.le_of_ble_eq_true rfl) (Nat.le_of_ble_eq_true rfl) (Nat.le_of_ble_eq_true rfl) (fun v3 => ?_)
    refine jm_if_ne (pc := 25) (tgt := 30) d_Z_cause_25 (by decide) ?_ ?_
    · refine jm_iconst (pc := 28) (v := 0) d_Z_cause_28 ci_0 ?_
      exact jm_iret (pc := 29) (x := 0) d_Z_cause_29 rfl rfl rfl rfl rfl
    · refine jm_iload_n (pc := 30) (q := 0) (x := v1) d_Z_cause_30 rfl ?_
      refine jm_aload_n (pc := 31) (q := 1) (x := 59) d_Z_cause_31 rfl ?_
      refine jm_gr (pc := 32) (i := 59) d_Z_cause_32 fo_Z_25 sh_59 ge_59 le_59_78 rfl (fun _ => rfl) mr_154_59_6 ge_65 ?_
      refine jm_iload_n (pc := 35) (q := 2) (x := a0) d_Z_cause_35 rfl ?_
      refine jm_iald (pc := 36) d_Z_cause_36 sh_65 ge_65 le_65_78 (fun v4 => ?_)
      refine jm_isub (pc := 37) d_Z_cause_37 ?_
      refine jm_nvi (fun v5 => ?_)
      refine jm_istore_n (pc := 38) (i := 3) (L2 := [(3, .int v5), (2, .int v1), (0, .ref 59), (1, .int a0)]) d_Z_cause_38 rfl (Nat.le_of_ble_eq_true rfl) rfl ?_
      refine jm_iconst (pc := 39) (v := 0) d_Z_cause_39 ci_0 ?_
      refine jm_istore (pc := 40) (L2 := [(4, .int 0), (3, .int v5), (2, .int v1), (0, .ref 59), (1, .int a0)]) d_Z_cause_40 (Nat.le_of_ble_eq_true rfl) rfl ?_
      refine jm_iconst (pc := 42) (v := 0) d_Z_cause_42 ci_0 ?_
      refine jm_istore (pc := 43) (L2 := [(5, .int 0), (4, .int 0), (3, .int v5), (2, .int v1), (0, .ref 59), (1, .int a0)]) d_Z_cause_43 (Nat.le_of_ble_eq_true rfl) rfl ?_
      refine jm_iconst (pc := 45) (v := 0) d_Z_cause_45 ci_0 ?_
      refine jm_istore (pc := 46) (L2 := [(6, .int 0), (5, .int 0), (4, .int 0), (3, .int v5), (2, .int v1), (0, .ref 59), (1, .int a0)]) d_Z_cause_46 (Nat.le_of_ble_eq_true rfl) rfl ?_
      refine jm_sub (L2 := [(0, .ref 59), (1, .int a0), (3, .int v5), (4, .int 0), (5, .int 0), (6, .int 0)]) [5, 6, 3, 2, 1, 0] rfl ?_
      exact s_Z_cause_L48_ok s 5000 a0 v5 0 0 0
  · refine jm_iconst (pc := 28) (v := 0) d_Z_cause_28 ci_0 ?_
    exact jm_iret (pc := 29) (x := 0) d_Z_cause_29 rfl rfl rfl rfl rfl
theorem d_Z_causes_0 : decode (jm_cd mY_Z_causes) 0 = .ok (.iconst 0, 1) := by decide +kernel
theorem d_Z_causes_1 : decode (jm_cd mY_Z_causes) 1 = .ok (.istore_n 2, 1) := by decide +kernel
theorem d_Z_causes_2 : decode (jm_cd mY_Z_causes) 2 = .ok (.iconst 0, 1) := by decide +kernel
theorem d_Z_causes_3 : decode (jm_cd mY_Z_causes) 3 = .ok (.istore_n 3, 1) := by decide +kernel
theorem d_Z_causes_4 : decode (jm_cd mY_Z_causes) 4 = .ok (.iload_n 3, 1) := by decide +kernel
theorem d_Z_causes_5 : decode (jm_cd mY_Z_causes) 5 = .ok (.aload_n 0, 1) := by decide +kernel
theorem d_Z_causes_6 : decode (jm_cd mY_Z_causes) 6 = .ok (.getfield 13, 3) := by decide +kernel
theorem d_Z_causes_9 : decode (jm_cd mY_Z_causes) 9 = .ok (.iconst 0, 1) := by decide +kernel
theorem d_Z_causes_10 : decode (jm_cd mY_Z_causes) 10 = .ok (.iaload, 1) := by decide +kernel
theorem d_Z_causes_11 : decode (jm_cd mY_Z_causes) 11 = .ok (.if_icmp .ge 28, 3) := by decide +kernel
theorem d_Z_causes_14 : decode (jm_cd mY_Z_causes) 14 = .ok (.iload_n 2, 1) := by decide +kernel
theorem d_Z_causes_15 : decode (jm_cd mY_Z_causes) 15 = .ok (.aload_n 0, 1) := by decide +kernel
theorem d_Z_causes_16 : decode (jm_cd mY_Z_causes) 16 = .ok (.iload_n 3, 1) := by decide +kernel
theorem d_Z_causes_17 : decode (jm_cd mY_Z_causes) 17 = .ok (.invokevirtual 235, 3) := by decide +kernel
theorem d_Z_causes_20 : decode (jm_cd mY_Z_causes) 20 = .ok (.iload_n 1, 1) := by decide +kernel
theorem d_Z_causes_21 : decode (jm_cd mY_Z_causes) 21 = .ok (.if_icmp .ne 9, 3) := by decide +kernel
theorem d_Z_causes_24 : decode (jm_cd mY_Z_causes) 24 = .ok (.iconst 1, 1) := by decide +kernel
theorem d_Z_causes_25 : decode (jm_cd mY_Z_causes) 25 = .ok (.iload_n 3, 1) := by decide +kernel
theorem d_Z_causes_26 : decode (jm_cd mY_Z_causes) 26 = .ok (.ishl, 1) := by decide +kernel
theorem d_Z_causes_27 : decode (jm_cd mY_Z_causes) 27 = .ok (.goto 4, 3) := by decide +kernel
theorem d_Z_causes_30 : decode (jm_cd mY_Z_causes) 30 = .ok (.iconst 0, 1) := by decide +kernel
theorem d_Z_causes_31 : decode (jm_cd mY_Z_causes) 31 = .ok (.ior, 1) := by decide +kernel
theorem d_Z_causes_32 : decode (jm_cd mY_Z_causes) 32 = .ok (.istore_n 2, 1) := by decide +kernel
theorem d_Z_causes_33 : decode (jm_cd mY_Z_causes) 33 = .ok (.iinc 3 1, 3) := by decide +kernel
theorem d_Z_causes_36 : decode (jm_cd mY_Z_causes) 36 = .ok (.goto (-32), 3) := by decide +kernel
theorem d_Z_causes_39 : decode (jm_cd mY_Z_causes) 39 = .ok (.iload_n 2, 1) := by decide +kernel
theorem d_Z_causes_40 : decode (jm_cd mY_Z_causes) 40 = .ok (.ireturn, 1) := by decide +kernel
def s_Z_causes_L4 (s : jm_M) : Nat → Int32 → Int32 → Int32 → Option Int32
  | 0, _, _, _ => none
  | n + 1, x1, x2, x3 => jm_ldi s 61 4 0 (fun v1 => (if v1 ≤ x3 then (some x2) else jm_bd (s_Z_cause s x3) (fun v2 => (if v2 = x1 then jm_vi (x2 ||| (1 <<< (x3 &&& 31))) (fun v4 => s_Z_causes_L4 s n x1 v4 (x3 + 1)) else jm_vi (x2 ||| 0) (fun v3 => s_Z_causes_L4 s n x1 v3 (x3 + 1))))))
set_option maxRecDepth 100000 in
set_option maxHeartbeats 4000000 in
theorem s_Z_causes_L4_ok (s : jm_M) : ∀ (n : Nat) (x1 : Int32) (x2 : Int32) (x3 : Int32), jm_Sim mY_Z_causes 0 0 4 [(0, .ref 59), (1, .int x1), (2, .int x2), (3, .int x3)] [] 78 mr_154 s (s_Z_causes_L4 s n x1 x2 x3) (jm_rI 78 mr_154 s) := by
  intro n
  induction n with
  | zero => intro x1 x2 x3; exact jm_none
  | succ n ih =>
    intro x1 x2 x3
    rw [s_Z_causes_L4]
    refine jm_iload_n (pc := 4) (q := 3) (x := x3) d_Z_causes_4 rfl ?_
    refine jm_aload_n (pc := 5) (q := 0) (x := 59) d_Z_causes_5 rfl ?_
    refine jm_gr (pc := 6) (i := 59) d_Z_causes_6 fo_Z_13 sh_59 ge_59 le_59_78 rfl (fun _ => rfl) mr_154_59_2 ge_61 ?_
    refine jm_iconst (pc := 9) (v := 0) d_Z_causes_9 ci_0 ?_
    refine jm_iald (pc := 10) d_Z_causes_10 sh_61 ge_61 le_61_78 (fun v1 => ?_)
    refine jm_icmp_ge (pc := 11) (tgt := 39) d_Z_causes_11 (by decide) ?_ ?_
    · refine jm_iload_n (pc := 39) (q := 2) (x := x2) d_Z_causes_39 rfl ?_
      exact jm_iret (pc := 40) (x := x2) d_Z_causes_40 rfl rfl rfl rfl rfl
    · refine jm_iload_n (pc := 14) (q := 2) (x := x2) d_Z_causes_14 rfl ?_
      refine jm_aload_n (pc := 15) (q := 0) (x := 59) d_Z_causes_15 rfl ?_
      refine jm_iload_n (pc := 16) (q := 3) (x := x3) d_Z_causes_16 rfl ?_
      refine jm_Vp (pc := 17) (Y' := mY_Z_cause) (i := 59) (avs := [.int x3]) (rest := [.int x2]) (s_Z_cause_ok s x3) ok_Z_cause l0_Z_causes__Z_cause ml_Z_235 im_Z_cause se_Z_cause d_Z_causes_17 rfl sh_59 rfl rfl ge_59 le_59_78 rfl (Nat.le_of_ble_eq_true rfl) (Nat.le_of_ble_eq_true rfl) (Nat.le_of_ble_eq_true rfl) (Nat.le_of_ble_eq_true rfl) (fun v2 => ?_)
      refine jm_iload_n (pc := 20) (q := 1) (x := x1) d_Z_causes_20 rfl ?_
      refine jm_icmp_ne (pc := 21) (tgt := 30) d_Z_causes_21 (by decide) ?_ ?_
      · refine jm_iconst (pc := 24) (v := 1) d_Z_causes_24 ci_1 ?_
        refine jm_iload_n (pc := 25) (q := 3) (x := x3) d_Z_causes_25 rfl ?_
        refine jm_ishl (pc := 26) d_Z_causes_26 ?_
        refine jm_goto (pc := 27) (tgt := 31) d_Z_causes_27 (by decide) ?_
        refine jm_ior (pc := 31) d_Z_causes_31 ?_
        refine jm_nvi (fun v4 => ?_)
        refine jm_istore_n (pc := 32) (i := 2) (L2 := [(2, .int v4), (0, .ref 59), (1, .int x1), (3, .int x3)]) d_Z_causes_32 rfl (Nat.le_of_ble_eq_true rfl) rfl ?_
        refine jm_iinc (pc := 33) (q := 3) (x := x3) (v := 1) (L2 := [(3, .int (x3 + 1)), (2, .int v4), (0, .ref 59), (1, .int x1)]) d_Z_causes_33 rfl ci_1 (Nat.le_of_ble_eq_true rfl) rfl ?_
        refine jm_goto (pc := 36) (tgt := 4) d_Z_causes_36 (by decide) ?_
        refine jm_sub (L2 := [(0, .ref 59), (1, .int x1), (2, .int v4), (3, .int (x3 + 1))]) [2, 3, 1, 0] rfl ?_
        exact ih x1 v4 (x3 + 1)
      · refine jm_iconst (pc := 30) (v := 0) d_Z_causes_30 ci_0 ?_
        refine jm_ior (pc := 31) d_Z_causes_31 ?_
        refine jm_nvi (fun v3 => ?_)
        refine jm_istore_n (pc := 32) (i := 2) (L2 := [(2, .int v3), (0, .ref 59), (1, .int x1), (3, .int x3)]) d_Z_causes_32 rfl (Nat.le_of_ble_eq_true rfl) rfl ?_
        refine jm_iinc (pc := 33) (q := 3) (x := x3) (v := 1) (L2 := [(3, .int (x3 + 1)), (2, .int v3), (0, .ref 59), (1, .int x1)]) d_Z_causes_33 rfl ci_1 (Nat.le_of_ble_eq_true rfl) rfl ?_
        refine jm_goto (pc := 36) (tgt := 4) d_Z_causes_36 (by decide) ?_
        refine jm_sub (L2 := [(0, .ref 59), (1, .int x1), (2, .int v3), (3, .int (x3 + 1))]) [2, 3, 1, 0] rfl ?_
        exact ih x1 v3 (x3 + 1)
def s_Z_causes (s : jm_M) (a0 : Int32) : Option Int32 := s_Z_causes_L4 s 5000 a0 0 0
set_option maxRecDepth 100000 in
set_option maxHeartbeats 4000000 in
theorem s_Z_causes_ok (s : jm_M) (a0 : Int32) : jm_Sim mY_Z_causes 0 0 0 [(0, .ref 59), (1, .int a0)] [] 78 mr_154 s (s_Z_causes s a0) (jm_rI 78 mr_154 s) := by
  unfold s_Z_causes
  refine jm_iconst (pc := 0) (v := 0) d_Z_causes_0 ci_0 ?_
  refine jm_istore_n (pc := 1) (i := 2) (L2 := [(2, .int 0), (0, .ref 59), (1, .int a0)]) d_Z_causes_1 rfl (Nat.le_of_ble_eq_true rfl) rfl ?_
  refine jm_iconst (pc := 2) (v := 0) d_Z_causes_2 ci_0 ?_
  refine jm_istore_n (pc := 3) (i := 3) (L2 := [(3, .int 0), (2, .int 0), (0, .ref 59), (1, .int a0)]) d_Z_causes_3 rfl (Nat.le_of_ble_eq_true rfl) rfl ?_
  refine jm_sub (L2 := [(0, .ref 59), (1, .int a0), (2, .int 0), (3, .int 0)]) [2, 3, 1, 0] rfl ?_
  exact s_Z_causes_L4_ok s 5000 a0 0 0
theorem d_Z_asked_0 : decode (jm_cd mY_Z_asked) 0 = .ok (.aload_n 0, 1) := by decide +kernel
theorem d_Z_asked_1 : decode (jm_cd mY_Z_asked) 1 = .ok (.iconst 1, 1) := by decide +kernel
theorem d_Z_asked_2 : decode (jm_cd mY_Z_asked) 2 = .ok (.invokevirtual 238, 3) := by decide +kernel
theorem d_Z_asked_5 : decode (jm_cd mY_Z_asked) 5 = .ok (.istore_n 1, 1) := by decide +kernel
theorem d_Z_asked_6 : decode (jm_cd mY_Z_asked) 6 = .ok (.bipush (-4), 2) := by decide +kernel
theorem d_Z_asked_8 : decode (jm_cd mY_Z_asked) 8 = .ok (.istore_n 2, 1) := by decide +kernel
theorem d_Z_asked_9 : decode (jm_cd mY_Z_asked) 9 = .ok (.iconst 0, 1) := by decide +kernel
theorem d_Z_asked_10 : decode (jm_cd mY_Z_asked) 10 = .ok (.istore_n 3, 1) := by decide +kernel
theorem d_Z_asked_11 : decode (jm_cd mY_Z_asked) 11 = .ok (.iconst 0, 1) := by decide +kernel
theorem d_Z_asked_12 : decode (jm_cd mY_Z_asked) 12 = .ok (.istore 4, 2) := by decide +kernel
theorem d_Z_asked_14 : decode (jm_cd mY_Z_asked) 14 = .ok (.iload 4, 2) := by decide +kernel
theorem d_Z_asked_16 : decode (jm_cd mY_Z_asked) 16 = .ok (.aload_n 0, 1) := by decide +kernel
theorem d_Z_asked_17 : decode (jm_cd mY_Z_asked) 17 = .ok (.getfield 13, 3) := by decide +kernel
theorem d_Z_asked_20 : decode (jm_cd mY_Z_asked) 20 = .ok (.iconst 0, 1) := by decide +kernel
theorem d_Z_asked_21 : decode (jm_cd mY_Z_asked) 21 = .ok (.iaload, 1) := by decide +kernel
theorem d_Z_asked_22 : decode (jm_cd mY_Z_asked) 22 = .ok (.if_icmp .ge 60, 3) := by decide +kernel
theorem d_Z_asked_25 : decode (jm_cd mY_Z_asked) 25 = .ok (.aload_n 0, 1) := by decide +kernel
theorem d_Z_asked_26 : decode (jm_cd mY_Z_asked) 26 = .ok (.getfield 40, 3) := by decide +kernel
theorem d_Z_asked_29 : decode (jm_cd mY_Z_asked) 29 = .ok (.iload 4, 2) := by decide +kernel
theorem d_Z_asked_31 : decode (jm_cd mY_Z_asked) 31 = .ok (.iaload, 1) := by decide +kernel
theorem d_Z_asked_32 : decode (jm_cd mY_Z_asked) 32 = .ok (.ifCond .ge 29, 3) := by decide +kernel
theorem d_Z_asked_35 : decode (jm_cd mY_Z_asked) 35 = .ok (.aload_n 0, 1) := by decide +kernel
theorem d_Z_asked_36 : decode (jm_cd mY_Z_asked) 36 = .ok (.getfield 16, 3) := by decide +kernel
theorem d_Z_asked_39 : decode (jm_cd mY_Z_asked) 39 = .ok (.iload 4, 2) := by decide +kernel
theorem d_Z_asked_41 : decode (jm_cd mY_Z_asked) 41 = .ok (.iaload, 1) := by decide +kernel
theorem d_Z_asked_42 : decode (jm_cd mY_Z_asked) 42 = .ok (.iconst 2, 1) := by decide +kernel
theorem d_Z_asked_43 : decode (jm_cd mY_Z_asked) 43 = .ok (.if_icmp .ge 18, 3) := by decide +kernel
theorem d_Z_asked_46 : decode (jm_cd mY_Z_asked) 46 = .ok (.aload_n 0, 1) := by decide +kernel
theorem d_Z_asked_47 : decode (jm_cd mY_Z_asked) 47 = .ok (.getfield 19, 3) := by decide +kernel
theorem d_Z_asked_50 : decode (jm_cd mY_Z_asked) 50 = .ok (.iload 4, 2) := by decide +kernel
theorem d_Z_asked_52 : decode (jm_cd mY_Z_asked) 52 = .ok (.iaload, 1) := by decide +kernel
theorem d_Z_asked_53 : decode (jm_cd mY_Z_asked) 53 = .ok (.iload_n 1, 1) := by decide +kernel
theorem d_Z_asked_54 : decode (jm_cd mY_Z_asked) 54 = .ok (.iand, 1) := by decide +kernel
theorem d_Z_asked_55 : decode (jm_cd mY_Z_asked) 55 = .ok (.invokestatic 212, 3) := by decide +kernel
theorem d_Z_asked_58 : decode (jm_cd mY_Z_asked) 58 = .ok (.goto 4, 3) := by decide +kernel
theorem d_Z_asked_61 : decode (jm_cd mY_Z_asked) 61 = .ok (.iconst 0, 1) := by decide +kernel
theorem d_Z_asked_62 : decode (jm_cd mY_Z_asked) 62 = .ok (.istore 5, 2) := by decide +kernel
theorem d_Z_asked_64 : decode (jm_cd mY_Z_asked) 64 = .ok (.iload 5, 2) := by decide +kernel
theorem d_Z_asked_66 : decode (jm_cd mY_Z_asked) 66 = .ok (.iload_n 3, 1) := by decide +kernel
theorem d_Z_asked_67 : decode (jm_cd mY_Z_asked) 67 = .ok (.if_icmp .le 9, 3) := by decide +kernel
theorem d_Z_asked_70 : decode (jm_cd mY_Z_asked) 70 = .ok (.iload 5, 2) := by decide +kernel
theorem d_Z_asked_72 : decode (jm_cd mY_Z_asked) 72 = .ok (.istore_n 3, 1) := by decide +kernel
theorem d_Z_asked_73 : decode (jm_cd mY_Z_asked) 73 = .ok (.iload 4, 2) := by decide +kernel
theorem d_Z_asked_75 : decode (jm_cd mY_Z_asked) 75 = .ok (.istore_n 2, 1) := by decide +kernel
theorem d_Z_asked_76 : decode (jm_cd mY_Z_asked) 76 = .ok (.iinc 4 1, 3) := by decide +kernel
theorem d_Z_asked_79 : decode (jm_cd mY_Z_asked) 79 = .ok (.goto (-65), 3) := by decide +kernel
theorem d_Z_asked_82 : decode (jm_cd mY_Z_asked) 82 = .ok (.iload_n 2, 1) := by decide +kernel
theorem d_Z_asked_83 : decode (jm_cd mY_Z_asked) 83 = .ok (.ireturn, 1) := by decide +kernel
def s_Z_asked_J62 (s : jm_M) (k10 : Int32 → Int32 → Int32 → Int32 → Option Int32) (x1 : Int32) (x2 : Int32) (x3 : Int32) (x4 : Int32) (y0 : Int32) : Option Int32 := (if y0 ≤ x3 then k10 x1 x2 x3 (x4 + 1) else k10 x1 x4 y0 (x4 + 1))
set_option maxRecDepth 100000 in
set_option maxHeartbeats 4000000 in
theorem s_Z_asked_J62_ok (s : jm_M) {k10 : Int32 → Int32 → Int32 → Int32 → Option Int32} (hk10 : ∀ (x1 : Int32) (x2 : Int32) (x3 : Int32) (x4 : Int32), jm_Sim mY_Z_asked 0 0 14 [(0, .ref 59), (1, .int x1), (2, .int x2), (3, .int x3), (4, .int x4)] [] 78 mr_154 s (k10 x1 x2 x3 x4) (jm_rI 78 mr_154 s)) (x1 : Int32) (x2 : Int32) (x3 : Int32) (x4 : Int32) (y0 : Int32) : jm_Sim mY_Z_asked 0 0 62 [(0, .ref 59), (1, .int x1), (2, .int x2), (3, .int x3), (4, .int x4)] [.int y0] 78 mr_154 s (s_Z_asked_J62 s k10 x1 x2 x3 x4 y0) (jm_rI 78 mr_154 s) := by
  unfold s_Z_asked_J62
  refine jm_istore (pc := 62) (L2 := [(5, .int y0), (0, .ref 59), (1, .int x1), (2, .int x2), (3, .int x3), (4, .int x4)]) d_Z_asked_62 (Nat.le_of_ble_eq_true rfl) rfl ?_
  refine jm_iload (pc := 64) (q := 0) (x := y0) d_Z_asked_64 rfl ?_
  refine jm_iload_n (pc := 66) (q := 4) (x := x3) d_Z_asked_66 rfl ?_
  refine jm_icmp_le (pc := 67) (tgt := 76) d_Z_asked_67 (by decide) ?_ ?_
  · refine jm_iinc (pc := 76) (q := 5) (x := x4) (v := 1) (L2 := [(4, .int (x4 + 1)), (5, .int y0), (0, .ref 59), (1, .int x1), (2, .int x2), (3, .int x3)]) d_Z_asked_76 rfl ci_1 (Nat.le_of_ble_eq_true rfl) rfl ?_
    refine jm_goto (pc := 79) (tgt := 14) d_Z_asked_79 (by decide) ?_
    refine jm_sub (L2 := [(0, .ref 59), (1, .int x1), (2, .int x2), (3, .int x3), (4, .int (x4 + 1))]) [2, 3, 4, 5, 0] rfl ?_
    exact hk10 x1 x2 x3 (x4 + 1)
  · refine jm_iload (pc := 70) (q := 0) (x := y0) d_Z_asked_70 rfl ?_
    refine jm_istore_n (pc := 72) (i := 3) (L2 := [(3, .int y0), (5, .int y0), (0, .ref 59), (1, .int x1), (2, .int x2), (4, .int x4)]) d_Z_asked_72 rfl (Nat.le_of_ble_eq_true rfl) rfl ?_
    refine jm_iload (pc := 73) (q := 5) (x := x4) d_Z_asked_73 rfl ?_
    refine jm_istore_n (pc := 75) (i := 2) (L2 := [(2, .int x4), (3, .int y0), (5, .int y0), (0, .ref 59), (1, .int x1), (4, .int x4)]) d_Z_asked_75 rfl (Nat.le_of_ble_eq_true rfl) rfl ?_
    refine jm_iinc (pc := 76) (q := 5) (x := x4) (v := 1) (L2 := [(4, .int (x4 + 1)), (2, .int x4), (3, .int y0), (5, .int y0), (0, .ref 59), (1, .int x1)]) d_Z_asked_76 rfl ci_1 (Nat.le_of_ble_eq_true rfl) rfl ?_
    refine jm_goto (pc := 79) (tgt := 14) d_Z_asked_79 (by decide) ?_
    refine jm_sub (L2 := [(0, .ref 59), (1, .int x1), (2, .int x4), (3, .int y0), (4, .int (x4 + 1))]) [4, 5, 1, 2, 0] rfl ?_
    exact hk10 x1 x4 y0 (x4 + 1)
def s_Z_asked_L14 (s : jm_M) : Nat → Int32 → Int32 → Int32 → Int32 → Option Int32
  | 0, _, _, _, _ => none
  | n + 1, x1, x2, x3, x4 => jm_ldi s 61 4 0 (fun v2 => (if v2 ≤ x4 then (some x2) else jm_ldi s 70 30 x4 (fun v3 => (if 0 ≤ v3 then s_Z_asked_J62 s (s_Z_asked_L14 s n) x1 x2 x3 x4 0 else jm_ldi s 62 40 x4 (fun v4 => (if 2 ≤ v4 then s_Z_asked_J62 s (s_Z_asked_L14 s n) x1 x2 x3 x4 0 else jm_ldi s 63 40 x4 (fun v5 => jm_bd (s_Z_bits s (v5 &&& x1)) (fun v6 => s_Z_asked_J62 s (s_Z_asked_L14 s n) x1 x2 x3 x4 v6))))))))
set_option maxRecDepth 100000 in
set_option maxHeartbeats 4000000 in
theorem s_Z_asked_L14_ok (s : jm_M) : ∀ (n : Nat) (x1 : Int32) (x2 : Int32) (x3 : Int32) (x4 : Int32), jm_Sim mY_Z_asked 0 0 14 [(0, .ref 59), (1, .int x1), (2, .int x2), (3, .int x3), (4, .int x4)] [] 78 mr_154 s (s_Z_asked_L14 s n x1 x2 x3 x4) (jm_rI 78 mr_154 s) := by
  intro n
  induction n with
  | zero => intro x1 x2 x3 x4; exact jm_none
  | succ n ih =>
    intro x1 x2 x3 x4
    rw [s_Z_asked_L14]
    refine jm_iload (pc := 14) (q := 4) (x := x4) d_Z_asked_14 rfl ?_
    refine jm_aload_n (pc := 16) (q := 0) (x := 59) d_Z_asked_16 rfl ?_
    refine jm_gr (pc := 17) (i := 59) d_Z_asked_17 fo_Z_13 sh_59 ge_59 le_59_78 rfl (fun _ => rfl) mr_154_59_2 ge_61 ?_
    refine jm_iconst (pc := 20) (v := 0) d_Z_asked_20 ci_0 ?_
    refine jm_iald (pc := 21) d_Z_asked_21 sh_61 ge_61 le_61_78 (fun v2 => ?_)
    refine jm_icmp_ge (pc := 22) (tgt := 82) d_Z_asked_22 (by decide) ?_ ?_
    · refine jm_iload_n (pc := 82) (q := 2) (x := x2) d_Z_asked_82 rfl ?_
      exact jm_iret (pc := 83) (x := x2) d_Z_asked_83 rfl rfl rfl rfl rfl
    · refine jm_aload_n (pc := 25) (q := 0) (x := 59) d_Z_asked_25 rfl ?_
      refine jm_gr (pc := 26) (i := 59) d_Z_asked_26 fo_Z_40 sh_59 ge_59 le_59_78 rfl (fun _ => rfl) mr_154_59_11 ge_70 ?_
      refine jm_iload (pc := 29) (q := 4) (x := x4) d_Z_asked_29 rfl ?_
      refine jm_iald (pc := 31) d_Z_asked_31 sh_70 ge_70 le_70_78 (fun v3 => ?_)
      refine jm_if_ge (pc := 32) (tgt := 61) d_Z_asked_32 (by decide) ?_ ?_
      · refine jm_iconst (pc := 61) (v := 0) d_Z_asked_61 ci_0 ?_
        exact s_Z_asked_J62_ok s ih x1 x2 x3 x4 0
      · refine jm_aload_n (pc := 35) (q := 0) (x := 59) d_Z_asked_35 rfl ?_
        refine jm_gr (pc := 36) (i := 59) d_Z_asked_36 fo_Z_16 sh_59 ge_59 le_59_78 rfl (fun _ => rfl) mr_154_59_3 ge_62 ?_
        refine jm_iload (pc := 39) (q := 4) (x := x4) d_Z_asked_39 rfl ?_
        refine jm_iald (pc := 41) d_Z_asked_41 sh_62 ge_62 le_62_78 (fun v4 => ?_)
        refine jm_iconst (pc := 42) (v := 2) d_Z_asked_42 ci_2 ?_
        refine jm_icmp_ge (pc := 43) (tgt := 61) d_Z_asked_43 (by decide) ?_ ?_
        · refine jm_iconst (pc := 61) (v := 0) d_Z_asked_61 ci_0 ?_
          exact s_Z_asked_J62_ok s ih x1 x2 x3 x4 0
        · refine jm_aload_n (pc := 46) (q := 0) (x := 59) d_Z_asked_46 rfl ?_
          refine jm_gr (pc := 47) (i := 59) d_Z_asked_47 fo_Z_19 sh_59 ge_59 le_59_78 rfl (fun _ => rfl) mr_154_59_4 ge_63 ?_
          refine jm_iload (pc := 50) (q := 4) (x := x4) d_Z_asked_50 rfl ?_
          refine jm_iald (pc := 52) d_Z_asked_52 sh_63 ge_63 le_63_78 (fun v5 => ?_)
          refine jm_iload_n (pc := 53) (q := 1) (x := x1) d_Z_asked_53 rfl ?_
          refine jm_iand (pc := 54) d_Z_asked_54 ?_
          refine jm_Sp (pc := 55) (Y' := mY_Z_bits) (avs := [.int (v5 &&& x1)]) (rest := []) (s_Z_bits_ok s (v5 &&& x1)) ok_Z_bits l0_Z_asked__Z_bits ml_Z_212 sm_Z_bits d_Z_asked_55 rfl rfl (Nat.le_of_ble_eq_true rfl) (Nat.le_of_ble_eq_true rfl) (Nat.le_of_ble_eq_true rfl) (Nat.le_of_ble_eq_true rfl) (fun v6 => ?_)
          refine jm_goto (pc := 58) (tgt := 62) d_Z_asked_58 (by decide) ?_
          exact s_Z_asked_J62_ok s ih x1 x2 x3 x4 v6
def s_Z_asked (s : jm_M) : Option Int32 := jm_bd (s_Z_causes s 1) (fun v1 => s_Z_asked_L14 s 5000 v1 (-4) 0 0)
set_option maxRecDepth 100000 in
set_option maxHeartbeats 4000000 in
theorem s_Z_asked_ok (s : jm_M) : jm_Sim mY_Z_asked 0 0 0 [(0, .ref 59)] [] 78 mr_154 s (s_Z_asked s) (jm_rI 78 mr_154 s) := by
  unfold s_Z_asked
  refine jm_aload_n (pc := 0) (q := 0) (x := 59) d_Z_asked_0 rfl ?_
  refine jm_iconst (pc := 1) (v := 1) d_Z_asked_1 ci_1 ?_
  refine jm_Vp (pc := 2) (Y' := mY_Z_causes) (i := 59) (avs := [.int 1]) (rest := []) (s_Z_causes_ok s 1) ok_Z_causes l0_Z_asked__Z_causes ml_Z_238 im_Z_causes se_Z_causes d_Z_asked_2 rfl sh_59 rfl rfl ge_59 le_59_78 rfl (Nat.le_of_ble_eq_true rfl) (Nat.le_of_ble_eq_true rfl) (Nat.le_of_ble_eq_true rfl) (Nat.le_of_ble_eq_true rfl) (fun v1 => ?_)
  refine jm_istore_n (pc := 5) (i := 1) (L2 := [(1, .int v1), (0, .ref 59)]) d_Z_asked_5 rfl (Nat.le_of_ble_eq_true rfl) rfl ?_
  refine jm_bipush (pc := 6) (v := (-4)) d_Z_asked_6 cb_m4 ?_
  refine jm_istore_n (pc := 8) (i := 2) (L2 := [(2, .int (-4)), (1, .int v1), (0, .ref 59)]) d_Z_asked_8 rfl (Nat.le_of_ble_eq_true rfl) rfl ?_
  refine jm_iconst (pc := 9) (v := 0) d_Z_asked_9 ci_0 ?_
  refine jm_istore_n (pc := 10) (i := 3) (L2 := [(3, .int 0), (2, .int (-4)), (1, .int v1), (0, .ref 59)]) d_Z_asked_10 rfl (Nat.le_of_ble_eq_true rfl) rfl ?_
  refine jm_iconst (pc := 11) (v := 0) d_Z_asked_11 ci_0 ?_
  refine jm_istore (pc := 12) (L2 := [(4, .int 0), (3, .int 0), (2, .int (-4)), (1, .int v1), (0, .ref 59)]) d_Z_asked_12 (Nat.le_of_ble_eq_true rfl) rfl ?_
  refine jm_sub (L2 := [(0, .ref 59), (1, .int v1), (2, .int (-4)), (3, .int 0), (4, .int 0)]) [4, 3, 2, 1, 0] rfl ?_
  exact s_Z_asked_L14_ok s 5000 v1 (-4) 0 0
theorem d_Z_soon_0 : decode (jm_cd mY_Z_soon) 0 = .ok (.bipush 60, 2) := by decide +kernel
theorem d_Z_soon_2 : decode (jm_cd mY_Z_soon) 2 = .ok (.istore_n 1, 1) := by decide +kernel
theorem d_Z_soon_3 : decode (jm_cd mY_Z_soon) 3 = .ok (.iconst 0, 1) := by decide +kernel
theorem d_Z_soon_4 : decode (jm_cd mY_Z_soon) 4 = .ok (.istore_n 2, 1) := by decide +kernel
theorem d_Z_soon_5 : decode (jm_cd mY_Z_soon) 5 = .ok (.iload_n 2, 1) := by decide +kernel
theorem d_Z_soon_6 : decode (jm_cd mY_Z_soon) 6 = .ok (.aload_n 0, 1) := by decide +kernel
theorem d_Z_soon_7 : decode (jm_cd mY_Z_soon) 7 = .ok (.getfield 13, 3) := by decide +kernel
theorem d_Z_soon_10 : decode (jm_cd mY_Z_soon) 10 = .ok (.iconst 0, 1) := by decide +kernel
theorem d_Z_soon_11 : decode (jm_cd mY_Z_soon) 11 = .ok (.iaload, 1) := by decide +kernel
theorem d_Z_soon_12 : decode (jm_cd mY_Z_soon) 12 = .ok (.if_icmp .ge 49, 3) := by decide +kernel
theorem d_Z_soon_15 : decode (jm_cd mY_Z_soon) 15 = .ok (.aload_n 0, 1) := by decide +kernel
theorem d_Z_soon_16 : decode (jm_cd mY_Z_soon) 16 = .ok (.getfield 16, 3) := by decide +kernel
theorem d_Z_soon_19 : decode (jm_cd mY_Z_soon) 19 = .ok (.iload_n 2, 1) := by decide +kernel
theorem d_Z_soon_20 : decode (jm_cd mY_Z_soon) 20 = .ok (.iaload, 1) := by decide +kernel
theorem d_Z_soon_21 : decode (jm_cd mY_Z_soon) 21 = .ok (.iconst 1, 1) := by decide +kernel
theorem d_Z_soon_22 : decode (jm_cd mY_Z_soon) 22 = .ok (.if_icmp .ne 31, 3) := by decide +kernel
theorem d_Z_soon_25 : decode (jm_cd mY_Z_soon) 25 = .ok (.aload_n 0, 1) := by decide +kernel
theorem d_Z_soon_26 : decode (jm_cd mY_Z_soon) 26 = .ok (.getfield 40, 3) := by decide +kernel
theorem d_Z_soon_29 : decode (jm_cd mY_Z_soon) 29 = .ok (.iload_n 2, 1) := by decide +kernel
theorem d_Z_soon_30 : decode (jm_cd mY_Z_soon) 30 = .ok (.iaload, 1) := by decide +kernel
theorem d_Z_soon_31 : decode (jm_cd mY_Z_soon) 31 = .ok (.ifCond .lt 22, 3) := by decide +kernel
theorem d_Z_soon_34 : decode (jm_cd mY_Z_soon) 34 = .ok (.aload_n 0, 1) := by decide +kernel
theorem d_Z_soon_35 : decode (jm_cd mY_Z_soon) 35 = .ok (.getfield 40, 3) := by decide +kernel
theorem d_Z_soon_38 : decode (jm_cd mY_Z_soon) 38 = .ok (.iload_n 2, 1) := by decide +kernel
theorem d_Z_soon_39 : decode (jm_cd mY_Z_soon) 39 = .ok (.iaload, 1) := by decide +kernel
theorem d_Z_soon_40 : decode (jm_cd mY_Z_soon) 40 = .ok (.iload_n 1, 1) := by decide +kernel
theorem d_Z_soon_41 : decode (jm_cd mY_Z_soon) 41 = .ok (.if_icmp .ge 12, 3) := by decide +kernel
theorem d_Z_soon_44 : decode (jm_cd mY_Z_soon) 44 = .ok (.aload_n 0, 1) := by decide +kernel
theorem d_Z_soon_45 : decode (jm_cd mY_Z_soon) 45 = .ok (.getfield 40, 3) := by decide +kernel
theorem d_Z_soon_48 : decode (jm_cd mY_Z_soon) 48 = .ok (.iload_n 2, 1) := by decide +kernel
theorem d_Z_soon_49 : decode (jm_cd mY_Z_soon) 49 = .ok (.iaload, 1) := by decide +kernel
theorem d_Z_soon_50 : decode (jm_cd mY_Z_soon) 50 = .ok (.goto 4, 3) := by decide +kernel
theorem d_Z_soon_53 : decode (jm_cd mY_Z_soon) 53 = .ok (.iload_n 1, 1) := by decide +kernel
theorem d_Z_soon_54 : decode (jm_cd mY_Z_soon) 54 = .ok (.istore_n 1, 1) := by decide +kernel
theorem d_Z_soon_55 : decode (jm_cd mY_Z_soon) 55 = .ok (.iinc 2 1, 3) := by decide +kernel
theorem d_Z_soon_58 : decode (jm_cd mY_Z_soon) 58 = .ok (.goto (-53), 3) := by decide +kernel
theorem d_Z_soon_61 : decode (jm_cd mY_Z_soon) 61 = .ok (.iload_n 1, 1) := by decide +kernel
theorem d_Z_soon_62 : decode (jm_cd mY_Z_soon) 62 = .ok (.bipush 60, 2) := by decide +kernel
theorem d_Z_soon_64 : decode (jm_cd mY_Z_soon) 64 = .ok (.if_icmp .ne 5, 3) := by decide +kernel
theorem d_Z_soon_67 : decode (jm_cd mY_Z_soon) 67 = .ok (.iconst 0, 1) := by decide +kernel
theorem d_Z_soon_68 : decode (jm_cd mY_Z_soon) 68 = .ok (.ireturn, 1) := by decide +kernel
theorem d_Z_soon_69 : decode (jm_cd mY_Z_soon) 69 = .ok (.aload_n 0, 1) := by decide +kernel
theorem d_Z_soon_70 : decode (jm_cd mY_Z_soon) 70 = .ok (.invokevirtual 203, 3) := by decide +kernel
theorem d_Z_soon_73 : decode (jm_cd mY_Z_soon) 73 = .ok (.aload_n 0, 1) := by decide +kernel
theorem d_Z_soon_74 : decode (jm_cd mY_Z_soon) 74 = .ok (.aload_n 0, 1) := by decide +kernel
theorem d_Z_soon_75 : decode (jm_cd mY_Z_soon) 75 = .ok (.iconst 1, 1) := by decide +kernel
theorem d_Z_soon_76 : decode (jm_cd mY_Z_soon) 76 = .ok (.invokevirtual 143, 3) := by decide +kernel
theorem d_Z_soon_79 : decode (jm_cd mY_Z_soon) 79 = .ok (.iconst 1, 1) := by decide +kernel
theorem d_Z_soon_80 : decode (jm_cd mY_Z_soon) 80 = .ok (.invokevirtual 196, 3) := by decide +kernel
theorem d_Z_soon_83 : decode (jm_cd mY_Z_soon) 83 = .ok (.aload_n 0, 1) := by decide +kernel
theorem d_Z_soon_84 : decode (jm_cd mY_Z_soon) 84 = .ok (.iconst 0, 1) := by decide +kernel
theorem d_Z_soon_85 : decode (jm_cd mY_Z_soon) 85 = .ok (.invokevirtual 199, 3) := by decide +kernel
theorem d_Z_soon_88 : decode (jm_cd mY_Z_soon) 88 = .ok (.iconst 0, 1) := by decide +kernel
theorem d_Z_soon_89 : decode (jm_cd mY_Z_soon) 89 = .ok (.istore_n 2, 1) := by decide +kernel
theorem d_Z_soon_90 : decode (jm_cd mY_Z_soon) 90 = .ok (.iconst 0, 1) := by decide +kernel
theorem d_Z_soon_91 : decode (jm_cd mY_Z_soon) 91 = .ok (.istore_n 3, 1) := by decide +kernel
theorem d_Z_soon_92 : decode (jm_cd mY_Z_soon) 92 = .ok (.iload_n 3, 1) := by decide +kernel
theorem d_Z_soon_93 : decode (jm_cd mY_Z_soon) 93 = .ok (.aload_n 0, 1) := by decide +kernel
theorem d_Z_soon_94 : decode (jm_cd mY_Z_soon) 94 = .ok (.getfield 13, 3) := by decide +kernel
theorem d_Z_soon_97 : decode (jm_cd mY_Z_soon) 97 = .ok (.iconst 0, 1) := by decide +kernel
theorem d_Z_soon_98 : decode (jm_cd mY_Z_soon) 98 = .ok (.iaload, 1) := by decide +kernel
theorem d_Z_soon_99 : decode (jm_cd mY_Z_soon) 99 = .ok (.if_icmp .ge 87, 3) := by decide +kernel
theorem d_Z_soon_102 : decode (jm_cd mY_Z_soon) 102 = .ok (.aload_n 0, 1) := by decide +kernel
theorem d_Z_soon_103 : decode (jm_cd mY_Z_soon) 103 = .ok (.getfield 16, 3) := by decide +kernel
theorem d_Z_soon_106 : decode (jm_cd mY_Z_soon) 106 = .ok (.iload_n 3, 1) := by decide +kernel
theorem d_Z_soon_107 : decode (jm_cd mY_Z_soon) 107 = .ok (.iaload, 1) := by decide +kernel
theorem d_Z_soon_108 : decode (jm_cd mY_Z_soon) 108 = .ok (.ifCond .ne 54, 3) := by decide +kernel
theorem d_Z_soon_111 : decode (jm_cd mY_Z_soon) 111 = .ok (.aload_n 0, 1) := by decide +kernel
theorem d_Z_soon_112 : decode (jm_cd mY_Z_soon) 112 = .ok (.getfield 40, 3) := by decide +kernel
theorem d_Z_soon_115 : decode (jm_cd mY_Z_soon) 115 = .ok (.iload_n 3, 1) := by decide +kernel
theorem d_Z_soon_116 : decode (jm_cd mY_Z_soon) 116 = .ok (.iaload, 1) := by decide +kernel
theorem d_Z_soon_117 : decode (jm_cd mY_Z_soon) 117 = .ok (.i2l, 1) := by decide +kernel
theorem d_Z_soon_118 : decode (jm_cd mY_Z_soon) 118 = .ok (.lconst 0, 1) := by decide +kernel
theorem d_Z_soon_119 : decode (jm_cd mY_Z_soon) 119 = .ok (.ldc2_w 147, 3) := by decide +kernel
theorem d_Z_soon_122 : decode (jm_cd mY_Z_soon) 122 = .ok (.invokestatic 69, 3) := by decide +kernel
theorem d_Z_soon_125 : decode (jm_cd mY_Z_soon) 125 = .ok (.ifCond .eq 37, 3) := by decide +kernel
theorem d_Z_soon_128 : decode (jm_cd mY_Z_soon) 128 = .ok (.aload_n 0, 1) := by decide +kernel
theorem d_Z_soon_129 : decode (jm_cd mY_Z_soon) 129 = .ok (.getfield 58, 3) := by decide +kernel
theorem d_Z_soon_132 : decode (jm_cd mY_Z_soon) 132 = .ok (.iload_n 3, 1) := by decide +kernel
theorem d_Z_soon_133 : decode (jm_cd mY_Z_soon) 133 = .ok (.iaload, 1) := by decide +kernel
theorem d_Z_soon_134 : decode (jm_cd mY_Z_soon) 134 = .ok (.ldc 186, 2) := by decide +kernel
theorem d_Z_soon_136 : decode (jm_cd mY_Z_soon) 136 = .ok (.if_icmp .eq 22, 3) := by decide +kernel
theorem d_Z_soon_139 : decode (jm_cd mY_Z_soon) 139 = .ok (.aload_n 0, 1) := by decide +kernel
theorem d_Z_soon_140 : decode (jm_cd mY_Z_soon) 140 = .ok (.getfield 40, 3) := by decide +kernel
theorem d_Z_soon_143 : decode (jm_cd mY_Z_soon) 143 = .ok (.iload_n 3, 1) := by decide +kernel
theorem d_Z_soon_144 : decode (jm_cd mY_Z_soon) 144 = .ok (.iaload, 1) := by decide +kernel
theorem d_Z_soon_145 : decode (jm_cd mY_Z_soon) 145 = .ok (.aload_n 0, 1) := by decide +kernel
theorem d_Z_soon_146 : decode (jm_cd mY_Z_soon) 146 = .ok (.getfield 58, 3) := by decide +kernel
theorem d_Z_soon_149 : decode (jm_cd mY_Z_soon) 149 = .ok (.iload_n 3, 1) := by decide +kernel
theorem d_Z_soon_150 : decode (jm_cd mY_Z_soon) 150 = .ok (.iaload, 1) := by decide +kernel
theorem d_Z_soon_151 : decode (jm_cd mY_Z_soon) 151 = .ok (.iload_n 1, 1) := by decide +kernel
theorem d_Z_soon_152 : decode (jm_cd mY_Z_soon) 152 = .ok (.iadd, 1) := by decide +kernel
theorem d_Z_soon_153 : decode (jm_cd mY_Z_soon) 153 = .ok (.iconst 1, 1) := by decide +kernel
theorem d_Z_soon_154 : decode (jm_cd mY_Z_soon) 154 = .ok (.isub, 1) := by decide +kernel
theorem d_Z_soon_155 : decode (jm_cd mY_Z_soon) 155 = .ok (.if_icmp .ge 7, 3) := by decide +kernel
theorem d_Z_soon_158 : decode (jm_cd mY_Z_soon) 158 = .ok (.iconst 1, 1) := by decide +kernel
theorem d_Z_soon_159 : decode (jm_cd mY_Z_soon) 159 = .ok (.goto 4, 3) := by decide +kernel
theorem d_Z_soon_162 : decode (jm_cd mY_Z_soon) 162 = .ok (.iconst 0, 1) := by decide +kernel
theorem d_Z_soon_163 : decode (jm_cd mY_Z_soon) 163 = .ok (.istore 4, 2) := by decide +kernel
theorem d_Z_soon_165 : decode (jm_cd mY_Z_soon) 165 = .ok (.iload_n 2, 1) := by decide +kernel
theorem d_Z_soon_166 : decode (jm_cd mY_Z_soon) 166 = .ok (.iload 4, 2) := by decide +kernel
theorem d_Z_soon_168 : decode (jm_cd mY_Z_soon) 168 = .ok (.ifCond .eq 9, 3) := by decide +kernel
theorem d_Z_soon_171 : decode (jm_cd mY_Z_soon) 171 = .ok (.iconst 1, 1) := by decide +kernel
theorem d_Z_soon_172 : decode (jm_cd mY_Z_soon) 172 = .ok (.iload_n 3, 1) := by decide +kernel
theorem d_Z_soon_173 : decode (jm_cd mY_Z_soon) 173 = .ok (.ishl, 1) := by decide +kernel
theorem d_Z_soon_174 : decode (jm_cd mY_Z_soon) 174 = .ok (.goto 4, 3) := by decide +kernel
theorem d_Z_soon_177 : decode (jm_cd mY_Z_soon) 177 = .ok (.iconst 0, 1) := by decide +kernel
theorem d_Z_soon_178 : decode (jm_cd mY_Z_soon) 178 = .ok (.ior, 1) := by decide +kernel
theorem d_Z_soon_179 : decode (jm_cd mY_Z_soon) 179 = .ok (.istore_n 2, 1) := by decide +kernel
theorem d_Z_soon_180 : decode (jm_cd mY_Z_soon) 180 = .ok (.iinc 3 1, 3) := by decide +kernel
theorem d_Z_soon_183 : decode (jm_cd mY_Z_soon) 183 = .ok (.goto (-91), 3) := by decide +kernel
theorem d_Z_soon_186 : decode (jm_cd mY_Z_soon) 186 = .ok (.iload_n 2, 1) := by decide +kernel
theorem d_Z_soon_187 : decode (jm_cd mY_Z_soon) 187 = .ok (.ireturn, 1) := by decide +kernel
def s_Z_soon_J163 (k56 : Int32 → Int32 → Int32 → jm_M → Option (Int32 × jm_M)) (x1 : Int32) (x2 : Int32) (x3 : Int32) (y0 : Int32) (s : jm_M) : Option (Int32 × jm_M) := (if y0 = 0 then jm_vi (x2 ||| 0) (fun v8 => k56 x1 v8 (x3 + 1) s) else jm_vi (x2 ||| (1 <<< (x3 &&& 31))) (fun v9 => k56 x1 v9 (x3 + 1) s))
set_option maxRecDepth 100000 in
set_option maxHeartbeats 4000000 in
theorem s_Z_soon_J163_ok {k56 : Int32 → Int32 → Int32 → jm_M → Option (Int32 × jm_M)} (hk56 : ∀ (x1 : Int32) (x2 : Int32) (x3 : Int32) (s : jm_M), jm_Sim mY_Z_soon 0 0 92 [(0, .ref 59), (1, .int x1), (2, .int x2), (3, .int x3)] [] 78 mr_154 s (k56 x1 x2 x3 s) (jm_rP 78 mr_154)) (x1 : Int32) (x2 : Int32) (x3 : Int32) (y0 : Int32) (s : jm_M) : jm_Sim mY_Z_soon 0 0 163 [(0, .ref 59), (1, .int x1), (2, .int x2), (3, .int x3)] [.int y0] 78 mr_154 s (s_Z_soon_J163 k56 x1 x2 x3 y0 s) (jm_rP 78 mr_154) := by
  unfold s_Z_soon_J163
  refine jm_istore (pc := 163) (L2 := [(4, .int y0), (0, .ref 59), (1, .int x1), (2, .int x2), (3, .int x3)]) d_Z_soon_163 (Nat.le_of_ble_eq_true rfl) rfl ?_
  refine jm_iload_n (pc := 165) (q := 3) (x := x2) d_Z_soon_165 rfl ?_
  refine jm_iload (pc := 166) (q := 0) (x := y0) d_Z_soon_166 rfl ?_
  refine jm_if_eq (pc := 168) (tgt := 177) d_Z_soon_168 (by decide) ?_ ?_
  · refine jm_iconst (pc := 177) (v := 0) d_Z_soon_177 ci_0 ?_
    refine jm_ior (pc := 178) d_Z_soon_178 ?_
    refine jm_nvi (fun v8 => ?_)
    refine jm_istore_n (pc := 179) (i := 2) (L2 := [(2, .int v8), (4, .int y0), (0, .ref 59), (1, .int x1), (3, .int x3)]) d_Z_soon_179 rfl (Nat.le_of_ble_eq_true rfl) rfl ?_
    refine jm_iinc (pc := 180) (q := 4) (x := x3) (v := 1) (L2 := [(3, .int (x3 + 1)), (2, .int v8), (4, .int y0), (0, .ref 59), (1, .int x1)]) d_Z_soon_180 rfl ci_1 (Nat.le_of_ble_eq_true rfl) rfl ?_
    refine jm_goto (pc := 183) (tgt := 92) d_Z_soon_183 (by decide) ?_
    refine jm_sub (L2 := [(0, .ref 59), (1, .int x1), (2, .int v8), (3, .int (x3 + 1))]) [3, 4, 1, 0] rfl ?_
    exact hk56 x1 v8 (x3 + 1) s
  · refine jm_iconst (pc := 171) (v := 1) d_Z_soon_171 ci_1 ?_
    refine jm_iload_n (pc := 172) (q := 4) (x := x3) d_Z_soon_172 rfl ?_
    refine jm_ishl (pc := 173) d_Z_soon_173 ?_
    refine jm_goto (pc := 174) (tgt := 178) d_Z_soon_174 (by decide) ?_
    refine jm_ior (pc := 178) d_Z_soon_178 ?_
    refine jm_nvi (fun v9 => ?_)
    refine jm_istore_n (pc := 179) (i := 2) (L2 := [(2, .int v9), (4, .int y0), (0, .ref 59), (1, .int x1), (3, .int x3)]) d_Z_soon_179 rfl (Nat.le_of_ble_eq_true rfl) rfl ?_
    refine jm_iinc (pc := 180) (q := 4) (x := x3) (v := 1) (L2 := [(3, .int (x3 + 1)), (2, .int v9), (4, .int y0), (0, .ref 59), (1, .int x1)]) d_Z_soon_180 rfl ci_1 (Nat.le_of_ble_eq_true rfl) rfl ?_
    refine jm_goto (pc := 183) (tgt := 92) d_Z_soon_183 (by decide) ?_
    refine jm_sub (L2 := [(0, .ref 59), (1, .int x1), (2, .int v9), (3, .int (x3 + 1))]) [3, 4, 1, 0] rfl ?_
    exact hk56 x1 v9 (x3 + 1) s
def s_Z_soon_L92 : Nat → Int32 → Int32 → Int32 → jm_M → Option (Int32 × jm_M)
  | 0, _, _, _, _ => none
  | n + 1, x1, x2, x3, s => jm_ldi s 61 4 0 (fun v6 => (if v6 ≤ x3 then (some (x2, s)) else jm_ldi s 62 40 x3 (fun v7 => (if v7 = 0 then jm_ldi s 70 30 x3 (fun v10 => jm_bd (s_Z_in s v10.toInt64 0 59) (fun v11 => (if v11 = 0 then s_Z_soon_J163 (s_Z_soon_L92 n) x1 x2 x3 0 s else jm_ldi s 76 10 x3 (fun v12 => (if v12 = 1000000 then s_Z_soon_J163 (s_Z_soon_L92 n) x1 x2 x3 1 s else jm_ldi s 70 30 x3 (fun v13 => jm_ldi s 76 10 x3 (fun v14 => (if ((v14 + x1) - 1) ≤ v13 then s_Z_soon_J163 (s_Z_soon_L92 n) x1 x2 x3 0 s else s_Z_soon_J163 (s_Z_soon_L92 n) x1 x2 x3 1 s)))))))) else s_Z_soon_J163 (s_Z_soon_L92 n) x1 x2 x3 0 s))))
set_option maxRecDepth 100000 in
set_option maxHeartbeats 4000000 in
theorem s_Z_soon_L92_ok : ∀ (n : Nat) (x1 : Int32) (x2 : Int32) (x3 : Int32) (s : jm_M), jm_Sim mY_Z_soon 0 0 92 [(0, .ref 59), (1, .int x1), (2, .int x2), (3, .int x3)] [] 78 mr_154 s (s_Z_soon_L92 n x1 x2 x3 s) (jm_rP 78 mr_154) := by
  intro n
  induction n with
  | zero => intro x1 x2 x3 s; exact jm_none
  | succ n ih =>
    intro x1 x2 x3 s
    rw [s_Z_soon_L92]
    refine jm_iload_n (pc := 92) (q := 3) (x := x3) d_Z_soon_92 rfl ?_
    refine jm_aload_n (pc := 93) (q := 0) (x := 59) d_Z_soon_93 rfl ?_
    refine jm_gr (pc := 94) (i := 59) d_Z_soon_94 fo_Z_13 sh_59 ge_59 le_59_78 rfl (fun _ => rfl) mr_154_59_2 ge_61 ?_
    refine jm_iconst (pc := 97) (v := 0) d_Z_soon_97 ci_0 ?_
    refine jm_iald (pc := 98) d_Z_soon_98 sh_61 ge_61 le_61_78 (fun v6 => ?_)
    refine jm_icmp_ge (pc := 99) (tgt := 186) d_Z_soon_99 (by decide) ?_ ?_
    · refine jm_iload_n (pc := 186) (q := 2) (x := x2) d_Z_soon_186 rfl ?_
      exact jm_iret (pc := 187) (x := x2) d_Z_soon_187 rfl rfl rfl rfl rfl
    · refine jm_aload_n (pc := 102) (q := 0) (x := 59) d_Z_soon_102 rfl ?_
      refine jm_gr (pc := 103) (i := 59) d_Z_soon_103 fo_Z_16 sh_59 ge_59 le_59_78 rfl (fun _ => rfl) mr_154_59_3 ge_62 ?_
      refine jm_iload_n (pc := 106) (q := 3) (x := x3) d_Z_soon_106 rfl ?_
      refine jm_iald (pc := 107) d_Z_soon_107 sh_62 ge_62 le_62_78 (fun v7 => ?_)
      refine jm_if_ne (pc := 108) (tgt := 162) d_Z_soon_108 (by decide) ?_ ?_
      · refine jm_aload_n (pc := 111) (q := 0) (x := 59) d_Z_soon_111 rfl ?_
        refine jm_gr (pc := 112) (i := 59) d_Z_soon_112 fo_Z_40 sh_59 ge_59 le_59_78 rfl (fun _ => rfl) mr_154_59_11 ge_70 ?_
        refine jm_iload_n (pc := 115) (q := 3) (x := x3) d_Z_soon_115 rfl ?_
        refine jm_iald (pc := 116) d_Z_soon_116 sh_70 ge_70 le_70_78 (fun v10 => ?_)
        refine jm_i2l (pc := 117) d_Z_soon_117 ?_
        refine jm_lconst (pc := 118) (v := 0) d_Z_soon_118 cl_0 ?_
        refine jm_ldc2 (pc := 119) (v := 59) d_Z_soon_119 kl_Z_147 ?_
        refine jm_Sp (pc := 122) (Y' := mY_Z_in) (avs := [.long v10.toInt64, .long 0, .long 59]) (rest := []) (s_Z_in_ok s v10.toInt64 0 59) ok_Z_in l0_Z_soon__Z_in ml_Z_69 sm_Z_in d_Z_soon_122 rfl rfl (Nat.le_of_ble_eq_true rfl) (Nat.le_of_ble_eq_true rfl) (Nat.le_of_ble_eq_true rfl) (Nat.le_of_ble_eq_true rfl) (fun v11 => ?_)
        refine jm_if_eq (pc := 125) (tgt := 162) d_Z_soon_125 (by decide) ?_ ?_
        · refine jm_iconst (pc := 162) (v := 0) d_Z_soon_162 ci_0 ?_
          exact s_Z_soon_J163_ok ih x1 x2 x3 0 s
        · refine jm_aload_n (pc := 128) (q := 0) (x := 59) d_Z_soon_128 rfl ?_
          refine jm_gr (pc := 129) (i := 59) d_Z_soon_129 fo_Z_58 sh_59 ge_59 le_59_78 rfl (fun _ => rfl) mr_154_59_27 ge_76 ?_
          refine jm_iload_n (pc := 132) (q := 3) (x := x3) d_Z_soon_132 rfl ?_
          refine jm_iald (pc := 133) d_Z_soon_133 sh_76 ge_76 le_76_78 (fun v12 => ?_)
          refine jm_ldc (pc := 134) (v := 1000000) d_Z_soon_134 k_Z_186 ?_
          refine jm_icmp_eq (pc := 136) (tgt := 158) d_Z_soon_136 (by decide) ?_ ?_
          · refine jm_iconst (pc := 158) (v := 1) d_Z_soon_158 ci_1 ?_
            refine jm_goto (pc := 159) (tgt := 163) d_Z_soon_159 (by decide) ?_
            exact s_Z_soon_J163_ok ih x1 x2 x3 1 s
          · refine jm_aload_n (pc := 139) (q := 0) (x := 59) d_Z_soon_139 rfl ?_
            refine jm_gr (pc := 140) (i := 59) d_Z_soon_140 fo_Z_40 sh_59 ge_59 le_59_78 rfl (fun _ => rfl) mr_154_59_11 ge_70 ?_
            refine jm_iload_n (pc := 143) (q := 3) (x := x3) d_Z_soon_143 rfl ?_
            refine jm_iald (pc := 144) d_Z_soon_144 sh_70 ge_70 le_70_78 (fun v13 => ?_)
            refine jm_aload_n (pc := 145) (q := 0) (x := 59) d_Z_soon_145 rfl ?_
            refine jm_gr (pc := 146) (i := 59) d_Z_soon_146 fo_Z_58 sh_59 ge_59 le_59_78 rfl (fun _ => rfl) mr_154_59_27 ge_76 ?_
            refine jm_iload_n (pc := 149) (q := 3) (x := x3) d_Z_soon_149 rfl ?_
            refine jm_iald (pc := 150) d_Z_soon_150 sh_76 ge_76 le_76_78 (fun v14 => ?_)
            refine jm_iload_n (pc := 151) (q := 1) (x := x1) d_Z_soon_151 rfl ?_
            refine jm_iadd (pc := 152) d_Z_soon_152 ?_
            refine jm_iconst (pc := 153) (v := 1) d_Z_soon_153 ci_1 ?_
            refine jm_isub (pc := 154) d_Z_soon_154 ?_
            refine jm_icmp_ge (pc := 155) (tgt := 162) d_Z_soon_155 (by decide) ?_ ?_
            · refine jm_iconst (pc := 162) (v := 0) d_Z_soon_162 ci_0 ?_
              exact s_Z_soon_J163_ok ih x1 x2 x3 0 s
            · refine jm_iconst (pc := 158) (v := 1) d_Z_soon_158 ci_1 ?_
              refine jm_goto (pc := 159) (tgt := 163) d_Z_soon_159 (by decide) ?_
              exact s_Z_soon_J163_ok ih x1 x2 x3 1 s
      · refine jm_iconst (pc := 162) (v := 0) d_Z_soon_162 ci_0 ?_
        exact s_Z_soon_J163_ok ih x1 x2 x3 0 s
def s_Z_soon_L5 : Nat → Int32 → Int32 → jm_M → Option (Int32 × jm_M)
  | 0, _, _, _ => none
  | n + 1, x1, x2, s => jm_ldi s 61 4 0 (fun v1 => (if v1 ≤ x2 then (if x1 = 60 then (some (0, s)) else jm_bd (s_Z_asTold s) (fun s2 => jm_bd (s_Z_ofKind s2 1) (fun v3 => jm_bd (s_Z_kindle s2 v3 1) (fun s4 => jm_bd (s_Z_spread s4 0) (fun s5 => s_Z_soon_L92 5000 x1 0 0 s5))))) else jm_ldi s 62 40 x2 (fun v15 => (if v15 = 1 then jm_ldi s 70 30 x2 (fun v16 => (if v16 < 0 then s_Z_soon_L5 n x1 (x2 + 1) s else jm_ldi s 70 30 x2 (fun v17 => (if x1 ≤ v17 then s_Z_soon_L5 n x1 (x2 + 1) s else jm_ldi s 70 30 x2 (fun v18 => s_Z_soon_L5 n v18 (x2 + 1) s))))) else s_Z_soon_L5 n x1 (x2 + 1) s))))
set_option maxRecDepth 100000 in
set_option maxHeartbeats 4000000 in
theorem s_Z_soon_L5_ok : ∀ (n : Nat) (x1 : Int32) (x2 : Int32) (s : jm_M), jm_Sim mY_Z_soon 0 0 5 [(0, .ref 59), (1, .int x1), (2, .int x2)] [] 78 mr_154 s (s_Z_soon_L5 n x1 x2 s) (jm_rP 78 mr_154) := by
  intro n
  induction n with
  | zero => intro x1 x2 s; exact jm_none
  | succ n ih =>
    intro x1 x2 s
    rw [s_Z_soon_L5]
    refine jm_iload_n (pc := 5) (q := 2) (x := x2) d_Z_soon_5 rfl ?_
    refine jm_aload_n (pc := 6) (q := 0) (x := 59) d_Z_soon_6 rfl ?_
    refine jm_gr (pc := 7) (i := 59) d_Z_soon_7 fo_Z_13 sh_59 ge_59 le_59_78 rfl (fun _ => rfl) mr_154_59_2 ge_61 ?_
    refine jm_iconst (pc := 10) (v := 0) d_Z_soon_10 ci_0 ?_
    refine jm_iald (pc := 11) d_Z_soon_11 sh_61 ge_61 le_61_78 (fun v1 => ?_)
    refine jm_icmp_ge (pc := 12) (tgt := 61) d_Z_soon_12 (by decide) ?_ ?_
    · refine jm_iload_n (pc := 61) (q := 1) (x := x1) d_Z_soon_61 rfl ?_
      refine jm_bipush (pc := 62) (v := 60) d_Z_soon_62 cb_60 ?_
      refine jm_icmp_ne (pc := 64) (tgt := 69) d_Z_soon_64 (by decide) ?_ ?_
      · refine jm_iconst (pc := 67) (v := 0) d_Z_soon_67 ci_0 ?_
        exact jm_iret (pc := 68) (x := 0) d_Z_soon_68 rfl rfl rfl rfl rfl
      · refine jm_aload_n (pc := 69) (q := 0) (x := 59) d_Z_soon_69 rfl ?_
        refine jm_Vv (pc := 70) (Y' := mY_Z_asTold) (i := 59) (avs := []) (rest := []) (s_Z_asTold_ok s) ok_Z_asTold l0_Z_soon__Z_asTold ml_Z_203 im_Z_asTold se_Z_asTold d_Z_soon_70 rfl sh_59 rfl rfl ge_59 le_59_78 rfl (Nat.le_of_ble_eq_true rfl) (Nat.le_of_ble_eq_true rfl) (Nat.le_of_ble_eq_true rfl) (Nat.le_of_ble_eq_true rfl) (fun s2 => ?_)
        refine jm_aload_n (pc := 73) (q := 0) (x := 59) d_Z_soon_73 rfl ?_
        refine jm_aload_n (pc := 74) (q := 0) (x := 59) d_Z_soon_74 rfl ?_
        refine jm_iconst (pc := 75) (v := 1) d_Z_soon_75 ci_1 ?_
        refine jm_Vp (pc := 76) (Y' := mY_Z_ofKind) (i := 59) (avs := [.int 1]) (rest := [.ref 59]) (s_Z_ofKind_ok s2 1) ok_Z_ofKind l0_Z_soon__Z_ofKind ml_Z_143 im_Z_ofKind se_Z_ofKind d_Z_soon_76 rfl sh_59 rfl rfl ge_59 le_59_78 rfl (Nat.le_of_ble_eq_true rfl) (Nat.le_of_ble_eq_true rfl) (Nat.le_of_ble_eq_true rfl) (Nat.le_of_ble_eq_true rfl) (fun v3 => ?_)
        refine jm_iconst (pc := 79) (v := 1) d_Z_soon_79 ci_1 ?_
        refine jm_Vv (pc := 80) (Y' := mY_Z_kindle) (i := 59) (avs := [.int v3, .int 1]) (rest := []) (s_Z_kindle_ok s2 v3 1) ok_Z_kindle l0_Z_soon__Z_kindle ml_Z_196 im_Z_kindle se_Z_kindle d_Z_soon_80 rfl sh_59 rfl rfl ge_59 le_59_78 rfl (Nat.le_of_ble_eq_true rfl) (Nat.le_of_ble_eq_true rfl) (Nat.le_of_ble_eq_true rfl) (Nat.le_of_ble_eq_true rfl) (fun s4 => ?_)
        refine jm_aload_n (pc := 83) (q := 0) (x := 59) d_Z_soon_83 rfl ?_
        refine jm_iconst (pc := 84) (v := 0) d_Z_soon_84 ci_0 ?_
        refine jm_Vv (pc := 85) (Y' := mY_Z_spread) (i := 59) (avs := [.int 0]) (rest := []) (s_Z_spread_ok s4 0) ok_Z_spread l0_Z_soon__Z_spread ml_Z_199 im_Z_spread se_Z_spread d_Z_soon_85 rfl sh_59 rfl rfl ge_59 le_59_78 rfl (Nat.le_of_ble_eq_true rfl) (Nat.le_of_ble_eq_true rfl) (Nat.le_of_ble_eq_true rfl) (Nat.le_of_ble_eq_true rfl) (fun s5 => ?_)
        refine jm_iconst (pc := 88) (v := 0) d_Z_soon_88 ci_0 ?_
        refine jm_istore_n (pc := 89) (i := 2) (L2 := [(2, .int 0), (0, .ref 59), (1, .int x1)]) d_Z_soon_89 rfl (Nat.le_of_ble_eq_true rfl) rfl ?_
        refine jm_iconst (pc := 90) (v := 0) d_Z_soon_90 ci_0 ?_
        refine jm_istore_n (pc := 91) (i := 3) (L2 := [(3, .int 0), (2, .int 0), (0, .ref 59), (1, .int x1)]) d_Z_soon_91 rfl (Nat.le_of_ble_eq_true rfl) rfl ?_
        refine jm_sub (L2 := [(0, .ref 59), (1, .int x1), (2, .int 0), (3, .int 0)]) [2, 3, 1, 0] rfl ?_
        exact s_Z_soon_L92_ok 5000 x1 0 0 s5
    · refine jm_aload_n (pc := 15) (q := 0) (x := 59) d_Z_soon_15 rfl ?_
      refine jm_gr (pc := 16) (i := 59) d_Z_soon_16 fo_Z_16 sh_59 ge_59 le_59_78 rfl (fun _ => rfl) mr_154_59_3 ge_62 ?_
      refine jm_iload_n (pc := 19) (q := 2) (x := x2) d_Z_soon_19 rfl ?_
      refine jm_iald (pc := 20) d_Z_soon_20 sh_62 ge_62 le_62_78 (fun v15 => ?_)
      refine jm_iconst (pc := 21) (v := 1) d_Z_soon_21 ci_1 ?_
      refine jm_icmp_ne (pc := 22) (tgt := 53) d_Z_soon_22 (by decide) ?_ ?_
      · refine jm_aload_n (pc := 25) (q := 0) (x := 59) d_Z_soon_25 rfl ?_
        refine jm_gr (pc := 26) (i := 59) d_Z_soon_26 fo_Z_40 sh_59 ge_59 le_59_78 rfl (fun _ => rfl) mr_154_59_11 ge_70 ?_
        refine jm_iload_n (pc := 29) (q := 2) (x := x2) d_Z_soon_29 rfl ?_
        refine jm_iald (pc := 30) d_Z_soon_30 sh_70 ge_70 le_70_78 (fun v16 => ?_)
        refine jm_if_lt (pc := 31) (tgt := 53) d_Z_soon_31 (by decide) ?_ ?_
        · refine jm_iload_n (pc := 53) (q := 1) (x := x1) d_Z_soon_53 rfl ?_
          refine jm_istore_n (pc := 54) (i := 1) (L2 := [(1, .int x1), (0, .ref 59), (2, .int x2)]) d_Z_soon_54 rfl (Nat.le_of_ble_eq_true rfl) rfl ?_
          refine jm_iinc (pc := 55) (q := 2) (x := x2) (v := 1) (L2 := [(2, .int (x2 + 1)), (1, .int x1), (0, .ref 59)]) d_Z_soon_55 rfl ci_1 (Nat.le_of_ble_eq_true rfl) rfl ?_
          refine jm_goto (pc := 58) (tgt := 5) d_Z_soon_58 (by decide) ?_
          refine jm_sub (L2 := [(0, .ref 59), (1, .int x1), (2, .int (x2 + 1))]) [2, 1, 0] rfl ?_
          exact ih x1 (x2 + 1) s
        · refine jm_aload_n (pc := 34) (q := 0) (x := 59) d_Z_soon_34 rfl ?_
          refine jm_gr (pc := 35) (i := 59) d_Z_soon_35 fo_Z_40 sh_59 ge_59 le_59_78 rfl (fun _ => rfl) mr_154_59_11 ge_70 ?_
          refine jm_iload_n (pc := 38) (q := 2) (x := x2) d_Z_soon_38 rfl ?_
          refine jm_iald (pc := 39) d_Z_soon_39 sh_70 ge_70 le_70_78 (fun v17 => ?_)
          refine jm_iload_n (pc := 40) (q := 1) (x := x1) d_Z_soon_40 rfl ?_
          refine jm_icmp_ge (pc := 41) (tgt := 53) d_Z_soon_41 (by decide) ?_ ?_
          · refine jm_iload_n (pc := 53) (q := 1) (x := x1) d_Z_soon_53 rfl ?_
            refine jm_istore_n (pc := 54) (i := 1) (L2 := [(1, .int x1), (0, .ref 59), (2, .int x2)]) d_Z_soon_54 rfl (Nat.le_of_ble_eq_true rfl) rfl ?_
            refine jm_iinc (pc := 55) (q := 2) (x := x2) (v := 1) (L2 := [(2, .int (x2 + 1)), (1, .int x1), (0, .ref 59)]) d_Z_soon_55 rfl ci_1 (Nat.le_of_ble_eq_true rfl) rfl ?_
            refine jm_goto (pc := 58) (tgt := 5) d_Z_soon_58 (by decide) ?_
            refine jm_sub (L2 := [(0, .ref 59), (1, .int x1), (2, .int (x2 + 1))]) [2, 1, 0] rfl ?_
            exact ih x1 (x2 + 1) s
          · refine jm_aload_n (pc := 44) (q := 0) (x := 59) d_Z_soon_44 rfl ?_
            refine jm_gr (pc := 45) (i := 59) d_Z_soon_45 fo_Z_40 sh_59 ge_59 le_59_78 rfl (fun _ => rfl) mr_154_59_11 ge_70 ?_
            refine jm_iload_n (pc := 48) (q := 2) (x := x2) d_Z_soon_48 rfl ?_
            refine jm_iald (pc := 49) d_Z_soon_49 sh_70 ge_70 le_70_78 (fun v18 => ?_)
            refine jm_goto (pc := 50) (tgt := 54) d_Z_soon_50 (by decide) ?_
            refine jm_istore_n (pc := 54) (i := 1) (L2 := [(1, .int v18), (0, .ref 59), (2, .int x2)]) d_Z_soon_54 rfl (Nat.le_of_ble_eq_true rfl) rfl ?_
            refine jm_iinc (pc := 55) (q := 2) (x := x2) (v := 1) (L2 := [(2, .int (x2 + 1)), (1, .int v18), (0, .ref 59)]) d_Z_soon_55 rfl ci_1 (Nat.le_of_ble_eq_true rfl) rfl ?_
            refine jm_goto (pc := 58) (tgt := 5) d_Z_soon_58 (by decide) ?_
            refine jm_sub (L2 := [(0, .ref 59), (1, .int v18), (2, .int (x2 + 1))]) [2, 1, 0] rfl ?_
            exact ih v18 (x2 + 1) s
      · refine jm_iload_n (pc := 53) (q := 1) (x := x1) d_Z_soon_53 rfl ?_
        refine jm_istore_n (pc := 54) (i := 1) (L2 := [(1, .int x1), (0, .ref 59), (2, .int x2)]) d_Z_soon_54 rfl (Nat.le_of_ble_eq_true rfl) rfl ?_
        refine jm_iinc (pc := 55) (q := 2) (x := x2) (v := 1) (L2 := [(2, .int (x2 + 1)), (1, .int x1), (0, .ref 59)]) d_Z_soon_55 rfl ci_1 (Nat.le_of_ble_eq_true rfl) rfl ?_
        refine jm_goto (pc := 58) (tgt := 5) d_Z_soon_58 (by decide) ?_
        refine jm_sub (L2 := [(0, .ref 59), (1, .int x1), (2, .int (x2 + 1))]) [2, 1, 0] rfl ?_
        exact ih x1 (x2 + 1) s
def s_Z_soon (s : jm_M) : Option (Int32 × jm_M) := s_Z_soon_L5 5000 60 0 s
set_option maxRecDepth 100000 in
set_option maxHeartbeats 4000000 in
theorem s_Z_soon_ok (s : jm_M) : jm_Sim mY_Z_soon 0 0 0 [(0, .ref 59)] [] 78 mr_154 s (s_Z_soon s) (jm_rP 78 mr_154) := by
  unfold s_Z_soon
  refine jm_bipush (pc := 0) (v := 60) d_Z_soon_0 cb_60 ?_
  refine jm_istore_n (pc := 2) (i := 1) (L2 := [(1, .int 60), (0, .ref 59)]) d_Z_soon_2 rfl (Nat.le_of_ble_eq_true rfl) rfl ?_
  refine jm_iconst (pc := 3) (v := 0) d_Z_soon_3 ci_0 ?_
  refine jm_istore_n (pc := 4) (i := 2) (L2 := [(2, .int 0), (1, .int 60), (0, .ref 59)]) d_Z_soon_4 rfl (Nat.le_of_ble_eq_true rfl) rfl ?_
  refine jm_sub (L2 := [(0, .ref 59), (1, .int 60), (2, .int 0)]) [2, 1, 0] rfl ?_
  exact s_Z_soon_L5_ok 5000 60 0 s
theorem d_Z_logs_0 : decode (jm_cd mY_Z_logs) 0 = .ok (.iload_n 1, 1) := by decide +kernel
theorem d_Z_logs_1 : decode (jm_cd mY_Z_logs) 1 = .ok (.tableswitch 53 0 3 #[31, 37, 43, 48], 31) := by decide +kernel
theorem d_Z_logs_32 : decode (jm_cd mY_Z_logs) 32 = .ok (.aload_n 0, 1) := by decide +kernel
theorem d_Z_logs_33 : decode (jm_cd mY_Z_logs) 33 = .ok (.iconst 2, 1) := by decide +kernel
theorem d_Z_logs_34 : decode (jm_cd mY_Z_logs) 34 = .ok (.invokevirtual 238, 3) := by decide +kernel
theorem d_Z_logs_37 : decode (jm_cd mY_Z_logs) 37 = .ok (.ireturn, 1) := by decide +kernel
theorem d_Z_logs_38 : decode (jm_cd mY_Z_logs) 38 = .ok (.aload_n 0, 1) := by decide +kernel
theorem d_Z_logs_39 : decode (jm_cd mY_Z_logs) 39 = .ok (.iconst 1, 1) := by decide +kernel
theorem d_Z_logs_40 : decode (jm_cd mY_Z_logs) 40 = .ok (.invokevirtual 238, 3) := by decide +kernel
theorem d_Z_logs_43 : decode (jm_cd mY_Z_logs) 43 = .ok (.ireturn, 1) := by decide +kernel
theorem d_Z_logs_44 : decode (jm_cd mY_Z_logs) 44 = .ok (.aload_n 0, 1) := by decide +kernel
theorem d_Z_logs_45 : decode (jm_cd mY_Z_logs) 45 = .ok (.invokevirtual 241, 3) := by decide +kernel
theorem d_Z_logs_48 : decode (jm_cd mY_Z_logs) 48 = .ok (.ireturn, 1) := by decide +kernel
theorem d_Z_logs_49 : decode (jm_cd mY_Z_logs) 49 = .ok (.aload_n 0, 1) := by decide +kernel
theorem d_Z_logs_50 : decode (jm_cd mY_Z_logs) 50 = .ok (.invokevirtual 244, 3) := by decide +kernel
theorem d_Z_logs_53 : decode (jm_cd mY_Z_logs) 53 = .ok (.ireturn, 1) := by decide +kernel
theorem d_Z_logs_54 : decode (jm_cd mY_Z_logs) 54 = .ok (.iconst (-1), 1) := by decide +kernel
theorem d_Z_logs_55 : decode (jm_cd mY_Z_logs) 55 = .ok (.ireturn, 1) := by decide +kernel
def s_Z_logs (s : jm_M) (a0 : Int32) : Option (Int32 × jm_M) := (if a0 = 0 then jm_bd (s_Z_causes s 2) (fun v1 => (some (v1, s))) else (if a0 = 1 then jm_bd (s_Z_causes s 1) (fun v2 => (some (v2, s))) else (if a0 = 2 then jm_bd (s_Z_asked s) (fun v3 => (some (v3, s))) else (if a0 = 3 then jm_b2 (s_Z_soon s) (fun v4 s5 => (some (v4, s5))) else (some ((-1), s))))))
set_option maxRecDepth 100000 in
set_option maxHeartbeats 4000000 in
theorem s_Z_logs_ok (s : jm_M) (a0 : Int32) : jm_Sim mY_Z_logs 0 0 0 [(0, .ref 59), (1, .int a0)] [] 78 mr_154 s (s_Z_logs s a0) (jm_rP 78 mr_154) := by
  unfold s_Z_logs
  refine jm_iload_n (pc := 0) (q := 1) (x := a0) d_Z_logs_0 rfl ?_
  refine jm_case 0 ?_ (fun h0 => ?_)
  · refine jm_tswIn (pc := 1) (tgt := 32) d_Z_logs_1 (by decide) (by decide) (off := 31) (by decide) (by decide) ?_
    refine jm_aload_n (pc := 32) (q := 0) (x := 59) d_Z_logs_32 rfl ?_
    refine jm_iconst (pc := 33) (v := 2) d_Z_logs_33 ci_2 ?_
    refine jm_Vp (pc := 34) (Y' := mY_Z_causes) (i := 59) (avs := [.int 2]) (rest := []) (s_Z_causes_ok s 2) ok_Z_causes l0_Z_logs__Z_causes ml_Z_238 im_Z_causes se_Z_causes d_Z_logs_34 rfl sh_59 rfl rfl ge_59 le_59_78 rfl (Nat.le_of_ble_eq_true rfl) (Nat.le_of_ble_eq_true rfl) (Nat.le_of_ble_eq_true rfl) (Nat.le_of_ble_eq_true rfl) (fun v1 => ?_)
    exact jm_iret (pc := 37) (x := v1) d_Z_logs_37 rfl rfl rfl rfl rfl
  refine jm_case 1 ?_ (fun h1 => ?_)
  · refine jm_tswIn (pc := 1) (tgt := 38) d_Z_logs_1 (by decide) (by decide) (off := 37) (by decide) (by decide) ?_
    refine jm_aload_n (pc := 38) (q := 0) (x := 59) d_Z_logs_38 rfl ?_
    refine jm_iconst (pc := 39) (v := 1) d_Z_logs_39 ci_1 ?_
    refine jm_Vp (pc := 40) (Y' := mY_Z_causes) (i := 59) (avs := [.int 1]) (rest := []) (s_Z_causes_ok s 1) ok_Z_causes l0_Z_logs__Z_causes ml_Z_238 im_Z_causes se_Z_causes d_Z_logs_40 rfl sh_59 rfl rfl ge_59 le_59_78 rfl (Nat.le_of_ble_eq_true rfl) (Nat.le_of_ble_eq_true rfl) (Nat.le_of_ble_eq_true rfl) (Nat.le_of_ble_eq_true rfl) (fun v2 => ?_)
    exact jm_iret (pc := 43) (x := v2) d_Z_logs_43 rfl rfl rfl rfl rfl
  refine jm_case 2 ?_ (fun h2 => ?_)
  · refine jm_tswIn (pc := 1) (tgt := 44) d_Z_logs_1 (by decide) (by decide) (off := 43) (by decide) (by decide) ?_
    refine jm_aload_n (pc := 44) (q := 0) (x := 59) d_Z_logs_44 rfl ?_
    refine jm_Vp (pc := 45) (Y' := mY_Z_asked) (i := 59) (avs := []) (rest := []) (s_Z_asked_ok s) ok_Z_asked l0_Z_logs__Z_asked ml_Z_241 im_Z_asked se_Z_asked d_Z_logs_45 rfl sh_59 rfl rfl ge_59 le_59_78 rfl (Nat.le_of_ble_eq_true rfl) (Nat.le_of_ble_eq_true rfl) (Nat.le_of_ble_eq_true rfl) (Nat.le_of_ble_eq_true rfl) (fun v3 => ?_)
    exact jm_iret (pc := 48) (x := v3) d_Z_logs_48 rfl rfl rfl rfl rfl
  refine jm_case 3 ?_ (fun h3 => ?_)
  · refine jm_tswIn (pc := 1) (tgt := 49) d_Z_logs_1 (by decide) (by decide) (off := 48) (by decide) (by decide) ?_
    refine jm_aload_n (pc := 49) (q := 0) (x := 59) d_Z_logs_49 rfl ?_
    refine jm_Vi (pc := 50) (Y' := mY_Z_soon) (i := 59) (avs := []) (rest := []) (s_Z_soon_ok s) ok_Z_soon l0_Z_logs__Z_soon ml_Z_244 im_Z_soon se_Z_soon d_Z_logs_50 rfl sh_59 rfl rfl ge_59 le_59_78 rfl (Nat.le_of_ble_eq_true rfl) (Nat.le_of_ble_eq_true rfl) (Nat.le_of_ble_eq_true rfl) (Nat.le_of_ble_eq_true rfl) (fun v4 s5 => ?_)
    exact jm_iret (pc := 53) (x := v4) d_Z_logs_53 rfl rfl rfl rfl rfl
  refine jm_tswOut (pc := 1) (tgt := 54) d_Z_logs_1 (by have e0 := jm_neT 0 h0 (a := 0) (by decide); have e1 := jm_neT 1 h1 (a := 1) (by decide); have e2 := jm_neT 2 h2 (a := 2) (by decide); have e3 := jm_neT 3 h3 (a := 3) (by decide); omega) (by decide) ?_
  refine jm_iconst (pc := 54) (v := (-1)) d_Z_logs_54 ci_m1 ?_
  exact jm_iret (pc := 55) (x := (-1)) d_Z_logs_55 rfl rfl rfl rfl rfl
theorem d_X_isSign_0 : decode (jm_cd mY_X_isSign) 0 = .ok (.iload_n 0, 1) := by decide +kernel
theorem d_X_isSign_1 : decode (jm_cd mY_X_isSign) 1 = .ok (.ifCond .lt 13, 3) := by decide +kernel
theorem d_X_isSign_4 : decode (jm_cd mY_X_isSign) 4 = .ok (.iload_n 0, 1) := by decide +kernel
theorem d_X_isSign_5 : decode (jm_cd mY_X_isSign) 5 = .ok (.bipush 6, 2) := by decide +kernel
theorem d_X_isSign_7 : decode (jm_cd mY_X_isSign) 7 = .ok (.if_icmp .ge 7, 3) := by decide +kernel
theorem d_X_isSign_10 : decode (jm_cd mY_X_isSign) 10 = .ok (.iconst 1, 1) := by decide +kernel
theorem d_X_isSign_11 : decode (jm_cd mY_X_isSign) 11 = .ok (.goto 4, 3) := by decide +kernel
theorem d_X_isSign_14 : decode (jm_cd mY_X_isSign) 14 = .ok (.iconst 0, 1) := by decide +kernel
theorem d_X_isSign_15 : decode (jm_cd mY_X_isSign) 15 = .ok (.ireturn, 1) := by decide +kernel
def s_X_isSign (s : jm_M) (a0 : Int32) : Option Int32 := (if a0 < 0 then (some 0) else (if 6 ≤ a0 then (some 0) else (some 1)))
set_option maxRecDepth 100000 in
set_option maxHeartbeats 4000000 in
theorem s_X_isSign_ok (s : jm_M) (a0 : Int32) : jm_Sim mY_X_isSign 0 0 0 [(0, .int a0)] [] 78 mr_154 s (s_X_isSign s a0) (jm_rI 78 mr_154 s) := by
  unfold s_X_isSign
  refine jm_iload_n (pc := 0) (q := 0) (x := a0) d_X_isSign_0 rfl ?_
  refine jm_if_lt (pc := 1) (tgt := 14) d_X_isSign_1 (by decide) ?_ ?_
  · refine jm_iconst (pc := 14) (v := 0) d_X_isSign_14 ci_0 ?_
    exact jm_iret (pc := 15) (x := 0) d_X_isSign_15 rfl (by decide) rfl rfl rfl
  · refine jm_iload_n (pc := 4) (q := 0) (x := a0) d_X_isSign_4 rfl ?_
    refine jm_bipush (pc := 5) (v := 6) d_X_isSign_5 cb_6 ?_
    refine jm_icmp_ge (pc := 7) (tgt := 14) d_X_isSign_7 (by decide) ?_ ?_
    · refine jm_iconst (pc := 14) (v := 0) d_X_isSign_14 ci_0 ?_
      exact jm_iret (pc := 15) (x := 0) d_X_isSign_15 rfl (by decide) rfl rfl rfl
    · refine jm_iconst (pc := 10) (v := 1) d_X_isSign_10 ci_1 ?_
      refine jm_goto (pc := 11) (tgt := 15) d_X_isSign_11 (by decide) ?_
      exact jm_iret (pc := 15) (x := 1) d_X_isSign_15 rfl (by decide) rfl rfl rfl
theorem d_Si_firesIn_0 : decode (jm_cd mY_Si_firesIn) 0 = .ok (.iload_n 1, 1) := by decide +kernel
theorem d_Si_firesIn_1 : decode (jm_cd mY_Si_firesIn) 1 = .ok (.invokestatic 15, 3) := by decide +kernel
theorem d_Si_firesIn_4 : decode (jm_cd mY_Si_firesIn) 4 = .ok (.ifCond .eq 13, 3) := by decide +kernel
theorem d_Si_firesIn_7 : decode (jm_cd mY_Si_firesIn) 7 = .ok (.iload_n 2, 1) := by decide +kernel
theorem d_Si_firesIn_8 : decode (jm_cd mY_Si_firesIn) 8 = .ok (.ifCond .lt 9, 3) := by decide +kernel
theorem d_Si_firesIn_11 : decode (jm_cd mY_Si_firesIn) 11 = .ok (.iload_n 2, 1) := by decide +kernel
theorem d_Si_firesIn_12 : decode (jm_cd mY_Si_firesIn) 12 = .ok (.bipush 12, 2) := by decide +kernel
theorem d_Si_firesIn_14 : decode (jm_cd mY_Si_firesIn) 14 = .ok (.if_icmp .lt 5, 3) := by decide +kernel
theorem d_Si_firesIn_17 : decode (jm_cd mY_Si_firesIn) 17 = .ok (.iconst 0, 1) := by decide +kernel
theorem d_Si_firesIn_18 : decode (jm_cd mY_Si_firesIn) 18 = .ok (.ireturn, 1) := by decide +kernel
theorem d_Si_firesIn_19 : decode (jm_cd mY_Si_firesIn) 19 = .ok (.aload_n 0, 1) := by decide +kernel
theorem d_Si_firesIn_20 : decode (jm_cd mY_Si_firesIn) 20 = .ok (.getfield 9, 3) := by decide +kernel
theorem d_Si_firesIn_23 : decode (jm_cd mY_Si_firesIn) 23 = .ok (.iload_n 1, 1) := by decide +kernel
theorem d_Si_firesIn_24 : decode (jm_cd mY_Si_firesIn) 24 = .ok (.bipush 12, 2) := by decide +kernel
theorem d_Si_firesIn_26 : decode (jm_cd mY_Si_firesIn) 26 = .ok (.imul, 1) := by decide +kernel
theorem d_Si_firesIn_27 : decode (jm_cd mY_Si_firesIn) 27 = .ok (.iload_n 2, 1) := by decide +kernel
theorem d_Si_firesIn_28 : decode (jm_cd mY_Si_firesIn) 28 = .ok (.iadd, 1) := by decide +kernel
theorem d_Si_firesIn_29 : decode (jm_cd mY_Si_firesIn) 29 = .ok (.iaload, 1) := by decide +kernel
theorem d_Si_firesIn_30 : decode (jm_cd mY_Si_firesIn) 30 = .ok (.ireturn, 1) := by decide +kernel
def s_Si_firesIn (s : jm_M) (a0 : Int32) (a1 : Int32) : Option Int32 := jm_bd (s_X_isSign s a0) (fun v1 => (if v1 = 0 then (some 0) else (if a1 < 0 then (some 0) else (if a1 < 12 then jm_ldi s 54 72 ((a0 * 12) + a1) (fun v2 => (some v2)) else (some 0)))))
set_option maxRecDepth 100000 in
set_option maxHeartbeats 4000000 in
theorem s_Si_firesIn_ok (s : jm_M) (a0 : Int32) (a1 : Int32) : jm_Sim mY_Si_firesIn 0 0 0 [(0, .ref 53), (1, .int a0), (2, .int a1)] [] 78 mr_154 s (s_Si_firesIn s a0 a1) (jm_rI 78 mr_154 s) := by
  unfold s_Si_firesIn
  refine jm_iload_n (pc := 0) (q := 1) (x := a0) d_Si_firesIn_0 rfl ?_
  refine jm_Np (pc := 1) (Y' := mY_X_isSign) (avs := [.int a0]) (rest := []) (s_X_isSign_ok s a0) ok_X_isSign l0_Si_firesIn__X_isSign nl_Si_15 sm_X_isSign d_Si_firesIn_1 rfl rfl (Nat.le_of_ble_eq_true rfl) (Nat.le_of_ble_eq_true rfl) (Nat.le_of_ble_eq_true rfl) (Nat.le_of_ble_eq_true rfl) (fun v1 => ?_)
  refine jm_if_eq (pc := 4) (tgt := 17) d_Si_firesIn_4 (by decide) ?_ ?_
  · refine jm_iconst (pc := 17) (v := 0) d_Si_firesIn_17 ci_0 ?_
    exact jm_iret (pc := 18) (x := 0) d_Si_firesIn_18 rfl rfl rfl rfl rfl
  · refine jm_iload_n (pc := 7) (q := 2) (x := a1) d_Si_firesIn_7 rfl ?_
    refine jm_if_lt (pc := 8) (tgt := 17) d_Si_firesIn_8 (by decide) ?_ ?_
    · refine jm_iconst (pc := 17) (v := 0) d_Si_firesIn_17 ci_0 ?_
      exact jm_iret (pc := 18) (x := 0) d_Si_firesIn_18 rfl rfl rfl rfl rfl
    · refine jm_iload_n (pc := 11) (q := 2) (x := a1) d_Si_firesIn_11 rfl ?_
      refine jm_bipush (pc := 12) (v := 12) d_Si_firesIn_12 cb_12 ?_
      refine jm_icmp_lt (pc := 14) (tgt := 19) d_Si_firesIn_14 (by decide) ?_ ?_
      · refine jm_aload_n (pc := 19) (q := 0) (x := 53) d_Si_firesIn_19 rfl ?_
        refine jm_gr (pc := 20) (i := 53) d_Si_firesIn_20 fo_Si_9 sh_53 ge_53 le_53_78 rfl (fun _ => rfl) mr_154_53_0 ge_54 ?_
        refine jm_iload_n (pc := 23) (q := 1) (x := a0) d_Si_firesIn_23 rfl ?_
        refine jm_bipush (pc := 24) (v := 12) d_Si_firesIn_24 cb_12 ?_
        refine jm_imul (pc := 26) d_Si_firesIn_26 ?_
        refine jm_iload_n (pc := 27) (q := 2) (x := a1) d_Si_firesIn_27 rfl ?_
        refine jm_iadd (pc := 28) d_Si_firesIn_28 ?_
        refine jm_iald (pc := 29) d_Si_firesIn_29 sh_54 ge_54 le_54_78 (fun v2 => ?_)
        exact jm_iret (pc := 30) (x := v2) d_Si_firesIn_30 rfl rfl rfl rfl rfl
      · refine jm_iconst (pc := 17) (v := 0) d_Si_firesIn_17 ci_0 ?_
        exact jm_iret (pc := 18) (x := 0) d_Si_firesIn_18 rfl rfl rfl rfl rfl
theorem d_Si_setFires_0 : decode (jm_cd mY_Si_setFires) 0 = .ok (.iload_n 1, 1) := by decide +kernel
theorem d_Si_setFires_1 : decode (jm_cd mY_Si_setFires) 1 = .ok (.invokestatic 15, 3) := by decide +kernel
theorem d_Si_setFires_4 : decode (jm_cd mY_Si_setFires) 4 = .ok (.ifCond .eq 25, 3) := by decide +kernel
theorem d_Si_setFires_7 : decode (jm_cd mY_Si_setFires) 7 = .ok (.iload_n 2, 1) := by decide +kernel
theorem d_Si_setFires_8 : decode (jm_cd mY_Si_setFires) 8 = .ok (.ifCond .lt 21, 3) := by decide +kernel
theorem d_Si_setFires_11 : decode (jm_cd mY_Si_setFires) 11 = .ok (.iload_n 2, 1) := by decide +kernel
theorem d_Si_setFires_12 : decode (jm_cd mY_Si_setFires) 12 = .ok (.bipush 12, 2) := by decide +kernel
theorem d_Si_setFires_14 : decode (jm_cd mY_Si_setFires) 14 = .ok (.if_icmp .ge 15, 3) := by decide +kernel
theorem d_Si_setFires_17 : decode (jm_cd mY_Si_setFires) 17 = .ok (.aload_n 0, 1) := by decide +kernel
theorem d_Si_setFires_18 : decode (jm_cd mY_Si_setFires) 18 = .ok (.getfield 9, 3) := by decide +kernel
theorem d_Si_setFires_21 : decode (jm_cd mY_Si_setFires) 21 = .ok (.iload_n 1, 1) := by decide +kernel
theorem d_Si_setFires_22 : decode (jm_cd mY_Si_setFires) 22 = .ok (.bipush 12, 2) := by decide +kernel
theorem d_Si_setFires_24 : decode (jm_cd mY_Si_setFires) 24 = .ok (.imul, 1) := by decide +kernel
theorem d_Si_setFires_25 : decode (jm_cd mY_Si_setFires) 25 = .ok (.iload_n 2, 1) := by decide +kernel
theorem d_Si_setFires_26 : decode (jm_cd mY_Si_setFires) 26 = .ok (.iadd, 1) := by decide +kernel
theorem d_Si_setFires_27 : decode (jm_cd mY_Si_setFires) 27 = .ok (.iload_n 3, 1) := by decide +kernel
theorem d_Si_setFires_28 : decode (jm_cd mY_Si_setFires) 28 = .ok (.iastore, 1) := by decide +kernel
theorem d_Si_setFires_29 : decode (jm_cd mY_Si_setFires) 29 = .ok (.return_, 1) := by decide +kernel
def s_Si_setFires (s : jm_M) (a0 : Int32) (a1 : Int32) (a2 : Int32) : Option jm_M := jm_bd (s_X_isSign s a0) (fun v1 => (if v1 = 0 then (some s) else (if a1 < 0 then (some s) else (if 12 ≤ a1 then (some s) else jm_sti s 54 72 ((a0 * 12) + a1) a2 (fun s2 => (some s2))))))
set_option maxRecDepth 100000 in
set_option maxHeartbeats 4000000 in
theorem s_Si_setFires_ok (s : jm_M) (a0 : Int32) (a1 : Int32) (a2 : Int32) : jm_Sim mY_Si_setFires 0 0 0 [(0, .ref 53), (1, .int a0), (2, .int a1), (3, .int a2)] [] 78 mr_154 s (s_Si_setFires s a0 a1 a2) (jm_rV 78 mr_154) := by
  unfold s_Si_setFires
  refine jm_iload_n (pc := 0) (q := 1) (x := a0) d_Si_setFires_0 rfl ?_
  refine jm_Np (pc := 1) (Y' := mY_X_isSign) (avs := [.int a0]) (rest := []) (s_X_isSign_ok s a0) ok_X_isSign l0_Si_setFires__X_isSign nl_Si_15 sm_X_isSign d_Si_setFires_1 rfl rfl (Nat.le_of_ble_eq_true rfl) (Nat.le_of_ble_eq_true rfl) (Nat.le_of_ble_eq_true rfl) (Nat.le_of_ble_eq_true rfl) (fun v1 => ?_)
  refine jm_if_eq (pc := 4) (tgt := 29) d_Si_setFires_4 (by decide) ?_ ?_
  · exact jm_vret (pc := 29) d_Si_setFires_29 rfl rfl rfl rfl
  · refine jm_iload_n (pc := 7) (q := 2) (x := a1) d_Si_setFires_7 rfl ?_
    refine jm_if_lt (pc := 8) (tgt := 29) d_Si_setFires_8 (by decide) ?_ ?_
    · exact jm_vret (pc := 29) d_Si_setFires_29 rfl rfl rfl rfl
    · refine jm_iload_n (pc := 11) (q := 2) (x := a1) d_Si_setFires_11 rfl ?_
      refine jm_bipush (pc := 12) (v := 12) d_Si_setFires_12 cb_12 ?_
      refine jm_icmp_ge (pc := 14) (tgt := 29) d_Si_setFires_14 (by decide) ?_ ?_
      · exact jm_vret (pc := 29) d_Si_setFires_29 rfl rfl rfl rfl
      · refine jm_aload_n (pc := 17) (q := 0) (x := 53) d_Si_setFires_17 rfl ?_
        refine jm_gr (pc := 18) (i := 53) d_Si_setFires_18 fo_Si_9 sh_53 ge_53 le_53_78 rfl (fun _ => rfl) mr_154_53_0 ge_54 ?_
        refine jm_iload_n (pc := 21) (q := 1) (x := a0) d_Si_setFires_21 rfl ?_
        refine jm_bipush (pc := 22) (v := 12) d_Si_setFires_22 cb_12 ?_
        refine jm_imul (pc := 24) d_Si_setFires_24 ?_
        refine jm_iload_n (pc := 25) (q := 2) (x := a1) d_Si_setFires_25 rfl ?_
        refine jm_iadd (pc := 26) d_Si_setFires_26 ?_
        refine jm_iload_n (pc := 27) (q := 3) (x := a2) d_Si_setFires_27 rfl ?_
        refine jm_iast (pc := 28) d_Si_setFires_28 sh_54 ge_54 le_54_78 (fun s2 => ?_)
        exact jm_vret (pc := 29) d_Si_setFires_29 rfl rfl rfl rfl
theorem d_X_sign_0 : decode (jm_cd mY_X_sign) 0 = .ok (.iload_n 1, 1) := by decide +kernel
theorem d_X_sign_1 : decode (jm_cd mY_X_sign) 1 = .ok (.invokestatic 215, 3) := by decide +kernel
theorem d_X_sign_4 : decode (jm_cd mY_X_sign) 4 = .ok (.ifCond .eq 22, 3) := by decide +kernel
theorem d_X_sign_7 : decode (jm_cd mY_X_sign) 7 = .ok (.iload_n 2, 1) := by decide +kernel
theorem d_X_sign_8 : decode (jm_cd mY_X_sign) 8 = .ok (.ifCond .lt 18, 3) := by decide +kernel
theorem d_X_sign_11 : decode (jm_cd mY_X_sign) 11 = .ok (.iload_n 2, 1) := by decide +kernel
theorem d_X_sign_12 : decode (jm_cd mY_X_sign) 12 = .ok (.bipush 12, 2) := by decide +kernel
theorem d_X_sign_14 : decode (jm_cd mY_X_sign) 14 = .ok (.if_icmp .ge 12, 3) := by decide +kernel
theorem d_X_sign_17 : decode (jm_cd mY_X_sign) 17 = .ok (.iload_n 3, 1) := by decide +kernel
theorem d_X_sign_18 : decode (jm_cd mY_X_sign) 18 = .ok (.ifCond .lt 8, 3) := by decide +kernel
theorem d_X_sign_21 : decode (jm_cd mY_X_sign) 21 = .ok (.iload_n 3, 1) := by decide +kernel
theorem d_X_sign_22 : decode (jm_cd mY_X_sign) 22 = .ok (.iconst 3, 1) := by decide +kernel
theorem d_X_sign_23 : decode (jm_cd mY_X_sign) 23 = .ok (.if_icmp .le 5, 3) := by decide +kernel
theorem d_X_sign_26 : decode (jm_cd mY_X_sign) 26 = .ok (.iconst (-1), 1) := by decide +kernel
theorem d_X_sign_27 : decode (jm_cd mY_X_sign) 27 = .ok (.ireturn, 1) := by decide +kernel
theorem d_X_sign_28 : decode (jm_cd mY_X_sign) 28 = .ok (.aload_n 0, 1) := by decide +kernel
theorem d_X_sign_29 : decode (jm_cd mY_X_sign) 29 = .ok (.getfield 64, 3) := by decide +kernel
theorem d_X_sign_32 : decode (jm_cd mY_X_sign) 32 = .ok (.iload_n 1, 1) := by decide +kernel
theorem d_X_sign_33 : decode (jm_cd mY_X_sign) 33 = .ok (.iload_n 2, 1) := by decide +kernel
theorem d_X_sign_34 : decode (jm_cd mY_X_sign) 34 = .ok (.invokevirtual 218, 3) := by decide +kernel
theorem d_X_sign_37 : decode (jm_cd mY_X_sign) 37 = .ok (.istore 4, 2) := by decide +kernel
theorem d_X_sign_39 : decode (jm_cd mY_X_sign) 39 = .ok (.aload_n 0, 1) := by decide +kernel
theorem d_X_sign_40 : decode (jm_cd mY_X_sign) 40 = .ok (.getfield 64, 3) := by decide +kernel
theorem d_X_sign_43 : decode (jm_cd mY_X_sign) 43 = .ok (.iload_n 1, 1) := by decide +kernel
theorem d_X_sign_44 : decode (jm_cd mY_X_sign) 44 = .ok (.iload_n 2, 1) := by decide +kernel
theorem d_X_sign_45 : decode (jm_cd mY_X_sign) 45 = .ok (.iload_n 3, 1) := by decide +kernel
theorem d_X_sign_46 : decode (jm_cd mY_X_sign) 46 = .ok (.invokevirtual 221, 3) := by decide +kernel
theorem d_X_sign_49 : decode (jm_cd mY_X_sign) 49 = .ok (.iload 4, 2) := by decide +kernel
theorem d_X_sign_51 : decode (jm_cd mY_X_sign) 51 = .ok (.ireturn, 1) := by decide +kernel
def s_X_sign (s : jm_M) (a0 : Int32) (a1 : Int32) (a2 : Int32) : Option (Int32 × jm_M) := jm_bd (s_X_isSign s a0) (fun v1 => (if v1 = 0 then (some ((-1), s)) else (if a1 < 0 then (some ((-1), s)) else (if 12 ≤ a1 then (some ((-1), s)) else (if a2 < 0 then (some ((-1), s)) else (if a2 ≤ 3 then jm_bd (s_Si_firesIn s a0 a1) (fun v2 => jm_bd (s_Si_setFires s a0 a1 a2) (fun s3 => (some (v2, s3)))) else (some ((-1), s))))))))
set_option maxRecDepth 100000 in
set_option maxHeartbeats 4000000 in
theorem s_X_sign_ok (s : jm_M) (a0 : Int32) (a1 : Int32) (a2 : Int32) : jm_Sim mY_X_sign 0 0 0 [(0, .ref 1), (1, .int a0), (2, .int a1), (3, .int a2)] [] 78 mr_154 s (s_X_sign s a0 a1 a2) (jm_rP 78 mr_154) := by
  unfold s_X_sign
  refine jm_iload_n (pc := 0) (q := 1) (x := a0) d_X_sign_0 rfl ?_
  refine jm_Sp (pc := 1) (Y' := mY_X_isSign) (avs := [.int a0]) (rest := []) (s_X_isSign_ok s a0) ok_X_isSign l0_X_sign__X_isSign ml_X_215 sm_X_isSign d_X_sign_1 rfl rfl (Nat.le_of_ble_eq_true rfl) (Nat.le_of_ble_eq_true rfl) (Nat.le_of_ble_eq_true rfl) (Nat.le_of_ble_eq_true rfl) (fun v1 => ?_)
  refine jm_if_eq (pc := 4) (tgt := 26) d_X_sign_4 (by decide) ?_ ?_
  · refine jm_iconst (pc := 26) (v := (-1)) d_X_sign_26 ci_m1 ?_
    exact jm_iret (pc := 27) (x := (-1)) d_X_sign_27 rfl rfl rfl rfl rfl
  · refine jm_iload_n (pc := 7) (q := 2) (x := a1) d_X_sign_7 rfl ?_
    refine jm_if_lt (pc := 8) (tgt := 26) d_X_sign_8 (by decide) ?_ ?_
    · refine jm_iconst (pc := 26) (v := (-1)) d_X_sign_26 ci_m1 ?_
      exact jm_iret (pc := 27) (x := (-1)) d_X_sign_27 rfl rfl rfl rfl rfl
    · refine jm_iload_n (pc := 11) (q := 2) (x := a1) d_X_sign_11 rfl ?_
      refine jm_bipush (pc := 12) (v := 12) d_X_sign_12 cb_12 ?_
      refine jm_icmp_ge (pc := 14) (tgt := 26) d_X_sign_14 (by decide) ?_ ?_
      · refine jm_iconst (pc := 26) (v := (-1)) d_X_sign_26 ci_m1 ?_
        exact jm_iret (pc := 27) (x := (-1)) d_X_sign_27 rfl rfl rfl rfl rfl
      · refine jm_iload_n (pc := 17) (q := 3) (x := a2) d_X_sign_17 rfl ?_
        refine jm_if_lt (pc := 18) (tgt := 26) d_X_sign_18 (by decide) ?_ ?_
        · refine jm_iconst (pc := 26) (v := (-1)) d_X_sign_26 ci_m1 ?_
          exact jm_iret (pc := 27) (x := (-1)) d_X_sign_27 rfl rfl rfl rfl rfl
        · refine jm_iload_n (pc := 21) (q := 3) (x := a2) d_X_sign_21 rfl ?_
          refine jm_iconst (pc := 22) (v := 3) d_X_sign_22 ci_3 ?_
          refine jm_icmp_le (pc := 23) (tgt := 28) d_X_sign_23 (by decide) ?_ ?_
          · refine jm_aload_n (pc := 28) (q := 0) (x := 1) d_X_sign_28 rfl ?_
            refine jm_gr (pc := 29) (i := 1) d_X_sign_29 fo_X_64 sh_1 ge_1 le_1_78 rfl (fun _ => rfl) mr_154_1_11 ge_53 ?_
            refine jm_iload_n (pc := 32) (q := 1) (x := a0) d_X_sign_32 rfl ?_
            refine jm_iload_n (pc := 33) (q := 2) (x := a1) d_X_sign_33 rfl ?_
            refine jm_Vp (pc := 34) (Y' := mY_Si_firesIn) (i := 53) (avs := [.int a0, .int a1]) (rest := []) (s_Si_firesIn_ok s a0 a1) ok_Si_firesIn l0_X_sign__Si_firesIn ml_X_218 im_Si_firesIn se_Si_firesIn d_X_sign_34 rfl sh_53 rfl rfl ge_53 le_53_78 rfl (Nat.le_of_ble_eq_true rfl) (Nat.le_of_ble_eq_true rfl) (Nat.le_of_ble_eq_true rfl) (Nat.le_of_ble_eq_true rfl) (fun v2 => ?_)
            refine jm_istore (pc := 37) (L2 := [(4, .int v2), (0, .ref 1), (1, .int a0), (2, .int a1), (3, .int a2)]) d_X_sign_37 (Nat.le_of_ble_eq_true rfl) rfl ?_
            refine jm_aload_n (pc := 39) (q := 1) (x := 1) d_X_sign_39 rfl ?_
            refine jm_gr (pc := 40) (i := 1) d_X_sign_40 fo_X_64 sh_1 ge_1 le_1_78 rfl (fun _ => rfl) mr_154_1_11 ge_53 ?_
            refine jm_iload_n (pc := 43) (q := 2) (x := a0) d_X_sign_43 rfl ?_
            refine jm_iload_n (pc := 44) (q := 3) (x := a1) d_X_sign_44 rfl ?_
            refine jm_iload_n (pc := 45) (q := 4) (x := a2) d_X_sign_45 rfl ?_
            refine jm_Vv (pc := 46) (Y' := mY_Si_setFires) (i := 53) (avs := [.int a0, .int a1, .int a2]) (rest := []) (s_Si_setFires_ok s a0 a1 a2) ok_Si_setFires l0_X_sign__Si_setFires ml_X_221 im_Si_setFires se_Si_setFires d_X_sign_46 rfl sh_53 rfl rfl ge_53 le_53_78 rfl (Nat.le_of_ble_eq_true rfl) (Nat.le_of_ble_eq_true rfl) (Nat.le_of_ble_eq_true rfl) (Nat.le_of_ble_eq_true rfl) (fun s3 => ?_)
            refine jm_iload (pc := 49) (q := 0) (x := v2) d_X_sign_49 rfl ?_
            exact jm_iret (pc := 51) (x := v2) d_X_sign_51 rfl rfl rfl rfl rfl
          · refine jm_iconst (pc := 26) (v := (-1)) d_X_sign_26 ci_m1 ?_
            exact jm_iret (pc := 27) (x := (-1)) d_X_sign_27 rfl rfl rfl rfl rfl
theorem d_Z_sign_0 : decode (jm_cd mY_Z_sign) 0 = .ok (.iload_n 1, 1) := by decide +kernel
theorem d_Z_sign_1 : decode (jm_cd mY_Z_sign) 1 = .ok (.i2l, 1) := by decide +kernel
theorem d_Z_sign_2 : decode (jm_cd mY_Z_sign) 2 = .ok (.lconst 0, 1) := by decide +kernel
theorem d_Z_sign_3 : decode (jm_cd mY_Z_sign) 3 = .ok (.ldc2_w 247, 3) := by decide +kernel
theorem d_Z_sign_6 : decode (jm_cd mY_Z_sign) 6 = .ok (.invokestatic 69, 3) := by decide +kernel
theorem d_Z_sign_9 : decode (jm_cd mY_Z_sign) 9 = .ok (.ifCond .eq 27, 3) := by decide +kernel
theorem d_Z_sign_12 : decode (jm_cd mY_Z_sign) 12 = .ok (.iload_n 2, 1) := by decide +kernel
theorem d_Z_sign_13 : decode (jm_cd mY_Z_sign) 13 = .ok (.i2l, 1) := by decide +kernel
theorem d_Z_sign_14 : decode (jm_cd mY_Z_sign) 14 = .ok (.lconst 0, 1) := by decide +kernel
theorem d_Z_sign_15 : decode (jm_cd mY_Z_sign) 15 = .ok (.ldc2_w 249, 3) := by decide +kernel
theorem d_Z_sign_18 : decode (jm_cd mY_Z_sign) 18 = .ok (.invokestatic 69, 3) := by decide +kernel
theorem d_Z_sign_21 : decode (jm_cd mY_Z_sign) 21 = .ok (.ifCond .eq 15, 3) := by decide +kernel
theorem d_Z_sign_24 : decode (jm_cd mY_Z_sign) 24 = .ok (.iload_n 3, 1) := by decide +kernel
theorem d_Z_sign_25 : decode (jm_cd mY_Z_sign) 25 = .ok (.i2l, 1) := by decide +kernel
theorem d_Z_sign_26 : decode (jm_cd mY_Z_sign) 26 = .ok (.lconst 0, 1) := by decide +kernel
theorem d_Z_sign_27 : decode (jm_cd mY_Z_sign) 27 = .ok (.ldc2_w 251, 3) := by decide +kernel
theorem d_Z_sign_30 : decode (jm_cd mY_Z_sign) 30 = .ok (.invokestatic 69, 3) := by decide +kernel
theorem d_Z_sign_33 : decode (jm_cd mY_Z_sign) 33 = .ok (.ifCond .ne 5, 3) := by decide +kernel
theorem d_Z_sign_36 : decode (jm_cd mY_Z_sign) 36 = .ok (.iconst (-1), 1) := by decide +kernel
theorem d_Z_sign_37 : decode (jm_cd mY_Z_sign) 37 = .ok (.ireturn, 1) := by decide +kernel
theorem d_Z_sign_38 : decode (jm_cd mY_Z_sign) 38 = .ok (.aload_n 0, 1) := by decide +kernel
theorem d_Z_sign_39 : decode (jm_cd mY_Z_sign) 39 = .ok (.getfield 43, 3) := by decide +kernel
theorem d_Z_sign_42 : decode (jm_cd mY_Z_sign) 42 = .ok (.bipush 12, 2) := by decide +kernel
theorem d_Z_sign_44 : decode (jm_cd mY_Z_sign) 44 = .ok (.iload_n 1, 1) := by decide +kernel
theorem d_Z_sign_45 : decode (jm_cd mY_Z_sign) 45 = .ok (.imul, 1) := by decide +kernel
theorem d_Z_sign_46 : decode (jm_cd mY_Z_sign) 46 = .ok (.iload_n 2, 1) := by decide +kernel
theorem d_Z_sign_47 : decode (jm_cd mY_Z_sign) 47 = .ok (.iadd, 1) := by decide +kernel
theorem d_Z_sign_48 : decode (jm_cd mY_Z_sign) 48 = .ok (.iaload, 1) := by decide +kernel
theorem d_Z_sign_49 : decode (jm_cd mY_Z_sign) 49 = .ok (.istore 4, 2) := by decide +kernel
theorem d_Z_sign_51 : decode (jm_cd mY_Z_sign) 51 = .ok (.aload_n 0, 1) := by decide +kernel
theorem d_Z_sign_52 : decode (jm_cd mY_Z_sign) 52 = .ok (.getfield 43, 3) := by decide +kernel
theorem d_Z_sign_55 : decode (jm_cd mY_Z_sign) 55 = .ok (.bipush 12, 2) := by decide +kernel
theorem d_Z_sign_57 : decode (jm_cd mY_Z_sign) 57 = .ok (.iload_n 1, 1) := by decide +kernel
theorem d_Z_sign_58 : decode (jm_cd mY_Z_sign) 58 = .ok (.imul, 1) := by decide +kernel
theorem d_Z_sign_59 : decode (jm_cd mY_Z_sign) 59 = .ok (.iload_n 2, 1) := by decide +kernel
theorem d_Z_sign_60 : decode (jm_cd mY_Z_sign) 60 = .ok (.iadd, 1) := by decide +kernel
theorem d_Z_sign_61 : decode (jm_cd mY_Z_sign) 61 = .ok (.iload_n 3, 1) := by decide +kernel
theorem d_Z_sign_62 : decode (jm_cd mY_Z_sign) 62 = .ok (.iastore, 1) := by decide +kernel
theorem d_Z_sign_63 : decode (jm_cd mY_Z_sign) 63 = .ok (.iload 4, 2) := by decide +kernel
theorem d_Z_sign_65 : decode (jm_cd mY_Z_sign) 65 = .ok (.ireturn, 1) := by decide +kernel
def s_Z_sign (s : jm_M) (a0 : Int32) (a1 : Int32) (a2 : Int32) : Option (Int32 × jm_M) := jm_bd (s_Z_in s a0.toInt64 0 5) (fun v1 => (if v1 = 0 then (some ((-1), s)) else jm_bd (s_Z_in s a1.toInt64 0 11) (fun v2 => (if v2 = 0 then (some ((-1), s)) else jm_bd (s_Z_in s a2.toInt64 0 3) (fun v3 => (if v3 = 0 then (some ((-1), s)) else jm_ldi s 71 72 ((12 * a0) + a1) (fun v4 => jm_sti s 71 72 ((12 * a0) + a1) a2 (fun s5 => (some (v4, s5))))))))))
set_option maxRecDepth 100000 in
set_option maxHeartbeats 4000000 in
theorem s_Z_sign_ok (s : jm_M) (a0 : Int32) (a1 : Int32) (a2 : Int32) : jm_Sim mY_Z_sign 0 0 0 [(0, .ref 59), (1, .int a0), (2, .int a1), (3, .int a2)] [] 78 mr_154 s (s_Z_sign s a0 a1 a2) (jm_rP 78 mr_154) := by
  unfold s_Z_sign
  refine jm_iload_n (pc := 0) (q := 1) (x := a0) d_Z_sign_0 rfl ?_
  refine jm_i2l (pc := 1) d_Z_sign_1 ?_
  refine jm_lconst (pc := 2) (v := 0) d_Z_sign_2 cl_0 ?_
  refine jm_ldc2 (pc := 3) (v := 5) d_Z_sign_3 kl_Z_247 ?_
  refine jm_Sp (pc := 6) (Y' := mY_Z_in) (avs := [.long a0.toInt64, .long 0, .long 5]) (rest := []) (s_Z_in_ok s a0.toInt64 0 5) ok_Z_in l0_Z_sign__Z_in ml_Z_69 sm_Z_in d_Z_sign_6 rfl rfl (Nat.le_of_ble_eq_true rfl) (Nat.le_of_ble_eq_true rfl) (Nat.le_of_ble_eq_true rfl) (Nat.le_of_ble_eq_true rfl) (fun v1 => ?_)
  refine jm_if_eq (pc := 9) (tgt := 36) d_Z_sign_9 (by decide) ?_ ?_
  · refine jm_iconst (pc := 36) (v := (-1)) d_Z_sign_36 ci_m1 ?_
    exact jm_iret (pc := 37) (x := (-1)) d_Z_sign_37 rfl rfl rfl rfl rfl
  · refine jm_iload_n (pc := 12) (q := 2) (x := a1) d_Z_sign_12 rfl ?_
    refine jm_i2l (pc := 13) d_Z_sign_13 ?_
    refine jm_lconst (pc := 14) (v := 0) d_Z_sign_14 cl_0 ?_
    refine jm_ldc2 (pc := 15) (v := 11) d_Z_sign_15 kl_Z_249 ?_
    refine jm_Sp (pc := 18) (Y' := mY_Z_in) (avs := [.long a1.toInt64, .long 0, .long 11]) (rest := []) (s_Z_in_ok s a1.toInt64 0 11) ok_Z_in l0_Z_sign__Z_in ml_Z_69 sm_Z_in d_Z_sign_18 rfl rfl (Nat.le_of_ble_eq_true rfl) (Nat.le_of_ble_eq_true rfl) (Nat.le_of_ble_eq_true rfl) (Nat.le_of_ble_eq_true rfl) (fun v2 => ?_)
    refine jm_if_eq (pc := 21) (tgt := 36) d_Z_sign_21 (by decide) ?_ ?_
    · refine jm_iconst (pc := 36) (v := (-1)) d_Z_sign_36 ci_m1 ?_
      exact jm_iret (pc := 37) (x := (-1)) d_Z_sign_37 rfl rfl rfl rfl rfl
    · refine jm_iload_n (pc := 24) (q := 3) (x := a2) d_Z_sign_24 rfl ?_
      refine jm_i2l (pc := 25) d_Z_sign_25 ?_
      refine jm_lconst (pc := 26) (v := 0) d_Z_sign_26 cl_0 ?_
      refine jm_ldc2 (pc := 27) (v := 3) d_Z_sign_27 kl_Z_251 ?_
      refine jm_Sp (pc := 30) (Y' := mY_Z_in) (avs := [.long a2.toInt64, .long 0, .long 3]) (rest := []) (s_Z_in_ok s a2.toInt64 0 3) ok_Z_in l0_Z_sign__Z_in ml_Z_69 sm_Z_in d_Z_sign_30 rfl rfl (Nat.le_of_ble_eq_true rfl) (Nat.le_of_ble_eq_true rfl) (Nat.le_of_ble_eq_true rfl) (Nat.le_of_ble_eq_true rfl) (fun v3 => ?_)
      refine jm_if_ne (pc := 33) (tgt := 38) d_Z_sign_33 (by decide) ?_ ?_
      · refine jm_iconst (pc := 36) (v := (-1)) d_Z_sign_36 ci_m1 ?_
        exact jm_iret (pc := 37) (x := (-1)) d_Z_sign_37 rfl rfl rfl rfl rfl
      · refine jm_aload_n (pc := 38) (q := 0) (x := 59) d_Z_sign_38 rfl ?_
        refine jm_gr (pc := 39) (i := 59) d_Z_sign_39 fo_Z_43 sh_59 ge_59 le_59_78 rfl (fun _ => rfl) mr_154_59_13 ge_71 ?_
        refine jm_bipush (pc := 42) (v := 12) d_Z_sign_42 cb_12 ?_
        refine jm_iload_n (pc := 44) (q := 1) (x := a0) d_Z_sign_44 rfl ?_
        refine jm_imul (pc := 45) d_Z_sign_45 ?_
        refine jm_iload_n (pc := 46) (q := 2) (x := a1) d_Z_sign_46 rfl ?_
        refine jm_iadd (pc := 47) d_Z_sign_47 ?_
        refine jm_iald (pc := 48) d_Z_sign_48 sh_71 ge_71 le_71_78 (fun v4 => ?_)
        refine jm_istore (pc := 49) (L2 := [(4, .int v4), (0, .ref 59), (1, .int a0), (2, .int a1), (3, .int a2)]) d_Z_sign_49 (Nat.le_of_ble_eq_true rfl) rfl ?_
        refine jm_aload_n (pc := 51) (q := 1) (x := 59) d_Z_sign_51 rfl ?_
        refine jm_gr (pc := 52) (i := 59) d_Z_sign_52 fo_Z_43 sh_59 ge_59 le_59_78 rfl (fun _ => rfl) mr_154_59_13 ge_71 ?_
        refine jm_bipush (pc := 55) (v := 12) d_Z_sign_55 cb_12 ?_
        refine jm_iload_n (pc := 57) (q := 2) (x := a0) d_Z_sign_57 rfl ?_
        refine jm_imul (pc := 58) d_Z_sign_58 ?_
        refine jm_iload_n (pc := 59) (q := 3) (x := a1) d_Z_sign_59 rfl ?_
        refine jm_iadd (pc := 60) d_Z_sign_60 ?_
        refine jm_iload_n (pc := 61) (q := 4) (x := a2) d_Z_sign_61 rfl ?_
        refine jm_iast (pc := 62) d_Z_sign_62 sh_71 ge_71 le_71_78 (fun s5 => ?_)
        refine jm_iload (pc := 63) (q := 0) (x := v4) d_Z_sign_63 rfl ?_
        exact jm_iret (pc := 65) (x := v4) d_Z_sign_65 rfl rfl rfl rfl rfl
theorem d_Si_takenIfMoved_0 : decode (jm_cd mY_Si_takenIfMoved) 0 = .ok (.iconst 0, 1) := by decide +kernel
theorem d_Si_takenIfMoved_1 : decode (jm_cd mY_Si_takenIfMoved) 1 = .ok (.istore 4, 2) := by decide +kernel
theorem d_Si_takenIfMoved_3 : decode (jm_cd mY_Si_takenIfMoved) 3 = .ok (.bipush (-3), 2) := by decide +kernel
theorem d_Si_takenIfMoved_5 : decode (jm_cd mY_Si_takenIfMoved) 5 = .ok (.istore 5, 2) := by decide +kernel
theorem d_Si_takenIfMoved_7 : decode (jm_cd mY_Si_takenIfMoved) 7 = .ok (.iload 5, 2) := by decide +kernel
theorem d_Si_takenIfMoved_9 : decode (jm_cd mY_Si_takenIfMoved) 9 = .ok (.bipush 15, 2) := by decide +kernel
theorem d_Si_takenIfMoved_11 : decode (jm_cd mY_Si_takenIfMoved) 11 = .ok (.if_icmp .ge 62, 3) := by decide +kernel
theorem d_Si_takenIfMoved_14 : decode (jm_cd mY_Si_takenIfMoved) 14 = .ok (.aload_n 0, 1) := by decide +kernel
theorem d_Si_takenIfMoved_15 : decode (jm_cd mY_Si_takenIfMoved) 15 = .ok (.iload_n 1, 1) := by decide +kernel
theorem d_Si_takenIfMoved_16 : decode (jm_cd mY_Si_takenIfMoved) 16 = .ok (.iload 5, 2) := by decide +kernel
theorem d_Si_takenIfMoved_18 : decode (jm_cd mY_Si_takenIfMoved) 18 = .ok (.invokevirtual 29, 3) := by decide +kernel
theorem d_Si_takenIfMoved_21 : decode (jm_cd mY_Si_takenIfMoved) 21 = .ok (.istore 6, 2) := by decide +kernel
theorem d_Si_takenIfMoved_23 : decode (jm_cd mY_Si_takenIfMoved) 23 = .ok (.aload_n 0, 1) := by decide +kernel
theorem d_Si_takenIfMoved_24 : decode (jm_cd mY_Si_takenIfMoved) 24 = .ok (.iload_n 2, 1) := by decide +kernel
theorem d_Si_takenIfMoved_25 : decode (jm_cd mY_Si_takenIfMoved) 25 = .ok (.iload 5, 2) := by decide +kernel
theorem d_Si_takenIfMoved_27 : decode (jm_cd mY_Si_takenIfMoved) 27 = .ok (.iload_n 3, 1) := by decide +kernel
theorem d_Si_takenIfMoved_28 : decode (jm_cd mY_Si_takenIfMoved) 28 = .ok (.iadd, 1) := by decide +kernel
theorem d_Si_takenIfMoved_29 : decode (jm_cd mY_Si_takenIfMoved) 29 = .ok (.invokevirtual 29, 3) := by decide +kernel
theorem d_Si_takenIfMoved_32 : decode (jm_cd mY_Si_takenIfMoved) 32 = .ok (.istore 7, 2) := by decide +kernel
theorem d_Si_takenIfMoved_34 : decode (jm_cd mY_Si_takenIfMoved) 34 = .ok (.iload 6, 2) := by decide +kernel
theorem d_Si_takenIfMoved_36 : decode (jm_cd mY_Si_takenIfMoved) 36 = .ok (.iload 7, 2) := by decide +kernel
theorem d_Si_takenIfMoved_38 : decode (jm_cd mY_Si_takenIfMoved) 38 = .ok (.if_icmp .eq 29, 3) := by decide +kernel
theorem d_Si_takenIfMoved_41 : decode (jm_cd mY_Si_takenIfMoved) 41 = .ok (.iload 4, 2) := by decide +kernel
theorem d_Si_takenIfMoved_43 : decode (jm_cd mY_Si_takenIfMoved) 43 = .ok (.iload 6, 2) := by decide +kernel
theorem d_Si_takenIfMoved_45 : decode (jm_cd mY_Si_takenIfMoved) 45 = .ok (.ifCond .le 7, 3) := by decide +kernel
theorem d_Si_takenIfMoved_48 : decode (jm_cd mY_Si_takenIfMoved) 48 = .ok (.iconst 1, 1) := by decide +kernel
theorem d_Si_takenIfMoved_49 : decode (jm_cd mY_Si_takenIfMoved) 49 = .ok (.goto 4, 3) := by decide +kernel
theorem d_Si_takenIfMoved_52 : decode (jm_cd mY_Si_takenIfMoved) 52 = .ok (.iconst 0, 1) := by decide +kernel
theorem d_Si_takenIfMoved_53 : decode (jm_cd mY_Si_takenIfMoved) 53 = .ok (.iload 7, 2) := by decide +kernel
theorem d_Si_takenIfMoved_55 : decode (jm_cd mY_Si_takenIfMoved) 55 = .ok (.ifCond .le 7, 3) := by decide +kernel
theorem d_Si_takenIfMoved_58 : decode (jm_cd mY_Si_takenIfMoved) 58 = .ok (.iconst 1, 1) := by decide +kernel
theorem d_Si_takenIfMoved_59 : decode (jm_cd mY_Si_takenIfMoved) 59 = .ok (.goto 4, 3) := by decide +kernel
theorem d_Si_takenIfMoved_62 : decode (jm_cd mY_Si_takenIfMoved) 62 = .ok (.iconst 0, 1) := by decide +kernel
theorem d_Si_takenIfMoved_63 : decode (jm_cd mY_Si_takenIfMoved) 63 = .ok (.iadd, 1) := by decide +kernel
theorem d_Si_takenIfMoved_64 : decode (jm_cd mY_Si_takenIfMoved) 64 = .ok (.iadd, 1) := by decide +kernel
theorem d_Si_takenIfMoved_65 : decode (jm_cd mY_Si_takenIfMoved) 65 = .ok (.istore 4, 2) := by decide +kernel
theorem d_Si_takenIfMoved_67 : decode (jm_cd mY_Si_takenIfMoved) 67 = .ok (.iinc 5 1, 3) := by decide +kernel
theorem d_Si_takenIfMoved_70 : decode (jm_cd mY_Si_takenIfMoved) 70 = .ok (.goto (-63), 3) := by decide +kernel
theorem d_Si_takenIfMoved_73 : decode (jm_cd mY_Si_takenIfMoved) 73 = .ok (.iload 4, 2) := by decide +kernel
theorem d_Si_takenIfMoved_75 : decode (jm_cd mY_Si_takenIfMoved) 75 = .ok (.ireturn, 1) := by decide +kernel
def s_Si_takenIfMoved_J53 (s : jm_M) (k4 : Int32 → Int32 → Int32 → Int32 → Int32 → Option Int32) (x1 : Int32) (x2 : Int32) (x3 : Int32) (x5 : Int32) (x7 : Int32) (y0 : Int32) (y1 : Int32) : Option Int32 := (if x7 ≤ 0 then jm_vi (y1 + (y0 + 0)) (fun v3 => k4 x1 x2 x3 v3 (x5 + 1)) else jm_vi (y1 + (y0 + 1)) (fun v4 => k4 x1 x2 x3 v4 (x5 + 1)))
set_option maxRecDepth 100000 in
set_option maxHeartbeats 4000000 in
theorem s_Si_takenIfMoved_J53_ok (s : jm_M) {k4 : Int32 → Int32 → Int32 → Int32 → Int32 → Option Int32} (hk4 : ∀ (x1 : Int32) (x2 : Int32) (x3 : Int32) (x4 : Int32) (x5 : Int32), jm_Sim mY_Si_takenIfMoved 0 0 7 [(0, .ref 53), (1, .int x1), (2, .int x2), (3, .int x3), (4, .int x4), (5, .int x5)] [] 78 mr_154 s (k4 x1 x2 x3 x4 x5) (jm_rI 78 mr_154 s)) (x1 : Int32) (x2 : Int32) (x3 : Int32) (x5 : Int32) (x7 : Int32) (y0 : Int32) (y1 : Int32) : jm_Sim mY_Si_takenIfMoved 0 0 53 [(0, .ref 53), (1, .int x1), (2, .int x2), (3, .int x3), (5, .int x5), (7, .int x7)] [.int y0, .int y1] 78 mr_154 s (s_Si_takenIfMoved_J53 s k4 x1 x2 x3 x5 x7 y0 y1) (jm_rI 78 mr_154 s) := by
  unfold s_Si_takenIfMoved_J53
  refine jm_iload (pc := 53) (q := 5) (x := x7) d_Si_takenIfMoved_53 rfl ?_
  refine jm_if_le (pc := 55) (tgt := 62) d_Si_takenIfMoved_55 (by decide) ?_ ?_
  · refine jm_iconst (pc := 62) (v := 0) d_Si_takenIfMoved_62 ci_0 ?_
    refine jm_iadd (pc := 63) d_Si_takenIfMoved_63 ?_
    refine jm_iadd (pc := 64) d_Si_takenIfMoved_64 ?_
    refine jm_nvi (fun v3 => ?_)
    refine jm_istore (pc := 65) (L2 := [(4, .int v3), (0, .ref 53), (1, .int x1), (2, .int x2), (3, .int x3), (5, .int x5), (7, .int x7)]) d_Si_takenIfMoved_65 (Nat.le_of_ble_eq_true rfl) rfl ?_
    refine jm_iinc (pc := 67) (q := 5) (x := x5) (v := 1) (L2 := [(5, .int (x5 + 1)), (4, .int v3), (0, .ref 53), (1, .int x1), (2, .int x2), (3, .int x3), (7, .int x7)]) d_Si_takenIfMoved_67 rfl ci_1 (Nat.le_of_ble_eq_true rfl) rfl ?_
    refine jm_goto (pc := 70) (tgt := 7) d_Si_takenIfMoved_70 (by decide) ?_
    refine jm_sub (L2 := [(0, .ref 53), (1, .int x1), (2, .int x2), (3, .int x3), (4, .int v3), (5, .int (x5 + 1))]) [2, 3, 4, 5, 1, 0] rfl ?_
    exact hk4 x1 x2 x3 v3 (x5 + 1)
  · refine jm_iconst (pc := 58) (v := 1) d_Si_takenIfMoved_58 ci_1 ?_
    refine jm_goto (pc := 59) (tgt := 63) d_Si_takenIfMoved_59 (by decide) ?_
    refine jm_iadd (pc := 63) d_Si_takenIfMoved_63 ?_
    refine jm_iadd (pc := 64) d_Si_takenIfMoved_64 ?_
    refine jm_nvi (fun v4 => ?_)
    refine jm_istore (pc := 65) (L2 := [(4, .int v4), (0, .ref 53), (1, .int x1), (2, .int x2), (3, .int x3), (5, .int x5), (7, .int x7)]) d_Si_takenIfMoved_65 (Nat.le_of_ble_eq_true rfl) rfl ?_
    refine jm_iinc (pc := 67) (q := 5) (x := x5) (v := 1) (L2 := [(5, .int (x5 + 1)), (4, .int v4), (0, .ref 53), (1, .int x1), (2, .int x2), (3, .int x3), (7, .int x7)]) d_Si_takenIfMoved_67 rfl ci_1 (Nat.le_of_ble_eq_true rfl) rfl ?_
    refine jm_goto (pc := 70) (tgt := 7) d_Si_takenIfMoved_70 (by decide) ?_
    refine jm_sub (L2 := [(0, .ref 53), (1, .int x1), (2, .int x2), (3, .int x3), (4, .int v4), (5, .int (x5 + 1))]) [2, 3, 4, 5, 1, 0] rfl ?_
    exact hk4 x1 x2 x3 v4 (x5 + 1)
def s_Si_takenIfMoved_L7 (s : jm_M) : Nat → Int32 → Int32 → Int32 → Int32 → Int32 → Option Int32
  | 0, _, _, _, _, _ => none
  | n + 1, x1, x2, x3, x4, x5 => (if 15 ≤ x5 then (some x4) else jm_bd (s_Si_firesIn s x1 x5) (fun v1 => jm_bd (s_Si_firesIn s x2 (x5 + x3)) (fun v2 => (if v1 = v2 then s_Si_takenIfMoved_L7 s n x1 x2 x3 x4 (x5 + 1) else (if v1 ≤ 0 then s_Si_takenIfMoved_J53 s (s_Si_takenIfMoved_L7 s n) x1 x2 x3 x5 v2 0 x4 else s_Si_takenIfMoved_J53 s (s_Si_takenIfMoved_L7 s n) x1 x2 x3 x5 v2 1 x4)))))
set_option maxRecDepth 100000 in
set_option maxHeartbeats 4000000 in
theorem s_Si_takenIfMoved_L7_ok (s : jm_M) : ∀ (n : Nat) (x1 : Int32) (x2 : Int32) (x3 : Int32) (x4 : Int32) (x5 : Int32), jm_Sim mY_Si_takenIfMoved 0 0 7 [(0, .ref 53), (1, .int x1), (2, .int x2), (3, .int x3), (4, .int x4), (5, .int x5)] [] 78 mr_154 s (s_Si_takenIfMoved_L7 s n x1 x2 x3 x4 x5) (jm_rI 78 mr_154 s) := by
  intro n
  induction n with
  | zero => intro x1 x2 x3 x4 x5; exact jm_none
  | succ n ih =>
    intro x1 x2 x3 x4 x5
    rw [s_Si_takenIfMoved_L7]
    refine jm_iload (pc := 7) (q := 5) (x := x5) d_Si_takenIfMoved_7 rfl ?_
    refine jm_bipush (pc := 9) (v := 15) d_Si_takenIfMoved_9 cb_15 ?_
    refine jm_icmp_ge (pc := 11) (tgt := 73) d_Si_takenIfMoved_11 (by decide) ?_ ?_
    · refine jm_iload (pc := 73) (q := 4) (x := x4) d_Si_takenIfMoved_73 rfl ?_
      exact jm_iret (pc := 75) (x := x4) d_Si_takenIfMoved_75 rfl rfl rfl rfl rfl
    · refine jm_aload_n (pc := 14) (q := 0) (x := 53) d_Si_takenIfMoved_14 rfl ?_
      refine jm_iload_n (pc := 15) (q := 1) (x := x1) d_Si_takenIfMoved_15 rfl ?_
      refine jm_iload (pc := 16) (q := 5) (x := x5) d_Si_takenIfMoved_16 rfl ?_
      refine jm_Vp (pc := 18) (Y' := mY_Si_firesIn) (i := 53) (avs := [.int x1, .int x5]) (rest := []) (s_Si_firesIn_ok s x1 x5) ok_Si_firesIn l0_Si_takenIfMoved__Si_firesIn ml_Si_29 im_Si_firesIn se_Si_firesIn d_Si_takenIfMoved_18 rfl sh_53 rfl rfl ge_53 le_53_78 rfl (Nat.le_of_ble_eq_true rfl) (Nat.le_of_ble_eq_true rfl) (Nat.le_of_ble_eq_true rfl) (Nat.le_of_ble_eq_true rfl) (fun v1 => ?_)
      refine jm_istore (pc := 21) (L2 := [(6, .int v1), (0, .ref 53), (1, .int x1), (2, .int x2), (3, .int x3), (4, .int x4), (5, .int x5)]) d_Si_takenIfMoved_21 (Nat.le_of_ble_eq_true rfl) rfl ?_
      refine jm_aload_n (pc := 23) (q := 1) (x := 53) d_Si_takenIfMoved_23 rfl ?_
      refine jm_iload_n (pc := 24) (q := 3) (x := x2) d_Si_takenIfMoved_24 rfl ?_
      refine jm_iload (pc := 25) (q := 6) (x := x5) d_Si_takenIfMoved_25 rfl ?_
      refine jm_iload_n (pc := 27) (q := 4) (x := x3) d_Si_takenIfMoved_27 rfl ?_
      refine jm_iadd (pc := 28) d_Si_takenIfMoved_28 ?_
      refine jm_Vp (pc := 29) (Y' := mY_Si_firesIn) (i := 53) (avs := [.int x2, .int (x5 + x3)]) (rest := []) (s_Si_firesIn_ok s x2 (x5 + x3)) ok_Si_firesIn l0_Si_takenIfMoved__Si_firesIn ml_Si_29 im_Si_firesIn se_Si_firesIn d_Si_takenIfMoved_29 rfl sh_53 rfl rfl ge_53 le_53_78 rfl (Nat.le_of_ble_eq_true rfl) (Nat.le_of_ble_eq_true rfl) (Nat.le_of_ble_eq_true rfl) (Nat.le_of_ble_eq_true rfl) (fun v2 => ?_)
      refine jm_istore (pc := 32) (L2 := [(7, .int v2), (6, .int v1), (0, .ref 53), (1, .int x1), (2, .int x2), (3, .int x3), (4, .int x4), (5, .int x5)]) d_Si_takenIfMoved_32 (Nat.le_of_ble_eq_true rfl) rfl ?_
      refine jm_iload (pc := 34) (q := 1) (x := v1) d_Si_takenIfMoved_34 rfl ?_
      refine jm_iload (pc := 36) (q := 0) (x := v2) d_Si_takenIfMoved_36 rfl ?_
      refine jm_icmp_eq (pc := 38) (tgt := 67) d_Si_takenIfMoved_38 (by decide) ?_ ?_
      · refine jm_iinc (pc := 67) (q := 7) (x := x5) (v := 1) (L2 := [(5, .int (x5 + 1)), (7, .int v2), (6, .int v1), (0, .ref 53), (1, .int x1), (2, .int x2), (3, .int x3), (4, .int x4)]) d_Si_takenIfMoved_67 rfl ci_1 (Nat.le_of_ble_eq_true rfl) rfl ?_
        refine jm_goto (pc := 70) (tgt := 7) d_Si_takenIfMoved_70 (by decide) ?_
        refine jm_sub (L2 := [(0, .ref 53), (1, .int x1), (2, .int x2), (3, .int x3), (4, .int x4), (5, .int (x5 + 1))]) [3, 4, 5, 6, 7, 0] rfl ?_
        exact ih x1 x2 x3 x4 (x5 + 1)
      · refine jm_iload (pc := 41) (q := 6) (x := x4) d_Si_takenIfMoved_41 rfl ?_
        refine jm_iload (pc := 43) (q := 1) (x := v1) d_Si_takenIfMoved_43 rfl ?_
        refine jm_if_le (pc := 45) (tgt := 52) d_Si_takenIfMoved_45 (by decide) ?_ ?_
        · refine jm_iconst (pc := 52) (v := 0) d_Si_takenIfMoved_52 ci_0 ?_
          refine jm_sub (L2 := [(0, .ref 53), (1, .int x1), (2, .int x2), (3, .int x3), (5, .int x5), (7, .int v2)]) [2, 3, 4, 5, 7, 0] rfl ?_
          exact s_Si_takenIfMoved_J53_ok s ih x1 x2 x3 x5 v2 0 x4
        · refine jm_iconst (pc := 48) (v := 1) d_Si_takenIfMoved_48 ci_1 ?_
          refine jm_goto (pc := 49) (tgt := 53) d_Si_takenIfMoved_49 (by decide) ?_
          refine jm_sub (L2 := [(0, .ref 53), (1, .int x1), (2, .int x2), (3, .int x3), (5, .int x5), (7, .int v2)]) [2, 3, 4, 5, 7, 0] rfl ?_
          exact s_Si_takenIfMoved_J53_ok s ih x1 x2 x3 x5 v2 1 x4
def s_Si_takenIfMoved (s : jm_M) (a0 : Int32) (a1 : Int32) (a2 : Int32) : Option Int32 := s_Si_takenIfMoved_L7 s 5000 a0 a1 a2 0 (-3)
set_option maxRecDepth 100000 in
set_option maxHeartbeats 4000000 in
theorem s_Si_takenIfMoved_ok (s : jm_M) (a0 : Int32) (a1 : Int32) (a2 : Int32) : jm_Sim mY_Si_takenIfMoved 0 0 0 [(0, .ref 53), (1, .int a0), (2, .int a1), (3, .int a2)] [] 78 mr_154 s (s_Si_takenIfMoved s a0 a1 a2) (jm_rI 78 mr_154 s) := by
  unfold s_Si_takenIfMoved
  refine jm_iconst (pc := 0) (v := 0) d_Si_takenIfMoved_0 ci_0 ?_
  refine jm_istore (pc := 1) (L2 := [(4, .int 0), (0, .ref 53), (1, .int a0), (2, .int a1), (3, .int a2)]) d_Si_takenIfMoved_1 (Nat.le_of_ble_eq_true rfl) rfl ?_
  refine jm_bipush (pc := 3) (v := (-3)) d_Si_takenIfMoved_3 cb_m3 ?_
  refine jm_istore (pc := 5) (L2 := [(5, .int (-3)), (4, .int 0), (0, .ref 53), (1, .int a0), (2, .int a1), (3, .int a2)]) d_Si_takenIfMoved_5 (Nat.le_of_ble_eq_true rfl) rfl ?_
  refine jm_sub (L2 := [(0, .ref 53), (1, .int a0), (2, .int a1), (3, .int a2), (4, .int 0), (5, .int (-3))]) [2, 3, 4, 5, 1, 0] rfl ?_
  exact s_Si_takenIfMoved_L7_ok s 5000 a0 a1 a2 0 (-3)
theorem d_Si_fewestTaken_0 : decode (jm_cd mY_Si_fewestTaken) 0 = .ok (.bipush 24, 2) := by decide +kernel
theorem d_Si_fewestTaken_2 : decode (jm_cd mY_Si_fewestTaken) 2 = .ok (.istore_n 3, 1) := by decide +kernel
theorem d_Si_fewestTaken_3 : decode (jm_cd mY_Si_fewestTaken) 3 = .ok (.bipush (-3), 2) := by decide +kernel
theorem d_Si_fewestTaken_5 : decode (jm_cd mY_Si_fewestTaken) 5 = .ok (.istore 4, 2) := by decide +kernel
theorem d_Si_fewestTaken_7 : decode (jm_cd mY_Si_fewestTaken) 7 = .ok (.iload 4, 2) := by decide +kernel
theorem d_Si_fewestTaken_9 : decode (jm_cd mY_Si_fewestTaken) 9 = .ok (.iconst 3, 1) := by decide +kernel
theorem d_Si_fewestTaken_10 : decode (jm_cd mY_Si_fewestTaken) 10 = .ok (.if_icmp .gt 22, 3) := by decide +kernel
theorem d_Si_fewestTaken_13 : decode (jm_cd mY_Si_fewestTaken) 13 = .ok (.iload_n 3, 1) := by decide +kernel
theorem d_Si_fewestTaken_14 : decode (jm_cd mY_Si_fewestTaken) 14 = .ok (.aload_n 0, 1) := by decide +kernel
theorem d_Si_fewestTaken_15 : decode (jm_cd mY_Si_fewestTaken) 15 = .ok (.iload_n 1, 1) := by decide +kernel
theorem d_Si_fewestTaken_16 : decode (jm_cd mY_Si_fewestTaken) 16 = .ok (.iload_n 2, 1) := by decide +kernel
theorem d_Si_fewestTaken_17 : decode (jm_cd mY_Si_fewestTaken) 17 = .ok (.iload 4, 2) := by decide +kernel
theorem d_Si_fewestTaken_19 : decode (jm_cd mY_Si_fewestTaken) 19 = .ok (.invokevirtual 19, 3) := by decide +kernel
theorem d_Si_fewestTaken_22 : decode (jm_cd mY_Si_fewestTaken) 22 = .ok (.invokestatic 23, 3) := by decide +kernel
theorem d_Si_fewestTaken_25 : decode (jm_cd mY_Si_fewestTaken) 25 = .ok (.istore_n 3, 1) := by decide +kernel
theorem d_Si_fewestTaken_26 : decode (jm_cd mY_Si_fewestTaken) 26 = .ok (.iinc 4 1, 3) := by decide +kernel
theorem d_Si_fewestTaken_29 : decode (jm_cd mY_Si_fewestTaken) 29 = .ok (.goto (-22), 3) := by decide +kernel
theorem d_Si_fewestTaken_32 : decode (jm_cd mY_Si_fewestTaken) 32 = .ok (.iload_n 3, 1) := by decide +kernel
theorem d_Si_fewestTaken_33 : decode (jm_cd mY_Si_fewestTaken) 33 = .ok (.ireturn, 1) := by decide +kernel
def s_Si_fewestTaken_L7 (s : jm_M) : Nat → Int32 → Int32 → Int32 → Int32 → Option Int32
  | 0, _, _, _, _ => none
  | n + 1, x1, x2, x3, x4 => (if 3 < x4 then (some x3) else jm_bd (s_Si_takenIfMoved s x1 x2 x4) (fun v1 => jm_vi (jm_min x3 v1) (fun v2 => s_Si_fewestTaken_L7 s n x1 x2 v2 (x4 + 1))))
set_option maxRecDepth 100000 in
set_option maxHeartbeats 4000000 in
theorem s_Si_fewestTaken_L7_ok (s : jm_M) : ∀ (n : Nat) (x1 : Int32) (x2 : Int32) (x3 : Int32) (x4 : Int32), jm_Sim mY_Si_fewestTaken 0 0 7 [(0, .ref 53), (1, .int x1), (2, .int x2), (3, .int x3), (4, .int x4)] [] 78 mr_154 s (s_Si_fewestTaken_L7 s n x1 x2 x3 x4) (jm_rI 78 mr_154 s) := by
  intro n
  induction n with
  | zero => intro x1 x2 x3 x4; exact jm_none
  | succ n ih =>
    intro x1 x2 x3 x4
    rw [s_Si_fewestTaken_L7]
    refine jm_iload (pc := 7) (q := 4) (x := x4) d_Si_fewestTaken_7 rfl ?_
    refine jm_iconst (pc := 9) (v := 3) d_Si_fewestTaken_9 ci_3 ?_
    refine jm_icmp_gt (pc := 10) (tgt := 32) d_Si_fewestTaken_10 (by decide) ?_ ?_
    · refine jm_iload_n (pc := 32) (q := 3) (x := x3) d_Si_fewestTaken_32 rfl ?_
      exact jm_iret (pc := 33) (x := x3) d_Si_fewestTaken_33 rfl rfl rfl rfl rfl
    · refine jm_iload_n (pc := 13) (q := 3) (x := x3) d_Si_fewestTaken_13 rfl ?_
      refine jm_aload_n (pc := 14) (q := 0) (x := 53) d_Si_fewestTaken_14 rfl ?_
      refine jm_iload_n (pc := 15) (q := 1) (x := x1) d_Si_fewestTaken_15 rfl ?_
      refine jm_iload_n (pc := 16) (q := 2) (x := x2) d_Si_fewestTaken_16 rfl ?_
      refine jm_iload (pc := 17) (q := 4) (x := x4) d_Si_fewestTaken_17 rfl ?_
      refine jm_Vp (pc := 19) (Y' := mY_Si_takenIfMoved) (i := 53) (avs := [.int x1, .int x2, .int x4]) (rest := [.int x3]) (s_Si_takenIfMoved_ok s x1 x2 x4) ok_Si_takenIfMoved l0_Si_fewestTaken__Si_takenIfMoved ml_Si_19 im_Si_takenIfMoved se_Si_takenIfMoved d_Si_fewestTaken_19 rfl sh_53 rfl rfl ge_53 le_53_78 rfl (Nat.le_of_ble_eq_true rfl) (Nat.le_of_ble_eq_true rfl) (Nat.le_of_ble_eq_true rfl) (Nat.le_of_ble_eq_true rfl) (fun v1 => ?_)
      refine jm_mmin (pc := 22) d_Si_fewestTaken_22 ml_Si_23 sm_JM_min ini_JM mm_min (Nat.le_of_ble_eq_true rfl) (Nat.le_of_ble_eq_true rfl) (Nat.le_of_ble_eq_true rfl) (Nat.le_of_ble_eq_true rfl) ?_
      refine jm_nvi (fun v2 => ?_)
      refine jm_istore_n (pc := 25) (i := 3) (L2 := [(3, .int v2), (0, .ref 53), (1, .int x1), (2, .int x2), (4, .int x4)]) d_Si_fewestTaken_25 rfl (Nat.le_of_ble_eq_true rfl) rfl ?_
      refine jm_iinc (pc := 26) (q := 4) (x := x4) (v := 1) (L2 := [(4, .int (x4 + 1)), (3, .int v2), (0, .ref 53), (1, .int x1), (2, .int x2)]) d_Si_fewestTaken_26 rfl ci_1 (Nat.le_of_ble_eq_true rfl) rfl ?_
      refine jm_goto (pc := 29) (tgt := 7) d_Si_fewestTaken_29 (by decide) ?_
      refine jm_sub (L2 := [(0, .ref 53), (1, .int x1), (2, .int x2), (3, .int v2), (4, .int (x4 + 1))]) [2, 3, 4, 1, 0] rfl ?_
      exact ih x1 x2 v2 (x4 + 1)
def s_Si_fewestTaken (s : jm_M) (a0 : Int32) (a1 : Int32) : Option Int32 := s_Si_fewestTaken_L7 s 5000 a0 a1 24 (-3)
set_option maxRecDepth 100000 in
set_option maxHeartbeats 4000000 in
theorem s_Si_fewestTaken_ok (s : jm_M) (a0 : Int32) (a1 : Int32) : jm_Sim mY_Si_fewestTaken 0 0 0 [(0, .ref 53), (1, .int a0), (2, .int a1)] [] 78 mr_154 s (s_Si_fewestTaken s a0 a1) (jm_rI 78 mr_154 s) := by
  unfold s_Si_fewestTaken
  refine jm_bipush (pc := 0) (v := 24) d_Si_fewestTaken_0 cb_24 ?_
  refine jm_istore_n (pc := 2) (i := 3) (L2 := [(3, .int 24), (0, .ref 53), (1, .int a0), (2, .int a1)]) d_Si_fewestTaken_2 rfl (Nat.le_of_ble_eq_true rfl) rfl ?_
  refine jm_bipush (pc := 3) (v := (-3)) d_Si_fewestTaken_3 cb_m3 ?_
  refine jm_istore (pc := 5) (L2 := [(4, .int (-3)), (3, .int 24), (0, .ref 53), (1, .int a0), (2, .int a1)]) d_Si_fewestTaken_5 (Nat.le_of_ble_eq_true rfl) rfl ?_
  refine jm_sub (L2 := [(0, .ref 53), (1, .int a0), (2, .int a1), (3, .int 24), (4, .int (-3))]) [2, 3, 4, 1, 0] rfl ?_
  exact s_Si_fewestTaken_L7_ok s 5000 a0 a1 24 (-3)
theorem d_X_near_0 : decode (jm_cd mY_X_near) 0 = .ok (.iload_n 1, 1) := by decide +kernel
theorem d_X_near_1 : decode (jm_cd mY_X_near) 1 = .ok (.invokestatic 215, 3) := by decide +kernel
theorem d_X_near_4 : decode (jm_cd mY_X_near) 4 = .ok (.ifCond .eq 15, 3) := by decide +kernel
theorem d_X_near_7 : decode (jm_cd mY_X_near) 7 = .ok (.iload_n 2, 1) := by decide +kernel
theorem d_X_near_8 : decode (jm_cd mY_X_near) 8 = .ok (.invokestatic 215, 3) := by decide +kernel
theorem d_X_near_11 : decode (jm_cd mY_X_near) 11 = .ok (.ifCond .eq 8, 3) := by decide +kernel
theorem d_X_near_14 : decode (jm_cd mY_X_near) 14 = .ok (.iload_n 1, 1) := by decide +kernel
theorem d_X_near_15 : decode (jm_cd mY_X_near) 15 = .ok (.iload_n 2, 1) := by decide +kernel
theorem d_X_near_16 : decode (jm_cd mY_X_near) 16 = .ok (.if_icmp .ne 5, 3) := by decide +kernel
theorem d_X_near_19 : decode (jm_cd mY_X_near) 19 = .ok (.iconst (-1), 1) := by decide +kernel
theorem d_X_near_20 : decode (jm_cd mY_X_near) 20 = .ok (.ireturn, 1) := by decide +kernel
theorem d_X_near_21 : decode (jm_cd mY_X_near) 21 = .ok (.aload_n 0, 1) := by decide +kernel
theorem d_X_near_22 : decode (jm_cd mY_X_near) 22 = .ok (.getfield 64, 3) := by decide +kernel
theorem d_X_near_25 : decode (jm_cd mY_X_near) 25 = .ok (.iload_n 1, 1) := by decide +kernel
theorem d_X_near_26 : decode (jm_cd mY_X_near) 26 = .ok (.iload_n 2, 1) := by decide +kernel
theorem d_X_near_27 : decode (jm_cd mY_X_near) 27 = .ok (.invokevirtual 225, 3) := by decide +kernel
theorem d_X_near_30 : decode (jm_cd mY_X_near) 30 = .ok (.ireturn, 1) := by decide +kernel
def s_X_near (s : jm_M) (a0 : Int32) (a1 : Int32) : Option Int32 := jm_bd (s_X_isSign s a0) (fun v1 => (if v1 = 0 then (some (-1)) else jm_bd (s_X_isSign s a1) (fun v2 => (if v2 = 0 then (some (-1)) else (if a0 = a1 then (some (-1)) else jm_bd (s_Si_fewestTaken s a0 a1) (fun v3 => (some v3)))))))
set_option maxRecDepth 100000 in
set_option maxHeartbeats 4000000 in
theorem s_X_near_ok (s : jm_M) (a0 : Int32) (a1 : Int32) : jm_Sim mY_X_near 0 0 0 [(0, .ref 1), (1, .int a0), (2, .int a1)] [] 78 mr_154 s (s_X_near s a0 a1) (jm_rI 78 mr_154 s) := by
  unfold s_X_near
  refine jm_iload_n (pc := 0) (q := 1) (x := a0) d_X_near_0 rfl ?_
  refine jm_Sp (pc := 1) (Y' := mY_X_isSign) (avs := [.int a0]) (rest := []) (s_X_isSign_ok s a0) ok_X_isSign l0_X_near__X_isSign ml_X_215 sm_X_isSign d_X_near_1 rfl rfl (Nat.le_of_ble_eq_true rfl) (Nat.le_of_ble_eq_true rfl) (Nat.le_of_ble_eq_true rfl) (Nat.le_of_ble_eq_true rfl) (fun v1 => ?_)
  refine jm_if_eq (pc := 4) (tgt := 19) d_X_near_4 (by decide) ?_ ?_
  · refine jm_iconst (pc := 19) (v := (-1)) d_X_near_19 ci_m1 ?_
    exact jm_iret (pc := 20) (x := (-1)) d_X_near_20 rfl rfl rfl rfl rfl
  · refine jm_iload_n (pc := 7) (q := 2) (x := a1) d_X_near_7 rfl ?_
    refine jm_Sp (pc := 8) (Y' := mY_X_isSign) (avs := [.int a1]) (rest := []) (s_X_isSign_ok s a1) ok_X_isSign l0_X_near__X_isSign ml_X_215 sm_X_isSign d_X_near_8 rfl rfl (Nat.le_of_ble_eq_true rfl) (Nat.le_of_ble_eq_true rfl) (Nat.le_of_ble_eq_true rfl) (Nat.le_of_ble_eq_true rfl) (fun v2 => ?_)
    refine jm_if_eq (pc := 11) (tgt := 19) d_X_near_11 (by decide) ?_ ?_
    · refine jm_iconst (pc := 19) (v := (-1)) d_X_near_19 ci_m1 ?_
      exact jm_iret (pc := 20) (x := (-1)) d_X_near_20 rfl rfl rfl rfl rfl
    · refine jm_iload_n (pc := 14) (q := 1) (x := a0) d_X_near_14 rfl ?_
      refine jm_iload_n (pc := 15) (q := 2) (x := a1) d_X_near_15 rfl ?_
      refine jm_icmp_ne (pc := 16) (tgt := 21) d_X_near_16 (by decide) ?_ ?_
      · refine jm_iconst (pc := 19) (v := (-1)) d_X_near_19 ci_m1 ?_
        exact jm_iret (pc := 20) (x := (-1)) d_X_near_20 rfl rfl rfl rfl rfl
      · refine jm_aload_n (pc := 21) (q := 0) (x := 1) d_X_near_21 rfl ?_
        refine jm_gr (pc := 22) (i := 1) d_X_near_22 fo_X_64 sh_1 ge_1 le_1_78 rfl (fun _ => rfl) mr_154_1_11 ge_53 ?_
        refine jm_iload_n (pc := 25) (q := 1) (x := a0) d_X_near_25 rfl ?_
        refine jm_iload_n (pc := 26) (q := 2) (x := a1) d_X_near_26 rfl ?_
        refine jm_Vp (pc := 27) (Y' := mY_Si_fewestTaken) (i := 53) (avs := [.int a0, .int a1]) (rest := []) (s_Si_fewestTaken_ok s a0 a1) ok_Si_fewestTaken l0_X_near__Si_fewestTaken ml_X_225 im_Si_fewestTaken se_Si_fewestTaken d_X_near_27 rfl sh_53 rfl rfl ge_53 le_53_78 rfl (Nat.le_of_ble_eq_true rfl) (Nat.le_of_ble_eq_true rfl) (Nat.le_of_ble_eq_true rfl) (Nat.le_of_ble_eq_true rfl) (fun v3 => ?_)
        exact jm_iret (pc := 30) (x := v3) d_X_near_30 rfl rfl rfl rfl rfl
theorem d_Z_near_0 : decode (jm_cd mY_Z_near) 0 = .ok (.iload_n 1, 1) := by decide +kernel
theorem d_Z_near_1 : decode (jm_cd mY_Z_near) 1 = .ok (.i2l, 1) := by decide +kernel
theorem d_Z_near_2 : decode (jm_cd mY_Z_near) 2 = .ok (.lconst 0, 1) := by decide +kernel
theorem d_Z_near_3 : decode (jm_cd mY_Z_near) 3 = .ok (.ldc2_w 247, 3) := by decide +kernel
theorem d_Z_near_6 : decode (jm_cd mY_Z_near) 6 = .ok (.invokestatic 69, 3) := by decide +kernel
theorem d_Z_near_9 : decode (jm_cd mY_Z_near) 9 = .ok (.ifCond .eq 20, 3) := by decide +kernel
theorem d_Z_near_12 : decode (jm_cd mY_Z_near) 12 = .ok (.iload_n 2, 1) := by decide +kernel
theorem d_Z_near_13 : decode (jm_cd mY_Z_near) 13 = .ok (.i2l, 1) := by decide +kernel
theorem d_Z_near_14 : decode (jm_cd mY_Z_near) 14 = .ok (.lconst 0, 1) := by decide +kernel
theorem d_Z_near_15 : decode (jm_cd mY_Z_near) 15 = .ok (.ldc2_w 247, 3) := by decide +kernel
theorem d_Z_near_18 : decode (jm_cd mY_Z_near) 18 = .ok (.invokestatic 69, 3) := by decide +kernel
theorem d_Z_near_21 : decode (jm_cd mY_Z_near) 21 = .ok (.ifCond .eq 8, 3) := by decide +kernel
theorem d_Z_near_24 : decode (jm_cd mY_Z_near) 24 = .ok (.iload_n 1, 1) := by decide +kernel
theorem d_Z_near_25 : decode (jm_cd mY_Z_near) 25 = .ok (.iload_n 2, 1) := by decide +kernel
theorem d_Z_near_26 : decode (jm_cd mY_Z_near) 26 = .ok (.if_icmp .ne 5, 3) := by decide +kernel
theorem d_Z_near_29 : decode (jm_cd mY_Z_near) 29 = .ok (.iconst (-1), 1) := by decide +kernel
theorem d_Z_near_30 : decode (jm_cd mY_Z_near) 30 = .ok (.ireturn, 1) := by decide +kernel
theorem d_Z_near_31 : decode (jm_cd mY_Z_near) 31 = .ok (.sipush 1000, 3) := by decide +kernel
theorem d_Z_near_34 : decode (jm_cd mY_Z_near) 34 = .ok (.istore_n 3, 1) := by decide +kernel
theorem d_Z_near_35 : decode (jm_cd mY_Z_near) 35 = .ok (.bipush (-3), 2) := by decide +kernel
theorem d_Z_near_37 : decode (jm_cd mY_Z_near) 37 = .ok (.istore 4, 2) := by decide +kernel
theorem d_Z_near_39 : decode (jm_cd mY_Z_near) 39 = .ok (.iload 4, 2) := by decide +kernel
theorem d_Z_near_41 : decode (jm_cd mY_Z_near) 41 = .ok (.iconst 3, 1) := by decide +kernel
theorem d_Z_near_42 : decode (jm_cd mY_Z_near) 42 = .ok (.if_icmp .gt 141, 3) := by decide +kernel
theorem d_Z_near_45 : decode (jm_cd mY_Z_near) 45 = .ok (.iconst 0, 1) := by decide +kernel
theorem d_Z_near_46 : decode (jm_cd mY_Z_near) 46 = .ok (.istore 5, 2) := by decide +kernel
theorem d_Z_near_48 : decode (jm_cd mY_Z_near) 48 = .ok (.bipush (-3), 2) := by decide +kernel
theorem d_Z_near_50 : decode (jm_cd mY_Z_near) 50 = .ok (.istore 6, 2) := by decide +kernel
theorem d_Z_near_52 : decode (jm_cd mY_Z_near) 52 = .ok (.iload 6, 2) := by decide +kernel
theorem d_Z_near_54 : decode (jm_cd mY_Z_near) 54 = .ok (.bipush 15, 2) := by decide +kernel
theorem d_Z_near_56 : decode (jm_cd mY_Z_near) 56 = .ok (.if_icmp .ge 108, 3) := by decide +kernel
theorem d_Z_near_59 : decode (jm_cd mY_Z_near) 59 = .ok (.iload 6, 2) := by decide +kernel
theorem d_Z_near_61 : decode (jm_cd mY_Z_near) 61 = .ok (.i2l, 1) := by decide +kernel
theorem d_Z_near_62 : decode (jm_cd mY_Z_near) 62 = .ok (.lconst 0, 1) := by decide +kernel
theorem d_Z_near_63 : decode (jm_cd mY_Z_near) 63 = .ok (.ldc2_w 249, 3) := by decide +kernel
theorem d_Z_near_66 : decode (jm_cd mY_Z_near) 66 = .ok (.invokestatic 69, 3) := by decide +kernel
theorem d_Z_near_69 : decode (jm_cd mY_Z_near) 69 = .ok (.ifCond .eq 18, 3) := by decide +kernel
theorem d_Z_near_72 : decode (jm_cd mY_Z_near) 72 = .ok (.aload_n 0, 1) := by decide +kernel
theorem d_Z_near_73 : decode (jm_cd mY_Z_near) 73 = .ok (.getfield 43, 3) := by decide +kernel
theorem d_Z_near_76 : decode (jm_cd mY_Z_near) 76 = .ok (.bipush 12, 2) := by decide +kernel
theorem d_Z_near_78 : decode (jm_cd mY_Z_near) 78 = .ok (.iload_n 1, 1) := by decide +kernel
theorem d_Z_near_79 : decode (jm_cd mY_Z_near) 79 = .ok (.imul, 1) := by decide +kernel
theorem d_Z_near_80 : decode (jm_cd mY_Z_near) 80 = .ok (.iload 6, 2) := by decide +kernel
theorem d_Z_near_82 : decode (jm_cd mY_Z_near) 82 = .ok (.iadd, 1) := by decide +kernel
theorem d_Z_near_83 : decode (jm_cd mY_Z_near) 83 = .ok (.iaload, 1) := by decide +kernel
theorem d_Z_near_84 : decode (jm_cd mY_Z_near) 84 = .ok (.goto 4, 3) := by decide +kernel
theorem d_Z_near_87 : decode (jm_cd mY_Z_near) 87 = .ok (.iconst 0, 1) := by decide +kernel
theorem d_Z_near_88 : decode (jm_cd mY_Z_near) 88 = .ok (.istore 7, 2) := by decide +kernel
theorem d_Z_near_90 : decode (jm_cd mY_Z_near) 90 = .ok (.iload 6, 2) := by decide +kernel
theorem d_Z_near_92 : decode (jm_cd mY_Z_near) 92 = .ok (.iload 4, 2) := by decide +kernel
theorem d_Z_near_94 : decode (jm_cd mY_Z_near) 94 = .ok (.iadd, 1) := by decide +kernel
theorem d_Z_near_95 : decode (jm_cd mY_Z_near) 95 = .ok (.i2l, 1) := by decide +kernel
theorem d_Z_near_96 : decode (jm_cd mY_Z_near) 96 = .ok (.lconst 0, 1) := by decide +kernel
theorem d_Z_near_97 : decode (jm_cd mY_Z_near) 97 = .ok (.ldc2_w 249, 3) := by decide +kernel
theorem d_Z_near_100 : decode (jm_cd mY_Z_near) 100 = .ok (.invokestatic 69, 3) := by decide +kernel
theorem d_Z_near_103 : decode (jm_cd mY_Z_near) 103 = .ok (.ifCond .eq 21, 3) := by decide +kernel
theorem d_Z_near_106 : decode (jm_cd mY_Z_near) 106 = .ok (.aload_n 0, 1) := by decide +kernel
theorem d_Z_near_107 : decode (jm_cd mY_Z_near) 107 = .ok (.getfield 43, 3) := by decide +kernel
theorem d_Z_near_110 : decode (jm_cd mY_Z_near) 110 = .ok (.bipush 12, 2) := by decide +kernel
theorem d_Z_near_112 : decode (jm_cd mY_Z_near) 112 = .ok (.iload_n 2, 1) := by decide +kernel
theorem d_Z_near_113 : decode (jm_cd mY_Z_near) 113 = .ok (.imul, 1) := by decide +kernel
theorem d_Z_near_114 : decode (jm_cd mY_Z_near) 114 = .ok (.iload 6, 2) := by decide +kernel
theorem d_Z_near_116 : decode (jm_cd mY_Z_near) 116 = .ok (.iadd, 1) := by decide +kernel
theorem d_Z_near_117 : decode (jm_cd mY_Z_near) 117 = .ok (.iload 4, 2) := by decide +kernel
theorem d_Z_near_119 : decode (jm_cd mY_Z_near) 119 = .ok (.iadd, 1) := by decide +kernel
theorem d_Z_near_120 : decode (jm_cd mY_Z_near) 120 = .ok (.iaload, 1) := by decide +kernel
theorem d_Z_near_121 : decode (jm_cd mY_Z_near) 121 = .ok (.goto 4, 3) := by decide +kernel
theorem d_Z_near_124 : decode (jm_cd mY_Z_near) 124 = .ok (.iconst 0, 1) := by decide +kernel
theorem d_Z_near_125 : decode (jm_cd mY_Z_near) 125 = .ok (.istore 8, 2) := by decide +kernel
theorem d_Z_near_127 : decode (jm_cd mY_Z_near) 127 = .ok (.iload 5, 2) := by decide +kernel
theorem d_Z_near_129 : decode (jm_cd mY_Z_near) 129 = .ok (.iload 7, 2) := by decide +kernel
theorem d_Z_near_131 : decode (jm_cd mY_Z_near) 131 = .ok (.iload 8, 2) := by decide +kernel
theorem d_Z_near_133 : decode (jm_cd mY_Z_near) 133 = .ok (.if_icmp .ne 7, 3) := by decide +kernel
theorem d_Z_near_136 : decode (jm_cd mY_Z_near) 136 = .ok (.iconst 0, 1) := by decide +kernel
theorem d_Z_near_137 : decode (jm_cd mY_Z_near) 137 = .ok (.goto 18, 3) := by decide +kernel
theorem d_Z_near_140 : decode (jm_cd mY_Z_near) 140 = .ok (.iload 7, 2) := by decide +kernel
theorem d_Z_near_142 : decode (jm_cd mY_Z_near) 142 = .ok (.ifCond .le 12, 3) := by decide +kernel
theorem d_Z_near_145 : decode (jm_cd mY_Z_near) 145 = .ok (.iload 8, 2) := by decide +kernel
theorem d_Z_near_147 : decode (jm_cd mY_Z_near) 147 = .ok (.ifCond .le 7, 3) := by decide +kernel
theorem d_Z_near_150 : decode (jm_cd mY_Z_near) 150 = .ok (.iconst 2, 1) := by decide +kernel
theorem d_Z_near_151 : decode (jm_cd mY_Z_near) 151 = .ok (.goto 4, 3) := by decide +kernel
theorem d_Z_near_154 : decode (jm_cd mY_Z_near) 154 = .ok (.iconst 1, 1) := by decide +kernel
theorem d_Z_near_155 : decode (jm_cd mY_Z_near) 155 = .ok (.iadd, 1) := by decide +kernel
theorem d_Z_near_156 : decode (jm_cd mY_Z_near) 156 = .ok (.istore 5, 2) := by decide +kernel
theorem d_Z_near_158 : decode (jm_cd mY_Z_near) 158 = .ok (.iinc 6 1, 3) := by decide +kernel
theorem d_Z_near_161 : decode (jm_cd mY_Z_near) 161 = .ok (.goto (-109), 3) := by decide +kernel
theorem d_Z_near_164 : decode (jm_cd mY_Z_near) 164 = .ok (.iload 5, 2) := by decide +kernel
theorem d_Z_near_166 : decode (jm_cd mY_Z_near) 166 = .ok (.iload_n 3, 1) := by decide +kernel
theorem d_Z_near_167 : decode (jm_cd mY_Z_near) 167 = .ok (.if_icmp .ge 8, 3) := by decide +kernel
theorem d_Z_near_170 : decode (jm_cd mY_Z_near) 170 = .ok (.iload 5, 2) := by decide +kernel
theorem d_Z_near_172 : decode (jm_cd mY_Z_near) 172 = .ok (.goto 4, 3) := by decide +kernel
theorem d_Z_near_175 : decode (jm_cd mY_Z_near) 175 = .ok (.iload_n 3, 1) := by decide +kernel
theorem d_Z_near_176 : decode (jm_cd mY_Z_near) 176 = .ok (.istore_n 3, 1) := by decide +kernel
theorem d_Z_near_177 : decode (jm_cd mY_Z_near) 177 = .ok (.iinc 4 1, 3) := by decide +kernel
theorem d_Z_near_180 : decode (jm_cd mY_Z_near) 180 = .ok (.goto (-141), 3) := by decide +kernel
theorem d_Z_near_183 : decode (jm_cd mY_Z_near) 183 = .ok (.iload_n 3, 1) := by decide +kernel
theorem d_Z_near_184 : decode (jm_cd mY_Z_near) 184 = .ok (.ireturn, 1) := by decide +kernel
def s_Z_near_J125 (s : jm_M) (k21 : Int32 → Int32 → Int32 → Int32 → Option Int32) (k28 : Int32 → Int32 → Int32 → Int32 → Int32 → Int32 → Option Int32) (x1 : Int32) (x2 : Int32) (x3 : Int32) (x4 : Int32) (x5 : Int32) (x6 : Int32) (x7 : Int32) (y0 : Int32) : Option Int32 := (if x7 = y0 then jm_vi (x5 + 0) (fun v8 => k28 x1 x2 x3 x4 v8 (x6 + 1)) else (if x7 ≤ 0 then jm_vi (x5 + 1) (fun v5 => k28 x1 x2 x3 x4 v5 (x6 + 1)) else (if y0 ≤ 0 then jm_vi (x5 + 1) (fun v6 => k28 x1 x2 x3 x4 v6 (x6 + 1)) else jm_vi (x5 + 2) (fun v7 => k28 x1 x2 x3 x4 v7 (x6 + 1)))))
set_option maxRecDepth 100000 in
set_option maxHeartbeats 4000000 in
theorem s_Z_near_J125_ok (s : jm_M) {k21 : Int32 → Int32 → Int32 → Int32 → Option Int32} (hk21 : ∀ (x1 : Int32) (x2 : Int32) (x3 : Int32) (x4 : Int32), jm_Sim mY_Z_near 0 0 39 [(0, .ref 59), (1, .int x1), (2, .int x2), (3, .int x3), (4, .int x4)] [] 78 mr_154 s (k21 x1 x2 x3 x4) (jm_rI 78 mr_154 s)) {k28 : Int32 → Int32 → Int32 → Int32 → Int32 → Int32 → Option Int32} (hk28 : ∀ (x1 : Int32) (x2 : Int32) (x3 : Int32) (x4 : Int32) (x5 : Int32) (x6 : Int32), jm_Sim mY_Z_near 0 0 52 [(0, .ref 59), (1, .int x1), (2, .int x2), (3, .int x3), (4, .int x4), (5, .int x5), (6, .int x6)] [] 78 mr_154 s (k28 x1 x2 x3 x4 x5 x6) (jm_rI 78 mr_154 s)) (x1 : Int32) (x2 : Int32) (x3 : Int32) (x4 : Int32) (x5 : Int32) (x6 : Int32) (x7 : Int32) (y0 : Int32) : jm_Sim mY_Z_near 0 0 125 [(0, .ref 59), (1, .int x1), (2, .int x2), (3, .int x3), (4, .int x4), (5, .int x5), (6, .int x6), (7, .int x7)] [.int y0] 78 mr_154 s (s_Z_near_J125 s k21 k28 x1 x2 x3 x4 x5 x6 x7 y0) (jm_rI 78 mr_154 s) := by
  unfold s_Z_near_J125
  refine jm_istore (pc := 125) (L2 := [(8, .int y0), (0, .ref 59), (1, .int x1), (2, .int x2), (3, .int x3), (4, .int x4), (5, .int x5), (6, .int x6), (7, .int x7)]) d_Z_near_125 (Nat.le_of_ble_eq_true rfl) rfl ?_
  refine jm_iload (pc := 127) (q := 6) (x := x5) d_Z_near_127 rfl ?_
  refine jm_iload (pc := 129) (q := 8) (x := x7) d_Z_near_129 rfl ?_
  refine jm_iload (pc := 131) (q := 0) (x := y0) d_Z_near_131 rfl ?_
  refine jm_icmp_ne (pc := 133) (tgt := 140) d_Z_near_133 (by decide) ?_ ?_
  · refine jm_iconst (pc := 136) (v := 0) d_Z_near_136 ci_0 ?_
    refine jm_goto (pc := 137) (tgt := 155) d_Z_near_137 (by decide) ?_
    refine jm_iadd (pc := 155) d_Z_near_155 ?_
    refine jm_nvi (fun v8 => ?_)
    refine jm_istore (pc := 156) (L2 := [(5, .int v8), (8, .int y0), (0, .ref 59), (1, .int x1), (2, .int x2), (3, .int x3), (4, .int x4), (6, .int x6), (7, .int x7)]) d_Z_near_156 (Nat.le_of_ble_eq_true rfl) rfl ?_
    refine jm_iinc (pc := 158) (q := 7) (x := x6) (v := 1) (L2 := [(6, .int (x6 + 1)), (5, .int v8), (8, .int y0), (0, .ref 59), (1, .int x1), (2, .int x2), (3, .int x3), (4, .int x4), (7, .int x7)]) d_Z_near_158 rfl ci_1 (Nat.le_of_ble_eq_true rfl) rfl ?_
    refine jm_goto (pc := 161) (tgt := 52) d_Z_near_161 (by decide) ?_
    refine jm_sub (L2 := [(0, .ref 59), (1, .int x1), (2, .int x2), (3, .int x3), (4, .int x4), (5, .int v8), (6, .int (x6 + 1))]) [3, 4, 5, 6, 7, 1, 0] rfl ?_
    exact hk28 x1 x2 x3 x4 v8 (x6 + 1)
  · refine jm_iload (pc := 140) (q := 8) (x := x7) d_Z_near_140 rfl ?_
    refine jm_if_le (pc := 142) (tgt := 154) d_Z_near_142 (by decide) ?_ ?_
    · refine jm_iconst (pc := 154) (v := 1) d_Z_near_154 ci_1 ?_
      refine jm_iadd (pc := 155) d_Z_near_155 ?_
      refine jm_nvi (fun v5 => ?_)
      refine jm_istore (pc := 156) (L2 := [(5, .int v5), (8, .int y0), (0, .ref 59), (1, .int x1), (2, .int x2), (3, .int x3), (4, .int x4), (6, .int x6), (7, .int x7)]) d_Z_near_156 (Nat.le_of_ble_eq_true rfl) rfl ?_
      refine jm_iinc (pc := 158) (q := 7) (x := x6) (v := 1) (L2 := [(6, .int (x6 + 1)), (5, .int v5), (8, .int y0), (0, .ref 59), (1, .int x1), (2, .int x2), (3, .int x3), (4, .int x4), (7, .int x7)]) d_Z_near_158 rfl ci_1 (Nat.le_of_ble_eq_true rfl) rfl ?_
      refine jm_goto (pc := 161) (tgt := 52) d_Z_near_161 (by decide) ?_
      refine jm_sub (L2 := [(0, .ref 59), (1, .int x1), (2, .int x2), (3, .int x3), (4, .int x4), (5, .int v5), (6, .int (x6 + 1))]) [3, 4, 5, 6, 7, 1, 0] rfl ?_
      exact hk28 x1 x2 x3 x4 v5 (x6 + 1)
    · refine jm_iload (pc := 145) (q := 0) (x := y0) d_Z_near_145 rfl ?_
      refine jm_if_le (pc := 147) (tgt := 154) d_Z_near_147 (by decide) ?_ ?_
      · refine jm_iconst (pc := 154) (v := 1) d_Z_near_154 ci_1 ?_
        refine jm_iadd (pc := 155) d_Z_near_155 ?_
        refine jm_nvi (fun v6 => ?_)
        refine jm_istore (pc := 156) (L2 := [(5, .int v6), (8, .int y0), (0, .ref 59), (1, .int x1), (2, .int x2), (3, .int x3), (4, .int x4), (6, .int x6), (7, .int x7)]) d_Z_near_156 (Nat.le_of_ble_eq_true rfl) rfl ?_
        refine jm_iinc (pc := 158) (q := 7) (x := x6) (v := 1) (L2 := [(6, .int (x6 + 1)), (5, .int v6), (8, .int y0), (0, .ref 59), (1, .int x1), (2, .int x2), (3, .int x3), (4, .int x4), (7, .int x7)]) d_Z_near_158 rfl ci_1 (Nat.le_of_ble_eq_true rfl) rfl ?_
        refine jm_goto (pc := 161) (tgt := 52) d_Z_near_161 (by decide) ?_
        refine jm_sub (L2 := [(0, .ref 59), (1, .int x1), (2, .int x2), (3, .int x3), (4, .int x4), (5, .int v6), (6, .int (x6 + 1))]) [3, 4, 5, 6, 7, 1, 0] rfl ?_
        exact hk28 x1 x2 x3 x4 v6 (x6 + 1)
      · refine jm_iconst (pc := 150) (v := 2) d_Z_near_150 ci_2 ?_
        refine jm_goto (pc := 151) (tgt := 155) d_Z_near_151 (by decide) ?_
        refine jm_iadd (pc := 155) d_Z_near_155 ?_
        refine jm_nvi (fun v7 => ?_)
        refine jm_istore (pc := 156) (L2 := [(5, .int v7), (8, .int y0), (0, .ref 59), (1, .int x1), (2, .int x2), (3, .int x3), (4, .int x4), (6, .int x6), (7, .int x7)]) d_Z_near_156 (Nat.le_of_ble_eq_true rfl) rfl ?_
        refine jm_iinc (pc := 158) (q := 7) (x := x6) (v := 1) (L2 := [(6, .int (x6 + 1)), (5, .int v7), (8, .int y0), (0, .ref 59), (1, .int x1), (2, .int x2), (3, .int x3), (4, .int x4), (7, .int x7)]) d_Z_near_158 rfl ci_1 (Nat.le_of_ble_eq_true rfl) rfl ?_
        refine jm_goto (pc := 161) (tgt := 52) d_Z_near_161 (by decide) ?_
        refine jm_sub (L2 := [(0, .ref 59), (1, .int x1), (2, .int x2), (3, .int x3), (4, .int x4), (5, .int v7), (6, .int (x6 + 1))]) [3, 4, 5, 6, 7, 1, 0] rfl ?_
        exact hk28 x1 x2 x3 x4 v7 (x6 + 1)
def s_Z_near_J88 (s : jm_M) (k21 : Int32 → Int32 → Int32 → Int32 → Option Int32) (k28 : Int32 → Int32 → Int32 → Int32 → Int32 → Int32 → Option Int32) (x1 : Int32) (x2 : Int32) (x3 : Int32) (x4 : Int32) (x5 : Int32) (x6 : Int32) (y0 : Int32) : Option Int32 := jm_bd (s_Z_in s ((x6 + x4).toInt64) 0 11) (fun v4 => (if v4 = 0 then s_Z_near_J125 s k21 k28 x1 x2 x3 x4 x5 x6 y0 0 else jm_ldi s 71 72 (((12 * x2) + x6) + x4) (fun v9 => s_Z_near_J125 s k21 k28 x1 x2 x3 x4 x5 x6 y0 v9)))
set_option maxRecDepth 100000 in
set_option maxHeartbeats 4000000 in
theorem s_Z_near_J88_ok (s : jm_M) {k21 : Int32 → Int32 → Int32 → Int32 → Option Int32} (hk21 : ∀ (x1 : Int32) (x2 : Int32) (x3 : Int32) (x4 : Int32), jm_Sim mY_Z_near 0 0 39 [(0, .ref 59), (1, .int x1), (2, .int x2), (3, .int x3), (4, .int x4)] [] 78 mr_154 s (k21 x1 x2 x3 x4) (jm_rI 78 mr_154 s)) {k28 : Int32 → Int32 → Int32 → Int32 → Int32 → Int32 → Option Int32} (hk28 : ∀ (x1 : Int32) (x2 : Int32) (x3 : Int32) (x4 : Int32) (x5 : Int32) (x6 : Int32), jm_Sim mY_Z_near 0 0 52 [(0, .ref 59), (1, .int x1), (2, .int x2), (3, .int x3), (4, .int x4), (5, .int x5), (6, .int x6)] [] 78 mr_154 s (k28 x1 x2 x3 x4 x5 x6) (jm_rI 78 mr_154 s)) (x1 : Int32) (x2 : Int32) (x3 : Int32) (x4 : Int32) (x5 : Int32) (x6 : Int32) (y0 : Int32) : jm_Sim mY_Z_near 0 0 88 [(0, .ref 59), (1, .int x1), (2, .int x2), (3, .int x3), (4, .int x4), (5, .int x5), (6, .int x6)] [.int y0] 78 mr_154 s (s_Z_near_J88 s k21 k28 x1 x2 x3 x4 x5 x6 y0) (jm_rI 78 mr_154 s) := by
  unfold s_Z_near_J88
  refine jm_istore (pc := 88) (L2 := [(7, .int y0), (0, .ref 59), (1, .int x1), (2, .int x2), (3, .int x3), (4, .int x4), (5, .int x5), (6, .int x6)]) d_Z_near_88 (Nat.le_of_ble_eq_true rfl) rfl ?_
  refine jm_iload (pc := 90) (q := 7) (x := x6) d_Z_near_90 rfl ?_
  refine jm_iload (pc := 92) (q := 5) (x := x4) d_Z_near_92 rfl ?_
  refine jm_iadd (pc := 94) d_Z_near_94 ?_
  refine jm_i2l (pc := 95) d_Z_near_95 ?_
  refine jm_lconst (pc := 96) (v := 0) d_Z_near_96 cl_0 ?_
  refine jm_ldc2 (pc := 97) (v := 11) d_Z_near_97 kl_Z_249 ?_
  refine jm_Sp (pc := 100) (Y' := mY_Z_in) (avs := [.long ((x6 + x4).toInt64), .long 0, .long 11]) (rest := []) (s_Z_in_ok s ((x6 + x4).toInt64) 0 11) ok_Z_in l0_Z_near__Z_in ml_Z_69 sm_Z_in d_Z_near_100 rfl rfl (Nat.le_of_ble_eq_true rfl) (Nat.le_of_ble_eq_true rfl) (Nat.le_of_ble_eq_true rfl) (Nat.le_of_ble_eq_true rfl) (fun v4 => ?_)
  refine jm_if_eq (pc := 103) (tgt := 124) d_Z_near_103 (by decide) ?_ ?_
  · refine jm_iconst (pc := 124) (v := 0) d_Z_near_124 ci_0 ?_
    refine jm_sub (L2 := [(0, .ref 59), (1, .int x1), (2, .int x2), (3, .int x3), (4, .int x4), (5, .int x5), (6, .int x6), (7, .int y0)]) [1, 2, 3, 4, 5, 6, 7, 0] rfl ?_
    exact s_Z_near_J125_ok s hk21 hk28 x1 x2 x3 x4 x5 x6 y0 0
  · refine jm_aload_n (pc := 106) (q := 1) (x := 59) d_Z_near_106 rfl ?_
    refine jm_gr (pc := 107) (i := 59) d_Z_near_107 fo_Z_43 sh_59 ge_59 le_59_78 rfl (fun _ => rfl) mr_154_59_13 ge_71 ?_
    refine jm_bipush (pc := 110) (v := 12) d_Z_near_110 cb_12 ?_
    refine jm_iload_n (pc := 112) (q := 3) (x := x2) d_Z_near_112 rfl ?_
    refine jm_imul (pc := 113) d_Z_near_113 ?_
    refine jm_iload (pc := 114) (q := 7) (x := x6) d_Z_near_114 rfl ?_
    refine jm_iadd (pc := 116) d_Z_near_116 ?_
    refine jm_iload (pc := 117) (q := 5) (x := x4) d_Z_near_117 rfl ?_
    refine jm_iadd (pc := 119) d_Z_near_119 ?_
    refine jm_iald (pc := 120) d_Z_near_120 sh_71 ge_71 le_71_78 (fun v9 => ?_)
    refine jm_goto (pc := 121) (tgt := 125) d_Z_near_121 (by decide) ?_
    refine jm_sub (L2 := [(0, .ref 59), (1, .int x1), (2, .int x2), (3, .int x3), (4, .int x4), (5, .int x5), (6, .int x6), (7, .int y0)]) [1, 2, 3, 4, 5, 6, 7, 0] rfl ?_
    exact s_Z_near_J125_ok s hk21 hk28 x1 x2 x3 x4 x5 x6 y0 v9
def s_Z_near_L52 (s : jm_M) (k21 : Int32 → Int32 → Int32 → Int32 → Option Int32) : Nat → Int32 → Int32 → Int32 → Int32 → Int32 → Int32 → Option Int32
  | 0, _, _, _, _, _, _ => none
  | n + 1, x1, x2, x3, x4, x5, x6 => (if 15 ≤ x6 then (if x3 ≤ x5 then k21 x1 x2 x3 (x4 + 1) else k21 x1 x2 x5 (x4 + 1)) else jm_bd (s_Z_in s x6.toInt64 0 11) (fun v3 => (if v3 = 0 then s_Z_near_J88 s k21 (s_Z_near_L52 s k21 n) x1 x2 x3 x4 x5 x6 0 else jm_ldi s 71 72 ((12 * x1) + x6) (fun v10 => s_Z_near_J88 s k21 (s_Z_near_L52 s k21 n) x1 x2 x3 x4 x5 x6 v10))))
set_option maxRecDepth 100000 in
set_option maxHeartbeats 4000000 in
theorem s_Z_near_L52_ok (s : jm_M) {k21 : Int32 → Int32 → Int32 → Int32 → Option Int32} (hk21 : ∀ (x1 : Int32) (x2 : Int32) (x3 : Int32) (x4 : Int32), jm_Sim mY_Z_near 0 0 39 [(0, .ref 59), (1, .int x1), (2, .int x2), (3, .int x3), (4, .int x4)] [] 78 mr_154 s (k21 x1 x2 x3 x4) (jm_rI 78 mr_154 s)) : ∀ (n : Nat) (x1 : Int32) (x2 : Int32) (x3 : Int32) (x4 : Int32) (x5 : Int32) (x6 : Int32), jm_Sim mY_Z_near 0 0 52 [(0, .ref 59), (1, .int x1), (2, .int x2), (3, .int x3), (4, .int x4), (5, .int x5), (6, .int x6)] [] 78 mr_154 s (s_Z_near_L52 s k21 n x1 x2 x3 x4 x5 x6) (jm_rI 78 mr_154 s) := by
  intro n
  induction n with
  | zero => intro x1 x2 x3 x4 x5 x6; exact jm_none
  | succ n ih =>
    intro x1 x2 x3 x4 x5 x6
    rw [s_Z_near_L52]
    refine jm_iload (pc := 52) (q := 6) (x := x6) d_Z_near_52 rfl ?_
    refine jm_bipush (pc := 54) (v := 15) d_Z_near_54 cb_15 ?_
    refine jm_icmp_ge (pc := 56) (tgt := 164) d_Z_near_56 (by decide) ?_ ?_
    · refine jm_iload (pc := 164) (q := 5) (x := x5) d_Z_near_164 rfl ?_
      refine jm_iload_n (pc := 166) (q := 3) (x := x3) d_Z_near_166 rfl ?_
      refine jm_icmp_ge (pc := 167) (tgt := 175) d_Z_near_167 (by decide) ?_ ?_
      · refine jm_iload_n (pc := 175) (q := 3) (x := x3) d_Z_near_175 rfl ?_
        refine jm_istore_n (pc := 176) (i := 3) (L2 := [(3, .int x3), (0, .ref 59), (1, .int x1), (2, .int x2), (4, .int x4), (5, .int x5), (6, .int x6)]) d_Z_near_176 rfl (Nat.le_of_ble_eq_true rfl) rfl ?_
        refine jm_iinc (pc := 177) (q := 4) (x := x4) (v := 1) (L2 := [(4, .int (x4 + 1)), (3, .int x3), (0, .ref 59), (1, .int x1), (2, .int x2), (5, .int x5), (6, .int x6)]) d_Z_near_177 rfl ci_1 (Nat.le_of_ble_eq_true rfl) rfl ?_
        refine jm_goto (pc := 180) (tgt := 39) d_Z_near_180 (by decide) ?_
        refine jm_sub (L2 := [(0, .ref 59), (1, .int x1), (2, .int x2), (3, .int x3), (4, .int (x4 + 1))]) [2, 3, 4, 1, 0] rfl ?_
        exact hk21 x1 x2 x3 (x4 + 1)
      · refine jm_iload (pc := 170) (q := 5) (x := x5) d_Z_near_170 rfl ?_
        refine jm_goto (pc := 172) (tgt := 176) d_Z_near_172 (by decide) ?_
        refine jm_istore_n (pc := 176) (i := 3) (L2 := [(3, .int x5), (0, .ref 59), (1, .int x1), (2, .int x2), (4, .int x4), (5, .int x5), (6, .int x6)]) d_Z_near_176 rfl (Nat.le_of_ble_eq_true rfl) rfl ?_
        refine jm_iinc (pc := 177) (q := 4) (x := x4) (v := 1) (L2 := [(4, .int (x4 + 1)), (3, .int x5), (0, .ref 59), (1, .int x1), (2, .int x2), (5, .int x5), (6, .int x6)]) d_Z_near_177 rfl ci_1 (Nat.le_of_ble_eq_true rfl) rfl ?_
        refine jm_goto (pc := 180) (tgt := 39) d_Z_near_180 (by decide) ?_
        refine jm_sub (L2 := [(0, .ref 59), (1, .int x1), (2, .int x2), (3, .int x5), (4, .int (x4 + 1))]) [2, 3, 4, 1, 0] rfl ?_
        exact hk21 x1 x2 x5 (x4 + 1)
    · refine jm_iload (pc := 59) (q := 6) (x := x6) d_Z_near_59 rfl ?_
      refine jm_i2l (pc := 61) d_Z_near_61 ?_
      refine jm_lconst (pc := 62) (v := 0) d_Z_near_62 cl_0 ?_
      refine jm_ldc2 (pc := 63) (v := 11) d_Z_near_63 kl_Z_249 ?_
      refine jm_Sp (pc := 66) (Y' := mY_Z_in) (avs := [.long x6.toInt64, .long 0, .long 11]) (rest := []) (s_Z_in_ok s x6.toInt64 0 11) ok_Z_in l0_Z_near__Z_in ml_Z_69 sm_Z_in d_Z_near_66 rfl rfl (Nat.le_of_ble_eq_true rfl) (Nat.le_of_ble_eq_true rfl) (Nat.le_of_ble_eq_true rfl) (Nat.le_of_ble_eq_true rfl) (fun v3 => ?_)
      refine jm_if_eq (pc := 69) (tgt := 87) d_Z_near_69 (by decide) ?_ ?_
      · refine jm_iconst (pc := 87) (v := 0) d_Z_near_87 ci_0 ?_
        exact s_Z_near_J88_ok s hk21 ih x1 x2 x3 x4 x5 x6 0
      · refine jm_aload_n (pc := 72) (q := 0) (x := 59) d_Z_near_72 rfl ?_
        refine jm_gr (pc := 73) (i := 59) d_Z_near_73 fo_Z_43 sh_59 ge_59 le_59_78 rfl (fun _ => rfl) mr_154_59_13 ge_71 ?_
        refine jm_bipush (pc := 76) (v := 12) d_Z_near_76 cb_12 ?_
        refine jm_iload_n (pc := 78) (q := 1) (x := x1) d_Z_near_78 rfl ?_
        refine jm_imul (pc := 79) d_Z_near_79 ?_
        refine jm_iload (pc := 80) (q := 6) (x := x6) d_Z_near_80 rfl ?_
        refine jm_iadd (pc := 82) d_Z_near_82 ?_
        refine jm_iald (pc := 83) d_Z_near_83 sh_71 ge_71 le_71_78 (fun v10 => ?_)
        refine jm_goto (pc := 84) (tgt := 88) d_Z_near_84 (by decide) ?_
        exact s_Z_near_J88_ok s hk21 ih x1 x2 x3 x4 x5 x6 v10
def s_Z_near_L39 (s : jm_M) : Nat → Int32 → Int32 → Int32 → Int32 → Option Int32
  | 0, _, _, _, _ => none
  | n + 1, x1, x2, x3, x4 => (if 3 < x4 then (some x3) else s_Z_near_L52 s (s_Z_near_L39 s n) 5000 x1 x2 x3 x4 0 (-3))
set_option maxRecDepth 100000 in
set_option maxHeartbeats 4000000 in
theorem s_Z_near_L39_ok (s : jm_M) : ∀ (n : Nat) (x1 : Int32) (x2 : Int32) (x3 : Int32) (x4 : Int32), jm_Sim mY_Z_near 0 0 39 [(0, .ref 59), (1, .int x1), (2, .int x2), (3, .int x3), (4, .int x4)] [] 78 mr_154 s (s_Z_near_L39 s n x1 x2 x3 x4) (jm_rI 78 mr_154 s) := by
  intro n
  induction n with
  | zero => intro x1 x2 x3 x4; exact jm_none
  | succ n ih =>
    intro x1 x2 x3 x4
    rw [s_Z_near_L39]
    refine jm_iload (pc := 39) (q := 4) (x := x4) d_Z_near_39 rfl ?_
    refine jm_iconst (pc := 41) (v := 3) d_Z_near_41 ci_3 ?_
    refine jm_icmp_gt (pc := 42) (tgt := 183) d_Z_near_42 (by decide) ?_ ?_
    · refine jm_iload_n (pc := 183) (q := 3) (x := x3) d_Z_near_183 rfl ?_
      exact jm_iret (pc := 184) (x := x3) d_Z_near_184 rfl rfl rfl rfl rfl
    · refine jm_iconst (pc := 45) (v := 0) d_Z_near_45 ci_0 ?_
      refine jm_istore (pc := 46) (L2 := [(5, .int 0), (0, .ref 59), (1, .int x1), (2, .int x2), (3, .int x3), (4, .int x4)]) d_Z_near_46 (Nat.le_of_ble_eq_true rfl) rfl ?_
      refine jm_bipush (pc := 48) (v := (-3)) d_Z_near_48 cb_m3 ?_
      refine jm_istore (pc := 50) (L2 := [(6, .int (-3)), (5, .int 0), (0, .ref 59), (1, .int x1), (2, .int x2), (3, .int x3), (4, .int x4)]) d_Z_near_50 (Nat.le_of_ble_eq_true rfl) rfl ?_
      refine jm_sub (L2 := [(0, .ref 59), (1, .int x1), (2, .int x2), (3, .int x3), (4, .int x4), (5, .int 0), (6, .int (-3))]) [2, 3, 4, 5, 6, 1, 0] rfl ?_
      exact s_Z_near_L52_ok s ih 5000 x1 x2 x3 x4 0 (-3)
def s_Z_near (s : jm_M) (a0 : Int32) (a1 : Int32) : Option Int32 := jm_bd (s_Z_in s a0.toInt64 0 5) (fun v1 => (if v1 = 0 then (some (-1)) else jm_bd (s_Z_in s a1.toInt64 0 5) (fun v2 => (if v2 = 0 then (some (-1)) else (if a0 = a1 then (some (-1)) else s_Z_near_L39 s 5000 a0 a1 1000 (-3))))))
set_option maxRecDepth 100000 in
set_option maxHeartbeats 4000000 in
theorem s_Z_near_ok (s : jm_M) (a0 : Int32) (a1 : Int32) : jm_Sim mY_Z_near 0 0 0 [(0, .ref 59), (1, .int a0), (2, .int a1)] [] 78 mr_154 s (s_Z_near s a0 a1) (jm_rI 78 mr_154 s) := by
  unfold s_Z_near
  refine jm_iload_n (pc := 0) (q := 1) (x := a0) d_Z_near_0 rfl ?_
  refine jm_i2l (pc := 1) d_Z_near_1 ?_
  refine jm_lconst (pc := 2) (v := 0) d_Z_near_2 cl_0 ?_
  refine jm_ldc2 (pc := 3) (v := 5) d_Z_near_3 kl_Z_247 ?_
  refine jm_Sp (pc := 6) (Y' := mY_Z_in) (avs := [.long a0.toInt64, .long 0, .long 5]) (rest := []) (s_Z_in_ok s a0.toInt64 0 5) ok_Z_in l0_Z_near__Z_in ml_Z_69 sm_Z_in d_Z_near_6 rfl rfl (Nat.le_of_ble_eq_true rfl) (Nat.le_of_ble_eq_true rfl) (Nat.le_of_ble_eq_true rfl) (Nat.le_of_ble_eq_true rfl) (fun v1 => ?_)
  refine jm_if_eq (pc := 9) (tgt := 29) d_Z_near_9 (by decide) ?_ ?_
  · refine jm_iconst (pc := 29) (v := (-1)) d_Z_near_29 ci_m1 ?_
    exact jm_iret (pc := 30) (x := (-1)) d_Z_near_30 rfl rfl rfl rfl rfl
  · refine jm_iload_n (pc := 12) (q := 2) (x := a1) d_Z_near_12 rfl ?_
    refine jm_i2l (pc := 13) d_Z_near_13 ?_
    refine jm_lconst (pc := 14) (v := 0) d_Z_near_14 cl_0 ?_
    refine jm_ldc2 (pc := 15) (v := 5) d_Z_near_15 kl_Z_247 ?_
    refine jm_Sp (pc := 18) (Y' := mY_Z_in) (avs := [.long a1.toInt64, .long 0, .long 5]) (rest := []) (s_Z_in_ok s a1.toInt64 0 5) ok_Z_in l0_Z_near__Z_in ml_Z_69 sm_Z_in d_Z_near_18 rfl rfl (Nat.le_of_ble_eq_true rfl) (Nat.le_of_ble_eq_true rfl) (Nat.le_of_ble_eq_true rfl) (Nat.le_of_ble_eq_true rfl) (fun v2 => ?_)
    refine jm_if_eq (pc := 21) (tgt := 29) d_Z_near_21 (by decide) ?_ ?_
    · refine jm_iconst (pc := 29) (v := (-1)) d_Z_near_29 ci_m1 ?_
      exact jm_iret (pc := 30) (x := (-1)) d_Z_near_30 rfl rfl rfl rfl rfl
    · refine jm_iload_n (pc := 24) (q := 1) (x := a0) d_Z_near_24 rfl ?_
      refine jm_iload_n (pc := 25) (q := 2) (x := a1) d_Z_near_25 rfl ?_
      refine jm_icmp_ne (pc := 26) (tgt := 31) d_Z_near_26 (by decide) ?_ ?_
      · refine jm_iconst (pc := 29) (v := (-1)) d_Z_near_29 ci_m1 ?_
        exact jm_iret (pc := 30) (x := (-1)) d_Z_near_30 rfl rfl rfl rfl rfl
      · refine jm_sipush (pc := 31) (v := 1000) d_Z_near_31 cs_1000 ?_
        refine jm_istore_n (pc := 34) (i := 3) (L2 := [(3, .int 1000), (0, .ref 59), (1, .int a0), (2, .int a1)]) d_Z_near_34 rfl (Nat.le_of_ble_eq_true rfl) rfl ?_
        refine jm_bipush (pc := 35) (v := (-3)) d_Z_near_35 cb_m3 ?_
        refine jm_istore (pc := 37) (L2 := [(4, .int (-3)), (3, .int 1000), (0, .ref 59), (1, .int a0), (2, .int a1)]) d_Z_near_37 (Nat.le_of_ble_eq_true rfl) rfl ?_
        refine jm_sub (L2 := [(0, .ref 59), (1, .int a0), (2, .int a1), (3, .int 1000), (4, .int (-3))]) [2, 3, 4, 1, 0] rfl ?_
        exact s_Z_near_L39_ok s 5000 a0 a1 1000 (-3)
