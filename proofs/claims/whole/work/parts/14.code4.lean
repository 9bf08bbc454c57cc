theorem d_Ni_isFired_0 : decode (jm_cd mY_Ni_isFired) 0 = .ok (.iload_n 2, 1) := by decide +kernel
theorem d_Ni_isFired_1 : decode (jm_cd mY_Ni_isFired) 1 = .ok (.ifCond .lt 9, 3) := by decide +kernel
theorem d_Ni_isFired_4 : decode (jm_cd mY_Ni_isFired) 4 = .ok (.iload_n 2, 1) := by decide +kernel
theorem d_Ni_isFired_5 : decode (jm_cd mY_Ni_isFired) 5 = .ok (.bipush 10, 2) := by decide +kernel
theorem d_Ni_isFired_7 : decode (jm_cd mY_Ni_isFired) 7 = .ok (.if_icmp .lt 5, 3) := by decide +kernel
theorem d_Ni_isFired_10 : decode (jm_cd mY_Ni_isFired) 10 = .ok (.iconst 0, 1) := by decide +kernel
theorem d_Ni_isFired_11 : decode (jm_cd mY_Ni_isFired) 11 = .ok (.ireturn, 1) := by decide +kernel
theorem d_Ni_isFired_12 : decode (jm_cd mY_Ni_isFired) 12 = .ok (.aload_n 1, 1) := by decide +kernel
theorem d_Ni_isFired_13 : decode (jm_cd mY_Ni_isFired) 13 = .ok (.getfield 44, 3) := by decide +kernel
theorem d_Ni_isFired_16 : decode (jm_cd mY_Ni_isFired) 16 = .ok (.iload_n 2, 1) := by decide +kernel
theorem d_Ni_isFired_17 : decode (jm_cd mY_Ni_isFired) 17 = .ok (.laload, 1) := by decide +kernel
theorem d_Ni_isFired_18 : decode (jm_cd mY_Ni_isFired) 18 = .ok (.lconst 0, 1) := by decide +kernel
theorem d_Ni_isFired_19 : decode (jm_cd mY_Ni_isFired) 19 = .ok (.lcmp, 1) := by decide +kernel
theorem d_Ni_isFired_20 : decode (jm_cd mY_Ni_isFired) 20 = .ok (.ifCond .eq 24, 3) := by decide +kernel
theorem d_Ni_isFired_23 : decode (jm_cd mY_Ni_isFired) 23 = .ok (.aload_n 1, 1) := by decide +kernel
theorem d_Ni_isFired_24 : decode (jm_cd mY_Ni_isFired) 24 = .ok (.getfield 44, 3) := by decide +kernel
theorem d_Ni_isFired_27 : decode (jm_cd mY_Ni_isFired) 27 = .ok (.iload_n 2, 1) := by decide +kernel
theorem d_Ni_isFired_28 : decode (jm_cd mY_Ni_isFired) 28 = .ok (.laload, 1) := by decide +kernel
theorem d_Ni_isFired_29 : decode (jm_cd mY_Ni_isFired) 29 = .ok (.iload_n 3, 1) := by decide +kernel
theorem d_Ni_isFired_30 : decode (jm_cd mY_Ni_isFired) 30 = .ok (.lushr, 1) := by decide +kernel
theorem d_Ni_isFired_31 : decode (jm_cd mY_Ni_isFired) 31 = .ok (.lconst 1, 1) := by decide +kernel
theorem d_Ni_isFired_32 : decode (jm_cd mY_Ni_isFired) 32 = .ok (.land, 1) := by decide +kernel
theorem d_Ni_isFired_33 : decode (jm_cd mY_Ni_isFired) 33 = .ok (.lconst 0, 1) := by decide +kernel
theorem d_Ni_isFired_34 : decode (jm_cd mY_Ni_isFired) 34 = .ok (.lcmp, 1) := by decide +kernel
theorem d_Ni_isFired_35 : decode (jm_cd mY_Ni_isFired) 35 = .ok (.ifCond .eq 7, 3) := by decide +kernel
theorem d_Ni_isFired_38 : decode (jm_cd mY_Ni_isFired) 38 = .ok (.iconst 1, 1) := by decide +kernel
theorem d_Ni_isFired_39 : decode (jm_cd mY_Ni_isFired) 39 = .ok (.goto 4, 3) := by decide +kernel
theorem d_Ni_isFired_42 : decode (jm_cd mY_Ni_isFired) 42 = .ok (.iconst 0, 1) := by decide +kernel
theorem d_Ni_isFired_43 : decode (jm_cd mY_Ni_isFired) 43 = .ok (.ireturn, 1) := by decide +kernel
theorem d_Ni_isFired_44 : decode (jm_cd mY_Ni_isFired) 44 = .ok (.aload_n 1, 1) := by decide +kernel
theorem d_Ni_isFired_45 : decode (jm_cd mY_Ni_isFired) 45 = .ok (.getfield 47, 3) := by decide +kernel
theorem d_Ni_isFired_48 : decode (jm_cd mY_Ni_isFired) 48 = .ok (.iload_n 2, 1) := by decide +kernel
theorem d_Ni_isFired_49 : decode (jm_cd mY_Ni_isFired) 49 = .ok (.iaload, 1) := by decide +kernel
theorem d_Ni_isFired_50 : decode (jm_cd mY_Ni_isFired) 50 = .ok (.ifCond .eq 13, 3) := by decide +kernel
theorem d_Ni_isFired_53 : decode (jm_cd mY_Ni_isFired) 53 = .ok (.aload_n 1, 1) := by decide +kernel
theorem d_Ni_isFired_54 : decode (jm_cd mY_Ni_isFired) 54 = .ok (.getfield 47, 3) := by decide +kernel
theorem d_Ni_isFired_57 : decode (jm_cd mY_Ni_isFired) 57 = .ok (.iload_n 2, 1) := by decide +kernel
theorem d_Ni_isFired_58 : decode (jm_cd mY_Ni_isFired) 58 = .ok (.iaload, 1) := by decide +kernel
theorem d_Ni_isFired_59 : decode (jm_cd mY_Ni_isFired) 59 = .ok (.iconst 1, 1) := by decide +kernel
theorem d_Ni_isFired_60 : decode (jm_cd mY_Ni_isFired) 60 = .ok (.if_icmp .ne 7, 3) := by decide +kernel
theorem d_Ni_isFired_63 : decode (jm_cd mY_Ni_isFired) 63 = .ok (.iconst 1, 1) := by decide +kernel
theorem d_Ni_isFired_64 : decode (jm_cd mY_Ni_isFired) 64 = .ok (.goto 4, 3) := by decide +kernel
theorem d_Ni_isFired_67 : decode (jm_cd mY_Ni_isFired) 67 = .ok (.iconst 0, 1) := by decide +kernel
theorem d_Ni_isFired_68 : decode (jm_cd mY_Ni_isFired) 68 = .ok (.istore 4, 2) := by decide +kernel
theorem d_Ni_isFired_70 : decode (jm_cd mY_Ni_isFired) 70 = .ok (.iload_n 3, 1) := by decide +kernel
theorem d_Ni_isFired_71 : decode (jm_cd mY_Ni_isFired) 71 = .ok (.ifCond .eq 23, 3) := by decide +kernel
theorem d_Ni_isFired_74 : decode (jm_cd mY_Ni_isFired) 74 = .ok (.iload 4, 2) := by decide +kernel
theorem d_Ni_isFired_76 : decode (jm_cd mY_Ni_isFired) 76 = .ok (.ifCond .eq 18, 3) := by decide +kernel
theorem d_Ni_isFired_79 : decode (jm_cd mY_Ni_isFired) 79 = .ok (.aload_n 1, 1) := by decide +kernel
theorem d_Ni_isFired_80 : decode (jm_cd mY_Ni_isFired) 80 = .ok (.getfield 50, 3) := by decide +kernel
theorem d_Ni_isFired_83 : decode (jm_cd mY_Ni_isFired) 83 = .ok (.iload_n 2, 1) := by decide +kernel
theorem d_Ni_isFired_84 : decode (jm_cd mY_Ni_isFired) 84 = .ok (.laload, 1) := by decide +kernel
theorem d_Ni_isFired_85 : decode (jm_cd mY_Ni_isFired) 85 = .ok (.iload_n 3, 1) := by decide +kernel
theorem d_Ni_isFired_86 : decode (jm_cd mY_Ni_isFired) 86 = .ok (.lushr, 1) := by decide +kernel
theorem d_Ni_isFired_87 : decode (jm_cd mY_Ni_isFired) 87 = .ok (.lconst 1, 1) := by decide +kernel
theorem d_Ni_isFired_88 : decode (jm_cd mY_Ni_isFired) 88 = .ok (.land, 1) := by decide +kernel
theorem d_Ni_isFired_89 : decode (jm_cd mY_Ni_isFired) 89 = .ok (.lconst 0, 1) := by decide +kernel
theorem d_Ni_isFired_90 : decode (jm_cd mY_Ni_isFired) 90 = .ok (.lcmp, 1) := by decide +kernel
theorem d_Ni_isFired_91 : decode (jm_cd mY_Ni_isFired) 91 = .ok (.ifCond .eq 5, 3) := by decide +kernel
theorem d_Ni_isFired_94 : decode (jm_cd mY_Ni_isFired) 94 = .ok (.iconst 0, 1) := by decide +kernel
theorem d_Ni_isFired_95 : decode (jm_cd mY_Ni_isFired) 95 = .ok (.ireturn, 1) := by decide +kernel
theorem d_Ni_isFired_96 : decode (jm_cd mY_Ni_isFired) 96 = .ok (.iload_n 3, 1) := by decide +kernel
theorem d_Ni_isFired_97 : decode (jm_cd mY_Ni_isFired) 97 = .ok (.iconst 1, 1) := by decide +kernel
theorem d_Ni_isFired_98 : decode (jm_cd mY_Ni_isFired) 98 = .ok (.isub, 1) := by decide +kernel
theorem d_Ni_isFired_99 : decode (jm_cd mY_Ni_isFired) 99 = .ok (.istore 5, 2) := by decide +kernel
theorem d_Ni_isFired_101 : decode (jm_cd mY_Ni_isFired) 101 = .ok (.aload_n 0, 1) := by decide +kernel
theorem d_Ni_isFired_102 : decode (jm_cd mY_Ni_isFired) 102 = .ok (.iload_n 2, 1) := by decide +kernel
theorem d_Ni_isFired_103 : decode (jm_cd mY_Ni_isFired) 103 = .ok (.iload 5, 2) := by decide +kernel
theorem d_Ni_isFired_105 : decode (jm_cd mY_Ni_isFired) 105 = .ok (.invokevirtual 53, 3) := by decide +kernel
theorem d_Ni_isFired_108 : decode (jm_cd mY_Ni_isFired) 108 = .ok (.ifCond .ne 24, 3) := by decide +kernel
theorem d_Ni_isFired_111 : decode (jm_cd mY_Ni_isFired) 111 = .ok (.aload_n 1, 1) := by decide +kernel
theorem d_Ni_isFired_112 : decode (jm_cd mY_Ni_isFired) 112 = .ok (.iload_n 2, 1) := by decide +kernel
theorem d_Ni_isFired_113 : decode (jm_cd mY_Ni_isFired) 113 = .ok (.iload 5, 2) := by decide +kernel
theorem d_Ni_isFired_115 : decode (jm_cd mY_Ni_isFired) 115 = .ok (.invokestatic 57, 3) := by decide +kernel
theorem d_Ni_isFired_118 : decode (jm_cd mY_Ni_isFired) 118 = .ok (.ifCond .ne 14, 3) := by decide +kernel
theorem d_Ni_isFired_121 : decode (jm_cd mY_Ni_isFired) 121 = .ok (.aload_n 0, 1) := by decide +kernel
theorem d_Ni_isFired_122 : decode (jm_cd mY_Ni_isFired) 122 = .ok (.aload_n 1, 1) := by decide +kernel
theorem d_Ni_isFired_123 : decode (jm_cd mY_Ni_isFired) 123 = .ok (.iload_n 2, 1) := by decide +kernel
theorem d_Ni_isFired_124 : decode (jm_cd mY_Ni_isFired) 124 = .ok (.iload 5, 2) := by decide +kernel
theorem d_Ni_isFired_126 : decode (jm_cd mY_Ni_isFired) 126 = .ok (.invokevirtual 60, 3) := by decide +kernel
theorem d_Ni_isFired_129 : decode (jm_cd mY_Ni_isFired) 129 = .ok (.ifCond .eq 7, 3) := by decide +kernel
theorem d_Ni_isFired_132 : decode (jm_cd mY_Ni_isFired) 132 = .ok (.iconst 1, 1) := by decide +kernel
theorem d_Ni_isFired_133 : decode (jm_cd mY_Ni_isFired) 133 = .ok (.goto 4, 3) := by decide +kernel
theorem d_Ni_isFired_136 : decode (jm_cd mY_Ni_isFired) 136 = .ok (.iconst 0, 1) := by decide +kernel
theorem d_Ni_isFired_137 : decode (jm_cd mY_Ni_isFired) 137 = .ok (.ireturn, 1) := by decide +kernel
def s_Ni_isFired_45_15_J68 (s : jm_M) (x2 : Int32) (x3 : Int32) (y0 : Int32) : Option Int32 := (if x3 = 0 then (some 0) else (if y0 = 0 then (some 0) else jm_ldl s 22 10 x2 (fun v3 => (if (lg_cmp (((v3.toUInt64 >>> (x3.toInt64.toUInt64 &&& Int64.toUInt64 63)).toInt64) &&& 1) 0) = 0 then jm_vi (x3 - 1) (fun v4 => jm_bd (s_Ni_isLit s x2 v4) (fun v5 => (if v5 = 0 then jm_bd (s_Ni_sawShip s x2 v4) (fun v6 => (if v6 = 0 then jm_bd (s_Ni_ruleHeld_45_15 s x2 v4) (fun v7 => (if v7 = 0 then (some 0) else (some 1))) else (some 1))) else (some 1)))) else (some 0)))))
set_option maxRecDepth 100000 in
set_option maxHeartbeats 4000000 in
theorem s_Ni_isFired_45_15_J68_ok (s : jm_M) (x2 : Int32) (x3 : Int32) (y0 : Int32) : jm_Sim mY_Ni_isFired 0 0 68 [(0, .ref 45), (1, .ref 15), (2, .int x2), (3, .int x3)] [.int y0] 78 mr_154 s (s_Ni_isFired_45_15_J68 s x2 x3 y0) (jm_rI 78 mr_154 s) := by
  unfold s_Ni_isFired_45_15_J68
  refine jm_istore (pc := 68) (L2 := [(4, .int y0), (0, .ref 45), (1, .ref 15), (2, .int x2), (3, .int x3)]) d_Ni_isFired_68 (Nat.le_of_ble_eq_true rfl) rfl ?_
  refine jm_iload_n (pc := 70) (q := 4) (x := x3) d_Ni_isFired_70 rfl ?_
  refine jm_if_eq (pc := 71) (tgt := 94) d_Ni_isFired_71 (by decide) ?_ ?_
  · refine jm_iconst (pc := 94) (v := 0) d_Ni_isFired_94 ci_0 ?_
    exact jm_iret (pc := 95) (x := 0) d_Ni_isFired_95 rfl (by decide) rfl rfl rfl
  · refine jm_iload (pc := 74) (q := 0) (x := y0) d_Ni_isFired_74 rfl ?_
    refine jm_if_eq (pc := 76) (tgt := 94) d_Ni_isFired_76 (by decide) ?_ ?_
    · refine jm_iconst (pc := 94) (v := 0) d_Ni_isFired_94 ci_0 ?_
      exact jm_iret (pc := 95) (x := 0) d_Ni_isFired_95 rfl (by decide) rfl rfl rfl
    · refine jm_aload_n (pc := 79) (q := 2) (x := 15) d_Ni_isFired_79 rfl ?_
      refine jm_gr (pc := 80) (i := 15) d_Ni_isFired_80 fo_Ni_50 sh_15 ge_15 le_15_78 rfl (fun _ => rfl) mr_154_15_7 ge_22 ?_
      refine jm_iload_n (pc := 83) (q := 3) (x := x2) d_Ni_isFired_83 rfl ?_
      refine jm_lald (pc := 84) d_Ni_isFired_84 sh_22 ge_22 le_22_78 (fun v3 => ?_)
      refine jm_iload_n (pc := 85) (q := 4) (x := x3) d_Ni_isFired_85 rfl ?_
      refine jm_lushr (pc := 86) d_Ni_isFired_86 ?_
      refine jm_lconst (pc := 87) (v := 1) d_Ni_isFired_87 cl_1 ?_
      refine jm_land (pc := 88) d_Ni_isFired_88 ?_
      refine jm_lconst (pc := 89) (v := 0) d_Ni_isFired_89 cl_0 ?_
      refine jm_lcmp (pc := 90) d_Ni_isFired_90 ?_
      refine jm_if_eq (pc := 91) (tgt := 96) d_Ni_isFired_91 (by decide) ?_ ?_
      · refine jm_iload_n (pc := 96) (q := 4) (x := x3) d_Ni_isFired_96 rfl ?_
        refine jm_iconst (pc := 97) (v := 1) d_Ni_isFired_97 ci_1 ?_
        refine jm_isub (pc := 98) d_Ni_isFired_98 ?_
        refine jm_nvi (fun v4 => ?_)
        refine jm_istore (pc := 99) (L2 := [(5, .int v4), (4, .int y0), (0, .ref 45), (1, .ref 15), (2, .int x2), (3, .int x3)]) d_Ni_isFired_99 (Nat.le_of_ble_eq_true rfl) rfl ?_
        refine jm_aload_n (pc := 101) (q := 2) (x := 45) d_Ni_isFired_101 rfl ?_
        refine jm_iload_n (pc := 102) (q := 4) (x := x2) d_Ni_isFired_102 rfl ?_
        refine jm_iload (pc := 103) (q := 0) (x := v4) d_Ni_isFired_103 rfl ?_
        refine jm_Vp (pc := 105) (Y' := mY_Ni_isLit) (i := 45) (avs := [.int x2, .int v4]) (rest := []) (s_Ni_isLit_ok s x2 v4) ok_Ni_isLit l0_Ni_isFired__Ni_isLit ml_Ni_53 im_Ni_isLit se_Ni_isLit d_Ni_isFired_105 rfl sh_45 rfl rfl ge_45 le_45_78 rfl (Nat.le_of_ble_eq_true rfl) (Nat.le_of_ble_eq_true rfl) (Nat.le_of_ble_eq_true rfl) (Nat.le_of_ble_eq_true rfl) (fun v5 => ?_)
        refine jm_if_ne (pc := 108) (tgt := 132) d_Ni_isFired_108 (by decide) ?_ ?_
        · refine jm_aload_n (pc := 111) (q := 3) (x := 15) d_Ni_isFired_111 rfl ?_
          refine jm_iload_n (pc := 112) (q := 4) (x := x2) d_Ni_isFired_112 rfl ?_
          refine jm_iload (pc := 113) (q := 0) (x := v4) d_Ni_isFired_113 rfl ?_
          refine jm_Sp (pc := 115) (Y' := mY_Ni_sawShip) (avs := [.ref 15, .int x2, .int v4]) (rest := []) (s_Ni_sawShip_ok s x2 v4) ok_Ni_sawShip l0_Ni_isFired__Ni_sawShip ml_Ni_57 sm_Ni_sawShip d_Ni_isFired_115 rfl rfl (Nat.le_of_ble_eq_true rfl) (Nat.le_of_ble_eq_true rfl) (Nat.le_of_ble_eq_true rfl) (Nat.le_of_ble_eq_true rfl) (fun v6 => ?_)
          refine jm_if_ne (pc := 118) (tgt := 132) d_Ni_isFired_118 (by decide) ?_ ?_
          · refine jm_aload_n (pc := 121) (q := 2) (x := 45) d_Ni_isFired_121 rfl ?_
            refine jm_aload_n (pc := 122) (q := 3) (x := 15) d_Ni_isFired_122 rfl ?_
            refine jm_iload_n (pc := 123) (q := 4) (x := x2) d_Ni_isFired_123 rfl ?_
            refine jm_iload (pc := 124) (q := 0) (x := v4) d_Ni_isFired_124 rfl ?_
            refine jm_Vp (pc := 126) (Y' := mY_Ni_ruleHeld) (i := 45) (avs := [.ref 15, .int x2, .int v4]) (rest := []) (s_Ni_ruleHeld_45_15_ok s x2 v4) ok_Ni_ruleHeld l0_Ni_isFired__Ni_ruleHeld ml_Ni_60 im_Ni_ruleHeld se_Ni_ruleHeld d_Ni_isFired_126 rfl sh_45 rfl rfl ge_45 le_45_78 rfl (Nat.le_of_ble_eq_true rfl) (Nat.le_of_ble_eq_true rfl) (Nat.le_of_ble_eq_true rfl) (Nat.le_of_ble_eq_true rfl) (fun v7 => ?_)
            refine jm_if_eq (pc := 129) (tgt := 136) d_Ni_isFired_129 (by decide) ?_ ?_
            · refine jm_iconst (pc := 136) (v := 0) d_Ni_isFired_136 ci_0 ?_
              exact jm_iret (pc := 137) (x := 0) d_Ni_isFired_137 rfl (by decide) rfl rfl rfl
            · refine jm_iconst (pc := 132) (v := 1) d_Ni_isFired_132 ci_1 ?_
              refine jm_goto (pc := 133) (tgt := 137) d_Ni_isFired_133 (by decide) ?_
              exact jm_iret (pc := 137) (x := 1) d_Ni_isFired_137 rfl (by decide) rfl rfl rfl
          · refine jm_iconst (pc := 132) (v := 1) d_Ni_isFired_132 ci_1 ?_
            refine jm_goto (pc := 133) (tgt := 137) d_Ni_isFired_133 (by decide) ?_
            exact jm_iret (pc := 137) (x := 1) d_Ni_isFired_137 rfl (by decide) rfl rfl rfl
        · refine jm_iconst (pc := 132) (v := 1) d_Ni_isFired_132 ci_1 ?_
          refine jm_goto (pc := 133) (tgt := 137) d_Ni_isFired_133 (by decide) ?_
          exact jm_iret (pc := 137) (x := 1) d_Ni_isFired_137 rfl (by decide) rfl rfl rfl
      · refine jm_iconst (pc := 94) (v := 0) d_Ni_isFired_94 ci_0 ?_
        exact jm_iret (pc := 95) (x := 0) d_Ni_isFired_95 rfl (by decide) rfl rfl rfl
def s_Ni_isFired_45_15 (s : jm_M) (a1 : Int32) (a2 : Int32) : Option Int32 := (if a1 < 0 then (some 0) else (if a1 < 10 then jm_ldl s 23 10 a1 (fun v1 => (if (lg_cmp v1 0) = 0 then jm_ldi s 16 10 a1 (fun v2 => (if v2 = 0 then s_Ni_isFired_45_15_J68 s a1 a2 1 else jm_ldi s 16 10 a1 (fun v8 => (if v8 = 1 then s_Ni_isFired_45_15_J68 s a1 a2 1 else s_Ni_isFired_45_15_J68 s a1 a2 0)))) else jm_ldl s 23 10 a1 (fun v9 => (if (lg_cmp (((v9.toUInt64 >>> (a2.toInt64.toUInt64 &&& Int64.toUInt64 63)).toInt64) &&& 1) 0) = 0 then (some 0) else (some 1))))) else (some 0)))
set_option maxRecDepth 100000 in
set_option maxHeartbeats 4000000 in
theorem s_Ni_isFired_45_15_ok (s : jm_M) (a1 : Int32) (a2 : Int32) : jm_Sim mY_Ni_isFired 0 0 0 [(0, .ref 45), (1, .ref 15), (2, .int a1), (3, .int a2)] [] 78 mr_154 s (s_Ni_isFired_45_15 s a1 a2) (jm_rI 78 mr_154 s) := by
  unfold s_Ni_isFired_45_15
  refine jm_iload_n (pc := 0) (q := 2) (x := a1) d_Ni_isFired_0 rfl ?_
  refine jm_if_lt (pc := 1) (tgt := 10) d_Ni_isFired_1 (by decide) ?_ ?_
  · refine jm_iconst (pc := 10) (v := 0) d_Ni_isFired_10 ci_0 ?_
    exact jm_iret (pc := 11) (x := 0) d_Ni_isFired_11 rfl (by decide) rfl rfl rfl
  · refine jm_iload_n (pc := 4) (q := 2) (x := a1) d_Ni_isFired_4 rfl ?_
    refine jm_bipush (pc := 5) (v := 10) d_Ni_isFired_5 cb_10 ?_
    refine jm_icmp_lt (pc := 7) (tgt := 12) d_Ni_isFired_7 (by decide) ?_ ?_
    · refine jm_aload_n (pc := 12) (q := 1) (x := 15) d_Ni_isFired_12 rfl ?_
      refine jm_gr (pc := 13) (i := 15) d_Ni_isFired_13 fo_Ni_44 sh_15 ge_15 le_15_78 rfl (fun _ => rfl) mr_154_15_8 ge_23 ?_
      refine jm_iload_n (pc := 16) (q := 2) (x := a1) d_Ni_isFired_16 rfl ?_
      refine jm_lald (pc := 17) d_Ni_isFired_17 sh_23 ge_23 le_23_78 (fun v1 => ?_)
      refine jm_lconst (pc := 18) (v := 0) d_Ni_isFired_18 cl_0 ?_
      refine jm_lcmp (pc := 19) d_Ni_isFired_19 ?_
      refine jm_if_eq (pc := 20) (tgt := 44) d_Ni_isFired_20 (by decide) ?_ ?_
      · refine jm_aload_n (pc := 44) (q := 1) (x := 15) d_Ni_isFired_44 rfl ?_
        refine jm_gr (pc := 45) (i := 15) d_Ni_isFired_45 fo_Ni_47 sh_15 ge_15 le_15_78 rfl (fun _ => rfl) mr_154_15_1 ge_16 ?_
        refine jm_iload_n (pc := 48) (q := 2) (x := a1) d_Ni_isFired_48 rfl ?_
        refine jm_iald (pc := 49) d_Ni_isFired_49 sh_16 ge_16 le_16_78 (fun v2 => ?_)
        refine jm_if_eq (pc := 50) (tgt := 63) d_Ni_isFired_50 (by decide) ?_ ?_
        · refine jm_iconst (pc := 63) (v := 1) d_Ni_isFired_63 ci_1 ?_
          refine jm_goto (pc := 64) (tgt := 68) d_Ni_isFired_64 (by decide) ?_
          exact s_Ni_isFired_45_15_J68_ok s a1 a2 1
        · refine jm_aload_n (pc := 53) (q := 1) (x := 15) d_Ni_isFired_53 rfl ?_
          refine jm_gr (pc := 54) (i := 15) d_Ni_isFired_54 fo_Ni_47 sh_15 ge_15 le_15_78 rfl (fun _ => rfl) mr_154_15_1 ge_16 ?_
          refine jm_iload_n (pc := 57) (q := 2) (x := a1) d_Ni_isFired_57 rfl ?_
          refine jm_iald (pc := 58) d_Ni_isFired_58 sh_16 ge_16 le_16_78 (fun v8 => ?_)
          refine jm_iconst (pc := 59) (v := 1) d_Ni_isFired_59 ci_1 ?_
          refine jm_icmp_ne (pc := 60) (tgt := 67) d_Ni_isFired_60 (by decide) ?_ ?_
          · refine jm_iconst (pc := 63) (v := 1) d_Ni_isFired_63 ci_1 ?_
            refine jm_goto (pc := 64) (tgt := 68) d_Ni_isFired_64 (by decide) ?_
            exact s_Ni_isFired_45_15_J68_ok s a1 a2 1
          · refine jm_iconst (pc := 67) (v := 0) d_Ni_isFired_67 ci_0 ?_
            exact s_Ni_isFired_45_15_J68_ok s a1 a2 0
      · refine jm_aload_n (pc := 23) (q := 1) (x := 15) d_Ni_isFired_23 rfl ?_
        refine jm_gr (pc := 24) (i := 15) d_Ni_isFired_24 fo_Ni_44 sh_15 ge_15 le_15_78 rfl (fun _ => rfl) mr_154_15_8 ge_23 ?_
        refine jm_iload_n (pc := 27) (q := 2) (x := a1) d_Ni_isFired_27 rfl ?_
        refine jm_lald (pc := 28) d_Ni_isFired_28 sh_23 ge_23 le_23_78 (fun v9 => ?_)
        refine jm_iload_n (pc := 29) (q := 3) (x := a2) d_Ni_isFired_29 rfl ?_
        refine jm_lushr (pc := 30) d_Ni_isFired_30 ?_
        refine jm_lconst (pc := 31) (v := 1) d_Ni_isFired_31 cl_1 ?_
        refine jm_land (pc := 32) d_Ni_isFired_32 ?_
        refine jm_lconst (pc := 33) (v := 0) d_Ni_isFired_33 cl_0 ?_
        refine jm_lcmp (pc := 34) d_Ni_isFired_34 ?_
        refine jm_if_eq (pc := 35) (tgt := 42) d_Ni_isFired_35 (by decide) ?_ ?_
        · refine jm_iconst (pc := 42) (v := 0) d_Ni_isFired_42 ci_0 ?_
          exact jm_iret (pc := 43) (x := 0) d_Ni_isFired_43 rfl (by decide) rfl rfl rfl
        · refine jm_iconst (pc := 38) (v := 1) d_Ni_isFired_38 ci_1 ?_
          refine jm_goto (pc := 39) (tgt := 43) d_Ni_isFired_39 (by decide) ?_
          exact jm_iret (pc := 43) (x := 1) d_Ni_isFired_43 rfl (by decide) rfl rfl rfl
    · refine jm_iconst (pc := 10) (v := 0) d_Ni_isFired_10 ci_0 ?_
      exact jm_iret (pc := 11) (x := 0) d_Ni_isFired_11 rfl (by decide) rfl rfl rfl
theorem d_Ni_playMinute_0 : decode (jm_cd mY_Ni_playMinute) 0 = .ok (.iconst 0, 1) := by decide +kernel
theorem d_Ni_playMinute_1 : decode (jm_cd mY_Ni_playMinute) 1 = .ok (.istore_n 3, 1) := by decide +kernel
theorem d_Ni_playMinute_2 : decode (jm_cd mY_Ni_playMinute) 2 = .ok (.iload_n 3, 1) := by decide +kernel
theorem d_Ni_playMinute_3 : decode (jm_cd mY_Ni_playMinute) 3 = .ok (.bipush 10, 2) := by decide +kernel
theorem d_Ni_playMinute_5 : decode (jm_cd mY_Ni_playMinute) 5 = .ok (.if_icmp .ge 50, 3) := by decide +kernel
theorem d_Ni_playMinute_8 : decode (jm_cd mY_Ni_playMinute) 8 = .ok (.aload_n 0, 1) := by decide +kernel
theorem d_Ni_playMinute_9 : decode (jm_cd mY_Ni_playMinute) 9 = .ok (.getfield 9, 3) := by decide +kernel
theorem d_Ni_playMinute_12 : decode (jm_cd mY_Ni_playMinute) 12 = .ok (.iload_n 3, 1) := by decide +kernel
theorem d_Ni_playMinute_13 : decode (jm_cd mY_Ni_playMinute) 13 = .ok (.iaload, 1) := by decide +kernel
theorem d_Ni_playMinute_14 : decode (jm_cd mY_Ni_playMinute) 14 = .ok (.ifCond .le 35, 3) := by decide +kernel
theorem d_Ni_playMinute_17 : decode (jm_cd mY_Ni_playMinute) 17 = .ok (.aload_n 0, 1) := by decide +kernel
theorem d_Ni_playMinute_18 : decode (jm_cd mY_Ni_playMinute) 18 = .ok (.aload_n 1, 1) := by decide +kernel
theorem d_Ni_playMinute_19 : decode (jm_cd mY_Ni_playMinute) 19 = .ok (.iload_n 3, 1) := by decide +kernel
theorem d_Ni_playMinute_20 : decode (jm_cd mY_Ni_playMinute) 20 = .ok (.iload_n 2, 1) := by decide +kernel
theorem d_Ni_playMinute_21 : decode (jm_cd mY_Ni_playMinute) 21 = .ok (.invokevirtual 40, 3) := by decide +kernel
theorem d_Ni_playMinute_24 : decode (jm_cd mY_Ni_playMinute) 24 = .ok (.ifCond .eq 25, 3) := by decide +kernel
theorem d_Ni_playMinute_27 : decode (jm_cd mY_Ni_playMinute) 27 = .ok (.aload_n 0, 1) := by decide +kernel
theorem d_Ni_playMinute_28 : decode (jm_cd mY_Ni_playMinute) 28 = .ok (.getfield 19, 3) := by decide +kernel
theorem d_Ni_playMinute_31 : decode (jm_cd mY_Ni_playMinute) 31 = .ok (.iload_n 3, 1) := by decide +kernel
theorem d_Ni_playMinute_32 : decode (jm_cd mY_Ni_playMinute) 32 = .ok (.dup2, 1) := by decide +kernel
theorem d_Ni_playMinute_33 : decode (jm_cd mY_Ni_playMinute) 33 = .ok (.laload, 1) := by decide +kernel
theorem d_Ni_playMinute_34 : decode (jm_cd mY_Ni_playMinute) 34 = .ok (.lconst 1, 1) := by decide +kernel
theorem d_Ni_playMinute_35 : decode (jm_cd mY_Ni_playMinute) 35 = .ok (.iload_n 2, 1) := by decide +kernel
theorem d_Ni_playMinute_36 : decode (jm_cd mY_Ni_playMinute) 36 = .ok (.lshl, 1) := by decide +kernel
theorem d_Ni_playMinute_37 : decode (jm_cd mY_Ni_playMinute) 37 = .ok (.lor, 1) := by decide +kernel
theorem d_Ni_playMinute_38 : decode (jm_cd mY_Ni_playMinute) 38 = .ok (.lastore, 1) := by decide +kernel
theorem d_Ni_playMinute_39 : decode (jm_cd mY_Ni_playMinute) 39 = .ok (.aload_n 0, 1) := by decide +kernel
theorem d_Ni_playMinute_40 : decode (jm_cd mY_Ni_playMinute) 40 = .ok (.getfield 9, 3) := by decide +kernel
theorem d_Ni_playMinute_43 : decode (jm_cd mY_Ni_playMinute) 43 = .ok (.iload_n 3, 1) := by decide +kernel
theorem d_Ni_playMinute_44 : decode (jm_cd mY_Ni_playMinute) 44 = .ok (.dup2, 1) := by decide +kernel
theorem d_Ni_playMinute_45 : decode (jm_cd mY_Ni_playMinute) 45 = .ok (.iaload, 1) := by decide +kernel
theorem d_Ni_playMinute_46 : decode (jm_cd mY_Ni_playMinute) 46 = .ok (.iconst 1, 1) := by decide +kernel
theorem d_Ni_playMinute_47 : decode (jm_cd mY_Ni_playMinute) 47 = .ok (.isub, 1) := by decide +kernel
theorem d_Ni_playMinute_48 : decode (jm_cd mY_Ni_playMinute) 48 = .ok (.iastore, 1) := by decide +kernel
theorem d_Ni_playMinute_49 : decode (jm_cd mY_Ni_playMinute) 49 = .ok (.iinc 3 1, 3) := by decide +kernel
theorem d_Ni_playMinute_52 : decode (jm_cd mY_Ni_playMinute) 52 = .ok (.goto (-50), 3) := by decide +kernel
theorem d_Ni_playMinute_55 : decode (jm_cd mY_Ni_playMinute) 55 = .ok (.return_, 1) := by decide +kernel
def s_Ni_playMinute_45_15_L2 : Nat → Int32 → Int32 → jm_M → Option jm_M
  | 0, _, _, _ => none
  | n + 1, x2, x3, s => (if 10 ≤ x3 then (some s) else jm_ldi s 46 10 x3 (fun v1 => (if v1 ≤ 0 then s_Ni_playMinute_45_15_L2 n x2 (x3 + 1) s else jm_bd (s_Ni_isFired_45_15 s x3 x2) (fun v2 => (if v2 = 0 then s_Ni_playMinute_45_15_L2 n x2 (x3 + 1) s else jm_ldl s 47 10 x3 (fun v3 => jm_stl s 47 10 x3 (v3 ||| (1 <<< (x2.toInt64 &&& 63))) (fun s4 => jm_ldi s4 46 10 x3 (fun v5 => jm_sti s4 46 10 x3 (v5 - 1) (fun s6 => s_Ni_playMinute_45_15_L2 n x2 (x3 + 1) s6)))))))))
set_option maxRecDepth 100000 in
set_option maxHeartbeats 4000000 in
theorem s_Ni_playMinute_45_15_L2_ok : ∀ (n : Nat) (x2 : Int32) (x3 : Int32) (s : jm_M), jm_Sim mY_Ni_playMinute 0 0 2 [(0, .ref 45), (1, .ref 15), (2, .int x2), (3, .int x3)] [] 78 mr_154 s (s_Ni_playMinute_45_15_L2 n x2 x3 s) (jm_rV 78 mr_154) := by
  intro n
  induction n with
  | zero => intro x2 x3 s; exact jm_none
  | succ n ih =>
    intro x2 x3 s
    rw [s_Ni_playMinute_45_15_L2]
    refine jm_iload_n (pc := 2) (q := 3) (x := x3) d_Ni_playMinute_2 rfl ?_
    refine jm_bipush (pc := 3) (v := 10) d_Ni_playMinute_3 cb_10 ?_
    refine jm_icmp_ge (pc := 5) (tgt := 55) d_Ni_playMinute_5 (by decide) ?_ ?_
    · exact jm_vret (pc := 55) d_Ni_playMinute_55 rfl rfl rfl rfl
    · refine jm_aload_n (pc := 8) (q := 0) (x := 45) d_Ni_playMinute_8 rfl ?_
      refine jm_gr (pc := 9) (i := 45) d_Ni_playMinute_9 fo_Ni_9 sh_45 ge_45 le_45_78 rfl (fun _ => rfl) mr_154_45_0 ge_46 ?_
      refine jm_iload_n (pc := 12) (q := 3) (x := x3) d_Ni_playMinute_12 rfl ?_
      refine jm_iald (pc := 13) d_Ni_playMinute_13 sh_46 ge_46 le_46_78 (fun v1 => ?_)
      refine jm_if_le (pc := 14) (tgt := 49) d_Ni_playMinute_14 (by decide) ?_ ?_
      · refine jm_iinc (pc := 49) (q := 3) (x := x3) (v := 1) (L2 := [(3, .int (x3 + 1)), (0, .ref 45), (1, .ref 15), (2, .int x2)]) d_Ni_playMinute_49 rfl ci_1 (Nat.le_of_ble_eq_true rfl) rfl ?_
        refine jm_goto (pc := 52) (tgt := 2) d_Ni_playMinute_52 (by decide) ?_
        refine jm_sub (L2 := [(0, .ref 45), (1, .ref 15), (2, .int x2), (3, .int (x3 + 1))]) [1, 2, 3, 0] rfl ?_
        exact ih x2 (x3 + 1) s
      · refine jm_aload_n (pc := 17) (q := 0) (x := 45) d_Ni_playMinute_17 rfl ?_
        refine jm_aload_n (pc := 18) (q := 1) (x := 15) d_Ni_playMinute_18 rfl ?_
        refine jm_iload_n (pc := 19) (q := 3) (x := x3) d_Ni_playMinute_19 rfl ?_
        refine jm_iload_n (pc := 20) (q := 2) (x := x2) d_Ni_playMinute_20 rfl ?_
        refine jm_Vp (pc := 21) (Y' := mY_Ni_isFired) (i := 45) (avs := [.ref 15, .int x3, .int x2]) (rest := []) (s_Ni_isFired_45_15_ok s x3 x2) ok_Ni_isFired l0_Ni_playMinute__Ni_isFired ml_Ni_40 im_Ni_isFired se_Ni_isFired d_Ni_playMinute_21 rfl sh_45 rfl rfl ge_45 le_45_78 rfl (Nat.le_of_ble_eq_true rfl) (Nat.le_of_ble_eq_true rfl) (Nat.le_of_ble_eq_true rfl) (Nat.le_of_ble_eq_true rfl) (fun v2 => ?_)
        refine jm_if_eq (pc := 24) (tgt := 49) d_Ni_playMinute_24 (by decide) ?_ ?_
        · refine jm_iinc (pc := 49) (q := 3) (x := x3) (v := 1) (L2 := [(3, .int (x3 + 1)), (0, .ref 45), (1, .ref 15), (2, .int x2)]) d_Ni_playMinute_49 rfl ci_1 (Nat.le_of_ble_eq_true rfl) rfl ?_
          refine jm_goto (pc := 52) (tgt := 2) d_Ni_playMinute_52 (by decide) ?_
          refine jm_sub (L2 := [(0, .ref 45), (1, .ref 15), (2, .int x2), (3, .int (x3 + 1))]) [1, 2, 3, 0] rfl ?_
          exact ih x2 (x3 + 1) s
        · refine jm_aload_n (pc := 27) (q := 0) (x := 45) d_Ni_playMinute_27 rfl ?_
          refine jm_gr (pc := 28) (i := 45) d_Ni_playMinute_28 fo_Ni_19 sh_45 ge_45 le_45_78 rfl (fun _ => rfl) mr_154_45_2 ge_47 ?_
          refine jm_iload_n (pc := 31) (q := 3) (x := x3) d_Ni_playMinute_31 rfl ?_
          refine jm_dup2 (pc := 32) d_Ni_playMinute_32 rfl rfl ?_
          refine jm_lald (pc := 33) d_Ni_playMinute_33 sh_47 ge_47 le_47_78 (fun v3 => ?_)
          refine jm_lconst (pc := 34) (v := 1) d_Ni_playMinute_34 cl_1 ?_
          refine jm_iload_n (pc := 35) (q := 2) (x := x2) d_Ni_playMinute_35 rfl ?_
          refine jm_lshl (pc := 36) d_Ni_playMinute_36 ?_
          refine jm_lor (pc := 37) d_Ni_playMinute_37 ?_
          refine jm_last (pc := 38) d_Ni_playMinute_38 sh_47 ge_47 le_47_78 (fun s4 => ?_)
          refine jm_aload_n (pc := 39) (q := 0) (x := 45) d_Ni_playMinute_39 rfl ?_
          refine jm_gr (pc := 40) (i := 45) d_Ni_playMinute_40 fo_Ni_9 sh_45 ge_45 le_45_78 rfl (fun _ => rfl) mr_154_45_0 ge_46 ?_
          refine jm_iload_n (pc := 43) (q := 3) (x := x3) d_Ni_playMinute_43 rfl ?_
          refine jm_dup2 (pc := 44) d_Ni_playMinute_44 rfl rfl ?_
          refine jm_iald (pc := 45) d_Ni_playMinute_45 sh_46 ge_46 le_46_78 (fun v5 => ?_)
          refine jm_iconst (pc := 46) (v := 1) d_Ni_playMinute_46 ci_1 ?_
          refine jm_isub (pc := 47) d_Ni_playMinute_47 ?_
          refine jm_iast (pc := 48) d_Ni_playMinute_48 sh_46 ge_46 le_46_78 (fun s6 => ?_)
          refine jm_iinc (pc := 49) (q := 3) (x := x3) (v := 1) (L2 := [(3, .int (x3 + 1)), (0, .ref 45), (1, .ref 15), (2, .int x2)]) d_Ni_playMinute_49 rfl ci_1 (Nat.le_of_ble_eq_true rfl) rfl ?_
          refine jm_goto (pc := 52) (tgt := 2) d_Ni_playMinute_52 (by decide) ?_
          refine jm_sub (L2 := [(0, .ref 45), (1, .ref 15), (2, .int x2), (3, .int (x3 + 1))]) [1, 2, 3, 0] rfl ?_
          exact ih x2 (x3 + 1) s6
def s_Ni_playMinute_45_15 (s : jm_M) (a1 : Int32) : Option jm_M := s_Ni_playMinute_45_15_L2 5000 a1 0 s
set_option maxRecDepth 100000 in
set_option maxHeartbeats 4000000 in
theorem s_Ni_playMinute_45_15_ok (s : jm_M) (a1 : Int32) : jm_Sim mY_Ni_playMinute 0 0 0 [(0, .ref 45), (1, .ref 15), (2, .int a1)] [] 78 mr_154 s (s_Ni_playMinute_45_15 s a1) (jm_rV 78 mr_154) := by
  unfold s_Ni_playMinute_45_15
  refine jm_iconst (pc := 0) (v := 0) d_Ni_playMinute_0 ci_0 ?_
  refine jm_istore_n (pc := 1) (i := 3) (L2 := [(3, .int 0), (0, .ref 45), (1, .ref 15), (2, .int a1)]) d_Ni_playMinute_1 rfl (Nat.le_of_ble_eq_true rfl) rfl ?_
  refine jm_sub (L2 := [(0, .ref 45), (1, .ref 15), (2, .int a1), (3, .int 0)]) [1, 2, 3, 0] rfl ?_
  exact s_Ni_playMinute_45_15_L2_ok 5000 a1 0 s
theorem d_Ni_isHeard_0 : decode (jm_cd mY_Ni_isHeard) 0 = .ok (.iconst 0, 1) := by decide +kernel
theorem d_Ni_isHeard_1 : decode (jm_cd mY_Ni_isHeard) 1 = .ok (.istore_n 3, 1) := by decide +kernel
theorem d_Ni_isHeard_2 : decode (jm_cd mY_Ni_isHeard) 2 = .ok (.iload_n 3, 1) := by decide +kernel
theorem d_Ni_isHeard_3 : decode (jm_cd mY_Ni_isHeard) 3 = .ok (.bipush 10, 2) := by decide +kernel
theorem d_Ni_isHeard_5 : decode (jm_cd mY_Ni_isHeard) 5 = .ok (.if_icmp .ge 50, 3) := by decide +kernel
theorem d_Ni_isHeard_8 : decode (jm_cd mY_Ni_isHeard) 8 = .ok (.aload_n 1, 1) := by decide +kernel
theorem d_Ni_isHeard_9 : decode (jm_cd mY_Ni_isHeard) 9 = .ok (.getfield 47, 3) := by decide +kernel
theorem d_Ni_isHeard_12 : decode (jm_cd mY_Ni_isHeard) 12 = .ok (.iload_n 3, 1) := by decide +kernel
theorem d_Ni_isHeard_13 : decode (jm_cd mY_Ni_isHeard) 13 = .ok (.iaload, 1) := by decide +kernel
theorem d_Ni_isHeard_14 : decode (jm_cd mY_Ni_isHeard) 14 = .ok (.iconst 2, 1) := by decide +kernel
theorem d_Ni_isHeard_15 : decode (jm_cd mY_Ni_isHeard) 15 = .ok (.if_icmp .ne 34, 3) := by decide +kernel
theorem d_Ni_isHeard_18 : decode (jm_cd mY_Ni_isHeard) 18 = .ok (.aload_n 1, 1) := by decide +kernel
theorem d_Ni_isHeard_19 : decode (jm_cd mY_Ni_isHeard) 19 = .ok (.getfield 50, 3) := by decide +kernel
theorem d_Ni_isHeard_22 : decode (jm_cd mY_Ni_isHeard) 22 = .ok (.iload_n 3, 1) := by decide +kernel
theorem d_Ni_isHeard_23 : decode (jm_cd mY_Ni_isHeard) 23 = .ok (.laload, 1) := by decide +kernel
theorem d_Ni_isHeard_24 : decode (jm_cd mY_Ni_isHeard) 24 = .ok (.iload_n 2, 1) := by decide +kernel
theorem d_Ni_isHeard_25 : decode (jm_cd mY_Ni_isHeard) 25 = .ok (.lushr, 1) := by decide +kernel
theorem d_Ni_isHeard_26 : decode (jm_cd mY_Ni_isHeard) 26 = .ok (.lconst 1, 1) := by decide +kernel
theorem d_Ni_isHeard_27 : decode (jm_cd mY_Ni_isHeard) 27 = .ok (.land, 1) := by decide +kernel
theorem d_Ni_isHeard_28 : decode (jm_cd mY_Ni_isHeard) 28 = .ok (.lconst 0, 1) := by decide +kernel
theorem d_Ni_isHeard_29 : decode (jm_cd mY_Ni_isHeard) 29 = .ok (.lcmp, 1) := by decide +kernel
theorem d_Ni_isHeard_30 : decode (jm_cd mY_Ni_isHeard) 30 = .ok (.ifCond .ne 17, 3) := by decide +kernel
theorem d_Ni_isHeard_33 : decode (jm_cd mY_Ni_isHeard) 33 = .ok (.aload_n 0, 1) := by decide +kernel
theorem d_Ni_isHeard_34 : decode (jm_cd mY_Ni_isHeard) 34 = .ok (.aload_n 1, 1) := by decide +kernel
theorem d_Ni_isHeard_35 : decode (jm_cd mY_Ni_isHeard) 35 = .ok (.iload_n 3, 1) := by decide +kernel
theorem d_Ni_isHeard_36 : decode (jm_cd mY_Ni_isHeard) 36 = .ok (.iload_n 2, 1) := by decide +kernel
theorem d_Ni_isHeard_37 : decode (jm_cd mY_Ni_isHeard) 37 = .ok (.invokevirtual 60, 3) := by decide +kernel
theorem d_Ni_isHeard_40 : decode (jm_cd mY_Ni_isHeard) 40 = .ok (.ifCond .eq 7, 3) := by decide +kernel
theorem d_Ni_isHeard_43 : decode (jm_cd mY_Ni_isHeard) 43 = .ok (.iconst 1, 1) := by decide +kernel
theorem d_Ni_isHeard_44 : decode (jm_cd mY_Ni_isHeard) 44 = .ok (.goto 4, 3) := by decide +kernel
theorem d_Ni_isHeard_47 : decode (jm_cd mY_Ni_isHeard) 47 = .ok (.iconst 0, 1) := by decide +kernel
theorem d_Ni_isHeard_48 : decode (jm_cd mY_Ni_isHeard) 48 = .ok (.ireturn, 1) := by decide +kernel
theorem d_Ni_isHeard_49 : decode (jm_cd mY_Ni_isHeard) 49 = .ok (.iinc 3 1, 3) := by decide +kernel
theorem d_Ni_isHeard_52 : decode (jm_cd mY_Ni_isHeard) 52 = .ok (.goto (-50), 3) := by decide +kernel
theorem d_Ni_isHeard_55 : decode (jm_cd mY_Ni_isHeard) 55 = .ok (.iconst 0, 1) := by decide +kernel
theorem d_Ni_isHeard_56 : decode (jm_cd mY_Ni_isHeard) 56 = .ok (.ireturn, 1) := by decide +kernel
def s_Ni_isHeard_45_15_L2 (s : jm_M) : Nat → Int32 → Int32 → Option Int32
  | 0, _, _ => none
  | n + 1, x2, x3 => (if 10 ≤ x3 then (some 0) else jm_ldi s 16 10 x3 (fun v1 => (if v1 = 2 then jm_ldl s 22 10 x3 (fun v2 => (if (lg_cmp (((v2.toUInt64 >>> (x2.toInt64.toUInt64 &&& Int64.toUInt64 63)).toInt64) &&& 1) 0) = 0 then jm_bd (s_Ni_ruleHeld_45_15 s x3 x2) (fun v3 => (if v3 = 0 then (some 0) else (some 1))) else (some 0))) else s_Ni_isHeard_45_15_L2 s n x2 (x3 + 1))))
set_option maxRecDepth 100000 in
set_option maxHeartbeats 4000000 in
theorem s_Ni_isHeard_45_15_L2_ok (s : jm_M) : ∀ (n : Nat) (x2 : Int32) (x3 : Int32), jm_Sim mY_Ni_isHeard 0 0 2 [(0, .ref 45), (1, .ref 15), (2, .int x2), (3, .int x3)] [] 78 mr_154 s (s_Ni_isHeard_45_15_L2 s n x2 x3) (jm_rI 78 mr_154 s) := by
  intro n
  induction n with
  | zero => intro x2 x3; exact jm_none
  | succ n ih =>
    intro x2 x3
    rw [s_Ni_isHeard_45_15_L2]
    refine jm_iload_n (pc := 2) (q := 3) (x := x3) d_Ni_isHeard_2 rfl ?_
    refine jm_bipush (pc := 3) (v := 10) d_Ni_isHeard_3 cb_10 ?_
    refine jm_icmp_ge (pc := 5) (tgt := 55) d_Ni_isHeard_5 (by decide) ?_ ?_
    · refine jm_iconst (pc := 55) (v := 0) d_Ni_isHeard_55 ci_0 ?_
      exact jm_iret (pc := 56) (x := 0) d_Ni_isHeard_56 rfl (by decide) rfl rfl rfl
    · refine jm_aload_n (pc := 8) (q := 1) (x := 15) d_Ni_isHeard_8 rfl ?_
      refine jm_gr (pc := 9) (i := 15) d_Ni_isHeard_9 fo_Ni_47 sh_15 ge_15 le_15_78 rfl (fun _ => rfl) mr_154_15_1 ge_16 ?_
      refine jm_iload_n (pc := 12) (q := 3) (x := x3) d_Ni_isHeard_12 rfl ?_
      refine jm_iald (pc := 13) d_Ni_isHeard_13 sh_16 ge_16 le_16_78 (fun v1 => ?_)
      refine jm_iconst (pc := 14) (v := 2) d_Ni_isHeard_14 ci_2 ?_
      refine jm_icmp_ne (pc := 15) (tgt := 49) d_Ni_isHeard_15 (by decide) ?_ ?_
      · refine jm_aload_n (pc := 18) (q := 1) (x := 15) d_Ni_isHeard_18 rfl ?_
        refine jm_gr (pc := 19) (i := 15) d_Ni_isHeard_19 fo_Ni_50 sh_15 ge_15 le_15_78 rfl (fun _ => rfl) mr_154_15_7 ge_22 ?_
        refine jm_iload_n (pc := 22) (q := 3) (x := x3) d_Ni_isHeard_22 rfl ?_
        refine jm_lald (pc := 23) d_Ni_isHeard_23 sh_22 ge_22 le_22_78 (fun v2 => ?_)
        refine jm_iload_n (pc := 24) (q := 2) (x := x2) d_Ni_isHeard_24 rfl ?_
        refine jm_lushr (pc := 25) d_Ni_isHeard_25 ?_
        refine jm_lconst (pc := 26) (v := 1) d_Ni_isHeard_26 cl_1 ?_
        refine jm_land (pc := 27) d_Ni_isHeard_27 ?_
        refine jm_lconst (pc := 28) (v := 0) d_Ni_isHeard_28 cl_0 ?_
        refine jm_lcmp (pc := 29) d_Ni_isHeard_29 ?_
        refine jm_if_ne (pc := 30) (tgt := 47) d_Ni_isHeard_30 (by decide) ?_ ?_
        · refine jm_aload_n (pc := 33) (q := 0) (x := 45) d_Ni_isHeard_33 rfl ?_
          refine jm_aload_n (pc := 34) (q := 1) (x := 15) d_Ni_isHeard_34 rfl ?_
          refine jm_iload_n (pc := 35) (q := 3) (x := x3) d_Ni_isHeard_35 rfl ?_
          refine jm_iload_n (pc := 36) (q := 2) (x := x2) d_Ni_isHeard_36 rfl ?_
          refine jm_Vp (pc := 37) (Y' := mY_Ni_ruleHeld) (i := 45) (avs := [.ref 15, .int x3, .int x2]) (rest := []) (s_Ni_ruleHeld_45_15_ok s x3 x2) ok_Ni_ruleHeld l0_Ni_isHeard__Ni_ruleHeld ml_Ni_60 im_Ni_ruleHeld se_Ni_ruleHeld d_Ni_isHeard_37 rfl sh_45 rfl rfl ge_45 le_45_78 rfl (Nat.le_of_ble_eq_true rfl) (Nat.le_of_ble_eq_true rfl) (Nat.le_of_ble_eq_true rfl) (Nat.le_of_ble_eq_true rfl) (fun v3 => ?_)
          refine jm_if_eq (pc := 40) (tgt := 47) d_Ni_isHeard_40 (by decide) ?_ ?_
          · refine jm_iconst (pc := 47) (v := 0) d_Ni_isHeard_47 ci_0 ?_
            exact jm_iret (pc := 48) (x := 0) d_Ni_isHeard_48 rfl (by decide) rfl rfl rfl
          · refine jm_iconst (pc := 43) (v := 1) d_Ni_isHeard_43 ci_1 ?_
            refine jm_goto (pc := 44) (tgt := 48) d_Ni_isHeard_44 (by decide) ?_
            exact jm_iret (pc := 48) (x := 1) d_Ni_isHeard_48 rfl (by decide) rfl rfl rfl
        · refine jm_iconst (pc := 47) (v := 0) d_Ni_isHeard_47 ci_0 ?_
          exact jm_iret (pc := 48) (x := 0) d_Ni_isHeard_48 rfl (by decide) rfl rfl rfl
      · refine jm_iinc (pc := 49) (q := 3) (x := x3) (v := 1) (L2 := [(3, .int (x3 + 1)), (0, .ref 45), (1, .ref 15), (2, .int x2)]) d_Ni_isHeard_49 rfl ci_1 (Nat.le_of_ble_eq_true rfl) rfl ?_
        refine jm_goto (pc := 52) (tgt := 2) d_Ni_isHeard_52 (by decide) ?_
        refine jm_sub (L2 := [(0, .ref 45), (1, .ref 15), (2, .int x2), (3, .int (x3 + 1))]) [1, 2, 3, 0] rfl ?_
        exact ih x2 (x3 + 1)
def s_Ni_isHeard_45_15 (s : jm_M) (a1 : Int32) : Option Int32 := s_Ni_isHeard_45_15_L2 s 5000 a1 0
set_option maxRecDepth 100000 in
set_option maxHeartbeats 4000000 in
theorem s_Ni_isHeard_45_15_ok (s : jm_M) (a1 : Int32) : jm_Sim mY_Ni_isHeard 0 0 0 [(0, .ref 45), (1, .ref 15), (2, .int a1)] [] 78 mr_154 s (s_Ni_isHeard_45_15 s a1) (jm_rI 78 mr_154 s) := by
  unfold s_Ni_isHeard_45_15
  refine jm_iconst (pc := 0) (v := 0) d_Ni_isHeard_0 ci_0 ?_
  refine jm_istore_n (pc := 1) (i := 3) (L2 := [(3, .int 0), (0, .ref 45), (1, .ref 15), (2, .int a1)]) d_Ni_isHeard_1 rfl (Nat.le_of_ble_eq_true rfl) rfl ?_
  refine jm_sub (L2 := [(0, .ref 45), (1, .ref 15), (2, .int a1), (3, .int 0)]) [1, 2, 3, 0] rfl ?_
  exact s_Ni_isHeard_45_15_L2_ok s 5000 a1 0
theorem d_Ni_play_0 : decode (jm_cd mY_Ni_play) 0 = .ok (.aload_n 0, 1) := by decide +kernel
theorem d_Ni_play_1 : decode (jm_cd mY_Ni_play) 1 = .ok (.bipush (-4), 2) := by decide +kernel
theorem d_Ni_play_3 : decode (jm_cd mY_Ni_play) 3 = .ok (.putfield 15, 3) := by decide +kernel
theorem d_Ni_play_6 : decode (jm_cd mY_Ni_play) 6 = .ok (.iconst 0, 1) := by decide +kernel
theorem d_Ni_play_7 : decode (jm_cd mY_Ni_play) 7 = .ok (.istore_n 2, 1) := by decide +kernel
theorem d_Ni_play_8 : decode (jm_cd mY_Ni_play) 8 = .ok (.iload_n 2, 1) := by decide +kernel
theorem d_Ni_play_9 : decode (jm_cd mY_Ni_play) 9 = .ok (.bipush 10, 2) := by decide +kernel
theorem d_Ni_play_11 : decode (jm_cd mY_Ni_play) 11 = .ok (.if_icmp .ge 28, 3) := by decide +kernel
theorem d_Ni_play_14 : decode (jm_cd mY_Ni_play) 14 = .ok (.aload_n 0, 1) := by decide +kernel
theorem d_Ni_play_15 : decode (jm_cd mY_Ni_play) 15 = .ok (.getfield 19, 3) := by decide +kernel
theorem d_Ni_play_18 : decode (jm_cd mY_Ni_play) 18 = .ok (.iload_n 2, 1) := by decide +kernel
theorem d_Ni_play_19 : decode (jm_cd mY_Ni_play) 19 = .ok (.lconst 0, 1) := by decide +kernel
theorem d_Ni_play_20 : decode (jm_cd mY_Ni_play) 20 = .ok (.lastore, 1) := by decide +kernel
theorem d_Ni_play_21 : decode (jm_cd mY_Ni_play) 21 = .ok (.aload_n 0, 1) := by decide +kernel
theorem d_Ni_play_22 : decode (jm_cd mY_Ni_play) 22 = .ok (.getfield 9, 3) := by decide +kernel
theorem d_Ni_play_25 : decode (jm_cd mY_Ni_play) 25 = .ok (.iload_n 2, 1) := by decide +kernel
theorem d_Ni_play_26 : decode (jm_cd mY_Ni_play) 26 = .ok (.aload_n 1, 1) := by decide +kernel
theorem d_Ni_play_27 : decode (jm_cd mY_Ni_play) 27 = .ok (.getfield 27, 3) := by decide +kernel
theorem d_Ni_play_30 : decode (jm_cd mY_Ni_play) 30 = .ok (.iload_n 2, 1) := by decide +kernel
theorem d_Ni_play_31 : decode (jm_cd mY_Ni_play) 31 = .ok (.iaload, 1) := by decide +kernel
theorem d_Ni_play_32 : decode (jm_cd mY_Ni_play) 32 = .ok (.iastore, 1) := by decide +kernel
theorem d_Ni_play_33 : decode (jm_cd mY_Ni_play) 33 = .ok (.iinc 2 1, 3) := by decide +kernel
theorem d_Ni_play_36 : decode (jm_cd mY_Ni_play) 36 = .ok (.goto (-28), 3) := by decide +kernel
theorem d_Ni_play_39 : decode (jm_cd mY_Ni_play) 39 = .ok (.iconst 0, 1) := by decide +kernel
theorem d_Ni_play_40 : decode (jm_cd mY_Ni_play) 40 = .ok (.istore_n 2, 1) := by decide +kernel
theorem d_Ni_play_41 : decode (jm_cd mY_Ni_play) 41 = .ok (.iload_n 2, 1) := by decide +kernel
theorem d_Ni_play_42 : decode (jm_cd mY_Ni_play) 42 = .ok (.bipush 60, 2) := by decide +kernel
theorem d_Ni_play_44 : decode (jm_cd mY_Ni_play) 44 = .ok (.if_icmp .ge 38, 3) := by decide +kernel
theorem d_Ni_play_47 : decode (jm_cd mY_Ni_play) 47 = .ok (.aload_n 0, 1) := by decide +kernel
theorem d_Ni_play_48 : decode (jm_cd mY_Ni_play) 48 = .ok (.aload_n 1, 1) := by decide +kernel
theorem d_Ni_play_49 : decode (jm_cd mY_Ni_play) 49 = .ok (.iload_n 2, 1) := by decide +kernel
theorem d_Ni_play_50 : decode (jm_cd mY_Ni_play) 50 = .ok (.invokevirtual 32, 3) := by decide +kernel
theorem d_Ni_play_53 : decode (jm_cd mY_Ni_play) 53 = .ok (.aload_n 0, 1) := by decide +kernel
theorem d_Ni_play_54 : decode (jm_cd mY_Ni_play) 54 = .ok (.getfield 15, 3) := by decide +kernel
theorem d_Ni_play_57 : decode (jm_cd mY_Ni_play) 57 = .ok (.bipush (-4), 2) := by decide +kernel
theorem d_Ni_play_59 : decode (jm_cd mY_Ni_play) 59 = .ok (.if_icmp .ne 17, 3) := by decide +kernel
theorem d_Ni_play_62 : decode (jm_cd mY_Ni_play) 62 = .ok (.aload_n 0, 1) := by decide +kernel
theorem d_Ni_play_63 : decode (jm_cd mY_Ni_play) 63 = .ok (.aload_n 1, 1) := by decide +kernel
theorem d_Ni_play_64 : decode (jm_cd mY_Ni_play) 64 = .ok (.iload_n 2, 1) := by decide +kernel
theorem d_Ni_play_65 : decode (jm_cd mY_Ni_play) 65 = .ok (.invokevirtual 36, 3) := by decide +kernel
theorem d_Ni_play_68 : decode (jm_cd mY_Ni_play) 68 = .ok (.ifCond .eq 8, 3) := by decide +kernel
theorem d_Ni_play_71 : decode (jm_cd mY_Ni_play) 71 = .ok (.aload_n 0, 1) := by decide +kernel
theorem d_Ni_play_72 : decode (jm_cd mY_Ni_play) 72 = .ok (.iload_n 2, 1) := by decide +kernel
theorem d_Ni_play_73 : decode (jm_cd mY_Ni_play) 73 = .ok (.putfield 15, 3) := by decide +kernel
theorem d_Ni_play_76 : decode (jm_cd mY_Ni_play) 76 = .ok (.iinc 2 1, 3) := by decide +kernel
theorem d_Ni_play_79 : decode (jm_cd mY_Ni_play) 79 = .ok (.goto (-38), 3) := by decide +kernel
theorem d_Ni_play_82 : decode (jm_cd mY_Ni_play) 82 = .ok (.return_, 1) := by decide +kernel
def s_Ni_play_45_15_L41 : Nat → Int32 → jm_M → Option jm_M
  | 0, _, _ => none
  | n + 1, x2, s => (if 60 ≤ x2 then (some s) else jm_bd (s_Ni_playMinute_45_15 s x2) (fun s2 => (if (s2.1 45 1) = (-4) then jm_bd (s_Ni_isHeard_45_15 s2 x2) (fun v3 => (if v3 = 0 then s_Ni_play_45_15_L41 n (x2 + 1) s2 else jm_ev (jm_si s2 45 1 x2) (fun s4 => s_Ni_play_45_15_L41 n (x2 + 1) s4))) else s_Ni_play_45_15_L41 n (x2 + 1) s2)))
set_option maxRecDepth 100000 in
set_option maxHeartbeats 4000000 in
theorem s_Ni_play_45_15_L41_ok : ∀ (n : Nat) (x2 : Int32) (s : jm_M), jm_Sim mY_Ni_play 0 0 41 [(0, .ref 45), (1, .ref 15), (2, .int x2)] [] 78 mr_154 s (s_Ni_play_45_15_L41 n x2 s) (jm_rV 78 mr_154) := by
  intro n
  induction n with
  | zero => intro x2 s; exact jm_none
  | succ n ih =>
    intro x2 s
    rw [s_Ni_play_45_15_L41]
    refine jm_iload_n (pc := 41) (q := 2) (x := x2) d_Ni_play_41 rfl ?_
    refine jm_bipush (pc := 42) (v := 60) d_Ni_play_42 cb_60 ?_
    refine jm_icmp_ge (pc := 44) (tgt := 82) d_Ni_play_44 (by decide) ?_ ?_
    · exact jm_vret (pc := 82) d_Ni_play_82 rfl rfl rfl rfl
    · refine jm_aload_n (pc := 47) (q := 0) (x := 45) d_Ni_play_47 rfl ?_
      refine jm_aload_n (pc := 48) (q := 1) (x := 15) d_Ni_play_48 rfl ?_
      refine jm_iload_n (pc := 49) (q := 2) (x := x2) d_Ni_play_49 rfl ?_
      refine jm_Vv (pc := 50) (Y' := mY_Ni_playMinute) (i := 45) (avs := [.ref 15, .int x2]) (rest := []) (s_Ni_playMinute_45_15_ok s x2) ok_Ni_playMinute l0_Ni_play__Ni_playMinute ml_Ni_32 im_Ni_playMinute se_Ni_playMinute d_Ni_play_50 rfl sh_45 rfl rfl ge_45 le_45_78 rfl (Nat.le_of_ble_eq_true rfl) (Nat.le_of_ble_eq_true rfl) (Nat.le_of_ble_eq_true rfl) (Nat.le_of_ble_eq_true rfl) (fun s2 => ?_)
      refine jm_aload_n (pc := 53) (q := 0) (x := 45) d_Ni_play_53 rfl ?_
      refine jm_gi (pc := 54) (i := 45) d_Ni_play_54 fo_Ni_15 sh_45 ge_45 le_45_78 rfl (fun _ => rfl) ?_
      refine jm_bipush (pc := 57) (v := (-4)) d_Ni_play_57 cb_m4 ?_
      refine jm_icmp_ne (pc := 59) (tgt := 76) d_Ni_play_59 (by decide) ?_ ?_
      · refine jm_aload_n (pc := 62) (q := 0) (x := 45) d_Ni_play_62 rfl ?_
        refine jm_aload_n (pc := 63) (q := 1) (x := 15) d_Ni_play_63 rfl ?_
        refine jm_iload_n (pc := 64) (q := 2) (x := x2) d_Ni_play_64 rfl ?_
        refine jm_Vp (pc := 65) (Y' := mY_Ni_isHeard) (i := 45) (avs := [.ref 15, .int x2]) (rest := []) (s_Ni_isHeard_45_15_ok s2 x2) ok_Ni_isHeard l0_Ni_play__Ni_isHeard ml_Ni_36 im_Ni_isHeard se_Ni_isHeard d_Ni_play_65 rfl sh_45 rfl rfl ge_45 le_45_78 rfl (Nat.le_of_ble_eq_true rfl) (Nat.le_of_ble_eq_true rfl) (Nat.le_of_ble_eq_true rfl) (Nat.le_of_ble_eq_true rfl) (fun v3 => ?_)
        refine jm_if_eq (pc := 68) (tgt := 76) d_Ni_play_68 (by decide) ?_ ?_
        · refine jm_iinc (pc := 76) (q := 2) (x := x2) (v := 1) (L2 := [(2, .int (x2 + 1)), (0, .ref 45), (1, .ref 15)]) d_Ni_play_76 rfl ci_1 (Nat.le_of_ble_eq_true rfl) rfl ?_
          refine jm_goto (pc := 79) (tgt := 41) d_Ni_play_79 (by decide) ?_
          refine jm_sub (L2 := [(0, .ref 45), (1, .ref 15), (2, .int (x2 + 1))]) [1, 2, 0] rfl ?_
          exact ih (x2 + 1) s2
        · refine jm_aload_n (pc := 71) (q := 0) (x := 45) d_Ni_play_71 rfl ?_
          refine jm_iload_n (pc := 72) (q := 2) (x := x2) d_Ni_play_72 rfl ?_
          refine jm_pi (pc := 73) (i := 45) d_Ni_play_73 fp_Ni_15 sh_45 ge_45 le_45_78 rfl rfl rfl (fun _ _ _ => rfl) (fun s4 => ?_)
          refine jm_iinc (pc := 76) (q := 2) (x := x2) (v := 1) (L2 := [(2, .int (x2 + 1)), (0, .ref 45), (1, .ref 15)]) d_Ni_play_76 rfl ci_1 (Nat.le_of_ble_eq_true rfl) rfl ?_
          refine jm_goto (pc := 79) (tgt := 41) d_Ni_play_79 (by decide) ?_
          refine jm_sub (L2 := [(0, .ref 45), (1, .ref 15), (2, .int (x2 + 1))]) [1, 2, 0] rfl ?_
          exact ih (x2 + 1) s4
      · refine jm_iinc (pc := 76) (q := 2) (x := x2) (v := 1) (L2 := [(2, .int (x2 + 1)), (0, .ref 45), (1, .ref 15)]) d_Ni_play_76 rfl ci_1 (Nat.le_of_ble_eq_true rfl) rfl ?_
        refine jm_goto (pc := 79) (tgt := 41) d_Ni_play_79 (by decide) ?_
        refine jm_sub (L2 := [(0, .ref 45), (1, .ref 15), (2, .int (x2 + 1))]) [1, 2, 0] rfl ?_
        exact ih (x2 + 1) s2
def s_Ni_play_45_15_L8 : Nat → Int32 → jm_M → Option jm_M
  | 0, _, _ => none
  | n + 1, x2, s => (if 10 ≤ x2 then s_Ni_play_45_15_L41 5000 0 s else jm_stl s 47 10 x2 0 (fun s5 => jm_ldi s5 20 10 x2 (fun v6 => jm_sti s5 46 10 x2 v6 (fun s7 => s_Ni_play_45_15_L8 n (x2 + 1) s7))))
set_option maxRecDepth 100000 in
set_option maxHeartbeats 4000000 in
theorem s_Ni_play_45_15_L8_ok : ∀ (n : Nat) (x2 : Int32) (s : jm_M), jm_Sim mY_Ni_play 0 0 8 [(0, .ref 45), (1, .ref 15), (2, .int x2)] [] 78 mr_154 s (s_Ni_play_45_15_L8 n x2 s) (jm_rV 78 mr_154) := by
  intro n
  induction n with
  | zero => intro x2 s; exact jm_none
  | succ n ih =>
    intro x2 s
    rw [s_Ni_play_45_15_L8]
    refine jm_iload_n (pc := 8) (q := 2) (x := x2) d_Ni_play_8 rfl ?_
    refine jm_bipush (pc := 9) (v := 10) d_Ni_play_9 cb_10 ?_
    refine jm_icmp_ge (pc := 11) (tgt := 39) d_Ni_play_11 (by decide) ?_ ?_
    · refine jm_iconst (pc := 39) (v := 0) d_Ni_play_39 ci_0 ?_
      refine jm_istore_n (pc := 40) (i := 2) (L2 := [(2, .int 0), (0, .ref 45), (1, .ref 15)]) d_Ni_play_40 rfl (Nat.le_of_ble_eq_true rfl) rfl ?_
      refine jm_sub (L2 := [(0, .ref 45), (1, .ref 15), (2, .int 0)]) [1, 2, 0] rfl ?_
      exact s_Ni_play_45_15_L41_ok 5000 0 s
    · refine jm_aload_n (pc := 14) (q := 0) (x := 45) d_Ni_play_14 rfl ?_
      refine jm_gr (pc := 15) (i := 45) d_Ni_play_15 fo_Ni_19 sh_45 ge_45 le_45_78 rfl (fun _ => rfl) mr_154_45_2 ge_47 ?_
      refine jm_iload_n (pc := 18) (q := 2) (x := x2) d_Ni_play_18 rfl ?_
      refine jm_lconst (pc := 19) (v := 0) d_Ni_play_19 cl_0 ?_
      refine jm_last (pc := 20) d_Ni_play_20 sh_47 ge_47 le_47_78 (fun s5 => ?_)
      refine jm_aload_n (pc := 21) (q := 0) (x := 45) d_Ni_play_21 rfl ?_
      refine jm_gr (pc := 22) (i := 45) d_Ni_play_22 fo_Ni_9 sh_45 ge_45 le_45_78 rfl (fun _ => rfl) mr_154_45_0 ge_46 ?_
      refine jm_iload_n (pc := 25) (q := 2) (x := x2) d_Ni_play_25 rfl ?_
      refine jm_aload_n (pc := 26) (q := 1) (x := 15) d_Ni_play_26 rfl ?_
      refine jm_gr (pc := 27) (i := 15) d_Ni_play_27 fo_Ni_27 sh_15 ge_15 le_15_78 rfl (fun _ => rfl) mr_154_15_5 ge_20 ?_
      refine jm_iload_n (pc := 30) (q := 2) (x := x2) d_Ni_play_30 rfl ?_
      refine jm_iald (pc := 31) d_Ni_play_31 sh_20 ge_20 le_20_78 (fun v6 => ?_)
      refine jm_iast (pc := 32) d_Ni_play_32 sh_46 ge_46 le_46_78 (fun s7 => ?_)
      refine jm_iinc (pc := 33) (q := 2) (x := x2) (v := 1) (L2 := [(2, .int (x2 + 1)), (0, .ref 45), (1, .ref 15)]) d_Ni_play_33 rfl ci_1 (Nat.le_of_ble_eq_true rfl) rfl ?_
      refine jm_goto (pc := 36) (tgt := 8) d_Ni_play_36 (by decide) ?_
      refine jm_sub (L2 := [(0, .ref 45), (1, .ref 15), (2, .int (x2 + 1))]) [1, 2, 0] rfl ?_
      exact ih (x2 + 1) s7
def s_Ni_play_45_15 (s : jm_M) : Option jm_M := jm_ev (jm_si s 45 1 (-4)) (fun s1 => s_Ni_play_45_15_L8 5000 0 s1)
set_option maxRecDepth 100000 in
set_option maxHeartbeats 4000000 in
theorem s_Ni_play_45_15_ok (s : jm_M) : jm_Sim mY_Ni_play 0 0 0 [(0, .ref 45), (1, .ref 15)] [] 78 mr_154 s (s_Ni_play_45_15 s) (jm_rV 78 mr_154) := by
  unfold s_Ni_play_45_15
  refine jm_aload_n (pc := 0) (q := 0) (x := 45) d_Ni_play_0 rfl ?_
  refine jm_bipush (pc := 1) (v := (-4)) d_Ni_play_1 cb_m4 ?_
  refine jm_pi (pc := 3) (i := 45) d_Ni_play_3 fp_Ni_15 sh_45 ge_45 le_45_78 rfl rfl rfl (fun _ _ _ => rfl) (fun s1 => ?_)
  refine jm_iconst (pc := 6) (v := 0) d_Ni_play_6 ci_0 ?_
  refine jm_istore_n (pc := 7) (i := 2) (L2 := [(2, .int 0), (0, .ref 45), (1, .ref 15)]) d_Ni_play_7 rfl (Nat.le_of_ble_eq_true rfl) rfl ?_
  refine jm_sub (L2 := [(0, .ref 45), (1, .ref 15), (2, .int 0)]) [1, 2, 0] rfl ?_
  exact s_Ni_play_45_15_L8_ok 5000 0 s1
theorem d_X_playNight_0 : decode (jm_cd mY_X_playNight) 0 = .ok (.aload_n 0, 1) := by decide +kernel
theorem d_X_playNight_1 : decode (jm_cd mY_X_playNight) 1 = .ok (.getfield 50, 3) := by decide +kernel
theorem d_X_playNight_4 : decode (jm_cd mY_X_playNight) 4 = .ok (.ifCond .ne 19, 3) := by decide +kernel
theorem d_X_playNight_7 : decode (jm_cd mY_X_playNight) 7 = .ok (.aload_n 0, 1) := by decide +kernel
theorem d_X_playNight_8 : decode (jm_cd mY_X_playNight) 8 = .ok (.getfield 46, 3) := by decide +kernel
theorem d_X_playNight_11 : decode (jm_cd mY_X_playNight) 11 = .ok (.aload_n 0, 1) := by decide +kernel
theorem d_X_playNight_12 : decode (jm_cd mY_X_playNight) 12 = .ok (.getfield 31, 3) := by decide +kernel
theorem d_X_playNight_15 : decode (jm_cd mY_X_playNight) 15 = .ok (.invokevirtual 264, 3) := by decide +kernel
theorem d_X_playNight_18 : decode (jm_cd mY_X_playNight) 18 = .ok (.aload_n 0, 1) := by decide +kernel
theorem d_X_playNight_19 : decode (jm_cd mY_X_playNight) 19 = .ok (.iconst 1, 1) := by decide +kernel
theorem d_X_playNight_20 : decode (jm_cd mY_X_playNight) 20 = .ok (.putfield 50, 3) := by decide +kernel
theorem d_X_playNight_23 : decode (jm_cd mY_X_playNight) 23 = .ok (.return_, 1) := by decide +kernel
def s_X_playNight (s : jm_M) : Option jm_M := (if (s.1 1 9) = 0 then jm_bd (s_Ni_play_45_15 s) (fun s1 => jm_ev (jm_si s1 1 9 1) (fun s2 => (some s2))) else (some s))
set_option maxRecDepth 100000 in
set_option maxHeartbeats 4000000 in
theorem s_X_playNight_ok (s : jm_M) : jm_Sim mY_X_playNight 0 0 0 [(0, .ref 1)] [] 78 mr_154 s (s_X_playNight s) (jm_rV 78 mr_154) := by
  unfold s_X_playNight
  refine jm_aload_n (pc := 0) (q := 0) (x := 1) d_X_playNight_0 rfl ?_
  refine jm_gi (pc := 1) (i := 1) d_X_playNight_1 fo_X_50 sh_1 ge_1 le_1_78 rfl (fun _ => rfl) ?_
  refine jm_if_ne (pc := 4) (tgt := 23) d_X_playNight_4 (by decide) ?_ ?_
  · refine jm_aload_n (pc := 7) (q := 0) (x := 1) d_X_playNight_7 rfl ?_
    refine jm_gr (pc := 8) (i := 1) d_X_playNight_8 fo_X_46 sh_1 ge_1 le_1_78 rfl (fun _ => rfl) mr_154_1_8 ge_45 ?_
    refine jm_aload_n (pc := 11) (q := 0) (x := 1) d_X_playNight_11 rfl ?_
    refine jm_gr (pc := 12) (i := 1) d_X_playNight_12 fo_X_31 sh_1 ge_1 le_1_78 rfl (fun _ => rfl) mr_154_1_4 ge_15 ?_
    refine jm_Vv (pc := 15) (Y' := mY_Ni_play) (i := 45) (avs := [.ref 15]) (rest := []) (s_Ni_play_45_15_ok s) ok_Ni_play l0_X_playNight__Ni_play ml_X_264 im_Ni_play se_Ni_play d_X_playNight_15 rfl sh_45 rfl rfl ge_45 le_45_78 rfl (Nat.le_of_ble_eq_true rfl) (Nat.le_of_ble_eq_true rfl) (Nat.le_of_ble_eq_true rfl) (Nat.le_of_ble_eq_true rfl) (fun s1 => ?_)
    refine jm_aload_n (pc := 18) (q := 0) (x := 1) d_X_playNight_18 rfl ?_
    refine jm_iconst (pc := 19) (v := 1) d_X_playNight_19 ci_1 ?_
    refine jm_pi (pc := 20) (i := 1) d_X_playNight_20 fp_X_50 sh_1 ge_1 le_1_78 rfl (by decide) (by decide) (fun _ _ _ => rfl) (fun s2 => ?_)
    exact jm_vret (pc := 23) d_X_playNight_23 rfl rfl rfl rfl
  · exact jm_vret (pc := 23) d_X_playNight_23 rfl rfl rfl rfl
theorem d_X_burns_0 : decode (jm_cd mY_X_burns) 0 = .ok (.aload_n 0, 1) := by decide +kernel
theorem d_X_burns_1 : decode (jm_cd mY_X_burns) 1 = .ok (.getfield 31, 3) := by decide +kernel
theorem d_X_burns_4 : decode (jm_cd mY_X_burns) 4 = .ok (.iload_n 1, 1) := by decide +kernel
theorem d_X_burns_5 : decode (jm_cd mY_X_burns) 5 = .ok (.invokevirtual 93, 3) := by decide +kernel
theorem d_X_burns_8 : decode (jm_cd mY_X_burns) 8 = .ok (.ifCond .eq 10, 3) := by decide +kernel
theorem d_X_burns_11 : decode (jm_cd mY_X_burns) 11 = .ok (.iload_n 2, 1) := by decide +kernel
theorem d_X_burns_12 : decode (jm_cd mY_X_burns) 12 = .ok (.invokestatic 117, 3) := by decide +kernel
theorem d_X_burns_15 : decode (jm_cd mY_X_burns) 15 = .ok (.ifCond .ne 5, 3) := by decide +kernel
theorem d_X_burns_18 : decode (jm_cd mY_X_burns) 18 = .ok (.iconst (-1), 1) := by decide +kernel
theorem d_X_burns_19 : decode (jm_cd mY_X_burns) 19 = .ok (.ireturn, 1) := by decide +kernel
theorem d_X_burns_20 : decode (jm_cd mY_X_burns) 20 = .ok (.aload_n 0, 1) := by decide +kernel
theorem d_X_burns_21 : decode (jm_cd mY_X_burns) 21 = .ok (.invokevirtual 131, 3) := by decide +kernel
theorem d_X_burns_24 : decode (jm_cd mY_X_burns) 24 = .ok (.aload_n 0, 1) := by decide +kernel
theorem d_X_burns_25 : decode (jm_cd mY_X_burns) 25 = .ok (.getfield 46, 3) := by decide +kernel
theorem d_X_burns_28 : decode (jm_cd mY_X_burns) 28 = .ok (.iload_n 1, 1) := by decide +kernel
theorem d_X_burns_29 : decode (jm_cd mY_X_burns) 29 = .ok (.iload_n 2, 1) := by decide +kernel
theorem d_X_burns_30 : decode (jm_cd mY_X_burns) 30 = .ok (.invokevirtual 134, 3) := by decide +kernel
theorem d_X_burns_33 : decode (jm_cd mY_X_burns) 33 = .ok (.ifCond .eq 7, 3) := by decide +kernel
theorem d_X_burns_36 : decode (jm_cd mY_X_burns) 36 = .ok (.iconst 1, 1) := by decide +kernel
theorem d_X_burns_37 : decode (jm_cd mY_X_burns) 37 = .ok (.goto 4, 3) := by decide +kernel
theorem d_X_burns_40 : decode (jm_cd mY_X_burns) 40 = .ok (.iconst 0, 1) := by decide +kernel
theorem d_X_burns_41 : decode (jm_cd mY_X_burns) 41 = .ok (.ireturn, 1) := by decide +kernel
def s_X_burns (s : jm_M) (a0 : Int32) (a1 : Int32) : Option (Int32 × jm_M) := jm_bd (s_Ne_isHill_15 s a0) (fun v1 => (if v1 = 0 then (some ((-1), s)) else jm_bd (s_X_isMinute s a1) (fun v2 => (if v2 = 0 then (some ((-1), s)) else jm_bd (s_X_playNight s) (fun s3 => jm_bd (s_Ni_isLit s3 a0 a1) (fun v4 => (if v4 = 0 then (some (0, s3)) else (some (1, s3)))))))))
set_option maxRecDepth 100000 in
set_option maxHeartbeats 4000000 in
theorem s_X_burns_ok (s : jm_M) (a0 : Int32) (a1 : Int32) : jm_Sim mY_X_burns 0 0 0 [(0, .ref 1), (1, .int a0), (2, .int a1)] [] 78 mr_154 s (s_X_burns s a0 a1) (jm_rP 78 mr_154) := by
  unfold s_X_burns
  refine jm_aload_n (pc := 0) (q := 0) (x := 1) d_X_burns_0 rfl ?_
  refine jm_gr (pc := 1) (i := 1) d_X_burns_1 fo_X_31 sh_1 ge_1 le_1_78 rfl (fun _ => rfl) mr_154_1_4 ge_15 ?_
  refine jm_iload_n (pc := 4) (q := 1) (x := a0) d_X_burns_4 rfl ?_
  refine jm_Vp (pc := 5) (Y' := mY_Ne_isHill) (i := 15) (avs := [.int a0]) (rest := []) (s_Ne_isHill_15_ok s a0) ok_Ne_isHill l0_X_burns__Ne_isHill ml_X_93 im_Ne_isHill se_Ne_isHill d_X_burns_5 rfl sh_15 rfl rfl ge_15 le_15_78 rfl (Nat.le_of_ble_eq_true rfl) (Nat.le_of_ble_eq_true rfl) (Nat.le_of_ble_eq_true rfl) (Nat.le_of_ble_eq_true rfl) (fun v1 => ?_)
  refine jm_if_eq (pc := 8) (tgt := 18) d_X_burns_8 (by decide) ?_ ?_
  · refine jm_iconst (pc := 18) (v := (-1)) d_X_burns_18 ci_m1 ?_
    exact jm_iret (pc := 19) (x := (-1)) d_X_burns_19 rfl rfl rfl rfl rfl
  · refine jm_iload_n (pc := 11) (q := 2) (x := a1) d_X_burns_11 rfl ?_
    refine jm_Sp (pc := 12) (Y' := mY_X_isMinute) (avs := [.int a1]) (rest := []) (s_X_isMinute_ok s a1) ok_X_isMinute l0_X_burns__X_isMinute ml_X_117 sm_X_isMinute d_X_burns_12 rfl rfl (Nat.le_of_ble_eq_true rfl) (Nat.le_of_ble_eq_true rfl) (Nat.le_of_ble_eq_true rfl) (Nat.le_of_ble_eq_true rfl) (fun v2 => ?_)
    refine jm_if_ne (pc := 15) (tgt := 20) d_X_burns_15 (by decide) ?_ ?_
    · refine jm_iconst (pc := 18) (v := (-1)) d_X_burns_18 ci_m1 ?_
      exact jm_iret (pc := 19) (x := (-1)) d_X_burns_19 rfl rfl rfl rfl rfl
    · refine jm_aload_n (pc := 20) (q := 0) (x := 1) d_X_burns_20 rfl ?_
      refine jm_Vv (pc := 21) (Y' := mY_X_playNight) (i := 1) (avs := []) (rest := []) (s_X_playNight_ok s) ok_X_playNight l0_X_burns__X_playNight ml_X_131 im_X_playNight se_X_playNight d_X_burns_21 rfl sh_1 rfl rfl ge_1 le_1_78 rfl (Nat.le_of_ble_eq_true rfl) (Nat.le_of_ble_eq_true rfl) (Nat.le_of_ble_eq_true rfl) (Nat.le_of_ble_eq_true rfl) (fun s3 => ?_)
      refine jm_aload_n (pc := 24) (q := 0) (x := 1) d_X_burns_24 rfl ?_
      refine jm_gr (pc := 25) (i := 1) d_X_burns_25 fo_X_46 sh_1 ge_1 le_1_78 rfl (fun _ => rfl) mr_154_1_8 ge_45 ?_
      refine jm_iload_n (pc := 28) (q := 1) (x := a0) d_X_burns_28 rfl ?_
      refine jm_iload_n (pc := 29) (q := 2) (x := a1) d_X_burns_29 rfl ?_
      refine jm_Vp (pc := 30) (Y' := mY_Ni_isLit) (i := 45) (avs := [.int a0, .int a1]) (rest := []) (s_Ni_isLit_ok s3 a0 a1) ok_Ni_isLit l0_X_burns__Ni_isLit ml_X_134 im_Ni_isLit se_Ni_isLit d_X_burns_30 rfl sh_45 rfl rfl ge_45 le_45_78 rfl (Nat.le_of_ble_eq_true rfl) (Nat.le_of_ble_eq_true rfl) (Nat.le_of_ble_eq_true rfl) (Nat.le_of_ble_eq_true rfl) (fun v4 => ?_)
      refine jm_if_eq (pc := 33) (tgt := 40) d_X_burns_33 (by decide) ?_ ?_
      · refine jm_iconst (pc := 40) (v := 0) d_X_burns_40 ci_0 ?_
        exact jm_iret (pc := 41) (x := 0) d_X_burns_41 rfl rfl rfl rfl rfl
      · refine jm_iconst (pc := 36) (v := 1) d_X_burns_36 ci_1 ?_
        refine jm_goto (pc := 37) (tgt := 41) d_X_burns_37 (by decide) ?_
        exact jm_iret (pc := 41) (x := 1) d_X_burns_41 rfl rfl rfl rfl rfl
theorem d_Z_isLiar_0 : decode (jm_cd mY_Z_isLiar) 0 = .ok (.iconst 0, 1) := by decide +kernel
theorem d_Z_isLiar_1 : decode (jm_cd mY_Z_isLiar) 1 = .ok (.istore_n 2, 1) := by decide +kernel
theorem d_Z_isLiar_2 : decode (jm_cd mY_Z_isLiar) 2 = .ok (.iconst 0, 1) := by decide +kernel
theorem d_Z_isLiar_3 : decode (jm_cd mY_Z_isLiar) 3 = .ok (.istore_n 3, 1) := by decide +kernel
theorem d_Z_isLiar_4 : decode (jm_cd mY_Z_isLiar) 4 = .ok (.iload_n 3, 1) := by decide +kernel
theorem d_Z_isLiar_5 : decode (jm_cd mY_Z_isLiar) 5 = .ok (.aload_n 0, 1) := by decide +kernel
theorem d_Z_isLiar_6 : decode (jm_cd mY_Z_isLiar) 6 = .ok (.getfield 31, 3) := by decide +kernel
theorem d_Z_isLiar_9 : decode (jm_cd mY_Z_isLiar) 9 = .ok (.iconst 0, 1) := by decide +kernel
theorem d_Z_isLiar_10 : decode (jm_cd mY_Z_isLiar) 10 = .ok (.iaload, 1) := by decide +kernel
theorem d_Z_isLiar_11 : decode (jm_cd mY_Z_isLiar) 11 = .ok (.if_icmp .ge 46, 3) := by decide +kernel
theorem d_Z_isLiar_14 : decode (jm_cd mY_Z_isLiar) 14 = .ok (.iload_n 2, 1) := by decide +kernel
theorem d_Z_isLiar_15 : decode (jm_cd mY_Z_isLiar) 15 = .ok (.ifCond .ne 30, 3) := by decide +kernel
theorem d_Z_isLiar_18 : decode (jm_cd mY_Z_isLiar) 18 = .ok (.aload_n 0, 1) := by decide +kernel
theorem d_Z_isLiar_19 : decode (jm_cd mY_Z_isLiar) 19 = .ok (.getfield 34, 3) := by decide +kernel
theorem d_Z_isLiar_22 : decode (jm_cd mY_Z_isLiar) 22 = .ok (.iconst 5, 1) := by decide +kernel
theorem d_Z_isLiar_23 : decode (jm_cd mY_Z_isLiar) 23 = .ok (.iload_n 3, 1) := by decide +kernel
theorem d_Z_isLiar_24 : decode (jm_cd mY_Z_isLiar) 24 = .ok (.imul, 1) := by decide +kernel
theorem d_Z_isLiar_25 : decode (jm_cd mY_Z_isLiar) 25 = .ok (.iaload, 1) := by decide +kernel
theorem d_Z_isLiar_26 : decode (jm_cd mY_Z_isLiar) 26 = .ok (.bipush 108, 2) := by decide +kernel
theorem d_Z_isLiar_28 : decode (jm_cd mY_Z_isLiar) 28 = .ok (.if_icmp .ne 21, 3) := by decide +kernel
theorem d_Z_isLiar_31 : decode (jm_cd mY_Z_isLiar) 31 = .ok (.aload_n 0, 1) := by decide +kernel
theorem d_Z_isLiar_32 : decode (jm_cd mY_Z_isLiar) 32 = .ok (.getfield 34, 3) := by decide +kernel
theorem d_Z_isLiar_35 : decode (jm_cd mY_Z_isLiar) 35 = .ok (.iconst 5, 1) := by decide +kernel
theorem d_Z_isLiar_36 : decode (jm_cd mY_Z_isLiar) 36 = .ok (.iload_n 3, 1) := by decide +kernel
theorem d_Z_isLiar_37 : decode (jm_cd mY_Z_isLiar) 37 = .ok (.imul, 1) := by decide +kernel
theorem d_Z_isLiar_38 : decode (jm_cd mY_Z_isLiar) 38 = .ok (.iconst 1, 1) := by decide +kernel
theorem d_Z_isLiar_39 : decode (jm_cd mY_Z_isLiar) 39 = .ok (.iadd, 1) := by decide +kernel
theorem d_Z_isLiar_40 : decode (jm_cd mY_Z_isLiar) 40 = .ok (.iaload, 1) := by decide +kernel
theorem d_Z_isLiar_41 : decode (jm_cd mY_Z_isLiar) 41 = .ok (.iload_n 1, 1) := by decide +kernel
theorem d_Z_isLiar_42 : decode (jm_cd mY_Z_isLiar) 42 = .ok (.if_icmp .ne 7, 3) := by decide +kernel
theorem d_Z_isLiar_45 : decode (jm_cd mY_Z_isLiar) 45 = .ok (.iconst 1, 1) := by decide +kernel
theorem d_Z_isLiar_46 : decode (jm_cd mY_Z_isLiar) 46 = .ok (.goto 4, 3) := by decide +kernel
theorem d_Z_isLiar_49 : decode (jm_cd mY_Z_isLiar) 49 = .ok (.iconst 0, 1) := by decide +kernel
theorem d_Z_isLiar_50 : decode (jm_cd mY_Z_isLiar) 50 = .ok (.istore_n 2, 1) := by decide +kernel
theorem d_Z_isLiar_51 : decode (jm_cd mY_Z_isLiar) 51 = .ok (.iinc 3 1, 3) := by decide +kernel
theorem d_Z_isLiar_54 : decode (jm_cd mY_Z_isLiar) 54 = .ok (.goto (-50), 3) := by decide +kernel
theorem d_Z_isLiar_57 : decode (jm_cd mY_Z_isLiar) 57 = .ok (.iload_n 2, 1) := by decide +kernel
theorem d_Z_isLiar_58 : decode (jm_cd mY_Z_isLiar) 58 = .ok (.ireturn, 1) := by decide +kernel
def s_Z_isLiar_L4 (s : jm_M) : Nat → Int32 → Int32 → Int32 → Option Int32
  | 0, _, _, _ => none
  | n + 1, x1, x2, x3 => jm_ldi s 67 4 0 (fun v1 => (if v1 ≤ x3 then (jm_gb x2 (some x2)) else (if x2 = 0 then jm_ldi s 68 860 (5 * x3) (fun v2 => (if v2 = 108 then jm_ldi s 68 860 ((5 * x3) + 1) (fun v3 => (if v3 = x1 then s_Z_isLiar_L4 s n x1 1 (x3 + 1) else s_Z_isLiar_L4 s n x1 0 (x3 + 1))) else s_Z_isLiar_L4 s n x1 0 (x3 + 1))) else s_Z_isLiar_L4 s n x1 1 (x3 + 1))))
set_option maxRecDepth 100000 in
set_option maxHeartbeats 4000000 in
theorem s_Z_isLiar_L4_ok (s : jm_M) : ∀ (n : Nat) (x1 : Int32) (x2 : Int32) (x3 : Int32), jm_Sim mY_Z_isLiar 0 0 4 [(0, .ref 59), (1, .int x1), (2, .int x2), (3, .int x3)] [] 78 mr_154 s (s_Z_isLiar_L4 s n x1 x2 x3) (jm_rI 78 mr_154 s) := by
  intro n
  induction n with
  | zero => intro x1 x2 x3; exact jm_none
  | succ n ih =>
    intro x1 x2 x3
    rw [s_Z_isLiar_L4]
    refine jm_iload_n (pc := 4) (q := 3) (x := x3) d_Z_isLiar_4 rfl ?_
    refine jm_aload_n (pc := 5) (q := 0) (x := 59) d_Z_isLiar_5 rfl ?_
    refine jm_gr (pc := 6) (i := 59) d_Z_isLiar_6 fo_Z_31 sh_59 ge_59 le_59_78 rfl (fun _ => rfl) mr_154_59_8 ge_67 ?_
    refine jm_iconst (pc := 9) (v := 0) d_Z_isLiar_9 ci_0 ?_
    refine jm_iald (pc := 10) d_Z_isLiar_10 sh_67 ge_67 le_67_78 (fun v1 => ?_)
    refine jm_icmp_ge (pc := 11) (tgt := 57) d_Z_isLiar_11 (by decide) ?_ ?_
    · refine jm_iload_n (pc := 57) (q := 2) (x := x2) d_Z_isLiar_57 rfl ?_
      exact jm_zret (pc := 58) d_Z_isLiar_58 rfl rfl rfl rfl
    · refine jm_iload_n (pc := 14) (q := 2) (x := x2) d_Z_isLiar_14 rfl ?_
      refine jm_if_ne (pc := 15) (tgt := 45) d_Z_isLiar_15 (by decide) ?_ ?_
      · refine jm_aload_n (pc := 18) (q := 0) (x := 59) d_Z_isLiar_18 rfl ?_
        refine jm_gr (pc := 19) (i := 59) d_Z_isLiar_19 fo_Z_34 sh_59 ge_59 le_59_78 rfl (fun _ => rfl) mr_154_59_9 ge_68 ?_
        refine jm_iconst (pc := 22) (v := 5) d_Z_isLiar_22 ci_5 ?_
        refine jm_iload_n (pc := 23) (q := 3) (x := x3) d_Z_isLiar_23 rfl ?_
        refine jm_imul (pc := 24) d_Z_isLiar_24 ?_
        refine jm_iald (pc := 25) d_Z_isLiar_25 sh_68 ge_68 le_68_78 (fun v2 => ?_)
        refine jm_bipush (pc := 26) (v := 108) d_Z_isLiar_26 cb_108 ?_
        refine jm_icmp_ne (pc := 28) (tgt := 49) d_Z_isLiar_28 (by decide) ?_ ?_
        · refine jm_aload_n (pc := 31) (q := 0) (x := 59) d_Z_isLiar_31 rfl ?_
          refine jm_gr (pc := 32) (i := 59) d_Z_isLiar_32 fo_Z_34 sh_59 ge_59 le_59_78 rfl (fun _ => rfl) mr_154_59_9 ge_68 ?_
          refine jm_iconst (pc := 35) (v := 5) d_Z_isLiar_35 ci_5 ?_
          refine jm_iload_n (pc := 36) (q := 3) (x := x3) d_Z_isLiar_36 rfl ?_
          refine jm_imul (pc := 37) d_Z_isLiar_37 ?_
          refine jm_iconst (pc := 38) (v := 1) d_Z_isLiar_38 ci_1 ?_
          refine jm_iadd (pc := 39) d_Z_isLiar_39 ?_
          refine jm_iald (pc := 40) d_Z_isLiar_40 sh_68 ge_68 le_68_78 (fun v3 => ?_)
          refine jm_iload_n (pc := 41) (q := 1) (x := x1) d_Z_isLiar_41 rfl ?_
          refine jm_icmp_ne (pc := 42) (tgt := 49) d_Z_isLiar_42 (by decide) ?_ ?_
          · refine jm_iconst (pc := 45) (v := 1) d_Z_isLiar_45 ci_1 ?_
            refine jm_goto (pc := 46) (tgt := 50) d_Z_isLiar_46 (by decide) ?_
            refine jm_istore_n (pc := 50) (i := 2) (L2 := [(2, .int 1), (0, .ref 59), (1, .int x1), (3, .int x3)]) d_Z_isLiar_50 rfl (Nat.le_of_ble_eq_true rfl) rfl ?_
            refine jm_iinc (pc := 51) (q := 3) (x := x3) (v := 1) (L2 := [(3, .int (x3 + 1)), (2, .int 1), (0, .ref 59), (1, .int x1)]) d_Z_isLiar_51 rfl ci_1 (Nat.le_of_ble_eq_true rfl) rfl ?_
            refine jm_goto (pc := 54) (tgt := 4) d_Z_isLiar_54 (by decide) ?_
            refine jm_sub (L2 := [(0, .ref 59), (1, .int x1), (2, .int 1), (3, .int (x3 + 1))]) [2, 3, 1, 0] rfl ?_
            exact ih x1 1 (x3 + 1)
          · refine jm_iconst (pc := 49) (v := 0) d_Z_isLiar_49 ci_0 ?_
            refine jm_istore_n (pc := 50) (i := 2) (L2 := [(2, .int 0), (0, .ref 59), (1, .int x1), (3, .int x3)]) d_Z_isLiar_50 rfl (Nat.le_of_ble_eq_true rfl) rfl ?_
            refine jm_iinc (pc := 51) (q := 3) (x := x3) (v := 1) (L2 := [(3, .int (x3 + 1)), (2, .int 0), (0, .ref 59), (1, .int x1)]) d_Z_isLiar_51 rfl ci_1 (Nat.le_of_ble_eq_true rfl) rfl ?_
            refine jm_goto (pc := 54) (tgt := 4) d_Z_isLiar_54 (by decide) ?_
            refine jm_sub (L2 := [(0, .ref 59), (1, .int x1), (2, .int 0), (3, .int (x3 + 1))]) [2, 3, 1, 0] rfl ?_
            exact ih x1 0 (x3 + 1)
        · refine jm_iconst (pc := 49) (v := 0) d_Z_isLiar_49 ci_0 ?_
          refine jm_istore_n (pc := 50) (i := 2) (L2 := [(2, .int 0), (0, .ref 59), (1, .int x1), (3, .int x3)]) d_Z_isLiar_50 rfl (Nat.le_of_ble_eq_true rfl) rfl ?_
          refine jm_iinc (pc := 51) (q := 3) (x := x3) (v := 1) (L2 := [(3, .int (x3 + 1)), (2, .int 0), (0, .ref 59), (1, .int x1)]) d_Z_isLiar_51 rfl ci_1 (Nat.le_of_ble_eq_true rfl) rfl ?_
          refine jm_goto (pc := 54) (tgt := 4) d_Z_isLiar_54 (by decide) ?_
          refine jm_sub (L2 := [(0, .ref 59), (1, .int x1), (2, .int 0), (3, .int (x3 + 1))]) [2, 3, 1, 0] rfl ?_
          exact ih x1 0 (x3 + 1)
      · refine jm_iconst (pc := 45) (v := 1) d_Z_isLiar_45 ci_1 ?_
        refine jm_goto (pc := 46) (tgt := 50) d_Z_isLiar_46 (by decide) ?_
        refine jm_istore_n (pc := 50) (i := 2) (L2 := [(2, .int 1), (0, .ref 59), (1, .int x1), (3, .int x3)]) d_Z_isLiar_50 rfl (Nat.le_of_ble_eq_true rfl) rfl ?_
        refine jm_iinc (pc := 51) (q := 3) (x := x3) (v := 1) (L2 := [(3, .int (x3 + 1)), (2, .int 1), (0, .ref 59), (1, .int x1)]) d_Z_isLiar_51 rfl ci_1 (Nat.le_of_ble_eq_true rfl) rfl ?_
        refine jm_goto (pc := 54) (tgt := 4) d_Z_isLiar_54 (by decide) ?_
        refine jm_sub (L2 := [(0, .ref 59), (1, .int x1), (2, .int 1), (3, .int (x3 + 1))]) [2, 3, 1, 0] rfl ?_
        exact ih x1 1 (x3 + 1)
def s_Z_isLiar (s : jm_M) (a0 : Int32) : Option Int32 := s_Z_isLiar_L4 s 5000 a0 0 0
set_option maxRecDepth 100000 in
set_option maxHeartbeats 4000000 in
theorem s_Z_isLiar_ok (s : jm_M) (a0 : Int32) : jm_Sim mY_Z_isLiar 0 0 0 [(0, .ref 59), (1, .int a0)] [] 78 mr_154 s (s_Z_isLiar s a0) (jm_rI 78 mr_154 s) := by
  unfold s_Z_isLiar
  refine jm_iconst (pc := 0) (v := 0) d_Z_isLiar_0 ci_0 ?_
  refine jm_istore_n (pc := 1) (i := 2) (L2 := [(2, .int 0), (0, .ref 59), (1, .int a0)]) d_Z_isLiar_1 rfl (Nat.le_of_ble_eq_true rfl) rfl ?_
  refine jm_iconst (pc := 2) (v := 0) d_Z_isLiar_2 ci_0 ?_
  refine jm_istore_n (pc := 3) (i := 3) (L2 := [(3, .int 0), (2, .int 0), (0, .ref 59), (1, .int a0)]) d_Z_isLiar_3 rfl (Nat.le_of_ble_eq_true rfl) rfl ?_
  refine jm_sub (L2 := [(0, .ref 59), (1, .int a0), (2, .int 0), (3, .int 0)]) [2, 3, 1, 0] rfl ?_
  exact s_Z_isLiar_L4_ok s 5000 a0 0 0
theorem d_Z_isTold_0 : decode (jm_cd mY_Z_isTold) 0 = .ok (.iconst 0, 1) := by decide +kernel
theorem d_Z_isTold_1 : decode (jm_cd mY_Z_isTold) 1 = .ok (.istore 4, 2) := by decide +kernel
theorem d_Z_isTold_3 : decode (jm_cd mY_Z_isTold) 3 = .ok (.iconst 0, 1) := by decide +kernel
theorem d_Z_isTold_4 : decode (jm_cd mY_Z_isTold) 4 = .ok (.istore 5, 2) := by decide +kernel
theorem d_Z_isTold_6 : decode (jm_cd mY_Z_isTold) 6 = .ok (.iload 5, 2) := by decide +kernel
theorem d_Z_isTold_8 : decode (jm_cd mY_Z_isTold) 8 = .ok (.aload_n 0, 1) := by decide +kernel
theorem d_Z_isTold_9 : decode (jm_cd mY_Z_isTold) 9 = .ok (.getfield 31, 3) := by decide +kernel
theorem d_Z_isTold_12 : decode (jm_cd mY_Z_isTold) 12 = .ok (.iconst 0, 1) := by decide +kernel
theorem d_Z_isTold_13 : decode (jm_cd mY_Z_isTold) 13 = .ok (.iaload, 1) := by decide +kernel
theorem d_Z_isTold_14 : decode (jm_cd mY_Z_isTold) 14 = .ok (.if_icmp .ge 81, 3) := by decide +kernel
theorem d_Z_isTold_17 : decode (jm_cd mY_Z_isTold) 17 = .ok (.iload 4, 2) := by decide +kernel
theorem d_Z_isTold_19 : decode (jm_cd mY_Z_isTold) 19 = .ok (.ifCond .ne 63, 3) := by decide +kernel
theorem d_Z_isTold_22 : decode (jm_cd mY_Z_isTold) 22 = .ok (.aload_n 0, 1) := by decide +kernel
theorem d_Z_isTold_23 : decode (jm_cd mY_Z_isTold) 23 = .ok (.getfield 34, 3) := by decide +kernel
theorem d_Z_isTold_26 : decode (jm_cd mY_Z_isTold) 26 = .ok (.iconst 5, 1) := by decide +kernel
theorem d_Z_isTold_27 : decode (jm_cd mY_Z_isTold) 27 = .ok (.iload 5, 2) := by decide +kernel
theorem d_Z_isTold_29 : decode (jm_cd mY_Z_isTold) 29 = .ok (.imul, 1) := by decide +kernel
theorem d_Z_isTold_30 : decode (jm_cd mY_Z_isTold) 30 = .ok (.iaload, 1) := by decide +kernel
theorem d_Z_isTold_31 : decode (jm_cd mY_Z_isTold) 31 = .ok (.iload_n 1, 1) := by decide +kernel
theorem d_Z_isTold_32 : decode (jm_cd mY_Z_isTold) 32 = .ok (.if_icmp .ne 54, 3) := by decide +kernel
theorem d_Z_isTold_35 : decode (jm_cd mY_Z_isTold) 35 = .ok (.aload_n 0, 1) := by decide +kernel
theorem d_Z_isTold_36 : decode (jm_cd mY_Z_isTold) 36 = .ok (.getfield 34, 3) := by decide +kernel
theorem d_Z_isTold_39 : decode (jm_cd mY_Z_isTold) 39 = .ok (.iconst 5, 1) := by decide +kernel
theorem d_Z_isTold_40 : decode (jm_cd mY_Z_isTold) 40 = .ok (.iload 5, 2) := by decide +kernel
theorem d_Z_isTold_42 : decode (jm_cd mY_Z_isTold) 42 = .ok (.imul, 1) := by decide +kernel
theorem d_Z_isTold_43 : decode (jm_cd mY_Z_isTold) 43 = .ok (.iconst 1, 1) := by decide +kernel
theorem d_Z_isTold_44 : decode (jm_cd mY_Z_isTold) 44 = .ok (.iadd, 1) := by decide +kernel
theorem d_Z_isTold_45 : decode (jm_cd mY_Z_isTold) 45 = .ok (.iaload, 1) := by decide +kernel
theorem d_Z_isTold_46 : decode (jm_cd mY_Z_isTold) 46 = .ok (.iload_n 2, 1) := by decide +kernel
theorem d_Z_isTold_47 : decode (jm_cd mY_Z_isTold) 47 = .ok (.if_icmp .ne 39, 3) := by decide +kernel
theorem d_Z_isTold_50 : decode (jm_cd mY_Z_isTold) 50 = .ok (.iload_n 3, 1) := by decide +kernel
theorem d_Z_isTold_51 : decode (jm_cd mY_Z_isTold) 51 = .ok (.i2l, 1) := by decide +kernel
theorem d_Z_isTold_52 : decode (jm_cd mY_Z_isTold) 52 = .ok (.aload_n 0, 1) := by decide +kernel
theorem d_Z_isTold_53 : decode (jm_cd mY_Z_isTold) 53 = .ok (.getfield 34, 3) := by decide +kernel
theorem d_Z_isTold_56 : decode (jm_cd mY_Z_isTold) 56 = .ok (.iconst 5, 1) := by decide +kernel
theorem d_Z_isTold_57 : decode (jm_cd mY_Z_isTold) 57 = .ok (.iload 5, 2) := by decide +kernel
theorem d_Z_isTold_59 : decode (jm_cd mY_Z_isTold) 59 = .ok (.imul, 1) := by decide +kernel
theorem d_Z_isTold_60 : decode (jm_cd mY_Z_isTold) 60 = .ok (.iconst 3, 1) := by decide +kernel
theorem d_Z_isTold_61 : decode (jm_cd mY_Z_isTold) 61 = .ok (.iadd, 1) := by decide +kernel
theorem d_Z_isTold_62 : decode (jm_cd mY_Z_isTold) 62 = .ok (.iaload, 1) := by decide +kernel
theorem d_Z_isTold_63 : decode (jm_cd mY_Z_isTold) 63 = .ok (.i2l, 1) := by decide +kernel
theorem d_Z_isTold_64 : decode (jm_cd mY_Z_isTold) 64 = .ok (.aload_n 0, 1) := by decide +kernel
theorem d_Z_isTold_65 : decode (jm_cd mY_Z_isTold) 65 = .ok (.getfield 34, 3) := by decide +kernel
theorem d_Z_isTold_68 : decode (jm_cd mY_Z_isTold) 68 = .ok (.iconst 5, 1) := by decide +kernel
theorem d_Z_isTold_69 : decode (jm_cd mY_Z_isTold) 69 = .ok (.iload 5, 2) := by decide +kernel
theorem d_Z_isTold_71 : decode (jm_cd mY_Z_isTold) 71 = .ok (.imul, 1) := by decide +kernel
theorem d_Z_isTold_72 : decode (jm_cd mY_Z_isTold) 72 = .ok (.iconst 4, 1) := by decide +kernel
theorem d_Z_isTold_73 : decode (jm_cd mY_Z_isTold) 73 = .ok (.iadd, 1) := by decide +kernel
theorem d_Z_isTold_74 : decode (jm_cd mY_Z_isTold) 74 = .ok (.iaload, 1) := by decide +kernel
theorem d_Z_isTold_75 : decode (jm_cd mY_Z_isTold) 75 = .ok (.i2l, 1) := by decide +kernel
theorem d_Z_isTold_76 : decode (jm_cd mY_Z_isTold) 76 = .ok (.invokestatic 69, 3) := by decide +kernel
theorem d_Z_isTold_79 : decode (jm_cd mY_Z_isTold) 79 = .ok (.ifCond .eq 7, 3) := by decide +kernel
theorem d_Z_isTold_82 : decode (jm_cd mY_Z_isTold) 82 = .ok (.iconst 1, 1) := by decide +kernel
theorem d_Z_isTold_83 : decode (jm_cd mY_Z_isTold) 83 = .ok (.goto 4, 3) := by decide +kernel
theorem d_Z_isTold_86 : decode (jm_cd mY_Z_isTold) 86 = .ok (.iconst 0, 1) := by decide +kernel
theorem d_Z_isTold_87 : decode (jm_cd mY_Z_isTold) 87 = .ok (.istore 4, 2) := by decide +kernel
theorem d_Z_isTold_89 : decode (jm_cd mY_Z_isTold) 89 = .ok (.iinc 5 1, 3) := by decide +kernel
theorem d_Z_isTold_92 : decode (jm_cd mY_Z_isTold) 92 = .ok (.goto (-86), 3) := by decide +kernel
theorem d_Z_isTold_95 : decode (jm_cd mY_Z_isTold) 95 = .ok (.iload 4, 2) := by decide +kernel
theorem d_Z_isTold_97 : decode (jm_cd mY_Z_isTold) 97 = .ok (.ireturn, 1) := by decide +kernel
def s_Z_isTold_L6 (s : jm_M) : Nat → Int32 → Int32 → Int32 → Int32 → Int32 → Option Int32
  | 0, _, _, _, _, _ => none
  | n + 1, x1, x2, x3, x4, x5 => jm_ldi s 67 4 0 (fun v1 => (if v1 ≤ x5 then (jm_gb x4 (some x4)) else (if x4 = 0 then jm_ldi s 68 860 (5 * x5) (fun v2 => (if v2 = x1 then jm_ldi s 68 860 ((5 * x5) + 1) (fun v3 => (if v3 = x2 then jm_ldi s 68 860 ((5 * x5) + 3) (fun v4 => jm_ldi s 68 860 ((5 * x5) + 4) (fun v5 => jm_bd (s_Z_in s x3.toInt64 v4.toInt64 v5.toInt64) (fun v6 => (if v6 = 0 then s_Z_isTold_L6 s n x1 x2 x3 0 (x5 + 1) else s_Z_isTold_L6 s n x1 x2 x3 1 (x5 + 1))))) else s_Z_isTold_L6 s n x1 x2 x3 0 (x5 + 1))) else s_Z_isTold_L6 s n x1 x2 x3 0 (x5 + 1))) else s_Z_isTold_L6 s n x1 x2 x3 1 (x5 + 1))))
set_option maxRecDepth 100000 in
set_option maxHeartbeats 4000000 in
theorem s_Z_isTold_L6_ok (s : jm_M) : ∀ (n : Nat) (x1 : Int32) (x2 : Int32) (x3 : Int32) (x4 : Int32) (x5 : Int32), jm_Sim mY_Z_isTold 0 0 6 [(0, .ref 59), (1, .int x1), (2, .int x2), (3, .int x3), (4, .int x4), (5, .int x5)] [] 78 mr_154 s (s_Z_isTold_L6 s n x1 x2 x3 x4 x5) (jm_rI 78 mr_154 s) := by
  intro n
  induction n with
  | zero => intro x1 x2 x3 x4 x5; exact jm_none
  | succ n ih =>
    intro x1 x2 x3 x4 x5
    rw [s_Z_isTold_L6]
    refine jm_iload (pc := 6) (q := 5) (x := x5) d_Z_isTold_6 rfl ?_
    refine jm_aload_n (pc := 8) (q := 0) (x := 59) d_Z_isTold_8 rfl ?_
    refine jm_gr (pc := 9) (i := 59) d_Z_isTold_9 fo_Z_31 sh_59 ge_59 le_59_78 rfl (fun _ => rfl) mr_154_59_8 ge_67 ?_
    refine jm_iconst (pc := 12) (v := 0) d_Z_isTold_12 ci_0 ?_
    refine jm_iald (pc := 13) d_Z_isTold_13 sh_67 ge_67 le_67_78 (fun v1 => ?_)
    refine jm_icmp_ge (pc := 14) (tgt := 95) d_Z_isTold_14 (by decide) ?_ ?_
    · refine jm_iload (pc := 95) (q := 4) (x := x4) d_Z_isTold_95 rfl ?_
      exact jm_zret (pc := 97) d_Z_isTold_97 rfl rfl rfl rfl
    · refine jm_iload (pc := 17) (q := 4) (x := x4) d_Z_isTold_17 rfl ?_
      refine jm_if_ne (pc := 19) (tgt := 82) d_Z_isTold_19 (by decide) ?_ ?_
      · refine jm_aload_n (pc := 22) (q := 0) (x := 59) d_Z_isTold_22 rfl ?_
        refine jm_gr (pc := 23) (i := 59) d_Z_isTold_23 fo_Z_34 sh_59 ge_59 le_59_78 rfl (fun _ => rfl) mr_154_59_9 ge_68 ?_
        refine jm_iconst (pc := 26) (v := 5) d_Z_isTold_26 ci_5 ?_
        refine jm_iload (pc := 27) (q := 5) (x := x5) d_Z_isTold_27 rfl ?_
        refine jm_imul (pc := 29) d_Z_isTold_29 ?_
        refine jm_iald (pc := 30) d_Z_isTold_30 sh_68 ge_68 le_68_78 (fun v2 => ?_)
        refine jm_iload_n (pc := 31) (q := 1) (x := x1) d_Z_isTold_31 rfl ?_
        refine jm_icmp_ne (pc := 32) (tgt := 86) d_Z_isTold_32 (by decide) ?_ ?_
        · refine jm_aload_n (pc := 35) (q := 0) (x := 59) d_Z_isTold_35 rfl ?_
          refine jm_gr (pc := 36) (i := 59) d_Z_isTold_36 fo_Z_34 sh_59 ge_59 le_59_78 rfl (fun _ => rfl) mr_154_59_9 ge_68 ?_
          refine jm_iconst (pc := 39) (v := 5) d_Z_isTold_39 ci_5 ?_
          refine jm_iload (pc := 40) (q := 5) (x := x5) d_Z_isTold_40 rfl ?_
          refine jm_imul (pc := 42) d_Z_isTold_42 ?_
          refine jm_iconst (pc := 43) (v := 1) d_Z_isTold_43 ci_1 ?_
          refine jm_iadd (pc := 44) d_Z_isTold_44 ?_
          refine jm_iald (pc := 45) d_Z_isTold_45 sh_68 ge_68 le_68_78 (fun v3 => ?_)
          refine jm_iload_n (pc := 46) (q := 2) (x := x2) d_Z_isTold_46 rfl ?_
          refine jm_icmp_ne (pc := 47) (tgt := 86) d_Z_isTold_47 (by decide) ?_ ?_
          · refine jm_iload_n (pc := 50) (q := 3) (x := x3) d_Z_isTold_50 rfl ?_
            refine jm_i2l (pc := 51) d_Z_isTold_51 ?_
            refine jm_aload_n (pc := 52) (q := 0) (x := 59) d_Z_isTold_52 rfl ?_
            refine jm_gr (pc := 53) (i := 59) d_Z_isTold_53 fo_Z_34 sh_59 ge_59 le_59_78 rfl (fun _ => rfl) mr_154_59_9 ge_68 ?_
            refine jm_iconst (pc := 56) (v := 5) d_Z_isTold_56 ci_5 ?_
            refine jm_iload (pc := 57) (q := 5) (x := x5) d_Z_isTold_57 rfl ?_
            refine jm_imul (pc := 59) d_Z_isTold_59 ?_
            refine jm_iconst (pc := 60) (v := 3) d_Z_isTold_60 ci_3 ?_
            refine jm_iadd (pc := 61) d_Z_isTold_61 ?_
            refine jm_iald (pc := 62) d_Z_isTold_62 sh_68 ge_68 le_68_78 (fun v4 => ?_)
            refine jm_i2l (pc := 63) d_Z_isTold_63 ?_
            refine jm_aload_n (pc := 64) (q := 0) (x := 59) d_Z_isTold_64 rfl ?_
            refine jm_gr (pc := 65) (i := 59) d_Z_isTold_65 fo_Z_34 sh_59 ge_59 le_59_78 rfl (fun _ => rfl) mr_154_59_9 ge_68 ?_
            refine jm_iconst (pc := 68) (v := 5) d_Z_isTold_68 ci_5 ?_
            refine jm_iload (pc := 69) (q := 5) (x := x5) d_Z_isTold_69 rfl ?_
            refine jm_imul (pc := 71) d_Z_isTold_71 ?_
            refine jm_iconst (pc := 72) (v := 4) d_Z_isTold_72 ci_4 ?_
            refine jm_iadd (pc := 73) d_Z_isTold_73 ?_
            refine jm_iald (pc := 74) d_Z_isTold_74 sh_68 ge_68 le_68_78 (fun v5 => ?_)
            refine jm_i2l (pc := 75) d_Z_isTold_75 ?_
            refine jm_Sp (pc := 76) (Y' := mY_Z_in) (avs := [.long x3.toInt64, .long v4.toInt64, .long v5.toInt64]) (rest := []) (s_Z_in_ok s x3.toInt64 v4.toInt64 v5.toInt64) ok_Z_in l0_Z_isTold__Z_in ml_Z_69 sm_Z_in d_Z_isTold_76 rfl rfl (Nat.le_of_ble_eq_true rfl) (Nat.le_of_ble_eq_true rfl) (Nat.le_of_ble_eq_true rfl) (Nat.le_of_ble_eq_true rfl) (fun v6 => ?_)
            refine jm_if_eq (pc := 79) (tgt := 86) d_Z_isTold_79 (by decide) ?_ ?_
            · refine jm_iconst (pc := 86) (v := 0) d_Z_isTold_86 ci_0 ?_
              refine jm_istore (pc := 87) (L2 := [(4, .int 0), (0, .ref 59), (1, .int x1), (2, .int x2), (3, .int x3), (5, .int x5)]) d_Z_isTold_87 (Nat.le_of_ble_eq_true rfl) rfl ?_
              refine jm_iinc (pc := 89) (q := 5) (x := x5) (v := 1) (L2 := [(5, .int (x5 + 1)), (4, .int 0), (0, .ref 59), (1, .int x1), (2, .int x2), (3, .int x3)]) d_Z_isTold_89 rfl ci_1 (Nat.le_of_ble_eq_true rfl) rfl ?_
              refine jm_goto (pc := 92) (tgt := 6) d_Z_isTold_92 (by decide) ?_
              refine jm_sub (L2 := [(0, .ref 59), (1, .int x1), (2, .int x2), (3, .int x3), (4, .int 0), (5, .int (x5 + 1))]) [2, 3, 4, 5, 1, 0] rfl ?_
              exact ih x1 x2 x3 0 (x5 + 1)
            · refine jm_iconst (pc := 82) (v := 1) d_Z_isTold_82 ci_1 ?_
              refine jm_goto (pc := 83) (tgt := 87) d_Z_isTold_83 (by decide) ?_
              refine jm_istore (pc := 87) (L2 := [(4, .int 1), (0, .ref 59), (1, .int x1), (2, .int x2), (3, .int x3), (5, .int x5)]) d_Z_isTold_87 (Nat.le_of_ble_eq_true rfl) rfl ?_
              refine jm_iinc (pc := 89) (q := 5) (x := x5) (v := 1) (L2 := [(5, .int (x5 + 1)), (4, .int 1), (0, .ref 59), (1, .int x1), (2, .int x2), (3, .int x3)]) d_Z_isTold_89 rfl ci_1 (Nat.le_of_ble_eq_true rfl) rfl ?_
              refine jm_goto (pc := 92) (tgt := 6) d_Z_isTold_92 (by decide) ?_
              refine jm_sub (L2 := [(0, .ref 59), (1, .int x1), (2, .int x2), (3, .int x3), (4, .int 1), (5, .int (x5 + 1))]) [2, 3, 4, 5, 1, 0] rfl ?_
              exact ih x1 x2 x3 1 (x5 + 1)
          · refine jm_iconst (pc := 86) (v := 0) d_Z_isTold_86 ci_0 ?_
            refine jm_istore (pc := 87) (L2 := [(4, .int 0), (0, .ref 59), (1, .int x1), (2, .int x2), (3, .int x3), (5, .int x5)]) d_Z_isTold_87 (Nat.le_of_ble_eq_true rfl) rfl ?_
            refine jm_iinc (pc := 89) (q := 5) (x := x5) (v := 1) (L2 := [(5, .int (x5 + 1)), (4, .int 0), (0, .ref 59), (1, .int x1), (2, .int x2), (3, .int x3)]) d_Z_isTold_89 rfl ci_1 (Nat.le_of_ble_eq_true rfl) rfl ?_
            refine jm_goto (pc := 92) (tgt := 6) d_Z_isTold_92 (by decide) ?_
            refine jm_sub (L2 := [(0, .ref 59), (1, .int x1), (2, .int x2), (3, .int x3), (4, .int 0), (5, .int (x5 + 1))]) [2, 3, 4, 5, 1, 0] rfl ?_
            exact ih x1 x2 x3 0 (x5 + 1)
        · refine jm_iconst (pc := 86) (v := 0) d_Z_isTold_86 ci_0 ?_
          refine jm_istore (pc := 87) (L2 := [(4, .int 0), (0, .ref 59), (1, .int x1), (2, .int x2), (3, .int x3), (5, .int x5)]) d_Z_isTold_87 (Nat.le_of_ble_eq_true rfl) rfl ?_
          refine jm_iinc (pc := 89) (q := 5) (x := x5) (v := 1) (L2 := [(5, .int (x5 + 1)), (4, .int 0), (0, .ref 59), (1, .int x1), (2, .int x2), (3, .int x3)]) d_Z_isTold_89 rfl ci_1 (Nat.le_of_ble_eq_true rfl) rfl ?_
          refine jm_goto (pc := 92) (tgt := 6) d_Z_isTold_92 (by decide) ?_
          refine jm_sub (L2 := [(0, .ref 59), (1, .int x1), (2, .int x2), (3, .int x3), (4, .int 0), (5, .int (x5 + 1))]) [2, 3, 4, 5, 1, 0] rfl ?_
          exact ih x1 x2 x3 0 (x5 + 1)
      · refine jm_iconst (pc := 82) (v := 1) d_Z_isTold_82 ci_1 ?_
        refine jm_goto (pc := 83) (tgt := 87) d_Z_isTold_83 (by decide) ?_
        refine jm_istore (pc := 87) (L2 := [(4, .int 1), (0, .ref 59), (1, .int x1), (2, .int x2), (3, .int x3), (5, .int x5)]) d_Z_isTold_87 (Nat.le_of_ble_eq_true rfl) rfl ?_
        refine jm_iinc (pc := 89) (q := 5) (x := x5) (v := 1) (L2 := [(5, .int (x5 + 1)), (4, .int 1), (0, .ref 59), (1, .int x1), (2, .int x2), (3, .int x3)]) d_Z_isTold_89 rfl ci_1 (Nat.le_of_ble_eq_true rfl) rfl ?_
        refine jm_goto (pc := 92) (tgt := 6) d_Z_isTold_92 (by decide) ?_
        refine jm_sub (L2 := [(0, .ref 59), (1, .int x1), (2, .int x2), (3, .int x3), (4, .int 1), (5, .int (x5 + 1))]) [2, 3, 4, 5, 1, 0] rfl ?_
        exact ih x1 x2 x3 1 (x5 + 1)
def s_Z_isTold (s : jm_M) (a0 : Int32) (a1 : Int32) (a2 : Int32) : Option Int32 := s_Z_isTold_L6 s 5000 a0 a1 a2 0 0
set_option maxRecDepth 100000 in
set_option maxHeartbeats 4000000 in
theorem s_Z_isTold_ok (s : jm_M) (a0 : Int32) (a1 : Int32) (a2 : Int32) : jm_Sim mY_Z_isTold 0 0 0 [(0, .ref 59), (1, .int a0), (2, .int a1), (3, .int a2)] [] 78 mr_154 s (s_Z_isTold s a0 a1 a2) (jm_rI 78 mr_154 s) := by
  unfold s_Z_isTold
  refine jm_iconst (pc := 0) (v := 0) d_Z_isTold_0 ci_0 ?_
  refine jm_istore (pc := 1) (L2 := [(4, .int 0), (0, .ref 59), (1, .int a0), (2, .int a1), (3, .int a2)]) d_Z_isTold_1 (Nat.le_of_ble_eq_true rfl) rfl ?_
  refine jm_iconst (pc := 3) (v := 0) d_Z_isTold_3 ci_0 ?_
  refine jm_istore (pc := 4) (L2 := [(5, .int 0), (4, .int 0), (0, .ref 59), (1, .int a0), (2, .int a1), (3, .int a2)]) d_Z_isTold_4 (Nat.le_of_ble_eq_true rfl) rfl ?_
  refine jm_sub (L2 := [(0, .ref 59), (1, .int a0), (2, .int a1), (3, .int a2), (4, .int 0), (5, .int 0)]) [2, 3, 4, 5, 1, 0] rfl ?_
  exact s_Z_isTold_L6_ok s 5000 a0 a1 a2 0 0
theorem d_Z_isMist_0 : decode (jm_cd mY_Z_isMist) 0 = .ok (.iconst 0, 1) := by decide +kernel
theorem d_Z_isMist_1 : decode (jm_cd mY_Z_isMist) 1 = .ok (.istore 4, 2) := by decide +kernel
theorem d_Z_isMist_3 : decode (jm_cd mY_Z_isMist) 3 = .ok (.iconst 0, 1) := by decide +kernel
theorem d_Z_isMist_4 : decode (jm_cd mY_Z_isMist) 4 = .ok (.istore 5, 2) := by decide +kernel
theorem d_Z_isMist_6 : decode (jm_cd mY_Z_isMist) 6 = .ok (.iload 5, 2) := by decide +kernel
theorem d_Z_isMist_8 : decode (jm_cd mY_Z_isMist) 8 = .ok (.aload_n 0, 1) := by decide +kernel
theorem d_Z_isMist_9 : decode (jm_cd mY_Z_isMist) 9 = .ok (.getfield 31, 3) := by decide +kernel
theorem d_Z_isMist_12 : decode (jm_cd mY_Z_isMist) 12 = .ok (.iconst 0, 1) := by decide +kernel
theorem d_Z_isMist_13 : decode (jm_cd mY_Z_isMist) 13 = .ok (.iaload, 1) := by decide +kernel
theorem d_Z_isMist_14 : decode (jm_cd mY_Z_isMist) 14 = .ok (.if_icmp .ge 117, 3) := by decide +kernel
theorem d_Z_isMist_17 : decode (jm_cd mY_Z_isMist) 17 = .ok (.aload_n 0, 1) := by decide +kernel
theorem d_Z_isMist_18 : decode (jm_cd mY_Z_isMist) 18 = .ok (.getfield 34, 3) := by decide +kernel
theorem d_Z_isMist_21 : decode (jm_cd mY_Z_isMist) 21 = .ok (.iconst 5, 1) := by decide +kernel
theorem d_Z_isMist_22 : decode (jm_cd mY_Z_isMist) 22 = .ok (.iload 5, 2) := by decide +kernel
theorem d_Z_isMist_24 : decode (jm_cd mY_Z_isMist) 24 = .ok (.imul, 1) := by decide +kernel
theorem d_Z_isMist_25 : decode (jm_cd mY_Z_isMist) 25 = .ok (.iconst 1, 1) := by decide +kernel
theorem d_Z_isMist_26 : decode (jm_cd mY_Z_isMist) 26 = .ok (.iadd, 1) := by decide +kernel
theorem d_Z_isMist_27 : decode (jm_cd mY_Z_isMist) 27 = .ok (.iaload, 1) := by decide +kernel
theorem d_Z_isMist_28 : decode (jm_cd mY_Z_isMist) 28 = .ok (.istore 6, 2) := by decide +kernel
theorem d_Z_isMist_30 : decode (jm_cd mY_Z_isMist) 30 = .ok (.aload_n 0, 1) := by decide +kernel
theorem d_Z_isMist_31 : decode (jm_cd mY_Z_isMist) 31 = .ok (.getfield 34, 3) := by decide +kernel
theorem d_Z_isMist_34 : decode (jm_cd mY_Z_isMist) 34 = .ok (.iconst 5, 1) := by decide +kernel
theorem d_Z_isMist_35 : decode (jm_cd mY_Z_isMist) 35 = .ok (.iload 5, 2) := by decide +kernel
theorem d_Z_isMist_37 : decode (jm_cd mY_Z_isMist) 37 = .ok (.imul, 1) := by decide +kernel
theorem d_Z_isMist_38 : decode (jm_cd mY_Z_isMist) 38 = .ok (.iconst 2, 1) := by decide +kernel
theorem d_Z_isMist_39 : decode (jm_cd mY_Z_isMist) 39 = .ok (.iadd, 1) := by decide +kernel
theorem d_Z_isMist_40 : decode (jm_cd mY_Z_isMist) 40 = .ok (.iaload, 1) := by decide +kernel
theorem d_Z_isMist_41 : decode (jm_cd mY_Z_isMist) 41 = .ok (.istore 7, 2) := by decide +kernel
theorem d_Z_isMist_43 : decode (jm_cd mY_Z_isMist) 43 = .ok (.iload 4, 2) := by decide +kernel
theorem d_Z_isMist_45 : decode (jm_cd mY_Z_isMist) 45 = .ok (.ifCond .ne 73, 3) := by decide +kernel
theorem d_Z_isMist_48 : decode (jm_cd mY_Z_isMist) 48 = .ok (.aload_n 0, 1) := by decide +kernel
theorem d_Z_isMist_49 : decode (jm_cd mY_Z_isMist) 49 = .ok (.getfield 34, 3) := by decide +kernel
theorem d_Z_isMist_52 : decode (jm_cd mY_Z_isMist) 52 = .ok (.iconst 5, 1) := by decide +kernel
theorem d_Z_isMist_53 : decode (jm_cd mY_Z_isMist) 53 = .ok (.iload 5, 2) := by decide +kernel
theorem d_Z_isMist_55 : decode (jm_cd mY_Z_isMist) 55 = .ok (.imul, 1) := by decide +kernel
theorem d_Z_isMist_56 : decode (jm_cd mY_Z_isMist) 56 = .ok (.iaload, 1) := by decide +kernel
theorem d_Z_isMist_57 : decode (jm_cd mY_Z_isMist) 57 = .ok (.bipush 103, 2) := by decide +kernel
theorem d_Z_isMist_59 : decode (jm_cd mY_Z_isMist) 59 = .ok (.if_icmp .ne 63, 3) := by decide +kernel
theorem d_Z_isMist_62 : decode (jm_cd mY_Z_isMist) 62 = .ok (.iload 6, 2) := by decide +kernel
theorem d_Z_isMist_64 : decode (jm_cd mY_Z_isMist) 64 = .ok (.iload_n 1, 1) := by decide +kernel
theorem d_Z_isMist_65 : decode (jm_cd mY_Z_isMist) 65 = .ok (.if_icmp .ne 9, 3) := by decide +kernel
theorem d_Z_isMist_68 : decode (jm_cd mY_Z_isMist) 68 = .ok (.iload 7, 2) := by decide +kernel
theorem d_Z_isMist_70 : decode (jm_cd mY_Z_isMist) 70 = .ok (.iload_n 2, 1) := by decide +kernel
theorem d_Z_isMist_71 : decode (jm_cd mY_Z_isMist) 71 = .ok (.if_icmp .eq 15, 3) := by decide +kernel
theorem d_Z_isMist_74 : decode (jm_cd mY_Z_isMist) 74 = .ok (.iload 6, 2) := by decide +kernel
theorem d_Z_isMist_76 : decode (jm_cd mY_Z_isMist) 76 = .ok (.iload_n 2, 1) := by decide +kernel
theorem d_Z_isMist_77 : decode (jm_cd mY_Z_isMist) 77 = .ok (.if_icmp .ne 45, 3) := by decide +kernel
theorem d_Z_isMist_80 : decode (jm_cd mY_Z_isMist) 80 = .ok (.iload 7, 2) := by decide +kernel
theorem d_Z_isMist_82 : decode (jm_cd mY_Z_isMist) 82 = .ok (.iload_n 1, 1) := by decide +kernel
theorem d_Z_isMist_83 : decode (jm_cd mY_Z_isMist) 83 = .ok (.if_icmp .ne 39, 3) := by decide +kernel
theorem d_Z_isMist_86 : decode (jm_cd mY_Z_isMist) 86 = .ok (.iload_n 3, 1) := by decide +kernel
theorem d_Z_isMist_87 : decode (jm_cd mY_Z_isMist) 87 = .ok (.i2l, 1) := by decide +kernel
theorem d_Z_isMist_88 : decode (jm_cd mY_Z_isMist) 88 = .ok (.aload_n 0, 1) := by decide +kernel
theorem d_Z_isMist_89 : decode (jm_cd mY_Z_isMist) 89 = .ok (.getfield 34, 3) := by decide +kernel
theorem d_Z_isMist_92 : decode (jm_cd mY_Z_isMist) 92 = .ok (.iconst 5, 1) := by decide +kernel
theorem d_Z_isMist_93 : decode (jm_cd mY_Z_isMist) 93 = .ok (.iload 5, 2) := by decide +kernel
theorem d_Z_isMist_95 : decode (jm_cd mY_Z_isMist) 95 = .ok (.imul, 1) := by decide +kernel
theorem d_Z_isMist_96 : decode (jm_cd mY_Z_isMist) 96 = .ok (.iconst 3, 1) := by decide +kernel
theorem d_Z_isMist_97 : decode (jm_cd mY_Z_isMist) 97 = .ok (.iadd, 1) := by decide +kernel
theorem d_Z_isMist_98 : decode (jm_cd mY_Z_isMist) 98 = .ok (.iaload, 1) := by decide +kernel
theorem d_Z_isMist_99 : decode (jm_cd mY_Z_isMist) 99 = .ok (.i2l, 1) := by decide +kernel
theorem d_Z_isMist_100 : decode (jm_cd mY_Z_isMist) 100 = .ok (.aload_n 0, 1) := by decide +kernel
theorem d_Z_isMist_101 : decode (jm_cd mY_Z_isMist) 101 = .ok (.getfield 34, 3) := by decide +kernel
theorem d_Z_isMist_104 : decode (jm_cd mY_Z_isMist) 104 = .ok (.iconst 5, 1) := by decide +kernel
theorem d_Z_isMist_105 : decode (jm_cd mY_Z_isMist) 105 = .ok (.iload 5, 2) := by decide +kernel
theorem d_Z_isMist_107 : decode (jm_cd mY_Z_isMist) 107 = .ok (.imul, 1) := by decide +kernel
theorem d_Z_isMist_108 : decode (jm_cd mY_Z_isMist) 108 = .ok (.iconst 4, 1) := by decide +kernel
theorem d_Z_isMist_109 : decode (jm_cd mY_Z_isMist) 109 = .ok (.iadd, 1) := by decide +kernel
theorem d_Z_isMist_110 : decode (jm_cd mY_Z_isMist) 110 = .ok (.iaload, 1) := by decide +kernel
theorem d_Z_isMist_111 : decode (jm_cd mY_Z_isMist) 111 = .ok (.i2l, 1) := by decide +kernel
theorem d_Z_isMist_112 : decode (jm_cd mY_Z_isMist) 112 = .ok (.invokestatic 69, 3) := by decide +kernel
theorem d_Z_isMist_115 : decode (jm_cd mY_Z_isMist) 115 = .ok (.ifCond .eq 7, 3) := by decide +kernel
theorem d_Z_isMist_118 : decode (jm_cd mY_Z_isMist) 118 = .ok (.iconst 1, 1) := by decide +kernel
theorem d_Z_isMist_119 : decode (jm_cd mY_Z_isMist) 119 = .ok (.goto 4, 3) := by decide +kernel
theorem d_Z_isMist_122 : decode (jm_cd mY_Z_isMist) 122 = .ok (.iconst 0, 1) := by decide +kernel
theorem d_Z_isMist_123 : decode (jm_cd mY_Z_isMist) 123 = .ok (.istore 4, 2) := by decide +kernel
theorem d_Z_isMist_125 : decode (jm_cd mY_Z_isMist) 125 = .ok (.iinc 5 1, 3) := by decide +kernel
theorem d_Z_isMist_128 : decode (jm_cd mY_Z_isMist) 128 = .ok (.goto (-122), 3) := by decide +kernel
theorem d_Z_isMist_131 : decode (jm_cd mY_Z_isMist) 131 = .ok (.iload 4, 2) := by decide +kernel
theorem d_Z_isMist_133 : decode (jm_cd mY_Z_isMist) 133 = .ok (.ireturn, 1) := by decide +kernel
def s_Z_isMist_J86 (s : jm_M) (k4 : Int32 → Int32 → Int32 → Int32 → Int32 → Option Int32) (x1 : Int32) (x2 : Int32) (x3 : Int32) (x5 : Int32) : Option Int32 := jm_ldi s 68 860 ((5 * x5) + 3) (fun v5 => jm_ldi s 68 860 ((5 * x5) + 4) (fun v6 => jm_bd (s_Z_in s x3.toInt64 v5.toInt64 v6.toInt64) (fun v7 => (if v7 = 0 then k4 x1 x2 x3 0 (x5 + 1) else k4 x1 x2 x3 1 (x5 + 1)))))
set_option maxRecDepth 100000 in
set_option maxHeartbeats 4000000 in
theorem s_Z_isMist_J86_ok (s : jm_M) {k4 : Int32 → Int32 → Int32 → Int32 → Int32 → Option Int32} (hk4 : ∀ (x1 : Int32) (x2 : Int32) (x3 : Int32) (x4 : Int32) (x5 : Int32), jm_Sim mY_Z_isMist 0 0 6 [(0, .ref 59), (1, .int x1), (2, .int x2), (3, .int x3), (4, .int x4), (5, .int x5)] [] 78 mr_154 s (k4 x1 x2 x3 x4 x5) (jm_rI 78 mr_154 s)) (x1 : Int32) (x2 : Int32) (x3 : Int32) (x5 : Int32) : jm_Sim mY_Z_isMist 0 0 86 [(0, .ref 59), (1, .int x1), (2, .int x2), (3, .int x3), (5, .int x5)] [] 78 mr_154 s (s_Z_isMist_J86 s k4 x1 x2 x3 x5) (jm_rI 78 mr_154 s) := by
  unfold s_Z_isMist_J86
  refine jm_iload_n (pc := 86) (q := 3) (x := x3) d_Z_isMist_86 rfl ?_
  refine jm_i2l (pc := 87) d_Z_isMist_87 ?_
  refine jm_aload_n (pc := 88) (q := 0) (x := 59) d_Z_isMist_88 rfl ?_
  refine jm_gr (pc := 89) (i := 59) d_Z_isMist_89 fo_Z_34 sh_59 ge_59 le_59_78 rfl (fun _ => rfl) mr_154_59_9 ge_68 ?_
  refine jm_iconst (pc := 92) (v := 5) d_Z_isMist_92 ci_5 ?_
  refine jm_iload (pc := 93) (q := 4) (x := x5) d_Z_isMist_93 rfl ?_
  refine jm_imul (pc := 95) d_Z_isMist_95 ?_
  refine jm_iconst (pc := 96) (v := 3) d_Z_isMist_96 ci_3 ?_
  refine jm_iadd (pc := 97) d_Z_isMist_97 ?_
  refine jm_iald (pc := 98) d_Z_isMist_98 sh_68 ge_68 le_68_78 (fun v5 => ?_)
  refine jm_i2l (pc := 99) d_Z_isMist_99 ?_
  refine jm_aload_n (pc := 100) (q := 0) (x := 59) d_Z_isMist_100 rfl ?_
  refine jm_gr (pc := 101) (i := 59) d_Z_isMist_101 fo_Z_34 sh_59 ge_59 le_59_78 rfl (fun _ => rfl) mr_154_59_9 ge_68 ?_
  refine jm_iconst (pc := 104) (v := 5) d_Z_isMist_104 ci_5 ?_
  refine jm_iload (pc := 105) (q := 4) (x := x5) d_Z_isMist_105 rfl ?_
  refine jm_imul (pc := 107) d_Z_isMist_107 ?_
  refine jm_iconst (pc := 108) (v := 4) d_Z_isMist_108 ci_4 ?_
  refine jm_iadd (pc := 109) d_Z_isMist_109 ?_
  refine jm_iald (pc := 110) d_Z_isMist_110 sh_68 ge_68 le_68_78 (fun v6 => ?_)
  refine jm_i2l (pc := 111) d_Z_isMist_111 ?_
  refine jm_Sp (pc := 112) (Y' := mY_Z_in) (avs := [.long x3.toInt64, .long v5.toInt64, .long v6.toInt64]) (rest := []) (s_Z_in_ok s x3.toInt64 v5.toInt64 v6.toInt64) ok_Z_in l0_Z_isMist__Z_in ml_Z_69 sm_Z_in d_Z_isMist_112 rfl rfl (Nat.le_of_ble_eq_true rfl) (Nat.le_of_ble_eq_true rfl) (Nat.le_of_ble_eq_true rfl) (Nat.le_of_ble_eq_true rfl) (fun v7 => ?_)
  refine jm_if_eq (pc := 115) (tgt := 122) d_Z_isMist_115 (by decide) ?_ ?_
  · refine jm_iconst (pc := 122) (v := 0) d_Z_isMist_122 ci_0 ?_
    refine jm_istore (pc := 123) (L2 := [(4, .int 0), (0, .ref 59), (1, .int x1), (2, .int x2), (3, .int x3), (5, .int x5)]) d_Z_isMist_123 (Nat.le_of_ble_eq_true rfl) rfl ?_
    refine jm_iinc (pc := 125) (q := 5) (x := x5) (v := 1) (L2 := [(5, .int (x5 + 1)), (4, .int 0), (0, .ref 59), (1, .int x1), (2, .int x2), (3, .int x3)]) d_Z_isMist_125 rfl ci_1 (Nat.le_of_ble_eq_true rfl) rfl ?_
    refine jm_goto (pc := 128) (tgt := 6) d_Z_isMist_128 (by decide) ?_
    refine jm_sub (L2 := [(0, .ref 59), (1, .int x1), (2, .int x2), (3, .int x3), (4, .int 0), (5, .int (x5 + 1))]) [2, 3, 4, 5, 1, 0] rfl ?_
    exact hk4 x1 x2 x3 0 (x5 + 1)
  · refine jm_iconst (pc := 118) (v := 1) d_Z_isMist_118 ci_1 ?_
    refine jm_goto (pc := 119) (tgt := 123) d_Z_isMist_119 (by decide) ?_
    refine jm_istore (pc := 123) (L2 := [(4, .int 1), (0, .ref 59), (1, .int x1), (2, .int x2), (3, .int x3), (5, .int x5)]) d_Z_isMist_123 (Nat.le_of_ble_eq_true rfl) rfl ?_
    refine jm_iinc (pc := 125) (q := 5) (x := x5) (v := 1) (L2 := [(5, .int (x5 + 1)), (4, .int 1), (0, .ref 59), (1, .int x1), (2, .int x2), (3, .int x3)]) d_Z_isMist_125 rfl ci_1 (Nat.le_of_ble_eq_true rfl) rfl ?_
    refine jm_goto (pc := 128) (tgt := 6) d_Z_isMist_128 (by decide) ?_
    refine jm_sub (L2 := [(0, .ref 59), (1, .int x1), (2, .int x2), (3, .int x3), (4, .int 1), (5, .int (x5 + 1))]) [2, 3, 4, 5, 1, 0] rfl ?_
    exact hk4 x1 x2 x3 1 (x5 + 1)
def s_Z_isMist_J74 (s : jm_M) (k4 : Int32 → Int32 → Int32 → Int32 → Int32 → Option Int32) (x1 : Int32) (x2 : Int32) (x3 : Int32) (x5 : Int32) (x6 : Int32) (x7 : Int32) : Option Int32 := (if x6 = x2 then (if x7 = x1 then s_Z_isMist_J86 s k4 x1 x2 x3 x5 else k4 x1 x2 x3 0 (x5 + 1)) else k4 x1 x2 x3 0 (x5 + 1))
set_option maxRecDepth 100000 in
set_option maxHeartbeats 4000000 in
theorem s_Z_isMist_J74_ok (s : jm_M) {k4 : Int32 → Int32 → Int32 → Int32 → Int32 → Option Int32} (hk4 : ∀ (x1 : Int32) (x2 : Int32) (x3 : Int32) (x4 : Int32) (x5 : Int32), jm_Sim mY_Z_isMist 0 0 6 [(0, .ref 59), (1, .int x1), (2, .int x2), (3, .int x3), (4, .int x4), (5, .int x5)] [] 78 mr_154 s (k4 x1 x2 x3 x4 x5) (jm_rI 78 mr_154 s)) (x1 : Int32) (x2 : Int32) (x3 : Int32) (x5 : Int32) (x6 : Int32) (x7 : Int32) : jm_Sim mY_Z_isMist 0 0 74 [(0, .ref 59), (1, .int x1), (2, .int x2), (3, .int x3), (5, .int x5), (6, .int x6), (7, .int x7)] [] 78 mr_154 s (s_Z_isMist_J74 s k4 x1 x2 x3 x5 x6 x7) (jm_rI 78 mr_154 s) := by
  unfold s_Z_isMist_J74
  refine jm_iload (pc := 74) (q := 5) (x := x6) d_Z_isMist_74 rfl ?_
  refine jm_iload_n (pc := 76) (q := 2) (x := x2) d_Z_isMist_76 rfl ?_
  refine jm_icmp_ne (pc := 77) (tgt := 122) d_Z_isMist_77 (by decide) ?_ ?_
  · refine jm_iload (pc := 80) (q := 6) (x := x7) d_Z_isMist_80 rfl ?_
    refine jm_iload_n (pc := 82) (q := 1) (x := x1) d_Z_isMist_82 rfl ?_
    refine jm_icmp_ne (pc := 83) (tgt := 122) d_Z_isMist_83 (by decide) ?_ ?_
    · refine jm_sub (L2 := [(0, .ref 59), (1, .int x1), (2, .int x2), (3, .int x3), (5, .int x5)]) [0, 1, 2, 3, 4] rfl ?_
      exact s_Z_isMist_J86_ok s hk4 x1 x2 x3 x5
    · refine jm_iconst (pc := 122) (v := 0) d_Z_isMist_122 ci_0 ?_
      refine jm_istore (pc := 123) (L2 := [(4, .int 0), (0, .ref 59), (1, .int x1), (2, .int x2), (3, .int x3), (5, .int x5), (6, .int x6), (7, .int x7)]) d_Z_isMist_123 (Nat.le_of_ble_eq_true rfl) rfl ?_
      refine jm_iinc (pc := 125) (q := 5) (x := x5) (v := 1) (L2 := [(5, .int (x5 + 1)), (4, .int 0), (0, .ref 59), (1, .int x1), (2, .int x2), (3, .int x3), (6, .int x6), (7, .int x7)]) d_Z_isMist_125 rfl ci_1 (Nat.le_of_ble_eq_true rfl) rfl ?_
      refine jm_goto (pc := 128) (tgt := 6) d_Z_isMist_128 (by decide) ?_
      refine jm_sub (L2 := [(0, .ref 59), (1, .int x1), (2, .int x2), (3, .int x3), (4, .int 0), (5, .int (x5 + 1))]) [2, 3, 4, 5, 1, 0] rfl ?_
      exact hk4 x1 x2 x3 0 (x5 + 1)
  · refine jm_iconst (pc := 122) (v := 0) d_Z_isMist_122 ci_0 ?_
    refine jm_istore (pc := 123) (L2 := [(4, .int 0), (0, .ref 59), (1, .int x1), (2, .int x2), (3, .int x3), (5, .int x5), (6, .int x6), (7, .int x7)]) d_Z_isMist_123 (Nat.le_of_ble_eq_true rfl) rfl ?_
    refine jm_iinc (pc := 125) (q := 5) (x := x5) (v := 1) (L2 := [(5, .int (x5 + 1)), (4, .int 0), (0, .ref 59), (1, .int x1), (2, .int x2), (3, .int x3), (6, .int x6), (7, .int x7)]) d_Z_isMist_125 rfl ci_1 (Nat.le_of_ble_eq_true rfl) rfl ?_
    refine jm_goto (pc := 128) (tgt := 6) d_Z_isMist_128 (by decide) ?_
    refine jm_sub (L2 := [(0, .ref 59), (1, .int x1), (2, .int x2), (3, .int x3), (4, .int 0), (5, .int (x5 + 1))]) [2, 3, 4, 5, 1, 0] rfl ?_
    exact hk4 x1 x2 x3 0 (x5 + 1)
def s_Z_isMist_L6 (s : jm_M) : Nat → Int32 → Int32 → Int32 → Int32 → Int32 → Option Int32
  | 0, _, _, _, _, _ => none
  | n + 1, x1, x2, x3, x4, x5 => jm_ldi s 67 4 0 (fun v1 => (if v1 ≤ x5 then (jm_gb x4 (some x4)) else jm_ldi s 68 860 ((5 * x5) + 1) (fun v2 => jm_ldi s 68 860 ((5 * x5) + 2) (fun v3 => (if x4 = 0 then jm_ldi s 68 860 (5 * x5) (fun v4 => (if v4 = 103 then (if v2 = x1 then (if v3 = x2 then s_Z_isMist_J86 s (s_Z_isMist_L6 s n) x1 x2 x3 x5 else s_Z_isMist_J74 s (s_Z_isMist_L6 s n) x1 x2 x3 x5 v2 v3) else s_Z_isMist_J74 s (s_Z_isMist_L6 s n) x1 x2 x3 x5 v2 v3) else s_Z_isMist_L6 s n x1 x2 x3 0 (x5 + 1))) else s_Z_isMist_L6 s n x1 x2 x3 1 (x5 + 1))))))
set_option maxRecDepth 100000 in
set_option maxHeartbeats 4000000 in
theorem s_Z_isMist_L6_ok (s : jm_M) : ∀ (n : Nat) (x1 : Int32) (x2 : Int32) (x3 : Int32) (x4 : Int32) (x5 : Int32), jm_Sim mY_Z_isMist 0 0 6 [(0, .ref 59), (1, .int x1), (2, .int x2), (3, .int x3), (4, .int x4), (5, .int x5)] [] 78 mr_154 s (s_Z_isMist_L6 s n x1 x2 x3 x4 x5) (jm_rI 78 mr_154 s) := by
  intro n
  induction n with
  | zero => intro x1 x2 x3 x4 x5; exact jm_none
  | succ n ih =>
    intro x1 x2 x3 x4 x5
    rw [s_Z_isMist_L6]
    refine jm_iload (pc := 6) (q := 5) (x := x5) d_Z_isMist_6 rfl ?_
    refine jm_aload_n (pc := 8) (q := 0) (x := 59) d_Z_isMist_8 rfl ?_
    refine jm_gr (pc := 9) (i := 59) d_Z_isMist_9 fo_Z_31 sh_59 ge_59 le_59_78 rfl (fun _ => rfl) mr_154_59_8 ge_67 ?_
    refine jm_iconst (pc := 12) (v := 0) d_Z_isMist_12 ci_0 ?_
    refine jm_iald (pc := 13) d_Z_isMist_13 sh_67 ge_67 le_67_78 (fun v1 => ?_)
    refine jm_icmp_ge (pc := 14) (tgt := 131) d_Z_isMist_14 (by decide) ?_ ?_
    · refine jm_iload (pc := 131) (q := 4) (x := x4) d_Z_isMist_131 rfl ?_
      exact jm_zret (pc := 133) d_Z_isMist_133 rfl rfl rfl rfl
    · refine jm_aload_n (pc := 17) (q := 0) (x := 59) d_Z_isMist_17 rfl ?_
      refine jm_gr (pc := 18) (i := 59) d_Z_isMist_18 fo_Z_34 sh_59 ge_59 le_59_78 rfl (fun _ => rfl) mr_154_59_9 ge_68 ?_
      refine jm_iconst (pc := 21) (v := 5) d_Z_isMist_21 ci_5 ?_
      refine jm_iload (pc := 22) (q := 5) (x := x5) d_Z_isMist_22 rfl ?_
      refine jm_imul (pc := 24) d_Z_isMist_24 ?_
      refine jm_iconst (pc := 25) (v := 1) d_Z_isMist_25 ci_1 ?_
      refine jm_iadd (pc := 26) d_Z_isMist_26 ?_
      refine jm_iald (pc := 27) d_Z_isMist_27 sh_68 ge_68 le_68_78 (fun v2 => ?_)
      refine jm_istore (pc := 28) (L2 := [(6, .int v2), (0, .ref 59), (1, .int x1), (2, .int x2), (3, .int x3), (4, .int x4), (5, .int x5)]) d_Z_isMist_28 (Nat.le_of_ble_eq_true rfl) rfl ?_
      refine jm_aload_n (pc := 30) (q := 1) (x := 59) d_Z_isMist_30 rfl ?_
      refine jm_gr (pc := 31) (i := 59) d_Z_isMist_31 fo_Z_34 sh_59 ge_59 le_59_78 rfl (fun _ => rfl) mr_154_59_9 ge_68 ?_
      refine jm_iconst (pc := 34) (v := 5) d_Z_isMist_34 ci_5 ?_
      refine jm_iload (pc := 35) (q := 6) (x := x5) d_Z_isMist_35 rfl ?_
      refine jm_imul (pc := 37) d_Z_isMist_37 ?_
      refine jm_iconst (pc := 38) (v := 2) d_Z_isMist_38 ci_2 ?_
      refine jm_iadd (pc := 39) d_Z_isMist_39 ?_
      refine jm_iald (pc := 40) d_Z_isMist_40 sh_68 ge_68 le_68_78 (fun v3 => ?_)
      refine jm_istore (pc := 41) (L2 := [(7, .int v3), (6, .int v2), (0, .ref 59), (1, .int x1), (2, .int x2), (3, .int x3), (4, .int x4), (5, .int x5)]) d_Z_isMist_41 (Nat.le_of_ble_eq_true rfl) rfl ?_
      refine jm_iload (pc := 43) (q := 6) (x := x4) d_Z_isMist_43 rfl ?_
      refine jm_if_ne (pc := 45) (tgt := 118) d_Z_isMist_45 (by decide) ?_ ?_
      · refine jm_aload_n (pc := 48) (q := 2) (x := 59) d_Z_isMist_48 rfl ?_
        refine jm_gr (pc := 49) (i := 59) d_Z_isMist_49 fo_Z_34 sh_59 ge_59 le_59_78 rfl (fun _ => rfl) mr_154_59_9 ge_68 ?_
        refine jm_iconst (pc := 52) (v := 5) d_Z_isMist_52 ci_5 ?_
        refine jm_iload (pc := 53) (q := 7) (x := x5) d_Z_isMist_53 rfl ?_
        refine jm_imul (pc := 55) d_Z_isMist_55 ?_
        refine jm_iald (pc := 56) d_Z_isMist_56 sh_68 ge_68 le_68_78 (fun v4 => ?_)
        refine jm_bipush (pc := 57) (v := 103) d_Z_isMist_57 cb_103 ?_
        refine jm_icmp_ne (pc := 59) (tgt := 122) d_Z_isMist_59 (by decide) ?_ ?_
        · refine jm_iload (pc := 62) (q := 1) (x := v2) d_Z_isMist_62 rfl ?_
          refine jm_iload_n (pc := 64) (q := 3) (x := x1) d_Z_isMist_64 rfl ?_
          refine jm_icmp_ne (pc := 65) (tgt := 74) d_Z_isMist_65 (by decide) ?_ ?_
          · refine jm_iload (pc := 68) (q := 0) (x := v3) d_Z_isMist_68 rfl ?_
            refine jm_iload_n (pc := 70) (q := 4) (x := x2) d_Z_isMist_70 rfl ?_
            refine jm_icmp_eq (pc := 71) (tgt := 86) d_Z_isMist_71 (by decide) ?_ ?_
            · refine jm_sub (L2 := [(0, .ref 59), (1, .int x1), (2, .int x2), (3, .int x3), (5, .int x5)]) [2, 3, 4, 5, 7] rfl ?_
              exact s_Z_isMist_J86_ok s ih x1 x2 x3 x5
            · refine jm_sub (L2 := [(0, .ref 59), (1, .int x1), (2, .int x2), (3, .int x3), (5, .int x5), (6, .int v2), (7, .int v3)]) [2, 3, 4, 5, 7, 1, 0] rfl ?_
              exact s_Z_isMist_J74_ok s ih x1 x2 x3 x5 v2 v3
          · refine jm_sub (L2 := [(0, .ref 59), (1, .int x1), (2, .int x2), (3, .int x3), (5, .int x5), (6, .int v2), (7, .int v3)]) [2, 3, 4, 5, 7, 1, 0] rfl ?_
            exact s_Z_isMist_J74_ok s ih x1 x2 x3 x5 v2 v3
        · refine jm_iconst (pc := 122) (v := 0) d_Z_isMist_122 ci_0 ?_
          refine jm_istore (pc := 123) (L2 := [(4, .int 0), (7, .int v3), (6, .int v2), (0, .ref 59), (1, .int x1), (2, .int x2), (3, .int x3), (5, .int x5)]) d_Z_isMist_123 (Nat.le_of_ble_eq_true rfl) rfl ?_
          refine jm_iinc (pc := 125) (q := 7) (x := x5) (v := 1) (L2 := [(5, .int (x5 + 1)), (4, .int 0), (7, .int v3), (6, .int v2), (0, .ref 59), (1, .int x1), (2, .int x2), (3, .int x3)]) d_Z_isMist_125 rfl ci_1 (Nat.le_of_ble_eq_true rfl) rfl ?_
          refine jm_goto (pc := 128) (tgt := 6) d_Z_isMist_128 (by decide) ?_
          refine jm_sub (L2 := [(0, .ref 59), (1, .int x1), (2, .int x2), (3, .int x3), (4, .int 0), (5, .int (x5 + 1))]) [4, 5, 6, 7, 1, 0] rfl ?_
          exact ih x1 x2 x3 0 (x5 + 1)
      · refine jm_iconst (pc := 118) (v := 1) d_Z_isMist_118 ci_1 ?_
        refine jm_goto (pc := 119) (tgt := 123) d_Z_isMist_119 (by decide) ?_
        refine jm_istore (pc := 123) (L2 := [(4, .int 1), (7, .int v3), (6, .int v2), (0, .ref 59), (1, .int x1), (2, .int x2), (3, .int x3), (5, .int x5)]) d_Z_isMist_123 (Nat.le_of_ble_eq_true rfl) rfl ?_
        refine jm_iinc (pc := 125) (q := 7) (x := x5) (v := 1) (L2 := [(5, .int (x5 + 1)), (4, .int 1), (7, .int v3), (6, .int v2), (0, .ref 59), (1, .int x1), (2, .int x2), (3, .int x3)]) d_Z_isMist_125 rfl ci_1 (Nat.le_of_ble_eq_true rfl) rfl ?_
        refine jm_goto (pc := 128) (tgt := 6) d_Z_isMist_128 (by decide) ?_
        refine jm_sub (L2 := [(0, .ref 59), (1, .int x1), (2, .int x2), (3, .int x3), (4, .int 1), (5, .int (x5 + 1))]) [4, 5, 6, 7, 1, 0] rfl ?_
        exact ih x1 x2 x3 1 (x5 + 1)
def s_Z_isMist (s : jm_M) (a0 : Int32) (a1 : Int32) (a2 : Int32) : Option Int32 := s_Z_isMist_L6 s 5000 a0 a1 a2 0 0
set_option maxRecDepth 100000 in
set_option maxHeartbeats 4000000 in
theorem s_Z_isMist_ok (s : jm_M) (a0 : Int32) (a1 : Int32) (a2 : Int32) : jm_Sim mY_Z_isMist 0 0 0 [(0, .ref 59), (1, .int a0), (2, .int a1), (3, .int a2)] [] 78 mr_154 s (s_Z_isMist s a0 a1 a2) (jm_rI 78 mr_154 s) := by
  unfold s_Z_isMist
  refine jm_iconst (pc := 0) (v := 0) d_Z_isMist_0 ci_0 ?_
  refine jm_istore (pc := 1) (L2 := [(4, .int 0), (0, .ref 59), (1, .int a0), (2, .int a1), (3, .int a2)]) d_Z_isMist_1 (Nat.le_of_ble_eq_true rfl) rfl ?_
  refine jm_iconst (pc := 3) (v := 0) d_Z_isMist_3 ci_0 ?_
  refine jm_istore (pc := 4) (L2 := [(5, .int 0), (4, .int 0), (0, .ref 59), (1, .int a0), (2, .int a1), (3, .int a2)]) d_Z_isMist_4 (Nat.le_of_ble_eq_true rfl) rfl ?_
  refine jm_sub (L2 := [(0, .ref 59), (1, .int a0), (2, .int a1), (3, .int a2), (4, .int 0), (5, .int 0)]) [2, 3, 4, 5, 1, 0] rfl ?_
  exact s_Z_isMist_L6_ok s 5000 a0 a1 a2 0 0
theorem d_Z_held_0 : decode (jm_cd mY_Z_held) 0 = .ok (.iload_n 2, 1) := by decide +kernel
theorem d_Z_held_1 : decode (jm_cd mY_Z_held) 1 = .ok (.aload_n 0, 1) := by decide +kernel
theorem d_Z_held_2 : decode (jm_cd mY_Z_held) 2 = .ok (.getfield 25, 3) := by decide +kernel
theorem d_Z_held_5 : decode (jm_cd mY_Z_held) 5 = .ok (.iload_n 1, 1) := by decide +kernel
theorem d_Z_held_6 : decode (jm_cd mY_Z_held) 6 = .ok (.iaload, 1) := by decide +kernel
theorem d_Z_held_7 : decode (jm_cd mY_Z_held) 7 = .ok (.isub, 1) := by decide +kernel
theorem d_Z_held_8 : decode (jm_cd mY_Z_held) 8 = .ok (.iconst 1, 1) := by decide +kernel
theorem d_Z_held_9 : decode (jm_cd mY_Z_held) 9 = .ok (.iadd, 1) := by decide +kernel
theorem d_Z_held_10 : decode (jm_cd mY_Z_held) 10 = .ok (.ifCond .ge 5, 3) := by decide +kernel
theorem d_Z_held_13 : decode (jm_cd mY_Z_held) 13 = .ok (.iconst 0, 1) := by decide +kernel
theorem d_Z_held_14 : decode (jm_cd mY_Z_held) 14 = .ok (.ireturn, 1) := by decide +kernel
theorem d_Z_held_15 : decode (jm_cd mY_Z_held) 15 = .ok (.iconst 0, 1) := by decide +kernel
theorem d_Z_held_16 : decode (jm_cd mY_Z_held) 16 = .ok (.istore_n 3, 1) := by decide +kernel
theorem d_Z_held_17 : decode (jm_cd mY_Z_held) 17 = .ok (.iconst 0, 1) := by decide +kernel
theorem d_Z_held_18 : decode (jm_cd mY_Z_held) 18 = .ok (.istore 4, 2) := by decide +kernel
theorem d_Z_held_20 : decode (jm_cd mY_Z_held) 20 = .ok (.iload 4, 2) := by decide +kernel
theorem d_Z_held_22 : decode (jm_cd mY_Z_held) 22 = .ok (.aload_n 0, 1) := by decide +kernel
theorem d_Z_held_23 : decode (jm_cd mY_Z_held) 23 = .ok (.getfield 13, 3) := by decide +kernel
theorem d_Z_held_26 : decode (jm_cd mY_Z_held) 26 = .ok (.iconst 0, 1) := by decide +kernel
theorem d_Z_held_27 : decode (jm_cd mY_Z_held) 27 = .ok (.iaload, 1) := by decide +kernel
theorem d_Z_held_28 : decode (jm_cd mY_Z_held) 28 = .ok (.if_icmp .ge 98, 3) := by decide +kernel
theorem d_Z_held_31 : decode (jm_cd mY_Z_held) 31 = .ok (.aload_n 0, 1) := by decide +kernel
theorem d_Z_held_32 : decode (jm_cd mY_Z_held) 32 = .ok (.getfield 19, 3) := by decide +kernel
theorem d_Z_held_35 : decode (jm_cd mY_Z_held) 35 = .ok (.iload_n 1, 1) := by decide +kernel
theorem d_Z_held_36 : decode (jm_cd mY_Z_held) 36 = .ok (.iaload, 1) := by decide +kernel
theorem d_Z_held_37 : decode (jm_cd mY_Z_held) 37 = .ok (.iload 4, 2) := by decide +kernel
theorem d_Z_held_39 : decode (jm_cd mY_Z_held) 39 = .ok (.invokestatic 99, 3) := by decide +kernel
theorem d_Z_held_42 : decode (jm_cd mY_Z_held) 42 = .ok (.istore 5, 2) := by decide +kernel
theorem d_Z_held_44 : decode (jm_cd mY_Z_held) 44 = .ok (.iload_n 2, 1) := by decide +kernel
theorem d_Z_held_45 : decode (jm_cd mY_Z_held) 45 = .ok (.aload_n 0, 1) := by decide +kernel
theorem d_Z_held_46 : decode (jm_cd mY_Z_held) 46 = .ok (.getfield 25, 3) := by decide +kernel
theorem d_Z_held_49 : decode (jm_cd mY_Z_held) 49 = .ok (.iload_n 1, 1) := by decide +kernel
theorem d_Z_held_50 : decode (jm_cd mY_Z_held) 50 = .ok (.iaload, 1) := by decide +kernel
theorem d_Z_held_51 : decode (jm_cd mY_Z_held) 51 = .ok (.isub, 1) := by decide +kernel
theorem d_Z_held_52 : decode (jm_cd mY_Z_held) 52 = .ok (.iconst 1, 1) := by decide +kernel
theorem d_Z_held_53 : decode (jm_cd mY_Z_held) 53 = .ok (.iadd, 1) := by decide +kernel
theorem d_Z_held_54 : decode (jm_cd mY_Z_held) 54 = .ok (.istore 6, 2) := by decide +kernel
theorem d_Z_held_56 : decode (jm_cd mY_Z_held) 56 = .ok (.iload 6, 2) := by decide +kernel
theorem d_Z_held_58 : decode (jm_cd mY_Z_held) 58 = .ok (.iload_n 2, 1) := by decide +kernel
theorem d_Z_held_59 : decode (jm_cd mY_Z_held) 59 = .ok (.if_icmp .gt 48, 3) := by decide +kernel
theorem d_Z_held_62 : decode (jm_cd mY_Z_held) 62 = .ok (.iload 5, 2) := by decide +kernel
theorem d_Z_held_64 : decode (jm_cd mY_Z_held) 64 = .ok (.ifCond .eq 43, 3) := by decide +kernel
theorem d_Z_held_67 : decode (jm_cd mY_Z_held) 67 = .ok (.aload_n 0, 1) := by decide +kernel
theorem d_Z_held_68 : decode (jm_cd mY_Z_held) 68 = .ok (.getfield 52, 3) := by decide +kernel
theorem d_Z_held_71 : decode (jm_cd mY_Z_held) 71 = .ok (.iload 6, 2) := by decide +kernel
theorem d_Z_held_73 : decode (jm_cd mY_Z_held) 73 = .ok (.iaload, 1) := by decide +kernel
theorem d_Z_held_74 : decode (jm_cd mY_Z_held) 74 = .ok (.iload 4, 2) := by decide +kernel
theorem d_Z_held_76 : decode (jm_cd mY_Z_held) 76 = .ok (.invokestatic 99, 3) := by decide +kernel
theorem d_Z_held_79 : decode (jm_cd mY_Z_held) 79 = .ok (.ifCond .eq 19, 3) := by decide +kernel
theorem d_Z_held_82 : decode (jm_cd mY_Z_held) 82 = .ok (.aload_n 0, 1) := by decide +kernel
theorem d_Z_held_83 : decode (jm_cd mY_Z_held) 83 = .ok (.iload_n 1, 1) := by decide +kernel
theorem d_Z_held_84 : decode (jm_cd mY_Z_held) 84 = .ok (.iload 4, 2) := by decide +kernel
theorem d_Z_held_86 : decode (jm_cd mY_Z_held) 86 = .ok (.iload 6, 2) := by decide +kernel
theorem d_Z_held_88 : decode (jm_cd mY_Z_held) 88 = .ok (.invokevirtual 149, 3) := by decide +kernel
theorem d_Z_held_91 : decode (jm_cd mY_Z_held) 91 = .ok (.ifCond .ne 7, 3) := by decide +kernel
theorem d_Z_held_94 : decode (jm_cd mY_Z_held) 94 = .ok (.iconst 1, 1) := by decide +kernel
theorem d_Z_held_95 : decode (jm_cd mY_Z_held) 95 = .ok (.goto 4, 3) := by decide +kernel
theorem d_Z_held_98 : decode (jm_cd mY_Z_held) 98 = .ok (.iconst 0, 1) := by decide +kernel
theorem d_Z_held_99 : decode (jm_cd mY_Z_held) 99 = .ok (.istore 5, 2) := by decide +kernel
theorem d_Z_held_101 : decode (jm_cd mY_Z_held) 101 = .ok (.iinc 6 1, 3) := by decide +kernel
theorem d_Z_held_104 : decode (jm_cd mY_Z_held) 104 = .ok (.goto (-48), 3) := by decide +kernel
theorem d_Z_held_107 : decode (jm_cd mY_Z_held) 107 = .ok (.iload_n 3, 1) := by decide +kernel
theorem d_Z_held_108 : decode (jm_cd mY_Z_held) 108 = .ok (.iload 5, 2) := by decide +kernel
theorem d_Z_held_110 : decode (jm_cd mY_Z_held) 110 = .ok (.ifCond .eq 7, 3) := by decide +kernel
theorem d_Z_held_113 : decode (jm_cd mY_Z_held) 113 = .ok (.iconst 1, 1) := by decide +kernel
theorem d_Z_held_114 : decode (jm_cd mY_Z_held) 114 = .ok (.goto 4, 3) := by decide +kernel
theorem d_Z_held_117 : decode (jm_cd mY_Z_held) 117 = .ok (.iconst 0, 1) := by decide +kernel
theorem d_Z_held_118 : decode (jm_cd mY_Z_held) 118 = .ok (.iadd, 1) := by decide +kernel
theorem d_Z_held_119 : decode (jm_cd mY_Z_held) 119 = .ok (.istore_n 3, 1) := by decide +kernel
theorem d_Z_held_120 : decode (jm_cd mY_Z_held) 120 = .ok (.iinc 4 1, 3) := by decide +kernel
theorem d_Z_held_123 : decode (jm_cd mY_Z_held) 123 = .ok (.goto (-103), 3) := by decide +kernel
theorem d_Z_held_126 : decode (jm_cd mY_Z_held) 126 = .ok (.iload_n 3, 1) := by decide +kernel
theorem d_Z_held_127 : decode (jm_cd mY_Z_held) 127 = .ok (.aload_n 0, 1) := by decide +kernel
theorem d_Z_held_128 : decode (jm_cd mY_Z_held) 128 = .ok (.getfield 22, 3) := by decide +kernel
theorem d_Z_held_131 : decode (jm_cd mY_Z_held) 131 = .ok (.iload_n 1, 1) := by decide +kernel
theorem d_Z_held_132 : decode (jm_cd mY_Z_held) 132 = .ok (.iaload, 1) := by decide +kernel
theorem d_Z_held_133 : decode (jm_cd mY_Z_held) 133 = .ok (.if_icmp .lt 7, 3) := by decide +kernel
theorem d_Z_held_136 : decode (jm_cd mY_Z_held) 136 = .ok (.iconst 1, 1) := by decide +kernel
theorem d_Z_held_137 : decode (jm_cd mY_Z_held) 137 = .ok (.goto 4, 3) := by decide +kernel
theorem d_Z_held_140 : decode (jm_cd mY_Z_held) 140 = .ok (.iconst 0, 1) := by decide +kernel
theorem d_Z_held_141 : decode (jm_cd mY_Z_held) 141 = .ok (.ireturn, 1) := by decide +kernel
def s_Z_held_J107 (s : jm_M) (k15 : Int32 → Int32 → Int32 → Int32 → Option Int32) (x1 : Int32) (x2 : Int32) (x3 : Int32) (x4 : Int32) (x5 : Int32) : Option Int32 := (if x5 = 0 then jm_vi (x3 + 0) (fun v8 => k15 x1 x2 v8 (x4 + 1)) else jm_vi (x3 + 1) (fun v9 => k15 x1 x2 v9 (x4 + 1)))
set_option maxRecDepth 100000 in
set_option maxHeartbeats 4000000 in
theorem s_Z_held_J107_ok (s : jm_M) {k15 : Int32 → Int32 → Int32 → Int32 → Option Int32} (hk15 : ∀ (x1 : Int32) (x2 : Int32) (x3 : Int32) (x4 : Int32), jm_Sim mY_Z_held 0 0 20 [(0, .ref 59), (1, .int x1), (2, .int x2), (3, .int x3), (4, .int x4)] [] 78 mr_154 s (k15 x1 x2 x3 x4) (jm_rI 78 mr_154 s)) (x1 : Int32) (x2 : Int32) (x3 : Int32) (x4 : Int32) (x5 : Int32) : jm_Sim mY_Z_held 0 0 107 [(0, .ref 59), (1, .int x1), (2, .int x2), (3, .int x3), (4, .int x4), (5, .int x5)] [] 78 mr_154 s (s_Z_held_J107 s k15 x1 x2 x3 x4 x5) (jm_rI 78 mr_154 s) := by
  unfold s_Z_held_J107
  refine jm_iload_n (pc := 107) (q := 3) (x := x3) d_Z_held_107 rfl ?_
  refine jm_iload (pc := 108) (q := 5) (x := x5) d_Z_held_108 rfl ?_
  refine jm_if_eq (pc := 110) (tgt := 117) d_Z_held_110 (by decide) ?_ ?_
  · refine jm_iconst (pc := 117) (v := 0) d_Z_held_117 ci_0 ?_
    refine jm_iadd (pc := 118) d_Z_held_118 ?_
    refine jm_nvi (fun v8 => ?_)
    refine jm_istore_n (pc := 119) (i := 3) (L2 := [(3, .int v8), (0, .ref 59), (1, .int x1), (2, .int x2), (4, .int x4), (5, .int x5)]) d_Z_held_119 rfl (Nat.le_of_ble_eq_true rfl) rfl ?_
    refine jm_iinc (pc := 120) (q := 4) (x := x4) (v := 1) (L2 := [(4, .int (x4 + 1)), (3, .int v8), (0, .ref 59), (1, .int x1), (2, .int x2), (5, .int x5)]) d_Z_held_120 rfl ci_1 (Nat.le_of_ble_eq_true rfl) rfl ?_
    refine jm_goto (pc := 123) (tgt := 20) d_Z_held_123 (by decide) ?_
    refine jm_sub (L2 := [(0, .ref 59), (1, .int x1), (2, .int x2), (3, .int v8), (4, .int (x4 + 1))]) [2, 3, 4, 1, 0] rfl ?_
    exact hk15 x1 x2 v8 (x4 + 1)
  · refine jm_iconst (pc := 113) (v := 1) d_Z_held_113 ci_1 ?_
    refine jm_goto (pc := 114) (tgt := 118) d_Z_held_114 (by decide) ?_
    refine jm_iadd (pc := 118) d_Z_held_118 ?_
    refine jm_nvi (fun v9 => ?_)
    refine jm_istore_n (pc := 119) (i := 3) (L2 := [(3, .int v9), (0, .ref 59), (1, .int x1), (2, .int x2), (4, .int x4), (5, .int x5)]) d_Z_held_119 rfl (Nat.le_of_ble_eq_true rfl) rfl ?_
    refine jm_iinc (pc := 120) (q := 4) (x := x4) (v := 1) (L2 := [(4, .int (x4 + 1)), (3, .int v9), (0, .ref 59), (1, .int x1), (2, .int x2), (5, .int x5)]) d_Z_held_120 rfl ci_1 (Nat.le_of_ble_eq_true rfl) rfl ?_
    refine jm_goto (pc := 123) (tgt := 20) d_Z_held_123 (by decide) ?_
    refine jm_sub (L2 := [(0, .ref 59), (1, .int x1), (2, .int x2), (3, .int v9), (4, .int (x4 + 1))]) [2, 3, 4, 1, 0] rfl ?_
    exact hk15 x1 x2 v9 (x4 + 1)
def s_Z_held_L56 (s : jm_M) (k15 : Int32 → Int32 → Int32 → Int32 → Option Int32) : Nat → Int32 → Int32 → Int32 → Int32 → Int32 → Int32 → Option Int32
  | 0, _, _, _, _, _, _ => none
  | n + 1, x1, x2, x3, x4, x5, x6 => (if x2 < x6 then s_Z_held_J107 s k15 x1 x2 x3 x4 x5 else (if x5 = 0 then s_Z_held_J107 s k15 x1 x2 x3 x4 x5 else jm_ldi s 74 60 x6 (fun v10 => jm_bd (s_Z_has s v10 x4) (fun v11 => (if v11 = 0 then s_Z_held_L56 s k15 n x1 x2 x3 x4 0 (x6 + 1) else jm_bd (s_Z_isMist s x1 x4 x6) (fun v12 => (if v12 = 0 then s_Z_held_L56 s k15 n x1 x2 x3 x4 1 (x6 + 1) else s_Z_held_L56 s k15 n x1 x2 x3 x4 0 (x6 + 1))))))))
set_option maxRecDepth 100000 in
set_option maxHeartbeats 4000000 in
theorem s_Z_held_L56_ok (s : jm_M) {k15 : Int32 → Int32 → Int32 → Int32 → Option Int32} (hk15 : ∀ (x1 : Int32) (x2 : Int32) (x3 : Int32) (x4 : Int32), jm_Sim mY_Z_held 0 0 20 [(0, .ref 59), (1, .int x1), (2, .int x2), (3, .int x3), (4, .int x4)] [] 78 mr_154 s (k15 x1 x2 x3 x4) (jm_rI 78 mr_154 s)) : ∀ (n : Nat) (x1 : Int32) (x2 : Int32) (x3 : Int32) (x4 : Int32) (x5 : Int32) (x6 : Int32), jm_Sim mY_Z_held 0 0 56 [(0, .ref 59), (1, .int x1), (2, .int x2), (3, .int x3), (4, .int x4), (5, .int x5), (6, .int x6)] [] 78 mr_154 s (s_Z_held_L56 s k15 n x1 x2 x3 x4 x5 x6) (jm_rI 78 mr_154 s) := by
  intro n
  induction n with
  | zero => intro x1 x2 x3 x4 x5 x6; exact jm_none
  | succ n ih =>
    intro x1 x2 x3 x4 x5 x6
    rw [s_Z_held_L56]
    refine jm_iload (pc := 56) (q := 6) (x := x6) d_Z_held_56 rfl ?_
    refine jm_iload_n (pc := 58) (q := 2) (x := x2) d_Z_held_58 rfl ?_
    refine jm_icmp_gt (pc := 59) (tgt := 107) d_Z_held_59 (by decide) ?_ ?_
    · refine jm_sub (L2 := [(0, .ref 59), (1, .int x1), (2, .int x2), (3, .int x3), (4, .int x4), (5, .int x5)]) [0, 1, 2, 3, 4, 5] rfl ?_
      exact s_Z_held_J107_ok s hk15 x1 x2 x3 x4 x5
    · refine jm_iload (pc := 62) (q := 5) (x := x5) d_Z_held_62 rfl ?_
      refine jm_if_eq (pc := 64) (tgt := 107) d_Z_held_64 (by decide) ?_ ?_
      · refine jm_sub (L2 := [(0, .ref 59), (1, .int x1), (2, .int x2), (3, .int x3), (4, .int x4), (5, .int x5)]) [0, 1, 2, 3, 4, 5] rfl ?_
        exact s_Z_held_J107_ok s hk15 x1 x2 x3 x4 x5
      · refine jm_aload_n (pc := 67) (q := 0) (x := 59) d_Z_held_67 rfl ?_
        refine jm_gr (pc := 68) (i := 59) d_Z_held_68 fo_Z_52 sh_59 ge_59 le_59_78 rfl (fun _ => rfl) mr_154_59_20 ge_74 ?_
        refine jm_iload (pc := 71) (q := 6) (x := x6) d_Z_held_71 rfl ?_
        refine jm_iald (pc := 73) d_Z_held_73 sh_74 ge_74 le_74_78 (fun v10 => ?_)
        refine jm_iload (pc := 74) (q := 4) (x := x4) d_Z_held_74 rfl ?_
        refine jm_Sp (pc := 76) (Y' := mY_Z_has) (avs := [.int v10, .int x4]) (rest := []) (s_Z_has_ok s v10 x4) ok_Z_has l0_Z_held__Z_has ml_Z_99 sm_Z_has d_Z_held_76 rfl rfl (Nat.le_of_ble_eq_true rfl) (Nat.le_of_ble_eq_true rfl) (Nat.le_of_ble_eq_true rfl) (Nat.le_of_ble_eq_true rfl) (fun v11 => ?_)
        refine jm_if_eq (pc := 79) (tgt := 98) d_Z_held_79 (by decide) ?_ ?_
        · refine jm_iconst (pc := 98) (v := 0) d_Z_held_98 ci_0 ?_
          refine jm_istore (pc := 99) (L2 := [(5, .int 0), (0, .ref 59), (1, .int x1), (2, .int x2), (3, .int x3), (4, .int x4), (6, .int x6)]) d_Z_held_99 (Nat.le_of_ble_eq_true rfl) rfl ?_
          refine jm_iinc (pc := 101) (q := 6) (x := x6) (v := 1) (L2 := [(6, .int (x6 + 1)), (5, .int 0), (0, .ref 59), (1, .int x1), (2, .int x2), (3, .int x3), (4, .int x4)]) d_Z_held_101 rfl ci_1 (Nat.le_of_ble_eq_true rfl) rfl ?_
          refine jm_goto (pc := 104) (tgt := 56) d_Z_held_104 (by decide) ?_
          refine jm_sub (L2 := [(0, .ref 59), (1, .int x1), (2, .int x2), (3, .int x3), (4, .int x4), (5, .int 0), (6, .int (x6 + 1))]) [2, 3, 4, 5, 6, 1, 0] rfl ?_
          exact ih x1 x2 x3 x4 0 (x6 + 1)
        · refine jm_aload_n (pc := 82) (q := 0) (x := 59) d_Z_held_82 rfl ?_
          refine jm_iload_n (pc := 83) (q := 1) (x := x1) d_Z_held_83 rfl ?_
          refine jm_iload (pc := 84) (q := 4) (x := x4) d_Z_held_84 rfl ?_
          refine jm_iload (pc := 86) (q := 6) (x := x6) d_Z_held_86 rfl ?_
          refine jm_Vp (pc := 88) (Y' := mY_Z_isMist) (i := 59) (avs := [.int x1, .int x4, .int x6]) (rest := []) (s_Z_isMist_ok s x1 x4 x6) ok_Z_isMist l0_Z_held__Z_isMist ml_Z_149 im_Z_isMist se_Z_isMist d_Z_held_88 rfl sh_59 rfl rfl ge_59 le_59_78 rfl (Nat.le_of_ble_eq_true rfl) (Nat.le_of_ble_eq_true rfl) (Nat.le_of_ble_eq_true rfl) (Nat.le_of_ble_eq_true rfl) (fun v12 => ?_)
          refine jm_if_ne (pc := 91) (tgt := 98) d_Z_held_91 (by decide) ?_ ?_
          · refine jm_iconst (pc := 94) (v := 1) d_Z_held_94 ci_1 ?_
            refine jm_goto (pc := 95) (tgt := 99) d_Z_held_95 (by decide) ?_
            refine jm_istore (pc := 99) (L2 := [(5, .int 1), (0, .ref 59), (1, .int x1), (2, .int x2), (3, .int x3), (4, .int x4), (6, .int x6)]) d_Z_held_99 (Nat.le_of_ble_eq_true rfl) rfl ?_
            refine jm_iinc (pc := 101) (q := 6) (x := x6) (v := 1) (L2 := [(6, .int (x6 + 1)), (5, .int 1), (0, .ref 59), (1, .int x1), (2, .int x2), (3, .int x3), (4, .int x4)]) d_Z_held_101 rfl ci_1 (Nat.le_of_ble_eq_true rfl) rfl ?_
            refine jm_goto (pc := 104) (tgt := 56) d_Z_held_104 (by decide) ?_
            refine jm_sub (L2 := [(0, .ref 59), (1, .int x1), (2, .int x2), (3, .int x3), (4, .int x4), (5, .int 1), (6, .int (x6 + 1))]) [2, 3, 4, 5, 6, 1, 0] rfl ?_
            exact ih x1 x2 x3 x4 1 (x6 + 1)
          · refine jm_iconst (pc := 98) (v := 0) d_Z_held_98 ci_0 ?_
            refine jm_istore (pc := 99) (L2 := [(5, .int 0), (0, .ref 59), (1, .int x1), (2, .int x2), (3, .int x3), (4, .int x4), (6, .int x6)]) d_Z_held_99 (Nat.le_of_ble_eq_true rfl) rfl ?_
            refine jm_iinc (pc := 101) (q := 6) (x := x6) (v := 1) (L2 := [(6, .int (x6 + 1)), (5, .int 0), (0, .ref 59), (1, .int x1), (2, .int x2), (3, .int x3), (4, .int x4)]) d_Z_held_101 rfl ci_1 (Nat.le_of_ble_eq_true rfl) rfl ?_
            refine jm_goto (pc := 104) (tgt := 56) d_Z_held_104 (by decide) ?_
            refine jm_sub (L2 := [(0, .ref 59), (1, .int x1), (2, .int x2), (3, .int x3), (4, .int x4), (5, .int 0), (6, .int (x6 + 1))]) [2, 3, 4, 5, 6, 1, 0] rfl ?_
            exact ih x1 x2 x3 x4 0 (x6 + 1)
def s_Z_held_L20 (s : jm_M) : Nat → Int32 → Int32 → Int32 → Int32 → Option Int32
  | 0, _, _, _, _ => none
  | n + 1, x1, x2, x3, x4 => jm_ldi s 61 4 0 (fun v2 => (if v2 ≤ x4 then jm_ldi s 64 40 x1 (fun v3 => (if x3 < v3 then (some 0) else (some 1))) else jm_ldi s 63 40 x1 (fun v4 => jm_bd (s_Z_has s v4 x4) (fun v5 => jm_ldi s 65 40 x1 (fun v6 => jm_vi ((x2 - v6) + 1) (fun v7 => s_Z_held_L56 s (s_Z_held_L20 s n) 5000 x1 x2 x3 x4 v5 v7))))))
set_option maxRecDepth 100000 in
set_option maxHeartbeats 4000000 in
theorem s_Z_held_L20_ok (s : jm_M) : ∀ (n : Nat) (x1 : Int32) (x2 : Int32) (x3 : Int32) (x4 : Int32), jm_Sim mY_Z_held 0 0 20 [(0, .ref 59), (1, .int x1), (2, .int x2), (3, .int x3), (4, .int x4)] [] 78 mr_154 s (s_Z_held_L20 s n x1 x2 x3 x4) (jm_rI 78 mr_154 s) := by
  intro n
  induction n with
  | zero => intro x1 x2 x3 x4; exact jm_none
  | succ n ih =>
    intro x1 x2 x3 x4
    rw [s_Z_held_L20]
    refine jm_iload (pc := 20) (q := 4) (x := x4) d_Z_held_20 rfl ?_
    refine jm_aload_n (pc := 22) (q := 0) (x := 59) d_Z_held_22 rfl ?_
    refine jm_gr (pc := 23) (i := 59) d_Z_held_23 fo_Z_13 sh_59 ge_59 le_59_78 rfl (fun _ => rfl) mr_154_59_2 ge_61 ?_
    refine jm_iconst (pc := 26) (v := 0) d_Z_held_26 ci_0 ?_
    refine jm_iald (pc := 27) d_Z_held_27 sh_61 ge_61 le_61_78 (fun v2 => ?_)
    refine jm_icmp_ge (pc := 28) (tgt := 126) d_Z_held_28 (by decide) ?_ ?_
    · refine jm_iload_n (pc := 126) (q := 3) (x := x3) d_Z_held_126 rfl ?_
      refine jm_aload_n (pc := 127) (q := 0) (x := 59) d_Z_held_127 rfl ?_
      refine jm_gr (pc := 128) (i := 59) d_Z_held_128 fo_Z_22 sh_59 ge_59 le_59_78 rfl (fun _ => rfl) mr_154_59_5 ge_64 ?_
      refine jm_iload_n (pc := 131) (q := 1) (x := x1) d_Z_held_131 rfl ?_
      refine jm_iald (pc := 132) d_Z_held_132 sh_64 ge_64 le_64_78 (fun v3 => ?_)
      refine jm_icmp_lt (pc := 133) (tgt := 140) d_Z_held_133 (by decide) ?_ ?_
      · refine jm_iconst (pc := 140) (v := 0) d_Z_held_140 ci_0 ?_
        exact jm_iret (pc := 141) (x := 0) d_Z_held_141 rfl (by decide) rfl rfl rfl
      · refine jm_iconst (pc := 136) (v := 1) d_Z_held_136 ci_1 ?_
        refine jm_goto (pc := 137) (tgt := 141) d_Z_held_137 (by decide) ?_
        exact jm_iret (pc := 141) (x := 1) d_Z_held_141 rfl (by decide) rfl rfl rfl
    · refine jm_aload_n (pc := 31) (q := 0) (x := 59) d_Z_held_31 rfl ?_
      refine jm_gr (pc := 32) (i := 59) d_Z_held_32 fo_Z_19 sh_59 ge_59 le_59_78 rfl (fun _ => rfl) mr_154_59_4 ge_63 ?_
      refine jm_iload_n (pc := 35) (q := 1) (x := x1) d_Z_held_35 rfl ?_
      refine jm_iald (pc := 36) d_Z_held_36 sh_63 ge_63 le_63_78 (fun v4 => ?_)
      refine jm_iload (pc := 37) (q := 4) (x := x4) d_Z_held_37 rfl ?_
      refine jm_Sp (pc := 39) (Y' := mY_Z_has) (avs := [.int v4, .int x4]) (rest := []) (s_Z_has_ok s v4 x4) ok_Z_has l0_Z_held__Z_has ml_Z_99 sm_Z_has d_Z_held_39 rfl rfl (Nat.le_of_ble_eq_true rfl) (Nat.le_of_ble_eq_true rfl) (Nat.le_of_ble_eq_true rfl) (Nat.le_of_ble_eq_true rfl) (fun v5 => ?_)
      refine jm_istore (pc := 42) (L2 := [(5, .int v5), (0, .ref 59), (1, .int x1), (2, .int x2), (3, .int x3), (4, .int x4)]) d_Z_held_42 (Nat.le_of_ble_eq_true rfl) rfl ?_
      refine jm_iload_n (pc := 44) (q := 3) (x := x2) d_Z_held_44 rfl ?_
      refine jm_aload_n (pc := 45) (q := 1) (x := 59) d_Z_held_45 rfl ?_
      refine jm_gr (pc := 46) (i := 59) d_Z_held_46 fo_Z_25 sh_59 ge_59 le_59_78 rfl (fun _ => rfl) mr_154_59_6 ge_65 ?_
      refine jm_iload_n (pc := 49) (q := 2) (x := x1) d_Z_held_49 rfl ?_
      refine jm_iald (pc := 50) d_Z_held_50 sh_65 ge_65 le_65_78 (fun v6 => ?_)
      refine jm_isub (pc := 51) d_Z_held_51 ?_
      refine jm_iconst (pc := 52) (v := 1) d_Z_held_52 ci_1 ?_
      refine jm_iadd (pc := 53) d_Z_held_53 ?_
      refine jm_nvi (fun v7 => ?_)
      refine jm_istore (pc := 54) (L2 := [(6, .int v7), (5, .int v5), (0, .ref 59), (1, .int x1), (2, .int x2), (3, .int x3), (4, .int x4)]) d_Z_held_54 (Nat.le_of_ble_eq_true rfl) rfl ?_
      refine jm_sub (L2 := [(0, .ref 59), (1, .int x1), (2, .int x2), (3, .int x3), (4, .int x4), (5, .int v5), (6, .int v7)]) [2, 3, 4, 5, 6, 1, 0] rfl ?_
      exact s_Z_held_L56_ok s ih 5000 x1 x2 x3 x4 v5 v7
def s_Z_held (s : jm_M) (a0 : Int32) (a1 : Int32) : Option Int32 := jm_ldi s 65 40 a0 (fun v1 => (if 0 ≤ ((a1 - v1) + 1) then s_Z_held_L20 s 5000 a0 a1 0 0 else (some 0)))
set_option maxRecDepth 100000 in
set_option maxHeartbeats 4000000 in
theorem s_Z_held_ok (s : jm_M) (a0 : Int32) (a1 : Int32) : jm_Sim mY_Z_held 0 0 0 [(0, .ref 59), (1, .int a0), (2, .int a1)] [] 78 mr_154 s (s_Z_held s a0 a1) (jm_rI 78 mr_154 s) := by
  unfold s_Z_held
  refine jm_iload_n (pc := 0) (q := 2) (x := a1) d_Z_held_0 rfl ?_
  refine jm_aload_n (pc := 1) (q := 0) (x := 59) d_Z_held_1 rfl ?_
  refine jm_gr (pc := 2) (i := 59) d_Z_held_2 fo_Z_25 sh_59 ge_59 le_59_78 rfl (fun _ => rfl) mr_154_59_6 ge_65 ?_
  refine jm_iload_n (pc := 5) (q := 1) (x := a0) d_Z_held_5 rfl ?_
  refine jm_iald (pc := 6) d_Z_held_6 sh_65 ge_65 le_65_78 (fun v1 => ?_)
  refine jm_isub (pc := 7) d_Z_held_7 ?_
  refine jm_iconst (pc := 8) (v := 1) d_Z_held_8 ci_1 ?_
  refine jm_iadd (pc := 9) d_Z_held_9 ?_
  refine jm_if_ge (pc := 10) (tgt := 15) d_Z_held_10 (by decide) ?_ ?_
  · refine jm_iconst (pc := 15) (v := 0) d_Z_held_15 ci_0 ?_
    refine jm_istore_n (pc := 16) (i := 3) (L2 := [(3, .int 0), (0, .ref 59), (1, .int a0), (2, .int a1)]) d_Z_held_16 rfl (Nat.le_of_ble_eq_true rfl) rfl ?_
    refine jm_iconst (pc := 17) (v := 0) d_Z_held_17 ci_0 ?_
    refine jm_istore (pc := 18) (L2 := [(4, .int 0), (3, .int 0), (0, .ref 59), (1, .int a0), (2, .int a1)]) d_Z_held_18 (Nat.le_of_ble_eq_true rfl) rfl ?_
    refine jm_sub (L2 := [(0, .ref 59), (1, .int a0), (2, .int a1), (3, .int 0), (4, .int 0)]) [2, 3, 4, 1, 0] rfl ?_
    exact s_Z_held_L20_ok s 5000 a0 a1 0 0
  · refine jm_iconst (pc := 13) (v := 0) d_Z_held_13 ci_0 ?_
    exact jm_iret (pc := 14) (x := 0) d_Z_held_14 rfl (by decide) rfl rfl rfl
theorem d_Z_kindles_0 : decode (jm_cd mY_Z_kindles) 0 = .ok (.aload_n 0, 1) := by decide +kernel
theorem d_Z_kindles_1 : decode (jm_cd mY_Z_kindles) 1 = .ok (.getfield 55, 3) := by decide +kernel
theorem d_Z_kindles_4 : decode (jm_cd mY_Z_kindles) 4 = .ok (.iload_n 1, 1) := by decide +kernel
theorem d_Z_kindles_5 : decode (jm_cd mY_Z_kindles) 5 = .ok (.iaload, 1) := by decide +kernel
theorem d_Z_kindles_6 : decode (jm_cd mY_Z_kindles) 6 = .ok (.ifCond .eq 13, 3) := by decide +kernel
theorem d_Z_kindles_9 : decode (jm_cd mY_Z_kindles) 9 = .ok (.aload_n 0, 1) := by decide +kernel
theorem d_Z_kindles_10 : decode (jm_cd mY_Z_kindles) 10 = .ok (.getfield 16, 3) := by decide +kernel
theorem d_Z_kindles_13 : decode (jm_cd mY_Z_kindles) 13 = .ok (.iload_n 1, 1) := by decide +kernel
theorem d_Z_kindles_14 : decode (jm_cd mY_Z_kindles) 14 = .ok (.iaload, 1) := by decide +kernel
theorem d_Z_kindles_15 : decode (jm_cd mY_Z_kindles) 15 = .ok (.iconst 1, 1) := by decide +kernel
theorem d_Z_kindles_16 : decode (jm_cd mY_Z_kindles) 16 = .ok (.if_icmp .le 5, 3) := by decide +kernel
theorem d_Z_kindles_19 : decode (jm_cd mY_Z_kindles) 19 = .ok (.iconst 0, 1) := by decide +kernel
theorem d_Z_kindles_20 : decode (jm_cd mY_Z_kindles) 20 = .ok (.ireturn, 1) := by decide +kernel
theorem d_Z_kindles_21 : decode (jm_cd mY_Z_kindles) 21 = .ok (.aload_n 0, 1) := by decide +kernel
theorem d_Z_kindles_22 : decode (jm_cd mY_Z_kindles) 22 = .ok (.iload_n 1, 1) := by decide +kernel
theorem d_Z_kindles_23 : decode (jm_cd mY_Z_kindles) 23 = .ok (.invokevirtual 153, 3) := by decide +kernel
theorem d_Z_kindles_26 : decode (jm_cd mY_Z_kindles) 26 = .ok (.ifCond .eq 12, 3) := by decide +kernel
theorem d_Z_kindles_29 : decode (jm_cd mY_Z_kindles) 29 = .ok (.aload_n 0, 1) := by decide +kernel
theorem d_Z_kindles_30 : decode (jm_cd mY_Z_kindles) 30 = .ok (.bipush 108, 2) := by decide +kernel
theorem d_Z_kindles_32 : decode (jm_cd mY_Z_kindles) 32 = .ok (.iload_n 1, 1) := by decide +kernel
theorem d_Z_kindles_33 : decode (jm_cd mY_Z_kindles) 33 = .ok (.iload_n 2, 1) := by decide +kernel
theorem d_Z_kindles_34 : decode (jm_cd mY_Z_kindles) 34 = .ok (.invokevirtual 156, 3) := by decide +kernel
theorem d_Z_kindles_37 : decode (jm_cd mY_Z_kindles) 37 = .ok (.ireturn, 1) := by decide +kernel
theorem d_Z_kindles_38 : decode (jm_cd mY_Z_kindles) 38 = .ok (.iload_n 2, 1) := by decide +kernel
theorem d_Z_kindles_39 : decode (jm_cd mY_Z_kindles) 39 = .ok (.ifCond .eq 14, 3) := by decide +kernel
theorem d_Z_kindles_42 : decode (jm_cd mY_Z_kindles) 42 = .ok (.aload_n 0, 1) := by decide +kernel
theorem d_Z_kindles_43 : decode (jm_cd mY_Z_kindles) 43 = .ok (.bipush 115, 2) := by decide +kernel
theorem d_Z_kindles_45 : decode (jm_cd mY_Z_kindles) 45 = .ok (.iload_n 1, 1) := by decide +kernel
theorem d_Z_kindles_46 : decode (jm_cd mY_Z_kindles) 46 = .ok (.iload_n 2, 1) := by decide +kernel
theorem d_Z_kindles_47 : decode (jm_cd mY_Z_kindles) 47 = .ok (.invokevirtual 156, 3) := by decide +kernel
theorem d_Z_kindles_50 : decode (jm_cd mY_Z_kindles) 50 = .ok (.ifCond .eq 5, 3) := by decide +kernel
theorem d_Z_kindles_53 : decode (jm_cd mY_Z_kindles) 53 = .ok (.iconst 0, 1) := by decide +kernel
theorem d_Z_kindles_54 : decode (jm_cd mY_Z_kindles) 54 = .ok (.ireturn, 1) := by decide +kernel
theorem d_Z_kindles_55 : decode (jm_cd mY_Z_kindles) 55 = .ok (.aload_n 0, 1) := by decide +kernel
theorem d_Z_kindles_56 : decode (jm_cd mY_Z_kindles) 56 = .ok (.getfield 37, 3) := by decide +kernel
theorem d_Z_kindles_59 : decode (jm_cd mY_Z_kindles) 59 = .ok (.iconst 0, 1) := by decide +kernel
theorem d_Z_kindles_60 : decode (jm_cd mY_Z_kindles) 60 = .ok (.iaload, 1) := by decide +kernel
theorem d_Z_kindles_61 : decode (jm_cd mY_Z_kindles) 61 = .ok (.iload_n 1, 1) := by decide +kernel
theorem d_Z_kindles_62 : decode (jm_cd mY_Z_kindles) 62 = .ok (.invokestatic 99, 3) := by decide +kernel
theorem d_Z_kindles_65 : decode (jm_cd mY_Z_kindles) 65 = .ok (.ifCond .eq 31, 3) := by decide +kernel
theorem d_Z_kindles_68 : decode (jm_cd mY_Z_kindles) 68 = .ok (.iload_n 2, 1) := by decide +kernel
theorem d_Z_kindles_69 : decode (jm_cd mY_Z_kindles) 69 = .ok (.iconst 1, 1) := by decide +kernel
theorem d_Z_kindles_70 : decode (jm_cd mY_Z_kindles) 70 = .ok (.isub, 1) := by decide +kernel
theorem d_Z_kindles_71 : decode (jm_cd mY_Z_kindles) 71 = .ok (.i2l, 1) := by decide +kernel
theorem d_Z_kindles_72 : decode (jm_cd mY_Z_kindles) 72 = .ok (.aload_n 0, 1) := by decide +kernel
theorem d_Z_kindles_73 : decode (jm_cd mY_Z_kindles) 73 = .ok (.getfield 37, 3) := by decide +kernel
theorem d_Z_kindles_76 : decode (jm_cd mY_Z_kindles) 76 = .ok (.iconst 1, 1) := by decide +kernel
theorem d_Z_kindles_77 : decode (jm_cd mY_Z_kindles) 77 = .ok (.iaload, 1) := by decide +kernel
theorem d_Z_kindles_78 : decode (jm_cd mY_Z_kindles) 78 = .ok (.i2l, 1) := by decide +kernel
theorem d_Z_kindles_79 : decode (jm_cd mY_Z_kindles) 79 = .ok (.aload_n 0, 1) := by decide +kernel
theorem d_Z_kindles_80 : decode (jm_cd mY_Z_kindles) 80 = .ok (.getfield 37, 3) := by decide +kernel
theorem d_Z_kindles_83 : decode (jm_cd mY_Z_kindles) 83 = .ok (.iconst 2, 1) := by decide +kernel
theorem d_Z_kindles_84 : decode (jm_cd mY_Z_kindles) 84 = .ok (.iaload, 1) := by decide +kernel
theorem d_Z_kindles_85 : decode (jm_cd mY_Z_kindles) 85 = .ok (.i2l, 1) := by decide +kernel
theorem d_Z_kindles_86 : decode (jm_cd mY_Z_kindles) 86 = .ok (.invokestatic 69, 3) := by decide +kernel
theorem d_Z_kindles_89 : decode (jm_cd mY_Z_kindles) 89 = .ok (.ifCond .eq 7, 3) := by decide +kernel
theorem d_Z_kindles_92 : decode (jm_cd mY_Z_kindles) 92 = .ok (.iconst 1, 1) := by decide +kernel
theorem d_Z_kindles_93 : decode (jm_cd mY_Z_kindles) 93 = .ok (.goto 4, 3) := by decide +kernel
theorem d_Z_kindles_96 : decode (jm_cd mY_Z_kindles) 96 = .ok (.iconst 0, 1) := by decide +kernel
theorem d_Z_kindles_97 : decode (jm_cd mY_Z_kindles) 97 = .ok (.istore_n 3, 1) := by decide +kernel
theorem d_Z_kindles_98 : decode (jm_cd mY_Z_kindles) 98 = .ok (.aload_n 0, 1) := by decide +kernel
theorem d_Z_kindles_99 : decode (jm_cd mY_Z_kindles) 99 = .ok (.getfield 52, 3) := by decide +kernel
theorem d_Z_kindles_102 : decode (jm_cd mY_Z_kindles) 102 = .ok (.iload_n 2, 1) := by decide +kernel
theorem d_Z_kindles_103 : decode (jm_cd mY_Z_kindles) 103 = .ok (.iconst 1, 1) := by decide +kernel
theorem d_Z_kindles_104 : decode (jm_cd mY_Z_kindles) 104 = .ok (.isub, 1) := by decide +kernel
theorem d_Z_kindles_105 : decode (jm_cd mY_Z_kindles) 105 = .ok (.iaload, 1) := by decide +kernel
theorem d_Z_kindles_106 : decode (jm_cd mY_Z_kindles) 106 = .ok (.iload_n 1, 1) := by decide +kernel
theorem d_Z_kindles_107 : decode (jm_cd mY_Z_kindles) 107 = .ok (.invokestatic 99, 3) := by decide +kernel
theorem d_Z_kindles_110 : decode (jm_cd mY_Z_kindles) 110 = .ok (.ifCond .ne 18, 3) := by decide +kernel
theorem d_Z_kindles_113 : decode (jm_cd mY_Z_kindles) 113 = .ok (.iload_n 3, 1) := by decide +kernel
theorem d_Z_kindles_114 : decode (jm_cd mY_Z_kindles) 114 = .ok (.ifCond .ne 14, 3) := by decide +kernel
theorem d_Z_kindles_117 : decode (jm_cd mY_Z_kindles) 117 = .ok (.aload_n 0, 1) := by decide +kernel
theorem d_Z_kindles_118 : decode (jm_cd mY_Z_kindles) 118 = .ok (.iload_n 1, 1) := by decide +kernel
theorem d_Z_kindles_119 : decode (jm_cd mY_Z_kindles) 119 = .ok (.iload_n 2, 1) := by decide +kernel
theorem d_Z_kindles_120 : decode (jm_cd mY_Z_kindles) 120 = .ok (.iconst 1, 1) := by decide +kernel
theorem d_Z_kindles_121 : decode (jm_cd mY_Z_kindles) 121 = .ok (.isub, 1) := by decide +kernel
theorem d_Z_kindles_122 : decode (jm_cd mY_Z_kindles) 122 = .ok (.invokevirtual 159, 3) := by decide +kernel
theorem d_Z_kindles_125 : decode (jm_cd mY_Z_kindles) 125 = .ok (.ifCond .eq 7, 3) := by decide +kernel
theorem d_Z_kindles_128 : decode (jm_cd mY_Z_kindles) 128 = .ok (.iconst 1, 1) := by decide +kernel
theorem d_Z_kindles_129 : decode (jm_cd mY_Z_kindles) 129 = .ok (.goto 4, 3) := by decide +kernel
theorem d_Z_kindles_132 : decode (jm_cd mY_Z_kindles) 132 = .ok (.iconst 0, 1) := by decide +kernel
theorem d_Z_kindles_133 : decode (jm_cd mY_Z_kindles) 133 = .ok (.ireturn, 1) := by decide +kernel
def s_Z_kindles_J97 (s : jm_M) (x1 : Int32) (x2 : Int32) (y0 : Int32) : Option Int32 := jm_ldi s 74 60 (x2 - 1) (fun v7 => jm_bd (s_Z_has s v7 x1) (fun v8 => (if v8 = 0 then (if y0 = 0 then jm_bd (s_Z_held s x1 (x2 - 1)) (fun v9 => (if v9 = 0 then (some 0) else (some 1))) else (some 1)) else (some 1))))
set_option maxRecDepth 100000 in
set_option maxHeartbeats 4000000 in
theorem s_Z_kindles_J97_ok (s : jm_M) (x1 : Int32) (x2 : Int32) (y0 : Int32) : jm_Sim mY_Z_kindles 0 0 97 [(0, .ref 59), (1, .int x1), (2, .int x2)] [.int y0] 78 mr_154 s (s_Z_kindles_J97 s x1 x2 y0) (jm_rI 78 mr_154 s) := by
  unfold s_Z_kindles_J97
  refine jm_istore_n (pc := 97) (i := 3) (L2 := [(3, .int y0), (0, .ref 59), (1, .int x1), (2, .int x2)]) d_Z_kindles_97 rfl (Nat.le_of_ble_eq_true rfl) rfl ?_
  refine jm_aload_n (pc := 98) (q := 1) (x := 59) d_Z_kindles_98 rfl ?_
  refine jm_gr (pc := 99) (i := 59) d_Z_kindles_99 fo_Z_52 sh_59 ge_59 le_59_78 rfl (fun _ => rfl) mr_154_59_20 ge_74 ?_
  refine jm_iload_n (pc := 102) (q := 3) (x := x2) d_Z_kindles_102 rfl ?_
  refine jm_iconst (pc := 103) (v := 1) d_Z_kindles_103 ci_1 ?_
  refine jm_isub (pc := 104) d_Z_kindles_104 ?_
  refine jm_iald (pc := 105) d_Z_kindles_105 sh_74 ge_74 le_74_78 (fun v7 => ?_)
  refine jm_iload_n (pc := 106) (q := 2) (x := x1) d_Z_kindles_106 rfl ?_
  refine jm_Sp (pc := 107) (Y' := mY_Z_has) (avs := [.int v7, .int x1]) (rest := []) (s_Z_has_ok s v7 x1) ok_Z_has l0_Z_kindles__Z_has ml_Z_99 sm_Z_has d_Z_kindles_107 rfl rfl (Nat.le_of_ble_eq_true rfl) (Nat.le_of_ble_eq_true rfl) (Nat.le_of_ble_eq_true rfl) (Nat.le_of_ble_eq_true rfl) (fun v8 => ?_)
  refine jm_if_ne (pc := 110) (tgt := 128) d_Z_kindles_110 (by decide) ?_ ?_
  · refine jm_iload_n (pc := 113) (q := 0) (x := y0) d_Z_kindles_113 rfl ?_
    refine jm_if_ne (pc := 114) (tgt := 128) d_Z_kindles_114 (by decide) ?_ ?_
    · refine jm_aload_n (pc := 117) (q := 1) (x := 59) d_Z_kindles_117 rfl ?_
      refine jm_iload_n (pc := 118) (q := 2) (x := x1) d_Z_kindles_118 rfl ?_
      refine jm_iload_n (pc := 119) (q := 3) (x := x2) d_Z_kindles_119 rfl ?_
      refine jm_iconst (pc := 120) (v := 1) d_Z_kindles_120 ci_1 ?_
      refine jm_isub (pc := 121) d_Z_kindles_121 ?_
      refine jm_Vp (pc := 122) (Y' := mY_Z_held) (i := 59) (avs := [.int x1, .int (x2 - 1)]) (rest := []) (s_Z_held_ok s x1 (x2 - 1)) ok_Z_held l0_Z_kindles__Z_held ml_Z_159 im_Z_held se_Z_held d_Z_kindles_122 rfl sh_59 rfl rfl ge_59 le_59_78 rfl (Nat.le_of_ble_eq_true rfl) (Nat.le_of_ble_eq_true rfl) (Nat.le_of_ble_eq_true rfl) (Nat.le_of_ble_eq_true rfl) (fun v9 => ?_)
      refine jm_if_eq (pc := 125) (tgt := 132) d_Z_kindles_125 (by decide) ?_ ?_
      · refine jm_iconst (pc := 132) (v := 0) d_Z_kindles_132 ci_0 ?_
        exact jm_iret (pc := 133) (x := 0) d_Z_kindles_133 rfl (by decide) rfl rfl rfl
      · refine jm_iconst (pc := 128) (v := 1) d_Z_kindles_128 ci_1 ?_
        refine jm_goto (pc := 129) (tgt := 133) d_Z_kindles_129 (by decide) ?_
        exact jm_iret (pc := 133) (x := 1) d_Z_kindles_133 rfl (by decide) rfl rfl rfl
    · refine jm_iconst (pc := 128) (v := 1) d_Z_kindles_128 ci_1 ?_
      refine jm_goto (pc := 129) (tgt := 133) d_Z_kindles_129 (by decide) ?_
      exact jm_iret (pc := 133) (x := 1) d_Z_kindles_133 rfl (by decide) rfl rfl rfl
  · refine jm_iconst (pc := 128) (v := 1) d_Z_kindles_128 ci_1 ?_
    refine jm_goto (pc := 129) (tgt := 133) d_Z_kindles_129 (by decide) ?_
    exact jm_iret (pc := 133) (x := 1) d_Z_kindles_133 rfl (by decide) rfl rfl rfl
def s_Z_kindles (s : jm_M) (a0 : Int32) (a1 : Int32) : Option Int32 := jm_ldi s 75 10 a0 (fun v1 => (if v1 = 0 then (some 0) else jm_ldi s 62 40 a0 (fun v2 => (if v2 ≤ 1 then jm_bd (s_Z_isLiar s a0) (fun v3 => (if v3 = 0 then (if a1 = 0 then (some 0) else jm_bd (s_Z_isTold s 115 a0 a1) (fun v4 => (if v4 = 0 then jm_ldi s 69 9 0 (fun v5 => jm_bd (s_Z_has s v5 a0) (fun v6 => (if v6 = 0 then s_Z_kindles_J97 s a0 a1 0 else jm_ldi s 69 9 1 (fun v10 => jm_ldi s 69 9 2 (fun v11 => jm_bd (s_Z_in s ((a1 - 1).toInt64) v10.toInt64 v11.toInt64) (fun v12 => (if v12 = 0 then s_Z_kindles_J97 s a0 a1 0 else s_Z_kindles_J97 s a0 a1 1))))))) else (some 0)))) else jm_bd (s_Z_isTold s 108 a0 a1) (fun v13 => (jm_gb v13 (some v13))))) else (some 0)))))
set_option maxRecDepth 100000 in
set_option maxHeartbeats 4000000 in
theorem s_Z_kindles_ok (s : jm_M) (a0 : Int32) (a1 : Int32) : jm_Sim mY_Z_kindles 0 0 0 [(0, .ref 59), (1, .int a0), (2, .int a1)] [] 78 mr_154 s (s_Z_kindles s a0 a1) (jm_rI 78 mr_154 s) := by
  unfold s_Z_kindles
  refine jm_aload_n (pc := 0) (q := 0) (x := 59) d_Z_kindles_0 rfl ?_
  refine jm_gr (pc := 1) (i := 59) d_Z_kindles_1 fo_Z_55 sh_59 ge_59 le_59_78 rfl (fun _ => rfl) mr_154_59_21 ge_75 ?_
  refine jm_iload_n (pc := 4) (q := 1) (x := a0) d_Z_kindles_4 rfl ?_
  refine jm_iald (pc := 5) d_Z_kindles_5 sh_75 ge_75 le_75_78 (fun v1 => ?_)
  refine jm_if_eq (pc := 6) (tgt := 19) d_Z_kindles_6 (by decide) ?_ ?_
  · refine jm_iconst (pc := 19) (v := 0) d_Z_kindles_19 ci_0 ?_
    exact jm_iret (pc := 20) (x := 0) d_Z_kindles_20 rfl (by decide) rfl rfl rfl
  · refine jm_aload_n (pc := 9) (q := 0) (x := 59) d_Z_kindles_9 rfl ?_
    refine jm_gr (pc := 10) (i := 59) d_Z_kindles_10 fo_Z_16 sh_59 ge_59 le_59_78 rfl (fun _ => rfl) mr_154_59_3 ge_62 ?_
    refine jm_iload_n (pc := 13) (q := 1) (x := a0) d_Z_kindles_13 rfl ?_
    refine jm_iald (pc := 14) d_Z_kindles_14 sh_62 ge_62 le_62_78 (fun v2 => ?_)
    refine jm_iconst (pc := 15) (v := 1) d_Z_kindles_15 ci_1 ?_
    refine jm_icmp_le (pc := 16) (tgt := 21) d_Z_kindles_16 (by decide) ?_ ?_
    · refine jm_aload_n (pc := 21) (q := 0) (x := 59) d_Z_kindles_21 rfl ?_
      refine jm_iload_n (pc := 22) (q := 1) (x := a0) d_Z_kindles_22 rfl ?_
      refine jm_Vp (pc := 23) (Y' := mY_Z_isLiar) (i := 59) (avs := [.int a0]) (rest := []) (s_Z_isLiar_ok s a0) ok_Z_isLiar l0_Z_kindles__Z_isLiar ml_Z_153 im_Z_isLiar se_Z_isLiar d_Z_kindles_23 rfl sh_59 rfl rfl ge_59 le_59_78 rfl (Nat.le_of_ble_eq_true rfl) (Nat.le_of_ble_eq_true rfl) (Nat.le_of_ble_eq_true rfl) (Nat.le_of_ble_eq_true rfl) (fun v3 => ?_)
      refine jm_if_eq (pc := 26) (tgt := 38) d_Z_kindles_26 (by decide) ?_ ?_
      · refine jm_iload_n (pc := 38) (q := 2) (x := a1) d_Z_kindles_38 rfl ?_
        refine jm_if_eq (pc := 39) (tgt := 53) d_Z_kindles_39 (by decide) ?_ ?_
        · refine jm_iconst (pc := 53) (v := 0) d_Z_kindles_53 ci_0 ?_
          exact jm_iret (pc := 54) (x := 0) d_Z_kindles_54 rfl (by decide) rfl rfl rfl
        · refine jm_aload_n (pc := 42) (q := 0) (x := 59) d_Z_kindles_42 rfl ?_
          refine jm_bipush (pc := 43) (v := 115) d_Z_kindles_43 cb_115 ?_
          refine jm_iload_n (pc := 45) (q := 1) (x := a0) d_Z_kindles_45 rfl ?_
          refine jm_iload_n (pc := 46) (q := 2) (x := a1) d_Z_kindles_46 rfl ?_
          refine jm_Vp (pc := 47) (Y' := mY_Z_isTold) (i := 59) (avs := [.int 115, .int a0, .int a1]) (rest := []) (s_Z_isTold_ok s 115 a0 a1) ok_Z_isTold l0_Z_kindles__Z_isTold ml_Z_156 im_Z_isTold se_Z_isTold d_Z_kindles_47 rfl sh_59 rfl rfl ge_59 le_59_78 rfl (Nat.le_of_ble_eq_true rfl) (Nat.le_of_ble_eq_true rfl) (Nat.le_of_ble_eq_true rfl) (Nat.le_of_ble_eq_true rfl) (fun v4 => ?_)
          refine jm_if_eq (pc := 50) (tgt := 55) d_Z_kindles_50 (by decide) ?_ ?_
          · refine jm_aload_n (pc := 55) (q := 0) (x := 59) d_Z_kindles_55 rfl ?_
            refine jm_gr (pc := 56) (i := 59) d_Z_kindles_56 fo_Z_37 sh_59 ge_59 le_59_78 rfl (fun _ => rfl) mr_154_59_10 ge_69 ?_
            refine jm_iconst (pc := 59) (v := 0) d_Z_kindles_59 ci_0 ?_
            refine jm_iald (pc := 60) d_Z_kindles_60 sh_69 ge_69 le_69_78 (fun v5 => ?_)
            refine jm_iload_n (pc := 61) (q := 1) (x := a0) d_Z_kindles_61 rfl ?_
            refine jm_Sp (pc := 62) (Y' := mY_Z_has) (avs := [.int v5, .int a0]) (rest := []) (s_Z_has_ok s v5 a0) ok_Z_has l0_Z_kindles__Z_has ml_Z_99 sm_Z_has d_Z_kindles_62 rfl rfl (Nat.le_of_ble_eq_true rfl) (Nat.le_of_ble_eq_true rfl) (Nat.le_of_ble_eq_true rfl) (Nat.le_of_ble_eq_true rfl) (fun v6 => ?_)
            refine jm_if_eq (pc := 65) (tgt := 96) d_Z_kindles_65 (by decide) ?_ ?_
            · refine jm_iconst (pc := 96) (v := 0) d_Z_kindles_96 ci_0 ?_
              exact s_Z_kindles_J97_ok s a0 a1 0
            · refine jm_iload_n (pc := 68) (q := 2) (x := a1) d_Z_kindles_68 rfl ?_
              refine jm_iconst (pc := 69) (v := 1) d_Z_kindles_69 ci_1 ?_
              refine jm_isub (pc := 70) d_Z_kindles_70 ?_
              refine jm_i2l (pc := 71) d_Z_kindles_71 ?_
              refine jm_aload_n (pc := 72) (q := 0) (x := 59) d_Z_kindles_72 rfl ?_
              refine jm_gr (pc := 73) (i := 59) d_Z_kindles_73 fo_Z_37 sh_59 ge_59 le_59_78 rfl (fun _ => rfl) mr_154_59_10 ge_69 ?_
              refine jm_iconst (pc := 76) (v := 1) d_Z_kindles_76 ci_1 ?_
              refine jm_iald (pc := 77) d_Z_kindles_77 sh_69 ge_69 le_69_78 (fun v10 => ?_)
              refine jm_i2l (pc := 78) d_Z_kindles_78 ?_
              refine jm_aload_n (pc := 79) (q := 0) (x := 59) d_Z_kindles_79 rfl ?_
              refine jm_gr (pc := 80) (i := 59) d_Z_kindles_80 fo_Z_37 sh_59 ge_59 le_59_78 rfl (fun _ => rfl) mr_154_59_10 ge_69 ?_
              refine jm_iconst (pc := 83) (v := 2) d_Z_kindles_83 ci_2 ?_
              refine jm_iald (pc := 84) d_Z_kindles_84 sh_69 ge_69 le_69_78 (fun v11 => ?_)
              refine jm_i2l (pc := 85) d_Z_kindles_85 ?_
              refine jm_Sp (pc := 86) (Y' := mY_Z_in) (avs := [.long ((a1 - 1).toInt64), .long v10.toInt64, .long v11.toInt64]) (rest := []) (s_Z_in_ok s ((a1 - 1).toInt64) v10.toInt64 v11.toInt64) ok_Z_in l0_Z_kindles__Z_in ml_Z_69 sm_Z_in d_Z_kindles_86 rfl rfl (Nat.le_of_ble_eq_true rfl) (Nat.le_of_ble_eq_true rfl) (Nat.le_of_ble_eq_true rfl) (Nat.le_of_ble_eq_true rfl) (fun v12 => ?_)
              refine jm_if_eq (pc := 89) (tgt := 96) d_Z_kindles_89 (by decide) ?_ ?_
              · refine jm_iconst (pc := 96) (v := 0) d_Z_kindles_96 ci_0 ?_
                exact s_Z_kindles_J97_ok s a0 a1 0
              · refine jm_iconst (pc := 92) (v := 1) d_Z_kindles_92 ci_1 ?_
                refine jm_goto (pc := 93) (tgt := 97) d_Z_kindles_93 (by decide) ?_
                exact s_Z_kindles_J97_ok s a0 a1 1
          · refine jm_iconst (pc := 53) (v := 0) d_Z_kindles_53 ci_0 ?_
            exact jm_iret (pc := 54) (x := 0) d_Z_kindles_54 rfl (by decide) rfl rfl rfl
      · refine jm_aload_n (pc := 29) (q := 0) (x := 59) d_Z_kindles_29 rfl ?_
        refine jm_bipush (pc := 30) (v := 108) d_Z_kindles_30 cb_108 ?_
        refine jm_iload_n (pc := 32) (q := 1) (x := a0) d_Z_kindles_32 rfl ?_
        refine jm_iload_n (pc := 33) (q := 2) (x := a1) d_Z_kindles_33 rfl ?_
        refine jm_Vp (pc := 34) (Y' := mY_Z_isTold) (i := 59) (avs := [.int 108, .int a0, .int a1]) (rest := []) (s_Z_isTold_ok s 108 a0 a1) ok_Z_isTold l0_Z_kindles__Z_isTold ml_Z_156 im_Z_isTold se_Z_isTold d_Z_kindles_34 rfl sh_59 rfl rfl ge_59 le_59_78 rfl (Nat.le_of_ble_eq_true rfl) (Nat.le_of_ble_eq_true rfl) (Nat.le_of_ble_eq_true rfl) (Nat.le_of_ble_eq_true rfl) (fun v13 => ?_)
        exact jm_zret (pc := 37) d_Z_kindles_37 rfl rfl rfl rfl
    · refine jm_iconst (pc := 19) (v := 0) d_Z_kindles_19 ci_0 ?_
      exact jm_iret (pc := 20) (x := 0) d_Z_kindles_20 rfl (by decide) rfl rfl rfl
theorem d_Z_layNight_0 : decode (jm_cd mY_Z_layNight) 0 = .ok (.iconst 0, 1) := by decide +kernel
theorem d_Z_layNight_1 : decode (jm_cd mY_Z_layNight) 1 = .ok (.istore_n 1, 1) := by decide +kernel
theorem d_Z_layNight_2 : decode (jm_cd mY_Z_layNight) 2 = .ok (.iload_n 1, 1) := by decide +kernel
theorem d_Z_layNight_3 : decode (jm_cd mY_Z_layNight) 3 = .ok (.aload_n 0, 1) := by decide +kernel
theorem d_Z_layNight_4 : decode (jm_cd mY_Z_layNight) 4 = .ok (.getfield 13, 3) := by decide +kernel
theorem d_Z_layNight_7 : decode (jm_cd mY_Z_layNight) 7 = .ok (.iconst 0, 1) := by decide +kernel
theorem d_Z_layNight_8 : decode (jm_cd mY_Z_layNight) 8 = .ok (.iaload, 1) := by decide +kernel
theorem d_Z_layNight_9 : decode (jm_cd mY_Z_layNight) 9 = .ok (.if_icmp .ge 21, 3) := by decide +kernel
theorem d_Z_layNight_12 : decode (jm_cd mY_Z_layNight) 12 = .ok (.aload_n 0, 1) := by decide +kernel
theorem d_Z_layNight_13 : decode (jm_cd mY_Z_layNight) 13 = .ok (.getfield 55, 3) := by decide +kernel
theorem d_Z_layNight_16 : decode (jm_cd mY_Z_layNight) 16 = .ok (.iload_n 1, 1) := by decide +kernel
theorem d_Z_layNight_17 : decode (jm_cd mY_Z_layNight) 17 = .ok (.aload_n 0, 1) := by decide +kernel
theorem d_Z_layNight_18 : decode (jm_cd mY_Z_layNight) 18 = .ok (.getfield 28, 3) := by decide +kernel
theorem d_Z_layNight_21 : decode (jm_cd mY_Z_layNight) 21 = .ok (.iload_n 1, 1) := by decide +kernel
theorem d_Z_layNight_22 : decode (jm_cd mY_Z_layNight) 22 = .ok (.iaload, 1) := by decide +kernel
theorem d_Z_layNight_23 : decode (jm_cd mY_Z_layNight) 23 = .ok (.iastore, 1) := by decide +kernel
theorem d_Z_layNight_24 : decode (jm_cd mY_Z_layNight) 24 = .ok (.iinc 1 1, 3) := by decide +kernel
theorem d_Z_layNight_27 : decode (jm_cd mY_Z_layNight) 27 = .ok (.goto (-25), 3) := by decide +kernel
theorem d_Z_layNight_30 : decode (jm_cd mY_Z_layNight) 30 = .ok (.iconst 0, 1) := by decide +kernel
theorem d_Z_layNight_31 : decode (jm_cd mY_Z_layNight) 31 = .ok (.istore_n 1, 1) := by decide +kernel
theorem d_Z_layNight_32 : decode (jm_cd mY_Z_layNight) 32 = .ok (.iload_n 1, 1) := by decide +kernel
theorem d_Z_layNight_33 : decode (jm_cd mY_Z_layNight) 33 = .ok (.bipush 60, 2) := by decide +kernel
theorem d_Z_layNight_35 : decode (jm_cd mY_Z_layNight) 35 = .ok (.if_icmp .ge 102, 3) := by decide +kernel
theorem d_Z_layNight_38 : decode (jm_cd mY_Z_layNight) 38 = .ok (.aload_n 0, 1) := by decide +kernel
theorem d_Z_layNight_39 : decode (jm_cd mY_Z_layNight) 39 = .ok (.getfield 52, 3) := by decide +kernel
theorem d_Z_layNight_42 : decode (jm_cd mY_Z_layNight) 42 = .ok (.iload_n 1, 1) := by decide +kernel
theorem d_Z_layNight_43 : decode (jm_cd mY_Z_layNight) 43 = .ok (.iconst 0, 1) := by decide +kernel
theorem d_Z_layNight_44 : decode (jm_cd mY_Z_layNight) 44 = .ok (.iastore, 1) := by decide +kernel
theorem d_Z_layNight_45 : decode (jm_cd mY_Z_layNight) 45 = .ok (.iconst 0, 1) := by decide +kernel
theorem d_Z_layNight_46 : decode (jm_cd mY_Z_layNight) 46 = .ok (.istore_n 2, 1) := by decide +kernel
theorem d_Z_layNight_47 : decode (jm_cd mY_Z_layNight) 47 = .ok (.iconst 0, 1) := by decide +kernel
theorem d_Z_layNight_48 : decode (jm_cd mY_Z_layNight) 48 = .ok (.istore_n 3, 1) := by decide +kernel
theorem d_Z_layNight_49 : decode (jm_cd mY_Z_layNight) 49 = .ok (.iload_n 3, 1) := by decide +kernel
theorem d_Z_layNight_50 : decode (jm_cd mY_Z_layNight) 50 = .ok (.aload_n 0, 1) := by decide +kernel
theorem d_Z_layNight_51 : decode (jm_cd mY_Z_layNight) 51 = .ok (.getfield 13, 3) := by decide +kernel
theorem d_Z_layNight_54 : decode (jm_cd mY_Z_layNight) 54 = .ok (.iconst 0, 1) := by decide +kernel
theorem d_Z_layNight_55 : decode (jm_cd mY_Z_layNight) 55 = .ok (.iaload, 1) := by decide +kernel
theorem d_Z_layNight_56 : decode (jm_cd mY_Z_layNight) 56 = .ok (.if_icmp .ge 28, 3) := by decide +kernel
theorem d_Z_layNight_59 : decode (jm_cd mY_Z_layNight) 59 = .ok (.iload_n 2, 1) := by decide +kernel
theorem d_Z_layNight_60 : decode (jm_cd mY_Z_layNight) 60 = .ok (.aload_n 0, 1) := by decide +kernel
theorem d_Z_layNight_61 : decode (jm_cd mY_Z_layNight) 61 = .ok (.iload_n 3, 1) := by decide +kernel
theorem d_Z_layNight_62 : decode (jm_cd mY_Z_layNight) 62 = .ok (.iload_n 1, 1) := by decide +kernel
theorem d_Z_layNight_63 : decode (jm_cd mY_Z_layNight) 63 = .ok (.invokevirtual 162, 3) := by decide +kernel
theorem d_Z_layNight_66 : decode (jm_cd mY_Z_layNight) 66 = .ok (.ifCond .eq 9, 3) := by decide +kernel
theorem d_Z_layNight_69 : decode (jm_cd mY_Z_layNight) 69 = .ok (.iconst 1, 1) := by decide +kernel
theorem d_Z_layNight_70 : decode (jm_cd mY_Z_layNight) 70 = .ok (.iload_n 3, 1) := by decide +kernel
theorem d_Z_layNight_71 : decode (jm_cd mY_Z_layNight) 71 = .ok (.ishl, 1) := by decide +kernel
theorem d_Z_layNight_72 : decode (jm_cd mY_Z_layNight) 72 = .ok (.goto 4, 3) := by decide +kernel
theorem d_Z_layNight_75 : decode (jm_cd mY_Z_layNight) 75 = .ok (.iconst 0, 1) := by decide +kernel
theorem d_Z_layNight_76 : decode (jm_cd mY_Z_layNight) 76 = .ok (.ior, 1) := by decide +kernel
theorem d_Z_layNight_77 : decode (jm_cd mY_Z_layNight) 77 = .ok (.istore_n 2, 1) := by decide +kernel
theorem d_Z_layNight_78 : decode (jm_cd mY_Z_layNight) 78 = .ok (.iinc 3 1, 3) := by decide +kernel
theorem d_Z_layNight_81 : decode (jm_cd mY_Z_layNight) 81 = .ok (.goto (-32), 3) := by decide +kernel
theorem d_Z_layNight_84 : decode (jm_cd mY_Z_layNight) 84 = .ok (.aload_n 0, 1) := by decide +kernel
theorem d_Z_layNight_85 : decode (jm_cd mY_Z_layNight) 85 = .ok (.getfield 52, 3) := by decide +kernel
theorem d_Z_layNight_88 : decode (jm_cd mY_Z_layNight) 88 = .ok (.iload_n 1, 1) := by decide +kernel
theorem d_Z_layNight_89 : decode (jm_cd mY_Z_layNight) 89 = .ok (.iload_n 2, 1) := by decide +kernel
theorem d_Z_layNight_90 : decode (jm_cd mY_Z_layNight) 90 = .ok (.iastore, 1) := by decide +kernel
theorem d_Z_layNight_91 : decode (jm_cd mY_Z_layNight) 91 = .ok (.iconst 0, 1) := by decide +kernel
theorem d_Z_layNight_92 : decode (jm_cd mY_Z_layNight) 92 = .ok (.istore_n 3, 1) := by decide +kernel
theorem d_Z_layNight_93 : decode (jm_cd mY_Z_layNight) 93 = .ok (.iload_n 3, 1) := by decide +kernel
theorem d_Z_layNight_94 : decode (jm_cd mY_Z_layNight) 94 = .ok (.aload_n 0, 1) := by decide +kernel
theorem d_Z_layNight_95 : decode (jm_cd mY_Z_layNight) 95 = .ok (.getfield 13, 3) := by decide +kernel
theorem d_Z_layNight_98 : decode (jm_cd mY_Z_layNight) 98 = .ok (.iconst 0, 1) := by decide +kernel
theorem d_Z_layNight_99 : decode (jm_cd mY_Z_layNight) 99 = .ok (.iaload, 1) := by decide +kernel
theorem d_Z_layNight_100 : decode (jm_cd mY_Z_layNight) 100 = .ok (.if_icmp .ge 31, 3) := by decide +kernel
theorem d_Z_layNight_103 : decode (jm_cd mY_Z_layNight) 103 = .ok (.aload_n 0, 1) := by decide +kernel
theorem d_Z_layNight_104 : decode (jm_cd mY_Z_layNight) 104 = .ok (.getfield 55, 3) := by decide +kernel
theorem d_Z_layNight_107 : decode (jm_cd mY_Z_layNight) 107 = .ok (.iload_n 3, 1) := by decide +kernel
theorem d_Z_layNight_108 : decode (jm_cd mY_Z_layNight) 108 = .ok (.dup2, 1) := by decide +kernel
theorem d_Z_layNight_109 : decode (jm_cd mY_Z_layNight) 109 = .ok (.iaload, 1) := by decide +kernel
theorem d_Z_layNight_110 : decode (jm_cd mY_Z_layNight) 110 = .ok (.iload_n 2, 1) := by decide +kernel
theorem d_Z_layNight_111 : decode (jm_cd mY_Z_layNight) 111 = .ok (.iload_n 3, 1) := by decide +kernel
theorem d_Z_layNight_112 : decode (jm_cd mY_Z_layNight) 112 = .ok (.invokestatic 99, 3) := by decide +kernel
theorem d_Z_layNight_115 : decode (jm_cd mY_Z_layNight) 115 = .ok (.ifCond .eq 7, 3) := by decide +kernel
theorem d_Z_layNight_118 : decode (jm_cd mY_Z_layNight) 118 = .ok (.iconst 1, 1) := by decide +kernel
theorem d_Z_layNight_119 : decode (jm_cd mY_Z_layNight) 119 = .ok (.goto 4, 3) := by decide +kernel
theorem d_Z_layNight_122 : decode (jm_cd mY_Z_layNight) 122 = .ok (.iconst 0, 1) := by decide +kernel
theorem d_Z_layNight_123 : decode (jm_cd mY_Z_layNight) 123 = .ok (.isub, 1) := by decide +kernel
theorem d_Z_layNight_124 : decode (jm_cd mY_Z_layNight) 124 = .ok (.iastore, 1) := by decide +kernel
theorem d_Z_layNight_125 : decode (jm_cd mY_Z_layNight) 125 = .ok (.iinc 3 1, 3) := by decide +kernel
theorem d_Z_layNight_128 : decode (jm_cd mY_Z_layNight) 128 = .ok (.goto (-35), 3) := by decide +kernel
theorem d_Z_layNight_131 : decode (jm_cd mY_Z_layNight) 131 = .ok (.iinc 1 1, 3) := by decide +kernel
theorem d_Z_layNight_134 : decode (jm_cd mY_Z_layNight) 134 = .ok (.goto (-102), 3) := by decide +kernel
theorem d_Z_layNight_137 : decode (jm_cd mY_Z_layNight) 137 = .ok (.return_, 1) := by decide +kernel
def s_Z_layNight_J123 (k20 : Int32 → jm_M → Option jm_M) (k60 : Int32 → Int32 → Int32 → jm_M → Option jm_M) (x1 : Int32) (x2 : Int32) (x3 : Int32) (y0 : Int32) (y1 : Int32) (y2 : Int32) (s : jm_M) : Option jm_M := jm_sti s 75 10 y2 (y1 - y0) (fun s8 => k60 x1 x2 (x3 + 1) s8)
set_option maxRecDepth 100000 in
set_option maxHeartbeats 4000000 in
theorem s_Z_layNight_J123_ok {k20 : Int32 → jm_M → Option jm_M} (hk20 : ∀ (x1 : Int32) (s : jm_M), jm_Sim mY_Z_layNight 0 0 32 [(0, .ref 59), (1, .int x1)] [] 78 mr_154 s (k20 x1 s) (jm_rV 78 mr_154)) {k60 : Int32 → Int32 → Int32 → jm_M → Option jm_M} (hk60 : ∀ (x1 : Int32) (x2 : Int32) (x3 : Int32) (s : jm_M), jm_Sim mY_Z_layNight 0 0 93 [(0, .ref 59), (1, .int x1), (2, .int x2), (3, .int x3)] [] 78 mr_154 s (k60 x1 x2 x3 s) (jm_rV 78 mr_154)) (x1 : Int32) (x2 : Int32) (x3 : Int32) (y0 : Int32) (y1 : Int32) (y2 : Int32) (s : jm_M) : jm_Sim mY_Z_layNight 0 0 123 [(0, .ref 59), (1, .int x1), (2, .int x2), (3, .int x3)] [.int y0, .int y1, .int y2, .ref 75] 78 mr_154 s (s_Z_layNight_J123 k20 k60 x1 x2 x3 y0 y1 y2 s) (jm_rV 78 mr_154) := by
  unfold s_Z_layNight_J123
  refine jm_isub (pc := 123) d_Z_layNight_123 ?_
  refine jm_iast (pc := 124) d_Z_layNight_124 sh_75 ge_75 le_75_78 (fun s8 => ?_)
  refine jm_iinc (pc := 125) (q := 3) (x := x3) (v := 1) (L2 := [(3, .int (x3 + 1)), (0, .ref 59), (1, .int x1), (2, .int x2)]) d_Z_layNight_125 rfl ci_1 (Nat.le_of_ble_eq_true rfl) rfl ?_
  refine jm_goto (pc := 128) (tgt := 93) d_Z_layNight_128 (by decide) ?_
  refine jm_sub (L2 := [(0, .ref 59), (1, .int x1), (2, .int x2), (3, .int (x3 + 1))]) [1, 2, 3, 0] rfl ?_
  exact hk60 x1 x2 (x3 + 1) s8
def s_Z_layNight_L93 (k20 : Int32 → jm_M → Option jm_M) : Nat → Int32 → Int32 → Int32 → jm_M → Option jm_M
  | 0, _, _, _, _ => none
  | n + 1, x1, x2, x3, s => jm_ldi s 61 4 0 (fun v5 => (if v5 ≤ x3 then k20 (x1 + 1) s else jm_ldi s 75 10 x3 (fun v6 => jm_bd (s_Z_has s x2 x3) (fun v7 => (if v7 = 0 then s_Z_layNight_J123 k20 (s_Z_layNight_L93 k20 n) x1 x2 x3 0 v6 x3 s else s_Z_layNight_J123 k20 (s_Z_layNight_L93 k20 n) x1 x2 x3 1 v6 x3 s)))))
set_option maxRecDepth 100000 in
set_option maxHeartbeats 4000000 in
theorem s_Z_layNight_L93_ok {k20 : Int32 → jm_M → Option jm_M} (hk20 : ∀ (x1 : Int32) (s : jm_M), jm_Sim mY_Z_layNight 0 0 32 [(0, .ref 59), (1, .int x1)] [] 78 mr_154 s (k20 x1 s) (jm_rV 78 mr_154)) : ∀ (n : Nat) (x1 : Int32) (x2 : Int32) (x3 : Int32) (s : jm_M), jm_Sim mY_Z_layNight 0 0 93 [(0, .ref 59), (1, .int x1), (2, .int x2), (3, .int x3)] [] 78 mr_154 s (s_Z_layNight_L93 k20 n x1 x2 x3 s) (jm_rV 78 mr_154) := by
  intro n
  induction n with
  | zero => intro x1 x2 x3 s; exact jm_none
  | succ n ih =>
    intro x1 x2 x3 s
    rw [s_Z_layNight_L93]
    refine jm_iload_n (pc := 93) (q := 3) (x := x3) d_Z_layNight_93 rfl ?_
    refine jm_aload_n (pc := 94) (q := 0) (x := 59) d_Z_layNight_94 rfl ?_
    refine jm_gr (pc := 95) (i := 59) d_Z_layNight_95 fo_Z_13 sh_59 ge_59 le_59_78 rfl (fun _ => rfl) mr_154_59_2 ge_61 ?_
    refine jm_iconst (pc := 98) (v := 0) d_Z_layNight_98 ci_0 ?_
    refine jm_iald (pc := 99) d_Z_layNight_99 sh_61 ge_61 le_61_78 (fun v5 => ?_)
    refine jm_icmp_ge (pc := 100) (tgt := 131) d_Z_layNight_100 (by decide) ?_ ?_
    · refine jm_iinc (pc := 131) (q := 1) (x := x1) (v := 1) (L2 := [(1, .int (x1 + 1)), (0, .ref 59), (2, .int x2), (3, .int x3)]) d_Z_layNight_131 rfl ci_1 (Nat.le_of_ble_eq_true rfl) rfl ?_
      refine jm_goto (pc := 134) (tgt := 32) d_Z_layNight_134 (by decide) ?_
      refine jm_sub (L2 := [(0, .ref 59), (1, .int (x1 + 1))]) [1, 0] rfl ?_
      exact hk20 (x1 + 1) s
    · refine jm_aload_n (pc := 103) (q := 0) (x := 59) d_Z_layNight_103 rfl ?_
      refine jm_gr (pc := 104) (i := 59) d_Z_layNight_104 fo_Z_55 sh_59 ge_59 le_59_78 rfl (fun _ => rfl) mr_154_59_21 ge_75 ?_
      refine jm_iload_n (pc := 107) (q := 3) (x := x3) d_Z_layNight_107 rfl ?_
      refine jm_dup2 (pc := 108) d_Z_layNight_108 rfl rfl ?_
      refine jm_iald (pc := 109) d_Z_layNight_109 sh_75 ge_75 le_75_78 (fun v6 => ?_)
      refine jm_iload_n (pc := 110) (q := 2) (x := x2) d_Z_layNight_110 rfl ?_
      refine jm_iload_n (pc := 111) (q := 3) (x := x3) d_Z_layNight_111 rfl ?_
      refine jm_Sp (pc := 112) (Y' := mY_Z_has) (avs := [.int x2, .int x3]) (rest := [.int v6, .int x3, .ref 75]) (s_Z_has_ok s x2 x3) ok_Z_has l0_Z_layNight__Z_has ml_Z_99 sm_Z_has d_Z_layNight_112 rfl rfl (Nat.le_of_ble_eq_true rfl) (Nat.le_of_ble_eq_true rfl) (Nat.le_of_ble_eq_true rfl) (Nat.le_of_ble_eq_true rfl) (fun v7 => ?_)
      refine jm_if_eq (pc := 115) (tgt := 122) d_Z_layNight_115 (by decide) ?_ ?_
      · refine jm_iconst (pc := 122) (v := 0) d_Z_layNight_122 ci_0 ?_
        exact s_Z_layNight_J123_ok hk20 ih x1 x2 x3 0 v6 x3 s
      · refine jm_iconst (pc := 118) (v := 1) d_Z_layNight_118 ci_1 ?_
        refine jm_goto (pc := 119) (tgt := 123) d_Z_layNight_119 (by decide) ?_
        exact s_Z_layNight_J123_ok hk20 ih x1 x2 x3 1 v6 x3 s
def s_Z_layNight_L49 (k20 : Int32 → jm_M → Option jm_M) : Nat → Int32 → Int32 → Int32 → jm_M → Option jm_M
  | 0, _, _, _, _ => none
  | n + 1, x1, x2, x3, s => jm_ldi s 61 4 0 (fun v3 => (if v3 ≤ x3 then jm_sti s 74 60 x1 x2 (fun s4 => s_Z_layNight_L93 k20 5000 x1 x2 0 s4) else jm_bd (s_Z_kindles s x3 x1) (fun v9 => (if v9 = 0 then jm_vi (x2 ||| 0) (fun v10 => s_Z_layNight_L49 k20 n x1 v10 (x3 + 1) s) else jm_vi (x2 ||| (1 <<< (x3 &&& 31))) (fun v11 => s_Z_layNight_L49 k20 n x1 v11 (x3 + 1) s)))))
set_option maxRecDepth 100000 in
set_option maxHeartbeats 4000000 in
theorem s_Z_layNight_L49_ok {k20 : Int32 → jm_M → Option jm_M} (hk20 : ∀ (x1 : Int32) (s : jm_M), jm_Sim mY_Z_layNight 0 0 32 [(0, .ref 59), (1, .int x1)] [] 78 mr_154 s (k20 x1 s) (jm_rV 78 mr_154)) : ∀ (n : Nat) (x1 : Int32) (x2 : Int32) (x3 : Int32) (s : jm_M), jm_Sim mY_Z_layNight 0 0 49 [(0, .ref 59), (1, .int x1), (2, .int x2), (3, .int x3)] [] 78 mr_154 s (s_Z_layNight_L49 k20 n x1 x2 x3 s) (jm_rV 78 mr_154) := by
  intro n
  induction n with
  | zero => intro x1 x2 x3 s; exact jm_none
  | succ n ih =>
    intro x1 x2 x3 s
    rw [s_Z_layNight_L49]
    refine jm_iload_n (pc := 49) (q := 3) (x := x3) d_Z_layNight_49 rfl ?_
    refine jm_aload_n (pc := 50) (q := 0) (x := 59) d_Z_layNight_50 rfl ?_
    refine jm_gr (pc := 51) (i := 59) d_Z_layNight_51 fo_Z_13 sh_59 ge_59 le_59_78 rfl (fun _ => rfl) mr_154_59_2 ge_61 ?_
    refine jm_iconst (pc := 54) (v := 0) d_Z_layNight_54 ci_0 ?_
    refine jm_iald (pc := 55) d_Z_layNight_55 sh_61 ge_61 le_61_78 (fun v3 => ?_)
    refine jm_icmp_ge (pc := 56) (tgt := 84) d_Z_layNight_56 (by decide) ?_ ?_
    · refine jm_aload_n (pc := 84) (q := 0) (x := 59) d_Z_layNight_84 rfl ?_
      refine jm_gr (pc := 85) (i := 59) d_Z_layNight_85 fo_Z_52 sh_59 ge_59 le_59_78 rfl (fun _ => rfl) mr_154_59_20 ge_74 ?_
      refine jm_iload_n (pc := 88) (q := 1) (x := x1) d_Z_layNight_88 rfl ?_
      refine jm_iload_n (pc := 89) (q := 2) (x := x2) d_Z_layNight_89 rfl ?_
      refine jm_iast (pc := 90) d_Z_layNight_90 sh_74 ge_74 le_74_78 (fun s4 => ?_)
      refine jm_iconst (pc := 91) (v := 0) d_Z_layNight_91 ci_0 ?_
      refine jm_istore_n (pc := 92) (i := 3) (L2 := [(3, .int 0), (0, .ref 59), (1, .int x1), (2, .int x2)]) d_Z_layNight_92 rfl (Nat.le_of_ble_eq_true rfl) rfl ?_
      refine jm_sub (L2 := [(0, .ref 59), (1, .int x1), (2, .int x2), (3, .int 0)]) [1, 2, 3, 0] rfl ?_
      exact s_Z_layNight_L93_ok hk20 5000 x1 x2 0 s4
    · refine jm_iload_n (pc := 59) (q := 2) (x := x2) d_Z_layNight_59 rfl ?_
      refine jm_aload_n (pc := 60) (q := 0) (x := 59) d_Z_layNight_60 rfl ?_
      refine jm_iload_n (pc := 61) (q := 3) (x := x3) d_Z_layNight_61 rfl ?_
      refine jm_iload_n (pc := 62) (q := 1) (x := x1) d_Z_layNight_62 rfl ?_
      refine jm_Vp (pc := 63) (Y' := mY_Z_kindles) (i := 59) (avs := [.int x3, .int x1]) (rest := [.int x2]) (s_Z_kindles_ok s x3 x1) ok_Z_kindles l0_Z_layNight__Z_kindles ml_Z_162 im_Z_kindles se_Z_kindles d_Z_layNight_63 rfl sh_59 rfl rfl ge_59 le_59_78 rfl (Nat.le_of_ble_eq_true rfl) (Nat.le_of_ble_eq_true rfl) (Nat.le_of_ble_eq_true rfl) (Nat.le_of_ble_eq_true rfl) (fun v9 => ?_)
      refine jm_if_eq (pc := 66) (tgt := 75) d_Z_layNight_66 (by decide) ?_ ?_
      · refine jm_iconst (pc := 75) (v := 0) d_Z_layNight_75 ci_0 ?_
        refine jm_ior (pc := 76) d_Z_layNight_76 ?_
        refine jm_nvi (fun v10 => ?_)
        refine jm_istore_n (pc := 77) (i := 2) (L2 := [(2, .int v10), (0, .ref 59), (1, .int x1), (3, .int x3)]) d_Z_layNight_77 rfl (Nat.le_of_ble_eq_true rfl) rfl ?_
        refine jm_iinc (pc := 78) (q := 3) (x := x3) (v := 1) (L2 := [(3, .int (x3 + 1)), (2, .int v10), (0, .ref 59), (1, .int x1)]) d_Z_layNight_78 rfl ci_1 (Nat.le_of_ble_eq_true rfl) rfl ?_
        refine jm_goto (pc := 81) (tgt := 49) d_Z_layNight_81 (by decide) ?_
        refine jm_sub (L2 := [(0, .ref 59), (1, .int x1), (2, .int v10), (3, .int (x3 + 1))]) [2, 3, 1, 0] rfl ?_
        exact ih x1 v10 (x3 + 1) s
      · refine jm_iconst (pc := 69) (v := 1) d_Z_layNight_69 ci_1 ?_
        refine jm_iload_n (pc := 70) (q := 3) (x := x3) d_Z_layNight_70 rfl ?_
        refine jm_ishl (pc := 71) d_Z_layNight_71 ?_
        refine jm_goto (pc := 72) (tgt := 76) d_Z_layNight_72 (by decide) ?_
        refine jm_ior (pc := 76) d_Z_layNight_76 ?_
        refine jm_nvi (fun v11 => ?_)
        refine jm_istore_n (pc := 77) (i := 2) (L2 := [(2, .int v11), (0, .ref 59), (1, .int x1), (3, .int x3)]) d_Z_layNight_77 rfl (Nat.le_of_ble_eq_true rfl) rfl ?_
        refine jm_iinc (pc := 78) (q := 3) (x := x3) (v := 1) (L2 := [(3, .int (x3 + 1)), (2, .int v11), (0, .ref 59), (1, .int x1)]) d_Z_layNight_78 rfl ci_1 (Nat.le_of_ble_eq_true rfl) rfl ?_
        refine jm_goto (pc := 81) (tgt := 49) d_Z_layNight_81 (by decide) ?_
        refine jm_sub (L2 := [(0, .ref 59), (1, .int x1), (2, .int v11), (3, .int (x3 + 1))]) [2, 3, 1, 0] rfl ?_
        exact ih x1 v11 (x3 + 1) s
def s_Z_layNight_L32 : Nat → Int32 → jm_M → Option jm_M
  | 0, _, _ => none
  | n + 1, x1, s => (if 60 ≤ x1 then (some s) else jm_sti s 74 60 x1 0 (fun s2 => s_Z_layNight_L49 (s_Z_layNight_L32 n) 5000 x1 0 0 s2))
set_option maxRecDepth 100000 in
set_option maxHeartbeats 4000000 in
theorem s_Z_layNight_L32_ok : ∀ (n : Nat) (x1 : Int32) (s : jm_M), jm_Sim mY_Z_layNight 0 0 32 [(0, .ref 59), (1, .int x1)] [] 78 mr_154 s (s_Z_layNight_L32 n x1 s) (jm_rV 78 mr_154) := by
  intro n
  induction n with
  | zero => intro x1 s; exact jm_none
  | succ n ih =>
    intro x1 s
    rw [s_Z_layNight_L32]
    refine jm_iload_n (pc := 32) (q := 1) (x := x1) d_Z_layNight_32 rfl ?_
    refine jm_bipush (pc := 33) (v := 60) d_Z_layNight_33 cb_60 ?_
    refine jm_icmp_ge (pc := 35) (tgt := 137) d_Z_layNight_35 (by decide) ?_ ?_
    · exact jm_vret (pc := 137) d_Z_layNight_137 rfl rfl rfl rfl
    · refine jm_aload_n (pc := 38) (q := 0) (x := 59) d_Z_layNight_38 rfl ?_
      refine jm_gr (pc := 39) (i := 59) d_Z_layNight_39 fo_Z_52 sh_59 ge_59 le_59_78 rfl (fun _ => rfl) mr_154_59_20 ge_74 ?_
      refine jm_iload_n (pc := 42) (q := 1) (x := x1) d_Z_layNight_42 rfl ?_
      refine jm_iconst (pc := 43) (v := 0) d_Z_layNight_43 ci_0 ?_
      refine jm_iast (pc := 44) d_Z_layNight_44 sh_74 ge_74 le_74_78 (fun s2 => ?_)
      refine jm_iconst (pc := 45) (v := 0) d_Z_layNight_45 ci_0 ?_
      refine jm_istore_n (pc := 46) (i := 2) (L2 := [(2, .int 0), (0, .ref 59), (1, .int x1)]) d_Z_layNight_46 rfl (Nat.le_of_ble_eq_true rfl) rfl ?_
      refine jm_iconst (pc := 47) (v := 0) d_Z_layNight_47 ci_0 ?_
      refine jm_istore_n (pc := 48) (i := 3) (L2 := [(3, .int 0), (2, .int 0), (0, .ref 59), (1, .int x1)]) d_Z_layNight_48 rfl (Nat.le_of_ble_eq_true rfl) rfl ?_
      refine jm_sub (L2 := [(0, .ref 59), (1, .int x1), (2, .int 0), (3, .int 0)]) [2, 3, 1, 0] rfl ?_
      exact s_Z_layNight_L49_ok ih 5000 x1 0 0 s2
def s_Z_layNight_L2 : Nat → Int32 → jm_M → Option jm_M
  | 0, _, _ => none
  | n + 1, x1, s => jm_ldi s 61 4 0 (fun v1 => (if v1 ≤ x1 then s_Z_layNight_L32 5000 0 s else jm_ldi s 66 40 x1 (fun v12 => jm_sti s 75 10 x1 v12 (fun s13 => s_Z_layNight_L2 n (x1 + 1) s13))))
set_option maxRecDepth 100000 in
set_option maxHeartbeats 4000000 in
theorem s_Z_layNight_L2_ok : ∀ (n : Nat) (x1 : Int32) (s : jm_M), jm_Sim mY_Z_layNight 0 0 2 [(0, .ref 59), (1, .int x1)] [] 78 mr_154 s (s_Z_layNight_L2 n x1 s) (jm_rV 78 mr_154) := by
  intro n
  induction n with
  | zero => intro x1 s; exact jm_none
  | succ n ih =>
    intro x1 s
    rw [s_Z_layNight_L2]
    refine jm_iload_n (pc := 2) (q := 1) (x := x1) d_Z_layNight_2 rfl ?_
    refine jm_aload_n (pc := 3) (q := 0) (x := 59) d_Z_layNight_3 rfl ?_
    refine jm_gr (pc := 4) (i := 59) d_Z_layNight_4 fo_Z_13 sh_59 ge_59 le_59_78 rfl (fun _ => rfl) mr_154_59_2 ge_61 ?_
    refine jm_iconst (pc := 7) (v := 0) d_Z_layNight_7 ci_0 ?_
    refine jm_iald (pc := 8) d_Z_layNight_8 sh_61 ge_61 le_61_78 (fun v1 => ?_)
    refine jm_icmp_ge (pc := 9) (tgt := 30) d_Z_layNight_9 (by decide) ?_ ?_
    · refine jm_iconst (pc := 30) (v := 0) d_Z_layNight_30 ci_0 ?_
      refine jm_istore_n (pc := 31) (i := 1) (L2 := [(1, .int 0), (0, .ref 59)]) d_Z_layNight_31 rfl (Nat.le_of_ble_eq_true rfl) rfl ?_
      refine jm_sub (L2 := [(0, .ref 59), (1, .int 0)]) [1, 0] rfl ?_
      exact s_Z_layNight_L32_ok 5000 0 s
    · refine jm_aload_n (pc := 12) (q := 0) (x := 59) d_Z_layNight_12 rfl ?_
      refine jm_gr (pc := 13) (i := 59) d_Z_layNight_13 fo_Z_55 sh_59 ge_59 le_59_78 rfl (fun _ => rfl) mr_154_59_21 ge_75 ?_
      refine jm_iload_n (pc := 16) (q := 1) (x := x1) d_Z_layNight_16 rfl ?_
      refine jm_aload_n (pc := 17) (q := 0) (x := 59) d_Z_layNight_17 rfl ?_
      refine jm_gr (pc := 18) (i := 59) d_Z_layNight_18 fo_Z_28 sh_59 ge_59 le_59_78 rfl (fun _ => rfl) mr_154_59_7 ge_66 ?_
      refine jm_iload_n (pc := 21) (q := 1) (x := x1) d_Z_layNight_21 rfl ?_
      refine jm_iald (pc := 22) d_Z_layNight_22 sh_66 ge_66 le_66_78 (fun v12 => ?_)
      refine jm_iast (pc := 23) d_Z_layNight_23 sh_75 ge_75 le_75_78 (fun s13 => ?_)
      refine jm_iinc (pc := 24) (q := 1) (x := x1) (v := 1) (L2 := [(1, .int (x1 + 1)), (0, .ref 59)]) d_Z_layNight_24 rfl ci_1 (Nat.le_of_ble_eq_true rfl) rfl ?_
      refine jm_goto (pc := 27) (tgt := 2) d_Z_layNight_27 (by decide) ?_
      refine jm_sub (L2 := [(0, .ref 59), (1, .int (x1 + 1))]) [1, 0] rfl ?_
      exact ih (x1 + 1) s13
def s_Z_layNight (s : jm_M) : Option jm_M := s_Z_layNight_L2 5000 0 s
set_option maxRecDepth 100000 in
set_option maxHeartbeats 4000000 in
theorem s_Z_layNight_ok (s : jm_M) : jm_Sim mY_Z_layNight 0 0 0 [(0, .ref 59)] [] 78 mr_154 s (s_Z_layNight s) (jm_rV 78 mr_154) := by
  unfold s_Z_layNight
  refine jm_iconst (pc := 0) (v := 0) d_Z_layNight_0 ci_0 ?_
  refine jm_istore_n (pc := 1) (i := 1) (L2 := [(1, .int 0), (0, .ref 59)]) d_Z_layNight_1 rfl (Nat.le_of_ble_eq_true rfl) rfl ?_
  refine jm_sub (L2 := [(0, .ref 59), (1, .int 0)]) [1, 0] rfl ?_
  exact s_Z_layNight_L2_ok 5000 0 s
theorem d_Z_burns_0 : decode (jm_cd mY_Z_burns) 0 = .ok (.aload_n 0, 1) := by decide +kernel
theorem d_Z_burns_1 : decode (jm_cd mY_Z_burns) 1 = .ok (.iload_n 1, 1) := by decide +kernel
theorem d_Z_burns_2 : decode (jm_cd mY_Z_burns) 2 = .ok (.invokevirtual 138, 3) := by decide +kernel
theorem d_Z_burns_5 : decode (jm_cd mY_Z_burns) 5 = .ok (.ifCond .eq 15, 3) := by decide +kernel
theorem d_Z_burns_8 : decode (jm_cd mY_Z_burns) 8 = .ok (.iload_n 2, 1) := by decide +kernel
theorem d_Z_burns_9 : decode (jm_cd mY_Z_burns) 9 = .ok (.i2l, 1) := by decide +kernel
theorem d_Z_burns_10 : decode (jm_cd mY_Z_burns) 10 = .ok (.lconst 0, 1) := by decide +kernel
theorem d_Z_burns_11 : decode (jm_cd mY_Z_burns) 11 = .ok (.ldc2_w 147, 3) := by decide +kernel
theorem d_Z_burns_14 : decode (jm_cd mY_Z_burns) 14 = .ok (.invokestatic 69, 3) := by decide +kernel
theorem d_Z_burns_17 : decode (jm_cd mY_Z_burns) 17 = .ok (.ifCond .ne 5, 3) := by decide +kernel
theorem d_Z_burns_20 : decode (jm_cd mY_Z_burns) 20 = .ok (.iconst (-1), 1) := by decide +kernel
theorem d_Z_burns_21 : decode (jm_cd mY_Z_burns) 21 = .ok (.ireturn, 1) := by decide +kernel
theorem d_Z_burns_22 : decode (jm_cd mY_Z_burns) 22 = .ok (.aload_n 0, 1) := by decide +kernel
theorem d_Z_burns_23 : decode (jm_cd mY_Z_burns) 23 = .ok (.invokevirtual 165, 3) := by decide +kernel
theorem d_Z_burns_26 : decode (jm_cd mY_Z_burns) 26 = .ok (.aload_n 0, 1) := by decide +kernel
theorem d_Z_burns_27 : decode (jm_cd mY_Z_burns) 27 = .ok (.getfield 52, 3) := by decide +kernel
theorem d_Z_burns_30 : decode (jm_cd mY_Z_burns) 30 = .ok (.iload_n 2, 1) := by decide +kernel
theorem d_Z_burns_31 : decode (jm_cd mY_Z_burns) 31 = .ok (.iaload, 1) := by decide +kernel
theorem d_Z_burns_32 : decode (jm_cd mY_Z_burns) 32 = .ok (.iload_n 1, 1) := by decide +kernel
theorem d_Z_burns_33 : decode (jm_cd mY_Z_burns) 33 = .ok (.ishr, 1) := by decide +kernel
theorem d_Z_burns_34 : decode (jm_cd mY_Z_burns) 34 = .ok (.iconst 1, 1) := by decide +kernel
theorem d_Z_burns_35 : decode (jm_cd mY_Z_burns) 35 = .ok (.iand, 1) := by decide +kernel
theorem d_Z_burns_36 : decode (jm_cd mY_Z_burns) 36 = .ok (.ireturn, 1) := by decide +kernel
def s_Z_burns (s : jm_M) (a0 : Int32) (a1 : Int32) : Option (Int32 × jm_M) := jm_bd (s_Z_isHill s a0) (fun v1 => (if v1 = 0 then (some ((-1), s)) else jm_bd (s_Z_in s a1.toInt64 0 59) (fun v2 => (if v2 = 0 then (some ((-1), s)) else jm_bd (s_Z_layNight s) (fun s3 => jm_ldi s3 74 60 a1 (fun v4 => (some ((v4 >>> (a0 &&& 31)) &&& 1, s3))))))))
set_option maxRecDepth 100000 in
set_option maxHeartbeats 4000000 in
theorem s_Z_burns_ok (s : jm_M) (a0 : Int32) (a1 : Int32) : jm_Sim mY_Z_burns 0 0 0 [(0, .ref 59), (1, .int a0), (2, .int a1)] [] 78 mr_154 s (s_Z_burns s a0 a1) (jm_rP 78 mr_154) := by
  unfold s_Z_burns
  refine jm_aload_n (pc := 0) (q := 0) (x := 59) d_Z_burns_0 rfl ?_
  refine jm_iload_n (pc := 1) (q := 1) (x := a0) d_Z_burns_1 rfl ?_
  refine jm_Vp (pc := 2) (Y' := mY_Z_isHill) (i := 59) (avs := [.int a0]) (rest := []) (s_Z_isHill_ok s a0) ok_Z_isHill l0_Z_burns__Z_isHill ml_Z_138 im_Z_isHill se_Z_isHill d_Z_burns_2 rfl sh_59 rfl rfl ge_59 le_59_78 rfl (Nat.le_of_ble_eq_true rfl) (Nat.le_of_ble_eq_true rfl) (Nat.le_of_ble_eq_true rfl) (Nat.le_of_ble_eq_true rfl) (fun v1 => ?_)
  refine jm_if_eq (pc := 5) (tgt := 20) d_Z_burns_5 (by decide) ?_ ?_
  · refine jm_iconst (pc := 20) (v := (-1)) d_Z_burns_20 ci_m1 ?_
    exact jm_iret (pc := 21) (x := (-1)) d_Z_burns_21 rfl rfl rfl rfl rfl
  · refine jm_iload_n (pc := 8) (q := 2) (x := a1) d_Z_burns_8 rfl ?_
    refine jm_i2l (pc := 9) d_Z_burns_9 ?_
    refine jm_lconst (pc := 10) (v := 0) d_Z_burns_10 cl_0 ?_
    refine jm_ldc2 (pc := 11) (v := 59) d_Z_burns_11 kl_Z_147 ?_
    refine jm_Sp (pc := 14) (Y' := mY_Z_in) (avs := [.long a1.toInt64, .long 0, .long 59]) (rest := []) (s_Z_in_ok s a1.toInt64 0 59) ok_Z_in l0_Z_burns__Z_in ml_Z_69 sm_Z_in d_Z_burns_14 rfl rfl (Nat.le_of_ble_eq_true rfl) (Nat.le_of_ble_eq_true rfl) (Nat.le_of_ble_eq_true rfl) (Nat.le_of_ble_eq_true rfl) (fun v2 => ?_)
    refine jm_if_ne (pc := 17) (tgt := 22) d_Z_burns_17 (by decide) ?_ ?_
    · refine jm_iconst (pc := 20) (v := (-1)) d_Z_burns_20 ci_m1 ?_
      exact jm_iret (pc := 21) (x := (-1)) d_Z_burns_21 rfl rfl rfl rfl rfl
    · refine jm_aload_n (pc := 22) (q := 0) (x := 59) d_Z_burns_22 rfl ?_
      refine jm_Vv (pc := 23) (Y' := mY_Z_layNight) (i := 59) (avs := []) (rest := []) (s_Z_layNight_ok s) ok_Z_layNight l0_Z_burns__Z_layNight ml_Z_165 im_Z_layNight se_Z_layNight d_Z_burns_23 rfl sh_59 rfl rfl ge_59 le_59_78 rfl (Nat.le_of_ble_eq_true rfl) (Nat.le_of_ble_eq_true rfl) (Nat.le_of_ble_eq_true rfl) (Nat.le_of_ble_eq_true rfl) (fun s3 => ?_)
      refine jm_aload_n (pc := 26) (q := 0) (x := 59) d_Z_burns_26 rfl ?_
      refine jm_gr (pc := 27) (i := 59) d_Z_burns_27 fo_Z_52 sh_59 ge_59 le_59_78 rfl (fun _ => rfl) mr_154_59_20 ge_74 ?_
      refine jm_iload_n (pc := 30) (q := 2) (x := a1) d_Z_burns_30 rfl ?_
      refine jm_iald (pc := 31) d_Z_burns_31 sh_74 ge_74 le_74_78 (fun v4 => ?_)
      refine jm_iload_n (pc := 32) (q := 1) (x := a0) d_Z_burns_32 rfl ?_
      refine jm_ishr (pc := 33) d_Z_burns_33 ?_
      refine jm_iconst (pc := 34) (v := 1) d_Z_burns_34 ci_1 ?_
      refine jm_iand (pc := 35) d_Z_burns_35 ?_
      exact jm_iret (pc := 36) (x := (v4 >>> (a0 &&& 31)) &&& 1) d_Z_burns_36 rfl rfl rfl rfl rfl
theorem d_X_seen_0 : decode (jm_cd mY_X_seen) 0 = .ok (.iload_n 1, 1) := by decide +kernel
theorem d_X_seen_1 : decode (jm_cd mY_X_seen) 1 = .ok (.invokestatic 117, 3) := by decide +kernel
theorem d_X_seen_4 : decode (jm_cd mY_X_seen) 4 = .ok (.ifCond .ne 5, 3) := by decide +kernel
theorem d_X_seen_7 : decode (jm_cd mY_X_seen) 7 = .ok (.iconst (-1), 1) := by decide +kernel
theorem d_X_seen_8 : decode (jm_cd mY_X_seen) 8 = .ok (.ireturn, 1) := by decide +kernel
theorem d_X_seen_9 : decode (jm_cd mY_X_seen) 9 = .ok (.aload_n 0, 1) := by decide +kernel
theorem d_X_seen_10 : decode (jm_cd mY_X_seen) 10 = .ok (.invokevirtual 131, 3) := by decide +kernel
theorem d_X_seen_13 : decode (jm_cd mY_X_seen) 13 = .ok (.iconst 0, 1) := by decide +kernel
theorem d_X_seen_14 : decode (jm_cd mY_X_seen) 14 = .ok (.istore_n 2, 1) := by decide +kernel
theorem d_X_seen_15 : decode (jm_cd mY_X_seen) 15 = .ok (.iconst 0, 1) := by decide +kernel
theorem d_X_seen_16 : decode (jm_cd mY_X_seen) 16 = .ok (.istore_n 3, 1) := by decide +kernel
theorem d_X_seen_17 : decode (jm_cd mY_X_seen) 17 = .ok (.iload_n 3, 1) := by decide +kernel
theorem d_X_seen_18 : decode (jm_cd mY_X_seen) 18 = .ok (.bipush 10, 2) := by decide +kernel
theorem d_X_seen_20 : decode (jm_cd mY_X_seen) 20 = .ok (.if_icmp .ge 27, 3) := by decide +kernel
theorem d_X_seen_23 : decode (jm_cd mY_X_seen) 23 = .ok (.aload_n 0, 1) := by decide +kernel
theorem d_X_seen_24 : decode (jm_cd mY_X_seen) 24 = .ok (.getfield 46, 3) := by decide +kernel
theorem d_X_seen_27 : decode (jm_cd mY_X_seen) 27 = .ok (.iload_n 3, 1) := by decide +kernel
theorem d_X_seen_28 : decode (jm_cd mY_X_seen) 28 = .ok (.iload_n 1, 1) := by decide +kernel
theorem d_X_seen_29 : decode (jm_cd mY_X_seen) 29 = .ok (.invokevirtual 134, 3) := by decide +kernel
theorem d_X_seen_32 : decode (jm_cd mY_X_seen) 32 = .ok (.ifCond .eq 9, 3) := by decide +kernel
theorem d_X_seen_35 : decode (jm_cd mY_X_seen) 35 = .ok (.iload_n 2, 1) := by decide +kernel
theorem d_X_seen_36 : decode (jm_cd mY_X_seen) 36 = .ok (.iconst 1, 1) := by decide +kernel
theorem d_X_seen_37 : decode (jm_cd mY_X_seen) 37 = .ok (.iload_n 3, 1) := by decide +kernel
theorem d_X_seen_38 : decode (jm_cd mY_X_seen) 38 = .ok (.ishl, 1) := by decide +kernel
theorem d_X_seen_39 : decode (jm_cd mY_X_seen) 39 = .ok (.ior, 1) := by decide +kernel
theorem d_X_seen_40 : decode (jm_cd mY_X_seen) 40 = .ok (.istore_n 2, 1) := by decide +kernel
theorem d_X_seen_41 : decode (jm_cd mY_X_seen) 41 = .ok (.iinc 3 1, 3) := by decide +kernel
theorem d_X_seen_44 : decode (jm_cd mY_X_seen) 44 = .ok (.goto (-27), 3) := by decide +kernel
theorem d_X_seen_47 : decode (jm_cd mY_X_seen) 47 = .ok (.iload_n 2, 1) := by decide +kernel
theorem d_X_seen_48 : decode (jm_cd mY_X_seen) 48 = .ok (.ireturn, 1) := by decide +kernel
def s_X_seen_L17 : Nat → Int32 → Int32 → Int32 → jm_M → Option (Int32 × jm_M)
  | 0, _, _, _, _ => none
  | n + 1, x1, x2, x3, s => (if 10 ≤ x3 then (some (x2, s)) else jm_bd (s_Ni_isLit s x3 x1) (fun v3 => (if v3 = 0 then s_X_seen_L17 n x1 x2 (x3 + 1) s else jm_vi (x2 ||| (1 <<< (x3 &&& 31))) (fun v4 => s_X_seen_L17 n x1 v4 (x3 + 1) s))))
set_option maxRecDepth 100000 in
set_option maxHeartbeats 4000000 in
theorem s_X_seen_L17_ok : ∀ (n : Nat) (x1 : Int32) (x2 : Int32) (x3 : Int32) (s : jm_M), jm_Sim mY_X_seen 0 0 17 [(0, .ref 1), (1, .int x1), (2, .int x2), (3, .int x3)] [] 78 mr_154 s (s_X_seen_L17 n x1 x2 x3 s) (jm_rP 78 mr_154) := by
  intro n
  induction n with
  | zero => intro x1 x2 x3 s; exact jm_none
  | succ n ih =>
    intro x1 x2 x3 s
    rw [s_X_seen_L17]
    refine jm_iload_n (pc := 17) (q := 3) (x := x3) d_X_seen_17 rfl ?_
    refine jm_bipush (pc := 18) (v := 10) d_X_seen_18 cb_10 ?_
    refine jm_icmp_ge (pc := 20) (tgt := 47) d_X_seen_20 (by decide) ?_ ?_
    · refine jm_iload_n (pc := 47) (q := 2) (x := x2) d_X_seen_47 rfl ?_
      exact jm_iret (pc := 48) (x := x2) d_X_seen_48 rfl rfl rfl rfl rfl
    · refine jm_aload_n (pc := 23) (q := 0) (x := 1) d_X_seen_23 rfl ?_
      refine jm_gr (pc := 24) (i := 1) d_X_seen_24 fo_X_46 sh_1 ge_1 le_1_78 rfl (fun _ => rfl) mr_154_1_8 ge_45 ?_
      refine jm_iload_n (pc := 27) (q := 3) (x := x3) d_X_seen_27 rfl ?_
      refine jm_iload_n (pc := 28) (q := 1) (x := x1) d_X_seen_28 rfl ?_
      refine jm_Vp (pc := 29) (Y' := mY_Ni_isLit) (i := 45) (avs := [.int x3, .int x1]) (rest := []) (s_Ni_isLit_ok s x3 x1) ok_Ni_isLit l0_X_seen__Ni_isLit ml_X_134 im_Ni_isLit se_Ni_isLit d_X_seen_29 rfl sh_45 rfl rfl ge_45 le_45_78 rfl (Nat.le_of_ble_eq_true rfl) (Nat.le_of_ble_eq_true rfl) (Nat.le_of_ble_eq_true rfl) (Nat.le_of_ble_eq_true rfl) (fun v3 => ?_)
      refine jm_if_eq (pc := 32) (tgt := 41) d_X_seen_32 (by decide) ?_ ?_
      · refine jm_iinc (pc := 41) (q := 3) (x := x3) (v := 1) (L2 := [(3, .int (x3 + 1)), (0, .ref 1), (1, .int x1), (2, .int x2)]) d_X_seen_41 rfl ci_1 (Nat.le_of_ble_eq_true rfl) rfl ?_
        refine jm_goto (pc := 44) (tgt := 17) d_X_seen_44 (by decide) ?_
        refine jm_sub (L2 := [(0, .ref 1), (1, .int x1), (2, .int x2), (3, .int (x3 + 1))]) [1, 2, 3, 0] rfl ?_
        exact ih x1 x2 (x3 + 1) s
      · refine jm_iload_n (pc := 35) (q := 2) (x := x2) d_X_seen_35 rfl ?_
        refine jm_iconst (pc := 36) (v := 1) d_X_seen_36 ci_1 ?_
        refine jm_iload_n (pc := 37) (q := 3) (x := x3) d_X_seen_37 rfl ?_
        refine jm_ishl (pc := 38) d_X_seen_38 ?_
        refine jm_ior (pc := 39) d_X_seen_39 ?_
        refine jm_nvi (fun v4 => ?_)
        refine jm_istore_n (pc := 40) (i := 2) (L2 := [(2, .int v4), (0, .ref 1), (1, .int x1), (3, .int x3)]) d_X_seen_40 rfl (Nat.le_of_ble_eq_true rfl) rfl ?_
        refine jm_iinc (pc := 41) (q := 3) (x := x3) (v := 1) (L2 := [(3, .int (x3 + 1)), (2, .int v4), (0, .ref 1), (1, .int x1)]) d_X_seen_41 rfl ci_1 (Nat.le_of_ble_eq_true rfl) rfl ?_
        refine jm_goto (pc := 44) (tgt := 17) d_X_seen_44 (by decide) ?_
        refine jm_sub (L2 := [(0, .ref 1), (1, .int x1), (2, .int v4), (3, .int (x3 + 1))]) [2, 3, 1, 0] rfl ?_
        exact ih x1 v4 (x3 + 1) s
def s_X_seen (s : jm_M) (a0 : Int32) : Option (Int32 × jm_M) := jm_bd (s_X_isMinute s a0) (fun v1 => (if v1 = 0 then (some ((-1), s)) else jm_bd (s_X_playNight s) (fun s2 => s_X_seen_L17 5000 a0 0 0 s2)))
set_option maxRecDepth 100000 in
set_option maxHeartbeats 4000000 in
theorem s_X_seen_ok (s : jm_M) (a0 : Int32) : jm_Sim mY_X_seen 0 0 0 [(0, .ref 1), (1, .int a0)] [] 78 mr_154 s (s_X_seen s a0) (jm_rP 78 mr_154) := by
  unfold s_X_seen
  refine jm_iload_n (pc := 0) (q := 1) (x := a0) d_X_seen_0 rfl ?_
  refine jm_Sp (pc := 1) (Y' := mY_X_isMinute) (avs := [.int a0]) (rest := []) (s_X_isMinute_ok s a0) ok_X_isMinute l0_X_seen__X_isMinute ml_X_117 sm_X_isMinute d_X_seen_1 rfl rfl (Nat.le_of_ble_eq_true rfl) (Nat.le_of_ble_eq_true rfl) (Nat.le_of_ble_eq_true rfl) (Nat.le_of_ble_eq_true rfl) (fun v1 => ?_)
  refine jm_if_ne (pc := 4) (tgt := 9) d_X_seen_4 (by decide) ?_ ?_
  · refine jm_iconst (pc := 7) (v := (-1)) d_X_seen_7 ci_m1 ?_
    exact jm_iret (pc := 8) (x := (-1)) d_X_seen_8 rfl rfl rfl rfl rfl
  · refine jm_aload_n (pc := 9) (q := 0) (x := 1) d_X_seen_9 rfl ?_
    refine jm_Vv (pc := 10) (Y' := mY_X_playNight) (i := 1) (avs := []) (rest := []) (s_X_playNight_ok s) ok_X_playNight l0_X_seen__X_playNight ml_X_131 im_X_playNight se_X_playNight d_X_seen_10 rfl sh_1 rfl rfl ge_1 le_1_78 rfl (Nat.le_of_ble_eq_true rfl) (Nat.le_of_ble_eq_true rfl) (Nat.le_of_ble_eq_true rfl) (Nat.le_of_ble_eq_true rfl) (fun s2 => ?_)
    refine jm_iconst (pc := 13) (v := 0) d_X_seen_13 ci_0 ?_
    refine jm_istore_n (pc := 14) (i := 2) (L2 := [(2, .int 0), (0, .ref 1), (1, .int a0)]) d_X_seen_14 rfl (Nat.le_of_ble_eq_true rfl) rfl ?_
    refine jm_iconst (pc := 15) (v := 0) d_X_seen_15 ci_0 ?_
    refine jm_istore_n (pc := 16) (i := 3) (L2 := [(3, .int 0), (2, .int 0), (0, .ref 1), (1, .int a0)]) d_X_seen_16 rfl (Nat.le_of_ble_eq_true rfl) rfl ?_
    refine jm_sub (L2 := [(0, .ref 1), (1, .int a0), (2, .int 0), (3, .int 0)]) [2, 3, 1, 0] rfl ?_
    exact s_X_seen_L17_ok 5000 a0 0 0 s2
