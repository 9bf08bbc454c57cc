theorem d_X_isMan_0 : decode (jm_cd mY_X_isMan) 0 = .ok (.iload_n 0, 1) := by decide +kernel
theorem d_X_isMan_1 : decode (jm_cd mY_X_isMan) 1 = .ok (.iconst (-1), 1) := by decide +kernel
theorem d_X_isMan_2 : decode (jm_cd mY_X_isMan) 2 = .ok (.if_icmp .lt 13, 3) := by decide +kernel
theorem d_X_isMan_5 : decode (jm_cd mY_X_isMan) 5 = .ok (.iload_n 0, 1) := by decide +kernel
theorem d_X_isMan_6 : decode (jm_cd mY_X_isMan) 6 = .ok (.bipush 12, 2) := by decide +kernel
theorem d_X_isMan_8 : decode (jm_cd mY_X_isMan) 8 = .ok (.if_icmp .gt 7, 3) := by decide +kernel
theorem d_X_isMan_11 : decode (jm_cd mY_X_isMan) 11 = .ok (.iconst 1, 1) := by decide +kernel
theorem d_X_isMan_12 : decode (jm_cd mY_X_isMan) 12 = .ok (.goto 4, 3) := by decide +kernel
theorem d_X_isMan_15 : decode (jm_cd mY_X_isMan) 15 = .ok (.iconst 0, 1) := by decide +kernel
theorem d_X_isMan_16 : decode (jm_cd mY_X_isMan) 16 = .ok (.ireturn, 1) := by decide +kernel
def s_X_isMan (s : jm_M) (a0 : Int32) : Option Int32 := (if a0 < (-1) then (some 0) else (if 12 < a0 then (some 0) else (some 1)))
set_option maxRecDepth 100000 in
set_option maxHeartbeats 4000000 in
theorem s_X_isMan_ok (s : jm_M) (a0 : Int32) : jm_Sim mY_X_isMan 0 0 0 [(0, .int a0)] [] 78 mr_154 s (s_X_isMan s a0) (jm_rI 78 mr_154 s) := by
  unfold s_X_isMan
  refine jm_iload_n (pc := 0) (q := 0) (x := a0) d_X_isMan_0 rfl ?_
  refine jm_iconst (pc := 1) (v := (-1)) d_X_isMan_1 ci_m1 ?_
  refine jm_icmp_lt (pc := 2) (tgt := 15) d_X_isMan_2 (by decide) ?_ ?_
  · refine jm_iconst (pc := 15) (v := 0) d_X_isMan_15 ci_0 ?_
    exact jm_iret (pc := 16) (x := 0) d_X_isMan_16 rfl (by decide) rfl rfl rfl
  · refine jm_iload_n (pc := 5) (q := 0) (x := a0) d_X_isMan_5 rfl ?_
    refine jm_bipush (pc := 6) (v := 12) d_X_isMan_6 cb_12 ?_
    refine jm_icmp_gt (pc := 8) (tgt := 15) d_X_isMan_8 (by decide) ?_ ?_
    · refine jm_iconst (pc := 15) (v := 0) d_X_isMan_15 ci_0 ?_
      exact jm_iret (pc := 16) (x := 0) d_X_isMan_16 rfl (by decide) rfl rfl rfl
    · refine jm_iconst (pc := 11) (v := 1) d_X_isMan_11 ci_1 ?_
      refine jm_goto (pc := 12) (tgt := 16) d_X_isMan_12 (by decide) ?_
      exact jm_iret (pc := 16) (x := 1) d_X_isMan_16 rfl (by decide) rfl rfl rfl
theorem d_Wa_come_0 : decode (jm_cd mY_Wa_come) 0 = .ok (.aload_n 0, 1) := by decide +kernel
theorem d_Wa_come_1 : decode (jm_cd mY_Wa_come) 1 = .ok (.getfield 9, 3) := by decide +kernel
theorem d_Wa_come_4 : decode (jm_cd mY_Wa_come) 4 = .ok (.iconst 0, 1) := by decide +kernel
theorem d_Wa_come_5 : decode (jm_cd mY_Wa_come) 5 = .ok (.iload_n 1, 1) := by decide +kernel
theorem d_Wa_come_6 : decode (jm_cd mY_Wa_come) 6 = .ok (.iastore, 1) := by decide +kernel
theorem d_Wa_come_7 : decode (jm_cd mY_Wa_come) 7 = .ok (.aload_n 0, 1) := by decide +kernel
theorem d_Wa_come_8 : decode (jm_cd mY_Wa_come) 8 = .ok (.getfield 9, 3) := by decide +kernel
theorem d_Wa_come_11 : decode (jm_cd mY_Wa_come) 11 = .ok (.iconst 1, 1) := by decide +kernel
theorem d_Wa_come_12 : decode (jm_cd mY_Wa_come) 12 = .ok (.iload_n 2, 1) := by decide +kernel
theorem d_Wa_come_13 : decode (jm_cd mY_Wa_come) 13 = .ok (.iastore, 1) := by decide +kernel
theorem d_Wa_come_14 : decode (jm_cd mY_Wa_come) 14 = .ok (.aload_n 0, 1) := by decide +kernel
theorem d_Wa_come_15 : decode (jm_cd mY_Wa_come) 15 = .ok (.getfield 9, 3) := by decide +kernel
theorem d_Wa_come_18 : decode (jm_cd mY_Wa_come) 18 = .ok (.iconst 2, 1) := by decide +kernel
theorem d_Wa_come_19 : decode (jm_cd mY_Wa_come) 19 = .ok (.iload_n 3, 1) := by decide +kernel
theorem d_Wa_come_20 : decode (jm_cd mY_Wa_come) 20 = .ok (.iastore, 1) := by decide +kernel
theorem d_Wa_come_21 : decode (jm_cd mY_Wa_come) 21 = .ok (.aload_n 0, 1) := by decide +kernel
theorem d_Wa_come_22 : decode (jm_cd mY_Wa_come) 22 = .ok (.getfield 9, 3) := by decide +kernel
theorem d_Wa_come_25 : decode (jm_cd mY_Wa_come) 25 = .ok (.iconst 3, 1) := by decide +kernel
theorem d_Wa_come_26 : decode (jm_cd mY_Wa_come) 26 = .ok (.iload 4, 2) := by decide +kernel
theorem d_Wa_come_28 : decode (jm_cd mY_Wa_come) 28 = .ok (.iastore, 1) := by decide +kernel
theorem d_Wa_come_29 : decode (jm_cd mY_Wa_come) 29 = .ok (.return_, 1) := by decide +kernel
def s_Wa_come (s : jm_M) (a0 : Int32) (a1 : Int32) (a2 : Int32) (a3 : Int32) : Option jm_M := jm_sti s 56 4 0 a0 (fun s1 => jm_sti s1 56 4 1 a1 (fun s2 => jm_sti s2 56 4 2 a2 (fun s3 => jm_sti s3 56 4 3 a3 (fun s4 => (some s4)))))
set_option maxRecDepth 100000 in
set_option maxHeartbeats 4000000 in
theorem s_Wa_come_ok (s : jm_M) (a0 : Int32) (a1 : Int32) (a2 : Int32) (a3 : Int32) : jm_Sim mY_Wa_come 0 0 0 [(0, .ref 55), (1, .int a0), (2, .int a1), (3, .int a2), (4, .int a3)] [] 78 mr_154 s (s_Wa_come s a0 a1 a2 a3) (jm_rV 78 mr_154) := by
  unfold s_Wa_come
  refine jm_aload_n (pc := 0) (q := 0) (x := 55) d_Wa_come_0 rfl ?_
  refine jm_gr (pc := 1) (i := 55) d_Wa_come_1 fo_Wa_9 sh_55 ge_55 le_55_78 rfl (fun _ => rfl) mr_154_55_0 ge_56 ?_
  refine jm_iconst (pc := 4) (v := 0) d_Wa_come_4 ci_0 ?_
  refine jm_iload_n (pc := 5) (q := 1) (x := a0) d_Wa_come_5 rfl ?_
  refine jm_iast (pc := 6) d_Wa_come_6 sh_56 ge_56 le_56_78 (fun s1 => ?_)
  refine jm_aload_n (pc := 7) (q := 0) (x := 55) d_Wa_come_7 rfl ?_
  refine jm_gr (pc := 8) (i := 55) d_Wa_come_8 fo_Wa_9 sh_55 ge_55 le_55_78 rfl (fun _ => rfl) mr_154_55_0 ge_56 ?_
  refine jm_iconst (pc := 11) (v := 1) d_Wa_come_11 ci_1 ?_
  refine jm_iload_n (pc := 12) (q := 2) (x := a1) d_Wa_come_12 rfl ?_
  refine jm_iast (pc := 13) d_Wa_come_13 sh_56 ge_56 le_56_78 (fun s2 => ?_)
  refine jm_aload_n (pc := 14) (q := 0) (x := 55) d_Wa_come_14 rfl ?_
  refine jm_gr (pc := 15) (i := 55) d_Wa_come_15 fo_Wa_9 sh_55 ge_55 le_55_78 rfl (fun _ => rfl) mr_154_55_0 ge_56 ?_
  refine jm_iconst (pc := 18) (v := 2) d_Wa_come_18 ci_2 ?_
  refine jm_iload_n (pc := 19) (q := 3) (x := a2) d_Wa_come_19 rfl ?_
  refine jm_iast (pc := 20) d_Wa_come_20 sh_56 ge_56 le_56_78 (fun s3 => ?_)
  refine jm_aload_n (pc := 21) (q := 0) (x := 55) d_Wa_come_21 rfl ?_
  refine jm_gr (pc := 22) (i := 55) d_Wa_come_22 fo_Wa_9 sh_55 ge_55 le_55_78 rfl (fun _ => rfl) mr_154_55_0 ge_56 ?_
  refine jm_iconst (pc := 25) (v := 3) d_Wa_come_25 ci_3 ?_
  refine jm_iload (pc := 26) (q := 4) (x := a3) d_Wa_come_26 rfl ?_
  refine jm_iast (pc := 28) d_Wa_come_28 sh_56 ge_56 le_56_78 (fun s4 => ?_)
  exact jm_vret (pc := 29) d_Wa_come_29 rfl rfl rfl rfl
theorem d_Wa_nextAwake_0 : decode (jm_cd mY_Wa_nextAwake) 0 = .ok (.iconst (-1), 1) := by decide +kernel
theorem d_Wa_nextAwake_1 : decode (jm_cd mY_Wa_nextAwake) 1 = .ok (.istore_n 2, 1) := by decide +kernel
theorem d_Wa_nextAwake_2 : decode (jm_cd mY_Wa_nextAwake) 2 = .ok (.iconst 0, 1) := by decide +kernel
theorem d_Wa_nextAwake_3 : decode (jm_cd mY_Wa_nextAwake) 3 = .ok (.istore_n 3, 1) := by decide +kernel
theorem d_Wa_nextAwake_4 : decode (jm_cd mY_Wa_nextAwake) 4 = .ok (.iconst 0, 1) := by decide +kernel
theorem d_Wa_nextAwake_5 : decode (jm_cd mY_Wa_nextAwake) 5 = .ok (.istore 4, 2) := by decide +kernel
theorem d_Wa_nextAwake_7 : decode (jm_cd mY_Wa_nextAwake) 7 = .ok (.iload 4, 2) := by decide +kernel
theorem d_Wa_nextAwake_9 : decode (jm_cd mY_Wa_nextAwake) 9 = .ok (.iconst 4, 1) := by decide +kernel
theorem d_Wa_nextAwake_10 : decode (jm_cd mY_Wa_nextAwake) 10 = .ok (.if_icmp .ge 37, 3) := by decide +kernel
theorem d_Wa_nextAwake_13 : decode (jm_cd mY_Wa_nextAwake) 13 = .ok (.iload 4, 2) := by decide +kernel
theorem d_Wa_nextAwake_15 : decode (jm_cd mY_Wa_nextAwake) 15 = .ok (.iload_n 1, 1) := by decide +kernel
theorem d_Wa_nextAwake_16 : decode (jm_cd mY_Wa_nextAwake) 16 = .ok (.if_icmp .eq 25, 3) := by decide +kernel
theorem d_Wa_nextAwake_19 : decode (jm_cd mY_Wa_nextAwake) 19 = .ok (.aload_n 0, 1) := by decide +kernel
theorem d_Wa_nextAwake_20 : decode (jm_cd mY_Wa_nextAwake) 20 = .ok (.getfield 9, 3) := by decide +kernel
theorem d_Wa_nextAwake_23 : decode (jm_cd mY_Wa_nextAwake) 23 = .ok (.iload 4, 2) := by decide +kernel
theorem d_Wa_nextAwake_25 : decode (jm_cd mY_Wa_nextAwake) 25 = .ok (.iaload, 1) := by decide +kernel
theorem d_Wa_nextAwake_26 : decode (jm_cd mY_Wa_nextAwake) 26 = .ok (.iload_n 3, 1) := by decide +kernel
theorem d_Wa_nextAwake_27 : decode (jm_cd mY_Wa_nextAwake) 27 = .ok (.if_icmp .le 14, 3) := by decide +kernel
theorem d_Wa_nextAwake_30 : decode (jm_cd mY_Wa_nextAwake) 30 = .ok (.iload 4, 2) := by decide +kernel
theorem d_Wa_nextAwake_32 : decode (jm_cd mY_Wa_nextAwake) 32 = .ok (.istore_n 2, 1) := by decide +kernel
theorem d_Wa_nextAwake_33 : decode (jm_cd mY_Wa_nextAwake) 33 = .ok (.aload_n 0, 1) := by decide +kernel
theorem d_Wa_nextAwake_34 : decode (jm_cd mY_Wa_nextAwake) 34 = .ok (.getfield 9, 3) := by decide +kernel
theorem d_Wa_nextAwake_37 : decode (jm_cd mY_Wa_nextAwake) 37 = .ok (.iload 4, 2) := by decide +kernel
theorem d_Wa_nextAwake_39 : decode (jm_cd mY_Wa_nextAwake) 39 = .ok (.iaload, 1) := by decide +kernel
theorem d_Wa_nextAwake_40 : decode (jm_cd mY_Wa_nextAwake) 40 = .ok (.istore_n 3, 1) := by decide +kernel
theorem d_Wa_nextAwake_41 : decode (jm_cd mY_Wa_nextAwake) 41 = .ok (.iinc 4 1, 3) := by decide +kernel
theorem d_Wa_nextAwake_44 : decode (jm_cd mY_Wa_nextAwake) 44 = .ok (.goto (-37), 3) := by decide +kernel
theorem d_Wa_nextAwake_47 : decode (jm_cd mY_Wa_nextAwake) 47 = .ok (.iload_n 2, 1) := by decide +kernel
theorem d_Wa_nextAwake_48 : decode (jm_cd mY_Wa_nextAwake) 48 = .ok (.ireturn, 1) := by decide +kernel
def s_Wa_nextAwake_L7 (s : jm_M) : Nat → Int32 → Int32 → Int32 → Int32 → Option Int32
  | 0, _, _, _, _ => none
  | n + 1, x1, x2, x3, x4 => (if 4 ≤ x4 then (some x2) else (if x4 = x1 then s_Wa_nextAwake_L7 s n x1 x2 x3 (x4 + 1) else jm_ldi s 56 4 x4 (fun v1 => (if v1 ≤ x3 then s_Wa_nextAwake_L7 s n x1 x2 x3 (x4 + 1) else jm_ldi s 56 4 x4 (fun v2 => s_Wa_nextAwake_L7 s n x1 x4 v2 (x4 + 1))))))
set_option maxRecDepth 100000 in
set_option maxHeartbeats 4000000 in
theorem s_Wa_nextAwake_L7_ok (s : jm_M) : ∀ (n : Nat) (x1 : Int32) (x2 : Int32) (x3 : Int32) (x4 : Int32), jm_Sim mY_Wa_nextAwake 0 0 7 [(0, .ref 55), (1, .int x1), (2, .int x2), (3, .int x3), (4, .int x4)] [] 78 mr_154 s (s_Wa_nextAwake_L7 s n x1 x2 x3 x4) (jm_rI 78 mr_154 s) := by
  intro n
  induction n with
  | zero => intro x1 x2 x3 x4; exact jm_none
  | succ n ih =>
    intro x1 x2 x3 x4
    rw [s_Wa_nextAwake_L7]
    refine jm_iload (pc := 7) (q := 4) (x := x4) d_Wa_nextAwake_7 rfl ?_
    refine jm_iconst (pc := 9) (v := 4) d_Wa_nextAwake_9 ci_4 ?_
    refine jm_icmp_ge (pc := 10) (tgt := 47) d_Wa_nextAwake_10 (by decide) ?_ ?_
    · refine jm_iload_n (pc := 47) (q := 2) (x := x2) d_Wa_nextAwake_47 rfl ?_
      exact jm_iret (pc := 48) (x := x2) d_Wa_nextAwake_48 rfl rfl rfl rfl rfl
    · refine jm_iload (pc := 13) (q := 4) (x := x4) d_Wa_nextAwake_13 rfl ?_
      refine jm_iload_n (pc := 15) (q := 1) (x := x1) d_Wa_nextAwake_15 rfl ?_
      refine jm_icmp_eq (pc := 16) (tgt := 41) d_Wa_nextAwake_16 (by decide) ?_ ?_
      · refine jm_iinc (pc := 41) (q := 4) (x := x4) (v := 1) (L2 := [(4, .int (x4 + 1)), (0, .ref 55), (1, .int x1), (2, .int x2), (3, .int x3)]) d_Wa_nextAwake_41 rfl ci_1 (Nat.le_of_ble_eq_true rfl) rfl ?_
        refine jm_goto (pc := 44) (tgt := 7) d_Wa_nextAwake_44 (by decide) ?_
        refine jm_sub (L2 := [(0, .ref 55), (1, .int x1), (2, .int x2), (3, .int x3), (4, .int (x4 + 1))]) [1, 2, 3, 4, 0] rfl ?_
        exact ih x1 x2 x3 (x4 + 1)
      · refine jm_aload_n (pc := 19) (q := 0) (x := 55) d_Wa_nextAwake_19 rfl ?_
        refine jm_gr (pc := 20) (i := 55) d_Wa_nextAwake_20 fo_Wa_9 sh_55 ge_55 le_55_78 rfl (fun _ => rfl) mr_154_55_0 ge_56 ?_
        refine jm_iload (pc := 23) (q := 4) (x := x4) d_Wa_nextAwake_23 rfl ?_
        refine jm_iald (pc := 25) d_Wa_nextAwake_25 sh_56 ge_56 le_56_78 (fun v1 => ?_)
        refine jm_iload_n (pc := 26) (q := 3) (x := x3) d_Wa_nextAwake_26 rfl ?_
        refine jm_icmp_le (pc := 27) (tgt := 41) d_Wa_nextAwake_27 (by decide) ?_ ?_
        · refine jm_iinc (pc := 41) (q := 4) (x := x4) (v := 1) (L2 := [(4, .int (x4 + 1)), (0, .ref 55), (1, .int x1), (2, .int x2), (3, .int x3)]) d_Wa_nextAwake_41 rfl ci_1 (Nat.le_of_ble_eq_true rfl) rfl ?_
          refine jm_goto (pc := 44) (tgt := 7) d_Wa_nextAwake_44 (by decide) ?_
          refine jm_sub (L2 := [(0, .ref 55), (1, .int x1), (2, .int x2), (3, .int x3), (4, .int (x4 + 1))]) [1, 2, 3, 4, 0] rfl ?_
          exact ih x1 x2 x3 (x4 + 1)
        · refine jm_iload (pc := 30) (q := 4) (x := x4) d_Wa_nextAwake_30 rfl ?_
          refine jm_istore_n (pc := 32) (i := 2) (L2 := [(2, .int x4), (0, .ref 55), (1, .int x1), (3, .int x3), (4, .int x4)]) d_Wa_nextAwake_32 rfl (Nat.le_of_ble_eq_true rfl) rfl ?_
          refine jm_aload_n (pc := 33) (q := 1) (x := 55) d_Wa_nextAwake_33 rfl ?_
          refine jm_gr (pc := 34) (i := 55) d_Wa_nextAwake_34 fo_Wa_9 sh_55 ge_55 le_55_78 rfl (fun _ => rfl) mr_154_55_0 ge_56 ?_
          refine jm_iload (pc := 37) (q := 4) (x := x4) d_Wa_nextAwake_37 rfl ?_
          refine jm_iald (pc := 39) d_Wa_nextAwake_39 sh_56 ge_56 le_56_78 (fun v2 => ?_)
          refine jm_istore_n (pc := 40) (i := 3) (L2 := [(3, .int v2), (2, .int x4), (0, .ref 55), (1, .int x1), (4, .int x4)]) d_Wa_nextAwake_40 rfl (Nat.le_of_ble_eq_true rfl) rfl ?_
          refine jm_iinc (pc := 41) (q := 4) (x := x4) (v := 1) (L2 := [(4, .int (x4 + 1)), (3, .int v2), (2, .int x4), (0, .ref 55), (1, .int x1)]) d_Wa_nextAwake_41 rfl ci_1 (Nat.le_of_ble_eq_true rfl) rfl ?_
          refine jm_goto (pc := 44) (tgt := 7) d_Wa_nextAwake_44 (by decide) ?_
          refine jm_sub (L2 := [(0, .ref 55), (1, .int x1), (2, .int x4), (3, .int v2), (4, .int (x4 + 1))]) [3, 4, 2, 1, 0] rfl ?_
          exact ih x1 x4 v2 (x4 + 1)
def s_Wa_nextAwake (s : jm_M) (a0 : Int32) : Option Int32 := s_Wa_nextAwake_L7 s 5000 a0 (-1) 0 0
set_option maxRecDepth 100000 in
set_option maxHeartbeats 4000000 in
theorem s_Wa_nextAwake_ok (s : jm_M) (a0 : Int32) : jm_Sim mY_Wa_nextAwake 0 0 0 [(0, .ref 55), (1, .int a0)] [] 78 mr_154 s (s_Wa_nextAwake s a0) (jm_rI 78 mr_154 s) := by
  unfold s_Wa_nextAwake
  refine jm_iconst (pc := 0) (v := (-1)) d_Wa_nextAwake_0 ci_m1 ?_
  refine jm_istore_n (pc := 1) (i := 2) (L2 := [(2, .int (-1)), (0, .ref 55), (1, .int a0)]) d_Wa_nextAwake_1 rfl (Nat.le_of_ble_eq_true rfl) rfl ?_
  refine jm_iconst (pc := 2) (v := 0) d_Wa_nextAwake_2 ci_0 ?_
  refine jm_istore_n (pc := 3) (i := 3) (L2 := [(3, .int 0), (2, .int (-1)), (0, .ref 55), (1, .int a0)]) d_Wa_nextAwake_3 rfl (Nat.le_of_ble_eq_true rfl) rfl ?_
  refine jm_iconst (pc := 4) (v := 0) d_Wa_nextAwake_4 ci_0 ?_
  refine jm_istore (pc := 5) (L2 := [(4, .int 0), (3, .int 0), (2, .int (-1)), (0, .ref 55), (1, .int a0)]) d_Wa_nextAwake_5 (Nat.le_of_ble_eq_true rfl) rfl ?_
  refine jm_sub (L2 := [(0, .ref 55), (1, .int a0), (2, .int (-1)), (3, .int 0), (4, .int 0)]) [3, 4, 2, 1, 0] rfl ?_
  exact s_Wa_nextAwake_L7_ok s 5000 a0 (-1) 0 0
theorem d_Wa_hoursWatched_0 : decode (jm_cd mY_Wa_hoursWatched) 0 = .ok (.iconst 0, 1) := by decide +kernel
theorem d_Wa_hoursWatched_1 : decode (jm_cd mY_Wa_hoursWatched) 1 = .ok (.istore_n 2, 1) := by decide +kernel
theorem d_Wa_hoursWatched_2 : decode (jm_cd mY_Wa_hoursWatched) 2 = .ok (.iconst (-1), 1) := by decide +kernel
theorem d_Wa_hoursWatched_3 : decode (jm_cd mY_Wa_hoursWatched) 3 = .ok (.istore_n 3, 1) := by decide +kernel
theorem d_Wa_hoursWatched_4 : decode (jm_cd mY_Wa_hoursWatched) 4 = .ok (.iconst 0, 1) := by decide +kernel
theorem d_Wa_hoursWatched_5 : decode (jm_cd mY_Wa_hoursWatched) 5 = .ok (.istore 4, 2) := by decide +kernel
theorem d_Wa_hoursWatched_7 : decode (jm_cd mY_Wa_hoursWatched) 7 = .ok (.iload 4, 2) := by decide +kernel
theorem d_Wa_hoursWatched_9 : decode (jm_cd mY_Wa_hoursWatched) 9 = .ok (.iload_n 1, 1) := by decide +kernel
theorem d_Wa_hoursWatched_10 : decode (jm_cd mY_Wa_hoursWatched) 10 = .ok (.if_icmp .ge 37, 3) := by decide +kernel
theorem d_Wa_hoursWatched_13 : decode (jm_cd mY_Wa_hoursWatched) 13 = .ok (.aload_n 0, 1) := by decide +kernel
theorem d_Wa_hoursWatched_14 : decode (jm_cd mY_Wa_hoursWatched) 14 = .ok (.iload_n 3, 1) := by decide +kernel
theorem d_Wa_hoursWatched_15 : decode (jm_cd mY_Wa_hoursWatched) 15 = .ok (.invokevirtual 15, 3) := by decide +kernel
theorem d_Wa_hoursWatched_18 : decode (jm_cd mY_Wa_hoursWatched) 18 = .ok (.istore_n 3, 1) := by decide +kernel
theorem d_Wa_hoursWatched_19 : decode (jm_cd mY_Wa_hoursWatched) 19 = .ok (.iload_n 3, 1) := by decide +kernel
theorem d_Wa_hoursWatched_20 : decode (jm_cd mY_Wa_hoursWatched) 20 = .ok (.ifCond .lt 21, 3) := by decide +kernel
theorem d_Wa_hoursWatched_23 : decode (jm_cd mY_Wa_hoursWatched) 23 = .ok (.iload_n 3, 1) := by decide +kernel
theorem d_Wa_hoursWatched_24 : decode (jm_cd mY_Wa_hoursWatched) 24 = .ok (.iconst 4, 1) := by decide +kernel
theorem d_Wa_hoursWatched_25 : decode (jm_cd mY_Wa_hoursWatched) 25 = .ok (.if_icmp .ge 16, 3) := by decide +kernel
theorem d_Wa_hoursWatched_28 : decode (jm_cd mY_Wa_hoursWatched) 28 = .ok (.aload_n 0, 1) := by decide +kernel
theorem d_Wa_hoursWatched_29 : decode (jm_cd mY_Wa_hoursWatched) 29 = .ok (.getfield 9, 3) := by decide +kernel
theorem d_Wa_hoursWatched_32 : decode (jm_cd mY_Wa_hoursWatched) 32 = .ok (.iload_n 3, 1) := by decide +kernel
theorem d_Wa_hoursWatched_33 : decode (jm_cd mY_Wa_hoursWatched) 33 = .ok (.dup2, 1) := by decide +kernel
theorem d_Wa_hoursWatched_34 : decode (jm_cd mY_Wa_hoursWatched) 34 = .ok (.iaload, 1) := by decide +kernel
theorem d_Wa_hoursWatched_35 : decode (jm_cd mY_Wa_hoursWatched) 35 = .ok (.iconst 1, 1) := by decide +kernel
theorem d_Wa_hoursWatched_36 : decode (jm_cd mY_Wa_hoursWatched) 36 = .ok (.isub, 1) := by decide +kernel
theorem d_Wa_hoursWatched_37 : decode (jm_cd mY_Wa_hoursWatched) 37 = .ok (.iastore, 1) := by decide +kernel
theorem d_Wa_hoursWatched_38 : decode (jm_cd mY_Wa_hoursWatched) 38 = .ok (.iinc 2 1, 3) := by decide +kernel
theorem d_Wa_hoursWatched_41 : decode (jm_cd mY_Wa_hoursWatched) 41 = .ok (.iinc 4 1, 3) := by decide +kernel
theorem d_Wa_hoursWatched_44 : decode (jm_cd mY_Wa_hoursWatched) 44 = .ok (.goto (-37), 3) := by decide +kernel
theorem d_Wa_hoursWatched_47 : decode (jm_cd mY_Wa_hoursWatched) 47 = .ok (.iload_n 2, 1) := by decide +kernel
theorem d_Wa_hoursWatched_48 : decode (jm_cd mY_Wa_hoursWatched) 48 = .ok (.ireturn, 1) := by decide +kernel
def s_Wa_hoursWatched_L7 : Nat → Int32 → Int32 → Int32 → Int32 → jm_M → Option (Int32 × jm_M)
  | 0, _, _, _, _, _ => none
  | n + 1, x1, x2, x3, x4, s => (if x1 ≤ x4 then (some (x2, s)) else jm_bd (s_Wa_nextAwake s x3) (fun v1 => (if v1 < 0 then s_Wa_hoursWatched_L7 n x1 x2 v1 (x4 + 1) s else (if 4 ≤ v1 then s_Wa_hoursWatched_L7 n x1 x2 v1 (x4 + 1) s else jm_ldi s 56 4 v1 (fun v2 => jm_sti s 56 4 v1 (v2 - 1) (fun s3 => s_Wa_hoursWatched_L7 n x1 (x2 + 1) v1 (x4 + 1) s3))))))
set_option maxRecDepth 100000 in
set_option maxHeartbeats 4000000 in
theorem s_Wa_hoursWatched_L7_ok : ∀ (n : Nat) (x1 : Int32) (x2 : Int32) (x3 : Int32) (x4 : Int32) (s : jm_M), jm_Sim mY_Wa_hoursWatched 0 0 7 [(0, .ref 55), (1, .int x1), (2, .int x2), (3, .int x3), (4, .int x4)] [] 78 mr_154 s (s_Wa_hoursWatched_L7 n x1 x2 x3 x4 s) (jm_rP 78 mr_154) := by
  intro n
  induction n with
  | zero => intro x1 x2 x3 x4 s; exact jm_none
  | succ n ih =>
    intro x1 x2 x3 x4 s
    rw [s_Wa_hoursWatched_L7]
    refine jm_iload (pc := 7) (q := 4) (x := x4) d_Wa_hoursWatched_7 rfl ?_
    refine jm_iload_n (pc := 9) (q := 1) (x := x1) d_Wa_hoursWatched_9 rfl ?_
    refine jm_icmp_ge (pc := 10) (tgt := 47) d_Wa_hoursWatched_10 (by decide) ?_ ?_
    · refine jm_iload_n (pc := 47) (q := 2) (x := x2) d_Wa_hoursWatched_47 rfl ?_
      exact jm_iret (pc := 48) (x := x2) d_Wa_hoursWatched_48 rfl rfl rfl rfl rfl
    · refine jm_aload_n (pc := 13) (q := 0) (x := 55) d_Wa_hoursWatched_13 rfl ?_
      refine jm_iload_n (pc := 14) (q := 3) (x := x3) d_Wa_hoursWatched_14 rfl ?_
      refine jm_Vp (pc := 15) (Y' := mY_Wa_nextAwake) (i := 55) (avs := [.int x3]) (rest := []) (s_Wa_nextAwake_ok s x3) ok_Wa_nextAwake l0_Wa_hoursWatched__Wa_nextAwake ml_Wa_15 im_Wa_nextAwake se_Wa_nextAwake d_Wa_hoursWatched_15 rfl sh_55 rfl rfl ge_55 le_55_78 rfl (Nat.le_of_ble_eq_true rfl) (Nat.le_of_ble_eq_true rfl) (Nat.le_of_ble_eq_true rfl) (Nat.le_of_ble_eq_true rfl) (fun v1 => ?_)
      refine jm_istore_n (pc := 18) (i := 3) (L2 := [(3, .int v1), (0, .ref 55), (1, .int x1), (2, .int x2), (4, .int x4)]) d_Wa_hoursWatched_18 rfl (Nat.le_of_ble_eq_true rfl) rfl ?_
      refine jm_iload_n (pc := 19) (q := 0) (x := v1) d_Wa_hoursWatched_19 rfl ?_
      refine jm_if_lt (pc := 20) (tgt := 41) d_Wa_hoursWatched_20 (by decide) ?_ ?_
      · refine jm_iinc (pc := 41) (q := 4) (x := x4) (v := 1) (L2 := [(4, .int (x4 + 1)), (3, .int v1), (0, .ref 55), (1, .int x1), (2, .int x2)]) d_Wa_hoursWatched_41 rfl ci_1 (Nat.le_of_ble_eq_true rfl) rfl ?_
        refine jm_goto (pc := 44) (tgt := 7) d_Wa_hoursWatched_44 (by decide) ?_
        refine jm_sub (L2 := [(0, .ref 55), (1, .int x1), (2, .int x2), (3, .int v1), (4, .int (x4 + 1))]) [2, 3, 4, 1, 0] rfl ?_
        exact ih x1 x2 v1 (x4 + 1) s
      · refine jm_iload_n (pc := 23) (q := 0) (x := v1) d_Wa_hoursWatched_23 rfl ?_
        refine jm_iconst (pc := 24) (v := 4) d_Wa_hoursWatched_24 ci_4 ?_
        refine jm_icmp_ge (pc := 25) (tgt := 41) d_Wa_hoursWatched_25 (by decide) ?_ ?_
        · refine jm_iinc (pc := 41) (q := 4) (x := x4) (v := 1) (L2 := [(4, .int (x4 + 1)), (3, .int v1), (0, .ref 55), (1, .int x1), (2, .int x2)]) d_Wa_hoursWatched_41 rfl ci_1 (Nat.le_of_ble_eq_true rfl) rfl ?_
          refine jm_goto (pc := 44) (tgt := 7) d_Wa_hoursWatched_44 (by decide) ?_
          refine jm_sub (L2 := [(0, .ref 55), (1, .int x1), (2, .int x2), (3, .int v1), (4, .int (x4 + 1))]) [2, 3, 4, 1, 0] rfl ?_
          exact ih x1 x2 v1 (x4 + 1) s
        · refine jm_aload_n (pc := 28) (q := 1) (x := 55) d_Wa_hoursWatched_28 rfl ?_
          refine jm_gr (pc := 29) (i := 55) d_Wa_hoursWatched_29 fo_Wa_9 sh_55 ge_55 le_55_78 rfl (fun _ => rfl) mr_154_55_0 ge_56 ?_
          refine jm_iload_n (pc := 32) (q := 0) (x := v1) d_Wa_hoursWatched_32 rfl ?_
          refine jm_dup2 (pc := 33) d_Wa_hoursWatched_33 rfl rfl ?_
          refine jm_iald (pc := 34) d_Wa_hoursWatched_34 sh_56 ge_56 le_56_78 (fun v2 => ?_)
          refine jm_iconst (pc := 35) (v := 1) d_Wa_hoursWatched_35 ci_1 ?_
          refine jm_isub (pc := 36) d_Wa_hoursWatched_36 ?_
          refine jm_iast (pc := 37) d_Wa_hoursWatched_37 sh_56 ge_56 le_56_78 (fun s3 => ?_)
          refine jm_iinc (pc := 38) (q := 3) (x := x2) (v := 1) (L2 := [(2, .int (x2 + 1)), (3, .int v1), (0, .ref 55), (1, .int x1), (4, .int x4)]) d_Wa_hoursWatched_38 rfl ci_1 (Nat.le_of_ble_eq_true rfl) rfl ?_
          refine jm_iinc (pc := 41) (q := 4) (x := x4) (v := 1) (L2 := [(4, .int (x4 + 1)), (2, .int (x2 + 1)), (3, .int v1), (0, .ref 55), (1, .int x1)]) d_Wa_hoursWatched_41 rfl ci_1 (Nat.le_of_ble_eq_true rfl) rfl ?_
          refine jm_goto (pc := 44) (tgt := 7) d_Wa_hoursWatched_44 (by decide) ?_
          refine jm_sub (L2 := [(0, .ref 55), (1, .int x1), (2, .int (x2 + 1)), (3, .int v1), (4, .int (x4 + 1))]) [3, 4, 1, 2, 0] rfl ?_
          exact ih x1 (x2 + 1) v1 (x4 + 1) s3
def s_Wa_hoursWatched (s : jm_M) (a0 : Int32) : Option (Int32 × jm_M) := s_Wa_hoursWatched_L7 5000 a0 0 (-1) 0 s
set_option maxRecDepth 100000 in
set_option maxHeartbeats 4000000 in
theorem s_Wa_hoursWatched_ok (s : jm_M) (a0 : Int32) : jm_Sim mY_Wa_hoursWatched 0 0 0 [(0, .ref 55), (1, .int a0)] [] 78 mr_154 s (s_Wa_hoursWatched s a0) (jm_rP 78 mr_154) := by
  unfold s_Wa_hoursWatched
  refine jm_iconst (pc := 0) (v := 0) d_Wa_hoursWatched_0 ci_0 ?_
  refine jm_istore_n (pc := 1) (i := 2) (L2 := [(2, .int 0), (0, .ref 55), (1, .int a0)]) d_Wa_hoursWatched_1 rfl (Nat.le_of_ble_eq_true rfl) rfl ?_
  refine jm_iconst (pc := 2) (v := (-1)) d_Wa_hoursWatched_2 ci_m1 ?_
  refine jm_istore_n (pc := 3) (i := 3) (L2 := [(3, .int (-1)), (2, .int 0), (0, .ref 55), (1, .int a0)]) d_Wa_hoursWatched_3 rfl (Nat.le_of_ble_eq_true rfl) rfl ?_
  refine jm_iconst (pc := 4) (v := 0) d_Wa_hoursWatched_4 ci_0 ?_
  refine jm_istore (pc := 5) (L2 := [(4, .int 0), (3, .int (-1)), (2, .int 0), (0, .ref 55), (1, .int a0)]) d_Wa_hoursWatched_5 (Nat.le_of_ble_eq_true rfl) rfl ?_
  refine jm_sub (L2 := [(0, .ref 55), (1, .int a0), (2, .int 0), (3, .int (-1)), (4, .int 0)]) [3, 4, 2, 1, 0] rfl ?_
  exact s_Wa_hoursWatched_L7_ok 5000 a0 0 (-1) 0 s
theorem d_X_watch_0 : decode (jm_cd mY_X_watch) 0 = .ok (.iload_n 1, 1) := by decide +kernel
theorem d_X_watch_1 : decode (jm_cd mY_X_watch) 1 = .ok (.iconst 1, 1) := by decide +kernel
theorem d_X_watch_2 : decode (jm_cd mY_X_watch) 2 = .ok (.if_icmp .lt 39, 3) := by decide +kernel
theorem d_X_watch_5 : decode (jm_cd mY_X_watch) 5 = .ok (.iload_n 1, 1) := by decide +kernel
theorem d_X_watch_6 : decode (jm_cd mY_X_watch) 6 = .ok (.bipush 12, 2) := by decide +kernel
theorem d_X_watch_8 : decode (jm_cd mY_X_watch) 8 = .ok (.if_icmp .gt 33, 3) := by decide +kernel
theorem d_X_watch_11 : decode (jm_cd mY_X_watch) 11 = .ok (.iload_n 2, 1) := by decide +kernel
theorem d_X_watch_12 : decode (jm_cd mY_X_watch) 12 = .ok (.invokestatic 228, 3) := by decide +kernel
theorem d_X_watch_15 : decode (jm_cd mY_X_watch) 15 = .ok (.ifCond .eq 26, 3) := by decide +kernel
theorem d_X_watch_18 : decode (jm_cd mY_X_watch) 18 = .ok (.iload_n 3, 1) := by decide +kernel
theorem d_X_watch_19 : decode (jm_cd mY_X_watch) 19 = .ok (.invokestatic 228, 3) := by decide +kernel
theorem d_X_watch_22 : decode (jm_cd mY_X_watch) 22 = .ok (.ifCond .eq 19, 3) := by decide +kernel
theorem d_X_watch_25 : decode (jm_cd mY_X_watch) 25 = .ok (.iload 4, 2) := by decide +kernel
theorem d_X_watch_27 : decode (jm_cd mY_X_watch) 27 = .ok (.invokestatic 228, 3) := by decide +kernel
theorem d_X_watch_30 : decode (jm_cd mY_X_watch) 30 = .ok (.ifCond .eq 11, 3) := by decide +kernel
theorem d_X_watch_33 : decode (jm_cd mY_X_watch) 33 = .ok (.iload 5, 2) := by decide +kernel
theorem d_X_watch_35 : decode (jm_cd mY_X_watch) 35 = .ok (.invokestatic 228, 3) := by decide +kernel
theorem d_X_watch_38 : decode (jm_cd mY_X_watch) 38 = .ok (.ifCond .ne 5, 3) := by decide +kernel
theorem d_X_watch_41 : decode (jm_cd mY_X_watch) 41 = .ok (.iconst (-1), 1) := by decide +kernel
theorem d_X_watch_42 : decode (jm_cd mY_X_watch) 42 = .ok (.ireturn, 1) := by decide +kernel
theorem d_X_watch_43 : decode (jm_cd mY_X_watch) 43 = .ok (.aload_n 0, 1) := by decide +kernel
theorem d_X_watch_44 : decode (jm_cd mY_X_watch) 44 = .ok (.getfield 71, 3) := by decide +kernel
theorem d_X_watch_47 : decode (jm_cd mY_X_watch) 47 = .ok (.iload_n 2, 1) := by decide +kernel
theorem d_X_watch_48 : decode (jm_cd mY_X_watch) 48 = .ok (.iload_n 3, 1) := by decide +kernel
theorem d_X_watch_49 : decode (jm_cd mY_X_watch) 49 = .ok (.iload 4, 2) := by decide +kernel
theorem d_X_watch_51 : decode (jm_cd mY_X_watch) 51 = .ok (.iload 5, 2) := by decide +kernel
theorem d_X_watch_53 : decode (jm_cd mY_X_watch) 53 = .ok (.invokevirtual 231, 3) := by decide +kernel
theorem d_X_watch_56 : decode (jm_cd mY_X_watch) 56 = .ok (.aload_n 0, 1) := by decide +kernel
theorem d_X_watch_57 : decode (jm_cd mY_X_watch) 57 = .ok (.getfield 71, 3) := by decide +kernel
theorem d_X_watch_60 : decode (jm_cd mY_X_watch) 60 = .ok (.iload_n 1, 1) := by decide +kernel
theorem d_X_watch_61 : decode (jm_cd mY_X_watch) 61 = .ok (.invokevirtual 235, 3) := by decide +kernel
theorem d_X_watch_64 : decode (jm_cd mY_X_watch) 64 = .ok (.ireturn, 1) := by decide +kernel
def s_X_watch (s : jm_M) (a0 : Int32) (a1 : Int32) (a2 : Int32) (a3 : Int32) (a4 : Int32) : Option (Int32 × jm_M) := (if a0 < 1 then (some ((-1), s)) else (if 12 < a0 then (some ((-1), s)) else jm_bd (s_X_isMan s a1) (fun v1 => (if v1 = 0 then (some ((-1), s)) else jm_bd (s_X_isMan s a2) (fun v2 => (if v2 = 0 then (some ((-1), s)) else jm_bd (s_X_isMan s a3) (fun v3 => (if v3 = 0 then (some ((-1), s)) else jm_bd (s_X_isMan s a4) (fun v4 => (if v4 = 0 then (some ((-1), s)) else jm_bd (s_Wa_come s a1 a2 a3 a4) (fun s5 => jm_b2 (s_Wa_hoursWatched s5 a0) (fun v6 s7 => (some (v6, s7))))))))))))))
set_option maxRecDepth 100000 in
set_option maxHeartbeats 4000000 in
theorem s_X_watch_ok (s : jm_M) (a0 : Int32) (a1 : Int32) (a2 : Int32) (a3 : Int32) (a4 : Int32) : jm_Sim mY_X_watch 0 0 0 [(0, .ref 1), (1, .int a0), (2, .int a1), (3, .int a2), (4, .int a3), (5, .int a4)] [] 78 mr_154 s (s_X_watch s a0 a1 a2 a3 a4) (jm_rP 78 mr_154) := by
  unfold s_X_watch
  refine jm_iload_n (pc := 0) (q := 1) (x := a0) d_X_watch_0 rfl ?_
  refine jm_iconst (pc := 1) (v := 1) d_X_watch_1 ci_1 ?_
  refine jm_icmp_lt (pc := 2) (tgt := 41) d_X_watch_2 (by decide) ?_ ?_
  · refine jm_iconst (pc := 41) (v := (-1)) d_X_watch_41 ci_m1 ?_
    exact jm_iret (pc := 42) (x := (-1)) d_X_watch_42 rfl rfl rfl rfl rfl
  · refine jm_iload_n (pc := 5) (q := 1) (x := a0) d_X_watch_5 rfl ?_
    refine jm_bipush (pc := 6) (v := 12) d_X_watch_6 cb_12 ?_
    refine jm_icmp_gt (pc := 8) (tgt := 41) d_X_watch_8 (by decide) ?_ ?_
    · refine jm_iconst (pc := 41) (v := (-1)) d_X_watch_41 ci_m1 ?_
      exact jm_iret (pc := 42) (x := (-1)) d_X_watch_42 rfl rfl rfl rfl rfl
    · refine jm_iload_n (pc := 11) (q := 2) (x := a1) d_X_watch_11 rfl ?_
      refine jm_Sp (pc := 12) (Y' := mY_X_isMan) (avs := [.int a1]) (rest := []) (s_X_isMan_ok s a1) ok_X_isMan l0_X_watch__X_isMan ml_X_228 sm_X_isMan d_X_watch_12 rfl rfl (Nat.le_of_ble_eq_true rfl) (Nat.le_of_ble_eq_true rfl) (Nat.le_of_ble_eq_true rfl) (Nat.le_of_ble_eq_true rfl) (fun v1 => ?_)
      refine jm_if_eq (pc := 15) (tgt := 41) d_X_watch_15 (by decide) ?_ ?_
      · refine jm_iconst (pc := 41) (v := (-1)) d_X_watch_41 ci_m1 ?_
        exact jm_iret (pc := 42) (x := (-1)) d_X_watch_42 rfl rfl rfl rfl rfl
      · refine jm_iload_n (pc := 18) (q := 3) (x := a2) d_X_watch_18 rfl ?_
        refine jm_Sp (pc := 19) (Y' := mY_X_isMan) (avs := [.int a2]) (rest := []) (s_X_isMan_ok s a2) ok_X_isMan l0_X_watch__X_isMan ml_X_228 sm_X_isMan d_X_watch_19 rfl rfl (Nat.le_of_ble_eq_true rfl) (Nat.le_of_ble_eq_true rfl) (Nat.le_of_ble_eq_true rfl) (Nat.le_of_ble_eq_true rfl) (fun v2 => ?_)
        refine jm_if_eq (pc := 22) (tgt := 41) d_X_watch_22 (by decide) ?_ ?_
        · refine jm_iconst (pc := 41) (v := (-1)) d_X_watch_41 ci_m1 ?_
          exact jm_iret (pc := 42) (x := (-1)) d_X_watch_42 rfl rfl rfl rfl rfl
        · refine jm_iload (pc := 25) (q := 4) (x := a3) d_X_watch_25 rfl ?_
          refine jm_Sp (pc := 27) (Y' := mY_X_isMan) (avs := [.int a3]) (rest := []) (s_X_isMan_ok s a3) ok_X_isMan l0_X_watch__X_isMan ml_X_228 sm_X_isMan d_X_watch_27 rfl rfl (Nat.le_of_ble_eq_true rfl) (Nat.le_of_ble_eq_true rfl) (Nat.le_of_ble_eq_true rfl) (Nat.le_of_ble_eq_true rfl) (fun v3 => ?_)
          refine jm_if_eq (pc := 30) (tgt := 41) d_X_watch_30 (by decide) ?_ ?_
          · refine jm_iconst (pc := 41) (v := (-1)) d_X_watch_41 ci_m1 ?_
            exact jm_iret (pc := 42) (x := (-1)) d_X_watch_42 rfl rfl rfl rfl rfl
          · refine jm_iload (pc := 33) (q := 5) (x := a4) d_X_watch_33 rfl ?_
            refine jm_Sp (pc := 35) (Y' := mY_X_isMan) (avs := [.int a4]) (rest := []) (s_X_isMan_ok s a4) ok_X_isMan l0_X_watch__X_isMan ml_X_228 sm_X_isMan d_X_watch_35 rfl rfl (Nat.le_of_ble_eq_true rfl) (Nat.le_of_ble_eq_true rfl) (Nat.le_of_ble_eq_true rfl) (Nat.le_of_ble_eq_true rfl) (fun v4 => ?_)
            refine jm_if_ne (pc := 38) (tgt := 43) d_X_watch_38 (by decide) ?_ ?_
            · refine jm_iconst (pc := 41) (v := (-1)) d_X_watch_41 ci_m1 ?_
              exact jm_iret (pc := 42) (x := (-1)) d_X_watch_42 rfl rfl rfl rfl rfl
            · refine jm_aload_n (pc := 43) (q := 0) (x := 1) d_X_watch_43 rfl ?_
              refine jm_gr (pc := 44) (i := 1) d_X_watch_44 fo_X_71 sh_1 ge_1 le_1_78 rfl (fun _ => rfl) mr_154_1_12 ge_55 ?_
              refine jm_iload_n (pc := 47) (q := 2) (x := a1) d_X_watch_47 rfl ?_
              refine jm_iload_n (pc := 48) (q := 3) (x := a2) d_X_watch_48 rfl ?_
              refine jm_iload (pc := 49) (q := 4) (x := a3) d_X_watch_49 rfl ?_
              refine jm_iload (pc := 51) (q := 5) (x := a4) d_X_watch_51 rfl ?_
              refine jm_Vv (pc := 53) (Y' := mY_Wa_come) (i := 55) (avs := [.int a1, .int a2, .int a3, .int a4]) (rest := []) (s_Wa_come_ok s a1 a2 a3 a4) ok_Wa_come l0_X_watch__Wa_come ml_X_231 im_Wa_come se_Wa_come d_X_watch_53 rfl sh_55 rfl rfl ge_55 le_55_78 rfl (Nat.le_of_ble_eq_true rfl) (Nat.le_of_ble_eq_true rfl) (Nat.le_of_ble_eq_true rfl) (Nat.le_of_ble_eq_true rfl) (fun s5 => ?_)
              refine jm_aload_n (pc := 56) (q := 0) (x := 1) d_X_watch_56 rfl ?_
              refine jm_gr (pc := 57) (i := 1) d_X_watch_57 fo_X_71 sh_1 ge_1 le_1_78 rfl (fun _ => rfl) mr_154_1_12 ge_55 ?_
              refine jm_iload_n (pc := 60) (q := 1) (x := a0) d_X_watch_60 rfl ?_
              refine jm_Vi (pc := 61) (Y' := mY_Wa_hoursWatched) (i := 55) (avs := [.int a0]) (rest := []) (s_Wa_hoursWatched_ok s5 a0) ok_Wa_hoursWatched l0_X_watch__Wa_hoursWatched ml_X_235 im_Wa_hoursWatched se_Wa_hoursWatched d_X_watch_61 rfl sh_55 rfl rfl ge_55 le_55_78 rfl (Nat.le_of_ble_eq_true rfl) (Nat.le_of_ble_eq_true rfl) (Nat.le_of_ble_eq_true rfl) (Nat.le_of_ble_eq_true rfl) (fun v6 s7 => ?_)
              exact jm_iret (pc := 64) (x := v6) d_X_watch_64 rfl rfl rfl rfl rfl
theorem d_Z_watch_0 : decode (jm_cd mY_Z_watch) 0 = .ok (.iload_n 1, 1) := by decide +kernel
theorem d_Z_watch_1 : decode (jm_cd mY_Z_watch) 1 = .ok (.i2l, 1) := by decide +kernel
theorem d_Z_watch_2 : decode (jm_cd mY_Z_watch) 2 = .ok (.lconst 1, 1) := by decide +kernel
theorem d_Z_watch_3 : decode (jm_cd mY_Z_watch) 3 = .ok (.ldc2_w 253, 3) := by decide +kernel
theorem d_Z_watch_6 : decode (jm_cd mY_Z_watch) 6 = .ok (.invokestatic 69, 3) := by decide +kernel
theorem d_Z_watch_9 : decode (jm_cd mY_Z_watch) 9 = .ok (.ifCond .eq 61, 3) := by decide +kernel
theorem d_Z_watch_12 : decode (jm_cd mY_Z_watch) 12 = .ok (.iload_n 2, 1) := by decide +kernel
theorem d_Z_watch_13 : decode (jm_cd mY_Z_watch) 13 = .ok (.i2l, 1) := by decide +kernel
theorem d_Z_watch_14 : decode (jm_cd mY_Z_watch) 14 = .ok (.ldc2_w 231, 3) := by decide +kernel
theorem d_Z_watch_17 : decode (jm_cd mY_Z_watch) 17 = .ok (.ldc2_w 253, 3) := by decide +kernel
theorem d_Z_watch_20 : decode (jm_cd mY_Z_watch) 20 = .ok (.invokestatic 69, 3) := by decide +kernel
theorem d_Z_watch_23 : decode (jm_cd mY_Z_watch) 23 = .ok (.ifCond .eq 47, 3) := by decide +kernel
theorem d_Z_watch_26 : decode (jm_cd mY_Z_watch) 26 = .ok (.iload_n 3, 1) := by decide +kernel
theorem d_Z_watch_27 : decode (jm_cd mY_Z_watch) 27 = .ok (.i2l, 1) := by decide +kernel
theorem d_Z_watch_28 : decode (jm_cd mY_Z_watch) 28 = .ok (.ldc2_w 231, 3) := by decide +kernel
theorem d_Z_watch_31 : decode (jm_cd mY_Z_watch) 31 = .ok (.ldc2_w 253, 3) := by decide +kernel
theorem d_Z_watch_34 : decode (jm_cd mY_Z_watch) 34 = .ok (.invokestatic 69, 3) := by decide +kernel
theorem d_Z_watch_37 : decode (jm_cd mY_Z_watch) 37 = .ok (.ifCond .eq 33, 3) := by decide +kernel
theorem d_Z_watch_40 : decode (jm_cd mY_Z_watch) 40 = .ok (.iload 4, 2) := by decide +kernel
theorem d_Z_watch_42 : decode (jm_cd mY_Z_watch) 42 = .ok (.i2l, 1) := by decide +kernel
theorem d_Z_watch_43 : decode (jm_cd mY_Z_watch) 43 = .ok (.ldc2_w 231, 3) := by decide +kernel
theorem d_Z_watch_46 : decode (jm_cd mY_Z_watch) 46 = .ok (.ldc2_w 253, 3) := by decide +kernel
theorem d_Z_watch_49 : decode (jm_cd mY_Z_watch) 49 = .ok (.invokestatic 69, 3) := by decide +kernel
theorem d_Z_watch_52 : decode (jm_cd mY_Z_watch) 52 = .ok (.ifCond .eq 18, 3) := by decide +kernel
theorem d_Z_watch_55 : decode (jm_cd mY_Z_watch) 55 = .ok (.iload 5, 2) := by decide +kernel
theorem d_Z_watch_57 : decode (jm_cd mY_Z_watch) 57 = .ok (.i2l, 1) := by decide +kernel
theorem d_Z_watch_58 : decode (jm_cd mY_Z_watch) 58 = .ok (.ldc2_w 231, 3) := by decide +kernel
theorem d_Z_watch_61 : decode (jm_cd mY_Z_watch) 61 = .ok (.ldc2_w 253, 3) := by decide +kernel
theorem d_Z_watch_64 : decode (jm_cd mY_Z_watch) 64 = .ok (.invokestatic 69, 3) := by decide +kernel
theorem d_Z_watch_67 : decode (jm_cd mY_Z_watch) 67 = .ok (.ifCond .ne 5, 3) := by decide +kernel
theorem d_Z_watch_70 : decode (jm_cd mY_Z_watch) 70 = .ok (.iconst (-1), 1) := by decide +kernel
theorem d_Z_watch_71 : decode (jm_cd mY_Z_watch) 71 = .ok (.ireturn, 1) := by decide +kernel
theorem d_Z_watch_72 : decode (jm_cd mY_Z_watch) 72 = .ok (.aload_n 0, 1) := by decide +kernel
theorem d_Z_watch_73 : decode (jm_cd mY_Z_watch) 73 = .ok (.getfield 64, 3) := by decide +kernel
theorem d_Z_watch_76 : decode (jm_cd mY_Z_watch) 76 = .ok (.iconst 0, 1) := by decide +kernel
theorem d_Z_watch_77 : decode (jm_cd mY_Z_watch) 77 = .ok (.iload_n 2, 1) := by decide +kernel
theorem d_Z_watch_78 : decode (jm_cd mY_Z_watch) 78 = .ok (.iastore, 1) := by decide +kernel
theorem d_Z_watch_79 : decode (jm_cd mY_Z_watch) 79 = .ok (.aload_n 0, 1) := by decide +kernel
theorem d_Z_watch_80 : decode (jm_cd mY_Z_watch) 80 = .ok (.getfield 64, 3) := by decide +kernel
theorem d_Z_watch_83 : decode (jm_cd mY_Z_watch) 83 = .ok (.iconst 1, 1) := by decide +kernel
theorem d_Z_watch_84 : decode (jm_cd mY_Z_watch) 84 = .ok (.iload_n 3, 1) := by decide +kernel
theorem d_Z_watch_85 : decode (jm_cd mY_Z_watch) 85 = .ok (.iastore, 1) := by decide +kernel
theorem d_Z_watch_86 : decode (jm_cd mY_Z_watch) 86 = .ok (.aload_n 0, 1) := by decide +kernel
theorem d_Z_watch_87 : decode (jm_cd mY_Z_watch) 87 = .ok (.getfield 64, 3) := by decide +kernel
theorem d_Z_watch_90 : decode (jm_cd mY_Z_watch) 90 = .ok (.iconst 2, 1) := by decide +kernel
theorem d_Z_watch_91 : decode (jm_cd mY_Z_watch) 91 = .ok (.iload 4, 2) := by decide +kernel
theorem d_Z_watch_93 : decode (jm_cd mY_Z_watch) 93 = .ok (.iastore, 1) := by decide +kernel
theorem d_Z_watch_94 : decode (jm_cd mY_Z_watch) 94 = .ok (.aload_n 0, 1) := by decide +kernel
theorem d_Z_watch_95 : decode (jm_cd mY_Z_watch) 95 = .ok (.getfield 64, 3) := by decide +kernel
theorem d_Z_watch_98 : decode (jm_cd mY_Z_watch) 98 = .ok (.iconst 3, 1) := by decide +kernel
theorem d_Z_watch_99 : decode (jm_cd mY_Z_watch) 99 = .ok (.iload 5, 2) := by decide +kernel
theorem d_Z_watch_101 : decode (jm_cd mY_Z_watch) 101 = .ok (.iastore, 1) := by decide +kernel
theorem d_Z_watch_102 : decode (jm_cd mY_Z_watch) 102 = .ok (.bipush (-4), 2) := by decide +kernel
theorem d_Z_watch_104 : decode (jm_cd mY_Z_watch) 104 = .ok (.istore 6, 2) := by decide +kernel
theorem d_Z_watch_106 : decode (jm_cd mY_Z_watch) 106 = .ok (.iconst 0, 1) := by decide +kernel
theorem d_Z_watch_107 : decode (jm_cd mY_Z_watch) 107 = .ok (.istore 7, 2) := by decide +kernel
theorem d_Z_watch_109 : decode (jm_cd mY_Z_watch) 109 = .ok (.iconst 0, 1) := by decide +kernel
theorem d_Z_watch_110 : decode (jm_cd mY_Z_watch) 110 = .ok (.istore 8, 2) := by decide +kernel
theorem d_Z_watch_112 : decode (jm_cd mY_Z_watch) 112 = .ok (.iload 8, 2) := by decide +kernel
theorem d_Z_watch_114 : decode (jm_cd mY_Z_watch) 114 = .ok (.iload_n 1, 1) := by decide +kernel
theorem d_Z_watch_115 : decode (jm_cd mY_Z_watch) 115 = .ok (.if_icmp .ge 103, 3) := by decide +kernel
theorem d_Z_watch_118 : decode (jm_cd mY_Z_watch) 118 = .ok (.bipush (-4), 2) := by decide +kernel
theorem d_Z_watch_120 : decode (jm_cd mY_Z_watch) 120 = .ok (.istore 9, 2) := by decide +kernel
theorem d_Z_watch_122 : decode (jm_cd mY_Z_watch) 122 = .ok (.iconst 0, 1) := by decide +kernel
theorem d_Z_watch_123 : decode (jm_cd mY_Z_watch) 123 = .ok (.istore 10, 2) := by decide +kernel
theorem d_Z_watch_125 : decode (jm_cd mY_Z_watch) 125 = .ok (.iload 10, 2) := by decide +kernel
theorem d_Z_watch_127 : decode (jm_cd mY_Z_watch) 127 = .ok (.iconst 4, 1) := by decide +kernel
theorem d_Z_watch_128 : decode (jm_cd mY_Z_watch) 128 = .ok (.if_icmp .ge 59, 3) := by decide +kernel
theorem d_Z_watch_131 : decode (jm_cd mY_Z_watch) 131 = .ok (.aload_n 0, 1) := by decide +kernel
theorem d_Z_watch_132 : decode (jm_cd mY_Z_watch) 132 = .ok (.getfield 64, 3) := by decide +kernel
theorem d_Z_watch_135 : decode (jm_cd mY_Z_watch) 135 = .ok (.iload 10, 2) := by decide +kernel
theorem d_Z_watch_137 : decode (jm_cd mY_Z_watch) 137 = .ok (.iaload, 1) := by decide +kernel
theorem d_Z_watch_138 : decode (jm_cd mY_Z_watch) 138 = .ok (.ifCond .le 39, 3) := by decide +kernel
theorem d_Z_watch_141 : decode (jm_cd mY_Z_watch) 141 = .ok (.iload 10, 2) := by decide +kernel
theorem d_Z_watch_143 : decode (jm_cd mY_Z_watch) 143 = .ok (.iload 6, 2) := by decide +kernel
theorem d_Z_watch_145 : decode (jm_cd mY_Z_watch) 145 = .ok (.if_icmp .eq 32, 3) := by decide +kernel
theorem d_Z_watch_148 : decode (jm_cd mY_Z_watch) 148 = .ok (.iload 9, 2) := by decide +kernel
theorem d_Z_watch_150 : decode (jm_cd mY_Z_watch) 150 = .ok (.bipush (-4), 2) := by decide +kernel
theorem d_Z_watch_152 : decode (jm_cd mY_Z_watch) 152 = .ok (.if_icmp .eq 20, 3) := by decide +kernel
theorem d_Z_watch_155 : decode (jm_cd mY_Z_watch) 155 = .ok (.aload_n 0, 1) := by decide +kernel
theorem d_Z_watch_156 : decode (jm_cd mY_Z_watch) 156 = .ok (.getfield 64, 3) := by decide +kernel
theorem d_Z_watch_159 : decode (jm_cd mY_Z_watch) 159 = .ok (.iload 10, 2) := by decide +kernel
theorem d_Z_watch_161 : decode (jm_cd mY_Z_watch) 161 = .ok (.iaload, 1) := by decide +kernel
theorem d_Z_watch_162 : decode (jm_cd mY_Z_watch) 162 = .ok (.aload_n 0, 1) := by decide +kernel
theorem d_Z_watch_163 : decode (jm_cd mY_Z_watch) 163 = .ok (.getfield 64, 3) := by decide +kernel
theorem d_Z_watch_166 : decode (jm_cd mY_Z_watch) 166 = .ok (.iload 9, 2) := by decide +kernel
theorem d_Z_watch_168 : decode (jm_cd mY_Z_watch) 168 = .ok (.iaload, 1) := by decide +kernel
theorem d_Z_watch_169 : decode (jm_cd mY_Z_watch) 169 = .ok (.if_icmp .le 8, 3) := by decide +kernel
theorem d_Z_watch_172 : decode (jm_cd mY_Z_watch) 172 = .ok (.iload 10, 2) := by decide +kernel
theorem d_Z_watch_174 : decode (jm_cd mY_Z_watch) 174 = .ok (.goto 5, 3) := by decide +kernel
theorem d_Z_watch_177 : decode (jm_cd mY_Z_watch) 177 = .ok (.iload 9, 2) := by decide +kernel
theorem d_Z_watch_179 : decode (jm_cd mY_Z_watch) 179 = .ok (.istore 9, 2) := by decide +kernel
theorem d_Z_watch_181 : decode (jm_cd mY_Z_watch) 181 = .ok (.iinc 10 1, 3) := by decide +kernel
theorem d_Z_watch_184 : decode (jm_cd mY_Z_watch) 184 = .ok (.goto (-59), 3) := by decide +kernel
theorem d_Z_watch_187 : decode (jm_cd mY_Z_watch) 187 = .ok (.iload 9, 2) := by decide +kernel
theorem d_Z_watch_189 : decode (jm_cd mY_Z_watch) 189 = .ok (.bipush (-4), 2) := by decide +kernel
theorem d_Z_watch_191 : decode (jm_cd mY_Z_watch) 191 = .ok (.if_icmp .eq 17, 3) := by decide +kernel
theorem d_Z_watch_194 : decode (jm_cd mY_Z_watch) 194 = .ok (.aload_n 0, 1) := by decide +kernel
theorem d_Z_watch_195 : decode (jm_cd mY_Z_watch) 195 = .ok (.getfield 64, 3) := by decide +kernel
theorem d_Z_watch_198 : decode (jm_cd mY_Z_watch) 198 = .ok (.iload 9, 2) := by decide +kernel
theorem d_Z_watch_200 : decode (jm_cd mY_Z_watch) 200 = .ok (.dup2, 1) := by decide +kernel
theorem d_Z_watch_201 : decode (jm_cd mY_Z_watch) 201 = .ok (.iaload, 1) := by decide +kernel
theorem d_Z_watch_202 : decode (jm_cd mY_Z_watch) 202 = .ok (.iconst 1, 1) := by decide +kernel
theorem d_Z_watch_203 : decode (jm_cd mY_Z_watch) 203 = .ok (.isub, 1) := by decide +kernel
theorem d_Z_watch_204 : decode (jm_cd mY_Z_watch) 204 = .ok (.iastore, 1) := by decide +kernel
theorem d_Z_watch_205 : decode (jm_cd mY_Z_watch) 205 = .ok (.iinc 7 1, 3) := by decide +kernel
theorem d_Z_watch_208 : decode (jm_cd mY_Z_watch) 208 = .ok (.iload 9, 2) := by decide +kernel
theorem d_Z_watch_210 : decode (jm_cd mY_Z_watch) 210 = .ok (.istore 6, 2) := by decide +kernel
theorem d_Z_watch_212 : decode (jm_cd mY_Z_watch) 212 = .ok (.iinc 8 1, 3) := by decide +kernel
theorem d_Z_watch_215 : decode (jm_cd mY_Z_watch) 215 = .ok (.goto (-103), 3) := by decide +kernel
theorem d_Z_watch_218 : decode (jm_cd mY_Z_watch) 218 = .ok (.iload 7, 2) := by decide +kernel
theorem d_Z_watch_220 : decode (jm_cd mY_Z_watch) 220 = .ok (.ireturn, 1) := by decide +kernel
def s_Z_watch_L125 (k58 : Int32 → Int32 → Int32 → Int32 → jm_M → Option (Int32 × jm_M)) : Nat → Int32 → Int32 → Int32 → Int32 → Int32 → Int32 → jm_M → Option (Int32 × jm_M)
  | 0, _, _, _, _, _, _, _ => none
  | n + 1, x1, x6, x7, x8, x9, x10, s => (if 4 ≤ x10 then (if x9 = (-4) then k58 x1 x9 x7 (x8 + 1) s else jm_ldi s 78 4 x9 (fun v10 => jm_sti s 78 4 x9 (v10 - 1) (fun s11 => k58 x1 x9 (x7 + 1) (x8 + 1) s11))) else jm_ldi s 78 4 x10 (fun v12 => (if v12 ≤ 0 then s_Z_watch_L125 k58 n x1 x6 x7 x8 x9 (x10 + 1) s else (if x10 = x6 then s_Z_watch_L125 k58 n x1 x6 x7 x8 x9 (x10 + 1) s else (if x9 = (-4) then s_Z_watch_L125 k58 n x1 x6 x7 x8 x10 (x10 + 1) s else jm_ldi s 78 4 x10 (fun v13 => jm_ldi s 78 4 x9 (fun v14 => (if v13 ≤ v14 then s_Z_watch_L125 k58 n x1 x6 x7 x8 x9 (x10 + 1) s else s_Z_watch_L125 k58 n x1 x6 x7 x8 x10 (x10 + 1) s))))))))
set_option maxRecDepth 100000 in
set_option maxHeartbeats 4000000 in
theorem s_Z_watch_L125_ok {k58 : Int32 → Int32 → Int32 → Int32 → jm_M → Option (Int32 × jm_M)} (hk58 : ∀ (x1 : Int32) (x6 : Int32) (x7 : Int32) (x8 : Int32) (s : jm_M), jm_Sim mY_Z_watch 0 0 112 [(0, .ref 59), (1, .int x1), (6, .int x6), (7, .int x7), (8, .int x8)] [] 78 mr_154 s (k58 x1 x6 x7 x8 s) (jm_rP 78 mr_154)) : ∀ (n : Nat) (x1 : Int32) (x6 : Int32) (x7 : Int32) (x8 : Int32) (x9 : Int32) (x10 : Int32) (s : jm_M), jm_Sim mY_Z_watch 0 0 125 [(0, .ref 59), (1, .int x1), (6, .int x6), (7, .int x7), (8, .int x8), (9, .int x9), (10, .int x10)] [] 78 mr_154 s (s_Z_watch_L125 k58 n x1 x6 x7 x8 x9 x10 s) (jm_rP 78 mr_154) := by
  intro n
  induction n with
  | zero => intro x1 x6 x7 x8 x9 x10 s; exact jm_none
  | succ n ih =>
    intro x1 x6 x7 x8 x9 x10 s
    rw [s_Z_watch_L125]
    refine jm_iload (pc := 125) (q := 6) (x := x10) d_Z_watch_125 rfl ?_
    refine jm_iconst (pc := 127) (v := 4) d_Z_watch_127 ci_4 ?_
    refine jm_icmp_ge (pc := 128) (tgt := 187) d_Z_watch_128 (by decide) ?_ ?_
    · refine jm_iload (pc := 187) (q := 5) (x := x9) d_Z_watch_187 rfl ?_
      refine jm_bipush (pc := 189) (v := (-4)) d_Z_watch_189 cb_m4 ?_
      refine jm_icmp_eq (pc := 191) (tgt := 208) d_Z_watch_191 (by decide) ?_ ?_
      · refine jm_iload (pc := 208) (q := 5) (x := x9) d_Z_watch_208 rfl ?_
        refine jm_istore (pc := 210) (L2 := [(6, .int x9), (0, .ref 59), (1, .int x1), (7, .int x7), (8, .int x8), (9, .int x9), (10, .int x10)]) d_Z_watch_210 (Nat.le_of_ble_eq_true rfl) rfl ?_
        refine jm_iinc (pc := 212) (q := 4) (x := x8) (v := 1) (L2 := [(8, .int (x8 + 1)), (6, .int x9), (0, .ref 59), (1, .int x1), (7, .int x7), (9, .int x9), (10, .int x10)]) d_Z_watch_212 rfl ci_1 (Nat.le_of_ble_eq_true rfl) rfl ?_
        refine jm_goto (pc := 215) (tgt := 112) d_Z_watch_215 (by decide) ?_
        refine jm_sub (L2 := [(0, .ref 59), (1, .int x1), (6, .int x9), (7, .int x7), (8, .int (x8 + 1))]) [2, 3, 1, 4, 0] rfl ?_
        exact hk58 x1 x9 x7 (x8 + 1) s
      · refine jm_aload_n (pc := 194) (q := 0) (x := 59) d_Z_watch_194 rfl ?_
        refine jm_gr (pc := 195) (i := 59) d_Z_watch_195 fo_Z_64 sh_59 ge_59 le_59_78 rfl (fun _ => rfl) mr_154_59_29 ge_78 ?_
        refine jm_iload (pc := 198) (q := 5) (x := x9) d_Z_watch_198 rfl ?_
        refine jm_dup2 (pc := 200) d_Z_watch_200 rfl rfl ?_
        refine jm_iald (pc := 201) d_Z_watch_201 sh_78 ge_78 le_78_78 (fun v10 => ?_)
        refine jm_iconst (pc := 202) (v := 1) d_Z_watch_202 ci_1 ?_
        refine jm_isub (pc := 203) d_Z_watch_203 ?_
        refine jm_iast (pc := 204) d_Z_watch_204 sh_78 ge_78 le_78_78 (fun s11 => ?_)
        refine jm_iinc (pc := 205) (q := 3) (x := x7) (v := 1) (L2 := [(7, .int (x7 + 1)), (0, .ref 59), (1, .int x1), (6, .int x6), (8, .int x8), (9, .int x9), (10, .int x10)]) d_Z_watch_205 rfl ci_1 (Nat.le_of_ble_eq_true rfl) rfl ?_
        refine jm_iload (pc := 208) (q := 5) (x := x9) d_Z_watch_208 rfl ?_
        refine jm_istore (pc := 210) (L2 := [(6, .int x9), (7, .int (x7 + 1)), (0, .ref 59), (1, .int x1), (8, .int x8), (9, .int x9), (10, .int x10)]) d_Z_watch_210 (Nat.le_of_ble_eq_true rfl) rfl ?_
        refine jm_iinc (pc := 212) (q := 4) (x := x8) (v := 1) (L2 := [(8, .int (x8 + 1)), (6, .int x9), (7, .int (x7 + 1)), (0, .ref 59), (1, .int x1), (9, .int x9), (10, .int x10)]) d_Z_watch_212 rfl ci_1 (Nat.le_of_ble_eq_true rfl) rfl ?_
        refine jm_goto (pc := 215) (tgt := 112) d_Z_watch_215 (by decide) ?_
        refine jm_sub (L2 := [(0, .ref 59), (1, .int x1), (6, .int x9), (7, .int (x7 + 1)), (8, .int (x8 + 1))]) [3, 4, 1, 2, 0] rfl ?_
        exact hk58 x1 x9 (x7 + 1) (x8 + 1) s11
    · refine jm_aload_n (pc := 131) (q := 0) (x := 59) d_Z_watch_131 rfl ?_
      refine jm_gr (pc := 132) (i := 59) d_Z_watch_132 fo_Z_64 sh_59 ge_59 le_59_78 rfl (fun _ => rfl) mr_154_59_29 ge_78 ?_
      refine jm_iload (pc := 135) (q := 6) (x := x10) d_Z_watch_135 rfl ?_
      refine jm_iald (pc := 137) d_Z_watch_137 sh_78 ge_78 le_78_78 (fun v12 => ?_)
      refine jm_if_le (pc := 138) (tgt := 177) d_Z_watch_138 (by decide) ?_ ?_
      · refine jm_iload (pc := 177) (q := 5) (x := x9) d_Z_watch_177 rfl ?_
        refine jm_istore (pc := 179) (L2 := [(9, .int x9), (0, .ref 59), (1, .int x1), (6, .int x6), (7, .int x7), (8, .int x8), (10, .int x10)]) d_Z_watch_179 (Nat.le_of_ble_eq_true rfl) rfl ?_
        refine jm_iinc (pc := 181) (q := 6) (x := x10) (v := 1) (L2 := [(10, .int (x10 + 1)), (9, .int x9), (0, .ref 59), (1, .int x1), (6, .int x6), (7, .int x7), (8, .int x8)]) d_Z_watch_181 rfl ci_1 (Nat.le_of_ble_eq_true rfl) rfl ?_
        refine jm_goto (pc := 184) (tgt := 125) d_Z_watch_184 (by decide) ?_
        refine jm_sub (L2 := [(0, .ref 59), (1, .int x1), (6, .int x6), (7, .int x7), (8, .int x8), (9, .int x9), (10, .int (x10 + 1))]) [2, 3, 4, 5, 6, 1, 0] rfl ?_
        exact ih x1 x6 x7 x8 x9 (x10 + 1) s
      · refine jm_iload (pc := 141) (q := 6) (x := x10) d_Z_watch_141 rfl ?_
        refine jm_iload (pc := 143) (q := 2) (x := x6) d_Z_watch_143 rfl ?_
        refine jm_icmp_eq (pc := 145) (tgt := 177) d_Z_watch_145 (by decide) ?_ ?_
        · refine jm_iload (pc := 177) (q := 5) (x := x9) d_Z_watch_177 rfl ?_
          refine jm_istore (pc := 179) (L2 := [(9, .int x9), (0, .ref 59), (1, .int x1), (6, .int x6), (7, .int x7), (8, .int x8), (10, .int x10)]) d_Z_watch_179 (Nat.le_of_ble_eq_true rfl) rfl ?_
          refine jm_iinc (pc := 181) (q := 6) (x := x10) (v := 1) (L2 := [(10, .int (x10 + 1)), (9, .int x9), (0, .ref 59), (1, .int x1), (6, .int x6), (7, .int x7), (8, .int x8)]) d_Z_watch_181 rfl ci_1 (Nat.le_of_ble_eq_true rfl) rfl ?_
          refine jm_goto (pc := 184) (tgt := 125) d_Z_watch_184 (by decide) ?_
          refine jm_sub (L2 := [(0, .ref 59), (1, .int x1), (6, .int x6), (7, .int x7), (8, .int x8), (9, .int x9), (10, .int (x10 + 1))]) [2, 3, 4, 5, 6, 1, 0] rfl ?_
          exact ih x1 x6 x7 x8 x9 (x10 + 1) s
        · refine jm_iload (pc := 148) (q := 5) (x := x9) d_Z_watch_148 rfl ?_
          refine jm_bipush (pc := 150) (v := (-4)) d_Z_watch_150 cb_m4 ?_
          refine jm_icmp_eq (pc := 152) (tgt := 172) d_Z_watch_152 (by decide) ?_ ?_
          · refine jm_iload (pc := 172) (q := 6) (x := x10) d_Z_watch_172 rfl ?_
            refine jm_goto (pc := 174) (tgt := 179) d_Z_watch_174 (by decide) ?_
            refine jm_istore (pc := 179) (L2 := [(9, .int x10), (0, .ref 59), (1, .int x1), (6, .int x6), (7, .int x7), (8, .int x8), (10, .int x10)]) d_Z_watch_179 (Nat.le_of_ble_eq_true rfl) rfl ?_
            refine jm_iinc (pc := 181) (q := 6) (x := x10) (v := 1) (L2 := [(10, .int (x10 + 1)), (9, .int x10), (0, .ref 59), (1, .int x1), (6, .int x6), (7, .int x7), (8, .int x8)]) d_Z_watch_181 rfl ci_1 (Nat.le_of_ble_eq_true rfl) rfl ?_
            refine jm_goto (pc := 184) (tgt := 125) d_Z_watch_184 (by decide) ?_
            refine jm_sub (L2 := [(0, .ref 59), (1, .int x1), (6, .int x6), (7, .int x7), (8, .int x8), (9, .int x10), (10, .int (x10 + 1))]) [2, 3, 4, 5, 6, 1, 0] rfl ?_
            exact ih x1 x6 x7 x8 x10 (x10 + 1) s
          · refine jm_aload_n (pc := 155) (q := 0) (x := 59) d_Z_watch_155 rfl ?_
            refine jm_gr (pc := 156) (i := 59) d_Z_watch_156 fo_Z_64 sh_59 ge_59 le_59_78 rfl (fun _ => rfl) mr_154_59_29 ge_78 ?_
            refine jm_iload (pc := 159) (q := 6) (x := x10) d_Z_watch_159 rfl ?_
            refine jm_iald (pc := 161) d_Z_watch_161 sh_78 ge_78 le_78_78 (fun v13 => ?_)
            refine jm_aload_n (pc := 162) (q := 0) (x := 59) d_Z_watch_162 rfl ?_
            refine jm_gr (pc := 163) (i := 59) d_Z_watch_163 fo_Z_64 sh_59 ge_59 le_59_78 rfl (fun _ => rfl) mr_154_59_29 ge_78 ?_
            refine jm_iload (pc := 166) (q := 5) (x := x9) d_Z_watch_166 rfl ?_
            refine jm_iald (pc := 168) d_Z_watch_168 sh_78 ge_78 le_78_78 (fun v14 => ?_)
            refine jm_icmp_le (pc := 169) (tgt := 177) d_Z_watch_169 (by decide) ?_ ?_
            · refine jm_iload (pc := 177) (q := 5) (x := x9) d_Z_watch_177 rfl ?_
              refine jm_istore (pc := 179) (L2 := [(9, .int x9), (0, .ref 59), (1, .int x1), (6, .int x6), (7, .int x7), (8, .int x8), (10, .int x10)]) d_Z_watch_179 (Nat.le_of_ble_eq_true rfl) rfl ?_
              refine jm_iinc (pc := 181) (q := 6) (x := x10) (v := 1) (L2 := [(10, .int (x10 + 1)), (9, .int x9), (0, .ref 59), (1, .int x1), (6, .int x6), (7, .int x7), (8, .int x8)]) d_Z_watch_181 rfl ci_1 (Nat.le_of_ble_eq_true rfl) rfl ?_
              refine jm_goto (pc := 184) (tgt := 125) d_Z_watch_184 (by decide) ?_
              refine jm_sub (L2 := [(0, .ref 59), (1, .int x1), (6, .int x6), (7, .int x7), (8, .int x8), (9, .int x9), (10, .int (x10 + 1))]) [2, 3, 4, 5, 6, 1, 0] rfl ?_
              exact ih x1 x6 x7 x8 x9 (x10 + 1) s
            · refine jm_iload (pc := 172) (q := 6) (x := x10) d_Z_watch_172 rfl ?_
              refine jm_goto (pc := 174) (tgt := 179) d_Z_watch_174 (by decide) ?_
              refine jm_istore (pc := 179) (L2 := [(9, .int x10), (0, .ref 59), (1, .int x1), (6, .int x6), (7, .int x7), (8, .int x8), (10, .int x10)]) d_Z_watch_179 (Nat.le_of_ble_eq_true rfl) rfl ?_
              refine jm_iinc (pc := 181) (q := 6) (x := x10) (v := 1) (L2 := [(10, .int (x10 + 1)), (9, .int x10), (0, .ref 59), (1, .int x1), (6, .int x6), (7, .int x7), (8, .int x8)]) d_Z_watch_181 rfl ci_1 (Nat.le_of_ble_eq_true rfl) rfl ?_
              refine jm_goto (pc := 184) (tgt := 125) d_Z_watch_184 (by decide) ?_
              refine jm_sub (L2 := [(0, .ref 59), (1, .int x1), (6, .int x6), (7, .int x7), (8, .int x8), (9, .int x10), (10, .int (x10 + 1))]) [2, 3, 4, 5, 6, 1, 0] rfl ?_
              exact ih x1 x6 x7 x8 x10 (x10 + 1) s
def s_Z_watch_L112 : Nat → Int32 → Int32 → Int32 → Int32 → jm_M → Option (Int32 × jm_M)
  | 0, _, _, _, _, _ => none
  | n + 1, x1, x6, x7, x8, s => (if x1 ≤ x8 then (some (x7, s)) else s_Z_watch_L125 (s_Z_watch_L112 n) 5000 x1 x6 x7 x8 (-4) 0 s)
set_option maxRecDepth 100000 in
set_option maxHeartbeats 4000000 in
theorem s_Z_watch_L112_ok : ∀ (n : Nat) (x1 : Int32) (x6 : Int32) (x7 : Int32) (x8 : Int32) (s : jm_M), jm_Sim mY_Z_watch 0 0 112 [(0, .ref 59), (1, .int x1), (6, .int x6), (7, .int x7), (8, .int x8)] [] 78 mr_154 s (s_Z_watch_L112 n x1 x6 x7 x8 s) (jm_rP 78 mr_154) := by
  intro n
  induction n with
  | zero => intro x1 x6 x7 x8 s; exact jm_none
  | succ n ih =>
    intro x1 x6 x7 x8 s
    rw [s_Z_watch_L112]
    refine jm_iload (pc := 112) (q := 4) (x := x8) d_Z_watch_112 rfl ?_
    refine jm_iload_n (pc := 114) (q := 1) (x := x1) d_Z_watch_114 rfl ?_
    refine jm_icmp_ge (pc := 115) (tgt := 218) d_Z_watch_115 (by decide) ?_ ?_
    · refine jm_iload (pc := 218) (q := 3) (x := x7) d_Z_watch_218 rfl ?_
      exact jm_iret (pc := 220) (x := x7) d_Z_watch_220 rfl rfl rfl rfl rfl
    · refine jm_bipush (pc := 118) (v := (-4)) d_Z_watch_118 cb_m4 ?_
      refine jm_istore (pc := 120) (L2 := [(9, .int (-4)), (0, .ref 59), (1, .int x1), (6, .int x6), (7, .int x7), (8, .int x8)]) d_Z_watch_120 (Nat.le_of_ble_eq_true rfl) rfl ?_
      refine jm_iconst (pc := 122) (v := 0) d_Z_watch_122 ci_0 ?_
      refine jm_istore (pc := 123) (L2 := [(10, .int 0), (9, .int (-4)), (0, .ref 59), (1, .int x1), (6, .int x6), (7, .int x7), (8, .int x8)]) d_Z_watch_123 (Nat.le_of_ble_eq_true rfl) rfl ?_
      refine jm_sub (L2 := [(0, .ref 59), (1, .int x1), (6, .int x6), (7, .int x7), (8, .int x8), (9, .int (-4)), (10, .int 0)]) [2, 3, 4, 5, 6, 1, 0] rfl ?_
      exact s_Z_watch_L125_ok ih 5000 x1 x6 x7 x8 (-4) 0 s
def s_Z_watch (s : jm_M) (a0 : Int32) (a1 : Int32) (a2 : Int32) (a3 : Int32) (a4 : Int32) : Option (Int32 × jm_M) := jm_bd (s_Z_in s a0.toInt64 1 12) (fun v1 => (if v1 = 0 then (some ((-1), s)) else jm_bd (s_Z_in s a1.toInt64 (-1) 12) (fun v2 => (if v2 = 0 then (some ((-1), s)) else jm_bd (s_Z_in s a2.toInt64 (-1) 12) (fun v3 => (if v3 = 0 then (some ((-1), s)) else jm_bd (s_Z_in s a3.toInt64 (-1) 12) (fun v4 => (if v4 = 0 then (some ((-1), s)) else jm_bd (s_Z_in s a4.toInt64 (-1) 12) (fun v5 => (if v5 = 0 then (some ((-1), s)) else jm_sti s 78 4 0 a1 (fun s6 => jm_sti s6 78 4 1 a2 (fun s7 => jm_sti s7 78 4 2 a3 (fun s8 => jm_sti s8 78 4 3 a4 (fun s9 => s_Z_watch_L112 5000 a0 (-4) 0 0 s9))))))))))))))
set_option maxRecDepth 100000 in
set_option maxHeartbeats 4000000 in
theorem s_Z_watch_ok (s : jm_M) (a0 : Int32) (a1 : Int32) (a2 : Int32) (a3 : Int32) (a4 : Int32) : jm_Sim mY_Z_watch 0 0 0 [(0, .ref 59), (1, .int a0), (2, .int a1), (3, .int a2), (4, .int a3), (5, .int a4)] [] 78 mr_154 s (s_Z_watch s a0 a1 a2 a3 a4) (jm_rP 78 mr_154) := by
  unfold s_Z_watch
  refine jm_iload_n (pc := 0) (q := 1) (x := a0) d_Z_watch_0 rfl ?_
  refine jm_i2l (pc := 1) d_Z_watch_1 ?_
  refine jm_lconst (pc := 2) (v := 1) d_Z_watch_2 cl_1 ?_
  refine jm_ldc2 (pc := 3) (v := 12) d_Z_watch_3 kl_Z_253 ?_
  refine jm_Sp (pc := 6) (Y' := mY_Z_in) (avs := [.long a0.toInt64, .long 1, .long 12]) (rest := []) (s_Z_in_ok s a0.toInt64 1 12) ok_Z_in l0_Z_watch__Z_in ml_Z_69 sm_Z_in d_Z_watch_6 rfl rfl (Nat.le_of_ble_eq_true rfl) (Nat.le_of_ble_eq_true rfl) (Nat.le_of_ble_eq_true rfl) (Nat.le_of_ble_eq_true rfl) (fun v1 => ?_)
  refine jm_if_eq (pc := 9) (tgt := 70) d_Z_watch_9 (by decide) ?_ ?_
  · refine jm_iconst (pc := 70) (v := (-1)) d_Z_watch_70 ci_m1 ?_
    exact jm_iret (pc := 71) (x := (-1)) d_Z_watch_71 rfl rfl rfl rfl rfl
  · refine jm_iload_n (pc := 12) (q := 2) (x := a1) d_Z_watch_12 rfl ?_
    refine jm_i2l (pc := 13) d_Z_watch_13 ?_
    refine jm_ldc2 (pc := 14) (v := (-1)) d_Z_watch_14 kl_Z_231 ?_
    refine jm_ldc2 (pc := 17) (v := 12) d_Z_watch_17 kl_Z_253 ?_
    refine jm_Sp (pc := 20) (Y' := mY_Z_in) (avs := [.long a1.toInt64, .long (-1), .long 12]) (rest := []) (s_Z_in_ok s a1.toInt64 (-1) 12) ok_Z_in l0_Z_watch__Z_in ml_Z_69 sm_Z_in d_Z_watch_20 rfl rfl (Nat.le_of_ble_eq_true rfl) (Nat.le_of_ble_eq_true rfl) (Nat.le_of_ble_eq_true rfl) (Nat.le_of_ble_eq_true rfl) (fun v2 => ?_)
    refine jm_if_eq (pc := 23) (tgt := 70) d_Z_watch_23 (by decide) ?_ ?_
    · refine jm_iconst (pc := 70) (v := (-1)) d_Z_watch_70 ci_m1 ?_
      exact jm_iret (pc := 71) (x := (-1)) d_Z_watch_71 rfl rfl rfl rfl rfl
    · refine jm_iload_n (pc := 26) (q := 3) (x := a2) d_Z_watch_26 rfl ?_
      refine jm_i2l (pc := 27) d_Z_watch_27 ?_
      refine jm_ldc2 (pc := 28) (v := (-1)) d_Z_watch_28 kl_Z_231 ?_
      refine jm_ldc2 (pc := 31) (v := 12) d_Z_watch_31 kl_Z_253 ?_
      refine jm_Sp (pc := 34) (Y' := mY_Z_in) (avs := [.long a2.toInt64, .long (-1), .long 12]) (rest := []) (s_Z_in_ok s a2.toInt64 (-1) 12) ok_Z_in l0_Z_watch__Z_in ml_Z_69 sm_Z_in d_Z_watch_34 rfl rfl (Nat.le_of_ble_eq_true rfl) (Nat.le_of_ble_eq_true rfl) (Nat.le_of_ble_eq_true rfl) (Nat.le_of_ble_eq_true rfl) (fun v3 => ?_)
      refine jm_if_eq (pc := 37) (tgt := 70) d_Z_watch_37 (by decide) ?_ ?_
      · refine jm_iconst (pc := 70) (v := (-1)) d_Z_watch_70 ci_m1 ?_
        exact jm_iret (pc := 71) (x := (-1)) d_Z_watch_71 rfl rfl rfl rfl rfl
      · refine jm_iload (pc := 40) (q := 4) (x := a3) d_Z_watch_40 rfl ?_
        refine jm_i2l (pc := 42) d_Z_watch_42 ?_
        refine jm_ldc2 (pc := 43) (v := (-1)) d_Z_watch_43 kl_Z_231 ?_
        refine jm_ldc2 (pc := 46) (v := 12) d_Z_watch_46 kl_Z_253 ?_
        refine jm_Sp (pc := 49) (Y' := mY_Z_in) (avs := [.long a3.toInt64, .long (-1), .long 12]) (rest := []) (s_Z_in_ok s a3.toInt64 (-1) 12) ok_Z_in l0_Z_watch__Z_in ml_Z_69 sm_Z_in d_Z_watch_49 rfl rfl (Nat.le_of_ble_eq_true rfl) (Nat.le_of_ble_eq_true rfl) (Nat.le_of_ble_eq_true rfl) (Nat.le_of_ble_eq_true rfl) (fun v4 => ?_)
        refine jm_if_eq (pc := 52) (tgt := 70) d_Z_watch_52 (by decide) ?_ ?_
        · refine jm_iconst (pc := 70) (v := (-1)) d_Z_watch_70 ci_m1 ?_
          exact jm_iret (pc := 71) (x := (-1)) d_Z_watch_71 rfl rfl rfl rfl rfl
        · refine jm_iload (pc := 55) (q := 5) (x := a4) d_Z_watch_55 rfl ?_
          refine jm_i2l (pc := 57) d_Z_watch_57 ?_
          refine jm_ldc2 (pc := 58) (v := (-1)) d_Z_watch_58 kl_Z_231 ?_
          refine jm_ldc2 (pc := 61) (v := 12) d_Z_watch_61 kl_Z_253 ?_
          refine jm_Sp (pc := 64) (Y' := mY_Z_in) (avs := [.long a4.toInt64, .long (-1), .long 12]) (rest := []) (s_Z_in_ok s a4.toInt64 (-1) 12) ok_Z_in l0_Z_watch__Z_in ml_Z_69 sm_Z_in d_Z_watch_64 rfl rfl (Nat.le_of_ble_eq_true rfl) (Nat.le_of_ble_eq_true rfl) (Nat.le_of_ble_eq_true rfl) (Nat.le_of_ble_eq_true rfl) (fun v5 => ?_)
          refine jm_if_ne (pc := 67) (tgt := 72) d_Z_watch_67 (by decide) ?_ ?_
          · refine jm_iconst (pc := 70) (v := (-1)) d_Z_watch_70 ci_m1 ?_
            exact jm_iret (pc := 71) (x := (-1)) d_Z_watch_71 rfl rfl rfl rfl rfl
          · refine jm_aload_n (pc := 72) (q := 0) (x := 59) d_Z_watch_72 rfl ?_
            refine jm_gr (pc := 73) (i := 59) d_Z_watch_73 fo_Z_64 sh_59 ge_59 le_59_78 rfl (fun _ => rfl) mr_154_59_29 ge_78 ?_
            refine jm_iconst (pc := 76) (v := 0) d_Z_watch_76 ci_0 ?_
            refine jm_iload_n (pc := 77) (q := 2) (x := a1) d_Z_watch_77 rfl ?_
            refine jm_iast (pc := 78) d_Z_watch_78 sh_78 ge_78 le_78_78 (fun s6 => ?_)
            refine jm_aload_n (pc := 79) (q := 0) (x := 59) d_Z_watch_79 rfl ?_
            refine jm_gr (pc := 80) (i := 59) d_Z_watch_80 fo_Z_64 sh_59 ge_59 le_59_78 rfl (fun _ => rfl) mr_154_59_29 ge_78 ?_
            refine jm_iconst (pc := 83) (v := 1) d_Z_watch_83 ci_1 ?_
            refine jm_iload_n (pc := 84) (q := 3) (x := a2) d_Z_watch_84 rfl ?_
            refine jm_iast (pc := 85) d_Z_watch_85 sh_78 ge_78 le_78_78 (fun s7 => ?_)
            refine jm_aload_n (pc := 86) (q := 0) (x := 59) d_Z_watch_86 rfl ?_
            refine jm_gr (pc := 87) (i := 59) d_Z_watch_87 fo_Z_64 sh_59 ge_59 le_59_78 rfl (fun _ => rfl) mr_154_59_29 ge_78 ?_
            refine jm_iconst (pc := 90) (v := 2) d_Z_watch_90 ci_2 ?_
            refine jm_iload (pc := 91) (q := 4) (x := a3) d_Z_watch_91 rfl ?_
            refine jm_iast (pc := 93) d_Z_watch_93 sh_78 ge_78 le_78_78 (fun s8 => ?_)
            refine jm_aload_n (pc := 94) (q := 0) (x := 59) d_Z_watch_94 rfl ?_
            refine jm_gr (pc := 95) (i := 59) d_Z_watch_95 fo_Z_64 sh_59 ge_59 le_59_78 rfl (fun _ => rfl) mr_154_59_29 ge_78 ?_
            refine jm_iconst (pc := 98) (v := 3) d_Z_watch_98 ci_3 ?_
            refine jm_iload (pc := 99) (q := 5) (x := a4) d_Z_watch_99 rfl ?_
            refine jm_iast (pc := 101) d_Z_watch_101 sh_78 ge_78 le_78_78 (fun s9 => ?_)
            refine jm_bipush (pc := 102) (v := (-4)) d_Z_watch_102 cb_m4 ?_
            refine jm_istore (pc := 104) (L2 := [(6, .int (-4)), (0, .ref 59), (1, .int a0), (2, .int a1), (3, .int a2), (4, .int a3), (5, .int a4)]) d_Z_watch_104 (Nat.le_of_ble_eq_true rfl) rfl ?_
            refine jm_iconst (pc := 106) (v := 0) d_Z_watch_106 ci_0 ?_
            refine jm_istore (pc := 107) (L2 := [(7, .int 0), (6, .int (-4)), (0, .ref 59), (1, .int a0), (2, .int a1), (3, .int a2), (4, .int a3), (5, .int a4)]) d_Z_watch_107 (Nat.le_of_ble_eq_true rfl) rfl ?_
            refine jm_iconst (pc := 109) (v := 0) d_Z_watch_109 ci_0 ?_
            refine jm_istore (pc := 110) (L2 := [(8, .int 0), (7, .int 0), (6, .int (-4)), (0, .ref 59), (1, .int a0), (2, .int a1), (3, .int a2), (4, .int a3), (5, .int a4)]) d_Z_watch_110 (Nat.le_of_ble_eq_true rfl) rfl ?_
            refine jm_sub (L2 := [(0, .ref 59), (1, .int a0), (6, .int (-4)), (7, .int 0), (8, .int 0)]) [3, 4, 2, 1, 0] rfl ?_
            exact s_Z_watch_L112_ok 5000 a0 (-4) 0 0 s9
theorem d_X_cost_0 : decode (jm_cd mY_X_cost) 0 = .ok (.iload_n 1, 1) := by decide +kernel
theorem d_X_cost_1 : decode (jm_cd mY_X_cost) 1 = .ok (.ifCond .lt 19, 3) := by decide +kernel
theorem d_X_cost_4 : decode (jm_cd mY_X_cost) 4 = .ok (.iload_n 1, 1) := by decide +kernel
theorem d_X_cost_5 : decode (jm_cd mY_X_cost) 5 = .ok (.iconst 2, 1) := by decide +kernel
theorem d_X_cost_6 : decode (jm_cd mY_X_cost) 6 = .ok (.if_icmp .gt 14, 3) := by decide +kernel
theorem d_X_cost_9 : decode (jm_cd mY_X_cost) 9 = .ok (.iload_n 2, 1) := by decide +kernel
theorem d_X_cost_10 : decode (jm_cd mY_X_cost) 10 = .ok (.ifCond .lt 10, 3) := by decide +kernel
theorem d_X_cost_13 : decode (jm_cd mY_X_cost) 13 = .ok (.iload_n 2, 1) := by decide +kernel
theorem d_X_cost_14 : decode (jm_cd mY_X_cost) 14 = .ok (.sipush 1000, 3) := by decide +kernel
theorem d_X_cost_17 : decode (jm_cd mY_X_cost) 17 = .ok (.if_icmp .le 5, 3) := by decide +kernel
theorem d_X_cost_20 : decode (jm_cd mY_X_cost) 20 = .ok (.iconst (-1), 1) := by decide +kernel
theorem d_X_cost_21 : decode (jm_cd mY_X_cost) 21 = .ok (.ireturn, 1) := by decide +kernel
theorem d_X_cost_22 : decode (jm_cd mY_X_cost) 22 = .ok (.aload_n 0, 1) := by decide +kernel
theorem d_X_cost_23 : decode (jm_cd mY_X_cost) 23 = .ok (.getfield 78, 3) := by decide +kernel
theorem d_X_cost_26 : decode (jm_cd mY_X_cost) 26 = .ok (.getfield 238, 3) := by decide +kernel
theorem d_X_cost_29 : decode (jm_cd mY_X_cost) 29 = .ok (.iload_n 1, 1) := by decide +kernel
theorem d_X_cost_30 : decode (jm_cd mY_X_cost) 30 = .ok (.iaload, 1) := by decide +kernel
theorem d_X_cost_31 : decode (jm_cd mY_X_cost) 31 = .ok (.istore_n 3, 1) := by decide +kernel
theorem d_X_cost_32 : decode (jm_cd mY_X_cost) 32 = .ok (.aload_n 0, 1) := by decide +kernel
theorem d_X_cost_33 : decode (jm_cd mY_X_cost) 33 = .ok (.getfield 78, 3) := by decide +kernel
theorem d_X_cost_36 : decode (jm_cd mY_X_cost) 36 = .ok (.getfield 238, 3) := by decide +kernel
theorem d_X_cost_39 : decode (jm_cd mY_X_cost) 39 = .ok (.iload_n 1, 1) := by decide +kernel
theorem d_X_cost_40 : decode (jm_cd mY_X_cost) 40 = .ok (.iload_n 2, 1) := by decide +kernel
theorem d_X_cost_41 : decode (jm_cd mY_X_cost) 41 = .ok (.iastore, 1) := by decide +kernel
theorem d_X_cost_42 : decode (jm_cd mY_X_cost) 42 = .ok (.iload_n 3, 1) := by decide +kernel
theorem d_X_cost_43 : decode (jm_cd mY_X_cost) 43 = .ok (.ireturn, 1) := by decide +kernel
def s_X_cost (s : jm_M) (a0 : Int32) (a1 : Int32) : Option (Int32 × jm_M) := (if a0 < 0 then (some ((-1), s)) else (if 2 < a0 then (some ((-1), s)) else (if a1 < 0 then (some ((-1), s)) else (if a1 ≤ 1000 then jm_ldi s 58 3 a0 (fun v1 => jm_sti s 58 3 a0 a1 (fun s2 => (some (v1, s2)))) else (some ((-1), s))))))
set_option maxRecDepth 100000 in
set_option maxHeartbeats 4000000 in
theorem s_X_cost_ok (s : jm_M) (a0 : Int32) (a1 : Int32) : jm_Sim mY_X_cost 0 0 0 [(0, .ref 1), (1, .int a0), (2, .int a1)] [] 78 mr_154 s (s_X_cost s a0 a1) (jm_rP 78 mr_154) := by
  unfold s_X_cost
  refine jm_iload_n (pc := 0) (q := 1) (x := a0) d_X_cost_0 rfl ?_
  refine jm_if_lt (pc := 1) (tgt := 20) d_X_cost_1 (by decide) ?_ ?_
  · refine jm_iconst (pc := 20) (v := (-1)) d_X_cost_20 ci_m1 ?_
    exact jm_iret (pc := 21) (x := (-1)) d_X_cost_21 rfl rfl rfl rfl rfl
  · refine jm_iload_n (pc := 4) (q := 1) (x := a0) d_X_cost_4 rfl ?_
    refine jm_iconst (pc := 5) (v := 2) d_X_cost_5 ci_2 ?_
    refine jm_icmp_gt (pc := 6) (tgt := 20) d_X_cost_6 (by decide) ?_ ?_
    · refine jm_iconst (pc := 20) (v := (-1)) d_X_cost_20 ci_m1 ?_
      exact jm_iret (pc := 21) (x := (-1)) d_X_cost_21 rfl rfl rfl rfl rfl
    · refine jm_iload_n (pc := 9) (q := 2) (x := a1) d_X_cost_9 rfl ?_
      refine jm_if_lt (pc := 10) (tgt := 20) d_X_cost_10 (by decide) ?_ ?_
      · refine jm_iconst (pc := 20) (v := (-1)) d_X_cost_20 ci_m1 ?_
        exact jm_iret (pc := 21) (x := (-1)) d_X_cost_21 rfl rfl rfl rfl rfl
      · refine jm_iload_n (pc := 13) (q := 2) (x := a1) d_X_cost_13 rfl ?_
        refine jm_sipush (pc := 14) (v := 1000) d_X_cost_14 cs_1000 ?_
        refine jm_icmp_le (pc := 17) (tgt := 22) d_X_cost_17 (by decide) ?_ ?_
        · refine jm_aload_n (pc := 22) (q := 0) (x := 1) d_X_cost_22 rfl ?_
          refine jm_gr (pc := 23) (i := 1) d_X_cost_23 fo_X_78 sh_1 ge_1 le_1_78 rfl (fun _ => rfl) mr_154_1_13 ge_57 ?_
          refine jm_gr (pc := 26) (i := 57) d_X_cost_26 fo_X_238 sh_57 ge_57 le_57_78 rfl (fun _ => rfl) mr_154_57_0 ge_58 ?_
          refine jm_iload_n (pc := 29) (q := 1) (x := a0) d_X_cost_29 rfl ?_
          refine jm_iald (pc := 30) d_X_cost_30 sh_58 ge_58 le_58_78 (fun v1 => ?_)
          refine jm_istore_n (pc := 31) (i := 3) (L2 := [(3, .int v1), (0, .ref 1), (1, .int a0), (2, .int a1)]) d_X_cost_31 rfl (Nat.le_of_ble_eq_true rfl) rfl ?_
          refine jm_aload_n (pc := 32) (q := 1) (x := 1) d_X_cost_32 rfl ?_
          refine jm_gr (pc := 33) (i := 1) d_X_cost_33 fo_X_78 sh_1 ge_1 le_1_78 rfl (fun _ => rfl) mr_154_1_13 ge_57 ?_
          refine jm_gr (pc := 36) (i := 57) d_X_cost_36 fo_X_238 sh_57 ge_57 le_57_78 rfl (fun _ => rfl) mr_154_57_0 ge_58 ?_
          refine jm_iload_n (pc := 39) (q := 2) (x := a0) d_X_cost_39 rfl ?_
          refine jm_iload_n (pc := 40) (q := 3) (x := a1) d_X_cost_40 rfl ?_
          refine jm_iast (pc := 41) d_X_cost_41 sh_58 ge_58 le_58_78 (fun s2 => ?_)
          refine jm_iload_n (pc := 42) (q := 0) (x := v1) d_X_cost_42 rfl ?_
          exact jm_iret (pc := 43) (x := v1) d_X_cost_43 rfl rfl rfl rfl rfl
        · refine jm_iconst (pc := 20) (v := (-1)) d_X_cost_20 ci_m1 ?_
          exact jm_iret (pc := 21) (x := (-1)) d_X_cost_21 rfl rfl rfl rfl rfl
theorem d_Z_cost_0 : decode (jm_cd mY_Z_cost) 0 = .ok (.iload_n 1, 1) := by decide +kernel
theorem d_Z_cost_1 : decode (jm_cd mY_Z_cost) 1 = .ok (.i2l, 1) := by decide +kernel
theorem d_Z_cost_2 : decode (jm_cd mY_Z_cost) 2 = .ok (.lconst 0, 1) := by decide +kernel
theorem d_Z_cost_3 : decode (jm_cd mY_Z_cost) 3 = .ok (.ldc2_w 86, 3) := by decide +kernel
theorem d_Z_cost_6 : decode (jm_cd mY_Z_cost) 6 = .ok (.invokestatic 69, 3) := by decide +kernel
theorem d_Z_cost_9 : decode (jm_cd mY_Z_cost) 9 = .ok (.ifCond .eq 15, 3) := by decide +kernel
theorem d_Z_cost_12 : decode (jm_cd mY_Z_cost) 12 = .ok (.iload_n 2, 1) := by decide +kernel
theorem d_Z_cost_13 : decode (jm_cd mY_Z_cost) 13 = .ok (.i2l, 1) := by decide +kernel
theorem d_Z_cost_14 : decode (jm_cd mY_Z_cost) 14 = .ok (.lconst 0, 1) := by decide +kernel
theorem d_Z_cost_15 : decode (jm_cd mY_Z_cost) 15 = .ok (.ldc2_w 255, 3) := by decide +kernel
theorem d_Z_cost_18 : decode (jm_cd mY_Z_cost) 18 = .ok (.invokestatic 69, 3) := by decide +kernel
theorem d_Z_cost_21 : decode (jm_cd mY_Z_cost) 21 = .ok (.ifCond .ne 5, 3) := by decide +kernel
theorem d_Z_cost_24 : decode (jm_cd mY_Z_cost) 24 = .ok (.iconst (-1), 1) := by decide +kernel
theorem d_Z_cost_25 : decode (jm_cd mY_Z_cost) 25 = .ok (.ireturn, 1) := by decide +kernel
theorem d_Z_cost_26 : decode (jm_cd mY_Z_cost) 26 = .ok (.aload_n 0, 1) := by decide +kernel
theorem d_Z_cost_27 : decode (jm_cd mY_Z_cost) 27 = .ok (.getfield 46, 3) := by decide +kernel
theorem d_Z_cost_30 : decode (jm_cd mY_Z_cost) 30 = .ok (.iload_n 1, 1) := by decide +kernel
theorem d_Z_cost_31 : decode (jm_cd mY_Z_cost) 31 = .ok (.iaload, 1) := by decide +kernel
theorem d_Z_cost_32 : decode (jm_cd mY_Z_cost) 32 = .ok (.istore_n 3, 1) := by decide +kernel
theorem d_Z_cost_33 : decode (jm_cd mY_Z_cost) 33 = .ok (.aload_n 0, 1) := by decide +kernel
theorem d_Z_cost_34 : decode (jm_cd mY_Z_cost) 34 = .ok (.getfield 46, 3) := by decide +kernel
theorem d_Z_cost_37 : decode (jm_cd mY_Z_cost) 37 = .ok (.iload_n 1, 1) := by decide +kernel
theorem d_Z_cost_38 : decode (jm_cd mY_Z_cost) 38 = .ok (.iload_n 2, 1) := by decide +kernel
theorem d_Z_cost_39 : decode (jm_cd mY_Z_cost) 39 = .ok (.iastore, 1) := by decide +kernel
theorem d_Z_cost_40 : decode (jm_cd mY_Z_cost) 40 = .ok (.iload_n 3, 1) := by decide +kernel
theorem d_Z_cost_41 : decode (jm_cd mY_Z_cost) 41 = .ok (.ireturn, 1) := by decide +kernel
def s_Z_cost (s : jm_M) (a0 : Int32) (a1 : Int32) : Option (Int32 × jm_M) := jm_bd (s_Z_in s a0.toInt64 0 2) (fun v1 => (if v1 = 0 then (some ((-1), s)) else jm_bd (s_Z_in s a1.toInt64 0 1000) (fun v2 => (if v2 = 0 then (some ((-1), s)) else jm_ldi s 72 3 a0 (fun v3 => jm_sti s 72 3 a0 a1 (fun s4 => (some (v3, s4))))))))
set_option maxRecDepth 100000 in
set_option maxHeartbeats 4000000 in
theorem s_Z_cost_ok (s : jm_M) (a0 : Int32) (a1 : Int32) : jm_Sim mY_Z_cost 0 0 0 [(0, .ref 59), (1, .int a0), (2, .int a1)] [] 78 mr_154 s (s_Z_cost s a0 a1) (jm_rP 78 mr_154) := by
  unfold s_Z_cost
  refine jm_iload_n (pc := 0) (q := 1) (x := a0) d_Z_cost_0 rfl ?_
  refine jm_i2l (pc := 1) d_Z_cost_1 ?_
  refine jm_lconst (pc := 2) (v := 0) d_Z_cost_2 cl_0 ?_
  refine jm_ldc2 (pc := 3) (v := 2) d_Z_cost_3 kl_Z_86 ?_
  refine jm_Sp (pc := 6) (Y' := mY_Z_in) (avs := [.long a0.toInt64, .long 0, .long 2]) (rest := []) (s_Z_in_ok s a0.toInt64 0 2) ok_Z_in l0_Z_cost__Z_in ml_Z_69 sm_Z_in d_Z_cost_6 rfl rfl (Nat.le_of_ble_eq_true rfl) (Nat.le_of_ble_eq_true rfl) (Nat.le_of_ble_eq_true rfl) (Nat.le_of_ble_eq_true rfl) (fun v1 => ?_)
  refine jm_if_eq (pc := 9) (tgt := 24) d_Z_cost_9 (by decide) ?_ ?_
  · refine jm_iconst (pc := 24) (v := (-1)) d_Z_cost_24 ci_m1 ?_
    exact jm_iret (pc := 25) (x := (-1)) d_Z_cost_25 rfl rfl rfl rfl rfl
  · refine jm_iload_n (pc := 12) (q := 2) (x := a1) d_Z_cost_12 rfl ?_
    refine jm_i2l (pc := 13) d_Z_cost_13 ?_
    refine jm_lconst (pc := 14) (v := 0) d_Z_cost_14 cl_0 ?_
    refine jm_ldc2 (pc := 15) (v := 1000) d_Z_cost_15 kl_Z_255 ?_
    refine jm_Sp (pc := 18) (Y' := mY_Z_in) (avs := [.long a1.toInt64, .long 0, .long 1000]) (rest := []) (s_Z_in_ok s a1.toInt64 0 1000) ok_Z_in l0_Z_cost__Z_in ml_Z_69 sm_Z_in d_Z_cost_18 rfl rfl (Nat.le_of_ble_eq_true rfl) (Nat.le_of_ble_eq_true rfl) (Nat.le_of_ble_eq_true rfl) (Nat.le_of_ble_eq_true rfl) (fun v2 => ?_)
    refine jm_if_ne (pc := 21) (tgt := 26) d_Z_cost_21 (by decide) ?_ ?_
    · refine jm_iconst (pc := 24) (v := (-1)) d_Z_cost_24 ci_m1 ?_
      exact jm_iret (pc := 25) (x := (-1)) d_Z_cost_25 rfl rfl rfl rfl rfl
    · refine jm_aload_n (pc := 26) (q := 0) (x := 59) d_Z_cost_26 rfl ?_
      refine jm_gr (pc := 27) (i := 59) d_Z_cost_27 fo_Z_46 sh_59 ge_59 le_59_78 rfl (fun _ => rfl) mr_154_59_14 ge_72 ?_
      refine jm_iload_n (pc := 30) (q := 1) (x := a0) d_Z_cost_30 rfl ?_
      refine jm_iald (pc := 31) d_Z_cost_31 sh_72 ge_72 le_72_78 (fun v3 => ?_)
      refine jm_istore_n (pc := 32) (i := 3) (L2 := [(3, .int v3), (0, .ref 59), (1, .int a0), (2, .int a1)]) d_Z_cost_32 rfl (Nat.le_of_ble_eq_true rfl) rfl ?_
      refine jm_aload_n (pc := 33) (q := 1) (x := 59) d_Z_cost_33 rfl ?_
      refine jm_gr (pc := 34) (i := 59) d_Z_cost_34 fo_Z_46 sh_59 ge_59 le_59_78 rfl (fun _ => rfl) mr_154_59_14 ge_72 ?_
      refine jm_iload_n (pc := 37) (q := 2) (x := a0) d_Z_cost_37 rfl ?_
      refine jm_iload_n (pc := 38) (q := 3) (x := a1) d_Z_cost_38 rfl ?_
      refine jm_iast (pc := 39) d_Z_cost_39 sh_72 ge_72 le_72_78 (fun s4 => ?_)
      refine jm_iload_n (pc := 40) (q := 0) (x := v3) d_Z_cost_40 rfl ?_
      exact jm_iret (pc := 41) (x := v3) d_Z_cost_41 rfl rfl rfl rfl rfl
theorem d_X_isNumberOfNights_0 : decode (jm_cd mY_X_isNumberOfNights) 0 = .ok (.iload_n 0, 1) := by decide +kernel
theorem d_X_isNumberOfNights_1 : decode (jm_cd mY_X_isNumberOfNights) 1 = .ok (.ifCond .lt 13, 3) := by decide +kernel
theorem d_X_isNumberOfNights_4 : decode (jm_cd mY_X_isNumberOfNights) 4 = .ok (.iload_n 0, 1) := by decide +kernel
theorem d_X_isNumberOfNights_5 : decode (jm_cd mY_X_isNumberOfNights) 5 = .ok (.bipush 100, 2) := by decide +kernel
theorem d_X_isNumberOfNights_7 : decode (jm_cd mY_X_isNumberOfNights) 7 = .ok (.if_icmp .gt 7, 3) := by decide +kernel
theorem d_X_isNumberOfNights_10 : decode (jm_cd mY_X_isNumberOfNights) 10 = .ok (.iconst 1, 1) := by decide +kernel
theorem d_X_isNumberOfNights_11 : decode (jm_cd mY_X_isNumberOfNights) 11 = .ok (.goto 4, 3) := by decide +kernel
theorem d_X_isNumberOfNights_14 : decode (jm_cd mY_X_isNumberOfNights) 14 = .ok (.iconst 0, 1) := by decide +kernel
theorem d_X_isNumberOfNights_15 : decode (jm_cd mY_X_isNumberOfNights) 15 = .ok (.ireturn, 1) := by decide +kernel
def s_X_isNumberOfNights (s : jm_M) (a0 : Int32) : Option Int32 := (if a0 < 0 then (some 0) else (if 100 < a0 then (some 0) else (some 1)))
set_option maxRecDepth 100000 in
set_option maxHeartbeats 4000000 in
theorem s_X_isNumberOfNights_ok (s : jm_M) (a0 : Int32) : jm_Sim mY_X_isNumberOfNights 0 0 0 [(0, .int a0)] [] 78 mr_154 s (s_X_isNumberOfNights s a0) (jm_rI 78 mr_154 s) := by
  unfold s_X_isNumberOfNights
  refine jm_iload_n (pc := 0) (q := 0) (x := a0) d_X_isNumberOfNights_0 rfl ?_
  refine jm_if_lt (pc := 1) (tgt := 14) d_X_isNumberOfNights_1 (by decide) ?_ ?_
  · refine jm_iconst (pc := 14) (v := 0) d_X_isNumberOfNights_14 ci_0 ?_
    exact jm_iret (pc := 15) (x := 0) d_X_isNumberOfNights_15 rfl (by decide) rfl rfl rfl
  · refine jm_iload_n (pc := 4) (q := 0) (x := a0) d_X_isNumberOfNights_4 rfl ?_
    refine jm_bipush (pc := 5) (v := 100) d_X_isNumberOfNights_5 cb_100 ?_
    refine jm_icmp_gt (pc := 7) (tgt := 14) d_X_isNumberOfNights_7 (by decide) ?_ ?_
    · refine jm_iconst (pc := 14) (v := 0) d_X_isNumberOfNights_14 ci_0 ?_
      exact jm_iret (pc := 15) (x := 0) d_X_isNumberOfNights_15 rfl (by decide) rfl rfl rfl
    · refine jm_iconst (pc := 10) (v := 1) d_X_isNumberOfNights_10 ci_1 ?_
      refine jm_goto (pc := 11) (tgt := 15) d_X_isNumberOfNights_11 (by decide) ?_
      exact jm_iret (pc := 15) (x := 1) d_X_isNumberOfNights_15 rfl (by decide) rfl rfl rfl
theorem d_Ki_wouldSend_0 : decode (jm_cd mY_Ki_wouldSend) 0 = .ok (.iload_n 1, 1) := by decide +kernel
theorem d_Ki_wouldSend_1 : decode (jm_cd mY_Ki_wouldSend) 1 = .ok (.iconst 1, 1) := by decide +kernel
theorem d_Ki_wouldSend_2 : decode (jm_cd mY_Ki_wouldSend) 2 = .ok (.iadd, 1) := by decide +kernel
theorem d_Ki_wouldSend_3 : decode (jm_cd mY_Ki_wouldSend) 3 = .ok (.aload_n 0, 1) := by decide +kernel
theorem d_Ki_wouldSend_4 : decode (jm_cd mY_Ki_wouldSend) 4 = .ok (.getfield 9, 3) := by decide +kernel
theorem d_Ki_wouldSend_7 : decode (jm_cd mY_Ki_wouldSend) 7 = .ok (.iconst 0, 1) := by decide +kernel
theorem d_Ki_wouldSend_8 : decode (jm_cd mY_Ki_wouldSend) 8 = .ok (.iaload, 1) := by decide +kernel
theorem d_Ki_wouldSend_9 : decode (jm_cd mY_Ki_wouldSend) 9 = .ok (.imul, 1) := by decide +kernel
theorem d_Ki_wouldSend_10 : decode (jm_cd mY_Ki_wouldSend) 10 = .ok (.iload_n 2, 1) := by decide +kernel
theorem d_Ki_wouldSend_11 : decode (jm_cd mY_Ki_wouldSend) 11 = .ok (.iconst 1, 1) := by decide +kernel
theorem d_Ki_wouldSend_12 : decode (jm_cd mY_Ki_wouldSend) 12 = .ok (.iadd, 1) := by decide +kernel
theorem d_Ki_wouldSend_13 : decode (jm_cd mY_Ki_wouldSend) 13 = .ok (.aload_n 0, 1) := by decide +kernel
theorem d_Ki_wouldSend_14 : decode (jm_cd mY_Ki_wouldSend) 14 = .ok (.getfield 9, 3) := by decide +kernel
theorem d_Ki_wouldSend_17 : decode (jm_cd mY_Ki_wouldSend) 17 = .ok (.iconst 2, 1) := by decide +kernel
theorem d_Ki_wouldSend_18 : decode (jm_cd mY_Ki_wouldSend) 18 = .ok (.iaload, 1) := by decide +kernel
theorem d_Ki_wouldSend_19 : decode (jm_cd mY_Ki_wouldSend) 19 = .ok (.imul, 1) := by decide +kernel
theorem d_Ki_wouldSend_20 : decode (jm_cd mY_Ki_wouldSend) 20 = .ok (.iadd, 1) := by decide +kernel
theorem d_Ki_wouldSend_21 : decode (jm_cd mY_Ki_wouldSend) 21 = .ok (.istore_n 3, 1) := by decide +kernel
theorem d_Ki_wouldSend_22 : decode (jm_cd mY_Ki_wouldSend) 22 = .ok (.iload_n 3, 1) := by decide +kernel
theorem d_Ki_wouldSend_23 : decode (jm_cd mY_Ki_wouldSend) 23 = .ok (.iload_n 2, 1) := by decide +kernel
theorem d_Ki_wouldSend_24 : decode (jm_cd mY_Ki_wouldSend) 24 = .ok (.iconst 1, 1) := by decide +kernel
theorem d_Ki_wouldSend_25 : decode (jm_cd mY_Ki_wouldSend) 25 = .ok (.iadd, 1) := by decide +kernel
theorem d_Ki_wouldSend_26 : decode (jm_cd mY_Ki_wouldSend) 26 = .ok (.aload_n 0, 1) := by decide +kernel
theorem d_Ki_wouldSend_27 : decode (jm_cd mY_Ki_wouldSend) 27 = .ok (.getfield 9, 3) := by decide +kernel
theorem d_Ki_wouldSend_30 : decode (jm_cd mY_Ki_wouldSend) 30 = .ok (.iconst 1, 1) := by decide +kernel
theorem d_Ki_wouldSend_31 : decode (jm_cd mY_Ki_wouldSend) 31 = .ok (.iaload, 1) := by decide +kernel
theorem d_Ki_wouldSend_32 : decode (jm_cd mY_Ki_wouldSend) 32 = .ok (.imul, 1) := by decide +kernel
theorem d_Ki_wouldSend_33 : decode (jm_cd mY_Ki_wouldSend) 33 = .ok (.if_icmp .gt 7, 3) := by decide +kernel
theorem d_Ki_wouldSend_36 : decode (jm_cd mY_Ki_wouldSend) 36 = .ok (.iconst 1, 1) := by decide +kernel
theorem d_Ki_wouldSend_37 : decode (jm_cd mY_Ki_wouldSend) 37 = .ok (.goto 4, 3) := by decide +kernel
theorem d_Ki_wouldSend_40 : decode (jm_cd mY_Ki_wouldSend) 40 = .ok (.iconst 0, 1) := by decide +kernel
theorem d_Ki_wouldSend_41 : decode (jm_cd mY_Ki_wouldSend) 41 = .ok (.ireturn, 1) := by decide +kernel
def s_Ki_wouldSend (s : jm_M) (a0 : Int32) (a1 : Int32) : Option Int32 := jm_ldi s 58 3 0 (fun v1 => jm_ldi s 58 3 2 (fun v2 => jm_vi (((a0 + 1) * v1) + ((a1 + 1) * v2)) (fun v3 => jm_ldi s 58 3 1 (fun v4 => (if ((a1 + 1) * v4) < v3 then (some 0) else (some 1))))))
set_option maxRecDepth 100000 in
set_option maxHeartbeats 4000000 in
theorem s_Ki_wouldSend_ok (s : jm_M) (a0 : Int32) (a1 : Int32) : jm_Sim mY_Ki_wouldSend 0 0 0 [(0, .ref 57), (1, .int a0), (2, .int a1)] [] 78 mr_154 s (s_Ki_wouldSend s a0 a1) (jm_rI 78 mr_154 s) := by
  unfold s_Ki_wouldSend
  refine jm_iload_n (pc := 0) (q := 1) (x := a0) d_Ki_wouldSend_0 rfl ?_
  refine jm_iconst (pc := 1) (v := 1) d_Ki_wouldSend_1 ci_1 ?_
  refine jm_iadd (pc := 2) d_Ki_wouldSend_2 ?_
  refine jm_aload_n (pc := 3) (q := 0) (x := 57) d_Ki_wouldSend_3 rfl ?_
  refine jm_gr (pc := 4) (i := 57) d_Ki_wouldSend_4 fo_Ki_9 sh_57 ge_57 le_57_78 rfl (fun _ => rfl) mr_154_57_0 ge_58 ?_
  refine jm_iconst (pc := 7) (v := 0) d_Ki_wouldSend_7 ci_0 ?_
  refine jm_iald (pc := 8) d_Ki_wouldSend_8 sh_58 ge_58 le_58_78 (fun v1 => ?_)
  refine jm_imul (pc := 9) d_Ki_wouldSend_9 ?_
  refine jm_iload_n (pc := 10) (q := 2) (x := a1) d_Ki_wouldSend_10 rfl ?_
  refine jm_iconst (pc := 11) (v := 1) d_Ki_wouldSend_11 ci_1 ?_
  refine jm_iadd (pc := 12) d_Ki_wouldSend_12 ?_
  refine jm_aload_n (pc := 13) (q := 0) (x := 57) d_Ki_wouldSend_13 rfl ?_
  refine jm_gr (pc := 14) (i := 57) d_Ki_wouldSend_14 fo_Ki_9 sh_57 ge_57 le_57_78 rfl (fun _ => rfl) mr_154_57_0 ge_58 ?_
  refine jm_iconst (pc := 17) (v := 2) d_Ki_wouldSend_17 ci_2 ?_
  refine jm_iald (pc := 18) d_Ki_wouldSend_18 sh_58 ge_58 le_58_78 (fun v2 => ?_)
  refine jm_imul (pc := 19) d_Ki_wouldSend_19 ?_
  refine jm_iadd (pc := 20) d_Ki_wouldSend_20 ?_
  refine jm_nvi (fun v3 => ?_)
  refine jm_istore_n (pc := 21) (i := 3) (L2 := [(3, .int v3), (0, .ref 57), (1, .int a0), (2, .int a1)]) d_Ki_wouldSend_21 rfl (Nat.le_of_ble_eq_true rfl) rfl ?_
  refine jm_iload_n (pc := 22) (q := 0) (x := v3) d_Ki_wouldSend_22 rfl ?_
  refine jm_iload_n (pc := 23) (q := 3) (x := a1) d_Ki_wouldSend_23 rfl ?_
  refine jm_iconst (pc := 24) (v := 1) d_Ki_wouldSend_24 ci_1 ?_
  refine jm_iadd (pc := 25) d_Ki_wouldSend_25 ?_
  refine jm_aload_n (pc := 26) (q := 1) (x := 57) d_Ki_wouldSend_26 rfl ?_
  refine jm_gr (pc := 27) (i := 57) d_Ki_wouldSend_27 fo_Ki_9 sh_57 ge_57 le_57_78 rfl (fun _ => rfl) mr_154_57_0 ge_58 ?_
  refine jm_iconst (pc := 30) (v := 1) d_Ki_wouldSend_30 ci_1 ?_
  refine jm_iald (pc := 31) d_Ki_wouldSend_31 sh_58 ge_58 le_58_78 (fun v4 => ?_)
  refine jm_imul (pc := 32) d_Ki_wouldSend_32 ?_
  refine jm_icmp_gt (pc := 33) (tgt := 40) d_Ki_wouldSend_33 (by decide) ?_ ?_
  · refine jm_iconst (pc := 40) (v := 0) d_Ki_wouldSend_40 ci_0 ?_
    exact jm_iret (pc := 41) (x := 0) d_Ki_wouldSend_41 rfl (by decide) rfl rfl rfl
  · refine jm_iconst (pc := 36) (v := 1) d_Ki_wouldSend_36 ci_1 ?_
    refine jm_goto (pc := 37) (tgt := 41) d_Ki_wouldSend_37 (by decide) ?_
    exact jm_iret (pc := 41) (x := 1) d_Ki_wouldSend_41 rfl (by decide) rfl rfl rfl
theorem d_X_sends_0 : decode (jm_cd mY_X_sends) 0 = .ok (.iload_n 1, 1) := by decide +kernel
theorem d_X_sends_1 : decode (jm_cd mY_X_sends) 1 = .ok (.invokestatic 241, 3) := by decide +kernel
theorem d_X_sends_4 : decode (jm_cd mY_X_sends) 4 = .ok (.ifCond .eq 10, 3) := by decide +kernel
theorem d_X_sends_7 : decode (jm_cd mY_X_sends) 7 = .ok (.iload_n 2, 1) := by decide +kernel
theorem d_X_sends_8 : decode (jm_cd mY_X_sends) 8 = .ok (.invokestatic 241, 3) := by decide +kernel
theorem d_X_sends_11 : decode (jm_cd mY_X_sends) 11 = .ok (.ifCond .ne 5, 3) := by decide +kernel
theorem d_X_sends_14 : decode (jm_cd mY_X_sends) 14 = .ok (.iconst (-1), 1) := by decide +kernel
theorem d_X_sends_15 : decode (jm_cd mY_X_sends) 15 = .ok (.ireturn, 1) := by decide +kernel
theorem d_X_sends_16 : decode (jm_cd mY_X_sends) 16 = .ok (.aload_n 0, 1) := by decide +kernel
theorem d_X_sends_17 : decode (jm_cd mY_X_sends) 17 = .ok (.getfield 78, 3) := by decide +kernel
theorem d_X_sends_20 : decode (jm_cd mY_X_sends) 20 = .ok (.iload_n 1, 1) := by decide +kernel
theorem d_X_sends_21 : decode (jm_cd mY_X_sends) 21 = .ok (.iload_n 2, 1) := by decide +kernel
theorem d_X_sends_22 : decode (jm_cd mY_X_sends) 22 = .ok (.invokevirtual 244, 3) := by decide +kernel
theorem d_X_sends_25 : decode (jm_cd mY_X_sends) 25 = .ok (.ifCond .eq 7, 3) := by decide +kernel
theorem d_X_sends_28 : decode (jm_cd mY_X_sends) 28 = .ok (.iconst 1, 1) := by decide +kernel
theorem d_X_sends_29 : decode (jm_cd mY_X_sends) 29 = .ok (.goto 4, 3) := by decide +kernel
theorem d_X_sends_32 : decode (jm_cd mY_X_sends) 32 = .ok (.iconst 0, 1) := by decide +kernel
theorem d_X_sends_33 : decode (jm_cd mY_X_sends) 33 = .ok (.ireturn, 1) := by decide +kernel
def s_X_sends (s : jm_M) (a0 : Int32) (a1 : Int32) : Option Int32 := jm_bd (s_X_isNumberOfNights s a0) (fun v1 => (if v1 = 0 then (some (-1)) else jm_bd (s_X_isNumberOfNights s a1) (fun v2 => (if v2 = 0 then (some (-1)) else jm_bd (s_Ki_wouldSend s a0 a1) (fun v3 => (if v3 = 0 then (some 0) else (some 1)))))))
set_option maxRecDepth 100000 in
set_option maxHeartbeats 4000000 in
theorem s_X_sends_ok (s : jm_M) (a0 : Int32) (a1 : Int32) : jm_Sim mY_X_sends 0 0 0 [(0, .ref 1), (1, .int a0), (2, .int a1)] [] 78 mr_154 s (s_X_sends s a0 a1) (jm_rI 78 mr_154 s) := by
  unfold s_X_sends
  refine jm_iload_n (pc := 0) (q := 1) (x := a0) d_X_sends_0 rfl ?_
  refine jm_Sp (pc := 1) (Y' := mY_X_isNumberOfNights) (avs := [.int a0]) (rest := []) (s_X_isNumberOfNights_ok s a0) ok_X_isNumberOfNights l0_X_sends__X_isNumberOfNights ml_X_241 sm_X_isNumberOfNights d_X_sends_1 rfl rfl (Nat.le_of_ble_eq_true rfl) (Nat.le_of_ble_eq_true rfl) (Nat.le_of_ble_eq_true rfl) (Nat.le_of_ble_eq_true rfl) (fun v1 => ?_)
  refine jm_if_eq (pc := 4) (tgt := 14) d_X_sends_4 (by decide) ?_ ?_
  · refine jm_iconst (pc := 14) (v := (-1)) d_X_sends_14 ci_m1 ?_
    exact jm_iret (pc := 15) (x := (-1)) d_X_sends_15 rfl rfl rfl rfl rfl
  · refine jm_iload_n (pc := 7) (q := 2) (x := a1) d_X_sends_7 rfl ?_
    refine jm_Sp (pc := 8) (Y' := mY_X_isNumberOfNights) (avs := [.int a1]) (rest := []) (s_X_isNumberOfNights_ok s a1) ok_X_isNumberOfNights l0_X_sends__X_isNumberOfNights ml_X_241 sm_X_isNumberOfNights d_X_sends_8 rfl rfl (Nat.le_of_ble_eq_true rfl) (Nat.le_of_ble_eq_true rfl) (Nat.le_of_ble_eq_true rfl) (Nat.le_of_ble_eq_true rfl) (fun v2 => ?_)
    refine jm_if_ne (pc := 11) (tgt := 16) d_X_sends_11 (by decide) ?_ ?_
    · refine jm_iconst (pc := 14) (v := (-1)) d_X_sends_14 ci_m1 ?_
      exact jm_iret (pc := 15) (x := (-1)) d_X_sends_15 rfl rfl rfl rfl rfl
    · refine jm_aload_n (pc := 16) (q := 0) (x := 1) d_X_sends_16 rfl ?_
      refine jm_gr (pc := 17) (i := 1) d_X_sends_17 fo_X_78 sh_1 ge_1 le_1_78 rfl (fun _ => rfl) mr_154_1_13 ge_57 ?_
      refine jm_iload_n (pc := 20) (q := 1) (x := a0) d_X_sends_20 rfl ?_
      refine jm_iload_n (pc := 21) (q := 2) (x := a1) d_X_sends_21 rfl ?_
      refine jm_Vp (pc := 22) (Y' := mY_Ki_wouldSend) (i := 57) (avs := [.int a0, .int a1]) (rest := []) (s_Ki_wouldSend_ok s a0 a1) ok_Ki_wouldSend l0_X_sends__Ki_wouldSend ml_X_244 im_Ki_wouldSend se_Ki_wouldSend d_X_sends_22 rfl sh_57 rfl rfl ge_57 le_57_78 rfl (Nat.le_of_ble_eq_true rfl) (Nat.le_of_ble_eq_true rfl) (Nat.le_of_ble_eq_true rfl) (Nat.le_of_ble_eq_true rfl) (fun v3 => ?_)
      refine jm_if_eq (pc := 25) (tgt := 32) d_X_sends_25 (by decide) ?_ ?_
      · refine jm_iconst (pc := 32) (v := 0) d_X_sends_32 ci_0 ?_
        exact jm_iret (pc := 33) (x := 0) d_X_sends_33 rfl rfl rfl rfl rfl
      · refine jm_iconst (pc := 28) (v := 1) d_X_sends_28 ci_1 ?_
        refine jm_goto (pc := 29) (tgt := 33) d_X_sends_29 (by decide) ?_
        exact jm_iret (pc := 33) (x := 1) d_X_sends_33 rfl rfl rfl rfl rfl
theorem d_Z_areNights_0 : decode (jm_cd mY_Z_areNights) 0 = .ok (.iload_n 0, 1) := by decide +kernel
theorem d_Z_areNights_1 : decode (jm_cd mY_Z_areNights) 1 = .ok (.i2l, 1) := by decide +kernel
theorem d_Z_areNights_2 : decode (jm_cd mY_Z_areNights) 2 = .ok (.lconst 0, 1) := by decide +kernel
theorem d_Z_areNights_3 : decode (jm_cd mY_Z_areNights) 3 = .ok (.ldc2_w 257, 3) := by decide +kernel
theorem d_Z_areNights_6 : decode (jm_cd mY_Z_areNights) 6 = .ok (.invokestatic 69, 3) := by decide +kernel
theorem d_Z_areNights_9 : decode (jm_cd mY_Z_areNights) 9 = .ok (.ifCond .eq 19, 3) := by decide +kernel
theorem d_Z_areNights_12 : decode (jm_cd mY_Z_areNights) 12 = .ok (.iload_n 1, 1) := by decide +kernel
theorem d_Z_areNights_13 : decode (jm_cd mY_Z_areNights) 13 = .ok (.i2l, 1) := by decide +kernel
theorem d_Z_areNights_14 : decode (jm_cd mY_Z_areNights) 14 = .ok (.lconst 0, 1) := by decide +kernel
theorem d_Z_areNights_15 : decode (jm_cd mY_Z_areNights) 15 = .ok (.ldc2_w 257, 3) := by decide +kernel
theorem d_Z_areNights_18 : decode (jm_cd mY_Z_areNights) 18 = .ok (.invokestatic 69, 3) := by decide +kernel
theorem d_Z_areNights_21 : decode (jm_cd mY_Z_areNights) 21 = .ok (.ifCond .eq 7, 3) := by decide +kernel
theorem d_Z_areNights_24 : decode (jm_cd mY_Z_areNights) 24 = .ok (.iconst 1, 1) := by decide +kernel
theorem d_Z_areNights_25 : decode (jm_cd mY_Z_areNights) 25 = .ok (.goto 4, 3) := by decide +kernel
theorem d_Z_areNights_28 : decode (jm_cd mY_Z_areNights) 28 = .ok (.iconst 0, 1) := by decide +kernel
theorem d_Z_areNights_29 : decode (jm_cd mY_Z_areNights) 29 = .ok (.ireturn, 1) := by decide +kernel
def s_Z_areNights (s : jm_M) (a0 : Int32) (a1 : Int32) : Option Int32 := jm_bd (s_Z_in s a0.toInt64 0 100) (fun v1 => (if v1 = 0 then (some 0) else jm_bd (s_Z_in s a1.toInt64 0 100) (fun v2 => (if v2 = 0 then (some 0) else (some 1)))))
set_option maxRecDepth 100000 in
set_option maxHeartbeats 4000000 in
theorem s_Z_areNights_ok (s : jm_M) (a0 : Int32) (a1 : Int32) : jm_Sim mY_Z_areNights 0 0 0 [(0, .int a0), (1, .int a1)] [] 78 mr_154 s (s_Z_areNights s a0 a1) (jm_rI 78 mr_154 s) := by
  unfold s_Z_areNights
  refine jm_iload_n (pc := 0) (q := 0) (x := a0) d_Z_areNights_0 rfl ?_
  refine jm_i2l (pc := 1) d_Z_areNights_1 ?_
  refine jm_lconst (pc := 2) (v := 0) d_Z_areNights_2 cl_0 ?_
  refine jm_ldc2 (pc := 3) (v := 100) d_Z_areNights_3 kl_Z_257 ?_
  refine jm_Sp (pc := 6) (Y' := mY_Z_in) (avs := [.long a0.toInt64, .long 0, .long 100]) (rest := []) (s_Z_in_ok s a0.toInt64 0 100) ok_Z_in l0_Z_areNights__Z_in ml_Z_69 sm_Z_in d_Z_areNights_6 rfl rfl (Nat.le_of_ble_eq_true rfl) (Nat.le_of_ble_eq_true rfl) (Nat.le_of_ble_eq_true rfl) (Nat.le_of_ble_eq_true rfl) (fun v1 => ?_)
  refine jm_if_eq (pc := 9) (tgt := 28) d_Z_areNights_9 (by decide) ?_ ?_
  · refine jm_iconst (pc := 28) (v := 0) d_Z_areNights_28 ci_0 ?_
    exact jm_iret (pc := 29) (x := 0) d_Z_areNights_29 rfl (by decide) rfl rfl rfl
  · refine jm_iload_n (pc := 12) (q := 1) (x := a1) d_Z_areNights_12 rfl ?_
    refine jm_i2l (pc := 13) d_Z_areNights_13 ?_
    refine jm_lconst (pc := 14) (v := 0) d_Z_areNights_14 cl_0 ?_
    refine jm_ldc2 (pc := 15) (v := 100) d_Z_areNights_15 kl_Z_257 ?_
    refine jm_Sp (pc := 18) (Y' := mY_Z_in) (avs := [.long a1.toInt64, .long 0, .long 100]) (rest := []) (s_Z_in_ok s a1.toInt64 0 100) ok_Z_in l0_Z_areNights__Z_in ml_Z_69 sm_Z_in d_Z_areNights_18 rfl rfl (Nat.le_of_ble_eq_true rfl) (Nat.le_of_ble_eq_true rfl) (Nat.le_of_ble_eq_true rfl) (Nat.le_of_ble_eq_true rfl) (fun v2 => ?_)
    refine jm_if_eq (pc := 21) (tgt := 28) d_Z_areNights_21 (by decide) ?_ ?_
    · refine jm_iconst (pc := 28) (v := 0) d_Z_areNights_28 ci_0 ?_
      exact jm_iret (pc := 29) (x := 0) d_Z_areNights_29 rfl (by decide) rfl rfl rfl
    · refine jm_iconst (pc := 24) (v := 1) d_Z_areNights_24 ci_1 ?_
      refine jm_goto (pc := 25) (tgt := 29) d_Z_areNights_25 (by decide) ?_
      exact jm_iret (pc := 29) (x := 1) d_Z_areNights_29 rfl (by decide) rfl rfl rfl
theorem d_Z_doesSend_0 : decode (jm_cd mY_Z_doesSend) 0 = .ok (.iload_n 1, 1) := by decide +kernel
theorem d_Z_doesSend_1 : decode (jm_cd mY_Z_doesSend) 1 = .ok (.iconst 1, 1) := by decide +kernel
theorem d_Z_doesSend_2 : decode (jm_cd mY_Z_doesSend) 2 = .ok (.iadd, 1) := by decide +kernel
theorem d_Z_doesSend_3 : decode (jm_cd mY_Z_doesSend) 3 = .ok (.aload_n 0, 1) := by decide +kernel
theorem d_Z_doesSend_4 : decode (jm_cd mY_Z_doesSend) 4 = .ok (.getfield 46, 3) := by decide +kernel
theorem d_Z_doesSend_7 : decode (jm_cd mY_Z_doesSend) 7 = .ok (.iconst 0, 1) := by decide +kernel
theorem d_Z_doesSend_8 : decode (jm_cd mY_Z_doesSend) 8 = .ok (.iaload, 1) := by decide +kernel
theorem d_Z_doesSend_9 : decode (jm_cd mY_Z_doesSend) 9 = .ok (.imul, 1) := by decide +kernel
theorem d_Z_doesSend_10 : decode (jm_cd mY_Z_doesSend) 10 = .ok (.iload_n 2, 1) := by decide +kernel
theorem d_Z_doesSend_11 : decode (jm_cd mY_Z_doesSend) 11 = .ok (.iconst 1, 1) := by decide +kernel
theorem d_Z_doesSend_12 : decode (jm_cd mY_Z_doesSend) 12 = .ok (.iadd, 1) := by decide +kernel
theorem d_Z_doesSend_13 : decode (jm_cd mY_Z_doesSend) 13 = .ok (.aload_n 0, 1) := by decide +kernel
theorem d_Z_doesSend_14 : decode (jm_cd mY_Z_doesSend) 14 = .ok (.getfield 46, 3) := by decide +kernel
theorem d_Z_doesSend_17 : decode (jm_cd mY_Z_doesSend) 17 = .ok (.iconst 2, 1) := by decide +kernel
theorem d_Z_doesSend_18 : decode (jm_cd mY_Z_doesSend) 18 = .ok (.iaload, 1) := by decide +kernel
theorem d_Z_doesSend_19 : decode (jm_cd mY_Z_doesSend) 19 = .ok (.imul, 1) := by decide +kernel
theorem d_Z_doesSend_20 : decode (jm_cd mY_Z_doesSend) 20 = .ok (.iadd, 1) := by decide +kernel
theorem d_Z_doesSend_21 : decode (jm_cd mY_Z_doesSend) 21 = .ok (.iload_n 2, 1) := by decide +kernel
theorem d_Z_doesSend_22 : decode (jm_cd mY_Z_doesSend) 22 = .ok (.iconst 1, 1) := by decide +kernel
theorem d_Z_doesSend_23 : decode (jm_cd mY_Z_doesSend) 23 = .ok (.iadd, 1) := by decide +kernel
theorem d_Z_doesSend_24 : decode (jm_cd mY_Z_doesSend) 24 = .ok (.aload_n 0, 1) := by decide +kernel
theorem d_Z_doesSend_25 : decode (jm_cd mY_Z_doesSend) 25 = .ok (.getfield 46, 3) := by decide +kernel
theorem d_Z_doesSend_28 : decode (jm_cd mY_Z_doesSend) 28 = .ok (.iconst 1, 1) := by decide +kernel
theorem d_Z_doesSend_29 : decode (jm_cd mY_Z_doesSend) 29 = .ok (.iaload, 1) := by decide +kernel
theorem d_Z_doesSend_30 : decode (jm_cd mY_Z_doesSend) 30 = .ok (.imul, 1) := by decide +kernel
theorem d_Z_doesSend_31 : decode (jm_cd mY_Z_doesSend) 31 = .ok (.if_icmp .gt 7, 3) := by decide +kernel
theorem d_Z_doesSend_34 : decode (jm_cd mY_Z_doesSend) 34 = .ok (.iconst 1, 1) := by decide +kernel
theorem d_Z_doesSend_35 : decode (jm_cd mY_Z_doesSend) 35 = .ok (.goto 4, 3) := by decide +kernel
theorem d_Z_doesSend_38 : decode (jm_cd mY_Z_doesSend) 38 = .ok (.iconst 0, 1) := by decide +kernel
theorem d_Z_doesSend_39 : decode (jm_cd mY_Z_doesSend) 39 = .ok (.ireturn, 1) := by decide +kernel
def s_Z_doesSend (s : jm_M) (a0 : Int32) (a1 : Int32) : Option Int32 := jm_ldi s 72 3 0 (fun v1 => jm_ldi s 72 3 2 (fun v2 => jm_ldi s 72 3 1 (fun v3 => (if ((a1 + 1) * v3) < (((a0 + 1) * v1) + ((a1 + 1) * v2)) then (some 0) else (some 1)))))
set_option maxRecDepth 100000 in
set_option maxHeartbeats 4000000 in
theorem s_Z_doesSend_ok (s : jm_M) (a0 : Int32) (a1 : Int32) : jm_Sim mY_Z_doesSend 0 0 0 [(0, .ref 59), (1, .int a0), (2, .int a1)] [] 78 mr_154 s (s_Z_doesSend s a0 a1) (jm_rI 78 mr_154 s) := by
  unfold s_Z_doesSend
  refine jm_iload_n (pc := 0) (q := 1) (x := a0) d_Z_doesSend_0 rfl ?_
  refine jm_iconst (pc := 1) (v := 1) d_Z_doesSend_1 ci_1 ?_
  refine jm_iadd (pc := 2) d_Z_doesSend_2 ?_
  refine jm_aload_n (pc := 3) (q := 0) (x := 59) d_Z_doesSend_3 rfl ?_
  refine jm_gr (pc := 4) (i := 59) d_Z_doesSend_4 fo_Z_46 sh_59 ge_59 le_59_78 rfl (fun _ => rfl) mr_154_59_14 ge_72 ?_
  refine jm_iconst (pc := 7) (v := 0) d_Z_doesSend_7 ci_0 ?_
  refine jm_iald (pc := 8) d_Z_doesSend_8 sh_72 ge_72 le_72_78 (fun v1 => ?_)
  refine jm_imul (pc := 9) d_Z_doesSend_9 ?_
  refine jm_iload_n (pc := 10) (q := 2) (x := a1) d_Z_doesSend_10 rfl ?_
  refine jm_iconst (pc := 11) (v := 1) d_Z_doesSend_11 ci_1 ?_
  refine jm_iadd (pc := 12) d_Z_doesSend_12 ?_
  refine jm_aload_n (pc := 13) (q := 0) (x := 59) d_Z_doesSend_13 rfl ?_
  refine jm_gr (pc := 14) (i := 59) d_Z_doesSend_14 fo_Z_46 sh_59 ge_59 le_59_78 rfl (fun _ => rfl) mr_154_59_14 ge_72 ?_
  refine jm_iconst (pc := 17) (v := 2) d_Z_doesSend_17 ci_2 ?_
  refine jm_iald (pc := 18) d_Z_doesSend_18 sh_72 ge_72 le_72_78 (fun v2 => ?_)
  refine jm_imul (pc := 19) d_Z_doesSend_19 ?_
  refine jm_iadd (pc := 20) d_Z_doesSend_20 ?_
  refine jm_iload_n (pc := 21) (q := 2) (x := a1) d_Z_doesSend_21 rfl ?_
  refine jm_iconst (pc := 22) (v := 1) d_Z_doesSend_22 ci_1 ?_
  refine jm_iadd (pc := 23) d_Z_doesSend_23 ?_
  refine jm_aload_n (pc := 24) (q := 0) (x := 59) d_Z_doesSend_24 rfl ?_
  refine jm_gr (pc := 25) (i := 59) d_Z_doesSend_25 fo_Z_46 sh_59 ge_59 le_59_78 rfl (fun _ => rfl) mr_154_59_14 ge_72 ?_
  refine jm_iconst (pc := 28) (v := 1) d_Z_doesSend_28 ci_1 ?_
  refine jm_iald (pc := 29) d_Z_doesSend_29 sh_72 ge_72 le_72_78 (fun v3 => ?_)
  refine jm_imul (pc := 30) d_Z_doesSend_30 ?_
  refine jm_icmp_gt (pc := 31) (tgt := 38) d_Z_doesSend_31 (by decide) ?_ ?_
  · refine jm_iconst (pc := 38) (v := 0) d_Z_doesSend_38 ci_0 ?_
    exact jm_iret (pc := 39) (x := 0) d_Z_doesSend_39 rfl (by decide) rfl rfl rfl
  · refine jm_iconst (pc := 34) (v := 1) d_Z_doesSend_34 ci_1 ?_
    refine jm_goto (pc := 35) (tgt := 39) d_Z_doesSend_35 (by decide) ?_
    exact jm_iret (pc := 39) (x := 1) d_Z_doesSend_39 rfl (by decide) rfl rfl rfl
theorem d_Z_sends_0 : decode (jm_cd mY_Z_sends) 0 = .ok (.iload_n 1, 1) := by decide +kernel
theorem d_Z_sends_1 : decode (jm_cd mY_Z_sends) 1 = .ok (.iload_n 2, 1) := by decide +kernel
theorem d_Z_sends_2 : decode (jm_cd mY_Z_sends) 2 = .ok (.invokestatic 259, 3) := by decide +kernel
theorem d_Z_sends_5 : decode (jm_cd mY_Z_sends) 5 = .ok (.ifCond .ne 7, 3) := by decide +kernel
theorem d_Z_sends_8 : decode (jm_cd mY_Z_sends) 8 = .ok (.iconst (-1), 1) := by decide +kernel
theorem d_Z_sends_9 : decode (jm_cd mY_Z_sends) 9 = .ok (.goto 17, 3) := by decide +kernel
theorem d_Z_sends_12 : decode (jm_cd mY_Z_sends) 12 = .ok (.aload_n 0, 1) := by decide +kernel
theorem d_Z_sends_13 : decode (jm_cd mY_Z_sends) 13 = .ok (.iload_n 1, 1) := by decide +kernel
theorem d_Z_sends_14 : decode (jm_cd mY_Z_sends) 14 = .ok (.iload_n 2, 1) := by decide +kernel
theorem d_Z_sends_15 : decode (jm_cd mY_Z_sends) 15 = .ok (.invokevirtual 262, 3) := by decide +kernel
theorem d_Z_sends_18 : decode (jm_cd mY_Z_sends) 18 = .ok (.ifCond .eq 7, 3) := by decide +kernel
theorem d_Z_sends_21 : decode (jm_cd mY_Z_sends) 21 = .ok (.iconst 1, 1) := by decide +kernel
theorem d_Z_sends_22 : decode (jm_cd mY_Z_sends) 22 = .ok (.goto 4, 3) := by decide +kernel
theorem d_Z_sends_25 : decode (jm_cd mY_Z_sends) 25 = .ok (.iconst 0, 1) := by decide +kernel
theorem d_Z_sends_26 : decode (jm_cd mY_Z_sends) 26 = .ok (.ireturn, 1) := by decide +kernel
def s_Z_sends (s : jm_M) (a0 : Int32) (a1 : Int32) : Option Int32 := jm_bd (s_Z_areNights s a0 a1) (fun v1 => (if v1 = 0 then (some (-1)) else jm_bd (s_Z_doesSend s a0 a1) (fun v2 => (if v2 = 0 then (some 0) else (some 1)))))
set_option maxRecDepth 100000 in
set_option maxHeartbeats 4000000 in
theorem s_Z_sends_ok (s : jm_M) (a0 : Int32) (a1 : Int32) : jm_Sim mY_Z_sends 0 0 0 [(0, .ref 59), (1, .int a0), (2, .int a1)] [] 78 mr_154 s (s_Z_sends s a0 a1) (jm_rI 78 mr_154 s) := by
  unfold s_Z_sends
  refine jm_iload_n (pc := 0) (q := 1) (x := a0) d_Z_sends_0 rfl ?_
  refine jm_iload_n (pc := 1) (q := 2) (x := a1) d_Z_sends_1 rfl ?_
  refine jm_Sp (pc := 2) (Y' := mY_Z_areNights) (avs := [.int a0, .int a1]) (rest := []) (s_Z_areNights_ok s a0 a1) ok_Z_areNights l0_Z_sends__Z_areNights ml_Z_259 sm_Z_areNights d_Z_sends_2 rfl rfl (Nat.le_of_ble_eq_true rfl) (Nat.le_of_ble_eq_true rfl) (Nat.le_of_ble_eq_true rfl) (Nat.le_of_ble_eq_true rfl) (fun v1 => ?_)
  refine jm_if_ne (pc := 5) (tgt := 12) d_Z_sends_5 (by decide) ?_ ?_
  · refine jm_iconst (pc := 8) (v := (-1)) d_Z_sends_8 ci_m1 ?_
    refine jm_goto (pc := 9) (tgt := 26) d_Z_sends_9 (by decide) ?_
    exact jm_iret (pc := 26) (x := (-1)) d_Z_sends_26 rfl rfl rfl rfl rfl
  · refine jm_aload_n (pc := 12) (q := 0) (x := 59) d_Z_sends_12 rfl ?_
    refine jm_iload_n (pc := 13) (q := 1) (x := a0) d_Z_sends_13 rfl ?_
    refine jm_iload_n (pc := 14) (q := 2) (x := a1) d_Z_sends_14 rfl ?_
    refine jm_Vp (pc := 15) (Y' := mY_Z_doesSend) (i := 59) (avs := [.int a0, .int a1]) (rest := []) (s_Z_doesSend_ok s a0 a1) ok_Z_doesSend l0_Z_sends__Z_doesSend ml_Z_262 im_Z_doesSend se_Z_doesSend d_Z_sends_15 rfl sh_59 rfl rfl ge_59 le_59_78 rfl (Nat.le_of_ble_eq_true rfl) (Nat.le_of_ble_eq_true rfl) (Nat.le_of_ble_eq_true rfl) (Nat.le_of_ble_eq_true rfl) (fun v2 => ?_)
    refine jm_if_eq (pc := 18) (tgt := 25) d_Z_sends_18 (by decide) ?_ ?_
    · refine jm_iconst (pc := 25) (v := 0) d_Z_sends_25 ci_0 ?_
      exact jm_iret (pc := 26) (x := 0) d_Z_sends_26 rfl rfl rfl rfl rfl
    · refine jm_iconst (pc := 21) (v := 1) d_Z_sends_21 ci_1 ?_
      refine jm_goto (pc := 22) (tgt := 26) d_Z_sends_22 (by decide) ?_
      exact jm_iret (pc := 26) (x := 1) d_Z_sends_26 rfl rfl rfl rfl rfl
theorem d_Ki_moreFalseNights_0 : decode (jm_cd mY_Ki_moreFalseNights) 0 = .ok (.iconst 0, 1) := by decide +kernel
theorem d_Ki_moreFalseNights_1 : decode (jm_cd mY_Ki_moreFalseNights) 1 = .ok (.istore_n 3, 1) := by decide +kernel
theorem d_Ki_moreFalseNights_2 : decode (jm_cd mY_Ki_moreFalseNights) 2 = .ok (.iload_n 3, 1) := by decide +kernel
theorem d_Ki_moreFalseNights_3 : decode (jm_cd mY_Ki_moreFalseNights) 3 = .ok (.sipush 1000, 3) := by decide +kernel
theorem d_Ki_moreFalseNights_6 : decode (jm_cd mY_Ki_moreFalseNights) 6 = .ok (.if_icmp .gt 22, 3) := by decide +kernel
theorem d_Ki_moreFalseNights_9 : decode (jm_cd mY_Ki_moreFalseNights) 9 = .ok (.aload_n 0, 1) := by decide +kernel
theorem d_Ki_moreFalseNights_10 : decode (jm_cd mY_Ki_moreFalseNights) 10 = .ok (.iload_n 1, 1) := by decide +kernel
theorem d_Ki_moreFalseNights_11 : decode (jm_cd mY_Ki_moreFalseNights) 11 = .ok (.iload_n 3, 1) := by decide +kernel
theorem d_Ki_moreFalseNights_12 : decode (jm_cd mY_Ki_moreFalseNights) 12 = .ok (.iadd, 1) := by decide +kernel
theorem d_Ki_moreFalseNights_13 : decode (jm_cd mY_Ki_moreFalseNights) 13 = .ok (.iload_n 2, 1) := by decide +kernel
theorem d_Ki_moreFalseNights_14 : decode (jm_cd mY_Ki_moreFalseNights) 14 = .ok (.invokevirtual 15, 3) := by decide +kernel
theorem d_Ki_moreFalseNights_17 : decode (jm_cd mY_Ki_moreFalseNights) 17 = .ok (.ifCond .ne 5, 3) := by decide +kernel
theorem d_Ki_moreFalseNights_20 : decode (jm_cd mY_Ki_moreFalseNights) 20 = .ok (.iload_n 3, 1) := by decide +kernel
theorem d_Ki_moreFalseNights_21 : decode (jm_cd mY_Ki_moreFalseNights) 21 = .ok (.ireturn, 1) := by decide +kernel
theorem d_Ki_moreFalseNights_22 : decode (jm_cd mY_Ki_moreFalseNights) 22 = .ok (.iinc 3 1, 3) := by decide +kernel
theorem d_Ki_moreFalseNights_25 : decode (jm_cd mY_Ki_moreFalseNights) 25 = .ok (.goto (-23), 3) := by decide +kernel
theorem d_Ki_moreFalseNights_28 : decode (jm_cd mY_Ki_moreFalseNights) 28 = .ok (.bipush (-4), 2) := by decide +kernel
theorem d_Ki_moreFalseNights_30 : decode (jm_cd mY_Ki_moreFalseNights) 30 = .ok (.ireturn, 1) := by decide +kernel
def s_Ki_moreFalseNights_L2 (s : jm_M) : Nat → Int32 → Int32 → Int32 → Option Int32
  | 0, _, _, _ => none
  | n + 1, x1, x2, x3 => (if 1000 < x3 then (some (-4)) else jm_bd (s_Ki_wouldSend s (x1 + x3) x2) (fun v1 => (if v1 = 0 then (some x3) else s_Ki_moreFalseNights_L2 s n x1 x2 (x3 + 1))))
set_option maxRecDepth 100000 in
set_option maxHeartbeats 4000000 in
theorem s_Ki_moreFalseNights_L2_ok (s : jm_M) : ∀ (n : Nat) (x1 : Int32) (x2 : Int32) (x3 : Int32), jm_Sim mY_Ki_moreFalseNights 0 0 2 [(0, .ref 57), (1, .int x1), (2, .int x2), (3, .int x3)] [] 78 mr_154 s (s_Ki_moreFalseNights_L2 s n x1 x2 x3) (jm_rI 78 mr_154 s) := by
  intro n
  induction n with
  | zero => intro x1 x2 x3; exact jm_none
  | succ n ih =>
    intro x1 x2 x3
    rw [s_Ki_moreFalseNights_L2]
    refine jm_iload_n (pc := 2) (q := 3) (x := x3) d_Ki_moreFalseNights_2 rfl ?_
    refine jm_sipush (pc := 3) (v := 1000) d_Ki_moreFalseNights_3 cs_1000 ?_
    refine jm_icmp_gt (pc := 6) (tgt := 28) d_Ki_moreFalseNights_6 (by decide) ?_ ?_
    · refine jm_bipush (pc := 28) (v := (-4)) d_Ki_moreFalseNights_28 cb_m4 ?_
      exact jm_iret (pc := 30) (x := (-4)) d_Ki_moreFalseNights_30 rfl rfl rfl rfl rfl
    · refine jm_aload_n (pc := 9) (q := 0) (x := 57) d_Ki_moreFalseNights_9 rfl ?_
      refine jm_iload_n (pc := 10) (q := 1) (x := x1) d_Ki_moreFalseNights_10 rfl ?_
      refine jm_iload_n (pc := 11) (q := 3) (x := x3) d_Ki_moreFalseNights_11 rfl ?_
      refine jm_iadd (pc := 12) d_Ki_moreFalseNights_12 ?_
      refine jm_iload_n (pc := 13) (q := 2) (x := x2) d_Ki_moreFalseNights_13 rfl ?_
      refine jm_Vp (pc := 14) (Y' := mY_Ki_wouldSend) (i := 57) (avs := [.int (x1 + x3), .int x2]) (rest := []) (s_Ki_wouldSend_ok s (x1 + x3) x2) ok_Ki_wouldSend l0_Ki_moreFalseNights__Ki_wouldSend ml_Ki_15 im_Ki_wouldSend se_Ki_wouldSend d_Ki_moreFalseNights_14 rfl sh_57 rfl rfl ge_57 le_57_78 rfl (Nat.le_of_ble_eq_true rfl) (Nat.le_of_ble_eq_true rfl) (Nat.le_of_ble_eq_true rfl) (Nat.le_of_ble_eq_true rfl) (fun v1 => ?_)
      refine jm_if_ne (pc := 17) (tgt := 22) d_Ki_moreFalseNights_17 (by decide) ?_ ?_
      · refine jm_iload_n (pc := 20) (q := 3) (x := x3) d_Ki_moreFalseNights_20 rfl ?_
        exact jm_iret (pc := 21) (x := x3) d_Ki_moreFalseNights_21 rfl rfl rfl rfl rfl
      · refine jm_iinc (pc := 22) (q := 3) (x := x3) (v := 1) (L2 := [(3, .int (x3 + 1)), (0, .ref 57), (1, .int x1), (2, .int x2)]) d_Ki_moreFalseNights_22 rfl ci_1 (Nat.le_of_ble_eq_true rfl) rfl ?_
        refine jm_goto (pc := 25) (tgt := 2) d_Ki_moreFalseNights_25 (by decide) ?_
        refine jm_sub (L2 := [(0, .ref 57), (1, .int x1), (2, .int x2), (3, .int (x3 + 1))]) [1, 2, 3, 0] rfl ?_
        exact ih x1 x2 (x3 + 1)
def s_Ki_moreFalseNights (s : jm_M) (a0 : Int32) (a1 : Int32) : Option Int32 := s_Ki_moreFalseNights_L2 s 5000 a0 a1 0
set_option maxRecDepth 100000 in
set_option maxHeartbeats 4000000 in
theorem s_Ki_moreFalseNights_ok (s : jm_M) (a0 : Int32) (a1 : Int32) : jm_Sim mY_Ki_moreFalseNights 0 0 0 [(0, .ref 57), (1, .int a0), (2, .int a1)] [] 78 mr_154 s (s_Ki_moreFalseNights s a0 a1) (jm_rI 78 mr_154 s) := by
  unfold s_Ki_moreFalseNights
  refine jm_iconst (pc := 0) (v := 0) d_Ki_moreFalseNights_0 ci_0 ?_
  refine jm_istore_n (pc := 1) (i := 3) (L2 := [(3, .int 0), (0, .ref 57), (1, .int a0), (2, .int a1)]) d_Ki_moreFalseNights_1 rfl (Nat.le_of_ble_eq_true rfl) rfl ?_
  refine jm_sub (L2 := [(0, .ref 57), (1, .int a0), (2, .int a1), (3, .int 0)]) [1, 2, 3, 0] rfl ?_
  exact s_Ki_moreFalseNights_L2_ok s 5000 a0 a1 0
theorem d_X_unbelieved_0 : decode (jm_cd mY_X_unbelieved) 0 = .ok (.iload_n 1, 1) := by decide +kernel
theorem d_X_unbelieved_1 : decode (jm_cd mY_X_unbelieved) 1 = .ok (.invokestatic 241, 3) := by decide +kernel
theorem d_X_unbelieved_4 : decode (jm_cd mY_X_unbelieved) 4 = .ok (.ifCond .eq 10, 3) := by decide +kernel
theorem d_X_unbelieved_7 : decode (jm_cd mY_X_unbelieved) 7 = .ok (.iload_n 2, 1) := by decide +kernel
theorem d_X_unbelieved_8 : decode (jm_cd mY_X_unbelieved) 8 = .ok (.invokestatic 241, 3) := by decide +kernel
theorem d_X_unbelieved_11 : decode (jm_cd mY_X_unbelieved) 11 = .ok (.ifCond .ne 5, 3) := by decide +kernel
theorem d_X_unbelieved_14 : decode (jm_cd mY_X_unbelieved) 14 = .ok (.iconst (-1), 1) := by decide +kernel
theorem d_X_unbelieved_15 : decode (jm_cd mY_X_unbelieved) 15 = .ok (.ireturn, 1) := by decide +kernel
theorem d_X_unbelieved_16 : decode (jm_cd mY_X_unbelieved) 16 = .ok (.aload_n 0, 1) := by decide +kernel
theorem d_X_unbelieved_17 : decode (jm_cd mY_X_unbelieved) 17 = .ok (.getfield 78, 3) := by decide +kernel
theorem d_X_unbelieved_20 : decode (jm_cd mY_X_unbelieved) 20 = .ok (.iload_n 1, 1) := by decide +kernel
theorem d_X_unbelieved_21 : decode (jm_cd mY_X_unbelieved) 21 = .ok (.iload_n 2, 1) := by decide +kernel
theorem d_X_unbelieved_22 : decode (jm_cd mY_X_unbelieved) 22 = .ok (.invokevirtual 247, 3) := by decide +kernel
theorem d_X_unbelieved_25 : decode (jm_cd mY_X_unbelieved) 25 = .ok (.ireturn, 1) := by decide +kernel
def s_X_unbelieved (s : jm_M) (a0 : Int32) (a1 : Int32) : Option Int32 := jm_bd (s_X_isNumberOfNights s a0) (fun v1 => (if v1 = 0 then (some (-1)) else jm_bd (s_X_isNumberOfNights s a1) (fun v2 => (if v2 = 0 then (some (-1)) else jm_bd (s_Ki_moreFalseNights s a0 a1) (fun v3 => (some v3))))))
set_option maxRecDepth 100000 in
set_option maxHeartbeats 4000000 in
theorem s_X_unbelieved_ok (s : jm_M) (a0 : Int32) (a1 : Int32) : jm_Sim mY_X_unbelieved 0 0 0 [(0, .ref 1), (1, .int a0), (2, .int a1)] [] 78 mr_154 s (s_X_unbelieved s a0 a1) (jm_rI 78 mr_154 s) := by
  unfold s_X_unbelieved
  refine jm_iload_n (pc := 0) (q := 1) (x := a0) d_X_unbelieved_0 rfl ?_
  refine jm_Sp (pc := 1) (Y' := mY_X_isNumberOfNights) (avs := [.int a0]) (rest := []) (s_X_isNumberOfNights_ok s a0) ok_X_isNumberOfNights l0_X_unbelieved__X_isNumberOfNights ml_X_241 sm_X_isNumberOfNights d_X_unbelieved_1 rfl rfl (Nat.le_of_ble_eq_true rfl) (Nat.le_of_ble_eq_true rfl) (Nat.le_of_ble_eq_true rfl) (Nat.le_of_ble_eq_true rfl) (fun v1 => ?_)
  refine jm_if_eq (pc := 4) (tgt := 14) d_X_unbelieved_4 (by decide) ?_ ?_
  · refine jm_iconst (pc := 14) (v := (-1)) d_X_unbelieved_14 ci_m1 ?_
    exact jm_iret (pc := 15) (x := (-1)) d_X_unbelieved_15 rfl rfl rfl rfl rfl
  · refine jm_iload_n (pc := 7) (q := 2) (x := a1) d_X_unbelieved_7 rfl ?_
    refine jm_Sp (pc := 8) (Y' := mY_X_isNumberOfNights) (avs := [.int a1]) (rest := []) (s_X_isNumberOfNights_ok s a1) ok_X_isNumberOfNights l0_X_unbelieved__X_isNumberOfNights ml_X_241 sm_X_isNumberOfNights d_X_unbelieved_8 rfl rfl (Nat.le_of_ble_eq_true rfl) (Nat.le_of_ble_eq_true rfl) (Nat.le_of_ble_eq_true rfl) (Nat.le_of_ble_eq_true rfl) (fun v2 => ?_)
    refine jm_if_ne (pc := 11) (tgt := 16) d_X_unbelieved_11 (by decide) ?_ ?_
    · refine jm_iconst (pc := 14) (v := (-1)) d_X_unbelieved_14 ci_m1 ?_
      exact jm_iret (pc := 15) (x := (-1)) d_X_unbelieved_15 rfl rfl rfl rfl rfl
    · refine jm_aload_n (pc := 16) (q := 0) (x := 1) d_X_unbelieved_16 rfl ?_
      refine jm_gr (pc := 17) (i := 1) d_X_unbelieved_17 fo_X_78 sh_1 ge_1 le_1_78 rfl (fun _ => rfl) mr_154_1_13 ge_57 ?_
      refine jm_iload_n (pc := 20) (q := 1) (x := a0) d_X_unbelieved_20 rfl ?_
      refine jm_iload_n (pc := 21) (q := 2) (x := a1) d_X_unbelieved_21 rfl ?_
      refine jm_Vp (pc := 22) (Y' := mY_Ki_moreFalseNights) (i := 57) (avs := [.int a0, .int a1]) (rest := []) (s_Ki_moreFalseNights_ok s a0 a1) ok_Ki_moreFalseNights l0_X_unbelieved__Ki_moreFalseNights ml_X_247 im_Ki_moreFalseNights se_Ki_moreFalseNights d_X_unbelieved_22 rfl sh_57 rfl rfl ge_57 le_57_78 rfl (Nat.le_of_ble_eq_true rfl) (Nat.le_of_ble_eq_true rfl) (Nat.le_of_ble_eq_true rfl) (Nat.le_of_ble_eq_true rfl) (fun v3 => ?_)
      exact jm_iret (pc := 25) (x := v3) d_X_unbelieved_25 rfl rfl rfl rfl rfl
theorem d_Z_unbelieved_0 : decode (jm_cd mY_Z_unbelieved) 0 = .ok (.iload_n 1, 1) := by decide +kernel
theorem d_Z_unbelieved_1 : decode (jm_cd mY_Z_unbelieved) 1 = .ok (.iload_n 2, 1) := by decide +kernel
theorem d_Z_unbelieved_2 : decode (jm_cd mY_Z_unbelieved) 2 = .ok (.invokestatic 259, 3) := by decide +kernel
theorem d_Z_unbelieved_5 : decode (jm_cd mY_Z_unbelieved) 5 = .ok (.ifCond .ne 5, 3) := by decide +kernel
theorem d_Z_unbelieved_8 : decode (jm_cd mY_Z_unbelieved) 8 = .ok (.iconst (-1), 1) := by decide +kernel
theorem d_Z_unbelieved_9 : decode (jm_cd mY_Z_unbelieved) 9 = .ok (.ireturn, 1) := by decide +kernel
theorem d_Z_unbelieved_10 : decode (jm_cd mY_Z_unbelieved) 10 = .ok (.iconst 0, 1) := by decide +kernel
theorem d_Z_unbelieved_11 : decode (jm_cd mY_Z_unbelieved) 11 = .ok (.istore_n 3, 1) := by decide +kernel
theorem d_Z_unbelieved_12 : decode (jm_cd mY_Z_unbelieved) 12 = .ok (.iload_n 3, 1) := by decide +kernel
theorem d_Z_unbelieved_13 : decode (jm_cd mY_Z_unbelieved) 13 = .ok (.sipush 1000, 3) := by decide +kernel
theorem d_Z_unbelieved_16 : decode (jm_cd mY_Z_unbelieved) 16 = .ok (.if_icmp .gt 22, 3) := by decide +kernel
theorem d_Z_unbelieved_19 : decode (jm_cd mY_Z_unbelieved) 19 = .ok (.aload_n 0, 1) := by decide +kernel
theorem d_Z_unbelieved_20 : decode (jm_cd mY_Z_unbelieved) 20 = .ok (.iload_n 1, 1) := by decide +kernel
theorem d_Z_unbelieved_21 : decode (jm_cd mY_Z_unbelieved) 21 = .ok (.iload_n 3, 1) := by decide +kernel
theorem d_Z_unbelieved_22 : decode (jm_cd mY_Z_unbelieved) 22 = .ok (.iadd, 1) := by decide +kernel
theorem d_Z_unbelieved_23 : decode (jm_cd mY_Z_unbelieved) 23 = .ok (.iload_n 2, 1) := by decide +kernel
theorem d_Z_unbelieved_24 : decode (jm_cd mY_Z_unbelieved) 24 = .ok (.invokevirtual 262, 3) := by decide +kernel
theorem d_Z_unbelieved_27 : decode (jm_cd mY_Z_unbelieved) 27 = .ok (.ifCond .ne 5, 3) := by decide +kernel
theorem d_Z_unbelieved_30 : decode (jm_cd mY_Z_unbelieved) 30 = .ok (.iload_n 3, 1) := by decide +kernel
theorem d_Z_unbelieved_31 : decode (jm_cd mY_Z_unbelieved) 31 = .ok (.ireturn, 1) := by decide +kernel
theorem d_Z_unbelieved_32 : decode (jm_cd mY_Z_unbelieved) 32 = .ok (.iinc 3 1, 3) := by decide +kernel
theorem d_Z_unbelieved_35 : decode (jm_cd mY_Z_unbelieved) 35 = .ok (.goto (-23), 3) := by decide +kernel
theorem d_Z_unbelieved_38 : decode (jm_cd mY_Z_unbelieved) 38 = .ok (.bipush (-4), 2) := by decide +kernel
theorem d_Z_unbelieved_40 : decode (jm_cd mY_Z_unbelieved) 40 = .ok (.ireturn, 1) := by decide +kernel
def s_Z_unbelieved_L12 (s : jm_M) : Nat → Int32 → Int32 → Int32 → Option Int32
  | 0, _, _, _ => none
  | n + 1, x1, x2, x3 => (if 1000 < x3 then (some (-4)) else jm_bd (s_Z_doesSend s (x1 + x3) x2) (fun v2 => (if v2 = 0 then (some x3) else s_Z_unbelieved_L12 s n x1 x2 (x3 + 1))))
set_option maxRecDepth 100000 in
set_option maxHeartbeats 4000000 in
theorem s_Z_unbelieved_L12_ok (s : jm_M) : ∀ (n : Nat) (x1 : Int32) (x2 : Int32) (x3 : Int32), jm_Sim mY_Z_unbelieved 0 0 12 [(0, .ref 59), (1, .int x1), (2, .int x2), (3, .int x3)] [] 78 mr_154 s (s_Z_unbelieved_L12 s n x1 x2 x3) (jm_rI 78 mr_154 s) := by
  intro n
  induction n with
  | zero => intro x1 x2 x3; exact jm_none
  | succ n ih =>
    intro x1 x2 x3
    rw [s_Z_unbelieved_L12]
    refine jm_iload_n (pc := 12) (q := 3) (x := x3) d_Z_unbelieved_12 rfl ?_
    refine jm_sipush (pc := 13) (v := 1000) d_Z_unbelieved_13 cs_1000 ?_
    refine jm_icmp_gt (pc := 16) (tgt := 38) d_Z_unbelieved_16 (by decide) ?_ ?_
    · refine jm_bipush (pc := 38) (v := (-4)) d_Z_unbelieved_38 cb_m4 ?_
      exact jm_iret (pc := 40) (x := (-4)) d_Z_unbelieved_40 rfl rfl rfl rfl rfl
    · refine jm_aload_n (pc := 19) (q := 0) (x := 59) d_Z_unbelieved_19 rfl ?_
      refine jm_iload_n (pc := 20) (q := 1) (x := x1) d_Z_unbelieved_20 rfl ?_
      refine jm_iload_n (pc := 21) (q := 3) (x := x3) d_Z_unbelieved_21 rfl ?_
      refine jm_iadd (pc := 22) d_Z_unbelieved_22 ?_
      refine jm_iload_n (pc := 23) (q := 2) (x := x2) d_Z_unbelieved_23 rfl ?_
      refine jm_Vp (pc := 24) (Y' := mY_Z_doesSend) (i := 59) (avs := [.int (x1 + x3), .int x2]) (rest := []) (s_Z_doesSend_ok s (x1 + x3) x2) ok_Z_doesSend l0_Z_unbelieved__Z_doesSend ml_Z_262 im_Z_doesSend se_Z_doesSend d_Z_unbelieved_24 rfl sh_59 rfl rfl ge_59 le_59_78 rfl (Nat.le_of_ble_eq_true rfl) (Nat.le_of_ble_eq_true rfl) (Nat.le_of_ble_eq_true rfl) (Nat.le_of_ble_eq_true rfl) (fun v2 => ?_)
      refine jm_if_ne (pc := 27) (tgt := 32) d_Z_unbelieved_27 (by decide) ?_ ?_
      · refine jm_iload_n (pc := 30) (q := 3) (x := x3) d_Z_unbelieved_30 rfl ?_
        exact jm_iret (pc := 31) (x := x3) d_Z_unbelieved_31 rfl rfl rfl rfl rfl
      · refine jm_iinc (pc := 32) (q := 3) (x := x3) (v := 1) (L2 := [(3, .int (x3 + 1)), (0, .ref 59), (1, .int x1), (2, .int x2)]) d_Z_unbelieved_32 rfl ci_1 (Nat.le_of_ble_eq_true rfl) rfl ?_
        refine jm_goto (pc := 35) (tgt := 12) d_Z_unbelieved_35 (by decide) ?_
        refine jm_sub (L2 := [(0, .ref 59), (1, .int x1), (2, .int x2), (3, .int (x3 + 1))]) [1, 2, 3, 0] rfl ?_
        exact ih x1 x2 (x3 + 1)
def s_Z_unbelieved (s : jm_M) (a0 : Int32) (a1 : Int32) : Option Int32 := jm_bd (s_Z_areNights s a0 a1) (fun v1 => (if v1 = 0 then (some (-1)) else s_Z_unbelieved_L12 s 5000 a0 a1 0))
set_option maxRecDepth 100000 in
set_option maxHeartbeats 4000000 in
theorem s_Z_unbelieved_ok (s : jm_M) (a0 : Int32) (a1 : Int32) : jm_Sim mY_Z_unbelieved 0 0 0 [(0, .ref 59), (1, .int a0), (2, .int a1)] [] 78 mr_154 s (s_Z_unbelieved s a0 a1) (jm_rI 78 mr_154 s) := by
  unfold s_Z_unbelieved
  refine jm_iload_n (pc := 0) (q := 1) (x := a0) d_Z_unbelieved_0 rfl ?_
  refine jm_iload_n (pc := 1) (q := 2) (x := a1) d_Z_unbelieved_1 rfl ?_
  refine jm_Sp (pc := 2) (Y' := mY_Z_areNights) (avs := [.int a0, .int a1]) (rest := []) (s_Z_areNights_ok s a0 a1) ok_Z_areNights l0_Z_unbelieved__Z_areNights ml_Z_259 sm_Z_areNights d_Z_unbelieved_2 rfl rfl (Nat.le_of_ble_eq_true rfl) (Nat.le_of_ble_eq_true rfl) (Nat.le_of_ble_eq_true rfl) (Nat.le_of_ble_eq_true rfl) (fun v1 => ?_)
  refine jm_if_ne (pc := 5) (tgt := 10) d_Z_unbelieved_5 (by decide) ?_ ?_
  · refine jm_iconst (pc := 8) (v := (-1)) d_Z_unbelieved_8 ci_m1 ?_
    exact jm_iret (pc := 9) (x := (-1)) d_Z_unbelieved_9 rfl rfl rfl rfl rfl
  · refine jm_iconst (pc := 10) (v := 0) d_Z_unbelieved_10 ci_0 ?_
    refine jm_istore_n (pc := 11) (i := 3) (L2 := [(3, .int 0), (0, .ref 59), (1, .int a0), (2, .int a1)]) d_Z_unbelieved_11 rfl (Nat.le_of_ble_eq_true rfl) rfl ?_
    refine jm_sub (L2 := [(0, .ref 59), (1, .int a0), (2, .int a1), (3, .int 0)]) [1, 2, 3, 0] rfl ?_
    exact s_Z_unbelieved_L12_ok s 5000 a0 a1 0
def s_Ne_become_35_15_L136 : Nat → Int32 → jm_M → Option jm_M
  | 0, _, _ => none
  | n + 1, x2, s => (if 100 ≤ x2 then (some s) else jm_ldl s 24 100 x2 (fun v4 => jm_stl s 44 100 x2 v4 (fun s5 => s_Ne_become_35_15_L136 n (x2 + 1) s5)))
set_option maxRecDepth 100000 in
set_option maxHeartbeats 4000000 in
theorem s_Ne_become_35_15_L136_ok : ∀ (n : Nat) (x2 : Int32) (s : jm_M), jm_Sim mY_Ne_become 0 0 136 [(0, .ref 35), (1, .ref 15), (2, .int x2)] [] 78 mr_154 s (s_Ne_become_35_15_L136 n x2 s) (jm_rV 78 mr_154) := by
  intro n
  induction n with
  | zero => intro x2 s; exact jm_none
  | succ n ih =>
    intro x2 s
    rw [s_Ne_become_35_15_L136]
    refine jm_iload_n (pc := 136) (q := 2) (x := x2) d_Ne_become_136 rfl ?_
    refine jm_bipush (pc := 137) (v := 100) d_Ne_become_137 cb_100 ?_
    refine jm_icmp_ge (pc := 139) (tgt := 160) d_Ne_become_139 (by decide) ?_ ?_
    · exact jm_vret (pc := 160) d_Ne_become_160 rfl rfl rfl rfl
    · refine jm_aload_n (pc := 142) (q := 0) (x := 35) d_Ne_become_142 rfl ?_
      refine jm_gr (pc := 143) (i := 35) d_Ne_become_143 fo_Ne_41 sh_35 ge_35 le_35_78 rfl (fun _ => rfl) mr_154_35_9 ge_44 ?_
      refine jm_iload_n (pc := 146) (q := 2) (x := x2) d_Ne_become_146 rfl ?_
      refine jm_aload_n (pc := 147) (q := 1) (x := 15) d_Ne_become_147 rfl ?_
      refine jm_gr (pc := 148) (i := 15) d_Ne_become_148 fo_Ne_41 sh_15 ge_15 le_15_78 rfl (fun _ => rfl) mr_154_15_9 ge_24 ?_
      refine jm_iload_n (pc := 151) (q := 2) (x := x2) d_Ne_become_151 rfl ?_
      refine jm_lald (pc := 152) d_Ne_become_152 sh_24 ge_24 le_24_78 (fun v4 => ?_)
      refine jm_last (pc := 153) d_Ne_become_153 sh_44 ge_44 le_44_78 (fun s5 => ?_)
      refine jm_iinc (pc := 154) (q := 2) (x := x2) (v := 1) (L2 := [(2, .int (x2 + 1)), (0, .ref 35), (1, .ref 15)]) d_Ne_become_154 rfl ci_1 (Nat.le_of_ble_eq_true rfl) rfl ?_
      refine jm_goto (pc := 157) (tgt := 136) d_Ne_become_157 (by decide) ?_
      refine jm_sub (L2 := [(0, .ref 35), (1, .ref 15), (2, .int (x2 + 1))]) [1, 2, 0] rfl ?_
      exact ih (x2 + 1) s5
def s_Ne_become_35_15_L26 : Nat → Int32 → jm_M → Option jm_M
  | 0, _, _ => none
  | n + 1, x2, s => (if 10 ≤ x2 then s_Ne_become_35_15_L136 5000 0 s else jm_ldi s 16 10 x2 (fun v6 => jm_sti s 36 10 x2 v6 (fun s7 => jm_ldi s7 17 10 x2 (fun v8 => jm_sti s7 37 10 x2 v8 (fun s9 => jm_ldi s9 18 10 x2 (fun v10 => jm_sti s9 38 10 x2 v10 (fun s11 => jm_ldi s11 19 10 x2 (fun v12 => jm_sti s11 39 10 x2 v12 (fun s13 => jm_ldi s13 20 10 x2 (fun v14 => jm_sti s13 40 10 x2 v14 (fun s15 => jm_ldi s15 21 10 x2 (fun v16 => jm_sti s15 41 10 x2 v16 (fun s17 => jm_ldl s17 22 10 x2 (fun v18 => jm_stl s17 42 10 x2 v18 (fun s19 => jm_ldl s19 23 10 x2 (fun v20 => jm_stl s19 43 10 x2 v20 (fun s21 => s_Ne_become_35_15_L26 n (x2 + 1) s21)))))))))))))))))
set_option maxRecDepth 100000 in
set_option maxHeartbeats 4000000 in
theorem s_Ne_become_35_15_L26_ok : ∀ (n : Nat) (x2 : Int32) (s : jm_M), jm_Sim mY_Ne_become 0 0 26 [(0, .ref 35), (1, .ref 15), (2, .int x2)] [] 78 mr_154 s (s_Ne_become_35_15_L26 n x2 s) (jm_rV 78 mr_154) := by
  intro n
  induction n with
  | zero => intro x2 s; exact jm_none
  | succ n ih =>
    intro x2 s
    rw [s_Ne_become_35_15_L26]
    refine jm_iload_n (pc := 26) (q := 2) (x := x2) d_Ne_become_26 rfl ?_
    refine jm_bipush (pc := 27) (v := 10) d_Ne_become_27 cb_10 ?_
    refine jm_icmp_ge (pc := 29) (tgt := 134) d_Ne_become_29 (by decide) ?_ ?_
    · refine jm_iconst (pc := 134) (v := 0) d_Ne_become_134 ci_0 ?_
      refine jm_istore_n (pc := 135) (i := 2) (L2 := [(2, .int 0), (0, .ref 35), (1, .ref 15)]) d_Ne_become_135 rfl (Nat.le_of_ble_eq_true rfl) rfl ?_
      refine jm_sub (L2 := [(0, .ref 35), (1, .ref 15), (2, .int 0)]) [1, 2, 0] rfl ?_
      exact s_Ne_become_35_15_L136_ok 5000 0 s
    · refine jm_aload_n (pc := 32) (q := 0) (x := 35) d_Ne_become_32 rfl ?_
      refine jm_gr (pc := 33) (i := 35) d_Ne_become_33 fo_Ne_15 sh_35 ge_35 le_35_78 rfl (fun _ => rfl) mr_154_35_1 ge_36 ?_
      refine jm_iload_n (pc := 36) (q := 2) (x := x2) d_Ne_become_36 rfl ?_
      refine jm_aload_n (pc := 37) (q := 1) (x := 15) d_Ne_become_37 rfl ?_
      refine jm_gr (pc := 38) (i := 15) d_Ne_become_38 fo_Ne_15 sh_15 ge_15 le_15_78 rfl (fun _ => rfl) mr_154_15_1 ge_16 ?_
      refine jm_iload_n (pc := 41) (q := 2) (x := x2) d_Ne_become_41 rfl ?_
      refine jm_iald (pc := 42) d_Ne_become_42 sh_16 ge_16 le_16_78 (fun v6 => ?_)
      refine jm_iast (pc := 43) d_Ne_become_43 sh_36 ge_36 le_36_78 (fun s7 => ?_)
      refine jm_aload_n (pc := 44) (q := 0) (x := 35) d_Ne_become_44 rfl ?_
      refine jm_gr (pc := 45) (i := 35) d_Ne_become_45 fo_Ne_19 sh_35 ge_35 le_35_78 rfl (fun _ => rfl) mr_154_35_2 ge_37 ?_
      refine jm_iload_n (pc := 48) (q := 2) (x := x2) d_Ne_become_48 rfl ?_
      refine jm_aload_n (pc := 49) (q := 1) (x := 15) d_Ne_become_49 rfl ?_
      refine jm_gr (pc := 50) (i := 15) d_Ne_become_50 fo_Ne_19 sh_15 ge_15 le_15_78 rfl (fun _ => rfl) mr_154_15_2 ge_17 ?_
      refine jm_iload_n (pc := 53) (q := 2) (x := x2) d_Ne_become_53 rfl ?_
      refine jm_iald (pc := 54) d_Ne_become_54 sh_17 ge_17 le_17_78 (fun v8 => ?_)
      refine jm_iast (pc := 55) d_Ne_become_55 sh_37 ge_37 le_37_78 (fun s9 => ?_)
      refine jm_aload_n (pc := 56) (q := 0) (x := 35) d_Ne_become_56 rfl ?_
      refine jm_gr (pc := 57) (i := 35) d_Ne_become_57 fo_Ne_22 sh_35 ge_35 le_35_78 rfl (fun _ => rfl) mr_154_35_3 ge_38 ?_
      refine jm_iload_n (pc := 60) (q := 2) (x := x2) d_Ne_become_60 rfl ?_
      refine jm_aload_n (pc := 61) (q := 1) (x := 15) d_Ne_become_61 rfl ?_
      refine jm_gr (pc := 62) (i := 15) d_Ne_become_62 fo_Ne_22 sh_15 ge_15 le_15_78 rfl (fun _ => rfl) mr_154_15_3 ge_18 ?_
      refine jm_iload_n (pc := 65) (q := 2) (x := x2) d_Ne_become_65 rfl ?_
      refine jm_iald (pc := 66) d_Ne_become_66 sh_18 ge_18 le_18_78 (fun v10 => ?_)
      refine jm_iast (pc := 67) d_Ne_become_67 sh_38 ge_38 le_38_78 (fun s11 => ?_)
      refine jm_aload_n (pc := 68) (q := 0) (x := 35) d_Ne_become_68 rfl ?_
      refine jm_gr (pc := 69) (i := 35) d_Ne_become_69 fo_Ne_25 sh_35 ge_35 le_35_78 rfl (fun _ => rfl) mr_154_35_4 ge_39 ?_
      refine jm_iload_n (pc := 72) (q := 2) (x := x2) d_Ne_become_72 rfl ?_
      refine jm_aload_n (pc := 73) (q := 1) (x := 15) d_Ne_become_73 rfl ?_
      refine jm_gr (pc := 74) (i := 15) d_Ne_become_74 fo_Ne_25 sh_15 ge_15 le_15_78 rfl (fun _ => rfl) mr_154_15_4 ge_19 ?_
      refine jm_iload_n (pc := 77) (q := 2) (x := x2) d_Ne_become_77 rfl ?_
      refine jm_iald (pc := 78) d_Ne_become_78 sh_19 ge_19 le_19_78 (fun v12 => ?_)
      refine jm_iast (pc := 79) d_Ne_become_79 sh_39 ge_39 le_39_78 (fun s13 => ?_)
      refine jm_aload_n (pc := 80) (q := 0) (x := 35) d_Ne_become_80 rfl ?_
      refine jm_gr (pc := 81) (i := 35) d_Ne_become_81 fo_Ne_28 sh_35 ge_35 le_35_78 rfl (fun _ => rfl) mr_154_35_5 ge_40 ?_
      refine jm_iload_n (pc := 84) (q := 2) (x := x2) d_Ne_become_84 rfl ?_
      refine jm_aload_n (pc := 85) (q := 1) (x := 15) d_Ne_become_85 rfl ?_
      refine jm_gr (pc := 86) (i := 15) d_Ne_become_86 fo_Ne_28 sh_15 ge_15 le_15_78 rfl (fun _ => rfl) mr_154_15_5 ge_20 ?_
      refine jm_iload_n (pc := 89) (q := 2) (x := x2) d_Ne_become_89 rfl ?_
      refine jm_iald (pc := 90) d_Ne_become_90 sh_20 ge_20 le_20_78 (fun v14 => ?_)
      refine jm_iast (pc := 91) d_Ne_become_91 sh_40 ge_40 le_40_78 (fun s15 => ?_)
      refine jm_aload_n (pc := 92) (q := 0) (x := 35) d_Ne_become_92 rfl ?_
      refine jm_gr (pc := 93) (i := 35) d_Ne_become_93 fo_Ne_31 sh_35 ge_35 le_35_78 rfl (fun _ => rfl) mr_154_35_6 ge_41 ?_
      refine jm_iload_n (pc := 96) (q := 2) (x := x2) d_Ne_become_96 rfl ?_
      refine jm_aload_n (pc := 97) (q := 1) (x := 15) d_Ne_become_97 rfl ?_
      refine jm_gr (pc := 98) (i := 15) d_Ne_become_98 fo_Ne_31 sh_15 ge_15 le_15_78 rfl (fun _ => rfl) mr_154_15_6 ge_21 ?_
      refine jm_iload_n (pc := 101) (q := 2) (x := x2) d_Ne_become_101 rfl ?_
      refine jm_iald (pc := 102) d_Ne_become_102 sh_21 ge_21 le_21_78 (fun v16 => ?_)
      refine jm_iast (pc := 103) d_Ne_become_103 sh_41 ge_41 le_41_78 (fun s17 => ?_)
      refine jm_aload_n (pc := 104) (q := 0) (x := 35) d_Ne_become_104 rfl ?_
      refine jm_gr (pc := 105) (i := 35) d_Ne_become_105 fo_Ne_34 sh_35 ge_35 le_35_78 rfl (fun _ => rfl) mr_154_35_7 ge_42 ?_
      refine jm_iload_n (pc := 108) (q := 2) (x := x2) d_Ne_become_108 rfl ?_
      refine jm_aload_n (pc := 109) (q := 1) (x := 15) d_Ne_become_109 rfl ?_
      refine jm_gr (pc := 110) (i := 15) d_Ne_become_110 fo_Ne_34 sh_15 ge_15 le_15_78 rfl (fun _ => rfl) mr_154_15_7 ge_22 ?_
      refine jm_iload_n (pc := 113) (q := 2) (x := x2) d_Ne_become_113 rfl ?_
      refine jm_lald (pc := 114) d_Ne_become_114 sh_22 ge_22 le_22_78 (fun v18 => ?_)
      refine jm_last (pc := 115) d_Ne_become_115 sh_42 ge_42 le_42_78 (fun s19 => ?_)
      refine jm_aload_n (pc := 116) (q := 0) (x := 35) d_Ne_become_116 rfl ?_
      refine jm_gr (pc := 117) (i := 35) d_Ne_become_117 fo_Ne_38 sh_35 ge_35 le_35_78 rfl (fun _ => rfl) mr_154_35_8 ge_43 ?_
      refine jm_iload_n (pc := 120) (q := 2) (x := x2) d_Ne_become_120 rfl ?_
      refine jm_aload_n (pc := 121) (q := 1) (x := 15) d_Ne_become_121 rfl ?_
      refine jm_gr (pc := 122) (i := 15) d_Ne_become_122 fo_Ne_38 sh_15 ge_15 le_15_78 rfl (fun _ => rfl) mr_154_15_8 ge_23 ?_
      refine jm_iload_n (pc := 125) (q := 2) (x := x2) d_Ne_become_125 rfl ?_
      refine jm_lald (pc := 126) d_Ne_become_126 sh_23 ge_23 le_23_78 (fun v20 => ?_)
      refine jm_last (pc := 127) d_Ne_become_127 sh_43 ge_43 le_43_78 (fun s21 => ?_)
      refine jm_iinc (pc := 128) (q := 2) (x := x2) (v := 1) (L2 := [(2, .int (x2 + 1)), (0, .ref 35), (1, .ref 15)]) d_Ne_become_128 rfl ci_1 (Nat.le_of_ble_eq_true rfl) rfl ?_
      refine jm_goto (pc := 131) (tgt := 26) d_Ne_become_131 (by decide) ?_
      refine jm_sub (L2 := [(0, .ref 35), (1, .ref 15), (2, .int (x2 + 1))]) [1, 2, 0] rfl ?_
      exact ih (x2 + 1) s21
def s_Ne_become_35_15 (s : jm_M) : Option jm_M := jm_ev (jm_si s 35 0 (s.1 15 0)) (fun s1 => jm_ev (jm_si s1 35 10 (s1.1 15 10)) (fun s2 => jm_ev (jm_sl s2 35 11 (s2.2 15 11)) (fun s3 => s_Ne_become_35_15_L26 5000 0 s3)))
set_option maxRecDepth 100000 in
set_option maxHeartbeats 4000000 in
theorem s_Ne_become_35_15_ok (s : jm_M) : jm_Sim mY_Ne_become 0 0 0 [(0, .ref 35), (1, .ref 15)] [] 78 mr_154 s (s_Ne_become_35_15 s) (jm_rV 78 mr_154) := by
  unfold s_Ne_become_35_15
  refine jm_aload_n (pc := 0) (q := 0) (x := 35) d_Ne_become_0 rfl ?_
  refine jm_aload_n (pc := 1) (q := 1) (x := 15) d_Ne_become_1 rfl ?_
  refine jm_gi (pc := 2) (i := 15) d_Ne_become_2 fo_Ne_9 sh_15 ge_15 le_15_78 rfl (fun _ => rfl) ?_
  refine jm_pi (pc := 5) (i := 35) d_Ne_become_5 fp_Ne_9 sh_35 ge_35 le_35_78 rfl rfl rfl (fun _ _ _ => rfl) (fun s1 => ?_)
  refine jm_aload_n (pc := 8) (q := 0) (x := 35) d_Ne_become_8 rfl ?_
  refine jm_aload_n (pc := 9) (q := 1) (x := 15) d_Ne_become_9 rfl ?_
  refine jm_gi (pc := 10) (i := 15) d_Ne_become_10 fo_Ne_44 sh_15 ge_15 le_15_78 rfl (fun _ => rfl) ?_
  refine jm_pi (pc := 13) (i := 35) d_Ne_become_13 fp_Ne_44 sh_35 ge_35 le_35_78 rfl rfl rfl (fun _ _ _ => rfl) (fun s2 => ?_)
  refine jm_aload_n (pc := 16) (q := 0) (x := 35) d_Ne_become_16 rfl ?_
  refine jm_aload_n (pc := 17) (q := 1) (x := 15) d_Ne_become_17 rfl ?_
  refine jm_gl (pc := 18) (i := 15) d_Ne_become_18 fo_Ne_47 sh_15 ge_15 le_15_78 rfl ?_
  refine jm_pl (pc := 21) (i := 35) d_Ne_become_21 fp_Ne_47 sh_35 ge_35 le_35_78 rfl (fun s3 => ?_)
  refine jm_iconst (pc := 24) (v := 0) d_Ne_become_24 ci_0 ?_
  refine jm_istore_n (pc := 25) (i := 2) (L2 := [(2, .int 0), (0, .ref 35), (1, .ref 15)]) d_Ne_become_25 rfl (Nat.le_of_ble_eq_true rfl) rfl ?_
  refine jm_sub (L2 := [(0, .ref 35), (1, .ref 15), (2, .int 0)]) [1, 2, 0] rfl ?_
  exact s_Ne_become_35_15_L26_ok 5000 0 s3
def s_Ne_become_25_15_L136 : Nat → Int32 → jm_M → Option jm_M
  | 0, _, _ => none
  | n + 1, x2, s => (if 100 ≤ x2 then (some s) else jm_ldl s 24 100 x2 (fun v4 => jm_stl s 34 100 x2 v4 (fun s5 => s_Ne_become_25_15_L136 n (x2 + 1) s5)))
set_option maxRecDepth 100000 in
set_option maxHeartbeats 4000000 in
theorem s_Ne_become_25_15_L136_ok : ∀ (n : Nat) (x2 : Int32) (s : jm_M), jm_Sim mY_Ne_become 0 0 136 [(0, .ref 25), (1, .ref 15), (2, .int x2)] [] 78 mr_154 s (s_Ne_become_25_15_L136 n x2 s) (jm_rV 78 mr_154) := by
  intro n
  induction n with
  | zero => intro x2 s; exact jm_none
  | succ n ih =>
    intro x2 s
    rw [s_Ne_become_25_15_L136]
    refine jm_iload_n (pc := 136) (q := 2) (x := x2) d_Ne_become_136 rfl ?_
    refine jm_bipush (pc := 137) (v := 100) d_Ne_become_137 cb_100 ?_
    refine jm_icmp_ge (pc := 139) (tgt := 160) d_Ne_become_139 (by decide) ?_ ?_
    · exact jm_vret (pc := 160) d_Ne_become_160 rfl rfl rfl rfl
    · refine jm_aload_n (pc := 142) (q := 0) (x := 25) d_Ne_become_142 rfl ?_
      refine jm_gr (pc := 143) (i := 25) d_Ne_become_143 fo_Ne_41 sh_25 ge_25 le_25_78 rfl (fun _ => rfl) mr_154_25_9 ge_34 ?_
      refine jm_iload_n (pc := 146) (q := 2) (x := x2) d_Ne_become_146 rfl ?_
      refine jm_aload_n (pc := 147) (q := 1) (x := 15) d_Ne_become_147 rfl ?_
      refine jm_gr (pc := 148) (i := 15) d_Ne_become_148 fo_Ne_41 sh_15 ge_15 le_15_78 rfl (fun _ => rfl) mr_154_15_9 ge_24 ?_
      refine jm_iload_n (pc := 151) (q := 2) (x := x2) d_Ne_become_151 rfl ?_
      refine jm_lald (pc := 152) d_Ne_become_152 sh_24 ge_24 le_24_78 (fun v4 => ?_)
      refine jm_last (pc := 153) d_Ne_become_153 sh_34 ge_34 le_34_78 (fun s5 => ?_)
      refine jm_iinc (pc := 154) (q := 2) (x := x2) (v := 1) (L2 := [(2, .int (x2 + 1)), (0, .ref 25), (1, .ref 15)]) d_Ne_become_154 rfl ci_1 (Nat.le_of_ble_eq_true rfl) rfl ?_
      refine jm_goto (pc := 157) (tgt := 136) d_Ne_become_157 (by decide) ?_
      refine jm_sub (L2 := [(0, .ref 25), (1, .ref 15), (2, .int (x2 + 1))]) [1, 2, 0] rfl ?_
      exact ih (x2 + 1) s5
def s_Ne_become_25_15_L26 : Nat → Int32 → jm_M → Option jm_M
  | 0, _, _ => none
  | n + 1, x2, s => (if 10 ≤ x2 then s_Ne_become_25_15_L136 5000 0 s else jm_ldi s 16 10 x2 (fun v6 => jm_sti s 26 10 x2 v6 (fun s7 => jm_ldi s7 17 10 x2 (fun v8 => jm_sti s7 27 10 x2 v8 (fun s9 => jm_ldi s9 18 10 x2 (fun v10 => jm_sti s9 28 10 x2 v10 (fun s11 => jm_ldi s11 19 10 x2 (fun v12 => jm_sti s11 29 10 x2 v12 (fun s13 => jm_ldi s13 20 10 x2 (fun v14 => jm_sti s13 30 10 x2 v14 (fun s15 => jm_ldi s15 21 10 x2 (fun v16 => jm_sti s15 31 10 x2 v16 (fun s17 => jm_ldl s17 22 10 x2 (fun v18 => jm_stl s17 32 10 x2 v18 (fun s19 => jm_ldl s19 23 10 x2 (fun v20 => jm_stl s19 33 10 x2 v20 (fun s21 => s_Ne_become_25_15_L26 n (x2 + 1) s21)))))))))))))))))
set_option maxRecDepth 100000 in
set_option maxHeartbeats 4000000 in
theorem s_Ne_become_25_15_L26_ok : ∀ (n : Nat) (x2 : Int32) (s : jm_M), jm_Sim mY_Ne_become 0 0 26 [(0, .ref 25), (1, .ref 15), (2, .int x2)] [] 78 mr_154 s (s_Ne_become_25_15_L26 n x2 s) (jm_rV 78 mr_154) := by
  intro n
  induction n with
  | zero => intro x2 s; exact jm_none
  | succ n ih =>
    intro x2 s
    rw [s_Ne_become_25_15_L26]
    refine jm_iload_n (pc := 26) (q := 2) (x := x2) d_Ne_become_26 rfl ?_
    refine jm_bipush (pc := 27) (v := 10) d_Ne_become_27 cb_10 ?_
    refine jm_icmp_ge (pc := 29) (tgt := 134) d_Ne_become_29 (by decide) ?_ ?_
    · refine jm_iconst (pc := 134) (v := 0) d_Ne_become_134 ci_0 ?_
      refine jm_istore_n (pc := 135) (i := 2) (L2 := [(2, .int 0), (0, .ref 25), (1, .ref 15)]) d_Ne_become_135 rfl (Nat.le_of_ble_eq_true rfl) rfl ?_
      refine jm_sub (L2 := [(0, .ref 25), (1, .ref 15), (2, .int 0)]) [1, 2, 0] rfl ?_
      exact s_Ne_become_25_15_L136_ok 5000 0 s
    · refine jm_aload_n (pc := 32) (q := 0) (x := 25) d_Ne_become_32 rfl ?_
      refine jm_gr (pc := 33) (i := 25) d_Ne_become_33 fo_Ne_15 sh_25 ge_25 le_25_78 rfl (fun _ => rfl) mr_154_25_1 ge_26 ?_
      refine jm_iload_n (pc := 36) (q := 2) (x := x2) d_Ne_become_36 rfl ?_
      refine jm_aload_n (pc := 37) (q := 1) (x := 15) d_Ne_become_37 rfl ?_
      refine jm_gr (pc := 38) (i := 15) d_Ne_become_38 fo_Ne_15 sh_15 ge_15 le_15_78 rfl (fun _ => rfl) mr_154_15_1 ge_16 ?_
      refine jm_iload_n (pc := 41) (q := 2) (x := x2) d_Ne_become_41 rfl ?_
      refine jm_iald (pc := 42) d_Ne_become_42 sh_16 ge_16 le_16_78 (fun v6 => ?_)
      refine jm_iast (pc := 43) d_Ne_become_43 sh_26 ge_26 le_26_78 (fun s7 => ?_)
      refine jm_aload_n (pc := 44) (q := 0) (x := 25) d_Ne_become_44 rfl ?_
      refine jm_gr (pc := 45) (i := 25) d_Ne_become_45 fo_Ne_19 sh_25 ge_25 le_25_78 rfl (fun _ => rfl) mr_154_25_2 ge_27 ?_
      refine jm_iload_n (pc := 48) (q := 2) (x := x2) d_Ne_become_48 rfl ?_
      refine jm_aload_n (pc := 49) (q := 1) (x := 15) d_Ne_become_49 rfl ?_
      refine jm_gr (pc := 50) (i := 15) d_Ne_become_50 fo_Ne_19 sh_15 ge_15 le_15_78 rfl (fun _ => rfl) mr_154_15_2 ge_17 ?_
      refine jm_iload_n (pc := 53) (q := 2) (x := x2) d_Ne_become_53 rfl ?_
      refine jm_iald (pc := 54) d_Ne_become_54 sh_17 ge_17 le_17_78 (fun v8 => ?_)
      refine jm_iast (pc := 55) d_Ne_become_55 sh_27 ge_27 le_27_78 (fun s9 => ?_)
      refine jm_aload_n (pc := 56) (q := 0) (x := 25) d_Ne_become_56 rfl ?_
      refine jm_gr (pc := 57) (i := 25) d_Ne_become_57 fo_Ne_22 sh_25 ge_25 le_25_78 rfl (fun _ => rfl) mr_154_25_3 ge_28 ?_
      refine jm_iload_n (pc := 60) (q := 2) (x := x2) d_Ne_become_60 rfl ?_
      refine jm_aload_n (pc := 61) (q := 1) (x := 15) d_Ne_become_61 rfl ?_
      refine jm_gr (pc := 62) (i := 15) d_Ne_become_62 fo_Ne_22 sh_15 ge_15 le_15_78 rfl (fun _ => rfl) mr_154_15_3 ge_18 ?_
      refine jm_iload_n (pc := 65) (q := 2) (x := x2) d_Ne_become_65 rfl ?_
      refine jm_iald (pc := 66) d_Ne_become_66 sh_18 ge_18 le_18_78 (fun v10 => ?_)
      refine jm_iast (pc := 67) d_Ne_become_67 sh_28 ge_28 le_28_78 (fun s11 => ?_)
      refine jm_aload_n (pc := 68) (q := 0) (x := 25) d_Ne_become_68 rfl ?_
      refine jm_gr (pc := 69) (i := 25) d_Ne_become_69 fo_Ne_25 sh_25 ge_25 le_25_78 rfl (fun _ => rfl) mr_154_25_4 ge_29 ?_
      refine jm_iload_n (pc := 72) (q := 2) (x := x2) d_Ne_become_72 rfl ?_
      refine jm_aload_n (pc := 73) (q := 1) (x := 15) d_Ne_become_73 rfl ?_
      refine jm_gr (pc := 74) (i := 15) d_Ne_become_74 fo_Ne_25 sh_15 ge_15 le_15_78 rfl (fun _ => rfl) mr_154_15_4 ge_19 ?_
      refine jm_iload_n (pc := 77) (q := 2) (x := x2) d_Ne_become_77 rfl ?_
      refine jm_iald (pc := 78) d_Ne_become_78 sh_19 ge_19 le_19_78 (fun v12 => ?_)
      refine jm_iast (pc := 79) d_Ne_become_79 sh_29 ge_29 le_29_78 (fun s13 => ?_)
      refine jm_aload_n (pc := 80) (q := 0) (x := 25) d_Ne_become_80 rfl ?_
      refine jm_gr (pc := 81) (i := 25) d_Ne_become_81 fo_Ne_28 sh_25 ge_25 le_25_78 rfl (fun _ => rfl) mr_154_25_5 ge_30 ?_
      refine jm_iload_n (pc := 84) (q := 2) (x := x2) d_Ne_become_84 rfl ?_
      refine jm_aload_n (pc := 85) (q := 1) (x := 15) d_Ne_become_85 rfl ?_
      refine jm_gr (pc := 86) (i := 15) d_Ne_become_86 fo_Ne_28 sh_15 ge_15 le_15_78 rfl (fun _ => rfl) mr_154_15_5 ge_20 ?_
      refine jm_iload_n (pc := 89) (q := 2) (x := x2) d_Ne_become_89 rfl ?_
      refine jm_iald (pc := 90) d_Ne_become_90 sh_20 ge_20 le_20_78 (fun v14 => ?_)
      refine jm_iast (pc := 91) d_Ne_become_91 sh_30 ge_30 le_30_78 (fun s15 => ?_)
      refine jm_aload_n (pc := 92) (q := 0) (x := 25) d_Ne_become_92 rfl ?_
      refine jm_gr (pc := 93) (i := 25) d_Ne_become_93 fo_Ne_31 sh_25 ge_25 le_25_78 rfl (fun _ => rfl) mr_154_25_6 ge_31 ?_
      refine jm_iload_n (pc := 96) (q := 2) (x := x2) d_Ne_become_96 rfl ?_
      refine jm_aload_n (pc := 97) (q := 1) (x := 15) d_Ne_become_97 rfl ?_
      refine jm_gr (pc := 98) (i := 15) d_Ne_become_98 fo_Ne_31 sh_15 ge_15 le_15_78 rfl (fun _ => rfl) mr_154_15_6 ge_21 ?_
      refine jm_iload_n (pc := 101) (q := 2) (x := x2) d_Ne_become_101 rfl ?_
      refine jm_iald (pc := 102) d_Ne_become_102 sh_21 ge_21 le_21_78 (fun v16 => ?_)
      refine jm_iast (pc := 103) d_Ne_become_103 sh_31 ge_31 le_31_78 (fun s17 => ?_)
      refine jm_aload_n (pc := 104) (q := 0) (x := 25) d_Ne_become_104 rfl ?_
      refine jm_gr (pc := 105) (i := 25) d_Ne_become_105 fo_Ne_34 sh_25 ge_25 le_25_78 rfl (fun _ => rfl) mr_154_25_7 ge_32 ?_
      refine jm_iload_n (pc := 108) (q := 2) (x := x2) d_Ne_become_108 rfl ?_
      refine jm_aload_n (pc := 109) (q := 1) (x := 15) d_Ne_become_109 rfl ?_
      refine jm_gr (pc := 110) (i := 15) d_Ne_become_110 fo_Ne_34 sh_15 ge_15 le_15_78 rfl (fun _ => rfl) mr_154_15_7 ge_22 ?_
      refine jm_iload_n (pc := 113) (q := 2) (x := x2) d_Ne_become_113 rfl ?_
      refine jm_lald (pc := 114) d_Ne_become_114 sh_22 ge_22 le_22_78 (fun v18 => ?_)
      refine jm_last (pc := 115) d_Ne_become_115 sh_32 ge_32 le_32_78 (fun s19 => ?_)
      refine jm_aload_n (pc := 116) (q := 0) (x := 25) d_Ne_become_116 rfl ?_
      refine jm_gr (pc := 117) (i := 25) d_Ne_become_117 fo_Ne_38 sh_25 ge_25 le_25_78 rfl (fun _ => rfl) mr_154_25_8 ge_33 ?_
      refine jm_iload_n (pc := 120) (q := 2) (x := x2) d_Ne_become_120 rfl ?_
      refine jm_aload_n (pc := 121) (q := 1) (x := 15) d_Ne_become_121 rfl ?_
      refine jm_gr (pc := 122) (i := 15) d_Ne_become_122 fo_Ne_38 sh_15 ge_15 le_15_78 rfl (fun _ => rfl) mr_154_15_8 ge_23 ?_
      refine jm_iload_n (pc := 125) (q := 2) (x := x2) d_Ne_become_125 rfl ?_
      refine jm_lald (pc := 126) d_Ne_become_126 sh_23 ge_23 le_23_78 (fun v20 => ?_)
      refine jm_last (pc := 127) d_Ne_become_127 sh_33 ge_33 le_33_78 (fun s21 => ?_)
      refine jm_iinc (pc := 128) (q := 2) (x := x2) (v := 1) (L2 := [(2, .int (x2 + 1)), (0, .ref 25), (1, .ref 15)]) d_Ne_become_128 rfl ci_1 (Nat.le_of_ble_eq_true rfl) rfl ?_
      refine jm_goto (pc := 131) (tgt := 26) d_Ne_become_131 (by decide) ?_
      refine jm_sub (L2 := [(0, .ref 25), (1, .ref 15), (2, .int (x2 + 1))]) [1, 2, 0] rfl ?_
      exact ih (x2 + 1) s21
def s_Ne_become_25_15 (s : jm_M) : Option jm_M := jm_ev (jm_si s 25 0 (s.1 15 0)) (fun s1 => jm_ev (jm_si s1 25 10 (s1.1 15 10)) (fun s2 => jm_ev (jm_sl s2 25 11 (s2.2 15 11)) (fun s3 => s_Ne_become_25_15_L26 5000 0 s3)))
set_option maxRecDepth 100000 in
set_option maxHeartbeats 4000000 in
theorem s_Ne_become_25_15_ok (s : jm_M) : jm_Sim mY_Ne_become 0 0 0 [(0, .ref 25), (1, .ref 15)] [] 78 mr_154 s (s_Ne_become_25_15 s) (jm_rV 78 mr_154) := by
  unfold s_Ne_become_25_15
  refine jm_aload_n (pc := 0) (q := 0) (x := 25) d_Ne_become_0 rfl ?_
  refine jm_aload_n (pc := 1) (q := 1) (x := 15) d_Ne_become_1 rfl ?_
  refine jm_gi (pc := 2) (i := 15) d_Ne_become_2 fo_Ne_9 sh_15 ge_15 le_15_78 rfl (fun _ => rfl) ?_
  refine jm_pi (pc := 5) (i := 25) d_Ne_become_5 fp_Ne_9 sh_25 ge_25 le_25_78 rfl rfl rfl (fun _ _ _ => rfl) (fun s1 => ?_)
  refine jm_aload_n (pc := 8) (q := 0) (x := 25) d_Ne_become_8 rfl ?_
  refine jm_aload_n (pc := 9) (q := 1) (x := 15) d_Ne_become_9 rfl ?_
  refine jm_gi (pc := 10) (i := 15) d_Ne_become_10 fo_Ne_44 sh_15 ge_15 le_15_78 rfl (fun _ => rfl) ?_
  refine jm_pi (pc := 13) (i := 25) d_Ne_become_13 fp_Ne_44 sh_25 ge_25 le_25_78 rfl rfl rfl (fun _ _ _ => rfl) (fun s2 => ?_)
  refine jm_aload_n (pc := 16) (q := 0) (x := 25) d_Ne_become_16 rfl ?_
  refine jm_aload_n (pc := 17) (q := 1) (x := 15) d_Ne_become_17 rfl ?_
  refine jm_gl (pc := 18) (i := 15) d_Ne_become_18 fo_Ne_47 sh_15 ge_15 le_15_78 rfl ?_
  refine jm_pl (pc := 21) (i := 25) d_Ne_become_21 fp_Ne_47 sh_25 ge_25 le_25_78 rfl (fun s3 => ?_)
  refine jm_iconst (pc := 24) (v := 0) d_Ne_become_24 ci_0 ?_
  refine jm_istore_n (pc := 25) (i := 2) (L2 := [(2, .int 0), (0, .ref 25), (1, .ref 15)]) d_Ne_become_25 rfl (Nat.le_of_ble_eq_true rfl) rfl ?_
  refine jm_sub (L2 := [(0, .ref 25), (1, .ref 15), (2, .int 0)]) [1, 2, 0] rfl ?_
  exact s_Ne_become_25_15_L26_ok 5000 0 s3
theorem d_X_keep_0 : decode (jm_cd mY_X_keep) 0 = .ok (.aload_n 0, 1) := by decide +kernel
theorem d_X_keep_1 : decode (jm_cd mY_X_keep) 1 = .ok (.getfield 40, 3) := by decide +kernel
theorem d_X_keep_4 : decode (jm_cd mY_X_keep) 4 = .ok (.iconst 2, 1) := by decide +kernel
theorem d_X_keep_5 : decode (jm_cd mY_X_keep) 5 = .ok (.if_icmp .lt 6, 3) := by decide +kernel
theorem d_X_keep_8 : decode (jm_cd mY_X_keep) 8 = .ok (.bipush (-3), 2) := by decide +kernel
theorem d_X_keep_10 : decode (jm_cd mY_X_keep) 10 = .ok (.ireturn, 1) := by decide +kernel
theorem d_X_keep_11 : decode (jm_cd mY_X_keep) 11 = .ok (.aload_n 0, 1) := by decide +kernel
theorem d_X_keep_12 : decode (jm_cd mY_X_keep) 12 = .ok (.getfield 40, 3) := by decide +kernel
theorem d_X_keep_15 : decode (jm_cd mY_X_keep) 15 = .ok (.ifCond .ne 10, 3) := by decide +kernel
theorem d_X_keep_18 : decode (jm_cd mY_X_keep) 18 = .ok (.aload_n 0, 1) := by decide +kernel
theorem d_X_keep_19 : decode (jm_cd mY_X_keep) 19 = .ok (.getfield 34, 3) := by decide +kernel
theorem d_X_keep_22 : decode (jm_cd mY_X_keep) 22 = .ok (.goto 7, 3) := by decide +kernel
theorem d_X_keep_25 : decode (jm_cd mY_X_keep) 25 = .ok (.aload_n 0, 1) := by decide +kernel
theorem d_X_keep_26 : decode (jm_cd mY_X_keep) 26 = .ok (.getfield 37, 3) := by decide +kernel
theorem d_X_keep_29 : decode (jm_cd mY_X_keep) 29 = .ok (.astore_n 1, 1) := by decide +kernel
theorem d_X_keep_30 : decode (jm_cd mY_X_keep) 30 = .ok (.aload_n 1, 1) := by decide +kernel
theorem d_X_keep_31 : decode (jm_cd mY_X_keep) 31 = .ok (.aload_n 0, 1) := by decide +kernel
theorem d_X_keep_32 : decode (jm_cd mY_X_keep) 32 = .ok (.getfield 31, 3) := by decide +kernel
theorem d_X_keep_35 : decode (jm_cd mY_X_keep) 35 = .ok (.invokevirtual 86, 3) := by decide +kernel
theorem d_X_keep_38 : decode (jm_cd mY_X_keep) 38 = .ok (.aload_n 0, 1) := by decide +kernel
theorem d_X_keep_39 : decode (jm_cd mY_X_keep) 39 = .ok (.dup, 1) := by decide +kernel
theorem d_X_keep_40 : decode (jm_cd mY_X_keep) 40 = .ok (.getfield 40, 3) := by decide +kernel
theorem d_X_keep_43 : decode (jm_cd mY_X_keep) 43 = .ok (.iconst 1, 1) := by decide +kernel
theorem d_X_keep_44 : decode (jm_cd mY_X_keep) 44 = .ok (.iadd, 1) := by decide +kernel
theorem d_X_keep_45 : decode (jm_cd mY_X_keep) 45 = .ok (.putfield 40, 3) := by decide +kernel
theorem d_X_keep_48 : decode (jm_cd mY_X_keep) 48 = .ok (.aload_n 0, 1) := by decide +kernel
theorem d_X_keep_49 : decode (jm_cd mY_X_keep) 49 = .ok (.getfield 40, 3) := by decide +kernel
theorem d_X_keep_52 : decode (jm_cd mY_X_keep) 52 = .ok (.ireturn, 1) := by decide +kernel
def s_X_keep_J29 (s : jm_M) : Option (Int32 × jm_M) := jm_bd (s_Ne_become_35_15 s) (fun s1 => jm_ev (jm_si s1 1 7 ((s1.1 1 7) + 1)) (fun s2 => (some (s2.1 1 7, s2))))
set_option maxRecDepth 100000 in
set_option maxHeartbeats 4000000 in
theorem s_X_keep_J29_ok (s : jm_M) : jm_Sim mY_X_keep 0 0 29 [(0, .ref 1)] [.ref 35] 78 mr_154 s (s_X_keep_J29 s) (jm_rP 78 mr_154) := by
  unfold s_X_keep_J29
  refine jm_astore_n (pc := 29) (i := 1) (L2 := [(1, .ref 35), (0, .ref 1)]) d_X_keep_29 rfl (Nat.le_of_ble_eq_true rfl) rfl ?_
  refine jm_aload_n (pc := 30) (q := 0) (x := 35) d_X_keep_30 rfl ?_
  refine jm_aload_n (pc := 31) (q := 1) (x := 1) d_X_keep_31 rfl ?_
  refine jm_gr (pc := 32) (i := 1) d_X_keep_32 fo_X_31 sh_1 ge_1 le_1_78 rfl (fun _ => rfl) mr_154_1_4 ge_15 ?_
  refine jm_Vv (pc := 35) (Y' := mY_Ne_become) (i := 35) (avs := [.ref 15]) (rest := []) (s_Ne_become_35_15_ok s) ok_Ne_become l0_X_keep__Ne_become ml_X_86 im_Ne_become se_Ne_become d_X_keep_35 rfl sh_35 rfl rfl ge_35 le_35_78 rfl (Nat.le_of_ble_eq_true rfl) (Nat.le_of_ble_eq_true rfl) (Nat.le_of_ble_eq_true rfl) (Nat.le_of_ble_eq_true rfl) (fun s1 => ?_)
  refine jm_aload_n (pc := 38) (q := 1) (x := 1) d_X_keep_38 rfl ?_
  refine jm_dup (pc := 39) d_X_keep_39 rfl ?_
  refine jm_gi (pc := 40) (i := 1) d_X_keep_40 fo_X_40 sh_1 ge_1 le_1_78 rfl (fun _ => rfl) ?_
  refine jm_iconst (pc := 43) (v := 1) d_X_keep_43 ci_1 ?_
  refine jm_iadd (pc := 44) d_X_keep_44 ?_
  refine jm_pi (pc := 45) (i := 1) d_X_keep_45 fp_X_40 sh_1 ge_1 le_1_78 rfl rfl rfl (fun _ _ _ => rfl) (fun s2 => ?_)
  refine jm_aload_n (pc := 48) (q := 1) (x := 1) d_X_keep_48 rfl ?_
  refine jm_gi (pc := 49) (i := 1) d_X_keep_49 fo_X_40 sh_1 ge_1 le_1_78 rfl (fun _ => rfl) ?_
  exact jm_iret (pc := 52) (x := s2.1 1 7) d_X_keep_52 rfl rfl rfl rfl rfl
def s_X_keep (s : jm_M) : Option (Int32 × jm_M) := (if (s.1 1 7) < 2 then (if (s.1 1 7) = 0 then jm_bd (s_Ne_become_25_15 s) (fun s3 => jm_ev (jm_si s3 1 7 ((s3.1 1 7) + 1)) (fun s4 => (some (s4.1 1 7, s4)))) else s_X_keep_J29  s) else (some ((-3), s)))
set_option maxRecDepth 100000 in
set_option maxHeartbeats 4000000 in
theorem s_X_keep_ok (s : jm_M) : jm_Sim mY_X_keep 0 0 0 [(0, .ref 1)] [] 78 mr_154 s (s_X_keep s) (jm_rP 78 mr_154) := by
  unfold s_X_keep
  refine jm_aload_n (pc := 0) (q := 0) (x := 1) d_X_keep_0 rfl ?_
  refine jm_gi (pc := 1) (i := 1) d_X_keep_1 fo_X_40 sh_1 ge_1 le_1_78 rfl (fun _ => rfl) ?_
  refine jm_iconst (pc := 4) (v := 2) d_X_keep_4 ci_2 ?_
  refine jm_icmp_lt (pc := 5) (tgt := 11) d_X_keep_5 (by decide) ?_ ?_
  · refine jm_aload_n (pc := 11) (q := 0) (x := 1) d_X_keep_11 rfl ?_
    refine jm_gi (pc := 12) (i := 1) d_X_keep_12 fo_X_40 sh_1 ge_1 le_1_78 rfl (fun _ => rfl) ?_
    refine jm_if_ne (pc := 15) (tgt := 25) d_X_keep_15 (by decide) ?_ ?_
    · refine jm_aload_n (pc := 18) (q := 0) (x := 1) d_X_keep_18 rfl ?_
      refine jm_gr (pc := 19) (i := 1) d_X_keep_19 fo_X_34 sh_1 ge_1 le_1_78 rfl (fun _ => rfl) mr_154_1_5 ge_25 ?_
      refine jm_goto (pc := 22) (tgt := 29) d_X_keep_22 (by decide) ?_
      refine jm_astore_n (pc := 29) (i := 1) (L2 := [(1, .ref 25), (0, .ref 1)]) d_X_keep_29 rfl (Nat.le_of_ble_eq_true rfl) rfl ?_
      refine jm_aload_n (pc := 30) (q := 0) (x := 25) d_X_keep_30 rfl ?_
      refine jm_aload_n (pc := 31) (q := 1) (x := 1) d_X_keep_31 rfl ?_
      refine jm_gr (pc := 32) (i := 1) d_X_keep_32 fo_X_31 sh_1 ge_1 le_1_78 rfl (fun _ => rfl) mr_154_1_4 ge_15 ?_
      refine jm_Vv (pc := 35) (Y' := mY_Ne_become) (i := 25) (avs := [.ref 15]) (rest := []) (s_Ne_become_25_15_ok s) ok_Ne_become l0_X_keep__Ne_become ml_X_86 im_Ne_become se_Ne_become d_X_keep_35 rfl sh_25 rfl rfl ge_25 le_25_78 rfl (Nat.le_of_ble_eq_true rfl) (Nat.le_of_ble_eq_true rfl) (Nat.le_of_ble_eq_true rfl) (Nat.le_of_ble_eq_true rfl) (fun s3 => ?_)
      refine jm_aload_n (pc := 38) (q := 1) (x := 1) d_X_keep_38 rfl ?_
      refine jm_dup (pc := 39) d_X_keep_39 rfl ?_
      refine jm_gi (pc := 40) (i := 1) d_X_keep_40 fo_X_40 sh_1 ge_1 le_1_78 rfl (fun _ => rfl) ?_
      refine jm_iconst (pc := 43) (v := 1) d_X_keep_43 ci_1 ?_
      refine jm_iadd (pc := 44) d_X_keep_44 ?_
      refine jm_pi (pc := 45) (i := 1) d_X_keep_45 fp_X_40 sh_1 ge_1 le_1_78 rfl rfl rfl (fun _ _ _ => rfl) (fun s4 => ?_)
      refine jm_aload_n (pc := 48) (q := 1) (x := 1) d_X_keep_48 rfl ?_
      refine jm_gi (pc := 49) (i := 1) d_X_keep_49 fo_X_40 sh_1 ge_1 le_1_78 rfl (fun _ => rfl) ?_
      exact jm_iret (pc := 52) (x := s4.1 1 7) d_X_keep_52 rfl rfl rfl rfl rfl
    · refine jm_aload_n (pc := 25) (q := 0) (x := 1) d_X_keep_25 rfl ?_
      refine jm_gr (pc := 26) (i := 1) d_X_keep_26 fo_X_37 sh_1 ge_1 le_1_78 rfl (fun _ => rfl) mr_154_1_6 ge_35 ?_
      exact s_X_keep_J29_ok  s
  · refine jm_bipush (pc := 8) (v := (-3)) d_X_keep_8 cb_m3 ?_
    exact jm_iret (pc := 10) (x := (-3)) d_X_keep_10 rfl rfl rfl rfl rfl
theorem d_Z_copyAll_0 : decode (jm_cd mY_Z_copyAll) 0 = .ok (.aload_n 0, 1) := by decide +kernel
theorem d_Z_copyAll_1 : decode (jm_cd mY_Z_copyAll) 1 = .ok (.iload_n 1, 1) := by decide +kernel
theorem d_Z_copyAll_2 : decode (jm_cd mY_Z_copyAll) 2 = .ok (.iload_n 2, 1) := by decide +kernel
theorem d_Z_copyAll_3 : decode (jm_cd mY_Z_copyAll) 3 = .ok (.invokevirtual 134, 3) := by decide +kernel
theorem d_Z_copyAll_6 : decode (jm_cd mY_Z_copyAll) 6 = .ok (.iconst 0, 1) := by decide +kernel
theorem d_Z_copyAll_7 : decode (jm_cd mY_Z_copyAll) 7 = .ok (.istore_n 3, 1) := by decide +kernel
theorem d_Z_copyAll_8 : decode (jm_cd mY_Z_copyAll) 8 = .ok (.iload_n 3, 1) := by decide +kernel
theorem d_Z_copyAll_9 : decode (jm_cd mY_Z_copyAll) 9 = .ok (.iconst 3, 1) := by decide +kernel
theorem d_Z_copyAll_10 : decode (jm_cd mY_Z_copyAll) 10 = .ok (.if_icmp .ge 29, 3) := by decide +kernel
theorem d_Z_copyAll_13 : decode (jm_cd mY_Z_copyAll) 13 = .ok (.aload_n 0, 1) := by decide +kernel
theorem d_Z_copyAll_14 : decode (jm_cd mY_Z_copyAll) 14 = .ok (.getfield 37, 3) := by decide +kernel
theorem d_Z_copyAll_17 : decode (jm_cd mY_Z_copyAll) 17 = .ok (.iconst 3, 1) := by decide +kernel
theorem d_Z_copyAll_18 : decode (jm_cd mY_Z_copyAll) 18 = .ok (.iload_n 2, 1) := by decide +kernel
theorem d_Z_copyAll_19 : decode (jm_cd mY_Z_copyAll) 19 = .ok (.imul, 1) := by decide +kernel
theorem d_Z_copyAll_20 : decode (jm_cd mY_Z_copyAll) 20 = .ok (.iload_n 3, 1) := by decide +kernel
theorem d_Z_copyAll_21 : decode (jm_cd mY_Z_copyAll) 21 = .ok (.iadd, 1) := by decide +kernel
theorem d_Z_copyAll_22 : decode (jm_cd mY_Z_copyAll) 22 = .ok (.aload_n 0, 1) := by decide +kernel
theorem d_Z_copyAll_23 : decode (jm_cd mY_Z_copyAll) 23 = .ok (.getfield 37, 3) := by decide +kernel
theorem d_Z_copyAll_26 : decode (jm_cd mY_Z_copyAll) 26 = .ok (.iconst 3, 1) := by decide +kernel
theorem d_Z_copyAll_27 : decode (jm_cd mY_Z_copyAll) 27 = .ok (.iload_n 1, 1) := by decide +kernel
theorem d_Z_copyAll_28 : decode (jm_cd mY_Z_copyAll) 28 = .ok (.imul, 1) := by decide +kernel
theorem d_Z_copyAll_29 : decode (jm_cd mY_Z_copyAll) 29 = .ok (.iload_n 3, 1) := by decide +kernel
theorem d_Z_copyAll_30 : decode (jm_cd mY_Z_copyAll) 30 = .ok (.iadd, 1) := by decide +kernel
theorem d_Z_copyAll_31 : decode (jm_cd mY_Z_copyAll) 31 = .ok (.iaload, 1) := by decide +kernel
theorem d_Z_copyAll_32 : decode (jm_cd mY_Z_copyAll) 32 = .ok (.iastore, 1) := by decide +kernel
theorem d_Z_copyAll_33 : decode (jm_cd mY_Z_copyAll) 33 = .ok (.iinc 3 1, 3) := by decide +kernel
theorem d_Z_copyAll_36 : decode (jm_cd mY_Z_copyAll) 36 = .ok (.goto (-28), 3) := by decide +kernel
theorem d_Z_copyAll_39 : decode (jm_cd mY_Z_copyAll) 39 = .ok (.iconst 0, 1) := by decide +kernel
theorem d_Z_copyAll_40 : decode (jm_cd mY_Z_copyAll) 40 = .ok (.istore_n 3, 1) := by decide +kernel
theorem d_Z_copyAll_41 : decode (jm_cd mY_Z_copyAll) 41 = .ok (.iload_n 3, 1) := by decide +kernel
theorem d_Z_copyAll_42 : decode (jm_cd mY_Z_copyAll) 42 = .ok (.bipush 10, 2) := by decide +kernel
theorem d_Z_copyAll_44 : decode (jm_cd mY_Z_copyAll) 44 = .ok (.if_icmp .ge 31, 3) := by decide +kernel
theorem d_Z_copyAll_47 : decode (jm_cd mY_Z_copyAll) 47 = .ok (.aload_n 0, 1) := by decide +kernel
theorem d_Z_copyAll_48 : decode (jm_cd mY_Z_copyAll) 48 = .ok (.getfield 40, 3) := by decide +kernel
theorem d_Z_copyAll_51 : decode (jm_cd mY_Z_copyAll) 51 = .ok (.bipush 10, 2) := by decide +kernel
theorem d_Z_copyAll_53 : decode (jm_cd mY_Z_copyAll) 53 = .ok (.iload_n 2, 1) := by decide +kernel
theorem d_Z_copyAll_54 : decode (jm_cd mY_Z_copyAll) 54 = .ok (.imul, 1) := by decide +kernel
theorem d_Z_copyAll_55 : decode (jm_cd mY_Z_copyAll) 55 = .ok (.iload_n 3, 1) := by decide +kernel
theorem d_Z_copyAll_56 : decode (jm_cd mY_Z_copyAll) 56 = .ok (.iadd, 1) := by decide +kernel
theorem d_Z_copyAll_57 : decode (jm_cd mY_Z_copyAll) 57 = .ok (.aload_n 0, 1) := by decide +kernel
theorem d_Z_copyAll_58 : decode (jm_cd mY_Z_copyAll) 58 = .ok (.getfield 40, 3) := by decide +kernel
theorem d_Z_copyAll_61 : decode (jm_cd mY_Z_copyAll) 61 = .ok (.bipush 10, 2) := by decide +kernel
theorem d_Z_copyAll_63 : decode (jm_cd mY_Z_copyAll) 63 = .ok (.iload_n 1, 1) := by decide +kernel
theorem d_Z_copyAll_64 : decode (jm_cd mY_Z_copyAll) 64 = .ok (.imul, 1) := by decide +kernel
theorem d_Z_copyAll_65 : decode (jm_cd mY_Z_copyAll) 65 = .ok (.iload_n 3, 1) := by decide +kernel
theorem d_Z_copyAll_66 : decode (jm_cd mY_Z_copyAll) 66 = .ok (.iadd, 1) := by decide +kernel
theorem d_Z_copyAll_67 : decode (jm_cd mY_Z_copyAll) 67 = .ok (.iaload, 1) := by decide +kernel
theorem d_Z_copyAll_68 : decode (jm_cd mY_Z_copyAll) 68 = .ok (.iastore, 1) := by decide +kernel
theorem d_Z_copyAll_69 : decode (jm_cd mY_Z_copyAll) 69 = .ok (.iinc 3 1, 3) := by decide +kernel
theorem d_Z_copyAll_72 : decode (jm_cd mY_Z_copyAll) 72 = .ok (.goto (-31), 3) := by decide +kernel
theorem d_Z_copyAll_75 : decode (jm_cd mY_Z_copyAll) 75 = .ok (.return_, 1) := by decide +kernel
def s_Z_copyAll_L41 : Nat → Int32 → Int32 → Int32 → jm_M → Option jm_M
  | 0, _, _, _, _ => none
  | n + 1, x1, x2, x3, s => (if 10 ≤ x3 then (some s) else jm_ldi s 70 30 ((10 * x1) + x3) (fun v2 => jm_sti s 70 30 ((10 * x2) + x3) v2 (fun s3 => s_Z_copyAll_L41 n x1 x2 (x3 + 1) s3)))
set_option maxRecDepth 100000 in
set_option maxHeartbeats 4000000 in
theorem s_Z_copyAll_L41_ok : ∀ (n : Nat) (x1 : Int32) (x2 : Int32) (x3 : Int32) (s : jm_M), jm_Sim mY_Z_copyAll 0 0 41 [(0, .ref 59), (1, .int x1), (2, .int x2), (3, .int x3)] [] 78 mr_154 s (s_Z_copyAll_L41 n x1 x2 x3 s) (jm_rV 78 mr_154) := by
  intro n
  induction n with
  | zero => intro x1 x2 x3 s; exact jm_none
  | succ n ih =>
    intro x1 x2 x3 s
    rw [s_Z_copyAll_L41]
    refine jm_iload_n (pc := 41) (q := 3) (x := x3) d_Z_copyAll_41 rfl ?_
    refine jm_bipush (pc := 42) (v := 10) d_Z_copyAll_42 cb_10 ?_
    refine jm_icmp_ge (pc := 44) (tgt := 75) d_Z_copyAll_44 (by decide) ?_ ?_
    · exact jm_vret (pc := 75) d_Z_copyAll_75 rfl rfl rfl rfl
    · refine jm_aload_n (pc := 47) (q := 0) (x := 59) d_Z_copyAll_47 rfl ?_
      refine jm_gr (pc := 48) (i := 59) d_Z_copyAll_48 fo_Z_40 sh_59 ge_59 le_59_78 rfl (fun _ => rfl) mr_154_59_11 ge_70 ?_
      refine jm_bipush (pc := 51) (v := 10) d_Z_copyAll_51 cb_10 ?_
      refine jm_iload_n (pc := 53) (q := 2) (x := x2) d_Z_copyAll_53 rfl ?_
      refine jm_imul (pc := 54) d_Z_copyAll_54 ?_
      refine jm_iload_n (pc := 55) (q := 3) (x := x3) d_Z_copyAll_55 rfl ?_
      refine jm_iadd (pc := 56) d_Z_copyAll_56 ?_
      refine jm_aload_n (pc := 57) (q := 0) (x := 59) d_Z_copyAll_57 rfl ?_
      refine jm_gr (pc := 58) (i := 59) d_Z_copyAll_58 fo_Z_40 sh_59 ge_59 le_59_78 rfl (fun _ => rfl) mr_154_59_11 ge_70 ?_
      refine jm_bipush (pc := 61) (v := 10) d_Z_copyAll_61 cb_10 ?_
      refine jm_iload_n (pc := 63) (q := 1) (x := x1) d_Z_copyAll_63 rfl ?_
      refine jm_imul (pc := 64) d_Z_copyAll_64 ?_
      refine jm_iload_n (pc := 65) (q := 3) (x := x3) d_Z_copyAll_65 rfl ?_
      refine jm_iadd (pc := 66) d_Z_copyAll_66 ?_
      refine jm_iald (pc := 67) d_Z_copyAll_67 sh_70 ge_70 le_70_78 (fun v2 => ?_)
      refine jm_iast (pc := 68) d_Z_copyAll_68 sh_70 ge_70 le_70_78 (fun s3 => ?_)
      refine jm_iinc (pc := 69) (q := 3) (x := x3) (v := 1) (L2 := [(3, .int (x3 + 1)), (0, .ref 59), (1, .int x1), (2, .int x2)]) d_Z_copyAll_69 rfl ci_1 (Nat.le_of_ble_eq_true rfl) rfl ?_
      refine jm_goto (pc := 72) (tgt := 41) d_Z_copyAll_72 (by decide) ?_
      refine jm_sub (L2 := [(0, .ref 59), (1, .int x1), (2, .int x2), (3, .int (x3 + 1))]) [1, 2, 3, 0] rfl ?_
      exact ih x1 x2 (x3 + 1) s3
def s_Z_copyAll_L8 : Nat → Int32 → Int32 → Int32 → jm_M → Option jm_M
  | 0, _, _, _, _ => none
  | n + 1, x1, x2, x3, s => (if 3 ≤ x3 then s_Z_copyAll_L41 5000 x1 x2 0 s else jm_ldi s 69 9 ((3 * x1) + x3) (fun v4 => jm_sti s 69 9 ((3 * x2) + x3) v4 (fun s5 => s_Z_copyAll_L8 n x1 x2 (x3 + 1) s5)))
set_option maxRecDepth 100000 in
set_option maxHeartbeats 4000000 in
theorem s_Z_copyAll_L8_ok : ∀ (n : Nat) (x1 : Int32) (x2 : Int32) (x3 : Int32) (s : jm_M), jm_Sim mY_Z_copyAll 0 0 8 [(0, .ref 59), (1, .int x1), (2, .int x2), (3, .int x3)] [] 78 mr_154 s (s_Z_copyAll_L8 n x1 x2 x3 s) (jm_rV 78 mr_154) := by
  intro n
  induction n with
  | zero => intro x1 x2 x3 s; exact jm_none
  | succ n ih =>
    intro x1 x2 x3 s
    rw [s_Z_copyAll_L8]
    refine jm_iload_n (pc := 8) (q := 3) (x := x3) d_Z_copyAll_8 rfl ?_
    refine jm_iconst (pc := 9) (v := 3) d_Z_copyAll_9 ci_3 ?_
    refine jm_icmp_ge (pc := 10) (tgt := 39) d_Z_copyAll_10 (by decide) ?_ ?_
    · refine jm_iconst (pc := 39) (v := 0) d_Z_copyAll_39 ci_0 ?_
      refine jm_istore_n (pc := 40) (i := 3) (L2 := [(3, .int 0), (0, .ref 59), (1, .int x1), (2, .int x2)]) d_Z_copyAll_40 rfl (Nat.le_of_ble_eq_true rfl) rfl ?_
      refine jm_sub (L2 := [(0, .ref 59), (1, .int x1), (2, .int x2), (3, .int 0)]) [1, 2, 3, 0] rfl ?_
      exact s_Z_copyAll_L41_ok 5000 x1 x2 0 s
    · refine jm_aload_n (pc := 13) (q := 0) (x := 59) d_Z_copyAll_13 rfl ?_
      refine jm_gr (pc := 14) (i := 59) d_Z_copyAll_14 fo_Z_37 sh_59 ge_59 le_59_78 rfl (fun _ => rfl) mr_154_59_10 ge_69 ?_
      refine jm_iconst (pc := 17) (v := 3) d_Z_copyAll_17 ci_3 ?_
      refine jm_iload_n (pc := 18) (q := 2) (x := x2) d_Z_copyAll_18 rfl ?_
      refine jm_imul (pc := 19) d_Z_copyAll_19 ?_
      refine jm_iload_n (pc := 20) (q := 3) (x := x3) d_Z_copyAll_20 rfl ?_
      refine jm_iadd (pc := 21) d_Z_copyAll_21 ?_
      refine jm_aload_n (pc := 22) (q := 0) (x := 59) d_Z_copyAll_22 rfl ?_
      refine jm_gr (pc := 23) (i := 59) d_Z_copyAll_23 fo_Z_37 sh_59 ge_59 le_59_78 rfl (fun _ => rfl) mr_154_59_10 ge_69 ?_
      refine jm_iconst (pc := 26) (v := 3) d_Z_copyAll_26 ci_3 ?_
      refine jm_iload_n (pc := 27) (q := 1) (x := x1) d_Z_copyAll_27 rfl ?_
      refine jm_imul (pc := 28) d_Z_copyAll_28 ?_
      refine jm_iload_n (pc := 29) (q := 3) (x := x3) d_Z_copyAll_29 rfl ?_
      refine jm_iadd (pc := 30) d_Z_copyAll_30 ?_
      refine jm_iald (pc := 31) d_Z_copyAll_31 sh_69 ge_69 le_69_78 (fun v4 => ?_)
      refine jm_iast (pc := 32) d_Z_copyAll_32 sh_69 ge_69 le_69_78 (fun s5 => ?_)
      refine jm_iinc (pc := 33) (q := 3) (x := x3) (v := 1) (L2 := [(3, .int (x3 + 1)), (0, .ref 59), (1, .int x1), (2, .int x2)]) d_Z_copyAll_33 rfl ci_1 (Nat.le_of_ble_eq_true rfl) rfl ?_
      refine jm_goto (pc := 36) (tgt := 8) d_Z_copyAll_36 (by decide) ?_
      refine jm_sub (L2 := [(0, .ref 59), (1, .int x1), (2, .int x2), (3, .int (x3 + 1))]) [1, 2, 3, 0] rfl ?_
      exact ih x1 x2 (x3 + 1) s5
def s_Z_copyAll (s : jm_M) (a0 : Int32) (a1 : Int32) : Option jm_M := jm_bd (s_Z_copy s a0 a1) (fun s1 => s_Z_copyAll_L8 5000 a0 a1 0 s1)
set_option maxRecDepth 100000 in
set_option maxHeartbeats 4000000 in
theorem s_Z_copyAll_ok (s : jm_M) (a0 : Int32) (a1 : Int32) : jm_Sim mY_Z_copyAll 0 0 0 [(0, .ref 59), (1, .int a0), (2, .int a1)] [] 78 mr_154 s (s_Z_copyAll s a0 a1) (jm_rV 78 mr_154) := by
  unfold s_Z_copyAll
  refine jm_aload_n (pc := 0) (q := 0) (x := 59) d_Z_copyAll_0 rfl ?_
  refine jm_iload_n (pc := 1) (q := 1) (x := a0) d_Z_copyAll_1 rfl ?_
  refine jm_iload_n (pc := 2) (q := 2) (x := a1) d_Z_copyAll_2 rfl ?_
  refine jm_Vv (pc := 3) (Y' := mY_Z_copy) (i := 59) (avs := [.int a0, .int a1]) (rest := []) (s_Z_copy_ok s a0 a1) ok_Z_copy l0_Z_copyAll__Z_copy ml_Z_134 im_Z_copy se_Z_copy d_Z_copyAll_3 rfl sh_59 rfl rfl ge_59 le_59_78 rfl (Nat.le_of_ble_eq_true rfl) (Nat.le_of_ble_eq_true rfl) (Nat.le_of_ble_eq_true rfl) (Nat.le_of_ble_eq_true rfl) (fun s1 => ?_)
  refine jm_iconst (pc := 6) (v := 0) d_Z_copyAll_6 ci_0 ?_
  refine jm_istore_n (pc := 7) (i := 3) (L2 := [(3, .int 0), (0, .ref 59), (1, .int a0), (2, .int a1)]) d_Z_copyAll_7 rfl (Nat.le_of_ble_eq_true rfl) rfl ?_
  refine jm_sub (L2 := [(0, .ref 59), (1, .int a0), (2, .int a1), (3, .int 0)]) [1, 2, 3, 0] rfl ?_
  exact s_Z_copyAll_L8_ok 5000 a0 a1 0 s1
