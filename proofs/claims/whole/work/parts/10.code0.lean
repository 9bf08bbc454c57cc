theorem d_Re_init_0 : decode (jm_cd mY_Re_init) 0 = .ok (.aload_n 0, 1) := by decide +kernel
theorem d_Re_init_1 : decode (jm_cd mY_Re_init) 1 = .ok (.invokespecial 3, 3) := by decide +kernel
theorem d_Re_init_4 : decode (jm_cd mY_Re_init) 4 = .ok (.aload_n 0, 1) := by decide +kernel
theorem d_Re_init_5 : decode (jm_cd mY_Re_init) 5 = .ok (.iconst 4, 1) := by decide +kernel
theorem d_Re_init_6 : decode (jm_cd mY_Re_init) 6 = .ok (.newarray .int, 2) := by decide +kernel
theorem d_Re_init_8 : decode (jm_cd mY_Re_init) 8 = .ok (.putfield 11, 3) := by decide +kernel
theorem d_Re_init_11 : decode (jm_cd mY_Re_init) 11 = .ok (.aload_n 0, 1) := by decide +kernel
theorem d_Re_init_12 : decode (jm_cd mY_Re_init) 12 = .ok (.iconst 0, 1) := by decide +kernel
theorem d_Re_init_13 : decode (jm_cd mY_Re_init) 13 = .ok (.putfield 15, 3) := by decide +kernel
theorem d_Re_init_16 : decode (jm_cd mY_Re_init) 16 = .ok (.aload_n 0, 1) := by decide +kernel
theorem d_Re_init_17 : decode (jm_cd mY_Re_init) 17 = .ok (.iconst 0, 1) := by decide +kernel
theorem d_Re_init_18 : decode (jm_cd mY_Re_init) 18 = .ok (.putfield 19, 3) := by decide +kernel
theorem d_Re_init_21 : decode (jm_cd mY_Re_init) 21 = .ok (.aload_n 0, 1) := by decide +kernel
theorem d_Re_init_22 : decode (jm_cd mY_Re_init) 22 = .ok (.iconst 0, 1) := by decide +kernel
theorem d_Re_init_23 : decode (jm_cd mY_Re_init) 23 = .ok (.putfield 22, 3) := by decide +kernel
theorem d_Re_init_26 : decode (jm_cd mY_Re_init) 26 = .ok (.aload_n 0, 1) := by decide +kernel
theorem d_Re_init_27 : decode (jm_cd mY_Re_init) 27 = .ok (.iconst 1, 1) := by decide +kernel
theorem d_Re_init_28 : decode (jm_cd mY_Re_init) 28 = .ok (.putfield 25, 3) := by decide +kernel
theorem d_Re_init_31 : decode (jm_cd mY_Re_init) 31 = .ok (.aload_n 0, 1) := by decide +kernel
theorem d_Re_init_32 : decode (jm_cd mY_Re_init) 32 = .ok (.iconst 0, 1) := by decide +kernel
theorem d_Re_init_33 : decode (jm_cd mY_Re_init) 33 = .ok (.putfield 29, 3) := by decide +kernel
theorem d_Re_init_36 : decode (jm_cd mY_Re_init) 36 = .ok (.aload_n 0, 1) := by decide +kernel
theorem d_Re_init_37 : decode (jm_cd mY_Re_init) 37 = .ok (.iconst 0, 1) := by decide +kernel
theorem d_Re_init_38 : decode (jm_cd mY_Re_init) 38 = .ok (.putfield 32, 3) := by decide +kernel
theorem d_Re_init_41 : decode (jm_cd mY_Re_init) 41 = .ok (.return_, 1) := by decide +kernel
def s_Re_init (s : jm_M) : Option jm_M := jm_ev (jm_z s 4) (fun s1 => jm_ev (jm_si s1 3 1 0) (fun s2 => jm_ev (jm_si s2 3 2 0) (fun s3 => jm_ev (jm_si s3 3 3 0) (fun s4 => jm_ev (jm_si s4 3 4 1) (fun s5 => jm_ev (jm_si s5 3 5 0) (fun s6 => jm_ev (jm_si s6 3 6 0) (fun s7 => (some s7))))))))
set_option maxRecDepth 100000 in
set_option maxHeartbeats 4000000 in
theorem s_Re_init_ok (s : jm_M) : jm_Sim mY_Re_init 0 0 0 [(0, .ref 3)] [] 3 mr_4 s (s_Re_init s) (jm_rV 4 mr_6) := by
  unfold s_Re_init
  refine jm_aload_n (pc := 0) (q := 0) (x := 3) d_Re_init_0 rfl ?_
  refine jm_oinit (pc := 1) d_Re_init_1 mlo_Re_3 oi_im oi_cd (Nat.le_of_ble_eq_true rfl) (Nat.le_of_ble_eq_true rfl) ?_
  refine jm_aload_n (pc := 4) (q := 0) (x := 3) d_Re_init_4 rfl ?_
  refine jm_iconst (pc := 5) (v := 4) d_Re_init_5 ci_4 ?_
  refine jm_nai (pc := 6) (N := 4) d_Re_init_6 ac_int (by decide) (by decide) (by decide) sh_4 (Nat.le_of_ble_eq_true rfl) (Nat.le_of_ble_eq_true rfl) (fun s1 => ?_)
  show jm_Sim _ 1 4 8 [(0, .ref 3)] [.ref 4, .ref 3] 4 mr_5 s1 _ _
  refine jm_pr (pc := 8) (i := 3) (q := 4) d_Re_init_8 fp_Re_11 (fun _ => rfl) sh_3 ge_3 le_3_4 ge_4 rfl (fun _ => rfl) (fun _ => rfl) (fun _ _ _ => rfl) ?_
  refine jm_aload_n (pc := 11) (q := 0) (x := 3) d_Re_init_11 rfl ?_
  refine jm_iconst (pc := 12) (v := 0) d_Re_init_12 ci_0 ?_
  refine jm_pi (pc := 13) (i := 3) d_Re_init_13 fp_Re_15 sh_3 ge_3 le_3_4 rfl rfl rfl (fun _ _ _ => rfl) (fun s2 => ?_)
  refine jm_aload_n (pc := 16) (q := 0) (x := 3) d_Re_init_16 rfl ?_
  refine jm_iconst (pc := 17) (v := 0) d_Re_init_17 ci_0 ?_
  refine jm_pi (pc := 18) (i := 3) d_Re_init_18 fp_Re_19 sh_3 ge_3 le_3_4 rfl rfl rfl (fun _ _ _ => rfl) (fun s3 => ?_)
  refine jm_aload_n (pc := 21) (q := 0) (x := 3) d_Re_init_21 rfl ?_
  refine jm_iconst (pc := 22) (v := 0) d_Re_init_22 ci_0 ?_
  refine jm_pi (pc := 23) (i := 3) d_Re_init_23 fp_Re_22 sh_3 ge_3 le_3_4 rfl rfl rfl (fun _ _ _ => rfl) (fun s4 => ?_)
  refine jm_aload_n (pc := 26) (q := 0) (x := 3) d_Re_init_26 rfl ?_
  refine jm_iconst (pc := 27) (v := 1) d_Re_init_27 ci_1 ?_
  refine jm_pi (pc := 28) (i := 3) d_Re_init_28 fp_Re_25 sh_3 ge_3 le_3_4 rfl (by decide) (by decide) (fun _ _ _ => rfl) (fun s5 => ?_)
  refine jm_aload_n (pc := 31) (q := 0) (x := 3) d_Re_init_31 rfl ?_
  refine jm_iconst (pc := 32) (v := 0) d_Re_init_32 ci_0 ?_
  refine jm_pi (pc := 33) (i := 3) d_Re_init_33 fp_Re_29 sh_3 ge_3 le_3_4 rfl rfl rfl (fun _ _ _ => rfl) (fun s6 => ?_)
  refine jm_aload_n (pc := 36) (q := 0) (x := 3) d_Re_init_36 rfl ?_
  refine jm_iconst (pc := 37) (v := 0) d_Re_init_37 ci_0 ?_
  refine jm_pi (pc := 38) (i := 3) d_Re_init_38 fp_Re_32 sh_3 ge_3 le_3_4 rfl rfl rfl (fun _ _ _ => rfl) (fun s7 => ?_)
  exact jm_vret (pc := 41) d_Re_init_41 rfl rfl rfl rfl
theorem d_Ne_clear_0 : decode (jm_cd mY_Ne_clear) 0 = .ok (.aload_n 0, 1) := by decide +kernel
theorem d_Ne_clear_1 : decode (jm_cd mY_Ne_clear) 1 = .ok (.iconst 0, 1) := by decide +kernel
theorem d_Ne_clear_2 : decode (jm_cd mY_Ne_clear) 2 = .ok (.putfield 9, 3) := by decide +kernel
theorem d_Ne_clear_5 : decode (jm_cd mY_Ne_clear) 5 = .ok (.aload_n 0, 1) := by decide +kernel
theorem d_Ne_clear_6 : decode (jm_cd mY_Ne_clear) 6 = .ok (.iconst 0, 1) := by decide +kernel
theorem d_Ne_clear_7 : decode (jm_cd mY_Ne_clear) 7 = .ok (.putfield 44, 3) := by decide +kernel
theorem d_Ne_clear_10 : decode (jm_cd mY_Ne_clear) 10 = .ok (.aload_n 0, 1) := by decide +kernel
theorem d_Ne_clear_11 : decode (jm_cd mY_Ne_clear) 11 = .ok (.lconst 0, 1) := by decide +kernel
theorem d_Ne_clear_12 : decode (jm_cd mY_Ne_clear) 12 = .ok (.putfield 47, 3) := by decide +kernel
theorem d_Ne_clear_15 : decode (jm_cd mY_Ne_clear) 15 = .ok (.iconst 0, 1) := by decide +kernel
theorem d_Ne_clear_16 : decode (jm_cd mY_Ne_clear) 16 = .ok (.istore_n 1, 1) := by decide +kernel
theorem d_Ne_clear_17 : decode (jm_cd mY_Ne_clear) 17 = .ok (.iload_n 1, 1) := by decide +kernel
theorem d_Ne_clear_18 : decode (jm_cd mY_Ne_clear) 18 = .ok (.bipush 10, 2) := by decide +kernel
theorem d_Ne_clear_20 : decode (jm_cd mY_Ne_clear) 20 = .ok (.if_icmp .ge 66, 3) := by decide +kernel
theorem d_Ne_clear_23 : decode (jm_cd mY_Ne_clear) 23 = .ok (.aload_n 0, 1) := by decide +kernel
theorem d_Ne_clear_24 : decode (jm_cd mY_Ne_clear) 24 = .ok (.getfield 15, 3) := by decide +kernel
theorem d_Ne_clear_27 : decode (jm_cd mY_Ne_clear) 27 = .ok (.iload_n 1, 1) := by decide +kernel
theorem d_Ne_clear_28 : decode (jm_cd mY_Ne_clear) 28 = .ok (.iconst (-1), 1) := by decide +kernel
theorem d_Ne_clear_29 : decode (jm_cd mY_Ne_clear) 29 = .ok (.iastore, 1) := by decide +kernel
theorem d_Ne_clear_30 : decode (jm_cd mY_Ne_clear) 30 = .ok (.aload_n 0, 1) := by decide +kernel
theorem d_Ne_clear_31 : decode (jm_cd mY_Ne_clear) 31 = .ok (.getfield 19, 3) := by decide +kernel
theorem d_Ne_clear_34 : decode (jm_cd mY_Ne_clear) 34 = .ok (.iload_n 1, 1) := by decide +kernel
theorem d_Ne_clear_35 : decode (jm_cd mY_Ne_clear) 35 = .ok (.iconst 0, 1) := by decide +kernel
theorem d_Ne_clear_36 : decode (jm_cd mY_Ne_clear) 36 = .ok (.iastore, 1) := by decide +kernel
theorem d_Ne_clear_37 : decode (jm_cd mY_Ne_clear) 37 = .ok (.aload_n 0, 1) := by decide +kernel
theorem d_Ne_clear_38 : decode (jm_cd mY_Ne_clear) 38 = .ok (.getfield 22, 3) := by decide +kernel
theorem d_Ne_clear_41 : decode (jm_cd mY_Ne_clear) 41 = .ok (.iload_n 1, 1) := by decide +kernel
theorem d_Ne_clear_42 : decode (jm_cd mY_Ne_clear) 42 = .ok (.iconst 1, 1) := by decide +kernel
theorem d_Ne_clear_43 : decode (jm_cd mY_Ne_clear) 43 = .ok (.iastore, 1) := by decide +kernel
theorem d_Ne_clear_44 : decode (jm_cd mY_Ne_clear) 44 = .ok (.aload_n 0, 1) := by decide +kernel
theorem d_Ne_clear_45 : decode (jm_cd mY_Ne_clear) 45 = .ok (.getfield 25, 3) := by decide +kernel
theorem d_Ne_clear_48 : decode (jm_cd mY_Ne_clear) 48 = .ok (.iload_n 1, 1) := by decide +kernel
theorem d_Ne_clear_49 : decode (jm_cd mY_Ne_clear) 49 = .ok (.iconst 1, 1) := by decide +kernel
theorem d_Ne_clear_50 : decode (jm_cd mY_Ne_clear) 50 = .ok (.iastore, 1) := by decide +kernel
theorem d_Ne_clear_51 : decode (jm_cd mY_Ne_clear) 51 = .ok (.aload_n 0, 1) := by decide +kernel
theorem d_Ne_clear_52 : decode (jm_cd mY_Ne_clear) 52 = .ok (.getfield 28, 3) := by decide +kernel
theorem d_Ne_clear_55 : decode (jm_cd mY_Ne_clear) 55 = .ok (.iload_n 1, 1) := by decide +kernel
theorem d_Ne_clear_56 : decode (jm_cd mY_Ne_clear) 56 = .ok (.bipush 99, 2) := by decide +kernel
theorem d_Ne_clear_58 : decode (jm_cd mY_Ne_clear) 58 = .ok (.iastore, 1) := by decide +kernel
theorem d_Ne_clear_59 : decode (jm_cd mY_Ne_clear) 59 = .ok (.aload_n 0, 1) := by decide +kernel
theorem d_Ne_clear_60 : decode (jm_cd mY_Ne_clear) 60 = .ok (.getfield 31, 3) := by decide +kernel
theorem d_Ne_clear_63 : decode (jm_cd mY_Ne_clear) 63 = .ok (.iload_n 1, 1) := by decide +kernel
theorem d_Ne_clear_64 : decode (jm_cd mY_Ne_clear) 64 = .ok (.iconst (-1), 1) := by decide +kernel
theorem d_Ne_clear_65 : decode (jm_cd mY_Ne_clear) 65 = .ok (.iastore, 1) := by decide +kernel
theorem d_Ne_clear_66 : decode (jm_cd mY_Ne_clear) 66 = .ok (.aload_n 0, 1) := by decide +kernel
theorem d_Ne_clear_67 : decode (jm_cd mY_Ne_clear) 67 = .ok (.getfield 34, 3) := by decide +kernel
theorem d_Ne_clear_70 : decode (jm_cd mY_Ne_clear) 70 = .ok (.iload_n 1, 1) := by decide +kernel
theorem d_Ne_clear_71 : decode (jm_cd mY_Ne_clear) 71 = .ok (.lconst 0, 1) := by decide +kernel
theorem d_Ne_clear_72 : decode (jm_cd mY_Ne_clear) 72 = .ok (.lastore, 1) := by decide +kernel
theorem d_Ne_clear_73 : decode (jm_cd mY_Ne_clear) 73 = .ok (.aload_n 0, 1) := by decide +kernel
theorem d_Ne_clear_74 : decode (jm_cd mY_Ne_clear) 74 = .ok (.getfield 38, 3) := by decide +kernel
theorem d_Ne_clear_77 : decode (jm_cd mY_Ne_clear) 77 = .ok (.iload_n 1, 1) := by decide +kernel
theorem d_Ne_clear_78 : decode (jm_cd mY_Ne_clear) 78 = .ok (.lconst 0, 1) := by decide +kernel
theorem d_Ne_clear_79 : decode (jm_cd mY_Ne_clear) 79 = .ok (.lastore, 1) := by decide +kernel
theorem d_Ne_clear_80 : decode (jm_cd mY_Ne_clear) 80 = .ok (.iinc 1 1, 3) := by decide +kernel
theorem d_Ne_clear_83 : decode (jm_cd mY_Ne_clear) 83 = .ok (.goto (-66), 3) := by decide +kernel
theorem d_Ne_clear_86 : decode (jm_cd mY_Ne_clear) 86 = .ok (.iconst 0, 1) := by decide +kernel
theorem d_Ne_clear_87 : decode (jm_cd mY_Ne_clear) 87 = .ok (.istore_n 1, 1) := by decide +kernel
theorem d_Ne_clear_88 : decode (jm_cd mY_Ne_clear) 88 = .ok (.iload_n 1, 1) := by decide +kernel
theorem d_Ne_clear_89 : decode (jm_cd mY_Ne_clear) 89 = .ok (.bipush 100, 2) := by decide +kernel
theorem d_Ne_clear_91 : decode (jm_cd mY_Ne_clear) 91 = .ok (.if_icmp .ge 16, 3) := by decide +kernel
theorem d_Ne_clear_94 : decode (jm_cd mY_Ne_clear) 94 = .ok (.aload_n 0, 1) := by decide +kernel
theorem d_Ne_clear_95 : decode (jm_cd mY_Ne_clear) 95 = .ok (.getfield 41, 3) := by decide +kernel
theorem d_Ne_clear_98 : decode (jm_cd mY_Ne_clear) 98 = .ok (.iload_n 1, 1) := by decide +kernel
theorem d_Ne_clear_99 : decode (jm_cd mY_Ne_clear) 99 = .ok (.lconst 0, 1) := by decide +kernel
theorem d_Ne_clear_100 : decode (jm_cd mY_Ne_clear) 100 = .ok (.lastore, 1) := by decide +kernel
theorem d_Ne_clear_101 : decode (jm_cd mY_Ne_clear) 101 = .ok (.iinc 1 1, 3) := by decide +kernel
theorem d_Ne_clear_104 : decode (jm_cd mY_Ne_clear) 104 = .ok (.goto (-16), 3) := by decide +kernel
theorem d_Ne_clear_107 : decode (jm_cd mY_Ne_clear) 107 = .ok (.return_, 1) := by decide +kernel
def s_Ne_clear_5_t26_L88 : Nat → Int32 → jm_M → Option jm_M
  | 0, _, _ => none
  | n + 1, x1, s => (if 100 ≤ x1 then (some s) else jm_stl s 14 100 x1 0 (fun s4 => s_Ne_clear_5_t26_L88 n (x1 + 1) s4))
set_option maxRecDepth 100000 in
set_option maxHeartbeats 4000000 in
theorem s_Ne_clear_5_t26_L88_ok : ∀ (n : Nat) (x1 : Int32) (s : jm_M), jm_Sim mY_Ne_clear 0 0 88 [(0, .ref 5), (1, .int x1)] [] 14 mr_26 s (s_Ne_clear_5_t26_L88 n x1 s) (jm_rV 14 mr_26) := by
  intro n
  induction n with
  | zero => intro x1 s; exact jm_none
  | succ n ih =>
    intro x1 s
    rw [s_Ne_clear_5_t26_L88]
    refine jm_iload_n (pc := 88) (q := 1) (x := x1) d_Ne_clear_88 rfl ?_
    refine jm_bipush (pc := 89) (v := 100) d_Ne_clear_89 cb_100 ?_
    refine jm_icmp_ge (pc := 91) (tgt := 107) d_Ne_clear_91 (by decide) ?_ ?_
    · exact jm_vret (pc := 107) d_Ne_clear_107 rfl rfl rfl rfl
    · refine jm_aload_n (pc := 94) (q := 0) (x := 5) d_Ne_clear_94 rfl ?_
      refine jm_gr (pc := 95) (i := 5) d_Ne_clear_95 fo_Ne_41 sh_5 ge_5 le_5_14 rfl (fun _ => rfl) mr_26_5_9 ge_14 ?_
      refine jm_iload_n (pc := 98) (q := 1) (x := x1) d_Ne_clear_98 rfl ?_
      refine jm_lconst (pc := 99) (v := 0) d_Ne_clear_99 cl_0 ?_
      refine jm_last (pc := 100) d_Ne_clear_100 sh_14 ge_14 le_14_14 (fun s4 => ?_)
      refine jm_iinc (pc := 101) (q := 1) (x := x1) (v := 1) (L2 := [(1, .int (x1 + 1)), (0, .ref 5)]) d_Ne_clear_101 rfl ci_1 (Nat.le_of_ble_eq_true rfl) rfl ?_
      refine jm_goto (pc := 104) (tgt := 88) d_Ne_clear_104 (by decide) ?_
      refine jm_sub (L2 := [(0, .ref 5), (1, .int (x1 + 1))]) [1, 0] rfl ?_
      exact ih (x1 + 1) s4
def s_Ne_clear_5_t26_L17 : Nat → Int32 → jm_M → Option jm_M
  | 0, _, _ => none
  | n + 1, x1, s => (if 10 ≤ x1 then s_Ne_clear_5_t26_L88 5000 0 s else jm_sti s 6 10 x1 (-1) (fun s5 => jm_sti s5 7 10 x1 0 (fun s6 => jm_sti s6 8 10 x1 1 (fun s7 => jm_sti s7 9 10 x1 1 (fun s8 => jm_sti s8 10 10 x1 99 (fun s9 => jm_sti s9 11 10 x1 (-1) (fun s10 => jm_stl s10 12 10 x1 0 (fun s11 => jm_stl s11 13 10 x1 0 (fun s12 => s_Ne_clear_5_t26_L17 n (x1 + 1) s12)))))))))
set_option maxRecDepth 100000 in
set_option maxHeartbeats 4000000 in
theorem s_Ne_clear_5_t26_L17_ok : ∀ (n : Nat) (x1 : Int32) (s : jm_M), jm_Sim mY_Ne_clear 0 0 17 [(0, .ref 5), (1, .int x1)] [] 14 mr_26 s (s_Ne_clear_5_t26_L17 n x1 s) (jm_rV 14 mr_26) := by
  intro n
  induction n with
  | zero => intro x1 s; exact jm_none
  | succ n ih =>
    intro x1 s
    rw [s_Ne_clear_5_t26_L17]
    refine jm_iload_n (pc := 17) (q := 1) (x := x1) d_Ne_clear_17 rfl ?_
    refine jm_bipush (pc := 18) (v := 10) d_Ne_clear_18 cb_10 ?_
    refine jm_icmp_ge (pc := 20) (tgt := 86) d_Ne_clear_20 (by decide) ?_ ?_
    · refine jm_iconst (pc := 86) (v := 0) d_Ne_clear_86 ci_0 ?_
      refine jm_istore_n (pc := 87) (i := 1) (L2 := [(1, .int 0), (0, .ref 5)]) d_Ne_clear_87 rfl (Nat.le_of_ble_eq_true rfl) rfl ?_
      refine jm_sub (L2 := [(0, .ref 5), (1, .int 0)]) [1, 0] rfl ?_
      exact s_Ne_clear_5_t26_L88_ok 5000 0 s
    · refine jm_aload_n (pc := 23) (q := 0) (x := 5) d_Ne_clear_23 rfl ?_
      refine jm_gr (pc := 24) (i := 5) d_Ne_clear_24 fo_Ne_15 sh_5 ge_5 le_5_14 rfl (fun _ => rfl) mr_26_5_1 ge_6 ?_
      refine jm_iload_n (pc := 27) (q := 1) (x := x1) d_Ne_clear_27 rfl ?_
      refine jm_iconst (pc := 28) (v := (-1)) d_Ne_clear_28 ci_m1 ?_
      refine jm_iast (pc := 29) d_Ne_clear_29 sh_6 ge_6 le_6_14 (fun s5 => ?_)
      refine jm_aload_n (pc := 30) (q := 0) (x := 5) d_Ne_clear_30 rfl ?_
      refine jm_gr (pc := 31) (i := 5) d_Ne_clear_31 fo_Ne_19 sh_5 ge_5 le_5_14 rfl (fun _ => rfl) mr_26_5_2 ge_7 ?_
      refine jm_iload_n (pc := 34) (q := 1) (x := x1) d_Ne_clear_34 rfl ?_
      refine jm_iconst (pc := 35) (v := 0) d_Ne_clear_35 ci_0 ?_
      refine jm_iast (pc := 36) d_Ne_clear_36 sh_7 ge_7 le_7_14 (fun s6 => ?_)
      refine jm_aload_n (pc := 37) (q := 0) (x := 5) d_Ne_clear_37 rfl ?_
      refine jm_gr (pc := 38) (i := 5) d_Ne_clear_38 fo_Ne_22 sh_5 ge_5 le_5_14 rfl (fun _ => rfl) mr_26_5_3 ge_8 ?_
      refine jm_iload_n (pc := 41) (q := 1) (x := x1) d_Ne_clear_41 rfl ?_
      refine jm_iconst (pc := 42) (v := 1) d_Ne_clear_42 ci_1 ?_
      refine jm_iast (pc := 43) d_Ne_clear_43 sh_8 ge_8 le_8_14 (fun s7 => ?_)
      refine jm_aload_n (pc := 44) (q := 0) (x := 5) d_Ne_clear_44 rfl ?_
      refine jm_gr (pc := 45) (i := 5) d_Ne_clear_45 fo_Ne_25 sh_5 ge_5 le_5_14 rfl (fun _ => rfl) mr_26_5_4 ge_9 ?_
      refine jm_iload_n (pc := 48) (q := 1) (x := x1) d_Ne_clear_48 rfl ?_
      refine jm_iconst (pc := 49) (v := 1) d_Ne_clear_49 ci_1 ?_
      refine jm_iast (pc := 50) d_Ne_clear_50 sh_9 ge_9 le_9_14 (fun s8 => ?_)
      refine jm_aload_n (pc := 51) (q := 0) (x := 5) d_Ne_clear_51 rfl ?_
      refine jm_gr (pc := 52) (i := 5) d_Ne_clear_52 fo_Ne_28 sh_5 ge_5 le_5_14 rfl (fun _ => rfl) mr_26_5_5 ge_10 ?_
      refine jm_iload_n (pc := 55) (q := 1) (x := x1) d_Ne_clear_55 rfl ?_
      refine jm_bipush (pc := 56) (v := 99) d_Ne_clear_56 cb_99 ?_
      refine jm_iast (pc := 58) d_Ne_clear_58 sh_10 ge_10 le_10_14 (fun s9 => ?_)
      refine jm_aload_n (pc := 59) (q := 0) (x := 5) d_Ne_clear_59 rfl ?_
      refine jm_gr (pc := 60) (i := 5) d_Ne_clear_60 fo_Ne_31 sh_5 ge_5 le_5_14 rfl (fun _ => rfl) mr_26_5_6 ge_11 ?_
      refine jm_iload_n (pc := 63) (q := 1) (x := x1) d_Ne_clear_63 rfl ?_
      refine jm_iconst (pc := 64) (v := (-1)) d_Ne_clear_64 ci_m1 ?_
      refine jm_iast (pc := 65) d_Ne_clear_65 sh_11 ge_11 le_11_14 (fun s10 => ?_)
      refine jm_aload_n (pc := 66) (q := 0) (x := 5) d_Ne_clear_66 rfl ?_
      refine jm_gr (pc := 67) (i := 5) d_Ne_clear_67 fo_Ne_34 sh_5 ge_5 le_5_14 rfl (fun _ => rfl) mr_26_5_7 ge_12 ?_
      refine jm_iload_n (pc := 70) (q := 1) (x := x1) d_Ne_clear_70 rfl ?_
      refine jm_lconst (pc := 71) (v := 0) d_Ne_clear_71 cl_0 ?_
      refine jm_last (pc := 72) d_Ne_clear_72 sh_12 ge_12 le_12_14 (fun s11 => ?_)
      refine jm_aload_n (pc := 73) (q := 0) (x := 5) d_Ne_clear_73 rfl ?_
      refine jm_gr (pc := 74) (i := 5) d_Ne_clear_74 fo_Ne_38 sh_5 ge_5 le_5_14 rfl (fun _ => rfl) mr_26_5_8 ge_13 ?_
      refine jm_iload_n (pc := 77) (q := 1) (x := x1) d_Ne_clear_77 rfl ?_
      refine jm_lconst (pc := 78) (v := 0) d_Ne_clear_78 cl_0 ?_
      refine jm_last (pc := 79) d_Ne_clear_79 sh_13 ge_13 le_13_14 (fun s12 => ?_)
      refine jm_iinc (pc := 80) (q := 1) (x := x1) (v := 1) (L2 := [(1, .int (x1 + 1)), (0, .ref 5)]) d_Ne_clear_80 rfl ci_1 (Nat.le_of_ble_eq_true rfl) rfl ?_
      refine jm_goto (pc := 83) (tgt := 17) d_Ne_clear_83 (by decide) ?_
      refine jm_sub (L2 := [(0, .ref 5), (1, .int (x1 + 1))]) [1, 0] rfl ?_
      exact ih (x1 + 1) s12
def s_Ne_clear_5_t26 (s : jm_M) : Option jm_M := jm_ev (jm_si s 5 0 0) (fun s1 => jm_ev (jm_si s1 5 10 0) (fun s2 => jm_ev (jm_sl s2 5 11 0) (fun s3 => s_Ne_clear_5_t26_L17 5000 0 s3)))
set_option maxRecDepth 100000 in
set_option maxHeartbeats 4000000 in
theorem s_Ne_clear_5_t26_ok (s : jm_M) : jm_Sim mY_Ne_clear 0 0 0 [(0, .ref 5)] [] 14 mr_26 s (s_Ne_clear_5_t26 s) (jm_rV 14 mr_26) := by
  unfold s_Ne_clear_5_t26
  refine jm_aload_n (pc := 0) (q := 0) (x := 5) d_Ne_clear_0 rfl ?_
  refine jm_iconst (pc := 1) (v := 0) d_Ne_clear_1 ci_0 ?_
  refine jm_pi (pc := 2) (i := 5) d_Ne_clear_2 fp_Ne_9 sh_5 ge_5 le_5_14 rfl rfl rfl (fun _ _ _ => rfl) (fun s1 => ?_)
  refine jm_aload_n (pc := 5) (q := 0) (x := 5) d_Ne_clear_5 rfl ?_
  refine jm_iconst (pc := 6) (v := 0) d_Ne_clear_6 ci_0 ?_
  refine jm_pi (pc := 7) (i := 5) d_Ne_clear_7 fp_Ne_44 sh_5 ge_5 le_5_14 rfl rfl rfl (fun _ _ _ => rfl) (fun s2 => ?_)
  refine jm_aload_n (pc := 10) (q := 0) (x := 5) d_Ne_clear_10 rfl ?_
  refine jm_lconst (pc := 11) (v := 0) d_Ne_clear_11 cl_0 ?_
  refine jm_pl (pc := 12) (i := 5) d_Ne_clear_12 fp_Ne_47 sh_5 ge_5 le_5_14 rfl (fun s3 => ?_)
  refine jm_iconst (pc := 15) (v := 0) d_Ne_clear_15 ci_0 ?_
  refine jm_istore_n (pc := 16) (i := 1) (L2 := [(1, .int 0), (0, .ref 5)]) d_Ne_clear_16 rfl (Nat.le_of_ble_eq_true rfl) rfl ?_
  refine jm_sub (L2 := [(0, .ref 5), (1, .int 0)]) [1, 0] rfl ?_
  exact s_Ne_clear_5_t26_L17_ok 5000 0 s3
theorem d_Ne_init_0 : decode (jm_cd mY_Ne_init) 0 = .ok (.aload_n 0, 1) := by decide +kernel
theorem d_Ne_init_1 : decode (jm_cd mY_Ne_init) 1 = .ok (.invokespecial 3, 3) := by decide +kernel
theorem d_Ne_init_4 : decode (jm_cd mY_Ne_init) 4 = .ok (.aload_n 0, 1) := by decide +kernel
theorem d_Ne_init_5 : decode (jm_cd mY_Ne_init) 5 = .ok (.iconst 0, 1) := by decide +kernel
theorem d_Ne_init_6 : decode (jm_cd mY_Ne_init) 6 = .ok (.putfield 9, 3) := by decide +kernel
theorem d_Ne_init_9 : decode (jm_cd mY_Ne_init) 9 = .ok (.aload_n 0, 1) := by decide +kernel
theorem d_Ne_init_10 : decode (jm_cd mY_Ne_init) 10 = .ok (.bipush 10, 2) := by decide +kernel
theorem d_Ne_init_12 : decode (jm_cd mY_Ne_init) 12 = .ok (.newarray .int, 2) := by decide +kernel
theorem d_Ne_init_14 : decode (jm_cd mY_Ne_init) 14 = .ok (.putfield 15, 3) := by decide +kernel
theorem d_Ne_init_17 : decode (jm_cd mY_Ne_init) 17 = .ok (.aload_n 0, 1) := by decide +kernel
theorem d_Ne_init_18 : decode (jm_cd mY_Ne_init) 18 = .ok (.bipush 10, 2) := by decide +kernel
theorem d_Ne_init_20 : decode (jm_cd mY_Ne_init) 20 = .ok (.newarray .int, 2) := by decide +kernel
theorem d_Ne_init_22 : decode (jm_cd mY_Ne_init) 22 = .ok (.putfield 19, 3) := by decide +kernel
theorem d_Ne_init_25 : decode (jm_cd mY_Ne_init) 25 = .ok (.aload_n 0, 1) := by decide +kernel
theorem d_Ne_init_26 : decode (jm_cd mY_Ne_init) 26 = .ok (.bipush 10, 2) := by decide +kernel
theorem d_Ne_init_28 : decode (jm_cd mY_Ne_init) 28 = .ok (.newarray .int, 2) := by decide +kernel
theorem d_Ne_init_30 : decode (jm_cd mY_Ne_init) 30 = .ok (.putfield 22, 3) := by decide +kernel
theorem d_Ne_init_33 : decode (jm_cd mY_Ne_init) 33 = .ok (.aload_n 0, 1) := by decide +kernel
theorem d_Ne_init_34 : decode (jm_cd mY_Ne_init) 34 = .ok (.bipush 10, 2) := by decide +kernel
theorem d_Ne_init_36 : decode (jm_cd mY_Ne_init) 36 = .ok (.newarray .int, 2) := by decide +kernel
theorem d_Ne_init_38 : decode (jm_cd mY_Ne_init) 38 = .ok (.putfield 25, 3) := by decide +kernel
theorem d_Ne_init_41 : decode (jm_cd mY_Ne_init) 41 = .ok (.aload_n 0, 1) := by decide +kernel
theorem d_Ne_init_42 : decode (jm_cd mY_Ne_init) 42 = .ok (.bipush 10, 2) := by decide +kernel
theorem d_Ne_init_44 : decode (jm_cd mY_Ne_init) 44 = .ok (.newarray .int, 2) := by decide +kernel
theorem d_Ne_init_46 : decode (jm_cd mY_Ne_init) 46 = .ok (.putfield 28, 3) := by decide +kernel
theorem d_Ne_init_49 : decode (jm_cd mY_Ne_init) 49 = .ok (.aload_n 0, 1) := by decide +kernel
theorem d_Ne_init_50 : decode (jm_cd mY_Ne_init) 50 = .ok (.bipush 10, 2) := by decide +kernel
theorem d_Ne_init_52 : decode (jm_cd mY_Ne_init) 52 = .ok (.newarray .int, 2) := by decide +kernel
theorem d_Ne_init_54 : decode (jm_cd mY_Ne_init) 54 = .ok (.putfield 31, 3) := by decide +kernel
theorem d_Ne_init_57 : decode (jm_cd mY_Ne_init) 57 = .ok (.aload_n 0, 1) := by decide +kernel
theorem d_Ne_init_58 : decode (jm_cd mY_Ne_init) 58 = .ok (.bipush 10, 2) := by decide +kernel
theorem d_Ne_init_60 : decode (jm_cd mY_Ne_init) 60 = .ok (.newarray .long, 2) := by decide +kernel
theorem d_Ne_init_62 : decode (jm_cd mY_Ne_init) 62 = .ok (.putfield 34, 3) := by decide +kernel
theorem d_Ne_init_65 : decode (jm_cd mY_Ne_init) 65 = .ok (.aload_n 0, 1) := by decide +kernel
theorem d_Ne_init_66 : decode (jm_cd mY_Ne_init) 66 = .ok (.bipush 10, 2) := by decide +kernel
theorem d_Ne_init_68 : decode (jm_cd mY_Ne_init) 68 = .ok (.newarray .long, 2) := by decide +kernel
theorem d_Ne_init_70 : decode (jm_cd mY_Ne_init) 70 = .ok (.putfield 38, 3) := by decide +kernel
theorem d_Ne_init_73 : decode (jm_cd mY_Ne_init) 73 = .ok (.aload_n 0, 1) := by decide +kernel
theorem d_Ne_init_74 : decode (jm_cd mY_Ne_init) 74 = .ok (.bipush 100, 2) := by decide +kernel
theorem d_Ne_init_76 : decode (jm_cd mY_Ne_init) 76 = .ok (.newarray .long, 2) := by decide +kernel
theorem d_Ne_init_78 : decode (jm_cd mY_Ne_init) 78 = .ok (.putfield 41, 3) := by decide +kernel
theorem d_Ne_init_81 : decode (jm_cd mY_Ne_init) 81 = .ok (.aload_n 0, 1) := by decide +kernel
theorem d_Ne_init_82 : decode (jm_cd mY_Ne_init) 82 = .ok (.iconst 0, 1) := by decide +kernel
theorem d_Ne_init_83 : decode (jm_cd mY_Ne_init) 83 = .ok (.putfield 44, 3) := by decide +kernel
theorem d_Ne_init_86 : decode (jm_cd mY_Ne_init) 86 = .ok (.aload_n 0, 1) := by decide +kernel
theorem d_Ne_init_87 : decode (jm_cd mY_Ne_init) 87 = .ok (.lconst 0, 1) := by decide +kernel
theorem d_Ne_init_88 : decode (jm_cd mY_Ne_init) 88 = .ok (.putfield 47, 3) := by decide +kernel
theorem d_Ne_init_91 : decode (jm_cd mY_Ne_init) 91 = .ok (.aload_n 0, 1) := by decide +kernel
theorem d_Ne_init_92 : decode (jm_cd mY_Ne_init) 92 = .ok (.invokevirtual 51, 3) := by decide +kernel
theorem d_Ne_init_95 : decode (jm_cd mY_Ne_init) 95 = .ok (.return_, 1) := by decide +kernel
def s_Ne_init_5 (s : jm_M) : Option jm_M := jm_ev (jm_si s 5 0 0) (fun s1 => jm_ev (jm_z s1 6) (fun s2 => jm_ev (jm_z s2 7) (fun s3 => jm_ev (jm_z s3 8) (fun s4 => jm_ev (jm_z s4 9) (fun s5 => jm_ev (jm_z s5 10) (fun s6 => jm_ev (jm_z s6 11) (fun s7 => jm_ev (jm_z s7 12) (fun s8 => jm_ev (jm_z s8 13) (fun s9 => jm_ev (jm_z s9 14) (fun s10 => jm_ev (jm_si s10 5 10 0) (fun s11 => jm_ev (jm_sl s11 5 11 0) (fun s12 => jm_bd (s_Ne_clear_5_t26 s12) (fun s13 => (some s13))))))))))))))
set_option maxRecDepth 100000 in
set_option maxHeartbeats 4000000 in
theorem s_Ne_init_5_ok (s : jm_M) : jm_Sim mY_Ne_init 0 0 0 [(0, .ref 5)] [] 5 mr_8 s (s_Ne_init_5 s) (jm_rV 14 mr_26) := by
  unfold s_Ne_init_5
  refine jm_aload_n (pc := 0) (q := 0) (x := 5) d_Ne_init_0 rfl ?_
  refine jm_oinit (pc := 1) d_Ne_init_1 mlo_Ne_3 oi_im oi_cd (Nat.le_of_ble_eq_true rfl) (Nat.le_of_ble_eq_true rfl) ?_
  refine jm_aload_n (pc := 4) (q := 0) (x := 5) d_Ne_init_4 rfl ?_
  refine jm_iconst (pc := 5) (v := 0) d_Ne_init_5 ci_0 ?_
  refine jm_pi (pc := 6) (i := 5) d_Ne_init_6 fp_Ne_9 sh_5 ge_5 le_5_5 rfl rfl rfl (fun _ _ _ => rfl) (fun s1 => ?_)
  refine jm_aload_n (pc := 9) (q := 0) (x := 5) d_Ne_init_9 rfl ?_
  refine jm_bipush (pc := 10) (v := 10) d_Ne_init_10 cb_10 ?_
  refine jm_nai (pc := 12) (N := 10) d_Ne_init_12 ac_int (by decide) (by decide) (by decide) sh_6 (Nat.le_of_ble_eq_true rfl) (Nat.le_of_ble_eq_true rfl) (fun s2 => ?_)
  show jm_Sim _ 1 10 14 [(0, .ref 5)] [.ref 6, .ref 5] 6 mr_9 s2 _ _
  refine jm_pr (pc := 14) (i := 5) (q := 6) d_Ne_init_14 fp_Ne_15 (fun _ => rfl) sh_5 ge_5 le_5_6 ge_6 rfl (fun _ => rfl) (fun _ => rfl) (fun _ _ _ => rfl) ?_
  refine jm_aload_n (pc := 17) (q := 0) (x := 5) d_Ne_init_17 rfl ?_
  refine jm_bipush (pc := 18) (v := 10) d_Ne_init_18 cb_10 ?_
  refine jm_nai (pc := 20) (N := 10) d_Ne_init_20 ac_int (by decide) (by decide) (by decide) sh_7 (Nat.le_of_ble_eq_true rfl) (Nat.le_of_ble_eq_true rfl) (fun s3 => ?_)
  show jm_Sim _ 2 20 22 [(0, .ref 5)] [.ref 7, .ref 5] 7 mr_11 s3 _ _
  refine jm_pr (pc := 22) (i := 5) (q := 7) d_Ne_init_22 fp_Ne_19 (fun _ => rfl) sh_5 ge_5 le_5_7 ge_7 rfl (fun _ => rfl) (fun _ => rfl) (fun _ _ _ => rfl) ?_
  refine jm_aload_n (pc := 25) (q := 0) (x := 5) d_Ne_init_25 rfl ?_
  refine jm_bipush (pc := 26) (v := 10) d_Ne_init_26 cb_10 ?_
  refine jm_nai (pc := 28) (N := 10) d_Ne_init_28 ac_int (by decide) (by decide) (by decide) sh_8 (Nat.le_of_ble_eq_true rfl) (Nat.le_of_ble_eq_true rfl) (fun s4 => ?_)
  show jm_Sim _ 3 30 30 [(0, .ref 5)] [.ref 8, .ref 5] 8 mr_13 s4 _ _
  refine jm_pr (pc := 30) (i := 5) (q := 8) d_Ne_init_30 fp_Ne_22 (fun _ => rfl) sh_5 ge_5 le_5_8 ge_8 rfl (fun _ => rfl) (fun _ => rfl) (fun _ _ _ => rfl) ?_
  refine jm_aload_n (pc := 33) (q := 0) (x := 5) d_Ne_init_33 rfl ?_
  refine jm_bipush (pc := 34) (v := 10) d_Ne_init_34 cb_10 ?_
  refine jm_nai (pc := 36) (N := 10) d_Ne_init_36 ac_int (by decide) (by decide) (by decide) sh_9 (Nat.le_of_ble_eq_true rfl) (Nat.le_of_ble_eq_true rfl) (fun s5 => ?_)
  show jm_Sim _ 4 40 38 [(0, .ref 5)] [.ref 9, .ref 5] 9 mr_15 s5 _ _
  refine jm_pr (pc := 38) (i := 5) (q := 9) d_Ne_init_38 fp_Ne_25 (fun _ => rfl) sh_5 ge_5 le_5_9 ge_9 rfl (fun _ => rfl) (fun _ => rfl) (fun _ _ _ => rfl) ?_
  refine jm_aload_n (pc := 41) (q := 0) (x := 5) d_Ne_init_41 rfl ?_
  refine jm_bipush (pc := 42) (v := 10) d_Ne_init_42 cb_10 ?_
  refine jm_nai (pc := 44) (N := 10) d_Ne_init_44 ac_int (by decide) (by decide) (by decide) sh_10 (Nat.le_of_ble_eq_true rfl) (Nat.le_of_ble_eq_true rfl) (fun s6 => ?_)
  show jm_Sim _ 5 50 46 [(0, .ref 5)] [.ref 10, .ref 5] 10 mr_17 s6 _ _
  refine jm_pr (pc := 46) (i := 5) (q := 10) d_Ne_init_46 fp_Ne_28 (fun _ => rfl) sh_5 ge_5 le_5_10 ge_10 rfl (fun _ => rfl) (fun _ => rfl) (fun _ _ _ => rfl) ?_
  refine jm_aload_n (pc := 49) (q := 0) (x := 5) d_Ne_init_49 rfl ?_
  refine jm_bipush (pc := 50) (v := 10) d_Ne_init_50 cb_10 ?_
  refine jm_nai (pc := 52) (N := 10) d_Ne_init_52 ac_int (by decide) (by decide) (by decide) sh_11 (Nat.le_of_ble_eq_true rfl) (Nat.le_of_ble_eq_true rfl) (fun s7 => ?_)
  show jm_Sim _ 6 60 54 [(0, .ref 5)] [.ref 11, .ref 5] 11 mr_19 s7 _ _
  refine jm_pr (pc := 54) (i := 5) (q := 11) d_Ne_init_54 fp_Ne_31 (fun _ => rfl) sh_5 ge_5 le_5_11 ge_11 rfl (fun _ => rfl) (fun _ => rfl) (fun _ _ _ => rfl) ?_
  refine jm_aload_n (pc := 57) (q := 0) (x := 5) d_Ne_init_57 rfl ?_
  refine jm_bipush (pc := 58) (v := 10) d_Ne_init_58 cb_10 ?_
  refine jm_nal (pc := 60) (N := 10) d_Ne_init_60 ac_long (by decide) (by decide) (by decide) sh_12 (Nat.le_of_ble_eq_true rfl) (Nat.le_of_ble_eq_true rfl) (fun s8 => ?_)
  show jm_Sim _ 7 70 62 [(0, .ref 5)] [.ref 12, .ref 5] 12 mr_21 s8 _ _
  refine jm_pr (pc := 62) (i := 5) (q := 12) d_Ne_init_62 fp_Ne_34 (fun _ => rfl) sh_5 ge_5 le_5_12 ge_12 rfl (fun _ => rfl) (fun _ => rfl) (fun _ _ _ => rfl) ?_
  refine jm_aload_n (pc := 65) (q := 0) (x := 5) d_Ne_init_65 rfl ?_
  refine jm_bipush (pc := 66) (v := 10) d_Ne_init_66 cb_10 ?_
  refine jm_nal (pc := 68) (N := 10) d_Ne_init_68 ac_long (by decide) (by decide) (by decide) sh_13 (Nat.le_of_ble_eq_true rfl) (Nat.le_of_ble_eq_true rfl) (fun s9 => ?_)
  show jm_Sim _ 8 80 70 [(0, .ref 5)] [.ref 13, .ref 5] 13 mr_23 s9 _ _
  refine jm_pr (pc := 70) (i := 5) (q := 13) d_Ne_init_70 fp_Ne_38 (fun _ => rfl) sh_5 ge_5 le_5_13 ge_13 rfl (fun _ => rfl) (fun _ => rfl) (fun _ _ _ => rfl) ?_
  refine jm_aload_n (pc := 73) (q := 0) (x := 5) d_Ne_init_73 rfl ?_
  refine jm_bipush (pc := 74) (v := 100) d_Ne_init_74 cb_100 ?_
  refine jm_nal (pc := 76) (N := 100) d_Ne_init_76 ac_long (by decide) (by decide) (by decide) sh_14 (Nat.le_of_ble_eq_true rfl) (Nat.le_of_ble_eq_true rfl) (fun s10 => ?_)
  show jm_Sim _ 9 180 78 [(0, .ref 5)] [.ref 14, .ref 5] 14 mr_25 s10 _ _
  refine jm_pr (pc := 78) (i := 5) (q := 14) d_Ne_init_78 fp_Ne_41 (fun _ => rfl) sh_5 ge_5 le_5_14 ge_14 rfl (fun _ => rfl) (fun _ => rfl) (fun _ _ _ => rfl) ?_
  refine jm_aload_n (pc := 81) (q := 0) (x := 5) d_Ne_init_81 rfl ?_
  refine jm_iconst (pc := 82) (v := 0) d_Ne_init_82 ci_0 ?_
  refine jm_pi (pc := 83) (i := 5) d_Ne_init_83 fp_Ne_44 sh_5 ge_5 le_5_14 rfl rfl rfl (fun _ _ _ => rfl) (fun s11 => ?_)
  refine jm_aload_n (pc := 86) (q := 0) (x := 5) d_Ne_init_86 rfl ?_
  refine jm_lconst (pc := 87) (v := 0) d_Ne_init_87 cl_0 ?_
  refine jm_pl (pc := 88) (i := 5) d_Ne_init_88 fp_Ne_47 sh_5 ge_5 le_5_14 rfl (fun s12 => ?_)
  refine jm_aload_n (pc := 91) (q := 0) (x := 5) d_Ne_init_91 rfl ?_
  refine jm_Vv (pc := 92) (Y' := mY_Ne_clear) (i := 5) (avs := []) (rest := []) (s_Ne_clear_5_t26_ok s12) ok_Ne_clear l0_Ne_init__Ne_clear ml_Ne_51 im_Ne_clear se_Ne_clear d_Ne_init_92 rfl sh_5 rfl rfl ge_5 le_5_14 rfl (Nat.le_of_ble_eq_true rfl) (Nat.le_of_ble_eq_true rfl) (Nat.le_of_ble_eq_true rfl) (Nat.le_of_ble_eq_true rfl) (fun s13 => ?_)
  exact jm_vret (pc := 95) d_Ne_init_95 rfl rfl rfl rfl
def s_Ne_clear_15_t46_L88 : Nat → Int32 → jm_M → Option jm_M
  | 0, _, _ => none
  | n + 1, x1, s => (if 100 ≤ x1 then (some s) else jm_stl s 24 100 x1 0 (fun s4 => s_Ne_clear_15_t46_L88 n (x1 + 1) s4))
set_option maxRecDepth 100000 in
set_option maxHeartbeats 4000000 in
theorem s_Ne_clear_15_t46_L88_ok : ∀ (n : Nat) (x1 : Int32) (s : jm_M), jm_Sim mY_Ne_clear 0 0 88 [(0, .ref 15), (1, .int x1)] [] 24 mr_46 s (s_Ne_clear_15_t46_L88 n x1 s) (jm_rV 24 mr_46) := by
  intro n
  induction n with
  | zero => intro x1 s; exact jm_none
  | succ n ih =>
    intro x1 s
    rw [s_Ne_clear_15_t46_L88]
    refine jm_iload_n (pc := 88) (q := 1) (x := x1) d_Ne_clear_88 rfl ?_
    refine jm_bipush (pc := 89) (v := 100) d_Ne_clear_89 cb_100 ?_
    refine jm_icmp_ge (pc := 91) (tgt := 107) d_Ne_clear_91 (by decide) ?_ ?_
    · exact jm_vret (pc := 107) d_Ne_clear_107 rfl rfl rfl rfl
    · refine jm_aload_n (pc := 94) (q := 0) (x := 15) d_Ne_clear_94 rfl ?_
      refine jm_gr (pc := 95) (i := 15) d_Ne_clear_95 fo_Ne_41 sh_15 ge_15 le_15_24 rfl (fun _ => rfl) mr_46_15_9 ge_24 ?_
      refine jm_iload_n (pc := 98) (q := 1) (x := x1) d_Ne_clear_98 rfl ?_
      refine jm_lconst (pc := 99) (v := 0) d_Ne_clear_99 cl_0 ?_
      refine jm_last (pc := 100) d_Ne_clear_100 sh_24 ge_24 le_24_24 (fun s4 => ?_)
      refine jm_iinc (pc := 101) (q := 1) (x := x1) (v := 1) (L2 := [(1, .int (x1 + 1)), (0, .ref 15)]) d_Ne_clear_101 rfl ci_1 (Nat.le_of_ble_eq_true rfl) rfl ?_
      refine jm_goto (pc := 104) (tgt := 88) d_Ne_clear_104 (by decide) ?_
      refine jm_sub (L2 := [(0, .ref 15), (1, .int (x1 + 1))]) [1, 0] rfl ?_
      exact ih (x1 + 1) s4
def s_Ne_clear_15_t46_L17 : Nat → Int32 → jm_M → Option jm_M
  | 0, _, _ => none
  | n + 1, x1, s => (if 10 ≤ x1 then s_Ne_clear_15_t46_L88 5000 0 s else jm_sti s 16 10 x1 (-1) (fun s5 => jm_sti s5 17 10 x1 0 (fun s6 => jm_sti s6 18 10 x1 1 (fun s7 => jm_sti s7 19 10 x1 1 (fun s8 => jm_sti s8 20 10 x1 99 (fun s9 => jm_sti s9 21 10 x1 (-1) (fun s10 => jm_stl s10 22 10 x1 0 (fun s11 => jm_stl s11 23 10 x1 0 (fun s12 => s_Ne_clear_15_t46_L17 n (x1 + 1) s12)))))))))
set_option maxRecDepth 100000 in
set_option maxHeartbeats 4000000 in
theorem s_Ne_clear_15_t46_L17_ok : ∀ (n : Nat) (x1 : Int32) (s : jm_M), jm_Sim mY_Ne_clear 0 0 17 [(0, .ref 15), (1, .int x1)] [] 24 mr_46 s (s_Ne_clear_15_t46_L17 n x1 s) (jm_rV 24 mr_46) := by
  intro n
  induction n with
  | zero => intro x1 s; exact jm_none
  | succ n ih =>
    intro x1 s
    rw [s_Ne_clear_15_t46_L17]
    refine jm_iload_n (pc := 17) (q := 1) (x := x1) d_Ne_clear_17 rfl ?_
    refine jm_bipush (pc := 18) (v := 10) d_Ne_clear_18 cb_10 ?_
    refine jm_icmp_ge (pc := 20) (tgt := 86) d_Ne_clear_20 (by decide) ?_ ?_
    · refine jm_iconst (pc := 86) (v := 0) d_Ne_clear_86 ci_0 ?_
      refine jm_istore_n (pc := 87) (i := 1) (L2 := [(1, .int 0), (0, .ref 15)]) d_Ne_clear_87 rfl (Nat.le_of_ble_eq_true rfl) rfl ?_
      refine jm_sub (L2 := [(0, .ref 15), (1, .int 0)]) [1, 0] rfl ?_
      exact s_Ne_clear_15_t46_L88_ok 5000 0 s
    · refine jm_aload_n (pc := 23) (q := 0) (x := 15) d_Ne_clear_23 rfl ?_
      refine jm_gr (pc := 24) (i := 15) d_Ne_clear_24 fo_Ne_15 sh_15 ge_15 le_15_24 rfl (fun _ => rfl) mr_46_15_1 ge_16 ?_
      refine jm_iload_n (pc := 27) (q := 1) (x := x1) d_Ne_clear_27 rfl ?_
      refine jm_iconst (pc := 28) (v := (-1)) d_Ne_clear_28 ci_m1 ?_
      refine jm_iast (pc := 29) d_Ne_clear_29 sh_16 ge_16 le_16_24 (fun s5 => ?_)
      refine jm_aload_n (pc := 30) (q := 0) (x := 15) d_Ne_clear_30 rfl ?_
      refine jm_gr (pc := 31) (i := 15) d_Ne_clear_31 fo_Ne_19 sh_15 ge_15 le_15_24 rfl (fun _ => rfl) mr_46_15_2 ge_17 ?_
      refine jm_iload_n (pc := 34) (q := 1) (x := x1) d_Ne_clear_34 rfl ?_
      refine jm_iconst (pc := 35) (v := 0) d_Ne_clear_35 ci_0 ?_
      refine jm_iast (pc := 36) d_Ne_clear_36 sh_17 ge_17 le_17_24 (fun s6 => ?_)
      refine jm_aload_n (pc := 37) (q := 0) (x := 15) d_Ne_clear_37 rfl ?_
      refine jm_gr (pc := 38) (i := 15) d_Ne_clear_38 fo_Ne_22 sh_15 ge_15 le_15_24 rfl (fun _ => rfl) mr_46_15_3 ge_18 ?_
      refine jm_iload_n (pc := 41) (q := 1) (x := x1) d_Ne_clear_41 rfl ?_
      refine jm_iconst (pc := 42) (v := 1) d_Ne_clear_42 ci_1 ?_
      refine jm_iast (pc := 43) d_Ne_clear_43 sh_18 ge_18 le_18_24 (fun s7 => ?_)
      refine jm_aload_n (pc := 44) (q := 0) (x := 15) d_Ne_clear_44 rfl ?_
      refine jm_gr (pc := 45) (i := 15) d_Ne_clear_45 fo_Ne_25 sh_15 ge_15 le_15_24 rfl (fun _ => rfl) mr_46_15_4 ge_19 ?_
      refine jm_iload_n (pc := 48) (q := 1) (x := x1) d_Ne_clear_48 rfl ?_
      refine jm_iconst (pc := 49) (v := 1) d_Ne_clear_49 ci_1 ?_
      refine jm_iast (pc := 50) d_Ne_clear_50 sh_19 ge_19 le_19_24 (fun s8 => ?_)
      refine jm_aload_n (pc := 51) (q := 0) (x := 15) d_Ne_clear_51 rfl ?_
      refine jm_gr (pc := 52) (i := 15) d_Ne_clear_52 fo_Ne_28 sh_15 ge_15 le_15_24 rfl (fun _ => rfl) mr_46_15_5 ge_20 ?_
      refine jm_iload_n (pc := 55) (q := 1) (x := x1) d_Ne_clear_55 rfl ?_
      refine jm_bipush (pc := 56) (v := 99) d_Ne_clear_56 cb_99 ?_
      refine jm_iast (pc := 58) d_Ne_clear_58 sh_20 ge_20 le_20_24 (fun s9 => ?_)
      refine jm_aload_n (pc := 59) (q := 0) (x := 15) d_Ne_clear_59 rfl ?_
      refine jm_gr (pc := 60) (i := 15) d_Ne_clear_60 fo_Ne_31 sh_15 ge_15 le_15_24 rfl (fun _ => rfl) mr_46_15_6 ge_21 ?_
      refine jm_iload_n (pc := 63) (q := 1) (x := x1) d_Ne_clear_63 rfl ?_
      refine jm_iconst (pc := 64) (v := (-1)) d_Ne_clear_64 ci_m1 ?_
      refine jm_iast (pc := 65) d_Ne_clear_65 sh_21 ge_21 le_21_24 (fun s10 => ?_)
      refine jm_aload_n (pc := 66) (q := 0) (x := 15) d_Ne_clear_66 rfl ?_
      refine jm_gr (pc := 67) (i := 15) d_Ne_clear_67 fo_Ne_34 sh_15 ge_15 le_15_24 rfl (fun _ => rfl) mr_46_15_7 ge_22 ?_
      refine jm_iload_n (pc := 70) (q := 1) (x := x1) d_Ne_clear_70 rfl ?_
      refine jm_lconst (pc := 71) (v := 0) d_Ne_clear_71 cl_0 ?_
      refine jm_last (pc := 72) d_Ne_clear_72 sh_22 ge_22 le_22_24 (fun s11 => ?_)
      refine jm_aload_n (pc := 73) (q := 0) (x := 15) d_Ne_clear_73 rfl ?_
      refine jm_gr (pc := 74) (i := 15) d_Ne_clear_74 fo_Ne_38 sh_15 ge_15 le_15_24 rfl (fun _ => rfl) mr_46_15_8 ge_23 ?_
      refine jm_iload_n (pc := 77) (q := 1) (x := x1) d_Ne_clear_77 rfl ?_
      refine jm_lconst (pc := 78) (v := 0) d_Ne_clear_78 cl_0 ?_
      refine jm_last (pc := 79) d_Ne_clear_79 sh_23 ge_23 le_23_24 (fun s12 => ?_)
      refine jm_iinc (pc := 80) (q := 1) (x := x1) (v := 1) (L2 := [(1, .int (x1 + 1)), (0, .ref 15)]) d_Ne_clear_80 rfl ci_1 (Nat.le_of_ble_eq_true rfl) rfl ?_
      refine jm_goto (pc := 83) (tgt := 17) d_Ne_clear_83 (by decide) ?_
      refine jm_sub (L2 := [(0, .ref 15), (1, .int (x1 + 1))]) [1, 0] rfl ?_
      exact ih (x1 + 1) s12
def s_Ne_clear_15_t46 (s : jm_M) : Option jm_M := jm_ev (jm_si s 15 0 0) (fun s1 => jm_ev (jm_si s1 15 10 0) (fun s2 => jm_ev (jm_sl s2 15 11 0) (fun s3 => s_Ne_clear_15_t46_L17 5000 0 s3)))
set_option maxRecDepth 100000 in
set_option maxHeartbeats 4000000 in
theorem s_Ne_clear_15_t46_ok (s : jm_M) : jm_Sim mY_Ne_clear 0 0 0 [(0, .ref 15)] [] 24 mr_46 s (s_Ne_clear_15_t46 s) (jm_rV 24 mr_46) := by
  unfold s_Ne_clear_15_t46
  refine jm_aload_n (pc := 0) (q := 0) (x := 15) d_Ne_clear_0 rfl ?_
  refine jm_iconst (pc := 1) (v := 0) d_Ne_clear_1 ci_0 ?_
  refine jm_pi (pc := 2) (i := 15) d_Ne_clear_2 fp_Ne_9 sh_15 ge_15 le_15_24 rfl rfl rfl (fun _ _ _ => rfl) (fun s1 => ?_)
  refine jm_aload_n (pc := 5) (q := 0) (x := 15) d_Ne_clear_5 rfl ?_
  refine jm_iconst (pc := 6) (v := 0) d_Ne_clear_6 ci_0 ?_
  refine jm_pi (pc := 7) (i := 15) d_Ne_clear_7 fp_Ne_44 sh_15 ge_15 le_15_24 rfl rfl rfl (fun _ _ _ => rfl) (fun s2 => ?_)
  refine jm_aload_n (pc := 10) (q := 0) (x := 15) d_Ne_clear_10 rfl ?_
  refine jm_lconst (pc := 11) (v := 0) d_Ne_clear_11 cl_0 ?_
  refine jm_pl (pc := 12) (i := 15) d_Ne_clear_12 fp_Ne_47 sh_15 ge_15 le_15_24 rfl (fun s3 => ?_)
  refine jm_iconst (pc := 15) (v := 0) d_Ne_clear_15 ci_0 ?_
  refine jm_istore_n (pc := 16) (i := 1) (L2 := [(1, .int 0), (0, .ref 15)]) d_Ne_clear_16 rfl (Nat.le_of_ble_eq_true rfl) rfl ?_
  refine jm_sub (L2 := [(0, .ref 15), (1, .int 0)]) [1, 0] rfl ?_
  exact s_Ne_clear_15_t46_L17_ok 5000 0 s3
def s_Ne_init_15 (s : jm_M) : Option jm_M := jm_ev (jm_si s 15 0 0) (fun s1 => jm_ev (jm_z s1 16) (fun s2 => jm_ev (jm_z s2 17) (fun s3 => jm_ev (jm_z s3 18) (fun s4 => jm_ev (jm_z s4 19) (fun s5 => jm_ev (jm_z s5 20) (fun s6 => jm_ev (jm_z s6 21) (fun s7 => jm_ev (jm_z s7 22) (fun s8 => jm_ev (jm_z s8 23) (fun s9 => jm_ev (jm_z s9 24) (fun s10 => jm_ev (jm_si s10 15 10 0) (fun s11 => jm_ev (jm_sl s11 15 11 0) (fun s12 => jm_bd (s_Ne_clear_15_t46 s12) (fun s13 => (some s13))))))))))))))
set_option maxRecDepth 100000 in
set_option maxHeartbeats 4000000 in
theorem s_Ne_init_15_ok (s : jm_M) : jm_Sim mY_Ne_init 0 0 0 [(0, .ref 15)] [] 15 mr_28 s (s_Ne_init_15 s) (jm_rV 24 mr_46) := by
  unfold s_Ne_init_15
  refine jm_aload_n (pc := 0) (q := 0) (x := 15) d_Ne_init_0 rfl ?_
  refine jm_oinit (pc := 1) d_Ne_init_1 mlo_Ne_3 oi_im oi_cd (Nat.le_of_ble_eq_true rfl) (Nat.le_of_ble_eq_true rfl) ?_
  refine jm_aload_n (pc := 4) (q := 0) (x := 15) d_Ne_init_4 rfl ?_
  refine jm_iconst (pc := 5) (v := 0) d_Ne_init_5 ci_0 ?_
  refine jm_pi (pc := 6) (i := 15) d_Ne_init_6 fp_Ne_9 sh_15 ge_15 le_15_15 rfl rfl rfl (fun _ _ _ => rfl) (fun s1 => ?_)
  refine jm_aload_n (pc := 9) (q := 0) (x := 15) d_Ne_init_9 rfl ?_
  refine jm_bipush (pc := 10) (v := 10) d_Ne_init_10 cb_10 ?_
  refine jm_nai (pc := 12) (N := 10) d_Ne_init_12 ac_int (by decide) (by decide) (by decide) sh_16 (Nat.le_of_ble_eq_true rfl) (Nat.le_of_ble_eq_true rfl) (fun s2 => ?_)
  show jm_Sim _ 1 10 14 [(0, .ref 15)] [.ref 16, .ref 15] 16 mr_29 s2 _ _
  refine jm_pr (pc := 14) (i := 15) (q := 16) d_Ne_init_14 fp_Ne_15 (fun _ => rfl) sh_15 ge_15 le_15_16 ge_16 rfl (fun _ => rfl) (fun _ => rfl) (fun _ _ _ => rfl) ?_
  refine jm_aload_n (pc := 17) (q := 0) (x := 15) d_Ne_init_17 rfl ?_
  refine jm_bipush (pc := 18) (v := 10) d_Ne_init_18 cb_10 ?_
  refine jm_nai (pc := 20) (N := 10) d_Ne_init_20 ac_int (by decide) (by decide) (by decide) sh_17 (Nat.le_of_ble_eq_true rfl) (Nat.le_of_ble_eq_true rfl) (fun s3 => ?_)
  show jm_Sim _ 2 20 22 [(0, .ref 15)] [.ref 17, .ref 15] 17 mr_31 s3 _ _
  refine jm_pr (pc := 22) (i := 15) (q := 17) d_Ne_init_22 fp_Ne_19 (fun _ => rfl) sh_15 ge_15 le_15_17 ge_17 rfl (fun _ => rfl) (fun _ => rfl) (fun _ _ _ => rfl) ?_
  refine jm_aload_n (pc := 25) (q := 0) (x := 15) d_Ne_init_25 rfl ?_
  refine jm_bipush (pc := 26) (v := 10) d_Ne_init_26 cb_10 ?_
  refine jm_nai (pc := 28) (N := 10) d_Ne_init_28 ac_int (by decide) (by decide) (by decide) sh_18 (Nat.le_of_ble_eq_true rfl) (Nat.le_of_ble_eq_true rfl) (fun s4 => ?_)
  show jm_Sim _ 3 30 30 [(0, .ref 15)] [.ref 18, .ref 15] 18 mr_33 s4 _ _
  refine jm_pr (pc := 30) (i := 15) (q := 18) d_Ne_init_30 fp_Ne_22 (fun _ => rfl) sh_15 ge_15 le_15_18 ge_18 rfl (fun _ => rfl) (fun _ => rfl) (fun _ _ _ => rfl) ?_
  refine jm_aload_n (pc := 33) (q := 0) (x := 15) d_Ne_init_33 rfl ?_
  refine jm_bipush (pc := 34) (v := 10) d_Ne_init_34 cb_10 ?_
  refine jm_nai (pc := 36) (N := 10) d_Ne_init_36 ac_int (by decide) (by decide) (by decide) sh_19 (Nat.le_of_ble_eq_true rfl) (Nat.le_of_ble_eq_true rfl) (fun s5 => ?_)
  show jm_Sim _ 4 40 38 [(0, .ref 15)] [.ref 19, .ref 15] 19 mr_35 s5 _ _
  refine jm_pr (pc := 38) (i := 15) (q := 19) d_Ne_init_38 fp_Ne_25 (fun _ => rfl) sh_15 ge_15 le_15_19 ge_19 rfl (fun _ => rfl) (fun _ => rfl) (fun _ _ _ => rfl) ?_
  refine jm_aload_n (pc := 41) (q := 0) (x := 15) d_Ne_init_41 rfl ?_
  refine jm_bipush (pc := 42) (v := 10) d_Ne_init_42 cb_10 ?_
  refine jm_nai (pc := 44) (N := 10) d_Ne_init_44 ac_int (by decide) (by decide) (by decide) sh_20 (Nat.le_of_ble_eq_true rfl) (Nat.le_of_ble_eq_true rfl) (fun s6 => ?_)
  show jm_Sim _ 5 50 46 [(0, .ref 15)] [.ref 20, .ref 15] 20 mr_37 s6 _ _
  refine jm_pr (pc := 46) (i := 15) (q := 20) d_Ne_init_46 fp_Ne_28 (fun _ => rfl) sh_15 ge_15 le_15_20 ge_20 rfl (fun _ => rfl) (fun _ => rfl) (fun _ _ _ => rfl) ?_
  refine jm_aload_n (pc := 49) (q := 0) (x := 15) d_Ne_init_49 rfl ?_
  refine jm_bipush (pc := 50) (v := 10) d_Ne_init_50 cb_10 ?_
  refine jm_nai (pc := 52) (N := 10) d_Ne_init_52 ac_int (by decide) (by decide) (by decide) sh_21 (Nat.le_of_ble_eq_true rfl) (Nat.le_of_ble_eq_true rfl) (fun s7 => ?_)
  show jm_Sim _ 6 60 54 [(0, .ref 15)] [.ref 21, .ref 15] 21 mr_39 s7 _ _
  refine jm_pr (pc := 54) (i := 15) (q := 21) d_Ne_init_54 fp_Ne_31 (fun _ => rfl) sh_15 ge_15 le_15_21 ge_21 rfl (fun _ => rfl) (fun _ => rfl) (fun _ _ _ => rfl) ?_
  refine jm_aload_n (pc := 57) (q := 0) (x := 15) d_Ne_init_57 rfl ?_
  refine jm_bipush (pc := 58) (v := 10) d_Ne_init_58 cb_10 ?_
  refine jm_nal (pc := 60) (N := 10) d_Ne_init_60 ac_long (by decide) (by decide) (by decide) sh_22 (Nat.le_of_ble_eq_true rfl) (Nat.le_of_ble_eq_true rfl) (fun s8 => ?_)
  show jm_Sim _ 7 70 62 [(0, .ref 15)] [.ref 22, .ref 15] 22 mr_41 s8 _ _
  refine jm_pr (pc := 62) (i := 15) (q := 22) d_Ne_init_62 fp_Ne_34 (fun _ => rfl) sh_15 ge_15 le_15_22 ge_22 rfl (fun _ => rfl) (fun _ => rfl) (fun _ _ _ => rfl) ?_
  refine jm_aload_n (pc := 65) (q := 0) (x := 15) d_Ne_init_65 rfl ?_
  refine jm_bipush (pc := 66) (v := 10) d_Ne_init_66 cb_10 ?_
  refine jm_nal (pc := 68) (N := 10) d_Ne_init_68 ac_long (by decide) (by decide) (by decide) sh_23 (Nat.le_of_ble_eq_true rfl) (Nat.le_of_ble_eq_true rfl) (fun s9 => ?_)
  show jm_Sim _ 8 80 70 [(0, .ref 15)] [.ref 23, .ref 15] 23 mr_43 s9 _ _
  refine jm_pr (pc := 70) (i := 15) (q := 23) d_Ne_init_70 fp_Ne_38 (fun _ => rfl) sh_15 ge_15 le_15_23 ge_23 rfl (fun _ => rfl) (fun _ => rfl) (fun _ _ _ => rfl) ?_
  refine jm_aload_n (pc := 73) (q := 0) (x := 15) d_Ne_init_73 rfl ?_
  refine jm_bipush (pc := 74) (v := 100) d_Ne_init_74 cb_100 ?_
  refine jm_nal (pc := 76) (N := 100) d_Ne_init_76 ac_long (by decide) (by decide) (by decide) sh_24 (Nat.le_of_ble_eq_true rfl) (Nat.le_of_ble_eq_true rfl) (fun s10 => ?_)
  show jm_Sim _ 9 180 78 [(0, .ref 15)] [.ref 24, .ref 15] 24 mr_45 s10 _ _
  refine jm_pr (pc := 78) (i := 15) (q := 24) d_Ne_init_78 fp_Ne_41 (fun _ => rfl) sh_15 ge_15 le_15_24 ge_24 rfl (fun _ => rfl) (fun _ => rfl) (fun _ _ _ => rfl) ?_
  refine jm_aload_n (pc := 81) (q := 0) (x := 15) d_Ne_init_81 rfl ?_
  refine jm_iconst (pc := 82) (v := 0) d_Ne_init_82 ci_0 ?_
  refine jm_pi (pc := 83) (i := 15) d_Ne_init_83 fp_Ne_44 sh_15 ge_15 le_15_24 rfl rfl rfl (fun _ _ _ => rfl) (fun s11 => ?_)
  refine jm_aload_n (pc := 86) (q := 0) (x := 15) d_Ne_init_86 rfl ?_
  refine jm_lconst (pc := 87) (v := 0) d_Ne_init_87 cl_0 ?_
  refine jm_pl (pc := 88) (i := 15) d_Ne_init_88 fp_Ne_47 sh_15 ge_15 le_15_24 rfl (fun s12 => ?_)
  refine jm_aload_n (pc := 91) (q := 0) (x := 15) d_Ne_init_91 rfl ?_
  refine jm_Vv (pc := 92) (Y' := mY_Ne_clear) (i := 15) (avs := []) (rest := []) (s_Ne_clear_15_t46_ok s12) ok_Ne_clear l0_Ne_init__Ne_clear ml_Ne_51 im_Ne_clear se_Ne_clear d_Ne_init_92 rfl sh_15 rfl rfl ge_15 le_15_24 rfl (Nat.le_of_ble_eq_true rfl) (Nat.le_of_ble_eq_true rfl) (Nat.le_of_ble_eq_true rfl) (Nat.le_of_ble_eq_true rfl) (fun s13 => ?_)
  exact jm_vret (pc := 95) d_Ne_init_95 rfl rfl rfl rfl
def s_Ne_clear_25_t66_L88 : Nat → Int32 → jm_M → Option jm_M
  | 0, _, _ => none
  | n + 1, x1, s => (if 100 ≤ x1 then (some s) else jm_stl s 34 100 x1 0 (fun s4 => s_Ne_clear_25_t66_L88 n (x1 + 1) s4))
set_option maxRecDepth 100000 in
set_option maxHeartbeats 4000000 in
theorem s_Ne_clear_25_t66_L88_ok : ∀ (n : Nat) (x1 : Int32) (s : jm_M), jm_Sim mY_Ne_clear 0 0 88 [(0, .ref 25), (1, .int x1)] [] 34 mr_66 s (s_Ne_clear_25_t66_L88 n x1 s) (jm_rV 34 mr_66) := by
  intro n
  induction n with
  | zero => intro x1 s; exact jm_none
  | succ n ih =>
    intro x1 s
    rw [s_Ne_clear_25_t66_L88]
    refine jm_iload_n (pc := 88) (q := 1) (x := x1) d_Ne_clear_88 rfl ?_
    refine jm_bipush (pc := 89) (v := 100) d_Ne_clear_89 cb_100 ?_
    refine jm_icmp_ge (pc := 91) (tgt := 107) d_Ne_clear_91 (by decide) ?_ ?_
    · exact jm_vret (pc := 107) d_Ne_clear_107 rfl rfl rfl rfl
    · refine jm_aload_n (pc := 94) (q := 0) (x := 25) d_Ne_clear_94 rfl ?_
      refine jm_gr (pc := 95) (i := 25) d_Ne_clear_95 fo_Ne_41 sh_25 ge_25 le_25_34 rfl (fun _ => rfl) mr_66_25_9 ge_34 ?_
      refine jm_iload_n (pc := 98) (q := 1) (x := x1) d_Ne_clear_98 rfl ?_
      refine jm_lconst (pc := 99) (v := 0) d_Ne_clear_99 cl_0 ?_
      refine jm_last (pc := 100) d_Ne_clear_100 sh_34 ge_34 le_34_34 (fun s4 => ?_)
      refine jm_iinc (pc := 101) (q := 1) (x := x1) (v := 1) (L2 := [(1, .int (x1 + 1)), (0, .ref 25)]) d_Ne_clear_101 rfl ci_1 (Nat.le_of_ble_eq_true rfl) rfl ?_
      refine jm_goto (pc := 104) (tgt := 88) d_Ne_clear_104 (by decide) ?_
      refine jm_sub (L2 := [(0, .ref 25), (1, .int (x1 + 1))]) [1, 0] rfl ?_
      exact ih (x1 + 1) s4
def s_Ne_clear_25_t66_L17 : Nat → Int32 → jm_M → Option jm_M
  | 0, _, _ => none
  | n + 1, x1, s => (if 10 ≤ x1 then s_Ne_clear_25_t66_L88 5000 0 s else jm_sti s 26 10 x1 (-1) (fun s5 => jm_sti s5 27 10 x1 0 (fun s6 => jm_sti s6 28 10 x1 1 (fun s7 => jm_sti s7 29 10 x1 1 (fun s8 => jm_sti s8 30 10 x1 99 (fun s9 => jm_sti s9 31 10 x1 (-1) (fun s10 => jm_stl s10 32 10 x1 0 (fun s11 => jm_stl s11 33 10 x1 0 (fun s12 => s_Ne_clear_25_t66_L17 n (x1 + 1) s12)))))))))
set_option maxRecDepth 100000 in
set_option maxHeartbeats 4000000 in
theorem s_Ne_clear_25_t66_L17_ok : ∀ (n : Nat) (x1 : Int32) (s : jm_M), jm_Sim mY_Ne_clear 0 0 17 [(0, .ref 25), (1, .int x1)] [] 34 mr_66 s (s_Ne_clear_25_t66_L17 n x1 s) (jm_rV 34 mr_66) := by
  intro n
  induction n with
  | zero => intro x1 s; exact jm_none
  | succ n ih =>
    intro x1 s
    rw [s_Ne_clear_25_t66_L17]
    refine jm_iload_n (pc := 17) (q := 1) (x := x1) d_Ne_clear_17 rfl ?_
    refine jm_bipush (pc := 18) (v := 10) d_Ne_clear_18 cb_10 ?_
    refine jm_icmp_ge (pc := 20) (tgt := 86) d_Ne_clear_20 (by decide) ?_ ?_
    · refine jm_iconst (pc := 86) (v := 0) d_Ne_clear_86 ci_0 ?_
      refine jm_istore_n (pc := 87) (i := 1) (L2 := [(1, .int 0), (0, .ref 25)]) d_Ne_clear_87 rfl (Nat.le_of_ble_eq_true rfl) rfl ?_
      refine jm_sub (L2 := [(0, .ref 25), (1, .int 0)]) [1, 0] rfl ?_
      exact s_Ne_clear_25_t66_L88_ok 5000 0 s
    · refine jm_aload_n (pc := 23) (q := 0) (x := 25) d_Ne_clear_23 rfl ?_
      refine jm_gr (pc := 24) (i := 25) d_Ne_clear_24 fo_Ne_15 sh_25 ge_25 le_25_34 rfl (fun _ => rfl) mr_66_25_1 ge_26 ?_
      refine jm_iload_n (pc := 27) (q := 1) (x := x1) d_Ne_clear_27 rfl ?_
      refine jm_iconst (pc := 28) (v := (-1)) d_Ne_clear_28 ci_m1 ?_
      refine jm_iast (pc := 29) d_Ne_clear_29 sh_26 ge_26 le_26_34 (fun s5 => ?_)
      refine jm_aload_n (pc := 30) (q := 0) (x := 25) d_Ne_clear_30 rfl ?_
      refine jm_gr (pc := 31) (i := 25) d_Ne_clear_31 fo_Ne_19 sh_25 ge_25 le_25_34 rfl (fun _ => rfl) mr_66_25_2 ge_27 ?_
      refine jm_iload_n (pc := 34) (q := 1) (x := x1) d_Ne_clear_34 rfl ?_
      refine jm_iconst (pc := 35) (v := 0) d_Ne_clear_35 ci_0 ?_
      refine jm_iast (pc := 36) d_Ne_clear_36 sh_27 ge_27 le_27_34 (fun s6 => ?_)
      refine jm_aload_n (pc := 37) (q := 0) (x := 25) d_Ne_clear_37 rfl ?_
      refine jm_gr (pc := 38) (i := 25) d_Ne_clear_38 fo_Ne_22 sh_25 ge_25 le_25_34 rfl (fun _ => rfl) mr_66_25_3 ge_28 ?_
      refine jm_iload_n (pc := 41) (q := 1) (x := x1) d_Ne_clear_41 rfl ?_
      refine jm_iconst (pc := 42) (v := 1) d_Ne_clear_42 ci_1 ?_
      refine jm_iast (pc := 43) d_Ne_clear_43 sh_28 ge_28 le_28_34 (fun s7 => ?_)
      refine jm_aload_n (pc := 44) (q := 0) (x := 25) d_Ne_clear_44 rfl ?_
      refine jm_gr (pc := 45) (i := 25) d_Ne_clear_45 fo_Ne_25 sh_25 ge_25 le_25_34 rfl (fun _ => rfl) mr_66_25_4 ge_29 ?_
      refine jm_iload_n (pc := 48) (q := 1) (x := x1) d_Ne_clear_48 rfl ?_
      refine jm_iconst (pc := 49) (v := 1) d_Ne_clear_49 ci_1 ?_
      refine jm_iast (pc := 50) d_Ne_clear_50 sh_29 ge_29 le_29_34 (fun s8 => ?_)
      refine jm_aload_n (pc := 51) (q := 0) (x := 25) d_Ne_clear_51 rfl ?_
      refine jm_gr (pc := 52) (i := 25) d_Ne_clear_52 fo_Ne_28 sh_25 ge_25 le_25_34 rfl (fun _ => rfl) mr_66_25_5 ge_30 ?_
      refine jm_iload_n (pc := 55) (q := 1) (x := x1) d_Ne_clear_55 rfl ?_
      refine jm_bipush (pc := 56) (v := 99) d_Ne_clear_56 cb_99 ?_
      refine jm_iast (pc := 58) d_Ne_clear_58 sh_30 ge_30 le_30_34 (fun s9 => ?_)
      refine jm_aload_n (pc := 59) (q := 0) (x := 25) d_Ne_clear_59 rfl ?_
      refine jm_gr (pc := 60) (i := 25) d_Ne_clear_60 fo_Ne_31 sh_25 ge_25 le_25_34 rfl (fun _ => rfl) mr_66_25_6 ge_31 ?_
      refine jm_iload_n (pc := 63) (q := 1) (x := x1) d_Ne_clear_63 rfl ?_
      refine jm_iconst (pc := 64) (v := (-1)) d_Ne_clear_64 ci_m1 ?_
      refine jm_iast (pc := 65) d_Ne_clear_65 sh_31 ge_31 le_31_34 (fun s10 => ?_)
      refine jm_aload_n (pc := 66) (q := 0) (x := 25) d_Ne_clear_66 rfl ?_
      refine jm_gr (pc := 67) (i := 25) d_Ne_clear_67 fo_Ne_34 sh_25 ge_25 le_25_34 rfl (fun _ => rfl) mr_66_25_7 ge_32 ?_
      refine jm_iload_n (pc := 70) (q := 1) (x := x1) d_Ne_clear_70 rfl ?_
      refine jm_lconst (pc := 71) (v := 0) d_Ne_clear_71 cl_0 ?_
      refine jm_last (pc := 72) d_Ne_clear_72 sh_32 ge_32 le_32_34 (fun s11 => ?_)
      refine jm_aload_n (pc := 73) (q := 0) (x := 25) d_Ne_clear_73 rfl ?_
      refine jm_gr (pc := 74) (i := 25) d_Ne_clear_74 fo_Ne_38 sh_25 ge_25 le_25_34 rfl (fun _ => rfl) mr_66_25_8 ge_33 ?_
      refine jm_iload_n (pc := 77) (q := 1) (x := x1) d_Ne_clear_77 rfl ?_
      refine jm_lconst (pc := 78) (v := 0) d_Ne_clear_78 cl_0 ?_
      refine jm_last (pc := 79) d_Ne_clear_79 sh_33 ge_33 le_33_34 (fun s12 => ?_)
      refine jm_iinc (pc := 80) (q := 1) (x := x1) (v := 1) (L2 := [(1, .int (x1 + 1)), (0, .ref 25)]) d_Ne_clear_80 rfl ci_1 (Nat.le_of_ble_eq_true rfl) rfl ?_
      refine jm_goto (pc := 83) (tgt := 17) d_Ne_clear_83 (by decide) ?_
      refine jm_sub (L2 := [(0, .ref 25), (1, .int (x1 + 1))]) [1, 0] rfl ?_
      exact ih (x1 + 1) s12
def s_Ne_clear_25_t66 (s : jm_M) : Option jm_M := jm_ev (jm_si s 25 0 0) (fun s1 => jm_ev (jm_si s1 25 10 0) (fun s2 => jm_ev (jm_sl s2 25 11 0) (fun s3 => s_Ne_clear_25_t66_L17 5000 0 s3)))
set_option maxRecDepth 100000 in
set_option maxHeartbeats 4000000 in
theorem s_Ne_clear_25_t66_ok (s : jm_M) : jm_Sim mY_Ne_clear 0 0 0 [(0, .ref 25)] [] 34 mr_66 s (s_Ne_clear_25_t66 s) (jm_rV 34 mr_66) := by
  unfold s_Ne_clear_25_t66
  refine jm_aload_n (pc := 0) (q := 0) (x := 25) d_Ne_clear_0 rfl ?_
  refine jm_iconst (pc := 1) (v := 0) d_Ne_clear_1 ci_0 ?_
  refine jm_pi (pc := 2) (i := 25) d_Ne_clear_2 fp_Ne_9 sh_25 ge_25 le_25_34 rfl rfl rfl (fun _ _ _ => rfl) (fun s1 => ?_)
  refine jm_aload_n (pc := 5) (q := 0) (x := 25) d_Ne_clear_5 rfl ?_
  refine jm_iconst (pc := 6) (v := 0) d_Ne_clear_6 ci_0 ?_
  refine jm_pi (pc := 7) (i := 25) d_Ne_clear_7 fp_Ne_44 sh_25 ge_25 le_25_34 rfl rfl rfl (fun _ _ _ => rfl) (fun s2 => ?_)
  refine jm_aload_n (pc := 10) (q := 0) (x := 25) d_Ne_clear_10 rfl ?_
  refine jm_lconst (pc := 11) (v := 0) d_Ne_clear_11 cl_0 ?_
  refine jm_pl (pc := 12) (i := 25) d_Ne_clear_12 fp_Ne_47 sh_25 ge_25 le_25_34 rfl (fun s3 => ?_)
  refine jm_iconst (pc := 15) (v := 0) d_Ne_clear_15 ci_0 ?_
  refine jm_istore_n (pc := 16) (i := 1) (L2 := [(1, .int 0), (0, .ref 25)]) d_Ne_clear_16 rfl (Nat.le_of_ble_eq_true rfl) rfl ?_
  refine jm_sub (L2 := [(0, .ref 25), (1, .int 0)]) [1, 0] rfl ?_
  exact s_Ne_clear_25_t66_L17_ok 5000 0 s3
def s_Ne_init_25 (s : jm_M) : Option jm_M := jm_ev (jm_si s 25 0 0) (fun s1 => jm_ev (jm_z s1 26) (fun s2 => jm_ev (jm_z s2 27) (fun s3 => jm_ev (jm_z s3 28) (fun s4 => jm_ev (jm_z s4 29) (fun s5 => jm_ev (jm_z s5 30) (fun s6 => jm_ev (jm_z s6 31) (fun s7 => jm_ev (jm_z s7 32) (fun s8 => jm_ev (jm_z s8 33) (fun s9 => jm_ev (jm_z s9 34) (fun s10 => jm_ev (jm_si s10 25 10 0) (fun s11 => jm_ev (jm_sl s11 25 11 0) (fun s12 => jm_bd (s_Ne_clear_25_t66 s12) (fun s13 => (some s13))))))))))))))
set_option maxRecDepth 100000 in
set_option maxHeartbeats 4000000 in
theorem s_Ne_init_25_ok (s : jm_M) : jm_Sim mY_Ne_init 0 0 0 [(0, .ref 25)] [] 25 mr_48 s (s_Ne_init_25 s) (jm_rV 34 mr_66) := by
  unfold s_Ne_init_25
  refine jm_aload_n (pc := 0) (q := 0) (x := 25) d_Ne_init_0 rfl ?_
  refine jm_oinit (pc := 1) d_Ne_init_1 mlo_Ne_3 oi_im oi_cd (Nat.le_of_ble_eq_true rfl) (Nat.le_of_ble_eq_true rfl) ?_
  refine jm_aload_n (pc := 4) (q := 0) (x := 25) d_Ne_init_4 rfl ?_
  refine jm_iconst (pc := 5) (v := 0) d_Ne_init_5 ci_0 ?_
  refine jm_pi (pc := 6) (i := 25) d_Ne_init_6 fp_Ne_9 sh_25 ge_25 le_25_25 rfl rfl rfl (fun _ _ _ => rfl) (fun s1 => ?_)
  refine jm_aload_n (pc := 9) (q := 0) (x := 25) d_Ne_init_9 rfl ?_
  refine jm_bipush (pc := 10) (v := 10) d_Ne_init_10 cb_10 ?_
  refine jm_nai (pc := 12) (N := 10) d_Ne_init_12 ac_int (by decide) (by decide) (by decide) sh_26 (Nat.le_of_ble_eq_true rfl) (Nat.le_of_ble_eq_true rfl) (fun s2 => ?_)
  show jm_Sim _ 1 10 14 [(0, .ref 25)] [.ref 26, .ref 25] 26 mr_49 s2 _ _
  refine jm_pr (pc := 14) (i := 25) (q := 26) d_Ne_init_14 fp_Ne_15 (fun _ => rfl) sh_25 ge_25 le_25_26 ge_26 rfl (fun _ => rfl) (fun _ => rfl) (fun _ _ _ => rfl) ?_
  refine jm_aload_n (pc := 17) (q := 0) (x := 25) d_Ne_init_17 rfl ?_
  refine jm_bipush (pc := 18) (v := 10) d_Ne_init_18 cb_10 ?_
  refine jm_nai (pc := 20) (N := 10) d_Ne_init_20 ac_int (by decide) (by decide) (by decide) sh_27 (Nat.le_of_ble_eq_true rfl) (Nat.le_of_ble_eq_true rfl) (fun s3 => ?_)
  show jm_Sim _ 2 20 22 [(0, .ref 25)] [.ref 27, .ref 25] 27 mr_51 s3 _ _
  refine jm_pr (pc := 22) (i := 25) (q := 27) d_Ne_init_22 fp_Ne_19 (fun _ => rfl) sh_25 ge_25 le_25_27 ge_27 rfl (fun _ => rfl) (fun _ => rfl) (fun _ _ _ => rfl) ?_
  refine jm_aload_n (pc := 25) (q := 0) (x := 25) d_Ne_init_25 rfl ?_
  refine jm_bipush (pc := 26) (v := 10) d_Ne_init_26 cb_10 ?_
  refine jm_nai (pc := 28) (N := 10) d_Ne_init_28 ac_int (by decide) (by decide) (by decide) sh_28 (Nat.le_of_ble_eq_true rfl) (Nat.le_of_ble_eq_true rfl) (fun s4 => ?_)
  show jm_Sim _ 3 30 30 [(0, .ref 25)] [.ref 28, .ref 25] 28 mr_53 s4 _ _
  refine jm_pr (pc := 30) (i := 25) (q := 28) d_Ne_init_30 fp_Ne_22 (fun _ => rfl) sh_25 ge_25 le_25_28 ge_28 rfl (fun _ => rfl) (fun _ => rfl) (fun _ _ _ => rfl) ?_
  refine jm_aload_n (pc := 33) (q := 0) (x := 25) d_Ne_init_33 rfl ?_
  refine jm_bipush (pc := 34) (v := 10) d_Ne_init_34 cb_10 ?_
  refine jm_nai (pc := 36) (N := 10) d_Ne_init_36 ac_int (by decide) (by decide) (by decide) sh_29 (Nat.le_of_ble_eq_true rfl) (Nat.le_of_ble_eq_true rfl) (fun s5 => ?_)
  show jm_Sim _ 4 40 38 [(0, .ref 25)] [.ref 29, .ref 25] 29 mr_55 s5 _ _
  refine jm_pr (pc := 38) (i := 25) (q := 29) d_Ne_init_38 fp_Ne_25 (fun _ => rfl) sh_25 ge_25 le_25_29 ge_29 rfl (fun _ => rfl) (fun _ => rfl) (fun _ _ _ => rfl) ?_
  refine jm_aload_n (pc := 41) (q := 0) (x := 25) d_Ne_init_41 rfl ?_
  refine jm_bipush (pc := 42) (v := 10) d_Ne_init_42 cb_10 ?_
  refine jm_nai (pc := 44) (N := 10) d_Ne_init_44 ac_int (by decide) (by decide) (by decide) sh_30 (Nat.le_of_ble_eq_true rfl) (Nat.le_of_ble_eq_true rfl) (fun s6 => ?_)
  show jm_Sim _ 5 50 46 [(0, .ref 25)] [.ref 30, .ref 25] 30 mr_57 s6 _ _
  refine jm_pr (pc := 46) (i := 25) (q := 30) d_Ne_init_46 fp_Ne_28 (fun _ => rfl) sh_25 ge_25 le_25_30 ge_30 rfl (fun _ => rfl) (fun _ => rfl) (fun _ _ _ => rfl) ?_
  refine jm_aload_n (pc := 49) (q := 0) (x := 25) d_Ne_init_49 rfl ?_
  refine jm_bipush (pc := 50) (v := 10) d_Ne_init_50 cb_10 ?_
  refine jm_nai (pc := 52) (N := 10) d_Ne_init_52 ac_int (by decide) (by decide) (by decide) sh_31 (Nat.le_of_ble_eq_true rfl) (Nat.le_of_ble_eq_true rfl) (fun s7 => ?_)
  show jm_Sim _ 6 60 54 [(0, .ref 25)] [.ref 31, .ref 25] 31 mr_59 s7 _ _
  refine jm_pr (pc := 54) (i := 25) (q := 31) d_Ne_init_54 fp_Ne_31 (fun _ => rfl) sh_25 ge_25 le_25_31 ge_31 rfl (fun _ => rfl) (fun _ => rfl) (fun _ _ _ => rfl) ?_
  refine jm_aload_n (pc := 57) (q := 0) (x := 25) d_Ne_init_57 rfl ?_
  refine jm_bipush (pc := 58) (v := 10) d_Ne_init_58 cb_10 ?_
  refine jm_nal (pc := 60) (N := 10) d_Ne_init_60 ac_long (by decide) (by decide) (by decide) sh_32 (Nat.le_of_ble_eq_true rfl) (Nat.le_of_ble_eq_true rfl) (fun s8 => ?_)
  show jm_Sim _ 7 70 62 [(0, .ref 25)] [.ref 32, .ref 25] 32 mr_61 s8 _ _
  refine jm_pr (pc := 62) (i := 25) (q := 32) d_Ne_init_62 fp_Ne_34 (fun _ => rfl) sh_25 ge_25 le_25_32 ge_32 rfl (fun _ => rfl) (fun _ => rfl) (fun _ _ _ => rfl) ?_
  refine jm_aload_n (pc := 65) (q := 0) (x := 25) d_Ne_init_65 rfl ?_
  refine jm_bipush (pc := 66) (v := 10) d_Ne_init_66 cb_10 ?_
  refine jm_nal (pc := 68) (N := 10) d_Ne_init_68 ac_long (by decide) (by decide) (by decide) sh_33 (Nat.le_of_ble_eq_true rfl) (Nat.le_of_ble_eq_true rfl) (fun s9 => ?_)
  show jm_Sim _ 8 80 70 [(0, .ref 25)] [.ref 33, .ref 25] 33 mr_63 s9 _ _
  refine jm_pr (pc := 70) (i := 25) (q := 33) d_Ne_init_70 fp_Ne_38 (fun _ => rfl) sh_25 ge_25 le_25_33 ge_33 rfl (fun _ => rfl) (fun _ => rfl) (fun _ _ _ => rfl) ?_
  refine jm_aload_n (pc := 73) (q := 0) (x := 25) d_Ne_init_73 rfl ?_
  refine jm_bipush (pc := 74) (v := 100) d_Ne_init_74 cb_100 ?_
  refine jm_nal (pc := 76) (N := 100) d_Ne_init_76 ac_long (by decide) (by decide) (by decide) sh_34 (Nat.le_of_ble_eq_true rfl) (Nat.le_of_ble_eq_true rfl) (fun s10 => ?_)
  show jm_Sim _ 9 180 78 [(0, .ref 25)] [.ref 34, .ref 25] 34 mr_65 s10 _ _
  refine jm_pr (pc := 78) (i := 25) (q := 34) d_Ne_init_78 fp_Ne_41 (fun _ => rfl) sh_25 ge_25 le_25_34 ge_34 rfl (fun _ => rfl) (fun _ => rfl) (fun _ _ _ => rfl) ?_
  refine jm_aload_n (pc := 81) (q := 0) (x := 25) d_Ne_init_81 rfl ?_
  refine jm_iconst (pc := 82) (v := 0) d_Ne_init_82 ci_0 ?_
  refine jm_pi (pc := 83) (i := 25) d_Ne_init_83 fp_Ne_44 sh_25 ge_25 le_25_34 rfl rfl rfl (fun _ _ _ => rfl) (fun s11 => ?_)
  refine jm_aload_n (pc := 86) (q := 0) (x := 25) d_Ne_init_86 rfl ?_
  refine jm_lconst (pc := 87) (v := 0) d_Ne_init_87 cl_0 ?_
  refine jm_pl (pc := 88) (i := 25) d_Ne_init_88 fp_Ne_47 sh_25 ge_25 le_25_34 rfl (fun s12 => ?_)
  refine jm_aload_n (pc := 91) (q := 0) (x := 25) d_Ne_init_91 rfl ?_
  refine jm_Vv (pc := 92) (Y' := mY_Ne_clear) (i := 25) (avs := []) (rest := []) (s_Ne_clear_25_t66_ok s12) ok_Ne_clear l0_Ne_init__Ne_clear ml_Ne_51 im_Ne_clear se_Ne_clear d_Ne_init_92 rfl sh_25 rfl rfl ge_25 le_25_34 rfl (Nat.le_of_ble_eq_true rfl) (Nat.le_of_ble_eq_true rfl) (Nat.le_of_ble_eq_true rfl) (Nat.le_of_ble_eq_true rfl) (fun s13 => ?_)
  exact jm_vret (pc := 95) d_Ne_init_95 rfl rfl rfl rfl
def s_Ne_clear_35_t86_L88 : Nat → Int32 → jm_M → Option jm_M
  | 0, _, _ => none
  | n + 1, x1, s => (if 100 ≤ x1 then (some s) else jm_stl s 44 100 x1 0 (fun s4 => s_Ne_clear_35_t86_L88 n (x1 + 1) s4))
set_option maxRecDepth 100000 in
set_option maxHeartbeats 4000000 in
theorem s_Ne_clear_35_t86_L88_ok : ∀ (n : Nat) (x1 : Int32) (s : jm_M), jm_Sim mY_Ne_clear 0 0 88 [(0, .ref 35), (1, .int x1)] [] 44 mr_86 s (s_Ne_clear_35_t86_L88 n x1 s) (jm_rV 44 mr_86) := by
  intro n
  induction n with
  | zero => intro x1 s; exact jm_none
  | succ n ih =>
    intro x1 s
    rw [s_Ne_clear_35_t86_L88]
    refine jm_iload_n (pc := 88) (q := 1) (x := x1) d_Ne_clear_88 rfl ?_
    refine jm_bipush (pc := 89) (v := 100) d_Ne_clear_89 cb_100 ?_
    refine jm_icmp_ge (pc := 91) (tgt := 107) d_Ne_clear_91 (by decide) ?_ ?_
    · exact jm_vret (pc := 107) d_Ne_clear_107 rfl rfl rfl rfl
    · refine jm_aload_n (pc := 94) (q := 0) (x := 35) d_Ne_clear_94 rfl ?_
      refine jm_gr (pc := 95) (i := 35) d_Ne_clear_95 fo_Ne_41 sh_35 ge_35 le_35_44 rfl (fun _ => rfl) mr_86_35_9 ge_44 ?_
      refine jm_iload_n (pc := 98) (q := 1) (x := x1) d_Ne_clear_98 rfl ?_
      refine jm_lconst (pc := 99) (v := 0) d_Ne_clear_99 cl_0 ?_
      refine jm_last (pc := 100) d_Ne_clear_100 sh_44 ge_44 le_44_44 (fun s4 => ?_)
      refine jm_iinc (pc := 101) (q := 1) (x := x1) (v := 1) (L2 := [(1, .int (x1 + 1)), (0, .ref 35)]) d_Ne_clear_101 rfl ci_1 (Nat.le_of_ble_eq_true rfl) rfl ?_
      refine jm_goto (pc := 104) (tgt := 88) d_Ne_clear_104 (by decide) ?_
      refine jm_sub (L2 := [(0, .ref 35), (1, .int (x1 + 1))]) [1, 0] rfl ?_
      exact ih (x1 + 1) s4
def s_Ne_clear_35_t86_L17 : Nat → Int32 → jm_M → Option jm_M
  | 0, _, _ => none
  | n + 1, x1, s => (if 10 ≤ x1 then s_Ne_clear_35_t86_L88 5000 0 s else jm_sti s 36 10 x1 (-1) (fun s5 => jm_sti s5 37 10 x1 0 (fun s6 => jm_sti s6 38 10 x1 1 (fun s7 => jm_sti s7 39 10 x1 1 (fun s8 => jm_sti s8 40 10 x1 99 (fun s9 => jm_sti s9 41 10 x1 (-1) (fun s10 => jm_stl s10 42 10 x1 0 (fun s11 => jm_stl s11 43 10 x1 0 (fun s12 => s_Ne_clear_35_t86_L17 n (x1 + 1) s12)))))))))
set_option maxRecDepth 100000 in
set_option maxHeartbeats 4000000 in
theorem s_Ne_clear_35_t86_L17_ok : ∀ (n : Nat) (x1 : Int32) (s : jm_M), jm_Sim mY_Ne_clear 0 0 17 [(0, .ref 35), (1, .int x1)] [] 44 mr_86 s (s_Ne_clear_35_t86_L17 n x1 s) (jm_rV 44 mr_86) := by
  intro n
  induction n with
  | zero => intro x1 s; exact jm_none
  | succ n ih =>
    intro x1 s
    rw [s_Ne_clear_35_t86_L17]
    refine jm_iload_n (pc := 17) (q := 1) (x := x1) d_Ne_clear_17 rfl ?_
    refine jm_bipush (pc := 18) (v := 10) d_Ne_clear_18 cb_10 ?_
    refine jm_icmp_ge (pc := 20) (tgt := 86) d_Ne_clear_20 (by decide) ?_ ?_
    · refine jm_iconst (pc := 86) (v := 0) d_Ne_clear_86 ci_0 ?_
      refine jm_istore_n (pc := 87) (i := 1) (L2 := [(1, .int 0), (0, .ref 35)]) d_Ne_clear_87 rfl (Nat.le_of_ble_eq_true rfl) rfl ?_
      refine jm_sub (L2 := [(0, .ref 35), (1, .int 0)]) [1, 0] rfl ?_
      exact s_Ne_clear_35_t86_L88_ok 5000 0 s
    · refine jm_aload_n (pc := 23) (q := 0) (x := 35) d_Ne_clear_23 rfl ?_
      refine jm_gr (pc := 24) (i := 35) d_Ne_clear_24 fo_Ne_15 sh_35 ge_35 le_35_44 rfl (fun _ => rfl) mr_86_35_1 ge_36 ?_
      refine jm_iload_n (pc := 27) (q := 1) (x := x1) d_Ne_clear_27 rfl ?_
      refine jm_iconst (pc := 28) (v := (-1)) d_Ne_clear_28 ci_m1 ?_
      refine jm_iast (pc := 29) d_Ne_clear_29 sh_36 ge_36 le_36_44 (fun s5 => ?_)
      refine jm_aload_n (pc := 30) (q := 0) (x := 35) d_Ne_clear_30 rfl ?_
      refine jm_gr (pc := 31) (i := 35) d_Ne_clear_31 fo_Ne_19 sh_35 ge_35 le_35_44 rfl (fun _ => rfl) mr_86_35_2 ge_37 ?_
      refine jm_iload_n (pc := 34) (q := 1) (x := x1) d_Ne_clear_34 rfl ?_
      refine jm_iconst (pc := 35) (v := 0) d_Ne_clear_35 ci_0 ?_
      refine jm_iast (pc := 36) d_Ne_clear_36 sh_37 ge_37 le_37_44 (fun s6 => ?_)
      refine jm_aload_n (pc := 37) (q := 0) (x := 35) d_Ne_clear_37 rfl ?_
      refine jm_gr (pc := 38) (i := 35) d_Ne_clear_38 fo_Ne_22 sh_35 ge_35 le_35_44 rfl (fun _ => rfl) mr_86_35_3 ge_38 ?_
      refine jm_iload_n (pc := 41) (q := 1) (x := x1) d_Ne_clear_41 rfl ?_
      refine jm_iconst (pc := 42) (v := 1) d_Ne_clear_42 ci_1 ?_
      refine jm_iast (pc := 43) d_Ne_clear_43 sh_38 ge_38 le_38_44 (fun s7 => ?_)
      refine jm_aload_n (pc := 44) (q := 0) (x := 35) d_Ne_clear_44 rfl ?_
      refine jm_gr (pc := 45) (i := 35) d_Ne_clear_45 fo_Ne_25 sh_35 ge_35 le_35_44 rfl (fun _ => rfl) mr_86_35_4 ge_39 ?_
      refine jm_iload_n (pc := 48) (q := 1) (x := x1) d_Ne_clear_48 rfl ?_
      refine jm_iconst (pc := 49) (v := 1) d_Ne_clear_49 ci_1 ?_
      refine jm_iast (pc := 50) d_Ne_clear_50 sh_39 ge_39 le_39_44 (fun s8 => ?_)
      refine jm_aload_n (pc := 51) (q := 0) (x := 35) d_Ne_clear_51 rfl ?_
      refine jm_gr (pc := 52) (i := 35) d_Ne_clear_52 fo_Ne_28 sh_35 ge_35 le_35_44 rfl (fun _ => rfl) mr_86_35_5 ge_40 ?_
      refine jm_iload_n (pc := 55) (q := 1) (x := x1) d_Ne_clear_55 rfl ?_
      refine jm_bipush (pc := 56) (v := 99) d_Ne_clear_56 cb_99 ?_
      refine jm_iast (pc := 58) d_Ne_clear_58 sh_40 ge_40 le_40_44 (fun s9 => ?_)
      refine jm_aload_n (pc := 59) (q := 0) (x := 35) d_Ne_clear_59 rfl ?_
      refine jm_gr (pc := 60) (i := 35) d_Ne_clear_60 fo_Ne_31 sh_35 ge_35 le_35_44 rfl (fun _ => rfl) mr_86_35_6 ge_41 ?_
      refine jm_iload_n (pc := 63) (q := 1) (x := x1) d_Ne_clear_63 rfl ?_
      refine jm_iconst (pc := 64) (v := (-1)) d_Ne_clear_64 ci_m1 ?_
      refine jm_iast (pc := 65) d_Ne_clear_65 sh_41 ge_41 le_41_44 (fun s10 => ?_)
      refine jm_aload_n (pc := 66) (q := 0) (x := 35) d_Ne_clear_66 rfl ?_
      refine jm_gr (pc := 67) (i := 35) d_Ne_clear_67 fo_Ne_34 sh_35 ge_35 le_35_44 rfl (fun _ => rfl) mr_86_35_7 ge_42 ?_
      refine jm_iload_n (pc := 70) (q := 1) (x := x1) d_Ne_clear_70 rfl ?_
      refine jm_lconst (pc := 71) (v := 0) d_Ne_clear_71 cl_0 ?_
      refine jm_last (pc := 72) d_Ne_clear_72 sh_42 ge_42 le_42_44 (fun s11 => ?_)
      refine jm_aload_n (pc := 73) (q := 0) (x := 35) d_Ne_clear_73 rfl ?_
      refine jm_gr (pc := 74) (i := 35) d_Ne_clear_74 fo_Ne_38 sh_35 ge_35 le_35_44 rfl (fun _ => rfl) mr_86_35_8 ge_43 ?_
      refine jm_iload_n (pc := 77) (q := 1) (x := x1) d_Ne_clear_77 rfl ?_
      refine jm_lconst (pc := 78) (v := 0) d_Ne_clear_78 cl_0 ?_
      refine jm_last (pc := 79) d_Ne_clear_79 sh_43 ge_43 le_43_44 (fun s12 => ?_)
      refine jm_iinc (pc := 80) (q := 1) (x := x1) (v := 1) (L2 := [(1, .int (x1 + 1)), (0, .ref 35)]) d_Ne_clear_80 rfl ci_1 (Nat.le_of_ble_eq_true rfl) rfl ?_
      refine jm_goto (pc := 83) (tgt := 17) d_Ne_clear_83 (by decide) ?_
      refine jm_sub (L2 := [(0, .ref 35), (1, .int (x1 + 1))]) [1, 0] rfl ?_
      exact ih (x1 + 1) s12
def s_Ne_clear_35_t86 (s : jm_M) : Option jm_M := jm_ev (jm_si s 35 0 0) (fun s1 => jm_ev (jm_si s1 35 10 0) (fun s2 => jm_ev (jm_sl s2 35 11 0) (fun s3 => s_Ne_clear_35_t86_L17 5000 0 s3)))
set_option maxRecDepth 100000 in
set_option maxHeartbeats 4000000 in
theorem s_Ne_clear_35_t86_ok (s : jm_M) : jm_Sim mY_Ne_clear 0 0 0 [(0, .ref 35)] [] 44 mr_86 s (s_Ne_clear_35_t86 s) (jm_rV 44 mr_86) := by
  unfold s_Ne_clear_35_t86
  refine jm_aload_n (pc := 0) (q := 0) (x := 35) d_Ne_clear_0 rfl ?_
  refine jm_iconst (pc := 1) (v := 0) d_Ne_clear_1 ci_0 ?_
  refine jm_pi (pc := 2) (i := 35) d_Ne_clear_2 fp_Ne_9 sh_35 ge_35 le_35_44 rfl rfl rfl (fun _ _ _ => rfl) (fun s1 => ?_)
  refine jm_aload_n (pc := 5) (q := 0) (x := 35) d_Ne_clear_5 rfl ?_
  refine jm_iconst (pc := 6) (v := 0) d_Ne_clear_6 ci_0 ?_
  refine jm_pi (pc := 7) (i := 35) d_Ne_clear_7 fp_Ne_44 sh_35 ge_35 le_35_44 rfl rfl rfl (fun _ _ _ => rfl) (fun s2 => ?_)
  refine jm_aload_n (pc := 10) (q := 0) (x := 35) d_Ne_clear_10 rfl ?_
  refine jm_lconst (pc := 11) (v := 0) d_Ne_clear_11 cl_0 ?_
  refine jm_pl (pc := 12) (i := 35) d_Ne_clear_12 fp_Ne_47 sh_35 ge_35 le_35_44 rfl (fun s3 => ?_)
  refine jm_iconst (pc := 15) (v := 0) d_Ne_clear_15 ci_0 ?_
  refine jm_istore_n (pc := 16) (i := 1) (L2 := [(1, .int 0), (0, .ref 35)]) d_Ne_clear_16 rfl (Nat.le_of_ble_eq_true rfl) rfl ?_
  refine jm_sub (L2 := [(0, .ref 35), (1, .int 0)]) [1, 0] rfl ?_
  exact s_Ne_clear_35_t86_L17_ok 5000 0 s3
def s_Ne_init_35 (s : jm_M) : Option jm_M := jm_ev (jm_si s 35 0 0) (fun s1 => jm_ev (jm_z s1 36) (fun s2 => jm_ev (jm_z s2 37) (fun s3 => jm_ev (jm_z s3 38) (fun s4 => jm_ev (jm_z s4 39) (fun s5 => jm_ev (jm_z s5 40) (fun s6 => jm_ev (jm_z s6 41) (fun s7 => jm_ev (jm_z s7 42) (fun s8 => jm_ev (jm_z s8 43) (fun s9 => jm_ev (jm_z s9 44) (fun s10 => jm_ev (jm_si s10 35 10 0) (fun s11 => jm_ev (jm_sl s11 35 11 0) (fun s12 => jm_bd (s_Ne_clear_35_t86 s12) (fun s13 => (some s13))))))))))))))
set_option maxRecDepth 100000 in
set_option maxHeartbeats 4000000 in
theorem s_Ne_init_35_ok (s : jm_M) : jm_Sim mY_Ne_init 0 0 0 [(0, .ref 35)] [] 35 mr_68 s (s_Ne_init_35 s) (jm_rV 44 mr_86) := by
  unfold s_Ne_init_35
  refine jm_aload_n (pc := 0) (q := 0) (x := 35) d_Ne_init_0 rfl ?_
  refine jm_oinit (pc := 1) d_Ne_init_1 mlo_Ne_3 oi_im oi_cd (Nat.le_of_ble_eq_true rfl) (Nat.le_of_ble_eq_true rfl) ?_
  refine jm_aload_n (pc := 4) (q := 0) (x := 35) d_Ne_init_4 rfl ?_
  refine jm_iconst (pc := 5) (v := 0) d_Ne_init_5 ci_0 ?_
  refine jm_pi (pc := 6) (i := 35) d_Ne_init_6 fp_Ne_9 sh_35 ge_35 le_35_35 rfl rfl rfl (fun _ _ _ => rfl) (fun s1 => ?_)
  refine jm_aload_n (pc := 9) (q := 0) (x := 35) d_Ne_init_9 rfl ?_
  refine jm_bipush (pc := 10) (v := 10) d_Ne_init_10 cb_10 ?_
  refine jm_nai (pc := 12) (N := 10) d_Ne_init_12 ac_int (by decide) (by decide) (by decide) sh_36 (Nat.le_of_ble_eq_true rfl) (Nat.le_of_ble_eq_true rfl) (fun s2 => ?_)
  show jm_Sim _ 1 10 14 [(0, .ref 35)] [.ref 36, .ref 35] 36 mr_69 s2 _ _
  refine jm_pr (pc := 14) (i := 35) (q := 36) d_Ne_init_14 fp_Ne_15 (fun _ => rfl) sh_35 ge_35 le_35_36 ge_36 rfl (fun _ => rfl) (fun _ => rfl) (fun _ _ _ => rfl) ?_
  refine jm_aload_n (pc := 17) (q := 0) (x := 35) d_Ne_init_17 rfl ?_
  refine jm_bipush (pc := 18) (v := 10) d_Ne_init_18 cb_10 ?_
  refine jm_nai (pc := 20) (N := 10) d_Ne_init_20 ac_int (by decide) (by decide) (by decide) sh_37 (Nat.le_of_ble_eq_true rfl) (Nat.le_of_ble_eq_true rfl) (fun s3 => ?_)
  show jm_Sim _ 2 20 22 [(0, .ref 35)] [.ref 37, .ref 35] 37 mr_71 s3 _ _
  refine jm_pr (pc := 22) (i := 35) (q := 37) d_Ne_init_22 fp_Ne_19 (fun _ => rfl) sh_35 ge_35 le_35_37 ge_37 rfl (fun _ => rfl) (fun _ => rfl) (fun _ _ _ => rfl) ?_
  refine jm_aload_n (pc := 25) (q := 0) (x := 35) d_Ne_init_25 rfl ?_
  refine jm_bipush (pc := 26) (v := 10) d_Ne_init_26 cb_10 ?_
  refine jm_nai (pc := 28) (N := 10) d_Ne_init_28 ac_int (by decide) (by decide) (by decide) sh_38 (Nat.le_of_ble_eq_true rfl) (Nat.le_of_ble_eq_true rfl) (fun s4 => ?_)
  show jm_Sim _ 3 30 30 [(0, .ref 35)] [.ref 38, .ref 35] 38 mr_73 s4 _ _
  refine jm_pr (pc := 30) (i := 35) (q := 38) d_Ne_init_30 fp_Ne_22 (fun _ => rfl) sh_35 ge_35 le_35_38 ge_38 rfl (fun _ => rfl) (fun _ => rfl) (fun _ _ _ => rfl) ?_
  refine jm_aload_n (pc := 33) (q := 0) (x := 35) d_Ne_init_33 rfl ?_
  refine jm_bipush (pc := 34) (v := 10) d_Ne_init_34 cb_10 ?_
  refine jm_nai (pc := 36) (N := 10) d_Ne_init_36 ac_int (by decide) (by decide) (by decide) sh_39 (Nat.le_of_ble_eq_true rfl) (Nat.le_of_ble_eq_true rfl) (fun s5 => ?_)
  show jm_Sim _ 4 40 38 [(0, .ref 35)] [.ref 39, .ref 35] 39 mr_75 s5 _ _
  refine jm_pr (pc := 38) (i := 35) (q := 39) d_Ne_init_38 fp_Ne_25 (fun _ => rfl) sh_35 ge_35 le_35_39 ge_39 rfl (fun _ => rfl) (fun _ => rfl) (fun _ _ _ => rfl) ?_
  refine jm_aload_n (pc := 41) (q := 0) (x := 35) d_Ne_init_41 rfl ?_
  refine jm_bipush (pc := 42) (v := 10) d_Ne_init_42 cb_10 ?_
  refine jm_nai (pc := 44) (N := 10) d_Ne_init_44 ac_int (by decide) (by decide) (by decide) sh_40 (Nat.le_of_ble_eq_true rfl) (Nat.le_of_ble_eq_true rfl) (fun s6 => ?_)
  show jm_Sim _ 5 50 46 [(0, .ref 35)] [.ref 40, .ref 35] 40 mr_77 s6 _ _
  refine jm_pr (pc := 46) (i := 35) (q := 40) d_Ne_init_46 fp_Ne_28 (fun _ => rfl) sh_35 ge_35 le_35_40 ge_40 rfl (fun _ => rfl) (fun _ => rfl) (fun _ _ _ => rfl) ?_
  refine jm_aload_n (pc := 49) (q := 0) (x := 35) d_Ne_init_49 rfl ?_
  refine jm_bipush (pc := 50) (v := 10) d_Ne_init_50 cb_10 ?_
  refine jm_nai (pc := 52) (N := 10) d_Ne_init_52 ac_int (by decide) (by decide) (by decide) sh_41 (Nat.le_of_ble_eq_true rfl) (Nat.le_of_ble_eq_true rfl) (fun s7 => ?_)
  show jm_Sim _ 6 60 54 [(0, .ref 35)] [.ref 41, .ref 35] 41 mr_79 s7 _ _
  refine jm_pr (pc := 54) (i := 35) (q := 41) d_Ne_init_54 fp_Ne_31 (fun _ => rfl) sh_35 ge_35 le_35_41 ge_41 rfl (fun _ => rfl) (fun _ => rfl) (fun _ _ _ => rfl) ?_
  refine jm_aload_n (pc := 57) (q := 0) (x := 35) d_Ne_init_57 rfl ?_
  refine jm_bipush (pc := 58) (v := 10) d_Ne_init_58 cb_10 ?_
  refine jm_nal (pc := 60) (N := 10) d_Ne_init_60 ac_long (by decide) (by decide) (by decide) sh_42 (Nat.le_of_ble_eq_true rfl) (Nat.le_of_ble_eq_true rfl) (fun s8 => ?_)
  show jm_Sim _ 7 70 62 [(0, .ref 35)] [.ref 42, .ref 35] 42 mr_81 s8 _ _
  refine jm_pr (pc := 62) (i := 35) (q := 42) d_Ne_init_62 fp_Ne_34 (fun _ => rfl) sh_35 ge_35 le_35_42 ge_42 rfl (fun _ => rfl) (fun _ => rfl) (fun _ _ _ => rfl) ?_
  refine jm_aload_n (pc := 65) (q := 0) (x := 35) d_Ne_init_65 rfl ?_
  refine jm_bipush (pc := 66) (v := 10) d_Ne_init_66 cb_10 ?_
  refine jm_nal (pc := 68) (N := 10) d_Ne_init_68 ac_long (by decide) (by decide) (by decide) sh_43 (Nat.le_of_ble_eq_true rfl) (Nat.le_of_ble_eq_true rfl) (fun s9 => ?_)
  show jm_Sim _ 8 80 70 [(0, .ref 35)] [.ref 43, .ref 35] 43 mr_83 s9 _ _
  refine jm_pr (pc := 70) (i := 35) (q := 43) d_Ne_init_70 fp_Ne_38 (fun _ => rfl) sh_35 ge_35 le_35_43 ge_43 rfl (fun _ => rfl) (fun _ => rfl) (fun _ _ _ => rfl) ?_
  refine jm_aload_n (pc := 73) (q := 0) (x := 35) d_Ne_init_73 rfl ?_
  refine jm_bipush (pc := 74) (v := 100) d_Ne_init_74 cb_100 ?_
  refine jm_nal (pc := 76) (N := 100) d_Ne_init_76 ac_long (by decide) (by decide) (by decide) sh_44 (Nat.le_of_ble_eq_true rfl) (Nat.le_of_ble_eq_true rfl) (fun s10 => ?_)
  show jm_Sim _ 9 180 78 [(0, .ref 35)] [.ref 44, .ref 35] 44 mr_85 s10 _ _
  refine jm_pr (pc := 78) (i := 35) (q := 44) d_Ne_init_78 fp_Ne_41 (fun _ => rfl) sh_35 ge_35 le_35_44 ge_44 rfl (fun _ => rfl) (fun _ => rfl) (fun _ _ _ => rfl) ?_
  refine jm_aload_n (pc := 81) (q := 0) (x := 35) d_Ne_init_81 rfl ?_
  refine jm_iconst (pc := 82) (v := 0) d_Ne_init_82 ci_0 ?_
  refine jm_pi (pc := 83) (i := 35) d_Ne_init_83 fp_Ne_44 sh_35 ge_35 le_35_44 rfl rfl rfl (fun _ _ _ => rfl) (fun s11 => ?_)
  refine jm_aload_n (pc := 86) (q := 0) (x := 35) d_Ne_init_86 rfl ?_
  refine jm_lconst (pc := 87) (v := 0) d_Ne_init_87 cl_0 ?_
  refine jm_pl (pc := 88) (i := 35) d_Ne_init_88 fp_Ne_47 sh_35 ge_35 le_35_44 rfl (fun s12 => ?_)
  refine jm_aload_n (pc := 91) (q := 0) (x := 35) d_Ne_init_91 rfl ?_
  refine jm_Vv (pc := 92) (Y' := mY_Ne_clear) (i := 35) (avs := []) (rest := []) (s_Ne_clear_35_t86_ok s12) ok_Ne_clear l0_Ne_init__Ne_clear ml_Ne_51 im_Ne_clear se_Ne_clear d_Ne_init_92 rfl sh_35 rfl rfl ge_35 le_35_44 rfl (Nat.le_of_ble_eq_true rfl) (Nat.le_of_ble_eq_true rfl) (Nat.le_of_ble_eq_true rfl) (Nat.le_of_ble_eq_true rfl) (fun s13 => ?_)
  exact jm_vret (pc := 95) d_Ne_init_95 rfl rfl rfl rfl
theorem d_Ni_init_0 : decode (jm_cd mY_Ni_init) 0 = .ok (.aload_n 0, 1) := by decide +kernel
theorem d_Ni_init_1 : decode (jm_cd mY_Ni_init) 1 = .ok (.invokespecial 3, 3) := by decide +kernel
theorem d_Ni_init_4 : decode (jm_cd mY_Ni_init) 4 = .ok (.aload_n 0, 1) := by decide +kernel
theorem d_Ni_init_5 : decode (jm_cd mY_Ni_init) 5 = .ok (.bipush 10, 2) := by decide +kernel
theorem d_Ni_init_7 : decode (jm_cd mY_Ni_init) 7 = .ok (.newarray .int, 2) := by decide +kernel
theorem d_Ni_init_9 : decode (jm_cd mY_Ni_init) 9 = .ok (.putfield 9, 3) := by decide +kernel
theorem d_Ni_init_12 : decode (jm_cd mY_Ni_init) 12 = .ok (.aload_n 0, 1) := by decide +kernel
theorem d_Ni_init_13 : decode (jm_cd mY_Ni_init) 13 = .ok (.bipush (-4), 2) := by decide +kernel
theorem d_Ni_init_15 : decode (jm_cd mY_Ni_init) 15 = .ok (.putfield 15, 3) := by decide +kernel
theorem d_Ni_init_18 : decode (jm_cd mY_Ni_init) 18 = .ok (.aload_n 0, 1) := by decide +kernel
theorem d_Ni_init_19 : decode (jm_cd mY_Ni_init) 19 = .ok (.bipush 10, 2) := by decide +kernel
theorem d_Ni_init_21 : decode (jm_cd mY_Ni_init) 21 = .ok (.newarray .long, 2) := by decide +kernel
theorem d_Ni_init_23 : decode (jm_cd mY_Ni_init) 23 = .ok (.putfield 19, 3) := by decide +kernel
theorem d_Ni_init_26 : decode (jm_cd mY_Ni_init) 26 = .ok (.return_, 1) := by decide +kernel
def s_Ni_init (s : jm_M) : Option jm_M := jm_ev (jm_z s 46) (fun s1 => jm_ev (jm_si s1 45 1 (-4)) (fun s2 => jm_ev (jm_z s2 47) (fun s3 => (some s3))))
set_option maxRecDepth 100000 in
set_option maxHeartbeats 4000000 in
theorem s_Ni_init_ok (s : jm_M) : jm_Sim mY_Ni_init 0 0 0 [(0, .ref 45)] [] 45 mr_88 s (s_Ni_init s) (jm_rV 47 mr_92) := by
  unfold s_Ni_init
  refine jm_aload_n (pc := 0) (q := 0) (x := 45) d_Ni_init_0 rfl ?_
  refine jm_oinit (pc := 1) d_Ni_init_1 mlo_Ni_3 oi_im oi_cd (Nat.le_of_ble_eq_true rfl) (Nat.le_of_ble_eq_true rfl) ?_
  refine jm_aload_n (pc := 4) (q := 0) (x := 45) d_Ni_init_4 rfl ?_
  refine jm_bipush (pc := 5) (v := 10) d_Ni_init_5 cb_10 ?_
  refine jm_nai (pc := 7) (N := 10) d_Ni_init_7 ac_int (by decide) (by decide) (by decide) sh_46 (Nat.le_of_ble_eq_true rfl) (Nat.le_of_ble_eq_true rfl) (fun s1 => ?_)
  show jm_Sim _ 1 10 9 [(0, .ref 45)] [.ref 46, .ref 45] 46 mr_89 s1 _ _
  refine jm_pr (pc := 9) (i := 45) (q := 46) d_Ni_init_9 fp_Ni_9 (fun _ => rfl) sh_45 ge_45 le_45_46 ge_46 rfl (fun _ => rfl) (fun _ => rfl) (fun _ _ _ => rfl) ?_
  refine jm_aload_n (pc := 12) (q := 0) (x := 45) d_Ni_init_12 rfl ?_
  refine jm_bipush (pc := 13) (v := (-4)) d_Ni_init_13 cb_m4 ?_
  refine jm_pi (pc := 15) (i := 45) d_Ni_init_15 fp_Ni_15 sh_45 ge_45 le_45_46 rfl rfl rfl (fun _ _ _ => rfl) (fun s2 => ?_)
  refine jm_aload_n (pc := 18) (q := 0) (x := 45) d_Ni_init_18 rfl ?_
  refine jm_bipush (pc := 19) (v := 10) d_Ni_init_19 cb_10 ?_
  refine jm_nal (pc := 21) (N := 10) d_Ni_init_21 ac_long (by decide) (by decide) (by decide) sh_47 (Nat.le_of_ble_eq_true rfl) (Nat.le_of_ble_eq_true rfl) (fun s3 => ?_)
  show jm_Sim _ 2 20 23 [(0, .ref 45)] [.ref 47, .ref 45] 47 mr_91 s3 _ _
  refine jm_pr (pc := 23) (i := 45) (q := 47) d_Ni_init_23 fp_Ni_19 (fun _ => rfl) sh_45 ge_45 le_45_47 ge_47 rfl (fun _ => rfl) (fun _ => rfl) (fun _ _ _ => rfl) ?_
  exact jm_vret (pc := 26) d_Ni_init_26 rfl rfl rfl rfl
theorem d_Co_init_0 : decode (jm_cd mY_Co_init) 0 = .ok (.aload_n 0, 1) := by decide +kernel
theorem d_Co_init_1 : decode (jm_cd mY_Co_init) 1 = .ok (.invokespecial 3, 3) := by decide +kernel
theorem d_Co_init_4 : decode (jm_cd mY_Co_init) 4 = .ok (.aload_n 0, 1) := by decide +kernel
theorem d_Co_init_5 : decode (jm_cd mY_Co_init) 5 = .ok (.bipush (-4), 2) := by decide +kernel
theorem d_Co_init_7 : decode (jm_cd mY_Co_init) 7 = .ok (.putfield 9, 3) := by decide +kernel
theorem d_Co_init_10 : decode (jm_cd mY_Co_init) 10 = .ok (.aload_n 0, 1) := by decide +kernel
theorem d_Co_init_11 : decode (jm_cd mY_Co_init) 11 = .ok (.bipush (-4), 2) := by decide +kernel
theorem d_Co_init_13 : decode (jm_cd mY_Co_init) 13 = .ok (.putfield 15, 3) := by decide +kernel
theorem d_Co_init_16 : decode (jm_cd mY_Co_init) 16 = .ok (.aload_n 0, 1) := by decide +kernel
theorem d_Co_init_17 : decode (jm_cd mY_Co_init) 17 = .ok (.iconst (-1), 1) := by decide +kernel
theorem d_Co_init_18 : decode (jm_cd mY_Co_init) 18 = .ok (.putfield 18, 3) := by decide +kernel
theorem d_Co_init_21 : decode (jm_cd mY_Co_init) 21 = .ok (.aload_n 0, 1) := by decide +kernel
theorem d_Co_init_22 : decode (jm_cd mY_Co_init) 22 = .ok (.iconst 0, 1) := by decide +kernel
theorem d_Co_init_23 : decode (jm_cd mY_Co_init) 23 = .ok (.putfield 21, 3) := by decide +kernel
theorem d_Co_init_26 : decode (jm_cd mY_Co_init) 26 = .ok (.aload_n 0, 1) := by decide +kernel
theorem d_Co_init_27 : decode (jm_cd mY_Co_init) 27 = .ok (.iconst 0, 1) := by decide +kernel
theorem d_Co_init_28 : decode (jm_cd mY_Co_init) 28 = .ok (.putfield 24, 3) := by decide +kernel
theorem d_Co_init_31 : decode (jm_cd mY_Co_init) 31 = .ok (.aload_n 0, 1) := by decide +kernel
theorem d_Co_init_32 : decode (jm_cd mY_Co_init) 32 = .ok (.bipush 10, 2) := by decide +kernel
theorem d_Co_init_34 : decode (jm_cd mY_Co_init) 34 = .ok (.newarray .int, 2) := by decide +kernel
theorem d_Co_init_36 : decode (jm_cd mY_Co_init) 36 = .ok (.putfield 27, 3) := by decide +kernel
theorem d_Co_init_39 : decode (jm_cd mY_Co_init) 39 = .ok (.aload_n 0, 1) := by decide +kernel
theorem d_Co_init_40 : decode (jm_cd mY_Co_init) 40 = .ok (.bipush 10, 2) := by decide +kernel
theorem d_Co_init_42 : decode (jm_cd mY_Co_init) 42 = .ok (.newarray .int, 2) := by decide +kernel
theorem d_Co_init_44 : decode (jm_cd mY_Co_init) 44 = .ok (.putfield 31, 3) := by decide +kernel
theorem d_Co_init_47 : decode (jm_cd mY_Co_init) 47 = .ok (.aload_n 0, 1) := by decide +kernel
theorem d_Co_init_48 : decode (jm_cd mY_Co_init) 48 = .ok (.bipush 10, 2) := by decide +kernel
theorem d_Co_init_50 : decode (jm_cd mY_Co_init) 50 = .ok (.newarray .int, 2) := by decide +kernel
theorem d_Co_init_52 : decode (jm_cd mY_Co_init) 52 = .ok (.putfield 34, 3) := by decide +kernel
theorem d_Co_init_55 : decode (jm_cd mY_Co_init) 55 = .ok (.aload_n 0, 1) := by decide +kernel
theorem d_Co_init_56 : decode (jm_cd mY_Co_init) 56 = .ok (.bipush 100, 2) := by decide +kernel
theorem d_Co_init_58 : decode (jm_cd mY_Co_init) 58 = .ok (.newarray .int, 2) := by decide +kernel
theorem d_Co_init_60 : decode (jm_cd mY_Co_init) 60 = .ok (.putfield 37, 3) := by decide +kernel
theorem d_Co_init_63 : decode (jm_cd mY_Co_init) 63 = .ok (.aload_n 0, 1) := by decide +kernel
theorem d_Co_init_64 : decode (jm_cd mY_Co_init) 64 = .ok (.iconst 0, 1) := by decide +kernel
theorem d_Co_init_65 : decode (jm_cd mY_Co_init) 65 = .ok (.putfield 40, 3) := by decide +kernel
theorem d_Co_init_68 : decode (jm_cd mY_Co_init) 68 = .ok (.return_, 1) := by decide +kernel
def s_Co_init (s : jm_M) : Option jm_M := jm_ev (jm_si s 48 0 (-4)) (fun s1 => jm_ev (jm_si s1 48 1 (-4)) (fun s2 => jm_ev (jm_si s2 48 2 (-1)) (fun s3 => jm_ev (jm_si s3 48 3 0) (fun s4 => jm_ev (jm_si s4 48 4 0) (fun s5 => jm_ev (jm_z s5 49) (fun s6 => jm_ev (jm_z s6 50) (fun s7 => jm_ev (jm_z s7 51) (fun s8 => jm_ev (jm_z s8 52) (fun s9 => jm_ev (jm_si s9 48 9 0) (fun s10 => (some s10)))))))))))
set_option maxRecDepth 100000 in
set_option maxHeartbeats 4000000 in
theorem s_Co_init_ok (s : jm_M) : jm_Sim mY_Co_init 0 0 0 [(0, .ref 48)] [] 48 mr_94 s (s_Co_init s) (jm_rV 52 mr_102) := by
  unfold s_Co_init
  refine jm_aload_n (pc := 0) (q := 0) (x := 48) d_Co_init_0 rfl ?_
  refine jm_oinit (pc := 1) d_Co_init_1 mlo_Co_3 oi_im oi_cd (Nat.le_of_ble_eq_true rfl) (Nat.le_of_ble_eq_true rfl) ?_
  refine jm_aload_n (pc := 4) (q := 0) (x := 48) d_Co_init_4 rfl ?_
  refine jm_bipush (pc := 5) (v := (-4)) d_Co_init_5 cb_m4 ?_
  refine jm_pi (pc := 7) (i := 48) d_Co_init_7 fp_Co_9 sh_48 ge_48 le_48_48 rfl rfl rfl (fun _ _ _ => rfl) (fun s1 => ?_)
  refine jm_aload_n (pc := 10) (q := 0) (x := 48) d_Co_init_10 rfl ?_
  refine jm_bipush (pc := 11) (v := (-4)) d_Co_init_11 cb_m4 ?_
  refine jm_pi (pc := 13) (i := 48) d_Co_init_13 fp_Co_15 sh_48 ge_48 le_48_48 rfl rfl rfl (fun _ _ _ => rfl) (fun s2 => ?_)
  refine jm_aload_n (pc := 16) (q := 0) (x := 48) d_Co_init_16 rfl ?_
  refine jm_iconst (pc := 17) (v := (-1)) d_Co_init_17 ci_m1 ?_
  refine jm_pi (pc := 18) (i := 48) d_Co_init_18 fp_Co_18 sh_48 ge_48 le_48_48 rfl rfl rfl (fun _ _ _ => rfl) (fun s3 => ?_)
  refine jm_aload_n (pc := 21) (q := 0) (x := 48) d_Co_init_21 rfl ?_
  refine jm_iconst (pc := 22) (v := 0) d_Co_init_22 ci_0 ?_
  refine jm_pi (pc := 23) (i := 48) d_Co_init_23 fp_Co_21 sh_48 ge_48 le_48_48 rfl rfl rfl (fun _ _ _ => rfl) (fun s4 => ?_)
  refine jm_aload_n (pc := 26) (q := 0) (x := 48) d_Co_init_26 rfl ?_
  refine jm_iconst (pc := 27) (v := 0) d_Co_init_27 ci_0 ?_
  refine jm_pi (pc := 28) (i := 48) d_Co_init_28 fp_Co_24 sh_48 ge_48 le_48_48 rfl rfl rfl (fun _ _ _ => rfl) (fun s5 => ?_)
  refine jm_aload_n (pc := 31) (q := 0) (x := 48) d_Co_init_31 rfl ?_
  refine jm_bipush (pc := 32) (v := 10) d_Co_init_32 cb_10 ?_
  refine jm_nai (pc := 34) (N := 10) d_Co_init_34 ac_int (by decide) (by decide) (by decide) sh_49 (Nat.le_of_ble_eq_true rfl) (Nat.le_of_ble_eq_true rfl) (fun s6 => ?_)
  show jm_Sim _ 1 10 36 [(0, .ref 48)] [.ref 49, .ref 48] 49 mr_95 s6 _ _
  refine jm_pr (pc := 36) (i := 48) (q := 49) d_Co_init_36 fp_Co_27 (fun _ => rfl) sh_48 ge_48 le_48_49 ge_49 rfl (fun _ => rfl) (fun _ => rfl) (fun _ _ _ => rfl) ?_
  refine jm_aload_n (pc := 39) (q := 0) (x := 48) d_Co_init_39 rfl ?_
  refine jm_bipush (pc := 40) (v := 10) d_Co_init_40 cb_10 ?_
  refine jm_nai (pc := 42) (N := 10) d_Co_init_42 ac_int (by decide) (by decide) (by decide) sh_50 (Nat.le_of_ble_eq_true rfl) (Nat.le_of_ble_eq_true rfl) (fun s7 => ?_)
  show jm_Sim _ 2 20 44 [(0, .ref 48)] [.ref 50, .ref 48] 50 mr_97 s7 _ _
  refine jm_pr (pc := 44) (i := 48) (q := 50) d_Co_init_44 fp_Co_31 (fun _ => rfl) sh_48 ge_48 le_48_50 ge_50 rfl (fun _ => rfl) (fun _ => rfl) (fun _ _ _ => rfl) ?_
  refine jm_aload_n (pc := 47) (q := 0) (x := 48) d_Co_init_47 rfl ?_
  refine jm_bipush (pc := 48) (v := 10) d_Co_init_48 cb_10 ?_
  refine jm_nai (pc := 50) (N := 10) d_Co_init_50 ac_int (by decide) (by decide) (by decide) sh_51 (Nat.le_of_ble_eq_true rfl) (Nat.le_of_ble_eq_true rfl) (fun s8 => ?_)
  show jm_Sim _ 3 30 52 [(0, .ref 48)] [.ref 51, .ref 48] 51 mr_99 s8 _ _
  refine jm_pr (pc := 52) (i := 48) (q := 51) d_Co_init_52 fp_Co_34 (fun _ => rfl) sh_48 ge_48 le_48_51 ge_51 rfl (fun _ => rfl) (fun _ => rfl) (fun _ _ _ => rfl) ?_
  refine jm_aload_n (pc := 55) (q := 0) (x := 48) d_Co_init_55 rfl ?_
  refine jm_bipush (pc := 56) (v := 100) d_Co_init_56 cb_100 ?_
  refine jm_nai (pc := 58) (N := 100) d_Co_init_58 ac_int (by decide) (by decide) (by decide) sh_52 (Nat.le_of_ble_eq_true rfl) (Nat.le_of_ble_eq_true rfl) (fun s9 => ?_)
  show jm_Sim _ 4 130 60 [(0, .ref 48)] [.ref 52, .ref 48] 52 mr_101 s9 _ _
  refine jm_pr (pc := 60) (i := 48) (q := 52) d_Co_init_60 fp_Co_37 (fun _ => rfl) sh_48 ge_48 le_48_52 ge_52 rfl (fun _ => rfl) (fun _ => rfl) (fun _ _ _ => rfl) ?_
  refine jm_aload_n (pc := 63) (q := 0) (x := 48) d_Co_init_63 rfl ?_
  refine jm_iconst (pc := 64) (v := 0) d_Co_init_64 ci_0 ?_
  refine jm_pi (pc := 65) (i := 48) d_Co_init_65 fp_Co_40 sh_48 ge_48 le_48_52 rfl rfl rfl (fun _ _ _ => rfl) (fun s10 => ?_)
  exact jm_vret (pc := 68) d_Co_init_68 rfl rfl rfl rfl
theorem d_Si_init_0 : decode (jm_cd mY_Si_init) 0 = .ok (.aload_n 0, 1) := by decide +kernel
theorem d_Si_init_1 : decode (jm_cd mY_Si_init) 1 = .ok (.invokespecial 3, 3) := by decide +kernel
theorem d_Si_init_4 : decode (jm_cd mY_Si_init) 4 = .ok (.aload_n 0, 1) := by decide +kernel
theorem d_Si_init_5 : decode (jm_cd mY_Si_init) 5 = .ok (.bipush 72, 2) := by decide +kernel
theorem d_Si_init_7 : decode (jm_cd mY_Si_init) 7 = .ok (.newarray .int, 2) := by decide +kernel
theorem d_Si_init_9 : decode (jm_cd mY_Si_init) 9 = .ok (.putfield 9, 3) := by decide +kernel
theorem d_Si_init_12 : decode (jm_cd mY_Si_init) 12 = .ok (.return_, 1) := by decide +kernel
def s_Si_init (s : jm_M) : Option jm_M := jm_ev (jm_z s 54) (fun s1 => (some s1))
set_option maxRecDepth 100000 in
set_option maxHeartbeats 4000000 in
theorem s_Si_init_ok (s : jm_M) : jm_Sim mY_Si_init 0 0 0 [(0, .ref 53)] [] 53 mr_104 s (s_Si_init s) (jm_rV 54 mr_106) := by
  unfold s_Si_init
  refine jm_aload_n (pc := 0) (q := 0) (x := 53) d_Si_init_0 rfl ?_
  refine jm_oinit (pc := 1) d_Si_init_1 mlo_Si_3 oi_im oi_cd (Nat.le_of_ble_eq_true rfl) (Nat.le_of_ble_eq_true rfl) ?_
  refine jm_aload_n (pc := 4) (q := 0) (x := 53) d_Si_init_4 rfl ?_
  refine jm_bipush (pc := 5) (v := 72) d_Si_init_5 cb_72 ?_
  refine jm_nai (pc := 7) (N := 72) d_Si_init_7 ac_int (by decide) (by decide) (by decide) sh_54 (Nat.le_of_ble_eq_true rfl) (Nat.le_of_ble_eq_true rfl) (fun s1 => ?_)
  show jm_Sim _ 1 72 9 [(0, .ref 53)] [.ref 54, .ref 53] 54 mr_105 s1 _ _
  refine jm_pr (pc := 9) (i := 53) (q := 54) d_Si_init_9 fp_Si_9 (fun _ => rfl) sh_53 ge_53 le_53_54 ge_54 rfl (fun _ => rfl) (fun _ => rfl) (fun _ _ _ => rfl) ?_
  exact jm_vret (pc := 12) d_Si_init_12 rfl rfl rfl rfl
theorem d_Wa_init_0 : decode (jm_cd mY_Wa_init) 0 = .ok (.aload_n 0, 1) := by decide +kernel
theorem d_Wa_init_1 : decode (jm_cd mY_Wa_init) 1 = .ok (.invokespecial 3, 3) := by decide +kernel
theorem d_Wa_init_4 : decode (jm_cd mY_Wa_init) 4 = .ok (.aload_n 0, 1) := by decide +kernel
theorem d_Wa_init_5 : decode (jm_cd mY_Wa_init) 5 = .ok (.iconst 4, 1) := by decide +kernel
theorem d_Wa_init_6 : decode (jm_cd mY_Wa_init) 6 = .ok (.newarray .int, 2) := by decide +kernel
theorem d_Wa_init_8 : decode (jm_cd mY_Wa_init) 8 = .ok (.putfield 9, 3) := by decide +kernel
theorem d_Wa_init_11 : decode (jm_cd mY_Wa_init) 11 = .ok (.return_, 1) := by decide +kernel
def s_Wa_init (s : jm_M) : Option jm_M := jm_ev (jm_z s 56) (fun s1 => (some s1))
set_option maxRecDepth 100000 in
set_option maxHeartbeats 4000000 in
theorem s_Wa_init_ok (s : jm_M) : jm_Sim mY_Wa_init 0 0 0 [(0, .ref 55)] [] 55 mr_108 s (s_Wa_init s) (jm_rV 56 mr_110) := by
  unfold s_Wa_init
  refine jm_aload_n (pc := 0) (q := 0) (x := 55) d_Wa_init_0 rfl ?_
  refine jm_oinit (pc := 1) d_Wa_init_1 mlo_Wa_3 oi_im oi_cd (Nat.le_of_ble_eq_true rfl) (Nat.le_of_ble_eq_true rfl) ?_
  refine jm_aload_n (pc := 4) (q := 0) (x := 55) d_Wa_init_4 rfl ?_
  refine jm_iconst (pc := 5) (v := 4) d_Wa_init_5 ci_4 ?_
  refine jm_nai (pc := 6) (N := 4) d_Wa_init_6 ac_int (by decide) (by decide) (by decide) sh_56 (Nat.le_of_ble_eq_true rfl) (Nat.le_of_ble_eq_true rfl) (fun s1 => ?_)
  show jm_Sim _ 1 4 8 [(0, .ref 55)] [.ref 56, .ref 55] 56 mr_109 s1 _ _
  refine jm_pr (pc := 8) (i := 55) (q := 56) d_Wa_init_8 fp_Wa_9 (fun _ => rfl) sh_55 ge_55 le_55_56 ge_56 rfl (fun _ => rfl) (fun _ => rfl) (fun _ _ _ => rfl) ?_
  exact jm_vret (pc := 11) d_Wa_init_11 rfl rfl rfl rfl
theorem d_Ki_init_0 : decode (jm_cd mY_Ki_init) 0 = .ok (.aload_n 0, 1) := by decide +kernel
theorem d_Ki_init_1 : decode (jm_cd mY_Ki_init) 1 = .ok (.invokespecial 3, 3) := by decide +kernel
theorem d_Ki_init_4 : decode (jm_cd mY_Ki_init) 4 = .ok (.aload_n 0, 1) := by decide +kernel
theorem d_Ki_init_5 : decode (jm_cd mY_Ki_init) 5 = .ok (.iconst 3, 1) := by decide +kernel
theorem d_Ki_init_6 : decode (jm_cd mY_Ki_init) 6 = .ok (.newarray .int, 2) := by decide +kernel
theorem d_Ki_init_8 : decode (jm_cd mY_Ki_init) 8 = .ok (.dup, 1) := by decide +kernel
theorem d_Ki_init_9 : decode (jm_cd mY_Ki_init) 9 = .ok (.iconst 0, 1) := by decide +kernel
theorem d_Ki_init_10 : decode (jm_cd mY_Ki_init) 10 = .ok (.bipush 100, 2) := by decide +kernel
theorem d_Ki_init_12 : decode (jm_cd mY_Ki_init) 12 = .ok (.iastore, 1) := by decide +kernel
theorem d_Ki_init_13 : decode (jm_cd mY_Ki_init) 13 = .ok (.dup, 1) := by decide +kernel
theorem d_Ki_init_14 : decode (jm_cd mY_Ki_init) 14 = .ok (.iconst 1, 1) := by decide +kernel
theorem d_Ki_init_15 : decode (jm_cd mY_Ki_init) 15 = .ok (.sipush 1000, 3) := by decide +kernel
theorem d_Ki_init_18 : decode (jm_cd mY_Ki_init) 18 = .ok (.iastore, 1) := by decide +kernel
theorem d_Ki_init_19 : decode (jm_cd mY_Ki_init) 19 = .ok (.dup, 1) := by decide +kernel
theorem d_Ki_init_20 : decode (jm_cd mY_Ki_init) 20 = .ok (.iconst 2, 1) := by decide +kernel
theorem d_Ki_init_21 : decode (jm_cd mY_Ki_init) 21 = .ok (.bipush 100, 2) := by decide +kernel
theorem d_Ki_init_23 : decode (jm_cd mY_Ki_init) 23 = .ok (.iastore, 1) := by decide +kernel
theorem d_Ki_init_24 : decode (jm_cd mY_Ki_init) 24 = .ok (.putfield 9, 3) := by decide +kernel
theorem d_Ki_init_27 : decode (jm_cd mY_Ki_init) 27 = .ok (.return_, 1) := by decide +kernel
def s_Ki_init (s : jm_M) : Option jm_M := jm_ev (jm_z s 58) (fun s1 => jm_sti s1 58 3 0 100 (fun s2 => jm_sti s2 58 3 1 1000 (fun s3 => jm_sti s3 58 3 2 100 (fun s4 => (some s4)))))
set_option maxRecDepth 100000 in
set_option maxHeartbeats 4000000 in
theorem s_Ki_init_ok (s : jm_M) : jm_Sim mY_Ki_init 0 0 0 [(0, .ref 57)] [] 57 mr_112 s (s_Ki_init s) (jm_rV 58 mr_114) := by
  unfold s_Ki_init
  refine jm_aload_n (pc := 0) (q := 0) (x := 57) d_Ki_init_0 rfl ?_
  refine jm_oinit (pc := 1) d_Ki_init_1 mlo_Ki_3 oi_im oi_cd (Nat.le_of_ble_eq_true rfl) (Nat.le_of_ble_eq_true rfl) ?_
  refine jm_aload_n (pc := 4) (q := 0) (x := 57) d_Ki_init_4 rfl ?_
  refine jm_iconst (pc := 5) (v := 3) d_Ki_init_5 ci_3 ?_
  refine jm_nai (pc := 6) (N := 3) d_Ki_init_6 ac_int (by decide) (by decide) (by decide) sh_58 (Nat.le_of_ble_eq_true rfl) (Nat.le_of_ble_eq_true rfl) (fun s1 => ?_)
  show jm_Sim _ 1 3 8 [(0, .ref 57)] [.ref 58, .ref 57] 58 mr_113 s1 _ _
  refine jm_dup (pc := 8) d_Ki_init_8 rfl ?_
  refine jm_iconst (pc := 9) (v := 0) d_Ki_init_9 ci_0 ?_
  refine jm_bipush (pc := 10) (v := 100) d_Ki_init_10 cb_100 ?_
  refine jm_iast (pc := 12) d_Ki_init_12 sh_58 ge_58 le_58_58 (fun s2 => ?_)
  refine jm_dup (pc := 13) d_Ki_init_13 rfl ?_
  refine jm_iconst (pc := 14) (v := 1) d_Ki_init_14 ci_1 ?_
  refine jm_sipush (pc := 15) (v := 1000) d_Ki_init_15 cs_1000 ?_
  refine jm_iast (pc := 18) d_Ki_init_18 sh_58 ge_58 le_58_58 (fun s3 => ?_)
  refine jm_dup (pc := 19) d_Ki_init_19 rfl ?_
  refine jm_iconst (pc := 20) (v := 2) d_Ki_init_20 ci_2 ?_
  refine jm_bipush (pc := 21) (v := 100) d_Ki_init_21 cb_100 ?_
  refine jm_iast (pc := 23) d_Ki_init_23 sh_58 ge_58 le_58_58 (fun s4 => ?_)
  refine jm_pr (pc := 24) (i := 57) (q := 58) d_Ki_init_24 fp_Ki_9 (fun _ => rfl) sh_57 ge_57 le_57_58 ge_58 rfl (fun _ => rfl) (fun _ => rfl) (fun _ _ _ => rfl) ?_
  exact jm_vret (pc := 27) d_Ki_init_27 rfl rfl rfl rfl
theorem d_X_init_0 : decode (jm_cd mY_X_init) 0 = .ok (.aload_n 0, 1) := by decide +kernel
theorem d_X_init_1 : decode (jm_cd mY_X_init) 1 = .ok (.invokespecial 3, 3) := by decide +kernel
theorem d_X_init_4 : decode (jm_cd mY_X_init) 4 = .ok (.aload_n 0, 1) := by decide +kernel
theorem d_X_init_5 : decode (jm_cd mY_X_init) 5 = .ok (.sipush 300, 3) := by decide +kernel
theorem d_X_init_8 : decode (jm_cd mY_X_init) 8 = .ok (.newarray .byte, 2) := by decide +kernel
theorem d_X_init_10 : decode (jm_cd mY_X_init) 10 = .ok (.putfield 9, 3) := by decide +kernel
theorem d_X_init_13 : decode (jm_cd mY_X_init) 13 = .ok (.aload_n 0, 1) := by decide +kernel
theorem d_X_init_14 : decode (jm_cd mY_X_init) 14 = .ok (.iconst 0, 1) := by decide +kernel
theorem d_X_init_15 : decode (jm_cd mY_X_init) 15 = .ok (.putfield 13, 3) := by decide +kernel
theorem d_X_init_18 : decode (jm_cd mY_X_init) 18 = .ok (.aload_n 0, 1) := by decide +kernel
theorem d_X_init_19 : decode (jm_cd mY_X_init) 19 = .ok (.new 17, 3) := by decide +kernel
theorem d_X_init_22 : decode (jm_cd mY_X_init) 22 = .ok (.dup, 1) := by decide +kernel
theorem d_X_init_23 : decode (jm_cd mY_X_init) 23 = .ok (.invokespecial 19, 3) := by decide +kernel
theorem d_X_init_26 : decode (jm_cd mY_X_init) 26 = .ok (.putfield 20, 3) := by decide +kernel
theorem d_X_init_29 : decode (jm_cd mY_X_init) 29 = .ok (.aload_n 0, 1) := by decide +kernel
theorem d_X_init_30 : decode (jm_cd mY_X_init) 30 = .ok (.new 24, 3) := by decide +kernel
theorem d_X_init_33 : decode (jm_cd mY_X_init) 33 = .ok (.dup, 1) := by decide +kernel
theorem d_X_init_34 : decode (jm_cd mY_X_init) 34 = .ok (.invokespecial 26, 3) := by decide +kernel
theorem d_X_init_37 : decode (jm_cd mY_X_init) 37 = .ok (.putfield 27, 3) := by decide +kernel
theorem d_X_init_40 : decode (jm_cd mY_X_init) 40 = .ok (.aload_n 0, 1) := by decide +kernel
theorem d_X_init_41 : decode (jm_cd mY_X_init) 41 = .ok (.new 24, 3) := by decide +kernel
theorem d_X_init_44 : decode (jm_cd mY_X_init) 44 = .ok (.dup, 1) := by decide +kernel
theorem d_X_init_45 : decode (jm_cd mY_X_init) 45 = .ok (.invokespecial 26, 3) := by decide +kernel
theorem d_X_init_48 : decode (jm_cd mY_X_init) 48 = .ok (.putfield 31, 3) := by decide +kernel
theorem d_X_init_51 : decode (jm_cd mY_X_init) 51 = .ok (.aload_n 0, 1) := by decide +kernel
theorem d_X_init_52 : decode (jm_cd mY_X_init) 52 = .ok (.new 24, 3) := by decide +kernel
theorem d_X_init_55 : decode (jm_cd mY_X_init) 55 = .ok (.dup, 1) := by decide +kernel
theorem d_X_init_56 : decode (jm_cd mY_X_init) 56 = .ok (.invokespecial 26, 3) := by decide +kernel
theorem d_X_init_59 : decode (jm_cd mY_X_init) 59 = .ok (.putfield 34, 3) := by decide +kernel
theorem d_X_init_62 : decode (jm_cd mY_X_init) 62 = .ok (.aload_n 0, 1) := by decide +kernel
theorem d_X_init_63 : decode (jm_cd mY_X_init) 63 = .ok (.new 24, 3) := by decide +kernel
theorem d_X_init_66 : decode (jm_cd mY_X_init) 66 = .ok (.dup, 1) := by decide +kernel
theorem d_X_init_67 : decode (jm_cd mY_X_init) 67 = .ok (.invokespecial 26, 3) := by decide +kernel
theorem d_X_init_70 : decode (jm_cd mY_X_init) 70 = .ok (.putfield 37, 3) := by decide +kernel
theorem d_X_init_73 : decode (jm_cd mY_X_init) 73 = .ok (.aload_n 0, 1) := by decide +kernel
theorem d_X_init_74 : decode (jm_cd mY_X_init) 74 = .ok (.iconst 0, 1) := by decide +kernel
theorem d_X_init_75 : decode (jm_cd mY_X_init) 75 = .ok (.putfield 40, 3) := by decide +kernel
theorem d_X_init_78 : decode (jm_cd mY_X_init) 78 = .ok (.aload_n 0, 1) := by decide +kernel
theorem d_X_init_79 : decode (jm_cd mY_X_init) 79 = .ok (.new 43, 3) := by decide +kernel
theorem d_X_init_82 : decode (jm_cd mY_X_init) 82 = .ok (.dup, 1) := by decide +kernel
theorem d_X_init_83 : decode (jm_cd mY_X_init) 83 = .ok (.invokespecial 45, 3) := by decide +kernel
theorem d_X_init_86 : decode (jm_cd mY_X_init) 86 = .ok (.putfield 46, 3) := by decide +kernel
theorem d_X_init_89 : decode (jm_cd mY_X_init) 89 = .ok (.aload_n 0, 1) := by decide +kernel
theorem d_X_init_90 : decode (jm_cd mY_X_init) 90 = .ok (.iconst 0, 1) := by decide +kernel
theorem d_X_init_91 : decode (jm_cd mY_X_init) 91 = .ok (.putfield 50, 3) := by decide +kernel
theorem d_X_init_94 : decode (jm_cd mY_X_init) 94 = .ok (.aload_n 0, 1) := by decide +kernel
theorem d_X_init_95 : decode (jm_cd mY_X_init) 95 = .ok (.new 54, 3) := by decide +kernel
theorem d_X_init_98 : decode (jm_cd mY_X_init) 98 = .ok (.dup, 1) := by decide +kernel
theorem d_X_init_99 : decode (jm_cd mY_X_init) 99 = .ok (.invokespecial 56, 3) := by decide +kernel
theorem d_X_init_102 : decode (jm_cd mY_X_init) 102 = .ok (.putfield 57, 3) := by decide +kernel
theorem d_X_init_105 : decode (jm_cd mY_X_init) 105 = .ok (.aload_n 0, 1) := by decide +kernel
theorem d_X_init_106 : decode (jm_cd mY_X_init) 106 = .ok (.new 61, 3) := by decide +kernel
theorem d_X_init_109 : decode (jm_cd mY_X_init) 109 = .ok (.dup, 1) := by decide +kernel
theorem d_X_init_110 : decode (jm_cd mY_X_init) 110 = .ok (.invokespecial 63, 3) := by decide +kernel
theorem d_X_init_113 : decode (jm_cd mY_X_init) 113 = .ok (.putfield 64, 3) := by decide +kernel
theorem d_X_init_116 : decode (jm_cd mY_X_init) 116 = .ok (.aload_n 0, 1) := by decide +kernel
theorem d_X_init_117 : decode (jm_cd mY_X_init) 117 = .ok (.new 68, 3) := by decide +kernel
theorem d_X_init_120 : decode (jm_cd mY_X_init) 120 = .ok (.dup, 1) := by decide +kernel
theorem d_X_init_121 : decode (jm_cd mY_X_init) 121 = .ok (.invokespecial 70, 3) := by decide +kernel
theorem d_X_init_124 : decode (jm_cd mY_X_init) 124 = .ok (.putfield 71, 3) := by decide +kernel
theorem d_X_init_127 : decode (jm_cd mY_X_init) 127 = .ok (.aload_n 0, 1) := by decide +kernel
theorem d_X_init_128 : decode (jm_cd mY_X_init) 128 = .ok (.new 75, 3) := by decide +kernel
theorem d_X_init_131 : decode (jm_cd mY_X_init) 131 = .ok (.dup, 1) := by decide +kernel
theorem d_X_init_132 : decode (jm_cd mY_X_init) 132 = .ok (.invokespecial 77, 3) := by decide +kernel
theorem d_X_init_135 : decode (jm_cd mY_X_init) 135 = .ok (.putfield 78, 3) := by decide +kernel
theorem d_X_init_138 : decode (jm_cd mY_X_init) 138 = .ok (.return_, 1) := by decide +kernel
def s_X_init (s : jm_M) : Option jm_M := jm_ev (jm_z s 2) (fun s1 => jm_ev (jm_si s1 1 1 0) (fun s2 => jm_ev (jm_z s2 3) (fun s3 => jm_bd (s_Re_init s3) (fun s4 => jm_ev (jm_z s4 5) (fun s5 => jm_bd (s_Ne_init_5 s5) (fun s6 => jm_ev (jm_z s6 15) (fun s7 => jm_bd (s_Ne_init_15 s7) (fun s8 => jm_ev (jm_z s8 25) (fun s9 => jm_bd (s_Ne_init_25 s9) (fun s10 => jm_ev (jm_z s10 35) (fun s11 => jm_bd (s_Ne_init_35 s11) (fun s12 => jm_ev (jm_si s12 1 7 0) (fun s13 => jm_ev (jm_z s13 45) (fun s14 => jm_bd (s_Ni_init s14) (fun s15 => jm_ev (jm_si s15 1 9 0) (fun s16 => jm_ev (jm_z s16 48) (fun s17 => jm_bd (s_Co_init s17) (fun s18 => jm_ev (jm_z s18 53) (fun s19 => jm_bd (s_Si_init s19) (fun s20 => jm_ev (jm_z s20 55) (fun s21 => jm_bd (s_Wa_init s21) (fun s22 => jm_ev (jm_z s22 57) (fun s23 => jm_bd (s_Ki_init s23) (fun s24 => (some s24)))))))))))))))))))))))))
set_option maxRecDepth 100000 in
set_option maxHeartbeats 4000000 in
theorem s_X_init_ok (s : jm_M) : jm_Sim mY_X_init 0 0 0 [(0, .ref 1)] [] 1 mr_1 s (s_X_init s) (jm_rV 58 mr_115) := by
  unfold s_X_init
  refine jm_aload_n (pc := 0) (q := 0) (x := 1) d_X_init_0 rfl ?_
  refine jm_oinit (pc := 1) d_X_init_1 mlo_X_3 oi_im oi_cd (Nat.le_of_ble_eq_true rfl) (Nat.le_of_ble_eq_true rfl) ?_
  refine jm_aload_n (pc := 4) (q := 0) (x := 1) d_X_init_4 rfl ?_
  refine jm_sipush (pc := 5) (v := 300) d_X_init_5 cs_300 ?_
  refine jm_nab (pc := 8) (N := 300) d_X_init_8 ac_byte (by decide) (by decide) (by decide) sh_2 (Nat.le_of_ble_eq_true rfl) (Nat.le_of_ble_eq_true rfl) (fun s1 => ?_)
  show jm_Sim _ 1 300 10 [(0, .ref 1)] [.ref 2, .ref 1] 2 mr_2 s1 _ _
  refine jm_pr (pc := 10) (i := 1) (q := 2) d_X_init_10 fp_X_9 (fun _ => rfl) sh_1 ge_1 le_1_2 ge_2 rfl (fun _ => rfl) (fun _ => rfl) (fun _ _ _ => rfl) ?_
  refine jm_aload_n (pc := 13) (q := 0) (x := 1) d_X_init_13 rfl ?_
  refine jm_iconst (pc := 14) (v := 0) d_X_init_14 ci_0 ?_
  refine jm_pi (pc := 15) (i := 1) d_X_init_15 fp_X_13 sh_1 ge_1 le_1_2 rfl rfl rfl (fun _ _ _ => rfl) (fun s2 => ?_)
  refine jm_aload_n (pc := 18) (q := 0) (x := 1) d_X_init_18 rfl ?_
  refine jm_new (pc := 19) (ci := 4) d_X_init_19 inY5 rfl tyX5_ok ft_Re okt_Re cl_X_17 it_Re ini_Re sh_3 (Nat.le_of_ble_eq_true rfl) (Nat.le_of_ble_eq_true rfl) (fun s3 => ?_)
  show jm_Sim _ 2 307 22 [(0, .ref 1)] [.ref 3, .ref 1] 3 mr_4 s3 _ _
  refine jm_dup (pc := 22) d_X_init_22 rfl ?_
  refine jm_runI (pc := 23) (Y' := mY_Re_init) (i := 3) (avs := []) (rest := [.ref 3, .ref 1]) (s_Re_init_ok s3) ok_Re_init lk_X_init__Re_init ml_X_19 im_Re_init rfl rfl d_X_init_23 rfl ge_3 rfl (Nat.le_of_ble_eq_true rfl) (Nat.le_of_ble_eq_true rfl) (Nat.le_of_ble_eq_true rfl) (Nat.le_of_ble_eq_true rfl) (fun _ _ _ => rfl) (fun s4 => ?_)
  show jm_Sim _ 3 311 26 [(0, .ref 1)] [.ref 3, .ref 1] 4 mr_6 s4 _ _
  refine jm_pr (pc := 26) (i := 1) (q := 3) d_X_init_26 fp_X_20 (fun _ => rfl) sh_1 ge_1 le_1_4 ge_3 rfl (fun _ => rfl) (fun _ => rfl) (fun _ _ _ => rfl) ?_
  refine jm_aload_n (pc := 29) (q := 0) (x := 1) d_X_init_29 rfl ?_
  refine jm_new (pc := 30) (ci := 2) d_X_init_30 inY3 rfl tyX3_ok ft_Ne okt_Ne cl_X_24 it_Ne ini_Ne sh_5 (Nat.le_of_ble_eq_true rfl) (Nat.le_of_ble_eq_true rfl) (fun s5 => ?_)
  show jm_Sim _ 4 323 33 [(0, .ref 1)] [.ref 5, .ref 1] 5 mr_8 s5 _ _
  refine jm_dup (pc := 33) d_X_init_33 rfl ?_
  refine jm_runI (pc := 34) (Y' := mY_Ne_init) (i := 5) (avs := []) (rest := [.ref 5, .ref 1]) (s_Ne_init_5_ok s5) ok_Ne_init lk_X_init__Ne_init ml_X_26 im_Ne_init rfl rfl d_X_init_34 rfl ge_5 rfl (Nat.le_of_ble_eq_true rfl) (Nat.le_of_ble_eq_true rfl) (Nat.le_of_ble_eq_true rfl) (Nat.le_of_ble_eq_true rfl) (fun _ _ _ => rfl) (fun s6 => ?_)
  show jm_Sim _ 13 503 37 [(0, .ref 1)] [.ref 5, .ref 1] 14 mr_26 s6 _ _
  refine jm_pr (pc := 37) (i := 1) (q := 5) d_X_init_37 fp_X_27 (fun _ => rfl) sh_1 ge_1 le_1_14 ge_5 rfl (fun _ => rfl) (fun _ => rfl) (fun _ _ _ => rfl) ?_
  refine jm_aload_n (pc := 40) (q := 0) (x := 1) d_X_init_40 rfl ?_
  refine jm_new (pc := 41) (ci := 2) d_X_init_41 inY3 rfl tyX3_ok ft_Ne okt_Ne cl_X_24 it_Ne ini_Ne sh_15 (Nat.le_of_ble_eq_true rfl) (Nat.le_of_ble_eq_true rfl) (fun s7 => ?_)
  show jm_Sim _ 14 515 44 [(0, .ref 1)] [.ref 15, .ref 1] 15 mr_28 s7 _ _
  refine jm_dup (pc := 44) d_X_init_44 rfl ?_
  refine jm_runI (pc := 45) (Y' := mY_Ne_init) (i := 15) (avs := []) (rest := [.ref 15, .ref 1]) (s_Ne_init_15_ok s7) ok_Ne_init lk_X_init__Ne_init ml_X_26 im_Ne_init rfl rfl d_X_init_45 rfl ge_15 rfl (Nat.le_of_ble_eq_true rfl) (Nat.le_of_ble_eq_true rfl) (Nat.le_of_ble_eq_true rfl) (Nat.le_of_ble_eq_true rfl) (fun _ _ _ => rfl) (fun s8 => ?_)
  show jm_Sim _ 23 695 48 [(0, .ref 1)] [.ref 15, .ref 1] 24 mr_46 s8 _ _
  refine jm_pr (pc := 48) (i := 1) (q := 15) d_X_init_48 fp_X_31 (fun _ => rfl) sh_1 ge_1 le_1_24 ge_15 rfl (fun _ => rfl) (fun _ => rfl) (fun _ _ _ => rfl) ?_
  refine jm_aload_n (pc := 51) (q := 0) (x := 1) d_X_init_51 rfl ?_
  refine jm_new (pc := 52) (ci := 2) d_X_init_52 inY3 rfl tyX3_ok ft_Ne okt_Ne cl_X_24 it_Ne ini_Ne sh_25 (Nat.le_of_ble_eq_true rfl) (Nat.le_of_ble_eq_true rfl) (fun s9 => ?_)
  show jm_Sim _ 24 707 55 [(0, .ref 1)] [.ref 25, .ref 1] 25 mr_48 s9 _ _
  refine jm_dup (pc := 55) d_X_init_55 rfl ?_
  refine jm_runI (pc := 56) (Y' := mY_Ne_init) (i := 25) (avs := []) (rest := [.ref 25, .ref 1]) (s_Ne_init_25_ok s9) ok_Ne_init lk_X_init__Ne_init ml_X_26 im_Ne_init rfl rfl d_X_init_56 rfl ge_25 rfl (Nat.le_of_ble_eq_true rfl) (Nat.le_of_ble_eq_true rfl) (Nat.le_of_ble_eq_true rfl) (Nat.le_of_ble_eq_true rfl) (fun _ _ _ => rfl) (fun s10 => ?_)
  show jm_Sim _ 33 887 59 [(0, .ref 1)] [.ref 25, .ref 1] 34 mr_66 s10 _ _
  refine jm_pr (pc := 59) (i := 1) (q := 25) d_X_init_59 fp_X_34 (fun _ => rfl) sh_1 ge_1 le_1_34 ge_25 rfl (fun _ => rfl) (fun _ => rfl) (fun _ _ _ => rfl) ?_
  refine jm_aload_n (pc := 62) (q := 0) (x := 1) d_X_init_62 rfl ?_
  refine jm_new (pc := 63) (ci := 2) d_X_init_63 inY3 rfl tyX3_ok ft_Ne okt_Ne cl_X_24 it_Ne ini_Ne sh_35 (Nat.le_of_ble_eq_true rfl) (Nat.le_of_ble_eq_true rfl) (fun s11 => ?_)
  show jm_Sim _ 34 899 66 [(0, .ref 1)] [.ref 35, .ref 1] 35 mr_68 s11 _ _
  refine jm_dup (pc := 66) d_X_init_66 rfl ?_
  refine jm_runI (pc := 67) (Y' := mY_Ne_init) (i := 35) (avs := []) (rest := [.ref 35, .ref 1]) (s_Ne_init_35_ok s11) ok_Ne_init lk_X_init__Ne_init ml_X_26 im_Ne_init rfl rfl d_X_init_67 rfl ge_35 rfl (Nat.le_of_ble_eq_true rfl) (Nat.le_of_ble_eq_true rfl) (Nat.le_of_ble_eq_true rfl) (Nat.le_of_ble_eq_true rfl) (fun _ _ _ => rfl) (fun s12 => ?_)
  show jm_Sim _ 43 1079 70 [(0, .ref 1)] [.ref 35, .ref 1] 44 mr_86 s12 _ _
  refine jm_pr (pc := 70) (i := 1) (q := 35) d_X_init_70 fp_X_37 (fun _ => rfl) sh_1 ge_1 le_1_44 ge_35 rfl (fun _ => rfl) (fun _ => rfl) (fun _ _ _ => rfl) ?_
  refine jm_aload_n (pc := 73) (q := 0) (x := 1) d_X_init_73 rfl ?_
  refine jm_iconst (pc := 74) (v := 0) d_X_init_74 ci_0 ?_
  refine jm_pi (pc := 75) (i := 1) d_X_init_75 fp_X_40 sh_1 ge_1 le_1_44 rfl rfl rfl (fun _ _ _ => rfl) (fun s13 => ?_)
  refine jm_aload_n (pc := 78) (q := 0) (x := 1) d_X_init_78 rfl ?_
  refine jm_new (pc := 79) (ci := 3) d_X_init_79 inY4 rfl tyX4_ok ft_Ni okt_Ni cl_X_43 it_Ni ini_Ni sh_45 (Nat.le_of_ble_eq_true rfl) (Nat.le_of_ble_eq_true rfl) (fun s14 => ?_)
  show jm_Sim _ 44 1082 82 [(0, .ref 1)] [.ref 45, .ref 1] 45 mr_88 s14 _ _
  refine jm_dup (pc := 82) d_X_init_82 rfl ?_
  refine jm_runI (pc := 83) (Y' := mY_Ni_init) (i := 45) (avs := []) (rest := [.ref 45, .ref 1]) (s_Ni_init_ok s14) ok_Ni_init lk_X_init__Ni_init ml_X_45 im_Ni_init rfl rfl d_X_init_83 rfl ge_45 rfl (Nat.le_of_ble_eq_true rfl) (Nat.le_of_ble_eq_true rfl) (Nat.le_of_ble_eq_true rfl) (Nat.le_of_ble_eq_true rfl) (fun _ _ _ => rfl) (fun s15 => ?_)
  show jm_Sim _ 46 1102 86 [(0, .ref 1)] [.ref 45, .ref 1] 47 mr_92 s15 _ _
  refine jm_pr (pc := 86) (i := 1) (q := 45) d_X_init_86 fp_X_46 (fun _ => rfl) sh_1 ge_1 le_1_47 ge_45 rfl (fun _ => rfl) (fun _ => rfl) (fun _ _ _ => rfl) ?_
  refine jm_aload_n (pc := 89) (q := 0) (x := 1) d_X_init_89 rfl ?_
  refine jm_iconst (pc := 90) (v := 0) d_X_init_90 ci_0 ?_
  refine jm_pi (pc := 91) (i := 1) d_X_init_91 fp_X_50 sh_1 ge_1 le_1_47 rfl (by decide) (by decide) (fun _ _ _ => rfl) (fun s16 => ?_)
  refine jm_aload_n (pc := 94) (q := 0) (x := 1) d_X_init_94 rfl ?_
  refine jm_new (pc := 95) (ci := 0) d_X_init_95 inY0 rfl tyX0_ok ft_Co okt_Co cl_X_54 it_Co ini_Co sh_48 (Nat.le_of_ble_eq_true rfl) (Nat.le_of_ble_eq_true rfl) (fun s17 => ?_)
  show jm_Sim _ 47 1112 98 [(0, .ref 1)] [.ref 48, .ref 1] 48 mr_94 s17 _ _
  refine jm_dup (pc := 98) d_X_init_98 rfl ?_
  refine jm_runI (pc := 99) (Y' := mY_Co_init) (i := 48) (avs := []) (rest := [.ref 48, .ref 1]) (s_Co_init_ok s17) ok_Co_init lk_X_init__Co_init ml_X_56 im_Co_init rfl rfl d_X_init_99 rfl ge_48 rfl (Nat.le_of_ble_eq_true rfl) (Nat.le_of_ble_eq_true rfl) (Nat.le_of_ble_eq_true rfl) (Nat.le_of_ble_eq_true rfl) (fun _ _ _ => rfl) (fun s18 => ?_)
  show jm_Sim _ 51 1242 102 [(0, .ref 1)] [.ref 48, .ref 1] 52 mr_102 s18 _ _
  refine jm_pr (pc := 102) (i := 1) (q := 48) d_X_init_102 fp_X_57 (fun _ => rfl) sh_1 ge_1 le_1_52 ge_48 rfl (fun _ => rfl) (fun _ => rfl) (fun _ _ _ => rfl) ?_
  refine jm_aload_n (pc := 105) (q := 0) (x := 1) d_X_init_105 rfl ?_
  refine jm_new (pc := 106) (ci := 5) d_X_init_106 inY6 rfl tyX6_ok ft_Si okt_Si cl_X_61 it_Si ini_Si sh_53 (Nat.le_of_ble_eq_true rfl) (Nat.le_of_ble_eq_true rfl) (fun s19 => ?_)
  show jm_Sim _ 52 1243 109 [(0, .ref 1)] [.ref 53, .ref 1] 53 mr_104 s19 _ _
  refine jm_dup (pc := 109) d_X_init_109 rfl ?_
  refine jm_runI (pc := 110) (Y' := mY_Si_init) (i := 53) (avs := []) (rest := [.ref 53, .ref 1]) (s_Si_init_ok s19) ok_Si_init lk_X_init__Si_init ml_X_63 im_Si_init rfl rfl d_X_init_110 rfl ge_53 rfl (Nat.le_of_ble_eq_true rfl) (Nat.le_of_ble_eq_true rfl) (Nat.le_of_ble_eq_true rfl) (Nat.le_of_ble_eq_true rfl) (fun _ _ _ => rfl) (fun s20 => ?_)
  show jm_Sim _ 53 1315 113 [(0, .ref 1)] [.ref 53, .ref 1] 54 mr_106 s20 _ _
  refine jm_pr (pc := 113) (i := 1) (q := 53) d_X_init_113 fp_X_64 (fun _ => rfl) sh_1 ge_1 le_1_54 ge_53 rfl (fun _ => rfl) (fun _ => rfl) (fun _ _ _ => rfl) ?_
  refine jm_aload_n (pc := 116) (q := 0) (x := 1) d_X_init_116 rfl ?_
  refine jm_new (pc := 117) (ci := 6) d_X_init_117 inY7 rfl tyX7_ok ft_Wa okt_Wa cl_X_68 it_Wa ini_Wa sh_55 (Nat.le_of_ble_eq_true rfl) (Nat.le_of_ble_eq_true rfl) (fun s21 => ?_)
  show jm_Sim _ 54 1316 120 [(0, .ref 1)] [.ref 55, .ref 1] 55 mr_108 s21 _ _
  refine jm_dup (pc := 120) d_X_init_120 rfl ?_
  refine jm_runI (pc := 121) (Y' := mY_Wa_init) (i := 55) (avs := []) (rest := [.ref 55, .ref 1]) (s_Wa_init_ok s21) ok_Wa_init lk_X_init__Wa_init ml_X_70 im_Wa_init rfl rfl d_X_init_121 rfl ge_55 rfl (Nat.le_of_ble_eq_true rfl) (Nat.le_of_ble_eq_true rfl) (Nat.le_of_ble_eq_true rfl) (Nat.le_of_ble_eq_true rfl) (fun _ _ _ => rfl) (fun s22 => ?_)
  show jm_Sim _ 55 1320 124 [(0, .ref 1)] [.ref 55, .ref 1] 56 mr_110 s22 _ _
  refine jm_pr (pc := 124) (i := 1) (q := 55) d_X_init_124 fp_X_71 (fun _ => rfl) sh_1 ge_1 le_1_56 ge_55 rfl (fun _ => rfl) (fun _ => rfl) (fun _ _ _ => rfl) ?_
  refine jm_aload_n (pc := 127) (q := 0) (x := 1) d_X_init_127 rfl ?_
  refine jm_new (pc := 128) (ci := 1) d_X_init_128 inY1 rfl tyX1_ok ft_Ki okt_Ki cl_X_75 it_Ki ini_Ki sh_57 (Nat.le_of_ble_eq_true rfl) (Nat.le_of_ble_eq_true rfl) (fun s23 => ?_)
  show jm_Sim _ 56 1321 131 [(0, .ref 1)] [.ref 57, .ref 1] 57 mr_112 s23 _ _
  refine jm_dup (pc := 131) d_X_init_131 rfl ?_
  refine jm_runI (pc := 132) (Y' := mY_Ki_init) (i := 57) (avs := []) (rest := [.ref 57, .ref 1]) (s_Ki_init_ok s23) ok_Ki_init lk_X_init__Ki_init ml_X_77 im_Ki_init rfl rfl d_X_init_132 rfl ge_57 rfl (Nat.le_of_ble_eq_true rfl) (Nat.le_of_ble_eq_true rfl) (Nat.le_of_ble_eq_true rfl) (Nat.le_of_ble_eq_true rfl) (fun _ _ _ => rfl) (fun s24 => ?_)
  show jm_Sim _ 57 1324 135 [(0, .ref 1)] [.ref 57, .ref 1] 58 mr_114 s24 _ _
  refine jm_pr (pc := 135) (i := 1) (q := 57) d_X_init_135 fp_X_78 (fun _ => rfl) sh_1 ge_1 le_1_58 ge_57 rfl (fun _ => rfl) (fun _ => rfl) (fun _ _ _ => rfl) ?_
  exact jm_vret (pc := 138) d_X_init_138 rfl rfl rfl rfl
theorem d_Z_init_0 : decode (jm_cd mY_Z_init) 0 = .ok (.aload_n 0, 1) := by decide +kernel
theorem d_Z_init_1 : decode (jm_cd mY_Z_init) 1 = .ok (.invokespecial 1, 3) := by decide +kernel
theorem d_Z_init_4 : decode (jm_cd mY_Z_init) 4 = .ok (.aload_n 0, 1) := by decide +kernel
theorem d_Z_init_5 : decode (jm_cd mY_Z_init) 5 = .ok (.sipush 300, 3) := by decide +kernel
theorem d_Z_init_8 : decode (jm_cd mY_Z_init) 8 = .ok (.newarray .int, 2) := by decide +kernel
theorem d_Z_init_10 : decode (jm_cd mY_Z_init) 10 = .ok (.putfield 7, 3) := by decide +kernel
theorem d_Z_init_13 : decode (jm_cd mY_Z_init) 13 = .ok (.aload_n 0, 1) := by decide +kernel
theorem d_Z_init_14 : decode (jm_cd mY_Z_init) 14 = .ok (.iconst 4, 1) := by decide +kernel
theorem d_Z_init_15 : decode (jm_cd mY_Z_init) 15 = .ok (.newarray .int, 2) := by decide +kernel
theorem d_Z_init_17 : decode (jm_cd mY_Z_init) 17 = .ok (.putfield 13, 3) := by decide +kernel
theorem d_Z_init_20 : decode (jm_cd mY_Z_init) 20 = .ok (.aload_n 0, 1) := by decide +kernel
theorem d_Z_init_21 : decode (jm_cd mY_Z_init) 21 = .ok (.bipush 40, 2) := by decide +kernel
theorem d_Z_init_23 : decode (jm_cd mY_Z_init) 23 = .ok (.newarray .int, 2) := by decide +kernel
theorem d_Z_init_25 : decode (jm_cd mY_Z_init) 25 = .ok (.putfield 16, 3) := by decide +kernel
theorem d_Z_init_28 : decode (jm_cd mY_Z_init) 28 = .ok (.aload_n 0, 1) := by decide +kernel
theorem d_Z_init_29 : decode (jm_cd mY_Z_init) 29 = .ok (.bipush 40, 2) := by decide +kernel
theorem d_Z_init_31 : decode (jm_cd mY_Z_init) 31 = .ok (.newarray .int, 2) := by decide +kernel
theorem d_Z_init_33 : decode (jm_cd mY_Z_init) 33 = .ok (.putfield 19, 3) := by decide +kernel
theorem d_Z_init_36 : decode (jm_cd mY_Z_init) 36 = .ok (.aload_n 0, 1) := by decide +kernel
theorem d_Z_init_37 : decode (jm_cd mY_Z_init) 37 = .ok (.bipush 40, 2) := by decide +kernel
theorem d_Z_init_39 : decode (jm_cd mY_Z_init) 39 = .ok (.newarray .int, 2) := by decide +kernel
theorem d_Z_init_41 : decode (jm_cd mY_Z_init) 41 = .ok (.putfield 22, 3) := by decide +kernel
theorem d_Z_init_44 : decode (jm_cd mY_Z_init) 44 = .ok (.aload_n 0, 1) := by decide +kernel
theorem d_Z_init_45 : decode (jm_cd mY_Z_init) 45 = .ok (.bipush 40, 2) := by decide +kernel
theorem d_Z_init_47 : decode (jm_cd mY_Z_init) 47 = .ok (.newarray .int, 2) := by decide +kernel
theorem d_Z_init_49 : decode (jm_cd mY_Z_init) 49 = .ok (.putfield 25, 3) := by decide +kernel
theorem d_Z_init_52 : decode (jm_cd mY_Z_init) 52 = .ok (.aload_n 0, 1) := by decide +kernel
theorem d_Z_init_53 : decode (jm_cd mY_Z_init) 53 = .ok (.bipush 40, 2) := by decide +kernel
theorem d_Z_init_55 : decode (jm_cd mY_Z_init) 55 = .ok (.newarray .int, 2) := by decide +kernel
theorem d_Z_init_57 : decode (jm_cd mY_Z_init) 57 = .ok (.putfield 28, 3) := by decide +kernel
theorem d_Z_init_60 : decode (jm_cd mY_Z_init) 60 = .ok (.aload_n 0, 1) := by decide +kernel
theorem d_Z_init_61 : decode (jm_cd mY_Z_init) 61 = .ok (.iconst 4, 1) := by decide +kernel
theorem d_Z_init_62 : decode (jm_cd mY_Z_init) 62 = .ok (.newarray .int, 2) := by decide +kernel
theorem d_Z_init_64 : decode (jm_cd mY_Z_init) 64 = .ok (.putfield 31, 3) := by decide +kernel
theorem d_Z_init_67 : decode (jm_cd mY_Z_init) 67 = .ok (.aload_n 0, 1) := by decide +kernel
theorem d_Z_init_68 : decode (jm_cd mY_Z_init) 68 = .ok (.sipush 860, 3) := by decide +kernel
theorem d_Z_init_71 : decode (jm_cd mY_Z_init) 71 = .ok (.newarray .int, 2) := by decide +kernel
theorem d_Z_init_73 : decode (jm_cd mY_Z_init) 73 = .ok (.putfield 34, 3) := by decide +kernel
theorem d_Z_init_76 : decode (jm_cd mY_Z_init) 76 = .ok (.aload_n 0, 1) := by decide +kernel
theorem d_Z_init_77 : decode (jm_cd mY_Z_init) 77 = .ok (.bipush 9, 2) := by decide +kernel
theorem d_Z_init_79 : decode (jm_cd mY_Z_init) 79 = .ok (.newarray .int, 2) := by decide +kernel
theorem d_Z_init_81 : decode (jm_cd mY_Z_init) 81 = .ok (.putfield 37, 3) := by decide +kernel
theorem d_Z_init_84 : decode (jm_cd mY_Z_init) 84 = .ok (.aload_n 0, 1) := by decide +kernel
theorem d_Z_init_85 : decode (jm_cd mY_Z_init) 85 = .ok (.bipush 30, 2) := by decide +kernel
theorem d_Z_init_87 : decode (jm_cd mY_Z_init) 87 = .ok (.newarray .int, 2) := by decide +kernel
theorem d_Z_init_89 : decode (jm_cd mY_Z_init) 89 = .ok (.putfield 40, 3) := by decide +kernel
theorem d_Z_init_92 : decode (jm_cd mY_Z_init) 92 = .ok (.aload_n 0, 1) := by decide +kernel
theorem d_Z_init_93 : decode (jm_cd mY_Z_init) 93 = .ok (.bipush 72, 2) := by decide +kernel
theorem d_Z_init_95 : decode (jm_cd mY_Z_init) 95 = .ok (.newarray .int, 2) := by decide +kernel
theorem d_Z_init_97 : decode (jm_cd mY_Z_init) 97 = .ok (.putfield 43, 3) := by decide +kernel
theorem d_Z_init_100 : decode (jm_cd mY_Z_init) 100 = .ok (.aload_n 0, 1) := by decide +kernel
theorem d_Z_init_101 : decode (jm_cd mY_Z_init) 101 = .ok (.iconst 3, 1) := by decide +kernel
theorem d_Z_init_102 : decode (jm_cd mY_Z_init) 102 = .ok (.newarray .int, 2) := by decide +kernel
theorem d_Z_init_104 : decode (jm_cd mY_Z_init) 104 = .ok (.dup, 1) := by decide +kernel
theorem d_Z_init_105 : decode (jm_cd mY_Z_init) 105 = .ok (.iconst 0, 1) := by decide +kernel
theorem d_Z_init_106 : decode (jm_cd mY_Z_init) 106 = .ok (.bipush 100, 2) := by decide +kernel
theorem d_Z_init_108 : decode (jm_cd mY_Z_init) 108 = .ok (.iastore, 1) := by decide +kernel
theorem d_Z_init_109 : decode (jm_cd mY_Z_init) 109 = .ok (.dup, 1) := by decide +kernel
theorem d_Z_init_110 : decode (jm_cd mY_Z_init) 110 = .ok (.iconst 1, 1) := by decide +kernel
theorem d_Z_init_111 : decode (jm_cd mY_Z_init) 111 = .ok (.sipush 1000, 3) := by decide +kernel
theorem d_Z_init_114 : decode (jm_cd mY_Z_init) 114 = .ok (.iastore, 1) := by decide +kernel
theorem d_Z_init_115 : decode (jm_cd mY_Z_init) 115 = .ok (.dup, 1) := by decide +kernel
theorem d_Z_init_116 : decode (jm_cd mY_Z_init) 116 = .ok (.iconst 2, 1) := by decide +kernel
theorem d_Z_init_117 : decode (jm_cd mY_Z_init) 117 = .ok (.bipush 100, 2) := by decide +kernel
theorem d_Z_init_119 : decode (jm_cd mY_Z_init) 119 = .ok (.iastore, 1) := by decide +kernel
theorem d_Z_init_120 : decode (jm_cd mY_Z_init) 120 = .ok (.putfield 46, 3) := by decide +kernel
theorem d_Z_init_123 : decode (jm_cd mY_Z_init) 123 = .ok (.aload_n 0, 1) := by decide +kernel
theorem d_Z_init_124 : decode (jm_cd mY_Z_init) 124 = .ok (.iconst 4, 1) := by decide +kernel
theorem d_Z_init_125 : decode (jm_cd mY_Z_init) 125 = .ok (.newarray .int, 2) := by decide +kernel
theorem d_Z_init_127 : decode (jm_cd mY_Z_init) 127 = .ok (.putfield 49, 3) := by decide +kernel
theorem d_Z_init_130 : decode (jm_cd mY_Z_init) 130 = .ok (.aload_n 0, 1) := by decide +kernel
theorem d_Z_init_131 : decode (jm_cd mY_Z_init) 131 = .ok (.bipush 60, 2) := by decide +kernel
theorem d_Z_init_133 : decode (jm_cd mY_Z_init) 133 = .ok (.newarray .int, 2) := by decide +kernel
theorem d_Z_init_135 : decode (jm_cd mY_Z_init) 135 = .ok (.putfield 52, 3) := by decide +kernel
theorem d_Z_init_138 : decode (jm_cd mY_Z_init) 138 = .ok (.aload_n 0, 1) := by decide +kernel
theorem d_Z_init_139 : decode (jm_cd mY_Z_init) 139 = .ok (.bipush 10, 2) := by decide +kernel
theorem d_Z_init_141 : decode (jm_cd mY_Z_init) 141 = .ok (.newarray .int, 2) := by decide +kernel
theorem d_Z_init_143 : decode (jm_cd mY_Z_init) 143 = .ok (.putfield 55, 3) := by decide +kernel
theorem d_Z_init_146 : decode (jm_cd mY_Z_init) 146 = .ok (.aload_n 0, 1) := by decide +kernel
theorem d_Z_init_147 : decode (jm_cd mY_Z_init) 147 = .ok (.bipush 10, 2) := by decide +kernel
theorem d_Z_init_149 : decode (jm_cd mY_Z_init) 149 = .ok (.newarray .int, 2) := by decide +kernel
theorem d_Z_init_151 : decode (jm_cd mY_Z_init) 151 = .ok (.putfield 58, 3) := by decide +kernel
theorem d_Z_init_154 : decode (jm_cd mY_Z_init) 154 = .ok (.aload_n 0, 1) := by decide +kernel
theorem d_Z_init_155 : decode (jm_cd mY_Z_init) 155 = .ok (.bipush 10, 2) := by decide +kernel
theorem d_Z_init_157 : decode (jm_cd mY_Z_init) 157 = .ok (.newarray .int, 2) := by decide +kernel
theorem d_Z_init_159 : decode (jm_cd mY_Z_init) 159 = .ok (.putfield 61, 3) := by decide +kernel
theorem d_Z_init_162 : decode (jm_cd mY_Z_init) 162 = .ok (.aload_n 0, 1) := by decide +kernel
theorem d_Z_init_163 : decode (jm_cd mY_Z_init) 163 = .ok (.iconst 4, 1) := by decide +kernel
theorem d_Z_init_164 : decode (jm_cd mY_Z_init) 164 = .ok (.newarray .int, 2) := by decide +kernel
theorem d_Z_init_166 : decode (jm_cd mY_Z_init) 166 = .ok (.putfield 64, 3) := by decide +kernel
theorem d_Z_init_169 : decode (jm_cd mY_Z_init) 169 = .ok (.iconst 0, 1) := by decide +kernel
theorem d_Z_init_170 : decode (jm_cd mY_Z_init) 170 = .ok (.istore_n 1, 1) := by decide +kernel
theorem d_Z_init_171 : decode (jm_cd mY_Z_init) 171 = .ok (.iload_n 1, 1) := by decide +kernel
theorem d_Z_init_172 : decode (jm_cd mY_Z_init) 172 = .ok (.bipush 10, 2) := by decide +kernel
theorem d_Z_init_174 : decode (jm_cd mY_Z_init) 174 = .ok (.if_icmp .ge 16, 3) := by decide +kernel
theorem d_Z_init_177 : decode (jm_cd mY_Z_init) 177 = .ok (.aload_n 0, 1) := by decide +kernel
theorem d_Z_init_178 : decode (jm_cd mY_Z_init) 178 = .ok (.getfield 40, 3) := by decide +kernel
theorem d_Z_init_181 : decode (jm_cd mY_Z_init) 181 = .ok (.iload_n 1, 1) := by decide +kernel
theorem d_Z_init_182 : decode (jm_cd mY_Z_init) 182 = .ok (.iconst (-1), 1) := by decide +kernel
theorem d_Z_init_183 : decode (jm_cd mY_Z_init) 183 = .ok (.iastore, 1) := by decide +kernel
theorem d_Z_init_184 : decode (jm_cd mY_Z_init) 184 = .ok (.iinc 1 1, 3) := by decide +kernel
theorem d_Z_init_187 : decode (jm_cd mY_Z_init) 187 = .ok (.goto (-16), 3) := by decide +kernel
theorem d_Z_init_190 : decode (jm_cd mY_Z_init) 190 = .ok (.return_, 1) := by decide +kernel
def s_Z_init_L171 : Nat → Int32 → jm_M → Option jm_M
  | 0, _, _ => none
  | n + 1, x1, s => (if 10 ≤ x1 then (some s) else jm_sti s 70 30 x1 (-1) (fun s23 => s_Z_init_L171 n (x1 + 1) s23))
set_option maxRecDepth 100000 in
set_option maxHeartbeats 4000000 in
theorem s_Z_init_L171_ok : ∀ (n : Nat) (x1 : Int32) (s : jm_M), jm_Sim mY_Z_init 19 1580 171 [(0, .ref 59), (1, .int x1)] [] 78 mr_154 s (s_Z_init_L171 n x1 s) (jm_rV 78 mr_154) := by
  intro n
  induction n with
  | zero => intro x1 s; exact jm_none
  | succ n ih =>
    intro x1 s
    rw [s_Z_init_L171]
    refine jm_iload_n (pc := 171) (q := 1) (x := x1) d_Z_init_171 rfl ?_
    refine jm_bipush (pc := 172) (v := 10) d_Z_init_172 cb_10 ?_
    refine jm_icmp_ge (pc := 174) (tgt := 190) d_Z_init_174 (by decide) ?_ ?_
    · exact jm_vret (pc := 190) d_Z_init_190 rfl rfl rfl rfl
    · refine jm_aload_n (pc := 177) (q := 0) (x := 59) d_Z_init_177 rfl ?_
      refine jm_gr (pc := 178) (i := 59) d_Z_init_178 fo_Z_40 sh_59 ge_59 le_59_78 rfl (fun _ => rfl) mr_154_59_11 ge_70 ?_
      refine jm_iload_n (pc := 181) (q := 1) (x := x1) d_Z_init_181 rfl ?_
      refine jm_iconst (pc := 182) (v := (-1)) d_Z_init_182 ci_m1 ?_
      refine jm_iast (pc := 183) d_Z_init_183 sh_70 ge_70 le_70_78 (fun s23 => ?_)
      refine jm_iinc (pc := 184) (q := 1) (x := x1) (v := 1) (L2 := [(1, .int (x1 + 1)), (0, .ref 59)]) d_Z_init_184 rfl ci_1 (Nat.le_of_ble_eq_true rfl) rfl ?_
      refine jm_goto (pc := 187) (tgt := 171) d_Z_init_187 (by decide) ?_
      refine jm_sub (L2 := [(0, .ref 59), (1, .int (x1 + 1))]) [1, 0] rfl ?_
      exact ih (x1 + 1) s23
def s_Z_init (s : jm_M) : Option jm_M := jm_ev (jm_z s 60) (fun s1 => jm_ev (jm_z s1 61) (fun s2 => jm_ev (jm_z s2 62) (fun s3 => jm_ev (jm_z s3 63) (fun s4 => jm_ev (jm_z s4 64) (fun s5 => jm_ev (jm_z s5 65) (fun s6 => jm_ev (jm_z s6 66) (fun s7 => jm_ev (jm_z s7 67) (fun s8 => jm_ev (jm_z s8 68) (fun s9 => jm_ev (jm_z s9 69) (fun s10 => jm_ev (jm_z s10 70) (fun s11 => jm_ev (jm_z s11 71) (fun s12 => jm_ev (jm_z s12 72) (fun s13 => jm_sti s13 72 3 0 100 (fun s14 => jm_sti s14 72 3 1 1000 (fun s15 => jm_sti s15 72 3 2 100 (fun s16 => jm_ev (jm_z s16 73) (fun s17 => jm_ev (jm_z s17 74) (fun s18 => jm_ev (jm_z s18 75) (fun s19 => jm_ev (jm_z s19 76) (fun s20 => jm_ev (jm_z s20 77) (fun s21 => jm_ev (jm_z s21 78) (fun s22 => s_Z_init_L171 5000 0 s22))))))))))))))))))))))
set_option maxRecDepth 100000 in
set_option maxHeartbeats 4000000 in
theorem s_Z_init_ok (s : jm_M) : jm_Sim mY_Z_init 0 0 0 [(0, .ref 59)] [] 59 mr_116 s (s_Z_init s) (jm_rV 78 mr_154) := by
  unfold s_Z_init
  refine jm_aload_n (pc := 0) (q := 0) (x := 59) d_Z_init_0 rfl ?_
  refine jm_oinit (pc := 1) d_Z_init_1 mlo_Z_1 oi_im oi_cd (Nat.le_of_ble_eq_true rfl) (Nat.le_of_ble_eq_true rfl) ?_
  refine jm_aload_n (pc := 4) (q := 0) (x := 59) d_Z_init_4 rfl ?_
  refine jm_sipush (pc := 5) (v := 300) d_Z_init_5 cs_300 ?_
  refine jm_nai (pc := 8) (N := 300) d_Z_init_8 ac_int (by decide) (by decide) (by decide) sh_60 (Nat.le_of_ble_eq_true rfl) (Nat.le_of_ble_eq_true rfl) (fun s1 => ?_)
  show jm_Sim _ 1 300 10 [(0, .ref 59)] [.ref 60, .ref 59] 60 mr_117 s1 _ _
  refine jm_pr (pc := 10) (i := 59) (q := 60) d_Z_init_10 fp_Z_7 (fun _ => rfl) sh_59 ge_59 le_59_60 ge_60 rfl (fun _ => rfl) (fun _ => rfl) (fun _ _ _ => rfl) ?_
  refine jm_aload_n (pc := 13) (q := 0) (x := 59) d_Z_init_13 rfl ?_
  refine jm_iconst (pc := 14) (v := 4) d_Z_init_14 ci_4 ?_
  refine jm_nai (pc := 15) (N := 4) d_Z_init_15 ac_int (by decide) (by decide) (by decide) sh_61 (Nat.le_of_ble_eq_true rfl) (Nat.le_of_ble_eq_true rfl) (fun s2 => ?_)
  show jm_Sim _ 2 304 17 [(0, .ref 59)] [.ref 61, .ref 59] 61 mr_119 s2 _ _
  refine jm_pr (pc := 17) (i := 59) (q := 61) d_Z_init_17 fp_Z_13 (fun _ => rfl) sh_59 ge_59 le_59_61 ge_61 rfl (fun _ => rfl) (fun _ => rfl) (fun _ _ _ => rfl) ?_
  refine jm_aload_n (pc := 20) (q := 0) (x := 59) d_Z_init_20 rfl ?_
  refine jm_bipush (pc := 21) (v := 40) d_Z_init_21 cb_40 ?_
  refine jm_nai (pc := 23) (N := 40) d_Z_init_23 ac_int (by decide) (by decide) (by decide) sh_62 (Nat.le_of_ble_eq_true rfl) (Nat.le_of_ble_eq_true rfl) (fun s3 => ?_)
  show jm_Sim _ 3 344 25 [(0, .ref 59)] [.ref 62, .ref 59] 62 mr_121 s3 _ _
  refine jm_pr (pc := 25) (i := 59) (q := 62) d_Z_init_25 fp_Z_16 (fun _ => rfl) sh_59 ge_59 le_59_62 ge_62 rfl (fun _ => rfl) (fun _ => rfl) (fun _ _ _ => rfl) ?_
  refine jm_aload_n (pc := 28) (q := 0) (x := 59) d_Z_init_28 rfl ?_
  refine jm_bipush (pc := 29) (v := 40) d_Z_init_29 cb_40 ?_
  refine jm_nai (pc := 31) (N := 40) d_Z_init_31 ac_int (by decide) (by decide) (by decide) sh_63 (Nat.le_of_ble_eq_true rfl) (Nat.le_of_ble_eq_true rfl) (fun s4 => ?_)
  show jm_Sim _ 4 384 33 [(0, .ref 59)] [.ref 63, .ref 59] 63 mr_123 s4 _ _
  refine jm_pr (pc := 33) (i := 59) (q := 63) d_Z_init_33 fp_Z_19 (fun _ => rfl) sh_59 ge_59 le_59_63 ge_63 rfl (fun _ => rfl) (fun _ => rfl) (fun _ _ _ => rfl) ?_
  refine jm_aload_n (pc := 36) (q := 0) (x := 59) d_Z_init_36 rfl ?_
  refine jm_bipush (pc := 37) (v := 40) d_Z_init_37 cb_40 ?_
  refine jm_nai (pc := 39) (N := 40) d_Z_init_39 ac_int (by decide) (by decide) (by decide) sh_64 (Nat.le_of_ble_eq_true rfl) (Nat.le_of_ble_eq_true rfl) (fun s5 => ?_)
  show jm_Sim _ 5 424 41 [(0, .ref 59)] [.ref 64, .ref 59] 64 mr_125 s5 _ _
  refine jm_pr (pc := 41) (i := 59) (q := 64) d_Z_init_41 fp_Z_22 (fun _ => rfl) sh_59 ge_59 le_59_64 ge_64 rfl (fun _ => rfl) (fun _ => rfl) (fun _ _ _ => rfl) ?_
  refine jm_aload_n (pc := 44) (q := 0) (x := 59) d_Z_init_44 rfl ?_
  refine jm_bipush (pc := 45) (v := 40) d_Z_init_45 cb_40 ?_
  refine jm_nai (pc := 47) (N := 40) d_Z_init_47 ac_int (by decide) (by decide) (by decide) sh_65 (Nat.le_of_ble_eq_true rfl) (Nat.le_of_ble_eq_true rfl) (fun s6 => ?_)
  show jm_Sim _ 6 464 49 [(0, .ref 59)] [.ref 65, .ref 59] 65 mr_127 s6 _ _
  refine jm_pr (pc := 49) (i := 59) (q := 65) d_Z_init_49 fp_Z_25 (fun _ => rfl) sh_59 ge_59 le_59_65 ge_65 rfl (fun _ => rfl) (fun _ => rfl) (fun _ _ _ => rfl) ?_
  refine jm_aload_n (pc := 52) (q := 0) (x := 59) d_Z_init_52 rfl ?_
  refine jm_bipush (pc := 53) (v := 40) d_Z_init_53 cb_40 ?_
  refine jm_nai (pc := 55) (N := 40) d_Z_init_55 ac_int (by decide) (by decide) (by decide) sh_66 (Nat.le_of_ble_eq_true rfl) (Nat.le_of_ble_eq_true rfl) (fun s7 => ?_)
  show jm_Sim _ 7 504 57 [(0, .ref 59)] [.ref 66, .ref 59] 66 mr_129 s7 _ _
  refine jm_pr (pc := 57) (i := 59) (q := 66) d_Z_init_57 fp_Z_28 (fun _ => rfl) sh_59 ge_59 le_59_66 ge_66 rfl (fun _ => rfl) (fun _ => rfl) (fun _ _ _ => rfl) ?_
  refine jm_aload_n (pc := 60) (q := 0) (x := 59) d_Z_init_60 rfl ?_
  refine jm_iconst (pc := 61) (v := 4) d_Z_init_61 ci_4 ?_
  refine jm_nai (pc := 62) (N := 4) d_Z_init_62 ac_int (by decide) (by decide) (by decide) sh_67 (Nat.le_of_ble_eq_true rfl) (Nat.le_of_ble_eq_true rfl) (fun s8 => ?_)
  show jm_Sim _ 8 508 64 [(0, .ref 59)] [.ref 67, .ref 59] 67 mr_131 s8 _ _
  refine jm_pr (pc := 64) (i := 59) (q := 67) d_Z_init_64 fp_Z_31 (fun _ => rfl) sh_59 ge_59 le_59_67 ge_67 rfl (fun _ => rfl) (fun _ => rfl) (fun _ _ _ => rfl) ?_
  refine jm_aload_n (pc := 67) (q := 0) (x := 59) d_Z_init_67 rfl ?_
  refine jm_sipush (pc := 68) (v := 860) d_Z_init_68 cs_860 ?_
  refine jm_nai (pc := 71) (N := 860) d_Z_init_71 ac_int (by decide) (by decide) (by decide) sh_68 (Nat.le_of_ble_eq_true rfl) (Nat.le_of_ble_eq_true rfl) (fun s9 => ?_)
  show jm_Sim _ 9 1368 73 [(0, .ref 59)] [.ref 68, .ref 59] 68 mr_133 s9 _ _
  refine jm_pr (pc := 73) (i := 59) (q := 68) d_Z_init_73 fp_Z_34 (fun _ => rfl) sh_59 ge_59 le_59_68 ge_68 rfl (fun _ => rfl) (fun _ => rfl) (fun _ _ _ => rfl) ?_
  refine jm_aload_n (pc := 76) (q := 0) (x := 59) d_Z_init_76 rfl ?_
  refine jm_bipush (pc := 77) (v := 9) d_Z_init_77 cb_9 ?_
  refine jm_nai (pc := 79) (N := 9) d_Z_init_79 ac_int (by decide) (by decide) (by decide) sh_69 (Nat.le_of_ble_eq_true rfl) (Nat.le_of_ble_eq_true rfl) (fun s10 => ?_)
  show jm_Sim _ 10 1377 81 [(0, .ref 59)] [.ref 69, .ref 59] 69 mr_135 s10 _ _
  refine jm_pr (pc := 81) (i := 59) (q := 69) d_Z_init_81 fp_Z_37 (fun _ => rfl) sh_59 ge_59 le_59_69 ge_69 rfl (fun _ => rfl) (fun _ => rfl) (fun _ _ _ => rfl) ?_
  refine jm_aload_n (pc := 84) (q := 0) (x := 59) d_Z_init_84 rfl ?_
  refine jm_bipush (pc := 85) (v := 30) d_Z_init_85 cb_30 ?_
  refine jm_nai (pc := 87) (N := 30) d_Z_init_87 ac_int (by decide) (by decide) (by decide) sh_70 (Nat.le_of_ble_eq_true rfl) (Nat.le_of_ble_eq_true rfl) (fun s11 => ?_)
  show jm_Sim _ 11 1407 89 [(0, .ref 59)] [.ref 70, .ref 59] 70 mr_137 s11 _ _
  refine jm_pr (pc := 89) (i := 59) (q := 70) d_Z_init_89 fp_Z_40 (fun _ => rfl) sh_59 ge_59 le_59_70 ge_70 rfl (fun _ => rfl) (fun _ => rfl) (fun _ _ _ => rfl) ?_
  refine jm_aload_n (pc := 92) (q := 0) (x := 59) d_Z_init_92 rfl ?_
  refine jm_bipush (pc := 93) (v := 72) d_Z_init_93 cb_72 ?_
  refine jm_nai (pc := 95) (N := 72) d_Z_init_95 ac_int (by decide) (by decide) (by decide) sh_71 (Nat.le_of_ble_eq_true rfl) (Nat.le_of_ble_eq_true rfl) (fun s12 => ?_)
  show jm_Sim _ 12 1479 97 [(0, .ref 59)] [.ref 71, .ref 59] 71 mr_139 s12 _ _
  refine jm_pr (pc := 97) (i := 59) (q := 71) d_Z_init_97 fp_Z_43 (fun _ => rfl) sh_59 ge_59 le_59_71 ge_71 rfl (fun _ => rfl) (fun _ => rfl) (fun _ _ _ => rfl) ?_
  refine jm_aload_n (pc := 100) (q := 0) (x := 59) d_Z_init_100 rfl ?_
  refine jm_iconst (pc := 101) (v := 3) d_Z_init_101 ci_3 ?_
  refine jm_nai (pc := 102) (N := 3) d_Z_init_102 ac_int (by decide) (by decide) (by decide) sh_72 (Nat.le_of_ble_eq_true rfl) (Nat.le_of_ble_eq_true rfl) (fun s13 => ?_)
  show jm_Sim _ 13 1482 104 [(0, .ref 59)] [.ref 72, .ref 59] 72 mr_141 s13 _ _
  refine jm_dup (pc := 104) d_Z_init_104 rfl ?_
  refine jm_iconst (pc := 105) (v := 0) d_Z_init_105 ci_0 ?_
  refine jm_bipush (pc := 106) (v := 100) d_Z_init_106 cb_100 ?_
  refine jm_iast (pc := 108) d_Z_init_108 sh_72 ge_72 le_72_72 (fun s14 => ?_)
  refine jm_dup (pc := 109) d_Z_init_109 rfl ?_
  refine jm_iconst (pc := 110) (v := 1) d_Z_init_110 ci_1 ?_
  refine jm_sipush (pc := 111) (v := 1000) d_Z_init_111 cs_1000 ?_
  refine jm_iast (pc := 114) d_Z_init_114 sh_72 ge_72 le_72_72 (fun s15 => ?_)
  refine jm_dup (pc := 115) d_Z_init_115 rfl ?_
  refine jm_iconst (pc := 116) (v := 2) d_Z_init_116 ci_2 ?_
  refine jm_bipush (pc := 117) (v := 100) d_Z_init_117 cb_100 ?_
  refine jm_iast (pc := 119) d_Z_init_119 sh_72 ge_72 le_72_72 (fun s16 => ?_)
  refine jm_pr (pc := 120) (i := 59) (q := 72) d_Z_init_120 fp_Z_46 (fun _ => rfl) sh_59 ge_59 le_59_72 ge_72 rfl (fun _ => rfl) (fun _ => rfl) (fun _ _ _ => rfl) ?_
  refine jm_aload_n (pc := 123) (q := 0) (x := 59) d_Z_init_123 rfl ?_
  refine jm_iconst (pc := 124) (v := 4) d_Z_init_124 ci_4 ?_
  refine jm_nai (pc := 125) (N := 4) d_Z_init_125 ac_int (by decide) (by decide) (by decide) sh_73 (Nat.le_of_ble_eq_true rfl) (Nat.le_of_ble_eq_true rfl) (fun s17 => ?_)
  show jm_Sim _ 14 1486 127 [(0, .ref 59)] [.ref 73, .ref 59] 73 mr_143 s17 _ _
  refine jm_pr (pc := 127) (i := 59) (q := 73) d_Z_init_127 fp_Z_49 (fun _ => rfl) sh_59 ge_59 le_59_73 ge_73 rfl (fun _ => rfl) (fun _ => rfl) (fun _ _ _ => rfl) ?_
  refine jm_aload_n (pc := 130) (q := 0) (x := 59) d_Z_init_130 rfl ?_
  refine jm_bipush (pc := 131) (v := 60) d_Z_init_131 cb_60 ?_
  refine jm_nai (pc := 133) (N := 60) d_Z_init_133 ac_int (by decide) (by decide) (by decide) sh_74 (Nat.le_of_ble_eq_true rfl) (Nat.le_of_ble_eq_true rfl) (fun s18 => ?_)
  show jm_Sim _ 15 1546 135 [(0, .ref 59)] [.ref 74, .ref 59] 74 mr_145 s18 _ _
  refine jm_pr (pc := 135) (i := 59) (q := 74) d_Z_init_135 fp_Z_52 (fun _ => rfl) sh_59 ge_59 le_59_74 ge_74 rfl (fun _ => rfl) (fun _ => rfl) (fun _ _ _ => rfl) ?_
  refine jm_aload_n (pc := 138) (q := 0) (x := 59) d_Z_init_138 rfl ?_
  refine jm_bipush (pc := 139) (v := 10) d_Z_init_139 cb_10 ?_
  refine jm_nai (pc := 141) (N := 10) d_Z_init_141 ac_int (by decide) (by decide) (by decide) sh_75 (Nat.le_of_ble_eq_true rfl) (Nat.le_of_ble_eq_true rfl) (fun s19 => ?_)
  show jm_Sim _ 16 1556 143 [(0, .ref 59)] [.ref 75, .ref 59] 75 mr_147 s19 _ _
  refine jm_pr (pc := 143) (i := 59) (q := 75) d_Z_init_143 fp_Z_55 (fun _ => rfl) sh_59 ge_59 le_59_75 ge_75 rfl (fun _ => rfl) (fun _ => rfl) (fun _ _ _ => rfl) ?_
  refine jm_aload_n (pc := 146) (q := 0) (x := 59) d_Z_init_146 rfl ?_
  refine jm_bipush (pc := 147) (v := 10) d_Z_init_147 cb_10 ?_
  refine jm_nai (pc := 149) (N := 10) d_Z_init_149 ac_int (by decide) (by decide) (by decide) sh_76 (Nat.le_of_ble_eq_true rfl) (Nat.le_of_ble_eq_true rfl) (fun s20 => ?_)
  show jm_Sim _ 17 1566 151 [(0, .ref 59)] [.ref 76, .ref 59] 76 mr_149 s20 _ _
  refine jm_pr (pc := 151) (i := 59) (q := 76) d_Z_init_151 fp_Z_58 (fun _ => rfl) sh_59 ge_59 le_59_76 ge_76 rfl (fun _ => rfl) (fun _ => rfl) (fun _ _ _ => rfl) ?_
  refine jm_aload_n (pc := 154) (q := 0) (x := 59) d_Z_init_154 rfl ?_
  refine jm_bipush (pc := 155) (v := 10) d_Z_init_155 cb_10 ?_
  refine jm_nai (pc := 157) (N := 10) d_Z_init_157 ac_int (by decide) (by decide) (by decide) sh_77 (Nat.le_of_ble_eq_true rfl) (Nat.le_of_ble_eq_true rfl) (fun s21 => ?_)
  show jm_Sim _ 18 1576 159 [(0, .ref 59)] [.ref 77, .ref 59] 77 mr_151 s21 _ _
  refine jm_pr (pc := 159) (i := 59) (q := 77) d_Z_init_159 fp_Z_61 (fun _ => rfl) sh_59 ge_59 le_59_77 ge_77 rfl (fun _ => rfl) (fun _ => rfl) (fun _ _ _ => rfl) ?_
  refine jm_aload_n (pc := 162) (q := 0) (x := 59) d_Z_init_162 rfl ?_
  refine jm_iconst (pc := 163) (v := 4) d_Z_init_163 ci_4 ?_
  refine jm_nai (pc := 164) (N := 4) d_Z_init_164 ac_int (by decide) (by decide) (by decide) sh_78 (Nat.le_of_ble_eq_true rfl) (Nat.le_of_ble_eq_true rfl) (fun s22 => ?_)
  show jm_Sim _ 19 1580 166 [(0, .ref 59)] [.ref 78, .ref 59] 78 mr_153 s22 _ _
  refine jm_pr (pc := 166) (i := 59) (q := 78) d_Z_init_166 fp_Z_64 (fun _ => rfl) sh_59 ge_59 le_59_78 ge_78 rfl (fun _ => rfl) (fun _ => rfl) (fun _ _ _ => rfl) ?_
  refine jm_iconst (pc := 169) (v := 0) d_Z_init_169 ci_0 ?_
  refine jm_istore_n (pc := 170) (i := 1) (L2 := [(1, .int 0), (0, .ref 59)]) d_Z_init_170 rfl (Nat.le_of_ble_eq_true rfl) rfl ?_
  refine jm_sub (L2 := [(0, .ref 59), (1, .int 0)]) [1, 0] rfl ?_
  exact s_Z_init_L171_ok 5000 0 s22
