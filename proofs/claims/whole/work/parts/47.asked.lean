theorem z_causes {s : jm_M} {T : tN} {lg : Nat → Int32} (wt : wT T) (hz : ZN s 0 T) (wl : wL T lg) (zl : ZL s 0 lg) {v : Nat} (hv : v < 2) : s_Z_causes s (nI (2 - v)) = some (nI (jS T lg v)) := by
  have w1 := wt.1
  unfold s_Z_causes
  refine lp_inv (fun n c (acc : Int32) => s_Z_causes_L4 s n (nI (2 - v)) acc c) (tn T) (fun i => nI (sOf (fun h => decide (jd T lg h = v)) i)) _ (fun n => ?_) (fun n i hi => ?_) (tn T) 5000 0 (by omega) (by omega)
  · show s_Z_causes_L4 s (n + 1) _ (nI _) (nI (tn T)) = _
    rw [s_Z_causes_L4, e_ldiq (j := 0) 0 rfl (by decide) (by decide), hz.1, if_pos (nI_le (Nat.le_refl _) (by omega)), jS]
  · show s_Z_causes_L4 s (n + 1) _ (nI _) (nI i) = s_Z_causes_L4 s n _ (nI _) (nI (i + 1))
    have hle := jd_le T lg i
    have hiff : nI (jZ (jd T lg i)) = nI (2 - v) ↔ jd T lg i = v := by
      have : jZ (jd T lg i) ≤ 2 := by
        unfold jZ
        repeat' split
        all_goals decide
      rw [nI_eq (by omega) (by omega)]
      unfold jZ
      by_cases a : jd T lg i = 0
      · rw [if_pos a]; omega
      · rw [if_neg a]
        by_cases b : jd T lg i = 1
        · rw [if_pos b]; omega
        · rw [if_neg b]; omega
    rw [s_Z_causes_L4, e_ldiq (j := 0) 0 rfl (by decide) (by decide), hz.1, if_neg (nI_ge hi (by omega)), z_cause wt hz wl zl hi, e_bd, p2 (by omega), e_vi, e_vi, fa_or, nI_1, sOf]
    have e0 : nI (sOf (fun h => decide (jd T lg h = v)) i) ||| 0 = nI (sOf (fun h => decide (jd T lg h = v)) i ||| 0) := fa_or _ 0
    rw [e0]
    by_cases hj : jd T lg i = v
    · rw [if_pos (hiff.mpr hj), if_pos (by simp [hj])]
    · rw [if_neg (fun z => hj (hiff.mp z)), if_neg (by simp [hj])]
/-- whom to ask -/
def akC (T : tN) (lg : Nat → Int32) (D m i : Nat) : Bool := fB T i && (decide ((lg i).toInt < 0) && decide (m < bcn (ts T i &&& D)))
def ak (T : tN) (lg : Nat → Int32) (D : Nat) : Nat → Int32 × Nat
  | 0 => (-4, 0)
  | i + 1 => if akC T lg D (ak T lg D i).2 i then (nI i, bcn (ts T i &&& D)) else ak T lg D i
theorem ak_le (T : tN) (lg : Nat → Int32) (D : Nat) : ∀ i, (ak T lg D i).2 ≤ 10
  | 0 => Nat.zero_le _
  | i + 1 => by
    rw [ak]
    split
    · exact bcn_le _
    · exact ak_le T lg D i
theorem ak_up {T : tN} {lg : Nat → Int32} {D : Nat} {k m : Nat} (h : k ≤ m) (hk : tn T ≤ k) : ak T lg D m = ak T lg D k := by
  obtain ⟨d, rfl⟩ : ∃ d, m = k + d := ⟨m - k, by omega⟩
  clear h
  induction d with
  | zero => rfl
  | succ d ih =>
    show ak T lg D (k + d + 1) = _
    rw [ak, ih, if_neg]
    unfold akC fB
    rw [show decide (k + d < tn T) = false by simp; omega]
    simp
theorem x_asked {s : jm_M} {T : tN} {lg : Nat → Int32} (wt : wT T) (hx : XN s 15 T) (wl : wL T lg) (xl : XL s 15 lg) : s_Lo_toBeAsked_15 s = some (ak T lg (jS T lg 1) (tn T)).1 := by
  have w1 := wt.1
  have hl : ∀ o, o < 10 → s.1 21 o = lg o := fun o ho => xl o ho
  have hs : ∀ h, h < 10 → s.1 17 h = nI (ts T h) := fun h hh => (hx.2 h hh).2.1
  unfold s_Lo_toBeAsked_15
  rw [show (1 : Int32) = nI 1 from rfl, x_judged wt hx wl xl (by decide), e_bd, x_folk wt (XN_k hx), e_bd]
  have hfk := fk_lt T
  have := lp_inv (fun n c (p : Int32 × Int32) => s_Lo_toBeAsked_15_L20 s n (nI (jS T lg 1)) (nI (fk T)) p.1 p.2 c) 10 (fun i => ((ak T lg (jS T lg 1) i).1, nI (ak T lg (jS T lg 1) i).2)) (some (ak T lg (jS T lg 1) (tn T)).1) (fun n => ?_) (fun n i hi => ?_) 10 5000 0 rfl (by decide)
  · exact this
  · show s_Lo_toBeAsked_15_L20 s (n + 1) _ _ _ (nI _) (nI 10) = _
    rw [s_Lo_toBeAsked_15_L20, if_pos (by decide), ak_up w1 (Nat.le_refl _)]
  · show s_Lo_toBeAsked_15_L20 s (n + 1) _ _ _ (nI _) (nI i) = s_Lo_toBeAsked_15_L20 s n _ _ _ (nI _) (nI (i + 1))
    have hb : ts T i &&& jS T lg 1 < 1024 := Nat.lt_of_le_of_lt Nat.and_le_left (ts_lt wt hi)
    have hal := ak_le T lg (jS T lg 1) i
    have hbl := bcn_le (ts T i &&& jS T lg 1)
    have hr := wl.1 i hi
    rw [s_Lo_toBeAsked_15_L20, if_neg (fun z => by rw [i_ge 10, nI_toInt (by omega)] at z; omega), e_ldi hi (by decide), hs i hi, fa_and, x_bc s hb, e_bd, bit1 (by omega) (by omega), fk_bit wt, nI_1, ak]
    have eo : (if fB T i = true then (1 : Int32) else 0) = oI (fB T i) := rfl
    rw [eo, oI_if]
    unfold akC
    cases hf : fB T i with
    | false => simp only [Bool.false_eq_true, if_false, Bool.false_and]
    | true =>
      rw [if_pos rfl, e_ldi hi (by decide), hl i hi, Bool.true_and]
      by_cases m1 : (lg i).toInt = -1
      · rw [if_pos ((i_eq (-1)).mpr m1), show decide ((lg i).toInt < 0) = true by simp only [decide_eq_true_eq]; omega, Bool.true_and]
        by_cases m2 : (ak T lg (jS T lg 1) i).2 < bcn (ts T i &&& jS T lg 1)
        · rw [if_neg (nI_ge m2 (by omega)), if_pos (by simp [m2])]
        · rw [if_pos (nI_le (by omega) (by omega)), if_neg (by simp [m2])]
      · rw [if_neg (fun z => m1 ((i_eq (-1)).mp z)), show decide ((lg i).toInt < 0) = false by simp only [decide_eq_false_iff_not]; omega]
        simp only [Bool.false_and, Bool.false_eq_true, if_false]
theorem z_asked {s : jm_M} {T : tN} {lg : Nat → Int32} (wt : wT T) (hz : ZN s 0 T) (wl : wL T lg) (zl : ZL s 0 lg) : s_Z_asked s = some (ak T lg (jS T lg 1) (tn T)).1 := by
  have w1 := wt.1
  have hl : ∀ o, o < 10 → s.1 70 o = lg o := fun o ho => by have := zl o ho; rwa [show 10 * 0 + o = o by omega] at this
  have hs : ∀ h, h < tn T → s.1 63 h = nI (ts T h) := fun h hh => by have := (hz.2.1 h hh).2.1; rwa [show 10 * 0 + h = h by omega] at this
  unfold s_Z_asked
  rw [show (1 : Int32) = nI (2 - 1) from rfl, z_causes wt hz wl zl (by decide), e_bd]
  have := lp_inv (fun n c (p : Int32 × Int32) => s_Z_asked_L14 s n (nI (jS T lg 1)) p.1 p.2 c) (tn T) (fun i => ((ak T lg (jS T lg 1) i).1, nI (ak T lg (jS T lg 1) i).2)) (some (ak T lg (jS T lg 1) (tn T)).1) (fun n => ?_) (fun n i hi => ?_) (tn T) 5000 0 (by omega) (by omega)
  · exact this
  · show s_Z_asked_L14 s (n + 1) _ _ (nI _) (nI (tn T)) = _
    rw [s_Z_asked_L14, e_ldiq (j := 0) 0 rfl (by decide) (by decide), hz.1, if_pos (nI_le (Nat.le_refl _) (by omega))]
  · show s_Z_asked_L14 s (n + 1) _ _ (nI _) (nI i) = s_Z_asked_L14 s n _ _ (nI _) (nI (i + 1))
    have hb : ts T i &&& jS T lg 1 < 1024 := Nat.lt_of_le_of_lt Nat.and_le_left (ts_lt wt (by omega))
    have hal := ak_le T lg (jS T lg 1) i
    have hbl := bcn_le (ts T i &&& jS T lg 1)
    have hr := wl.1 i (by omega)
    have hk3 := (wt.2.1 i hi).1
    have J : ∀ (kk : Int32 → Int32 → Int32 → Int32 → Option Int32) (y : Nat), y ≤ 10 → s_Z_asked_J62 s kk (nI (jS T lg 1)) (ak T lg (jS T lg 1) i).1 (nI (ak T lg (jS T lg 1) i).2) (nI i) (nI y) = if (ak T lg (jS T lg 1) i).2 < y then kk (nI (jS T lg 1)) (nI i) (nI y) (nI (i + 1)) else kk (nI (jS T lg 1)) (ak T lg (jS T lg 1) i).1 (nI (ak T lg (jS T lg 1) i).2) (nI (i + 1)) := by
      intro kk y hy
      unfold s_Z_asked_J62
      rw [nI_1]
      by_cases m2 : (ak T lg (jS T lg 1) i).2 < y
      · rw [if_neg (nI_ge m2 (by omega)), if_pos m2]
      · rw [if_pos (nI_le (by omega) (by omega)), if_neg m2]
    have J0 := fun kk => J kk 0 (by omega)
    simp only [Nat.not_lt_zero, if_false] at J0
    rw [s_Z_asked_L14, e_ldiq (j := 0) 0 rfl (by decide) (by decide), hz.1, if_neg (nI_ge hi (by omega)), e_ldi (by omega) (by decide), hl i (by omega), ak]
    unfold akC
    by_cases m1 : 0 ≤ (lg i).toInt
    · rw [if_pos ((i_ge 0).mpr m1), show (0 : Int32) = nI 0 from rfl, J0, show decide ((lg i).toInt < 0) = false by simp only [decide_eq_false_iff_not]; omega]
      simp only [Bool.false_and, Bool.and_false, Bool.false_eq_true, if_false]
    · rw [if_neg (fun z => m1 ((i_ge 0).mp z)), e_ldi (by omega) (by decide), ZN_k hz i hi, show decide ((lg i).toInt < 0) = true by simp only [decide_eq_true_eq]; omega, Bool.true_and]
      by_cases m3 : tk T i ≤ 1
      · rw [if_neg (fun z => by rw [i_ge 2, nI_toInt (by omega)] at z; omega), e_ldi (by omega) (by decide), hs i hi, fa_and, z_bits s hb, e_bd, J _ _ hbl, show fB T i = true by simp [fB, hi, m3], Bool.true_and]
        by_cases m2 : (ak T lg (jS T lg 1) i).2 < bcn (ts T i &&& jS T lg 1)
        · rw [if_pos m2, if_pos (by simp [m2])]
        · rw [if_neg m2, if_neg (by simp [m2])]
      · rw [if_pos ((i_ge 2).mpr (by rw [nI_toInt (by omega)]; omega)), show (0 : Int32) = nI 0 from rfl, J0, show fB T i = false by simp [fB, m3]]
        simp only [Bool.false_and, Bool.false_eq_true, if_false]
/-- logs but for what is too soon -/
theorem m_logs {s : jm_M} {T : tN} {lg : Nat → Int32} (wt : wT T) (hx : XN s 15 T) (hz : ZN s 0 T) (wl : wL T lg) (xl : XL s 15 lg) (zl : ZL s 0 lg) (a : Int32) (h3 : ¬ a = 3) : ∃ r, s_X_logs s a = some (r, s) ∧ s_Z_logs s a = some (r, s) := by
  unfold s_X_logs s_Z_logs
  have a0 : s_Lo_sureWithoutCause_15 s = some (nI (jS T lg 0)) := by
    unfold s_Lo_sureWithoutCause_15
    rw [show (0 : Int32) = nI 0 from rfl, x_judged wt hx wl xl (by decide)]
    rfl
  have a1 : s_Lo_maybeWithoutCause_15 s = some (nI (jS T lg 1)) := by
    unfold s_Lo_maybeWithoutCause_15
    rw [show (1 : Int32) = nI 1 from rfl, x_judged wt hx wl xl (by decide)]
    rfl
  have z0 : s_Z_causes s 2 = some (nI (jS T lg 0)) := z_causes wt hz wl zl (v := 0) (by decide)
  have z1 : s_Z_causes s 1 = some (nI (jS T lg 1)) := z_causes wt hz wl zl (v := 1) (by decide)
  rw [a0, a1, z0, z1, x_asked wt hx wl xl, z_asked wt hz wl zl, if_neg h3, if_neg h3]
  simp only [e_bd]
  have two : ∀ x : Option (Int32 × jm_M), (∃ r, x = some (r, s)) → ∃ r, x = some (r, s) ∧ x = some (r, s) := fun x ⟨r, h⟩ => ⟨r, h, h⟩
  refine two _ ?_
  repeat' split
  all_goals exact ⟨_, rfl⟩
