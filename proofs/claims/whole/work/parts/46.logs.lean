/-! logs: who burnt without cause -/
def fB (T : tN) (o : Nat) : Bool := decide (o < tn T) && decide (tk T o ≤ 1)
def fk (T : tN) : Nat := sOf (fB T) 10
theorem fk_lt (T : tN) : fk T < 1024 := sOf_lt _ 10
theorem fk_or (T : tN) : kS T 0 ||| kS T 1 = fk T := by
  apply Nat.eq_of_testBit_eq
  intro i
  rw [Nat.testBit_or, kS_bit, kS_bit, fk, sOf_bit]
  by_cases hi : i < 10
  · by_cases hn : i < tn T
    · simp only [kB, fB, hi, hn, decide_true, Bool.true_and]
      by_cases h0 : tk T i = 0
      · simp [h0]
      · by_cases h1 : tk T i = 1
        · simp [h1]
        · have : ¬ tk T i ≤ 1 := by omega
          simp [h0, h1, this]
    · simp [kB, fB, hn]
  · simp [hi]
theorem fk_bit {T : tN} (wt : wT T) (o : Nat) : (fk T).testBit o = fB T o := by
  have w1 := wt.1
  rw [fk, sOf_bit]
  by_cases ho : o < 10
  · simp [ho]
  · have : ¬ o < tn T := by omega
    simp [fB, ho, this]
theorem x_folk {s : jm_M} {T : tN} (wt : wT T) (hx : ∀ h, h < 10 → s.1 16 h = tkI T h) : s_Ne_folk_15 s = some (nI (fk T)) := by
  unfold s_Ne_folk_15
  rw [show (0 : Int32) = nI 0 from rfl, show (1 : Int32) = nI 1 from rfl, x_ofKind wt hx (by decide), e_bd, x_ofKind wt hx (by decide), e_bd, fa_or, fk_or]
def jby (T : tN) (lg : Nat → Int32) (h : Nat) : Int := (lg h).toInt - tp T h
def jW (T : tN) (lg : Nat → Int32) (h o : Nat) : Bool := ((ts T h).testBit o && fB T o) && (decide (0 ≤ jby T lg h) && decide (0 ≤ (lg o).toInt ∧ (lg o).toInt ≤ jby T lg h))
def jO (T : tN) (lg : Nat → Int32) (h o : Nat) : Bool := ((ts T h).testBit o && fB T o) && (decide (0 ≤ jby T lg h) && decide ((lg o).toInt < 0))
def jd (T : tN) (lg : Nat → Int32) (h : Nat) : Nat := if (h < tn T ∧ tk T h = 0) ∧ (0 ≤ (lg h).toInt ∧ (lg h).toInt ≤ 59) then (if td T h ≤ fb_ct (jW T lg h) (tn T) + fb_ct (jO T lg h) (tn T) then (if td T h ≤ fb_ct (jW T lg h) (tn T) then 2 else 1) else 0) else 3
theorem jW_out {T : tN} (wt : wT T) {lg : Nat → Int32} {h o : Nat} (ho : tn T ≤ o) : jW T lg h o = false ∧ jO T lg h o = false := by
  have : fB T o = false := by simp [fB]; omega
  simp [jW, jO, this]
theorem j_by {T : tN} {lg : Nat → Int32} {h : Nat} (hp : 1 ≤ tp T h ∧ tp T h ≤ 9) (hl : 0 ≤ (lg h).toInt ∧ (lg h).toInt ≤ 59) : (lg h - nI (tp T h)).toInt = jby T lg h := by
  unfold jby
  rw [fb_subI (by rw [nI_toInt (by omega)]; omega) (by rw [nI_toInt (by omega)]; omega), nI_toInt (by omega)]
theorem x_isB (s : jm_M) {x : Int32} (h : -1 ≤ x.toInt) : s_Lo_isBurning s x = some (oI (decide (0 ≤ x.toInt ∧ x.toInt ≤ 59))) := by
  unfold s_Lo_isBurning
  by_cases h1 : x.toInt = -1
  · rw [if_pos ((i_eq (-1)).mpr h1), show decide (0 ≤ x.toInt ∧ x.toInt ≤ 59) = false by simp only [decide_eq_false_iff_not]; omega]; rfl
  · rw [if_neg (fun z => h1 ((i_eq (-1)).mp z))]
    by_cases h2 : 60 ≤ x.toInt
    · rw [if_pos ((i_ge 60).mpr h2), show decide (0 ≤ x.toInt ∧ x.toInt ≤ 59) = false by simp only [decide_eq_false_iff_not]; omega]; rfl
    · rw [if_neg (fun z => h2 ((i_ge 60).mp z)), show decide (0 ≤ x.toInt ∧ x.toInt ≤ 59) = true by simp only [decide_eq_true_eq]; omega]; rfl
def jX (v : Nat) : Int32 := if v < 3 then nI v else -1
theorem x_judge {s : jm_M} {T : tN} {lg : Nat → Int32} (wt : wT T) (hx : XN s 15 T) (wl : wL T lg) (xl : XL s 15 lg) {h : Nat} (hh : h < 10) : s_Lo_judgement_15 s (nI h) = some (jX (jd T lg h)) := by
  have w1 := wt.1
  have hl : ∀ o, o < 10 → s.1 21 o = lg o := fun o ho => xl o ho
  obtain ⟨g1, g2, g3, g4, -⟩ := hx.2 h hh
  have g1 : s.1 16 h = tkI T h := g1
  have g2 : s.1 17 h = nI (ts T h) := g2
  have g3 : s.1 18 h = nI (td T h) := g3
  have g4 : s.1 19 h = nI (tp T h) := g4
  have hsp := sp1 wt hh
  unfold s_Lo_judgement_15 jd
  rw [if_neg (nI_pos (by omega)), if_neg (fun z => by rw [i_ge 10, nI_toInt (by omega)] at z; omega), e_ldi hh (by decide), g1]
  by_cases hk : kB T 0 h = true
  · have hk2 : h < tn T ∧ tk T h = 0 := by simpa [kB] using hk
    rw [if_pos (show tkI T h = 0 from (tkI_eq wt (v := 0) (by decide)).mpr hk), e_ldi hh (by decide), hl h hh, x_isB s (wl.1 h hh).1, e_bd, oI_if]
    by_cases hb : 0 ≤ (lg h).toInt ∧ (lg h).toInt ≤ 59
    · rw [show decide (0 ≤ (lg h).toInt ∧ (lg h).toInt ≤ 59) = true by simp only [decide_eq_true_eq]; exact hb, if_pos rfl, if_pos ⟨hk2, hb⟩, e_ldi hh (by decide), hl h hh, e_ldi hh (by decide), g4, e_vi, e_ldi hh (by decide), g2, x_folk wt (XN_k hx), e_bd, e_vi, fa_and]
      have hby := j_by (lg := lg) ⟨hsp.1, hsp.2.1⟩ hb
      have hts := ts_lt wt hh
      have hand : ts T h &&& fk T < 1024 := Nat.lt_of_le_of_lt Nat.and_le_left hts
      generalize lg h - nI (tp T h) = by' at hby
      have := lp_inv (fun n c (p : Int32 × Int32) => s_Lo_judgement_15_L68 s n (nI h) by' p.1 p.2 (nI (ts T h &&& fk T)) c) 10 (fun i => (nI (fb_ct (jW T lg h) i), nI (fb_ct (jO T lg h) i))) (some (jX (if td T h ≤ fb_ct (jW T lg h) (tn T) + fb_ct (jO T lg h) (tn T) then (if td T h ≤ fb_ct (jW T lg h) (tn T) then 2 else 1) else 0))) (fun n => ?_) (fun n i hi => ?_) 10 5000 0 rfl (by decide)
      · exact this
      · show s_Lo_judgement_15_L68 s (n + 1) (nI h) by' (nI _) (nI _) _ (nI 10) = _
        have c1 := ct_up (p := jW T lg h) w1 (fun i h1 _ => (jW_out wt h1).1)
        have c2 := ct_up (p := jO T lg h) w1 (fun i h1 _ => (jW_out wt h1).2)
        have l1 := fb_ct_le (jW T lg h) (tn T)
        have l2 := fb_ct_le (jO T lg h) (tn T)
        rw [s_Lo_judgement_15_L68, if_pos (by decide), e_ldi hh (by decide), g3, nI_add, c1, c2]
        by_cases q1 : td T h ≤ fb_ct (jW T lg h) (tn T) + fb_ct (jO T lg h) (tn T)
        · rw [if_pos (nI_le q1 (by omega)), if_pos q1, e_ldi hh (by decide), g3]
          by_cases q2 : td T h ≤ fb_ct (jW T lg h) (tn T)
          · rw [if_pos (nI_le q2 (by omega)), if_pos q2]; rfl
          · rw [if_neg (nI_ge (by omega) (by omega)), if_neg q2]; rfl
        · rw [if_neg (nI_ge (by omega) (by omega)), if_neg q1]; rfl
      · show s_Lo_judgement_15_L68 s (n + 1) (nI h) by' (nI _) (nI _) _ (nI i) = s_Lo_judgement_15_L68 s n (nI h) by' (nI _) (nI _) _ (nI (i + 1))
        rw [s_Lo_judgement_15_L68, if_neg (fun z => by rw [i_ge 10, nI_toInt (by omega)] at z; omega), nI_1, fb_ct_succ, fb_ct_succ]
        by_cases b0 : by'.toInt < 0
        · have e1 : jW T lg h i = false := by simp only [jW]; rw [show decide (0 ≤ jby T lg h) = false by simp only [decide_eq_false_iff_not]; omega]; simp
          have e2 : jO T lg h i = false := by simp only [jO]; rw [show decide (0 ≤ jby T lg h) = false by simp only [decide_eq_false_iff_not]; omega]; simp
          rw [if_pos ((i_lt 0).mpr b0), e1, e2]
          simp only [Bool.false_eq_true, if_false, Nat.add_zero]
        · have e0 : decide (0 ≤ jby T lg h) = true := by simp only [decide_eq_true_eq]; omega
          rw [if_neg (fun z => b0 ((i_lt 0).mp z)), bit1 (by omega) (by omega), Nat.testBit_and, fk_bit wt]
          cases hbit : ((ts T h).testBit i && fB T i) with
          | false =>
            have e1 : jW T lg h i = false := by simp only [jW, hbit, Bool.false_and]
            have e2 : jO T lg h i = false := by simp only [jO, hbit, Bool.false_and]
            rw [if_pos (by decide), e1, e2]
            simp only [Bool.false_eq_true, if_false, Nat.add_zero]
          | true =>
            have hr := wl.1 i hi
            rw [if_neg (by decide), e_ldi hi (by decide), hl i hi]
            by_cases m1 : (lg i).toInt = -1
            · have e1 : jW T lg h i = false := by simp only [jW, hbit, e0, Bool.true_and, decide_eq_false_iff_not]; omega
              have e2 : jO T lg h i = true := by simp only [jO, hbit, e0, Bool.true_and, decide_eq_true_eq]; omega
              rw [if_pos ((i_eq (-1)).mpr m1), e1, e2, nI_1]
              simp only [Bool.false_eq_true, if_false, Nat.add_zero, if_true]
            · rw [if_neg (fun z => m1 ((i_eq (-1)).mp z)), e_ldi hi (by decide), hl i hi]
              have e2 : jO T lg h i = false := by simp only [jO, hbit, e0, Bool.true_and, decide_eq_false_iff_not]; omega
              by_cases m2 : by'.toInt < (lg i).toInt
              · have e1 : jW T lg h i = false := by simp only [jW, hbit, e0, Bool.true_and, decide_eq_false_iff_not]; omega
                rw [if_pos ((fa_lt _ _).mpr m2), e1, e2]
                simp only [Bool.false_eq_true, if_false, Nat.add_zero]
              · have e1 : jW T lg h i = true := by simp only [jW, hbit, e0, Bool.true_and, decide_eq_true_eq]; omega
                rw [if_neg (fun z => m2 ((fa_lt _ _).mp z)), e1, e2, nI_1]
                simp only [Bool.false_eq_true, if_false, Nat.add_zero, if_true]
    · rw [show decide (0 ≤ (lg h).toInt ∧ (lg h).toInt ≤ 59) = false by simp only [decide_eq_false_iff_not]; exact hb, if_neg (by decide), if_neg (fun z => hb z.2)]
      rfl
  · rw [if_neg (show ¬ tkI T h = 0 from fun z => hk ((tkI_eq wt (v := 0) (by decide)).mp z)), if_neg (fun z => hk (by simp [kB, z.1.1, z.1.2]))]
    rfl
def jS (T : tN) (lg : Nat → Int32) (v : Nat) : Nat := sOf (fun h => decide (jd T lg h = v)) (tn T)
theorem jS_lt {T : tN} (wt : wT T) (lg : Nat → Int32) (v : Nat) : jS T lg v < 1024 := sOf_1024 wt _
theorem jd_out {T : tN} {lg : Nat → Int32} {h : Nat} (hh : tn T ≤ h) : jd T lg h = 3 := by
  unfold jd
  rw [if_neg (by omega)]
theorem jd_le (T : tN) (lg : Nat → Int32) (h : Nat) : jd T lg h ≤ 3 := by
  unfold jd
  repeat' split
  all_goals decide
theorem x_judged {s : jm_M} {T : tN} {lg : Nat → Int32} (wt : wT T) (hx : XN s 15 T) (wl : wL T lg) (xl : XL s 15 lg) {v : Nat} (hv : v < 2) : s_Lo_judged_15 s (nI v) = some (nI (jS T lg v)) := by
  have w1 := wt.1
  unfold s_Lo_judged_15
  refine lp_inv (fun n c (acc : Int32) => s_Lo_judged_15_L4 s n (nI v) acc c) 10 (fun i => nI (sOf (fun h => decide (jd T lg h = v)) i)) _ (fun n => ?_) (fun n i hi => ?_) 10 5000 0 rfl (by decide)
  · show s_Lo_judged_15_L4 s (n + 1) (nI v) (nI _) (nI 10) = _
    rw [s_Lo_judged_15_L4, if_pos (by decide), jS, sOf_up w1 (fun i h1 _ => by rw [jd_out h1]; simp only [decide_eq_false_iff_not]; omega)]
  · show s_Lo_judged_15_L4 s (n + 1) (nI v) (nI _) (nI i) = s_Lo_judged_15_L4 s n (nI v) (nI _) (nI (i + 1))
    have hle := jd_le T lg i
    have hiff : jX (jd T lg i) = nI v ↔ jd T lg i = v := by
      unfold jX
      by_cases h3 : jd T lg i < 3
      · rw [if_pos h3, nI_eq (by omega) (by omega)]
      · rw [if_neg h3, fa_eq, nI_toInt (by omega), show (-1 : Int32).toInt = -1 by decide]
        omega
    rw [s_Lo_judged_15_L4, if_neg (fun z => by rw [i_ge 10, nI_toInt (by omega)] at z; omega), x_judge wt hx wl xl hi, e_bd, p2 (by omega), e_vi, fa_or, nI_1, sOf]
    by_cases hj : jd T lg i = v
    · rw [if_pos (hiff.mpr hj), if_pos (by simp [hj])]
    · rw [if_neg (fun z => hj (hiff.mp z)), if_neg (by simp [hj]), Nat.or_zero]
def jZ (v : Nat) : Nat := if v = 0 then 2 else if v = 1 then 1 else 0
theorem z_cause {s : jm_M} {T : tN} {lg : Nat → Int32} (wt : wT T) (hz : ZN s 0 T) (wl : wL T lg) (zl : ZL s 0 lg) {h : Nat} (hh : h < tn T) : s_Z_cause s (nI h) = some (nI (jZ (jd T lg h))) := by
  have w1 := wt.1
  have hl : ∀ o, o < 10 → s.1 70 o = lg o := fun o ho => by have := zl o ho; rwa [show 10 * 0 + o = o by omega] at this
  obtain ⟨g1, g2, g3, g4, -⟩ := hz.2.1 h hh
  rw [show 10 * 0 + h = h by omega] at g1 g2 g3 g4
  have hsp := sp1 wt (show h < 10 by omega)
  have hk3 := (wt.2.1 h hh).1
  unfold s_Z_cause jd
  rw [e_ldi (by omega) (by decide), e_ldi (by omega) (by decide), hl h (by omega), g1]
  by_cases hk : tk T h = 0
  · rw [if_pos (by rw [hk]; rfl)]
    by_cases hb : 0 ≤ (lg h).toInt ∧ (lg h).toInt ≤ 59
    · rw [z_in1 0 59 hb.1 hb.2, e_bd, if_neg e10, if_pos ⟨⟨hh, hk⟩, hb⟩, e_ldi (by omega) (by decide), g4, e_vi]
      have hby := j_by (lg := lg) ⟨hsp.1, hsp.2.1⟩ hb
      have hts := ts_lt wt (show h < 10 by omega)
      generalize lg h - nI (tp T h) = by' at hby
      have := lp_inv (fun n c (p : Int32 × Int32) => s_Z_cause_L48 s n (nI h) by' p.1 p.2 c) (tn T) (fun i => (nI (fb_ct (jW T lg h) i), nI (fb_ct (jO T lg h) i))) (some (nI (jZ (if td T h ≤ fb_ct (jW T lg h) (tn T) + fb_ct (jO T lg h) (tn T) then (if td T h ≤ fb_ct (jW T lg h) (tn T) then 2 else 1) else 0)))) (fun n => ?_) (fun n i hi => ?_) (tn T) 5000 0 (by omega) (by omega)
      · exact this
      · show s_Z_cause_L48 s (n + 1) (nI h) by' (nI _) (nI _) (nI (tn T)) = _
        have l1 := fb_ct_le (jW T lg h) (tn T)
        have l2 := fb_ct_le (jO T lg h) (tn T)
        rw [s_Z_cause_L48, e_ldiq (j := 0) 0 rfl (by decide) (by decide), hz.1, if_pos (nI_le (Nat.le_refl _) (by omega)), e_ldi (by omega) (by decide), g3]
        by_cases q2 : td T h ≤ fb_ct (jW T lg h) (tn T)
        · rw [if_neg (nI_nlt q2 (by omega)), if_pos (by omega), if_pos q2]; rfl
        · rw [if_pos (nI_lt (by omega) (by omega)), e_ldi (by omega) (by decide), g3, nI_add]
          by_cases q1 : td T h ≤ fb_ct (jW T lg h) (tn T) + fb_ct (jO T lg h) (tn T)
          · rw [if_neg (nI_nlt q1 (by omega)), if_pos q1, if_neg q2]; rfl
          · rw [if_pos (nI_lt (by omega) (by omega)), if_neg q1]; rfl
      · show s_Z_cause_L48 s (n + 1) (nI h) by' (nI _) (nI _) (nI i) = s_Z_cause_L48 s n (nI h) by' (nI _) (nI _) (nI (i + 1))
        have hki := (wt.2.1 i hi).1
        rw [s_Z_cause_L48, e_ldiq (j := 0) 0 rfl (by decide) (by decide), hz.1, if_neg (nI_ge hi (by omega)), e_ldi (by omega) (by decide), g2, z_has s (by omega) (by omega), e_bd, nI_1, fb_ct_succ, fb_ct_succ]
        have eo : (if (ts T h).testBit i = true then (1 : Int32) else 0) = oI ((ts T h).testBit i) := rfl
        rw [eo, oI_if]
        cases hbit : (ts T h).testBit i with
        | false =>
          have e1 : jW T lg h i = false := by simp only [jW, hbit, Bool.false_and]
          have e2 : jO T lg h i = false := by simp only [jO, hbit, Bool.false_and]
          rw [if_neg (by decide), e1, e2]
          simp only [Bool.false_eq_true, if_false, Nat.add_zero]
        | true =>
          rw [if_pos rfl, e_ldi (by omega) (by decide), ZN_k hz i hi]
          by_cases hf : tk T i ≤ 1
          · have hfb : fB T i = true := by simp [fB, hi, hf]
            rw [if_neg (fun z => by rw [i_ge 2, nI_toInt (by omega)] at z; omega)]
            by_cases b0 : by'.toInt < 0
            · have e1 : jW T lg h i = false := by simp only [jW]; rw [show decide (0 ≤ jby T lg h) = false by simp only [decide_eq_false_iff_not]; omega]; simp
              have e2 : jO T lg h i = false := by simp only [jO]; rw [show decide (0 ≤ jby T lg h) = false by simp only [decide_eq_false_iff_not]; omega]; simp
              rw [if_pos ((i_lt 0).mpr b0), e1, e2]
              simp only [Bool.false_eq_true, if_false, Nat.add_zero]
            · have e0 : decide (0 ≤ jby T lg h) = true := by simp only [decide_eq_true_eq]; omega
              have hr := wl.1 i (by omega)
              have z0 : (0 : Int64).toInt = 0 := by decide
              rw [if_neg (fun z => b0 ((i_lt 0).mp z)), e_ldi (by omega) (by decide), hl i (by omega), z_inL, Int32.toInt_toInt64, Int32.toInt_toInt64, z0, e_bd]
              have J : ∀ (kk : Int32 → Int32 → Int32 → Int32 → Int32 → Option Int32) (x y : Int32) (w : Nat), s_Z_cause_J112 s kk (nI h) by' (nI w) (nI i) y x = kk (nI h) by' (x + y) (nI (w + if jO T lg h i = true then 1 else 0)) (nI (i + 1)) := by
                intro kk x y w
                unfold s_Z_cause_J112
                rw [e_vi, e_ldi (by omega) (by decide), hl i (by omega), nI_1]
                by_cases m1 : 0 ≤ (lg i).toInt
                · have e2 : jO T lg h i = false := by simp only [jO, hbit, hfb, e0, Bool.true_and, decide_eq_false_iff_not]; omega
                  rw [if_pos ((i_ge 0).mpr m1), e_vi, e2, Int32.add_zero]
                  simp only [Bool.false_eq_true, if_false, Nat.add_zero]
                · have e2 : jO T lg h i = true := by simp only [jO, hbit, hfb, e0, Bool.true_and, decide_eq_true_eq]; omega
                  rw [if_neg (fun z => m1 ((i_ge 0).mp z)), e_vi, e2, nI_1]
                  simp only [if_true]
              by_cases m2 : 0 ≤ (lg i).toInt ∧ (lg i).toInt ≤ by'.toInt
              · have e1 : jW T lg h i = true := by simp only [jW, hbit, hfb, e0, Bool.true_and, decide_eq_true_eq]; omega
                simp only [if_pos m2, e10, if_false]
                rw [J, e1, nI_1]
                simp only [if_true]
              · have e1 : jW T lg h i = false := by simp only [jW, hbit, hfb, e0, Bool.true_and, decide_eq_false_iff_not]; omega
                simp only [if_neg m2, if_true]
                rw [J, e1, Int32.add_zero]
                simp only [Bool.false_eq_true, if_false, Nat.add_zero]
          · have hfb : fB T i = false := by simp [fB, hf]
            have e1 : jW T lg h i = false := by simp only [jW, hfb, Bool.and_false, Bool.false_and]
            have e2 : jO T lg h i = false := by simp only [jO, hfb, Bool.and_false, Bool.false_and]
            rw [if_pos ((i_ge 2).mpr (by rw [nI_toInt (by omega)]; omega)), e1, e2]
            simp only [Bool.false_eq_true, if_false, Nat.add_zero]
    · rw [z_in0 0 59 hb, e_bd, if_pos rfl, if_neg (fun z => hb z.2)]
      rfl
  · rw [if_neg (nI_ne0 (by omega) (by omega)), if_neg (fun z => hk z.1.2)]
    rfl
