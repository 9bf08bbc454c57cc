/-! burns, seen, wood, alarm -/
def CN (s : jm_M) (T : tN) (hd : Nat) (sm : Nat → Bool) : Prop := s.1 1 9 = 0 ∨ (s.1 1 9 = 1 ∧ NP s T hd sm)
theorem NP_same {s s' : jm_M} {T : tN} {hd : Nat} {sm : Nat → Bool} (h1 : s'.1 46 = s.1 46) (h2 : s'.2 47 = s.2 47) (h3 : s'.1 45 1 = s.1 45 1) (h : NP s T hd sm) : NP s' T hd sm := by
  unfold NP NX at h ⊢
  rw [h1, h2, h3]
  exact h
theorem CN_same {s s' : jm_M} {T : tN} {hd : Nat} {sm : Nat → Bool} (h0 : s'.1 1 9 = s.1 1 9) (h1 : s'.1 46 = s.1 46) (h2 : s'.2 47 = s.2 47) (h3 : s'.1 45 1 = s.1 45 1) (h : CN s T hd sm) : CN s' T hd sm := by
  rcases h with h | h
  · exact Or.inl (h0.trans h)
  · exact Or.inr ⟨h0.trans h.1, NP_same h1 h2 h3 h.2⟩
theorem fr_1 {W : List Nat × List (Nat × Nat)} {s s' : jm_M} (hf : jm_fr W s s') (c : Nat) (hc : W.1.contains c = false) (hc2 : W.2.all (fun z => z.1 != c) = true) : s'.1 c = s.1 c ∧ s'.2 c = s.2 c := by
  have hk : ∀ k, W.2.contains (c, k) = false := by
    intro k
    cases h : W.2.contains (c, k) with
    | false => rfl
    | true =>
      have := List.all_eq_true.mp hc2 _ (List.contains_iff_mem.mp h)
      simp at this
  exact ⟨funext fun k => (hf c k hc (hk k)).1, funext fun k => (hf c k hc (hk k)).2⟩
/-- both play: what stands behind it -/
theorem xz_night {T : tN} (wt : wT T) {hd : Nat} {sm : Nat → Bool} (hhd : hd < 1024) {s : jm_M} (hx : XN s 15 T) (xs : XS s 15 hd sm) (hz : ZN s 0 T) (zs : ZS s 0 hd sm) (hc : CN s T hd sm) : ∃ s1, s_X_playNight s = some s1 ∧ NP s1 T hd sm ∧ s1.1 1 9 = 1 ∧ (s1.1 61 0 = s.1 61 0) ∧ (∀ c, 61 ≤ c → s1.1 c = s.1 c) ∧ ∃ s2, s_Z_layNight s1 = some s2 ∧ NZ s2 T hd sm 60 ∧ ZN s2 0 T ∧ CN s2 T hd sm := by
  obtain ⟨s1, h1, h2, h3⟩ := x_night wt hhd hx xs hc
  have hf := s_X_playNight_fr s _ h1
  have keep : ∀ c, 61 ≤ c → s1.1 c = s.1 c := fun c hc => by
    refine (fr_1 hf c ?_ ?_).1
    · simp; omega
    · simp; omega
  have hz1 : ZN s1 0 T := ZN_same (fun c g1 g2 => keep c g1) hz
  have zs1 : ZS s1 0 hd sm := ZS_same (keep 69 (by decide)) zs
  obtain ⟨s2, k1, k2⟩ := z_night wt hhd hz1 zs1
  have hfz := s_Z_layNight_fr s1 _ k1
  refine ⟨s1, h1, h3, h2, by rw [keep 61 (by decide)], keep, s2, k1, k2, ZN_same (fun c g1 g2 => (fr_1 hfz c (by simp; omega) (by simp)).1) hz1, ?_⟩
  exact CN_same (hfz 1 9 (by decide) (by decide)).1 (fr_1 hfz 46 (by decide) (by decide)).1 (fr_1 hfz 47 (by decide) (by decide)).2 (hfz 45 1 (by decide) (by decide)).1 (Or.inr ⟨h2, h3⟩)
theorem m_burns {T : tN} (wt : wT T) {hd : Nat} {sm : Nat → Bool} (hhd : hd < 1024) {s : jm_M} (hx : XN s 15 T) (xs : XS s 15 hd sm) (hz : ZN s 0 T) (zs : ZS s 0 hd sm) (hc : CN s T hd sm) (a b : Int32) : ∃ r s1 s2, s_X_burns s a b = some (r, s1) ∧ s_Z_burns s1 a b = some (r, s2) ∧ CN s2 T hd sm := by
  have w1 := wt.1
  unfold s_X_burns
  rw [x_isHill hx.1 w1]
  by_cases h1 : 0 ≤ a.toInt ∧ a.toInt < tn T
  · rw [if_pos h1, e_bd, if_neg e10, k_isMi]
    by_cases h2 : 0 ≤ b.toInt ∧ b.toInt ≤ 59
    · rw [z_in1 0 59 h2.1 h2.2, e_bd, if_neg e10]
      obtain ⟨h, rfl, hh, hh2⟩ := n_of h1.1
      obtain ⟨u, rfl, hu, hu2⟩ := n_of h2.1
      obtain ⟨s1, p1, p2', p3, p4, p5, s2, q1, q2, q3, q4⟩ := xz_night wt hhd hx xs hz zs hc
      rw [p1, e_bd, x_lit (by omega) (by omega), e_bd, oI_if]
      refine ⟨oI ((nf T hd sm 60).1 u h), s1, s2, ?_, ?_, q4⟩
      · rw [(p2'.1 h (by omega)).1 u (by omega)]
        cases (nf T hd sm 60).1 u h <;> rfl
      · unfold s_Z_burns
        have hsl := sOf_1024 wt ((nf T hd sm 60).1 u)
        rw [z_isHill (p4.trans hz.1) w1, if_pos h1, e_bd, if_neg e10, z_in1 0 59 h2.1 h2.2, e_bd, if_neg e10, q1, e_bd, e_ldi (by omega) (by decide), q2.1 u (by omega), bit1 (by omega) (by omega), sOf_bit, show (decide (h < tn T) && (nf T hd sm 60).1 u h) = (nf T hd sm 60).1 u h by rw [show decide (h < tn T) = true by simp; omega, Bool.true_and]]
        rfl
    · rw [z_in0 0 59 h2, e_bd, if_pos rfl]
      refine ⟨_, s, s, rfl, ?_, hc⟩
      unfold s_Z_burns
      rw [z_isHill hz.1 w1, if_pos h1, e_bd, if_neg e10, z_in0 0 59 h2]
      rfl
  · rw [if_neg h1, e_bd, if_pos rfl]
    refine ⟨_, s, s, rfl, ?_, hc⟩
    unfold s_Z_burns
    rw [z_isHill hz.1 w1, if_neg h1]
    rfl
theorem nf_hill {T : tN} {hd : Nat} {sm : Nat → Bool} {h : Nat} (hh : tn T ≤ h) : ∀ t u, (nf T hd sm t).1 u h = false
  | 0, _ => rfl
  | t + 1, u => by
    show (if u = t then kdl T hd sm (nf T hd sm t).1 (nf T hd sm t).2 t h else (nf T hd sm t).1 u h) = false
    by_cases hu : u = t
    · rw [if_pos hu]
      unfold kdl frd
      rw [show decide (h < tn T) = false by simp; omega]
      simp
    · rw [if_neg hu]
      exact nf_hill hh t u
theorem m_seen {T : tN} (wt : wT T) {hd : Nat} {sm : Nat → Bool} (hhd : hd < 1024) {s : jm_M} (hx : XN s 15 T) (xs : XS s 15 hd sm) (hz : ZN s 0 T) (zs : ZS s 0 hd sm) (hc : CN s T hd sm) (b : Int32) : ∃ r s1 s2, s_X_seen s b = some (r, s1) ∧ s_Z_seen s1 b = some (r, s2) ∧ CN s2 T hd sm := by
  have w1 := wt.1
  unfold s_X_seen
  rw [k_isMi]
  by_cases h2 : 0 ≤ b.toInt ∧ b.toInt ≤ 59
  · rw [z_in1 0 59 h2.1 h2.2, e_bd, if_neg e10]
    obtain ⟨u, rfl, hu, hu2⟩ := n_of h2.1
    obtain ⟨s1, p1, p2', p3, p4, p5, s2, q1, q2, q3, q4⟩ := xz_night wt hhd hx xs hz zs hc
    rw [p1, e_bd]
    refine ⟨nI (sOf ((nf T hd sm 60).1 u) (tn T)), s1, s2, ?_, ?_, q4⟩
    · refine lp_inv (fun n c (acc : Int32) => s_X_seen_L17 n (nI u) acc c s1) 10 (fun i => nI (sOf ((nf T hd sm 60).1 u) i)) _ (fun n => ?_) (fun n i hi => ?_) 10 5000 0 rfl (by decide)
      · show s_X_seen_L17 (n + 1) (nI u) (nI _) (nI 10) s1 = _
        rw [s_X_seen_L17, if_pos (by decide), sOf_up w1 (fun i h1 _ => nf_hill h1 60 u)]
      · show s_X_seen_L17 (n + 1) (nI u) (nI _) (nI i) s1 = s_X_seen_L17 n (nI u) (nI _) (nI (i + 1)) s1
        rw [s_X_seen_L17, if_neg (fun z => by rw [i_ge 10, nI_toInt (by omega)] at z; omega), x_lit hi (by omega), e_bd, oI_if, (p2'.1 i hi).1 u (by omega), e_vi, p2 (by omega), fa_or, nI_1, sOf]
        by_cases hk : (nf T hd sm 60).1 u i = true
        · rw [if_pos hk, if_pos hk]
        · rw [if_neg hk, if_neg hk, Nat.or_zero]
    · unfold s_Z_seen
      rw [z_in1 0 59 h2.1 h2.2, e_bd, if_neg e10, q1, e_bd, e_ldi (by omega) (by decide), q2.1 u (by omega)]
  · rw [z_in0 0 59 h2, e_bd, if_pos rfl]
    refine ⟨_, s, s, rfl, ?_, hc⟩
    unfold s_Z_seen
    rw [z_in0 0 59 h2]
    rfl
theorem m_wood {T : tN} (wt : wT T) {hd : Nat} {sm : Nat → Bool} (hhd : hd < 1024) {s : jm_M} (hx : XN s 15 T) (xs : XS s 15 hd sm) (hz : ZN s 0 T) (zs : ZS s 0 hd sm) (hc : CN s T hd sm) (a : Int32) : ∃ r s1 s2, s_X_wood s a = some (r, s1) ∧ s_Z_wood s1 a = some (r, s2) ∧ CN s2 T hd sm := by
  have w1 := wt.1
  unfold s_X_wood
  rw [x_isHill hx.1 w1]
  by_cases h1 : 0 ≤ a.toInt ∧ a.toInt < tn T
  · rw [if_pos h1, e_bd, if_neg e10]
    obtain ⟨h, rfl, hh, hh2⟩ := n_of h1.1
    obtain ⟨s1, p1, p2', p3, p4, p5, s2, q1, q2, q3, q4⟩ := xz_night wt hhd hx xs hz zs hc
    rw [p1, e_bd, e_ldi (by omega) (by decide), (p2'.1 h (by omega)).2]
    refine ⟨_, s1, s2, rfl, ?_, q4⟩
    unfold s_Z_wood
    rw [z_isHill (p4.trans hz.1) w1, if_pos h1, e_bd, if_neg e10, q1, e_bd, e_ldi (by omega) (by decide), q2.2 h (by omega)]
  · rw [if_neg h1, e_bd, if_pos rfl]
    refine ⟨_, s, s, rfl, ?_, hc⟩
    unfold s_Z_wood
    rw [z_isHill hz.1 w1, if_neg h1]
    rfl
/-! the EAR -/
theorem ear_kS {T : tN} (wt : wT T) : kS T 2 = 0 ↔ ¬ earN T < tn T := by
  have w1 := wt.1
  constructor
  · intro h0 he
    have hb := kS_bit (T := T) 2 (earN T)
    rw [h0, Nat.zero_testBit, show decide (earN T < 10) = true by simp; omega, Bool.true_and] at hb
    have : kB T 2 (earN T) = true := by simp [kB, he, ear_k he]
    rw [this] at hb
    cases hb
  · intro he
    apply Nat.eq_of_testBit_eq
    intro i
    rw [kS_bit, Nat.zero_testBit]
    cases hk : kB T 2 i with
    | false => simp
    | true =>
      have hk2 : i < tn T ∧ tk T i = 2 := by simpa [kB] using hk
      exfalso
      have h1 := fa_first_no (fun h => decide (tk T h = 2)) (tn T) i (by unfold earN at he; omega)
      simp [hk2.2] at h1
theorem x_hasEar {s : jm_M} {T : tN} (wt : wT T) (hx : ∀ h, h < 10 → s.1 16 h = tkI T h) : s_Ne_hasEar_15 s = some (oI (decide (earN T < tn T))) := by
  unfold s_Ne_hasEar_15
  rw [show (2 : Int32) = nI 2 from rfl, x_ofKind wt hx (by decide), e_bd]
  have := kS_lt T 2
  by_cases he : earN T < tn T
  · have h0 : ¬ kS T 2 = 0 := fun z => (ear_kS wt).mp z he
    rw [if_neg (nI_ne0 (by omega) (by omega)), show decide (earN T < tn T) = true by simp [he]]
    rfl
  · rw [(ear_kS wt).mpr he, if_pos (show nI 0 = 0 from rfl), show decide (earN T < tn T) = false by simp; omega]
    rfl
theorem z_ear {s : jm_M} {T : tN} (wt : wT T) (hn : s.1 61 0 = nI (tn T)) (hk : ∀ h, h < tn T → s.1 62 h = nI (tk T h)) : s_Z_ear s = some (if earN T < tn T then nI (earN T) else -4) := by
  have w1 := wt.1
  have go : ∀ (k n i : Nat), i + k = tn T → k < n → (∀ j, j < i → tk T j ≠ 2) → s_Z_ear_L2 s n (nI i) = some (if earN T < tn T then nI (earN T) else -4) := by
    intro k
    induction k with
    | zero =>
      intro n i hi hn2 hb
      obtain ⟨n, rfl⟩ : ∃ m, n = m + 1 := ⟨n - 1, by omega⟩
      rw [s_Z_ear_L2, e_ldiq (j := 0) 0 rfl (by decide) (by decide), hn, if_pos (nI_le (by omega) (by omega))]
      have : earN T = tn T := ear_no (fun j hj => hb j (by omega))
      rw [if_neg (by omega)]
    | succ k ih =>
      intro n i hi hn2 hb
      obtain ⟨n, rfl⟩ : ∃ m, n = m + 1 := ⟨n - 1, by omega⟩
      have h3 := (wt.2.1 i (by omega)).1
      rw [s_Z_ear_L2, e_ldiq (j := 0) 0 rfl (by decide) (by decide), hn, if_neg (nI_ge (by omega) (by omega)), e_ldi (by omega) (by decide), hk i (by omega)]
      by_cases h2 : tk T i = 2
      · have he := ear_is (show i < tn T by omega) h2 (fun j hj => hb j hj)
        rw [if_pos (by rw [h2]; rfl), he, if_pos (by omega)]
      · rw [if_neg (fun z => h2 ((nI_eq (by omega) (by decide)).mp (z.trans (show (2 : Int32) = nI 2 from rfl)))), nI_1]
        refine ih n (i + 1) (by omega) (by omega) (fun j hj => ?_)
        by_cases hji : j = i
        · subst hji; exact h2
        · exact hb j (by omega)
  exact go (tn T) 5000 0 (by omega) (by omega) (fun j hj => by omega)
theorem alm_stay {T : tN} {hd : Nat} {sm : Nat → Bool} {t : Nat} (h : alm T hd sm t ≠ -4) : ∀ d, alm T hd sm (t + d) = alm T hd sm t
  | 0 => rfl
  | d + 1 => by
    have := alm_stay h d
    show (if alm T hd sm (t + d) = -4 ∧ _ then _ else alm T hd sm (t + d)) = _
    rw [if_neg (fun z => h (this.symm.trans z.1))]
    exact this
theorem hrd_60 {T : tN} {hd : Nat} {sm : Nat → Bool} {t : Nat} (ht : t < 60) : hrd T (nf T hd sm (t + 1)).1 t = hrd T (nf T hd sm 60).1 t := by
  unfold hrd
  rw [held_cong (G := (nf T hd sm 60).1) (fun u o hu _ => ?_)]
  have := nf_stay (T := T) (hd := hd) (sm := sm) (t := t + 1) o (show u < t + 1 by omega) (60 - (t + 1))
  rw [show t + 1 + (60 - (t + 1)) = 60 by omega] at this
  exact this.symm
theorem m_alarm {T : tN} (wt : wT T) {hd : Nat} {sm : Nat → Bool} (hhd : hd < 1024) {s : jm_M} (hx : XN s 15 T) (xs : XS s 15 hd sm) (hz : ZN s 0 T) (zs : ZS s 0 hd sm) (hc : CN s T hd sm) : ∃ r s1 s2, s_X_alarm s = some (r, s1) ∧ s_Z_alarm s1 = some (r, s2) ∧ CN s2 T hd sm := by
  have w1 := wt.1
  unfold s_X_alarm
  rw [x_hasEar wt (XN_k hx), e_bd, oI_if]
  by_cases he : earN T < tn T
  · rw [show decide (earN T < tn T) = true by simp [he], if_pos rfl]
    obtain ⟨s1, p1, p2', p3, p4, p5, s2, q1, q2, q3, q4⟩ := xz_night wt hhd hx xs hz zs hc
    rw [p1, e_bd, p2'.2]
    refine ⟨_, s1, s2, rfl, ?_, q4⟩
    unfold s_Z_alarm
    rw [z_ear wt (p4.trans hz.1) (fun h hh => by rw [p5 62 (by decide)]; exact ZN_k hz h hh), e_bd, if_pos he, if_neg (fun z => by rw [i_eq (-4), nI_toInt (by omega)] at z; omega), q1, e_bd]
    obtain ⟨c, E, hE, hs⟩ := q3.2.2
    have go : ∀ (k n t : Nat), t + k = 60 → k < n → alm T hd sm t = -4 → s_Z_alarm_L20 n (nI (earN T)) (nI t) s2 = some (alm T hd sm 60, s2) := by
      intro k
      induction k with
      | zero =>
        intro n t ht hn ha
        obtain ⟨n, rfl⟩ : ∃ m, n = m + 1 := ⟨n - 1, by omega⟩
        rw [s_Z_alarm_L20, if_pos ((i_ge 60).mpr (by rw [nI_toInt (by omega)]; omega)), show (60 : Nat) = t by omega, ha]
      | succ k ih =>
        intro n t ht hn ha
        obtain ⟨n, rfl⟩ : ∃ m, n = m + 1 := ⟨n - 1, by omega⟩
        have hrd' : hrd T (nf T hd sm (t + 1)).1 t = (held T (nf T hd sm 60).1 (earN T) t && !ta T (earN T) t) := by
          rw [hrd_60 (by omega), hrd, show decide (earN T < tn T) = true by simp [he], Bool.true_and, Bool.and_comm]
        rw [s_Z_alarm_L20, if_neg (fun z => by rw [i_ge 60, nI_toInt (by omega)] at z; omega), z_rule wt q3 he (by omega) (fun u hu => q2.1 u (by omega)), e_bd, oI_if, nI_1, show (115 : Int32) = nI 115 from rfl, z_told (T := T) hE hs.1 (by decide) (by omega) (by omega) (hs.2.1 (earN T) t), e_bd, oI_if]
        cases hh : held T (nf T hd sm 60).1 (earN T) t with
        | false =>
          rw [if_neg (by decide)]
          exact ih n (t + 1) (by omega) (by omega) (by rw [alm, if_neg (by rw [hrd', hh]; simp), ha])
        | true =>
          rw [if_pos rfl]
          cases hta : ta T (earN T) t with
          | true =>
            rw [if_pos rfl]
            exact ih n (t + 1) (by omega) (by omega) (by rw [alm, if_neg (by rw [hrd', hta]; simp), ha])
          | false =>
            rw [if_neg (by decide)]
            have h1 : alm T hd sm (t + 1) = nI t := by rw [alm, if_pos ⟨ha, by rw [hrd', hh, hta]; rfl⟩]
            have h2 := alm_stay (T := T) (hd := hd) (sm := sm) (t := t + 1) (by rw [h1]; exact fun z => by rw [i_eq (-4), nI_toInt (by omega)] at z; omega) (60 - (t + 1))
            rw [show t + 1 + (60 - (t + 1)) = 60 by omega, h1] at h2
            rw [h2]
    exact go 60 5000 0 rfl (by decide) rfl
  · rw [show decide (earN T < tn T) = false by simp; omega, if_neg (by decide)]
    refine ⟨_, s, s, rfl, ?_, hc⟩
    unfold s_Z_alarm
    rw [z_ear wt hz.1 (ZN_k hz), e_bd, if_neg he, if_pos rfl]
