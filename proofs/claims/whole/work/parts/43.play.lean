/-! the class plays a night -/
theorem XN_same {s s' : jm_M} {nb : Nat} {T : tN} (h : ∀ c, nb ≤ c → c ≤ nb + 9 → (c = nb → s'.1 c 0 = s.1 c 0) ∧ (c ≠ nb → s'.1 c = s.1 c ∧ s'.2 c = s.2 c)) (hx : XN s nb T) : XN s' nb T := by
  refine ⟨((h nb (by omega) (by omega)).1 rfl).trans hx.1, fun q hq => ?_⟩
  have g := hx.2 q hq
  unfold XH at g ⊢
  rw [((h (nb + 1) (by omega) (by omega)).2 (by omega)).1, ((h (nb + 2) (by omega) (by omega)).2 (by omega)).1, ((h (nb + 3) (by omega) (by omega)).2 (by omega)).1, ((h (nb + 4) (by omega) (by omega)).2 (by omega)).1, ((h (nb + 5) (by omega) (by omega)).2 (by omega)).1, ((h (nb + 7) (by omega) (by omega)).2 (by omega)).2, ((h (nb + 8) (by omega) (by omega)).2 (by omega)).2, ((h (nb + 9) (by omega) (by omega)).2 (by omega)).2]
  exact g
theorem XS_same {s s' : jm_M} {nb hd : Nat} {sm : Nat → Bool} (h1 : s'.1 nb 10 = s.1 nb 10) (h2 : s'.2 nb 11 = s.2 nb 11) (hx : XS s nb hd sm) : XS s' nb hd sm := ⟨h1.trans hx.1, fun t ht => by rw [h2]; exact hx.2 t ht⟩
/-- cells of a net that a frame leaves alone -/
theorem XN_fr {W : List Nat × List (Nat × Nat)} {s s' : jm_M} {nb : Nat} {T : tN} (hf : jm_fr W s s') (hw : (List.range 10).all (fun q => !W.1.contains (nb + q) && W.2.all (fun z => z.1 != nb + q || (q == 0 && z.2 != 0))) = true) (hx : XN s nb T) : XN s' nb T := by
  rw [List.all_eq_true] at hw
  have key : ∀ q, q < 10 → W.1.contains (nb + q) = false ∧ ∀ z ∈ W.2, (z.1 ≠ nb + q ∨ (q = 0 ∧ z.2 ≠ 0)) := by
    intro q hq
    have h1 := hw q (List.mem_range.mpr hq)
    rw [Bool.and_eq_true, List.all_eq_true] at h1
    refine ⟨by simpa using h1.1, fun z hz => ?_⟩
    have := h1.2 z hz
    simpa using this
  refine XN_same (fun c h1 h2 => ?_) hx
  obtain ⟨q, rfl⟩ : ∃ q, c = nb + q := ⟨c - nb, by omega⟩
  obtain ⟨k1, k2⟩ := key q (by omega)
  have free : ∀ k, (q = 0 → k = 0) → W.2.contains (nb + q, k) = false := by
    intro k hk
    cases hc : W.2.contains (nb + q, k) with
    | false => rfl
    | true =>
      rcases k2 _ (List.contains_iff_mem.mp hc) with h | h
      · exact absurd rfl h
      · exact absurd (hk h.1) h.2
  refine ⟨fun e => (hf (nb + q) 0 k1 (free 0 (fun _ => rfl))).1, fun e => ⟨funext fun k => (hf (nb + q) k k1 (free k (fun z => by omega))).1, funext fun k => (hf (nb + q) k k1 (free k (fun z => by omega))).2⟩⟩
def NX (s : jm_M) (T : tN) (hd : Nat) (sm : Nat → Bool) (t : Nat) : Prop := ∀ h, h < 10 → (∀ u, u < 64 → b64 (s.2 47 h) u = (nf T hd sm t).1 u h) ∧ s.1 46 h = nI ((nf T hd sm t).2 h)
def kd (T : tN) (hd : Nat) (sm : Nat → Bool) (t h : Nat) : Bool := kdl T hd sm (nf T hd sm t).1 (nf T hd sm t).2 t h
def RX (s : jm_M) (T : tN) (hd : Nat) (sm : Nat → Bool) (t q : Nat) : Prop := ∀ h, h < 10 → (∀ u, u < 64 → b64 (s.2 47 h) u = if u = t then (decide (h < q) && kd T hd sm t h) else (nf T hd sm t).1 u h) ∧ s.1 46 h = nI (if (decide (h < q) && kd T hd sm t h) = true then (nf T hd sm t).2 h - 1 else (nf T hd sm t).2 h)
theorem RX_0 {s : jm_M} {T : tN} {hd : Nat} {sm : Nat → Bool} {t : Nat} (h : NX s T hd sm t) : RX s T hd sm t 0 := by
  intro q hq
  refine ⟨fun u hu => ?_, ?_⟩
  · rw [(h q hq).1 u hu]
    by_cases hut : u = t
    · subst hut
      rw [if_pos rfl, nf_out u u q (Nat.le_refl _)]
      simp
    · rw [if_neg hut]
  · rw [(h q hq).2]
    simp
theorem RX_10 {s : jm_M} {T : tN} {hd : Nat} {sm : Nat → Bool} {t : Nat} (h : RX s T hd sm t 10) : NX s T hd sm (t + 1) := by
  intro q hq
  have e : (decide (q < 10) && kd T hd sm t q) = kd T hd sm t q := by simp [hq]
  refine ⟨fun u hu => ?_, ?_⟩
  · rw [(h q hq).1 u hu, e]
    rfl
  · rw [(h q hq).2, e]
    rfl
theorem x_min {T : tN} (wt : wT T) {hd : Nat} {sm : Nat → Bool} (hhd : hd < 1024) {t : Nat} (ht : t < 60) : ∀ (k n q : Nat) (s : jm_M), q + k = 10 → k < n → XN s 15 T → XS s 15 hd sm → RX s T hd sm t q → ∃ s', s_Ni_playMinute_45_15_L2 n (nI t) (nI q) s = some s' ∧ RX s' T hd sm t 10 := by
  intro k
  induction k with
  | zero =>
    intro n q s hq hn hx xs hr
    obtain ⟨n, rfl⟩ : ∃ m, n = m + 1 := ⟨n - 1, by omega⟩
    rw [s_Ni_playMinute_45_15_L2, if_pos ((i_ge 10).mpr (by rw [nI_toInt (by omega)]; omega))]
    exact ⟨s, rfl, by rw [show (10 : Nat) = q by omega]; exact hr⟩
  | succ k ih =>
    intro n q s hq hn hx xs hr
    obtain ⟨n, rfl⟩ : ∃ m, n = m + 1 := ⟨n - 1, by omega⟩
    have hq10 : q < 10 := by omega
    have hL : s.1 46 q = nI ((nf T hd sm t).2 q) := by rw [(hr q hq10).2]; simp
    have hw := nf_w wt (hd := hd) (sm := sm) hq10 t
    have skip : kd T hd sm t q = false → RX s T hd sm t (q + 1) := by
      intro hk h hh
      have e : (decide (h < q + 1) && kd T hd sm t h) = (decide (h < q) && kd T hd sm t h) := by
        by_cases hhq : h = q
        · subst hhq; simp [hk]
        · have : (h < q + 1) = (h < q) := by apply propext; omega
          simp [this]
      rw [e]
      exact hr h hh
    rw [s_Ni_playMinute_45_15_L2, if_neg (fun z => by rw [i_ge 10, nI_toInt (by omega)] at z; omega), e_ldi hq10 (by decide), hL, nI_1]
    by_cases h0 : (nf T hd sm t).2 q = 0
    · rw [if_pos (by rw [h0]; decide)]
      exact ih n (q + 1) s (by omega) (by omega) hx xs (skip (by simp [kd, kdl, h0]))
    · have hF : ∀ o u, o < 10 → u < t → b64 (s.2 47 o) u = (nf T hd sm t).1 u o := fun o u ho hu => by rw [(hr o ho).1 u (by omega), if_neg (by omega)]
      rw [if_neg (nI_nle (by omega) (by omega)), x_fired wt hx xs hhd hq10 ht hF, e_bd, oI_if]
      have hkd : kd T hd sm t q = frd T hd sm (nf T hd sm t).1 t q := by
        unfold kd kdl
        rw [show decide (0 < (nf T hd sm t).2 q) = true by simp; omega, Bool.true_and]
      cases hf : frd T hd sm (nf T hd sm t).1 t q with
      | false =>
        rw [if_neg (by decide)]
        exact ih n (q + 1) s (by omega) (by omega) hx xs (skip (by rw [hkd, hf]))
      | true =>
        rw [if_pos rfl, e_ldl hq10 (by decide), e_stl hq10 (by decide), e_ldi hq10 (by decide), e_sti hq10 (by decide)]
        have h46 : (jm_sl s 47 q (s.2 47 q ||| 1 <<< ((nI t).toInt64 &&& 63))).1 46 q = nI ((nf T hd sm t).2 q) := hL
        rw [h46, show nI ((nf T hd sm t).2 q) - 1 = nI ((nf T hd sm t).2 q - 1) by rw [show (1 : Int32) = nI 1 from rfl, pk_sub (by omega)]]
        refine ih n (q + 1) _ (by omega) (by omega) ?_ ?_ ?_
        · refine XN_same (fun c h1 h2 => ?_) hx
          refine ⟨fun _ => by rw [e_sio (by omega)]; rfl, fun _ => ⟨?_, ?_⟩⟩
          · rw [jm_si_o (by omega)]; rfl
          · show (jm_sl s 47 q _).2 c = _
            rw [jm_sl_o (by omega)]
        · refine XS_same ?_ ?_ xs
          · rw [e_sio (by omega)]; rfl
          · show (jm_sl s 47 q (s.2 47 q ||| 1 <<< ((nI t).toInt64 &&& 63))).2 15 11 = _
            rw [e_slo (by omega)]
        · intro h hh
          have hkq : kd T hd sm t q = true := by rw [hkd, hf]
          by_cases hhq : h = q
          · subst hhq
            have e : (decide (h < h + 1) && kd T hd sm t h) = true := by simp [hkq]
            rw [e]
            refine ⟨fun u hu => ?_, ?_⟩
            · show b64 ((jm_sl s 47 h _).2 47 h) u = _
              rw [e_sl, l_or, l_one (by omega) hu, (hr h hh).1 u hu]
              by_cases hut : u = t
              · subst hut; simp
              · simp [hut]
            · rw [e_si, if_pos rfl]
          · have e : (decide (h < q + 1) && kd T hd sm t h) = (decide (h < q) && kd T hd sm t h) := by
              have : (h < q + 1) = (h < q) := by apply propext; omega
              simp [this]
            rw [e]
            refine ⟨fun u hu => ?_, ?_⟩
            · show b64 ((jm_sl s 47 q _).2 47 h) u = _
              rw [e_slo (by omega)]
              exact (hr h hh).1 u hu
            · rw [e_sio (by omega)]
              exact (hr h hh).2
def earN (T : tN) : Nat := fa_first (fun h => decide (tk T h = 2)) (tn T)
theorem ear_is {T : tN} {h : Nat} (hh : h < tn T) (hk : tk T h = 2) (hb : ∀ j, j < h → tk T j ≠ 2) : earN T = h := by
  unfold earN
  have h1 := fa_first_le (fun h => decide (tk T h = 2)) (tn T)
  rcases Nat.lt_trichotomy (fa_first (fun h => decide (tk T h = 2)) (tn T)) h with h2 | h2 | h2
  · have := fa_first_yes (fun h => decide (tk T h = 2)) (tn T) (by omega)
    exact absurd (by simpa using this) (hb _ h2)
  · exact h2
  · have := fa_first_no (fun h => decide (tk T h = 2)) (tn T) h h2
    simp [hk] at this
theorem ear_no {T : tN} (hb : ∀ j, j < tn T → tk T j ≠ 2) : earN T = tn T := by
  have h1 := fa_first_le (fun h => decide (tk T h = 2)) (tn T)
  rcases Nat.lt_or_ge (earN T) (tn T) with h2 | h2
  · have := fa_first_yes (fun h => decide (tk T h = 2)) (tn T) h2
    exact absurd (show tk T (earN T) = 2 from of_decide_eq_true this) (hb _ h2)
  · unfold earN at h2 ⊢
    omega
theorem ear_k {T : tN} (h : earN T < tn T) : tk T (earN T) = 2 := by
  have := fa_first_yes (fun h => decide (tk T h = 2)) (tn T) h
  exact of_decide_eq_true this
def hrd (T : tN) (F : Nat → Nat → Bool) (t : Nat) : Bool := decide (earN T < tn T) && (!ta T (earN T) t && held T F (earN T) t)
theorem x_heard {T : tN} (wt : wT T) {s : jm_M} (hx : XN s 15 T) {F : Nat → Nat → Bool} {t : Nat} (ht : t < 60) (hF : ∀ o u, o < 10 → u ≤ t → b64 (s.2 47 o) u = F u o) : ∀ (k n i : Nat), i + k = 10 → k < n → (∀ j, j < i → j < tn T → tk T j ≠ 2) → s_Ni_isHeard_45_15_L2 s n (nI t) (nI i) = some (oI (hrd T F t)) := by
  have w1 := wt.1
  intro k
  induction k with
  | zero =>
    intro n i hi hn hb
    obtain ⟨n, rfl⟩ : ∃ m, n = m + 1 := ⟨n - 1, by omega⟩
    rw [s_Ni_isHeard_45_15_L2, if_pos ((i_ge 10).mpr (by rw [nI_toInt (by omega)]; omega))]
    have : earN T = tn T := ear_no (fun j hj => hb j (by omega) hj)
    rw [hrd, this, show decide (tn T < tn T) = false by simp]
    rfl
  | succ k ih =>
    intro n i hi hn hb
    obtain ⟨n, rfl⟩ : ∃ m, n = m + 1 := ⟨n - 1, by omega⟩
    have hi10 : i < 10 := by omega
    have g1 : s.1 16 i = tkI T i := (hx.2 i hi10).1
    have g6 : ∀ u, u < 64 → b64 (s.2 22 i) u = ta T i u := (hx.2 i hi10).2.2.2.2.2.1
    rw [s_Ni_isHeard_45_15_L2, if_neg (fun z => by rw [i_ge 10, nI_toInt (by omega)] at z; omega), e_ldi hi10 (by decide), g1]
    by_cases hk : kB T 2 i = true
    · have hk2 : i < tn T ∧ tk T i = 2 := by simpa [kB] using hk
      have he : earN T = i := ear_is hk2.1 hk2.2 (fun j hj => hb j hj (by omega))
      rw [if_pos (show tkI T i = 2 from (tkI_eq wt (v := 2) (by decide)).mpr hk), e_ldl hi10 (by decide), hrd, he, show decide (i < tn T) = true by simp [hk2.1], Bool.true_and]
      cases ha : ta T i t with
      | true => rw [if_neg (fun z => by rw [l_bit (by omega), g6 t (by omega), ha] at z; cases z)]; rfl
      | false =>
        rw [if_pos ((l_bit (by omega)).mpr (by rw [g6 t (by omega), ha])), x_rule wt hx hi10 ht hF, e_bd, oI_if]
        cases held T F i t <;> rfl
    · rw [if_neg (show ¬ tkI T i = 2 from fun z => hk ((tkI_eq wt (v := 2) (by decide)).mp z)), nI_1]
      refine ih n (i + 1) (by omega) (by omega) (fun j hj hjn => ?_)
      by_cases hji : j = i
      · subst hji
        intro h2
        exact hk (by simp [kB, hjn, h2])
      · exact hb j (by omega) hjn
def alm (T : tN) (hd : Nat) (sm : Nat → Bool) : Nat → Int32
  | 0 => -4
  | t + 1 => if alm T hd sm t = -4 ∧ hrd T (nf T hd sm (t + 1)).1 t = true then nI t else alm T hd sm t
def NP (s : jm_M) (T : tN) (hd : Nat) (sm : Nat → Bool) : Prop := NX s T hd sm 60 ∧ s.1 45 1 = alm T hd sm 60
theorem x_play41 {T : tN} (wt : wT T) {hd : Nat} {sm : Nat → Bool} (hhd : hd < 1024) : ∀ (k n t : Nat) (s : jm_M), t + k = 60 → k < n → XN s 15 T → XS s 15 hd sm → NX s T hd sm t → s.1 45 1 = alm T hd sm t → ∃ s', s_Ni_play_45_15_L41 n (nI t) s = some s' ∧ NP s' T hd sm := by
  intro k
  induction k with
  | zero =>
    intro n t s ht hn hx xs hr ha
    obtain ⟨n, rfl⟩ : ∃ m, n = m + 1 := ⟨n - 1, by omega⟩
    rw [s_Ni_play_45_15_L41, if_pos ((i_ge 60).mpr (by rw [nI_toInt (by omega)]; omega))]
    rw [show t = 60 by omega] at hr ha
    exact ⟨s, rfl, hr, ha⟩
  | succ k ih =>
    intro n t s ht hn hx xs hr ha
    obtain ⟨n, rfl⟩ : ∃ m, n = m + 1 := ⟨n - 1, by omega⟩
    obtain ⟨s2, h2, r2⟩ := x_min wt hhd (t := t) (by omega) 10 5000 0 s rfl (by decide) hx xs (RX_0 hr)
    have hfr := s_Ni_playMinute_45_15_L2_fr 5000 (nI t) (nI 0) s _ h2
    have hx2 : XN s2 15 T := XN_fr hfr (by decide) hx
    have xs2 : XS s2 15 hd sm := XS_same (hfr 15 10 (by decide) (by decide)).1 (hfr 15 11 (by decide) (by decide)).2 xs
    have ha2 : s2.1 45 1 = alm T hd sm t := (hfr 45 1 (by decide) (by decide)).1.trans ha
    have r2 := RX_10 r2
    have hF : ∀ o u, o < 10 → u ≤ t → b64 (s2.2 47 o) u = (nf T hd sm (t + 1)).1 u o := fun o u ho hu => (r2 o ho).1 u (by omega)
    rw [s_Ni_play_45_15_L41, if_neg (fun z => by rw [i_ge 60, nI_toInt (by omega)] at z; omega)]
    have hpm : s_Ni_playMinute_45_15 s (nI t) = some s2 := h2
    rw [hpm, e_bd, ha2, nI_1]
    have step : ∀ s3 : jm_M, (∀ c, c ≠ 45 → s3.1 c = s2.1 c) → s3.2 = s2.2 → s3.1 45 1 = alm T hd sm (t + 1) → ∃ s', s_Ni_play_45_15_L41 n (nI (t + 1)) s3 = some s' ∧ NP s' T hd sm := by
      intro s3 e1 e2 e3
      refine ih n (t + 1) s3 (by omega) (by omega) (XN_same (fun c h1 h2 => ⟨fun _ => by rw [e1 c (by omega)], fun _ => ⟨e1 c (by omega), by rw [e2]⟩⟩) hx2) (XS_same (by rw [e1 15 (by decide)]) (by rw [e2]) xs2) (fun h hh => ?_) e3
      rw [e2, e1 46 (by decide)]
      exact r2 h hh
    by_cases hal : alm T hd sm t = -4
    · have hh := x_heard wt hx2 (F := (nf T hd sm (t + 1)).1) (t := t) (by omega) hF 10 5000 0 rfl (by decide) (fun j hj => by omega)
      have hh2 : s_Ni_isHeard_45_15 s2 (nI t) = some (oI (hrd T (nf T hd sm (t + 1)).1 t)) := hh
      rw [if_pos hal, hh2, e_bd, oI_if]
      cases hb : hrd T (nf T hd sm (t + 1)).1 t with
      | false =>
        rw [if_neg (by decide)]
        exact step s2 (fun _ _ => rfl) rfl (by rw [ha2, alm, if_neg (by simp [hb])])
      | true =>
        rw [if_pos rfl, e_ev]
        exact step _ (fun c hc => jm_si_o hc) rfl (by rw [e_si, alm, if_pos ⟨hal, hb⟩])
    · rw [if_neg hal]
      exact step s2 (fun _ _ => rfl) rfl (by rw [ha2, alm, if_neg (by simp [hal])])
theorem x_play8 {T : tN} (wt : wT T) {hd : Nat} {sm : Nat → Bool} (hhd : hd < 1024) : ∀ (k n q : Nat) (s : jm_M), q + k = 10 → k < n → XN s 15 T → XS s 15 hd sm → (∀ h, h < q → s.2 47 h = 0 ∧ s.1 46 h = nI (tw T h)) → s.1 45 1 = -4 → ∃ s', s_Ni_play_45_15_L8 n (nI q) s = some s' ∧ NP s' T hd sm := by
  intro k
  induction k with
  | zero =>
    intro n q s hq hn hx xs hr ha
    obtain ⟨n, rfl⟩ : ∃ m, n = m + 1 := ⟨n - 1, by omega⟩
    rw [s_Ni_play_45_15_L8, if_pos ((i_ge 10).mpr (by rw [nI_toInt (by omega)]; omega))]
    refine x_play41 wt hhd 60 5000 0 s rfl (by decide) hx xs (fun h hh => ?_) ha
    have := hr h (by omega)
    refine ⟨fun u hu => ?_, this.2⟩
    rw [this.1]
    exact w_zero.mp rfl u hu
  | succ k ih =>
    intro n q s hq hn hx xs hr ha
    obtain ⟨n, rfl⟩ : ∃ m, n = m + 1 := ⟨n - 1, by omega⟩
    have hq10 : q < 10 := by omega
    have g5 : s.1 20 q = nI (tw T q) := (hx.2 q hq10).2.2.2.2.1
    have g5' : (jm_sl s 47 q 0).1 20 q = nI (tw T q) := g5
    rw [s_Ni_play_45_15_L8, if_neg (fun z => by rw [i_ge 10, nI_toInt (by omega)] at z; omega), e_stl hq10 (by decide), e_ldi hq10 (by decide), e_sti hq10 (by decide), nI_1, g5']
    refine ih n (q + 1) _ (by omega) (by omega) ?_ ?_ ?_ ?_
    · refine XN_same (fun c h1 h2 => ⟨fun _ => by rw [e_sio (by omega)]; rfl, fun _ => ⟨by rw [jm_si_o (by omega)]; rfl, ?_⟩⟩) hx
      show (jm_sl s 47 q 0).2 c = _
      rw [jm_sl_o (by omega)]
    · refine XS_same ?_ ?_ xs
      · rw [e_sio (by omega)]; rfl
      · show (jm_sl s 47 q 0).2 15 11 = _
        rw [e_slo (by omega)]
    · intro h hh
      by_cases hhq : h = q
      · subst hhq
        refine ⟨?_, by rw [e_si]⟩
        show (jm_sl s 47 h 0).2 47 h = 0
        rw [e_sl]
      · refine ⟨?_, ?_⟩
        · show (jm_sl s 47 q 0).2 47 h = 0
          rw [e_slo (by omega)]
          exact (hr h (by omega)).1
        · rw [e_sio (by omega)]
          exact (hr h (by omega)).2
    · rw [e_sio (by omega)]
      exact ha
/-- the class's night is played, or stands -/
theorem x_night {T : tN} (wt : wT T) {hd : Nat} {sm : Nat → Bool} (hhd : hd < 1024) {s : jm_M} (hx : XN s 15 T) (xs : XS s 15 hd sm) (hc : s.1 1 9 = 0 ∨ (s.1 1 9 = 1 ∧ NP s T hd sm)) : ∃ s', s_X_playNight s = some s' ∧ s'.1 1 9 = 1 ∧ NP s' T hd sm := by
  unfold s_X_playNight
  rcases hc with h0 | ⟨h1, hp⟩
  · rw [if_pos h0]
    unfold s_Ni_play_45_15
    rw [e_ev]
    obtain ⟨s', h2, hp⟩ := x_play8 wt hhd 10 5000 0 (jm_si s 45 1 (-4)) rfl (by decide) (XN_same (fun c h1 h2 => ⟨fun _ => by rw [e_sio (by omega)], fun _ => ⟨jm_si_o (by omega), rfl⟩⟩) hx) (XS_same (by rw [e_sio (by omega)]) rfl xs) (fun h hh => by omega) e_si
    rw [show (0 : Int32) = nI 0 from rfl, h2, e_bd, e_ev]
    refine ⟨_, rfl, e_si, ?_, ?_⟩
    · intro h hh
      rw [jm_si_o (by decide)]
      exact hp.1 h hh
    · rw [e_sio (by omega)]
      exact hp.2
  · rw [if_neg (by rw [h1]; decide)]
    exact ⟨s, rfl, h1, hp⟩
