/-! the model: spares added, a sight gone, false alarms counted -/
theorem ZC_add {s : jm_M} {T : tN} {C C' : tC} {M A sp : Nat} (hM : M < 1024) (hsp : sp = kS T 3) (hA : sbs A sp) (hF : ∀ h, (cF C).testBit h = (M.testBit h && !kB T 2 h)) (hF2 : cF C < 2 ^ tn T) (zc : ZC s T C') (e1 : cs C' = cs C) (e2 : cd C' = cd C) (e3 : cp C' = cp C) : ZC (jm_si s 59 22 (nI (M ||| A))) T (cAdd C A) := by
  obtain ⟨g1, g2, ⟨k, k1, k2, k3⟩, ⟨m, m1, m2, m3⟩, -, g6, g7, g8⟩ := zc
  have hA2 : A < 1024 := sbs_lt hA (by rw [hsp]; exact kS_lt T 3)
  have hAk : ∀ h, A.testBit h = true → h < tn T ∧ tk T h = 3 := fun h hh => by
    have := hA h hh
    rw [hsp, kS_bit, kB] at this
    simp only [Bool.and_eq_true, decide_eq_true_eq] at this
    exact this.2
  refine ⟨?_, fun h hh => ?_, ⟨k, ?_, k2, fun h hh => ?_⟩, ⟨m, ?_, m2, fun h hh => ?_⟩, ⟨M ||| A, Nat.or_lt_two_pow (n := 10) hM hA2, by rw [e_si], fun h => ?_⟩, fun h o hh ho => ?_, fun h hh => ?_, ?_⟩
  · rw [e_sio (by omega)]; exact g1
  · rw [e_sio (by omega), e_sio (by omega)]; exact g2 h hh
  · rw [e_sio (by omega)]; exact k1
  · rw [e_sio (by omega)]
    show (k = 0 → s.1 64 h = nI (cd C h)) ∧ (k ≠ 0 → cd C h = k)
    rw [← e2]; exact k3 h hh
  · rw [e_sio (by omega)]; exact m1
  · rw [e_sio (by omega)]
    show (m = 0 → s.1 65 h = nI (cp C h)) ∧ (m ≠ 0 → cp C h = m)
    rw [← e3]; exact m3 h hh
  · show (cF C ||| A).testBit h = _
    rw [Nat.testBit_or, Nat.testBit_or, hF h]
    cases ha : A.testBit h with
    | false => simp
    | true =>
      have := hAk h ha
      have : kB T 2 h = false := by unfold kB; simp [this.2]
      simp [this]
  · have : gB (jm_si s 59 22 (nI (M ||| A))) h o = gB s h o := by
      unfold gB
      rw [e_sio (by omega), e_sio (by omega)]
    rw [this]
    show (cs C h).testBit o = _
    rw [← e1]
    exact g6 h o hh ho
  · show cs C h < _
    rw [← e1]; exact g7 h hh
  · show cF C ||| A < 2 ^ tn T
    refine Nat.or_lt_two_pow hF2 ?_
    apply Nat.lt_pow_two_of_testBit
    intro i hi
    cases ha : A.testBit i with
    | false => rfl
    | true => have := hAk i ha; omega
theorem z_added {T : tN} {C : tC} (wt : wT T) (zk : ZK T C) {b M sp : Nat} (hb : b ≤ 9) (hM : M < 1024) (hsp : sp = kS T 3) (hF : ∀ h, (cF C).testBit h = (M.testBit h && !kB T 2 h)) (hF2 : cF C < 2 ^ tn T) : ∀ (k n A : Nat) (x4 : Int32) (s : jm_M), A + k = sp + 1 → k < n → (∃ C', ZC s T C' ∧ cs C' = cs C ∧ cd C' = cd C ∧ cp C' = cp C) → ((∃ B, B < A ∧ sbs B sp ∧ bear (cAdd C B) b ∧ (∀ D, D < A → sbs D sp → bear (cAdd C D) b → bcn B < bcn D ∨ (bcn B = bcn D ∧ B ≤ D)) ∧ x4 = nI B) ∨ (x4 = -4 ∧ ∀ D, D < A → sbs D sp → ¬ bear (cAdd C D) b)) → ∃ r s', s_Z_added_L48 n (nI b) (nI M) (nI sp) x4 (nI A) s = some (r, s') ∧ asR C b sp r := by
  have w1 := wt.1
  have hsp2 : sp < 1024 := by rw [hsp]; exact kS_lt T 3
  have hspe : sp.testBit (ce C) = false := by
    rw [hsp, kS_bit, kB, zk.2.1, ear_k zk.2.2.1]
    simp
  intro k
  induction k with
  | zero =>
    intro n A x4 s hA hn zc hq
    obtain ⟨n, rfl⟩ : ∃ q, n = q + 1 := ⟨n - 1, by omega⟩
    rw [s_Z_added_L48, if_pos (by rw [fa_lt, nI_toInt (by omega), nI_toInt (by omega)]; omega)]
    refine ⟨_, _, rfl, ?_⟩
    rcases hq with ⟨B, b1, b2, b3, b4, b5⟩ | ⟨b1, b2⟩
    · exact Or.inl ⟨B, b2, b3, fun D hD hbr => b4 D (by have := sbs_le hD; omega) hD hbr, b5⟩
    · exact Or.inr ⟨b1, fun D hD => b2 D (by have := sbs_le hD; omega) hD⟩
  | succ k ih =>
    intro n A x4 s hA hn zc hq
    obtain ⟨n, rfl⟩ : ∃ q, n = q + 1 := ⟨n - 1, by omega⟩
    have hA2 : A < 1024 := by omega
    have hbl := bcn_le A
    have skip : ∀ s2, (∃ C', ZC s2 T C' ∧ cs C' = cs C ∧ cd C' = cd C ∧ cp C' = cp C) → (sbs A sp → bear (cAdd C A) b → ∃ B, x4 = nI B ∧ B < A ∧ bcn B ≤ bcn A) → ∃ r s', s_Z_added_L48 n (nI b) (nI M) (nI sp) x4 (nI (A + 1)) s2 = some (r, s') ∧ asR C b sp r := fun s2 zc2 hs => by
      refine ih n (A + 1) x4 s2 (by omega) (by omega) zc2 ?_
      rcases hq with ⟨B, b1, b2, b3, b4, b5⟩ | ⟨b1, b2⟩
      · refine Or.inl ⟨B, by omega, b2, b3, fun D hD h1 h2 => ?_, b5⟩
        by_cases e : D = A
        · rw [e] at h1 h2 ⊢
          obtain ⟨B', c1, c2, c3⟩ := hs h1 h2
          have : B = B' := (nI_eq (by omega) (by omega)).mp (b5.symm.trans c1)
          rw [this]; omega
        · exact b4 D (by omega) h1 h2
      · refine Or.inr ⟨b1, fun D hD h1 h2 => ?_⟩
        by_cases e : D = A
        · rw [e] at h1 h2
          obtain ⟨B', c1, c2, c3⟩ := hs h1 h2
          rw [b1] at c1
          exact nI_n4 (by omega) c1.symm
        · exact b2 D (by omega) h1 h2
    rw [s_Z_added_L48, if_neg (fun q => by rw [fa_lt, nI_toInt (by omega), nI_toInt (by omega)] at q; omega), nI_1]
    by_cases hs : sbs A sp
    · rw [if_pos ((andn0 hA2 hsp2).mpr hs)]
      obtain ⟨C', zc1, e1, e2, e3⟩ := zc
      have zcA := ZC_add hM hsp hs hF hF2 zc1 e1 e2 e3
      have zkA : ZK T (cAdd C A) := ⟨wK_add zk.1 hsp2 hspe hs, zk.2⟩
      have J : (x4 = -4 ∨ ∃ B, x4 = nI B ∧ B < A ∧ bcn A < bcn B) → ∃ r s', s_Z_added_J83 (s_Z_added_L48 n) (nI b) (nI M) (nI sp) x4 (nI A) s = some (r, s') ∧ asR C b sp r := by
        intro hx
        unfold s_Z_added_J83
        rw [fa_or, e_ev]
        obtain ⟨r, s2, a1, a2, a3⟩ := z_mostBorne wt zkA zcA
        rw [a1, e_b2, nI_1]
        have zc2 : ∃ C', ZC s2 T C' ∧ cs C' = cs C ∧ cd C' = cd C ∧ cp C' = cp C := ⟨_, a3, rfl, rfl, rfl⟩
        rcases a2 with ⟨c, c1, c2, c3, rfl⟩ | ⟨rfl, c1⟩
        · rw [if_neg (nI_n4 (by omega))]
          by_cases hcb : c < b
          · rw [if_pos (by rw [fa_lt, nI_toInt (by omega), nI_toInt (by omega)]; omega)]
            exact skip s2 zc2 (fun _ hbr => absurd hbr (c3 b hcb hb))
          · rw [if_neg (fun q => by rw [fa_lt, nI_toInt (by omega), nI_toInt (by omega)] at q; omega)]
            have hbr : bear (cAdd C A) b := bear_dn zkA.1 (by omega) c2
            refine ih n (A + 1) (nI A) s2 (by omega) (by omega) zc2 (Or.inl ⟨A, by omega, hs, hbr, fun D hD h1 h2 => ?_, rfl⟩)
            by_cases e : D = A
            · rw [e]; omega
            · left
              rcases hx with hx | ⟨B, x1, x2, x3⟩
              · rcases hq with ⟨B, b1, b2, b3, b4, b5⟩ | ⟨b1, b2⟩
                · rw [b5] at hx; exact absurd hx (nI_n4 (by omega))
                · exact absurd h2 (b2 D (by omega) h1)
              · rcases hq with ⟨B', b1, b2, b3, b4, b5⟩ | ⟨b1, b2⟩
                · have hBB : B' = B := (nI_eq (by omega) (by omega)).mp (b5.symm.trans x1)
                  have := b4 D (by omega) h1 h2
                  rw [hBB] at this
                  omega
                · rw [b1] at x1; exact absurd x1.symm (nI_n4 (by omega))
        · rw [if_pos rfl]
          exact skip s2 zc2 (fun _ hbr => absurd hbr (c1 b hb))
      rcases hq with ⟨B, b1, b2, b3, b4, b5⟩ | ⟨b1, b2⟩
      · have hBl := bcn_le B
        rw [if_neg (by rw [b5]; exact nI_n4 (by omega)), z_bits s hA2, e_bd]
        have e5 : s_Z_bits s x4 = some (nI (bcn B)) := by rw [b5]; exact z_bits s (by omega)
        rw [e5, e_bd]
        by_cases hle : bcn B ≤ bcn A
        · rw [if_pos (nI_le hle (by omega))]
          exact skip s ⟨C', zc1, e1, e2, e3⟩ (fun _ _ => ⟨B, b5, b1, hle⟩)
        · rw [if_neg (nI_ge (by omega) (by omega))]
          exact J (Or.inr ⟨B, b5, b1, by omega⟩)
      · rw [if_pos b1]
        exact J (Or.inl b1)
    · rw [if_neg (fun q => hs ((andn0 hA2 hsp2).mp q))]
      exact skip s zc (fun h => absurd h hs)
/-! a sight gone -/
theorem ZC_gon {s : jm_M} {T : tN} {C' : tC} {x y : Nat} (wt : wT T) (hx : x < tn T) (hy : y < x) (hb : (ts T x).testBit y = true) (zc : ZC s T C') (e1 : cF C' = fk T) (e2 : cd C' = td T) (e3 : cp C' = tp T) : ZC (jm_si (jm_si s 59 25 (nI x)) 59 26 (nI y)) T (cGon (kC T) y x) := by
  have w1 := wt.1
  obtain ⟨g1, g2, ⟨k, k1, k2, k3⟩, ⟨m, m1, m2, m3⟩, ⟨M, M1, M2, M3⟩, -, -, -⟩ := zc
  have hb2 : (ts T y).testBit x = true := by rw [wt.2.2.2.1 y x (by omega) hx]; exact hb
  refine ⟨?_, fun h hh => ?_, ⟨k, ?_, k2, fun h hh => ?_⟩, ⟨m, ?_, m2, fun h hh => ?_⟩, ⟨M, M1, ?_, fun h => ?_⟩, fun h o hh ho => ?_, fun h hh => ?_, fk_two T⟩
  · rw [e_sio (by omega), e_sio (by omega)]; exact g1
  · rw [e_sio (by omega), e_sio (by omega), e_sio (by omega), e_sio (by omega)]; exact g2 h hh
  · rw [e_sio (by omega), e_sio (by omega)]; exact k1
  · rw [e_sio (by omega), e_sio (by omega)]
    show (k = 0 → s.1 64 h = nI (td T h)) ∧ (k ≠ 0 → td T h = k)
    rw [← e2]; exact k3 h hh
  · rw [e_sio (by omega), e_sio (by omega)]; exact m1
  · rw [e_sio (by omega), e_sio (by omega)]
    show (m = 0 → s.1 65 h = nI (tp T h)) ∧ (m ≠ 0 → tp T h = m)
    rw [← e3]; exact m3 h hh
  · rw [e_sio (by omega), e_sio (by omega)]; exact M2
  · show (fk T).testBit h = _
    rw [← e1]; exact M3 h
  · have hg : gB (jm_si (jm_si s 59 25 (nI x)) 59 26 (nI y)) h o = (decide (h = x ∧ o = y) || decide (h = y ∧ o = x)) := by
      unfold gB
      rw [e_sio (by omega), e_si, e_si]
      congr 1
      · apply decide_eq_decide.mpr
        rw [nI_eq (by omega) (by omega), nI_eq (by omega) (by omega)]
      · apply decide_eq_decide.mpr
        rw [nI_eq (by omega) (by omega), nI_eq (by omega) (by omega)]
    rw [hg, gon_cs]
    by_cases a : h = y
    · rw [if_pos a]
      show (ts T y ^^^ 2 ^ x).testBit o = _
      rw [fb_bit_flip, a]
      by_cases c : o = x
      · rw [c, hb2]; simp
      · simp [c, show ¬ y = x by omega]
    · rw [if_neg a]
      by_cases d : h = x
      · rw [if_pos d]
        show (ts T x ^^^ 2 ^ y).testBit o = _
        rw [fb_bit_flip, d]
        by_cases c : o = y
        · rw [c, hb]; simp
        · simp [c, show ¬ x = y by omega]
      · rw [if_neg d]
        show (ts T h).testBit o = _
        simp [a, d]
  · rw [gon_cs]
    have p : ∀ q, q < tn T → 2 ^ q < 2 ^ tn T := fun q hq => Nat.pow_lt_pow_right (by decide) hq
    split
    · exact Nat.xor_lt_two_pow (wt.2.1 y (by omega)).2.1 (p x hx)
    · split
      · exact Nat.xor_lt_two_pow (wt.2.1 x hx).2.1 (p y (by omega))
      · exact (wt.2.1 h hh).2.1
theorem ZC_told {s : jm_M} {T : tN} {C' : tC} (wt : wT T) (zc : ZC s T C') (e1 : cF C' = fk T) (e2 : cd C' = td T) (e3 : cp C' = tp T) : ZC (jm_si (jm_si s 59 25 (-4)) 59 26 (-4)) T (kC T) := by
  have w1 := wt.1
  obtain ⟨g1, g2, ⟨k, k1, k2, k3⟩, ⟨m, m1, m2, m3⟩, ⟨M, M1, M2, M3⟩, -, -, -⟩ := zc
  refine ⟨?_, fun h hh => ?_, ⟨k, ?_, k2, fun h hh => ?_⟩, ⟨m, ?_, m2, fun h hh => ?_⟩, ⟨M, M1, ?_, fun h => ?_⟩, fun h o hh ho => ?_, fun h hh => (wt.2.1 h hh).2.1, fk_two T⟩
  · rw [e_sio (by omega), e_sio (by omega)]; exact g1
  · rw [e_sio (by omega), e_sio (by omega), e_sio (by omega), e_sio (by omega)]; exact g2 h hh
  · rw [e_sio (by omega), e_sio (by omega)]; exact k1
  · rw [e_sio (by omega), e_sio (by omega)]
    show (k = 0 → s.1 64 h = nI (td T h)) ∧ (k ≠ 0 → td T h = k)
    rw [← e2]; exact k3 h hh
  · rw [e_sio (by omega), e_sio (by omega)]; exact m1
  · rw [e_sio (by omega), e_sio (by omega)]
    show (m = 0 → s.1 65 h = nI (tp T h)) ∧ (m ≠ 0 → tp T h = m)
    rw [← e3]; exact m3 h hh
  · rw [e_sio (by omega), e_sio (by omega)]; exact M2
  · show (fk T).testBit h = _
    rw [← e1]; exact M3 h
  · show (ts T h).testBit o = _
    have : gB (jm_si (jm_si s 59 25 (-4)) 59 26 (-4)) h o = false := by
      unfold gB
      rw [e_sio (by omega), e_si, e_si]
      simp [nI_n4 (show h < 2147483648 by omega)]
    rw [this]
    simp
theorem sG_iff {T : tN} (wt : wT T) {x y : Nat} : sG (kC T) y x ↔ y < x ∧ x < tn T ∧ (ts T x).testBit y = true := by
  have w1 := wt.1
  constructor
  · rintro ⟨h1, h2, h3⟩
    have h3 : (ts T y).testBit x = true := h3
    have hy : y < tn T := by
      apply Classical.byContradiction
      intro hn
      have := (wt.2.2.1 y (by omega) (by omega)).1
      rw [this] at h3
      simp at h3
    have hx : x < tn T := by
      apply Classical.byContradiction
      intro hn
      rw [Nat.testBit_lt_two_pow (Nat.lt_of_lt_of_le (wt.2.1 y hy).2.1 (Nat.pow_le_pow_right (by decide) (by omega)))] at h3
      cases h3
    exact ⟨h1, hx, by rw [← wt.2.2.2.1 y x hy hx]; exact h3⟩
  · rintro ⟨h1, h2, h3⟩
    refine ⟨h1, by omega, ?_⟩
    show (ts T y).testBit x = true
    rw [wt.2.2.2.1 y x (by omega) h2]; exact h3
theorem ZK_gon {T : tN} (wt : wT T) (he : earN T < tn T) {x y : Nat} (hx : x < 10) (hy : y < 10) : ZK T (cGon (kC T) x y) := ⟨wK_gon (wK_k wt he) hx hy, rfl, he, rfl⟩
def zcT (s : jm_M) (T : tN) : Prop := ∃ C', ZC s T C' ∧ cF C' = fk T ∧ cd C' = td T ∧ cp C' = tp T
theorem z_l24 {T : tN} (wt : wT T) (he : earN T < tn T) {b x : Nat} (hb : b ≤ 10) (hx : x < tn T) (k4 : Int32 → Int32 → Int32 → Int32 → jm_M → Option (Int32 × jm_M)) (x2 : Int32) : ∀ (k n y w : Nat) (s : jm_M), y + k = x → k < n → zcT s T → w ≤ 1000000 → (∀ u v M, sG (kC T) u v → v < x ∨ (v = x ∧ u < y) → isL (cGon (kC T) u v) b M → M ≤ w) → (w = 0 ∨ ∃ u v, sG (kC T) u v ∧ isL (cGon (kC T) u v) b w) → ∃ s' w', s_Z_lateOf_L24 k4 n (nI b) x2 (wJ w) (nI x) (nI y) s = k4 (nI b) x2 (wJ w') (nI (x + 1)) s' ∧ zcT s' T ∧ w' ≤ 1000000 ∧ (∀ u v M, sG (kC T) u v → v < x + 1 → isL (cGon (kC T) u v) b M → M ≤ w') ∧ (w' = 0 ∨ ∃ u v, sG (kC T) u v ∧ isL (cGon (kC T) u v) b w') := by
  have w1 := wt.1
  intro k
  induction k with
  | zero =>
    intro n y w s hy hn zc hw h1 h2
    obtain ⟨n, rfl⟩ : ∃ q, n = q + 1 := ⟨n - 1, by omega⟩
    rw [s_Z_lateOf_L24, if_pos (nI_le (by omega) (by omega)), nI_1]
    exact ⟨s, w, rfl, zc, hw, fun u v M hG hv hM => h1 u v M hG (by have := hG.1; omega) hM, h2⟩
  | succ k ih =>
    intro n y w s hy hn zc hw h1 h2
    obtain ⟨n, rfl⟩ : ∃ q, n = q + 1 := ⟨n - 1, by omega⟩
    obtain ⟨C', zc1, e1, e2, e3⟩ := zc
    have htl : ts T x < 1024 := ts_lt wt (by omega)
    rw [s_Z_lateOf_L24, if_neg (nI_ge (by omega) (by omega)), e_ldi (by omega) (by decide), (zc1.2.1 x hx).2, z_hasO s (by omega) (by omega), e_bd, nI_1]
    cases hs : (ts T x).testBit y with
    | false =>
      rw [oI_f, if_pos rfl]
      refine ih n (y + 1) w s (by omega) (by omega) ⟨C', zc1, e1, e2, e3⟩ hw (fun u v M hG hv hM => ?_) h2
      by_cases e : v = x ∧ u = y
      · obtain ⟨rfl, rfl⟩ := e
        rw [((sG_iff wt).mp hG).2.2] at hs; cases hs
      · exact h1 u v M hG (by omega) hM
    | true =>
      have hG : sG (kC T) y x := (sG_iff wt).mpr ⟨by omega, hx, hs⟩
      have zc2 := ZC_gon wt hx (show y < x by omega) hs zc1 e1 e2 e3
      have zkG := ZK_gon wt he (x := y) (y := x) (by omega) (by omega)
      obtain ⟨L, s2, a1, a2, a3⟩ := z_latest wt zkG zc2 hb
      rw [oI_t, if_neg e10, e_ev, e_ev, a1, e_b2]
      have zc3 : zcT s2 T := ⟨_, a3, rfl, rfl, rfl⟩
      have hL := isL_bd zkG.1 a2
      by_cases hle : L ≤ w
      · rw [if_pos ((wJ_le (by omega) (by omega) hw).mpr hle)]
        refine ih n (y + 1) w s2 (by omega) (by omega) zc3 hw (fun u v M hG hv hM => ?_) h2
        by_cases e : v = x ∧ u = y
        · obtain ⟨rfl, rfl⟩ := e
          rw [isL_one hM a2]; exact hle
        · exact h1 u v M hG (by omega) hM
      · rw [if_neg (fun q => hle ((wJ_le (by omega) (by omega) hw).mp q))]
        have e : nI L = wJ L := by rw [wJ, if_neg (by omega)]
        rw [e]
        refine ih n (y + 1) L s2 (by omega) (by omega) zc3 (by omega) (fun u v M hG hv hM => ?_) (Or.inr ⟨y, x, hG, a2⟩)
        by_cases e : v = x ∧ u = y
        · obtain ⟨rfl, rfl⟩ := e
          rw [isL_one hM a2]; exact Nat.le_refl _
        · have := h1 u v M hG (by omega) hM
          omega
theorem z_lateOf1 {s : jm_M} {T : tN} (wt : wT T) (he : earN T < tn T) (zc : ZC s T (kC T)) {b : Nat} (hb : b ≤ 10) : ∃ L s', s_Z_lateOf s (nI b) 1 = some (nI L, s') ∧ isLG (kC T) b L := by
  have w1 := wt.1
  have H : ∀ (k n x w : Nat) (s : jm_M), x + k = tn T → k < n → zcT s T → w ≤ 1000000 → (∀ u v M, sG (kC T) u v → v < x → isL (cGon (kC T) u v) b M → M ≤ w) → (w = 0 ∨ ∃ u v, sG (kC T) u v ∧ isL (cGon (kC T) u v) b w) → ∃ L s', s_Z_lateOf_L5 n (nI b) 1 (wJ w) (nI x) s = some (nI L, s') ∧ isLG (kC T) b L := by
    intro k
    induction k with
    | zero =>
      intro n x w s hx hn zc hw h1 h2
      obtain ⟨n, rfl⟩ : ∃ q, n = q + 1 := ⟨n - 1, by omega⟩
      obtain ⟨C', zc1, e1, e2, e3⟩ := zc
      rw [s_Z_lateOf_L5, e_ldiq (j := 0) 0 rfl (by decide) (by decide), zc1.1, if_pos (nI_le (by omega) (by omega))]
      unfold s_Z_lateOf_J90
      rw [e_ev, e_ev]
      have hall : ∀ u v M, sG (kC T) u v → isL (cGon (kC T) u v) b M → M ≤ w := fun u v M hG hM => h1 u v M hG (by have := ((sG_iff wt).mp hG).2.1; omega) hM
      by_cases h0 : w = 0
      · rw [if_neg (fun q => (wJ_ge hw).mp q h0)]
        obtain ⟨L, s2, a1, a2, a3⟩ := z_latest wt (ZK_k wt he) (ZC_told wt zc1 e1 e2 e3) hb
        rw [a1, e_b2]
        refine ⟨L, s2, rfl, Or.inl ⟨fun u v hG => ?_, a2⟩⟩
        have wkG := wK_gon (wK_k wt he) (show u < 10 by have := hG.1; have := hG.2.1; omega) hG.2.1
        obtain ⟨M, hM⟩ := isL_ex wkG b
        have := hall u v M hG hM
        rcases isL_bd wkG hM with g2 | g2 <;> omega
      · rw [if_pos ((wJ_ge hw).mpr h0)]
        rcases h2 with h2 | ⟨u, v, h3, h4⟩
        · exact absurd h2 h0
        · exact ⟨w, _, by rw [wJ, if_neg h0], Or.inr ⟨hall, u, v, h3, h4⟩⟩
    | succ k ih =>
      intro n x w s hx hn zc hw h1 h2
      obtain ⟨n, rfl⟩ : ∃ q, n = q + 1 := ⟨n - 1, by omega⟩
      obtain ⟨s', w', a1, a2, a3, a4, a5⟩ := z_l24 wt he hb (show x < tn T by omega) (s_Z_lateOf_L5 n) 1 x 5000 0 w s (by omega) (by omega) zc hw (fun u v M hG hv hM => h1 u v M hG (by omega) hM) h2
      have a1' : s_Z_lateOf_L24 (s_Z_lateOf_L5 n) 5000 (nI b) 1 (wJ w) (nI x) 0 s = s_Z_lateOf_L5 n (nI b) 1 (wJ w') (nI (x + 1)) s' := a1
      obtain ⟨C', zc1, e1, e2, e3⟩ := zc
      rw [s_Z_lateOf_L5, e_ldiq (j := 0) 0 rfl (by decide) (by decide), zc1.1, if_neg (nI_ge (by omega) (by omega)), if_pos rfl, a1']
      exact ih n (x + 1) w' s' (by omega) (by omega) a2 a3 a4 a5
  exact H (tn T) 5000 0 0 s (by omega) (by omega) ⟨_, zc, rfl, rfl, rfl⟩ (by decide) (fun u v M _ hv _ => by omega) (Or.inl rfl)
theorem z_lateOf0 {s : jm_M} {T : tN} (wt : wT T) (he : earN T < tn T) (zc : ZC s T (kC T)) {b : Nat} (hb : b ≤ 10) : ∃ L s', s_Z_lateOf s (nI b) 0 = some (nI L, s') ∧ isL (kC T) b L := by
  have w1 := wt.1
  obtain ⟨L, s2, a1, a2, a3⟩ := z_latest wt (ZK_k wt he) (ZC_told wt zc rfl rfl rfl) hb
  refine ⟨L, s2, ?_, a2⟩
  unfold s_Z_lateOf
  rw [show (5000 : Nat) = 4999 + 1 from rfl, s_Z_lateOf_L5, e_ldiq (j := 0) 0 rfl (by decide) (by decide), zc.1, if_neg (by rw [show (0 : Int32) = nI 0 from rfl]; exact nI_ge (by omega) (by omega)), if_neg (by decide)]
  unfold s_Z_lateOf_J90
  rw [e_ev, e_ev, if_neg (by decide), a1, e_b2]
