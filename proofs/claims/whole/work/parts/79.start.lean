/-! the start -/
theorem cl88_t26 : ∀ (k n i : Nat) (s : jm_M), i + k = 100 → k < n → (∀ h, h < i → s.2 14 h = 0) → ∃ s', s_Ne_clear_5_t26_L88 n (nI i) s = some s' ∧ (∀ h, h < 100 → s'.2 14 h = 0) ∧ s'.1 = s.1 ∧ ∀ c, c ≠ 14 → s'.2 c = s.2 c := by
  intro k
  induction k with
  | zero =>
    intro n i s hi hn h
    obtain ⟨n, rfl⟩ : ∃ q, n = q + 1 := ⟨n - 1, by omega⟩
    rw [s_Ne_clear_5_t26_L88, if_pos (by rw [i_ge 100, nI_toInt (by omega)]; omega)]
    exact ⟨s, rfl, fun q hq => h q (by omega), rfl, fun _ _ => rfl⟩
  | succ k ih =>
    intro n i s hi hn h
    obtain ⟨n, rfl⟩ : ∃ q, n = q + 1 := ⟨n - 1, by omega⟩
    rw [s_Ne_clear_5_t26_L88, if_neg (fun z => by rw [i_ge 100, nI_toInt (by omega)] at z; omega), e_stl (by omega) (by decide), nI_1]
    obtain ⟨s', h1, h2, h3, h4⟩ := ih n (i + 1) (jm_sl s 14 i 0) (by omega) (by omega) (fun q hq => by
      by_cases e : q = i
      · rw [e, e_sl]
      · rw [e_slo (by omega)]; exact h q (by omega))
    refine ⟨s', h1, h2, h3, fun c hc => ?_⟩
    rw [h4 c hc]
    funext q
    rw [e_slo (by omega)]
theorem cl17_t26 : ∀ (k n i : Nat) (s : jm_M), i + k = 10 → k < n → (∀ h, h < i → clH s 5 h) → ∃ s', s_Ne_clear_5_t26_L17 n (nI i) s = some s' ∧ (∀ h, h < 10 → clH s' 5 h) ∧ (∀ h, h < 100 → s'.2 14 h = 0) ∧ s'.1 5 = s.1 5 ∧ s'.2 5 = s.2 5 := by
  intro k
  induction k with
  | zero =>
    intro n i s hi hn h
    obtain ⟨n, rfl⟩ : ∃ q, n = q + 1 := ⟨n - 1, by omega⟩
    rw [s_Ne_clear_5_t26_L17, if_pos (by rw [i_ge 10, nI_toInt (by omega)]; omega)]
    obtain ⟨s', h1, h2, h3, h4⟩ := cl88_t26 100 5000 0 s rfl (by decide) (fun q hq => by omega)
    refine ⟨s', h1, fun q hq => ?_, h2, by rw [h3], h4 5 (by decide)⟩
    obtain ⟨g1, g2, g3, g4, g5, g6, g7, g8⟩ := h q (by omega)
    refine ⟨by rw [h3]; exact g1, by rw [h3]; exact g2, by rw [h3]; exact g3, by rw [h3]; exact g4, by rw [h3]; exact g5, by rw [h3]; exact g6, by rw [h4 _ (by decide)]; exact g7, by rw [h4 _ (by decide)]; exact g8⟩
  | succ k ih =>
    intro n i s hi hn h
    obtain ⟨n, rfl⟩ : ∃ q, n = q + 1 := ⟨n - 1, by omega⟩
    have hi2 : i < 10 := by omega
    rw [s_Ne_clear_5_t26_L17, if_neg (fun z => by rw [i_ge 10, nI_toInt (by omega)] at z; omega), e_sti hi2 (by decide), e_sti hi2 (by decide), e_sti hi2 (by decide), e_sti hi2 (by decide), e_sti hi2 (by decide), e_sti hi2 (by decide), e_stl hi2 (by decide), e_stl hi2 (by decide), nI_1]
    refine (fun (z : _) => ?_) (ih n (i + 1) (jm_sl (jm_sl (jm_si (jm_si (jm_si (jm_si (jm_si (jm_si s (5 + 1) i (-1)) (5 + 2) i 0) (5 + 3) i 1) (5 + 4) i 1) (5 + 5) i 99) (5 + 6) i (-1)) (5 + 7) i 0) (5 + 8) i 0) (by omega) (by omega) ?_)
    · obtain ⟨s', h1, h2, h3, h4, h5⟩ := z
      refine ⟨s', h1, h2, h3, ?_, ?_⟩
      · rw [h4]; rfl
      · rw [h5]; rfl
    · intro q hq
      by_cases e : q = i
      · subst e
        refine ⟨?_, ?_, ?_, ?_, ?_, ?_, ?_, ?_⟩ <;> simp [jm_si, jm_sl]
      · obtain ⟨g1, g2, g3, g4, g5, g6, g7, g8⟩ := h q (by omega)
        refine ⟨?_, ?_, ?_, ?_, ?_, ?_, ?_, ?_⟩
        · simp only [jm_si, jm_sl, e, and_false, if_false]; exact g1
        · simp only [jm_si, jm_sl, e, and_false, if_false]; exact g2
        · simp only [jm_si, jm_sl, e, and_false, if_false]; exact g3
        · simp only [jm_si, jm_sl, e, and_false, if_false]; exact g4
        · simp only [jm_si, jm_sl, e, and_false, if_false]; exact g5
        · simp only [jm_si, jm_sl, e, and_false, if_false]; exact g6
        · simp only [jm_si, jm_sl, e, and_false, if_false]; exact g7
        · simp only [jm_si, jm_sl, e, and_false, if_false]; exact g8
theorem cl_t26 (s : jm_M) : ∃ s', s_Ne_clear_5_t26 s = some s' ∧ clN s' 5 := by
  unfold s_Ne_clear_5_t26
  rw [e_ev, e_ev, e_ev]
  obtain ⟨s', h1, h2, h3, h4, h5⟩ := cl17_t26 10 5000 0 (jm_sl (jm_si (jm_si s 5 0 0) 5 10 0) 5 11 0) rfl (by decide) (fun q hq => by omega)
  refine ⟨s', h1, clN_of ?_ ?_ ?_ h2 h3⟩
  · rw [h4]; simp [jm_si, jm_sl]
  · rw [h4]; simp [jm_si, jm_sl]
  · rw [h5]; simp [jm_si, jm_sl]
theorem cl88_t66 : ∀ (k n i : Nat) (s : jm_M), i + k = 100 → k < n → (∀ h, h < i → s.2 34 h = 0) → ∃ s', s_Ne_clear_25_t66_L88 n (nI i) s = some s' ∧ (∀ h, h < 100 → s'.2 34 h = 0) ∧ s'.1 = s.1 ∧ ∀ c, c ≠ 34 → s'.2 c = s.2 c := by
  intro k
  induction k with
  | zero =>
    intro n i s hi hn h
    obtain ⟨n, rfl⟩ : ∃ q, n = q + 1 := ⟨n - 1, by omega⟩
    rw [s_Ne_clear_25_t66_L88, if_pos (by rw [i_ge 100, nI_toInt (by omega)]; omega)]
    exact ⟨s, rfl, fun q hq => h q (by omega), rfl, fun _ _ => rfl⟩
  | succ k ih =>
    intro n i s hi hn h
    obtain ⟨n, rfl⟩ : ∃ q, n = q + 1 := ⟨n - 1, by omega⟩
    rw [s_Ne_clear_25_t66_L88, if_neg (fun z => by rw [i_ge 100, nI_toInt (by omega)] at z; omega), e_stl (by omega) (by decide), nI_1]
    obtain ⟨s', h1, h2, h3, h4⟩ := ih n (i + 1) (jm_sl s 34 i 0) (by omega) (by omega) (fun q hq => by
      by_cases e : q = i
      · rw [e, e_sl]
      · rw [e_slo (by omega)]; exact h q (by omega))
    refine ⟨s', h1, h2, h3, fun c hc => ?_⟩
    rw [h4 c hc]
    funext q
    rw [e_slo (by omega)]
theorem cl17_t66 : ∀ (k n i : Nat) (s : jm_M), i + k = 10 → k < n → (∀ h, h < i → clH s 25 h) → ∃ s', s_Ne_clear_25_t66_L17 n (nI i) s = some s' ∧ (∀ h, h < 10 → clH s' 25 h) ∧ (∀ h, h < 100 → s'.2 34 h = 0) ∧ s'.1 25 = s.1 25 ∧ s'.2 25 = s.2 25 := by
  intro k
  induction k with
  | zero =>
    intro n i s hi hn h
    obtain ⟨n, rfl⟩ : ∃ q, n = q + 1 := ⟨n - 1, by omega⟩
    rw [s_Ne_clear_25_t66_L17, if_pos (by rw [i_ge 10, nI_toInt (by omega)]; omega)]
    obtain ⟨s', h1, h2, h3, h4⟩ := cl88_t66 100 5000 0 s rfl (by decide) (fun q hq => by omega)
    refine ⟨s', h1, fun q hq => ?_, h2, by rw [h3], h4 25 (by decide)⟩
    obtain ⟨g1, g2, g3, g4, g5, g6, g7, g8⟩ := h q (by omega)
    refine ⟨by rw [h3]; exact g1, by rw [h3]; exact g2, by rw [h3]; exact g3, by rw [h3]; exact g4, by rw [h3]; exact g5, by rw [h3]; exact g6, by rw [h4 _ (by decide)]; exact g7, by rw [h4 _ (by decide)]; exact g8⟩
  | succ k ih =>
    intro n i s hi hn h
    obtain ⟨n, rfl⟩ : ∃ q, n = q + 1 := ⟨n - 1, by omega⟩
    have hi2 : i < 10 := by omega
    rw [s_Ne_clear_25_t66_L17, if_neg (fun z => by rw [i_ge 10, nI_toInt (by omega)] at z; omega), e_sti hi2 (by decide), e_sti hi2 (by decide), e_sti hi2 (by decide), e_sti hi2 (by decide), e_sti hi2 (by decide), e_sti hi2 (by decide), e_stl hi2 (by decide), e_stl hi2 (by decide), nI_1]
    refine (fun (z : _) => ?_) (ih n (i + 1) (jm_sl (jm_sl (jm_si (jm_si (jm_si (jm_si (jm_si (jm_si s (25 + 1) i (-1)) (25 + 2) i 0) (25 + 3) i 1) (25 + 4) i 1) (25 + 5) i 99) (25 + 6) i (-1)) (25 + 7) i 0) (25 + 8) i 0) (by omega) (by omega) ?_)
    · obtain ⟨s', h1, h2, h3, h4, h5⟩ := z
      refine ⟨s', h1, h2, h3, ?_, ?_⟩
      · rw [h4]; rfl
      · rw [h5]; rfl
    · intro q hq
      by_cases e : q = i
      · subst e
        refine ⟨?_, ?_, ?_, ?_, ?_, ?_, ?_, ?_⟩ <;> simp [jm_si, jm_sl]
      · obtain ⟨g1, g2, g3, g4, g5, g6, g7, g8⟩ := h q (by omega)
        refine ⟨?_, ?_, ?_, ?_, ?_, ?_, ?_, ?_⟩
        · simp only [jm_si, jm_sl, e, and_false, if_false]; exact g1
        · simp only [jm_si, jm_sl, e, and_false, if_false]; exact g2
        · simp only [jm_si, jm_sl, e, and_false, if_false]; exact g3
        · simp only [jm_si, jm_sl, e, and_false, if_false]; exact g4
        · simp only [jm_si, jm_sl, e, and_false, if_false]; exact g5
        · simp only [jm_si, jm_sl, e, and_false, if_false]; exact g6
        · simp only [jm_si, jm_sl, e, and_false, if_false]; exact g7
        · simp only [jm_si, jm_sl, e, and_false, if_false]; exact g8
theorem cl_t66 (s : jm_M) : ∃ s', s_Ne_clear_25_t66 s = some s' ∧ clN s' 25 := by
  unfold s_Ne_clear_25_t66
  rw [e_ev, e_ev, e_ev]
  obtain ⟨s', h1, h2, h3, h4, h5⟩ := cl17_t66 10 5000 0 (jm_sl (jm_si (jm_si s 25 0 0) 25 10 0) 25 11 0) rfl (by decide) (fun q hq => by omega)
  refine ⟨s', h1, clN_of ?_ ?_ ?_ h2 h3⟩
  · rw [h4]; simp [jm_si, jm_sl]
  · rw [h4]; simp [jm_si, jm_sl]
  · rw [h5]; simp [jm_si, jm_sl]
theorem cl88_t86 : ∀ (k n i : Nat) (s : jm_M), i + k = 100 → k < n → (∀ h, h < i → s.2 44 h = 0) → ∃ s', s_Ne_clear_35_t86_L88 n (nI i) s = some s' ∧ (∀ h, h < 100 → s'.2 44 h = 0) ∧ s'.1 = s.1 ∧ ∀ c, c ≠ 44 → s'.2 c = s.2 c := by
  intro k
  induction k with
  | zero =>
    intro n i s hi hn h
    obtain ⟨n, rfl⟩ : ∃ q, n = q + 1 := ⟨n - 1, by omega⟩
    rw [s_Ne_clear_35_t86_L88, if_pos (by rw [i_ge 100, nI_toInt (by omega)]; omega)]
    exact ⟨s, rfl, fun q hq => h q (by omega), rfl, fun _ _ => rfl⟩
  | succ k ih =>
    intro n i s hi hn h
    obtain ⟨n, rfl⟩ : ∃ q, n = q + 1 := ⟨n - 1, by omega⟩
    rw [s_Ne_clear_35_t86_L88, if_neg (fun z => by rw [i_ge 100, nI_toInt (by omega)] at z; omega), e_stl (by omega) (by decide), nI_1]
    obtain ⟨s', h1, h2, h3, h4⟩ := ih n (i + 1) (jm_sl s 44 i 0) (by omega) (by omega) (fun q hq => by
      by_cases e : q = i
      · rw [e, e_sl]
      · rw [e_slo (by omega)]; exact h q (by omega))
    refine ⟨s', h1, h2, h3, fun c hc => ?_⟩
    rw [h4 c hc]
    funext q
    rw [e_slo (by omega)]
theorem cl17_t86 : ∀ (k n i : Nat) (s : jm_M), i + k = 10 → k < n → (∀ h, h < i → clH s 35 h) → ∃ s', s_Ne_clear_35_t86_L17 n (nI i) s = some s' ∧ (∀ h, h < 10 → clH s' 35 h) ∧ (∀ h, h < 100 → s'.2 44 h = 0) ∧ s'.1 35 = s.1 35 ∧ s'.2 35 = s.2 35 := by
  intro k
  induction k with
  | zero =>
    intro n i s hi hn h
    obtain ⟨n, rfl⟩ : ∃ q, n = q + 1 := ⟨n - 1, by omega⟩
    rw [s_Ne_clear_35_t86_L17, if_pos (by rw [i_ge 10, nI_toInt (by omega)]; omega)]
    obtain ⟨s', h1, h2, h3, h4⟩ := cl88_t86 100 5000 0 s rfl (by decide) (fun q hq => by omega)
    refine ⟨s', h1, fun q hq => ?_, h2, by rw [h3], h4 35 (by decide)⟩
    obtain ⟨g1, g2, g3, g4, g5, g6, g7, g8⟩ := h q (by omega)
    refine ⟨by rw [h3]; exact g1, by rw [h3]; exact g2, by rw [h3]; exact g3, by rw [h3]; exact g4, by rw [h3]; exact g5, by rw [h3]; exact g6, by rw [h4 _ (by decide)]; exact g7, by rw [h4 _ (by decide)]; exact g8⟩
  | succ k ih =>
    intro n i s hi hn h
    obtain ⟨n, rfl⟩ : ∃ q, n = q + 1 := ⟨n - 1, by omega⟩
    have hi2 : i < 10 := by omega
    rw [s_Ne_clear_35_t86_L17, if_neg (fun z => by rw [i_ge 10, nI_toInt (by omega)] at z; omega), e_sti hi2 (by decide), e_sti hi2 (by decide), e_sti hi2 (by decide), e_sti hi2 (by decide), e_sti hi2 (by decide), e_sti hi2 (by decide), e_stl hi2 (by decide), e_stl hi2 (by decide), nI_1]
    refine (fun (z : _) => ?_) (ih n (i + 1) (jm_sl (jm_sl (jm_si (jm_si (jm_si (jm_si (jm_si (jm_si s (35 + 1) i (-1)) (35 + 2) i 0) (35 + 3) i 1) (35 + 4) i 1) (35 + 5) i 99) (35 + 6) i (-1)) (35 + 7) i 0) (35 + 8) i 0) (by omega) (by omega) ?_)
    · obtain ⟨s', h1, h2, h3, h4, h5⟩ := z
      refine ⟨s', h1, h2, h3, ?_, ?_⟩
      · rw [h4]; rfl
      · rw [h5]; rfl
    · intro q hq
      by_cases e : q = i
      · subst e
        refine ⟨?_, ?_, ?_, ?_, ?_, ?_, ?_, ?_⟩ <;> simp [jm_si, jm_sl]
      · obtain ⟨g1, g2, g3, g4, g5, g6, g7, g8⟩ := h q (by omega)
        refine ⟨?_, ?_, ?_, ?_, ?_, ?_, ?_, ?_⟩
        · simp only [jm_si, jm_sl, e, and_false, if_false]; exact g1
        · simp only [jm_si, jm_sl, e, and_false, if_false]; exact g2
        · simp only [jm_si, jm_sl, e, and_false, if_false]; exact g3
        · simp only [jm_si, jm_sl, e, and_false, if_false]; exact g4
        · simp only [jm_si, jm_sl, e, and_false, if_false]; exact g5
        · simp only [jm_si, jm_sl, e, and_false, if_false]; exact g6
        · simp only [jm_si, jm_sl, e, and_false, if_false]; exact g7
        · simp only [jm_si, jm_sl, e, and_false, if_false]; exact g8
theorem cl_t86 (s : jm_M) : ∃ s', s_Ne_clear_35_t86 s = some s' ∧ clN s' 35 := by
  unfold s_Ne_clear_35_t86
  rw [e_ev, e_ev, e_ev]
  obtain ⟨s', h1, h2, h3, h4, h5⟩ := cl17_t86 10 5000 0 (jm_sl (jm_si (jm_si s 35 0 0) 35 10 0) 35 11 0) rfl (by decide) (fun q hq => by omega)
  refine ⟨s', h1, clN_of ?_ ?_ ?_ h2 h3⟩
  · rw [h4]; simp [jm_si, jm_sl]
  · rw [h4]; simp [jm_si, jm_sl]
  · rw [h5]; simp [jm_si, jm_sl]
theorem in_5 (s : jm_M) : ∃ s', s_Ne_init_5 s = some s' ∧ clN s' 5 := by
  unfold s_Ne_init_5
  rw [e_ev, e_ev, e_ev, e_ev, e_ev, e_ev, e_ev, e_ev, e_ev, e_ev, e_ev, e_ev]
  obtain ⟨s', h1, h2⟩ := cl_t26 (jm_sl (jm_si (jm_z (jm_z (jm_z (jm_z (jm_z (jm_z (jm_z (jm_z (jm_z (jm_si s 5 0 0) 6) 7) 8) 9) 10) 11) 12) 13) 14) 5 10 0) 5 11 0)
  rw [h1, e_bd]
  exact ⟨s', rfl, h2⟩
theorem in_15 (s : jm_M) : ∃ s', s_Ne_init_15 s = some s' ∧ clN s' 15 := by
  unfold s_Ne_init_15
  rw [e_ev, e_ev, e_ev, e_ev, e_ev, e_ev, e_ev, e_ev, e_ev, e_ev, e_ev, e_ev]
  obtain ⟨s', h1, h2⟩ := cl_15 (jm_sl (jm_si (jm_z (jm_z (jm_z (jm_z (jm_z (jm_z (jm_z (jm_z (jm_z (jm_si s 15 0 0) 16) 17) 18) 19) 20) 21) 22) 23) 24) 15 10 0) 15 11 0)
  rw [h1, e_bd]
  exact ⟨s', rfl, h2⟩
theorem in_25 (s : jm_M) : ∃ s', s_Ne_init_25 s = some s' ∧ clN s' 25 := by
  unfold s_Ne_init_25
  rw [e_ev, e_ev, e_ev, e_ev, e_ev, e_ev, e_ev, e_ev, e_ev, e_ev, e_ev, e_ev]
  obtain ⟨s', h1, h2⟩ := cl_t66 (jm_sl (jm_si (jm_z (jm_z (jm_z (jm_z (jm_z (jm_z (jm_z (jm_z (jm_z (jm_si s 25 0 0) 26) 27) 28) 29) 30) 31) 32) 33) 34) 25 10 0) 25 11 0)
  rw [h1, e_bd]
  exact ⟨s', rfl, h2⟩
theorem in_35 (s : jm_M) : ∃ s', s_Ne_init_35 s = some s' ∧ clN s' 35 := by
  unfold s_Ne_init_35
  rw [e_ev, e_ev, e_ev, e_ev, e_ev, e_ev, e_ev, e_ev, e_ev, e_ev, e_ev, e_ev]
  obtain ⟨s', h1, h2⟩ := cl_t86 (jm_sl (jm_si (jm_z (jm_z (jm_z (jm_z (jm_z (jm_z (jm_z (jm_z (jm_z (jm_si s 35 0 0) 36) 37) 38) 39) 40) 41) 42) 43) 44) 35 10 0) 35 11 0)
  rw [h1, e_bd]
  exact ⟨s', rfl, h2⟩
theorem z_o {s : jm_M} {i c k : Nat} (h : c ≠ i) : (jm_z s i).1 c k = s.1 c k ∧ (jm_z s i).2 c k = s.2 c k := ⟨if_neg h, if_neg h⟩
/-- the tail of the constructor, behind the nets -/
def tlS (s : jm_M) : jm_M := jm_si (jm_si (jm_si (jm_z (jm_z (jm_z (jm_z (jm_z (jm_z (jm_si (jm_z (jm_z (jm_z (jm_z (jm_si (jm_si (jm_si (jm_si (jm_si (jm_z (jm_si (jm_z (jm_si (jm_z (jm_z (jm_si s 1 7 0) 45) 46) 45 1 (-4)) 47) 1 9 0) 48) 48 0 (-4)) 48 1 (-4)) 48 2 (-1)) 48 3 0) 48 4 0) 49) 50) 51) 52) 48 9 0) 53) 54) 55) 56) 57) 58) 58 0 100) 58 1 1000) 58 2 100
theorem tlS_o {s : jm_M} {c k : Nat} (h : c < 45) (h7 : ¬ (c = 1 ∧ k = 7)) (h9 : ¬ (c = 1 ∧ k = 9)) : (tlS s).1 c k = s.1 c k ∧ (tlS s).2 c k = s.2 c k := by
  unfold tlS
  constructor
  · simp only [jm_si, jm_z]
    repeat rw [if_neg (by omega)]
  · simp only [jm_si, jm_z]
    repeat rw [if_neg (by omega)]
theorem x_init (s : jm_M) : ∃ t, s_X_init s = some t ∧ t.1 1 1 = 0 ∧ t.1 1 7 = 0 ∧ t.1 1 9 = 0 ∧ clN t 15 ∧ (∀ k, t.1 54 k = 0) ∧ t.1 58 0 = 100 ∧ t.1 58 1 = 1000 ∧ t.1 58 2 = 100 := by
  obtain ⟨s4, hs4⟩ : ∃ s4, s_Re_init (jm_z (jm_si (jm_z s 2) 1 1 0) 3) = some s4 := ⟨_, rfl⟩
  have f4 := s_Re_init_fr _ _ hs4
  obtain ⟨s6, h6, _⟩ := in_5 (jm_z s4 5)
  have f6 := s_Ne_init_5_fr _ _ h6
  obtain ⟨s8, h8, c8⟩ := in_15 (jm_z s6 15)
  have f8 := s_Ne_init_15_fr _ _ h8
  obtain ⟨s10, h10, _⟩ := in_25 (jm_z s8 25)
  have f10 := s_Ne_init_25_fr _ _ h10
  obtain ⟨s12, h12, _⟩ := in_35 (jm_z s10 35)
  have f12 := s_Ne_init_35_fr _ _ h12
  have ax : s_X_init s = some (tlS s12) := by
    unfold s_X_init
    rw [e_ev, e_ev, e_ev, hs4, e_bd, e_ev, h6, e_bd, e_ev, h8, e_bd, e_ev, h10, e_bd, e_ev, h12, e_bd]
    rfl
  have o12 : ∀ c k, c < 25 → s12.1 c k = s8.1 c k ∧ s12.2 c k = s8.2 c k := fun c k hc => by
    have g1 := f12 c k (by simp; omega) (by simp; omega)
    have g2 := f10 c k (by simp; omega) (by simp; omega)
    exact ⟨g1.1.trans ((z_o (by omega)).1.trans (g2.1.trans (z_o (by omega)).1)), g1.2.trans ((z_o (by omega)).2.trans (g2.2.trans (z_o (by omega)).2))⟩
  have v1 : s12.1 1 1 = 0 := by
    refine (o12 1 1 (by decide)).1.trans ((f8 1 1 (by decide) (by decide)).1.trans ?_)
    refine (z_o (by decide)).1.trans ((f6 1 1 (by decide) (by decide)).1.trans ?_)
    refine (z_o (by decide)).1.trans ((f4 1 1 (by decide) (by decide)).1.trans ?_)
    exact (z_o (by decide)).1.trans e_si
  refine ⟨tlS s12, ax, ?_, ?_, ?_, ?_, ?_, ?_, ?_, ?_⟩
  · rw [(tlS_o (by decide) (by decide) (by decide)).1]; exact v1
  · simp [tlS, jm_si, jm_z]
  · simp [tlS, jm_si, jm_z]
  · have := XW_same (s := s8) (s' := tlS s12) (nb := 15) (T := T0) (hd := 0) (sm := fun _ => false) (lg := fun _ => -1) (fun c q hc => by
      have g := tlS_o (s := s12) (c := c) (k := q) (by omega) (by omega) (by omega)
      have g2 := o12 c q (by omega)
      exact ⟨g.1.trans g2.1, g.2.trans g2.2⟩) ⟨c8.1, c8.2.1, c8.2.2⟩
    exact ⟨this.1, this.2.1, this.2.2⟩
  · intro k; simp [tlS, jm_si, jm_z]
  · simp [tlS, jm_si, jm_z]
  · simp [tlS, jm_si, jm_z]
  · simp [tlS, jm_si, jm_z]
theorem z_171 : ∀ (k n i : Nat) (s : jm_M), i + k = 10 → k < n → (∀ h, h < i → s.1 70 h = -1) → ∃ s', s_Z_init_L171 n (nI i) s = some s' ∧ (∀ h, h < 10 → s'.1 70 h = -1) ∧ ∀ c q, c ≠ 70 → s'.1 c q = s.1 c q := by
  intro k
  induction k with
  | zero =>
    intro n i s hi hn h
    obtain ⟨n, rfl⟩ : ∃ q, n = q + 1 := ⟨n - 1, by omega⟩
    rw [s_Z_init_L171, if_pos (by rw [i_ge 10, nI_toInt (by omega)]; omega)]
    exact ⟨s, rfl, fun q hq => h q (by omega), fun _ _ _ => rfl⟩
  | succ k ih =>
    intro n i s hi hn h
    obtain ⟨n, rfl⟩ : ∃ q, n = q + 1 := ⟨n - 1, by omega⟩
    rw [s_Z_init_L171, if_neg (fun z => by rw [i_ge 10, nI_toInt (by omega)] at z; omega), e_sti (by omega) (by decide), nI_1]
    obtain ⟨s', a1, a2, a3⟩ := ih n (i + 1) (jm_si s 70 i (-1)) (by omega) (by omega) (fun q hq => by
      by_cases e : q = i
      · rw [e, e_si]
      · rw [e_sio (by omega)]; exact h q (by omega))
    refine ⟨s', a1, a2, fun c q hc => ?_⟩
    rw [a3 c q hc, e_sio (by omega)]
def zmS (s : jm_M) : jm_M := jm_z (jm_z (jm_z (jm_z (jm_z (jm_z (jm_si (jm_si (jm_si (jm_z (jm_z (jm_z (jm_z (jm_z (jm_z (jm_z (jm_z (jm_z (jm_z (jm_z (jm_z (jm_z s 60) 61) 62) 63) 64) 65) 66) 67) 68) 69) 70) 71) 72) 72 0 100) 72 1 1000) 72 2 100) 73) 74) 75) 76) 77) 78
theorem z_init (s : jm_M) : ∃ t, s_Z_init s = some t ∧ t.1 61 0 = 0 ∧ t.1 67 0 = 0 ∧ (∀ k, t.1 69 k = 0) ∧ (∀ k, k < 10 → t.1 70 k = -1) ∧ (∀ k, t.1 71 k = 0) ∧ t.1 72 0 = 100 ∧ t.1 72 1 = 1000 ∧ t.1 72 2 = 100 := by
  obtain ⟨t, h1, h2, h3⟩ := z_171 10 5000 0 (zmS s) rfl (by decide) (fun q hq => by omega)
  have ax : s_Z_init s = some t := by
    unfold s_Z_init
    rw [e_ev, e_ev, e_ev, e_ev, e_ev, e_ev, e_ev, e_ev, e_ev, e_ev, e_ev, e_ev, e_ev, e_stiq (j := 0) 0 rfl (by decide) (by decide), e_stiq (j := 1) 1 rfl (by decide) (by decide), e_stiq (j := 2) 2 rfl (by decide) (by decide), e_ev, e_ev, e_ev, e_ev, e_ev, e_ev]
    exact h1
  refine ⟨t, ax, ?_, ?_, fun k => ?_, h2, fun k => ?_, ?_, ?_, ?_⟩
  · rw [h3 61 0 (by decide)]; simp [zmS, jm_si, jm_z]
  · rw [h3 67 0 (by decide)]; simp [zmS, jm_si, jm_z]
  · rw [h3 69 k (by decide)]; simp [zmS, jm_si, jm_z]
  · rw [h3 71 k (by decide)]; simp [zmS, jm_si, jm_z]
  · rw [h3 72 0 (by decide)]; simp [zmS, jm_si, jm_z]
  · rw [h3 72 1 (by decide)]; simp [zmS, jm_si, jm_z]
  · rw [h3 72 2 (by decide)]; simp [zmS, jm_si, jm_z]
def jm_s0 : jm_M := (fun _ _ => 0, fun _ _ => 0)
theorem law_true (L : Nat) (xs : Nat → Int32) (hL : L ≤ 3072) : ∃ σ', s_Law_law_t0 L xs jm_s0 = some (1, σ') := by
  unfold s_Law_law_t0
  obtain ⟨s2, a1, a2, a3, a4, a5, a6, a7, a8, a9⟩ := x_init (jm_z jm_s0 1)
  obtain ⟨s4, b1, b2, b3, b4, b5, b6, b7, b8, b9⟩ := z_init (jm_z s2 59)
  have fz := s_Z_init_fr _ _ b1
  rw [e_ev, a1, e_bd, e_ev, b1, e_bd]
  have o : ∀ c k, c < 59 → s4.1 c k = s2.1 c k ∧ s4.2 c k = s2.2 c k := fun c k hc => by
    have g := fz c k (by simp; omega) (by simp)
    exact ⟨g.1.trans (z_o (by omega)).1, g.2.trans (z_o (by omega)).2⟩
  have z59 : ∀ k, s4.1 59 k = 0 := fun k => (fz 59 k (by decide) (by simp)).1.trans (by simp [jm_z])
  have hI : INV s4 := by
    refine ⟨0, (fun _ => 0), T0, 0, (fun _ => false), (fun _ => -1), 0, ⟨by decide, ?_, ?_, fun i hi => by omega⟩, ⟨w_T0, by decide, fun q _ => (show -1 ≤ (-1 : Int32).toInt ∧ (-1 : Int32).toInt ≤ 60 by decide), fun _ _ _ => rfl⟩, ?_, ⟨⟨?_, fun h hh => absurd hh (Nat.not_lt_zero h), 0, (fun _ => 0, fun _ => 0, fun _ => 0, fun _ => 0, fun _ => 0), ⟨?_, by decide, fun j hj => by omega⟩, ⟨fun j hj => by omega, fun h t => ?_, fun h t => ?_, fun a b t => ?_⟩⟩, ⟨?_, 0, 0, ?_, ?_, by decide, by decide, fun z => absurd rfl z⟩, fun q hq => ?_⟩, Or.inl ?_, ⟨?_, ?_, by decide, fun g => by omega, fun g => by omega⟩, fun k hk => ?_, fun k hk => ?_⟩
    · exact (o 1 1 (by decide)).1.trans a2
    · exact z59 0
    · exact XW_same (fun c q hc => o c q (by omega)) (show XW s2 15 T0 0 (fun _ => false) (fun _ => -1) from ⟨a5.1, a5.2.1, a5.2.2⟩)
    · exact b2
    · exact b3
    · exact ⟨fun z => Bool.noConfusion z, fun ⟨j, hj, _⟩ => absurd hj (Nat.not_lt_zero j)⟩
    · exact ⟨fun z => Bool.noConfusion z, fun ⟨j, hj, _⟩ => absurd hj (Nat.not_lt_zero j)⟩
    · exact ⟨fun z => Bool.noConfusion z, fun ⟨j, hj, _⟩ => absurd hj (Nat.not_lt_zero j)⟩
    · exact b4 _
    · exact b4 _
    · exact b4 _
    · show s4.1 70 (10 * 0 + q) = -1
      rw [show 10 * 0 + q = q by omega]
      exact b5 q hq
    · exact (o 1 9 (by decide)).1.trans a4
    · exact (o 1 7 (by decide)).1.trans a3
    · exact z59 12
    · rcases (show k = 0 ∨ k = 1 ∨ k = 2 by omega) with rfl | rfl | rfl
      · rw [(o 58 0 (by decide)).1, a7, b7]
      · rw [(o 58 1 (by decide)).1, a8, b8]
      · rw [(o 58 2 (by decide)).1, a9, b9]
    · rw [(o 54 k (by decide)).1, a6 k, b6 k]
      exact ⟨rfl, by decide, by decide⟩
  exact law_loop hL 512 5000 0 s4 (by omega) (by omega) (by decide) hI
