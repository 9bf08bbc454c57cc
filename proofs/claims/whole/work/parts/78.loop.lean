/-! the law's loop -/
theorem law_step {L : Nat} {xs : Nat → Int32} {n i : Nat} {s : jm_M} (hL : L ≤ 3072) (hi : i + 6 ≤ L) (h : INV s) (hK : ∀ s2, INV s2 → ∃ t, s_Law_law_t0_L18 L xs n (nI i + 6) s2 = some (1, t)) : ∃ t, s_Law_law_t0_L18 L xs (n + 1) (nI i) s = some (1, t) := by
  have ld0 : ∀ f : Int32 → Option (Int32 × jm_M), jm_lds xs L (nI i) f = f (xs i) := fun f => e_lds (by omega) (by omega)
  have ld1 : ∀ f : Int32 → Option (Int32 × jm_M), jm_lds xs L (nI i + 1) f = f (xs (i + 1)) := fun f => by rw [nI_1]; exact e_lds (by omega) (by omega)
  have ld2 : ∀ f : Int32 → Option (Int32 × jm_M), jm_lds xs L (nI i + 2) f = f (xs (i + 2)) := fun f => by rw [ixp2]; exact e_lds (by omega) (by omega)
  have ld3 : ∀ f : Int32 → Option (Int32 × jm_M), jm_lds xs L (nI i + 3) f = f (xs (i + 3)) := fun f => by rw [ixp3]; exact e_lds (by omega) (by omega)
  have ld4 : ∀ f : Int32 → Option (Int32 × jm_M), jm_lds xs L (nI i + 4) f = f (xs (i + 4)) := fun f => by rw [ixp4]; exact e_lds (by omega) (by omega)
  have ld5 : ∀ f : Int32 → Option (Int32 × jm_M), jm_lds xs L (nI i + 5) f = f (xs (i + 5)) := fun f => by rw [show nI i + 5 = nI (i + 5) from nI_add i 5]; exact e_lds (by omega) (by omega)
  rw [s_Law_law_t0_L18, if_neg (fun z => by
    rw [fa_lt, show Int32.ofNat L = nI L from rfl, show (6 : Int32) = nI 6 from rfl, pk_sub_toInt (by omega) (by decide), nI_toInt (by omega)] at z
    omega), ld0, e_vi]
  generalize (xs i &&& 31) = v
  by_cases c0 : v = 0
  · rw [if_pos c0]; simp only [ld1, ld2, ld3]; exact st_use (st_write h _ _) hK
  rw [if_neg c0]
  by_cases c1 : v = 1
  · rw [if_pos c1]; exact st_use (st_wipe h) hK
  rw [if_neg c1]
  by_cases c2 : v = 2
  · rw [if_pos c2]; exact st_use (st_fault h) hK
  rw [if_neg c2]
  by_cases c3 : v = 3
  · rw [if_pos c3]; exact st_use (st_lay h) hK
  rw [if_neg c3]
  by_cases c4 : v = 4
  · rw [if_pos c4]; simp only [ld1, ld2]; exact st_pure (st_hill h _ _) h hK
  rw [if_neg c4]
  by_cases c5 : v = 5
  · rw [if_pos c5]; simp only [ld1, ld2, ld3]; exact st_use (st_ship h _ _ _) hK
  rw [if_neg c5]
  by_cases c6 : v = 6
  · rw [if_pos c6]; simp only [ld1, ld2]; exact st_use (st_burns h _ _) hK
  rw [if_neg c6]
  by_cases c7 : v = 7
  · rw [if_pos c7]; simp only [ld1]; exact st_use (st_seen h _) hK
  rw [if_neg c7]
  by_cases c8 : v = 8
  · rw [if_pos c8]; simp only [ld1]; exact st_use (st_wood h _) hK
  rw [if_neg c8]
  by_cases c9 : v = 9
  · rw [if_pos c9]; exact st_use (st_alarm h) hK
  rw [if_neg c9]
  by_cases c10 : v = 10
  · rw [if_pos c10]; simp only [ld1]; exact st_use (st_falseBy h _) hK
  rw [if_neg c10]
  by_cases c11 : v = 11
  · rw [if_pos c11]; simp only [ld1, ld2]; exact st_use (st_falseFor h _ _) hK
  rw [if_neg c11]
  by_cases c12 : v = 12
  · rw [if_pos c12]; simp only [ld1, ld2]; exact st_use (st_trueBy h _ _) hK
  rw [if_neg c12]
  by_cases c13 : v = 13
  · rw [if_pos c13]; simp only [ld1, ld2]; exact st_use (st_late h _ _) hK
  rw [if_neg c13]
  by_cases c14 : v = 14
  · rw [if_pos c14]; exact st_use (st_bears h) hK
  rw [if_neg c14]
  by_cases c15 : v = 15
  · rw [if_pos c15]; simp only [ld1, ld2]; exact st_use (st_bestRule h _ _) hK
  rw [if_neg c15]
  by_cases c16 : v = 16
  · rw [if_pos c16]; simp only [ld1]; exact st_use (st_added h _) hK
  rw [if_neg c16]
  by_cases c17 : v = 17
  · rw [if_pos c17]; simp only [ld1, ld2]; exact st_use (st_log h _ _) hK
  rw [if_neg c17]
  by_cases c18 : v = 18
  · rw [if_pos c18]; simp only [ld1]; exact st_use (st_logs h _) hK
  rw [if_neg c18]
  by_cases c19 : v = 19
  · rw [if_pos c19]; simp only [ld1, ld2, ld3]; exact st_use (st_sign h _ _ _) hK
  rw [if_neg c19]
  by_cases c20 : v = 20
  · rw [if_pos c20]; simp only [ld1, ld2]; exact st_pure (st_near h _ _) h hK
  rw [if_neg c20]
  by_cases c21 : v = 21
  · rw [if_pos c21]; simp only [ld1, ld2, ld3, ld4, ld5]; exact st_use (st_watch h _ _ _ _ _) hK
  rw [if_neg c21]
  by_cases c22 : v = 22
  · rw [if_pos c22]; simp only [ld1, ld2]; exact st_use (st_cost h _ _) hK
  rw [if_neg c22]
  by_cases c23 : v = 23
  · rw [if_pos c23]; simp only [ld1, ld2]; exact st_pure (st_sends h _ _) h hK
  rw [if_neg c23]
  by_cases c24 : v = 24
  · rw [if_pos c24]; simp only [ld1, ld2]; exact st_pure (st_unbelieved h _ _) h hK
  rw [if_neg c24]
  by_cases c25 : v = 25
  · rw [if_pos c25]; exact st_use (st_keep h) hK
  rw [if_neg c25]
  by_cases c26 : v = 26
  · rw [if_pos c26]; exact st_use (st_back h) hK
  rw [if_neg c26]
  by_cases c27 : v = 27
  · rw [if_pos c27]; simp only [ld1]; exact st_pure (st_count h _) h hK
  rw [if_neg c27]
  exact hK s h
theorem law_loop {L : Nat} {xs : Nat → Int32} (hL : L ≤ 3072) : ∀ (k n i : Nat) (s : jm_M), L < i + 6 * k + 6 → i ≤ L + 6 → k < n → INV s → ∃ t, s_Law_law_t0_L18 L xs n (nI i) s = some (1, t) := by
  intro k
  induction k with
  | zero =>
    intro n i s hk hi hn h
    obtain ⟨n, rfl⟩ : ∃ q, n = q + 1 := ⟨n - 1, by omega⟩
    rw [s_Law_law_t0_L18, if_pos (by
      rw [fa_lt, show Int32.ofNat L = nI L from rfl, show (6 : Int32) = nI 6 from rfl, pk_sub_toInt (by omega) (by decide), nI_toInt (by omega)]
      omega)]
    exact ⟨s, rfl⟩
  | succ k ih =>
    intro n i s hk hi hn h
    obtain ⟨n, rfl⟩ : ∃ q, n = q + 1 := ⟨n - 1, by omega⟩
    by_cases hl : i + 6 ≤ L
    · refine law_step hL hl h (fun s2 h2 => ?_)
      rw [show nI i + 6 = nI (i + 6) from nI_add i 6]
      exact ih n (i + 6) s2 (by omega) (by omega) (by omega) h2
    · rw [s_Law_law_t0_L18, if_pos (by
        rw [fa_lt, show Int32.ofNat L = nI L from rfl, show (6 : Int32) = nI 6 from rfl, pk_sub_toInt (by omega) (by decide), nI_toInt (by omega)]
        omega)]
      exact ⟨s, rfl⟩
