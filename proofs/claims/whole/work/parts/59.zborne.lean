/-! the model: as told, borne, best rule, added, a sight gone -/
def mnB (T : tN) (h : Nat) : Bool := decide (h < tn T) && decide (tk T h < 3)
theorem fk_two (T : tN) : fk T < 2 ^ tn T := by
  apply Nat.lt_pow_two_of_testBit
  intro i hi
  unfold fk
  rw [sOf_bit, fB]
  simp; omega
theorem z_asTold {s : jm_M} {T : tN} (wt : wT T) (hz : ZN s 0 T) : ∃ s', s_Z_asTold s = some s' ∧ ZC s' T (kC T) ∧ s'.1 59 22 = nI (sOf (mnB T) 10) ∧ s'.1 59 25 = -4 ∧ s'.1 59 26 = -4 := by
  have w1 := wt.1
  have hk : ∀ h, h < tn T → s.1 62 h = nI (tk T h) ∧ s.1 63 h = nI (ts T h) ∧ s.1 64 h = nI (td T h) ∧ s.1 65 h = nI (tp T h) := fun h hh => by
    obtain ⟨g1, g2, g3, g4, -⟩ := hz.2.1 h hh
    rw [show 10 * 0 + h = h by omega] at g1 g2 g3 g4
    exact ⟨g1, g2, g3, g4⟩
  have up : sOf (mnB T) 10 = sOf (mnB T) (tn T) := sOf_up w1 (fun i h1 _ => by unfold mnB; simp; omega)
  have H : ∀ (k n i : Nat) (s1 : jm_M), i + k = tn T → k < n → (∀ c q, c ≠ 59 → s1.1 c q = s.1 c q) → s1.1 59 22 = nI (sOf (mnB T) i) → ∃ s', s_Z_asTold_L7 n (nI i) s1 = some s' ∧ (∀ c q, c ≠ 59 → s'.1 c q = s.1 c q) ∧ s'.1 59 22 = nI (sOf (mnB T) (tn T)) ∧ s'.1 59 23 = 0 ∧ s'.1 59 24 = 0 ∧ s'.1 59 25 = -4 ∧ s'.1 59 26 = -4 := by
    intro k
    induction k with
    | zero =>
      intro n i s1 hi hn e h22
      obtain ⟨n, rfl⟩ : ∃ q, n = q + 1 := ⟨n - 1, by omega⟩
      rw [show i = tn T by omega] at h22 ⊢
      rw [s_Z_asTold_L7, e_ldiq (j := 0) 0 rfl (by decide) (by decide), e 61 0 (by decide), hz.1, if_pos (nI_le (Nat.le_refl _) (by omega)), e_ev, e_ev, e_ev, e_ev]
      refine ⟨_, rfl, fun c q hc => ?_, ?_, ?_, ?_, ?_, ?_⟩
      · rw [e_sio (by omega), e_sio (by omega), e_sio (by omega), e_sio (by omega), e c q hc]
      · rw [e_sio (by omega), e_sio (by omega), e_sio (by omega), e_sio (by omega), h22]
      · rw [e_sio (by omega), e_sio (by omega), e_sio (by omega), e_si]
      · rw [e_sio (by omega), e_sio (by omega), e_si]
      · rw [e_sio (by omega), e_si]
      · rw [e_si]
    | succ k ih =>
      intro n i s1 hi hn e h22
      obtain ⟨n, rfl⟩ : ∃ q, n = q + 1 := ⟨n - 1, by omega⟩
      have hin : i < tn T := by omega
      have hk3 := (wt.2.1 i hin).1
      have J : ∀ y : Nat, sOf (mnB T) i ||| y = sOf (mnB T) (i + 1) → ∃ s', s_Z_asTold_J39 (s_Z_asTold_L7 n) (nI i) (nI y) (s1.1 59 22) s1 = some s' ∧ (∀ c q, c ≠ 59 → s'.1 c q = s.1 c q) ∧ s'.1 59 22 = nI (sOf (mnB T) (tn T)) ∧ s'.1 59 23 = 0 ∧ s'.1 59 24 = 0 ∧ s'.1 59 25 = -4 ∧ s'.1 59 26 = -4 := by
        intro y hy
        unfold s_Z_asTold_J39
        rw [e_ev, nI_1, h22, fa_or, hy]
        exact ih n (i + 1) _ (by omega) (by omega) (fun c q hc => by rw [e_sio (by omega), e c q hc]) (by rw [e_si])
      rw [s_Z_asTold_L7, e_ldiq (j := 0) 0 rfl (by decide) (by decide), e 61 0 (by decide), hz.1, if_neg (nI_ge hin (by omega)), e_ldi (by omega) (by decide), e 62 i (by decide), (hk i hin).1]
      by_cases h3 : tk T i < 3
      · rw [if_neg (fun z => by rw [i_ge 3, nI_toInt (by omega)] at z; omega), p2 (by omega)]
        exact J (2 ^ i) (by rw [sOf, if_pos (by unfold mnB; simp [hin, h3])])
      · rw [if_pos (by rw [i_ge 3, nI_toInt (by omega)]; omega)]
        exact J 0 (by rw [sOf, if_neg (by unfold mnB; simp [h3])])
  unfold s_Z_asTold
  rw [e_ev]
  obtain ⟨s', h1, h2, h3, h4, h5, h6, h7⟩ := H (tn T) 5000 0 (jm_si s 59 22 0) (by omega) (by omega) (fun c q hc => by rw [e_sio (by omega)]) (by rw [e_si]; rfl)
  refine ⟨s', h1, ?_, by rw [up]; exact h3, h6, h7⟩
  refine ⟨by rw [h2 61 0 (by decide)]; exact hz.1, fun h hh => ?_, ⟨0, h4, by decide, fun h hh => ⟨fun _ => ?_, fun h => absurd rfl h⟩⟩, ⟨0, h5, by decide, fun h hh => ⟨fun _ => ?_, fun h => absurd rfl h⟩⟩, ⟨sOf (mnB T) (tn T), by rw [← up]; exact sOf_lt _ 10, h3, fun h => ?_⟩, fun h o hh ho => ?_, fun h hh => (wt.2.1 h hh).2.1, fk_two T⟩
  · rw [h2 62 h (by decide), h2 63 h (by decide)]
    exact ⟨(hk h hh).1, (hk h hh).2.1⟩
  · rw [h2 64 h (by decide)]; exact (hk h hh).2.2.1
  · rw [h2 65 h (by decide)]; exact (hk h hh).2.2.2
  · show (fk T).testBit h = _
    rw [fk_bit wt, sOf_bit]
    unfold fB mnB kB
    by_cases hh : h < tn T
    · simp only [hh, decide_true, Bool.true_and]
      by_cases a : tk T h ≤ 1
      · simp [a, show tk T h < 3 by omega, show ¬ tk T h = 2 by omega]
      · by_cases b : tk T h = 2
        · simp [b]
        · simp [a, b, show ¬ tk T h < 3 by omega]
    · simp [hh]
  · show (ts T h).testBit o = _
    have : gB s' h o = false := by
      unfold gB
      rw [h6, h7]
      simp [nI_n4 (show h < 2147483648 by omega)]
    rw [this]
    simp
theorem ZK_k {T : tN} (wt : wT T) (he : earN T < tn T) : ZK T (kC T) := ⟨wK_k wt he, rfl, he, rfl⟩
theorem two_n {T : tN} {s : jm_M} {n : Nat} (hn : n ≤ 10) : (1 : Int32) <<< (nI n &&& 31) = nI (2 ^ n) := p2 (by omega)
theorem z_bearsSo {s : jm_M} {T : tN} {C : tC} (wt : wT T) (zk : ZK T C) (zc : ZC s T C) {b : Nat} (hb : b ≤ 10) : ∃ β s', s_Z_bearsSo s (nI b) = some (oI β, s') ∧ (β = true ↔ bear C b) ∧ ZC s' T C := by
  have w1 := wt.1
  have hF := zk.1.2.1
  have hp : 2 ^ tn T ≤ 1024 := Nat.pow_le_pow_right (by decide) w1
  have H : ∀ (k n A : Nat) (s : jm_M), A + k = 2 ^ tn T → k < n → ZC s T C → (∀ B, B < A → sbs B (cF C) → bcn B ≤ b → fo C B = false) → ∃ β s', s_Z_bearsSo_L2 n (nI b) (nI A) s = some (oI β, s') ∧ (β = true ↔ bear C b) := by
    intro k
    induction k with
    | zero =>
      intro n A s hA hn zc hq
      obtain ⟨n, rfl⟩ : ∃ q, n = q + 1 := ⟨n - 1, by omega⟩
      rw [s_Z_bearsSo_L2, e_ldiq (j := 0) 0 rfl (by decide) (by decide), zc.1, two_n (T := T) (s := s) w1, if_pos (nI_le (by omega) (by omega))]
      obtain ⟨L, s', a1, a2, a3⟩ := z_latest wt zk zc hb
      rw [a1, e_b2]
      have hno : noF C b := fun B hB hc => hq B (by have := sbs_le hB; have := zc.2.2.2.2.2.2.2; omega) hB hc
      rcases isL_bd zk.1 a2 with g | g
      · rw [if_pos (by rw [g]; decide)]
        refine ⟨false, s', rfl, ⟨fun h => absurd h (by decide), fun hbr => ?_⟩⟩
        have := (isL_lt a2).mpr hbr.2
        omega
      · rw [if_neg (fun z => by rw [i_ge 1000000, nI_toInt (by omega)] at z; omega)]
        exact ⟨true, s', rfl, ⟨fun _ => ⟨hno, (isL_lt a2).mp (by omega)⟩, fun _ => rfl⟩⟩
    | succ k ih =>
      intro n A s hA hn zc hq
      obtain ⟨n, rfl⟩ : ∃ q, n = q + 1 := ⟨n - 1, by omega⟩
      have hA2 : A < 1024 := by omega
      have hbl := bcn_le A
      have next : ∀ s2, ZC s2 T C → (sbs A (cF C) → bcn A ≤ b → fo C A = false) → ∃ β s', s_Z_bearsSo_L2 n (nI b) (nI (A + 1)) s2 = some (oI β, s') ∧ (β = true ↔ bear C b) := fun s2 zc2 hn2 => ih n (A + 1) s2 (by omega) (by omega) zc2 (fun B hB h1 h2 => by
        by_cases e : B = A
        · rw [e] at h1 h2 ⊢; exact hn2 h1 h2
        · exact hq B (by omega) h1 h2)
      rw [s_Z_bearsSo_L2, e_ldiq (j := 0) 0 rfl (by decide) (by decide), zc.1, two_n (T := T) (s := s) w1, if_neg (nI_ge (by omega) (by omega)), z_men wt zc, e_bd, nI_1]
      by_cases hs : sbs A (cF C)
      · rw [if_pos ((andn0 hA2 hF).mpr hs), z_bits s hA2, e_bd]
        by_cases hc : bcn A ≤ b
        · rw [if_neg (fun z => by rw [fa_lt, nI_toInt (by omega), nI_toInt (by omega)] at z; omega)]
          obtain ⟨s2, z, a1, a2, -⟩ := z_isFalse wt zk zc hA2
          rw [a1, e_b2]
          cases hf : fo C A with
          | false =>
            rw [oI_f, if_pos rfl]
            exact next s2 a2 (fun _ _ => hf)
          | true =>
            rw [oI_t, if_neg e10]
            refine ⟨false, s2, rfl, ⟨fun h => absurd h (by decide), fun hbr => ?_⟩⟩
            rw [hbr.1 A hs hc] at hf
            cases hf
        · rw [if_pos (by rw [fa_lt, nI_toInt (by omega), nI_toInt (by omega)]; omega)]
          exact next s zc (fun _ h => absurd h hc)
      · rw [if_neg (fun z => hs ((andn0 hA2 hF).mp z))]
        exact next s zc (fun h => absurd h hs)
  obtain ⟨β, s', h1, h2⟩ := H (2 ^ tn T) 5000 0 s (by omega) (by omega) zc (fun B hB => by omega)
  exact ⟨β, s', h1, h2, ZC_fr zc (s_Z_bearsSo_fr s (nI b) _ h1)⟩
theorem z_mostBorne {s : jm_M} {T : tN} {C : tC} (wt : wT T) (zk : ZK T C) (zc : ZC s T C) : ∃ r s', s_Z_mostBorne s = some (r, s') ∧ mbR C r ∧ ZC s' T C := by
  have H : ∀ (k n i : Nat) (r : Int32) (s : jm_M), i + k = 10 → k < n → ZC s T C → ((∃ b, b < i ∧ bear C b ∧ (∀ c, b < c → c < i → ¬ bear C c) ∧ r = nI b) ∨ (r = -4 ∧ ∀ b, b < i → ¬ bear C b)) → ∃ r' s', s_Z_mostBorne_L5 n r (nI i) s = some (r', s') ∧ mbR C r' := by
    intro k
    induction k with
    | zero =>
      intro n i r s hi hn zc hq
      obtain ⟨n, rfl⟩ : ∃ q, n = q + 1 := ⟨n - 1, by omega⟩
      rw [s_Z_mostBorne_L5, if_pos (by rw [i_gt 9, nI_toInt (by omega)]; omega)]
      refine ⟨_, _, rfl, ?_⟩
      rcases hq with ⟨b, h1, h2, h3, h4⟩ | ⟨h1, h2⟩
      · exact Or.inl ⟨b, by omega, h2, fun c hc hc2 => h3 c hc (by omega), h4⟩
      · exact Or.inr ⟨h1, fun b hb => h2 b (by omega)⟩
    | succ k ih =>
      intro n i r s hi hn zc hq
      obtain ⟨n, rfl⟩ : ∃ q, n = q + 1 := ⟨n - 1, by omega⟩
      rw [s_Z_mostBorne_L5, if_neg (fun z => by rw [i_gt 9, nI_toInt (by omega)] at z; omega), nI_1]
      obtain ⟨β, s1, a1, a2, a3⟩ := z_bearsSo wt zk zc (b := i) (by omega)
      rw [a1, e_b2]
      cases hβ : β with
      | false =>
        rw [oI_f, if_pos rfl]
        have hnb : ¬ bear C i := fun h => by rw [a2.mpr h] at hβ; cases hβ
        refine ih n (i + 1) r s1 (by omega) (by omega) a3 ?_
        rcases hq with ⟨b, h1, h2, h3, h4⟩ | ⟨h1, h2⟩
        · exact Or.inl ⟨b, by omega, h2, fun c hc hc2 => by
            by_cases e : c = i
            · rw [e]; exact hnb
            · exact h3 c hc (by omega), h4⟩
        · exact Or.inr ⟨h1, fun b hb => by
            by_cases e : b = i
            · rw [e]; exact hnb
            · exact h2 b (by omega)⟩
      | true =>
        rw [oI_t, if_neg e10]
        exact ih n (i + 1) (nI i) s1 (by omega) (by omega) a3 (Or.inl ⟨i, by omega, a2.mp hβ, fun c hc hc2 => by omega, rfl⟩)
  obtain ⟨r, s', h1, h2⟩ := H 10 5000 0 (-4) s rfl (by decide) zc (Or.inr ⟨rfl, fun b hb => by omega⟩)
  exact ⟨r, s', h1, h2, ZC_fr zc (s_Z_mostBorne_fr s _ h1)⟩
theorem mbR_one {C : tC} {r q : Int32} (h1 : mbR C r) (h2 : mbR C q) : r = q := by
  rcases h1 with ⟨a, a1, a2, a3, rfl⟩ | ⟨rfl, a1⟩ <;> rcases h2 with ⟨b, b1, b2, b3, rfl⟩ | ⟨rfl, b1⟩
  · by_cases h : a < b
    · exact absurd b2 (a3 b h b1)
    · by_cases h' : b < a
      · exact absurd a2 (b3 a h' a1)
      · rw [show a = b by omega]
  · exact absurd a2 (b1 a a1)
  · exact absurd b2 (a1 b b1)
  · rfl
/-! best rule -/
theorem ZC_rul {s : jm_M} {T : tN} {C : tC} {k m : Nat} (h1 : 1 ≤ k) (h2 : k ≤ 9) (h3 : 1 ≤ m) (h4 : m ≤ 9) (zc : ZC s T C) : ZC (jm_si (jm_si s 59 23 (nI k)) 59 24 (nI m)) T (cRul C k m) := by
  obtain ⟨g1, g2, -, -, ⟨M, M1, M2, M3⟩, g6, g7, g8⟩ := zc
  refine ⟨?_, fun h hh => ?_, ⟨k, ?_, by omega, fun h hh => ⟨fun h => by omega, fun _ => rfl⟩⟩, ⟨m, by rw [e_si], by omega, fun h hh => ⟨fun h => by omega, fun _ => rfl⟩⟩, ⟨M, M1, ?_, M3⟩, fun h o hh ho => ?_, g7, g8⟩
  · rw [e_sio (by omega), e_sio (by omega)]; exact g1
  · rw [e_sio (by omega), e_sio (by omega), e_sio (by omega), e_sio (by omega)]; exact g2 h hh
  · rw [e_sio (by omega), e_si]
  · rw [e_sio (by omega), e_sio (by omega)]; exact M2
  · have : gB (jm_si (jm_si s 59 23 (nI k)) 59 24 (nI m)) h o = gB s h o := by
      unfold gB
      rw [e_sio (by omega), e_sio (by omega), e_sio (by omega), e_sio (by omega)]
    rw [this]
    exact g6 h o hh ho
theorem ZK_rul {T : tN} {C : tC} (zk : ZK T C) {k m : Nat} (h1 : 1 ≤ k) (h2 : k ≤ 9) (h3 : 1 ≤ m) (h4 : m ≤ 9) : ZK T (cRul C k m) := ⟨wK_rul zk.1 h1 h2 h3 h4, zk.2⟩
theorem vB_z {C : tC} {b v L : Nat} (h : vB C b v) (hb : bear C b) (hL : isL C b L) : L = v ∧ 1 ≤ v ∧ v < 100 := by
  rcases h with ⟨a1, a2, a3⟩ | ⟨a1, a2⟩
  · exact ⟨isL_one hL a2, a3⟩
  · exact absurd hb a1
theorem z_best59 {T : tN} {C : tC} (wt : wT T) (zk : ZK T C) {b : Nat} (hb : b ≤ 10) {f : Nat → Nat} (hf : ∀ j, j < 12 → vB (cRul C (j / 3 + 1) (j % 3 + 1)) b (f j)) (hf2 : ∀ j, f j < 100) (k28 : Int32 → Int32 → Int32 → Int32 → Int32 → jm_M → Option (Int32 × jm_M)) (x2 : Int32) {k : Nat} (hk1 : k < 4) : ∀ (d n i : Nat) (s : jm_M), i + d = 3 → d < n → (∃ C', ZC s T C' ∧ ∀ p q, cRul C' p q = cRul C p q) → ∃ s', s_Z_bestRule_L59 k28 n (nI b) x2 (wI (bst f (3 * k + i)).1) (wI (bst f (3 * k + i)).2) (nI (k + 1)) (nI (i + 1)) s = k28 (nI b) x2 (wI (bst f (3 * k + 3)).1) (wI (bst f (3 * k + 3)).2) (nI (k + 2)) s' ∧ ∃ C', ZC s' T C' ∧ ∀ p q, cRul C' p q = cRul C p q := by
  intro d
  induction d with
  | zero =>
    intro n i s hi hn zc
    obtain ⟨n, rfl⟩ : ∃ q, n = q + 1 := ⟨n - 1, by omega⟩
    rw [show i = 3 by omega]
    rw [s_Z_bestRule_L59, if_pos (by decide), nI_1]
    exact ⟨s, rfl, zc⟩
  | succ d ih =>
    intro n i s hi hn zc
    obtain ⟨n, rfl⟩ : ∃ q, n = q + 1 := ⟨n - 1, by omega⟩
    obtain ⟨C', zc1, hC'⟩ := zc
    have zk1 : ZK T (cRul C (k + 1) (i + 1)) := ZK_rul zk (by omega) (by omega) (by omega) (by omega)
    have zc2 := ZC_rul (k := k + 1) (m := i + 1) (by omega) (by omega) (by omega) (by omega) zc1
    rw [hC'] at zc2
    have hv := hf (3 * k + i) (by omega)
    rw [show (3 * k + i) / 3 + 1 = k + 1 by omega, show (3 * k + i) % 3 + 1 = i + 1 by omega] at hv
    have bd := bst_bd hf2 (3 * k + i) (by omega)
    obtain ⟨β, s2, a1, a2, a3⟩ := z_bearsSo wt zk1 zc2 hb
    rw [s_Z_bestRule_L59, if_neg (fun z => by rw [i_gt 3, nI_toInt (by omega)] at z; omega), e_ev, e_ev, a1, e_b2, nI_1]
    have N : ∀ s3, ZC s3 T (cRul C (k + 1) (i + 1)) → ¬ (f (3 * k + i) ≠ 0 ∧ ((bst f (3 * k + i)).2 = 0 ∨ f (3 * k + i) < (bst f (3 * k + i)).2)) → ∃ s', s_Z_bestRule_L59 k28 n (nI b) x2 (wI (bst f (3 * k + i)).1) (wI (bst f (3 * k + i)).2) (nI (k + 1)) (nI (i + 1 + 1)) s3 = k28 (nI b) x2 (wI (bst f (3 * k + 3)).1) (wI (bst f (3 * k + 3)).2) (nI (k + 2)) s' ∧ ∃ C', ZC s' T C' ∧ ∀ p q, cRul C' p q = cRul C p q := fun s3 zc3 g => by
      have e : bst f (3 * k + (i + 1)) = bst f (3 * k + i) := by rw [← Nat.add_assoc, bst, if_neg g]
      rw [← e]
      exact ih n (i + 1) s3 (by omega) (by omega) ⟨_, zc3, fun p q => rfl⟩
    cases hβ : β with
    | false =>
      rw [oI_f, if_pos rfl]
      refine N s2 a3 (fun g => g.1 ?_)
      rcases hv with ⟨b1, -⟩ | ⟨-, b2⟩
      · rw [a2.mpr b1] at hβ; cases hβ
      · exact b2
    | true =>
      rw [oI_t, if_neg e10]
      obtain ⟨L, s3, c1, c2, c3⟩ := z_latest wt zk1 a3 hb
      obtain ⟨rfl, v1, v2⟩ := vB_z hv (a2.mp hβ) c2
      rw [c1, e_b2]
      have J : ((bst f (3 * k + i)).2 = 0 ∨ f (3 * k + i) < (bst f (3 * k + i)).2) → ∃ s', s_Z_bestRule_J105 k28 (s_Z_bestRule_L59 k28 n) (nI b) x2 (nI (k + 1)) (nI (i + 1)) (nI (f (3 * k + i))) s3 = k28 (nI b) x2 (wI (bst f (3 * k + 3)).1) (wI (bst f (3 * k + 3)).2) (nI (k + 2)) s' ∧ ∃ C', ZC s' T C' ∧ ∀ p q, cRul C' p q = cRul C p q := fun g => by
        have e : bst f (3 * k + (i + 1)) = (10 * (k + 1) + (i + 1), f (3 * k + i)) := by
          rw [← Nat.add_assoc, bst, if_pos ⟨by omega, g⟩, show (3 * k + i) / 3 + 1 = k + 1 by omega, show (3 * k + i) % 3 + 1 = i + 1 by omega]
        unfold s_Z_bestRule_J105
        rw [e_vi, nI_1, ix_m 10 (k + 1) (i + 1) 10 rfl]
        have e1 : nI (10 * (k + 1) + (i + 1)) = wI (bst f (3 * k + (i + 1))).1 := by rw [e, wI, if_neg (by omega)]
        have e2 : nI (f (3 * k + i)) = wI (bst f (3 * k + (i + 1))).2 := by rw [e, wI, if_neg (by omega)]
        rw [e1, e2]
        exact ih n (i + 1) s3 (by omega) (by omega) ⟨_, c3, fun p q => rfl⟩
      by_cases g2 : (bst f (3 * k + i)).2 = 0
      · rw [if_pos ((wI_eq (by omega)).mpr (bd.2.2.mpr g2))]
        exact J (Or.inl g2)
      · rw [if_neg (fun z => g2 (bd.2.2.mp ((wI_eq (by omega)).mp z)))]
        have e1 : wI (bst f (3 * k + i)).2 = nI (bst f (3 * k + i)).2 := by rw [wI, if_neg g2]
        by_cases g3 : f (3 * k + i) < (bst f (3 * k + i)).2
        · rw [if_neg (by rw [e1]; exact nI_ge g3 (by omega))]
          exact J (Or.inr g3)
        · rw [if_pos (by rw [e1]; exact nI_le (by omega) (by omega))]
          exact N s3 c3 (fun z => by omega)
theorem z_best {T : tN} {C : tC} (wt : wT T) (zk : ZK T C) {s : jm_M} (zc : ZC s T C) {b : Nat} (hb : b ≤ 10) {f : Nat → Nat} (hf : ∀ j, j < 12 → vB (cRul C (j / 3 + 1) (j % 3 + 1)) b (f j)) (hf2 : ∀ j, f j < 100) (x2 : Int32) : ∃ s', s_Z_bestRule_L50 5000 (nI b) x2 (-4) (-4) 1 s = some (if x2 = 0 then wI (bst f 12).1 else wI (bst f 12).2, s') := by
  have H : ∀ (d n k : Nat) (s : jm_M), k + d = 4 → d < n → (∃ C', ZC s T C' ∧ ∀ p q, cRul C' p q = cRul C p q) → ∃ s', s_Z_bestRule_L50 n (nI b) x2 (wI (bst f (3 * k)).1) (wI (bst f (3 * k)).2) (nI (k + 1)) s = some (if x2 = 0 then wI (bst f 12).1 else wI (bst f 12).2, s') := by
    intro d
    induction d with
    | zero =>
      intro n k s hk hn zc
      obtain ⟨n, rfl⟩ : ∃ q, n = q + 1 := ⟨n - 1, by omega⟩
      rw [show k = 4 by omega, s_Z_bestRule_L50, if_pos (by decide)]
      refine ⟨s, ?_⟩
      by_cases h : x2 = 0
      · rw [if_pos h, if_pos h]
      · rw [if_neg h, if_neg h]
    | succ d ih =>
      intro n k s hk hn zc
      obtain ⟨n, rfl⟩ : ∃ q, n = q + 1 := ⟨n - 1, by omega⟩
      rw [s_Z_bestRule_L50, if_neg (fun z => by rw [i_gt 4, nI_toInt (by omega)] at z; omega)]
      obtain ⟨s', a1, a2⟩ := z_best59 wt zk hb hf hf2 (s_Z_bestRule_L50 n) x2 (k := k) (by omega) 3 5000 0 s rfl (by decide) zc
      have a1' : s_Z_bestRule_L59 (s_Z_bestRule_L50 n) 5000 (nI b) x2 (wI (bst f (3 * k)).1) (wI (bst f (3 * k)).2) (nI (k + 1)) 1 s = s_Z_bestRule_L50 n (nI b) x2 (wI (bst f (3 * k + 3)).1) (wI (bst f (3 * k + 3)).2) (nI (k + 2)) s' := a1
      rw [a1']
      exact ih n (k + 1) s' (by omega) (by omega) a2
  exact H 4 5000 0 s rfl (by decide) ⟨C, zc, fun _ _ => rfl⟩
