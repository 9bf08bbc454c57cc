/-! the class's council: borne, best rule, spares, sights gone -/
def bR (C : tC) (b : Nat) (r : Int32) : Prop := (bear C b ∧ ∃ L, isL C b L ∧ 1 ≤ L ∧ L < 100 ∧ r = nI L) ∨ (¬ bear C b ∧ r = -4)
theorem x_ifBorne {s : jm_M} {C : tC} (wk : wK C) (xe : XE s C) {b : Nat} (hb : b ≤ 10) : ∃ r s', s_Co_latestIfBorne s (nI b) = some (r, s') ∧ bR C b r ∧ XE s' C := by
  have hF := wk.2.1
  have hbl := bcn_le (cF C)
  unfold s_Co_latestIfBorne
  rw [xe.1.2.1, x_bc s hF, e_bd, e_vi]
  have e : jm_min (nI b) (nI (bcn (cF C))) = nI (min b (bcn (cF C))) := by
    rw [fa_eq, i_min, nI_toInt (by omega), nI_toInt (by omega), nI_toInt (by omega)]
    omega
  rw [e]
  obtain ⟨r, h1, h2⟩ := x_leastFooling wk xe (b := min b (bcn (cF C))) (by omega)
  rw [h1, e_bd]
  rcases h2 with ⟨A, a1, a2, a3, rfl⟩ | ⟨rfl, a1⟩
  · rw [if_neg (nI_n4 (by omega))]
    refine ⟨_, s, rfl, Or.inr ⟨fun hbr => ?_, rfl⟩, xe⟩
    unfold qF at a2
    simp only [Bool.and_eq_true, decide_eq_true_eq] at a2
    rw [hbr.1 A (sbB_iff.mp a2.1) (by omega)] at a2
    exact Bool.false_ne_true a2.2.2
  · rw [if_pos rfl]
    have hn : noF C b := (noF_iff wk).mpr (fun A g1 g2 => by
      have := a1 A (sbs_lt g1 hF)
      unfold qF at this
      rw [sbB_iff.mpr g1, g2] at this
      simpa using this)
    obtain ⟨r, s', k1, ⟨L, k2, k3⟩, k4⟩ := x_latest wk xe hb
    rw [k1, e_b2]
    refine ⟨_, _, rfl, ?_, k4⟩
    rcases isL_bd wk k2 with g | g
    · right
      refine ⟨fun hbr => ?_, by rw [k3, if_pos g]⟩
      have := (isL_lt k2).mpr hbr.2
      omega
    · left
      exact ⟨⟨hn, (isL_lt k2).mp (by omega)⟩, L, k2, g.1, g.2, by rw [k3, if_neg (by omega)]⟩
def mbR (C : tC) (r : Int32) : Prop := (∃ b, b ≤ 9 ∧ bear C b ∧ (∀ c, b < c → c ≤ 9 → ¬ bear C c) ∧ r = nI b) ∨ (r = -4 ∧ ∀ b, b ≤ 9 → ¬ bear C b)
theorem x_mb5 {C : tC} (wk : wK C) : ∀ (k n i : Nat) (r : Int32) (s : jm_M), i + k = 10 → k < n → XE s C → (∀ c, c < i → bear C c) → r = (if i = 0 then -4 else nI (i - 1)) → ∃ r' s', s_Co_mostBorne_L5 n r (nI i) s = some (r', s') ∧ mbR C r' := by
  intro k
  induction k with
  | zero =>
    intro n i r s hi hn xe hc hr
    obtain ⟨n, rfl⟩ : ∃ q, n = q + 1 := ⟨n - 1, by omega⟩
    rw [s_Co_mostBorne_L5, if_pos (by rw [i_gt 9, nI_toInt (by omega)]; omega)]
    refine ⟨_, _, rfl, Or.inl ⟨9, by omega, hc 9 (by omega), fun c _ _ => by omega, ?_⟩⟩
    rw [hr, if_neg (by omega), show i - 1 = 9 by omega]
  | succ k ih =>
    intro n i r s hi hn xe hc hr
    obtain ⟨n, rfl⟩ : ∃ q, n = q + 1 := ⟨n - 1, by omega⟩
    rw [s_Co_mostBorne_L5, if_neg (fun z => by rw [i_gt 9, nI_toInt (by omega)] at z; omega)]
    obtain ⟨r1, s1, h1, h2, h3⟩ := x_ifBorne wk xe (b := i) (by omega)
    rw [h1, e_b2]
    rcases h2 with ⟨a1, L, a2, a3, a4, rfl⟩ | ⟨a1, rfl⟩
    · rw [if_neg (nI_n4 (by omega)), nI_1]
      refine ih n (i + 1) _ s1 (by omega) (by omega) h3 (fun c hcc => ?_) ?_
      · by_cases h : c = i
        · rw [h]; exact a1
        · exact hc c (by omega)
      · rw [if_neg (by omega), show i + 1 - 1 = i by omega]
    · rw [if_pos rfl]
      refine ⟨_, _, rfl, ?_⟩
      by_cases h0 : i = 0
      · right
        refine ⟨by rw [hr, if_pos h0], fun b _ hbr => a1 (bear_dn wk (by omega) hbr)⟩
      · left
        refine ⟨i - 1, by omega, hc (i - 1) (by omega), fun c g1 _ hbr => a1 (bear_dn wk (by omega) hbr), by rw [hr, if_neg h0]⟩
theorem x_mostBorne {s : jm_M} {C : tC} (wk : wK C) (xe : XE s C) : ∃ r s', s_Co_mostBorne s = some (r, s') ∧ mbR C r := x_mb5 wk 10 5000 0 (-4) s rfl (by decide) xe (fun c hc => by omega) (by rfl)
/-! the best rule -/
theorem isL_ex {C : tC} (wk : wK C) (b : Nat) : ∃ L, isL C b L := by
  by_cases h : ∃ h S, prC C b h S
  · obtain ⟨h, S, hp⟩ := h
    have hb : ∀ h S, prC C b h S → vlC C h S < 1000001 := fun h S hp => by
      rcases vl_bd wk (S := S) (pr_h wk hp).1 with g | g <;> omega
    letI : DecidablePred (fun v => ∃ h S, prC C b h S ∧ vlC C h S = v) := fun _ => Classical.propDecidable _
    obtain ⟨v, v1, ⟨h', S', v2, v3⟩, v4⟩ := fb_last (p := fun v => ∃ h S, prC C b h S ∧ vlC C h S = v) (n := 1000001) ⟨vlC C h S, hb h S hp, h, S, hp, rfl⟩
    refine ⟨v, Or.inr ⟨fun g R hg => ?_, h', S', v2, v3⟩⟩
    apply Classical.byContradiction
    intro hn
    exact v4 (vlC C g R) (by omega) (hb g R hg) ⟨g, R, hg, rfl⟩
  · exact ⟨1000000, Or.inl ⟨fun h' S hp => h ⟨h', S, hp⟩, rfl⟩⟩
def cRul (C : tC) (k m : Nat) : tC := (cF C, cH C, ce C, cs C, fun _ => k, fun _ => m)
theorem wK_rul {C : tC} (wk : wK C) {k m : Nat} (h1 : 1 ≤ k) (h2 : k ≤ 9) (h3 : 1 ≤ m) (h4 : m ≤ 9) : wK (cRul C k m) := ⟨fun h hh => ⟨(wk.1 h hh).1, h1, h2, h3, h4⟩, wk.2⟩
def vB (C : tC) (b v : Nat) : Prop := (bear C b ∧ isL C b v ∧ 1 ≤ v ∧ v < 100) ∨ (¬ bear C b ∧ v = 0)
theorem vB_ex {C : tC} (wk : wK C) (b : Nat) : ∃ v, vB C b v := by
  by_cases hb : bear C b
  · obtain ⟨L, hL⟩ := isL_ex wk b
    have := (isL_lt hL).mpr hb.2
    rcases isL_bd wk hL with g | g
    · omega
    · exact ⟨L, Or.inl ⟨hb, hL, g⟩⟩
  · exact ⟨0, Or.inr ⟨hb, rfl⟩⟩
theorem vB_one {C : tC} {b v w : Nat} (h1 : vB C b v) (h2 : vB C b w) : v = w := by
  rcases h1 with ⟨a1, a2, _⟩ | ⟨a1, a2⟩ <;> rcases h2 with ⟨b1, b2, _⟩ | ⟨b1, b2⟩
  · exact isL_one a2 b2
  · exact absurd a1 b1
  · exact absurd b1 a1
  · rw [a2, b2]
theorem vB_r {C : tC} {b v : Nat} {r : Int32} (h1 : vB C b v) (h2 : bR C b r) : r = wI v ∧ v < 100 := by
  rcases h1 with ⟨a1, a2, a3⟩ | ⟨a1, a2⟩ <;> rcases h2 with ⟨b1, L, b2, b3, b4, b5⟩ | ⟨b1, b2⟩
  · rw [b5, isL_one a2 b2, wI, if_neg (by omega)]; exact ⟨rfl, b4⟩
  · exact absurd a1 b1
  · exact absurd b1 a1
  · rw [b2, a2]; exact ⟨rfl, by decide⟩
/-- the best of the first j rules: its mark and its minute, 0 for none -/
def bst (f : Nat → Nat) : Nat → Nat × Nat
  | 0 => (0, 0)
  | j + 1 => if f j ≠ 0 ∧ ((bst f j).2 = 0 ∨ f j < (bst f j).2) then (10 * (j / 3 + 1) + (j % 3 + 1), f j) else bst f j
theorem bst_bd {f : Nat → Nat} (hf : ∀ j, f j < 100) : ∀ j, j ≤ 12 → (bst f j).1 < 100 ∧ (bst f j).2 < 100 ∧ ((bst f j).1 = 0 ↔ (bst f j).2 = 0)
  | 0, _ => ⟨show (0 : Nat) < 100 by decide, show (0 : Nat) < 100 by decide, show (0 : Nat) = 0 ↔ (0 : Nat) = 0 from Iff.rfl⟩
  | j + 1, h => by
    rw [bst]
    have ih := bst_bd hf j (by omega)
    have hj := hf j
    split
    · rename_i hc
      refine ⟨?_, hj, ?_⟩
      · show 10 * (j / 3 + 1) + (j % 3 + 1) < 100
        omega
      · show 10 * (j / 3 + 1) + (j % 3 + 1) = 0 ↔ f j = 0
        omega
    · exact ih
theorem XE_fr2 {s s' : jm_M} {C : tC} (h : XE s C) (hf : jm_fr ([50, 51, 52], [(48, 0), (48, 1), (48, 9)]) s s') : s'.1 48 2 = nI (ce C) ∧ s'.1 48 3 = nI (cH C) ∧ s'.1 48 4 = nI (cF C) ∧ ∀ q, q < 10 → s'.1 49 q = nI (cs C q) := by
  obtain ⟨⟨h1, h2, h3⟩, h4⟩ := h
  refine ⟨?_, ?_, ?_, fun q hq => ?_⟩
  · rw [(hf 48 2 (by decide) (by decide)).1]; exact h4
  · rw [(hf 48 3 (by decide) (by decide)).1]; exact h1
  · rw [(hf 48 4 (by decide) (by decide)).1]; exact h2
  · rw [(hf 49 q (by decide) (by simp)).1]; exact (h3 q hq).1
def XR (s : jm_M) (C : tC) : Prop := s.1 48 2 = nI (ce C) ∧ s.1 48 3 = nI (cH C) ∧ s.1 48 4 = nI (cF C) ∧ ∀ q, q < 10 → s.1 49 q = nI (cs C q)
theorem x_rules {C : tC} {k m : Nat} {s : jm_M} (xr : XR s C) : ∃ s', s_Co_ruleAllBy s (nI k) (nI m) = some s' ∧ XE s' (cRul C k m) ∧ s'.1 48 0 = s.1 48 0 ∧ s'.1 48 1 = s.1 48 1 := by
  have H : ∀ (d n i : Nat) (s : jm_M), i + d = 10 → d < n → XR s C → (∀ q, q < i → s.1 50 q = nI k ∧ s.1 51 q = nI m) → ∃ s', s_Co_ruleAllBy_L2 n (nI k) (nI m) (nI i) s = some s' ∧ XE s' (cRul C k m) := by
    intro d
    induction d with
    | zero =>
      intro n i s hi hn xr hq
      obtain ⟨n, rfl⟩ : ∃ q, n = q + 1 := ⟨n - 1, by omega⟩
      rw [s_Co_ruleAllBy_L2, if_pos (by rw [i_ge 10, nI_toInt (by omega)]; omega)]
      exact ⟨s, rfl, ⟨xr.2.1, xr.2.2.1, fun h hh => ⟨xr.2.2.2 h hh, (hq h (by omega)).1, (hq h (by omega)).2⟩⟩, xr.1⟩
    | succ d ih =>
      intro n i s hi hn xr hq
      obtain ⟨n, rfl⟩ : ∃ q, n = q + 1 := ⟨n - 1, by omega⟩
      rw [s_Co_ruleAllBy_L2, if_neg (fun z => by rw [i_ge 10, nI_toInt (by omega)] at z; omega), e_sti (by omega) (by decide), e_sti (by omega) (by decide), nI_1]
      refine ih n (i + 1) _ (by omega) (by omega) ?_ (fun q hqi => ?_)
      · refine ⟨?_, ?_, ?_, fun q hq2 => ?_⟩
        · rw [e_sio (by omega), e_sio (by omega)]; exact xr.1
        · rw [e_sio (by omega), e_sio (by omega)]; exact xr.2.1
        · rw [e_sio (by omega), e_sio (by omega)]; exact xr.2.2.1
        · rw [e_sio (by omega), e_sio (by omega)]; exact xr.2.2.2 q hq2
      · by_cases hqq : q = i
        · subst hqq
          rw [e_sio (by omega), e_si, e_si]
          exact ⟨rfl, rfl⟩
        · rw [e_sio (by omega), e_sio (by omega), e_sio (by omega), e_sio (by omega)]
          exact hq q (by omega)
  obtain ⟨s', h1, h2⟩ := H 10 5000 0 s rfl (by decide) xr (fun q hq => by omega)
  refine ⟨s', h1, h2, ?_, ?_⟩
  · exact (s_Co_ruleAllBy_fr s (nI k) (nI m) s' h1 48 0 (by decide) (by decide)).1
  · exact (s_Co_ruleAllBy_fr s (nI k) (nI m) s' h1 48 1 (by decide) (by decide)).1
theorem wI_eq {v : Nat} (hv : v < 1000000) : wI v = -4 ↔ v = 0 := by
  unfold wI
  by_cases h : v = 0
  · rw [if_pos h]; simp [h]
  · rw [if_neg h]
    exact ⟨fun z => absurd z (nI_n4 (by omega)), fun z => absurd z h⟩
theorem x_best21 {C : tC} (wk : wK C) {b : Nat} (hb : b ≤ 10) {f : Nat → Nat} (hf : ∀ j, j < 12 → vB (cRul C (j / 3 + 1) (j % 3 + 1)) b (f j)) (hf2 : ∀ j, f j < 100) (k8 : Int32 → Int32 → jm_M → Option jm_M) {k : Nat} (hk1 : k < 4) : ∀ (d n i : Nat) (s : jm_M), i + d = 3 → d < n → XR s C → s.1 48 0 = wI (bst f (3 * k + i)).1 → s.1 48 1 = wI (bst f (3 * k + i)).2 → ∃ s', s_Co_seekBestRule_L21 k8 n (nI b) (nI (k + 1)) (nI (i + 1)) s = k8 (nI b) (nI (k + 2)) s' ∧ XR s' C ∧ s'.1 48 0 = wI (bst f (3 * k + 3)).1 ∧ s'.1 48 1 = wI (bst f (3 * k + 3)).2 := by
  intro d
  induction d with
  | zero =>
    intro n i s hi hn xr h1 h2
    obtain ⟨n, rfl⟩ : ∃ q, n = q + 1 := ⟨n - 1, by omega⟩
    rw [show i = 3 by omega] at h1 h2
    rw [s_Co_seekBestRule_L21, if_pos (by rw [i_gt 3, nI_toInt (by omega)]; omega), nI_1]
    exact ⟨s, rfl, xr, h1, h2⟩
  | succ d ih =>
    intro n i s hi hn xr h1 h2
    obtain ⟨n, rfl⟩ : ∃ q, n = q + 1 := ⟨n - 1, by omega⟩
    obtain ⟨s1, a1, a2, a3, a4⟩ := x_rules (k := k + 1) (m := i + 1) xr
    have wk1 : wK (cRul C (k + 1) (i + 1)) := wK_rul wk (by omega) (by omega) (by omega) (by omega)
    obtain ⟨r, s2, b1, b2, b3⟩ := x_ifBorne wk1 a2 hb
    have hv := hf (3 * k + i) (by omega)
    rw [show (3 * k + i) / 3 + 1 = k + 1 by omega, show (3 * k + i) % 3 + 1 = i + 1 by omega] at hv
    obtain ⟨rfl, hv2⟩ := vB_r hv b2
    have bd := bst_bd hf2 (3 * k + i) (by omega)
    have hfr := s_Co_latestIfBorne_fr s1 (nI b) _ b1
    have c0 : s2.1 48 0 = wI (bst f (3 * k + i)).1 := by rw [(hfr 48 0 (by decide) (by decide)).1]; exact a3.trans h1
    have c1 : s2.1 48 1 = wI (bst f (3 * k + i)).2 := by rw [(hfr 48 1 (by decide) (by decide)).1]; exact a4.trans h2
    have xr2 : XR s2 C := ⟨b3.2, b3.1.1, b3.1.2.1, fun q hq => (b3.1.2.2 q hq).1⟩
    rw [s_Co_seekBestRule_L21, if_neg (fun z => by rw [i_gt 3, nI_toInt (by omega)] at z; omega), a1, e_bd, b1, e_b2, c1, nI_1]
    have J : ¬ f (3 * k + i) = 0 → ((bst f (3 * k + i)).2 = 0 ∨ f (3 * k + i) < (bst f (3 * k + i)).2) → ∃ s', s_Co_seekBestRule_J64 k8 (s_Co_seekBestRule_L21 k8 n) (nI b) (nI (k + 1)) (nI (i + 1)) (wI (f (3 * k + i))) s2 = k8 (nI b) (nI (k + 2)) s' ∧ XR s' C ∧ s'.1 48 0 = wI (bst f (3 * k + 3)).1 ∧ s'.1 48 1 = wI (bst f (3 * k + 3)).2 := by
      intro g1 g2
      have e : bst f (3 * k + (i + 1)) = (10 * (k + 1) + (i + 1), f (3 * k + i)) := by
        rw [← Nat.add_assoc, bst, if_pos ⟨g1, g2⟩, show (3 * k + i) / 3 + 1 = k + 1 by omega, show (3 * k + i) % 3 + 1 = i + 1 by omega]
      unfold s_Co_seekBestRule_J64
      rw [e_ev, e_ev, nI_1, ix_m 10 (k + 1) (i + 1) 10 rfl]
      refine ih n (i + 1) _ (by omega) (by omega) ?_ ?_ ?_
      · refine ⟨?_, ?_, ?_, fun q hq => ?_⟩
        · rw [e_sio (by omega), e_sio (by omega)]; exact xr2.1
        · rw [e_sio (by omega), e_sio (by omega)]; exact xr2.2.1
        · rw [e_sio (by omega), e_sio (by omega)]; exact xr2.2.2.1
        · rw [e_sio (by omega), e_sio (by omega)]; exact xr2.2.2.2 q hq
      · rw [e_sio (by omega), e_si, e, wI, if_neg (by omega)]
      · rw [e_si, e]
    have N : ¬ (¬ f (3 * k + i) = 0 ∧ ((bst f (3 * k + i)).2 = 0 ∨ f (3 * k + i) < (bst f (3 * k + i)).2)) → ∃ s', s_Co_seekBestRule_L21 k8 n (nI b) (nI (k + 1)) (nI (i + 1 + 1)) s2 = k8 (nI b) (nI (k + 2)) s' ∧ XR s' C ∧ s'.1 48 0 = wI (bst f (3 * k + 3)).1 ∧ s'.1 48 1 = wI (bst f (3 * k + 3)).2 := by
      intro g
      have e : bst f (3 * k + (i + 1)) = bst f (3 * k + i) := by rw [← Nat.add_assoc, bst, if_neg g]
      exact ih n (i + 1) s2 (by omega) (by omega) xr2 (by rw [e]; exact c0) (by rw [e]; exact c1)
    by_cases g1 : f (3 * k + i) = 0
    · rw [if_pos ((wI_eq (by omega)).mpr g1)]
      exact N (fun z => z.1 g1)
    · rw [if_neg (fun z => g1 ((wI_eq (by omega)).mp z))]
      by_cases g2 : (bst f (3 * k + i)).2 = 0
      · rw [if_pos ((wI_eq (by omega)).mpr g2)]
        exact J g1 (Or.inl g2)
      · rw [if_neg (fun z => g2 ((wI_eq (by omega)).mp z))]
        have e1 : wI (bst f (3 * k + i)).2 = nI (bst f (3 * k + i)).2 := by rw [wI, if_neg g2]
        have e2 : wI (f (3 * k + i)) = nI (f (3 * k + i)) := by rw [wI, if_neg g1]
        by_cases g3 : f (3 * k + i) < (bst f (3 * k + i)).2
        · rw [if_neg (by rw [e1, e2]; exact nI_ge g3 (by omega))]
          exact J g1 (Or.inr g3)
        · rw [if_pos (by rw [e1, e2]; exact nI_le (by omega) (by omega))]
          exact N (fun z => by omega)
theorem x_best {C : tC} (wk : wK C) {s : jm_M} (xe : XE s C) {b : Nat} (hb : b ≤ 10) {f : Nat → Nat} (hf : ∀ j, j < 12 → vB (cRul C (j / 3 + 1) (j % 3 + 1)) b (f j)) (hf2 : ∀ j, f j < 100) : ∃ s', s_Co_seekBestRule s (nI b) = some s' ∧ s'.1 48 0 = wI (bst f 12).1 ∧ s'.1 48 1 = wI (bst f 12).2 := by
  have H : ∀ (d n k : Nat) (s : jm_M), k + d = 4 → d < n → XR s C → s.1 48 0 = wI (bst f (3 * k)).1 → s.1 48 1 = wI (bst f (3 * k)).2 → ∃ s', s_Co_seekBestRule_L14 n (nI b) (nI (k + 1)) s = some s' ∧ s'.1 48 0 = wI (bst f 12).1 ∧ s'.1 48 1 = wI (bst f 12).2 := by
    intro d
    induction d with
    | zero =>
      intro n k s hk hn xr h1 h2
      obtain ⟨n, rfl⟩ : ∃ q, n = q + 1 := ⟨n - 1, by omega⟩
      rw [show 3 * k = 12 by omega] at h1 h2
      rw [s_Co_seekBestRule_L14, if_pos (by rw [i_gt 4, nI_toInt (by omega)]; omega)]
      exact ⟨s, rfl, h1, h2⟩
    | succ d ih =>
      intro n k s hk hn xr h1 h2
      obtain ⟨n, rfl⟩ : ∃ q, n = q + 1 := ⟨n - 1, by omega⟩
      rw [s_Co_seekBestRule_L14, if_neg (fun z => by rw [i_gt 4, nI_toInt (by omega)] at z; omega)]
      obtain ⟨s', a1, a2, a3, a4⟩ := x_best21 wk hb hf hf2 (s_Co_seekBestRule_L14 n) (k := k) (by omega) 3 5000 0 s rfl (by decide) xr h1 h2
      have a1' : s_Co_seekBestRule_L21 (s_Co_seekBestRule_L14 n) 5000 (nI b) (nI (k + 1)) 1 s = s_Co_seekBestRule_L14 n (nI b) (nI (k + 2)) s' := a1
      rw [a1']
      exact ih n (k + 1) s' (by omega) (by omega) a2 a3 a4
  unfold s_Co_seekBestRule
  rw [e_ev, e_ev]
  refine H 4 5000 0 _ rfl (by decide) ?_ ?_ ?_
  · refine ⟨?_, ?_, ?_, fun q hq => ?_⟩
    · rw [e_sio (by omega), e_sio (by omega)]; exact xe.2
    · rw [e_sio (by omega), e_sio (by omega)]; exact xe.1.1
    · rw [e_sio (by omega), e_sio (by omega)]; exact xe.1.2.1
    · rw [e_sio (by omega), e_sio (by omega)]; exact (xe.1.2.2 q hq).1
  · rw [e_sio (by omega), e_si]; rfl
  · rw [e_si]; rfl
