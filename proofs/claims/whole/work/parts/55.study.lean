/-! the council of a net; the model's row of fires seen together -/
def kC (T : tN) : tC := (fk T, kS T 1, earN T, ts T, td T, tp T)
theorem wC_k {T : tN} (wt : wT T) : wC (kC T) := by
  intro h hh
  refine ⟨ts_lt wt hh, ?_⟩
  show 1 ≤ td T h ∧ td T h ≤ 9 ∧ 1 ≤ tp T h ∧ tp T h ≤ 9
  by_cases hn : h < tn T
  · obtain ⟨-, -, a, b, c, d, -⟩ := wt.2.1 h hn
    exact ⟨a, b, c, d⟩
  · obtain ⟨-, a, b, -⟩ := wt.2.2.1 h (by omega) hh
    rw [a, b]
    decide
theorem wK_k {T : tN} (wt : wT T) (he : earN T < tn T) : wK (kC T) := by
  have w1 := wt.1
  refine ⟨wC_k wt, fk_lt T, fun i hi => ?_, ?_, ?_⟩
  · show (fk T).testBit i = true
    have hi' : (kS T 1).testBit i = true := hi
    rw [kS_bit] at hi'
    rw [fk_bit wt]
    unfold kB at hi'
    unfold fB
    simp only [Bool.and_eq_true, decide_eq_true_eq] at hi' ⊢
    omega
  · show earN T < 10
    omega
  · show (fk T).testBit (earN T) = false
    rw [fk_bit wt]
    unfold fB
    rw [ear_k he]
    simp
theorem x_study {s : jm_M} {T : tN} (wt : wT T) (hx : XN s 15 T) : ∃ s', s_Co_study_48_15 s = some s' ∧ XC s' (kC T) ∧ (earN T < tn T → s'.1 48 2 = nI (earN T)) := by
  have w1 := wt.1
  have H : ∀ (d n i : Nat) (s : jm_M), i + d = 10 → d < n → XN s 15 T → s.1 48 3 = nI (kS T 1) → s.1 48 4 = nI (fk T) → (∀ h, h < i → s.1 49 h = nI (ts T h) ∧ s.1 50 h = nI (td T h) ∧ s.1 51 h = nI (tp T h)) → (earN T < tn T → earN T < i → s.1 48 2 = nI (earN T)) → ∃ s', s_Co_study_48_15_L24 n (nI i) s = some s' ∧ XC s' (kC T) ∧ (earN T < tn T → s'.1 48 2 = nI (earN T)) := by
    intro d
    induction d with
    | zero =>
      intro n i s hi hn hx h3 h4 h5 h6
      obtain ⟨n, rfl⟩ : ∃ q, n = q + 1 := ⟨n - 1, by omega⟩
      rw [s_Co_study_48_15_L24, if_pos (by rw [i_ge 10, nI_toInt (by omega)]; omega)]
      exact ⟨s, rfl, ⟨h3, h4, fun h hh => h5 h (by omega)⟩, fun he => h6 he (by omega)⟩
    | succ d ih =>
      intro n i s hi hn hx h3 h4 h5 h6
      obtain ⟨n, rfl⟩ : ∃ q, n = q + 1 := ⟨n - 1, by omega⟩
      have hi10 : i < 10 := by omega
      obtain ⟨g1, g2, g3, g4, g5, -⟩ := hx.2 i hi10
      have g1 : s.1 16 i = tkI T i := g1
      have g2 : s.1 17 i = nI (ts T i) := g2
      have g3 : s.1 18 i = nI (td T i) := g3
      have g4 : s.1 19 i = nI (tp T i) := g4
      rw [s_Co_study_48_15_L24, if_neg (fun z => by rw [i_ge 10, nI_toInt (by omega)] at z; omega), e_ldi hi10 (by decide), e_sti hi10 (by decide), e_ldi hi10 (by decide), e_sti hi10 (by decide), e_ldi hi10 (by decide), e_sti hi10 (by decide), e_ldi hi10 (by decide), nI_1]
      rw [e_sio (by omega), e_sio (by omega), e_sio (by omega), e_sio (by omega), e_sio (by omega), e_sio (by omega), g1, g2, g3, g4]
      obtain ⟨s1, hs1⟩ : ∃ s1, s1 = jm_si (jm_si (jm_si s 49 i (nI (ts T i))) 50 i (nI (td T i))) 51 i (nI (tp T i)) := ⟨_, rfl⟩
      rw [← hs1]
      have o : ∀ c k, ¬ (c = 49 ∨ c = 50 ∨ c = 51) → s1.1 c k = s.1 c k := fun c k h => by rw [hs1, e_sio (by omega), e_sio (by omega), e_sio (by omega)]
      have hx1 : XN s1 15 T := XN_same (fun c h1 h2 => ⟨fun h => by rw [o c 0 (by omega)], fun h => ⟨by funext k; rw [o c k (by omega)], by rw [hs1]; rfl⟩⟩) hx
      have h5' : ∀ h, h < i + 1 → s1.1 49 h = nI (ts T h) ∧ s1.1 50 h = nI (td T h) ∧ s1.1 51 h = nI (tp T h) := fun h hh => by
        by_cases hhi : h = i
        · subst hhi
          rw [hs1]
          refine ⟨?_, ?_, ?_⟩
          · rw [e_sio (by omega), e_sio (by omega), e_si]
          · rw [e_sio (by omega), e_si]
          · rw [e_si]
        · have := h5 h (by omega)
          rw [hs1]
          refine ⟨?_, ?_, ?_⟩
          · rw [e_sio (by omega), e_sio (by omega), e_sio (by omega)]; exact this.1
          · rw [e_sio (by omega), e_sio (by omega), e_sio (by omega)]; exact this.2.1
          · rw [e_sio (by omega), e_sio (by omega), e_sio (by omega)]; exact this.2.2
      by_cases hk : kB T 2 i = true
      · rw [if_pos (show tkI T i = 2 from (tkI_eq wt (v := 2) (by decide)).mpr hk), e_ev]
        have hk' := hk
        unfold kB at hk'
        simp only [Bool.and_eq_true, decide_eq_true_eq] at hk'
        have he : earN T = i := ear_is hk'.1 hk'.2 (fun j hj hj2 => by have := wt.2.2.2.2.1 j i (by omega) hk'.1 hj2 hk'.2; omega)
        refine ih n (i + 1) _ (by omega) (by omega) ?_ ?_ ?_ ?_ ?_
        · exact XN_same (fun c h1 h2 => ⟨fun h => by rw [e_sio (by omega)], fun h => ⟨by funext k; rw [e_sio (by omega)], rfl⟩⟩) hx1
        · rw [e_sio (by omega), o 48 3 (by omega)]; exact h3
        · rw [e_sio (by omega), o 48 4 (by omega)]; exact h4
        · intro h hh
          rw [e_sio (by omega), e_sio (by omega), e_sio (by omega)]
          exact h5' h hh
        · intro _ _
          rw [e_si, he]
      · rw [if_neg (show ¬ tkI T i = 2 from fun z => hk ((tkI_eq wt (v := 2) (by decide)).mp z))]
        refine ih n (i + 1) s1 (by omega) (by omega) hx1 (by rw [o 48 3 (by omega)]; exact h3) (by rw [o 48 4 (by omega)]; exact h4) h5' (fun h1 h2 => ?_)
        rw [o 48 2 (by omega)]
        by_cases hei : earN T = i
        · exfalso
          apply hk
          have := ear_k h1
          unfold kB
          rw [← hei, this]
          simp [h1]
        · exact h6 h1 (by omega)
  unfold s_Co_study_48_15
  have hk : ∀ s1 : jm_M, (∀ k, s1.1 16 k = s.1 16 k) → ∀ h, h < 10 → s1.1 16 h = tkI T h := fun s1 h h' hh => by rw [h]; exact XN_k hx h' hh
  rw [e_ev, show (1 : Int32) = nI 1 from rfl, x_ofKind wt (hk _ (fun k => by rw [e_sio (by omega)])) (by decide), e_bd, e_ev, x_folk wt (hk _ (fun k => by rw [e_sio (by omega), e_sio (by omega)])), e_bd, e_ev]
  refine H 10 5000 0 _ rfl (by decide) ?_ ?_ ?_ (fun h hh => by omega) (fun _ h => by omega)
  · exact XN_same (fun c h1 h2 => ⟨fun h => by rw [e_sio (by omega), e_sio (by omega), e_sio (by omega)], fun h => ⟨by funext k; rw [e_sio (by omega), e_sio (by omega), e_sio (by omega)], rfl⟩⟩) hx
  · rw [e_sio (by omega), e_si]
  · rw [e_si]
/-! the model's council -/
def gB (s : jm_M) (h o : Nat) : Bool := decide (nI h = s.1 59 25 ∧ nI o = s.1 59 26) || decide (nI h = s.1 59 26 ∧ nI o = s.1 59 25)
def ZC (s : jm_M) (T : tN) (C : tC) : Prop := s.1 61 0 = nI (tn T) ∧ (∀ h, h < tn T → s.1 62 h = nI (tk T h) ∧ s.1 63 h = nI (ts T h)) ∧ (∃ k, s.1 59 23 = nI k ∧ k < 10 ∧ ∀ h, h < tn T → (k = 0 → s.1 64 h = nI (cd C h)) ∧ (k ≠ 0 → cd C h = k)) ∧ (∃ m, s.1 59 24 = nI m ∧ m < 10 ∧ ∀ h, h < tn T → (m = 0 → s.1 65 h = nI (cp C h)) ∧ (m ≠ 0 → cp C h = m)) ∧ (∃ M, M < 1024 ∧ s.1 59 22 = nI M ∧ ∀ h, (cF C).testBit h = (M.testBit h && !kB T 2 h)) ∧ (∀ h o, h < tn T → o < tn T → (cs C h).testBit o = ((ts T h).testBit o && !gB s h o)) ∧ (∀ h, h < tn T → cs C h < 2 ^ tn T) ∧ cF C < 2 ^ tn T
theorem ZC_same {s s' : jm_M} {T : tN} {C : tC} (h : ZC s T C) (e : ∀ c k, ¬ (c = 76 ∨ c = 77) → s'.1 c k = s.1 c k) : ZC s' T C := by
  unfold ZC gB
  rw [e 61 0 (by omega), e 59 23 (by omega), e 59 24 (by omega), e 59 22 (by omega), e 59 25 (by omega), e 59 26 (by omega)]
  obtain ⟨h1, h2, ⟨k, k1, k2, k3⟩, ⟨m, m1, m2, m3⟩, h5, h6⟩ := h
  refine ⟨h1, fun q hq => ?_, ⟨k, k1, k2, fun q hq => ?_⟩, ⟨m, m1, m2, fun q hq => ?_⟩, h5, h6⟩
  · rw [e 62 q (by omega), e 63 q (by omega)]; exact h2 q hq
  · rw [e 64 q (by omega)]; exact k3 q hq
  · rw [e 65 q (by omega)]; exact m3 q hq
theorem ZC_fr {s s' : jm_M} {T : tN} {C : tC} (h : ZC s T C) (hf : jm_fr ([76, 77], []) s s') : ZC s' T C := ZC_same h (fun c k hc => (hf c k (by simp; omega) (by simp)).1)
theorem z_needs {s : jm_M} {T : tN} {C : tC} (wt : wT T) (zc : ZC s T C) {h : Nat} (hh : h < tn T) : s_Z_needs s (nI h) = some (nI (cd C h)) := by
  have w1 := wt.1
  unfold s_Z_needs
  obtain ⟨k, k1, k2, k3⟩ := zc.2.2.1
  rw [k1]
  by_cases h0 : k = 0
  · rw [if_pos (by rw [h0]; decide), e_ldi (by omega) (by decide), (k3 h hh).1 h0]
  · rw [if_neg (fun z => by rw [i_le 0, nI_toInt (by omega)] at z; omega), (k3 h hh).2 h0]
theorem z_takes {s : jm_M} {T : tN} {C : tC} (wt : wT T) (zc : ZC s T C) {h : Nat} (hh : h < tn T) : s_Z_takes s (nI h) = some (nI (cp C h)) := by
  have w1 := wt.1
  unfold s_Z_takes
  obtain ⟨k, k1, k2, k3⟩ := zc.2.2.2.1
  rw [k1]
  by_cases h0 : k = 0
  · rw [if_pos (by rw [h0]; decide), e_ldi (by omega) (by decide), (k3 h hh).1 h0]
  · rw [if_neg (fun z => by rw [i_le 0, nI_toInt (by omega)] at z; omega), (k3 h hh).2 h0]
/-! rows in order -/
def srt (R : Nat → Nat) (n : Nat) : Prop := ∀ i j, i ≤ j → j < n → R i ≤ R j
theorem srt_ct {R : Nat → Nat} {n d x : Nat} (hs : srt R n) (h1 : 1 ≤ d) (h2 : d ≤ n) : R (d - 1) ≤ x ↔ d ≤ fb_ct (fun j => decide (R j ≤ x)) n := by
  constructor
  · intro h
    have : fb_ct (fun j => decide (R j ≤ x)) d = d := fb_ct_all.mpr (fun k hk => by
      rw [decide_eq_true_eq]
      exact Nat.le_trans (hs k (d - 1) (by omega) (by omega)) h)
    have := fb_ct_mono (fun j => decide (R j ≤ x)) h2
    omega
  · intro h
    apply Classical.byContradiction
    intro hn
    have e := ct_up (p := fun j => decide (R j ≤ x)) (k := d - 1) (m := n) (by omega) (fun i h3 h4 => by
      rw [decide_eq_false_iff_not]
      have := hs (d - 1) i h3 h4
      omega)
    have := fb_ct_le (fun j => decide (R j ≤ x)) (d - 1)
    omega
def ins (R : Nat → Nat) (k v j : Nat) : Nat := if j < k then R j else if j = k then v else R (j - 1)
theorem ins_ct {R : Nat → Nat} {k v n : Nat} (hk : k ≤ n) (x : Nat) : fb_ct (fun j => decide (ins R k v j ≤ x)) (n + 1) = fb_ct (fun j => decide (R j ≤ x)) n + (if v ≤ x then 1 else 0) := by
  obtain ⟨d, rfl⟩ : ∃ d, n = k + d := ⟨n - k, by omega⟩
  rw [show k + d + 1 = k + (1 + d) by omega, fb_ct_split, fb_ct_split _ 1 d, fb_ct_split (fun j => decide (R j ≤ x)) k d]
  have e1 : fb_ct (fun j => decide (ins R k v j ≤ x)) k = fb_ct (fun j => decide (R j ≤ x)) k := fb_ct_cong (fun j hj => by simp only [ins, if_pos hj])
  have e2 : fb_ct (fun j => decide (ins R k v (k + j) ≤ x)) 1 = if v ≤ x then 1 else 0 := by
    rw [fb_ct_succ]
    have : ins R k v (k + 0) = v := by simp only [ins, Nat.add_zero, if_neg (Nat.lt_irrefl k), if_true]
    simp only [this, decide_eq_true_eq]
    have z : fb_ct (fun j => decide (ins R k v (k + j) ≤ x)) 0 = 0 := rfl
    rw [z, Nat.zero_add]
  have e3 : fb_ct (fun j => decide (ins R k v (k + (1 + j)) ≤ x)) d = fb_ct (fun j => decide (R (k + j) ≤ x)) d := fb_ct_cong (fun j _ => by
    have ei : ins R k v (k + (1 + j)) = R (k + j) := by
      unfold ins
      rw [if_neg (by omega), if_neg (by omega), show k + (1 + j) - 1 = k + j by omega]
    rw [ei])
  rw [e1, e2, e3]
  omega
theorem ins_srt {R : Nat → Nat} {k v n : Nat} (hs : srt R n) (hk : k ≤ n) (h1 : ∀ j, j < k → R j ≤ v) (h2 : ∀ j, k ≤ j → j < n → v ≤ R j) : srt (ins R k v) (n + 1) := by
  intro i j hij hj
  unfold ins
  by_cases a : j < k
  · rw [if_pos a, if_pos (by omega)]; exact hs i j hij (by omega)
  · rw [if_neg a]
    by_cases b : j = k
    · rw [if_pos b]
      by_cases c : i < k
      · rw [if_pos c]; exact h1 i c
      · rw [if_neg c, if_pos (by omega)]; exact Nat.le_refl _
    · rw [if_neg b]
      by_cases c : i < k
      · rw [if_pos c]; exact hs i (j - 1) (by omega) (by omega)
      · rw [if_neg c]
        by_cases d : i = k
        · rw [if_pos d]; exact h2 (j - 1) (by omega) (by omega)
        · rw [if_neg d]; exact hs (i - 1) (j - 1) (by omega) (by omega)
