/-! the model: false alarms, true alarms -/
/-- a council told by the model -/
def ZK (T : tN) (C : tC) : Prop := wK C ∧ ce C = earN T ∧ earN T < tn T ∧ cH C = kS T 1
theorem z_men {s : jm_M} {T : tN} {C : tC} (wt : wT T) (zc : ZC s T C) : s_Z_men s = some (nI (cF C)) := by
  unfold s_Z_men
  obtain ⟨M, M1, M2, M3⟩ := zc.2.2.2.2.1
  rw [show (2 : Int32) = nI 2 from rfl, z_ofKind wt zc.1 (fun h hh => (zc.2.1 h hh).1) (by decide), e_bd, M2, andn M1 (kS_lt T 2)]
  congr 2
  apply Nat.eq_of_testBit_eq
  intro i
  rw [dn_bit, kS_bit, M3]
  by_cases hi : i < 10
  · simp [hi]
  · have : M.testBit i = false := by
      cases hb : M.testBit i with
      | false => rfl
      | true => exact absurd (bit_lt M1 hb) hi
    simp [hi, this]
theorem z_earK {s : jm_M} {T : tN} {C : tC} (wt : wT T) (zk : ZK T C) (zc : ZC s T C) : s_Z_ear s = some (nI (ce C)) := by
  rw [z_ear wt zc.1 (fun h hh => (zc.2.1 h hh).1), if_pos zk.2.2.1, zk.2.1]
theorem z_isFalse {s : jm_M} {T : tN} {C : tC} (wt : wT T) (zk : ZK T C) (zc : ZC s T C) {A : Nat} (hA : A < 1024) : ∃ s' z, s_Z_isFalse s (nI A) = some (oI (fo C A), s') ∧ ZC s' T C ∧ zS s' T z ∧ ∀ h, h < tn T → (z h < 1000000 ↔ (rg C A).testBit h = true) := by
  have w1 := wt.1
  have wc := zk.1.1
  have het : ce C < tn T := by rw [zk.2.1]; exact zk.2.2.1
  have w := wc _ zk.1.2.2.2.1
  obtain ⟨s1, s2, z, a1, a2, a3, a4, a5, a6⟩ := z_fires (W := dn (cF C) A) (S := 0) (m0 := 0) wt wc hA (by decide) (by decide) (fun h hh => by
    unfold may
    rw [dn_bit, Nat.zero_testBit]
    simp [show h < 10 by omega]) zc
  have hz : ∀ h, h < tn T → (z h < 1000000 ↔ (rg C A).testBit h = true) := fun h hh => by
    constructor
    · intro hlt
      have hb := (a6 h hh (z h + 1) (by omega)).mp (by omega)
      by_cases hc : z h + 1 ≤ 91
      · exact bq_mono A _ wc hc h hb
      · rw [bq_fin wc hA (by omega)] at hb
        exact hb
    · intro hb
      have := (a6 h hh 91 (by decide)).mpr hb
      omega
  obtain ⟨v, s3, b1, b2, b3, b4, b5⟩ := z_together wt het w.2.1 w.2.2.1 a3 a4
  refine ⟨s3, z, ?_, b4, b5, hz⟩
  unfold s_Z_isFalse
  rw [show (0 : Int32) = nI 0 from rfl, a1, e_bd, a2, e_bd, z_earK wt zk a3, e_bd, b1, e_b2]
  have hcs := zc.2.2.2.2.2.2.1 _ het
  have ge := ct_ge (z := z) (x := 999999) (B := rg C A) w1 hcs (fun o ho hb => by have := (hz o ho).mpr hb; omega)
  have le := ct_le (C := C) (T := T) (z := z) (h := ce C) (x := 999999) (B := rg C A) w1 (fun o ho hb => (hz o ho).mp (by omega))
  have hv := b3 999999 (by decide)
  unfold fo cn
  by_cases hc : cd C (ce C) ≤ bcn (cs C (ce C) &&& rg C A)
  · rw [if_neg (fun q => by rw [i_ge 1000000, nI_toInt (by omega)] at q; omega)]
    simp only [hc, decide_true]; rfl
  · rw [if_pos (by rw [i_ge 1000000, nI_toInt (by omega)]; omega)]
    simp only [hc, decide_false]; rfl
theorem z_alarmBy {s : jm_M} {T : tN} {C : tC} (wt : wT T) (zk : ZK T C) (zc : ZC s T C) {h S : Nat} (hh : h < 10) (hS : S < 1024) : ∃ s', s_Z_alarmBy s (nI h) (nI S) = some (nI (vlC C h S), s') ∧ ZC s' T C := by
  have w1 := wt.1
  have wc := zk.1.1
  have he10 := zk.1.2.2.2.1
  have het : ce C < tn T := by rw [zk.2.1]; exact zk.2.2.1
  have w := wc _ he10
  have hSh : S ||| 2 ^ h < 1024 := Nat.or_lt_two_pow (n := 10) hS (p2_lt hh)
  obtain ⟨s1, s2, z, a1, a2, a3, a4, a5, a6⟩ := z_fires (A := 2 ^ h) (W := dn (dn (cF C) S) (2 ^ h)) (S := S ||| 2 ^ h) (m0 := 1) wt wc (p2_lt hh) hSh (by decide) (fun q hq => by
    unfold may
    rw [dn_bit, dn_bit, Nat.testBit_or]
    simp only [show q < 10 by omega, decide_true, Bool.true_and]
    cases (cF C).testBit q <;> cases S.testBit q <;> cases (2 ^ h).testBit q <;> rfl) zc
  obtain ⟨v, s3, b1, b2, b3, b4, b5⟩ := z_together wt het w.2.1 w.2.2.1 a3 a4
  have hcs := zc.2.2.2.2.2.2.1 _ het
  have hv : v = ar C (2 ^ h) (dn (dn (cF C) S) (2 ^ h)) := by
    refine ar_one wc he10 (p2_lt hh) b2 (fun x hx => ?_)
    rw [b3 x hx]
    unfold cn
    rw [decide_eq_true_eq]
    have ge := ct_ge (z := z) (x := x) (B := bq C (2 ^ h) (dn (dn (cF C) S) (2 ^ h)) x) w1 hcs (fun o ho hb => by have := (a6 o ho x (by omega)).mpr hb; omega)
    have le := ct_le (C := C) (T := T) (z := z) (h := ce C) (x := x) (B := bq C (2 ^ h) (dn (dn (cF C) S) (2 ^ h)) x) w1 (fun o ho hb => (a6 o ho x (by omega)).mp (by omega))
    omega
  refine ⟨s3, ?_, b4⟩
  unfold s_Z_alarmBy
  rw [p2 (by omega), show (1 : Int32) = nI 1 from rfl, a1, e_bd, fa_or, a2, e_bd, z_earK wt zk a3, e_bd, b1, e_b2]
  unfold vlC al
  rw [← hv]
  by_cases hc : v < 1000000
  · rw [if_neg (fun q => by rw [i_eq 1000000, nI_toInt (by omega)] at q; omega), z_earK wt zk b4, e_bd, z_takes wt b4 het, e_bd, nI_add, pk_sub (by omega), if_pos hc]
  · rw [if_pos (by rw [i_eq 1000000, nI_toInt (by omega)]; omega), if_neg hc]
    rfl
/-! the latest -/
def wJ (v : Nat) : Int32 := if v = 0 then -1 else nI v
theorem wJ_le {v w : Nat} (hv : 1 ≤ v) (hv2 : v ≤ 1000000) (hw : w ≤ 1000000) : nI v ≤ wJ w ↔ v ≤ w := by
  unfold wJ
  by_cases h : w = 0
  · rw [if_pos h, i_le (-1), nI_toInt (by omega)]; omega
  · rw [if_neg h, fa_le, nI_toInt (by omega), nI_toInt (by omega)]; omega
theorem wJ_ge {w : Nat} (hw : w ≤ 1000000) : 0 ≤ wJ w ↔ w ≠ 0 := by
  unfold wJ
  by_cases h : w = 0
  · rw [if_pos h]; simp [h]
  · rw [if_neg h, i_ge 0, nI_toInt (by omega)]; omega
theorem z_l59 {T : tN} {C : tC} (wt : wT T) (zk : ZK T C) {b h : Nat} (hb : b ≤ 10) (hh : h < tn T) (hH : (cH C).testBit h = true) (k4 : Int32 → Int32 → Int32 → jm_M → Option (Int32 × jm_M)) (x1 : Int32) : ∀ (k n R w : Nat) (s : jm_M), R + k = dn (cF C) (2 ^ h) + 1 → k < n → ZC s T C → w ≤ 1000000 → (∀ g Q, prC C b g Q → g < h ∨ (g = h ∧ Q < R) → vlC C g Q ≤ w) → (w = 0 ∨ ∃ g Q, prC C b g Q ∧ vlC C g Q = w) → ∃ s' w', s_Z_latest_L59 k4 n x1 (wJ w) (nI h) (nI (dn (cF C) (2 ^ h))) (nI (min b (bcn (cF C) - 1))) (nI R) s = k4 x1 (wJ w') (nI (h + 1)) s' ∧ ZC s' T C ∧ w' ≤ 1000000 ∧ (∀ g Q, prC C b g Q → g < h + 1 → vlC C g Q ≤ w') ∧ (w' = 0 ∨ ∃ g Q, prC C b g Q ∧ vlC C g Q = w') := by
  have w1 := wt.1
  have hdl := @dn_lt (cF C) (2 ^ h)
  have hbF := bcn_le (cF C)
  have hsub : ∀ Q, sbs Q (dn (cF C) (2 ^ h)) ↔ sbs Q (cF C) ∧ Q.testBit h = false := fun Q => by
    constructor
    · intro hq
      refine ⟨sbs_tr hq dn_sub, ?_⟩
      cases hb : Q.testBit h with
      | false => rfl
      | true =>
        have := hq h hb
        rw [dn_bit, Nat.testBit_two_pow] at this
        simp at this
    · rintro ⟨h1, h2⟩ i hi
      have hF := h1 i hi
      have : ¬ h = i := fun e => by rw [← e, h2] at hi; cases hi
      rw [dn_bit, hF, Nat.testBit_two_pow]
      simp [bit_lt zk.1.2.1 hF, this]
  intro k
  induction k with
  | zero =>
    intro n R w s hR hn zc hw h1 h2
    obtain ⟨n, rfl⟩ : ∃ q, n = q + 1 := ⟨n - 1, by omega⟩
    rw [s_Z_latest_L59, if_pos (by rw [fa_lt, nI_toInt (by omega), nI_toInt (by omega)]; omega), nI_1]
    refine ⟨s, w, rfl, zc, hw, fun g Q hp hg => h1 g Q hp ?_, h2⟩
    by_cases e : g = h
    · right
      subst e
      have := sbs_le ((hsub Q).mpr ⟨hp.2.1, hp.2.2.1⟩)
      omega
    · left; omega
  | succ k ih =>
    intro n R w s hR hn zc hw h1 h2
    obtain ⟨n, rfl⟩ : ∃ q, n = q + 1 := ⟨n - 1, by omega⟩
    have hR2 : R < 1024 := by omega
    have hbl := bcn_le R
    have skip : ¬ prC C b h R → ∃ s' w', s_Z_latest_L59 k4 n x1 (wJ w) (nI h) (nI (dn (cF C) (2 ^ h))) (nI (min b (bcn (cF C) - 1))) (nI (R + 1)) s = k4 x1 (wJ w') (nI (h + 1)) s' ∧ ZC s' T C ∧ w' ≤ 1000000 ∧ (∀ g Q, prC C b g Q → g < h + 1 → vlC C g Q ≤ w') ∧ (w' = 0 ∨ ∃ g Q, prC C b g Q ∧ vlC C g Q = w') := fun hnp => ih n (R + 1) w s (by omega) (by omega) zc hw (fun g Q hp hg => by
      by_cases e : g = h ∧ Q = R
      · obtain ⟨rfl, rfl⟩ := e; exact absurd hp hnp
      · exact h1 g Q hp (by omega)) h2
    rw [s_Z_latest_L59, if_neg (fun q => by rw [fa_lt, nI_toInt (by omega), nI_toInt (by omega)] at q; omega), nI_1]
    by_cases hs : sbs R (dn (cF C) (2 ^ h))
    · rw [if_pos ((andn0 hR2 hdl).mpr hs), z_bits s hR2, e_bd]
      by_cases hc : bcn R = min b (bcn (cF C) - 1)
      · rw [if_pos (by rw [hc])]
        have hp : prC C b h R := ⟨hH, ((hsub R).mp hs).1, ((hsub R).mp hs).2, hc⟩
        obtain ⟨s1, a1, a2⟩ := z_alarmBy wt zk zc (h := h) (S := R) (by omega) hR2
        rw [a1, e_b2]
        have hv := vl_bd zk.1 (h := h) (S := R) (by omega)
        by_cases hle : vlC C h R ≤ w
        · rw [if_pos ((wJ_le (by omega) (by omega) hw).mpr hle)]
          exact ih n (R + 1) w s1 (by omega) (by omega) a2 hw (fun g Q hp hg => by
            by_cases e : g = h ∧ Q = R
            · obtain ⟨rfl, rfl⟩ := e; exact hle
            · exact h1 g Q hp (by omega)) h2
        · rw [if_neg (fun q => hle ((wJ_le (by omega) (by omega) hw).mp q))]
          have e : nI (vlC C h R) = wJ (vlC C h R) := by rw [wJ, if_neg (by omega)]
          rw [e]
          exact ih n (R + 1) (vlC C h R) s1 (by omega) (by omega) a2 (by omega) (fun g Q hp hg => by
            by_cases e : g = h ∧ Q = R
            · obtain ⟨rfl, rfl⟩ := e; exact Nat.le_refl _
            · have := h1 g Q hp (by omega)
              omega) (Or.inr ⟨h, R, hp, rfl⟩)
      · rw [if_neg (fun q => hc ((nI_eq (by omega) (by omega)).mp q))]
        exact skip (fun hp => hc hp.2.2.2)
    · rw [if_neg (fun q => hs ((andn0 hR2 hdl).mp q))]
      exact skip (fun hp => hs ((hsub R).mpr ⟨hp.2.1, hp.2.2.1⟩))
theorem z_latest {s : jm_M} {T : tN} {C : tC} (wt : wT T) (zk : ZK T C) (zc : ZC s T C) {b : Nat} (hb : b ≤ 10) : ∃ L s', s_Z_latest s (nI b) = some (nI L, s') ∧ isL C b L ∧ ZC s' T C := by
  have w1 := wt.1
  have hF := zk.1.2.1
  have hbF := bcn_le (cF C)
  have hHb : ∀ h, (cH C).testBit h = true ↔ h < tn T ∧ tk T h = 1 := fun h => by
    rw [zk.2.2.2, kS_bit, kB]
    simp only [Bool.and_eq_true, decide_eq_true_eq]
    omega
  have H : ∀ (k n h w : Nat) (s : jm_M), h + k = tn T → k < n → ZC s T C → w ≤ 1000000 → (∀ g Q, prC C b g Q → g < h → vlC C g Q ≤ w) → (w = 0 ∨ ∃ g Q, prC C b g Q ∧ vlC C g Q = w) → ∃ L s', s_Z_latest_L4 n (nI b) (wJ w) (nI h) s = some (nI L, s') ∧ isL C b L := by
    intro k
    induction k with
    | zero =>
      intro n h w s hh hn zc hw h1 h2
      obtain ⟨n, rfl⟩ : ∃ q, n = q + 1 := ⟨n - 1, by omega⟩
      rw [s_Z_latest_L4, e_ldiq (j := 0) 0 rfl (by decide) (by decide), zc.1, if_pos (nI_le (by omega) (by omega))]
      have hall : ∀ g Q, prC C b g Q → vlC C g Q ≤ w := fun g Q hp => h1 g Q hp (by have := ((hHb g).mp hp.1).1; omega)
      by_cases h0 : w = 0
      · rw [if_neg (fun q => (wJ_ge hw).mp q h0)]
        refine ⟨1000000, s, rfl, Or.inl ⟨fun g Q hp => ?_, rfl⟩⟩
        have := hall g Q hp
        have := vl_bd zk.1 (S := Q) (pr_h zk.1 hp).1
        omega
      · rw [if_pos ((wJ_ge hw).mpr h0)]
        rcases h2 with h2 | ⟨g, Q, h3, h4⟩
        · exact absurd h2 h0
        · exact ⟨w, s, by rw [wJ, if_neg h0], Or.inr ⟨hall, g, Q, h3, h4⟩⟩
    | succ k ih =>
      intro n h w s hh hn zc hw h1 h2
      obtain ⟨n, rfl⟩ : ∃ q, n = q + 1 := ⟨n - 1, by omega⟩
      have hk3 := (wt.2.1 h (by omega)).1
      rw [s_Z_latest_L4, e_ldiq (j := 0) 0 rfl (by decide) (by decide), zc.1, if_neg (nI_ge (by omega) (by omega)), e_ldi (by omega) (by decide), (zc.2.1 h (by omega)).1]
      by_cases hk : tk T h = 1
      · have hH : (cH C).testBit h = true := (hHb h).mpr ⟨by omega, hk⟩
        have hFh := zk.1.2.2.1 h hH
        have hdel := bcn_del (show h < 10 by omega) hFh
        have hdl := @dn_lt (cF C) (2 ^ h)
        rw [if_pos (by rw [hk]; rfl), z_men wt zc, e_bd, e_vi, p2 (by omega), andn hF (p2_lt (by omega)), z_bits s dn_lt, e_bd]
        have hw' : ∀ g Q, prC C b g Q → g < h ∨ (g = h ∧ Q < 0) → vlC C g Q ≤ w := fun g Q hp hg => h1 g Q hp (by omega)
        obtain ⟨s', w', a1, a2, a3, a4, a5⟩ := z_l59 wt zk hb (by omega) hH (s_Z_latest_L4 n) (nI b) (dn (cF C) (2 ^ h) + 1) 5000 0 w s (by omega) (by omega) zc hw hw' h2
        have a1' : s_Z_latest_L59 (s_Z_latest_L4 n) 5000 (nI b) (wJ w) (nI h) (nI (dn (cF C) (2 ^ h))) (nI (min b (bcn (cF C) - 1))) 0 s = s_Z_latest_L4 n (nI b) (wJ w') (nI (h + 1)) s' := a1
        by_cases hle : bcn (dn (cF C) (2 ^ h)) ≤ b
        · rw [if_pos (nI_le hle (by omega)), e_bd, show bcn (dn (cF C) (2 ^ h)) = min b (bcn (cF C) - 1) by omega, a1']
          exact ih n (h + 1) w' s' (by omega) (by omega) a2 a3 a4 a5
        · rw [if_neg (nI_ge (by omega) (by omega))]
          have e : nI b = nI (min b (bcn (cF C) - 1)) := by rw [show min b (bcn (cF C) - 1) = b by omega]
          rw [← e] at a1'
          rw [a1']
          exact ih n (h + 1) w' s' (by omega) (by omega) a2 a3 a4 a5
      · rw [if_neg (fun q => hk ((nI_eq (by omega) (by omega)).mp (q.trans (show (1 : Int32) = nI 1 from rfl)))), nI_1]
        exact ih n (h + 1) w s (by omega) (by omega) zc hw (fun g Q hp hg => h1 g Q hp (by
          have := ((hHb g).mp hp.1)
          have : g ≠ h := fun e => by rw [e] at this; exact hk this.2
          omega)) h2
  obtain ⟨L, s', h1, h2⟩ := H (tn T) 5000 0 0 s (by omega) (by omega) zc (by decide) (fun g Q _ hg => by omega) (Or.inl rfl)
  exact ⟨L, s', h1, h2, ZC_fr zc (s_Z_latest_fr s (nI b) _ h1)⟩
