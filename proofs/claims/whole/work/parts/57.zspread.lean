/-! the model's fires spread -/
theorem ct_le {T : tN} {C : tC} {z : Nat → Nat} {h x B : Nat} (hn : tn T ≤ 10) (hb : ∀ o, o < tn T → z o ≤ x → B.testBit o = true) : fb_ct (seC C z h x) (tn T) ≤ bcn (cs C h &&& B) := by
  refine Nat.le_trans (fb_ct_sub (q := fun i => (cs C h &&& B).testBit i) (fun k hk hk2 => ?_)) (fb_ct_mono _ hn)
  unfold seC at hk2
  rw [Bool.and_eq_true, decide_eq_true_eq] at hk2
  show (cs C h &&& B).testBit k = true
  rw [Nat.testBit_and, hk2.1, hb k hk hk2.2]
  rfl
theorem ct_ge {T : tN} {C : tC} {z : Nat → Nat} {h x B : Nat} (hn : tn T ≤ 10) (hc : cs C h < 2 ^ tn T) (hb : ∀ o, o < tn T → B.testBit o = true → z o ≤ x) : bcn (cs C h &&& B) ≤ fb_ct (seC C z h x) (tn T) := by
  unfold bcn
  rw [ct_up hn (fun i h1 _ => by
    show (cs C h &&& B).testBit i = false
    rw [Nat.testBit_and, Nat.testBit_lt_two_pow (Nat.lt_of_lt_of_le hc (Nat.pow_le_pow_right (by decide) h1))]
    rfl)]
  refine fb_ct_sub (fun k hk hk2 => ?_)
  have hk2 : (cs C h &&& B).testBit k = true := hk2
  rw [Nat.testBit_and, Bool.and_eq_true] at hk2
  unfold seC
  rw [hk2.1, Bool.true_and, decide_eq_true_eq]
  exact hb k hk hk2.2
def may (C : tC) (S h : Nat) : Bool := (cF C).testBit h && !S.testBit h
theorem z_step {T : tN} {C : tC} (wt : wT T) (wc : wC C) {S h : Nat} (hS : S < 1024) (hh : h < tn T) (k2 : Int32 → Int32 → jm_M → Option jm_M) {z : Nat → Nat} {s : jm_M} (zc : ZC s T C) (hz : zS s T z) (mv : Bool) (n : Nat) : ∃ s' z' mv', s_Z_spread_L10 k2 (n + 1) (nI S) (oI mv) (nI h) s = s_Z_spread_L10 k2 n (nI S) (oI mv') (nI (h + 1)) s' ∧ ZC s' T C ∧ zS s' T z' ∧ (∀ q, q ≠ h → z' q = z q) ∧ z' h ≤ z h ∧ (may C S h = true → ∀ x, x < 1000000 → cd C h ≤ fb_ct (seC C z h x) (tn T) → z' h ≤ x + cp C h) ∧ ((mv' = mv ∧ z' = z) ∨ (mv' = true ∧ z' h < z h ∧ may C S h = true ∧ ∃ v, v < 1000000 ∧ z' h = v + cp C h ∧ cd C h ≤ fb_ct (seC C z h v) (tn T))) := by
  have w1 := wt.1
  have w := wc h (by omega)
  obtain ⟨M, M1, M2, M3'⟩ := zc.2.2.2.2.1
  have M3 : ∀ h, h < tn T → (cF C).testBit h = (M.testBit h && !decide (tk T h = 2)) := fun h hh => by rw [M3', kB]; simp [hh]
  have hk := zc.2.1 h hh
  have hk3 := (wt.2.1 h hh).1
  have E : s_Z_spread_L10 k2 (n + 1) (nI S) (oI mv) (nI h) s = s_Z_spread_J54 k2 (s_Z_spread_L10 k2 n) (nI S) (oI mv) (nI h) (oI (may C S h)) s := by
    rw [s_Z_spread_L10, e_ldiq (j := 0) 0 rfl (by decide) (by decide), zc.1, if_neg (nI_ge hh (by omega)), M2, z_hasO s (by omega) (by omega), e_bd]
    unfold may
    rw [M3 h hh]
    cases hM : M.testBit h with
    | false => rw [oI_f, if_pos rfl]; rfl
    | true =>
      rw [oI_t, if_neg e10, e_ldi (by omega) (by decide), hk.1, Bool.true_and]
      by_cases h2 : tk T h = 2
      · rw [if_pos (by rw [h2]; rfl), h2]; rfl
      · rw [if_neg (fun q => h2 ((nI_eq (by omega) (by omega)).mp (q.trans (show (2 : Int32) = nI 2 from rfl)))), z_hasO s (by omega) (by omega), e_bd, show decide (tk T h = 2) = false by simp [h2]]
        cases hb : S.testBit h with
        | false => rw [oI_f, if_pos rfl]; rfl
        | true => rw [oI_t, if_neg e10]; rfl
  rw [E]
  unfold s_Z_spread_J54
  have stay : ∀ s', ZC s' T C → zS s' T z → (may C S h = true → ∀ x, x < 1000000 → cd C h ≤ fb_ct (seC C z h x) (tn T) → z h ≤ x + cp C h) → ∃ s'' z' mv', s_Z_spread_L10 k2 n (nI S) (oI mv) (nI h + 1) s' = s_Z_spread_L10 k2 n (nI S) (oI mv') (nI (h + 1)) s'' ∧ ZC s'' T C ∧ zS s'' T z' ∧ (∀ q, q ≠ h → z' q = z q) ∧ z' h ≤ z h ∧ (may C S h = true → ∀ x, x < 1000000 → cd C h ≤ fb_ct (seC C z h x) (tn T) → z' h ≤ x + cp C h) ∧ ((mv' = mv ∧ z' = z) ∨ (mv' = true ∧ z' h < z h ∧ may C S h = true ∧ ∃ v, v < 1000000 ∧ z' h = v + cp C h ∧ cd C h ≤ fb_ct (seC C z h v) (tn T))) := fun s' a1 a2 a3 => ⟨s', z, mv, by rw [nI_1], a1, a2, fun _ _ => rfl, Nat.le_refl _, a3, Or.inl ⟨rfl, rfl⟩⟩
  cases hm : may C S h with
  | false =>
    rw [oI_f, if_pos rfl]
    unfold s_Z_spread_J71
    rw [if_pos (by decide)]
    rw [hm] at stay
    exact stay s zc hz (fun h => by cases h)
  | true =>
    rw [oI_t, if_neg e10]
    obtain ⟨v, s1, h1, h2, h3, h4, h5⟩ := z_together wt hh w.2.1 w.2.2.1 zc hz
    obtain ⟨z1, z2⟩ := h5 h hh
    rw [h1, e_b2]
    unfold s_Z_spread_J71
    rw [hm] at stay
    by_cases hv : v < 1000000
    · rw [if_neg (fun q => by rw [i_ge 1000000, nI_toInt (by omega)] at q; omega), z_takes wt h4 hh, e_bd, e_ldi (by omega) (by decide), z1, nI_add]
      by_cases hle : z h ≤ v + cp C h
      · rw [if_pos (nI_le hle (by omega))]
        refine stay s1 h4 h5 (fun _ x hx hc => ?_)
        have := (h3 x hx).mpr hc
        omega
      · rw [if_neg (nI_ge (by omega) (by omega)), e_bd, e_sti (by omega) (by decide), nI_1, nI_add]
        refine ⟨_, fun q => if q = h then v + cp C h else z q, true, rfl, ZC_same h4 (fun c k hc => by rw [e_sio (by omega)]), fun o ho => ?_, fun q hq => by simp only [if_neg hq], ?_, fun _ x hx hc => ?_, Or.inr ⟨rfl, ?_, rfl, v, hv, by simp only [if_true], (h3 v hv).mp (Nat.le_refl _)⟩⟩
        · by_cases hoh : o = h
          · subst hoh
            rw [e_si]
            simp only [if_true]
            exact ⟨trivial, by omega⟩
          · rw [e_sio (by omega)]
            simp only [if_neg hoh]
            exact h5 o ho
        · simp only [if_true]; omega
        · simp only [if_true]
          have := (h3 x hx).mpr hc
          omega
        · simp only [if_true]; omega
    · rw [if_pos (by rw [i_ge 1000000, nI_toInt (by omega)]; omega)]
      refine stay s1 h4 h5 (fun _ x hx hc => ?_)
      have := (h3 x hx).mpr hc
      omega
/-! what stays true -/
def zR (T : tN) (m0 : Nat) (z : Nat → Nat) : Prop := ∀ h, h < tn T → m0 ≤ z h ∧ z h ≤ 1000000
def zSn (T : tN) (C : tC) (A W m0 : Nat) (z : Nat → Nat) : Prop := ∀ h, h < tn T → z h < 1000000 → (bq C A W (z h + 1 - m0)).testBit h = true
def zCm (T : tN) (C : tC) (A W m0 j : Nat) (z : Nat → Nat) : Prop := ∀ h, h < tn T → ∀ t, t ≤ j → (bq C A W t).testBit h = true → z h + 1 ≤ m0 + t
def zCl (T : tN) (C : tC) (S : Nat) (z : Nat → Nat) (i : Nat) : Prop := ∀ h, h < i → may C S h = true → ∀ x, x < 1000000 → cd C h ≤ fb_ct (seC C z h x) (tn T) → z h ≤ x + cp C h
theorem z_pass {T : tN} {C : tC} (wt : wT T) (wc : wC C) (hcs : ∀ h, h < tn T → cs C h < 2 ^ tn T) {A W S m0 j : Nat} (hS : S < 1024) (hm0 : m0 ≤ 1) (hj1 : 1 ≤ j) (hj2 : j ≤ 200) (hW : ∀ h, h < tn T → W.testBit h = (may C S h && !A.testBit h)) (k2 : Int32 → Int32 → jm_M → Option jm_M) {z0 : Nat → Nat} (h0 : zCm T C A W m0 j z0) : ∀ (k n i : Nat) (z : Nat → Nat) (mv : Bool) (s : jm_M), i + k = tn T → k < n → ZC s T C → zS s T z → zR T m0 z → zSn T C A W m0 z → (∀ h, h < tn T → z h ≤ z0 h) → (∀ h, h < i → (bq C A W (j + 1)).testBit h = true → z h + 1 ≤ m0 + (j + 1)) → (mv = false → (∀ h, h < tn T → z h = z0 h) ∧ zCl T C S z0 i) → (mv = true → ∃ h, h < tn T ∧ z h < z0 h) → ∃ s' z' mv', s_Z_spread_L10 k2 n (nI S) (oI mv) (nI i) s = k2 (nI S) (oI mv') s' ∧ ZC s' T C ∧ zS s' T z' ∧ zR T m0 z' ∧ zSn T C A W m0 z' ∧ (∀ h, h < tn T → z' h ≤ z0 h) ∧ (∀ h, h < tn T → (bq C A W (j + 1)).testBit h = true → z' h + 1 ≤ m0 + (j + 1)) ∧ (mv' = false → (∀ h, h < tn T → z' h = z0 h) ∧ zCl T C S z0 (tn T)) ∧ (mv' = true → ∃ h, h < tn T ∧ z' h < z0 h) := by
  have w1 := wt.1
  intro k
  induction k with
  | zero =>
    intro n i z mv s hi hn zc hz hr hsn hle hcm hm1 hm2
    obtain ⟨n, rfl⟩ : ∃ q, n = q + 1 := ⟨n - 1, by omega⟩
    have hit : i = tn T := by omega
    rw [hit] at hcm hm1
    rw [s_Z_spread_L10, e_ldiq (j := 0) 0 rfl (by decide) (by decide), zc.1, if_pos (nI_le (by omega) (by omega))]
    exact ⟨s, z, mv, rfl, zc, hz, hr, hsn, hle, hcm, hm1, hm2⟩
  | succ k ih =>
    intro n i z mv s hi hn zc hz hr hsn hle hcm hm1 hm2
    obtain ⟨n, rfl⟩ : ∃ q, n = q + 1 := ⟨n - 1, by omega⟩
    have hin : i < tn T := by omega
    have w := wc i (by omega)
    obtain ⟨s', z', mv', a1, a2, a3, a4, a5, a6, a7⟩ := z_step wt wc hS hin k2 zc hz mv n
    rw [a1]
    have le1 : ∀ h, h < tn T → z' h ≤ z h := fun h hh => by
      by_cases e : h = i
      · rw [e]; exact a5
      · rw [a4 h e]; exact Nat.le_refl _
    have hmin : ∀ v, cd C i ≤ fb_ct (seC C z i v) (tn T) → m0 ≤ v := fun v hc => by
      have hp : 0 < fb_ct (seC C z i v) (tn T) := by omega
      obtain ⟨o, o1, o2⟩ := fb_ct_pos.mp hp
      unfold seC at o2
      rw [Bool.and_eq_true, decide_eq_true_eq] at o2
      have := (hr o o1).1
      omega
    refine ih n (i + 1) z' mv' s' (by omega) (by omega) a2 a3 (fun h hh => ?_) (fun h hh hz2 => ?_) (fun h hh => Nat.le_trans (le1 h hh) (hle h hh)) (fun h hh hb => ?_) (fun hf => ?_) (fun ht => ?_)
    · by_cases e : h = i
      · rcases a7 with ⟨b1, b2⟩ | ⟨b1, b2, b3, v, b4, b5, b6⟩
        · rw [b2]; exact hr h hh
        · rw [e]
          have := hmin v b6
          have := (hr i hin).2
          omega
      · rw [a4 h e]; exact hr h hh
    · by_cases e : h = i
      · rcases a7 with ⟨b1, b2⟩ | ⟨b1, b2, b3, v, b4, b5, b6⟩
        · rw [b2] at hz2 ⊢; exact hsn h hh hz2
        · subst e
          have hmv := hmin v b6
          have hnA : A.testBit h = false := by
            cases hA : A.testBit h with
            | false => rfl
            | true =>
              have q1 := h0 h hin 1 hj1 (by rw [bq_1]; exact hA)
              have q2 := hle h hin
              omega
          have hcn : cn C h (bq C A W (v + 1 - m0)) = true := by
            unfold cn
            rw [decide_eq_true_eq]
            refine Nat.le_trans b6 (ct_le w1 (fun o ho hov => ?_))
            exact bq_mono A W wc (by omega) o (hsn o ho (by omega))
          rw [b5, show v + cp C h + 1 - m0 = (v + cp C h - m0) + 1 by omega, bq_s A W wc (by omega), show v + cp C h - m0 + 1 - cp C h = v + 1 - m0 by omega, hcn, hW h hin, b3, hnA]
          simp only [show h < 10 by omega, show cp C h ≤ v + cp C h - m0 by omega, decide_true, Bool.not_false, Bool.and_self, Bool.or_true]
      · rw [a4 h e] at hz2 ⊢; exact hsn h hh hz2
    · by_cases e : h = i
      · subst e
        rw [bq_s A W wc hj1, Bool.or_eq_true] at hb
        rcases hb with hb | hb
        · have := h0 h hin j (Nat.le_refl _) hb
          have := hle h hin
          omega
        · simp only [Bool.and_eq_true, decide_eq_true_eq] at hb
          obtain ⟨-, g2, g3, g4⟩ := hb
          rw [hW h hin, Bool.and_eq_true] at g2
          unfold cn at g4
          rw [decide_eq_true_eq] at g4
          have := a6 g2.1 (m0 + j - cp C h) (by omega) (Nat.le_trans g4 (ct_ge w1 (hcs h hin) (fun o ho hob => by
            have q1 := h0 o ho (j + 1 - cp C h) (by omega) hob
            have q2 := hle o ho
            omega)))
          omega
      · have := hcm h (by omega) hb
        rw [a4 h e]
        exact this
    · rcases a7 with ⟨b1, b2⟩ | ⟨b1, -⟩
      · rw [b1] at hf
        obtain ⟨c1, c2⟩ := hm1 hf
        rw [b2]
        refine ⟨c1, fun h hh hmy x hx hc => ?_⟩
        by_cases e : h = i
        · subst e
          have e1 : fb_ct (seC C z0 h x) (tn T) = fb_ct (seC C z h x) (tn T) := fb_ct_cong (fun o ho => by unfold seC; rw [c1 o ho])
          rw [e1] at hc
          have := a6 hmy x hx hc
          rw [b2, c1 h hin] at this
          exact this
        · exact c2 h (by omega) hmy x hx hc
      · rw [b1] at hf; cases hf
    · rcases a7 with ⟨b1, b2⟩ | ⟨b1, b2, -⟩
      · rw [b1] at ht
        rw [b2]
        exact hm2 ht
      · exact ⟨i, hin, Nat.lt_of_lt_of_le b2 (hle i hin)⟩
theorem zCm_all {T : tN} {C : tC} (wc : wC C) {A W m0 j : Nat} (hA : A < 1024) (hj : 91 ≤ j) {z : Nat → Nat} (h : zCm T C A W m0 j z) : ∀ t, zCm T C A W m0 t z := by
  intro t q hq u hu hb
  by_cases hc : u ≤ 91
  · exact h q hq u (by omega) hb
  · rw [bq_fin wc hA (by omega)] at hb
    have := h q hq 91 hj hb
    omega
theorem zCm_cl {T : tN} {C : tC} (wt : wT T) (wc : wC C) (hcs : ∀ h, h < tn T → cs C h < 2 ^ tn T) {A W S m0 : Nat} (hm0 : m0 ≤ 1) (hW : ∀ h, h < tn T → W.testBit h = (may C S h && !A.testBit h)) {z : Nat → Nat} (h1 : zCm T C A W m0 1 z) (hcl : zCl T C S z (tn T)) : ∀ t, t ≤ 91 → ∀ h, h < tn T → (bq C A W t).testBit h = true → z h + 1 ≤ m0 + t := by
  have w1 := wt.1
  intro t
  induction t using Nat.strongRecOn with
  | ind t ih =>
    match t, ih with
    | 0, _ => intro _ h hh hb; rw [bq_0] at hb; simp at hb
    | 1, _ => intro _ h hh hb; exact h1 h hh 1 (Nat.le_refl _) hb
    | t + 2, ih =>
      intro ht h hh hb
      have w := wc h (by omega)
      rw [bq_s A W wc (by omega), Bool.or_eq_true] at hb
      rcases hb with hb | hb
      · have := ih (t + 1) (by omega) (by omega) h hh hb
        omega
      · simp only [Bool.and_eq_true, decide_eq_true_eq] at hb
        obtain ⟨-, g2, g3, g4⟩ := hb
        rw [hW h hh, Bool.and_eq_true] at g2
        unfold cn at g4
        rw [decide_eq_true_eq] at g4
        have := hcl h hh g2.1 (m0 + (t + 1) - cp C h) (by omega) (Nat.le_trans g4 (ct_ge w1 (hcs h hh) (fun o ho hob => by
          have := ih (t + 1 + 1 - cp C h) (by omega) (by omega) o ho hob
          omega)))
        omega
theorem z_sp2 {T : tN} {C : tC} (wt : wT T) (wc : wC C) {A W S m0 : Nat} (hA : A < 1024) (hS : S < 1024) (hm0 : m0 ≤ 1) (hW : ∀ h, h < tn T → W.testBit h = (may C S h && !A.testBit h)) : ∀ (k n j : Nat) (z : Nat → Nat) (s : jm_M), j + k = 100 → k + 1 < n → 1 ≤ j → ZC s T C → zS s T z → zR T m0 z → zSn T C A W m0 z → zCm T C A W m0 j z → ∃ s' z', s_Z_spread_L2 n (nI S) 1 s = some s' ∧ ZC s' T C ∧ zS s' T z' ∧ zR T m0 z' ∧ zSn T C A W m0 z' ∧ ∀ t, zCm T C A W m0 t z' := by
  intro k
  induction k with
  | zero =>
    intro n j z s hj hn hj1 zc hz hr hsn hcm
    obtain ⟨n, rfl⟩ : ∃ q, n = q + 2 := ⟨n - 2, by omega⟩
    have hcs := zc.2.2.2.2.2.2.1
    rw [s_Z_spread_L2, if_neg e10]
    obtain ⟨s', z', mv', a1, a2, a3, a4, a5, a6, a7, a8, a9⟩ := z_pass wt wc hcs hS hm0 hj1 (by omega) hW (s_Z_spread_L2 (n + 1)) hcm (tn T) 5000 0 z false s (by omega) (by have := wt.1; omega) zc hz hr hsn (fun _ _ => Nat.le_refl _) (fun h hh => by omega) (fun _ => ⟨fun _ _ => rfl, fun h hh => by omega⟩) (fun h => by cases h)
    have a1' : s_Z_spread_L10 (s_Z_spread_L2 (n + 1)) 5000 (nI S) 0 0 s = s_Z_spread_L2 (n + 1) (nI S) (oI mv') s' := a1
    rw [a1']
    cases hm : mv' with
    | false =>
      rw [oI_f, s_Z_spread_L2, if_pos rfl]
      obtain ⟨b1, b2⟩ := a8 hm
      refine ⟨s', z', rfl, a2, a3, a4, a5, fun t h hh u hu hb => ?_⟩
      rw [b1 h hh]
      exact zCm_all wc hA (by omega) hcm t h hh u hu hb
    | true =>
      exfalso
      obtain ⟨h, hh, hlt⟩ := a9 hm
      have := (hr h hh).2
      have hb := a5 h hh (by omega)
      have := zCm_all wc hA (by omega) hcm _ h hh _ (Nat.le_refl _) hb
      have := (a4 h hh).1
      omega
  | succ k ih =>
    intro n j z s hj hn hj1 zc hz hr hsn hcm
    obtain ⟨n, rfl⟩ : ∃ q, n = q + 2 := ⟨n - 2, by omega⟩
    have hcs := zc.2.2.2.2.2.2.1
    rw [s_Z_spread_L2, if_neg e10]
    obtain ⟨s', z', mv', a1, a2, a3, a4, a5, a6, a7, a8, a9⟩ := z_pass wt wc hcs hS hm0 hj1 (by omega) hW (s_Z_spread_L2 (n + 1)) hcm (tn T) 5000 0 z false s (by omega) (by have := wt.1; omega) zc hz hr hsn (fun _ _ => Nat.le_refl _) (fun h hh => by omega) (fun _ => ⟨fun _ _ => rfl, fun h hh => by omega⟩) (fun h => by cases h)
    have a1' : s_Z_spread_L10 (s_Z_spread_L2 (n + 1)) 5000 (nI S) 0 0 s = s_Z_spread_L2 (n + 1) (nI S) (oI mv') s' := a1
    rw [a1']
    cases hm : mv' with
    | false =>
      rw [oI_f, s_Z_spread_L2, if_pos rfl]
      obtain ⟨b1, b2⟩ := a8 hm
      refine ⟨s', z', rfl, a2, a3, a4, a5, fun t h hh u hu hb => ?_⟩
      rw [b1 h hh]
      have hc91 : zCm T C A W m0 91 z := fun h hh t ht hb => zCm_cl wt wc hcs hm0 hW (fun h hh t ht hb => hcm h hh t (by omega) hb) b2 t ht h hh hb
      exact zCm_all wc hA (Nat.le_refl _) hc91 t h hh u hu hb
    | true =>
      rw [oI_t]
      refine ih (n + 1) (j + 1) z' s' (by omega) (by omega) (by omega) a2 a3 a4 a5 (fun h hh t ht hb => ?_)
      by_cases htj : t ≤ j
      · have := hcm h hh t htj hb
        have := a6 h hh
        omega
      · rw [show t = j + 1 by omega] at hb ⊢
        exact a7 h hh hb
/-- kindle and spread -/
theorem z_kindle {T : tN} {C : tC} (wt : wT T) {A m0 : Nat} (hA : A < 1024) {s : jm_M} (zc : ZC s T C) : ∃ s', s_Z_kindle s (nI A) (nI m0) = some s' ∧ ZC s' T C ∧ ∀ h, h < tn T → s'.1 76 h = nI (if A.testBit h then m0 else 1000000) := by
  have w1 := wt.1
  have H : ∀ (k n i : Nat) (s : jm_M), i + k = tn T → k < n → ZC s T C → (∀ h, h < i → s.1 76 h = nI (if A.testBit h then m0 else 1000000)) → ∃ s', s_Z_kindle_L2 n (nI A) (nI m0) (nI i) s = some s' ∧ ZC s' T C ∧ ∀ h, h < tn T → s'.1 76 h = nI (if A.testBit h then m0 else 1000000) := by
    intro k
    induction k with
    | zero =>
      intro n i s hi hn zc hz
      obtain ⟨n, rfl⟩ : ∃ q, n = q + 1 := ⟨n - 1, by omega⟩
      rw [s_Z_kindle_L2, e_ldiq (j := 0) 0 rfl (by decide) (by decide), zc.1, if_pos (nI_le (by omega) (by omega))]
      exact ⟨s, rfl, zc, fun h hh => hz h (by omega)⟩
    | succ k ih =>
      intro n i s hi hn zc hz
      obtain ⟨n, rfl⟩ : ∃ q, n = q + 1 := ⟨n - 1, by omega⟩
      have step : ∀ v, v = (if A.testBit i then m0 else 1000000) → ∃ s', s_Z_kindle_J31 (s_Z_kindle_L2 n) (nI A) (nI m0) (nI i) (nI v) (nI i) s = some s' ∧ ZC s' T C ∧ ∀ h, h < tn T → s'.1 76 h = nI (if A.testBit h then m0 else 1000000) := by
        intro v hv
        unfold s_Z_kindle_J31
        rw [e_sti (by omega) (by decide), nI_1]
        refine ih n (i + 1) _ (by omega) (by omega) (ZC_same zc (fun c k hc => by rw [e_sio (by omega)])) (fun h hh => ?_)
        by_cases e : h = i
        · subst e; rw [e_si, hv]
        · rw [e_sio (by omega)]; exact hz h (by omega)
      rw [s_Z_kindle_L2, e_ldiq (j := 0) 0 rfl (by decide) (by decide), zc.1, if_neg (nI_ge (by omega) (by omega)), z_hasO s (by omega) (by omega), e_bd]
      cases hb : A.testBit i with
      | false =>
        rw [oI_f, if_pos rfl]
        exact step 1000000 (by rw [hb]; rfl)
      | true =>
        rw [oI_t, if_neg e10]
        exact step m0 (by rw [hb]; rfl)
  exact H (tn T) 5000 0 s (by omega) (by omega) zc (fun h hh => by omega)
theorem z_fires {T : tN} {C : tC} (wt : wT T) (wc : wC C) {A W S m0 : Nat} (hA : A < 1024) (hS : S < 1024) (hm0 : m0 ≤ 1) (hW : ∀ h, h < tn T → W.testBit h = (may C S h && !A.testBit h)) {s : jm_M} (zc : ZC s T C) : ∃ s1 s' z, s_Z_kindle s (nI A) (nI m0) = some s1 ∧ s_Z_spread s1 (nI S) = some s' ∧ ZC s' T C ∧ zS s' T z ∧ (∀ h, h < tn T → m0 ≤ z h ∧ z h ≤ 1000000) ∧ ∀ h, h < tn T → ∀ t, m0 + t ≤ 1000000 → (z h + 1 ≤ m0 + t ↔ (bq C A W t).testBit h = true) := by
  obtain ⟨s1, a1, a2, a3⟩ := z_kindle (m0 := m0) wt hA zc
  obtain ⟨s', z, b1, b2, b3, b4, b5, b6⟩ := z_sp2 wt wc hA hS hm0 hW 99 5000 1 (fun h => if A.testBit h then m0 else 1000000) s1 rfl (by decide) (Nat.le_refl _) a2 (fun o ho => ⟨a3 o ho, by
    show (if A.testBit o then m0 else 1000000) ≤ 1000000
    split <;> omega⟩) (fun h hh => by
    show m0 ≤ (if A.testBit h then m0 else 1000000) ∧ (if A.testBit h then m0 else 1000000) ≤ 1000000
    split <;> omega) (fun h hh hz => by
    have hz : (if A.testBit h then m0 else 1000000) < 1000000 := hz
    show (bq C A W ((if A.testBit h then m0 else 1000000) + 1 - m0)).testBit h = true
    cases hb : A.testBit h with
    | false => rw [hb] at hz; simp at hz
    | true => simp only [if_true]; rw [show m0 + 1 - m0 = 1 by omega, bq_1]; exact hb) (fun h hh t ht hb => by
    show (if A.testBit h then m0 else 1000000) + 1 ≤ m0 + t
    rcases (show t = 0 ∨ t = 1 by omega) with rfl | rfl
    · rw [bq_0] at hb; simp at hb
    · rw [bq_1] at hb; rw [if_pos hb]; exact Nat.le_refl _)
  refine ⟨s1, s', z, a1, b1, b2, b3, b4, fun h hh t ht => ⟨fun hz => ?_, fun hb => b6 t h hh t (Nat.le_refl _) hb⟩⟩
  have := (b4 h hh).1
  refine bq_mono A W wc (show z h + 1 - m0 ≤ t by omega) h (b5 h hh (by omega))
