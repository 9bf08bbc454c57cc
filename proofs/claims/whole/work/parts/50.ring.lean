/-! the class's council: rings and spreading -/
def XC (s : jm_M) (C : tC) : Prop := s.1 48 3 = nI (cH C) ∧ s.1 48 4 = nI (cF C) ∧ ∀ h, h < 10 → s.1 49 h = nI (cs C h) ∧ s.1 50 h = nI (cd C h) ∧ s.1 51 h = nI (cp C h)
theorem bit1o {m h : Nat} (hm : m < 2147483648) (hh : h < 31) : (nI m >>> (nI h &&& 31)) &&& 1 = oI (m.testBit h) := bit1 hm hh
def rI (C : tC) (m : Nat) : Nat → Nat
  | 0 => m
  | i + 1 => if (cF C).testBit i && cn C i (rI C m i) then rI C m i ||| 2 ^ i else rI C m i
theorem rI_up (C : tC) (m i : Nat) : sbs (rI C m i) (rI C m (i + 1)) := by
  rw [rI]
  split
  · intro q hq
    rw [fb_bit_set, hq, Bool.true_or]
  · exact sbs_rf _
theorem rI_mono (C : tC) (m : Nat) {i j : Nat} (h : i ≤ j) : sbs (rI C m i) (rI C m j) := by
  obtain ⟨d, rfl⟩ : ∃ d, j = i + d := ⟨j - i, by omega⟩
  clear h
  induction d with
  | zero => exact sbs_rf _
  | succ d ih => exact sbs_tr ih (rI_up C m (i + d))
theorem rI_in {C : tC} {m R : Nat} (hm : sbs m R) (hR : clo C R) : ∀ i, i ≤ 10 → sbs (rI C m i) R
  | 0, _ => hm
  | i + 1, hi => by
    have ih := rI_in hm hR i (by omega)
    rw [rI]
    split
    · rename_i hc
      rw [Bool.and_eq_true] at hc
      intro q hq
      rw [fb_bit_set, Bool.or_eq_true, decide_eq_true_eq] at hq
      rcases hq with hq | hq
      · exact ih q hq
      · rw [hq]
        exact hR i (by omega) hc.1 (cn_mono ih hc.2)
    · exact ih
theorem rI_same {C : tC} {m : Nat} (h : rI C m 10 = m) : clo C m := by
  have e : ∀ i, i ≤ 10 → rI C m i = m := fun i hi => by
    have h1 := rI_mono C m hi
    rw [h] at h1
    exact eq_sbs h1 (rI_mono C m (Nat.zero_le i))
  intro q hq hF hc
  have h1 := e (q + 1) (by omega)
  rw [rI, e q (by omega), hF, hc, if_pos (show (true && true) = true from rfl)] at h1
  rw [← h1, fb_bit_set]
  simp
theorem x_ring16 {s : jm_M} {C : tC} (wc : wC C) (hF : cF C < 1024) (xc : XC s C) {m R : Nat} (hm : sbs m R) (hR : clo C R) (hR2 : R < 1024) (k4 : Int32 → Int32 → Option Int32) (x3 : Int32) : s_Co_ring_L16 s k4 5000 (nI m) x3 (nI m) 0 = if rI C m 10 = m then some (nI m) else k4 (nI (rI C m 10)) (x3 + 1) := by
  have hl : ∀ i, i ≤ 10 → rI C m i < 1024 := fun i hi => sbs_lt (rI_in hm hR i hi) hR2
  have hm2 : m < 1024 := hl 0 (by omega)
  refine lp_inv (fun n c (acc : Int32) => s_Co_ring_L16 s k4 n acc x3 (nI m) c) 10 (fun i => nI (rI C m i)) _ (fun n => ?_) (fun n i hi => ?_) 10 5000 0 rfl (by decide)
  · show s_Co_ring_L16 s k4 (n + 1) (nI (rI C m 10)) x3 (nI m) (nI 10) = _
    have := hl 10 (Nat.le_refl _)
    rw [s_Co_ring_L16, if_pos (by decide)]
    by_cases he : rI C m 10 = m
    · rw [if_pos (by rw [he]), if_pos he, he]
    · rw [if_neg (fun z => he ((nI_eq (by omega) (by omega)).mp z)), if_neg he]
  · show s_Co_ring_L16 s k4 (n + 1) (nI (rI C m i)) x3 (nI m) (nI i) = s_Co_ring_L16 s k4 n (nI (rI C m (i + 1))) x3 (nI m) (nI (i + 1))
    obtain ⟨g1, g2, g3⟩ := xc.2.2 i hi
    have w := wc i hi
    have hb : cs C i &&& rI C m i < 1024 := Nat.lt_of_le_of_lt Nat.and_le_left w.1
    rw [s_Co_ring_L16, if_neg (fun z => by rw [i_ge 10, nI_toInt (by omega)] at z; omega), xc.2.1, bit1o (by omega) (by omega), nI_1, rI]
    cases hf : (cF C).testBit i with
    | false => rw [oI_f, if_pos rfl, Bool.false_and, if_neg (by decide)]
    | true =>
      have hbl := bcn_le (cs C i &&& rI C m i)
      rw [oI_t, if_neg e10, e_ldi hi (by decide), g1, fa_and, x_bc s hb, e_bd, e_ldi hi (by decide), g2, Bool.true_and]
      by_cases hc : cd C i ≤ bcn (cs C i &&& rI C m i)
      · rw [if_neg (fun z => by rw [fa_lt, nI_toInt (by omega), nI_toInt (by omega)] at z; omega), e_vi, p2 (by omega), fa_or, if_pos (by unfold cn; rw [decide_eq_true_eq]; exact hc)]
      · rw [if_pos (by rw [fa_lt, nI_toInt (by omega), nI_toInt (by omega)]; omega), if_neg (by unfold cn; rw [decide_eq_true_eq]; exact hc)]
theorem x_ring4 {s : jm_M} {C : tC} (wc : wC C) (hF : cF C < 1024) (xc : XC s C) {A : Nat} (hA : A < 1024) : ∀ (k n m : Nat), k < n → k ≤ 10 → sbs A m → sbs m (rg C A) → 10 - k ≤ bcn m → s_Co_ring_L4 s n (nI m) (nI (10 - k)) = some (nI (rg C A)) := by
  have hR2 : rg C A < 1024 := bq_lt hA _
  have hR : clo C (rg C A) := bq_end wc hA
  intro k
  induction k with
  | zero =>
    intro n m hn _ h1 h2 h3
    obtain ⟨n, rfl⟩ : ∃ q, n = q + 1 := ⟨n - 1, by omega⟩
    rw [s_Co_ring_L4, if_pos (by decide)]
    have hb := bcn_le m
    have hall := fb_ct_all.mp (show fb_ct (fun i => m.testBit i) 10 = 10 by show bcn m = 10; omega)
    rw [eq_sbs h2 (fun i hi => hall i (bit_lt hR2 hi))]
  | succ k ih =>
    intro n m hn hk h1 h2 h3
    obtain ⟨n, rfl⟩ : ∃ q, n = q + 1 := ⟨n - 1, by omega⟩
    rw [s_Co_ring_L4, if_neg (fun z => by rw [i_ge 10, nI_toInt (by omega)] at z; omega), x_ring16 wc hF xc h2 hR hR2]
    have hin := rI_in h2 hR 10 (Nat.le_refl _)
    have hup : sbs m (rI C m 10) := rI_mono C m (Nat.zero_le 10)
    by_cases he : rI C m 10 = m
    · rw [if_pos he]
      have : sbs (rg C A) m := bq_clo wc dn_sub h1 (rI_same he) 91
      rw [eq_sbs h2 this]
    · rw [if_neg he, nI_1, show 10 - (k + 1) + 1 = 10 - k by omega]
      refine ih n _ (by omega) (by omega) (sbs_tr h1 hup) hin ?_
      have : ∃ i, (rI C m 10).testBit i = true ∧ m.testBit i = false := by
        apply Classical.byContradiction
        intro hn
        apply he
        refine eq_sbs (fun i hi => ?_) hup
        cases hb : m.testBit i with
        | true => rfl
        | false => exact absurd ⟨i, hi, hb⟩ hn
      obtain ⟨i, hi1, hi2⟩ := this
      have := bcn_lt hup (bit_lt (sbs_lt hin hR2) hi1) hi2 hi1
      omega
theorem x_ring {s : jm_M} {C : tC} (wc : wC C) (hF : cF C < 1024) (xc : XC s C) {A : Nat} (hA : A < 1024) : s_Co_ring s (nI A) = some (nI (rg C A)) := by
  unfold s_Co_ring
  refine x_ring4 wc hF xc hA 10 5000 A (by decide) (Nat.le_refl _) (sbs_rf A) ?_ (by omega)
  have : sbs (bq C A (dn (cF C) A) 1) (rg C A) := bq_mono A _ wc (by decide)
  rwa [bq_1] at this
theorem x_fooled {s : jm_M} {C : tC} (wk : wK C) (xc : XC s C) (xe : s.1 48 2 = nI (ce C)) {A : Nat} (hA : A < 1024) : s_Co_isFooledBy s (nI A) = some (oI (fo C A)) := by
  unfold s_Co_isFooledBy
  have he := wk.2.2.2.1
  obtain ⟨g1, g2, g3⟩ := xc.2.2 _ he
  have w := wk.1 _ he
  have hb : cs C (ce C) &&& rg C A < 1024 := Nat.lt_of_le_of_lt Nat.and_le_left w.1
  have hbl := bcn_le (cs C (ce C) &&& rg C A)
  rw [xe, if_neg (nI_pos (by omega)), if_pos (by rw [i_lt 10, nI_toInt (by omega)]; omega), e_ldi he (by decide), g1, x_ring wk.1 wk.2.1 xc hA, e_bd, fa_and, x_bc s hb, e_bd, e_ldi he (by decide), g2]
  unfold fo cn
  by_cases hc : cd C (ce C) ≤ bcn (cs C (ce C) &&& rg C A)
  · rw [if_neg (fun z => by rw [fa_lt, nI_toInt (by omega), nI_toInt (by omega)] at z; omega)]
    simp only [hc, decide_true]; rfl
  · rw [if_pos (by rw [fa_lt, nI_toInt (by omega), nI_toInt (by omega)]; omega)]
    simp only [hc, decide_false]; rfl
