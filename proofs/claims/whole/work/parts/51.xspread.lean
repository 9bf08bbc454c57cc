/-! the class's fires spread -/
def rH (C : tC) (A W h m : Nat) : Bool := decide (cp C h ≤ m) && cn C h (bq C A W (m + 1 - cp C h))
def XLt (s : jm_M) (C : tC) (A W m : Nat) : Prop := ∀ t, 1 ≤ t → t ≤ m → s.1 52 t = nI (bq C A W t)
theorem x_held {s : jm_M} {C : tC} {A W m h : Nat} (wc : wC C) (xc : XC s C) (hA : A < 1024) (hm : m < 100) (xl : XLt s C A W m) (hh : h < 10) : s_Co_ruleHeld s (nI h) (nI m) = some (oI (rH C A W h m)) := by
  unfold s_Co_ruleHeld rH
  obtain ⟨g1, g2, g3⟩ := xc.2.2 h hh
  have w := wc h hh
  rw [if_neg (nI_pos (by omega)), if_pos (by rw [i_lt 10, nI_toInt (by omega)]; omega), e_ldi hh (by decide), g3, e_vi]
  by_cases hp : cp C h ≤ m
  · rw [pk_sub hp, show (1 : Int32) = nI 1 from rfl, nI_add, if_neg (fun z => by rw [fa_lt, nI_toInt (by omega), nI_toInt (by omega)] at z; omega), if_pos (by rw [i_lt 100, nI_toInt (by omega)]; omega), e_ldi hh (by decide), g1, e_ldi (by omega) (by decide), show m - cp C h + 1 = m + 1 - cp C h by omega, xl (m + 1 - cp C h) (by omega) (by omega)]
    have hb : cs C h &&& bq C A W (m + 1 - cp C h) < 1024 := Nat.lt_of_le_of_lt Nat.and_le_left w.1
    have hbl := bcn_le (cs C h &&& bq C A W (m + 1 - cp C h))
    rw [fa_and, x_bc s hb, e_bd, e_ldi hh (by decide), g2]
    unfold cn
    by_cases hc : cd C h ≤ bcn (cs C h &&& bq C A W (m + 1 - cp C h))
    · rw [if_neg (fun z => by rw [fa_lt, nI_toInt (by omega), nI_toInt (by omega)] at z; omega)]
      simp only [hp, hc, decide_true]; rfl
    · rw [if_pos (by rw [fa_lt, nI_toInt (by omega), nI_toInt (by omega)]; omega)]
      simp only [hp, hc, decide_true, decide_false]; rfl
  · have e : (nI m - nI (cp C h) + 1).toInt = (m : Int) - cp C h + 1 := by
      have e1 : (nI m - nI (cp C h)).toInt = (m : Int) - cp C h := by rw [fb_subI (by rw [nI_toInt (by omega), nI_toInt (by omega)]; omega) (by rw [nI_toInt (by omega), nI_toInt (by omega)]; omega), nI_toInt (by omega), nI_toInt (by omega)]
      rw [fb_addI (by rw [e1, show (1 : Int32).toInt = 1 by decide]; omega) (by rw [e1, show (1 : Int32).toInt = 1 by decide]; omega), e1, show (1 : Int32).toInt = 1 by decide]
    rw [if_pos (by rw [i_lt 1, e]; omega)]
    simp only [hp, decide_false, Bool.false_and]
    rfl
def nwB (C : tC) (A W m : Nat) (h : Nat) : Bool := (dn W (bq C A W m)).testBit h && rH C A W h m
theorem bq_nw {C : tC} {A W m : Nat} (wc : wC C) (hm : 1 ≤ m) : bq C A W m ||| sOf (nwB C A W m) 10 = bq C A W (m + 1) := by
  apply Nat.eq_of_testBit_eq
  intro i
  rw [Nat.testBit_or, sOf_bit, bq_s A W wc hm, nwB, dn_bit, rH]
  cases (bq C A W m).testBit i <;> simp
  by_cases hi : i < 10 <;> simp [hi]
def lcN (C : tC) (A W m lc i : Nat) : Nat := if anB (nwB C A W m) i then m + 1 else lc
theorem lcN_s {C : tC} {A W m lc i : Nat} : lcN C A W m lc (i + 1) = if nwB C A W m i then m + 1 else lcN C A W m lc i := by
  unfold lcN
  rw [anB]
  cases nwB C A W m i <;> simp
theorem x_sp71 {s : jm_M} {C : tC} {A W m lc : Nat} (wc : wC C) (xc : XC s C) (hA : A < 1024) (hm1 : 1 ≤ m) (hm : m < 100) (xl : XLt s C A W m) (k17 : Int32 → Int32 → Int32 → Int32 → Int32 → jm_M → Option (Int32 × jm_M)) (x3 : Int32) : s_Co_spread_L71 k17 5000 x3 (nI (dn W (bq C A W m))) (nI (bq C A W m)) (nI lc) (nI m) 0 s = k17 x3 (nI (dn W (bq C A W (m + 1)))) (nI (bq C A W (m + 1))) (nI (lcN C A W m lc 10)) (nI (m + 1)) s := by
  have hbl : bq C A W m < 1024 := bq_lt hA m
  have := lp_inv (fun n c (p : Int32 × Int32) => s_Co_spread_L71 k17 n x3 (nI (dn W (bq C A W m))) p.1 p.2 (nI m) c s) 10 (fun i => (nI (bq C A W m ||| sOf (nwB C A W m) i), nI (lcN C A W m lc i))) (k17 x3 (nI (dn W (bq C A W (m + 1)))) (nI (bq C A W (m + 1))) (nI (lcN C A W m lc 10)) (nI (m + 1)) s) (fun n => ?_) (fun n i hi => ?_) 10 5000 0 rfl (by decide)
  · have e : bq C A W m ||| sOf (nwB C A W m) 0 = bq C A W m := Nat.or_zero _
    have e2 : lcN C A W m lc 0 = lc := rfl
    simp only [e, e2] at this
    exact this
  · show s_Co_spread_L71 k17 (n + 1) x3 _ (nI (bq C A W m ||| sOf (nwB C A W m) 10)) (nI (lcN C A W m lc 10)) (nI m) (nI 10) s = _
    have e : dn (dn W (bq C A W m)) (bq C A W (m + 1)) = dn W (bq C A W (m + 1)) := by
      apply Nat.eq_of_testBit_eq
      intro i
      rw [dn_bit, dn_bit, dn_bit]
      have := bq_up A W wc hm1 i
      cases h1 : (bq C A W m).testBit i with
      | false => cases decide (i < 10) <;> simp
      | true => rw [this h1]; simp
    rw [s_Co_spread_L71, if_pos (by decide), e_vi, bq_nw wc hm1, andn dn_lt (bq_lt hA _), e, nI_1]
  · show s_Co_spread_L71 k17 (n + 1) x3 _ (nI (bq C A W m ||| sOf (nwB C A W m) i)) (nI (lcN C A W m lc i)) (nI m) (nI i) s = s_Co_spread_L71 k17 n x3 _ (nI (bq C A W m ||| sOf (nwB C A W m) (i + 1))) (nI (lcN C A W m lc (i + 1))) (nI m) (nI (i + 1)) s
    rw [s_Co_spread_L71, if_neg (fun z => by rw [i_ge 10, nI_toInt (by omega)] at z; omega), bit1o (Nat.lt_trans dn_lt (by decide)) (by omega), lcN_s, sOf, nI_1]
    cases hd : (dn W (bq C A W m)).testBit i with
    | false =>
      have hn : nwB C A W m i = false := by unfold nwB; rw [hd, Bool.false_and]
      rw [oI_f, if_pos rfl, hn]
      simp only [Bool.false_eq_true, if_false, Nat.or_zero]
    | true =>
      have hn : nwB C A W m i = rH C A W i m := by unfold nwB; rw [hd, Bool.true_and]
      rw [oI_t, if_neg e10, x_held wc xc hA hm xl hi, e_bd, hn]
      cases hr : rH C A W i m with
      | false =>
        rw [oI_f, if_pos rfl]
        simp only [Bool.false_eq_true, if_false, Nat.or_zero]
      | true =>
        rw [oI_t, if_neg e10, e_vi, e_vi, p2 (by omega), fa_or, nI_1]
        simp only [if_true]
        rw [Nat.or_assoc]
theorem lc_prop {C : tC} {A W m lc : Nat} (wc : wC C) (hA : A < 1024) (hm1 : 1 ≤ m) (h1 : 1 ≤ lc) (h2 : lc ≤ m) (h3 : bq C A W lc = bq C A W m) : 1 ≤ lcN C A W m lc 10 ∧ lcN C A W m lc 10 ≤ m + 1 ∧ bq C A W (lcN C A W m lc 10) = bq C A W (m + 1) := by
  unfold lcN
  cases ha : anB (nwB C A W m) 10 with
  | true => rw [if_pos rfl]; exact ⟨by omega, Nat.le_refl _, rfl⟩
  | false =>
    rw [if_neg (by decide)]
    refine ⟨h1, by omega, ?_⟩
    rw [h3, ← bq_nw wc hm1]
    have : sOf (nwB C A W m) 10 = 0 := by
      apply Nat.eq_of_testBit_eq
      intro i
      rw [sOf_bit, Nat.zero_testBit]
      by_cases hi : i < 10
      · cases hn : nwB C A W m i with
        | false => simp
        | true =>
          rw [(anB_iff _ _).mpr ⟨i, hi, hn⟩] at ha
          cases ha
      · simp [hi]
    rw [this, Nat.or_zero]
/-- what a spread gives: the first minute of lb, or none and all is still -/
def spR (C : tC) (A W : Nat) (lb : Nat → Bool) (r : Int32) (s' : jm_M) : Prop := (∃ m, 1 ≤ m ∧ m < 100 ∧ lb m = true ∧ (∀ j, 1 ≤ j → j < m → lb j = false) ∧ r = nI m) ∨ (r = -4 ∧ ∃ m, m ≤ 99 ∧ s'.1 48 9 = nI m ∧ XLt s' C A W m ∧ (∀ j, 1 ≤ j → j ≤ m → lb j = false) ∧ ∃ lc, 1 ≤ lc ∧ lc + 8 ≤ m ∧ ∀ u, lc ≤ u → bq C A W u = bq C A W lc)
theorem x_sp23 {C : tC} {A W : Nat} (wc : wC C) (hA : A < 1024) (x3 : Int32) (lb : Nat → Bool) (hlb : ∀ s m, XC s C → m < 100 → XLt s C A W m → s_Co_ruleHeld s x3 (nI m) = some (oI (lb m))) : ∀ (k n : Nat) (lc : Nat) (s : jm_M), k < n → k < 100 → XC s C → XLt s C A W (99 - k) → (∀ j, 1 ≤ j → j ≤ 99 - k → lb j = false) → 1 ≤ lc → lc ≤ 100 - k → bq C A W lc = bq C A W (100 - k) → (lc + 9 < 100 - k ∨ k = 0 → s.1 48 9 = nI (99 - k)) → (2 ≤ 100 - k → s.1 48 9 = nI (99 - k)) → ∃ r s', s_Co_spread_L23 n x3 (nI (dn W (bq C A W (100 - k)))) (nI (bq C A W (100 - k))) (nI lc) (nI (100 - k)) s = some (r, s') ∧ spR C A W lb r s' := by
  intro k
  induction k with
  | zero =>
    intro n lc s hn _ xc xl hb h1 h2 h3 h4 _
    obtain ⟨n, rfl⟩ : ∃ q, n = q + 1 := ⟨n - 1, by omega⟩
    rw [s_Co_spread_L23, if_pos (by decide)]
    refine ⟨_, _, rfl, Or.inr ⟨rfl, 99, Nat.le_refl _, h4 (Or.inr rfl), xl, hb, ?_⟩⟩
    by_cases hl : lc ≤ 91
    · refine ⟨lc, h1, by omega, fun u hu => ?_⟩
      by_cases hu2 : 91 ≤ u
      · rw [bq_fin wc hA hu2, h3]
        exact (bq_fin wc hA (by omega)).symm
      · refine eq_sbs ?_ (bq_mono A W wc hu)
        rw [h3]
        exact bq_mono A W wc (by omega)
    · exact ⟨91, by decide, by decide, fun u hu => bq_fin wc hA hu⟩
  | succ k ih =>
    intro n lc s hn hk xc xl hb h1 h2 h3 h4 h5
    obtain ⟨n, rfl⟩ : ∃ q, n = q + 1 := ⟨n - 1, by omega⟩
    obtain ⟨m, hm⟩ : ∃ m, m = 100 - (k + 1) := ⟨_, rfl⟩
    have hm2 : 99 - (k + 1) = m - 1 := by omega
    rw [← hm] at h2 h3 h4 h5 ⊢
    rw [hm2] at xl hb h4 h5
    rw [s_Co_spread_L23, if_neg (fun z => by rw [i_ge 100, nI_toInt (by omega)] at z; omega), show (9 : Int32) = nI 9 from rfl, nI_add]
    by_cases hl : lc + 9 < m
    · rw [if_pos (by rw [fa_lt, nI_toInt (by omega), nI_toInt (by omega)]; omega)]
      refine ⟨_, _, rfl, Or.inr ⟨rfl, m - 1, by omega, h4 (Or.inl hl), xl, hb, lc, h1, by omega, fun u hu => ?_⟩⟩
      have hq : bq C A W (lc + 9) = bq C A W lc := by
        refine eq_sbs ?_ (bq_mono A W wc (by omega))
        rw [h3]
        exact bq_mono A W wc (by omega)
      rw [show u = lc + (u - lc) by omega]
      exact bq_quiet wc hA h1 hq _
    · rw [if_neg (fun z => by rw [fa_lt, nI_toInt (by omega), nI_toInt (by omega)] at z; omega), e_sti (by omega) (by decide), e_ev]
      have xc3 : XC (jm_si (jm_si s 52 m (nI (bq C A W m))) 48 9 (nI m)) C := by
        refine ⟨?_, ?_, fun h hh => ?_⟩
        · rw [e_sio (by omega), e_sio (by omega)]; exact xc.1
        · rw [e_sio (by omega), e_sio (by omega)]; exact xc.2.1
        · rw [e_sio (by omega), e_sio (by omega), e_sio (by omega), e_sio (by omega), e_sio (by omega), e_sio (by omega)]; exact xc.2.2 h hh
      have xl3 : XLt (jm_si (jm_si s 52 m (nI (bq C A W m))) 48 9 (nI m)) C A W m := by
        intro t ht1 ht2
        rw [e_sio (by omega)]
        by_cases htm : t = m
        · subst htm; rw [e_si]
        · rw [e_sio (by omega)]; exact xl t ht1 (by omega)
      rw [hlb _ m xc3 (by omega) xl3, e_bd]
      cases hbm : lb m with
      | true =>
        rw [oI_t, if_neg e10]
        exact ⟨_, _, rfl, Or.inl ⟨m, by omega, by omega, hbm, fun j hj1 hj2 => hb j hj1 (by omega), rfl⟩⟩
      | false =>
        rw [oI_f, if_pos rfl, x_sp71 wc xc3 hA (by omega) (by omega) xl3]
        obtain ⟨q1, q2, q3⟩ := lc_prop (m := m) wc hA (by omega) h1 h2 h3
        have hk1 : 100 - k = m + 1 := by omega
        have hk2 : 99 - k = m := by omega
        have := ih n (lcN C A W m lc 10) (jm_si (jm_si s 52 m (nI (bq C A W m))) 48 9 (nI m)) (by omega) (by omega) xc3 (by rw [hk2]; exact xl3) (by
          rw [hk2]
          intro j hj1 hj2
          by_cases hjm : j = m
          · rw [hjm]; exact hbm
          · exact hb j hj1 (by omega)) q1 (by omega) (by rw [hk1]; exact q3) (fun _ => by rw [hk2, e_si]) (fun _ => by rw [hk2, e_si])
        rw [hk1] at this
        exact this
theorem x_spread {s : jm_M} {C : tC} {A S : Nat} (wc : wC C) (hF : cF C < 1024) (xc : XC s C) (hA : A < 1024) (hS : S < 1024) (x3 : Int32) (lb : Nat → Bool) (hlb : ∀ s m, XC s C → m < 100 → XLt s C A (dn (dn (cF C) S) A) m → s_Co_ruleHeld s x3 (nI m) = some (oI (lb m))) : ∃ r s', s_Co_spread s (nI A) (nI S) x3 = some (r, s') ∧ spR C A (dn (dn (cF C) S) A) lb r s' := by
  unfold s_Co_spread
  rw [e_vi, xc.2.1, andn hF hS, andn dn_lt hA]
  have := x_sp23 (W := dn (dn (cF C) S) A) wc hA x3 lb hlb 99 5000 1 s (by decide) (by decide) xc (fun t h1 h2 => by omega) (fun j h1 h2 => by omega) (Nat.le_refl _) (by decide) (by rfl) (fun h => by omega) (fun h => by omega)
  rw [show 100 - 99 = 1 from rfl, bq_1, show dn (dn (dn (cF C) S) A) A = dn (dn (cF C) S) A from by
    apply Nat.eq_of_testBit_eq
    intro i
    rw [dn_bit, dn_bit]
    cases decide (i < 10) <;> cases A.testBit i <;> simp] at this
  exact this
/-- with the ear listening -/
theorem x_alarm {s : jm_M} {C : tC} {A S : Nat} (wk : wK C) (xc : XC s C) (xe : s.1 48 2 = nI (ce C)) (hA : A < 1024) (hS : S < 1024) : ∃ s', s_Co_spread s (nI A) (nI S) (nI (ce C)) = some (if al C A (dn (dn (cF C) S) A) = 1000000 then -4 else nI (al C A (dn (dn (cF C) S) A)), s') := by
  have he := wk.2.2.2.1
  have w := wk.1 _ he
  obtain ⟨r, s', h1, h2⟩ := x_spread wk.1 wk.2.1 xc hA hS (nI (ce C)) (rH C A (dn (dn (cF C) S) A) (ce C)) (fun s m xc hm xl => x_held wk.1 xc hA hm xl he)
  refine ⟨s', ?_⟩
  rw [h1]
  obtain ⟨a1, a2⟩ := ar_iff (W := dn (dn (cF C) S) A) wk.1 he hA
  have key : ar C A (dn (dn (cF C) S) A) < 1000000 → 1 ≤ ar C A (dn (dn (cF C) S) A) → rH C A (dn (dn (cF C) S) A) (ce C) (ar C A (dn (dn (cF C) S) A) + cp C (ce C) - 1) = true := by
    intro h h'
    unfold rH
    rw [show ar C A (dn (dn (cF C) S) A) + cp C (ce C) - 1 + 1 - cp C (ce C) = ar C A (dn (dn (cF C) S) A) by omega, (a2 _ h).mp (Nat.le_refl _)]
    simp
    omega
  rcases h2 with ⟨m, m1, m2, m3, m4, rfl⟩ | ⟨rfl, m, m1, m2, m3, m4, lc, l1, l2, l3⟩
  · have m3' := m3
    unfold rH at m3'
    rw [Bool.and_eq_true, decide_eq_true_eq] at m3'
    have hle := (a2 (m + 1 - cp C (ce C)) (by omega)).mpr m3'.2
    have hb := ar_bd (W := dn (dn (cF C) S) A) wk.1 he hA (by omega)
    have hk := key (by omega) hb.1
    have : ¬ ar C A (dn (dn (cF C) S) A) + cp C (ce C) - 1 < m := fun z => by
      rw [m4 _ (by omega) z] at hk
      cases hk
    have e : al C A (dn (dn (cF C) S) A) = m := by
      unfold al
      rw [if_pos (by omega)]
      omega
    rw [e, if_neg (by omega)]
  · have : ¬ ar C A (dn (dn (cF C) S) A) < 1000000 := fun h => by
      have hb := ar_bd (W := dn (dn (cF C) S) A) wk.1 he hA h
      have hk := key h hb.1
      have hle : ar C A (dn (dn (cF C) S) A) ≤ lc := by
        apply Classical.byContradiction
        intro hn
        have := (a2 _ h).mp (Nat.le_refl _)
        rw [l3 _ (by omega)] at this
        exact hn ((a2 lc (by omega)).mpr this)
      rw [m4 _ (by omega) (by omega)] at hk
      cases hk
    have e : al C A (dn (dn (cF C) S) A) = 1000000 := by
      unfold al
      rw [if_neg this]
    rw [e, if_pos rfl]
