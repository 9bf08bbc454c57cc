/-! the model's night -/
theorem alB_cons (p : Nat → Bool) (k : Nat) : alB p (k + 1) = (p 0 && alB (fun i => p (i + 1)) k) := by
  apply Bool.eq_iff_iff.mpr
  rw [Bool.and_eq_true, alB_iff, alB_iff]
  constructor
  · intro h
    exact ⟨h 0 (by omega), fun j hj => h (j + 1) (by omega)⟩
  · rintro ⟨h1, h2⟩ j hj
    cases j with
    | zero => exact h1
    | succ j => exact h2 j (by omega)
theorem z_inN (s : jm_M) {a b t : Nat} (ha : a < 2147483648) (hb : b < 2147483648) (ht : t < 2147483648) : s_Z_in s (nI t).toInt64 (nI a).toInt64 (nI b).toInt64 = some (oI (decide (a ≤ t ∧ t ≤ b))) := by
  rw [z_inL, Int32.toInt_toInt64, Int32.toInt_toInt64, Int32.toInt_toInt64, nI_toInt ha, nI_toInt hb, nI_toInt ht]
  by_cases h : a ≤ t ∧ t ≤ b
  · rw [if_pos (by omega), show decide (a ≤ t ∧ t ≤ b) = true by simp [h]]; rfl
  · rw [if_neg (by omega), show decide (a ≤ t ∧ t ≤ b) = false by simp only [decide_eq_false_iff_not]; exact h]; rfl
theorem z_told {s : jm_M} {T : tN} {c : Nat} {E : tE} (hE : ZE s 0 c E) (hw : wE c E) {l h t : Nat} (hl : l < 128) (hh : h < 10) (ht : t < 60) {b : Bool} (hb : b = true ↔ tell E c l h t) : s_Z_isTold s (nI l) (nI h) (nI t) = some (oI b) := by
  obtain ⟨hc, hc2, hj⟩ := hE
  have hany : b = anB (fun j => decide (E.1 j = l) && (decide (E.2.1 j = h) && decide (E.2.2.2.1 j ≤ t ∧ t ≤ E.2.2.2.2 j))) c := by
    apply Bool.eq_iff_iff.mpr
    rw [hb, anB_iff]
    unfold tell
    constructor
    · rintro ⟨j, h1, h2, h3, h4, h5⟩
      exact ⟨j, h1, by simp [h2, h3, h4, h5]⟩
    · rintro ⟨j, h1, h2⟩
      simp at h2
      exact ⟨j, h1, h2.1, h2.2.1, h2.2.2.1, h2.2.2.2⟩
  rw [hany]
  unfold s_Z_isTold
  refine lp_inv (fun n k (acc : Int32) => s_Z_isTold_L6 s n (nI l) (nI h) (nI t) acc k) c (fun i => oI (anB (fun j => decide (E.1 j = l) && (decide (E.2.1 j = h) && decide (E.2.2.2.1 j ≤ t ∧ t ≤ E.2.2.2.2 j))) i)) _ (fun n => ?_) (fun n i hi => ?_) c 5000 0 (by omega) (by omega)
  · show s_Z_isTold_L6 s (n + 1) _ _ _ (oI _) (nI c) = _
    rw [s_Z_isTold_L6, e_ldiq (j := 0) 0 rfl (by decide) (by decide), hc, if_pos (nI_le (Nat.le_refl _) (by omega)), z_gb]
  · show s_Z_isTold_L6 s (n + 1) _ _ _ (oI _) (nI i) = s_Z_isTold_L6 s n _ _ _ (oI _) (nI (i + 1))
    have g := hj i hi
    have w := hw i hi
    simp only [show 215 * 0 + 5 * i = 5 * i by omega] at g
    rw [s_Z_isTold_L6, e_ldiq (j := 0) 0 rfl (by decide) (by decide), hc, if_neg (nI_ge hi (by omega)), anB]
    cases hb2 : anB (fun j => decide (E.1 j = l) && (decide (E.2.1 j = h) && decide (E.2.2.2.1 j ≤ t ∧ t ≤ E.2.2.2.2 j))) i with
    | true => rw [oI_t, if_neg e10, nI_1, Bool.true_or, oI_t]
    | false =>
      rw [oI_f, if_pos rfl, ix50, e_ldi (by omega) (by decide), g.1, Bool.false_or]
      by_cases h1 : E.1 i = l
      · rw [if_pos (by rw [h1]), show nI (5 * i) + 1 = nI (5 * i + 1) from nI_1 _, e_ldi (by omega) (by decide), g.2.1]
        by_cases h2 : E.2.1 i = h
        · rw [if_pos (by rw [h2]), show nI (5 * i) + 3 = nI (5 * i + 3) from nI_add _ 3, show nI (5 * i) + 4 = nI (5 * i + 4) from nI_add _ 4, e_ldi (by omega) (by decide), e_ldi (by omega) (by decide), g.2.2.2.1, g.2.2.2.2, z_inN s (by omega) (by omega) (by omega), e_bd, oI_if, nI_1, show decide (E.1 i = l) = true by simp [h1], show decide (E.2.1 i = h) = true by simp [h2], Bool.true_and, Bool.true_and]
          cases decide (E.2.2.2.1 i ≤ t ∧ t ≤ E.2.2.2.2 i) <;> rfl
        · rw [if_neg (fun z => h2 ((nI_eq (by omega) (by omega)).mp z)), nI_1, show (decide (E.1 i = l) && (decide (E.2.1 i = h) && decide (E.2.2.2.1 i ≤ t ∧ t ≤ E.2.2.2.2 i))) = false by simp [h2]]
          rfl
      · rw [if_neg (fun z => h1 ((nI_eq (by omega) (by omega)).mp z)), nI_1, show (decide (E.1 i = l) && (decide (E.2.1 i = h) && decide (E.2.2.2.1 i ≤ t ∧ t ≤ E.2.2.2.2 i))) = false by simp [h1]]
        rfl
theorem z_mist {s : jm_M} {T : tN} {c : Nat} {E : tE} (hE : ZE s 0 c E) (hs : sE T c E) {a b t : Nat} (ha : a < 10) (hb : b < 10) (ht : t < 60) : s_Z_isMist s (nI a) (nI b) (nI t) = some (oI (tm T a b t)) := by
  obtain ⟨hc, hc2, hj⟩ := hE
  have hany : tm T a b t = anB (fun j => decide (E.1 j = 103) && (decide ((E.2.1 j = a ∧ E.2.2.1 j = b) ∨ (E.2.1 j = b ∧ E.2.2.1 j = a)) && decide (E.2.2.2.1 j ≤ t ∧ t ≤ E.2.2.2.2 j))) c := by
    apply Bool.eq_iff_iff.mpr
    rw [hs.2.2.2 a b t, anB_iff]
    unfold tellM
    constructor
    · rintro ⟨j, h1, h2, h3, h4, h5⟩
      exact ⟨j, h1, by simp [h2, h3, h4, h5]⟩
    · rintro ⟨j, h1, h2⟩
      simp only [Bool.and_eq_true, decide_eq_true_eq] at h2
      exact ⟨j, h1, h2.1, h2.2.1, h2.2.2.1, h2.2.2.2⟩
  rw [hany]
  unfold s_Z_isMist
  refine lp_inv (fun n k (acc : Int32) => s_Z_isMist_L6 s n (nI a) (nI b) (nI t) acc k) c (fun i => oI (anB (fun j => decide (E.1 j = 103) && (decide ((E.2.1 j = a ∧ E.2.2.1 j = b) ∨ (E.2.1 j = b ∧ E.2.2.1 j = a)) && decide (E.2.2.2.1 j ≤ t ∧ t ≤ E.2.2.2.2 j))) i)) _ (fun n => ?_) (fun n i hi => ?_) c 5000 0 (by omega) (by omega)
  · show s_Z_isMist_L6 s (n + 1) _ _ _ (oI _) (nI c) = _
    rw [s_Z_isMist_L6, e_ldiq (j := 0) 0 rfl (by decide) (by decide), hc, if_pos (nI_le (Nat.le_refl _) (by omega)), z_gb]
  · show s_Z_isMist_L6 s (n + 1) _ _ _ (oI _) (nI i) = s_Z_isMist_L6 s n _ _ _ (oI _) (nI (i + 1))
    have g := hj i hi
    have w := hs.1 i hi
    simp only [show 215 * 0 + 5 * i = 5 * i by omega] at g
    have q1 : nI (5 * i) + 1 = nI (5 * i + 1) := nI_1 _
    have q2 : nI (5 * i) + 2 = nI (5 * i + 2) := nI_add _ 2
    have q3 : nI (5 * i) + 3 = nI (5 * i + 3) := nI_add _ 3
    have q4 : nI (5 * i) + 4 = nI (5 * i + 4) := nI_add _ 4
    have eqn : ∀ x y : Nat, x < 10 → y < 10 → (nI x = nI y ↔ x = y) := fun x y hx hy => nI_eq (by omega) (by omega)
    rw [s_Z_isMist_L6, e_ldiq (j := 0) 0 rfl (by decide) (by decide), hc, if_neg (nI_ge hi (by omega)), anB, ix50, q1, q2, e_ldi (by omega) (by decide), e_ldi (by omega) (by decide), g.2.1, g.2.2.1]
    cases hb2 : anB (fun j => decide (E.1 j = 103) && (decide ((E.2.1 j = a ∧ E.2.2.1 j = b) ∨ (E.2.1 j = b ∧ E.2.2.1 j = a)) && decide (E.2.2.2.1 j ≤ t ∧ t ≤ E.2.2.2.2 j))) i with
    | true => rw [oI_t, if_neg e10, nI_1, Bool.true_or, oI_t]
    | false =>
      rw [oI_f, if_pos rfl, e_ldi (by omega) (by decide), g.1, Bool.false_or]
      have J : ∀ kk : Int32 → Int32 → Int32 → Int32 → Int32 → Option Int32, s_Z_isMist_J86 s kk (nI a) (nI b) (nI t) (nI i) = kk (nI a) (nI b) (nI t) (oI (decide (E.2.2.2.1 i ≤ t ∧ t ≤ E.2.2.2.2 i))) (nI (i + 1)) := by
        intro kk
        unfold s_Z_isMist_J86
        rw [ix50, q3, q4, e_ldi (by omega) (by decide), e_ldi (by omega) (by decide), g.2.2.2.1, g.2.2.2.2, z_inN s (by omega) (by omega) (by omega), e_bd, oI_if, nI_1]
        cases decide (E.2.2.2.1 i ≤ t ∧ t ≤ E.2.2.2.2 i) <;> rfl
      by_cases h1 : E.1 i = 103
      · rw [if_pos (by rw [h1]; rfl), show decide (E.1 i = 103) = true by simp [h1], Bool.true_and]
        have J2 : ∀ kk : Int32 → Int32 → Int32 → Int32 → Int32 → Option Int32, s_Z_isMist_J74 s kk (nI a) (nI b) (nI t) (nI i) (nI (E.2.1 i)) (nI (E.2.2.1 i)) = kk (nI a) (nI b) (nI t) (oI (decide (E.2.1 i = b ∧ E.2.2.1 i = a) && decide (E.2.2.2.1 i ≤ t ∧ t ≤ E.2.2.2.2 i))) (nI (i + 1)) := by
          intro kk
          unfold s_Z_isMist_J74
          by_cases k1 : E.2.1 i = b
          · rw [if_pos (by rw [k1])]
            by_cases k2 : E.2.2.1 i = a
            · rw [if_pos (by rw [k2]), J, show decide (E.2.1 i = b ∧ E.2.2.1 i = a) = true by simp [k1, k2], Bool.true_and]
            · rw [if_neg (fun z => k2 ((eqn _ _ (by omega) ha).mp z)), nI_1, show decide (E.2.1 i = b ∧ E.2.2.1 i = a) = false by simp [k2]]
              rfl
          · rw [if_neg (fun z => k1 ((eqn _ _ (by omega) hb).mp z)), nI_1, show decide (E.2.1 i = b ∧ E.2.2.1 i = a) = false by simp [k1]]
            rfl
        by_cases k1 : E.2.1 i = a
        · rw [if_pos (by rw [k1])]
          by_cases k2 : E.2.2.1 i = b
          · rw [if_pos (by rw [k2]), J, show decide ((E.2.1 i = a ∧ E.2.2.1 i = b) ∨ (E.2.1 i = b ∧ E.2.2.1 i = a)) = true by simp [k1, k2], Bool.true_and]
          · rw [if_neg (fun z => k2 ((eqn _ _ (by omega) hb).mp z)), J2, show decide ((E.2.1 i = a ∧ E.2.2.1 i = b) ∨ (E.2.1 i = b ∧ E.2.2.1 i = a)) = decide (E.2.1 i = b ∧ E.2.2.1 i = a) by simp [k2]]
        · rw [if_neg (fun z => k1 ((eqn _ _ (by omega) ha).mp z)), J2, show decide ((E.2.1 i = a ∧ E.2.2.1 i = b) ∨ (E.2.1 i = b ∧ E.2.2.1 i = a)) = decide (E.2.1 i = b ∧ E.2.2.1 i = a) by simp [k1]]
      · rw [if_neg (fun z => h1 ((nI_eq (by omega) (by decide)).mp (z.trans (show (103 : Int32) = nI 103 from rfl)))), nI_1, show decide (E.1 i = 103) = false by simp [h1]]
        rfl
/-- the model's rule of a hill -/
theorem z_rule {s : jm_M} {T : tN} (wt : wT T) (hz : ZN s 0 T) {F : Nat → Nat → Bool} {h m : Nat} (hh : h < tn T) (hm : m < 60) (hF : ∀ u, u ≤ m → s.1 74 u = nI (sOf (F u) (tn T))) : s_Z_held s (nI h) (nI m) = some (oI (held T F h m)) := by
  have w1 := wt.1
  obtain ⟨q1, q2, q3, q4⟩ := sp1 wt (show h < 10 by omega)
  obtain ⟨-, g2, g3, g4, -⟩ := hz.2.1 h hh
  rw [show 10 * 0 + h = h by omega] at g2 g3 g4
  obtain ⟨c, E, hE, hs⟩ := hz.2.2
  have hts := ts_lt wt (show h < 10 by omega)
  have a1 : (nI m - nI (tp T h)).toInt = (m : Int) - tp T h := by
    rw [fb_subI (by rw [nI_toInt (by omega), nI_toInt (by omega)]; omega) (by rw [nI_toInt (by omega), nI_toInt (by omega)]; omega), nI_toInt (by omega), nI_toInt (by omega)]
  have a2 : (nI m - nI (tp T h) + 1).toInt = (m : Int) - tp T h + 1 := by
    rw [fb_addI (by rw [a1, show (1 : Int32).toInt = 1 by decide]; omega) (by rw [a1, show (1 : Int32).toInt = 1 by decide]; omega), a1, show (1 : Int32).toInt = 1 by decide]
  unfold s_Z_held held
  rw [e_ldi (by omega) (by decide), g4]
  by_cases hp : tp T h ≤ m + 1
  · have e1 : nI m - nI (tp T h) + 1 = nI (m + 1 - tp T h) := by
      rw [fa_eq, a2, nI_toInt (by omega)]
      omega
    rw [if_pos ((i_ge 0).mpr (by omega)), show decide (tp T h ≤ m + 1) = true by simp [hp], Bool.true_and]
    refine lp_inv (fun n k (acc : Int32) => s_Z_held_L20 s n (nI h) (nI m) acc k) (tn T) (fun i => nI (fb_ct (hdB T F h m) i)) _ (fun n => ?_) (fun n i hi => ?_) (tn T) 5000 0 (by omega) (by omega)
    · show s_Z_held_L20 s (n + 1) (nI h) (nI m) (nI _) (nI (tn T)) = _
      have hle := fb_ct_le (hdB T F h m) (tn T)
      rw [s_Z_held_L20, e_ldiq (j := 0) 0 rfl (by decide) (by decide), hz.1, if_pos (nI_le (Nat.le_refl _) (by omega)), e_ldi (by omega) (by decide), g3]
      by_cases hd : td T h ≤ fb_ct (hdB T F h m) (tn T)
      · rw [if_neg (nI_nlt hd (by omega)), show decide (td T h ≤ fb_ct (hdB T F h m) (tn T)) = true by simp [hd]]; rfl
      · rw [if_pos (nI_lt (by omega) (by omega)), show decide (td T h ≤ fb_ct (hdB T F h m) (tn T)) = false by simp [hd]]; rfl
    · show s_Z_held_L20 s (n + 1) (nI h) (nI m) (nI _) (nI i) = s_Z_held_L20 s n (nI h) (nI m) (nI _) (nI (i + 1))
      rw [s_Z_held_L20, e_ldiq (j := 0) 0 rfl (by decide) (by decide), hz.1, if_neg (nI_ge hi (by omega)), e_ldi (by omega) (by decide), g2, z_has s (by omega) (by omega), e_bd, e_ldi (by omega) (by decide), g4, e_vi, e1]
      have inner : ∀ (k n2 j : Nat) (b : Bool), j + k = tp T h → k < n2 → s_Z_held_L56 s (s_Z_held_L20 s n) n2 (nI h) (nI m) (nI (fb_ct (hdB T F h m) i)) (nI i) (oI b) (nI (m + 1 - tp T h + j)) = s_Z_held_J107 s (s_Z_held_L20 s n) (nI h) (nI m) (nI (fb_ct (hdB T F h m) i)) (nI i) (oI (b && alB (fun q => F (m + 1 - tp T h + (j + q)) i && !tm T h i (m + 1 - tp T h + (j + q))) k)) := by
        intro k
        induction k with
        | zero =>
          intro n2 j b hj hn
          obtain ⟨n2, rfl⟩ : ∃ z, n2 = z + 1 := ⟨n2 - 1, by omega⟩
          rw [s_Z_held_L56, if_pos (nI_lt (by omega) (by omega)), alB, Bool.and_true]
        | succ k ih =>
          intro n2 j b hj hn
          obtain ⟨n2, rfl⟩ : ∃ z, n2 = z + 1 := ⟨n2 - 1, by omega⟩
          rw [s_Z_held_L56, if_neg (nI_nlt (by omega) (by omega)), oI_if]
          cases b with
          | false => rfl
          | true =>
            have hsl : sOf (F (m + 1 - tp T h + j)) (tn T) < 1024 := Nat.lt_of_lt_of_le (sOf_lt _ _) (show 2 ^ tn T ≤ 2 ^ 10 from Nat.pow_le_pow_right (by decide) w1)
            have hbt : (sOf (F (m + 1 - tp T h + j)) (tn T)).testBit i = F (m + 1 - tp T h + j) i := by rw [sOf_bit]; simp [hi]
            rw [if_pos rfl, e_ldi (by omega) (by decide), hF _ (by omega), z_has s (by omega) (by omega), e_bd, hbt, alB_cons, Bool.true_and]
            have eo : (if F (m + 1 - tp T h + j) i = true then (1 : Int32) else 0) = oI (F (m + 1 - tp T h + j) i) := rfl
            rw [eo, oI_if, nI_1, z_mist hE hs (by omega) (by omega) (by omega), e_bd, oI_if]
            have fe : (fun q => F (m + 1 - tp T h + (j + (q + 1))) i && !tm T h i (m + 1 - tp T h + (j + (q + 1)))) = (fun q => F (m + 1 - tp T h + (j + 1 + q)) i && !tm T h i (m + 1 - tp T h + (j + 1 + q))) := by
              funext q
              rw [show j + (q + 1) = j + 1 + q by omega]
            simp only [Nat.add_zero]
            rw [fe]
            have i1 := ih n2 (j + 1) true (by omega) (by omega)
            have i0 := ih n2 (j + 1) false (by omega) (by omega)
            rw [show m + 1 - tp T h + (j + 1) = m + 1 - tp T h + j + 1 by omega] at i1 i0
            rw [oI_t, Bool.true_and] at i1
            rw [oI_f, Bool.false_and] at i0
            cases hf : F (m + 1 - tp T h + j) i with
            | false =>
              rw [if_neg (by decide), i0]
              rfl
            | true =>
              rw [if_pos rfl]
              cases ht : tm T h i (m + 1 - tp T h + j) with
              | true => rw [if_pos rfl, i0]; rfl
              | false => rw [if_neg (by decide), i1]; rfl
      have i2 := inner (tp T h) 5000 0 ((ts T h).testBit i) (by omega) (by omega)
      rw [Nat.add_zero] at i2
      have eo : (if (ts T h).testBit i = true then (1 : Int32) else 0) = oI ((ts T h).testBit i) := rfl
      rw [eo, i2, show ((ts T h).testBit i && alB (fun q => F (m + 1 - tp T h + (0 + q)) i && !tm T h i (m + 1 - tp T h + (0 + q))) (tp T h)) = hdB T F h m i by unfold hdB; simp only [Nat.zero_add]]
      unfold s_Z_held_J107
      rw [oI_if, e_vi, e_vi, nI_1, nI_1, fb_ct_succ, Int32.add_zero]
      cases hdB T F h m i with
      | false => rw [if_neg (by decide), if_neg (by decide)]; simp only [Nat.add_zero]
      | true => rw [if_pos rfl, if_pos rfl]
  · rw [if_neg (fun z => by rw [i_ge 0] at z; omega), show decide (tp T h ≤ m + 1) = false by simp [hp]]
    rfl
theorem sOf_1024 {T : tN} (wt : wT T) (p : Nat → Bool) : sOf p (tn T) < 1024 := Nat.lt_of_lt_of_le (sOf_lt _ _) (show 2 ^ tn T ≤ 2 ^ 10 from Nat.pow_le_pow_right (by decide) wt.1)
theorem z_kindles {s : jm_M} {T : tN} (wt : wT T) (hz : ZN s 0 T) {hd : Nat} {sm : Nat → Bool} (hhd : hd < 1024) (zs : ZS s 0 hd sm) {F : Nat → Nat → Bool} {L : Nat → Nat} {h t : Nat} (hh : h < tn T) (ht : t < 60) (hL : s.1 75 h = nI (L h)) (hL2 : L h ≤ 99) (hF : ∀ u, u < t → s.1 74 u = nI (sOf (F u) (tn T))) : s_Z_kindles s (nI h) (nI t) = some (oI (kdl T hd sm F L t h)) := by
  have w1 := wt.1
  obtain ⟨c, E, hE, hs⟩ := hz.2.2
  obtain ⟨z1, za, zb, z2, z3, z4, z5, z6⟩ := zs
  simp only [show 3 * 0 = 0 by omega, Nat.zero_add] at z1 z2 z3
  have hk3 := (wt.2.1 h hh).1
  unfold s_Z_kindles kdl frd
  rw [e_ldi (by omega) (by decide), hL]
  by_cases h0 : L h = 0
  · rw [h0, if_pos (show nI 0 = 0 from rfl)]
    rfl
  · rw [if_neg (nI_ne0 (by omega) (by omega)), e_ldi (by omega) (by decide), ZN_k hz h hh, show decide (0 < L h) = true by simp; omega, show decide (h < tn T) = true by simp [hh]]
    simp only [Bool.true_and]
    by_cases hk : tk T h ≤ 1
    · rw [if_pos ((i_le 1).mpr (by rw [nI_toInt (by omega)]; omega)), z_isLiar hE hs (by omega), e_bd, oI_if, show decide (tk T h ≤ 1) = true by simp [hk], Bool.true_and]
      cases hl : lzB T h with
      | true =>
        rw [if_pos rfl, if_pos rfl, show (108 : Int32) = nI 108 from rfl, z_told (T := T) hE hs.1 (by decide) (by omega) ht (hs.2.2.1 h t), e_bd, z_gb]
      | false =>
        simp only [Bool.false_eq_true, if_false]
        by_cases ht0 : t = 0
        · subst ht0
          rw [if_pos (show nI 0 = 0 from rfl)]
          rfl
        · rw [if_neg (nI_ne0 (by omega) (by omega)), show (115 : Int32) = nI 115 from rfl, z_told (T := T) hE hs.1 (by decide) (by omega) ht (hs.2.1 h t), e_bd, oI_if, show decide (t ≠ 0) = true by simp [ht0], Bool.true_and]
          cases ha : ta T h t with
          | true => rfl
          | false =>
            rw [if_neg (by decide), e_ldiq (j := 0) 0 rfl (by decide) (by decide), z1, z_has s (by omega) (by omega), e_bd]
            have em : nI t - 1 = nI (t - 1) := by rw [show (1 : Int32) = nI 1 from rfl, pk_sub (by omega)]
            have J : ∀ b : Bool, s_Z_kindles_J97 s (nI h) (nI t) (oI b) = some (oI (F (t - 1) h || (b || held T F h (t - 1)))) := by
              intro b
              unfold s_Z_kindles_J97
              have hsl := sOf_1024 wt (F (t - 1))
              rw [em, e_ldi (by omega) (by decide), hF (t - 1) (by omega), z_has s (by omega) (by omega), e_bd, sOf_bit, show (decide (h < tn T) && F (t - 1) h) = F (t - 1) h by simp [hh]]
              have eo : (if F (t - 1) h = true then (1 : Int32) else 0) = oI (F (t - 1) h) := rfl
              rw [eo, oI_if, oI_if, z_rule wt hz hh (by omega) (fun u hu => hF u (by omega)), e_bd, oI_if]
              cases F (t - 1) h <;> cases b <;> cases held T F h (t - 1) <;> rfl
            have eo : (if hd.testBit h = true then (1 : Int32) else 0) = oI (hd.testBit h) := rfl
            rw [eo, oI_if, Bool.not_false, Bool.true_and]
            cases hb : hd.testBit h with
            | false =>
              rw [if_neg (by decide), Bool.false_and]
              exact J false
            | true =>
              have hne : hd ≠ 0 := fun e => by rw [e, Nat.zero_testBit] at hb; cases hb
              rw [if_pos rfl, e_ldiq (j := 1) 1 rfl (by decide) (by decide), e_ldiq (j := 2) 2 rfl (by decide) (by decide), z2, z3, em, z_inN s (by omega) (by omega) (by omega), e_bd, oI_if, Bool.true_and, z6 hne (t - 1) (by omega)]
              cases decide (za ≤ t - 1 ∧ t - 1 ≤ zb) with
              | false => exact J false
              | true => exact J true
    · rw [if_neg (fun z => by rw [i_le 1, nI_toInt (by omega)] at z; omega), show decide (tk T h ≤ 1) = false by simp; omega]
      rfl
def NZ (s : jm_M) (T : tN) (hd : Nat) (sm : Nat → Bool) (t : Nat) : Prop := (∀ u, u < t → s.1 74 u = nI (sOf ((nf T hd sm t).1 u) (tn T))) ∧ ∀ h, h < tn T → s.1 75 h = nI ((nf T hd sm t).2 h)
theorem ZS_same {s s' : jm_M} {k hd : Nat} {sm : Nat → Bool} (h : s'.1 69 = s.1 69) (hz : ZS s k hd sm) : ZS s' k hd sm := by
  unfold ZS at hz ⊢
  rw [h]
  exact hz
theorem z_left {T : tN} (wt : wT T) {hd : Nat} {sm : Nat → Bool} {t : Nat} (kk : Int32 → jm_M → Option jm_M) : ∀ (k n q : Nat) (s : jm_M), q + k = tn T → k < n → s.1 61 0 = nI (tn T) → (∀ h, h < tn T → s.1 75 h = nI (if (decide (h < q) && kd T hd sm t h) = true then (nf T hd sm t).2 h - 1 else (nf T hd sm t).2 h)) → ∃ s', s_Z_layNight_L93 kk n (nI t) (nI (sOf (kd T hd sm t) (tn T))) (nI q) s = kk (nI t + 1) s' ∧ (∀ c, c ≠ 75 → s'.1 c = s.1 c) ∧ ∀ h, h < tn T → s'.1 75 h = nI ((nf T hd sm (t + 1)).2 h) := by
  have w1 := wt.1
  intro k
  induction k with
  | zero =>
    intro n q s hq hn hz hr
    obtain ⟨n, rfl⟩ : ∃ m, n = m + 1 := ⟨n - 1, by omega⟩
    rw [s_Z_layNight_L93, e_ldiq (j := 0) 0 rfl (by decide) (by decide), hz, if_pos (nI_le (by omega) (by omega))]
    refine ⟨s, rfl, fun _ _ => rfl, fun h hh => ?_⟩
    rw [hr h hh, show decide (h < q) = true by simp; omega, Bool.true_and]
    rfl
  | succ k ih =>
    intro n q s hq hn hz hr
    obtain ⟨n, rfl⟩ : ∃ m, n = m + 1 := ⟨n - 1, by omega⟩
    have hqn : q < tn T := by omega
    have hsl := sOf_1024 wt (kd T hd sm t)
    have h75 : s.1 75 q = nI ((nf T hd sm t).2 q) := by rw [hr q hqn]; simp
    rw [s_Z_layNight_L93, e_ldiq (j := 0) 0 rfl (by decide) (by decide), hz, if_neg (nI_ge hqn (by omega)), e_ldi (by omega) (by decide), h75, z_has s (by omega) (by omega), e_bd, sOf_bit, show (decide (q < tn T) && kd T hd sm t q) = kd T hd sm t q by simp [hqn]]
    have eo : (if kd T hd sm t q = true then (1 : Int32) else 0) = oI (kd T hd sm t q) := rfl
    rw [eo, oI_if]
    unfold s_Z_layNight_J123
    rw [e_sti (by omega) (by decide), e_sti (by omega) (by decide), nI_1]
    have fin : ∀ v : Int32, v = nI (if kd T hd sm t q = true then (nf T hd sm t).2 q - 1 else (nf T hd sm t).2 q) → ∃ s', s_Z_layNight_L93 kk n (nI t) (nI (sOf (kd T hd sm t) (tn T))) (nI (q + 1)) (jm_si s 75 q v) = kk (nI t + 1) s' ∧ (∀ c, c ≠ 75 → s'.1 c = s.1 c) ∧ ∀ h, h < tn T → s'.1 75 h = nI ((nf T hd sm (t + 1)).2 h) := by
      intro v hv
      obtain ⟨s', i1, i2, i3⟩ := ih n (q + 1) (jm_si s 75 q v) (by omega) (by omega) (by rw [e_sio (by omega)]; exact hz) (fun h hh => by
        by_cases hhq : h = q
        · subst hhq
          rw [e_si, hv, show decide (h < h + 1) = true by simp, Bool.true_and]
        · rw [e_sio (by omega), hr h hh]
          have : decide (h < q + 1) = decide (h < q) := by
            by_cases g : h < q
            · simp [g]; omega
            · simp [g]; omega
          rw [this])
      exact ⟨s', i1, fun c hc => (i2 c hc).trans (jm_si_o hc), i3⟩
    have hpos : kd T hd sm t q = true → 0 < (nf T hd sm t).2 q := by
      intro hk
      unfold kd kdl at hk
      rw [Bool.and_eq_true] at hk
      simpa using hk.1
    have hw := nf_w wt (hd := hd) (sm := sm) (show q < 10 by omega) t
    cases hk : kd T hd sm t q with
    | false =>
      rw [if_neg (by decide)]
      exact fin _ (by rw [hk, if_neg (by decide), Int32.sub_zero])
    | true =>
      rw [if_pos rfl]
      have := hpos hk
      exact fin _ (by rw [hk, if_pos rfl, show (1 : Int32) = nI 1 from rfl, pk_sub (by omega)])
theorem z_minutes {T : tN} (wt : wT T) {hd : Nat} {sm : Nat → Bool} (hhd : hd < 1024) : ∀ (k n t : Nat) (s : jm_M), t + k = 60 → k < n → ZN s 0 T → ZS s 0 hd sm → NZ s T hd sm t → ∃ s', s_Z_layNight_L32 n (nI t) s = some s' ∧ NZ s' T hd sm 60 := by
  have w1 := wt.1
  intro k
  induction k with
  | zero =>
    intro n t s ht hn hz zs hr
    obtain ⟨n, rfl⟩ : ∃ m, n = m + 1 := ⟨n - 1, by omega⟩
    rw [s_Z_layNight_L32, if_pos ((i_ge 60).mpr (by rw [nI_toInt (by omega)]; omega))]
    exact ⟨s, rfl, by rw [show (60 : Nat) = t by omega]; exact hr⟩
  | succ k ih =>
    intro n t s ht hn hz zs hr
    obtain ⟨n, rfl⟩ : ∃ m, n = m + 1 := ⟨n - 1, by omega⟩
    rw [s_Z_layNight_L32, if_neg (fun z => by rw [i_ge 60, nI_toInt (by omega)] at z; omega), e_sti (by omega) (by decide)]
    have hz1 : ZN (jm_si s 74 t 0) 0 T := ZN_same (fun c h1 h2 => jm_si_o (by omega)) hz
    have zs1 : ZS (jm_si s 74 t 0) 0 hd sm := ZS_same (jm_si_o (by decide)) zs
    have hset : s_Z_layNight_L49 (s_Z_layNight_L32 n) 5000 (nI t) 0 0 (jm_si s 74 t 0) = s_Z_layNight_L93 (s_Z_layNight_L32 n) 5000 (nI t) (nI (sOf (kd T hd sm t) (tn T))) 0 (jm_si (jm_si s 74 t 0) 74 t (nI (sOf (kd T hd sm t) (tn T)))) := by
      refine lp_inv (fun m c (acc : Int32) => s_Z_layNight_L49 (s_Z_layNight_L32 n) m (nI t) acc c (jm_si s 74 t 0)) (tn T) (fun i => nI (sOf (kd T hd sm t) i)) _ (fun m => ?_) (fun m i hi => ?_) (tn T) 5000 0 (by omega) (by omega)
      · show s_Z_layNight_L49 _ (m + 1) (nI t) (nI _) (nI (tn T)) _ = _
        rw [s_Z_layNight_L49, e_ldiq (j := 0) 0 rfl (by decide) (by decide), hz1.1, if_pos (nI_le (Nat.le_refl _) (by omega)), e_sti (by omega) (by decide)]
      · show s_Z_layNight_L49 _ (m + 1) (nI t) (nI _) (nI i) _ = s_Z_layNight_L49 _ m (nI t) (nI _) (nI (i + 1)) _
        rw [s_Z_layNight_L49, e_ldiq (j := 0) 0 rfl (by decide) (by decide), hz1.1, if_neg (nI_ge hi (by omega)), z_kindles wt hz1 hhd zs1 (F := (nf T hd sm t).1) (L := (nf T hd sm t).2) hi (by omega) (by rw [e_sio (by omega)]; exact hr.2 i hi) (nf_w wt (by omega) t) (fun u hu => by rw [e_sio (by omega)]; exact hr.1 u hu), e_bd, oI_if, e_vi, e_vi, nI_1, p2 (by omega), fa_or, sOf]
        have e0 : nI (sOf (kd T hd sm t) i) ||| 0 = nI (sOf (kd T hd sm t) i ||| 0) := fa_or _ 0
        rw [e0]
        show (if kd T hd sm t i = true then _ else _) = _
        by_cases hk : kd T hd sm t i = true
        · rw [if_pos hk, if_pos hk]
        · rw [if_neg hk, if_neg hk]
    rw [hset]
    obtain ⟨s', i1, i2, i3⟩ := z_left wt (hd := hd) (sm := sm) (t := t) (s_Z_layNight_L32 n) (tn T) 5000 0 (jm_si (jm_si s 74 t 0) 74 t (nI (sOf (kd T hd sm t) (tn T)))) (by omega) (by omega) (by rw [e_sio (by omega)]; exact hz1.1) (fun h hh => by rw [e_sio (by omega), e_sio (by omega), hr.2 h hh]; simp)
    have i1' : s_Z_layNight_L93 (s_Z_layNight_L32 n) 5000 (nI t) (nI (sOf (kd T hd sm t) (tn T))) 0 (jm_si (jm_si s 74 t 0) 74 t (nI (sOf (kd T hd sm t) (tn T)))) = _ := i1
    rw [i1', nI_1]
    refine ih n (t + 1) s' (by omega) (by omega) (ZN_same (fun c h1 h2 => by rw [i2 c (by omega), jm_si_o (by omega), jm_si_o (by omega)]) hz) (ZS_same (by rw [i2 69 (by decide), jm_si_o (by decide), jm_si_o (by decide)]) zs) ⟨fun u hu => ?_, i3⟩
    rw [i2 74 (by decide)]
    by_cases hut : u = t
    · subst hut
      rw [e_si]
      congr 1
      apply sOf_cong
      intro h hh
      show kd T hd sm u h = (if u = u then _ else _)
      rw [if_pos rfl]
      rfl
    · rw [e_sio (by omega), e_sio (by omega), hr.1 u (by omega)]
      congr 1
      apply sOf_cong
      intro h hh
      show _ = (if u = t then _ else _)
      rw [if_neg hut]
theorem z_night {T : tN} (wt : wT T) {hd : Nat} {sm : Nat → Bool} (hhd : hd < 1024) {s : jm_M} (hz : ZN s 0 T) (zs : ZS s 0 hd sm) : ∃ s', s_Z_layNight s = some s' ∧ NZ s' T hd sm 60 := by
  have w1 := wt.1
  have go : ∀ (k n q : Nat) (s : jm_M), q + k = tn T → k < n → ZN s 0 T → ZS s 0 hd sm → (∀ h, h < q → s.1 75 h = nI (tw T h)) → ∃ s', s_Z_layNight_L2 n (nI q) s = some s' ∧ NZ s' T hd sm 60 := by
    intro k
    induction k with
    | zero =>
      intro n q s hq hn hz zs hr
      obtain ⟨n, rfl⟩ : ∃ m, n = m + 1 := ⟨n - 1, by omega⟩
      rw [s_Z_layNight_L2, e_ldiq (j := 0) 0 rfl (by decide) (by decide), hz.1, if_pos (nI_le (by omega) (by omega))]
      exact z_minutes wt hhd 60 5000 0 s rfl (by decide) hz zs ⟨fun u hu => by omega, fun h hh => hr h (by omega)⟩
    | succ k ih =>
      intro n q s hq hn hz zs hr
      obtain ⟨n, rfl⟩ : ∃ m, n = m + 1 := ⟨n - 1, by omega⟩
      have hqn : q < tn T := by omega
      have g5 : s.1 66 q = nI (tw T q) := by have := (hz.2.1 q hqn).2.2.2.2; rwa [show 10 * 0 + q = q by omega] at this
      rw [s_Z_layNight_L2, e_ldiq (j := 0) 0 rfl (by decide) (by decide), hz.1, if_neg (nI_ge hqn (by omega)), e_ldi (by omega) (by decide), e_sti (by omega) (by decide), nI_1, g5]
      refine ih n (q + 1) _ (by omega) (by omega) (ZN_same (fun c h1 h2 => jm_si_o (by omega)) hz) (ZS_same (jm_si_o (by decide)) zs) (fun h hh => ?_)
      by_cases hhq : h = q
      · subst hhq; rw [e_si]
      · rw [e_sio (by omega)]; exact hr h (by omega)
  exact go (tn T) 5000 0 s (by omega) (by omega) hz zs (fun h hh => by omega)
