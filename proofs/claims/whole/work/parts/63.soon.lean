/-! who burnt too soon -/
def erB (T : tN) (lg : Nat → Int32) (e : Int32) (i : Nat) : Bool := kB T 1 i && decide (0 ≤ (lg i).toInt ∧ (lg i).toInt < e.toInt)
def ers (T : tN) (lg : Nat → Int32) : Nat → Int32
  | 0 => 60
  | i + 1 => if erB T lg (ers T lg i) i then lg i else ers T lg i
theorem ers_bd (T : tN) (lg : Nat → Int32) : ∀ i, 0 ≤ (ers T lg i).toInt ∧ (ers T lg i).toInt ≤ 60
  | 0 => by rw [ers]; decide
  | i + 1 => by
    have ih := ers_bd T lg i
    rw [ers]
    split
    · rename_i h
      unfold erB at h
      simp only [Bool.and_eq_true, decide_eq_true_eq] at h
      omega
    · exact ih
theorem ers_up {T : tN} {lg : Nat → Int32} {k m : Nat} (h : k ≤ m) (hk : tn T ≤ k) : ers T lg m = ers T lg k := by
  obtain ⟨d, rfl⟩ : ∃ d, m = k + d := ⟨m - k, by omega⟩
  clear h
  induction d with
  | zero => rfl
  | succ d ih =>
    show ers T lg (k + d + 1) = _
    rw [ers, ih, if_neg]
    unfold erB kB
    rw [show decide (k + d < tn T) = false by simp; omega]
    simp
theorem x_earliest {s : jm_M} {T : tN} {lg : Nat → Int32} (wt : wT T) (hx : XN s 15 T) (wl : wL T lg) (xl : XL s 15 lg) : s_Lo_earliestHead_15 s = some (ers T lg (tn T)) := by
  have w1 := wt.1
  have hl : ∀ o, o < 10 → s.1 21 o = lg o := fun o ho => xl o ho
  unfold s_Lo_earliestHead_15
  have := lp_inv (fun n c (acc : Int32) => s_Lo_earliestHead_15_L5 s n acc c) 10 (fun i => ers T lg i) (some (ers T lg (tn T))) (fun n => ?_) (fun n i hi => ?_) 10 5000 0 rfl (by decide)
  · exact this
  · show s_Lo_earliestHead_15_L5 s (n + 1) _ (nI 10) = _
    rw [s_Lo_earliestHead_15_L5, if_pos (by decide), ers_up w1 (Nat.le_refl _)]
  · show s_Lo_earliestHead_15_L5 s (n + 1) _ (nI i) = s_Lo_earliestHead_15_L5 s n _ (nI (i + 1))
    have hr := wl.1 i hi
    rw [s_Lo_earliestHead_15_L5, if_neg (fun z => by rw [i_ge 10, nI_toInt (by omega)] at z; omega), e_ldi hi (by decide), XN_k hx i hi, ers, nI_1]
    unfold erB
    by_cases hk : kB T 1 i = true
    · rw [if_pos (show tkI T i = 1 from (tkI_eq wt (v := 1) (by decide)).mpr hk), e_ldi hi (by decide), hl i hi, hk, Bool.true_and]
      by_cases m1 : (lg i).toInt = -1
      · rw [if_pos ((i_eq (-1)).mpr m1), if_neg (by simp only [decide_eq_true_eq]; omega)]
      · rw [if_neg (fun z => m1 ((i_eq (-1)).mp z)), e_ldi hi (by decide), hl i hi, e_vi]
        unfold jm_min
        by_cases m2 : (lg i).toInt < (ers T lg i).toInt
        · rw [if_pos ((fa_lt _ _).mpr m2), if_pos (by simp only [decide_eq_true_eq]; omega)]
        · rw [if_neg (fun z => m2 ((fa_lt _ _).mp z)), if_neg (by simp only [decide_eq_true_eq]; omega)]
    · rw [if_neg (show ¬ tkI T i = 1 from fun z => hk ((tkI_eq wt (v := 1) (by decide)).mp z)), if_neg (by simp [hk])]
/-- too soon -/
def tsB (T : tN) (lg : Nat → Int32) (e : Int32) (z : Nat → Nat) (h : Nat) : Bool := kB T 0 h && (decide (0 ≤ (lg h).toInt ∧ (lg h).toInt ≤ 59) && (decide (z h = 1000000) || !decide (nI (z h) + e - 1 ≤ lg h)))
theorem x_from {s : jm_M} {C : tC} {A W m lc : Nat} (wc : wC C) (hA : A < 1024) (hm : m ≤ 99) (h9 : s.1 48 9 = nI m) (xl : XLt s C A W m) (h1 : 1 ≤ lc) (h2 : lc + 8 ≤ m) (h3 : ∀ u, lc ≤ u → bq C A W u = bq C A W lc) {h z : Nat} (hh : h < 10) (hz1 : 1 ≤ z) (hz2 : z ≤ 1000000) (hz : ∀ t, 1 + t ≤ 1000000 → (z + 1 ≤ 1 + t ↔ (bq C A W t).testBit h = true)) : s_Co_burnsFrom s (nI h) = some (if z = 1000000 then -4 else nI z) := by
  have hle : z < 1000000 → z ≤ lc := fun hlt => by
    apply Classical.byContradiction
    intro hn
    have := (hz z (by omega)).mp (by omega)
    rw [h3 z (by omega)] at this
    have := (hz lc (by omega)).mpr this
    omega
  have H : ∀ (k n t : Nat), t + k = m + 1 → k < n → 1 ≤ t → (∀ u, u < t → (bq C A W u).testBit h = false) → s_Co_burnsFrom_L2 s n (nI h) (nI t) = some (if z = 1000000 then -4 else nI z) := by
    intro k
    induction k with
    | zero =>
      intro n t ht hn ht1 hu
      obtain ⟨n, rfl⟩ : ∃ q, n = q + 1 := ⟨n - 1, by omega⟩
      rw [s_Co_burnsFrom_L2, h9, if_pos (by rw [fa_lt, nI_toInt (by omega), nI_toInt (by omega)]; omega)]
      have : ¬ z < 1000000 := fun hlt => by
        have h4 := hle hlt
        have := (hz z (by omega)).mp (by omega)
        rw [hu z (by omega)] at this
        cases this
      rw [if_pos (by omega)]
    | succ k ih =>
      intro n t ht hn ht1 hu
      obtain ⟨n, rfl⟩ : ∃ q, n = q + 1 := ⟨n - 1, by omega⟩
      have hb : bq C A W t < 1024 := bq_lt hA t
      rw [s_Co_burnsFrom_L2, h9, if_neg (fun q => by rw [fa_lt, nI_toInt (by omega), nI_toInt (by omega)] at q; omega), if_neg (fun q => by rw [i_ge 100, nI_toInt (by omega)] at q; omega), e_ldi (by omega) (by decide), xl t ht1 (by omega), bit1o (by omega) (by omega), nI_1]
      cases hbt : (bq C A W t).testBit h with
      | false =>
        rw [oI_f, if_pos rfl]
        refine ih n (t + 1) (by omega) (by omega) (by omega) (fun u hu2 => ?_)
        by_cases e : u = t
        · rw [e]; exact hbt
        · exact hu u (by omega)
      | true =>
        rw [oI_t, if_neg e10]
        have a := (hz t (by omega)).mpr hbt
        have b : z = t := by
          apply Classical.byContradiction
          intro hn2
          have := (hz z (by omega)).mp (by omega)
          rw [hu z (by omega)] at this
          cases this
        rw [if_neg (by omega), b]
  exact H m 5000 1 (by omega) (by omega) (Nat.le_refl _) (fun u hu => by rw [show u = 0 by omega, bq_0]; simp)
theorem x_soon22 {s : jm_M} {T : tN} {lg : Nat → Int32} (wt : wT T) (hx : XN s 15 T) (wl : wL T lg) (xl : XL s 15 lg) {z : Nat → Nat} (hz : ∀ h, h < tn T → z h ≤ 1000000 ∧ s_Co_burnsFrom s (nI h) = some (if z h = 1000000 then -4 else nI (z h))) (e : Int32) : s_Lo_tooSoon_15_48_L22 5000 e 0 0 s = some (nI (sOf (tsB T lg e z) (tn T)), s) := by
  have w1 := wt.1
  have hl : ∀ o, o < 10 → s.1 21 o = lg o := fun o ho => xl o ho
  have up : sOf (tsB T lg e z) 10 = sOf (tsB T lg e z) (tn T) := sOf_up w1 (fun i h1 _ => by unfold tsB kB; simp; omega)
  have := lp_inv (fun n c (acc : Int32) => s_Lo_tooSoon_15_48_L22 n e acc c s) 10 (fun i => nI (sOf (tsB T lg e z) i)) (some (nI (sOf (tsB T lg e z) (tn T)), s)) (fun n => ?_) (fun n i hi => ?_) 10 5000 0 rfl (by decide)
  · exact this
  · show s_Lo_tooSoon_15_48_L22 (n + 1) e (nI _) (nI 10) s = _
    rw [s_Lo_tooSoon_15_48_L22, if_pos (by decide), up]
  · show s_Lo_tooSoon_15_48_L22 (n + 1) e (nI _) (nI i) s = s_Lo_tooSoon_15_48_L22 n e (nI _) (nI (i + 1)) s
    have hr := wl.1 i hi
    have skip : tsB T lg e z i = false → sOf (tsB T lg e z) (i + 1) = sOf (tsB T lg e z) i := fun h => by rw [sOf, if_neg (by rw [h]; decide), Nat.or_zero]
    have take : tsB T lg e z i = true → nI (sOf (tsB T lg e z) i) ||| nI (2 ^ i) = nI (sOf (tsB T lg e z) (i + 1)) := fun h => by rw [sOf, if_pos h, fa_or]
    rw [s_Lo_tooSoon_15_48_L22, if_neg (fun q => by rw [i_ge 10, nI_toInt (by omega)] at q; omega), e_ldi hi (by decide), XN_k hx i hi, nI_1]
    by_cases hk : kB T 0 i = true
    · have hit : i < tn T := by unfold kB at hk; simp only [Bool.and_eq_true, decide_eq_true_eq] at hk; exact hk.1
      obtain ⟨z1, z2⟩ := hz i hit
      rw [if_pos (show tkI T i = 0 from (tkI_eq wt (v := 0) (by decide)).mpr hk), e_ldi hi (by decide), hl i hi]
      unfold s_Lo_isBurning
      by_cases m1 : 0 ≤ (lg i).toInt ∧ (lg i).toInt ≤ 59
      · rw [if_neg (fun q => by rw [i_eq (-1)] at q; omega), if_neg (fun q => by rw [i_ge 60] at q; omega), e_bd, if_neg e10, z2, e_bd, p2 (by omega)]
        have et : tsB T lg e z i = (decide (z i = 1000000) || !decide (nI (z i) + e - 1 ≤ lg i)) := by unfold tsB; rw [hk, dT m1]; rfl
        by_cases m2 : z i = 1000000
        · rw [if_pos m2, if_pos rfl, e_vi, take (by rw [et, dT m2]; rfl)]
        · rw [if_neg m2, if_neg (nI_n4 (by omega)), e_ldi hi (by decide), hl i hi]
          by_cases m3 : nI (z i) + e - 1 ≤ lg i
          · rw [if_pos m3, skip (by rw [et, dF m2, dT m3]; rfl)]
          · rw [if_neg m3, e_vi, take (by rw [et, dF m3]; simp)]
      · rw [skip (by unfold tsB; rw [dF m1]; simp)]
        by_cases m4 : (lg i).toInt = -1
        · rw [if_pos ((i_eq (-1)).mpr m4), e_bd, if_pos rfl]
        · rw [if_neg (fun q => m4 ((i_eq (-1)).mp q)), if_pos (by rw [i_ge 60]; omega), e_bd, if_pos rfl]
    · rw [if_neg (show ¬ tkI T i = 0 from fun q => hk ((tkI_eq wt (v := 0) (by decide)).mp q)), skip (by unfold tsB; simp [hk])]
theorem z_soon92 {s : jm_M} {T : tN} {lg : Nat → Int32} (wt : wT T) {C : tC} (zc : ZC s T C) (wl : wL T lg) (zl : ZL s 0 lg) {z : Nat → Nat} (hz : zS s T z) (e : Int32) : s_Z_soon_L92 5000 e 0 0 s = some (nI (sOf (tsB T lg e z) (tn T)), s) := by
  have w1 := wt.1
  have hl : ∀ o, o < 10 → s.1 70 o = lg o := fun o ho => by have := zl o ho; rwa [show 10 * 0 + o = o by omega] at this
  have := lp_inv (fun n c (acc : Int32) => s_Z_soon_L92 n e acc c s) (tn T) (fun i => nI (sOf (tsB T lg e z) i)) (some (nI (sOf (tsB T lg e z) (tn T)), s)) (fun n => ?_) (fun n i hi => ?_) (tn T) 5000 0 (by omega) (by omega)
  · exact this
  · show s_Z_soon_L92 (n + 1) e (nI _) (nI (tn T)) s = _
    rw [s_Z_soon_L92, e_ldiq (j := 0) 0 rfl (by decide) (by decide), zc.1, if_pos (nI_le (Nat.le_refl _) (by omega))]
  · show s_Z_soon_L92 (n + 1) e (nI _) (nI i) s = s_Z_soon_L92 n e (nI _) (nI (i + 1)) s
    have hr := wl.1 i (by omega)
    have hk3 := (wt.2.1 i hi).1
    obtain ⟨z1, z2⟩ := hz i hi
    have J : ∀ b : Bool, tsB T lg e z i = b → s_Z_soon_J163 (s_Z_soon_L92 n) e (nI (sOf (tsB T lg e z) i)) (nI i) (oI b) s = s_Z_soon_L92 n e (nI (sOf (tsB T lg e z) (i + 1))) (nI (i + 1)) s := fun b hb => by
      unfold s_Z_soon_J163
      rw [sOf, nI_1]
      cases b with
      | false => rw [oI_f, if_pos rfl, e_vi, if_neg (by rw [hb]; decide), show nI (sOf (tsB T lg e z) i) ||| 0 = nI (sOf (tsB T lg e z) i ||| 0) from fa_or _ 0]
      | true => rw [oI_t, if_neg e10, e_vi, p2 (by omega), fa_or, if_pos hb]
    have J0 := fun h => J false h
    have J1 := fun h => J true h
    rw [oI_f] at J0
    rw [oI_t] at J1
    rw [s_Z_soon_L92, e_ldiq (j := 0) 0 rfl (by decide) (by decide), zc.1, if_neg (nI_ge hi (by omega)), e_ldi (by omega) (by decide), (zc.2.1 i hi).1]
    by_cases hk : tk T i = 0
    · have hkb : kB T 0 i = true := by unfold kB; simp [hi, hk]
      rw [if_pos (by rw [hk]; rfl), e_ldi (by omega) (by decide), hl i (by omega), z_inO 0 59]
      by_cases m1 : 0 ≤ (lg i).toInt ∧ (lg i).toInt ≤ 59
      · rw [dT m1, oI_t, e_bd, if_neg e10, e_ldi (by omega) (by decide), z1]
        have et : tsB T lg e z i = (decide (z i = 1000000) || !decide (nI (z i) + e - 1 ≤ lg i)) := by unfold tsB; rw [hkb, dT m1]; rfl
        by_cases m2 : z i = 1000000
        · rw [if_pos (by rw [m2]; rfl)]
          exact J1 (by rw [et, dT m2]; rfl)
        · rw [if_neg (fun q => m2 ((nI_eq (by omega) (by omega)).mp (q.trans (show (1000000 : Int32) = nI 1000000 from rfl)))), e_ldi (by omega) (by decide), hl i (by omega), e_ldi (by omega) (by decide), z1]
          by_cases m3 : nI (z i) + e - 1 ≤ lg i
          · rw [if_pos m3]
            exact J0 (by rw [et, dF m2, dT m3]; rfl)
          · rw [if_neg m3]
            exact J1 (by rw [et, dF m3]; simp)
      · rw [dF m1, oI_f, e_bd, if_pos rfl]
        exact J0 (by unfold tsB; rw [dF m1]; simp)
    · rw [if_neg (fun q => hk ((nI_eq (by omega) (by omega)).mp (q.trans (show (0 : Int32) = nI 0 from rfl))))]
      exact J0 (by unfold tsB kB; simp [hk])
theorem z_soon5 {s : jm_M} {T : tN} {lg : Nat → Int32} (wt : wT T) (hz : ZN s 0 T) (wl : wL T lg) (zl : ZL s 0 lg) : s_Z_soon s = s_Z_soon_L5 1 (ers T lg (tn T)) (nI (tn T)) s ∨ ∃ n, s_Z_soon s = s_Z_soon_L5 (n + 1) (ers T lg (tn T)) (nI (tn T)) s := by
  have w1 := wt.1
  have hl : ∀ o, o < 10 → s.1 70 o = lg o := fun o ho => by have := zl o ho; rwa [show 10 * 0 + o = o by omega] at this
  right
  have H : ∀ (k n i : Nat), i + k = tn T → k < n → ∃ m, s_Z_soon_L5 n (ers T lg i) (nI i) s = s_Z_soon_L5 (m + 1) (ers T lg (tn T)) (nI (tn T)) s := by
    intro k
    induction k with
    | zero =>
      intro n i hi hn
      rw [show i = tn T by omega]
      exact ⟨n - 1, by rw [show n - 1 + 1 = n by omega]⟩
    | succ k ih =>
      intro n i hi hn
      obtain ⟨n, rfl⟩ : ∃ q, n = q + 1 := ⟨n - 1, by omega⟩
      obtain ⟨m, hm⟩ := ih n (i + 1) (by omega) (by omega)
      refine ⟨m, ?_⟩
      rw [← hm]
      have hit : i < tn T := by omega
      have hr := wl.1 i (by omega)
      have hk3 := (wt.2.1 i hit).1
      rw [s_Z_soon_L5, e_ldiq (j := 0) 0 rfl (by decide) (by decide), hz.1, if_neg (nI_ge hit (by omega)), e_ldi (by omega) (by decide), ZN_k hz i hit, ers, nI_1]
      unfold erB
      by_cases hk : tk T i = 1
      · have hkb : kB T 1 i = true := by unfold kB; simp [hit, hk]
        rw [if_pos (by rw [hk]; rfl), e_ldi (by omega) (by decide), hl i (by omega), hkb, Bool.true_and]
        by_cases m1 : (lg i).toInt < 0
        · rw [if_pos ((i_lt 0).mpr m1), if_neg (by simp only [decide_eq_true_eq]; omega)]
        · rw [if_neg (fun q => m1 ((i_lt 0).mp q)), e_ldi (by omega) (by decide), hl i (by omega)]
          by_cases m2 : (ers T lg i).toInt ≤ (lg i).toInt
          · rw [if_pos ((fa_le _ _).mpr m2), if_neg (by simp only [decide_eq_true_eq]; omega)]
          · rw [if_neg (fun q => m2 ((fa_le _ _).mp q)), e_ldi (by omega) (by decide), hl i (by omega), if_pos (by simp only [decide_eq_true_eq]; omega)]
      · rw [if_neg (fun q => hk ((nI_eq (by omega) (by omega)).mp (q.trans (show (1 : Int32) = nI 1 from rfl)))), if_neg (by unfold kB; simp [hk])]
  exact H (tn T) 5000 0 (by omega) (by omega)
