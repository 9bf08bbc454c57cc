theorem g_eq (x y : Int64) : lg_cmp x y = 0 ↔ x = y := by
  unfold lg_cmp
  by_cases h1 : y < x
  · rw [if_pos h1]
    rw [fa_lt64] at h1
    exact ⟨fun h => absurd h (by decide), fun h => by rw [h] at h1; omega⟩
  · rw [if_neg h1]
    by_cases h2 : x = y
    · rw [if_pos h2]; exact ⟨fun _ => h2, fun _ => rfl⟩
    · rw [if_neg h2]; exact ⟨fun h => absurd h (by decide), fun h => absurd h h2⟩
theorem w_zero {w : Int64} : w = 0 ↔ ∀ t, t < 64 → b64 w t = false := by
  constructor
  · rintro rfl t ht
    show (0#64).getLsbD t = false
    simp
  · intro h
    apply Int64.toBitVec_inj.1
    apply BitVec.eq_of_getLsbD_eq
    intro i hi
    have := h i hi
    show w.toBitVec.getLsbD i = (0#64).getLsbD i
    rw [b64] at this
    rw [this]
    simp
theorem lz_zero {s : jm_M} {T : tN} (wt : wT T) {nb h : Nat} (hX : XH s nb T h) : s.2 (nb + 8) h = 0 ↔ lzB T h = false := by
  rw [w_zero]
  constructor
  · intro hz
    cases hb : lzB T h with
    | false => rfl
    | true =>
      obtain ⟨t, ht, htz⟩ := (anB_iff _ _).mp hb
      rw [← hX.2.2.2.2.2.2.1 t (by omega), hz t (by omega)] at htz
      exact htz.symm
  · intro hl t ht
    rw [hX.2.2.2.2.2.2.1 t ht]
    cases hb : tz T h t with
    | false => rfl
    | true =>
      have h60 := (wt.2.2.2.2.2.1 h t hb).2.2
      have : lzB T h = true := (anB_iff _ _).mpr ⟨t, h60, hb⟩
      rw [hl] at this
      exact this.symm
theorem lz_out {T : tN} (wt : wT T) {h : Nat} (hh : tn T ≤ h) : lzB T h = false := by
  cases hb : lzB T h with
  | false => rfl
  | true =>
    obtain ⟨t, ht, htz⟩ := (anB_iff _ _).mp hb
    have := (wt.2.2.2.2.2.1 h t htz).1
    omega
theorem ct_up {p : Nat → Bool} {k m : Nat} (h : k ≤ m) (hp : ∀ i, k ≤ i → i < m → p i = false) : fb_ct p m = fb_ct p k := by
  obtain ⟨d, rfl⟩ : ∃ d, m = k + d := ⟨m - k, by omega⟩
  rw [fb_ct_split]
  have : fb_ct (fun i => p (k + i)) d = 0 := fb_ct_zero.mpr (fun i hi => hp (k + i) (by omega) (by omega))
  omega
theorem sm_up {f : Nat → Nat} {k m : Nat} (h : k ≤ m) (hp : ∀ i, k ≤ i → i < m → f i = 0) : fb_sm f m = fb_sm f k := by
  obtain ⟨d, rfl⟩ : ∃ d, m = k + d := ⟨m - k, by omega⟩
  rw [fb_sm_split]
  have : fb_sm (fun i => f (k + i)) d = fb_sm (fun _ => 0) d := fb_sm_cong (fun i hi => hp (k + i) (by omega) (by omega))
  rw [this, fb_sm_const]
  omega
theorem ts_lt {T : tN} (wt : wT T) {h : Nat} (hh : h < 10) : ts T h < 1024 := by
  have w1 := wt.1
  by_cases h1 : h < tn T
  · have h2 := (wt.2.1 h h1).2.1
    have h3 : 2 ^ tn T ≤ 2 ^ 10 := Nat.pow_le_pow_right (by decide) w1
    omega
  · rw [(wt.2.2.1 h (by omega) hh).1]
    decide
def sgt (T : tN) : Nat := fb_sm (fun h => bcn (ts T h)) (tn T)
theorem sgt_le {T : tN} (wt : wT T) (k : Nat) (hk : k ≤ 10) : fb_sm (fun h => bcn (ts T h)) k ≤ 100 := by
  have h := fb_sm_le (f := fun h => bcn (ts T h)) (g := fun _ => 10) (n := k) (fun i _ => bcn_le _)
  rw [fb_sm_const] at h
  omega
theorem x_sights {s : jm_M} {T : tN} (wt : wT T) (hx : XN s 15 T) : s_Ne_sights_15 s = some (nI (sgt T / 2)) := by
  have hs : ∀ h, h < 10 → s.1 17 h = nI (ts T h) := fun h hh => (hx.2 h hh).2.1
  have w1 := wt.1
  unfold s_Ne_sights_15
  refine lp_inv (fun n c (acc : Int32) => s_Ne_sights_15_L4 s n acc c) 10 (fun i => nI (fb_sm (fun h => bcn (ts T h)) i)) _ (fun n => ?_) (fun n i hi => ?_) 10 5000 0 rfl (by decide)
  · show s_Ne_sights_15_L4 s (n + 1) (nI _) (nI 10) = _
    have hl := sgt_le wt 10 (by decide)
    rw [s_Ne_sights_15_L4, if_pos (by decide), pk_shrN (by omega) _ 1 (by decide), Nat.pow_one, sgt, sm_up w1 (fun i h1 h2 => by rw [(wt.2.2.1 i h1 h2).1]; decide)]
  · show s_Ne_sights_15_L4 s (n + 1) (nI _) (nI i) = s_Ne_sights_15_L4 s n (nI _) (nI (i + 1))
    rw [s_Ne_sights_15_L4, if_neg (fun z => by rw [i_ge 10, nI_toInt (by omega)] at z; omega), e_ldi hi (by decide), hs i hi, x_bc s (ts_lt wt hi), e_bd, e_vi, nI_add, nI_1, fb_sm_succ]
theorem z_sights {s : jm_M} {T : tN} (wt : wT T) (hz : ZN s 0 T) : s_Z_count_L57 s 5000 0 0 = some (nI (sgt T / 2)) := by
  have w1 := wt.1
  have hs : ∀ h, h < tn T → s.1 63 h = nI (ts T h) := fun h hh => by have := (hz.2.1 h hh).2.1; rwa [show 10 * 0 + h = h by omega] at this
  refine lp_inv (fun n c (acc : Int32) => s_Z_count_L57 s n acc c) (tn T) (fun i => nI (fb_sm (fun h => bcn (ts T h)) i)) _ (fun n => ?_) (fun n i hi => ?_) (tn T) 5000 0 (by omega) (by omega)
  · show s_Z_count_L57 s (n + 1) (nI _) (nI (tn T)) = _
    have hl := sgt_le wt (tn T) w1
    rw [s_Z_count_L57, e_ldiq (j := 0) 0 rfl (by decide) (by decide), hz.1, if_pos (nI_le (Nat.le_refl _) (by omega)), show (2 : Int32) = nI 2 from rfl, pk_div (by omega) (by decide) (by decide)]
    rfl
  · show s_Z_count_L57 s (n + 1) (nI _) (nI i) = s_Z_count_L57 s n (nI _) (nI (i + 1))
    rw [s_Z_count_L57, e_ldiq (j := 0) 0 rfl (by decide) (by decide), hz.1, if_neg (nI_ge hi (by omega)), e_ldi (by omega) (by decide), hs i hi, z_bits s (ts_lt wt (by omega)), e_bd, e_vi, nI_add, nI_1, fb_sm_succ]
theorem x_liars {s : jm_M} {T : tN} (wt : wT T) (hx : XN s 15 T) : s_Ne_liars_15 s = some (nI (fb_ct (lzB T) (tn T))) := by
  have w1 := wt.1
  unfold s_Ne_liars_15
  refine lp_inv (fun n c (acc : Int32) => s_Ne_liars_15_L4 s n acc c) 10 (fun i => nI (fb_ct (lzB T) i)) _ (fun n => ?_) (fun n i hi => ?_) 10 5000 0 rfl (by decide)
  · show s_Ne_liars_15_L4 s (n + 1) (nI _) (nI 10) = _
    rw [s_Ne_liars_15_L4, if_pos (by decide), ct_up w1 (fun i h1 h2 => lz_out wt h1)]
  · show s_Ne_liars_15_L4 s (n + 1) (nI _) (nI i) = s_Ne_liars_15_L4 s n (nI _) (nI (i + 1))
    rw [s_Ne_liars_15_L4, if_neg (fun z => by rw [i_ge 10, nI_toInt (by omega)] at z; omega), e_ldl hi (by decide), fb_ct_succ]
    have hz : s.2 23 i = 0 ↔ lzB T i = false := lz_zero wt (hx.2 i hi)
    cases hb : lzB T i with
    | false => rw [if_pos ((g_eq _ _).mpr (hz.mpr hb)), nI_1]; simp
    | true => rw [if_neg (fun z => by rw [hz.mp ((g_eq _ _).mp z)] at hb; cases hb), nI_1, nI_1]; simp
theorem z_liars {s : jm_M} {T : tN} (wt : wT T) (hz : ZN s 0 T) : s_Z_count_L109 s 5000 0 0 = some (nI (fb_ct (lzB T) (tn T))) := by
  have w1 := wt.1
  obtain ⟨c, E, hE, hs⟩ := hz.2.2
  refine lp_inv (fun n c (acc : Int32) => s_Z_count_L109 s n acc c) (tn T) (fun i => nI (fb_ct (lzB T) i)) _ (fun n => ?_) (fun n i hi => ?_) (tn T) 5000 0 (by omega) (by omega)
  · show s_Z_count_L109 s (n + 1) (nI _) (nI (tn T)) = _
    rw [s_Z_count_L109, e_ldiq (j := 0) 0 rfl (by decide) (by decide), hz.1, if_pos (nI_le (Nat.le_refl _) (by omega))]
  · show s_Z_count_L109 s (n + 1) (nI _) (nI i) = s_Z_count_L109 s n (nI _) (nI (i + 1))
    rw [s_Z_count_L109, e_ldiq (j := 0) 0 rfl (by decide) (by decide), hz.1, if_neg (nI_ge hi (by omega)), z_isLiar hE hs (by omega), e_bd, fb_ct_succ]
    cases hb : lzB T i with
    | false => rw [oI_f, if_pos rfl, e_vi, nI_1, Int32.add_zero]; simp
    | true => rw [oI_t, if_neg e10, e_vi, nI_1, nI_1]; simp
def lgB (lg : Nat → Int32) (h : Nat) : Bool := decide (0 ≤ (lg h).toInt)
theorem x_logsW {s : jm_M} {T : tN} {lg : Nat → Int32} (wt : wT T) (wl : wL T lg) (xl : XL s 15 lg) : s_Ne_logsWritten_15 s = some (nI (fb_ct (lgB lg) (tn T))) := by
  have w1 := wt.1
  have hs : ∀ h, h < 10 → s.1 21 h = lg h := fun h hh => xl h hh
  unfold s_Ne_logsWritten_15
  refine lp_inv (fun n c (acc : Int32) => s_Ne_logsWritten_15_L4 s n acc c) 10 (fun i => nI (fb_ct (lgB lg) i)) _ (fun n => ?_) (fun n i hi => ?_) 10 5000 0 rfl (by decide)
  · show s_Ne_logsWritten_15_L4 s (n + 1) (nI _) (nI 10) = _
    rw [s_Ne_logsWritten_15_L4, if_pos (by decide), ct_up w1 (fun i h1 h2 => by rw [lgB, wl.2 i h1 h2]; decide)]
  · show s_Ne_logsWritten_15_L4 s (n + 1) (nI _) (nI i) = s_Ne_logsWritten_15_L4 s n (nI _) (nI (i + 1))
    rw [s_Ne_logsWritten_15_L4, if_neg (fun z => by rw [i_ge 10, nI_toInt (by omega)] at z; omega), e_ldi hi (by decide), hs i hi, fb_ct_succ]
    have hr := wl.1 i hi
    cases hb : lgB lg i with
    | false =>
      have : ¬ 0 ≤ (lg i).toInt := by simpa [lgB] using hb
      rw [if_pos ((i_eq (-1)).mpr (by omega)), nI_1]; simp
    | true =>
      have : 0 ≤ (lg i).toInt := by simpa [lgB] using hb
      rw [if_neg (fun z => by rw [i_eq (-1)] at z; omega), nI_1, nI_1]; simp
theorem z_logsW {s : jm_M} {T : tN} {lg : Nat → Int32} (wt : wT T) (hz : s.1 61 0 = nI (tn T)) (zl : ZL s 0 lg) : s_Z_count_L150 s 5000 0 0 = some (nI (fb_ct (lgB lg) (tn T))) := by
  have w1 := wt.1
  have hs : ∀ h, h < 10 → s.1 70 h = lg h := fun h hh => by have := zl h hh; rwa [show 10 * 0 + h = h by omega] at this
  refine lp_inv (fun n c (acc : Int32) => s_Z_count_L150 s n acc c) (tn T) (fun i => nI (fb_ct (lgB lg) i)) _ (fun n => ?_) (fun n i hi => ?_) (tn T) 5000 0 (by omega) (by omega)
  · show s_Z_count_L150 s (n + 1) (nI _) (nI (tn T)) = _
    rw [s_Z_count_L150, e_ldiq (j := 0) 0 rfl (by decide) (by decide), hz, if_pos (nI_le (Nat.le_refl _) (by omega))]
  · show s_Z_count_L150 s (n + 1) (nI _) (nI i) = s_Z_count_L150 s n (nI _) (nI (i + 1))
    rw [s_Z_count_L150, e_ldiq (j := 0) 0 rfl (by decide) (by decide), hz, if_neg (nI_ge hi (by omega)), e_ldi (by omega) (by decide), hs i (by omega), fb_ct_succ]
    cases hb : lgB lg i with
    | false =>
      have : ¬ 0 ≤ (lg i).toInt := by simpa [lgB] using hb
      rw [if_pos ((i_lt 0).mpr (by omega)), e_vi, nI_1, Int32.add_zero]; simp
    | true =>
      have : 0 ≤ (lg i).toInt := by simpa [lgB] using hb
      rw [if_neg (fun z => by rw [i_lt 0] at z; omega), e_vi, nI_1, nI_1]; simp
theorem m_count {s : jm_M} {T : tN} {lg : Nat → Int32} {len : Nat} {f : Nat → Nat} (wt : wT T) (hx : XN s 15 T) (hz : ZN s 0 T) (wl : wL T lg) (xl : XL s 15 lg) (zl : ZL s 0 lg) (ht : iT s len f) (hk : s.1 1 7 = s.1 59 12) (a : Int32) : ∃ r, s_X_count s a = some r ∧ s_Z_count s a = some r := by
  unfold s_X_count s_Z_count
  rw [e_ldiq (j := 0) 0 rfl (by decide) (by decide), hz.1, hx.1, x_sights wt hx, z_sights wt hz, x_liars wt hx, z_liars wt hz, x_logsW wt wl xl, z_logsW wt hz.1 zl, hk, ht.2.1, ht.2.2.1]
  have k1 : s_Ne_ofKind_15 s 1 = some (nI (kS T 1)) := x_ofKind wt (XN_k hx) (by decide)
  have k3 : s_Ne_ofKind_15 s 3 = some (nI (kS T 3)) := x_ofKind wt (XN_k hx) (by decide)
  have j1 : s_Z_ofKind s 1 = some (nI (kS T 1)) := z_ofKind wt hz.1 (ZN_k hz) (by decide)
  have j3 : s_Z_ofKind s 3 = some (nI (kS T 3)) := z_ofKind wt hz.1 (ZN_k hz) (by decide)
  simp only [k1, k3, j1, j3, e_bd, x_bc s (kS_lt T 1), x_bc s (kS_lt T 3), z_bits s (kS_lt T 1), z_bits s (kS_lt T 3)]
  have two : ∀ x : Option Int32, (∃ r, x = some r) → ∃ r, x = some r ∧ x = some r := fun x ⟨r, h⟩ => ⟨r, h, h⟩
  refine two _ ?_
  repeat' split
  all_goals exact ⟨_, rfl⟩
