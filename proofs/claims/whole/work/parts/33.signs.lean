/-! signs -/
def iS (s : jm_M) : Prop := ∀ k, k < 72 → s.1 54 k = s.1 71 k ∧ 0 ≤ (s.1 71 k).toInt ∧ (s.1 71 k).toInt ≤ 3
theorem k_isS (s : jm_M) (a : Int32) : s_X_isSign s a = s_Z_in s a.toInt64 0 5 := by
  unfold s_X_isSign
  rw [z_inL, Int32.toInt_toInt64, show (0 : Int64).toInt = 0 by decide, show (5 : Int64).toInt = 5 by decide]
  by_cases h1 : a.toInt < 0
  · rw [if_pos ((i_lt 0).mpr h1), if_neg (by omega)]
  · rw [if_neg (fun h => h1 ((i_lt 0).mp h))]
    by_cases h2 : 6 ≤ a.toInt
    · rw [if_pos ((i_ge 6).mpr h2), if_neg (by omega)]
    · rw [if_neg (fun h => h2 ((i_ge 6).mp h)), if_pos (by omega)]
theorem k_ix12 (i j : Nat) : nI i * 12 + nI j = nI (12 * i + j) := by
  rw [show (12 : Int32) = nI 12 from rfl, pk_mul, nI_add, Nat.mul_comm]
theorem k_ix12' (i j : Nat) : 12 * nI i + nI j = nI (12 * i + j) := by
  rw [show (12 : Int32) = nI 12 from rfl, pk_mul, nI_add]
theorem m_sign {s : jm_M} (h : iS s) (a b c : Int32) : ∃ r s1 s2, s_X_sign s a b c = some (r, s1) ∧ s_Z_sign s1 a b c = some (r, s2) ∧ iS s2 := by
  unfold s_X_sign s_Z_sign
  rw [k_isS]
  by_cases h1 : 0 ≤ a.toInt ∧ a.toInt ≤ 5
  · rw [z_in1 0 5 h1.1 h1.2, e_bd, if_neg (by decide)]
    by_cases h2 : b.toInt < 0
    · rw [if_pos ((i_lt 0).mpr h2)]
      exact ⟨_, s, s, rfl, by rw [z_in1 0 5 h1.1 h1.2, e_bd, if_neg (by decide), z_in0 0 11 (by omega)]; rfl, h⟩
    · rw [if_neg (fun q => h2 ((i_lt 0).mp q))]
      by_cases h3 : 12 ≤ b.toInt
      · rw [if_pos ((i_ge 12).mpr h3)]
        exact ⟨_, s, s, rfl, by rw [z_in1 0 5 h1.1 h1.2, e_bd, if_neg (by decide), z_in0 0 11 (by omega)]; rfl, h⟩
      · rw [if_neg (fun q => h3 ((i_ge 12).mp q))]
        by_cases h4 : c.toInt < 0
        · rw [if_pos ((i_lt 0).mpr h4)]
          exact ⟨_, s, s, rfl, by rw [z_in1 0 5 h1.1 h1.2, e_bd, if_neg (by decide), z_in1 0 11 (by omega) (by omega), e_bd, if_neg (by decide), z_in0 0 3 (by omega)]; rfl, h⟩
        · rw [if_neg (fun q => h4 ((i_lt 0).mp q))]
          by_cases h5 : c.toInt ≤ 3
          · rw [if_pos ((i_le 3).mpr h5)]
            obtain ⟨i, rfl, hi, -⟩ := n_of (x := a) (by omega)
            obtain ⟨j, rfl, hj, -⟩ := n_of (x := b) (by omega)
            have hf : s_Si_firesIn s (nI i) (nI j) = some (s.1 54 (12 * i + j)) := by
              unfold s_Si_firesIn
              rw [k_isS, z_in1 0 5 h1.1 h1.2, e_bd, if_neg (by decide), if_neg (fun q => h2 ((i_lt 0).mp q)), if_pos ((i_lt 12).mpr (by omega)), k_ix12, e_ldi (by omega) (by decide)]
            have hg : s_Si_setFires s (nI i) (nI j) c = some (jm_si s 54 (12 * i + j) c) := by
              unfold s_Si_setFires
              rw [k_isS, z_in1 0 5 h1.1 h1.2, e_bd, if_neg (by decide), if_neg (fun q => h2 ((i_lt 0).mp q)), if_neg (fun q => h3 ((i_ge 12).mp q)), k_ix12, e_sti (by omega) (by decide)]
            rw [hf, e_bd, hg, e_bd]
            refine ⟨_, _, jm_si (jm_si s 54 (12 * i + j) c) 71 (12 * i + j) c, rfl, ?_, ?_⟩
            · rw [z_in1 0 5 h1.1 h1.2, e_bd, if_neg (by decide), z_in1 0 11 (by omega) (by omega), e_bd, if_neg (by decide), z_in1 0 3 (by omega) (by omega), e_bd, if_neg (by decide), k_ix12', e_ldi (by omega) (by decide), e_sti (by omega) (by decide), e_sio (by omega), (h (12 * i + j) (by omega)).1]
            · intro q hq
              by_cases hqk : q = 12 * i + j
              · subst hqk
                rw [e_si, e_sio (by omega), e_si]
                exact ⟨rfl, by omega, by omega⟩
              · rw [e_sio (by omega), e_sio (by omega), e_sio (by omega), e_sio (by omega)]
                exact h q hq
          · rw [if_neg (fun q => h5 ((i_le 3).mp q))]
            exact ⟨_, s, s, rfl, by rw [z_in1 0 5 h1.1 h1.2, e_bd, if_neg (by decide), z_in1 0 11 (by omega) (by omega), e_bd, if_neg (by decide), z_in0 0 3 (by omega)]; rfl, h⟩
  · rw [z_in0 0 5 h1, e_bd, if_pos rfl]
    exact ⟨_, s, s, rfl, by rw [z_in0 0 5 h1]; rfl, h⟩
/-! near -/
def nr_F (s : jm_M) (a : Nat) (t : Int32) : Int32 := if 0 ≤ t.toInt ∧ t.toInt ≤ 11 then s.1 71 (12 * a + t.toNatClampNeg) else 0
def nr_g (x y : Int32) : Int32 := if x = y then 0 else if x ≤ 0 then 1 else if y ≤ 0 then 1 else 2
def nr_S (s : jm_M) (a b : Nat) (d : Int32) : Nat → Int32 → Int32 → Int32
  | 0, _, acc => acc
  | k + 1, t, acc => nr_S s a b d k (t + 1) (acc + nr_g (nr_F s a t) (nr_F s b (t + d)))
theorem nr_F0 {s : jm_M} (h : iS s) {a : Nat} (ha : a < 6) (t : Int32) : 0 ≤ (nr_F s a t).toInt := by
  unfold nr_F
  by_cases ht : 0 ≤ t.toInt ∧ t.toInt ≤ 11
  · rw [if_pos ht]
    obtain ⟨j, rfl, hj, hj2⟩ := n_of ht.1
    rw [nI_clamp (by omega)]
    exact (h _ (by omega)).2.1
  · rw [if_neg ht]; decide
theorem nr_x {s : jm_M} (h : iS s) {a : Nat} (ha : a < 6) (t : Int32) : s_Si_firesIn s (nI a) t = some (nr_F s a t) := by
  unfold s_Si_firesIn nr_F
  have e1 : (nI a).toInt = a := nI_toInt (by omega)
  rw [k_isS, z_in1 0 5 (by omega) (by omega), e_bd, if_neg (by decide)]
  by_cases h1 : t.toInt < 0
  · rw [if_pos ((i_lt 0).mpr h1), if_neg (by omega)]
  · rw [if_neg (fun q => h1 ((i_lt 0).mp q))]
    by_cases h2 : t.toInt < 12
    · rw [if_pos ((i_lt 12).mpr h2), if_pos (by omega)]
      obtain ⟨j, rfl, hj, hj2⟩ := n_of (x := t) (by omega)
      rw [k_ix12, e_ldi (by omega) (by decide), nI_clamp (by omega), (h _ (by omega)).1]
    · rw [if_neg (fun q => h2 ((i_lt 12).mp q)), if_neg (by omega)]
theorem nr_gx {v w acc : Int32} (hv : 0 ≤ v.toInt) (hw : 0 ≤ w.toInt) (hn : ¬ v = w) : (if v ≤ 0 then (if w ≤ 0 then acc + (0 + 0) else acc + (0 + 1)) else (if w ≤ 0 then acc + (1 + 0) else acc + (1 + 1))) = acc + nr_g v w := by
  unfold nr_g
  rw [if_neg hn]
  rw [fa_eq] at hn
  by_cases h1 : v ≤ 0
  · rw [if_pos h1, if_pos h1]
    rw [i_le 0] at h1
    rw [if_neg (fun q => by rw [i_le 0] at q; omega)]
    rfl
  · rw [if_neg h1, if_neg h1]
    by_cases h2 : w ≤ 0
    · rw [if_pos h2, if_pos h2]; rfl
    · rw [if_neg h2, if_neg h2]; rfl
theorem nr_xin {s : jm_M} (h : iS s) {a b : Nat} (ha : a < 6) (hb : b < 6) (d : Int32) : ∀ (k n : Nat) (t acc : Int32), k < n → t.toInt = 15 - (k : Int) → k ≤ 18 → s_Si_takenIfMoved_L7 s n (nI a) (nI b) d acc t = some (nr_S s a b d k t acc) := by
  intro k
  induction k with
  | zero =>
    intro n t acc hn ht hk
    obtain ⟨n, rfl⟩ : ∃ m, n = m + 1 := ⟨n - 1, by omega⟩
    rw [s_Si_takenIfMoved_L7, if_pos ((i_ge 15).mpr (by omega)), nr_S]
  | succ k ih =>
    intro n t acc hn ht hk
    obtain ⟨n, rfl⟩ : ∃ m, n = m + 1 := ⟨n - 1, by omega⟩
    have ht1 : (t + 1).toInt = 15 - (k : Int) := by rw [fb_addI (by rw [show (1 : Int32).toInt = 1 by decide]; omega) (by rw [show (1 : Int32).toInt = 1 by decide]; omega), show (1 : Int32).toInt = 1 by decide]; omega
    rw [s_Si_takenIfMoved_L7, if_neg (fun q => by rw [i_ge 15] at q; omega), nr_x h ha, e_bd, nr_x h hb, e_bd, nr_S]
    by_cases he : nr_F s a t = nr_F s b (t + d)
    · rw [if_pos he, ih n (t + 1) acc (by omega) ht1 (by omega)]
      unfold nr_g
      rw [if_pos he, Int32.add_zero]
    · rw [if_neg he, ← nr_gx (nr_F0 h ha t) (nr_F0 h hb _) he]
      by_cases h1 : nr_F s a t ≤ 0
      · rw [if_pos h1, if_pos h1]
        unfold s_Si_takenIfMoved_J53
        by_cases h2 : nr_F s b (t + d) ≤ 0
        · rw [if_pos h2, if_pos h2, e_vi, ih n (t + 1) _ (by omega) ht1 (by omega)]
        · rw [if_neg h2, if_neg h2, e_vi, ih n (t + 1) _ (by omega) ht1 (by omega)]
      · rw [if_neg h1, if_neg h1]
        unfold s_Si_takenIfMoved_J53
        by_cases h2 : nr_F s b (t + d) ≤ 0
        · rw [if_pos h2, if_pos h2, e_vi, ih n (t + 1) _ (by omega) ht1 (by omega)]
        · rw [if_neg h2, if_neg h2, e_vi, ih n (t + 1) _ (by omega) ht1 (by omega)]
theorem nr_zj {s : jm_M} (kk : Int32 → Int32 → Int32 → Int32 → Option Int32) (k2 : Int32 → Int32 → Int32 → Int32 → Int32 → Int32 → Option Int32) (a b best d acc t v w : Int32) : s_Z_near_J125 s kk k2 a b best d acc t v w = k2 a b best d (acc + nr_g v w) (t + 1) := by
  unfold s_Z_near_J125 nr_g
  by_cases h1 : v = w
  · rw [if_pos h1, if_pos h1, e_vi]
  · rw [if_neg h1, if_neg h1]
    by_cases h2 : v ≤ 0
    · rw [if_pos h2, if_pos h2, e_vi]
    · rw [if_neg h2, if_neg h2]
      by_cases h3 : w ≤ 0
      · rw [if_pos h3, if_pos h3, e_vi]
      · rw [if_neg h3, if_neg h3, e_vi]
theorem nr_z8 {s : jm_M} {b : Nat} (hb : b < 6) (kk : Int32 → Int32 → Int32 → Int32 → Option Int32) (k2 : Int32 → Int32 → Int32 → Int32 → Int32 → Int32 → Option Int32) (a best d acc t v : Int32) : s_Z_near_J88 s kk k2 a (nI b) best d acc t v = k2 a (nI b) best d (acc + nr_g v (nr_F s b (t + d))) (t + 1) := by
  unfold s_Z_near_J88 nr_F
  by_cases h1 : 0 ≤ (t + d).toInt ∧ (t + d).toInt ≤ 11
  · rw [z_in1 0 11 h1.1 h1.2, e_bd, if_neg (by decide), if_pos h1, Int32.add_assoc]
    obtain ⟨j, hj, hj1, hj2⟩ := n_of h1.1
    rw [hj, k_ix12', e_ldi (by omega) (by decide), nI_clamp (by omega), nr_zj]
  · rw [z_in0 0 11 h1, e_bd, if_pos rfl, if_neg h1, nr_zj]
theorem nr_zin {s : jm_M} {a b : Nat} (ha : a < 6) (hb : b < 6) (d best : Int32) (kk : Int32 → Int32 → Int32 → Int32 → Option Int32) : ∀ (k n : Nat) (t acc : Int32), k < n → t.toInt = 15 - (k : Int) → k ≤ 18 → s_Z_near_L52 s kk n (nI a) (nI b) best d acc t = kk (nI a) (nI b) (jm_min best (nr_S s a b d k t acc)) (d + 1) := by
  intro k
  induction k with
  | zero =>
    intro n t acc hn ht hk
    obtain ⟨n, rfl⟩ : ∃ m, n = m + 1 := ⟨n - 1, by omega⟩
    rw [s_Z_near_L52, if_pos ((i_ge 15).mpr (by omega)), nr_S]
    unfold jm_min
    by_cases h : best ≤ acc
    · rw [if_pos h, if_neg (by rw [fa_le] at h; rw [fa_lt]; omega)]
    · rw [if_neg h, if_pos (by rw [fa_le] at h; rw [fa_lt]; omega)]
  | succ k ih =>
    intro n t acc hn ht hk
    obtain ⟨n, rfl⟩ : ∃ m, n = m + 1 := ⟨n - 1, by omega⟩
    have ht1 : (t + 1).toInt = 15 - (k : Int) := by rw [fb_addI (by rw [show (1 : Int32).toInt = 1 by decide]; omega) (by rw [show (1 : Int32).toInt = 1 by decide]; omega), show (1 : Int32).toInt = 1 by decide]; omega
    have key : s_Z_near_L52 s kk (n + 1) (nI a) (nI b) best d acc t = s_Z_near_L52 s kk n (nI a) (nI b) best d (acc + nr_g (nr_F s a t) (nr_F s b (t + d))) (t + 1) := by
      rw [s_Z_near_L52, if_neg (fun q => by rw [i_ge 15] at q; omega)]
      by_cases h1 : 0 ≤ t.toInt ∧ t.toInt ≤ 11
      · obtain ⟨j, hj, hj1, hj2⟩ := n_of h1.1
        rw [z_in1 0 11 h1.1 h1.2, e_bd, if_neg (by decide), nr_F, if_pos h1, hj, k_ix12', e_ldi (by omega) (by decide), nI_clamp (by omega), nr_z8 hb]
      · rw [z_in0 0 11 h1, e_bd, if_pos rfl, nr_z8 hb, show nr_F s a t = 0 by rw [nr_F, if_neg h1]]
    rw [key, ih n (t + 1) _ (by omega) ht1 (by omega), nr_S]
theorem nr_gr (v w : Int32) : 0 ≤ (nr_g v w).toInt ∧ (nr_g v w).toInt ≤ 2 := by
  unfold nr_g
  repeat' split
  all_goals decide
theorem nr_b0 {s : jm_M} (a b : Nat) : ∀ (k : Nat) (t acc : Int32), t.toInt = 15 - (k : Int) → k ≤ 18 → 0 ≤ acc.toInt → acc.toInt + 2 * (k : Int) ≤ 100 → (nr_S s a b 0 k t acc).toInt ≤ acc.toInt + 2 * ((min 12 (k - 3) : Nat) : Int) := by
  intro k
  induction k with
  | zero => intro t acc _ _ _ _; rw [nr_S]; omega
  | succ k ih =>
    intro t acc ht hk h0 h1
    have ht1 : (t + 1).toInt = 15 - (k : Int) := by rw [fb_addI (by rw [show (1 : Int32).toInt = 1 by decide]; omega) (by rw [show (1 : Int32).toInt = 1 by decide]; omega), show (1 : Int32).toInt = 1 by decide]; omega
    have hg := nr_gr (nr_F s a t) (nr_F s b (t + 0))
    have ha : (acc + nr_g (nr_F s a t) (nr_F s b (t + 0))).toInt = acc.toInt + (nr_g (nr_F s a t) (nr_F s b (t + 0))).toInt := fb_addI (by omega) (by omega)
    rw [nr_S]
    have hi := ih (t + 1) (acc + nr_g (nr_F s a t) (nr_F s b (t + 0))) ht1 (by omega) (by omega) (by omega)
    by_cases hr : 0 ≤ t.toInt ∧ t.toInt ≤ 11
    · omega
    · have hz : nr_g (nr_F s a t) (nr_F s b (t + 0)) = 0 := by
        rw [Int32.add_zero, nr_F, if_neg hr, nr_F, if_neg hr, nr_g, if_pos rfl]
      rw [hz, show (0 : Int32).toInt = 0 by decide] at ha
      rw [hz] at hi ⊢
      omega
theorem nr_xo {s : jm_M} (h : iS s) {a b : Nat} (ha : a < 6) (hb : b < 6) (n : Nat) (acc d : Int32) (hd : d.toInt ≤ 3) : s_Si_fewestTaken_L7 s (n + 1) (nI a) (nI b) acc d = s_Si_fewestTaken_L7 s n (nI a) (nI b) (jm_min acc (nr_S s a b d 18 (-3) 0)) (d + 1) := by
  rw [s_Si_fewestTaken_L7, if_neg (fun q => by rw [i_gt 3] at q; omega), s_Si_takenIfMoved, nr_xin h ha hb d 18 5000 (-3) 0 (by decide) (by decide) (by decide), e_bd, e_vi]
theorem nr_zo {s : jm_M} {a b : Nat} (ha : a < 6) (hb : b < 6) (n : Nat) (acc d : Int32) (hd : d.toInt ≤ 3) : s_Z_near_L39 s (n + 1) (nI a) (nI b) acc d = s_Z_near_L39 s n (nI a) (nI b) (jm_min acc (nr_S s a b d 18 (-3) 0)) (d + 1) := by
  rw [s_Z_near_L39, if_neg (fun q => by rw [i_gt 3] at q; omega), nr_zin ha hb d acc _ 18 5000 (-3) 0 (by decide) (by decide) (by decide)]
def nr_all (s : jm_M) (a b : Nat) (z : Int32) : Int32 := jm_min (jm_min (jm_min (jm_min (jm_min (jm_min (jm_min z (nr_S s a b (-3) 18 (-3) 0)) (nr_S s a b (-2) 18 (-3) 0)) (nr_S s a b (-1) 18 (-3) 0)) (nr_S s a b 0 18 (-3) 0)) (nr_S s a b 1 18 (-3) 0)) (nr_S s a b 2 18 (-3) 0)) (nr_S s a b 3 18 (-3) 0)
theorem nr_xa {s : jm_M} (h : iS s) {a b : Nat} (ha : a < 6) (hb : b < 6) : s_Si_fewestTaken s (nI a) (nI b) = some (nr_all s a b 24) := by
  unfold s_Si_fewestTaken nr_all
  rw [nr_xo h ha hb 4999 _ _ (by decide), show ((-3 : Int32) + 1) = -2 by decide, nr_xo h ha hb 4998 _ _ (by decide), show ((-2 : Int32) + 1) = -1 by decide, nr_xo h ha hb 4997 _ _ (by decide), show ((-1 : Int32) + 1) = 0 by decide, nr_xo h ha hb 4996 _ _ (by decide), show ((0 : Int32) + 1) = 1 by decide, nr_xo h ha hb 4995 _ _ (by decide), show ((1 : Int32) + 1) = 2 by decide, nr_xo h ha hb 4994 _ _ (by decide), show ((2 : Int32) + 1) = 3 by decide, nr_xo h ha hb 4993 _ _ (by decide), show ((3 : Int32) + 1) = 4 by decide, s_Si_fewestTaken_L7, if_pos (by decide)]
theorem nr_za {s : jm_M} {a b : Nat} (ha : a < 6) (hb : b < 6) : s_Z_near_L39 s 5000 (nI a) (nI b) 1000 (-3) = some (nr_all s a b 1000) := by
  unfold nr_all
  rw [nr_zo ha hb 4999 _ _ (by decide), show ((-3 : Int32) + 1) = -2 by decide, nr_zo ha hb 4998 _ _ (by decide), show ((-2 : Int32) + 1) = -1 by decide, nr_zo ha hb 4997 _ _ (by decide), show ((-1 : Int32) + 1) = 0 by decide, nr_zo ha hb 4996 _ _ (by decide), show ((0 : Int32) + 1) = 1 by decide, nr_zo ha hb 4995 _ _ (by decide), show ((1 : Int32) + 1) = 2 by decide, nr_zo ha hb 4994 _ _ (by decide), show ((2 : Int32) + 1) = 3 by decide, nr_zo ha hb 4993 _ _ (by decide), show ((3 : Int32) + 1) = 4 by decide, s_Z_near_L39, if_pos (by decide)]
theorem i_min (x y : Int32) : (jm_min x y).toInt = min x.toInt y.toInt := by
  unfold jm_min
  by_cases h : y < x
  · rw [if_pos h]; rw [fa_lt] at h; omega
  · rw [if_neg h]; rw [fa_lt] at h; omega
theorem nr_same {s : jm_M} (a b : Nat) : nr_all s a b 24 = nr_all s a b 1000 := by
  have h := nr_b0 (s := s) a b 18 (-3) 0 (by decide) (by decide) (by decide) (by decide)
  rw [show (0 : Int32).toInt = 0 by decide] at h
  rw [fa_eq]
  unfold nr_all
  simp only [i_min]
  rw [show (24 : Int32).toInt = 24 by decide, show (1000 : Int32).toInt = 1000 by decide]
  omega
theorem m_near {s : jm_M} (h : iS s) (a b : Int32) : ∃ r, s_X_near s a b = some r ∧ s_Z_near s a b = some r := by
  unfold s_X_near s_Z_near
  rw [k_isS, k_isS]
  by_cases h1 : 0 ≤ a.toInt ∧ a.toInt ≤ 5
  · rw [z_in1 0 5 h1.1 h1.2]
    simp only [e_bd, e10, if_false]
    by_cases h2 : 0 ≤ b.toInt ∧ b.toInt ≤ 5
    · rw [z_in1 0 5 h2.1 h2.2]
      simp only [e_bd, e10, if_false]
      by_cases h3 : a = b
      · rw [if_pos h3, if_pos h3]
        exact ⟨_, rfl, rfl⟩
      · rw [if_neg h3, if_neg h3]
        obtain ⟨i, rfl, hi, -⟩ := n_of h1.1
        obtain ⟨j, rfl, hj, -⟩ := n_of h2.1
        rw [nr_xa h (by omega) (by omega), nr_za (by omega) (by omega), e_bd, nr_same]
        exact ⟨_, rfl, rfl⟩
    · rw [z_in0 0 5 h2]
      exact ⟨_, rfl, rfl⟩
  · rw [z_in0 0 5 h1]
    exact ⟨_, rfl, rfl⟩
