/-! watch -/
theorem k_isM (s : jm_M) (a : Int32) : s_X_isMan s a = s_Z_in s a.toInt64 (-1) 12 := by
  unfold s_X_isMan
  rw [z_inL, Int32.toInt_toInt64, show (-1 : Int64).toInt = -1 by decide, show (12 : Int64).toInt = 12 by decide]
  by_cases h1 : a.toInt < -1
  · rw [if_pos ((i_lt (-1)).mpr h1), if_neg (by omega)]
  · rw [if_neg (fun h => h1 ((i_lt (-1)).mp h))]
    by_cases h2 : 12 < a.toInt
    · rw [if_pos ((i_gt 12).mpr h2), if_neg (by omega)]
    · rw [if_neg (fun h => h2 ((i_gt 12).mp h)), if_pos (by omega)]
/-- who is next: the hours f, the one before p (4 and more: nobody), the best so far q (4: none), from man i on -/
def wt_up (f : Nat → Int32) (p i q : Nat) : Nat := if i ≠ p ∧ 0 < (f i).toInt ∧ (q < 4 → (f q).toInt < (f i).toInt) then i else q
def wt_h (f : Nat → Int32) (q : Nat) : Int32 := if q < 4 then f q else 0
theorem wt_t {f : Nat → Int32} {p i q : Nat} (h : i ≠ p ∧ 0 < (f i).toInt ∧ (q < 4 → (f q).toInt < (f i).toInt)) : wt_up f p i q = i := if_pos h
theorem wt_f {f : Nat → Int32} {p i q : Nat} (h : ¬ (i ≠ p ∧ 0 < (f i).toInt ∧ (q < 4 → (f q).toInt < (f i).toInt))) : wt_up f p i q = q := if_neg h
theorem wt_h1 {f : Nat → Int32} {q : Nat} (h : q < 4) : wt_h f q = f q := if_pos h
theorem wt_h0 {f : Nat → Int32} {q : Nat} (h : ¬ q < 4) : wt_h f q = 0 := if_neg h
def wt_nx (f : Nat → Int32) (p : Nat) : Nat → Nat → Nat → Nat
  | 0, _, q => q
  | k + 1, i, q => wt_nx f p k (i + 1) (wt_up f p i q)
theorem wt_nx_lt (f : Nat → Int32) (p : Nat) : ∀ k i q, i + k = 4 → (q < 4 ∨ q = 4) → (q < 4 → 0 < (f q).toInt) → (wt_nx f p k i q < 4 ∨ wt_nx f p k i q = 4) ∧ (wt_nx f p k i q < 4 → 0 < (f (wt_nx f p k i q)).toInt) := by
  intro k
  induction k with
  | zero => intro i q _ h1 h2; exact ⟨h1, h2⟩
  | succ k ih =>
    intro i q hi h1 h2
    rw [wt_nx]
    by_cases hc : i ≠ p ∧ 0 < (f i).toInt ∧ (q < 4 → (f q).toInt < (f i).toInt)
    · rw [wt_t hc]
      exact ih (i + 1) i (by omega) (Or.inl (by omega)) (fun _ => hc.2.1)
    · rw [wt_f hc]
      exact ih (i + 1) q (by omega) h1 h2
/-- a man's number in the class's words, in the model's -/
def wt_X (q : Nat) : Int32 := if q < 4 then nI q else -1
def wt_Z (q : Nat) : Int32 := if q < 4 then nI q else -4
theorem wt_x {s : jm_M} {p : Nat} : ∀ (k n i q : Nat), i + k = 4 → k < n → (q < 4 ∨ q = 4) → (q < 4 → 0 < (s.1 56 q).toInt) → s_Wa_nextAwake_L7 s n (wt_X p) (wt_X q) (wt_h (s.1 56) q) (nI i) = some (wt_X (wt_nx (s.1 56) p k i q)) := by
  intro k
  induction k with
  | zero =>
    intro n i q hi hn h1 h2
    obtain ⟨n, rfl⟩ : ∃ m, n = m + 1 := ⟨n - 1, by omega⟩
    rw [s_Wa_nextAwake_L7, if_pos ((i_ge 4).mpr (by rw [nI_toInt (by omega)]; omega)), wt_nx]
  | succ k ih =>
    intro n i q hi hn h1 h2
    obtain ⟨n, rfl⟩ : ∃ m, n = m + 1 := ⟨n - 1, by omega⟩
    have hn1 : (nI i).toInt = i := nI_toInt (by omega)
    rw [s_Wa_nextAwake_L7, if_neg (fun z => by rw [i_ge 4] at z; omega), wt_nx]
    have hip : nI i = wt_X p ↔ i = p := by
      unfold wt_X
      by_cases hp : p < 4
      · rw [if_pos hp, nI_eq (by omega) (by omega)]
      · rw [if_neg hp, fa_eq, hn1, show (-1 : Int32).toInt = -1 by decide]
        omega
    by_cases hp : i = p
    · rw [if_pos (hip.mpr hp), wt_f (fun z => z.1 hp), nI_1]
      exact ih n (i + 1) q (by omega) (by omega) h1 h2
    · rw [if_neg (fun z => hp (hip.mp z)), e_ldi (by omega) (by decide)]
      by_cases hc : 0 < (s.1 56 i).toInt ∧ (q < 4 → (s.1 56 q).toInt < (s.1 56 i).toInt)
      · rw [wt_t ⟨hp, hc⟩, if_neg (fun z => by
          rw [fa_le] at z
          by_cases hq : q < 4
          · rw [wt_h1 hq] at z; have := hc.2 hq; omega
          · rw [wt_h0 hq, show (0 : Int32).toInt = 0 by decide] at z; omega), e_ldi (by omega) (by decide), nI_1]
        have := ih n (i + 1) i (by omega) (by omega) (Or.inl (by omega)) (fun _ => hc.1)
        rw [wt_h1 (show i < 4 by omega), show wt_X i = nI i by rw [wt_X, if_pos (by omega)]] at this
        exact this
      · rw [wt_f (fun z => hc z.2), if_pos (by
          rw [fa_le]
          by_cases hq : q < 4
          · rw [wt_h1 hq]
            have := h2 hq
            apply Classical.byContradiction
            intro z
            exact hc ⟨by omega, fun _ => by omega⟩
          · rw [wt_h0 hq, show (0 : Int32).toInt = 0 by decide]
            apply Classical.byContradiction
            intro z
            exact hc ⟨by omega, fun z2 => absurd z2 hq⟩), nI_1]
        exact ih n (i + 1) q (by omega) (by omega) h1 h2
theorem wt_z {s : jm_M} {p : Nat} (kk : Int32 → Int32 → Int32 → Int32 → jm_M → Option (Int32 × jm_M)) (t c u : Int32) : ∀ (k n i q : Nat), i + k = 4 → k < n → (q < 4 ∨ q = 4) → (q < 4 → 0 < (s.1 78 q).toInt) → s_Z_watch_L125 kk n t (wt_Z p) c u (wt_Z q) (nI i) s = (if wt_nx (s.1 78) p k i q < 4 then kk t (wt_Z (wt_nx (s.1 78) p k i q)) (c + 1) (u + 1) (jm_si s 78 (wt_nx (s.1 78) p k i q) (s.1 78 (wt_nx (s.1 78) p k i q) - 1)) else kk t (wt_Z (wt_nx (s.1 78) p k i q)) c (u + 1) s) := by
  intro k
  induction k with
  | zero =>
    intro n i q hi hn h1 h2
    obtain ⟨n, rfl⟩ : ∃ m, n = m + 1 := ⟨n - 1, by omega⟩
    rw [s_Z_watch_L125, if_pos ((i_ge 4).mpr (by rw [nI_toInt (by omega)]; omega)), wt_nx]
    by_cases hq : q < 4
    · have e1 : wt_Z q = nI q := by rw [wt_Z, if_pos hq]
      rw [if_pos hq, e1, if_neg (fun z => by rw [i_eq (-4), nI_toInt (by omega)] at z; omega), e_ldi hq (by decide), e_sti hq (by decide)]
    · rw [if_neg hq, if_pos (by rw [wt_Z, if_neg hq])]
  | succ k ih =>
    intro n i q hi hn h1 h2
    obtain ⟨n, rfl⟩ : ∃ m, n = m + 1 := ⟨n - 1, by omega⟩
    have hn1 : (nI i).toInt = i := nI_toInt (by omega)
    rw [s_Z_watch_L125, if_neg (fun z => by rw [i_ge 4] at z; omega), wt_nx, e_ldi (by omega) (by decide)]
    have hip : nI i = wt_Z p ↔ i = p := by
      unfold wt_Z
      by_cases hp : p < 4
      · rw [if_pos hp, nI_eq (by omega) (by omega)]
      · rw [if_neg hp, fa_eq, hn1, show (-4 : Int32).toInt = -4 by decide]
        omega
    by_cases h0 : (s.1 78 i).toInt ≤ 0
    · rw [if_pos ((i_le 0).mpr h0), wt_f (fun z => by omega), nI_1]
      exact ih n (i + 1) q (by omega) (by omega) h1 h2
    · rw [if_neg (fun z => h0 ((i_le 0).mp z))]
      by_cases hp : i = p
      · rw [if_pos (hip.mpr hp), wt_f (fun z => z.1 hp), nI_1]
        exact ih n (i + 1) q (by omega) (by omega) h1 h2
      · rw [if_neg (fun z => hp (hip.mp z))]
        have ei : wt_Z i = nI i := by rw [wt_Z, if_pos (by omega)]
        by_cases hq : q < 4
        · have e1 : wt_Z q = nI q := by rw [wt_Z, if_pos hq]
          rw [e1, if_neg (fun z => by rw [i_eq (-4), nI_toInt (by omega)] at z; omega), e_ldi (by omega) (by decide), e_ldi hq (by decide)]
          by_cases hc : (s.1 78 q).toInt < (s.1 78 i).toInt
          · rw [if_neg (fun z => by rw [fa_le] at z; omega), wt_t ⟨hp, by omega, fun _ => hc⟩, nI_1, ← ei]
            exact ih n (i + 1) i (by omega) (by omega) (Or.inl (by omega)) (fun _ => by omega)
          · rw [if_pos (by rw [fa_le]; omega), wt_f (fun z => hc (z.2.2 hq)), nI_1, ← e1]
            exact ih n (i + 1) q (by omega) (by omega) h1 h2
        · rw [if_pos (show wt_Z q = -4 by rw [wt_Z, if_neg hq]), wt_t ⟨hp, by omega, fun z => absurd z hq⟩, nI_1, ← ei]
          exact ih n (i + 1) i (by omega) (by omega) (Or.inl (by omega)) (fun _ => by omega)
/-- hours watched: both play the same -/
theorem wt_play : ∀ (k n n2 : Nat) (t : Nat) (i : Nat) (c : Int32) (p : Nat) (s s2 : jm_M), i + k = t → t ≤ 12 → k < n → k < n2 → (∀ q, q < 4 → s.1 56 q = s2.1 78 q) → (p < 4 ∨ p = 4) → ∃ r s1 s3, s_Wa_hoursWatched_L7 n (nI t) c (wt_X p) (nI i) s = some (r, s1) ∧ s_Z_watch_L112 n2 (nI t) (wt_Z p) c (nI i) s2 = some (r, s3) := by
  intro k
  induction k with
  | zero =>
    intro n n2 t i c p s s2 hi ht hn hn2 hs hp
    obtain ⟨n, rfl⟩ : ∃ m, n = m + 1 := ⟨n - 1, by omega⟩
    obtain ⟨n2, rfl⟩ : ∃ m, n2 = m + 1 := ⟨n2 - 1, by omega⟩
    rw [s_Wa_hoursWatched_L7, s_Z_watch_L112, if_pos (nI_le (by omega) (by omega)), if_pos (nI_le (by omega) (by omega))]
    exact ⟨_, _, _, rfl, rfl⟩
  | succ k ih =>
    intro n n2 t i c p s s2 hi ht hn hn2 hs hp
    obtain ⟨n, rfl⟩ : ∃ m, n = m + 1 := ⟨n - 1, by omega⟩
    obtain ⟨n2, rfl⟩ : ∃ m, n2 = m + 1 := ⟨n2 - 1, by omega⟩
    have hf : wt_nx (s.1 56) p 4 0 4 = wt_nx (s2.1 78) p 4 0 4 := by
      have hw : ∀ i q, i < 4 → q ≤ 4 → wt_up (s.1 56) p i q = wt_up (s2.1 78) p i q := by
        intro i q hi hq
        unfold wt_up
        rw [hs i hi]
        by_cases hq4 : q < 4
        · rw [hs q hq4]
        · congr 1
          simp [hq4]
      have hb : ∀ i q, i < 4 → q ≤ 4 → wt_up (s2.1 78) p i q ≤ 4 := by
        intro i q hi hq
        unfold wt_up
        split <;> omega
      simp only [wt_nx]
      rw [hw 0 4 (by decide) (by decide), hw 1 _ (by decide) (hb 0 4 (by decide) (by decide)), hw 2 _ (by decide) (hb 1 _ (by decide) (hb 0 4 (by decide) (by decide))), hw 3 _ (by decide) (hb 2 _ (by decide) (hb 1 _ (by decide) (hb 0 4 (by decide) (by decide))))]
    have hx := wt_x (s := s) (p := p) 4 5000 0 4 rfl (by decide) (Or.inr rfl) (fun h => by omega)
    have hz := wt_z (s := s2) (p := p) (s_Z_watch_L112 n2) (nI t) c (nI i) 4 5000 0 4 rfl (by decide) (Or.inr rfl) (fun h => by omega)
    have hb := wt_nx_lt (s2.1 78) p 4 0 4 rfl (Or.inr rfl) (fun h => by omega)
    rw [hf] at hx
    generalize wt_nx (s2.1 78) p 4 0 4 = q at hx hz hb
    rw [s_Wa_hoursWatched_L7, s_Z_watch_L112, if_neg (nI_ge (by omega) (by omega)), if_neg (nI_ge (by omega) (by omega))]
    have hx' : s_Wa_nextAwake s (wt_X p) = some (wt_X q) := by
      rw [s_Wa_nextAwake]
      exact hx
    have hz' : s_Z_watch_L125 (s_Z_watch_L112 n2) 5000 (nI t) (wt_Z p) c (nI i) (-4) 0 s2 = _ := hz
    rw [hx', hz', e_bd]
    by_cases hq : q < 4
    · have e1 : wt_X q = nI q := by rw [wt_X, if_pos hq]
      rw [if_pos hq, e1, if_neg (nI_pos (by omega)), if_neg (fun z => by rw [i_ge 4, nI_toInt (by omega)] at z; omega), e_ldi hq (by decide), e_sti hq (by decide), nI_1, ← e1]
      refine ih n n2 t (i + 1) (c + 1) q _ _ (by omega) ht (by omega) (by omega) (fun z hz => ?_) (Or.inl hq)
      by_cases hzq : z = q
      · subst hzq
        rw [e_si, e_si, hs z hq]
      · rw [e_sio (by omega), e_sio (by omega)]
        exact hs z hz
    · rw [if_neg hq, if_pos (show wt_X q < 0 by rw [wt_X, if_neg hq]; decide), nI_1]
      exact ih n n2 t (i + 1) c q s s2 (by omega) ht (by omega) (by omega) hs hb.1
theorem wt_come (s : jm_M) (a b c d : Int32) : s_Wa_come s a b c d = some (jm_si (jm_si (jm_si (jm_si s 56 0 a) 56 1 b) 56 2 c) 56 3 d) := by
  unfold s_Wa_come
  rw [show jm_sti s 56 4 0 = jm_sti s 56 4 (nI 0) from rfl, e_sti (by decide) (by decide)]
  rw [show ∀ t : jm_M, jm_sti t 56 4 1 b = jm_sti t 56 4 (nI 1) b from fun _ => rfl, e_sti (by decide) (by decide)]
  rw [show ∀ t : jm_M, jm_sti t 56 4 2 c = jm_sti t 56 4 (nI 2) c from fun _ => rfl, e_sti (by decide) (by decide)]
  rw [show ∀ t : jm_M, jm_sti t 56 4 3 d = jm_sti t 56 4 (nI 3) d from fun _ => rfl, e_sti (by decide) (by decide)]
def wt_v (a b c d : Int32) (q : Nat) : Int32 := if q = 0 then a else if q = 1 then b else if q = 2 then c else d
theorem wt_vx (s : jm_M) (i : Nat) (a b c d : Int32) (q : Nat) (hq : q < 4) : (jm_si (jm_si (jm_si (jm_si s i 0 a) i 1 b) i 2 c) i 3 d).1 i q = wt_v a b c d q := by
  unfold wt_v
  rcases (show q = 0 ∨ q = 1 ∨ q = 2 ∨ q = 3 by omega) with rfl | rfl | rfl | rfl
  · rw [e_sio (by omega), e_sio (by omega), e_sio (by omega), e_si]; rfl
  · rw [e_sio (by omega), e_sio (by omega), e_si]; rfl
  · rw [e_sio (by omega), e_si]; rfl
  · rw [e_si]; rfl
theorem wt_zput {α : Type} (s : jm_M) (a b c d : Int32) (f : jm_M → Option α) : jm_sti s 78 4 0 a (fun s6 => jm_sti s6 78 4 1 b (fun s7 => jm_sti s7 78 4 2 c (fun s8 => jm_sti s8 78 4 3 d f))) = f (jm_si (jm_si (jm_si (jm_si s 78 0 a) 78 1 b) 78 2 c) 78 3 d) := by
  rw [show jm_sti s 78 4 0 = jm_sti s 78 4 (nI 0) from rfl, e_sti (by decide) (by decide)]
  rw [show ∀ t : jm_M, jm_sti t 78 4 1 b = jm_sti t 78 4 (nI 1) b from fun _ => rfl, e_sti (by decide) (by decide)]
  rw [show ∀ t : jm_M, jm_sti t 78 4 2 c = jm_sti t 78 4 (nI 2) c from fun _ => rfl, e_sti (by decide) (by decide)]
  rw [show ∀ t : jm_M, jm_sti t 78 4 3 d = jm_sti t 78 4 (nI 3) d from fun _ => rfl, e_sti (by decide) (by decide)]
theorem m_watch (s : jm_M) (t a b c d : Int32) : ∃ r s1 s2, s_X_watch s t a b c d = some (r, s1) ∧ s_Z_watch s1 t a b c d = some (r, s2) := by
  unfold s_X_watch s_Z_watch
  by_cases h1 : t.toInt < 1
  · rw [if_pos ((i_lt 1).mpr h1)]
    exact ⟨_, s, s, rfl, by rw [z_in0 1 12 (by omega)]; rfl⟩
  · rw [if_neg (fun z => h1 ((i_lt 1).mp z))]
    by_cases h2 : 12 < t.toInt
    · rw [if_pos ((i_gt 12).mpr h2)]
      exact ⟨_, s, s, rfl, by rw [z_in0 1 12 (by omega)]; rfl⟩
    · rw [if_neg (fun z => h2 ((i_gt 12).mp z)), k_isM, k_isM, k_isM, k_isM]
      have bad : ∀ x : Int32, ¬ (-1 ≤ x.toInt ∧ x.toInt ≤ 12) → ∀ s : jm_M, s_Z_in s x.toInt64 (-1) 12 = some 0 := fun x hx s => z_in0 (-1) 12 hx
      have ok : ∀ x : Int32, (-1 ≤ x.toInt ∧ x.toInt ≤ 12) → ∀ s : jm_M, s_Z_in s x.toInt64 (-1) 12 = some 1 := fun x hx s => z_in1 (-1) 12 hx.1 hx.2
      have okt : ∀ s : jm_M, s_Z_in s t.toInt64 1 12 = some 1 := fun s => z_in1 1 12 (by omega) (by omega)
      by_cases ha : -1 ≤ a.toInt ∧ a.toInt ≤ 12
      · by_cases hb : -1 ≤ b.toInt ∧ b.toInt ≤ 12
        · by_cases hc : -1 ≤ c.toInt ∧ c.toInt ≤ 12
          · by_cases hd : -1 ≤ d.toInt ∧ d.toInt ≤ 12
            · obtain ⟨k, rfl, hk, -⟩ := n_of (x := t) (by omega)
              simp only [ok a ha, ok b hb, ok c hc, ok d hd, okt, e_bd, e10, if_false]
              simp only [wt_come, wt_zput, e_bd]
              rw [s_Wa_hoursWatched]
              generalize hs5 : jm_si (jm_si (jm_si (jm_si s 56 0 a) 56 1 b) 56 2 c) 56 3 d = s5
              have h5 : ∀ q, q < 4 → s5.1 56 q = wt_v a b c d q := fun q hq => by rw [← hs5]; exact wt_vx s 56 a b c d q hq
              have P : ∀ s1 : jm_M, ∃ r s2 s3, s_Wa_hoursWatched_L7 5000 (nI k) 0 (-1) 0 s5 = some (r, s2) ∧ s_Z_watch_L112 5000 (nI k) (-4) 0 0 (jm_si (jm_si (jm_si (jm_si s1 78 0 a) 78 1 b) 78 2 c) 78 3 d) = some (r, s3) := fun s1 =>
                wt_play k 5000 5000 k 0 0 4 s5 _ (by omega) (by omega) (by omega) (by omega) (fun q hq => by rw [h5 q hq, wt_vx s1 78 a b c d q hq]) (Or.inr rfl)
              obtain ⟨r, s2, -, hx, -⟩ := P s5
              rw [hx, e_b2]
              obtain ⟨r', s2', s3, hx', hz⟩ := P s2
              rw [hx] at hx'
              cases hx'
              exact ⟨r, s2, s3, rfl, hz⟩
            · simp only [ok a ha, ok b hb, ok c hc, bad d hd, e_bd, e10, if_false, if_true]
              exact ⟨_, s, s, rfl, by simp only [okt, ok a ha, ok b hb, ok c hc, bad d hd, e_bd, e10, if_false, if_true]⟩
          · simp only [ok a ha, ok b hb, bad c hc, e_bd, e10, if_false, if_true]
            exact ⟨_, s, s, rfl, by simp only [okt, ok a ha, ok b hb, bad c hc, e_bd, e10, if_false, if_true]⟩
        · simp only [ok a ha, bad b hb, e_bd, e10, if_false, if_true]
          exact ⟨_, s, s, rfl, by simp only [okt, ok a ha, bad b hb, e_bd, e10, if_false, if_true]⟩
      · simp only [bad a ha, e_bd, if_true]
        exact ⟨_, s, s, rfl, by simp only [okt, bad a ha, e_bd, e10, if_false, if_true]⟩
