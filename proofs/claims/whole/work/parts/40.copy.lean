/-! nets copied -/
/-- the class's: d becomes e -/
def bcA (d e : Nat) (s : jm_M) (i : Nat) : jm_M := (fun c k => if d + 1 ≤ c ∧ c ≤ d + 6 ∧ k < i then s.1 (c - d + e) k else s.1 c k, fun c k => if d + 7 ≤ c ∧ c ≤ d + 8 ∧ k < i then s.2 (c - d + e) k else s.2 c k)
def bcM (d e : Nat) (s : jm_M) (i : Nat) : jm_M := (s.1, fun c k => if c = d + 9 ∧ k < i then s.2 (e + 9) k else s.2 c k)
def bcH (d e : Nat) (s : jm_M) : jm_M := jm_sl (jm_si (jm_si s d 0 (s.1 e 0)) d 10 ((jm_si s d 0 (s.1 e 0)).1 e 10)) d 11 ((jm_si (jm_si s d 0 (s.1 e 0)) d 10 ((jm_si s d 0 (s.1 e 0)).1 e 10)).2 e 11)
theorem jm_ext {s t : jm_M} (h1 : ∀ c k, s.1 c k = t.1 c k) (h2 : ∀ c k, s.2 c k = t.2 c k) : s = t := Prod.ext (funext fun c => funext fun k => h1 c k) (funext fun c => funext fun k => h2 c k)
theorem bm_15_5 (s : jm_M) : s_Ne_become_15_5_L136 5000 0 s = some (bcM 15 5 s 100) := by
  have h0 : bcM 15 5 s 0 = s := jm_ext (fun _ _ => rfl) (fun c k => by simp [bcM])
  have := lp_inv (fun n c (t : jm_M) => s_Ne_become_15_5_L136 n c t) 100 (fun i => bcM 15 5 s i) (some (bcM 15 5 s 100)) (fun n => ?_) (fun n i hi => ?_) 100 5000 0 rfl (by decide)
  · simp only [h0] at this
    exact this
  · show s_Ne_become_15_5_L136 (n + 1) (nI 100) _ = _
    rw [s_Ne_become_15_5_L136, if_pos (by decide)]
  · show s_Ne_become_15_5_L136 (n + 1) (nI i) _ = s_Ne_become_15_5_L136 n (nI (i + 1)) _
    rw [s_Ne_become_15_5_L136, if_neg (fun z => by rw [i_ge 100, nI_toInt (by omega)] at z; omega), e_ldl hi (by decide), e_stl hi (by decide), nI_1]
    congr 1
    refine jm_ext (fun _ _ => rfl) (fun c k => ?_)
    show (if c = 24 ∧ k = i then (if 14 = 15 + 9 ∧ i < i then s.2 (5 + 9) i else s.2 14 i) else (if c = 15 + 9 ∧ k < i then s.2 (5 + 9) k else s.2 c k)) = (if c = 15 + 9 ∧ k < i + 1 then s.2 (5 + 9) k else s.2 c k)
    by_cases h1 : c = 24 ∧ k = i
    · obtain ⟨rfl, rfl⟩ := h1
      rw [if_pos ⟨rfl, rfl⟩, if_neg (by omega), if_pos ⟨rfl, by omega⟩]
    · rw [if_neg h1]
      by_cases h2 : c = 15 + 9 ∧ k < i
      · rw [if_pos h2, if_pos ⟨h2.1, by omega⟩]
      · rw [if_neg h2, if_neg (by omega)]
theorem bs_15_5 (s : jm_M) : s_Ne_become_15_5_L26 5000 0 s = some (bcM 15 5 (bcA 15 5 s 10) 100) := by
  have h0 : bcA 15 5 s 0 = s := jm_ext (fun c k => by simp [bcA]) (fun c k => by simp [bcA])
  have := lp_inv (fun n c (t : jm_M) => s_Ne_become_15_5_L26 n c t) 10 (fun i => bcA 15 5 s i) (some (bcM 15 5 (bcA 15 5 s 10) 100)) (fun n => ?_) (fun n i hi => ?_) 10 5000 0 rfl (by decide)
  · simp only [h0] at this
    exact this
  · show s_Ne_become_15_5_L26 (n + 1) (nI 10) _ = _
    rw [s_Ne_become_15_5_L26, if_pos (by decide), bm_15_5]
  · show s_Ne_become_15_5_L26 (n + 1) (nI i) _ = s_Ne_become_15_5_L26 n (nI (i + 1)) _
    have r1 : ∀ q, 1 ≤ q → q ≤ 6 → (bcA 15 5 s i).1 (5 + q) i = s.1 (5 + q) i := fun q h1 h2 => by
      show (if 15 + 1 ≤ 5 + q ∧ 5 + q ≤ 15 + 6 ∧ i < i then _ else _) = _
      rw [if_neg (by omega)]
    have r2 : ∀ q, 7 ≤ q → q ≤ 8 → (bcA 15 5 s i).2 (5 + q) i = s.2 (5 + q) i := fun q h1 h2 => by
      show (if 15 + 7 ≤ 5 + q ∧ 5 + q ≤ 15 + 8 ∧ i < i then _ else _) = _
      rw [if_neg (by omega)]
    rw [s_Ne_become_15_5_L26, if_neg (fun z => by rw [i_ge 10, nI_toInt (by omega)] at z; omega)]
    rw [e_ldi hi (by decide), e_sti hi (by decide), e_ldi hi (by decide), e_sti hi (by decide), e_ldi hi (by decide), e_sti hi (by decide), e_ldi hi (by decide), e_sti hi (by decide), e_ldi hi (by decide), e_sti hi (by decide), e_ldi hi (by decide), e_sti hi (by decide), e_ldl hi (by decide), e_stl hi (by decide), e_ldl hi (by decide), e_stl hi (by decide), nI_1]
    congr 1
    have a1 := r1 1 (by decide) (by decide)
    have a2 := r1 2 (by decide) (by decide)
    have a3 := r1 3 (by decide) (by decide)
    have a4 := r1 4 (by decide) (by decide)
    have a5 := r1 5 (by decide) (by decide)
    have a6 := r1 6 (by decide) (by decide)
    have a7 := r2 7 (by decide) (by decide)
    have a8 := r2 8 (by decide) (by decide)
    simp only [Nat.reduceAdd] at a1 a2 a3 a4 a5 a6 a7 a8
    refine jm_ext (fun c k => ?_) (fun c k => ?_)
    · simp only [jm_si, jm_sl, Nat.reduceEqDiff, false_and, if_false, a1, a2, a3, a4, a5, a6]
      by_cases hk : k = i
      · subst hk
        rcases (show c = 16 ∨ c = 17 ∨ c = 18 ∨ c = 19 ∨ c = 20 ∨ c = 21 ∨ (c < 16 ∨ 21 < c) by omega) with rfl | rfl | rfl | rfl | rfl | rfl | hc
        · simp [bcA]
        · simp [bcA]
        · simp [bcA]
        · simp [bcA]
        · simp [bcA]
        · simp [bcA]
        · simp only [bcA]
          repeat' split
          all_goals first | rfl | omega
      · have e1 : ∀ z : Nat, (c = z ∧ k = i) = False := fun z => by simp [hk]
        simp only [e1, if_false, bcA]
        have e2 : (k < i + 1) = (k < i) := by apply propext; omega
        simp only [e2]
    · simp only [jm_si, jm_sl, Nat.reduceEqDiff, false_and, if_false, a7, a8]
      by_cases hk : k = i
      · subst hk
        rcases (show c = 22 ∨ c = 23 ∨ (c < 22 ∨ 23 < c) by omega) with rfl | rfl | hc
        · simp [bcA]
        · simp [bcA]
        · simp only [bcA]
          repeat' split
          all_goals first | rfl | omega
      · have e1 : ∀ z : Nat, (c = z ∧ k = i) = False := fun z => by simp [hk]
        simp only [e1, if_false, bcA]
        have e2 : (k < i + 1) = (k < i) := by apply propext; omega
        simp only [e2]
theorem bc_15_5 (s : jm_M) : s_Ne_become_15_5 s = some (bcM 15 5 (bcA 15 5 (bcH 15 5 s) 10) 100) := by
  unfold s_Ne_become_15_5
  rw [e_ev, e_ev, e_ev, bs_15_5]
  rfl
theorem bm_35_15 (s : jm_M) : s_Ne_become_35_15_L136 5000 0 s = some (bcM 35 15 s 100) := by
  have h0 : bcM 35 15 s 0 = s := jm_ext (fun _ _ => rfl) (fun c k => by simp [bcM])
  have := lp_inv (fun n c (t : jm_M) => s_Ne_become_35_15_L136 n c t) 100 (fun i => bcM 35 15 s i) (some (bcM 35 15 s 100)) (fun n => ?_) (fun n i hi => ?_) 100 5000 0 rfl (by decide)
  · simp only [h0] at this
    exact this
  · show s_Ne_become_35_15_L136 (n + 1) (nI 100) _ = _
    rw [s_Ne_become_35_15_L136, if_pos (by decide)]
  · show s_Ne_become_35_15_L136 (n + 1) (nI i) _ = s_Ne_become_35_15_L136 n (nI (i + 1)) _
    rw [s_Ne_become_35_15_L136, if_neg (fun z => by rw [i_ge 100, nI_toInt (by omega)] at z; omega), e_ldl hi (by decide), e_stl hi (by decide), nI_1]
    congr 1
    refine jm_ext (fun _ _ => rfl) (fun c k => ?_)
    show (if c = 44 ∧ k = i then (if 24 = 35 + 9 ∧ i < i then s.2 (15 + 9) i else s.2 24 i) else (if c = 35 + 9 ∧ k < i then s.2 (15 + 9) k else s.2 c k)) = (if c = 35 + 9 ∧ k < i + 1 then s.2 (15 + 9) k else s.2 c k)
    by_cases h1 : c = 44 ∧ k = i
    · obtain ⟨rfl, rfl⟩ := h1
      rw [if_pos ⟨rfl, rfl⟩, if_neg (by omega), if_pos ⟨rfl, by omega⟩]
    · rw [if_neg h1]
      by_cases h2 : c = 35 + 9 ∧ k < i
      · rw [if_pos h2, if_pos ⟨h2.1, by omega⟩]
      · rw [if_neg h2, if_neg (by omega)]
theorem bs_35_15 (s : jm_M) : s_Ne_become_35_15_L26 5000 0 s = some (bcM 35 15 (bcA 35 15 s 10) 100) := by
  have h0 : bcA 35 15 s 0 = s := jm_ext (fun c k => by simp [bcA]) (fun c k => by simp [bcA])
  have := lp_inv (fun n c (t : jm_M) => s_Ne_become_35_15_L26 n c t) 10 (fun i => bcA 35 15 s i) (some (bcM 35 15 (bcA 35 15 s 10) 100)) (fun n => ?_) (fun n i hi => ?_) 10 5000 0 rfl (by decide)
  · simp only [h0] at this
    exact this
  · show s_Ne_become_35_15_L26 (n + 1) (nI 10) _ = _
    rw [s_Ne_become_35_15_L26, if_pos (by decide), bm_35_15]
  · show s_Ne_become_35_15_L26 (n + 1) (nI i) _ = s_Ne_become_35_15_L26 n (nI (i + 1)) _
    have r1 : ∀ q, 1 ≤ q → q ≤ 6 → (bcA 35 15 s i).1 (15 + q) i = s.1 (15 + q) i := fun q h1 h2 => by
      show (if 35 + 1 ≤ 15 + q ∧ 15 + q ≤ 35 + 6 ∧ i < i then _ else _) = _
      rw [if_neg (by omega)]
    have r2 : ∀ q, 7 ≤ q → q ≤ 8 → (bcA 35 15 s i).2 (15 + q) i = s.2 (15 + q) i := fun q h1 h2 => by
      show (if 35 + 7 ≤ 15 + q ∧ 15 + q ≤ 35 + 8 ∧ i < i then _ else _) = _
      rw [if_neg (by omega)]
    rw [s_Ne_become_35_15_L26, if_neg (fun z => by rw [i_ge 10, nI_toInt (by omega)] at z; omega)]
    rw [e_ldi hi (by decide), e_sti hi (by decide), e_ldi hi (by decide), e_sti hi (by decide), e_ldi hi (by decide), e_sti hi (by decide), e_ldi hi (by decide), e_sti hi (by decide), e_ldi hi (by decide), e_sti hi (by decide), e_ldi hi (by decide), e_sti hi (by decide), e_ldl hi (by decide), e_stl hi (by decide), e_ldl hi (by decide), e_stl hi (by decide), nI_1]
    congr 1
    have a1 := r1 1 (by decide) (by decide)
    have a2 := r1 2 (by decide) (by decide)
    have a3 := r1 3 (by decide) (by decide)
    have a4 := r1 4 (by decide) (by decide)
    have a5 := r1 5 (by decide) (by decide)
    have a6 := r1 6 (by decide) (by decide)
    have a7 := r2 7 (by decide) (by decide)
    have a8 := r2 8 (by decide) (by decide)
    simp only [Nat.reduceAdd] at a1 a2 a3 a4 a5 a6 a7 a8
    refine jm_ext (fun c k => ?_) (fun c k => ?_)
    · simp only [jm_si, jm_sl, Nat.reduceEqDiff, false_and, if_false, a1, a2, a3, a4, a5, a6]
      by_cases hk : k = i
      · subst hk
        rcases (show c = 36 ∨ c = 37 ∨ c = 38 ∨ c = 39 ∨ c = 40 ∨ c = 41 ∨ (c < 36 ∨ 41 < c) by omega) with rfl | rfl | rfl | rfl | rfl | rfl | hc
        · simp [bcA]
        · simp [bcA]
        · simp [bcA]
        · simp [bcA]
        · simp [bcA]
        · simp [bcA]
        · simp only [bcA]
          repeat' split
          all_goals first | rfl | omega
      · have e1 : ∀ z : Nat, (c = z ∧ k = i) = False := fun z => by simp [hk]
        simp only [e1, if_false, bcA]
        have e2 : (k < i + 1) = (k < i) := by apply propext; omega
        simp only [e2]
    · simp only [jm_si, jm_sl, Nat.reduceEqDiff, false_and, if_false, a7, a8]
      by_cases hk : k = i
      · subst hk
        rcases (show c = 42 ∨ c = 43 ∨ (c < 42 ∨ 43 < c) by omega) with rfl | rfl | hc
        · simp [bcA]
        · simp [bcA]
        · simp only [bcA]
          repeat' split
          all_goals first | rfl | omega
      · have e1 : ∀ z : Nat, (c = z ∧ k = i) = False := fun z => by simp [hk]
        simp only [e1, if_false, bcA]
        have e2 : (k < i + 1) = (k < i) := by apply propext; omega
        simp only [e2]
theorem bc_35_15 (s : jm_M) : s_Ne_become_35_15 s = some (bcM 35 15 (bcA 35 15 (bcH 35 15 s) 10) 100) := by
  unfold s_Ne_become_35_15
  rw [e_ev, e_ev, e_ev, bs_35_15]
  rfl
theorem bm_25_15 (s : jm_M) : s_Ne_become_25_15_L136 5000 0 s = some (bcM 25 15 s 100) := by
  have h0 : bcM 25 15 s 0 = s := jm_ext (fun _ _ => rfl) (fun c k => by simp [bcM])
  have := lp_inv (fun n c (t : jm_M) => s_Ne_become_25_15_L136 n c t) 100 (fun i => bcM 25 15 s i) (some (bcM 25 15 s 100)) (fun n => ?_) (fun n i hi => ?_) 100 5000 0 rfl (by decide)
  · simp only [h0] at this
    exact this
  · show s_Ne_become_25_15_L136 (n + 1) (nI 100) _ = _
    rw [s_Ne_become_25_15_L136, if_pos (by decide)]
  · show s_Ne_become_25_15_L136 (n + 1) (nI i) _ = s_Ne_become_25_15_L136 n (nI (i + 1)) _
    rw [s_Ne_become_25_15_L136, if_neg (fun z => by rw [i_ge 100, nI_toInt (by omega)] at z; omega), e_ldl hi (by decide), e_stl hi (by decide), nI_1]
    congr 1
    refine jm_ext (fun _ _ => rfl) (fun c k => ?_)
    show (if c = 34 ∧ k = i then (if 24 = 25 + 9 ∧ i < i then s.2 (15 + 9) i else s.2 24 i) else (if c = 25 + 9 ∧ k < i then s.2 (15 + 9) k else s.2 c k)) = (if c = 25 + 9 ∧ k < i + 1 then s.2 (15 + 9) k else s.2 c k)
    by_cases h1 : c = 34 ∧ k = i
    · obtain ⟨rfl, rfl⟩ := h1
      rw [if_pos ⟨rfl, rfl⟩, if_neg (by omega), if_pos ⟨rfl, by omega⟩]
    · rw [if_neg h1]
      by_cases h2 : c = 25 + 9 ∧ k < i
      · rw [if_pos h2, if_pos ⟨h2.1, by omega⟩]
      · rw [if_neg h2, if_neg (by omega)]
theorem bs_25_15 (s : jm_M) : s_Ne_become_25_15_L26 5000 0 s = some (bcM 25 15 (bcA 25 15 s 10) 100) := by
  have h0 : bcA 25 15 s 0 = s := jm_ext (fun c k => by simp [bcA]) (fun c k => by simp [bcA])
  have := lp_inv (fun n c (t : jm_M) => s_Ne_become_25_15_L26 n c t) 10 (fun i => bcA 25 15 s i) (some (bcM 25 15 (bcA 25 15 s 10) 100)) (fun n => ?_) (fun n i hi => ?_) 10 5000 0 rfl (by decide)
  · simp only [h0] at this
    exact this
  · show s_Ne_become_25_15_L26 (n + 1) (nI 10) _ = _
    rw [s_Ne_become_25_15_L26, if_pos (by decide), bm_25_15]
  · show s_Ne_become_25_15_L26 (n + 1) (nI i) _ = s_Ne_become_25_15_L26 n (nI (i + 1)) _
    have r1 : ∀ q, 1 ≤ q → q ≤ 6 → (bcA 25 15 s i).1 (15 + q) i = s.1 (15 + q) i := fun q h1 h2 => by
      show (if 25 + 1 ≤ 15 + q ∧ 15 + q ≤ 25 + 6 ∧ i < i then _ else _) = _
      rw [if_neg (by omega)]
    have r2 : ∀ q, 7 ≤ q → q ≤ 8 → (bcA 25 15 s i).2 (15 + q) i = s.2 (15 + q) i := fun q h1 h2 => by
      show (if 25 + 7 ≤ 15 + q ∧ 15 + q ≤ 25 + 8 ∧ i < i then _ else _) = _
      rw [if_neg (by omega)]
    rw [s_Ne_become_25_15_L26, if_neg (fun z => by rw [i_ge 10, nI_toInt (by omega)] at z; omega)]
    rw [e_ldi hi (by decide), e_sti hi (by decide), e_ldi hi (by decide), e_sti hi (by decide), e_ldi hi (by decide), e_sti hi (by decide), e_ldi hi (by decide), e_sti hi (by decide), e_ldi hi (by decide), e_sti hi (by decide), e_ldi hi (by decide), e_sti hi (by decide), e_ldl hi (by decide), e_stl hi (by decide), e_ldl hi (by decide), e_stl hi (by decide), nI_1]
    congr 1
    have a1 := r1 1 (by decide) (by decide)
    have a2 := r1 2 (by decide) (by decide)
    have a3 := r1 3 (by decide) (by decide)
    have a4 := r1 4 (by decide) (by decide)
    have a5 := r1 5 (by decide) (by decide)
    have a6 := r1 6 (by decide) (by decide)
    have a7 := r2 7 (by decide) (by decide)
    have a8 := r2 8 (by decide) (by decide)
    simp only [Nat.reduceAdd] at a1 a2 a3 a4 a5 a6 a7 a8
    refine jm_ext (fun c k => ?_) (fun c k => ?_)
    · simp only [jm_si, jm_sl, Nat.reduceEqDiff, false_and, if_false, a1, a2, a3, a4, a5, a6]
      by_cases hk : k = i
      · subst hk
        rcases (show c = 26 ∨ c = 27 ∨ c = 28 ∨ c = 29 ∨ c = 30 ∨ c = 31 ∨ (c < 26 ∨ 31 < c) by omega) with rfl | rfl | rfl | rfl | rfl | rfl | hc
        · simp [bcA]
        · simp [bcA]
        · simp [bcA]
        · simp [bcA]
        · simp [bcA]
        · simp [bcA]
        · simp only [bcA]
          repeat' split
          all_goals first | rfl | omega
      · have e1 : ∀ z : Nat, (c = z ∧ k = i) = False := fun z => by simp [hk]
        simp only [e1, if_false, bcA]
        have e2 : (k < i + 1) = (k < i) := by apply propext; omega
        simp only [e2]
    · simp only [jm_si, jm_sl, Nat.reduceEqDiff, false_and, if_false, a7, a8]
      by_cases hk : k = i
      · subst hk
        rcases (show c = 32 ∨ c = 33 ∨ (c < 32 ∨ 33 < c) by omega) with rfl | rfl | hc
        · simp [bcA]
        · simp [bcA]
        · simp only [bcA]
          repeat' split
          all_goals first | rfl | omega
      · have e1 : ∀ z : Nat, (c = z ∧ k = i) = False := fun z => by simp [hk]
        simp only [e1, if_false, bcA]
        have e2 : (k < i + 1) = (k < i) := by apply propext; omega
        simp only [e2]
theorem bc_25_15 (s : jm_M) : s_Ne_become_25_15 s = some (bcM 25 15 (bcA 25 15 (bcH 25 15 s) 10) 100) := by
  unfold s_Ne_become_25_15
  rw [e_ev, e_ev, e_ev, bs_25_15]
  rfl
theorem bm_15_35 (s : jm_M) : s_Ne_become_15_35_L136 5000 0 s = some (bcM 15 35 s 100) := by
  have h0 : bcM 15 35 s 0 = s := jm_ext (fun _ _ => rfl) (fun c k => by simp [bcM])
  have := lp_inv (fun n c (t : jm_M) => s_Ne_become_15_35_L136 n c t) 100 (fun i => bcM 15 35 s i) (some (bcM 15 35 s 100)) (fun n => ?_) (fun n i hi => ?_) 100 5000 0 rfl (by decide)
  · simp only [h0] at this
    exact this
  · show s_Ne_become_15_35_L136 (n + 1) (nI 100) _ = _
    rw [s_Ne_become_15_35_L136, if_pos (by decide)]
  · show s_Ne_become_15_35_L136 (n + 1) (nI i) _ = s_Ne_become_15_35_L136 n (nI (i + 1)) _
    rw [s_Ne_become_15_35_L136, if_neg (fun z => by rw [i_ge 100, nI_toInt (by omega)] at z; omega), e_ldl hi (by decide), e_stl hi (by decide), nI_1]
    congr 1
    refine jm_ext (fun _ _ => rfl) (fun c k => ?_)
    show (if c = 24 ∧ k = i then (if 44 = 15 + 9 ∧ i < i then s.2 (35 + 9) i else s.2 44 i) else (if c = 15 + 9 ∧ k < i then s.2 (35 + 9) k else s.2 c k)) = (if c = 15 + 9 ∧ k < i + 1 then s.2 (35 + 9) k else s.2 c k)
    by_cases h1 : c = 24 ∧ k = i
    · obtain ⟨rfl, rfl⟩ := h1
      rw [if_pos ⟨rfl, rfl⟩, if_neg (by omega), if_pos ⟨rfl, by omega⟩]
    · rw [if_neg h1]
      by_cases h2 : c = 15 + 9 ∧ k < i
      · rw [if_pos h2, if_pos ⟨h2.1, by omega⟩]
      · rw [if_neg h2, if_neg (by omega)]
theorem bs_15_35 (s : jm_M) : s_Ne_become_15_35_L26 5000 0 s = some (bcM 15 35 (bcA 15 35 s 10) 100) := by
  have h0 : bcA 15 35 s 0 = s := jm_ext (fun c k => by simp [bcA]) (fun c k => by simp [bcA])
  have := lp_inv (fun n c (t : jm_M) => s_Ne_become_15_35_L26 n c t) 10 (fun i => bcA 15 35 s i) (some (bcM 15 35 (bcA 15 35 s 10) 100)) (fun n => ?_) (fun n i hi => ?_) 10 5000 0 rfl (by decide)
  · simp only [h0] at this
    exact this
  · show s_Ne_become_15_35_L26 (n + 1) (nI 10) _ = _
    rw [s_Ne_become_15_35_L26, if_pos (by decide), bm_15_35]
  · show s_Ne_become_15_35_L26 (n + 1) (nI i) _ = s_Ne_become_15_35_L26 n (nI (i + 1)) _
    have r1 : ∀ q, 1 ≤ q → q ≤ 6 → (bcA 15 35 s i).1 (35 + q) i = s.1 (35 + q) i := fun q h1 h2 => by
      show (if 15 + 1 ≤ 35 + q ∧ 35 + q ≤ 15 + 6 ∧ i < i then _ else _) = _
      rw [if_neg (by omega)]
    have r2 : ∀ q, 7 ≤ q → q ≤ 8 → (bcA 15 35 s i).2 (35 + q) i = s.2 (35 + q) i := fun q h1 h2 => by
      show (if 15 + 7 ≤ 35 + q ∧ 35 + q ≤ 15 + 8 ∧ i < i then _ else _) = _
      rw [if_neg (by omega)]
    rw [s_Ne_become_15_35_L26, if_neg (fun z => by rw [i_ge 10, nI_toInt (by omega)] at z; omega)]
    rw [e_ldi hi (by decide), e_sti hi (by decide), e_ldi hi (by decide), e_sti hi (by decide), e_ldi hi (by decide), e_sti hi (by decide), e_ldi hi (by decide), e_sti hi (by decide), e_ldi hi (by decide), e_sti hi (by decide), e_ldi hi (by decide), e_sti hi (by decide), e_ldl hi (by decide), e_stl hi (by decide), e_ldl hi (by decide), e_stl hi (by decide), nI_1]
    congr 1
    have a1 := r1 1 (by decide) (by decide)
    have a2 := r1 2 (by decide) (by decide)
    have a3 := r1 3 (by decide) (by decide)
    have a4 := r1 4 (by decide) (by decide)
    have a5 := r1 5 (by decide) (by decide)
    have a6 := r1 6 (by decide) (by decide)
    have a7 := r2 7 (by decide) (by decide)
    have a8 := r2 8 (by decide) (by decide)
    simp only [Nat.reduceAdd] at a1 a2 a3 a4 a5 a6 a7 a8
    refine jm_ext (fun c k => ?_) (fun c k => ?_)
    · simp only [jm_si, jm_sl, Nat.reduceEqDiff, false_and, if_false, a1, a2, a3, a4, a5, a6]
      by_cases hk : k = i
      · subst hk
        rcases (show c = 16 ∨ c = 17 ∨ c = 18 ∨ c = 19 ∨ c = 20 ∨ c = 21 ∨ (c < 16 ∨ 21 < c) by omega) with rfl | rfl | rfl | rfl | rfl | rfl | hc
        · simp [bcA]
        · simp [bcA]
        · simp [bcA]
        · simp [bcA]
        · simp [bcA]
        · simp [bcA]
        · simp only [bcA]
          repeat' split
          all_goals first | rfl | omega
      · have e1 : ∀ z : Nat, (c = z ∧ k = i) = False := fun z => by simp [hk]
        simp only [e1, if_false, bcA]
        have e2 : (k < i + 1) = (k < i) := by apply propext; omega
        simp only [e2]
    · simp only [jm_si, jm_sl, Nat.reduceEqDiff, false_and, if_false, a7, a8]
      by_cases hk : k = i
      · subst hk
        rcases (show c = 22 ∨ c = 23 ∨ (c < 22 ∨ 23 < c) by omega) with rfl | rfl | hc
        · simp [bcA]
        · simp [bcA]
        · simp only [bcA]
          repeat' split
          all_goals first | rfl | omega
      · have e1 : ∀ z : Nat, (c = z ∧ k = i) = False := fun z => by simp [hk]
        simp only [e1, if_false, bcA]
        have e2 : (k < i + 1) = (k < i) := by apply propext; omega
        simp only [e2]
theorem bc_15_35 (s : jm_M) : s_Ne_become_15_35 s = some (bcM 15 35 (bcA 15 35 (bcH 15 35 s) 10) 100) := by
  unfold s_Ne_become_15_35
  rw [e_ev, e_ev, e_ev, bs_15_35]
  rfl
theorem bm_15_25 (s : jm_M) : s_Ne_become_15_25_L136 5000 0 s = some (bcM 15 25 s 100) := by
  have h0 : bcM 15 25 s 0 = s := jm_ext (fun _ _ => rfl) (fun c k => by simp [bcM])
  have := lp_inv (fun n c (t : jm_M) => s_Ne_become_15_25_L136 n c t) 100 (fun i => bcM 15 25 s i) (some (bcM 15 25 s 100)) (fun n => ?_) (fun n i hi => ?_) 100 5000 0 rfl (by decide)
  · simp only [h0] at this
    exact this
  · show s_Ne_become_15_25_L136 (n + 1) (nI 100) _ = _
    rw [s_Ne_become_15_25_L136, if_pos (by decide)]
  · show s_Ne_become_15_25_L136 (n + 1) (nI i) _ = s_Ne_become_15_25_L136 n (nI (i + 1)) _
    rw [s_Ne_become_15_25_L136, if_neg (fun z => by rw [i_ge 100, nI_toInt (by omega)] at z; omega), e_ldl hi (by decide), e_stl hi (by decide), nI_1]
    congr 1
    refine jm_ext (fun _ _ => rfl) (fun c k => ?_)
    show (if c = 24 ∧ k = i then (if 34 = 15 + 9 ∧ i < i then s.2 (25 + 9) i else s.2 34 i) else (if c = 15 + 9 ∧ k < i then s.2 (25 + 9) k else s.2 c k)) = (if c = 15 + 9 ∧ k < i + 1 then s.2 (25 + 9) k else s.2 c k)
    by_cases h1 : c = 24 ∧ k = i
    · obtain ⟨rfl, rfl⟩ := h1
      rw [if_pos ⟨rfl, rfl⟩, if_neg (by omega), if_pos ⟨rfl, by omega⟩]
    · rw [if_neg h1]
      by_cases h2 : c = 15 + 9 ∧ k < i
      · rw [if_pos h2, if_pos ⟨h2.1, by omega⟩]
      · rw [if_neg h2, if_neg (by omega)]
theorem bs_15_25 (s : jm_M) : s_Ne_become_15_25_L26 5000 0 s = some (bcM 15 25 (bcA 15 25 s 10) 100) := by
  have h0 : bcA 15 25 s 0 = s := jm_ext (fun c k => by simp [bcA]) (fun c k => by simp [bcA])
  have := lp_inv (fun n c (t : jm_M) => s_Ne_become_15_25_L26 n c t) 10 (fun i => bcA 15 25 s i) (some (bcM 15 25 (bcA 15 25 s 10) 100)) (fun n => ?_) (fun n i hi => ?_) 10 5000 0 rfl (by decide)
  · simp only [h0] at this
    exact this
  · show s_Ne_become_15_25_L26 (n + 1) (nI 10) _ = _
    rw [s_Ne_become_15_25_L26, if_pos (by decide), bm_15_25]
  · show s_Ne_become_15_25_L26 (n + 1) (nI i) _ = s_Ne_become_15_25_L26 n (nI (i + 1)) _
    have r1 : ∀ q, 1 ≤ q → q ≤ 6 → (bcA 15 25 s i).1 (25 + q) i = s.1 (25 + q) i := fun q h1 h2 => by
      show (if 15 + 1 ≤ 25 + q ∧ 25 + q ≤ 15 + 6 ∧ i < i then _ else _) = _
      rw [if_neg (by omega)]
    have r2 : ∀ q, 7 ≤ q → q ≤ 8 → (bcA 15 25 s i).2 (25 + q) i = s.2 (25 + q) i := fun q h1 h2 => by
      show (if 15 + 7 ≤ 25 + q ∧ 25 + q ≤ 15 + 8 ∧ i < i then _ else _) = _
      rw [if_neg (by omega)]
    rw [s_Ne_become_15_25_L26, if_neg (fun z => by rw [i_ge 10, nI_toInt (by omega)] at z; omega)]
    rw [e_ldi hi (by decide), e_sti hi (by decide), e_ldi hi (by decide), e_sti hi (by decide), e_ldi hi (by decide), e_sti hi (by decide), e_ldi hi (by decide), e_sti hi (by decide), e_ldi hi (by decide), e_sti hi (by decide), e_ldi hi (by decide), e_sti hi (by decide), e_ldl hi (by decide), e_stl hi (by decide), e_ldl hi (by decide), e_stl hi (by decide), nI_1]
    congr 1
    have a1 := r1 1 (by decide) (by decide)
    have a2 := r1 2 (by decide) (by decide)
    have a3 := r1 3 (by decide) (by decide)
    have a4 := r1 4 (by decide) (by decide)
    have a5 := r1 5 (by decide) (by decide)
    have a6 := r1 6 (by decide) (by decide)
    have a7 := r2 7 (by decide) (by decide)
    have a8 := r2 8 (by decide) (by decide)
    simp only [Nat.reduceAdd] at a1 a2 a3 a4 a5 a6 a7 a8
    refine jm_ext (fun c k => ?_) (fun c k => ?_)
    · simp only [jm_si, jm_sl, Nat.reduceEqDiff, false_and, if_false, a1, a2, a3, a4, a5, a6]
      by_cases hk : k = i
      · subst hk
        rcases (show c = 16 ∨ c = 17 ∨ c = 18 ∨ c = 19 ∨ c = 20 ∨ c = 21 ∨ (c < 16 ∨ 21 < c) by omega) with rfl | rfl | rfl | rfl | rfl | rfl | hc
        · simp [bcA]
        · simp [bcA]
        · simp [bcA]
        · simp [bcA]
        · simp [bcA]
        · simp [bcA]
        · simp only [bcA]
          repeat' split
          all_goals first | rfl | omega
      · have e1 : ∀ z : Nat, (c = z ∧ k = i) = False := fun z => by simp [hk]
        simp only [e1, if_false, bcA]
        have e2 : (k < i + 1) = (k < i) := by apply propext; omega
        simp only [e2]
    · simp only [jm_si, jm_sl, Nat.reduceEqDiff, false_and, if_false, a7, a8]
      by_cases hk : k = i
      · subst hk
        rcases (show c = 22 ∨ c = 23 ∨ (c < 22 ∨ 23 < c) by omega) with rfl | rfl | hc
        · simp [bcA]
        · simp [bcA]
        · simp only [bcA]
          repeat' split
          all_goals first | rfl | omega
      · have e1 : ∀ z : Nat, (c = z ∧ k = i) = False := fun z => by simp [hk]
        simp only [e1, if_false, bcA]
        have e2 : (k < i + 1) = (k < i) := by apply propext; omega
        simp only [e2]
theorem bc_15_25 (s : jm_M) : s_Ne_become_15_25 s = some (bcM 15 25 (bcA 15 25 (bcH 15 25 s) 10) 100) := by
  unfold s_Ne_become_15_25
  rw [e_ev, e_ev, e_ev, bs_15_25]
  rfl
