def bcX (d e : Nat) (s : jm_M) : jm_M := bcM d e (bcA d e (bcH d e s) 10) 100
theorem bcH_1 {d e c k : Nat} {s : jm_M} (h : ¬ c = d) : (bcH d e s).1 c k = s.1 c k := by
  unfold bcH
  show (jm_si (jm_si s d 0 (s.1 e 0)) d 10 _).1 c k = _
  rw [e_sio (by omega), e_sio (by omega)]
theorem bcH_2 {d e c k : Nat} {s : jm_M} (h : ¬ c = d) : (bcH d e s).2 c k = s.2 c k := by
  unfold bcH
  rw [e_slo (by omega)]
  rfl
theorem bcX_h {d e : Nat} {s : jm_M} (hde : d + 10 ≤ e ∨ e + 10 ≤ d) : (bcX d e s).1 d 0 = s.1 e 0 ∧ (bcX d e s).1 d 10 = s.1 e 10 ∧ (bcX d e s).2 d 11 = s.2 e 11 := by
  have a : ∀ k, (bcX d e s).1 d k = (bcH d e s).1 d k := fun k => by
    show (if d + 1 ≤ d ∧ d ≤ d + 6 ∧ k < 10 then _ else (bcH d e s).1 d k) = _
    rw [if_neg (by omega)]
  have b : ∀ k, (bcX d e s).2 d k = (bcH d e s).2 d k := fun k => by
    show (if d = d + 9 ∧ k < 100 then _ else (if d + 7 ≤ d ∧ d ≤ d + 8 ∧ k < 10 then _ else (bcH d e s).2 d k)) = _
    rw [if_neg (by omega), if_neg (by omega)]
  refine ⟨?_, ?_, ?_⟩
  · rw [a]
    show (jm_si (jm_si s d 0 (s.1 e 0)) d 10 _).1 d 0 = _
    rw [e_sio (by omega), e_si]
  · rw [a]
    show (jm_si (jm_si s d 0 (s.1 e 0)) d 10 ((jm_si s d 0 (s.1 e 0)).1 e 10)).1 d 10 = _
    rw [e_si, e_sio (by omega)]
  · rw [b]
    unfold bcH
    rw [e_sl]
    rfl
theorem bcX_i {d e q h : Nat} {s : jm_M} (hde : d + 10 ≤ e ∨ e + 10 ≤ d) (h1 : 1 ≤ q) (h2 : q ≤ 6) (hh : h < 10) : (bcX d e s).1 (d + q) h = s.1 (e + q) h := by
  show (if d + 1 ≤ d + q ∧ d + q ≤ d + 6 ∧ h < 10 then (bcH d e s).1 (d + q - d + e) h else _) = _
  rw [if_pos (by omega), show d + q - d + e = e + q by omega, bcH_1 (by omega)]
theorem bcX_l {d e q h : Nat} {s : jm_M} (hde : d + 10 ≤ e ∨ e + 10 ≤ d) (h1 : 7 ≤ q) (h2 : q ≤ 8) (hh : h < 10) : (bcX d e s).2 (d + q) h = s.2 (e + q) h := by
  show (if d + q = d + 9 ∧ h < 100 then _ else (if d + 7 ≤ d + q ∧ d + q ≤ d + 8 ∧ h < 10 then (bcH d e s).2 (d + q - d + e) h else _)) = _
  rw [if_neg (by omega), if_pos (by omega), show d + q - d + e = e + q by omega, bcH_2 (by omega)]
theorem bcX_m {d e k : Nat} {s : jm_M} (hde : d + 10 ≤ e ∨ e + 10 ≤ d) (hk : k < 100) : (bcX d e s).2 (d + 9) k = s.2 (e + 9) k := by
  show (if d + 9 = d + 9 ∧ k < 100 then (if d + 7 ≤ e + 9 ∧ e + 9 ≤ d + 8 ∧ k < 10 then _ else (bcH d e s).2 (e + 9) k) else _) = _
  rw [if_pos ⟨rfl, hk⟩, if_neg (by omega), bcH_2 (by omega)]
theorem bcX_N {d e : Nat} {s : jm_M} {T : tN} (hde : d + 10 ≤ e ∨ e + 10 ≤ d) (h : XN s e T) : XN (bcX d e s) d T := by
  refine ⟨(bcX_h hde).1.trans h.1, fun q hq => ?_⟩
  obtain ⟨g1, g2, g3, g4, g5, g6, g7, g8⟩ := h.2 q hq
  refine ⟨?_, ?_, ?_, ?_, ?_, ?_, ?_, ?_⟩
  · rw [bcX_i hde (by decide) (by decide) hq]; exact g1
  · rw [bcX_i hde (by decide) (by decide) hq]; exact g2
  · rw [bcX_i hde (by decide) (by decide) hq]; exact g3
  · rw [bcX_i hde (by decide) (by decide) hq]; exact g4
  · rw [bcX_i hde (by decide) (by decide) hq]; exact g5
  · rw [bcX_l hde (by decide) (by decide) hq]; exact g6
  · rw [bcX_l hde (by decide) (by decide) hq]; exact g7
  · intro b hb
    rw [bcX_m hde (by omega)]
    exact g8 b hb
theorem bcX_S {d e hd : Nat} {sm : Nat → Bool} {s : jm_M} (hde : d + 10 ≤ e ∨ e + 10 ≤ d) (h : XS s e hd sm) : XS (bcX d e s) d hd sm := ⟨(bcX_h hde).2.1.trans h.1, fun t ht => by rw [(bcX_h hde).2.2]; exact h.2 t ht⟩
theorem bcX_L {d e : Nat} {lg : Nat → Int32} {s : jm_M} (hde : d + 10 ≤ e ∨ e + 10 ≤ d) (h : XL s e lg) : XL (bcX d e s) d lg := fun q hq => by rw [bcX_i hde (by decide) (by decide) hq]; exact h q hq
/-! the model's -/
def zcA (a b : Nat) (s : jm_M) (i : Nat) : jm_M := (fun c k => if 62 ≤ c ∧ c ≤ 66 ∧ 10 * b ≤ k ∧ k < 10 * b + i then s.1 c (k - 10 * b + 10 * a) else s.1 c k, s.2)
def zcE (a b : Nat) (s : jm_M) (i : Nat) : jm_M := (fun c k => if c = 68 ∧ 215 * b ≤ k ∧ k < 215 * b + i then s.1 68 (k - 215 * b + 215 * a) else s.1 c k, s.2)
theorem ix_m (m a i : Nat) (M : Int32) (hM : M = nI m) : M * nI a + nI i = nI (m * a + i) := by rw [hM, pk_mul, nI_add]
theorem zc_E {a b : Nat} (ha : a < 4) (hb : b < 4) (hab : a ≠ b) (s : jm_M) : s_Z_copy_L150 5000 (nI a) (nI b) 0 s = some (zcE a b s 215) := by
  have h0 : zcE a b s 0 = s := jm_ext (fun c k => by simp only [zcE]; rw [if_neg (by omega)]) (fun _ _ => rfl)
  have := lp_inv (fun n c (t : jm_M) => s_Z_copy_L150 n (nI a) (nI b) c t) 215 (fun i => zcE a b s i) (some (zcE a b s 215)) (fun n => ?_) (fun n i hi => ?_) 215 5000 0 rfl (by decide)
  · simp only [h0] at this
    exact this
  · show s_Z_copy_L150 (n + 1) _ _ (nI 215) _ = _
    rw [s_Z_copy_L150, if_pos (by decide)]
  · show s_Z_copy_L150 (n + 1) _ _ (nI i) _ = s_Z_copy_L150 n _ _ (nI (i + 1)) _
    rw [s_Z_copy_L150, if_neg (fun z => by rw [i_ge 215, nI_toInt (by omega)] at z; omega), ix_m 215 a i 215 rfl, ix_m 215 b i 215 rfl, e_ldi (by omega) (by decide), e_sti (by omega) (by decide), nI_1]
    congr 1
    refine jm_ext (fun c k => ?_) (fun _ _ => rfl)
    simp only [jm_si, zcE]
    by_cases h1 : c = 68 ∧ k = 215 * b + i
    · obtain ⟨rfl, rfl⟩ := h1
      rw [if_pos ⟨rfl, rfl⟩, if_neg (by omega), if_pos (by omega), show 215 * b + i - 215 * b + 215 * a = 215 * a + i by omega]
    · rw [if_neg h1]
      by_cases h2 : c = 68 ∧ 215 * b ≤ k ∧ k < 215 * b + i
      · rw [if_pos h2, if_pos (by omega)]
      · rw [if_neg h2, if_neg (by omega)]
theorem zc_A {a b : Nat} (ha : a < 4) (hb : b < 4) (hab : a ≠ b) (s : jm_M) : s_Z_copy_L26 5000 (nI a) (nI b) 0 s = some (zcE a b (zcA a b s 10) 215) := by
  have h0 : zcA a b s 0 = s := jm_ext (fun c k => by simp only [zcA]; rw [if_neg (by omega)]) (fun _ _ => rfl)
  have := lp_inv (fun n c (t : jm_M) => s_Z_copy_L26 n (nI a) (nI b) c t) 10 (fun i => zcA a b s i) (some (zcE a b (zcA a b s 10) 215)) (fun n => ?_) (fun n i hi => ?_) 10 5000 0 rfl (by decide)
  · simp only [h0] at this
    exact this
  · show s_Z_copy_L26 (n + 1) _ _ (nI 10) _ = _
    rw [s_Z_copy_L26, if_pos (by decide), zc_E ha hb hab]
  · show s_Z_copy_L26 (n + 1) _ _ (nI i) _ = s_Z_copy_L26 n _ _ (nI (i + 1)) _
    rw [s_Z_copy_L26, if_neg (fun z => by rw [i_ge 10, nI_toInt (by omega)] at z; omega), ix_m 10 a i 10 rfl, ix_m 10 b i 10 rfl]
    rw [e_ldi (by omega) (by decide), e_sti (by omega) (by decide), e_ldi (by omega) (by decide), e_sti (by omega) (by decide), e_ldi (by omega) (by decide), e_sti (by omega) (by decide), e_ldi (by omega) (by decide), e_sti (by omega) (by decide), e_ldi (by omega) (by decide), e_sti (by omega) (by decide), nI_1]
    congr 1
    have r : ∀ c, (zcA a b s i).1 c (10 * a + i) = s.1 c (10 * a + i) := fun c => by
      show (if 62 ≤ c ∧ c ≤ 66 ∧ 10 * b ≤ 10 * a + i ∧ 10 * a + i < 10 * b + i then _ else _) = _
      rw [if_neg (by omega)]
    refine jm_ext (fun c k => ?_) (fun _ _ => rfl)
    simp only [jm_si, Nat.reduceEqDiff, false_and, if_false, r]
    by_cases hk : k = 10 * b + i
    · subst hk
      have e3 : 10 * b + i - 10 * b + 10 * a = 10 * a + i := by omega
      rcases (show c = 62 ∨ c = 63 ∨ c = 64 ∨ c = 65 ∨ c = 66 ∨ (c < 62 ∨ 66 < c) by omega) with rfl | rfl | rfl | rfl | rfl | hc
      · simp [zcA]; rw [Nat.add_comm]
      · simp [zcA]; rw [Nat.add_comm]
      · simp [zcA]; rw [Nat.add_comm]
      · simp [zcA]; rw [Nat.add_comm]
      · simp [zcA]; rw [Nat.add_comm]
      · simp only [zcA]
        repeat' split
        all_goals first | rfl | omega
    · have e1 : ∀ z : Nat, (c = z ∧ k = 10 * b + i) = False := fun z => by simp [hk]
      simp only [e1, if_false, zcA]
      by_cases h2 : 62 ≤ c ∧ c ≤ 66 ∧ 10 * b ≤ k ∧ k < 10 * b + i
      · rw [if_pos h2, if_pos (by omega)]
      · rw [if_neg h2, if_neg (by omega)]
def zcX (a b : Nat) (s : jm_M) : jm_M := zcE a b (zcA a b (jm_si (jm_si s 61 b (s.1 61 a)) 67 b (s.1 67 a)) 10) 215
theorem zc_all {a b : Nat} (ha : a < 4) (hb : b < 4) (hab : a ≠ b) (s : jm_M) : s_Z_copy s (nI a) (nI b) = some (zcX a b s) := by
  unfold s_Z_copy
  rw [e_ldi ha (by decide), e_sti hb (by decide), e_ldi ha (by decide), e_sti hb (by decide), zc_A ha hb hab, e_sio (by omega)]
  rfl
theorem zcE_v {a b i c k : Nat} {s : jm_M} : (zcE a b s i).1 c k = if c = 68 ∧ 215 * b ≤ k ∧ k < 215 * b + i then s.1 68 (k - 215 * b + 215 * a) else s.1 c k := rfl
theorem zcA_v {a b i c k : Nat} {s : jm_M} : (zcA a b s i).1 c k = if 62 ≤ c ∧ c ≤ 66 ∧ 10 * b ≤ k ∧ k < 10 * b + i then s.1 c (k - 10 * b + 10 * a) else s.1 c k := rfl
theorem zcX_n {a b : Nat} {s : jm_M} : (zcX a b s).1 61 b = s.1 61 a ∧ (zcX a b s).1 67 b = s.1 67 a := by
  unfold zcX
  constructor
  · rw [zcE_v, if_neg (by omega), zcA_v, if_neg (by omega), e_sio (by omega), e_si]
  · rw [zcE_v, if_neg (by omega), zcA_v, if_neg (by omega), e_si]
theorem zcX_h {a b c h : Nat} {s : jm_M} (h1 : 62 ≤ c) (h2 : c ≤ 66) (hh : h < 10) : (zcX a b s).1 c (10 * b + h) = s.1 c (10 * a + h) := by
  unfold zcX
  rw [zcE_v, if_neg (by omega), zcA_v, if_pos (by omega), e_sio (by omega), e_sio (by omega), show 10 * b + h - 10 * b + 10 * a = 10 * a + h by omega]
theorem zcX_e {a b j : Nat} {s : jm_M} (hj : j < 215) : (zcX a b s).1 68 (215 * b + j) = s.1 68 (215 * a + j) := by
  unfold zcX
  rw [zcE_v, if_pos (by omega), zcA_v, if_neg (by omega), e_sio (by omega), e_sio (by omega), show 215 * b + j - 215 * b + 215 * a = 215 * a + j by omega]
/-- all that isn't the place b stays -/
theorem zcX_o {a b k : Nat} {s : jm_M} (c : Nat) (hk : (c = 61 ∨ c = 67 → k ≠ b) ∧ (62 ≤ c → c ≤ 66 → (k < 10 * b ∨ 10 * b + 10 ≤ k)) ∧ (c = 68 → (k < 215 * b ∨ 215 * b + 215 ≤ k))) : (zcX a b s).1 c k = s.1 c k := by
  unfold zcX
  rw [zcE_v, if_neg (by omega), zcA_v, if_neg (by omega), e_sio (by omega), e_sio (by omega)]
theorem zcX_N {a b : Nat} {s : jm_M} {T : tN} (wt : wT T) (h : ZN s a T) : ZN (zcX a b s) b T := by
  have w1 := wt.1
  obtain ⟨h1, h2, c, E, hE, hs⟩ := h
  refine ⟨zcX_n.1.trans h1, fun q hq => ?_, c, E, ⟨zcX_n.2.trans hE.1, hE.2.1, fun j hj => ?_⟩, hs⟩
  · obtain ⟨g1, g2, g3, g4, g5⟩ := h2 q hq
    refine ⟨?_, ?_, ?_, ?_, ?_⟩
    · rw [zcX_h (by decide) (by decide) (by omega)]; exact g1
    · rw [zcX_h (by decide) (by decide) (by omega)]; exact g2
    · rw [zcX_h (by decide) (by decide) (by omega)]; exact g3
    · rw [zcX_h (by decide) (by decide) (by omega)]; exact g4
    · rw [zcX_h (by decide) (by decide) (by omega)]; exact g5
  · have hc := hE.2.1
    obtain ⟨g1, g2, g3, g4, g5⟩ := hE.2.2 j hj
    refine ⟨?_, ?_, ?_, ?_, ?_⟩
    · rw [zcX_e (by omega)]; exact g1
    · rw [show 215 * b + 5 * j + 1 = 215 * b + (5 * j + 1) by omega, zcX_e (by omega), show 215 * a + (5 * j + 1) = 215 * a + 5 * j + 1 by omega]; exact g2
    · rw [show 215 * b + 5 * j + 2 = 215 * b + (5 * j + 2) by omega, zcX_e (by omega), show 215 * a + (5 * j + 2) = 215 * a + 5 * j + 2 by omega]; exact g3
    · rw [show 215 * b + 5 * j + 3 = 215 * b + (5 * j + 3) by omega, zcX_e (by omega), show 215 * a + (5 * j + 3) = 215 * a + 5 * j + 3 by omega]; exact g4
    · rw [show 215 * b + 5 * j + 4 = 215 * b + (5 * j + 4) by omega, zcX_e (by omega), show 215 * a + (5 * j + 4) = 215 * a + 5 * j + 4 by omega]; exact g5
theorem ZN_o {k b a : Nat} {s : jm_M} {T : tN} (wt : wT T) (hkb : k ≠ b) (h : ZN s k T) : ZN (zcX a b s) k T := by
  have w1 := wt.1
  obtain ⟨h1, h2, c, E, hE, hs⟩ := h
  refine ⟨(zcX_o 61 (by omega)).trans h1, fun q hq => ?_, c, E, ⟨(zcX_o 67 (by omega)).trans hE.1, hE.2.1, fun j hj => ?_⟩, hs⟩
  · obtain ⟨g1, g2, g3, g4, g5⟩ := h2 q hq
    exact ⟨(zcX_o 62 (by omega)).trans g1, (zcX_o 63 (by omega)).trans g2, (zcX_o 64 (by omega)).trans g3, (zcX_o 65 (by omega)).trans g4, (zcX_o 66 (by omega)).trans g5⟩
  · have hc := hE.2.1
    obtain ⟨g1, g2, g3, g4, g5⟩ := hE.2.2 j hj
    exact ⟨(zcX_o 68 (by omega)).trans g1, (zcX_o 68 (by omega)).trans g2, (zcX_o 68 (by omega)).trans g3, (zcX_o 68 (by omega)).trans g4, (zcX_o 68 (by omega)).trans g5⟩
/-! ships and logs of the model copied -/
def zsA (a b : Nat) (s : jm_M) (i : Nat) : jm_M := (fun c k => if c = 69 ∧ 3 * b ≤ k ∧ k < 3 * b + i then s.1 69 (k - 3 * b + 3 * a) else s.1 c k, s.2)
def zlA (a b : Nat) (s : jm_M) (i : Nat) : jm_M := (fun c k => if c = 70 ∧ 10 * b ≤ k ∧ k < 10 * b + i then s.1 70 (k - 10 * b + 10 * a) else s.1 c k, s.2)
theorem zl_all {a b : Nat} (ha : a < 3) (hb : b < 3) (hab : a ≠ b) (s : jm_M) : s_Z_copyAll_L41 5000 (nI a) (nI b) 0 s = some (zlA a b s 10) := by
  have h0 : zlA a b s 0 = s := jm_ext (fun c k => by simp only [zlA]; rw [if_neg (by omega)]) (fun _ _ => rfl)
  have := lp_inv (fun n c (t : jm_M) => s_Z_copyAll_L41 n (nI a) (nI b) c t) 10 (fun i => zlA a b s i) (some (zlA a b s 10)) (fun n => ?_) (fun n i hi => ?_) 10 5000 0 rfl (by decide)
  · simp only [h0] at this
    exact this
  · show s_Z_copyAll_L41 (n + 1) _ _ (nI 10) _ = _
    rw [s_Z_copyAll_L41, if_pos (by decide)]
  · show s_Z_copyAll_L41 (n + 1) _ _ (nI i) _ = s_Z_copyAll_L41 n _ _ (nI (i + 1)) _
    rw [s_Z_copyAll_L41, if_neg (fun z => by rw [i_ge 10, nI_toInt (by omega)] at z; omega), ix_m 10 a i 10 rfl, ix_m 10 b i 10 rfl, e_ldi (by omega) (by decide), e_sti (by omega) (by decide), nI_1]
    congr 1
    refine jm_ext (fun c k => ?_) (fun _ _ => rfl)
    simp only [jm_si, zlA]
    by_cases h1 : c = 70 ∧ k = 10 * b + i
    · obtain ⟨rfl, rfl⟩ := h1
      rw [if_pos ⟨rfl, rfl⟩, if_neg (by omega), if_pos (by omega), show 10 * b + i - 10 * b + 10 * a = 10 * a + i by omega]
    · rw [if_neg h1]
      by_cases h2 : c = 70 ∧ 10 * b ≤ k ∧ k < 10 * b + i
      · rw [if_pos h2, if_pos (by omega)]
      · rw [if_neg h2, if_neg (by omega)]
theorem zs_all {a b : Nat} (ha : a < 3) (hb : b < 3) (hab : a ≠ b) (s : jm_M) : s_Z_copyAll_L8 5000 (nI a) (nI b) 0 s = some (zlA a b (zsA a b s 3) 10) := by
  have h0 : zsA a b s 0 = s := jm_ext (fun c k => by simp only [zsA]; rw [if_neg (by omega)]) (fun _ _ => rfl)
  have := lp_inv (fun n c (t : jm_M) => s_Z_copyAll_L8 n (nI a) (nI b) c t) 3 (fun i => zsA a b s i) (some (zlA a b (zsA a b s 3) 10)) (fun n => ?_) (fun n i hi => ?_) 3 5000 0 rfl (by decide)
  · simp only [h0] at this
    exact this
  · show s_Z_copyAll_L8 (n + 1) _ _ (nI 3) _ = _
    rw [s_Z_copyAll_L8, if_pos (by decide), zl_all ha hb hab]
  · show s_Z_copyAll_L8 (n + 1) _ _ (nI i) _ = s_Z_copyAll_L8 n _ _ (nI (i + 1)) _
    rw [s_Z_copyAll_L8, if_neg (fun z => by rw [i_ge 3, nI_toInt (by omega)] at z; omega), ix_m 3 a i 3 rfl, ix_m 3 b i 3 rfl, e_ldi (by omega) (by decide), e_sti (by omega) (by decide), nI_1]
    congr 1
    refine jm_ext (fun c k => ?_) (fun _ _ => rfl)
    simp only [jm_si, zsA]
    by_cases h1 : c = 69 ∧ k = 3 * b + i
    · obtain ⟨rfl, rfl⟩ := h1
      rw [if_pos ⟨rfl, rfl⟩, if_neg (by omega), if_pos (by omega), show 3 * b + i - 3 * b + 3 * a = 3 * a + i by omega]
    · rw [if_neg h1]
      by_cases h2 : c = 69 ∧ 3 * b ≤ k ∧ k < 3 * b + i
      · rw [if_pos h2, if_pos (by omega)]
      · rw [if_neg h2, if_neg (by omega)]
def zaX (a b : Nat) (s : jm_M) : jm_M := zlA a b (zsA a b (zcX a b s) 3) 10
theorem za_all {a b : Nat} (ha : a < 3) (hb : b < 3) (hab : a ≠ b) (s : jm_M) : s_Z_copyAll s (nI a) (nI b) = some (zaX a b s) := by
  unfold s_Z_copyAll
  rw [zc_all (by omega) (by omega) hab, e_bd, zs_all ha hb hab]
  rfl
theorem zlA_v {a b i c k : Nat} {s : jm_M} : (zlA a b s i).1 c k = if c = 70 ∧ 10 * b ≤ k ∧ k < 10 * b + i then s.1 70 (k - 10 * b + 10 * a) else s.1 c k := rfl
theorem zsA_v {a b i c k : Nat} {s : jm_M} : (zsA a b s i).1 c k = if c = 69 ∧ 3 * b ≤ k ∧ k < 3 * b + i then s.1 69 (k - 3 * b + 3 * a) else s.1 c k := rfl
theorem zaX_c {a b c k : Nat} {s : jm_M} (h1 : c ≠ 69) (h2 : c ≠ 70) : (zaX a b s).1 c k = (zcX a b s).1 c k := by
  unfold zaX
  rw [zlA_v, if_neg (by omega), zsA_v, if_neg (by omega)]
/-- a net's words depend on these cells alone -/
theorem ZN_same {k : Nat} {s s' : jm_M} {T : tN} (he : ∀ c, 61 ≤ c → c ≤ 68 → s'.1 c = s.1 c) (h : ZN s k T) : ZN s' k T := by
  unfold ZN ZE at h ⊢
  rw [he 61 (by decide) (by decide), he 67 (by decide) (by decide), he 68 (by decide) (by decide)]
  refine ⟨h.1, fun q hq => ?_, h.2.2⟩
  have := h.2.1 q hq
  unfold ZH at this ⊢
  rw [he 62 (by decide) (by decide), he 63 (by decide) (by decide), he 64 (by decide) (by decide), he 65 (by decide) (by decide), he 66 (by decide) (by decide)]
  exact this
theorem zaX_N {a b : Nat} {s : jm_M} {T : tN} (wt : wT T) (h : ZN s a T) : ZN (zaX a b s) b T := ZN_same (fun c h1 h2 => by funext k; exact zaX_c (by omega) (by omega)) (zcX_N wt h)
theorem zaX_No {a b k : Nat} {s : jm_M} {T : tN} (wt : wT T) (hkb : k ≠ b) (h : ZN s k T) : ZN (zaX a b s) k T := ZN_same (fun c h1 h2 => by funext q; exact zaX_c (by omega) (by omega)) (ZN_o wt hkb h)
theorem zaX_69 {a b k : Nat} {s : jm_M} : (zaX a b s).1 69 k = if 3 * b ≤ k ∧ k < 3 * b + 3 then s.1 69 (k - 3 * b + 3 * a) else s.1 69 k := by
  unfold zaX
  rw [zlA_v, if_neg (by omega), zsA_v]
  by_cases h : 3 * b ≤ k ∧ k < 3 * b + 3
  · rw [if_pos ⟨rfl, h⟩, if_pos h, zcX_o 69 (by omega)]
  · rw [if_neg (fun z => h z.2), if_neg h, zcX_o 69 (by omega)]
theorem zaX_70 {a b k : Nat} {s : jm_M} : (zaX a b s).1 70 k = if 10 * b ≤ k ∧ k < 10 * b + 10 then s.1 70 (k - 10 * b + 10 * a) else s.1 70 k := by
  unfold zaX
  rw [zlA_v]
  by_cases h : 10 * b ≤ k ∧ k < 10 * b + 10
  · rw [if_pos ⟨rfl, h⟩, if_pos h, zsA_v, if_neg (by omega), zcX_o 70 (by omega)]
  · rw [if_neg (fun z => h z.2), if_neg h, zsA_v, if_neg (by omega), zcX_o 70 (by omega)]
theorem zaX_S {a b hd : Nat} {sm : Nat → Bool} {s : jm_M} (h : ZS s a hd sm) : ZS (zaX a b s) b hd sm := by
  obtain ⟨h1, x, y, h2, h3, h4⟩ := h
  refine ⟨?_, x, y, ?_, ?_, h4⟩
  · rw [zaX_69, if_pos (by omega), show 3 * b - 3 * b + 3 * a = 3 * a by omega]; exact h1
  · rw [zaX_69, if_pos (by omega), show 3 * b + 1 - 3 * b + 3 * a = 3 * a + 1 by omega]; exact h2
  · rw [zaX_69, if_pos (by omega), show 3 * b + 2 - 3 * b + 3 * a = 3 * a + 2 by omega]; exact h3
theorem zaX_So {a b k hd : Nat} {sm : Nat → Bool} {s : jm_M} (hkb : k ≠ b) (h : ZS s k hd sm) : ZS (zaX a b s) k hd sm := by
  obtain ⟨h1, x, y, h2, h3, h4⟩ := h
  refine ⟨?_, x, y, ?_, ?_, h4⟩
  · rw [zaX_69, if_neg (by omega)]; exact h1
  · rw [zaX_69, if_neg (by omega)]; exact h2
  · rw [zaX_69, if_neg (by omega)]; exact h3
theorem zaX_L {a b : Nat} {lg : Nat → Int32} {s : jm_M} (h : ZL s a lg) : ZL (zaX a b s) b lg := fun q hq => by
  rw [zaX_70, if_pos (by omega), show 10 * b + q - 10 * b + 10 * a = 10 * a + q by omega]
  exact h q hq
theorem zaX_Lo {a b k : Nat} {lg : Nat → Int32} {s : jm_M} (hkb : k ≠ b) (h : ZL s k lg) : ZL (zaX a b s) k lg := fun q hq => by
  rw [zaX_70, if_neg (by omega)]
  exact h q hq
