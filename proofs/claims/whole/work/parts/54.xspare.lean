/-! the class's council: spares, sights gone, study -/
def cAdd (C : tC) (A : Nat) : tC := (cF C ||| A, cH C, ce C, cs C, cd C, cp C)
theorem wK_add {C : tC} (wk : wK C) {sp A : Nat} (hsp : sp < 1024) (he : sp.testBit (ce C) = false) (hA : sbs A sp) : wK (cAdd C A) := by
  refine ⟨wk.1, Nat.or_lt_two_pow (n := 10) wk.2.1 (sbs_lt hA hsp), fun i hi => ?_, wk.2.2.2.1, ?_⟩
  · show (cF C ||| A).testBit i = true
    rw [Nat.testBit_or, wk.2.2.1 i hi, Bool.true_or]
  · show (cF C ||| A).testBit (ce C) = false
    rw [Nat.testBit_or, wk.2.2.2.2, Bool.false_or]
    cases hb : A.testBit (ce C) with
    | false => rfl
    | true => rw [hA _ hb] at he; cases he
def asR (C : tC) (b sp : Nat) (r : Int32) : Prop := (∃ A, sbs A sp ∧ bear (cAdd C A) b ∧ (∀ B, sbs B sp → bear (cAdd C B) b → bcn A < bcn B ∨ (bcn A = bcn B ∧ A ≤ B)) ∧ r = nI A) ∨ (r = -4 ∧ ∀ A, sbs A sp → ¬ bear (cAdd C A) b)
theorem asR_one {C : tC} {b sp : Nat} {r q : Int32} (h1 : asR C b sp r) (h2 : asR C b sp q) : r = q := by
  rcases h1 with ⟨A, a1, a2, a3, rfl⟩ | ⟨rfl, a1⟩ <;> rcases h2 with ⟨B, b1, b2, b3, rfl⟩ | ⟨rfl, b1⟩
  · have := a3 B b1 b2
    have := b3 A a1 a2
    rw [show A = B by omega]
  · exact absurd a2 (b1 A a1)
  · exact absurd b2 (a1 B b1)
  · rfl
def XP (s : jm_M) (C : tC) : Prop := s.1 48 2 = nI (ce C) ∧ s.1 48 3 = nI (cH C) ∧ ∀ h, h < 10 → s.1 49 h = nI (cs C h) ∧ s.1 50 h = nI (cd C h) ∧ s.1 51 h = nI (cp C h)
theorem x_sp21 {C : tC} (wk : wK C) {b sp : Nat} (hb : b ≤ 10) (hsp : sp < 1024) (he : sp.testBit (ce C) = false) (k5 : Int32 → Int32 → Int32 → Int32 → jm_M → Option (Int32 × jm_M)) {z : Nat} (hz : z ≤ 10) : ∀ (k n S i : Nat) (s : jm_M), S + k = 1023 → k < n → i ≤ S → sbs S sp → XP s C → (∀ B, sbs B sp → bcn B < z ∨ (bcn B = z ∧ B < S) → ¬ bear (cAdd C B) b) → (∃ r s', s_Co_fewestSpares_L21 k5 n (nI b) (nI sp) (nI (cF C)) (nI z) (nI S) (nI i) s = some (r, s') ∧ asR C b sp r) ∨ (∃ s', s_Co_fewestSpares_L21 k5 n (nI b) (nI sp) (nI (cF C)) (nI z) (nI S) (nI i) s = k5 (nI b) (nI sp) (nI (cF C)) (nI (z + 1)) s' ∧ XP s' C ∧ ∀ B, sbs B sp → bcn B < z + 1 → ¬ bear (cAdd C B) b) := by
  intro k
  induction k using Nat.strongRecOn with
  | ind k ih =>
    intro n S i s hS hn hi hs xp hq
    obtain ⟨n, rfl⟩ : ∃ q, n = q + 1 := ⟨n - 1, by omega⟩
    have hbl := bcn_le S
    have wkA := wK_add wk hsp he hs
    have xe2 : XE (jm_si s 48 4 (nI (cF C ||| S))) (cAdd C S) := by
      refine ⟨⟨?_, ?_, fun h hh => ?_⟩, ?_⟩
      · rw [e_sio (by omega)]; exact xp.2.1
      · rw [e_si]; rfl
      · rw [e_sio (by omega), e_sio (by omega), e_sio (by omega)]; exact xp.2.2 h hh
      · rw [e_sio (by omega)]; exact xp.1
    have G : ∀ s2, XP s2 C → (bcn S = z → ¬ bear (cAdd C S) b) → (∃ r s', s_Co_fewestSpares_J60 k5 (s_Co_fewestSpares_L21 k5 n) (nI b) (nI sp) (nI (cF C)) (nI z) (nI S) (nI i) s2 = some (r, s') ∧ asR C b sp r) ∨ (∃ s', s_Co_fewestSpares_J60 k5 (s_Co_fewestSpares_L21 k5 n) (nI b) (nI sp) (nI (cF C)) (nI z) (nI S) (nI i) s2 = k5 (nI b) (nI sp) (nI (cF C)) (nI (z + 1)) s' ∧ XP s' C ∧ ∀ B, sbs B sp → bcn B < z + 1 → ¬ bear (cAdd C B) b) := by
      intro s2 xp2 hS2
      unfold s_Co_fewestSpares_J60
      rw [x_next hsp (by omega), e_bd, nI_1, nI_1]
      rcases nx_c hsp hs with ⟨g1, g2⟩ | ⟨g1, g2, g3, g4⟩
      · rw [g1, if_pos (show nI 0 = 0 from rfl)]
        right
        refine ⟨s2, rfl, xp2, fun B hB1 hB2 => ?_⟩
        by_cases h1 : bcn B < z
        · exact hq B hB1 (Or.inl h1)
        · by_cases h2 : B < S
          · exact hq B hB1 (Or.inr ⟨by omega, h2⟩)
          · by_cases h3 : B = S
            · rw [h3]; rw [h3] at hB2 h1; exact hS2 (by omega)
            · exact absurd hB1 (g2 B (by omega))
      · rw [if_neg (fun z => by rw [i_eq 0, nI_toInt (by omega)] at z; omega)]
        refine ih (1023 - nxk 10 sp S) (by omega) n _ (i + 1) s2 (by omega) (by omega) (by omega) g3 xp2 (fun B hB1 hB2 => ?_)
        by_cases h1 : bcn B < z
        · exact hq B hB1 (Or.inl h1)
        · by_cases h2 : B < S
          · exact hq B hB1 (Or.inr ⟨by omega, h2⟩)
          · by_cases h3 : B = S
            · rw [h3]; rw [h3] at hB2 h1; exact hS2 (by omega)
            · exact absurd hB1 (g4 B (by omega) (by omega))
    have xpe : ∀ s2, XE s2 (cAdd C S) → XP s2 C := fun s2 h => ⟨h.2, h.1.1, h.1.2.2⟩
    rw [s_Co_fewestSpares_L21, if_neg (fun z => by rw [i_ge 1024, nI_toInt (by omega)] at z; omega), fa_or, e_ev, x_bc _ (by omega), e_bd]
    by_cases hc : bcn S = z
    · rw [if_pos (by rw [hc])]
      obtain ⟨r, s3, h1, h2, h3⟩ := x_ifBorne wkA xe2 hb
      rw [h1, e_b2]
      rcases h2 with ⟨a1, L, a2, a3, a4, rfl⟩ | ⟨a1, rfl⟩
      · rw [if_neg (nI_n4 (by omega))]
        left
        refine ⟨_, _, rfl, Or.inl ⟨S, hs, a1, fun B hB1 hB2 => ?_, rfl⟩⟩
        apply Classical.byContradiction
        intro hn2
        exact hq B hB1 (by omega) hB2
      · rw [if_pos rfl]
        exact G s3 (xpe s3 h3) (fun _ => a1)
    · rw [if_neg (fun z => hc ((nI_eq (by omega) (by omega)).mp z))]
      exact G _ (xpe _ xe2) (fun h => absurd h hc)
theorem x_spares {s : jm_M} {C : tC} (wk : wK C) (xe : XE s C) {b sp : Nat} (hb : b ≤ 10) (hsp : sp < 1024) (he : sp.testBit (ce C) = false) : ∃ r s', s_Co_fewestSpares s (nI b) (nI sp) = some (r, s') ∧ asR C b sp r := by
  have H : ∀ (d n z : Nat) (s : jm_M), z + d = 11 → d < n → XP s C → (∀ B, sbs B sp → bcn B < z → ¬ bear (cAdd C B) b) → ∃ r s', s_Co_fewestSpares_L8 n (nI b) (nI sp) (nI (cF C)) (nI z) s = some (r, s') ∧ asR C b sp r := by
    intro d
    induction d with
    | zero =>
      intro n z s hz hn xp hq
      obtain ⟨n, rfl⟩ : ∃ q, n = q + 1 := ⟨n - 1, by omega⟩
      rw [s_Co_fewestSpares_L8, if_pos (by rw [i_gt 10, nI_toInt (by omega)]; omega)]
      exact ⟨_, _, rfl, Or.inr ⟨rfl, fun B hB => hq B hB (by have := bcn_le B; omega)⟩⟩
    | succ d ih =>
      intro n z s hz hn xp hq
      obtain ⟨n, rfl⟩ : ∃ q, n = q + 1 := ⟨n - 1, by omega⟩
      rw [s_Co_fewestSpares_L8, if_neg (fun z => by rw [i_gt 10, nI_toInt (by omega)] at z; omega)]
      rcases x_sp21 wk hb hsp he (s_Co_fewestSpares_L8 n) (z := z) (by omega) 1023 5000 0 0 s rfl (by decide) (Nat.le_refl _) (fun i hi => by simp at hi) xp (fun B hB1 hB2 => hq B hB1 (by omega)) with ⟨r, s', h1, h2⟩ | ⟨s', h1, h2, h3⟩
      · exact ⟨r, s', h1, h2⟩
      · have h1' : s_Co_fewestSpares_L21 (s_Co_fewestSpares_L8 n) 5000 (nI b) (nI sp) (nI (cF C)) (nI z) 0 0 s = s_Co_fewestSpares_L8 n (nI b) (nI sp) (nI (cF C)) (nI (z + 1)) s' := h1
        rw [h1']
        exact ih n (z + 1) s' (by omega) (by omega) h2 h3
  unfold s_Co_fewestSpares
  rw [e_vi, xe.1.2.1]
  exact H 11 5000 0 s rfl (by decide) ⟨xe.2, xe.1.1, xe.1.2.2⟩ (fun B _ h => by omega)
/-! a sight gone -/
def cGon (C : tC) (a b : Nat) : tC := (cF C, cH C, ce C, fun h => if h = a then cs C a ^^^ 2 ^ b else if h = b then cs C b ^^^ 2 ^ a else cs C h, cd C, cp C)
theorem gon_cs {C : tC} {a b h : Nat} : cs (cGon C a b) h = if h = a then cs C a ^^^ 2 ^ b else if h = b then cs C b ^^^ 2 ^ a else cs C h := rfl
theorem wK_gon {C : tC} (wk : wK C) {a b : Nat} (ha : a < 10) (hb : b < 10) : wK (cGon C a b) := by
  refine ⟨fun h hh => ⟨?_, (wk.1 h hh).2⟩, wk.2⟩
  rw [gon_cs]
  split
  · exact Nat.xor_lt_two_pow (n := 10) (wk.1 a ha).1 (p2_lt hb)
  · split
    · exact Nat.xor_lt_two_pow (n := 10) (wk.1 b hb).1 (p2_lt ha)
    · exact (wk.1 h hh).1
theorem gon_back {C : tC} {a b : Nat} (hab : a ≠ b) (h : Nat) : cs (cGon (cGon C a b) a b) h = cs C h := by
  rw [gon_cs]
  by_cases h1 : h = a
  · rw [if_pos h1, gon_cs, if_pos rfl, Nat.xor_assoc, Nat.xor_self, Nat.xor_zero, h1]
  · rw [if_neg h1]
    by_cases h2 : h = b
    · rw [if_pos h2, gon_cs, if_neg (fun e => hab e.symm), if_pos rfl, Nat.xor_assoc, Nat.xor_self, Nat.xor_zero, h2]
    · rw [if_neg h2, gon_cs, if_neg h1, if_neg h2]
theorem x_turn {s : jm_M} {C : tC} (xe : XE s C) {a b : Nat} (ha : a < 10) (hb : b < 10) (hab : a ≠ b) : ∃ s', s_Co_turnSight s (nI a) (nI b) = some s' ∧ XE s' (cGon C a b) := by
  unfold s_Co_turnSight
  rw [if_neg (nI_pos (by omega)), if_neg (fun z => by rw [i_ge 10, nI_toInt (by omega)] at z; omega), if_neg (nI_pos (by omega)), if_neg (fun z => by rw [i_ge 10, nI_toInt (by omega)] at z; omega), e_ldi ha (by decide), e_sti ha (by decide), e_ldi hb (by decide), e_sti hb (by decide), p2 (by omega), p2 (by omega), (xe.1.2.2 a ha).1, fb_xorI, e_sio (by omega), (xe.1.2.2 b hb).1, fb_xorI]
  refine ⟨_, rfl, ⟨?_, ?_, fun h hh => ⟨?_, ?_, ?_⟩⟩, ?_⟩
  · rw [e_sio (by omega), e_sio (by omega)]; exact xe.1.1
  · rw [e_sio (by omega), e_sio (by omega)]; exact xe.1.2.1
  · rw [gon_cs]
    by_cases h2 : h = b
    · rw [h2, e_si, if_neg (fun e => hab e.symm), if_pos rfl]
    · rw [e_sio (by omega)]
      by_cases h1 : h = a
      · rw [h1, e_si, if_pos rfl]
      · rw [e_sio (by omega), if_neg h1, if_neg h2]
        exact (xe.1.2.2 h hh).1
  · rw [e_sio (by omega), e_sio (by omega)]; exact (xe.1.2.2 h hh).2.1
  · rw [e_sio (by omega), e_sio (by omega)]; exact (xe.1.2.2 h hh).2.2
  · rw [e_sio (by omega), e_sio (by omega)]; exact xe.2
theorem XE_back {s : jm_M} {C : tC} {a b : Nat} (hab : a ≠ b) (xe : XE s (cGon (cGon C a b) a b)) : XE s C := by
  refine ⟨⟨xe.1.1, xe.1.2.1, fun h hh => ⟨?_, (xe.1.2.2 h hh).2⟩⟩, xe.2⟩
  have := (xe.1.2.2 h hh).1
  rw [gon_back hab] at this
  exact this
def sG (C : tC) (a b : Nat) : Prop := a < b ∧ b < 10 ∧ (cs C a).testBit b = true
def isLG (C : tC) (b L : Nat) : Prop := ((∀ x y, ¬ sG C x y) ∧ isL C b L) ∨ ((∀ x y M, sG C x y → isL (cGon C x y) b M → M ≤ L) ∧ ∃ x y, sG C x y ∧ isL (cGon C x y) b L)
theorem isLG_one {C : tC} {b L M : Nat} (h1 : isLG C b L) (h2 : isLG C b M) : L = M := by
  rcases h1 with ⟨a1, a2⟩ | ⟨a1, x, y, a2, a3⟩ <;> rcases h2 with ⟨b1, b2⟩ | ⟨b1, u, v, b2, b3⟩
  · exact isL_one a2 b2
  · exact absurd b2 (a1 u v)
  · exact absurd a2 (b1 x y)
  · have := a1 u v M b2 b3
    have := b1 x y L a2 a3
    omega
def lgR (C : tC) (b : Nat) (r : Int32) : Prop := ∃ L, isLG C b L ∧ r = if L = 1000000 then -4 else nI L
theorem x_gon21 {C : tC} (wk : wK C) {b : Nat} (hb : b ≤ 10) (k6 : Int32 → Int32 → Int32 → Int32 → jm_M → Option (Int32 × jm_M)) {x : Nat} (hx : x < 10) : ∀ (d n y w : Nat) (s : jm_M), y + d = 10 → d < n → x < y → XE s C → w < 1000000 → (∀ u v M, sG C u v → u < x ∨ (u = x ∧ v < y) → isL (cGon C u v) b M → M ≤ w) → (w = 0 ∨ ∃ u v, sG C u v ∧ isL (cGon C u v) b w) → (∃ r s', s_Co_latestWithOneSightGone_L21 k6 n (nI b) (wI w) (oI (decide (w ≠ 0))) (nI x) (nI y) s = some (r, s') ∧ lgR C b r) ∨ (∃ s' w', s_Co_latestWithOneSightGone_L21 k6 n (nI b) (wI w) (oI (decide (w ≠ 0))) (nI x) (nI y) s = k6 (nI b) (wI w') (oI (decide (w' ≠ 0))) (nI (x + 1)) s' ∧ XE s' C ∧ w' < 1000000 ∧ (∀ u v M, sG C u v → u < x + 1 → isL (cGon C u v) b M → M ≤ w') ∧ (w' = 0 ∨ ∃ u v, sG C u v ∧ isL (cGon C u v) b w')) := by
  intro d
  induction d with
  | zero =>
    intro n y w s hy hn hxy xe hw h1 h2
    obtain ⟨n, rfl⟩ : ∃ q, n = q + 1 := ⟨n - 1, by omega⟩
    rw [s_Co_latestWithOneSightGone_L21, if_pos (by rw [i_ge 10, nI_toInt (by omega)]; omega), nI_1]
    refine Or.inr ⟨s, w, rfl, xe, hw, fun u v M hG hu hM => h1 u v M hG ?_ hM, h2⟩
    have := hG.2.1
    omega
  | succ d ih =>
    intro n y w s hy hn hxy xe hw h1 h2
    obtain ⟨n, rfl⟩ : ∃ q, n = q + 1 := ⟨n - 1, by omega⟩
    have wx := wk.1 x hx
    rw [s_Co_latestWithOneSightGone_L21, if_neg (fun z => by rw [i_ge 10, nI_toInt (by omega)] at z; omega), e_ldi hx (by decide), (xe.1.2.2 x hx).1, bit1o (by omega) (by omega), nI_1]
    cases hs : (cs C x).testBit y with
    | false =>
      rw [oI_f, if_pos rfl]
      refine ih n (y + 1) w s (by omega) (by omega) (by omega) xe hw (fun u v M hG hu hM => ?_) h2
      by_cases huv : u = x ∧ v = y
      · obtain ⟨rfl, rfl⟩ := huv
        rw [hG.2.2] at hs; cases hs
      · exact h1 u v M hG (by omega) hM
    | true =>
      have hG : sG C x y := ⟨hxy, by omega, hs⟩
      have wkG : wK (cGon C x y) := wK_gon wk hx (by omega)
      obtain ⟨s1, a1, a2⟩ := x_turn xe hx (show y < 10 by omega) (show x ≠ y by omega)
      obtain ⟨r, s2, b1, ⟨L, b2, rfl⟩, b3⟩ := x_latest wkG a2 hb
      obtain ⟨s3, c1, c2⟩ := x_turn b3 hx (show y < 10 by omega) (show x ≠ y by omega)
      have xe3 : XE s3 C := XE_back (show x ≠ y by omega) c2
      rw [oI_t, if_neg e10, a1, e_bd, b1, e_b2, c1, e_bd]
      rcases isL_bd wkG b2 with g | g
      · rw [if_pos g, if_pos rfl]
        left
        refine ⟨_, _, rfl, 1000000, Or.inr ⟨fun u v M hG2 hM => ?_, x, y, hG, by rw [← g]; exact b2⟩, by rw [if_pos rfl]⟩
        rcases isL_bd (wK_gon wk (by have := hG2.1; have := hG2.2.1; omega) hG2.2.1) hM with g2 | g2 <;> omega
      · rw [if_neg (show ¬ L = 1000000 by omega), if_neg (nI_n4 (by omega)), e_vi, wI_max hw g.1 (by omega)]
        have e : oI (decide (max w L ≠ 0)) = 1 := by
          rw [show decide (max w L ≠ 0) = true by simp only [decide_eq_true_eq]; omega]; rfl
        rw [← e]
        refine ih n (y + 1) (max w L) s3 (by omega) (by omega) (by omega) xe3 (by omega) (fun u v M hG2 hu hM => ?_) ?_
        · by_cases huv : u = x ∧ v = y
          · obtain ⟨rfl, rfl⟩ := huv
            rw [isL_one hM b2]; omega
          · have := h1 u v M hG2 (by omega) hM
            omega
        · right
          by_cases hwL : L ≤ w
          · rcases h2 with h2 | h2
            · omega
            · rw [Nat.max_eq_left hwL]; exact h2
          · rw [Nat.max_eq_right (by omega)]; exact ⟨x, y, hG, b2⟩
theorem x_gone {s : jm_M} {C : tC} (wk : wK C) (xe : XE s C) {b : Nat} (hb : b ≤ 10) : ∃ r s', s_Co_latestWithOneSightGone s (nI b) = some (r, s') ∧ lgR C b r := by
  have H : ∀ (d n x w : Nat) (s : jm_M), x + d = 10 → d < n → XE s C → w < 1000000 → (∀ u v M, sG C u v → u < x → isL (cGon C u v) b M → M ≤ w) → (w = 0 ∨ ∃ u v, sG C u v ∧ isL (cGon C u v) b w) → ∃ r s', s_Co_latestWithOneSightGone_L8 n (nI b) (wI w) (oI (decide (w ≠ 0))) (nI x) s = some (r, s') ∧ lgR C b r := by
    intro d
    induction d with
    | zero =>
      intro n x w s hx hn xe hw h1 h2
      obtain ⟨n, rfl⟩ : ∃ q, n = q + 1 := ⟨n - 1, by omega⟩
      rw [s_Co_latestWithOneSightGone_L8, if_pos (by rw [i_ge 10, nI_toInt (by omega)]; omega)]
      by_cases h0 : w = 0
      · rw [if_pos (by rw [h0]; rfl)]
        obtain ⟨r, s2, b1, ⟨L, b2, rfl⟩, b3⟩ := x_latest wk xe hb
        rw [b1, e_b2]
        refine ⟨_, _, rfl, L, Or.inl ⟨fun u v hG => ?_, b2⟩, rfl⟩
        have wkG := wK_gon wk (show u < 10 by have := hG.1; have := hG.2.1; omega) hG.2.1
        obtain ⟨M, hM⟩ := isL_ex wkG b
        have := h1 u v M hG (by have := hG.1; have := hG.2.1; omega) hM
        rcases isL_bd wkG hM with g2 | g2 <;> omega
      · rw [if_neg (by rw [show decide (w ≠ 0) = true by simp [h0]]; decide)]
        rcases h2 with h2 | ⟨u, v, h3, h4⟩
        · exact absurd h2 h0
        · refine ⟨_, _, rfl, w, Or.inr ⟨fun u v M hG hM => h1 u v M hG (by have := hG.1; have := hG.2.1; omega) hM, u, v, h3, h4⟩, ?_⟩
          rw [if_neg (show ¬ w = 1000000 by omega), wI, if_neg h0]
    | succ d ih =>
      intro n x w s hx hn xe hw h1 h2
      obtain ⟨n, rfl⟩ : ∃ q, n = q + 1 := ⟨n - 1, by omega⟩
      rw [s_Co_latestWithOneSightGone_L8, if_neg (fun z => by rw [i_ge 10, nI_toInt (by omega)] at z; omega), e_vi, nI_1]
      rcases x_gon21 wk hb (s_Co_latestWithOneSightGone_L8 n) (x := x) (by omega) (10 - (x + 1)) 5000 (x + 1) w s (by omega) (by omega) (by omega) xe hw (fun u v M hG hu hM => h1 u v M hG (by have := hG.1; omega) hM) h2 with h | ⟨s', w', a1, a2, a3, a4, a5⟩
      · exact h
      · rw [a1]
        exact ih n (x + 1) w' s' (by omega) (by omega) a2 a3 a4 a5
  exact H 10 5000 0 0 s rfl (by decide) xe (by decide) (fun u v M _ hu _ => by omega) (Or.inl rfl)
