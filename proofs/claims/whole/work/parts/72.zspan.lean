/-! spans of the model's draft -/
def adE (E : tE) (c l a b x y : Nat) : tE := (ptv E.1 c l, ptv E.2.1 c a, ptv E.2.2.1 c b, ptv E.2.2.2.1 c x, ptv E.2.2.2.2 c y)
theorem pt_s (g : Nat → Nat) (c x : Nat) : ptv g c x c = x := if_pos rfl
theorem pt_o (g : Nat → Nat) {c x j : Nat} (h : j ≠ c) : ptv g c x j = g j := if_neg h
theorem tell_ad {E : tE} {c l a b x y L h t : Nat} : tell (adE E c l a b x y) (c + 1) L h t ↔ tell E c L h t ∨ (l = L ∧ a = h ∧ x ≤ t ∧ t ≤ y) := by
  unfold tell adE
  constructor
  · rintro ⟨j, hj, h1, h2, h3, h4⟩
    simp only at h1 h2 h3 h4
    by_cases e : j = c
    · subst e
      rw [pt_s] at h1 h2 h3 h4
      exact Or.inr ⟨h1, h2, h3, h4⟩
    · rw [pt_o _ e] at h1 h2 h3 h4
      exact Or.inl ⟨j, by omega, h1, h2, h3, h4⟩
  · rintro (⟨j, hj, h1, h2, h3, h4⟩ | ⟨h1, h2, h3, h4⟩)
    · have e : j ≠ c := by omega
      refine ⟨j, by omega, ?_⟩
      simp only
      rw [pt_o _ e, pt_o _ e, pt_o _ e, pt_o _ e]
      exact ⟨h1, h2, h3, h4⟩
    · refine ⟨c, by omega, ?_⟩
      simp only
      rw [pt_s, pt_s, pt_s, pt_s]
      exact ⟨h1, h2, h3, h4⟩
theorem tellM_ad {E : tE} {c l a b x y p q t : Nat} : tellM (adE E c l a b x y) (c + 1) p q t ↔ tellM E c p q t ∨ (l = 103 ∧ ((a = p ∧ b = q) ∨ (a = q ∧ b = p)) ∧ x ≤ t ∧ t ≤ y) := by
  unfold tellM adE
  constructor
  · rintro ⟨j, hj, h1, h2, h3, h4⟩
    simp only at h1 h2 h3 h4
    by_cases e : j = c
    · subst e
      rw [pt_s] at h1 h3 h4
      rw [pt_s, pt_s] at h2
      exact Or.inr ⟨h1, h2, h3, h4⟩
    · rw [pt_o _ e] at h1 h3 h4
      rw [pt_o _ e, pt_o _ e] at h2
      exact Or.inl ⟨j, by omega, h1, h2, h3, h4⟩
  · rintro (⟨j, hj, h1, h2, h3, h4⟩ | ⟨h1, h2, h3, h4⟩)
    · have e : j ≠ c := by omega
      refine ⟨j, by omega, ?_⟩
      simp only
      rw [pt_o _ e, pt_o _ e, pt_o _ e, pt_o _ e, pt_o _ e]
      exact ⟨h1, h2, h3, h4⟩
    · refine ⟨c, by omega, ?_⟩
      simp only
      rw [pt_s, pt_s, pt_s, pt_s, pt_s]
      exact ⟨h1, h2, h3, h4⟩
theorem wE_ad {E : tE} {c l a b x y : Nat} (h : wE c E) (hl : l < 128) (ha : a < 10) (hb : b < 10) (hx : x ≤ y) (hy : y ≤ 59) : wE (c + 1) (adE E c l a b x y) := by
  intro j hj
  unfold adE
  simp only
  by_cases e : j = c
  · subst e
    rw [pt_s, pt_s, pt_s, pt_s, pt_s]
    exact ⟨hl, ha, hb, hx, hy⟩
  · rw [pt_o _ e, pt_o _ e, pt_o _ e, pt_o _ e, pt_o _ e]
    exact h j (by omega)
theorem sE_A {T : tN} {E : tE} {c a x y : Nat} (h : sE T c E) (ha : a < 10) (hx : x ≤ y) (hy : y ≤ 59) : sE (uA T a x y) (c + 1) (adE E c 115 a 0 x y) := by
  obtain ⟨h1, h2, h3, h4⟩ := h
  refine ⟨wE_ad h1 (by decide) ha (by decide) hx hy, fun h t => ?_, fun h t => ?_, fun p q t => ?_⟩
  · rw [tell_ad, ← h2]
    show (ta T h t || (decide (h = a) && inM x y t)) = true ↔ _
    simp only [Bool.or_eq_true, Bool.and_eq_true, decide_eq_true_eq, inM_iff]
    constructor
    · rintro (g | ⟨g1, g2⟩)
      · exact Or.inl g
      · exact Or.inr ⟨trivial, g1.symm, g2⟩
    · rintro (g | ⟨_, g1, g2⟩)
      · exact Or.inl g
      · exact Or.inr ⟨g1.symm, g2⟩
  · rw [tell_ad, ← h3]
    exact ⟨Or.inl, fun g => g.elim id (fun g => absurd g.1 (by decide))⟩
  · rw [tellM_ad, ← h4]
    exact ⟨Or.inl, fun g => g.elim id (fun g => absurd g.1 (by decide))⟩
theorem sE_L {T : tN} {E : tE} {c a x y : Nat} (h : sE T c E) (ha : a < 10) (hx : x ≤ y) (hy : y ≤ 59) : sE (uL T a x y) (c + 1) (adE E c 108 a 0 x y) := by
  obtain ⟨h1, h2, h3, h4⟩ := h
  refine ⟨wE_ad h1 (by decide) ha (by decide) hx hy, fun h t => ?_, fun h t => ?_, fun p q t => ?_⟩
  · rw [tell_ad, ← h2]
    exact ⟨Or.inl, fun g => g.elim id (fun g => absurd g.1 (by decide))⟩
  · rw [tell_ad, ← h3]
    show (tz T h t || (decide (h = a) && inM x y t)) = true ↔ _
    simp only [Bool.or_eq_true, Bool.and_eq_true, decide_eq_true_eq, inM_iff]
    constructor
    · rintro (g | ⟨g1, g2⟩)
      · exact Or.inl g
      · exact Or.inr ⟨trivial, g1.symm, g2⟩
    · rintro (g | ⟨_, g1, g2⟩)
      · exact Or.inl g
      · exact Or.inr ⟨g1.symm, g2⟩
  · rw [tellM_ad, ← h4]
    exact ⟨Or.inl, fun g => g.elim id (fun g => absurd g.1 (by decide))⟩
theorem sE_G {T : tN} {E : tE} {c a b x y : Nat} (h : sE T c E) (ha : a < 10) (hb : b < 10) (hx : x ≤ y) (hy : y ≤ 59) : sE (uG T a b x y) (c + 1) (adE E c 103 a b x y) := by
  obtain ⟨h1, h2, h3, h4⟩ := h
  refine ⟨wE_ad h1 (by decide) ha hb hx hy, fun h t => ?_, fun h t => ?_, fun p q t => ?_⟩
  · rw [tell_ad, ← h2]
    exact ⟨Or.inl, fun g => g.elim id (fun g => absurd g.1 (by decide))⟩
  · rw [tell_ad, ← h3]
    exact ⟨Or.inl, fun g => g.elim id (fun g => absurd g.1 (by decide))⟩
  · rw [tellM_ad, ← h4]
    show (tm T p q t || (decide ((p = a ∧ q = b) ∨ (p = b ∧ q = a)) && inM x y t)) = true ↔ _
    simp only [Bool.or_eq_true, Bool.and_eq_true, decide_eq_true_eq, inM_iff]
    constructor
    · rintro (g | ⟨g1, g2⟩)
      · exact Or.inl g
      · exact Or.inr ⟨trivial, by omega, g2⟩
    · rintro (g | ⟨_, g1, g2⟩)
      · exact Or.inl g
      · exact Or.inr ⟨by omega, g2⟩
def addS (s : jm_M) (c l a b x y : Nat) : jm_M := jm_si (jm_si (jm_si (jm_si (jm_si (jm_si s 68 (215 * 3 + 5 * c) (nI l)) 68 (215 * 3 + 5 * c + 1) (nI a)) 68 (215 * 3 + 5 * c + 2) (nI b)) 68 (215 * 3 + 5 * c + 3) (nI x)) 68 (215 * 3 + 5 * c + 4) (nI y)) 67 3 (nI (c + 1))
theorem addS_o {s : jm_M} {c l a b x y i k : Nat} (h1 : ¬ (i = 67 ∧ k = 3)) (h2 : ¬ (i = 68 ∧ 215 * 3 + 5 * c ≤ k ∧ k ≤ 215 * 3 + 5 * c + 4)) : (addS s c l a b x y).1 i k = s.1 i k := by
  unfold addS
  rw [e_sio h1, e_sio (by omega), e_sio (by omega), e_sio (by omega), e_sio (by omega), e_sio (by omega)]
theorem addS_E {s : jm_M} {c l a b x y : Nat} {E : tE} (h : ZE s 3 c E) (hc : c < 43) : ZE (addS s c l a b x y) 3 (c + 1) (adE E c l a b x y) := by
  refine ⟨by unfold addS; rw [e_si], hc, fun j hj => ?_⟩
  unfold adE
  simp only
  by_cases e : j = c
  · subst e
    rw [pt_s, pt_s, pt_s, pt_s, pt_s]
    unfold addS
    refine ⟨?_, ?_, ?_, ?_, ?_⟩
    · rw [e_sio (by omega), e_sio (by omega), e_sio (by omega), e_sio (by omega), e_sio (by omega), e_si]
    · rw [e_sio (by omega), e_sio (by omega), e_sio (by omega), e_sio (by omega), e_si]
    · rw [e_sio (by omega), e_sio (by omega), e_sio (by omega), e_si]
    · rw [e_sio (by omega), e_sio (by omega), e_si]
    · rw [e_sio (by omega), e_si]
  · rw [pt_o _ e, pt_o _ e, pt_o _ e, pt_o _ e, pt_o _ e, addS_o (by omega) (by omega), addS_o (by omega) (by omega), addS_o (by omega) (by omega), addS_o (by omega) (by omega), addS_o (by omega) (by omega)]
    exact h.2.2 j (by omega)
theorem ix645 (c : Nat) : (645 : Int32) + 5 * nI c = nI (215 * 3 + 5 * c) := by rw [ix50, show (645 : Int32) = nI 645 from rfl, nI_add]
theorem ixp2 (k : Nat) : nI k + 2 = nI (k + 2) := nI_add k 2
theorem ixp3 (k : Nat) : nI k + 3 = nI (k + 3) := nI_add k 3
theorem ixp4 (k : Nat) : nI k + 4 = nI (k + 4) := nI_add k 4
theorem z_205 {s : jm_M} {c l a b x y : Nat} {s0 : jm_M} (hs : s = jm_si (jm_si s0 68 (215 * 3 + 5 * c) (nI l)) 68 (215 * 3 + 5 * c + 1) (nI a)) (h67 : s0.1 67 3 = nI c) (hc : c < 43) : s_Z_spanItem_J205 (nI x) (nI y) (nI (215 * 3 + 5 * c)) (nI b) (nI (215 * 3 + 5 * c + 2)) s = some (1, addS s0 c l a b x y) := by
  unfold s_Z_spanItem_J205
  rw [hs, e_sti (by omega) (by decide), ixp3, e_sti (by omega) (by decide), ixp4, e_sti (by omega) (by decide), e_ldiq (j := 3) 3 rfl (by decide) (by decide), e_sio (by omega), e_sio (by omega), e_sio (by omega), e_sio (by omega), e_sio (by omega), h67, nI_1, e_stiq (j := 3) 3 rfl (by decide) (by decide)]
  rfl
theorem z_144 {s : jm_M} {c l a x y : Nat} (h67 : s.1 67 3 = nI c) (hc : c < 43) (h0 : s.1 73 0 = nI a) (hl : l < 128) (h103 : l ≠ 103) : s_Z_spanItem_J144 (nI l) (nI x) (nI y) s = some (1, addS s c l a 0 x y) := by
  unfold s_Z_spanItem_J144
  rw [e_ldiq (j := 3) 3 rfl (by decide) (by decide), h67, ix645, e_vi, e_sti (by omega) (by decide), e_ldiq (j := 0) 0 rfl (by decide) (by decide), e_sio (by omega), h0, nI_1, e_sti (by omega) (by decide), if_neg (show ¬ nI l = 103 from fun z => h103 ((nI_eq (by omega) (by decide)).mp z)), ixp2]
  exact z_205 rfl h67 hc
theorem z_144g {s : jm_M} {c a b x y : Nat} (h67 : s.1 67 3 = nI c) (hc : c < 43) (h0 : s.1 73 0 = nI a) (h1 : s.1 73 1 = nI b) : s_Z_spanItem_J144 (nI 103) (nI x) (nI y) s = some (1, addS s c 103 a b x y) := by
  unfold s_Z_spanItem_J144
  rw [e_ldiq (j := 3) 3 rfl (by decide) (by decide), h67, ix645, e_vi, e_sti (by omega) (by decide), e_ldiq (j := 0) 0 rfl (by decide) (by decide), e_sio (by omega), h0, nI_1, e_sti (by omega) (by decide), if_pos (show nI 103 = 103 from rfl), e_ldiq (j := 1) 1 rfl (by decide) (by decide), e_sio (by omega), e_sio (by omega), h1, ixp2]
  exact z_205 rfl h67 hc
theorem addS_lo {s s' : jm_M} {c l a b x y : Nat} (h : lo s s') : lo s (addS s' c l a b x y) := by
  unfold addS
  exact lo_si (lo_si (lo_si (lo_si (lo_si (lo_si h (by omega)) (by omega)) (by omega)) (by omega)) (by omega)) (by omega)
theorem addS_q {s : jm_M} {Q : tQ} {T' : tN} {p q c l a b x y : Nat} {E : tE} (zq : ZQ s p Q) (z3 : ZE s 3 c E) (hc : c < 43) (he : sE T' (c + 1) (adE E c l a b x y)) (h7 : 7 * (c + 1) ≤ q) (ht1 : tn T' = tn Q.1) (hH : ∀ h, ZH s 3 Q.1 h → ZH s 3 T' h) (ho : Q.2.2.2 = false) : ZQ (addS s c l a b x y) q (T', Q.2.1, Q.2.2.1, false) := by
  obtain ⟨h1, h2, _, h6, h7, h8⟩ := zq
  refine ⟨?_, fun h hh => ?_, ⟨c + 1, _, addS_E z3 hc, he, by omega⟩, ?_, ?_, ?_⟩
  · rw [addS_o (by omega) (by omega), h1, ht1]
  · have g := hH h (h2 h (by rw [← ht1]; exact hh))
    unfold ZH at g ⊢
    rw [addS_o (by omega) (by omega), addS_o (by omega) (by omega), addS_o (by omega) (by omega), addS_o (by omega) (by omega), addS_o (by omega) (by omega)]
    exact g
  · rw [addS_o (by omega) (by omega)]; exact h6
  · rw [addS_o (by omega) (by omega)]; exact h7
  · rw [addS_o (by omega) (by omega), h8, ho]
/-! sleep -/
theorem zt_sleep {s : jm_M} {len p : Nat} {f : Nat → Nat} {Q : tQ} (ht : tZ s len f) (hp : s.1 59 15 = nI (p + 1)) (hpl : p < len) (w : wQ Q) (zq : ZQ s p Q) (ho : Q.2.2.2 = false) : zO s (s_Z_spanItem s (nI 115)) (stpL 115 f len p Q) := by
  have wt := w.1
  have w1 := w.1.1
  unfold s_Z_spanItem
  rw [if_neg (by decide)]
  unfold s_Z_spanItem_J11
  rcases z_numbers (m := 3) (M := 3) ht hp (by omega) (by decide) (by decide) rfl with ⟨s1, a1, a2, a3⟩ | ⟨v, q, s1, a1, a2, a3, a4, a5⟩
  · rw [stpL_no (l := 115) (Q := Q) a3 (fun c v hc => by rw [tk115, if_neg (fun z => hc z.1)]), a1, e_b2, if_pos rfl]
    exact ⟨s1, rfl, lo_nf a2⟩
  · have hb := rdI_bd 4 0 (p + 1) (fun _ => 0) 3 v q (fun j hj => by omega) a1
    obtain ⟨n0, b0⟩ := a5 0 (by decide)
    obtain ⟨n1, b1⟩ := a5 1 (by decide)
    obtain ⟨n2, b2⟩ := a5 2 (by decide)
    have zq1 : ZQ s1 p Q := ZQ_same a3 (Nat.le_refl _) zq
    obtain ⟨z1, z2, ⟨c, E, z3, z4, z5⟩, z6, z7, z8⟩ := id zq1
    rw [stpL_yes a1, a2, e_b2, if_neg e10, e_ldiq (j := 0) 0 rfl (by decide) (by decide), n0, z_isRead z1 w1 b0, e_bd, tk115]
    by_cases ha : v 0 < tn Q.1
    · have ek : s1.1 62 (10 * 3 + v 0) = nI (tk Q.1 (v 0)) := (z2 (v 0) ha).1
      have hk3 := (wt.2.1 (v 0) ha).1
      have hc43 : c < 43 := by have := ht.1; omega
      rw [dT ha, oI_t, if_neg e10, e_ldiq (j := 3 - 2) 1 (by decide) (by decide) (by decide), n1, e_ldiq (j := 3 - 1) 2 (by decide) (by decide) (by decide), n2, e_ldiq (j := 0) 0 rfl (by decide) (by decide), n0, ix30, e_ldi (by omega) (by decide), ek]
      by_cases h59 : v 2 ≤ 59
      · rw [if_neg (fun z => by rw [i_gt 59, nI_toInt (by omega)] at z; omega)]
        by_cases h12 : v 1 ≤ v 2
        · rw [if_neg (nI_nlt h12 (by omega))]
          rw [if_neg (show ¬ nI 115 = 108 by decide)]
          unfold s_Z_spanItem_J97
          rw [if_neg (show ¬ nI 115 = 103 by decide), z_144 (c := c) (a := v 0) z3.1 hc43 n0 (by decide) (by decide)]
          exact zO_yes (addS_lo (lo_nf a3)) (if_pos ⟨rfl, ha, h12, h59⟩) rfl (by rw [addS_o (by omega) (by omega)]; exact a4) (addS_q zq1 z3 hc43 (sE_A z4 (by omega) h12 h59) (by omega) rfl (fun _ g => g) ho)
        · rw [if_pos (nI_lt (by omega) (by omega))]
          exact zO_no (lo_nf a3) (if_neg (fun z => h12 z.2.2.1)) rfl
      · rw [if_pos (by rw [i_gt 59, nI_toInt (by omega)]; omega)]
        exact zO_no (lo_nf a3) (if_neg (fun z => h59 z.2.2.2)) rfl
    · rw [dF ha, oI_f, if_pos rfl]
      exact zO_no (lo_nf a3) (if_neg (fun z => ha z.2.1)) rfl
/-! liar -/
theorem zt_liar {s : jm_M} {len p : Nat} {f : Nat → Nat} {Q : tQ} (ht : tZ s len f) (hp : s.1 59 15 = nI (p + 1)) (hpl : p < len) (w : wQ Q) (zq : ZQ s p Q) (ho : Q.2.2.2 = false) : zO s (s_Z_spanItem s (nI 108)) (stpL 108 f len p Q) := by
  have wt := w.1
  have w1 := w.1.1
  unfold s_Z_spanItem
  rw [if_neg (by decide)]
  unfold s_Z_spanItem_J11
  rcases z_numbers (m := 3) (M := 3) ht hp (by omega) (by decide) (by decide) rfl with ⟨s1, a1, a2, a3⟩ | ⟨v, q, s1, a1, a2, a3, a4, a5⟩
  · rw [stpL_no (l := 108) (Q := Q) a3 (fun c v hc => by rw [tk108, if_neg (fun z => hc z.1)]), a1, e_b2, if_pos rfl]
    exact ⟨s1, rfl, lo_nf a2⟩
  · have hb := rdI_bd 4 0 (p + 1) (fun _ => 0) 3 v q (fun j hj => by omega) a1
    obtain ⟨n0, b0⟩ := a5 0 (by decide)
    obtain ⟨n1, b1⟩ := a5 1 (by decide)
    obtain ⟨n2, b2⟩ := a5 2 (by decide)
    have zq1 : ZQ s1 p Q := ZQ_same a3 (Nat.le_refl _) zq
    obtain ⟨z1, z2, ⟨c, E, z3, z4, z5⟩, z6, z7, z8⟩ := id zq1
    rw [stpL_yes a1, a2, e_b2, if_neg e10, e_ldiq (j := 0) 0 rfl (by decide) (by decide), n0, z_isRead z1 w1 b0, e_bd, tk108]
    by_cases ha : v 0 < tn Q.1
    · have ek : s1.1 62 (10 * 3 + v 0) = nI (tk Q.1 (v 0)) := (z2 (v 0) ha).1
      have hk3 := (wt.2.1 (v 0) ha).1
      have hc43 : c < 43 := by have := ht.1; omega
      rw [dT ha, oI_t, if_neg e10, e_ldiq (j := 3 - 2) 1 (by decide) (by decide) (by decide), n1, e_ldiq (j := 3 - 1) 2 (by decide) (by decide) (by decide), n2, e_ldiq (j := 0) 0 rfl (by decide) (by decide), n0, ix30, e_ldi (by omega) (by decide), ek]
      by_cases h59 : v 2 ≤ 59
      · rw [if_neg (fun z => by rw [i_gt 59, nI_toInt (by omega)] at z; omega)]
        by_cases h12 : v 1 ≤ v 2
        · rw [if_neg (nI_nlt h12 (by omega))]
          rw [if_pos (show nI 108 = 108 from rfl)]
          by_cases hk : tk Q.1 (v 0) ≤ 1
          · rw [if_pos (by rw [i_le 1, nI_toInt (by omega)]; omega)]
            unfold s_Z_spanItem_J97
            rw [if_neg (show ¬ nI 108 = 103 by decide), z_144 (c := c) (a := v 0) z3.1 hc43 n0 (by decide) (by decide)]
            exact zO_yes (addS_lo (lo_nf a3)) (if_pos ⟨rfl, ha, hk, h12, h59⟩) rfl (by rw [addS_o (by omega) (by omega)]; exact a4) (addS_q zq1 z3 hc43 (sE_L z4 (by omega) h12 h59) (by omega) rfl (fun _ g => g) ho)
          · rw [if_neg (fun z => by rw [i_le 1, nI_toInt (by omega)] at z; omega)]
            exact zO_no (lo_nf a3) (if_neg (fun z => hk z.2.2.1)) rfl
        · rw [if_pos (nI_lt (by omega) (by omega))]
          exact zO_no (lo_nf a3) (if_neg (fun z => h12 z.2.2.2.1)) rfl
      · rw [if_pos (by rw [i_gt 59, nI_toInt (by omega)]; omega)]
        exact zO_no (lo_nf a3) (if_neg (fun z => h59 z.2.2.2.2)) rfl
    · rw [dF ha, oI_f, if_pos rfl]
      exact zO_no (lo_nf a3) (if_neg (fun z => ha z.2.1)) rfl
/-! mist -/
theorem zt_mist {s : jm_M} {len p : Nat} {f : Nat → Nat} {Q : tQ} (ht : tZ s len f) (hp : s.1 59 15 = nI (p + 1)) (hpl : p < len) (w : wQ Q) (zq : ZQ s p Q) (ho : Q.2.2.2 = false) : zO s (s_Z_spanItem s (nI 103)) (stpL 103 f len p Q) := by
  have wt := w.1
  have w1 := w.1.1
  unfold s_Z_spanItem
  rw [if_pos (show nI 103 = 103 from rfl)]
  unfold s_Z_spanItem_J11
  rcases z_numbers (m := 4) (M := 4) ht hp (by omega) (by decide) (by decide) rfl with ⟨s1, a1, a2, a3⟩ | ⟨v, q, s1, a1, a2, a3, a4, a5⟩
  · rw [stpL_no (l := 103) (Q := Q) a3 (fun c v hc => by rw [tk103, if_neg (fun z => hc z.1)]), a1, e_b2, if_pos rfl]
    exact ⟨s1, rfl, lo_nf a2⟩
  · have hb := rdI_bd 4 0 (p + 1) (fun _ => 0) 4 v q (fun j hj => by omega) a1
    obtain ⟨n0, b0⟩ := a5 0 (by decide)
    obtain ⟨n1, b1⟩ := a5 1 (by decide)
    obtain ⟨n2, b2⟩ := a5 2 (by decide)
    obtain ⟨n3, b3⟩ := a5 3 (by decide)
    have zq1 : ZQ s1 p Q := ZQ_same a3 (Nat.le_refl _) zq
    obtain ⟨z1, z2, ⟨c, E, z3, z4, z5⟩, z6, z7, z8⟩ := id zq1
    rw [stpL_yes a1, a2, e_b2, if_neg e10, e_ldiq (j := 0) 0 rfl (by decide) (by decide), n0, z_isRead z1 w1 b0, e_bd, tk103]
    by_cases ha : v 0 < tn Q.1
    · have ek : s1.1 62 (10 * 3 + v 0) = nI (tk Q.1 (v 0)) := (z2 (v 0) ha).1
      have ea : s1.1 63 (10 * 3 + v 0) = nI (ts Q.1 (v 0)) := (z2 (v 0) ha).2.1
      have hk3 := (wt.2.1 (v 0) ha).1
      have l0 : ts Q.1 (v 0) < 1024 := ts_lt wt (by omega)
      have hc43 : c < 43 := by have := ht.1; omega
      rw [dT ha, oI_t, if_neg e10, e_ldiq (j := 4 - 2) 2 (by decide) (by decide) (by decide), n2, e_ldiq (j := 4 - 1) 3 (by decide) (by decide) (by decide), n3, e_ldiq (j := 0) 0 rfl (by decide) (by decide), n0, ix30, e_ldi (by omega) (by decide), ek]
      by_cases h59 : v 3 ≤ 59
      · rw [if_neg (fun z => by rw [i_gt 59, nI_toInt (by omega)] at z; omega)]
        by_cases h12 : v 2 ≤ v 3
        · rw [if_neg (nI_nlt h12 (by omega)), if_neg (show ¬ nI 103 = 108 by decide)]
          unfold s_Z_spanItem_J97
          rw [if_pos (show nI 103 = 103 from rfl), e_ldiq (j := 1) 1 rfl (by decide) (by decide), n1, z_isRead z1 w1 b1, e_bd]
          by_cases hb2 : v 1 < tn Q.1
          · rw [dT hb2, oI_t, if_neg e10, e_ldiq (j := 0) 0 rfl (by decide) (by decide), n0, ix30, e_ldi (by omega) (by decide), ea, e_ldiq (j := 1) 1 rfl (by decide) (by decide), n1, z_hasO s1 (by omega) (by omega), e_bd]
            cases hs : (ts Q.1 (v 0)).testBit (v 1) with
            | false =>
              rw [oI_f, if_pos rfl]
              exact zO_no (lo_nf a3) (if_neg (fun z => Bool.noConfusion z.2.2.2.1)) rfl
            | true =>
              rw [oI_t, if_neg e10, z_144g (c := c) (a := v 0) (b := v 1) z3.1 hc43 n0 n1]
              exact zO_yes (addS_lo (lo_nf a3)) (if_pos ⟨rfl, ha, hb2, rfl, h12, h59⟩) rfl (by rw [addS_o (by omega) (by omega)]; exact a4) (addS_q zq1 z3 hc43 (sE_G z4 (by omega) (by omega) h12 h59) (by omega) rfl (fun _ g => g) ho)
          · rw [dF hb2, oI_f, if_pos rfl]
            exact zO_no (lo_nf a3) (if_neg (fun z => hb2 z.2.2.1)) rfl
        · rw [if_pos (nI_lt (by omega) (by omega))]
          exact zO_no (lo_nf a3) (if_neg (fun z => h12 z.2.2.2.2.1)) rfl
      · rw [if_pos (by rw [i_gt 59, nI_toInt (by omega)]; omega)]
        exact zO_no (lo_nf a3) (if_neg (fun z => h59 z.2.2.2.2.2)) rfl
    · rw [dF ha, oI_f, if_pos rfl]
      exact zO_no (lo_nf a3) (if_neg (fun z => ha z.2.1)) rfl
