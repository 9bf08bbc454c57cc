/-! logs: too soon agrees -/
def zq (C : tC) (A W h : Nat) : Nat := fsq (fun t => (bq C A W t).testBit h) 91
theorem zq_ok {C : tC} {A W : Nat} (wc : wC C) (hA : A < 1024) (h : Nat) : 1 ≤ zq C A W h ∧ zq C A W h ≤ 1000000 ∧ ∀ t, 1 + t ≤ 1000000 → (zq C A W h + 1 ≤ 1 + t ↔ (bq C A W t).testBit h = true) := by
  have hh : zq C A W h ≤ 1000000 ∧ ∀ x, x < 1000000 → (zq C A W h ≤ x ↔ ∃ t, 1 ≤ t ∧ t ≤ 91 ∧ t ≤ x ∧ (bq C A W t).testBit h = true) := by
    rw [zq]
    exact fsq_iff _ 91 (by decide)
  have key : ∀ t, 1 + t ≤ 1000000 → (zq C A W h + 1 ≤ 1 + t ↔ (bq C A W t).testBit h = true) := fun t ht => by
    rw [show zq C A W h + 1 ≤ 1 + t ↔ zq C A W h ≤ t by omega, hh.2 t (by omega)]
    constructor
    · rintro ⟨u, h1, h2, h3, h4⟩
      exact bq_mono A W wc h3 h h4
    · intro hb
      have h0 : 1 ≤ t := by
        cases t with
        | zero => rw [bq_0] at hb; simp at hb
        | succ t => omega
      by_cases h91 : t ≤ 91
      · exact ⟨t, h0, h91, Nat.le_refl _, hb⟩
      · rw [bq_fin wc hA (by omega)] at hb
        exact ⟨91, by decide, Nat.le_refl _, by omega, hb⟩
  refine ⟨?_, hh.1, key⟩
  cases hz : zq C A W h with
  | zero =>
    have := (key 0 (by decide)).mp (by omega)
    rw [bq_0] at this
    simp at this
  | succ x => omega
theorem zq_one {C : tC} {A W h z : Nat} (wc : wC C) (hA : A < 1024) (h2 : z ≤ 1000000) (h3 : ∀ t, 1 + t ≤ 1000000 → (z + 1 ≤ 1 + t ↔ (bq C A W t).testBit h = true)) : z = zq C A W h := by
  obtain ⟨g1, g2, g3⟩ := zq_ok (W := W) wc hA h
  by_cases c : z < zq C A W h
  · have := (g3 z (by omega)).mpr ((h3 z (by omega)).mp (by omega))
    omega
  · by_cases c2 : zq C A W h < z
    · have := (h3 _ (by omega)).mpr ((g3 (zq C A W h) (by omega)).mp (by omega))
      omega
    · omega
theorem m_logs3 {s : jm_M} {T : tN} {lg : Nat → Int32} (wt : wT T) (hx : XN s 15 T) (hz : ZN s 0 T) (wl : wL T lg) (xl : XL s 15 lg) (zl : ZL s 0 lg) : ∃ r s1 s2, s_X_logs s 3 = some (r, s1) ∧ s_Z_logs s1 3 = some (r, s2) := by
  have w1 := wt.1
  have wc := wC_k wt
  have hH : cH (kC T) < 1024 := kS_lt T 1
  obtain ⟨s1, a1, a2, -⟩ := x_study wt hx
  have fr1 : jm_fr ([49, 50, 51], [(48, 2), (48, 3), (48, 4)]) s s1 := s_Co_study_48_15_fr s _ a1
  have hx1 : XN s1 15 T := XN_fr fr1 (by decide) hx
  have hz1 : ZN s1 0 T := zn_fr fr1 (by decide) hz
  have xl1 : XL s1 15 lg := fun h hh => by
    show s1.1 21 h = _
    rw [(fr1 21 h (by decide) (by simp)).1]; exact xl h hh
  have zl1 : ZL s1 0 lg := fun h hh => by rw [(fr1 70 (10 * 0 + h) (by decide) (by simp)).1]; exact zl h hh
  have eX : s_X_logs s 3 = jm_b2 (s_Lo_tooSoon_15_48 s1) (fun v5 s6 => (some (v5, s6))) := by
    unfold s_X_logs
    rw [if_neg (by decide), if_neg (by decide), if_neg (by decide), if_pos rfl, a1, e_bd]
  have eZ : ∀ s2, s_Z_logs s2 3 = jm_b2 (s_Z_soon s2) (fun v4 s5 => (some (v4, s5))) := fun s2 => by
    unfold s_Z_logs
    rw [if_neg (by decide), if_neg (by decide), if_neg (by decide), if_pos rfl]
  rw [eX]
  unfold s_Lo_tooSoon_15_48
  rw [x_earliest wt hx1 wl xl1, e_bd]
  have hz5 : ∀ s2, ZN s2 0 T → ZL s2 0 lg → ∃ n, s_Z_soon s2 = s_Z_soon_L5 (n + 1) (ers T lg (tn T)) (nI (tn T)) s2 := fun s2 h1 h2 => by
    rcases z_soon5 wt h1 wl h2 with h | h
    · exact ⟨0, h⟩
    · exact h
  by_cases h60 : ers T lg (tn T) = 60
  · rw [if_pos h60, e_b2]
    refine ⟨0, s1, s1, rfl, ?_⟩
    obtain ⟨n, hn⟩ := hz5 s1 hz1 zl1
    rw [eZ, hn, s_Z_soon_L5, e_ldiq (j := 0) 0 rfl (by decide) (by decide), hz1.1, if_pos (nI_le (Nat.le_refl _) (by omega)), if_pos h60, e_b2]
  · rw [if_neg h60]
    obtain ⟨r, s3, g1, g2⟩ := x_spread (A := cH (kC T)) (S := 0) wc (fk_lt T) a2 hH (by decide) (-1) (fun _ => false) (fun s m _ _ _ => by
      unfold s_Co_ruleHeld
      rw [if_pos (by decide)]
      rfl)
    have fr3 := s_Co_spread_fr s1 (nI (cH (kC T))) (nI 0) (-1) _ g1
    have hW : dn (dn (cF (kC T)) 0) (cH (kC T)) = dn (cF (kC T)) (cH (kC T)) := by
      apply Nat.eq_of_testBit_eq
      intro i
      rw [dn_bit, dn_bit, dn_bit, Nat.zero_testBit]
      cases decide (i < 10) <;> simp
    rw [hW] at g2
    have hx3 : XN s3 15 T := XN_fr fr3 (by decide) hx1
    have hz3 : ZN s3 0 T := zn_fr fr3 (by decide) hz1
    have xl3 : XL s3 15 lg := fun h hh => by
      show s3.1 21 h = _
      rw [(fr3 21 h (by decide) (by simp)).1]; exact xl1 h hh
    have zl3 : ZL s3 0 lg := fun h hh => by rw [(fr3 70 (10 * 0 + h) (by decide) (by simp)).1]; exact zl1 h hh
    have eS : s_Co_spreadFromAllHeads s1 = some s3 := by
      unfold s_Co_spreadFromAllHeads
      rw [a2.1, show (0 : Int32) = nI 0 from rfl, g1, e_b2]
    rw [eS, e_bd]
    rcases g2 with ⟨m, -, -, hf, -⟩ | ⟨-, m, m1, m2, m3, -, lc, l1, l2, l3⟩
    · cases hf
    · rw [x_soon22 wt hx3 wl xl3 (z := zq (kC T) (cH (kC T)) (dn (cF (kC T)) (cH (kC T)))) (fun h hh => by
        obtain ⟨q1, q2, q3⟩ := zq_ok (W := dn (cF (kC T)) (cH (kC T))) wc hH h
        exact ⟨q2, x_from wc hH m1 m2 m3 l1 l2 l3 (by omega) q1 q2 q3⟩), e_b2]
      obtain ⟨n, hn⟩ := hz5 s3 hz3 zl3
      obtain ⟨s4, b1, b2, -⟩ := z_asTold wt hz3
      have fr4 := s_Z_asTold_fr s3 _ b1
      obtain ⟨s5, s6, z, c1, c2, c3, c4, c5, c6⟩ := z_fires (A := cH (kC T)) (W := dn (cF (kC T)) (cH (kC T))) (S := 0) (m0 := 1) wt wc hH (by decide) (by decide) (fun h hh => by
        unfold may
        rw [dn_bit, Nat.zero_testBit]
        simp [show h < 10 by omega]) b2
      have fr5 := s_Z_kindle_fr s4 (nI (cH (kC T))) (nI 1) _ c1
      have fr6 := s_Z_spread_fr s5 (nI 0) _ c2
      have zl6 : ZL s6 0 lg := fun h hh => by
        have e6 : s6.1 70 (10 * 0 + h) = s5.1 70 (10 * 0 + h) := (fr6 70 _ (by decide) (by simp)).1
        have e5 : s5.1 70 (10 * 0 + h) = s4.1 70 (10 * 0 + h) := (fr5 70 _ (by decide) (by simp)).1
        have e4 : s4.1 70 (10 * 0 + h) = s3.1 70 (10 * 0 + h) := (fr4 70 _ (by decide) (by simp)).1
        rw [e6, e5, e4]
        exact zl3 h hh
      refine ⟨_, s3, s6, rfl, ?_⟩
      have k1 : s_Z_ofKind s4 1 = some (nI (cH (kC T))) := z_ofKind wt b2.1 (fun h hh => (b2.2.1 h hh).1) (v := 1) (by decide)
      have c1' : s_Z_kindle s4 (nI (cH (kC T))) 1 = some s5 := c1
      have c2' : s_Z_spread s5 0 = some s6 := c2
      rw [eZ, hn, s_Z_soon_L5, e_ldiq (j := 0) 0 rfl (by decide) (by decide), hz3.1, if_pos (nI_le (Nat.le_refl _) (by omega)), if_neg h60, b1, e_bd, k1, e_bd, c1', e_bd, c2', e_bd, z_soon92 wt c3 wl zl6 c4, e_b2]
      have e : sOf (tsB T lg (ers T lg (tn T)) z) (tn T) = sOf (tsB T lg (ers T lg (tn T)) (zq (kC T) (cH (kC T)) (dn (cF (kC T)) (cH (kC T))))) (tn T) := sOf_cong (fun i hi => by
        unfold tsB
        rw [zq_one wc hH (c5 i hi).2 (c6 i hi)])
      rw [e]
