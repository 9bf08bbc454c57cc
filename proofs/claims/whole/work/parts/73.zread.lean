/-! the model reads a text; fault and lay agree -/
theorem tkA_b {l c : Nat} {v : Nat → Nat} {Q : tQ} (h : l ≠ 104) : tkA l c v Q = tkA l c v (Q.1, Q.2.1, Q.2.2.1, false) := by
  unfold tkA
  rw [if_neg h, if_neg h]
theorem stpL_b {l len p : Nat} {f : Nat → Nat} {Q : tQ} (h : l ≠ 104) : stpL l f len p Q = stpL l f len p (Q.1, Q.2.1, Q.2.2.1, false) := by
  unfold stpL
  cases hr : rdI f len 4 0 (p + 1) (fun _ => 0) with
  | none => rfl
  | some z =>
    obtain ⟨c, v, q⟩ := z
    simp only
    rw [tkA_b h]
theorem tkA_z {l c : Nat} {v : Nat → Nat} {Q : tQ} (h1 : l ≠ 104) (h2 : l ≠ 118) (h3 : l ≠ 114) (h4 : l ≠ 119) (h5 : l ≠ 115) (h6 : l ≠ 103) (h7 : l ≠ 108) : tkA l c v Q = none := by
  unfold tkA
  rw [if_neg h1, if_neg h2, if_neg h3, if_neg h4, if_neg h5, if_neg h6, if_neg h7]
theorem stpL_z {l len p : Nat} {f : Nat → Nat} {Q : tQ} (h1 : l ≠ 104) (h2 : l ≠ 118) (h3 : l ≠ 114) (h4 : l ≠ 119) (h5 : l ≠ 115) (h6 : l ≠ 103) (h7 : l ≠ 108) : stpL l f len p Q = none := by
  unfold stpL
  cases hr : rdI f len 4 0 (p + 1) (fun _ => 0) with
  | none => rfl
  | some z =>
    obtain ⟨c, v, q⟩ := z
    simp only
    rw [tkA_z h1 h2 h3 h4 h5 h6 h7, pq_none]
theorem z_item {s : jm_M} {len p : Nat} {f : Nat → Nat} {Q : tQ} (ht : tZ s len f) (hp : s.1 59 15 = nI p) (hpl : p < len) (w : wQ Q) (zq : ZQ s p Q) : zO s (s_Z_item s) (stp f len p Q) := by
  have hl := ht.1
  unfold s_Z_item stp
  rw [hp, e_ldi (by omega) (by decide), (ht.2.2 p hpl).2, nI_1, e_ev]
  obtain ⟨l, hl⟩ : ∃ l, l = f p := ⟨_, rfl⟩
  have h256 : l < 256 := by rw [hl]; exact (ht.2.2 p hpl).1
  rw [← hl]
  clear hl
  obtain ⟨s2, hs2⟩ : ∃ s2, s2 = jm_si s 59 15 (nI (p + 1)) := ⟨_, rfl⟩
  rw [← hs2]
  have n2 : nf73 s s2 := fun c k h _ => by rw [hs2, e_sio h]
  have t2 : tZ s2 len f := tZ_same ht (n2 59 0 (by decide) (by decide)) (fun i => n2 60 i (by omega) (by decide))
  have p2 : s2.1 59 15 = nI (p + 1) := by rw [hs2, e_si]
  have q2 : ZQ s2 p Q := ZQ_same n2 (Nat.le_refl _) zq
  refine zO_up (lo_nf n2) ?_
  by_cases l104 : l = 104
  · subst l104
    rw [if_pos (show nI 104 = 104 from rfl)]
    exact zO_gb (zt_hill t2 p2 hpl w q2)
  · have ne : ∀ k, k < 128 → l ≠ k → ¬ nI l = nI k := fun k hk h z => h ((nI_eq (by omega) (by omega)).mp z)
    rw [if_neg (show ¬ nI l = 104 from ne 104 (by decide) l104), e_ev, stpL_b l104]
    obtain ⟨s3, hs3⟩ : ∃ s3, s3 = jm_si s2 59 19 1 := ⟨_, rfl⟩
    rw [← hs3]
    have t3 : tZ s3 len f := tZ_same t2 (by rw [hs3, e_sio (by omega)]) (fun i => by rw [hs3, e_sio (by omega)])
    have p3 : s3.1 59 15 = nI (p + 1) := by rw [hs3, e_sio (by omega)]; exact p2
    have o3 : ∀ c k, c ≠ 59 → s3.1 c k = s2.1 c k := fun c k h => by rw [hs3, e_sio (by omega)]
    have q3 : ZQ s3 p (Q.1, Q.2.1, Q.2.2.1, false) := by
      obtain ⟨z1, z2, ⟨c, E, z3, z4, z5⟩, z6, z7, z8⟩ := q2
      refine ⟨by rw [o3 _ _ (by decide)]; exact z1, fun h hh => ?_, ⟨c, E, ZE_same (o3 _ _ (by decide)) (fun k => o3 _ _ (by decide)) z3, z4, z5⟩, ?_, ?_, ?_⟩
      · have := z2 h hh
        unfold ZH at this ⊢
        rw [o3 _ _ (by decide), o3 _ _ (by decide), o3 _ _ (by decide), o3 _ _ (by decide), o3 _ _ (by decide)]
        exact this
      · rw [hs3, e_sio (by omega)]; exact z6
      · rw [hs3, e_sio (by omega)]; exact z7
      · rw [hs3, e_si]; rfl
    have w3 : wQ (Q.1, Q.2.1, Q.2.2.1, false) := w
    refine zO_up (s1 := s3) (by rw [hs3]; exact lo_si lo_rf (Or.inl rfl)) ?_
    by_cases l103 : l = 103
    · subst l103
      rw [if_pos (show nI 103 = 103 from rfl)]
      unfold s_Z_item_J135
      exact zO_gb (zt_mist t3 p3 hpl w3 q3 rfl)
    have z103 : (nI l = 103) = False := eq_false (ne 103 (by decide) l103)
    have z104 : (nI l = 104) = False := eq_false (ne 104 (by decide) l104)
    by_cases l108 : l = 108
    · subst l108
      rw [if_neg (by decide), if_neg (by decide), if_neg (by decide), if_neg (by decide), if_neg (by decide), if_pos (show nI 108 = 108 from rfl)]
      unfold s_Z_item_J135
      exact zO_gb (zt_liar t3 p3 hpl w3 q3 rfl)
    have z108 : (nI l = 108) = False := eq_false (ne 108 (by decide) l108)
    by_cases l114 : l = 114
    · subst l114
      rw [if_neg (by decide), if_neg (by decide), if_neg (by decide), if_neg (by decide), if_neg (by decide), if_neg (by decide), if_neg (by decide), if_neg (by decide), if_neg (by decide), if_neg (by decide), if_neg (by decide), if_pos (show nI 114 = 114 from rfl)]
      exact zO_gb (zt_rule t3 p3 hpl w3 q3 rfl)
    have z114 : (nI l = 114) = False := eq_false (ne 114 (by decide) l114)
    by_cases l115 : l = 115
    · subst l115
      rw [if_neg (by decide), if_neg (by decide), if_neg (by decide), if_neg (by decide), if_neg (by decide), if_neg (by decide), if_neg (by decide), if_neg (by decide), if_neg (by decide), if_neg (by decide), if_neg (by decide), if_neg (by decide), if_pos (show nI 115 = 115 from rfl)]
      unfold s_Z_item_J135
      exact zO_gb (zt_sleep t3 p3 hpl w3 q3 rfl)
    have z115 : (nI l = 115) = False := eq_false (ne 115 (by decide) l115)
    by_cases l118 : l = 118
    · subst l118
      rw [if_neg (by decide), if_neg (by decide), if_neg (by decide), if_neg (by decide), if_neg (by decide), if_neg (by decide), if_neg (by decide), if_neg (by decide), if_neg (by decide), if_neg (by decide), if_neg (by decide), if_neg (by decide), if_neg (by decide), if_neg (by decide), if_neg (by decide), if_pos (show nI 118 = 118 from rfl)]
      exact zO_gb (zt_see t3 p3 hpl w3 q3 rfl)
    have z118 : (nI l = 118) = False := eq_false (ne 118 (by decide) l118)
    by_cases l119 : l = 119
    · subst l119
      rw [if_neg (by decide), if_neg (by decide), if_neg (by decide), if_neg (by decide), if_neg (by decide), if_neg (by decide), if_neg (by decide), if_neg (by decide), if_neg (by decide), if_neg (by decide), if_neg (by decide), if_neg (by decide), if_neg (by decide), if_neg (by decide), if_neg (by decide), if_neg (by decide), if_pos (show nI 119 = 119 from rfl)]
      exact zO_gb (zt_wood t3 p3 hpl w3 q3 rfl)
    have z119 : (nI l = 119) = False := eq_false (ne 119 (by decide) l119)
    simp only [z103, z104, z108, z114, z115, z118, z119, if_false, ite_self]
    rw [stpL_z l104 l118 l114 l119 l115 l103 l108]
    exact ⟨s3, rfl, lo_rf⟩
theorem z_34 {len : Nat} {f : Nat → Nat} : ∀ (k n p : Nat) (Q : tQ) (s : jm_M), len ≤ p + k → k < n → tZ s len f → s.1 59 15 = nI p → p ≤ len → ZQ s p Q → wQ Q → ∃ s', s_Z_readAll_L34 n s = some (fI (rdA f len k p Q).1, s') ∧ lo s s' ∧ ((rdA f len k p Q).1 = none → ∃ p', p' ≤ 300 ∧ ZQ s' p' (rdA f len k p Q).2) := by
  intro k
  induction k with
  | zero =>
    intro n p Q s hk hn ht hp hpl zq w
    obtain ⟨n, rfl⟩ : ∃ q, n = q + 1 := ⟨n - 1, by omega⟩
    have hl := ht.1
    rw [s_Z_readAll_L34, ht.2.1, hp, if_pos (nI_le (by omega) (by omega))]
    exact ⟨s, rfl, lo_rf, fun _ => ⟨p, by omega, zq⟩⟩
  | succ k ih =>
    intro n p Q s hk hn ht hp hpl zq w
    obtain ⟨n, rfl⟩ : ∃ q, n = q + 1 := ⟨n - 1, by omega⟩
    have hl := ht.1
    rw [s_Z_readAll_L34, ht.2.1, hp, rdA]
    by_cases hlp : len ≤ p
    · rw [if_pos hlp, if_pos (nI_le (by omega) (by omega))]
      exact ⟨s, rfl, lo_rf, fun _ => ⟨p, by omega, zq⟩⟩
    · rw [if_neg hlp, if_neg (nI_ge (by omega) (by omega)), e_vi]
      have h := z_item ht hp (by omega) w zq
      cases hs : stp f len p Q with
      | none =>
        rw [hs] at h
        obtain ⟨s1, a1, a2⟩ : ∃ s', s_Z_item s = some (0, s') ∧ lo s s' := h
        rw [a1, e_b2, if_pos rfl]
        exact ⟨s1, rfl, a2, fun z => by cases z⟩
      | some z =>
        obtain ⟨q, Q'⟩ := z
        obtain ⟨b1, b2, b3⟩ := stp_bd w hs
        rw [hs] at h
        obtain ⟨s1, a1, a2, a3, a4⟩ : ∃ s', s_Z_item s = some (1, s') ∧ lo s s' ∧ s'.1 59 15 = nI q ∧ ZQ s' q Q' := h
        rw [a1, e_b2, if_neg e10]
        have fr := s_Z_item_fr s _ a1
        have t1 : tZ s1 len f := tZ_same ht (fr 59 0 (by decide) (by decide)).1 (fun i => (fr 60 i (by decide) (by simp)).1)
        obtain ⟨s', c1, c2, c3⟩ := ih n q Q' s1 (by omega) (by omega) t1 a3 b2 a4 b3
        exact ⟨s', c1, lo_tr a2 c2, c3⟩
theorem z_readAll {s : jm_M} {len : Nat} {f : Nat → Nat} (ht : tZ s len f) : ∃ s', s_Z_readAll s = some (fI (rdA f len len 0 Q0).1, s') ∧ lo s s' ∧ ((rdA f len len 0 Q0).1 = none → ∃ p', p' ≤ 300 ∧ ZQ s' p' (rdA f len len 0 Q0).2) := by
  have hl := ht.1
  unfold s_Z_readAll
  rw [e_stiq (j := 3) 3 rfl (by decide) (by decide), e_stiq (j := 3) 3 rfl (by decide) (by decide), e_ev, e_ev, e_ev, e_ev]
  obtain ⟨s1, hs1⟩ : ∃ s1, s1 = jm_si (jm_si (jm_si (jm_si (jm_si (jm_si s 61 3 0) 67 3 0) 59 17 0) 59 18 0) 59 19 0) 59 15 0 := ⟨_, rfl⟩
  rw [← hs1]
  have l1 : lo s s1 := by
    rw [hs1]
    exact lo_si (lo_si (lo_si (lo_si (lo_si (lo_si lo_rf (by omega)) (by omega)) (by omega)) (by omega)) (by omega)) (by omega)
  have t1 : tZ s1 len f := tZ_same ht (by rw [hs1, e_sio (by omega), e_sio (by omega), e_sio (by omega), e_sio (by omega), e_sio (by omega), e_sio (by omega)]) (fun i => by rw [hs1, e_sio (by omega), e_sio (by omega), e_sio (by omega), e_sio (by omega), e_sio (by omega), e_sio (by omega)])
  have p1 : s1.1 59 15 = nI 0 := by rw [hs1, e_si]; rfl
  have q1 : ZQ s1 0 Q0 := by
    refine ⟨?_, fun h hh => absurd hh (Nat.not_lt_zero h), ⟨0, (fun _ => 0, fun _ => 0, fun _ => 0, fun _ => 0, fun _ => 0), ⟨?_, by decide, fun j hj => by omega⟩, ⟨fun j hj => by omega, fun h t => ?_, fun h t => ?_, fun a b t => ?_⟩, by omega⟩, ?_, ?_, ?_⟩
    · rw [hs1, e_sio (by omega), e_sio (by omega), e_sio (by omega), e_sio (by omega), e_sio (by omega), e_si]; rfl
    · rw [hs1, e_sio (by omega), e_sio (by omega), e_sio (by omega), e_sio (by omega), e_si]; rfl
    · exact ⟨fun z => Bool.noConfusion z, fun ⟨j, hj, _⟩ => absurd hj (Nat.not_lt_zero j)⟩
    · exact ⟨fun z => Bool.noConfusion z, fun ⟨j, hj, _⟩ => absurd hj (Nat.not_lt_zero j)⟩
    · exact ⟨fun z => Bool.noConfusion z, fun ⟨j, hj, _⟩ => absurd hj (Nat.not_lt_zero j)⟩
    · rw [hs1, e_sio (by omega), e_sio (by omega), e_sio (by omega), e_si]; rfl
    · rw [hs1, e_sio (by omega), e_sio (by omega), e_si]; rfl
    · rw [hs1, e_sio (by omega), e_si]; rfl
  obtain ⟨s', c1, c2, c3⟩ := z_34 len 5000 0 Q0 s1 (by omega) (by omega) t1 p1 (Nat.zero_le _) q1 w_Q0
  exact ⟨s', c1, lo_tr l1 c2, c3⟩
