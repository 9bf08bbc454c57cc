/-! fault, lay -/
def stO (X : Option (Int32 × jm_M)) (Z : jm_M → Option (Int32 × jm_M)) : Prop := ∃ r s1 s2, X = some (r, s1) ∧ Z s1 = some (r, s2) ∧ INV s2
theorem lo_in {s s' : jm_M} (h : lo s s') {k c q : Nat} (hk : k ≤ 2) (hc : inP k c q) : s'.1 c q = s.1 c q := by
  unfold inP at hc
  exact h c q (by omega) (by omega) (by omega) (by omega) (by omega)
theorem rd_IV {s s1 s2 : jm_M} {len : Nat} {f : Nat → Nat} {T : tN} {hd : Nat} {sm : Nat → Bool} {lg : Nat → Int32} {kp : Nat} {WX WZ : List Nat × List (Nat × Nat)} (fx : jm_fr WX s s1) (fz : jm_fr WZ s1 s2) (hl : lo s1 s2) (hX : jm_sep WX rA = true) (hX2 : jm_sep WX rC = true) (hZ : jm_sep WZ (rL rT (rL (rX 15) (rL (rX 25) (rL (rX 35) (rL rP (rL rK (rL rS rC))))))) = true) (h : IV s len f T hd sm lg kp) : IV s2 len f T hd sm lg kp := by
  have ex := sm_of_fr fx hX
  have ec := sm_of_fr fx hX2
  have ez := sm_of_fr fz hZ
  have pl : ∀ k c q, k ≤ 2 → inP k c q → s2.1 c q = s.1 c q := fun k c q hk hc => (lo_in hl hk hc).trans (inP_z (sm_sub ex (by decide)) k c q hc)
  obtain ⟨h1, h2, h3, h4, h5, h6, h7, h8⟩ := h
  refine ⟨iT_sm (sm_tr (sm_sub ex (by decide)) (sm_sub ez (by decide))) h1, h2, XW_sm (sm_tr (sm_sub ex (by decide)) (sm_sub ez (by decide))) h3, ZW_same h2.1 (fun c q hc => pl 0 c q (by decide) hc) h4, CN_sm (sm_tr ec (sm_sub ez (by decide))) h5, KP_same (sm_tr (sm_sub ex (by decide)) (sm_sub ez (by decide))) (sm_tr (sm_sub ex (by decide)) (sm_sub ez (by decide))) (sm_tr (sm_sub ex (by decide)) (sm_sub ez (by decide))) (fun k c q _ hk hc => pl k c q hk hc) h6, iK_sm (sm_tr (sm_sub ex (by decide)) (sm_sub ez (by decide))) h7, iS_sm (sm_tr (sm_sub ex (by decide)) (sm_sub ez (by decide))) h8⟩
theorem st_fault {s : jm_M} (h : INV s) : stO (s_X_fault s) s_Z_fault := by
  obtain ⟨len, f, T, hd, sm, lg, kp, h⟩ := h
  obtain ⟨s1, a1, a2⟩ := x_readAll (iT_x h.1)
  have ax : s_X_fault s = some (fI (rdA f len len 0 Q0).1, s1) := by unfold s_X_fault; rw [h.1.2.1, a1, e_b2]
  have fx := s_X_fault_fr s _ ax
  have t1 : iT s1 len f := iT_sm (sm_of_fr fx (by decide)) h.1
  obtain ⟨s2, b1, b2, b3⟩ := z_readAll (iT_z t1)
  have bz : s_Z_fault s1 = some (fI (rdA f len len 0 Q0).1, s2) := by unfold s_Z_fault; rw [b1, e_b2]
  have fz := s_Z_fault_fr s1 _ bz
  exact ⟨_, s1, s2, ax, bz, len, f, T, hd, sm, lg, kp, rd_IV fx fz b2 (by decide) (by decide) (by decide) h⟩
theorem rdA_lt {f : Nat → Nat} {len : Nat} : ∀ (k p : Nat) (Q : tQ) (e : Nat), (rdA f len k p Q).1 = some e → e < len
  | 0, p, Q, e, h => by rw [rdA] at h; cases h
  | k + 1, p, Q, e, h => by
    rw [rdA] at h
    by_cases hl : len ≤ p
    · rw [if_pos hl] at h; cases h
    · rw [if_neg hl] at h
      cases hs : stp f len p Q with
      | none => rw [hs] at h; cases h; omega
      | some z =>
        obtain ⟨q, Q'⟩ := z
        rw [hs] at h
        exact rdA_lt k q Q' e h
theorem z_27 : ∀ (k n i : Nat) (s : jm_M), i + k = 10 → k < n → (∀ h, h < i → s.1 70 h = -1) → ∃ s', s_Z_lay_L27 n (nI i) s = some (s.1 61 0, s') ∧ (∀ h, h < 10 → s'.1 70 h = -1) ∧ ∀ c q, ¬ (c = 70 ∧ q < 10) → s'.1 c q = s.1 c q := by
  intro k
  induction k with
  | zero =>
    intro n i s hi hn h
    obtain ⟨n, rfl⟩ : ∃ q, n = q + 1 := ⟨n - 1, by omega⟩
    rw [s_Z_lay_L27, if_pos (by rw [i_ge 10, nI_toInt (by omega)]; omega), e_ldiq (j := 0) 0 rfl (by decide) (by decide)]
    exact ⟨s, rfl, fun q hq => h q (by omega), fun _ _ _ => rfl⟩
  | succ k ih =>
    intro n i s hi hn h
    obtain ⟨n, rfl⟩ : ∃ q, n = q + 1 := ⟨n - 1, by omega⟩
    rw [s_Z_lay_L27, if_neg (fun z => by rw [i_ge 10, nI_toInt (by omega)] at z; omega), e_sti (by omega) (by decide), nI_1]
    obtain ⟨s', a1, a2, a3⟩ := ih n (i + 1) (jm_si s 70 i (-1)) (by omega) (by omega) (fun q hq => by
      by_cases e : q = i
      · rw [e, e_si]
      · rw [e_sio (by omega)]; exact h q (by omega))
    refine ⟨s', ?_, a2, fun c q hc => ?_⟩
    · rw [a1, e_sio (by omega)]
    · rw [a3 c q hc, e_sio (by omega)]
theorem st_lay {s : jm_M} (h : INV s) : stO (s_X_lay s) s_Z_lay := by
  obtain ⟨len, f, T, hd, sm, lg, kp, h⟩ := h
  have hl := h.1.1
  obtain ⟨s1, a1, a2⟩ := x_readAll (iT_x h.1)
  cases hr : (rdA f len len 0 Q0).1 with
  | some e =>
    rw [hr] at a1
    have he := rdA_lt len 0 Q0 e hr
    have ne : ¬ fI (some e) = -4 := fun z => by
      have z : nI e = -4 := z
      rw [fa_eq, nI_toInt (by omega), show (-4 : Int32).toInt = -4 by decide] at z
      omega
    have ax : s_X_lay s = some (-2, s1) := by unfold s_X_lay; rw [h.1.2.1, a1, e_b2, if_neg ne]
    have ax2 : s_X_fault s = some (fI (some e), s1) := by unfold s_X_fault; rw [h.1.2.1, a1, e_b2]
    have fx := s_X_fault_fr s _ ax2
    have t1 : iT s1 len f := iT_sm (sm_of_fr fx (by decide)) h.1
    obtain ⟨s2, b1, b2, b3⟩ := z_readAll (iT_z t1)
    rw [hr] at b1
    have bz : s_Z_lay s1 = some (-2, s2) := by unfold s_Z_lay; rw [b1, e_b2, if_neg ne]
    exact ⟨_, s1, s2, ax, bz, len, f, T, hd, sm, lg, kp, rd_IV fx (s_Z_readAll_fr s1 _ b1) b2 (by decide) (by decide) (by decide) h⟩
  | none =>
    rw [hr] at a1
    obtain ⟨xq, w, hc⟩ := a2 hr
    obtain ⟨T', hT'⟩ : ∃ T', T' = (rdA f len len 0 Q0).2.1 := ⟨_, rfl⟩
    have wt : wT T' := by rw [hT']; exact w.1
    have w1 := wt.1
    have xn : XN s1 5 T' := by rw [hT']; exact xq.1
    have xw0 : XW (bcX 15 5 s1) 15 T' 0 (fun _ => false) (fun _ => -1) := ⟨bcX_N (by decide) xn, bcX_S (by decide) hc.1, bcX_L (by decide) hc.2⟩
    obtain ⟨sb, hsb⟩ : ∃ sb, sb = jm_si (bcX 15 5 s1) 1 9 0 := ⟨_, rfl⟩
    have xw1 : XW sb 15 T' 0 (fun _ => false) (fun _ => -1) := XW_same (fun c q hc => by rw [hsb]; exact ⟨e_sio (by omega), rfl⟩) xw0
    have ax : s_X_lay s = some (nI (tn T'), sb) := by
      unfold s_X_lay
      rw [h.1.2.1, a1, e_b2, if_pos (show fI none = -4 from rfl), bc_15_5, e_bd, e_ev]
      show some ((jm_si (bcX 15 5 s1) 1 9 0).1 15 0, jm_si (bcX 15 5 s1) 1 9 0) = _
      rw [← hsb, xw1.1.1]
    have fx := s_X_lay_fr s _ ax
    have t1 : iT sb len f := iT_sm (sm_of_fr fx (by decide)) h.1
    obtain ⟨s2, b1, b2, b3⟩ := z_readAll (iT_z t1)
    obtain ⟨p', hp', zq⟩ := b3 hr
    rw [hr] at b1
    have zn3 : ZN s2 3 T' := by
      obtain ⟨z1, z2, ⟨c, E, z3, z4, z5⟩, _⟩ := zq
      rw [hT']
      exact ⟨z1, z2, c, E, z3, z4⟩
    have zn0 : ZN (zcX 3 0 s2) 0 T' := zcX_N wt zn3
    obtain ⟨s4, hs4⟩ : ∃ s4, s4 = jm_si (zcX 3 0 s2) 69 0 0 := ⟨_, rfl⟩
    obtain ⟨s5, c1, c2, c3⟩ := z_27 10 5000 0 s4 rfl (by decide) (fun q hq => by omega)
    have v61 : s4.1 61 0 = nI (tn T') := by rw [hs4, e_sio (by omega)]; exact zn0.1
    have bz : s_Z_lay sb = some (nI (tn T'), s5) := by
      unfold s_Z_lay
      rw [b1, e_b2, if_pos (show fI none = -4 from rfl), show s_Z_copy s2 3 0 = some (zcX 3 0 s2) from zc_all (a := 3) (b := 0) (by decide) (by decide) (by decide) s2, e_bd, e_stiq (j := 0) 0 rfl (by decide) (by decide), ← hs4, ← v61]
      exact c1
    have fz := s_Z_lay_fr sb _ bz
    have ex := sm_of_fr fx (show jm_sep _ (rL rT (rL (rX 25) (rL (rX 35) (rL rZ (rL rP (rL rK rS)))))) = true by decide)
    have ez := sm_of_fr fz (show jm_sep _ (rL rT (rL (rX 15) (rL (rX 25) (rL (rX 35) (rL rP (rL rK (rL rS rC))))))) = true by decide)
    have pl : ∀ k c q, 1 ≤ k → k ≤ 2 → inP k c q → s5.1 c q = s.1 c q := fun k c q hk1 hk2 hc => by
      have hc2 := hc
      unfold inP at hc2
      rw [c3 c q (by omega), hs4, e_sio (by omega), zcX_o c (by omega), lo_in b2 hk2 hc]
      exact inP_z (sm_sub ex (by decide)) k c q hc
    have e69 : ∀ q, q ≠ 0 → s5.1 69 q = s.1 69 q := fun q hq => by
      rw [c3 69 q (by omega), hs4, e_sio (by omega), zcX_o 69 (by omega), b2 69 q (by decide) (by decide) (by omega) (by omega) (by omega)]
      exact (ex 69 q (Or.inl (by decide))).1
    obtain ⟨h1, h2, h3, h4, h5, h6, h7, h8⟩ := h
    refine ⟨_, sb, s5, ax, bz, len, f, T', 0, (fun _ => false), (fun _ => -1), kp, iT_sm (sm_tr (sm_sub ex (by decide)) (sm_sub ez (by decide))) h1, ⟨wt, by decide, fun q _ => (show -1 ≤ (-1 : Int32).toInt ∧ (-1 : Int32).toInt ≤ 60 by decide), fun _ _ _ => rfl⟩, XW_sm (sm_sub ez (by decide)) xw1, ⟨?_, ?_, ?_⟩, Or.inl ?_, KP_same (sm_tr (sm_sub ex (by decide)) (sm_sub ez (by decide))) (sm_tr (sm_sub ex (by decide)) (sm_sub ez (by decide))) (sm_tr (sm_sub ex (by decide)) (sm_sub ez (by decide))) pl h6, iK_sm (sm_tr (sm_sub ex (by decide)) (sm_sub ez (by decide))) h7, iS_sm (sm_tr (sm_sub ex (by decide)) (sm_sub ez (by decide))) h8⟩
    · exact ZN_pl wt (fun c q hc _ => by rw [c3 c q (by omega), hs4, e_sio (by omega)]) zn0
    · obtain ⟨_, a, b, g2, g3, g4, g5, _⟩ := h4.2.1
      refine ⟨?_, a, b, (e69 1 (by decide)).trans g2, (e69 2 (by decide)).trans g3, g4, g5, fun z => absurd rfl z⟩
      show s5.1 69 0 = nI 0
      rw [c3 69 0 (by decide), hs4, e_si]; rfl
    · intro q hq
      show s5.1 70 (10 * 0 + q) = -1
      rw [show 10 * 0 + q = q by omega]
      exact c2 q hq
    · rw [(ez 1 9 (by decide)).1, hsb, e_si]
