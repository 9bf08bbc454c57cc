/-! keep, back -/
theorem bcX_o {d e c k : Nat} {s : jm_M} (h : c < d ∨ d + 9 < c) : (bcX d e s).1 c k = s.1 c k ∧ (bcX d e s).2 c k = s.2 c k := by
  unfold bcX
  constructor
  · show (if d + 1 ≤ c ∧ c ≤ d + 6 ∧ k < 10 then _ else (bcH d e s).1 c k) = _
    rw [if_neg (by omega), bcH_1 (by omega)]
  · show (if c = d + 9 ∧ k < 100 then _ else (if d + 7 ≤ c ∧ c ≤ d + 8 ∧ k < 10 then _ else (bcH d e s).2 c k)) = _
    rw [if_neg (by omega), if_neg (by omega), bcH_2 (by omega)]
theorem zaX_o {a b c k : Nat} {s : jm_M} (h : c < 61 ∨ 70 < c) : (zaX a b s).1 c k = s.1 c k := by
  rw [zaX_c (by omega) (by omega), zcX_o c (by omega)]
theorem zaX_2 {a b : Nat} {s : jm_M} : (zaX a b s).2 = s.2 := rfl
theorem bcX_W {d e : Nat} {s : jm_M} {T : tN} {hd : Nat} {sm : Nat → Bool} {lg : Nat → Int32} (hde : d + 10 ≤ e ∨ e + 10 ≤ d) (h : XW s e T hd sm lg) : XW (bcX d e s) d T hd sm lg := ⟨bcX_N hde h.1, bcX_S hde h.2.1, bcX_L hde h.2.2⟩
theorem zaX_W {a b : Nat} {s : jm_M} {T : tN} {hd : Nat} {sm : Nat → Bool} {lg : Nat → Int32} (wt : wT T) (h : ZW s a T hd sm lg) : ZW (zaX a b s) b T hd sm lg := ⟨zaX_N wt h.1, zaX_S h.2.1, zaX_L h.2.2⟩
theorem zaX_Wo {a b k : Nat} {s : jm_M} {T : tN} {hd : Nat} {sm : Nat → Bool} {lg : Nat → Int32} (wt : wT T) (hk : k ≠ b) (h : ZW s k T hd sm lg) : ZW (zaX a b s) k T hd sm lg := ⟨zaX_No wt hk h.1, zaX_So hk h.2.1, zaX_Lo hk h.2.2⟩
theorem st_keep {s : jm_M} (h : INV s) : stO (s_X_keep s) s_Z_keep := by
  obtain ⟨len, f, T, hd, sm, lg, kp, h⟩ := h
  obtain ⟨h1, h2, h3, h4, h5, ⟨k1, k2, k3, k4, k5⟩, h7, h8⟩ := id h
  by_cases e2 : kp = 2
  · subst e2
    refine ⟨-3, s, s, ?_, ?_, len, f, T, hd, sm, lg, 2, h⟩
    · unfold s_X_keep
      rw [k1, if_neg (by decide)]
    · unfold s_Z_keep
      rw [k2, if_pos (by decide)]
  · obtain ⟨d, hd2⟩ : ∃ d, d = 25 + 10 * kp := ⟨_, rfl⟩
    obtain ⟨s1, hs1⟩ : ∃ s1, s1 = jm_si (bcX d 15 s) 1 7 (nI (kp + 1)) := ⟨_, rfl⟩
    have ax : s_X_keep s = some (nI (kp + 1), s1) := by
      have b7 : ∀ d, 25 ≤ d → (bcX d 15 s).1 1 7 + 1 = nI (kp + 1) := fun d hd => by rw [(bcX_o (by omega)).1, k1, nI_1]
      unfold s_X_keep
      rw [k1, if_pos (by rw [i_lt 2, nI_toInt (by omega)]; omega)]
      by_cases e0 : kp = 0
      · rw [if_pos (by rw [e0]; rfl), show s_Ne_become_25_15 s = some (bcX 25 15 s) from bc_25_15 s, e_bd, e_ev, b7 25 (by decide), e_si, hs1, hd2, e0]
      · rw [if_neg (nI_ne0 (by omega) (by omega))]
        unfold s_X_keep_J29
        rw [show s_Ne_become_35_15 s = some (bcX 35 15 s) from bc_35_15 s, e_bd, e_ev, b7 35 (by decide), e_si, hs1, hd2, show 25 + 10 * kp = 35 by omega]
    have fx := s_X_keep_fr s _ ax
    have o1 : ∀ c q, (c < d ∨ d + 9 < c) → ¬ (c = 1 ∧ q = 7) → s1.1 c q = s.1 c q ∧ s1.2 c q = s.2 c q := fun c q hc hq => by
      rw [hs1]
      exact ⟨by rw [e_sio hq]; exact (bcX_o hc).1, (bcX_o hc).2⟩
    have j1 : s1.1 59 12 = nI kp := (o1 59 12 (by omega) (by decide)).1.trans k2
    obtain ⟨s2, hs2⟩ : ∃ s2, s2 = jm_si (zaX 0 (kp + 1) s1) 59 12 (nI (kp + 1)) := ⟨_, rfl⟩
    have bz : s_Z_keep s1 = some (nI (kp + 1), s2) := by
      unfold s_Z_keep
      rw [j1, if_neg (fun z => e2 ((nI_eq (by omega) (by decide)).mp (z.trans (show (2 : Int32) = nI 2 from rfl)))), show (1 : Int32) + nI kp = nI (kp + 1) by rw [show (1 : Int32) = nI 1 from rfl, nI_add, Nat.add_comm], show s_Z_copyAll s1 0 (nI (kp + 1)) = some (zaX 0 (kp + 1) s1) from za_all (a := 0) (by decide) (by omega) (by omega) s1, e_bd, e_ev, zaX_o (by decide), j1, nI_1, ← hs2, hs2, e_si]
    have fz := s_Z_keep_fr s1 _ bz
    have ex := sm_of_fr fx (show jm_sep _ (rL rT (rL (rX 15) (rL rZ (rL rK (rL rS rC))))) = true by decide)
    have ez := sm_of_fr fz (show jm_sep _ (rL rT (rL (rX 15) (rL (rX 25) (rL (rX 35) (rL rK (rL rS rC)))))) = true by decide)
    have z2 : ∀ k T hd sm lg, wT T → ZW (zaX 0 (kp + 1) s1) k T hd sm lg → ZW s2 k T hd sm lg := fun k T hd sm lg wt hz => ZW_same wt (fun c q hc => by
      unfold inP at hc
      rw [hs2, e_sio (by omega)]) hz
    have zw1 : ∀ k T hd sm lg, wT T → ZW s k T hd sm lg → ZW s1 k T hd sm lg := fun k T hd sm lg wt hz => ZW_sm wt (sm_sub ex (by decide)) hz
    have nq : NQ s2 d (kp + 1) := by
      refine ⟨T, hd, sm, lg, h2, ?_, z2 _ _ _ _ _ h2.1 (zaX_W h2.1 (zw1 _ _ _ _ _ h2.1 h4))⟩
      refine XW_same (fun c q hc => ?_) (bcX_W (d := d) (by omega) h3)
      rw [hs2]
      refine ⟨?_, ?_⟩
      · rw [e_sio (by omega), zaX_o (by omega), hs1, e_sio (by omega)]
      · show (zaX 0 (kp + 1) s1).2 c q = _
        rw [zaX_2, hs1]; rfl
    refine ⟨_, s1, s2, ax, bz, len, f, T, hd, sm, lg, kp + 1, iT_sm (sm_tr (sm_sub ex (by decide)) (sm_sub ez (by decide))) h1, h2, XW_sm (sm_tr (sm_sub ex (by decide)) (sm_sub ez (by decide))) h3, z2 _ _ _ _ _ h2.1 (zaX_Wo h2.1 (by omega) (zw1 _ _ _ _ _ h2.1 h4)), CN_sm (sm_tr (sm_sub ex (by decide)) (sm_sub ez (by decide))) h5, ⟨?_, ?_, by omega, fun _ => ?_, fun g => ?_⟩, iK_sm (sm_tr (sm_sub ex (by decide)) (sm_sub ez (by decide))) h7, iS_sm (sm_tr (sm_sub ex (by decide)) (sm_sub ez (by decide))) h8⟩
    · rw [hs2, e_sio (by omega), zaX_o (by decide), hs1, e_si]
    · rw [hs2, e_si]
    · by_cases e0 : kp = 0
      · rw [hd2, e0] at nq
        exact nq
      · refine NQ_same (fun _ _ _ _ hx => XW_sm (sm_sub ez (by decide)) (XW_same (fun c q hc => o1 c q (by omega) (by omega)) hx)) (fun _ _ _ _ wt hz => z2 _ _ _ _ _ wt (zaX_Wo wt (by omega) (zw1 _ _ _ _ _ wt hz))) (k4 (by omega))
    · have e1 : kp = 1 := by omega
      rw [hd2, e1] at nq
      exact nq
theorem st_back {s : jm_M} (h : INV s) : stO (s_X_back s) s_Z_back := by
  obtain ⟨len, f, T, hd, sm, lg, kp, h⟩ := h
  obtain ⟨h1, h2, h3, h4, h5, ⟨k1, k2, k3, k4, k5⟩, h7, h8⟩ := id h
  by_cases e2 : kp = 0
  · subst e2
    refine ⟨-2, s, s, ?_, ?_, len, f, T, hd, sm, lg, 0, h⟩
    · unfold s_X_back
      rw [k1, if_neg (by decide)]
    · unfold s_Z_back
      rw [k2, if_pos (by decide)]
  · obtain ⟨kq, rfl⟩ : ∃ q, kp = q + 1 := ⟨kp - 1, by omega⟩
    obtain ⟨d, hd2⟩ : ∃ d, d = 25 + 10 * kq := ⟨_, rfl⟩
    have nq : NQ s d (kq + 1) := by
      by_cases e0 : kq = 0
      · rw [hd2, e0]; exact k4 (by omega)
      · rw [hd2, show kq = 1 by omega]; exact k5 (by omega)
    obtain ⟨s0, hs0⟩ : ∃ s0, s0 = jm_si s 1 7 (nI kq) := ⟨_, rfl⟩
    obtain ⟨s1, hs1⟩ : ∃ s1, s1 = jm_si (bcX 15 d s0) 1 9 0 := ⟨_, rfl⟩
    have v7 : s1.1 1 7 = nI kq := by rw [hs1, e_sio (by omega), (bcX_o (by omega)).1, hs0, e_si]
    have ax : s_X_back s = some (nI kq, s1) := by
      unfold s_X_back
      rw [k1, if_pos (by rw [i_gt 0, nI_toInt (by omega)]; omega), nI_pred, e_ev, ← hs0]
      have w7 : s0.1 1 7 = nI kq := by rw [hs0, e_si]
      rw [w7]
      by_cases e0 : kq = 0
      · rw [if_pos (by rw [e0]; rfl), show s_Ne_become_15_25 s0 = some (bcX 15 25 s0) from bc_15_25 s0, e_bd, e_ev]
        rw [show (25 : Nat) = d by rw [hd2, e0], ← hs1, v7]
      · rw [if_neg (nI_ne0 (by omega) (by omega))]
        unfold s_X_back_J42
        rw [show s_Ne_become_15_35 s0 = some (bcX 15 35 s0) from bc_15_35 s0, e_bd, e_ev]
        rw [show (35 : Nat) = d by omega, ← hs1, v7]
    have fx := s_X_back_fr s _ ax
    have j1 : s1.1 59 12 = nI (kq + 1) := by rw [hs1, e_sio (by omega), (bcX_o (by omega)).1, hs0, e_sio (by omega)]; exact k2
    obtain ⟨s3, hs3⟩ : ∃ s3, s3 = jm_si s1 59 12 (nI kq) := ⟨_, rfl⟩
    have j3 : s3.1 59 12 = nI kq := by rw [hs3, e_si]
    have bz : s_Z_back s1 = some (nI kq, zaX (kq + 1) 0 s3) := by
      unfold s_Z_back
      rw [j1, if_neg (nI_ne0 (by omega) (by omega)), nI_pred, e_ev, ← hs3, j3, show (1 : Int32) + nI kq = nI (kq + 1) by rw [show (1 : Int32) = nI 1 from rfl, nI_add, Nat.add_comm], show s_Z_copyAll s3 (nI (kq + 1)) 0 = some (zaX (kq + 1) 0 s3) from za_all (b := 0) (by omega) (by decide) (by omega) s3, e_bd, zaX_o (by decide), j3]
    have fz := s_Z_back_fr s1 _ bz
    have ex := sm_of_fr fx (show jm_sep _ (rL rT (rL (rX 25) (rL (rX 35) (rL rZ (rL rK rS))))) = true by decide)
    have ez := sm_of_fr fz (show jm_sep _ (rL rT (rL (rX 15) (rL (rX 25) (rL (rX 35) (rL rK (rL rS rC)))))) = true by decide)
    have zw3 : ∀ k T hd sm lg, wT T → ZW s k T hd sm lg → ZW s3 k T hd sm lg := fun k T hd sm lg wt hz => ZW_same wt (fun c q hc => by
      unfold inP at hc
      rw [hs3, e_sio (by omega)]) (ZW_sm wt (sm_sub ex (by decide)) hz)
    obtain ⟨T', hd', sm', lg', n1, n2, n3⟩ := nq
    have xw0 : XW s0 d T' hd' sm' lg' := XW_same (fun c q hc => by rw [hs0]; exact ⟨e_sio (by omega), rfl⟩) n2
    have xw1 : XW s1 15 T' hd' sm' lg' := XW_same (fun c q hc => by rw [hs1]; exact ⟨e_sio (by omega), rfl⟩) (bcX_W (d := 15) (by omega) xw0)
    refine ⟨_, s1, _, ax, bz, len, f, T', hd', sm', lg', kq, iT_sm (sm_tr (sm_sub ex (by decide)) (sm_sub ez (by decide))) h1, n1, XW_sm (sm_sub ez (by decide)) xw1, zaX_W n1.1 (zw3 _ _ _ _ _ n1.1 n3), Or.inl ?_, ⟨?_, ?_, by omega, fun g => ?_, fun g => by omega⟩, iK_sm (sm_tr (sm_sub ex (by decide)) (sm_sub ez (by decide))) h7, iS_sm (sm_tr (sm_sub ex (by decide)) (sm_sub ez (by decide))) h8⟩
    · rw [(ez 1 9 (by decide)).1, hs1, e_si]
    · rw [zaX_o (by decide), hs3, e_sio (by omega)]; exact v7
    · rw [zaX_o (by decide)]; exact j3
    · exact NQ_same (fun _ _ _ _ hx => XW_sm (sm_tr (sm_sub ex (by decide)) (sm_sub ez (by decide))) hx) (fun _ _ _ _ wt hz => zaX_Wo wt (by decide) (zw3 _ _ _ _ _ wt hz)) (k4 (by omega))
