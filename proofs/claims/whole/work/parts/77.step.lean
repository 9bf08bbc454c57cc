/-! every call, one by one -/
theorem bd_some {α β : Type} {m : Option α} {f : α → Option β} {b : β} (h : jm_bd m f = some b) : ∃ a, m = some a ∧ f a = some b := by
  cases m with
  | none => cases h
  | some a => exact ⟨a, rfl, h⟩
theorem st_use {X : Option (Int32 × jm_M)} {Z : jm_M → Option (Int32 × jm_M)} {k : jm_M → Option (Int32 × jm_M)} (h : stO X Z) (hK : ∀ s2, INV s2 → ∃ t, k s2 = some (1, t)) : ∃ t, jm_b2 X (fun r s1 => jm_b2 (Z s1) (fun r2 s2 => if r = r2 then k s2 else some (0, s2))) = some (1, t) := by
  obtain ⟨r, s1, s2, h1, h2, h3⟩ := h
  rw [h1, e_b2, h2, e_b2, if_pos rfl]
  exact hK s2 h3
theorem st_pure {X Z : Option Int32} {s : jm_M} {k : jm_M → Option (Int32 × jm_M)} (h : ∃ r, X = some r ∧ Z = some r) (hs : INV s) (hK : ∀ s2, INV s2 → ∃ t, k s2 = some (1, t)) : ∃ t, jm_bd X (fun r => jm_bd Z (fun r2 => if r = r2 then k s else some (0, s))) = some (1, t) := by
  obtain ⟨r, h1, h2⟩ := h
  rw [h1, e_bd, h2, e_bd, if_pos rfl]
  exact hK s hs
def rB : List Nat × List (Nat × Nat) := rL (rX 15) (rL (rX 25) (rL (rX 35) (rL rZ (rL rP (rL rK (rL rS rC))))))
theorem IV_tx {s s' : jm_M} {len len' : Nat} {f f' : Nat → Nat} {T : tN} {hd : Nat} {sm : Nat → Bool} {lg : Nat → Int32} {kp : Nat} (e : jm_sm rB s s') (ht : iT s' len' f') (h : IV s len f T hd sm lg kp) : IV s' len' f' T hd sm lg kp := by
  obtain ⟨h1, h2, h3, h4, h5, h6, h7, h8⟩ := h
  exact ⟨ht, h2, XW_sm (sm_sub e (by decide)) h3, ZW_sm h2.1 (sm_sub e (by decide)) h4, CN_sm (sm_sub e (by decide)) h5, KP_sm (sm_sub e (by decide)) (sm_sub e (by decide)) (sm_sub e (by decide)) (sm_sub e (by decide)) h6, iK_sm (sm_sub e (by decide)) h7, iS_sm (sm_sub e (by decide)) h8⟩
theorem st_write {s : jm_M} (h : INV s) (n : Int32) (v : Int64) : stO (s_X_write s n v) (fun s1 => s_Z_write s1 n v) := by
  obtain ⟨len, f, T, hd, sm, lg, kp, h⟩ := h
  obtain ⟨r, s1, s2, len', f', a1, a2, a3⟩ := m_write h.1 n v
  exact ⟨r, s1, s2, a1, a2, len', f', T, hd, sm, lg, kp, IV_tx (sm_2 (s_X_write_fr s n v _ a1) (s_Z_write_fr s1 n v _ a2) rB (by decide) (by decide)) a3 h⟩
theorem st_wipe {s : jm_M} (h : INV s) : stO (s_X_wipe s) s_Z_wipe := by
  obtain ⟨len, f, T, hd, sm, lg, kp, h⟩ := h
  obtain ⟨r, s1, s2, a1, a2, a3⟩ := m_wipe h.1
  exact ⟨r, s1, s2, a1, a2, 0, f, T, hd, sm, lg, kp, IV_tx (sm_2 (s_X_wipe_fr s _ a1) (s_Z_wipe_fr s1 _ a2) rB (by decide) (by decide)) a3 h⟩
theorem st_hill {s : jm_M} (h : INV s) (a b : Int32) : ∃ r, s_X_hill s a b = some r ∧ s_Z_hill s a b = some r := by
  obtain ⟨len, f, T, hd, sm, lg, kp, h1, h2, h3, h4, h5, h6, h7, h8⟩ := h
  exact m_hill h2.1 h3.1 h4.1 a b
theorem st_count {s : jm_M} (h : INV s) (a : Int32) : ∃ r, s_X_count s a = some r ∧ s_Z_count s a = some r := by
  obtain ⟨len, f, T, hd, sm, lg, kp, h1, h2, h3, h4, h5, h6, h7, h8⟩ := h
  exact m_count h2.1 h3.1 h4.1 h2.2.2 h3.2.2 h4.2.2 h1 (h6.1.trans h6.2.1.symm) a
theorem st_sends {s : jm_M} (h : INV s) (a b : Int32) : ∃ r, s_X_sends s a b = some r ∧ s_Z_sends s a b = some r := by
  obtain ⟨len, f, T, hd, sm, lg, kp, h1, h2, h3, h4, h5, h6, h7, h8⟩ := h
  exact m_sends h7 a b
theorem st_unbelieved {s : jm_M} (h : INV s) (a b : Int32) : ∃ r, s_X_unbelieved s a b = some r ∧ s_Z_unbelieved s a b = some r := by
  obtain ⟨len, f, T, hd, sm, lg, kp, h1, h2, h3, h4, h5, h6, h7, h8⟩ := h
  exact m_unbelieved h7 a b
theorem st_near {s : jm_M} (h : INV s) (a b : Int32) : ∃ r, s_X_near s a b = some r ∧ s_Z_near s a b = some r := by
  obtain ⟨len, f, T, hd, sm, lg, kp, h1, h2, h3, h4, h5, h6, h7, h8⟩ := h
  exact m_near h8 a b
theorem st_burns {s : jm_M} (h : INV s) (a b : Int32) : stO (s_X_burns s a b) (fun s1 => s_Z_burns s1 a b) := by
  obtain ⟨len, f, T, hd, sm, lg, kp, h⟩ := h
  obtain ⟨h1, h2, h3, h4, h5, h6, h7, h8⟩ := id h
  obtain ⟨r, s1, s2, a1, a2, a3⟩ := m_burns h2.1 h2.2.1 h3.1 h3.2.1 h4.1 h4.2.1 h5 a b
  exact ⟨r, s1, s2, a1, a2, len, f, T, hd, sm, lg, kp, IV_sm (sm_2 (s_X_burns_fr s a b _ a1) (s_Z_burns_fr s1 a b _ a2) rA (by decide) (by decide)) a3 h⟩
theorem st_seen {s : jm_M} (h : INV s) (a : Int32) : stO (s_X_seen s a) (fun s1 => s_Z_seen s1 a) := by
  obtain ⟨len, f, T, hd, sm, lg, kp, h⟩ := h
  obtain ⟨h1, h2, h3, h4, h5, h6, h7, h8⟩ := id h
  obtain ⟨r, s1, s2, a1, a2, a3⟩ := m_seen h2.1 h2.2.1 h3.1 h3.2.1 h4.1 h4.2.1 h5 a
  exact ⟨r, s1, s2, a1, a2, len, f, T, hd, sm, lg, kp, IV_sm (sm_2 (s_X_seen_fr s a _ a1) (s_Z_seen_fr s1 a _ a2) rA (by decide) (by decide)) a3 h⟩
theorem st_wood {s : jm_M} (h : INV s) (a : Int32) : stO (s_X_wood s a) (fun s1 => s_Z_wood s1 a) := by
  obtain ⟨len, f, T, hd, sm, lg, kp, h⟩ := h
  obtain ⟨h1, h2, h3, h4, h5, h6, h7, h8⟩ := id h
  obtain ⟨r, s1, s2, a1, a2, a3⟩ := m_wood h2.1 h2.2.1 h3.1 h3.2.1 h4.1 h4.2.1 h5 a
  exact ⟨r, s1, s2, a1, a2, len, f, T, hd, sm, lg, kp, IV_sm (sm_2 (s_X_wood_fr s a _ a1) (s_Z_wood_fr s1 a _ a2) rA (by decide) (by decide)) a3 h⟩
theorem st_alarm {s : jm_M} (h : INV s) : stO (s_X_alarm s ) s_Z_alarm := by
  obtain ⟨len, f, T, hd, sm, lg, kp, h⟩ := h
  obtain ⟨h1, h2, h3, h4, h5, h6, h7, h8⟩ := id h
  obtain ⟨r, s1, s2, a1, a2, a3⟩ := m_alarm h2.1 h2.2.1 h3.1 h3.2.1 h4.1 h4.2.1 h5 
  exact ⟨r, s1, s2, a1, a2, len, f, T, hd, sm, lg, kp, IV_sm (sm_2 (s_X_alarm_fr s  _ a1) (s_Z_alarm_fr s1  _ a2) rA (by decide) (by decide)) a3 h⟩
theorem st_falseBy {s : jm_M} (h : INV s) (a : Int32) : stO (s_X_falseBy s a) (fun s1 => s_Z_falseBy s1 a) := by
  obtain ⟨len, f, T, hd, sm, lg, kp, h1, h2, h3, h4, h5, h6, h7, h8⟩ := id h
  obtain ⟨r, s1, s2, a1, a2⟩ := m_falseBy h2.1 h3.1 h4.1 a
  exact ⟨r, s1, s2, a1, a2, INV_fr (s_X_falseBy_fr s a _ a1) (s_Z_falseBy_fr s1 a _ a2) h⟩
theorem st_falseFor {s : jm_M} (h : INV s) (a b : Int32) : stO (s_X_falseFor s a b) (fun s1 => s_Z_falseFor s1 a b) := by
  obtain ⟨len, f, T, hd, sm, lg, kp, h1, h2, h3, h4, h5, h6, h7, h8⟩ := id h
  obtain ⟨r, s1, s2, a1, a2⟩ := m_falseFor h2.1 h3.1 h4.1 a b
  exact ⟨r, s1, s2, a1, a2, INV_fr (s_X_falseFor_fr s a b _ a1) (s_Z_falseFor_fr s1 a b _ a2) h⟩
theorem st_trueBy {s : jm_M} (h : INV s) (a b : Int32) : stO (s_X_trueBy s a b) (fun s1 => s_Z_trueBy s1 a b) := by
  obtain ⟨len, f, T, hd, sm, lg, kp, h1, h2, h3, h4, h5, h6, h7, h8⟩ := id h
  obtain ⟨r, s1, s2, a1, a2⟩ := m_trueBy h2.1 h3.1 h4.1 a b
  exact ⟨r, s1, s2, a1, a2, INV_fr (s_X_trueBy_fr s a b _ a1) (s_Z_trueBy_fr s1 a b _ a2) h⟩
theorem st_late {s : jm_M} (h : INV s) (a b : Int32) : stO (s_X_late s a b) (fun s1 => s_Z_late s1 a b) := by
  obtain ⟨len, f, T, hd, sm, lg, kp, h1, h2, h3, h4, h5, h6, h7, h8⟩ := id h
  obtain ⟨r, s1, s2, a1, a2⟩ := m_late h2.1 h3.1 h4.1 a b
  exact ⟨r, s1, s2, a1, a2, INV_fr (s_X_late_fr s a b _ a1) (s_Z_late_fr s1 a b _ a2) h⟩
theorem st_bears {s : jm_M} (h : INV s) : stO (s_X_bears s ) s_Z_bears := by
  obtain ⟨len, f, T, hd, sm, lg, kp, h1, h2, h3, h4, h5, h6, h7, h8⟩ := id h
  obtain ⟨r, s1, s2, a1, a2⟩ := m_bears h2.1 h3.1 h4.1 
  exact ⟨r, s1, s2, a1, a2, INV_fr (s_X_bears_fr s  _ a1) (s_Z_bears_fr s1  _ a2) h⟩
theorem st_bestRule {s : jm_M} (h : INV s) (a b : Int32) : stO (s_X_bestRule s a b) (fun s1 => s_Z_bestRule s1 a b) := by
  obtain ⟨len, f, T, hd, sm, lg, kp, h1, h2, h3, h4, h5, h6, h7, h8⟩ := id h
  obtain ⟨r, s1, s2, a1, a2⟩ := m_bestRule h2.1 h3.1 h4.1 a b
  exact ⟨r, s1, s2, a1, a2, INV_fr (s_X_bestRule_fr s a b _ a1) (s_Z_bestRule_fr s1 a b _ a2) h⟩
theorem st_added {s : jm_M} (h : INV s) (a : Int32) : stO (s_X_added s a) (fun s1 => s_Z_added s1 a) := by
  obtain ⟨len, f, T, hd, sm, lg, kp, h1, h2, h3, h4, h5, h6, h7, h8⟩ := id h
  obtain ⟨r, s1, s2, a1, a2⟩ := m_added h2.1 h3.1 h4.1 a
  exact ⟨r, s1, s2, a1, a2, INV_fr (s_X_added_fr s a _ a1) (s_Z_added_fr s1 a _ a2) h⟩
theorem st_watch {s : jm_M} (h : INV s) (t a b c d : Int32) : stO (s_X_watch s t a b c d) (fun s1 => s_Z_watch s1 t a b c d) := by
  obtain ⟨r, s1, s2, a1, a2⟩ := m_watch s t a b c d
  exact ⟨r, s1, s2, a1, a2, INV_fr (s_X_watch_fr s t a b c d _ a1) (s_Z_watch_fr s1 t a b c d _ a2) h⟩
theorem st_logs {s : jm_M} (h : INV s) (a : Int32) : stO (s_X_logs s a) (fun s1 => s_Z_logs s1 a) := by
  obtain ⟨len, f, T, hd, sm, lg, kp, h1, h2, h3, h4, h5, h6, h7, h8⟩ := id h
  by_cases ha : a = 3
  · subst ha
    obtain ⟨r, s1, s2, a1, a2⟩ := m_logs3 h2.1 h3.1 h4.1 h2.2.2 h3.2.2 h4.2.2
    exact ⟨r, s1, s2, a1, a2, INV_fr (s_X_logs_fr s 3 _ a1) (s_Z_logs_fr s1 3 _ a2) h⟩
  · obtain ⟨r, a1, a2⟩ := m_logs h2.1 h3.1 h4.1 h2.2.2 h3.2.2 h4.2.2 a ha
    exact ⟨r, s, s, a1, a2, h⟩
theorem st_sign {s : jm_M} (h : INV s) (a b c : Int32) : stO (s_X_sign s a b c) (fun s1 => s_Z_sign s1 a b c) := by
  obtain ⟨len, f, T, hd, sm, lg, kp, h1, h2, h3, h4, h5, h6, h7, h8⟩ := h
  obtain ⟨r, s1, s2, a1, a2, a3⟩ := m_sign h8 a b c
  have e := sm_2 (s_X_sign_fr s a b c _ a1) (s_Z_sign_fr s1 a b c _ a2) (rL rT (rL (rX 15) (rL (rX 25) (rL (rX 35) (rL rZ (rL rP (rL rK rC))))))) (by decide) (by decide)
  exact ⟨r, s1, s2, a1, a2, len, f, T, hd, sm, lg, kp, iT_sm (sm_sub e (by decide)) h1, h2, XW_sm (sm_sub e (by decide)) h3, ZW_sm h2.1 (sm_sub e (by decide)) h4, CN_sm (sm_sub e (by decide)) h5, KP_sm (sm_sub e (by decide)) (sm_sub e (by decide)) (sm_sub e (by decide)) (sm_sub e (by decide)) h6, iK_sm (sm_sub e (by decide)) h7, a3⟩
theorem st_cost {s : jm_M} (h : INV s) (a b : Int32) : stO (s_X_cost s a b) (fun s1 => s_Z_cost s1 a b) := by
  obtain ⟨len, f, T, hd, sm, lg, kp, h1, h2, h3, h4, h5, h6, h7, h8⟩ := h
  obtain ⟨r, s1, s2, a1, a2, a3⟩ := m_cost h7 a b
  have e := sm_2 (s_X_cost_fr s a b _ a1) (s_Z_cost_fr s1 a b _ a2) (rL rT (rL (rX 15) (rL (rX 25) (rL (rX 35) (rL rZ (rL rP (rL rS rC))))))) (by decide) (by decide)
  exact ⟨r, s1, s2, a1, a2, len, f, T, hd, sm, lg, kp, iT_sm (sm_sub e (by decide)) h1, h2, XW_sm (sm_sub e (by decide)) h3, ZW_sm h2.1 (sm_sub e (by decide)) h4, CN_sm (sm_sub e (by decide)) h5, KP_sm (sm_sub e (by decide)) (sm_sub e (by decide)) (sm_sub e (by decide)) (sm_sub e (by decide)) h6, a3, iS_sm (sm_sub e (by decide)) h8⟩
theorem z_ship_o {s s' : jm_M} {a b c r : Int32} (h : s_Z_ship s a b c = some (r, s')) : ∀ k, 3 ≤ k → s'.1 69 k = s.1 69 k := by
  unfold s_Z_ship at h
  by_cases h0 : a < 0
  · rw [if_pos h0] at h; cases h; exact fun _ _ => rfl
  · rw [if_neg h0] at h
    obtain ⟨v1, _, h⟩ := bd_some h
    by_cases h1 : (a &&& (v1 ^^^ (-1))) = 0
    · rw [if_pos h1] at h
      obtain ⟨v2, _, h⟩ := bd_some h
      by_cases h2 : v2 = 0
      · rw [if_pos h2] at h; cases h; exact fun _ _ => rfl
      · rw [if_neg h2] at h
        obtain ⟨v3, _, h⟩ := bd_some h
        by_cases h3 : v3 = 0
        · rw [if_pos h3] at h; cases h; exact fun _ _ => rfl
        · rw [if_neg h3, e_stiq (j := 0) 0 rfl (by decide) (by decide), e_stiq (j := 1) 1 rfl (by decide) (by decide), e_stiq (j := 2) 2 rfl (by decide) (by decide)] at h
          cases h
          intro k hk
          rw [e_sio (by omega), e_sio (by omega), e_sio (by omega)]
    · rw [if_neg h1] at h; cases h; exact fun _ _ => rfl
theorem z_log_o {s s' : jm_M} {a b r : Int32} {n : Nat} (h61 : s.1 61 0 = nI n) (hn : n ≤ 10) (h : s_Z_log s a b = some (r, s')) : ∀ k, 10 ≤ k → s'.1 70 k = s.1 70 k := by
  unfold s_Z_log at h
  rw [z_isHill h61 hn, e_bd] at h
  by_cases g : 0 ≤ a.toInt ∧ a.toInt < n
  · rw [if_pos g, if_neg e10] at h
    obtain ⟨v2, _, h⟩ := bd_some h
    by_cases h2 : v2 = 0
    · rw [if_pos h2] at h; cases h; exact fun _ _ => rfl
    · obtain ⟨k, hk, hk2, hk3⟩ := n_of g.1
      subst hk
      rw [if_neg h2, e_ldi (by omega) (by decide), e_sti (by omega) (by decide)] at h
      cases h
      intro q hq
      rw [e_sio (by omega)]
  · rw [if_neg g, if_pos rfl] at h
    cases h
    exact fun _ _ => rfl
theorem XN_n6 {s s' : jm_M} {nb : Nat} {T : tN} (h0 : s'.1 nb 0 = s.1 nb 0) (h : ∀ c, nb + 1 ≤ c → c ≤ nb + 9 → c ≠ nb + 6 → s'.1 c = s.1 c ∧ s'.2 c = s.2 c) (hx : XN s nb T) : XN s' nb T := by
  refine ⟨h0.trans hx.1, fun q hq => ?_⟩
  have g := hx.2 q hq
  unfold XH at g ⊢
  rw [(h (nb + 1) (by omega) (by omega) (by omega)).1, (h (nb + 2) (by omega) (by omega) (by omega)).1, (h (nb + 3) (by omega) (by omega) (by omega)).1, (h (nb + 4) (by omega) (by omega) (by omega)).1, (h (nb + 5) (by omega) (by omega) (by omega)).1, (h (nb + 7) (by omega) (by omega) (by omega)).2, (h (nb + 8) (by omega) (by omega) (by omega)).2, (h (nb + 9) (by omega) (by omega) (by omega)).2]
  exact g
def rN6 : List Nat × List (Nat × Nat) := ([16, 17, 18, 19, 20, 22, 23, 24], [(15, 0)])
theorem XN_15 {s s' : jm_M} {T : tN} (e : jm_sm rN6 s s') (hx : XN s 15 T) : XN s' 15 T := by
  refine XN_n6 (e 15 0 (by decide)).1 (fun c h1 h2 h3 => ?_) hx
  have hc : rN6.1.contains c = true := by
    unfold rN6
    refine List.contains_iff_mem.mpr ?_
    simp only [List.mem_cons, List.not_mem_nil, or_false]
    omega
  exact ⟨funext fun q => (e c q (Or.inl hc)).1, funext fun q => (e c q (Or.inl hc)).2⟩
def rZ8 : List Nat × List (Nat × Nat) := ([61, 62, 63, 64, 65, 66, 67, 68], [])
theorem inP_8 {s s' : jm_M} (e : jm_sm rZ8 s s') {k c q : Nat} (hc8 : c ≤ 68) (hc : inP k c q) : s'.1 c q = s.1 c q := by
  refine (e c q ?_).1
  unfold inP at hc
  unfold rZ8
  refine Or.inl (List.contains_iff_mem.mpr ?_)
  simp only [List.mem_cons, List.not_mem_nil, or_false]
  omega
theorem inP_c {k c q : Nat} (h : inP k c q) : c ≤ 68 ∨ (c = 69 ∧ 3 * k ≤ q) ∨ (c = 70 ∧ 10 * k ≤ q) := by
  unfold inP at h
  omega
theorem st_ship {s : jm_M} (h : INV s) (a b c : Int32) : stO (s_X_ship s a b c) (fun s1 => s_Z_ship s1 a b c) := by
  obtain ⟨len, f, T, hd, sm, lg, kp, h1, h2, h3, h4, h5, h6, h7, h8⟩ := h
  obtain ⟨r, s1, s2, a1, a2, hd', sm', b1, b2, b3, b4⟩ := m_ship h2.1 h3.1 h4.1 h3.2.1 h4.2.1 h2.2.1 a b c
  have fx := s_X_ship_fr s a b c _ a1
  have fz := s_Z_ship_fr s1 a b c _ a2
  have e := sm_2 fx fz (rL rT (rL rN6 (rL (rX 25) (rL (rX 35) (rL rZ8 (rL rP (rL rK (rL rS ([21, 70], [])))))))))  (by decide) (by decide)
  have ex := sm_of_fr fx (show jm_sep _ rZ = true by decide)
  refine ⟨r, s1, s2, a1, a2, len, f, T, hd', sm', lg, kp, iT_sm (sm_sub e (by decide)) h1, ⟨h2.1, b1, h2.2.2⟩, ⟨XN_15 (sm_sub e (by decide)) h3.1, b2, fun q hq => ?_⟩, ⟨ZN_pl h2.1 (fun c q hc hp => inP_8 (sm_sub e (by decide)) hc hp) h4.1, b3, fun q hq => ?_⟩, ?_, KP_same (sm_sub e (by decide)) (sm_sub e (by decide)) (sm_sub e (by decide)) (fun k c q hk1 hk2 hc => ?_) h6, iK_sm (sm_sub e (by decide)) h7, iS_sm (sm_sub e (by decide)) h8⟩
  · exact (e 21 q (Or.inl (by decide))).1.trans (h3.2.2 q hq)
  · exact (e 70 _ (Or.inl (by decide))).1.trans (h4.2.2 q hq)
  · rcases b4 with b4 | ⟨rfl, rfl, rfl⟩
    · exact Or.inl b4
    · exact CN_sm (sm_of_fr fz (by decide)) h5
  · rcases inP_c hc with h | ⟨rfl, h⟩ | ⟨rfl, h⟩
    · exact inP_8 (sm_sub e (by decide)) h hc
    · exact (z_ship_o a2 q (by omega)).trans (ex 69 q (Or.inl (by decide))).1
    · exact (e 70 _ (Or.inl (by decide))).1
theorem st_log {s : jm_M} (h : INV s) (a b : Int32) : stO (s_X_log s a b) (fun s1 => s_Z_log s1 a b) := by
  obtain ⟨len, f, T, hd, sm, lg, kp, h1, h2, h3, h4, h5, h6, h7, h8⟩ := h
  obtain ⟨r, s1, s2, lg', a1, a2, b1, b2, b3⟩ := m_log h2.1 h3.1.1 h4.1.1 h2.2.2 h3.2.2 h4.2.2 a b
  have fx := s_X_log_fr s a b _ a1
  have fz := s_Z_log_fr s1 a b _ a2
  have e := sm_2 fx fz (rL rT (rL rN6 (rL (rX 25) (rL (rX 35) (rL rZ8 (rL rP (rL rK (rL rS (rL rC ([69], [(15, 10), (15, 11)]))))))))))  (by decide) (by decide)
  have ex := sm_of_fr fx (show jm_sep _ rZ = true by decide)
  have e61 : s1.1 61 0 = nI (tn T) := (ex 61 0 (Or.inl (by decide))).1.trans h4.1.1
  refine ⟨r, s1, s2, a1, a2, len, f, T, hd, sm, lg', kp, iT_sm (sm_sub e (by decide)) h1, ⟨h2.1, h2.2.1, b1⟩, ⟨XN_15 (sm_sub e (by decide)) h3.1, XS_same (e 15 10 (Or.inr (by decide))).1 (e 15 11 (Or.inr (by decide))).2 h3.2.1, b2⟩, ⟨ZN_pl h2.1 (fun c q hc hp => inP_8 (sm_sub e (by decide)) hc hp) h4.1, ZS_same (funext fun q => (e 69 q (Or.inl (by decide))).1) h4.2.1, b3⟩, CN_sm (sm_sub e (by decide)) h5, KP_same (sm_sub e (by decide)) (sm_sub e (by decide)) (sm_sub e (by decide)) (fun k c q hk1 hk2 hc => ?_) h6, iK_sm (sm_sub e (by decide)) h7, iS_sm (sm_sub e (by decide)) h8⟩
  rcases inP_c hc with h | ⟨rfl, h⟩ | ⟨rfl, h⟩
  · exact inP_8 (sm_sub e (by decide)) h hc
  · exact (e 69 _ (Or.inl (by decide))).1
  · exact (z_log_o e61 h2.1.1 a2 q (by omega)).trans (ex 70 q (Or.inl (by decide))).1
