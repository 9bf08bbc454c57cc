/-! the king: costs, sends, unbelieved -/
def iK (s : jm_M) : Prop := ∀ k, k < 3 → s.1 58 k = s.1 72 k
theorem k_send {s : jm_M} (h : iK s) (a b : Int32) : s_Ki_wouldSend s a b = s_Z_doesSend s a b := by
  unfold s_Ki_wouldSend s_Z_doesSend
  rw [show (0 : Int32) = nI 0 from rfl, show (2 : Int32) = nI 2 from rfl, e_ldi (by decide) (by decide), e_ldi (by decide) (by decide), e_ldi (by decide) (by decide), e_ldi (by decide) (by decide), e_vi, show (1 : Int32) = nI 1 from rfl, e_ldi (by decide) (by decide), e_ldi (by decide) (by decide), h 0 (by decide), h 1 (by decide), h 2 (by decide)]
theorem k_sent (s : jm_M) (a b : Int32) : s_Z_doesSend s a b = some 0 ∨ s_Z_doesSend s a b = some 1 := by
  unfold s_Z_doesSend
  rw [show (0 : Int32) = nI 0 from rfl, show (2 : Int32) = nI 2 from rfl, e_ldi (by decide) (by decide), e_ldi (by decide) (by decide), show (1 : Int32) = nI 1 from rfl, e_ldi (by decide) (by decide)]
  split
  · exact Or.inl rfl
  · exact Or.inr rfl
theorem k_isN (s : jm_M) (a : Int32) : s_X_isNumberOfNights s a = s_Z_in s a.toInt64 0 100 := by
  unfold s_X_isNumberOfNights
  rw [z_inL, Int32.toInt_toInt64, show (0 : Int64).toInt = 0 by decide, show (100 : Int64).toInt = 100 by decide]
  by_cases h1 : a.toInt < 0
  · rw [if_pos ((i_lt 0).mpr h1), if_neg (by omega)]
  · rw [if_neg (fun h => h1 ((i_lt 0).mp h))]
    by_cases h2 : 100 < a.toInt
    · rw [if_pos ((i_gt 100).mpr h2), if_neg (by omega)]
    · rw [if_neg (fun h => h2 ((i_gt 100).mp h)), if_pos (by omega)]
theorem k_in01 (s : jm_M) (a lo hi : Int64) : s_Z_in s a lo hi = some 0 ∨ s_Z_in s a lo hi = some 1 := by
  rw [z_inL]
  split
  · exact Or.inr rfl
  · exact Or.inl rfl
theorem m_sends {s : jm_M} (h : iK s) (a b : Int32) : ∃ r, s_X_sends s a b = some r ∧ s_Z_sends s a b = some r := by
  unfold s_X_sends s_Z_sends s_Z_areNights
  rw [k_isN, k_isN, k_send h]
  rcases k_in01 s a.toInt64 0 100 with h1 | h1
  · rw [h1]; exact ⟨_, rfl, rfl⟩
  · rw [h1]
    rcases k_in01 s b.toInt64 0 100 with h2 | h2
    · rw [h2]; exact ⟨_, rfl, rfl⟩
    · rw [h2]
      rcases k_sent s a b with h3 | h3
      · rw [h3]; exact ⟨_, rfl, rfl⟩
      · rw [h3]; exact ⟨_, rfl, rfl⟩
theorem k_loop {s : jm_M} (h : iK s) (a b : Int32) : ∀ n c, s_Ki_moreFalseNights_L2 s n a b c = s_Z_unbelieved_L12 s n a b c := by
  intro n
  induction n with
  | zero => intro c; rfl
  | succ n ih =>
    intro c
    rw [s_Ki_moreFalseNights_L2, s_Z_unbelieved_L12, k_send h]
    congr 1
    congr 1
    funext v
    rw [ih]
theorem k_end (s : jm_M) (a b : Int32) : ∀ n c : Nat, c ≤ 1001 → 1001 - c < n → ∃ r, s_Z_unbelieved_L12 s n a b (nI c) = some r := by
  intro n
  induction n with
  | zero => intro c h1 h2; omega
  | succ n ih =>
    intro c h1 h2
    rw [s_Z_unbelieved_L12]
    by_cases hc : c = 1001
    · rw [if_pos ((i_gt 1000).mpr (by rw [nI_toInt (by omega)]; omega))]
      exact ⟨_, rfl⟩
    · rw [if_neg (fun q => by rw [i_gt 1000, nI_toInt (by omega)] at q; omega)]
      rcases k_sent s (a + nI c) b with h3 | h3
      · rw [h3]; exact ⟨_, rfl⟩
      · rw [h3, e_bd, if_neg (by decide), nI_1]
        exact ih (c + 1) (by omega) (by omega)
theorem m_unbelieved {s : jm_M} (h : iK s) (a b : Int32) : ∃ r, s_X_unbelieved s a b = some r ∧ s_Z_unbelieved s a b = some r := by
  unfold s_X_unbelieved s_Z_unbelieved s_Z_areNights s_Ki_moreFalseNights
  rw [k_isN, k_isN, k_loop h]
  rcases k_in01 s a.toInt64 0 100 with h1 | h1
  · rw [h1]; exact ⟨_, rfl, rfl⟩
  · rw [h1]
    rcases k_in01 s b.toInt64 0 100 with h2 | h2
    · rw [h2]; exact ⟨_, rfl, rfl⟩
    · rw [h2]
      obtain ⟨r, hr⟩ := k_end s a b 5000 0 (by decide) (by decide)
      rw [show (nI 0 : Int32) = 0 from rfl] at hr
      refine ⟨r, ?_, ?_⟩
      · rw [e_bd, if_neg (by decide), e_bd, if_neg (by decide), hr, e_bd]
      · rw [e_bd, if_neg (by decide), e_bd, if_neg (by decide), e_bd, if_neg (by decide), hr]
theorem m_cost {s : jm_M} (h : iK s) (a b : Int32) : ∃ r s1 s2, s_X_cost s a b = some (r, s1) ∧ s_Z_cost s1 a b = some (r, s2) ∧ iK s2 := by
  unfold s_X_cost s_Z_cost
  by_cases h1 : a.toInt < 0
  · rw [if_pos ((i_lt 0).mpr h1)]
    exact ⟨_, s, s, rfl, by rw [z_in0 0 2 (by omega)]; rfl, h⟩
  · rw [if_neg (fun q => h1 ((i_lt 0).mp q))]
    by_cases h2 : 2 < a.toInt
    · rw [if_pos ((i_gt 2).mpr h2)]
      exact ⟨_, s, s, rfl, by rw [z_in0 0 2 (by omega)]; rfl, h⟩
    · rw [if_neg (fun q => h2 ((i_gt 2).mp q))]
      by_cases h3 : b.toInt < 0
      · rw [if_pos ((i_lt 0).mpr h3)]
        exact ⟨_, s, s, rfl, by rw [z_in1 0 2 (by omega) (by omega), e_bd, if_neg (by decide), z_in0 0 1000 (by omega)]; rfl, h⟩
      · rw [if_neg (fun q => h3 ((i_lt 0).mp q))]
        by_cases h4 : b.toInt ≤ 1000
        · rw [if_pos ((i_le 1000).mpr h4)]
          obtain ⟨k, rfl, hk, -⟩ := n_of (x := a) (by omega)
          rw [e_ldi (by omega) (by decide), e_sti (by omega) (by decide)]
          refine ⟨_, _, jm_si (jm_si s 58 k b) 72 k b, rfl, ?_, ?_⟩
          · rw [z_in1 0 2 (by omega) (by omega), e_bd, if_neg (by decide), z_in1 0 1000 (by omega) (by omega), e_bd, if_neg (by decide), e_ldi (by omega) (by decide), e_sti (by omega) (by decide), e_sio (by omega), ← h k (by omega)]
          · intro q hq
            by_cases hqk : q = k
            · subst hqk
              rw [e_si, e_sio (by omega), e_si]
            · rw [e_sio (by omega), e_sio (by omega), e_sio (by omega), e_sio (by omega)]
              exact h q hq
        · rw [if_neg (fun q => h4 ((i_le 1000).mp q))]
          exact ⟨_, s, s, rfl, by rw [z_in1 0 2 (by omega) (by omega), e_bd, if_neg (by decide), z_in0 0 1000 (by omega)]; rfl, h⟩
