/-! the text: write, wipe -/
def tx_b (b : Nat) : Int32 := (nI b).toInt8.toInt32
theorem tx_m (v : BitVec 64) (s i : Nat) : ((v >>> s).toNat % 256).testBit i = (decide (i < 8) && v.getLsbD (s + i)) := by
  rw [show (256 : Nat) = 2 ^ 8 from rfl, Nat.testBit_mod_two_pow]
  congr 1
  show (v >>> s).getLsbD i = _
  rw [BitVec.getLsbD_ushiftRight]
theorem tx_255 (i : Nat) (hi : i < 64) : (255#64).getLsbD i = decide (i < 8) := by
  have : ∀ j : Fin 64, (255#64).getLsbD j.val = decide (j.val < 8) := by decide +kernel
  exact this ⟨i, hi⟩
theorem tx_z (v : Int64) (s : Nat) (hs : s ≤ 56) (S : Int64) (hS : S.toBitVec.smod 64 = BitVec.ofNat 64 s) : ((v >>> S) &&& 255).toInt32 = nI ((v.toBitVec >>> s).toNat % 256) := by
  apply Int32.toBitVec_inj.1
  show BitVec.signExtend 32 ((v.toBitVec.sshiftRight' (S.toBitVec.smod 64)) &&& 255#64) = BitVec.ofNat 32 ((v.toBitVec >>> s).toNat % 256)
  rw [hS]
  apply BitVec.eq_of_getLsbD_eq
  intro i hi
  rw [BitVec.getLsbD_signExtend, if_pos (by omega), BitVec.getLsbD_and, tx_255 i (by omega), BitVec.getLsbD_ofNat, tx_m]
  by_cases h8 : i < 8
  · have e1 : (v.toBitVec.sshiftRight' (BitVec.ofNat 64 s)).getLsbD i = v.toBitVec.getLsbD (s + i) := by
      rw [BitVec.sshiftRight', BitVec.toNat_ofNat, Nat.mod_eq_of_lt (by omega), BitVec.getLsbD_sshiftRight]
      simp [show s + i < 64 by omega, show i < 64 by omega]
    rw [e1]
    simp [h8, hi]
  · simp [h8]
theorem tx_x (v : Int64) (s : Nat) (S : UInt64) (hS : S.toNat % 64 = s) : ((v.toUInt64 >>> S).toInt64).toInt32.toInt8 = (nI ((v.toBitVec >>> s).toNat % 256)).toInt8 := by
  apply Int8.toBitVec_inj.1
  apply BitVec.eq_of_getLsbD_eq
  intro i hi
  have e1 : (v.toUInt64 >>> S).toInt64.toInt32.toInt8.toBitVec.getLsbD i = (v.toUInt64 >>> S).toBitVec.getLsbD i := by
    show (BitVec.signExtend 8 (BitVec.signExtend 32 (v.toUInt64 >>> S).toBitVec)).getLsbD i = _
    rw [BitVec.getLsbD_signExtend, BitVec.getLsbD_signExtend]
    simp [hi, show i < 32 by omega, show i < 64 by omega]
  have e2 : (nI ((v.toBitVec >>> s).toNat % 256)).toInt8.toBitVec.getLsbD i = v.toBitVec.getLsbD (s + i) := by
    show (BitVec.signExtend 8 (BitVec.ofNat 32 ((v.toBitVec >>> s).toNat % 256))).getLsbD i = _
    rw [BitVec.getLsbD_signExtend, if_pos (by omega), BitVec.getLsbD_ofNat, tx_m]
    simp [hi, show i < 32 by omega]
  rw [e1, e2]
  show (v.toBitVec >>> (S.toBitVec % 64)).getLsbD i = _
  rw [BitVec.ushiftRight_eq', BitVec.getLsbD_ushiftRight, BitVec.toNat_umod]
  congr 2
def tx_by (v : Int64) (q : Nat) : Nat := (v.toBitVec >>> (8 * q)).toNat % 256
theorem tx_by_lt (v : Int64) (q : Nat) : tx_by v q < 256 := Nat.mod_lt _ (by decide)
theorem tx_xb (v : Int64) {q : Nat} (hq : q < 8) : vp_nar .byte ((((v.toUInt64 >>> ((8 * nI q).toInt64.toUInt64 &&& Int64.toUInt64 63)).toInt64).toInt32).toInt8.toInt32) = tx_b (tx_by v q) := by
  rw [vp_nar_byte, fb_byte_twice, tx_x v (8 * q), tx_b, tx_by]
  have : ∀ j : Fin 8, ((8 * nI j.val).toInt64.toUInt64 &&& Int64.toUInt64 63).toNat % 64 = 8 * j.val := by decide +kernel
  exact this ⟨q, hq⟩
theorem tx_zb (v : Int64) {q : Nat} (hq : q < 8) : ((v >>> ((8 * nI q).toInt64 &&& 63)) &&& 255).toInt32 = nI (tx_by v q) := by
  rw [tx_z v (8 * q) (by omega), tx_by]
  have : ∀ j : Fin 8, ((8 * nI j.val).toInt64 &&& 63).toBitVec.smod 64 = BitVec.ofNat 64 (8 * j.val) := by decide +kernel
  exact this ⟨q, hq⟩
theorem tx_m1 (j : Nat) : nI j + (-1) = nI j - 1 := by rw [Int32.sub_eq_add_neg]
theorem tx_xl (v : Int64) : ∀ (j n : Nat) (s : jm_M) (len : Nat), j < n → j ≤ 8 → len + j ≤ 300 → s.1 1 1 = nI len → ∃ s', s_X_write_L33 n v (nI j - 1) s = some (nI (len + j), s') ∧ s'.1 1 1 = nI (len + j) ∧ (∀ i, i < len → s'.1 2 i = s.1 2 i) ∧ ∀ i, i < j → s'.1 2 (len + i) = tx_b (tx_by v (j - 1 - i)) := by
  intro j
  induction j with
  | zero =>
    intro n s len hn hj hl h1
    obtain ⟨n, rfl⟩ : ∃ m, n = m + 1 := ⟨n - 1, by omega⟩
    rw [s_X_write_L33, if_pos (by decide), h1]
    exact ⟨s, rfl, h1, fun _ _ => rfl, fun i hi => by omega⟩
  | succ j ih =>
    intro n s len hn hj hl h1
    obtain ⟨n, rfl⟩ : ∃ m, n = m + 1 := ⟨n - 1, by omega⟩
    rw [s_X_write_L33, nI_pred, if_neg (nI_pos (by omega)), h1, e_sti (by omega) (by decide), e_ev, e_sio (by omega), h1, nI_1, tx_xb v (by omega), tx_m1]
    obtain ⟨s', g1, g2, g3, g4⟩ := ih n (jm_si (jm_si s 2 len (tx_b (tx_by v j))) 1 1 (nI (len + 1))) (len + 1) (by omega) (by omega) (by omega) e_si
    refine ⟨s', ?_, ?_, ?_, ?_⟩
    · rw [g1, show len + 1 + j = len + (j + 1) by omega]
    · rw [g2, show len + 1 + j = len + (j + 1) by omega]
    · intro i hi
      rw [g3 i (by omega), e_sio (by omega), e_sio (by omega)]
    · intro i hi
      by_cases hi0 : i = 0
      · subst hi0
        rw [g3 (len + 0) (by omega), e_sio (by omega), Nat.add_zero, e_si, show j + 1 - 1 - 0 = j by omega]
      · have := g4 (i - 1) (by omega)
        rw [show len + 1 + (i - 1) = len + i by omega] at this
        rw [this, show j - 1 - (i - 1) = j + 1 - 1 - i by omega]
theorem tx_zl (v : Int64) : ∀ (j n : Nat) (s : jm_M) (len : Nat), j < n → j ≤ 8 → len + j ≤ 300 → s.1 59 0 = nI len → ∃ s', s_Z_write_L34 n v (nI j - 1) s = some (nI (len + j), s') ∧ s'.1 59 0 = nI (len + j) ∧ (∀ i, i < len → s'.1 60 i = s.1 60 i) ∧ ∀ i, i < j → s'.1 60 (len + i) = nI (tx_by v (j - 1 - i)) := by
  intro j
  induction j with
  | zero =>
    intro n s len hn hj hl h1
    obtain ⟨n, rfl⟩ : ∃ m, n = m + 1 := ⟨n - 1, by omega⟩
    rw [s_Z_write_L34, if_pos (by decide), h1]
    exact ⟨s, rfl, h1, fun _ _ => rfl, fun i hi => by omega⟩
  | succ j ih =>
    intro n s len hn hj hl h1
    obtain ⟨n, rfl⟩ : ∃ m, n = m + 1 := ⟨n - 1, by omega⟩
    rw [s_Z_write_L34, nI_pred, if_neg (nI_pos (by omega)), h1, e_sti (by omega) (by decide), e_ev, e_sio (by omega), h1, nI_1, tx_zb v (by omega), tx_m1]
    obtain ⟨s', g1, g2, g3, g4⟩ := ih n (jm_si (jm_si s 60 len (nI (tx_by v j))) 59 0 (nI (len + 1))) (len + 1) (by omega) (by omega) (by omega) e_si
    refine ⟨s', ?_, ?_, ?_, ?_⟩
    · rw [g1, show len + 1 + j = len + (j + 1) by omega]
    · rw [g2, show len + 1 + j = len + (j + 1) by omega]
    · intro i hi
      rw [g3 i (by omega), e_sio (by omega), e_sio (by omega)]
    · intro i hi
      by_cases hi0 : i = 0
      · subst hi0
        rw [g3 (len + 0) (by omega), e_sio (by omega), Nat.add_zero, e_si, show j + 1 - 1 - 0 = j by omega]
      · have := g4 (i - 1) (by omega)
        rw [show len + 1 + (i - 1) = len + i by omega] at this
        rw [this, show j - 1 - (i - 1) = j + 1 - 1 - i by omega]
/-- the texts are the same -/
def iT (s : jm_M) (len : Nat) (f : Nat → Nat) : Prop := len ≤ 300 ∧ s.1 1 1 = nI len ∧ s.1 59 0 = nI len ∧ ∀ i, i < len → f i < 256 ∧ s.1 2 i = tx_b (f i) ∧ s.1 60 i = nI (f i)
theorem m_wipe {s : jm_M} {len : Nat} {f : Nat → Nat} (h : iT s len f) : ∃ r s1 s2, s_X_wipe s = some (r, s1) ∧ s_Z_wipe s1 = some (r, s2) ∧ iT s2 0 f := by
  unfold s_X_wipe s_Z_wipe
  simp only [e_vi, e_ev]
  refine ⟨_, _, jm_si (jm_si s 1 1 0) 59 0 0, rfl, ?_, ?_⟩
  · rw [e_sio (by omega), h.2.1, h.2.2.1]
  · exact ⟨by omega, by rw [e_sio (by omega), e_si]; rfl, by rw [e_si]; rfl, fun i hi => by omega⟩
theorem m_write {s : jm_M} {len : Nat} {f : Nat → Nat} (h : iT s len f) (n : Int32) (v : Int64) : ∃ r s1 s2 len' f', s_X_write s n v = some (r, s1) ∧ s_Z_write s1 n v = some (r, s2) ∧ iT s2 len' f' := by
  obtain ⟨hl, h1, h2, h3⟩ := h
  unfold s_X_write s_Z_write
  by_cases c1 : n.toInt < 1
  · rw [if_pos ((i_lt 1).mpr c1)]
    exact ⟨_, s, s, len, f, rfl, by rw [z_in0 1 8 (by omega)]; rfl, hl, h1, h2, h3⟩
  · rw [if_neg (fun z => c1 ((i_lt 1).mp z))]
    by_cases c2 : n.toInt ≤ 8
    · rw [if_pos ((i_le 8).mpr c2), h1]
      obtain ⟨j, rfl, hj, -⟩ := n_of (x := n) (by omega)
      rw [nI_add]
      have okz : ∀ s : jm_M, s_Z_in s (nI j).toInt64 1 8 = some 1 := fun s => z_in1 1 8 (by omega) (by omega)
      by_cases c3 : len + j ≤ 300
      · rw [if_pos ((i_le 300).mpr (by rw [nI_toInt (by omega)]; omega)), e_vi]
        obtain ⟨s1, g1, g2, g3, g4⟩ := tx_xl v j 5000 s len (by omega) (by omega) c3 h1
        have hfr := s_X_write_L33_fr 5000 v (nI j - 1) s _ g1
        have q1 : s1.1 59 0 = nI len := by rw [(hfr 59 0 (by decide) (by decide)).1]; exact h2
        have q2 : ∀ i, s1.1 60 i = s.1 60 i := fun i => (hfr 60 i (by decide) (by simp)).1
        obtain ⟨s2, k1, k2, k3, k4⟩ := tx_zl v j 5000 s1 len (by omega) (by omega) c3 q1
        have hfz := s_Z_write_L34_fr 5000 v (nI j - 1) s1 _ k1
        refine ⟨nI (len + j), s1, s2, len + j, fun i => if i < len then f i else tx_by v (j - 1 - (i - len)), g1, ?_, c3, ?_, k2, ?_⟩
        · rw [okz, e_bd, if_neg e10, q1, nI_add, if_pos ((i_le 300).mpr (by rw [nI_toInt (by omega)]; omega)), e_vi, k1]
        · rw [(hfz 1 1 (by decide) (by decide)).1, g2]
        · intro i hi
          have q3 : s2.1 2 i = s1.1 2 i := (hfz 2 i (by decide) (by simp)).1
          by_cases hil : i < len
          · simp only [if_pos hil]
            rw [q3, g3 i hil, k3 i hil, q2]
            exact h3 i hil
          · simp only [if_neg hil]
            obtain ⟨d, rfl⟩ : ∃ d, i = len + d := ⟨i - len, by omega⟩
            rw [q3, g4 d (by omega), k4 d (by omega), show len + d - len = d by omega]
            exact ⟨tx_by_lt _ _, rfl, rfl⟩
      · rw [if_neg (fun z => by rw [i_le 300, nI_toInt (by omega)] at z; omega)]
        exact ⟨_, s, s, len, f, rfl, by rw [okz, e_bd, if_neg e10, h2, nI_add, if_neg (fun z => by rw [i_le 300, nI_toInt (by omega)] at z; omega)], hl, h1, h2, h3⟩
    · rw [if_neg (fun z => c2 ((i_le 8).mp z))]
      exact ⟨_, s, s, len, f, rfl, by rw [z_in0 1 8 (by omega)]; rfl, hl, h1, h2, h3⟩
