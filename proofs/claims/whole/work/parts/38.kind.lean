/-! sets by kind; ship; count -/
def kB (T : tN) (w h : Nat) : Bool := decide (h < tn T) && decide (tk T h = w)
def kS (T : tN) (w : Nat) : Nat := sOf (kB T w) 10
theorem kS_lt (T : tN) (w : Nat) : kS T w < 1024 := sOf_lt _ 10
theorem kS_n {T : tN} (w : wT T) (v : Nat) : sOf (kB T v) (tn T) = kS T v := by
  unfold kS
  rw [sOf_up w.1 (fun i h1 _ => by simp [kB]; omega)]
theorem kS_bit {T : tN} (w i : Nat) : (kS T w).testBit i = (decide (i < 10) && kB T w i) := sOf_bit _ _ _
theorem tkI_eq {T : tN} {h v : Nat} (wt : wT T) (hv : v < 4) : tkI T h = nI v ↔ kB T v h = true := by
  unfold tkI kB
  by_cases hh : h < tn T
  · have := (wt.2.1 h hh).1
    rw [if_pos hh, nI_eq (by omega) (by omega)]
    simp [hh]
  · rw [if_neg hh, fa_eq, nI_toInt (by omega), show (-1 : Int32).toInt = -1 by decide]
    simp [hh]
theorem x_ofKind {s : jm_M} {T : tN} (wt : wT T) (hx : ∀ h, h < 10 → s.1 16 h = tkI T h) {v : Nat} (hv : v < 4) : s_Ne_ofKind_15 s (nI v) = some (nI (kS T v)) := by
  unfold s_Ne_ofKind_15
  refine lp_inv (fun n c (acc : Int32) => s_Ne_ofKind_15_L4 s n (nI v) acc c) 10 (fun i => nI (sOf (kB T v) i)) _ (fun n => ?_) (fun n i hi => ?_) 10 5000 0 rfl (by decide)
  · show s_Ne_ofKind_15_L4 s (n + 1) (nI v) (nI (sOf (kB T v) 10)) (nI 10) = _
    rw [s_Ne_ofKind_15_L4, if_pos (by decide)]
    rfl
  · show s_Ne_ofKind_15_L4 s (n + 1) (nI v) (nI (sOf (kB T v) i)) (nI i) = s_Ne_ofKind_15_L4 s n (nI v) (nI (sOf (kB T v) (i + 1))) (nI (i + 1))
    rw [s_Ne_ofKind_15_L4, if_neg (fun z => by rw [i_ge 10, nI_toInt (by omega)] at z; omega), e_ldi hi (by decide), hx i hi, sOf]
    by_cases hk : kB T v i = true
    · rw [if_pos ((tkI_eq wt hv).mpr hk), e_vi, p2 (by omega), fa_or, nI_1, if_pos hk]
    · rw [if_neg (fun z => hk ((tkI_eq wt hv).mp z)), nI_1, if_neg hk, Nat.or_zero]
theorem z_ofKind {s : jm_M} {T : tN} (wt : wT T) (hn : s.1 61 0 = nI (tn T)) (hx : ∀ h, h < tn T → s.1 62 h = nI (tk T h)) {v : Nat} (hv : v < 4) : s_Z_ofKind s (nI v) = some (nI (kS T v)) := by
  unfold s_Z_ofKind
  have w1 := wt.1
  refine lp_inv (fun n c (acc : Int32) => s_Z_ofKind_L4 s n (nI v) acc c) (tn T) (fun i => nI (sOf (kB T v) i)) _ (fun n => ?_) (fun n i hi => ?_) (tn T) 5000 0 (by omega) (by omega)
  · show s_Z_ofKind_L4 s (n + 1) (nI v) (nI (sOf (kB T v) (tn T))) (nI (tn T)) = _
    rw [s_Z_ofKind_L4, e_ldiq (j := 0) 0 rfl (by decide) (by decide), hn, if_pos (nI_le (Nat.le_refl _) (by omega)), kS_n wt]
  · show s_Z_ofKind_L4 s (n + 1) (nI v) (nI (sOf (kB T v) i)) (nI i) = s_Z_ofKind_L4 s n (nI v) (nI (sOf (kB T v) (i + 1))) (nI (i + 1))
    rw [s_Z_ofKind_L4, e_ldiq (j := 0) 0 rfl (by decide) (by decide), hn, if_neg (nI_ge hi (by omega)), e_ldi (by omega) (by decide), hx i hi, sOf]
    have h3 := (wt.2.1 i hi).1
    by_cases hk : tk T i = v
    · have hb : kB T v i = true := by simp [kB, hi, hk]
      rw [if_pos (by rw [hk]), e_vi, p2 (by omega), fa_or, nI_1, if_pos hb]
    · have hb : ¬ kB T v i = true := by simp [kB, hk]
      rw [if_neg (fun z => hk ((nI_eq (by omega) (by omega)).mp z)), e_vi, nI_1, if_neg hb, Nat.or_zero, show nI (sOf (kB T v) i) ||| 0 = nI (sOf (kB T v) i ||| 0) from fa_or _ 0, Nat.or_zero]
/-- a set within another -/
theorem in_set {a : Int32} {k : Nat} (hk : k < 1024) : (a &&& (nI k ^^^ (-1))) = 0 ↔ ∃ m, m < 1024 ∧ a = nI m ∧ ∀ i, m.testBit i = true → k.testBit i = true := by
  have hbit : ∀ (x : Nat) (i : Nat), x < 1024 → (nI x).toBitVec.getLsbD i = x.testBit i := by
    intro x i hx
    show (BitVec.ofNat 32 x).getLsbD i = _
    rw [BitVec.getLsbD_ofNat]
    by_cases hi : i < 32
    · simp [hi]
    · have : x.testBit i = false := Nat.testBit_lt_two_pow (Nat.lt_of_lt_of_le hx (Nat.le_trans (show (1024 : Nat) ≤ 2 ^ 32 by decide) (Nat.pow_le_pow_right (by decide) (by omega))))
      simp [hi, this]
  have hm1 : ∀ i, i < 32 → (-1 : Int32).toBitVec.getLsbD i = true := by
    intro i hi
    have : ∀ j : Fin 32, (-1 : Int32).toBitVec.getLsbD j.val = true := by decide +kernel
    exact this ⟨i, hi⟩
  have hand : ∀ i, i < 32 → (a &&& (nI k ^^^ (-1))).toBitVec.getLsbD i = (a.toBitVec.getLsbD i && !k.testBit i) := by
    intro i hi
    show (a.toBitVec &&& ((nI k).toBitVec ^^^ (-1 : Int32).toBitVec)).getLsbD i = _
    rw [BitVec.getLsbD_and, BitVec.getLsbD_xor, hbit k i hk, hm1 i hi, Bool.xor_true]
  constructor
  · intro h
    have hb : ∀ i, i < 32 → a.toBitVec.getLsbD i = true → k.testBit i = true := by
      intro i hi ha
      have h1 := hand i hi
      rw [h, ha] at h1
      have h2 : (0 : Int32).toBitVec.getLsbD i = false := by show (0#32).getLsbD i = false; simp
      rw [h2] at h1
      cases hk2 : k.testBit i with
      | true => rfl
      | false => rw [hk2] at h1; simp at h1
    have hlt : a.toBitVec.toNat < 1024 := by
      apply Nat.lt_pow_two_of_testBit (n := 10)
      intro i hi
      cases hc : a.toBitVec.toNat.testBit i with
      | false => rfl
      | true =>
        by_cases h32 : i < 32
        · have := hb i h32 hc
          rw [Nat.testBit_lt_two_pow (Nat.lt_of_lt_of_le (show k < 2 ^ 10 from hk) (Nat.pow_le_pow_right (by decide) hi))] at this
          exact this.symm
        · have : a.toBitVec.toNat.testBit i = false := BitVec.getLsbD_of_ge a.toBitVec i (by omega)
          rw [this] at hc
          exact hc.symm
    have ha : a = nI a.toBitVec.toNat := by
      apply Int32.toBitVec_inj.1
      show a.toBitVec = BitVec.ofNat 32 a.toBitVec.toNat
      simp
    refine ⟨a.toBitVec.toNat, hlt, ha, fun i hi => ?_⟩
    by_cases h32 : i < 32
    · exact hb i h32 hi
    · have : a.toBitVec.toNat.testBit i = false := BitVec.getLsbD_of_ge a.toBitVec i (by omega)
      rw [this] at hi
      cases hi
  · rintro ⟨m, hm, rfl, hs⟩
    apply Int32.toBitVec_inj.1
    apply BitVec.eq_of_getLsbD_eq
    intro i hi
    rw [hand i hi, hbit m i hm]
    show _ = (0#32).getLsbD i
    cases hc : m.testBit i with
    | false => simp
    | true => simp [hs i hc]
/-- minutes a to b as bits -/
theorem mf_bits {a b : Nat} (hab : a ≤ b) (hb : b < 60) (s : jm_M) : ∃ w, s_X_minutesFrom s (nI a) (nI b) = some w ∧ ∀ t, t < 64 → b64 w t = decide (a ≤ t ∧ t ≤ b) := by
  refine ⟨_, rfl, fun t ht => ?_⟩
  rw [pk_sub hab, show (63 : Int32) = nI 63 from rfl, pk_sub (by omega)]
  have h1 : ∀ j : Fin 64, ((nI j.val).toInt64.toUInt64 &&& Int64.toUInt64 63).toBitVec % 64 = BitVec.ofNat 64 j.val := by decide +kernel
  have h2 : ∀ j : Fin 64, ((nI j.val).toInt64 &&& 63).toBitVec.smod 64 = BitVec.ofNat 64 j.val := by decide +kernel
  have e1 := h1 ⟨63 - (b - a), by omega⟩
  have e2 := h2 ⟨a, by omega⟩
  show (BitVec.shiftLeft (BitVec.ushiftRight (-1 : Int64).toBitVec (((nI (63 - (b - a))).toInt64.toUInt64 &&& Int64.toUInt64 63).toBitVec % 64).toNat) (((nI a).toInt64 &&& 63).toBitVec.smod 64).toNat).getLsbD t = _
  rw [e1, e2, BitVec.toNat_ofNat, BitVec.toNat_ofNat, Nat.mod_eq_of_lt (by omega), Nat.mod_eq_of_lt (by omega)]
  have hm1 : ∀ i, i < 64 → (-1 : Int64).toBitVec.getLsbD i = true := by
    intro i hi
    have : ∀ j : Fin 64, (-1 : Int64).toBitVec.getLsbD j.val = true := by decide +kernel
    exact this ⟨i, hi⟩
  show ((-1 : Int64).toBitVec >>> (63 - (b - a)) <<< a).getLsbD t = _
  rw [BitVec.getLsbD_shiftLeft, BitVec.getLsbD_ushiftRight]
  by_cases hta : t < a
  · simp [hta, show ¬ a ≤ t by omega]
  · by_cases htb : t ≤ b
    · rw [hm1 _ (by omega)]
      simp [hta, ht, htb, show a ≤ t by omega]
    · rw [BitVec.getLsbD_of_ge _ _ (by omega)]
      simp [htb]
theorem k_isMi (s : jm_M) (a : Int32) : s_X_isMinute s a = s_Z_in s a.toInt64 0 59 := by
  unfold s_X_isMinute
  rw [z_inL, Int32.toInt_toInt64, show (0 : Int64).toInt = 0 by decide, show (59 : Int64).toInt = 59 by decide]
  by_cases h1 : a.toInt < 0
  · rw [if_pos ((i_lt 0).mpr h1), if_neg (by omega)]
  · rw [if_neg (fun h => h1 ((i_lt 0).mp h))]
    by_cases h2 : 60 ≤ a.toInt
    · rw [if_pos ((i_ge 60).mpr h2), if_neg (by omega)]
    · rw [if_neg (fun h => h2 ((i_ge 60).mp h)), if_pos (by omega)]
theorem XN_k {s : jm_M} {T : tN} (hx : XN s 15 T) : ∀ h, h < 10 → s.1 16 h = tkI T h := fun h hh => (hx.2 h hh).1
theorem ZN_k {s : jm_M} {T : tN} (hz : ZN s 0 T) : ∀ h, h < tn T → s.1 62 h = nI (tk T h) := fun h hh => by
  have := (hz.2.1 h hh).1
  rwa [show 10 * 0 + h = h by omega] at this
/-- ship: the night is to be played anew, all else but the ship stays -/
theorem m_ship {s : jm_M} {T : tN} {hd : Nat} {sm : Nat → Bool} (wt : wT T) (hx : XN s 15 T) (hz : ZN s 0 T) (xs : XS s 15 hd sm) (zs : ZS s 0 hd sm) (hhd : hd < 1024) (a b c : Int32) : ∃ r s1 s2, s_X_ship s a b c = some (r, s1) ∧ s_Z_ship s1 a b c = some (r, s2) ∧ ∃ hd' sm', hd' < 1024 ∧ XS s2 15 hd' sm' ∧ ZS s2 0 hd' sm' ∧ (s2.1 1 9 = 0 ∨ (s1 = s ∧ hd' = hd ∧ sm' = sm)) := by
  unfold s_X_ship
  rw [show (1 : Int32) = nI 1 from rfl, x_ofKind wt (XN_k hx) (by decide), e_bd]
  have zk : ∀ s1 : jm_M, s1.1 61 = s.1 61 → s1.1 62 = s.1 62 → s_Z_ofKind s1 (nI 1) = some (nI (kS T 1)) := fun s1 h1 h2 => z_ofKind wt (by rw [h1]; exact hz.1) (fun h hh => by rw [h2]; exact ZN_k hz h hh) (by decide)
  by_cases h1 : (a &&& (nI (kS T 1) ^^^ (-1))) = 0
  · rw [show (-1 : Int32) = -nI 1 from rfl] at h1
    rw [if_pos h1]
    obtain ⟨m, hm, rfl, hms⟩ := (in_set (kS_lt T 1)).mp h1
    rw [k_isMi, k_isMi]
    have zb : ∀ s1 : jm_M, s1.1 61 = s.1 61 → s1.1 62 = s.1 62 → s_Z_ship s1 (nI m) b c = (jm_bd (s_Z_in s1 b.toInt64 0 59) (fun v2 => (if v2 = 0 then (some ((-1), s1)) else jm_bd (s_Z_in s1 c.toInt64 b.toInt64 59) (fun v3 => (if v3 = 0 then (some ((-1), s1)) else jm_sti s1 69 9 0 (nI m) (fun s4 => jm_sti s4 69 9 1 b (fun s5 => jm_sti s5 69 9 2 c (fun s6 => (some (0, s6)))))))))) := fun s1 g1 g2 => by
      unfold s_Z_ship
      rw [if_neg (nI_pos (by omega)), show (1 : Int32) = nI 1 from rfl, zk s1 g1 g2, e_bd, if_pos h1]
    have bad : ∀ r : Option (Int32 × jm_M), r = some (-1, s) → s_Z_ship s (nI m) b c = some (-1, s) → ∃ r' s1 s2, r = some (r', s1) ∧ s_Z_ship s1 (nI m) b c = some (r', s2) ∧ ∃ hd' sm', hd' < 1024 ∧ XS s2 15 hd' sm' ∧ ZS s2 0 hd' sm' ∧ (s2.1 1 9 = 0 ∨ (s1 = s ∧ hd' = hd ∧ sm' = sm)) := fun r hr hzz => ⟨_, s, s, hr, hzz, hd, sm, hhd, xs, zs, Or.inr ⟨rfl, rfl, rfl⟩⟩
    by_cases hb : 0 ≤ b.toInt ∧ b.toInt ≤ 59
    · by_cases hc : 0 ≤ c.toInt ∧ c.toInt ≤ 59
      · rw [z_in1 0 59 hb.1 hb.2, z_in1 0 59 hc.1 hc.2]
        by_cases hbc : b.toInt ≤ c.toInt
        · obtain ⟨i, rfl, hi, hi2⟩ := n_of hb.1
          obtain ⟨j, rfl, hj, hj2⟩ := n_of hc.1
          obtain ⟨w, hw, hwb⟩ := mf_bits (a := i) (b := j) (by omega) (by omega) (jm_si s 15 10 (nI m))
          simp only [e_bd, e10, if_false, e_ev]
          rw [if_pos (nI_le (by omega) (by omega)), hw, e_bd]
          refine ⟨_, _, jm_si (jm_si (jm_si (jm_si (jm_sl (jm_si s 15 10 (nI m)) 15 11 w) 1 9 0) 69 0 (nI m)) 69 1 (nI i)) 69 2 (nI j), rfl, ?_, m, fun t => decide (i ≤ t ∧ t ≤ j), hm, ?_, ?_, ?_⟩
          · rw [zb _ (by funext q; rw [e_sio (by omega)]; show (jm_si s 15 10 (nI m)).1 61 q = _; rw [e_sio (by omega)]) (by funext q; rw [e_sio (by omega)]; show (jm_si s 15 10 (nI m)).1 62 q = _; rw [e_sio (by omega)])]
            rw [z_in1 0 59 hb.1 hb.2, e_bd, if_neg e10, z_inL, Int32.toInt_toInt64, Int32.toInt_toInt64, show (59 : Int64).toInt = 59 by decide, if_pos ⟨hbc, hc.2⟩, e_bd, if_neg e10]
            rw [e_stiq (j := 0) 0 rfl (by decide) (by decide), e_stiq (j := 1) 1 rfl (by decide) (by decide), e_stiq (j := 2) 2 rfl (by decide) (by decide)]
          · refine ⟨?_, fun t ht => ?_⟩
            · rw [e_sio (by omega), e_sio (by omega), e_sio (by omega), e_sio (by omega)]
              show (jm_si s 15 10 (nI m)).1 15 10 = _
              rw [e_si]
            · show b64 ((jm_sl (jm_si s 15 10 (nI m)) 15 11 w).2 15 11) t = _
              rw [e_sl]
              exact hwb t (by omega)
          · refine ⟨?_, i, j, ?_, ?_, by omega, by omega, fun _ t _ => rfl⟩
            · rw [show 3 * 0 = 0 by omega, e_sio (by omega), e_sio (by omega), e_si]
            · rw [show 3 * 0 + 1 = 1 by omega, e_sio (by omega), e_si]
            · rw [show 3 * 0 + 2 = 2 by omega, e_si]
          · left
            rw [e_sio (by omega), e_sio (by omega), e_sio (by omega), e_si]
        · refine bad _ ?_ ?_
          · simp only [e_bd, e10, if_false]
            rw [if_neg (fun z => by rw [fa_le] at z; omega)]
            rfl
          · rw [zb s rfl rfl, z_in1 0 59 hb.1 hb.2, e_bd, if_neg e10, z_inL, Int32.toInt_toInt64, Int32.toInt_toInt64, if_neg (by omega), e_bd, if_pos rfl]
      · refine bad _ ?_ ?_
        · rw [z_in1 0 59 hb.1 hb.2, z_in0 0 59 hc]
          rfl
        · rw [zb s rfl rfl, z_in1 0 59 hb.1 hb.2, e_bd, if_neg e10, z_inL, Int32.toInt_toInt64, Int32.toInt_toInt64, show (59 : Int64).toInt = 59 by decide, if_neg (by omega), e_bd, if_pos rfl]
    · refine bad _ ?_ ?_
      · rw [z_in0 0 59 hb]
        rfl
      · rw [zb s rfl rfl, z_in0 0 59 hb]
        rfl
  · rw [show (-1 : Int32) = -nI 1 from rfl] at h1
    rw [if_neg h1]
    refine ⟨_, s, s, rfl, ?_, hd, sm, hhd, xs, zs, Or.inr ⟨rfl, rfl, rfl⟩⟩
    unfold s_Z_ship
    by_cases ha : a < 0
    · rw [if_pos ha]
      rfl
    · rw [if_neg ha, show (1 : Int32) = nI 1 from rfl, zk s rfl rfl, e_bd, if_neg h1]
/-! count -/
def anB (p : Nat → Bool) : Nat → Bool
  | 0 => false
  | k + 1 => anB p k || p k
theorem anB_iff (p : Nat → Bool) : ∀ k, anB p k = true ↔ ∃ j, j < k ∧ p j = true
  | 0 => by simp [anB]
  | k + 1 => by
    rw [anB, Bool.or_eq_true, anB_iff p k]
    constructor
    · rintro (⟨j, h1, h2⟩ | h)
      · exact ⟨j, by omega, h2⟩
      · exact ⟨k, by omega, h⟩
    · rintro ⟨j, h1, h2⟩
      by_cases hj : j = k
      · subst hj; exact Or.inr h2
      · exact Or.inl ⟨j, by omega, h2⟩
def oI (b : Bool) : Int32 := if b then 1 else 0
theorem oI_t : oI true = 1 := rfl
theorem oI_f : oI false = 0 := rfl
def lzB (T : tN) (h : Nat) : Bool := anB (fun t => tz T h t) 60
theorem ix5 (j d : Nat) : 5 * nI j + nI d = nI (5 * j + d) := by rw [show (5 : Int32) = nI 5 from rfl, pk_mul, nI_add]
theorem ix50 (j : Nat) : 5 * nI j = nI (5 * j) := by rw [show (5 : Int32) = nI 5 from rfl, pk_mul]
theorem z_gb (b : Bool) : jm_gb (oI b) (some (oI b)) = some (oI b) := by cases b <;> rfl
theorem z_isLiar {s : jm_M} {T : tN} {c : Nat} {E : tE} (hE : ZE s 0 c E) (hs : sE T c E) {h : Nat} (hh : h < 10) : s_Z_isLiar s (nI h) = some (oI (lzB T h)) := by
  obtain ⟨hc, hc2, hj⟩ := hE
  have hany : lzB T h = anB (fun j => decide (E.1 j = 108) && decide (E.2.1 j = h)) c := by
    apply Bool.eq_iff_iff.mpr
    rw [lzB, anB_iff, anB_iff]
    constructor
    · rintro ⟨t, ht, htz⟩
      obtain ⟨j, h1, h2, h3, -⟩ := (hs.2.2.1 h t).mp htz
      exact ⟨j, h1, by simp [h2, h3]⟩
    · rintro ⟨j, h1, h2⟩
      simp at h2
      have := hs.1 j h1
      exact ⟨E.2.2.2.1 j, by omega, (hs.2.2.1 h _).mpr ⟨j, h1, h2.1, h2.2, Nat.le_refl _, this.2.2.2.1⟩⟩
  rw [hany]
  unfold s_Z_isLiar
  refine lp_inv (fun n k (acc : Int32) => s_Z_isLiar_L4 s n (nI h) acc k) c (fun i => oI (anB (fun j => decide (E.1 j = 108) && decide (E.2.1 j = h)) i)) _ (fun n => ?_) (fun n i hi => ?_) c 5000 0 (by omega) (by omega)
  · show s_Z_isLiar_L4 s (n + 1) (nI h) (oI _) (nI c) = _
    rw [s_Z_isLiar_L4, e_ldiq (j := 0) 0 rfl (by decide) (by decide), hc, if_pos (nI_le (Nat.le_refl _) (by omega)), z_gb]
  · show s_Z_isLiar_L4 s (n + 1) (nI h) (oI _) (nI i) = s_Z_isLiar_L4 s n (nI h) (oI _) (nI (i + 1))
    have g := hj i hi
    have w := hs.1 i hi
    simp only [show 215 * 0 + 5 * i = 5 * i by omega] at g
    rw [s_Z_isLiar_L4, e_ldiq (j := 0) 0 rfl (by decide) (by decide), hc, if_neg (nI_ge hi (by omega)), anB]
    cases hb : anB (fun j => decide (E.1 j = 108) && decide (E.2.1 j = h)) i with
    | true =>
      rw [oI_t, if_neg e10, nI_1, Bool.true_or, oI_t]
    | false =>
      rw [oI_f, if_pos rfl, ix50, e_ldi (by omega) (by decide), g.1, Bool.false_or]
      by_cases h1 : E.1 i = 108
      · rw [if_pos (by rw [h1]; rfl), show (1 : Int32) = nI 1 from rfl, nI_add, e_ldi (by omega) (by decide), g.2.1]
        by_cases h2 : E.2.1 i = h
        · rw [if_pos (by rw [h2]), nI_add, show (decide (E.1 i = 108) && decide (E.2.1 i = h)) = true by simp [h1, h2]]
          rfl
        · rw [if_neg (fun z => h2 ((nI_eq (by omega) (by omega)).mp z)), nI_add, show (decide (E.1 i = 108) && decide (E.2.1 i = h)) = false by simp [h2]]
          rfl
      · rw [if_neg (fun z => h1 ((nI_eq (by omega) (by omega)).mp (z.trans (show (108 : Int32) = nI 108 from rfl)))), nI_1, show (decide (E.1 i = 108) && decide (E.2.1 i = h)) = false by simp [h1]]
        rfl
