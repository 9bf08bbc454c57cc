/-! numbers in the text -/
def dgt (f : Nat → Nat) (len p : Nat) : Bool := decide (p < len) && (decide (48 ≤ f p) && decide (f p ≤ 57))
theorem dgt_iff {f : Nat → Nat} {len p : Nat} : dgt f len p = true ↔ p < len ∧ 48 ≤ f p ∧ f p ≤ 57 := by
  unfold dgt
  simp only [Bool.and_eq_true, decide_eq_true_eq]
def rdN (f : Nat → Nat) (len p : Nat) : Option (Nat × Nat) := if dgt f len p then (if dgt f len (p + 1) then some (10 * (f p - 48) + (f (p + 1) - 48), p + 2) else some (f p - 48, p + 1)) else none
def ptv (v : Nat → Nat) (i x : Nat) : Nat → Nat := fun j => if j = i then x else v j
def rdI (f : Nat → Nat) (len : Nat) : Nat → Nat → Nat → (Nat → Nat) → Option (Nat × (Nat → Nat) × Nat)
  | 0, _, _, _ => none
  | k + 1, i, p, v => match rdN f len p with
    | none => none
    | some (x, q) => if q < len ∧ f q = 59 then some (i + 1, ptv v i x, q + 1) else if q < len ∧ f q = 44 then rdI f len k (i + 1) (q + 1) (ptv v i x) else none
theorem rdN_bd {f : Nat → Nat} {len p x q : Nat} (h : rdN f len p = some (x, q)) : x < 100 ∧ p + 1 ≤ q ∧ q ≤ len := by
  unfold rdN at h
  by_cases h1 : dgt f len p = true
  · rw [if_pos h1] at h
    have g1 := dgt_iff.mp h1
    by_cases h2 : dgt f len (p + 1) = true
    · rw [if_pos h2] at h
      have g2 := dgt_iff.mp h2
      cases h
      omega
    · rw [if_neg h2] at h
      cases h
      omega
  · rw [if_neg h1] at h
    cases h
theorem rdI_bd {f : Nat → Nat} {len : Nat} : ∀ (k i p : Nat) (v : Nat → Nat) (c : Nat) (w : Nat → Nat) (q : Nat), (∀ j, j < i → v j < 100) → rdI f len k i p v = some (c, w, q) → i + 1 ≤ c ∧ c ≤ i + k ∧ p + 2 * (c - i) ≤ q ∧ q ≤ len ∧ (∀ j, j < c → w j < 100) ∧ ∀ j, j < i → w j = v j
  | 0, i, p, v, c, w, q, _, h => by cases h
  | k + 1, i, p, v, c, w, q, hv, h => by
    rw [rdI] at h
    cases hr : rdN f len p with
    | none => rw [hr] at h; cases h
    | some xq =>
      obtain ⟨x, u⟩ := xq
      rw [hr] at h
      have b := rdN_bd hr
      have hv2 : ∀ j, j < i + 1 → ptv v i x j < 100 := fun j hj => by
        unfold ptv
        by_cases e : j = i
        · rw [if_pos e]; exact b.1
        · rw [if_neg e]; exact hv j (by omega)
      have hk : ∀ j, j < i → ptv v i x j = v j := fun j hj => by unfold ptv; rw [if_neg (by omega)]
      simp only at h
      by_cases h1 : u < len ∧ f u = 59
      · rw [if_pos h1] at h
        cases h
        refine ⟨Nat.le_refl _, by omega, by omega, by omega, hv2, hk⟩
      · rw [if_neg h1] at h
        by_cases h2 : u < len ∧ f u = 44
        · rw [if_pos h2] at h
          obtain ⟨a1, a2, a3, a4, a5, a6⟩ := rdI_bd k (i + 1) (u + 1) (ptv v i x) c w q hv2 h
          refine ⟨by omega, by omega, by omega, a4, a5, fun j hj => ?_⟩
          rw [a6 j (by omega), hk j hj]
        · rw [if_neg h2] at h
          cases h
theorem txb_i {b : Nat} (hb : b < 256) : (tx_b b).toInt = if b < 128 then (b : Int) else (b : Int) - 256 := by
  have : ∀ j : Fin 256, (tx_b j.val).toInt = if j.val < 128 then (j.val : Int) else (j.val : Int) - 256 := by decide +kernel
  exact this ⟨b, hb⟩
theorem txb_eq {b k : Nat} (hb : b < 256) (hk : k < 128) : tx_b b = nI k ↔ b = k := by
  rw [fa_eq, txb_i hb, nI_toInt (by omega)]
  split <;> omega
/-- the byte that the reader sees -/
def bat (f : Nat → Nat) (len p : Nat) : Int32 := if p < len then tx_b (f p) else -1
theorem x_byte {s : jm_M} {len p : Nat} {f : Nat → Nat} (hl : len ≤ 300) (ht : ∀ i, i < len → f i < 256 ∧ s.1 2 i = tx_b (f i)) (hp : s.1 3 2 = nI p) (hp2 : p ≤ 400) : s_Re_byteAt_3_2 s (nI len) = some (bat f len p) := by
  unfold s_Re_byteAt_3_2 bat
  rw [hp, if_neg (nI_pos (by omega))]
  by_cases h : p < len
  · rw [if_neg (nI_ge h (by omega)), if_neg (fun z => by rw [i_ge 300, nI_toInt (by omega)] at z; omega), e_ldi (by omega) (by decide), (ht p h).2, if_pos h]
  · rw [if_pos (nI_le (by omega) (by omega)), if_neg h]
theorem bat_d {f : Nat → Nat} {len p : Nat} (hf : ∀ i, i < len → f i < 256) : (dgt f len p = true → bat f len p - 48 = nI (f p - 48)) ∧ (dgt f len p = false → bat f len p - 48 < 0 ∨ (¬ bat f len p - 48 < 0 ∧ ¬ bat f len p - 48 ≤ 9)) := by
  have key : (bat f len p - 48).toInt = (bat f len p).toInt - 48 ∧ (bat f len p).toInt = if p < len then (if f p < 128 then (f p : Int) else (f p : Int) - 256) else -1 := by
    have h2 : (bat f len p).toInt = if p < len then (if f p < 128 then (f p : Int) else (f p : Int) - 256) else -1 := by
      unfold bat
      by_cases h : p < len
      · rw [if_pos h, if_pos h, txb_i (hf p h)]
      · rw [if_neg h, if_neg h]; decide
    refine ⟨?_, h2⟩
    have h48 : (48 : Int32).toInt = 48 := by decide
    have rg : -256 ≤ (bat f len p).toInt ∧ (bat f len p).toInt ≤ 256 := by
      rw [h2]
      by_cases h : p < len
      · have := hf p h
        rw [if_pos h]
        split <;> omega
      · rw [if_neg h]; omega
    rw [fb_subI (by rw [h48]; omega) (by rw [h48]; omega), h48]
  constructor
  · intro hd
    obtain ⟨h1, h2, h3⟩ := dgt_iff.mp hd
    rw [fa_eq, key.1, key.2, if_pos h1, if_pos (by omega), nI_toInt (by omega)]
    omega
  · intro hd
    rw [i_lt 0, i_le 9, key.1, key.2]
    have hn : ¬ (p < len ∧ 48 ≤ f p ∧ f p ≤ 57) := fun h => by rw [dgt_iff.mpr h] at hd; cases hd
    by_cases h : p < len
    · have := hf p h
      rw [if_pos h]
      split <;> omega
    · rw [if_neg h]; omega
theorem bat_m {f : Nat → Nat} {len p k : Nat} (hf : ∀ i, i < len → f i < 256) (hk : k < 128) : bat f len p = nI k ↔ p < len ∧ f p = k := by
  unfold bat
  by_cases h : p < len
  · rw [if_pos h, txb_eq (hf p h) hk]; simp [h]
  · rw [if_neg h]
    constructor
    · intro z
      rw [fa_eq, nI_toInt (by omega), show (-1 : Int32).toInt = -1 by decide] at z
      omega
    · intro z; omega
def tX (s : jm_M) (len : Nat) (f : Nat → Nat) : Prop := len ≤ 300 ∧ ∀ i, i < len → f i < 256 ∧ s.1 2 i = tx_b (f i)
theorem tX_same {s s' : jm_M} {len : Nat} {f : Nat → Nat} (h : tX s len f) (e : ∀ i, s'.1 2 i = s.1 2 i) : tX s' len f := ⟨h.1, fun i hi => by rw [e i]; exact h.2 i hi⟩
theorem x_number {s : jm_M} {len p : Nat} {f : Nat → Nat} (ht : tX s len f) (hp : s.1 3 2 = nI p) (hp2 : p ≤ 390) : ∃ s', s_Re_readNumber_3_2 s (nI len) = some ((match rdN f len p with | none => -1 | some (x, _) => nI x), s') ∧ (∀ c k, ¬ (c = 3 ∧ k = 2) → s'.1 c k = s.1 c k) ∧ s'.1 3 2 = (match rdN f len p with | none => nI p | some (_, q) => nI q) := by
  have hf : ∀ i, i < len → f i < 256 := fun i hi => (ht.2 i hi).1
  unfold s_Re_readNumber_3_2
  rw [x_byte ht.1 ht.2 hp (by omega), e_bd, e_vi]
  obtain ⟨d1, d2⟩ := bat_d (p := p) hf
  unfold rdN
  cases hd : dgt f len p with
  | false =>
    refine ⟨s, ?_, fun _ _ _ => rfl, hp⟩
    rcases d2 hd with h | ⟨h1, h2⟩
    · rw [if_pos h]; rfl
    · rw [if_neg h1, if_neg h2]; rfl
  | true =>
    have g1 := dgt_iff.mp hd
    rw [d1 hd, if_neg (nI_pos (by omega)), if_pos (by rw [i_le 9, nI_toInt (by omega)]; omega), e_ev, hp, nI_1]
    have hp3 : (jm_si s 3 2 (nI (p + 1))).1 3 2 = nI (p + 1) := e_si
    rw [x_byte (s := jm_si s 3 2 (nI (p + 1))) ht.1 (fun i hi => ⟨hf i hi, by rw [e_sio (by omega)]; exact (ht.2 i hi).2⟩) hp3 (by omega), e_bd, e_vi]
    obtain ⟨k1, k2⟩ := bat_d (p := p + 1) hf
    cases hd2 : dgt f len (p + 1) with
    | false =>
      refine ⟨jm_si s 3 2 (nI (p + 1)), ?_, fun c k hc => by rw [e_sio hc], hp3⟩
      rcases k2 hd2 with h | ⟨h1, h2⟩
      · rw [if_pos h]; rfl
      · rw [if_neg h1, if_neg h2]; rfl
    | true =>
      have g2 := dgt_iff.mp hd2
      rw [k1 hd2, if_neg (nI_pos (by omega)), if_pos (by rw [i_le 9, nI_toInt (by omega)]; omega), e_ev, hp3, nI_1, ix_m 10 _ _ 10 rfl]
      exact ⟨_, rfl, fun c k hc => by rw [e_sio hc, e_sio hc], e_si⟩
/-- what an item's numbers give to the class -/
def xrR (f : Nat → Nat) (len k i p : Nat) (v : Nat → Nat) (s' : jm_M) (r : Int32) : Prop := match rdI f len k i p v with
  | none => r = 0
  | some (c, w, q) => r = 1 ∧ s'.1 3 1 = nI c ∧ s'.1 3 2 = nI q ∧ ∀ j, j < c → s'.1 4 j = nI (w j)
theorem x_item27 {len : Nat} {f : Nat → Nat} : ∀ (k n i p : Nat) (v : Nat → Nat) (s : jm_M), i + k = 4 → k < n → tX s len f → s.1 3 2 = nI p → p ≤ len + 1 → (∀ j, j < i → s.1 4 j = nI (v j)) → ∃ r s', s_Re_readItem_3_2_L27 n (nI len) (nI i) s = some (r, s') ∧ xrR f len k i p v s' r ∧ s'.1 3 3 = s.1 3 3 := by
  intro k
  induction k with
  | zero =>
    intro n i p v s hi hn ht hp hp2 hv
    obtain ⟨n, rfl⟩ : ∃ q, n = q + 1 := ⟨n - 1, by omega⟩
    rw [s_Re_readItem_3_2_L27, if_pos (by rw [i_ge 4, nI_toInt (by omega)]; omega)]
    exact ⟨0, s, rfl, rfl, rfl⟩
  | succ k ih =>
    intro n i p v s hi hn ht hp hp2 hv
    obtain ⟨n, rfl⟩ : ∃ q, n = q + 1 := ⟨n - 1, by omega⟩
    have hl := ht.1
    have hf : ∀ i, i < len → f i < 256 := fun i hi => (ht.2 i hi).1
    obtain ⟨s1, a1, a2, a3⟩ := x_number ht hp (by omega)
    rw [s_Re_readItem_3_2_L27, if_neg (fun z => by rw [i_ge 4, nI_toInt (by omega)] at z; omega), a1, e_b2]
    unfold xrR
    rw [rdI]
    cases hr : rdN f len p with
    | none =>
      rw [if_neg (by decide)]
      exact ⟨0, s1, rfl, rfl, a2 3 3 (by omega)⟩
    | some xq =>
      obtain ⟨x, q⟩ := xq
      have b := rdN_bd hr
      rw [hr] at a3
      simp only at a3 ⊢
      rw [if_pos (by rw [i_ge 0, nI_toInt (by omega)]; omega), e_sti (by omega) (by decide), e_ev, nI_1]
      obtain ⟨s3, hs3⟩ : ∃ s3, s3 = jm_si (jm_si s1 4 i (nI x)) 3 1 (nI (i + 1)) := ⟨_, rfl⟩
      rw [← hs3]
      have h32 : s3.1 3 2 = nI q := by rw [hs3, e_sio (by omega), e_sio (by omega)]; exact a3
      have t3 : tX s3 len f := tX_same ht (fun i => by rw [hs3, e_sio (by omega), e_sio (by omega), a2 2 i (by omega)])
      rw [x_byte t3.1 t3.2 h32 (by omega), e_bd, h32, e_ev, nI_1]
      obtain ⟨s4, hs4⟩ : ∃ s4, s4 = jm_si s3 3 2 (nI (q + 1)) := ⟨_, rfl⟩
      rw [← hs4]
      have q2 : s4.1 3 2 = nI (q + 1) := by rw [hs4, e_si]
      have q1 : s4.1 3 1 = nI (i + 1) := by rw [hs4, e_sio (by omega), hs3, e_si]
      have q3 : s4.1 3 3 = s.1 3 3 := by rw [hs4, e_sio (by omega), hs3, e_sio (by omega), e_sio (by omega), a2 3 3 (by omega)]
      have qv : ∀ j, j < i + 1 → s4.1 4 j = nI (ptv v i x j) := fun j hj => by
        unfold ptv
        rw [hs4, e_sio (by omega), hs3, e_sio (by omega)]
        by_cases e : j = i
        · rw [e, e_si, if_pos rfl]
        · rw [e_sio (by omega), a2 4 j (by omega), if_neg e]; exact hv j (by omega)
      by_cases h59 : q < len ∧ f q = 59
      · rw [if_pos h59, if_pos (show bat f len q = 59 from (bat_m hf (k := 59) (by decide)).mpr h59)]
        exact ⟨1, s4, rfl, ⟨rfl, q1, q2, qv⟩, q3⟩
      · rw [if_neg h59, if_neg (show ¬ bat f len q = 59 from fun z => h59 ((bat_m hf (k := 59) (by decide)).mp z))]
        by_cases h44 : q < len ∧ f q = 44
        · rw [if_pos h44, if_pos (show bat f len q = 44 from (bat_m hf (k := 44) (by decide)).mpr h44)]
          obtain ⟨r, s', h1, h2, h3⟩ := ih n (i + 1) (q + 1) (ptv v i x) s4 (by omega) (by omega) (tX_same t3 (fun i => by rw [hs4, e_sio (by omega)])) q2 (by omega) qv
          exact ⟨r, s', h1, h2, h3.trans q3⟩
        · rw [if_neg h44, if_neg (show ¬ bat f len q = 44 from fun z => h44 ((bat_m hf (k := 44) (by decide)).mp z))]
          exact ⟨0, s4, rfl, rfl, q3⟩
theorem x_item {s : jm_M} {len p : Nat} {f : Nat → Nat} (ht : tX s len f) (hp : s.1 3 2 = nI p) (hp2 : p < len) : ∃ r s', s_Re_readItem_3_2 s (nI len) = some (r, s') ∧ xrR f len 4 0 (p + 1) (fun _ => 0) s' r ∧ s'.1 3 3 = tx_b (f p) ∧ (∀ c k, c ≠ 3 → c ≠ 4 → s'.1 c k = s.1 c k) ∧ (∀ c k, c ≠ 3 → c ≠ 4 → s'.2 c k = s.2 c k) ∧ s'.1 3 4 = s.1 3 4 ∧ s'.1 3 5 = s.1 3 5 ∧ s'.1 3 6 = s.1 3 6 := by
  have hl := ht.1
  unfold s_Re_readItem_3_2
  rw [x_byte ht.1 ht.2 hp (by omega), e_bd, e_ev, e_ev, e_ev, e_sio (by omega), hp, nI_1]
  obtain ⟨s1, hs1⟩ : ∃ s1, s1 = jm_si (jm_si (jm_si s 3 3 (bat f len p)) 3 2 (nI (p + 1))) 3 1 0 := ⟨_, rfl⟩
  rw [← hs1]
  obtain ⟨r, s', h1, h2, h33⟩ := x_item27 4 5000 0 (p + 1) (fun _ => 0) s1 rfl (by decide) (tX_same ht (fun i => by rw [hs1, e_sio (by omega), e_sio (by omega), e_sio (by omega)])) (by rw [hs1, e_sio (by omega), e_si]) (by omega) (fun j hj => by omega)
  have fr := s_Re_readItem_3_2_L27_fr 5000 (nI len) 0 s1 _ h1
  refine ⟨r, s', h1, h2, ?_, fun c k h3 h4 => ?_, fun c k h3 h4 => ?_, ?_, ?_, ?_⟩
  · rw [h33, hs1, e_sio (by omega), e_sio (by omega), e_si, bat, if_pos hp2]
  · rw [(fr c k (by simp; omega) (by simp; omega)).1, hs1, e_sio (by omega), e_sio (by omega), e_sio (by omega)]
  · rw [(fr c k (by simp; omega) (by simp; omega)).2, hs1]; rfl
  · rw [(fr 3 4 (by decide) (by decide)).1, hs1, e_sio (by omega), e_sio (by omega), e_sio (by omega)]
  · rw [(fr 3 5 (by decide) (by decide)).1, hs1, e_sio (by omega), e_sio (by omega), e_sio (by omega)]
  · rw [(fr 3 6 (by decide) (by decide)).1, hs1, e_sio (by omega), e_sio (by omega), e_sio (by omega)]
