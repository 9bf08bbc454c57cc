/-! loops by a closed form; sets of hills as numbers -/
theorem e_ldiq {α : Type} {s : jm_M} {i len : Nat} {j : Int32} {f : Int32 → Option α} (k : Nat) (hj : j = nI k) (h : k < len) (hl : len < 2147483648) : jm_ldi s i len j f = f (s.1 i k) := by rw [hj, e_ldi h hl]
theorem e_stiq {α : Type} {s : jm_M} {i len : Nat} {j v : Int32} {f : jm_M → Option α} (k : Nat) (hj : j = nI k) (h : k < len) (hl : len < 2147483648) : jm_sti s i len j v f = f (jm_si s i k v) := by rw [hj, e_sti h hl]
theorem lp_inv {β S : Type} (f : Nat → Int32 → S → β) (N : Nat) (val : Nat → S) (r : β) (hend : ∀ n, f (n + 1) (nI N) (val N) = r) (hstep : ∀ n i, i < N → f (n + 1) (nI i) (val i) = f n (nI (i + 1)) (val (i + 1))) : ∀ (k n i : Nat), i + k = N → k < n → f n (nI i) (val i) = r := by
  intro k
  induction k with
  | zero =>
    intro n i hi hn
    obtain ⟨n, rfl⟩ : ∃ m, n = m + 1 := ⟨n - 1, by omega⟩
    rw [show i = N by omega]
    exact hend n
  | succ k ih =>
    intro n i hi hn
    obtain ⟨n, rfl⟩ : ∃ m, n = m + 1 := ⟨n - 1, by omega⟩
    rw [hstep n i (by omega)]
    exact ih n (i + 1) (by omega) (by omega)
def sOf (p : Nat → Bool) : Nat → Nat
  | 0 => 0
  | k + 1 => sOf p k ||| (if p k then 2 ^ k else 0)
theorem sOf_bit (p : Nat → Bool) : ∀ k i, (sOf p k).testBit i = (decide (i < k) && p i)
  | 0, i => by simp [sOf]
  | k + 1, i => by
    rw [sOf, Nat.testBit_or, sOf_bit p k i]
    by_cases hp : p k = true
    · rw [if_pos hp, Nat.testBit_two_pow]
      by_cases hik : k = i
      · subst hik
        simp [hp]
      · have : (i < k + 1) = (i < k) := by apply propext; omega
        simp [hik, this]
    · rw [if_neg hp, Nat.zero_testBit]
      by_cases hik : k = i
      · subst hik
        simp [hp]
      · have : (i < k + 1) = (i < k) := by apply propext; omega
        simp [this]
theorem sOf_lt (p : Nat → Bool) (k : Nat) : sOf p k < 2 ^ k := by
  apply Nat.lt_pow_two_of_testBit
  intro i hi
  rw [sOf_bit]
  simp
  omega
theorem sOf_cong {p q : Nat → Bool} {k : Nat} (h : ∀ i, i < k → p i = q i) : sOf p k = sOf q k := by
  apply Nat.eq_of_testBit_eq
  intro i
  rw [sOf_bit, sOf_bit]
  by_cases hi : i < k
  · rw [h i hi]
  · simp [hi]
theorem sOf_up {p : Nat → Bool} {k m : Nat} (h : k ≤ m) (hp : ∀ i, k ≤ i → i < m → p i = false) : sOf p m = sOf p k := by
  apply Nat.eq_of_testBit_eq
  intro i
  rw [sOf_bit, sOf_bit]
  by_cases hi : i < k
  · simp [hi, show i < m by omega]
  · by_cases hm : i < m
    · simp [hi, hp i (by omega) hm]
    · simp [hi, hm]
theorem p2 {h : Nat} (hh : h < 31) : (1 : Int32) <<< (nI h &&& 31) = nI (2 ^ h) := by
  have : ∀ j : Fin 31, (1 : Int32) <<< (nI j.val &&& 31) = nI (2 ^ j.val) := by decide +kernel
  exact this ⟨h, hh⟩
theorem bit1 {m h : Nat} (hm : m < 2147483648) (hh : h < 31) : (nI m >>> (nI h &&& 31)) &&& 1 = if m.testBit h then 1 else 0 := by
  have hs : ∀ j : Fin 31, ((nI j.val &&& 31).toBitVec.smod 32).toNat = j.val := by decide +kernel
  rw [pk_shrN hm _ h (hs ⟨h, hh⟩), pk_andN (by have := Nat.div_le_self m (2 ^ h); omega) 1 (by decide), Nat.testBit_eq_decide_div_mod_eq]
  have h2 : m / 2 ^ h % 2 = 0 ∨ m / 2 ^ h % 2 = 1 := by omega
  rcases h2 with h2 | h2
  · rw [Nat.pow_one, h2]; rfl
  · rw [Nat.pow_one, h2]; rfl
theorem z_has (s : jm_M) {m h : Nat} (hm : m < 2147483648) (hh : h < 31) : s_Z_has s (nI m) (nI h) = some (if m.testBit h then 1 else 0) := by
  unfold s_Z_has
  rw [bit1 hm hh]
  by_cases hb : m.testBit h = true
  · rw [if_pos hb]; rfl
  · rw [if_neg hb]; rfl
/-! how many -/
def bcn (m : Nat) : Nat := fb_ct (fun i => m.testBit i) 10
theorem bcn_le (m : Nat) : bcn m ≤ 10 := fb_ct_le _ _
def bcf (a0 : Int32) : Int32 :=
  let v1 := a0 - (((a0.toUInt32 >>> ((1 : Int32).toUInt32 &&& Int32.toUInt32 31)).toInt32) &&& 1431655765)
  let v2 := (v1 &&& 858993459) + (((v1.toUInt32 >>> ((2 : Int32).toUInt32 &&& Int32.toUInt32 31)).toInt32) &&& 858993459)
  let v3 := (v2 + ((v2.toUInt32 >>> ((4 : Int32).toUInt32 &&& Int32.toUInt32 31)).toInt32)) &&& 252645135
  let v4 := v3 + ((v3.toUInt32 >>> ((8 : Int32).toUInt32 &&& Int32.toUInt32 31)).toInt32)
  let v5 := v4 + ((v4.toUInt32 >>> ((16 : Int32).toUInt32 &&& Int32.toUInt32 31)).toInt32)
  v5 &&& 63
theorem bcf_ok : ∀ j : Fin 1024, bcf (nI j.val) = nI (bcn j.val) := by decide +kernel
theorem x_bc (s : jm_M) {m : Nat} (hm : m < 1024) : s_JI_bitCount s (nI m) = some (nI (bcn m)) := by
  have h : s_JI_bitCount s (nI m) = some (bcf (nI m)) := rfl
  rw [h, bcf_ok ⟨m, hm⟩]
def zbf : Nat → Int32 → Int32 → Option Int32
  | 0, _, _ => none
  | n + 1, a, x => if x = 0 then some a else zbf n (a + 1) (x &&& (x - 1))
theorem zbf_eq (s : jm_M) : ∀ n a x, s_Z_bits_L4 s n a x = zbf n a x := by
  intro n
  induction n with
  | zero => intro a x; rfl
  | succ n ih => intro a x; rw [s_Z_bits_L4, zbf, e_vi, ih]
theorem zbf_up : ∀ n a x r, zbf n a x = some r → ∀ k, zbf (n + k) a x = some r := by
  intro n
  induction n with
  | zero => intro a x r h; cases h
  | succ n ih =>
    intro a x r h k
    rw [show n + 1 + k = (n + k) + 1 by omega, zbf]
    rw [zbf] at h
    by_cases hx : x = 0
    · rw [if_pos hx] at h ⊢; exact h
    · rw [if_neg hx] at h ⊢; exact ih _ _ _ h k
theorem zbf_ok : ∀ j : Fin 1024, zbf 11 0 (nI j.val) = some (nI (bcn j.val)) := by decide +kernel
theorem z_bits (s : jm_M) {m : Nat} (hm : m < 1024) : s_Z_bits s (nI m) = some (nI (bcn m)) := by
  unfold s_Z_bits
  rw [zbf_eq, show (5000 : Nat) = 11 + 4989 from rfl]
  exact zbf_up 11 0 _ _ (zbf_ok ⟨m, hm⟩) 4989
