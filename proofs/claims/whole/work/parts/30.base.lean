/-! plain rows on the pure programs' words -/
theorem e_bd {α β : Type} (a : β) (f : β → Option α) : jm_bd (some a) f = f a := rfl
theorem e_b2 {α : Type} (a : Int32) (s : jm_M) (f : Int32 → jm_M → Option α) : jm_b2 (some (a, s)) f = f a s := rfl
theorem e_ev {α : Type} (x : jm_M) (f : jm_M → Option α) : jm_ev x f = f x := rfl
theorem e_vi {α : Type} (x : Int32) (f : Int32 → Option α) : jm_vi x f = f x := rfl
theorem e_vl {α : Type} (x : Int64) (f : Int64 → Option α) : jm_vl x f = f x := rfl
theorem e_inb {k len : Nat} (h : k < len) (hl : len < 2147483648) : jm_inb (nI k) len = true := by
  unfold jm_inb
  rw [nI_toInt (by omega), Bool.and_eq_true, decide_eq_true_eq, decide_eq_true_eq]
  omega
theorem e_ldi {α : Type} {s : jm_M} {i len k : Nat} {f : Int32 → Option α} (h : k < len) (hl : len < 2147483648) : jm_ldi s i len (nI k) f = f (s.1 i k) := by
  unfold jm_ldi
  rw [if_pos (e_inb h hl), nI_clamp (by omega)]
theorem e_ldl {α : Type} {s : jm_M} {i len k : Nat} {f : Int64 → Option α} (h : k < len) (hl : len < 2147483648) : jm_ldl s i len (nI k) f = f (s.2 i k) := by
  unfold jm_ldl
  rw [if_pos (e_inb h hl), nI_clamp (by omega)]
theorem e_sti {α : Type} {s : jm_M} {i len k : Nat} {v : Int32} {f : jm_M → Option α} (h : k < len) (hl : len < 2147483648) : jm_sti s i len (nI k) v f = f (jm_si s i k v) := by
  unfold jm_sti
  rw [if_pos (e_inb h hl), nI_clamp (by omega)]
theorem e_stl {α : Type} {s : jm_M} {i len k : Nat} {v : Int64} {f : jm_M → Option α} (h : k < len) (hl : len < 2147483648) : jm_stl s i len (nI k) v f = f (jm_sl s i k v) := by
  unfold jm_stl
  rw [if_pos (e_inb h hl), nI_clamp (by omega)]
theorem e_lds {α : Type} {xs : Nat → Int32} {len k : Nat} {f : Int32 → Option α} (h : k < len) (hl : len < 2147483648) : jm_lds xs len (nI k) f = f (xs k) := by
  unfold jm_lds
  rw [if_pos (e_inb h hl), nI_clamp (by omega)]
theorem e_si {s : jm_M} {i k : Nat} {v : Int32} : (jm_si s i k v).1 i k = v := by simp [jm_si]
theorem e_sio {s : jm_M} {i k j q : Nat} {v : Int32} (h : ¬ (j = i ∧ q = k)) : (jm_si s i k v).1 j q = s.1 j q := by simp only [jm_si, if_neg h]
theorem e_sl {s : jm_M} {i k : Nat} {v : Int64} : (jm_sl s i k v).2 i k = v := by simp [jm_sl]
theorem e_slo {s : jm_M} {i k j q : Nat} {v : Int64} (h : ¬ (j = i ∧ q = k)) : (jm_sl s i k v).2 j q = s.2 j q := by simp only [jm_sl, if_neg h]
/-! ranges -/
theorem g_lt (x y : Int64) : lg_cmp x y < 0 ↔ x.toInt < y.toInt := by
  unfold lg_cmp
  by_cases h1 : y < x
  · rw [if_pos h1]
    rw [fa_lt64] at h1
    exact ⟨fun h => absurd h (by decide), fun h => by omega⟩
  · rw [if_neg h1]
    rw [fa_lt64] at h1
    by_cases h2 : x = y
    · rw [if_pos h2]
      rw [fa_eq64] at h2
      exact ⟨fun h => absurd h (by decide), fun h => by omega⟩
    · rw [if_neg h2]
      rw [fa_eq64] at h2
      exact ⟨fun _ => by omega, fun _ => by decide⟩
theorem g_gt (x y : Int64) : 0 < lg_cmp x y ↔ y.toInt < x.toInt := by
  unfold lg_cmp
  by_cases h1 : y < x
  · rw [if_pos h1]
    rw [fa_lt64] at h1
    exact ⟨fun _ => h1, fun _ => by decide⟩
  · rw [if_neg h1]
    rw [fa_lt64] at h1
    by_cases h2 : x = y
    · rw [if_pos h2]
      exact ⟨fun h => absurd h (by decide), fun h => by omega⟩
    · rw [if_neg h2]
      exact ⟨fun h => absurd h (by decide), fun h => by omega⟩
theorem z_inL (s : jm_M) (a lo hi : Int64) : s_Z_in s a lo hi = some (if lo.toInt ≤ a.toInt ∧ a.toInt ≤ hi.toInt then 1 else 0) := by
  unfold s_Z_in
  by_cases h1 : a.toInt < lo.toInt
  · rw [if_pos ((g_lt _ _).mpr h1), if_neg (by omega)]
  · rw [if_neg (fun h => h1 ((g_lt _ _).mp h))]
    by_cases h2 : hi.toInt < a.toInt
    · rw [if_pos ((g_gt _ _).mpr h2), if_neg (by omega)]
    · rw [if_neg (fun h => h2 ((g_gt _ _).mp h)), if_pos (by omega)]
/-- 'in' of an int: inside -/
theorem z_in1 {s : jm_M} {x : Int32} {lo hi : Int64} (l h : Int) (h1 : l ≤ x.toInt) (h2 : x.toInt ≤ h) (hl : lo.toInt = l := by decide) (hh : hi.toInt = h := by decide) : s_Z_in s x.toInt64 lo hi = some 1 := by
  rw [z_inL, Int32.toInt_toInt64, if_pos (by omega)]
theorem z_in0 {s : jm_M} {x : Int32} {lo hi : Int64} (l h : Int) (h1 : ¬ (l ≤ x.toInt ∧ x.toInt ≤ h)) (hl : lo.toInt = l := by decide) (hh : hi.toInt = h := by decide) : s_Z_in s x.toInt64 lo hi = some 0 := by
  rw [z_inL, Int32.toInt_toInt64, if_neg (by omega)]
theorem i_lt {x : Int32} {c : Int32} (k : Int) (hc : c.toInt = k := by decide) : x < c ↔ x.toInt < k := by rw [fa_lt, hc]
theorem i_gt {x : Int32} {c : Int32} (k : Int) (hc : c.toInt = k := by decide) : c < x ↔ k < x.toInt := by rw [fa_lt, hc]
theorem i_le {x : Int32} {c : Int32} (k : Int) (hc : c.toInt = k := by decide) : x ≤ c ↔ x.toInt ≤ k := by rw [fa_le, hc]
theorem i_ge {x : Int32} {c : Int32} (k : Int) (hc : c.toInt = k := by decide) : c ≤ x ↔ k ≤ x.toInt := by rw [fa_le, hc]
theorem i_eq {x : Int32} {c : Int32} (k : Int) (hc : c.toInt = k := by decide) : x = c ↔ x.toInt = k := by rw [fa_eq, hc]
theorem n_of {x : Int32} (h : 0 ≤ x.toInt) : ∃ k : Nat, x = nI k ∧ (k : Int) = x.toInt ∧ k < 2147483648 := by
  have hr := fb_rng x
  refine ⟨x.toInt.toNat, ?_, by omega, by omega⟩
  rw [fa_eq, nI_toInt (by omega)]
  omega
theorem e10 : ¬ (1 : Int32) = 0 := by decide
theorem e00 : (0 : Int32) = 0 := rfl
