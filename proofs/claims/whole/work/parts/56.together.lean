/-! the model: when enough fires are seen together -/
theorem z_ins {k4 : Int32 → Int32 → Int32 → jm_M → Option (Int32 × jm_M)} {x1 : Int32} {c o v : Nat} {R : Nat → Nat} (hc : c < 10) (ho : o < 10) (hv : v < 1000000) (hR : ∀ j, j < c → R j < 1000000) (hs : srt R c) : ∀ (k n : Nat) (s : jm_M), k < n → k ≤ c → s.1 76 o = nI v → (∀ j, j < k → s.1 77 j = nI (R j)) → (∀ j, k ≤ j → j < c → s.1 77 (j + 1) = nI (R j)) → (∀ j, k ≤ j → j < c → v ≤ R j) → ∃ s' k', s_Z_together_L85 k4 n x1 (nI c) (nI o) (nI k) s = k4 x1 (nI (c + 1)) (nI (o + 1)) s' ∧ (∀ q i, q ≠ 77 → s'.1 q i = s.1 q i) ∧ k' ≤ c ∧ (∀ j, j < c + 1 → s'.1 77 j = nI (ins R k' v j)) ∧ srt (ins R k' v) (c + 1) := by
  intro k
  have fin : ∀ (k : Nat) (s : jm_M), k ≤ c → s.1 76 o = nI v → (∀ j, j < k → s.1 77 j = nI (R j)) → (∀ j, k ≤ j → j < c → s.1 77 (j + 1) = nI (R j)) → (∀ j, k ≤ j → j < c → v ≤ R j) → (∀ j, j < k → R j ≤ v) → ∃ s' k', s_Z_together_J130 k4 x1 (nI c) (nI o) (nI k) s = k4 x1 (nI (c + 1)) (nI (o + 1)) s' ∧ (∀ q i, q ≠ 77 → s'.1 q i = s.1 q i) ∧ k' ≤ c ∧ (∀ j, j < c + 1 → s'.1 77 j = nI (ins R k' v j)) ∧ srt (ins R k' v) (c + 1) := by
    intro k s hk h76 h1 h2 h3 h4
    unfold s_Z_together_J130
    rw [e_ldi ho (by decide), e_sti (by omega) (by decide), nI_1, nI_1, h76]
    refine ⟨_, k, rfl, fun q i hq => by rw [e_sio (by omega)], hk, fun j hj => ?_, ins_srt hs hk h4 h3⟩
    unfold ins
    by_cases a : j = k
    · subst a; rw [e_si, if_neg (by omega), if_pos rfl]
    · rw [e_sio (by omega)]
      by_cases b : j < k
      · rw [if_pos b, h1 j b]
      · rw [if_neg b, if_neg a]
        have := h2 (j - 1) (by omega) (by omega)
        rw [show j - 1 + 1 = j by omega] at this
        exact this
  induction k with
  | zero =>
    intro n s hn hk h76 h1 h2 h3
    obtain ⟨n, rfl⟩ : ∃ q, n = q + 1 := ⟨n - 1, by omega⟩
    rw [s_Z_together_L85, if_pos (by decide)]
    exact fin 0 s hk h76 h1 h2 h3 (fun j hj => by omega)
  | succ k ih =>
    intro n s hn hk h76 h1 h2 h3
    obtain ⟨n, rfl⟩ : ∃ q, n = q + 1 := ⟨n - 1, by omega⟩
    have hRk := hR k (by omega)
    rw [s_Z_together_L85, if_neg (fun z => by rw [i_le 0, nI_toInt (by omega)] at z; omega), nI_pred, e_ldi (by omega) (by decide), e_ldi ho (by decide), h76, h1 k (by omega)]
    by_cases hle : R k ≤ v
    · rw [if_pos (nI_le hle (by omega))]
      exact fin (k + 1) s hk h76 h1 h2 h3 (fun j hj => Nat.le_trans (hs j k (by omega) (by omega)) hle)
    · rw [if_neg (nI_ge (by omega) (by omega)), e_ldi (by omega) (by decide), e_sti (by omega) (by decide), tx_m1, nI_pred, h1 k (by omega)]
      obtain ⟨s', k', a1, a2, a3, a4, a5⟩ := ih n (jm_si s 77 (k + 1) (nI (R k))) (by omega) (by omega) (by rw [e_sio (by omega)]; exact h76) (fun j hj => by rw [e_sio (by omega)]; exact h1 j (by omega)) (fun j hj1 hj2 => by
        by_cases hjk : j = k
        · subst hjk; rw [e_si]
        · rw [e_sio (by omega)]; exact h2 j (by omega) hj2) (fun j hj1 hj2 => by
        by_cases hjk : j = k
        · subst hjk; omega
        · exact h3 j (by omega) hj2)
      exact ⟨s', k', a1, fun q i hq => by rw [a2 q i hq, e_sio (by omega)], a3, a4, a5⟩
theorem g4 {α : Type} (P Q R S : Prop) [Decidable P] [Decidable Q] [Decidable R] [Decidable S] (J : Int32 → α) : (if P then (if Q then J 1 else (if R then (if S then J 1 else J 0) else J 0)) else (if R then (if S then J 1 else J 0) else J 0)) = J (oI (decide (P ∧ Q) || decide (R ∧ S))) := by
  by_cases a : P <;> by_cases b : Q <;> by_cases c : R <;> by_cases d : S <;> simp only [a, b, c, d, if_true, if_false, and_self, and_true, and_false, true_and, false_and, decide_true, decide_false, Bool.or_true, Bool.or_false, Bool.true_or, Bool.or_self, oI_t, oI_f]
theorem z_J51 {s : jm_M} {h o : Nat} (k4 : Int32 → Int32 → Int32 → jm_M → Option (Int32 × jm_M)) (x2 : Int32) : (if nI h = (s.1 59 25) then (if nI o = (s.1 59 26) then s_Z_together_J51 k4 (nI h) x2 (nI o) 1 s else s_Z_together_J30 k4 (nI h) x2 (nI o) s) else s_Z_together_J30 k4 (nI h) x2 (nI o) s) = s_Z_together_J51 k4 (nI h) x2 (nI o) (oI (gB s h o)) s := g4 _ _ _ _ (fun y => s_Z_together_J51 k4 (nI h) x2 (nI o) y s)
theorem z_hasO (s : jm_M) {m h : Nat} (hm : m < 2147483648) (hh : h < 31) : s_Z_has s (nI m) (nI h) = some (oI (m.testBit h)) := z_has s hm hh
def zS (s : jm_M) (T : tN) (z : Nat → Nat) : Prop := ∀ o, o < tn T → s.1 76 o = nI (z o) ∧ z o ≤ 1000000
def seC (C : tC) (z : Nat → Nat) (h x o : Nat) : Bool := (cs C h).testBit o && decide (z o ≤ x)
theorem z_tog4 {T : tN} {C : tC} (wt : wT T) {z : Nat → Nat} {h : Nat} (hh : h < tn T) (hd : 1 ≤ cd C h) (hd2 : cd C h ≤ 9) : ∀ (k n i c : Nat) (R : Nat → Nat) (s : jm_M), i + k = tn T → k < n → ZC s T C → zS s T z → c ≤ i → srt R c → (∀ j, j < c → s.1 77 j = nI (R j) ∧ R j < 1000000) → (∀ x, x < 1000000 → fb_ct (fun j => decide (R j ≤ x)) c = fb_ct (seC C z h x) i) → ∃ v s', s_Z_together_L4 n (nI h) (nI c) (nI i) s = some (nI v, s') ∧ v ≤ 1000000 ∧ ∀ x, x < 1000000 → (v ≤ x ↔ cd C h ≤ fb_ct (seC C z h x) (tn T)) := by
  have w1 := wt.1
  intro k
  induction k with
  | zero =>
    intro n i c R s hi hn zc hz hc hs hR hx
    obtain ⟨n, rfl⟩ : ∃ q, n = q + 1 := ⟨n - 1, by omega⟩
    rw [s_Z_together_L4, e_ldiq (j := 0) 0 rfl (by decide) (by decide), zc.1, if_pos (nI_le (by omega) (by omega)), z_needs wt zc hh, e_bd]
    rw [show i = tn T by omega] at hx
    by_cases hdc : cd C h ≤ c
    · rw [if_pos (nI_le hdc (by omega)), e_bd, show (1 : Int32) = nI 1 from rfl, pk_sub hd, e_ldi (by omega) (by decide), (hR (cd C h - 1) (by omega)).1]
      refine ⟨_, _, rfl, by have := (hR (cd C h - 1) (by omega)).2; omega, fun x hx2 => ?_⟩
      rw [← hx x hx2]
      exact srt_ct hs hd hdc
    · rw [if_neg (nI_ge (by omega) (by omega))]
      refine ⟨1000000, _, rfl, Nat.le_refl _, fun x hx2 => ?_⟩
      rw [← hx x hx2]
      have := fb_ct_le (fun j => decide (R j ≤ x)) c
      omega
  | succ k ih =>
    intro n i c R s hi hn zc hz hc hs hR hx
    obtain ⟨n, rfl⟩ : ∃ q, n = q + 1 := ⟨n - 1, by omega⟩
    have hin : i < tn T := by omega
    obtain ⟨z1, z2⟩ := hz i hin
    have hse := zc.2.1 h hh
    have hbit := zc.2.2.2.2.2.1 h i hh hin
    have htl : ts T h < 1024 := ts_lt wt (by omega)
    rw [s_Z_together_L4, e_ldiq (j := 0) 0 rfl (by decide) (by decide), zc.1, if_neg (nI_ge hin (by omega)), z_J51]
    unfold s_Z_together_J51
    rw [e_ldi (by omega) (by decide), hse.2, z_hasO s (by omega) (by omega), e_bd, nI_1]
    have keep : (∀ x, x < 1000000 → seC C z h x i = false) → ∃ v s', s_Z_together_L4 n (nI h) (nI c) (nI (i + 1)) s = some (nI v, s') ∧ v ≤ 1000000 ∧ ∀ x, x < 1000000 → (v ≤ x ↔ cd C h ≤ fb_ct (seC C z h x) (tn T)) := fun hf => ih n (i + 1) c R s (by omega) (by omega) zc hz (by omega) hs hR (fun x hx2 => by rw [fb_ct_succ, hf x hx2, hx x hx2]; rfl)
    cases hb : (ts T h).testBit i with
    | false =>
      rw [oI_f, if_pos rfl]
      exact keep (fun x _ => by unfold seC; rw [hbit, hb]; rfl)
    | true =>
      rw [oI_t, if_neg e10]
      cases hg : gB s h i with
      | true =>
        rw [oI_t, if_neg e10]
        exact keep (fun x _ => by unfold seC; rw [hbit, hb, hg]; rfl)
      | false =>
        rw [oI_f, if_pos rfl, e_ldi (by omega) (by decide), z1]
        have hcs : (cs C h).testBit i = true := by rw [hbit, hb, hg]; rfl
        by_cases hv : z i < 1000000
        · rw [if_neg (fun q => by rw [i_ge 1000000, nI_toInt (by omega)] at q; omega)]
          obtain ⟨s', k', a1, a2, a3, a4, a5⟩ := z_ins (k4 := s_Z_together_L4 n) (x1 := nI h) (c := c) (o := i) (v := z i) (R := R) (by omega) (by omega) hv (fun j hj => (hR j hj).2) hs c 5000 s (by omega) (Nat.le_refl _) z1 (fun j hj => (hR j hj).1) (fun j h1 h2 => by omega) (fun j h1 h2 => by omega)
          rw [a1]
          refine ih n (i + 1) (c + 1) (ins R k' (z i)) s' (by omega) (by omega) (ZC_same zc (fun q j hq => a2 q j (by omega))) (fun o ho => ⟨by rw [a2 76 o (by decide)]; exact (hz o ho).1, (hz o ho).2⟩) (by omega) a5 (fun j hj => ⟨a4 j hj, ?_⟩) (fun x hx2 => ?_)
          · unfold ins
            split
            · exact (hR j (by omega)).2
            · split
              · exact hv
              · exact (hR (j - 1) (by omega)).2
          · rw [ins_ct a3, fb_ct_succ, hx x hx2]
            congr 1
            unfold seC
            rw [hcs, Bool.true_and]
            by_cases hzx : z i ≤ x
            · rw [if_pos hzx, if_pos (by simp [hzx])]
            · rw [if_neg hzx, if_neg (by simp [hzx])]
        · rw [if_pos (by rw [i_ge 1000000, nI_toInt (by omega)]; omega)]
          exact keep (fun x hx2 => by unfold seC; rw [show decide (z i ≤ x) = false by simp only [decide_eq_false_iff_not]; omega, Bool.and_false])
theorem z_together {s : jm_M} {T : tN} {C : tC} (wt : wT T) {z : Nat → Nat} {h : Nat} (hh : h < tn T) (hd : 1 ≤ cd C h) (hd2 : cd C h ≤ 9) (zc : ZC s T C) (hz : zS s T z) : ∃ v s', s_Z_together s (nI h) = some (nI v, s') ∧ v ≤ 1000000 ∧ (∀ x, x < 1000000 → (v ≤ x ↔ cd C h ≤ fb_ct (seC C z h x) (tn T))) ∧ ZC s' T C ∧ zS s' T z := by
  obtain ⟨v, s', h1, h2, h3⟩ := z_tog4 wt hh hd hd2 (tn T) 5000 0 0 (fun _ => 0) s (by omega) (by have := wt.1; omega) zc hz (Nat.le_refl _) (fun i j _ hj => by omega) (fun j hj => by omega) (fun x _ => rfl)
  have hfr := s_Z_together_fr s (nI h) _ h1
  refine ⟨v, s', h1, h2, h3, ?_, fun o ho => ⟨?_, (hz o ho).2⟩⟩
  · exact ZC_same zc (fun c k hc => (hfr c k (by simp; omega) (by simp)).1)
  · rw [(hfr 76 o (by decide) (by simp)).1]; exact (hz o ho).1
