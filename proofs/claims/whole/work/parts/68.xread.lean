/-! nets cleared; the class reads a text -/
def T0 : tN := (0, fun _ => 0, fun _ => 0, fun _ => 1, fun _ => 1, fun _ => 99, fun _ _ => false, fun _ _ => false, fun _ _ _ => false)
theorem w_T0 : wT T0 := ⟨Nat.zero_le _, fun h hh => absurd hh (Nat.not_lt_zero h), fun h _ _ => ⟨rfl, rfl, rfl, rfl⟩, fun a b ha _ => absurd ha (Nat.not_lt_zero a), fun a b ha _ => absurd ha (Nat.not_lt_zero a), fun h t hz => Bool.noConfusion hz, fun h t hz => Bool.noConfusion hz, fun a b t hz => Bool.noConfusion hz⟩
def clH (s : jm_M) (nb h : Nat) : Prop := s.1 (nb + 1) h = -1 ∧ s.1 (nb + 2) h = 0 ∧ s.1 (nb + 3) h = 1 ∧ s.1 (nb + 4) h = 1 ∧ s.1 (nb + 5) h = 99 ∧ s.1 (nb + 6) h = -1 ∧ s.2 (nb + 7) h = 0 ∧ s.2 (nb + 8) h = 0
/-- a cleared net -/
def clN (s : jm_M) (nb : Nat) : Prop := XN s nb T0 ∧ XS s nb 0 (fun _ => false) ∧ XL s nb (fun _ => -1)
theorem b64_0 (t : Nat) : b64 0 t = false := by
  unfold b64
  show (0#64).getLsbD t = false
  simp
theorem clN_of {s : jm_M} {nb : Nat} (h0 : s.1 nb 0 = 0) (h1 : s.1 nb 10 = 0) (h2 : s.2 nb 11 = 0) (h : ∀ q, q < 10 → clH s nb q) (hm : ∀ q, q < 100 → s.2 (nb + 9) q = 0) : clN s nb := by
  refine ⟨⟨h0, fun q hq => ?_⟩, ⟨h1, fun t _ => by rw [h2, b64_0]⟩, fun q hq => (h q hq).2.2.2.2.2.1⟩
  obtain ⟨g1, g2, g3, g4, g5, g6, g7, g8⟩ := h q hq
  refine ⟨g1, g2, g3, g4, g5, fun t _ => ?_, fun t _ => ?_, fun b hb t _ => ?_⟩
  · rw [g7, b64_0]; rfl
  · rw [g8, b64_0]; rfl
  · rw [hm _ (by omega), b64_0]; rfl
theorem cl88_5 : ∀ (k n i : Nat) (s : jm_M), i + k = 100 → k < n → (∀ h, h < i → s.2 14 h = 0) → ∃ s', s_Ne_clear_5_L88 n (nI i) s = some s' ∧ (∀ h, h < 100 → s'.2 14 h = 0) ∧ s'.1 = s.1 ∧ ∀ c, c ≠ 14 → s'.2 c = s.2 c := by
  intro k
  induction k with
  | zero =>
    intro n i s hi hn h
    obtain ⟨n, rfl⟩ : ∃ q, n = q + 1 := ⟨n - 1, by omega⟩
    rw [s_Ne_clear_5_L88, if_pos (by rw [i_ge 100, nI_toInt (by omega)]; omega)]
    exact ⟨s, rfl, fun q hq => h q (by omega), rfl, fun _ _ => rfl⟩
  | succ k ih =>
    intro n i s hi hn h
    obtain ⟨n, rfl⟩ : ∃ q, n = q + 1 := ⟨n - 1, by omega⟩
    rw [s_Ne_clear_5_L88, if_neg (fun z => by rw [i_ge 100, nI_toInt (by omega)] at z; omega), e_stl (by omega) (by decide), nI_1]
    obtain ⟨s', h1, h2, h3, h4⟩ := ih n (i + 1) (jm_sl s 14 i 0) (by omega) (by omega) (fun q hq => by
      by_cases e : q = i
      · rw [e, e_sl]
      · rw [e_slo (by omega)]; exact h q (by omega))
    refine ⟨s', h1, h2, h3, fun c hc => ?_⟩
    rw [h4 c hc]
    funext q
    rw [e_slo (by omega)]
theorem cl17_5 : ∀ (k n i : Nat) (s : jm_M), i + k = 10 → k < n → (∀ h, h < i → clH s 5 h) → ∃ s', s_Ne_clear_5_L17 n (nI i) s = some s' ∧ (∀ h, h < 10 → clH s' 5 h) ∧ (∀ h, h < 100 → s'.2 14 h = 0) ∧ s'.1 5 = s.1 5 ∧ s'.2 5 = s.2 5 := by
  intro k
  induction k with
  | zero =>
    intro n i s hi hn h
    obtain ⟨n, rfl⟩ : ∃ q, n = q + 1 := ⟨n - 1, by omega⟩
    rw [s_Ne_clear_5_L17, if_pos (by rw [i_ge 10, nI_toInt (by omega)]; omega)]
    obtain ⟨s', h1, h2, h3, h4⟩ := cl88_5 100 5000 0 s rfl (by decide) (fun q hq => by omega)
    refine ⟨s', h1, fun q hq => ?_, h2, by rw [h3], h4 5 (by decide)⟩
    obtain ⟨g1, g2, g3, g4, g5, g6, g7, g8⟩ := h q (by omega)
    refine ⟨by rw [h3]; exact g1, by rw [h3]; exact g2, by rw [h3]; exact g3, by rw [h3]; exact g4, by rw [h3]; exact g5, by rw [h3]; exact g6, by rw [h4 _ (by decide)]; exact g7, by rw [h4 _ (by decide)]; exact g8⟩
  | succ k ih =>
    intro n i s hi hn h
    obtain ⟨n, rfl⟩ : ∃ q, n = q + 1 := ⟨n - 1, by omega⟩
    have hi2 : i < 10 := by omega
    rw [s_Ne_clear_5_L17, if_neg (fun z => by rw [i_ge 10, nI_toInt (by omega)] at z; omega), e_sti hi2 (by decide), e_sti hi2 (by decide), e_sti hi2 (by decide), e_sti hi2 (by decide), e_sti hi2 (by decide), e_sti hi2 (by decide), e_stl hi2 (by decide), e_stl hi2 (by decide), nI_1]
    refine (fun (z : _) => ?_) (ih n (i + 1) (jm_sl (jm_sl (jm_si (jm_si (jm_si (jm_si (jm_si (jm_si s (5 + 1) i (-1)) (5 + 2) i 0) (5 + 3) i 1) (5 + 4) i 1) (5 + 5) i 99) (5 + 6) i (-1)) (5 + 7) i 0) (5 + 8) i 0) (by omega) (by omega) ?_)
    · obtain ⟨s', h1, h2, h3, h4, h5⟩ := z
      refine ⟨s', h1, h2, h3, ?_, ?_⟩
      · rw [h4]; rfl
      · rw [h5]; rfl
    · intro q hq
      by_cases e : q = i
      · subst e
        refine ⟨?_, ?_, ?_, ?_, ?_, ?_, ?_, ?_⟩ <;> simp [jm_si, jm_sl]
      · obtain ⟨g1, g2, g3, g4, g5, g6, g7, g8⟩ := h q (by omega)
        refine ⟨?_, ?_, ?_, ?_, ?_, ?_, ?_, ?_⟩
        · simp only [jm_si, jm_sl, e, and_false, if_false]; exact g1
        · simp only [jm_si, jm_sl, e, and_false, if_false]; exact g2
        · simp only [jm_si, jm_sl, e, and_false, if_false]; exact g3
        · simp only [jm_si, jm_sl, e, and_false, if_false]; exact g4
        · simp only [jm_si, jm_sl, e, and_false, if_false]; exact g5
        · simp only [jm_si, jm_sl, e, and_false, if_false]; exact g6
        · simp only [jm_si, jm_sl, e, and_false, if_false]; exact g7
        · simp only [jm_si, jm_sl, e, and_false, if_false]; exact g8
theorem cl_5 (s : jm_M) : ∃ s', s_Ne_clear_5 s = some s' ∧ clN s' 5 := by
  unfold s_Ne_clear_5
  rw [e_ev, e_ev, e_ev]
  obtain ⟨s', h1, h2, h3, h4, h5⟩ := cl17_5 10 5000 0 (jm_sl (jm_si (jm_si s 5 0 0) 5 10 0) 5 11 0) rfl (by decide) (fun q hq => by omega)
  refine ⟨s', h1, clN_of ?_ ?_ ?_ h2 h3⟩
  · rw [h4]; simp [jm_si, jm_sl]
  · rw [h4]; simp [jm_si, jm_sl]
  · rw [h5]; simp [jm_si, jm_sl]
theorem cl88_15 : ∀ (k n i : Nat) (s : jm_M), i + k = 100 → k < n → (∀ h, h < i → s.2 24 h = 0) → ∃ s', s_Ne_clear_15_t46_L88 n (nI i) s = some s' ∧ (∀ h, h < 100 → s'.2 24 h = 0) ∧ s'.1 = s.1 ∧ ∀ c, c ≠ 24 → s'.2 c = s.2 c := by
  intro k
  induction k with
  | zero =>
    intro n i s hi hn h
    obtain ⟨n, rfl⟩ : ∃ q, n = q + 1 := ⟨n - 1, by omega⟩
    rw [s_Ne_clear_15_t46_L88, if_pos (by rw [i_ge 100, nI_toInt (by omega)]; omega)]
    exact ⟨s, rfl, fun q hq => h q (by omega), rfl, fun _ _ => rfl⟩
  | succ k ih =>
    intro n i s hi hn h
    obtain ⟨n, rfl⟩ : ∃ q, n = q + 1 := ⟨n - 1, by omega⟩
    rw [s_Ne_clear_15_t46_L88, if_neg (fun z => by rw [i_ge 100, nI_toInt (by omega)] at z; omega), e_stl (by omega) (by decide), nI_1]
    obtain ⟨s', h1, h2, h3, h4⟩ := ih n (i + 1) (jm_sl s 24 i 0) (by omega) (by omega) (fun q hq => by
      by_cases e : q = i
      · rw [e, e_sl]
      · rw [e_slo (by omega)]; exact h q (by omega))
    refine ⟨s', h1, h2, h3, fun c hc => ?_⟩
    rw [h4 c hc]
    funext q
    rw [e_slo (by omega)]
theorem cl17_15 : ∀ (k n i : Nat) (s : jm_M), i + k = 10 → k < n → (∀ h, h < i → clH s 15 h) → ∃ s', s_Ne_clear_15_t46_L17 n (nI i) s = some s' ∧ (∀ h, h < 10 → clH s' 15 h) ∧ (∀ h, h < 100 → s'.2 24 h = 0) ∧ s'.1 15 = s.1 15 ∧ s'.2 15 = s.2 15 := by
  intro k
  induction k with
  | zero =>
    intro n i s hi hn h
    obtain ⟨n, rfl⟩ : ∃ q, n = q + 1 := ⟨n - 1, by omega⟩
    rw [s_Ne_clear_15_t46_L17, if_pos (by rw [i_ge 10, nI_toInt (by omega)]; omega)]
    obtain ⟨s', h1, h2, h3, h4⟩ := cl88_15 100 5000 0 s rfl (by decide) (fun q hq => by omega)
    refine ⟨s', h1, fun q hq => ?_, h2, by rw [h3], h4 15 (by decide)⟩
    obtain ⟨g1, g2, g3, g4, g5, g6, g7, g8⟩ := h q (by omega)
    refine ⟨by rw [h3]; exact g1, by rw [h3]; exact g2, by rw [h3]; exact g3, by rw [h3]; exact g4, by rw [h3]; exact g5, by rw [h3]; exact g6, by rw [h4 _ (by decide)]; exact g7, by rw [h4 _ (by decide)]; exact g8⟩
  | succ k ih =>
    intro n i s hi hn h
    obtain ⟨n, rfl⟩ : ∃ q, n = q + 1 := ⟨n - 1, by omega⟩
    have hi2 : i < 10 := by omega
    rw [s_Ne_clear_15_t46_L17, if_neg (fun z => by rw [i_ge 10, nI_toInt (by omega)] at z; omega), e_sti hi2 (by decide), e_sti hi2 (by decide), e_sti hi2 (by decide), e_sti hi2 (by decide), e_sti hi2 (by decide), e_sti hi2 (by decide), e_stl hi2 (by decide), e_stl hi2 (by decide), nI_1]
    refine (fun (z : _) => ?_) (ih n (i + 1) (jm_sl (jm_sl (jm_si (jm_si (jm_si (jm_si (jm_si (jm_si s (15 + 1) i (-1)) (15 + 2) i 0) (15 + 3) i 1) (15 + 4) i 1) (15 + 5) i 99) (15 + 6) i (-1)) (15 + 7) i 0) (15 + 8) i 0) (by omega) (by omega) ?_)
    · obtain ⟨s', h1, h2, h3, h4, h5⟩ := z
      refine ⟨s', h1, h2, h3, ?_, ?_⟩
      · rw [h4]; rfl
      · rw [h5]; rfl
    · intro q hq
      by_cases e : q = i
      · subst e
        refine ⟨?_, ?_, ?_, ?_, ?_, ?_, ?_, ?_⟩ <;> simp [jm_si, jm_sl]
      · obtain ⟨g1, g2, g3, g4, g5, g6, g7, g8⟩ := h q (by omega)
        refine ⟨?_, ?_, ?_, ?_, ?_, ?_, ?_, ?_⟩
        · simp only [jm_si, jm_sl, e, and_false, if_false]; exact g1
        · simp only [jm_si, jm_sl, e, and_false, if_false]; exact g2
        · simp only [jm_si, jm_sl, e, and_false, if_false]; exact g3
        · simp only [jm_si, jm_sl, e, and_false, if_false]; exact g4
        · simp only [jm_si, jm_sl, e, and_false, if_false]; exact g5
        · simp only [jm_si, jm_sl, e, and_false, if_false]; exact g6
        · simp only [jm_si, jm_sl, e, and_false, if_false]; exact g7
        · simp only [jm_si, jm_sl, e, and_false, if_false]; exact g8
theorem cl_15 (s : jm_M) : ∃ s', s_Ne_clear_15_t46 s = some s' ∧ clN s' 15 := by
  unfold s_Ne_clear_15_t46
  rw [e_ev, e_ev, e_ev]
  obtain ⟨s', h1, h2, h3, h4, h5⟩ := cl17_15 10 5000 0 (jm_sl (jm_si (jm_si s 15 0 0) 15 10 0) 15 11 0) rfl (by decide) (fun q hq => by omega)
  refine ⟨s', h1, clN_of ?_ ?_ ?_ h2 h3⟩
  · rw [h4]; simp [jm_si, jm_sl]
  · rw [h4]; simp [jm_si, jm_sl]
  · rw [h5]; simp [jm_si, jm_sl]
/-! a text read, item by item -/
def pq (q : Nat) : Option tQ → Option (Nat × tQ)
  | none => none
  | some Q' => some (q, Q')
theorem pq_none {q : Nat} : pq q none = none := rfl
theorem pq_some {q : Nat} {Q' : tQ} : pq q (some Q') = some (q, Q') := rfl
def stpL (l : Nat) (f : Nat → Nat) (len p : Nat) (Q : tQ) : Option (Nat × tQ) := match rdI f len 4 0 (p + 1) (fun _ => 0) with
  | none => none
  | some (c, v, q) => pq q (tkA l c v Q)
def stp (f : Nat → Nat) (len p : Nat) (Q : tQ) : Option (Nat × tQ) := stpL (f p) f len p Q
def rdA (f : Nat → Nat) (len : Nat) : Nat → Nat → tQ → Option Nat × tQ
  | 0, _, Q => (none, Q)
  | k + 1, p, Q => if len ≤ p then (none, Q) else match stp f len p Q with
    | none => (some p, Q)
    | some (q, Q') => rdA f len k q Q'
def fI (o : Option Nat) : Int32 := match o with
  | none => -4
  | some e => nI e
theorem stp_none {f : Nat → Nat} {len p : Nat} {Q : tQ} (h : rdI f len 4 0 (p + 1) (fun _ => 0) = none) : stp f len p Q = none := by unfold stp stpL; rw [h]
theorem stp_some {f : Nat → Nat} {len p : Nat} {Q : tQ} {c q : Nat} {v : Nat → Nat} (h : rdI f len 4 0 (p + 1) (fun _ => 0) = some (c, v, q)) : stp f len p Q = pq q (tkA (f p) c v Q) := by unfold stp stpL; rw [h]
theorem stp_bd {f : Nat → Nat} {len p q : Nat} {Q Q' : tQ} (w : wQ Q) (h : stp f len p Q = some (q, Q')) : p + 3 ≤ q ∧ q ≤ len ∧ wQ Q' := by
  cases hr : rdI f len 4 0 (p + 1) (fun _ => 0) with
  | none => rw [stp_none hr] at h; cases h
  | some z =>
    obtain ⟨c, v, u⟩ := z
    obtain ⟨a1, a2, a3, a4, a5, a6⟩ := rdI_bd 4 0 (p + 1) (fun _ => 0) c v u (fun j hj => by omega) hr
    rw [stp_some hr] at h
    cases ht : tkA (f p) c v Q with
    | none => rw [ht, pq_none] at h; cases h
    | some Q2 =>
      rw [ht, pq_some] at h
      cases h
      exact ⟨by omega, a4, tkA_w w a5 ht⟩
def cl2 (s : jm_M) (nb : Nat) : Prop := XS s nb 0 (fun _ => false) ∧ XL s nb (fun _ => -1)
theorem x_first {len : Nat} {f : Nat → Nat} : ∀ (k n x p : Nat) (Q : tQ) (s : jm_M), len ≤ p + k → k < n → x + k ≤ 300 → tX s len f → s.1 3 2 = nI p → p ≤ len → XQ s Q → wQ Q → cl2 s 5 → ∃ s', s_Re_firstFault_3_2_5_L27 n (nI len) (nI x) s = some (fI (rdA f len k p Q).1, s') ∧ ((rdA f len k p Q).1 = none → XQ s' (rdA f len k p Q).2 ∧ wQ (rdA f len k p Q).2 ∧ cl2 s' 5) := by
  intro k
  induction k with
  | zero =>
    intro n x p Q s hk hn hx ht hp hpl xq w hc
    obtain ⟨n, rfl⟩ : ∃ q, n = q + 1 := ⟨n - 1, by omega⟩
    have hl := ht.1
    refine ⟨s, ?_, fun _ => ⟨xq, w, hc⟩⟩
    rw [s_Re_firstFault_3_2_5_L27]
    by_cases h : (300 : Int32) ≤ nI x
    · rw [if_pos h]; rfl
    · rw [if_neg h, hp, if_pos (nI_le (by omega) (by omega))]; rfl
  | succ k ih =>
    intro n x p Q s hk hn hx ht hp hpl xq w hc
    obtain ⟨n, rfl⟩ : ∃ q, n = q + 1 := ⟨n - 1, by omega⟩
    have hl := ht.1
    rw [s_Re_firstFault_3_2_5_L27, if_neg (fun z => by rw [i_ge 300, nI_toInt (by omega)] at z; omega), hp, rdA]
    by_cases hlp : len ≤ p
    · rw [if_pos hlp, if_pos (nI_le (by omega) (by omega))]
      exact ⟨s, rfl, fun _ => ⟨xq, w, hc⟩⟩
    · rw [if_neg hlp, if_neg (nI_ge (by omega) (by omega)), e_vi]
      obtain ⟨r, s1, a1, a2, a3, a4, a5, a6, a7, a8⟩ := x_item ht hp (by omega)
      rw [a1, e_b2]
      unfold xrR at a2
      cases hr : rdI f len 4 0 (p + 1) (fun _ => 0) with
      | none =>
        rw [hr] at a2
        rw [stp_none hr, show r = 0 from a2, if_pos rfl]
        exact ⟨s1, rfl, fun z => by cases z⟩
      | some z =>
        obtain ⟨c, v, u⟩ := z
        obtain ⟨b1, b2, b3, b4, b5, b6⟩ := rdI_bd 4 0 (p + 1) (fun _ => 0) c v u (fun j hj => by omega) hr
        rw [hr] at a2
        obtain ⟨r1, r2, r3, r4⟩ : r = 1 ∧ s1.1 3 1 = nI c ∧ s1.1 3 2 = nI u ∧ ∀ j, j < c → s1.1 4 j = nI (v j) := a2
        rw [stp_some hr, r1, if_neg e10]
        have xq1 : XQ s1 Q := ⟨XN_same (fun c h1 h2 => ⟨fun h => a4 c 0 (by omega) (by omega), fun h => ⟨funext fun k => a4 c k (by omega) (by omega), funext fun k => a5 c k (by omega) (by omega)⟩⟩) xq.1, a6.trans xq.2.1, a7.trans xq.2.2.1, a8.trans xq.2.2.2⟩
        have hk1 := x_take w xq1 (show XV s1 c v from ⟨r2, b1, by omega, fun j hj => ⟨r4 j hj, b5 j hj⟩⟩) (ht.2 p (by omega)).1 a3
        cases hk2 : tkA (f p) c v Q with
        | none =>
          rw [hk2] at hk1
          obtain ⟨s2, k1⟩ : ∃ s', s_Re_takeItem_3_5 s1 = some (0, s') := hk1
          rw [k1, e_b2, if_pos rfl]
          exact ⟨s2, rfl, fun z => by cases z⟩
        | some Q' =>
          rw [hk2] at hk1
          obtain ⟨s2, k1, k2⟩ : ∃ s', s_Re_takeItem_3_5 s1 = some (1, s') ∧ XQ s' Q' := hk1
          rw [k1, e_b2, if_neg e10, nI_1]
          have fr := s_Re_takeItem_3_5_fr s1 _ k1
          have hc2 : cl2 s2 5 := by
            refine ⟨XS_same ?_ ?_ hc.1, fun h hh => ?_⟩
            · rw [(fr 5 10 (by decide) (by decide)).1, a4 5 10 (by decide) (by decide)]
            · rw [(fr 5 11 (by decide) (by decide)).2, a5 5 11 (by decide) (by decide)]
            · show s2.1 11 h = _
              rw [(fr 11 h (by decide) (by simp)).1, a4 11 h (by decide) (by decide)]
              exact hc.2 h hh
          have ht2 : tX s2 len f := tX_same ht (fun i => by rw [(fr 2 i (by decide) (by simp)).1, a4 2 i (by decide) (by decide)])
          have hp2 : s2.1 3 2 = nI u := by rw [(fr 3 2 (by decide) (by decide)).1]; exact r3
          exact ih n (x + 1) u Q' s2 (by omega) (by omega) (by omega) ht2 hp2 b4 k2 (tkA_w w b5 hk2) hc2
def Q0 : tQ := (T0, 0, 0, true)
theorem w_Q0 : wQ Q0 := ⟨w_T0, by decide, by decide⟩
theorem x_readAll {s : jm_M} {len : Nat} {f : Nat → Nat} (ht : tX s len f) : ∃ s', s_Re_firstFault_3_2_5 s (nI len) = some (fI (rdA f len len 0 Q0).1, s') ∧ ((rdA f len len 0 Q0).1 = none → XQ s' (rdA f len len 0 Q0).2 ∧ wQ (rdA f len len 0 Q0).2 ∧ cl2 s' 5) := by
  have hl := ht.1
  unfold s_Re_firstFault_3_2_5
  obtain ⟨s1, h1, h2, h3, h4⟩ := cl_5 s
  have fr := s_Ne_clear_5_fr s _ h1
  rw [h1, e_bd, e_ev, e_ev, e_ev, e_ev]
  refine x_first len 5000 0 0 Q0 _ (by omega) (by omega) (by omega) ?_ ?_ (Nat.zero_le _) ?_ w_Q0 ?_
  · refine tX_same ht (fun i => ?_)
    rw [e_sio (by omega), e_sio (by omega), e_sio (by omega), e_sio (by omega)]
    exact (fr 2 i (by decide) (by simp)).1
  · rw [e_sio (by omega), e_sio (by omega), e_sio (by omega), e_si]; rfl
  · refine ⟨XN_same (fun c h1 h2 => ⟨fun h => ?_, fun h => ⟨funext fun k => ?_, rfl⟩⟩) h2, ?_, ?_, ?_⟩
    · rw [e_sio (by omega), e_sio (by omega), e_sio (by omega), e_sio (by omega)]
    · rw [e_sio (by omega), e_sio (by omega), e_sio (by omega), e_sio (by omega)]
    · rw [e_sio (by omega), e_sio (by omega), e_si]; rfl
    · rw [e_sio (by omega), e_si]; rfl
    · rw [e_si]; rfl
  · refine ⟨XS_same ?_ rfl h3, fun h hh => ?_⟩
    · rw [e_sio (by omega), e_sio (by omega), e_sio (by omega), e_sio (by omega)]
    · rw [e_sio (by omega), e_sio (by omega), e_sio (by omega), e_sio (by omega)]
      exact h4 h hh
