/-! the model takes an item -/
def ZQ (s : jm_M) (p : Nat) (Q : tQ) : Prop := s.1 61 3 = nI (tn Q.1) ∧ (∀ h, h < tn Q.1 → ZH s 3 Q.1 h) ∧ (∃ c E, ZE s 3 c E ∧ sE Q.1 c E ∧ 7 * c ≤ p) ∧ s.1 59 17 = nI Q.2.1 ∧ s.1 59 18 = nI Q.2.2.1 ∧ s.1 59 19 = oI (!Q.2.2.2)
/-- all of the model but its draft stays -/
def lo (s s' : jm_M) : Prop := ∀ c k, c ≠ 59 → c ≠ 73 → ((c = 61 ∨ c = 67) → k < 3) → (62 ≤ c → c ≤ 66 → k < 30) → (c = 68 → k < 645) → s'.1 c k = s.1 c k
theorem lo_rf {s : jm_M} : lo s s := fun _ _ _ _ _ _ _ => rfl
theorem lo_tr {s s1 s2 : jm_M} (h1 : lo s s1) (h2 : lo s1 s2) : lo s s2 := fun c k a1 a2 a3 a4 a5 => (h2 c k a1 a2 a3 a4 a5).trans (h1 c k a1 a2 a3 a4 a5)
theorem lo_si {s s' : jm_M} {i k : Nat} {v : Int32} (h : lo s s') (hw : i = 59 ∨ i = 73 ∨ ((i = 61 ∨ i = 67) ∧ 3 ≤ k) ∨ (62 ≤ i ∧ i ≤ 66 ∧ 30 ≤ k) ∨ (i = 68 ∧ 645 ≤ k)) : lo s (jm_si s' i k v) := fun c q h1 h2 h3 h4 h5 => by
  rw [e_sio (by omega)]
  exact h c q h1 h2 h3 h4 h5
theorem lo_nf {s s' : jm_M} (h : nf73 s s') : lo s s' := fun c k h1 h2 _ _ _ => h c k (fun z => h1 z.1) h2
/-- a draft's words depend on these places alone -/
theorem ZQ_same {s s' : jm_M} {p p' : Nat} {Q : tQ} (e : nf73 s s') (hp : p ≤ p') (h : ZQ s p Q) : ZQ s' p' Q := by
  obtain ⟨h1, h2, ⟨c, E, h3, h4, h5⟩, h6, h7, h8⟩ := h
  have g : ∀ c k, c ≠ 59 → c ≠ 73 → s'.1 c k = s.1 c k := fun c k a b => e c k (fun z => a z.1) b
  refine ⟨by rw [g 61 3 (by decide) (by decide)]; exact h1, fun h hh => ?_, ⟨c, E, ?_, h4, by omega⟩, by rw [e 59 17 (by decide) (by decide)]; exact h6, by rw [e 59 18 (by decide) (by decide)]; exact h7, by rw [e 59 19 (by decide) (by decide)]; exact h8⟩
  · have := h2 h hh
    unfold ZH at this ⊢
    rw [g 62 _ (by decide) (by decide), g 63 _ (by decide) (by decide), g 64 _ (by decide) (by decide), g 65 _ (by decide) (by decide), g 66 _ (by decide) (by decide)]
    exact this
  · refine ⟨by rw [g 67 3 (by decide) (by decide)]; exact h3.1, h3.2.1, fun j hj => ?_⟩
    have := h3.2.2 j hj
    rw [g 68 _ (by decide) (by decide), g 68 _ (by decide) (by decide), g 68 _ (by decide) (by decide), g 68 _ (by decide) (by decide), g 68 _ (by decide) (by decide)]
    exact this
def zO (s : jm_M) (m : Option (Int32 × jm_M)) (o : Option (Nat × tQ)) : Prop := match o with
  | none => ∃ s', m = some (0, s') ∧ lo s s'
  | some (q, Q') => ∃ s', m = some (1, s') ∧ lo s s' ∧ s'.1 59 15 = nI q ∧ ZQ s' q Q'
theorem zO_gb {s : jm_M} {m : Option (Int32 × jm_M)} {o : Option (Nat × tQ)} (h : zO s m o) : zO s (jm_b2 m (fun v s => jm_gb v (some (v, s)))) o := by
  cases o with
  | none => obtain ⟨s', h, h2⟩ := h; exact ⟨s', by rw [h, e_b2, gb0], h2⟩
  | some z => obtain ⟨q, Q'⟩ := z; obtain ⟨s', h, h2⟩ := h; exact ⟨s', by rw [h, e_b2, gb1], h2⟩
theorem zO_up {s s1 : jm_M} {m : Option (Int32 × jm_M)} {o : Option (Nat × tQ)} (h0 : lo s s1) (h : zO s1 m o) : zO s m o := by
  cases o with
  | none => obtain ⟨s', h, h2⟩ := h; exact ⟨s', h, lo_tr h0 h2⟩
  | some z => obtain ⟨q, Q'⟩ := z; obtain ⟨s', h, h2, h3⟩ := h; exact ⟨s', h, lo_tr h0 h2, h3⟩
theorem stpL_no {l m : Nat} {f : Nat → Nat} {len p : Nat} {Q : tQ} (h : ∀ v q, rdI f len 4 0 (p + 1) (fun _ => 0) ≠ some (m, v, q)) (ht : ∀ c v, c ≠ m → tkA l c v Q = none) : stpL l f len p Q = none := by
  unfold stpL
  cases hr : rdI f len 4 0 (p + 1) (fun _ => 0) with
  | none => rfl
  | some z =>
    obtain ⟨c, v, q⟩ := z
    simp only
    rw [ht c v (fun e => h v q (by rw [hr, e])), pq_none]
theorem stpL_yes {l m q : Nat} {f v : Nat → Nat} {len p : Nat} {Q : tQ} (h : rdI f len 4 0 (p + 1) (fun _ => 0) = some (m, v, q)) : stpL l f len p Q = pq q (tkA l m v Q) := by
  unfold stpL
  rw [h]
theorem zO_no {s s' : jm_M} {m : Option (Int32 × jm_M)} {q : Nat} {o : Option tQ} (h0 : lo s s') (ho : o = none) (h : m = some (0, s')) : zO s m (pq q o) := by
  subst ho
  exact ⟨s', h, h0⟩
theorem zO_yes {s s' : jm_M} {m : Option (Int32 × jm_M)} {q : Nat} {Q' : tQ} {o : Option tQ} (h0 : lo s s') (ho : o = some Q') (h : m = some (1, s')) (hq : s'.1 59 15 = nI q) (hz : ZQ s' q Q') : zO s m (pq q o) := by
  subst ho
  exact ⟨s', h, h0, hq, hz⟩
theorem z_isRead {s : jm_M} {n a : Nat} (h : s.1 61 3 = nI n) (hn : n ≤ 10) (ha : a < 100) : s_Z_isRead s (nI a) = some (oI (decide (a < n))) := by
  unfold s_Z_isRead
  rw [e_ldiq (j := 3) 3 rfl (by decide) (by decide), h, z_inL, Int32.toInt_toInt64, Int32.toInt_toInt64, show (0 : Int64).toInt = 0 by decide, nI_toInt (by omega), show (1 : Int32) = nI 1 from rfl, pk_sub_toInt (by omega) (by omega), e_bd]
  by_cases g : a < n
  · rw [if_pos (by omega), dT g]; rfl
  · rw [if_neg (by omega), dF g]; rfl
theorem ix30 (a : Nat) : (30 : Int32) + nI a = nI (10 * 3 + a) := by rw [show (30 : Int32) = nI 30 from rfl, nI_add]
/-! hill -/
theorem z40_no {s : jm_M} {Q : tQ} {p : Nat} (zq : ZQ s p Q) (w : wQ Q) (h2 : s.1 73 0 = nI 2) (he : earN Q.1 < tn Q.1) : ∀ (k n i : Nat), i + k = earN Q.1 → k < n → s_Z_hillItem_L40 n (nI i) s = some (0, s) := by
  have w1 := w.1.1
  intro k
  induction k with
  | zero =>
    intro n i hi hn
    obtain ⟨n, rfl⟩ : ∃ q, n = q + 1 := ⟨n - 1, by omega⟩
    have hk : tk Q.1 i = 2 := by
      have := fa_first_yes (fun h => decide (tk Q.1 h = 2)) (tn Q.1) he
      rw [show i = fa_first (fun h => decide (tk Q.1 h = 2)) (tn Q.1) from hi]
      simpa using this
    have e62 : s.1 62 (10 * 3 + i) = nI (tk Q.1 i) := (zq.2.1 i (by omega)).1
    rw [s_Z_hillItem_L40, e_ldiq (j := 3) 3 rfl (by decide) (by decide), zq.1, if_neg (nI_ge (by omega) (by omega)), e_ldiq (j := 0) 0 rfl (by decide) (by decide), h2, if_pos (show nI 2 = 2 from rfl), ix30, e_ldi (by omega) (by decide), e62, hk, if_pos (show nI 2 = 2 from rfl)]
  | succ k ih =>
    intro n i hi hn
    obtain ⟨n, rfl⟩ : ∃ q, n = q + 1 := ⟨n - 1, by omega⟩
    have hk : tk Q.1 i ≠ 2 := by
      have := fa_first_no (fun h => decide (tk Q.1 h = 2)) (tn Q.1) i (show i < earN Q.1 by omega)
      simpa using this
    have hk3 := (w.1.2.1 i (by omega)).1
    have e62 : s.1 62 (10 * 3 + i) = nI (tk Q.1 i) := (zq.2.1 i (by omega)).1
    rw [s_Z_hillItem_L40, e_ldiq (j := 3) 3 rfl (by decide) (by decide), zq.1, if_neg (nI_ge (by omega) (by omega)), e_ldiq (j := 0) 0 rfl (by decide) (by decide), h2, if_pos (show nI 2 = 2 from rfl), ix30, e_ldi (by omega) (by decide), e62, if_neg (show ¬ nI (tk Q.1 i) = 2 from fun z => hk ((nI_c (by omega) (by decide) rfl).mp z)), nI_1]
    exact ih n (i + 1) (by omega) (by omega)
def hilS (s : jm_M) (n v : Nat) : jm_M := jm_si (jm_si (jm_si (jm_si (jm_si (jm_si s 62 (10 * 3 + n) (nI v)) 63 (10 * 3 + n) 0) 64 (10 * 3 + n) 1) 65 (10 * 3 + n) 1) 66 (10 * 3 + n) 99) 61 3 (nI (n + 1))
theorem z40_yes {s : jm_M} {Q : tQ} {p v : Nat} (zq : ZQ s p Q) (w : wQ Q) (h2 : s.1 73 0 = nI v) (hv : v ≤ 3) (hn10 : tn Q.1 < 10) (he : ¬ (v = 2 ∧ earN Q.1 < tn Q.1)) : ∀ (k n i : Nat), i + k = tn Q.1 → k < n → s_Z_hillItem_L40 n (nI i) s = some (1, hilS s (tn Q.1) v) := by
  have w1 := w.1.1
  intro k
  induction k with
  | zero =>
    intro n i hi hn
    obtain ⟨n, rfl⟩ : ∃ q, n = q + 1 := ⟨n - 1, by omega⟩
    rw [s_Z_hillItem_L40, e_ldiq (j := 3) 3 rfl (by decide) (by decide), zq.1, if_pos (nI_le (by omega) (by omega)), e_ldiq (j := 3) 3 rfl (by decide) (by decide), zq.1, ix30, e_vi, e_ldiq (j := 0) 0 rfl (by decide) (by decide), h2, e_sti (by omega) (by decide), e_sti (by omega) (by decide), e_sti (by omega) (by decide), e_sti (by omega) (by decide), e_sti (by omega) (by decide), e_ldiq (j := 3) 3 rfl (by decide) (by decide), e_sio (by omega), e_sio (by omega), e_sio (by omega), e_sio (by omega), e_sio (by omega), zq.1, nI_1, e_stiq (j := 3) 3 rfl (by decide) (by decide)]
    rfl
  | succ k ih =>
    intro n i hi hn
    obtain ⟨n, rfl⟩ : ∃ q, n = q + 1 := ⟨n - 1, by omega⟩
    have hk3 := (w.1.2.1 i (by omega)).1
    have e62 : s.1 62 (10 * 3 + i) = nI (tk Q.1 i) := (zq.2.1 i (by omega)).1
    rw [s_Z_hillItem_L40, e_ldiq (j := 3) 3 rfl (by decide) (by decide), zq.1, if_neg (nI_ge (by omega) (by omega)), e_ldiq (j := 0) 0 rfl (by decide) (by decide), h2, nI_1]
    by_cases v2 : v = 2
    · have hk : tk Q.1 i ≠ 2 := ear_none (fun z => he ⟨v2, z⟩) (by omega)
      rw [if_pos (show nI v = 2 by rw [v2]; rfl), ix30, e_ldi (by omega) (by decide), e62, if_neg (show ¬ nI (tk Q.1 i) = 2 from fun z => hk ((nI_c (by omega) (by decide) rfl).mp z))]
      exact ih n (i + 1) (by omega) (by omega)
    · rw [if_neg (show ¬ nI v = 2 from fun z => v2 ((nI_c (by omega) (by decide) rfl).mp z))]
      exact ih n (i + 1) (by omega) (by omega)
theorem hilS_q {s : jm_M} {Q : tQ} {p q v : Nat} (w : wQ Q) (zq : ZQ s p Q) (hpq : p ≤ q) (hn : tn Q.1 < 10) : ZQ (hilS s (tn Q.1) v) q (uH Q.1 v, Q.2.1, Q.2.2.1, Q.2.2.2) := by
  obtain ⟨h1, h2, ⟨c, E, h3, h4, h5⟩, h6, h7, h8⟩ := zq
  have hO := w.1.2.2.1 (tn Q.1) (Nat.le_refl _) hn
  have ck : ∀ h, tk (uH Q.1 v) h = if h = tn Q.1 then v else tk Q.1 h := fun _ => rfl
  unfold hilS
  refine ⟨by rw [e_si]; rfl, fun h hh => ?_, ⟨c, E, ⟨?_, h3.2.1, fun j hj => ?_⟩, h4, by omega⟩, ?_, ?_, ?_⟩
  · have hh : h < tn Q.1 + 1 := hh
    unfold ZH
    rw [ck]
    by_cases e : h = tn Q.1
    · subst e
      rw [if_pos rfl]
      refine ⟨?_, ?_, ?_, ?_, ?_⟩
      · rw [e_sio (by omega), e_sio (by omega), e_sio (by omega), e_sio (by omega), e_sio (by omega), e_si]
      · rw [e_sio (by omega), e_sio (by omega), e_sio (by omega), e_sio (by omega), e_si]
        show 0 = nI (ts Q.1 (tn Q.1))
        rw [hO.1]; rfl
      · rw [e_sio (by omega), e_sio (by omega), e_sio (by omega), e_si]
        show 1 = nI (td Q.1 (tn Q.1))
        rw [hO.2.1]; rfl
      · rw [e_sio (by omega), e_sio (by omega), e_si]
        show 1 = nI (tp Q.1 (tn Q.1))
        rw [hO.2.2.1]; rfl
      · rw [e_sio (by omega), e_si]
        show 99 = nI (tw Q.1 (tn Q.1))
        rw [hO.2.2.2]; rfl
    · rw [if_neg e]
      obtain ⟨g1, g2, g3, g4, g5⟩ := h2 h (by omega)
      refine ⟨?_, ?_, ?_, ?_, ?_⟩
      · rw [e_sio (by omega), e_sio (by omega), e_sio (by omega), e_sio (by omega), e_sio (by omega), e_sio (by omega)]; exact g1
      · rw [e_sio (by omega), e_sio (by omega), e_sio (by omega), e_sio (by omega), e_sio (by omega), e_sio (by omega)]; exact g2
      · rw [e_sio (by omega), e_sio (by omega), e_sio (by omega), e_sio (by omega), e_sio (by omega), e_sio (by omega)]; exact g3
      · rw [e_sio (by omega), e_sio (by omega), e_sio (by omega), e_sio (by omega), e_sio (by omega), e_sio (by omega)]; exact g4
      · rw [e_sio (by omega), e_sio (by omega), e_sio (by omega), e_sio (by omega), e_sio (by omega), e_sio (by omega)]; exact g5
  · rw [e_sio (by omega), e_sio (by omega), e_sio (by omega), e_sio (by omega), e_sio (by omega), e_sio (by omega)]; exact h3.1
  · have := h3.2.2 j hj
    have g : ∀ k, (jm_si (jm_si (jm_si (jm_si (jm_si (jm_si s 62 (10 * 3 + tn Q.1) (nI v)) 63 (10 * 3 + tn Q.1) 0) 64 (10 * 3 + tn Q.1) 1) 65 (10 * 3 + tn Q.1) 1) 66 (10 * 3 + tn Q.1) 99) 61 3 (nI (tn Q.1 + 1))).1 68 k = s.1 68 k := fun k => by
      rw [e_sio (by omega), e_sio (by omega), e_sio (by omega), e_sio (by omega), e_sio (by omega), e_sio (by omega)]
    rw [g, g, g, g, g]
    exact this
  · rw [e_sio (by omega), e_sio (by omega), e_sio (by omega), e_sio (by omega), e_sio (by omega), e_sio (by omega)]; exact h6
  · rw [e_sio (by omega), e_sio (by omega), e_sio (by omega), e_sio (by omega), e_sio (by omega), e_sio (by omega)]; exact h7
  · rw [e_sio (by omega), e_sio (by omega), e_sio (by omega), e_sio (by omega), e_sio (by omega), e_sio (by omega)]; exact h8
theorem tk104 {c : Nat} {v : Nat → Nat} {Q : tQ} : tkA 104 c v Q = if c = 1 ∧ Q.2.2.2 = true ∧ v 0 ≤ 3 ∧ tn Q.1 < 10 ∧ ¬ (v 0 = 2 ∧ earN Q.1 < tn Q.1) then some (uH Q.1 (v 0), Q.2.1, Q.2.2.1, Q.2.2.2) else none := by
  unfold tkA
  rw [if_pos rfl]
theorem zt_hill {s : jm_M} {len p : Nat} {f : Nat → Nat} {Q : tQ} (ht : tZ s len f) (hp : s.1 59 15 = nI (p + 1)) (hpl : p < len) (w : wQ Q) (zq : ZQ s p Q) : zO s (s_Z_hillItem s) (stpL 104 f len p Q) := by
  have w1 := w.1.1
  unfold s_Z_hillItem
  rcases z_numbers (m := 1) (M := 1) ht hp (by omega) (by decide) (by decide) rfl with ⟨s1, a1, a2, a3⟩ | ⟨v, q, s1, a1, a2, a3, a4, a5⟩
  · rw [stpL_no (l := 104) (Q := Q) a3 (fun c v hc => by rw [tk104, if_neg (fun z => hc z.1)]), a1, e_b2, if_pos rfl]
    exact ⟨s1, rfl, lo_nf a2⟩
  · have hb := rdI_bd 4 0 (p + 1) (fun _ => 0) 1 v q (fun j hj => by omega) a1
    obtain ⟨n0, b0⟩ := a5 0 (by decide)
    have zq1 : ZQ s1 p Q := ZQ_same a3 (Nat.le_refl _) zq
    rw [stpL_yes a1, a2, e_b2, if_neg e10, e_ldiq (j := 0) 0 rfl (by decide) (by decide), n0, tk104]
    by_cases h3 : v 0 ≤ 3
    · rw [if_neg (fun z => by rw [i_gt 3, nI_toInt (by omega)] at z; omega), zq1.2.2.2.2.2]
      cases ho : Q.2.2.2 with
      | false =>
        rw [show oI (!false) = 1 from rfl, if_neg e10]
        exact zO_no (lo_nf a3) (if_neg (fun z => Bool.noConfusion z.2.1)) rfl
      | true =>
        rw [show oI (!true) = 0 from rfl, if_pos rfl, e_ldiq (j := 3) 3 rfl (by decide) (by decide), zq1.1]
        by_cases hn : tn Q.1 = 10
        · rw [if_pos (by rw [hn]; rfl)]
          exact zO_no (lo_nf a3) (if_neg (fun z => by omega)) rfl
        · rw [if_neg (fun z => hn ((nI_eq (by omega) (by decide)).mp (z.trans (show (10 : Int32) = nI 10 from rfl))))]
          by_cases he : v 0 = 2 ∧ earN Q.1 < tn Q.1
          · exact zO_no (lo_nf a3) (if_neg (fun z => z.2.2.2.2 he)) (z40_no zq1 w (by rw [n0, he.1]) he.2 (earN Q.1) 5000 0 (by omega) (by omega))
          · refine zO_yes (lo_tr (lo_nf a3) ?_) (if_pos ⟨rfl, rfl, h3, by omega, he⟩) (z40_yes zq1 w n0 h3 (by omega) he (tn Q.1) 5000 0 (by omega) (by omega)) ?_ ?_
            · unfold hilS
              exact lo_si (lo_si (lo_si (lo_si (lo_si (lo_si lo_rf (by omega)) (by omega)) (by omega)) (by omega)) (by omega)) (by omega)
            · unfold hilS
              rw [e_sio (by omega), e_sio (by omega), e_sio (by omega), e_sio (by omega), e_sio (by omega), e_sio (by omega)]; exact a4
            · have := hilS_q (v := v 0) (q := q) w zq1 (by omega) (by omega)
              rw [ho] at this
              exact this
    · rw [if_pos (by rw [i_gt 3, nI_toInt (by omega)]; omega)]
      exact zO_no (lo_nf a3) (if_neg (fun z => h3 z.2.2.1)) rfl
