/-! the class takes an item -/
theorem hill5 {s : jm_M} {n a : Nat} (h : s.1 5 0 = nI n) (hn : n ≤ 10) (ha : a < 2147483648) : s_Ne_isHill_5 s (nI a) = some (oI (decide (a < n))) := by
  unfold s_Ne_isHill_5
  rw [h, if_neg (nI_pos ha)]
  by_cases h2 : n ≤ a
  · rw [if_pos (nI_le h2 (by omega)), dF (by omega)]; rfl
  · rw [if_neg (nI_ge (by omega) (by omega)), if_neg (fun z => by rw [i_ge 10, nI_toInt (by omega)] at z; omega), dT (by omega)]; rfl
theorem kind5 {s : jm_M} {T : tN} (wt : wT T) (hx : ∀ h, h < 10 → s.1 6 h = tkI T h) {v : Nat} (hv : v < 4) : s_Ne_ofKind_5 s (nI v) = some (nI (kS T v)) := by
  unfold s_Ne_ofKind_5
  refine lp_inv (fun n c (acc : Int32) => s_Ne_ofKind_5_L4 s n (nI v) acc c) 10 (fun i => nI (sOf (kB T v) i)) _ (fun n => ?_) (fun n i hi => ?_) 10 5000 0 rfl (by decide)
  · show s_Ne_ofKind_5_L4 s (n + 1) (nI v) (nI (sOf (kB T v) 10)) (nI 10) = _
    rw [s_Ne_ofKind_5_L4, if_pos (by decide)]
    rfl
  · show s_Ne_ofKind_5_L4 s (n + 1) (nI v) (nI (sOf (kB T v) i)) (nI i) = s_Ne_ofKind_5_L4 s n (nI v) (nI (sOf (kB T v) (i + 1))) (nI (i + 1))
    rw [s_Ne_ofKind_5_L4, if_neg (fun z => by rw [i_ge 10, nI_toInt (by omega)] at z; omega), e_ldi hi (by decide), hx i hi, sOf]
    by_cases hk : kB T v i = true
    · rw [if_pos ((tkI_eq wt hv).mpr hk), e_vi, p2 (by omega), fa_or, nI_1, if_pos hk]
    · rw [if_neg (fun z => hk ((tkI_eq wt hv).mp z)), nI_1, if_neg hk, Nat.or_zero]
theorem ear5 {s : jm_M} {T : tN} (wt : wT T) (hx : ∀ h, h < 10 → s.1 6 h = tkI T h) : s_Ne_hasEar_5 s = some (oI (decide (earN T < tn T))) := by
  unfold s_Ne_hasEar_5
  rw [show (2 : Int32) = nI 2 from rfl, kind5 wt hx (by decide), e_bd]
  have hl := kS_lt T 2
  by_cases h : kS T 2 = 0
  · rw [if_pos (by rw [h]; rfl), dF ((ear_kS wt).mp h)]; rfl
  · rw [if_neg (fun z => h ((nI_eq (by omega) (by omega)).mp (z.trans (show (0 : Int32) = nI 0 from rfl)))), dT (Classical.byContradiction (fun hn => h ((ear_kS wt).mpr hn)))]; rfl
def XQ (s : jm_M) (Q : tQ) : Prop := XN s 5 Q.1 ∧ s.1 3 4 = oI Q.2.2.2 ∧ s.1 3 5 = nI Q.2.1 ∧ s.1 3 6 = nI Q.2.2.1
def tR (P : jm_M → tQ → Prop) (m : Option (Int32 × jm_M)) (o : Option tQ) : Prop := match o with
  | none => ∃ s', m = some (0, s')
  | some Q' => ∃ s', m = some (1, s') ∧ P s' Q'
/-- what the reader has read: c numbers v -/
def XV (s : jm_M) (c : Nat) (v : Nat → Nat) : Prop := s.1 3 1 = nI c ∧ 1 ≤ c ∧ c ≤ 4 ∧ ∀ j, j < c → s.1 4 j = nI (v j) ∧ v j < 100
theorem nI_c {c k : Nat} (hc : c ≤ 4) (hk : k ≤ 4) {K : Int32} (hK : K = nI k) : nI c = K ↔ c = k := by rw [hK, nI_eq (by omega) (by omega)]
theorem gb0 {α : Type} (x : Option α) : jm_gb 0 x = x := rfl
theorem gb1 {α : Type} (x : Option α) : jm_gb 1 x = x := rfl
theorem tR_gb {P : jm_M → tQ → Prop} {m : Option (Int32 × jm_M)} {o : Option tQ} (h : tR P m o) : tR P (jm_b2 m (fun v s => jm_gb v (some (v, s)))) o := by
  cases o with
  | none => obtain ⟨s', h⟩ := h; exact ⟨s', by rw [h, e_b2, gb0]⟩
  | some Q' => obtain ⟨s', h, h2⟩ := h; exact ⟨s', by rw [h, e_b2, gb1], h2⟩
theorem tR_if {P : jm_M → tQ → Prop} {m : Option (Int32 × jm_M)} {o : Option tQ} (h : tR P m o) : tR P (jm_b2 m (fun v s => (if v = 0 then (some ((0 : Int32), s)) else (some ((1 : Int32), s))))) o := by
  cases o with
  | none => obtain ⟨s', h⟩ := h; exact ⟨s', by rw [h, e_b2, if_pos rfl]⟩
  | some Q' => obtain ⟨s', h, h2⟩ := h; exact ⟨s', by rw [h, e_b2, if_neg e10], h2⟩
theorem tR_no {P : jm_M → tQ → Prop} {m : Option (Int32 × jm_M)} {c : Prop} [Decidable c] {x : tQ} {s : jm_M} (hc : ¬ c) (h : m = some (0, s)) : tR P m (if c then some x else none) := by
  rw [if_neg hc]
  exact ⟨s, h⟩
theorem tR_yes {P : jm_M → tQ → Prop} {m : Option (Int32 × jm_M)} {c : Prop} [Decidable c] {x : tQ} {s : jm_M} (hc : c) (h : m = some (1, s)) (hp : P s x) : tR P m (if c then some x else none) := by
  rw [if_pos hc]
  exact ⟨s, h, hp⟩
/-! hill -/
theorem xt_hill {s : jm_M} {Q : tQ} {c : Nat} {v : Nat → Nat} (w : wQ Q) (xq : XQ s Q) (xv : XV s c v) (ho : Q.2.2.2 = true) : tR XQ (s_Re_takeHill_3_5 s) (if c = 1 ∧ Q.2.2.2 = true ∧ v 0 ≤ 3 ∧ tn Q.1 < 10 ∧ ¬ (v 0 = 2 ∧ earN Q.1 < tn Q.1) then some (uH Q.1 (v 0), Q.2.1, Q.2.2.1, Q.2.2.2) else none) := by
  obtain ⟨v1, v2, v3, v4⟩ := xv
  obtain ⟨hx, q4, q5, q6⟩ := xq
  have wt := w.1
  have w1 := wt.1
  obtain ⟨n0, b0⟩ := v4 0 (by omega)
  have hk6 : ∀ h, h < 10 → s.1 6 h = tkI Q.1 h := fun h hh => (hx.2 h hh).1
  unfold s_Re_takeHill_3_5
  rw [e_ldiq (j := 0) 0 rfl (by decide) (by decide), v1, n0]
  by_cases hc : c = 1
  · rw [if_pos (show nI c = 1 from (nI_c v3 (by decide) rfl).mpr hc)]
    by_cases h3 : v 0 ≤ 3
    · rw [if_neg (fun z => by rw [i_gt 3, nI_toInt (by omega)] at z; omega), hx.1]
      by_cases hn : tn Q.1 < 10
      · rw [if_neg (fun z => by rw [i_ge 10, nI_toInt (by omega)] at z; omega)]
        have J : ¬ (v 0 = 2 ∧ earN Q.1 < tn Q.1) → tR XQ (s_Re_takeHill_3_5_J43 (nI (v 0)) s) (if c = 1 ∧ Q.2.2.2 = true ∧ v 0 ≤ 3 ∧ tn Q.1 < 10 ∧ ¬ (v 0 = 2 ∧ earN Q.1 < tn Q.1) then some (uH Q.1 (v 0), Q.2.1, Q.2.2.1, Q.2.2.2) else none) := fun he => by
          unfold s_Re_takeHill_3_5_J43
          rw [hx.1, e_sti hn (by decide), e_sio (by omega), hx.1, nI_1, e_ev]
          refine tR_yes ⟨hc, ho, h3, hn, he⟩ rfl ⟨⟨?_, fun h hh => ?_⟩, ?_, ?_, ?_⟩
          · rw [e_si]; rfl
          · obtain ⟨g1, g2, g3, g4, g5, g6, g7, g8⟩ := hx.2 h hh
            refine ⟨?_, ?_, ?_, ?_, ?_, g6, g7, g8⟩
            · rw [e_sio (by omega)]
              show (jm_si s 6 (tn Q.1) (nI (v 0))).1 6 h = tkI (uH Q.1 (v 0)) h
              have ek : tkI (uH Q.1 (v 0)) h = if h < tn Q.1 + 1 then nI (if h = tn Q.1 then v 0 else tk Q.1 h) else -1 := rfl
              rw [ek]
              by_cases e : h = tn Q.1
              · rw [e, e_si, if_pos (by omega), if_pos rfl]
              · rw [e_sio (by omega), hk6 h hh, tkI, if_neg e]
                by_cases e2 : h < tn Q.1
                · rw [if_pos e2, if_pos (by omega)]
                · rw [if_neg e2, if_neg (by omega)]
            · rw [e_sio (by omega), e_sio (by omega)]; exact g2
            · rw [e_sio (by omega), e_sio (by omega)]; exact g3
            · rw [e_sio (by omega), e_sio (by omega)]; exact g4
            · rw [e_sio (by omega), e_sio (by omega)]; exact g5
          · rw [e_sio (by omega), e_sio (by omega)]; exact q4
          · rw [e_sio (by omega), e_sio (by omega)]; exact q5
          · rw [e_sio (by omega), e_sio (by omega)]; exact q6
        by_cases h2 : v 0 = 2
        · rw [if_pos (show nI (v 0) = 2 from by rw [h2]; rfl), ear5 wt hk6, e_bd]
          by_cases he : earN Q.1 < tn Q.1
          · rw [dT he, oI_t, if_neg e10]
            exact tR_no (fun z => z.2.2.2.2 ⟨h2, he⟩) rfl
          · rw [dF he, oI_f, if_pos rfl]
            exact J (fun z => he z.2)
        · rw [if_neg (show ¬ nI (v 0) = 2 from fun z => h2 ((nI_eq (by omega) (by omega)).mp (z.trans (show (2 : Int32) = nI 2 from rfl))))]
          exact J (fun z => h2 z.1)
      · rw [if_pos (by rw [i_ge 10, nI_toInt (by omega)]; omega)]
        exact tR_no (fun z => hn z.2.2.2.1) rfl
    · rw [if_pos (by rw [i_gt 3, nI_toInt (by omega)]; omega)]
      exact tR_no (fun z => h3 z.2.2.1) rfl
  · rw [if_neg (show ¬ nI c = 1 from fun z => hc ((nI_c v3 (by decide) rfl).mp z))]
    exact tR_no (fun z => hc z.1) rfl
/-! sight -/
theorem sight5 {s : jm_M} {T : tN} (wt : wT T) (hx : XN s 5 T) {a b : Nat} (ha : a < tn T) (hb : b < tn T) : s_Re_isSight s (nI a) (nI b) = some (oI ((ts T a).testBit b)) := by
  have w1 := wt.1
  unfold s_Re_isSight
  have e : s.1 7 a = nI (ts T a) := (hx.2 a (by omega)).2.1
  have hl : ts T a < 1024 := ts_lt wt (by omega)
  rw [hill5 hx.1 w1 (by omega), dT ha, oI_t, e_bd, if_neg e10, hill5 hx.1 w1 (by omega), dT hb, oI_t, e_bd, if_neg e10, e_ldi (by omega) (by decide), e, bit1o (by omega) (by omega)]
  cases (ts T a).testBit b <;> rfl
theorem xt_sight {s : jm_M} {Q : tQ} {c : Nat} {v : Nat → Nat} (w : wQ Q) (xq : XQ s Q) (xv : XV s c v) (ho : Q.2.2.2 = false) : tR XQ (s_Re_takeSight_3_5 s) (if c = 2 ∧ v 0 < tn Q.1 ∧ v 1 < tn Q.1 ∧ v 0 ≠ v 1 ∧ (ts Q.1 (v 0)).testBit (v 1) = false then some (uV Q.1 (v 0) (v 1), Q.2.1, Q.2.2.1, false) else none) := by
  obtain ⟨v1, v2, v3, v4⟩ := xv
  obtain ⟨hx, q4, q5, q6⟩ := xq
  have wt := w.1
  have w1 := wt.1
  obtain ⟨n0, b0⟩ := v4 0 (by omega)
  unfold s_Re_takeSight_3_5
  rw [e_ldiq (j := 0) 0 rfl (by decide) (by decide), e_ldiq (j := 1) 1 rfl (by decide) (by decide), v1, n0]
  by_cases hc : c = 2
  · obtain ⟨n1, b1⟩ := v4 1 (by omega)
    rw [if_pos (show nI c = 2 from (nI_c v3 (by decide) rfl).mpr hc), n1, hill5 hx.1 w1 (by omega), e_bd]
    by_cases ha : v 0 < tn Q.1
    · rw [dT ha, oI_t, if_neg e10, hill5 hx.1 w1 (by omega), e_bd]
      by_cases hb : v 1 < tn Q.1
      · rw [dT hb, oI_t, if_neg e10]
        by_cases hab : v 0 = v 1
        · rw [if_pos (by rw [hab])]
          exact tR_no (fun z => z.2.2.2.1 hab) rfl
        · rw [if_neg (fun z => hab ((nI_eq (by omega) (by omega)).mp z)), sight5 wt hx ha hb, e_bd]
          cases hs : (ts Q.1 (v 0)).testBit (v 1) with
          | true =>
            rw [oI_t, if_neg e10]
            exact tR_no (fun z => Bool.noConfusion z.2.2.2.2) rfl
          | false =>
            have ea : s.1 7 (v 0) = nI (ts Q.1 (v 0)) := (hx.2 (v 0) (by omega)).2.1
            have eb : s.1 7 (v 1) = nI (ts Q.1 (v 1)) := (hx.2 (v 1) (by omega)).2.1
            rw [oI_f, if_pos rfl, e_ldi (by omega) (by decide), e_sti (by omega) (by decide), e_ldi (by omega) (by decide), e_sti (by omega) (by decide), ea, p2 (by omega), p2 (by omega), fa_or, e_sio (by omega), eb, fa_or]
            refine tR_yes ⟨hc, ha, hb, hab, rfl⟩ rfl ⟨⟨?_, fun h hh => ?_⟩, ?_, ?_, ?_⟩
            · rw [e_sio (by omega), e_sio (by omega)]; exact hx.1
            · obtain ⟨g1, g2, g3, g4, g5, g6, g7, g8⟩ := hx.2 h hh
              refine ⟨?_, ?_, ?_, ?_, ?_, g6, g7, g8⟩
              · rw [e_sio (by omega), e_sio (by omega)]; exact g1
              · show (jm_si (jm_si s 7 (v 0) (nI (ts Q.1 (v 0) ||| 2 ^ v 1))) 7 (v 1) (nI (ts Q.1 (v 1) ||| 2 ^ v 0))).1 7 h = nI (ts (uV Q.1 (v 0) (v 1)) h)
                rw [uV_ts]
                by_cases e2 : h = v 1
                · rw [e2, e_si, if_neg (fun z => hab z.symm), if_pos rfl]
                · rw [e_sio (by omega)]
                  by_cases e1 : h = v 0
                  · rw [e1, e_si, if_pos rfl]
                  · rw [e_sio (by omega), if_neg e1, if_neg e2]; exact g2
              · rw [e_sio (by omega), e_sio (by omega)]; exact g3
              · rw [e_sio (by omega), e_sio (by omega)]; exact g4
              · rw [e_sio (by omega), e_sio (by omega)]; exact g5
            · rw [e_sio (by omega), e_sio (by omega), q4, ho]
            · rw [e_sio (by omega), e_sio (by omega)]; exact q5
            · rw [e_sio (by omega), e_sio (by omega)]; exact q6
      · rw [dF hb, oI_f, if_pos rfl]
        exact tR_no (fun z => hb z.2.2.1) rfl
    · rw [dF ha, oI_f, if_pos rfl]
      exact tR_no (fun z => ha z.2.1) rfl
  · rw [if_neg (show ¬ nI c = 2 from fun z => hc ((nI_c v3 (by decide) rfl).mp z))]
    exact tR_no (fun z => hc z.1) rfl
/-! rule -/
theorem xt_rule {s : jm_M} {Q : tQ} {c : Nat} {v : Nat → Nat} (w : wQ Q) (xq : XQ s Q) (xv : XV s c v) (ho : Q.2.2.2 = false) : tR XQ (s_Re_takeRule_3_5 s) (if c = 3 ∧ v 0 < tn Q.1 ∧ Q.2.1.testBit (v 0) = false ∧ 1 ≤ v 1 ∧ v 1 ≤ 9 ∧ 1 ≤ v 2 ∧ v 2 ≤ 9 then some (uR Q.1 (v 0) (v 1) (v 2), Q.2.1 ||| 2 ^ v 0, Q.2.2.1, false) else none) := by
  obtain ⟨v1, v2, v3, v4⟩ := xv
  obtain ⟨hx, q4, q5, q6⟩ := xq
  have wt := w.1
  have w1 := wt.1
  have w2 := w.2.1
  obtain ⟨n0, b0⟩ := v4 0 (by omega)
  unfold s_Re_takeRule_3_5
  rw [e_ldiq (j := 0) 0 rfl (by decide) (by decide), e_ldiq (j := 1) 1 rfl (by decide) (by decide), e_ldiq (j := 2) 2 rfl (by decide) (by decide), v1, n0]
  by_cases hc : c = 3
  · obtain ⟨n1, b1⟩ := v4 1 (by omega)
    obtain ⟨n2, b2⟩ := v4 2 (by omega)
    rw [if_pos (show nI c = 3 from (nI_c v3 (by decide) rfl).mpr hc), n1, n2, hill5 hx.1 w1 (by omega), e_bd]
    by_cases ha : v 0 < tn Q.1
    · rw [dT ha, oI_t, if_neg e10, q5, bit1o (by omega) (by omega)]
      cases hr : Q.2.1.testBit (v 0) with
      | true =>
        rw [oI_t, if_neg e10]
        exact tR_no (fun z => Bool.noConfusion z.2.2.1) rfl
      | false =>
        rw [oI_f, if_pos rfl]
        by_cases h1 : 1 ≤ v 1
        · rw [if_neg (fun z => by rw [i_lt 1, nI_toInt (by omega)] at z; omega)]
          by_cases h2 : v 1 ≤ 9
          · rw [if_neg (fun z => by rw [i_gt 9, nI_toInt (by omega)] at z; omega)]
            by_cases h3 : 1 ≤ v 2
            · rw [if_neg (fun z => by rw [i_lt 1, nI_toInt (by omega)] at z; omega)]
              by_cases h4 : v 2 ≤ 9
              · rw [if_pos (by rw [i_le 9, nI_toInt (by omega)]; omega), e_sti (by omega) (by decide), e_sti (by omega) (by decide), e_ev, e_sio (by omega), e_sio (by omega), q5, p2 (by omega), fa_or]
                refine tR_yes ⟨hc, ha, rfl, h1, h2, h3, h4⟩ rfl ⟨⟨?_, fun h hh => ?_⟩, ?_, ?_, ?_⟩
                · rw [e_sio (by omega), e_sio (by omega), e_sio (by omega)]; exact hx.1
                · obtain ⟨g1, g2, g3, g4, g5, g6, g7, g8⟩ := hx.2 h hh
                  refine ⟨?_, ?_, ?_, ?_, ?_, g6, g7, g8⟩
                  · rw [e_sio (by omega), e_sio (by omega), e_sio (by omega)]; exact g1
                  · rw [e_sio (by omega), e_sio (by omega), e_sio (by omega)]; exact g2
                  · rw [e_sio (by omega), e_sio (by omega)]
                    show (jm_si s 8 (v 0) (nI (v 1))).1 8 h = nI (if h = v 0 then v 1 else td Q.1 h)
                    by_cases e : h = v 0
                    · rw [e, e_si, if_pos rfl]
                    · rw [e_sio (by omega), if_neg e]; exact g3
                  · rw [e_sio (by omega)]
                    show (jm_si (jm_si s 8 (v 0) (nI (v 1))) 9 (v 0) (nI (v 2))).1 9 h = nI (if h = v 0 then v 2 else tp Q.1 h)
                    by_cases e : h = v 0
                    · rw [e, e_si, if_pos rfl]
                    · rw [e_sio (by omega), e_sio (by omega), if_neg e]; exact g4
                  · rw [e_sio (by omega), e_sio (by omega), e_sio (by omega)]; exact g5
                · rw [e_sio (by omega), e_sio (by omega), e_sio (by omega), q4, ho]
                · rw [e_si]
                · rw [e_sio (by omega), e_sio (by omega), e_sio (by omega)]; exact q6
              · rw [if_neg (fun z => by rw [i_le 9, nI_toInt (by omega)] at z; omega)]
                exact tR_no (fun z => h4 z.2.2.2.2.2.2) rfl
            · rw [if_pos (by rw [i_lt 1, nI_toInt (by omega)]; omega)]
              exact tR_no (fun z => h3 z.2.2.2.2.2.1) rfl
          · rw [if_pos (by rw [i_gt 9, nI_toInt (by omega)]; omega)]
            exact tR_no (fun z => h2 z.2.2.2.2.1) rfl
        · rw [if_pos (by rw [i_lt 1, nI_toInt (by omega)]; omega)]
          exact tR_no (fun z => h1 z.2.2.2.1) rfl
    · rw [dF ha, oI_f, if_pos rfl]
      exact tR_no (fun z => ha z.2.1) rfl
  · rw [if_neg (show ¬ nI c = 3 from fun z => hc ((nI_c v3 (by decide) rfl).mp z))]
    exact tR_no (fun z => hc z.1) rfl
/-! wood -/
theorem xt_wood {s : jm_M} {Q : tQ} {c : Nat} {v : Nat → Nat} (w : wQ Q) (xq : XQ s Q) (xv : XV s c v) (ho : Q.2.2.2 = false) : tR XQ (s_Re_takeWood_3_5 s) (if c = 2 ∧ v 0 < tn Q.1 ∧ Q.2.2.1.testBit (v 0) = false then some (uW Q.1 (v 0) (v 1), Q.2.1, Q.2.2.1 ||| 2 ^ v 0, false) else none) := by
  obtain ⟨v1, v2, v3, v4⟩ := xv
  obtain ⟨hx, q4, q5, q6⟩ := xq
  have wt := w.1
  have w1 := wt.1
  have w2 := w.2.2
  obtain ⟨n0, b0⟩ := v4 0 (by omega)
  unfold s_Re_takeWood_3_5
  rw [e_ldiq (j := 0) 0 rfl (by decide) (by decide), v1, n0]
  by_cases hc : c = 2
  · obtain ⟨n1, b1⟩ := v4 1 (by omega)
    rw [if_pos (show nI c = 2 from (nI_c v3 (by decide) rfl).mpr hc), hill5 hx.1 w1 (by omega), e_bd]
    by_cases ha : v 0 < tn Q.1
    · rw [dT ha, oI_t, if_neg e10, q6, bit1o (by omega) (by omega)]
      cases hr : Q.2.2.1.testBit (v 0) with
      | true =>
        rw [oI_t, if_neg e10]
        exact tR_no (fun z => Bool.noConfusion z.2.2) rfl
      | false =>
        rw [oI_f, if_pos rfl, e_ldiq (j := 1) 1 rfl (by decide) (by decide), n1, e_sti (by omega) (by decide), e_ev, e_sio (by omega), q6, p2 (by omega), fa_or]
        refine tR_yes ⟨hc, ha, rfl⟩ rfl ⟨⟨?_, fun h hh => ?_⟩, ?_, ?_, ?_⟩
        · rw [e_sio (by omega), e_sio (by omega)]; exact hx.1
        · obtain ⟨g1, g2, g3, g4, g5, g6, g7, g8⟩ := hx.2 h hh
          refine ⟨?_, ?_, ?_, ?_, ?_, g6, g7, g8⟩
          · rw [e_sio (by omega), e_sio (by omega)]; exact g1
          · rw [e_sio (by omega), e_sio (by omega)]; exact g2
          · rw [e_sio (by omega), e_sio (by omega)]; exact g3
          · rw [e_sio (by omega), e_sio (by omega)]; exact g4
          · rw [e_sio (by omega)]
            show (jm_si s 10 (v 0) (nI (v 1))).1 10 h = nI (if h = v 0 then v 1 else tw Q.1 h)
            by_cases e : h = v 0
            · rw [e, e_si, if_pos rfl]
            · rw [e_sio (by omega), if_neg e]; exact g5
        · rw [e_sio (by omega), e_sio (by omega), q4, ho]
        · rw [e_sio (by omega), e_sio (by omega)]; exact q5
        · rw [e_si]
    · rw [dF ha, oI_f, if_pos rfl]
      exact tR_no (fun z => ha z.2.1) rfl
  · rw [if_neg (show ¬ nI c = 2 from fun z => hc ((nI_c v3 (by decide) rfl).mp z))]
    exact tR_no (fun z => hc z.1) rfl
/-! spans -/
theorem minO {s : jm_M} {a : Nat} (ha : a < 100) : s_X_isMinute s (nI a) = some (oI (decide (a ≤ 59))) := by
  rw [k_isMi, z_inO 0 59, nI_toInt (by omega)]
  congr 2
  apply decide_eq_decide.mpr
  omega
theorem areMin {s : jm_M} {i : Nat} {I : Int32} (hI : I = nI i) (hi : i < 3) {x y : Nat} (hx : s.1 4 i = nI x) (hy : s.1 4 (i + 1) = nI y) (hx2 : x < 100) (hy2 : y < 100) : s_Re_areMinutes s I = some (oI (decide (x ≤ y ∧ y ≤ 59))) := by
  unfold s_Re_areMinutes
  rw [hI, if_neg (nI_pos (by omega)), nI_1, if_pos (by rw [i_lt 4, nI_toInt (by omega)]; omega), e_ldi (by omega) (by decide), e_ldi (by omega) (by decide), hx, hy, minO hx2, e_bd, minO hy2]
  by_cases h1 : x ≤ 59
  · rw [dT h1, oI_t, if_neg e10, e_bd]
    by_cases h2 : y ≤ 59
    · rw [dT h2, oI_t, if_neg e10, e_ldi (by omega) (by decide), e_ldi (by omega) (by decide), hx, hy]
      by_cases h3 : x ≤ y
      · rw [if_neg (fun z => by rw [fa_lt, nI_toInt (by omega), nI_toInt (by omega)] at z; omega), dT ⟨h3, h2⟩]; rfl
      · rw [if_pos (by rw [fa_lt, nI_toInt (by omega), nI_toInt (by omega)]; omega), dF (fun z => h3 z.1)]; rfl
    · rw [dF h2, oI_f, if_pos rfl, dF (fun z => h2 z.2)]; rfl
  · rw [dF h1, oI_f, if_pos rfl, dF (fun z => by omega)]; rfl
theorem or_bits {w u : Int64} {x y : Nat} {g : Nat → Bool} (hw : ∀ t, t < 64 → b64 w t = g t) (hu : ∀ t, t < 64 → b64 u t = decide (x ≤ t ∧ t ≤ y)) : ∀ t, t < 64 → b64 (w ||| u) t = (g t || inM x y t) := fun t ht => by rw [l_or, hw t ht, hu t ht]; rfl
theorem xt_sleep {s : jm_M} {Q : tQ} {c : Nat} {v : Nat → Nat} (w : wQ Q) (xq : XQ s Q) (xv : XV s c v) (ho : Q.2.2.2 = false) : tR XQ (s_Re_takeSleep_3_5 s) (if c = 3 ∧ v 0 < tn Q.1 ∧ v 1 ≤ v 2 ∧ v 2 ≤ 59 then some (uA Q.1 (v 0) (v 1) (v 2), Q.2.1, Q.2.2.1, false) else none) := by
  obtain ⟨v1, v2, v3, v4⟩ := xv
  obtain ⟨hx, q4, q5, q6⟩ := xq
  have wt := w.1
  have w1 := wt.1
  obtain ⟨n0, b0⟩ := v4 0 (by omega)
  unfold s_Re_takeSleep_3_5
  rw [e_ldiq (j := 0) 0 rfl (by decide) (by decide), v1, n0]
  by_cases hc : c = 3
  · obtain ⟨n1, b1⟩ := v4 1 (by omega)
    obtain ⟨n2, b2⟩ := v4 2 (by omega)
    rw [if_pos (show nI c = 3 from (nI_c v3 (by decide) rfl).mpr hc), hill5 hx.1 w1 (by omega), e_bd]
    by_cases ha : v 0 < tn Q.1
    · rw [dT ha, oI_t, if_neg e10, areMin (I := 1) (i := 1) rfl (by decide) n1 n2 b1 b2, e_bd]
      by_cases hm : v 1 ≤ v 2 ∧ v 2 ≤ 59
      · obtain ⟨u, hu, hub⟩ := mf_bits hm.1 (by omega) s
        rw [dT hm, oI_t, if_neg e10, e_ldl (by omega) (by decide), e_ldiq (j := 1) 1 rfl (by decide) (by decide), n1, e_ldiq (j := 2) 2 rfl (by decide) (by decide), n2, hu, e_bd, e_stl (by omega) (by decide)]
        refine tR_yes ⟨hc, ha, hm.1, hm.2⟩ rfl ⟨⟨hx.1, fun h hh => ?_⟩, by rw [← ho]; exact q4, q5, q6⟩
        obtain ⟨g1, g2, g3, g4, g5, g6, g7, g8⟩ := hx.2 h hh
        have g6a := (hx.2 (v 0) (by omega)).2.2.2.2.2.1
        refine ⟨g1, g2, g3, g4, g5, fun t ht => ?_, fun t ht => ?_, fun b hb t ht => ?_⟩
        · show b64 ((jm_sl s 12 (v 0) (s.2 12 (v 0) ||| u)).2 12 h) t = (ta Q.1 h t || (decide (h = v 0) && inM (v 1) (v 2) t))
          by_cases e : h = v 0
          · rw [e, e_sl, or_bits g6a hub t ht]; simp
          · rw [e_slo (by omega)]
            have : b64 (s.2 12 h) t = ta Q.1 h t := g6 t ht
            rw [this]; simp [e]
        · rw [e_slo (by omega)]; exact g7 t ht
        · rw [e_slo (by omega)]; exact g8 b hb t ht
      · rw [dF hm, oI_f, if_pos rfl]
        exact tR_no (fun z => hm ⟨z.2.2.1, z.2.2.2⟩) rfl
    · rw [dF ha, oI_f, if_pos rfl]
      exact tR_no (fun z => ha z.2.1) rfl
  · rw [if_neg (show ¬ nI c = 3 from fun z => hc ((nI_c v3 (by decide) rfl).mp z))]
    exact tR_no (fun z => hc z.1) rfl
theorem xt_liar {s : jm_M} {Q : tQ} {c : Nat} {v : Nat → Nat} (w : wQ Q) (xq : XQ s Q) (xv : XV s c v) (ho : Q.2.2.2 = false) : tR XQ (s_Re_takeLiar_3_5 s) (if c = 3 ∧ v 0 < tn Q.1 ∧ tk Q.1 (v 0) ≤ 1 ∧ v 1 ≤ v 2 ∧ v 2 ≤ 59 then some (uL Q.1 (v 0) (v 1) (v 2), Q.2.1, Q.2.2.1, false) else none) := by
  obtain ⟨v1, v2, v3, v4⟩ := xv
  obtain ⟨hx, q4, q5, q6⟩ := xq
  have wt := w.1
  have w1 := wt.1
  obtain ⟨n0, b0⟩ := v4 0 (by omega)
  unfold s_Re_takeLiar_3_5
  rw [e_ldiq (j := 0) 0 rfl (by decide) (by decide), v1, n0]
  by_cases hc : c = 3
  · obtain ⟨n1, b1⟩ := v4 1 (by omega)
    obtain ⟨n2, b2⟩ := v4 2 (by omega)
    rw [if_pos (show nI c = 3 from (nI_c v3 (by decide) rfl).mpr hc), hill5 hx.1 w1 (by omega), e_bd]
    by_cases ha : v 0 < tn Q.1
    · rw [dT ha, oI_t, if_neg e10, areMin (I := 1) (i := 1) rfl (by decide) n1 n2 b1 b2, e_bd]
      by_cases hm : v 1 ≤ v 2 ∧ v 2 ≤ 59
      · have hk3 := (wt.2.1 (v 0) ha).1
        have ek : s.1 6 (v 0) = nI (tk Q.1 (v 0)) := ((hx.2 (v 0) (by omega)).1).trans (by rw [tkI, if_pos ha])
        rw [dT hm, oI_t, if_neg e10, e_ldi (by omega) (by decide), ek]
        by_cases k2 : tk Q.1 (v 0) = 2
        · rw [if_pos (show nI (tk Q.1 (v 0)) = 2 from by rw [k2]; rfl)]
          exact tR_no (fun z => by omega) rfl
        · rw [if_neg (show ¬ nI (tk Q.1 (v 0)) = 2 from fun z => k2 ((nI_c (by omega) (by decide) rfl).mp z)), e_ldi (by omega) (by decide), ek]
          by_cases k3 : tk Q.1 (v 0) = 3
          · rw [if_pos (show nI (tk Q.1 (v 0)) = 3 from by rw [k3]; rfl)]
            exact tR_no (fun z => by omega) rfl
          · obtain ⟨u, hu, hub⟩ := mf_bits hm.1 (by omega) s
            rw [if_neg (show ¬ nI (tk Q.1 (v 0)) = 3 from fun z => k3 ((nI_c (by omega) (by decide) rfl).mp z)), e_ldl (by omega) (by decide), e_ldiq (j := 1) 1 rfl (by decide) (by decide), n1, e_ldiq (j := 2) 2 rfl (by decide) (by decide), n2, hu, e_bd, e_stl (by omega) (by decide)]
            refine tR_yes ⟨hc, ha, by omega, hm.1, hm.2⟩ rfl ⟨⟨hx.1, fun h hh => ?_⟩, by rw [← ho]; exact q4, q5, q6⟩
            obtain ⟨g1, g2, g3, g4, g5, g6, g7, g8⟩ := hx.2 h hh
            have g7a := (hx.2 (v 0) (by omega)).2.2.2.2.2.2.1
            refine ⟨g1, g2, g3, g4, g5, fun t ht => ?_, fun t ht => ?_, fun b hb t ht => ?_⟩
            · rw [e_slo (by omega)]; exact g6 t ht
            · show b64 ((jm_sl s 13 (v 0) (s.2 13 (v 0) ||| u)).2 13 h) t = (tz Q.1 h t || (decide (h = v 0) && inM (v 1) (v 2) t))
              by_cases e : h = v 0
              · rw [e, e_sl, or_bits g7a hub t ht]; simp
              · rw [e_slo (by omega)]
                have : b64 (s.2 13 h) t = tz Q.1 h t := g7 t ht
                rw [this]; simp [e]
            · rw [e_slo (by omega)]; exact g8 b hb t ht
      · rw [dF hm, oI_f, if_pos rfl]
        exact tR_no (fun z => hm ⟨z.2.2.2.1, z.2.2.2.2⟩) rfl
    · rw [dF ha, oI_f, if_pos rfl]
      exact tR_no (fun z => ha z.2.1) rfl
  · rw [if_neg (show ¬ nI c = 3 from fun z => hc ((nI_c v3 (by decide) rfl).mp z))]
    exact tR_no (fun z => hc z.1) rfl
theorem xt_mist {s : jm_M} {Q : tQ} {c : Nat} {v : Nat → Nat} (w : wQ Q) (xq : XQ s Q) (xv : XV s c v) (ho : Q.2.2.2 = false) (ha : v 0 < tn Q.1) : tR XQ (s_Re_takeMist_3_5 s) (if c = 4 ∧ v 0 < tn Q.1 ∧ v 1 < tn Q.1 ∧ (ts Q.1 (v 0)).testBit (v 1) = true ∧ v 2 ≤ v 3 ∧ v 3 ≤ 59 then some (uG Q.1 (v 0) (v 1) (v 2) (v 3), Q.2.1, Q.2.2.1, false) else none) := by
  obtain ⟨v1, v2, v3, v4⟩ := xv
  obtain ⟨hx, q4, q5, q6⟩ := xq
  have wt := w.1
  have w1 := wt.1
  obtain ⟨n0, b0⟩ := v4 0 (by omega)
  unfold s_Re_takeMist_3_5
  rw [e_ldiq (j := 0) 0 rfl (by decide) (by decide), e_ldiq (j := 1) 1 rfl (by decide) (by decide), v1, n0]
  by_cases hc : c = 4
  · obtain ⟨n1, b1⟩ := v4 1 (by omega)
    obtain ⟨n2, b2⟩ := v4 2 (by omega)
    obtain ⟨n3, b3⟩ := v4 3 (by omega)
    rw [if_pos (show nI c = 4 from (nI_c v3 (by decide) rfl).mpr hc), n1]
    by_cases hb : v 1 < tn Q.1
    · rw [sight5 wt hx ha hb, e_bd]
      cases hs : (ts Q.1 (v 0)).testBit (v 1) with
      | false =>
        rw [oI_f, if_pos rfl]
        exact tR_no (fun z => Bool.noConfusion z.2.2.2.1) rfl
      | true =>
        have hab : v 0 ≠ v 1 := fun e => by
          have := (wt.2.1 (v 0) ha).2.2.2.2.2.2.2
          rw [← e] at hs
          rw [this] at hs
          cases hs
        rw [oI_t, if_neg e10, areMin (I := 2) (i := 2) rfl (by decide) n2 n3 b2 b3, e_bd]
        by_cases hm : v 2 ≤ v 3 ∧ v 3 ≤ 59
        · obtain ⟨u, hu, hub⟩ := mf_bits hm.1 (by omega) s
          rw [dT hm, oI_t, if_neg e10, e_ldiq (j := 2) 2 rfl (by decide) (by decide), n2, e_ldiq (j := 3) 3 rfl (by decide) (by decide), n3, hu, e_bd]
          unfold s_Ne_addMist_5
          have ix : ∀ p q : Nat, nI p * 10 + nI q = nI (10 * p + q) := fun p q => by rw [show (10 : Int32) = nI 10 from rfl, pk_mul, nI_add, Nat.mul_comm]
          rw [hill5 hx.1 w1 (by omega), dT ha, oI_t, e_bd, if_neg e10, hill5 hx.1 w1 (by omega), dT hb, oI_t, e_bd, if_neg e10, ix, ix, e_vi, e_ldl (by omega) (by decide), e_stl (by omega) (by decide), e_vi, e_ldl (by omega) (by decide), e_stl (by omega) (by decide), e_slo (by omega), e_bd]
          refine tR_yes ⟨hc, ha, hb, rfl, hm.1, hm.2⟩ rfl ⟨⟨hx.1, fun h hh => ?_⟩, by rw [← ho]; exact q4, q5, q6⟩
          obtain ⟨g1, g2, g3, g4, g5, g6, g7, g8⟩ := hx.2 h hh
          have gab : ∀ t, t < 64 → b64 (s.2 14 (10 * v 0 + v 1)) t = tm Q.1 (v 0) (v 1) t := (hx.2 (v 0) (by omega)).2.2.2.2.2.2.2 (v 1) (by omega)
          have gba : ∀ t, t < 64 → b64 (s.2 14 (10 * v 1 + v 0)) t = tm Q.1 (v 1) (v 0) t := (hx.2 (v 1) (by omega)).2.2.2.2.2.2.2 (v 0) (by omega)
          refine ⟨g1, g2, g3, g4, g5, fun t ht => ?_, fun t ht => ?_, fun b hb2 t ht => ?_⟩
          · rw [e_slo (by omega), e_slo (by omega)]; exact g6 t ht
          · rw [e_slo (by omega), e_slo (by omega)]; exact g7 t ht
          · show b64 ((jm_sl (jm_sl s 14 (10 * v 0 + v 1) (s.2 14 (10 * v 0 + v 1) ||| u)) 14 (10 * v 1 + v 0) (s.2 14 (10 * v 1 + v 0) ||| u)).2 14 (10 * h + b)) t = (tm Q.1 h b t || (decide ((h = v 0 ∧ b = v 1) ∨ (h = v 1 ∧ b = v 0)) && inM (v 2) (v 3) t))
            by_cases e2 : h = v 1 ∧ b = v 0
            · obtain ⟨rfl, rfl⟩ := e2
              rw [e_sl, or_bits gba hub t ht]; simp
            · rw [e_slo (by omega)]
              by_cases e1 : h = v 0 ∧ b = v 1
              · obtain ⟨rfl, rfl⟩ := e1
                rw [e_sl, or_bits gab hub t ht]; simp
              · rw [e_slo (by omega)]
                have : b64 (s.2 14 (10 * h + b)) t = tm Q.1 h b t := g8 b hb2 t ht
                rw [this, dF (fun z => z.elim e1 e2)]; simp
        · rw [dF hm, oI_f, if_pos rfl]
          exact tR_no (fun z => hm ⟨z.2.2.2.2.1, z.2.2.2.2.2⟩) rfl
    · have : s_Re_isSight s (nI (v 0)) (nI (v 1)) = some 0 := by
        unfold s_Re_isSight
        rw [hill5 hx.1 w1 (by omega), dT ha, oI_t, e_bd, if_neg e10, hill5 hx.1 w1 (by omega), dF hb, oI_f, e_bd, if_pos rfl]
      rw [this, e_bd, if_pos rfl]
      exact tR_no (fun z => hb z.2.2.1) rfl
  · rw [if_neg (show ¬ nI c = 4 from fun z => hc ((nI_c v3 (by decide) rfl).mp z))]
    exact tR_no (fun z => hc z.1) rfl
/-! any item -/
theorem x_take {s : jm_M} {Q : tQ} {l c : Nat} {v : Nat → Nat} (w : wQ Q) (xq : XQ s Q) (xv : XV s c v) (hl : l < 256) (h3 : s.1 3 3 = tx_b l) : tR XQ (s_Re_takeItem_3_5 s) (tkA l c v Q) := by
  have wt := w.1
  have w1 := wt.1
  have n0 := xv.2.2.2 0 (by have := xv.2.1; omega)
  unfold s_Re_takeItem_3_5 tkA
  rw [h3]
  by_cases l104 : l = 104
  · subst l104
    rw [if_pos (show tx_b 104 = 104 by decide), if_pos rfl, xq.2.1]
    cases ho : Q.2.2.2 with
    | false =>
      rw [oI_f, if_pos rfl]
      exact tR_no (fun z => Bool.noConfusion z.2.1) rfl
    | true =>
      rw [oI_t, if_neg e10]
      have := xt_hill w xq xv ho
      rw [ho] at this
      exact tR_if this
  · have ne : ∀ k, k < 128 → l ≠ k → ¬ tx_b l = nI k := fun k hk h z => h ((txb_eq hl hk).mp z)
    rw [if_neg (show ¬ tx_b l = 104 from ne 104 (by decide) l104), if_neg l104, e_ev]
    obtain ⟨s1, hs1⟩ : ∃ s1, s1 = jm_si s 3 4 0 := ⟨_, rfl⟩
    rw [← hs1]
    have xq1 : XQ s1 (Q.1, Q.2.1, Q.2.2.1, false) := by
      rw [hs1]
      refine ⟨XN_same (fun c h1 h2 => ⟨fun h => by rw [e_sio (by omega)], fun h => ⟨by funext k; rw [e_sio (by omega)], rfl⟩⟩) xq.1, by rw [e_si]; rfl, ?_, ?_⟩
      · rw [e_sio (by omega)]; exact xq.2.2.1
      · rw [e_sio (by omega)]; exact xq.2.2.2
    have xv1 : XV s1 c v := by
      rw [hs1]
      refine ⟨by rw [e_sio (by omega)]; exact xv.1, xv.2.1, xv.2.2.1, fun j hj => ?_⟩
      rw [e_sio (by omega)]
      exact xv.2.2.2 j hj
    have wq1 : wQ (Q.1, Q.2.1, Q.2.2.1, false) := w
    have h33 : s1.1 3 3 = tx_b l := by rw [hs1, e_sio (by omega)]; exact h3
    rw [e_ldiq (j := 0) 0 rfl (by decide) (by decide), (xv1.2.2.2 0 (by have := xv.2.1; omega)).1, hill5 xq1.1.1 w1 (by omega), e_bd, h33]
    by_cases ha : v 0 < tn Q.1
    · rw [dT ha, oI_t, if_neg e10, e_vi]
      by_cases l118 : l = 118
      · subst l118
        rw [show tx_b 118 = 118 by decide, if_neg (by decide), if_neg (by decide), if_neg (by decide), if_neg (by decide), if_neg (by decide), if_neg (by decide), if_neg (by decide), if_neg (by decide), if_neg (by decide), if_neg (by decide), if_neg (by decide), if_neg (by decide), if_neg (by decide), if_neg (by decide), if_neg (by decide), if_pos rfl, if_pos rfl]
        exact tR_gb (xt_sight (Q := (Q.1, Q.2.1, Q.2.2.1, false)) wq1 xq1 xv1 rfl)
      rw [if_neg l118]
      by_cases l114 : l = 114
      · subst l114
        rw [show tx_b 114 = 114 by decide, if_neg (by decide), if_neg (by decide), if_neg (by decide), if_neg (by decide), if_neg (by decide), if_neg (by decide), if_neg (by decide), if_neg (by decide), if_neg (by decide), if_neg (by decide), if_neg (by decide), if_pos rfl, if_pos rfl]
        exact tR_gb (xt_rule (Q := (Q.1, Q.2.1, Q.2.2.1, false)) wq1 xq1 xv1 rfl)
      rw [if_neg l114]
      by_cases l119 : l = 119
      · subst l119
        rw [show tx_b 119 = 119 by decide, if_neg (by decide), if_neg (by decide), if_neg (by decide), if_neg (by decide), if_neg (by decide), if_neg (by decide), if_neg (by decide), if_neg (by decide), if_neg (by decide), if_neg (by decide), if_neg (by decide), if_neg (by decide), if_neg (by decide), if_neg (by decide), if_neg (by decide), if_neg (by decide), if_pos rfl, if_pos rfl]
        exact tR_gb (xt_wood (Q := (Q.1, Q.2.1, Q.2.2.1, false)) wq1 xq1 xv1 rfl)
      rw [if_neg l119]
      by_cases l115 : l = 115
      · subst l115
        rw [show tx_b 115 = 115 by decide, if_neg (by decide), if_neg (by decide), if_neg (by decide), if_neg (by decide), if_neg (by decide), if_neg (by decide), if_neg (by decide), if_neg (by decide), if_neg (by decide), if_neg (by decide), if_neg (by decide), if_neg (by decide), if_pos rfl, if_pos rfl]
        exact tR_gb (xt_sleep (Q := (Q.1, Q.2.1, Q.2.2.1, false)) wq1 xq1 xv1 rfl)
      rw [if_neg l115]
      by_cases l103 : l = 103
      · subst l103
        rw [show tx_b 103 = 103 by decide, if_pos rfl, if_pos rfl]
        exact tR_gb (xt_mist (Q := (Q.1, Q.2.1, Q.2.2.1, false)) wq1 xq1 xv1 rfl ha)
      rw [if_neg l103]
      by_cases l108 : l = 108
      · subst l108
        rw [show tx_b 108 = 108 by decide, if_neg (by decide), if_neg (by decide), if_neg (by decide), if_neg (by decide), if_neg (by decide), if_pos rfl, if_pos rfl]
        exact tR_gb (xt_liar (Q := (Q.1, Q.2.1, Q.2.2.1, false)) wq1 xq1 xv1 rfl)
      rw [if_neg l108]
      have z : ∀ k, k < 128 → l ≠ k → (tx_b l = nI k) = False := fun k hk h => by simp [ne k hk h]
      have z103 : (tx_b l = 103) = False := z 103 (by decide) l103
      have z108 : (tx_b l = 108) = False := z 108 (by decide) l108
      have z114 : (tx_b l = 114) = False := z 114 (by decide) l114
      have z115 : (tx_b l = 115) = False := z 115 (by decide) l115
      have z118 : (tx_b l = 118) = False := z 118 (by decide) l118
      have z119 : (tx_b l = 119) = False := z 119 (by decide) l119
      simp only [z103, z108, z114, z115, z118, z119, if_false, ite_self]
      exact ⟨s1, rfl⟩
    · rw [dF ha, oI_f, if_pos rfl]
      split
      · exact tR_no (fun z => ha z.2.1) rfl
      · split
        · exact tR_no (fun z => ha z.2.1) rfl
        · split
          · exact tR_no (fun z => ha z.2.1) rfl
          · split
            · exact tR_no (fun z => ha z.2.1) rfl
            · split
              · exact tR_no (fun z => ha z.2.1) rfl
              · split
                · exact tR_no (fun z => ha z.2.1) rfl
                · exact ⟨s1, rfl⟩
