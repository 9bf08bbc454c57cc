/-! the model's items: sights, rules, wood, spans -/
theorem ZE_same {s s' : jm_M} {c : Nat} {E : tE} (e67 : s'.1 67 3 = s.1 67 3) (e68 : ∀ k, s'.1 68 k = s.1 68 k) (h : ZE s 3 c E) : ZE s' 3 c E := by
  refine ⟨e67.trans h.1, h.2.1, fun j hj => ?_⟩
  have := h.2.2 j hj
  rw [e68, e68, e68, e68, e68]
  exact this
theorem tk118 {c : Nat} {v : Nat → Nat} {Q : tQ} : tkA 118 c v Q = if c = 2 ∧ v 0 < tn Q.1 ∧ v 1 < tn Q.1 ∧ v 0 ≠ v 1 ∧ (ts Q.1 (v 0)).testBit (v 1) = false then some (uV Q.1 (v 0) (v 1), Q.2.1, Q.2.2.1, false) else none := by
  unfold tkA
  rw [if_neg (by decide), if_pos rfl]
theorem tk114 {c : Nat} {v : Nat → Nat} {Q : tQ} : tkA 114 c v Q = if c = 3 ∧ v 0 < tn Q.1 ∧ Q.2.1.testBit (v 0) = false ∧ 1 ≤ v 1 ∧ v 1 ≤ 9 ∧ 1 ≤ v 2 ∧ v 2 ≤ 9 then some (uR Q.1 (v 0) (v 1) (v 2), Q.2.1 ||| 2 ^ v 0, Q.2.2.1, false) else none := by
  unfold tkA
  rw [if_neg (by decide), if_neg (by decide), if_pos rfl]
theorem tk119 {c : Nat} {v : Nat → Nat} {Q : tQ} : tkA 119 c v Q = if c = 2 ∧ v 0 < tn Q.1 ∧ Q.2.2.1.testBit (v 0) = false then some (uW Q.1 (v 0) (v 1), Q.2.1, Q.2.2.1 ||| 2 ^ v 0, false) else none := by
  unfold tkA
  rw [if_neg (by decide), if_neg (by decide), if_neg (by decide), if_pos rfl]
theorem tk115 {c : Nat} {v : Nat → Nat} {Q : tQ} : tkA 115 c v Q = if c = 3 ∧ v 0 < tn Q.1 ∧ v 1 ≤ v 2 ∧ v 2 ≤ 59 then some (uA Q.1 (v 0) (v 1) (v 2), Q.2.1, Q.2.2.1, false) else none := by
  unfold tkA
  rw [if_neg (by decide), if_neg (by decide), if_neg (by decide), if_neg (by decide), if_pos rfl]
theorem tk103 {c : Nat} {v : Nat → Nat} {Q : tQ} : tkA 103 c v Q = if c = 4 ∧ v 0 < tn Q.1 ∧ v 1 < tn Q.1 ∧ (ts Q.1 (v 0)).testBit (v 1) = true ∧ v 2 ≤ v 3 ∧ v 3 ≤ 59 then some (uG Q.1 (v 0) (v 1) (v 2) (v 3), Q.2.1, Q.2.2.1, false) else none := by
  unfold tkA
  rw [if_neg (by decide), if_neg (by decide), if_neg (by decide), if_neg (by decide), if_neg (by decide), if_pos rfl]
theorem tk108 {c : Nat} {v : Nat → Nat} {Q : tQ} : tkA 108 c v Q = if c = 3 ∧ v 0 < tn Q.1 ∧ tk Q.1 (v 0) ≤ 1 ∧ v 1 ≤ v 2 ∧ v 2 ≤ 59 then some (uL Q.1 (v 0) (v 1) (v 2), Q.2.1, Q.2.2.1, false) else none := by
  unfold tkA
  rw [if_neg (by decide), if_neg (by decide), if_neg (by decide), if_neg (by decide), if_neg (by decide), if_neg (by decide), if_pos rfl]
/-! sight -/
theorem zt_see {s : jm_M} {len p : Nat} {f : Nat → Nat} {Q : tQ} (ht : tZ s len f) (hp : s.1 59 15 = nI (p + 1)) (hpl : p < len) (w : wQ Q) (zq : ZQ s p Q) (ho : Q.2.2.2 = false) : zO s (s_Z_seeItem s) (stpL 118 f len p Q) := by
  have wt := w.1
  have w1 := w.1.1
  unfold s_Z_seeItem
  rcases z_numbers (m := 2) (M := 2) ht hp (by omega) (by decide) (by decide) rfl with ⟨s1, a1, a2, a3⟩ | ⟨v, q, s1, a1, a2, a3, a4, a5⟩
  · rw [stpL_no (l := 118) (Q := Q) a3 (fun c v hc => by rw [tk118, if_neg (fun z => hc z.1)]), a1, e_b2, if_pos rfl]
    exact ⟨s1, rfl, lo_nf a2⟩
  · have hb := rdI_bd 4 0 (p + 1) (fun _ => 0) 2 v q (fun j hj => by omega) a1
    obtain ⟨n0, b0⟩ := a5 0 (by decide)
    obtain ⟨n1, b1⟩ := a5 1 (by decide)
    have zq1 : ZQ s1 p Q := ZQ_same a3 (Nat.le_refl _) zq
    obtain ⟨z1, z2, ⟨c, E, z3, z4, z5⟩, z6, z7, z8⟩ := id zq1
    rw [stpL_yes a1, a2, e_b2, if_neg e10, e_ldiq (j := 0) 0 rfl (by decide) (by decide), n0, z_isRead z1 w1 b0, e_bd, tk118]
    by_cases ha : v 0 < tn Q.1
    · rw [dT ha, oI_t, if_neg e10, e_ldiq (j := 1) 1 rfl (by decide) (by decide), n1, z_isRead z1 w1 b1, e_bd]
      by_cases hb2 : v 1 < tn Q.1
      · rw [dT hb2, oI_t, if_neg e10, e_ldiq (j := 0) 0 rfl (by decide) (by decide), n0, e_ldiq (j := 1) 1 rfl (by decide) (by decide), n1]
        by_cases hab : v 0 = v 1
        · rw [if_pos (by rw [hab])]
          exact zO_no (lo_nf a3) (if_neg (fun z => z.2.2.2.1 hab)) rfl
        · have ea : s1.1 63 (10 * 3 + v 0) = nI (ts Q.1 (v 0)) := (z2 (v 0) ha).2.1
          have eb : s1.1 63 (10 * 3 + v 1) = nI (ts Q.1 (v 1)) := (z2 (v 1) hb2).2.1
          have l0 : ts Q.1 (v 0) < 1024 := ts_lt wt (by omega)
          rw [if_neg (fun z => hab ((nI_eq (by omega) (by omega)).mp z)), e_ldiq (j := 0) 0 rfl (by decide) (by decide), n0, ix30, e_ldi (by omega) (by decide), ea, e_ldiq (j := 1) 1 rfl (by decide) (by decide), n1, z_hasO s1 (by omega) (by omega), e_bd]
          cases hs : (ts Q.1 (v 0)).testBit (v 1) with
          | true =>
            rw [oI_t, if_neg e10]
            exact zO_no (lo_nf a3) (if_neg (fun z => Bool.noConfusion z.2.2.2.2)) rfl
          | false =>
            rw [oI_f, if_pos rfl, e_ldiq (j := 0) 0 rfl (by decide) (by decide), n0, ix30, e_vi, e_ldi (by omega) (by decide), ea, e_ldiq (j := 1) 1 rfl (by decide) (by decide), n1, e_sti (by omega) (by decide), p2 (by omega), fa_or, e_ldiq (j := 1) 1 rfl (by decide) (by decide), e_sio (by omega), n1, ix30, e_vi, e_ldi (by omega) (by decide), e_sio (by omega), eb, e_ldiq (j := 0) 0 rfl (by decide) (by decide), e_sio (by omega), n0, e_sti (by omega) (by decide), p2 (by omega), fa_or]
            refine zO_yes (lo_si (lo_si (lo_nf a3) (by omega)) (by omega)) (if_pos ⟨rfl, ha, hb2, hab, rfl⟩) rfl ?_ ⟨?_, fun h hh => ?_, ⟨c, E, ZE_same ?_ (fun k => ?_) z3, z4, by omega⟩, ?_, ?_, ?_⟩
            · rw [e_sio (by omega), e_sio (by omega)]; exact a4
            · rw [e_sio (by omega), e_sio (by omega)]; exact z1
            · obtain ⟨g1, g2, g3, g4, g5⟩ := z2 h hh
              refine ⟨?_, ?_, ?_, ?_, ?_⟩
              · rw [e_sio (by omega), e_sio (by omega)]; exact g1
              · rw [uV_ts]
                by_cases e2 : h = v 1
                · rw [e2, e_si, if_neg (fun z => hab z.symm), if_pos rfl]
                · rw [e_sio (by omega)]
                  by_cases e1 : h = v 0
                  · rw [e1, e_si, if_pos rfl]
                  · rw [e_sio (by omega), if_neg e1, if_neg e2]; exact g2
              · rw [e_sio (by omega), e_sio (by omega)]; exact g3
              · rw [e_sio (by omega), e_sio (by omega)]; exact g4
              · rw [e_sio (by omega), e_sio (by omega)]; exact g5
            · rw [e_sio (by omega), e_sio (by omega)]
            · rw [e_sio (by omega), e_sio (by omega)]
            · rw [e_sio (by omega), e_sio (by omega)]; exact z6
            · rw [e_sio (by omega), e_sio (by omega)]; exact z7
            · rw [e_sio (by omega), e_sio (by omega), z8, ho]
      · rw [dF hb2, oI_f, if_pos rfl]
        exact zO_no (lo_nf a3) (if_neg (fun z => hb2 z.2.2.1)) rfl
    · rw [dF ha, oI_f, if_pos rfl]
      exact zO_no (lo_nf a3) (if_neg (fun z => ha z.2.1)) rfl
/-! rule -/
theorem zt_rule {s : jm_M} {len p : Nat} {f : Nat → Nat} {Q : tQ} (ht : tZ s len f) (hp : s.1 59 15 = nI (p + 1)) (hpl : p < len) (w : wQ Q) (zq : ZQ s p Q) (ho : Q.2.2.2 = false) : zO s (s_Z_ruleItem s) (stpL 114 f len p Q) := by
  have wt := w.1
  have w1 := w.1.1
  have w2 := w.2.1
  unfold s_Z_ruleItem
  rcases z_numbers (m := 3) (M := 3) ht hp (by omega) (by decide) (by decide) rfl with ⟨s1, a1, a2, a3⟩ | ⟨v, q, s1, a1, a2, a3, a4, a5⟩
  · rw [stpL_no (l := 114) (Q := Q) a3 (fun c v hc => by rw [tk114, if_neg (fun z => hc z.1)]), a1, e_b2, if_pos rfl]
    exact ⟨s1, rfl, lo_nf a2⟩
  · have hb := rdI_bd 4 0 (p + 1) (fun _ => 0) 3 v q (fun j hj => by omega) a1
    obtain ⟨n0, b0⟩ := a5 0 (by decide)
    obtain ⟨n1, b1⟩ := a5 1 (by decide)
    obtain ⟨n2, b2⟩ := a5 2 (by decide)
    have zq1 : ZQ s1 p Q := ZQ_same a3 (Nat.le_refl _) zq
    obtain ⟨z1, z2, ⟨c, E, z3, z4, z5⟩, z6, z7, z8⟩ := id zq1
    rw [stpL_yes a1, a2, e_b2, if_neg e10, e_ldiq (j := 0) 0 rfl (by decide) (by decide), n0, z_isRead z1 w1 b0, e_bd, tk114]
    by_cases ha : v 0 < tn Q.1
    · rw [dT ha, oI_t, if_neg e10, e_ldiq (j := 1) 1 rfl (by decide) (by decide), n1, zin_n s1 (by omega) 1 9, e_bd]
      by_cases h1 : 1 ≤ v 1 ∧ v 1 ≤ 9
      · rw [dT h1, oI_t, if_neg e10, e_ldiq (j := 2) 2 rfl (by decide) (by decide), n2, zin_n s1 (by omega) 1 9, e_bd]
        by_cases h2 : 1 ≤ v 2 ∧ v 2 ≤ 9
        · rw [dT h2, oI_t, if_neg e10, e_ldiq (j := 0) 0 rfl (by decide) (by decide), n0, z6, z_hasO s1 (by omega) (by omega), e_bd]
          cases hr : Q.2.1.testBit (v 0) with
          | true =>
            rw [oI_t, if_neg e10]
            exact zO_no (lo_nf a3) (if_neg (fun z => Bool.noConfusion z.2.2.1)) rfl
          | false =>
            rw [oI_f, if_pos rfl, e_ldiq (j := 0) 0 rfl (by decide) (by decide), n0, p2 (by omega), fa_or, e_ev, e_ldiq (j := 0) 0 rfl (by decide) (by decide), e_sio (by omega), n0, e_ldiq (j := 1) 1 rfl (by decide) (by decide), e_sio (by omega), n1, ix30, e_sti (by omega) (by decide), e_ldiq (j := 0) 0 rfl (by decide) (by decide), e_sio (by omega), e_sio (by omega), n0, e_ldiq (j := 2) 2 rfl (by decide) (by decide), e_sio (by omega), e_sio (by omega), n2, ix30, e_sti (by omega) (by decide)]
            refine zO_yes (lo_si (lo_si (lo_si (lo_nf a3) (by omega)) (by omega)) (by omega)) (if_pos ⟨rfl, ha, rfl, h1.1, h1.2, h2.1, h2.2⟩) rfl ?_ ⟨?_, fun h hh => ?_, ⟨c, E, ZE_same ?_ (fun k => ?_) z3, z4, by omega⟩, ?_, ?_, ?_⟩
            · rw [e_sio (by omega), e_sio (by omega), e_sio (by omega)]; exact a4
            · rw [e_sio (by omega), e_sio (by omega), e_sio (by omega)]; exact z1
            · obtain ⟨g1, g2, g3, g4, g5⟩ := z2 h hh
              refine ⟨?_, ?_, ?_, ?_, ?_⟩
              · rw [e_sio (by omega), e_sio (by omega), e_sio (by omega)]; exact g1
              · rw [e_sio (by omega), e_sio (by omega), e_sio (by omega)]; exact g2
              · rw [e_sio (by omega)]
                show _ = nI (if h = v 0 then v 1 else td Q.1 h)
                by_cases e : h = v 0
                · rw [e, e_si, if_pos rfl]
                · rw [e_sio (by omega), e_sio (by omega), if_neg e]; exact g3
              · show _ = nI (if h = v 0 then v 2 else tp Q.1 h)
                by_cases e : h = v 0
                · rw [e, e_si, if_pos rfl]
                · rw [e_sio (by omega), e_sio (by omega), e_sio (by omega), if_neg e]; exact g4
              · rw [e_sio (by omega), e_sio (by omega), e_sio (by omega)]; exact g5
            · rw [e_sio (by omega), e_sio (by omega), e_sio (by omega)]
            · rw [e_sio (by omega), e_sio (by omega), e_sio (by omega)]
            · rw [e_sio (by omega), e_sio (by omega), e_si]
            · rw [e_sio (by omega), e_sio (by omega), e_sio (by omega)]; exact z7
            · rw [e_sio (by omega), e_sio (by omega), e_sio (by omega), z8, ho]
        · rw [dF h2, oI_f, if_pos rfl]
          exact zO_no (lo_nf a3) (if_neg (fun z => h2 ⟨z.2.2.2.2.2.1, z.2.2.2.2.2.2⟩)) rfl
      · rw [dF h1, oI_f, if_pos rfl]
        exact zO_no (lo_nf a3) (if_neg (fun z => h1 ⟨z.2.2.2.1, z.2.2.2.2.1⟩)) rfl
    · rw [dF ha, oI_f, if_pos rfl]
      exact zO_no (lo_nf a3) (if_neg (fun z => ha z.2.1)) rfl
/-! wood -/
theorem zt_wood {s : jm_M} {len p : Nat} {f : Nat → Nat} {Q : tQ} (ht : tZ s len f) (hp : s.1 59 15 = nI (p + 1)) (hpl : p < len) (w : wQ Q) (zq : ZQ s p Q) (ho : Q.2.2.2 = false) : zO s (s_Z_woodItem s) (stpL 119 f len p Q) := by
  have wt := w.1
  have w1 := w.1.1
  have w2 := w.2.2
  unfold s_Z_woodItem
  rcases z_numbers (m := 2) (M := 2) ht hp (by omega) (by decide) (by decide) rfl with ⟨s1, a1, a2, a3⟩ | ⟨v, q, s1, a1, a2, a3, a4, a5⟩
  · rw [stpL_no (l := 119) (Q := Q) a3 (fun c v hc => by rw [tk119, if_neg (fun z => hc z.1)]), a1, e_b2, if_pos rfl]
    exact ⟨s1, rfl, lo_nf a2⟩
  · have hb := rdI_bd 4 0 (p + 1) (fun _ => 0) 2 v q (fun j hj => by omega) a1
    obtain ⟨n0, b0⟩ := a5 0 (by decide)
    obtain ⟨n1, b1⟩ := a5 1 (by decide)
    have zq1 : ZQ s1 p Q := ZQ_same a3 (Nat.le_refl _) zq
    obtain ⟨z1, z2, ⟨c, E, z3, z4, z5⟩, z6, z7, z8⟩ := id zq1
    rw [stpL_yes a1, a2, e_b2, if_neg e10, e_ldiq (j := 0) 0 rfl (by decide) (by decide), n0, z_isRead z1 w1 b0, e_bd, tk119]
    by_cases ha : v 0 < tn Q.1
    · rw [dT ha, oI_t, if_neg e10, e_ldiq (j := 0) 0 rfl (by decide) (by decide), n0, z7, z_hasO s1 (by omega) (by omega), e_bd]
      cases hr : Q.2.2.1.testBit (v 0) with
      | true =>
        rw [oI_t, if_neg e10]
        exact zO_no (lo_nf a3) (if_neg (fun z => Bool.noConfusion z.2.2)) rfl
      | false =>
        rw [oI_f, if_pos rfl, e_ldiq (j := 0) 0 rfl (by decide) (by decide), n0, p2 (by omega), fa_or, e_ev, e_ldiq (j := 0) 0 rfl (by decide) (by decide), e_sio (by omega), n0, e_ldiq (j := 1) 1 rfl (by decide) (by decide), e_sio (by omega), n1, ix30, e_sti (by omega) (by decide)]
        refine zO_yes (lo_si (lo_si (lo_nf a3) (by omega)) (by omega)) (if_pos ⟨rfl, ha, rfl⟩) rfl ?_ ⟨?_, fun h hh => ?_, ⟨c, E, ZE_same ?_ (fun k => ?_) z3, z4, by omega⟩, ?_, ?_, ?_⟩
        · rw [e_sio (by omega), e_sio (by omega)]; exact a4
        · rw [e_sio (by omega), e_sio (by omega)]; exact z1
        · obtain ⟨g1, g2, g3, g4, g5⟩ := z2 h hh
          refine ⟨?_, ?_, ?_, ?_, ?_⟩
          · rw [e_sio (by omega), e_sio (by omega)]; exact g1
          · rw [e_sio (by omega), e_sio (by omega)]; exact g2
          · rw [e_sio (by omega), e_sio (by omega)]; exact g3
          · rw [e_sio (by omega), e_sio (by omega)]; exact g4
          · show _ = nI (if h = v 0 then v 1 else tw Q.1 h)
            by_cases e : h = v 0
            · rw [e, e_si, if_pos rfl]
            · rw [e_sio (by omega), e_sio (by omega), if_neg e]; exact g5
        · rw [e_sio (by omega), e_sio (by omega)]
        · rw [e_sio (by omega), e_sio (by omega)]
        · rw [e_sio (by omega), e_sio (by omega)]; exact z6
        · rw [e_sio (by omega), e_si]
        · rw [e_sio (by omega), e_sio (by omega), z8, ho]
    · rw [dF ha, oI_f, if_pos rfl]
      exact zO_no (lo_nf a3) (if_neg (fun z => ha z.2.1)) rfl
