/-! the councils agree: more -/
theorem dT {p : Prop} [Decidable p] (h : p) : decide p = true := by simp [h]
theorem dF {p : Prop} [Decidable p] (h : ¬ p) : decide p = false := by simp [h]
theorem m_falseFor {s : jm_M} {T : tN} (wt : wT T) (hx : XN s 15 T) (hz : ZN s 0 T) (a c : Int32) : ∃ r s1 s2, s_X_falseFor s a c = some (r, s1) ∧ s_Z_falseFor s1 a c = some (r, s2) := by
  have w1 := wt.1
  by_cases n1 : 0 ≤ a.toInt ∧ a.toInt ≤ 9
  · by_cases n2 : 0 ≤ c.toInt ∧ c.toInt ≤ 2
    · by_cases he : earN T < tn T
      · obtain ⟨b, rfl, hb, -⟩ := n_of n1.1
        obtain ⟨q, rfl, hq, -⟩ := n_of n2.1
        have hb2 : b ≤ 10 := by omega
        obtain ⟨s1, a1, a2, a3⟩ := x_study wt hx
        have wk := wK_k wt he
        have xe : XE s1 (kC T) := ⟨a2, a3 he⟩
        obtain ⟨l, l1, l2⟩ := x_leastFooling wk xe hb2
        have hX : s_X_falseFor s (nI b) (nI q) = some (ffR (kC T) b (nI q) l, s1) := by
          unfold s_X_falseFor ffR
          rw [x_isNum, dT n1, oI_t, e_bd, if_neg e10, if_neg (nI_pos (by omega)), if_pos (by rw [i_le 2, nI_toInt (by omega)]; omega), x_hasEar wt (XN_k hx), e_bd, dT he, oI_t, if_neg e10, a1, e_bd]
          rcases (show q = 0 ∨ q = 1 ∨ q = 2 by omega) with rfl | rfl | rfl
          · rw [if_pos (show nI 0 = 0 from rfl), x_foolingSets wk xe hb2, e_bd, if_pos (by decide), if_pos (show nI 0 = 0 from rfl)]
          · rw [if_neg (by decide), l1, e_bd, if_pos (show nI 1 < 2 by decide), if_neg (show ¬ nI 1 = 0 by decide)]
            by_cases h4 : l = -4
            · rw [if_pos h4]
            · rw [if_neg h4, if_pos (show nI 1 = 1 from rfl)]
          · rw [if_neg (by decide), l1, e_bd, if_neg (show ¬ nI 2 < 2 by decide)]
            by_cases h4 : l = -4
            · rw [if_pos h4, if_pos h4]
            · rw [if_neg h4, if_neg (by decide), if_neg h4]
              rcases l2 with ⟨A, b1, b2, b3, rfl⟩ | ⟨b1, b2⟩
              · rw [x_ring wk.1 wk.2.1 a2 (by omega), e_bd, nI_toInt (by omega)]
                rfl
              · exact absurd b1 h4
        have hz1 : ZN s1 0 T := zn_fr (s_Co_study_48_15_fr s _ a1) (by decide) hz
        obtain ⟨s2, b1, b2, -⟩ := z_asTold wt hz1
        have hp : 2 ^ tn T ≤ 1024 := Nat.pow_le_pow_right (by decide) w1
        obtain ⟨l', s3, c1, c2⟩ := z_falseFor wt (ZK_k wt he) hb2 (nI q) (2 ^ tn T) 5000 0 (-4) s2 (by omega) (by omega) b2 (Or.inr ⟨rfl, fun A hA => by omega⟩)
        have hll : l = l' := lsR_one (Nat.le_refl _) l2 c2
        refine ⟨_, _, s3, hX, ?_⟩
        unfold s_Z_falseFor
        rw [z_inO 0 9, dT n1, oI_t, e_bd, if_neg e10, z_inO 0 2, dT n2, oI_t, e_bd, if_neg e10, z_ear wt hz1.1 (ZN_k hz1), if_pos he, e_bd, if_neg (nI_n4 (by omega)), b1, e_bd, hll]
        exact c1
      · refine ⟨-2, s, s, ?_, ?_⟩
        · unfold s_X_falseFor
          rw [x_isNum, dT n1, oI_t, e_bd, if_neg e10, if_neg (fun z => by rw [i_lt 0] at z; omega), if_pos ((i_le 2).mpr n2.2), x_hasEar wt (XN_k hx), e_bd, dF he, oI_f, if_pos rfl]
        · unfold s_Z_falseFor
          rw [z_inO 0 9, dT n1, oI_t, e_bd, if_neg e10, z_inO 0 2, dT n2, oI_t, e_bd, if_neg e10, z_ear wt hz.1 (ZN_k hz), if_neg he, e_bd, if_pos rfl]
    · refine ⟨-1, s, s, ?_, ?_⟩
      · unfold s_X_falseFor
        rw [x_isNum, dT n1, oI_t, e_bd, if_neg e10]
        by_cases h : c.toInt < 0
        · rw [if_pos ((i_lt 0).mpr h)]
        · rw [if_neg (fun z => h ((i_lt 0).mp z)), if_neg (fun z => by rw [i_le 2] at z; omega)]
      · unfold s_Z_falseFor
        rw [z_inO 0 9, dT n1, oI_t, e_bd, if_neg e10, z_inO 0 2, dF n2, oI_f, e_bd, if_pos rfl]
  · refine ⟨-1, s, s, ?_, ?_⟩
    · unfold s_X_falseFor
      rw [x_isNum, dF n1, oI_f, e_bd, if_pos rfl]
    · unfold s_Z_falseFor
      rw [z_inO 0 9, dF n1, oI_f, e_bd, if_pos rfl]
theorem m_trueBy {s : jm_M} {T : tN} (wt : wT T) (hx : XN s 15 T) (hz : ZN s 0 T) (a c : Int32) : ∃ r s1 s2, s_X_trueBy s a c = some (r, s1) ∧ s_Z_trueBy s1 a c = some (r, s2) := by
  have w1 := wt.1
  have hF := fk_lt T
  unfold s_X_trueBy
  rw [x_isHill hx.1 w1]
  by_cases h1 : 0 ≤ a.toInt ∧ a.toInt < tn T
  · rw [if_pos h1, e_bd, if_neg e10]
    obtain ⟨h, rfl, hh, -⟩ := n_of h1.1
    have hht : h < tn T := by omega
    have hk3 := (wt.2.1 h hht).1
    have e1 : s.1 16 h = nI (tk T h) := (XN_k hx h (by omega)).trans (by rw [tkI, if_pos hht])
    rw [e_ldi (by omega) (by decide), e1]
    have Zb : ∀ s1, ZN s1 0 T → ∃ s2, ZC s2 T (kC T) ∧ s_Z_trueBy s1 (nI h) c = (if nI (tk T h) = 1 then (if c < 0 then (some ((-1), s2)) else (if (c &&& (nI (fk T) ^^^ (-1))) = 0 then jm_bd (s_Z_has s2 c (nI h)) (fun v5 => (if v5 = 0 then jm_bd (s_Z_ear s2) (fun v6 => (if v6 = (-4) then (some ((-2), s2)) else jm_b2 (s_Z_alarmBy s2 (nI h) c) (fun v7 s8 => (if v7 = 1000000 then (some ((-4), s8)) else (some (v7, s8)))))) else (some ((-1), s2)))) else (some ((-1), s2)))) else (some ((-1), s2))) := fun s1 hz1 => by
      obtain ⟨s2, b1, b2, -⟩ := z_asTold wt hz1
      refine ⟨s2, b2, ?_⟩
      unfold s_Z_trueBy
      rw [b1, e_bd, z_isHill b2.1 w1, if_pos h1, e_bd, if_neg e10, e_ldi (by omega) (by decide), (b2.2.1 h hht).1, z_men wt b2]
      rfl
    by_cases hk : tk T h = 1
    · rw [if_pos (by rw [hk]; rfl), x_folk wt (XN_k hx), e_bd, p2 (by omega), andn hF (p2_lt (by omega))]
      by_cases h2 : (c &&& (nI (dn (fk T) (2 ^ h)) ^^^ (-1))) = 0
      · rw [if_pos h2, x_hasEar wt (XN_k hx), e_bd]
        obtain ⟨m, hm, rfl, hms⟩ := (in_set dn_lt).mp h2
        have hmF : sbs m (fk T) := sbs_tr hms dn_sub
        have hmh : m.testBit h = false := by
          cases hb : m.testBit h with
          | false => rfl
          | true =>
            have := hms h hb
            rw [dn_bit, Nat.testBit_two_pow] at this
            simp at this
        by_cases he : earN T < tn T
        · rw [dT he, oI_t, if_neg e10]
          obtain ⟨s1, a1, a2, a3⟩ := x_study wt hx
          have wk := wK_k wt he
          obtain ⟨s3, g1⟩ := x_alarm (A := 2 ^ h) (S := m) wk a2 (a3 he) (p2_lt (by omega)) hm
          have hv : al (kC T) (2 ^ h) (dn (dn (cF (kC T)) m) (2 ^ h)) = vlC (kC T) h m := rfl
          rw [hv] at g1
          have hz3 : ZN s3 0 T := zn_fr (s_Co_spread_fr s1 _ _ _ _ g1) (by decide) (zn_fr (s_Co_study_48_15_fr s _ a1) (by decide) hz)
          obtain ⟨s4, b1, b2⟩ := Zb s3 hz3
          obtain ⟨s5, c1, -⟩ := z_alarmBy wt (ZK_k wt he) b1 (h := h) (S := m) (by omega) hm
          rw [a1, e_bd]
          unfold s_Co_trueMinute
          rw [p2 (by omega), a3 he]
          refine ⟨_, s3, s5, by rw [show nI (earN T) = nI (ce (kC T)) from rfl, g1]; rfl, ?_⟩
          rw [b2, if_pos (by rw [hk]; rfl), if_neg (nI_pos (by omega)), if_pos ((andn0 hm hF).mpr hmF), z_hasO s4 (by omega) (by omega), hmh, oI_f, e_bd, if_pos rfl, z_earK wt (ZK_k wt he) b1, e_bd, if_neg (nI_n4 (show ce (kC T) < 2147483648 from by show earN T < _; omega)), c1, e_b2]
          rcases vl_bd wk (h := h) (S := m) (by omega) with g | g
          · rw [g, if_pos rfl, if_pos (by rfl)]
          · rw [if_neg (fun z => by rw [i_eq 1000000, nI_toInt (by omega)] at z; omega), if_neg (by omega)]
        · rw [dF he, oI_f, if_pos rfl]
          obtain ⟨s2, b1, b2⟩ := Zb s hz
          refine ⟨-2, s, s2, rfl, ?_⟩
          rw [b2, if_pos (by rw [hk]; rfl), if_neg (nI_pos (by omega)), if_pos ((andn0 hm hF).mpr hmF), z_hasO s2 (by omega) (by omega), hmh, oI_f, e_bd, if_pos rfl, z_ear wt b1.1 (fun h hh => (b1.2.1 h hh).1), if_neg he, e_bd, if_pos rfl]
      · rw [if_neg h2]
        obtain ⟨s2, b1, b2⟩ := Zb s hz
        refine ⟨-1, s, s2, rfl, ?_⟩
        rw [b2, if_pos (by rw [hk]; rfl)]
        by_cases hc0 : c < 0
        · rw [if_pos hc0]
        · rw [if_neg hc0]
          by_cases h3 : (c &&& (nI (fk T) ^^^ (-1))) = 0
          · rw [if_pos h3]
            obtain ⟨m, hm, rfl, hms⟩ := (in_set hF).mp h3
            have hmh : m.testBit h = true := by
              cases hb : m.testBit h with
              | true => rfl
              | false =>
                exfalso
                apply h2
                refine (andn0 hm dn_lt).mpr (fun i hi => ?_)
                have : ¬ h = i := fun e => by rw [← e, hb] at hi; cases hi
                rw [dn_bit, hms i hi, Nat.testBit_two_pow]
                simp [bit_lt hm hi, this]
            rw [z_hasO s2 (by omega) (by omega), hmh, oI_t, e_bd, if_neg e10]
          · rw [if_neg h3]
    · have hk' : ¬ nI (tk T h) = 1 := fun q => hk ((nI_eq (by omega) (by omega)).mp (q.trans (show (1 : Int32) = nI 1 from rfl)))
      rw [if_neg hk']
      obtain ⟨s2, b1, b2⟩ := Zb s hz
      refine ⟨-1, s, s2, rfl, ?_⟩
      rw [b2, if_neg hk']
  · rw [if_neg h1, e_bd, if_pos rfl]
    obtain ⟨s2, b1, b2, -⟩ := z_asTold wt hz
    refine ⟨-1, s, s2, rfl, ?_⟩
    unfold s_Z_trueBy
    rw [b1, e_bd, z_isHill b2.1 w1, if_neg h1, e_bd, if_pos rfl]
theorem ltR_z {C : tC} {b L : Nat} {r : Int32} (wk : wK C) (h1 : ltR C b r) (h2 : isL C b L) (s : jm_M) : (if nI L = 1000000 then some ((-4 : Int32), s) else some (nI L, s)) = some (r, s) := by
  obtain ⟨M, h3, rfl⟩ := h1
  rw [isL_one h3 h2]
  rcases isL_bd wk h2 with g | g
  · rw [g, if_pos rfl, if_pos (show nI 1000000 = 1000000 from rfl)]
  · rw [if_neg (fun z => by rw [i_eq 1000000, nI_toInt (by omega)] at z; omega), if_neg (by omega)]
theorem lgR_z {C : tC} {b L : Nat} {r : Int32} (wk : wK C) (h1 : lgR C b r) (h2 : isLG C b L) (s : jm_M) : (if nI L = 1000000 then some ((-4 : Int32), s) else some (nI L, s)) = some (r, s) := by
  obtain ⟨M, h3, rfl⟩ := h1
  rw [isLG_one h3 h2]
  have hL : L = 1000000 ∨ (1 ≤ L ∧ L < 100) := by
    rcases h2 with ⟨-, h⟩ | ⟨-, x, y, hG, h⟩
    · exact isL_bd wk h
    · exact isL_bd (wK_gon wk (by have := hG.1; have := hG.2.1; omega) hG.2.1) h
  rcases hL with g | g
  · rw [g, if_pos rfl, if_pos (show nI 1000000 = 1000000 from rfl)]
  · rw [if_neg (fun z => by rw [i_eq 1000000, nI_toInt (by omega)] at z; omega), if_neg (by omega)]
theorem m_late {s : jm_M} {T : tN} (wt : wT T) (hx : XN s 15 T) (hz : ZN s 0 T) (a c : Int32) : ∃ r s1 s2, s_X_late s a c = some (r, s1) ∧ s_Z_late s1 a c = some (r, s2) := by
  have w1 := wt.1
  by_cases n1 : 0 ≤ a.toInt ∧ a.toInt ≤ 9
  · by_cases n2 : 0 ≤ c.toInt ∧ c.toInt ≤ 1
    · by_cases he : earN T < tn T
      · obtain ⟨b, rfl, hb, -⟩ := n_of n1.1
        obtain ⟨q, rfl, hq, -⟩ := n_of n2.1
        have hb2 : b ≤ 10 := by omega
        obtain ⟨s1, a1, a2, a3⟩ := x_study wt hx
        have wk := wK_k wt he
        have xe : XE s1 (kC T) := ⟨a2, a3 he⟩
        have hz1 : ZN s1 0 T := zn_fr (s_Co_study_48_15_fr s _ a1) (by decide) hz
        have Zb : ∀ s3, ZN s3 0 T → ∃ s2, ZC s2 T (kC T) ∧ s_Z_late s3 (nI b) (nI q) = jm_b2 (s_Z_lateOf s2 (nI b) (nI q)) (fun v5 s6 => (if v5 = 1000000 then (some ((-4), s6)) else (some (v5, s6)))) := fun s3 hz3 => by
          obtain ⟨s2, b1, b2, -⟩ := z_asTold wt hz3
          refine ⟨s2, b2, ?_⟩
          unfold s_Z_late
          rw [z_inO 0 9, dT n1, oI_t, e_bd, if_neg e10, z_inO 0 1, dT n2, oI_t, e_bd, if_neg e10, z_ear wt hz3.1 (ZN_k hz3), if_pos he, e_bd, if_neg (nI_n4 (by omega)), b1, e_bd]
        have hX : s_X_late s (nI b) (nI q) = (if nI q = 0 then jm_b2 (s_Co_latest s1 (nI b)) (fun v6 s7 => (some (v6, s7))) else jm_b2 (s_Co_latestWithOneSightGone s1 (nI b)) (fun v4 s5 => (some (v4, s5)))) := by
          unfold s_X_late
          rw [x_isNum, dT n1, oI_t, e_bd, if_neg e10, if_neg (nI_pos (by omega)), if_pos (by rw [i_le 1, nI_toInt (by omega)]; omega), x_hasEar wt (XN_k hx), e_bd, dT he, oI_t, if_neg e10, a1, e_bd]
        rw [hX]
        rcases (show q = 0 ∨ q = 1 by omega) with rfl | rfl
        · rw [if_pos (show nI 0 = 0 from rfl)]
          obtain ⟨r, s3, g1, g2, -⟩ := x_latest wk xe hb2
          rw [g1, e_b2]
          obtain ⟨s4, b1, b2⟩ := Zb s3 (zn_fr (s_Co_latest_fr s1 _ _ g1) (by decide) hz1)
          obtain ⟨L, s5, c1, c2⟩ := z_lateOf0 wt he b1 hb2
          have c1' : s_Z_lateOf s4 (nI b) (nI 0) = some (nI L, s5) := c1
          refine ⟨r, s3, s5, rfl, ?_⟩
          rw [b2, c1', e_b2]
          exact ltR_z wk g2 c2 s5
        · rw [if_neg (by decide)]
          obtain ⟨r, s3, g1, g2⟩ := x_gone wk xe hb2
          rw [g1, e_b2]
          obtain ⟨s4, b1, b2⟩ := Zb s3 (zn_fr (s_Co_latestWithOneSightGone_fr s1 _ _ g1) (by decide) hz1)
          obtain ⟨L, s5, c1, c2⟩ := z_lateOf1 wt he b1 hb2
          have c1' : s_Z_lateOf s4 (nI b) (nI 1) = some (nI L, s5) := c1
          refine ⟨r, s3, s5, rfl, ?_⟩
          rw [b2, c1', e_b2]
          exact lgR_z wk g2 c2 s5
      · refine ⟨-2, s, s, ?_, ?_⟩
        · unfold s_X_late
          rw [x_isNum, dT n1, oI_t, e_bd, if_neg e10, if_neg (fun z => by rw [i_lt 0] at z; omega), if_pos ((i_le 1).mpr n2.2), x_hasEar wt (XN_k hx), e_bd, dF he, oI_f, if_pos rfl]
        · unfold s_Z_late
          rw [z_inO 0 9, dT n1, oI_t, e_bd, if_neg e10, z_inO 0 1, dT n2, oI_t, e_bd, if_neg e10, z_ear wt hz.1 (ZN_k hz), if_neg he, e_bd, if_pos rfl]
    · refine ⟨-1, s, s, ?_, ?_⟩
      · unfold s_X_late
        rw [x_isNum, dT n1, oI_t, e_bd, if_neg e10]
        by_cases h : c.toInt < 0
        · rw [if_pos ((i_lt 0).mpr h)]
        · rw [if_neg (fun z => h ((i_lt 0).mp z)), if_neg (fun z => by rw [i_le 1] at z; omega)]
      · unfold s_Z_late
        rw [z_inO 0 9, dT n1, oI_t, e_bd, if_neg e10, z_inO 0 1, dF n2, oI_f, e_bd, if_pos rfl]
  · refine ⟨-1, s, s, ?_, ?_⟩
    · unfold s_X_late
      rw [x_isNum, dF n1, oI_f, e_bd, if_pos rfl]
    · unfold s_Z_late
      rw [z_inO 0 9, dF n1, oI_f, e_bd, if_pos rfl]
theorem m_bears {s : jm_M} {T : tN} (wt : wT T) (hx : XN s 15 T) (hz : ZN s 0 T) : ∃ r s1 s2, s_X_bears s = some (r, s1) ∧ s_Z_bears s1 = some (r, s2) := by
  have w1 := wt.1
  unfold s_X_bears
  rw [x_hasEar wt (XN_k hx), e_bd]
  by_cases he : earN T < tn T
  · rw [dT he, oI_t, if_neg e10]
    obtain ⟨s1, a1, a2, a3⟩ := x_study wt hx
    have wk := wK_k wt he
    have hz1 : ZN s1 0 T := zn_fr (s_Co_study_48_15_fr s _ a1) (by decide) hz
    obtain ⟨r, s3, g1, g2⟩ := x_mostBorne wk ⟨a2, a3 he⟩
    have hz3 : ZN s3 0 T := zn_fr (s_Co_mostBorne_fr s1 _ g1) (by decide) hz1
    obtain ⟨s4, b1, b2, -⟩ := z_asTold wt hz3
    obtain ⟨r', s5, c1, c2, -⟩ := z_mostBorne wt (ZK_k wt he) b2
    rw [a1, e_bd, g1, e_b2]
    refine ⟨r, s3, s5, rfl, ?_⟩
    unfold s_Z_bears
    rw [z_ear wt hz3.1 (ZN_k hz3), if_pos he, e_bd, if_neg (nI_n4 (by omega)), b1, e_bd, c1, e_b2, mbR_one g2 c2]
  · rw [dF he, oI_f, if_pos rfl]
    refine ⟨-2, s, s, rfl, ?_⟩
    unfold s_Z_bears
    rw [z_ear wt hz.1 (ZN_k hz), if_neg he, e_bd, if_pos rfl]
theorem m_bestRule {s : jm_M} {T : tN} (wt : wT T) (hx : XN s 15 T) (hz : ZN s 0 T) (a c : Int32) : ∃ r s1 s2, s_X_bestRule s a c = some (r, s1) ∧ s_Z_bestRule s1 a c = some (r, s2) := by
  have w1 := wt.1
  by_cases n1 : 0 ≤ a.toInt ∧ a.toInt ≤ 9
  · by_cases n2 : 0 ≤ c.toInt ∧ c.toInt ≤ 1
    · by_cases he : earN T < tn T
      · obtain ⟨b, rfl, hb, -⟩ := n_of n1.1
        have hb2 : b ≤ 10 := by omega
        obtain ⟨s1, a1, a2, a3⟩ := x_study wt hx
        have wk := wK_k wt he
        have hz1 : ZN s1 0 T := zn_fr (s_Co_study_48_15_fr s _ a1) (by decide) hz
        have hex : ∀ j, ∃ v, (j < 12 → vB (cRul (kC T) (j / 3 + 1) (j % 3 + 1)) b v) ∧ v < 100 := fun j => by
          by_cases hj : j < 12
          · obtain ⟨v, hv⟩ := vB_ex (wK_rul wk (k := j / 3 + 1) (m := j % 3 + 1) (by omega) (by omega) (by omega) (by omega)) b
            refine ⟨v, fun _ => hv, ?_⟩
            rcases hv with ⟨-, -, -, h⟩ | ⟨-, h⟩ <;> omega
          · exact ⟨0, fun h => absurd h hj, by decide⟩
        have hf : ∃ f : Nat → Nat, (∀ j, j < 12 → vB (cRul (kC T) (j / 3 + 1) (j % 3 + 1)) b (f j)) ∧ ∀ j, f j < 100 := ⟨fun j => Classical.choose (hex j), fun j => (Classical.choose_spec (hex j)).1, fun j => (Classical.choose_spec (hex j)).2⟩
        obtain ⟨f, hf1, hf2⟩ := hf
        obtain ⟨s3, g1, g2, g3⟩ := x_best wk ⟨a2, a3 he⟩ hb2 hf1 hf2
        have hz3 : ZN s3 0 T := zn_fr (s_Co_seekBestRule_fr s1 _ _ g1) (by decide) hz1
        obtain ⟨s4, b1, b2, -⟩ := z_asTold wt hz3
        obtain ⟨s5, c1⟩ := z_best wt (ZK_k wt he) b2 hb2 hf1 hf2 c
        have hX : s_X_bestRule s (nI b) c = some (if c = 0 then wI (bst f 12).1 else wI (bst f 12).2, s3) := by
          unfold s_X_bestRule
          rw [x_isNum, dT n1, oI_t, e_bd, if_neg e10, if_neg (fun z => by rw [i_lt 0] at z; omega), if_pos ((i_le 1).mpr n2.2), x_hasEar wt (XN_k hx), e_bd, dT he, oI_t, if_neg e10, a1, e_bd, g1, e_bd, g2, g3]
          split <;> rfl
        refine ⟨_, _, s5, hX, ?_⟩
        unfold s_Z_bestRule
        rw [z_inO 0 9, dT n1, oI_t, e_bd, if_neg e10, z_inO 0 1, dT n2, oI_t, e_bd, if_neg e10, z_ear wt hz3.1 (ZN_k hz3), if_pos he, e_bd, if_neg (nI_n4 (by omega)), b1, e_bd, c1]
      · refine ⟨-2, s, s, ?_, ?_⟩
        · unfold s_X_bestRule
          rw [x_isNum, dT n1, oI_t, e_bd, if_neg e10, if_neg (fun z => by rw [i_lt 0] at z; omega), if_pos ((i_le 1).mpr n2.2), x_hasEar wt (XN_k hx), e_bd, dF he, oI_f, if_pos rfl]
        · unfold s_Z_bestRule
          rw [z_inO 0 9, dT n1, oI_t, e_bd, if_neg e10, z_inO 0 1, dT n2, oI_t, e_bd, if_neg e10, z_ear wt hz.1 (ZN_k hz), if_neg he, e_bd, if_pos rfl]
    · refine ⟨-1, s, s, ?_, ?_⟩
      · unfold s_X_bestRule
        rw [x_isNum, dT n1, oI_t, e_bd, if_neg e10]
        by_cases h : c.toInt < 0
        · rw [if_pos ((i_lt 0).mpr h)]
        · rw [if_neg (fun z => h ((i_lt 0).mp z)), if_neg (fun z => by rw [i_le 1] at z; omega)]
      · unfold s_Z_bestRule
        rw [z_inO 0 9, dT n1, oI_t, e_bd, if_neg e10, z_inO 0 1, dF n2, oI_f, e_bd, if_pos rfl]
  · refine ⟨-1, s, s, ?_, ?_⟩
    · unfold s_X_bestRule
      rw [x_isNum, dF n1, oI_f, e_bd, if_pos rfl]
    · unfold s_Z_bestRule
      rw [z_inO 0 9, dF n1, oI_f, e_bd, if_pos rfl]
theorem m_added {s : jm_M} {T : tN} (wt : wT T) (hx : XN s 15 T) (hz : ZN s 0 T) (a : Int32) : ∃ r s1 s2, s_X_added s a = some (r, s1) ∧ s_Z_added s1 a = some (r, s2) := by
  have w1 := wt.1
  by_cases n1 : 0 ≤ a.toInt ∧ a.toInt ≤ 9
  · by_cases he : earN T < tn T
    · obtain ⟨b, rfl, hb, -⟩ := n_of n1.1
      have hb2 : b ≤ 10 := by omega
      obtain ⟨s1, a1, a2, a3⟩ := x_study wt hx
      have wk := wK_k wt he
      have hz1 : ZN s1 0 T := zn_fr (s_Co_study_48_15_fr s _ a1) (by decide) hz
      have hx1 : XN s1 15 T := XN_fr (s_Co_study_48_15_fr s _ a1) (by decide) hx
      have hspe : (kS T 3).testBit (ce (kC T)) = false := by
        show (kS T 3).testBit (earN T) = false
        rw [kS_bit, kB, ear_k he]
        simp
      obtain ⟨r, s3, g1, g2⟩ := x_spares wk ⟨a2, a3 he⟩ hb2 (kS_lt T 3) hspe
      have hz3 : ZN s3 0 T := zn_fr (s_Co_fewestSpares_fr s1 _ _ _ g1) (by decide) hz1
      obtain ⟨s4, b1, b2, b3, -⟩ := z_asTold wt hz3
      obtain ⟨M, M1, M2, M3⟩ := b2.2.2.2.2.1
      have hsl := kS_lt T 3
      obtain ⟨r', s5, c1, c2⟩ := z_added wt (ZK_k wt he) (b := b) (M := M) (sp := kS T 3) (by omega) M1 rfl M3 (fk_two T) (kS T 3 + 1) 5000 0 (-4) s4 (by omega) (by omega) ⟨_, b2, rfl, rfl, rfl⟩ (Or.inr ⟨rfl, fun D hD => by omega⟩)
      have hX : s_X_added s (nI b) = some (r, s3) := by
        unfold s_X_added
        rw [x_isNum, dT n1, oI_t, e_bd, if_neg e10, x_hasEar wt (XN_k hx), e_bd, dT he, oI_t, if_neg e10, a1, e_bd, show (3 : Int32) = nI 3 from rfl, x_ofKind wt (XN_k hx1) (by decide), e_bd, g1, e_b2]
      refine ⟨_, _, s5, hX, ?_⟩
      unfold s_Z_added
      rw [z_inO 0 9, dT n1, oI_t, e_bd, if_neg e10, z_ear wt hz3.1 (ZN_k hz3), if_pos he, e_bd, if_neg (nI_n4 (by omega)), b1, e_bd, e_vi, show (3 : Int32) = nI 3 from rfl, z_ofKind wt b2.1 (fun h hh => (b2.2.1 h hh).1) (by decide), e_bd, M2, asR_one g2 c2]
      exact c1
    · refine ⟨-2, s, s, ?_, ?_⟩
      · unfold s_X_added
        rw [x_isNum, dT n1, oI_t, e_bd, if_neg e10, x_hasEar wt (XN_k hx), e_bd, dF he, oI_f, if_pos rfl]
      · unfold s_Z_added
        rw [z_inO 0 9, dT n1, oI_t, e_bd, if_neg e10, z_ear wt hz.1 (ZN_k hz), if_neg he, e_bd, if_pos rfl]
  · refine ⟨-1, s, s, ?_, ?_⟩
    · unfold s_X_added
      rw [x_isNum, dF n1, oI_f, e_bd, if_pos rfl]
    · unfold s_Z_added
      rw [z_inO 0 9, dF n1, oI_f, e_bd, if_pos rfl]
