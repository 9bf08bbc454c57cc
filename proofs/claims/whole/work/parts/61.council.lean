/-! the councils agree -/
theorem zn_fr {W : List Nat × List (Nat × Nat)} {s s' : jm_M} {T : tN} (hf : jm_fr W s s') (hw : ((List.range 8).all (fun q => !W.1.contains (61 + q) && W.2.all (fun z => z.1 != 61 + q))) = true) (hz : ZN s 0 T) : ZN s' 0 T := by
  refine ZN_same (fun c h1 h2 => ?_) hz
  have := List.all_eq_true.mp hw (c - 61) (by rw [List.mem_range]; omega)
  rw [show 61 + (c - 61) = c by omega, Bool.and_eq_true, Bool.not_eq_true'] at this
  exact (fr_1 hf c this.1 this.2).1
theorem ear_he {T : tN} : (if decide (earN T < tn T) = true then (1 : Int32) else 0) = oI (decide (earN T < tn T)) := rfl
theorem m_falseBy {s : jm_M} {T : tN} (wt : wT T) (hx : XN s 15 T) (hz : ZN s 0 T) (a : Int32) : ∃ r s1 s2, s_X_falseBy s a = some (r, s1) ∧ s_Z_falseBy s1 a = some (r, s2) := by
  have hF := fk_lt T
  have Z : ∀ s1, ZN s1 0 T → ∃ s2, s_Z_asTold s1 = some s2 ∧ ZC s2 T (kC T) := fun s1 h => by
    obtain ⟨s2, h1, h2, -⟩ := z_asTold wt h
    exact ⟨s2, h1, h2⟩
  by_cases h1 : (a &&& (nI (fk T) ^^^ (-1))) = 0
  · obtain ⟨m, hm, rfl, hms⟩ := (in_set hF).mp h1
    by_cases he : earN T < tn T
    · obtain ⟨s1, a1, a2, a3⟩ := x_study wt hx
      have hz1 : ZN s1 0 T := zn_fr (s_Co_study_48_15_fr s _ a1) (by decide) hz
      obtain ⟨s2, b1, b2⟩ := Z s1 hz1
      obtain ⟨s3, z, c1, -⟩ := z_isFalse wt (ZK_k wt he) b2 hm
      have hX : s_X_falseBy s (nI m) = some (oI (fo (kC T) m), s1) := by
        unfold s_X_falseBy
        rw [x_folk wt (XN_k hx), e_bd, if_pos h1, x_hasEar wt (XN_k hx), e_bd, show decide (earN T < tn T) = true by simp [he], oI_t, if_neg e10, a1, e_bd, x_fooled (wK_k wt he) a2 (a3 he) hm, e_bd]
        cases fo (kC T) m <;> rfl
      refine ⟨_, _, s3, hX, ?_⟩
      unfold s_Z_falseBy
      rw [b1, e_bd, if_neg (nI_pos (by omega)), z_men wt b2, e_bd]
      show (if (nI m &&& (nI (fk T) ^^^ (-1))) = 0 then _ else _) = _
      rw [if_pos h1, z_earK wt (ZK_k wt he) b2, e_bd, if_neg (nI_n4 (show ce (kC T) < 2147483648 from by have := wt.1; show earN T < _; omega)), c1, e_b2]
      cases fo (kC T) m <;> rfl
    · obtain ⟨s2, b1, b2⟩ := Z s hz
      refine ⟨-2, s, s2, ?_, ?_⟩
      · unfold s_X_falseBy
        rw [x_folk wt (XN_k hx), e_bd, if_pos h1, x_hasEar wt (XN_k hx), e_bd, show decide (earN T < tn T) = false by simp [he], oI_f, if_pos rfl]
      · unfold s_Z_falseBy
        rw [b1, e_bd, if_neg (nI_pos (by omega)), z_men wt b2, e_bd]
        show (if (nI m &&& (nI (fk T) ^^^ (-1))) = 0 then _ else _) = _
        rw [if_pos h1, z_ear wt b2.1 (fun h hh => (b2.2.1 h hh).1), if_neg he, e_bd, if_pos rfl]
  · obtain ⟨s2, b1, b2⟩ := Z s hz
    refine ⟨-1, s, s2, ?_, ?_⟩
    · unfold s_X_falseBy
      rw [x_folk wt (XN_k hx), e_bd, if_neg h1]
    · unfold s_Z_falseBy
      rw [b1, e_bd]
      by_cases ha : a < 0
      · rw [if_pos ha]
      · rw [if_neg ha, z_men wt b2, e_bd]
        show (if (a &&& (nI (fk T) ^^^ (-1))) = 0 then _ else _) = _
        rw [if_neg h1]
/-! falseFor -/
theorem rg_F {C : tC} {A : Nat} (wk : wK C) (hs : sbs A (cF C)) : sbs (rg C A) (cF C) := bq_clo wk.1 dn_sub hs (fun h _ hF _ => hF) 91
theorem z_ring {s : jm_M} {T : tN} {C : tC} (wt : wT T) (zk : ZK T C) (zc : ZC s T C) {A : Nat} (hs : sbs A (cF C)) {z : Nat → Nat} (hz : zS s T z) (hr : ∀ h, h < tn T → (z h < 1000000 ↔ (rg C A).testBit h = true)) : s_Z_falseFor_L155 5000 0 0 s = some (nI (rg C A), s) := by
  have w1 := wt.1
  have hup : sOf (fun h => (rg C A).testBit h) (tn T) = rg C A := by
    apply Nat.eq_of_testBit_eq
    intro i
    rw [sOf_bit]
    by_cases hi : i < tn T
    · simp [hi]
    · cases hb : (rg C A).testBit i with
      | false => simp
      | true =>
        have := rg_F zk.1 hs i hb
        rw [Nat.testBit_lt_two_pow (Nat.lt_of_lt_of_le zc.2.2.2.2.2.2.2 (Nat.pow_le_pow_right (by decide) (by omega)))] at this
        cases this
  have := lp_inv (fun n c (acc : Int32) => s_Z_falseFor_L155 n acc c s) (tn T) (fun i => nI (sOf (fun h => (rg C A).testBit h) i)) (some (nI (rg C A), s)) (fun n => ?_) (fun n i hi => ?_) (tn T) 5000 0 (by omega) (by omega)
  · exact this
  · show s_Z_falseFor_L155 (n + 1) (nI _) (nI (tn T)) s = _
    rw [s_Z_falseFor_L155, e_ldiq (j := 0) 0 rfl (by decide) (by decide), zc.1, if_pos (nI_le (Nat.le_refl _) (by omega)), hup]
  · show s_Z_falseFor_L155 (n + 1) (nI _) (nI i) s = s_Z_falseFor_L155 n (nI _) (nI (i + 1)) s
    have hzi := (hz i hi).2
    rw [s_Z_falseFor_L155, e_ldiq (j := 0) 0 rfl (by decide) (by decide), zc.1, if_neg (nI_ge hi (by omega)), e_ldi (by omega) (by decide), (hz i hi).1, sOf, nI_1]
    by_cases hb : (rg C A).testBit i = true
    · have := (hr i hi).mpr hb
      rw [if_neg (fun q => by rw [i_ge 1000000, nI_toInt (by omega)] at q; omega), e_vi, p2 (by omega), fa_or, if_pos hb]
    · have : ¬ z i < 1000000 := fun q => hb ((hr i hi).mp q)
      rw [if_pos (by rw [i_ge 1000000, nI_toInt (by omega)]; omega), e_vi, if_neg hb, show nI (sOf (fun h => (rg C A).testBit h) i) ||| 0 = nI (sOf (fun h => (rg C A).testBit h) i ||| 0) from fa_or _ 0]
def ffR (C : tC) (b : Nat) (x2 l : Int32) : Int32 := if x2 < 2 then (if x2 = 0 then nI (fb_ct (qF C b) 1024) else l) else (if l = -4 then l else nI (rg C l.toInt.toNat))
theorem lsR_one {q : Nat → Bool} {N : Nat} {r t : Int32} (hN : N ≤ 1024) (h1 : lsR q N r) (h2 : lsR q N t) : r = t := by
  rcases h1 with ⟨A, a1, a2, a3, rfl⟩ | ⟨rfl, a1⟩ <;> rcases h2 with ⟨B, b1, b2, b3, rfl⟩ | ⟨rfl, b1⟩
  · by_cases h : A < B
    · rw [b3 A h] at a2; cases a2
    · by_cases h' : B < A
      · rw [a3 B h'] at b2; cases b2
      · rw [show A = B by omega]
  · rw [b1 A a1] at a2; cases a2
  · rw [a1 B b1] at b2; cases b2
  · rfl
theorem z_falseFor {T : tN} {C : tC} (wt : wT T) (zk : ZK T C) {b : Nat} (hb : b ≤ 10) (x2 : Int32) : ∀ (k n A : Nat) (l : Int32) (s : jm_M), A + k = 2 ^ tn T → k < n → ZC s T C → lsR (qF C b) A l → ∃ l' s', s_Z_falseFor_L51 n (nI b) x2 (nI (fb_ct (qF C b) A)) l (nI A) s = some (ffR C b x2 l', s') ∧ lsR (qF C b) 1024 l' := by
  intro k n A l s
  intro hA hn zc hl
  have hx : ¬ (¬ x2 < 2 ∧ x2 = 0) := fun h => h.1 (by rw [h.2]; decide)
  have w1 := wt.1
  have hF := zk.1.2.1
  have hp : 2 ^ tn T ≤ 1024 := Nat.pow_le_pow_right (by decide) w1
  induction k generalizing n A l s with
  | zero =>
    obtain ⟨n, rfl⟩ : ∃ q, n = q + 1 := ⟨n - 1, by omega⟩
    have hAe : A = 2 ^ tn T := by omega
    have hnoF : ∀ B, A ≤ B → qF C b B = false := fun B hB => qF_no (fun hs => by
      have := sbs_le hs
      have := zc.2.2.2.2.2.2.2
      omega)
    have hct : fb_ct (qF C b) A = fb_ct (qF C b) 1024 := (ct_up (by omega) (fun i h1 _ => hnoF i h1)).symm
    have hl2 : lsR (qF C b) 1024 l := by
      rcases hl with ⟨B, b1, b2, b3, b4⟩ | ⟨b1, b2⟩
      · exact Or.inl ⟨B, by omega, b2, b3, b4⟩
      · exact Or.inr ⟨b1, fun B hB => by
          by_cases h : B < A
          · exact b2 B h
          · exact hnoF B (by omega)⟩
    refine ⟨l, ?_⟩
    rw [s_Z_falseFor_L51, e_ldiq (j := 0) 0 rfl (by decide) (by decide), zc.1, two_n (T := T) (s := s) w1, if_pos (nI_le (by omega) (by omega)), hct]
    unfold s_Z_falseFor_J131
    by_cases h2 : x2 < 2
    · rw [if_pos h2]
      refine ⟨s, ?_, hl2⟩
      unfold ffR
      rw [if_pos h2]
      split <;> rfl
    · rw [if_neg h2]
      by_cases h4 : l = -4
      · rw [if_pos h4]
        have h0 : ¬ x2 = 0 := fun h => hx ⟨h2, h⟩
        refine ⟨s, ?_, hl2⟩
        unfold ffR
        rw [if_neg h0, if_neg h2, if_pos h4]
      · rw [if_neg h4]
        rcases hl with ⟨B, b1, b2, b3, b4⟩ | ⟨b1, b2⟩
        · unfold qF at b2
          simp only [Bool.and_eq_true, decide_eq_true_eq] at b2
          have hBs := sbB_iff.mp b2.1
          obtain ⟨s3, z, c1, c2, c3, c4⟩ := z_isFalse wt zk zc (A := B) (by omega)
          rw [b4, c1, e_b2, z_ring wt zk c2 hBs c3 c4]
          refine ⟨s3, ?_, b4 ▸ hl2⟩
          unfold ffR
          rw [if_neg h2, if_neg (by rw [← b4]; exact h4), nI_toInt (by omega)]
          rfl
        · exact absurd b1 h4
  | succ k ih =>
    obtain ⟨n, rfl⟩ : ∃ q, n = q + 1 := ⟨n - 1, by omega⟩
    have hA2 : A < 1024 := by omega
    have hbl := bcn_le A
    have nofool : ∀ s2, ZC s2 T C → qF C b A = false → ∃ l' s', s_Z_falseFor_L51 n (nI b) x2 (nI (fb_ct (qF C b) A)) l (nI (A + 1)) s2 = some (ffR C b x2 l', s') ∧ lsR (qF C b) 1024 l' := fun s2 zc2 hq => by
      have e : fb_ct (qF C b) A = fb_ct (qF C b) (A + 1) := by rw [fb_ct_succ, hq]; rfl
      rw [e]
      refine ih n (A + 1) l s2 (by omega) (by omega) zc2 ?_
      rcases hl with ⟨B, b1, b2, b3, b4⟩ | ⟨b1, b2⟩
      · exact Or.inl ⟨B, by omega, b2, b3, b4⟩
      · exact Or.inr ⟨b1, fun B hB => by
          by_cases h : B = A
          · rw [h]; exact hq
          · exact b2 B (by omega)⟩
    rw [s_Z_falseFor_L51, e_ldiq (j := 0) 0 rfl (by decide) (by decide), zc.1, two_n (T := T) (s := s) w1, if_neg (nI_ge (by omega) (by omega)), z_men wt zc, e_bd, nI_1]
    by_cases hs : sbs A (cF C)
    · rw [if_pos ((andn0 hA2 hF).mpr hs), z_bits s hA2, e_bd]
      by_cases hc : bcn A = b
      · rw [if_pos (by rw [hc])]
        obtain ⟨s3, z, c1, c2, -⟩ := z_isFalse wt zk zc hA2
        rw [c1, e_b2]
        have e : qF C b A = fo C A := by unfold qF; rw [sbB_iff.mpr hs, hc]; simp
        cases hf : fo C A with
        | false =>
          rw [oI_f, if_pos rfl]
          exact nofool s3 c2 (by rw [e, hf])
        | true =>
          rw [oI_t, if_neg e10, nI_1]
          have e2 : fb_ct (qF C b) A + 1 = fb_ct (qF C b) (A + 1) := by rw [fb_ct_succ, e, hf]; rfl
          rw [e2]
          rcases hl with ⟨B, b1, b2, b3, b4⟩ | ⟨b1, b2⟩
          · rw [if_neg (by rw [b4]; exact nI_n4 (by omega))]
            exact ih n (A + 1) l s3 (by omega) (by omega) c2 (Or.inl ⟨B, by omega, b2, b3, b4⟩)
          · rw [if_pos b1]
            exact ih n (A + 1) (nI A) s3 (by omega) (by omega) c2 (Or.inl ⟨A, by omega, by rw [e, hf], b2, rfl⟩)
      · rw [if_neg (fun q => hc ((nI_eq (by omega) (by omega)).mp q))]
        exact nofool s zc (by unfold qF; simp [hc])
    · rw [if_neg (fun q => hs ((andn0 hA2 hF).mp q))]
      exact nofool s zc (qF_no hs)
theorem x_isNum {s : jm_M} {a : Int32} : s_X_isNumberOfLiars s a = some (oI (decide (0 ≤ a.toInt ∧ a.toInt ≤ 9))) := by
  unfold s_X_isNumberOfLiars
  by_cases h1 : a.toInt < 0
  · rw [if_pos ((i_lt 0).mpr h1), show decide (0 ≤ a.toInt ∧ a.toInt ≤ 9) = false by simp only [decide_eq_false_iff_not]; omega]; rfl
  · rw [if_neg (fun z => h1 ((i_lt 0).mp z))]
    by_cases h2 : 9 < a.toInt
    · rw [if_pos ((i_gt 9).mpr h2), show decide (0 ≤ a.toInt ∧ a.toInt ≤ 9) = false by simp only [decide_eq_false_iff_not]; omega]; rfl
    · rw [if_neg (fun z => h2 ((i_gt 9).mp z)), show decide (0 ≤ a.toInt ∧ a.toInt ≤ 9) = true by simp only [decide_eq_true_eq]; omega]; rfl
theorem z_inO {s : jm_M} {a : Int32} {lo hi : Int64} (l h : Int) (hl : lo.toInt = l := by decide) (hh : hi.toInt = h := by decide) : s_Z_in s a.toInt64 lo hi = some (oI (decide (l ≤ a.toInt ∧ a.toInt ≤ h))) := by
  rw [z_inL, Int32.toInt_toInt64, hl, hh]
  by_cases c : l ≤ a.toInt ∧ a.toInt ≤ h
  · rw [if_pos c, show decide (l ≤ a.toInt ∧ a.toInt ≤ h) = true by simp only [decide_eq_true_eq]; exact c]; rfl
  · rw [if_neg c, show decide (l ≤ a.toInt ∧ a.toInt ≤ h) = false by simp only [decide_eq_false_iff_not]; exact c]; rfl
