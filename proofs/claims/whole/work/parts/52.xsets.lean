/-! the class's council over sets -/
def XE (s : jm_M) (C : tC) : Prop := XC s C ∧ s.1 48 2 = nI (ce C)
theorem XE_fr {s s' : jm_M} {C : tC} (h : XE s C) (hf : jm_fr ([52], [(48, 9)]) s s') : XE s' C := by
  obtain ⟨⟨h1, h2, h3⟩, h4⟩ := h
  refine ⟨⟨?_, ?_, fun q hq => ?_⟩, ?_⟩
  · rw [(hf 48 3 (by decide) (by decide)).1]; exact h1
  · rw [(hf 48 4 (by decide) (by decide)).1]; exact h2
  · rw [(hf 49 q (by decide) (by simp)).1, (hf 50 q (by decide) (by simp)).1, (hf 51 q (by decide) (by simp)).1]; exact h3 q hq
  · rw [(hf 48 2 (by decide) (by decide)).1]; exact h4
def sbB (a b : Nat) : Bool := decide (a &&& b = a)
theorem sbB_iff {a b : Nat} : sbB a b = true ↔ sbs a b := by
  unfold sbB
  rw [decide_eq_true_eq]
  constructor
  · intro h i hi
    rw [← h, Nat.testBit_and, Bool.and_eq_true] at hi
    exact hi.2
  · intro h
    apply Nat.eq_of_testBit_eq
    intro i
    rw [Nat.testBit_and]
    cases ha : a.testBit i with
    | false => rfl
    | true => rw [h i ha]; rfl
theorem sbB_no {a b : Nat} (h : ¬ sbs a b) : sbB a b = false := by
  cases hb : sbB a b with
  | false => rfl
  | true => exact absurd (sbB_iff.mp hb) h
theorem nx_c {w s : Nat} (hw : w < 1024) (hs : sbs s w) : (nxk 10 w s = 0 ∧ ∀ r, s < r → ¬ sbs r w) ∨ (s < nxk 10 w s ∧ nxk 10 w s < 1024 ∧ sbs (nxk 10 w s) w ∧ ∀ r, s < r → r < nxk 10 w s → ¬ sbs r w) := by
  rcases nx_ok 10 w s hw hs with ⟨h1, h2⟩ | ⟨h1, h2, h3⟩
  · left
    refine ⟨h1, fun r hr hn => ?_⟩
    have := sbs_le hn
    omega
  · exact Or.inr ⟨h1, sbs_lt h2 hw, h2, h3⟩
def qF (C : tC) (b A : Nat) : Bool := sbB A (cF C) && (decide (bcn A = b) && fo C A)
theorem qF_no {C : tC} {b A : Nat} (h : ¬ sbs A (cF C)) : qF C b A = false := by unfold qF; rw [sbB_no h, Bool.false_and]
theorem x_next {s : jm_M} {w S : Nat} (hw : w < 1024) (hS : S < 1024) : s_Co_nextSet s (nI S) (nI w) = some (nI (nxk 10 w S)) := by
  unfold s_Co_nextSet
  rw [nx_i hw hS]
theorem x_fsets {s : jm_M} {C : tC} (wk : wK C) (xe : XE s C) {b : Nat} (hb : b ≤ 10) : ∀ (k n S i : Nat), S + k = 1023 → k < n → i ≤ S → sbs S (cF C) → s_Co_foolingSets_L7 s n (nI b) (nI (fb_ct (qF C b) S)) (nI S) (nI i) = some (nI (fb_ct (qF C b) 1024)) := by
  have hF := wk.2.1
  intro k
  induction k using Nat.strongRecOn with
  | ind k ih =>
    intro n S i hS hn hi hs
    obtain ⟨n, rfl⟩ : ∃ q, n = q + 1 := ⟨n - 1, by omega⟩
    have hbl := bcn_le S
    have J : ∀ kk : Int32 → Int32 → Int32 → Int32 → Option Int32, s_Co_foolingSets_J34 s kk (nI b) (nI (fb_ct (qF C b) (S + 1))) (nI S) (nI i) = if nxk 10 (cF C) S = 0 then some (nI (fb_ct (qF C b) 1024)) else kk (nI b) (nI (fb_ct (qF C b) (nxk 10 (cF C) S))) (nI (nxk 10 (cF C) S)) (nI (i + 1)) := by
      intro kk
      unfold s_Co_foolingSets_J34
      rw [xe.1.2.1, x_next hF (by omega), e_bd, nI_1]
      rcases nx_c hF hs with ⟨g1, g2⟩ | ⟨g1, g2, g3, g4⟩
      · rw [g1, if_pos (show nI 0 = 0 from rfl), if_pos rfl, ct_up (k := S + 1) (m := 1024) (by omega) (fun r h1 _ => qF_no (g2 r (by omega)))]
      · rw [if_neg (fun z => by rw [i_eq 0, nI_toInt (by omega)] at z; omega), if_neg (by omega), ct_up (k := S + 1) (m := nxk 10 (cF C) S) (by omega) (fun r h1 h2 => qF_no (g4 r (by omega) h2))]
    have G : s_Co_foolingSets_J34 s (s_Co_foolingSets_L7 s n) (nI b) (nI (fb_ct (qF C b) (S + 1))) (nI S) (nI i) = some (nI (fb_ct (qF C b) 1024)) := by
      rw [J]
      rcases nx_c hF hs with ⟨g1, g2⟩ | ⟨g1, g2, g3, g4⟩
      · rw [if_pos g1]
      · rw [if_neg (by omega)]
        exact ih (1023 - nxk 10 (cF C) S) (by omega) n _ (i + 1) (by omega) (by omega) (by omega) g3
    rw [s_Co_foolingSets_L7, if_neg (fun z => by rw [i_ge 1024, nI_toInt (by omega)] at z; omega), x_bc s (by omega), e_bd]
    rw [fb_ct_succ] at G
    by_cases hc : bcn S = b
    · rw [if_pos (by rw [hc]), x_fooled wk xe.1 xe.2 (by omega), e_bd]
      have e : qF C b S = fo C S := by unfold qF; rw [sbB_iff.mpr hs, hc]; simp
      rw [e] at G
      cases hf : fo C S with
      | false =>
        rw [hf] at G
        simp only [Bool.false_eq_true, if_false, Nat.add_zero] at G
        rw [oI_f, if_pos rfl]
        exact G
      | true =>
        rw [hf] at G
        simp only [if_true] at G
        rw [oI_t, if_neg e10, nI_1]
        exact G
    · have e : qF C b S = false := by unfold qF; simp [hc]
      rw [e] at G
      simp only [Bool.false_eq_true, if_false, Nat.add_zero] at G
      rw [if_neg (fun z => hc ((nI_eq (by omega) (by omega)).mp z))]
      exact G
theorem x_foolingSets {s : jm_M} {C : tC} (wk : wK C) (xe : XE s C) {b : Nat} (hb : b ≤ 10) : s_Co_foolingSets s (nI b) = some (nI (fb_ct (qF C b) 1024)) := x_fsets wk xe hb 1023 5000 0 0 rfl (by decide) (Nat.le_refl _) (fun i hi => by simp at hi)
/-- the least set of q below N, or NONE -/
def lsR (q : Nat → Bool) (N : Nat) (r : Int32) : Prop := (∃ A, A < N ∧ q A = true ∧ (∀ j, j < A → q j = false) ∧ r = nI A) ∨ (r = -4 ∧ ∀ A, A < N → q A = false)
theorem x_least {s : jm_M} {C : tC} (wk : wK C) (xe : XE s C) {b : Nat} (hb : b ≤ 10) : ∀ (k n S i : Nat), S + k = 1023 → k < n → i ≤ S → sbs S (cF C) → (∀ j, j < S → qF C b j = false) → ∃ r, s_Co_leastFoolingSet_L4 s n (nI b) (nI S) (nI i) = some r ∧ lsR (qF C b) 1024 r := by
  have hF := wk.2.1
  intro k
  induction k using Nat.strongRecOn with
  | ind k ih =>
    intro n S i hS hn hi hs hq
    obtain ⟨n, rfl⟩ : ∃ q, n = q + 1 := ⟨n - 1, by omega⟩
    have hbl := bcn_le S
    have G : qF C b S = false → ∃ r, s_Co_leastFoolingSet_J29 s (s_Co_leastFoolingSet_L4 s n) (nI b) (nI S) (nI i) = some r ∧ lsR (qF C b) 1024 r := by
      intro hqS
      unfold s_Co_leastFoolingSet_J29
      rw [xe.1.2.1, x_next hF (by omega), e_bd, nI_1]
      rcases nx_c hF hs with ⟨g1, g2⟩ | ⟨g1, g2, g3, g4⟩
      · rw [g1, if_pos (show nI 0 = 0 from rfl)]
        refine ⟨_, rfl, Or.inr ⟨rfl, fun A hA => ?_⟩⟩
        by_cases h1 : A < S
        · exact hq A h1
        · by_cases h2 : A = S
          · rw [h2]; exact hqS
          · exact qF_no (g2 A (by omega))
      · rw [if_neg (fun z => by rw [i_eq 0, nI_toInt (by omega)] at z; omega)]
        refine ih (1023 - nxk 10 (cF C) S) (by omega) n _ (i + 1) (by omega) (by omega) (by omega) g3 (fun j hj => ?_)
        by_cases h1 : j < S
        · exact hq j h1
        · by_cases h2 : j = S
          · rw [h2]; exact hqS
          · exact qF_no (g4 j (by omega) hj)
    rw [s_Co_leastFoolingSet_L4, if_neg (fun z => by rw [i_ge 1024, nI_toInt (by omega)] at z; omega), x_bc s (by omega), e_bd]
    by_cases hc : bcn S = b
    · rw [if_pos (by rw [hc]), x_fooled wk xe.1 xe.2 (by omega), e_bd]
      have e : qF C b S = fo C S := by unfold qF; rw [sbB_iff.mpr hs, hc]; simp
      cases hf : fo C S with
      | false =>
        rw [oI_f, if_pos rfl]
        exact G (by rw [e, hf])
      | true =>
        rw [oI_t, if_neg e10]
        exact ⟨_, rfl, Or.inl ⟨S, by omega, by rw [e, hf], hq, rfl⟩⟩
    · rw [if_neg (fun z => hc ((nI_eq (by omega) (by omega)).mp z))]
      exact G (by unfold qF; simp [hc])
theorem x_leastFooling {s : jm_M} {C : tC} (wk : wK C) (xe : XE s C) {b : Nat} (hb : b ≤ 10) : ∃ r, s_Co_leastFoolingSet s (nI b) = some r ∧ lsR (qF C b) 1024 r := x_least wk xe hb 1023 5000 0 0 rfl (by decide) (Nat.le_refl _) (fun i hi => by simp at hi) (fun j hj => by omega)
theorem nI_n4 {x : Nat} (hx : x < 2147483648) : ¬ nI x = -4 := fun z => by rw [i_eq (-4), nI_toInt hx] at z; omega
/-! the latest -/
def spk (C : tC) (b S : Nat) : Nat := if bcn S = min b (bcn (cF C) - 1) then dn (cH C) S else 0
theorem spk_bit {C : tC} (wk : wK C) {b S h : Nat} (hs : sbs S (cF C)) : (spk C b S).testBit h = true ↔ prC C b h S := by
  unfold spk prC
  by_cases hc : bcn S = min b (bcn (cF C) - 1)
  · rw [if_pos hc, dn_bit]
    simp only [Bool.and_eq_true, decide_eq_true_eq, Bool.not_eq_true']
    constructor
    · rintro ⟨h1, h2, h3⟩; exact ⟨h2, hs, h3, hc⟩
    · rintro ⟨h2, -, h3, -⟩; exact ⟨bit_lt wk.2.1 (wk.2.2.1 h h2), h2, h3⟩
  · rw [if_neg hc]
    simp only [Nat.zero_testBit, Bool.false_eq_true, false_iff]
    rintro ⟨-, -, -, h⟩
    exact hc h
theorem spk_lt {C : tC} {b S : Nat} : spk C b S < 1024 := by
  unfold spk
  split
  · exact dn_lt
  · decide
def wI (v : Nat) : Int32 := if v = 0 then -4 else nI v
theorem wI_max {w v : Nat} (hw : w < 1000000) (hv : 1 ≤ v) (hv2 : v < 1000000) : jm_max (wI w) (nI v) = wI (max w v) := by
  unfold jm_max wI
  by_cases h : w = 0
  · rw [if_pos h, if_pos (by rw [fa_lt, nI_toInt (by omega), show (-4 : Int32).toInt = -4 by decide]; omega), if_neg (show ¬ max w v = 0 by omega), h, Nat.zero_max]
  · rw [if_neg h, if_neg (show ¬ max w v = 0 by omega)]
    by_cases h2 : w < v
    · rw [if_pos (by rw [fa_lt, nI_toInt (by omega), nI_toInt (by omega)]; omega), Nat.max_eq_right (by omega)]
    · rw [if_neg (fun z => by rw [fa_lt, nI_toInt (by omega), nI_toInt (by omega)] at z; omega), Nat.max_eq_left (by omega)]
def k58 (k14 : Int32 → Int32 → Int32 → Int32 → jm_M → Option (Int32 × jm_M)) (x2 : Int32) (w S : Nat) (x5 : Int32) (s : jm_M) : Option (Int32 × jm_M) := jm_bd (s_Co_nextSet s (nI S) (s.1 48 4)) (fun v4 => (if v4 = 0 then (some (wI w, s)) else k14 x2 (wI w) v4 (x5 + 1) s))
theorem x_l58 {C : tC} (wk : wK C) {sp S : Nat} (hsp : sp < 1024) (hS : S < 1024) (k14 : Int32 → Int32 → Int32 → Int32 → jm_M → Option (Int32 × jm_M)) (x2 x5 : Int32) : ∀ (k n i w : Nat) (s : jm_M), i + k = 10 → k < n → XE s C → w < 1000000 → (∃ h s', sp.testBit h = true ∧ vlC C h S = 1000000 ∧ s_Co_latest_L58 k14 n x2 (wI w) (nI S) x5 (nI sp) (nI i) s = some (-4, s')) ∨ (∃ s' w', XE s' C ∧ s_Co_latest_L58 k14 n x2 (wI w) (nI S) x5 (nI sp) (nI i) s = k58 k14 x2 w' S x5 s' ∧ w ≤ w' ∧ w' < 1000000 ∧ (∀ h, i ≤ h → sp.testBit h = true → vlC C h S ≤ w') ∧ (w' = w ∨ ∃ h, sp.testBit h = true ∧ vlC C h S = w')) := by
  intro k
  induction k with
  | zero =>
    intro n i w s hi hn xe hw
    obtain ⟨n, rfl⟩ : ∃ q, n = q + 1 := ⟨n - 1, by omega⟩
    right
    refine ⟨s, w, xe, ?_, Nat.le_refl _, hw, fun h h1 h2 => ?_, Or.inl rfl⟩
    · rw [s_Co_latest_L58, if_pos (by rw [i_ge 10, nI_toInt (by omega)]; omega)]
      rfl
    · have := bit_lt hsp h2; omega
  | succ k ih =>
    intro n i w s hi hn xe hw
    obtain ⟨n, rfl⟩ : ∃ q, n = q + 1 := ⟨n - 1, by omega⟩
    rw [s_Co_latest_L58, if_neg (fun z => by rw [i_ge 10, nI_toInt (by omega)] at z; omega), bit1o (by omega) (by omega), nI_1]
    cases hb : sp.testBit i with
    | false =>
      rw [oI_f, if_pos rfl]
      rcases ih n (i + 1) w s (by omega) (by omega) xe hw with h | ⟨s', w', a1, a2, a3, a4, a5, a6⟩
      · exact Or.inl h
      · refine Or.inr ⟨s', w', a1, a2, a3, a4, fun h h1 h2 => ?_, a6⟩
        by_cases hh : h = i
        · rw [hh, hb] at h2; cases h2
        · exact a5 h (by omega) h2
    | true =>
      rw [oI_t, if_neg e10, p2 (by omega), xe.2]
      obtain ⟨s1, h1⟩ := x_alarm (S := S) wk xe.1 xe.2 (p2_lt (h := i) (by omega)) hS
      have hv : al C (2 ^ i) (dn (dn (cF C) S) (2 ^ i)) = vlC C i S := rfl
      rw [hv] at h1
      rw [h1, e_b2]
      have xe1 : XE s1 C := XE_fr xe (s_Co_spread_fr s _ _ _ _ h1)
      rcases vl_bd wk (h := i) (S := S) (by omega) with hz | hz
      · left
        refine ⟨i, s1, hb, hz, ?_⟩
        rw [if_pos hz, if_pos rfl]
      · rw [if_neg (show ¬ vlC C i S = 1000000 by omega), if_neg (nI_n4 (by omega)), e_vi, wI_max hw hz.1 (by omega)]
        rcases ih n (i + 1) (max w (vlC C i S)) s1 (by omega) (by omega) xe1 (by omega) with h | ⟨s', w', a1, a2, a3, a4, a5, a6⟩
        · exact Or.inl h
        · refine Or.inr ⟨s', w', a1, a2, by omega, a4, fun h h1 h2 => ?_, ?_⟩
          · by_cases hh : h = i
            · rw [hh]; omega
            · exact a5 h (by omega) h2
          · rcases a6 with a6 | a6
            · by_cases hm : vlC C i S ≤ w
              · left; omega
              · right; exact ⟨i, hb, by omega⟩
            · exact Or.inr a6
def ltR (C : tC) (b : Nat) (r : Int32) : Prop := ∃ L, isL C b L ∧ r = if L = 1000000 then -4 else nI L
theorem x_l23 {C : tC} (wk : wK C) {b : Nat} (hb : b ≤ 10) (x2 : Int32) (hx2 : ∀ S, sbs S (cF C) → (if nI (bcn S) = x2 then nI (dn (cH C) S) else 0) = nI (spk C b S)) : ∀ (k n S i w : Nat) (s : jm_M), S + k = 1023 → k < n → i ≤ S → sbs S (cF C) → XE s C → w < 1000000 → (∀ h R, R < S → prC C b h R → vlC C h R ≤ w) → (w = 0 ∨ ∃ h R, prC C b h R ∧ vlC C h R = w) → ∃ r s', s_Co_latest_L23 n x2 (wI w) (nI S) (nI i) s = some (r, s') ∧ ltR C b r := by
  have hF := wk.2.1
  intro k
  induction k using Nat.strongRecOn with
  | ind k ih =>
    intro n S i w s hS hn hi hs xe hw hq1 hq2
    obtain ⟨n, rfl⟩ : ∃ q, n = q + 1 := ⟨n - 1, by omega⟩
    have hbl := bcn_le S
    have E : s_Co_latest_L23 (n + 1) x2 (wI w) (nI S) (nI i) s = s_Co_latest_L58 (s_Co_latest_L23 n) 5000 x2 (wI w) (nI S) (nI i) (nI (spk C b S)) 0 s := by
      rw [s_Co_latest_L23, if_neg (fun z => by rw [i_ge 1024, nI_toInt (by omega)] at z; omega), x_bc s (by omega), e_bd, ← hx2 S hs, xe.1.1, andn (sbs_lt wk.2.2.1 hF) (by omega)]
      by_cases hc : nI (bcn S) = x2
      · rw [if_pos hc, if_pos hc, e_vi]
      · rw [if_neg hc, if_neg hc]
    rw [E]
    rcases x_l58 wk (sp := spk C b S) (S := S) spk_lt (by omega) (s_Co_latest_L23 n) x2 (nI i) 10 5000 0 w s rfl (by decide) xe hw with ⟨h, s', h1, h2, h3⟩ | ⟨s', w', a1, a2, a3, a4, a5, a6⟩
    · refine ⟨_, s', h3, 1000000, Or.inr ⟨fun h' R hp => ?_, h, S, (spk_bit wk hs).mp h1, h2⟩, by rw [if_pos rfl]⟩
      rcases vl_bd wk (S := R) (pr_h wk hp).1 with g | g <;> omega
    · have a2' : s_Co_latest_L58 (s_Co_latest_L23 n) 5000 x2 (wI w) (nI S) (nI i) (nI (spk C b S)) 0 s = k58 (s_Co_latest_L23 n) x2 w' S (nI i) s' := a2
      rw [a2']
      have hall : ∀ h R, R ≤ S → prC C b h R → vlC C h R ≤ w' := fun h R hR hp => by
        by_cases hRS : R = S
        · subst hRS
          exact a5 h (Nat.zero_le _) ((spk_bit wk hs).mpr hp)
        · exact Nat.le_trans (hq1 h R (by omega) hp) a3
      have hex : w' = 0 ∨ ∃ h R, prC C b h R ∧ vlC C h R = w' := by
        rcases a6 with a6 | ⟨h, a6, a7⟩
        · rw [a6]; exact hq2
        · exact Or.inr ⟨h, S, (spk_bit wk hs).mp a6, a7⟩
      unfold k58
      rw [a1.1.2.1, x_next hF (by omega), e_bd, nI_1]
      rcases nx_c hF hs with ⟨g1, g2⟩ | ⟨g1, g2, g3, g4⟩
      · rw [g1, if_pos (show nI 0 = 0 from rfl)]
        have hfin : ∀ h R, prC C b h R → vlC C h R ≤ w' := fun h R hp => by
          by_cases hRS : R ≤ S
          · exact hall h R hRS hp
          · exact absurd hp.2.1 (g2 R (by omega))
        refine ⟨_, _, rfl, ?_⟩
        rcases hex with h0 | ⟨h, R, e1, e2⟩
        · refine ⟨1000000, Or.inl ⟨fun h R hp => ?_, rfl⟩, ?_⟩
          · have := hfin h R hp
            rcases vl_bd wk (S := R) (pr_h wk hp).1 with g | g <;> omega
          · rw [h0, if_pos rfl]; rfl
        · refine ⟨w', Or.inr ⟨hfin, h, R, e1, e2⟩, ?_⟩
          have : ¬ w' = 0 := fun z => by
            rcases vl_bd wk (S := R) (pr_h wk e1).1 with g | g <;> omega
          rw [if_neg (show ¬ w' = 1000000 by omega), wI, if_neg this]
      · rw [if_neg (fun z => by rw [i_eq 0, nI_toInt (by omega)] at z; omega)]
        refine ih (1023 - nxk 10 (cF C) S) (by omega) n _ (i + 1) w' s' (by omega) (by omega) (by omega) g3 a1 a4 (fun h R hR hp => ?_) hex
        by_cases hRS : R ≤ S
        · exact hall h R hRS hp
        · exact absurd hp.2.1 (g4 R (by omega) hR)
theorem x_latest {s : jm_M} {C : tC} (wk : wK C) (xe : XE s C) {b : Nat} (hb : b ≤ 10) : ∃ r s', s_Co_latest s (nI b) = some (r, s') ∧ ltR C b r ∧ XE s' C := by
  have hF := wk.2.1
  have hbl := bcn_le (cF C)
  have H : ∃ r s', s_Co_latest s (nI b) = some (r, s') ∧ ltR C b r := by
    unfold s_Co_latest
    rw [xe.1.2.1, x_bc s hF, e_bd, e_vi]
    refine x_l23 wk hb _ (fun S hs => ?_) 1023 5000 0 0 0 s rfl (by decide) (Nat.le_refl _) (fun i hi => by simp at hi) xe (by decide) (fun h R hR => by omega) (Or.inl rfl)
    have hS : S < 1024 := sbs_lt hs hF
    have hSl := bcn_le S
    by_cases h0 : bcn (cF C) = 0
    · have hz : cF C = 0 := by
        apply Nat.eq_of_testBit_eq
        intro i
        rw [Nat.zero_testBit]
        by_cases hi : i < 10
        · exact fb_ct_zero.mp h0 i hi
        · exact Nat.testBit_lt_two_pow (Nat.lt_of_lt_of_le (show cF C < 2 ^ 10 from hF) (Nat.pow_le_pow_right (by decide) (by omega)))
      have hH : dn (cH C) S = 0 := by
        apply Nat.eq_of_testBit_eq
        intro i
        rw [Nat.zero_testBit, dn_bit]
        cases hc : (cH C).testBit i with
        | false => simp
        | true => have := wk.2.2.1 i hc; rw [hz] at this; simp at this
      unfold spk
      rw [hH]
      split <;> split <;> rfl
    · have e : jm_min (nI b) (nI (bcn (cF C)) - 1) = nI (min b (bcn (cF C) - 1)) := by
        rw [show (1 : Int32) = nI 1 from rfl, pk_sub (by omega), fa_eq, i_min, nI_toInt (by omega), nI_toInt (by omega), nI_toInt (by omega)]
        omega
      rw [e]
      unfold spk
      by_cases hc : bcn S = min b (bcn (cF C) - 1)
      · rw [if_pos (by rw [hc]), if_pos hc]
      · rw [if_neg (fun z => hc ((nI_eq (by omega) (by omega)).mp z)), if_neg hc]
        rfl
  obtain ⟨r, s', h1, h2⟩ := H
  exact ⟨r, s', h1, h2, XE_fr xe (s_Co_latest_fr s _ _ h1)⟩
