/-! items of a text -/
abbrev tQ : Type := tN × Nat × Nat × Bool
def uH (T : tN) (k : Nat) : tN := (tn T + 1, fun h => if h = tn T then k else tk T h, ts T, td T, tp T, tw T, ta T, tz T, tm T)
def uV (T : tN) (a b : Nat) : tN := (tn T, tk T, fun h => if h = a then ts T a ||| 2 ^ b else if h = b then ts T b ||| 2 ^ a else ts T h, td T, tp T, tw T, ta T, tz T, tm T)
def uR (T : tN) (a k m : Nat) : tN := (tn T, tk T, ts T, fun h => if h = a then k else td T h, fun h => if h = a then m else tp T h, tw T, ta T, tz T, tm T)
def uW (T : tN) (a w : Nat) : tN := (tn T, tk T, ts T, td T, tp T, fun h => if h = a then w else tw T h, ta T, tz T, tm T)
def inM (x y t : Nat) : Bool := decide (x ≤ t ∧ t ≤ y)
def uA (T : tN) (a x y : Nat) : tN := (tn T, tk T, ts T, td T, tp T, tw T, fun h t => ta T h t || (decide (h = a) && inM x y t), tz T, tm T)
def uL (T : tN) (a x y : Nat) : tN := (tn T, tk T, ts T, td T, tp T, tw T, ta T, fun h t => tz T h t || (decide (h = a) && inM x y t), tm T)
def uG (T : tN) (a b x y : Nat) : tN := (tn T, tk T, ts T, td T, tp T, tw T, ta T, tz T, fun p q t => tm T p q t || (decide ((p = a ∧ q = b) ∨ (p = b ∧ q = a)) && inM x y t))
def tkA (l c : Nat) (v : Nat → Nat) (Q : tQ) : Option tQ :=
  if l = 104 then (if c = 1 ∧ Q.2.2.2 = true ∧ v 0 ≤ 3 ∧ tn Q.1 < 10 ∧ ¬ (v 0 = 2 ∧ earN Q.1 < tn Q.1) then some (uH Q.1 (v 0), Q.2.1, Q.2.2.1, Q.2.2.2) else none)
  else if l = 118 then (if c = 2 ∧ v 0 < tn Q.1 ∧ v 1 < tn Q.1 ∧ v 0 ≠ v 1 ∧ (ts Q.1 (v 0)).testBit (v 1) = false then some (uV Q.1 (v 0) (v 1), Q.2.1, Q.2.2.1, false) else none)
  else if l = 114 then (if c = 3 ∧ v 0 < tn Q.1 ∧ Q.2.1.testBit (v 0) = false ∧ 1 ≤ v 1 ∧ v 1 ≤ 9 ∧ 1 ≤ v 2 ∧ v 2 ≤ 9 then some (uR Q.1 (v 0) (v 1) (v 2), Q.2.1 ||| 2 ^ v 0, Q.2.2.1, false) else none)
  else if l = 119 then (if c = 2 ∧ v 0 < tn Q.1 ∧ Q.2.2.1.testBit (v 0) = false then some (uW Q.1 (v 0) (v 1), Q.2.1, Q.2.2.1 ||| 2 ^ v 0, false) else none)
  else if l = 115 then (if c = 3 ∧ v 0 < tn Q.1 ∧ v 1 ≤ v 2 ∧ v 2 ≤ 59 then some (uA Q.1 (v 0) (v 1) (v 2), Q.2.1, Q.2.2.1, false) else none)
  else if l = 103 then (if c = 4 ∧ v 0 < tn Q.1 ∧ v 1 < tn Q.1 ∧ (ts Q.1 (v 0)).testBit (v 1) = true ∧ v 2 ≤ v 3 ∧ v 3 ≤ 59 then some (uG Q.1 (v 0) (v 1) (v 2) (v 3), Q.2.1, Q.2.2.1, false) else none)
  else if l = 108 then (if c = 3 ∧ v 0 < tn Q.1 ∧ tk Q.1 (v 0) ≤ 1 ∧ v 1 ≤ v 2 ∧ v 2 ≤ 59 then some (uL Q.1 (v 0) (v 1) (v 2), Q.2.1, Q.2.2.1, false) else none)
  else none
def wQ (Q : tQ) : Prop := wT Q.1 ∧ Q.2.1 < 1024 ∧ Q.2.2.1 < 1024
theorem ear_none {T : tN} (h : ¬ earN T < tn T) {j : Nat} (hj : j < tn T) : tk T j ≠ 2 := by
  intro hk
  unfold earN at h
  have := fa_first_no (fun h => decide (tk T h = 2)) (tn T) j (by omega)
  simp [hk] at this
theorem w_uH {T : tN} (wt : wT T) {k : Nat} (hk : k ≤ 3) (hn : tn T < 10) (he : ¬ (k = 2 ∧ earN T < tn T)) : wT (uH T k) := by
  obtain ⟨w1, w2, w3, w4, w5, w6, w7, w8⟩ := wt
  have hO := w3 (tn T) (Nat.le_refl _) hn
  have p2 : 2 ^ tn T ≤ 2 ^ (tn T + 1) := Nat.pow_le_pow_right (by decide) (by omega)
  refine ⟨by show tn T + 1 ≤ 10; omega, fun h hh => ?_, fun h h1 h2 => w3 h (by have : tn T + 1 ≤ h := h1; omega) h2, fun a b ha hb => ?_, fun a b ha hb hka hkb => ?_, fun h t hz => ?_, fun h t hz => ?_, fun a b t hz => ?_⟩
  · have hh : h < tn T + 1 := hh
    by_cases e : h = tn T
    · subst e
      refine ⟨?_, ?_, ?_, ?_, ?_, ?_, ?_, ?_⟩
      · show (if tn T = tn T then k else _) ≤ 3
        rw [if_pos rfl]; exact hk
      · show ts T (tn T) < 2 ^ (tn T + 1)
        rw [hO.1]; exact Nat.two_pow_pos _
      · show 1 ≤ td T (tn T); rw [hO.2.1]; decide
      · show td T (tn T) ≤ 9; rw [hO.2.1]; decide
      · show 1 ≤ tp T (tn T); rw [hO.2.2.1]; decide
      · show tp T (tn T) ≤ 9; rw [hO.2.2.1]; decide
      · show tw T (tn T) ≤ 99; rw [hO.2.2.2]; decide
      · show (ts T (tn T)).testBit (tn T) = false; rw [hO.1]; simp
    · obtain ⟨g1, g2, g3⟩ := w2 h (by omega)
      refine ⟨?_, ?_, g3⟩
      · show (if h = tn T then k else tk T h) ≤ 3
        rw [if_neg e]; exact g1
      · show ts T h < 2 ^ (tn T + 1)
        omega
  · show (ts T a).testBit b = (ts T b).testBit a
    have ha : a < tn T + 1 := ha
    have hb : b < tn T + 1 := hb
    have new : ∀ q, q < tn T + 1 → (ts T q).testBit (tn T) = false := fun q hq => by
      by_cases e : q = tn T
      · rw [e, hO.1]; simp
      · exact Nat.testBit_lt_two_pow (w2 q (by omega)).2.1
    have zero : ∀ q, (ts T (tn T)).testBit q = false := fun q => by rw [hO.1]; simp
    by_cases e : a = tn T
    · rw [e, zero, new b hb]
    · by_cases e2 : b = tn T
      · rw [e2, zero, new a ha]
      · exact w4 a b (by omega) (by omega)
  · have ha : a < tn T + 1 := ha
    have hb : b < tn T + 1 := hb
    have hka : (if a = tn T then k else tk T a) = 2 := hka
    have hkb : (if b = tn T then k else tk T b) = 2 := hkb
    by_cases e : a = tn T
    · by_cases e2 : b = tn T
      · rw [e, e2]
      · rw [if_pos e] at hka
        rw [if_neg e2] at hkb
        exact absurd hkb (ear_none (fun h => he ⟨hka, h⟩) (by omega))
    · by_cases e2 : b = tn T
      · rw [if_neg e] at hka
        rw [if_pos e2] at hkb
        exact absurd hka (ear_none (fun h => he ⟨hkb, h⟩) (by omega))
      · rw [if_neg e] at hka
        rw [if_neg e2] at hkb
        exact w5 a b (by omega) (by omega) hka hkb
  · have := w6 h t hz
    refine ⟨by show h < tn T + 1; omega, ?_, this.2.2⟩
    show (if h = tn T then k else tk T h) ≤ 1
    rw [if_neg (by omega)]; exact this.2.1
  · have := w7 h t hz
    exact ⟨by show h < tn T + 1; omega, this.2⟩
  · have := w8 a b t hz
    exact ⟨by show a < tn T + 1; omega, by show b < tn T + 1; omega, this.2.2⟩
theorem uV_ts {T : tN} {a b h : Nat} : ts (uV T a b) h = if h = a then ts T a ||| 2 ^ b else if h = b then ts T b ||| 2 ^ a else ts T h := rfl
theorem w_uV {T : tN} (wt : wT T) {a b : Nat} (ha : a < tn T) (hb : b < tn T) (hab : a ≠ b) : wT (uV T a b) := by
  obtain ⟨w1, w2, w3, w4, w5, w6, w7, w8⟩ := wt
  have p : ∀ q, q < tn T → 2 ^ q < 2 ^ tn T := fun q hq => Nat.pow_lt_pow_right (by decide) hq
  have bit : ∀ h q, h < tn T → (ts (uV T a b) h).testBit q = ((ts T h).testBit q || decide ((h = a ∧ q = b) ∨ (h = b ∧ q = a))) := fun h q hh => by
    rw [uV_ts]
    by_cases e : h = a
    · rw [if_pos e, fb_bit_set, e]
      simp [show ¬ a = b from hab]
    · rw [if_neg e]
      by_cases e2 : h = b
      · rw [if_pos e2, fb_bit_set, e2]
        simp [show ¬ b = a from fun z => hab z.symm]
      · rw [if_neg e2]; simp [e, e2]
  refine ⟨w1, fun h hh => ?_, fun h h1 h2 => ?_, fun x y hx hy => ?_, w5, w6, w7, w8⟩
  · obtain ⟨g1, g2, g3, g4, g5, g6, g7, g8⟩ := w2 h hh
    refine ⟨g1, ?_, g3, g4, g5, g6, g7, ?_⟩
    · show ts (uV T a b) h < 2 ^ tn T
      rw [uV_ts]
      split
      · exact Nat.or_lt_two_pow (w2 a ha).2.1 (p b hb)
      · split
        · exact Nat.or_lt_two_pow (w2 b hb).2.1 (p a ha)
        · exact g2
    · rw [bit h h hh, g8]
      simp only [Bool.false_or, decide_eq_false_iff_not]
      omega
  · obtain ⟨g1, g2⟩ := w3 h h1 h2
    have h1 : tn T ≤ h := h1
    refine ⟨?_, g2⟩
    rw [uV_ts, if_neg (by omega), if_neg (by omega)]; exact g1
  · rw [bit x y hx, bit y x hy, w4 x y hx hy]
    congr 1
    apply decide_eq_decide.mpr
    omega
theorem w_uR {T : tN} (wt : wT T) {a k m : Nat} (ha : a < tn T) (h1 : 1 ≤ k) (h2 : k ≤ 9) (h3 : 1 ≤ m) (h4 : m ≤ 9) : wT (uR T a k m) := by
  obtain ⟨w1, w2, w3, w⟩ := wt
  refine ⟨w1, fun h hh => ?_, fun h g1 g2 => ?_, w⟩
  · obtain ⟨g1, g2, g3, g4, g5, g6, g7, g8⟩ := w2 h hh
    have e1 : td (uR T a k m) h = if h = a then k else td T h := rfl
    have e2 : tp (uR T a k m) h = if h = a then m else tp T h := rfl
    refine ⟨g1, g2, ?_, ?_, ?_, ?_, g7, g8⟩
    · rw [e1]; split <;> omega
    · rw [e1]; split <;> omega
    · rw [e2]; split <;> omega
    · rw [e2]; split <;> omega
  · obtain ⟨k1, k2, k3, k4⟩ := w3 h g1 g2
    have g1 : tn T ≤ h := g1
    have e1 : td (uR T a k m) h = if h = a then k else td T h := rfl
    have e2 : tp (uR T a k m) h = if h = a then m else tp T h := rfl
    exact ⟨k1, by rw [e1, if_neg (by omega)]; exact k2, by rw [e2, if_neg (by omega)]; exact k3, k4⟩
theorem w_uW {T : tN} (wt : wT T) {a w : Nat} (ha : a < tn T) (h1 : w ≤ 99) : wT (uW T a w) := by
  obtain ⟨w1, w2, w3, wr⟩ := wt
  have e1 : ∀ h, tw (uW T a w) h = if h = a then w else tw T h := fun _ => rfl
  refine ⟨w1, fun h hh => ?_, fun h g1 g2 => ?_, wr⟩
  · obtain ⟨g1, g2, g3, g4, g5, g6, g7, g8⟩ := w2 h hh
    refine ⟨g1, g2, g3, g4, g5, g6, ?_, g8⟩
    rw [e1]; split <;> omega
  · obtain ⟨k1, k2, k3, k4⟩ := w3 h g1 g2
    have g1 : tn T ≤ h := g1
    exact ⟨k1, k2, k3, by rw [e1, if_neg (by omega)]; exact k4⟩
theorem inM_iff {x y t : Nat} : inM x y t = true ↔ x ≤ t ∧ t ≤ y := by unfold inM; rw [decide_eq_true_eq]
theorem w_uA {T : tN} (wt : wT T) {a x y : Nat} (ha : a < tn T) (h1 : y ≤ 59) : wT (uA T a x y) := by
  obtain ⟨w1, w2, w3, w4, w5, w6, w7, w8⟩ := wt
  refine ⟨w1, w2, w3, w4, w5, w6, fun h t hz => ?_, w8⟩
  have hz : (ta T h t || (decide (h = a) && inM x y t)) = true := hz
  simp only [Bool.or_eq_true, Bool.and_eq_true, decide_eq_true_eq, inM_iff] at hz
  show h < tn T ∧ t < 60
  rcases hz with hz | hz
  · exact w7 h t hz
  · omega
theorem w_uL {T : tN} (wt : wT T) {a x y : Nat} (ha : a < tn T) (hk : tk T a ≤ 1) (h1 : y ≤ 59) : wT (uL T a x y) := by
  obtain ⟨w1, w2, w3, w4, w5, w6, w7, w8⟩ := wt
  refine ⟨w1, w2, w3, w4, w5, fun h t hz => ?_, w7, w8⟩
  have hz : (tz T h t || (decide (h = a) && inM x y t)) = true := hz
  simp only [Bool.or_eq_true, Bool.and_eq_true, decide_eq_true_eq, inM_iff] at hz
  show h < tn T ∧ tk T h ≤ 1 ∧ t < 60
  rcases hz with hz | ⟨rfl, hz⟩
  · exact w6 h t hz
  · omega
theorem w_uG {T : tN} (wt : wT T) {a b x y : Nat} (ha : a < tn T) (hb : b < tn T) (h1 : y ≤ 59) : wT (uG T a b x y) := by
  obtain ⟨w1, w2, w3, w4, w5, w6, w7, w8⟩ := wt
  refine ⟨w1, w2, w3, w4, w5, w6, w7, fun p q t hz => ?_⟩
  have hz : (tm T p q t || (decide ((p = a ∧ q = b) ∨ (p = b ∧ q = a)) && inM x y t)) = true := hz
  simp only [Bool.or_eq_true, Bool.and_eq_true, decide_eq_true_eq, inM_iff] at hz
  show p < tn T ∧ q < tn T ∧ t < 60
  rcases hz with hz | hz
  · exact w8 p q t hz
  · omega
/-- what is taken keeps what a net keeps -/
theorem tkA_w {l c : Nat} {v : Nat → Nat} {Q Q' : tQ} (w : wQ Q) (hv : ∀ j, j < c → v j < 100) (h : tkA l c v Q = some Q') : wQ Q' := by
  obtain ⟨wt, w2, w3⟩ := w
  have w1 := wt.1
  have bit : ∀ m a, m < 1024 → a < tn Q.1 → m ||| 2 ^ a < 1024 := fun m a hm ha => Nat.or_lt_two_pow (n := 10) hm (p2_lt (by omega))
  unfold tkA at h
  by_cases l1 : l = 104
  · rw [if_pos l1] at h
    split at h
    · rename_i hc; cases h; exact ⟨w_uH wt hc.2.2.1 hc.2.2.2.1 hc.2.2.2.2, w2, w3⟩
    · cases h
  rw [if_neg l1] at h
  by_cases l2 : l = 118
  · rw [if_pos l2] at h
    split at h
    · rename_i hc; cases h; exact ⟨w_uV wt hc.2.1 hc.2.2.1 hc.2.2.2.1, w2, w3⟩
    · cases h
  rw [if_neg l2] at h
  by_cases l3 : l = 114
  · rw [if_pos l3] at h
    split at h
    · rename_i hc; cases h; exact ⟨w_uR wt hc.2.1 hc.2.2.2.1 hc.2.2.2.2.1 hc.2.2.2.2.2.1 hc.2.2.2.2.2.2, bit _ _ w2 hc.2.1, w3⟩
    · cases h
  rw [if_neg l3] at h
  by_cases l4 : l = 119
  · rw [if_pos l4] at h
    split at h
    · rename_i hc; cases h; exact ⟨w_uW wt hc.2.1 (by have := hv 1 (by omega); omega), w2, bit _ _ w3 hc.2.1⟩
    · cases h
  rw [if_neg l4] at h
  by_cases l5 : l = 115
  · rw [if_pos l5] at h
    split at h
    · rename_i hc; cases h; exact ⟨w_uA wt hc.2.1 hc.2.2.2, w2, w3⟩
    · cases h
  rw [if_neg l5] at h
  by_cases l6 : l = 103
  · rw [if_pos l6] at h
    split at h
    · rename_i hc; cases h; exact ⟨w_uG wt hc.2.1 hc.2.2.1 hc.2.2.2.2.2, w2, w3⟩
    · cases h
  rw [if_neg l6] at h
  by_cases l7 : l = 108
  · rw [if_pos l7] at h
    split at h
    · rename_i hc; cases h; exact ⟨w_uL wt hc.2.1 hc.2.2.1 hc.2.2.2.2, w2, w3⟩
    · cases h
  rw [if_neg l7] at h
  cases h
