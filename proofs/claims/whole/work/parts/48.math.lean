/-! councils, without a machine -/
abbrev tC : Type := Nat × Nat × Nat × (Nat → Nat) × (Nat → Nat) × (Nat → Nat)
def cF (C : tC) : Nat := C.1
def cH (C : tC) : Nat := C.2.1
def ce (C : tC) : Nat := C.2.2.1
def cs (C : tC) : Nat → Nat := C.2.2.2.1
def cd (C : tC) : Nat → Nat := C.2.2.2.2.1
def cp (C : tC) : Nat → Nat := C.2.2.2.2.2
def wC (C : tC) : Prop := ∀ h, h < 10 → cs C h < 1024 ∧ 1 ≤ cd C h ∧ cd C h ≤ 9 ∧ 1 ≤ cp C h ∧ cp C h ≤ 9
/-- within -/
def sbs (a b : Nat) : Prop := ∀ i, a.testBit i = true → b.testBit i = true
theorem sbs_tr {a b c : Nat} (h1 : sbs a b) (h2 : sbs b c) : sbs a c := fun i hi => h2 i (h1 i hi)
theorem sbs_rf (a : Nat) : sbs a a := fun _ h => h
theorem sbs_lt {a b : Nat} (h : sbs a b) (hb : b < 1024) : a < 1024 := by
  apply Nat.lt_pow_two_of_testBit (n := 10)
  intro i hi
  cases hc : a.testBit i with
  | false => rfl
  | true => rw [← h i hc, Nat.testBit_lt_two_pow (Nat.lt_of_lt_of_le (show b < 2 ^ 10 from hb) (Nat.pow_le_pow_right (by decide) hi))]
theorem bit_lt {a i : Nat} (ha : a < 1024) (h : a.testBit i = true) : i < 10 := by
  apply Decidable.byContradiction
  intro hi
  rw [Nat.testBit_lt_two_pow (Nat.lt_of_lt_of_le (show a < 2 ^ 10 from ha) (Nat.pow_le_pow_right (by decide) (by omega)))] at h
  cases h
theorem bcn_mono {a b : Nat} (h : sbs a b) : bcn a ≤ bcn b := fb_ct_sub (fun k _ hk => h k hk)
theorem bcn_and {a b x : Nat} (h : sbs a b) : bcn (x &&& a) ≤ bcn (x &&& b) := bcn_mono (fun i hi => by
  rw [Nat.testBit_and, Bool.and_eq_true] at hi ⊢
  exact ⟨hi.1, h i hi.2⟩)
theorem ct_lt {p q : Nat → Bool} {n i : Nat} (h : ∀ k, k < n → p k = true → q k = true) (hi : i < n) (hp : p i = false) (hq : q i = true) : fb_ct p n < fb_ct q n := by
  have h1 := fb_ct_upd p true hi
  rw [hp] at h1
  have h2 : fb_ct (fun k => if k = i then true else p k) n ≤ fb_ct q n := fb_ct_sub (fun k hk hk2 => by
    by_cases hki : k = i
    · rw [hki]; exact hq
    · simp only [if_neg hki] at hk2; exact h k hk hk2)
  simp only [Bool.false_eq_true, if_false, if_true] at h1
  omega
theorem bcn_lt {a b i : Nat} (h : sbs a b) (hi : i < 10) (ha : a.testBit i = false) (hb : b.testBit i = true) : bcn a < bcn b := ct_lt (fun k _ hk => h k hk) hi ha hb
def dn (x y : Nat) : Nat := sOf (fun i => x.testBit i && !y.testBit i) 10
theorem dn_bit {x y i : Nat} : (dn x y).testBit i = (decide (i < 10) && (x.testBit i && !y.testBit i)) := sOf_bit _ _ _
theorem dn_lt {x y : Nat} : dn x y < 1024 := sOf_lt _ 10
theorem dn_sub {x y : Nat} : sbs (dn x y) x := fun i hi => by
  rw [dn_bit] at hi
  simp at hi
  exact hi.2.1
/-- the rule of h is met by the fires m -/
def cn (C : tC) (h m : Nat) : Bool := decide (cd C h ≤ bcn (cs C h &&& m))
theorem cn_mono {C : tC} {h a b : Nat} (hs : sbs a b) (hc : cn C h a = true) : cn C h b = true := by
  unfold cn at hc ⊢
  rw [decide_eq_true_eq] at hc ⊢
  exact Nat.le_trans hc (bcn_and hs)
/-- who burns at the minute t: A from minute 1 on, those of W by their rules -/
def bq (C : tC) (A W : Nat) : Nat → Nat
  | 0 => 0
  | t + 1 => if t = 0 then A else bq C A W t ||| sOf (fun h => W.testBit h && (decide (cp C h ≤ t) && cn C h (bq C A W (t - (cp C h - 1))))) 10
termination_by t => t
decreasing_by all_goals omega
theorem bq_0 (C : tC) (A W : Nat) : bq C A W 0 = 0 := by rw [bq]
theorem bq_1 (C : tC) (A W : Nat) : bq C A W 1 = A := by rw [bq, if_pos rfl]
theorem bq_s {C : tC} (A W : Nat) (wc : wC C) {t : Nat} (ht : 1 ≤ t) (h : Nat) : (bq C A W (t + 1)).testBit h = ((bq C A W t).testBit h || (decide (h < 10) && (W.testBit h && (decide (cp C h ≤ t) && cn C h (bq C A W (t + 1 - cp C h)))))) := by
  rw [bq, if_neg (by omega), Nat.testBit_or, sOf_bit]
  by_cases hh : h < 10
  · have := wc h hh
    rw [show t - (cp C h - 1) = t + 1 - cp C h by omega]
  · simp [hh]
theorem bq_up {C : tC} (A W : Nat) (wc : wC C) {t : Nat} (ht : 1 ≤ t) : sbs (bq C A W t) (bq C A W (t + 1)) := fun i hi => by rw [bq_s A W wc ht, hi, Bool.true_or]
theorem bq_mono {C : tC} (A W : Nat) (wc : wC C) {t u : Nat} (htu : t ≤ u) : sbs (bq C A W t) (bq C A W u) := by
  obtain ⟨d, rfl⟩ : ∃ d, u = t + d := ⟨u - t, by omega⟩
  clear htu
  induction d with
  | zero => exact sbs_rf _
  | succ d ih =>
    by_cases h : 1 ≤ t + d
    · exact sbs_tr ih (bq_up A W wc h)
    · have : t = 0 := by omega
      subst this
      intro i hi
      rw [bq_0] at hi
      simp at hi
theorem bq_lt {C : tC} {A W : Nat} (hA : A < 1024) (t : Nat) : bq C A W t < 1024 := by
  induction t with
  | zero => rw [bq_0]; decide
  | succ t ih =>
    rw [bq]
    split
    · exact hA
    · exact Nat.or_lt_two_pow (n := 10) ih (sOf_lt _ 10)
theorem eq_sbs {a b : Nat} (h1 : sbs a b) (h2 : sbs b a) : a = b := by
  apply Nat.eq_of_testBit_eq
  intro i
  cases ha : a.testBit i with
  | true => rw [h1 i ha]
  | false =>
    cases hb : b.testBit i with
    | false => rfl
    | true => rw [h2 i hb] at ha; cases ha
/-- nine quiet minutes: nothing more comes -/
theorem bq_quiet {C : tC} {A W : Nat} (wc : wC C) (hA : A < 1024) {t0 : Nat} (h0 : 1 ≤ t0) (hq : bq C A W (t0 + 9) = bq C A W t0) : ∀ d, bq C A W (t0 + d) = bq C A W t0 := by
  intro d
  induction d using Nat.strongRecOn with
  | ind d ih =>
    by_cases hd : d ≤ 9
    · exact eq_sbs (hq ▸ bq_mono A W wc (show t0 + d ≤ t0 + 9 by omega)) (bq_mono A W wc (by omega))
    · obtain ⟨e, rfl⟩ : ∃ e, d = e + 1 := ⟨d - 1, by omega⟩
      refine eq_sbs (fun i hi => ?_) (bq_mono A W wc (by omega))
      have hi10 : i < 10 := bit_lt (bq_lt hA _) hi
      have hw := wc i hi10
      rw [← Nat.add_assoc, bq_s A W wc (by omega), ih e (by omega)] at hi
      cases hb : (bq C A W t0).testBit i with
      | true => rfl
      | false =>
        exfalso
        rw [hb, Bool.false_or] at hi
        simp only [Bool.and_eq_true, decide_eq_true_eq] at hi
        obtain ⟨-, g2, g3, g4⟩ := hi
        rw [show t0 + e + 1 - cp C i = t0 + (e + 1 - cp C i) by omega, ih (e + 1 - cp C i) (by omega)] at g4
        have h9 : (bq C A W (t0 + cp C i)).testBit i = true := by
          obtain ⟨q, hq2⟩ : ∃ q, cp C i = q + 1 := ⟨cp C i - 1, by omega⟩
          rw [hq2, ← Nat.add_assoc, bq_s A W wc (by omega), hq2, show t0 + q + 1 - (q + 1) = t0 by omega, g2, g4]
          simp [hi10]
          omega
        have := bq_mono A W wc (show t0 + cp C i ≤ t0 + 9 by omega) i h9
        rw [hq, hb] at this
        cases this
theorem bq_steps {C : tC} {A W : Nat} (wc : wC C) (hA : A < 1024) : ∀ k, k ≤ bcn (bq C A W (1 + 9 * k)) ∨ ∃ t0, 1 ≤ t0 ∧ t0 + 9 ≤ 1 + 9 * k ∧ bq C A W (t0 + 9) = bq C A W t0
  | 0 => Or.inl (Nat.zero_le _)
  | k + 1 => by
    rcases bq_steps (C := C) (A := A) (W := W) wc hA k with h | ⟨t0, h1, h2, h3⟩
    · by_cases he : bq C A W (1 + 9 * k + 9) = bq C A W (1 + 9 * k)
      · exact Or.inr ⟨1 + 9 * k, by omega, by omega, he⟩
      · left
        have hm := bq_mono (C := C) A W wc (show 1 + 9 * k ≤ 1 + 9 * k + 9 by omega)
        have : ∃ i, (bq C A W (1 + 9 * k + 9)).testBit i = true ∧ (bq C A W (1 + 9 * k)).testBit i = false := by
          apply Classical.byContradiction
          intro hn
          apply he
          refine eq_sbs (fun i hi => ?_) hm
          cases hb : (bq C A W (1 + 9 * k)).testBit i with
          | true => rfl
          | false => exact absurd ⟨i, hi, hb⟩ hn
        obtain ⟨i, hi1, hi2⟩ := this
        have := bcn_lt hm (bit_lt (bq_lt hA _) hi1) hi2 hi1
        rw [show 1 + 9 * (k + 1) = 1 + 9 * k + 9 by omega]
        omega
    · exact Or.inr ⟨t0, h1, by omega, h3⟩
theorem bq_fin {C : tC} {A W : Nat} (wc : wC C) (hA : A < 1024) {t : Nat} (ht : 91 ≤ t) : bq C A W t = bq C A W 91 := by
  rcases bq_steps (C := C) (A := A) (W := W) wc hA 11 with h | ⟨t0, h1, h2, h3⟩
  · have := bcn_le (bq C A W (1 + 9 * 11))
    omega
  · have q := bq_quiet wc hA h1 h3
    rw [show t = t0 + (t - t0) by omega, q, show 91 = t0 + (91 - t0) by omega, q]
/-- closed sets -/
def clo (C : tC) (R : Nat) : Prop := ∀ h, h < 10 → (cF C).testBit h = true → cn C h R = true → R.testBit h = true
theorem bq_clo {C : tC} {A W R : Nat} (wc : wC C) (hW : sbs W (cF C)) (hA : sbs A R) (hR : clo C R) : ∀ t, sbs (bq C A W t) R := by
  intro t
  induction t using Nat.strongRecOn with
  | ind t ih =>
    match t, ih with
    | 0, _ => intro i hi; rw [bq_0] at hi; simp at hi
    | 1, _ => rw [bq_1]; exact hA
    | t + 2, ih =>
      intro i hi
      rw [bq_s A W wc (by omega), Bool.or_eq_true] at hi
      rcases hi with hi | hi
      · exact ih (t + 1) (by omega) i hi
      · simp only [Bool.and_eq_true, decide_eq_true_eq] at hi
        obtain ⟨g1, g2, g3, g4⟩ := hi
        have := wc i g1
        exact hR i g1 (hW i g2) (cn_mono (ih _ (by omega)) g4)
theorem bq_end {C : tC} {A : Nat} (wc : wC C) (hA : A < 1024) : clo C (bq C A (dn (cF C) A) 91) := by
  intro h hh hF hc
  have w := wc h hh
  by_cases hb : A.testBit h = true
  · exact bq_mono A _ wc (show 1 ≤ 91 by decide) h (by rw [bq_1]; exact hb)
  · have hb : A.testBit h = false := by simpa using hb
    obtain ⟨q, hq⟩ : ∃ q, cp C h = q + 1 := ⟨cp C h - 1, by omega⟩
    have e : (bq C A (dn (cF C) A) (91 + q + 1)).testBit h = true := by
      rw [bq_s A _ wc (by omega), hq, show 91 + q + 1 - (q + 1) = 91 by omega, hc, dn_bit, hF, hb]
      simp [hh]
      omega
    rwa [bq_fin wc hA (by omega)] at e
/-- the fires in the end, of liars A -/
def rg (C : tC) (A : Nat) : Nat := bq C A (dn (cF C) A) 91
theorem rg_mono {C : tC} {A B : Nat} (wc : wC C) (hB : B < 1024) (h : sbs A B) : sbs (rg C A) (rg C B) := by
  refine bq_clo wc dn_sub ?_ (bq_end wc hB) 91
  have : sbs (bq C B (dn (cF C) B) 1) (rg C B) := bq_mono B _ wc (by decide)
  rw [bq_1] at this
  exact sbs_tr h this
def fo (C : tC) (A : Nat) : Bool := cn C (ce C) (rg C A)
theorem fo_mono {C : tC} {A B : Nat} (wc : wC C) (hB : B < 1024) (h : sbs A B) (hf : fo C A = true) : fo C B = true := cn_mono (rg_mono wc hB h) hf
theorem bq_W {C : tC} {A W V : Nat} (wc : wC C) (h : sbs W V) : ∀ t, sbs (bq C A W t) (bq C A V t) := by
  intro t
  induction t using Nat.strongRecOn with
  | ind t ih =>
    match t, ih with
    | 0, _ => rw [bq_0, bq_0]; exact sbs_rf _
    | 1, _ => rw [bq_1, bq_1]; exact sbs_rf _
    | t + 2, ih =>
      intro i hi
      rw [bq_s A W wc (by omega), Bool.or_eq_true] at hi
      rw [bq_s A V wc (by omega), Bool.or_eq_true]
      rcases hi with hi | hi
      · exact Or.inl (ih (t + 1) (by omega) i hi)
      · right
        simp only [Bool.and_eq_true, decide_eq_true_eq] at hi ⊢
        obtain ⟨g1, g2, g3, g4⟩ := hi
        have := wc i g1
        exact ⟨g1, h i g2, g3, cn_mono (ih _ (by omega)) g4⟩
/-- the first minute of q up to N, or never -/
def fsq (q : Nat → Bool) : Nat → Nat
  | 0 => 1000000
  | k + 1 => if fsq q k < 1000000 then fsq q k else if q (k + 1) then k + 1 else 1000000
theorem fsq_iff (q : Nat → Bool) : ∀ N, N < 1000000 → fsq q N ≤ 1000000 ∧ (∀ x, x < 1000000 → (fsq q N ≤ x ↔ ∃ t, 1 ≤ t ∧ t ≤ N ∧ t ≤ x ∧ q t = true))
  | 0, _ => ⟨Nat.le_refl _, fun x hx => by
      rw [fsq]
      constructor
      · intro h; omega
      · rintro ⟨t, h1, h2, -⟩; omega⟩
  | k + 1, hk => by
    obtain ⟨h1, h2⟩ := fsq_iff q k (by omega)
    rw [fsq]
    by_cases c : fsq q k < 1000000
    · rw [if_pos c]
      refine ⟨h1, fun x hx => ?_⟩
      rw [h2 x hx]
      constructor
      · rintro ⟨t, a, b, c, d⟩; exact ⟨t, a, by omega, c, d⟩
      · rintro ⟨t, a, b, e, d⟩
        by_cases ht : t ≤ k
        · exact ⟨t, a, ht, e, d⟩
        · obtain ⟨t', a', b', c', d'⟩ := (h2 (fsq q k) c).mp (Nat.le_refl _)
          exact ⟨t', a', b', by omega, d'⟩
    · rw [if_neg c]
      have none : ∀ t, 1 ≤ t → t ≤ k → q t = true → False := fun t a b d => c (Nat.lt_of_le_of_lt ((h2 t (by omega)).mpr ⟨t, a, b, Nat.le_refl _, d⟩) (by omega))
      by_cases hq : q (k + 1) = true
      · rw [if_pos hq]
        refine ⟨by omega, fun x hx => ⟨fun h => ⟨k + 1, by omega, Nat.le_refl _, h, hq⟩, ?_⟩⟩
        rintro ⟨t, a, b, e, d⟩
        by_cases ht : t ≤ k
        · exact (none t a ht d).elim
        · omega
      · rw [if_neg hq]
        refine ⟨Nat.le_refl _, fun x hx => ⟨fun h => by omega, ?_⟩⟩
        rintro ⟨t, a, b, e, d⟩
        by_cases ht : t ≤ k
        · exact (none t a ht d).elim
        · rw [show t = k + 1 by omega] at d; exact absurd d hq
/-- when the ear has its fires together -/
def ar (C : tC) (A W : Nat) : Nat := fsq (fun t => cn C (ce C) (bq C A W t)) 91
theorem cn_0 {C : tC} {h : Nat} (wc : wC C) (hh : h < 10) : cn C h 0 = false := by
  unfold cn
  rw [Nat.and_zero, decide_eq_false_iff_not, show bcn 0 = 0 by decide]
  have := wc h hh
  omega
theorem ar_iff {C : tC} {A W : Nat} (wc : wC C) (he : ce C < 10) (hA : A < 1024) : ar C A W ≤ 1000000 ∧ ∀ x, x < 1000000 → (ar C A W ≤ x ↔ cn C (ce C) (bq C A W x) = true) := by
  obtain ⟨h1, h2⟩ := fsq_iff (fun t => cn C (ce C) (bq C A W t)) 91 (by decide)
  refine ⟨h1, fun x hx => ?_⟩
  rw [ar, h2 x hx]
  constructor
  · rintro ⟨t, a, b, e, d⟩
    exact cn_mono (bq_mono A W wc e) d
  · intro h
    have hx0 : 1 ≤ x := by
      cases x with
      | zero => rw [bq_0, cn_0 wc he] at h; cases h
      | succ x => omega
    by_cases hx2 : x ≤ 91
    · exact ⟨x, hx0, hx2, Nat.le_refl _, h⟩
    · rw [bq_fin wc hA (by omega)] at h
      exact ⟨91, by decide, Nat.le_refl _, by omega, h⟩
theorem ar_one {C : tC} {A W v : Nat} (wc : wC C) (he : ce C < 10) (hA : A < 1024) (h1 : v ≤ 1000000) (h2 : ∀ x, x < 1000000 → (v ≤ x ↔ cn C (ce C) (bq C A W x) = true)) : v = ar C A W := by
  obtain ⟨g1, g2⟩ := ar_iff (W := W) wc he hA
  by_cases c : v < ar C A W
  · have := (g2 v (by omega)).mpr ((h2 v (by omega)).mp (Nat.le_refl _))
    omega
  · by_cases c2 : ar C A W < v
    · have := (h2 _ (by omega)).mpr ((g2 _ (by omega)).mp (Nat.le_refl _))
      omega
    · omega
theorem ar_bd {C : tC} {A W : Nat} (wc : wC C) (he : ce C < 10) (hA : A < 1024) (h : ar C A W < 1000000) : 1 ≤ ar C A W ∧ ar C A W ≤ 91 := by
  have hh : ∀ x, x < 1000000 → (ar C A W ≤ x ↔ ∃ t, 1 ≤ t ∧ t ≤ 91 ∧ t ≤ x ∧ cn C (ce C) (bq C A W t) = true) := fun x hx => by
    rw [ar]
    exact (fsq_iff _ 91 (by decide)).2 x hx
  obtain ⟨t, a, b, c, d⟩ := (hh _ h).mp (Nat.le_refl _)
  have b2 : ar C A W ≤ 91 := (hh 91 (by decide)).mpr ⟨t, a, b, b, d⟩
  have q := (ar_iff (W := W) wc he hA).2 _ h
  refine ⟨?_, b2⟩
  cases hz : ar C A W with
  | zero =>
    rw [hz] at q
    have := q.mp (Nat.le_refl _)
    rw [bq_0, cn_0 wc he] at this
    cases this
  | succ x => omega
theorem ar_mono {C : tC} {A W V : Nat} (wc : wC C) (he : ce C < 10) (hA : A < 1024) (h : sbs W V) : ar C A V ≤ ar C A W := by
  obtain ⟨g1, g2⟩ := ar_iff (W := W) wc he hA
  obtain ⟨k1, k2⟩ := ar_iff (W := V) wc he hA
  by_cases c : ar C A W < 1000000
  · exact (k2 _ c).mpr (cn_mono (bq_W wc h _) ((g2 _ c).mp (Nat.le_refl _)))
  · omega
/-- the minute of a true alarm -/
def al (C : tC) (A W : Nat) : Nat := if ar C A W < 1000000 then ar C A W + cp C (ce C) - 1 else 1000000
theorem al_bd {C : tC} {A W : Nat} (wc : wC C) (he : ce C < 10) (hA : A < 1024) : (al C A W = 1000000 ∧ ¬ ar C A W < 1000000) ∨ (1 ≤ al C A W ∧ al C A W < 100 ∧ ar C A W ≤ 91 ∧ 1 ≤ ar C A W ∧ al C A W = ar C A W + cp C (ce C) - 1) := by
  unfold al
  by_cases h : ar C A W < 1000000
  · rw [if_pos h]
    have := ar_bd wc he hA h
    have := wc _ he
    right
    omega
  · rw [if_neg h]
    exact Or.inl ⟨rfl, h⟩
theorem al_mono {C : tC} {A W V : Nat} (wc : wC C) (he : ce C < 10) (hA : A < 1024) (h : sbs W V) : al C A V ≤ al C A W := by
  have h1 := ar_mono wc he hA h
  have := (ar_iff (W := V) wc he hA).1
  have := (ar_iff (W := W) wc he hA).1
  rcases al_bd (W := V) wc he hA with a | a
  · unfold al
    rw [if_neg a.2, if_neg (by omega)]
    exact Nat.le_refl _
  · rcases al_bd (W := W) wc he hA with b | b
    · omega
    · omega
