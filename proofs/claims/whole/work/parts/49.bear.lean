/-! sets in a row; what is borne -/
theorem sbs_le {a b : Nat} (h : sbs a b) : a ≤ b := by
  have : a &&& b = a := by
    apply Nat.eq_of_testBit_eq
    intro i
    rw [Nat.testBit_and]
    cases ha : a.testBit i with
    | false => rfl
    | true => rw [h i ha]; rfl
  rw [← this]
  exact Nat.and_le_right
theorem and2 {a b x y : Nat} (hx : x < 2) (hy : y < 2) : (2 * a + x) &&& (2 * b + y) = 2 * (a &&& b) + (x &&& y) := by
  have hxy : x &&& y < 2 := Nat.lt_of_le_of_lt Nat.and_le_left hx
  apply Nat.eq_of_testBit_eq
  intro i
  cases i with
  | zero =>
    rw [Nat.testBit_and]
    rcases (show x = 0 ∨ x = 1 by omega) with rfl | rfl <;> rcases (show y = 0 ∨ y = 1 by omega) with rfl | rfl <;> simp [Nat.testBit_zero, Nat.add_mod, Nat.mul_mod]
  | succ i =>
    rw [Nat.testBit_and, Nat.testBit_succ, Nat.testBit_succ, Nat.testBit_succ, show (2 * a + x) / 2 = a by omega, show (2 * b + y) / 2 = b by omega, show (2 * (a &&& b) + (x &&& y)) / 2 = a &&& b by omega, Nat.testBit_and]
theorem sbs2 {a b x y : Nat} (hx : x < 2) (hy : y < 2) : sbs (2 * a + x) (2 * b + y) ↔ sbs a b ∧ x ≤ y := by
  constructor
  · intro h
    refine ⟨fun i hi => ?_, ?_⟩
    · have := h (i + 1)
      rw [Nat.testBit_succ, Nat.testBit_succ, show (2 * a + x) / 2 = a by omega, show (2 * b + y) / 2 = b by omega] at this
      exact this hi
    · have := h 0
      rw [Nat.testBit_zero, Nat.testBit_zero, decide_eq_true_eq, decide_eq_true_eq] at this
      omega
  · rintro ⟨h, h2⟩ i hi
    cases i with
    | zero =>
      rw [Nat.testBit_zero, decide_eq_true_eq] at hi ⊢
      omega
    | succ i =>
      rw [Nat.testBit_succ, show (2 * a + x) / 2 = a by omega] at hi
      rw [Nat.testBit_succ, show (2 * b + y) / 2 = b by omega]
      exact h i hi
theorem md2 (a m : Nat) {x : Nat} (hx : x < 2) : (2 * a + x) % (2 * m) = 2 * (a % m) + x := by
  rw [Nat.mod_mul, show (2 * a + x) / 2 = a by omega, show (2 * a + x) % 2 = x by omega]
  omega
def nxk (k w s : Nat) : Nat := ((s + 2 ^ k - w) % 2 ^ k) &&& w
theorem nx_m : ∀ (k w s : Nat), w < 2 ^ k → sbs s w → ((s + 2 ^ k - w - 1) % 2 ^ k) &&& w = s
  | 0, w, s, hw, h => by
    have : s ≤ w := sbs_le h
    have : w = 0 := by simpa using hw
    subst this
    simp; omega
  | k + 1, w, s, hw, h => by
    obtain ⟨v, c, hc, rfl⟩ : ∃ v c, c < 2 ∧ w = 2 * v + c := ⟨w / 2, w % 2, by omega, by omega⟩
    obtain ⟨r, b, hb, rfl⟩ : ∃ r b, b < 2 ∧ s = 2 * r + b := ⟨s / 2, s % 2, by omega, by omega⟩
    obtain ⟨h1, h2⟩ := (sbs2 hb hc).mp h
    have hp : (2 : Nat) ^ (k + 1) = 2 * 2 ^ k := by rw [Nat.pow_succ, Nat.mul_comm]
    have ih := nx_m k v r (by omega) h1
    rw [hp]
    by_cases hbc : b = c
    · subst hbc
      rw [show 2 * r + b + 2 * 2 ^ k - (2 * v + b) - 1 = 2 * (r + 2 ^ k - v - 1) + 1 by omega, md2 _ _ (by decide), and2 (by decide) hb, ih]
      rcases (show b = 0 ∨ b = 1 by omega) with rfl | rfl <;> rfl
    · have : b = 0 ∧ c = 1 := by omega
      obtain ⟨rfl, rfl⟩ := this
      rw [show 2 * r + 0 + 2 * 2 ^ k - (2 * v + 1) - 1 = 2 * (r + 2 ^ k - v - 1) + 0 by omega, md2 _ _ (by decide), and2 (by decide) (by decide), ih]
      rfl
theorem nx_ok : ∀ (k w s : Nat), w < 2 ^ k → sbs s w → (nxk k w s = 0 ∧ s = w) ∨ (s < nxk k w s ∧ sbs (nxk k w s) w ∧ ∀ r, s < r → r < nxk k w s → ¬ sbs r w)
  | 0, w, s, hw, h => by
    have : s ≤ w := sbs_le h
    have : w = 0 := by simpa using hw
    subst this
    left
    simp [nxk]; omega
  | k + 1, w, s, hw, h => by
    obtain ⟨v, c, hc, rfl⟩ : ∃ v c, c < 2 ∧ w = 2 * v + c := ⟨w / 2, w % 2, by omega, by omega⟩
    obtain ⟨r, b, hb, rfl⟩ : ∃ r b, b < 2 ∧ s = 2 * r + b := ⟨s / 2, s % 2, by omega, by omega⟩
    obtain ⟨h1, h2⟩ := (sbs2 hb hc).mp h
    have hp : (2 : Nat) ^ (k + 1) = 2 * 2 ^ k := by rw [Nat.pow_succ, Nat.mul_comm]
    have hv : v < 2 ^ k := by omega
    by_cases hbc : b = c
    · subst hbc
      have e : nxk (k + 1) (2 * v + b) (2 * r + b) = 2 * nxk k v r := by
        unfold nxk
        rw [hp, show 2 * r + b + 2 * 2 ^ k - (2 * v + b) = 2 * (r + 2 ^ k - v) + 0 by omega, md2 _ _ (by decide), and2 (by decide) hb, Nat.zero_and]
        rfl
      rw [e]
      rcases nx_ok k v r hv h1 with ⟨g1, g2⟩ | ⟨g1, g2, g3⟩
      · left; omega
      · right
        refine ⟨by omega, (sbs2 (x := 0) (by decide) hb).mpr ⟨g2, by omega⟩, fun q hq1 hq2 hq3 => ?_⟩
        obtain ⟨p, y, hy, rfl⟩ : ∃ p y, y < 2 ∧ q = 2 * p + y := ⟨q / 2, q % 2, by omega, by omega⟩
        obtain ⟨k1, k2⟩ := (sbs2 hy hb).mp hq3
        by_cases hpr : r < p
        · exact g3 p hpr (by omega) k1
        · omega
    · have : b = 0 ∧ c = 1 := by omega
      obtain ⟨rfl, rfl⟩ := this
      have e : nxk (k + 1) (2 * v + 1) (2 * r + 0) = 2 * r + 1 := by
        unfold nxk
        rw [hp, show 2 * r + 0 + 2 * 2 ^ k - (2 * v + 1) = 2 * (r + 2 ^ k - v - 1) + 1 by omega, md2 _ _ (by decide), and2 (by decide) (by decide), nx_m k v r hv h1]
        rfl
      rw [e]
      right
      exact ⟨by omega, (sbs2 (by decide) (by decide)).mpr ⟨h1, Nat.le_refl _⟩, fun q _ _ _ => by omega⟩
theorem nx_i {w s : Nat} (hw : w < 1024) (hs : s < 1024) : (nI s - nI w) &&& nI w = nI (nxk 10 w s) := by
  have e : nI s - nI w = nI (s + 4294967296 - w) := by
    apply Int32.toBitVec_inj.1
    show BitVec.ofNat 32 s - BitVec.ofNat 32 w = BitVec.ofNat 32 (s + 4294967296 - w)
    apply BitVec.eq_of_toNat_eq
    simp only [BitVec.toNat_sub, BitVec.toNat_ofNat]
    omega
  have g : ∀ a, a &&& w = (a % 1024) &&& w := fun a => by
    apply Nat.eq_of_testBit_eq
    intro i
    rw [Nat.testBit_and, Nat.testBit_and, show (1024 : Nat) = 2 ^ 10 from rfl, Nat.testBit_mod_two_pow]
    by_cases hi : i < 10
    · simp [hi]
    · rw [Nat.testBit_lt_two_pow (Nat.lt_of_lt_of_le (show w < 2 ^ 10 from hw) (Nat.pow_le_pow_right (by decide) (by omega)))]
      simp
  rw [e, fa_and, g]
  unfold nxk
  rw [show (2 : Nat) ^ 10 = 1024 from rfl, show (s + 4294967296 - w) % 1024 = (s + 1024 - w) % 1024 by omega]
theorem andn {x y : Nat} (hx : x < 1024) (hy : y < 1024) : nI x &&& (nI y ^^^ (-1)) = nI (dn x y) := by
  have hbit : ∀ (x : Nat) (i : Nat), i < 32 → (nI x).toBitVec.getLsbD i = x.testBit i := by
    intro x i hi
    show (BitVec.ofNat 32 x).getLsbD i = _
    rw [BitVec.getLsbD_ofNat]
    simp [hi]
  have hm1 : ∀ i, i < 32 → (-1 : Int32).toBitVec.getLsbD i = true := by
    intro i hi
    have : ∀ j : Fin 32, (-1 : Int32).toBitVec.getLsbD j.val = true := by decide +kernel
    exact this ⟨i, hi⟩
  apply Int32.toBitVec_inj.1
  apply BitVec.eq_of_getLsbD_eq
  intro i hi
  show ((nI x).toBitVec &&& ((nI y).toBitVec ^^^ (-1 : Int32).toBitVec)).getLsbD i = _
  rw [BitVec.getLsbD_and, BitVec.getLsbD_xor, hbit x i hi, hbit y i hi, hm1 i hi, hbit _ i hi, dn_bit, Bool.xor_true]
  by_cases h : i < 10
  · simp [h]
  · rw [Nat.testBit_lt_two_pow (Nat.lt_of_lt_of_le (show x < 2 ^ 10 from hx) (Nat.pow_le_pow_right (by decide) (by omega)))]
    simp
theorem andn0 {m F : Nat} (hm : m < 1024) (hF : F < 1024) : (nI m &&& (nI F ^^^ (-1)) = 0) ↔ sbs m F := by
  rw [in_set hF]
  constructor
  · rintro ⟨k, hk, e, h⟩
    have : m = k := (nI_eq (by omega) (by omega)).mp e
    rw [this]; exact h
  · intro h
    exact ⟨m, hm, rfl, h⟩
/-! sizes -/
theorem bcn_ins {a i : Nat} (hi : i < 10) (ha : a.testBit i = false) : bcn (a ||| 2 ^ i) = bcn a + 1 := by
  have h := fb_ct_upd (fun k => a.testBit k) true hi
  simp only [ha, Bool.false_eq_true, if_false, if_true] at h
  have e : fb_ct (fun k => (a ||| 2 ^ i).testBit k) 10 = fb_ct (fun k => if k = i then true else a.testBit k) 10 := fb_ct_cong (fun k hk => by
    show (a ||| 2 ^ i).testBit k = _
    rw [fb_bit_set]
    by_cases hk : k = i
    · simp [hk]
    · simp [hk])
  unfold bcn
  rw [e]
  exact h
theorem bcn_del {a i : Nat} (hi : i < 10) (ha : a.testBit i = true) : bcn (dn a (2 ^ i)) + 1 = bcn a := by
  have h := fb_ct_upd (fun k => a.testBit k) false hi
  simp only [ha, Bool.false_eq_true, if_false, if_true] at h
  have e : fb_ct (fun k => (dn a (2 ^ i)).testBit k) 10 = fb_ct (fun k => if k = i then false else a.testBit k) 10 := fb_ct_cong (fun k hk => by
    show (dn a (2 ^ i)).testBit k = _
    rw [dn_bit, Nat.testBit_two_pow]
    by_cases hki : k = i
    · subst hki; simp
    · simp [hki, hk, show ¬ i = k by omega])
  unfold bcn
  rw [e]
  exact h
theorem bcn_ext {F : Nat} (hF : F < 1024) : ∀ (d A k : Nat), sbs A F → bcn A + d = k → k ≤ bcn F → ∃ B, sbs A B ∧ sbs B F ∧ bcn B = k
  | 0, A, k, h1, h2, _ => ⟨A, sbs_rf A, h1, by omega⟩
  | d + 1, A, k, h1, h2, h3 => by
    have : ∃ i, F.testBit i = true ∧ A.testBit i = false := by
      apply Classical.byContradiction
      intro hn
      have : sbs F A := fun i hi => by
        cases hb : A.testBit i with
        | true => rfl
        | false => exact absurd ⟨i, hi, hb⟩ hn
      have := bcn_mono this
      omega
    obtain ⟨i, g1, g2⟩ := this
    have hi := bit_lt hF g1
    obtain ⟨B, k1, k2, k3⟩ := bcn_ext hF d (A ||| 2 ^ i) k (fun q hq => by
      rw [fb_bit_set, Bool.or_eq_true, decide_eq_true_eq] at hq
      rcases hq with hq | hq
      · exact h1 q hq
      · rw [hq]; exact g1) (by rw [bcn_ins hi g2]; omega) h3
    refine ⟨B, fun q hq => k1 q ?_, k2, k3⟩
    rw [fb_bit_set, hq, Bool.true_or]
/-! pairs of a head and who is silent -/
def prC (C : tC) (b h S : Nat) : Prop := (cH C).testBit h = true ∧ sbs S (cF C) ∧ S.testBit h = false ∧ bcn S = min b (bcn (cF C) - 1)
def vlC (C : tC) (h S : Nat) : Nat := al C (2 ^ h) (dn (dn (cF C) S) (2 ^ h))
def isL (C : tC) (b L : Nat) : Prop := ((∀ h S, ¬ prC C b h S) ∧ L = 1000000) ∨ ((∀ h S, prC C b h S → vlC C h S ≤ L) ∧ ∃ h S, prC C b h S ∧ vlC C h S = L)
theorem isL_one {C : tC} {b L M : Nat} (h1 : isL C b L) (h2 : isL C b M) : L = M := by
  rcases h1 with ⟨a1, a2⟩ | ⟨a1, h, S, a2, a3⟩
  · rcases h2 with ⟨b1, b2⟩ | ⟨b1, h, S, b2, b3⟩
    · rw [a2, b2]
    · exact absurd b2 (a1 h S)
  · rcases h2 with ⟨b1, b2⟩ | ⟨b1, h', S', b2, b3⟩
    · exact absurd a2 (b1 h S)
    · have := a1 _ _ b2
      have := b1 _ _ a2
      omega
/-- a whole council -/
def wK (C : tC) : Prop := wC C ∧ cF C < 1024 ∧ sbs (cH C) (cF C) ∧ ce C < 10 ∧ (cF C).testBit (ce C) = false
theorem p2_lt {h : Nat} (hh : h < 10) : 2 ^ h < 1024 := Nat.lt_of_lt_of_le (Nat.pow_lt_pow_right (by decide) hh) (Nat.le_refl _)
theorem vl_bd {C : tC} (wk : wK C) {h S : Nat} (hh : h < 10) : vlC C h S = 1000000 ∨ (1 ≤ vlC C h S ∧ vlC C h S < 100) := by
  rcases al_bd (W := dn (dn (cF C) S) (2 ^ h)) wk.1 wk.2.2.2.1 (p2_lt hh) with a | a
  · exact Or.inl a.1
  · exact Or.inr ⟨a.1, a.2.1⟩
theorem pr_h {C : tC} (wk : wK C) {b h S : Nat} (hp : prC C b h S) : h < 10 ∧ (cF C).testBit h = true := ⟨bit_lt wk.2.1 (wk.2.2.1 h hp.1), wk.2.2.1 h hp.1⟩
theorem isL_bd {C : tC} (wk : wK C) {b L : Nat} (h : isL C b L) : L = 1000000 ∨ (1 ≤ L ∧ L < 100) := by
  rcases h with ⟨_, a⟩ | ⟨_, q, S, a2, a3⟩
  · exact Or.inl a
  · rw [← a3]
    exact vl_bd wk (pr_h wk a2).1
/-- b liars are borne -/
def noF (C : tC) (b : Nat) : Prop := ∀ A, sbs A (cF C) → bcn A ≤ b → fo C A = false
def bear (C : tC) (b : Nat) : Prop := noF C b ∧ (∃ h S, prC C b h S) ∧ ∀ h S, prC C b h S → vlC C h S < 1000000
theorem isL_lt {C : tC} {b L : Nat} (h : isL C b L) : L < 1000000 ↔ ((∃ h S, prC C b h S) ∧ ∀ h S, prC C b h S → vlC C h S < 1000000) := by
  rcases h with ⟨a1, a2⟩ | ⟨a1, q, S, a2, a3⟩
  · constructor
    · intro z; omega
    · rintro ⟨⟨h, S, hp⟩, -⟩; exact absurd hp (a1 h S)
  · constructor
    · intro z
      exact ⟨⟨q, S, a2⟩, fun h S' hp => Nat.lt_of_le_of_lt (a1 h S' hp) z⟩
    · rintro ⟨-, z⟩
      rw [← a3]
      exact z q S a2
theorem noF_iff {C : tC} (wk : wK C) {b : Nat} : noF C b ↔ ∀ A, sbs A (cF C) → bcn A = min b (bcn (cF C)) → fo C A = false := by
  constructor
  · intro h A h1 h2
    exact h A h1 (by omega)
  · intro h A h1 h2
    have hm := bcn_mono h1
    obtain ⟨B, k1, k2, k3⟩ := bcn_ext wk.2.1 (min b (bcn (cF C)) - bcn A) A (min b (bcn (cF C))) h1 (by omega) (by omega)
    cases hf : fo C A with
    | false => rfl
    | true => rw [← h B k2 k3]; exact (fo_mono wk.1 (sbs_lt k2 wk.2.1) k1 hf).symm
theorem bear_dn {C : tC} (wk : wK C) {b c : Nat} (hbc : b ≤ c) (h : bear C c) : bear C b := by
  obtain ⟨h1, ⟨q, S, hp⟩, h3⟩ := h
  have ext : ∀ (h : Nat), (cH C).testBit h = true → ∀ (A k : Nat), sbs A (cF C) → A.testBit h = false → bcn A ≤ k → k ≤ bcn (cF C) - 1 → ∃ B, sbs A B ∧ sbs B (cF C) ∧ B.testBit h = false ∧ bcn B = k := by
    intro h hh A k a1 a2 a3 a4
    have hF := wk.2.2.1 h hh
    have h10 := bit_lt wk.2.1 hF
    have hd := bcn_del h10 hF
    obtain ⟨B, k1, k2, k3⟩ := bcn_ext (F := dn (cF C) (2 ^ h)) dn_lt (k - bcn A) A k (fun i hi => by
      have hf := a1 i hi
      have : ¬ h = i := fun e => by rw [← e, a2] at hi; cases hi
      rw [dn_bit, hf, Nat.testBit_two_pow]
      simp [bit_lt wk.2.1 hf, this]) (by omega) (by omega)
    refine ⟨B, k1, sbs_tr k2 dn_sub, ?_, k3⟩
    cases hb : B.testBit h with
    | false => rfl
    | true =>
      have := k2 h hb
      rw [dn_bit, Nat.testBit_two_pow] at this
      simp at this
  refine ⟨fun A a1 a2 => h1 A a1 (by omega), ?_, fun h S' hp' => ?_⟩
  · obtain ⟨B, k1, k2, k3, k4⟩ := ext q hp.1 0 (min b (bcn (cF C) - 1)) (fun i hi => by simp at hi) (by simp) (by rw [show bcn 0 = 0 by decide]; omega) (by omega)
    exact ⟨q, B, hp.1, k2, k3, k4⟩
  · obtain ⟨B, k1, k2, k3, k4⟩ := ext h hp'.1 S' (min c (bcn (cF C) - 1)) hp'.2.1 hp'.2.2.1 (by rw [hp'.2.2.2]; omega) (by omega)
    refine Nat.lt_of_le_of_lt ?_ (h3 h B ⟨hp'.1, k2, k3, k4⟩)
    refine al_mono wk.1 wk.2.2.2.1 (p2_lt (pr_h wk hp').1) (fun i hi => ?_)
    rw [dn_bit, dn_bit] at hi ⊢
    simp only [Bool.and_eq_true, decide_eq_true_eq, Bool.not_eq_true'] at hi ⊢
    obtain ⟨g1, ⟨g2, g3, g4⟩, g5⟩ := hi
    refine ⟨g1, ⟨g2, g3, ?_⟩, g5⟩
    cases hs : S'.testBit i with
    | false => rfl
    | true => rw [k1 i hs] at g4; cases g4
