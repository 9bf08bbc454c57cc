theorem ts_bit {w : Int64} {s : UInt64} {j : Nat} (hj : j < 64) (hs : s.toNat = j) : ((w.toUInt64 >>> s).toInt64 &&& 1) = 0 ↔ w.toBitVec.getLsbD j = false := by
  have e : (w.toUInt64 >>> s).toInt64.toBitVec = w.toBitVec >>> j := by
    apply BitVec.eq_of_toNat_eq
    show (w.toUInt64 >>> s).toNat = _
    rw [UInt64.toNat_shiftRight, hs, Nat.mod_eq_of_lt hj, BitVec.toNat_ushiftRight]
    rfl
  rw [← Int64.toBitVec_inj, Int64.toBitVec_and, e]
  show w.toBitVec >>> j &&& 1#64 = 0#64 ↔ _
  constructor
  · intro h
    have t := congrArg (fun x => x.getLsbD 0) h
    simpa using t
  · intro h
    apply BitVec.eq_of_getLsbD_eq
    intro i hi
    cases i with
    | zero => simp [h]
    | succ i => simp
/-! bits of longs -/
theorem l_sh {u : Nat} (hu : u < 64) : ((nI u).toInt64.toUInt64 &&& Int64.toUInt64 63).toNat = u := by
  have : ∀ j : Fin 64, ((nI j.val).toInt64.toUInt64 &&& Int64.toUInt64 63).toNat = j.val := by decide +kernel
  exact this ⟨u, hu⟩
theorem l_bit {w : Int64} {u : Nat} (hu : u < 64) : lg_cmp (((w.toUInt64 >>> ((nI u).toInt64.toUInt64 &&& Int64.toUInt64 63)).toInt64) &&& 1) 0 = 0 ↔ b64 w u = false := by
  rw [g_eq, ts_bit hu (l_sh hu), b64]
theorem l_and (a b : Int64) (u : Nat) : b64 (a &&& b) u = (b64 a u && b64 b u) := by
  show (a.toBitVec &&& b.toBitVec).getLsbD u = _
  rw [BitVec.getLsbD_and]
  rfl
theorem l_or (a b : Int64) (u : Nat) : b64 (a ||| b) u = (b64 a u || b64 b u) := by
  show (a.toBitVec ||| b.toBitVec).getLsbD u = _
  rw [BitVec.getLsbD_or]
  rfl
theorem l_not (a : Int64) {u : Nat} (hu : u < 64) : b64 (a ^^^ (-1)) u = !b64 a u := by
  show (a.toBitVec ^^^ (-1 : Int64).toBitVec).getLsbD u = _
  have : ∀ j : Fin 64, (-1 : Int64).toBitVec.getLsbD j.val = true := by decide +kernel
  rw [BitVec.getLsbD_xor, this ⟨u, hu⟩, Bool.xor_true]
  rfl
theorem l_one {t u : Nat} (ht : t < 64) (hu : u < 64) : b64 ((1 : Int64) <<< ((nI t).toInt64 &&& 63)) u = decide (u = t) := by
  have h2 : ∀ j : Fin 64, ((nI j.val).toInt64 &&& 63).toBitVec.smod 64 = BitVec.ofNat 64 j.val := by decide +kernel
  show ((1#64) <<< (((nI t).toInt64 &&& 63).toBitVec.smod 64).toNat).getLsbD u = _
  rw [h2 ⟨t, ht⟩, BitVec.toNat_ofNat, Nat.mod_eq_of_lt (by omega), BitVec.getLsbD_shiftLeft, BitVec.getLsbD_one]
  by_cases h : u = t
  · subst h; simp [hu]
  · by_cases h1 : u < t
    · simp [h1, h]
    · have : ¬ u - t = 0 := by omega
      simp [h, this, h1]
theorem l_all {x w : Int64} : (x &&& w) = w ↔ ∀ u, u < 64 → b64 w u = true → b64 x u = true := by
  constructor
  · intro h u hu hw
    have := l_and x w u
    rw [h, hw] at this
    simpa using this.symm
  · intro h
    apply Int64.toBitVec_inj.1
    apply BitVec.eq_of_getLsbD_eq
    intro u hu
    have h1 := l_and x w u
    rw [b64] at h1
    rw [h1]
    show (b64 x u && b64 w u) = b64 w u
    cases hw : b64 w u with
    | false => simp
    | true => rw [h u hu hw]; rfl
/-! the night, as a rule -/
def alB (p : Nat → Bool) : Nat → Bool
  | 0 => true
  | k + 1 => alB p k && p k
theorem alB_iff (p : Nat → Bool) : ∀ k, alB p k = true ↔ ∀ j, j < k → p j = true
  | 0 => by simp [alB]
  | k + 1 => by
    rw [alB, Bool.and_eq_true, alB_iff p k]
    constructor
    · rintro ⟨h1, h2⟩ j hj
      by_cases hjk : j = k
      · subst hjk; exact h2
      · exact h1 j (by omega)
    · intro h
      exact ⟨fun j hj => h j (by omega), h k (by omega)⟩
theorem alB_cong {p q : Nat → Bool} {k : Nat} (h : ∀ j, j < k → p j = q j) : alB p k = alB q k := by
  apply Bool.eq_iff_iff.mpr
  rw [alB_iff, alB_iff]
  exact ⟨fun g j hj => by rw [← h j hj]; exact g j hj, fun g j hj => by rw [h j hj]; exact g j hj⟩
def hdB (T : tN) (F : Nat → Nat → Bool) (h m o : Nat) : Bool := (ts T h).testBit o && alB (fun j => F (m + 1 - tp T h + j) o && !tm T h o (m + 1 - tp T h + j)) (tp T h)
def held (T : tN) (F : Nat → Nat → Bool) (h m : Nat) : Bool := decide (tp T h ≤ m + 1) && decide (td T h ≤ fb_ct (hdB T F h m) (tn T))
def frd (T : tN) (hd : Nat) (sm : Nat → Bool) (F : Nat → Nat → Bool) (t h : Nat) : Bool := decide (h < tn T) && decide (tk T h ≤ 1) && (if lzB T h then tz T h t else (decide (t ≠ 0) && !ta T h t && (F (t - 1) h || ((hd.testBit h && sm (t - 1)) || held T F h (t - 1)))))
def kdl (T : tN) (hd : Nat) (sm : Nat → Bool) (F : Nat → Nat → Bool) (L : Nat → Nat) (t h : Nat) : Bool := decide (0 < L h) && frd T hd sm F t h
def nf (T : tN) (hd : Nat) (sm : Nat → Bool) : Nat → (Nat → Nat → Bool) × (Nat → Nat)
  | 0 => (fun _ _ => false, tw T)
  | t + 1 => (fun u h => if u = t then kdl T hd sm (nf T hd sm t).1 (nf T hd sm t).2 t h else (nf T hd sm t).1 u h, fun h => if kdl T hd sm (nf T hd sm t).1 (nf T hd sm t).2 t h then (nf T hd sm t).2 h - 1 else (nf T hd sm t).2 h)
theorem hdB_cong {T : tN} {F G : Nat → Nat → Bool} {h m o : Nat} (hp : tp T h ≤ m + 1) (e : ∀ u, u ≤ m → F u o = G u o) : hdB T F h m o = hdB T G h m o := by
  unfold hdB
  congr 1
  apply alB_cong
  intro j hj
  rw [e _ (by omega)]
theorem held_cong {T : tN} {F G : Nat → Nat → Bool} {h m : Nat} (e : ∀ u o, u ≤ m → o < tn T → F u o = G u o) : held T F h m = held T G h m := by
  unfold held
  by_cases hp : tp T h ≤ m + 1
  · rw [fb_ct_cong (fun o ho => hdB_cong hp (fun u hu => e u o hu ho))]
  · simp [hp]
theorem nf_out {T : tN} {hd : Nat} {sm : Nat → Bool} : ∀ t u h, t ≤ u → (nf T hd sm t).1 u h = false
  | 0, _, _, _ => rfl
  | t + 1, u, h, hu => by
    show (if u = t then _ else (nf T hd sm t).1 u h) = false
    rw [if_neg (by omega)]
    exact nf_out t u h (by omega)
theorem nf_stay {T : tN} {hd : Nat} {sm : Nat → Bool} {t u : Nat} (h : Nat) (hu : u < t) : ∀ d, (nf T hd sm (t + d)).1 u h = (nf T hd sm t).1 u h
  | 0 => rfl
  | d + 1 => by
    show (if u = t + d then _ else (nf T hd sm (t + d)).1 u h) = _
    rw [if_neg (by omega)]
    exact nf_stay h hu d
theorem nf_w {T : tN} (wt : wT T) {hd : Nat} {sm : Nat → Bool} {h : Nat} (hh : h < 10) : ∀ t, (nf T hd sm t).2 h ≤ 99
  | 0 => by
    show tw T h ≤ 99
    by_cases h1 : h < tn T
    · exact (wt.2.1 h h1).2.2.2.2.2.2.1
    · rw [(wt.2.2.1 h (by omega) hh).2.2.2]; decide
  | t + 1 => by
    have := nf_w wt (hd := hd) (sm := sm) hh t
    show (if kdl T hd sm (nf T hd sm t).1 (nf T hd sm t).2 t h then (nf T hd sm t).2 h - 1 else (nf T hd sm t).2 h) ≤ 99
    split <;> omega
theorem sp1 {T : tN} (wt : wT T) {h : Nat} (hh : h < 10) : 1 ≤ tp T h ∧ tp T h ≤ 9 ∧ 1 ≤ td T h ∧ td T h ≤ 9 := by
  by_cases h1 : h < tn T
  · have := wt.2.1 h h1
    exact ⟨this.2.2.2.2.1, this.2.2.2.2.2.1, this.2.2.1, this.2.2.2.1⟩
  · have := wt.2.2.1 h (by omega) hh
    rw [this.2.1, this.2.2.1]
    decide
theorem tsb {T : tN} (wt : wT T) {h o : Nat} (hh : h < 10) (ho : tn T ≤ o) : (ts T h).testBit o = false := by
  by_cases h1 : h < tn T
  · exact Nat.testBit_lt_two_pow (Nat.lt_of_lt_of_le (wt.2.1 h h1).2.1 (Nat.pow_le_pow_right (by decide) ho))
  · rw [(wt.2.2.1 h (by omega) hh).1, Nat.zero_testBit]
/-- the class's rule of a hill -/
theorem x_rule {s : jm_M} {T : tN} (wt : wT T) (hx : XN s 15 T) {F : Nat → Nat → Bool} {h m : Nat} (hh : h < 10) (hm : m < 60) (hF : ∀ o u, o < 10 → u ≤ m → b64 (s.2 47 o) u = F u o) : s_Ni_ruleHeld_45_15 s (nI h) (nI m) = some (oI (held T F h m)) := by
  have w1 := wt.1
  obtain ⟨q1, q2, q3, q4⟩ := sp1 wt hh
  have g4 : s.1 19 h = nI (tp T h) := (hx.2 h hh).2.2.2.1
  have g3 : s.1 18 h = nI (td T h) := (hx.2 h hh).2.2.1
  have g2 : s.1 17 h = nI (ts T h) := (hx.2 h hh).2.1
  unfold s_Ni_ruleHeld_45_15 held
  rw [if_neg (nI_pos (by omega)), if_pos ((i_lt 10).mpr (by rw [nI_toInt (by omega)]; omega)), e_ldi hh (by decide), g4, e_vi]
  by_cases hp : tp T h ≤ m + 1
  · have e1 : nI m - nI (tp T h) + 1 = nI (m + 1 - tp T h) := by
      rw [fa_eq]
      have a1 : (nI m - nI (tp T h)).toInt = (m : Int) - tp T h := by
        rw [fb_subI (by rw [nI_toInt (by omega), nI_toInt (by omega)]; omega) (by rw [nI_toInt (by omega), nI_toInt (by omega)]; omega), nI_toInt (by omega), nI_toInt (by omega)]
      rw [fb_addI (by rw [a1, show (1 : Int32).toInt = 1 by decide]; omega) (by rw [a1, show (1 : Int32).toInt = 1 by decide]; omega), a1, nI_toInt (by omega), show (1 : Int32).toInt = 1 by decide]
      omega
    rw [e1, if_pos (nI_pos' (by omega))]
    obtain ⟨w, hw, hwb⟩ := mf_bits (a := m + 1 - tp T h) (b := m) (by omega) (by omega) s
    rw [hw, e_bd, show decide (tp T h ≤ m + 1) = true by simp [hp], Bool.true_and]
    have hc : fb_ct (hdB T F h m) (tn T) = fb_ct (hdB T F h m) 10 := (ct_up w1 (fun i h1 h2 => by unfold hdB; rw [tsb wt hh h1]; rfl)).symm
    rw [hc]
    refine lp_inv (fun n c (acc : Int32) => s_Ni_ruleHeld_45_15_L45 s n (nI h) w acc c) 10 (fun i => nI (fb_ct (hdB T F h m) i)) _ (fun n => ?_) (fun n i hi => ?_) 10 5000 0 rfl (by decide)
    · show s_Ni_ruleHeld_45_15_L45 s (n + 1) (nI h) w (nI _) (nI 10) = _
      have hle := fb_ct_le (hdB T F h m) 10
      rw [s_Ni_ruleHeld_45_15_L45, if_pos (by decide), e_ldi hh (by decide), g3]
      by_cases hd : td T h ≤ fb_ct (hdB T F h m) 10
      · rw [if_neg (nI_nlt hd (by omega)), show decide (td T h ≤ fb_ct (hdB T F h m) 10) = true by simp [hd]]; rfl
      · rw [if_pos (nI_lt (by omega) (by omega)), show decide (td T h ≤ fb_ct (hdB T F h m) 10) = false by simp [hd]]; rfl
    · show s_Ni_ruleHeld_45_15_L45 s (n + 1) (nI h) w (nI _) (nI i) = s_Ni_ruleHeld_45_15_L45 s n (nI h) w (nI _) (nI (i + 1))
      have hts := ts_lt wt hh
      rw [s_Ni_ruleHeld_45_15_L45, if_neg (fun z => by rw [i_ge 10, nI_toInt (by omega)] at z; omega), e_ldi hh (by decide), g2, bit1 (by omega) (by omega), fb_ct_succ]
      by_cases hb : (ts T h).testBit i = true
      · rw [if_pos hb, if_neg e10, e_ldl hi (by decide), show nI h * 10 + nI i = nI (10 * h + i) by rw [show (10 : Int32) = nI 10 from rfl, pk_mul, nI_add, Nat.mul_comm], e_ldl (by omega) (by decide), e_vl]
        have key : (lg_cmp ((s.2 47 i &&& (s.2 24 (10 * h + i) ^^^ (-1))) &&& w) w = 0) ↔ hdB T F h m i = true := by
          rw [g_eq, l_all, hdB, hb, Bool.true_and, alB_iff]
          have hmi : ∀ u, u < 64 → b64 (s.2 24 (10 * h + i)) u = tm T h i u := (hx.2 h hh).2.2.2.2.2.2.2 i hi
          constructor
          · intro hall j hj
            have h1 := hall (m + 1 - tp T h + j) (by omega) (by rw [hwb _ (by omega)]; simp; omega)
            rw [l_and, l_not _ (by omega), hmi _ (by omega), hF i _ hi (by omega)] at h1
            exact h1
          · intro hall u hu hwu
            rw [hwb u hu] at hwu
            simp at hwu
            have h1 := hall (u - (m + 1 - tp T h)) (by omega)
            rw [show m + 1 - tp T h + (u - (m + 1 - tp T h)) = u by omega] at h1
            rw [l_and, l_not _ hu, hmi u hu, hF i u hi (by omega)]
            exact h1
        by_cases hk : hdB T F h m i = true
        · rw [if_pos (key.mpr hk), if_pos hk, nI_1, nI_1]
        · rw [if_neg (fun z => hk (key.mp z)), if_neg hk, nI_1]
          simp only [Nat.add_zero]
      · rw [if_neg hb, if_pos rfl, if_neg (by unfold hdB; simp [hb]), nI_1]
        simp only [Nat.add_zero]
  · have e1 : ¬ 0 ≤ nI m - nI (tp T h) + 1 := by
      rw [i_ge 0]
      have a1 : (nI m - nI (tp T h)).toInt = (m : Int) - tp T h := by
        rw [fb_subI (by rw [nI_toInt (by omega), nI_toInt (by omega)]; omega) (by rw [nI_toInt (by omega), nI_toInt (by omega)]; omega), nI_toInt (by omega), nI_toInt (by omega)]
      rw [fb_addI (by rw [a1, show (1 : Int32).toInt = 1 by decide]; omega) (by rw [a1, show (1 : Int32).toInt = 1 by decide]; omega), a1, show (1 : Int32).toInt = 1 by decide]
      omega
    rw [if_neg e1, show decide (tp T h ≤ m + 1) = false by simp [hp]]
    rfl
theorem oI_if {α : Type} (b : Bool) (x y : Option α) : (if oI b = 0 then x else y) = if b then y else x := by
  cases b
  · rw [oI_f, if_pos rfl]; rfl
  · rw [oI_t, if_neg e10]; rfl
theorem x_lit {s : jm_M} {h u : Nat} (hh : h < 10) (hu : u < 60) : s_Ni_isLit s (nI h) (nI u) = some (oI (b64 (s.2 47 h) u)) := by
  unfold s_Ni_isLit
  have e1 : (nI u).toInt = u := nI_toInt (by omega)
  rw [if_neg (nI_pos (by omega)), if_neg (fun z => by rw [i_ge 10, nI_toInt (by omega)] at z; omega), k_isMi, z_in1 0 59 (by omega) (by omega), e_bd, if_neg e10, e_ldl hh (by decide)]
  cases hb : b64 (s.2 47 h) u with
  | false => rw [if_pos ((l_bit (by omega)).mpr hb)]; rfl
  | true => rw [if_neg (fun z => by rw [(l_bit (by omega)).mp z] at hb; cases hb)]; rfl
theorem x_ship {s : jm_M} {hd : Nat} {sm : Nat → Bool} (xs : XS s 15 hd sm) (hhd : hd < 1024) {h u : Nat} (hh : h < 10) (hu : u < 60) : s_Ni_sawShip s (nI h) (nI u) = some (oI (hd.testBit h && sm u)) := by
  unfold s_Ni_sawShip
  rw [xs.1, bit1 (by omega) (by omega)]
  cases hb : hd.testBit h with
  | false => rfl
  | true =>
    rw [if_pos rfl, if_neg e10, Bool.true_and]
    cases hs : sm u with
    | false => rw [if_pos ((l_bit (by omega)).mpr (by rw [xs.2 u hu, hs]))]; rfl
    | true => rw [if_neg (fun z => by rw [l_bit (by omega), xs.2 u hu, hs] at z; cases z)]; rfl
theorem x_fired {s : jm_M} {T : tN} (wt : wT T) (hx : XN s 15 T) {hd : Nat} {sm : Nat → Bool} (xs : XS s 15 hd sm) (hhd : hd < 1024) {F : Nat → Nat → Bool} {t h : Nat} (hh : h < 10) (ht : t < 60) (hF : ∀ o u, o < 10 → u < t → b64 (s.2 47 o) u = F u o) : s_Ni_isFired_45_15 s (nI h) (nI t) = some (oI (frd T hd sm F t h)) := by
  obtain ⟨g1, g2, g3, g4, g5, g6, g7, g8⟩ := hx.2 h hh
  have g1 : s.1 16 h = tkI T h := g1
  have g6 : ∀ u, u < 64 → b64 (s.2 22 h) u = ta T h u := g6
  have g7 : ∀ u, u < 64 → b64 (s.2 23 h) u = tz T h u := g7
  have hz : s.2 23 h = 0 ↔ lzB T h = false := lz_zero wt (hx.2 h hh)
  unfold s_Ni_isFired_45_15 frd
  rw [if_neg (nI_pos (by omega)), if_pos ((i_lt 10).mpr (by rw [nI_toInt (by omega)]; omega)), e_ldl hh (by decide)]
  cases hl : lzB T h with
  | true =>
    obtain ⟨t0, ht0, htz⟩ := (anB_iff _ _).mp hl
    have hw := wt.2.2.2.2.2.1 h t0 htz
    rw [if_neg (fun z => by rw [hz.mp ((g_eq _ _).mp z)] at hl; cases hl), e_ldl hh (by decide), if_pos rfl, show decide (h < tn T) = true by simp [hw.1], show decide (tk T h ≤ 1) = true by simp [hw.2.1], Bool.true_and, Bool.true_and]
    cases hb : tz T h t with
    | false => rw [if_pos ((l_bit (by omega)).mpr (by rw [g7 t (by omega), hb]))]; rfl
    | true => rw [if_neg (fun z => by rw [l_bit (by omega), g7 t (by omega), hb] at z; cases z)]; rfl
  | false =>
    rw [if_pos ((g_eq _ _).mpr (hz.mpr hl)), e_ldi hh (by decide), g1]
    have key : ∀ c : Bool, (c = true → h < tn T ∧ tk T h ≤ 1) → (c = false → ¬ (h < tn T ∧ tk T h ≤ 1)) → s_Ni_isFired_45_15_J68 s (nI h) (nI t) (oI c) = some (oI (decide (h < tn T) && decide (tk T h ≤ 1) && (if false = true then tz T h t else (decide (t ≠ 0) && !ta T h t && (F (t - 1) h || ((hd.testBit h && sm (t - 1)) || held T F h (t - 1))))))) := by
      intro c hc1 hc0
      unfold s_Ni_isFired_45_15_J68
      by_cases ht0 : t = 0
      · subst ht0
        rw [if_pos (show nI 0 = 0 from rfl)]
        simp
        rfl
      · rw [if_neg (nI_ne0 (by omega) (by omega)), oI_if, e_ldl hh (by decide)]
        cases c with
        | false =>
          have := hc0 rfl
          have e1 : (decide (h < tn T) && decide (tk T h ≤ 1)) = false := by
            by_cases a : h < tn T
            · by_cases b : tk T h ≤ 1
              · exact absurd ⟨a, b⟩ this
              · simp [b]
            · simp [a]
          rw [e1]
          rfl
        | true =>
          have h1 := hc1 rfl
          rw [if_pos rfl, show decide (h < tn T) = true by simp [h1.1], show decide (tk T h ≤ 1) = true by simp [h1.2], show decide (t ≠ 0) = true by simp [ht0]]
          simp only [Bool.true_and, Bool.false_eq_true, if_false]
          cases ha : ta T h t with
          | true =>
            rw [if_neg (fun z => by rw [l_bit (by omega), g6 t (by omega), ha] at z; cases z)]
            rfl
          | false =>
            rw [if_pos ((l_bit (by omega)).mpr (by rw [g6 t (by omega), ha])), e_vi, show nI t - 1 = nI (t - 1) by rw [show (1 : Int32) = nI 1 from rfl, pk_sub (by omega)], x_lit hh (by omega), e_bd, oI_if, hF h (t - 1) hh (by omega)]
            simp only [Bool.not_false, Bool.true_and]
            cases hf : F (t - 1) h with
            | true => rfl
            | false =>
              rw [if_neg (by decide), x_ship xs hhd hh (by omega), e_bd, oI_if]
              cases hs : (hd.testBit h && sm (t - 1)) with
              | true => rfl
              | false =>
                rw [if_neg (by decide), x_rule wt hx hh (by omega) (fun o u ho hu => hF o u ho (by omega)), e_bd, oI_if]
                cases held T F h (t - 1) <;> rfl
    by_cases hn : h < tn T
    · have h3 := (wt.2.1 h hn).1
      rw [tkI, if_pos hn]
      by_cases k0 : tk T h = 0
      · rw [if_pos (by rw [k0]; rfl)]
        exact key true (fun _ => ⟨hn, by omega⟩) (fun z => by cases z)
      · rw [if_neg (nI_ne0 (by omega) (by omega)), e_ldi hh (by decide), g1, tkI, if_pos hn]
        by_cases k1 : tk T h = 1
        · rw [if_pos (by rw [k1]; rfl)]
          exact key true (fun _ => ⟨hn, by omega⟩) (fun z => by cases z)
        · rw [if_neg (fun z => k1 ((nI_eq (by omega) (by decide)).mp (z.trans (show (1 : Int32) = nI 1 from rfl))))]
          exact key false (fun z => by cases z) (fun _ => by omega)
    · rw [tkI, if_neg hn, if_neg (by decide), e_ldi hh (by decide), g1, tkI, if_neg hn, if_neg (by decide)]
      exact key false (fun z => by cases z) (fun _ => by omega)
