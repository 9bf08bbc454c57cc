/-! a net, as both hold it -/
abbrev tN : Type := Nat × (Nat → Nat) × (Nat → Nat) × (Nat → Nat) × (Nat → Nat) × (Nat → Nat) × (Nat → Nat → Bool) × (Nat → Nat → Bool) × (Nat → Nat → Nat → Bool)
def tn (T : tN) : Nat := T.1
def tk (T : tN) : Nat → Nat := T.2.1
def ts (T : tN) : Nat → Nat := T.2.2.1
def td (T : tN) : Nat → Nat := T.2.2.2.1
def tp (T : tN) : Nat → Nat := T.2.2.2.2.1
def tw (T : tN) : Nat → Nat := T.2.2.2.2.2.1
def ta (T : tN) : Nat → Nat → Bool := T.2.2.2.2.2.2.1
def tz (T : tN) : Nat → Nat → Bool := T.2.2.2.2.2.2.2.1
def tm (T : tN) : Nat → Nat → Nat → Bool := T.2.2.2.2.2.2.2.2
def b64 (w : Int64) (t : Nat) : Bool := w.toBitVec.getLsbD t
def tkI (T : tN) (h : Nat) : Int32 := if h < tn T then nI (tk T h) else -1
/-- what a net keeps -/
def wH (T : tN) (h : Nat) : Prop := tk T h ≤ 3 ∧ ts T h < 2 ^ tn T ∧ 1 ≤ td T h ∧ td T h ≤ 9 ∧ 1 ≤ tp T h ∧ tp T h ≤ 9 ∧ tw T h ≤ 99 ∧ (ts T h).testBit h = false
def wO (T : tN) (h : Nat) : Prop := ts T h = 0 ∧ td T h = 1 ∧ tp T h = 1 ∧ tw T h = 99
def wT (T : tN) : Prop := tn T ≤ 10 ∧ (∀ h, h < tn T → wH T h) ∧ (∀ h, tn T ≤ h → h < 10 → wO T h) ∧ (∀ a b, a < tn T → b < tn T → (ts T a).testBit b = (ts T b).testBit a) ∧ (∀ a b, a < tn T → b < tn T → tk T a = 2 → tk T b = 2 → a = b) ∧ (∀ h t, tz T h t = true → h < tn T ∧ tk T h ≤ 1 ∧ t < 60) ∧ (∀ h t, ta T h t = true → h < tn T ∧ t < 60) ∧ (∀ a b t, tm T a b t = true → a < tn T ∧ b < tn T ∧ t < 60)
/-- the class's net at the cell nb -/
def XH (s : jm_M) (nb : Nat) (T : tN) (h : Nat) : Prop := s.1 (nb + 1) h = tkI T h ∧ s.1 (nb + 2) h = nI (ts T h) ∧ s.1 (nb + 3) h = nI (td T h) ∧ s.1 (nb + 4) h = nI (tp T h) ∧ s.1 (nb + 5) h = nI (tw T h) ∧ (∀ t, t < 64 → b64 (s.2 (nb + 7) h) t = ta T h t) ∧ (∀ t, t < 64 → b64 (s.2 (nb + 8) h) t = tz T h t) ∧ ∀ b, b < 10 → ∀ t, t < 64 → b64 (s.2 (nb + 9) (10 * h + b)) t = tm T h b t
def XN (s : jm_M) (nb : Nat) (T : tN) : Prop := s.1 nb 0 = nI (tn T) ∧ ∀ h, h < 10 → XH s nb T h
def XS (s : jm_M) (nb hd : Nat) (sm : Nat → Bool) : Prop := s.1 nb 10 = nI hd ∧ ∀ t, t < 60 → b64 (s.2 nb 11) t = sm t
def XL (s : jm_M) (nb : Nat) (lg : Nat → Int32) : Prop := ∀ h, h < 10 → s.1 (nb + 6) h = lg h
/-- the model's net in the place k -/
abbrev tE : Type := (Nat → Nat) × (Nat → Nat) × (Nat → Nat) × (Nat → Nat) × (Nat → Nat)
def ZE (s : jm_M) (k c : Nat) (E : tE) : Prop := s.1 67 k = nI c ∧ c ≤ 43 ∧ ∀ j, j < c → s.1 68 (215 * k + 5 * j) = nI (E.1 j) ∧ s.1 68 (215 * k + 5 * j + 1) = nI (E.2.1 j) ∧ s.1 68 (215 * k + 5 * j + 2) = nI (E.2.2.1 j) ∧ s.1 68 (215 * k + 5 * j + 3) = nI (E.2.2.2.1 j) ∧ s.1 68 (215 * k + 5 * j + 4) = nI (E.2.2.2.2 j)
def wE (c : Nat) (E : tE) : Prop := ∀ j, j < c → E.1 j < 128 ∧ E.2.1 j < 10 ∧ E.2.2.1 j < 10 ∧ E.2.2.2.1 j ≤ E.2.2.2.2 j ∧ E.2.2.2.2 j ≤ 59
/-- what the spans tell -/
def tell (E : tE) (c l h t : Nat) : Prop := ∃ j, j < c ∧ E.1 j = l ∧ E.2.1 j = h ∧ E.2.2.2.1 j ≤ t ∧ t ≤ E.2.2.2.2 j
def tellM (E : tE) (c a b t : Nat) : Prop := ∃ j, j < c ∧ E.1 j = 103 ∧ ((E.2.1 j = a ∧ E.2.2.1 j = b) ∨ (E.2.1 j = b ∧ E.2.2.1 j = a)) ∧ E.2.2.2.1 j ≤ t ∧ t ≤ E.2.2.2.2 j
def sE (T : tN) (c : Nat) (E : tE) : Prop := wE c E ∧ (∀ h t, ta T h t = true ↔ tell E c 115 h t) ∧ (∀ h t, tz T h t = true ↔ tell E c 108 h t) ∧ ∀ a b t, tm T a b t = true ↔ tellM E c a b t
def ZH (s : jm_M) (k : Nat) (T : tN) (h : Nat) : Prop := s.1 62 (10 * k + h) = nI (tk T h) ∧ s.1 63 (10 * k + h) = nI (ts T h) ∧ s.1 64 (10 * k + h) = nI (td T h) ∧ s.1 65 (10 * k + h) = nI (tp T h) ∧ s.1 66 (10 * k + h) = nI (tw T h)
def ZN (s : jm_M) (k : Nat) (T : tN) : Prop := s.1 61 k = nI (tn T) ∧ (∀ h, h < tn T → ZH s k T h) ∧ ∃ c E, ZE s k c E ∧ sE T c E
def ZS (s : jm_M) (k hd : Nat) (sm : Nat → Bool) : Prop := s.1 69 (3 * k) = nI hd ∧ ∃ a b, s.1 69 (3 * k + 1) = nI a ∧ s.1 69 (3 * k + 2) = nI b ∧ a < 60 ∧ b < 60 ∧ (hd ≠ 0 → ∀ t, t < 60 → sm t = decide (a ≤ t ∧ t ≤ b))
def ZL (s : jm_M) (k : Nat) (lg : Nat → Int32) : Prop := ∀ h, h < 10 → s.1 70 (10 * k + h) = lg h
def wL (T : tN) (lg : Nat → Int32) : Prop := (∀ h, h < 10 → -1 ≤ (lg h).toInt ∧ (lg h).toInt ≤ 60) ∧ ∀ h, tn T ≤ h → h < 10 → lg h = -1
/-- one net with its ship and its logs, in both -/
def iN (s : jm_M) (nb k : Nat) (T : tN) (hd : Nat) (sm : Nat → Bool) (lg : Nat → Int32) : Prop := wT T ∧ XN s nb T ∧ ZN s k T ∧ hd < 1024 ∧ XS s nb hd sm ∧ ZS s k hd sm ∧ wL T lg ∧ XL s nb lg ∧ ZL s k lg
theorem ge_iff {x : Int32} {n : Nat} (hn : n < 2147483648) : nI n ≤ x ↔ (n : Int) ≤ x.toInt := by rw [fa_le, nI_toInt hn]
theorem x_isHill {s : jm_M} {n : Nat} (h : s.1 15 0 = nI n) (hn : n ≤ 10) (x : Int32) : s_Ne_isHill_15 s x = some (if 0 ≤ x.toInt ∧ x.toInt < n then 1 else 0) := by
  unfold s_Ne_isHill_15
  rw [h]
  by_cases h1 : x.toInt < 0
  · rw [if_pos ((i_lt 0).mpr h1), if_neg (by omega)]
  · rw [if_neg (fun z => h1 ((i_lt 0).mp z))]
    by_cases h2 : (n : Int) ≤ x.toInt
    · rw [if_pos ((ge_iff (by omega)).mpr h2), if_neg (by omega)]
    · rw [if_neg (fun z => h2 ((ge_iff (by omega)).mp z)), if_neg (fun z => by rw [i_ge 10] at z; omega), if_pos (by omega)]
theorem z_isHill {s : jm_M} {n : Nat} (h : s.1 61 0 = nI n) (hn : n ≤ 10) (x : Int32) : s_Z_isHill s x = some (if 0 ≤ x.toInt ∧ x.toInt < n then 1 else 0) := by
  unfold s_Z_isHill
  rw [e_ldiq (j := 0) 0 rfl (by decide) (by decide), h, z_inL, Int32.toInt_toInt64, Int32.toInt_toInt64, show (0 : Int64).toInt = 0 by decide]
  have hm : (nI n - 1).toInt = (n : Int) - 1 := by
    rw [fb_subI (by rw [nI_toInt (by omega), show (1 : Int32).toInt = 1 by decide]; omega) (by rw [nI_toInt (by omega), show (1 : Int32).toInt = 1 by decide]; omega), nI_toInt (by omega), show (1 : Int32).toInt = 1 by decide]
  rw [hm, e_bd]
  by_cases h1 : 0 ≤ x.toInt ∧ x.toInt < n
  · rw [if_pos h1, if_pos (by omega)]; rfl
  · rw [if_neg h1, if_neg (by omega)]; rfl
theorem m_hill {s : jm_M} {T : tN} (w : wT T) (hx : XN s 15 T) (hz : ZN s 0 T) (a b : Int32) : ∃ r, s_X_hill s a b = some r ∧ s_Z_hill s a b = some r := by
  unfold s_X_hill s_Z_hill
  rw [x_isHill hx.1 w.1, z_isHill hz.1 w.1]
  by_cases h1 : 0 ≤ a.toInt ∧ a.toInt < tn T
  · rw [if_pos h1, e_bd, e_bd, if_neg e10, if_neg e10]
    obtain ⟨h, rfl, hh, hh2⟩ := n_of h1.1
    have w1 := w.1
    have hX : XH s 15 T h := hx.2 h (by omega)
    have hZ : ZH s 0 T h := hz.2.1 h (by omega)
    have g1 : s.1 16 h = nI (tk T h) := hX.1.trans (by rw [tkI, if_pos (by omega)])
    have g2 : s.1 17 h = nI (ts T h) := hX.2.1
    have g3 : s.1 18 h = nI (td T h) := hX.2.2.1
    have g4 : s.1 19 h = nI (tp T h) := hX.2.2.2.1
    have g5 : s.1 20 h = nI (tw T h) := hX.2.2.2.2.1
    have z1 : s.1 62 h = nI (tk T h) := by have := hZ.1; rwa [show 10 * 0 + h = h by omega] at this
    have z2 : s.1 63 h = nI (ts T h) := by have := hZ.2.1; rwa [show 10 * 0 + h = h by omega] at this
    have z3 : s.1 64 h = nI (td T h) := by have := hZ.2.2.1; rwa [show 10 * 0 + h = h by omega] at this
    have z4 : s.1 65 h = nI (tp T h) := by have := hZ.2.2.2.1; rwa [show 10 * 0 + h = h by omega] at this
    have z5 : s.1 66 h = nI (tw T h) := by have := hZ.2.2.2.2; rwa [show 10 * 0 + h = h by omega] at this
    by_cases hb : 0 ≤ b.toInt ∧ b.toInt ≤ 4
    · rw [z_in1 0 4 hb.1 hb.2, e_bd, if_neg e10]
      obtain ⟨q, rfl, hq, hq2⟩ := n_of hb.1
      rcases (show q = 0 ∨ q = 1 ∨ q = 2 ∨ q = 3 ∨ q = 4 by omega) with rfl | rfl | rfl | rfl | rfl
      · refine ⟨nI (tk T h), ?_, ?_⟩
        · rw [if_pos (by decide), e_ldi (by omega) (by decide), g1]
        · rw [if_pos (by decide), e_ldi (by omega) (by decide), z1]
      · refine ⟨nI (ts T h), ?_, ?_⟩
        · rw [if_neg (by decide), if_pos (by decide), e_ldi (by omega) (by decide), g2]
        · rw [if_neg (by decide), if_pos (by decide), e_ldi (by omega) (by decide), z2]
      · refine ⟨nI (td T h), ?_, ?_⟩
        · rw [if_neg (by decide), if_neg (by decide), if_pos (by decide), e_ldi (by omega) (by decide), g3]
        · rw [if_neg (by decide), if_neg (by decide), if_pos (by decide), e_ldi (by omega) (by decide), z3]
      · refine ⟨nI (tp T h), ?_, ?_⟩
        · rw [if_neg (by decide), if_neg (by decide), if_neg (by decide), if_pos (by decide), e_ldi (by omega) (by decide), g4]
        · rw [if_neg (by decide), if_neg (by decide), if_neg (by decide), if_pos (by decide), e_ldi (by omega) (by decide), z4]
      · refine ⟨nI (tw T h), ?_, ?_⟩
        · rw [if_neg (by decide), if_neg (by decide), if_neg (by decide), if_neg (by decide), if_pos (by decide), e_ldi (by omega) (by decide), g5]
        · rw [if_neg (by decide), if_neg (by decide), if_neg (by decide), if_neg (by decide), e_ldi (by omega) (by decide), z5]
    · rw [z_in0 0 4 hb, e_bd, if_pos rfl]
      have nb : ∀ c : Int32, 0 ≤ c.toInt ∧ c.toInt ≤ 4 → ¬ b = c := fun c hc e => hb (e ▸ hc)
      rw [if_neg (nb 0 (by decide)), if_neg (nb 1 (by decide)), if_neg (nb 2 (by decide)), if_neg (nb 3 (by decide)), if_neg (nb 4 (by decide))]
      exact ⟨_, rfl, rfl⟩
  · rw [if_neg h1, e_bd, e_bd, if_pos rfl, if_pos rfl]
    exact ⟨_, rfl, rfl⟩
theorem m_log {s : jm_M} {T : tN} {lg : Nat → Int32} (w : wT T) (hx : s.1 15 0 = nI (tn T)) (hz : s.1 61 0 = nI (tn T)) (wl : wL T lg) (xl : XL s 15 lg) (zl : ZL s 0 lg) (a b : Int32) : ∃ r s1 s2 lg', s_X_log s a b = some (r, s1) ∧ s_Z_log s1 a b = some (r, s2) ∧ wL T lg' ∧ XL s2 15 lg' ∧ ZL s2 0 lg' := by
  unfold s_X_log
  rw [x_isHill hx w.1]
  have w1 := w.1
  by_cases h1 : 0 ≤ a.toInt ∧ a.toInt < tn T
  · rw [if_pos h1, e_bd, if_neg e10]
    by_cases h2 : -1 ≤ b.toInt ∧ b.toInt ≤ 60
    · rw [if_neg (fun z => by rw [i_lt (-1)] at z; omega), if_pos ((i_le 60).mpr h2.2)]
      obtain ⟨h, rfl, hh, hh2⟩ := n_of h1.1
      rw [e_ldi (by omega) (by decide), e_sti (by omega) (by decide)]
      refine ⟨_, _, jm_si (jm_si s 21 h b) 70 h b, fun q => if q = h then b else lg q, rfl, ?_, ?_, ?_, ?_⟩
      · unfold s_Z_log
        rw [z_isHill (by rw [e_sio (by omega)]; exact hz) w.1, if_pos h1, e_bd, if_neg e10, z_in1 (-1) 60 h2.1 h2.2, e_bd, if_neg e10, e_ldi (by omega) (by decide), e_sti (by omega) (by decide), e_sio (by omega)]
        have e1 : s.1 21 h = lg h := xl h (by omega)
        have e2 : s.1 70 h = lg h := by have := zl h (by omega); rwa [show 10 * 0 + h = h by omega] at this
        rw [e1, e2]
      · refine ⟨fun q hq => ?_, fun q hq hq2 => ?_⟩
        · by_cases hqh : q = h
          · simp only [if_pos hqh]; exact h2
          · simp only [if_neg hqh]; exact wl.1 q hq
        · simp only [if_neg (show ¬ q = h by omega)]
          exact wl.2 q hq hq2
      · intro q hq
        show (jm_si (jm_si s 21 h b) 70 h b).1 21 q = _
        by_cases hqh : q = h
        · subst hqh
          simp only [if_true]
          rw [e_sio (by omega), e_si]
        · simp only [if_neg hqh]
          rw [e_sio (by omega), e_sio (by omega)]
          exact xl q hq
      · intro q hq
        rw [show 10 * 0 + q = q by omega]
        by_cases hqh : q = h
        · subst hqh
          simp only [if_true]
          rw [e_si]
        · simp only [if_neg hqh]
          rw [e_sio (by omega), e_sio (by omega)]
          have := zl q hq
          rwa [show 10 * 0 + q = q by omega] at this
    · have hX : (if b < -1 then some (-100, s) else if b ≤ 60 then jm_ldi s 21 10 a fun v2 => jm_sti s 21 10 a b fun s3 => some (v2, s3) else some (-100, s)) = some (-100, s) := by
        by_cases h3 : b.toInt < -1
        · rw [if_pos ((i_lt (-1)).mpr h3)]
        · rw [if_neg (fun z => h3 ((i_lt (-1)).mp z)), if_neg (fun z => by rw [i_le 60] at z; omega)]
      rw [hX]
      refine ⟨_, s, s, lg, rfl, ?_, wl, xl, zl⟩
      unfold s_Z_log
      rw [z_isHill hz w.1, if_pos h1, e_bd, if_neg e10, z_in0 (-1) 60 h2]
      rfl
  · rw [if_neg h1, e_bd, if_pos rfl]
    refine ⟨_, s, s, lg, rfl, ?_, wl, xl, zl⟩
    unfold s_Z_log
    rw [z_isHill hz w.1, if_neg h1]
    rfl
