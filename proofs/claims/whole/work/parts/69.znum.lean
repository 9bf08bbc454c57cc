/-! the model reads numbers -/
def tZ (s : jm_M) (len : Nat) (f : Nat → Nat) : Prop := len ≤ 300 ∧ s.1 59 0 = nI len ∧ ∀ i, i < len → f i < 256 ∧ s.1 60 i = nI (f i)
theorem tZ_same {s s' : jm_M} {len : Nat} {f : Nat → Nat} (h : tZ s len f) (e0 : s'.1 59 0 = s.1 59 0) (e : ∀ i, s'.1 60 i = s.1 60 i) : tZ s' len f := ⟨h.1, e0.trans h.2.1, fun i hi => ⟨(h.2.2 i hi).1, (e i).trans (h.2.2 i hi).2⟩⟩
theorem zin_n (s : jm_M) {x : Nat} (hx : x < 2147483648) (l h : Nat) {lo hi : Int64} (hl : lo.toInt = (l : Int) := by decide) (hh : hi.toInt = (h : Int) := by decide) : s_Z_in s (nI x).toInt64 lo hi = some (oI (decide (l ≤ x ∧ x ≤ h))) := by
  rw [z_inL, Int32.toInt_toInt64, nI_toInt hx, hl, hh]
  by_cases g : l ≤ x ∧ x ≤ h
  · rw [if_pos (by omega), dT g]; rfl
  · rw [if_neg (by omega), dF g]; rfl
theorem zn_step {k2 : Int32 → Int32 → jm_M → Option (Int32 × jm_M)} {n : Nat} {x1 x2 : Int32} {d y p len : Nat} {f : Nat → Nat} {s : jm_M} (ht : tZ s len f) (hp : s.1 59 15 = nI p) (hpl : p ≤ len) (hd : d < 3) : s_Z_numbers_L12 k2 (n + 1) x1 x2 (nI d) (nI y) s = if dgt f len p then s_Z_numbers_L12 k2 n x1 x2 (nI (d + 1)) (nI (10 * y + f p - 48)) (jm_si s 59 15 (nI (p + 1))) else s_Z_numbers_J86 k2 x1 x2 (nI d) (nI y) s := by
  obtain ⟨hl, h0, hf⟩ := ht
  rw [s_Z_numbers_L12, h0, hp]
  by_cases h : p < len
  · obtain ⟨b1, b2⟩ := hf p h
    rw [if_neg (nI_ge h (by omega)), e_ldi (by omega) (by decide), b2, zin_n s (by omega) 48 57, e_bd]
    by_cases hg : dgt f len p = true
    · have g := dgt_iff.mp hg
      rw [if_pos hg, dT ⟨g.2.1, g.2.2⟩, oI_t, if_neg e10, if_neg (fun z => by rw [i_ge 3, nI_toInt (by omega)] at z; omega), e_ldi (by omega) (by decide), b2, ix_m 10 _ _ 10 rfl, show (48 : Int32) = nI 48 from rfl, pk_sub (by omega), e_vi, nI_1, e_ev, nI_1]
    · rw [if_neg hg, dF (fun z => hg (dgt_iff.mpr ⟨h, z.1, z.2⟩)), oI_f, if_pos rfl]
  · rw [if_pos (nI_le (by omega) (by omega)), if_neg (fun z => h (dgt_iff.mp z).1)]
theorem zn_end {k2 : Int32 → Int32 → jm_M → Option (Int32 × jm_M)} {n : Nat} {x1 x2 : Int32} {y p len : Nat} {f : Nat → Nat} {s : jm_M} (ht : tZ s len f) (hp : s.1 59 15 = nI p) (hpl : p ≤ len) : s_Z_numbers_L12 k2 (n + 1) x1 x2 (nI 3) (nI y) s = s_Z_numbers_J86 k2 x1 x2 (nI 3) (nI y) s := by
  obtain ⟨hl, h0, hf⟩ := ht
  rw [s_Z_numbers_L12, h0, hp]
  by_cases h : p < len
  · obtain ⟨b1, b2⟩ := hf p h
    rw [if_neg (nI_ge h (by omega)), e_ldi (by omega) (by decide), b2, zin_n s (by omega) 48 57, e_bd]
    rw [if_pos (show (3 : Int32) ≤ nI 3 by decide), ite_self]
  · rw [if_pos (nI_le (by omega) (by omega))]
theorem zj_no {k2 : Int32 → Int32 → jm_M → Option (Int32 × jm_M)} {x1 x2 x4 : Int32} {d : Nat} {s : jm_M} (hd : d = 0 ∨ d = 3) : s_Z_numbers_J86 k2 x1 x2 (nI d) x4 s = some (0, s) := by
  unfold s_Z_numbers_J86
  rw [zin_n s (by omega) 1 2, e_bd, dF (by omega), oI_f, if_pos rfl]
def mkN (m i : Nat) : Nat := if m ≤ i + 1 then 59 else 44
theorem zj_yes {k2 : Int32 → Int32 → jm_M → Option (Int32 × jm_M)} {m i d y q len : Nat} {f : Nat → Nat} {s : jm_M} (ht : tZ s len f) (hq : s.1 59 15 = nI q) (hql : q ≤ len) (hm : m ≤ 4) (him : i < m) (hd : d = 1 ∨ d = 2) : s_Z_numbers_J86 k2 (nI m) (nI i) (nI d) (nI y) s = if q < len ∧ f q = mkN m i then k2 (nI m) (nI (i + 1)) (jm_si (jm_si s 73 i (nI y)) 59 15 (nI (q + 1))) else some (0, s) := by
  obtain ⟨hl, h0, hf⟩ := ht
  unfold s_Z_numbers_J86
  rw [zin_n s (by omega) 1 2, e_bd, dT (by omega), oI_t, if_neg e10, hq, h0]
  by_cases h : q = len
  · rw [if_pos (by rw [h]), if_neg (by omega)]
  · rw [if_neg (fun z => h ((nI_eq (by omega) (by omega)).mp z)), e_ldi (by omega) (by decide), (hf q (by omega)).2, show (1 : Int32) = nI 1 from rfl, pk_sub (by omega)]
    have hb := (hf q (by omega)).1
    have J : ∀ b : Nat, b < 128 → s_Z_numbers_J132 k2 (nI m) (nI i) (nI y) (nI b) (nI (f q)) s = if q < len ∧ f q = b then k2 (nI m) (nI (i + 1)) (jm_si (jm_si s 73 i (nI y)) 59 15 (nI (q + 1))) else some (0, s) := fun b hb2 => by
      unfold s_Z_numbers_J132
      by_cases e : f q = b
      · rw [if_pos (by rw [e]), if_pos ⟨by omega, e⟩, e_sti (by omega) (by decide), e_sio (by omega), hq, nI_1, nI_1, e_ev]
      · rw [if_neg (fun z => e ((nI_eq (by omega) (by omega)).mp z)), if_neg (fun z => e z.2)]
    unfold mkN
    by_cases hm1 : m ≤ i + 1
    · rw [if_pos (nI_le (by omega) (by omega)), if_pos hm1]
      exact J 59 (by decide)
    · rw [if_neg (nI_ge (by omega) (by omega)), if_neg hm1]
      exact J 44 (by decide)
def nf15 (s s1 : jm_M) : Prop := ∀ c k, ¬ (c = 59 ∧ k = 15) → s1.1 c k = s.1 c k
theorem nf15_si {s : jm_M} {v : Int32} : nf15 s (jm_si s 59 15 v) := fun c k h => by rw [e_sio h]
theorem nf15_tr {s s1 s2 : jm_M} (h1 : nf15 s s1) (h2 : nf15 s1 s2) : nf15 s s2 := fun c k h => (h2 c k h).trans (h1 c k h)
theorem tZ_nf {s s' : jm_M} {len : Nat} {f : Nat → Nat} (h : tZ s len f) (e : nf15 s s') : tZ s' len f := tZ_same h (e 59 0 (by decide)) (fun i => e 60 i (by omega))
/-- one number of the model -/
theorem zn_one {k2 : Int32 → Int32 → jm_M → Option (Int32 × jm_M)} {n m i p len : Nat} {f : Nat → Nat} {s : jm_M} (hn : 4 ≤ n) (ht : tZ s len f) (hp : s.1 59 15 = nI p) (hpl : p ≤ len) (hm : m ≤ 4) (him : i < m) : (∃ s1, nf15 s s1 ∧ s_Z_numbers_L12 k2 n (nI m) (nI i) 0 0 s = some (0, s1) ∧ ∀ x q, rdN f len p = some (x, q) → ¬ (q < len ∧ f q = mkN m i)) ∨ (∃ x q s1, nf15 s s1 ∧ rdN f len p = some (x, q) ∧ q < len ∧ f q = mkN m i ∧ s_Z_numbers_L12 k2 n (nI m) (nI i) 0 0 s = k2 (nI m) (nI (i + 1)) (jm_si (jm_si s1 73 i (nI x)) 59 15 (nI (q + 1)))) := by
  obtain ⟨n, rfl⟩ : ∃ q, n = q + 4 := ⟨n - 4, by omega⟩
  rw [show s_Z_numbers_L12 k2 (n + 4) (nI m) (nI i) 0 0 s = s_Z_numbers_L12 k2 (n + 3 + 1) (nI m) (nI i) (nI 0) (nI 0) s from rfl, zn_step ht hp hpl (by decide)]
  by_cases d0 : dgt f len p = true
  · have g0 := dgt_iff.mp d0
    have t1 : tZ (jm_si s 59 15 (nI (p + 1))) len f := tZ_nf ht nf15_si
    have p1 : (jm_si s 59 15 (nI (p + 1))).1 59 15 = nI (p + 1) := e_si
    rw [if_pos d0, zn_step t1 p1 (by omega) (by decide)]
    by_cases d1 : dgt f len (p + 1) = true
    · have g1 := dgt_iff.mp d1
      have e2 : nf15 s (jm_si (jm_si s 59 15 (nI (p + 1))) 59 15 (nI (p + 1 + 1))) := nf15_tr nf15_si nf15_si
      have t2 := tZ_nf ht e2
      have p2 : (jm_si (jm_si s 59 15 (nI (p + 1))) 59 15 (nI (p + 1 + 1))).1 59 15 = nI (p + 1 + 1) := e_si
      have hr : rdN f len p = some (10 * (f p - 48) + (f (p + 1) - 48), p + 2) := by unfold rdN; rw [if_pos d0, if_pos d1]
      rw [if_pos d1, zn_step t2 p2 (by omega) (by decide)]
      by_cases d2 : dgt f len (p + 1 + 1) = true
      · have g2 := dgt_iff.mp d2
        have e3 := nf15_tr e2 (nf15_si (v := nI (p + 1 + 1 + 1)))
        rw [if_pos d2, zn_end (tZ_nf ht e3) e_si (by omega), zj_no (Or.inr rfl)]
        refine Or.inl ⟨_, e3, rfl, fun x q hx hq => ?_⟩
        rw [hr] at hx
        cases hx
        have hq2 : f (p + 1 + 1) = mkN m i := hq.2
        unfold mkN at hq2
        split at hq2 <;> omega
      · rw [if_neg d2, zj_yes t2 p2 (by omega) hm him (Or.inr rfl)]
        have ex : 10 * (10 * 0 + f p - 48) + f (p + 1) - 48 = 10 * (f p - 48) + (f (p + 1) - 48) := by omega
        rw [ex]
        by_cases hq : p + 1 + 1 < len ∧ f (p + 1 + 1) = mkN m i
        · rw [if_pos hq]
          exact Or.inr ⟨_, _, _, e2, hr, hq.1, hq.2, rfl⟩
        · rw [if_neg hq]
          refine Or.inl ⟨_, e2, rfl, fun x q hx => ?_⟩
          rw [hr] at hx
          cases hx
          exact hq
    · have hr : rdN f len p = some (f p - 48, p + 1) := by unfold rdN; rw [if_pos d0, if_neg d1]
      rw [if_neg d1, zj_yes t1 p1 (by omega) hm him (Or.inl rfl), show 10 * 0 + f p - 48 = f p - 48 by omega]
      by_cases hq : p + 1 < len ∧ f (p + 1) = mkN m i
      · rw [if_pos hq]
        exact Or.inr ⟨_, _, _, nf15_si, hr, hq.1, hq.2, rfl⟩
      · rw [if_neg hq]
        refine Or.inl ⟨_, nf15_si, rfl, fun x q hx => ?_⟩
        rw [hr] at hx
        cases hx
        exact hq
  · have hr : rdN f len p = none := by unfold rdN; rw [if_neg d0]
    rw [if_neg d0, zj_no (Or.inl rfl)]
    exact Or.inl ⟨s, fun _ _ _ => rfl, rfl, fun x q hx => by rw [hr] at hx; cases hx⟩
def nf73 (s s1 : jm_M) : Prop := ∀ c k, ¬ (c = 59 ∧ k = 15) → c ≠ 73 → s1.1 c k = s.1 c k
def zrR (o : Option (Nat × (Nat → Nat) × Nat)) (m : Nat) (r : Int32) (s' : jm_M) : Prop := match o with
  | none => r = 0
  | some (c, w, q) => (c ≠ m → r = 0) ∧ (c = m → r = 1 ∧ s'.1 59 15 = nI q ∧ ∀ t, t < m → s'.1 73 t = nI (w t))
theorem zn_all {len : Nat} {f : Nat → Nat} : ∀ (j n i p m : Nat) (v : Nat → Nat) (s : jm_M), i + j + 1 = m → m ≤ 4 → j + 1 < n → tZ s len f → s.1 59 15 = nI p → p ≤ len → (∀ t, t < i → s.1 73 t = nI (v t) ∧ v t < 100) → ∃ r s', s_Z_numbers_L2 n (nI m) (nI i) s = some (r, s') ∧ nf73 s s' ∧ zrR (rdI f len (4 - i) i p v) m r s' := by
  intro j
  induction j with
  | zero =>
    intro n i p m v s hj hm hn ht hp hpl hv
    obtain ⟨n, rfl⟩ : ∃ q, n = q + 1 := ⟨n - 1, by omega⟩
    obtain ⟨k, hk⟩ : ∃ k, 4 - i = k + 1 := ⟨3 - i, by omega⟩
    rw [s_Z_numbers_L2, if_neg (nI_ge (by omega) (by omega)), hk, rdI]
    have hmk : mkN m i = 59 := by unfold mkN; rw [if_pos (by omega)]
    rcases zn_one (k2 := s_Z_numbers_L2 n) (n := 5000) (by decide) ht hp hpl hm (show i < m by omega) with ⟨s1, a1, a2, a3⟩ | ⟨x, q, s1, a1, a2, a3, a4, a5⟩
    · refine ⟨0, s1, a2, fun c k h _ => a1 c k h, ?_⟩
      cases hr : rdN f len p with
      | none => rfl
      | some z =>
        obtain ⟨x, q⟩ := z
        have h59 := a3 x q hr
        rw [hmk] at h59
        have hb := rdN_bd hr
        simp only
        rw [if_neg h59]
        by_cases h44 : q < len ∧ f q = 44
        · rw [if_pos h44]
          cases hz : rdI f len k (i + 1) (q + 1) (ptv v i x) with
          | none => rfl
          | some z =>
            obtain ⟨c, w, u⟩ := z
            have hb2 := rdI_bd k (i + 1) (q + 1) (ptv v i x) c w u (fun t ht => by
              unfold ptv
              by_cases e : t = i
              · rw [if_pos e]; exact hb.1
              · rw [if_neg e]; exact (hv t (by omega)).2) hz
            exact ⟨fun _ => rfl, fun z => by omega⟩
        · rw [if_neg h44]
          exact rfl
    · obtain ⟨n, rfl⟩ : ∃ q, n = q + 1 := ⟨n - 1, by omega⟩
      rw [a5, s_Z_numbers_L2, if_pos (nI_le (by omega) (by omega)), a2]
      rw [hmk] at a4
      refine ⟨1, _, rfl, fun c k h h2 => ?_, ?_⟩
      · rw [e_sio h, e_sio (by omega)]; exact a1 c k h
      · simp only
        rw [if_pos ⟨a3, a4⟩]
        refine ⟨fun z => absurd (show i + 1 = m by omega) z, fun _ => ⟨rfl, e_si, fun t ht2 => ?_⟩⟩
        unfold ptv
        rw [e_sio (by omega)]
        by_cases e : t = i
        · rw [e, e_si, if_pos rfl]
        · rw [e_sio (by omega), if_neg e, a1 73 t (by omega)]; exact (hv t (by omega)).1
  | succ j ih =>
    intro n i p m v s hj hm hn ht hp hpl hv
    obtain ⟨n, rfl⟩ : ∃ q, n = q + 1 := ⟨n - 1, by omega⟩
    obtain ⟨k, hk⟩ : ∃ k, 4 - i = k + 1 := ⟨3 - i, by omega⟩
    rw [s_Z_numbers_L2, if_neg (nI_ge (by omega) (by omega)), hk, rdI]
    have hmk : mkN m i = 44 := by unfold mkN; rw [if_neg (by omega)]
    rcases zn_one (k2 := s_Z_numbers_L2 n) (n := 5000) (by decide) ht hp hpl hm (show i < m by omega) with ⟨s1, a1, a2, a3⟩ | ⟨x, q, s1, a1, a2, a3, a4, a5⟩
    · refine ⟨0, s1, a2, fun c k h _ => a1 c k h, ?_⟩
      cases hr : rdN f len p with
      | none => rfl
      | some z =>
        obtain ⟨x, q⟩ := z
        have h44 := a3 x q hr
        rw [hmk] at h44
        simp only
        by_cases h59 : q < len ∧ f q = 59
        · rw [if_pos h59]
          exact ⟨fun _ => rfl, fun z => by omega⟩
        · rw [if_neg h59, if_neg h44]
          exact rfl
    · rw [hmk] at a4
      have hb := rdN_bd a2
      rw [a5, a2]
      simp only
      rw [if_neg (by omega), if_pos ⟨a3, a4⟩]
      obtain ⟨s2, hs2⟩ : ∃ s2, s2 = jm_si (jm_si s1 73 i (nI x)) 59 15 (nI (q + 1)) := ⟨_, rfl⟩
      rw [← hs2]
      have n2 : nf73 s s2 := fun c k h h2 => by rw [hs2, e_sio h, e_sio (by omega)]; exact a1 c k h
      obtain ⟨r, s', b1, b2, b3⟩ := ih n (i + 1) (q + 1) m (ptv v i x) s2 (by omega) hm (by omega) (tZ_same ht (n2 59 0 (by decide) (by decide)) (fun t => n2 60 t (by omega) (by decide))) (by rw [hs2, e_si]) (by omega) (fun t ht2 => by
        unfold ptv
        rw [hs2, e_sio (by omega)]
        by_cases e : t = i
        · rw [e, e_si, if_pos rfl]; exact ⟨rfl, hb.1⟩
        · rw [e_sio (by omega), if_neg e, a1 73 t (by omega)]; exact hv t (by omega))
      refine ⟨r, s', b1, fun c k h h2 => (b2 c k h h2).trans (n2 c k h h2), ?_⟩
      rw [show 4 - (i + 1) = k by omega] at b3
      exact b3
theorem z_numbers {s : jm_M} {len p m : Nat} {f : Nat → Nat} (ht : tZ s len f) (hp : s.1 59 15 = nI p) (hpl : p ≤ len) (h1 : 1 ≤ m) (hm : m ≤ 4) {M : Int32} (hM : M = nI m) : (∃ s', s_Z_numbers s M = some (0, s') ∧ nf73 s s' ∧ ∀ v q, rdI f len 4 0 p (fun _ => 0) ≠ some (m, v, q)) ∨ (∃ v q s', rdI f len 4 0 p (fun _ => 0) = some (m, v, q) ∧ s_Z_numbers s M = some (1, s') ∧ nf73 s s' ∧ s'.1 59 15 = nI q ∧ ∀ t, t < m → s'.1 73 t = nI (v t) ∧ v t < 100) := by
  subst hM
  unfold s_Z_numbers
  obtain ⟨r, s', a1, a2, a3⟩ := zn_all (m - 1) 5000 0 p m (fun _ => 0) s (by omega) hm (by omega) ht hp hpl (fun t ht => by omega)
  rw [show s_Z_numbers_L2 5000 (nI m) 0 s = some (r, s') from a1]
  rw [show 4 - 0 = 4 from rfl] at a3
  cases hr : rdI f len 4 0 p (fun _ => 0) with
  | none =>
    rw [hr] at a3
    refine Or.inl ⟨s', by rw [show r = 0 from a3], a2, fun v q z => by cases z⟩
  | some z =>
    obtain ⟨c, w, q⟩ := z
    rw [hr] at a3
    have hb := rdI_bd 4 0 p (fun _ => 0) c w q (fun j hj => by omega) hr
    by_cases hc : c = m
    · obtain ⟨b1, b2, b3⟩ := a3.2 hc
      refine Or.inr ⟨w, q, s', by rw [hc], by rw [b1], a2, b2, fun t ht2 => ⟨b3 t ht2, hb.2.2.2.2.1 t (by omega)⟩⟩
    · refine Or.inl ⟨s', by rw [a3.1 hc], a2, fun v u z => ?_⟩
      cases z
      exact hc rfl
