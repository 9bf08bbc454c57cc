/-! what holds between two calls -/
def jm_sep (W R : List Nat × List (Nat × Nat)) : Bool := R.1.all (fun c => !W.1.contains c && W.2.all (fun q => q.1 != c)) && R.2.all (fun q => !W.1.contains q.1 && !W.2.contains q)
def jm_sm (R : List Nat × List (Nat × Nat)) (s s' : jm_M) : Prop := ∀ c k, (R.1.contains c = true ∨ R.2.contains (c, k) = true) → s'.1 c k = s.1 c k ∧ s'.2 c k = s.2 c k
theorem sm_of_fr {W R : List Nat × List (Nat × Nat)} {s s' : jm_M} (h : jm_fr W s s') (hs : jm_sep W R = true) : jm_sm R s s' := by
  unfold jm_sep at hs
  rw [Bool.and_eq_true, List.all_eq_true, List.all_eq_true] at hs
  intro c k hc
  rcases hc with hc | hc
  · have h1 := hs.1 c (List.contains_iff_mem.mp hc)
    rw [Bool.and_eq_true, List.all_eq_true] at h1
    refine h c k (by simpa using h1.1) ?_
    cases h2 : W.2.contains (c, k) with
    | false => rfl
    | true =>
      have := h1.2 (c, k) (List.contains_iff_mem.mp h2)
      simp at this
  · have h1 := hs.2 (c, k) (List.contains_iff_mem.mp hc)
    rw [Bool.and_eq_true] at h1
    exact h c k (by simpa using h1.1) (by simpa using h1.2)
theorem sm_tr {R : List Nat × List (Nat × Nat)} {s s1 s2 : jm_M} (h1 : jm_sm R s s1) (h2 : jm_sm R s1 s2) : jm_sm R s s2 := fun c k hc => ⟨(h2 c k hc).1.trans (h1 c k hc).1, (h2 c k hc).2.trans (h1 c k hc).2⟩
theorem sm_rf {R : List Nat × List (Nat × Nat)} {s : jm_M} : jm_sm R s s := fun _ _ _ => ⟨rfl, rfl⟩
theorem sm_2 {WX WZ : List Nat × List (Nat × Nat)} {s s1 s2 : jm_M} (fx : jm_fr WX s s1) (fz : jm_fr WZ s1 s2) (R : List Nat × List (Nat × Nat)) (h1 : jm_sep WX R = true) (h2 : jm_sep WZ R = true) : jm_sm R s s2 := sm_tr (sm_of_fr fx h1) (sm_of_fr fz h2)
theorem sm_sub {R R' : List Nat × List (Nat × Nat)} {s s' : jm_M} (h : jm_sm R s s') (hs : (R'.1.all (fun c => R.1.contains c) && R'.2.all (fun q => R.1.contains q.1 || R.2.contains q)) = true) : jm_sm R' s s' := by
  rw [Bool.and_eq_true, List.all_eq_true, List.all_eq_true] at hs
  intro c k hc
  rcases hc with hc | hc
  · exact h c k (Or.inl (hs.1 c (List.contains_iff_mem.mp hc)))
  · have := hs.2 (c, k) (List.contains_iff_mem.mp hc)
    rw [Bool.or_eq_true] at this
    exact h c k this
/-! the text -/
def rT : List Nat × List (Nat × Nat) := ([2, 60], [(1, 1), (59, 0)])
theorem iT_sm {s s' : jm_M} {len : Nat} {f : Nat → Nat} (e : jm_sm rT s s') (h : iT s len f) : iT s' len f := by
  obtain ⟨h1, h2, h3, h4⟩ := h
  refine ⟨h1, (e 1 1 (by decide)).1.trans h2, (e 59 0 (by decide)).1.trans h3, fun i hi => ⟨(h4 i hi).1, (e 2 i (Or.inl (by decide))).1.trans (h4 i hi).2.1, (e 60 i (Or.inl (by decide))).1.trans (h4 i hi).2.2⟩⟩
theorem iT_x {s : jm_M} {len : Nat} {f : Nat → Nat} (h : iT s len f) : tX s len f := ⟨h.1, fun i hi => ⟨(h.2.2.2 i hi).1, (h.2.2.2 i hi).2.1⟩⟩
theorem iT_z {s : jm_M} {len : Nat} {f : Nat → Nat} (h : iT s len f) : tZ s len f := ⟨h.1, h.2.2.1, fun i hi => ⟨(h.2.2.2 i hi).1, (h.2.2.2 i hi).2.2⟩⟩
/-! one net -/
def XW (s : jm_M) (nb : Nat) (T : tN) (hd : Nat) (sm : Nat → Bool) (lg : Nat → Int32) : Prop := XN s nb T ∧ XS s nb hd sm ∧ XL s nb lg
def ZW (s : jm_M) (k : Nat) (T : tN) (hd : Nat) (sm : Nat → Bool) (lg : Nat → Int32) : Prop := ZN s k T ∧ ZS s k hd sm ∧ ZL s k lg
def NW (T : tN) (hd : Nat) (lg : Nat → Int32) : Prop := wT T ∧ hd < 1024 ∧ wL T lg
def NQ (s : jm_M) (nb k : Nat) : Prop := ∃ T hd sm lg, NW T hd lg ∧ XW s nb T hd sm lg ∧ ZW s k T hd sm lg
theorem XW_same {s s' : jm_M} {nb : Nat} {T : tN} {hd : Nat} {sm : Nat → Bool} {lg : Nat → Int32} (e : ∀ c q, ((nb + 1 ≤ c ∧ c ≤ nb + 9) ∨ (c = nb ∧ (q = 0 ∨ q = 10 ∨ q = 11))) → s'.1 c q = s.1 c q ∧ s'.2 c q = s.2 c q) (h : XW s nb T hd sm lg) : XW s' nb T hd sm lg := by
  obtain ⟨h1, h2, h3⟩ := h
  refine ⟨XN_same (fun c c1 c2 => ⟨fun hc => (e c 0 (Or.inr ⟨hc, Or.inl rfl⟩)).1, fun hc => ⟨funext fun q => (e c q (Or.inl (by omega))).1, funext fun q => (e c q (Or.inl (by omega))).2⟩⟩) h1, XS_same (e nb 10 (by omega)).1 (e nb 11 (by omega)).2 h2, fun q hq => ?_⟩
  rw [(e (nb + 6) q (by omega)).1]
  exact h3 q hq
def inP (k c q : Nat) : Prop := ((c = 61 ∨ c = 67) ∧ q = k) ∨ (62 ≤ c ∧ c ≤ 66 ∧ 10 * k ≤ q ∧ q < 10 * k + 10) ∨ (c = 68 ∧ 215 * k ≤ q ∧ q < 215 * k + 215) ∨ (c = 69 ∧ 3 * k ≤ q ∧ q < 3 * k + 3) ∨ (c = 70 ∧ 10 * k ≤ q ∧ q < 10 * k + 10)
theorem ZN_pl {s s' : jm_M} {k : Nat} {T : tN} (wt : wT T) (e : ∀ c q, c ≤ 68 → inP k c q → s'.1 c q = s.1 c q) (h : ZN s k T) : ZN s' k T := by
  obtain ⟨h1, h2, c, E, h3, h4⟩ := h
  have w1 := wt.1
  refine ⟨(e 61 k (by decide) (by unfold inP; omega)).trans h1, fun h hh => ?_, c, E, ⟨(e 67 k (by decide) (by unfold inP; omega)).trans h3.1, h3.2.1, fun j hj => ?_⟩, h4⟩
  · have := h2 h hh
    unfold ZH at this ⊢
    rw [e 62 _ (by decide) (by unfold inP; omega), e 63 _ (by decide) (by unfold inP; omega), e 64 _ (by decide) (by unfold inP; omega), e 65 _ (by decide) (by unfold inP; omega), e 66 _ (by decide) (by unfold inP; omega)]
    exact this
  · have := h3.2.2 j hj
    have hc := h3.2.1
    rw [e 68 (215 * k + 5 * j) (by decide) (by unfold inP; omega), e 68 (215 * k + 5 * j + 1) (by decide) (by unfold inP; omega), e 68 (215 * k + 5 * j + 2) (by decide) (by unfold inP; omega), e 68 (215 * k + 5 * j + 3) (by decide) (by unfold inP; omega), e 68 (215 * k + 5 * j + 4) (by decide) (by unfold inP; omega)]
    exact this
theorem ZW_same {s s' : jm_M} {k : Nat} {T : tN} {hd : Nat} {sm : Nat → Bool} {lg : Nat → Int32} (wt : wT T) (e : ∀ c q, inP k c q → s'.1 c q = s.1 c q) (h : ZW s k T hd sm lg) : ZW s' k T hd sm lg := by
  obtain ⟨h1, ⟨h2, a, b, h3, h4, h5⟩, h6⟩ := h
  refine ⟨ZN_pl wt (fun c q _ hc => e c q hc) h1, ⟨(e 69 _ (by unfold inP; omega)).trans h2, a, b, (e 69 _ (by unfold inP; omega)).trans h3, (e 69 _ (by unfold inP; omega)).trans h4, h5⟩, fun q hq => (e 70 _ (by unfold inP; omega)).trans (h6 q hq)⟩
def rX (nb : Nat) : List Nat × List (Nat × Nat) := ([nb + 1, nb + 2, nb + 3, nb + 4, nb + 5, nb + 6, nb + 7, nb + 8, nb + 9], [(nb, 0), (nb, 10), (nb, 11)])
def rZ : List Nat × List (Nat × Nat) := ([61, 62, 63, 64, 65, 66, 67, 68, 69, 70], [])
theorem XW_sm {s s' : jm_M} {nb : Nat} {T : tN} {hd : Nat} {sm : Nat → Bool} {lg : Nat → Int32} (e : jm_sm (rX nb) s s') (h : XW s nb T hd sm lg) : XW s' nb T hd sm lg := by
  refine XW_same (fun c q hc => e c q ?_) h
  unfold rX
  rcases hc with hc | ⟨rfl, hc⟩
  · refine Or.inl (List.contains_iff_mem.mpr ?_)
    simp only [List.mem_cons, List.not_mem_nil, or_false]
    omega
  · refine Or.inr (List.contains_iff_mem.mpr ?_)
    simp only [List.mem_cons, List.not_mem_nil, or_false, Prod.mk.injEq, true_and]
    omega
theorem ZW_sm {s s' : jm_M} {k : Nat} {T : tN} {hd : Nat} {sm : Nat → Bool} {lg : Nat → Int32} (wt : wT T) (e : jm_sm rZ s s') (h : ZW s k T hd sm lg) : ZW s' k T hd sm lg := by
  refine ZW_same wt (fun c q hc => (e c q ?_).1) h
  unfold inP at hc
  unfold rZ
  refine Or.inl (List.contains_iff_mem.mpr ?_)
  simp only [List.mem_cons, List.not_mem_nil, or_false]
  omega
theorem NQ_same {s s' : jm_M} {nb k : Nat} (ex : ∀ T hd sm lg, XW s nb T hd sm lg → XW s' nb T hd sm lg) (ez : ∀ T hd sm lg, wT T → ZW s k T hd sm lg → ZW s' k T hd sm lg) (h : NQ s nb k) : NQ s' nb k := by
  obtain ⟨T, hd, sm, lg, h1, h2, h3⟩ := h
  exact ⟨T, hd, sm, lg, h1, ex _ _ _ _ h2, ez _ _ _ _ h1.1 h3⟩
/-! what is kept -/
def KP (s : jm_M) (kp : Nat) : Prop := s.1 1 7 = nI kp ∧ s.1 59 12 = nI kp ∧ kp ≤ 2 ∧ (1 ≤ kp → NQ s 25 1) ∧ (2 ≤ kp → NQ s 35 2)
def rP : List Nat × List (Nat × Nat) := ([], [(1, 7), (59, 12)])
theorem KP_same {s s' : jm_M} {kp : Nat} (e0 : jm_sm rP s s') (ex1 : jm_sm (rX 25) s s') (ex2 : jm_sm (rX 35) s s') (ez : ∀ k c q, 1 ≤ k → k ≤ 2 → inP k c q → s'.1 c q = s.1 c q) (h : KP s kp) : KP s' kp := by
  obtain ⟨h1, h2, h3, h4, h5⟩ := h
  exact ⟨(e0 1 7 (by decide)).1.trans h1, (e0 59 12 (by decide)).1.trans h2, h3, fun g => NQ_same (fun _ _ _ _ => XW_sm ex1) (fun _ _ _ _ wt => ZW_same wt (fun c q => ez 1 c q (by decide) (by decide))) (h4 g), fun g => NQ_same (fun _ _ _ _ => XW_sm ex2) (fun _ _ _ _ wt => ZW_same wt (fun c q => ez 2 c q (by decide) (by decide))) (h5 g)⟩
theorem inP_z {s s' : jm_M} (e : jm_sm rZ s s') : ∀ k c q, inP k c q → s'.1 c q = s.1 c q := fun k c q hc => by
  refine (e c q ?_).1
  unfold inP at hc
  unfold rZ
  refine Or.inl (List.contains_iff_mem.mpr ?_)
  simp only [List.mem_cons, List.not_mem_nil, or_false]
  omega
theorem KP_sm {s s' : jm_M} {kp : Nat} (e0 : jm_sm rP s s') (ex1 : jm_sm (rX 25) s s') (ex2 : jm_sm (rX 35) s s') (ez : jm_sm rZ s s') (h : KP s kp) : KP s' kp := KP_same e0 ex1 ex2 (fun k c q _ _ => inP_z ez k c q) h
def rK : List Nat × List (Nat × Nat) := ([58, 72], [])
def rS : List Nat × List (Nat × Nat) := ([54, 71], [])
def rC : List Nat × List (Nat × Nat) := ([46, 47], [(1, 9), (45, 1)])
theorem iK_sm {s s' : jm_M} (e : jm_sm rK s s') (h : iK s) : iK s' := fun k hk => by
  rw [(e 58 k (Or.inl (by decide))).1, (e 72 k (Or.inl (by decide))).1]
  exact h k hk
theorem iS_sm {s s' : jm_M} (e : jm_sm rS s s') (h : iS s) : iS s' := fun k hk => by
  rw [(e 54 k (Or.inl (by decide))).1, (e 71 k (Or.inl (by decide))).1]
  exact h k hk
theorem CN_sm {s s' : jm_M} {T : tN} {hd : Nat} {sm : Nat → Bool} (e : jm_sm rC s s') (h : CN s T hd sm) : CN s' T hd sm := CN_same (e 1 9 (by decide)).1 (funext fun k => (e 46 k (Or.inl (by decide))).1) (funext fun k => (e 47 k (Or.inl (by decide))).2) (e 45 1 (by decide)).1 h
/-- all of it -/
def IV (s : jm_M) (len : Nat) (f : Nat → Nat) (T : tN) (hd : Nat) (sm : Nat → Bool) (lg : Nat → Int32) (kp : Nat) : Prop := iT s len f ∧ NW T hd lg ∧ XW s 15 T hd sm lg ∧ ZW s 0 T hd sm lg ∧ CN s T hd sm ∧ KP s kp ∧ iK s ∧ iS s
def INV (s : jm_M) : Prop := ∃ len f T hd sm lg kp, IV s len f T hd sm lg kp
def rL (a b : List Nat × List (Nat × Nat)) : List Nat × List (Nat × Nat) := (a.1 ++ b.1, a.2 ++ b.2)
def rA : List Nat × List (Nat × Nat) := rL rT (rL (rX 15) (rL (rX 25) (rL (rX 35) (rL rZ (rL rP (rL rK rS))))))
theorem IV_sm {s s' : jm_M} {len : Nat} {f : Nat → Nat} {T : tN} {hd : Nat} {sm : Nat → Bool} {lg : Nat → Int32} {kp : Nat} (e : jm_sm rA s s') (hc : CN s' T hd sm) (h : IV s len f T hd sm lg kp) : IV s' len f T hd sm lg kp := by
  obtain ⟨h1, h2, h3, h4, h5, h6, h7, h8⟩ := h
  exact ⟨iT_sm (sm_sub e (by decide)) h1, h2, XW_sm (sm_sub e (by decide)) h3, ZW_sm h2.1 (sm_sub e (by decide)) h4, hc, KP_sm (sm_sub e (by decide)) (sm_sub e (by decide)) (sm_sub e (by decide)) (sm_sub e (by decide)) h6, iK_sm (sm_sub e (by decide)) h7, iS_sm (sm_sub e (by decide)) h8⟩
/-- a call that leaves all of it as it was -/
theorem INV_fr {WX WZ : List Nat × List (Nat × Nat)} {s s1 s2 : jm_M} (fx : jm_fr WX s s1) (fz : jm_fr WZ s1 s2) (h : INV s) (h1 : jm_sep WX rA = true := by decide) (h2 : jm_sep WZ rA = true := by decide) (h3 : jm_sep WX rC = true := by decide) (h4 : jm_sep WZ rC = true := by decide) : INV s2 := by
  obtain ⟨len, f, T, hd, sm, lg, kp, h⟩ := h
  exact ⟨len, f, T, hd, sm, lg, kp, IV_sm (sm_2 fx fz rA h1 h2) (CN_sm (sm_2 fx fz rC h3 h4) h.2.2.2.2.1) h⟩
