def jm_fr (W : List Nat × List (Nat × Nat)) (s s' : jm_M) : Prop := ∀ c k, W.1.contains c = false → W.2.contains (c, k) = false → s'.1 c k = s.1 c k ∧ s'.2 c k = s.2 c k
def jm_Fr {α : Type} (W : List Nat × List (Nat × Nat)) (s : jm_M) (m : Option α) (pr : α → jm_M) : Prop := ∀ a, m = some a → jm_fr W s (pr a)
def jm_le (W' W : List Nat × List (Nat × Nat)) : Bool := W'.1.all (fun c => W.1.contains c) && W'.2.all (fun q => W.2.contains q)
section JF
variable {α β : Type} {W W' : List Nat × List (Nat × Nat)} {s : jm_M} {pr : α → jm_M}
theorem jm_fr_rf : jm_fr W s s := fun _ _ _ _ => ⟨rfl, rfl⟩
theorem jm_fr_tr {s1 s2 : jm_M} (h1 : jm_fr W s s1) (h2 : jm_fr W s1 s2) : jm_fr W s s2 := fun c k hc hk => ⟨(h2 c k hc hk).1.trans (h1 c k hc hk).1, (h2 c k hc hk).2.trans (h1 c k hc hk).2⟩
theorem jm_fr_up {s1 : jm_M} (h1 : jm_fr W' s s1) (hw : jm_le W' W = true) : jm_fr W s s1 := by
  intro c k hc hk
  unfold jm_le at hw
  rw [Bool.and_eq_true, List.all_eq_true, List.all_eq_true] at hw
  refine h1 c k ?_ ?_
  · cases h : W'.1.contains c with
    | false => rfl
    | true => rw [hw.1 c (List.contains_iff_mem.mp h)] at hc; cases hc
  · cases h : W'.2.contains (c, k) with
    | false => rfl
    | true => rw [hw.2 (c, k) (List.contains_iff_mem.mp h)] at hk; cases hk
theorem jm_fr_fi {i k : Nat} {v : Int32} (hw : W.2.contains (i, k) = true) : jm_fr W s (jm_si s i k v) := by
  intro c k' hc hk
  have h : ¬ (c = i ∧ k' = k) := fun e => by rw [e.1, e.2, hw] at hk; cases hk
  exact ⟨by simp only [jm_si, if_neg h], rfl⟩
theorem jm_fr_fl {i k : Nat} {v : Int64} (hw : W.2.contains (i, k) = true) : jm_fr W s (jm_sl s i k v) := by
  intro c k' hc hk
  have h : ¬ (c = i ∧ k' = k) := fun e => by rw [e.1, e.2, hw] at hk; cases hk
  exact ⟨rfl, by simp only [jm_sl, if_neg h]⟩
theorem jm_fr_si {i k : Nat} {v : Int32} (hw : W.1.contains i = true) : jm_fr W s (jm_si s i k v) := by
  intro c k' hc hk
  have h : ¬ (c = i ∧ k' = k) := fun e => by rw [e.1, hw] at hc; cases hc
  exact ⟨by simp only [jm_si, if_neg h], rfl⟩
theorem jm_fr_sl {i k : Nat} {v : Int64} (hw : W.1.contains i = true) : jm_fr W s (jm_sl s i k v) := by
  intro c k' hc hk
  have h : ¬ (c = i ∧ k' = k) := fun e => by rw [e.1, hw] at hc; cases hc
  exact ⟨rfl, by simp only [jm_sl, if_neg h]⟩
theorem jm_fr_z {i : Nat} (hw : W.1.contains i = true) : jm_fr W s (jm_z s i) := by
  intro c k' hc hk
  have h : ¬ c = i := fun e => by rw [e, hw] at hc; cases hc
  exact ⟨by simp only [jm_z, if_neg h], by simp only [jm_z, if_neg h]⟩
theorem jF_some {a : α} (h : pr a = s) : jm_Fr W s (some a) pr := fun a' ha => by cases ha; rw [h]; exact jm_fr_rf
theorem jF_none : jm_Fr W s none pr := fun _ ha => by cases ha
theorem jF_evi {f : jm_M → Option α} {i k : Nat} {v : Int32} (hw : W.2.contains (i, k) = true) (h : ∀ s1, jm_Fr W s1 (f s1) pr) : jm_Fr W s (jm_ev (jm_si s i k v) f) pr := fun a ha => jm_fr_tr (jm_fr_fi hw) (h _ a ha)
theorem jF_evl {f : jm_M → Option α} {i k : Nat} {v : Int64} (hw : W.2.contains (i, k) = true) (h : ∀ s1, jm_Fr W s1 (f s1) pr) : jm_Fr W s (jm_ev (jm_sl s i k v) f) pr := fun a ha => jm_fr_tr (jm_fr_fl hw) (h _ a ha)
theorem jF_evz {f : jm_M → Option α} {i : Nat} (hw : W.1.contains i = true) (h : ∀ s1, jm_Fr W s1 (f s1) pr) : jm_Fr W s (jm_ev (jm_z s i) f) pr := fun a ha => jm_fr_tr (jm_fr_z hw) (h _ a ha)
theorem jF_sti {f : jm_M → Option α} {i len : Nat} {j v : Int32} (hw : W.1.contains i = true) (h : ∀ s1, jm_Fr W s1 (f s1) pr) : jm_Fr W s (jm_sti s i len j v f) pr := fun a ha => by
  unfold jm_sti at ha
  by_cases hb : jm_inb j len = true
  · rw [if_pos hb] at ha; exact jm_fr_tr (jm_fr_si hw) (h _ a ha)
  · rw [if_neg hb] at ha; cases ha
theorem jF_stl {f : jm_M → Option α} {i len : Nat} {j : Int32} {v : Int64} (hw : W.1.contains i = true) (h : ∀ s1, jm_Fr W s1 (f s1) pr) : jm_Fr W s (jm_stl s i len j v f) pr := fun a ha => by
  unfold jm_stl at ha
  by_cases hb : jm_inb j len = true
  · rw [if_pos hb] at ha; exact jm_fr_tr (jm_fr_sl hw) (h _ a ha)
  · rw [if_neg hb] at ha; cases ha
theorem jF_ldi {f : Int32 → Option α} {t : jm_M} {i len : Nat} {j : Int32} (h : ∀ x, jm_Fr W s (f x) pr) : jm_Fr W s (jm_ldi t i len j f) pr := fun a ha => by
  unfold jm_ldi at ha
  by_cases hb : jm_inb j len = true
  · rw [if_pos hb] at ha; exact h _ a ha
  · rw [if_neg hb] at ha; cases ha
theorem jF_ldl {f : Int64 → Option α} {t : jm_M} {i len : Nat} {j : Int32} (h : ∀ x, jm_Fr W s (f x) pr) : jm_Fr W s (jm_ldl t i len j f) pr := fun a ha => by
  unfold jm_ldl at ha
  by_cases hb : jm_inb j len = true
  · rw [if_pos hb] at ha; exact h _ a ha
  · rw [if_neg hb] at ha; cases ha
theorem jF_vi {f : Int32 → Option α} {x : Int32} (h : ∀ x, jm_Fr W s (f x) pr) : jm_Fr W s (jm_vi x f) pr := h x
theorem jF_vl {f : Int64 → Option α} {x : Int64} (h : ∀ x, jm_Fr W s (f x) pr) : jm_Fr W s (jm_vl x f) pr := h x
theorem jF_bp {m : Option β} {f : β → Option α} (h : ∀ x, jm_Fr W s (f x) pr) : jm_Fr W s (jm_bd m f) pr := fun a ha => by
  cases hm : m with
  | none => rw [hm] at ha; cases ha
  | some x => rw [hm] at ha; exact h x a ha
theorem jF_bv {m : Option jm_M} {f : jm_M → Option α} (hm : jm_Fr W' s m id) (hw : jm_le W' W = true) (h : ∀ s1, jm_Fr W s1 (f s1) pr) : jm_Fr W s (jm_bd m f) pr := fun a ha => by
  cases hc : m with
  | none => rw [hc] at ha; cases ha
  | some x => rw [hc] at ha; exact jm_fr_tr (jm_fr_up (hm x hc) hw) (h x a ha)
theorem jF_b2 {m : Option (Int32 × jm_M)} {f : Int32 → jm_M → Option α} (hm : jm_Fr W' s m Prod.snd) (hw : jm_le W' W = true) (h : ∀ x s1, jm_Fr W s1 (f x s1) pr) : jm_Fr W s (jm_b2 m f) pr := fun a ha => by
  cases hc : m with
  | none => rw [hc] at ha; cases ha
  | some x => rw [hc] at ha; exact jm_fr_tr (jm_fr_up (hm x hc) hw) (h x.1 x.2 a ha)
theorem jF_gb {x : Int32} {m : Option α} (h : jm_Fr W s m pr) : jm_Fr W s (jm_gb x m) pr := fun a ha => by
  unfold jm_gb at ha
  by_cases hb : (decide (x = 0) || decide (x = 1)) = true
  · rw [if_pos hb] at ha; exact h a ha
  · rw [if_neg hb] at ha; cases ha
theorem jF_ite {p : Prop} {inst : Decidable p} {m1 m2 : Option α} (h1 : jm_Fr W s m1 pr) (h2 : jm_Fr W s m2 pr) : jm_Fr W s (@ite _ p inst m1 m2) pr := fun a ha => by
  by_cases hb : p
  · rw [if_pos hb] at ha; exact h1 a ha
  · rw [if_neg hb] at ha; exact h2 a ha
end JF
theorem s_Re_init_fr (s : jm_M) : jm_Fr ([4], [(3, 1), (3, 2), (3, 3), (3, 4), (3, 5), (3, 6)]) s (s_Re_init s) id := by
  unfold s_Re_init
  refine jF_evz (by decide) (fun _ => ?_)
  refine jF_evi (by decide) (fun _ => ?_)
  refine jF_evi (by decide) (fun _ => ?_)
  refine jF_evi (by decide) (fun _ => ?_)
  refine jF_evi (by decide) (fun _ => ?_)
  refine jF_evi (by decide) (fun _ => ?_)
  refine jF_evi (by decide) (fun _ => ?_)
  exact jF_some rfl
theorem s_Ne_clear_5_t26_L88_fr : ∀ (n : Nat) (x1 : Int32) (s : jm_M), jm_Fr ([6, 7, 8, 9, 10, 11, 12, 13, 14], [(5, 0), (5, 10), (5, 11)]) s (s_Ne_clear_5_t26_L88 n x1 s) id := by
  intro n
  induction n with
  | zero => intro x1 s; exact jF_none
  | succ n ih =>
    intro x1 s
    rw [s_Ne_clear_5_t26_L88]
    refine jF_ite ?_ ?_
    · exact jF_some rfl
    · refine jF_stl (by decide) (fun _ => ?_)
      exact ih _ _
theorem s_Ne_clear_5_t26_L17_fr : ∀ (n : Nat) (x1 : Int32) (s : jm_M), jm_Fr ([6, 7, 8, 9, 10, 11, 12, 13, 14], [(5, 0), (5, 10), (5, 11)]) s (s_Ne_clear_5_t26_L17 n x1 s) id := by
  intro n
  induction n with
  | zero => intro x1 s; exact jF_none
  | succ n ih =>
    intro x1 s
    rw [s_Ne_clear_5_t26_L17]
    refine jF_ite ?_ ?_
    · exact s_Ne_clear_5_t26_L88_fr _ _ _
    · refine jF_sti (by decide) (fun _ => ?_)
      refine jF_sti (by decide) (fun _ => ?_)
      refine jF_sti (by decide) (fun _ => ?_)
      refine jF_sti (by decide) (fun _ => ?_)
      refine jF_sti (by decide) (fun _ => ?_)
      refine jF_sti (by decide) (fun _ => ?_)
      refine jF_stl (by decide) (fun _ => ?_)
      refine jF_stl (by decide) (fun _ => ?_)
      exact ih _ _
theorem s_Ne_clear_5_t26_fr (s : jm_M) : jm_Fr ([6, 7, 8, 9, 10, 11, 12, 13, 14], [(5, 0), (5, 10), (5, 11)]) s (s_Ne_clear_5_t26 s) id := by
  unfold s_Ne_clear_5_t26
  refine jF_evi (by decide) (fun _ => ?_)
  refine jF_evi (by decide) (fun _ => ?_)
  refine jF_evl (by decide) (fun _ => ?_)
  exact s_Ne_clear_5_t26_L17_fr _ _ _
theorem s_Ne_init_5_fr (s : jm_M) : jm_Fr ([6, 7, 8, 9, 10, 11, 12, 13, 14], [(5, 0), (5, 10), (5, 11)]) s (s_Ne_init_5 s) id := by
  unfold s_Ne_init_5
  refine jF_evi (by decide) (fun _ => ?_)
  refine jF_evz (by decide) (fun _ => ?_)
  refine jF_evz (by decide) (fun _ => ?_)
  refine jF_evz (by decide) (fun _ => ?_)
  refine jF_evz (by decide) (fun _ => ?_)
  refine jF_evz (by decide) (fun _ => ?_)
  refine jF_evz (by decide) (fun _ => ?_)
  refine jF_evz (by decide) (fun _ => ?_)
  refine jF_evz (by decide) (fun _ => ?_)
  refine jF_evz (by decide) (fun _ => ?_)
  refine jF_evi (by decide) (fun _ => ?_)
  refine jF_evl (by decide) (fun _ => ?_)
  refine jF_bv (s_Ne_clear_5_t26_fr _) (by decide) (fun _ => ?_)
  exact jF_some rfl
theorem s_Ne_clear_15_t46_L88_fr : ∀ (n : Nat) (x1 : Int32) (s : jm_M), jm_Fr ([16, 17, 18, 19, 20, 21, 22, 23, 24], [(15, 0), (15, 10), (15, 11)]) s (s_Ne_clear_15_t46_L88 n x1 s) id := by
  intro n
  induction n with
  | zero => intro x1 s; exact jF_none
  | succ n ih =>
    intro x1 s
    rw [s_Ne_clear_15_t46_L88]
    refine jF_ite ?_ ?_
    · exact jF_some rfl
    · refine jF_stl (by decide) (fun _ => ?_)
      exact ih _ _
theorem s_Ne_clear_15_t46_L17_fr : ∀ (n : Nat) (x1 : Int32) (s : jm_M), jm_Fr ([16, 17, 18, 19, 20, 21, 22, 23, 24], [(15, 0), (15, 10), (15, 11)]) s (s_Ne_clear_15_t46_L17 n x1 s) id := by
  intro n
  induction n with
  | zero => intro x1 s; exact jF_none
  | succ n ih =>
    intro x1 s
    rw [s_Ne_clear_15_t46_L17]
    refine jF_ite ?_ ?_
    · exact s_Ne_clear_15_t46_L88_fr _ _ _
    · refine jF_sti (by decide) (fun _ => ?_)
      refine jF_sti (by decide) (fun _ => ?_)
      refine jF_sti (by decide) (fun _ => ?_)
      refine jF_sti (by decide) (fun _ => ?_)
      refine jF_sti (by decide) (fun _ => ?_)
      refine jF_sti (by decide) (fun _ => ?_)
      refine jF_stl (by decide) (fun _ => ?_)
      refine jF_stl (by decide) (fun _ => ?_)
      exact ih _ _
theorem s_Ne_clear_15_t46_fr (s : jm_M) : jm_Fr ([16, 17, 18, 19, 20, 21, 22, 23, 24], [(15, 0), (15, 10), (15, 11)]) s (s_Ne_clear_15_t46 s) id := by
  unfold s_Ne_clear_15_t46
  refine jF_evi (by decide) (fun _ => ?_)
  refine jF_evi (by decide) (fun _ => ?_)
  refine jF_evl (by decide) (fun _ => ?_)
  exact s_Ne_clear_15_t46_L17_fr _ _ _
theorem s_Ne_init_15_fr (s : jm_M) : jm_Fr ([16, 17, 18, 19, 20, 21, 22, 23, 24], [(15, 0), (15, 10), (15, 11)]) s (s_Ne_init_15 s) id := by
  unfold s_Ne_init_15
  refine jF_evi (by decide) (fun _ => ?_)
  refine jF_evz (by decide) (fun _ => ?_)
  refine jF_evz (by decide) (fun _ => ?_)
  refine jF_evz (by decide) (fun _ => ?_)
  refine jF_evz (by decide) (fun _ => ?_)
  refine jF_evz (by decide) (fun _ => ?_)
  refine jF_evz (by decide) (fun _ => ?_)
  refine jF_evz (by decide) (fun _ => ?_)
  refine jF_evz (by decide) (fun _ => ?_)
  refine jF_evz (by decide) (fun _ => ?_)
  refine jF_evi (by decide) (fun _ => ?_)
  refine jF_evl (by decide) (fun _ => ?_)
  refine jF_bv (s_Ne_clear_15_t46_fr _) (by decide) (fun _ => ?_)
  exact jF_some rfl
theorem s_Ne_clear_25_t66_L88_fr : ∀ (n : Nat) (x1 : Int32) (s : jm_M), jm_Fr ([26, 27, 28, 29, 30, 31, 32, 33, 34], [(25, 0), (25, 10), (25, 11)]) s (s_Ne_clear_25_t66_L88 n x1 s) id := by
  intro n
  induction n with
  | zero => intro x1 s; exact jF_none
  | succ n ih =>
    intro x1 s
    rw [s_Ne_clear_25_t66_L88]
    refine jF_ite ?_ ?_
    · exact jF_some rfl
    · refine jF_stl (by decide) (fun _ => ?_)
      exact ih _ _
theorem s_Ne_clear_25_t66_L17_fr : ∀ (n : Nat) (x1 : Int32) (s : jm_M), jm_Fr ([26, 27, 28, 29, 30, 31, 32, 33, 34], [(25, 0), (25, 10), (25, 11)]) s (s_Ne_clear_25_t66_L17 n x1 s) id := by
  intro n
  induction n with
  | zero => intro x1 s; exact jF_none
  | succ n ih =>
    intro x1 s
    rw [s_Ne_clear_25_t66_L17]
    refine jF_ite ?_ ?_
    · exact s_Ne_clear_25_t66_L88_fr _ _ _
    · refine jF_sti (by decide) (fun _ => ?_)
      refine jF_sti (by decide) (fun _ => ?_)
      refine jF_sti (by decide) (fun _ => ?_)
      refine jF_sti (by decide) (fun _ => ?_)
      refine jF_sti (by decide) (fun _ => ?_)
      refine jF_sti (by decide) (fun _ => ?_)
      refine jF_stl (by decide) (fun _ => ?_)
      refine jF_stl (by decide) (fun _ => ?_)
      exact ih _ _
theorem s_Ne_clear_25_t66_fr (s : jm_M) : jm_Fr ([26, 27, 28, 29, 30, 31, 32, 33, 34], [(25, 0), (25, 10), (25, 11)]) s (s_Ne_clear_25_t66 s) id := by
  unfold s_Ne_clear_25_t66
  refine jF_evi (by decide) (fun _ => ?_)
  refine jF_evi (by decide) (fun _ => ?_)
  refine jF_evl (by decide) (fun _ => ?_)
  exact s_Ne_clear_25_t66_L17_fr _ _ _
theorem s_Ne_init_25_fr (s : jm_M) : jm_Fr ([26, 27, 28, 29, 30, 31, 32, 33, 34], [(25, 0), (25, 10), (25, 11)]) s (s_Ne_init_25 s) id := by
  unfold s_Ne_init_25
  refine jF_evi (by decide) (fun _ => ?_)
  refine jF_evz (by decide) (fun _ => ?_)
  refine jF_evz (by decide) (fun _ => ?_)
  refine jF_evz (by decide) (fun _ => ?_)
  refine jF_evz (by decide) (fun _ => ?_)
  refine jF_evz (by decide) (fun _ => ?_)
  refine jF_evz (by decide) (fun _ => ?_)
  refine jF_evz (by decide) (fun _ => ?_)
  refine jF_evz (by decide) (fun _ => ?_)
  refine jF_evz (by decide) (fun _ => ?_)
  refine jF_evi (by decide) (fun _ => ?_)
  refine jF_evl (by decide) (fun _ => ?_)
  refine jF_bv (s_Ne_clear_25_t66_fr _) (by decide) (fun _ => ?_)
  exact jF_some rfl
theorem s_Ne_clear_35_t86_L88_fr : ∀ (n : Nat) (x1 : Int32) (s : jm_M), jm_Fr ([36, 37, 38, 39, 40, 41, 42, 43, 44], [(35, 0), (35, 10), (35, 11)]) s (s_Ne_clear_35_t86_L88 n x1 s) id := by
  intro n
  induction n with
  | zero => intro x1 s; exact jF_none
  | succ n ih =>
    intro x1 s
    rw [s_Ne_clear_35_t86_L88]
    refine jF_ite ?_ ?_
    · exact jF_some rfl
    · refine jF_stl (by decide) (fun _ => ?_)
      exact ih _ _
theorem s_Ne_clear_35_t86_L17_fr : ∀ (n : Nat) (x1 : Int32) (s : jm_M), jm_Fr ([36, 37, 38, 39, 40, 41, 42, 43, 44], [(35, 0), (35, 10), (35, 11)]) s (s_Ne_clear_35_t86_L17 n x1 s) id := by
  intro n
  induction n with
  | zero => intro x1 s; exact jF_none
  | succ n ih =>
    intro x1 s
    rw [s_Ne_clear_35_t86_L17]
    refine jF_ite ?_ ?_
    · exact s_Ne_clear_35_t86_L88_fr _ _ _
    · refine jF_sti (by decide) (fun _ => ?_)
      refine jF_sti (by decide) (fun _ => ?_)
      refine jF_sti (by decide) (fun _ => ?_)
      refine jF_sti (by decide) (fun _ => ?_)
      refine jF_sti (by decide) (fun _ => ?_)
      refine jF_sti (by decide) (fun _ => ?_)
      refine jF_stl (by decide) (fun _ => ?_)
      refine jF_stl (by decide) (fun _ => ?_)
      exact ih _ _
theorem s_Ne_clear_35_t86_fr (s : jm_M) : jm_Fr ([36, 37, 38, 39, 40, 41, 42, 43, 44], [(35, 0), (35, 10), (35, 11)]) s (s_Ne_clear_35_t86 s) id := by
  unfold s_Ne_clear_35_t86
  refine jF_evi (by decide) (fun _ => ?_)
  refine jF_evi (by decide) (fun _ => ?_)
  refine jF_evl (by decide) (fun _ => ?_)
  exact s_Ne_clear_35_t86_L17_fr _ _ _
theorem s_Ne_init_35_fr (s : jm_M) : jm_Fr ([36, 37, 38, 39, 40, 41, 42, 43, 44], [(35, 0), (35, 10), (35, 11)]) s (s_Ne_init_35 s) id := by
  unfold s_Ne_init_35
  refine jF_evi (by decide) (fun _ => ?_)
  refine jF_evz (by decide) (fun _ => ?_)
  refine jF_evz (by decide) (fun _ => ?_)
  refine jF_evz (by decide) (fun _ => ?_)
  refine jF_evz (by decide) (fun _ => ?_)
  refine jF_evz (by decide) (fun _ => ?_)
  refine jF_evz (by decide) (fun _ => ?_)
  refine jF_evz (by decide) (fun _ => ?_)
  refine jF_evz (by decide) (fun _ => ?_)
  refine jF_evz (by decide) (fun _ => ?_)
  refine jF_evi (by decide) (fun _ => ?_)
  refine jF_evl (by decide) (fun _ => ?_)
  refine jF_bv (s_Ne_clear_35_t86_fr _) (by decide) (fun _ => ?_)
  exact jF_some rfl
theorem s_Ni_init_fr (s : jm_M) : jm_Fr ([46, 47], [(45, 1)]) s (s_Ni_init s) id := by
  unfold s_Ni_init
  refine jF_evz (by decide) (fun _ => ?_)
  refine jF_evi (by decide) (fun _ => ?_)
  refine jF_evz (by decide) (fun _ => ?_)
  exact jF_some rfl
theorem s_Co_init_fr (s : jm_M) : jm_Fr ([49, 50, 51, 52], [(48, 0), (48, 1), (48, 2), (48, 3), (48, 4), (48, 9)]) s (s_Co_init s) id := by
  unfold s_Co_init
  refine jF_evi (by decide) (fun _ => ?_)
  refine jF_evi (by decide) (fun _ => ?_)
  refine jF_evi (by decide) (fun _ => ?_)
  refine jF_evi (by decide) (fun _ => ?_)
  refine jF_evi (by decide) (fun _ => ?_)
  refine jF_evz (by decide) (fun _ => ?_)
  refine jF_evz (by decide) (fun _ => ?_)
  refine jF_evz (by decide) (fun _ => ?_)
  refine jF_evz (by decide) (fun _ => ?_)
  refine jF_evi (by decide) (fun _ => ?_)
  exact jF_some rfl
theorem s_Si_init_fr (s : jm_M) : jm_Fr ([54], []) s (s_Si_init s) id := by
  unfold s_Si_init
  refine jF_evz (by decide) (fun _ => ?_)
  exact jF_some rfl
theorem s_Wa_init_fr (s : jm_M) : jm_Fr ([56], []) s (s_Wa_init s) id := by
  unfold s_Wa_init
  refine jF_evz (by decide) (fun _ => ?_)
  exact jF_some rfl
theorem s_Ki_init_fr (s : jm_M) : jm_Fr ([58], []) s (s_Ki_init s) id := by
  unfold s_Ki_init
  refine jF_evz (by decide) (fun _ => ?_)
  refine jF_sti (by decide) (fun _ => ?_)
  refine jF_sti (by decide) (fun _ => ?_)
  refine jF_sti (by decide) (fun _ => ?_)
  exact jF_some rfl
theorem s_X_init_fr (s : jm_M) : jm_Fr ([2, 3, 4, 5, 6, 7, 8, 9, 10, 11, 12, 13, 14, 15, 16, 17, 18, 19, 20, 21, 22, 23, 24, 25, 26, 27, 28, 29, 30, 31, 32, 33, 34, 35, 36, 37, 38, 39, 40, 41, 42, 43, 44, 45, 46, 47, 48, 49, 50, 51, 52, 53, 54, 55, 56, 57, 58], [(1, 1), (1, 7), (1, 9), (3, 1), (3, 2), (3, 3), (3, 4), (3, 5), (3, 6), (5, 0), (5, 10), (5, 11), (15, 0), (15, 10), (15, 11), (25, 0), (25, 10), (25, 11), (35, 0), (35, 10), (35, 11), (45, 1), (48, 0), (48, 1), (48, 2), (48, 3), (48, 4), (48, 9)]) s (s_X_init s) id := by
  unfold s_X_init
  refine jF_evz (by decide) (fun _ => ?_)
  refine jF_evi (by decide) (fun _ => ?_)
  refine jF_evz (by decide) (fun _ => ?_)
  refine jF_bv (s_Re_init_fr _) (by decide) (fun _ => ?_)
  refine jF_evz (by decide) (fun _ => ?_)
  refine jF_bv (s_Ne_init_5_fr _) (by decide) (fun _ => ?_)
  refine jF_evz (by decide) (fun _ => ?_)
  refine jF_bv (s_Ne_init_15_fr _) (by decide) (fun _ => ?_)
  refine jF_evz (by decide) (fun _ => ?_)
  refine jF_bv (s_Ne_init_25_fr _) (by decide) (fun _ => ?_)
  refine jF_evz (by decide) (fun _ => ?_)
  refine jF_bv (s_Ne_init_35_fr _) (by decide) (fun _ => ?_)
  refine jF_evi (by decide) (fun _ => ?_)
  refine jF_evz (by decide) (fun _ => ?_)
  refine jF_bv (s_Ni_init_fr _) (by decide) (fun _ => ?_)
  refine jF_evi (by decide) (fun _ => ?_)
  refine jF_evz (by decide) (fun _ => ?_)
  refine jF_bv (s_Co_init_fr _) (by decide) (fun _ => ?_)
  refine jF_evz (by decide) (fun _ => ?_)
  refine jF_bv (s_Si_init_fr _) (by decide) (fun _ => ?_)
  refine jF_evz (by decide) (fun _ => ?_)
  refine jF_bv (s_Wa_init_fr _) (by decide) (fun _ => ?_)
  refine jF_evz (by decide) (fun _ => ?_)
  refine jF_bv (s_Ki_init_fr _) (by decide) (fun _ => ?_)
  exact jF_some rfl
theorem s_Z_init_L171_fr : ∀ (n : Nat) (x1 : Int32) (s : jm_M), jm_Fr ([60, 61, 62, 63, 64, 65, 66, 67, 68, 69, 70, 71, 72, 73, 74, 75, 76, 77, 78], []) s (s_Z_init_L171 n x1 s) id := by
  intro n
  induction n with
  | zero => intro x1 s; exact jF_none
  | succ n ih =>
    intro x1 s
    rw [s_Z_init_L171]
    refine jF_ite ?_ ?_
    · exact jF_some rfl
    · refine jF_sti (by decide) (fun _ => ?_)
      exact ih _ _
theorem s_Z_init_fr (s : jm_M) : jm_Fr ([60, 61, 62, 63, 64, 65, 66, 67, 68, 69, 70, 71, 72, 73, 74, 75, 76, 77, 78], []) s (s_Z_init s) id := by
  unfold s_Z_init
  refine jF_evz (by decide) (fun _ => ?_)
  refine jF_evz (by decide) (fun _ => ?_)
  refine jF_evz (by decide) (fun _ => ?_)
  refine jF_evz (by decide) (fun _ => ?_)
  refine jF_evz (by decide) (fun _ => ?_)
  refine jF_evz (by decide) (fun _ => ?_)
  refine jF_evz (by decide) (fun _ => ?_)
  refine jF_evz (by decide) (fun _ => ?_)
  refine jF_evz (by decide) (fun _ => ?_)
  refine jF_evz (by decide) (fun _ => ?_)
  refine jF_evz (by decide) (fun _ => ?_)
  refine jF_evz (by decide) (fun _ => ?_)
  refine jF_evz (by decide) (fun _ => ?_)
  refine jF_sti (by decide) (fun _ => ?_)
  refine jF_sti (by decide) (fun _ => ?_)
  refine jF_sti (by decide) (fun _ => ?_)
  refine jF_evz (by decide) (fun _ => ?_)
  refine jF_evz (by decide) (fun _ => ?_)
  refine jF_evz (by decide) (fun _ => ?_)
  refine jF_evz (by decide) (fun _ => ?_)
  refine jF_evz (by decide) (fun _ => ?_)
  refine jF_evz (by decide) (fun _ => ?_)
  exact s_Z_init_L171_fr _ _ _
theorem s_X_write_L33_fr : ∀ (n : Nat) (x2 : Int64) (x4 : Int32) (s : jm_M), jm_Fr ([2], [(1, 1)]) s (s_X_write_L33 n x2 x4 s) Prod.snd := by
  intro n
  induction n with
  | zero => intro x2 x4 s; exact jF_none
  | succ n ih =>
    intro x2 x4 s
    rw [s_X_write_L33]
    refine jF_ite ?_ ?_
    · exact jF_some rfl
    · refine jF_sti (by decide) (fun _ => ?_)
      refine jF_evi (by decide) (fun _ => ?_)
      exact ih _ _ _
theorem s_X_write_fr (s : jm_M) (a0 : Int32) (a1 : Int64) : jm_Fr ([2], [(1, 1)]) s (s_X_write s a0 a1) Prod.snd := by
  unfold s_X_write
  refine jF_ite ?_ ?_
  · exact jF_some rfl
  · refine jF_ite ?_ ?_
    · refine jF_ite ?_ ?_
      · refine jF_vi (fun _ => ?_)
        exact s_X_write_L33_fr _ _ _ _
      · exact jF_some rfl
    · exact jF_some rfl
theorem s_Z_write_L34_fr : ∀ (n : Nat) (x2 : Int64) (x4 : Int32) (s : jm_M), jm_Fr ([60], [(59, 0)]) s (s_Z_write_L34 n x2 x4 s) Prod.snd := by
  intro n
  induction n with
  | zero => intro x2 x4 s; exact jF_none
  | succ n ih =>
    intro x2 x4 s
    rw [s_Z_write_L34]
    refine jF_ite ?_ ?_
    · exact jF_some rfl
    · refine jF_sti (by decide) (fun _ => ?_)
      refine jF_evi (by decide) (fun _ => ?_)
      exact ih _ _ _
theorem s_Z_write_fr (s : jm_M) (a0 : Int32) (a1 : Int64) : jm_Fr ([60], [(59, 0)]) s (s_Z_write s a0 a1) Prod.snd := by
  unfold s_Z_write
  refine jF_bp (fun _ => ?_)
  refine jF_ite ?_ ?_
  · exact jF_some rfl
  · refine jF_ite ?_ ?_
    · refine jF_vi (fun _ => ?_)
      exact s_Z_write_L34_fr _ _ _ _
    · exact jF_some rfl
theorem s_X_wipe_fr (s : jm_M) : jm_Fr ([], [(1, 1)]) s (s_X_wipe s) Prod.snd := by
  unfold s_X_wipe
  refine jF_vi (fun _ => ?_)
  refine jF_evi (by decide) (fun _ => ?_)
  exact jF_some rfl
theorem s_Z_wipe_fr (s : jm_M) : jm_Fr ([], [(59, 0)]) s (s_Z_wipe s) Prod.snd := by
  unfold s_Z_wipe
  refine jF_vi (fun _ => ?_)
  refine jF_evi (by decide) (fun _ => ?_)
  exact jF_some rfl
theorem s_Ne_clear_5_L88_fr : ∀ (n : Nat) (x1 : Int32) (s : jm_M), jm_Fr ([6, 7, 8, 9, 10, 11, 12, 13, 14], [(5, 0), (5, 10), (5, 11)]) s (s_Ne_clear_5_L88 n x1 s) id := by
  intro n
  induction n with
  | zero => intro x1 s; exact jF_none
  | succ n ih =>
    intro x1 s
    rw [s_Ne_clear_5_L88]
    refine jF_ite ?_ ?_
    · exact jF_some rfl
    · refine jF_stl (by decide) (fun _ => ?_)
      exact ih _ _
theorem s_Ne_clear_5_L17_fr : ∀ (n : Nat) (x1 : Int32) (s : jm_M), jm_Fr ([6, 7, 8, 9, 10, 11, 12, 13, 14], [(5, 0), (5, 10), (5, 11)]) s (s_Ne_clear_5_L17 n x1 s) id := by
  intro n
  induction n with
  | zero => intro x1 s; exact jF_none
  | succ n ih =>
    intro x1 s
    rw [s_Ne_clear_5_L17]
    refine jF_ite ?_ ?_
    · exact s_Ne_clear_5_L88_fr _ _ _
    · refine jF_sti (by decide) (fun _ => ?_)
      refine jF_sti (by decide) (fun _ => ?_)
      refine jF_sti (by decide) (fun _ => ?_)
      refine jF_sti (by decide) (fun _ => ?_)
      refine jF_sti (by decide) (fun _ => ?_)
      refine jF_sti (by decide) (fun _ => ?_)
      refine jF_stl (by decide) (fun _ => ?_)
      refine jF_stl (by decide) (fun _ => ?_)
      exact ih _ _
theorem s_Ne_clear_5_fr (s : jm_M) : jm_Fr ([6, 7, 8, 9, 10, 11, 12, 13, 14], [(5, 0), (5, 10), (5, 11)]) s (s_Ne_clear_5 s) id := by
  unfold s_Ne_clear_5
  refine jF_evi (by decide) (fun _ => ?_)
  refine jF_evi (by decide) (fun _ => ?_)
  refine jF_evl (by decide) (fun _ => ?_)
  exact s_Ne_clear_5_L17_fr _ _ _
theorem s_Re_readNumber_3_2_fr (s : jm_M) (a1 : Int32) : jm_Fr ([], [(3, 2)]) s (s_Re_readNumber_3_2 s a1) Prod.snd := by
  unfold s_Re_readNumber_3_2
  refine jF_bp (fun _ => ?_)
  refine jF_vi (fun _ => ?_)
  refine jF_ite ?_ ?_
  · exact jF_some rfl
  · refine jF_ite ?_ ?_
    · refine jF_evi (by decide) (fun _ => ?_)
      refine jF_bp (fun _ => ?_)
      refine jF_vi (fun _ => ?_)
      refine jF_ite ?_ ?_
      · exact jF_some rfl
      · refine jF_ite ?_ ?_
        · refine jF_evi (by decide) (fun _ => ?_)
          exact jF_some rfl
        · exact jF_some rfl
    · exact jF_some rfl
theorem s_Re_readItem_3_2_L27_fr : ∀ (n : Nat) (x2 : Int32) (x3 : Int32) (s : jm_M), jm_Fr ([4], [(3, 1), (3, 2), (3, 3)]) s (s_Re_readItem_3_2_L27 n x2 x3 s) Prod.snd := by
  intro n
  induction n with
  | zero => intro x2 x3 s; exact jF_none
  | succ n ih =>
    intro x2 x3 s
    rw [s_Re_readItem_3_2_L27]
    refine jF_ite ?_ ?_
    · exact jF_some rfl
    · refine jF_b2 (s_Re_readNumber_3_2_fr _ _) (by decide) (fun _ _ => ?_)
      refine jF_ite ?_ ?_
      · refine jF_sti (by decide) (fun _ => ?_)
        refine jF_evi (by decide) (fun _ => ?_)
        refine jF_bp (fun _ => ?_)
        refine jF_evi (by decide) (fun _ => ?_)
        refine jF_ite ?_ ?_
        · exact jF_some rfl
        · refine jF_ite ?_ ?_
          · exact ih _ _ _
          · exact jF_some rfl
      · exact jF_some rfl
theorem s_Re_readItem_3_2_fr (s : jm_M) (a1 : Int32) : jm_Fr ([4], [(3, 1), (3, 2), (3, 3)]) s (s_Re_readItem_3_2 s a1) Prod.snd := by
  unfold s_Re_readItem_3_2
  refine jF_bp (fun _ => ?_)
  refine jF_evi (by decide) (fun _ => ?_)
  refine jF_evi (by decide) (fun _ => ?_)
  refine jF_evi (by decide) (fun _ => ?_)
  exact s_Re_readItem_3_2_L27_fr _ _ _ _
theorem s_Ne_addMist_5_fr (s : jm_M) (a0 : Int32) (a1 : Int32) (a2 : Int64) : jm_Fr ([14], []) s (s_Ne_addMist_5 s a0 a1 a2) id := by
  unfold s_Ne_addMist_5
  refine jF_bp (fun _ => ?_)
  refine jF_ite ?_ ?_
  · exact jF_some rfl
  · refine jF_bp (fun _ => ?_)
    refine jF_ite ?_ ?_
    · exact jF_some rfl
    · refine jF_vi (fun _ => ?_)
      refine jF_ldl (fun _ => ?_)
      refine jF_stl (by decide) (fun _ => ?_)
      refine jF_vi (fun _ => ?_)
      refine jF_ldl (fun _ => ?_)
      refine jF_stl (by decide) (fun _ => ?_)
      exact jF_some rfl
theorem s_Re_takeMist_3_5_fr (s : jm_M) : jm_Fr ([14], []) s (s_Re_takeMist_3_5 s) Prod.snd := by
  unfold s_Re_takeMist_3_5
  refine jF_ldi (fun _ => ?_)
  refine jF_ldi (fun _ => ?_)
  refine jF_ite ?_ ?_
  · refine jF_bp (fun _ => ?_)
    refine jF_ite ?_ ?_
    · exact jF_some rfl
    · refine jF_bp (fun _ => ?_)
      refine jF_ite ?_ ?_
      · exact jF_some rfl
      · refine jF_ldi (fun _ => ?_)
        refine jF_ldi (fun _ => ?_)
        refine jF_bp (fun _ => ?_)
        refine jF_bv (s_Ne_addMist_5_fr _ _ _ _) (by decide) (fun _ => ?_)
        exact jF_some rfl
  · exact jF_some rfl
theorem s_Re_takeLiar_3_5_fr (s : jm_M) : jm_Fr ([13], []) s (s_Re_takeLiar_3_5 s) Prod.snd := by
  unfold s_Re_takeLiar_3_5
  refine jF_ldi (fun _ => ?_)
  refine jF_ite ?_ ?_
  · refine jF_bp (fun _ => ?_)
    refine jF_ite ?_ ?_
    · exact jF_some rfl
    · refine jF_bp (fun _ => ?_)
      refine jF_ite ?_ ?_
      · exact jF_some rfl
      · refine jF_ldi (fun _ => ?_)
        refine jF_ite ?_ ?_
        · exact jF_some rfl
        · refine jF_ldi (fun _ => ?_)
          refine jF_ite ?_ ?_
          · exact jF_some rfl
          · refine jF_ldl (fun _ => ?_)
            refine jF_ldi (fun _ => ?_)
            refine jF_ldi (fun _ => ?_)
            refine jF_bp (fun _ => ?_)
            refine jF_stl (by decide) (fun _ => ?_)
            exact jF_some rfl
  · exact jF_some rfl
theorem s_Re_takeRule_3_5_fr (s : jm_M) : jm_Fr ([8, 9], [(3, 5)]) s (s_Re_takeRule_3_5 s) Prod.snd := by
  unfold s_Re_takeRule_3_5
  refine jF_ldi (fun _ => ?_)
  refine jF_ldi (fun _ => ?_)
  refine jF_ldi (fun _ => ?_)
  refine jF_ite ?_ ?_
  · refine jF_bp (fun _ => ?_)
    refine jF_ite ?_ ?_
    · exact jF_some rfl
    · refine jF_ite ?_ ?_
      · refine jF_ite ?_ ?_
        · exact jF_some rfl
        · refine jF_ite ?_ ?_
          · exact jF_some rfl
          · refine jF_ite ?_ ?_
            · exact jF_some rfl
            · refine jF_ite ?_ ?_
              · refine jF_sti (by decide) (fun _ => ?_)
                refine jF_sti (by decide) (fun _ => ?_)
                refine jF_evi (by decide) (fun _ => ?_)
                exact jF_some rfl
              · exact jF_some rfl
      · exact jF_some rfl
  · exact jF_some rfl
theorem s_Re_takeSleep_3_5_fr (s : jm_M) : jm_Fr ([12], []) s (s_Re_takeSleep_3_5 s) Prod.snd := by
  unfold s_Re_takeSleep_3_5
  refine jF_ldi (fun _ => ?_)
  refine jF_ite ?_ ?_
  · refine jF_bp (fun _ => ?_)
    refine jF_ite ?_ ?_
    · exact jF_some rfl
    · refine jF_bp (fun _ => ?_)
      refine jF_ite ?_ ?_
      · exact jF_some rfl
      · refine jF_ldl (fun _ => ?_)
        refine jF_ldi (fun _ => ?_)
        refine jF_ldi (fun _ => ?_)
        refine jF_bp (fun _ => ?_)
        refine jF_stl (by decide) (fun _ => ?_)
        exact jF_some rfl
  · exact jF_some rfl
theorem s_Re_takeSight_3_5_fr (s : jm_M) : jm_Fr ([7], []) s (s_Re_takeSight_3_5 s) Prod.snd := by
  unfold s_Re_takeSight_3_5
  refine jF_ldi (fun _ => ?_)
  refine jF_ldi (fun _ => ?_)
  refine jF_ite ?_ ?_
  · refine jF_bp (fun _ => ?_)
    refine jF_ite ?_ ?_
    · exact jF_some rfl
    · refine jF_bp (fun _ => ?_)
      refine jF_ite ?_ ?_
      · exact jF_some rfl
      · refine jF_ite ?_ ?_
        · exact jF_some rfl
        · refine jF_bp (fun _ => ?_)
          refine jF_ite ?_ ?_
          · refine jF_ldi (fun _ => ?_)
            refine jF_sti (by decide) (fun _ => ?_)
            refine jF_ldi (fun _ => ?_)
            refine jF_sti (by decide) (fun _ => ?_)
            exact jF_some rfl
          · exact jF_some rfl
  · exact jF_some rfl
theorem s_Re_takeWood_3_5_fr (s : jm_M) : jm_Fr ([10], [(3, 6)]) s (s_Re_takeWood_3_5 s) Prod.snd := by
  unfold s_Re_takeWood_3_5
  refine jF_ldi (fun _ => ?_)
  refine jF_ite ?_ ?_
  · refine jF_bp (fun _ => ?_)
    refine jF_ite ?_ ?_
    · exact jF_some rfl
    · refine jF_ite ?_ ?_
      · refine jF_ldi (fun _ => ?_)
        refine jF_sti (by decide) (fun _ => ?_)
        refine jF_evi (by decide) (fun _ => ?_)
        exact jF_some rfl
      · exact jF_some rfl
  · exact jF_some rfl
theorem s_Re_takeHill_3_5_J43_fr (x2 : Int32) (s : jm_M) : jm_Fr ([6], [(5, 0)]) s (s_Re_takeHill_3_5_J43 x2 s) Prod.snd := by
  unfold s_Re_takeHill_3_5_J43
  refine jF_sti (by decide) (fun _ => ?_)
  refine jF_evi (by decide) (fun _ => ?_)
  exact jF_some rfl
theorem s_Re_takeHill_3_5_fr (s : jm_M) : jm_Fr ([6], [(5, 0)]) s (s_Re_takeHill_3_5 s) Prod.snd := by
  unfold s_Re_takeHill_3_5
  refine jF_ldi (fun _ => ?_)
  refine jF_ite ?_ ?_
  · refine jF_ite ?_ ?_
    · exact jF_some rfl
    · refine jF_ite ?_ ?_
      · exact jF_some rfl
      · refine jF_ite ?_ ?_
        · refine jF_bp (fun _ => ?_)
          refine jF_ite ?_ ?_
          · exact s_Re_takeHill_3_5_J43_fr _ _
          · exact jF_some rfl
        · exact s_Re_takeHill_3_5_J43_fr _ _
  · exact jF_some rfl
theorem s_Re_takeItem_3_5_fr (s : jm_M) : jm_Fr ([6, 7, 8, 9, 10, 12, 13, 14], [(3, 4), (3, 5), (3, 6), (5, 0)]) s (s_Re_takeItem_3_5 s) Prod.snd := by
  unfold s_Re_takeItem_3_5
  refine jF_ite ?_ ?_
  · refine jF_ite ?_ ?_
    · exact jF_some rfl
    · refine jF_b2 (s_Re_takeHill_3_5_fr _) (by decide) (fun _ _ => ?_)
      refine jF_ite ?_ ?_
      · exact jF_some rfl
      · exact jF_some rfl
  · refine jF_evi (by decide) (fun _ => ?_)
    refine jF_ldi (fun _ => ?_)
    refine jF_bp (fun _ => ?_)
    refine jF_ite ?_ ?_
    · exact jF_some rfl
    · refine jF_vi (fun _ => ?_)
      refine jF_ite ?_ ?_
      · refine jF_b2 (s_Re_takeMist_3_5_fr _) (by decide) (fun _ _ => ?_)
        refine jF_gb ?_
        exact jF_some rfl
      · refine jF_ite ?_ ?_
        · exact jF_some rfl
        · refine jF_ite ?_ ?_
          · exact jF_some rfl
          · refine jF_ite ?_ ?_
            · exact jF_some rfl
            · refine jF_ite ?_ ?_
              · exact jF_some rfl
              · refine jF_ite ?_ ?_
                · refine jF_b2 (s_Re_takeLiar_3_5_fr _) (by decide) (fun _ _ => ?_)
                  refine jF_gb ?_
                  exact jF_some rfl
                · refine jF_ite ?_ ?_
                  · exact jF_some rfl
                  · refine jF_ite ?_ ?_
                    · exact jF_some rfl
                    · refine jF_ite ?_ ?_
                      · exact jF_some rfl
                      · refine jF_ite ?_ ?_
                        · exact jF_some rfl
                        · refine jF_ite ?_ ?_
                          · exact jF_some rfl
                          · refine jF_ite ?_ ?_
                            · refine jF_b2 (s_Re_takeRule_3_5_fr _) (by decide) (fun _ _ => ?_)
                              refine jF_gb ?_
                              exact jF_some rfl
                            · refine jF_ite ?_ ?_
                              · refine jF_b2 (s_Re_takeSleep_3_5_fr _) (by decide) (fun _ _ => ?_)
                                refine jF_gb ?_
                                exact jF_some rfl
                              · refine jF_ite ?_ ?_
                                · exact jF_some rfl
                                · refine jF_ite ?_ ?_
                                  · exact jF_some rfl
                                  · refine jF_ite ?_ ?_
                                    · refine jF_b2 (s_Re_takeSight_3_5_fr _) (by decide) (fun _ _ => ?_)
                                      refine jF_gb ?_
                                      exact jF_some rfl
                                    · refine jF_ite ?_ ?_
                                      · refine jF_b2 (s_Re_takeWood_3_5_fr _) (by decide) (fun _ _ => ?_)
                                        refine jF_gb ?_
                                        exact jF_some rfl
                                      · exact jF_some rfl
theorem s_Re_firstFault_3_2_5_L27_fr : ∀ (n : Nat) (x2 : Int32) (x4 : Int32) (s : jm_M), jm_Fr ([4, 6, 7, 8, 9, 10, 11, 12, 13, 14], [(3, 1), (3, 2), (3, 3), (3, 4), (3, 5), (3, 6), (5, 0), (5, 10), (5, 11)]) s (s_Re_firstFault_3_2_5_L27 n x2 x4 s) Prod.snd := by
  intro n
  induction n with
  | zero => intro x2 x4 s; exact jF_none
  | succ n ih =>
    intro x2 x4 s
    rw [s_Re_firstFault_3_2_5_L27]
    refine jF_ite ?_ ?_
    · exact jF_some rfl
    · refine jF_ite ?_ ?_
      · exact jF_some rfl
      · refine jF_vi (fun _ => ?_)
        refine jF_b2 (s_Re_readItem_3_2_fr _ _) (by decide) (fun _ _ => ?_)
        refine jF_ite ?_ ?_
        · exact jF_some rfl
        · refine jF_b2 (s_Re_takeItem_3_5_fr _) (by decide) (fun _ _ => ?_)
          refine jF_ite ?_ ?_
          · exact jF_some rfl
          · exact ih _ _ _
theorem s_Re_firstFault_3_2_5_fr (s : jm_M) (a1 : Int32) : jm_Fr ([4, 6, 7, 8, 9, 10, 11, 12, 13, 14], [(3, 1), (3, 2), (3, 3), (3, 4), (3, 5), (3, 6), (5, 0), (5, 10), (5, 11)]) s (s_Re_firstFault_3_2_5 s a1) Prod.snd := by
  unfold s_Re_firstFault_3_2_5
  refine jF_bv (s_Ne_clear_5_fr _) (by decide) (fun _ => ?_)
  refine jF_evi (by decide) (fun _ => ?_)
  refine jF_evi (by decide) (fun _ => ?_)
  refine jF_evi (by decide) (fun _ => ?_)
  refine jF_evi (by decide) (fun _ => ?_)
  exact s_Re_firstFault_3_2_5_L27_fr _ _ _ _
theorem s_X_fault_fr (s : jm_M) : jm_Fr ([4, 6, 7, 8, 9, 10, 11, 12, 13, 14], [(3, 1), (3, 2), (3, 3), (3, 4), (3, 5), (3, 6), (5, 0), (5, 10), (5, 11)]) s (s_X_fault s) Prod.snd := by
  unfold s_X_fault
  refine jF_b2 (s_Re_firstFault_3_2_5_fr _ _) (by decide) (fun _ _ => ?_)
  exact jF_some rfl
theorem s_Z_numbers_J132_fr {k2 : Int32 → Int32 → jm_M → Option (Int32 × jm_M)} (hk2 : ∀ (x1 : Int32) (x2 : Int32) (s : jm_M), jm_Fr ([73], [(59, 15)]) s (k2 x1 x2 s) Prod.snd) (x1 : Int32) (x2 : Int32) (x4 : Int32) (y0 : Int32) (y1 : Int32) (s : jm_M) : jm_Fr ([73], [(59, 15)]) s (s_Z_numbers_J132 k2 x1 x2 x4 y0 y1 s) Prod.snd := by
  unfold s_Z_numbers_J132
  refine jF_ite ?_ ?_
  · refine jF_sti (by decide) (fun _ => ?_)
    refine jF_evi (by decide) (fun _ => ?_)
    exact hk2 _ _ _
  · exact jF_some rfl
theorem s_Z_numbers_J86_fr {k2 : Int32 → Int32 → jm_M → Option (Int32 × jm_M)} (hk2 : ∀ (x1 : Int32) (x2 : Int32) (s : jm_M), jm_Fr ([73], [(59, 15)]) s (k2 x1 x2 s) Prod.snd) (x1 : Int32) (x2 : Int32) (x3 : Int32) (x4 : Int32) (s : jm_M) : jm_Fr ([73], [(59, 15)]) s (s_Z_numbers_J86 k2 x1 x2 x3 x4 s) Prod.snd := by
  unfold s_Z_numbers_J86
  refine jF_bp (fun _ => ?_)
  refine jF_ite ?_ ?_
  · exact jF_some rfl
  · refine jF_ite ?_ ?_
    · exact jF_some rfl
    · refine jF_ldi (fun _ => ?_)
      refine jF_ite ?_ ?_
      · exact s_Z_numbers_J132_fr hk2 _ _ _ _ _ _
      · exact s_Z_numbers_J132_fr hk2 _ _ _ _ _ _
theorem s_Z_numbers_L12_fr {k2 : Int32 → Int32 → jm_M → Option (Int32 × jm_M)} (hk2 : ∀ (x1 : Int32) (x2 : Int32) (s : jm_M), jm_Fr ([73], [(59, 15)]) s (k2 x1 x2 s) Prod.snd) : ∀ (n : Nat) (x1 : Int32) (x2 : Int32) (x3 : Int32) (x4 : Int32) (s : jm_M), jm_Fr ([73], [(59, 15)]) s (s_Z_numbers_L12 k2 n x1 x2 x3 x4 s) Prod.snd := by
  intro n
  induction n with
  | zero => intro x1 x2 x3 x4 s; exact jF_none
  | succ n ih =>
    intro x1 x2 x3 x4 s
    rw [s_Z_numbers_L12]
    refine jF_ite ?_ ?_
    · exact s_Z_numbers_J86_fr hk2 _ _ _ _ _
    · refine jF_ldi (fun _ => ?_)
      refine jF_bp (fun _ => ?_)
      refine jF_ite ?_ ?_
      · exact s_Z_numbers_J86_fr hk2 _ _ _ _ _
      · refine jF_ite ?_ ?_
        · exact s_Z_numbers_J86_fr hk2 _ _ _ _ _
        · refine jF_ldi (fun _ => ?_)
          refine jF_vi (fun _ => ?_)
          refine jF_evi (by decide) (fun _ => ?_)
          exact ih _ _ _ _ _
theorem s_Z_numbers_L2_fr : ∀ (n : Nat) (x1 : Int32) (x2 : Int32) (s : jm_M), jm_Fr ([73], [(59, 15)]) s (s_Z_numbers_L2 n x1 x2 s) Prod.snd := by
  intro n
  induction n with
  | zero => intro x1 x2 s; exact jF_none
  | succ n ih =>
    intro x1 x2 s
    rw [s_Z_numbers_L2]
    refine jF_ite ?_ ?_
    · exact jF_some rfl
    · exact s_Z_numbers_L12_fr ih _ _ _ _ _ _
theorem s_Z_numbers_fr (s : jm_M) (a0 : Int32) : jm_Fr ([73], [(59, 15)]) s (s_Z_numbers s a0) Prod.snd := by
  unfold s_Z_numbers
  exact s_Z_numbers_L2_fr _ _ _ _
theorem s_Z_spanItem_J205_fr (x3 : Int32) (x4 : Int32) (x6 : Int32) (y0 : Int32) (y1 : Int32) (s : jm_M) : jm_Fr ([67, 68, 73], [(59, 15)]) s (s_Z_spanItem_J205 x3 x4 x6 y0 y1 s) Prod.snd := by
  unfold s_Z_spanItem_J205
  refine jF_sti (by decide) (fun _ => ?_)
  refine jF_sti (by decide) (fun _ => ?_)
  refine jF_sti (by decide) (fun _ => ?_)
  refine jF_ldi (fun _ => ?_)
  refine jF_sti (by decide) (fun _ => ?_)
  exact jF_some rfl
theorem s_Z_spanItem_J144_fr (x1 : Int32) (x3 : Int32) (x4 : Int32) (s : jm_M) : jm_Fr ([67, 68, 73], [(59, 15)]) s (s_Z_spanItem_J144 x1 x3 x4 s) Prod.snd := by
  unfold s_Z_spanItem_J144
  refine jF_ldi (fun _ => ?_)
  refine jF_vi (fun _ => ?_)
  refine jF_sti (by decide) (fun _ => ?_)
  refine jF_ldi (fun _ => ?_)
  refine jF_sti (by decide) (fun _ => ?_)
  refine jF_ite ?_ ?_
  · refine jF_ldi (fun _ => ?_)
    exact s_Z_spanItem_J205_fr _ _ _ _ _ _
  · exact s_Z_spanItem_J205_fr _ _ _ _ _ _
theorem s_Z_spanItem_J97_fr (x1 : Int32) (x3 : Int32) (x4 : Int32) (s : jm_M) : jm_Fr ([67, 68, 73], [(59, 15)]) s (s_Z_spanItem_J97 x1 x3 x4 s) Prod.snd := by
  unfold s_Z_spanItem_J97
  refine jF_ite ?_ ?_
  · refine jF_ldi (fun _ => ?_)
    refine jF_bp (fun _ => ?_)
    refine jF_ite ?_ ?_
    · exact jF_some rfl
    · refine jF_ldi (fun _ => ?_)
      refine jF_ldi (fun _ => ?_)
      refine jF_ldi (fun _ => ?_)
      refine jF_bp (fun _ => ?_)
      refine jF_ite ?_ ?_
      · exact jF_some rfl
      · exact s_Z_spanItem_J144_fr _ _ _ _
  · exact s_Z_spanItem_J144_fr _ _ _ _
theorem s_Z_spanItem_J11_fr (x1 : Int32) (y0 : Int32) (s : jm_M) : jm_Fr ([67, 68, 73], [(59, 15)]) s (s_Z_spanItem_J11 x1 y0 s) Prod.snd := by
  unfold s_Z_spanItem_J11
  refine jF_b2 (s_Z_numbers_fr _ _) (by decide) (fun _ _ => ?_)
  refine jF_ite ?_ ?_
  · exact jF_some rfl
  · refine jF_ldi (fun _ => ?_)
    refine jF_bp (fun _ => ?_)
    refine jF_ite ?_ ?_
    · exact jF_some rfl
    · refine jF_ldi (fun _ => ?_)
      refine jF_ldi (fun _ => ?_)
      refine jF_ldi (fun _ => ?_)
      refine jF_ldi (fun _ => ?_)
      refine jF_ite ?_ ?_
      · exact jF_some rfl
      · refine jF_ite ?_ ?_
        · exact jF_some rfl
        · refine jF_ite ?_ ?_
          · refine jF_ite ?_ ?_
            · exact s_Z_spanItem_J97_fr _ _ _ _
            · exact jF_some rfl
          · exact s_Z_spanItem_J97_fr _ _ _ _
theorem s_Z_spanItem_fr (s : jm_M) (a0 : Int32) : jm_Fr ([67, 68, 73], [(59, 15)]) s (s_Z_spanItem s a0) Prod.snd := by
  unfold s_Z_spanItem
  refine jF_ite ?_ ?_
  · exact s_Z_spanItem_J11_fr _ _ _
  · exact s_Z_spanItem_J11_fr _ _ _
theorem s_Z_ruleItem_fr (s : jm_M) : jm_Fr ([64, 65, 73], [(59, 15), (59, 17)]) s (s_Z_ruleItem s) Prod.snd := by
  unfold s_Z_ruleItem
  refine jF_b2 (s_Z_numbers_fr _ _) (by decide) (fun _ _ => ?_)
  refine jF_ite ?_ ?_
  · exact jF_some rfl
  · refine jF_ldi (fun _ => ?_)
    refine jF_bp (fun _ => ?_)
    refine jF_ite ?_ ?_
    · exact jF_some rfl
    · refine jF_ldi (fun _ => ?_)
      refine jF_bp (fun _ => ?_)
      refine jF_ite ?_ ?_
      · exact jF_some rfl
      · refine jF_ldi (fun _ => ?_)
        refine jF_bp (fun _ => ?_)
        refine jF_ite ?_ ?_
        · exact jF_some rfl
        · refine jF_ldi (fun _ => ?_)
          refine jF_bp (fun _ => ?_)
          refine jF_ite ?_ ?_
          · refine jF_ldi (fun _ => ?_)
            refine jF_evi (by decide) (fun _ => ?_)
            refine jF_ldi (fun _ => ?_)
            refine jF_ldi (fun _ => ?_)
            refine jF_sti (by decide) (fun _ => ?_)
            refine jF_ldi (fun _ => ?_)
            refine jF_ldi (fun _ => ?_)
            refine jF_sti (by decide) (fun _ => ?_)
            exact jF_some rfl
          · exact jF_some rfl
theorem s_Z_seeItem_fr (s : jm_M) : jm_Fr ([63, 73], [(59, 15)]) s (s_Z_seeItem s) Prod.snd := by
  unfold s_Z_seeItem
  refine jF_b2 (s_Z_numbers_fr _ _) (by decide) (fun _ _ => ?_)
  refine jF_ite ?_ ?_
  · exact jF_some rfl
  · refine jF_ldi (fun _ => ?_)
    refine jF_bp (fun _ => ?_)
    refine jF_ite ?_ ?_
    · exact jF_some rfl
    · refine jF_ldi (fun _ => ?_)
      refine jF_bp (fun _ => ?_)
      refine jF_ite ?_ ?_
      · exact jF_some rfl
      · refine jF_ldi (fun _ => ?_)
        refine jF_ldi (fun _ => ?_)
        refine jF_ite ?_ ?_
        · exact jF_some rfl
        · refine jF_ldi (fun _ => ?_)
          refine jF_ldi (fun _ => ?_)
          refine jF_ldi (fun _ => ?_)
          refine jF_bp (fun _ => ?_)
          refine jF_ite ?_ ?_
          · refine jF_ldi (fun _ => ?_)
            refine jF_vi (fun _ => ?_)
            refine jF_ldi (fun _ => ?_)
            refine jF_ldi (fun _ => ?_)
            refine jF_sti (by decide) (fun _ => ?_)
            refine jF_ldi (fun _ => ?_)
            refine jF_vi (fun _ => ?_)
            refine jF_ldi (fun _ => ?_)
            refine jF_ldi (fun _ => ?_)
            refine jF_sti (by decide) (fun _ => ?_)
            exact jF_some rfl
          · exact jF_some rfl
theorem s_Z_woodItem_fr (s : jm_M) : jm_Fr ([66, 73], [(59, 15), (59, 18)]) s (s_Z_woodItem s) Prod.snd := by
  unfold s_Z_woodItem
  refine jF_b2 (s_Z_numbers_fr _ _) (by decide) (fun _ _ => ?_)
  refine jF_ite ?_ ?_
  · exact jF_some rfl
  · refine jF_ldi (fun _ => ?_)
    refine jF_bp (fun _ => ?_)
    refine jF_ite ?_ ?_
    · exact jF_some rfl
    · refine jF_ldi (fun _ => ?_)
      refine jF_bp (fun _ => ?_)
      refine jF_ite ?_ ?_
      · refine jF_ldi (fun _ => ?_)
        refine jF_evi (by decide) (fun _ => ?_)
        refine jF_ldi (fun _ => ?_)
        refine jF_ldi (fun _ => ?_)
        refine jF_sti (by decide) (fun _ => ?_)
        exact jF_some rfl
      · exact jF_some rfl
theorem s_Z_hillItem_L40_fr : ∀ (n : Nat) (x1 : Int32) (s : jm_M), jm_Fr ([61, 62, 63, 64, 65, 66, 73], [(59, 15)]) s (s_Z_hillItem_L40 n x1 s) Prod.snd := by
  intro n
  induction n with
  | zero => intro x1 s; exact jF_none
  | succ n ih =>
    intro x1 s
    rw [s_Z_hillItem_L40]
    refine jF_ldi (fun _ => ?_)
    refine jF_ite ?_ ?_
    · refine jF_ldi (fun _ => ?_)
      refine jF_vi (fun _ => ?_)
      refine jF_ldi (fun _ => ?_)
      refine jF_sti (by decide) (fun _ => ?_)
      refine jF_sti (by decide) (fun _ => ?_)
      refine jF_sti (by decide) (fun _ => ?_)
      refine jF_sti (by decide) (fun _ => ?_)
      refine jF_sti (by decide) (fun _ => ?_)
      refine jF_ldi (fun _ => ?_)
      refine jF_sti (by decide) (fun _ => ?_)
      exact jF_some rfl
    · refine jF_ldi (fun _ => ?_)
      refine jF_ite ?_ ?_
      · refine jF_ldi (fun _ => ?_)
        refine jF_ite ?_ ?_
        · exact jF_some rfl
        · exact ih _ _
      · exact ih _ _
theorem s_Z_hillItem_fr (s : jm_M) : jm_Fr ([61, 62, 63, 64, 65, 66, 73], [(59, 15)]) s (s_Z_hillItem s) Prod.snd := by
  unfold s_Z_hillItem
  refine jF_b2 (s_Z_numbers_fr _ _) (by decide) (fun _ _ => ?_)
  refine jF_ite ?_ ?_
  · exact jF_some rfl
  · refine jF_ldi (fun _ => ?_)
    refine jF_ite ?_ ?_
    · exact jF_some rfl
    · refine jF_ite ?_ ?_
      · refine jF_ldi (fun _ => ?_)
        refine jF_ite ?_ ?_
        · exact jF_some rfl
        · exact s_Z_hillItem_L40_fr _ _ _
      · exact jF_some rfl
theorem s_Z_item_J135_fr (x1 : Int32) (s : jm_M) : jm_Fr ([61, 62, 63, 64, 65, 66, 67, 68, 73], [(59, 15), (59, 17), (59, 18), (59, 19)]) s (s_Z_item_J135 x1 s) Prod.snd := by
  unfold s_Z_item_J135
  refine jF_b2 (s_Z_spanItem_fr _ _) (by decide) (fun _ _ => ?_)
  refine jF_gb ?_
  exact jF_some rfl
theorem s_Z_item_fr (s : jm_M) : jm_Fr ([61, 62, 63, 64, 65, 66, 67, 68, 73], [(59, 15), (59, 17), (59, 18), (59, 19)]) s (s_Z_item s) Prod.snd := by
  unfold s_Z_item
  refine jF_ldi (fun _ => ?_)
  refine jF_evi (by decide) (fun _ => ?_)
  refine jF_ite ?_ ?_
  · refine jF_b2 (s_Z_hillItem_fr _) (by decide) (fun _ _ => ?_)
    refine jF_gb ?_
    exact jF_some rfl
  · refine jF_evi (by decide) (fun _ => ?_)
    refine jF_ite ?_ ?_
    · exact s_Z_item_J135_fr _ _
    · refine jF_ite ?_ ?_
      · exact jF_some rfl
      · refine jF_ite ?_ ?_
        · exact jF_some rfl
        · refine jF_ite ?_ ?_
          · exact jF_some rfl
          · refine jF_ite ?_ ?_
            · exact jF_some rfl
            · refine jF_ite ?_ ?_
              · exact s_Z_item_J135_fr _ _
              · refine jF_ite ?_ ?_
                · exact jF_some rfl
                · refine jF_ite ?_ ?_
                  · exact jF_some rfl
                  · refine jF_ite ?_ ?_
                    · exact jF_some rfl
                    · refine jF_ite ?_ ?_
                      · exact jF_some rfl
                      · refine jF_ite ?_ ?_
                        · exact jF_some rfl
                        · refine jF_ite ?_ ?_
                          · refine jF_b2 (s_Z_ruleItem_fr _) (by decide) (fun _ _ => ?_)
                            refine jF_gb ?_
                            exact jF_some rfl
                          · refine jF_ite ?_ ?_
                            · exact s_Z_item_J135_fr _ _
                            · refine jF_ite ?_ ?_
                              · exact jF_some rfl
                              · refine jF_ite ?_ ?_
                                · exact jF_some rfl
                                · refine jF_ite ?_ ?_
                                  · refine jF_b2 (s_Z_seeItem_fr _) (by decide) (fun _ _ => ?_)
                                    refine jF_gb ?_
                                    exact jF_some rfl
                                  · refine jF_ite ?_ ?_
                                    · refine jF_b2 (s_Z_woodItem_fr _) (by decide) (fun _ _ => ?_)
                                      refine jF_gb ?_
                                      exact jF_some rfl
                                    · exact jF_some rfl
theorem s_Z_readAll_L34_fr : ∀ (n : Nat) (s : jm_M), jm_Fr ([61, 62, 63, 64, 65, 66, 67, 68, 73], [(59, 15), (59, 17), (59, 18), (59, 19)]) s (s_Z_readAll_L34 n s) Prod.snd := by
  intro n
  induction n with
  | zero => intro s; exact jF_none
  | succ n ih =>
    intro s
    rw [s_Z_readAll_L34]
    refine jF_ite ?_ ?_
    · exact jF_some rfl
    · refine jF_vi (fun _ => ?_)
      refine jF_b2 (s_Z_item_fr _) (by decide) (fun _ _ => ?_)
      refine jF_ite ?_ ?_
      · exact jF_some rfl
      · exact ih _
theorem s_Z_readAll_fr (s : jm_M) : jm_Fr ([61, 62, 63, 64, 65, 66, 67, 68, 73], [(59, 15), (59, 17), (59, 18), (59, 19)]) s (s_Z_readAll s) Prod.snd := by
  unfold s_Z_readAll
  refine jF_sti (by decide) (fun _ => ?_)
  refine jF_sti (by decide) (fun _ => ?_)
  refine jF_evi (by decide) (fun _ => ?_)
  refine jF_evi (by decide) (fun _ => ?_)
  refine jF_evi (by decide) (fun _ => ?_)
  refine jF_evi (by decide) (fun _ => ?_)
  exact s_Z_readAll_L34_fr _ _
theorem s_Z_fault_fr (s : jm_M) : jm_Fr ([61, 62, 63, 64, 65, 66, 67, 68, 73], [(59, 15), (59, 17), (59, 18), (59, 19)]) s (s_Z_fault s) Prod.snd := by
  unfold s_Z_fault
  refine jF_b2 (s_Z_readAll_fr _) (by decide) (fun _ _ => ?_)
  exact jF_some rfl
theorem s_Ne_become_15_5_L136_fr : ∀ (n : Nat) (x2 : Int32) (s : jm_M), jm_Fr ([16, 17, 18, 19, 20, 21, 22, 23, 24], [(15, 0), (15, 10), (15, 11)]) s (s_Ne_become_15_5_L136 n x2 s) id := by
  intro n
  induction n with
  | zero => intro x2 s; exact jF_none
  | succ n ih =>
    intro x2 s
    rw [s_Ne_become_15_5_L136]
    refine jF_ite ?_ ?_
    · exact jF_some rfl
    · refine jF_ldl (fun _ => ?_)
      refine jF_stl (by decide) (fun _ => ?_)
      exact ih _ _
theorem s_Ne_become_15_5_L26_fr : ∀ (n : Nat) (x2 : Int32) (s : jm_M), jm_Fr ([16, 17, 18, 19, 20, 21, 22, 23, 24], [(15, 0), (15, 10), (15, 11)]) s (s_Ne_become_15_5_L26 n x2 s) id := by
  intro n
  induction n with
  | zero => intro x2 s; exact jF_none
  | succ n ih =>
    intro x2 s
    rw [s_Ne_become_15_5_L26]
    refine jF_ite ?_ ?_
    · exact s_Ne_become_15_5_L136_fr _ _ _
    · refine jF_ldi (fun _ => ?_)
      refine jF_sti (by decide) (fun _ => ?_)
      refine jF_ldi (fun _ => ?_)
      refine jF_sti (by decide) (fun _ => ?_)
      refine jF_ldi (fun _ => ?_)
      refine jF_sti (by decide) (fun _ => ?_)
      refine jF_ldi (fun _ => ?_)
      refine jF_sti (by decide) (fun _ => ?_)
      refine jF_ldi (fun _ => ?_)
      refine jF_sti (by decide) (fun _ => ?_)
      refine jF_ldi (fun _ => ?_)
      refine jF_sti (by decide) (fun _ => ?_)
      refine jF_ldl (fun _ => ?_)
      refine jF_stl (by decide) (fun _ => ?_)
      refine jF_ldl (fun _ => ?_)
      refine jF_stl (by decide) (fun _ => ?_)
      exact ih _ _
theorem s_Ne_become_15_5_fr (s : jm_M) : jm_Fr ([16, 17, 18, 19, 20, 21, 22, 23, 24], [(15, 0), (15, 10), (15, 11)]) s (s_Ne_become_15_5 s) id := by
  unfold s_Ne_become_15_5
  refine jF_evi (by decide) (fun _ => ?_)
  refine jF_evi (by decide) (fun _ => ?_)
  refine jF_evl (by decide) (fun _ => ?_)
  exact s_Ne_become_15_5_L26_fr _ _ _
theorem s_X_lay_fr (s : jm_M) : jm_Fr ([4, 6, 7, 8, 9, 10, 11, 12, 13, 14, 16, 17, 18, 19, 20, 21, 22, 23, 24], [(1, 9), (3, 1), (3, 2), (3, 3), (3, 4), (3, 5), (3, 6), (5, 0), (5, 10), (5, 11), (15, 0), (15, 10), (15, 11)]) s (s_X_lay s) Prod.snd := by
  unfold s_X_lay
  refine jF_b2 (s_Re_firstFault_3_2_5_fr _ _) (by decide) (fun _ _ => ?_)
  refine jF_ite ?_ ?_
  · refine jF_bv (s_Ne_become_15_5_fr _) (by decide) (fun _ => ?_)
    refine jF_evi (by decide) (fun _ => ?_)
    exact jF_some rfl
  · exact jF_some rfl
theorem s_Z_copy_L150_fr : ∀ (n : Nat) (x1 : Int32) (x2 : Int32) (x3 : Int32) (s : jm_M), jm_Fr ([61, 62, 63, 64, 65, 66, 67, 68], []) s (s_Z_copy_L150 n x1 x2 x3 s) id := by
  intro n
  induction n with
  | zero => intro x1 x2 x3 s; exact jF_none
  | succ n ih =>
    intro x1 x2 x3 s
    rw [s_Z_copy_L150]
    refine jF_ite ?_ ?_
    · exact jF_some rfl
    · refine jF_ldi (fun _ => ?_)
      refine jF_sti (by decide) (fun _ => ?_)
      exact ih _ _ _ _
theorem s_Z_copy_L26_fr : ∀ (n : Nat) (x1 : Int32) (x2 : Int32) (x3 : Int32) (s : jm_M), jm_Fr ([61, 62, 63, 64, 65, 66, 67, 68], []) s (s_Z_copy_L26 n x1 x2 x3 s) id := by
  intro n
  induction n with
  | zero => intro x1 x2 x3 s; exact jF_none
  | succ n ih =>
    intro x1 x2 x3 s
    rw [s_Z_copy_L26]
    refine jF_ite ?_ ?_
    · exact s_Z_copy_L150_fr _ _ _ _ _
    · refine jF_ldi (fun _ => ?_)
      refine jF_sti (by decide) (fun _ => ?_)
      refine jF_ldi (fun _ => ?_)
      refine jF_sti (by decide) (fun _ => ?_)
      refine jF_ldi (fun _ => ?_)
      refine jF_sti (by decide) (fun _ => ?_)
      refine jF_ldi (fun _ => ?_)
      refine jF_sti (by decide) (fun _ => ?_)
      refine jF_ldi (fun _ => ?_)
      refine jF_sti (by decide) (fun _ => ?_)
      exact ih _ _ _ _
theorem s_Z_copy_fr (s : jm_M) (a0 : Int32) (a1 : Int32) : jm_Fr ([61, 62, 63, 64, 65, 66, 67, 68], []) s (s_Z_copy s a0 a1) id := by
  unfold s_Z_copy
  refine jF_ldi (fun _ => ?_)
  refine jF_sti (by decide) (fun _ => ?_)
  refine jF_ldi (fun _ => ?_)
  refine jF_sti (by decide) (fun _ => ?_)
  exact s_Z_copy_L26_fr _ _ _ _ _
theorem s_Z_lay_L27_fr : ∀ (n : Nat) (x1 : Int32) (s : jm_M), jm_Fr ([61, 62, 63, 64, 65, 66, 67, 68, 69, 70, 73], [(59, 15), (59, 17), (59, 18), (59, 19)]) s (s_Z_lay_L27 n x1 s) Prod.snd := by
  intro n
  induction n with
  | zero => intro x1 s; exact jF_none
  | succ n ih =>
    intro x1 s
    rw [s_Z_lay_L27]
    refine jF_ite ?_ ?_
    · refine jF_ldi (fun _ => ?_)
      exact jF_some rfl
    · refine jF_sti (by decide) (fun _ => ?_)
      exact ih _ _
theorem s_Z_lay_fr (s : jm_M) : jm_Fr ([61, 62, 63, 64, 65, 66, 67, 68, 69, 70, 73], [(59, 15), (59, 17), (59, 18), (59, 19)]) s (s_Z_lay s) Prod.snd := by
  unfold s_Z_lay
  refine jF_b2 (s_Z_readAll_fr _) (by decide) (fun _ _ => ?_)
  refine jF_ite ?_ ?_
  · refine jF_bv (s_Z_copy_fr _ _ _) (by decide) (fun _ => ?_)
    refine jF_sti (by decide) (fun _ => ?_)
    exact s_Z_lay_L27_fr _ _ _
  · exact jF_some rfl
theorem s_X_ship_fr (s : jm_M) (a0 : Int32) (a1 : Int32) (a2 : Int32) : jm_Fr ([], [(1, 9), (15, 10), (15, 11)]) s (s_X_ship s a0 a1 a2) Prod.snd := by
  unfold s_X_ship
  refine jF_bp (fun _ => ?_)
  refine jF_ite ?_ ?_
  · refine jF_bp (fun _ => ?_)
    refine jF_ite ?_ ?_
    · exact jF_some rfl
    · refine jF_bp (fun _ => ?_)
      refine jF_ite ?_ ?_
      · exact jF_some rfl
      · refine jF_ite ?_ ?_
        · refine jF_evi (by decide) (fun _ => ?_)
          refine jF_bp (fun _ => ?_)
          refine jF_evl (by decide) (fun _ => ?_)
          refine jF_evi (by decide) (fun _ => ?_)
          exact jF_some rfl
        · exact jF_some rfl
  · exact jF_some rfl
theorem s_Z_ship_fr (s : jm_M) (a0 : Int32) (a1 : Int32) (a2 : Int32) : jm_Fr ([69], []) s (s_Z_ship s a0 a1 a2) Prod.snd := by
  unfold s_Z_ship
  refine jF_ite ?_ ?_
  · exact jF_some rfl
  · refine jF_bp (fun _ => ?_)
    refine jF_ite ?_ ?_
    · refine jF_bp (fun _ => ?_)
      refine jF_ite ?_ ?_
      · exact jF_some rfl
      · refine jF_bp (fun _ => ?_)
        refine jF_ite ?_ ?_
        · exact jF_some rfl
        · refine jF_sti (by decide) (fun _ => ?_)
          refine jF_sti (by decide) (fun _ => ?_)
          refine jF_sti (by decide) (fun _ => ?_)
          exact jF_some rfl
    · exact jF_some rfl
theorem s_Ni_playMinute_45_15_L2_fr : ∀ (n : Nat) (x2 : Int32) (x3 : Int32) (s : jm_M), jm_Fr ([46, 47], []) s (s_Ni_playMinute_45_15_L2 n x2 x3 s) id := by
  intro n
  induction n with
  | zero => intro x2 x3 s; exact jF_none
  | succ n ih =>
    intro x2 x3 s
    rw [s_Ni_playMinute_45_15_L2]
    refine jF_ite ?_ ?_
    · exact jF_some rfl
    · refine jF_ldi (fun _ => ?_)
      refine jF_ite ?_ ?_
      · exact ih _ _ _
      · refine jF_bp (fun _ => ?_)
        refine jF_ite ?_ ?_
        · exact ih _ _ _
        · refine jF_ldl (fun _ => ?_)
          refine jF_stl (by decide) (fun _ => ?_)
          refine jF_ldi (fun _ => ?_)
          refine jF_sti (by decide) (fun _ => ?_)
          exact ih _ _ _
theorem s_Ni_playMinute_45_15_fr (s : jm_M) (a1 : Int32) : jm_Fr ([46, 47], []) s (s_Ni_playMinute_45_15 s a1) id := by
  unfold s_Ni_playMinute_45_15
  exact s_Ni_playMinute_45_15_L2_fr _ _ _ _
theorem s_Ni_play_45_15_L41_fr : ∀ (n : Nat) (x2 : Int32) (s : jm_M), jm_Fr ([46, 47], [(45, 1)]) s (s_Ni_play_45_15_L41 n x2 s) id := by
  intro n
  induction n with
  | zero => intro x2 s; exact jF_none
  | succ n ih =>
    intro x2 s
    rw [s_Ni_play_45_15_L41]
    refine jF_ite ?_ ?_
    · exact jF_some rfl
    · refine jF_bv (s_Ni_playMinute_45_15_fr _ _) (by decide) (fun _ => ?_)
      refine jF_ite ?_ ?_
      · refine jF_bp (fun _ => ?_)
        refine jF_ite ?_ ?_
        · exact ih _ _
        · refine jF_evi (by decide) (fun _ => ?_)
          exact ih _ _
      · exact ih _ _
theorem s_Ni_play_45_15_L8_fr : ∀ (n : Nat) (x2 : Int32) (s : jm_M), jm_Fr ([46, 47], [(45, 1)]) s (s_Ni_play_45_15_L8 n x2 s) id := by
  intro n
  induction n with
  | zero => intro x2 s; exact jF_none
  | succ n ih =>
    intro x2 s
    rw [s_Ni_play_45_15_L8]
    refine jF_ite ?_ ?_
    · exact s_Ni_play_45_15_L41_fr _ _ _
    · refine jF_stl (by decide) (fun _ => ?_)
      refine jF_ldi (fun _ => ?_)
      refine jF_sti (by decide) (fun _ => ?_)
      exact ih _ _
theorem s_Ni_play_45_15_fr (s : jm_M) : jm_Fr ([46, 47], [(45, 1)]) s (s_Ni_play_45_15 s) id := by
  unfold s_Ni_play_45_15
  refine jF_evi (by decide) (fun _ => ?_)
  exact s_Ni_play_45_15_L8_fr _ _ _
theorem s_X_playNight_fr (s : jm_M) : jm_Fr ([46, 47], [(1, 9), (45, 1)]) s (s_X_playNight s) id := by
  unfold s_X_playNight
  refine jF_ite ?_ ?_
  · refine jF_bv (s_Ni_play_45_15_fr _) (by decide) (fun _ => ?_)
    refine jF_evi (by decide) (fun _ => ?_)
    exact jF_some rfl
  · exact jF_some rfl
theorem s_X_burns_fr (s : jm_M) (a0 : Int32) (a1 : Int32) : jm_Fr ([46, 47], [(1, 9), (45, 1)]) s (s_X_burns s a0 a1) Prod.snd := by
  unfold s_X_burns
  refine jF_bp (fun _ => ?_)
  refine jF_ite ?_ ?_
  · exact jF_some rfl
  · refine jF_bp (fun _ => ?_)
    refine jF_ite ?_ ?_
    · exact jF_some rfl
    · refine jF_bv (s_X_playNight_fr _) (by decide) (fun _ => ?_)
      refine jF_bp (fun _ => ?_)
      refine jF_ite ?_ ?_
      · exact jF_some rfl
      · exact jF_some rfl
theorem s_Z_layNight_J123_fr {k20 : Int32 → jm_M → Option jm_M} (hk20 : ∀ (x1 : Int32) (s : jm_M), jm_Fr ([74, 75], []) s (k20 x1 s) id) {k60 : Int32 → Int32 → Int32 → jm_M → Option jm_M} (hk60 : ∀ (x1 : Int32) (x2 : Int32) (x3 : Int32) (s : jm_M), jm_Fr ([74, 75], []) s (k60 x1 x2 x3 s) id) (x1 : Int32) (x2 : Int32) (x3 : Int32) (y0 : Int32) (y1 : Int32) (y2 : Int32) (s : jm_M) : jm_Fr ([74, 75], []) s (s_Z_layNight_J123 k20 k60 x1 x2 x3 y0 y1 y2 s) id := by
  unfold s_Z_layNight_J123
  refine jF_sti (by decide) (fun _ => ?_)
  exact hk60 _ _ _ _
theorem s_Z_layNight_L93_fr {k20 : Int32 → jm_M → Option jm_M} (hk20 : ∀ (x1 : Int32) (s : jm_M), jm_Fr ([74, 75], []) s (k20 x1 s) id) : ∀ (n : Nat) (x1 : Int32) (x2 : Int32) (x3 : Int32) (s : jm_M), jm_Fr ([74, 75], []) s (s_Z_layNight_L93 k20 n x1 x2 x3 s) id := by
  intro n
  induction n with
  | zero => intro x1 x2 x3 s; exact jF_none
  | succ n ih =>
    intro x1 x2 x3 s
    rw [s_Z_layNight_L93]
    refine jF_ldi (fun _ => ?_)
    refine jF_ite ?_ ?_
    · exact hk20 _ _
    · refine jF_ldi (fun _ => ?_)
      refine jF_bp (fun _ => ?_)
      refine jF_ite ?_ ?_
      · exact s_Z_layNight_J123_fr hk20 ih _ _ _ _ _ _ _
      · exact s_Z_layNight_J123_fr hk20 ih _ _ _ _ _ _ _
theorem s_Z_layNight_L49_fr {k20 : Int32 → jm_M → Option jm_M} (hk20 : ∀ (x1 : Int32) (s : jm_M), jm_Fr ([74, 75], []) s (k20 x1 s) id) : ∀ (n : Nat) (x1 : Int32) (x2 : Int32) (x3 : Int32) (s : jm_M), jm_Fr ([74, 75], []) s (s_Z_layNight_L49 k20 n x1 x2 x3 s) id := by
  intro n
  induction n with
  | zero => intro x1 x2 x3 s; exact jF_none
  | succ n ih =>
    intro x1 x2 x3 s
    rw [s_Z_layNight_L49]
    refine jF_ldi (fun _ => ?_)
    refine jF_ite ?_ ?_
    · refine jF_sti (by decide) (fun _ => ?_)
      exact s_Z_layNight_L93_fr hk20 _ _ _ _ _
    · refine jF_bp (fun _ => ?_)
      refine jF_ite ?_ ?_
      · refine jF_vi (fun _ => ?_)
        exact ih _ _ _ _
      · refine jF_vi (fun _ => ?_)
        exact ih _ _ _ _
theorem s_Z_layNight_L32_fr : ∀ (n : Nat) (x1 : Int32) (s : jm_M), jm_Fr ([74, 75], []) s (s_Z_layNight_L32 n x1 s) id := by
  intro n
  induction n with
  | zero => intro x1 s; exact jF_none
  | succ n ih =>
    intro x1 s
    rw [s_Z_layNight_L32]
    refine jF_ite ?_ ?_
    · exact jF_some rfl
    · refine jF_sti (by decide) (fun _ => ?_)
      exact s_Z_layNight_L49_fr ih _ _ _ _ _
theorem s_Z_layNight_L2_fr : ∀ (n : Nat) (x1 : Int32) (s : jm_M), jm_Fr ([74, 75], []) s (s_Z_layNight_L2 n x1 s) id := by
  intro n
  induction n with
  | zero => intro x1 s; exact jF_none
  | succ n ih =>
    intro x1 s
    rw [s_Z_layNight_L2]
    refine jF_ldi (fun _ => ?_)
    refine jF_ite ?_ ?_
    · exact s_Z_layNight_L32_fr _ _ _
    · refine jF_ldi (fun _ => ?_)
      refine jF_sti (by decide) (fun _ => ?_)
      exact ih _ _
theorem s_Z_layNight_fr (s : jm_M) : jm_Fr ([74, 75], []) s (s_Z_layNight s) id := by
  unfold s_Z_layNight
  exact s_Z_layNight_L2_fr _ _ _
theorem s_Z_burns_fr (s : jm_M) (a0 : Int32) (a1 : Int32) : jm_Fr ([74, 75], []) s (s_Z_burns s a0 a1) Prod.snd := by
  unfold s_Z_burns
  refine jF_bp (fun _ => ?_)
  refine jF_ite ?_ ?_
  · exact jF_some rfl
  · refine jF_bp (fun _ => ?_)
    refine jF_ite ?_ ?_
    · exact jF_some rfl
    · refine jF_bv (s_Z_layNight_fr _) (by decide) (fun _ => ?_)
      refine jF_ldi (fun _ => ?_)
      exact jF_some rfl
theorem s_X_seen_L17_fr : ∀ (n : Nat) (x1 : Int32) (x2 : Int32) (x3 : Int32) (s : jm_M), jm_Fr ([46, 47], [(1, 9), (45, 1)]) s (s_X_seen_L17 n x1 x2 x3 s) Prod.snd := by
  intro n
  induction n with
  | zero => intro x1 x2 x3 s; exact jF_none
  | succ n ih =>
    intro x1 x2 x3 s
    rw [s_X_seen_L17]
    refine jF_ite ?_ ?_
    · exact jF_some rfl
    · refine jF_bp (fun _ => ?_)
      refine jF_ite ?_ ?_
      · exact ih _ _ _ _
      · refine jF_vi (fun _ => ?_)
        exact ih _ _ _ _
theorem s_X_seen_fr (s : jm_M) (a0 : Int32) : jm_Fr ([46, 47], [(1, 9), (45, 1)]) s (s_X_seen s a0) Prod.snd := by
  unfold s_X_seen
  refine jF_bp (fun _ => ?_)
  refine jF_ite ?_ ?_
  · exact jF_some rfl
  · refine jF_bv (s_X_playNight_fr _) (by decide) (fun _ => ?_)
    exact s_X_seen_L17_fr _ _ _ _ _
theorem s_Z_seen_fr (s : jm_M) (a0 : Int32) : jm_Fr ([74, 75], []) s (s_Z_seen s a0) Prod.snd := by
  unfold s_Z_seen
  refine jF_bp (fun _ => ?_)
  refine jF_ite ?_ ?_
  · exact jF_some rfl
  · refine jF_bv (s_Z_layNight_fr _) (by decide) (fun _ => ?_)
    refine jF_ldi (fun _ => ?_)
    exact jF_some rfl
theorem s_X_wood_fr (s : jm_M) (a0 : Int32) : jm_Fr ([46, 47], [(1, 9), (45, 1)]) s (s_X_wood s a0) Prod.snd := by
  unfold s_X_wood
  refine jF_bp (fun _ => ?_)
  refine jF_ite ?_ ?_
  · exact jF_some rfl
  · refine jF_bv (s_X_playNight_fr _) (by decide) (fun _ => ?_)
    refine jF_ldi (fun _ => ?_)
    exact jF_some rfl
theorem s_Z_wood_fr (s : jm_M) (a0 : Int32) : jm_Fr ([74, 75], []) s (s_Z_wood s a0) Prod.snd := by
  unfold s_Z_wood
  refine jF_bp (fun _ => ?_)
  refine jF_ite ?_ ?_
  · exact jF_some rfl
  · refine jF_bv (s_Z_layNight_fr _) (by decide) (fun _ => ?_)
    refine jF_ldi (fun _ => ?_)
    exact jF_some rfl
theorem s_X_alarm_fr (s : jm_M) : jm_Fr ([46, 47], [(1, 9), (45, 1)]) s (s_X_alarm s) Prod.snd := by
  unfold s_X_alarm
  refine jF_bp (fun _ => ?_)
  refine jF_ite ?_ ?_
  · exact jF_some rfl
  · refine jF_bv (s_X_playNight_fr _) (by decide) (fun _ => ?_)
    exact jF_some rfl
theorem s_Z_alarm_L20_fr : ∀ (n : Nat) (x1 : Int32) (x2 : Int32) (s : jm_M), jm_Fr ([74, 75], []) s (s_Z_alarm_L20 n x1 x2 s) Prod.snd := by
  intro n
  induction n with
  | zero => intro x1 x2 s; exact jF_none
  | succ n ih =>
    intro x1 x2 s
    rw [s_Z_alarm_L20]
    refine jF_ite ?_ ?_
    · exact jF_some rfl
    · refine jF_bp (fun _ => ?_)
      refine jF_ite ?_ ?_
      · exact ih _ _ _
      · refine jF_bp (fun _ => ?_)
        refine jF_ite ?_ ?_
        · exact jF_some rfl
        · exact ih _ _ _
theorem s_Z_alarm_fr (s : jm_M) : jm_Fr ([74, 75], []) s (s_Z_alarm s) Prod.snd := by
  unfold s_Z_alarm
  refine jF_bp (fun _ => ?_)
  refine jF_ite ?_ ?_
  · exact jF_some rfl
  · refine jF_bv (s_Z_layNight_fr _) (by decide) (fun _ => ?_)
    exact s_Z_alarm_L20_fr _ _ _ _
theorem s_Co_study_48_15_L24_fr : ∀ (n : Nat) (x2 : Int32) (s : jm_M), jm_Fr ([49, 50, 51], [(48, 2), (48, 3), (48, 4)]) s (s_Co_study_48_15_L24 n x2 s) id := by
  intro n
  induction n with
  | zero => intro x2 s; exact jF_none
  | succ n ih =>
    intro x2 s
    rw [s_Co_study_48_15_L24]
    refine jF_ite ?_ ?_
    · exact jF_some rfl
    · refine jF_ldi (fun _ => ?_)
      refine jF_sti (by decide) (fun _ => ?_)
      refine jF_ldi (fun _ => ?_)
      refine jF_sti (by decide) (fun _ => ?_)
      refine jF_ldi (fun _ => ?_)
      refine jF_sti (by decide) (fun _ => ?_)
      refine jF_ldi (fun _ => ?_)
      refine jF_ite ?_ ?_
      · refine jF_evi (by decide) (fun _ => ?_)
        exact ih _ _
      · exact ih _ _
theorem s_Co_study_48_15_fr (s : jm_M) : jm_Fr ([49, 50, 51], [(48, 2), (48, 3), (48, 4)]) s (s_Co_study_48_15 s) id := by
  unfold s_Co_study_48_15
  refine jF_evi (by decide) (fun _ => ?_)
  refine jF_bp (fun _ => ?_)
  refine jF_evi (by decide) (fun _ => ?_)
  refine jF_bp (fun _ => ?_)
  refine jF_evi (by decide) (fun _ => ?_)
  exact s_Co_study_48_15_L24_fr _ _ _
theorem s_X_falseBy_fr (s : jm_M) (a0 : Int32) : jm_Fr ([49, 50, 51], [(48, 2), (48, 3), (48, 4)]) s (s_X_falseBy s a0) Prod.snd := by
  unfold s_X_falseBy
  refine jF_bp (fun _ => ?_)
  refine jF_ite ?_ ?_
  · refine jF_bp (fun _ => ?_)
    refine jF_ite ?_ ?_
    · exact jF_some rfl
    · refine jF_bv (s_Co_study_48_15_fr _) (by decide) (fun _ => ?_)
      refine jF_bp (fun _ => ?_)
      refine jF_ite ?_ ?_
      · exact jF_some rfl
      · exact jF_some rfl
  · exact jF_some rfl
theorem s_Z_asTold_J39_fr {k5 : Int32 → jm_M → Option jm_M} (hk5 : ∀ (x1 : Int32) (s : jm_M), jm_Fr ([], [(59, 22), (59, 23), (59, 24), (59, 25), (59, 26)]) s (k5 x1 s) id) (x1 : Int32) (y0 : Int32) (y1 : Int32) (s : jm_M) : jm_Fr ([], [(59, 22), (59, 23), (59, 24), (59, 25), (59, 26)]) s (s_Z_asTold_J39 k5 x1 y0 y1 s) id := by
  unfold s_Z_asTold_J39
  refine jF_evi (by decide) (fun _ => ?_)
  exact hk5 _ _
theorem s_Z_asTold_L7_fr : ∀ (n : Nat) (x1 : Int32) (s : jm_M), jm_Fr ([], [(59, 22), (59, 23), (59, 24), (59, 25), (59, 26)]) s (s_Z_asTold_L7 n x1 s) id := by
  intro n
  induction n with
  | zero => intro x1 s; exact jF_none
  | succ n ih =>
    intro x1 s
    rw [s_Z_asTold_L7]
    refine jF_ldi (fun _ => ?_)
    refine jF_ite ?_ ?_
    · refine jF_evi (by decide) (fun _ => ?_)
      refine jF_evi (by decide) (fun _ => ?_)
      refine jF_evi (by decide) (fun _ => ?_)
      refine jF_evi (by decide) (fun _ => ?_)
      exact jF_some rfl
    · refine jF_ldi (fun _ => ?_)
      refine jF_ite ?_ ?_
      · exact s_Z_asTold_J39_fr ih _ _ _ _
      · exact s_Z_asTold_J39_fr ih _ _ _ _
theorem s_Z_asTold_fr (s : jm_M) : jm_Fr ([], [(59, 22), (59, 23), (59, 24), (59, 25), (59, 26)]) s (s_Z_asTold s) id := by
  unfold s_Z_asTold
  refine jF_evi (by decide) (fun _ => ?_)
  exact s_Z_asTold_L7_fr _ _ _
theorem s_Z_kindle_J31_fr {k2 : Int32 → Int32 → Int32 → jm_M → Option jm_M} (hk2 : ∀ (x1 : Int32) (x2 : Int32) (x3 : Int32) (s : jm_M), jm_Fr ([76], []) s (k2 x1 x2 x3 s) id) (x1 : Int32) (x2 : Int32) (x3 : Int32) (y0 : Int32) (y1 : Int32) (s : jm_M) : jm_Fr ([76], []) s (s_Z_kindle_J31 k2 x1 x2 x3 y0 y1 s) id := by
  unfold s_Z_kindle_J31
  refine jF_sti (by decide) (fun _ => ?_)
  exact hk2 _ _ _ _
theorem s_Z_kindle_L2_fr : ∀ (n : Nat) (x1 : Int32) (x2 : Int32) (x3 : Int32) (s : jm_M), jm_Fr ([76], []) s (s_Z_kindle_L2 n x1 x2 x3 s) id := by
  intro n
  induction n with
  | zero => intro x1 x2 x3 s; exact jF_none
  | succ n ih =>
    intro x1 x2 x3 s
    rw [s_Z_kindle_L2]
    refine jF_ldi (fun _ => ?_)
    refine jF_ite ?_ ?_
    · exact jF_some rfl
    · refine jF_bp (fun _ => ?_)
      refine jF_ite ?_ ?_
      · exact s_Z_kindle_J31_fr ih _ _ _ _ _ _
      · exact s_Z_kindle_J31_fr ih _ _ _ _ _ _
theorem s_Z_kindle_fr (s : jm_M) (a0 : Int32) (a1 : Int32) : jm_Fr ([76], []) s (s_Z_kindle s a0 a1) id := by
  unfold s_Z_kindle
  exact s_Z_kindle_L2_fr _ _ _ _ _
theorem s_Z_together_J130_fr {k4 : Int32 → Int32 → Int32 → jm_M → Option (Int32 × jm_M)} (hk4 : ∀ (x1 : Int32) (x2 : Int32) (x3 : Int32) (s : jm_M), jm_Fr ([77], []) s (k4 x1 x2 x3 s) Prod.snd) (x1 : Int32) (x2 : Int32) (x3 : Int32) (x5 : Int32) (s : jm_M) : jm_Fr ([77], []) s (s_Z_together_J130 k4 x1 x2 x3 x5 s) Prod.snd := by
  unfold s_Z_together_J130
  refine jF_ldi (fun _ => ?_)
  refine jF_sti (by decide) (fun _ => ?_)
  exact hk4 _ _ _ _
theorem s_Z_together_L85_fr {k4 : Int32 → Int32 → Int32 → jm_M → Option (Int32 × jm_M)} (hk4 : ∀ (x1 : Int32) (x2 : Int32) (x3 : Int32) (s : jm_M), jm_Fr ([77], []) s (k4 x1 x2 x3 s) Prod.snd) : ∀ (n : Nat) (x1 : Int32) (x2 : Int32) (x3 : Int32) (x5 : Int32) (s : jm_M), jm_Fr ([77], []) s (s_Z_together_L85 k4 n x1 x2 x3 x5 s) Prod.snd := by
  intro n
  induction n with
  | zero => intro x1 x2 x3 x5 s; exact jF_none
  | succ n ih =>
    intro x1 x2 x3 x5 s
    rw [s_Z_together_L85]
    refine jF_ite ?_ ?_
    · exact s_Z_together_J130_fr hk4 _ _ _ _ _
    · refine jF_ldi (fun _ => ?_)
      refine jF_ldi (fun _ => ?_)
      refine jF_ite ?_ ?_
      · exact s_Z_together_J130_fr hk4 _ _ _ _ _
      · refine jF_ldi (fun _ => ?_)
        refine jF_sti (by decide) (fun _ => ?_)
        exact ih _ _ _ _ _
theorem s_Z_together_J51_fr {k4 : Int32 → Int32 → Int32 → jm_M → Option (Int32 × jm_M)} (hk4 : ∀ (x1 : Int32) (x2 : Int32) (x3 : Int32) (s : jm_M), jm_Fr ([77], []) s (k4 x1 x2 x3 s) Prod.snd) (x1 : Int32) (x2 : Int32) (x3 : Int32) (y0 : Int32) (s : jm_M) : jm_Fr ([77], []) s (s_Z_together_J51 k4 x1 x2 x3 y0 s) Prod.snd := by
  unfold s_Z_together_J51
  refine jF_ldi (fun _ => ?_)
  refine jF_bp (fun _ => ?_)
  refine jF_ite ?_ ?_
  · exact hk4 _ _ _ _
  · refine jF_ite ?_ ?_
    · refine jF_ldi (fun _ => ?_)
      refine jF_ite ?_ ?_
      · exact hk4 _ _ _ _
      · exact s_Z_together_L85_fr hk4 _ _ _ _ _ _
    · exact hk4 _ _ _ _
theorem s_Z_together_J30_fr {k4 : Int32 → Int32 → Int32 → jm_M → Option (Int32 × jm_M)} (hk4 : ∀ (x1 : Int32) (x2 : Int32) (x3 : Int32) (s : jm_M), jm_Fr ([77], []) s (k4 x1 x2 x3 s) Prod.snd) (x1 : Int32) (x2 : Int32) (x3 : Int32) (s : jm_M) : jm_Fr ([77], []) s (s_Z_together_J30 k4 x1 x2 x3 s) Prod.snd := by
  unfold s_Z_together_J30
  refine jF_ite ?_ ?_
  · refine jF_ite ?_ ?_
    · exact s_Z_together_J51_fr hk4 _ _ _ _ _
    · exact s_Z_together_J51_fr hk4 _ _ _ _ _
  · exact s_Z_together_J51_fr hk4 _ _ _ _ _
theorem s_Z_together_L4_fr : ∀ (n : Nat) (x1 : Int32) (x2 : Int32) (x3 : Int32) (s : jm_M), jm_Fr ([77], []) s (s_Z_together_L4 n x1 x2 x3 s) Prod.snd := by
  intro n
  induction n with
  | zero => intro x1 x2 x3 s; exact jF_none
  | succ n ih =>
    intro x1 x2 x3 s
    rw [s_Z_together_L4]
    refine jF_ldi (fun _ => ?_)
    refine jF_ite ?_ ?_
    · refine jF_bp (fun _ => ?_)
      refine jF_ite ?_ ?_
      · refine jF_bp (fun _ => ?_)
        refine jF_ldi (fun _ => ?_)
        exact jF_some rfl
      · exact jF_some rfl
    · refine jF_ite ?_ ?_
      · refine jF_ite ?_ ?_
        · exact s_Z_together_J51_fr ih _ _ _ _ _
        · exact s_Z_together_J30_fr ih _ _ _ _
      · exact s_Z_together_J30_fr ih _ _ _ _
theorem s_Z_together_fr (s : jm_M) (a0 : Int32) : jm_Fr ([77], []) s (s_Z_together s a0) Prod.snd := by
  unfold s_Z_together
  exact s_Z_together_L4_fr _ _ _ _ _
theorem s_Z_spread_J71_fr {k2 : Int32 → Int32 → jm_M → Option jm_M} (hk2 : ∀ (x1 : Int32) (x2 : Int32) (s : jm_M), jm_Fr ([76, 77], []) s (k2 x1 x2 s) id) {k8 : Int32 → Int32 → Int32 → jm_M → Option jm_M} (hk8 : ∀ (x1 : Int32) (x2 : Int32) (x3 : Int32) (s : jm_M), jm_Fr ([76, 77], []) s (k8 x1 x2 x3 s) id) (x1 : Int32) (x2 : Int32) (x3 : Int32) (y0 : Int32) (s : jm_M) : jm_Fr ([76, 77], []) s (s_Z_spread_J71 k2 k8 x1 x2 x3 y0 s) id := by
  unfold s_Z_spread_J71
  refine jF_ite ?_ ?_
  · exact hk8 _ _ _ _
  · refine jF_bp (fun _ => ?_)
    refine jF_ldi (fun _ => ?_)
    refine jF_ite ?_ ?_
    · exact hk8 _ _ _ _
    · refine jF_bp (fun _ => ?_)
      refine jF_sti (by decide) (fun _ => ?_)
      exact hk8 _ _ _ _
theorem s_Z_spread_J54_fr {k2 : Int32 → Int32 → jm_M → Option jm_M} (hk2 : ∀ (x1 : Int32) (x2 : Int32) (s : jm_M), jm_Fr ([76, 77], []) s (k2 x1 x2 s) id) {k8 : Int32 → Int32 → Int32 → jm_M → Option jm_M} (hk8 : ∀ (x1 : Int32) (x2 : Int32) (x3 : Int32) (s : jm_M), jm_Fr ([76, 77], []) s (k8 x1 x2 x3 s) id) (x1 : Int32) (x2 : Int32) (x3 : Int32) (y0 : Int32) (s : jm_M) : jm_Fr ([76, 77], []) s (s_Z_spread_J54 k2 k8 x1 x2 x3 y0 s) id := by
  unfold s_Z_spread_J54
  refine jF_ite ?_ ?_
  · exact s_Z_spread_J71_fr hk2 hk8 _ _ _ _ _
  · refine jF_b2 (s_Z_together_fr _ _) (by decide) (fun _ _ => ?_)
    exact s_Z_spread_J71_fr hk2 hk8 _ _ _ _ _
theorem s_Z_spread_L10_fr {k2 : Int32 → Int32 → jm_M → Option jm_M} (hk2 : ∀ (x1 : Int32) (x2 : Int32) (s : jm_M), jm_Fr ([76, 77], []) s (k2 x1 x2 s) id) : ∀ (n : Nat) (x1 : Int32) (x2 : Int32) (x3 : Int32) (s : jm_M), jm_Fr ([76, 77], []) s (s_Z_spread_L10 k2 n x1 x2 x3 s) id := by
  intro n
  induction n with
  | zero => intro x1 x2 x3 s; exact jF_none
  | succ n ih =>
    intro x1 x2 x3 s
    rw [s_Z_spread_L10]
    refine jF_ldi (fun _ => ?_)
    refine jF_ite ?_ ?_
    · exact hk2 _ _ _
    · refine jF_bp (fun _ => ?_)
      refine jF_ite ?_ ?_
      · exact s_Z_spread_J54_fr hk2 ih _ _ _ _ _
      · refine jF_ldi (fun _ => ?_)
        refine jF_ite ?_ ?_
        · exact s_Z_spread_J54_fr hk2 ih _ _ _ _ _
        · refine jF_bp (fun _ => ?_)
          refine jF_ite ?_ ?_
          · exact s_Z_spread_J54_fr hk2 ih _ _ _ _ _
          · exact s_Z_spread_J54_fr hk2 ih _ _ _ _ _
theorem s_Z_spread_L2_fr : ∀ (n : Nat) (x1 : Int32) (x2 : Int32) (s : jm_M), jm_Fr ([76, 77], []) s (s_Z_spread_L2 n x1 x2 s) id := by
  intro n
  induction n with
  | zero => intro x1 x2 s; exact jF_none
  | succ n ih =>
    intro x1 x2 s
    rw [s_Z_spread_L2]
    refine jF_ite ?_ ?_
    · exact jF_some rfl
    · exact s_Z_spread_L10_fr ih _ _ _ _ _
theorem s_Z_spread_fr (s : jm_M) (a0 : Int32) : jm_Fr ([76, 77], []) s (s_Z_spread s a0) id := by
  unfold s_Z_spread
  exact s_Z_spread_L2_fr _ _ _ _
theorem s_Z_isFalse_fr (s : jm_M) (a0 : Int32) : jm_Fr ([76, 77], []) s (s_Z_isFalse s a0) Prod.snd := by
  unfold s_Z_isFalse
  refine jF_bv (s_Z_kindle_fr _ _ _) (by decide) (fun _ => ?_)
  refine jF_bv (s_Z_spread_fr _ _) (by decide) (fun _ => ?_)
  refine jF_bp (fun _ => ?_)
  refine jF_b2 (s_Z_together_fr _ _) (by decide) (fun _ _ => ?_)
  refine jF_ite ?_ ?_
  · exact jF_some rfl
  · exact jF_some rfl
theorem s_Z_falseBy_fr (s : jm_M) (a0 : Int32) : jm_Fr ([76, 77], [(59, 22), (59, 23), (59, 24), (59, 25), (59, 26)]) s (s_Z_falseBy s a0) Prod.snd := by
  unfold s_Z_falseBy
  refine jF_bv (s_Z_asTold_fr _) (by decide) (fun _ => ?_)
  refine jF_ite ?_ ?_
  · exact jF_some rfl
  · refine jF_bp (fun _ => ?_)
    refine jF_ite ?_ ?_
    · refine jF_bp (fun _ => ?_)
      refine jF_ite ?_ ?_
      · exact jF_some rfl
      · refine jF_b2 (s_Z_isFalse_fr _ _) (by decide) (fun _ _ => ?_)
        refine jF_ite ?_ ?_
        · exact jF_some rfl
        · exact jF_some rfl
    · exact jF_some rfl
theorem s_X_falseFor_fr (s : jm_M) (a0 : Int32) (a1 : Int32) : jm_Fr ([49, 50, 51], [(48, 2), (48, 3), (48, 4)]) s (s_X_falseFor s a0 a1) Prod.snd := by
  unfold s_X_falseFor
  refine jF_bp (fun _ => ?_)
  refine jF_ite ?_ ?_
  · exact jF_some rfl
  · refine jF_ite ?_ ?_
    · exact jF_some rfl
    · refine jF_ite ?_ ?_
      · refine jF_bp (fun _ => ?_)
        refine jF_ite ?_ ?_
        · exact jF_some rfl
        · refine jF_bv (s_Co_study_48_15_fr _) (by decide) (fun _ => ?_)
          refine jF_ite ?_ ?_
          · refine jF_bp (fun _ => ?_)
            exact jF_some rfl
          · refine jF_bp (fun _ => ?_)
            refine jF_ite ?_ ?_
            · exact jF_some rfl
            · refine jF_ite ?_ ?_
              · exact jF_some rfl
              · refine jF_bp (fun _ => ?_)
                exact jF_some rfl
      · exact jF_some rfl
theorem s_Z_falseFor_J131_fr (x2 : Int32) (x3 : Int32) (x4 : Int32) (s : jm_M) : jm_Fr ([76, 77], [(59, 22), (59, 23), (59, 24), (59, 25), (59, 26)]) s (s_Z_falseFor_J131 x2 x3 x4 s) Prod.snd := by
  unfold s_Z_falseFor_J131
  refine jF_ite ?_ ?_
  · exact jF_some rfl
  · exact jF_some rfl
theorem s_Z_falseFor_L155_fr : ∀ (n : Nat) (x5 : Int32) (x6 : Int32) (s : jm_M), jm_Fr ([76, 77], [(59, 22), (59, 23), (59, 24), (59, 25), (59, 26)]) s (s_Z_falseFor_L155 n x5 x6 s) Prod.snd := by
  intro n
  induction n with
  | zero => intro x5 x6 s; exact jF_none
  | succ n ih =>
    intro x5 x6 s
    rw [s_Z_falseFor_L155]
    refine jF_ldi (fun _ => ?_)
    refine jF_ite ?_ ?_
    · exact jF_some rfl
    · refine jF_ldi (fun _ => ?_)
      refine jF_ite ?_ ?_
      · refine jF_vi (fun _ => ?_)
        exact ih _ _ _
      · refine jF_vi (fun _ => ?_)
        exact ih _ _ _
theorem s_Z_falseFor_L51_fr : ∀ (n : Nat) (x1 : Int32) (x2 : Int32) (x3 : Int32) (x4 : Int32) (x5 : Int32) (s : jm_M), jm_Fr ([76, 77], [(59, 22), (59, 23), (59, 24), (59, 25), (59, 26)]) s (s_Z_falseFor_L51 n x1 x2 x3 x4 x5 s) Prod.snd := by
  intro n
  induction n with
  | zero => intro x1 x2 x3 x4 x5 s; exact jF_none
  | succ n ih =>
    intro x1 x2 x3 x4 x5 s
    rw [s_Z_falseFor_L51]
    refine jF_ldi (fun _ => ?_)
    refine jF_ite ?_ ?_
    · refine jF_ite ?_ ?_
      · exact s_Z_falseFor_J131_fr _ _ _ _
      · refine jF_ite ?_ ?_
        · exact s_Z_falseFor_J131_fr _ _ _ _
        · refine jF_b2 (s_Z_isFalse_fr _ _) (by decide) (fun _ _ => ?_)
          exact s_Z_falseFor_L155_fr _ _ _ _
    · refine jF_bp (fun _ => ?_)
      refine jF_ite ?_ ?_
      · refine jF_bp (fun _ => ?_)
        refine jF_ite ?_ ?_
        · refine jF_b2 (s_Z_isFalse_fr _ _) (by decide) (fun _ _ => ?_)
          refine jF_ite ?_ ?_
          · exact ih _ _ _ _ _ _
          · refine jF_ite ?_ ?_
            · exact ih _ _ _ _ _ _
            · exact ih _ _ _ _ _ _
        · exact ih _ _ _ _ _ _
      · exact ih _ _ _ _ _ _
theorem s_Z_falseFor_fr (s : jm_M) (a0 : Int32) (a1 : Int32) : jm_Fr ([76, 77], [(59, 22), (59, 23), (59, 24), (59, 25), (59, 26)]) s (s_Z_falseFor s a0 a1) Prod.snd := by
  unfold s_Z_falseFor
  refine jF_bp (fun _ => ?_)
  refine jF_ite ?_ ?_
  · exact jF_some rfl
  · refine jF_bp (fun _ => ?_)
    refine jF_ite ?_ ?_
    · exact jF_some rfl
    · refine jF_bp (fun _ => ?_)
      refine jF_ite ?_ ?_
      · exact jF_some rfl
      · refine jF_bv (s_Z_asTold_fr _) (by decide) (fun _ => ?_)
        exact s_Z_falseFor_L51_fr _ _ _ _ _ _ _
theorem s_Co_spread_L71_fr {k17 : Int32 → Int32 → Int32 → Int32 → Int32 → jm_M → Option (Int32 × jm_M)} (hk17 : ∀ (x3 : Int32) (x4 : Int32) (x5 : Int32) (x6 : Int32) (x7 : Int32) (s : jm_M), jm_Fr ([52], [(48, 9)]) s (k17 x3 x4 x5 x6 x7 s) Prod.snd) : ∀ (n : Nat) (x3 : Int32) (x4 : Int32) (x5 : Int32) (x6 : Int32) (x7 : Int32) (x8 : Int32) (s : jm_M), jm_Fr ([52], [(48, 9)]) s (s_Co_spread_L71 k17 n x3 x4 x5 x6 x7 x8 s) Prod.snd := by
  intro n
  induction n with
  | zero => intro x3 x4 x5 x6 x7 x8 s; exact jF_none
  | succ n ih =>
    intro x3 x4 x5 x6 x7 x8 s
    rw [s_Co_spread_L71]
    refine jF_ite ?_ ?_
    · refine jF_vi (fun _ => ?_)
      exact hk17 _ _ _ _ _ _
    · refine jF_ite ?_ ?_
      · exact ih _ _ _ _ _ _ _
      · refine jF_bp (fun _ => ?_)
        refine jF_ite ?_ ?_
        · exact ih _ _ _ _ _ _ _
        · refine jF_vi (fun _ => ?_)
          refine jF_vi (fun _ => ?_)
          exact ih _ _ _ _ _ _ _
theorem s_Co_spread_L23_fr : ∀ (n : Nat) (x3 : Int32) (x4 : Int32) (x5 : Int32) (x6 : Int32) (x7 : Int32) (s : jm_M), jm_Fr ([52], [(48, 9)]) s (s_Co_spread_L23 n x3 x4 x5 x6 x7 s) Prod.snd := by
  intro n
  induction n with
  | zero => intro x3 x4 x5 x6 x7 s; exact jF_none
  | succ n ih =>
    intro x3 x4 x5 x6 x7 s
    rw [s_Co_spread_L23]
    refine jF_ite ?_ ?_
    · exact jF_some rfl
    · refine jF_ite ?_ ?_
      · exact jF_some rfl
      · refine jF_sti (by decide) (fun _ => ?_)
        refine jF_evi (by decide) (fun _ => ?_)
        refine jF_bp (fun _ => ?_)
        refine jF_ite ?_ ?_
        · exact s_Co_spread_L71_fr ih _ _ _ _ _ _ _ _
        · exact jF_some rfl
theorem s_Co_spread_fr (s : jm_M) (a0 : Int32) (a1 : Int32) (a2 : Int32) : jm_Fr ([52], [(48, 9)]) s (s_Co_spread s a0 a1 a2) Prod.snd := by
  unfold s_Co_spread
  refine jF_vi (fun _ => ?_)
  exact s_Co_spread_L23_fr _ _ _ _ _ _ _
theorem s_Co_trueMinute_fr (s : jm_M) (a0 : Int32) (a1 : Int32) : jm_Fr ([52], [(48, 9)]) s (s_Co_trueMinute s a0 a1) Prod.snd := by
  unfold s_Co_trueMinute
  refine jF_b2 (s_Co_spread_fr _ _ _ _) (by decide) (fun _ _ => ?_)
  exact jF_some rfl
theorem s_X_trueBy_fr (s : jm_M) (a0 : Int32) (a1 : Int32) : jm_Fr ([49, 50, 51, 52], [(48, 2), (48, 3), (48, 4), (48, 9)]) s (s_X_trueBy s a0 a1) Prod.snd := by
  unfold s_X_trueBy
  refine jF_bp (fun _ => ?_)
  refine jF_ite ?_ ?_
  · exact jF_some rfl
  · refine jF_ldi (fun _ => ?_)
    refine jF_ite ?_ ?_
    · refine jF_bp (fun _ => ?_)
      refine jF_ite ?_ ?_
      · refine jF_bp (fun _ => ?_)
        refine jF_ite ?_ ?_
        · exact jF_some rfl
        · refine jF_bv (s_Co_study_48_15_fr _) (by decide) (fun _ => ?_)
          refine jF_b2 (s_Co_trueMinute_fr _ _ _) (by decide) (fun _ _ => ?_)
          exact jF_some rfl
      · exact jF_some rfl
    · exact jF_some rfl
theorem s_Z_alarmBy_fr (s : jm_M) (a0 : Int32) (a1 : Int32) : jm_Fr ([76, 77], []) s (s_Z_alarmBy s a0 a1) Prod.snd := by
  unfold s_Z_alarmBy
  refine jF_bv (s_Z_kindle_fr _ _ _) (by decide) (fun _ => ?_)
  refine jF_bv (s_Z_spread_fr _ _) (by decide) (fun _ => ?_)
  refine jF_bp (fun _ => ?_)
  refine jF_b2 (s_Z_together_fr _ _) (by decide) (fun _ _ => ?_)
  refine jF_ite ?_ ?_
  · exact jF_some rfl
  · refine jF_bp (fun _ => ?_)
    refine jF_bp (fun _ => ?_)
    exact jF_some rfl
theorem s_Z_trueBy_fr (s : jm_M) (a0 : Int32) (a1 : Int32) : jm_Fr ([76, 77], [(59, 22), (59, 23), (59, 24), (59, 25), (59, 26)]) s (s_Z_trueBy s a0 a1) Prod.snd := by
  unfold s_Z_trueBy
  refine jF_bv (s_Z_asTold_fr _) (by decide) (fun _ => ?_)
  refine jF_bp (fun _ => ?_)
  refine jF_ite ?_ ?_
  · exact jF_some rfl
  · refine jF_ldi (fun _ => ?_)
    refine jF_ite ?_ ?_
    · refine jF_ite ?_ ?_
      · exact jF_some rfl
      · refine jF_bp (fun _ => ?_)
        refine jF_ite ?_ ?_
        · refine jF_bp (fun _ => ?_)
          refine jF_ite ?_ ?_
          · refine jF_bp (fun _ => ?_)
            refine jF_ite ?_ ?_
            · exact jF_some rfl
            · refine jF_b2 (s_Z_alarmBy_fr _ _ _) (by decide) (fun _ _ => ?_)
              refine jF_ite ?_ ?_
              · exact jF_some rfl
              · exact jF_some rfl
          · exact jF_some rfl
        · exact jF_some rfl
    · exact jF_some rfl
theorem s_Co_latest_L58_fr {k14 : Int32 → Int32 → Int32 → Int32 → jm_M → Option (Int32 × jm_M)} (hk14 : ∀ (x2 : Int32) (x3 : Int32) (x4 : Int32) (x5 : Int32) (s : jm_M), jm_Fr ([52], [(48, 9)]) s (k14 x2 x3 x4 x5 s) Prod.snd) : ∀ (n : Nat) (x2 : Int32) (x3 : Int32) (x4 : Int32) (x5 : Int32) (x6 : Int32) (x7 : Int32) (s : jm_M), jm_Fr ([52], [(48, 9)]) s (s_Co_latest_L58 k14 n x2 x3 x4 x5 x6 x7 s) Prod.snd := by
  intro n
  induction n with
  | zero => intro x2 x3 x4 x5 x6 x7 s; exact jF_none
  | succ n ih =>
    intro x2 x3 x4 x5 x6 x7 s
    rw [s_Co_latest_L58]
    refine jF_ite ?_ ?_
    · refine jF_bp (fun _ => ?_)
      refine jF_ite ?_ ?_
      · exact jF_some rfl
      · exact hk14 _ _ _ _ _
    · refine jF_ite ?_ ?_
      · exact ih _ _ _ _ _ _ _
      · refine jF_b2 (s_Co_spread_fr _ _ _ _) (by decide) (fun _ _ => ?_)
        refine jF_ite ?_ ?_
        · exact jF_some rfl
        · refine jF_vi (fun _ => ?_)
          exact ih _ _ _ _ _ _ _
theorem s_Co_latest_L23_fr : ∀ (n : Nat) (x2 : Int32) (x3 : Int32) (x4 : Int32) (x5 : Int32) (s : jm_M), jm_Fr ([52], [(48, 9)]) s (s_Co_latest_L23 n x2 x3 x4 x5 s) Prod.snd := by
  intro n
  induction n with
  | zero => intro x2 x3 x4 x5 s; exact jF_none
  | succ n ih =>
    intro x2 x3 x4 x5 s
    rw [s_Co_latest_L23]
    refine jF_ite ?_ ?_
    · exact jF_some rfl
    · refine jF_bp (fun _ => ?_)
      refine jF_ite ?_ ?_
      · refine jF_vi (fun _ => ?_)
        exact s_Co_latest_L58_fr ih _ _ _ _ _ _ _ _
      · exact s_Co_latest_L58_fr ih _ _ _ _ _ _ _ _
theorem s_Co_latest_fr (s : jm_M) (a0 : Int32) : jm_Fr ([52], [(48, 9)]) s (s_Co_latest s a0) Prod.snd := by
  unfold s_Co_latest
  refine jF_bp (fun _ => ?_)
  refine jF_vi (fun _ => ?_)
  exact s_Co_latest_L23_fr _ _ _ _ _ _
theorem s_Co_turnSight_fr (s : jm_M) (a0 : Int32) (a1 : Int32) : jm_Fr ([49], []) s (s_Co_turnSight s a0 a1) id := by
  unfold s_Co_turnSight
  refine jF_ite ?_ ?_
  · exact jF_some rfl
  · refine jF_ite ?_ ?_
    · exact jF_some rfl
    · refine jF_ite ?_ ?_
      · exact jF_some rfl
      · refine jF_ite ?_ ?_
        · exact jF_some rfl
        · refine jF_ldi (fun _ => ?_)
          refine jF_sti (by decide) (fun _ => ?_)
          refine jF_ldi (fun _ => ?_)
          refine jF_sti (by decide) (fun _ => ?_)
          exact jF_some rfl
theorem s_Co_latestWithOneSightGone_L21_fr {k6 : Int32 → Int32 → Int32 → Int32 → jm_M → Option (Int32 × jm_M)} (hk6 : ∀ (x1 : Int32) (x2 : Int32) (x3 : Int32) (x4 : Int32) (s : jm_M), jm_Fr ([49, 52], [(48, 9)]) s (k6 x1 x2 x3 x4 s) Prod.snd) : ∀ (n : Nat) (x1 : Int32) (x2 : Int32) (x3 : Int32) (x4 : Int32) (x5 : Int32) (s : jm_M), jm_Fr ([49, 52], [(48, 9)]) s (s_Co_latestWithOneSightGone_L21 k6 n x1 x2 x3 x4 x5 s) Prod.snd := by
  intro n
  induction n with
  | zero => intro x1 x2 x3 x4 x5 s; exact jF_none
  | succ n ih =>
    intro x1 x2 x3 x4 x5 s
    rw [s_Co_latestWithOneSightGone_L21]
    refine jF_ite ?_ ?_
    · exact hk6 _ _ _ _ _
    · refine jF_ldi (fun _ => ?_)
      refine jF_ite ?_ ?_
      · exact ih _ _ _ _ _ _
      · refine jF_bv (s_Co_turnSight_fr _ _ _) (by decide) (fun _ => ?_)
        refine jF_b2 (s_Co_latest_fr _ _) (by decide) (fun _ _ => ?_)
        refine jF_bv (s_Co_turnSight_fr _ _ _) (by decide) (fun _ => ?_)
        refine jF_ite ?_ ?_
        · exact jF_some rfl
        · refine jF_vi (fun _ => ?_)
          exact ih _ _ _ _ _ _
theorem s_Co_latestWithOneSightGone_L8_fr : ∀ (n : Nat) (x1 : Int32) (x2 : Int32) (x3 : Int32) (x4 : Int32) (s : jm_M), jm_Fr ([49, 52], [(48, 9)]) s (s_Co_latestWithOneSightGone_L8 n x1 x2 x3 x4 s) Prod.snd := by
  intro n
  induction n with
  | zero => intro x1 x2 x3 x4 s; exact jF_none
  | succ n ih =>
    intro x1 x2 x3 x4 s
    rw [s_Co_latestWithOneSightGone_L8]
    refine jF_ite ?_ ?_
    · refine jF_ite ?_ ?_
      · refine jF_b2 (s_Co_latest_fr _ _) (by decide) (fun _ _ => ?_)
        exact jF_some rfl
      · exact jF_some rfl
    · refine jF_vi (fun _ => ?_)
      exact s_Co_latestWithOneSightGone_L21_fr ih _ _ _ _ _ _ _
theorem s_Co_latestWithOneSightGone_fr (s : jm_M) (a0 : Int32) : jm_Fr ([49, 52], [(48, 9)]) s (s_Co_latestWithOneSightGone s a0) Prod.snd := by
  unfold s_Co_latestWithOneSightGone
  exact s_Co_latestWithOneSightGone_L8_fr _ _ _ _ _ _
theorem s_X_late_fr (s : jm_M) (a0 : Int32) (a1 : Int32) : jm_Fr ([49, 50, 51, 52], [(48, 2), (48, 3), (48, 4), (48, 9)]) s (s_X_late s a0 a1) Prod.snd := by
  unfold s_X_late
  refine jF_bp (fun _ => ?_)
  refine jF_ite ?_ ?_
  · exact jF_some rfl
  · refine jF_ite ?_ ?_
    · exact jF_some rfl
    · refine jF_ite ?_ ?_
      · refine jF_bp (fun _ => ?_)
        refine jF_ite ?_ ?_
        · exact jF_some rfl
        · refine jF_bv (s_Co_study_48_15_fr _) (by decide) (fun _ => ?_)
          refine jF_ite ?_ ?_
          · refine jF_b2 (s_Co_latest_fr _ _) (by decide) (fun _ _ => ?_)
            exact jF_some rfl
          · refine jF_b2 (s_Co_latestWithOneSightGone_fr _ _) (by decide) (fun _ _ => ?_)
            exact jF_some rfl
      · exact jF_some rfl
theorem s_Z_latest_L59_fr {k4 : Int32 → Int32 → Int32 → jm_M → Option (Int32 × jm_M)} (hk4 : ∀ (x1 : Int32) (x2 : Int32) (x3 : Int32) (s : jm_M), jm_Fr ([76, 77], []) s (k4 x1 x2 x3 s) Prod.snd) : ∀ (n : Nat) (x1 : Int32) (x2 : Int32) (x3 : Int32) (x4 : Int32) (x5 : Int32) (x6 : Int32) (s : jm_M), jm_Fr ([76, 77], []) s (s_Z_latest_L59 k4 n x1 x2 x3 x4 x5 x6 s) Prod.snd := by
  intro n
  induction n with
  | zero => intro x1 x2 x3 x4 x5 x6 s; exact jF_none
  | succ n ih =>
    intro x1 x2 x3 x4 x5 x6 s
    rw [s_Z_latest_L59]
    refine jF_ite ?_ ?_
    · exact hk4 _ _ _ _
    · refine jF_ite ?_ ?_
      · refine jF_bp (fun _ => ?_)
        refine jF_ite ?_ ?_
        · refine jF_b2 (s_Z_alarmBy_fr _ _ _) (by decide) (fun _ _ => ?_)
          refine jF_ite ?_ ?_
          · exact ih _ _ _ _ _ _ _
          · exact ih _ _ _ _ _ _ _
        · exact ih _ _ _ _ _ _ _
      · exact ih _ _ _ _ _ _ _
theorem s_Z_latest_L4_fr : ∀ (n : Nat) (x1 : Int32) (x2 : Int32) (x3 : Int32) (s : jm_M), jm_Fr ([76, 77], []) s (s_Z_latest_L4 n x1 x2 x3 s) Prod.snd := by
  intro n
  induction n with
  | zero => intro x1 x2 x3 s; exact jF_none
  | succ n ih =>
    intro x1 x2 x3 s
    rw [s_Z_latest_L4]
    refine jF_ldi (fun _ => ?_)
    refine jF_ite ?_ ?_
    · refine jF_ite ?_ ?_
      · exact jF_some rfl
      · exact jF_some rfl
    · refine jF_ldi (fun _ => ?_)
      refine jF_ite ?_ ?_
      · refine jF_bp (fun _ => ?_)
        refine jF_vi (fun _ => ?_)
        refine jF_bp (fun _ => ?_)
        refine jF_ite ?_ ?_
        · refine jF_bp (fun _ => ?_)
          exact s_Z_latest_L59_fr ih _ _ _ _ _ _ _ _
        · exact s_Z_latest_L59_fr ih _ _ _ _ _ _ _ _
      · exact ih _ _ _ _
theorem s_Z_latest_fr (s : jm_M) (a0 : Int32) : jm_Fr ([76, 77], []) s (s_Z_latest s a0) Prod.snd := by
  unfold s_Z_latest
  exact s_Z_latest_L4_fr _ _ _ _ _
theorem s_Z_lateOf_J90_fr (x1 : Int32) (x3 : Int32) (s : jm_M) : jm_Fr ([76, 77], [(59, 25), (59, 26)]) s (s_Z_lateOf_J90 x1 x3 s) Prod.snd := by
  unfold s_Z_lateOf_J90
  refine jF_evi (by decide) (fun _ => ?_)
  refine jF_evi (by decide) (fun _ => ?_)
  refine jF_ite ?_ ?_
  · exact jF_some rfl
  · refine jF_b2 (s_Z_latest_fr _ _) (by decide) (fun _ _ => ?_)
    exact jF_some rfl
theorem s_Z_lateOf_L24_fr {k4 : Int32 → Int32 → Int32 → Int32 → jm_M → Option (Int32 × jm_M)} (hk4 : ∀ (x1 : Int32) (x2 : Int32) (x3 : Int32) (x4 : Int32) (s : jm_M), jm_Fr ([76, 77], [(59, 25), (59, 26)]) s (k4 x1 x2 x3 x4 s) Prod.snd) : ∀ (n : Nat) (x1 : Int32) (x2 : Int32) (x3 : Int32) (x4 : Int32) (x5 : Int32) (s : jm_M), jm_Fr ([76, 77], [(59, 25), (59, 26)]) s (s_Z_lateOf_L24 k4 n x1 x2 x3 x4 x5 s) Prod.snd := by
  intro n
  induction n with
  | zero => intro x1 x2 x3 x4 x5 s; exact jF_none
  | succ n ih =>
    intro x1 x2 x3 x4 x5 s
    rw [s_Z_lateOf_L24]
    refine jF_ite ?_ ?_
    · exact hk4 _ _ _ _ _
    · refine jF_ldi (fun _ => ?_)
      refine jF_bp (fun _ => ?_)
      refine jF_ite ?_ ?_
      · exact ih _ _ _ _ _ _
      · refine jF_evi (by decide) (fun _ => ?_)
        refine jF_evi (by decide) (fun _ => ?_)
        refine jF_b2 (s_Z_latest_fr _ _) (by decide) (fun _ _ => ?_)
        refine jF_ite ?_ ?_
        · exact ih _ _ _ _ _ _
        · exact ih _ _ _ _ _ _
theorem s_Z_lateOf_L5_fr : ∀ (n : Nat) (x1 : Int32) (x2 : Int32) (x3 : Int32) (x4 : Int32) (s : jm_M), jm_Fr ([76, 77], [(59, 25), (59, 26)]) s (s_Z_lateOf_L5 n x1 x2 x3 x4 s) Prod.snd := by
  intro n
  induction n with
  | zero => intro x1 x2 x3 x4 s; exact jF_none
  | succ n ih =>
    intro x1 x2 x3 x4 s
    rw [s_Z_lateOf_L5]
    refine jF_ldi (fun _ => ?_)
    refine jF_ite ?_ ?_
    · exact s_Z_lateOf_J90_fr _ _ _
    · refine jF_ite ?_ ?_
      · exact s_Z_lateOf_L24_fr ih _ _ _ _ _ _ _
      · exact s_Z_lateOf_J90_fr _ _ _
theorem s_Z_lateOf_fr (s : jm_M) (a0 : Int32) (a1 : Int32) : jm_Fr ([76, 77], [(59, 25), (59, 26)]) s (s_Z_lateOf s a0 a1) Prod.snd := by
  unfold s_Z_lateOf
  exact s_Z_lateOf_L5_fr _ _ _ _ _ _
theorem s_Z_late_fr (s : jm_M) (a0 : Int32) (a1 : Int32) : jm_Fr ([76, 77], [(59, 22), (59, 23), (59, 24), (59, 25), (59, 26)]) s (s_Z_late s a0 a1) Prod.snd := by
  unfold s_Z_late
  refine jF_bp (fun _ => ?_)
  refine jF_ite ?_ ?_
  · exact jF_some rfl
  · refine jF_bp (fun _ => ?_)
    refine jF_ite ?_ ?_
    · exact jF_some rfl
    · refine jF_bp (fun _ => ?_)
      refine jF_ite ?_ ?_
      · exact jF_some rfl
      · refine jF_bv (s_Z_asTold_fr _) (by decide) (fun _ => ?_)
        refine jF_b2 (s_Z_lateOf_fr _ _ _) (by decide) (fun _ _ => ?_)
        refine jF_ite ?_ ?_
        · exact jF_some rfl
        · exact jF_some rfl
theorem s_Co_latestIfBorne_fr (s : jm_M) (a0 : Int32) : jm_Fr ([52], [(48, 9)]) s (s_Co_latestIfBorne s a0) Prod.snd := by
  unfold s_Co_latestIfBorne
  refine jF_bp (fun _ => ?_)
  refine jF_vi (fun _ => ?_)
  refine jF_bp (fun _ => ?_)
  refine jF_ite ?_ ?_
  · refine jF_b2 (s_Co_latest_fr _ _) (by decide) (fun _ _ => ?_)
    exact jF_some rfl
  · exact jF_some rfl
theorem s_Co_mostBorne_L5_fr : ∀ (n : Nat) (x1 : Int32) (x2 : Int32) (s : jm_M), jm_Fr ([52], [(48, 9)]) s (s_Co_mostBorne_L5 n x1 x2 s) Prod.snd := by
  intro n
  induction n with
  | zero => intro x1 x2 s; exact jF_none
  | succ n ih =>
    intro x1 x2 s
    rw [s_Co_mostBorne_L5]
    refine jF_ite ?_ ?_
    · exact jF_some rfl
    · refine jF_b2 (s_Co_latestIfBorne_fr _ _) (by decide) (fun _ _ => ?_)
      refine jF_ite ?_ ?_
      · exact jF_some rfl
      · exact ih _ _ _
theorem s_Co_mostBorne_fr (s : jm_M) : jm_Fr ([52], [(48, 9)]) s (s_Co_mostBorne s) Prod.snd := by
  unfold s_Co_mostBorne
  exact s_Co_mostBorne_L5_fr _ _ _ _
theorem s_X_bears_fr (s : jm_M) : jm_Fr ([49, 50, 51, 52], [(48, 2), (48, 3), (48, 4), (48, 9)]) s (s_X_bears s) Prod.snd := by
  unfold s_X_bears
  refine jF_bp (fun _ => ?_)
  refine jF_ite ?_ ?_
  · exact jF_some rfl
  · refine jF_bv (s_Co_study_48_15_fr _) (by decide) (fun _ => ?_)
    refine jF_b2 (s_Co_mostBorne_fr _) (by decide) (fun _ _ => ?_)
    exact jF_some rfl
theorem s_Z_bearsSo_L2_fr : ∀ (n : Nat) (x1 : Int32) (x2 : Int32) (s : jm_M), jm_Fr ([76, 77], []) s (s_Z_bearsSo_L2 n x1 x2 s) Prod.snd := by
  intro n
  induction n with
  | zero => intro x1 x2 s; exact jF_none
  | succ n ih =>
    intro x1 x2 s
    rw [s_Z_bearsSo_L2]
    refine jF_ldi (fun _ => ?_)
    refine jF_ite ?_ ?_
    · refine jF_b2 (s_Z_latest_fr _ _) (by decide) (fun _ _ => ?_)
      refine jF_ite ?_ ?_
      · exact jF_some rfl
      · exact jF_some rfl
    · refine jF_bp (fun _ => ?_)
      refine jF_ite ?_ ?_
      · refine jF_bp (fun _ => ?_)
        refine jF_ite ?_ ?_
        · exact ih _ _ _
        · refine jF_b2 (s_Z_isFalse_fr _ _) (by decide) (fun _ _ => ?_)
          refine jF_ite ?_ ?_
          · exact ih _ _ _
          · exact jF_some rfl
      · exact ih _ _ _
theorem s_Z_bearsSo_fr (s : jm_M) (a0 : Int32) : jm_Fr ([76, 77], []) s (s_Z_bearsSo s a0) Prod.snd := by
  unfold s_Z_bearsSo
  exact s_Z_bearsSo_L2_fr _ _ _ _
theorem s_Z_mostBorne_L5_fr : ∀ (n : Nat) (x1 : Int32) (x2 : Int32) (s : jm_M), jm_Fr ([76, 77], []) s (s_Z_mostBorne_L5 n x1 x2 s) Prod.snd := by
  intro n
  induction n with
  | zero => intro x1 x2 s; exact jF_none
  | succ n ih =>
    intro x1 x2 s
    rw [s_Z_mostBorne_L5]
    refine jF_ite ?_ ?_
    · exact jF_some rfl
    · refine jF_b2 (s_Z_bearsSo_fr _ _) (by decide) (fun _ _ => ?_)
      refine jF_ite ?_ ?_
      · exact ih _ _ _
      · exact ih _ _ _
theorem s_Z_mostBorne_fr (s : jm_M) : jm_Fr ([76, 77], []) s (s_Z_mostBorne s) Prod.snd := by
  unfold s_Z_mostBorne
  exact s_Z_mostBorne_L5_fr _ _ _ _
theorem s_Z_bears_fr (s : jm_M) : jm_Fr ([76, 77], [(59, 22), (59, 23), (59, 24), (59, 25), (59, 26)]) s (s_Z_bears s) Prod.snd := by
  unfold s_Z_bears
  refine jF_bp (fun _ => ?_)
  refine jF_ite ?_ ?_
  · exact jF_some rfl
  · refine jF_bv (s_Z_asTold_fr _) (by decide) (fun _ => ?_)
    refine jF_b2 (s_Z_mostBorne_fr _) (by decide) (fun _ _ => ?_)
    exact jF_some rfl
theorem s_Co_ruleAllBy_L2_fr : ∀ (n : Nat) (x1 : Int32) (x2 : Int32) (x3 : Int32) (s : jm_M), jm_Fr ([50, 51], []) s (s_Co_ruleAllBy_L2 n x1 x2 x3 s) id := by
  intro n
  induction n with
  | zero => intro x1 x2 x3 s; exact jF_none
  | succ n ih =>
    intro x1 x2 x3 s
    rw [s_Co_ruleAllBy_L2]
    refine jF_ite ?_ ?_
    · exact jF_some rfl
    · refine jF_sti (by decide) (fun _ => ?_)
      refine jF_sti (by decide) (fun _ => ?_)
      exact ih _ _ _ _
theorem s_Co_ruleAllBy_fr (s : jm_M) (a0 : Int32) (a1 : Int32) : jm_Fr ([50, 51], []) s (s_Co_ruleAllBy s a0 a1) id := by
  unfold s_Co_ruleAllBy
  exact s_Co_ruleAllBy_L2_fr _ _ _ _ _
theorem s_Co_seekBestRule_J64_fr {k8 : Int32 → Int32 → jm_M → Option jm_M} (hk8 : ∀ (x1 : Int32) (x2 : Int32) (s : jm_M), jm_Fr ([50, 51, 52], [(48, 0), (48, 1), (48, 9)]) s (k8 x1 x2 s) id) {k13 : Int32 → Int32 → Int32 → jm_M → Option jm_M} (hk13 : ∀ (x1 : Int32) (x2 : Int32) (x3 : Int32) (s : jm_M), jm_Fr ([50, 51, 52], [(48, 0), (48, 1), (48, 9)]) s (k13 x1 x2 x3 s) id) (x1 : Int32) (x2 : Int32) (x3 : Int32) (x4 : Int32) (s : jm_M) : jm_Fr ([50, 51, 52], [(48, 0), (48, 1), (48, 9)]) s (s_Co_seekBestRule_J64 k8 k13 x1 x2 x3 x4 s) id := by
  unfold s_Co_seekBestRule_J64
  refine jF_evi (by decide) (fun _ => ?_)
  refine jF_evi (by decide) (fun _ => ?_)
  exact hk13 _ _ _ _
theorem s_Co_seekBestRule_L21_fr {k8 : Int32 → Int32 → jm_M → Option jm_M} (hk8 : ∀ (x1 : Int32) (x2 : Int32) (s : jm_M), jm_Fr ([50, 51, 52], [(48, 0), (48, 1), (48, 9)]) s (k8 x1 x2 s) id) : ∀ (n : Nat) (x1 : Int32) (x2 : Int32) (x3 : Int32) (s : jm_M), jm_Fr ([50, 51, 52], [(48, 0), (48, 1), (48, 9)]) s (s_Co_seekBestRule_L21 k8 n x1 x2 x3 s) id := by
  intro n
  induction n with
  | zero => intro x1 x2 x3 s; exact jF_none
  | succ n ih =>
    intro x1 x2 x3 s
    rw [s_Co_seekBestRule_L21]
    refine jF_ite ?_ ?_
    · exact hk8 _ _ _
    · refine jF_bv (s_Co_ruleAllBy_fr _ _ _) (by decide) (fun _ => ?_)
      refine jF_b2 (s_Co_latestIfBorne_fr _ _) (by decide) (fun _ _ => ?_)
      refine jF_ite ?_ ?_
      · exact ih _ _ _ _
      · refine jF_ite ?_ ?_
        · exact s_Co_seekBestRule_J64_fr hk8 ih _ _ _ _ _
        · refine jF_ite ?_ ?_
          · exact ih _ _ _ _
          · exact s_Co_seekBestRule_J64_fr hk8 ih _ _ _ _ _
theorem s_Co_seekBestRule_L14_fr : ∀ (n : Nat) (x1 : Int32) (x2 : Int32) (s : jm_M), jm_Fr ([50, 51, 52], [(48, 0), (48, 1), (48, 9)]) s (s_Co_seekBestRule_L14 n x1 x2 s) id := by
  intro n
  induction n with
  | zero => intro x1 x2 s; exact jF_none
  | succ n ih =>
    intro x1 x2 s
    rw [s_Co_seekBestRule_L14]
    refine jF_ite ?_ ?_
    · exact jF_some rfl
    · exact s_Co_seekBestRule_L21_fr ih _ _ _ _ _
theorem s_Co_seekBestRule_fr (s : jm_M) (a0 : Int32) : jm_Fr ([50, 51, 52], [(48, 0), (48, 1), (48, 9)]) s (s_Co_seekBestRule s a0) id := by
  unfold s_Co_seekBestRule
  refine jF_evi (by decide) (fun _ => ?_)
  refine jF_evi (by decide) (fun _ => ?_)
  exact s_Co_seekBestRule_L14_fr _ _ _ _
theorem s_X_bestRule_fr (s : jm_M) (a0 : Int32) (a1 : Int32) : jm_Fr ([49, 50, 51, 52], [(48, 0), (48, 1), (48, 2), (48, 3), (48, 4), (48, 9)]) s (s_X_bestRule s a0 a1) Prod.snd := by
  unfold s_X_bestRule
  refine jF_bp (fun _ => ?_)
  refine jF_ite ?_ ?_
  · exact jF_some rfl
  · refine jF_ite ?_ ?_
    · exact jF_some rfl
    · refine jF_ite ?_ ?_
      · refine jF_bp (fun _ => ?_)
        refine jF_ite ?_ ?_
        · exact jF_some rfl
        · refine jF_bv (s_Co_study_48_15_fr _) (by decide) (fun _ => ?_)
          refine jF_bv (s_Co_seekBestRule_fr _ _) (by decide) (fun _ => ?_)
          refine jF_ite ?_ ?_
          · exact jF_some rfl
          · exact jF_some rfl
      · exact jF_some rfl
theorem s_Z_bestRule_J105_fr {k28 : Int32 → Int32 → Int32 → Int32 → Int32 → jm_M → Option (Int32 × jm_M)} (hk28 : ∀ (x1 : Int32) (x2 : Int32) (x3 : Int32) (x4 : Int32) (x5 : Int32) (s : jm_M), jm_Fr ([76, 77], [(59, 22), (59, 23), (59, 24), (59, 25), (59, 26)]) s (k28 x1 x2 x3 x4 x5 s) Prod.snd) {k33 : Int32 → Int32 → Int32 → Int32 → Int32 → Int32 → jm_M → Option (Int32 × jm_M)} (hk33 : ∀ (x1 : Int32) (x2 : Int32) (x3 : Int32) (x4 : Int32) (x5 : Int32) (x6 : Int32) (s : jm_M), jm_Fr ([76, 77], [(59, 22), (59, 23), (59, 24), (59, 25), (59, 26)]) s (k33 x1 x2 x3 x4 x5 x6 s) Prod.snd) (x1 : Int32) (x2 : Int32) (x5 : Int32) (x6 : Int32) (x7 : Int32) (s : jm_M) : jm_Fr ([76, 77], [(59, 22), (59, 23), (59, 24), (59, 25), (59, 26)]) s (s_Z_bestRule_J105 k28 k33 x1 x2 x5 x6 x7 s) Prod.snd := by
  unfold s_Z_bestRule_J105
  refine jF_vi (fun _ => ?_)
  exact hk33 _ _ _ _ _ _ _
theorem s_Z_bestRule_L59_fr {k28 : Int32 → Int32 → Int32 → Int32 → Int32 → jm_M → Option (Int32 × jm_M)} (hk28 : ∀ (x1 : Int32) (x2 : Int32) (x3 : Int32) (x4 : Int32) (x5 : Int32) (s : jm_M), jm_Fr ([76, 77], [(59, 22), (59, 23), (59, 24), (59, 25), (59, 26)]) s (k28 x1 x2 x3 x4 x5 s) Prod.snd) : ∀ (n : Nat) (x1 : Int32) (x2 : Int32) (x3 : Int32) (x4 : Int32) (x5 : Int32) (x6 : Int32) (s : jm_M), jm_Fr ([76, 77], [(59, 22), (59, 23), (59, 24), (59, 25), (59, 26)]) s (s_Z_bestRule_L59 k28 n x1 x2 x3 x4 x5 x6 s) Prod.snd := by
  intro n
  induction n with
  | zero => intro x1 x2 x3 x4 x5 x6 s; exact jF_none
  | succ n ih =>
    intro x1 x2 x3 x4 x5 x6 s
    rw [s_Z_bestRule_L59]
    refine jF_ite ?_ ?_
    · exact hk28 _ _ _ _ _ _
    · refine jF_evi (by decide) (fun _ => ?_)
      refine jF_evi (by decide) (fun _ => ?_)
      refine jF_b2 (s_Z_bearsSo_fr _ _) (by decide) (fun _ _ => ?_)
      refine jF_ite ?_ ?_
      · exact ih _ _ _ _ _ _ _
      · refine jF_b2 (s_Z_latest_fr _ _) (by decide) (fun _ _ => ?_)
        refine jF_ite ?_ ?_
        · exact s_Z_bestRule_J105_fr hk28 ih _ _ _ _ _ _
        · refine jF_ite ?_ ?_
          · exact ih _ _ _ _ _ _ _
          · exact s_Z_bestRule_J105_fr hk28 ih _ _ _ _ _ _
theorem s_Z_bestRule_L50_fr : ∀ (n : Nat) (x1 : Int32) (x2 : Int32) (x3 : Int32) (x4 : Int32) (x5 : Int32) (s : jm_M), jm_Fr ([76, 77], [(59, 22), (59, 23), (59, 24), (59, 25), (59, 26)]) s (s_Z_bestRule_L50 n x1 x2 x3 x4 x5 s) Prod.snd := by
  intro n
  induction n with
  | zero => intro x1 x2 x3 x4 x5 s; exact jF_none
  | succ n ih =>
    intro x1 x2 x3 x4 x5 s
    rw [s_Z_bestRule_L50]
    refine jF_ite ?_ ?_
    · refine jF_ite ?_ ?_
      · exact jF_some rfl
      · exact jF_some rfl
    · exact s_Z_bestRule_L59_fr ih _ _ _ _ _ _ _ _
theorem s_Z_bestRule_fr (s : jm_M) (a0 : Int32) (a1 : Int32) : jm_Fr ([76, 77], [(59, 22), (59, 23), (59, 24), (59, 25), (59, 26)]) s (s_Z_bestRule s a0 a1) Prod.snd := by
  unfold s_Z_bestRule
  refine jF_bp (fun _ => ?_)
  refine jF_ite ?_ ?_
  · exact jF_some rfl
  · refine jF_bp (fun _ => ?_)
    refine jF_ite ?_ ?_
    · exact jF_some rfl
    · refine jF_bp (fun _ => ?_)
      refine jF_ite ?_ ?_
      · exact jF_some rfl
      · refine jF_bv (s_Z_asTold_fr _) (by decide) (fun _ => ?_)
        exact s_Z_bestRule_L50_fr _ _ _ _ _ _ _
theorem s_Co_fewestSpares_J60_fr {k5 : Int32 → Int32 → Int32 → Int32 → jm_M → Option (Int32 × jm_M)} (hk5 : ∀ (x1 : Int32) (x2 : Int32) (x3 : Int32) (x4 : Int32) (s : jm_M), jm_Fr ([52], [(48, 4), (48, 9)]) s (k5 x1 x2 x3 x4 s) Prod.snd) {k12 : Int32 → Int32 → Int32 → Int32 → Int32 → Int32 → jm_M → Option (Int32 × jm_M)} (hk12 : ∀ (x1 : Int32) (x2 : Int32) (x3 : Int32) (x4 : Int32) (x5 : Int32) (x6 : Int32) (s : jm_M), jm_Fr ([52], [(48, 4), (48, 9)]) s (k12 x1 x2 x3 x4 x5 x6 s) Prod.snd) (x1 : Int32) (x2 : Int32) (x3 : Int32) (x4 : Int32) (x5 : Int32) (x6 : Int32) (s : jm_M) : jm_Fr ([52], [(48, 4), (48, 9)]) s (s_Co_fewestSpares_J60 k5 k12 x1 x2 x3 x4 x5 x6 s) Prod.snd := by
  unfold s_Co_fewestSpares_J60
  refine jF_bp (fun _ => ?_)
  refine jF_ite ?_ ?_
  · exact hk5 _ _ _ _ _
  · exact hk12 _ _ _ _ _ _ _
theorem s_Co_fewestSpares_L21_fr {k5 : Int32 → Int32 → Int32 → Int32 → jm_M → Option (Int32 × jm_M)} (hk5 : ∀ (x1 : Int32) (x2 : Int32) (x3 : Int32) (x4 : Int32) (s : jm_M), jm_Fr ([52], [(48, 4), (48, 9)]) s (k5 x1 x2 x3 x4 s) Prod.snd) : ∀ (n : Nat) (x1 : Int32) (x2 : Int32) (x3 : Int32) (x4 : Int32) (x5 : Int32) (x6 : Int32) (s : jm_M), jm_Fr ([52], [(48, 4), (48, 9)]) s (s_Co_fewestSpares_L21 k5 n x1 x2 x3 x4 x5 x6 s) Prod.snd := by
  intro n
  induction n with
  | zero => intro x1 x2 x3 x4 x5 x6 s; exact jF_none
  | succ n ih =>
    intro x1 x2 x3 x4 x5 x6 s
    rw [s_Co_fewestSpares_L21]
    refine jF_ite ?_ ?_
    · exact hk5 _ _ _ _ _
    · refine jF_evi (by decide) (fun _ => ?_)
      refine jF_bp (fun _ => ?_)
      refine jF_ite ?_ ?_
      · refine jF_b2 (s_Co_latestIfBorne_fr _ _) (by decide) (fun _ _ => ?_)
        refine jF_ite ?_ ?_
        · exact s_Co_fewestSpares_J60_fr hk5 ih _ _ _ _ _ _ _
        · exact jF_some rfl
      · exact s_Co_fewestSpares_J60_fr hk5 ih _ _ _ _ _ _ _
theorem s_Co_fewestSpares_L8_fr : ∀ (n : Nat) (x1 : Int32) (x2 : Int32) (x3 : Int32) (x4 : Int32) (s : jm_M), jm_Fr ([52], [(48, 4), (48, 9)]) s (s_Co_fewestSpares_L8 n x1 x2 x3 x4 s) Prod.snd := by
  intro n
  induction n with
  | zero => intro x1 x2 x3 x4 s; exact jF_none
  | succ n ih =>
    intro x1 x2 x3 x4 s
    rw [s_Co_fewestSpares_L8]
    refine jF_ite ?_ ?_
    · exact jF_some rfl
    · exact s_Co_fewestSpares_L21_fr ih _ _ _ _ _ _ _ _
theorem s_Co_fewestSpares_fr (s : jm_M) (a0 : Int32) (a1 : Int32) : jm_Fr ([52], [(48, 4), (48, 9)]) s (s_Co_fewestSpares s a0 a1) Prod.snd := by
  unfold s_Co_fewestSpares
  refine jF_vi (fun _ => ?_)
  exact s_Co_fewestSpares_L8_fr _ _ _ _ _ _
theorem s_X_added_fr (s : jm_M) (a0 : Int32) : jm_Fr ([49, 50, 51, 52], [(48, 2), (48, 3), (48, 4), (48, 9)]) s (s_X_added s a0) Prod.snd := by
  unfold s_X_added
  refine jF_bp (fun _ => ?_)
  refine jF_ite ?_ ?_
  · exact jF_some rfl
  · refine jF_bp (fun _ => ?_)
    refine jF_ite ?_ ?_
    · exact jF_some rfl
    · refine jF_bv (s_Co_study_48_15_fr _) (by decide) (fun _ => ?_)
      refine jF_bp (fun _ => ?_)
      refine jF_b2 (s_Co_fewestSpares_fr _ _ _) (by decide) (fun _ _ => ?_)
      exact jF_some rfl
theorem s_Z_added_J83_fr {k27 : Int32 → Int32 → Int32 → Int32 → Int32 → jm_M → Option (Int32 × jm_M)} (hk27 : ∀ (x1 : Int32) (x2 : Int32) (x3 : Int32) (x4 : Int32) (x5 : Int32) (s : jm_M), jm_Fr ([76, 77], [(59, 22), (59, 23), (59, 24), (59, 25), (59, 26)]) s (k27 x1 x2 x3 x4 x5 s) Prod.snd) (x1 : Int32) (x2 : Int32) (x3 : Int32) (x4 : Int32) (x5 : Int32) (s : jm_M) : jm_Fr ([76, 77], [(59, 22), (59, 23), (59, 24), (59, 25), (59, 26)]) s (s_Z_added_J83 k27 x1 x2 x3 x4 x5 s) Prod.snd := by
  unfold s_Z_added_J83
  refine jF_evi (by decide) (fun _ => ?_)
  refine jF_b2 (s_Z_mostBorne_fr _) (by decide) (fun _ _ => ?_)
  refine jF_ite ?_ ?_
  · exact hk27 _ _ _ _ _ _
  · refine jF_ite ?_ ?_
    · exact hk27 _ _ _ _ _ _
    · exact hk27 _ _ _ _ _ _
theorem s_Z_added_L48_fr : ∀ (n : Nat) (x1 : Int32) (x2 : Int32) (x3 : Int32) (x4 : Int32) (x5 : Int32) (s : jm_M), jm_Fr ([76, 77], [(59, 22), (59, 23), (59, 24), (59, 25), (59, 26)]) s (s_Z_added_L48 n x1 x2 x3 x4 x5 s) Prod.snd := by
  intro n
  induction n with
  | zero => intro x1 x2 x3 x4 x5 s; exact jF_none
  | succ n ih =>
    intro x1 x2 x3 x4 x5 s
    rw [s_Z_added_L48]
    refine jF_ite ?_ ?_
    · exact jF_some rfl
    · refine jF_ite ?_ ?_
      · refine jF_ite ?_ ?_
        · exact s_Z_added_J83_fr ih _ _ _ _ _ _
        · refine jF_bp (fun _ => ?_)
          refine jF_bp (fun _ => ?_)
          refine jF_ite ?_ ?_
          · exact ih _ _ _ _ _ _
          · exact s_Z_added_J83_fr ih _ _ _ _ _ _
      · exact ih _ _ _ _ _ _
theorem s_Z_added_fr (s : jm_M) (a0 : Int32) : jm_Fr ([76, 77], [(59, 22), (59, 23), (59, 24), (59, 25), (59, 26)]) s (s_Z_added s a0) Prod.snd := by
  unfold s_Z_added
  refine jF_bp (fun _ => ?_)
  refine jF_ite ?_ ?_
  · exact jF_some rfl
  · refine jF_bp (fun _ => ?_)
    refine jF_ite ?_ ?_
    · exact jF_some rfl
    · refine jF_bv (s_Z_asTold_fr _) (by decide) (fun _ => ?_)
      refine jF_vi (fun _ => ?_)
      refine jF_bp (fun _ => ?_)
      exact s_Z_added_L48_fr _ _ _ _ _ _ _
theorem s_X_log_fr (s : jm_M) (a0 : Int32) (a1 : Int32) : jm_Fr ([21], []) s (s_X_log s a0 a1) Prod.snd := by
  unfold s_X_log
  refine jF_bp (fun _ => ?_)
  refine jF_ite ?_ ?_
  · exact jF_some rfl
  · refine jF_ite ?_ ?_
    · exact jF_some rfl
    · refine jF_ite ?_ ?_
      · refine jF_ldi (fun _ => ?_)
        refine jF_sti (by decide) (fun _ => ?_)
        exact jF_some rfl
      · exact jF_some rfl
theorem s_Z_log_fr (s : jm_M) (a0 : Int32) (a1 : Int32) : jm_Fr ([70], []) s (s_Z_log s a0 a1) Prod.snd := by
  unfold s_Z_log
  refine jF_bp (fun _ => ?_)
  refine jF_ite ?_ ?_
  · exact jF_some rfl
  · refine jF_bp (fun _ => ?_)
    refine jF_ite ?_ ?_
    · exact jF_some rfl
    · refine jF_ldi (fun _ => ?_)
      refine jF_sti (by decide) (fun _ => ?_)
      exact jF_some rfl
theorem s_Co_spreadFromAllHeads_fr (s : jm_M) : jm_Fr ([52], [(48, 9)]) s (s_Co_spreadFromAllHeads s) id := by
  unfold s_Co_spreadFromAllHeads
  refine jF_b2 (s_Co_spread_fr _ _ _ _) (by decide) (fun _ _ => ?_)
  exact jF_some rfl
theorem s_Lo_tooSoon_15_48_L22_fr : ∀ (n : Nat) (x2 : Int32) (x3 : Int32) (x4 : Int32) (s : jm_M), jm_Fr ([52], [(48, 9)]) s (s_Lo_tooSoon_15_48_L22 n x2 x3 x4 s) Prod.snd := by
  intro n
  induction n with
  | zero => intro x2 x3 x4 s; exact jF_none
  | succ n ih =>
    intro x2 x3 x4 s
    rw [s_Lo_tooSoon_15_48_L22]
    refine jF_ite ?_ ?_
    · exact jF_some rfl
    · refine jF_ldi (fun _ => ?_)
      refine jF_ite ?_ ?_
      · refine jF_ldi (fun _ => ?_)
        refine jF_bp (fun _ => ?_)
        refine jF_ite ?_ ?_
        · exact ih _ _ _ _
        · refine jF_bp (fun _ => ?_)
          refine jF_ite ?_ ?_
          · refine jF_vi (fun _ => ?_)
            exact ih _ _ _ _
          · refine jF_ldi (fun _ => ?_)
            refine jF_ite ?_ ?_
            · exact ih _ _ _ _
            · refine jF_vi (fun _ => ?_)
              exact ih _ _ _ _
      · exact ih _ _ _ _
theorem s_Lo_tooSoon_15_48_fr (s : jm_M) : jm_Fr ([52], [(48, 9)]) s (s_Lo_tooSoon_15_48 s) Prod.snd := by
  unfold s_Lo_tooSoon_15_48
  refine jF_bp (fun _ => ?_)
  refine jF_ite ?_ ?_
  · exact jF_some rfl
  · refine jF_bv (s_Co_spreadFromAllHeads_fr _) (by decide) (fun _ => ?_)
    exact s_Lo_tooSoon_15_48_L22_fr _ _ _ _ _
theorem s_X_logs_fr (s : jm_M) (a0 : Int32) : jm_Fr ([49, 50, 51, 52], [(48, 2), (48, 3), (48, 4), (48, 9)]) s (s_X_logs s a0) Prod.snd := by
  unfold s_X_logs
  refine jF_ite ?_ ?_
  · refine jF_bp (fun _ => ?_)
    exact jF_some rfl
  · refine jF_ite ?_ ?_
    · refine jF_bp (fun _ => ?_)
      exact jF_some rfl
    · refine jF_ite ?_ ?_
      · refine jF_bp (fun _ => ?_)
        exact jF_some rfl
      · refine jF_ite ?_ ?_
        · refine jF_bv (s_Co_study_48_15_fr _) (by decide) (fun _ => ?_)
          refine jF_b2 (s_Lo_tooSoon_15_48_fr _) (by decide) (fun _ _ => ?_)
          exact jF_some rfl
        · exact jF_some rfl
theorem s_Z_soon_J163_fr {k56 : Int32 → Int32 → Int32 → jm_M → Option (Int32 × jm_M)} (hk56 : ∀ (x1 : Int32) (x2 : Int32) (x3 : Int32) (s : jm_M), jm_Fr ([76, 77], [(59, 22), (59, 23), (59, 24), (59, 25), (59, 26)]) s (k56 x1 x2 x3 s) Prod.snd) (x1 : Int32) (x2 : Int32) (x3 : Int32) (y0 : Int32) (s : jm_M) : jm_Fr ([76, 77], [(59, 22), (59, 23), (59, 24), (59, 25), (59, 26)]) s (s_Z_soon_J163 k56 x1 x2 x3 y0 s) Prod.snd := by
  unfold s_Z_soon_J163
  refine jF_ite ?_ ?_
  · refine jF_vi (fun _ => ?_)
    exact hk56 _ _ _ _
  · refine jF_vi (fun _ => ?_)
    exact hk56 _ _ _ _
theorem s_Z_soon_L92_fr : ∀ (n : Nat) (x1 : Int32) (x2 : Int32) (x3 : Int32) (s : jm_M), jm_Fr ([76, 77], [(59, 22), (59, 23), (59, 24), (59, 25), (59, 26)]) s (s_Z_soon_L92 n x1 x2 x3 s) Prod.snd := by
  intro n
  induction n with
  | zero => intro x1 x2 x3 s; exact jF_none
  | succ n ih =>
    intro x1 x2 x3 s
    rw [s_Z_soon_L92]
    refine jF_ldi (fun _ => ?_)
    refine jF_ite ?_ ?_
    · exact jF_some rfl
    · refine jF_ldi (fun _ => ?_)
      refine jF_ite ?_ ?_
      · refine jF_ldi (fun _ => ?_)
        refine jF_bp (fun _ => ?_)
        refine jF_ite ?_ ?_
        · exact s_Z_soon_J163_fr ih _ _ _ _ _
        · refine jF_ldi (fun _ => ?_)
          refine jF_ite ?_ ?_
          · exact s_Z_soon_J163_fr ih _ _ _ _ _
          · refine jF_ldi (fun _ => ?_)
            refine jF_ldi (fun _ => ?_)
            refine jF_ite ?_ ?_
            · exact s_Z_soon_J163_fr ih _ _ _ _ _
            · exact s_Z_soon_J163_fr ih _ _ _ _ _
      · exact s_Z_soon_J163_fr ih _ _ _ _ _
theorem s_Z_soon_L5_fr : ∀ (n : Nat) (x1 : Int32) (x2 : Int32) (s : jm_M), jm_Fr ([76, 77], [(59, 22), (59, 23), (59, 24), (59, 25), (59, 26)]) s (s_Z_soon_L5 n x1 x2 s) Prod.snd := by
  intro n
  induction n with
  | zero => intro x1 x2 s; exact jF_none
  | succ n ih =>
    intro x1 x2 s
    rw [s_Z_soon_L5]
    refine jF_ldi (fun _ => ?_)
    refine jF_ite ?_ ?_
    · refine jF_ite ?_ ?_
      · exact jF_some rfl
      · refine jF_bv (s_Z_asTold_fr _) (by decide) (fun _ => ?_)
        refine jF_bp (fun _ => ?_)
        refine jF_bv (s_Z_kindle_fr _ _ _) (by decide) (fun _ => ?_)
        refine jF_bv (s_Z_spread_fr _ _) (by decide) (fun _ => ?_)
        exact s_Z_soon_L92_fr _ _ _ _ _
    · refine jF_ldi (fun _ => ?_)
      refine jF_ite ?_ ?_
      · refine jF_ldi (fun _ => ?_)
        refine jF_ite ?_ ?_
        · exact ih _ _ _
        · refine jF_ldi (fun _ => ?_)
          refine jF_ite ?_ ?_
          · exact ih _ _ _
          · refine jF_ldi (fun _ => ?_)
            exact ih _ _ _
      · exact ih _ _ _
theorem s_Z_soon_fr (s : jm_M) : jm_Fr ([76, 77], [(59, 22), (59, 23), (59, 24), (59, 25), (59, 26)]) s (s_Z_soon s) Prod.snd := by
  unfold s_Z_soon
  exact s_Z_soon_L5_fr _ _ _ _
theorem s_Z_logs_fr (s : jm_M) (a0 : Int32) : jm_Fr ([76, 77], [(59, 22), (59, 23), (59, 24), (59, 25), (59, 26)]) s (s_Z_logs s a0) Prod.snd := by
  unfold s_Z_logs
  refine jF_ite ?_ ?_
  · refine jF_bp (fun _ => ?_)
    exact jF_some rfl
  · refine jF_ite ?_ ?_
    · refine jF_bp (fun _ => ?_)
      exact jF_some rfl
    · refine jF_ite ?_ ?_
      · refine jF_bp (fun _ => ?_)
        exact jF_some rfl
      · refine jF_ite ?_ ?_
        · refine jF_b2 (s_Z_soon_fr _) (by decide) (fun _ _ => ?_)
          exact jF_some rfl
        · exact jF_some rfl
theorem s_Si_setFires_fr (s : jm_M) (a0 : Int32) (a1 : Int32) (a2 : Int32) : jm_Fr ([54], []) s (s_Si_setFires s a0 a1 a2) id := by
  unfold s_Si_setFires
  refine jF_bp (fun _ => ?_)
  refine jF_ite ?_ ?_
  · exact jF_some rfl
  · refine jF_ite ?_ ?_
    · exact jF_some rfl
    · refine jF_ite ?_ ?_
      · exact jF_some rfl
      · refine jF_sti (by decide) (fun _ => ?_)
        exact jF_some rfl
theorem s_X_sign_fr (s : jm_M) (a0 : Int32) (a1 : Int32) (a2 : Int32) : jm_Fr ([54], []) s (s_X_sign s a0 a1 a2) Prod.snd := by
  unfold s_X_sign
  refine jF_bp (fun _ => ?_)
  refine jF_ite ?_ ?_
  · exact jF_some rfl
  · refine jF_ite ?_ ?_
    · exact jF_some rfl
    · refine jF_ite ?_ ?_
      · exact jF_some rfl
      · refine jF_ite ?_ ?_
        · exact jF_some rfl
        · refine jF_ite ?_ ?_
          · refine jF_bp (fun _ => ?_)
            refine jF_bv (s_Si_setFires_fr _ _ _ _) (by decide) (fun _ => ?_)
            exact jF_some rfl
          · exact jF_some rfl
theorem s_Z_sign_fr (s : jm_M) (a0 : Int32) (a1 : Int32) (a2 : Int32) : jm_Fr ([71], []) s (s_Z_sign s a0 a1 a2) Prod.snd := by
  unfold s_Z_sign
  refine jF_bp (fun _ => ?_)
  refine jF_ite ?_ ?_
  · exact jF_some rfl
  · refine jF_bp (fun _ => ?_)
    refine jF_ite ?_ ?_
    · exact jF_some rfl
    · refine jF_bp (fun _ => ?_)
      refine jF_ite ?_ ?_
      · exact jF_some rfl
      · refine jF_ldi (fun _ => ?_)
        refine jF_sti (by decide) (fun _ => ?_)
        exact jF_some rfl
theorem s_Wa_come_fr (s : jm_M) (a0 : Int32) (a1 : Int32) (a2 : Int32) (a3 : Int32) : jm_Fr ([56], []) s (s_Wa_come s a0 a1 a2 a3) id := by
  unfold s_Wa_come
  refine jF_sti (by decide) (fun _ => ?_)
  refine jF_sti (by decide) (fun _ => ?_)
  refine jF_sti (by decide) (fun _ => ?_)
  refine jF_sti (by decide) (fun _ => ?_)
  exact jF_some rfl
theorem s_Wa_hoursWatched_L7_fr : ∀ (n : Nat) (x1 : Int32) (x2 : Int32) (x3 : Int32) (x4 : Int32) (s : jm_M), jm_Fr ([56], []) s (s_Wa_hoursWatched_L7 n x1 x2 x3 x4 s) Prod.snd := by
  intro n
  induction n with
  | zero => intro x1 x2 x3 x4 s; exact jF_none
  | succ n ih =>
    intro x1 x2 x3 x4 s
    rw [s_Wa_hoursWatched_L7]
    refine jF_ite ?_ ?_
    · exact jF_some rfl
    · refine jF_bp (fun _ => ?_)
      refine jF_ite ?_ ?_
      · exact ih _ _ _ _ _
      · refine jF_ite ?_ ?_
        · exact ih _ _ _ _ _
        · refine jF_ldi (fun _ => ?_)
          refine jF_sti (by decide) (fun _ => ?_)
          exact ih _ _ _ _ _
theorem s_Wa_hoursWatched_fr (s : jm_M) (a0 : Int32) : jm_Fr ([56], []) s (s_Wa_hoursWatched s a0) Prod.snd := by
  unfold s_Wa_hoursWatched
  exact s_Wa_hoursWatched_L7_fr _ _ _ _ _ _
theorem s_X_watch_fr (s : jm_M) (a0 : Int32) (a1 : Int32) (a2 : Int32) (a3 : Int32) (a4 : Int32) : jm_Fr ([56], []) s (s_X_watch s a0 a1 a2 a3 a4) Prod.snd := by
  unfold s_X_watch
  refine jF_ite ?_ ?_
  · exact jF_some rfl
  · refine jF_ite ?_ ?_
    · exact jF_some rfl
    · refine jF_bp (fun _ => ?_)
      refine jF_ite ?_ ?_
      · exact jF_some rfl
      · refine jF_bp (fun _ => ?_)
        refine jF_ite ?_ ?_
        · exact jF_some rfl
        · refine jF_bp (fun _ => ?_)
          refine jF_ite ?_ ?_
          · exact jF_some rfl
          · refine jF_bp (fun _ => ?_)
            refine jF_ite ?_ ?_
            · exact jF_some rfl
            · refine jF_bv (s_Wa_come_fr _ _ _ _ _) (by decide) (fun _ => ?_)
              refine jF_b2 (s_Wa_hoursWatched_fr _ _) (by decide) (fun _ _ => ?_)
              exact jF_some rfl
theorem s_Z_watch_L125_fr {k58 : Int32 → Int32 → Int32 → Int32 → jm_M → Option (Int32 × jm_M)} (hk58 : ∀ (x1 : Int32) (x6 : Int32) (x7 : Int32) (x8 : Int32) (s : jm_M), jm_Fr ([78], []) s (k58 x1 x6 x7 x8 s) Prod.snd) : ∀ (n : Nat) (x1 : Int32) (x6 : Int32) (x7 : Int32) (x8 : Int32) (x9 : Int32) (x10 : Int32) (s : jm_M), jm_Fr ([78], []) s (s_Z_watch_L125 k58 n x1 x6 x7 x8 x9 x10 s) Prod.snd := by
  intro n
  induction n with
  | zero => intro x1 x6 x7 x8 x9 x10 s; exact jF_none
  | succ n ih =>
    intro x1 x6 x7 x8 x9 x10 s
    rw [s_Z_watch_L125]
    refine jF_ite ?_ ?_
    · refine jF_ite ?_ ?_
      · exact hk58 _ _ _ _ _
      · refine jF_ldi (fun _ => ?_)
        refine jF_sti (by decide) (fun _ => ?_)
        exact hk58 _ _ _ _ _
    · refine jF_ldi (fun _ => ?_)
      refine jF_ite ?_ ?_
      · exact ih _ _ _ _ _ _ _
      · refine jF_ite ?_ ?_
        · exact ih _ _ _ _ _ _ _
        · refine jF_ite ?_ ?_
          · exact ih _ _ _ _ _ _ _
          · refine jF_ldi (fun _ => ?_)
            refine jF_ldi (fun _ => ?_)
            refine jF_ite ?_ ?_
            · exact ih _ _ _ _ _ _ _
            · exact ih _ _ _ _ _ _ _
theorem s_Z_watch_L112_fr : ∀ (n : Nat) (x1 : Int32) (x6 : Int32) (x7 : Int32) (x8 : Int32) (s : jm_M), jm_Fr ([78], []) s (s_Z_watch_L112 n x1 x6 x7 x8 s) Prod.snd := by
  intro n
  induction n with
  | zero => intro x1 x6 x7 x8 s; exact jF_none
  | succ n ih =>
    intro x1 x6 x7 x8 s
    rw [s_Z_watch_L112]
    refine jF_ite ?_ ?_
    · exact jF_some rfl
    · exact s_Z_watch_L125_fr ih _ _ _ _ _ _ _ _
theorem s_Z_watch_fr (s : jm_M) (a0 : Int32) (a1 : Int32) (a2 : Int32) (a3 : Int32) (a4 : Int32) : jm_Fr ([78], []) s (s_Z_watch s a0 a1 a2 a3 a4) Prod.snd := by
  unfold s_Z_watch
  refine jF_bp (fun _ => ?_)
  refine jF_ite ?_ ?_
  · exact jF_some rfl
  · refine jF_bp (fun _ => ?_)
    refine jF_ite ?_ ?_
    · exact jF_some rfl
    · refine jF_bp (fun _ => ?_)
      refine jF_ite ?_ ?_
      · exact jF_some rfl
      · refine jF_bp (fun _ => ?_)
        refine jF_ite ?_ ?_
        · exact jF_some rfl
        · refine jF_bp (fun _ => ?_)
          refine jF_ite ?_ ?_
          · exact jF_some rfl
          · refine jF_sti (by decide) (fun _ => ?_)
            refine jF_sti (by decide) (fun _ => ?_)
            refine jF_sti (by decide) (fun _ => ?_)
            refine jF_sti (by decide) (fun _ => ?_)
            exact s_Z_watch_L112_fr _ _ _ _ _ _
theorem s_X_cost_fr (s : jm_M) (a0 : Int32) (a1 : Int32) : jm_Fr ([58], []) s (s_X_cost s a0 a1) Prod.snd := by
  unfold s_X_cost
  refine jF_ite ?_ ?_
  · exact jF_some rfl
  · refine jF_ite ?_ ?_
    · exact jF_some rfl
    · refine jF_ite ?_ ?_
      · exact jF_some rfl
      · refine jF_ite ?_ ?_
        · refine jF_ldi (fun _ => ?_)
          refine jF_sti (by decide) (fun _ => ?_)
          exact jF_some rfl
        · exact jF_some rfl
theorem s_Z_cost_fr (s : jm_M) (a0 : Int32) (a1 : Int32) : jm_Fr ([72], []) s (s_Z_cost s a0 a1) Prod.snd := by
  unfold s_Z_cost
  refine jF_bp (fun _ => ?_)
  refine jF_ite ?_ ?_
  · exact jF_some rfl
  · refine jF_bp (fun _ => ?_)
    refine jF_ite ?_ ?_
    · exact jF_some rfl
    · refine jF_ldi (fun _ => ?_)
      refine jF_sti (by decide) (fun _ => ?_)
      exact jF_some rfl
theorem s_Ne_become_35_15_L136_fr : ∀ (n : Nat) (x2 : Int32) (s : jm_M), jm_Fr ([36, 37, 38, 39, 40, 41, 42, 43, 44], [(35, 0), (35, 10), (35, 11)]) s (s_Ne_become_35_15_L136 n x2 s) id := by
  intro n
  induction n with
  | zero => intro x2 s; exact jF_none
  | succ n ih =>
    intro x2 s
    rw [s_Ne_become_35_15_L136]
    refine jF_ite ?_ ?_
    · exact jF_some rfl
    · refine jF_ldl (fun _ => ?_)
      refine jF_stl (by decide) (fun _ => ?_)
      exact ih _ _
theorem s_Ne_become_35_15_L26_fr : ∀ (n : Nat) (x2 : Int32) (s : jm_M), jm_Fr ([36, 37, 38, 39, 40, 41, 42, 43, 44], [(35, 0), (35, 10), (35, 11)]) s (s_Ne_become_35_15_L26 n x2 s) id := by
  intro n
  induction n with
  | zero => intro x2 s; exact jF_none
  | succ n ih =>
    intro x2 s
    rw [s_Ne_become_35_15_L26]
    refine jF_ite ?_ ?_
    · exact s_Ne_become_35_15_L136_fr _ _ _
    · refine jF_ldi (fun _ => ?_)
      refine jF_sti (by decide) (fun _ => ?_)
      refine jF_ldi (fun _ => ?_)
      refine jF_sti (by decide) (fun _ => ?_)
      refine jF_ldi (fun _ => ?_)
      refine jF_sti (by decide) (fun _ => ?_)
      refine jF_ldi (fun _ => ?_)
      refine jF_sti (by decide) (fun _ => ?_)
      refine jF_ldi (fun _ => ?_)
      refine jF_sti (by decide) (fun _ => ?_)
      refine jF_ldi (fun _ => ?_)
      refine jF_sti (by decide) (fun _ => ?_)
      refine jF_ldl (fun _ => ?_)
      refine jF_stl (by decide) (fun _ => ?_)
      refine jF_ldl (fun _ => ?_)
      refine jF_stl (by decide) (fun _ => ?_)
      exact ih _ _
theorem s_Ne_become_35_15_fr (s : jm_M) : jm_Fr ([36, 37, 38, 39, 40, 41, 42, 43, 44], [(35, 0), (35, 10), (35, 11)]) s (s_Ne_become_35_15 s) id := by
  unfold s_Ne_become_35_15
  refine jF_evi (by decide) (fun _ => ?_)
  refine jF_evi (by decide) (fun _ => ?_)
  refine jF_evl (by decide) (fun _ => ?_)
  exact s_Ne_become_35_15_L26_fr _ _ _
theorem s_Ne_become_25_15_L136_fr : ∀ (n : Nat) (x2 : Int32) (s : jm_M), jm_Fr ([26, 27, 28, 29, 30, 31, 32, 33, 34], [(25, 0), (25, 10), (25, 11)]) s (s_Ne_become_25_15_L136 n x2 s) id := by
  intro n
  induction n with
  | zero => intro x2 s; exact jF_none
  | succ n ih =>
    intro x2 s
    rw [s_Ne_become_25_15_L136]
    refine jF_ite ?_ ?_
    · exact jF_some rfl
    · refine jF_ldl (fun _ => ?_)
      refine jF_stl (by decide) (fun _ => ?_)
      exact ih _ _
theorem s_Ne_become_25_15_L26_fr : ∀ (n : Nat) (x2 : Int32) (s : jm_M), jm_Fr ([26, 27, 28, 29, 30, 31, 32, 33, 34], [(25, 0), (25, 10), (25, 11)]) s (s_Ne_become_25_15_L26 n x2 s) id := by
  intro n
  induction n with
  | zero => intro x2 s; exact jF_none
  | succ n ih =>
    intro x2 s
    rw [s_Ne_become_25_15_L26]
    refine jF_ite ?_ ?_
    · exact s_Ne_become_25_15_L136_fr _ _ _
    · refine jF_ldi (fun _ => ?_)
      refine jF_sti (by decide) (fun _ => ?_)
      refine jF_ldi (fun _ => ?_)
      refine jF_sti (by decide) (fun _ => ?_)
      refine jF_ldi (fun _ => ?_)
      refine jF_sti (by decide) (fun _ => ?_)
      refine jF_ldi (fun _ => ?_)
      refine jF_sti (by decide) (fun _ => ?_)
      refine jF_ldi (fun _ => ?_)
      refine jF_sti (by decide) (fun _ => ?_)
      refine jF_ldi (fun _ => ?_)
      refine jF_sti (by decide) (fun _ => ?_)
      refine jF_ldl (fun _ => ?_)
      refine jF_stl (by decide) (fun _ => ?_)
      refine jF_ldl (fun _ => ?_)
      refine jF_stl (by decide) (fun _ => ?_)
      exact ih _ _
theorem s_Ne_become_25_15_fr (s : jm_M) : jm_Fr ([26, 27, 28, 29, 30, 31, 32, 33, 34], [(25, 0), (25, 10), (25, 11)]) s (s_Ne_become_25_15 s) id := by
  unfold s_Ne_become_25_15
  refine jF_evi (by decide) (fun _ => ?_)
  refine jF_evi (by decide) (fun _ => ?_)
  refine jF_evl (by decide) (fun _ => ?_)
  exact s_Ne_become_25_15_L26_fr _ _ _
theorem s_X_keep_J29_fr (s : jm_M) : jm_Fr ([26, 27, 28, 29, 30, 31, 32, 33, 34, 36, 37, 38, 39, 40, 41, 42, 43, 44], [(1, 7), (25, 0), (25, 10), (25, 11), (35, 0), (35, 10), (35, 11)]) s (s_X_keep_J29 s) Prod.snd := by
  unfold s_X_keep_J29
  refine jF_bv (s_Ne_become_35_15_fr _) (by decide) (fun _ => ?_)
  refine jF_evi (by decide) (fun _ => ?_)
  exact jF_some rfl
theorem s_X_keep_fr (s : jm_M) : jm_Fr ([26, 27, 28, 29, 30, 31, 32, 33, 34, 36, 37, 38, 39, 40, 41, 42, 43, 44], [(1, 7), (25, 0), (25, 10), (25, 11), (35, 0), (35, 10), (35, 11)]) s (s_X_keep s) Prod.snd := by
  unfold s_X_keep
  refine jF_ite ?_ ?_
  · refine jF_ite ?_ ?_
    · refine jF_bv (s_Ne_become_25_15_fr _) (by decide) (fun _ => ?_)
      refine jF_evi (by decide) (fun _ => ?_)
      exact jF_some rfl
    · exact s_X_keep_J29_fr _
  · exact jF_some rfl
theorem s_Z_copyAll_L41_fr : ∀ (n : Nat) (x1 : Int32) (x2 : Int32) (x3 : Int32) (s : jm_M), jm_Fr ([61, 62, 63, 64, 65, 66, 67, 68, 69, 70], []) s (s_Z_copyAll_L41 n x1 x2 x3 s) id := by
  intro n
  induction n with
  | zero => intro x1 x2 x3 s; exact jF_none
  | succ n ih =>
    intro x1 x2 x3 s
    rw [s_Z_copyAll_L41]
    refine jF_ite ?_ ?_
    · exact jF_some rfl
    · refine jF_ldi (fun _ => ?_)
      refine jF_sti (by decide) (fun _ => ?_)
      exact ih _ _ _ _
theorem s_Z_copyAll_L8_fr : ∀ (n : Nat) (x1 : Int32) (x2 : Int32) (x3 : Int32) (s : jm_M), jm_Fr ([61, 62, 63, 64, 65, 66, 67, 68, 69, 70], []) s (s_Z_copyAll_L8 n x1 x2 x3 s) id := by
  intro n
  induction n with
  | zero => intro x1 x2 x3 s; exact jF_none
  | succ n ih =>
    intro x1 x2 x3 s
    rw [s_Z_copyAll_L8]
    refine jF_ite ?_ ?_
    · exact s_Z_copyAll_L41_fr _ _ _ _ _
    · refine jF_ldi (fun _ => ?_)
      refine jF_sti (by decide) (fun _ => ?_)
      exact ih _ _ _ _
theorem s_Z_copyAll_fr (s : jm_M) (a0 : Int32) (a1 : Int32) : jm_Fr ([61, 62, 63, 64, 65, 66, 67, 68, 69, 70], []) s (s_Z_copyAll s a0 a1) id := by
  unfold s_Z_copyAll
  refine jF_bv (s_Z_copy_fr _ _ _) (by decide) (fun _ => ?_)
  exact s_Z_copyAll_L8_fr _ _ _ _ _
theorem s_Z_keep_fr (s : jm_M) : jm_Fr ([61, 62, 63, 64, 65, 66, 67, 68, 69, 70], [(59, 12)]) s (s_Z_keep s) Prod.snd := by
  unfold s_Z_keep
  refine jF_ite ?_ ?_
  · exact jF_some rfl
  · refine jF_bv (s_Z_copyAll_fr _ _ _) (by decide) (fun _ => ?_)
    refine jF_evi (by decide) (fun _ => ?_)
    exact jF_some rfl
theorem s_Ne_become_15_35_L136_fr : ∀ (n : Nat) (x2 : Int32) (s : jm_M), jm_Fr ([16, 17, 18, 19, 20, 21, 22, 23, 24], [(15, 0), (15, 10), (15, 11)]) s (s_Ne_become_15_35_L136 n x2 s) id := by
  intro n
  induction n with
  | zero => intro x2 s; exact jF_none
  | succ n ih =>
    intro x2 s
    rw [s_Ne_become_15_35_L136]
    refine jF_ite ?_ ?_
    · exact jF_some rfl
    · refine jF_ldl (fun _ => ?_)
      refine jF_stl (by decide) (fun _ => ?_)
      exact ih _ _
theorem s_Ne_become_15_35_L26_fr : ∀ (n : Nat) (x2 : Int32) (s : jm_M), jm_Fr ([16, 17, 18, 19, 20, 21, 22, 23, 24], [(15, 0), (15, 10), (15, 11)]) s (s_Ne_become_15_35_L26 n x2 s) id := by
  intro n
  induction n with
  | zero => intro x2 s; exact jF_none
  | succ n ih =>
    intro x2 s
    rw [s_Ne_become_15_35_L26]
    refine jF_ite ?_ ?_
    · exact s_Ne_become_15_35_L136_fr _ _ _
    · refine jF_ldi (fun _ => ?_)
      refine jF_sti (by decide) (fun _ => ?_)
      refine jF_ldi (fun _ => ?_)
      refine jF_sti (by decide) (fun _ => ?_)
      refine jF_ldi (fun _ => ?_)
      refine jF_sti (by decide) (fun _ => ?_)
      refine jF_ldi (fun _ => ?_)
      refine jF_sti (by decide) (fun _ => ?_)
      refine jF_ldi (fun _ => ?_)
      refine jF_sti (by decide) (fun _ => ?_)
      refine jF_ldi (fun _ => ?_)
      refine jF_sti (by decide) (fun _ => ?_)
      refine jF_ldl (fun _ => ?_)
      refine jF_stl (by decide) (fun _ => ?_)
      refine jF_ldl (fun _ => ?_)
      refine jF_stl (by decide) (fun _ => ?_)
      exact ih _ _
theorem s_Ne_become_15_35_fr (s : jm_M) : jm_Fr ([16, 17, 18, 19, 20, 21, 22, 23, 24], [(15, 0), (15, 10), (15, 11)]) s (s_Ne_become_15_35 s) id := by
  unfold s_Ne_become_15_35
  refine jF_evi (by decide) (fun _ => ?_)
  refine jF_evi (by decide) (fun _ => ?_)
  refine jF_evl (by decide) (fun _ => ?_)
  exact s_Ne_become_15_35_L26_fr _ _ _
theorem s_Ne_become_15_25_L136_fr : ∀ (n : Nat) (x2 : Int32) (s : jm_M), jm_Fr ([16, 17, 18, 19, 20, 21, 22, 23, 24], [(15, 0), (15, 10), (15, 11)]) s (s_Ne_become_15_25_L136 n x2 s) id := by
  intro n
  induction n with
  | zero => intro x2 s; exact jF_none
  | succ n ih =>
    intro x2 s
    rw [s_Ne_become_15_25_L136]
    refine jF_ite ?_ ?_
    · exact jF_some rfl
    · refine jF_ldl (fun _ => ?_)
      refine jF_stl (by decide) (fun _ => ?_)
      exact ih _ _
theorem s_Ne_become_15_25_L26_fr : ∀ (n : Nat) (x2 : Int32) (s : jm_M), jm_Fr ([16, 17, 18, 19, 20, 21, 22, 23, 24], [(15, 0), (15, 10), (15, 11)]) s (s_Ne_become_15_25_L26 n x2 s) id := by
  intro n
  induction n with
  | zero => intro x2 s; exact jF_none
  | succ n ih =>
    intro x2 s
    rw [s_Ne_become_15_25_L26]
    refine jF_ite ?_ ?_
    · exact s_Ne_become_15_25_L136_fr _ _ _
    · refine jF_ldi (fun _ => ?_)
      refine jF_sti (by decide) (fun _ => ?_)
      refine jF_ldi (fun _ => ?_)
      refine jF_sti (by decide) (fun _ => ?_)
      refine jF_ldi (fun _ => ?_)
      refine jF_sti (by decide) (fun _ => ?_)
      refine jF_ldi (fun _ => ?_)
      refine jF_sti (by decide) (fun _ => ?_)
      refine jF_ldi (fun _ => ?_)
      refine jF_sti (by decide) (fun _ => ?_)
      refine jF_ldi (fun _ => ?_)
      refine jF_sti (by decide) (fun _ => ?_)
      refine jF_ldl (fun _ => ?_)
      refine jF_stl (by decide) (fun _ => ?_)
      refine jF_ldl (fun _ => ?_)
      refine jF_stl (by decide) (fun _ => ?_)
      exact ih _ _
theorem s_Ne_become_15_25_fr (s : jm_M) : jm_Fr ([16, 17, 18, 19, 20, 21, 22, 23, 24], [(15, 0), (15, 10), (15, 11)]) s (s_Ne_become_15_25 s) id := by
  unfold s_Ne_become_15_25
  refine jF_evi (by decide) (fun _ => ?_)
  refine jF_evi (by decide) (fun _ => ?_)
  refine jF_evl (by decide) (fun _ => ?_)
  exact s_Ne_become_15_25_L26_fr _ _ _
theorem s_X_back_J42_fr (s : jm_M) : jm_Fr ([16, 17, 18, 19, 20, 21, 22, 23, 24], [(1, 7), (1, 9), (15, 0), (15, 10), (15, 11)]) s (s_X_back_J42 s) Prod.snd := by
  unfold s_X_back_J42
  refine jF_bv (s_Ne_become_15_35_fr _) (by decide) (fun _ => ?_)
  refine jF_evi (by decide) (fun _ => ?_)
  exact jF_some rfl
theorem s_X_back_fr (s : jm_M) : jm_Fr ([16, 17, 18, 19, 20, 21, 22, 23, 24], [(1, 7), (1, 9), (15, 0), (15, 10), (15, 11)]) s (s_X_back s) Prod.snd := by
  unfold s_X_back
  refine jF_ite ?_ ?_
  · refine jF_evi (by decide) (fun _ => ?_)
    refine jF_ite ?_ ?_
    · refine jF_bv (s_Ne_become_15_25_fr _) (by decide) (fun _ => ?_)
      refine jF_evi (by decide) (fun _ => ?_)
      exact jF_some rfl
    · exact s_X_back_J42_fr _
  · exact jF_some rfl
theorem s_Z_back_fr (s : jm_M) : jm_Fr ([61, 62, 63, 64, 65, 66, 67, 68, 69, 70], [(59, 12)]) s (s_Z_back s) Prod.snd := by
  unfold s_Z_back
  refine jF_ite ?_ ?_
  · exact jF_some rfl
  · refine jF_evi (by decide) (fun _ => ?_)
    refine jF_bv (s_Z_copyAll_fr _ _ _) (by decide) (fun _ => ?_)
    exact jF_some rfl
