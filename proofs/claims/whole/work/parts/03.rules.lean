abbrev jm_S : Type := (FieldType × Nat) ⊕ Nat
def jm_tab : List jm_S := [.inl (.int, 0), .inr 7, .inl (.byte, 300), .inr 4, .inl (.int, 4), .inr 2, .inl (.int, 10), .inl (.int, 10), .inl (.int, 10), .inl (.int, 10), .inl (.int, 10), .inl (.int, 10), .inl (.long, 10), .inl (.long, 10), .inl (.long, 100), .inr 2, .inl (.int, 10), .inl (.int, 10), .inl (.int, 10), .inl (.int, 10), .inl (.int, 10), .inl (.int, 10), .inl (.long, 10), .inl (.long, 10), .inl (.long, 100), .inr 2, .inl (.int, 10), .inl (.int, 10), .inl (.int, 10), .inl (.int, 10), .inl (.int, 10), .inl (.int, 10), .inl (.long, 10), .inl (.long, 10), .inl (.long, 100), .inr 2, .inl (.int, 10), .inl (.int, 10), .inl (.int, 10), .inl (.int, 10), .inl (.int, 10), .inl (.int, 10), .inl (.long, 10), .inl (.long, 10), .inl (.long, 100), .inr 3, .inl (.int, 10), .inl (.long, 10), .inr 0, .inl (.int, 10), .inl (.int, 10), .inl (.int, 10), .inl (.int, 100), .inr 5, .inl (.int, 72), .inr 6, .inl (.int, 4), .inr 1, .inl (.int, 3), .inr 8, .inl (.int, 300), .inl (.int, 4), .inl (.int, 40), .inl (.int, 40), .inl (.int, 40), .inl (.int, 40), .inl (.int, 40), .inl (.int, 4), .inl (.int, 860), .inl (.int, 9), .inl (.int, 30), .inl (.int, 72), .inl (.int, 3), .inl (.int, 4), .inl (.int, 60), .inl (.int, 10), .inl (.int, 10), .inl (.int, 10), .inl (.int, 4)]
def jm_sh (i : Nat) : jm_S := jm_tab.getD i (.inl (.int, 0))
/-! memory: whole numbers and longs of each cell by place; references apart -/
abbrev jm_M : Type := (Nat → Nat → Int32) × (Nat → Nat → Int64)
abbrev jm_R : Type := Nat → Nat → Option Nat
abbrev jm_Y : Type := MethodName × ByteArray × Nat × Option FieldType × Room × Option (Nat × (Nat → Int32))
def jm_nm (Y : jm_Y) : MethodName := Y.1
def jm_cd (Y : jm_Y) : ByteArray := Y.2.1
def jm_ml (Y : jm_Y) : Nat := Y.2.2.1
def jm_rt (Y : jm_Y) : Option FieldType := Y.2.2.2.1
def jm_rm (Y : jm_Y) : Room := Y.2.2.2.2.1
def jm_sc (Y : jm_Y) : Option (Nat × (Nat → Int32)) := Y.2.2.2.2.2
def jm_rv (base : Nat) (r : Option Nat) : Value := match r with
  | none => .null
  | some q => .ref (base + q)
def jm_fv (base : Nat) (mr : jm_R) (σ : jm_M) (i k : Nat) (ty : FieldType) : Value := match ty with
  | .long => .long (σ.2 i k)
  | .array _ => jm_rv base (mr i k)
  | .object _ => jm_rv base (mr i k)
  | _ => .int (σ.1 i k)
def jm_ar (g : ClassId × ClassId × ClassId) (σ : jm_M) (i : Nat) (ty : FieldType) (len : Nat) : va_E := match ty with
  | .long => .inl (g.2.2, len, .inr (.inl (σ.2 i)))
  | .byte => .inl (g.2.1, len, .inl (σ.1 i))
  | _ => .inl (g.1, len, .inl (σ.1 i))
def jm_cell (g : ClassId × ClassId × ClassId) (base : Nat) (mr : jm_R) (σ : jm_M) (i : Nat) : va_E := match jm_sh i with
  | .inl q => jm_ar g σ i q.1 q.2
  | .inr ci => .inr (ci, (jm_fts ci).mapIdx (fun k ty => jm_fv base mr σ i k ty))
def jm_ws (g : ClassId × ClassId × ClassId) (base n : Nat) (mr : jm_R) (σ : jm_M) : va_W := (List.range n).map (fun i => (base + (i + 1), jm_cell g base mr σ (i + 1)))
def jm_Rep (D : va_G) (g : ClassId × ClassId × ClassId) (base n : Nat) (mr : jm_R) (σ : jm_M) (H : Heap) : Prop := H.size = base + n + 1 ∧ va_P D vwCl (jm_ws g base n mr σ) H
def jm_tr (base b : Nat) (v : Value) : Value := match v with
  | .ref 0 => .ref b
  | .ref (i + 1) => .ref (base + (i + 1))
  | v => v
def jm_tp (base b : Nat) (q : Nat × Value) : Nat × Value := (q.1, jm_tr base b q.2)
def jm_ty (g : ClassId × ClassId × ClassId) : List (ClassId × FieldType) := [(g.1, .int), (g.2.1, .byte), (g.2.2, .long)]
def jm_N (s : State) : Prop := ∀ q ∈ jm_nest, va_Nw (.methodLinkNest q.1 q.2.1 q.2.2.1 q.2.2.2) s
def jm_Cx (Y : jm_Y) (D : va_G) (g : ClassId × ClassId × ClassId) (base b : Nat) (p : Program) (s : State) (m : MethodId) (args : Array Value) (meth : Method) (c : Code) : Prop :=
  p.tables.exec = Jvm.exec ∧ c.code = jm_cd Y ∧ c.maxLocals = jm_ml Y ∧ s.vm.findClass (jm_nm Y).cls = some m.cls ∧ (∀ w ∈ jm_tbl, w.before args s = true) ∧ va_K D vwCl (jm_ty g) s ∧ base < s.heap.size ∧ meth.locks = false ∧ ((jm_nm Y).name = "<init>" → meth.name = "<init>") ∧ (∀ q, jm_sc Y = some q → va_X b q.1 q.2 s s.heap ∧ b < s.heap.size ∧ b ≤ base) ∧ jm_N s
def jm_A (base : Nat) : Nat → Prop := fun q => base < q
/-- a place of the code where the answer v goes back -/
def jm_isR (Y : jm_Y) (pc : Nat) (v : Option Value) : Prop := match v with
  | none => decode (jm_cd Y) pc = .ok (.return_, 1) ∧ jm_rt Y = none
  | some (.int x) => decode (jm_cd Y) pc = .ok (.ireturn, 1) ∧ ∃ ty, jm_rt Y = some ty ∧ narrow ty (.int x) = .int x
  | some (.long _) => decode (jm_cd Y) pc = .ok (.lreturn, 1) ∧ jm_rt Y = some .long
  | _ => False
def jm_Ev (Y : jm_Y) (ce sl pc : Nat) (L : List (Nat × Value)) (st : List Value) (n : Nat) (mr : jm_R) (σ : jm_M) (r : Option Value × Nat × jm_R × jm_M) : Prop :=
  ∀ (p : Program) (l : Launch) (e : Env) (s : State) (m : MethodId) (args : Array Value) (below : List Frame) (meth : Method) (c : Code) (D : va_G) (g : ClassId × ClassId × ClassId) (base b : Nat) (Q : State → Prop), jm_Cx Y D g base b p s m args meth c →
    (∀ (H : Heap) (locs : List Loc) (ls : Array Slot) (pc' : Nat), jm_Rep D g base r.2.1 r.2.2.1 r.2.2.2 H → va_S (jm_A base) s.heap H locs → jm_isR Y pc' r.1 → W p l e (jm_rm Y) s m args below meth c H locs (jm_rm Y).cells (jm_rm Y).slots Q (F0 m pc' ls r.1.toList)) →
    ∀ (H : Heap) (locs : List Loc) (ls : Array Slot), jm_Rep D g base n mr σ H → va_S (jm_A base) s.heap H locs → lv_has ls (jm_ml Y) (L.map (jm_tp base b)) → W p l e (jm_rm Y) s m args below meth c H locs ce sl Q (F0 m pc ls (st.map (jm_tr base b)))
/-- the machine at this place does what the pure program m says -/
def jm_Sim {α : Type} (Y : jm_Y) (ce sl pc : Nat) (L : List (Nat × Value)) (st : List Value) (n : Nat) (mr : jm_R) (σ : jm_M) (m : Option α) (ρ : α → Option Value × Nat × jm_R × jm_M) : Prop := ∀ a, m = some a → jm_Ev Y ce sl pc L st n mr σ (ρ a)
/-! pure programs' words -/
def jm_inb (j : Int32) (len : Nat) : Bool := decide (0 ≤ j.toInt) && decide (j.toInt < (len : Int))
def jm_si (σ : jm_M) (i k : Nat) (v : Int32) : jm_M := (fun a b => if a = i ∧ b = k then v else σ.1 a b, σ.2)
def jm_sl (σ : jm_M) (i k : Nat) (v : Int64) : jm_M := (σ.1, fun a b => if a = i ∧ b = k then v else σ.2 a b)
def jm_z (σ : jm_M) (i : Nat) : jm_M := (fun a b => if a = i then 0 else σ.1 a b, fun a b => if a = i then 0 else σ.2 a b)
def jm_sr (mr : jm_R) (i k q : Nat) : jm_R := fun a b => if a = i ∧ b = k then some q else mr a b
def jm_zr (mr : jm_R) (i : Nat) : jm_R := fun a b => if a = i then none else mr a b
def jm_ldi {α : Type} (σ : jm_M) (i len : Nat) (j : Int32) (f : Int32 → Option α) : Option α := if jm_inb j len = true then f (σ.1 i j.toNatClampNeg) else none
def jm_ldl {α : Type} (σ : jm_M) (i len : Nat) (j : Int32) (f : Int64 → Option α) : Option α := if jm_inb j len = true then f (σ.2 i j.toNatClampNeg) else none
def jm_sti {α : Type} (σ : jm_M) (i len : Nat) (j : Int32) (v : Int32) (f : jm_M → Option α) : Option α := if jm_inb j len = true then f (jm_si σ i j.toNatClampNeg v) else none
def jm_stl {α : Type} (σ : jm_M) (i len : Nat) (j : Int32) (v : Int64) (f : jm_M → Option α) : Option α := if jm_inb j len = true then f (jm_sl σ i j.toNatClampNeg v) else none
def jm_ev {α : Type} (x : jm_M) (f : jm_M → Option α) : Option α := f x
def jm_vi {α : Type} (x : Int32) (f : Int32 → Option α) : Option α := f x
def jm_vl {α : Type} (x : Int64) (f : Int64 → Option α) : Option α := f x
def jm_bd {α β : Type} (m : Option β) (f : β → Option α) : Option α := m.bind f
theorem jm_inb_vp {j : Int32} {len : Nat} (h : jm_inb j len = true) : vp_in j len := by
  unfold jm_inb at h
  rw [Bool.and_eq_true, decide_eq_true_eq, decide_eq_true_eq] at h
  exact vp_in_iff.mpr h
/-! the world -/
theorem jm_at {g : ClassId × ClassId × ClassId} {base n : Nat} {mr : jm_R} {σ : jm_M} {i : Nat} (h1 : 1 ≤ i) (h2 : i ≤ n) : (jm_ws g base n mr σ)[i - 1]? = some (base + i, jm_cell g base mr σ i) := by
  have e : i - 1 + 1 = i := Nat.sub_add_cancel h1
  rw [jm_ws, List.getElem?_map, List.getElem?_range (by omega), Option.map_some, e]
theorem jm_ws_get {g : ClassId × ClassId × ClassId} {base n : Nat} {mr : jm_R} {σ : jm_M} {k : Nat} {q : Nat × va_E} (h : (jm_ws g base n mr σ)[k]? = some q) : k < n ∧ q.1 = base + (k + 1) := by
  rw [jm_ws, List.getElem?_map] at h
  by_cases hk : k < n
  · rw [List.getElem?_range hk, Option.map_some] at h
    cases h
    exact ⟨hk, rfl⟩
  · rw [List.getElem?_eq_none (by rw [List.length_range]; omega)] at h
    cases h
theorem jm_D {g : ClassId × ClassId × ClassId} {base n : Nat} {mr : jm_R} {σ : jm_M} : va_D (jm_A base) (jm_ws g base n mr σ) := by
  refine ⟨fun i j p q hp hq e => ?_, fun k q hq => ?_⟩
  · have h1 := jm_ws_get hp
    have h2 := jm_ws_get hq
    omega
  · have h1 := jm_ws_get hq
    show base < q.1
    omega
theorem jm_ws_set {g : ClassId × ClassId × ClassId} {base n : Nat} {mr mr' : jm_R} {σ σ' : jm_M} {i : Nat} (h1 : 1 ≤ i) (hc : ∀ j, j ≠ i → jm_cell g base mr' σ' j = jm_cell g base mr σ j) : (jm_ws g base n mr σ).set (i - 1) (base + i, jm_cell g base mr' σ' i) = jm_ws g base n mr' σ' := by
  apply List.ext_getElem?
  intro k
  rw [List.getElem?_set]
  by_cases hk : i - 1 = k
  · subst hk
    have e : i - 1 + 1 = i := Nat.sub_add_cancel h1
    rw [if_pos rfl]
    by_cases hl : i - 1 < (jm_ws g base n mr σ).length
    · rw [if_pos hl]
      have hn : i - 1 < n := by simpa [jm_ws] using hl
      rw [jm_ws, List.getElem?_map, List.getElem?_range hn, Option.map_some, e]
    · rw [if_neg hl]
      have hn : ¬ i - 1 < n := by simpa [jm_ws] using hl
      rw [List.getElem?_eq_none (by simp [jm_ws]; omega)]
  · rw [if_neg hk, jm_ws, jm_ws, List.getElem?_map, List.getElem?_map]
    by_cases hn : k < n
    · rw [List.getElem?_range hn, Option.map_some, Option.map_some, hc (k + 1) (by omega)]
    · rw [List.getElem?_eq_none (by simp; omega)]
      rfl
theorem jm_cell_eq {g : ClassId × ClassId × ClassId} {base : Nat} {mr mr' : jm_R} {σ σ' : jm_M} {j : Nat} (h1 : σ'.1 j = σ.1 j) (h2 : σ'.2 j = σ.2 j) (h3 : mr' j = mr j) : jm_cell g base mr' σ' j = jm_cell g base mr σ j := by
  unfold jm_cell
  cases jm_sh j with
  | inl q =>
    unfold jm_ar
    simp only [h1, h2]
  | inr ci =>
    simp only [jm_fv, h1, h2, h3]
theorem jm_si_o {σ : jm_M} {i k j : Nat} {v : Int32} (h : j ≠ i) : (jm_si σ i k v).1 j = σ.1 j := by
  funext b
  simp [jm_si, h]
theorem jm_sl_o {σ : jm_M} {i k j : Nat} {v : Int64} (h : j ≠ i) : (jm_sl σ i k v).2 j = σ.2 j := by
  funext b
  simp [jm_sl, h]
theorem jm_sr_o {mr : jm_R} {i k j q : Nat} (h : j ≠ i) : jm_sr mr i k q j = mr j := by
  funext b
  simp [jm_sr, h]
theorem jm_si_i {σ : jm_M} {i k : Nat} {v : Int32} : (jm_si σ i k v).1 i = upd (σ.1 i) k v := by
  funext b
  by_cases h : b = k <;> simp [jm_si, upd, h]
theorem jm_sl_i {σ : jm_M} {i k : Nat} {v : Int64} : (jm_sl σ i k v).2 i = vp_updL (σ.2 i) k v := by
  funext b
  by_cases h : b = k <;> simp [jm_sl, vp_updL, h]
theorem jm_go {α : Type} {Y : jm_Y} {ce sl pc ce2 sl2 pc2 : Nat} {L L2 : List (Nat × Value)} {st st2 : List Value} {n n2 : Nat} {mr mr2 : jm_R} {σ σ2 : jm_M} {m : Option α} {ρ : α → Option Value × Nat × jm_R × jm_M}
    (step : ∀ (p : Program) (l : Launch) (e : Env) (s : State) (mm : MethodId) (args : Array Value) (below : List Frame) (meth : Method) (c : Code) (D : va_G) (g : ClassId × ClassId × ClassId) (base b : Nat) (Q : State → Prop), jm_Cx Y D g base b p s mm args meth c → ∀ (H : Heap) (locs : List Loc) (ls : Array Slot), jm_Rep D g base n mr σ H → va_S (jm_A base) s.heap H locs → lv_has ls (jm_ml Y) (L.map (jm_tp base b)) →
      (∀ (H2 : Heap) (locs2 : List Loc) (ls2 : Array Slot), jm_Rep D g base n2 mr2 σ2 H2 → va_S (jm_A base) s.heap H2 locs2 → lv_has ls2 (jm_ml Y) (L2.map (jm_tp base b)) → W p l e (jm_rm Y) s mm args below meth c H2 locs2 ce2 sl2 Q (F0 mm pc2 ls2 (st2.map (jm_tr base b)))) →
      W p l e (jm_rm Y) s mm args below meth c H locs ce sl Q (F0 mm pc ls (st.map (jm_tr base b))))
    (k : jm_Sim Y ce2 sl2 pc2 L2 st2 n2 mr2 σ2 m ρ) : jm_Sim Y ce sl pc L st n mr σ m ρ :=
  fun a ha p l e s mm args below meth c D g base b Q C hr H locs ls hP hS hl => step p l e s mm args below meth c D g base b Q C H locs ls hP hS hl (fun H2 locs2 ls2 hP2 hS2 hl2 => k a ha p l e s mm args below meth c D g base b Q C hr H2 locs2 ls2 hP2 hS2 hl2)
section JR
variable {α : Type} {Y : jm_Y} {ce sl pc : Nat} {L : List (Nat × Value)} {st : List Value} {n : Nat} {mr : jm_R} {σ : jm_M} {m : Option α} {ρ : α → Option Value × Nat × jm_R × jm_M}
theorem jm_iadd {x y : Int32} (hd : decode (jm_cd Y) pc = .ok (.iadd, 1)) (k : jm_Sim Y ce sl (pc + 1) L (.int (x + y) :: st) n mr σ m ρ) : jm_Sim Y ce sl pc L (.int y :: .int x :: st) n mr σ m ρ :=
  jm_go (fun _ _ _ _ _ _ _ _ _ _ _ base b _ C H locs ls hP hS hl kk => lv_iadd C.1 C.2.1 hd (kk H locs ls hP hS hl)) k
theorem jm_isub {x y : Int32} (hd : decode (jm_cd Y) pc = .ok (.isub, 1)) (k : jm_Sim Y ce sl (pc + 1) L (.int (x - y) :: st) n mr σ m ρ) : jm_Sim Y ce sl pc L (.int y :: .int x :: st) n mr σ m ρ :=
  jm_go (fun _ _ _ _ _ _ _ _ _ _ _ base b _ C H locs ls hP hS hl kk => lv_isub C.1 C.2.1 hd (kk H locs ls hP hS hl)) k
theorem jm_imul {x y : Int32} (hd : decode (jm_cd Y) pc = .ok (.imul, 1)) (k : jm_Sim Y ce sl (pc + 1) L (.int (x * y) :: st) n mr σ m ρ) : jm_Sim Y ce sl pc L (.int y :: .int x :: st) n mr σ m ρ :=
  jm_go (fun _ _ _ _ _ _ _ _ _ _ _ base b _ C H locs ls hP hS hl kk => lv_imul C.1 C.2.1 hd (kk H locs ls hP hS hl)) k
theorem jm_iand {x y : Int32} (hd : decode (jm_cd Y) pc = .ok (.iand, 1)) (k : jm_Sim Y ce sl (pc + 1) L (.int (x &&& y) :: st) n mr σ m ρ) : jm_Sim Y ce sl pc L (.int y :: .int x :: st) n mr σ m ρ :=
  jm_go (fun _ _ _ _ _ _ _ _ _ _ _ base b _ C H locs ls hP hS hl kk => lv_iand C.1 C.2.1 hd (kk H locs ls hP hS hl)) k
theorem jm_ior {x y : Int32} (hd : decode (jm_cd Y) pc = .ok (.ior, 1)) (k : jm_Sim Y ce sl (pc + 1) L (.int (x ||| y) :: st) n mr σ m ρ) : jm_Sim Y ce sl pc L (.int y :: .int x :: st) n mr σ m ρ :=
  jm_go (fun _ _ _ _ _ _ _ _ _ _ _ base b _ C H locs ls hP hS hl kk => lv_ior C.1 C.2.1 hd (kk H locs ls hP hS hl)) k
theorem jm_ixor {x y : Int32} (hd : decode (jm_cd Y) pc = .ok (.ixor, 1)) (k : jm_Sim Y ce sl (pc + 1) L (.int (x ^^^ y) :: st) n mr σ m ρ) : jm_Sim Y ce sl pc L (.int y :: .int x :: st) n mr σ m ρ :=
  jm_go (fun _ _ _ _ _ _ _ _ _ _ _ base b _ C H locs ls hP hS hl kk => lv_ixor C.1 C.2.1 hd (kk H locs ls hP hS hl)) k
theorem jm_ishl {x y : Int32} (hd : decode (jm_cd Y) pc = .ok (.ishl, 1)) (k : jm_Sim Y ce sl (pc + 1) L (.int (x <<< (y &&& 31)) :: st) n mr σ m ρ) : jm_Sim Y ce sl pc L (.int y :: .int x :: st) n mr σ m ρ :=
  jm_go (fun _ _ _ _ _ _ _ _ _ _ _ base b _ C H locs ls hP hS hl kk => lv_ishl C.1 C.2.1 hd (kk H locs ls hP hS hl)) k
theorem jm_ishr {x y : Int32} (hd : decode (jm_cd Y) pc = .ok (.ishr, 1)) (k : jm_Sim Y ce sl (pc + 1) L (.int (x >>> (y &&& 31)) :: st) n mr σ m ρ) : jm_Sim Y ce sl pc L (.int y :: .int x :: st) n mr σ m ρ :=
  jm_go (fun _ _ _ _ _ _ _ _ _ _ _ base b _ C H locs ls hP hS hl kk => lv_ishr C.1 C.2.1 hd (kk H locs ls hP hS hl)) k
theorem jm_iushr {x y : Int32} (hd : decode (jm_cd Y) pc = .ok (.iushr, 1)) (k : jm_Sim Y ce sl (pc + 1) L (.int ((x.toUInt32 >>> (y.toUInt32 &&& Int32.toUInt32 31)).toInt32) :: st) n mr σ m ρ) : jm_Sim Y ce sl pc L (.int y :: .int x :: st) n mr σ m ρ :=
  jm_go (fun _ _ _ _ _ _ _ _ _ _ _ base b _ C H locs ls hP hS hl kk => lv_iushr C.1 C.2.1 hd rfl (kk H locs ls hP hS hl)) k
theorem jm_idiv {x y : Int32} (hd : decode (jm_cd Y) pc = .ok (.idiv, 1)) (hne : ¬ y = 0) (k : jm_Sim Y ce sl (pc + 1) L (.int (x / y) :: st) n mr σ m ρ) : jm_Sim Y ce sl pc L (.int y :: .int x :: st) n mr σ m ρ :=
  jm_go (fun _ _ _ _ _ _ _ _ _ _ _ base b _ C H locs ls hP hS hl kk => lv_idiv C.1 C.2.1 hd hne (kk H locs ls hP hS hl)) k
theorem jm_land {x y : Int64} (hd : decode (jm_cd Y) pc = .ok (.land, 1)) (k : jm_Sim Y ce sl (pc + 1) L (.long (x &&& y) :: st) n mr σ m ρ) : jm_Sim Y ce sl pc L (.long y :: .long x :: st) n mr σ m ρ :=
  jm_go (fun _ _ _ _ _ _ _ _ _ _ _ base b _ C H locs ls hP hS hl kk => lv_land C.1 C.2.1 hd (kk H locs ls hP hS hl)) k
theorem jm_lor {x y : Int64} (hd : decode (jm_cd Y) pc = .ok (.lor, 1)) (k : jm_Sim Y ce sl (pc + 1) L (.long (x ||| y) :: st) n mr σ m ρ) : jm_Sim Y ce sl pc L (.long y :: .long x :: st) n mr σ m ρ :=
  jm_go (fun _ _ _ _ _ _ _ _ _ _ _ base b _ C H locs ls hP hS hl kk => lv_lor C.1 C.2.1 hd (kk H locs ls hP hS hl)) k
theorem jm_lxor {x y : Int64} (hd : decode (jm_cd Y) pc = .ok (.lxor, 1)) (k : jm_Sim Y ce sl (pc + 1) L (.long (x ^^^ y) :: st) n mr σ m ρ) : jm_Sim Y ce sl pc L (.long y :: .long x :: st) n mr σ m ρ :=
  jm_go (fun _ _ _ _ _ _ _ _ _ _ _ base b _ C H locs ls hP hS hl kk => lv_lxor C.1 C.2.1 hd (kk H locs ls hP hS hl)) k
theorem jm_lushr {x : Int64} {y : Int32} (hd : decode (jm_cd Y) pc = .ok (.lushr, 1)) (k : jm_Sim Y ce sl (pc + 1) L (.long ((x.toUInt64 >>> (y.toInt64.toUInt64 &&& Int64.toUInt64 63)).toInt64) :: st) n mr σ m ρ) : jm_Sim Y ce sl pc L (.int y :: .long x :: st) n mr σ m ρ :=
  jm_go (fun _ _ _ _ _ _ _ _ _ _ _ base b _ C H locs ls hP hS hl kk => lv_lushr C.1 C.2.1 hd rfl (kk H locs ls hP hS hl)) k
theorem jm_lshl {x : Int64} {y : Int32} (hd : decode (jm_cd Y) pc = .ok (.lshl, 1)) (k : jm_Sim Y ce sl (pc + 1) L (.long (x <<< (y.toInt64 &&& 63)) :: st) n mr σ m ρ) : jm_Sim Y ce sl pc L (.int y :: .long x :: st) n mr σ m ρ :=
  jm_go (fun _ _ _ _ _ _ _ _ _ _ _ base b _ C H locs ls hP hS hl kk => lv_lshl C.1 C.2.1 hd rfl (kk H locs ls hP hS hl)) k
theorem jm_lshr {x : Int64} {y : Int32} (hd : decode (jm_cd Y) pc = .ok (.lshr, 1)) (k : jm_Sim Y ce sl (pc + 1) L (.long (x >>> (y.toInt64 &&& 63)) :: st) n mr σ m ρ) : jm_Sim Y ce sl pc L (.int y :: .long x :: st) n mr σ m ρ :=
  jm_go (fun _ _ _ _ _ _ _ _ _ _ _ base b _ C H locs ls hP hS hl kk => lv_lshr C.1 C.2.1 hd rfl (kk H locs ls hP hS hl)) k
theorem jm_lcmp {x y : Int64} (hd : decode (jm_cd Y) pc = .ok (.lcmp, 1)) (k : jm_Sim Y ce sl (pc + 1) L (.int (lg_cmp x y) :: st) n mr σ m ρ) : jm_Sim Y ce sl pc L (.long y :: .long x :: st) n mr σ m ρ :=
  jm_go (fun _ _ _ _ _ _ _ _ _ _ _ base b _ C H locs ls hP hS hl kk => W.lcmp C.1 C.2.1 hd (kk H locs ls hP hS hl)) k
theorem jm_i2l {x : Int32} (hd : decode (jm_cd Y) pc = .ok (.i2l, 1)) (k : jm_Sim Y ce sl (pc + 1) L (.long x.toInt64 :: st) n mr σ m ρ) : jm_Sim Y ce sl pc L (.int x :: st) n mr σ m ρ :=
  jm_go (fun _ _ _ _ _ _ _ _ _ _ _ base b _ C H locs ls hP hS hl kk => lv_i2l C.1 C.2.1 hd rfl (kk H locs ls hP hS hl)) k
theorem jm_l2i {x : Int64} (hd : decode (jm_cd Y) pc = .ok (.l2i, 1)) (k : jm_Sim Y ce sl (pc + 1) L (.int x.toInt32 :: st) n mr σ m ρ) : jm_Sim Y ce sl pc L (.long x :: st) n mr σ m ρ :=
  jm_go (fun _ _ _ _ _ _ _ _ _ _ _ base b _ C H locs ls hP hS hl kk => lv_l2i C.1 C.2.1 hd rfl (kk H locs ls hP hS hl)) k
theorem jm_i2b {x : Int32} (hd : decode (jm_cd Y) pc = .ok (.i2b, 1)) (k : jm_Sim Y ce sl (pc + 1) L (.int x.toInt8.toInt32 :: st) n mr σ m ρ) : jm_Sim Y ce sl pc L (.int x :: st) n mr σ m ρ :=
  jm_go (fun _ _ _ _ _ _ _ _ _ _ _ base b _ C H locs ls hP hS hl kk => lv_i2b C.1 C.2.1 hd rfl (kk H locs ls hP hS hl)) k
theorem jm_cat (base b : Nat) (v : Value) : (jm_tr base b v).category = v.category := by
  cases v with
  | ref i => cases i <;> rfl
  | _ => rfl
theorem jm_dup {v : Value} (hd : decode (jm_cd Y) pc = .ok (.dup, 1)) (hv : v.category = 1) (k : jm_Sim Y ce sl (pc + 1) L (v :: v :: st) n mr σ m ρ) : jm_Sim Y ce sl pc L (v :: st) n mr σ m ρ :=
  jm_go (fun _ _ _ _ _ _ _ _ _ _ _ base b _ C H locs ls hP hS hl kk => lv_dup C.1 C.2.1 hd ((jm_cat base b v).trans hv) (kk H locs ls hP hS hl)) k
theorem jm_pop {v : Value} (hd : decode (jm_cd Y) pc = .ok (.pop, 1)) (hv : v.category = 1) (k : jm_Sim Y ce sl (pc + 1) L (st) n mr σ m ρ) : jm_Sim Y ce sl pc L (v :: st) n mr σ m ρ :=
  jm_go (fun _ _ _ _ _ _ _ _ _ _ _ base b _ C H locs ls hP hS hl kk => lv_pop C.1 C.2.1 hd ((jm_cat base b v).trans hv) (kk H locs ls hP hS hl)) k
theorem jm_dup2 {v w : Value} (hd : decode (jm_cd Y) pc = .ok (.dup2, 1)) (hv : v.category = 1) (hw : w.category = 1) (k : jm_Sim Y ce sl (pc + 1) L (v :: w :: v :: w :: st) n mr σ m ρ) : jm_Sim Y ce sl pc L (v :: w :: st) n mr σ m ρ :=
  jm_go (fun _ _ _ _ _ _ _ _ _ _ _ base b _ C H locs ls hP hS hl kk => lv_dup2_11 C.1 C.2.1 hd ((jm_cat base b v).trans hv) ((jm_cat base b w).trans hw) (kk H locs ls hP hS hl)) k
theorem jm_iconst {i : Int} {v : Int32} (hd : decode (jm_cd Y) pc = .ok (.iconst i, 1)) (hv : Int32.ofInt i = v) (k : jm_Sim Y ce sl (pc + 1) L (.int v :: st) n mr σ m ρ) : jm_Sim Y ce sl pc L (st) n mr σ m ρ :=
  jm_go (fun _ _ _ _ _ _ _ _ _ _ _ base b _ C H locs ls hP hS hl kk => lv_iconst C.1 C.2.1 hd hv (kk H locs ls hP hS hl)) k
theorem jm_bipush {i : Int} {v : Int32} (hd : decode (jm_cd Y) pc = .ok (.bipush i, 2)) (hv : (Int8.ofInt i).toInt32 = v) (k : jm_Sim Y ce sl (pc + 2) L (.int v :: st) n mr σ m ρ) : jm_Sim Y ce sl pc L (st) n mr σ m ρ :=
  jm_go (fun _ _ _ _ _ _ _ _ _ _ _ base b _ C H locs ls hP hS hl kk => lv_bipush C.1 C.2.1 hd hv (kk H locs ls hP hS hl)) k
theorem jm_sipush {i : Int} {v : Int32} (hd : decode (jm_cd Y) pc = .ok (.sipush i, 3)) (hv : (Int16.ofInt i).toInt32 = v) (k : jm_Sim Y ce sl (pc + 3) L (.int v :: st) n mr σ m ρ) : jm_Sim Y ce sl pc L (st) n mr σ m ρ :=
  jm_go (fun _ _ _ _ _ _ _ _ _ _ _ base b _ C H locs ls hP hS hl kk => lv_sipush C.1 C.2.1 hd hv (kk H locs ls hP hS hl)) k
theorem jm_lconst {i : Fin 2} {v : Int64} (hd : decode (jm_cd Y) pc = .ok (.lconst i, 1)) (hv : Int64.ofNat (i : Nat) = v) (k : jm_Sim Y ce sl (pc + 1) L (.long v :: st) n mr σ m ρ) : jm_Sim Y ce sl pc L (st) n mr σ m ρ :=
  jm_go (fun _ _ _ _ _ _ _ _ _ _ _ base b _ C H locs ls hP hS hl kk => lv_lconst C.1 C.2.1 hd hv (kk H locs ls hP hS hl)) k
theorem jm_ldc {i : Nat} {v : Int32} (hd : decode (jm_cd Y) pc = .ok (.ldc i, 2)) (hc : Cond.constant (jm_nm Y).cls i v ∈ jm_tbl) (k : jm_Sim Y ce sl (pc + 2) L (.int v :: st) n mr σ m ρ) : jm_Sim Y ce sl pc L (st) n mr σ m ρ :=
  jm_go (fun _ _ _ _ _ _ _ _ _ _ _ base b _ C H locs ls hP hS hl kk => lv_ldc C.1 C.2.1 C.2.2.2.1 (C.2.2.2.2.1 _ hc) hd (kk H locs ls hP hS hl)) k
theorem jm_ldcw {i : Nat} {v : Int32} (hd : decode (jm_cd Y) pc = .ok (.ldc_w i, 3)) (hc : Cond.constant (jm_nm Y).cls i v ∈ jm_tbl) (k : jm_Sim Y ce sl (pc + 3) L (.int v :: st) n mr σ m ρ) : jm_Sim Y ce sl pc L (st) n mr σ m ρ :=
  jm_go (fun _ _ _ _ _ _ _ _ _ _ _ base b _ C H locs ls hP hS hl kk => lv_ldcw C.1 C.2.1 C.2.2.2.1 (C.2.2.2.2.1 _ hc) hd (kk H locs ls hP hS hl)) k
theorem jm_ldc2 {i : Nat} {v : Int64} (hd : decode (jm_cd Y) pc = .ok (.ldc2_w i, 3)) (hc : Cond.constantLong (jm_nm Y).cls i v ∈ jm_tbl) (k : jm_Sim Y ce sl (pc + 3) L (.long v :: st) n mr σ m ρ) : jm_Sim Y ce sl pc L (st) n mr σ m ρ :=
  jm_go (fun _ _ _ _ _ _ _ _ _ _ _ base b _ C H locs ls hP hS hl kk => lv_ldc2 C.1 C.2.1 C.2.2.2.1 (C.2.2.2.2.1 _ hc) hd (kk H locs ls hP hS hl)) k
theorem jm_lat {ls : Array Slot} {nL base b : Nat} (h : lv_has ls nL (L.map (jm_tp base b))) {k i : Nat} {v : Value} (hk : L[k]? = some (i, v)) : ls[i]? = some (.val (jm_tr base b v)) :=
  lv_at h k (by rw [List.getElem?_map, hk]; rfl)
theorem jm_tr_ref (base b i : Nat) (h : 1 ≤ i) : jm_tr base b (.ref i) = .ref (base + i) := by
  cases i with
  | zero => omega
  | succ i => rfl
theorem jm_tr_any (base b i : Nat) : ∃ a, jm_tr base b (.ref i) = .ref a := by
  cases i with
  | zero => exact ⟨b, rfl⟩
  | succ i => exact ⟨base + (i + 1), rfl⟩
theorem jm_flt (p : Nat → Nat → Bool) (base b : Nat) (l : List (Nat × Value)) : (l.map (jm_tp base b)).filter (fun q => p q.1 q.2.category) = (l.filter (fun q => p q.1 q.2.category)).map (jm_tp base b) := by
  rw [List.filter_map]
  congr 1
  apply List.filter_congr
  intro q _
  show p q.1 (jm_tr base b q.2).category = p q.1 q.2.category
  rw [jm_cat]
theorem jm_iload {i q : Nat} {x : Int32} (hd : decode (jm_cd Y) pc = .ok (.iload i, 2)) (hq : L[q]? = some (i, .int x)) (k : jm_Sim Y ce sl (pc + 2) L (.int x :: st) n mr σ m ρ) : jm_Sim Y ce sl pc L (st) n mr σ m ρ :=
  jm_go (fun _ _ _ _ _ _ _ _ _ _ _ base b _ C H locs ls hP hS hl kk => lv_iload C.1 C.2.1 hd (jm_lat hl hq) (kk H locs ls hP hS hl)) k
theorem jm_iload_n {i : Fin 4} {q : Nat} {x : Int32} (hd : decode (jm_cd Y) pc = .ok (.iload_n i, 1)) (hq : L[q]? = some ((i : Nat), .int x)) (k : jm_Sim Y ce sl (pc + 1) L (.int x :: st) n mr σ m ρ) : jm_Sim Y ce sl pc L (st) n mr σ m ρ :=
  jm_go (fun _ _ _ _ _ _ _ _ _ _ _ base b _ C H locs ls hP hS hl kk => lv_iload_n C.1 C.2.1 hd rfl (jm_lat hl hq) (kk H locs ls hP hS hl)) k
theorem jm_lload {i q : Nat} {x : Int64} (hd : decode (jm_cd Y) pc = .ok (.lload i, 2)) (hq : L[q]? = some (i, .long x)) (k : jm_Sim Y ce sl (pc + 2) L (.long x :: st) n mr σ m ρ) : jm_Sim Y ce sl pc L (st) n mr σ m ρ :=
  jm_go (fun _ _ _ _ _ _ _ _ _ _ _ base b _ C H locs ls hP hS hl kk => lv_lload C.1 C.2.1 hd (jm_lat hl hq) (kk H locs ls hP hS hl)) k
theorem jm_lload_n {i : Fin 4} {q : Nat} {x : Int64} (hd : decode (jm_cd Y) pc = .ok (.lload_n i, 1)) (hq : L[q]? = some ((i : Nat), .long x)) (k : jm_Sim Y ce sl (pc + 1) L (.long x :: st) n mr σ m ρ) : jm_Sim Y ce sl pc L (st) n mr σ m ρ :=
  jm_go (fun _ _ _ _ _ _ _ _ _ _ _ base b _ C H locs ls hP hS hl kk => lv_lload_n C.1 C.2.1 hd rfl (jm_lat hl hq) (kk H locs ls hP hS hl)) k
theorem jm_aload {i q x : Nat} (hd : decode (jm_cd Y) pc = .ok (.aload i, 2)) (hq : L[q]? = some (i, .ref x)) (k : jm_Sim Y ce sl (pc + 2) L (.ref x :: st) n mr σ m ρ) : jm_Sim Y ce sl pc L (st) n mr σ m ρ :=
  jm_go (fun _ _ _ _ _ _ _ _ _ _ _ base b _ C H locs ls hP hS hl kk => by
  obtain ⟨a, ha⟩ := jm_tr_any base b x
  have h1 := jm_lat hl hq
  have h2 := kk H locs ls hP hS hl
  rw [List.map_cons, ha] at h2
  rw [ha] at h1
  exact lv_aload C.1 C.2.1 hd h1 h2) k
theorem jm_aload_n {i : Fin 4} {q x : Nat} (hd : decode (jm_cd Y) pc = .ok (.aload_n i, 1)) (hq : L[q]? = some ((i : Nat), .ref x)) (k : jm_Sim Y ce sl (pc + 1) L (.ref x :: st) n mr σ m ρ) : jm_Sim Y ce sl pc L (st) n mr σ m ρ :=
  jm_go (fun _ _ _ _ _ _ _ _ _ _ _ base b _ C H locs ls hP hS hl kk => by
  obtain ⟨a, ha⟩ := jm_tr_any base b x
  have h1 := jm_lat hl hq
  have h2 := kk H locs ls hP hS hl
  rw [List.map_cons, ha] at h2
  rw [ha] at h1
  exact lv_aload_n C.1 C.2.1 hd rfl h1 h2) k
theorem jm_istore {i : Nat} {x : Int32} {L2 : List (Nat × Value)} (hd : decode (jm_cd Y) pc = .ok (.istore i, 2)) (hn : i < jm_ml Y) (h2 : (i, Value.int x) :: L.filter (fun q => !(q.1 == i) && !(q.1 + 1 == i && q.2.category == 2)) = L2) (k : jm_Sim Y ce sl (pc + 2) L2 st n mr σ m ρ) : jm_Sim Y ce sl pc L (.int x :: st) n mr σ m ρ :=
  jm_go (fun _ _ _ _ _ _ _ _ _ _ _ base b _ C H locs ls hP hS hl kk => lv_istore C.1 C.2.1 hd hl hn (lv' := L2.map (jm_tp base b)) (by rw [← h2, List.map_cons]; exact congrArg _ (jm_flt (fun a c => !(a == i) && !(a + 1 == i && c == 2)) base b L)) (fun ls2 h9 => kk H locs ls2 hP hS h9)) k
theorem jm_istore_n {kk : Fin 4} {i : Nat} {x : Int32} {L2 : List (Nat × Value)} (hd : decode (jm_cd Y) pc = .ok (.istore_n kk, 1)) (hi : (kk : Nat) = i) (hn : i < jm_ml Y) (h2 : (i, Value.int x) :: L.filter (fun q => !(q.1 == i) && !(q.1 + 1 == i && q.2.category == 2)) = L2) (k : jm_Sim Y ce sl (pc + 1) L2 st n mr σ m ρ) : jm_Sim Y ce sl pc L (.int x :: st) n mr σ m ρ :=
  jm_go (fun _ _ _ _ _ _ _ _ _ _ _ base b _ C H locs ls hP hS hl kk => lv_istore_n C.1 C.2.1 hd hi hl hn (lv' := L2.map (jm_tp base b)) (by rw [← h2, List.map_cons]; exact congrArg _ (jm_flt (fun a c => !(a == i) && !(a + 1 == i && c == 2)) base b L)) (fun ls2 h9 => kk H locs ls2 hP hS h9)) k
theorem jm_lstore {i : Nat} {x : Int64} {L2 : List (Nat × Value)} (hd : decode (jm_cd Y) pc = .ok (.lstore i, 2)) (hn : i + 1 < jm_ml Y) (h2 : (i, Value.long x) :: L.filter (fun q => !(q.1 == i) && (!(q.1 == i + 1) && !(q.1 + 1 == i && q.2.category == 2))) = L2) (k : jm_Sim Y ce sl (pc + 2) L2 st n mr σ m ρ) : jm_Sim Y ce sl pc L (.long x :: st) n mr σ m ρ :=
  jm_go (fun _ _ _ _ _ _ _ _ _ _ _ base b _ C H locs ls hP hS hl kk => lv_lstore C.1 C.2.1 hd hl hn (lv' := L2.map (jm_tp base b)) (by rw [← h2, List.map_cons]; exact congrArg _ (jm_flt (fun a c => !(a == i) && (!(a == i + 1) && !(a + 1 == i && c == 2))) base b L)) (fun ls2 h9 => kk H locs ls2 hP hS h9)) k
theorem jm_lstore_n {kk : Fin 4} {i : Nat} {x : Int64} {L2 : List (Nat × Value)} (hd : decode (jm_cd Y) pc = .ok (.lstore_n kk, 1)) (hi : (kk : Nat) = i) (hn : i + 1 < jm_ml Y) (h2 : (i, Value.long x) :: L.filter (fun q => !(q.1 == i) && (!(q.1 == i + 1) && !(q.1 + 1 == i && q.2.category == 2))) = L2) (k : jm_Sim Y ce sl (pc + 1) L2 st n mr σ m ρ) : jm_Sim Y ce sl pc L (.long x :: st) n mr σ m ρ :=
  jm_go (fun _ _ _ _ _ _ _ _ _ _ _ base b _ C H locs ls hP hS hl kk => lv_lstore_n C.1 C.2.1 hd hi hl hn (lv' := L2.map (jm_tp base b)) (by rw [← h2, List.map_cons]; exact congrArg _ (jm_flt (fun a c => !(a == i) && (!(a == i + 1) && !(a + 1 == i && c == 2))) base b L)) (fun ls2 h9 => kk H locs ls2 hP hS h9)) k
theorem jm_astore {i x : Nat} {L2 : List (Nat × Value)} (hd : decode (jm_cd Y) pc = .ok (.astore i, 2)) (hn : i < jm_ml Y) (h2 : (i, Value.ref x) :: L.filter (fun q => !(q.1 == i) && !(q.1 + 1 == i && q.2.category == 2)) = L2) (k : jm_Sim Y ce sl (pc + 2) L2 st n mr σ m ρ) : jm_Sim Y ce sl pc L (.ref x :: st) n mr σ m ρ :=
  jm_go (fun _ _ _ _ _ _ _ _ _ _ _ base b _ C H locs ls hP hS hl kk => by
  obtain ⟨a, ha⟩ := jm_tr_any base b x
  rw [List.map_cons, ha]
  exact lv_astore C.1 C.2.1 hd hl hn (lv' := L2.map (jm_tp base b)) (by rw [← h2, List.map_cons]; exact congr (congrArg List.cons (show (i, Value.ref a) = (i, jm_tr base b (.ref x)) by rw [ha])) (jm_flt (fun a c => !(a == i) && !(a + 1 == i && c == 2)) base b L)) (fun ls2 h9 => kk H locs ls2 hP hS h9)) k
theorem jm_astore_n {kk : Fin 4} {i x : Nat} {L2 : List (Nat × Value)} (hd : decode (jm_cd Y) pc = .ok (.astore_n kk, 1)) (hi : (kk : Nat) = i) (hn : i < jm_ml Y) (h2 : (i, Value.ref x) :: L.filter (fun q => !(q.1 == i) && !(q.1 + 1 == i && q.2.category == 2)) = L2) (k : jm_Sim Y ce sl (pc + 1) L2 st n mr σ m ρ) : jm_Sim Y ce sl pc L (.ref x :: st) n mr σ m ρ :=
  jm_go (fun _ _ _ _ _ _ _ _ _ _ _ base b _ C H locs ls hP hS hl kk => by
  obtain ⟨a, ha⟩ := jm_tr_any base b x
  rw [List.map_cons, ha]
  exact lv_astore_n C.1 C.2.1 hd hi hl hn (lv' := L2.map (jm_tp base b)) (by rw [← h2, List.map_cons]; exact congr (congrArg List.cons (show (i, Value.ref a) = (i, jm_tr base b (.ref x)) by rw [ha])) (jm_flt (fun a c => !(a == i) && !(a + 1 == i && c == 2)) base b L)) (fun ls2 h9 => kk H locs ls2 hP hS h9)) k
theorem jm_iinc {i q : Nat} {d : Int} {x v : Int32} {L2 : List (Nat × Value)} (hd : decode (jm_cd Y) pc = .ok (.iinc i d, 3)) (hq : L[q]? = some (i, .int x)) (hv : Int32.ofInt d = v) (hn : i < jm_ml Y) (h2 : (i, Value.int (x + v)) :: L.filter (fun q => !(q.1 == i) && !(q.1 + 1 == i && q.2.category == 2)) = L2) (k : jm_Sim Y ce sl (pc + 3) L2 st n mr σ m ρ) : jm_Sim Y ce sl pc L st n mr σ m ρ :=
  jm_go (fun _ _ _ _ _ _ _ _ _ _ _ base b _ C H locs ls hP hS hl kk => lv_iinc C.1 C.2.1 (k := q) hd hl (by rw [List.getElem?_map, hq]; rfl) (congrArg (fun z => x + z) hv) hn (lv' := L2.map (jm_tp base b)) (by rw [← h2, List.map_cons]; exact congrArg _ (jm_flt (fun a c => !(a == i) && !(a + 1 == i && c == 2)) base b L)) (fun ls2 h9 => kk H locs ls2 hP hS h9)) k
theorem jm_goto {off : Int} {tgt : Nat} (hd : decode (jm_cd Y) pc = .ok (.goto off, 3)) (ht : (pc : Int) + off = (tgt : Int)) (k : jm_Sim Y ce sl tgt L st n mr σ m ρ) : jm_Sim Y ce sl pc L st n mr σ m ρ :=
  jm_go (fun _ _ _ _ _ _ _ _ _ _ _ base b _ C H locs ls hP hS hl kk => lv_goto C.1 C.2.1 hd ht (kk H locs ls hP hS hl)) k
theorem jm_sub {L2 : List (Nat × Value)} (ks : List Nat) (h : lv_pick L ks = L2) (k : jm_Sim Y ce sl pc L2 st n mr σ m ρ) : jm_Sim Y ce sl pc L st n mr σ m ρ :=
  jm_go (fun _ _ _ _ _ _ _ _ _ _ _ base b _ C H locs ls hP hS hl kk => kk H locs ls hP hS (lv_sub hl ks (by
    rw [← h, lv_pick, lv_pick, List.map_filterMap]
    apply congrFun; apply congrArg; funext k
    rw [List.getElem?_map]))) k
theorem jm_ite {p : Prop} {inst : Decidable p} {m1 m2 : Option α} {Y : jm_Y} {ce sl pc pc1 pc2 : Nat} {L : List (Nat × Value)} {st st1 : List Value}
    (step : ∀ (pp : Program) (l : Launch) (e : Env) (s : State) (mm : MethodId) (args : Array Value) (below : List Frame) (meth : Method) (c : Code) (D : va_G) (g : ClassId × ClassId × ClassId) (base b : Nat) (Q : State → Prop), jm_Cx Y D g base b pp s mm args meth c → ∀ (H : Heap) (locs : List Loc) (ls : Array Slot),
      (p → W pp l e (jm_rm Y) s mm args below meth c H locs ce sl Q (F0 mm pc1 ls (st1.map (jm_tr base b)))) → (¬ p → W pp l e (jm_rm Y) s mm args below meth c H locs ce sl Q (F0 mm pc2 ls (st1.map (jm_tr base b)))) →
      W pp l e (jm_rm Y) s mm args below meth c H locs ce sl Q (F0 mm pc ls (st.map (jm_tr base b))))
    (k1 : jm_Sim Y ce sl pc1 L st1 n mr σ m1 ρ) (k2 : jm_Sim Y ce sl pc2 L st1 n mr σ m2 ρ) : jm_Sim Y ce sl pc L st n mr σ (@ite _ p inst m1 m2) ρ := by
  intro a ha pp l e s mm args below meth c D g base b Q C hr H locs ls hP hS hl
  refine step pp l e s mm args below meth c D g base b Q C H locs ls (fun h => ?_) (fun h => ?_)
  · rw [if_pos h] at ha
    exact k1 a ha pp l e s mm args below meth c D g base b Q C hr H locs ls hP hS hl
  · rw [if_neg h] at ha
    exact k2 a ha pp l e s mm args below meth c D g base b Q C hr H locs ls hP hS hl
theorem jm_if_eq {x : Int32} {off : Int} {tgt : Nat} {m1 m2 : Option α} {inst : Decidable (x = 0)} (hd : decode (jm_cd Y) pc = .ok (.ifCond .eq off, 3)) (ht : (pc : Int) + off = (tgt : Int)) (k1 : jm_Sim Y ce sl tgt L st n mr σ m1 ρ) (k2 : jm_Sim Y ce sl (pc + 3) L st n mr σ m2 ρ) : jm_Sim Y ce sl pc L (.int x :: st) n mr σ (@ite _ (x = 0) inst m1 m2) ρ :=
  jm_ite (fun _ _ _ _ _ _ _ _ _ _ _ _ _ _ C _ _ _ a b => lv_if_eq C.1 C.2.1 hd ht a b) k1 k2
theorem jm_if_lt {x : Int32} {off : Int} {tgt : Nat} {m1 m2 : Option α} {inst : Decidable (x < 0)} (hd : decode (jm_cd Y) pc = .ok (.ifCond .lt off, 3)) (ht : (pc : Int) + off = (tgt : Int)) (k1 : jm_Sim Y ce sl tgt L st n mr σ m1 ρ) (k2 : jm_Sim Y ce sl (pc + 3) L st n mr σ m2 ρ) : jm_Sim Y ce sl pc L (.int x :: st) n mr σ (@ite _ (x < 0) inst m1 m2) ρ :=
  jm_ite (fun _ _ _ _ _ _ _ _ _ _ _ _ _ _ C _ _ _ a b => lv_if_lt C.1 C.2.1 hd ht a b) k1 k2
theorem jm_if_ge {x : Int32} {off : Int} {tgt : Nat} {m1 m2 : Option α} {inst : Decidable (0 ≤ x)} (hd : decode (jm_cd Y) pc = .ok (.ifCond .ge off, 3)) (ht : (pc : Int) + off = (tgt : Int)) (k1 : jm_Sim Y ce sl tgt L st n mr σ m1 ρ) (k2 : jm_Sim Y ce sl (pc + 3) L st n mr σ m2 ρ) : jm_Sim Y ce sl pc L (.int x :: st) n mr σ (@ite _ (0 ≤ x) inst m1 m2) ρ :=
  jm_ite (fun _ _ _ _ _ _ _ _ _ _ _ _ _ _ C _ _ _ a b => lv_if_ge C.1 C.2.1 hd ht a b) k1 k2
theorem jm_if_gt {x : Int32} {off : Int} {tgt : Nat} {m1 m2 : Option α} {inst : Decidable (0 < x)} (hd : decode (jm_cd Y) pc = .ok (.ifCond .gt off, 3)) (ht : (pc : Int) + off = (tgt : Int)) (k1 : jm_Sim Y ce sl tgt L st n mr σ m1 ρ) (k2 : jm_Sim Y ce sl (pc + 3) L st n mr σ m2 ρ) : jm_Sim Y ce sl pc L (.int x :: st) n mr σ (@ite _ (0 < x) inst m1 m2) ρ :=
  jm_ite (fun _ _ _ _ _ _ _ _ _ _ _ _ _ _ C _ _ _ a b => lv_if_gt C.1 C.2.1 hd ht a b) k1 k2
theorem jm_if_le {x : Int32} {off : Int} {tgt : Nat} {m1 m2 : Option α} {inst : Decidable (x ≤ 0)} (hd : decode (jm_cd Y) pc = .ok (.ifCond .le off, 3)) (ht : (pc : Int) + off = (tgt : Int)) (k1 : jm_Sim Y ce sl tgt L st n mr σ m1 ρ) (k2 : jm_Sim Y ce sl (pc + 3) L st n mr σ m2 ρ) : jm_Sim Y ce sl pc L (.int x :: st) n mr σ (@ite _ (x ≤ 0) inst m1 m2) ρ :=
  jm_ite (fun _ _ _ _ _ _ _ _ _ _ _ _ _ _ C _ _ _ a b => lv_if_le C.1 C.2.1 hd ht a b) k1 k2
theorem jm_if_ne {x : Int32} {off : Int} {tgt : Nat} {m1 m2 : Option α} {inst : Decidable (x = 0)} (hd : decode (jm_cd Y) pc = .ok (.ifCond .ne off, 3)) (ht : (pc : Int) + off = (tgt : Int)) (k1 : jm_Sim Y ce sl (pc + 3) L st n mr σ m1 ρ) (k2 : jm_Sim Y ce sl tgt L st n mr σ m2 ρ) : jm_Sim Y ce sl pc L (.int x :: st) n mr σ (@ite _ (x = 0) inst m1 m2) ρ :=
  jm_ite (fun _ _ _ _ _ _ _ _ _ _ _ _ _ _ C _ _ _ a b => lv_if_ne C.1 C.2.1 hd ht b a) k1 k2
theorem jm_icmp_eq {x y : Int32} {off : Int} {tgt : Nat} {m1 m2 : Option α} {inst : Decidable (x = y)} (hd : decode (jm_cd Y) pc = .ok (.if_icmp .eq off, 3)) (ht : (pc : Int) + off = (tgt : Int)) (k1 : jm_Sim Y ce sl tgt L st n mr σ m1 ρ) (k2 : jm_Sim Y ce sl (pc + 3) L st n mr σ m2 ρ) : jm_Sim Y ce sl pc L (.int y :: .int x :: st) n mr σ (@ite _ (x = y) inst m1 m2) ρ :=
  jm_ite (fun _ _ _ _ _ _ _ _ _ _ _ _ _ _ C _ _ _ a b => lv_icmp_eq C.1 C.2.1 hd ht a b) k1 k2
theorem jm_icmp_lt {x y : Int32} {off : Int} {tgt : Nat} {m1 m2 : Option α} {inst : Decidable (x < y)} (hd : decode (jm_cd Y) pc = .ok (.if_icmp .lt off, 3)) (ht : (pc : Int) + off = (tgt : Int)) (k1 : jm_Sim Y ce sl tgt L st n mr σ m1 ρ) (k2 : jm_Sim Y ce sl (pc + 3) L st n mr σ m2 ρ) : jm_Sim Y ce sl pc L (.int y :: .int x :: st) n mr σ (@ite _ (x < y) inst m1 m2) ρ :=
  jm_ite (fun _ _ _ _ _ _ _ _ _ _ _ _ _ _ C _ _ _ a b => lv_icmp_lt C.1 C.2.1 hd ht a b) k1 k2
theorem jm_icmp_ge {x y : Int32} {off : Int} {tgt : Nat} {m1 m2 : Option α} {inst : Decidable (y ≤ x)} (hd : decode (jm_cd Y) pc = .ok (.if_icmp .ge off, 3)) (ht : (pc : Int) + off = (tgt : Int)) (k1 : jm_Sim Y ce sl tgt L st n mr σ m1 ρ) (k2 : jm_Sim Y ce sl (pc + 3) L st n mr σ m2 ρ) : jm_Sim Y ce sl pc L (.int y :: .int x :: st) n mr σ (@ite _ (y ≤ x) inst m1 m2) ρ :=
  jm_ite (fun _ _ _ _ _ _ _ _ _ _ _ _ _ _ C _ _ _ a b => lv_icmp_ge C.1 C.2.1 hd ht a b) k1 k2
theorem jm_icmp_gt {x y : Int32} {off : Int} {tgt : Nat} {m1 m2 : Option α} {inst : Decidable (y < x)} (hd : decode (jm_cd Y) pc = .ok (.if_icmp .gt off, 3)) (ht : (pc : Int) + off = (tgt : Int)) (k1 : jm_Sim Y ce sl tgt L st n mr σ m1 ρ) (k2 : jm_Sim Y ce sl (pc + 3) L st n mr σ m2 ρ) : jm_Sim Y ce sl pc L (.int y :: .int x :: st) n mr σ (@ite _ (y < x) inst m1 m2) ρ :=
  jm_ite (fun _ _ _ _ _ _ _ _ _ _ _ _ _ _ C _ _ _ a b => lv_icmp_gt C.1 C.2.1 hd ht a b) k1 k2
theorem jm_icmp_le {x y : Int32} {off : Int} {tgt : Nat} {m1 m2 : Option α} {inst : Decidable (x ≤ y)} (hd : decode (jm_cd Y) pc = .ok (.if_icmp .le off, 3)) (ht : (pc : Int) + off = (tgt : Int)) (k1 : jm_Sim Y ce sl tgt L st n mr σ m1 ρ) (k2 : jm_Sim Y ce sl (pc + 3) L st n mr σ m2 ρ) : jm_Sim Y ce sl pc L (.int y :: .int x :: st) n mr σ (@ite _ (x ≤ y) inst m1 m2) ρ :=
  jm_ite (fun _ _ _ _ _ _ _ _ _ _ _ _ _ _ C _ _ _ a b => lv_icmp_le C.1 C.2.1 hd ht a b) k1 k2
theorem jm_icmp_ne {x y : Int32} {off : Int} {tgt : Nat} {m1 m2 : Option α} {inst : Decidable (x = y)} (hd : decode (jm_cd Y) pc = .ok (.if_icmp .ne off, 3)) (ht : (pc : Int) + off = (tgt : Int)) (k1 : jm_Sim Y ce sl (pc + 3) L st n mr σ m1 ρ) (k2 : jm_Sim Y ce sl tgt L st n mr σ m2 ρ) : jm_Sim Y ce sl pc L (.int y :: .int x :: st) n mr σ (@ite _ (x = y) inst m1 m2) ρ :=
  jm_ite (fun _ _ _ _ _ _ _ _ _ _ _ _ _ _ C _ _ _ a b => lv_icmp_ne C.1 C.2.1 hd ht b a) k1 k2

end JR
