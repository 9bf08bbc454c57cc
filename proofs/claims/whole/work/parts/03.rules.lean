abbrev jm_S : Type := (FieldType × Nat) ⊕ Nat
def jm_tab : List jm_S := [.inl (.int, 0), .inr 7, .inl (.byte, 300), .inr 4, .inl (.int, 4), .inr 2, .inl (.int, 10), .inl (.int, 10), .inl (.int, 10), .inl (.int, 10), .inl (.int, 10), .inl (.int, 10), .inl (.long, 10), .inl (.long, 10), .inl (.long, 100), .inr 2, .inl (.int, 10), .inl (.int, 10), .inl (.int, 10), .inl (.int, 10), .inl (.int, 10), .inl (.int, 10), .inl (.long, 10), .inl (.long, 10), .inl (.long, 100), .inr 2, .inl (.int, 10), .inl (.int, 10), .inl (.int, 10), .inl (.int, 10), .inl (.int, 10), .inl (.int, 10), .inl (.long, 10), .inl (.long, 10), .inl (.long, 100), .inr 2, .inl (.int, 10), .inl (.int, 10), .inl (.int, 10), .inl (.int, 10), .inl (.int, 10), .inl (.int, 10), .inl (.long, 10), .inl (.long, 10), .inl (.long, 100), .inr 3, .inl (.int, 10), .inl (.long, 10), .inr 0, .inl (.int, 10), .inl (.int, 10), .inl (.int, 10), .inl (.int, 100), .inr 5, .inl (.int, 72), .inr 6, .inl (.int, 4), .inr 1, .inl (.int, 3), .inr 8, .inl (.int, 300), .inl (.int, 4), .inl (.int, 40), .inl (.int, 40), .inl (.int, 40), .inl (.int, 40), .inl (.int, 40), .inl (.int, 4), .inl (.int, 860), .inl (.int, 9), .inl (.int, 30), .inl (.int, 72), .inl (.int, 3), .inl (.int, 4), .inl (.int, 60), .inl (.int, 10), .inl (.int, 10), .inl (.int, 10), .inl (.int, 4)]
def jm_sh (i : Nat) : jm_S := jm_tab.getD i (.inl (.int, 0))
/-! memory: whole numbers and longs of each cell by place; references apart -/
abbrev jm_M : Type := (Nat → Nat → Int32) × (Nat → Nat → Int64)
abbrev jm_R : Type := Nat → Nat → Option Nat
abbrev jm_Y : Type := MethodName × ByteArray × Nat × Option FieldType × Room × Option (Nat × (Nat → Int32))
def jm_nm (Y : jm_Y) : MethodName := Y.1
def jm_cd (Y : jm_Y) : ByteArray := Y.2.1
def jm_ml (Y : jm_Y) : Nat := Y.2.2.1
def jm_rt (Y : jm_Y) : Option FieldType := Y.2.2.2.1
def jm_rm (Y : jm_Y) : Room := Y.2.2.2.2.1
def jm_sc (Y : jm_Y) : Option (Nat × (Nat → Int32)) := Y.2.2.2.2.2
def jm_rv (base : Nat) (r : Option Nat) : Value := match r with
  | none => .null
  | some q => .ref (base + q)
def jm_fv (base : Nat) (mr : jm_R) (σ : jm_M) (i k : Nat) (ty : FieldType) : Value := match ty with
  | .long => .long (σ.2 i k)
  | .array _ => jm_rv base (mr i k)
  | .object _ => jm_rv base (mr i k)
  | _ => .int (σ.1 i k)
def jm_ar (g : ClassId × ClassId × ClassId) (σ : jm_M) (i : Nat) (ty : FieldType) (len : Nat) : va_E := match ty with
  | .long => .inl (g.2.2, len, .inr (.inl (σ.2 i)))
  | .byte => .inl (g.2.1, len, .inl (σ.1 i))
  | _ => .inl (g.1, len, .inl (σ.1 i))
def jm_cell (g : ClassId × ClassId × ClassId) (base : Nat) (mr : jm_R) (σ : jm_M) (i : Nat) : va_E := match jm_sh i with
  | .inl q => jm_ar g σ i q.1 q.2
  | .inr ci => .inr (ci, (jm_fts ci).mapIdx (fun k ty => jm_fv base mr σ i k ty))
def jm_ws (g : ClassId × ClassId × ClassId) (base n : Nat) (mr : jm_R) (σ : jm_M) : va_W := (List.range n).map (fun i => (base + (i + 1), jm_cell g base mr σ (i + 1)))
def jm_Rep (D : va_G) (g : ClassId × ClassId × ClassId) (base n : Nat) (mr : jm_R) (σ : jm_M) (H : Heap) : Prop := H.size = base + n + 1 ∧ va_P D vwCl (jm_ws g base n mr σ) H
def jm_tr (base b : Nat) (v : Value) : Value := match v with
  | .ref 0 => .ref b
  | .ref (i + 1) => .ref (base + (i + 1))
  | v => v
def jm_tp (base b : Nat) (q : Nat × Value) : Nat × Value := (q.1, jm_tr base b q.2)
def jm_ty (g : ClassId × ClassId × ClassId) : List (ClassId × FieldType) := [(g.1, .int), (g.2.1, .byte), (g.2.2, .long)]
def jm_N (s : State) : Prop := ∀ q ∈ jm_nest, va_Nw (.methodLinkNest q.1 q.2.1 q.2.2.1 q.2.2.2) s
def jm_Cx (Y : jm_Y) (D : va_G) (g : ClassId × ClassId × ClassId) (base b : Nat) (p : Program) (s : State) (m : MethodId) (args : Array Value) (meth : Method) (c : Code) : Prop :=
  p.tables.exec = Jvm.exec ∧ c.code = jm_cd Y ∧ c.maxLocals = jm_ml Y ∧ s.vm.findClass (jm_nm Y).cls = some m.cls ∧ (∀ w ∈ jm_tbl, w.before args s = true) ∧ va_K D vwCl (jm_ty g) s ∧ base < s.heap.size ∧ meth.locks = false ∧ ((jm_nm Y).name = "<init>" → meth.name = "<init>") ∧ (∀ q, jm_sc Y = some q → va_X b q.1 q.2 s s.heap ∧ b < s.heap.size ∧ b ≤ base) ∧ jm_N s
def jm_A (base : Nat) : Nat → Prop := fun q => base < q
/-- a place of the code where the answer v goes back -/
def jm_isR (Y : jm_Y) (pc : Nat) (v : Option Value) : Prop := match v with
  | none => decode (jm_cd Y) pc = .ok (.return_, 1) ∧ jm_rt Y = none
  | some (.int x) => decode (jm_cd Y) pc = .ok (.ireturn, 1) ∧ ∃ ty, jm_rt Y = some ty ∧ narrow ty (.int x) = .int x
  | some (.long _) => decode (jm_cd Y) pc = .ok (.lreturn, 1) ∧ jm_rt Y = some .long
  | _ => False
def jm_Ev (Y : jm_Y) (ce sl pc : Nat) (L : List (Nat × Value)) (st : List Value) (n : Nat) (mr : jm_R) (σ : jm_M) (r : Option Value × Nat × jm_R × jm_M) : Prop :=
  ∀ (p : Program) (l : Launch) (e : Env) (s : State) (m : MethodId) (args : Array Value) (below : List Frame) (meth : Method) (c : Code) (D : va_G) (g : ClassId × ClassId × ClassId) (base b : Nat) (Q : State → Prop), jm_Cx Y D g base b p s m args meth c →
    (∀ (H : Heap) (locs : List Loc) (ls : Array Slot) (pc' : Nat), jm_Rep D g base r.2.1 r.2.2.1 r.2.2.2 H → va_S (jm_A base) s.heap H locs → jm_isR Y pc' r.1 → W p l e (jm_rm Y) s m args below meth c H locs (jm_rm Y).cells (jm_rm Y).slots Q (F0 m pc' ls r.1.toList)) →
    ∀ (H : Heap) (locs : List Loc) (ls : Array Slot), jm_Rep D g base n mr σ H → va_S (jm_A base) s.heap H locs → lv_has ls (jm_ml Y) (L.map (jm_tp base b)) → W p l e (jm_rm Y) s m args below meth c H locs ce sl Q (F0 m pc ls (st.map (jm_tr base b)))
/-- the machine at this place does what the pure program m says -/
def jm_Sim {α : Type} (Y : jm_Y) (ce sl pc : Nat) (L : List (Nat × Value)) (st : List Value) (n : Nat) (mr : jm_R) (σ : jm_M) (m : Option α) (ρ : α → Option Value × Nat × jm_R × jm_M) : Prop := ∀ a, m = some a → jm_Ev Y ce sl pc L st n mr σ (ρ a)
/-! pure programs' words -/
def jm_inb (j : Int32) (len : Nat) : Bool := decide (0 ≤ j.toInt) && decide (j.toInt < (len : Int))
def jm_si (σ : jm_M) (i k : Nat) (v : Int32) : jm_M := (fun a b => if a = i ∧ b = k then v else σ.1 a b, σ.2)
def jm_sl (σ : jm_M) (i k : Nat) (v : Int64) : jm_M := (σ.1, fun a b => if a = i ∧ b = k then v else σ.2 a b)
def jm_z (σ : jm_M) (i : Nat) : jm_M := (fun a b => if a = i then 0 else σ.1 a b, fun a b => if a = i then 0 else σ.2 a b)
def jm_sr (mr : jm_R) (i k q : Nat) : jm_R := fun a b => if a = i ∧ b = k then some q else mr a b
def jm_zr (mr : jm_R) (i : Nat) : jm_R := fun a b => if a = i then none else mr a b
def jm_ldi {α : Type} (σ : jm_M) (i len : Nat) (j : Int32) (f : Int32 → Option α) : Option α := if jm_inb j len = true then f (σ.1 i j.toNatClampNeg) else none
def jm_ldl {α : Type} (σ : jm_M) (i len : Nat) (j : Int32) (f : Int64 → Option α) : Option α := if jm_inb j len = true then f (σ.2 i j.toNatClampNeg) else none
def jm_sti {α : Type} (σ : jm_M) (i len : Nat) (j : Int32) (v : Int32) (f : jm_M → Option α) : Option α := if jm_inb j len = true then f (jm_si σ i j.toNatClampNeg v) else none
def jm_stl {α : Type} (σ : jm_M) (i len : Nat) (j : Int32) (v : Int64) (f : jm_M → Option α) : Option α := if jm_inb j len = true then f (jm_sl σ i j.toNatClampNeg v) else none
def jm_min (x y : Int32) : Int32 := if y < x then y else x
def jm_max (x y : Int32) : Int32 := if x < y then y else x
def jm_ev {α : Type} (x : jm_M) (f : jm_M → Option α) : Option α := f x
def jm_vi {α : Type} (x : Int32) (f : Int32 → Option α) : Option α := f x
def jm_vl {α : Type} (x : Int64) (f : Int64 → Option α) : Option α := f x
def jm_bd {α β : Type} (m : Option β) (f : β → Option α) : Option α := m.bind f
theorem jm_inb_vp {j : Int32} {len : Nat} (h : jm_inb j len = true) : vp_in j len := by
  unfold jm_inb at h
  rw [Bool.and_eq_true, decide_eq_true_eq, decide_eq_true_eq] at h
  exact vp_in_iff.mpr h
/-! the world -/
theorem jm_at {g : ClassId × ClassId × ClassId} {base n : Nat} {mr : jm_R} {σ : jm_M} {i : Nat} (h1 : 1 ≤ i) (h2 : i ≤ n) : (jm_ws g base n mr σ)[i - 1]? = some (base + i, jm_cell g base mr σ i) := by
  have e : i - 1 + 1 = i := Nat.sub_add_cancel h1
  rw [jm_ws, List.getElem?_map, List.getElem?_range (by omega), Option.map_some, e]
theorem jm_ws_get {g : ClassId × ClassId × ClassId} {base n : Nat} {mr : jm_R} {σ : jm_M} {k : Nat} {q : Nat × va_E} (h : (jm_ws g base n mr σ)[k]? = some q) : k < n ∧ q.1 = base + (k + 1) := by
  rw [jm_ws, List.getElem?_map] at h
  by_cases hk : k < n
  · rw [List.getElem?_range hk, Option.map_some] at h
    cases h
    exact ⟨hk, rfl⟩
  · rw [List.getElem?_eq_none (by rw [List.length_range]; omega)] at h
    cases h
theorem jm_D {g : ClassId × ClassId × ClassId} {base n : Nat} {mr : jm_R} {σ : jm_M} : va_D (jm_A base) (jm_ws g base n mr σ) := by
  refine ⟨fun i j p q hp hq e => ?_, fun k q hq => ?_⟩
  · have h1 := jm_ws_get hp
    have h2 := jm_ws_get hq
    omega
  · have h1 := jm_ws_get hq
    show base < q.1
    omega
theorem jm_ws_set {g : ClassId × ClassId × ClassId} {base n : Nat} {mr mr' : jm_R} {σ σ' : jm_M} {i : Nat} (h1 : 1 ≤ i) (hc : ∀ j, j ≠ i → jm_cell g base mr' σ' j = jm_cell g base mr σ j) : (jm_ws g base n mr σ).set (i - 1) (base + i, jm_cell g base mr' σ' i) = jm_ws g base n mr' σ' := by
  apply List.ext_getElem?
  intro k
  rw [List.getElem?_set]
  by_cases hk : i - 1 = k
  · subst hk
    have e : i - 1 + 1 = i := Nat.sub_add_cancel h1
    rw [if_pos rfl]
    by_cases hl : i - 1 < (jm_ws g base n mr σ).length
    · rw [if_pos hl]
      have hn : i - 1 < n := by simpa [jm_ws] using hl
      rw [jm_ws, List.getElem?_map, List.getElem?_range hn, Option.map_some, e]
    · rw [if_neg hl]
      have hn : ¬ i - 1 < n := by simpa [jm_ws] using hl
      rw [List.getElem?_eq_none (by simp [jm_ws]; omega)]
  · rw [if_neg hk, jm_ws, jm_ws, List.getElem?_map, List.getElem?_map]
    by_cases hn : k < n
    · rw [List.getElem?_range hn, Option.map_some, Option.map_some, hc (k + 1) (by omega)]
    · rw [List.getElem?_eq_none (by simp; omega)]
      rfl
theorem jm_cell_eq {g : ClassId × ClassId × ClassId} {base : Nat} {mr mr' : jm_R} {σ σ' : jm_M} {j : Nat} (h1 : σ'.1 j = σ.1 j) (h2 : σ'.2 j = σ.2 j) (h3 : mr' j = mr j) : jm_cell g base mr' σ' j = jm_cell g base mr σ j := by
  unfold jm_cell
  cases jm_sh j with
  | inl q =>
    unfold jm_ar
    simp only [h1, h2]
  | inr ci =>
    simp only [jm_fv, h1, h2, h3]
theorem jm_si_o {σ : jm_M} {i k j : Nat} {v : Int32} (h : j ≠ i) : (jm_si σ i k v).1 j = σ.1 j := by
  funext b
  simp [jm_si, h]
theorem jm_sl_o {σ : jm_M} {i k j : Nat} {v : Int64} (h : j ≠ i) : (jm_sl σ i k v).2 j = σ.2 j := by
  funext b
  simp [jm_sl, h]
theorem jm_sr_o {mr : jm_R} {i k j q : Nat} (h : j ≠ i) : jm_sr mr i k q j = mr j := by
  funext b
  simp [jm_sr, h]
theorem jm_si_i {σ : jm_M} {i k : Nat} {v : Int32} : (jm_si σ i k v).1 i = upd (σ.1 i) k v := by
  funext b
  by_cases h : b = k <;> simp [jm_si, upd, h]
theorem jm_sl_i {σ : jm_M} {i k : Nat} {v : Int64} : (jm_sl σ i k v).2 i = vp_updL (σ.2 i) k v := by
  funext b
  by_cases h : b = k <;> simp [jm_sl, vp_updL, h]
theorem jm_go {α : Type} {Y : jm_Y} {ce sl pc ce2 sl2 pc2 : Nat} {L L2 : List (Nat × Value)} {st st2 : List Value} {n n2 : Nat} {mr mr2 : jm_R} {σ σ2 : jm_M} {m : Option α} {ρ : α → Option Value × Nat × jm_R × jm_M}
    (step : ∀ (p : Program) (l : Launch) (e : Env) (s : State) (mm : MethodId) (args : Array Value) (below : List Frame) (meth : Method) (c : Code) (D : va_G) (g : ClassId × ClassId × ClassId) (base b : Nat) (Q : State → Prop), jm_Cx Y D g base b p s mm args meth c → ∀ (H : Heap) (locs : List Loc) (ls : Array Slot), jm_Rep D g base n mr σ H → va_S (jm_A base) s.heap H locs → lv_has ls (jm_ml Y) (L.map (jm_tp base b)) →
      (∀ (H2 : Heap) (locs2 : List Loc) (ls2 : Array Slot), jm_Rep D g base n2 mr2 σ2 H2 → va_S (jm_A base) s.heap H2 locs2 → lv_has ls2 (jm_ml Y) (L2.map (jm_tp base b)) → W p l e (jm_rm Y) s mm args below meth c H2 locs2 ce2 sl2 Q (F0 mm pc2 ls2 (st2.map (jm_tr base b)))) →
      W p l e (jm_rm Y) s mm args below meth c H locs ce sl Q (F0 mm pc ls (st.map (jm_tr base b))))
    (k : jm_Sim Y ce2 sl2 pc2 L2 st2 n2 mr2 σ2 m ρ) : jm_Sim Y ce sl pc L st n mr σ m ρ :=
  fun a ha p l e s mm args below meth c D g base b Q C hr H locs ls hP hS hl => step p l e s mm args below meth c D g base b Q C H locs ls hP hS hl (fun H2 locs2 ls2 hP2 hS2 hl2 => k a ha p l e s mm args below meth c D g base b Q C hr H2 locs2 ls2 hP2 hS2 hl2)
section JR
variable {α : Type} {Y : jm_Y} {ce sl pc : Nat} {L : List (Nat × Value)} {st : List Value} {n : Nat} {mr : jm_R} {σ : jm_M} {m : Option α} {ρ : α → Option Value × Nat × jm_R × jm_M}
theorem jm_iadd {x y : Int32} (hd : decode (jm_cd Y) pc = .ok (.iadd, 1)) (k : jm_Sim Y ce sl (pc + 1) L (.int (x + y) :: st) n mr σ m ρ) : jm_Sim Y ce sl pc L (.int y :: .int x :: st) n mr σ m ρ :=
  jm_go (fun _ _ _ _ _ _ _ _ _ _ _ base b _ C H locs ls hP hS hl kk => lv_iadd C.1 C.2.1 hd (kk H locs ls hP hS hl)) k
theorem jm_isub {x y : Int32} (hd : decode (jm_cd Y) pc = .ok (.isub, 1)) (k : jm_Sim Y ce sl (pc + 1) L (.int (x - y) :: st) n mr σ m ρ) : jm_Sim Y ce sl pc L (.int y :: .int x :: st) n mr σ m ρ :=
  jm_go (fun _ _ _ _ _ _ _ _ _ _ _ base b _ C H locs ls hP hS hl kk => lv_isub C.1 C.2.1 hd (kk H locs ls hP hS hl)) k
theorem jm_imul {x y : Int32} (hd : decode (jm_cd Y) pc = .ok (.imul, 1)) (k : jm_Sim Y ce sl (pc + 1) L (.int (x * y) :: st) n mr σ m ρ) : jm_Sim Y ce sl pc L (.int y :: .int x :: st) n mr σ m ρ :=
  jm_go (fun _ _ _ _ _ _ _ _ _ _ _ base b _ C H locs ls hP hS hl kk => lv_imul C.1 C.2.1 hd (kk H locs ls hP hS hl)) k
theorem jm_iand {x y : Int32} (hd : decode (jm_cd Y) pc = .ok (.iand, 1)) (k : jm_Sim Y ce sl (pc + 1) L (.int (x &&& y) :: st) n mr σ m ρ) : jm_Sim Y ce sl pc L (.int y :: .int x :: st) n mr σ m ρ :=
  jm_go (fun _ _ _ _ _ _ _ _ _ _ _ base b _ C H locs ls hP hS hl kk => lv_iand C.1 C.2.1 hd (kk H locs ls hP hS hl)) k
theorem jm_ior {x y : Int32} (hd : decode (jm_cd Y) pc = .ok (.ior, 1)) (k : jm_Sim Y ce sl (pc + 1) L (.int (x ||| y) :: st) n mr σ m ρ) : jm_Sim Y ce sl pc L (.int y :: .int x :: st) n mr σ m ρ :=
  jm_go (fun _ _ _ _ _ _ _ _ _ _ _ base b _ C H locs ls hP hS hl kk => lv_ior C.1 C.2.1 hd (kk H locs ls hP hS hl)) k
theorem jm_ixor {x y : Int32} (hd : decode (jm_cd Y) pc = .ok (.ixor, 1)) (k : jm_Sim Y ce sl (pc + 1) L (.int (x ^^^ y) :: st) n mr σ m ρ) : jm_Sim Y ce sl pc L (.int y :: .int x :: st) n mr σ m ρ :=
  jm_go (fun _ _ _ _ _ _ _ _ _ _ _ base b _ C H locs ls hP hS hl kk => lv_ixor C.1 C.2.1 hd (kk H locs ls hP hS hl)) k
theorem jm_ishl {x y : Int32} (hd : decode (jm_cd Y) pc = .ok (.ishl, 1)) (k : jm_Sim Y ce sl (pc + 1) L (.int (x <<< (y &&& 31)) :: st) n mr σ m ρ) : jm_Sim Y ce sl pc L (.int y :: .int x :: st) n mr σ m ρ :=
  jm_go (fun _ _ _ _ _ _ _ _ _ _ _ base b _ C H locs ls hP hS hl kk => lv_ishl C.1 C.2.1 hd (kk H locs ls hP hS hl)) k
theorem jm_ishr {x y : Int32} (hd : decode (jm_cd Y) pc = .ok (.ishr, 1)) (k : jm_Sim Y ce sl (pc + 1) L (.int (x >>> (y &&& 31)) :: st) n mr σ m ρ) : jm_Sim Y ce sl pc L (.int y :: .int x :: st) n mr σ m ρ :=
  jm_go (fun _ _ _ _ _ _ _ _ _ _ _ base b _ C H locs ls hP hS hl kk => lv_ishr C.1 C.2.1 hd (kk H locs ls hP hS hl)) k
theorem jm_iushr {x y : Int32} (hd : decode (jm_cd Y) pc = .ok (.iushr, 1)) (k : jm_Sim Y ce sl (pc + 1) L (.int ((x.toUInt32 >>> (y.toUInt32 &&& Int32.toUInt32 31)).toInt32) :: st) n mr σ m ρ) : jm_Sim Y ce sl pc L (.int y :: .int x :: st) n mr σ m ρ :=
  jm_go (fun _ _ _ _ _ _ _ _ _ _ _ base b _ C H locs ls hP hS hl kk => lv_iushr C.1 C.2.1 hd rfl (kk H locs ls hP hS hl)) k
theorem jm_idiv {x y : Int32} (hd : decode (jm_cd Y) pc = .ok (.idiv, 1)) (hne : ¬ y = 0) (k : jm_Sim Y ce sl (pc + 1) L (.int (x / y) :: st) n mr σ m ρ) : jm_Sim Y ce sl pc L (.int y :: .int x :: st) n mr σ m ρ :=
  jm_go (fun _ _ _ _ _ _ _ _ _ _ _ base b _ C H locs ls hP hS hl kk => lv_idiv C.1 C.2.1 hd hne (kk H locs ls hP hS hl)) k
theorem jm_land {x y : Int64} (hd : decode (jm_cd Y) pc = .ok (.land, 1)) (k : jm_Sim Y ce sl (pc + 1) L (.long (x &&& y) :: st) n mr σ m ρ) : jm_Sim Y ce sl pc L (.long y :: .long x :: st) n mr σ m ρ :=
  jm_go (fun _ _ _ _ _ _ _ _ _ _ _ base b _ C H locs ls hP hS hl kk => lv_land C.1 C.2.1 hd (kk H locs ls hP hS hl)) k
theorem jm_lor {x y : Int64} (hd : decode (jm_cd Y) pc = .ok (.lor, 1)) (k : jm_Sim Y ce sl (pc + 1) L (.long (x ||| y) :: st) n mr σ m ρ) : jm_Sim Y ce sl pc L (.long y :: .long x :: st) n mr σ m ρ :=
  jm_go (fun _ _ _ _ _ _ _ _ _ _ _ base b _ C H locs ls hP hS hl kk => lv_lor C.1 C.2.1 hd (kk H locs ls hP hS hl)) k
theorem jm_lxor {x y : Int64} (hd : decode (jm_cd Y) pc = .ok (.lxor, 1)) (k : jm_Sim Y ce sl (pc + 1) L (.long (x ^^^ y) :: st) n mr σ m ρ) : jm_Sim Y ce sl pc L (.long y :: .long x :: st) n mr σ m ρ :=
  jm_go (fun _ _ _ _ _ _ _ _ _ _ _ base b _ C H locs ls hP hS hl kk => lv_lxor C.1 C.2.1 hd (kk H locs ls hP hS hl)) k
theorem jm_lushr {x : Int64} {y : Int32} (hd : decode (jm_cd Y) pc = .ok (.lushr, 1)) (k : jm_Sim Y ce sl (pc + 1) L (.long ((x.toUInt64 >>> (y.toInt64.toUInt64 &&& Int64.toUInt64 63)).toInt64) :: st) n mr σ m ρ) : jm_Sim Y ce sl pc L (.int y :: .long x :: st) n mr σ m ρ :=
  jm_go (fun _ _ _ _ _ _ _ _ _ _ _ base b _ C H locs ls hP hS hl kk => lv_lushr C.1 C.2.1 hd rfl (kk H locs ls hP hS hl)) k
theorem jm_lshl {x : Int64} {y : Int32} (hd : decode (jm_cd Y) pc = .ok (.lshl, 1)) (k : jm_Sim Y ce sl (pc + 1) L (.long (x <<< (y.toInt64 &&& 63)) :: st) n mr σ m ρ) : jm_Sim Y ce sl pc L (.int y :: .long x :: st) n mr σ m ρ :=
  jm_go (fun _ _ _ _ _ _ _ _ _ _ _ base b _ C H locs ls hP hS hl kk => lv_lshl C.1 C.2.1 hd rfl (kk H locs ls hP hS hl)) k
theorem jm_lshr {x : Int64} {y : Int32} (hd : decode (jm_cd Y) pc = .ok (.lshr, 1)) (k : jm_Sim Y ce sl (pc + 1) L (.long (x >>> (y.toInt64 &&& 63)) :: st) n mr σ m ρ) : jm_Sim Y ce sl pc L (.int y :: .long x :: st) n mr σ m ρ :=
  jm_go (fun _ _ _ _ _ _ _ _ _ _ _ base b _ C H locs ls hP hS hl kk => lv_lshr C.1 C.2.1 hd rfl (kk H locs ls hP hS hl)) k
theorem jm_lcmp {x y : Int64} (hd : decode (jm_cd Y) pc = .ok (.lcmp, 1)) (k : jm_Sim Y ce sl (pc + 1) L (.int (lg_cmp x y) :: st) n mr σ m ρ) : jm_Sim Y ce sl pc L (.long y :: .long x :: st) n mr σ m ρ :=
  jm_go (fun _ _ _ _ _ _ _ _ _ _ _ base b _ C H locs ls hP hS hl kk => W.lcmp C.1 C.2.1 hd (kk H locs ls hP hS hl)) k
theorem jm_i2l {x : Int32} (hd : decode (jm_cd Y) pc = .ok (.i2l, 1)) (k : jm_Sim Y ce sl (pc + 1) L (.long x.toInt64 :: st) n mr σ m ρ) : jm_Sim Y ce sl pc L (.int x :: st) n mr σ m ρ :=
  jm_go (fun _ _ _ _ _ _ _ _ _ _ _ base b _ C H locs ls hP hS hl kk => lv_i2l C.1 C.2.1 hd rfl (kk H locs ls hP hS hl)) k
theorem jm_l2i {x : Int64} (hd : decode (jm_cd Y) pc = .ok (.l2i, 1)) (k : jm_Sim Y ce sl (pc + 1) L (.int x.toInt32 :: st) n mr σ m ρ) : jm_Sim Y ce sl pc L (.long x :: st) n mr σ m ρ :=
  jm_go (fun _ _ _ _ _ _ _ _ _ _ _ base b _ C H locs ls hP hS hl kk => lv_l2i C.1 C.2.1 hd rfl (kk H locs ls hP hS hl)) k
theorem jm_i2b {x : Int32} (hd : decode (jm_cd Y) pc = .ok (.i2b, 1)) (k : jm_Sim Y ce sl (pc + 1) L (.int x.toInt8.toInt32 :: st) n mr σ m ρ) : jm_Sim Y ce sl pc L (.int x :: st) n mr σ m ρ :=
  jm_go (fun _ _ _ _ _ _ _ _ _ _ _ base b _ C H locs ls hP hS hl kk => lv_i2b C.1 C.2.1 hd rfl (kk H locs ls hP hS hl)) k
theorem jm_cat (base b : Nat) (v : Value) : (jm_tr base b v).category = v.category := by
  cases v with
  | ref i => cases i <;> rfl
  | _ => rfl
theorem jm_dup {v : Value} (hd : decode (jm_cd Y) pc = .ok (.dup, 1)) (hv : v.category = 1) (k : jm_Sim Y ce sl (pc + 1) L (v :: v :: st) n mr σ m ρ) : jm_Sim Y ce sl pc L (v :: st) n mr σ m ρ :=
  jm_go (fun _ _ _ _ _ _ _ _ _ _ _ base b _ C H locs ls hP hS hl kk => lv_dup C.1 C.2.1 hd ((jm_cat base b v).trans hv) (kk H locs ls hP hS hl)) k
theorem jm_pop {v : Value} (hd : decode (jm_cd Y) pc = .ok (.pop, 1)) (hv : v.category = 1) (k : jm_Sim Y ce sl (pc + 1) L (st) n mr σ m ρ) : jm_Sim Y ce sl pc L (v :: st) n mr σ m ρ :=
  jm_go (fun _ _ _ _ _ _ _ _ _ _ _ base b _ C H locs ls hP hS hl kk => lv_pop C.1 C.2.1 hd ((jm_cat base b v).trans hv) (kk H locs ls hP hS hl)) k
theorem jm_dup2 {v w : Value} (hd : decode (jm_cd Y) pc = .ok (.dup2, 1)) (hv : v.category = 1) (hw : w.category = 1) (k : jm_Sim Y ce sl (pc + 1) L (v :: w :: v :: w :: st) n mr σ m ρ) : jm_Sim Y ce sl pc L (v :: w :: st) n mr σ m ρ :=
  jm_go (fun _ _ _ _ _ _ _ _ _ _ _ base b _ C H locs ls hP hS hl kk => lv_dup2_11 C.1 C.2.1 hd ((jm_cat base b v).trans hv) ((jm_cat base b w).trans hw) (kk H locs ls hP hS hl)) k
theorem jm_iconst {i : Int} {v : Int32} (hd : decode (jm_cd Y) pc = .ok (.iconst i, 1)) (hv : Int32.ofInt i = v) (k : jm_Sim Y ce sl (pc + 1) L (.int v :: st) n mr σ m ρ) : jm_Sim Y ce sl pc L (st) n mr σ m ρ :=
  jm_go (fun _ _ _ _ _ _ _ _ _ _ _ base b _ C H locs ls hP hS hl kk => lv_iconst C.1 C.2.1 hd hv (kk H locs ls hP hS hl)) k
theorem jm_bipush {i : Int} {v : Int32} (hd : decode (jm_cd Y) pc = .ok (.bipush i, 2)) (hv : (Int8.ofInt i).toInt32 = v) (k : jm_Sim Y ce sl (pc + 2) L (.int v :: st) n mr σ m ρ) : jm_Sim Y ce sl pc L (st) n mr σ m ρ :=
  jm_go (fun _ _ _ _ _ _ _ _ _ _ _ base b _ C H locs ls hP hS hl kk => lv_bipush C.1 C.2.1 hd hv (kk H locs ls hP hS hl)) k
theorem jm_sipush {i : Int} {v : Int32} (hd : decode (jm_cd Y) pc = .ok (.sipush i, 3)) (hv : (Int16.ofInt i).toInt32 = v) (k : jm_Sim Y ce sl (pc + 3) L (.int v :: st) n mr σ m ρ) : jm_Sim Y ce sl pc L (st) n mr σ m ρ :=
  jm_go (fun _ _ _ _ _ _ _ _ _ _ _ base b _ C H locs ls hP hS hl kk => lv_sipush C.1 C.2.1 hd hv (kk H locs ls hP hS hl)) k
theorem jm_lconst {i : Fin 2} {v : Int64} (hd : decode (jm_cd Y) pc = .ok (.lconst i, 1)) (hv : Int64.ofNat (i : Nat) = v) (k : jm_Sim Y ce sl (pc + 1) L (.long v :: st) n mr σ m ρ) : jm_Sim Y ce sl pc L (st) n mr σ m ρ :=
  jm_go (fun _ _ _ _ _ _ _ _ _ _ _ base b _ C H locs ls hP hS hl kk => lv_lconst C.1 C.2.1 hd hv (kk H locs ls hP hS hl)) k
theorem jm_ldc {i : Nat} {v : Int32} (hd : decode (jm_cd Y) pc = .ok (.ldc i, 2)) (hc : Cond.constant (jm_nm Y).cls i v ∈ jm_tbl) (k : jm_Sim Y ce sl (pc + 2) L (.int v :: st) n mr σ m ρ) : jm_Sim Y ce sl pc L (st) n mr σ m ρ :=
  jm_go (fun _ _ _ _ _ _ _ _ _ _ _ base b _ C H locs ls hP hS hl kk => lv_ldc C.1 C.2.1 C.2.2.2.1 (C.2.2.2.2.1 _ hc) hd (kk H locs ls hP hS hl)) k
theorem jm_ldcw {i : Nat} {v : Int32} (hd : decode (jm_cd Y) pc = .ok (.ldc_w i, 3)) (hc : Cond.constant (jm_nm Y).cls i v ∈ jm_tbl) (k : jm_Sim Y ce sl (pc + 3) L (.int v :: st) n mr σ m ρ) : jm_Sim Y ce sl pc L (st) n mr σ m ρ :=
  jm_go (fun _ _ _ _ _ _ _ _ _ _ _ base b _ C H locs ls hP hS hl kk => lv_ldcw C.1 C.2.1 C.2.2.2.1 (C.2.2.2.2.1 _ hc) hd (kk H locs ls hP hS hl)) k
theorem jm_ldc2 {i : Nat} {v : Int64} (hd : decode (jm_cd Y) pc = .ok (.ldc2_w i, 3)) (hc : Cond.constantLong (jm_nm Y).cls i v ∈ jm_tbl) (k : jm_Sim Y ce sl (pc + 3) L (.long v :: st) n mr σ m ρ) : jm_Sim Y ce sl pc L (st) n mr σ m ρ :=
  jm_go (fun _ _ _ _ _ _ _ _ _ _ _ base b _ C H locs ls hP hS hl kk => lv_ldc2 C.1 C.2.1 C.2.2.2.1 (C.2.2.2.2.1 _ hc) hd (kk H locs ls hP hS hl)) k
theorem jm_lat {ls : Array Slot} {nL base b : Nat} (h : lv_has ls nL (L.map (jm_tp base b))) {k i : Nat} {v : Value} (hk : L[k]? = some (i, v)) : ls[i]? = some (.val (jm_tr base b v)) :=
  lv_at h k (by rw [List.getElem?_map, hk]; rfl)
theorem jm_tr_ref (base b i : Nat) (h : 1 ≤ i) : jm_tr base b (.ref i) = .ref (base + i) := by
  cases i with
  | zero => omega
  | succ i => rfl
theorem jm_tr_any (base b i : Nat) : ∃ a, jm_tr base b (.ref i) = .ref a := by
  cases i with
  | zero => exact ⟨b, rfl⟩
  | succ i => exact ⟨base + (i + 1), rfl⟩
theorem jm_flt (p : Nat → Nat → Bool) (base b : Nat) (l : List (Nat × Value)) : (l.map (jm_tp base b)).filter (fun q => p q.1 q.2.category) = (l.filter (fun q => p q.1 q.2.category)).map (jm_tp base b) := by
  rw [List.filter_map]
  congr 1
  apply List.filter_congr
  intro q _
  show p q.1 (jm_tr base b q.2).category = p q.1 q.2.category
  rw [jm_cat]
theorem jm_iload {i q : Nat} {x : Int32} (hd : decode (jm_cd Y) pc = .ok (.iload i, 2)) (hq : L[q]? = some (i, .int x)) (k : jm_Sim Y ce sl (pc + 2) L (.int x :: st) n mr σ m ρ) : jm_Sim Y ce sl pc L (st) n mr σ m ρ :=
  jm_go (fun _ _ _ _ _ _ _ _ _ _ _ base b _ C H locs ls hP hS hl kk => lv_iload C.1 C.2.1 hd (jm_lat hl hq) (kk H locs ls hP hS hl)) k
theorem jm_iload_n {i : Fin 4} {q : Nat} {x : Int32} (hd : decode (jm_cd Y) pc = .ok (.iload_n i, 1)) (hq : L[q]? = some ((i : Nat), .int x)) (k : jm_Sim Y ce sl (pc + 1) L (.int x :: st) n mr σ m ρ) : jm_Sim Y ce sl pc L (st) n mr σ m ρ :=
  jm_go (fun _ _ _ _ _ _ _ _ _ _ _ base b _ C H locs ls hP hS hl kk => lv_iload_n C.1 C.2.1 hd rfl (jm_lat hl hq) (kk H locs ls hP hS hl)) k
theorem jm_lload {i q : Nat} {x : Int64} (hd : decode (jm_cd Y) pc = .ok (.lload i, 2)) (hq : L[q]? = some (i, .long x)) (k : jm_Sim Y ce sl (pc + 2) L (.long x :: st) n mr σ m ρ) : jm_Sim Y ce sl pc L (st) n mr σ m ρ :=
  jm_go (fun _ _ _ _ _ _ _ _ _ _ _ base b _ C H locs ls hP hS hl kk => lv_lload C.1 C.2.1 hd (jm_lat hl hq) (kk H locs ls hP hS hl)) k
theorem jm_lload_n {i : Fin 4} {q : Nat} {x : Int64} (hd : decode (jm_cd Y) pc = .ok (.lload_n i, 1)) (hq : L[q]? = some ((i : Nat), .long x)) (k : jm_Sim Y ce sl (pc + 1) L (.long x :: st) n mr σ m ρ) : jm_Sim Y ce sl pc L (st) n mr σ m ρ :=
  jm_go (fun _ _ _ _ _ _ _ _ _ _ _ base b _ C H locs ls hP hS hl kk => lv_lload_n C.1 C.2.1 hd rfl (jm_lat hl hq) (kk H locs ls hP hS hl)) k
theorem jm_aload {i q x : Nat} (hd : decode (jm_cd Y) pc = .ok (.aload i, 2)) (hq : L[q]? = some (i, .ref x)) (k : jm_Sim Y ce sl (pc + 2) L (.ref x :: st) n mr σ m ρ) : jm_Sim Y ce sl pc L (st) n mr σ m ρ :=
  jm_go (fun _ _ _ _ _ _ _ _ _ _ _ base b _ C H locs ls hP hS hl kk => by
  obtain ⟨a, ha⟩ := jm_tr_any base b x
  have h1 := jm_lat hl hq
  have h2 := kk H locs ls hP hS hl
  rw [List.map_cons, ha] at h2
  rw [ha] at h1
  exact lv_aload C.1 C.2.1 hd h1 h2) k
theorem jm_aload_n {i : Fin 4} {q x : Nat} (hd : decode (jm_cd Y) pc = .ok (.aload_n i, 1)) (hq : L[q]? = some ((i : Nat), .ref x)) (k : jm_Sim Y ce sl (pc + 1) L (.ref x :: st) n mr σ m ρ) : jm_Sim Y ce sl pc L (st) n mr σ m ρ :=
  jm_go (fun _ _ _ _ _ _ _ _ _ _ _ base b _ C H locs ls hP hS hl kk => by
  obtain ⟨a, ha⟩ := jm_tr_any base b x
  have h1 := jm_lat hl hq
  have h2 := kk H locs ls hP hS hl
  rw [List.map_cons, ha] at h2
  rw [ha] at h1
  exact lv_aload_n C.1 C.2.1 hd rfl h1 h2) k
theorem jm_istore {i : Nat} {x : Int32} {L2 : List (Nat × Value)} (hd : decode (jm_cd Y) pc = .ok (.istore i, 2)) (hn : i < jm_ml Y) (h2 : (i, Value.int x) :: L.filter (fun q => !(q.1 == i) && !(q.1 + 1 == i && q.2.category == 2)) = L2) (k : jm_Sim Y ce sl (pc + 2) L2 st n mr σ m ρ) : jm_Sim Y ce sl pc L (.int x :: st) n mr σ m ρ :=
  jm_go (fun _ _ _ _ _ _ _ _ _ _ _ base b _ C H locs ls hP hS hl kk => lv_istore C.1 C.2.1 hd hl hn (lv' := L2.map (jm_tp base b)) (by rw [← h2, List.map_cons]; exact congrArg _ (jm_flt (fun a c => !(a == i) && !(a + 1 == i && c == 2)) base b L)) (fun ls2 h9 => kk H locs ls2 hP hS h9)) k
theorem jm_istore_n {kk : Fin 4} {i : Nat} {x : Int32} {L2 : List (Nat × Value)} (hd : decode (jm_cd Y) pc = .ok (.istore_n kk, 1)) (hi : (kk : Nat) = i) (hn : i < jm_ml Y) (h2 : (i, Value.int x) :: L.filter (fun q => !(q.1 == i) && !(q.1 + 1 == i && q.2.category == 2)) = L2) (k : jm_Sim Y ce sl (pc + 1) L2 st n mr σ m ρ) : jm_Sim Y ce sl pc L (.int x :: st) n mr σ m ρ :=
  jm_go (fun _ _ _ _ _ _ _ _ _ _ _ base b _ C H locs ls hP hS hl kk => lv_istore_n C.1 C.2.1 hd hi hl hn (lv' := L2.map (jm_tp base b)) (by rw [← h2, List.map_cons]; exact congrArg _ (jm_flt (fun a c => !(a == i) && !(a + 1 == i && c == 2)) base b L)) (fun ls2 h9 => kk H locs ls2 hP hS h9)) k
theorem jm_lstore {i : Nat} {x : Int64} {L2 : List (Nat × Value)} (hd : decode (jm_cd Y) pc = .ok (.lstore i, 2)) (hn : i + 1 < jm_ml Y) (h2 : (i, Value.long x) :: L.filter (fun q => !(q.1 == i) && (!(q.1 == i + 1) && !(q.1 + 1 == i && q.2.category == 2))) = L2) (k : jm_Sim Y ce sl (pc + 2) L2 st n mr σ m ρ) : jm_Sim Y ce sl pc L (.long x :: st) n mr σ m ρ :=
  jm_go (fun _ _ _ _ _ _ _ _ _ _ _ base b _ C H locs ls hP hS hl kk => lv_lstore C.1 C.2.1 hd hl hn (lv' := L2.map (jm_tp base b)) (by rw [← h2, List.map_cons]; exact congrArg _ (jm_flt (fun a c => !(a == i) && (!(a == i + 1) && !(a + 1 == i && c == 2))) base b L)) (fun ls2 h9 => kk H locs ls2 hP hS h9)) k
theorem jm_lstore_n {kk : Fin 4} {i : Nat} {x : Int64} {L2 : List (Nat × Value)} (hd : decode (jm_cd Y) pc = .ok (.lstore_n kk, 1)) (hi : (kk : Nat) = i) (hn : i + 1 < jm_ml Y) (h2 : (i, Value.long x) :: L.filter (fun q => !(q.1 == i) && (!(q.1 == i + 1) && !(q.1 + 1 == i && q.2.category == 2))) = L2) (k : jm_Sim Y ce sl (pc + 1) L2 st n mr σ m ρ) : jm_Sim Y ce sl pc L (.long x :: st) n mr σ m ρ :=
  jm_go (fun _ _ _ _ _ _ _ _ _ _ _ base b _ C H locs ls hP hS hl kk => lv_lstore_n C.1 C.2.1 hd hi hl hn (lv' := L2.map (jm_tp base b)) (by rw [← h2, List.map_cons]; exact congrArg _ (jm_flt (fun a c => !(a == i) && (!(a == i + 1) && !(a + 1 == i && c == 2))) base b L)) (fun ls2 h9 => kk H locs ls2 hP hS h9)) k
theorem jm_astore {i x : Nat} {L2 : List (Nat × Value)} (hd : decode (jm_cd Y) pc = .ok (.astore i, 2)) (hn : i < jm_ml Y) (h2 : (i, Value.ref x) :: L.filter (fun q => !(q.1 == i) && !(q.1 + 1 == i && q.2.category == 2)) = L2) (k : jm_Sim Y ce sl (pc + 2) L2 st n mr σ m ρ) : jm_Sim Y ce sl pc L (.ref x :: st) n mr σ m ρ :=
  jm_go (fun _ _ _ _ _ _ _ _ _ _ _ base b _ C H locs ls hP hS hl kk => by
  obtain ⟨a, ha⟩ := jm_tr_any base b x
  rw [List.map_cons, ha]
  exact lv_astore C.1 C.2.1 hd hl hn (lv' := L2.map (jm_tp base b)) (by rw [← h2, List.map_cons]; exact congr (congrArg List.cons (show (i, Value.ref a) = (i, jm_tr base b (.ref x)) by rw [ha])) (jm_flt (fun a c => !(a == i) && !(a + 1 == i && c == 2)) base b L)) (fun ls2 h9 => kk H locs ls2 hP hS h9)) k
theorem jm_astore_n {kk : Fin 4} {i x : Nat} {L2 : List (Nat × Value)} (hd : decode (jm_cd Y) pc = .ok (.astore_n kk, 1)) (hi : (kk : Nat) = i) (hn : i < jm_ml Y) (h2 : (i, Value.ref x) :: L.filter (fun q => !(q.1 == i) && !(q.1 + 1 == i && q.2.category == 2)) = L2) (k : jm_Sim Y ce sl (pc + 1) L2 st n mr σ m ρ) : jm_Sim Y ce sl pc L (.ref x :: st) n mr σ m ρ :=
  jm_go (fun _ _ _ _ _ _ _ _ _ _ _ base b _ C H locs ls hP hS hl kk => by
  obtain ⟨a, ha⟩ := jm_tr_any base b x
  rw [List.map_cons, ha]
  exact lv_astore_n C.1 C.2.1 hd hi hl hn (lv' := L2.map (jm_tp base b)) (by rw [← h2, List.map_cons]; exact congr (congrArg List.cons (show (i, Value.ref a) = (i, jm_tr base b (.ref x)) by rw [ha])) (jm_flt (fun a c => !(a == i) && !(a + 1 == i && c == 2)) base b L)) (fun ls2 h9 => kk H locs ls2 hP hS h9)) k
theorem jm_iinc {i q : Nat} {d : Int} {x v : Int32} {L2 : List (Nat × Value)} (hd : decode (jm_cd Y) pc = .ok (.iinc i d, 3)) (hq : L[q]? = some (i, .int x)) (hv : Int32.ofInt d = v) (hn : i < jm_ml Y) (h2 : (i, Value.int (x + v)) :: L.filter (fun q => !(q.1 == i) && !(q.1 + 1 == i && q.2.category == 2)) = L2) (k : jm_Sim Y ce sl (pc + 3) L2 st n mr σ m ρ) : jm_Sim Y ce sl pc L st n mr σ m ρ :=
  jm_go (fun _ _ _ _ _ _ _ _ _ _ _ base b _ C H locs ls hP hS hl kk => lv_iinc C.1 C.2.1 (k := q) hd hl (by rw [List.getElem?_map, hq]; rfl) (congrArg (fun z => x + z) hv) hn (lv' := L2.map (jm_tp base b)) (by rw [← h2, List.map_cons]; exact congrArg _ (jm_flt (fun a c => !(a == i) && !(a + 1 == i && c == 2)) base b L)) (fun ls2 h9 => kk H locs ls2 hP hS h9)) k
theorem jm_goto {off : Int} {tgt : Nat} (hd : decode (jm_cd Y) pc = .ok (.goto off, 3)) (ht : (pc : Int) + off = (tgt : Int)) (k : jm_Sim Y ce sl tgt L st n mr σ m ρ) : jm_Sim Y ce sl pc L st n mr σ m ρ :=
  jm_go (fun _ _ _ _ _ _ _ _ _ _ _ base b _ C H locs ls hP hS hl kk => lv_goto C.1 C.2.1 hd ht (kk H locs ls hP hS hl)) k
theorem jm_sub {L2 : List (Nat × Value)} (ks : List Nat) (h : lv_pick L ks = L2) (k : jm_Sim Y ce sl pc L2 st n mr σ m ρ) : jm_Sim Y ce sl pc L st n mr σ m ρ :=
  jm_go (fun _ _ _ _ _ _ _ _ _ _ _ base b _ C H locs ls hP hS hl kk => kk H locs ls hP hS (lv_sub hl ks (by
    rw [← h, lv_pick, lv_pick, List.map_filterMap]
    apply congrFun; apply congrArg; funext k
    rw [List.getElem?_map]))) k
theorem jm_ite {p : Prop} {inst : Decidable p} {m1 m2 : Option α} {Y : jm_Y} {ce sl pc pc1 pc2 : Nat} {L : List (Nat × Value)} {st st1 : List Value}
    (step : ∀ (pp : Program) (l : Launch) (e : Env) (s : State) (mm : MethodId) (args : Array Value) (below : List Frame) (meth : Method) (c : Code) (D : va_G) (g : ClassId × ClassId × ClassId) (base b : Nat) (Q : State → Prop), jm_Cx Y D g base b pp s mm args meth c → ∀ (H : Heap) (locs : List Loc) (ls : Array Slot),
      (p → W pp l e (jm_rm Y) s mm args below meth c H locs ce sl Q (F0 mm pc1 ls (st1.map (jm_tr base b)))) → (¬ p → W pp l e (jm_rm Y) s mm args below meth c H locs ce sl Q (F0 mm pc2 ls (st1.map (jm_tr base b)))) →
      W pp l e (jm_rm Y) s mm args below meth c H locs ce sl Q (F0 mm pc ls (st.map (jm_tr base b))))
    (k1 : jm_Sim Y ce sl pc1 L st1 n mr σ m1 ρ) (k2 : jm_Sim Y ce sl pc2 L st1 n mr σ m2 ρ) : jm_Sim Y ce sl pc L st n mr σ (@ite _ p inst m1 m2) ρ := by
  intro a ha pp l e s mm args below meth c D g base b Q C hr H locs ls hP hS hl
  refine step pp l e s mm args below meth c D g base b Q C H locs ls (fun h => ?_) (fun h => ?_)
  · rw [if_pos h] at ha
    exact k1 a ha pp l e s mm args below meth c D g base b Q C hr H locs ls hP hS hl
  · rw [if_neg h] at ha
    exact k2 a ha pp l e s mm args below meth c D g base b Q C hr H locs ls hP hS hl
theorem jm_if_eq {x : Int32} {off : Int} {tgt : Nat} {m1 m2 : Option α} {inst : Decidable (x = 0)} (hd : decode (jm_cd Y) pc = .ok (.ifCond .eq off, 3)) (ht : (pc : Int) + off = (tgt : Int)) (k1 : jm_Sim Y ce sl tgt L st n mr σ m1 ρ) (k2 : jm_Sim Y ce sl (pc + 3) L st n mr σ m2 ρ) : jm_Sim Y ce sl pc L (.int x :: st) n mr σ (@ite _ (x = 0) inst m1 m2) ρ :=
  jm_ite (fun _ _ _ _ _ _ _ _ _ _ _ _ _ _ C _ _ _ a b => lv_if_eq C.1 C.2.1 hd ht a b) k1 k2
theorem jm_if_lt {x : Int32} {off : Int} {tgt : Nat} {m1 m2 : Option α} {inst : Decidable (x < 0)} (hd : decode (jm_cd Y) pc = .ok (.ifCond .lt off, 3)) (ht : (pc : Int) + off = (tgt : Int)) (k1 : jm_Sim Y ce sl tgt L st n mr σ m1 ρ) (k2 : jm_Sim Y ce sl (pc + 3) L st n mr σ m2 ρ) : jm_Sim Y ce sl pc L (.int x :: st) n mr σ (@ite _ (x < 0) inst m1 m2) ρ :=
  jm_ite (fun _ _ _ _ _ _ _ _ _ _ _ _ _ _ C _ _ _ a b => lv_if_lt C.1 C.2.1 hd ht a b) k1 k2
theorem jm_if_ge {x : Int32} {off : Int} {tgt : Nat} {m1 m2 : Option α} {inst : Decidable (0 ≤ x)} (hd : decode (jm_cd Y) pc = .ok (.ifCond .ge off, 3)) (ht : (pc : Int) + off = (tgt : Int)) (k1 : jm_Sim Y ce sl tgt L st n mr σ m1 ρ) (k2 : jm_Sim Y ce sl (pc + 3) L st n mr σ m2 ρ) : jm_Sim Y ce sl pc L (.int x :: st) n mr σ (@ite _ (0 ≤ x) inst m1 m2) ρ :=
  jm_ite (fun _ _ _ _ _ _ _ _ _ _ _ _ _ _ C _ _ _ a b => lv_if_ge C.1 C.2.1 hd ht a b) k1 k2
theorem jm_if_gt {x : Int32} {off : Int} {tgt : Nat} {m1 m2 : Option α} {inst : Decidable (0 < x)} (hd : decode (jm_cd Y) pc = .ok (.ifCond .gt off, 3)) (ht : (pc : Int) + off = (tgt : Int)) (k1 : jm_Sim Y ce sl tgt L st n mr σ m1 ρ) (k2 : jm_Sim Y ce sl (pc + 3) L st n mr σ m2 ρ) : jm_Sim Y ce sl pc L (.int x :: st) n mr σ (@ite _ (0 < x) inst m1 m2) ρ :=
  jm_ite (fun _ _ _ _ _ _ _ _ _ _ _ _ _ _ C _ _ _ a b => lv_if_gt C.1 C.2.1 hd ht a b) k1 k2
theorem jm_if_le {x : Int32} {off : Int} {tgt : Nat} {m1 m2 : Option α} {inst : Decidable (x ≤ 0)} (hd : decode (jm_cd Y) pc = .ok (.ifCond .le off, 3)) (ht : (pc : Int) + off = (tgt : Int)) (k1 : jm_Sim Y ce sl tgt L st n mr σ m1 ρ) (k2 : jm_Sim Y ce sl (pc + 3) L st n mr σ m2 ρ) : jm_Sim Y ce sl pc L (.int x :: st) n mr σ (@ite _ (x ≤ 0) inst m1 m2) ρ :=
  jm_ite (fun _ _ _ _ _ _ _ _ _ _ _ _ _ _ C _ _ _ a b => lv_if_le C.1 C.2.1 hd ht a b) k1 k2
theorem jm_if_ne {x : Int32} {off : Int} {tgt : Nat} {m1 m2 : Option α} {inst : Decidable (x = 0)} (hd : decode (jm_cd Y) pc = .ok (.ifCond .ne off, 3)) (ht : (pc : Int) + off = (tgt : Int)) (k1 : jm_Sim Y ce sl (pc + 3) L st n mr σ m1 ρ) (k2 : jm_Sim Y ce sl tgt L st n mr σ m2 ρ) : jm_Sim Y ce sl pc L (.int x :: st) n mr σ (@ite _ (x = 0) inst m1 m2) ρ :=
  jm_ite (fun _ _ _ _ _ _ _ _ _ _ _ _ _ _ C _ _ _ a b => lv_if_ne C.1 C.2.1 hd ht b a) k1 k2
theorem jm_icmp_eq {x y : Int32} {off : Int} {tgt : Nat} {m1 m2 : Option α} {inst : Decidable (x = y)} (hd : decode (jm_cd Y) pc = .ok (.if_icmp .eq off, 3)) (ht : (pc : Int) + off = (tgt : Int)) (k1 : jm_Sim Y ce sl tgt L st n mr σ m1 ρ) (k2 : jm_Sim Y ce sl (pc + 3) L st n mr σ m2 ρ) : jm_Sim Y ce sl pc L (.int y :: .int x :: st) n mr σ (@ite _ (x = y) inst m1 m2) ρ :=
  jm_ite (fun _ _ _ _ _ _ _ _ _ _ _ _ _ _ C _ _ _ a b => lv_icmp_eq C.1 C.2.1 hd ht a b) k1 k2
theorem jm_icmp_lt {x y : Int32} {off : Int} {tgt : Nat} {m1 m2 : Option α} {inst : Decidable (x < y)} (hd : decode (jm_cd Y) pc = .ok (.if_icmp .lt off, 3)) (ht : (pc : Int) + off = (tgt : Int)) (k1 : jm_Sim Y ce sl tgt L st n mr σ m1 ρ) (k2 : jm_Sim Y ce sl (pc + 3) L st n mr σ m2 ρ) : jm_Sim Y ce sl pc L (.int y :: .int x :: st) n mr σ (@ite _ (x < y) inst m1 m2) ρ :=
  jm_ite (fun _ _ _ _ _ _ _ _ _ _ _ _ _ _ C _ _ _ a b => lv_icmp_lt C.1 C.2.1 hd ht a b) k1 k2
theorem jm_icmp_ge {x y : Int32} {off : Int} {tgt : Nat} {m1 m2 : Option α} {inst : Decidable (y ≤ x)} (hd : decode (jm_cd Y) pc = .ok (.if_icmp .ge off, 3)) (ht : (pc : Int) + off = (tgt : Int)) (k1 : jm_Sim Y ce sl tgt L st n mr σ m1 ρ) (k2 : jm_Sim Y ce sl (pc + 3) L st n mr σ m2 ρ) : jm_Sim Y ce sl pc L (.int y :: .int x :: st) n mr σ (@ite _ (y ≤ x) inst m1 m2) ρ :=
  jm_ite (fun _ _ _ _ _ _ _ _ _ _ _ _ _ _ C _ _ _ a b => lv_icmp_ge C.1 C.2.1 hd ht a b) k1 k2
theorem jm_icmp_gt {x y : Int32} {off : Int} {tgt : Nat} {m1 m2 : Option α} {inst : Decidable (y < x)} (hd : decode (jm_cd Y) pc = .ok (.if_icmp .gt off, 3)) (ht : (pc : Int) + off = (tgt : Int)) (k1 : jm_Sim Y ce sl tgt L st n mr σ m1 ρ) (k2 : jm_Sim Y ce sl (pc + 3) L st n mr σ m2 ρ) : jm_Sim Y ce sl pc L (.int y :: .int x :: st) n mr σ (@ite _ (y < x) inst m1 m2) ρ :=
  jm_ite (fun _ _ _ _ _ _ _ _ _ _ _ _ _ _ C _ _ _ a b => lv_icmp_gt C.1 C.2.1 hd ht a b) k1 k2
theorem jm_icmp_le {x y : Int32} {off : Int} {tgt : Nat} {m1 m2 : Option α} {inst : Decidable (x ≤ y)} (hd : decode (jm_cd Y) pc = .ok (.if_icmp .le off, 3)) (ht : (pc : Int) + off = (tgt : Int)) (k1 : jm_Sim Y ce sl tgt L st n mr σ m1 ρ) (k2 : jm_Sim Y ce sl (pc + 3) L st n mr σ m2 ρ) : jm_Sim Y ce sl pc L (.int y :: .int x :: st) n mr σ (@ite _ (x ≤ y) inst m1 m2) ρ :=
  jm_ite (fun _ _ _ _ _ _ _ _ _ _ _ _ _ _ C _ _ _ a b => lv_icmp_le C.1 C.2.1 hd ht a b) k1 k2
theorem jm_icmp_ne {x y : Int32} {off : Int} {tgt : Nat} {m1 m2 : Option α} {inst : Decidable (x = y)} (hd : decode (jm_cd Y) pc = .ok (.if_icmp .ne off, 3)) (ht : (pc : Int) + off = (tgt : Int)) (k1 : jm_Sim Y ce sl (pc + 3) L st n mr σ m1 ρ) (k2 : jm_Sim Y ce sl tgt L st n mr σ m2 ρ) : jm_Sim Y ce sl pc L (.int y :: .int x :: st) n mr σ (@ite _ (x = y) inst m1 m2) ρ :=
  jm_ite (fun _ _ _ _ _ _ _ _ _ _ _ _ _ _ C _ _ _ a b => lv_icmp_ne C.1 C.2.1 hd ht b a) k1 k2
theorem jm_hA {base : Nat} {s : State} (h : base < s.heap.size) : ∀ q : Nat, s.heap.size ≤ q → jm_A base q := fun _ h2 => Nat.lt_of_lt_of_le h h2
/-! fields -/
def jm_fo (own : String) (idx ci k : Nat) (C : String) (T : u_T) (N : Nat) : Prop := (∀ w ∈ u_ws C T N, w ∈ jm_tbl) ∧ vwCl[ci]? = some (C, T, N) ∧ k < N ∧ Cond.fieldLink own idx (T k).1 (T k).2.1 (T k).2.2.1 ∈ jm_tbl
def jm_fp (own : String) (idx ci k : Nat) (C : String) (T : u_T) (N : Nat) (fin : Bool) (ty : FieldType) : Prop := jm_fo own idx ci k C T N ∧ (∃ ty0 : Nat → FieldType, ∀ k, k < N → parseFieldDescriptor (T k).2.2.1 = some (ty0 k)) ∧ (∀ a, a < N → ∀ b, b < N → a ≠ b → (T a).2.1 ≠ (T b).2.1) ∧ (T k).2.2.2 = fin ∧ parseFieldDescriptor (T k).2.2.1 = some ty ∧ (fin = true → (T k).1 = own)
theorem jm_ob {g : ClassId × ClassId × ClassId} {base : Nat} {i ci : Nat} (hs : jm_sh i = .inr ci) : jm_cell g base mr σ i = .inr (ci, (jm_fts ci).mapIdx (fun k ty => jm_fv base mr σ i k ty)) := by
  rw [jm_cell, hs]
theorem jm_get {i ci k idx N : Nat} {C : String} {T : u_T} {ty : FieldType} {v : Value} (hd : decode (jm_cd Y) pc = .ok (.getfield idx, 3)) (F : jm_fo (jm_nm Y).cls idx ci k C T N) (hs : jm_sh i = .inr ci) (h1 : 1 ≤ i) (h2 : i ≤ n) (ht : (jm_fts ci)[k]? = some ty) (hv : ∀ base b, jm_fv base mr σ i k ty = jm_tr base b v) (kk : jm_Sim Y ce sl (pc + 3) L (v :: st) n mr σ m ρ) : jm_Sim Y ce sl pc L (.ref i :: st) n mr σ m ρ := by
  refine jm_go (fun _ _ _ _ _ _ _ _ _ D g base b _ C H locs ls hP hS hl k9 => ?_) kk
  have h9 := k9 H locs ls hP hS hl
  rw [List.map_cons, jm_tr_ref base b i h1]
  refine va_get C.1 C.2.1 C.2.2.2.2.1 F.1 C.2.2.2.1 C.2.2.2.2.2.1 hP.2 (i - 1) ((jm_at h1 h2).trans (by rw [jm_ob hs])) F.2.1 k F.2.2.1 (C.2.2.2.2.1 _ F.2.2.2) (fun _ h => h) (v := jm_tr base b v) ?_ hd h9
  rw [List.getElem?_mapIdx, ht, Option.map_some, hv base b]
theorem jm_gi {i ci k idx N : Nat} {C : String} {T : u_T} {ty : FieldType} (hd : decode (jm_cd Y) pc = .ok (.getfield idx, 3)) (F : jm_fo (jm_nm Y).cls idx ci k C T N) (hs : jm_sh i = .inr ci) (h1 : 1 ≤ i) (h2 : i ≤ n) (ht : (jm_fts ci)[k]? = some ty) (hv : ∀ base, jm_fv base mr σ i k ty = .int (σ.1 i k)) (kk : jm_Sim Y ce sl (pc + 3) L (.int (σ.1 i k) :: st) n mr σ m ρ) : jm_Sim Y ce sl pc L (.ref i :: st) n mr σ m ρ :=
  jm_get (v := .int (σ.1 i k)) hd F hs h1 h2 ht (fun base _ => hv base) kk
theorem jm_gl {i ci k idx N : Nat} {C : String} {T : u_T} (hd : decode (jm_cd Y) pc = .ok (.getfield idx, 3)) (F : jm_fo (jm_nm Y).cls idx ci k C T N) (hs : jm_sh i = .inr ci) (h1 : 1 ≤ i) (h2 : i ≤ n) (ht : (jm_fts ci)[k]? = some .long) (kk : jm_Sim Y ce sl (pc + 3) L (.long (σ.2 i k) :: st) n mr σ m ρ) : jm_Sim Y ce sl pc L (.ref i :: st) n mr σ m ρ :=
  jm_get (v := .long (σ.2 i k)) hd F hs h1 h2 ht (fun _ _ => rfl) kk
theorem jm_gr {i ci k idx N q : Nat} {C : String} {T : u_T} {ty : FieldType} (hd : decode (jm_cd Y) pc = .ok (.getfield idx, 3)) (F : jm_fo (jm_nm Y).cls idx ci k C T N) (hs : jm_sh i = .inr ci) (h1 : 1 ≤ i) (h2 : i ≤ n) (ht : (jm_fts ci)[k]? = some ty) (hv : ∀ base, jm_fv base mr σ i k ty = jm_rv base (mr i k)) (hq : mr i k = some q) (hq1 : 1 ≤ q) (kk : jm_Sim Y ce sl (pc + 3) L (.ref q :: st) n mr σ m ρ) : jm_Sim Y ce sl pc L (.ref i :: st) n mr σ m ρ :=
  jm_get (v := .ref q) hd F hs h1 h2 ht (fun base b => by rw [hv, hq, jm_tr_ref base b q hq1]; rfl) kk
theorem jm_set_fs {base : Nat} {mr mr' : jm_R} {σ σ' : jm_M} {i k : Nat} {v : Value} {fts : List FieldType} {ty : FieldType} (ht : fts[k]? = some ty) (hv : jm_fv base mr' σ' i k ty = v) (ho : ∀ (k' : Nat) (ty' : FieldType), k' ≠ k → jm_fv base mr' σ' i k' ty' = jm_fv base mr σ i k' ty') : (fts.mapIdx (fun k ty => jm_fv base mr σ i k ty)).set k v = fts.mapIdx (fun k ty => jm_fv base mr' σ' i k ty) := by
  apply List.ext_getElem?
  intro j
  rw [List.getElem?_set, List.getElem?_mapIdx, List.getElem?_mapIdx]
  by_cases hj : k = j
  · subst hj
    have hl : k < fts.length := (List.getElem?_eq_some_iff.mp ht).1
    rw [if_pos rfl, if_pos (by rw [List.length_mapIdx]; exact hl), ht, Option.map_some, hv]
  · rw [if_neg hj]
    cases fts[j]? with
    | none => rfl
    | some t => rw [Option.map_some, Option.map_some, ho j t (fun e => hj e.symm)]
section JP
variable {p : Program} {l : Launch} {e : Env} {R : Room} {s : State} {mm : MethodId} {args : Array Value} {below : List Frame} {meth : Method} {c : Code} {H : Heap} {locs : List Loc} {cells slots : Nat} {Q : State → Prop} {cc : ByteArray} {pc : Nat} {ls : Array Slot} {rest : List Value} {D : va_G} {A : Nat → Prop} {a : Nat} {ws : va_W} {H0 : Heap}
/-- a field is written: the heap keeps its size -/
theorem jm_wput (hexec : p.tables.exec = Jvm.exec) (hb : c.code = cc) {own C : String} {T : u_T} {N ci index : Nat} {tys : List (ClassId × FieldType)} (hts : ∀ w ∈ jm_tbl, w.before args s = true) {k : Nat} {fin : Bool} {ty : FieldType} (F : jm_fp own index ci k C T N fin ty) (hown : s.vm.findClass own = some mm.cls) (hK : va_K D vwCl tys s) (hP : va_P D vwCl ws H) (hD : va_D A ws) (hS0 : va_S A H0 H locs) (q0 : Nat) {fs : List Value} (he : ws[q0]? = some (a, .inr (ci, fs))) (hini : fin = true → meth.name = "<init>") {v : Value} (hn : narrow ty v = v) (hfit : fits ty v = true) (hl : k < fs.length)
    (hdg : decode cc pc = .ok (.putfield index, 3)) (kk : ∀ (H1 : Heap) (locs1 : List Loc), H1.size = H.size → va_P D vwCl (ws.set q0 (a, .inr (ci, fs.set k v))) H1 → va_S A H0 H1 locs1 → W p l e R s mm args below meth c H1 locs1 cells slots Q (F0 mm (pc + 3) ls rest)) : W p l e R s mm args below meth c H locs cells slots Q (F0 mm pc ls (v :: .ref a :: rest)) := by
  obtain ⟨⟨hin, hc, hk, hlk⟩, ⟨ty0, hty⟩, hnm, hfin, hd, hdecl⟩ := F
  have hap := va_apart (own := own) hts hin ty0 hty hnm hK hc
  obtain ⟨r, h1, cell, q1, q2, q3, q4⟩ := hP q0 _ he
  have hr : r = (C, T, N) := Option.some.inj (h1.symm.trans hc)
  subst hr
  obtain ⟨hS, hfc, kC, hkC, hkind⟩ := hK.1 ci _ hc
  obtain ⟨cf, kf, fi, f, hi, hsl⟩ := hS k hk
  have hlay := hts _ (hin _ (u_in_lay hk))
  have hst := (u_facts hfc hkC (u_lays hts hin hk) hi).1
  have hlink := hts _ hlk
  cases fin with
  | false =>
    unfold u_lay at hlay
    rw [if_neg (by rw [hfin]; decide)] at hlay
    have h6 := u_store hfc hkC hkind hlay hi hd hn hfit
    refine W.putK hexec hb (f := f) ⟨hown, hlink, ⟨_, _, _, hi⟩, hst⟩ (by rw [q2]; exact h6) q1 q3 (by rw [hsl]; exact k2_hasslot (q4 k hk)) rfl rfl hdg fun H' e1 e2 e3 => ?_
    rw [hsl] at e1 ⊢
    exact kk H' _ e2 (hP.set hD he ⟨_, hc, t_OB.to (V := updV (vp_V fs) k v) ⟨_, e1, q2, q3, t_set q4 hap hk v⟩ (fun j _ => vp_updV_set hl v j)⟩ e3) (hS0.put e2 e3 (hD.2 q0 _ he))
  | true =>
    unfold u_lay at hlay
    rw [if_pos hfin] at hlay
    have hcf : mm.cls = cf := by
      obtain ⟨_, _, c', _, _, _, -, -, hf', -, -, -, hown2, -⟩ := Cond.laysFinal_spec hlay
      have e1 : c' = cf := by have := hi.symm.trans hf'; simp at this; exact this.1.symm
      rw [hdecl rfl] at hown2
      rw [← e1]; exact Option.some.inj (hown.symm.trans hown2)
    have h6 := u_fits hfc hkC hkind (Or.inr hlay) hi hd hn hfit
    refine W.putFinK hexec hb hown hlink hi hst hcf (hini rfl) (by rw [q2]; exact h6) q1 q3 (by rw [hsl]; exact k2_hasslot (q4 k hk)) rfl rfl hdg fun H' e1 e2 e3 => ?_
    rw [hsl] at e1 ⊢
    exact kk H' _ e2 (hP.set hD he ⟨_, hc, t_OB.to (V := updV (vp_V fs) k v) ⟨_, e1, q2, q3, t_set q4 hap hk v⟩ (fun j _ => vp_updV_set hl v j)⟩ e3) (hS0.put e2 e3 (hD.2 q0 _ he))
end JP
theorem jm_put {i ci k idx N : Nat} {C : String} {T : u_T} {fin : Bool} {ty : FieldType} {v : Value} {mr' : jm_R} {σ' : jm_M} (hd : decode (jm_cd Y) pc = .ok (.putfield idx, 3)) (F : jm_fp (jm_nm Y).cls idx ci k C T N fin ty) (hini : fin = true → (jm_nm Y).name = "<init>") (hs : jm_sh i = .inr ci) (h1 : 1 ≤ i) (h2 : i ≤ n) (ht : (jm_fts ci)[k]? = some ty) (hn : ∀ base b, narrow ty (jm_tr base b v) = jm_tr base b v) (hf : ∀ base b, fits ty (jm_tr base b v) = true)
    (hv : ∀ base b, jm_fv base mr' σ' i k ty = jm_tr base b v) (ho : ∀ (base k' : Nat) (ty' : FieldType), k' ≠ k → jm_fv base mr' σ' i k' ty' = jm_fv base mr σ i k' ty') (hc : ∀ j, j ≠ i → σ'.1 j = σ.1 j ∧ σ'.2 j = σ.2 j ∧ mr' j = mr j)
    (kk : jm_Sim Y ce sl (pc + 3) L st n mr' σ' m ρ) : jm_Sim Y ce sl pc L (v :: .ref i :: st) n mr σ m ρ := by
  refine jm_go (fun _ _ _ _ _ _ _ _ _ D g base b _ Cx H locs ls hP hS hl k9 => ?_) kk
  rw [List.map_cons, List.map_cons, jm_tr_ref base b i h1]
  refine jm_wput Cx.1 Cx.2.1 Cx.2.2.2.2.1 F Cx.2.2.2.1 Cx.2.2.2.2.2.1 hP.2 jm_D hS (i - 1) ((jm_at h1 h2).trans (by rw [jm_ob hs])) (fun h => Cx.2.2.2.2.2.2.2.2.1 (hini h)) (hn base b) (hf base b) (by rw [List.length_mapIdx]; exact (List.getElem?_eq_some_iff.mp ht).1) hd (fun H1 locs1 hz hP1 hS1 => k9 H1 locs1 ls ⟨hz.trans hP.1, ?_⟩ hS1 hl)
  rw [jm_set_fs ht (hv base b) (ho base), ← jm_ob (g := g) (mr := mr') (σ := σ') hs, jm_ws_set h1 (fun j hj => jm_cell_eq (hc j hj).1 (hc j hj).2.1 (hc j hj).2.2)] at hP1
  exact hP1
theorem jm_fv_i {base : Nat} {i k : Nat} {x : Int32} (k' : Nat) (ty' : FieldType) (h : k' ≠ k) : jm_fv base mr (jm_si σ i k x) i k' ty' = jm_fv base mr σ i k' ty' := by
  have e : (jm_si σ i k x).1 i k' = σ.1 i k' := by simp [jm_si, h]
  have e2 : (jm_si σ i k x).2 = σ.2 := rfl
  unfold jm_fv
  simp only [e, e2]
theorem jm_fv_l {base : Nat} {i k : Nat} {x : Int64} (k' : Nat) (ty' : FieldType) (h : k' ≠ k) : jm_fv base mr (jm_sl σ i k x) i k' ty' = jm_fv base mr σ i k' ty' := by
  have e : (jm_sl σ i k x).2 i k' = σ.2 i k' := by simp [jm_sl, h]
  have e2 : (jm_sl σ i k x).1 = σ.1 := rfl
  unfold jm_fv
  simp only [e, e2]
theorem jm_fv_r {base : Nat} {i k q : Nat} (k' : Nat) (ty' : FieldType) (h : k' ≠ k) : jm_fv base (jm_sr mr i k q) σ i k' ty' = jm_fv base mr σ i k' ty' := by
  have e : jm_sr mr i k q i k' = mr i k' := by simp [jm_sr, h]
  unfold jm_fv
  simp only [e]
/-- a whole number (or truth) into a field -/
theorem jm_pi {f : jm_M → Option α} {i ci k idx N : Nat} {C : String} {T : u_T} {ty : FieldType} {x : Int32} (hd : decode (jm_cd Y) pc = .ok (.putfield idx, 3)) (F : jm_fp (jm_nm Y).cls idx ci k C T N false ty) (hs : jm_sh i = .inr ci) (h1 : 1 ≤ i) (h2 : i ≤ n) (ht : (jm_fts ci)[k]? = some ty) (hn : narrow ty (.int x) = .int x) (hf : fits ty (.int x) = true) (hty : ∀ base (mr : jm_R) (σ : jm_M), jm_fv base mr σ i k ty = .int (σ.1 i k))
    (kk : ∀ σ1, jm_Sim Y ce sl (pc + 3) L st n mr σ1 (f σ1) ρ) : jm_Sim Y ce sl pc L (.int x :: .ref i :: st) n mr σ (jm_ev (jm_si σ i k x) f) ρ :=
  jm_put (v := .int x) hd F (fun h => by cases h) hs h1 h2 ht (fun _ _ => hn) (fun _ _ => hf) (fun base b => by rw [hty]; show Value.int (if i = i ∧ k = k then x else _) = Value.int x; rw [if_pos ⟨rfl, rfl⟩]) (fun _ k' ty' h => jm_fv_i k' ty' h) (fun j hj => ⟨jm_si_o hj, rfl, rfl⟩) (kk _)
theorem jm_pl {f : jm_M → Option α} {i ci k idx N : Nat} {C : String} {T : u_T} {x : Int64} (hd : decode (jm_cd Y) pc = .ok (.putfield idx, 3)) (F : jm_fp (jm_nm Y).cls idx ci k C T N false .long) (hs : jm_sh i = .inr ci) (h1 : 1 ≤ i) (h2 : i ≤ n) (ht : (jm_fts ci)[k]? = some .long)
    (kk : ∀ σ1, jm_Sim Y ce sl (pc + 3) L st n mr σ1 (f σ1) ρ) : jm_Sim Y ce sl pc L (.long x :: .ref i :: st) n mr σ (jm_ev (jm_sl σ i k x) f) ρ :=
  jm_put (v := .long x) hd F (fun h => by cases h) hs h1 h2 ht (fun _ _ => rfl) (fun _ _ => rfl) (fun base b => by show Value.long (if i = i ∧ k = k then x else _) = Value.long x; rw [if_pos ⟨rfl, rfl⟩]) (fun _ k' ty' h => jm_fv_l k' ty' h) (fun j hj => ⟨rfl, jm_sl_o hj, rfl⟩) (kk _)
/-- a reference into a field -/
theorem jm_pr {i ci k idx N q : Nat} {C : String} {T : u_T} {fin : Bool} {ty : FieldType} (hd : decode (jm_cd Y) pc = .ok (.putfield idx, 3)) (F : jm_fp (jm_nm Y).cls idx ci k C T N fin ty) (hini : fin = true → (jm_nm Y).name = "<init>") (hs : jm_sh i = .inr ci) (h1 : 1 ≤ i) (h2 : i ≤ n) (hq1 : 1 ≤ q) (ht : (jm_fts ci)[k]? = some ty) (hn : ∀ a, narrow ty (.ref a) = .ref a) (hf : ∀ a, fits ty (.ref a) = true) (hty : ∀ base (mr : jm_R) (σ : jm_M), jm_fv base mr σ i k ty = jm_rv base (mr i k))
    (kk : jm_Sim Y ce sl (pc + 3) L st n (jm_sr mr i k q) σ m ρ) : jm_Sim Y ce sl pc L (.ref q :: .ref i :: st) n mr σ m ρ :=
  jm_put (v := .ref q) hd F hini hs h1 h2 ht (fun base b => by rw [jm_tr_ref base b q hq1]; exact hn _) (fun base b => by rw [jm_tr_ref base b q hq1]; exact hf _) (fun base b => by rw [hty, jm_tr_ref base b q hq1, show jm_sr mr i k q i k = some q by simp [jm_sr]]; rfl) (fun _ k' ty' h => jm_fv_r k' ty' h) (fun j hj => ⟨rfl, rfl, jm_sr_o hj⟩) kk
/-! arrays -/
theorem jm_gd {b : Bool} {x : Option α} (h : ∀ a, b = true → x = some a → jm_Ev Y ce sl pc L st n mr σ (ρ a)) : jm_Sim Y ce sl pc L st n mr σ (if b = true then x else none) ρ := by
  intro a ha
  by_cases hb : b = true
  · rw [if_pos hb] at ha
    exact h a hb ha
  · rw [if_neg hb] at ha
    cases ha
theorem jm_aci {g : ClassId × ClassId × ClassId} {base i len : Nat} (hs : jm_sh i = .inl (.int, len)) : jm_cell g base mr σ i = .inl (g.1, len, .inl (σ.1 i)) := by
  rw [jm_cell, hs]; rfl
theorem jm_acb {g : ClassId × ClassId × ClassId} {base i len : Nat} (hs : jm_sh i = .inl (.byte, len)) : jm_cell g base mr σ i = .inl (g.2.1, len, .inl (σ.1 i)) := by
  rw [jm_cell, hs]; rfl
theorem jm_acl {g : ClassId × ClassId × ClassId} {base i len : Nat} (hs : jm_sh i = .inl (.long, len)) : jm_cell g base mr σ i = .inl (g.2.2, len, .inr (.inl (σ.2 i))) := by
  rw [jm_cell, hs]; rfl
theorem jm_iald {f : Int32 → Option α} {i len : Nat} {j : Int32} (hd : decode (jm_cd Y) pc = .ok (.iaload, 1)) (hs : jm_sh i = .inl (.int, len)) (h1 : 1 ≤ i) (h2 : i ≤ n) (kk : ∀ x, jm_Sim Y ce sl (pc + 1) L (.int x :: st) n mr σ (f x) ρ) : jm_Sim Y ce sl pc L (.int j :: .ref i :: st) n mr σ (jm_ldi σ i len j f) ρ := by
  refine jm_gd (fun a hb ha => ?_)
  refine jm_go (fun _ _ _ _ _ _ _ _ _ D g base b _ Cx H locs ls hP hS hl k9 => ?_) (kk (σ.1 i j.toNatClampNeg)) a ha
  rw [List.map_cons, List.map_cons, jm_tr_ref base b i h1]
  exact va_iald Cx.1 Cx.2.1 Cx.2.2.2.2.2.1 hP.2 (i - 1) 0 ((jm_at h1 h2).trans (by rw [jm_aci hs])) rfl (jm_inb_vp hb) hd (k9 H locs ls hP hS hl)
theorem jm_bald {f : Int32 → Option α} {i len : Nat} {j : Int32} (hd : decode (jm_cd Y) pc = .ok (.baload, 1)) (hs : jm_sh i = .inl (.byte, len)) (h1 : 1 ≤ i) (h2 : i ≤ n) (kk : ∀ x, jm_Sim Y ce sl (pc + 1) L (.int x :: st) n mr σ (f x) ρ) : jm_Sim Y ce sl pc L (.int j :: .ref i :: st) n mr σ (jm_ldi σ i len j f) ρ := by
  refine jm_gd (fun a hb ha => ?_)
  refine jm_go (fun _ _ _ _ _ _ _ _ _ D g base b _ Cx H locs ls hP hS hl k9 => ?_) (kk (σ.1 i j.toNatClampNeg)) a ha
  rw [List.map_cons, List.map_cons, jm_tr_ref base b i h1]
  exact va_bald Cx.1 Cx.2.1 Cx.2.2.2.2.2.1 hP.2 (i - 1) 1 ((jm_at h1 h2).trans (by rw [jm_acb hs])) rfl (jm_inb_vp hb) hd (k9 H locs ls hP hS hl)
theorem jm_lald {f : Int64 → Option α} {i len : Nat} {j : Int32} (hd : decode (jm_cd Y) pc = .ok (.laload, 1)) (hs : jm_sh i = .inl (.long, len)) (h1 : 1 ≤ i) (h2 : i ≤ n) (kk : ∀ x, jm_Sim Y ce sl (pc + 1) L (.long x :: st) n mr σ (f x) ρ) : jm_Sim Y ce sl pc L (.int j :: .ref i :: st) n mr σ (jm_ldl σ i len j f) ρ := by
  refine jm_gd (fun a hb ha => ?_)
  refine jm_go (fun _ _ _ _ _ _ _ _ _ D g base b _ Cx H locs ls hP hS hl k9 => ?_) (kk (σ.2 i j.toNatClampNeg)) a ha
  rw [List.map_cons, List.map_cons, jm_tr_ref base b i h1]
  exact va_lald Cx.1 Cx.2.1 Cx.2.2.2.2.2.1 hP.2 (i - 1) 2 ((jm_at h1 h2).trans (by rw [jm_acl hs])) rfl (jm_inb_vp hb) hd (k9 H locs ls hP hS hl)
theorem jm_iast {f : jm_M → Option α} {i len : Nat} {j x : Int32} (hd : decode (jm_cd Y) pc = .ok (.iastore, 1)) (hs : jm_sh i = .inl (.int, len)) (h1 : 1 ≤ i) (h2 : i ≤ n) (kk : ∀ σ1, jm_Sim Y ce sl (pc + 1) L st n mr σ1 (f σ1) ρ) : jm_Sim Y ce sl pc L (.int x :: .int j :: .ref i :: st) n mr σ (jm_sti σ i len j x f) ρ := by
  refine jm_gd (fun a hb ha => ?_)
  refine jm_go (fun _ _ _ _ _ _ _ _ _ D g base b _ Cx H locs ls hP hS hl k9 => ?_) (kk (jm_si σ i j.toNatClampNeg x)) a ha
  rw [List.map_cons, List.map_cons, List.map_cons, jm_tr_ref base b i h1]
  have hat := (jm_at (g := g) (base := base) (mr := mr) (σ := σ) h1 h2).trans (by rw [jm_aci hs])
  have hin := jm_inb_vp hb
  refine W.iast Cx.1 Cx.2.1 (hP.2 (i - 1) _ hat) ((Cx.2.2.2.2.2.1.2 0 (g.1, .int) rfl).1 len (fun j => .int (σ.1 i j))) (fun q => by cases q) (by show ¬ (j < 0 ∨ (arrV _ _ _).slots.size ≤ _); rw [arrV_size]; exact hin) rfl rfl hd fun H1 e9 z oq => ?_
  refine k9 H1 _ ls ⟨z.trans hP.1, ?_⟩ (hS.put z oq (jm_D.2 (i - 1) _ hat)) hl
  rw [← jm_ws_set (g := g) (base := base) (n := n) (mr := mr) (σ := σ) h1 (fun j hj => jm_cell_eq (jm_si_o hj) rfl rfl), jm_aci hs, jm_si_i]
  refine hP.2.set jm_D hat ?_ oq
  show H1[base + i]? = some (vp_cell _ _)
  rw [e9, vp_cell_i, vp_cell_i, arrV_store]
  congr 2
  funext q
  by_cases hq : q = j.toNatClampNeg
  · subst hq
    simp [updV, upd]
  · simp [updV, upd, hq]
theorem jm_bast {f : jm_M → Option α} {i len : Nat} {j x : Int32} (hd : decode (jm_cd Y) pc = .ok (.bastore, 1)) (hs : jm_sh i = .inl (.byte, len)) (h1 : 1 ≤ i) (h2 : i ≤ n) (kk : ∀ σ1, jm_Sim Y ce sl (pc + 1) L st n mr σ1 (f σ1) ρ) : jm_Sim Y ce sl pc L (.int x :: .int j :: .ref i :: st) n mr σ (jm_sti σ i len j (vp_nar .byte x) f) ρ := by
  refine jm_gd (fun a hb ha => ?_)
  refine jm_go (fun _ _ _ _ _ _ _ _ _ D g base b _ Cx H locs ls hP hS hl k9 => ?_) (kk (jm_si σ i j.toNatClampNeg (vp_nar .byte x))) a ha
  rw [List.map_cons, List.map_cons, List.map_cons, jm_tr_ref base b i h1]
  have hat := (jm_at (g := g) (base := base) (mr := mr) (σ := σ) h1 h2).trans (by rw [jm_acb hs])
  have hin := jm_inb_vp hb
  refine W.bast Cx.1 Cx.2.1 (hP.2 (i - 1) _ hat) ((Cx.2.2.2.2.2.1.2 1 (g.2.1, .byte) rfl).1 len (fun j => .int (σ.1 i j))) (fun q => by cases q) (by show ¬ (j < 0 ∨ (arrV _ _ _).slots.size ≤ _); rw [arrV_size]; exact hin) rfl rfl hd fun H1 e9 z oq => ?_
  refine k9 H1 _ ls ⟨z.trans hP.1, ?_⟩ (hS.put z oq (jm_D.2 (i - 1) _ hat)) hl
  rw [← jm_ws_set (g := g) (base := base) (n := n) (mr := mr) (σ := σ) h1 (fun j hj => jm_cell_eq (jm_si_o hj) rfl rfl), jm_acb hs, jm_si_i]
  refine hP.2.set jm_D hat ?_ oq
  show H1[base + i]? = some (vp_cell _ _)
  rw [e9, vp_cell_i, vp_cell_i, arrV_store]
  congr 2
  funext q
  by_cases hq : q = j.toNatClampNeg
  · subst hq
    simp [updV, upd, vp_nar, narrow]
  · simp [updV, upd, hq]
theorem jm_last {f : jm_M → Option α} {i len : Nat} {j : Int32} {x : Int64} (hd : decode (jm_cd Y) pc = .ok (.lastore, 1)) (hs : jm_sh i = .inl (.long, len)) (h1 : 1 ≤ i) (h2 : i ≤ n) (kk : ∀ σ1, jm_Sim Y ce sl (pc + 1) L st n mr σ1 (f σ1) ρ) : jm_Sim Y ce sl pc L (.long x :: .int j :: .ref i :: st) n mr σ (jm_stl σ i len j x f) ρ := by
  refine jm_gd (fun a hb ha => ?_)
  refine jm_go (fun _ _ _ _ _ _ _ _ _ D g base b _ Cx H locs ls hP hS hl k9 => ?_) (kk (jm_sl σ i j.toNatClampNeg x)) a ha
  rw [List.map_cons, List.map_cons, List.map_cons, jm_tr_ref base b i h1]
  have hat := (jm_at (g := g) (base := base) (mr := mr) (σ := σ) h1 h2).trans (by rw [jm_acl hs])
  have hin := jm_inb_vp hb
  refine W.last Cx.1 Cx.2.1 (hP.2 (i - 1) _ hat) ((Cx.2.2.2.2.2.1.2 2 (g.2.2, .long) rfl).1 len (fun j => .long (σ.2 i j))) (fun q => by cases q) (by show ¬ (j < 0 ∨ (arrV _ _ _).slots.size ≤ _); rw [arrV_size]; exact hin) rfl rfl hd fun H1 e9 z oq => ?_
  refine k9 H1 _ ls ⟨z.trans hP.1, ?_⟩ (hS.put z oq (jm_D.2 (i - 1) _ hat)) hl
  rw [← jm_ws_set (g := g) (base := base) (n := n) (mr := mr) (mr' := mr) (σ := σ) (σ' := jm_sl σ i j.toNatClampNeg x) h1 (fun j hj => jm_cell_eq rfl (jm_sl_o hj) rfl), jm_acl hs, jm_sl_i]
  refine hP.2.set jm_D hat ?_ oq
  show H1[base + i]? = some (vp_cell _ _)
  rw [e9, vp_cell_l, vp_cell_l, arrV_store]
  congr 2
  funext q
  by_cases hq : q = j.toNatClampNeg
  · subst hq
    simp [updV, vp_updL]
  · simp [updV, vp_updL, hq]
/-! going back -/
theorem jm_iret {a : α} {x : Int32} {ty : FieldType} (hd : decode (jm_cd Y) pc = .ok (.ireturn, 1)) (hrt : jm_rt Y = some ty) (hn : narrow ty (.int x) = .int x) (hce : ce = (jm_rm Y).cells) (hsl : sl = (jm_rm Y).slots) (ha : ρ a = (some (.int x), n, mr, σ)) : jm_Sim Y ce sl pc L [.int x] n mr σ (some a) ρ := by
  intro a' ha' p l e s mm args below meth c D g base b Q C hr H locs ls hP hS hl
  cases ha'
  rw [ha] at hr
  subst hce; subst hsl
  exact hr H locs ls pc hP hS ⟨hd, ty, hrt, hn⟩
theorem jm_vret {a : α} (hd : decode (jm_cd Y) pc = .ok (.return_, 1)) (hrt : jm_rt Y = none) (hce : ce = (jm_rm Y).cells) (hsl : sl = (jm_rm Y).slots) (ha : ρ a = (none, n, mr, σ)) : jm_Sim Y ce sl pc L [] n mr σ (some a) ρ := by
  intro a' ha' p l e s mm args below meth c D g base b Q C hr H locs ls hP hS hl
  cases ha'
  rw [ha] at hr
  subst hce; subst hsl
  exact hr H locs ls pc hP hS ⟨hd, hrt⟩
theorem jm_lret {a : α} {x : Int64} (hd : decode (jm_cd Y) pc = .ok (.lreturn, 1)) (hrt : jm_rt Y = some .long) (hce : ce = (jm_rm Y).cells) (hsl : sl = (jm_rm Y).slots) (ha : ρ a = (some (.long x), n, mr, σ)) : jm_Sim Y ce sl pc L [.long x] n mr σ (some a) ρ := by
  intro a' ha' p l e s mm args below meth c D g base b Q C hr H locs ls hP hS hl
  cases ha'
  rw [ha] at hr
  subst hce; subst hsl
  exact hr H locs ls pc hP hS ⟨hd, hrt⟩
def jm_gb {α : Type} (x : Int32) (f : Option α) : Option α := if (decide (x = 0) || decide (x = 1)) = true then f else none
theorem jm_zret {a : α} {x : Int32} (hd : decode (jm_cd Y) pc = .ok (.ireturn, 1)) (hrt : jm_rt Y = some .boolean) (hce : ce = (jm_rm Y).cells) (hsl : sl = (jm_rm Y).slots) (ha : ρ a = (some (.int x), n, mr, σ)) : jm_Sim Y ce sl pc L [.int x] n mr σ (jm_gb x (some a)) ρ := by
  refine jm_gd (fun a' hb h => ?_)
  rw [Bool.or_eq_true, decide_eq_true_eq, decide_eq_true_eq] at hb
  refine jm_iret hd hrt ?_ hce hsl ha a' h
  rcases hb with rfl | rfl <;> decide
/-! calls -/
theorem jm_lvargs (base b : Nat) : ∀ (vs : List Value) (i : Nat), lv_args i (vs.map (jm_tr base b)) = (lv_args i vs).map (jm_tp base b)
  | [], _ => rfl
  | v :: vs, i => by
    show (i, jm_tr base b v) :: lv_args (if (jm_tr base b v).category = 2 then i + 2 else i + 1) (vs.map (jm_tr base b)) = (i, jm_tr base b v) :: (lv_args (if v.category = 2 then i + 2 else i + 1) vs).map (jm_tp base b)
    rw [jm_cat, jm_lvargs base b vs]
theorem jm_slen (base b : Nat) (vs : List Value) : (lg_sl (vs.map (jm_tr base b))).length = (lg_sl vs).length := by
  induction vs with
  | nil => rfl
  | cons v vs ih =>
    have h1 : ∀ (w : Value) (ws : List Value), (lg_sl (w :: ws)).length = (if w.category = 2 then 2 else 1) + (lg_sl ws).length := by
      intro w ws
      show (List.flatMap _ (w :: ws)).length = _
      rw [List.flatMap_cons, List.length_append]
      by_cases h : w.category = 2
      · simp only [h, if_true]; rfl
      · simp only [h, if_false]; rfl
    rw [List.map_cons, h1, h1, jm_cat, ih]
def jm_B (D : va_G) (g : ClassId × ClassId × ClassId) (base n : Nat) (mr : jm_R) (σ : jm_M) (U : State) : Prop := jm_Rep D g base n mr σ U.heap ∧ va_K D vwCl (jm_ty g) U ∧ base < U.heap.size ∧ jm_N U
def jm_Qc (D : va_G) (g : ClassId × ClassId × ClassId) (base : Nat) (r : Option Value × Nat × jm_R × jm_M) (st : State) (o : Outcome) (t : State) : Prop := o = .returned r.1 ∧ jm_Rep D g base r.2.1 r.2.2.1 r.2.2.2 t.heap ∧ va_F (jm_A base) st t
def jm_w (Y : jm_Y) : List Cond := Cond.code (jm_nm Y) (jm_cd Y) (jm_ml Y) (jm_rt Y) :: jm_tbl
def jm_ok (Y : jm_Y) (np : Nat) : Prop := plainName (jm_nm Y).cls = true ∧ jm_sc Y = none ∧ Cond.code (jm_nm Y) (jm_cd Y) (jm_ml Y) (jm_rt Y) ∈ jm_tbl ∧ Cond.initialized (jm_nm Y).cls ∈ jm_tbl ∧ ((jm_nm Y).cls ≠ "java/lang/invoke/MethodHandle" ∧ (jm_nm Y).cls ≠ "java/lang/invoke/VarHandle" ∧ (parseMethodDescriptor (jm_nm Y).desc).map (fun d => d.parameters.length) = some np)
theorem jm_met {β : Type} {Y : jm_Y} {avs : List Value} {np : Nat} {m' : Option β} {ρ' : β → Option Value × Nat × jm_R × jm_M} (h : jm_Sim Y 0 0 0 (lv_args 0 avs) [] n mr σ m' ρ') {a : β} (ha : m' = some a) (ho : jm_ok Y np) (hlen : (lg_sl avs).length ≤ jm_ml Y) (l : Launch) (D : va_G) (g : ClassId × ClassId × ClassId) (base b : Nat) :
    Met l (jm_nm Y) (jm_w Y) (jm_rm Y) (va_Pc (avs.map (jm_tr base b)) (jm_B D g base n mr σ)) (fun _ => jm_Qc D g base (ρ' a)) (jm_rm Y).cells (jm_rm Y).slots (jm_A base) := by
  refine Met.ofW (cc := jm_cd Y) (maxL := jm_ml Y) (ret := jm_rt Y) ho.1 rfl ?_
  intro p e s mm args below meth c s₁ B hml hv
  obtain ⟨rfl, hP, hK, hbs, hN⟩ := hv
  have hts := atoms_spec (ws := jm_w Y) B.pre
  have hlocks := B.notSynchronized
  have hl := lv_entry (avs.map (jm_tr base b)) (n := jm_ml Y) (by rw [jm_slen]; exact hlen)
  rw [jm_lvargs] at hl
  rw [lg_entry_eq]
  generalize (lg_sl (avs.map (jm_tr base b)) ++ List.replicate (jm_ml Y - (lg_sl (avs.map (jm_tr base b))).length) Slot.unset).toArray = ls at hl ⊢
  refine h a ha p l e s mm _ below meth c D g base b _ ⟨B.exec, B.bytes, hml, findClass_of_methodNamed B.named, fun w hw => hts w (List.mem_cons_of_mem _ hw), hK, hbs, hlocks, fun hn => (name_of_methodNamed B.named B.method).1.trans hn, fun q hq => (by rw [ho.2.1] at hq; cases hq), hN⟩ ?_ s.heap [] ls hP va_S.rf hl
  intro H locs ls2 pc' hP2 hS2 hR
  have hq : ∀ v, v = (ρ' a).1 → ∀ t : State, t.heap = H → s.WarmedH t.vm → jm_Qc D g base (ρ' a) s (.returned v) t := fun v hv t ht _ => ⟨by rw [hv], by rw [ht]; exact hP2, hS2.F ht⟩
  generalize hv : (ρ' a).1 = v at hR hq ⊢
  match v, hR with
  | none, hR => exact W.vret B.exec B.bytes (B.returns.trans hR.2) (fun t ht hW => hq none rfl t ht hW) hS2.2.2 hR.1
  | some (.int x), hR =>
    obtain ⟨hd, ty, hrt, hn⟩ := hR
    exact W.zret B.exec B.bytes (B.returns.trans hrt) hn (fun t ht hW => hq _ rfl t ht hW) hS2.2.2 hd
  | some (.long x), hR => exact W.lret B.exec B.bytes (B.returns.trans hR.2) (fun t ht hW => hq _ rfl t ht hW) hS2.2.2 hR.1
theorem jm_blind {D : va_G} {g : ClassId × ClassId × ClassId} {base : Nat} {av : List Value} : FrameBlind (va_Pc av (jm_B D g base n mr σ)) := by
  intro a U gg mk q
  obtain ⟨q0, qP, qK, qb, qN⟩ := q
  exact ⟨q0, qP, va_K.moved (u := U) (U := U.calling gg mk a) (Vm.Alike.refl U.vm) qK, qb, fun z hz => va_Nw.same rfl rfl (qN z hz)⟩
theorem jm_preU {D : va_G} {g : ClassId × ClassId × ClassId} {base : Nat} {s U : State} {H : Heap} {locs : List Loc} {av : List Value} (hP : jm_Rep D g base n mr σ H) (hK : va_K D vwCl (jm_ty g) s) (hbs : base < s.heap.size) (hS : va_S (jm_A base) s.heap H locs) (hN : jm_N s) (hU : U.heap = H) (hW : s.WarmedH U.vm) : va_Pc av (jm_B D g base n mr σ) av.toArray U :=
  ⟨rfl, by rw [hU]; exact hP, va_K.moved hW.alike hK, by rw [hU]; exact Nat.lt_of_lt_of_le hbs hS.1, fun z hz => va_Nw.warmM hW (hN z hz)⟩
theorem jm_cats (base b : Nat) (rest : List Value) : ((rest.map (jm_tr base b)).map fun v => v.category) = rest.map fun v => v.category := by
  rw [List.map_map]
  apply List.map_congr_left
  intro v _
  exact jm_cat base b v
theorem jm_call {β : Type} {Y' : jm_Y} {rest : List Value} {m' : Option β} {ρ' : β → Option Value × Nat × jm_R × jm_M} {f : β → Option α}
    (run : ∀ a, m' = some a → ∀ (p : Program) (l : Launch) (e : Env) (s : State) (mm : MethodId) (args : Array Value) (below : List Frame) (meth : Method) (c : Code) (D : va_G) (g : ClassId × ClassId × ClassId) (base b : Nat), jm_Cx Y D g base b p s mm args meth c → ∀ (H : Heap) (locs : List Loc) (ls : Array Slot), jm_Rep D g base n mr σ H → va_S (jm_A base) s.heap H locs → lv_has ls (jm_ml Y) (L.map (jm_tp base b)) →
      va_Run p l e (jm_rm Y) s mm args below meth c H locs ce sl (jm_rm Y').cells (jm_rm Y').slots (F0 mm pc ls (st.map (jm_tr base b))) (rest.map (jm_tr base b)) (jm_Qc D g base (ρ' a)) (jm_A base))
    (hv : ∀ a (base b : Nat), (ρ' a).1.toList.map (jm_tr base b) = (ρ' a).1.toList)
    (k : ∀ a, jm_Sim Y (ce + (jm_rm Y').cells) (sl + (jm_rm Y').slots) (pc + 3) L ((ρ' a).1.toList ++ rest) (ρ' a).2.1 (ρ' a).2.2.1 (ρ' a).2.2.2 (f a) ρ) : jm_Sim Y ce sl pc L st n mr σ (jm_bd m' f) ρ := by
  intro a ha p l e s mm args below meth c D g base b Q C hr H locs ls hP hS hl
  obtain ⟨a', h1, h2⟩ : ∃ a', m' = some a' ∧ f a' = some a := by
    cases hm : m' with
    | none => rw [hm] at ha; cases ha
    | some a' => rw [hm] at ha; exact ⟨a', rfl, ha⟩
  have hR := run a' h1 p l e s mm args below meth c D g base b C H locs ls hP hS hl
  intro T hT X
  obtain ⟨v, st₀, t, T', L', h0, X', hL, e1, e2, ⟨ho, hRp, hz, hk⟩, stp⟩ := hR T hT X
  cases ho
  rw [h0] at hz hk
  have K := k a' a h2 p l e s mm args below meth c D g base b Q C hr T'.heap (locs ++ L') ls (by rw [e1]; exact hRp)
    ⟨Nat.le_trans hS.1 (by rw [e1]; exact hz), fun q h3 h4 => by rw [e1, hk q (Nat.lt_of_lt_of_le h3 hS.1) h4]; exact hS.2.1 q h3 h4, fun q hq => by
      rcases List.mem_append.mp hq with h | h
      · exact hS.2.2 q h
      · exact hL q h⟩ hl
  rw [List.map_append, hv] at K
  obtain ⟨t2, a1, b1⟩ := K T' rfl X'
  exact ⟨t2, stp t2 a1, b1⟩
def jm_lk (Y Y' : jm_Y) : Prop := (jm_rm Y').frames + 1 ≤ (jm_rm Y).frames ∧ 8 + (jm_ml Y' + 11) + (jm_rm Y').locals ≤ (jm_rm Y).locals
theorem jm_wgood {Y : jm_Y} {np : Nat} (ho : jm_ok Y np) : GoodIn jm_tbl (jm_w Y) := fun w h => (List.mem_cons.mp h).elim (fun e => by rw [e]; exact jm_good _ ho.2.2.1) (fun h => jm_good w h)
theorem jm_runS {β : Type} {Y' : jm_Y} {idx np : Nat} {avs rest : List Value} {m' : Option β} {ρ' : β → Option Value × Nat × jm_R × jm_M} {f : β → Option α} (hM : jm_Sim Y' 0 0 0 (lv_args 0 avs) [] n mr σ m' ρ') (ho : jm_ok Y' np) (hlk : jm_lk Y Y') (hl : Cond.methodLink (jm_nm Y).cls idx (jm_nm Y') ∈ jm_tbl) (hs : Cond.static (jm_nm Y') ∈ jm_tbl) (hd : decode (jm_cd Y) pc = .ok (.invokestatic idx, 3)) (hst : st = avs.reverse ++ rest) (hnp : avs.length = np) (hlen : (lg_sl avs).length ≤ jm_ml Y') (hrs : (rest.map fun v => v.category).sum ≤ 8) (hc1 : ce + (jm_rm Y').cells ≤ (jm_rm Y).cells) (hc2 : sl + (jm_rm Y').slots ≤ (jm_rm Y).slots)
    (hv : ∀ a (base b : Nat), (ρ' a).1.toList.map (jm_tr base b) = (ρ' a).1.toList) (k : ∀ a, jm_Sim Y (ce + (jm_rm Y').cells) (sl + (jm_rm Y').slots) (pc + 3) L ((ρ' a).1.toList ++ rest) (ρ' a).2.1 (ρ' a).2.2.1 (ρ' a).2.2.2 (f a) ρ) : jm_Sim Y ce sl pc L st n mr σ (jm_bd m' f) ρ := by
  refine jm_call (Y' := Y') (rest := rest) (fun a ha p l e s mm args below meth c D g base b C H locs ls hP hS hlv => ?_) hv k
  subst hst
  exact va_runS (As := avs.map (jm_tr base b)) (rest := rest.map (jm_tr base b)) ⟨C.1, C.2.1, C.2.2.1, C.2.2.2.1, C.2.2.2.2.1⟩ (jm_met hM ha ho hlen l D g base b) ⟨callB_of np C.2.2.2.2.1 (jm_wgood ho) rfl rfl rfl (C.2.2.2.2.1 _ ho.2.2.2.1) (C.2.2.2.2.1 _ hl) ho.2.2.2.2 hlk, C.2.2.2.2.1 _ hs⟩ ⟨jm_blind, fun U hU hW => jm_preU hP C.2.2.2.2.2.1 C.2.2.2.2.2.2.1 hS C.2.2.2.2.2.2.2.2.2.2 hU hW⟩ rfl (by rw [List.length_map]; exact hnp) hlv.1 (by show List.map _ (avs.reverse ++ rest) = _; rw [List.map_append, List.map_reverse]) (lv_room (by rw [jm_cats]; exact hrs)) hd ⟨hc1, hc2⟩
theorem jm_runSN {β : Type} {Y' : jm_Y} {idx np : Nat} {host : String} {avs rest : List Value} {m' : Option β} {ρ' : β → Option Value × Nat × jm_R × jm_M} {f : β → Option α} (hM : jm_Sim Y' 0 0 0 (lv_args 0 avs) [] n mr σ m' ρ') (ho : jm_ok Y' np) (hlk : jm_lk Y Y') (hl : ((jm_nm Y).cls, idx, jm_nm Y', host) ∈ jm_nest) (hs : Cond.static (jm_nm Y') ∈ jm_tbl) (hd : decode (jm_cd Y) pc = .ok (.invokestatic idx, 3)) (hst : st = avs.reverse ++ rest) (hnp : avs.length = np) (hlen : (lg_sl avs).length ≤ jm_ml Y') (hrs : (rest.map fun v => v.category).sum ≤ 8) (hc1 : ce + (jm_rm Y').cells ≤ (jm_rm Y).cells) (hc2 : sl + (jm_rm Y').slots ≤ (jm_rm Y).slots)
    (hv : ∀ a (base b : Nat), (ρ' a).1.toList.map (jm_tr base b) = (ρ' a).1.toList) (k : ∀ a, jm_Sim Y (ce + (jm_rm Y').cells) (sl + (jm_rm Y').slots) (pc + 3) L ((ρ' a).1.toList ++ rest) (ρ' a).2.1 (ρ' a).2.2.1 (ρ' a).2.2.2 (f a) ρ) : jm_Sim Y ce sl pc L st n mr σ (jm_bd m' f) ρ := by
  refine jm_call (Y' := Y') (rest := rest) (fun a ha p l e s mm args below meth c D g base b C H locs ls hP hS hlv => ?_) hv k
  subst hst
  exact va_runSN (As := avs.map (jm_tr base b)) (rest := rest.map (jm_tr base b)) ⟨C.1, C.2.1, C.2.2.1, C.2.2.2.1, C.2.2.2.2.1⟩ (jm_met hM ha ho hlen l D g base b) ⟨va_cnB np C.2.2.2.2.1 (jm_wgood ho) rfl rfl rfl (C.2.2.2.2.2.2.2.2.2.2 _ hl) (C.2.2.2.2.1 _ ho.2.2.2.1) ho.2.2.2.2 hlk, C.2.2.2.2.1 _ hs, trivial⟩ ⟨jm_blind, fun U hU hW => jm_preU hP C.2.2.2.2.2.1 C.2.2.2.2.2.2.1 hS C.2.2.2.2.2.2.2.2.2.2 hU hW⟩ rfl (by rw [List.length_map]; exact hnp) hlv.1 (by show List.map _ (avs.reverse ++ rest) = _; rw [List.map_append, List.map_reverse]) (lv_room (by rw [jm_cats]; exact hrs)) hd ⟨hc1, hc2⟩
theorem jm_runV {β : Type} {Y' : jm_Y} {idx np i ci : Nat} {q : vw_C} {avs rest : List Value} {m' : Option β} {ρ' : β → Option Value × Nat × jm_R × jm_M} {f : β → Option α} (hM : jm_Sim Y' 0 0 0 (lv_args 0 (.ref i :: avs)) [] n mr σ m' ρ') (ho : jm_ok Y' np) (hlk : jm_lk Y Y') (hl : Cond.methodLink (jm_nm Y).cls idx (jm_nm Y') ∈ jm_tbl) (hi : Cond.instanceMethod (jm_nm Y') ∈ jm_tbl) (hse : Cond.selects (jm_nm Y').cls (jm_nm Y') (jm_nm Y') ∈ jm_tbl) (hd : decode (jm_cd Y) pc = .ok (.invokevirtual idx, 3)) (hst : st = avs.reverse ++ .ref i :: rest) (hsh : jm_sh i = .inr ci) (hq : vwCl[ci]? = some q) (hqc : q.1 = (jm_nm Y').cls) (h1 : 1 ≤ i) (h2 : i ≤ n) (hnp : avs.length = np) (hlen : (lg_sl (.ref i :: avs)).length ≤ jm_ml Y') (hrs : (rest.map fun v => v.category).sum ≤ 8) (hc1 : ce + (jm_rm Y').cells ≤ (jm_rm Y).cells) (hc2 : sl + (jm_rm Y').slots ≤ (jm_rm Y).slots)
    (hv : ∀ a (base b : Nat), (ρ' a).1.toList.map (jm_tr base b) = (ρ' a).1.toList) (k : ∀ a, jm_Sim Y (ce + (jm_rm Y').cells) (sl + (jm_rm Y').slots) (pc + 3) L ((ρ' a).1.toList ++ rest) (ρ' a).2.1 (ρ' a).2.2.1 (ρ' a).2.2.2 (f a) ρ) : jm_Sim Y ce sl pc L st n mr σ (jm_bd m' f) ρ := by
  refine jm_call (Y' := Y') (rest := rest) (fun a ha p l e s mm args below meth c D g base b C H locs ls hP hS hlv => ?_) hv k
  subst hst
  have hrec := va_recv C.2.2.2.2.2.1 hP.2 hq ((jm_at h1 h2).trans (by rw [jm_ob hsh]))
  rw [hqc] at hrec
  have hpre : ∀ U : State, U.heap = H → s.WarmedH U.vm → va_Pc ((Value.ref i :: avs).map (jm_tr base b)) (jm_B D g base n mr σ) (Value.ref (base + i) :: avs.map (jm_tr base b)).toArray U := fun U hU hW => by
    have h := jm_preU (av := (Value.ref i :: avs).map (jm_tr base b)) hP C.2.2.2.2.2.1 C.2.2.2.2.2.2.1 hS C.2.2.2.2.2.2.2.2.2.2 hU hW
    rw [List.map_cons, jm_tr_ref base b i h1] at h ⊢
    exact h
  exact va_runV (b := base + i) (C := (jm_nm Y').cls) (As := avs.map (jm_tr base b)) (rest := rest.map (jm_tr base b)) (g := F0 mm pc ls ((avs.reverse ++ .ref i :: rest).map (jm_tr base b))) ⟨C.1, C.2.1, C.2.2.1, C.2.2.2.1, C.2.2.2.2.1⟩ (jm_met hM ha ho hlen l D g base b) ⟨callB_of np C.2.2.2.2.1 (jm_wgood ho) rfl rfl rfl (C.2.2.2.2.1 _ ho.2.2.2.1) (C.2.2.2.2.1 _ hl) ho.2.2.2.2 hlk, C.2.2.2.2.1 _ hi, C.2.2.2.2.1 _ hse⟩ ⟨jm_blind, hrec, hpre⟩ rfl (by rw [List.length_map]; exact hnp) hlv.1 (by show List.map _ (avs.reverse ++ .ref i :: rest) = _; rw [List.map_append, List.map_reverse, List.map_cons, jm_tr_ref base b i h1]) (lv_room (by rw [jm_cats]; exact hrs)) hd (below := below) (locs := locs) ⟨hc1, hc2⟩
theorem jm_runI {β : Type} {Y' : jm_Y} {idx np i : Nat} {avs rest : List Value} {m' : Option β} {ρ' : β → Option Value × Nat × jm_R × jm_M} {f : β → Option α} (hM : jm_Sim Y' 0 0 0 (lv_args 0 (.ref i :: avs)) [] n mr σ m' ρ') (ho : jm_ok Y' np) (hlk : jm_lk Y Y') (hl : Cond.methodLink (jm_nm Y).cls idx (jm_nm Y') ∈ jm_tbl) (hi : Cond.instanceMethod (jm_nm Y') ∈ jm_tbl) (hname : (jm_nm Y').name = "<init>") (hrt : jm_rt Y' = none) (hd : decode (jm_cd Y) pc = .ok (.invokespecial idx, 3)) (hst : st = avs.reverse ++ .ref i :: rest) (h1 : 1 ≤ i) (hnp : avs.length = np) (hlen : (lg_sl (.ref i :: avs)).length ≤ jm_ml Y') (hrs : (rest.map fun v => v.category).sum ≤ 8) (hc1 : ce + (jm_rm Y').cells ≤ (jm_rm Y).cells) (hc2 : sl + (jm_rm Y').slots ≤ (jm_rm Y).slots)
    (hv : ∀ a (base b : Nat), (ρ' a).1.toList.map (jm_tr base b) = (ρ' a).1.toList) (k : ∀ a, jm_Sim Y (ce + (jm_rm Y').cells) (sl + (jm_rm Y').slots) (pc + 3) L ((ρ' a).1.toList ++ rest) (ρ' a).2.1 (ρ' a).2.2.1 (ρ' a).2.2.2 (f a) ρ) : jm_Sim Y ce sl pc L st n mr σ (jm_bd m' f) ρ := by
  refine jm_call (Y' := Y') (rest := rest) (fun a ha p l e s mm args below meth c D g base b C H locs ls hP hS hlv => ?_) hv k
  subst hst
  have hpre : ∀ U : State, U.heap = H → s.WarmedH U.vm → va_Pc ((Value.ref i :: avs).map (jm_tr base b)) (jm_B D g base n mr σ) (Value.ref (base + i) :: avs.map (jm_tr base b)).toArray U := fun U hU hW => by
    have h := jm_preU (av := (Value.ref i :: avs).map (jm_tr base b)) hP C.2.2.2.2.2.1 C.2.2.2.2.2.2.1 hS C.2.2.2.2.2.2.2.2.2.2 hU hW
    rw [List.map_cons, jm_tr_ref base b i h1] at h ⊢
    exact h
  have hcb := callB_of (R := jm_rm Y) (args := args) (s := s) (own := (jm_nm Y).cls) (index := idx) np C.2.2.2.2.1 (jm_wgood ho) rfl rfl rfl (C.2.2.2.2.1 _ ho.2.2.2.1) (C.2.2.2.2.1 _ hl) ho.2.2.2.2 hlk
  rw [hrt] at hcb
  exact va_runI (b := base + i) (As := avs.map (jm_tr base b)) (rest := rest.map (jm_tr base b)) (g := F0 mm pc ls ((avs.reverse ++ .ref i :: rest).map (jm_tr base b))) ⟨C.1, C.2.1, C.2.2.1, C.2.2.2.1, C.2.2.2.2.1⟩ (jm_met hM ha ho hlen l D g base b) ⟨hcb, hname, C.2.2.2.2.1 _ hi⟩ ⟨jm_blind, hpre⟩ rfl (by rw [List.length_map]; exact hnp) hlv.1 (by show List.map _ (avs.reverse ++ .ref i :: rest) = _; rw [List.map_append, List.map_reverse, List.map_cons, jm_tr_ref base b i h1]) (lv_room (by rw [jm_cats]; exact hrs)) hd (below := below) (locs := locs) ⟨hc1, hc2⟩
/-! cells that are made -/
def jm_okT (ty : FieldType) : Bool := match ty with
  | .float => false
  | .double => false
  | _ => true
theorem jm_zc {g : ClassId × ClassId × ClassId} {base : Nat} : jm_ws g base n (jm_zr mr (n + 1)) (jm_z σ (n + 1)) = jm_ws g base n mr σ := by
  apply List.map_congr_left
  intro i hi
  have hi := List.mem_range.mp hi
  have hne : i + 1 ≠ n + 1 := by omega
  rw [jm_cell_eq (mr := mr) (σ := σ)]
  · funext b; simp [jm_z, hne]; intro h; omega
  · funext b; simp [jm_z, hne]; intro h; omega
  · funext b; simp [jm_zr, hne]; intro h; omega
theorem jm_wss {g : ClassId × ClassId × ClassId} {base : Nat} : jm_ws g base (n + 1) mr σ = jm_ws g base n mr σ ++ [(base + (n + 1), jm_cell g base mr σ (n + 1))] := by
  rw [jm_ws, List.range_succ, List.map_append]
  rfl
theorem jm_fv0 {base i k : Nat} {ty : FieldType} (h : jm_okT ty = true) : jm_fv base (jm_zr mr i) (jm_z σ i) i k ty = defaultValue ty := by
  have e1 : (jm_z σ i).1 i k = 0 := by simp [jm_z]
  have e2 : (jm_z σ i).2 i k = 0 := by simp [jm_z]
  have e3 : jm_zr mr i i k = none := by simp [jm_zr]
  cases ty <;> first | (simp only [jm_fv, e1, e2, e3, jm_rv, defaultValue]; done) | (exact absurd h (by decide))
theorem jm_new {f : jm_M → Option α} {idx ci N : Nat} {C : String} {T : u_T} {ty0 : Nat → FieldType} (hd : decode (jm_cd Y) pc = .ok (.new idx, 3)) (hin : ∀ w ∈ u_ws C T N, w ∈ jm_tbl) (hq : vwCl[ci]? = some (C, T, N)) (hty : ∀ k, k < N → parseFieldDescriptor (T k).2.2.1 = some (ty0 k)) (hft : ∀ k, k < N → (jm_fts ci)[k]? = some (ty0 k)) (hok : ∀ k, k < N → jm_okT (ty0 k) = true) (hcl : Cond.classLink (jm_nm Y).cls idx C ∈ jm_tbl) (hins : Cond.instantiable C N ∈ jm_tbl) (hini : Cond.initialized C ∈ jm_tbl) (hs : jm_sh (n + 1) = .inr ci) (hce : ce + 1 ≤ (jm_rm Y).cells) (hsl : sl + N ≤ (jm_rm Y).slots)
    (kk : ∀ σ1, jm_Sim Y (ce + 1) (sl + N) (pc + 3) L (.ref (n + 1) :: st) (n + 1) (jm_zr mr (n + 1)) σ1 (f σ1) ρ) : jm_Sim Y ce sl pc L st n mr σ (jm_ev (jm_z σ (n + 1)) f) ρ := by
  refine jm_go (fun p l e s mm args below meth c D g base b Q Cx H locs ls hP hS hl k9 => ?_) (kk (jm_z σ (n + 1)))
  have hts := Cx.2.2.2.2.1
  have hKn := Cx.2.2.2.2.2.1.1 ci _ hq
  refine W.newcK Cx.1 Cx.2.1 Cx.2.2.2.1 (hts _ hcl) (hts _ hins) (hts _ hini) rfl hd hce hsl hKn.2.1 hP.1 fun H1 kC hkC e1 z1 o1 => ?_
  refine k9 H1 locs ls ⟨z1, ?_⟩ ⟨Nat.le_trans hS.1 (by rw [z1, hP.1]; omega), fun x h1 h2 => (o1 x (by have h3 := hS.1; have h4 := hP.1; omega)).trans (hS.2.1 x h1 h2), hS.2.2⟩ hl
  rw [jm_wss, jm_zc]
  refine va_P.app (hP.2.kept (fun k x hx => o1 x.1 (by have h3 := jm_ws_get hx; omega))) (fun k x hx => ?_)
  have hz : k < 1 := (List.getElem?_eq_some_iff.mp hx).1
  rw [show k = 0 by omega] at hx
  cases hx
  rw [jm_ob hs]
  refine ⟨_, hq, (u_born ty0 hts hin hKn hkC e1 hty).to (fun j hj => ?_)⟩
  rw [vp_V, List.getD_eq_getElem?_getD, List.getElem?_mapIdx, hft j hj, Option.map_some, jm_fv0 (hok j hj)]
  rfl
theorem jm_nav {f : jm_M → Option α} {aty : ArrayType} {ty : FieldType} {x : Int32} {N : Nat} {cs : ClassId × ClassId × ClassId → ClassId} (hd : decode (jm_cd Y) pc = .ok (.newarray aty, 2)) (hat : newarray.typeOf aty = ty) (hac : Cond.arrayClass ty ∈ jm_tbl) (hx : ¬ x < 0) (hN : x.toNatClampNeg = N) (hby : N * componentBytes ty ≤ 536870912) (hg : ∀ (g : ClassId × ClassId × ClassId) (s : State), (∀ (k : Nat) (q : ClassId × FieldType), (jm_ty g)[k]? = some q → ArrOfT s q.1 q.2 ∧ va_RA s q.1 q.2) → s.vm.findClass ("[" ++ ty.toString) = some (cs g)) (hce : ce + 1 ≤ (jm_rm Y).cells) (hsl : sl + N ≤ (jm_rm Y).slots)
    (hcell : ∀ (g : ClassId × ClassId × ClassId) (base : Nat) (mr : jm_R), ∃ a0, jm_cell g base mr (jm_z σ (n + 1)) (n + 1) = .inl (cs g, a0) ∧ vp_cell (cs g) a0 = arrV (cs g) N (fun _ => defaultValue ty))
    (kk : ∀ σ1, jm_Sim Y (ce + 1) (sl + N) (pc + 2) L (.ref (n + 1) :: st) (n + 1) (jm_zr mr (n + 1)) σ1 (f σ1) ρ) : jm_Sim Y ce sl pc L (.int x :: st) n mr σ (jm_ev (jm_z σ (n + 1)) f) ρ := by
  refine jm_go (fun p l e s mm args below meth c D g base b Q Cx H locs ls hP hS hl k9 => ?_) (kk (jm_z σ (n + 1)))
  have hts := Cx.2.2.2.2.1
  subst hat
  refine va_newaK Cx.1 Cx.2.1 (hts _ hac) rfl hd rfl hx hN hby hce hsl hP.1 fun H1 cA e1 z1 o1 hAr hNm => ?_
  have hcA : cA = cs g := Option.some.inj (hNm.symm.trans (hg g s Cx.2.2.2.2.2.1.2))
  subst hcA
  refine k9 H1 locs ls ⟨z1, ?_⟩ ⟨Nat.le_trans hS.1 (by rw [z1, hP.1]; omega), fun x h1 h2 => (o1 x (by have h3 := hS.1; have h4 := hP.1; omega)).trans (hS.2.1 x h1 h2), hS.2.2⟩ hl
  rw [jm_wss, jm_zc]
  refine va_P.app (hP.2.kept (fun k x hx => o1 x.1 (by have h3 := jm_ws_get hx; omega))) (fun k x hx => ?_)
  have hz : k < 1 := (List.getElem?_eq_some_iff.mp hx).1
  rw [show k = 0 by omega] at hx
  cases hx
  obtain ⟨a0, h1, h2⟩ := hcell g base (jm_zr mr (n + 1))
  rw [h1]
  show H1[base + (n + 1)]? = some (vp_cell _ _)
  rw [h2]
  exact e1
theorem jm_nai {f : jm_M → Option α} {x : Int32} {N : Nat} (hd : decode (jm_cd Y) pc = .ok (.newarray .int, 2)) (hac : Cond.arrayClass .int ∈ jm_tbl) (hx : ¬ x < 0) (hN : x.toNatClampNeg = N) (hby : N * componentBytes .int ≤ 536870912) (hs : jm_sh (n + 1) = .inl (.int, N)) (hce : ce + 1 ≤ (jm_rm Y).cells) (hsl : sl + N ≤ (jm_rm Y).slots)
    (kk : ∀ σ1, jm_Sim Y (ce + 1) (sl + N) (pc + 2) L (.ref (n + 1) :: st) (n + 1) (jm_zr mr (n + 1)) σ1 (f σ1) ρ) : jm_Sim Y ce sl pc L (.int x :: st) n mr σ (jm_ev (jm_z σ (n + 1)) f) ρ :=
  jm_nav (cs := fun g => g.1) hd rfl hac hx hN hby (fun g s h => (h 0 (g.1, .int) rfl).2) hce hsl (fun g base mr => ⟨_, jm_aci hs, by rw [vp_cell_i]; congr 1; funext j; simp [jm_z, defaultValue, newarray.typeOf]⟩) kk
theorem jm_nab {f : jm_M → Option α} {x : Int32} {N : Nat} (hd : decode (jm_cd Y) pc = .ok (.newarray .byte, 2)) (hac : Cond.arrayClass .byte ∈ jm_tbl) (hx : ¬ x < 0) (hN : x.toNatClampNeg = N) (hby : N * componentBytes .byte ≤ 536870912) (hs : jm_sh (n + 1) = .inl (.byte, N)) (hce : ce + 1 ≤ (jm_rm Y).cells) (hsl : sl + N ≤ (jm_rm Y).slots)
    (kk : ∀ σ1, jm_Sim Y (ce + 1) (sl + N) (pc + 2) L (.ref (n + 1) :: st) (n + 1) (jm_zr mr (n + 1)) σ1 (f σ1) ρ) : jm_Sim Y ce sl pc L (.int x :: st) n mr σ (jm_ev (jm_z σ (n + 1)) f) ρ :=
  jm_nav (cs := fun g => g.2.1) hd rfl hac hx hN hby (fun g s h => (h 1 (g.2.1, .byte) rfl).2) hce hsl (fun g base mr => ⟨_, jm_acb hs, by rw [vp_cell_i]; congr 1; funext j; simp [jm_z, defaultValue, newarray.typeOf]⟩) kk
theorem jm_nal {f : jm_M → Option α} {x : Int32} {N : Nat} (hd : decode (jm_cd Y) pc = .ok (.newarray .long, 2)) (hac : Cond.arrayClass .long ∈ jm_tbl) (hx : ¬ x < 0) (hN : x.toNatClampNeg = N) (hby : N * componentBytes .long ≤ 536870912) (hs : jm_sh (n + 1) = .inl (.long, N)) (hce : ce + 1 ≤ (jm_rm Y).cells) (hsl : sl + N ≤ (jm_rm Y).slots)
    (kk : ∀ σ1, jm_Sim Y (ce + 1) (sl + N) (pc + 2) L (.ref (n + 1) :: st) (n + 1) (jm_zr mr (n + 1)) σ1 (f σ1) ρ) : jm_Sim Y ce sl pc L (.int x :: st) n mr σ (jm_ev (jm_z σ (n + 1)) f) ρ :=
  jm_nav (cs := fun g => g.2.2) hd rfl hac hx hN hby (fun g s h => (h 2 (g.2.2, .long) rfl).2) hce hsl (fun g base mr => ⟨_, jm_acl hs, by rw [vp_cell_l]; congr 1; funext j; simp [jm_z, defaultValue, newarray.typeOf]⟩) kk
theorem jm_blen {i len : Nat} {v : Int32} (hd : decode (jm_cd Y) pc = .ok (.arraylength, 1)) (hs : jm_sh i = .inl (.byte, len)) (h1 : 1 ≤ i) (h2 : i ≤ n) (hv : Int32.ofNat len = v) (kk : jm_Sim Y ce sl (pc + 1) L (.int v :: st) n mr σ m ρ) : jm_Sim Y ce sl pc L (.ref i :: st) n mr σ m ρ := by
  refine jm_go (fun _ _ _ _ _ _ _ _ _ D g base b _ Cx H locs ls hP hS hl k9 => ?_) kk
  rw [List.map_cons, jm_tr_ref base b i h1]
  exact va_alen Cx.1 Cx.2.1 Cx.2.2.2.2.2.1 hP.2 (i - 1) 1 ((jm_at h1 h2).trans (by rw [jm_acb hs])) rfl hv hd (k9 H locs ls hP hS hl)
/-! the script -/
def jm_lds {α : Type} (xs : Nat → Int32) (len : Nat) (j : Int32) (f : Int32 → Option α) : Option α := if jm_inb j len = true then f (xs j.toNatClampNeg) else none
theorem jm_sld {f : Int32 → Option α} {len : Nat} {xs : Nat → Int32} {j : Int32} (hd : decode (jm_cd Y) pc = .ok (.iaload, 1)) (hs : jm_sc Y = some (len, xs)) (kk : ∀ x, jm_Sim Y ce sl (pc + 1) L (.int x :: st) n mr σ (f x) ρ) : jm_Sim Y ce sl pc L (.int j :: .ref 0 :: st) n mr σ (jm_lds xs len j f) ρ := by
  refine jm_gd (fun a hb ha => ?_)
  refine jm_go (fun _ _ _ _ _ _ _ _ _ D g base b _ Cx H locs ls hP hS hl k9 => ?_) (kk (xs j.toNatClampNeg)) a ha
  obtain ⟨hX, hbl, hbb⟩ := Cx.2.2.2.2.2.2.2.2.2.1 _ hs
  exact va_sld Cx.1 Cx.2.1 hX hbl (fun h => absurd h (Nat.not_lt.mpr hbb)) hS (jm_inb_vp hb) hd (k9 H locs ls hP hS hl)
theorem jm_slen2 {len : Nat} {xs : Nat → Int32} (hd : decode (jm_cd Y) pc = .ok (.arraylength, 1)) (hs : jm_sc Y = some (len, xs)) (kk : jm_Sim Y ce sl (pc + 1) L (.int (Int32.ofNat len) :: st) n mr σ m ρ) : jm_Sim Y ce sl pc L (.ref 0 :: st) n mr σ m ρ := by
  refine jm_go (fun _ _ _ _ _ _ _ _ _ D g base b _ Cx H locs ls hP hS hl k9 => ?_) kk
  obtain ⟨hX, hbl, hbb⟩ := Cx.2.2.2.2.2.2.2.2.2.1 _ hs
  exact va_slen Cx.1 Cx.2.1 hX hbl (fun h => absurd h (Nat.not_lt.mpr hbb)) hS hd (k9 H locs ls hP hS hl)
/-! Object's constructor; switches -/
theorem jm_oinit {i idx : Nat} (hd : decode (jm_cd Y) pc = .ok (.invokespecial idx, 3)) (hl : Cond.methodLink (jm_nm Y).cls idx Lib.objectInit ∈ jm_tbl) (hi : Cond.instanceMethod Lib.objectInit ∈ jm_tbl) (hc : Cond.code Lib.objectInit ⟨#[0xb1]⟩ 1 none ∈ jm_tbl) (hf : 1 ≤ (jm_rm Y).frames) (hr : (st.map fun v => v.category).sum + 12 ≤ (jm_rm Y).locals) (kk : jm_Sim Y ce sl (pc + 3) L st n mr σ m ρ) : jm_Sim Y ce sl pc L (.ref i :: st) n mr σ m ρ := by
  refine jm_go (fun _ _ _ _ _ _ _ _ _ D g base b _ Cx H locs ls hP hS hlv k9 => ?_) kk
  obtain ⟨a, ha⟩ := jm_tr_any base b i
  have hts := Cx.2.2.2.2.1
  rw [List.map_cons, ha]
  refine W.objInit Cx.1 Cx.2.1 Cx.2.2.2.1 (hts _ hl) (hts _ hi) (hts _ hc) rfl (by rw [Cx.2.2.1]; exact hlv.1) rfl hd hf ?_ (k9 H locs ls hP hS hlv)
  rw [jm_cats]
  exact Nat.le_trans (by simp [JFrame.monitorRoom]) hr
theorem jm_case {x : Int32} (v : Int32) {m1 m2 : Option α} {inst : Decidable (x = v)} (k1 : jm_Sim Y ce sl pc L (.int v :: st) n mr σ m1 ρ) (k2 : ¬ x = v → jm_Sim Y ce sl pc L (.int x :: st) n mr σ m2 ρ) : jm_Sim Y ce sl pc L (.int x :: st) n mr σ (@ite _ (x = v) inst m1 m2) ρ := by
  by_cases h : x = v
  · rw [if_pos h, h]
    exact k1
  · rw [if_neg h]
    exact k2 h
theorem jm_tswIn {dflt lo hi off : Int} {offs : Array Int} {len : Nat} {x : Int32} {tgt : Nat} (hd : decode (jm_cd Y) pc = .ok (.tableswitch dflt lo hi offs, len)) (h1 : ¬ x.toInt < lo) (h2 : ¬ hi < x.toInt) (ho : offs[(x.toInt - lo).toNat]? = some off) (ht : (pc : Int) + off = (tgt : Int)) (k : jm_Sim Y ce sl tgt L st n mr σ m ρ) : jm_Sim Y ce sl pc L (.int x :: st) n mr σ m ρ :=
  jm_go (fun _ _ _ _ _ _ _ _ _ _ _ base b _ C H locs ls hP hS hl kk => lv_tableIn C.1 C.2.1 hd h1 h2 ho ht (kk H locs ls hP hS hl)) k
theorem jm_tswOut {dflt lo hi : Int} {offs : Array Int} {len : Nat} {x : Int32} {tgt : Nat} (hd : decode (jm_cd Y) pc = .ok (.tableswitch dflt lo hi offs, len)) (h : x.toInt < lo ∨ hi < x.toInt) (ht : (pc : Int) + dflt = (tgt : Int)) (k : jm_Sim Y ce sl tgt L st n mr σ m ρ) : jm_Sim Y ce sl pc L (.int x :: st) n mr σ m ρ :=
  jm_go (fun _ _ _ _ _ _ _ _ _ _ _ base b _ C H locs ls hP hS hl kk => lv_tableOut C.1 C.2.1 hd h ht (kk H locs ls hP hS hl)) k
theorem jm_lsw {dflt off : Int} {ps : Array (Int × Int)} {len : Nat} {x : Int32} {tgt : Nat} (hd : decode (jm_cd Y) pc = .ok (.lookupswitch dflt ps, len)) (hp : (ps.toList.zip (ps.toList.drop 1)).all (fun (a, next) => a.1 < next.1) = true) (ho : Op.lookupswitch.offset ps.toList dflt x.toInt = off) (ht : (pc : Int) + off = (tgt : Int)) (k : jm_Sim Y ce sl tgt L st n mr σ m ρ) : jm_Sim Y ce sl pc L (.int x :: st) n mr σ m ρ :=
  jm_go (fun _ _ _ _ _ _ _ _ _ _ _ base b _ C H locs ls hP hS hl kk => lv_lookup C.1 C.2.1 hd hp ho ht (kk H locs ls hP hS hl)) k
theorem jm_neT {x : Int32} (v : Int32) {a : Int} (h : ¬ x = v) (hk : v.toInt = a) : ¬ x.toInt = a := fun q => h (Int32.toInt_inj.mp (by rw [hk]; exact q))
/-! names for values -/
theorem jm_nvi {x : Int32} {f : Int32 → Option α} (k : ∀ y, jm_Sim Y ce sl pc L (.int y :: st) n mr σ (f y) ρ) : jm_Sim Y ce sl pc L (.int x :: st) n mr σ (jm_vi x f) ρ := k x
theorem jm_nvl {x : Int64} {f : Int64 → Option α} (k : ∀ y, jm_Sim Y ce sl pc L (.long y :: st) n mr σ (f y) ρ) : jm_Sim Y ce sl pc L (.long x :: st) n mr σ (jm_vl x f) ρ := k x
theorem jm_mmin {idx : Nat} {x y : Int32} (hd : decode (jm_cd Y) pc = .ok (.invokestatic idx, 3)) (hl : Cond.methodLink (jm_nm Y).cls idx Lib.Math.min.name ∈ jm_tbl) (hs : Cond.static Lib.Math.min.name ∈ jm_tbl) (hi : Cond.initialized "java/lang/Math" ∈ jm_tbl) (hc : Cond.code Lib.Math.min.name Lib.Math.min.code 2 (some .int) ∈ jm_tbl) (hf : 1 ≤ (jm_rm Y).frames) (hr : (st.map fun v => v.category).sum + 13 ≤ (jm_rm Y).locals) (hc1 : ce ≤ (jm_rm Y).cells) (hc2 : sl ≤ (jm_rm Y).slots) (kk : jm_Sim Y ce sl (pc + 3) L (.int (jm_min x y) :: st) n mr σ m ρ) : jm_Sim Y ce sl pc L (.int y :: .int x :: st) n mr σ m ρ :=
  jm_go (fun _ _ _ _ _ _ _ _ _ D g base b _ Cx H locs ls hP hS hlv k9 => va_mmin Cx.1 Cx.2.1 (Cx.2.2.1.trans hlv.1.symm) Cx.2.2.2.1 (Cx.2.2.2.2.1 _ hl) (Cx.2.2.2.2.1 _ hs) (Cx.2.2.2.2.1 _ hi) (Cx.2.2.2.2.1 _ hc) hf (by rw [jm_cats]; exact hr) hc1 hc2 hd (k9 H locs ls hP hS hlv)) kk
theorem jm_mmax {idx : Nat} {x y : Int32} (hd : decode (jm_cd Y) pc = .ok (.invokestatic idx, 3)) (hl : Cond.methodLink (jm_nm Y).cls idx Lib.Math.max.name ∈ jm_tbl) (hs : Cond.static Lib.Math.max.name ∈ jm_tbl) (hi : Cond.initialized "java/lang/Math" ∈ jm_tbl) (hc : Cond.code Lib.Math.max.name Lib.Math.max.code 2 (some .int) ∈ jm_tbl) (hf : 1 ≤ (jm_rm Y).frames) (hr : (st.map fun v => v.category).sum + 13 ≤ (jm_rm Y).locals) (hc1 : ce ≤ (jm_rm Y).cells) (hc2 : sl ≤ (jm_rm Y).slots) (kk : jm_Sim Y ce sl (pc + 3) L (.int (jm_max x y) :: st) n mr σ m ρ) : jm_Sim Y ce sl pc L (.int y :: .int x :: st) n mr σ m ρ :=
  jm_go (fun _ _ _ _ _ _ _ _ _ D g base b _ Cx H locs ls hP hS hlv k9 => va_mmax Cx.1 Cx.2.1 (Cx.2.2.1.trans hlv.1.symm) Cx.2.2.2.1 (Cx.2.2.2.2.1 _ hl) (Cx.2.2.2.2.1 _ hs) (Cx.2.2.2.2.1 _ hi) (Cx.2.2.2.2.1 _ hc) hf (by rw [jm_cats]; exact hr) hc1 hc2 hd (k9 H locs ls hP hS hlv)) kk
end JR
/-! the four kinds of answer; calls that make no cell -/
def jm_rI (n : Nat) (mr : jm_R) (σ : jm_M) : Int32 → Option Value × Nat × jm_R × jm_M := fun x => (some (.int x), n, mr, σ)
def jm_rL (n : Nat) (mr : jm_R) (σ : jm_M) : Int64 → Option Value × Nat × jm_R × jm_M := fun x => (some (.long x), n, mr, σ)
def jm_rP (n : Nat) (mr : jm_R) : Int32 × jm_M → Option Value × Nat × jm_R × jm_M := fun x => (some (.int x.1), n, mr, x.2)
def jm_rV (n : Nat) (mr : jm_R) : jm_M → Option Value × Nat × jm_R × jm_M := fun x => (none, n, mr, x)
def jm_l0 (Y Y' : jm_Y) : Prop := jm_lk Y Y' ∧ (jm_rm Y').cells = 0 ∧ (jm_rm Y').slots = 0
theorem jm_none {α : Type} {Y : jm_Y} {ce sl pc : Nat} {L : List (Nat × Value)} {st : List Value} {n : Nat} {mr : jm_R} {σ : jm_M} {ρ : α → Option Value × Nat × jm_R × jm_M} : jm_Sim Y ce sl pc L st n mr σ none ρ := fun _ h => by cases h
def jm_b2 {α : Type} (m : Option (Int32 × jm_M)) (f : Int32 → jm_M → Option α) : Option α := jm_bd m (fun z => f z.1 z.2)
section JK
variable {α : Type} {Y : jm_Y} {ce sl pc : Nat} {L : List (Nat × Value)} {st : List Value} {n : Nat} {mr : jm_R} {σ : jm_M} {m : Option α} {ρ : α → Option Value × Nat × jm_R × jm_M}
theorem jm_Sp {Y' : jm_Y} {idx np : Nat} {avs rest : List Value} {m' : Option Int32} {f : Int32 → Option α} (hM : jm_Sim Y' 0 0 0 (lv_args 0 avs) [] n mr σ m' (jm_rI n mr σ)) (ho : jm_ok Y' np) (h0 : jm_l0 Y Y') (hl : Cond.methodLink (jm_nm Y).cls idx (jm_nm Y') ∈ jm_tbl) (hs : Cond.static (jm_nm Y') ∈ jm_tbl) (hd : decode (jm_cd Y) pc = .ok (.invokestatic idx, 3)) (hst : st = avs.reverse ++ rest) (hnp : avs.length = np) (hlen : (lg_sl avs).length ≤ jm_ml Y') (hrs : (rest.map fun v => v.category).sum ≤ 8) (hc1 : ce ≤ (jm_rm Y).cells) (hc2 : sl ≤ (jm_rm Y).slots) (k : ∀ x, jm_Sim Y ce sl (pc + 3) L (.int x :: rest) n mr σ (f x) ρ) : jm_Sim Y ce sl pc L st n mr σ (jm_bd m' f) ρ :=
  jm_runS hM ho h0.1 hl hs hd hst hnp hlen hrs (by rw [h0.2.1]; exact hc1) (by rw [h0.2.2]; exact hc2) (fun _ _ _ => rfl) (fun a => by rw [h0.2.1, h0.2.2]; exact k a)
theorem jm_Np {Y' : jm_Y} {idx np : Nat} {host : String} {avs rest : List Value} {m' : Option Int32} {f : Int32 → Option α} (hM : jm_Sim Y' 0 0 0 (lv_args 0 avs) [] n mr σ m' (jm_rI n mr σ)) (ho : jm_ok Y' np) (h0 : jm_l0 Y Y') (hl : ((jm_nm Y).cls, idx, jm_nm Y', host) ∈ jm_nest) (hs : Cond.static (jm_nm Y') ∈ jm_tbl) (hd : decode (jm_cd Y) pc = .ok (.invokestatic idx, 3)) (hst : st = avs.reverse ++ rest) (hnp : avs.length = np) (hlen : (lg_sl avs).length ≤ jm_ml Y') (hrs : (rest.map fun v => v.category).sum ≤ 8) (hc1 : ce ≤ (jm_rm Y).cells) (hc2 : sl ≤ (jm_rm Y).slots) (k : ∀ x, jm_Sim Y ce sl (pc + 3) L (.int x :: rest) n mr σ (f x) ρ) : jm_Sim Y ce sl pc L st n mr σ (jm_bd m' f) ρ :=
  jm_runSN hM ho h0.1 hl hs hd hst hnp hlen hrs (by rw [h0.2.1]; exact hc1) (by rw [h0.2.2]; exact hc2) (fun _ _ _ => rfl) (fun a => by rw [h0.2.1, h0.2.2]; exact k a)
theorem jm_Vp {Y' : jm_Y} {idx np i ci : Nat} {q : vw_C} {avs rest : List Value} {m' : Option Int32} {f : Int32 → Option α} (hM : jm_Sim Y' 0 0 0 (lv_args 0 (.ref i :: avs)) [] n mr σ m' (jm_rI n mr σ)) (ho : jm_ok Y' np) (h0 : jm_l0 Y Y') (hl : Cond.methodLink (jm_nm Y).cls idx (jm_nm Y') ∈ jm_tbl) (hi : Cond.instanceMethod (jm_nm Y') ∈ jm_tbl) (hse : Cond.selects (jm_nm Y').cls (jm_nm Y') (jm_nm Y') ∈ jm_tbl) (hd : decode (jm_cd Y) pc = .ok (.invokevirtual idx, 3)) (hst : st = avs.reverse ++ .ref i :: rest) (hsh : jm_sh i = .inr ci) (hq : vwCl[ci]? = some q) (hqc : q.1 = (jm_nm Y').cls) (h1 : 1 ≤ i) (h2 : i ≤ n) (hnp : avs.length = np) (hlen : (lg_sl (.ref i :: avs)).length ≤ jm_ml Y') (hrs : (rest.map fun v => v.category).sum ≤ 8) (hc1 : ce ≤ (jm_rm Y).cells) (hc2 : sl ≤ (jm_rm Y).slots) (k : ∀ x, jm_Sim Y ce sl (pc + 3) L (.int x :: rest) n mr σ (f x) ρ) : jm_Sim Y ce sl pc L st n mr σ (jm_bd m' f) ρ :=
  jm_runV hM ho h0.1 hl hi hse hd hst hsh hq hqc h1 h2 hnp hlen hrs (by rw [h0.2.1]; exact hc1) (by rw [h0.2.2]; exact hc2) (fun _ _ _ => rfl) (fun a => by rw [h0.2.1, h0.2.2]; exact k a)
theorem jm_Sl {Y' : jm_Y} {idx np : Nat} {avs rest : List Value} {m' : Option Int64} {f : Int64 → Option α} (hM : jm_Sim Y' 0 0 0 (lv_args 0 avs) [] n mr σ m' (jm_rL n mr σ)) (ho : jm_ok Y' np) (h0 : jm_l0 Y Y') (hl : Cond.methodLink (jm_nm Y).cls idx (jm_nm Y') ∈ jm_tbl) (hs : Cond.static (jm_nm Y') ∈ jm_tbl) (hd : decode (jm_cd Y) pc = .ok (.invokestatic idx, 3)) (hst : st = avs.reverse ++ rest) (hnp : avs.length = np) (hlen : (lg_sl avs).length ≤ jm_ml Y') (hrs : (rest.map fun v => v.category).sum ≤ 8) (hc1 : ce ≤ (jm_rm Y).cells) (hc2 : sl ≤ (jm_rm Y).slots) (k : ∀ x, jm_Sim Y ce sl (pc + 3) L (.long x :: rest) n mr σ (f x) ρ) : jm_Sim Y ce sl pc L st n mr σ (jm_bd m' f) ρ :=
  jm_runS hM ho h0.1 hl hs hd hst hnp hlen hrs (by rw [h0.2.1]; exact hc1) (by rw [h0.2.2]; exact hc2) (fun _ _ _ => rfl) (fun a => by rw [h0.2.1, h0.2.2]; exact k a)
theorem jm_Nl {Y' : jm_Y} {idx np : Nat} {host : String} {avs rest : List Value} {m' : Option Int64} {f : Int64 → Option α} (hM : jm_Sim Y' 0 0 0 (lv_args 0 avs) [] n mr σ m' (jm_rL n mr σ)) (ho : jm_ok Y' np) (h0 : jm_l0 Y Y') (hl : ((jm_nm Y).cls, idx, jm_nm Y', host) ∈ jm_nest) (hs : Cond.static (jm_nm Y') ∈ jm_tbl) (hd : decode (jm_cd Y) pc = .ok (.invokestatic idx, 3)) (hst : st = avs.reverse ++ rest) (hnp : avs.length = np) (hlen : (lg_sl avs).length ≤ jm_ml Y') (hrs : (rest.map fun v => v.category).sum ≤ 8) (hc1 : ce ≤ (jm_rm Y).cells) (hc2 : sl ≤ (jm_rm Y).slots) (k : ∀ x, jm_Sim Y ce sl (pc + 3) L (.long x :: rest) n mr σ (f x) ρ) : jm_Sim Y ce sl pc L st n mr σ (jm_bd m' f) ρ :=
  jm_runSN hM ho h0.1 hl hs hd hst hnp hlen hrs (by rw [h0.2.1]; exact hc1) (by rw [h0.2.2]; exact hc2) (fun _ _ _ => rfl) (fun a => by rw [h0.2.1, h0.2.2]; exact k a)
theorem jm_Vl {Y' : jm_Y} {idx np i ci : Nat} {q : vw_C} {avs rest : List Value} {m' : Option Int64} {f : Int64 → Option α} (hM : jm_Sim Y' 0 0 0 (lv_args 0 (.ref i :: avs)) [] n mr σ m' (jm_rL n mr σ)) (ho : jm_ok Y' np) (h0 : jm_l0 Y Y') (hl : Cond.methodLink (jm_nm Y).cls idx (jm_nm Y') ∈ jm_tbl) (hi : Cond.instanceMethod (jm_nm Y') ∈ jm_tbl) (hse : Cond.selects (jm_nm Y').cls (jm_nm Y') (jm_nm Y') ∈ jm_tbl) (hd : decode (jm_cd Y) pc = .ok (.invokevirtual idx, 3)) (hst : st = avs.reverse ++ .ref i :: rest) (hsh : jm_sh i = .inr ci) (hq : vwCl[ci]? = some q) (hqc : q.1 = (jm_nm Y').cls) (h1 : 1 ≤ i) (h2 : i ≤ n) (hnp : avs.length = np) (hlen : (lg_sl (.ref i :: avs)).length ≤ jm_ml Y') (hrs : (rest.map fun v => v.category).sum ≤ 8) (hc1 : ce ≤ (jm_rm Y).cells) (hc2 : sl ≤ (jm_rm Y).slots) (k : ∀ x, jm_Sim Y ce sl (pc + 3) L (.long x :: rest) n mr σ (f x) ρ) : jm_Sim Y ce sl pc L st n mr σ (jm_bd m' f) ρ :=
  jm_runV hM ho h0.1 hl hi hse hd hst hsh hq hqc h1 h2 hnp hlen hrs (by rw [h0.2.1]; exact hc1) (by rw [h0.2.2]; exact hc2) (fun _ _ _ => rfl) (fun a => by rw [h0.2.1, h0.2.2]; exact k a)
theorem jm_Si {Y' : jm_Y} {idx np : Nat} {avs rest : List Value} {m' : Option (Int32 × jm_M)} {f : Int32 → jm_M → Option α} (hM : jm_Sim Y' 0 0 0 (lv_args 0 avs) [] n mr σ m' (jm_rP n mr)) (ho : jm_ok Y' np) (h0 : jm_l0 Y Y') (hl : Cond.methodLink (jm_nm Y).cls idx (jm_nm Y') ∈ jm_tbl) (hs : Cond.static (jm_nm Y') ∈ jm_tbl) (hd : decode (jm_cd Y) pc = .ok (.invokestatic idx, 3)) (hst : st = avs.reverse ++ rest) (hnp : avs.length = np) (hlen : (lg_sl avs).length ≤ jm_ml Y') (hrs : (rest.map fun v => v.category).sum ≤ 8) (hc1 : ce ≤ (jm_rm Y).cells) (hc2 : sl ≤ (jm_rm Y).slots) (k : ∀ x s1, jm_Sim Y ce sl (pc + 3) L (.int x :: rest) n mr s1 (f x s1) ρ) : jm_Sim Y ce sl pc L st n mr σ (jm_b2 m' f) ρ :=
  jm_runS (f := fun z => f z.1 z.2) hM ho h0.1 hl hs hd hst hnp hlen hrs (by rw [h0.2.1]; exact hc1) (by rw [h0.2.2]; exact hc2) (fun _ _ _ => rfl) (fun a => by rw [h0.2.1, h0.2.2]; exact k a.1 a.2)
theorem jm_Ni {Y' : jm_Y} {idx np : Nat} {host : String} {avs rest : List Value} {m' : Option (Int32 × jm_M)} {f : Int32 → jm_M → Option α} (hM : jm_Sim Y' 0 0 0 (lv_args 0 avs) [] n mr σ m' (jm_rP n mr)) (ho : jm_ok Y' np) (h0 : jm_l0 Y Y') (hl : ((jm_nm Y).cls, idx, jm_nm Y', host) ∈ jm_nest) (hs : Cond.static (jm_nm Y') ∈ jm_tbl) (hd : decode (jm_cd Y) pc = .ok (.invokestatic idx, 3)) (hst : st = avs.reverse ++ rest) (hnp : avs.length = np) (hlen : (lg_sl avs).length ≤ jm_ml Y') (hrs : (rest.map fun v => v.category).sum ≤ 8) (hc1 : ce ≤ (jm_rm Y).cells) (hc2 : sl ≤ (jm_rm Y).slots) (k : ∀ x s1, jm_Sim Y ce sl (pc + 3) L (.int x :: rest) n mr s1 (f x s1) ρ) : jm_Sim Y ce sl pc L st n mr σ (jm_b2 m' f) ρ :=
  jm_runSN (f := fun z => f z.1 z.2) hM ho h0.1 hl hs hd hst hnp hlen hrs (by rw [h0.2.1]; exact hc1) (by rw [h0.2.2]; exact hc2) (fun _ _ _ => rfl) (fun a => by rw [h0.2.1, h0.2.2]; exact k a.1 a.2)
theorem jm_Vi {Y' : jm_Y} {idx np i ci : Nat} {q : vw_C} {avs rest : List Value} {m' : Option (Int32 × jm_M)} {f : Int32 → jm_M → Option α} (hM : jm_Sim Y' 0 0 0 (lv_args 0 (.ref i :: avs)) [] n mr σ m' (jm_rP n mr)) (ho : jm_ok Y' np) (h0 : jm_l0 Y Y') (hl : Cond.methodLink (jm_nm Y).cls idx (jm_nm Y') ∈ jm_tbl) (hi : Cond.instanceMethod (jm_nm Y') ∈ jm_tbl) (hse : Cond.selects (jm_nm Y').cls (jm_nm Y') (jm_nm Y') ∈ jm_tbl) (hd : decode (jm_cd Y) pc = .ok (.invokevirtual idx, 3)) (hst : st = avs.reverse ++ .ref i :: rest) (hsh : jm_sh i = .inr ci) (hq : vwCl[ci]? = some q) (hqc : q.1 = (jm_nm Y').cls) (h1 : 1 ≤ i) (h2 : i ≤ n) (hnp : avs.length = np) (hlen : (lg_sl (.ref i :: avs)).length ≤ jm_ml Y') (hrs : (rest.map fun v => v.category).sum ≤ 8) (hc1 : ce ≤ (jm_rm Y).cells) (hc2 : sl ≤ (jm_rm Y).slots) (k : ∀ x s1, jm_Sim Y ce sl (pc + 3) L (.int x :: rest) n mr s1 (f x s1) ρ) : jm_Sim Y ce sl pc L st n mr σ (jm_b2 m' f) ρ :=
  jm_runV (f := fun z => f z.1 z.2) hM ho h0.1 hl hi hse hd hst hsh hq hqc h1 h2 hnp hlen hrs (by rw [h0.2.1]; exact hc1) (by rw [h0.2.2]; exact hc2) (fun _ _ _ => rfl) (fun a => by rw [h0.2.1, h0.2.2]; exact k a.1 a.2)
theorem jm_Sv {Y' : jm_Y} {idx np : Nat} {avs rest : List Value} {m' : Option jm_M} {f : jm_M → Option α} (hM : jm_Sim Y' 0 0 0 (lv_args 0 avs) [] n mr σ m' (jm_rV n mr)) (ho : jm_ok Y' np) (h0 : jm_l0 Y Y') (hl : Cond.methodLink (jm_nm Y).cls idx (jm_nm Y') ∈ jm_tbl) (hs : Cond.static (jm_nm Y') ∈ jm_tbl) (hd : decode (jm_cd Y) pc = .ok (.invokestatic idx, 3)) (hst : st = avs.reverse ++ rest) (hnp : avs.length = np) (hlen : (lg_sl avs).length ≤ jm_ml Y') (hrs : (rest.map fun v => v.category).sum ≤ 8) (hc1 : ce ≤ (jm_rm Y).cells) (hc2 : sl ≤ (jm_rm Y).slots) (k : ∀ s1, jm_Sim Y ce sl (pc + 3) L rest n mr s1 (f s1) ρ) : jm_Sim Y ce sl pc L st n mr σ (jm_bd m' f) ρ :=
  jm_runS hM ho h0.1 hl hs hd hst hnp hlen hrs (by rw [h0.2.1]; exact hc1) (by rw [h0.2.2]; exact hc2) (fun _ _ _ => rfl) (fun a => by rw [h0.2.1, h0.2.2]; exact k a)
theorem jm_Nv {Y' : jm_Y} {idx np : Nat} {host : String} {avs rest : List Value} {m' : Option jm_M} {f : jm_M → Option α} (hM : jm_Sim Y' 0 0 0 (lv_args 0 avs) [] n mr σ m' (jm_rV n mr)) (ho : jm_ok Y' np) (h0 : jm_l0 Y Y') (hl : ((jm_nm Y).cls, idx, jm_nm Y', host) ∈ jm_nest) (hs : Cond.static (jm_nm Y') ∈ jm_tbl) (hd : decode (jm_cd Y) pc = .ok (.invokestatic idx, 3)) (hst : st = avs.reverse ++ rest) (hnp : avs.length = np) (hlen : (lg_sl avs).length ≤ jm_ml Y') (hrs : (rest.map fun v => v.category).sum ≤ 8) (hc1 : ce ≤ (jm_rm Y).cells) (hc2 : sl ≤ (jm_rm Y).slots) (k : ∀ s1, jm_Sim Y ce sl (pc + 3) L rest n mr s1 (f s1) ρ) : jm_Sim Y ce sl pc L st n mr σ (jm_bd m' f) ρ :=
  jm_runSN hM ho h0.1 hl hs hd hst hnp hlen hrs (by rw [h0.2.1]; exact hc1) (by rw [h0.2.2]; exact hc2) (fun _ _ _ => rfl) (fun a => by rw [h0.2.1, h0.2.2]; exact k a)
theorem jm_Vv {Y' : jm_Y} {idx np i ci : Nat} {q : vw_C} {avs rest : List Value} {m' : Option jm_M} {f : jm_M → Option α} (hM : jm_Sim Y' 0 0 0 (lv_args 0 (.ref i :: avs)) [] n mr σ m' (jm_rV n mr)) (ho : jm_ok Y' np) (h0 : jm_l0 Y Y') (hl : Cond.methodLink (jm_nm Y).cls idx (jm_nm Y') ∈ jm_tbl) (hi : Cond.instanceMethod (jm_nm Y') ∈ jm_tbl) (hse : Cond.selects (jm_nm Y').cls (jm_nm Y') (jm_nm Y') ∈ jm_tbl) (hd : decode (jm_cd Y) pc = .ok (.invokevirtual idx, 3)) (hst : st = avs.reverse ++ .ref i :: rest) (hsh : jm_sh i = .inr ci) (hq : vwCl[ci]? = some q) (hqc : q.1 = (jm_nm Y').cls) (h1 : 1 ≤ i) (h2 : i ≤ n) (hnp : avs.length = np) (hlen : (lg_sl (.ref i :: avs)).length ≤ jm_ml Y') (hrs : (rest.map fun v => v.category).sum ≤ 8) (hc1 : ce ≤ (jm_rm Y).cells) (hc2 : sl ≤ (jm_rm Y).slots) (k : ∀ s1, jm_Sim Y ce sl (pc + 3) L rest n mr s1 (f s1) ρ) : jm_Sim Y ce sl pc L st n mr σ (jm_bd m' f) ρ :=
  jm_runV hM ho h0.1 hl hi hse hd hst hsh hq hqc h1 h2 hnp hlen hrs (by rw [h0.2.1]; exact hc1) (by rw [h0.2.2]; exact hc2) (fun _ _ _ => rfl) (fun a => by rw [h0.2.1, h0.2.2]; exact k a)
end JK
