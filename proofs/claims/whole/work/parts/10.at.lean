/-- the tables' words that hold from call to call -/
def rb_tbl : List Cond := lw_tbl.filter goodWord
theorem rb_in {x : Cond} (h : x ∈ lw_tbl) (g : goodWord x = true) : x ∈ rb_tbl := List.mem_filter.mpr ⟨h, g⟩
theorem rb_good {x : Cond} (h : x ∈ rb_tbl) : (x.onTables && x.keeps) = true ∨ ∃ ty, x = .arrayClass ty := good_of_word (List.mem_filter.mp h).2
theorem rb_lw {x : Cond} (h : x ∈ rb_tbl) : x ∈ lw_tbl := (List.mem_filter.mp h).1
theorem rb_us {ws : List Cond} (h : ∀ x ∈ ws, x ∈ lw_tbl) (g : ws.all goodWord = true) : ∀ x ∈ ws, x ∈ rb_tbl := fun x hx => rb_in (h x hx) (List.all_eq_true.mp g x hx)
/-! THE WORLD OF A SYSTEM WHOSE OBJECTS ARE ALL MADE AT THE START: cell k of the world lies at the address ad k; its shape is fixed; a state is what the cells hold of whole numbers. -/
abbrev rb_St : Type := (Nat → Nat → Int32) × Int64
/-- a field: none: an int; some none: the one long; some (some j): the cell j -/
abbrev rb_Fk : Type := Option (Option Nat)
/-- a cell: an object (its class's number, its fields), a row of ints (its array class's number, its length), a row of cells -/
abbrev rb_Sh : Type := (Nat × List rb_Fk) ⊕ (Nat × Nat) ⊕ (Nat × Nat × (Nat → Nat))
/-- classes and slots; array classes; addresses; what may change; addresses of constants -/
abbrev rb_Wd : Type := va_G × (Nat → ClassId) × (Nat → Nat) × (Nat → Prop) × (Nat → Nat)
abbrev rb_Sv : Type := (Nat → rb_Sh) × Nat × (rb_Wd → State → Heap → Prop)
abbrev rb_ad (w : rb_Wd) : Nat → Nat := w.2.2.1
abbrev rb_A (w : rb_Wd) : Nat → Prop := w.2.2.2.1
abbrev rb_sx (w : rb_Wd) : Nat → Nat := w.2.2.2.2
def rb_f1 (ad : Nat → Nat) (row : Nat → Int32) (lg : Int64) (i : Nat) : rb_Fk → Value
  | none => .int (row i)
  | some none => .long lg
  | some (some j) => .ref (ad j)
def rb_cel (cy : Nat → ClassId) (ad : Nat → Nat) (sh : rb_Sh) (row : Nat → Int32) (lg : Int64) : va_E := match sh with
  | .inl (ci, fk) => .inr (ci, fk.mapIdx (fun i f => rb_f1 ad row lg i f))
  | .inr (.inl (t, n)) => .inl (cy t, n, .inl row)
  | .inr (.inr (t, n, r)) => .inl (cy t, n, .inr (.inr (.inr (.inr (fun i => some (ad (r i)))))))
def rb_ws (v : rb_Sv) (w : rb_Wd) (σ : rb_St) : va_W := (List.range v.2.1).map (fun k => (rb_ad w k, rb_cel w.2.1 (rb_ad w) (v.1 k) (σ.1 k) σ.2))
def rb_tys (cy : Nat → ClassId) : List (ClassId × FieldType) := [(cy 0, .int), (cy 1, .boolean), (cy 2, .object "RibbonPole$Pole"), (cy 3, .object "RibbonPole$Law"), (cy 4, .object "RibbonPole$Figure")]
def rb_row (σ : rb_St) (k : Nat) (r : Nat → Int32) : rb_St := (fun a => if a = k then r else σ.1 a, σ.2)
def rb_sI (σ : rb_St) (k i : Nat) (x : Int32) : rb_St := rb_row σ k (upd (σ.1 k) i x)
def rb_sL (σ : rb_St) (x : Int64) : rb_St := (σ.1, x)
def rb_cp (σ : rb_St) (a b sp dp n : Nat) : rb_St := rb_row σ b (va_cpy (σ.1 a) (σ.1 b) sp dp n)
def rb_inj (v : rb_Sv) (w : rb_Wd) : Prop := (∀ i j : Nat, i < v.2.1 → j < v.2.1 → rb_ad w i = rb_ad w j → i = j) ∧ ∀ k : Nat, k < v.2.1 → rb_A w (rb_ad w k)
theorem rb_ws_at {v : rb_Sv} {w : rb_Wd} {σ : rb_St} {k : Nat} (hk : k < v.2.1) : (rb_ws v w σ)[k]? = some (rb_ad w k, rb_cel w.2.1 (rb_ad w) (v.1 k) (σ.1 k) σ.2) := by
  simp [rb_ws, hk]
theorem rb_ws_get {v : rb_Sv} {w : rb_Wd} {σ : rb_St} {k : Nat} {q : Nat × va_E} (h : (rb_ws v w σ)[k]? = some q) : k < v.2.1 ∧ q = (rb_ad w k, rb_cel w.2.1 (rb_ad w) (v.1 k) (σ.1 k) σ.2) := by
  by_cases hk : k < v.2.1
  · rw [rb_ws_at hk] at h
    exact ⟨hk, (Option.some.inj h).symm⟩
  · rw [List.getElem?_eq_none (by simp [rb_ws]; omega)] at h
    cases h
theorem rb_ws_row {v : rb_Sv} {w : rb_Wd} {σ : rb_St} {k : Nat} (r : Nat → Int32) (hk : k < v.2.1) : (rb_ws v w σ).set k (rb_ad w k, rb_cel w.2.1 (rb_ad w) (v.1 k) r σ.2) = rb_ws v w (rb_row σ k r) := by
  apply List.ext_getElem?
  intro j
  rw [List.getElem?_set]
  by_cases hj : k = j
  · subst hj
    rw [if_pos rfl, if_pos (by simp [rb_ws]; exact hk), rb_ws_at hk]
    simp [rb_row]
  · rw [if_neg hj]
    by_cases hl : j < v.2.1
    · rw [rb_ws_at hl, rb_ws_at hl]
      simp [rb_row, Ne.symm hj]
    · rw [List.getElem?_eq_none (by simp [rb_ws]; omega), List.getElem?_eq_none (by simp [rb_ws]; omega)]
theorem rb_D {v : rb_Sv} {w : rb_Wd} {σ : rb_St} (h : rb_inj v w) : va_D (rb_A w) (rb_ws v w σ) := by
  refine ⟨fun i j p q hi hj hpq => ?_, fun k q hk => ?_⟩
  · obtain ⟨h1, rfl⟩ := rb_ws_get hi
    obtain ⟨h2, rfl⟩ := rb_ws_get hj
    exact h.1 i j h1 h2 hpq
  · obtain ⟨h1, rfl⟩ := rb_ws_get hk
    exact h.2 k h1
abbrev rb_Z : Type := Program × Launch × Env × Room × State × MethodId × Array Value × List Frame × Method × Code
abbrev rb_p (z : rb_Z) : Program := z.1
abbrev rb_R (z : rb_Z) : Room := z.2.2.2.1
abbrev rb_s (z : rb_Z) : State := z.2.2.2.2.1
abbrev rb_m (z : rb_Z) : MethodId := z.2.2.2.2.2.1
abbrev rb_a (z : rb_Z) : Array Value := z.2.2.2.2.2.2.1
abbrev rb_b (z : rb_Z) : List Frame := z.2.2.2.2.2.2.2.1
abbrev rb_me (z : rb_Z) : Method := z.2.2.2.2.2.2.2.2.1
abbrev rb_c (z : rb_Z) : Code := z.2.2.2.2.2.2.2.2.2
abbrev rb_W (z : rb_Z) (H : Heap) (locs : List Loc) (Q : State → Prop) (g : JFrame) : Prop := W z.1 z.2.1 z.2.2.1 (rb_R z) (rb_s z) (rb_m z) (rb_a z) (rb_b z) (rb_me z) (rb_c z) H locs 0 0 Q g
/-- from every heap that holds the state: the machine at pc comes to Q -/
def rb_At (z : rb_Z) (v : rb_Sv) (w : rb_Wd) (nL : Nat) (Q : State → Prop) (pc : Nat) (lv : List (Nat × Value)) (st : List Value) (σ : rb_St) : Prop :=
  ∀ (H : Heap) (locs : List Loc) (ls : Array Slot), va_P w.1 vwCl (rb_ws v w σ) H → va_S (rb_A w) (rb_s z).heap H locs → lv_has ls nL lv → rb_W z H locs Q (F0 (rb_m z) pc ls st)
def rb_rm (h : Nat) : Room := { frames := h, cells := 0, slots := 0, locals := 48 * h }
/-- what holds all through a method -/
def rb_Cx (z : rb_Z) (v : rb_Sv) (w : rb_Wd) (own : String) (cc : ByteArray) (nL : Nat) (ret : Option FieldType) (h : Nat) : Prop :=
  (rb_p z).tables.exec = Jvm.exec ∧ (rb_c z).code = cc ∧ (rb_me z).sig.returnType = ret ∧ (rb_c z).maxLocals = nL ∧ (rb_s z).vm.findClass own = some (rb_m z).cls ∧ (∀ x ∈ rb_tbl, x.before (rb_a z) (rb_s z) = true) ∧ (rb_me z).locks = false ∧ rb_R z = rb_rm h ∧ va_K w.1 vwCl (rb_tys w.2.1) (rb_s z) ∧ rb_inj v w ∧ v.2.2 w (rb_s z) (rb_s z).heap
/-- constants of a world stay, from heap to heap and call to call -/
def rb_Vok (v : rb_Sv) : Prop := (∀ (w : rb_Wd) (u U : State) (H H1 : Heap), u.WarmedH U.vm → (∀ a : Nat, a < H.size → ¬ rb_A w a → H1[a]? = H[a]?) → v.2.2 w u H → v.2.2 w U H1) ∧ ∀ (w : rb_Wd) (u U : State) (H : Heap), U.vm = u.vm → v.2.2 w u H → v.2.2 w U H
def rb_Qc (v : rb_Sv) (w : rb_Wd) (r : Option Value) (σ : rb_St) : Array Value → State → Outcome → State → Prop := fun _ st o t => o = .returned r ∧ va_P w.1 vwCl (rb_ws v w σ) t.heap ∧ va_F (rb_A w) st t
def rb_Q (z : rb_Z) (v : rb_Sv) (w : rb_Wd) (r : Option Value) (σ : rb_St) : State → Prop := MQ (rb_b z) (rb_Qc v w r σ) (rb_a z) (rb_s z) 0 0 (rb_A w)
def rb_Pc (v : rb_Sv) (w : rb_Wd) (av : List Value) (σ : rb_St) : Array Value → State → Prop := fun a U => a = av.toArray ∧ va_P w.1 vwCl (rb_ws v w σ) U.heap ∧ va_K w.1 vwCl (rb_tys w.2.1) U ∧ rb_inj v w ∧ v.2.2 w U U.heap
/-- a method's contract: from the state σ it answers r and leaves σ' -/
def rb_Con (v : rb_Sv) (y : MethodName) (cc : ByteArray) (nL : Nat) (ret : Option FieldType) (h : Nat) (av : rb_Wd → List Value) (σ : rb_St) (r : rb_Wd → Option Value) (σ' : rb_St) : Prop :=
  ∀ (l : Launch) (w : rb_Wd), Met l y (.code y cc nL ret :: rb_tbl) (rb_rm h) (rb_Pc v w (av w) σ) (rb_Qc v w (r w) σ') 0 0 (rb_A w)
theorem rb_Con.of {v : rb_Sv} {y : MethodName} {cc : ByteArray} {nL : Nat} {ret : Option FieldType} {h : Nat} {av : rb_Wd → List Value} {σ σ' : rb_St} {r : rb_Wd → Option Value} (hy : plainFor y = true) (hn : ∀ w, (lg_sl (av w)).length ≤ nL)
    (body : ∀ (z : rb_Z) (w : rb_Wd), rb_Cx z v w y.cls cc nL ret h → rb_At z v w nL (rb_Q z v w (r w) σ') 0 (lv_args 0 (av w)) [] σ) : rb_Con v y cc nL ret h av σ r σ' := by
  intro l w
  refine va_MetF (cc := cc) (maxL := nL) (ret := ret) hy rfl ?_
  intro p e s m args below meth c s₁ B hml hv
  obtain ⟨rfl, hP, hK, hI, hV⟩ := hv
  have hts := atoms_spec (ws := .code y cc nL ret :: rb_tbl) B.pre
  have hown : s.vm.findClass y.cls = some m.cls := findClass_of_methodNamed B.named
  have hl := lv_entry (av w) (n := nL) (hn w)
  rw [lg_entry_eq]
  exact body (p, l, e, rb_rm h, s, m, (av w).toArray, below, meth, c) w ⟨B.exec, B.bytes, B.returns, hml, hown, fun x hx => hts x (List.mem_cons_of_mem _ hx), B.notSynchronized, rfl, hK, hI, hV⟩ s.heap [] _ hP va_S.rf hl
