/-! WORLDS THAT GROW: the constructors. The world is a list of cells; what is made comes behind. -/
def rb_rmc (h C S : Nat) : Room := { frames := h, cells := C, slots := S, locals := 48 * h }
abbrev rb_WB (z : rb_Z) (H : Heap) (locs : List Loc) (cs sl : Nat) (Q : State → Prop) (g : JFrame) : Prop := W z.1 z.2.1 z.2.2.1 (rb_R z) (rb_s z) (rb_m z) (rb_a z) (rb_b z) (rb_me z) (rb_c z) H locs cs sl Q g
def rb_Bt (z : rb_Z) (D : va_G) (A : Nat → Prop) (cs sl nL : Nat) (Q : State → Prop) (pc : Nat) (lv : List (Nat × Value)) (st : List Value) (ws : va_W) : Prop :=
  ∀ (H : Heap) (locs : List Loc) (ls : Array Slot), va_P D vwCl ws H → va_D A ws → va_S A (rb_s z).heap H locs → lv_has ls nL lv → rb_WB z H locs cs sl Q (F0 (rb_m z) pc ls st)
def rb_Bx (z : rb_Z) (D : va_G) (cy : Nat → ClassId) (A : Nat → Prop) (own : String) (cc : ByteArray) (nL h C S : Nat) : Prop :=
  (rb_p z).tables.exec = Jvm.exec ∧ (rb_c z).code = cc ∧ (rb_me z).sig.returnType = none ∧ (rb_c z).maxLocals = nL ∧ (rb_s z).vm.findClass own = some (rb_m z).cls ∧ (∀ x ∈ rb_tbl, x.before (rb_a z) (rb_s z) = true) ∧ (rb_me z).locks = false ∧ rb_R z = rb_rmc h C S ∧ va_K D vwCl (rb_tys cy) (rb_s z) ∧ (∀ q, (rb_s z).heap.size ≤ q → A q) ∧ (rb_me z).name = "<init>"
/-- what holds of arrays of objects: their classes can be made -/
def rb_nwI : List Cond := [.methodLinkNest "RibbonPole" 9 ⟨"RibbonPole$Tape", "<init>", "()V"⟩ "RibbonPole",
  .methodLinkNest "RibbonPole$GreenReader" 11 ⟨"RibbonPole$Green", "<init>", "()V"⟩ "RibbonPole",
  .methodLinkNest "RibbonPole$LawReader" 11 ⟨"RibbonPole$Law", "<init>", "()V"⟩ "RibbonPole",
  .methodLinkNest "RibbonPole$FigureReader" 11 ⟨"RibbonPole$Figure", "<init>", "()V"⟩ "RibbonPole",
  .methodLinkNest "RibbonPole" 41 ⟨"RibbonPole$Green", "<init>", "()V"⟩ "RibbonPole",
  .methodLinkNest "RibbonPole" 48 ⟨"RibbonPole$Pole", "<init>", "()V"⟩ "RibbonPole",
  .methodLinkNest "RibbonPole$Acts" 17 ⟨"RibbonPole$Pole", "<init>", "()V"⟩ "RibbonPole",
  .methodLinkNest "RibbonPole" 95 ⟨"RibbonPole$Way", "<init>", "()V"⟩ "RibbonPole",
  .methodLinkNest "RibbonPole" 100 ⟨"RibbonPole$Law", "<init>", "()V"⟩ "RibbonPole",
  .methodLinkNest "RibbonPole" 101 ⟨"RibbonPole$Figure", "<init>", "()V"⟩ "RibbonPole"]
def rb_AOs (U : State) : Prop := va_AO "RibbonPole$Pole" U ∧ va_AO "RibbonPole$Law" U ∧ va_AO "RibbonPole$Figure" U ∧ ∀ x ∈ rb_nwI, va_Nw x U
theorem rb_AOs.warm {s U : State} (hW : s.WarmedH U.vm) (h : rb_AOs s) : rb_AOs U := by
  refine ⟨va_AO.moved hW.alike h.1, va_AO.moved hW.alike h.2.1, va_AO.moved hW.alike h.2.2.1, fun x hx => ?_⟩
  have h7 := h.2.2.2 x hx
  simp only [rb_nwI, List.mem_cons, List.not_mem_nil, or_false] at hx
  rcases hx with rfl | rfl | rfl | rfl | rfl | rfl | rfl | rfl | rfl | rfl <;> exact va_Nw.warmM hW h7
theorem rb_AOs.same {s U : State} (hv : s.vm = U.vm) (h : rb_AOs s) : rb_AOs U := by
  have ha : s.vm.Alike U.vm := by rw [← hv]; exact Vm.Alike.refl _
  refine ⟨va_AO.moved ha h.1, va_AO.moved ha h.2.1, va_AO.moved ha h.2.2.1, fun x hx => ?_⟩
  have h7 := h.2.2.2 x hx
  simp only [rb_nwI, List.mem_cons, List.not_mem_nil, or_false] at hx
  rcases hx with rfl | rfl | rfl | rfl | rfl | rfl | rfl | rfl | rfl | rfl <;> exact va_Nw.same rfl hv h7
/-- a constructor: from its own new cell (class ci, fs) it makes C cells of S slots: the world 'post' of their addresses -/
def rb_BCon (y : MethodName) (cc : ByteArray) (nL h C S : Nat) (h0 ci : Nat) (av : List Value) (fs : List Value) (post : (Nat → ClassId) → List Nat → va_W) : Prop :=
  ∀ (l : Launch) (D : va_G) (cy : Nat → ClassId) (sz : Nat), Met l y (.code y cc nL none :: rb_tbl) (rb_rmc h C S)
    (fun a U => a = av.toArray ∧ U.heap.size = sz ∧ va_P D vwCl [(h0, .inr (ci, fs))] U.heap ∧ va_K D vwCl (rb_tys cy) U ∧ va_D (fun _ => True) [(h0, .inr (ci, fs))] ∧ rb_AOs U)
    (fun _ st o t => (∃ ns : List Nat, ns.length = C ∧ va_P D vwCl (post cy ns) t.heap ∧ va_D (va_A [(h0, .inr (ci, fs))] st.heap.size) (post cy ns)) ∧ o = .returned none ∧ va_F (va_A [(h0, .inr (ci, fs))] st.heap.size) st t) C S (va_A [(h0, .inr (ci, fs))] sz)
section RBG
variable {z : rb_Z} {D : va_G} {cy : Nat → ClassId} {A : Nat → Prop} {own : String} {cc : ByteArray} {nL h C S cs sl : Nat} {Q : State → Prop} {pc : Nat} {lv lv2 : List (Nat × Value)} {st : List Value} {ws : va_W}
theorem rb_g_aload_n (hC : rb_Bx z D cy A own cc nL h C S) {k : Fin 4} {x : Nat} (j : Nat) (hd : decode cc pc = .ok (.aload_n k, 1)) (hj : lv[j]? = some ((k : Nat), .ref x)) (kk : rb_Bt z D A cs sl nL Q (pc + 1) lv (.ref x :: st) ws) : rb_Bt z D A cs sl nL Q pc lv st ws := fun H locs ls hP hD hS hl => lv_aload_n hC.1 hC.2.1 hd rfl (lv_at hl j hj) (kk H locs ls hP hD hS hl)
theorem rb_g_iload_n (hC : rb_Bx z D cy A own cc nL h C S) {k : Fin 4} {x : Int32} (j : Nat) (hd : decode cc pc = .ok (.iload_n k, 1)) (hj : lv[j]? = some ((k : Nat), .int x)) (kk : rb_Bt z D A cs sl nL Q (pc + 1) lv (.int x :: st) ws) : rb_Bt z D A cs sl nL Q pc lv st ws := fun H locs ls hP hD hS hl => lv_iload_n hC.1 hC.2.1 hd rfl (lv_at hl j hj) (kk H locs ls hP hD hS hl)
theorem rb_g_istore_n (hC : rb_Bx z D cy A own cc nL h C S) {k : Fin 4} {x : Int32} (lv2 : List (Nat × Value)) (hd : decode cc pc = .ok (.istore_n k, 1)) (hn : (k : Nat) < nL) (hl2 : ((k : Nat), Value.int x) :: lv.filter (fun q => !(q.1 == (k : Nat)) && !(q.1 + 1 == (k : Nat) && q.2.category == 2)) = lv2) (kk : rb_Bt z D A cs sl nL Q (pc + 1) lv2 st ws) : rb_Bt z D A cs sl nL Q pc lv (.int x :: st) ws := fun H locs ls hP hD hS hl => lv_istore_n hC.1 hC.2.1 hd rfl hl hn hl2 (fun ls2 hl3 => kk H locs ls2 hP hD hS hl3)
theorem rb_g_iinc (hC : rb_Bx z D cy A own cc nL h C S) {i : Nat} {n : Int} {x y : Int32} (j : Nat) (lv2 : List (Nat × Value)) (hd : decode cc pc = .ok (.iinc i n, 3)) (hj : lv[j]? = some (i, .int x)) (hv : x + Int32.ofInt n = y) (hn : i < nL) (hl2 : (i, Value.int y) :: lv.filter (fun q => !(q.1 == i) && !(q.1 + 1 == i && q.2.category == 2)) = lv2) (kk : rb_Bt z D A cs sl nL Q (pc + 3) lv2 st ws) : rb_Bt z D A cs sl nL Q pc lv st ws := fun H locs ls hP hD hS hl => lv_iinc hC.1 hC.2.1 hd hl hj hv hn hl2 (fun ls2 hl3 => kk H locs ls2 hP hD hS hl3)
theorem rb_g_iconst (hC : rb_Bx z D cy A own cc nL h C S) {n : Int} {x : Int32} (hd : decode cc pc = .ok (.iconst n, 1)) (hv : Int32.ofInt n = x) (k : rb_Bt z D A cs sl nL Q (pc + 1) lv (.int x :: st) ws) : rb_Bt z D A cs sl nL Q pc lv st ws := fun H locs ls hP hD hS hl => lv_iconst hC.1 hC.2.1 hd hv (k H locs ls hP hD hS hl)
theorem rb_g_bipush (hC : rb_Bx z D cy A own cc nL h C S) {n : Int} {x : Int32} (hd : decode cc pc = .ok (.bipush n, 2)) (hv : (Int8.ofInt n).toInt32 = x) (k : rb_Bt z D A cs sl nL Q (pc + 2) lv (.int x :: st) ws) : rb_Bt z D A cs sl nL Q pc lv st ws := fun H locs ls hP hD hS hl => lv_bipush hC.1 hC.2.1 hd hv (k H locs ls hP hD hS hl)
theorem rb_g_sipush (hC : rb_Bx z D cy A own cc nL h C S) {n : Int} {x : Int32} (hd : decode cc pc = .ok (.sipush n, 3)) (hv : (Int16.ofInt n).toInt32 = x) (k : rb_Bt z D A cs sl nL Q (pc + 3) lv (.int x :: st) ws) : rb_Bt z D A cs sl nL Q pc lv st ws := fun H locs ls hP hD hS hl => lv_sipush hC.1 hC.2.1 hd hv (k H locs ls hP hD hS hl)
theorem rb_g_dup (hC : rb_Bx z D cy A own cc nL h C S) {a : Value} (hd : decode cc pc = .ok (.dup, 1)) (h1 : a.category = 1) (k : rb_Bt z D A cs sl nL Q (pc + 1) lv (a :: a :: st) ws) : rb_Bt z D A cs sl nL Q pc lv (a :: st) ws := fun H locs ls hP hD hS hl => lv_dup hC.1 hC.2.1 hd h1 (k H locs ls hP hD hS hl)
theorem rb_g_goto (hC : rb_Bx z D cy A own cc nL h C S) {off : Int} (tgt : Nat) (hd : decode cc pc = .ok (.goto off, 3)) (ht : (pc : Int) + off = (tgt : Int)) (k : rb_Bt z D A cs sl nL Q tgt lv st ws) : rb_Bt z D A cs sl nL Q pc lv st ws := fun H locs ls hP hD hS hl => lv_goto hC.1 hC.2.1 hd ht (k H locs ls hP hD hS hl)
theorem rb_g_icmp_ge (hC : rb_Bx z D cy A own cc nL h C S) {x y : Int32} {off : Int} (tgt : Nat) (hd : decode cc pc = .ok (.if_icmp .ge off, 3)) (ht : (pc : Int) + off = (tgt : Int)) (kt : y ≤ x → rb_Bt z D A cs sl nL Q tgt lv st ws) (kf : ¬ y ≤ x → rb_Bt z D A cs sl nL Q (pc + 3) lv st ws) : rb_Bt z D A cs sl nL Q pc lv (.int y :: .int x :: st) ws := fun H locs ls hP hD hS hl => lv_icmp_ge hC.1 hC.2.1 hd ht (fun q => kt q H locs ls hP hD hS hl) (fun q => kf q H locs ls hP hD hS hl)
theorem rb_g_icmp_gt (hC : rb_Bx z D cy A own cc nL h C S) {x y : Int32} {off : Int} (tgt : Nat) (hd : decode cc pc = .ok (.if_icmp .gt off, 3)) (ht : (pc : Int) + off = (tgt : Int)) (kt : y < x → rb_Bt z D A cs sl nL Q tgt lv st ws) (kf : ¬ y < x → rb_Bt z D A cs sl nL Q (pc + 3) lv st ws) : rb_Bt z D A cs sl nL Q pc lv (.int y :: .int x :: st) ws := fun H locs ls hP hD hS hl => lv_icmp_gt hC.1 hC.2.1 hd ht (fun q => kt q H locs ls hP hD hS hl) (fun q => kf q H locs ls hP hD hS hl)
theorem rb_g_sub (ks : List Nat) (hl2 : lv_pick lv ks = lv2) (k : rb_Bt z D A cs sl nL Q pc lv2 st ws) : rb_Bt z D A cs sl nL Q pc lv st ws := fun H locs ls hP hD hS hl => k H locs ls hP hD hS (lv_sub hl ks hl2)
theorem rb_g_ws {ws2 : va_W} (e : ws2 = ws) (k : rb_Bt z D A cs sl nL Q pc lv st ws2) : rb_Bt z D A cs sl nL Q pc lv st ws := e ▸ k
theorem rb_g_w {cs2 sl2 : Nat} (h1 : cs ≤ cs2) (h2 : sl ≤ sl2) (k : rb_Bt z D A cs2 sl2 nL Q pc lv st ws) : rb_Bt z D A cs sl nL Q pc lv st ws := fun H locs ls hP hD hS hl => W.widen h1 h2 (k H locs ls hP hD hS hl)
theorem rb_kob1 : Cond.instanceMethod objectInit ∈ rb_tbl := rb_in (by decide +kernel) (by decide +kernel)
theorem rb_kob2 : Cond.code objectInit ⟨#[0xb1]⟩ 1 none ∈ rb_tbl := rb_in (by decide +kernel) (by decide +kernel)
theorem rb_g_obj (hC : rb_Bx z D cy A own cc nL h C S) {idx a : Nat} (hk : Cond.methodLink own idx objectInit ∈ rb_tbl) (hR : 1 ≤ h ∧ (st.map fun v => v.category).sum + 12 ≤ 48 * h) (hd : decode cc pc = .ok (.invokespecial idx, 3)) (k : rb_Bt z D A cs sl nL Q (pc + 3) lv st ws) : rb_Bt z D A cs sl nL Q pc lv (.ref a :: st) ws := by
  intro H locs ls hP hD hS hl
  have hts := hC.2.2.2.2.2.1
  have hR' := hC.2.2.2.2.2.2.2.1
  refine W.objInit hC.1 hC.2.1 hC.2.2.2.2.1 (hts _ hk) (hts _ rb_kob1) (hts _ rb_kob2) rfl (hl.1.trans hC.2.2.2.1.symm) rfl hd (by rw [hR']; exact hR.1) (by rw [hR']; show 2 * 0 + _ + 12 ≤ 48 * h; omega) ?_
  exact k H locs ls hP hD hS hl
theorem rb_kai0 : Cond.arrayClass .int ∈ rb_tbl := rb_in (by decide +kernel) (by decide +kernel)
theorem rb_kai1 : Cond.arrayClass .boolean ∈ rb_tbl := rb_in (by decide +kernel) (by decide +kernel)
/-- an array class has one number -/
theorem rb_cyI {U : State} {cA : ClassId} {tys : List (ClassId × FieldType)} {t : Nat} {c0 : ClassId} {ty : FieldType} (hp : (∃ C, ty = .object C) ∨ ty = .int ∨ ty = .boolean) (hK : va_K D vwCl (tys ++ [(cA, ty)]) U) (ht : tys[t]? = some (c0, ty)) : cA = c0 := by
  have h1 : va_RA U cA ty := (hK.2 tys.length (cA, ty) (by simp)).2
  have h2 : va_RA U c0 ty := (hK.2 t (c0, ty) (by rw [List.getElem?_append_left (List.getElem?_eq_some_iff.mp ht).1]; exact ht)).2
  rcases hp with ⟨C, rfl⟩ | rfl | rfl
  · obtain ⟨_, _, _, _, _, a1⟩ := h1
    obtain ⟨_, _, _, _, _, a2⟩ := h2
    exact Option.some.inj (a1.symm.trans a2)
  · exact Option.some.inj (h1.symm.trans h2)
  · exact Option.some.inj (h1.symm.trans h2)
theorem rb_g_newI (hC : rb_Bx z D cy A own cc nL h C S) {n : Int32} (N : Nat) (hn : ¬ n < 0) (hN : n.toNatClampNeg = N) (hby : N * 4 ≤ 536870912) (h1 : cs + 1 ≤ C) (h2 : sl + N ≤ S) (hd : decode cc pc = .ok (.newarray .int, 2)) (kk : ∀ q : Nat, rb_Bt z D A (cs + 1) (sl + N) nL Q (pc + 2) lv (.ref q :: st) (ws ++ [(q, .inl (cy 0, N, .inl (fun _ => 0)))])) : rb_Bt z D A cs sl nL Q pc lv (.int n :: st) ws := by
  intro H locs ls hP hD hS hl
  have hR' := hC.2.2.2.2.2.2.2.1
  refine va_newa (atype := .int) (ty := .int) (N' := N) (a0 := (N, .inl (fun _ => 0))) hC.1 hC.2.1 (hC.2.2.2.2.2.1 _ rb_kai0) rfl hC.2.2.2.2.2.2.2.2.1 hP hD hS hC.2.2.2.2.2.2.2.2.2.1 (fun cA => rfl) hn hN hby (by rw [hR']; exact h1) (by rw [hR']; exact h2) hd (fun q cA H1 hK1 hP1 hD1 hS1 => ?_)
  have e := rb_cyI (Or.inr (Or.inl rfl)) hK1 (t := 0) rfl
  subst e
  exact kk q H1 locs ls hP1 hD1 hS1 hl
theorem rb_g_newZ (hC : rb_Bx z D cy A own cc nL h C S) {n : Int32} (N : Nat) (hn : ¬ n < 0) (hN : n.toNatClampNeg = N) (hby : N * 1 ≤ 536870912) (h1 : cs + 1 ≤ C) (h2 : sl + N ≤ S) (hd : decode cc pc = .ok (.newarray .boolean, 2)) (kk : ∀ q : Nat, rb_Bt z D A (cs + 1) (sl + N) nL Q (pc + 2) lv (.ref q :: st) (ws ++ [(q, .inl (cy 1, N, .inl (fun _ => 0)))])) : rb_Bt z D A cs sl nL Q pc lv (.int n :: st) ws := by
  intro H locs ls hP hD hS hl
  have hR' := hC.2.2.2.2.2.2.2.1
  refine va_newa (atype := .boolean) (ty := .boolean) (N' := N) (a0 := (N, .inl (fun _ => 0))) hC.1 hC.2.1 (hC.2.2.2.2.2.1 _ rb_kai1) rfl hC.2.2.2.2.2.2.2.2.1 hP hD hS hC.2.2.2.2.2.2.2.2.2.1 (fun cA => rfl) hn hN hby (by rw [hR']; exact h1) (by rw [hR']; exact h2) hd (fun q cA H1 hK1 hP1 hD1 hS1 => ?_)
  have e := rb_cyI (Or.inr (Or.inr rfl)) hK1 (t := 1) rfl
  subst e
  exact kk q H1 locs ls hP1 hD1 hS1 hl
theorem rb_g_newR (hC : rb_Bx z D cy A own cc nL h C S) {n : Int32} (N t idx : Nat) {C0 : String} (hk : Cond.classLink own idx C0 ∈ rb_tbl) (ho : va_AO C0 (rb_s z)) (ht : (rb_tys cy)[t]? = some (cy t, .object C0)) (hn : ¬ n < 0) (hN : n.toNatClampNeg = N) (hby : N * 4 ≤ 536870912) (h1 : cs + 1 ≤ C) (h2 : sl + N ≤ S) (hd : decode cc pc = .ok (.anewarray idx, 3)) (kk : ∀ q : Nat, rb_Bt z D A (cs + 1) (sl + N) nL Q (pc + 3) lv (.ref q :: st) (ws ++ [(q, .inl (cy t, N, .inr (.inr (.inr (.inr (fun _ => none))))))])) : rb_Bt z D A cs sl nL Q pc lv (.int n :: st) ws := by
  intro H locs ls hP hD hS hl
  have hR' := hC.2.2.2.2.2.2.2.1
  refine va_newq (N' := N) hC.1 hC.2.1 hC.2.2.2.2.1 (hC.2.2.2.2.2.1 _ hk) ho hC.2.2.2.2.2.2.2.2.1 hP hD hS hC.2.2.2.2.2.2.2.2.2.1 hn hN hby (by rw [hR']; exact h1) (by rw [hR']; exact h2) hd (fun q cA H1 hK1 hP1 hD1 hS1 => ?_)
  have e := rb_cyI (Or.inl ⟨_, rfl⟩) hK1 ht
  subst e
  exact kk q H1 locs ls hP1 hD1 hS1 hl
/-- a class that is made: its number, its fields at first -/
def rb_NW (own : String) (idx ci : Nat) (fs : List Value) : Prop := ∃ (C0 : String) (T : u_T) (N : Nat) (ty : Nat → FieldType), vwCl[ci]? = some (C0, T, N) ∧ (∀ x ∈ u_ws C0 T N, x ∈ rb_tbl) ∧ (∀ k, k < N → parseFieldDescriptor (T k).2.2.1 = some (ty k)) ∧ Cond.classLink own idx C0 ∈ rb_tbl ∧ Cond.instantiable C0 N ∈ rb_tbl ∧ Cond.initialized C0 ∈ rb_tbl ∧ (∀ j, j < N → defaultValue (ty j) = vp_V fs j) ∧ fs.length = N
theorem rb_g_new (hC : rb_Bx z D cy A own cc nL h C S) {idx ci : Nat} {fs : List Value} (nw : rb_NW own idx ci fs) (h1 : cs + 1 ≤ C) (h2 : sl + fs.length ≤ S) (hd : decode cc pc = .ok (.new idx, 3)) (kk : ∀ q : Nat, rb_Bt z D A (cs + 1) (sl + fs.length) nL Q (pc + 3) lv (.ref q :: st) (ws ++ [(q, .inr (ci, fs))])) : rb_Bt z D A cs sl nL Q pc lv st ws := by
  intro H locs ls hP hD hS hl
  obtain ⟨C0, T, N, ty, n1, n2, n3, n4, n5, n6, n7, n8⟩ := nw
  subst n8
  have hR' := hC.2.2.2.2.2.2.2.1
  have hts := hC.2.2.2.2.2.1
  exact va_new hC.1 hC.2.1 hts n2 ty n3 hC.2.2.2.2.1 (hts _ n4) (hts _ n5) (hts _ n6) hC.2.2.2.2.2.2.2.2.1 hP hD hS hC.2.2.2.2.2.2.2.2.2.1 n1 n7 (by rw [hR']; exact h1) (by rw [hR']; exact h2) hd (fun q H1 hP1 hD1 hS1 => kk q H1 locs ls hP1 hD1 hS1 hl)
end RBG
