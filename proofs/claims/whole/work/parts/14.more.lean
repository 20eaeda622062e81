/-! a static method that the class named in the pool only inherits -/
section RBUP
variable {Q : Unit → Pre} {E : CtlPost} {e : Env} {d : Bool} {acts : List Action} {s s₀ : State} {f : JFrame}
theorem rb_wpUp {index ci n c : Nat} {m : MethodId} {dk ck : Class} {cf : ClassFile} {name desc : String} (hs : s.topJava?.isSome) (hp : e.platform.polymorphicOnlyByInvokevirtual = true)
    (hW : s₀.WarmedH s.vm) (hE : s₀.MethodEntryUp e s.vm f.method.cls index c m ci) (h1 : s₀.vm.classes[f.method.cls]? = some dk) (h2 : dk.cf = some cf)
    (h3 : cf.constantPool[index]? = some (.methodref ci n)) (h4 : cf.constantPool.nameAndType? n = some (name, desc))
    (hck : s₀.vm.classes[c]? = some ck) (hnone : (ck.methods.any fun x => x.name == name && !x.isStatic && signaturePolymorphic ck x) = false) :
    wp (Op.invokestatic.sem index) Q E e d acts (s.setTop f) ↔ wp (Op.invokestatic.sem index) Q E e d acts ((s.setVm (s.vm.calledUp f.method.cls ci index c m)).setTop f) := by
  obtain ⟨q1, q2, q3, q4⟩ := hE.classFirst
  obtain ⟨ka, hka, ea⟩ := hW.alike.2.2 _ _ h1
  obtain ⟨kb, hkb, eb⟩ := hE.warmed.alike.2.2 _ _ h1
  obtain ⟨ca, hca, fa⟩ := q3.alike.2.2 _ _ hck
  obtain ⟨cb, hcb, fb⟩ := hE.warmed.alike.2.2 _ _ hck
  have h3' : cf.constantPool[index]? = some (if false then .interfaceMethodref ci n else .methodref ci n) := h3
  have ba := memberRef_ask_via (e := e) hka (by rw [ea]; exact h2) h3' h4
  have bb := memberRef_ask_via (e := e) hkb (by rw [eb]; exact h2) h3' h4
  have na : (ca.methods.any fun x => x.name == name && !x.isStatic && signaturePolymorphic ca x) = false := by rw [fa]; exact hnone
  have nb : (cb.methods.any fun x => x.name == name && !x.isStatic && signaturePolymorphic cb x) = false := by rw [fb]; exact hnone
  have ta : (s.setVm (s.vm.noted f.method.cls ci (.cls c))).topJava?.isSome := hs
  have tb : (s.setVm (s.vm.calledUp f.method.cls ci index c m)).topJava?.isSome := hs
  have hL : ∀ {Q' : ClassId → Pre} {d' : Bool} {acts' : List Action}, wp (Jvm.resolveClassAt ci) Q' E e d' acts' (s.setTop f) ↔ Q' c d' acts' ((s.setVm (s.vm.noted f.method.cls ci (.cls c))).setTop f) :=
    Jvm.W.resolveClassAt_links (t := s.setTop f) (State.method?_setTop f hs) q1
  have hM : ∀ {Q' : MethodId → Pre} {d' : Bool} {acts' : List Action}, wp (Jvm.resolveMethodAt index) Q' E e d' acts' ((s.setVm (s.vm.noted f.method.cls ci (.cls c))).setTop f) ↔ Q' m d' acts' ((s.setVm (s.vm.calledUp f.method.cls ci index c m)).setTop f) :=
    Jvm.W.resolveMethodAt_links (t := (s.setVm (s.vm.noted f.method.cls ci (.cls c))).setTop f) (State.method?_setTop f ta) q4
  simp [Op.invokestatic.sem, hp, Seam.memberRefOf, State.method?_setTop f hs, State.method?_setTop f tb, ba, bb, hL, Jvm.W.resolveClassAt_ready (s := (s.setVm (s.vm.calledUp f.method.cls ci index c m)).setTop f) (State.method?_setTop f tb) hE.classReady,
    hca, hcb, na, nb, hM, Jvm.W.resolveMethodAt_ready (s := (s.setVm (s.vm.calledUp f.method.cls ci index c m)).setTop f) (State.method?_setTop f tb) hE.ready, -Array.any_eq_true]
end RBUP
section RBUS
variable {p : Program} {l : Launch} {e : Env} {R : Room} {s : State} {m : MethodId} {args : Array Value} {below : List Frame} {meth : Method} {c : Code} {T : State} {locs : List Loc} {cells slots : Nat}
theorem rb_staticUp (X : Stand p l e R s m args below meth c T locs cells slots) (hexec : p.tables.exec = Jvm.exec)
    {own owner : String} {index : Nat} {x : MethodName} (hown : s.vm.findClass own = some m.cls) (hlink : (Cond.methodLink own index x).before args s = true)
    (hsame : (Cond.sameMethod x.cls owner x.name x.desc).before args s = true) (howner : owner ≠ "java/lang/invoke/MethodHandle" ∧ owner ≠ "java/lang/invoke/VarHandle")
    {m' : MethodId} {meth' : Method} {k' : Class} (hn : s.methodNamed? ⟨owner, x.name, x.desc⟩ = some m') (hm' : s.vm.method? m' = some meth') (hstatic : meth'.isStatic = true)
    (hk' : s.vm.classes[m'.cls]? = some k') (hinit : k'.init = .initialized)
    {g : JFrame} (hg : g.method = m) {argsL rest : List Value} (hlen : argsL.length = meth'.sig.parameters.length) (hstack : g.stack = argsL.reverse ++ rest)
    (hdg : decode c.code g.pc = .ok (.invokestatic index, 3)) :
    ∃ vm', Stand p l e R s m args below meth c (T.setVm vm') locs cells slots ∧
      ∀ target, (∀ acts, Steps p.tables e below (doInvoke e ((T.setVm vm').setTop { g with stack := rest }) acts m' argsL.toArray).1 target) → Steps p.tables e below (T.setTop g) target := by
  have hpl : e.platform.magicAccessors = ({} : Platform).magicAccessors := by rw [X.admits.platform]
  have hpv : e.platform.polymorphicOnlyByInvokevirtual = true := by rw [X.admits.platform]
  obtain ⟨cn, ck, r1, hcn, hck, hni, hf, hn1⟩ := Cond.sameMethod_found hsame
  cases hn.symm.trans hn1
  obtain ⟨ci, hl, hright⟩ := Cond.methodLink_specUp hown hcn hck hni hf hlink e.platform hpl (by rw [X.admits.platform])
  have hE : s.MethodEntryUp e T.vm m.cls index cn m' ci := State.methodEntryUp X.warmed hl hright
  obtain ⟨kx, hkx, hnx⟩ := className_of_methodNamed hn
  cases hk'.symm.trans hkx
  obtain ⟨dk, cfile, nt, mname, mdesc, ck', _, _, hd, hcf, hcp, hnt, -, -, hck', -, hnopoly, -⟩ := hl.here
  cases hck.symm.trans hck'
  have alike := hE.warmed.alike
  obtain ⟨d2, hd2, ed2⟩ := alike.2.2 _ _ hd
  obtain ⟨k2, hk2, ek2⟩ := alike.2.2 _ _ hk'
  obtain ⟨c2, hc2, ec2⟩ := alike.2.2 _ _ hck
  have hnone : (ck.methods.any fun y => y.name == mname && !y.isStatic && signaturePolymorphic ck y) = false := by simp [hnopoly]
  have hnone2 : (c2.methods.any fun y => y.name == mname && !y.isStatic && signaturePolymorphic c2 y) = false := by rw [ec2]; exact hnone
  have hcp' : cfile.constantPool[index]? = some (if false then .interfaceMethodref ci nt else .methodref ci nt) := hcp
  refine ⟨T.vm.calledUp m.cls ci index cn m', X.noted hE.warmed, fun target hrest => ?_⟩
  subst hg
  jvm_step X.here [hexec, hdg, rb_wpUp (e := e) (s := T) (s₀ := s) (f := g) X.here.top hpv X.warmed hE hd hcf hcp hnt hck hnone,
    invokestatic.wp_ready (e := e) (s := T.setVm (T.vm.calledUp g.method.cls ci index cn m')) (k := k2) (meth := meth') (m := m') (args := argsL) (rest := rest) (f := g)
      X.here.top ⟨ci, mname, mdesc, false, cn, c2, memberRef_ask_via (e := e) hd2 (by rw [ed2]; exact hcf) hcp' hnt, hE.classReady, hc2, hnone2⟩ hE.ready hk2
      (by show (T.vm.calledUp g.method.cls ci index cn m').method? m' = some meth'; rw [alike.method?]; exact hm')
      (by rw [ek2]; show signaturePolymorphic k' meth' = false; simp [signaturePolymorphic, hnx, howner.1, howner.2]) hstatic (by rw [ek2]; exact hinit) hlen hstack]
  exact fun acts => hrest _
end RBUS
def rb_MSU (own : String) (idx : Nat) (owner : String) (x y : MethodName) (cb : ByteArray) (nL1 : Nat) (ret1 : Option FieldType) (n : Nat) : Prop := Cond.methodLink own idx x ∈ rb_tbl ∧ Cond.sameMethod x.cls owner x.name x.desc ∈ rb_tbl ∧ Cond.static y ∈ rb_tbl ∧ Cond.initialized y.cls ∈ rb_tbl ∧ Cond.code y cb nL1 ret1 ∈ rb_tbl ∧ y = ⟨owner, x.name, x.desc⟩ ∧ rb_pn y n
section RBM
variable {z : rb_Z} {v : rb_Sv} {w : rb_Wd} {own : String} {cc : ByteArray} {nL : Nat} {ret : Option FieldType} {h : Nat} {Q : State → Prop} {pc : Nat} {lv lv2 : List (Nat × Value)} {st st0 : List Value} {σ σ1 : rb_St}
theorem rb_callSU (hC : rb_Cx z v w own cc nL ret h) (hV : rb_Vok v) {idx nL1 n h1 : Nat} {owner : String} {x y : MethodName} {cb : ByteArray} {ret1 : Option FieldType} (cr : rb_MSU own idx owner x y cb nL1 ret1 n) {av : rb_Wd → List Value} {r : rb_Wd → Option Value} (con : rb_Con v y cb nL1 ret1 h1 av σ r σ1) (As : List Value) (hav : av w = As) (hn : As.length = n) (hst : st0 = As.reverse ++ st) (hh : h1 < h ∧ nL1 ≤ 29) (hcat : (st.map fun v => v.category).sum ≤ 8) (hd : decode cc pc = .ok (.invokestatic idx, 3)) (kk : rb_At z v w nL Q (pc + 3) lv ((r w).toList ++ st) σ1) : rb_At z v w nL Q pc lv st0 σ := by
  intro H locs ls hP hS hl
  obtain ⟨c1, c2, c3, c4, c5, c6, c7⟩ := cr
  subst c6
  have hts := hC.2.2.2.2.2.1
  have hM := con z.2.1 w
  rw [hav] at hM
  have hcode := hts _ c5
  obtain ⟨mk, hnamed⟩ := Cond.code_named hcode
  obtain ⟨methM, cM, hmethM, -, -, -, -, -, -, hsigM⟩ := Cond.code_spec hnamed hcode
  have hstatic : methM.isStatic = true := Cond.static_spec hnamed hmethM (hts _ c3)
  obtain ⟨kP, hkP, -⟩ := className_of_methodNamed hnamed
  have hinitP : kP.init = .initialized := Cond.initialized_spec (findClass_of_methodNamed hnamed) hkP (hts _ c4)
  have hR := rb_room hC hh
  have hK : Back z.2.1 (rb_R z) z.1 z.2.2.1 (rb_b z) (rb_s z) (rb_a z) ⟨owner, x.name, x.desc⟩ 3 8 (PreOf (rb_R z) 0 0 (rb_Pc v w As σ)) (PostOf (rb_Qc v w (r w) σ1) 0 0 (rb_A w)) :=
    back_of (bytes := cb) (maxL := nL1) (ret := ret1) hM (rb_blind hV) rfl rfl hR.1 hR.2 (pay_in hts (rb_gi c5)) List.mem_cons_self (fun a' U hW => word_at hW (Or.inl (by first | rfl | simp [Cond.onTables, Cond.keeps, Cond.steady])) (hts _ c4))
  have hlen : As.length = methM.sig.parameters.length := by
    have h2 := c7.2.2
    rw [hsigM] at h2
    rw [hn]; exact (Option.some.inj h2).symm
  refine rb_after (a := As.toArray) (st := st) ?_ hS hl kk
  intro T hT X
  obtain ⟨vm₁, X₁, hstep₁⟩ := rb_staticUp X hC.1 hC.2.2.2.2.1 (hts _ c1) (hts _ c2) ⟨c7.1, c7.2.1⟩ hnamed hmethM hstatic hkP hinitP (g := F0 (rb_m z) pc ls st0) rfl (argsL := As) (rest := st) hlen hst (by rw [hC.2.1]; exact hd)
  obtain ⟨v', B, X', hpost, hsteps⟩ := hK (rb_m z) (rb_me z) (rb_c z) ⟨T.setVm vm₁, locs, 0, 0⟩ { F0 (rb_m z) pc ls st0 with stack := st } (.invokestatic idx) mk As.toArray X₁ rfl (hl.1.trans hC.2.2.2.1.symm) (by rw [hC.2.1]; exact hd) (lv_room (pc := pc) (ls := ls) (m := rb_m z) (rest := st) hcat) (X₁.named hnamed) ⟨Nat.zero_le _, Nat.zero_le _, rb_enter hC hV hP hS (T.setVm vm₁) hT X₁.warmed⟩
  obtain ⟨U', l2, c2', s2⟩ := B
  obtain ⟨g', mk', t, L, e1, e2, hq, h1', hL, h2', h3'⟩ := hpost
  dsimp only at X' e1 e2 h1' h2' h3' hsteps
  subst h1'; subst h2'; subst h3'
  exact ⟨v', (T.setVm vm₁).calling g' mk' As.toArray, t, U', L, hT, X', hL, e1, e2, hq, fun target h => hstep₁ _ fun acts => by rw [doInvoke_state]; exact hsteps.trans h⟩
theorem rb_callSUi (hC : rb_Cx z v w own cc nL ret h) (hV : rb_Vok v) {idx nL1 n h1 : Nat} {owner : String} {x y : MethodName} {cb : ByteArray} {ret1 : Option FieldType} (cr : rb_MSU own idx owner x y cb nL1 ret1 n) {av : rb_Wd → List Value} {r : Int32} (con : rb_Con v y cb nL1 ret1 h1 av σ (fun _ => some (.int r)) σ1) (As : List Value) (hav : av w = As) (hn : As.length = n) (hst : st0 = As.reverse ++ st) (hh : h1 < h ∧ nL1 ≤ 29) (hcat : (st.map fun v => v.category).sum ≤ 8) (hd : decode cc pc = .ok (.invokestatic idx, 3)) (kk : rb_At z v w nL Q (pc + 3) lv (.int r :: st) σ1) : rb_At z v w nL Q pc lv st0 σ := rb_callSU hC hV cr con As hav hn hst hh hcat hd kk
theorem rb_alen (hC : rb_Cx z v w own cc nL ret h) {k t n : Nat} {ty : FieldType} {x : Int32} (ar : rb_Ar v k t n) (ht : ∀ cy, (rb_tys cy)[t]? = some (cy t, ty)) (hx : Int32.ofNat n = x) (hd : decode cc pc = .ok (.arraylength, 1)) (kk : rb_At z v w nL Q (pc + 1) lv (.int x :: st) σ) : rb_At z v w nL Q pc lv (.ref (rb_ad w k) :: st) σ :=
  fun H locs ls hP hS hl => va_alen hC.1 hC.2.1 hC.2.2.2.2.2.2.2.2.1 hP k t (rb_ar_at ar) (ht _) hx hd (kk H locs ls hP hS hl)
theorem rb_kmaxJs : Cond.static Lib.MathLoose.max_long.x ∈ rb_tbl := rb_in (by decide +kernel) (by decide +kernel)
theorem rb_kmaxJc : Cond.code Lib.MathLoose.max_long.x Lib.MathLoose.max_long.code 4 (some .long) ∈ rb_tbl := rb_in (by decide +kernel) (by decide +kernel)
theorem rb_kminJs : Cond.static Lib.MathLoose.min_long.x ∈ rb_tbl := rb_in (by decide +kernel) (by decide +kernel)
theorem rb_kminJc : Cond.code Lib.MathLoose.min_long.x Lib.MathLoose.min_long.code 4 (some .long) ∈ rb_tbl := rb_in (by decide +kernel) (by decide +kernel)
theorem rb_mmaxJ (hC : rb_Cx z v w own cc nL ret h) {x y : Int64} {idx : Nat} (hk : Cond.methodLink own idx Lib.MathLoose.max_long.x ∈ rb_tbl) (hR : 1 ≤ h ∧ (st.map fun v => v.category).sum + 15 ≤ 48 * h) (hd : decode cc pc = .ok (.invokestatic idx, 3)) (k : rb_At z v w nL Q (pc + 3) lv (.long (if y < x then x else y) :: st) σ) : rb_At z v w nL Q pc lv (.long y :: .long x :: st) σ := fun H locs ls hP hS hl => va_mmax_long hC.1 hC.2.1 (hC.2.2.2.1.trans hl.1.symm) hC.2.2.2.2.1 (hC.2.2.2.2.2.1 _ hk) (hC.2.2.2.2.2.1 _ rb_kmaxJs) (hC.2.2.2.2.2.1 _ rb_kmi) (hC.2.2.2.2.2.1 _ rb_kmaxJc) (by rw [hC.2.2.2.2.2.2.2.1]; exact hR.1) (by rw [hC.2.2.2.2.2.2.2.1]; exact hR.2) (Nat.zero_le _) (Nat.zero_le _) hd (k H locs ls hP hS hl)
theorem rb_mminJ (hC : rb_Cx z v w own cc nL ret h) {x y : Int64} {idx : Nat} (hk : Cond.methodLink own idx Lib.MathLoose.min_long.x ∈ rb_tbl) (hR : 1 ≤ h ∧ (st.map fun v => v.category).sum + 15 ≤ 48 * h) (hd : decode cc pc = .ok (.invokestatic idx, 3)) (k : rb_At z v w nL Q (pc + 3) lv (.long (if y < x then y else x) :: st) σ) : rb_At z v w nL Q pc lv (.long y :: .long x :: st) σ := fun H locs ls hP hS hl => va_mmin_long hC.1 hC.2.1 (hC.2.2.2.1.trans hl.1.symm) hC.2.2.2.2.1 (hC.2.2.2.2.2.1 _ hk) (hC.2.2.2.2.2.1 _ rb_kminJs) (hC.2.2.2.2.2.1 _ rb_kmi) (hC.2.2.2.2.2.1 _ rb_kminJc) (by rw [hC.2.2.2.2.2.2.2.1]; exact hR.1) (by rw [hC.2.2.2.2.2.2.2.1]; exact hR.2) (Nat.zero_le _) (Nat.zero_le _) hd (k H locs ls hP hS hl)
end RBM
