/-! the law's own dancer: it catches -/
theorem rb_MetW {l : Launch} {y : MethodName} {ws ws' : List Cond} {rm : Room} {Pc : Array Value → State → Prop} {Qc : Array Value → State → Outcome → State → Prop} {mc ms : Nat} {free : Addr → Prop} {cc : ByteArray} {maxL : Nat} {ret : Option FieldType} {hh : List (Nat × Nat × Nat × Nat)}
    (hy : plainName y.cls = true) (hw : ws = Cond.codeWith y cc maxL ret hh :: ws')
    (body : ∀ p e s m args below meth c s₁, BodyLoose p l y (headSpec ws rm) cc maxL ret e s m args below meth c s₁ → c.maxLocals = maxL → Pc args s →
      W p l e (headSpec ws rm).room s m args below meth c s.heap [] 0 0 (MQ below Qc args s mc ms free) (entryFrame m args maxL)) : Met l y ws rm Pc Qc mc ms free := by
  refine MetFree.of_bodyS (code := cc) (maxLocals := maxL) (ret := ret) hy ?_ ?_
  · intro args s m h hn
    obtain ⟨m9, meth, c, hn9, h1, h2, h3, h4, -, h5, h6, -⟩ := Cond.codeWith_spec (atoms_spec (ws := ws) h _ (by rw [hw]; exact List.mem_cons_self))
    cases hn.symm.trans hn9
    exact ⟨meth, c, h1, h2, h3, h4, h5, h6⟩
  · intro p e s m args below meth c s₁ B hml hP _
    have hh0 : s₁.heap = s.heap := by rw [B.state]; rfl
    obtain ⟨t, a1, o, b1, b2, b3⟩ := body p e s m args below meth c s₁ B hml hP s₁ hh0 (Stand.of_body B)
    exact ⟨t, o, a1, b1, b2, b3⟩
abbrev hhL : List (Nat × Nat × Nat × Nat) := [(0, 10, 13, 13)]
def rmL : Room := { frames := 12, cells := 1, slots := 6, locals := 700 }
def rb_LA (g : rb_Gd) (q : Nat) : Prop := rb_A (rb_w1 g) q ∨ q = rb_qo g
abbrev rb_Lav (g : rb_Gd) (p0 p1 : Int32) : List Value := [.ref (rb_ad (rb_w1 g) 0), .int p0, .int p1, .ref (rb_qo g)]
def rb_LdP (g : rb_Gd) (p0 p1 : Int32) (σ : rb_St) (o : Nat → Int64) : Array Value → State → Prop := fun a U => a = (rb_Lav g p0 p1).toArray ∧ va_P g.1 vwCl (rb_ws rb_vX (rb_w1 g) σ) U.heap ∧ va_P g.1 vwCl (rb_o1 g o) U.heap ∧ va_K g.1 vwCl (rb_tys g.2.1 ++ [(rb_co g, .long)]) U ∧ rb_inj rb_vX (rb_w1 g) ∧ rb_SFX (rb_w1 g) U U.heap ∧ (¬ rb_A (rb_w1 g) (rb_qo g)) ∧ rb_TX (rb_LA g) U U.heap
def rb_LdQ (g : rb_Gd) (r : Int32) (σ : rb_St) (o : Nat → Int64) : Array Value → State → Outcome → State → Prop := fun _ st out t => out = .returned (some (.int r)) ∧ va_P g.1 vwCl (rb_ws rb_vX (rb_w1 g) σ) t.heap ∧ va_P g.1 vwCl (rb_o1 g o) t.heap ∧ va_F (rb_LA g) st t
theorem rb_LdP_blind {g : rb_Gd} {p0 p1 : Int32} {σ : rb_St} {o : Nat → Int64} : FrameBlind (rb_LdP g p0 p1 σ o) := by
  intro a U f mk q
  obtain ⟨q0, q1, q2, q3, q4, q5, q6, q7⟩ := q
  exact ⟨q0, q1, q2, va_K.moved (u := U) (U := U.calling f mk a) (Vm.Alike.refl U.vm) q3, q4, rb_VokX.2 (rb_w1 g) U _ _ rfl q5, q6, q7.vm (U := U.calling f mk a) rfl⟩
theorem mv_L_7 : rb_MV RL 7 yX11_dancer cX11_dancer 3 (some .int) 2 := ⟨rb_in (by decide +kernel) (by decide +kernel), rb_in (by decide +kernel) (by decide +kernel), rb_in (by decide +kernel) (by decide +kernel), rb_in (by decide +kernel) (by decide +kernel), rb_in (by decide +kernel) (by decide +kernel), by decide +kernel, by decide +kernel, by decide +kernel⟩
theorem wl_cl : Cond.classLink RL 13 NSE ∈ rb_tbl := rb_in (by decide +kernel) (by decide +kernel)
theorem wl_ml : Cond.methodLink RL 42 yL_dancer ∈ rb_tbl := rb_in (by decide +kernel) (by decide +kernel)
theorem wl_st : Cond.static yL_dancer ∈ rb_tbl := rb_in (by decide +kernel) (by decide +kernel)
theorem wl_in : Cond.initialized yL_dancer.cls ∈ rb_tbl := rb_in (by decide +kernel) (by decide +kernel)
theorem wl_cw : Cond.codeWith yL_dancer cL_dancer 5 (some .int) hhL ∈ rb_tbl := rb_in (by decide +kernel) (by decide +kernel)
section LDA
variable {z : rb_Z} {g : rb_Gd} {Q : State → Prop} {pc : Nat} {st st0 : List Value} {σ σ1 : rb_St} {o : Nat → Int64} {H : Heap} {locs : List Loc} {ls : Array Slot}
theorem rb_o1_base {k : Nat} {q : Nat × va_E} (h : (rb_o1 g o)[k]? = some q) : q.1 = rb_qo g := by
  cases k with
  | zero => cases h; rfl
  | succ k => simp [rb_o1] at h
theorem ld_after (hA : ¬ rb_A (rb_w1 g) (rb_qo g)) {r : Option Value} {a : Array Value} (hr : va_Run z.1 z.2.1 z.2.2.1 (rb_R z) (rb_s z) (rb_m z) (rb_a z) (rb_b z) (rb_me z) (rb_c z) H locs 0 0 0 0 (F0 (rb_m z) pc ls st0) st (rb_Qc rb_vX (rb_w1 g) r σ1 a) (rb_A (rb_w1 g))) (hO : va_P g.1 vwCl (rb_o1 g o) H) (hS : va_S (rb_LA g) (rb_s z).heap H locs) (kk : ∀ (H1 : Heap) (locs1 : List Loc), va_P g.1 vwCl (rb_ws rb_vX (rb_w1 g) σ1) H1 → va_P g.1 vwCl (rb_o1 g o) H1 → va_S (rb_LA g) (rb_s z).heap H1 locs1 → rb_W z H1 locs1 Q (F0 (rb_m z) (pc + 3) ls (r.toList ++ st))) : rb_W z H locs Q (F0 (rb_m z) pc ls st0) := by
  intro T hT X
  obtain ⟨v0, st₀, t, T', L', h0, X', hL, e1, e2, ⟨hq, hP1, hz, hk⟩, stp⟩ := hr T hT X
  cases hq
  rw [h0] at hz hk
  have keep : ∀ (q : Nat), ¬ rb_A (rb_w1 g) q → q < H.size → T'.heap[q]? = H[q]? := fun q hq hn => by
    rw [e1]
    exact hk q hn hq
  have hP2 : va_P g.1 vwCl (rb_ws rb_vX (rb_w1 g) σ1) T'.heap := by rw [e1]; exact hP1
  have hO2 : va_P g.1 vwCl (rb_o1 g o) T'.heap := hO.kept (fun k q hk2 => by
      have hlt := (hO k _ hk2).lt
      have hq := rb_o1_base hk2
      exact keep _ (by rw [hq]; exact hA) hlt)
  have hS2 : va_S (rb_LA g) (rb_s z).heap T'.heap (locs ++ L') := ⟨Nat.le_trans hS.1 (by rw [e1]; exact hz), fun q h1 h2 => (keep q (fun hA => h2 (Or.inl hA)) (Nat.lt_of_lt_of_le h1 hS.1)).trans (hS.2.1 q h1 h2), fun q hq => by
      rcases List.mem_append.mp hq with h | h
      · exact hS.2.2 q h
      · exact Or.inl (hL q h)⟩
  obtain ⟨t2, a1, b1⟩ := kk T'.heap (locs ++ L') hP2 hO2 hS2 T' rfl X'
  exact ⟨t2, stp t2 a1, b1⟩
end LDA
theorem ld_both {g : rb_Gd} {σ : rb_St} {o : Nat → Int64} {H : Heap} (hP : va_P g.1 vwCl (rb_ws rb_vX (rb_w1 g) σ) H) (hO : va_P g.1 vwCl (rb_o1 g o) H) : va_P g.1 vwCl (rb_o1 g o ++ rb_ws rb_vX (rb_w1 g) σ) H := hO.app hP
theorem ld_D {g : rb_Gd} {σ : rb_St} {o : Nat → Int64} (hI : rb_inj rb_vX (rb_w1 g)) (hA : ¬ rb_A (rb_w1 g) (rb_qo g)) : va_D (rb_LA g) (rb_o1 g o ++ rb_ws rb_vX (rb_w1 g) σ) := by
  have hD := rb_D (σ := σ) hI
  refine va_D.app ⟨fun i j p q hi hj _ => ?_, fun k q hk => Or.inr (rb_o1_base hk)⟩ ⟨hD.1, fun k q hk => Or.inl (hD.2 k q hk)⟩ (fun i j p q hi hj e => ?_)
  · cases i with
    | zero => cases j with
      | zero => rfl
      | succ j => simp [rb_o1] at hj
    | succ i => simp [rb_o1] at hi
  · rw [rb_o1_base hi] at e
    exact hA (by rw [e]; exact hD.2 j q hj)
set_option maxHeartbeats 4000000 in
theorem ld_ok (l : Launch) (g : rb_Gd) (p0 p1 : Int32) (σ : rb_St) (o : Nat → Int64) (r : Int32) (h : xf_RP_dancer p0 p1 σ = some r) : Met l yL_dancer (.codeWith yL_dancer cL_dancer 5 (some .int) hhL :: rb_tbl) rmL (rb_LdP g p0 p1 σ o) (rb_LdQ g 0 σ (vp_updL o 0 r.toInt64)) 1 6 (rb_LA g) := by
  refine rb_MetW (cc := cL_dancer) (maxL := 5) (ret := some .int) (by decide) rfl ?_
  intro p e s m args below meth c s₁ B hml hv
  obtain ⟨rfl, hP, hO, hK, hI, hV, hA, hT⟩ := hv
  have hts0 := atoms_spec (ws := .codeWith yL_dancer cL_dancer 5 (some .int) hhL :: rb_tbl) B.pre
  have hts : ∀ x ∈ rb_tbl, x.before (rb_Lav g p0 p1).toArray s = true := fun x hx => hts0 x (List.mem_cons_of_mem _ hx)
  have hown : s.vm.findClass RL = some m.cls := findClass_of_methodNamed B.named
  have hex := B.exec
  have hby := B.bytes
  have hlk := B.notSynchronized
  have hret := B.returns
  have hl := lv_entry (rb_Lav g p0 p1) (n := 5) (Nat.le_of_ble_eq_true rfl)
  rw [lg_entry_eq]
  revert hl
  generalize (lg_sl (rb_Lav g p0 p1) ++ List.replicate (5 - (lg_sl (rb_Lav g p0 p1)).length) Slot.unset).toArray = ls
  intro hl
  have hl2 : lv_has ls 5 [(0, .ref (rb_ad (rb_w1 g) 0)), (1, .int p0), (2, .int p1), (3, .ref (rb_qo g))] := hl
  refine lv_aload_n hex hby dL_dancer_0 rfl (lv_at hl2 3 rfl) ?_
  refine lv_iconst (v := 0) hex hby dL_dancer_1 (by decide) ?_
  refine lv_aload_n hex hby dL_dancer_2 rfl (lv_at hl2 0 rfl) ?_
  refine lv_iload_n hex hby dL_dancer_3 rfl (lv_at hl2 1 rfl) ?_
  refine lv_iload_n hex hby dL_dancer_4 rfl (lv_at hl2 2 rfl) ?_
  obtain ⟨c1, c2, c3, c4, c5, c6⟩ := mv_L_7
  have con := xc_RP_dancer p0 p1 σ r h l (rb_w1 g)
  have hK1 := rb_K1 hK
  refine ld_after (z := (p, l, e, rmL, s, m, (rb_Lav g p0 p1).toArray, below, meth, c)) (σ1 := σ) hA (r := some (.int r)) (st := [.int 0, .ref (rb_qo g)]) (va_runV (C := RX11) (As := [.int p0, .int p1]) (rest := [.int 0, .ref (rb_qo g)]) (b := rb_ad (rb_w1 g) 0) (nL := 5) (Ts := rb_tbl) ⟨hex, hby, hml, hown, hts⟩ con ⟨callB_of 2 hts (rb_gi c5) rfl rfl rfl (hts _ c4) (hts _ c1) c6 ⟨Nat.le_of_ble_eq_true rfl, Nat.le_of_ble_eq_true rfl⟩, hts _ c2, hts _ c3⟩ ⟨rb_blind rb_VokX, va_recv hK1 hP (q := _) rfl (rb_ob_at rb_obX0), fun U hU hW => ⟨rfl, by rw [hU]; exact hP, va_K.moved hW.alike hK1, hI, rb_VokX.1 (rb_w1 g) s U _ _ hW (by rw [hU]; exact fun q _ _ => rfl) hV⟩⟩ rfl rfl hl2.1 rfl (lv_room (Nat.le_of_ble_eq_true rfl)) dL_dancer_5 ⟨Nat.zero_le _, Nat.zero_le _⟩) hO va_S.rf ?_
  intro H locs hP hO hS
  refine lv_i2l hex hby dL_dancer_8 rfl ?_
  refine va_last hex hby hK (ld_both hP hO) (ld_D hI hA) hS 0 5 rfl rfl (show vp_in (nI 0) 1 from vp_in_nI (by decide) (by decide)) dL_dancer_9 ?_
  intro H1 locs1 hPO hD1 hS1
  have hO1 : va_P g.1 vwCl (rb_o1 g (vp_updL o 0 r.toInt64)) H1 := fun k q hk => by
    have hq : k = 0 := by
      cases k with
      | zero => rfl
      | succ k => simp [rb_o1] at hk
    subst hq
    exact hPO 0 q hk
  have hP1 : va_P g.1 vwCl (rb_ws rb_vX (rb_w1 g) σ) H1 := fun k q hk => hPO (k + 1) q hk
  refine lv_goto hex hby dL_dancer_10 (show ((10 : Nat) : Int) + 7 = ((17 : Nat) : Int) by decide) ?_
  refine lv_iconst (v := 0) hex hby dL_dancer_17 (by decide) ?_
  refine W.widen (k := 1) (n := 6) (by decide) (by decide) ?_
  exact W.iret hex hby hret (fun t ht _ => ⟨rfl, by rw [ht]; exact hP1, by rw [ht]; exact hO1, hS1.F ht⟩) (fun q hq => hS1.2.2 q hq) dL_dancer_18 hlk
set_option maxHeartbeats 4000000 in
theorem ld_thr (l : Launch) (hl0 : l.stackTraces = false) (g : rb_Gd) (p0 p1 : Int32) (σ : rb_St) (o : Nat → Int64) (hc : xf_RP_isDancer p0 σ = 0 ∨ p1 < 0 ∨ ¬ p1 ≤ 5) : Met l yL_dancer (.codeWith yL_dancer cL_dancer 5 (some .int) hhL :: rb_tbl) rmL (rb_LdP g p0 p1 σ o) (rb_LdQ g 1 σ o) 1 6 (rb_LA g) := by
  refine rb_MetW (cc := cL_dancer) (maxL := 5) (ret := some .int) (by decide) rfl ?_
  intro p e s m args below meth c s₁ B hml hv
  obtain ⟨rfl, hP, hO, hK, hI, hV, hA, hT⟩ := hv
  have hts0 := atoms_spec (ws := .codeWith yL_dancer cL_dancer 5 (some .int) hhL :: rb_tbl) B.pre
  have hts : ∀ x ∈ rb_tbl, x.before (rb_Lav g p0 p1).toArray s = true := fun x hx => hts0 x (List.mem_cons_of_mem _ hx)
  have htab : c.exceptionTable.toList = tableOf hhL := vx_table (x := yL_dancer) B (hts _ wl_cw)
  have hown : s.vm.findClass RL = some m.cls := findClass_of_methodNamed B.named
  have hex := B.exec
  have hby := B.bytes
  have hlk := B.notSynchronized
  have hret := B.returns
  have hl := lv_entry (rb_Lav g p0 p1) (n := 5) (Nat.le_of_ble_eq_true rfl)
  rw [lg_entry_eq]
  revert hl
  generalize (lg_sl (rb_Lav g p0 p1) ++ List.replicate (5 - (lg_sl (rb_Lav g p0 p1)).length) Slot.unset).toArray = ls
  intro hl
  have hl2 : lv_has ls 5 [(0, .ref (rb_ad (rb_w1 g) 0)), (1, .int p0), (2, .int p1), (3, .ref (rb_qo g))] := hl
  refine lv_aload_n hex hby dL_dancer_0 rfl (lv_at hl2 3 rfl) ?_
  refine lv_iconst (v := 0) hex hby dL_dancer_1 (by decide) ?_
  refine lv_aload_n hex hby dL_dancer_2 rfl (lv_at hl2 0 rfl) ?_
  refine lv_iload_n hex hby dL_dancer_3 rfl (lv_at hl2 1 rfl) ?_
  refine lv_iload_n hex hby dL_dancer_4 rfl (lv_at hl2 2 rfl) ?_
  obtain ⟨c1, c2, c3, c4, c5, c6⟩ := mv_L_7
  have con := xx_RP_dancer l hl0 (rb_w1 g) p0 p1 σ hc
  have hK1 := rb_K1 hK
  have hT1 : rb_TX (rb_A (rb_w1 g)) s s.heap := hT.narrow (fun a ha => Or.inl ha)
  have hr := vx_runV (p := p) (e := e) (meth := meth) (below := below) (locs := []) (cells := 0) (slots := 0) (R := rmL) (H := s.heap) (g := F0 m 5 ls [.int p1, .int p0, .ref (rb_ad (rb_w1 g) 0), .int 0, .ref (rb_qo g)]) (C := RX11) (As := [.int p0, .int p1]) (rest := [.int 0, .ref (rb_qo g)]) (b := rb_ad (rb_w1 g) 0) (nL := 5) (Ts := rb_tbl) ⟨hex, hby, hml, hown, hts⟩ con ⟨callB_of 2 hts (rb_gi c5) rfl rfl rfl (hts _ c4) (hts _ c1) c6 ⟨Nat.le_of_ble_eq_true rfl, Nat.le_of_ble_eq_true rfl⟩, hts _ c2, hts _ c3⟩ ⟨rb_thrP_blind, va_recv hK1 hP (q := _) rfl (rb_ob_at rb_obX0), fun U hU hW => ⟨⟨rfl, by rw [hU]; exact hP, va_K.moved hW.alike hK1, hI, rb_VokX.1 (rb_w1 g) s U _ _ hW (by rw [hU]; exact fun q _ _ => rfl) hV⟩, hT1.go hW (by rw [hU]; exact fun a _ _ => rfl)⟩⟩ rfl rfl hl2.1 rfl (lv_room (Nat.le_of_ble_eq_true rfl)) dL_dancer_5 ⟨by decide, by decide⟩
  intro T hT0 X
  rcases hr T hT0 X with ⟨v, st₀, t, T', L, h0, X', hL, e1, e2, hF, stp⟩ | ⟨q, st₀, t, T', L, E, ce, h0, X', hL, e1, e2, ⟨hE, hP1, hF⟩, hce, hcv, hcl, stp⟩
  · exact hF.elim
  · subst hE
    obtain ⟨hz, hk⟩ := hF
    rw [h0] at hz hk
    have keep : ∀ (q : Nat), ¬ rb_A (rb_w1 g) q → q < s.heap.size → T'.heap[q]? = s.heap[q]? := fun q hq hn => by
      rw [e1]
      exact hk q hn hq
    have hP2 : va_P g.1 vwCl (rb_ws rb_vX (rb_w1 g) σ) T'.heap := by rw [e1]; exact hP1
    have hO2 : va_P g.1 vwCl (rb_o1 g o) T'.heap := hO.kept (fun k q hk2 => keep _ (by rw [rb_o1_base hk2]; exact hA) (hO k _ hk2).lt)
    have hS2 : va_S (rb_LA g) s.heap T'.heap ([] ++ L) := ⟨by rw [e1]; exact hz, fun q h1 h2 => keep q (fun hA => h2 (Or.inl hA)) h1, fun q hq => Or.inl (hL q hq)⟩
    have K := vx_catch (p := p) (l := l) (e := e) (R := rmL) (s := s) (m := m) (args := (rb_Lav g p0 p1).toArray) (below := below) (meth := meth) (c := c) (H := T'.heap) (locs := [] ++ L) (cells := 0 + 1) (slots := 0 + 6) (Q := MQ below (rb_LdQ g 1 σ o) (rb_Lav g p0 p1).toArray s 1 6 (rb_LA g)) (pc := 5) (ls := ls) (rest := [.int 0, .ref (rb_qo g)]) (own := RL) (name := NSE) (E := NSE) hown [] ⟨0, 10, 13, 13⟩ [] (by rw [htab]; rfl) (fun z hz => absurd hz List.not_mem_nil) (by decide) (by decide) (hts _ wl_cl) (va_tabs rfl rfl (hT.2.2 (.castable NSE NSE) (by decide +kernel))) (by rw [e1]; exact hce) hcv hcl (by
      refine lv_astore hex hby dL_dancer_13 hl2 (by decide) rfl (fun ls' hl' => ?_)
      refine lv_iconst (v := 1) hex hby dL_dancer_15 (by decide) ?_
      exact W.iret hex hby hret (fun t ht _ => ⟨rfl, by rw [ht]; exact hP2, by rw [ht]; exact hO2, hS2.F ht⟩) (fun q hq => hS2.2.2 q hq) dL_dancer_16 hlk)
    obtain ⟨t2, a1, b1⟩ := K T' rfl X'
    exact ⟨t2, stp.trans a1, b1⟩
