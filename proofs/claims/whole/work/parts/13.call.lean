def rb_pn (y : MethodName) (n : Nat) : Prop := y.cls ≠ "java/lang/invoke/MethodHandle" ∧ y.cls ≠ "java/lang/invoke/VarHandle" ∧ (parseMethodDescriptor y.desc).map (fun d => d.parameters.length) = some n
/-- a virtual call by its place in the pool; one that is inherited; a static one -/
def rb_MV (own : String) (idx : Nat) (y : MethodName) (cb : ByteArray) (nL1 : Nat) (ret1 : Option FieldType) (n : Nat) : Prop := Cond.methodLink own idx y ∈ rb_tbl ∧ Cond.instanceMethod y ∈ rb_tbl ∧ Cond.selects y.cls y y ∈ rb_tbl ∧ Cond.initialized y.cls ∈ rb_tbl ∧ Cond.code y cb nL1 ret1 ∈ rb_tbl ∧ rb_pn y n
def rb_MU (own : String) (idx : Nat) (C owner : String) (x y : MethodName) (cb : ByteArray) (nL1 : Nat) (ret1 : Option FieldType) (n : Nat) : Prop := Cond.methodLink own idx x ∈ rb_tbl ∧ Cond.sameMethod x.cls owner x.name x.desc ∈ rb_tbl ∧ Cond.selects C x y ∈ rb_tbl ∧ Cond.instanceMethod y ∈ rb_tbl ∧ Cond.initialized y.cls ∈ rb_tbl ∧ Cond.code y cb nL1 ret1 ∈ rb_tbl ∧ y = ⟨owner, x.name, x.desc⟩ ∧ owner ≠ "java/lang/invoke/MethodHandle" ∧ owner ≠ "java/lang/invoke/VarHandle" ∧ (parseMethodDescriptor x.desc).map (fun d => d.parameters.length) = some n
def rb_MS (own : String) (idx : Nat) (y : MethodName) (cb : ByteArray) (nL1 : Nat) (ret1 : Option FieldType) (n : Nat) : Prop := Cond.methodLink own idx y ∈ rb_tbl ∧ Cond.static y ∈ rb_tbl ∧ Cond.initialized y.cls ∈ rb_tbl ∧ Cond.code y cb nL1 ret1 ∈ rb_tbl ∧ rb_pn y n
def rb_MSN (own : String) (idx : Nat) (host : String) (y : MethodName) (cb : ByteArray) (nL1 : Nat) (ret1 : Option FieldType) (n : Nat) : Prop := Cond.methodLinkNest own idx y host ∈ rb_tbl ∧ Cond.static y ∈ rb_tbl ∧ Cond.initialized y.cls ∈ rb_tbl ∧ Cond.code y cb nL1 ret1 ∈ rb_tbl ∧ rb_pn y n
theorem rb_gi {c : Cond} (h : c ∈ rb_tbl) : GoodIn rb_tbl (c :: rb_tbl) := fun x hx => by
  have : x ∈ rb_tbl := by
    rcases List.mem_cons.mp hx with rfl | h1
    · exact h
    · exact h1
  exact ⟨this, rb_good this⟩
section RBC
variable {z : rb_Z} {v : rb_Sv} {w : rb_Wd} {own : String} {cc : ByteArray} {nL : Nat} {ret : Option FieldType} {h : Nat} {Q : State → Prop} {pc : Nat} {lv lv2 : List (Nat × Value)} {st st0 : List Value} {σ σ1 : rb_St}
theorem rb_after {H : Heap} {locs : List Loc} {ls : Array Slot} {r : Option Value} {a : Array Value} (hr : va_Run z.1 z.2.1 z.2.2.1 (rb_R z) (rb_s z) (rb_m z) (rb_a z) (rb_b z) (rb_me z) (rb_c z) H locs 0 0 0 0 (F0 (rb_m z) pc ls st0) st (rb_Qc v w r σ1 a) (rb_A w)) (hS : va_S (rb_A w) (rb_s z).heap H locs) (hl : lv_has ls nL lv) (kk : rb_At z v w nL Q (pc + 3) lv (r.toList ++ st) σ1) : rb_W z H locs Q (F0 (rb_m z) pc ls st0) := by
  intro T hT X
  obtain ⟨v0, st₀, t, T', L, h0, X', hL, e1, e2, ⟨hq, hP1, hz, hk⟩, stp⟩ := hr T hT X
  cases hq
  rw [h0] at hz hk
  obtain ⟨t2, a1, b1⟩ := kk T'.heap (locs ++ L) ls (by rw [e1]; exact hP1) ⟨Nat.le_trans hS.1 (by rw [e1]; exact hz), fun q h1 h2 => by rw [e1, hk q (Nat.lt_of_lt_of_le h1 hS.1) h2]; exact hS.2.1 q h1 h2, fun q hq => by
      rcases List.mem_append.mp hq with h | h
      · exact hS.2.2 q h
      · exact hL q h⟩ hl T' rfl X'
  exact ⟨t2, stp t2 a1, b1⟩
theorem rb_blind (hV : rb_Vok v) {av : List Value} : FrameBlind (rb_Pc v w av σ) := by
  intro a U g mk q
  obtain ⟨q0, qP, qK, qI, qV⟩ := q
  exact ⟨q0, qP, va_K.moved (u := U) (U := U.calling g mk a) (Vm.Alike.refl U.vm) qK, qI, hV.2 w U _ _ rfl qV⟩
theorem rb_enter (hC : rb_Cx z v w own cc nL ret h) (hV : rb_Vok v) {H : Heap} {locs : List Loc} (hP : va_P w.1 vwCl (rb_ws v w σ) H) (hS : va_S (rb_A w) (rb_s z).heap H locs) {av : List Value} (U : State) (hU : U.heap = H) (hW : (rb_s z).WarmedH U.vm) : rb_Pc v w av σ av.toArray U :=
  ⟨rfl, by rw [hU]; exact hP, va_K.moved hW.alike hC.2.2.2.2.2.2.2.2.1, hC.2.2.2.2.2.2.2.2.2.1, hV.1 w (rb_s z) U _ _ hW (by rw [hU]; exact hS.2.1) hC.2.2.2.2.2.2.2.2.2.2⟩
theorem rb_room {h1 nL1 : Nat} (hC : rb_Cx z v w own cc nL ret h) (hh : h1 < h ∧ nL1 ≤ 29) : (rb_rm h1).frames + 1 ≤ (rb_R z).frames ∧ 8 + (nL1 + 11) + (rb_rm h1).locals ≤ (rb_R z).locals := by
  rw [hC.2.2.2.2.2.2.2.1]
  show h1 + 1 ≤ h ∧ 8 + (nL1 + 11) + 48 * h1 ≤ 48 * h
  omega
theorem rb_zero (hC : rb_Cx z v w own cc nL ret h) : 0 + 0 ≤ (rb_R z).cells ∧ 0 + 0 ≤ (rb_R z).slots := ⟨Nat.zero_le _, Nat.zero_le _⟩
theorem rb_callV (hC : rb_Cx z v w own cc nL ret h) (hV : rb_Vok v) {idx nL1 n h1 : Nat} {y : MethodName} {cb : ByteArray} {ret1 : Option FieldType} (cr : rb_MV own idx y cb nL1 ret1 n) {av : rb_Wd → List Value} {r : rb_Wd → Option Value} (con : rb_Con v y cb nL1 ret1 h1 av σ r σ1) {k ci : Nat} {fk : List rb_Fk} (ob : rb_Ob v k ci fk) (hcls : (vwCl[ci]?).map (fun q => q.1) = some y.cls) (As : List Value) (hav : av w = .ref (rb_ad w k) :: As) (hn : As.length = n) (hst : st0 = As.reverse ++ .ref (rb_ad w k) :: st) (hh : h1 < h ∧ nL1 ≤ 29) (hcat : (st.map fun v => v.category).sum ≤ 8) (hd : decode cc pc = .ok (.invokevirtual idx, 3)) (kk : rb_At z v w nL Q (pc + 3) lv ((r w).toList ++ st) σ1) : rb_At z v w nL Q pc lv st0 σ := by
  intro H locs ls hP hS hl
  obtain ⟨c1, c2, c3, c4, c5, c6⟩ := cr
  obtain ⟨q, hq, hqc⟩ := Option.map_eq_some_iff.mp hcls
  have hts := hC.2.2.2.2.2.1
  have hM := con z.2.1 w
  rw [hav] at hM
  refine rb_after (va_runV (C := y.cls) (As := As) (rest := st) (b := rb_ad w k) (nL := nL) (Ts := rb_tbl) ⟨hC.1, hC.2.1, hC.2.2.2.1, hC.2.2.2.2.1, hts⟩ hM ⟨callB_of n hts (rb_gi c5) rfl rfl rfl (hts _ c4) (hts _ c1) c6 (rb_room hC hh), hts _ c2, hts _ c3⟩ ⟨rb_blind hV, ?_, fun U hU hW => rb_enter hC hV hP hS U hU hW⟩ rfl hn hl.1 hst (lv_room hcat) hd (rb_zero hC)) hS hl kk
  rw [← hqc]
  exact va_recv hC.2.2.2.2.2.2.2.2.1 hP hq (rb_ob_at ob)
theorem rb_callU (hC : rb_Cx z v w own cc nL ret h) (hV : rb_Vok v) {idx nL1 n h1 : Nat} {C owner : String} {x y : MethodName} {cb : ByteArray} {ret1 : Option FieldType} (cr : rb_MU own idx C owner x y cb nL1 ret1 n) {av : rb_Wd → List Value} {r : rb_Wd → Option Value} (con : rb_Con v y cb nL1 ret1 h1 av σ r σ1) {k ci : Nat} {fk : List rb_Fk} (ob : rb_Ob v k ci fk) (hcls : (vwCl[ci]?).map (fun q => q.1) = some C) (As : List Value) (hav : av w = .ref (rb_ad w k) :: As) (hn : As.length = n) (hst : st0 = As.reverse ++ .ref (rb_ad w k) :: st) (hh : h1 < h ∧ nL1 ≤ 29) (hcat : (st.map fun v => v.category).sum ≤ 8) (hd : decode cc pc = .ok (.invokevirtual idx, 3)) (kk : rb_At z v w nL Q (pc + 3) lv ((r w).toList ++ st) σ1) : rb_At z v w nL Q pc lv st0 σ := by
  intro H locs ls hP hS hl
  obtain ⟨c1, c2, c3, c4, c5, c6, c7, c8⟩ := cr
  obtain ⟨q, hq, hqc⟩ := Option.map_eq_some_iff.mp hcls
  have hts := hC.2.2.2.2.2.1
  have hM := con z.2.1 w
  rw [hav] at hM
  have hG : GoodIn rb_tbl (va_wsU own idx C owner x y (.code y cb nL1 ret1 :: rb_tbl)) := by
    intro u hu
    have : u ∈ rb_tbl := by
      simp only [va_wsU, List.cons_append, List.nil_append, List.mem_cons] at hu
      rcases hu with rfl | rfl | rfl | rfl | rfl | rfl | hu <;> assumption
    exact ⟨this, rb_good this⟩
  refine rb_after (va_runU (C := C) (As := As) (rest := st) (b := rb_ad w k) (nL := nL) (Ts := rb_tbl) ⟨hC.1, hC.2.1, hC.2.2.2.1, hC.2.2.2.2.1, hts⟩ hM (va_cwU n hts hG rfl rfl rfl c7 c8 (rb_room hC hh)) ⟨rb_blind hV, ?_, fun U hU hW => rb_enter hC hV hP hS U hU hW⟩ rfl hn hl.1 hst (lv_room hcat) hd (rb_zero hC)) hS hl kk
  rw [← hqc]
  exact va_recv hC.2.2.2.2.2.2.2.2.1 hP hq (rb_ob_at ob)
theorem rb_callS (hC : rb_Cx z v w own cc nL ret h) (hV : rb_Vok v) {idx nL1 n h1 : Nat} {y : MethodName} {cb : ByteArray} {ret1 : Option FieldType} (cr : rb_MS own idx y cb nL1 ret1 n) {av : rb_Wd → List Value} {r : rb_Wd → Option Value} (con : rb_Con v y cb nL1 ret1 h1 av σ r σ1) (As : List Value) (hav : av w = As) (hn : As.length = n) (hst : st0 = As.reverse ++ st) (hh : h1 < h ∧ nL1 ≤ 29) (hcat : (st.map fun v => v.category).sum ≤ 8) (hd : decode cc pc = .ok (.invokestatic idx, 3)) (kk : rb_At z v w nL Q (pc + 3) lv ((r w).toList ++ st) σ1) : rb_At z v w nL Q pc lv st0 σ := by
  intro H locs ls hP hS hl
  obtain ⟨c1, c2, c4, c5, c6⟩ := cr
  have hts := hC.2.2.2.2.2.1
  have hM := con z.2.1 w
  rw [hav] at hM
  exact rb_after (va_runS (As := As) (rest := st) (nL := nL) (Ts := rb_tbl) ⟨hC.1, hC.2.1, hC.2.2.2.1, hC.2.2.2.2.1, hts⟩ hM ⟨callB_of n hts (rb_gi c5) rfl rfl rfl (hts _ c4) (hts _ c1) c6 (rb_room hC hh), hts _ c2⟩ ⟨rb_blind hV, fun U hU hW => rb_enter hC hV hP hS U hU hW⟩ rfl hn hl.1 hst (lv_room hcat) hd (rb_zero hC)) hS hl kk
theorem rb_callSN (hC : rb_Cx z v w own cc nL ret h) (hV : rb_Vok v) {idx nL1 n h1 : Nat} {host : String} {y : MethodName} {cb : ByteArray} {ret1 : Option FieldType} (cr : rb_MSN own idx host y cb nL1 ret1 n) {av : rb_Wd → List Value} {r : rb_Wd → Option Value} (con : rb_Con v y cb nL1 ret1 h1 av σ r σ1) (As : List Value) (hav : av w = As) (hn : As.length = n) (hst : st0 = As.reverse ++ st) (hh : h1 < h ∧ nL1 ≤ 29) (hcat : (st.map fun v => v.category).sum ≤ 8) (hd : decode cc pc = .ok (.invokestatic idx, 3)) (kk : rb_At z v w nL Q (pc + 3) lv ((r w).toList ++ st) σ1) : rb_At z v w nL Q pc lv st0 σ := by
  intro H locs ls hP hS hl
  obtain ⟨c1, c2, c4, c5, c6⟩ := cr
  have hts := hC.2.2.2.2.2.1
  have hM := con z.2.1 w
  rw [hav] at hM
  exact rb_after (va_runSN (As := As) (rest := st) (nL := nL) (Ts := rb_tbl) ⟨hC.1, hC.2.1, hC.2.2.2.1, hC.2.2.2.2.1, hts⟩ hM ⟨va_cnB n hts (rb_gi c5) rfl rfl rfl (va_Nw.of rfl (hts _ c1)) (hts _ c4) c6 (rb_room hC hh), hts _ c2, trivial⟩ ⟨rb_blind hV, fun U hU hW => rb_enter hC hV hP hS U hU hW⟩ rfl hn hl.1 hst (lv_room hcat) hd (rb_zero hC)) hS hl kk
end RBC
