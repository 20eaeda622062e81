section RBG2
variable {z : rb_Z} {D : va_G} {cy : Nat → ClassId} {A : Nat → Prop} {own : String} {cc : ByteArray} {nL h C S cs sl : Nat} {Q : State → Prop} {pc : Nat} {lv lv2 : List (Nat × Value)} {st : List Value} {ws : va_W}
/-- a field's types, final or not -/
def rb_TyF (own : String) (ci i : Nat) (ty : FieldType) (fin : Bool) : Prop := ∃ (C : String) (T : u_T) (N : Nat) (ty0 : Nat → FieldType), vwCl[ci]? = some (C, T, N) ∧ (∀ k, k < N → parseFieldDescriptor (T k).2.2.1 = some (ty0 k)) ∧ (∀ a, a < N → ∀ b, b < N → a ≠ b → (T a).2.1 ≠ (T b).2.1) ∧ (T i).2.2.2 = fin ∧ (T i).1 = own ∧ parseFieldDescriptor (T i).2.2.1 = some ty
theorem rb_g_put (hC : rb_Bx z D cy A own cc nL h C S) {idx ci i a : Nat} {fs : List Value} {x : Value} {ty : FieldType} {fin : Bool} (j : Nat) (fr : rb_FR own idx ci i) (ft : rb_TyF own ci i ty fin) (he : ws[j]? = some (a, .inr (ci, fs))) (hn : narrow ty x = x) (hfit : fits ty x = true) (hl0 : i < fs.length) (hd : decode cc pc = .ok (.putfield idx, 3)) (kk : rb_Bt z D A cs sl nL Q (pc + 3) lv st (ws.set j (a, .inr (ci, fs.set i x)))) : rb_Bt z D A cs sl nL Q pc lv (x :: .ref a :: st) ws := by
  intro H locs ls hP hD hS hl
  obtain ⟨C', T, N, ref, h1, h2, h3, h4, h5⟩ := fr
  obtain ⟨C2, T2, N2, ty0, g1, g2, g3, g4, g6, g5⟩ := ft
  rw [h1] at g1
  cases g1
  have hts := hC.2.2.2.2.2.1
  have hsame : ∀ x, (rb_s z).fieldFound? (T i).1 (T i).2.1 (T i).2.2.1 = some x → (rb_s z).fieldFound? ref (T i).2.1 (T i).2.2.1 = some x := by
    intro x hx9
    rcases h5 with h5 | h5
    · rw [← h5]; exact hx9
    · exact u_same (hts _ h5) x hx9
  cases fin with
  | false => exact va_put (ref := ref) hC.1 hC.2.1 hts h2 ty0 g2 g3 hC.2.2.2.2.1 hC.2.2.2.2.2.2.2.2.1 hP hD hS j he h1 i h3 (hts _ h4) hsame g4 g5 hn hfit hl0 hd (fun H1 locs1 hP1 hD1 hS1 => kk H1 locs1 ls hP1 hD1 hS1 hl)
  | true => exact va_putF (ref := ref) hC.1 hC.2.1 hts h2 ty0 g2 g3 hC.2.2.2.2.1 hC.2.2.2.2.2.2.2.2.1 hP hD hS j he h1 i h3 (hts _ h4) hsame g4 hC.2.2.2.2.2.2.2.2.2.2 g6 g5 hn hfit hl0 hd (fun H1 locs1 hP1 hD1 hS1 => kk H1 locs1 ls hP1 hD1 hS1 hl)
theorem rb_g_get (hC : rb_Bx z D cy A own cc nL h C S) {idx ci i a : Nat} {fs : List Value} {x : Value} (j : Nat) (fr : rb_FR own idx ci i) (he : ws[j]? = some (a, .inr (ci, fs))) (hx : fs[i]? = some x) (hd : decode cc pc = .ok (.getfield idx, 3)) (kk : rb_Bt z D A cs sl nL Q (pc + 3) lv (x :: st) ws) : rb_Bt z D A cs sl nL Q pc lv (.ref a :: st) ws := by
  intro H locs ls hP hD hS hl
  obtain ⟨C', T, N, ref, h1, h2, h3, h4, h5⟩ := fr
  have hts := hC.2.2.2.2.2.1
  have hsame : ∀ x, (rb_s z).fieldFound? (T i).1 (T i).2.1 (T i).2.2.1 = some x → (rb_s z).fieldFound? ref (T i).2.1 (T i).2.2.1 = some x := by
    intro x hx9
    rcases h5 with h5 | h5
    · rw [← h5]; exact hx9
    · exact u_same (hts _ h5) x hx9
  exact va_get (ref := ref) hC.1 hC.2.1 hts h2 hC.2.2.2.2.1 hC.2.2.2.2.2.2.2.2.1 hP j he h1 i h3 (hts _ h4) hsame hx hd (kk H locs ls hP hD hS hl)
theorem rb_g_aast (hC : rb_Bx z D cy A own cc nL h C S) {t n v ci : Nat} {vs : List Value} {r : vw_C} {f : Nat → Option Nat} {a : Nat} {i : Int32} (j k : Nat) (ha : ws[j]? = some (a, .inl (cy t, n, .inr (.inr (.inr (.inr f)))))) (ht : (rb_tys cy)[t]? = some (cy t, .object r.1)) (hv : ws[k]? = some (v, .inr (ci, vs))) (hc : vwCl[ci]? = some r) (hin : vp_in i n) (hd : decode cc pc = .ok (.aastore, 1)) (kk : rb_Bt z D A cs sl nL Q (pc + 1) lv st (ws.set j (a, .inl (cy t, n, .inr (.inr (.inr (.inr (va_up f i.toNatClampNeg (some v))))))))) : rb_Bt z D A cs sl nL Q pc lv (.ref v :: .int i :: .ref a :: st) ws := by
  intro H locs ls hP hD hS hl
  exact va_astq hC.1 hC.2.1 hC.2.2.2.2.2.2.2.2.1 hP hD hS j t k ci ha ht hv hc hin hd (fun H1 locs1 hP1 hD1 hS1 => kk H1 locs1 ls hP1 hD1 hS1 hl)
theorem rb_jn {A0 : Nat → Prop} {X w1 : va_W} {c : Nat × va_E} {H H1 : Heap} (hP : va_P D vwCl (X ++ [c]) H) (hD : va_D A0 (X ++ [c])) (hk : ∀ q : Nat, q < H.size → ¬ va_A [c] H.size q → H1[q]? = H[q]?) (hF : ∀ q, va_A [c] H.size q → A0 q) (hP1 : va_P D vwCl w1 H1) (hD1 : va_D (va_A [c] H.size) w1) : va_P D vwCl (X ++ w1) H1 ∧ va_D A0 (X ++ w1) := by
  refine va_join (wc := [c]) hP hD [X.length] (List.range X.length) ?_ ?_ ?_ ?_ hk hF hP1 hD1
  · simp
  · apply List.ext_getElem?
    intro i
    by_cases hi : i < X.length
    · simp [hi, List.getElem?_append_left]
    · rw [List.getElem?_eq_none (by simp; omega), List.getElem?_eq_none (by simp; omega)]
  · have : ∀ (l : List Nat), l.Nodup → va_nd l = true := by
      intro l
      induction l with
      | nil => intro _; rfl
      | cons a l ih => intro hn; simp only [List.nodup_cons] at hn; simp [va_nd, hn.1, ih hn.2]
    exact this _ List.nodup_range
  · intro i hi hc
    simp at hi hc
    omega
/-- a constructor's call: by its place in the pool, of a nest mate or not -/
def rb_MI (own : String) (idx : Nat) (y : MethodName) (cb : ByteArray) (nL1 n : Nat) : Prop := Cond.methodLink own idx y ∈ rb_tbl ∧ Cond.instanceMethod y ∈ rb_tbl ∧ Cond.initialized y.cls ∈ rb_tbl ∧ Cond.code y cb nL1 none ∈ rb_tbl ∧ y.name = "<init>" ∧ rb_pn y n
def rb_MIN (own : String) (idx : Nat) (y : MethodName) (cb : ByteArray) (nL1 n : Nat) : Prop := Cond.methodLinkNest own idx y "RibbonPole" ∈ rb_nwI ∧ Cond.instanceMethod y ∈ rb_tbl ∧ Cond.initialized y.cls ∈ rb_tbl ∧ Cond.code y cb nL1 none ∈ rb_tbl ∧ y.name = "<init>" ∧ rb_pn y n
abbrev rb_BPc (D : va_G) (cy : Nat → ClassId) (sz h0 ci : Nat) (av fs : List Value) : Array Value → State → Prop := fun a U => a = av.toArray ∧ U.heap.size = sz ∧ va_P D vwCl [(h0, .inr (ci, fs))] U.heap ∧ va_K D vwCl (rb_tys cy) U ∧ va_D (fun _ => True) [(h0, .inr (ci, fs))] ∧ rb_AOs U
abbrev rb_BQc (D : va_G) (cy : Nat → ClassId) (C h0 ci : Nat) (fs : List Value) (post : (Nat → ClassId) → List Nat → va_W) : Array Value → State → Outcome → State → Prop := fun _ st o t => (∃ ns : List Nat, ns.length = C ∧ va_P D vwCl (post cy ns) t.heap ∧ va_D (va_A [(h0, .inr (ci, fs))] st.heap.size) (post cy ns)) ∧ o = .returned none ∧ va_F (va_A [(h0, .inr (ci, fs))] st.heap.size) st t
theorem rb_last {X : va_W} {c : Nat × va_E} {H : Heap} (hP : va_P D vwCl (X ++ [c]) H) (hD : va_D A (X ++ [c])) : va_P D vwCl [c] H ∧ va_D A [c] := by
  refine ⟨fun k q hk => ?_, fun i j p q hi hj _ => ?_, fun k q hk => ?_⟩
  · cases k with
    | zero => exact hP X.length q (by simpa using hk)
    | succ k => simp at hk
  · cases i with
    | zero => cases j with
      | zero => rfl
      | succ j => simp at hj
    | succ i => simp at hi
  · cases k with
    | zero => exact hD.2 X.length q (by simpa using hk)
    | succ k => simp at hk
theorem rb_g_aft (hC : rb_Bx z D cy A own cc nL h C S) {C1 S1 h0 ci : Nat} {a : Array Value} {fs : List Value} {post : (Nat → ClassId) → List Nat → va_W} {st0 : List Value} {H : Heap} {locs : List Loc} {ls : Array Slot} (hP : va_P D vwCl (ws ++ [(h0, .inr (ci, fs))]) H) (hD : va_D A (ws ++ [(h0, .inr (ci, fs))])) (hS : va_S A (rb_s z).heap H locs) (hl : lv_has ls nL lv)
    (hr : va_Run z.1 z.2.1 z.2.2.1 (rb_R z) (rb_s z) (rb_m z) (rb_a z) (rb_b z) (rb_me z) (rb_c z) H locs cs sl C1 S1 (F0 (rb_m z) pc ls st0) st (rb_BQc D cy C1 h0 ci fs post a) (va_A [(h0, .inr (ci, fs))] H.size)) (kk : ∀ ns : List Nat, ns.length = C1 → rb_Bt z D A (cs + C1) (sl + S1) nL Q (pc + 3) lv st (ws ++ post cy ns)) : rb_WB z H locs cs sl Q (F0 (rb_m z) pc ls st0) := by
  have hDc := (rb_last hP hD).2
  have hF : ∀ q, va_A [(h0, .inr (ci, fs))] H.size q → A q := by
    intro q hq
    rcases hq with ⟨k, e, hk⟩ | hq
    · exact hDc.2 k (q, e) hk
    · exact hC.2.2.2.2.2.2.2.2.2.1 q (Nat.le_trans hS.1 hq)
  intro T hT X
  obtain ⟨v0, st₀, t, T', L, e0, X', hL, e1, e2, ⟨⟨ns, hns, hP1, hD1⟩, hq, hz, hk⟩, stp⟩ := hr T hT X
  cases hq
  rw [e0] at hz hk hD1
  obtain ⟨hP2, hD2⟩ := rb_jn hP hD (H1 := T'.heap) (fun q g1 g2 => by rw [e1]; exact hk q g1 g2) hF (by rw [e1]; exact hP1) hD1
  obtain ⟨t2, a1, b1⟩ := kk ns hns T'.heap (locs ++ L) ls hP2 hD2 ⟨Nat.le_trans hS.1 (by rw [e1]; exact hz), fun q g1 g2 => by rw [e1, hk q (Nat.lt_of_lt_of_le g1 hS.1) (fun z => g2 (hF q z))]; exact hS.2.1 q g1 g2, fun q hq => by
      rcases List.mem_append.mp hq with g | g
      · exact hS.2.2 q g
      · exact hF _ (hL q g)⟩ hl T' rfl X'
  exact ⟨t2, stp t2 a1, b1⟩
theorem rb_bbl {sz h0 ci : Nat} {av fs : List Value} : FrameBlind (rb_BPc D cy sz h0 ci av fs) := by
  intro a U g mk q
  obtain ⟨q0, q1, qP, qK, qD, qA⟩ := q
  exact ⟨q0, q1, qP, va_K.moved (u := U) (U := U.calling g mk a) (Vm.Alike.refl U.vm) qK, qD, rb_AOs.same (s := U) (U := U.calling g mk a) rfl qA⟩
theorem rb_brm {h1 C1 S1 nL1 : Nat} (hC : rb_Bx z D cy A own cc nL h C S) (hh : h1 < h ∧ nL1 ≤ 29) : (rb_rmc h1 C1 S1).frames + 1 ≤ (rb_R z).frames ∧ 8 + (nL1 + 11) + (rb_rmc h1 C1 S1).locals ≤ (rb_R z).locals := by
  rw [hC.2.2.2.2.2.2.2.1]
  show h1 + 1 ≤ h ∧ 8 + (nL1 + 11) + 48 * h1 ≤ 48 * h
  omega
theorem rb_g_call (hC : rb_Bx z D cy A own cc nL h C S) (hAO : rb_AOs (rb_s z)) {idx nL1 n h1 C1 S1 : Nat} {y : MethodName} {cb : ByteArray} (cr : rb_MI own idx y cb nL1 n) {h0 ci : Nat} {As fs : List Value} {post : (Nat → ClassId) → List Nat → va_W} (con : rb_BCon y cb nL1 h1 C1 S1 h0 ci (.ref h0 :: As) fs post) (hn : As.length = n) {st0 : List Value} (hst : st0 = As.reverse ++ .ref h0 :: st) (hh : h1 < h ∧ nL1 ≤ 29) (hcs : cs + C1 ≤ C) (hsl : sl + S1 ≤ S) (hcat : (st.map fun v => v.category).sum ≤ 8) (hd : decode cc pc = .ok (.invokespecial idx, 3)) (kk : ∀ ns : List Nat, ns.length = C1 → rb_Bt z D A (cs + C1) (sl + S1) nL Q (pc + 3) lv st (ws ++ post cy ns)) : rb_Bt z D A cs sl nL Q pc lv st0 (ws ++ [(h0, .inr (ci, fs))]) := by
  intro H locs ls hP hD hS hl
  obtain ⟨c1, c2, c4, c5, c7, c6⟩ := cr
  have hts := hC.2.2.2.2.2.1
  have hR' := hC.2.2.2.2.2.2.2.1
  obtain ⟨hPc, hDc⟩ := rb_last hP hD
  exact rb_g_aft hC hP hD hS hl (va_runI (As := As) (rest := st) (b := h0) (nL := nL) (Ts := rb_tbl) ⟨hC.1, hC.2.1, hC.2.2.2.1, hC.2.2.2.2.1, hts⟩ (con z.2.1 D cy H.size) ⟨callB_of n hts (rb_gi c5) rfl rfl rfl (hts _ c4) (hts _ c1) c6 (rb_brm hC hh), c7, hts _ c2⟩ ⟨rb_bbl, fun U hU hW => ⟨rfl, by rw [hU], by rw [hU]; exact hPc, va_K.moved hW.alike hC.2.2.2.2.2.2.2.2.1, hDc.weaken (fun _ _ _ _ => trivial), rb_AOs.warm hW hAO⟩⟩ rfl hn hl.1 hst (lv_room hcat) hd (by rw [hR']; exact ⟨hcs, hsl⟩)) kk
theorem rb_g_callN (hC : rb_Bx z D cy A own cc nL h C S) (hAO : rb_AOs (rb_s z)) {idx nL1 n h1 C1 S1 : Nat} {y : MethodName} {cb : ByteArray} (cr : rb_MIN own idx y cb nL1 n) {h0 ci : Nat} {As fs : List Value} {post : (Nat → ClassId) → List Nat → va_W} (con : rb_BCon y cb nL1 h1 C1 S1 h0 ci (.ref h0 :: As) fs post) (hn : As.length = n) {st0 : List Value} (hst : st0 = As.reverse ++ .ref h0 :: st) (hh : h1 < h ∧ nL1 ≤ 29) (hcs : cs + C1 ≤ C) (hsl : sl + S1 ≤ S) (hcat : (st.map fun v => v.category).sum ≤ 8) (hd : decode cc pc = .ok (.invokespecial idx, 3)) (kk : ∀ ns : List Nat, ns.length = C1 → rb_Bt z D A (cs + C1) (sl + S1) nL Q (pc + 3) lv st (ws ++ post cy ns)) : rb_Bt z D A cs sl nL Q pc lv st0 (ws ++ [(h0, .inr (ci, fs))]) := by
  intro H locs ls hP hD hS hl
  obtain ⟨c1, c2, c4, c5, c7, c6⟩ := cr
  have hts := hC.2.2.2.2.2.1
  have hR' := hC.2.2.2.2.2.2.2.1
  obtain ⟨hPc, hDc⟩ := rb_last hP hD
  exact rb_g_aft hC hP hD hS hl (va_runIN (As := As) (rest := st) (b := h0) (nL := nL) (Ts := rb_tbl) ⟨hC.1, hC.2.1, hC.2.2.2.1, hC.2.2.2.2.1, hts⟩ (con z.2.1 D cy H.size) ⟨va_cnB n hts (rb_gi c5) rfl rfl rfl (hAO.2.2.2 _ c1) (hts _ c4) c6 (rb_brm hC hh), c7, hts _ c2⟩ ⟨rb_bbl, fun U hU hW => ⟨rfl, by rw [hU], by rw [hU]; exact hPc, va_K.moved hW.alike hC.2.2.2.2.2.2.2.2.1, hDc.weaken (fun _ _ _ _ => trivial), rb_AOs.warm hW hAO⟩⟩ rfl hn hl.1 hst (lv_room hcat) hd (by rw [hR']; exact ⟨hcs, hsl⟩)) kk
/-- the end of a constructor -/
theorem rb_g_ret {h0 ci : Nat} {fs : List Value} {post : (Nat → ClassId) → List Nat → va_W} (hC : rb_Bx z D cy (va_A [(h0, .inr (ci, fs))] (rb_s z).heap.size) own cc nL h C S) (ns : List Nat) (hns : ns.length = C) (hd : decode cc pc = .ok (.return_, 1)) : rb_Bt z D (va_A [(h0, .inr (ci, fs))] (rb_s z).heap.size) C S nL (MQ (rb_b z) (rb_BQc D cy C h0 ci fs post) (rb_a z) (rb_s z) C S (va_A [(h0, .inr (ci, fs))] (rb_s z).heap.size)) pc lv [] (post cy ns) := by
  intro H locs ls hP hD hS hl
  have hlocks := hC.2.2.2.2.2.2.1
  exact W.vret hC.1 hC.2.1 hC.2.2.1 (fun t ht hW => ⟨⟨ns, hns, by rw [ht]; exact hP, hD⟩, rfl, hS.F ht⟩) hS.2.2 hd hlocks
theorem rb_BCon.of {y : MethodName} {cb : ByteArray} {nL1 h1 C1 S1 h0 ci : Nat} {av fs : List Value} {post : (Nat → ClassId) → List Nat → va_W} (hy : plainFor y = true) (hi : y.name = "<init>") (hn : (lg_sl av).length ≤ nL1)
    (body : ∀ (z : rb_Z) (D : va_G) (cy : Nat → ClassId), rb_AOs (rb_s z) → rb_Bx z D cy (va_A [(h0, .inr (ci, fs))] (rb_s z).heap.size) y.cls cb nL1 h1 C1 S1 → rb_Bt z D (va_A [(h0, .inr (ci, fs))] (rb_s z).heap.size) 0 0 nL1 (MQ (rb_b z) (rb_BQc D cy C1 h0 ci fs post) (rb_a z) (rb_s z) C1 S1 (va_A [(h0, .inr (ci, fs))] (rb_s z).heap.size)) 0 (lv_args 0 av) [] [(h0, .inr (ci, fs))]) : rb_BCon y cb nL1 h1 C1 S1 h0 ci av fs post := by
  intro l D cy sz
  refine va_MetF (cc := cb) (maxL := nL1) (ret := none) hy rfl ?_
  intro p e s m args below meth c s₁ B hml hv
  obtain ⟨rfl, rfl, hP, hK, hD, hA⟩ := hv
  have hts := atoms_spec (ws := .code y cb nL1 none :: rb_tbl) B.pre
  have hown : s.vm.findClass y.cls = some m.cls := findClass_of_methodNamed B.named
  have hl := lv_entry av (n := nL1) hn
  rw [lg_entry_eq]
  exact body (p, l, e, rb_rmc h1 C1 S1, s, m, av.toArray, below, meth, c) D cy hA ⟨B.exec, B.bytes, B.returns, hml, hown, fun x hx => hts x (List.mem_cons_of_mem _ hx), B.notSynchronized, rfl, hK, fun q hq => Or.inr hq, (name_of_methodNamed B.named B.method).1.trans hi⟩ s.heap [] _ hP hD.self va_S.rf hl
end RBG2
