/-! THE CLAIM OUT OF ONE WALK OF THE LAW'S BODY. Your part is whole_start (and what it stands on); all else here is the same for every law, but numbers. -/
def R_law : String := "RibbonPoleLaw"
def lw_P (b : Addr) (xs : List Int32) (args : Array Value) (s : State) : Prop := args = #[.ref b] ∧ s.IntsAt b xs ∧ xs.length ≤ 3072 ∧ (Jvm.Cond.and given_1 narrow_1).before args s = true
def lw_Q (_ : Array Value) (s : State) (o : Outcome) (t : State) : Prop := o = .returned (some (.int 1)) ∧ Framed s o t [] 601024 7293034
def lw_Z (below : List Frame) (a : Array Value) (s : State) : State → Prop := fun t => ∃ o, t.status = .running ∧ Ended t below o ∧ lw_Q a s o t
/-- the law's own end, with 1 on the stack, nothing written that was there before, its room as the claim has it -/
theorem lw_ret {p : Program} {l : Launch} {e : Env} {s : State} {m : MethodId} {below : List Frame} {meth : Method} {c : Code} {b : Nat} (hx : p.tables.exec = Jvm.exec) (hb : c.code = code) (hr : meth.sig.returnType = ret) (hlocks : meth.locks = false) {pc : Nat} {H : Heap} {ls : Array Slot} (hdg : decode code pc = .ok (.ireturn, 1)) : W p l e room_1 s m #[Value.ref b] below meth c H [] 601024 7293034 (lw_Z below #[Value.ref b] s) (F0 m pc ls [.int 1]) := by
  intro T hT X
  obtain ⟨fs, hret, hrun, hended, hW, hframe⟩ := X.leave (v := some (.int 1)) (hlocks := hlocks) (fun h => by rw [hr] at h; cases h)
  have hmeth' : T.vm.method? m = some meth := X.method'
  refine ⟨T.setFrames fs, ?_, .returned (some (.int 1)), hrun, hended, rfl, ⟨_, rfl⟩, hW, hframe⟩
  jvm_step X.here [X.here.top, hx, hb, hdg, hmeth', hr, ret, narrow_b1]
  (try refine ⟨rfl, ?_⟩); (try refine ⟨rfl, ?_⟩)
  first | (intro acts; rw [hret _ acts rfl rfl rfl]) | rw [hret _ _ rfl rfl rfl]
  exact Steps.refl _
/-- what holds at the law's entry: the machine, the code, the tables' words (any of lw_tbl by 'hts w (by decide +kernel)'), the script of L ints xs at the cell b, what the Statement gives of the start (any of its parts by flat_of_before) -/
def lw_At (p : Program) (s : State) (m : MethodId) (meth : Method) (c : Code) (b L : Nat) (xs : Nat → Int32) : Prop :=
  p.tables.exec = Jvm.exec ∧ c.code = code ∧ meth.sig.returnType = ret ∧ c.maxLocals = 7 ∧ s.vm.findClass R_law = some m.cls ∧ (∀ w ∈ lw_tbl, w.before #[Value.ref b] s = true) ∧ va_X b L xs s s.heap ∧ b < s.heap.size ∧ meth.locks = false ∧ (Jvm.Cond.and given_1 narrow_1).before #[Value.ref b] s = true
section STW
variable {A : Nat → Prop} {cy : Nat → ClassId} {v1 v2 : rb_Sv} {ad1 ad2 : Nat → Nat} {σ1 σ2 : rb_St} {qo : Nat} {en : va_E}
theorem st_at {v : rb_Sv} {ad : Nat → Nat} {σ : rb_St} {k : Nat} (hk : k < v.2.1) : (rb_wsx v cy ad σ)[k]? = some (ad k, rb_cel cy ad (v.1 k) (σ.1 k) σ.2) := by simp [rb_wsx, hk]
theorem st_len {v : rb_Sv} {ad : Nat → Nat} {σ : rb_St} : (rb_wsx v cy ad σ).length = v.2.1 := by simp [rb_wsx]
theorem st_world (hD : va_D A ((([] ++ rb_wsx v1 cy ad1 σ1) ++ rb_wsx v2 cy ad2 σ2) ++ [(qo, en)])) : (∀ i j, i < v1.2.1 → j < v1.2.1 → ad1 i = ad1 j → i = j) ∧ (∀ i j, i < v2.2.1 → j < v2.2.1 → ad2 i = ad2 j → i = j) ∧ (∀ i j, i < v1.2.1 → j < v2.2.1 → ad1 i ≠ ad2 j) ∧ (∀ i, i < v1.2.1 → ad1 i ≠ qo) ∧ (∀ i, i < v2.2.1 → ad2 i ≠ qo) ∧ (∀ i, i < v1.2.1 → A (ad1 i)) ∧ (∀ i, i < v2.2.1 → A (ad2 i)) ∧ A qo := by
  have l1 : (([] : va_W) ++ rb_wsx v1 cy ad1 σ1).length = v1.2.1 := by rw [List.nil_append, st_len]
  have l2 : ((([] : va_W) ++ rb_wsx v1 cy ad1 σ1) ++ rb_wsx v2 cy ad2 σ2).length = v1.2.1 + v2.2.1 := by rw [List.length_append, l1, st_len]
  have g1 : ∀ i, i < v1.2.1 → ((([] ++ rb_wsx v1 cy ad1 σ1) ++ rb_wsx v2 cy ad2 σ2) ++ [(qo, en)])[i]? = some (ad1 i, rb_cel cy ad1 (v1.1 i) (σ1.1 i) σ1.2) := fun i hi => by
    rw [List.getElem?_append_left (by rw [l2]; omega), List.getElem?_append_left (by rw [l1]; exact hi), List.nil_append, st_at hi]
  have g2 : ∀ i, i < v2.2.1 → ((([] ++ rb_wsx v1 cy ad1 σ1) ++ rb_wsx v2 cy ad2 σ2) ++ [(qo, en)])[v1.2.1 + i]? = some (ad2 i, rb_cel cy ad2 (v2.1 i) (σ2.1 i) σ2.2) := fun i hi => by
    rw [List.getElem?_append_left (by rw [l2]; omega), List.getElem?_append_right (by rw [l1]; omega), l1, Nat.add_sub_cancel_left, st_at hi]
  have g3 : ((([] ++ rb_wsx v1 cy ad1 σ1) ++ rb_wsx v2 cy ad2 σ2) ++ [(qo, en)])[v1.2.1 + v2.2.1]? = some (qo, en) := by
    rw [List.getElem?_append_right (by rw [l2]; omega), l2, Nat.sub_self]
    rfl
  refine ⟨fun i j hi hj e => hD.1 _ _ _ _ (g1 i hi) (g1 j hj) e, fun i j hi hj e => ?_, fun i j hi hj e => ?_, fun i hi e => ?_, fun i hi e => ?_, fun i hi => hD.2 _ _ (g1 i hi), fun i hi => hD.2 _ _ (g2 i hi), hD.2 _ _ g3⟩
  · have := hD.1 _ _ _ _ (g2 i hi) (g2 j hj) e
    omega
  · have := hD.1 _ _ _ _ (g1 i hi) (g2 j hj) e
    omega
  · have := hD.1 _ _ _ _ (g1 i hi) g3 e
    omega
  · have := hD.1 _ _ _ _ (g2 i hi) g3 e
    omega
end STW
set_option maxHeartbeats 4000000 in
theorem whole_at23 {p : Program} {e : Env} {s : State} {m : MethodId} {below : List Frame} {meth : Method} {c : Code} (l : Launch) (hl0 : l.stackTraces = false) {b L : Nat} {xs : Nat → Int32} (hL : L ≤ 3072) (C0 : lw_At p s m meth c b L xs) {D : va_G} {cy : Nat → ClassId} {cA : ClassId} (hK1 : va_K D vwCl (rb_tys cy ++ [(cA, .long)]) s) {ad1 ad2 : Nat → Nat} {qo : Nat} {H : Heap} {locs : List Loc} {ls : Array Slot} (hP : va_P D vwCl ((([] ++ rb_wsx rb_vX cy ad1 rb_s0X) ++ rb_wsx rb_vM cy ad2 rb_s0M) ++ [(qo, .inl (cA, 1, .inr (.inl (fun _ => 0))))]) H) (hD : va_D (fun q => s.heap.size ≤ q) ((([] ++ rb_wsx rb_vX cy ad1 rb_s0X) ++ rb_wsx rb_vM cy ad2 rb_s0M) ++ [(qo, .inl (cA, 1, .inr (.inl (fun _ => 0))))])) (hS : va_S (fun q => s.heap.size ≤ q) s.heap H locs) (hl : lv_has ls 7 [(0, .ref b), (1, .ref (ad1 0)), (2, .ref (ad2 0)), (3, .ref qo), (4, .int (nI 0))]) : W p l e room_1 s m #[Value.ref b] below meth c H locs 348 44614 (lw_Z below #[Value.ref b] s) (F0 m 23 ls []) := by
  obtain ⟨hx, hb, hr, hml, hown, hlw, hX, hbl, hlocks, hgv⟩ := id C0
  have hts : ∀ w ∈ rb_tbl, w.before #[Value.ref b] s = true := fun w hw => hlw w (rb_lw hw)
  obtain ⟨sx, hSF⟩ := st_SFX hgv hlw
  have hTX := st_TX hgv hlw
  obtain ⟨i1, i2, i3, i4, i5, i6, i7, i8⟩ := st_world hD
  have Lx : ∀ j, j ≤ 600 → rb_Lx (p, l, e, room_1, s, m, #[Value.ref b], below, meth, c) (D, cy, ad1, ad2, (fun q => ∃ k, k < rb_vX.2.1 ∧ ad1 k = q), (fun q => ∃ k, k < rb_vM.2.1 ∧ ad2 k = q), sx, qo, cA) b L xs (348 + j) (44614 + 6 * j) := by
    intro j hj
    refine ⟨hx, hb, hr, hml, hown, hts, hlocks, rfl, hK1, ⟨⟨i1, fun k hk => ⟨k, hk, rfl⟩⟩, st_SFXn (hSF D cy ad1) ?_, ⟨i2, fun k hk => ⟨k, hk, rfl⟩⟩⟩, ⟨?_, ?_, i8⟩, ⟨hX, hbl, hL⟩, by omega, by omega⟩
    · rintro q ⟨k, hk, rfl⟩
      exact i6 k hk
    · rintro q ⟨k, hk, rfl⟩
      exact ⟨i6 k hk, fun k2 hk2 e2 => i3 k k2 hk hk2 e2.symm, fun e2 => i4 k hk e2.symm⟩
    · rintro q ⟨k, hk, rfl⟩
      exact ⟨i7 k hk, fun k2 hk2 e2 => i3 k2 k hk2 hk e2, fun e2 => i5 k hk e2.symm⟩
  have hE : ∀ j, j ≤ 600 → ∀ (σ τ : rb_St) (o : Nat → Int64) (i : Nat), rb_LAt (p, l, e, room_1, s, m, #[Value.ref b], below, meth, c) (D, cy, ad1, ad2, (fun q => ∃ k, k < rb_vX.2.1 ∧ ad1 k = q), (fun q => ∃ k, k < rb_vM.2.1 ∧ ad2 k = q), sx, qo, cA) (348 + j) (44614 + 6 * j) (lw_Z below #[Value.ref b] s) 1626 (rb_lv (D, cy, ad1, ad2, (fun q => ∃ k, k < rb_vX.2.1 ∧ ad1 k = q), (fun q => ∃ k, k < rb_vM.2.1 ∧ ad2 k = q), sx, qo, cA) b i) [] σ τ o := by
    intro j hj σ τ o i H locs ls hP hM hO hS hl
    refine lv_iconst (v := 1) hx hb dL_law_1626 (by decide) ?_
    refine va_forget (fun q hq => hS.2.2 q hq) ?_
    refine W.widen (k := 601024) (n := 7293034) (by omega) (by omega) ?_
    exact lw_ret hx hb hr hlocks dL_law_1627
  have K := rb_loop Lx rb_ops rb_ops_dancer hl0 hTX hE (L + 7) 0 0 rb_s0X rb_s0M (fun _ => 0) Rel_0 rfl (by omega) (by omega)
  exact K H locs ls (st_PL (st_PL hP)) (st_PR (st_PL hP)) (st_PR hP) hS hl
set_option maxHeartbeats 4000000 in
theorem whole_start {p : Program} {e : Env} {s : State} {m : MethodId} {below : List Frame} {meth : Method} {c : Code} (l : Launch) (hl0 : l.stackTraces = false) {b L : Nat} {xs : Nat → Int32} (hL : L ≤ 3072) (C0 : lw_At p s m meth c b L xs) : W p l e room_1 s m #[Value.ref b] below meth c s.heap [] 0 0 (lw_Z below #[Value.ref b] s) (entryFrame m ([Value.ref b] : List Value).toArray 7) := by
  obtain ⟨hx, hb, hr, hml, hown, hlw, hX, hbl, hlocks, hgv⟩ := id C0
  have hts : ∀ w ∈ rb_tbl, w.before #[Value.ref b] s = true := fun w hw => hlw w (rb_lw hw)
  have hAO := st_AOs hlw
  obtain ⟨D, cy, hK⟩ := st_K hts hAO
  have KC : rb_Kx (p, l, e, room_1, s, m, #[Value.ref b], below, meth, c) D cy (fun q => s.heap.size ≤ q) := ⟨hx, hb, hml, hown, hts, rfl, hK, fun _ h => h, hAO⟩
  have hl := lv_entry ([.ref b]) (n := 7) (Nat.le_of_ble_eq_true rfl)
  rw [lg_entry_eq]
  generalize (lg_sl ([.ref b]) ++ List.replicate (7 - (lg_sl ([.ref b])).length) Slot.unset).toArray = ls at hl ⊢
  have hl : lv_has ls 7 [(0, .ref b)] := hl
  have main : rb_Bt (p, l, e, room_1, s, m, #[Value.ref b], below, meth, c) D (fun q => s.heap.size ≤ q) 0 0 7 (lw_Z below #[Value.ref b] s) 0 [(0, .ref b)] [] [] := by
    refine rb_k_new KC st_nwX (Nat.le_of_ble_eq_true rfl) (Nat.le_of_ble_eq_true rfl) dL_law_0 (fun x0 => ?_)
    refine rb_k_dup KC dL_law_3 rfl ?_
    refine rb_k_call KC st_miX (xi_X11_init x0) (As := []) rfl rfl ⟨by decide, by decide⟩ (Nat.le_of_ble_eq_true rfl) (Nat.le_of_ble_eq_true rfl) (Nat.le_of_ble_eq_true rfl) dL_law_4 (fun ns1 hn1 => ?_)
    refine rb_k_astore_n KC [(1, .ref x0), (0, .ref b)] dL_law_7 (by decide) rfl ?_
    refine rb_k_new KC st_nwM (Nat.le_of_ble_eq_true rfl) (Nat.le_of_ble_eq_true rfl) dL_law_8 (fun m0 => ?_)
    refine rb_k_dup KC dL_law_11 rfl ?_
    refine rb_k_call KC st_miM (xi_X12_init m0) (As := []) rfl rfl ⟨by decide, by decide⟩ (Nat.le_of_ble_eq_true rfl) (Nat.le_of_ble_eq_true rfl) (Nat.le_of_ble_eq_true rfl) dL_law_12 (fun ns2 hn2 => ?_)
    refine rb_k_astore_n KC [(2, .ref m0), (1, .ref x0), (0, .ref b)] dL_law_15 (by decide) rfl ?_
    intro H locs ls hP hD hS hl
    refine lv_iconst (v := 1) hx hb dL_law_16 (by decide) ?_
    refine va_newa (atype := .long) (ty := .long) (N' := 1) (a0 := (1, .inr (.inl (fun _ => 0)))) hx hb (hts _ st_lawK) rfl hK hP hD hS (fun _ h => h) (fun cA => rfl) (by decide) (by decide) (by decide) (Nat.le_of_ble_eq_true rfl) (Nat.le_of_ble_eq_true rfl) dL_law_17 (fun qo cA H1 hK1 hP1 hD1 hS1 => ?_)
    refine lv_astore_n (lv' := [(3, .ref qo), (2, .ref m0), (1, .ref x0), (0, .ref b)]) hx hb dL_law_19 rfl hl (by decide) rfl (fun ls hl => ?_)
    refine lv_iconst (v := 0) hx hb dL_law_20 (by decide) ?_
    refine lv_istore (lv' := [(4, .int 0), (3, .ref qo), (2, .ref m0), (1, .ref x0), (0, .ref b)]) hx hb dL_law_21 hl (by decide) rfl (fun ls hl => ?_)
    refine W.widen (k := 348) (n := 44614) (Nat.le_of_ble_eq_true rfl) (Nat.le_of_ble_eq_true rfl) ?_
    rw [rb_allM] at hP1 hD1
    exact whole_at23 l hl0 hL C0 hK1 hP1 hD1 hS1 (lv_sub hl [4, 3, 2, 1, 0] rfl)
  exact main s.heap [] ls (fun k q h => by simp at h) ⟨fun i j p q h => by simp at h, fun k q h => by simp at h⟩ va_S.rf hl
