/-! dancer that throws -/
abbrev NSE : String := "java/util/NoSuchElementException"
abbrev NSEs : List String := ["java/lang/RuntimeException", "java/lang/Exception"]
def rmT : Room := { frames := 8, cells := 1, slots := 6, locals := 400 }
def rb_txB : List Cond := [.castable NSE NSE, .declares ⟨"java/lang/RuntimeException", "<init>", "()V"⟩, .declares ⟨"java/lang/Exception", "<init>", "()V"⟩, .declares ⟨"java/lang/Throwable", "<init>", "()V"⟩]
def rb_TX (A : Nat → Prop) (U : State) (H : Heap) : Prop := vx_Zq Bundle.tN "UNASSIGNED_STACK" Bundle.steD A U H ∧ vx_Zq Bundle.tN "SUPPRESSED_SENTINEL" Bundle.listD A U H ∧ ∀ x ∈ rb_txB, va_Nw x U
theorem rb_txB_w {s U : State} (hW : s.WarmedH U.vm) (h : ∀ x ∈ rb_txB, va_Nw x s) : ∀ x ∈ rb_txB, va_Nw x U := by
  intro x hx
  have h7 := h x hx
  simp only [rb_txB, List.mem_cons, List.not_mem_nil, or_false] at hx
  rcases hx with rfl | rfl | rfl | rfl
  · exact va_Nw.warmC hW h7
  · exact va_Nw.warmD hW h7
  · exact va_Nw.warmD hW h7
  · exact va_Nw.warmD hW h7
theorem rb_txB_ot : ∀ x ∈ rb_txB, x.onTables = true := by decide +kernel
theorem rb_TX.go {A : Nat → Prop} {s U : State} {H0 H : Heap} (h : rb_TX A s H0) (hW : s.WarmedH U.vm) (hq : ∀ a : Nat, a < H0.size → ¬ A a → H[a]? = H0[a]?) : rb_TX A U H := ⟨(h.1.moved hW.alike).kept hq, (h.2.1.moved hW.alike).kept hq, rb_txB_w hW h.2.2⟩
theorem rb_TX.narrow {A B : Nat → Prop} {s : State} {H : Heap} (h : rb_TX A s H) (hq : ∀ a, B a → A a) : rb_TX B s H := ⟨h.1.narrow hq, h.2.1.narrow hq, h.2.2⟩
theorem rb_TX.vm {A : Nat → Prop} {s U : State} {H : Heap} (h : rb_TX A s H) (hvm : U.vm = s.vm) : rb_TX A U H := ⟨h.1.moved (by rw [hvm]; exact Vm.Alike.refl _), h.2.1.moved (by rw [hvm]; exact Vm.Alike.refl _), fun x hx => va_tabs (rb_txB_ot x hx) hvm.symm (h.2.2 x hx)⟩
theorem wx_at0 : ∀ w ∈ (vx_at0 RX11 194 NSE NSEs).filter goodWord, w ∈ lw_tbl := by decide +kernel
theorem wx_not : ∀ w ∈ (vx_at0 RX11 194 NSE NSEs).filter (fun w => !goodWord w), w ∈ rb_txB := by decide +kernel
theorem wx_ot : ∀ w ∈ Cond.classLink RX11 192 NSE :: Cond.initialized NSE :: vx_at0 RX11 194 NSE NSEs, vx_ot w = true := by decide +kernel
theorem wx_cl : Cond.classLink RX11 192 NSE ∈ rb_tbl := rb_in (by decide +kernel) (by decide +kernel)
theorem wx_in : Cond.initialized NSE ∈ rb_tbl := rb_in (by decide +kernel) (by decide +kernel)
def rb_thrP (w : rb_Wd) (av : List Value) (σ : rb_St) : Array Value → State → Prop := fun a U => rb_Pc rb_vX w av σ a U ∧ rb_TX (rb_A w) U U.heap
def rb_thrX (w : rb_Wd) (σ : rb_St) : String → State → State → Prop := fun E st t => E = NSE ∧ va_P w.1 vwCl (rb_ws rb_vX w σ) t.heap ∧ va_F (rb_A w) st t
theorem rb_thrP_blind {w : rb_Wd} {av : List Value} {σ : rb_St} : FrameBlind (rb_thrP w av σ) := by
  intro a U g mk q
  exact ⟨rb_blind rb_VokX a U g mk q.1, q.2.vm (U := U.calling g mk a) rfl⟩
set_option maxHeartbeats 4000000 in
theorem xx_RP_dancer (l : Launch) (hl0 : l.stackTraces = false) (w : rb_Wd) (p0 p1 : Int32) (σ : rb_St) (hc : xf_RP_isDancer p0 σ = 0 ∨ p1 < 0 ∨ ¬ p1 ≤ 5) : vx_Met l yX11_dancer (.code yX11_dancer cX11_dancer 3 (some .int) :: rb_tbl) rmT (rb_thrP w [.ref (rb_ad w 0), .int p0, .int p1] σ) (fun _ _ _ _ => False) (rb_thrX w σ) 1 6 (rb_A w) := by
  refine vx_ofW (cc := cX11_dancer) (maxL := 3) (ret := some .int) (by decide) rfl ?_
  intro p e s m args below meth c s₁ B hml ht hv
  obtain ⟨⟨rfl, hP, hK, hI, hV⟩, hT⟩ := hv
  have hts0 := atoms_spec (ws := .code yX11_dancer cX11_dancer 3 (some .int) :: rb_tbl) B.pre
  have hts : ∀ x ∈ rb_tbl, x.before [Value.ref (rb_ad w 0), .int p0, .int p1].toArray s = true := fun x hx => hts0 x (List.mem_cons_of_mem _ hx)
  have hown : s.vm.findClass RX11 = some m.cls := findClass_of_methodNamed B.named
  have hex := B.exec
  have hby := B.bytes
  have hlk := B.notSynchronized
  have thr : ∀ (H : Heap) (locs : List Loc) (ls : Array Slot), va_P w.1 vwCl (rb_ws rb_vX w σ) H → va_S (rb_A w) s.heap H locs → ls.size = 3 → W p l e rmT s m [Value.ref (rb_ad w 0), .int p0, .int p1].toArray below meth c H locs 0 0 (vx_MQ below (fun _ _ _ _ => False) (rb_thrX w σ) [Value.ref (rb_ad w 0), .int p0, .int p1].toArray s 1 6 (rb_A w)) (F0 m 17 ls []) := by
    intro H locs ls hP hS hsz
    refine vx_throw0 (cc := cX11_dancer) (own := RX11) (cls := NSE) (names := NSEs) (ik := 192) (ic := 194) (A := rb_A w) hex hby hl0 hown (by decide +kernel) (by decide +kernel) (hts _ wx_cl) (hts _ wx_in) ?_ wx_ot hT.1 hT.2.1 hS (hsz.trans hml.symm) dX11_dancer_17 dX11_dancer_20 dX11_dancer_21 dX11_dancer_24 (fun x hx => (ht x hx).elim) (by decide) (by decide) (by decide) (by decide) hlk ?_ (fun z hz => hS.2.2 z hz) (by decide) (by decide)
    · exact vx_hat (fun x hx => hts x (rb_in (wx_at0 x hx) (List.mem_filter.mp hx).2)) wx_not (fun x hx => va_tabs (rb_txB_ot x hx) rfl (hT.2.2 x hx))
    · exact fun t _ hz hk => ⟨rfl, hP.kept (fun k q hq => hk q.1 (hP k q hq).lt), ⟨Nat.le_trans hS.1 hz, fun q h1 h2 => (hk q (Nat.lt_of_lt_of_le h1 hS.1)).trans (hS.2.1 q h1 h2)⟩⟩
  have hl := lv_entry [Value.ref (rb_ad w 0), .int p0, .int p1] (n := 3) (Nat.le_of_ble_eq_true rfl)
  rw [lg_entry_eq]
  revert hl
  generalize (lg_sl [Value.ref (rb_ad w 0), .int p0, .int p1] ++ List.replicate (3 - (lg_sl [Value.ref (rb_ad w 0), .int p0, .int p1]).length) Slot.unset).toArray = ls
  intro hl
  have hl2 : lv_has ls 3 [(0, .ref (rb_ad w 0)), (1, .int p0), (2, .int p1)] := hl
  refine lv_aload_n hex hby dX11_dancer_0 rfl (lv_at hl2 0 rfl) ?_
  refine lv_iload_n hex hby dX11_dancer_1 rfl (lv_at hl2 1 rfl) ?_
  obtain ⟨c1, c2, c3, c4, c5, c6⟩ := mv_X11_188
  have con := xc_RP_isDancer p0 σ _ rfl l w
  refine rb_after (z := (p, l, e, rmT, s, m, [Value.ref (rb_ad w 0), .int p0, .int p1].toArray, below, meth, c)) (v := rb_vX) (w := w) (nL := 3) (lv := [(0, .ref (rb_ad w 0)), (1, .int p0), (2, .int p1)]) (r := some (.int (xf_RP_isDancer p0 σ))) (σ1 := σ) (st := []) (va_runV (C := RX11) (As := [.int p0]) (rest := []) (b := rb_ad w 0) (nL := 3) (Ts := rb_tbl) ⟨hex, hby, hml, hown, hts⟩ con ⟨callB_of 1 hts (rb_gi c5) rfl rfl rfl (hts _ c4) (hts _ c1) c6 ⟨Nat.le_of_ble_eq_true rfl, Nat.le_of_ble_eq_true rfl⟩, hts _ c2, hts _ c3⟩ ⟨rb_blind rb_VokX, va_recv hK hP (q := _) rfl (rb_ob_at rb_obX0), fun U hU hW => ⟨rfl, by rw [hU]; exact hP, va_K.moved hW.alike hK, hI, rb_VokX.1 w s U _ _ hW (by rw [hU]; exact fun q _ _ => rfl) hV⟩⟩ rfl rfl hl2.1 rfl (lv_room (by decide)) dX11_dancer_2 ⟨Nat.zero_le _, Nat.zero_le _⟩) va_S.rf hl2 ?_
  intro H locs ls hP hS hl2
  refine lv_if_eq hex hby dX11_dancer_5 (show ((5 : Nat) : Int) + 12 = ((17 : Nat) : Int) by decide) (fun _ => thr H locs ls hP hS hl2.1) (fun d1 => ?_)
  refine lv_iload_n hex hby dX11_dancer_8 rfl (lv_at hl2 2 rfl) ?_
  refine lv_if_lt hex hby dX11_dancer_9 (show ((9 : Nat) : Int) + 8 = ((17 : Nat) : Int) by decide) (fun _ => thr H locs ls hP hS hl2.1) (fun d2 => ?_)
  refine lv_iload_n hex hby dX11_dancer_12 rfl (lv_at hl2 2 rfl) ?_
  refine lv_iconst (v := 5) hex hby dX11_dancer_13 (by decide) ?_
  refine lv_icmp_le hex hby dX11_dancer_14 (show ((14 : Nat) : Int) + 11 = ((25 : Nat) : Int) by decide) (fun d3 => ?_) (fun _ => thr H locs ls hP hS hl2.1)
  rcases hc with h | h | h
  · exact absurd h d1
  · exact absurd h d2
  · exact absurd d3 h
