def xf_M_isFull (p0 : Int32) (σ : rb_St) : Option Int32 := rb_b1 (xf_M_undoes p0 σ) fun r1 => if r1 = (-1) then if (σ.1 17 14) = 40 then some 1 else some 0 else some 0
set_option maxHeartbeats 4000000 in
set_option maxRecDepth 100000 in
theorem xk_M_isFull {z : rb_Z} {w : rb_Wd} (hC : rb_Cx z rb_vM w RX12 cX12_isFull 2 (some .boolean) 4) (p0 : Int32) (σ : rb_St) (r : Int32) (h : xf_M_isFull p0 σ = some r) : rb_At z rb_vM w 2 (rb_Q z rb_vM w (some (.int r)) σ) 0 [(0, .ref (rb_ad w 0)), (1, .int p0)] [] σ := by
  unfold xf_M_isFull at h
  refine rb_aload_n hC 0 dX12_isFull_0 rfl ?_
  refine rb_iload_n hC 1 dX12_isFull_1 rfl ?_
  obtain ⟨r1, q2, h⟩ := rb_b1s h
  refine rb_callVi hC rb_VokM mv_X12_340 (xc_M_undoes p0 σ _ q2) rb_obM0 rfl [.int p0] rfl rfl rfl ⟨Nat.le_of_ble_eq_true rfl, Nat.le_of_ble_eq_true rfl⟩ (Nat.le_of_ble_eq_true rfl) dX12_isFull_2 ?_
  refine rb_iconst (x := (-1)) hC dX12_isFull_5 (by decide) ?_
  refine rb_icmp_ne hC 25 dX12_isFull_6 (by decide) (fun c3 => ?_) (fun c3 => ?_)
  · replace h := rb_ifn c3 h
    refine rb_iconst (x := 0) hC dX12_isFull_25 (by decide) ?_
    cases h
    exact rb_zret hC rfl dX12_isFull_26
  · replace h := rb_ifp c3 h
    refine rb_aload_n hC 0 dX12_isFull_9 rfl ?_
    refine rb_getR hC fr_X12_58_11 rb_obM0 rfl dX12_isFull_10 ?_
    refine rb_bipush (x := 14) hC dX12_isFull_13 (by decide) ?_
    refine rb_iald hC rb_arM17 (rb_ibI (by decide)) dX12_isFull_15 ?_
    refine rb_bipush (x := 40) hC dX12_isFull_16 (by decide) ?_
    refine rb_icmp_ne hC 25 dX12_isFull_18 (by decide) (fun c4 => ?_) (fun c4 => ?_)
    · replace h := rb_ifn c4 h
      refine rb_iconst (x := 0) hC dX12_isFull_25 (by decide) ?_
      cases h
      exact rb_zret hC rfl dX12_isFull_26
    · replace h := rb_ifp c4 h
      refine rb_iconst (x := 1) hC dX12_isFull_21 (by decide) ?_
      refine rb_goto hC 26 dX12_isFull_22 (by decide) ?_
      cases h
      exact rb_zret hC rfl dX12_isFull_26
theorem xc_M_isFull (p0 : Int32) (σ : rb_St) (r : Int32) (h : xf_M_isFull p0 σ = some r) : rb_Con rb_vM yX12_isFull cX12_isFull 2 (some .boolean) 4 (fun w => [.ref (rb_ad w 0), .int p0]) σ (fun _ => (some (.int r))) σ := rb_Con.of (by decide +kernel) (fun _ => Nat.le_of_ble_eq_true rfl) (fun z w hC => xk_M_isFull hC p0 σ r h)
theorem me_X12_isShort : Cond.instanceMethod yX12_isShort ∈ rb_tbl ∧ Cond.selects yX12_isShort.cls yX12_isShort yX12_isShort ∈ rb_tbl ∧ Cond.initialized yX12_isShort.cls ∈ rb_tbl ∧ Cond.code yX12_isShort cX12_isShort 3 (some .boolean) ∈ rb_tbl ∧ rb_pn yX12_isShort 1 := ⟨rb_in (by decide +kernel) (by decide +kernel), rb_in (by decide +kernel) (by decide +kernel), rb_in (by decide +kernel) (by decide +kernel), rb_in (by decide +kernel) (by decide +kernel), by decide +kernel, by decide +kernel, by decide +kernel⟩
theorem mv_X12_346 : rb_MV RX12 346 yX12_isShort cX12_isShort 3 (some .boolean) 1 := ⟨rb_in (by decide +kernel) (by decide +kernel), me_X12_isShort⟩
theorem me_X12_isFull : Cond.instanceMethod yX12_isFull ∈ rb_tbl ∧ Cond.selects yX12_isFull.cls yX12_isFull yX12_isFull ∈ rb_tbl ∧ Cond.initialized yX12_isFull.cls ∈ rb_tbl ∧ Cond.code yX12_isFull cX12_isFull 2 (some .boolean) ∈ rb_tbl ∧ rb_pn yX12_isFull 1 := ⟨rb_in (by decide +kernel) (by decide +kernel), rb_in (by decide +kernel) (by decide +kernel), rb_in (by decide +kernel) (by decide +kernel), rb_in (by decide +kernel) (by decide +kernel), by decide +kernel, by decide +kernel, by decide +kernel⟩
theorem mv_X12_349 : rb_MV RX12 349 yX12_isFull cX12_isFull 2 (some .boolean) 1 := ⟨rb_in (by decide +kernel) (by decide +kernel), me_X12_isFull⟩
def xf_M_canCross (p0 : Int32) (σ : rb_St) : Option (Int32 × rb_St) := rb_b2 (xf_M_isShort p0 σ) fun r3 s1 => if r3 = 0 then rb_b1 (xf_M_isFull p0 s1) fun r5 => if r5 = 0 then some (1, s1) else some (0, s1) else some (0, s1)
set_option maxHeartbeats 4000000 in
set_option maxRecDepth 100000 in
theorem xk_M_canCross {z : rb_Z} {w : rb_Wd} (hC : rb_Cx z rb_vM w RX12 cX12_canCross 2 (some .boolean) 7) (p0 : Int32) (σ : rb_St) (r : Int32) (σ9 : rb_St) (h : xf_M_canCross p0 σ = some (r, σ9)) : rb_At z rb_vM w 2 (rb_Q z rb_vM w (some (.int r)) σ9) 0 [(0, .ref (rb_ad w 0)), (1, .int p0)] [] σ := by
  unfold xf_M_canCross at h
  refine rb_aload_n hC 0 dX12_canCross_0 rfl ?_
  refine rb_iload_n hC 1 dX12_canCross_1 rfl ?_
  obtain ⟨r3, s1, q2, h⟩ := rb_b2s h
  refine rb_callVi hC rb_VokM mv_X12_346 (xc_M_isShort p0 σ _ _ q2) rb_obM0 rfl [.int p0] rfl rfl rfl ⟨Nat.le_of_ble_eq_true rfl, Nat.le_of_ble_eq_true rfl⟩ (Nat.le_of_ble_eq_true rfl) dX12_canCross_2 ?_
  refine rb_if_ne hC 20 dX12_canCross_5 (by decide) (fun c4 => ?_) (fun c4 => ?_)
  · replace h := rb_ifn c4 h
    refine rb_iconst (x := 0) hC dX12_canCross_20 (by decide) ?_
    cases h
    exact rb_zret hC rfl dX12_canCross_21
  · replace h := rb_ifp c4 h
    refine rb_aload_n hC 0 dX12_canCross_8 rfl ?_
    refine rb_iload_n hC 1 dX12_canCross_9 rfl ?_
    obtain ⟨r5, q6, h⟩ := rb_b1s h
    refine rb_callVi hC rb_VokM mv_X12_349 (xc_M_isFull p0 s1 _ q6) rb_obM0 rfl [.int p0] rfl rfl rfl ⟨Nat.le_of_ble_eq_true rfl, Nat.le_of_ble_eq_true rfl⟩ (Nat.le_of_ble_eq_true rfl) dX12_canCross_10 ?_
    refine rb_if_ne hC 20 dX12_canCross_13 (by decide) (fun c7 => ?_) (fun c7 => ?_)
    · replace h := rb_ifn c7 h
      refine rb_iconst (x := 0) hC dX12_canCross_20 (by decide) ?_
      cases h
      exact rb_zret hC rfl dX12_canCross_21
    · replace h := rb_ifp c7 h
      refine rb_iconst (x := 1) hC dX12_canCross_16 (by decide) ?_
      refine rb_goto hC 21 dX12_canCross_17 (by decide) ?_
      cases h
      exact rb_zret hC rfl dX12_canCross_21
theorem xc_M_canCross (p0 : Int32) (σ : rb_St) (r : Int32) (σ9 : rb_St) (h : xf_M_canCross p0 σ = some (r, σ9)) : rb_Con rb_vM yX12_canCross cX12_canCross 2 (some .boolean) 7 (fun w => [.ref (rb_ad w 0), .int p0]) σ (fun _ => (some (.int r))) σ9 := rb_Con.of (by decide +kernel) (fun _ => Nat.le_of_ble_eq_true rfl) (fun z w hC => xk_M_canCross hC p0 σ r σ9 h)
def xf_M_swapAt (p0 : Int32) (σ : rb_St) : Option (rb_St) := if rb_ib (0 + p0) 398 then rb_b1 (xf_M_nextPlace p0 σ) fun r2 => if rb_ib (0 + r2) 398 then rb_lt (rb_sI σ 17 (0 + p0).toNatClampNeg (σ.1 17 (0 + r2).toNatClampNeg)) (fun s5 => rb_b1 (xf_M_nextPlace p0 s5) fun r7 => if rb_ib (0 + r7) 398 then rb_lt (rb_sI s5 17 (0 + r7).toNatClampNeg (σ.1 17 (0 + p0).toNatClampNeg)) (fun s10 => some s10) else none) else none else none
set_option maxHeartbeats 4000000 in
set_option maxRecDepth 100000 in
theorem xk_M_swapAt {z : rb_Z} {w : rb_Wd} (hC : rb_Cx z rb_vM w RX12 cX12_swapAt 3 none 1) (p0 : Int32) (σ : rb_St) (σ9 : rb_St) (h : xf_M_swapAt p0 σ = some σ9) : rb_At z rb_vM w 3 (rb_Q z rb_vM w none σ9) 0 [(0, .ref (rb_ad w 0)), (1, .int p0)] [] σ := by
  unfold xf_M_swapAt at h
  refine rb_aload_n hC 0 dX12_swapAt_0 rfl ?_
  refine rb_getR hC fr_X12_58_11 rb_obM0 rfl dX12_swapAt_1 ?_
  refine rb_iconst (x := 0) hC dX12_swapAt_4 (by decide) ?_
  refine rb_iload_n hC 1 dX12_swapAt_5 rfl ?_
  refine rb_iadd hC dX12_swapAt_6 ?_
  obtain ⟨g1, h⟩ := rb_gd h
  refine rb_iald hC rb_arM17 (rb_ibI g1) dX12_swapAt_7 ?_
  refine rb_istore_n hC [(2, .int (σ.1 17 (0 + p0).toNatClampNeg)), (0, .ref (rb_ad w 0)), (1, .int p0)] dX12_swapAt_8 (by decide) rfl ?_
  refine rb_aload_n hC 1 dX12_swapAt_9 rfl ?_
  refine rb_getR hC fr_X12_58_11 rb_obM0 rfl dX12_swapAt_10 ?_
  refine rb_iconst (x := 0) hC dX12_swapAt_13 (by decide) ?_
  refine rb_iload_n hC 2 dX12_swapAt_14 rfl ?_
  refine rb_iadd hC dX12_swapAt_15 ?_
  refine rb_aload_n hC 1 dX12_swapAt_16 rfl ?_
  refine rb_getR hC fr_X12_58_11 rb_obM0 rfl dX12_swapAt_17 ?_
  refine rb_iconst (x := 0) hC dX12_swapAt_20 (by decide) ?_
  refine rb_aload_n hC 1 dX12_swapAt_21 rfl ?_
  refine rb_iload_n hC 2 dX12_swapAt_22 rfl ?_
  obtain ⟨r2, q3, h⟩ := rb_b1s h
  refine rb_callVi hC rb_VokM mv_X12_308 (xc_M_nextPlace p0 σ _ q3) rb_obM0 rfl [.int p0] rfl rfl rfl ⟨Nat.le_of_ble_eq_true rfl, Nat.le_of_ble_eq_true rfl⟩ (Nat.le_of_ble_eq_true rfl) dX12_swapAt_23 ?_
  refine rb_iadd hC dX12_swapAt_26 ?_
  obtain ⟨g4, h⟩ := rb_gd h
  refine rb_iald hC rb_arM17 (rb_ibI g4) dX12_swapAt_27 ?_
  refine rb_iast hC rb_arM17 (rb_ibI g1) dX12_swapAt_28 ?_
  obtain ⟨s5, e6, h⟩ := rb_ltE h
  refine rb_nmS e6 ?_
  refine rb_aload_n hC 1 dX12_swapAt_29 rfl ?_
  refine rb_getR hC fr_X12_58_11 rb_obM0 rfl dX12_swapAt_30 ?_
  refine rb_iconst (x := 0) hC dX12_swapAt_33 (by decide) ?_
  refine rb_aload_n hC 1 dX12_swapAt_34 rfl ?_
  refine rb_iload_n hC 2 dX12_swapAt_35 rfl ?_
  obtain ⟨r7, q8, h⟩ := rb_b1s h
  refine rb_callVi hC rb_VokM mv_X12_308 (xc_M_nextPlace p0 s5 _ q8) rb_obM0 rfl [.int p0] rfl rfl rfl ⟨Nat.le_of_ble_eq_true rfl, Nat.le_of_ble_eq_true rfl⟩ (Nat.le_of_ble_eq_true rfl) dX12_swapAt_36 ?_
  refine rb_iadd hC dX12_swapAt_39 ?_
  refine rb_iload_n hC 0 dX12_swapAt_40 rfl ?_
  obtain ⟨g9, h⟩ := rb_gd h
  refine rb_iast hC rb_arM17 (rb_ibI g9) dX12_swapAt_41 ?_
  obtain ⟨s10, e11, h⟩ := rb_ltE h
  refine rb_nmS e11 ?_
  cases h
  exact rb_vret hC dX12_swapAt_42
theorem xc_M_swapAt (p0 : Int32) (σ : rb_St) (σ9 : rb_St) (h : xf_M_swapAt p0 σ = some σ9) : rb_Con rb_vM yX12_swapAt cX12_swapAt 3 none 1 (fun w => [.ref (rb_ad w 0), .int p0]) σ (fun _ => none) σ9 := rb_Con.of (by decide +kernel) (fun _ => Nat.le_of_ble_eq_true rfl) (fun z w hC => xk_M_swapAt hC p0 σ σ9 h)
theorem me_X12_swapAt : Cond.instanceMethod yX12_swapAt ∈ rb_tbl ∧ Cond.selects yX12_swapAt.cls yX12_swapAt yX12_swapAt ∈ rb_tbl ∧ Cond.initialized yX12_swapAt.cls ∈ rb_tbl ∧ Cond.code yX12_swapAt cX12_swapAt 3 none ∈ rb_tbl ∧ rb_pn yX12_swapAt 1 := ⟨rb_in (by decide +kernel) (by decide +kernel), rb_in (by decide +kernel) (by decide +kernel), rb_in (by decide +kernel) (by decide +kernel), rb_in (by decide +kernel) (by decide +kernel), by decide +kernel, by decide +kernel, by decide +kernel⟩
theorem mv_X12_352 : rb_MV RX12 352 yX12_swapAt cX12_swapAt 3 none 1 := ⟨rb_in (by decide +kernel) (by decide +kernel), me_X12_swapAt⟩
def xl_M_crossNow_108 (x1 : Int32) (x2 : Int32) : Nat → Int32 → rb_St → Option (rb_St)
  | 0, _, _ => none
  | n + 1, x3, σ => if (15 + (5 * ((σ.1 17 14) - 1))) ≤ x3 then some σ else if rb_ib (x3 + 5) 398 then if rb_ib x3 398 then rb_lt (rb_sI σ 17 x3.toNatClampNeg (σ.1 17 (x3 + 5).toNatClampNeg)) (fun s7 => xl_M_crossNow_108 x1 x2 n (x3 + 1) s7) else none else none
set_option maxHeartbeats 4000000 in
set_option maxRecDepth 100000 in
theorem xt_M_crossNow_108 {z : rb_Z} {w : rb_Wd} {Q : State → Prop} (hC : rb_Cx z rb_vM w RX12 cX12_crossNow 4 (some .boolean) 6) (x1 : Int32) (x2 : Int32) : ∀ (n : Nat) (x3 : Int32) (σ : rb_St) (σ9 : rb_St), xl_M_crossNow_108 x1 x2 n x3 σ = some σ9 → rb_At z rb_vM w 4 Q 146 [(0, .ref (rb_ad w 0)), (1, .int x1), (2, .int x2)] [] σ9 → rb_At z rb_vM w 4 Q 108 [(0, .ref (rb_ad w 0)), (1, .int x1), (2, .int x2), (3, .int x3)] [] σ := by
  intro n
  induction n with
  | zero =>
    intro x3 σ σ9 h hE0
    cases h
  | succ n ih =>
    intro x3 σ σ9 h hE0
    rw [xl_M_crossNow_108] at h
    refine rb_iload_n hC 3 dX12_crossNow_108 rfl ?_
    refine rb_bipush (x := 15) hC dX12_crossNow_109 (by decide) ?_
    refine rb_iconst (x := 5) hC dX12_crossNow_111 (by decide) ?_
    refine rb_aload_n hC 0 dX12_crossNow_112 rfl ?_
    refine rb_getR hC fr_X12_58_11 rb_obM0 rfl dX12_crossNow_113 ?_
    refine rb_bipush (x := 14) hC dX12_crossNow_116 (by decide) ?_
    refine rb_iald hC rb_arM17 (rb_ibI (by decide)) dX12_crossNow_118 ?_
    refine rb_iconst (x := 1) hC dX12_crossNow_119 (by decide) ?_
    refine rb_isub hC dX12_crossNow_120 ?_
    refine rb_imul hC dX12_crossNow_121 ?_
    refine rb_iadd hC dX12_crossNow_122 ?_
    refine rb_icmp_ge hC 146 dX12_crossNow_123 (by decide) (fun c4 => ?_) (fun c4 => ?_)
    · replace h := rb_ifp c4 h
      cases h
      exact rb_sub [0, 1, 2] rfl (hE0)
    · replace h := rb_ifn c4 h
      refine rb_aload_n hC 0 dX12_crossNow_126 rfl ?_
      refine rb_getR hC fr_X12_58_11 rb_obM0 rfl dX12_crossNow_127 ?_
      refine rb_iload_n hC 3 dX12_crossNow_130 rfl ?_
      refine rb_aload_n hC 0 dX12_crossNow_131 rfl ?_
      refine rb_getR hC fr_X12_58_11 rb_obM0 rfl dX12_crossNow_132 ?_
      refine rb_iload_n hC 3 dX12_crossNow_135 rfl ?_
      refine rb_iconst (x := 5) hC dX12_crossNow_136 (by decide) ?_
      refine rb_iadd hC dX12_crossNow_137 ?_
      obtain ⟨g5, h⟩ := rb_gd h
      refine rb_iald hC rb_arM17 (rb_ibI g5) dX12_crossNow_138 ?_
      obtain ⟨g6, h⟩ := rb_gd h
      refine rb_iast hC rb_arM17 (rb_ibI g6) dX12_crossNow_139 ?_
      obtain ⟨s7, e8, h⟩ := rb_ltE h
      refine rb_nmS e8 ?_
      refine rb_iinc hC 3 [(3, .int (x3 + 1)), (0, .ref (rb_ad w 0)), (1, .int x1), (2, .int x2)] dX12_crossNow_140 rfl rfl (by decide) rfl ?_
      refine rb_goto hC 108 dX12_crossNow_143 (by decide) ?_
      exact rb_sub [1, 2, 3, 0] rfl (ih (x3 + 1) s7 _ h hE0)
def xf_M_crossNow (p0 : Int32) (σ : rb_St) : Option (Int32 × rb_St) := rb_b1 (xf_M_undoes p0 σ) fun r1 => if r1 = (-1) then if rb_ib ((15 + (5 * (σ.1 17 14))) + 0) 398 then rb_lt (rb_sI σ 17 ((15 + (5 * (σ.1 17 14))) + 0).toNatClampNeg p0) (fun s17 => rb_b1 (xf_M_overBy p0 s17) fun r19 => if rb_ib ((15 + (5 * (σ.1 17 14))) + 1) 398 then rb_lt (rb_sI s17 17 ((15 + (5 * (σ.1 17 14))) + 1).toNatClampNeg r19) (fun s22 => rb_b1 (xf_M_underBy p0 s22) fun r24 => if rb_ib ((15 + (5 * (σ.1 17 14))) + 2) 398 then rb_lt (rb_sI s22 17 ((15 + (5 * (σ.1 17 14))) + 2).toNatClampNeg r24) (fun s27 => rb_b2 (xf_M_takesBy p0 s27) fun r31 s29 => if rb_ib ((15 + (5 * (σ.1 17 14))) + 3) 398 then rb_lt (rb_sI s29 17 ((15 + (5 * (σ.1 17 14))) + 3).toNatClampNeg r31) (fun s33 => rb_b1 (xf_M_layerAt (p0 / 2) s33) fun r35 => if rb_ib ((15 + (5 * (σ.1 17 14))) + 4) 398 then rb_lt (rb_sI s33 17 ((15 + (5 * (σ.1 17 14))) + 4).toNatClampNeg r35) (fun s38 => rb_lt (rb_sI s38 17 14 ((s38.1 17 14) + 1)) (fun s40 => rb_b1 (xf_M_swapAt (p0 / 2) s40) fun s42 => if r1 = (-1) then some (0, s42) else some (1, s42))) else none) else none) else none) else none) else none else rb_b1 (xl_M_crossNow_108 p0 r1 rb_FU (15 + (5 * r1)) σ) fun s9 => rb_lt (rb_sI s9 17 14 ((s9.1 17 14) - 1)) (fun s11 => rb_b1 (xf_M_swapAt (p0 / 2) s11) fun s13 => if r1 = (-1) then some (0, s13) else some (1, s13))
set_option maxHeartbeats 4000000 in
set_option maxRecDepth 100000 in
theorem xk_M_crossNow {z : rb_Z} {w : rb_Wd} (hC : rb_Cx z rb_vM w RX12 cX12_crossNow 4 (some .boolean) 6) (p0 : Int32) (σ : rb_St) (r : Int32) (σ9 : rb_St) (h : xf_M_crossNow p0 σ = some (r, σ9)) : rb_At z rb_vM w 4 (rb_Q z rb_vM w (some (.int r)) σ9) 0 [(0, .ref (rb_ad w 0)), (1, .int p0)] [] σ := by
  unfold xf_M_crossNow at h
  refine rb_aload_n hC 0 dX12_crossNow_0 rfl ?_
  refine rb_iload_n hC 1 dX12_crossNow_1 rfl ?_
  obtain ⟨r1, q2, h⟩ := rb_b1s h
  refine rb_callVi hC rb_VokM mv_X12_340 (xc_M_undoes p0 σ _ q2) rb_obM0 rfl [.int p0] rfl rfl rfl ⟨Nat.le_of_ble_eq_true rfl, Nat.le_of_ble_eq_true rfl⟩ (Nat.le_of_ble_eq_true rfl) dX12_crossNow_2 ?_
  refine rb_istore_n hC [(2, .int r1), (0, .ref (rb_ad w 0)), (1, .int p0)] dX12_crossNow_5 (by decide) rfl ?_
  refine rb_iload_n hC 0 dX12_crossNow_6 rfl ?_
  refine rb_iconst (x := (-1)) hC dX12_crossNow_7 (by decide) ?_
  refine rb_icmp_ne hC 101 dX12_crossNow_8 (by decide) (fun c3 => ?_) (fun c3 => ?_)
  · replace h := rb_ifn c3 h
    refine rb_bipush (x := 15) hC dX12_crossNow_101 (by decide) ?_
    refine rb_iconst (x := 5) hC dX12_crossNow_103 (by decide) ?_
    refine rb_iload_n hC 0 dX12_crossNow_104 rfl ?_
    refine rb_imul hC dX12_crossNow_105 ?_
    refine rb_iadd hC dX12_crossNow_106 ?_
    refine rb_istore_n hC [(3, .int (15 + (5 * r1))), (2, .int r1), (0, .ref (rb_ad w 0)), (1, .int p0)] dX12_crossNow_107 (by decide) rfl ?_
    obtain ⟨s9, q10, h⟩ := rb_b1s h
    refine rb_sub (lv2 := [(0, .ref (rb_ad w 0)), (1, .int p0), (2, .int r1), (3, .int (15 + (5 * r1)))]) [2, 3, 1, 0] rfl ?_
    refine xt_M_crossNow_108 hC p0 r1 rb_FU (15 + (5 * r1)) σ _ q10 ?_
    refine rb_aload_n hC 0 dX12_crossNow_146 rfl ?_
    refine rb_getR hC fr_X12_58_11 rb_obM0 rfl dX12_crossNow_147 ?_
    refine rb_bipush (x := 14) hC dX12_crossNow_150 (by decide) ?_
    refine rb_dup2_11 hC dX12_crossNow_152 rfl rfl ?_
    refine rb_iald hC rb_arM17 (rb_ibI (by decide)) dX12_crossNow_153 ?_
    refine rb_iconst (x := 1) hC dX12_crossNow_154 (by decide) ?_
    refine rb_isub hC dX12_crossNow_155 ?_
    refine rb_iast hC rb_arM17 (rb_ibI (by decide)) dX12_crossNow_156 ?_
    obtain ⟨s11, e12, h⟩ := rb_ltE h
    refine rb_nmS e12 ?_
    refine rb_aload_n hC 0 dX12_crossNow_157 rfl ?_
    refine rb_iload_n hC 1 dX12_crossNow_158 rfl ?_
    refine rb_iconst (x := 2) hC dX12_crossNow_159 (by decide) ?_
    refine rb_idiv hC dX12_crossNow_160 (by decide) ?_
    obtain ⟨s13, q14, h⟩ := rb_b1s h
    refine rb_callVv hC rb_VokM mv_X12_352 (xc_M_swapAt (p0 / 2) s11 _ q14) rb_obM0 rfl [.int (p0 / 2)] rfl rfl rfl ⟨Nat.le_of_ble_eq_true rfl, Nat.le_of_ble_eq_true rfl⟩ (Nat.le_of_ble_eq_true rfl) dX12_crossNow_161 ?_
    refine rb_iload_n hC 2 dX12_crossNow_164 rfl ?_
    refine rb_iconst (x := (-1)) hC dX12_crossNow_165 (by decide) ?_
    refine rb_icmp_eq hC 173 dX12_crossNow_166 (by decide) (fun c15 => ?_) (fun c15 => ?_)
    · replace h := rb_ifp c15 h
      refine rb_iconst (x := 0) hC dX12_crossNow_173 (by decide) ?_
      cases h
      exact rb_zret hC rfl dX12_crossNow_174
    · replace h := rb_ifn c15 h
      refine rb_iconst (x := 1) hC dX12_crossNow_169 (by decide) ?_
      refine rb_goto hC 174 dX12_crossNow_170 (by decide) ?_
      cases h
      exact rb_zret hC rfl dX12_crossNow_174
  · replace h := rb_ifp c3 h
    refine rb_bipush (x := 15) hC dX12_crossNow_11 (by decide) ?_
    refine rb_iconst (x := 5) hC dX12_crossNow_13 (by decide) ?_
    refine rb_aload_n hC 1 dX12_crossNow_14 rfl ?_
    refine rb_getR hC fr_X12_58_11 rb_obM0 rfl dX12_crossNow_15 ?_
    refine rb_bipush (x := 14) hC dX12_crossNow_18 (by decide) ?_
    refine rb_iald hC rb_arM17 (rb_ibI (by decide)) dX12_crossNow_20 ?_
    refine rb_imul hC dX12_crossNow_21 ?_
    refine rb_iadd hC dX12_crossNow_22 ?_
    refine rb_istore_n hC [(3, .int (15 + (5 * (σ.1 17 14)))), (2, .int r1), (0, .ref (rb_ad w 0)), (1, .int p0)] dX12_crossNow_23 (by decide) rfl ?_
    refine rb_aload_n hC 2 dX12_crossNow_24 rfl ?_
    refine rb_getR hC fr_X12_58_11 rb_obM0 rfl dX12_crossNow_25 ?_
    refine rb_iload_n hC 0 dX12_crossNow_28 rfl ?_
    refine rb_iconst (x := 0) hC dX12_crossNow_29 (by decide) ?_
    refine rb_iadd hC dX12_crossNow_30 ?_
    refine rb_iload_n hC 3 dX12_crossNow_31 rfl ?_
    obtain ⟨g16, h⟩ := rb_gd h
    refine rb_iast hC rb_arM17 (rb_ibI g16) dX12_crossNow_32 ?_
    obtain ⟨s17, e18, h⟩ := rb_ltE h
    refine rb_nmS e18 ?_
    refine rb_aload_n hC 2 dX12_crossNow_33 rfl ?_
    refine rb_getR hC fr_X12_58_11 rb_obM0 rfl dX12_crossNow_34 ?_
    refine rb_iload_n hC 0 dX12_crossNow_37 rfl ?_
    refine rb_iconst (x := 1) hC dX12_crossNow_38 (by decide) ?_
    refine rb_iadd hC dX12_crossNow_39 ?_
    refine rb_aload_n hC 2 dX12_crossNow_40 rfl ?_
    refine rb_iload_n hC 3 dX12_crossNow_41 rfl ?_
    obtain ⟨r19, q20, h⟩ := rb_b1s h
    refine rb_callVi hC rb_VokM mv_X12_322 (xc_M_overBy p0 s17 _ q20) rb_obM0 rfl [.int p0] rfl rfl rfl ⟨Nat.le_of_ble_eq_true rfl, Nat.le_of_ble_eq_true rfl⟩ (Nat.le_of_ble_eq_true rfl) dX12_crossNow_42 ?_
    obtain ⟨g21, h⟩ := rb_gd h
    refine rb_iast hC rb_arM17 (rb_ibI g21) dX12_crossNow_45 ?_
    obtain ⟨s22, e23, h⟩ := rb_ltE h
    refine rb_nmS e23 ?_
    refine rb_aload_n hC 2 dX12_crossNow_46 rfl ?_
    refine rb_getR hC fr_X12_58_11 rb_obM0 rfl dX12_crossNow_47 ?_
    refine rb_iload_n hC 0 dX12_crossNow_50 rfl ?_
    refine rb_iconst (x := 2) hC dX12_crossNow_51 (by decide) ?_
    refine rb_iadd hC dX12_crossNow_52 ?_
    refine rb_aload_n hC 2 dX12_crossNow_53 rfl ?_
    refine rb_iload_n hC 3 dX12_crossNow_54 rfl ?_
    obtain ⟨r24, q25, h⟩ := rb_b1s h
    refine rb_callVi hC rb_VokM mv_X12_325 (xc_M_underBy p0 s22 _ q25) rb_obM0 rfl [.int p0] rfl rfl rfl ⟨Nat.le_of_ble_eq_true rfl, Nat.le_of_ble_eq_true rfl⟩ (Nat.le_of_ble_eq_true rfl) dX12_crossNow_55 ?_
    obtain ⟨g26, h⟩ := rb_gd h
    refine rb_iast hC rb_arM17 (rb_ibI g26) dX12_crossNow_58 ?_
    obtain ⟨s27, e28, h⟩ := rb_ltE h
    refine rb_nmS e28 ?_
    refine rb_aload_n hC 2 dX12_crossNow_59 rfl ?_
    refine rb_getR hC fr_X12_58_11 rb_obM0 rfl dX12_crossNow_60 ?_
    refine rb_iload_n hC 0 dX12_crossNow_63 rfl ?_
    refine rb_iconst (x := 3) hC dX12_crossNow_64 (by decide) ?_
    refine rb_iadd hC dX12_crossNow_65 ?_
    refine rb_aload_n hC 2 dX12_crossNow_66 rfl ?_
    refine rb_iload_n hC 3 dX12_crossNow_67 rfl ?_
    obtain ⟨r31, s29, q30, h⟩ := rb_b2s h
    refine rb_callVi hC rb_VokM mv_X12_337 (xc_M_takesBy p0 s27 _ _ q30) rb_obM0 rfl [.int p0] rfl rfl rfl ⟨Nat.le_of_ble_eq_true rfl, Nat.le_of_ble_eq_true rfl⟩ (Nat.le_of_ble_eq_true rfl) dX12_crossNow_68 ?_
    obtain ⟨g32, h⟩ := rb_gd h
    refine rb_iast hC rb_arM17 (rb_ibI g32) dX12_crossNow_71 ?_
    obtain ⟨s33, e34, h⟩ := rb_ltE h
    refine rb_nmS e34 ?_
    refine rb_aload_n hC 2 dX12_crossNow_72 rfl ?_
    refine rb_getR hC fr_X12_58_11 rb_obM0 rfl dX12_crossNow_73 ?_
    refine rb_iload_n hC 0 dX12_crossNow_76 rfl ?_
    refine rb_iconst (x := 4) hC dX12_crossNow_77 (by decide) ?_
    refine rb_iadd hC dX12_crossNow_78 ?_
    refine rb_aload_n hC 2 dX12_crossNow_79 rfl ?_
    refine rb_iload_n hC 3 dX12_crossNow_80 rfl ?_
    refine rb_iconst (x := 2) hC dX12_crossNow_81 (by decide) ?_
    refine rb_idiv hC dX12_crossNow_82 (by decide) ?_
    obtain ⟨r35, q36, h⟩ := rb_b1s h
    refine rb_callVi hC rb_VokM mv_X12_328 (xc_M_layerAt (p0 / 2) s33 _ q36) rb_obM0 rfl [.int (p0 / 2)] rfl rfl rfl ⟨Nat.le_of_ble_eq_true rfl, Nat.le_of_ble_eq_true rfl⟩ (Nat.le_of_ble_eq_true rfl) dX12_crossNow_83 ?_
    obtain ⟨g37, h⟩ := rb_gd h
    refine rb_iast hC rb_arM17 (rb_ibI g37) dX12_crossNow_86 ?_
    obtain ⟨s38, e39, h⟩ := rb_ltE h
    refine rb_nmS e39 ?_
    refine rb_aload_n hC 2 dX12_crossNow_87 rfl ?_
    refine rb_getR hC fr_X12_58_11 rb_obM0 rfl dX12_crossNow_88 ?_
    refine rb_bipush (x := 14) hC dX12_crossNow_91 (by decide) ?_
    refine rb_dup2_11 hC dX12_crossNow_93 rfl rfl ?_
    refine rb_iald hC rb_arM17 (rb_ibI (by decide)) dX12_crossNow_94 ?_
    refine rb_iconst (x := 1) hC dX12_crossNow_95 (by decide) ?_
    refine rb_iadd hC dX12_crossNow_96 ?_
    refine rb_iast hC rb_arM17 (rb_ibI (by decide)) dX12_crossNow_97 ?_
    obtain ⟨s40, e41, h⟩ := rb_ltE h
    refine rb_nmS e41 ?_
    refine rb_goto hC 157 dX12_crossNow_98 (by decide) ?_
    refine rb_aload_n hC 2 dX12_crossNow_157 rfl ?_
    refine rb_iload_n hC 3 dX12_crossNow_158 rfl ?_
    refine rb_iconst (x := 2) hC dX12_crossNow_159 (by decide) ?_
    refine rb_idiv hC dX12_crossNow_160 (by decide) ?_
    obtain ⟨s42, q43, h⟩ := rb_b1s h
    refine rb_callVv hC rb_VokM mv_X12_352 (xc_M_swapAt (p0 / 2) s40 _ q43) rb_obM0 rfl [.int (p0 / 2)] rfl rfl rfl ⟨Nat.le_of_ble_eq_true rfl, Nat.le_of_ble_eq_true rfl⟩ (Nat.le_of_ble_eq_true rfl) dX12_crossNow_161 ?_
    refine rb_iload_n hC 1 dX12_crossNow_164 rfl ?_
    refine rb_iconst (x := (-1)) hC dX12_crossNow_165 (by decide) ?_
    refine rb_icmp_eq hC 173 dX12_crossNow_166 (by decide) (fun c44 => ?_) (fun c44 => ?_)
    · replace h := rb_ifp c44 h
      refine rb_iconst (x := 0) hC dX12_crossNow_173 (by decide) ?_
      cases h
      exact rb_zret hC rfl dX12_crossNow_174
    · replace h := rb_ifn c44 h
      refine rb_iconst (x := 1) hC dX12_crossNow_169 (by decide) ?_
      refine rb_goto hC 174 dX12_crossNow_170 (by decide) ?_
      cases h
      exact rb_zret hC rfl dX12_crossNow_174
theorem xc_M_crossNow (p0 : Int32) (σ : rb_St) (r : Int32) (σ9 : rb_St) (h : xf_M_crossNow p0 σ = some (r, σ9)) : rb_Con rb_vM yX12_crossNow cX12_crossNow 4 (some .boolean) 6 (fun w => [.ref (rb_ad w 0), .int p0]) σ (fun _ => (some (.int r))) σ9 := rb_Con.of (by decide +kernel) (fun _ => Nat.le_of_ble_eq_true rfl) (fun z w hC => xk_M_crossNow hC p0 σ r σ9 h)
def xj_M_edges_57 (rc : Int32 → Int32 → Option (Int32)) (x1 : Int32) (x2 : Int32) (x3 : Int32) (x5 : Int32) (σ : rb_St) : Option (Int32) := rb_b1 (xf_M_of x3 0 σ) fun r6 => rb_b1 (xf_M_of x5 0 σ) fun r8 => rb_b1 (xf_M_touch (r6 / 2) (r8 / 2) σ) fun r10 => if r10 = 0 then rc 1 (x5 + 1) else rc 0 (x5 + 1)
set_option maxHeartbeats 4000000 in
set_option maxRecDepth 100000 in
theorem xu_M_edges_57 {z : rb_Z} {w : rb_Wd} {Q : State → Prop} (hC : rb_Cx z rb_vM w RX12 cX12_edges 6 (some .int) 2)  (rc : Int32 → Int32 → Option (Int32)) (x1 : Int32) (x2 : Int32) (x3 : Int32) (x5 : Int32) (σ : rb_St) (y4 : Int32) (h : xj_M_edges_57 rc x1 x2 x3 x5 σ = some y4) (hrc : ∀ (b4 : Int32) (b5 : Int32), rc b4 b5 = some y4 → rb_At z rb_vM w 6 Q 21 [(0, .ref (rb_ad w 0)), (1, .int x1), (2, .int x2), (3, .int x3), (4, .int b4), (5, .int b5)] [] σ) (hE0 : rb_At z rb_vM w 6 Q 94 [(0, .ref (rb_ad w 0)), (1, .int x1), (2, .int x2), (3, .int x3), (4, .int y4)] [] σ) : rb_At z rb_vM w 6 Q 57 [(0, .ref (rb_ad w 0)), (1, .int x1), (2, .int x2), (3, .int x3), (5, .int x5)] [] σ := by
  unfold xj_M_edges_57 at h
  refine rb_aload_n hC 0 dX12_edges_57 rfl ?_
  refine rb_aload_n hC 0 dX12_edges_58 rfl ?_
  refine rb_iload_n hC 3 dX12_edges_59 rfl ?_
  refine rb_iconst (x := 0) hC dX12_edges_60 (by decide) ?_
  obtain ⟨r6, q7, h⟩ := rb_b1s h
  refine rb_callVi hC rb_VokM mv_X12_311 (xc_M_of x3 0 σ _ q7) rb_obM0 rfl [.int x3, .int 0] rfl rfl rfl ⟨Nat.le_of_ble_eq_true rfl, Nat.le_of_ble_eq_true rfl⟩ (Nat.le_of_ble_eq_true rfl) dX12_edges_61 ?_
  refine rb_iconst (x := 2) hC dX12_edges_64 (by decide) ?_
  refine rb_idiv hC dX12_edges_65 (by decide) ?_
  refine rb_aload_n hC 0 dX12_edges_66 rfl ?_
  refine rb_iload hC 4 dX12_edges_67 rfl ?_
  refine rb_iconst (x := 0) hC dX12_edges_69 (by decide) ?_
  obtain ⟨r8, q9, h⟩ := rb_b1s h
  refine rb_callVi hC rb_VokM mv_X12_311 (xc_M_of x5 0 σ _ q9) rb_obM0 rfl [.int x5, .int 0] rfl rfl rfl ⟨Nat.le_of_ble_eq_true rfl, Nat.le_of_ble_eq_true rfl⟩ (Nat.le_of_ble_eq_true rfl) dX12_edges_70 ?_
  refine rb_iconst (x := 2) hC dX12_edges_73 (by decide) ?_
  refine rb_idiv hC dX12_edges_74 (by decide) ?_
  obtain ⟨r10, q11, h⟩ := rb_b1s h
  refine rb_callVi hC rb_VokM mv_X12_314 (xc_M_touch (r6 / 2) (r8 / 2) σ _ q11) rb_obM0 rfl [.int (r6 / 2), .int (r8 / 2)] rfl rfl rfl ⟨Nat.le_of_ble_eq_true rfl, Nat.le_of_ble_eq_true rfl⟩ (Nat.le_of_ble_eq_true rfl) dX12_edges_75 ?_
  refine rb_if_ne hC 85 dX12_edges_78 (by decide) (fun c12 => ?_) (fun c12 => ?_)
  · replace h := rb_ifn c12 h
    refine rb_iconst (x := 0) hC dX12_edges_85 (by decide) ?_
    refine rb_istore hC [(4, .int 0), (0, .ref (rb_ad w 0)), (1, .int x1), (2, .int x2), (3, .int x3), (5, .int x5)] dX12_edges_86 (by decide) rfl ?_
    refine rb_iinc hC 5 [(5, .int (x5 + 1)), (4, .int 0), (0, .ref (rb_ad w 0)), (1, .int x1), (2, .int x2), (3, .int x3)] dX12_edges_88 rfl rfl (by decide) rfl ?_
    refine rb_goto hC 21 dX12_edges_91 (by decide) ?_
    exact rb_sub [2, 3, 4, 5, 1, 0] rfl (hrc 0 (x5 + 1) h)
  · replace h := rb_ifp c12 h
    refine rb_iconst (x := 1) hC dX12_edges_81 (by decide) ?_
    refine rb_goto hC 86 dX12_edges_82 (by decide) ?_
    refine rb_istore hC [(4, .int 1), (0, .ref (rb_ad w 0)), (1, .int x1), (2, .int x2), (3, .int x3), (5, .int x5)] dX12_edges_86 (by decide) rfl ?_
    refine rb_iinc hC 5 [(5, .int (x5 + 1)), (4, .int 1), (0, .ref (rb_ad w 0)), (1, .int x1), (2, .int x2), (3, .int x3)] dX12_edges_88 rfl rfl (by decide) rfl ?_
    refine rb_goto hC 21 dX12_edges_91 (by decide) ?_
    exact rb_sub [2, 3, 4, 5, 1, 0] rfl (hrc 1 (x5 + 1) h)
def xl_M_edges_21 (x1 : Int32) (x2 : Int32) (x3 : Int32) (σ : rb_St) : Nat → Int32 → Int32 → Option (Int32)
  | 0, _, _ => none
  | n + 1, x4, x5 => if (σ.1 17 14) ≤ x5 then some x4 else if x4 = 0 then xl_M_edges_21 x1 x2 x3 σ n 0 (x5 + 1) else if x1 = 0 then if x3 ≤ x5 then xl_M_edges_21 x1 x2 x3 σ n 1 (x5 + 1) else xj_M_edges_57 (fun b4 b5 => xl_M_edges_21 x1 x2 x3 σ n b4 b5) x1 x2 x3 x5 σ else if x3 < x5 then xj_M_edges_57 (fun b4 b5 => xl_M_edges_21 x1 x2 x3 σ n b4 b5) x1 x2 x3 x5 σ else xl_M_edges_21 x1 x2 x3 σ n 1 (x5 + 1)
set_option maxHeartbeats 4000000 in
set_option maxRecDepth 100000 in
theorem xt_M_edges_21 {z : rb_Z} {w : rb_Wd} {Q : State → Prop} (hC : rb_Cx z rb_vM w RX12 cX12_edges 6 (some .int) 2) (x1 : Int32) (x2 : Int32) (x3 : Int32) (σ : rb_St) : ∀ (n : Nat) (x4 : Int32) (x5 : Int32) (y4 : Int32), xl_M_edges_21 x1 x2 x3 σ n x4 x5 = some y4 → rb_At z rb_vM w 6 Q 94 [(0, .ref (rb_ad w 0)), (1, .int x1), (2, .int x2), (3, .int x3), (4, .int y4)] [] σ → rb_At z rb_vM w 6 Q 21 [(0, .ref (rb_ad w 0)), (1, .int x1), (2, .int x2), (3, .int x3), (4, .int x4), (5, .int x5)] [] σ := by
  intro n
  induction n with
  | zero =>
    intro x4 x5 y4 h hE0
    cases h
  | succ n ih =>
    intro x4 x5 y4 h hE0
    rw [xl_M_edges_21] at h
    refine rb_iload hC 5 dX12_edges_21 rfl ?_
    refine rb_aload_n hC 0 dX12_edges_23 rfl ?_
    refine rb_getR hC fr_X12_58_11 rb_obM0 rfl dX12_edges_24 ?_
    refine rb_bipush (x := 14) hC dX12_edges_27 (by decide) ?_
    refine rb_iald hC rb_arM17 (rb_ibI (by decide)) dX12_edges_29 ?_
    refine rb_icmp_ge hC 94 dX12_edges_30 (by decide) (fun c2 => ?_) (fun c2 => ?_)
    · replace h := rb_ifp c2 h
      cases h
      exact rb_sub [0, 1, 2, 3, 4] rfl (hE0)
    · replace h := rb_ifn c2 h
      refine rb_iload hC 4 dX12_edges_33 rfl ?_
      refine rb_if_eq hC 85 dX12_edges_35 (by decide) (fun c3 => ?_) (fun c3 => ?_)
      · replace h := rb_ifp c3 h
        refine rb_iconst (x := 0) hC dX12_edges_85 (by decide) ?_
        refine rb_istore hC [(4, .int 0), (0, .ref (rb_ad w 0)), (1, .int x1), (2, .int x2), (3, .int x3), (5, .int x5)] dX12_edges_86 (by decide) rfl ?_
        refine rb_iinc hC 5 [(5, .int (x5 + 1)), (4, .int 0), (0, .ref (rb_ad w 0)), (1, .int x1), (2, .int x2), (3, .int x3)] dX12_edges_88 rfl rfl (by decide) rfl ?_
        refine rb_goto hC 21 dX12_edges_91 (by decide) ?_
        exact rb_sub [2, 3, 4, 5, 1, 0] rfl (ih 0 (x5 + 1) _ h hE0)
      · replace h := rb_ifn c3 h
        refine rb_iload_n hC 1 dX12_edges_38 rfl ?_
        refine rb_if_eq hC 51 dX12_edges_39 (by decide) (fun c4 => ?_) (fun c4 => ?_)
        · replace h := rb_ifp c4 h
          refine rb_iload hC 5 dX12_edges_51 rfl ?_
          refine rb_iload_n hC 3 dX12_edges_53 rfl ?_
          refine rb_icmp_ge hC 81 dX12_edges_54 (by decide) (fun c5 => ?_) (fun c5 => ?_)
          · replace h := rb_ifp c5 h
            refine rb_iconst (x := 1) hC dX12_edges_81 (by decide) ?_
            refine rb_goto hC 86 dX12_edges_82 (by decide) ?_
            refine rb_istore hC [(4, .int 1), (0, .ref (rb_ad w 0)), (1, .int x1), (2, .int x2), (3, .int x3), (5, .int x5)] dX12_edges_86 (by decide) rfl ?_
            refine rb_iinc hC 5 [(5, .int (x5 + 1)), (4, .int 1), (0, .ref (rb_ad w 0)), (1, .int x1), (2, .int x2), (3, .int x3)] dX12_edges_88 rfl rfl (by decide) rfl ?_
            refine rb_goto hC 21 dX12_edges_91 (by decide) ?_
            exact rb_sub [2, 3, 4, 5, 1, 0] rfl (ih 1 (x5 + 1) _ h hE0)
          · replace h := rb_ifn c5 h
            exact rb_sub [0, 1, 2, 3, 5] rfl (xu_M_edges_57 hC (fun b4 b5 => xl_M_edges_21 x1 x2 x3 σ n b4 b5) x1 x2 x3 x5 σ _ h (fun b4 b5 hq => ih b4 b5 _ hq hE0) hE0)
        · replace h := rb_ifn c4 h
          refine rb_iload hC 5 dX12_edges_42 rfl ?_
          refine rb_iload_n hC 3 dX12_edges_44 rfl ?_
          refine rb_icmp_gt hC 57 dX12_edges_45 (by decide) (fun c13 => ?_) (fun c13 => ?_)
          · replace h := rb_ifp c13 h
            exact rb_sub [0, 1, 2, 3, 5] rfl (xu_M_edges_57 hC (fun b4 b5 => xl_M_edges_21 x1 x2 x3 σ n b4 b5) x1 x2 x3 x5 σ _ h (fun b4 b5 hq => ih b4 b5 _ hq hE0) hE0)
          · replace h := rb_ifn c13 h
            refine rb_goto hC 81 dX12_edges_48 (by decide) ?_
            refine rb_iconst (x := 1) hC dX12_edges_81 (by decide) ?_
            refine rb_goto hC 86 dX12_edges_82 (by decide) ?_
            refine rb_istore hC [(4, .int 1), (0, .ref (rb_ad w 0)), (1, .int x1), (2, .int x2), (3, .int x3), (5, .int x5)] dX12_edges_86 (by decide) rfl ?_
            refine rb_iinc hC 5 [(5, .int (x5 + 1)), (4, .int 1), (0, .ref (rb_ad w 0)), (1, .int x1), (2, .int x2), (3, .int x3)] dX12_edges_88 rfl rfl (by decide) rfl ?_
            refine rb_goto hC 21 dX12_edges_91 (by decide) ?_
            exact rb_sub [2, 3, 4, 5, 1, 0] rfl (ih 1 (x5 + 1) _ h hE0)
def xl_M_edges_4 (x1 : Int32) (σ : rb_St) : Nat → Int32 → Int32 → Option (Int32)
  | 0, _, _ => none
  | n + 1, x2, x3 => if (σ.1 17 14) ≤ x3 then some x2 else rb_b1 (xl_M_edges_21 x1 x2 x3 σ rb_FU 1 0) fun y14 => if y14 = 0 then xl_M_edges_4 x1 σ n (x2 ||| 0) (x3 + 1) else rb_b1 (xf_M_of x3 0 σ) fun r17 => xl_M_edges_4 x1 σ n (x2 ||| (1 <<< (r17 &&& 31))) (x3 + 1)
set_option maxHeartbeats 4000000 in
set_option maxRecDepth 100000 in
theorem xt_M_edges_4 {z : rb_Z} {w : rb_Wd} {Q : State → Prop} (hC : rb_Cx z rb_vM w RX12 cX12_edges 6 (some .int) 2) (x1 : Int32) (σ : rb_St) : ∀ (n : Nat) (x2 : Int32) (x3 : Int32) (y2 : Int32), xl_M_edges_4 x1 σ n x2 x3 = some y2 → rb_At z rb_vM w 6 Q 120 [(2, .int y2)] [] σ → rb_At z rb_vM w 6 Q 4 [(0, .ref (rb_ad w 0)), (1, .int x1), (2, .int x2), (3, .int x3)] [] σ := by
  intro n
  induction n with
  | zero =>
    intro x2 x3 y2 h hE0
    cases h
  | succ n ih =>
    intro x2 x3 y2 h hE0
    rw [xl_M_edges_4] at h
    refine rb_iload_n hC 3 dX12_edges_4 rfl ?_
    refine rb_aload_n hC 0 dX12_edges_5 rfl ?_
    refine rb_getR hC fr_X12_58_11 rb_obM0 rfl dX12_edges_6 ?_
    refine rb_bipush (x := 14) hC dX12_edges_9 (by decide) ?_
    refine rb_iald hC rb_arM17 (rb_ibI (by decide)) dX12_edges_11 ?_
    refine rb_icmp_ge hC 120 dX12_edges_12 (by decide) (fun c1 => ?_) (fun c1 => ?_)
    · replace h := rb_ifp c1 h
      cases h
      exact rb_sub [2] rfl (hE0)
    · replace h := rb_ifn c1 h
      refine rb_iconst (x := 1) hC dX12_edges_15 (by decide) ?_
      refine rb_istore hC [(4, .int 1), (0, .ref (rb_ad w 0)), (1, .int x1), (2, .int x2), (3, .int x3)] dX12_edges_16 (by decide) rfl ?_
      refine rb_iconst (x := 0) hC dX12_edges_18 (by decide) ?_
      refine rb_istore hC [(5, .int 0), (4, .int 1), (0, .ref (rb_ad w 0)), (1, .int x1), (2, .int x2), (3, .int x3)] dX12_edges_19 (by decide) rfl ?_
      obtain ⟨y14, q15, h⟩ := rb_b1s h
      refine rb_sub (lv2 := [(0, .ref (rb_ad w 0)), (1, .int x1), (2, .int x2), (3, .int x3), (4, .int 1), (5, .int 0)]) [2, 3, 4, 5, 1, 0] rfl ?_
      refine xt_M_edges_21 hC x1 x2 x3 σ rb_FU 1 0 _ q15 ?_
      refine rb_iload_n hC 2 dX12_edges_94 rfl ?_
      refine rb_iload hC 4 dX12_edges_95 rfl ?_
      refine rb_if_eq hC 111 dX12_edges_97 (by decide) (fun c16 => ?_) (fun c16 => ?_)
      · replace h := rb_ifp c16 h
        refine rb_iconst (x := 0) hC dX12_edges_111 (by decide) ?_
        refine rb_ior hC dX12_edges_112 ?_
        refine rb_istore_n hC [(2, .int (x2 ||| 0)), (0, .ref (rb_ad w 0)), (1, .int x1), (3, .int x3), (4, .int y14)] dX12_edges_113 (by decide) rfl ?_
        refine rb_iinc hC 3 [(3, .int (x3 + 1)), (2, .int (x2 ||| 0)), (0, .ref (rb_ad w 0)), (1, .int x1), (4, .int y14)] dX12_edges_114 rfl rfl (by decide) rfl ?_
        refine rb_goto hC 4 dX12_edges_117 (by decide) ?_
        exact rb_sub [2, 3, 1, 0] rfl (ih (x2 ||| 0) (x3 + 1) _ h hE0)
      · replace h := rb_ifn c16 h
        refine rb_iconst (x := 1) hC dX12_edges_100 (by decide) ?_
        refine rb_aload_n hC 0 dX12_edges_101 rfl ?_
        refine rb_iload_n hC 3 dX12_edges_102 rfl ?_
        refine rb_iconst (x := 0) hC dX12_edges_103 (by decide) ?_
        obtain ⟨r17, q18, h⟩ := rb_b1s h
        refine rb_callVi hC rb_VokM mv_X12_311 (xc_M_of x3 0 σ _ q18) rb_obM0 rfl [.int x3, .int 0] rfl rfl rfl ⟨Nat.le_of_ble_eq_true rfl, Nat.le_of_ble_eq_true rfl⟩ (Nat.le_of_ble_eq_true rfl) dX12_edges_104 ?_
        refine rb_ishl hC dX12_edges_107 ?_
        refine rb_goto hC 112 dX12_edges_108 (by decide) ?_
        refine rb_ior hC dX12_edges_112 ?_
        refine rb_istore_n hC [(2, .int (x2 ||| (1 <<< (r17 &&& 31)))), (0, .ref (rb_ad w 0)), (1, .int x1), (3, .int x3), (4, .int y14)] dX12_edges_113 (by decide) rfl ?_
        refine rb_iinc hC 3 [(3, .int (x3 + 1)), (2, .int (x2 ||| (1 <<< (r17 &&& 31)))), (0, .ref (rb_ad w 0)), (1, .int x1), (4, .int y14)] dX12_edges_114 rfl rfl (by decide) rfl ?_
        refine rb_goto hC 4 dX12_edges_117 (by decide) ?_
        exact rb_sub [2, 3, 1, 0] rfl (ih (x2 ||| (1 <<< (r17 &&& 31))) (x3 + 1) _ h hE0)
def xf_M_edges (p0 : Int32) (σ : rb_St) : Option Int32 := rb_b1 (xl_M_edges_4 p0 σ rb_FU 0 0) fun y19 => some y19
set_option maxHeartbeats 4000000 in
set_option maxRecDepth 100000 in
theorem xk_M_edges {z : rb_Z} {w : rb_Wd} (hC : rb_Cx z rb_vM w RX12 cX12_edges 6 (some .int) 2) (p0 : Int32) (σ : rb_St) (r : Int32) (h : xf_M_edges p0 σ = some r) : rb_At z rb_vM w 6 (rb_Q z rb_vM w (some (.int r)) σ) 0 [(0, .ref (rb_ad w 0)), (1, .int p0)] [] σ := by
  unfold xf_M_edges at h
  refine rb_iconst (x := 0) hC dX12_edges_0 (by decide) ?_
  refine rb_istore_n hC [(2, .int 0), (0, .ref (rb_ad w 0)), (1, .int p0)] dX12_edges_1 (by decide) rfl ?_
  refine rb_iconst (x := 0) hC dX12_edges_2 (by decide) ?_
  refine rb_istore_n hC [(3, .int 0), (2, .int 0), (0, .ref (rb_ad w 0)), (1, .int p0)] dX12_edges_3 (by decide) rfl ?_
  obtain ⟨y19, q20, h⟩ := rb_b1s h
  refine rb_sub (lv2 := [(0, .ref (rb_ad w 0)), (1, .int p0), (2, .int 0), (3, .int 0)]) [2, 3, 1, 0] rfl ?_
  refine xt_M_edges_4 hC p0 σ rb_FU 0 0 _ q20 ?_
  refine rb_iload_n hC 0 dX12_edges_120 rfl ?_
  cases h
  exact rb_iret hC dX12_edges_121
theorem xc_M_edges (p0 : Int32) (σ : rb_St) (r : Int32) (h : xf_M_edges p0 σ = some r) : rb_Con rb_vM yX12_edges cX12_edges 6 (some .int) 2 (fun w => [.ref (rb_ad w 0), .int p0]) σ (fun _ => (some (.int r))) σ := rb_Con.of (by decide +kernel) (fun _ => Nat.le_of_ble_eq_true rfl) (fun z w hC => xk_M_edges hC p0 σ r h)
theorem me_X12_edges : Cond.instanceMethod yX12_edges ∈ rb_tbl ∧ Cond.selects yX12_edges.cls yX12_edges yX12_edges ∈ rb_tbl ∧ Cond.initialized yX12_edges.cls ∈ rb_tbl ∧ Cond.code yX12_edges cX12_edges 6 (some .int) ∈ rb_tbl ∧ rb_pn yX12_edges 1 := ⟨rb_in (by decide +kernel) (by decide +kernel), rb_in (by decide +kernel) (by decide +kernel), rb_in (by decide +kernel) (by decide +kernel), rb_in (by decide +kernel) (by decide +kernel), by decide +kernel, by decide +kernel, by decide +kernel⟩
theorem mv_X12_355 : rb_MV RX12 355 yX12_edges cX12_edges 6 (some .int) 1 := ⟨rb_in (by decide +kernel) (by decide +kernel), me_X12_edges⟩
theorem me_J6_numberOfLeadingZeros_0f7a4 : Cond.static yJ6_numberOfLeadingZeros_0f7a4 ∈ rb_tbl ∧ Cond.initialized yJ6_numberOfLeadingZeros_0f7a4.cls ∈ rb_tbl ∧ Cond.code yJ6_numberOfLeadingZeros_0f7a4 cJ6_numberOfLeadingZeros_0f7a4 2 (some .int) ∈ rb_tbl ∧ rb_pn yJ6_numberOfLeadingZeros_0f7a4 1 := ⟨rb_in (by decide +kernel) (by decide +kernel), rb_in (by decide +kernel) (by decide +kernel), rb_in (by decide +kernel) (by decide +kernel), by decide +kernel, by decide +kernel, by decide +kernel⟩
theorem mv_X12_359 : rb_MS RX12 359 yJ6_numberOfLeadingZeros_0f7a4 cJ6_numberOfLeadingZeros_0f7a4 2 (some .int) 1 := ⟨rb_in (by decide +kernel) (by decide +kernel), me_J6_numberOfLeadingZeros_0f7a4⟩
def xf_M_letterDown  (σ : rb_St) : Option Int32 := rb_b1 (xf_M_edges 1 σ) fun r1 => if r1 = 0 then some (-1) else some ((31 - (xf_JI_numberOfLeadingZeros r1 σ)) ^^^ 1)
set_option maxHeartbeats 4000000 in
set_option maxRecDepth 100000 in
theorem xk_M_letterDown {z : rb_Z} {w : rb_Wd} (hC : rb_Cx z rb_vM w RX12 cX12_letterDown 2 (some .int) 3)  (σ : rb_St) (r : Int32) (h : xf_M_letterDown σ = some r) : rb_At z rb_vM w 2 (rb_Q z rb_vM w (some (.int r)) σ) 0 [(0, .ref (rb_ad w 0))] [] σ := by
  unfold xf_M_letterDown at h
  refine rb_aload_n hC 0 dX12_letterDown_0 rfl ?_
  refine rb_iconst (x := 1) hC dX12_letterDown_1 (by decide) ?_
  obtain ⟨r1, q2, h⟩ := rb_b1s h
  refine rb_callVi hC rb_VokM mv_X12_355 (xc_M_edges 1 σ _ q2) rb_obM0 rfl [.int 1] rfl rfl rfl ⟨Nat.le_of_ble_eq_true rfl, Nat.le_of_ble_eq_true rfl⟩ (Nat.le_of_ble_eq_true rfl) dX12_letterDown_2 ?_
  refine rb_istore_n hC [(1, .int r1), (0, .ref (rb_ad w 0))] dX12_letterDown_5 (by decide) rfl ?_
  refine rb_iload_n hC 0 dX12_letterDown_6 rfl ?_
  refine rb_if_ne hC 14 dX12_letterDown_7 (by decide) (fun c3 => ?_) (fun c3 => ?_)
  · replace h := rb_ifn c3 h
    refine rb_bipush (x := 31) hC dX12_letterDown_14 (by decide) ?_
    refine rb_iload_n hC 0 dX12_letterDown_16 rfl ?_
    refine rb_callSi hC rb_VokM mv_X12_359 (xc_JI_numberOfLeadingZeros r1 σ _ rfl) [.int r1] rfl rfl rfl ⟨Nat.le_of_ble_eq_true rfl, Nat.le_of_ble_eq_true rfl⟩ (Nat.le_of_ble_eq_true rfl) dX12_letterDown_17 ?_
    refine rb_isub hC dX12_letterDown_20 ?_
    refine rb_iconst (x := 1) hC dX12_letterDown_21 (by decide) ?_
    refine rb_ixor hC dX12_letterDown_22 ?_
    cases h
    exact rb_iret hC dX12_letterDown_23
  · replace h := rb_ifp c3 h
    refine rb_iconst (x := (-1)) hC dX12_letterDown_10 (by decide) ?_
    refine rb_goto hC 23 dX12_letterDown_11 (by decide) ?_
    cases h
    exact rb_iret hC dX12_letterDown_23
theorem xc_M_letterDown  (σ : rb_St) (r : Int32) (h : xf_M_letterDown σ = some r) : rb_Con rb_vM yX12_letterDown cX12_letterDown 2 (some .int) 3 (fun w => [.ref (rb_ad w 0)]) σ (fun _ => (some (.int r))) σ := rb_Con.of (by decide +kernel) (fun _ => Nat.le_of_ble_eq_true rfl) (fun z w hC => xk_M_letterDown hC  σ r h)
def xf_M_isOver  (σ : rb_St) : Int32 := if (σ.1 17 216) < 999 then 0 else 1
set_option maxHeartbeats 4000000 in
set_option maxRecDepth 100000 in
theorem xk_M_isOver {z : rb_Z} {w : rb_Wd} (hC : rb_Cx z rb_vM w RX12 cX12_isOver 1 (some .boolean) 0)  (σ : rb_St) (r : Int32) (h : xf_M_isOver σ = r) : rb_At z rb_vM w 1 (rb_Q z rb_vM w (some (.int r)) σ) 0 [(0, .ref (rb_ad w 0))] [] σ := by
  unfold xf_M_isOver at h
  refine rb_aload_n hC 0 dX12_isOver_0 rfl ?_
  refine rb_getR hC fr_X12_58_11 rb_obM0 rfl dX12_isOver_1 ?_
  refine rb_sipush (x := 216) hC dX12_isOver_4 (by decide) ?_
  refine rb_iald hC rb_arM17 (rb_ibI (by decide)) dX12_isOver_7 ?_
  refine rb_sipush (x := 999) hC dX12_isOver_8 (by decide) ?_
  refine rb_icmp_lt hC 18 dX12_isOver_11 (by decide) (fun c1 => ?_) (fun c1 => ?_)
  · replace h := rb_ifp c1 h
    refine rb_iconst (x := 0) hC dX12_isOver_18 (by decide) ?_
    subst h
    exact rb_zret hC rfl dX12_isOver_19
  · replace h := rb_ifn c1 h
    refine rb_iconst (x := 1) hC dX12_isOver_14 (by decide) ?_
    refine rb_goto hC 19 dX12_isOver_15 (by decide) ?_
    subst h
    exact rb_zret hC rfl dX12_isOver_19
theorem xc_M_isOver  (σ : rb_St) (r : Int32) (h : xf_M_isOver σ = r) : rb_Con rb_vM yX12_isOver cX12_isOver 1 (some .boolean) 0 (fun w => [.ref (rb_ad w 0)]) σ (fun _ => (some (.int r))) σ := rb_Con.of (by decide +kernel) (fun _ => Nat.le_of_ble_eq_true rfl) (fun z w hC => xk_M_isOver hC  σ r h)
theorem me_X12_crossNow : Cond.instanceMethod yX12_crossNow ∈ rb_tbl ∧ Cond.selects yX12_crossNow.cls yX12_crossNow yX12_crossNow ∈ rb_tbl ∧ Cond.initialized yX12_crossNow.cls ∈ rb_tbl ∧ Cond.code yX12_crossNow cX12_crossNow 4 (some .boolean) ∈ rb_tbl ∧ rb_pn yX12_crossNow 1 := ⟨rb_in (by decide +kernel) (by decide +kernel), rb_in (by decide +kernel) (by decide +kernel), rb_in (by decide +kernel) (by decide +kernel), rb_in (by decide +kernel) (by decide +kernel), by decide +kernel, by decide +kernel, by decide +kernel⟩
theorem mv_X12_364 : rb_MV RX12 364 yX12_crossNow cX12_crossNow 4 (some .boolean) 1 := ⟨rb_in (by decide +kernel) (by decide +kernel), me_X12_crossNow⟩
def xj_M_live_47 (x2 : Int32) (u0 : Int32) (u1 : Int32) (u2 : Int32) (u3 : Int32) (σ : rb_St) : Option (Int32 × rb_St) := if rb_ib u3 398 then rb_lt (rb_sI σ 17 u3.toNatClampNeg (rb_mn u2 (u1 + u0))) (fun s4 => rb_lt (rb_sI s4 17 216 ((s4.1 17 216) + 1)) (fun s6 => if x2 = 0 then some (0, s6) else some (1, s6))) else none
set_option maxHeartbeats 4000000 in
set_option maxRecDepth 100000 in
theorem xu_M_live_47 {z : rb_Z} {w : rb_Wd} (hC : rb_Cx z rb_vM w RX12 cX12_live 3 (some .int) 7) (x2 : Int32) (u0 : Int32) (u1 : Int32) (u2 : Int32) (u3 : Int32) (σ : rb_St) (r : Int32) (σ9 : rb_St) (h : xj_M_live_47 x2 u0 u1 u2 u3 σ = some (r, σ9)) : rb_At z rb_vM w 3 (rb_Q z rb_vM w (some (.int r)) σ9) 47 [(0, .ref (rb_ad w 0)), (2, .int x2)] [.int u0, .int u1, .int u2, .int u3, .ref (rb_ad w 17)] σ := by
  unfold xj_M_live_47 at h
  refine rb_iadd hC dX12_live_47 ?_
  refine rb_mmin hC mk_X12_260 ⟨Nat.le_of_ble_eq_true rfl, Nat.le_of_ble_eq_true rfl⟩ dX12_live_48 ?_
  obtain ⟨g3, h⟩ := rb_gd h
  refine rb_iast hC rb_arM17 (rb_ibI g3) dX12_live_51 ?_
  obtain ⟨s4, e5, h⟩ := rb_ltE h
  refine rb_nmS e5 ?_
  refine rb_aload_n hC 0 dX12_live_52 rfl ?_
  refine rb_getR hC fr_X12_58_11 rb_obM0 rfl dX12_live_53 ?_
  refine rb_sipush (x := 216) hC dX12_live_56 (by decide) ?_
  refine rb_dup2_11 hC dX12_live_59 rfl rfl ?_
  refine rb_iald hC rb_arM17 (rb_ibI (by decide)) dX12_live_60 ?_
  refine rb_iconst (x := 1) hC dX12_live_61 (by decide) ?_
  refine rb_iadd hC dX12_live_62 ?_
  refine rb_iast hC rb_arM17 (rb_ibI (by decide)) dX12_live_63 ?_
  obtain ⟨s6, e7, h⟩ := rb_ltE h
  refine rb_nmS e7 ?_
  refine rb_iload_n hC 1 dX12_live_64 rfl ?_
  refine rb_if_eq hC 72 dX12_live_65 (by decide) (fun c8 => ?_) (fun c8 => ?_)
  · replace h := rb_ifp c8 h
    refine rb_iconst (x := 0) hC dX12_live_72 (by decide) ?_
    cases h
    exact rb_iret hC dX12_live_73
  · replace h := rb_ifn c8 h
    refine rb_iconst (x := 1) hC dX12_live_68 (by decide) ?_
    refine rb_goto hC 73 dX12_live_69 (by decide) ?_
    cases h
    exact rb_iret hC dX12_live_73
def xj_M_live_19 (u0 : Int32) (σ : rb_St) : Option (Int32 × rb_St) := if u0 = 0 then xj_M_live_47 u0 0 (σ.1 17 215) 999 215 σ else xj_M_live_47 u0 1 (σ.1 17 215) 999 215 σ
set_option maxHeartbeats 4000000 in
set_option maxRecDepth 100000 in
theorem xu_M_live_19 {z : rb_Z} {w : rb_Wd} (hC : rb_Cx z rb_vM w RX12 cX12_live 3 (some .int) 7) (u0 : Int32) (σ : rb_St) (r : Int32) (σ9 : rb_St) (h : xj_M_live_19 u0 σ = some (r, σ9)) : rb_At z rb_vM w 3 (rb_Q z rb_vM w (some (.int r)) σ9) 19 [(0, .ref (rb_ad w 0))] [.int u0] σ := by
  unfold xj_M_live_19 at h
  refine rb_istore_n hC [(2, .int u0), (0, .ref (rb_ad w 0))] dX12_live_19 (by decide) rfl ?_
  refine rb_aload_n hC 1 dX12_live_20 rfl ?_
  refine rb_getR hC fr_X12_58_11 rb_obM0 rfl dX12_live_21 ?_
  refine rb_sipush (x := 215) hC dX12_live_24 (by decide) ?_
  refine rb_sipush (x := 999) hC dX12_live_27 (by decide) ?_
  refine rb_aload_n hC 1 dX12_live_30 rfl ?_
  refine rb_getR hC fr_X12_58_11 rb_obM0 rfl dX12_live_31 ?_
  refine rb_sipush (x := 215) hC dX12_live_34 (by decide) ?_
  refine rb_iald hC rb_arM17 (rb_ibI (by decide)) dX12_live_37 ?_
  refine rb_iload_n hC 0 dX12_live_38 rfl ?_
  refine rb_if_eq hC 46 dX12_live_39 (by decide) (fun c2 => ?_) (fun c2 => ?_)
  · replace h := rb_ifp c2 h
    refine rb_iconst (x := 0) hC dX12_live_46 (by decide) ?_
    exact rb_sub [1, 0] rfl (xu_M_live_47 hC u0 0 (σ.1 17 215) 999 215 σ _ _ h)
  · replace h := rb_ifn c2 h
    refine rb_iconst (x := 1) hC dX12_live_42 (by decide) ?_
    refine rb_goto hC 47 dX12_live_43 (by decide) ?_
    exact rb_sub [1, 0] rfl (xu_M_live_47 hC u0 1 (σ.1 17 215) 999 215 σ _ _ h)
def xf_M_live (p0 : Int32) (σ : rb_St) : Option (Int32 × rb_St) := if p0 = 20 then xj_M_live_19 0 σ else rb_b2 (xf_M_crossNow p0 σ) fun r11 s9 => if r11 = 0 then xj_M_live_19 0 s9 else xj_M_live_19 1 s9
set_option maxHeartbeats 4000000 in
set_option maxRecDepth 100000 in
theorem xk_M_live {z : rb_Z} {w : rb_Wd} (hC : rb_Cx z rb_vM w RX12 cX12_live 3 (some .int) 7) (p0 : Int32) (σ : rb_St) (r : Int32) (σ9 : rb_St) (h : xf_M_live p0 σ = some (r, σ9)) : rb_At z rb_vM w 3 (rb_Q z rb_vM w (some (.int r)) σ9) 0 [(0, .ref (rb_ad w 0)), (1, .int p0)] [] σ := by
  unfold xf_M_live at h
  refine rb_iload_n hC 1 dX12_live_0 rfl ?_
  refine rb_bipush (x := 20) hC dX12_live_1 (by decide) ?_
  refine rb_icmp_eq hC 18 dX12_live_3 (by decide) (fun c1 => ?_) (fun c1 => ?_)
  · replace h := rb_ifp c1 h
    refine rb_iconst (x := 0) hC dX12_live_18 (by decide) ?_
    exact rb_sub [0] rfl (xu_M_live_19 hC 0 σ _ _ h)
  · replace h := rb_ifn c1 h
    refine rb_aload_n hC 0 dX12_live_6 rfl ?_
    refine rb_iload_n hC 1 dX12_live_7 rfl ?_
    obtain ⟨r11, s9, q10, h⟩ := rb_b2s h
    refine rb_callVi hC rb_VokM mv_X12_364 (xc_M_crossNow p0 σ _ _ q10) rb_obM0 rfl [.int p0] rfl rfl rfl ⟨Nat.le_of_ble_eq_true rfl, Nat.le_of_ble_eq_true rfl⟩ (Nat.le_of_ble_eq_true rfl) dX12_live_8 ?_
    refine rb_if_eq hC 18 dX12_live_11 (by decide) (fun c12 => ?_) (fun c12 => ?_)
    · replace h := rb_ifp c12 h
      refine rb_iconst (x := 0) hC dX12_live_18 (by decide) ?_
      exact rb_sub [0] rfl (xu_M_live_19 hC 0 s9 _ _ h)
    · replace h := rb_ifn c12 h
      refine rb_iconst (x := 1) hC dX12_live_14 (by decide) ?_
      refine rb_goto hC 19 dX12_live_15 (by decide) ?_
      exact rb_sub [0] rfl (xu_M_live_19 hC 1 s9 _ _ h)
theorem xc_M_live (p0 : Int32) (σ : rb_St) (r : Int32) (σ9 : rb_St) (h : xf_M_live p0 σ = some (r, σ9)) : rb_Con rb_vM yX12_live cX12_live 3 (some .int) 7 (fun w => [.ref (rb_ad w 0), .int p0]) σ (fun _ => (some (.int r))) σ9 := rb_Con.of (by decide +kernel) (fun _ => Nat.le_of_ble_eq_true rfl) (fun z w hC => xk_M_live hC p0 σ r σ9 h)
theorem me_X12_live : Cond.instanceMethod yX12_live ∈ rb_tbl ∧ Cond.selects yX12_live.cls yX12_live yX12_live ∈ rb_tbl ∧ Cond.initialized yX12_live.cls ∈ rb_tbl ∧ Cond.code yX12_live cX12_live 3 (some .int) ∈ rb_tbl ∧ rb_pn yX12_live 1 := ⟨rb_in (by decide +kernel) (by decide +kernel), rb_in (by decide +kernel) (by decide +kernel), rb_in (by decide +kernel) (by decide +kernel), rb_in (by decide +kernel) (by decide +kernel), by decide +kernel, by decide +kernel, by decide +kernel⟩
theorem mv_X12_367 : rb_MV RX12 367 yX12_live cX12_live 3 (some .int) 1 := ⟨rb_in (by decide +kernel) (by decide +kernel), me_X12_live⟩
def xj_M_passBeat_68 (x1 : Int32) (x2 : Int32) (σ : rb_St) : Option (Int32 × rb_St) := if rb_ib (218 + (3 * (σ.1 17 217))) 398 then rb_lt (rb_sI σ 17 (218 + (3 * (σ.1 17 217))).toNatClampNeg x1) (fun s6 => if rb_ib ((218 + (3 * (σ.1 17 217))) + 1) 398 then rb_lt (rb_sI s6 17 ((218 + (3 * (σ.1 17 217))) + 1).toNatClampNeg x2) (fun s9 => if rb_ib ((218 + (3 * (σ.1 17 217))) + 2) 398 then rb_lt (rb_sI s9 17 ((218 + (3 * (σ.1 17 217))) + 2).toNatClampNeg (s9.1 17 14)) (fun s12 => rb_lt (rb_sI s12 17 217 ((s12.1 17 217) + 1)) (fun s14 => some (x2, s14))) else none) else none) else none
set_option maxHeartbeats 4000000 in
set_option maxRecDepth 100000 in
theorem xu_M_passBeat_68 {z : rb_Z} {w : rb_Wd} (hC : rb_Cx z rb_vM w RX12 cX12_passBeat 4 (some .int) 8) (x1 : Int32) (x2 : Int32) (σ : rb_St) (r : Int32) (σ9 : rb_St) (h : xj_M_passBeat_68 x1 x2 σ = some (r, σ9)) : rb_At z rb_vM w 4 (rb_Q z rb_vM w (some (.int r)) σ9) 68 [(0, .ref (rb_ad w 0)), (1, .int x1), (2, .int x2)] [] σ := by
  unfold xj_M_passBeat_68 at h
  refine rb_sipush (x := 218) hC dX12_passBeat_68 (by decide) ?_
  refine rb_iconst (x := 3) hC dX12_passBeat_71 (by decide) ?_
  refine rb_aload_n hC 0 dX12_passBeat_72 rfl ?_
  refine rb_getR hC fr_X12_58_11 rb_obM0 rfl dX12_passBeat_73 ?_
  refine rb_sipush (x := 217) hC dX12_passBeat_76 (by decide) ?_
  refine rb_iald hC rb_arM17 (rb_ibI (by decide)) dX12_passBeat_79 ?_
  refine rb_imul hC dX12_passBeat_80 ?_
  refine rb_iadd hC dX12_passBeat_81 ?_
  refine rb_istore_n hC [(3, .int (218 + (3 * (σ.1 17 217)))), (0, .ref (rb_ad w 0)), (1, .int x1), (2, .int x2)] dX12_passBeat_82 (by decide) rfl ?_
  refine rb_aload_n hC 1 dX12_passBeat_83 rfl ?_
  refine rb_getR hC fr_X12_58_11 rb_obM0 rfl dX12_passBeat_84 ?_
  refine rb_iload_n hC 0 dX12_passBeat_87 rfl ?_
  refine rb_iload_n hC 2 dX12_passBeat_88 rfl ?_
  obtain ⟨g5, h⟩ := rb_gd h
  refine rb_iast hC rb_arM17 (rb_ibI g5) dX12_passBeat_89 ?_
  obtain ⟨s6, e7, h⟩ := rb_ltE h
  refine rb_nmS e7 ?_
  refine rb_aload_n hC 1 dX12_passBeat_90 rfl ?_
  refine rb_getR hC fr_X12_58_11 rb_obM0 rfl dX12_passBeat_91 ?_
  refine rb_iload_n hC 0 dX12_passBeat_94 rfl ?_
  refine rb_iconst (x := 1) hC dX12_passBeat_95 (by decide) ?_
  refine rb_iadd hC dX12_passBeat_96 ?_
  refine rb_iload_n hC 3 dX12_passBeat_97 rfl ?_
  obtain ⟨g8, h⟩ := rb_gd h
  refine rb_iast hC rb_arM17 (rb_ibI g8) dX12_passBeat_98 ?_
  obtain ⟨s9, e10, h⟩ := rb_ltE h
  refine rb_nmS e10 ?_
  refine rb_aload_n hC 1 dX12_passBeat_99 rfl ?_
  refine rb_getR hC fr_X12_58_11 rb_obM0 rfl dX12_passBeat_100 ?_
  refine rb_iload_n hC 0 dX12_passBeat_103 rfl ?_
  refine rb_iconst (x := 2) hC dX12_passBeat_104 (by decide) ?_
  refine rb_iadd hC dX12_passBeat_105 ?_
  refine rb_aload_n hC 1 dX12_passBeat_106 rfl ?_
  refine rb_getR hC fr_X12_58_11 rb_obM0 rfl dX12_passBeat_107 ?_
  refine rb_bipush (x := 14) hC dX12_passBeat_110 (by decide) ?_
  refine rb_iald hC rb_arM17 (rb_ibI (by decide)) dX12_passBeat_112 ?_
  obtain ⟨g11, h⟩ := rb_gd h
  refine rb_iast hC rb_arM17 (rb_ibI g11) dX12_passBeat_113 ?_
  obtain ⟨s12, e13, h⟩ := rb_ltE h
  refine rb_nmS e13 ?_
  refine rb_aload_n hC 1 dX12_passBeat_114 rfl ?_
  refine rb_getR hC fr_X12_58_11 rb_obM0 rfl dX12_passBeat_115 ?_
  refine rb_sipush (x := 217) hC dX12_passBeat_118 (by decide) ?_
  refine rb_dup2_11 hC dX12_passBeat_121 rfl rfl ?_
  refine rb_iald hC rb_arM17 (rb_ibI (by decide)) dX12_passBeat_122 ?_
  refine rb_iconst (x := 1) hC dX12_passBeat_123 (by decide) ?_
  refine rb_iadd hC dX12_passBeat_124 ?_
  refine rb_iast hC rb_arM17 (rb_ibI (by decide)) dX12_passBeat_125 ?_
  obtain ⟨s14, e15, h⟩ := rb_ltE h
  refine rb_nmS e15 ?_
  refine rb_iload_n hC 3 dX12_passBeat_126 rfl ?_
  cases h
  exact rb_iret hC dX12_passBeat_127
def xl_M_passBeat_21 (x1 : Int32) (x2 : Int32) : Nat → Int32 → rb_St → Option (rb_St)
  | 0, _, _ => none
  | n + 1, x3, σ => if 180 ≤ x3 then some σ else if rb_ib (218 + x3) 398 then if rb_ib ((218 + x3) - 3) 398 then rb_lt (rb_sI σ 17 ((218 + x3) - 3).toNatClampNeg (σ.1 17 (218 + x3).toNatClampNeg)) (fun s19 => xl_M_passBeat_21 x1 x2 n (x3 + 1) s19) else none else none
set_option maxHeartbeats 4000000 in
set_option maxRecDepth 100000 in
theorem xt_M_passBeat_21 {z : rb_Z} {w : rb_Wd} {Q : State → Prop} (hC : rb_Cx z rb_vM w RX12 cX12_passBeat 4 (some .int) 8) (x1 : Int32) (x2 : Int32) : ∀ (n : Nat) (x3 : Int32) (σ : rb_St) (σ9 : rb_St), xl_M_passBeat_21 x1 x2 n x3 σ = some σ9 → rb_At z rb_vM w 4 Q 56 [(0, .ref (rb_ad w 0)), (1, .int x1), (2, .int x2)] [] σ9 → rb_At z rb_vM w 4 Q 21 [(0, .ref (rb_ad w 0)), (1, .int x1), (2, .int x2), (3, .int x3)] [] σ := by
  intro n
  induction n with
  | zero =>
    intro x3 σ σ9 h hE0
    cases h
  | succ n ih =>
    intro x3 σ σ9 h hE0
    rw [xl_M_passBeat_21] at h
    refine rb_iload_n hC 3 dX12_passBeat_21 rfl ?_
    refine rb_sipush (x := 180) hC dX12_passBeat_22 (by decide) ?_
    refine rb_icmp_ge hC 56 dX12_passBeat_25 (by decide) (fun c16 => ?_) (fun c16 => ?_)
    · replace h := rb_ifp c16 h
      cases h
      exact rb_sub [0, 1, 2] rfl (hE0)
    · replace h := rb_ifn c16 h
      refine rb_aload_n hC 0 dX12_passBeat_28 rfl ?_
      refine rb_getR hC fr_X12_58_11 rb_obM0 rfl dX12_passBeat_29 ?_
      refine rb_sipush (x := 218) hC dX12_passBeat_32 (by decide) ?_
      refine rb_iload_n hC 3 dX12_passBeat_35 rfl ?_
      refine rb_iadd hC dX12_passBeat_36 ?_
      refine rb_iconst (x := 3) hC dX12_passBeat_37 (by decide) ?_
      refine rb_isub hC dX12_passBeat_38 ?_
      refine rb_aload_n hC 0 dX12_passBeat_39 rfl ?_
      refine rb_getR hC fr_X12_58_11 rb_obM0 rfl dX12_passBeat_40 ?_
      refine rb_sipush (x := 218) hC dX12_passBeat_43 (by decide) ?_
      refine rb_iload_n hC 3 dX12_passBeat_46 rfl ?_
      refine rb_iadd hC dX12_passBeat_47 ?_
      obtain ⟨g17, h⟩ := rb_gd h
      refine rb_iald hC rb_arM17 (rb_ibI g17) dX12_passBeat_48 ?_
      obtain ⟨g18, h⟩ := rb_gd h
      refine rb_iast hC rb_arM17 (rb_ibI g18) dX12_passBeat_49 ?_
      obtain ⟨s19, e20, h⟩ := rb_ltE h
      refine rb_nmS e20 ?_
      refine rb_iinc hC 3 [(3, .int (x3 + 1)), (0, .ref (rb_ad w 0)), (1, .int x1), (2, .int x2)] dX12_passBeat_50 rfl rfl (by decide) rfl ?_
      refine rb_goto hC 21 dX12_passBeat_53 (by decide) ?_
      exact rb_sub [1, 2, 3, 0] rfl (ih (x3 + 1) s19 _ h hE0)
def xf_M_passBeat (p0 : Int32) (σ : rb_St) : Option (Int32 × rb_St) := rb_b2 (xf_M_live p0 σ) fun r3 s1 => if (s1.1 17 217) = 60 then rb_b1 (xl_M_passBeat_21 p0 r3 rb_FU 3 s1) fun s21 => rb_lt (rb_sI s21 17 217 ((s21.1 17 217) - 1)) (fun s23 => xj_M_passBeat_68 p0 r3 s23) else xj_M_passBeat_68 p0 r3 s1
set_option maxHeartbeats 4000000 in
set_option maxRecDepth 100000 in
theorem xk_M_passBeat {z : rb_Z} {w : rb_Wd} (hC : rb_Cx z rb_vM w RX12 cX12_passBeat 4 (some .int) 8) (p0 : Int32) (σ : rb_St) (r : Int32) (σ9 : rb_St) (h : xf_M_passBeat p0 σ = some (r, σ9)) : rb_At z rb_vM w 4 (rb_Q z rb_vM w (some (.int r)) σ9) 0 [(0, .ref (rb_ad w 0)), (1, .int p0)] [] σ := by
  unfold xf_M_passBeat at h
  refine rb_aload_n hC 0 dX12_passBeat_0 rfl ?_
  refine rb_iload_n hC 1 dX12_passBeat_1 rfl ?_
  obtain ⟨r3, s1, q2, h⟩ := rb_b2s h
  refine rb_callVi hC rb_VokM mv_X12_367 (xc_M_live p0 σ _ _ q2) rb_obM0 rfl [.int p0] rfl rfl rfl ⟨Nat.le_of_ble_eq_true rfl, Nat.le_of_ble_eq_true rfl⟩ (Nat.le_of_ble_eq_true rfl) dX12_passBeat_2 ?_
  refine rb_istore_n hC [(2, .int r3), (0, .ref (rb_ad w 0)), (1, .int p0)] dX12_passBeat_5 (by decide) rfl ?_
  refine rb_aload_n hC 1 dX12_passBeat_6 rfl ?_
  refine rb_getR hC fr_X12_58_11 rb_obM0 rfl dX12_passBeat_7 ?_
  refine rb_sipush (x := 217) hC dX12_passBeat_10 (by decide) ?_
  refine rb_iald hC rb_arM17 (rb_ibI (by decide)) dX12_passBeat_13 ?_
  refine rb_bipush (x := 60) hC dX12_passBeat_14 (by decide) ?_
  refine rb_icmp_ne hC 68 dX12_passBeat_16 (by decide) (fun c4 => ?_) (fun c4 => ?_)
  · replace h := rb_ifn c4 h
    exact rb_sub [1, 2, 0] rfl (xu_M_passBeat_68 hC p0 r3 s1 _ _ h)
  · replace h := rb_ifp c4 h
    refine rb_iconst (x := 3) hC dX12_passBeat_19 (by decide) ?_
    refine rb_istore_n hC [(3, .int 3), (2, .int r3), (0, .ref (rb_ad w 0)), (1, .int p0)] dX12_passBeat_20 (by decide) rfl ?_
    obtain ⟨s21, q22, h⟩ := rb_b1s h
    refine rb_sub (lv2 := [(0, .ref (rb_ad w 0)), (1, .int p0), (2, .int r3), (3, .int 3)]) [2, 3, 1, 0] rfl ?_
    refine xt_M_passBeat_21 hC p0 r3 rb_FU 3 s1 _ q22 ?_
    refine rb_aload_n hC 0 dX12_passBeat_56 rfl ?_
    refine rb_getR hC fr_X12_58_11 rb_obM0 rfl dX12_passBeat_57 ?_
    refine rb_sipush (x := 217) hC dX12_passBeat_60 (by decide) ?_
    refine rb_dup2_11 hC dX12_passBeat_63 rfl rfl ?_
    refine rb_iald hC rb_arM17 (rb_ibI (by decide)) dX12_passBeat_64 ?_
    refine rb_iconst (x := 1) hC dX12_passBeat_65 (by decide) ?_
    refine rb_isub hC dX12_passBeat_66 ?_
    refine rb_iast hC rb_arM17 (rb_ibI (by decide)) dX12_passBeat_67 ?_
    obtain ⟨s23, e24, h⟩ := rb_ltE h
    refine rb_nmS e24 ?_
    exact rb_sub [0, 1, 2] rfl (xu_M_passBeat_68 hC p0 r3 s23 _ _ h)
theorem xc_M_passBeat (p0 : Int32) (σ : rb_St) (r : Int32) (σ9 : rb_St) (h : xf_M_passBeat p0 σ = some (r, σ9)) : rb_Con rb_vM yX12_passBeat cX12_passBeat 4 (some .int) 8 (fun w => [.ref (rb_ad w 0), .int p0]) σ (fun _ => (some (.int r))) σ9 := rb_Con.of (by decide +kernel) (fun _ => Nat.le_of_ble_eq_true rfl) (fun z w hC => xk_M_passBeat hC p0 σ r σ9 h)
def xf_M_stepOf (p0 : Int32) (p1 : Int32) (σ : rb_St) : Option Int32 := if rb_ib ((48 * p0) + p1) 336 then rb_lt (σ.1 15 ((48 * p0) + p1).toNatClampNeg) (fun v2 => if (σ.1 0 22) ≤ (v2 / 2) then some 20 else some v2) else none
set_option maxHeartbeats 4000000 in
set_option maxRecDepth 100000 in
theorem xk_M_stepOf {z : rb_Z} {w : rb_Wd} (hC : rb_Cx z rb_vM w RX12 cX12_stepOf 4 (some .int) 0) (p0 : Int32) (p1 : Int32) (σ : rb_St) (r : Int32) (h : xf_M_stepOf p0 p1 σ = some r) : rb_At z rb_vM w 4 (rb_Q z rb_vM w (some (.int r)) σ) 0 [(0, .ref (rb_ad w 0)), (1, .int p0), (2, .int p1)] [] σ := by
  unfold xf_M_stepOf at h
  refine rb_aload_n hC 0 dX12_stepOf_0 rfl ?_
  refine rb_getR hC fr_X12_52_11 rb_obM0 rfl dX12_stepOf_1 ?_
  refine rb_bipush (x := 48) hC dX12_stepOf_4 (by decide) ?_
  refine rb_iload_n hC 1 dX12_stepOf_6 rfl ?_
  refine rb_imul hC dX12_stepOf_7 ?_
  refine rb_iload_n hC 2 dX12_stepOf_8 rfl ?_
  refine rb_iadd hC dX12_stepOf_9 ?_
  obtain ⟨g1, h⟩ := rb_gd h
  refine rb_iald hC rb_arM15 (rb_ibI g1) dX12_stepOf_10 ?_
  obtain ⟨v2, e3, h⟩ := rb_ltE h
  refine rb_nmI e3 ?_
  refine rb_istore_n hC [(3, .int v2), (0, .ref (rb_ad w 0)), (1, .int p0), (2, .int p1)] dX12_stepOf_11 (by decide) rfl ?_
  refine rb_iload_n hC 0 dX12_stepOf_12 rfl ?_
  refine rb_iconst (x := 2) hC dX12_stepOf_13 (by decide) ?_
  refine rb_idiv hC dX12_stepOf_14 (by decide) ?_
  refine rb_aload_n hC 1 dX12_stepOf_15 rfl ?_
  refine rb_getI hC fr_X12_283_11 rb_obM0 rfl dX12_stepOf_16 ?_
  refine rb_icmp_ge hC 26 dX12_stepOf_19 (by decide) (fun c4 => ?_) (fun c4 => ?_)
  · replace h := rb_ifp c4 h
    refine rb_bipush (x := 20) hC dX12_stepOf_26 (by decide) ?_
    cases h
    exact rb_iret hC dX12_stepOf_28
  · replace h := rb_ifn c4 h
    refine rb_iload_n hC 0 dX12_stepOf_22 rfl ?_
    refine rb_goto hC 28 dX12_stepOf_23 (by decide) ?_
    cases h
    exact rb_iret hC dX12_stepOf_28
theorem xc_M_stepOf (p0 : Int32) (p1 : Int32) (σ : rb_St) (r : Int32) (h : xf_M_stepOf p0 p1 σ = some r) : rb_Con rb_vM yX12_stepOf cX12_stepOf 4 (some .int) 0 (fun w => [.ref (rb_ad w 0), .int p0, .int p1]) σ (fun _ => (some (.int r))) σ := rb_Con.of (by decide +kernel) (fun _ => Nat.le_of_ble_eq_true rfl) (fun z w hC => xk_M_stepOf hC p0 p1 σ r h)
theorem me_X12_canCross : Cond.instanceMethod yX12_canCross ∈ rb_tbl ∧ Cond.selects yX12_canCross.cls yX12_canCross yX12_canCross ∈ rb_tbl ∧ Cond.initialized yX12_canCross.cls ∈ rb_tbl ∧ Cond.code yX12_canCross cX12_canCross 2 (some .boolean) ∈ rb_tbl ∧ rb_pn yX12_canCross 1 := ⟨rb_in (by decide +kernel) (by decide +kernel), rb_in (by decide +kernel) (by decide +kernel), rb_in (by decide +kernel) (by decide +kernel), rb_in (by decide +kernel) (by decide +kernel), by decide +kernel, by decide +kernel, by decide +kernel⟩
theorem mv_X12_370 : rb_MV RX12 370 yX12_canCross cX12_canCross 2 (some .boolean) 1 := ⟨rb_in (by decide +kernel) (by decide +kernel), me_X12_canCross⟩
def xf_M_canStep (p0 : Int32) (σ : rb_St) : Option (Int32 × rb_St) := if p0 = 20 then some (1, σ) else rb_b2 (xf_M_canCross p0 σ) fun r4 s2 => if r4 = 0 then some (0, s2) else some (1, s2)
set_option maxHeartbeats 4000000 in
set_option maxRecDepth 100000 in
theorem xk_M_canStep {z : rb_Z} {w : rb_Wd} (hC : rb_Cx z rb_vM w RX12 cX12_canStep 2 (some .boolean) 8) (p0 : Int32) (σ : rb_St) (r : Int32) (σ9 : rb_St) (h : xf_M_canStep p0 σ = some (r, σ9)) : rb_At z rb_vM w 2 (rb_Q z rb_vM w (some (.int r)) σ9) 0 [(0, .ref (rb_ad w 0)), (1, .int p0)] [] σ := by
  unfold xf_M_canStep at h
  refine rb_iload_n hC 1 dX12_canStep_0 rfl ?_
  refine rb_bipush (x := 20) hC dX12_canStep_1 (by decide) ?_
  refine rb_icmp_eq hC 14 dX12_canStep_3 (by decide) (fun c1 => ?_) (fun c1 => ?_)
  · replace h := rb_ifp c1 h
    refine rb_iconst (x := 1) hC dX12_canStep_14 (by decide) ?_
    refine rb_goto hC 19 dX12_canStep_15 (by decide) ?_
    cases h
    exact rb_zret hC rfl dX12_canStep_19
  · replace h := rb_ifn c1 h
    refine rb_aload_n hC 0 dX12_canStep_6 rfl ?_
    refine rb_iload_n hC 1 dX12_canStep_7 rfl ?_
    obtain ⟨r4, s2, q3, h⟩ := rb_b2s h
    refine rb_callVi hC rb_VokM mv_X12_370 (xc_M_canCross p0 σ _ _ q3) rb_obM0 rfl [.int p0] rfl rfl rfl ⟨Nat.le_of_ble_eq_true rfl, Nat.le_of_ble_eq_true rfl⟩ (Nat.le_of_ble_eq_true rfl) dX12_canStep_8 ?_
    refine rb_if_eq hC 18 dX12_canStep_11 (by decide) (fun c5 => ?_) (fun c5 => ?_)
    · replace h := rb_ifp c5 h
      refine rb_iconst (x := 0) hC dX12_canStep_18 (by decide) ?_
      cases h
      exact rb_zret hC rfl dX12_canStep_19
    · replace h := rb_ifn c5 h
      refine rb_iconst (x := 1) hC dX12_canStep_14 (by decide) ?_
      refine rb_goto hC 19 dX12_canStep_15 (by decide) ?_
      cases h
      exact rb_zret hC rfl dX12_canStep_19
theorem xc_M_canStep (p0 : Int32) (σ : rb_St) (r : Int32) (σ9 : rb_St) (h : xf_M_canStep p0 σ = some (r, σ9)) : rb_Con rb_vM yX12_canStep cX12_canStep 2 (some .boolean) 8 (fun w => [.ref (rb_ad w 0), .int p0]) σ (fun _ => (some (.int r))) σ9 := rb_Con.of (by decide +kernel) (fun _ => Nat.le_of_ble_eq_true rfl) (fun z w hC => xk_M_canStep hC p0 σ r σ9 h)
def xf_M_rule (p0 : Int32) (σ : rb_St) : Option Int32 := if (σ.1 0 22) = 0 then some (-1) else if (xf_M_in p0 0 2 σ) = 0 then some (-1) else if p0 = 1 then some (σ.1 17 215) else if rb_ib p0 3 then some (σ.1 13 p0.toNatClampNeg) else none
set_option maxHeartbeats 4000000 in
set_option maxRecDepth 100000 in
theorem xk_M_rule {z : rb_Z} {w : rb_Wd} (hC : rb_Cx z rb_vM w RX12 cX12_rule 2 (some .int) 1) (p0 : Int32) (σ : rb_St) (r : Int32) (h : xf_M_rule p0 σ = some r) : rb_At z rb_vM w 2 (rb_Q z rb_vM w (some (.int r)) σ) 0 [(0, .ref (rb_ad w 0)), (1, .int p0)] [] σ := by
  unfold xf_M_rule at h
  refine rb_aload_n hC 0 dX12_rule_0 rfl ?_
  refine rb_getI hC fr_X12_283_11 rb_obM0 rfl dX12_rule_1 ?_
  refine rb_if_eq hC 16 dX12_rule_4 (by decide) (fun c1 => ?_) (fun c1 => ?_)
  · replace h := rb_ifp c1 h
    refine rb_iconst (x := (-1)) hC dX12_rule_16 (by decide) ?_
    refine rb_goto hC 42 dX12_rule_17 (by decide) ?_
    cases h
    exact rb_iret hC dX12_rule_42
  · replace h := rb_ifn c1 h
    refine rb_iload_n hC 1 dX12_rule_7 rfl ?_
    refine rb_iconst (x := 0) hC dX12_rule_8 (by decide) ?_
    refine rb_iconst (x := 2) hC dX12_rule_9 (by decide) ?_
    refine rb_callSi hC rb_VokM mv_X12_229 (xc_M_in p0 0 2 σ _ rfl) [.int p0, .int 0, .int 2] rfl rfl rfl ⟨Nat.le_of_ble_eq_true rfl, Nat.le_of_ble_eq_true rfl⟩ (Nat.le_of_ble_eq_true rfl) dX12_rule_10 ?_
    refine rb_if_ne hC 20 dX12_rule_13 (by decide) (fun c2 => ?_) (fun c2 => ?_)
    · replace h := rb_ifn c2 h
      refine rb_iload_n hC 1 dX12_rule_20 rfl ?_
      refine rb_iconst (x := 1) hC dX12_rule_21 (by decide) ?_
      refine rb_icmp_ne hC 36 dX12_rule_22 (by decide) (fun c3 => ?_) (fun c3 => ?_)
      · replace h := rb_ifn c3 h
        refine rb_aload_n hC 0 dX12_rule_36 rfl ?_
        refine rb_getR hC fr_X12_46_11 rb_obM0 rfl dX12_rule_37 ?_
        refine rb_iload_n hC 1 dX12_rule_40 rfl ?_
        obtain ⟨g4, h⟩ := rb_gd h
        refine rb_iald hC rb_arM13 (rb_ibI g4) dX12_rule_41 ?_
        cases h
        exact rb_iret hC dX12_rule_42
      · replace h := rb_ifp c3 h
        refine rb_aload_n hC 0 dX12_rule_25 rfl ?_
        refine rb_getR hC fr_X12_58_11 rb_obM0 rfl dX12_rule_26 ?_
        refine rb_sipush (x := 215) hC dX12_rule_29 (by decide) ?_
        refine rb_iald hC rb_arM17 (rb_ibI (by decide)) dX12_rule_32 ?_
        refine rb_goto hC 42 dX12_rule_33 (by decide) ?_
        cases h
        exact rb_iret hC dX12_rule_42
    · replace h := rb_ifp c2 h
      refine rb_iconst (x := (-1)) hC dX12_rule_16 (by decide) ?_
      refine rb_goto hC 42 dX12_rule_17 (by decide) ?_
      cases h
      exact rb_iret hC dX12_rule_42
theorem xc_M_rule (p0 : Int32) (σ : rb_St) (r : Int32) (h : xf_M_rule p0 σ = some r) : rb_Con rb_vM yX12_rule cX12_rule 2 (some .int) 1 (fun w => [.ref (rb_ad w 0), .int p0]) σ (fun _ => (some (.int r))) σ := rb_Con.of (by decide +kernel) (fun _ => Nat.le_of_ble_eq_true rfl) (fun z w hC => xk_M_rule hC p0 σ r h)
def xl_M_placeOf_2 (x1 : Int32) (σ : rb_St) : Nat → Int32 → Option (Nat × Int32)
  | 0, _ => none
  | n + 1, x2 => if (σ.1 0 22) ≤ x2 then some (1, x2) else if rb_ib (0 + x2) 398 then if (σ.1 17 (0 + x2).toNatClampNeg) = x1 then some (0, x2) else xl_M_placeOf_2 x1 σ n (x2 + 1) else none
set_option maxHeartbeats 4000000 in
set_option maxRecDepth 100000 in
theorem xt_M_placeOf_2 {z : rb_Z} {w : rb_Wd} {Q : State → Prop} (hC : rb_Cx z rb_vM w RX12 cX12_placeOf 3 (some .int) 0) (x1 : Int32) (σ : rb_St) : ∀ (n : Nat) (x2 : Int32) (t : Nat) (y2 : Int32), xl_M_placeOf_2 x1 σ n x2 = some (t, y2) → (t = 0 → rb_At z rb_vM w 3 Q 22 [(2, .int y2)] [] σ) → (t = 1 → rb_At z rb_vM w 3 Q 30 [] [] σ) → rb_At z rb_vM w 3 Q 2 [(0, .ref (rb_ad w 0)), (1, .int x1), (2, .int x2)] [] σ := by
  intro n
  induction n with
  | zero =>
    intro x2 t y2 h hE0 hE1
    cases h
  | succ n ih =>
    intro x2 t y2 h hE0 hE1
    rw [xl_M_placeOf_2] at h
    refine rb_iload_n hC 2 dX12_placeOf_2 rfl ?_
    refine rb_aload_n hC 0 dX12_placeOf_3 rfl ?_
    refine rb_getI hC fr_X12_283_11 rb_obM0 rfl dX12_placeOf_4 ?_
    refine rb_icmp_ge hC 30 dX12_placeOf_7 (by decide) (fun c1 => ?_) (fun c1 => ?_)
    · replace h := rb_ifp c1 h
      cases h
      exact rb_sub [] rfl (hE1 rfl)
    · replace h := rb_ifn c1 h
      refine rb_aload_n hC 0 dX12_placeOf_10 rfl ?_
      refine rb_getR hC fr_X12_58_11 rb_obM0 rfl dX12_placeOf_11 ?_
      refine rb_iconst (x := 0) hC dX12_placeOf_14 (by decide) ?_
      refine rb_iload_n hC 2 dX12_placeOf_15 rfl ?_
      refine rb_iadd hC dX12_placeOf_16 ?_
      obtain ⟨g2, h⟩ := rb_gd h
      refine rb_iald hC rb_arM17 (rb_ibI g2) dX12_placeOf_17 ?_
      refine rb_iload_n hC 1 dX12_placeOf_18 rfl ?_
      refine rb_icmp_ne hC 24 dX12_placeOf_19 (by decide) (fun c3 => ?_) (fun c3 => ?_)
      · replace h := rb_ifn c3 h
        refine rb_iinc hC 2 [(2, .int (x2 + 1)), (0, .ref (rb_ad w 0)), (1, .int x1)] dX12_placeOf_24 rfl rfl (by decide) rfl ?_
        refine rb_goto hC 2 dX12_placeOf_27 (by decide) ?_
        exact rb_sub [1, 2, 0] rfl (ih (x2 + 1) _ _ h hE0 hE1)
      · replace h := rb_ifp c3 h
        cases h
        exact rb_sub [2] rfl (hE0 rfl)
def xf_M_placeOf (p0 : Int32) (σ : rb_St) : Option Int32 := rb_b2 (xl_M_placeOf_2 p0 σ rb_FU 0) fun t4 y5 => if t4 = 0 then some y5 else some (-1)
set_option maxHeartbeats 4000000 in
set_option maxRecDepth 100000 in
theorem xk_M_placeOf {z : rb_Z} {w : rb_Wd} (hC : rb_Cx z rb_vM w RX12 cX12_placeOf 3 (some .int) 0) (p0 : Int32) (σ : rb_St) (r : Int32) (h : xf_M_placeOf p0 σ = some r) : rb_At z rb_vM w 3 (rb_Q z rb_vM w (some (.int r)) σ) 0 [(0, .ref (rb_ad w 0)), (1, .int p0)] [] σ := by
  unfold xf_M_placeOf at h
  refine rb_iconst (x := 0) hC dX12_placeOf_0 (by decide) ?_
  refine rb_istore_n hC [(2, .int 0), (0, .ref (rb_ad w 0)), (1, .int p0)] dX12_placeOf_1 (by decide) rfl ?_
  obtain ⟨t4, y5, q6, h⟩ := rb_b2s h
  refine rb_sub (lv2 := [(0, .ref (rb_ad w 0)), (1, .int p0), (2, .int 0)]) [1, 2, 0] rfl ?_
  refine xt_M_placeOf_2 hC p0 σ rb_FU 0 _ _ q6 (fun ht => ?_) (fun ht => ?_)
  · subst ht
    replace h := rb_ifp rfl h
    refine rb_iload_n hC 0 dX12_placeOf_22 rfl ?_
    cases h
    exact rb_iret hC dX12_placeOf_23
  · subst ht
    replace h := rb_ifn (by decide) h
    refine rb_iconst (x := (-1)) hC dX12_placeOf_30 (by decide) ?_
    cases h
    exact rb_iret hC dX12_placeOf_31
theorem xc_M_placeOf (p0 : Int32) (σ : rb_St) (r : Int32) (h : xf_M_placeOf p0 σ = some r) : rb_Con rb_vM yX12_placeOf cX12_placeOf 3 (some .int) 0 (fun w => [.ref (rb_ad w 0), .int p0]) σ (fun _ => (some (.int r))) σ := rb_Con.of (by decide +kernel) (fun _ => Nat.le_of_ble_eq_true rfl) (fun z w hC => xk_M_placeOf hC p0 σ r h)
