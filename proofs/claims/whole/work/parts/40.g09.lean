theorem me_X12_putStep : Cond.instanceMethod yX12_putStep ∈ rb_tbl ∧ Cond.selects yX12_putStep.cls yX12_putStep yX12_putStep ∈ rb_tbl ∧ Cond.initialized yX12_putStep.cls ∈ rb_tbl ∧ Cond.code yX12_putStep cX12_putStep 3 none ∈ rb_tbl ∧ rb_pn yX12_putStep 2 := ⟨rb_in (by decide +kernel) (by decide +kernel), rb_in (by decide +kernel) (by decide +kernel), rb_in (by decide +kernel) (by decide +kernel), rb_in (by decide +kernel) (by decide +kernel), by decide +kernel, by decide +kernel, by decide +kernel⟩
theorem mv_X12_262 : rb_MV RX12 262 yX12_putStep cX12_putStep 3 none 2 := ⟨rb_in (by decide +kernel) (by decide +kernel), me_X12_putStep⟩
def xj_M_readCross_14 (x1 : Int32) (u0 : Int32) (σ : rb_St) : Option (rb_St) := rb_lt (rb_sI σ 0 3 ((σ.1 0 3) + 1)) (fun s4 => rb_b2 (xf_M_look s4) fun r8 s6 => if (xf_M_isDigit r8 s6) = 0 then rb_b1 (xf_M_bad s6) fun s10 => some s10 else rb_b1 (xf_M_here s6) fun r12 => rb_b1 (xf_M_putStep x1 ((2 * (r12 - 48)) + u0) s6) fun s14 => rb_lt (rb_sI s14 0 3 ((s14.1 0 3) + 1)) (fun s16 => some s16))
set_option maxHeartbeats 4000000 in
set_option maxRecDepth 100000 in
theorem xu_M_readCross_14 {z : rb_Z} {w : rb_Wd} (hC : rb_Cx z rb_vM w RX12 cX12_readCross 3 none 2) (x1 : Int32) (u0 : Int32) (σ : rb_St) (σ9 : rb_St) (h : xj_M_readCross_14 x1 u0 σ = some σ9) : rb_At z rb_vM w 3 (rb_Q z rb_vM w none σ9) 14 [(0, .ref (rb_ad w 0)), (1, .int x1)] [.int u0] σ := by
  unfold xj_M_readCross_14 at h
  refine rb_istore_n hC [(2, .int u0), (0, .ref (rb_ad w 0)), (1, .int x1)] dX12_readCross_14 (by decide) rfl ?_
  refine rb_aload_n hC 1 dX12_readCross_15 rfl ?_
  refine rb_dup hC dX12_readCross_16 rfl ?_
  refine rb_getI hC fr_X12_124_11 rb_obM0 rfl dX12_readCross_17 ?_
  refine rb_iconst (x := 1) hC dX12_readCross_20 (by decide) ?_
  refine rb_iadd hC dX12_readCross_21 ?_
  refine rb_putI hC fr_X12_124_11 ft_11_3 rb_obM0 rfl rfl rfl dX12_readCross_22 ?_
  obtain ⟨s4, e5, h⟩ := rb_ltE h
  refine rb_nmS e5 ?_
  refine rb_aload_n hC 1 dX12_readCross_25 rfl ?_
  obtain ⟨r8, s6, q7, h⟩ := rb_b2s h
  refine rb_callVi hC rb_VokM mv_X12_143 (xc_M_look  s4 _ _ q7) rb_obM0 rfl [] rfl rfl rfl ⟨Nat.le_of_ble_eq_true rfl, Nat.le_of_ble_eq_true rfl⟩ (Nat.le_of_ble_eq_true rfl) dX12_readCross_26 ?_
  refine rb_callSi hC rb_VokM mv_X12_146 (xc_M_isDigit r8 s6 _ rfl) [.int r8] rfl rfl rfl ⟨Nat.le_of_ble_eq_true rfl, Nat.le_of_ble_eq_true rfl⟩ (Nat.le_of_ble_eq_true rfl) dX12_readCross_29 ?_
  refine rb_if_eq hC 64 dX12_readCross_32 (by decide) (fun c9 => ?_) (fun c9 => ?_)
  · replace h := rb_ifp c9 h
    refine rb_aload_n hC 1 dX12_readCross_64 rfl ?_
    obtain ⟨s10, q11, h⟩ := rb_b1s h
    refine rb_callVv hC rb_VokM mv_X12_140 (xc_M_bad  s6 _ q11) rb_obM0 rfl [] rfl rfl rfl ⟨Nat.le_of_ble_eq_true rfl, Nat.le_of_ble_eq_true rfl⟩ (Nat.le_of_ble_eq_true rfl) dX12_readCross_65 ?_
    cases h
    exact rb_vret hC dX12_readCross_68
  · replace h := rb_ifn c9 h
    refine rb_aload_n hC 1 dX12_readCross_35 rfl ?_
    refine rb_iload_n hC 2 dX12_readCross_36 rfl ?_
    refine rb_iconst (x := 2) hC dX12_readCross_37 (by decide) ?_
    refine rb_aload_n hC 1 dX12_readCross_38 rfl ?_
    obtain ⟨r12, q13, h⟩ := rb_b1s h
    refine rb_callVi hC rb_VokM mv_X12_127 (xc_M_here  s6 _ q13) rb_obM0 rfl [] rfl rfl rfl ⟨Nat.le_of_ble_eq_true rfl, Nat.le_of_ble_eq_true rfl⟩ (Nat.le_of_ble_eq_true rfl) dX12_readCross_39 ?_
    refine rb_bipush (x := 48) hC dX12_readCross_42 (by decide) ?_
    refine rb_isub hC dX12_readCross_44 ?_
    refine rb_imul hC dX12_readCross_45 ?_
    refine rb_iload_n hC 0 dX12_readCross_46 rfl ?_
    refine rb_iadd hC dX12_readCross_47 ?_
    obtain ⟨s14, q15, h⟩ := rb_b1s h
    refine rb_callVv hC rb_VokM mv_X12_262 (xc_M_putStep x1 ((2 * (r12 - 48)) + u0) s6 _ q15) rb_obM0 rfl [.int x1, .int ((2 * (r12 - 48)) + u0)] rfl rfl rfl ⟨Nat.le_of_ble_eq_true rfl, Nat.le_of_ble_eq_true rfl⟩ (Nat.le_of_ble_eq_true rfl) dX12_readCross_48 ?_
    refine rb_aload_n hC 1 dX12_readCross_51 rfl ?_
    refine rb_dup hC dX12_readCross_52 rfl ?_
    refine rb_getI hC fr_X12_124_11 rb_obM0 rfl dX12_readCross_53 ?_
    refine rb_iconst (x := 1) hC dX12_readCross_56 (by decide) ?_
    refine rb_iadd hC dX12_readCross_57 ?_
    refine rb_putI hC fr_X12_124_11 ft_11_3 rb_obM0 rfl rfl rfl dX12_readCross_58 ?_
    obtain ⟨s16, e17, h⟩ := rb_ltE h
    refine rb_nmS e17 ?_
    refine rb_goto hC 68 dX12_readCross_61 (by decide) ?_
    cases h
    exact rb_vret hC dX12_readCross_68
def xf_M_readCross (p0 : Int32) (σ : rb_St) : Option (rb_St) := rb_b1 (xf_M_here σ) fun r1 => if r1 = 117 then xj_M_readCross_14 p0 1 σ else xj_M_readCross_14 p0 0 σ
set_option maxHeartbeats 4000000 in
set_option maxRecDepth 100000 in
theorem xk_M_readCross {z : rb_Z} {w : rb_Wd} (hC : rb_Cx z rb_vM w RX12 cX12_readCross 3 none 2) (p0 : Int32) (σ : rb_St) (σ9 : rb_St) (h : xf_M_readCross p0 σ = some σ9) : rb_At z rb_vM w 3 (rb_Q z rb_vM w none σ9) 0 [(0, .ref (rb_ad w 0)), (1, .int p0)] [] σ := by
  unfold xf_M_readCross at h
  refine rb_aload_n hC 0 dX12_readCross_0 rfl ?_
  obtain ⟨r1, q2, h⟩ := rb_b1s h
  refine rb_callVi hC rb_VokM mv_X12_127 (xc_M_here  σ _ q2) rb_obM0 rfl [] rfl rfl rfl ⟨Nat.le_of_ble_eq_true rfl, Nat.le_of_ble_eq_true rfl⟩ (Nat.le_of_ble_eq_true rfl) dX12_readCross_1 ?_
  refine rb_bipush (x := 117) hC dX12_readCross_4 (by decide) ?_
  refine rb_icmp_ne hC 13 dX12_readCross_6 (by decide) (fun c3 => ?_) (fun c3 => ?_)
  · replace h := rb_ifn c3 h
    refine rb_iconst (x := 0) hC dX12_readCross_13 (by decide) ?_
    exact rb_sub [0, 1] rfl (xu_M_readCross_14 hC p0 0 σ _ h)
  · replace h := rb_ifp c3 h
    refine rb_iconst (x := 1) hC dX12_readCross_9 (by decide) ?_
    refine rb_goto hC 14 dX12_readCross_10 (by decide) ?_
    exact rb_sub [0, 1] rfl (xu_M_readCross_14 hC p0 1 σ _ h)
theorem xc_M_readCross (p0 : Int32) (σ : rb_St) (σ9 : rb_St) (h : xf_M_readCross p0 σ = some σ9) : rb_Con rb_vM yX12_readCross cX12_readCross 3 none 2 (fun w => [.ref (rb_ad w 0), .int p0]) σ (fun _ => none) σ9 := rb_Con.of (by decide +kernel) (fun _ => Nat.le_of_ble_eq_true rfl) (fun z w hC => xk_M_readCross hC p0 σ σ9 h)
theorem fr_X12_49_11 : rb_FR RX12 49 11 21 := ⟨RX12, TX12, 50, "RibbonPoleModel", rfl, rb_uX12, by decide, rb_in (by decide +kernel) (by decide +kernel), Or.inl rfl⟩
def xf_M_told (p0 : Int32) (p1 : Int32) (σ : rb_St) : Option Int32 := if rb_ib ((3 * p0) + p1) 21 then some (σ.1 14 ((3 * p0) + p1).toNatClampNeg) else none
set_option maxHeartbeats 4000000 in
set_option maxRecDepth 100000 in
theorem xk_M_told {z : rb_Z} {w : rb_Wd} (hC : rb_Cx z rb_vM w RX12 cX12_told 3 (some .int) 0) (p0 : Int32) (p1 : Int32) (σ : rb_St) (r : Int32) (h : xf_M_told p0 p1 σ = some r) : rb_At z rb_vM w 3 (rb_Q z rb_vM w (some (.int r)) σ) 0 [(0, .ref (rb_ad w 0)), (1, .int p0), (2, .int p1)] [] σ := by
  unfold xf_M_told at h
  refine rb_aload_n hC 0 dX12_told_0 rfl ?_
  refine rb_getR hC fr_X12_49_11 rb_obM0 rfl dX12_told_1 ?_
  refine rb_iconst (x := 3) hC dX12_told_4 (by decide) ?_
  refine rb_iload_n hC 1 dX12_told_5 rfl ?_
  refine rb_imul hC dX12_told_6 ?_
  refine rb_iload_n hC 2 dX12_told_7 rfl ?_
  refine rb_iadd hC dX12_told_8 ?_
  obtain ⟨g1, h⟩ := rb_gd h
  refine rb_iald hC rb_arM14 (rb_ibI g1) dX12_told_9 ?_
  cases h
  exact rb_iret hC dX12_told_10
theorem xc_M_told (p0 : Int32) (p1 : Int32) (σ : rb_St) (r : Int32) (h : xf_M_told p0 p1 σ = some r) : rb_Con rb_vM yX12_told cX12_told 3 (some .int) 0 (fun w => [.ref (rb_ad w 0), .int p0, .int p1]) σ (fun _ => (some (.int r))) σ := rb_Con.of (by decide +kernel) (fun _ => Nat.le_of_ble_eq_true rfl) (fun z w hC => xk_M_told hC p0 p1 σ r h)
theorem fr_X12_283_11 : rb_FR RX12 283 11 22 := ⟨RX12, TX12, 50, "RibbonPoleModel", rfl, rb_uX12, by decide, rb_in (by decide +kernel) (by decide +kernel), Or.inl rfl⟩
def xf_M_isDancer (p0 : Int32) (σ : rb_St) : Option Int32 := if rb_bz (xf_M_in p0 0 ((σ.1 0 22) - 1) σ) then some (xf_M_in p0 0 ((σ.1 0 22) - 1) σ) else none
set_option maxHeartbeats 4000000 in
set_option maxRecDepth 100000 in
theorem xk_M_isDancer {z : rb_Z} {w : rb_Wd} (hC : rb_Cx z rb_vM w RX12 cX12_isDancer 2 (some .boolean) 1) (p0 : Int32) (σ : rb_St) (r : Int32) (h : xf_M_isDancer p0 σ = some r) : rb_At z rb_vM w 2 (rb_Q z rb_vM w (some (.int r)) σ) 0 [(0, .ref (rb_ad w 0)), (1, .int p0)] [] σ := by
  unfold xf_M_isDancer at h
  refine rb_iload_n hC 1 dX12_isDancer_0 rfl ?_
  refine rb_iconst (x := 0) hC dX12_isDancer_1 (by decide) ?_
  refine rb_aload_n hC 0 dX12_isDancer_2 rfl ?_
  refine rb_getI hC fr_X12_283_11 rb_obM0 rfl dX12_isDancer_3 ?_
  refine rb_iconst (x := 1) hC dX12_isDancer_6 (by decide) ?_
  refine rb_isub hC dX12_isDancer_7 ?_
  refine rb_callSi hC rb_VokM mv_X12_229 (xc_M_in p0 0 ((σ.1 0 22) - 1) σ _ rfl) [.int p0, .int 0, .int ((σ.1 0 22) - 1)] rfl rfl rfl ⟨Nat.le_of_ble_eq_true rfl, Nat.le_of_ble_eq_true rfl⟩ (Nat.le_of_ble_eq_true rfl) dX12_isDancer_8 ?_
  obtain ⟨g1, h⟩ := rb_gd h
  cases h
  exact rb_zret hC (rb_bzN g1) dX12_isDancer_11
theorem xc_M_isDancer (p0 : Int32) (σ : rb_St) (r : Int32) (h : xf_M_isDancer p0 σ = some r) : rb_Con rb_vM yX12_isDancer cX12_isDancer 2 (some .boolean) 1 (fun w => [.ref (rb_ad w 0), .int p0]) σ (fun _ => (some (.int r))) σ := rb_Con.of (by decide +kernel) (fun _ => Nat.le_of_ble_eq_true rfl) (fun z w hC => xk_M_isDancer hC p0 σ r h)
theorem fr_X12_305_11 : rb_FR RX12 305 11 25 := ⟨RX12, TX12, 50, "RibbonPoleModel", rfl, rb_uX12, by decide, rb_in (by decide +kernel) (by decide +kernel), Or.inl rfl⟩
def xf_M_isFigure (p0 : Int32) (σ : rb_St) : Int32 := if (σ.1 0 22) ≤ 0 then 0 else if (xf_M_in p0 0 ((σ.1 0 25) - 1) σ) = 0 then 0 else 1
set_option maxHeartbeats 4000000 in
set_option maxRecDepth 100000 in
theorem xk_M_isFigure {z : rb_Z} {w : rb_Wd} (hC : rb_Cx z rb_vM w RX12 cX12_isFigure 2 (some .boolean) 1) (p0 : Int32) (σ : rb_St) (r : Int32) (h : xf_M_isFigure p0 σ = r) : rb_At z rb_vM w 2 (rb_Q z rb_vM w (some (.int r)) σ) 0 [(0, .ref (rb_ad w 0)), (1, .int p0)] [] σ := by
  unfold xf_M_isFigure at h
  refine rb_aload_n hC 0 dX12_isFigure_0 rfl ?_
  refine rb_getI hC fr_X12_283_11 rb_obM0 rfl dX12_isFigure_1 ?_
  refine rb_if_le hC 25 dX12_isFigure_4 (by decide) (fun c1 => ?_) (fun c1 => ?_)
  · replace h := rb_ifp c1 h
    refine rb_iconst (x := 0) hC dX12_isFigure_25 (by decide) ?_
    subst h
    exact rb_zret hC rfl dX12_isFigure_26
  · replace h := rb_ifn c1 h
    refine rb_iload_n hC 1 dX12_isFigure_7 rfl ?_
    refine rb_iconst (x := 0) hC dX12_isFigure_8 (by decide) ?_
    refine rb_aload_n hC 0 dX12_isFigure_9 rfl ?_
    refine rb_getI hC fr_X12_305_11 rb_obM0 rfl dX12_isFigure_10 ?_
    refine rb_iconst (x := 1) hC dX12_isFigure_13 (by decide) ?_
    refine rb_isub hC dX12_isFigure_14 ?_
    refine rb_callSi hC rb_VokM mv_X12_229 (xc_M_in p0 0 ((σ.1 0 25) - 1) σ _ rfl) [.int p0, .int 0, .int ((σ.1 0 25) - 1)] rfl rfl rfl ⟨Nat.le_of_ble_eq_true rfl, Nat.le_of_ble_eq_true rfl⟩ (Nat.le_of_ble_eq_true rfl) dX12_isFigure_15 ?_
    refine rb_if_eq hC 25 dX12_isFigure_18 (by decide) (fun c2 => ?_) (fun c2 => ?_)
    · replace h := rb_ifp c2 h
      refine rb_iconst (x := 0) hC dX12_isFigure_25 (by decide) ?_
      subst h
      exact rb_zret hC rfl dX12_isFigure_26
    · replace h := rb_ifn c2 h
      refine rb_iconst (x := 1) hC dX12_isFigure_21 (by decide) ?_
      refine rb_goto hC 26 dX12_isFigure_22 (by decide) ?_
      subst h
      exact rb_zret hC rfl dX12_isFigure_26
theorem xc_M_isFigure (p0 : Int32) (σ : rb_St) (r : Int32) (h : xf_M_isFigure p0 σ = r) : rb_Con rb_vM yX12_isFigure cX12_isFigure 2 (some .boolean) 1 (fun w => [.ref (rb_ad w 0), .int p0]) σ (fun _ => (some (.int r))) σ := rb_Con.of (by decide +kernel) (fun _ => Nat.le_of_ble_eq_true rfl) (fun z w hC => xk_M_isFigure hC p0 σ r h)
theorem fr_X12_58_11 : rb_FR RX12 58 11 27 := ⟨RX12, TX12, 50, "RibbonPoleModel", rfl, rb_uX12, by decide, rb_in (by decide +kernel) (by decide +kernel), Or.inl rfl⟩
def xf_M_of (p0 : Int32) (p1 : Int32) (σ : rb_St) : Option Int32 := if rb_ib ((15 + (5 * p0)) + p1) 398 then some (σ.1 17 ((15 + (5 * p0)) + p1).toNatClampNeg) else none
set_option maxHeartbeats 4000000 in
set_option maxRecDepth 100000 in
theorem xk_M_of {z : rb_Z} {w : rb_Wd} (hC : rb_Cx z rb_vM w RX12 cX12_of 3 (some .int) 0) (p0 : Int32) (p1 : Int32) (σ : rb_St) (r : Int32) (h : xf_M_of p0 p1 σ = some r) : rb_At z rb_vM w 3 (rb_Q z rb_vM w (some (.int r)) σ) 0 [(0, .ref (rb_ad w 0)), (1, .int p0), (2, .int p1)] [] σ := by
  unfold xf_M_of at h
  refine rb_aload_n hC 0 dX12_of_0 rfl ?_
  refine rb_getR hC fr_X12_58_11 rb_obM0 rfl dX12_of_1 ?_
  refine rb_bipush (x := 15) hC dX12_of_4 (by decide) ?_
  refine rb_iconst (x := 5) hC dX12_of_6 (by decide) ?_
  refine rb_iload_n hC 1 dX12_of_7 rfl ?_
  refine rb_imul hC dX12_of_8 ?_
  refine rb_iadd hC dX12_of_9 ?_
  refine rb_iload_n hC 2 dX12_of_10 rfl ?_
  refine rb_iadd hC dX12_of_11 ?_
  obtain ⟨g1, h⟩ := rb_gd h
  refine rb_iald hC rb_arM17 (rb_ibI g1) dX12_of_12 ?_
  cases h
  exact rb_iret hC dX12_of_13
theorem xc_M_of (p0 : Int32) (p1 : Int32) (σ : rb_St) (r : Int32) (h : xf_M_of p0 p1 σ = some r) : rb_Con rb_vM yX12_of cX12_of 3 (some .int) 0 (fun w => [.ref (rb_ad w 0), .int p0, .int p1]) σ (fun _ => (some (.int r))) σ := rb_Con.of (by decide +kernel) (fun _ => Nat.le_of_ble_eq_true rfl) (fun z w hC => xk_M_of hC p0 p1 σ r h)
def xf_M_nextPlace (p0 : Int32) (σ : rb_St) : Option Int32 := if (σ.1 0 22) = 0 then none else some ((p0 + 1) - (p0 + 1) / (σ.1 0 22) * (σ.1 0 22))
set_option maxHeartbeats 4000000 in
set_option maxRecDepth 100000 in
theorem xk_M_nextPlace {z : rb_Z} {w : rb_Wd} (hC : rb_Cx z rb_vM w RX12 cX12_nextPlace 2 (some .int) 0) (p0 : Int32) (σ : rb_St) (r : Int32) (h : xf_M_nextPlace p0 σ = some r) : rb_At z rb_vM w 2 (rb_Q z rb_vM w (some (.int r)) σ) 0 [(0, .ref (rb_ad w 0)), (1, .int p0)] [] σ := by
  unfold xf_M_nextPlace at h
  refine rb_iload_n hC 1 dX12_nextPlace_0 rfl ?_
  refine rb_iconst (x := 1) hC dX12_nextPlace_1 (by decide) ?_
  refine rb_iadd hC dX12_nextPlace_2 ?_
  refine rb_aload_n hC 0 dX12_nextPlace_3 rfl ?_
  refine rb_getI hC fr_X12_283_11 rb_obM0 rfl dX12_nextPlace_4 ?_
  obtain ⟨g1, h⟩ := rb_dv h
  refine rb_irem hC dX12_nextPlace_7 g1 ?_
  cases h
  exact rb_iret hC dX12_nextPlace_8
theorem xc_M_nextPlace (p0 : Int32) (σ : rb_St) (r : Int32) (h : xf_M_nextPlace p0 σ = some r) : rb_Con rb_vM yX12_nextPlace cX12_nextPlace 2 (some .int) 0 (fun w => [.ref (rb_ad w 0), .int p0]) σ (fun _ => (some (.int r))) σ := rb_Con.of (by decide +kernel) (fun _ => Nat.le_of_ble_eq_true rfl) (fun z w hC => xk_M_nextPlace hC p0 σ r h)
theorem me_X12_nextPlace : Cond.instanceMethod yX12_nextPlace ∈ rb_tbl ∧ Cond.selects yX12_nextPlace.cls yX12_nextPlace yX12_nextPlace ∈ rb_tbl ∧ Cond.initialized yX12_nextPlace.cls ∈ rb_tbl ∧ Cond.code yX12_nextPlace cX12_nextPlace 2 (some .int) ∈ rb_tbl ∧ rb_pn yX12_nextPlace 1 := ⟨rb_in (by decide +kernel) (by decide +kernel), rb_in (by decide +kernel) (by decide +kernel), rb_in (by decide +kernel) (by decide +kernel), rb_in (by decide +kernel) (by decide +kernel), by decide +kernel, by decide +kernel, by decide +kernel⟩
theorem mv_X12_308 : rb_MV RX12 308 yX12_nextPlace cX12_nextPlace 2 (some .int) 1 := ⟨rb_in (by decide +kernel) (by decide +kernel), me_X12_nextPlace⟩
def xf_M_touch (p0 : Int32) (p1 : Int32) (σ : rb_St) : Option Int32 := if p0 = p1 then some 1 else rb_b1 (xf_M_nextPlace p0 σ) fun r2 => if r2 = p1 then some 1 else rb_b1 (xf_M_nextPlace p1 σ) fun r5 => if r5 = p0 then some 1 else some 0
set_option maxHeartbeats 4000000 in
set_option maxRecDepth 100000 in
theorem xk_M_touch {z : rb_Z} {w : rb_Wd} (hC : rb_Cx z rb_vM w RX12 cX12_touch 3 (some .boolean) 1) (p0 : Int32) (p1 : Int32) (σ : rb_St) (r : Int32) (h : xf_M_touch p0 p1 σ = some r) : rb_At z rb_vM w 3 (rb_Q z rb_vM w (some (.int r)) σ) 0 [(0, .ref (rb_ad w 0)), (1, .int p0), (2, .int p1)] [] σ := by
  unfold xf_M_touch at h
  refine rb_iload_n hC 1 dX12_touch_0 rfl ?_
  refine rb_iload_n hC 2 dX12_touch_1 rfl ?_
  refine rb_icmp_eq hC 23 dX12_touch_2 (by decide) (fun c1 => ?_) (fun c1 => ?_)
  · replace h := rb_ifp c1 h
    refine rb_iconst (x := 1) hC dX12_touch_23 (by decide) ?_
    refine rb_goto hC 28 dX12_touch_24 (by decide) ?_
    cases h
    exact rb_zret hC rfl dX12_touch_28
  · replace h := rb_ifn c1 h
    refine rb_aload_n hC 0 dX12_touch_5 rfl ?_
    refine rb_iload_n hC 1 dX12_touch_6 rfl ?_
    obtain ⟨r2, q3, h⟩ := rb_b1s h
    refine rb_callVi hC rb_VokM mv_X12_308 (xc_M_nextPlace p0 σ _ q3) rb_obM0 rfl [.int p0] rfl rfl rfl ⟨Nat.le_of_ble_eq_true rfl, Nat.le_of_ble_eq_true rfl⟩ (Nat.le_of_ble_eq_true rfl) dX12_touch_7 ?_
    refine rb_iload_n hC 2 dX12_touch_10 rfl ?_
    refine rb_icmp_eq hC 23 dX12_touch_11 (by decide) (fun c4 => ?_) (fun c4 => ?_)
    · replace h := rb_ifp c4 h
      refine rb_iconst (x := 1) hC dX12_touch_23 (by decide) ?_
      refine rb_goto hC 28 dX12_touch_24 (by decide) ?_
      cases h
      exact rb_zret hC rfl dX12_touch_28
    · replace h := rb_ifn c4 h
      refine rb_aload_n hC 0 dX12_touch_14 rfl ?_
      refine rb_iload_n hC 2 dX12_touch_15 rfl ?_
      obtain ⟨r5, q6, h⟩ := rb_b1s h
      refine rb_callVi hC rb_VokM mv_X12_308 (xc_M_nextPlace p1 σ _ q6) rb_obM0 rfl [.int p1] rfl rfl rfl ⟨Nat.le_of_ble_eq_true rfl, Nat.le_of_ble_eq_true rfl⟩ (Nat.le_of_ble_eq_true rfl) dX12_touch_16 ?_
      refine rb_iload_n hC 1 dX12_touch_19 rfl ?_
      refine rb_icmp_ne hC 27 dX12_touch_20 (by decide) (fun c7 => ?_) (fun c7 => ?_)
      · replace h := rb_ifn c7 h
        refine rb_iconst (x := 0) hC dX12_touch_27 (by decide) ?_
        cases h
        exact rb_zret hC rfl dX12_touch_28
      · replace h := rb_ifp c7 h
        refine rb_iconst (x := 1) hC dX12_touch_23 (by decide) ?_
        refine rb_goto hC 28 dX12_touch_24 (by decide) ?_
        cases h
        exact rb_zret hC rfl dX12_touch_28
theorem xc_M_touch (p0 : Int32) (p1 : Int32) (σ : rb_St) (r : Int32) (h : xf_M_touch p0 p1 σ = some r) : rb_Con rb_vM yX12_touch cX12_touch 3 (some .boolean) 1 (fun w => [.ref (rb_ad w 0), .int p0, .int p1]) σ (fun _ => (some (.int r))) σ := rb_Con.of (by decide +kernel) (fun _ => Nat.le_of_ble_eq_true rfl) (fun z w hC => xk_M_touch hC p0 p1 σ r h)
theorem me_X12_of : Cond.instanceMethod yX12_of ∈ rb_tbl ∧ Cond.selects yX12_of.cls yX12_of yX12_of ∈ rb_tbl ∧ Cond.initialized yX12_of.cls ∈ rb_tbl ∧ Cond.code yX12_of cX12_of 3 (some .int) ∈ rb_tbl ∧ rb_pn yX12_of 2 := ⟨rb_in (by decide +kernel) (by decide +kernel), rb_in (by decide +kernel) (by decide +kernel), rb_in (by decide +kernel) (by decide +kernel), rb_in (by decide +kernel) (by decide +kernel), by decide +kernel, by decide +kernel, by decide +kernel⟩
theorem mv_X12_311 : rb_MV RX12 311 yX12_of cX12_of 3 (some .int) 2 := ⟨rb_in (by decide +kernel) (by decide +kernel), me_X12_of⟩
theorem me_X12_touch : Cond.instanceMethod yX12_touch ∈ rb_tbl ∧ Cond.selects yX12_touch.cls yX12_touch yX12_touch ∈ rb_tbl ∧ Cond.initialized yX12_touch.cls ∈ rb_tbl ∧ Cond.code yX12_touch cX12_touch 3 (some .boolean) ∈ rb_tbl ∧ rb_pn yX12_touch 2 := ⟨rb_in (by decide +kernel) (by decide +kernel), rb_in (by decide +kernel) (by decide +kernel), rb_in (by decide +kernel) (by decide +kernel), rb_in (by decide +kernel) (by decide +kernel), by decide +kernel, by decide +kernel, by decide +kernel⟩
theorem mv_X12_314 : rb_MV RX12 314 yX12_touch cX12_touch 3 (some .boolean) 2 := ⟨rb_in (by decide +kernel) (by decide +kernel), me_X12_touch⟩
def xl_M_lastAt_10 (x1 : Int32) (σ : rb_St) : Nat → Int32 → Option (Nat × Int32)
  | 0, _ => none
  | n + 1, x2 => if x2 < 0 then some (1, x2) else rb_b1 (xf_M_of x2 0 σ) fun r2 => rb_b1 (xf_M_touch (r2 / 2) x1 σ) fun r4 => if r4 = 0 then xl_M_lastAt_10 x1 σ n (x2 + (-1)) else some (0, x2)
set_option maxHeartbeats 4000000 in
set_option maxRecDepth 100000 in
theorem xt_M_lastAt_10 {z : rb_Z} {w : rb_Wd} {Q : State → Prop} (hC : rb_Cx z rb_vM w RX12 cX12_lastAt 3 (some .int) 2) (x1 : Int32) (σ : rb_St) : ∀ (n : Nat) (x2 : Int32) (t : Nat) (y2 : Int32), xl_M_lastAt_10 x1 σ n x2 = some (t, y2) → (t = 0 → rb_At z rb_vM w 3 Q 30 [(2, .int y2)] [] σ) → (t = 1 → rb_At z rb_vM w 3 Q 38 [] [] σ) → rb_At z rb_vM w 3 Q 10 [(0, .ref (rb_ad w 0)), (1, .int x1), (2, .int x2)] [] σ := by
  intro n
  induction n with
  | zero =>
    intro x2 t y2 h hE0 hE1
    cases h
  | succ n ih =>
    intro x2 t y2 h hE0 hE1
    rw [xl_M_lastAt_10] at h
    refine rb_iload_n hC 2 dX12_lastAt_10 rfl ?_
    refine rb_if_lt hC 38 dX12_lastAt_11 (by decide) (fun c1 => ?_) (fun c1 => ?_)
    · replace h := rb_ifp c1 h
      cases h
      exact rb_sub [] rfl (hE1 rfl)
    · replace h := rb_ifn c1 h
      refine rb_aload_n hC 0 dX12_lastAt_14 rfl ?_
      refine rb_aload_n hC 0 dX12_lastAt_15 rfl ?_
      refine rb_iload_n hC 2 dX12_lastAt_16 rfl ?_
      refine rb_iconst (x := 0) hC dX12_lastAt_17 (by decide) ?_
      obtain ⟨r2, q3, h⟩ := rb_b1s h
      refine rb_callVi hC rb_VokM mv_X12_311 (xc_M_of x2 0 σ _ q3) rb_obM0 rfl [.int x2, .int 0] rfl rfl rfl ⟨Nat.le_of_ble_eq_true rfl, Nat.le_of_ble_eq_true rfl⟩ (Nat.le_of_ble_eq_true rfl) dX12_lastAt_18 ?_
      refine rb_iconst (x := 2) hC dX12_lastAt_21 (by decide) ?_
      refine rb_idiv hC dX12_lastAt_22 (by decide) ?_
      refine rb_iload_n hC 1 dX12_lastAt_23 rfl ?_
      obtain ⟨r4, q5, h⟩ := rb_b1s h
      refine rb_callVi hC rb_VokM mv_X12_314 (xc_M_touch (r2 / 2) x1 σ _ q5) rb_obM0 rfl [.int (r2 / 2), .int x1] rfl rfl rfl ⟨Nat.le_of_ble_eq_true rfl, Nat.le_of_ble_eq_true rfl⟩ (Nat.le_of_ble_eq_true rfl) dX12_lastAt_24 ?_
      refine rb_if_eq hC 32 dX12_lastAt_27 (by decide) (fun c6 => ?_) (fun c6 => ?_)
      · replace h := rb_ifp c6 h
        refine rb_iinc hC 2 [(2, .int (x2 + (-1))), (0, .ref (rb_ad w 0)), (1, .int x1)] dX12_lastAt_32 rfl rfl (by decide) rfl ?_
        refine rb_goto hC 10 dX12_lastAt_35 (by decide) ?_
        exact rb_sub [1, 2, 0] rfl (ih (x2 + (-1)) _ _ h hE0 hE1)
      · replace h := rb_ifn c6 h
        cases h
        exact rb_sub [2] rfl (hE0 rfl)
def xf_M_lastAt (p0 : Int32) (σ : rb_St) : Option Int32 := rb_b2 (xl_M_lastAt_10 p0 σ rb_FU ((σ.1 17 14) - 1)) fun t7 y8 => if t7 = 0 then some y8 else some (-1)
set_option maxHeartbeats 4000000 in
set_option maxRecDepth 100000 in
theorem xk_M_lastAt {z : rb_Z} {w : rb_Wd} (hC : rb_Cx z rb_vM w RX12 cX12_lastAt 3 (some .int) 2) (p0 : Int32) (σ : rb_St) (r : Int32) (h : xf_M_lastAt p0 σ = some r) : rb_At z rb_vM w 3 (rb_Q z rb_vM w (some (.int r)) σ) 0 [(0, .ref (rb_ad w 0)), (1, .int p0)] [] σ := by
  unfold xf_M_lastAt at h
  refine rb_aload_n hC 0 dX12_lastAt_0 rfl ?_
  refine rb_getR hC fr_X12_58_11 rb_obM0 rfl dX12_lastAt_1 ?_
  refine rb_bipush (x := 14) hC dX12_lastAt_4 (by decide) ?_
  refine rb_iald hC rb_arM17 (rb_ibI (by decide)) dX12_lastAt_6 ?_
  refine rb_iconst (x := 1) hC dX12_lastAt_7 (by decide) ?_
  refine rb_isub hC dX12_lastAt_8 ?_
  refine rb_istore_n hC [(2, .int ((σ.1 17 14) - 1)), (0, .ref (rb_ad w 0)), (1, .int p0)] dX12_lastAt_9 (by decide) rfl ?_
  obtain ⟨t7, y8, q9, h⟩ := rb_b2s h
  refine rb_sub (lv2 := [(0, .ref (rb_ad w 0)), (1, .int p0), (2, .int ((σ.1 17 14) - 1))]) [1, 2, 0] rfl ?_
  refine xt_M_lastAt_10 hC p0 σ rb_FU ((σ.1 17 14) - 1) _ _ q9 (fun ht => ?_) (fun ht => ?_)
  · subst ht
    replace h := rb_ifp rfl h
    refine rb_iload_n hC 0 dX12_lastAt_30 rfl ?_
    cases h
    exact rb_iret hC dX12_lastAt_31
  · subst ht
    replace h := rb_ifn (by decide) h
    refine rb_iconst (x := (-1)) hC dX12_lastAt_38 (by decide) ?_
    cases h
    exact rb_iret hC dX12_lastAt_39
theorem xc_M_lastAt (p0 : Int32) (σ : rb_St) (r : Int32) (h : xf_M_lastAt p0 σ = some r) : rb_Con rb_vM yX12_lastAt cX12_lastAt 3 (some .int) 2 (fun w => [.ref (rb_ad w 0), .int p0]) σ (fun _ => (some (.int r))) σ := rb_Con.of (by decide +kernel) (fun _ => Nat.le_of_ble_eq_true rfl) (fun z w hC => xk_M_lastAt hC p0 σ r h)
theorem me_X12_lastAt : Cond.instanceMethod yX12_lastAt ∈ rb_tbl ∧ Cond.selects yX12_lastAt.cls yX12_lastAt yX12_lastAt ∈ rb_tbl ∧ Cond.initialized yX12_lastAt.cls ∈ rb_tbl ∧ Cond.code yX12_lastAt cX12_lastAt 3 (some .int) ∈ rb_tbl ∧ rb_pn yX12_lastAt 1 := ⟨rb_in (by decide +kernel) (by decide +kernel), rb_in (by decide +kernel) (by decide +kernel), rb_in (by decide +kernel) (by decide +kernel), rb_in (by decide +kernel) (by decide +kernel), by decide +kernel, by decide +kernel, by decide +kernel⟩
theorem mv_X12_317 : rb_MV RX12 317 yX12_lastAt cX12_lastAt 3 (some .int) 1 := ⟨rb_in (by decide +kernel) (by decide +kernel), me_X12_lastAt⟩
def xf_M_undoes (p0 : Int32) (σ : rb_St) : Option Int32 := rb_b1 (xf_M_lastAt (p0 / 2) σ) fun r1 => if r1 = (-1) then some (-1) else rb_b1 (xf_M_of r1 0 σ) fun r4 => if r4 = (p0 ^^^ 1) then some r1 else some (-1)
set_option maxHeartbeats 4000000 in
set_option maxRecDepth 100000 in
theorem xk_M_undoes {z : rb_Z} {w : rb_Wd} (hC : rb_Cx z rb_vM w RX12 cX12_undoes 3 (some .int) 3) (p0 : Int32) (σ : rb_St) (r : Int32) (h : xf_M_undoes p0 σ = some r) : rb_At z rb_vM w 3 (rb_Q z rb_vM w (some (.int r)) σ) 0 [(0, .ref (rb_ad w 0)), (1, .int p0)] [] σ := by
  unfold xf_M_undoes at h
  refine rb_aload_n hC 0 dX12_undoes_0 rfl ?_
  refine rb_iload_n hC 1 dX12_undoes_1 rfl ?_
  refine rb_iconst (x := 2) hC dX12_undoes_2 (by decide) ?_
  refine rb_idiv hC dX12_undoes_3 (by decide) ?_
  obtain ⟨r1, q2, h⟩ := rb_b1s h
  refine rb_callVi hC rb_VokM mv_X12_317 (xc_M_lastAt (p0 / 2) σ _ q2) rb_obM0 rfl [.int (p0 / 2)] rfl rfl rfl ⟨Nat.le_of_ble_eq_true rfl, Nat.le_of_ble_eq_true rfl⟩ (Nat.le_of_ble_eq_true rfl) dX12_undoes_4 ?_
  refine rb_istore_n hC [(2, .int r1), (0, .ref (rb_ad w 0)), (1, .int p0)] dX12_undoes_7 (by decide) rfl ?_
  refine rb_iload_n hC 0 dX12_undoes_8 rfl ?_
  refine rb_iconst (x := (-1)) hC dX12_undoes_9 (by decide) ?_
  refine rb_icmp_eq hC 29 dX12_undoes_10 (by decide) (fun c3 => ?_) (fun c3 => ?_)
  · replace h := rb_ifp c3 h
    refine rb_iconst (x := (-1)) hC dX12_undoes_29 (by decide) ?_
    cases h
    exact rb_iret hC dX12_undoes_30
  · replace h := rb_ifn c3 h
    refine rb_aload_n hC 1 dX12_undoes_13 rfl ?_
    refine rb_iload_n hC 0 dX12_undoes_14 rfl ?_
    refine rb_iconst (x := 0) hC dX12_undoes_15 (by decide) ?_
    obtain ⟨r4, q5, h⟩ := rb_b1s h
    refine rb_callVi hC rb_VokM mv_X12_311 (xc_M_of r1 0 σ _ q5) rb_obM0 rfl [.int r1, .int 0] rfl rfl rfl ⟨Nat.le_of_ble_eq_true rfl, Nat.le_of_ble_eq_true rfl⟩ (Nat.le_of_ble_eq_true rfl) dX12_undoes_16 ?_
    refine rb_iload_n hC 2 dX12_undoes_19 rfl ?_
    refine rb_iconst (x := 1) hC dX12_undoes_20 (by decide) ?_
    refine rb_ixor hC dX12_undoes_21 ?_
    refine rb_icmp_ne hC 29 dX12_undoes_22 (by decide) (fun c6 => ?_) (fun c6 => ?_)
    · replace h := rb_ifn c6 h
      refine rb_iconst (x := (-1)) hC dX12_undoes_29 (by decide) ?_
      cases h
      exact rb_iret hC dX12_undoes_30
    · replace h := rb_ifp c6 h
      refine rb_iload_n hC 0 dX12_undoes_25 rfl ?_
      refine rb_goto hC 30 dX12_undoes_26 (by decide) ?_
      cases h
      exact rb_iret hC dX12_undoes_30
theorem xc_M_undoes (p0 : Int32) (σ : rb_St) (r : Int32) (h : xf_M_undoes p0 σ = some r) : rb_Con rb_vM yX12_undoes cX12_undoes 3 (some .int) 3 (fun w => [.ref (rb_ad w 0), .int p0]) σ (fun _ => (some (.int r))) σ := rb_Con.of (by decide +kernel) (fun _ => Nat.le_of_ble_eq_true rfl) (fun z w hC => xk_M_undoes hC p0 σ r h)
theorem mk_X12_320 : Cond.methodLink RX12 320 Lib.Math.max.name ∈ rb_tbl := rb_in (by decide +kernel) (by decide +kernel)
def xl_M_layerAt_4 (x1 : Int32) (σ : rb_St) : Nat → Int32 → Int32 → Option (Int32)
  | 0, _, _ => none
  | n + 1, x2, x3 => if (σ.1 17 14) ≤ x3 then some x2 else rb_b1 (xf_M_of x3 0 σ) fun r2 => rb_b1 (xf_M_touch (r2 / 2) x1 σ) fun r4 => if r4 = 0 then xl_M_layerAt_4 x1 σ n x2 (x3 + 1) else rb_b1 (xf_M_of x3 4 σ) fun r7 => xl_M_layerAt_4 x1 σ n (rb_mx x2 r7) (x3 + 1)
set_option maxHeartbeats 4000000 in
set_option maxRecDepth 100000 in
theorem xt_M_layerAt_4 {z : rb_Z} {w : rb_Wd} {Q : State → Prop} (hC : rb_Cx z rb_vM w RX12 cX12_layerAt 4 (some .int) 2) (x1 : Int32) (σ : rb_St) : ∀ (n : Nat) (x2 : Int32) (x3 : Int32) (y2 : Int32), xl_M_layerAt_4 x1 σ n x2 x3 = some y2 → rb_At z rb_vM w 4 Q 52 [(2, .int y2)] [] σ → rb_At z rb_vM w 4 Q 4 [(0, .ref (rb_ad w 0)), (1, .int x1), (2, .int x2), (3, .int x3)] [] σ := by
  intro n
  induction n with
  | zero =>
    intro x2 x3 y2 h hE0
    cases h
  | succ n ih =>
    intro x2 x3 y2 h hE0
    rw [xl_M_layerAt_4] at h
    refine rb_iload_n hC 3 dX12_layerAt_4 rfl ?_
    refine rb_aload_n hC 0 dX12_layerAt_5 rfl ?_
    refine rb_getR hC fr_X12_58_11 rb_obM0 rfl dX12_layerAt_6 ?_
    refine rb_bipush (x := 14) hC dX12_layerAt_9 (by decide) ?_
    refine rb_iald hC rb_arM17 (rb_ibI (by decide)) dX12_layerAt_11 ?_
    refine rb_icmp_ge hC 52 dX12_layerAt_12 (by decide) (fun c1 => ?_) (fun c1 => ?_)
    · replace h := rb_ifp c1 h
      cases h
      exact rb_sub [2] rfl (hE0)
    · replace h := rb_ifn c1 h
      refine rb_aload_n hC 0 dX12_layerAt_15 rfl ?_
      refine rb_aload_n hC 0 dX12_layerAt_16 rfl ?_
      refine rb_iload_n hC 3 dX12_layerAt_17 rfl ?_
      refine rb_iconst (x := 0) hC dX12_layerAt_18 (by decide) ?_
      obtain ⟨r2, q3, h⟩ := rb_b1s h
      refine rb_callVi hC rb_VokM mv_X12_311 (xc_M_of x3 0 σ _ q3) rb_obM0 rfl [.int x3, .int 0] rfl rfl rfl ⟨Nat.le_of_ble_eq_true rfl, Nat.le_of_ble_eq_true rfl⟩ (Nat.le_of_ble_eq_true rfl) dX12_layerAt_19 ?_
      refine rb_iconst (x := 2) hC dX12_layerAt_22 (by decide) ?_
      refine rb_idiv hC dX12_layerAt_23 (by decide) ?_
      refine rb_iload_n hC 1 dX12_layerAt_24 rfl ?_
      obtain ⟨r4, q5, h⟩ := rb_b1s h
      refine rb_callVi hC rb_VokM mv_X12_314 (xc_M_touch (r2 / 2) x1 σ _ q5) rb_obM0 rfl [.int (r2 / 2), .int x1] rfl rfl rfl ⟨Nat.le_of_ble_eq_true rfl, Nat.le_of_ble_eq_true rfl⟩ (Nat.le_of_ble_eq_true rfl) dX12_layerAt_25 ?_
      refine rb_if_eq hC 44 dX12_layerAt_28 (by decide) (fun c6 => ?_) (fun c6 => ?_)
      · replace h := rb_ifp c6 h
        refine rb_iload_n hC 2 dX12_layerAt_44 rfl ?_
        refine rb_istore_n hC [(2, .int x2), (0, .ref (rb_ad w 0)), (1, .int x1), (3, .int x3)] dX12_layerAt_45 (by decide) rfl ?_
        refine rb_iinc hC 3 [(3, .int (x3 + 1)), (2, .int x2), (0, .ref (rb_ad w 0)), (1, .int x1)] dX12_layerAt_46 rfl rfl (by decide) rfl ?_
        refine rb_goto hC 4 dX12_layerAt_49 (by decide) ?_
        exact rb_sub [2, 3, 1, 0] rfl (ih x2 (x3 + 1) _ h hE0)
      · replace h := rb_ifn c6 h
        refine rb_iload_n hC 2 dX12_layerAt_31 rfl ?_
        refine rb_aload_n hC 0 dX12_layerAt_32 rfl ?_
        refine rb_iload_n hC 3 dX12_layerAt_33 rfl ?_
        refine rb_iconst (x := 4) hC dX12_layerAt_34 (by decide) ?_
        obtain ⟨r7, q8, h⟩ := rb_b1s h
        refine rb_callVi hC rb_VokM mv_X12_311 (xc_M_of x3 4 σ _ q8) rb_obM0 rfl [.int x3, .int 4] rfl rfl rfl ⟨Nat.le_of_ble_eq_true rfl, Nat.le_of_ble_eq_true rfl⟩ (Nat.le_of_ble_eq_true rfl) dX12_layerAt_35 ?_
        refine rb_mmax hC mk_X12_320 ⟨Nat.le_of_ble_eq_true rfl, Nat.le_of_ble_eq_true rfl⟩ dX12_layerAt_38 ?_
        refine rb_goto hC 45 dX12_layerAt_41 (by decide) ?_
        refine rb_istore_n hC [(2, .int (rb_mx x2 r7)), (0, .ref (rb_ad w 0)), (1, .int x1), (3, .int x3)] dX12_layerAt_45 (by decide) rfl ?_
        refine rb_iinc hC 3 [(3, .int (x3 + 1)), (2, .int (rb_mx x2 r7)), (0, .ref (rb_ad w 0)), (1, .int x1)] dX12_layerAt_46 rfl rfl (by decide) rfl ?_
        refine rb_goto hC 4 dX12_layerAt_49 (by decide) ?_
        exact rb_sub [2, 3, 1, 0] rfl (ih (rb_mx x2 r7) (x3 + 1) _ h hE0)
def xf_M_layerAt (p0 : Int32) (σ : rb_St) : Option Int32 := rb_b1 (xl_M_layerAt_4 p0 σ rb_FU 0 0) fun y9 => some (y9 + 1)
set_option maxHeartbeats 4000000 in
set_option maxRecDepth 100000 in
theorem xk_M_layerAt {z : rb_Z} {w : rb_Wd} (hC : rb_Cx z rb_vM w RX12 cX12_layerAt 4 (some .int) 2) (p0 : Int32) (σ : rb_St) (r : Int32) (h : xf_M_layerAt p0 σ = some r) : rb_At z rb_vM w 4 (rb_Q z rb_vM w (some (.int r)) σ) 0 [(0, .ref (rb_ad w 0)), (1, .int p0)] [] σ := by
  unfold xf_M_layerAt at h
  refine rb_iconst (x := 0) hC dX12_layerAt_0 (by decide) ?_
  refine rb_istore_n hC [(2, .int 0), (0, .ref (rb_ad w 0)), (1, .int p0)] dX12_layerAt_1 (by decide) rfl ?_
  refine rb_iconst (x := 0) hC dX12_layerAt_2 (by decide) ?_
  refine rb_istore_n hC [(3, .int 0), (2, .int 0), (0, .ref (rb_ad w 0)), (1, .int p0)] dX12_layerAt_3 (by decide) rfl ?_
  obtain ⟨y9, q10, h⟩ := rb_b1s h
  refine rb_sub (lv2 := [(0, .ref (rb_ad w 0)), (1, .int p0), (2, .int 0), (3, .int 0)]) [2, 3, 1, 0] rfl ?_
  refine xt_M_layerAt_4 hC p0 σ rb_FU 0 0 _ q10 ?_
  refine rb_iload_n hC 0 dX12_layerAt_52 rfl ?_
  refine rb_iconst (x := 1) hC dX12_layerAt_53 (by decide) ?_
  refine rb_iadd hC dX12_layerAt_54 ?_
  cases h
  exact rb_iret hC dX12_layerAt_55
theorem xc_M_layerAt (p0 : Int32) (σ : rb_St) (r : Int32) (h : xf_M_layerAt p0 σ = some r) : rb_Con rb_vM yX12_layerAt cX12_layerAt 4 (some .int) 2 (fun w => [.ref (rb_ad w 0), .int p0]) σ (fun _ => (some (.int r))) σ := rb_Con.of (by decide +kernel) (fun _ => Nat.le_of_ble_eq_true rfl) (fun z w hC => xk_M_layerAt hC p0 σ r h)
def xf_M_overBy (p0 : Int32) (σ : rb_St) : Option Int32 := if (p0 - p0 / 2 * 2) = 0 then if rb_ib (0 + (p0 / 2)) 398 then some (σ.1 17 (0 + (p0 / 2)).toNatClampNeg) else none else rb_b1 (xf_M_nextPlace (p0 / 2) σ) fun r2 => if rb_ib (0 + r2) 398 then some (σ.1 17 (0 + r2).toNatClampNeg) else none
set_option maxHeartbeats 4000000 in
set_option maxRecDepth 100000 in
theorem xk_M_overBy {z : rb_Z} {w : rb_Wd} (hC : rb_Cx z rb_vM w RX12 cX12_overBy 2 (some .int) 1) (p0 : Int32) (σ : rb_St) (r : Int32) (h : xf_M_overBy p0 σ = some r) : rb_At z rb_vM w 2 (rb_Q z rb_vM w (some (.int r)) σ) 0 [(0, .ref (rb_ad w 0)), (1, .int p0)] [] σ := by
  unfold xf_M_overBy at h
  refine rb_aload_n hC 0 dX12_overBy_0 rfl ?_
  refine rb_getR hC fr_X12_58_11 rb_obM0 rfl dX12_overBy_1 ?_
  refine rb_iconst (x := 0) hC dX12_overBy_4 (by decide) ?_
  refine rb_iload_n hC 1 dX12_overBy_5 rfl ?_
  refine rb_iconst (x := 2) hC dX12_overBy_6 (by decide) ?_
  refine rb_irem hC dX12_overBy_7 (by decide) ?_
  refine rb_if_ne hC 17 dX12_overBy_8 (by decide) (fun c1 => ?_) (fun c1 => ?_)
  · replace h := rb_ifn c1 h
    refine rb_aload_n hC 0 dX12_overBy_17 rfl ?_
    refine rb_iload_n hC 1 dX12_overBy_18 rfl ?_
    refine rb_iconst (x := 2) hC dX12_overBy_19 (by decide) ?_
    refine rb_idiv hC dX12_overBy_20 (by decide) ?_
    obtain ⟨r2, q3, h⟩ := rb_b1s h
    refine rb_callVi hC rb_VokM mv_X12_308 (xc_M_nextPlace (p0 / 2) σ _ q3) rb_obM0 rfl [.int (p0 / 2)] rfl rfl rfl ⟨Nat.le_of_ble_eq_true rfl, Nat.le_of_ble_eq_true rfl⟩ (Nat.le_of_ble_eq_true rfl) dX12_overBy_21 ?_
    refine rb_iadd hC dX12_overBy_24 ?_
    obtain ⟨g4, h⟩ := rb_gd h
    refine rb_iald hC rb_arM17 (rb_ibI g4) dX12_overBy_25 ?_
    cases h
    exact rb_iret hC dX12_overBy_26
  · replace h := rb_ifp c1 h
    refine rb_iload_n hC 1 dX12_overBy_11 rfl ?_
    refine rb_iconst (x := 2) hC dX12_overBy_12 (by decide) ?_
    refine rb_idiv hC dX12_overBy_13 (by decide) ?_
    refine rb_goto hC 24 dX12_overBy_14 (by decide) ?_
    refine rb_iadd hC dX12_overBy_24 ?_
    obtain ⟨g5, h⟩ := rb_gd h
    refine rb_iald hC rb_arM17 (rb_ibI g5) dX12_overBy_25 ?_
    cases h
    exact rb_iret hC dX12_overBy_26
theorem xc_M_overBy (p0 : Int32) (σ : rb_St) (r : Int32) (h : xf_M_overBy p0 σ = some r) : rb_Con rb_vM yX12_overBy cX12_overBy 2 (some .int) 1 (fun w => [.ref (rb_ad w 0), .int p0]) σ (fun _ => (some (.int r))) σ := rb_Con.of (by decide +kernel) (fun _ => Nat.le_of_ble_eq_true rfl) (fun z w hC => xk_M_overBy hC p0 σ r h)
theorem me_X12_overBy : Cond.instanceMethod yX12_overBy ∈ rb_tbl ∧ Cond.selects yX12_overBy.cls yX12_overBy yX12_overBy ∈ rb_tbl ∧ Cond.initialized yX12_overBy.cls ∈ rb_tbl ∧ Cond.code yX12_overBy cX12_overBy 2 (some .int) ∈ rb_tbl ∧ rb_pn yX12_overBy 1 := ⟨rb_in (by decide +kernel) (by decide +kernel), rb_in (by decide +kernel) (by decide +kernel), rb_in (by decide +kernel) (by decide +kernel), rb_in (by decide +kernel) (by decide +kernel), by decide +kernel, by decide +kernel, by decide +kernel⟩
theorem mv_X12_322 : rb_MV RX12 322 yX12_overBy cX12_overBy 2 (some .int) 1 := ⟨rb_in (by decide +kernel) (by decide +kernel), me_X12_overBy⟩
def xf_M_underBy (p0 : Int32) (σ : rb_St) : Option Int32 := rb_b1 (xf_M_overBy (p0 ^^^ 1) σ) fun r1 => some r1
set_option maxHeartbeats 4000000 in
set_option maxRecDepth 100000 in
theorem xk_M_underBy {z : rb_Z} {w : rb_Wd} (hC : rb_Cx z rb_vM w RX12 cX12_underBy 2 (some .int) 2) (p0 : Int32) (σ : rb_St) (r : Int32) (h : xf_M_underBy p0 σ = some r) : rb_At z rb_vM w 2 (rb_Q z rb_vM w (some (.int r)) σ) 0 [(0, .ref (rb_ad w 0)), (1, .int p0)] [] σ := by
  unfold xf_M_underBy at h
  refine rb_aload_n hC 0 dX12_underBy_0 rfl ?_
  refine rb_iload_n hC 1 dX12_underBy_1 rfl ?_
  refine rb_iconst (x := 1) hC dX12_underBy_2 (by decide) ?_
  refine rb_ixor hC dX12_underBy_3 ?_
  obtain ⟨r1, q2, h⟩ := rb_b1s h
  refine rb_callVi hC rb_VokM mv_X12_322 (xc_M_overBy (p0 ^^^ 1) σ _ q2) rb_obM0 rfl [.int (p0 ^^^ 1)] rfl rfl rfl ⟨Nat.le_of_ble_eq_true rfl, Nat.le_of_ble_eq_true rfl⟩ (Nat.le_of_ble_eq_true rfl) dX12_underBy_4 ?_
  cases h
  exact rb_iret hC dX12_underBy_7
theorem xc_M_underBy (p0 : Int32) (σ : rb_St) (r : Int32) (h : xf_M_underBy p0 σ = some r) : rb_Con rb_vM yX12_underBy cX12_underBy 2 (some .int) 2 (fun w => [.ref (rb_ad w 0), .int p0]) σ (fun _ => (some (.int r))) σ := rb_Con.of (by decide +kernel) (fun _ => Nat.le_of_ble_eq_true rfl) (fun z w hC => xk_M_underBy hC p0 σ r h)
theorem fr_X12_46_11 : rb_FR RX12 46 11 20 := ⟨RX12, TX12, 50, "RibbonPoleModel", rfl, rb_uX12, by decide, rb_in (by decide +kernel) (by decide +kernel), Or.inl rfl⟩
theorem fr_X12_64_11 : rb_FR RX12 64 11 29 := ⟨RX12, TX12, 50, "RibbonPoleModel", rfl, rb_uX12, by decide, rb_in (by decide +kernel) (by decide +kernel), Or.inl rfl⟩
theorem me_X12_told : Cond.instanceMethod yX12_told ∈ rb_tbl ∧ Cond.selects yX12_told.cls yX12_told yX12_told ∈ rb_tbl ∧ Cond.initialized yX12_told.cls ∈ rb_tbl ∧ Cond.code yX12_told cX12_told 3 (some .int) ∈ rb_tbl ∧ rb_pn yX12_told 2 := ⟨rb_in (by decide +kernel) (by decide +kernel), rb_in (by decide +kernel) (by decide +kernel), rb_in (by decide +kernel) (by decide +kernel), rb_in (by decide +kernel) (by decide +kernel), by decide +kernel, by decide +kernel, by decide +kernel⟩
theorem mv_X12_286 : rb_MV RX12 286 yX12_told cX12_told 3 (some .int) 2 := ⟨rb_in (by decide +kernel) (by decide +kernel), me_X12_told⟩
theorem me_X12_underBy : Cond.instanceMethod yX12_underBy ∈ rb_tbl ∧ Cond.selects yX12_underBy.cls yX12_underBy yX12_underBy ∈ rb_tbl ∧ Cond.initialized yX12_underBy.cls ∈ rb_tbl ∧ Cond.code yX12_underBy cX12_underBy 2 (some .int) ∈ rb_tbl ∧ rb_pn yX12_underBy 1 := ⟨rb_in (by decide +kernel) (by decide +kernel), rb_in (by decide +kernel) (by decide +kernel), rb_in (by decide +kernel) (by decide +kernel), rb_in (by decide +kernel) (by decide +kernel), by decide +kernel, by decide +kernel, by decide +kernel⟩
theorem mv_X12_325 : rb_MV RX12 325 yX12_underBy cX12_underBy 2 (some .int) 1 := ⟨rb_in (by decide +kernel) (by decide +kernel), me_X12_underBy⟩
theorem me_X12_layerAt : Cond.instanceMethod yX12_layerAt ∈ rb_tbl ∧ Cond.selects yX12_layerAt.cls yX12_layerAt yX12_layerAt ∈ rb_tbl ∧ Cond.initialized yX12_layerAt.cls ∈ rb_tbl ∧ Cond.code yX12_layerAt cX12_layerAt 4 (some .int) ∈ rb_tbl ∧ rb_pn yX12_layerAt 1 := ⟨rb_in (by decide +kernel) (by decide +kernel), rb_in (by decide +kernel) (by decide +kernel), rb_in (by decide +kernel) (by decide +kernel), rb_in (by decide +kernel) (by decide +kernel), by decide +kernel, by decide +kernel, by decide +kernel⟩
theorem mv_X12_328 : rb_MV RX12 328 yX12_layerAt cX12_layerAt 4 (some .int) 1 := ⟨rb_in (by decide +kernel) (by decide +kernel), me_X12_layerAt⟩
theorem me_X12_worthOf : Cond.instanceMethod yX12_worthOf ∈ rb_tbl ∧ Cond.selects yX12_worthOf.cls yX12_worthOf yX12_worthOf ∈ rb_tbl ∧ Cond.initialized yX12_worthOf.cls ∈ rb_tbl ∧ Cond.code yX12_worthOf cX12_worthOf 3 (some .int) ∈ rb_tbl ∧ rb_pn yX12_worthOf 1 := ⟨rb_in (by decide +kernel) (by decide +kernel), rb_in (by decide +kernel) (by decide +kernel), rb_in (by decide +kernel) (by decide +kernel), rb_in (by decide +kernel) (by decide +kernel), by decide +kernel, by decide +kernel, by decide +kernel⟩
theorem mv_X12_331 : rb_MV RX12 331 yX12_worthOf cX12_worthOf 3 (some .int) 1 := ⟨rb_in (by decide +kernel) (by decide +kernel), me_X12_worthOf⟩
def xf_M_takesBy (p0 : Int32) (σ : rb_St) : Option (Int32 × rb_St) := if (σ.1 0 29) = (-1) then some (rb_mx 1 (rb_mn 9 (σ.1 13 0)), σ) else rb_lt (rb_sI σ 9 0 (σ.1 13 0)) (fun s2 => rb_b1 (xf_M_overBy p0 s2) fun r4 => rb_b1 (xf_M_told r4 2 s2) fun r6 => rb_lt (rb_sI s2 9 1 r6) (fun s8 => rb_b1 (xf_M_underBy p0 s8) fun r10 => rb_b1 (xf_M_told r10 2 s8) fun r12 => rb_lt (rb_sI s8 9 2 r12) (fun s14 => rb_lt (rb_sI s14 9 3 (s14.1 17 14)) (fun s16 => rb_b1 (xf_M_layerAt (p0 / 2) s16) fun r18 => rb_lt (rb_sI s16 9 4 r18) (fun s20 => rb_lt (rb_sI s20 9 5 ((s20.1 17 216) - (s20.1 17 216) / 100 * 100)) (fun s22 => rb_b2 (xf_M_worthOf (s22.1 0 29) s22) fun r26 s24 => some (rb_mx 1 (rb_mn 9 r26), s24)))))))
set_option maxHeartbeats 4000000 in
set_option maxRecDepth 100000 in
theorem xk_M_takesBy {z : rb_Z} {w : rb_Wd} (hC : rb_Cx z rb_vM w RX12 cX12_takesBy 3 (some .int) 5) (p0 : Int32) (σ : rb_St) (r : Int32) (σ9 : rb_St) (h : xf_M_takesBy p0 σ = some (r, σ9)) : rb_At z rb_vM w 3 (rb_Q z rb_vM w (some (.int r)) σ9) 0 [(0, .ref (rb_ad w 0)), (1, .int p0)] [] σ := by
  unfold xf_M_takesBy at h
  refine rb_aload_n hC 0 dX12_takesBy_0 rfl ?_
  refine rb_getR hC fr_X12_46_11 rb_obM0 rfl dX12_takesBy_1 ?_
  refine rb_iconst (x := 0) hC dX12_takesBy_4 (by decide) ?_
  refine rb_iald hC rb_arM13 (rb_ibI (by decide)) dX12_takesBy_5 ?_
  refine rb_istore_n hC [(2, .int (σ.1 13 0)), (0, .ref (rb_ad w 0)), (1, .int p0)] dX12_takesBy_6 (by decide) rfl ?_
  refine rb_aload_n hC 1 dX12_takesBy_7 rfl ?_
  refine rb_getI hC fr_X12_64_11 rb_obM0 rfl dX12_takesBy_8 ?_
  refine rb_iconst (x := (-1)) hC dX12_takesBy_11 (by decide) ?_
  refine rb_icmp_eq hC 111 dX12_takesBy_12 (by decide) (fun c1 => ?_) (fun c1 => ?_)
  · replace h := rb_ifp c1 h
    refine rb_iconst (x := 1) hC dX12_takesBy_111 (by decide) ?_
    refine rb_bipush (x := 9) hC dX12_takesBy_112 (by decide) ?_
    refine rb_iload_n hC 0 dX12_takesBy_114 rfl ?_
    refine rb_mmin hC mk_X12_260 ⟨Nat.le_of_ble_eq_true rfl, Nat.le_of_ble_eq_true rfl⟩ dX12_takesBy_115 ?_
    refine rb_mmax hC mk_X12_320 ⟨Nat.le_of_ble_eq_true rfl, Nat.le_of_ble_eq_true rfl⟩ dX12_takesBy_118 ?_
    cases h
    exact rb_iret hC dX12_takesBy_121
  · replace h := rb_ifn c1 h
    refine rb_aload_n hC 1 dX12_takesBy_15 rfl ?_
    refine rb_getR hC fr_X12_34_11 rb_obM0 rfl dX12_takesBy_16 ?_
    refine rb_iconst (x := 0) hC dX12_takesBy_19 (by decide) ?_
    refine rb_aload_n hC 1 dX12_takesBy_20 rfl ?_
    refine rb_getR hC fr_X12_46_11 rb_obM0 rfl dX12_takesBy_21 ?_
    refine rb_iconst (x := 0) hC dX12_takesBy_24 (by decide) ?_
    refine rb_iald hC rb_arM13 (rb_ibI (by decide)) dX12_takesBy_25 ?_
    refine rb_iast hC rb_arM9 (rb_ibI (by decide)) dX12_takesBy_26 ?_
    obtain ⟨s2, e3, h⟩ := rb_ltE h
    refine rb_nmS e3 ?_
    refine rb_aload_n hC 1 dX12_takesBy_27 rfl ?_
    refine rb_getR hC fr_X12_34_11 rb_obM0 rfl dX12_takesBy_28 ?_
    refine rb_iconst (x := 1) hC dX12_takesBy_31 (by decide) ?_
    refine rb_aload_n hC 1 dX12_takesBy_32 rfl ?_
    refine rb_aload_n hC 1 dX12_takesBy_33 rfl ?_
    refine rb_iload_n hC 2 dX12_takesBy_34 rfl ?_
    obtain ⟨r4, q5, h⟩ := rb_b1s h
    refine rb_callVi hC rb_VokM mv_X12_322 (xc_M_overBy p0 s2 _ q5) rb_obM0 rfl [.int p0] rfl rfl rfl ⟨Nat.le_of_ble_eq_true rfl, Nat.le_of_ble_eq_true rfl⟩ (Nat.le_of_ble_eq_true rfl) dX12_takesBy_35 ?_
    refine rb_iconst (x := 2) hC dX12_takesBy_38 (by decide) ?_
    obtain ⟨r6, q7, h⟩ := rb_b1s h
    refine rb_callVi hC rb_VokM mv_X12_286 (xc_M_told r4 2 s2 _ q7) rb_obM0 rfl [.int r4, .int 2] rfl rfl rfl ⟨Nat.le_of_ble_eq_true rfl, Nat.le_of_ble_eq_true rfl⟩ (Nat.le_of_ble_eq_true rfl) dX12_takesBy_39 ?_
    refine rb_iast hC rb_arM9 (rb_ibI (by decide)) dX12_takesBy_42 ?_
    obtain ⟨s8, e9, h⟩ := rb_ltE h
    refine rb_nmS e9 ?_
    refine rb_aload_n hC 1 dX12_takesBy_43 rfl ?_
    refine rb_getR hC fr_X12_34_11 rb_obM0 rfl dX12_takesBy_44 ?_
    refine rb_iconst (x := 2) hC dX12_takesBy_47 (by decide) ?_
    refine rb_aload_n hC 1 dX12_takesBy_48 rfl ?_
    refine rb_aload_n hC 1 dX12_takesBy_49 rfl ?_
    refine rb_iload_n hC 2 dX12_takesBy_50 rfl ?_
    obtain ⟨r10, q11, h⟩ := rb_b1s h
    refine rb_callVi hC rb_VokM mv_X12_325 (xc_M_underBy p0 s8 _ q11) rb_obM0 rfl [.int p0] rfl rfl rfl ⟨Nat.le_of_ble_eq_true rfl, Nat.le_of_ble_eq_true rfl⟩ (Nat.le_of_ble_eq_true rfl) dX12_takesBy_51 ?_
    refine rb_iconst (x := 2) hC dX12_takesBy_54 (by decide) ?_
    obtain ⟨r12, q13, h⟩ := rb_b1s h
    refine rb_callVi hC rb_VokM mv_X12_286 (xc_M_told r10 2 s8 _ q13) rb_obM0 rfl [.int r10, .int 2] rfl rfl rfl ⟨Nat.le_of_ble_eq_true rfl, Nat.le_of_ble_eq_true rfl⟩ (Nat.le_of_ble_eq_true rfl) dX12_takesBy_55 ?_
    refine rb_iast hC rb_arM9 (rb_ibI (by decide)) dX12_takesBy_58 ?_
    obtain ⟨s14, e15, h⟩ := rb_ltE h
    refine rb_nmS e15 ?_
    refine rb_aload_n hC 1 dX12_takesBy_59 rfl ?_
    refine rb_getR hC fr_X12_34_11 rb_obM0 rfl dX12_takesBy_60 ?_
    refine rb_iconst (x := 3) hC dX12_takesBy_63 (by decide) ?_
    refine rb_aload_n hC 1 dX12_takesBy_64 rfl ?_
    refine rb_getR hC fr_X12_58_11 rb_obM0 rfl dX12_takesBy_65 ?_
    refine rb_bipush (x := 14) hC dX12_takesBy_68 (by decide) ?_
    refine rb_iald hC rb_arM17 (rb_ibI (by decide)) dX12_takesBy_70 ?_
    refine rb_iast hC rb_arM9 (rb_ibI (by decide)) dX12_takesBy_71 ?_
    obtain ⟨s16, e17, h⟩ := rb_ltE h
    refine rb_nmS e17 ?_
    refine rb_aload_n hC 1 dX12_takesBy_72 rfl ?_
    refine rb_getR hC fr_X12_34_11 rb_obM0 rfl dX12_takesBy_73 ?_
    refine rb_iconst (x := 4) hC dX12_takesBy_76 (by decide) ?_
    refine rb_aload_n hC 1 dX12_takesBy_77 rfl ?_
    refine rb_iload_n hC 2 dX12_takesBy_78 rfl ?_
    refine rb_iconst (x := 2) hC dX12_takesBy_79 (by decide) ?_
    refine rb_idiv hC dX12_takesBy_80 (by decide) ?_
    obtain ⟨r18, q19, h⟩ := rb_b1s h
    refine rb_callVi hC rb_VokM mv_X12_328 (xc_M_layerAt (p0 / 2) s16 _ q19) rb_obM0 rfl [.int (p0 / 2)] rfl rfl rfl ⟨Nat.le_of_ble_eq_true rfl, Nat.le_of_ble_eq_true rfl⟩ (Nat.le_of_ble_eq_true rfl) dX12_takesBy_81 ?_
    refine rb_iast hC rb_arM9 (rb_ibI (by decide)) dX12_takesBy_84 ?_
    obtain ⟨s20, e21, h⟩ := rb_ltE h
    refine rb_nmS e21 ?_
    refine rb_aload_n hC 1 dX12_takesBy_85 rfl ?_
    refine rb_getR hC fr_X12_34_11 rb_obM0 rfl dX12_takesBy_86 ?_
    refine rb_iconst (x := 5) hC dX12_takesBy_89 (by decide) ?_
    refine rb_aload_n hC 1 dX12_takesBy_90 rfl ?_
    refine rb_getR hC fr_X12_58_11 rb_obM0 rfl dX12_takesBy_91 ?_
    refine rb_sipush (x := 216) hC dX12_takesBy_94 (by decide) ?_
    refine rb_iald hC rb_arM17 (rb_ibI (by decide)) dX12_takesBy_97 ?_
    refine rb_bipush (x := 100) hC dX12_takesBy_98 (by decide) ?_
    refine rb_irem hC dX12_takesBy_100 (by decide) ?_
    refine rb_iast hC rb_arM9 (rb_ibI (by decide)) dX12_takesBy_101 ?_
    obtain ⟨s22, e23, h⟩ := rb_ltE h
    refine rb_nmS e23 ?_
    refine rb_aload_n hC 1 dX12_takesBy_102 rfl ?_
    refine rb_aload_n hC 1 dX12_takesBy_103 rfl ?_
    refine rb_getI hC fr_X12_64_11 rb_obM0 rfl dX12_takesBy_104 ?_
    obtain ⟨r26, s24, q25, h⟩ := rb_b2s h
    refine rb_callVi hC rb_VokM mv_X12_331 (xc_M_worthOf (s22.1 0 29) s22 _ _ q25) rb_obM0 rfl [.int (s22.1 0 29)] rfl rfl rfl ⟨Nat.le_of_ble_eq_true rfl, Nat.le_of_ble_eq_true rfl⟩ (Nat.le_of_ble_eq_true rfl) dX12_takesBy_107 ?_
    refine rb_istore_n hC [(2, .int r26), (0, .ref (rb_ad w 0)), (1, .int p0)] dX12_takesBy_110 (by decide) rfl ?_
    refine rb_iconst (x := 1) hC dX12_takesBy_111 (by decide) ?_
    refine rb_bipush (x := 9) hC dX12_takesBy_112 (by decide) ?_
    refine rb_iload_n hC 0 dX12_takesBy_114 rfl ?_
    refine rb_mmin hC mk_X12_260 ⟨Nat.le_of_ble_eq_true rfl, Nat.le_of_ble_eq_true rfl⟩ dX12_takesBy_115 ?_
    refine rb_mmax hC mk_X12_320 ⟨Nat.le_of_ble_eq_true rfl, Nat.le_of_ble_eq_true rfl⟩ dX12_takesBy_118 ?_
    cases h
    exact rb_iret hC dX12_takesBy_121
theorem xc_M_takesBy (p0 : Int32) (σ : rb_St) (r : Int32) (σ9 : rb_St) (h : xf_M_takesBy p0 σ = some (r, σ9)) : rb_Con rb_vM yX12_takesBy cX12_takesBy 3 (some .int) 5 (fun w => [.ref (rb_ad w 0), .int p0]) σ (fun _ => (some (.int r))) σ9 := rb_Con.of (by decide +kernel) (fun _ => Nat.le_of_ble_eq_true rfl) (fun z w hC => xk_M_takesBy hC p0 σ r σ9 h)
def xl_M_takenOf_4 (x1 : Int32) (σ : rb_St) : Nat → Int32 → Int32 → Option (Int32)
  | 0, _, _ => none
  | n + 1, x2, x3 => if (σ.1 17 14) ≤ x3 then some x2 else rb_b1 (xf_M_of x3 1 σ) fun r2 => if r2 = x1 then rb_b1 (xf_M_of x3 3 σ) fun r5 => xl_M_takenOf_4 x1 σ n (x2 + r5) (x3 + 1) else rb_b1 (xf_M_of x3 2 σ) fun r7 => if r7 = x1 then rb_b1 (xf_M_of x3 3 σ) fun r10 => xl_M_takenOf_4 x1 σ n (x2 + r10) (x3 + 1) else xl_M_takenOf_4 x1 σ n (x2 + 0) (x3 + 1)
set_option maxHeartbeats 4000000 in
set_option maxRecDepth 100000 in
theorem xt_M_takenOf_4 {z : rb_Z} {w : rb_Wd} {Q : State → Prop} (hC : rb_Cx z rb_vM w RX12 cX12_takenOf 4 (some .int) 1) (x1 : Int32) (σ : rb_St) : ∀ (n : Nat) (x2 : Int32) (x3 : Int32) (y2 : Int32), xl_M_takenOf_4 x1 σ n x2 x3 = some y2 → rb_At z rb_vM w 4 Q 54 [(2, .int y2)] [] σ → rb_At z rb_vM w 4 Q 4 [(0, .ref (rb_ad w 0)), (1, .int x1), (2, .int x2), (3, .int x3)] [] σ := by
  intro n
  induction n with
  | zero =>
    intro x2 x3 y2 h hE0
    cases h
  | succ n ih =>
    intro x2 x3 y2 h hE0
    rw [xl_M_takenOf_4] at h
    refine rb_iload_n hC 3 dX12_takenOf_4 rfl ?_
    refine rb_aload_n hC 0 dX12_takenOf_5 rfl ?_
    refine rb_getR hC fr_X12_58_11 rb_obM0 rfl dX12_takenOf_6 ?_
    refine rb_bipush (x := 14) hC dX12_takenOf_9 (by decide) ?_
    refine rb_iald hC rb_arM17 (rb_ibI (by decide)) dX12_takenOf_11 ?_
    refine rb_icmp_ge hC 54 dX12_takenOf_12 (by decide) (fun c1 => ?_) (fun c1 => ?_)
    · replace h := rb_ifp c1 h
      cases h
      exact rb_sub [2] rfl (hE0)
    · replace h := rb_ifn c1 h
      refine rb_iload_n hC 2 dX12_takenOf_15 rfl ?_
      refine rb_aload_n hC 0 dX12_takenOf_16 rfl ?_
      refine rb_iload_n hC 3 dX12_takenOf_17 rfl ?_
      refine rb_iconst (x := 1) hC dX12_takenOf_18 (by decide) ?_
      obtain ⟨r2, q3, h⟩ := rb_b1s h
      refine rb_callVi hC rb_VokM mv_X12_311 (xc_M_of x3 1 σ _ q3) rb_obM0 rfl [.int x3, .int 1] rfl rfl rfl ⟨Nat.le_of_ble_eq_true rfl, Nat.le_of_ble_eq_true rfl⟩ (Nat.le_of_ble_eq_true rfl) dX12_takenOf_19 ?_
      refine rb_iload_n hC 1 dX12_takenOf_22 rfl ?_
      refine rb_icmp_eq hC 36 dX12_takenOf_23 (by decide) (fun c4 => ?_) (fun c4 => ?_)
      · replace h := rb_ifp c4 h
        refine rb_aload_n hC 0 dX12_takenOf_36 rfl ?_
        refine rb_iload_n hC 3 dX12_takenOf_37 rfl ?_
        refine rb_iconst (x := 3) hC dX12_takenOf_38 (by decide) ?_
        obtain ⟨r5, q6, h⟩ := rb_b1s h
        refine rb_callVi hC rb_VokM mv_X12_311 (xc_M_of x3 3 σ _ q6) rb_obM0 rfl [.int x3, .int 3] rfl rfl rfl ⟨Nat.le_of_ble_eq_true rfl, Nat.le_of_ble_eq_true rfl⟩ (Nat.le_of_ble_eq_true rfl) dX12_takenOf_39 ?_
        refine rb_goto hC 46 dX12_takenOf_42 (by decide) ?_
        refine rb_iadd hC dX12_takenOf_46 ?_
        refine rb_istore_n hC [(2, .int (x2 + r5)), (0, .ref (rb_ad w 0)), (1, .int x1), (3, .int x3)] dX12_takenOf_47 (by decide) rfl ?_
        refine rb_iinc hC 3 [(3, .int (x3 + 1)), (2, .int (x2 + r5)), (0, .ref (rb_ad w 0)), (1, .int x1)] dX12_takenOf_48 rfl rfl (by decide) rfl ?_
        refine rb_goto hC 4 dX12_takenOf_51 (by decide) ?_
        exact rb_sub [2, 3, 1, 0] rfl (ih (x2 + r5) (x3 + 1) _ h hE0)
      · replace h := rb_ifn c4 h
        refine rb_aload_n hC 0 dX12_takenOf_26 rfl ?_
        refine rb_iload_n hC 3 dX12_takenOf_27 rfl ?_
        refine rb_iconst (x := 2) hC dX12_takenOf_28 (by decide) ?_
        obtain ⟨r7, q8, h⟩ := rb_b1s h
        refine rb_callVi hC rb_VokM mv_X12_311 (xc_M_of x3 2 σ _ q8) rb_obM0 rfl [.int x3, .int 2] rfl rfl rfl ⟨Nat.le_of_ble_eq_true rfl, Nat.le_of_ble_eq_true rfl⟩ (Nat.le_of_ble_eq_true rfl) dX12_takenOf_29 ?_
        refine rb_iload_n hC 1 dX12_takenOf_32 rfl ?_
        refine rb_icmp_ne hC 45 dX12_takenOf_33 (by decide) (fun c9 => ?_) (fun c9 => ?_)
        · replace h := rb_ifn c9 h
          refine rb_iconst (x := 0) hC dX12_takenOf_45 (by decide) ?_
          refine rb_iadd hC dX12_takenOf_46 ?_
          refine rb_istore_n hC [(2, .int (x2 + 0)), (0, .ref (rb_ad w 0)), (1, .int x1), (3, .int x3)] dX12_takenOf_47 (by decide) rfl ?_
          refine rb_iinc hC 3 [(3, .int (x3 + 1)), (2, .int (x2 + 0)), (0, .ref (rb_ad w 0)), (1, .int x1)] dX12_takenOf_48 rfl rfl (by decide) rfl ?_
          refine rb_goto hC 4 dX12_takenOf_51 (by decide) ?_
          exact rb_sub [2, 3, 1, 0] rfl (ih (x2 + 0) (x3 + 1) _ h hE0)
        · replace h := rb_ifp c9 h
          refine rb_aload_n hC 0 dX12_takenOf_36 rfl ?_
          refine rb_iload_n hC 3 dX12_takenOf_37 rfl ?_
          refine rb_iconst (x := 3) hC dX12_takenOf_38 (by decide) ?_
          obtain ⟨r10, q11, h⟩ := rb_b1s h
          refine rb_callVi hC rb_VokM mv_X12_311 (xc_M_of x3 3 σ _ q11) rb_obM0 rfl [.int x3, .int 3] rfl rfl rfl ⟨Nat.le_of_ble_eq_true rfl, Nat.le_of_ble_eq_true rfl⟩ (Nat.le_of_ble_eq_true rfl) dX12_takenOf_39 ?_
          refine rb_goto hC 46 dX12_takenOf_42 (by decide) ?_
          refine rb_iadd hC dX12_takenOf_46 ?_
          refine rb_istore_n hC [(2, .int (x2 + r10)), (0, .ref (rb_ad w 0)), (1, .int x1), (3, .int x3)] dX12_takenOf_47 (by decide) rfl ?_
          refine rb_iinc hC 3 [(3, .int (x3 + 1)), (2, .int (x2 + r10)), (0, .ref (rb_ad w 0)), (1, .int x1)] dX12_takenOf_48 rfl rfl (by decide) rfl ?_
          refine rb_goto hC 4 dX12_takenOf_51 (by decide) ?_
          exact rb_sub [2, 3, 1, 0] rfl (ih (x2 + r10) (x3 + 1) _ h hE0)
def xf_M_takenOf (p0 : Int32) (σ : rb_St) : Option Int32 := rb_b1 (xl_M_takenOf_4 p0 σ rb_FU 0 0) fun y12 => some y12
set_option maxHeartbeats 4000000 in
set_option maxRecDepth 100000 in
theorem xk_M_takenOf {z : rb_Z} {w : rb_Wd} (hC : rb_Cx z rb_vM w RX12 cX12_takenOf 4 (some .int) 1) (p0 : Int32) (σ : rb_St) (r : Int32) (h : xf_M_takenOf p0 σ = some r) : rb_At z rb_vM w 4 (rb_Q z rb_vM w (some (.int r)) σ) 0 [(0, .ref (rb_ad w 0)), (1, .int p0)] [] σ := by
  unfold xf_M_takenOf at h
  refine rb_iconst (x := 0) hC dX12_takenOf_0 (by decide) ?_
  refine rb_istore_n hC [(2, .int 0), (0, .ref (rb_ad w 0)), (1, .int p0)] dX12_takenOf_1 (by decide) rfl ?_
  refine rb_iconst (x := 0) hC dX12_takenOf_2 (by decide) ?_
  refine rb_istore_n hC [(3, .int 0), (2, .int 0), (0, .ref (rb_ad w 0)), (1, .int p0)] dX12_takenOf_3 (by decide) rfl ?_
  obtain ⟨y12, q13, h⟩ := rb_b1s h
  refine rb_sub (lv2 := [(0, .ref (rb_ad w 0)), (1, .int p0), (2, .int 0), (3, .int 0)]) [2, 3, 1, 0] rfl ?_
  refine xt_M_takenOf_4 hC p0 σ rb_FU 0 0 _ q13 ?_
  refine rb_iload_n hC 0 dX12_takenOf_54 rfl ?_
  cases h
  exact rb_iret hC dX12_takenOf_55
theorem xc_M_takenOf (p0 : Int32) (σ : rb_St) (r : Int32) (h : xf_M_takenOf p0 σ = some r) : rb_Con rb_vM yX12_takenOf cX12_takenOf 4 (some .int) 1 (fun w => [.ref (rb_ad w 0), .int p0]) σ (fun _ => (some (.int r))) σ := rb_Con.of (by decide +kernel) (fun _ => Nat.le_of_ble_eq_true rfl) (fun z w hC => xk_M_takenOf hC p0 σ r h)
theorem me_X12_takenOf : Cond.instanceMethod yX12_takenOf ∈ rb_tbl ∧ Cond.selects yX12_takenOf.cls yX12_takenOf yX12_takenOf ∈ rb_tbl ∧ Cond.initialized yX12_takenOf.cls ∈ rb_tbl ∧ Cond.code yX12_takenOf cX12_takenOf 4 (some .int) ∈ rb_tbl ∧ rb_pn yX12_takenOf 1 := ⟨rb_in (by decide +kernel) (by decide +kernel), rb_in (by decide +kernel) (by decide +kernel), rb_in (by decide +kernel) (by decide +kernel), rb_in (by decide +kernel) (by decide +kernel), by decide +kernel, by decide +kernel, by decide +kernel⟩
theorem mv_X12_334 : rb_MV RX12 334 yX12_takenOf cX12_takenOf 4 (some .int) 1 := ⟨rb_in (by decide +kernel) (by decide +kernel), me_X12_takenOf⟩
def xf_M_leftOf (p0 : Int32) (σ : rb_St) : Option Int32 := if rb_ib (7 + p0) 398 then rb_b1 (xf_M_takenOf p0 σ) fun r2 => some ((σ.1 17 (7 + p0).toNatClampNeg) - r2) else none
set_option maxHeartbeats 4000000 in
set_option maxRecDepth 100000 in
theorem xk_M_leftOf {z : rb_Z} {w : rb_Wd} (hC : rb_Cx z rb_vM w RX12 cX12_leftOf 2 (some .int) 2) (p0 : Int32) (σ : rb_St) (r : Int32) (h : xf_M_leftOf p0 σ = some r) : rb_At z rb_vM w 2 (rb_Q z rb_vM w (some (.int r)) σ) 0 [(0, .ref (rb_ad w 0)), (1, .int p0)] [] σ := by
  unfold xf_M_leftOf at h
  refine rb_aload_n hC 0 dX12_leftOf_0 rfl ?_
  refine rb_getR hC fr_X12_58_11 rb_obM0 rfl dX12_leftOf_1 ?_
  refine rb_bipush (x := 7) hC dX12_leftOf_4 (by decide) ?_
  refine rb_iload_n hC 1 dX12_leftOf_6 rfl ?_
  refine rb_iadd hC dX12_leftOf_7 ?_
  obtain ⟨g1, h⟩ := rb_gd h
  refine rb_iald hC rb_arM17 (rb_ibI g1) dX12_leftOf_8 ?_
  refine rb_aload_n hC 0 dX12_leftOf_9 rfl ?_
  refine rb_iload_n hC 1 dX12_leftOf_10 rfl ?_
  obtain ⟨r2, q3, h⟩ := rb_b1s h
  refine rb_callVi hC rb_VokM mv_X12_334 (xc_M_takenOf p0 σ _ q3) rb_obM0 rfl [.int p0] rfl rfl rfl ⟨Nat.le_of_ble_eq_true rfl, Nat.le_of_ble_eq_true rfl⟩ (Nat.le_of_ble_eq_true rfl) dX12_leftOf_11 ?_
  refine rb_isub hC dX12_leftOf_14 ?_
  cases h
  exact rb_iret hC dX12_leftOf_15
theorem xc_M_leftOf (p0 : Int32) (σ : rb_St) (r : Int32) (h : xf_M_leftOf p0 σ = some r) : rb_Con rb_vM yX12_leftOf cX12_leftOf 2 (some .int) 2 (fun w => [.ref (rb_ad w 0), .int p0]) σ (fun _ => (some (.int r))) σ := rb_Con.of (by decide +kernel) (fun _ => Nat.le_of_ble_eq_true rfl) (fun z w hC => xk_M_leftOf hC p0 σ r h)
def xl_M_crossingsOf_4 (x1 : Int32) (σ : rb_St) : Nat → Int32 → Int32 → Option (Int32)
  | 0, _, _ => none
  | n + 1, x2, x3 => if (σ.1 17 14) ≤ x3 then some x2 else rb_b1 (xf_M_of x3 1 σ) fun r2 => if r2 = x1 then xl_M_crossingsOf_4 x1 σ n (x2 + 1) (x3 + 1) else rb_b1 (xf_M_of x3 2 σ) fun r5 => if r5 = x1 then xl_M_crossingsOf_4 x1 σ n (x2 + 1) (x3 + 1) else xl_M_crossingsOf_4 x1 σ n (x2 + 0) (x3 + 1)
set_option maxHeartbeats 4000000 in
set_option maxRecDepth 100000 in
theorem xt_M_crossingsOf_4 {z : rb_Z} {w : rb_Wd} {Q : State → Prop} (hC : rb_Cx z rb_vM w RX12 cX12_crossingsOf 4 (some .int) 1) (x1 : Int32) (σ : rb_St) : ∀ (n : Nat) (x2 : Int32) (x3 : Int32) (y2 : Int32), xl_M_crossingsOf_4 x1 σ n x2 x3 = some y2 → rb_At z rb_vM w 4 Q 49 [(2, .int y2)] [] σ → rb_At z rb_vM w 4 Q 4 [(0, .ref (rb_ad w 0)), (1, .int x1), (2, .int x2), (3, .int x3)] [] σ := by
  intro n
  induction n with
  | zero =>
    intro x2 x3 y2 h hE0
    cases h
  | succ n ih =>
    intro x2 x3 y2 h hE0
    rw [xl_M_crossingsOf_4] at h
    refine rb_iload_n hC 3 dX12_crossingsOf_4 rfl ?_
    refine rb_aload_n hC 0 dX12_crossingsOf_5 rfl ?_
    refine rb_getR hC fr_X12_58_11 rb_obM0 rfl dX12_crossingsOf_6 ?_
    refine rb_bipush (x := 14) hC dX12_crossingsOf_9 (by decide) ?_
    refine rb_iald hC rb_arM17 (rb_ibI (by decide)) dX12_crossingsOf_11 ?_
    refine rb_icmp_ge hC 49 dX12_crossingsOf_12 (by decide) (fun c1 => ?_) (fun c1 => ?_)
    · replace h := rb_ifp c1 h
      cases h
      exact rb_sub [2] rfl (hE0)
    · replace h := rb_ifn c1 h
      refine rb_iload_n hC 2 dX12_crossingsOf_15 rfl ?_
      refine rb_aload_n hC 0 dX12_crossingsOf_16 rfl ?_
      refine rb_iload_n hC 3 dX12_crossingsOf_17 rfl ?_
      refine rb_iconst (x := 1) hC dX12_crossingsOf_18 (by decide) ?_
      obtain ⟨r2, q3, h⟩ := rb_b1s h
      refine rb_callVi hC rb_VokM mv_X12_311 (xc_M_of x3 1 σ _ q3) rb_obM0 rfl [.int x3, .int 1] rfl rfl rfl ⟨Nat.le_of_ble_eq_true rfl, Nat.le_of_ble_eq_true rfl⟩ (Nat.le_of_ble_eq_true rfl) dX12_crossingsOf_19 ?_
      refine rb_iload_n hC 1 dX12_crossingsOf_22 rfl ?_
      refine rb_icmp_eq hC 36 dX12_crossingsOf_23 (by decide) (fun c4 => ?_) (fun c4 => ?_)
      · replace h := rb_ifp c4 h
        refine rb_iconst (x := 1) hC dX12_crossingsOf_36 (by decide) ?_
        refine rb_goto hC 41 dX12_crossingsOf_37 (by decide) ?_
        refine rb_iadd hC dX12_crossingsOf_41 ?_
        refine rb_istore_n hC [(2, .int (x2 + 1)), (0, .ref (rb_ad w 0)), (1, .int x1), (3, .int x3)] dX12_crossingsOf_42 (by decide) rfl ?_
        refine rb_iinc hC 3 [(3, .int (x3 + 1)), (2, .int (x2 + 1)), (0, .ref (rb_ad w 0)), (1, .int x1)] dX12_crossingsOf_43 rfl rfl (by decide) rfl ?_
        refine rb_goto hC 4 dX12_crossingsOf_46 (by decide) ?_
        exact rb_sub [2, 3, 1, 0] rfl (ih (x2 + 1) (x3 + 1) _ h hE0)
      · replace h := rb_ifn c4 h
        refine rb_aload_n hC 0 dX12_crossingsOf_26 rfl ?_
        refine rb_iload_n hC 3 dX12_crossingsOf_27 rfl ?_
        refine rb_iconst (x := 2) hC dX12_crossingsOf_28 (by decide) ?_
        obtain ⟨r5, q6, h⟩ := rb_b1s h
        refine rb_callVi hC rb_VokM mv_X12_311 (xc_M_of x3 2 σ _ q6) rb_obM0 rfl [.int x3, .int 2] rfl rfl rfl ⟨Nat.le_of_ble_eq_true rfl, Nat.le_of_ble_eq_true rfl⟩ (Nat.le_of_ble_eq_true rfl) dX12_crossingsOf_29 ?_
        refine rb_iload_n hC 1 dX12_crossingsOf_32 rfl ?_
        refine rb_icmp_ne hC 40 dX12_crossingsOf_33 (by decide) (fun c7 => ?_) (fun c7 => ?_)
        · replace h := rb_ifn c7 h
          refine rb_iconst (x := 0) hC dX12_crossingsOf_40 (by decide) ?_
          refine rb_iadd hC dX12_crossingsOf_41 ?_
          refine rb_istore_n hC [(2, .int (x2 + 0)), (0, .ref (rb_ad w 0)), (1, .int x1), (3, .int x3)] dX12_crossingsOf_42 (by decide) rfl ?_
          refine rb_iinc hC 3 [(3, .int (x3 + 1)), (2, .int (x2 + 0)), (0, .ref (rb_ad w 0)), (1, .int x1)] dX12_crossingsOf_43 rfl rfl (by decide) rfl ?_
          refine rb_goto hC 4 dX12_crossingsOf_46 (by decide) ?_
          exact rb_sub [2, 3, 1, 0] rfl (ih (x2 + 0) (x3 + 1) _ h hE0)
        · replace h := rb_ifp c7 h
          refine rb_iconst (x := 1) hC dX12_crossingsOf_36 (by decide) ?_
          refine rb_goto hC 41 dX12_crossingsOf_37 (by decide) ?_
          refine rb_iadd hC dX12_crossingsOf_41 ?_
          refine rb_istore_n hC [(2, .int (x2 + 1)), (0, .ref (rb_ad w 0)), (1, .int x1), (3, .int x3)] dX12_crossingsOf_42 (by decide) rfl ?_
          refine rb_iinc hC 3 [(3, .int (x3 + 1)), (2, .int (x2 + 1)), (0, .ref (rb_ad w 0)), (1, .int x1)] dX12_crossingsOf_43 rfl rfl (by decide) rfl ?_
          refine rb_goto hC 4 dX12_crossingsOf_46 (by decide) ?_
          exact rb_sub [2, 3, 1, 0] rfl (ih (x2 + 1) (x3 + 1) _ h hE0)
def xf_M_crossingsOf (p0 : Int32) (σ : rb_St) : Option Int32 := rb_b1 (xl_M_crossingsOf_4 p0 σ rb_FU 0 0) fun y8 => some y8
set_option maxHeartbeats 4000000 in
set_option maxRecDepth 100000 in
theorem xk_M_crossingsOf {z : rb_Z} {w : rb_Wd} (hC : rb_Cx z rb_vM w RX12 cX12_crossingsOf 4 (some .int) 1) (p0 : Int32) (σ : rb_St) (r : Int32) (h : xf_M_crossingsOf p0 σ = some r) : rb_At z rb_vM w 4 (rb_Q z rb_vM w (some (.int r)) σ) 0 [(0, .ref (rb_ad w 0)), (1, .int p0)] [] σ := by
  unfold xf_M_crossingsOf at h
  refine rb_iconst (x := 0) hC dX12_crossingsOf_0 (by decide) ?_
  refine rb_istore_n hC [(2, .int 0), (0, .ref (rb_ad w 0)), (1, .int p0)] dX12_crossingsOf_1 (by decide) rfl ?_
  refine rb_iconst (x := 0) hC dX12_crossingsOf_2 (by decide) ?_
  refine rb_istore_n hC [(3, .int 0), (2, .int 0), (0, .ref (rb_ad w 0)), (1, .int p0)] dX12_crossingsOf_3 (by decide) rfl ?_
  obtain ⟨y8, q9, h⟩ := rb_b1s h
  refine rb_sub (lv2 := [(0, .ref (rb_ad w 0)), (1, .int p0), (2, .int 0), (3, .int 0)]) [2, 3, 1, 0] rfl ?_
  refine xt_M_crossingsOf_4 hC p0 σ rb_FU 0 0 _ q9 ?_
  refine rb_iload_n hC 0 dX12_crossingsOf_49 rfl ?_
  cases h
  exact rb_iret hC dX12_crossingsOf_50
theorem xc_M_crossingsOf (p0 : Int32) (σ : rb_St) (r : Int32) (h : xf_M_crossingsOf p0 σ = some r) : rb_Con rb_vM yX12_crossingsOf cX12_crossingsOf 4 (some .int) 1 (fun w => [.ref (rb_ad w 0), .int p0]) σ (fun _ => (some (.int r))) σ := rb_Con.of (by decide +kernel) (fun _ => Nat.le_of_ble_eq_true rfl) (fun z w hC => xk_M_crossingsOf hC p0 σ r h)
theorem me_X12_takesBy : Cond.instanceMethod yX12_takesBy ∈ rb_tbl ∧ Cond.selects yX12_takesBy.cls yX12_takesBy yX12_takesBy ∈ rb_tbl ∧ Cond.initialized yX12_takesBy.cls ∈ rb_tbl ∧ Cond.code yX12_takesBy cX12_takesBy 3 (some .int) ∈ rb_tbl ∧ rb_pn yX12_takesBy 1 := ⟨rb_in (by decide +kernel) (by decide +kernel), rb_in (by decide +kernel) (by decide +kernel), rb_in (by decide +kernel) (by decide +kernel), rb_in (by decide +kernel) (by decide +kernel), by decide +kernel, by decide +kernel, by decide +kernel⟩
theorem mv_X12_337 : rb_MV RX12 337 yX12_takesBy cX12_takesBy 3 (some .int) 1 := ⟨rb_in (by decide +kernel) (by decide +kernel), me_X12_takesBy⟩
theorem me_X12_undoes : Cond.instanceMethod yX12_undoes ∈ rb_tbl ∧ Cond.selects yX12_undoes.cls yX12_undoes yX12_undoes ∈ rb_tbl ∧ Cond.initialized yX12_undoes.cls ∈ rb_tbl ∧ Cond.code yX12_undoes cX12_undoes 3 (some .int) ∈ rb_tbl ∧ rb_pn yX12_undoes 1 := ⟨rb_in (by decide +kernel) (by decide +kernel), rb_in (by decide +kernel) (by decide +kernel), rb_in (by decide +kernel) (by decide +kernel), rb_in (by decide +kernel) (by decide +kernel), by decide +kernel, by decide +kernel, by decide +kernel⟩
theorem mv_X12_340 : rb_MV RX12 340 yX12_undoes cX12_undoes 3 (some .int) 1 := ⟨rb_in (by decide +kernel) (by decide +kernel), me_X12_undoes⟩
theorem me_X12_leftOf : Cond.instanceMethod yX12_leftOf ∈ rb_tbl ∧ Cond.selects yX12_leftOf.cls yX12_leftOf yX12_leftOf ∈ rb_tbl ∧ Cond.initialized yX12_leftOf.cls ∈ rb_tbl ∧ Cond.code yX12_leftOf cX12_leftOf 2 (some .int) ∈ rb_tbl ∧ rb_pn yX12_leftOf 1 := ⟨rb_in (by decide +kernel) (by decide +kernel), rb_in (by decide +kernel) (by decide +kernel), rb_in (by decide +kernel) (by decide +kernel), rb_in (by decide +kernel) (by decide +kernel), by decide +kernel, by decide +kernel, by decide +kernel⟩
theorem mv_X12_343 : rb_MV RX12 343 yX12_leftOf cX12_leftOf 2 (some .int) 1 := ⟨rb_in (by decide +kernel) (by decide +kernel), me_X12_leftOf⟩
def xf_M_isShort (p0 : Int32) (σ : rb_St) : Option (Int32 × rb_St) := rb_b2 (xf_M_takesBy p0 σ) fun r3 s1 => rb_b1 (xf_M_undoes p0 s1) fun r4 => if r4 = (-1) then rb_b1 (xf_M_overBy p0 s1) fun r7 => rb_b1 (xf_M_leftOf r7 s1) fun r9 => if r9 < r3 then some (1, s1) else rb_b1 (xf_M_underBy p0 s1) fun r12 => rb_b1 (xf_M_leftOf r12 s1) fun r14 => if r3 ≤ r14 then some (0, s1) else some (1, s1) else some (0, s1)
set_option maxHeartbeats 4000000 in
set_option maxRecDepth 100000 in
theorem xk_M_isShort {z : rb_Z} {w : rb_Wd} (hC : rb_Cx z rb_vM w RX12 cX12_isShort 3 (some .boolean) 6) (p0 : Int32) (σ : rb_St) (r : Int32) (σ9 : rb_St) (h : xf_M_isShort p0 σ = some (r, σ9)) : rb_At z rb_vM w 3 (rb_Q z rb_vM w (some (.int r)) σ9) 0 [(0, .ref (rb_ad w 0)), (1, .int p0)] [] σ := by
  unfold xf_M_isShort at h
  refine rb_aload_n hC 0 dX12_isShort_0 rfl ?_
  refine rb_iload_n hC 1 dX12_isShort_1 rfl ?_
  obtain ⟨r3, s1, q2, h⟩ := rb_b2s h
  refine rb_callVi hC rb_VokM mv_X12_337 (xc_M_takesBy p0 σ _ _ q2) rb_obM0 rfl [.int p0] rfl rfl rfl ⟨Nat.le_of_ble_eq_true rfl, Nat.le_of_ble_eq_true rfl⟩ (Nat.le_of_ble_eq_true rfl) dX12_isShort_2 ?_
  refine rb_istore_n hC [(2, .int r3), (0, .ref (rb_ad w 0)), (1, .int p0)] dX12_isShort_5 (by decide) rfl ?_
  refine rb_aload_n hC 1 dX12_isShort_6 rfl ?_
  refine rb_iload_n hC 2 dX12_isShort_7 rfl ?_
  obtain ⟨r4, q5, h⟩ := rb_b1s h
  refine rb_callVi hC rb_VokM mv_X12_340 (xc_M_undoes p0 s1 _ q5) rb_obM0 rfl [.int p0] rfl rfl rfl ⟨Nat.le_of_ble_eq_true rfl, Nat.le_of_ble_eq_true rfl⟩ (Nat.le_of_ble_eq_true rfl) dX12_isShort_8 ?_
  refine rb_iconst (x := (-1)) hC dX12_isShort_11 (by decide) ?_
  refine rb_icmp_ne hC 45 dX12_isShort_12 (by decide) (fun c6 => ?_) (fun c6 => ?_)
  · replace h := rb_ifn c6 h
    refine rb_iconst (x := 0) hC dX12_isShort_45 (by decide) ?_
    cases h
    exact rb_zret hC rfl dX12_isShort_46
  · replace h := rb_ifp c6 h
    refine rb_aload_n hC 1 dX12_isShort_15 rfl ?_
    refine rb_aload_n hC 1 dX12_isShort_16 rfl ?_
    refine rb_iload_n hC 2 dX12_isShort_17 rfl ?_
    obtain ⟨r7, q8, h⟩ := rb_b1s h
    refine rb_callVi hC rb_VokM mv_X12_322 (xc_M_overBy p0 s1 _ q8) rb_obM0 rfl [.int p0] rfl rfl rfl ⟨Nat.le_of_ble_eq_true rfl, Nat.le_of_ble_eq_true rfl⟩ (Nat.le_of_ble_eq_true rfl) dX12_isShort_18 ?_
    obtain ⟨r9, q10, h⟩ := rb_b1s h
    refine rb_callVi hC rb_VokM mv_X12_343 (xc_M_leftOf r7 s1 _ q10) rb_obM0 rfl [.int r7] rfl rfl rfl ⟨Nat.le_of_ble_eq_true rfl, Nat.le_of_ble_eq_true rfl⟩ (Nat.le_of_ble_eq_true rfl) dX12_isShort_21 ?_
    refine rb_iload_n hC 0 dX12_isShort_24 rfl ?_
    refine rb_icmp_lt hC 41 dX12_isShort_25 (by decide) (fun c11 => ?_) (fun c11 => ?_)
    · replace h := rb_ifp c11 h
      refine rb_iconst (x := 1) hC dX12_isShort_41 (by decide) ?_
      refine rb_goto hC 46 dX12_isShort_42 (by decide) ?_
      cases h
      exact rb_zret hC rfl dX12_isShort_46
    · replace h := rb_ifn c11 h
      refine rb_aload_n hC 1 dX12_isShort_28 rfl ?_
      refine rb_aload_n hC 1 dX12_isShort_29 rfl ?_
      refine rb_iload_n hC 2 dX12_isShort_30 rfl ?_
      obtain ⟨r12, q13, h⟩ := rb_b1s h
      refine rb_callVi hC rb_VokM mv_X12_325 (xc_M_underBy p0 s1 _ q13) rb_obM0 rfl [.int p0] rfl rfl rfl ⟨Nat.le_of_ble_eq_true rfl, Nat.le_of_ble_eq_true rfl⟩ (Nat.le_of_ble_eq_true rfl) dX12_isShort_31 ?_
      obtain ⟨r14, q15, h⟩ := rb_b1s h
      refine rb_callVi hC rb_VokM mv_X12_343 (xc_M_leftOf r12 s1 _ q15) rb_obM0 rfl [.int r12] rfl rfl rfl ⟨Nat.le_of_ble_eq_true rfl, Nat.le_of_ble_eq_true rfl⟩ (Nat.le_of_ble_eq_true rfl) dX12_isShort_34 ?_
      refine rb_iload_n hC 0 dX12_isShort_37 rfl ?_
      refine rb_icmp_ge hC 45 dX12_isShort_38 (by decide) (fun c16 => ?_) (fun c16 => ?_)
      · replace h := rb_ifp c16 h
        refine rb_iconst (x := 0) hC dX12_isShort_45 (by decide) ?_
        cases h
        exact rb_zret hC rfl dX12_isShort_46
      · replace h := rb_ifn c16 h
        refine rb_iconst (x := 1) hC dX12_isShort_41 (by decide) ?_
        refine rb_goto hC 46 dX12_isShort_42 (by decide) ?_
        cases h
        exact rb_zret hC rfl dX12_isShort_46
theorem xc_M_isShort (p0 : Int32) (σ : rb_St) (r : Int32) (σ9 : rb_St) (h : xf_M_isShort p0 σ = some (r, σ9)) : rb_Con rb_vM yX12_isShort cX12_isShort 3 (some .boolean) 6 (fun w => [.ref (rb_ad w 0), .int p0]) σ (fun _ => (some (.int r))) σ9 := rb_Con.of (by decide +kernel) (fun _ => Nat.le_of_ble_eq_true rfl) (fun z w hC => xk_M_isShort hC p0 σ r σ9 h)
