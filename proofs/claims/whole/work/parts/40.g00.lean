def xf_JM_floorMod (p0 : Int32) (p1 : Int32) (σ : rb_St) : Option Int32 := if p1 = 0 then none else if 0 ≤ (p0 ^^^ p1) then some (p0 - p0 / p1 * p1) else if (p0 - p0 / p1 * p1) = 0 then some (p0 - p0 / p1 * p1) else some ((p0 - p0 / p1 * p1) + p1)
set_option maxHeartbeats 4000000 in
set_option maxRecDepth 100000 in
theorem xk_JM_floorMod {z : rb_Z} {w : rb_Wd} (hC : rb_Cx z rb_vX w RJ9 cJ9_floorMod_7cf53 3 (some .int) 0) (p0 : Int32) (p1 : Int32) (σ : rb_St) (r : Int32) (h : xf_JM_floorMod p0 p1 σ = some r) : rb_At z rb_vX w 3 (rb_Q z rb_vX w (some (.int r)) σ) 0 [(0, .int p0), (1, .int p1)] [] σ := by
  unfold xf_JM_floorMod at h
  refine rb_iload_n hC 0 dJ9_floorMod_7cf53_0 rfl ?_
  refine rb_iload_n hC 1 dJ9_floorMod_7cf53_1 rfl ?_
  obtain ⟨g1, h⟩ := rb_dv h
  refine rb_irem hC dJ9_floorMod_7cf53_2 g1 ?_
  refine rb_istore_n hC [(2, .int (p0 - p0 / p1 * p1)), (0, .int p0), (1, .int p1)] dJ9_floorMod_7cf53_3 (by decide) rfl ?_
  refine rb_iload_n hC 1 dJ9_floorMod_7cf53_4 rfl ?_
  refine rb_iload_n hC 2 dJ9_floorMod_7cf53_5 rfl ?_
  refine rb_ixor hC dJ9_floorMod_7cf53_6 ?_
  refine rb_if_ge hC 18 dJ9_floorMod_7cf53_7 (by decide) (fun c2 => ?_) (fun c2 => ?_)
  · replace h := rb_ifp c2 h
    refine rb_iload_n hC 0 dJ9_floorMod_7cf53_18 rfl ?_
    cases h
    exact rb_iret hC dJ9_floorMod_7cf53_19
  · replace h := rb_ifn c2 h
    refine rb_iload_n hC 0 dJ9_floorMod_7cf53_10 rfl ?_
    refine rb_if_eq hC 18 dJ9_floorMod_7cf53_11 (by decide) (fun c3 => ?_) (fun c3 => ?_)
    · replace h := rb_ifp c3 h
      refine rb_iload_n hC 0 dJ9_floorMod_7cf53_18 rfl ?_
      cases h
      exact rb_iret hC dJ9_floorMod_7cf53_19
    · replace h := rb_ifn c3 h
      refine rb_iload_n hC 0 dJ9_floorMod_7cf53_14 rfl ?_
      refine rb_iload_n hC 2 dJ9_floorMod_7cf53_15 rfl ?_
      refine rb_iadd hC dJ9_floorMod_7cf53_16 ?_
      cases h
      exact rb_iret hC dJ9_floorMod_7cf53_17
theorem xc_JM_floorMod (p0 : Int32) (p1 : Int32) (σ : rb_St) (r : Int32) (h : xf_JM_floorMod p0 p1 σ = some r) : rb_Con rb_vX yJ9_floorMod_7cf53 cJ9_floorMod_7cf53 3 (some .int) 0 (fun w => [.int p0, .int p1]) σ (fun _ => (some (.int r))) σ := rb_Con.of (by decide +kernel) (fun _ => Nat.le_of_ble_eq_true rfl) (fun z w hC => xk_JM_floorMod hC p0 p1 σ r h)
def xf_JM_floorDiv (p0 : Int32) (p1 : Int32) (σ : rb_St) : Option Int32 := if p1 = 0 then none else if 0 ≤ (p0 ^^^ p1) then some (p0 / p1) else if ((p0 / p1) * p1) = p0 then some (p0 / p1) else some ((p0 / p1) - 1)
set_option maxHeartbeats 4000000 in
set_option maxRecDepth 100000 in
theorem xk_JM_floorDiv {z : rb_Z} {w : rb_Wd} (hC : rb_Cx z rb_vX w RJ9 cJ9_floorDiv_7cf53 3 (some .int) 0) (p0 : Int32) (p1 : Int32) (σ : rb_St) (r : Int32) (h : xf_JM_floorDiv p0 p1 σ = some r) : rb_At z rb_vX w 3 (rb_Q z rb_vX w (some (.int r)) σ) 0 [(0, .int p0), (1, .int p1)] [] σ := by
  unfold xf_JM_floorDiv at h
  refine rb_iload_n hC 0 dJ9_floorDiv_7cf53_0 rfl ?_
  refine rb_iload_n hC 1 dJ9_floorDiv_7cf53_1 rfl ?_
  obtain ⟨g1, h⟩ := rb_dv h
  refine rb_idiv hC dJ9_floorDiv_7cf53_2 g1 ?_
  refine rb_istore_n hC [(2, .int (p0 / p1)), (0, .int p0), (1, .int p1)] dJ9_floorDiv_7cf53_3 (by decide) rfl ?_
  refine rb_iload_n hC 1 dJ9_floorDiv_7cf53_4 rfl ?_
  refine rb_iload_n hC 2 dJ9_floorDiv_7cf53_5 rfl ?_
  refine rb_ixor hC dJ9_floorDiv_7cf53_6 ?_
  refine rb_if_ge hC 21 dJ9_floorDiv_7cf53_7 (by decide) (fun c2 => ?_) (fun c2 => ?_)
  · replace h := rb_ifp c2 h
    refine rb_iload_n hC 0 dJ9_floorDiv_7cf53_21 rfl ?_
    cases h
    exact rb_iret hC dJ9_floorDiv_7cf53_22
  · replace h := rb_ifn c2 h
    refine rb_iload_n hC 0 dJ9_floorDiv_7cf53_10 rfl ?_
    refine rb_iload_n hC 2 dJ9_floorDiv_7cf53_11 rfl ?_
    refine rb_imul hC dJ9_floorDiv_7cf53_12 ?_
    refine rb_iload_n hC 1 dJ9_floorDiv_7cf53_13 rfl ?_
    refine rb_icmp_eq hC 21 dJ9_floorDiv_7cf53_14 (by decide) (fun c3 => ?_) (fun c3 => ?_)
    · replace h := rb_ifp c3 h
      refine rb_iload_n hC 0 dJ9_floorDiv_7cf53_21 rfl ?_
      cases h
      exact rb_iret hC dJ9_floorDiv_7cf53_22
    · replace h := rb_ifn c3 h
      refine rb_iload_n hC 0 dJ9_floorDiv_7cf53_17 rfl ?_
      refine rb_iconst (x := 1) hC dJ9_floorDiv_7cf53_18 (by decide) ?_
      refine rb_isub hC dJ9_floorDiv_7cf53_19 ?_
      cases h
      exact rb_iret hC dJ9_floorDiv_7cf53_20
theorem xc_JM_floorDiv (p0 : Int32) (p1 : Int32) (σ : rb_St) (r : Int32) (h : xf_JM_floorDiv p0 p1 σ = some r) : rb_Con rb_vX yJ9_floorDiv_7cf53 cJ9_floorDiv_7cf53 3 (some .int) 0 (fun w => [.int p0, .int p1]) σ (fun _ => (some (.int r))) σ := rb_Con.of (by decide +kernel) (fun _ => Nat.le_of_ble_eq_true rfl) (fun z w hC => xk_JM_floorDiv hC p0 p1 σ r h)
theorem kc_J6_265 : Cond.constant RJ6 265 1431655765 ∈ rb_tbl := rb_in (by decide +kernel) (by decide +kernel)
theorem kc_J6_266 : Cond.constant RJ6 266 858993459 ∈ rb_tbl := rb_in (by decide +kernel) (by decide +kernel)
theorem kc_J6_267 : Cond.constant RJ6 267 252645135 ∈ rb_tbl := rb_in (by decide +kernel) (by decide +kernel)
def xf_JI_bitCount (p0 : Int32) (σ : rb_St) : Int32 := rb_lt (p0 - (((p0.toUInt32 >>> ((1 : Int32).toUInt32 &&& Int32.toUInt32 31)).toInt32) &&& 1431655765)) (fun v1 => rb_lt ((v1 &&& 858993459) + (((v1.toUInt32 >>> ((2 : Int32).toUInt32 &&& Int32.toUInt32 31)).toInt32) &&& 858993459)) (fun v3 => rb_lt ((v3 + ((v3.toUInt32 >>> ((4 : Int32).toUInt32 &&& Int32.toUInt32 31)).toInt32)) &&& 252645135) (fun v5 => rb_lt (v5 + ((v5.toUInt32 >>> ((8 : Int32).toUInt32 &&& Int32.toUInt32 31)).toInt32)) (fun v7 => rb_lt (v7 + ((v7.toUInt32 >>> ((16 : Int32).toUInt32 &&& Int32.toUInt32 31)).toInt32)) (fun v9 => v9 &&& 63)))))
set_option maxHeartbeats 4000000 in
set_option maxRecDepth 100000 in
theorem xk_JI_bitCount {z : rb_Z} {w : rb_Wd} (hC : rb_Cx z rb_vX w RJ6 cJ6_bitCount_0f7a4 1 (some .int) 0) (p0 : Int32) (σ : rb_St) (r : Int32) (h : xf_JI_bitCount p0 σ = r) : rb_At z rb_vX w 1 (rb_Q z rb_vX w (some (.int r)) σ) 0 [(0, .int p0)] [] σ := by
  unfold xf_JI_bitCount at h
  refine rb_iload_n hC 0 dJ6_bitCount_0f7a4_0 rfl ?_
  refine rb_iload_n hC 0 dJ6_bitCount_0f7a4_1 rfl ?_
  refine rb_iconst (x := 1) hC dJ6_bitCount_0f7a4_2 (by decide) ?_
  refine rb_iushr hC dJ6_bitCount_0f7a4_3 ?_
  refine rb_ldc_w hC kc_J6_265 dJ6_bitCount_0f7a4_4 ?_
  refine rb_iand hC dJ6_bitCount_0f7a4_7 ?_
  refine rb_isub hC dJ6_bitCount_0f7a4_8 ?_
  obtain ⟨v1, e2, h⟩ := rb_ltE h
  refine rb_nmI e2 ?_
  refine rb_istore_n hC [(0, .int v1)] dJ6_bitCount_0f7a4_9 (by decide) rfl ?_
  refine rb_iload_n hC 0 dJ6_bitCount_0f7a4_10 rfl ?_
  refine rb_ldc_w hC kc_J6_266 dJ6_bitCount_0f7a4_11 ?_
  refine rb_iand hC dJ6_bitCount_0f7a4_14 ?_
  refine rb_iload_n hC 0 dJ6_bitCount_0f7a4_15 rfl ?_
  refine rb_iconst (x := 2) hC dJ6_bitCount_0f7a4_16 (by decide) ?_
  refine rb_iushr hC dJ6_bitCount_0f7a4_17 ?_
  refine rb_ldc_w hC kc_J6_266 dJ6_bitCount_0f7a4_18 ?_
  refine rb_iand hC dJ6_bitCount_0f7a4_21 ?_
  refine rb_iadd hC dJ6_bitCount_0f7a4_22 ?_
  obtain ⟨v3, e4, h⟩ := rb_ltE h
  refine rb_nmI e4 ?_
  refine rb_istore_n hC [(0, .int v3)] dJ6_bitCount_0f7a4_23 (by decide) rfl ?_
  refine rb_iload_n hC 0 dJ6_bitCount_0f7a4_24 rfl ?_
  refine rb_iload_n hC 0 dJ6_bitCount_0f7a4_25 rfl ?_
  refine rb_iconst (x := 4) hC dJ6_bitCount_0f7a4_26 (by decide) ?_
  refine rb_iushr hC dJ6_bitCount_0f7a4_27 ?_
  refine rb_iadd hC dJ6_bitCount_0f7a4_28 ?_
  refine rb_ldc_w hC kc_J6_267 dJ6_bitCount_0f7a4_29 ?_
  refine rb_iand hC dJ6_bitCount_0f7a4_32 ?_
  obtain ⟨v5, e6, h⟩ := rb_ltE h
  refine rb_nmI e6 ?_
  refine rb_istore_n hC [(0, .int v5)] dJ6_bitCount_0f7a4_33 (by decide) rfl ?_
  refine rb_iload_n hC 0 dJ6_bitCount_0f7a4_34 rfl ?_
  refine rb_iload_n hC 0 dJ6_bitCount_0f7a4_35 rfl ?_
  refine rb_bipush (x := 8) hC dJ6_bitCount_0f7a4_36 (by decide) ?_
  refine rb_iushr hC dJ6_bitCount_0f7a4_38 ?_
  refine rb_iadd hC dJ6_bitCount_0f7a4_39 ?_
  obtain ⟨v7, e8, h⟩ := rb_ltE h
  refine rb_nmI e8 ?_
  refine rb_istore_n hC [(0, .int v7)] dJ6_bitCount_0f7a4_40 (by decide) rfl ?_
  refine rb_iload_n hC 0 dJ6_bitCount_0f7a4_41 rfl ?_
  refine rb_iload_n hC 0 dJ6_bitCount_0f7a4_42 rfl ?_
  refine rb_bipush (x := 16) hC dJ6_bitCount_0f7a4_43 (by decide) ?_
  refine rb_iushr hC dJ6_bitCount_0f7a4_45 ?_
  refine rb_iadd hC dJ6_bitCount_0f7a4_46 ?_
  obtain ⟨v9, e10, h⟩ := rb_ltE h
  refine rb_nmI e10 ?_
  refine rb_istore_n hC [(0, .int v9)] dJ6_bitCount_0f7a4_47 (by decide) rfl ?_
  refine rb_iload_n hC 0 dJ6_bitCount_0f7a4_48 rfl ?_
  refine rb_bipush (x := 63) hC dJ6_bitCount_0f7a4_49 (by decide) ?_
  refine rb_iand hC dJ6_bitCount_0f7a4_51 ?_
  subst h
  exact rb_iret hC dJ6_bitCount_0f7a4_52
theorem xc_JI_bitCount (p0 : Int32) (σ : rb_St) (r : Int32) (h : xf_JI_bitCount p0 σ = r) : rb_Con rb_vX yJ6_bitCount_0f7a4 cJ6_bitCount_0f7a4 1 (some .int) 0 (fun w => [.int p0]) σ (fun _ => (some (.int r))) σ := rb_Con.of (by decide +kernel) (fun _ => Nat.le_of_ble_eq_true rfl) (fun z w hC => xk_JI_bitCount hC p0 σ r h)
theorem kc_J6_264 : Cond.constant RJ6 264 65536 ∈ rb_tbl := rb_in (by decide +kernel) (by decide +kernel)
def xj_JI_numberOfLeadingZeros_61 (x0 : Int32) (x1 : Int32) (σ : rb_St) : Int32 := if x0 < 4 then x1 - ((x0.toUInt32 >>> ((1 : Int32).toUInt32 &&& Int32.toUInt32 31)).toInt32) else rb_lt ((x0.toUInt32 >>> ((2 : Int32).toUInt32 &&& Int32.toUInt32 31)).toInt32) (fun v6 => (x1 + (-2)) - ((v6.toUInt32 >>> ((1 : Int32).toUInt32 &&& Int32.toUInt32 31)).toInt32))
set_option maxHeartbeats 4000000 in
set_option maxRecDepth 100000 in
theorem xu_JI_numberOfLeadingZeros_61 {z : rb_Z} {w : rb_Wd} (hC : rb_Cx z rb_vM w RJ6 cJ6_numberOfLeadingZeros_0f7a4 2 (some .int) 0) (x0 : Int32) (x1 : Int32) (σ : rb_St) (r : Int32) (h : xj_JI_numberOfLeadingZeros_61 x0 x1 σ = r) : rb_At z rb_vM w 2 (rb_Q z rb_vM w (some (.int r)) σ) 61 [(0, .int x0), (1, .int x1)] [] σ := by
  unfold xj_JI_numberOfLeadingZeros_61 at h
  refine rb_iload_n hC 0 dJ6_numberOfLeadingZeros_0f7a4_61 rfl ?_
  refine rb_iconst (x := 4) hC dJ6_numberOfLeadingZeros_0f7a4_62 (by decide) ?_
  refine rb_icmp_lt hC 73 dJ6_numberOfLeadingZeros_0f7a4_63 (by decide) (fun c5 => ?_) (fun c5 => ?_)
  · replace h := rb_ifp c5 h
    refine rb_iload_n hC 1 dJ6_numberOfLeadingZeros_0f7a4_73 rfl ?_
    refine rb_iload_n hC 0 dJ6_numberOfLeadingZeros_0f7a4_74 rfl ?_
    refine rb_iconst (x := 1) hC dJ6_numberOfLeadingZeros_0f7a4_75 (by decide) ?_
    refine rb_iushr hC dJ6_numberOfLeadingZeros_0f7a4_76 ?_
    refine rb_isub hC dJ6_numberOfLeadingZeros_0f7a4_77 ?_
    subst h
    exact rb_iret hC dJ6_numberOfLeadingZeros_0f7a4_78
  · replace h := rb_ifn c5 h
    refine rb_iinc hC 1 [(1, .int (x1 + (-2))), (0, .int x0)] dJ6_numberOfLeadingZeros_0f7a4_66 rfl rfl (by decide) rfl ?_
    refine rb_iload_n hC 1 dJ6_numberOfLeadingZeros_0f7a4_69 rfl ?_
    refine rb_iconst (x := 2) hC dJ6_numberOfLeadingZeros_0f7a4_70 (by decide) ?_
    refine rb_iushr hC dJ6_numberOfLeadingZeros_0f7a4_71 ?_
    obtain ⟨v6, e7, h⟩ := rb_ltE h
    refine rb_nmI e7 ?_
    refine rb_istore_n hC [(0, .int v6), (1, .int (x1 + (-2)))] dJ6_numberOfLeadingZeros_0f7a4_72 (by decide) rfl ?_
    refine rb_iload_n hC 1 dJ6_numberOfLeadingZeros_0f7a4_73 rfl ?_
    refine rb_iload_n hC 0 dJ6_numberOfLeadingZeros_0f7a4_74 rfl ?_
    refine rb_iconst (x := 1) hC dJ6_numberOfLeadingZeros_0f7a4_75 (by decide) ?_
    refine rb_iushr hC dJ6_numberOfLeadingZeros_0f7a4_76 ?_
    refine rb_isub hC dJ6_numberOfLeadingZeros_0f7a4_77 ?_
    subst h
    exact rb_iret hC dJ6_numberOfLeadingZeros_0f7a4_78
def xj_JI_numberOfLeadingZeros_33 (x0 : Int32) (x1 : Int32) (σ : rb_St) : Int32 := if x0 < 256 then if x0 < 16 then xj_JI_numberOfLeadingZeros_61 x0 x1 σ else rb_lt ((x0.toUInt32 >>> ((4 : Int32).toUInt32 &&& Int32.toUInt32 31)).toInt32) (fun v8 => xj_JI_numberOfLeadingZeros_61 v8 (x1 + (-4)) σ) else rb_lt ((x0.toUInt32 >>> ((8 : Int32).toUInt32 &&& Int32.toUInt32 31)).toInt32) (fun v10 => if v10 < 16 then xj_JI_numberOfLeadingZeros_61 v10 (x1 + (-8)) σ else rb_lt ((v10.toUInt32 >>> ((4 : Int32).toUInt32 &&& Int32.toUInt32 31)).toInt32) (fun v13 => xj_JI_numberOfLeadingZeros_61 v13 ((x1 + (-8)) + (-4)) σ))
set_option maxHeartbeats 4000000 in
set_option maxRecDepth 100000 in
theorem xu_JI_numberOfLeadingZeros_33 {z : rb_Z} {w : rb_Wd} (hC : rb_Cx z rb_vM w RJ6 cJ6_numberOfLeadingZeros_0f7a4 2 (some .int) 0) (x0 : Int32) (x1 : Int32) (σ : rb_St) (r : Int32) (h : xj_JI_numberOfLeadingZeros_33 x0 x1 σ = r) : rb_At z rb_vM w 2 (rb_Q z rb_vM w (some (.int r)) σ) 33 [(0, .int x0), (1, .int x1)] [] σ := by
  unfold xj_JI_numberOfLeadingZeros_33 at h
  refine rb_iload_n hC 0 dJ6_numberOfLeadingZeros_0f7a4_33 rfl ?_
  refine rb_sipush (x := 256) hC dJ6_numberOfLeadingZeros_0f7a4_34 (by decide) ?_
  refine rb_icmp_lt hC 48 dJ6_numberOfLeadingZeros_0f7a4_37 (by decide) (fun c3 => ?_) (fun c3 => ?_)
  · replace h := rb_ifp c3 h
    refine rb_iload_n hC 0 dJ6_numberOfLeadingZeros_0f7a4_48 rfl ?_
    refine rb_bipush (x := 16) hC dJ6_numberOfLeadingZeros_0f7a4_49 (by decide) ?_
    refine rb_icmp_lt hC 61 dJ6_numberOfLeadingZeros_0f7a4_51 (by decide) (fun c4 => ?_) (fun c4 => ?_)
    · replace h := rb_ifp c4 h
      exact rb_sub [0, 1] rfl (xu_JI_numberOfLeadingZeros_61 hC x0 x1 σ _ h)
    · replace h := rb_ifn c4 h
      refine rb_iinc hC 1 [(1, .int (x1 + (-4))), (0, .int x0)] dJ6_numberOfLeadingZeros_0f7a4_54 rfl rfl (by decide) rfl ?_
      refine rb_iload_n hC 1 dJ6_numberOfLeadingZeros_0f7a4_57 rfl ?_
      refine rb_iconst (x := 4) hC dJ6_numberOfLeadingZeros_0f7a4_58 (by decide) ?_
      refine rb_iushr hC dJ6_numberOfLeadingZeros_0f7a4_59 ?_
      obtain ⟨v8, e9, h⟩ := rb_ltE h
      refine rb_nmI e9 ?_
      refine rb_istore_n hC [(0, .int v8), (1, .int (x1 + (-4)))] dJ6_numberOfLeadingZeros_0f7a4_60 (by decide) rfl ?_
      exact rb_sub [0, 1] rfl (xu_JI_numberOfLeadingZeros_61 hC v8 (x1 + (-4)) σ _ h)
  · replace h := rb_ifn c3 h
    refine rb_iinc hC 1 [(1, .int (x1 + (-8))), (0, .int x0)] dJ6_numberOfLeadingZeros_0f7a4_40 rfl rfl (by decide) rfl ?_
    refine rb_iload_n hC 1 dJ6_numberOfLeadingZeros_0f7a4_43 rfl ?_
    refine rb_bipush (x := 8) hC dJ6_numberOfLeadingZeros_0f7a4_44 (by decide) ?_
    refine rb_iushr hC dJ6_numberOfLeadingZeros_0f7a4_46 ?_
    obtain ⟨v10, e11, h⟩ := rb_ltE h
    refine rb_nmI e11 ?_
    refine rb_istore_n hC [(0, .int v10), (1, .int (x1 + (-8)))] dJ6_numberOfLeadingZeros_0f7a4_47 (by decide) rfl ?_
    refine rb_iload_n hC 0 dJ6_numberOfLeadingZeros_0f7a4_48 rfl ?_
    refine rb_bipush (x := 16) hC dJ6_numberOfLeadingZeros_0f7a4_49 (by decide) ?_
    refine rb_icmp_lt hC 61 dJ6_numberOfLeadingZeros_0f7a4_51 (by decide) (fun c12 => ?_) (fun c12 => ?_)
    · replace h := rb_ifp c12 h
      exact rb_sub [0, 1] rfl (xu_JI_numberOfLeadingZeros_61 hC v10 (x1 + (-8)) σ _ h)
    · replace h := rb_ifn c12 h
      refine rb_iinc hC 1 [(1, .int ((x1 + (-8)) + (-4))), (0, .int v10)] dJ6_numberOfLeadingZeros_0f7a4_54 rfl rfl (by decide) rfl ?_
      refine rb_iload_n hC 1 dJ6_numberOfLeadingZeros_0f7a4_57 rfl ?_
      refine rb_iconst (x := 4) hC dJ6_numberOfLeadingZeros_0f7a4_58 (by decide) ?_
      refine rb_iushr hC dJ6_numberOfLeadingZeros_0f7a4_59 ?_
      obtain ⟨v13, e14, h⟩ := rb_ltE h
      refine rb_nmI e14 ?_
      refine rb_istore_n hC [(0, .int v13), (1, .int ((x1 + (-8)) + (-4)))] dJ6_numberOfLeadingZeros_0f7a4_60 (by decide) rfl ?_
      exact rb_sub [0, 1] rfl (xu_JI_numberOfLeadingZeros_61 hC v13 ((x1 + (-8)) + (-4)) σ _ h)
def xf_JI_numberOfLeadingZeros (p0 : Int32) (σ : rb_St) : Int32 := if 0 < p0 then if p0 < 65536 then xj_JI_numberOfLeadingZeros_33 p0 31 σ else rb_lt ((p0.toUInt32 >>> ((16 : Int32).toUInt32 &&& Int32.toUInt32 31)).toInt32) (fun v15 => xj_JI_numberOfLeadingZeros_33 v15 (31 + (-16)) σ) else if p0 = 0 then 32 else 0
set_option maxHeartbeats 4000000 in
set_option maxRecDepth 100000 in
theorem xk_JI_numberOfLeadingZeros {z : rb_Z} {w : rb_Wd} (hC : rb_Cx z rb_vM w RJ6 cJ6_numberOfLeadingZeros_0f7a4 2 (some .int) 0) (p0 : Int32) (σ : rb_St) (r : Int32) (h : xf_JI_numberOfLeadingZeros p0 σ = r) : rb_At z rb_vM w 2 (rb_Q z rb_vM w (some (.int r)) σ) 0 [(0, .int p0)] [] σ := by
  unfold xf_JI_numberOfLeadingZeros at h
  refine rb_iload_n hC 0 dJ6_numberOfLeadingZeros_0f7a4_0 rfl ?_
  refine rb_if_gt hC 15 dJ6_numberOfLeadingZeros_0f7a4_1 (by decide) (fun c1 => ?_) (fun c1 => ?_)
  · replace h := rb_ifp c1 h
    refine rb_bipush (x := 31) hC dJ6_numberOfLeadingZeros_0f7a4_15 (by decide) ?_
    refine rb_istore_n hC [(1, .int 31), (0, .int p0)] dJ6_numberOfLeadingZeros_0f7a4_17 (by decide) rfl ?_
    refine rb_iload_n hC 1 dJ6_numberOfLeadingZeros_0f7a4_18 rfl ?_
    refine rb_ldc_w hC kc_J6_264 dJ6_numberOfLeadingZeros_0f7a4_19 ?_
    refine rb_icmp_lt hC 33 dJ6_numberOfLeadingZeros_0f7a4_22 (by decide) (fun c2 => ?_) (fun c2 => ?_)
    · replace h := rb_ifp c2 h
      exact rb_sub [1, 0] rfl (xu_JI_numberOfLeadingZeros_33 hC p0 31 σ _ h)
    · replace h := rb_ifn c2 h
      refine rb_iinc hC 0 [(1, .int (31 + (-16))), (0, .int p0)] dJ6_numberOfLeadingZeros_0f7a4_25 rfl rfl (by decide) rfl ?_
      refine rb_iload_n hC 1 dJ6_numberOfLeadingZeros_0f7a4_28 rfl ?_
      refine rb_bipush (x := 16) hC dJ6_numberOfLeadingZeros_0f7a4_29 (by decide) ?_
      refine rb_iushr hC dJ6_numberOfLeadingZeros_0f7a4_31 ?_
      obtain ⟨v15, e16, h⟩ := rb_ltE h
      refine rb_nmI e16 ?_
      refine rb_istore_n hC [(0, .int v15), (1, .int (31 + (-16)))] dJ6_numberOfLeadingZeros_0f7a4_32 (by decide) rfl ?_
      exact rb_sub [0, 1] rfl (xu_JI_numberOfLeadingZeros_33 hC v15 (31 + (-16)) σ _ h)
  · replace h := rb_ifn c1 h
    refine rb_iload_n hC 0 dJ6_numberOfLeadingZeros_0f7a4_4 rfl ?_
    refine rb_if_ne hC 13 dJ6_numberOfLeadingZeros_0f7a4_5 (by decide) (fun c17 => ?_) (fun c17 => ?_)
    · replace h := rb_ifn c17 h
      refine rb_iconst (x := 0) hC dJ6_numberOfLeadingZeros_0f7a4_13 (by decide) ?_
      subst h
      exact rb_iret hC dJ6_numberOfLeadingZeros_0f7a4_14
    · replace h := rb_ifp c17 h
      refine rb_bipush (x := 32) hC dJ6_numberOfLeadingZeros_0f7a4_8 (by decide) ?_
      refine rb_goto hC 14 dJ6_numberOfLeadingZeros_0f7a4_10 (by decide) ?_
      subst h
      exact rb_iret hC dJ6_numberOfLeadingZeros_0f7a4_14
theorem xc_JI_numberOfLeadingZeros (p0 : Int32) (σ : rb_St) (r : Int32) (h : xf_JI_numberOfLeadingZeros p0 σ = r) : rb_Con rb_vM yJ6_numberOfLeadingZeros_0f7a4 cJ6_numberOfLeadingZeros_0f7a4 2 (some .int) 0 (fun w => [.int p0]) σ (fun _ => (some (.int r))) σ := rb_Con.of (by decide +kernel) (fun _ => Nat.le_of_ble_eq_true rfl) (fun z w hC => xk_JI_numberOfLeadingZeros hC p0 σ r h)
def xf_JL_canEncode (p0 : Int32) (σ : rb_St) : Int32 := if p0 < 0 then 0 else if 255 < p0 then 0 else 1
set_option maxHeartbeats 4000000 in
set_option maxRecDepth 100000 in
theorem xk_JL_canEncode {z : rb_Z} {w : rb_Wd} (hC : rb_Cx z rb_vX w RJ1 cJ1_canEncode_9a6ad 1 (some .boolean) 0) (p0 : Int32) (σ : rb_St) (r : Int32) (h : xf_JL_canEncode p0 σ = r) : rb_At z rb_vX w 1 (rb_Q z rb_vX w (some (.int r)) σ) 0 [(0, .int p0)] [] σ := by
  unfold xf_JL_canEncode at h
  refine rb_iload_n hC 0 dJ1_canEncode_9a6ad_0 rfl ?_
  refine rb_if_lt hC 15 dJ1_canEncode_9a6ad_1 (by decide) (fun c1 => ?_) (fun c1 => ?_)
  · replace h := rb_ifp c1 h
    refine rb_iconst (x := 0) hC dJ1_canEncode_9a6ad_15 (by decide) ?_
    subst h
    exact rb_zret hC rfl dJ1_canEncode_9a6ad_16
  · replace h := rb_ifn c1 h
    refine rb_iload_n hC 0 dJ1_canEncode_9a6ad_4 rfl ?_
    refine rb_sipush (x := 255) hC dJ1_canEncode_9a6ad_5 (by decide) ?_
    refine rb_icmp_gt hC 15 dJ1_canEncode_9a6ad_8 (by decide) (fun c2 => ?_) (fun c2 => ?_)
    · replace h := rb_ifp c2 h
      refine rb_iconst (x := 0) hC dJ1_canEncode_9a6ad_15 (by decide) ?_
      subst h
      exact rb_zret hC rfl dJ1_canEncode_9a6ad_16
    · replace h := rb_ifn c2 h
      refine rb_iconst (x := 1) hC dJ1_canEncode_9a6ad_11 (by decide) ?_
      refine rb_goto hC 16 dJ1_canEncode_9a6ad_12 (by decide) ?_
      subst h
      exact rb_zret hC rfl dJ1_canEncode_9a6ad_16
theorem xc_JL_canEncode (p0 : Int32) (σ : rb_St) (r : Int32) (h : xf_JL_canEncode p0 σ = r) : rb_Con rb_vX yJ1_canEncode_9a6ad cJ1_canEncode_9a6ad 1 (some .boolean) 0 (fun w => [.int p0]) σ (fun _ => (some (.int r))) σ := rb_Con.of (by decide +kernel) (fun _ => Nat.le_of_ble_eq_true rfl) (fun z w hC => xk_JL_canEncode hC p0 σ r h)
theorem kf_J0_38 : Cond.fieldLink RJ0 38 "java/lang/String" "COMPACT_STRINGS" "Z" ∈ rb_tbl := rb_in (by decide +kernel) (by decide +kernel)
theorem kf_J0_15 : Cond.fieldLink RJ0 15 "java/lang/String" "coder" "B" ∈ rb_tbl := rb_in (by decide +kernel) (by decide +kernel)
def xf_JS_coder0  (σ : rb_St) : Int32 := 0
set_option maxHeartbeats 4000000 in
set_option maxRecDepth 100000 in
theorem xk_JS_coder0 {z : rb_Z} {w : rb_Wd} (hC : rb_Cx z rb_vX w RJ0 cJ0_coder_7d493 1 (some .byte) 0)  (σ : rb_St) (r : Int32) (h : xf_JS_coder0 σ = r) : rb_At z rb_vX w 1 (rb_Q z rb_vX w (some (.int r)) σ) 0 [(0, .ref (rb_sx w (6 + 0)))] [] σ := by
  unfold xf_JS_coder0 at h
  refine rb_cps hC kf_J0_38 dJ0_coder_7d493_0 ?_
  refine rb_if_eq hC 13 dJ0_coder_7d493_3 (by decide) (fun c1 => absurd c1 (by decide)) (fun _ => ?_)
  refine rb_aload_n hC 0 dJ0_coder_7d493_6 rfl ?_
  refine rb_scod hC (i := 0) (by decide) kf_J0_15 dJ0_coder_7d493_7 ?_
  refine rb_goto hC 14 dJ0_coder_7d493_10 (by decide) ?_
  subst h
  exact rb_bret hC rfl dJ0_coder_7d493_14
theorem xc_JS_coder0  (σ : rb_St) (r : Int32) (h : xf_JS_coder0 σ = r) : rb_Con rb_vX yJ0_coder_7d493 cJ0_coder_7d493 1 (some .byte) 0 (fun w => [.ref (rb_sx w (6 + 0))]) σ (fun _ => (some (.int r))) σ := rb_Con.of (by decide +kernel) (fun _ => Nat.le_of_ble_eq_true rfl) (fun z w hC => xk_JS_coder0 hC  σ r h)
theorem kf_J0_9 : Cond.fieldLink RJ0 9 "java/lang/String" "value" "[B" ∈ rb_tbl := rb_in (by decide +kernel) (by decide +kernel)
theorem me_J0_coder_7d493 : Cond.instanceMethod yJ0_coder_7d493 ∈ rb_tbl ∧ Cond.selects yJ0_coder_7d493.cls yJ0_coder_7d493 yJ0_coder_7d493 ∈ rb_tbl ∧ Cond.initialized yJ0_coder_7d493.cls ∈ rb_tbl ∧ Cond.code yJ0_coder_7d493 cJ0_coder_7d493 1 (some .byte) ∈ rb_tbl ∧ rb_pn yJ0_coder_7d493 0 := ⟨rb_in (by decide +kernel) (by decide +kernel), rb_in (by decide +kernel) (by decide +kernel), rb_in (by decide +kernel) (by decide +kernel), rb_in (by decide +kernel) (by decide +kernel), by decide +kernel, by decide +kernel, by decide +kernel⟩
theorem mv_J0_335 : rb_MV RJ0 335 yJ0_coder_7d493 cJ0_coder_7d493 1 (some .byte) 0 := ⟨rb_in (by decide +kernel) (by decide +kernel), me_J0_coder_7d493⟩
def xf_JS_length0  (σ : rb_St) : Int32 := 3
set_option maxHeartbeats 4000000 in
set_option maxRecDepth 100000 in
theorem xk_JS_length0 {z : rb_Z} {w : rb_Wd} (hC : rb_Cx z rb_vX w RJ0 cJ0_length_8abf5 1 (some .int) 1)  (σ : rb_St) (r : Int32) (h : xf_JS_length0 σ = r) : rb_At z rb_vX w 1 (rb_Q z rb_vX w (some (.int r)) σ) 0 [(0, .ref (rb_sx w (6 + 0)))] [] σ := by
  unfold xf_JS_length0 at h
  refine rb_aload_n hC 0 dJ0_length_8abf5_0 rfl ?_
  refine rb_sval hC (i := 0) (by decide) kf_J0_9 dJ0_length_8abf5_1 ?_
  refine rb_slen (x := 3) hC (i := 0) (by decide) (by decide) dJ0_length_8abf5_4 ?_
  refine rb_aload_n hC 0 dJ0_length_8abf5_5 rfl ?_
  refine rb_callT hC mv_J0_335 rfl (xc_JS_coder0  σ 0 rfl) (i := 0) (by decide) [] rfl rfl rfl ⟨Nat.le_of_ble_eq_true rfl, Nat.le_of_ble_eq_true rfl⟩ (Nat.le_of_ble_eq_true rfl) dJ0_length_8abf5_6 ?_
  refine rb_ishr hC dJ0_length_8abf5_9 ?_
  refine rb_nmI (y := 3) (by decide) ?_
  subst h
  exact rb_iret hC dJ0_length_8abf5_10
theorem xc_JS_length0  (σ : rb_St) (r : Int32) (h : xf_JS_length0 σ = r) : rb_Con rb_vX yJ0_length_8abf5 cJ0_length_8abf5 1 (some .int) 1 (fun w => [.ref (rb_sx w (6 + 0))]) σ (fun _ => (some (.int r))) σ := rb_Con.of (by decide +kernel) (fun _ => Nat.le_of_ble_eq_true rfl) (fun z w hC => xk_JS_length0 hC  σ r h)
def xf_JS_isLatin10  (σ : rb_St) : Int32 := 1
set_option maxHeartbeats 4000000 in
set_option maxRecDepth 100000 in
theorem xk_JS_isLatin10 {z : rb_Z} {w : rb_Wd} (hC : rb_Cx z rb_vX w RJ0 cJ0_isLatin1_aae02 1 (some .boolean) 0)  (σ : rb_St) (r : Int32) (h : xf_JS_isLatin10 σ = r) : rb_At z rb_vX w 1 (rb_Q z rb_vX w (some (.int r)) σ) 0 [(0, .ref (rb_sx w (6 + 0)))] [] σ := by
  unfold xf_JS_isLatin10 at h
  refine rb_cps hC kf_J0_38 dJ0_isLatin1_aae02_0 ?_
  refine rb_if_eq hC 17 dJ0_isLatin1_aae02_3 (by decide) (fun c1 => absurd c1 (by decide)) (fun _ => ?_)
  refine rb_aload_n hC 0 dJ0_isLatin1_aae02_6 rfl ?_
  refine rb_scod hC (i := 0) (by decide) kf_J0_15 dJ0_isLatin1_aae02_7 ?_
  refine rb_if_ne hC 17 dJ0_isLatin1_aae02_10 (by decide) (fun c2 => absurd c2 (by decide)) (fun _ => ?_)
  refine rb_iconst (x := 1) hC dJ0_isLatin1_aae02_13 (by decide) ?_
  refine rb_goto hC 18 dJ0_isLatin1_aae02_14 (by decide) ?_
  subst h
  exact rb_zret hC rfl dJ0_isLatin1_aae02_18
theorem xc_JS_isLatin10  (σ : rb_St) (r : Int32) (h : xf_JS_isLatin10 σ = r) : rb_Con rb_vX yJ0_isLatin1_aae02 cJ0_isLatin1_aae02 1 (some .boolean) 0 (fun w => [.ref (rb_sx w (6 + 0))]) σ (fun _ => (some (.int r))) σ := rb_Con.of (by decide +kernel) (fun _ => Nat.le_of_ble_eq_true rfl) (fun z w hC => xk_JS_isLatin10 hC  σ r h)
def xl_JL_indexOfChar0_7 (x3 : Int32) (x4 : Int32) (σ : rb_St) : Nat → Int32 → Option (Nat × Int32)
  | 0, _ => none
  | n + 1, x5 => if x3 ≤ x5 then some (1, x5) else if rb_ib x5 3 then if ((rb_bt.getD 0 []).getD x5.toNatClampNeg 0) = x4 then some (0, x5) else xl_JL_indexOfChar0_7 x3 x4 σ n (x5 + 1) else none
set_option maxHeartbeats 4000000 in
set_option maxRecDepth 100000 in
theorem xt_JL_indexOfChar0_7 {z : rb_Z} {w : rb_Wd} {Q : State → Prop} (hC : rb_Cx z rb_vX w RJ1 cJ1_indexOfChar_4cfef 6 (some .int) 0) (x3 : Int32) (x4 : Int32) (σ : rb_St) : ∀ (n : Nat) (x5 : Int32) (t : Nat) (y5 : Int32), xl_JL_indexOfChar0_7 x3 x4 σ n x5 = some (t, y5) → (t = 0 → rb_At z rb_vX w 6 Q 22 [(5, .int y5)] [] σ) → (t = 1 → rb_At z rb_vX w 6 Q 31 [] [] σ) → rb_At z rb_vX w 6 Q 7 [(0, .ref (rb_sx w (9 + 0))), (3, .int x3), (4, .int x4), (5, .int x5)] [] σ := by
  intro n
  induction n with
  | zero =>
    intro x5 t y5 h hE0 hE1
    cases h
  | succ n ih =>
    intro x5 t y5 h hE0 hE1
    rw [xl_JL_indexOfChar0_7] at h
    refine rb_iload hC 3 dJ1_indexOfChar_4cfef_7 rfl ?_
    refine rb_iload_n hC 1 dJ1_indexOfChar_4cfef_9 rfl ?_
    refine rb_icmp_ge hC 31 dJ1_indexOfChar_4cfef_10 (by decide) (fun c1 => ?_) (fun c1 => ?_)
    · replace h := rb_ifp c1 h
      cases h
      exact rb_sub [] rfl (hE1 rfl)
    · replace h := rb_ifn c1 h
      refine rb_aload_n hC 0 dJ1_indexOfChar_4cfef_13 rfl ?_
      refine rb_iload hC 3 dJ1_indexOfChar_4cfef_14 rfl ?_
      obtain ⟨g2, h⟩ := rb_gd h
      refine rb_sbal hC (i := 0) (by decide) (rb_ibI g2) dJ1_indexOfChar_4cfef_16 ?_
      refine rb_iload hC 2 dJ1_indexOfChar_4cfef_17 rfl ?_
      refine rb_icmp_ne hC 25 dJ1_indexOfChar_4cfef_19 (by decide) (fun c3 => ?_) (fun c3 => ?_)
      · replace h := rb_ifn c3 h
        refine rb_iinc hC 3 [(5, .int (x5 + 1)), (0, .ref (rb_sx w (9 + 0))), (3, .int x3), (4, .int x4)] dJ1_indexOfChar_4cfef_25 rfl rfl (by decide) rfl ?_
        refine rb_goto hC 7 dJ1_indexOfChar_4cfef_28 (by decide) ?_
        exact rb_sub [1, 2, 3, 0] rfl (ih (x5 + 1) _ _ h hE0 hE1)
      · replace h := rb_ifp c3 h
        cases h
        exact rb_sub [3] rfl (hE0 rfl)
def xf_JL_indexOfChar0 (p0 : Int32) (p1 : Int32) (p2 : Int32) (σ : rb_St) : Option Int32 := rb_b2 (xl_JL_indexOfChar0_7 p2 p0.toInt8.toInt32 σ rb_FU p1) fun t4 y5 => if t4 = 0 then some y5 else some (-1)
set_option maxHeartbeats 4000000 in
set_option maxRecDepth 100000 in
theorem xk_JL_indexOfChar0 {z : rb_Z} {w : rb_Wd} (hC : rb_Cx z rb_vX w RJ1 cJ1_indexOfChar_4cfef 6 (some .int) 0) (p0 : Int32) (p1 : Int32) (p2 : Int32) (σ : rb_St) (r : Int32) (h : xf_JL_indexOfChar0 p0 p1 p2 σ = some r) : rb_At z rb_vX w 6 (rb_Q z rb_vX w (some (.int r)) σ) 0 [(0, .ref (rb_sx w (9 + 0))), (1, .int p0), (2, .int p1), (3, .int p2)] [] σ := by
  unfold xf_JL_indexOfChar0 at h
  refine rb_iload_n hC 1 dJ1_indexOfChar_4cfef_0 rfl ?_
  refine rb_i2b hC dJ1_indexOfChar_4cfef_1 ?_
  refine rb_istore hC [(4, .int p0.toInt8.toInt32), (0, .ref (rb_sx w (9 + 0))), (1, .int p0), (2, .int p1), (3, .int p2)] dJ1_indexOfChar_4cfef_2 (by decide) rfl ?_
  refine rb_iload_n hC 3 dJ1_indexOfChar_4cfef_4 rfl ?_
  refine rb_istore hC [(5, .int p1), (4, .int p0.toInt8.toInt32), (0, .ref (rb_sx w (9 + 0))), (1, .int p0), (2, .int p1), (3, .int p2)] dJ1_indexOfChar_4cfef_5 (by decide) rfl ?_
  obtain ⟨t4, y5, q6, h⟩ := rb_b2s h
  refine rb_sub (lv2 := [(0, .ref (rb_sx w (9 + 0))), (3, .int p2), (4, .int p0.toInt8.toInt32), (5, .int p1)]) [2, 5, 1, 0] rfl ?_
  refine xt_JL_indexOfChar0_7 hC p2 p0.toInt8.toInt32 σ rb_FU p1 _ _ q6 (fun ht => ?_) (fun ht => ?_)
  · subst ht
    replace h := rb_ifp rfl h
    refine rb_iload hC 0 dJ1_indexOfChar_4cfef_22 rfl ?_
    cases h
    exact rb_iret hC dJ1_indexOfChar_4cfef_24
  · subst ht
    replace h := rb_ifn (by decide) h
    refine rb_iconst (x := (-1)) hC dJ1_indexOfChar_4cfef_31 (by decide) ?_
    cases h
    exact rb_iret hC dJ1_indexOfChar_4cfef_32
theorem xc_JL_indexOfChar0 (p0 : Int32) (p1 : Int32) (p2 : Int32) (σ : rb_St) (r : Int32) (h : xf_JL_indexOfChar0 p0 p1 p2 σ = some r) : rb_Con rb_vX yJ1_indexOfChar_4cfef cJ1_indexOfChar_4cfef 6 (some .int) 0 (fun w => [.ref (rb_sx w (9 + 0)), .int p0, .int p1, .int p2]) σ (fun _ => (some (.int r))) σ := rb_Con.of (by decide +kernel) (fun _ => Nat.le_of_ble_eq_true rfl) (fun z w hC => xk_JL_indexOfChar0 hC p0 p1 p2 σ r h)
theorem me_J1_canEncode_9a6ad : Cond.static yJ1_canEncode_9a6ad ∈ rb_tbl ∧ Cond.initialized yJ1_canEncode_9a6ad.cls ∈ rb_tbl ∧ Cond.code yJ1_canEncode_9a6ad cJ1_canEncode_9a6ad 1 (some .boolean) ∈ rb_tbl ∧ rb_pn yJ1_canEncode_9a6ad 1 := ⟨rb_in (by decide +kernel) (by decide +kernel), rb_in (by decide +kernel) (by decide +kernel), rb_in (by decide +kernel) (by decide +kernel), by decide +kernel, by decide +kernel, by decide +kernel⟩
theorem mv_J1_88 : rb_MS RJ1 88 yJ1_canEncode_9a6ad cJ1_canEncode_9a6ad 1 (some .boolean) 1 := ⟨rb_in (by decide +kernel) (by decide +kernel), me_J1_canEncode_9a6ad⟩
theorem mk_J1_92 : Cond.methodLink RJ1 92 Lib.Math.max.name ∈ rb_tbl := rb_in (by decide +kernel) (by decide +kernel)
theorem mk_J1_38 : Cond.methodLink RJ1 38 Lib.Math.min.name ∈ rb_tbl := rb_in (by decide +kernel) (by decide +kernel)
theorem me_J1_indexOfChar_4cfef : Cond.static yJ1_indexOfChar_4cfef ∈ rb_tbl ∧ Cond.initialized yJ1_indexOfChar_4cfef.cls ∈ rb_tbl ∧ Cond.code yJ1_indexOfChar_4cfef cJ1_indexOfChar_4cfef 6 (some .int) ∈ rb_tbl ∧ rb_pn yJ1_indexOfChar_4cfef 4 := ⟨rb_in (by decide +kernel) (by decide +kernel), rb_in (by decide +kernel) (by decide +kernel), rb_in (by decide +kernel) (by decide +kernel), by decide +kernel, by decide +kernel, by decide +kernel⟩
theorem mv_J1_95 : rb_MS RJ1 95 yJ1_indexOfChar_4cfef cJ1_indexOfChar_4cfef 6 (some .int) 4 := ⟨rb_in (by decide +kernel) (by decide +kernel), me_J1_indexOfChar_4cfef⟩
def xf_JL_indexOf0 (p0 : Int32) (p1 : Int32) (p2 : Int32) (σ : rb_St) : Option Int32 := if (xf_JL_canEncode p0 σ) = 0 then some (-1) else if (rb_mx p1 0) < (rb_mn p2 3) then rb_b1 (xf_JL_indexOfChar0 p0 (rb_mx p1 0) (rb_mn p2 3) σ) fun r3 => some r3 else some (-1)
set_option maxHeartbeats 4000000 in
set_option maxRecDepth 100000 in
theorem xk_JL_indexOf0 {z : rb_Z} {w : rb_Wd} (hC : rb_Cx z rb_vX w RJ1 cJ1_indexOf_4cfef 4 (some .int) 1) (p0 : Int32) (p1 : Int32) (p2 : Int32) (σ : rb_St) (r : Int32) (h : xf_JL_indexOf0 p0 p1 p2 σ = some r) : rb_At z rb_vX w 4 (rb_Q z rb_vX w (some (.int r)) σ) 0 [(0, .ref (rb_sx w (9 + 0))), (1, .int p0), (2, .int p1), (3, .int p2)] [] σ := by
  unfold xf_JL_indexOf0 at h
  refine rb_iload_n hC 1 dJ1_indexOf_4cfef_0 rfl ?_
  refine rb_callSi hC rb_VokX mv_J1_88 (xc_JL_canEncode p0 σ _ rfl) [.int p0] rfl rfl rfl ⟨Nat.le_of_ble_eq_true rfl, Nat.le_of_ble_eq_true rfl⟩ (Nat.le_of_ble_eq_true rfl) dJ1_indexOf_4cfef_1 ?_
  refine rb_if_ne hC 9 dJ1_indexOf_4cfef_4 (by decide) (fun c1 => ?_) (fun c1 => ?_)
  · replace h := rb_ifn c1 h
    refine rb_iload_n hC 2 dJ1_indexOf_4cfef_9 rfl ?_
    refine rb_iconst (x := 0) hC dJ1_indexOf_4cfef_10 (by decide) ?_
    refine rb_mmax hC mk_J1_92 ⟨Nat.le_of_ble_eq_true rfl, Nat.le_of_ble_eq_true rfl⟩ dJ1_indexOf_4cfef_11 ?_
    refine rb_istore_n hC [(2, .int (rb_mx p1 0)), (0, .ref (rb_sx w (9 + 0))), (1, .int p0), (3, .int p2)] dJ1_indexOf_4cfef_14 (by decide) rfl ?_
    refine rb_iload_n hC 3 dJ1_indexOf_4cfef_15 rfl ?_
    refine rb_aload_n hC 1 dJ1_indexOf_4cfef_16 rfl ?_
    refine rb_slen (x := 3) hC (i := 0) (by decide) (by decide) dJ1_indexOf_4cfef_17 ?_
    refine rb_mmin hC mk_J1_38 ⟨Nat.le_of_ble_eq_true rfl, Nat.le_of_ble_eq_true rfl⟩ dJ1_indexOf_4cfef_18 ?_
    refine rb_istore_n hC [(3, .int (rb_mn p2 3)), (2, .int (rb_mx p1 0)), (0, .ref (rb_sx w (9 + 0))), (1, .int p0)] dJ1_indexOf_4cfef_21 (by decide) rfl ?_
    refine rb_iload_n hC 1 dJ1_indexOf_4cfef_22 rfl ?_
    refine rb_iload_n hC 0 dJ1_indexOf_4cfef_23 rfl ?_
    refine rb_icmp_lt hC 29 dJ1_indexOf_4cfef_24 (by decide) (fun c2 => ?_) (fun c2 => ?_)
    · replace h := rb_ifp c2 h
      refine rb_aload_n hC 2 dJ1_indexOf_4cfef_29 rfl ?_
      refine rb_iload_n hC 3 dJ1_indexOf_4cfef_30 rfl ?_
      refine rb_iload_n hC 1 dJ1_indexOf_4cfef_31 rfl ?_
      refine rb_iload_n hC 0 dJ1_indexOf_4cfef_32 rfl ?_
      obtain ⟨r3, q4, h⟩ := rb_b1s h
      refine rb_callSi hC rb_VokX mv_J1_95 (xc_JL_indexOfChar0 p0 (rb_mx p1 0) (rb_mn p2 3) σ _ q4) [.ref (rb_sx w (9 + 0)), .int p0, .int (rb_mx p1 0), .int (rb_mn p2 3)] rfl rfl rfl ⟨Nat.le_of_ble_eq_true rfl, Nat.le_of_ble_eq_true rfl⟩ (Nat.le_of_ble_eq_true rfl) dJ1_indexOf_4cfef_33 ?_
      cases h
      exact rb_iret hC dJ1_indexOf_4cfef_36
    · replace h := rb_ifn c2 h
      refine rb_iconst (x := (-1)) hC dJ1_indexOf_4cfef_27 (by decide) ?_
      cases h
      exact rb_iret hC dJ1_indexOf_4cfef_28
  · replace h := rb_ifp c1 h
    refine rb_iconst (x := (-1)) hC dJ1_indexOf_4cfef_7 (by decide) ?_
    cases h
    exact rb_iret hC dJ1_indexOf_4cfef_8
theorem xc_JL_indexOf0 (p0 : Int32) (p1 : Int32) (p2 : Int32) (σ : rb_St) (r : Int32) (h : xf_JL_indexOf0 p0 p1 p2 σ = some r) : rb_Con rb_vX yJ1_indexOf_4cfef cJ1_indexOf_4cfef 4 (some .int) 1 (fun w => [.ref (rb_sx w (9 + 0)), .int p0, .int p1, .int p2]) σ (fun _ => (some (.int r))) σ := rb_Con.of (by decide +kernel) (fun _ => Nat.le_of_ble_eq_true rfl) (fun z w hC => xk_JL_indexOf0 hC p0 p1 p2 σ r h)
def xf_JS_coder1  (σ : rb_St) : Int32 := 0
set_option maxHeartbeats 4000000 in
set_option maxRecDepth 100000 in
theorem xk_JS_coder1 {z : rb_Z} {w : rb_Wd} (hC : rb_Cx z rb_vX w RJ0 cJ0_coder_7d493 1 (some .byte) 0)  (σ : rb_St) (r : Int32) (h : xf_JS_coder1 σ = r) : rb_At z rb_vX w 1 (rb_Q z rb_vX w (some (.int r)) σ) 0 [(0, .ref (rb_sx w (6 + 1)))] [] σ := by
  unfold xf_JS_coder1 at h
  refine rb_cps hC kf_J0_38 dJ0_coder_7d493_0 ?_
  refine rb_if_eq hC 13 dJ0_coder_7d493_3 (by decide) (fun c1 => absurd c1 (by decide)) (fun _ => ?_)
  refine rb_aload_n hC 0 dJ0_coder_7d493_6 rfl ?_
  refine rb_scod hC (i := 1) (by decide) kf_J0_15 dJ0_coder_7d493_7 ?_
  refine rb_goto hC 14 dJ0_coder_7d493_10 (by decide) ?_
  subst h
  exact rb_bret hC rfl dJ0_coder_7d493_14
theorem xc_JS_coder1  (σ : rb_St) (r : Int32) (h : xf_JS_coder1 σ = r) : rb_Con rb_vX yJ0_coder_7d493 cJ0_coder_7d493 1 (some .byte) 0 (fun w => [.ref (rb_sx w (6 + 1))]) σ (fun _ => (some (.int r))) σ := rb_Con.of (by decide +kernel) (fun _ => Nat.le_of_ble_eq_true rfl) (fun z w hC => xk_JS_coder1 hC  σ r h)
def xf_JS_length1  (σ : rb_St) : Int32 := 3
set_option maxHeartbeats 4000000 in
set_option maxRecDepth 100000 in
theorem xk_JS_length1 {z : rb_Z} {w : rb_Wd} (hC : rb_Cx z rb_vX w RJ0 cJ0_length_8abf5 1 (some .int) 1)  (σ : rb_St) (r : Int32) (h : xf_JS_length1 σ = r) : rb_At z rb_vX w 1 (rb_Q z rb_vX w (some (.int r)) σ) 0 [(0, .ref (rb_sx w (6 + 1)))] [] σ := by
  unfold xf_JS_length1 at h
  refine rb_aload_n hC 0 dJ0_length_8abf5_0 rfl ?_
  refine rb_sval hC (i := 1) (by decide) kf_J0_9 dJ0_length_8abf5_1 ?_
  refine rb_slen (x := 3) hC (i := 1) (by decide) (by decide) dJ0_length_8abf5_4 ?_
  refine rb_aload_n hC 0 dJ0_length_8abf5_5 rfl ?_
  refine rb_callT hC mv_J0_335 rfl (xc_JS_coder1  σ 0 rfl) (i := 1) (by decide) [] rfl rfl rfl ⟨Nat.le_of_ble_eq_true rfl, Nat.le_of_ble_eq_true rfl⟩ (Nat.le_of_ble_eq_true rfl) dJ0_length_8abf5_6 ?_
  refine rb_ishr hC dJ0_length_8abf5_9 ?_
  refine rb_nmI (y := 3) (by decide) ?_
  subst h
  exact rb_iret hC dJ0_length_8abf5_10
theorem xc_JS_length1  (σ : rb_St) (r : Int32) (h : xf_JS_length1 σ = r) : rb_Con rb_vX yJ0_length_8abf5 cJ0_length_8abf5 1 (some .int) 1 (fun w => [.ref (rb_sx w (6 + 1))]) σ (fun _ => (some (.int r))) σ := rb_Con.of (by decide +kernel) (fun _ => Nat.le_of_ble_eq_true rfl) (fun z w hC => xk_JS_length1 hC  σ r h)
def xf_JS_isLatin11  (σ : rb_St) : Int32 := 1
set_option maxHeartbeats 4000000 in
set_option maxRecDepth 100000 in
theorem xk_JS_isLatin11 {z : rb_Z} {w : rb_Wd} (hC : rb_Cx z rb_vX w RJ0 cJ0_isLatin1_aae02 1 (some .boolean) 0)  (σ : rb_St) (r : Int32) (h : xf_JS_isLatin11 σ = r) : rb_At z rb_vX w 1 (rb_Q z rb_vX w (some (.int r)) σ) 0 [(0, .ref (rb_sx w (6 + 1)))] [] σ := by
  unfold xf_JS_isLatin11 at h
  refine rb_cps hC kf_J0_38 dJ0_isLatin1_aae02_0 ?_
  refine rb_if_eq hC 17 dJ0_isLatin1_aae02_3 (by decide) (fun c1 => absurd c1 (by decide)) (fun _ => ?_)
  refine rb_aload_n hC 0 dJ0_isLatin1_aae02_6 rfl ?_
  refine rb_scod hC (i := 1) (by decide) kf_J0_15 dJ0_isLatin1_aae02_7 ?_
  refine rb_if_ne hC 17 dJ0_isLatin1_aae02_10 (by decide) (fun c2 => absurd c2 (by decide)) (fun _ => ?_)
  refine rb_iconst (x := 1) hC dJ0_isLatin1_aae02_13 (by decide) ?_
  refine rb_goto hC 18 dJ0_isLatin1_aae02_14 (by decide) ?_
  subst h
  exact rb_zret hC rfl dJ0_isLatin1_aae02_18
theorem xc_JS_isLatin11  (σ : rb_St) (r : Int32) (h : xf_JS_isLatin11 σ = r) : rb_Con rb_vX yJ0_isLatin1_aae02 cJ0_isLatin1_aae02 1 (some .boolean) 0 (fun w => [.ref (rb_sx w (6 + 1))]) σ (fun _ => (some (.int r))) σ := rb_Con.of (by decide +kernel) (fun _ => Nat.le_of_ble_eq_true rfl) (fun z w hC => xk_JS_isLatin11 hC  σ r h)
def xl_JL_indexOfChar1_7 (x3 : Int32) (x4 : Int32) (σ : rb_St) : Nat → Int32 → Option (Nat × Int32)
  | 0, _ => none
  | n + 1, x5 => if x3 ≤ x5 then some (1, x5) else if rb_ib x5 3 then if ((rb_bt.getD 1 []).getD x5.toNatClampNeg 0) = x4 then some (0, x5) else xl_JL_indexOfChar1_7 x3 x4 σ n (x5 + 1) else none
set_option maxHeartbeats 4000000 in
set_option maxRecDepth 100000 in
theorem xt_JL_indexOfChar1_7 {z : rb_Z} {w : rb_Wd} {Q : State → Prop} (hC : rb_Cx z rb_vX w RJ1 cJ1_indexOfChar_4cfef 6 (some .int) 0) (x3 : Int32) (x4 : Int32) (σ : rb_St) : ∀ (n : Nat) (x5 : Int32) (t : Nat) (y5 : Int32), xl_JL_indexOfChar1_7 x3 x4 σ n x5 = some (t, y5) → (t = 0 → rb_At z rb_vX w 6 Q 22 [(5, .int y5)] [] σ) → (t = 1 → rb_At z rb_vX w 6 Q 31 [] [] σ) → rb_At z rb_vX w 6 Q 7 [(0, .ref (rb_sx w (9 + 1))), (3, .int x3), (4, .int x4), (5, .int x5)] [] σ := by
  intro n
  induction n with
  | zero =>
    intro x5 t y5 h hE0 hE1
    cases h
  | succ n ih =>
    intro x5 t y5 h hE0 hE1
    rw [xl_JL_indexOfChar1_7] at h
    refine rb_iload hC 3 dJ1_indexOfChar_4cfef_7 rfl ?_
    refine rb_iload_n hC 1 dJ1_indexOfChar_4cfef_9 rfl ?_
    refine rb_icmp_ge hC 31 dJ1_indexOfChar_4cfef_10 (by decide) (fun c1 => ?_) (fun c1 => ?_)
    · replace h := rb_ifp c1 h
      cases h
      exact rb_sub [] rfl (hE1 rfl)
    · replace h := rb_ifn c1 h
      refine rb_aload_n hC 0 dJ1_indexOfChar_4cfef_13 rfl ?_
      refine rb_iload hC 3 dJ1_indexOfChar_4cfef_14 rfl ?_
      obtain ⟨g2, h⟩ := rb_gd h
      refine rb_sbal hC (i := 1) (by decide) (rb_ibI g2) dJ1_indexOfChar_4cfef_16 ?_
      refine rb_iload hC 2 dJ1_indexOfChar_4cfef_17 rfl ?_
      refine rb_icmp_ne hC 25 dJ1_indexOfChar_4cfef_19 (by decide) (fun c3 => ?_) (fun c3 => ?_)
      · replace h := rb_ifn c3 h
        refine rb_iinc hC 3 [(5, .int (x5 + 1)), (0, .ref (rb_sx w (9 + 1))), (3, .int x3), (4, .int x4)] dJ1_indexOfChar_4cfef_25 rfl rfl (by decide) rfl ?_
        refine rb_goto hC 7 dJ1_indexOfChar_4cfef_28 (by decide) ?_
        exact rb_sub [1, 2, 3, 0] rfl (ih (x5 + 1) _ _ h hE0 hE1)
      · replace h := rb_ifp c3 h
        cases h
        exact rb_sub [3] rfl (hE0 rfl)
def xf_JL_indexOfChar1 (p0 : Int32) (p1 : Int32) (p2 : Int32) (σ : rb_St) : Option Int32 := rb_b2 (xl_JL_indexOfChar1_7 p2 p0.toInt8.toInt32 σ rb_FU p1) fun t4 y5 => if t4 = 0 then some y5 else some (-1)
set_option maxHeartbeats 4000000 in
set_option maxRecDepth 100000 in
theorem xk_JL_indexOfChar1 {z : rb_Z} {w : rb_Wd} (hC : rb_Cx z rb_vX w RJ1 cJ1_indexOfChar_4cfef 6 (some .int) 0) (p0 : Int32) (p1 : Int32) (p2 : Int32) (σ : rb_St) (r : Int32) (h : xf_JL_indexOfChar1 p0 p1 p2 σ = some r) : rb_At z rb_vX w 6 (rb_Q z rb_vX w (some (.int r)) σ) 0 [(0, .ref (rb_sx w (9 + 1))), (1, .int p0), (2, .int p1), (3, .int p2)] [] σ := by
  unfold xf_JL_indexOfChar1 at h
  refine rb_iload_n hC 1 dJ1_indexOfChar_4cfef_0 rfl ?_
  refine rb_i2b hC dJ1_indexOfChar_4cfef_1 ?_
  refine rb_istore hC [(4, .int p0.toInt8.toInt32), (0, .ref (rb_sx w (9 + 1))), (1, .int p0), (2, .int p1), (3, .int p2)] dJ1_indexOfChar_4cfef_2 (by decide) rfl ?_
  refine rb_iload_n hC 3 dJ1_indexOfChar_4cfef_4 rfl ?_
  refine rb_istore hC [(5, .int p1), (4, .int p0.toInt8.toInt32), (0, .ref (rb_sx w (9 + 1))), (1, .int p0), (2, .int p1), (3, .int p2)] dJ1_indexOfChar_4cfef_5 (by decide) rfl ?_
  obtain ⟨t4, y5, q6, h⟩ := rb_b2s h
  refine rb_sub (lv2 := [(0, .ref (rb_sx w (9 + 1))), (3, .int p2), (4, .int p0.toInt8.toInt32), (5, .int p1)]) [2, 5, 1, 0] rfl ?_
  refine xt_JL_indexOfChar1_7 hC p2 p0.toInt8.toInt32 σ rb_FU p1 _ _ q6 (fun ht => ?_) (fun ht => ?_)
  · subst ht
    replace h := rb_ifp rfl h
    refine rb_iload hC 0 dJ1_indexOfChar_4cfef_22 rfl ?_
    cases h
    exact rb_iret hC dJ1_indexOfChar_4cfef_24
  · subst ht
    replace h := rb_ifn (by decide) h
    refine rb_iconst (x := (-1)) hC dJ1_indexOfChar_4cfef_31 (by decide) ?_
    cases h
    exact rb_iret hC dJ1_indexOfChar_4cfef_32
theorem xc_JL_indexOfChar1 (p0 : Int32) (p1 : Int32) (p2 : Int32) (σ : rb_St) (r : Int32) (h : xf_JL_indexOfChar1 p0 p1 p2 σ = some r) : rb_Con rb_vX yJ1_indexOfChar_4cfef cJ1_indexOfChar_4cfef 6 (some .int) 0 (fun w => [.ref (rb_sx w (9 + 1)), .int p0, .int p1, .int p2]) σ (fun _ => (some (.int r))) σ := rb_Con.of (by decide +kernel) (fun _ => Nat.le_of_ble_eq_true rfl) (fun z w hC => xk_JL_indexOfChar1 hC p0 p1 p2 σ r h)
def xf_JL_indexOf1 (p0 : Int32) (p1 : Int32) (p2 : Int32) (σ : rb_St) : Option Int32 := if (xf_JL_canEncode p0 σ) = 0 then some (-1) else if (rb_mx p1 0) < (rb_mn p2 3) then rb_b1 (xf_JL_indexOfChar1 p0 (rb_mx p1 0) (rb_mn p2 3) σ) fun r3 => some r3 else some (-1)
set_option maxHeartbeats 4000000 in
set_option maxRecDepth 100000 in
theorem xk_JL_indexOf1 {z : rb_Z} {w : rb_Wd} (hC : rb_Cx z rb_vX w RJ1 cJ1_indexOf_4cfef 4 (some .int) 1) (p0 : Int32) (p1 : Int32) (p2 : Int32) (σ : rb_St) (r : Int32) (h : xf_JL_indexOf1 p0 p1 p2 σ = some r) : rb_At z rb_vX w 4 (rb_Q z rb_vX w (some (.int r)) σ) 0 [(0, .ref (rb_sx w (9 + 1))), (1, .int p0), (2, .int p1), (3, .int p2)] [] σ := by
  unfold xf_JL_indexOf1 at h
  refine rb_iload_n hC 1 dJ1_indexOf_4cfef_0 rfl ?_
  refine rb_callSi hC rb_VokX mv_J1_88 (xc_JL_canEncode p0 σ _ rfl) [.int p0] rfl rfl rfl ⟨Nat.le_of_ble_eq_true rfl, Nat.le_of_ble_eq_true rfl⟩ (Nat.le_of_ble_eq_true rfl) dJ1_indexOf_4cfef_1 ?_
  refine rb_if_ne hC 9 dJ1_indexOf_4cfef_4 (by decide) (fun c1 => ?_) (fun c1 => ?_)
  · replace h := rb_ifn c1 h
    refine rb_iload_n hC 2 dJ1_indexOf_4cfef_9 rfl ?_
    refine rb_iconst (x := 0) hC dJ1_indexOf_4cfef_10 (by decide) ?_
    refine rb_mmax hC mk_J1_92 ⟨Nat.le_of_ble_eq_true rfl, Nat.le_of_ble_eq_true rfl⟩ dJ1_indexOf_4cfef_11 ?_
    refine rb_istore_n hC [(2, .int (rb_mx p1 0)), (0, .ref (rb_sx w (9 + 1))), (1, .int p0), (3, .int p2)] dJ1_indexOf_4cfef_14 (by decide) rfl ?_
    refine rb_iload_n hC 3 dJ1_indexOf_4cfef_15 rfl ?_
    refine rb_aload_n hC 1 dJ1_indexOf_4cfef_16 rfl ?_
    refine rb_slen (x := 3) hC (i := 1) (by decide) (by decide) dJ1_indexOf_4cfef_17 ?_
    refine rb_mmin hC mk_J1_38 ⟨Nat.le_of_ble_eq_true rfl, Nat.le_of_ble_eq_true rfl⟩ dJ1_indexOf_4cfef_18 ?_
    refine rb_istore_n hC [(3, .int (rb_mn p2 3)), (2, .int (rb_mx p1 0)), (0, .ref (rb_sx w (9 + 1))), (1, .int p0)] dJ1_indexOf_4cfef_21 (by decide) rfl ?_
    refine rb_iload_n hC 1 dJ1_indexOf_4cfef_22 rfl ?_
    refine rb_iload_n hC 0 dJ1_indexOf_4cfef_23 rfl ?_
    refine rb_icmp_lt hC 29 dJ1_indexOf_4cfef_24 (by decide) (fun c2 => ?_) (fun c2 => ?_)
    · replace h := rb_ifp c2 h
      refine rb_aload_n hC 2 dJ1_indexOf_4cfef_29 rfl ?_
      refine rb_iload_n hC 3 dJ1_indexOf_4cfef_30 rfl ?_
      refine rb_iload_n hC 1 dJ1_indexOf_4cfef_31 rfl ?_
      refine rb_iload_n hC 0 dJ1_indexOf_4cfef_32 rfl ?_
      obtain ⟨r3, q4, h⟩ := rb_b1s h
      refine rb_callSi hC rb_VokX mv_J1_95 (xc_JL_indexOfChar1 p0 (rb_mx p1 0) (rb_mn p2 3) σ _ q4) [.ref (rb_sx w (9 + 1)), .int p0, .int (rb_mx p1 0), .int (rb_mn p2 3)] rfl rfl rfl ⟨Nat.le_of_ble_eq_true rfl, Nat.le_of_ble_eq_true rfl⟩ (Nat.le_of_ble_eq_true rfl) dJ1_indexOf_4cfef_33 ?_
      cases h
      exact rb_iret hC dJ1_indexOf_4cfef_36
    · replace h := rb_ifn c2 h
      refine rb_iconst (x := (-1)) hC dJ1_indexOf_4cfef_27 (by decide) ?_
      cases h
      exact rb_iret hC dJ1_indexOf_4cfef_28
  · replace h := rb_ifp c1 h
    refine rb_iconst (x := (-1)) hC dJ1_indexOf_4cfef_7 (by decide) ?_
    cases h
    exact rb_iret hC dJ1_indexOf_4cfef_8
theorem xc_JL_indexOf1 (p0 : Int32) (p1 : Int32) (p2 : Int32) (σ : rb_St) (r : Int32) (h : xf_JL_indexOf1 p0 p1 p2 σ = some r) : rb_Con rb_vX yJ1_indexOf_4cfef cJ1_indexOf_4cfef 4 (some .int) 1 (fun w => [.ref (rb_sx w (9 + 1)), .int p0, .int p1, .int p2]) σ (fun _ => (some (.int r))) σ := rb_Con.of (by decide +kernel) (fun _ => Nat.le_of_ble_eq_true rfl) (fun z w hC => xk_JL_indexOf1 hC p0 p1 p2 σ r h)
def xf_JS_coder2  (σ : rb_St) : Int32 := 0
set_option maxHeartbeats 4000000 in
set_option maxRecDepth 100000 in
theorem xk_JS_coder2 {z : rb_Z} {w : rb_Wd} (hC : rb_Cx z rb_vX w RJ0 cJ0_coder_7d493 1 (some .byte) 0)  (σ : rb_St) (r : Int32) (h : xf_JS_coder2 σ = r) : rb_At z rb_vX w 1 (rb_Q z rb_vX w (some (.int r)) σ) 0 [(0, .ref (rb_sx w (6 + 2)))] [] σ := by
  unfold xf_JS_coder2 at h
  refine rb_cps hC kf_J0_38 dJ0_coder_7d493_0 ?_
  refine rb_if_eq hC 13 dJ0_coder_7d493_3 (by decide) (fun c1 => absurd c1 (by decide)) (fun _ => ?_)
  refine rb_aload_n hC 0 dJ0_coder_7d493_6 rfl ?_
  refine rb_scod hC (i := 2) (by decide) kf_J0_15 dJ0_coder_7d493_7 ?_
  refine rb_goto hC 14 dJ0_coder_7d493_10 (by decide) ?_
  subst h
  exact rb_bret hC rfl dJ0_coder_7d493_14
theorem xc_JS_coder2  (σ : rb_St) (r : Int32) (h : xf_JS_coder2 σ = r) : rb_Con rb_vX yJ0_coder_7d493 cJ0_coder_7d493 1 (some .byte) 0 (fun w => [.ref (rb_sx w (6 + 2))]) σ (fun _ => (some (.int r))) σ := rb_Con.of (by decide +kernel) (fun _ => Nat.le_of_ble_eq_true rfl) (fun z w hC => xk_JS_coder2 hC  σ r h)
def xf_JS_length2  (σ : rb_St) : Int32 := 6
set_option maxHeartbeats 4000000 in
set_option maxRecDepth 100000 in
theorem xk_JS_length2 {z : rb_Z} {w : rb_Wd} (hC : rb_Cx z rb_vX w RJ0 cJ0_length_8abf5 1 (some .int) 1)  (σ : rb_St) (r : Int32) (h : xf_JS_length2 σ = r) : rb_At z rb_vX w 1 (rb_Q z rb_vX w (some (.int r)) σ) 0 [(0, .ref (rb_sx w (6 + 2)))] [] σ := by
  unfold xf_JS_length2 at h
  refine rb_aload_n hC 0 dJ0_length_8abf5_0 rfl ?_
  refine rb_sval hC (i := 2) (by decide) kf_J0_9 dJ0_length_8abf5_1 ?_
  refine rb_slen (x := 6) hC (i := 2) (by decide) (by decide) dJ0_length_8abf5_4 ?_
  refine rb_aload_n hC 0 dJ0_length_8abf5_5 rfl ?_
  refine rb_callT hC mv_J0_335 rfl (xc_JS_coder2  σ 0 rfl) (i := 2) (by decide) [] rfl rfl rfl ⟨Nat.le_of_ble_eq_true rfl, Nat.le_of_ble_eq_true rfl⟩ (Nat.le_of_ble_eq_true rfl) dJ0_length_8abf5_6 ?_
  refine rb_ishr hC dJ0_length_8abf5_9 ?_
  refine rb_nmI (y := 6) (by decide) ?_
  subst h
  exact rb_iret hC dJ0_length_8abf5_10
theorem xc_JS_length2  (σ : rb_St) (r : Int32) (h : xf_JS_length2 σ = r) : rb_Con rb_vX yJ0_length_8abf5 cJ0_length_8abf5 1 (some .int) 1 (fun w => [.ref (rb_sx w (6 + 2))]) σ (fun _ => (some (.int r))) σ := rb_Con.of (by decide +kernel) (fun _ => Nat.le_of_ble_eq_true rfl) (fun z w hC => xk_JS_length2 hC  σ r h)
def xf_JS_isLatin12  (σ : rb_St) : Int32 := 1
set_option maxHeartbeats 4000000 in
set_option maxRecDepth 100000 in
theorem xk_JS_isLatin12 {z : rb_Z} {w : rb_Wd} (hC : rb_Cx z rb_vX w RJ0 cJ0_isLatin1_aae02 1 (some .boolean) 0)  (σ : rb_St) (r : Int32) (h : xf_JS_isLatin12 σ = r) : rb_At z rb_vX w 1 (rb_Q z rb_vX w (some (.int r)) σ) 0 [(0, .ref (rb_sx w (6 + 2)))] [] σ := by
  unfold xf_JS_isLatin12 at h
  refine rb_cps hC kf_J0_38 dJ0_isLatin1_aae02_0 ?_
  refine rb_if_eq hC 17 dJ0_isLatin1_aae02_3 (by decide) (fun c1 => absurd c1 (by decide)) (fun _ => ?_)
  refine rb_aload_n hC 0 dJ0_isLatin1_aae02_6 rfl ?_
  refine rb_scod hC (i := 2) (by decide) kf_J0_15 dJ0_isLatin1_aae02_7 ?_
  refine rb_if_ne hC 17 dJ0_isLatin1_aae02_10 (by decide) (fun c2 => absurd c2 (by decide)) (fun _ => ?_)
  refine rb_iconst (x := 1) hC dJ0_isLatin1_aae02_13 (by decide) ?_
  refine rb_goto hC 18 dJ0_isLatin1_aae02_14 (by decide) ?_
  subst h
  exact rb_zret hC rfl dJ0_isLatin1_aae02_18
theorem xc_JS_isLatin12  (σ : rb_St) (r : Int32) (h : xf_JS_isLatin12 σ = r) : rb_Con rb_vX yJ0_isLatin1_aae02 cJ0_isLatin1_aae02 1 (some .boolean) 0 (fun w => [.ref (rb_sx w (6 + 2))]) σ (fun _ => (some (.int r))) σ := rb_Con.of (by decide +kernel) (fun _ => Nat.le_of_ble_eq_true rfl) (fun z w hC => xk_JS_isLatin12 hC  σ r h)
def xl_JL_indexOfChar2_7 (x3 : Int32) (x4 : Int32) (σ : rb_St) : Nat → Int32 → Option (Nat × Int32)
  | 0, _ => none
  | n + 1, x5 => if x3 ≤ x5 then some (1, x5) else if rb_ib x5 6 then if ((rb_bt.getD 2 []).getD x5.toNatClampNeg 0) = x4 then some (0, x5) else xl_JL_indexOfChar2_7 x3 x4 σ n (x5 + 1) else none
set_option maxHeartbeats 4000000 in
set_option maxRecDepth 100000 in
theorem xt_JL_indexOfChar2_7 {z : rb_Z} {w : rb_Wd} {Q : State → Prop} (hC : rb_Cx z rb_vX w RJ1 cJ1_indexOfChar_4cfef 6 (some .int) 0) (x3 : Int32) (x4 : Int32) (σ : rb_St) : ∀ (n : Nat) (x5 : Int32) (t : Nat) (y5 : Int32), xl_JL_indexOfChar2_7 x3 x4 σ n x5 = some (t, y5) → (t = 0 → rb_At z rb_vX w 6 Q 22 [(5, .int y5)] [] σ) → (t = 1 → rb_At z rb_vX w 6 Q 31 [] [] σ) → rb_At z rb_vX w 6 Q 7 [(0, .ref (rb_sx w (9 + 2))), (3, .int x3), (4, .int x4), (5, .int x5)] [] σ := by
  intro n
  induction n with
  | zero =>
    intro x5 t y5 h hE0 hE1
    cases h
  | succ n ih =>
    intro x5 t y5 h hE0 hE1
    rw [xl_JL_indexOfChar2_7] at h
    refine rb_iload hC 3 dJ1_indexOfChar_4cfef_7 rfl ?_
    refine rb_iload_n hC 1 dJ1_indexOfChar_4cfef_9 rfl ?_
    refine rb_icmp_ge hC 31 dJ1_indexOfChar_4cfef_10 (by decide) (fun c1 => ?_) (fun c1 => ?_)
    · replace h := rb_ifp c1 h
      cases h
      exact rb_sub [] rfl (hE1 rfl)
    · replace h := rb_ifn c1 h
      refine rb_aload_n hC 0 dJ1_indexOfChar_4cfef_13 rfl ?_
      refine rb_iload hC 3 dJ1_indexOfChar_4cfef_14 rfl ?_
      obtain ⟨g2, h⟩ := rb_gd h
      refine rb_sbal hC (i := 2) (by decide) (rb_ibI g2) dJ1_indexOfChar_4cfef_16 ?_
      refine rb_iload hC 2 dJ1_indexOfChar_4cfef_17 rfl ?_
      refine rb_icmp_ne hC 25 dJ1_indexOfChar_4cfef_19 (by decide) (fun c3 => ?_) (fun c3 => ?_)
      · replace h := rb_ifn c3 h
        refine rb_iinc hC 3 [(5, .int (x5 + 1)), (0, .ref (rb_sx w (9 + 2))), (3, .int x3), (4, .int x4)] dJ1_indexOfChar_4cfef_25 rfl rfl (by decide) rfl ?_
        refine rb_goto hC 7 dJ1_indexOfChar_4cfef_28 (by decide) ?_
        exact rb_sub [1, 2, 3, 0] rfl (ih (x5 + 1) _ _ h hE0 hE1)
      · replace h := rb_ifp c3 h
        cases h
        exact rb_sub [3] rfl (hE0 rfl)
def xf_JL_indexOfChar2 (p0 : Int32) (p1 : Int32) (p2 : Int32) (σ : rb_St) : Option Int32 := rb_b2 (xl_JL_indexOfChar2_7 p2 p0.toInt8.toInt32 σ rb_FU p1) fun t4 y5 => if t4 = 0 then some y5 else some (-1)
set_option maxHeartbeats 4000000 in
set_option maxRecDepth 100000 in
theorem xk_JL_indexOfChar2 {z : rb_Z} {w : rb_Wd} (hC : rb_Cx z rb_vX w RJ1 cJ1_indexOfChar_4cfef 6 (some .int) 0) (p0 : Int32) (p1 : Int32) (p2 : Int32) (σ : rb_St) (r : Int32) (h : xf_JL_indexOfChar2 p0 p1 p2 σ = some r) : rb_At z rb_vX w 6 (rb_Q z rb_vX w (some (.int r)) σ) 0 [(0, .ref (rb_sx w (9 + 2))), (1, .int p0), (2, .int p1), (3, .int p2)] [] σ := by
  unfold xf_JL_indexOfChar2 at h
  refine rb_iload_n hC 1 dJ1_indexOfChar_4cfef_0 rfl ?_
  refine rb_i2b hC dJ1_indexOfChar_4cfef_1 ?_
  refine rb_istore hC [(4, .int p0.toInt8.toInt32), (0, .ref (rb_sx w (9 + 2))), (1, .int p0), (2, .int p1), (3, .int p2)] dJ1_indexOfChar_4cfef_2 (by decide) rfl ?_
  refine rb_iload_n hC 3 dJ1_indexOfChar_4cfef_4 rfl ?_
  refine rb_istore hC [(5, .int p1), (4, .int p0.toInt8.toInt32), (0, .ref (rb_sx w (9 + 2))), (1, .int p0), (2, .int p1), (3, .int p2)] dJ1_indexOfChar_4cfef_5 (by decide) rfl ?_
  obtain ⟨t4, y5, q6, h⟩ := rb_b2s h
  refine rb_sub (lv2 := [(0, .ref (rb_sx w (9 + 2))), (3, .int p2), (4, .int p0.toInt8.toInt32), (5, .int p1)]) [2, 5, 1, 0] rfl ?_
  refine xt_JL_indexOfChar2_7 hC p2 p0.toInt8.toInt32 σ rb_FU p1 _ _ q6 (fun ht => ?_) (fun ht => ?_)
  · subst ht
    replace h := rb_ifp rfl h
    refine rb_iload hC 0 dJ1_indexOfChar_4cfef_22 rfl ?_
    cases h
    exact rb_iret hC dJ1_indexOfChar_4cfef_24
  · subst ht
    replace h := rb_ifn (by decide) h
    refine rb_iconst (x := (-1)) hC dJ1_indexOfChar_4cfef_31 (by decide) ?_
    cases h
    exact rb_iret hC dJ1_indexOfChar_4cfef_32
theorem xc_JL_indexOfChar2 (p0 : Int32) (p1 : Int32) (p2 : Int32) (σ : rb_St) (r : Int32) (h : xf_JL_indexOfChar2 p0 p1 p2 σ = some r) : rb_Con rb_vX yJ1_indexOfChar_4cfef cJ1_indexOfChar_4cfef 6 (some .int) 0 (fun w => [.ref (rb_sx w (9 + 2)), .int p0, .int p1, .int p2]) σ (fun _ => (some (.int r))) σ := rb_Con.of (by decide +kernel) (fun _ => Nat.le_of_ble_eq_true rfl) (fun z w hC => xk_JL_indexOfChar2 hC p0 p1 p2 σ r h)
def xf_JL_indexOf2 (p0 : Int32) (p1 : Int32) (p2 : Int32) (σ : rb_St) : Option Int32 := if (xf_JL_canEncode p0 σ) = 0 then some (-1) else if (rb_mx p1 0) < (rb_mn p2 6) then rb_b1 (xf_JL_indexOfChar2 p0 (rb_mx p1 0) (rb_mn p2 6) σ) fun r3 => some r3 else some (-1)
set_option maxHeartbeats 4000000 in
set_option maxRecDepth 100000 in
theorem xk_JL_indexOf2 {z : rb_Z} {w : rb_Wd} (hC : rb_Cx z rb_vX w RJ1 cJ1_indexOf_4cfef 4 (some .int) 1) (p0 : Int32) (p1 : Int32) (p2 : Int32) (σ : rb_St) (r : Int32) (h : xf_JL_indexOf2 p0 p1 p2 σ = some r) : rb_At z rb_vX w 4 (rb_Q z rb_vX w (some (.int r)) σ) 0 [(0, .ref (rb_sx w (9 + 2))), (1, .int p0), (2, .int p1), (3, .int p2)] [] σ := by
  unfold xf_JL_indexOf2 at h
  refine rb_iload_n hC 1 dJ1_indexOf_4cfef_0 rfl ?_
  refine rb_callSi hC rb_VokX mv_J1_88 (xc_JL_canEncode p0 σ _ rfl) [.int p0] rfl rfl rfl ⟨Nat.le_of_ble_eq_true rfl, Nat.le_of_ble_eq_true rfl⟩ (Nat.le_of_ble_eq_true rfl) dJ1_indexOf_4cfef_1 ?_
  refine rb_if_ne hC 9 dJ1_indexOf_4cfef_4 (by decide) (fun c1 => ?_) (fun c1 => ?_)
  · replace h := rb_ifn c1 h
    refine rb_iload_n hC 2 dJ1_indexOf_4cfef_9 rfl ?_
    refine rb_iconst (x := 0) hC dJ1_indexOf_4cfef_10 (by decide) ?_
    refine rb_mmax hC mk_J1_92 ⟨Nat.le_of_ble_eq_true rfl, Nat.le_of_ble_eq_true rfl⟩ dJ1_indexOf_4cfef_11 ?_
    refine rb_istore_n hC [(2, .int (rb_mx p1 0)), (0, .ref (rb_sx w (9 + 2))), (1, .int p0), (3, .int p2)] dJ1_indexOf_4cfef_14 (by decide) rfl ?_
    refine rb_iload_n hC 3 dJ1_indexOf_4cfef_15 rfl ?_
    refine rb_aload_n hC 1 dJ1_indexOf_4cfef_16 rfl ?_
    refine rb_slen (x := 6) hC (i := 2) (by decide) (by decide) dJ1_indexOf_4cfef_17 ?_
    refine rb_mmin hC mk_J1_38 ⟨Nat.le_of_ble_eq_true rfl, Nat.le_of_ble_eq_true rfl⟩ dJ1_indexOf_4cfef_18 ?_
    refine rb_istore_n hC [(3, .int (rb_mn p2 6)), (2, .int (rb_mx p1 0)), (0, .ref (rb_sx w (9 + 2))), (1, .int p0)] dJ1_indexOf_4cfef_21 (by decide) rfl ?_
    refine rb_iload_n hC 1 dJ1_indexOf_4cfef_22 rfl ?_
    refine rb_iload_n hC 0 dJ1_indexOf_4cfef_23 rfl ?_
    refine rb_icmp_lt hC 29 dJ1_indexOf_4cfef_24 (by decide) (fun c2 => ?_) (fun c2 => ?_)
    · replace h := rb_ifp c2 h
      refine rb_aload_n hC 2 dJ1_indexOf_4cfef_29 rfl ?_
      refine rb_iload_n hC 3 dJ1_indexOf_4cfef_30 rfl ?_
      refine rb_iload_n hC 1 dJ1_indexOf_4cfef_31 rfl ?_
      refine rb_iload_n hC 0 dJ1_indexOf_4cfef_32 rfl ?_
      obtain ⟨r3, q4, h⟩ := rb_b1s h
      refine rb_callSi hC rb_VokX mv_J1_95 (xc_JL_indexOfChar2 p0 (rb_mx p1 0) (rb_mn p2 6) σ _ q4) [.ref (rb_sx w (9 + 2)), .int p0, .int (rb_mx p1 0), .int (rb_mn p2 6)] rfl rfl rfl ⟨Nat.le_of_ble_eq_true rfl, Nat.le_of_ble_eq_true rfl⟩ (Nat.le_of_ble_eq_true rfl) dJ1_indexOf_4cfef_33 ?_
      cases h
      exact rb_iret hC dJ1_indexOf_4cfef_36
    · replace h := rb_ifn c2 h
      refine rb_iconst (x := (-1)) hC dJ1_indexOf_4cfef_27 (by decide) ?_
      cases h
      exact rb_iret hC dJ1_indexOf_4cfef_28
  · replace h := rb_ifp c1 h
    refine rb_iconst (x := (-1)) hC dJ1_indexOf_4cfef_7 (by decide) ?_
    cases h
    exact rb_iret hC dJ1_indexOf_4cfef_8
theorem xc_JL_indexOf2 (p0 : Int32) (p1 : Int32) (p2 : Int32) (σ : rb_St) (r : Int32) (h : xf_JL_indexOf2 p0 p1 p2 σ = some r) : rb_Con rb_vX yJ1_indexOf_4cfef cJ1_indexOf_4cfef 4 (some .int) 1 (fun w => [.ref (rb_sx w (9 + 2)), .int p0, .int p1, .int p2]) σ (fun _ => (some (.int r))) σ := rb_Con.of (by decide +kernel) (fun _ => Nat.le_of_ble_eq_true rfl) (fun z w hC => xk_JL_indexOf2 hC p0 p1 p2 σ r h)
def xf_Pole_letterIn (p0 : Int32) (σ : rb_St) : Int32 := p0 &&& 15
set_option maxHeartbeats 4000000 in
set_option maxRecDepth 100000 in
theorem xk_Pole_letterIn {z : rb_Z} {w : rb_Wd} (hC : rb_Cx z rb_vX w RX7 cX7_letterIn 1 (some .int) 0) (p0 : Int32) (σ : rb_St) (r : Int32) (h : xf_Pole_letterIn p0 σ = r) : rb_At z rb_vX w 1 (rb_Q z rb_vX w (some (.int r)) σ) 0 [(0, .int p0)] [] σ := by
  unfold xf_Pole_letterIn at h
  refine rb_iload_n hC 0 dX7_letterIn_0 rfl ?_
  refine rb_bipush (x := 15) hC dX7_letterIn_1 (by decide) ?_
  refine rb_iand hC dX7_letterIn_3 ?_
  subst h
  exact rb_iret hC dX7_letterIn_4
theorem xc_Pole_letterIn (p0 : Int32) (σ : rb_St) (r : Int32) (h : xf_Pole_letterIn p0 σ = r) : rb_Con rb_vX yX7_letterIn cX7_letterIn 1 (some .int) 0 (fun w => [.int p0]) σ (fun _ => (some (.int r))) σ := rb_Con.of (by decide +kernel) (fun _ => Nat.le_of_ble_eq_true rfl) (fun z w hC => xk_Pole_letterIn hC p0 σ r h)
def xf_Pole_placeIn (p0 : Int32) (σ : rb_St) : Int32 := (p0 >>> (1 &&& 31)) &&& 7
set_option maxHeartbeats 4000000 in
set_option maxRecDepth 100000 in
theorem xk_Pole_placeIn {z : rb_Z} {w : rb_Wd} (hC : rb_Cx z rb_vX w RX7 cX7_placeIn 1 (some .int) 0) (p0 : Int32) (σ : rb_St) (r : Int32) (h : xf_Pole_placeIn p0 σ = r) : rb_At z rb_vX w 1 (rb_Q z rb_vX w (some (.int r)) σ) 0 [(0, .int p0)] [] σ := by
  unfold xf_Pole_placeIn at h
  refine rb_iload_n hC 0 dX7_placeIn_0 rfl ?_
  refine rb_iconst (x := 1) hC dX7_placeIn_1 (by decide) ?_
  refine rb_ishr hC dX7_placeIn_2 ?_
  refine rb_bipush (x := 7) hC dX7_placeIn_3 (by decide) ?_
  refine rb_iand hC dX7_placeIn_5 ?_
  subst h
  exact rb_iret hC dX7_placeIn_6
theorem xc_Pole_placeIn (p0 : Int32) (σ : rb_St) (r : Int32) (h : xf_Pole_placeIn p0 σ = r) : rb_Con rb_vX yX7_placeIn cX7_placeIn 1 (some .int) 0 (fun w => [.int p0]) σ (fun _ => (some (.int r))) σ := rb_Con.of (by decide +kernel) (fun _ => Nat.le_of_ble_eq_true rfl) (fun z w hC => xk_Pole_placeIn hC p0 σ r h)
def xf_Pole_overIn (p0 : Int32) (σ : rb_St) : Int32 := (p0 >>> (4 &&& 31)) &&& 7
set_option maxHeartbeats 4000000 in
set_option maxRecDepth 100000 in
theorem xk_Pole_overIn {z : rb_Z} {w : rb_Wd} (hC : rb_Cx z rb_vX w RX7 cX7_overIn 1 (some .int) 0) (p0 : Int32) (σ : rb_St) (r : Int32) (h : xf_Pole_overIn p0 σ = r) : rb_At z rb_vX w 1 (rb_Q z rb_vX w (some (.int r)) σ) 0 [(0, .int p0)] [] σ := by
  unfold xf_Pole_overIn at h
  refine rb_iload_n hC 0 dX7_overIn_0 rfl ?_
  refine rb_iconst (x := 4) hC dX7_overIn_1 (by decide) ?_
  refine rb_ishr hC dX7_overIn_2 ?_
  refine rb_bipush (x := 7) hC dX7_overIn_3 (by decide) ?_
  refine rb_iand hC dX7_overIn_5 ?_
  subst h
  exact rb_iret hC dX7_overIn_6
theorem xc_Pole_overIn (p0 : Int32) (σ : rb_St) (r : Int32) (h : xf_Pole_overIn p0 σ = r) : rb_Con rb_vX yX7_overIn cX7_overIn 1 (some .int) 0 (fun w => [.int p0]) σ (fun _ => (some (.int r))) σ := rb_Con.of (by decide +kernel) (fun _ => Nat.le_of_ble_eq_true rfl) (fun z w hC => xk_Pole_overIn hC p0 σ r h)
def xf_Pole_underIn (p0 : Int32) (σ : rb_St) : Int32 := (p0 >>> (7 &&& 31)) &&& 7
set_option maxHeartbeats 4000000 in
set_option maxRecDepth 100000 in
theorem xk_Pole_underIn {z : rb_Z} {w : rb_Wd} (hC : rb_Cx z rb_vX w RX7 cX7_underIn 1 (some .int) 0) (p0 : Int32) (σ : rb_St) (r : Int32) (h : xf_Pole_underIn p0 σ = r) : rb_At z rb_vX w 1 (rb_Q z rb_vX w (some (.int r)) σ) 0 [(0, .int p0)] [] σ := by
  unfold xf_Pole_underIn at h
  refine rb_iload_n hC 0 dX7_underIn_0 rfl ?_
  refine rb_bipush (x := 7) hC dX7_underIn_1 (by decide) ?_
  refine rb_ishr hC dX7_underIn_3 ?_
  refine rb_bipush (x := 7) hC dX7_underIn_4 (by decide) ?_
  refine rb_iand hC dX7_underIn_6 ?_
  subst h
  exact rb_iret hC dX7_underIn_7
theorem xc_Pole_underIn (p0 : Int32) (σ : rb_St) (r : Int32) (h : xf_Pole_underIn p0 σ = r) : rb_Con rb_vX yX7_underIn cX7_underIn 1 (some .int) 0 (fun w => [.int p0]) σ (fun _ => (some (.int r))) σ := rb_Con.of (by decide +kernel) (fun _ => Nat.le_of_ble_eq_true rfl) (fun z w hC => xk_Pole_underIn hC p0 σ r h)
def xf_Pole_tookIn (p0 : Int32) (σ : rb_St) : Int32 := (p0 >>> (10 &&& 31)) &&& 15
set_option maxHeartbeats 4000000 in
set_option maxRecDepth 100000 in
theorem xk_Pole_tookIn {z : rb_Z} {w : rb_Wd} (hC : rb_Cx z rb_vX w RX7 cX7_tookIn 1 (some .int) 0) (p0 : Int32) (σ : rb_St) (r : Int32) (h : xf_Pole_tookIn p0 σ = r) : rb_At z rb_vX w 1 (rb_Q z rb_vX w (some (.int r)) σ) 0 [(0, .int p0)] [] σ := by
  unfold xf_Pole_tookIn at h
  refine rb_iload_n hC 0 dX7_tookIn_0 rfl ?_
  refine rb_bipush (x := 10) hC dX7_tookIn_1 (by decide) ?_
  refine rb_ishr hC dX7_tookIn_3 ?_
  refine rb_bipush (x := 15) hC dX7_tookIn_4 (by decide) ?_
  refine rb_iand hC dX7_tookIn_6 ?_
  subst h
  exact rb_iret hC dX7_tookIn_7
theorem xc_Pole_tookIn (p0 : Int32) (σ : rb_St) (r : Int32) (h : xf_Pole_tookIn p0 σ = r) : rb_Con rb_vX yX7_tookIn cX7_tookIn 1 (some .int) 0 (fun w => [.int p0]) σ (fun _ => (some (.int r))) σ := rb_Con.of (by decide +kernel) (fun _ => Nat.le_of_ble_eq_true rfl) (fun z w hC => xk_Pole_tookIn hC p0 σ r h)
def xf_Pole_layerIn (p0 : Int32) (σ : rb_St) : Int32 := (p0 >>> (14 &&& 31)) &&& 63
set_option maxHeartbeats 4000000 in
set_option maxRecDepth 100000 in
theorem xk_Pole_layerIn {z : rb_Z} {w : rb_Wd} (hC : rb_Cx z rb_vX w RX7 cX7_layerIn 1 (some .int) 0) (p0 : Int32) (σ : rb_St) (r : Int32) (h : xf_Pole_layerIn p0 σ = r) : rb_At z rb_vX w 1 (rb_Q z rb_vX w (some (.int r)) σ) 0 [(0, .int p0)] [] σ := by
  unfold xf_Pole_layerIn at h
  refine rb_iload_n hC 0 dX7_layerIn_0 rfl ?_
  refine rb_bipush (x := 14) hC dX7_layerIn_1 (by decide) ?_
  refine rb_ishr hC dX7_layerIn_3 ?_
  refine rb_bipush (x := 63) hC dX7_layerIn_4 (by decide) ?_
  refine rb_iand hC dX7_layerIn_6 ?_
  subst h
  exact rb_iret hC dX7_layerIn_7
theorem xc_Pole_layerIn (p0 : Int32) (σ : rb_St) (r : Int32) (h : xf_Pole_layerIn p0 σ = r) : rb_Con rb_vX yX7_layerIn cX7_layerIn 1 (some .int) 0 (fun w => [.int p0]) σ (fun _ => (some (.int r))) σ := rb_Con.of (by decide +kernel) (fun _ => Nat.le_of_ble_eq_true rfl) (fun z w hC => xk_Pole_layerIn hC p0 σ r h)
theorem fr_X7_30_7 : rb_FR RX7 30 7 0 := ⟨RX7, TX7, 8, "RibbonPole$Pole", rfl, rb_uX7, by decide, rb_in (by decide +kernel) (by decide +kernel), Or.inl rfl⟩
theorem ft_7_0 : rb_Ty 7 0 .int := ⟨RX7, TX7, 8, tyX7, rfl, tyX7_ok, nmX7, rfl, by decide +kernel⟩
theorem fr_X7_33_7 : rb_FR RX7 33 7 1 := ⟨RX7, TX7, 8, "RibbonPole$Pole", rfl, rb_uX7, by decide, rb_in (by decide +kernel) (by decide +kernel), Or.inl rfl⟩
theorem ft_7_1 : rb_Ty 7 1 .int := ⟨RX7, TX7, 8, tyX7, rfl, tyX7_ok, nmX7, rfl, by decide +kernel⟩
theorem fr_X7_40_7 : rb_FR RX7 40 7 2 := ⟨RX7, TX7, 8, "RibbonPole$Pole", rfl, rb_uX7, by decide, rb_in (by decide +kernel) (by decide +kernel), Or.inl rfl⟩
theorem ft_7_2 : rb_Ty 7 2 .int := ⟨RX7, TX7, 8, tyX7, rfl, tyX7_ok, nmX7, rfl, by decide +kernel⟩
theorem fr_X7_43_7 : rb_FR RX7 43 7 3 := ⟨RX7, TX7, 8, "RibbonPole$Pole", rfl, rb_uX7, by decide, rb_in (by decide +kernel) (by decide +kernel), Or.inl rfl⟩
theorem ft_7_3 : rb_Ty 7 3 .int := ⟨RX7, TX7, 8, tyX7, rfl, tyX7_ok, nmX7, rfl, by decide +kernel⟩
theorem fr_X7_9_7 : rb_FR RX7 9 7 4 := ⟨RX7, TX7, 8, "RibbonPole$Pole", rfl, rb_uX7, by decide, rb_in (by decide +kernel) (by decide +kernel), Or.inl rfl⟩
theorem mk_X7_50 : Cond.methodLink RX7 50 arraycopyName ∈ rb_tbl := rb_in (by decide +kernel) (by decide +kernel)
theorem fr_X7_15_7 : rb_FR RX7 15 7 5 := ⟨RX7, TX7, 8, "RibbonPole$Pole", rfl, rb_uX7, by decide, rb_in (by decide +kernel) (by decide +kernel), Or.inl rfl⟩
theorem fr_X7_18_7 : rb_FR RX7 18 7 6 := ⟨RX7, TX7, 8, "RibbonPole$Pole", rfl, rb_uX7, by decide, rb_in (by decide +kernel) (by decide +kernel), Or.inl rfl⟩
def xf_Pole_standAs (k0 : Nat) (k1 : Nat) (σ : rb_St) : Option (rb_St) := rb_lt (rb_sI σ k0 0 (σ.1 k1 0)) (fun s1 => rb_lt (rb_sI s1 k0 1 (s1.1 k1 1)) (fun s3 => rb_lt (rb_sI s3 k0 2 (s3.1 k1 2)) (fun s5 => rb_lt (rb_sI s5 k0 3 (s5.1 k1 3)) (fun s7 => rb_lt (rb_cp s7 (k1 + 1) (k0 + 1) 0 0 8) (fun s9 => rb_lt (rb_cp s9 (k1 + 2) (k0 + 2) 0 0 8) (fun s11 => rb_lt (rb_cp s11 (k1 + 3) (k0 + 3) 0 0 48) (fun s13 => some s13)))))))
set_option maxHeartbeats 4000000 in
set_option maxRecDepth 100000 in
theorem xk_Pole_standAs {z : rb_Z} {w : rb_Wd} (hC : rb_Cx z rb_vX w RX7 cX7_standAs 2 none 1) (k0 : Nat) (hk0 : rb_isPole k0) (k1 : Nat) (hk1 : rb_isPole k1) (σ : rb_St) (σ9 : rb_St) (h : xf_Pole_standAs k0 k1 σ = some σ9) : rb_At z rb_vX w 2 (rb_Q z rb_vX w none σ9) 0 [(0, .ref (rb_ad w k0)), (1, .ref (rb_ad w k1))] [] σ := by
  unfold xf_Pole_standAs at h
  refine rb_aload_n hC 0 dX7_standAs_0 rfl ?_
  refine rb_aload_n hC 1 dX7_standAs_1 rfl ?_
  refine rb_getI hC fr_X7_30_7 (rb_obPole hk1) rfl dX7_standAs_2 ?_
  refine rb_putI hC fr_X7_30_7 ft_7_0 (rb_obPole hk0) rfl rfl rfl dX7_standAs_5 ?_
  obtain ⟨s1, e2, h⟩ := rb_ltE h
  refine rb_nmS e2 ?_
  refine rb_aload_n hC 0 dX7_standAs_8 rfl ?_
  refine rb_aload_n hC 1 dX7_standAs_9 rfl ?_
  refine rb_getI hC fr_X7_33_7 (rb_obPole hk1) rfl dX7_standAs_10 ?_
  refine rb_putI hC fr_X7_33_7 ft_7_1 (rb_obPole hk0) rfl rfl rfl dX7_standAs_13 ?_
  obtain ⟨s3, e4, h⟩ := rb_ltE h
  refine rb_nmS e4 ?_
  refine rb_aload_n hC 0 dX7_standAs_16 rfl ?_
  refine rb_aload_n hC 1 dX7_standAs_17 rfl ?_
  refine rb_getI hC fr_X7_40_7 (rb_obPole hk1) rfl dX7_standAs_18 ?_
  refine rb_putI hC fr_X7_40_7 ft_7_2 (rb_obPole hk0) rfl rfl rfl dX7_standAs_21 ?_
  obtain ⟨s5, e6, h⟩ := rb_ltE h
  refine rb_nmS e6 ?_
  refine rb_aload_n hC 0 dX7_standAs_24 rfl ?_
  refine rb_aload_n hC 1 dX7_standAs_25 rfl ?_
  refine rb_getI hC fr_X7_43_7 (rb_obPole hk1) rfl dX7_standAs_26 ?_
  refine rb_putI hC fr_X7_43_7 ft_7_3 (rb_obPole hk0) rfl rfl rfl dX7_standAs_29 ?_
  obtain ⟨s7, e8, h⟩ := rb_ltE h
  refine rb_nmS e8 ?_
  refine rb_aload_n hC 1 dX7_standAs_32 rfl ?_
  refine rb_getR hC fr_X7_9_7 (rb_obPole hk1) rfl dX7_standAs_33 ?_
  refine rb_iconst (x := 0) hC dX7_standAs_36 (by decide) ?_
  refine rb_aload_n hC 0 dX7_standAs_37 rfl ?_
  refine rb_getR hC fr_X7_9_7 (rb_obPole hk0) rfl dX7_standAs_38 ?_
  refine rb_iconst (x := 0) hC dX7_standAs_41 (by decide) ?_
  refine rb_bipush (x := 8) hC dX7_standAs_42 (by decide) ?_
  refine rb_copy hC mk_X7_50 (rb_arPole1 hk1) (rb_arPole1 hk0) (rb_ckI (by decide)) ⟨Nat.le_of_ble_eq_true rfl, Nat.le_of_ble_eq_true rfl⟩ dX7_standAs_44 ?_
  obtain ⟨s9, e10, h⟩ := rb_ltE h
  refine rb_nmS e10 ?_
  refine rb_aload_n hC 1 dX7_standAs_47 rfl ?_
  refine rb_getR hC fr_X7_15_7 (rb_obPole hk1) rfl dX7_standAs_48 ?_
  refine rb_iconst (x := 0) hC dX7_standAs_51 (by decide) ?_
  refine rb_aload_n hC 0 dX7_standAs_52 rfl ?_
  refine rb_getR hC fr_X7_15_7 (rb_obPole hk0) rfl dX7_standAs_53 ?_
  refine rb_iconst (x := 0) hC dX7_standAs_56 (by decide) ?_
  refine rb_bipush (x := 8) hC dX7_standAs_57 (by decide) ?_
  refine rb_copy hC mk_X7_50 (rb_arPole2 hk1) (rb_arPole2 hk0) (rb_ckI (by decide)) ⟨Nat.le_of_ble_eq_true rfl, Nat.le_of_ble_eq_true rfl⟩ dX7_standAs_59 ?_
  obtain ⟨s11, e12, h⟩ := rb_ltE h
  refine rb_nmS e12 ?_
  refine rb_aload_n hC 1 dX7_standAs_62 rfl ?_
  refine rb_getR hC fr_X7_18_7 (rb_obPole hk1) rfl dX7_standAs_63 ?_
  refine rb_iconst (x := 0) hC dX7_standAs_66 (by decide) ?_
  refine rb_aload_n hC 0 dX7_standAs_67 rfl ?_
  refine rb_getR hC fr_X7_18_7 (rb_obPole hk0) rfl dX7_standAs_68 ?_
  refine rb_iconst (x := 0) hC dX7_standAs_71 (by decide) ?_
  refine rb_bipush (x := 48) hC dX7_standAs_72 (by decide) ?_
  refine rb_copy hC mk_X7_50 (rb_arPole3 hk1) (rb_arPole3 hk0) (rb_ckI (by decide)) ⟨Nat.le_of_ble_eq_true rfl, Nat.le_of_ble_eq_true rfl⟩ dX7_standAs_74 ?_
  obtain ⟨s13, e14, h⟩ := rb_ltE h
  refine rb_nmS e14 ?_
  cases h
  exact rb_vret hC dX7_standAs_77
theorem xc_Pole_standAs (k0 : Nat) (hk0 : rb_isPole k0) (k1 : Nat) (hk1 : rb_isPole k1) (σ : rb_St) (σ9 : rb_St) (h : xf_Pole_standAs k0 k1 σ = some σ9) : rb_Con rb_vX yX7_standAs cX7_standAs 2 none 1 (fun w => [.ref (rb_ad w k0), .ref (rb_ad w k1)]) σ (fun _ => none) σ9 := rb_Con.of (by decide +kernel) (fun _ => Nat.le_of_ble_eq_true rfl) (fun z w hC => xk_Pole_standAs hC k0 hk0 k1 hk1 σ σ9 h)
theorem me_X7_standAs : Cond.instanceMethod yX7_standAs ∈ rb_tbl ∧ Cond.selects yX7_standAs.cls yX7_standAs yX7_standAs ∈ rb_tbl ∧ Cond.initialized yX7_standAs.cls ∈ rb_tbl ∧ Cond.code yX7_standAs cX7_standAs 2 none ∈ rb_tbl ∧ rb_pn yX7_standAs 1 := ⟨rb_in (by decide +kernel) (by decide +kernel), rb_in (by decide +kernel) (by decide +kernel), rb_in (by decide +kernel) (by decide +kernel), rb_in (by decide +kernel) (by decide +kernel), by decide +kernel, by decide +kernel, by decide +kernel⟩
theorem mv_X7_56 : rb_MV RX7 56 yX7_standAs cX7_standAs 2 none 1 := ⟨rb_in (by decide +kernel) (by decide +kernel), me_X7_standAs⟩
theorem fr_X7_21_7 : rb_FR RX7 21 7 7 := ⟨RX7, TX7, 8, "RibbonPole$Pole", rfl, rb_uX7, by decide, rb_in (by decide +kernel) (by decide +kernel), Or.inl rfl⟩
def xf_Pole_copyFrom (k0 : Nat) (k1 : Nat) (σ : rb_St) : Option (rb_St) := rb_b1 (xf_Pole_standAs k0 k1 σ) fun s1 => rb_lt (rb_cp s1 (k1 + 4) (k0 + 4) 0 0 60) (fun s3 => some s3)
set_option maxHeartbeats 4000000 in
set_option maxRecDepth 100000 in
theorem xk_Pole_copyFrom {z : rb_Z} {w : rb_Wd} (hC : rb_Cx z rb_vX w RX7 cX7_copyFrom 2 none 2) (k0 : Nat) (hk0 : rb_isPole k0) (k1 : Nat) (hk1 : rb_isPole k1) (σ : rb_St) (σ9 : rb_St) (h : xf_Pole_copyFrom k0 k1 σ = some σ9) : rb_At z rb_vX w 2 (rb_Q z rb_vX w none σ9) 0 [(0, .ref (rb_ad w k0)), (1, .ref (rb_ad w k1))] [] σ := by
  unfold xf_Pole_copyFrom at h
  refine rb_aload_n hC 0 dX7_copyFrom_0 rfl ?_
  refine rb_aload_n hC 1 dX7_copyFrom_1 rfl ?_
  obtain ⟨s1, q2, h⟩ := rb_b1s h
  refine rb_callVv hC rb_VokX mv_X7_56 (xc_Pole_standAs k0 hk0 k1 hk1 σ _ q2) (rb_obPole hk0) rfl [.ref (rb_ad w k1)] rfl rfl rfl ⟨Nat.le_of_ble_eq_true rfl, Nat.le_of_ble_eq_true rfl⟩ (Nat.le_of_ble_eq_true rfl) dX7_copyFrom_2 ?_
  refine rb_aload_n hC 1 dX7_copyFrom_5 rfl ?_
  refine rb_getR hC fr_X7_21_7 (rb_obPole hk1) rfl dX7_copyFrom_6 ?_
  refine rb_iconst (x := 0) hC dX7_copyFrom_9 (by decide) ?_
  refine rb_aload_n hC 0 dX7_copyFrom_10 rfl ?_
  refine rb_getR hC fr_X7_21_7 (rb_obPole hk0) rfl dX7_copyFrom_11 ?_
  refine rb_iconst (x := 0) hC dX7_copyFrom_14 (by decide) ?_
  refine rb_bipush (x := 60) hC dX7_copyFrom_15 (by decide) ?_
  refine rb_copy hC mk_X7_50 (rb_arPole4 hk1) (rb_arPole4 hk0) (rb_ckI (by decide)) ⟨Nat.le_of_ble_eq_true rfl, Nat.le_of_ble_eq_true rfl⟩ dX7_copyFrom_17 ?_
  obtain ⟨s3, e4, h⟩ := rb_ltE h
  refine rb_nmS e4 ?_
  cases h
  exact rb_vret hC dX7_copyFrom_20
theorem xc_Pole_copyFrom (k0 : Nat) (hk0 : rb_isPole k0) (k1 : Nat) (hk1 : rb_isPole k1) (σ : rb_St) (σ9 : rb_St) (h : xf_Pole_copyFrom k0 k1 σ = some σ9) : rb_Con rb_vX yX7_copyFrom cX7_copyFrom 2 none 2 (fun w => [.ref (rb_ad w k0), .ref (rb_ad w k1)]) σ (fun _ => none) σ9 := rb_Con.of (by decide +kernel) (fun _ => Nat.le_of_ble_eq_true rfl) (fun z w hC => xk_Pole_copyFrom hC k0 hk0 k1 hk1 σ σ9 h)
