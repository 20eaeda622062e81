theorem me_X12_isDancer : Cond.instanceMethod yX12_isDancer ∈ rb_tbl ∧ Cond.selects yX12_isDancer.cls yX12_isDancer yX12_isDancer ∈ rb_tbl ∧ Cond.initialized yX12_isDancer.cls ∈ rb_tbl ∧ Cond.code yX12_isDancer cX12_isDancer 2 (some .boolean) ∈ rb_tbl ∧ rb_pn yX12_isDancer 1 := ⟨rb_in (by decide +kernel) (by decide +kernel), rb_in (by decide +kernel) (by decide +kernel), rb_in (by decide +kernel) (by decide +kernel), rb_in (by decide +kernel) (by decide +kernel), by decide +kernel, by decide +kernel, by decide +kernel⟩
theorem mv_X12_373 : rb_MV RX12 373 yX12_isDancer cX12_isDancer 2 (some .boolean) 1 := ⟨rb_in (by decide +kernel) (by decide +kernel), me_X12_isDancer⟩
theorem ft_11_0 : rb_Ty 11 0 .int := ⟨RX12, TX12, 50, tyX12, rfl, tyX12_ok, nmX12, rfl, by decide +kernel⟩
theorem me_X12_placeOf : Cond.instanceMethod yX12_placeOf ∈ rb_tbl ∧ Cond.selects yX12_placeOf.cls yX12_placeOf yX12_placeOf ∈ rb_tbl ∧ Cond.initialized yX12_placeOf.cls ∈ rb_tbl ∧ Cond.code yX12_placeOf cX12_placeOf 3 (some .int) ∈ rb_tbl ∧ rb_pn yX12_placeOf 1 := ⟨rb_in (by decide +kernel) (by decide +kernel), rb_in (by decide +kernel) (by decide +kernel), rb_in (by decide +kernel) (by decide +kernel), rb_in (by decide +kernel) (by decide +kernel), by decide +kernel, by decide +kernel, by decide +kernel⟩
theorem mv_X12_376 : rb_MV RX12 376 yX12_placeOf cX12_placeOf 3 (some .int) 1 := ⟨rb_in (by decide +kernel) (by decide +kernel), me_X12_placeOf⟩
theorem me_X12_crossingsOf : Cond.instanceMethod yX12_crossingsOf ∈ rb_tbl ∧ Cond.selects yX12_crossingsOf.cls yX12_crossingsOf yX12_crossingsOf ∈ rb_tbl ∧ Cond.initialized yX12_crossingsOf.cls ∈ rb_tbl ∧ Cond.code yX12_crossingsOf cX12_crossingsOf 4 (some .int) ∈ rb_tbl ∧ rb_pn yX12_crossingsOf 1 := ⟨rb_in (by decide +kernel) (by decide +kernel), rb_in (by decide +kernel) (by decide +kernel), rb_in (by decide +kernel) (by decide +kernel), rb_in (by decide +kernel) (by decide +kernel), by decide +kernel, by decide +kernel, by decide +kernel⟩
theorem mv_X12_379 : rb_MV RX12 379 yX12_crossingsOf cX12_crossingsOf 4 (some .int) 1 := ⟨rb_in (by decide +kernel) (by decide +kernel), me_X12_crossingsOf⟩
def xj_M_dancer_23 (x1 : Int32) (x2 : Int32) (u0 : Int32) (σ : rb_St) : Option (Int32 × rb_St) := rb_lt (rb_sI σ 0 0 u0) (fun s4 => if (s4.1 0 0) = 1 then some (0, s4) else if x2 = 1 then if rb_ib (7 + x1) 398 then some (s4.1 17 (7 + x1).toNatClampNeg, s4) else none else if x2 = 2 then rb_b1 (xf_M_told x1 x2 s4) fun r8 => some (r8, s4) else if x2 = 3 then rb_b1 (xf_M_placeOf x1 s4) fun r10 => some (r10, s4) else if x2 = 4 then rb_b1 (xf_M_leftOf x1 s4) fun r12 => some (r12, s4) else if x2 = 5 then rb_b1 (xf_M_crossingsOf x1 s4) fun r14 => some (r14, s4) else rb_b1 (xf_M_told x1 x2 s4) fun r16 => some (r16, s4))
set_option maxHeartbeats 4000000 in
set_option maxRecDepth 100000 in
theorem xu_M_dancer_23 {z : rb_Z} {w : rb_Wd} (hC : rb_Cx z rb_vM w RX12 cX12_dancer 3 (some .int) 3) (x1 : Int32) (x2 : Int32) (u0 : Int32) (σ : rb_St) (r : Int32) (σ9 : rb_St) (h : xj_M_dancer_23 x1 x2 u0 σ = some (r, σ9)) : rb_At z rb_vM w 3 (rb_Q z rb_vM w (some (.int r)) σ9) 23 [(0, .ref (rb_ad w 0)), (1, .int x1), (2, .int x2)] [.int u0, .ref (rb_ad w 0)] σ := by
  unfold xj_M_dancer_23 at h
  refine rb_putI hC fr_X12_114_11 ft_11_0 rb_obM0 rfl rfl rfl dX12_dancer_23 ?_
  obtain ⟨s4, e5, h⟩ := rb_ltE h
  refine rb_nmS e5 ?_
  refine rb_aload_n hC 0 dX12_dancer_26 rfl ?_
  refine rb_getI hC fr_X12_114_11 rb_obM0 rfl dX12_dancer_27 ?_
  refine rb_iconst (x := 1) hC dX12_dancer_30 (by decide) ?_
  refine rb_icmp_ne hC 36 dX12_dancer_31 (by decide) (fun c6 => ?_) (fun c6 => ?_)
  · replace h := rb_ifn c6 h
    refine rb_iload_n hC 2 dX12_dancer_36 rfl ?_
    by_cases c37_0 : x2 = 1
    · replace h := rb_ifp c37_0 h
      refine rb_tableIn hC 72 dX12_dancer_37 (by rw [c37_0]; decide) (by rw [c37_0]; decide) (by rw [c37_0]; rfl) (by decide) ?_
      refine rb_aload_n hC 0 dX12_dancer_72 rfl ?_
      refine rb_getR hC fr_X12_58_11 rb_obM0 rfl dX12_dancer_73 ?_
      refine rb_bipush (x := 7) hC dX12_dancer_76 (by decide) ?_
      refine rb_iload_n hC 1 dX12_dancer_78 rfl ?_
      refine rb_iadd hC dX12_dancer_79 ?_
      obtain ⟨g7, h⟩ := rb_gd h
      refine rb_iald hC rb_arM17 (rb_ibI g7) dX12_dancer_80 ?_
      cases h
      exact rb_iret hC dX12_dancer_81
    · replace h := rb_ifn c37_0 h
      by_cases c37_1 : x2 = 2
      · replace h := rb_ifp c37_1 h
        refine rb_tableIn hC 100 dX12_dancer_37 (by rw [c37_1]; decide) (by rw [c37_1]; decide) (by rw [c37_1]; rfl) (by decide) ?_
        refine rb_aload_n hC 0 dX12_dancer_100 rfl ?_
        refine rb_iload_n hC 1 dX12_dancer_101 rfl ?_
        refine rb_iload_n hC 2 dX12_dancer_102 rfl ?_
        obtain ⟨r8, q9, h⟩ := rb_b1s h
        refine rb_callVi hC rb_VokM mv_X12_286 (xc_M_told x1 x2 s4 _ q9) rb_obM0 rfl [.int x1, .int x2] rfl rfl rfl ⟨Nat.le_of_ble_eq_true rfl, Nat.le_of_ble_eq_true rfl⟩ (Nat.le_of_ble_eq_true rfl) dX12_dancer_103 ?_
        cases h
        exact rb_iret hC dX12_dancer_106
      · replace h := rb_ifn c37_1 h
        by_cases c37_2 : x2 = 3
        · replace h := rb_ifp c37_2 h
          refine rb_tableIn hC 82 dX12_dancer_37 (by rw [c37_2]; decide) (by rw [c37_2]; decide) (by rw [c37_2]; rfl) (by decide) ?_
          refine rb_aload_n hC 0 dX12_dancer_82 rfl ?_
          refine rb_iload_n hC 1 dX12_dancer_83 rfl ?_
          obtain ⟨r10, q11, h⟩ := rb_b1s h
          refine rb_callVi hC rb_VokM mv_X12_376 (xc_M_placeOf x1 s4 _ q11) rb_obM0 rfl [.int x1] rfl rfl rfl ⟨Nat.le_of_ble_eq_true rfl, Nat.le_of_ble_eq_true rfl⟩ (Nat.le_of_ble_eq_true rfl) dX12_dancer_84 ?_
          cases h
          exact rb_iret hC dX12_dancer_87
        · replace h := rb_ifn c37_2 h
          by_cases c37_3 : x2 = 4
          · replace h := rb_ifp c37_3 h
            refine rb_tableIn hC 88 dX12_dancer_37 (by rw [c37_3]; decide) (by rw [c37_3]; decide) (by rw [c37_3]; rfl) (by decide) ?_
            refine rb_aload_n hC 0 dX12_dancer_88 rfl ?_
            refine rb_iload_n hC 1 dX12_dancer_89 rfl ?_
            obtain ⟨r12, q13, h⟩ := rb_b1s h
            refine rb_callVi hC rb_VokM mv_X12_343 (xc_M_leftOf x1 s4 _ q13) rb_obM0 rfl [.int x1] rfl rfl rfl ⟨Nat.le_of_ble_eq_true rfl, Nat.le_of_ble_eq_true rfl⟩ (Nat.le_of_ble_eq_true rfl) dX12_dancer_90 ?_
            cases h
            exact rb_iret hC dX12_dancer_93
          · replace h := rb_ifn c37_3 h
            by_cases c37_4 : x2 = 5
            · replace h := rb_ifp c37_4 h
              refine rb_tableIn hC 94 dX12_dancer_37 (by rw [c37_4]; decide) (by rw [c37_4]; decide) (by rw [c37_4]; rfl) (by decide) ?_
              refine rb_aload_n hC 0 dX12_dancer_94 rfl ?_
              refine rb_iload_n hC 1 dX12_dancer_95 rfl ?_
              obtain ⟨r14, q15, h⟩ := rb_b1s h
              refine rb_callVi hC rb_VokM mv_X12_379 (xc_M_crossingsOf x1 s4 _ q15) rb_obM0 rfl [.int x1] rfl rfl rfl ⟨Nat.le_of_ble_eq_true rfl, Nat.le_of_ble_eq_true rfl⟩ (Nat.le_of_ble_eq_true rfl) dX12_dancer_96 ?_
              cases h
              exact rb_iret hC dX12_dancer_99
            · replace h := rb_ifn c37_4 h
              have hO : x2.toInt < 1 ∨ 5 < x2.toInt := by
                have n0 : x2.toInt ≠ 1 := fun q3 => c37_0 (Int32.toInt_inj.mp (q3.trans (by decide)))
                have n1 : x2.toInt ≠ 2 := fun q3 => c37_1 (Int32.toInt_inj.mp (q3.trans (by decide)))
                have n2 : x2.toInt ≠ 3 := fun q3 => c37_2 (Int32.toInt_inj.mp (q3.trans (by decide)))
                have n3 : x2.toInt ≠ 4 := fun q3 => c37_3 (Int32.toInt_inj.mp (q3.trans (by decide)))
                have n4 : x2.toInt ≠ 5 := fun q3 => c37_4 (Int32.toInt_inj.mp (q3.trans (by decide)))
                omega
              refine rb_tableOut hC 100 dX12_dancer_37 hO (by decide) ?_
              refine rb_aload_n hC 0 dX12_dancer_100 rfl ?_
              refine rb_iload_n hC 1 dX12_dancer_101 rfl ?_
              refine rb_iload_n hC 2 dX12_dancer_102 rfl ?_
              obtain ⟨r16, q17, h⟩ := rb_b1s h
              refine rb_callVi hC rb_VokM mv_X12_286 (xc_M_told x1 x2 s4 _ q17) rb_obM0 rfl [.int x1, .int x2] rfl rfl rfl ⟨Nat.le_of_ble_eq_true rfl, Nat.le_of_ble_eq_true rfl⟩ (Nat.le_of_ble_eq_true rfl) dX12_dancer_103 ?_
              cases h
              exact rb_iret hC dX12_dancer_106
  · replace h := rb_ifp c6 h
    refine rb_iconst (x := 0) hC dX12_dancer_34 (by decide) ?_
    cases h
    exact rb_iret hC dX12_dancer_35
def xf_M_dancer (p0 : Int32) (p1 : Int32) (σ : rb_St) : Option (Int32 × rb_St) := rb_b1 (xf_M_isDancer p0 σ) fun r1 => if r1 = 0 then xj_M_dancer_23 p0 p1 1 σ else if (xf_M_in p1 0 5 σ) = 0 then xj_M_dancer_23 p0 p1 1 σ else xj_M_dancer_23 p0 p1 0 σ
set_option maxHeartbeats 4000000 in
set_option maxRecDepth 100000 in
theorem xk_M_dancer {z : rb_Z} {w : rb_Wd} (hC : rb_Cx z rb_vM w RX12 cX12_dancer 3 (some .int) 3) (p0 : Int32) (p1 : Int32) (σ : rb_St) (r : Int32) (σ9 : rb_St) (h : xf_M_dancer p0 p1 σ = some (r, σ9)) : rb_At z rb_vM w 3 (rb_Q z rb_vM w (some (.int r)) σ9) 0 [(0, .ref (rb_ad w 0)), (1, .int p0), (2, .int p1)] [] σ := by
  unfold xf_M_dancer at h
  refine rb_aload_n hC 0 dX12_dancer_0 rfl ?_
  refine rb_aload_n hC 0 dX12_dancer_1 rfl ?_
  refine rb_iload_n hC 1 dX12_dancer_2 rfl ?_
  obtain ⟨r1, q2, h⟩ := rb_b1s h
  refine rb_callVi hC rb_VokM mv_X12_373 (xc_M_isDancer p0 σ _ q2) rb_obM0 rfl [.int p0] rfl rfl rfl ⟨Nat.le_of_ble_eq_true rfl, Nat.le_of_ble_eq_true rfl⟩ (Nat.le_of_ble_eq_true rfl) dX12_dancer_3 ?_
  refine rb_if_eq hC 22 dX12_dancer_6 (by decide) (fun c3 => ?_) (fun c3 => ?_)
  · replace h := rb_ifp c3 h
    refine rb_iconst (x := 1) hC dX12_dancer_22 (by decide) ?_
    exact rb_sub [0, 1, 2] rfl (xu_M_dancer_23 hC p0 p1 1 σ _ _ h)
  · replace h := rb_ifn c3 h
    refine rb_iload_n hC 2 dX12_dancer_9 rfl ?_
    refine rb_iconst (x := 0) hC dX12_dancer_10 (by decide) ?_
    refine rb_iconst (x := 5) hC dX12_dancer_11 (by decide) ?_
    refine rb_callSi hC rb_VokM mv_X12_229 (xc_M_in p1 0 5 σ _ rfl) [.int p1, .int 0, .int 5] rfl rfl rfl ⟨Nat.le_of_ble_eq_true rfl, Nat.le_of_ble_eq_true rfl⟩ (Nat.le_of_ble_eq_true rfl) dX12_dancer_12 ?_
    refine rb_if_eq hC 22 dX12_dancer_15 (by decide) (fun c18 => ?_) (fun c18 => ?_)
    · replace h := rb_ifp c18 h
      refine rb_iconst (x := 1) hC dX12_dancer_22 (by decide) ?_
      exact rb_sub [0, 1, 2] rfl (xu_M_dancer_23 hC p0 p1 1 σ _ _ h)
    · replace h := rb_ifn c18 h
      refine rb_iconst (x := 0) hC dX12_dancer_18 (by decide) ?_
      refine rb_goto hC 23 dX12_dancer_19 (by decide) ?_
      exact rb_sub [0, 1, 2] rfl (xu_M_dancer_23 hC p0 p1 0 σ _ _ h)
theorem xc_M_dancer (p0 : Int32) (p1 : Int32) (σ : rb_St) (r : Int32) (σ9 : rb_St) (h : xf_M_dancer p0 p1 σ = some (r, σ9)) : rb_Con rb_vM yX12_dancer cX12_dancer 3 (some .int) 3 (fun w => [.ref (rb_ad w 0), .int p0, .int p1]) σ (fun _ => (some (.int r))) σ9 := rb_Con.of (by decide +kernel) (fun _ => Nat.le_of_ble_eq_true rfl) (fun z w hC => xk_M_dancer hC p0 p1 σ r σ9 h)
def xf_M_stands (p0 : Int32) (σ : rb_St) : Option Int32 := rb_b1 (xf_M_isDancer p0 σ) fun r1 => if r1 = 0 then some (-1) else if rb_ib (0 + p0) 398 then some (σ.1 17 (0 + p0).toNatClampNeg) else none
set_option maxHeartbeats 4000000 in
set_option maxRecDepth 100000 in
theorem xk_M_stands {z : rb_Z} {w : rb_Wd} (hC : rb_Cx z rb_vM w RX12 cX12_stands 2 (some .int) 2) (p0 : Int32) (σ : rb_St) (r : Int32) (h : xf_M_stands p0 σ = some r) : rb_At z rb_vM w 2 (rb_Q z rb_vM w (some (.int r)) σ) 0 [(0, .ref (rb_ad w 0)), (1, .int p0)] [] σ := by
  unfold xf_M_stands at h
  refine rb_aload_n hC 0 dX12_stands_0 rfl ?_
  refine rb_iload_n hC 1 dX12_stands_1 rfl ?_
  obtain ⟨r1, q2, h⟩ := rb_b1s h
  refine rb_callVi hC rb_VokM mv_X12_373 (xc_M_isDancer p0 σ _ q2) rb_obM0 rfl [.int p0] rfl rfl rfl ⟨Nat.le_of_ble_eq_true rfl, Nat.le_of_ble_eq_true rfl⟩ (Nat.le_of_ble_eq_true rfl) dX12_stands_2 ?_
  refine rb_if_eq hC 19 dX12_stands_5 (by decide) (fun c3 => ?_) (fun c3 => ?_)
  · replace h := rb_ifp c3 h
    refine rb_iconst (x := (-1)) hC dX12_stands_19 (by decide) ?_
    cases h
    exact rb_iret hC dX12_stands_20
  · replace h := rb_ifn c3 h
    refine rb_aload_n hC 0 dX12_stands_8 rfl ?_
    refine rb_getR hC fr_X12_58_11 rb_obM0 rfl dX12_stands_9 ?_
    refine rb_iconst (x := 0) hC dX12_stands_12 (by decide) ?_
    refine rb_iload_n hC 1 dX12_stands_13 rfl ?_
    refine rb_iadd hC dX12_stands_14 ?_
    obtain ⟨g4, h⟩ := rb_gd h
    refine rb_iald hC rb_arM17 (rb_ibI g4) dX12_stands_15 ?_
    refine rb_goto hC 20 dX12_stands_16 (by decide) ?_
    cases h
    exact rb_iret hC dX12_stands_20
theorem xc_M_stands (p0 : Int32) (σ : rb_St) (r : Int32) (h : xf_M_stands p0 σ = some r) : rb_Con rb_vM yX12_stands cX12_stands 2 (some .int) 2 (fun w => [.ref (rb_ad w 0), .int p0]) σ (fun _ => (some (.int r))) σ := rb_Con.of (by decide +kernel) (fun _ => Nat.le_of_ble_eq_true rfl) (fun z w hC => xk_M_stands hC p0 σ r h)
theorem fr_X12_302_11 : rb_FR RX12 302 11 13 := ⟨RX12, TX12, 50, "RibbonPoleModel", rfl, rb_uX12, by decide, rb_in (by decide +kernel) (by decide +kernel), Or.inl rfl⟩
theorem ft_11_29 : rb_Ty 11 29 .int := ⟨RX12, TX12, 50, tyX12, rfl, tyX12_ok, nmX12, rfl, by decide +kernel⟩
def xf_M_law (p0 : Int32) (σ : rb_St) : Option (Int32 × rb_St) := if (xf_M_in p0 (-1) ((σ.1 0 13) - 1) σ) = 0 then some (0, σ) else rb_lt (rb_sI σ 0 29 p0) (fun s2 => some (1, s2))
set_option maxHeartbeats 4000000 in
set_option maxRecDepth 100000 in
theorem xk_M_law {z : rb_Z} {w : rb_Wd} (hC : rb_Cx z rb_vM w RX12 cX12_law 2 (some .boolean) 1) (p0 : Int32) (σ : rb_St) (r : Int32) (σ9 : rb_St) (h : xf_M_law p0 σ = some (r, σ9)) : rb_At z rb_vM w 2 (rb_Q z rb_vM w (some (.int r)) σ9) 0 [(0, .ref (rb_ad w 0)), (1, .int p0)] [] σ := by
  unfold xf_M_law at h
  refine rb_iload_n hC 1 dX12_law_0 rfl ?_
  refine rb_iconst (x := (-1)) hC dX12_law_1 (by decide) ?_
  refine rb_aload_n hC 0 dX12_law_2 rfl ?_
  refine rb_getI hC fr_X12_302_11 rb_obM0 rfl dX12_law_3 ?_
  refine rb_iconst (x := 1) hC dX12_law_6 (by decide) ?_
  refine rb_isub hC dX12_law_7 ?_
  refine rb_callSi hC rb_VokM mv_X12_229 (xc_M_in p0 (-1) ((σ.1 0 13) - 1) σ _ rfl) [.int p0, .int (-1), .int ((σ.1 0 13) - 1)] rfl rfl rfl ⟨Nat.le_of_ble_eq_true rfl, Nat.le_of_ble_eq_true rfl⟩ (Nat.le_of_ble_eq_true rfl) dX12_law_8 ?_
  refine rb_if_ne hC 16 dX12_law_11 (by decide) (fun c1 => ?_) (fun c1 => ?_)
  · replace h := rb_ifn c1 h
    refine rb_aload_n hC 0 dX12_law_16 rfl ?_
    refine rb_iload_n hC 1 dX12_law_17 rfl ?_
    refine rb_putI hC fr_X12_64_11 ft_11_29 rb_obM0 rfl rfl rfl dX12_law_18 ?_
    obtain ⟨s2, e3, h⟩ := rb_ltE h
    refine rb_nmS e3 ?_
    refine rb_iconst (x := 1) hC dX12_law_21 (by decide) ?_
    cases h
    exact rb_zret hC rfl dX12_law_22
  · replace h := rb_ifp c1 h
    refine rb_iconst (x := 0) hC dX12_law_14 (by decide) ?_
    cases h
    exact rb_zret hC rfl dX12_law_15
theorem xc_M_law (p0 : Int32) (σ : rb_St) (r : Int32) (σ9 : rb_St) (h : xf_M_law p0 σ = some (r, σ9)) : rb_Con rb_vM yX12_law cX12_law 2 (some .boolean) 1 (fun w => [.ref (rb_ad w 0), .int p0]) σ (fun _ => (some (.int r))) σ9 := rb_Con.of (by decide +kernel) (fun _ => Nat.le_of_ble_eq_true rfl) (fun z w hC => xk_M_law hC p0 σ r σ9 h)
theorem fr_X12_55_11 : rb_FR RX12 55 11 24 := ⟨RX12, TX12, 50, "RibbonPoleModel", rfl, rb_uX12, by decide, rb_in (by decide +kernel) (by decide +kernel), Or.inl rfl⟩
def xf_M_step (p0 : Int32) (p1 : Int32) (σ : rb_St) : Option Int32 := if (xf_M_in p0 0 ((σ.1 0 25) - 1) σ) = 0 then some (-1) else if rb_ib p0 7 then if (xf_M_in p1 (-1) ((σ.1 16 p0.toNatClampNeg) - 1) σ) = 0 then some (-1) else if p1 = (-1) then some (σ.1 16 p0.toNatClampNeg) else if rb_ib ((48 * p0) + p1) 336 then some (σ.1 15 ((48 * p0) + p1).toNatClampNeg) else none else none
set_option maxHeartbeats 4000000 in
set_option maxRecDepth 100000 in
theorem xk_M_step {z : rb_Z} {w : rb_Wd} (hC : rb_Cx z rb_vM w RX12 cX12_step 3 (some .int) 1) (p0 : Int32) (p1 : Int32) (σ : rb_St) (r : Int32) (h : xf_M_step p0 p1 σ = some r) : rb_At z rb_vM w 3 (rb_Q z rb_vM w (some (.int r)) σ) 0 [(0, .ref (rb_ad w 0)), (1, .int p0), (2, .int p1)] [] σ := by
  unfold xf_M_step at h
  refine rb_iload_n hC 1 dX12_step_0 rfl ?_
  refine rb_iconst (x := 0) hC dX12_step_1 (by decide) ?_
  refine rb_aload_n hC 0 dX12_step_2 rfl ?_
  refine rb_getI hC fr_X12_305_11 rb_obM0 rfl dX12_step_3 ?_
  refine rb_iconst (x := 1) hC dX12_step_6 (by decide) ?_
  refine rb_isub hC dX12_step_7 ?_
  refine rb_callSi hC rb_VokM mv_X12_229 (xc_M_in p0 0 ((σ.1 0 25) - 1) σ _ rfl) [.int p0, .int 0, .int ((σ.1 0 25) - 1)] rfl rfl rfl ⟨Nat.le_of_ble_eq_true rfl, Nat.le_of_ble_eq_true rfl⟩ (Nat.le_of_ble_eq_true rfl) dX12_step_8 ?_
  refine rb_if_eq hC 30 dX12_step_11 (by decide) (fun c1 => ?_) (fun c1 => ?_)
  · replace h := rb_ifp c1 h
    refine rb_iconst (x := (-1)) hC dX12_step_30 (by decide) ?_
    cases h
    exact rb_iret hC dX12_step_31
  · replace h := rb_ifn c1 h
    refine rb_iload_n hC 2 dX12_step_14 rfl ?_
    refine rb_iconst (x := (-1)) hC dX12_step_15 (by decide) ?_
    refine rb_aload_n hC 0 dX12_step_16 rfl ?_
    refine rb_getR hC fr_X12_55_11 rb_obM0 rfl dX12_step_17 ?_
    refine rb_iload_n hC 1 dX12_step_20 rfl ?_
    obtain ⟨g2, h⟩ := rb_gd h
    refine rb_iald hC rb_arM16 (rb_ibI g2) dX12_step_21 ?_
    refine rb_iconst (x := 1) hC dX12_step_22 (by decide) ?_
    refine rb_isub hC dX12_step_23 ?_
    refine rb_callSi hC rb_VokM mv_X12_229 (xc_M_in p1 (-1) ((σ.1 16 p0.toNatClampNeg) - 1) σ _ rfl) [.int p1, .int (-1), .int ((σ.1 16 p0.toNatClampNeg) - 1)] rfl rfl rfl ⟨Nat.le_of_ble_eq_true rfl, Nat.le_of_ble_eq_true rfl⟩ (Nat.le_of_ble_eq_true rfl) dX12_step_24 ?_
    refine rb_if_ne hC 32 dX12_step_27 (by decide) (fun c3 => ?_) (fun c3 => ?_)
    · replace h := rb_ifn c3 h
      refine rb_iload_n hC 2 dX12_step_32 rfl ?_
      refine rb_iconst (x := (-1)) hC dX12_step_33 (by decide) ?_
      refine rb_icmp_ne hC 46 dX12_step_34 (by decide) (fun c4 => ?_) (fun c4 => ?_)
      · replace h := rb_ifn c4 h
        refine rb_aload_n hC 0 dX12_step_46 rfl ?_
        refine rb_getR hC fr_X12_52_11 rb_obM0 rfl dX12_step_47 ?_
        refine rb_bipush (x := 48) hC dX12_step_50 (by decide) ?_
        refine rb_iload_n hC 1 dX12_step_52 rfl ?_
        refine rb_imul hC dX12_step_53 ?_
        refine rb_iload_n hC 2 dX12_step_54 rfl ?_
        refine rb_iadd hC dX12_step_55 ?_
        obtain ⟨g5, h⟩ := rb_gd h
        refine rb_iald hC rb_arM15 (rb_ibI g5) dX12_step_56 ?_
        cases h
        exact rb_iret hC dX12_step_57
      · replace h := rb_ifp c4 h
        refine rb_aload_n hC 0 dX12_step_37 rfl ?_
        refine rb_getR hC fr_X12_55_11 rb_obM0 rfl dX12_step_38 ?_
        refine rb_iload_n hC 1 dX12_step_41 rfl ?_
        refine rb_iald hC rb_arM16 (rb_ibI g2) dX12_step_42 ?_
        refine rb_goto hC 57 dX12_step_43 (by decide) ?_
        cases h
        exact rb_iret hC dX12_step_57
    · replace h := rb_ifp c3 h
      refine rb_iconst (x := (-1)) hC dX12_step_30 (by decide) ?_
      cases h
      exact rb_iret hC dX12_step_31
theorem xc_M_step (p0 : Int32) (p1 : Int32) (σ : rb_St) (r : Int32) (h : xf_M_step p0 p1 σ = some r) : rb_Con rb_vM yX12_step cX12_step 3 (some .int) 1 (fun w => [.ref (rb_ad w 0), .int p0, .int p1]) σ (fun _ => (some (.int r))) σ := rb_Con.of (by decide +kernel) (fun _ => Nat.le_of_ble_eq_true rfl) (fun z w hC => xk_M_step hC p0 p1 σ r h)
theorem fr_X12_74_11 : rb_FR RX12 74 11 32 := ⟨RX12, TX12, 50, "RibbonPoleModel", rfl, rb_uX12, by decide, rb_in (by decide +kernel) (by decide +kernel), Or.inl rfl⟩
theorem fr_X12_68_11 : rb_FR RX12 68 11 30 := ⟨RX12, TX12, 50, "RibbonPoleModel", rfl, rb_uX12, by decide, rb_in (by decide +kernel) (by decide +kernel), Or.inl rfl⟩
def xl_M_isFree_13 (x1 : Int32) (σ : rb_St) : Nat → Int32 → Option (Nat)
  | 0, _ => none
  | n + 1, x2 => if x1 ≤ x2 then some 1 else if rb_ib x2 88 then if (σ.1 21 x2.toNatClampNeg) = 0 then if rb_ib x1 88 then rb_b1 (xf_M_touch ((σ.1 19 x2.toNatClampNeg) / 2) ((σ.1 19 x1.toNatClampNeg) / 2) σ) fun r7 => if r7 = 0 then xl_M_isFree_13 x1 σ n (x2 + 1) else some 0 else none else xl_M_isFree_13 x1 σ n (x2 + 1) else none
set_option maxHeartbeats 4000000 in
set_option maxRecDepth 100000 in
theorem xt_M_isFree_13 {z : rb_Z} {w : rb_Wd} {Q : State → Prop} (hC : rb_Cx z rb_vM w RX12 cX12_isFree 3 (some .boolean) 2) (x1 : Int32) (σ : rb_St) : ∀ (n : Nat) (x2 : Int32) (t : Nat), xl_M_isFree_13 x1 σ n x2 = some t → (t = 0 → rb_At z rb_vM w 3 Q 50 [] [] σ) → (t = 1 → rb_At z rb_vM w 3 Q 58 [] [] σ) → rb_At z rb_vM w 3 Q 13 [(0, .ref (rb_ad w 0)), (1, .int x1), (2, .int x2)] [] σ := by
  intro n
  induction n with
  | zero =>
    intro x2 t h hE0 hE1
    cases h
  | succ n ih =>
    intro x2 t h hE0 hE1
    rw [xl_M_isFree_13] at h
    refine rb_iload_n hC 2 dX12_isFree_13 rfl ?_
    refine rb_iload_n hC 1 dX12_isFree_14 rfl ?_
    refine rb_icmp_ge hC 58 dX12_isFree_15 (by decide) (fun c3 => ?_) (fun c3 => ?_)
    · replace h := rb_ifp c3 h
      cases h
      exact rb_sub [] rfl (hE1 rfl)
    · replace h := rb_ifn c3 h
      refine rb_aload_n hC 0 dX12_isFree_18 rfl ?_
      refine rb_getR hC fr_X12_74_11 rb_obM0 rfl dX12_isFree_19 ?_
      refine rb_iload_n hC 2 dX12_isFree_22 rfl ?_
      obtain ⟨g4, h⟩ := rb_gd h
      refine rb_zald hC rb_arM21 (rb_ibI g4) dX12_isFree_23 ?_
      refine rb_if_ne hC 52 dX12_isFree_24 (by decide) (fun c5 => ?_) (fun c5 => ?_)
      · replace h := rb_ifn c5 h
        refine rb_iinc hC 2 [(2, .int (x2 + 1)), (0, .ref (rb_ad w 0)), (1, .int x1)] dX12_isFree_52 rfl rfl (by decide) rfl ?_
        refine rb_goto hC 13 dX12_isFree_55 (by decide) ?_
        exact rb_sub [1, 2, 0] rfl (ih (x2 + 1) _ h hE0 hE1)
      · replace h := rb_ifp c5 h
        refine rb_aload_n hC 0 dX12_isFree_27 rfl ?_
        refine rb_aload_n hC 0 dX12_isFree_28 rfl ?_
        refine rb_getR hC fr_X12_68_11 rb_obM0 rfl dX12_isFree_29 ?_
        refine rb_iload_n hC 2 dX12_isFree_32 rfl ?_
        refine rb_iald hC rb_arM19 (rb_ibI g4) dX12_isFree_33 ?_
        refine rb_iconst (x := 2) hC dX12_isFree_34 (by decide) ?_
        refine rb_idiv hC dX12_isFree_35 (by decide) ?_
        refine rb_aload_n hC 0 dX12_isFree_36 rfl ?_
        refine rb_getR hC fr_X12_68_11 rb_obM0 rfl dX12_isFree_37 ?_
        refine rb_iload_n hC 1 dX12_isFree_40 rfl ?_
        obtain ⟨g6, h⟩ := rb_gd h
        refine rb_iald hC rb_arM19 (rb_ibI g6) dX12_isFree_41 ?_
        refine rb_iconst (x := 2) hC dX12_isFree_42 (by decide) ?_
        refine rb_idiv hC dX12_isFree_43 (by decide) ?_
        obtain ⟨r7, q8, h⟩ := rb_b1s h
        refine rb_callVi hC rb_VokM mv_X12_314 (xc_M_touch ((σ.1 19 x2.toNatClampNeg) / 2) ((σ.1 19 x1.toNatClampNeg) / 2) σ _ q8) rb_obM0 rfl [.int ((σ.1 19 x2.toNatClampNeg) / 2), .int ((σ.1 19 x1.toNatClampNeg) / 2)] rfl rfl rfl ⟨Nat.le_of_ble_eq_true rfl, Nat.le_of_ble_eq_true rfl⟩ (Nat.le_of_ble_eq_true rfl) dX12_isFree_44 ?_
        refine rb_if_eq hC 52 dX12_isFree_47 (by decide) (fun c9 => ?_) (fun c9 => ?_)
        · replace h := rb_ifp c9 h
          refine rb_iinc hC 2 [(2, .int (x2 + 1)), (0, .ref (rb_ad w 0)), (1, .int x1)] dX12_isFree_52 rfl rfl (by decide) rfl ?_
          refine rb_goto hC 13 dX12_isFree_55 (by decide) ?_
          exact rb_sub [1, 2, 0] rfl (ih (x2 + 1) _ h hE0 hE1)
        · replace h := rb_ifn c9 h
          cases h
          exact rb_sub [] rfl (hE0 rfl)
def xf_M_isFree (p0 : Int32) (σ : rb_St) : Option Int32 := if rb_ib p0 88 then if (σ.1 21 p0.toNatClampNeg) = 0 then rb_b1 (xl_M_isFree_13 p0 σ rb_FU 0) fun t10 => if t10 = 0 then some 0 else some 1 else some 0 else none
set_option maxHeartbeats 4000000 in
set_option maxRecDepth 100000 in
theorem xk_M_isFree {z : rb_Z} {w : rb_Wd} (hC : rb_Cx z rb_vM w RX12 cX12_isFree 3 (some .boolean) 2) (p0 : Int32) (σ : rb_St) (r : Int32) (h : xf_M_isFree p0 σ = some r) : rb_At z rb_vM w 3 (rb_Q z rb_vM w (some (.int r)) σ) 0 [(0, .ref (rb_ad w 0)), (1, .int p0)] [] σ := by
  unfold xf_M_isFree at h
  refine rb_aload_n hC 0 dX12_isFree_0 rfl ?_
  refine rb_getR hC fr_X12_74_11 rb_obM0 rfl dX12_isFree_1 ?_
  refine rb_iload_n hC 1 dX12_isFree_4 rfl ?_
  obtain ⟨g1, h⟩ := rb_gd h
  refine rb_zald hC rb_arM21 (rb_ibI g1) dX12_isFree_5 ?_
  refine rb_if_eq hC 11 dX12_isFree_6 (by decide) (fun c2 => ?_) (fun c2 => ?_)
  · replace h := rb_ifp c2 h
    refine rb_iconst (x := 0) hC dX12_isFree_11 (by decide) ?_
    refine rb_istore_n hC [(2, .int 0), (0, .ref (rb_ad w 0)), (1, .int p0)] dX12_isFree_12 (by decide) rfl ?_
    obtain ⟨t10, q11, h⟩ := rb_b1s h
    refine rb_sub (lv2 := [(0, .ref (rb_ad w 0)), (1, .int p0), (2, .int 0)]) [1, 2, 0] rfl ?_
    refine xt_M_isFree_13 hC p0 σ rb_FU 0 _ q11 (fun ht => ?_) (fun ht => ?_)
    · subst ht
      replace h := rb_ifp rfl h
      refine rb_iconst (x := 0) hC dX12_isFree_50 (by decide) ?_
      cases h
      exact rb_zret hC rfl dX12_isFree_51
    · subst ht
      replace h := rb_ifn (by decide) h
      refine rb_iconst (x := 1) hC dX12_isFree_58 (by decide) ?_
      cases h
      exact rb_zret hC rfl dX12_isFree_59
  · replace h := rb_ifn c2 h
    refine rb_iconst (x := 0) hC dX12_isFree_9 (by decide) ?_
    cases h
    exact rb_zret hC rfl dX12_isFree_10
theorem xc_M_isFree (p0 : Int32) (σ : rb_St) (r : Int32) (h : xf_M_isFree p0 σ = some r) : rb_Con rb_vM yX12_isFree cX12_isFree 3 (some .boolean) 2 (fun w => [.ref (rb_ad w 0), .int p0]) σ (fun _ => (some (.int r))) σ := rb_Con.of (by decide +kernel) (fun _ => Nat.le_of_ble_eq_true rfl) (fun z w hC => xk_M_isFree hC p0 σ r h)
theorem fr_X12_382_11 : rb_FR RX12 382 11 33 := ⟨RX12, TX12, 50, "RibbonPoleModel", rfl, rb_uX12, by decide, rb_in (by decide +kernel) (by decide +kernel), Or.inl rfl⟩
theorem me_X12_isFree : Cond.instanceMethod yX12_isFree ∈ rb_tbl ∧ Cond.selects yX12_isFree.cls yX12_isFree yX12_isFree ∈ rb_tbl ∧ Cond.initialized yX12_isFree.cls ∈ rb_tbl ∧ Cond.code yX12_isFree cX12_isFree 3 (some .boolean) ∈ rb_tbl ∧ rb_pn yX12_isFree 1 := ⟨rb_in (by decide +kernel) (by decide +kernel), rb_in (by decide +kernel) (by decide +kernel), rb_in (by decide +kernel) (by decide +kernel), rb_in (by decide +kernel) (by decide +kernel), by decide +kernel, by decide +kernel, by decide +kernel⟩
theorem mv_X12_385 : rb_MV RX12 385 yX12_isFree cX12_isFree 3 (some .boolean) 1 := ⟨rb_in (by decide +kernel) (by decide +kernel), me_X12_isFree⟩
theorem fr_X12_71_11 : rb_FR RX12 71 11 31 := ⟨RX12, TX12, 50, "RibbonPoleModel", rfl, rb_uX12, by decide, rb_in (by decide +kernel) (by decide +kernel), Or.inl rfl⟩
def xl_M_layOrder_2  : Nat → Int32 → rb_St → Option (rb_St)
  | 0, _, _ => none
  | n + 1, x1, σ => if (σ.1 0 33) ≤ x1 then some σ else if rb_ib x1 88 then rb_lt (rb_sI σ 21 x1.toNatClampNeg 0) (fun s3 => xl_M_layOrder_2 n (x1 + 1) s3) else none
set_option maxHeartbeats 4000000 in
set_option maxRecDepth 100000 in
theorem xt_M_layOrder_2 {z : rb_Z} {w : rb_Wd} {Q : State → Prop} (hC : rb_Cx z rb_vM w RX12 cX12_layOrder 4 none 3)  : ∀ (n : Nat) (x1 : Int32) (σ : rb_St) (σ9 : rb_St), xl_M_layOrder_2 n x1 σ = some σ9 → rb_At z rb_vM w 4 Q 23 [(0, .ref (rb_ad w 0))] [] σ9 → rb_At z rb_vM w 4 Q 2 [(0, .ref (rb_ad w 0)), (1, .int x1)] [] σ := by
  intro n
  induction n with
  | zero =>
    intro x1 σ σ9 h hE0
    cases h
  | succ n ih =>
    intro x1 σ σ9 h hE0
    rw [xl_M_layOrder_2] at h
    refine rb_iload_n hC 1 dX12_layOrder_2 rfl ?_
    refine rb_aload_n hC 0 dX12_layOrder_3 rfl ?_
    refine rb_getI hC fr_X12_382_11 rb_obM0 rfl dX12_layOrder_4 ?_
    refine rb_icmp_ge hC 23 dX12_layOrder_7 (by decide) (fun c1 => ?_) (fun c1 => ?_)
    · replace h := rb_ifp c1 h
      cases h
      exact rb_sub [0] rfl (hE0)
    · replace h := rb_ifn c1 h
      refine rb_aload_n hC 0 dX12_layOrder_10 rfl ?_
      refine rb_getR hC fr_X12_74_11 rb_obM0 rfl dX12_layOrder_11 ?_
      refine rb_iload_n hC 1 dX12_layOrder_14 rfl ?_
      refine rb_iconst (x := 0) hC dX12_layOrder_15 (by decide) ?_
      obtain ⟨g2, h⟩ := rb_gd h
      refine rb_zast hC rb_arM21 (rb_ibI g2) rfl dX12_layOrder_16 ?_
      obtain ⟨s3, e4, h⟩ := rb_ltE h
      refine rb_nmS e4 ?_
      refine rb_iinc hC 1 [(1, .int (x1 + 1)), (0, .ref (rb_ad w 0))] dX12_layOrder_17 rfl rfl (by decide) rfl ?_
      refine rb_goto hC 2 dX12_layOrder_20 (by decide) ?_
      exact rb_sub [1, 0] rfl (ih (x1 + 1) s3 _ h hE0)
def xl_M_layOrder_37 (x1 : Int32) (σ : rb_St) : Nat → Int32 → Int32 → Option (Int32)
  | 0, _, _ => none
  | n + 1, x2, x3 => if (σ.1 0 33) ≤ x3 then some x2 else rb_b1 (xf_M_isFree x3 σ) fun r9 => if r9 = 0 then xl_M_layOrder_37 x1 σ n x2 (x3 + 1) else if x2 = (-1) then xl_M_layOrder_37 x1 σ n x3 (x3 + 1) else if rb_ib x3 88 then if rb_ib x2 88 then if (σ.1 19 x2.toNatClampNeg) ≤ (σ.1 19 x3.toNatClampNeg) then xl_M_layOrder_37 x1 σ n x2 (x3 + 1) else xl_M_layOrder_37 x1 σ n x3 (x3 + 1) else none else none
set_option maxHeartbeats 4000000 in
set_option maxRecDepth 100000 in
theorem xt_M_layOrder_37 {z : rb_Z} {w : rb_Wd} {Q : State → Prop} (hC : rb_Cx z rb_vM w RX12 cX12_layOrder 4 none 3) (x1 : Int32) (σ : rb_St) : ∀ (n : Nat) (x2 : Int32) (x3 : Int32) (y2 : Int32), xl_M_layOrder_37 x1 σ n x2 x3 = some y2 → rb_At z rb_vM w 4 Q 85 [(0, .ref (rb_ad w 0)), (1, .int x1), (2, .int y2)] [] σ → rb_At z rb_vM w 4 Q 37 [(0, .ref (rb_ad w 0)), (1, .int x1), (2, .int x2), (3, .int x3)] [] σ := by
  intro n
  induction n with
  | zero =>
    intro x2 x3 y2 h hE0
    cases h
  | succ n ih =>
    intro x2 x3 y2 h hE0
    rw [xl_M_layOrder_37] at h
    refine rb_iload_n hC 3 dX12_layOrder_37 rfl ?_
    refine rb_aload_n hC 0 dX12_layOrder_38 rfl ?_
    refine rb_getI hC fr_X12_382_11 rb_obM0 rfl dX12_layOrder_39 ?_
    refine rb_icmp_ge hC 85 dX12_layOrder_42 (by decide) (fun c8 => ?_) (fun c8 => ?_)
    · replace h := rb_ifp c8 h
      cases h
      exact rb_sub [0, 1, 2] rfl (hE0)
    · replace h := rb_ifn c8 h
      refine rb_aload_n hC 0 dX12_layOrder_45 rfl ?_
      refine rb_iload_n hC 3 dX12_layOrder_46 rfl ?_
      obtain ⟨r9, q10, h⟩ := rb_b1s h
      refine rb_callVi hC rb_VokM mv_X12_385 (xc_M_isFree x3 σ _ q10) rb_obM0 rfl [.int x3] rfl rfl rfl ⟨Nat.le_of_ble_eq_true rfl, Nat.le_of_ble_eq_true rfl⟩ (Nat.le_of_ble_eq_true rfl) dX12_layOrder_47 ?_
      refine rb_if_eq hC 77 dX12_layOrder_50 (by decide) (fun c11 => ?_) (fun c11 => ?_)
      · replace h := rb_ifp c11 h
        refine rb_iload_n hC 2 dX12_layOrder_77 rfl ?_
        refine rb_istore_n hC [(2, .int x2), (0, .ref (rb_ad w 0)), (1, .int x1), (3, .int x3)] dX12_layOrder_78 (by decide) rfl ?_
        refine rb_iinc hC 3 [(3, .int (x3 + 1)), (2, .int x2), (0, .ref (rb_ad w 0)), (1, .int x1)] dX12_layOrder_79 rfl rfl (by decide) rfl ?_
        refine rb_goto hC 37 dX12_layOrder_82 (by decide) ?_
        exact rb_sub [2, 3, 1, 0] rfl (ih x2 (x3 + 1) _ h hE0)
      · replace h := rb_ifn c11 h
        refine rb_iload_n hC 2 dX12_layOrder_53 rfl ?_
        refine rb_iconst (x := (-1)) hC dX12_layOrder_54 (by decide) ?_
        refine rb_icmp_eq hC 73 dX12_layOrder_55 (by decide) (fun c12 => ?_) (fun c12 => ?_)
        · replace h := rb_ifp c12 h
          refine rb_iload_n hC 3 dX12_layOrder_73 rfl ?_
          refine rb_goto hC 78 dX12_layOrder_74 (by decide) ?_
          refine rb_istore_n hC [(2, .int x3), (0, .ref (rb_ad w 0)), (1, .int x1), (3, .int x3)] dX12_layOrder_78 (by decide) rfl ?_
          refine rb_iinc hC 3 [(3, .int (x3 + 1)), (2, .int x3), (0, .ref (rb_ad w 0)), (1, .int x1)] dX12_layOrder_79 rfl rfl (by decide) rfl ?_
          refine rb_goto hC 37 dX12_layOrder_82 (by decide) ?_
          exact rb_sub [2, 3, 1, 0] rfl (ih x3 (x3 + 1) _ h hE0)
        · replace h := rb_ifn c12 h
          refine rb_aload_n hC 0 dX12_layOrder_58 rfl ?_
          refine rb_getR hC fr_X12_68_11 rb_obM0 rfl dX12_layOrder_59 ?_
          refine rb_iload_n hC 3 dX12_layOrder_62 rfl ?_
          obtain ⟨g13, h⟩ := rb_gd h
          refine rb_iald hC rb_arM19 (rb_ibI g13) dX12_layOrder_63 ?_
          refine rb_aload_n hC 0 dX12_layOrder_64 rfl ?_
          refine rb_getR hC fr_X12_68_11 rb_obM0 rfl dX12_layOrder_65 ?_
          refine rb_iload_n hC 2 dX12_layOrder_68 rfl ?_
          obtain ⟨g14, h⟩ := rb_gd h
          refine rb_iald hC rb_arM19 (rb_ibI g14) dX12_layOrder_69 ?_
          refine rb_icmp_ge hC 77 dX12_layOrder_70 (by decide) (fun c15 => ?_) (fun c15 => ?_)
          · replace h := rb_ifp c15 h
            refine rb_iload_n hC 2 dX12_layOrder_77 rfl ?_
            refine rb_istore_n hC [(2, .int x2), (0, .ref (rb_ad w 0)), (1, .int x1), (3, .int x3)] dX12_layOrder_78 (by decide) rfl ?_
            refine rb_iinc hC 3 [(3, .int (x3 + 1)), (2, .int x2), (0, .ref (rb_ad w 0)), (1, .int x1)] dX12_layOrder_79 rfl rfl (by decide) rfl ?_
            refine rb_goto hC 37 dX12_layOrder_82 (by decide) ?_
            exact rb_sub [2, 3, 1, 0] rfl (ih x2 (x3 + 1) _ h hE0)
          · replace h := rb_ifn c15 h
            refine rb_iload_n hC 3 dX12_layOrder_73 rfl ?_
            refine rb_goto hC 78 dX12_layOrder_74 (by decide) ?_
            refine rb_istore_n hC [(2, .int x3), (0, .ref (rb_ad w 0)), (1, .int x1), (3, .int x3)] dX12_layOrder_78 (by decide) rfl ?_
            refine rb_iinc hC 3 [(3, .int (x3 + 1)), (2, .int x3), (0, .ref (rb_ad w 0)), (1, .int x1)] dX12_layOrder_79 rfl rfl (by decide) rfl ?_
            refine rb_goto hC 37 dX12_layOrder_82 (by decide) ?_
            exact rb_sub [2, 3, 1, 0] rfl (ih x3 (x3 + 1) _ h hE0)
def xl_M_layOrder_25  : Nat → Int32 → rb_St → Option (rb_St)
  | 0, _, _ => none
  | n + 1, x1, σ => if (σ.1 0 33) ≤ x1 then some σ else rb_b1 (xl_M_layOrder_37 x1 σ rb_FU (-1) 0) fun y16 => if rb_ib x1 88 then rb_lt (rb_sI σ 20 x1.toNatClampNeg y16) (fun s19 => if rb_ib y16 88 then rb_lt (rb_sI s19 21 y16.toNatClampNeg 1) (fun s22 => xl_M_layOrder_25 n (x1 + 1) s22) else none) else none
set_option maxHeartbeats 4000000 in
set_option maxRecDepth 100000 in
theorem xt_M_layOrder_25 {z : rb_Z} {w : rb_Wd} {Q : State → Prop} (hC : rb_Cx z rb_vM w RX12 cX12_layOrder 4 none 3)  : ∀ (n : Nat) (x1 : Int32) (σ : rb_St) (σ9 : rb_St), xl_M_layOrder_25 n x1 σ = some σ9 → rb_At z rb_vM w 4 Q 105 [] [] σ9 → rb_At z rb_vM w 4 Q 25 [(0, .ref (rb_ad w 0)), (1, .int x1)] [] σ := by
  intro n
  induction n with
  | zero =>
    intro x1 σ σ9 h hE0
    cases h
  | succ n ih =>
    intro x1 σ σ9 h hE0
    rw [xl_M_layOrder_25] at h
    refine rb_iload_n hC 1 dX12_layOrder_25 rfl ?_
    refine rb_aload_n hC 0 dX12_layOrder_26 rfl ?_
    refine rb_getI hC fr_X12_382_11 rb_obM0 rfl dX12_layOrder_27 ?_
    refine rb_icmp_ge hC 105 dX12_layOrder_30 (by decide) (fun c7 => ?_) (fun c7 => ?_)
    · replace h := rb_ifp c7 h
      cases h
      exact rb_sub [] rfl (hE0)
    · replace h := rb_ifn c7 h
      refine rb_iconst (x := (-1)) hC dX12_layOrder_33 (by decide) ?_
      refine rb_istore_n hC [(2, .int (-1)), (0, .ref (rb_ad w 0)), (1, .int x1)] dX12_layOrder_34 (by decide) rfl ?_
      refine rb_iconst (x := 0) hC dX12_layOrder_35 (by decide) ?_
      refine rb_istore_n hC [(3, .int 0), (2, .int (-1)), (0, .ref (rb_ad w 0)), (1, .int x1)] dX12_layOrder_36 (by decide) rfl ?_
      obtain ⟨y16, q17, h⟩ := rb_b1s h
      refine rb_sub (lv2 := [(0, .ref (rb_ad w 0)), (1, .int x1), (2, .int (-1)), (3, .int 0)]) [2, 3, 1, 0] rfl ?_
      refine xt_M_layOrder_37 hC x1 σ rb_FU (-1) 0 _ q17 ?_
      refine rb_aload_n hC 0 dX12_layOrder_85 rfl ?_
      refine rb_getR hC fr_X12_71_11 rb_obM0 rfl dX12_layOrder_86 ?_
      refine rb_iload_n hC 1 dX12_layOrder_89 rfl ?_
      refine rb_iload_n hC 2 dX12_layOrder_90 rfl ?_
      obtain ⟨g18, h⟩ := rb_gd h
      refine rb_iast hC rb_arM20 (rb_ibI g18) dX12_layOrder_91 ?_
      obtain ⟨s19, e20, h⟩ := rb_ltE h
      refine rb_nmS e20 ?_
      refine rb_aload_n hC 0 dX12_layOrder_92 rfl ?_
      refine rb_getR hC fr_X12_74_11 rb_obM0 rfl dX12_layOrder_93 ?_
      refine rb_iload_n hC 2 dX12_layOrder_96 rfl ?_
      refine rb_iconst (x := 1) hC dX12_layOrder_97 (by decide) ?_
      obtain ⟨g21, h⟩ := rb_gd h
      refine rb_zast hC rb_arM21 (rb_ibI g21) rfl dX12_layOrder_98 ?_
      obtain ⟨s22, e23, h⟩ := rb_ltE h
      refine rb_nmS e23 ?_
      refine rb_iinc hC 1 [(1, .int (x1 + 1)), (0, .ref (rb_ad w 0)), (2, .int y16)] dX12_layOrder_99 rfl rfl (by decide) rfl ?_
      refine rb_goto hC 25 dX12_layOrder_102 (by decide) ?_
      exact rb_sub [1, 0] rfl (ih (x1 + 1) s22 _ h hE0)
def xf_M_layOrder  (σ : rb_St) : Option (rb_St) := rb_b1 (xl_M_layOrder_2 rb_FU 0 σ) fun s5 => rb_b1 (xl_M_layOrder_25 rb_FU 0 s5) fun s24 => some s24
set_option maxHeartbeats 4000000 in
set_option maxRecDepth 100000 in
theorem xk_M_layOrder {z : rb_Z} {w : rb_Wd} (hC : rb_Cx z rb_vM w RX12 cX12_layOrder 4 none 3)  (σ : rb_St) (σ9 : rb_St) (h : xf_M_layOrder σ = some σ9) : rb_At z rb_vM w 4 (rb_Q z rb_vM w none σ9) 0 [(0, .ref (rb_ad w 0))] [] σ := by
  unfold xf_M_layOrder at h
  refine rb_iconst (x := 0) hC dX12_layOrder_0 (by decide) ?_
  refine rb_istore_n hC [(1, .int 0), (0, .ref (rb_ad w 0))] dX12_layOrder_1 (by decide) rfl ?_
  obtain ⟨s5, q6, h⟩ := rb_b1s h
  refine rb_sub (lv2 := [(0, .ref (rb_ad w 0)), (1, .int 0)]) [1, 0] rfl ?_
  refine xt_M_layOrder_2 hC  rb_FU 0 σ _ q6 ?_
  refine rb_iconst (x := 0) hC dX12_layOrder_23 (by decide) ?_
  refine rb_istore_n hC [(1, .int 0), (0, .ref (rb_ad w 0))] dX12_layOrder_24 (by decide) rfl ?_
  obtain ⟨s24, q25, h⟩ := rb_b1s h
  refine rb_sub (lv2 := [(0, .ref (rb_ad w 0)), (1, .int 0)]) [1, 0] rfl ?_
  refine xt_M_layOrder_25 hC  rb_FU 0 s5 _ q25 ?_
  cases h
  exact rb_vret hC dX12_layOrder_105
theorem xc_M_layOrder  (σ : rb_St) (σ9 : rb_St) (h : xf_M_layOrder σ = some σ9) : rb_Con rb_vM yX12_layOrder cX12_layOrder 4 none 3 (fun w => [.ref (rb_ad w 0)]) σ (fun _ => none) σ9 := rb_Con.of (by decide +kernel) (fun _ => Nat.le_of_ble_eq_true rfl) (fun z w hC => xk_M_layOrder hC  σ σ9 h)
theorem ft_11_33 : rb_Ty 11 33 .int := ⟨RX12, TX12, 50, tyX12, rfl, tyX12_ok, nmX12, rfl, by decide +kernel⟩
def xl_M_rowOfPlait_13  : Nat → Int32 → rb_St → Option (rb_St)
  | 0, _, _ => none
  | n + 1, x1, σ => if (σ.1 0 33) ≤ x1 then some σ else rb_b1 (xf_M_of x1 0 σ) fun r4 => if rb_ib x1 88 then rb_lt (rb_sI σ 19 x1.toNatClampNeg r4) (fun s7 => xl_M_rowOfPlait_13 n (x1 + 1) s7) else none
set_option maxHeartbeats 4000000 in
set_option maxRecDepth 100000 in
theorem xt_M_rowOfPlait_13 {z : rb_Z} {w : rb_Wd} {Q : State → Prop} (hC : rb_Cx z rb_vM w RX12 cX12_rowOfPlait 2 none 1)  : ∀ (n : Nat) (x1 : Int32) (σ : rb_St) (σ9 : rb_St), xl_M_rowOfPlait_13 n x1 σ = some σ9 → rb_At z rb_vM w 2 Q 39 [] [] σ9 → rb_At z rb_vM w 2 Q 13 [(0, .ref (rb_ad w 0)), (1, .int x1)] [] σ := by
  intro n
  induction n with
  | zero =>
    intro x1 σ σ9 h hE0
    cases h
  | succ n ih =>
    intro x1 σ σ9 h hE0
    rw [xl_M_rowOfPlait_13] at h
    refine rb_iload_n hC 1 dX12_rowOfPlait_13 rfl ?_
    refine rb_aload_n hC 0 dX12_rowOfPlait_14 rfl ?_
    refine rb_getI hC fr_X12_382_11 rb_obM0 rfl dX12_rowOfPlait_15 ?_
    refine rb_icmp_ge hC 39 dX12_rowOfPlait_18 (by decide) (fun c3 => ?_) (fun c3 => ?_)
    · replace h := rb_ifp c3 h
      cases h
      exact rb_sub [] rfl (hE0)
    · replace h := rb_ifn c3 h
      refine rb_aload_n hC 0 dX12_rowOfPlait_21 rfl ?_
      refine rb_getR hC fr_X12_68_11 rb_obM0 rfl dX12_rowOfPlait_22 ?_
      refine rb_iload_n hC 1 dX12_rowOfPlait_25 rfl ?_
      refine rb_aload_n hC 0 dX12_rowOfPlait_26 rfl ?_
      refine rb_iload_n hC 1 dX12_rowOfPlait_27 rfl ?_
      refine rb_iconst (x := 0) hC dX12_rowOfPlait_28 (by decide) ?_
      obtain ⟨r4, q5, h⟩ := rb_b1s h
      refine rb_callVi hC rb_VokM mv_X12_311 (xc_M_of x1 0 σ _ q5) rb_obM0 rfl [.int x1, .int 0] rfl rfl rfl ⟨Nat.le_of_ble_eq_true rfl, Nat.le_of_ble_eq_true rfl⟩ (Nat.le_of_ble_eq_true rfl) dX12_rowOfPlait_29 ?_
      obtain ⟨g6, h⟩ := rb_gd h
      refine rb_iast hC rb_arM19 (rb_ibI g6) dX12_rowOfPlait_32 ?_
      obtain ⟨s7, e8, h⟩ := rb_ltE h
      refine rb_nmS e8 ?_
      refine rb_iinc hC 1 [(1, .int (x1 + 1)), (0, .ref (rb_ad w 0))] dX12_rowOfPlait_33 rfl rfl (by decide) rfl ?_
      refine rb_goto hC 13 dX12_rowOfPlait_36 (by decide) ?_
      exact rb_sub [1, 0] rfl (ih (x1 + 1) s7 _ h hE0)
def xf_M_rowOfPlait  (σ : rb_St) : Option (rb_St) := rb_lt (rb_sI σ 0 33 (σ.1 17 14)) (fun s1 => rb_b1 (xl_M_rowOfPlait_13 rb_FU 0 s1) fun s9 => some s9)
set_option maxHeartbeats 4000000 in
set_option maxRecDepth 100000 in
theorem xk_M_rowOfPlait {z : rb_Z} {w : rb_Wd} (hC : rb_Cx z rb_vM w RX12 cX12_rowOfPlait 2 none 1)  (σ : rb_St) (σ9 : rb_St) (h : xf_M_rowOfPlait σ = some σ9) : rb_At z rb_vM w 2 (rb_Q z rb_vM w none σ9) 0 [(0, .ref (rb_ad w 0))] [] σ := by
  unfold xf_M_rowOfPlait at h
  refine rb_aload_n hC 0 dX12_rowOfPlait_0 rfl ?_
  refine rb_aload_n hC 0 dX12_rowOfPlait_1 rfl ?_
  refine rb_getR hC fr_X12_58_11 rb_obM0 rfl dX12_rowOfPlait_2 ?_
  refine rb_bipush (x := 14) hC dX12_rowOfPlait_5 (by decide) ?_
  refine rb_iald hC rb_arM17 (rb_ibI (by decide)) dX12_rowOfPlait_7 ?_
  refine rb_putI hC fr_X12_382_11 ft_11_33 rb_obM0 rfl rfl rfl dX12_rowOfPlait_8 ?_
  obtain ⟨s1, e2, h⟩ := rb_ltE h
  refine rb_nmS e2 ?_
  refine rb_iconst (x := 0) hC dX12_rowOfPlait_11 (by decide) ?_
  refine rb_istore_n hC [(1, .int 0), (0, .ref (rb_ad w 0))] dX12_rowOfPlait_12 (by decide) rfl ?_
  obtain ⟨s9, q10, h⟩ := rb_b1s h
  refine rb_sub (lv2 := [(0, .ref (rb_ad w 0)), (1, .int 0)]) [1, 0] rfl ?_
  refine xt_M_rowOfPlait_13 hC  rb_FU 0 s1 _ q10 ?_
  cases h
  exact rb_vret hC dX12_rowOfPlait_39
theorem xc_M_rowOfPlait  (σ : rb_St) (σ9 : rb_St) (h : xf_M_rowOfPlait σ = some σ9) : rb_Con rb_vM yX12_rowOfPlait cX12_rowOfPlait 2 none 1 (fun w => [.ref (rb_ad w 0)]) σ (fun _ => none) σ9 := rb_Con.of (by decide +kernel) (fun _ => Nat.le_of_ble_eq_true rfl) (fun z w hC => xk_M_rowOfPlait hC  σ σ9 h)
def xl_M_addLetter_7 (x1 : Int32) (σ : rb_St) : Nat → Int32 → Option (Int32)
  | 0, _ => none
  | n + 1, x2 => if x2 < 0 then some x2 else if rb_ib x2 88 then rb_b1 (xf_M_touch ((σ.1 19 x2.toNatClampNeg) / 2) (x1 / 2) σ) fun r3 => if r3 = 0 then xl_M_addLetter_7 x1 σ n (x2 + (-1)) else some x2 else none
set_option maxHeartbeats 4000000 in
set_option maxRecDepth 100000 in
theorem xt_M_addLetter_7 {z : rb_Z} {w : rb_Wd} {Q : State → Prop} (hC : rb_Cx z rb_vM w RX12 cX12_addLetter 4 none 2) (x1 : Int32) (σ : rb_St) : ∀ (n : Nat) (x2 : Int32) (y2 : Int32), xl_M_addLetter_7 x1 σ n x2 = some y2 → rb_At z rb_vM w 4 Q 35 [(0, .ref (rb_ad w 0)), (1, .int x1), (2, .int y2)] [] σ → rb_At z rb_vM w 4 Q 7 [(0, .ref (rb_ad w 0)), (1, .int x1), (2, .int x2)] [] σ := by
  intro n
  induction n with
  | zero =>
    intro x2 y2 h hE0
    cases h
  | succ n ih =>
    intro x2 y2 h hE0
    rw [xl_M_addLetter_7] at h
    refine rb_iload_n hC 2 dX12_addLetter_7 rfl ?_
    refine rb_if_lt hC 35 dX12_addLetter_8 (by decide) (fun c1 => ?_) (fun c1 => ?_)
    · replace h := rb_ifp c1 h
      cases h
      exact rb_sub [0, 1, 2] rfl (hE0)
    · replace h := rb_ifn c1 h
      refine rb_aload_n hC 0 dX12_addLetter_11 rfl ?_
      refine rb_aload_n hC 0 dX12_addLetter_12 rfl ?_
      refine rb_getR hC fr_X12_68_11 rb_obM0 rfl dX12_addLetter_13 ?_
      refine rb_iload_n hC 2 dX12_addLetter_16 rfl ?_
      obtain ⟨g2, h⟩ := rb_gd h
      refine rb_iald hC rb_arM19 (rb_ibI g2) dX12_addLetter_17 ?_
      refine rb_iconst (x := 2) hC dX12_addLetter_18 (by decide) ?_
      refine rb_idiv hC dX12_addLetter_19 (by decide) ?_
      refine rb_iload_n hC 1 dX12_addLetter_20 rfl ?_
      refine rb_iconst (x := 2) hC dX12_addLetter_21 (by decide) ?_
      refine rb_idiv hC dX12_addLetter_22 (by decide) ?_
      obtain ⟨r3, q4, h⟩ := rb_b1s h
      refine rb_callVi hC rb_VokM mv_X12_314 (xc_M_touch ((σ.1 19 x2.toNatClampNeg) / 2) (x1 / 2) σ _ q4) rb_obM0 rfl [.int ((σ.1 19 x2.toNatClampNeg) / 2), .int (x1 / 2)] rfl rfl rfl ⟨Nat.le_of_ble_eq_true rfl, Nat.le_of_ble_eq_true rfl⟩ (Nat.le_of_ble_eq_true rfl) dX12_addLetter_23 ?_
      refine rb_if_ne hC 35 dX12_addLetter_26 (by decide) (fun c5 => ?_) (fun c5 => ?_)
      · replace h := rb_ifn c5 h
        cases h
        exact rb_sub [0, 1, 2] rfl (hE0)
      · replace h := rb_ifp c5 h
        refine rb_iinc hC 2 [(2, .int (x2 + (-1))), (0, .ref (rb_ad w 0)), (1, .int x1)] dX12_addLetter_29 rfl rfl (by decide) rfl ?_
        refine rb_goto hC 7 dX12_addLetter_32 (by decide) ?_
        exact rb_sub [1, 2, 0] rfl (ih (x2 + (-1)) _ h hE0)
def xl_M_addLetter_53  : Nat → Int32 → rb_St → Option (rb_St)
  | 0, _, _ => none
  | n + 1, x3, σ => if ((σ.1 0 33) - 1) ≤ x3 then some σ else if rb_ib (x3 + 1) 88 then if rb_ib x3 88 then rb_lt (rb_sI σ 19 x3.toNatClampNeg (σ.1 19 (x3 + 1).toNatClampNeg)) (fun s24 => xl_M_addLetter_53 n (x3 + 1) s24) else none else none
set_option maxHeartbeats 4000000 in
set_option maxRecDepth 100000 in
theorem xt_M_addLetter_53 {z : rb_Z} {w : rb_Wd} {Q : State → Prop} (hC : rb_Cx z rb_vM w RX12 cX12_addLetter 4 none 2)  : ∀ (n : Nat) (x3 : Int32) (σ : rb_St) (σ9 : rb_St), xl_M_addLetter_53 n x3 σ = some σ9 → rb_At z rb_vM w 4 Q 83 [(0, .ref (rb_ad w 0))] [] σ9 → rb_At z rb_vM w 4 Q 53 [(0, .ref (rb_ad w 0)), (3, .int x3)] [] σ := by
  intro n
  induction n with
  | zero =>
    intro x3 σ σ9 h hE0
    cases h
  | succ n ih =>
    intro x3 σ σ9 h hE0
    rw [xl_M_addLetter_53] at h
    refine rb_iload_n hC 1 dX12_addLetter_53 rfl ?_
    refine rb_aload_n hC 0 dX12_addLetter_54 rfl ?_
    refine rb_getI hC fr_X12_382_11 rb_obM0 rfl dX12_addLetter_55 ?_
    refine rb_iconst (x := 1) hC dX12_addLetter_58 (by decide) ?_
    refine rb_isub hC dX12_addLetter_59 ?_
    refine rb_icmp_ge hC 83 dX12_addLetter_60 (by decide) (fun c21 => ?_) (fun c21 => ?_)
    · replace h := rb_ifp c21 h
      cases h
      exact rb_sub [0] rfl (hE0)
    · replace h := rb_ifn c21 h
      refine rb_aload_n hC 0 dX12_addLetter_63 rfl ?_
      refine rb_getR hC fr_X12_68_11 rb_obM0 rfl dX12_addLetter_64 ?_
      refine rb_iload_n hC 1 dX12_addLetter_67 rfl ?_
      refine rb_aload_n hC 0 dX12_addLetter_68 rfl ?_
      refine rb_getR hC fr_X12_68_11 rb_obM0 rfl dX12_addLetter_69 ?_
      refine rb_iload_n hC 1 dX12_addLetter_72 rfl ?_
      refine rb_iconst (x := 1) hC dX12_addLetter_73 (by decide) ?_
      refine rb_iadd hC dX12_addLetter_74 ?_
      obtain ⟨g22, h⟩ := rb_gd h
      refine rb_iald hC rb_arM19 (rb_ibI g22) dX12_addLetter_75 ?_
      obtain ⟨g23, h⟩ := rb_gd h
      refine rb_iast hC rb_arM19 (rb_ibI g23) dX12_addLetter_76 ?_
      obtain ⟨s24, e25, h⟩ := rb_ltE h
      refine rb_nmS e25 ?_
      refine rb_iinc hC 1 [(3, .int (x3 + 1)), (0, .ref (rb_ad w 0))] dX12_addLetter_77 rfl rfl (by decide) rfl ?_
      refine rb_goto hC 53 dX12_addLetter_80 (by decide) ?_
      exact rb_sub [1, 0] rfl (ih (x3 + 1) s24 _ h hE0)
def xj_M_addLetter_35 (x1 : Int32) (x2 : Int32) (σ : rb_St) : Option (rb_St) := if x2 < 0 then if rb_ib (σ.1 0 33) 88 then rb_lt (rb_sI σ 19 (σ.1 0 33).toNatClampNeg x1) (fun s10 => rb_lt (rb_sI s10 0 33 ((s10.1 0 33) + 1)) (fun s12 => some s12)) else none else if rb_ib x2 88 then if (σ.1 19 x2.toNatClampNeg) = (x1 ^^^ 1) then rb_b1 (xl_M_addLetter_53 rb_FU x2 σ) fun s26 => rb_lt (rb_sI s26 0 33 ((s26.1 0 33) - 1)) (fun s28 => some s28) else if rb_ib (σ.1 0 33) 88 then rb_lt (rb_sI σ 19 (σ.1 0 33).toNatClampNeg x1) (fun s17 => rb_lt (rb_sI s17 0 33 ((s17.1 0 33) + 1)) (fun s19 => some s19)) else none else none
set_option maxHeartbeats 4000000 in
set_option maxRecDepth 100000 in
theorem xu_M_addLetter_35 {z : rb_Z} {w : rb_Wd} (hC : rb_Cx z rb_vM w RX12 cX12_addLetter 4 none 2) (x1 : Int32) (x2 : Int32) (σ : rb_St) (σ9 : rb_St) (h : xj_M_addLetter_35 x1 x2 σ = some σ9) : rb_At z rb_vM w 4 (rb_Q z rb_vM w none σ9) 35 [(0, .ref (rb_ad w 0)), (1, .int x1), (2, .int x2)] [] σ := by
  unfold xj_M_addLetter_35 at h
  refine rb_iload_n hC 2 dX12_addLetter_35 rfl ?_
  refine rb_if_lt hC 96 dX12_addLetter_36 (by decide) (fun c8 => ?_) (fun c8 => ?_)
  · replace h := rb_ifp c8 h
    refine rb_aload_n hC 0 dX12_addLetter_96 rfl ?_
    refine rb_getR hC fr_X12_68_11 rb_obM0 rfl dX12_addLetter_97 ?_
    refine rb_aload_n hC 0 dX12_addLetter_100 rfl ?_
    refine rb_getI hC fr_X12_382_11 rb_obM0 rfl dX12_addLetter_101 ?_
    refine rb_iload_n hC 1 dX12_addLetter_104 rfl ?_
    obtain ⟨g9, h⟩ := rb_gd h
    refine rb_iast hC rb_arM19 (rb_ibI g9) dX12_addLetter_105 ?_
    obtain ⟨s10, e11, h⟩ := rb_ltE h
    refine rb_nmS e11 ?_
    refine rb_aload_n hC 0 dX12_addLetter_106 rfl ?_
    refine rb_dup hC dX12_addLetter_107 rfl ?_
    refine rb_getI hC fr_X12_382_11 rb_obM0 rfl dX12_addLetter_108 ?_
    refine rb_iconst (x := 1) hC dX12_addLetter_111 (by decide) ?_
    refine rb_iadd hC dX12_addLetter_112 ?_
    refine rb_putI hC fr_X12_382_11 ft_11_33 rb_obM0 rfl rfl rfl dX12_addLetter_113 ?_
    obtain ⟨s12, e13, h⟩ := rb_ltE h
    refine rb_nmS e13 ?_
    cases h
    exact rb_vret hC dX12_addLetter_116
  · replace h := rb_ifn c8 h
    refine rb_aload_n hC 0 dX12_addLetter_39 rfl ?_
    refine rb_getR hC fr_X12_68_11 rb_obM0 rfl dX12_addLetter_40 ?_
    refine rb_iload_n hC 2 dX12_addLetter_43 rfl ?_
    obtain ⟨g14, h⟩ := rb_gd h
    refine rb_iald hC rb_arM19 (rb_ibI g14) dX12_addLetter_44 ?_
    refine rb_iload_n hC 1 dX12_addLetter_45 rfl ?_
    refine rb_iconst (x := 1) hC dX12_addLetter_46 (by decide) ?_
    refine rb_ixor hC dX12_addLetter_47 ?_
    refine rb_icmp_ne hC 96 dX12_addLetter_48 (by decide) (fun c15 => ?_) (fun c15 => ?_)
    · replace h := rb_ifn c15 h
      refine rb_aload_n hC 0 dX12_addLetter_96 rfl ?_
      refine rb_getR hC fr_X12_68_11 rb_obM0 rfl dX12_addLetter_97 ?_
      refine rb_aload_n hC 0 dX12_addLetter_100 rfl ?_
      refine rb_getI hC fr_X12_382_11 rb_obM0 rfl dX12_addLetter_101 ?_
      refine rb_iload_n hC 1 dX12_addLetter_104 rfl ?_
      obtain ⟨g16, h⟩ := rb_gd h
      refine rb_iast hC rb_arM19 (rb_ibI g16) dX12_addLetter_105 ?_
      obtain ⟨s17, e18, h⟩ := rb_ltE h
      refine rb_nmS e18 ?_
      refine rb_aload_n hC 0 dX12_addLetter_106 rfl ?_
      refine rb_dup hC dX12_addLetter_107 rfl ?_
      refine rb_getI hC fr_X12_382_11 rb_obM0 rfl dX12_addLetter_108 ?_
      refine rb_iconst (x := 1) hC dX12_addLetter_111 (by decide) ?_
      refine rb_iadd hC dX12_addLetter_112 ?_
      refine rb_putI hC fr_X12_382_11 ft_11_33 rb_obM0 rfl rfl rfl dX12_addLetter_113 ?_
      obtain ⟨s19, e20, h⟩ := rb_ltE h
      refine rb_nmS e20 ?_
      cases h
      exact rb_vret hC dX12_addLetter_116
    · replace h := rb_ifp c15 h
      refine rb_iload_n hC 2 dX12_addLetter_51 rfl ?_
      refine rb_istore_n hC [(3, .int x2), (0, .ref (rb_ad w 0)), (1, .int x1), (2, .int x2)] dX12_addLetter_52 (by decide) rfl ?_
      obtain ⟨s26, q27, h⟩ := rb_b1s h
      refine rb_sub (lv2 := [(0, .ref (rb_ad w 0)), (3, .int x2)]) [1, 0] rfl ?_
      refine xt_M_addLetter_53 hC  rb_FU x2 σ _ q27 ?_
      refine rb_aload_n hC 0 dX12_addLetter_83 rfl ?_
      refine rb_dup hC dX12_addLetter_84 rfl ?_
      refine rb_getI hC fr_X12_382_11 rb_obM0 rfl dX12_addLetter_85 ?_
      refine rb_iconst (x := 1) hC dX12_addLetter_88 (by decide) ?_
      refine rb_isub hC dX12_addLetter_89 ?_
      refine rb_putI hC fr_X12_382_11 ft_11_33 rb_obM0 rfl rfl rfl dX12_addLetter_90 ?_
      obtain ⟨s28, e29, h⟩ := rb_ltE h
      refine rb_nmS e29 ?_
      refine rb_goto hC 116 dX12_addLetter_93 (by decide) ?_
      cases h
      exact rb_vret hC dX12_addLetter_116
def xf_M_addLetter (p0 : Int32) (σ : rb_St) : Option (rb_St) := rb_b1 (xl_M_addLetter_7 p0 σ rb_FU ((σ.1 0 33) - 1)) fun y6 => xj_M_addLetter_35 p0 y6 σ
set_option maxHeartbeats 4000000 in
set_option maxRecDepth 100000 in
theorem xk_M_addLetter {z : rb_Z} {w : rb_Wd} (hC : rb_Cx z rb_vM w RX12 cX12_addLetter 4 none 2) (p0 : Int32) (σ : rb_St) (σ9 : rb_St) (h : xf_M_addLetter p0 σ = some σ9) : rb_At z rb_vM w 4 (rb_Q z rb_vM w none σ9) 0 [(0, .ref (rb_ad w 0)), (1, .int p0)] [] σ := by
  unfold xf_M_addLetter at h
  refine rb_aload_n hC 0 dX12_addLetter_0 rfl ?_
  refine rb_getI hC fr_X12_382_11 rb_obM0 rfl dX12_addLetter_1 ?_
  refine rb_iconst (x := 1) hC dX12_addLetter_4 (by decide) ?_
  refine rb_isub hC dX12_addLetter_5 ?_
  refine rb_istore_n hC [(2, .int ((σ.1 0 33) - 1)), (0, .ref (rb_ad w 0)), (1, .int p0)] dX12_addLetter_6 (by decide) rfl ?_
  obtain ⟨y6, q7, h⟩ := rb_b1s h
  refine rb_sub (lv2 := [(0, .ref (rb_ad w 0)), (1, .int p0), (2, .int ((σ.1 0 33) - 1))]) [1, 2, 0] rfl ?_
  refine xt_M_addLetter_7 hC p0 σ rb_FU ((σ.1 0 33) - 1) _ q7 ?_
  exact rb_sub [0, 1, 2] rfl (xu_M_addLetter_35 hC p0 y6 σ _ h)
theorem xc_M_addLetter (p0 : Int32) (σ : rb_St) (σ9 : rb_St) (h : xf_M_addLetter p0 σ = some σ9) : rb_Con rb_vM yX12_addLetter cX12_addLetter 4 none 2 (fun w => [.ref (rb_ad w 0), .int p0]) σ (fun _ => none) σ9 := rb_Con.of (by decide +kernel) (fun _ => Nat.le_of_ble_eq_true rfl) (fun z w hC => xk_M_addLetter hC p0 σ σ9 h)
theorem me_X12_rowOfPlait : Cond.instanceMethod yX12_rowOfPlait ∈ rb_tbl ∧ Cond.selects yX12_rowOfPlait.cls yX12_rowOfPlait yX12_rowOfPlait ∈ rb_tbl ∧ Cond.initialized yX12_rowOfPlait.cls ∈ rb_tbl ∧ Cond.code yX12_rowOfPlait cX12_rowOfPlait 2 none ∈ rb_tbl ∧ rb_pn yX12_rowOfPlait 0 := ⟨rb_in (by decide +kernel) (by decide +kernel), rb_in (by decide +kernel) (by decide +kernel), rb_in (by decide +kernel) (by decide +kernel), rb_in (by decide +kernel) (by decide +kernel), by decide +kernel, by decide +kernel, by decide +kernel⟩
theorem mv_X12_388 : rb_MV RX12 388 yX12_rowOfPlait cX12_rowOfPlait 2 none 0 := ⟨rb_in (by decide +kernel) (by decide +kernel), me_X12_rowOfPlait⟩
theorem me_X12_layOrder : Cond.instanceMethod yX12_layOrder ∈ rb_tbl ∧ Cond.selects yX12_layOrder.cls yX12_layOrder yX12_layOrder ∈ rb_tbl ∧ Cond.initialized yX12_layOrder.cls ∈ rb_tbl ∧ Cond.code yX12_layOrder cX12_layOrder 4 none ∈ rb_tbl ∧ rb_pn yX12_layOrder 0 := ⟨rb_in (by decide +kernel) (by decide +kernel), rb_in (by decide +kernel) (by decide +kernel), rb_in (by decide +kernel) (by decide +kernel), rb_in (by decide +kernel) (by decide +kernel), by decide +kernel, by decide +kernel, by decide +kernel⟩
theorem mv_X12_391 : rb_MV RX12 391 yX12_layOrder cX12_layOrder 4 none 0 := ⟨rb_in (by decide +kernel) (by decide +kernel), me_X12_layOrder⟩
def xf_M_plait (p0 : Int32) (p1 : Int32) (σ : rb_St) : Option (Int32 × rb_St) := if (xf_M_in p0 0 ((σ.1 17 14) - 1) σ) = 0 then some ((-1), σ) else if (xf_M_in p1 0 4 σ) = 0 then some ((-1), σ) else rb_b1 (xf_M_rowOfPlait σ) fun s3 => rb_b1 (xf_M_layOrder s3) fun s5 => if rb_ib p0 88 then rb_b1 (xf_M_of (s5.1 20 p0.toNatClampNeg) p1 s5) fun r8 => some (r8, s5) else none
set_option maxHeartbeats 4000000 in
set_option maxRecDepth 100000 in
theorem xk_M_plait {z : rb_Z} {w : rb_Wd} (hC : rb_Cx z rb_vM w RX12 cX12_plait 3 (some .int) 4) (p0 : Int32) (p1 : Int32) (σ : rb_St) (r : Int32) (σ9 : rb_St) (h : xf_M_plait p0 p1 σ = some (r, σ9)) : rb_At z rb_vM w 3 (rb_Q z rb_vM w (some (.int r)) σ9) 0 [(0, .ref (rb_ad w 0)), (1, .int p0), (2, .int p1)] [] σ := by
  unfold xf_M_plait at h
  refine rb_iload_n hC 1 dX12_plait_0 rfl ?_
  refine rb_iconst (x := 0) hC dX12_plait_1 (by decide) ?_
  refine rb_aload_n hC 0 dX12_plait_2 rfl ?_
  refine rb_getR hC fr_X12_58_11 rb_obM0 rfl dX12_plait_3 ?_
  refine rb_bipush (x := 14) hC dX12_plait_6 (by decide) ?_
  refine rb_iald hC rb_arM17 (rb_ibI (by decide)) dX12_plait_8 ?_
  refine rb_iconst (x := 1) hC dX12_plait_9 (by decide) ?_
  refine rb_isub hC dX12_plait_10 ?_
  refine rb_callSi hC rb_VokM mv_X12_229 (xc_M_in p0 0 ((σ.1 17 14) - 1) σ _ rfl) [.int p0, .int 0, .int ((σ.1 17 14) - 1)] rfl rfl rfl ⟨Nat.le_of_ble_eq_true rfl, Nat.le_of_ble_eq_true rfl⟩ (Nat.le_of_ble_eq_true rfl) dX12_plait_11 ?_
  refine rb_if_eq hC 26 dX12_plait_14 (by decide) (fun c1 => ?_) (fun c1 => ?_)
  · replace h := rb_ifp c1 h
    refine rb_iconst (x := (-1)) hC dX12_plait_26 (by decide) ?_
    cases h
    exact rb_iret hC dX12_plait_27
  · replace h := rb_ifn c1 h
    refine rb_iload_n hC 2 dX12_plait_17 rfl ?_
    refine rb_iconst (x := 0) hC dX12_plait_18 (by decide) ?_
    refine rb_iconst (x := 4) hC dX12_plait_19 (by decide) ?_
    refine rb_callSi hC rb_VokM mv_X12_229 (xc_M_in p1 0 4 σ _ rfl) [.int p1, .int 0, .int 4] rfl rfl rfl ⟨Nat.le_of_ble_eq_true rfl, Nat.le_of_ble_eq_true rfl⟩ (Nat.le_of_ble_eq_true rfl) dX12_plait_20 ?_
    refine rb_if_ne hC 28 dX12_plait_23 (by decide) (fun c2 => ?_) (fun c2 => ?_)
    · replace h := rb_ifn c2 h
      refine rb_aload_n hC 0 dX12_plait_28 rfl ?_
      obtain ⟨s3, q4, h⟩ := rb_b1s h
      refine rb_callVv hC rb_VokM mv_X12_388 (xc_M_rowOfPlait  σ _ q4) rb_obM0 rfl [] rfl rfl rfl ⟨Nat.le_of_ble_eq_true rfl, Nat.le_of_ble_eq_true rfl⟩ (Nat.le_of_ble_eq_true rfl) dX12_plait_29 ?_
      refine rb_aload_n hC 0 dX12_plait_32 rfl ?_
      obtain ⟨s5, q6, h⟩ := rb_b1s h
      refine rb_callVv hC rb_VokM mv_X12_391 (xc_M_layOrder  s3 _ q6) rb_obM0 rfl [] rfl rfl rfl ⟨Nat.le_of_ble_eq_true rfl, Nat.le_of_ble_eq_true rfl⟩ (Nat.le_of_ble_eq_true rfl) dX12_plait_33 ?_
      refine rb_aload_n hC 0 dX12_plait_36 rfl ?_
      refine rb_aload_n hC 0 dX12_plait_37 rfl ?_
      refine rb_getR hC fr_X12_71_11 rb_obM0 rfl dX12_plait_38 ?_
      refine rb_iload_n hC 1 dX12_plait_41 rfl ?_
      obtain ⟨g7, h⟩ := rb_gd h
      refine rb_iald hC rb_arM20 (rb_ibI g7) dX12_plait_42 ?_
      refine rb_iload_n hC 2 dX12_plait_43 rfl ?_
      obtain ⟨r8, q9, h⟩ := rb_b1s h
      refine rb_callVi hC rb_VokM mv_X12_311 (xc_M_of (s5.1 20 p0.toNatClampNeg) p1 s5 _ q9) rb_obM0 rfl [.int (s5.1 20 p0.toNatClampNeg), .int p1] rfl rfl rfl ⟨Nat.le_of_ble_eq_true rfl, Nat.le_of_ble_eq_true rfl⟩ (Nat.le_of_ble_eq_true rfl) dX12_plait_44 ?_
      cases h
      exact rb_iret hC dX12_plait_47
    · replace h := rb_ifp c2 h
      refine rb_iconst (x := (-1)) hC dX12_plait_26 (by decide) ?_
      cases h
      exact rb_iret hC dX12_plait_27
theorem xc_M_plait (p0 : Int32) (p1 : Int32) (σ : rb_St) (r : Int32) (σ9 : rb_St) (h : xf_M_plait p0 p1 σ = some (r, σ9)) : rb_Con rb_vM yX12_plait cX12_plait 3 (some .int) 4 (fun w => [.ref (rb_ad w 0), .int p0, .int p1]) σ (fun _ => (some (.int r))) σ9 := rb_Con.of (by decide +kernel) (fun _ => Nat.le_of_ble_eq_true rfl) (fun z w hC => xk_M_plait hC p0 p1 σ r σ9 h)
theorem fr_X12_292_11 : rb_FR RX12 292 11 35 := ⟨RX12, TX12, 50, "RibbonPoleModel", rfl, rb_uX12, by decide, rb_in (by decide +kernel) (by decide +kernel), Or.inl rfl⟩
theorem fr_X12_78_11 : rb_FR RX12 78 11 34 := ⟨RX12, TX12, 50, "RibbonPoleModel", rfl, rb_uX12, by decide, rb_in (by decide +kernel) (by decide +kernel), Or.inl rfl⟩
theorem ft_11_35 : rb_Ty 11 35 .int := ⟨RX12, TX12, 50, tyX12, rfl, tyX12_ok, nmX12, rfl, by decide +kernel⟩
def xl_M_keep_54  : Nat → Int32 → rb_St → Option (rb_St)
  | 0, _, _ => none
  | n + 1, x1, σ => if 398 ≤ x1 then some σ else if rb_ib x1 398 then if rb_ib ((398 * (σ.1 0 35)) + x1) 15920 then rb_lt (rb_sI σ 22 ((398 * (σ.1 0 35)) + x1).toNatClampNeg (σ.1 17 x1.toNatClampNeg)) (fun s5 => xl_M_keep_54 n (x1 + 1) s5) else none else none
set_option maxHeartbeats 4000000 in
set_option maxRecDepth 100000 in
theorem xt_M_keep_54 {z : rb_Z} {w : rb_Wd} {Q : State → Prop} (hC : rb_Cx z rb_vM w RX12 cX12_keep 2 none 0)  : ∀ (n : Nat) (x1 : Int32) (σ : rb_St) (σ9 : rb_St), xl_M_keep_54 n x1 σ = some σ9 → rb_At z rb_vM w 2 Q 88 [(0, .ref (rb_ad w 0))] [] σ9 → rb_At z rb_vM w 2 Q 54 [(0, .ref (rb_ad w 0)), (1, .int x1)] [] σ := by
  intro n
  induction n with
  | zero =>
    intro x1 σ σ9 h hE0
    cases h
  | succ n ih =>
    intro x1 σ σ9 h hE0
    rw [xl_M_keep_54] at h
    refine rb_iload_n hC 1 dX12_keep_54 rfl ?_
    refine rb_sipush (x := 398) hC dX12_keep_55 (by decide) ?_
    refine rb_icmp_ge hC 88 dX12_keep_58 (by decide) (fun c2 => ?_) (fun c2 => ?_)
    · replace h := rb_ifp c2 h
      cases h
      exact rb_sub [0] rfl (hE0)
    · replace h := rb_ifn c2 h
      refine rb_aload_n hC 0 dX12_keep_61 rfl ?_
      refine rb_getR hC fr_X12_78_11 rb_obM0 rfl dX12_keep_62 ?_
      refine rb_sipush (x := 398) hC dX12_keep_65 (by decide) ?_
      refine rb_aload_n hC 0 dX12_keep_68 rfl ?_
      refine rb_getI hC fr_X12_292_11 rb_obM0 rfl dX12_keep_69 ?_
      refine rb_imul hC dX12_keep_72 ?_
      refine rb_iload_n hC 1 dX12_keep_73 rfl ?_
      refine rb_iadd hC dX12_keep_74 ?_
      refine rb_aload_n hC 0 dX12_keep_75 rfl ?_
      refine rb_getR hC fr_X12_58_11 rb_obM0 rfl dX12_keep_76 ?_
      refine rb_iload_n hC 1 dX12_keep_79 rfl ?_
      obtain ⟨g3, h⟩ := rb_gd h
      refine rb_iald hC rb_arM17 (rb_ibI g3) dX12_keep_80 ?_
      obtain ⟨g4, h⟩ := rb_gd h
      refine rb_iast hC rb_arM22 (rb_ibI g4) dX12_keep_81 ?_
      obtain ⟨s5, e6, h⟩ := rb_ltE h
      refine rb_nmS e6 ?_
      refine rb_iinc hC 1 [(1, .int (x1 + 1)), (0, .ref (rb_ad w 0))] dX12_keep_82 rfl rfl (by decide) rfl ?_
      refine rb_goto hC 54 dX12_keep_85 (by decide) ?_
      exact rb_sub [1, 0] rfl (ih (x1 + 1) s5 _ h hE0)
def xl_M_keep_13  : Nat → Int32 → rb_St → Option (rb_St)
  | 0, _, _ => none
  | n + 1, x1, σ => if 15920 ≤ x1 then some σ else if rb_ib x1 15920 then if rb_ib (x1 - 398) 15920 then rb_lt (rb_sI σ 22 (x1 - 398).toNatClampNeg (σ.1 22 x1.toNatClampNeg)) (fun s14 => xl_M_keep_13 n (x1 + 1) s14) else none else none
set_option maxHeartbeats 4000000 in
set_option maxRecDepth 100000 in
theorem xt_M_keep_13 {z : rb_Z} {w : rb_Wd} {Q : State → Prop} (hC : rb_Cx z rb_vM w RX12 cX12_keep 2 none 0)  : ∀ (n : Nat) (x1 : Int32) (σ : rb_St) (σ9 : rb_St), xl_M_keep_13 n x1 σ = some σ9 → rb_At z rb_vM w 2 Q 42 [(0, .ref (rb_ad w 0))] [] σ9 → rb_At z rb_vM w 2 Q 13 [(0, .ref (rb_ad w 0)), (1, .int x1)] [] σ := by
  intro n
  induction n with
  | zero =>
    intro x1 σ σ9 h hE0
    cases h
  | succ n ih =>
    intro x1 σ σ9 h hE0
    rw [xl_M_keep_13] at h
    refine rb_iload_n hC 1 dX12_keep_13 rfl ?_
    refine rb_sipush (x := 15920) hC dX12_keep_14 (by decide) ?_
    refine rb_icmp_ge hC 42 dX12_keep_17 (by decide) (fun c11 => ?_) (fun c11 => ?_)
    · replace h := rb_ifp c11 h
      cases h
      exact rb_sub [0] rfl (hE0)
    · replace h := rb_ifn c11 h
      refine rb_aload_n hC 0 dX12_keep_20 rfl ?_
      refine rb_getR hC fr_X12_78_11 rb_obM0 rfl dX12_keep_21 ?_
      refine rb_iload_n hC 1 dX12_keep_24 rfl ?_
      refine rb_sipush (x := 398) hC dX12_keep_25 (by decide) ?_
      refine rb_isub hC dX12_keep_28 ?_
      refine rb_aload_n hC 0 dX12_keep_29 rfl ?_
      refine rb_getR hC fr_X12_78_11 rb_obM0 rfl dX12_keep_30 ?_
      refine rb_iload_n hC 1 dX12_keep_33 rfl ?_
      obtain ⟨g12, h⟩ := rb_gd h
      refine rb_iald hC rb_arM22 (rb_ibI g12) dX12_keep_34 ?_
      obtain ⟨g13, h⟩ := rb_gd h
      refine rb_iast hC rb_arM22 (rb_ibI g13) dX12_keep_35 ?_
      obtain ⟨s14, e15, h⟩ := rb_ltE h
      refine rb_nmS e15 ?_
      refine rb_iinc hC 1 [(1, .int (x1 + 1)), (0, .ref (rb_ad w 0))] dX12_keep_36 rfl rfl (by decide) rfl ?_
      refine rb_goto hC 13 dX12_keep_39 (by decide) ?_
      exact rb_sub [1, 0] rfl (ih (x1 + 1) s14 _ h hE0)
def xf_M_keep  (σ : rb_St) : Option (rb_St) := if (σ.1 0 35) = 40 then rb_b1 (xl_M_keep_13 rb_FU 398 σ) fun s16 => rb_lt (rb_sI s16 0 35 ((s16.1 0 35) - 1)) (fun s18 => rb_b1 (xl_M_keep_54 rb_FU 0 s18) fun s20 => rb_lt (rb_sI s20 0 35 ((s20.1 0 35) + 1)) (fun s22 => some s22)) else rb_b1 (xl_M_keep_54 rb_FU 0 σ) fun s7 => rb_lt (rb_sI s7 0 35 ((s7.1 0 35) + 1)) (fun s9 => some s9)
set_option maxHeartbeats 4000000 in
set_option maxRecDepth 100000 in
theorem xk_M_keep {z : rb_Z} {w : rb_Wd} (hC : rb_Cx z rb_vM w RX12 cX12_keep 2 none 0)  (σ : rb_St) (σ9 : rb_St) (h : xf_M_keep σ = some σ9) : rb_At z rb_vM w 2 (rb_Q z rb_vM w none σ9) 0 [(0, .ref (rb_ad w 0))] [] σ := by
  unfold xf_M_keep at h
  refine rb_aload_n hC 0 dX12_keep_0 rfl ?_
  refine rb_getI hC fr_X12_292_11 rb_obM0 rfl dX12_keep_1 ?_
  refine rb_bipush (x := 40) hC dX12_keep_4 (by decide) ?_
  refine rb_icmp_ne hC 52 dX12_keep_6 (by decide) (fun c1 => ?_) (fun c1 => ?_)
  · replace h := rb_ifn c1 h
    refine rb_iconst (x := 0) hC dX12_keep_52 (by decide) ?_
    refine rb_istore_n hC [(1, .int 0), (0, .ref (rb_ad w 0))] dX12_keep_53 (by decide) rfl ?_
    obtain ⟨s7, q8, h⟩ := rb_b1s h
    refine rb_sub (lv2 := [(0, .ref (rb_ad w 0)), (1, .int 0)]) [1, 0] rfl ?_
    refine xt_M_keep_54 hC  rb_FU 0 σ _ q8 ?_
    refine rb_aload_n hC 0 dX12_keep_88 rfl ?_
    refine rb_dup hC dX12_keep_89 rfl ?_
    refine rb_getI hC fr_X12_292_11 rb_obM0 rfl dX12_keep_90 ?_
    refine rb_iconst (x := 1) hC dX12_keep_93 (by decide) ?_
    refine rb_iadd hC dX12_keep_94 ?_
    refine rb_putI hC fr_X12_292_11 ft_11_35 rb_obM0 rfl rfl rfl dX12_keep_95 ?_
    obtain ⟨s9, e10, h⟩ := rb_ltE h
    refine rb_nmS e10 ?_
    cases h
    exact rb_vret hC dX12_keep_98
  · replace h := rb_ifp c1 h
    refine rb_sipush (x := 398) hC dX12_keep_9 (by decide) ?_
    refine rb_istore_n hC [(1, .int 398), (0, .ref (rb_ad w 0))] dX12_keep_12 (by decide) rfl ?_
    obtain ⟨s16, q17, h⟩ := rb_b1s h
    refine rb_sub (lv2 := [(0, .ref (rb_ad w 0)), (1, .int 398)]) [1, 0] rfl ?_
    refine xt_M_keep_13 hC  rb_FU 398 σ _ q17 ?_
    refine rb_aload_n hC 0 dX12_keep_42 rfl ?_
    refine rb_dup hC dX12_keep_43 rfl ?_
    refine rb_getI hC fr_X12_292_11 rb_obM0 rfl dX12_keep_44 ?_
    refine rb_iconst (x := 1) hC dX12_keep_47 (by decide) ?_
    refine rb_isub hC dX12_keep_48 ?_
    refine rb_putI hC fr_X12_292_11 ft_11_35 rb_obM0 rfl rfl rfl dX12_keep_49 ?_
    obtain ⟨s18, e19, h⟩ := rb_ltE h
    refine rb_nmS e19 ?_
    refine rb_iconst (x := 0) hC dX12_keep_52 (by decide) ?_
    refine rb_istore_n hC [(1, .int 0), (0, .ref (rb_ad w 0))] dX12_keep_53 (by decide) rfl ?_
    obtain ⟨s20, q21, h⟩ := rb_b1s h
    refine rb_sub (lv2 := [(0, .ref (rb_ad w 0)), (1, .int 0)]) [1, 0] rfl ?_
    refine xt_M_keep_54 hC  rb_FU 0 s18 _ q21 ?_
    refine rb_aload_n hC 0 dX12_keep_88 rfl ?_
    refine rb_dup hC dX12_keep_89 rfl ?_
    refine rb_getI hC fr_X12_292_11 rb_obM0 rfl dX12_keep_90 ?_
    refine rb_iconst (x := 1) hC dX12_keep_93 (by decide) ?_
    refine rb_iadd hC dX12_keep_94 ?_
    refine rb_putI hC fr_X12_292_11 ft_11_35 rb_obM0 rfl rfl rfl dX12_keep_95 ?_
    obtain ⟨s22, e23, h⟩ := rb_ltE h
    refine rb_nmS e23 ?_
    cases h
    exact rb_vret hC dX12_keep_98
theorem xc_M_keep  (σ : rb_St) (σ9 : rb_St) (h : xf_M_keep σ = some σ9) : rb_Con rb_vM yX12_keep cX12_keep 2 none 0 (fun w => [.ref (rb_ad w 0)]) σ (fun _ => none) σ9 := rb_Con.of (by decide +kernel) (fun _ => Nat.le_of_ble_eq_true rfl) (fun z w hC => xk_M_keep hC  σ σ9 h)
theorem fr_X12_61_11 : rb_FR RX12 61 11 28 := ⟨RX12, TX12, 50, "RibbonPoleModel", rfl, rb_uX12, by decide, rb_in (by decide +kernel) (by decide +kernel), Or.inl rfl⟩
def xf_M_isRefused (p0 : Int32) (σ : rb_St) : Option (Int32 × rb_St) := if p0 = (-1) then if p0 = (-1) then some (0, σ) else some (1, σ) else if rb_ib p0 5 then rb_lt (rb_sI σ 18 p0.toNatClampNeg ((σ.1 18 p0.toNatClampNeg) + 1)) (fun s4 => if p0 = (-1) then some (0, s4) else some (1, s4)) else none
set_option maxHeartbeats 4000000 in
set_option maxRecDepth 100000 in
theorem xk_M_isRefused {z : rb_Z} {w : rb_Wd} (hC : rb_Cx z rb_vM w RX12 cX12_isRefused 2 (some .boolean) 0) (p0 : Int32) (σ : rb_St) (r : Int32) (σ9 : rb_St) (h : xf_M_isRefused p0 σ = some (r, σ9)) : rb_At z rb_vM w 2 (rb_Q z rb_vM w (some (.int r)) σ9) 0 [(0, .ref (rb_ad w 0)), (1, .int p0)] [] σ := by
  unfold xf_M_isRefused at h
  refine rb_iload_n hC 1 dX12_isRefused_0 rfl ?_
  refine rb_iconst (x := (-1)) hC dX12_isRefused_1 (by decide) ?_
  refine rb_icmp_eq hC 15 dX12_isRefused_2 (by decide) (fun c1 => ?_) (fun c1 => ?_)
  · replace h := rb_ifp c1 h
    refine rb_iload_n hC 1 dX12_isRefused_15 rfl ?_
    refine rb_iconst (x := (-1)) hC dX12_isRefused_16 (by decide) ?_
    refine rb_icmp_eq hC 24 dX12_isRefused_17 (by decide) (fun c2 => ?_) (fun c2 => ?_)
    · replace h := rb_ifp c2 h
      refine rb_iconst (x := 0) hC dX12_isRefused_24 (by decide) ?_
      cases h
      exact rb_zret hC rfl dX12_isRefused_25
    · replace h := rb_ifn c2 h
      refine rb_iconst (x := 1) hC dX12_isRefused_20 (by decide) ?_
      refine rb_goto hC 25 dX12_isRefused_21 (by decide) ?_
      cases h
      exact rb_zret hC rfl dX12_isRefused_25
  · replace h := rb_ifn c1 h
    refine rb_aload_n hC 0 dX12_isRefused_5 rfl ?_
    refine rb_getR hC fr_X12_61_11 rb_obM0 rfl dX12_isRefused_6 ?_
    refine rb_iload_n hC 1 dX12_isRefused_9 rfl ?_
    refine rb_dup2_11 hC dX12_isRefused_10 rfl rfl ?_
    obtain ⟨g3, h⟩ := rb_gd h
    refine rb_iald hC rb_arM18 (rb_ibI g3) dX12_isRefused_11 ?_
    refine rb_iconst (x := 1) hC dX12_isRefused_12 (by decide) ?_
    refine rb_iadd hC dX12_isRefused_13 ?_
    refine rb_iast hC rb_arM18 (rb_ibI g3) dX12_isRefused_14 ?_
    obtain ⟨s4, e5, h⟩ := rb_ltE h
    refine rb_nmS e5 ?_
    refine rb_iload_n hC 1 dX12_isRefused_15 rfl ?_
    refine rb_iconst (x := (-1)) hC dX12_isRefused_16 (by decide) ?_
    refine rb_icmp_eq hC 24 dX12_isRefused_17 (by decide) (fun c6 => ?_) (fun c6 => ?_)
    · replace h := rb_ifp c6 h
      refine rb_iconst (x := 0) hC dX12_isRefused_24 (by decide) ?_
      cases h
      exact rb_zret hC rfl dX12_isRefused_25
    · replace h := rb_ifn c6 h
      refine rb_iconst (x := 1) hC dX12_isRefused_20 (by decide) ?_
      refine rb_goto hC 25 dX12_isRefused_21 (by decide) ?_
      cases h
      exact rb_zret hC rfl dX12_isRefused_25
theorem xc_M_isRefused (p0 : Int32) (σ : rb_St) (r : Int32) (σ9 : rb_St) (h : xf_M_isRefused p0 σ = some (r, σ9)) : rb_Con rb_vM yX12_isRefused cX12_isRefused 2 (some .boolean) 0 (fun w => [.ref (rb_ad w 0), .int p0]) σ (fun _ => (some (.int r))) σ9 := rb_Con.of (by decide +kernel) (fun _ => Nat.le_of_ble_eq_true rfl) (fun z w hC => xk_M_isRefused hC p0 σ r σ9 h)
theorem me_X12_isOver : Cond.instanceMethod yX12_isOver ∈ rb_tbl ∧ Cond.selects yX12_isOver.cls yX12_isOver yX12_isOver ∈ rb_tbl ∧ Cond.initialized yX12_isOver.cls ∈ rb_tbl ∧ Cond.code yX12_isOver cX12_isOver 1 (some .boolean) ∈ rb_tbl ∧ rb_pn yX12_isOver 0 := ⟨rb_in (by decide +kernel) (by decide +kernel), rb_in (by decide +kernel) (by decide +kernel), rb_in (by decide +kernel) (by decide +kernel), rb_in (by decide +kernel) (by decide +kernel), by decide +kernel, by decide +kernel, by decide +kernel⟩
theorem mv_X12_394 : rb_MV RX12 394 yX12_isOver cX12_isOver 1 (some .boolean) 0 := ⟨rb_in (by decide +kernel) (by decide +kernel), me_X12_isOver⟩
theorem me_X12_isRefused : Cond.instanceMethod yX12_isRefused ∈ rb_tbl ∧ Cond.selects yX12_isRefused.cls yX12_isRefused yX12_isRefused ∈ rb_tbl ∧ Cond.initialized yX12_isRefused.cls ∈ rb_tbl ∧ Cond.code yX12_isRefused cX12_isRefused 2 (some .boolean) ∈ rb_tbl ∧ rb_pn yX12_isRefused 1 := ⟨rb_in (by decide +kernel) (by decide +kernel), rb_in (by decide +kernel) (by decide +kernel), rb_in (by decide +kernel) (by decide +kernel), rb_in (by decide +kernel) (by decide +kernel), by decide +kernel, by decide +kernel, by decide +kernel⟩
theorem mv_X12_398 : rb_MV RX12 398 yX12_isRefused cX12_isRefused 2 (some .boolean) 1 := ⟨rb_in (by decide +kernel) (by decide +kernel), me_X12_isRefused⟩
theorem me_X12_keep : Cond.instanceMethod yX12_keep ∈ rb_tbl ∧ Cond.selects yX12_keep.cls yX12_keep yX12_keep ∈ rb_tbl ∧ Cond.initialized yX12_keep.cls ∈ rb_tbl ∧ Cond.code yX12_keep cX12_keep 2 none ∈ rb_tbl ∧ rb_pn yX12_keep 0 := ⟨rb_in (by decide +kernel) (by decide +kernel), rb_in (by decide +kernel) (by decide +kernel), rb_in (by decide +kernel) (by decide +kernel), rb_in (by decide +kernel) (by decide +kernel), by decide +kernel, by decide +kernel, by decide +kernel⟩
theorem mv_X12_401 : rb_MV RX12 401 yX12_keep cX12_keep 2 none 0 := ⟨rb_in (by decide +kernel) (by decide +kernel), me_X12_keep⟩
theorem me_X12_passBeat : Cond.instanceMethod yX12_passBeat ∈ rb_tbl ∧ Cond.selects yX12_passBeat.cls yX12_passBeat yX12_passBeat ∈ rb_tbl ∧ Cond.initialized yX12_passBeat.cls ∈ rb_tbl ∧ Cond.code yX12_passBeat cX12_passBeat 4 (some .int) ∈ rb_tbl ∧ rb_pn yX12_passBeat 1 := ⟨rb_in (by decide +kernel) (by decide +kernel), rb_in (by decide +kernel) (by decide +kernel), rb_in (by decide +kernel) (by decide +kernel), rb_in (by decide +kernel) (by decide +kernel), by decide +kernel, by decide +kernel, by decide +kernel⟩
theorem mv_X12_404 : rb_MV RX12 404 yX12_passBeat cX12_passBeat 4 (some .int) 1 := ⟨rb_in (by decide +kernel) (by decide +kernel), me_X12_passBeat⟩
def xj_M_cross_12 (x1 : Int32) (u0 : Int32) (u1 : Int32) (σ : rb_St) : Option (Int32 × rb_St) := if (σ.1 0 22) = 0 then rb_b2 (xf_M_isRefused 0 σ) fun r61 s59 => if r61 = 0 then rb_b1 (xf_M_keep s59) fun s63 => rb_b2 (xf_M_passBeat (u1 + u0) s63) fun r67 s65 => some (r67, s65) else some ((-1), s59) else rb_b1 (xf_M_isDancer x1 σ) fun r3 => if r3 = 0 then rb_b2 (xf_M_isRefused 1 σ) fun r52 s50 => if r52 = 0 then rb_b1 (xf_M_keep s50) fun s54 => rb_b2 (xf_M_passBeat (u1 + u0) s54) fun r58 s56 => some (r58, s56) else some ((-1), s50) else rb_b2 (xf_M_isShort (u1 + u0) σ) fun r8 s6 => if r8 = 0 then rb_b1 (xf_M_isFull (u1 + u0) s6) fun r10 => if r10 = 0 then if (xf_M_isOver s6) = 0 then rb_b2 (xf_M_isRefused (-1) s6) fun r16 s14 => if r16 = 0 then rb_b1 (xf_M_keep s14) fun s18 => rb_b2 (xf_M_passBeat (u1 + u0) s18) fun r22 s20 => some (r22, s20) else some ((-1), s14) else rb_b2 (xf_M_isRefused 4 s6) fun r25 s23 => if r25 = 0 then rb_b1 (xf_M_keep s23) fun s27 => rb_b2 (xf_M_passBeat (u1 + u0) s27) fun r31 s29 => some (r31, s29) else some ((-1), s23) else rb_b2 (xf_M_isRefused 3 s6) fun r34 s32 => if r34 = 0 then rb_b1 (xf_M_keep s32) fun s36 => rb_b2 (xf_M_passBeat (u1 + u0) s36) fun r40 s38 => some (r40, s38) else some ((-1), s32) else rb_b2 (xf_M_isRefused 2 s6) fun r43 s41 => if r43 = 0 then rb_b1 (xf_M_keep s41) fun s45 => rb_b2 (xf_M_passBeat (u1 + u0) s45) fun r49 s47 => some (r49, s47) else some ((-1), s41)
set_option maxHeartbeats 4000000 in
set_option maxRecDepth 100000 in
theorem xu_M_cross_12 {z : rb_Z} {w : rb_Wd} (hC : rb_Cx z rb_vM w RX12 cX12_cross 4 (some .int) 9) (x1 : Int32) (u0 : Int32) (u1 : Int32) (σ : rb_St) (r : Int32) (σ9 : rb_St) (h : xj_M_cross_12 x1 u0 u1 σ = some (r, σ9)) : rb_At z rb_vM w 4 (rb_Q z rb_vM w (some (.int r)) σ9) 12 [(0, .ref (rb_ad w 0)), (1, .int x1)] [.int u0, .int u1] σ := by
  unfold xj_M_cross_12 at h
  refine rb_iadd hC dX12_cross_12 ?_
  refine rb_istore_n hC [(3, .int (u1 + u0)), (0, .ref (rb_ad w 0)), (1, .int x1)] dX12_cross_13 (by decide) rfl ?_
  refine rb_aload_n hC 1 dX12_cross_14 rfl ?_
  refine rb_aload_n hC 1 dX12_cross_15 rfl ?_
  refine rb_getI hC fr_X12_283_11 rb_obM0 rfl dX12_cross_16 ?_
  refine rb_if_ne hC 26 dX12_cross_19 (by decide) (fun c2 => ?_) (fun c2 => ?_)
  · replace h := rb_ifn c2 h
    refine rb_aload_n hC 1 dX12_cross_26 rfl ?_
    refine rb_iload_n hC 2 dX12_cross_27 rfl ?_
    obtain ⟨r3, q4, h⟩ := rb_b1s h
    refine rb_callVi hC rb_VokM mv_X12_373 (xc_M_isDancer x1 σ _ q4) rb_obM0 rfl [.int x1] rfl rfl rfl ⟨Nat.le_of_ble_eq_true rfl, Nat.le_of_ble_eq_true rfl⟩ (Nat.le_of_ble_eq_true rfl) dX12_cross_28 ?_
    refine rb_if_ne hC 38 dX12_cross_31 (by decide) (fun c5 => ?_) (fun c5 => ?_)
    · replace h := rb_ifn c5 h
      refine rb_aload_n hC 1 dX12_cross_38 rfl ?_
      refine rb_iload_n hC 0 dX12_cross_39 rfl ?_
      obtain ⟨r8, s6, q7, h⟩ := rb_b2s h
      refine rb_callVi hC rb_VokM mv_X12_346 (xc_M_isShort (u1 + u0) σ _ _ q7) rb_obM0 rfl [.int (u1 + u0)] rfl rfl rfl ⟨Nat.le_of_ble_eq_true rfl, Nat.le_of_ble_eq_true rfl⟩ (Nat.le_of_ble_eq_true rfl) dX12_cross_40 ?_
      refine rb_if_eq hC 50 dX12_cross_43 (by decide) (fun c9 => ?_) (fun c9 => ?_)
      · replace h := rb_ifp c9 h
        refine rb_aload_n hC 1 dX12_cross_50 rfl ?_
        refine rb_iload_n hC 0 dX12_cross_51 rfl ?_
        obtain ⟨r10, q11, h⟩ := rb_b1s h
        refine rb_callVi hC rb_VokM mv_X12_349 (xc_M_isFull (u1 + u0) s6 _ q11) rb_obM0 rfl [.int (u1 + u0)] rfl rfl rfl ⟨Nat.le_of_ble_eq_true rfl, Nat.le_of_ble_eq_true rfl⟩ (Nat.le_of_ble_eq_true rfl) dX12_cross_52 ?_
        refine rb_if_eq hC 62 dX12_cross_55 (by decide) (fun c12 => ?_) (fun c12 => ?_)
        · replace h := rb_ifp c12 h
          refine rb_aload_n hC 1 dX12_cross_62 rfl ?_
          refine rb_callVi hC rb_VokM mv_X12_394 (xc_M_isOver  s6 _ rfl) rb_obM0 rfl [] rfl rfl rfl ⟨Nat.le_of_ble_eq_true rfl, Nat.le_of_ble_eq_true rfl⟩ (Nat.le_of_ble_eq_true rfl) dX12_cross_63 ?_
          refine rb_if_eq hC 73 dX12_cross_66 (by decide) (fun c13 => ?_) (fun c13 => ?_)
          · replace h := rb_ifp c13 h
            refine rb_iconst (x := (-1)) hC dX12_cross_73 (by decide) ?_
            obtain ⟨r16, s14, q15, h⟩ := rb_b2s h
            refine rb_callVi hC rb_VokM mv_X12_398 (xc_M_isRefused (-1) s6 _ _ q15) rb_obM0 rfl [.int (-1)] rfl rfl rfl ⟨Nat.le_of_ble_eq_true rfl, Nat.le_of_ble_eq_true rfl⟩ (Nat.le_of_ble_eq_true rfl) dX12_cross_74 ?_
            refine rb_if_eq hC 82 dX12_cross_77 (by decide) (fun c17 => ?_) (fun c17 => ?_)
            · replace h := rb_ifp c17 h
              refine rb_aload_n hC 1 dX12_cross_82 rfl ?_
              obtain ⟨s18, q19, h⟩ := rb_b1s h
              refine rb_callVv hC rb_VokM mv_X12_401 (xc_M_keep  s14 _ q19) rb_obM0 rfl [] rfl rfl rfl ⟨Nat.le_of_ble_eq_true rfl, Nat.le_of_ble_eq_true rfl⟩ (Nat.le_of_ble_eq_true rfl) dX12_cross_83 ?_
              refine rb_aload_n hC 1 dX12_cross_86 rfl ?_
              refine rb_iload_n hC 0 dX12_cross_87 rfl ?_
              obtain ⟨r22, s20, q21, h⟩ := rb_b2s h
              refine rb_callVi hC rb_VokM mv_X12_404 (xc_M_passBeat (u1 + u0) s18 _ _ q21) rb_obM0 rfl [.int (u1 + u0)] rfl rfl rfl ⟨Nat.le_of_ble_eq_true rfl, Nat.le_of_ble_eq_true rfl⟩ (Nat.le_of_ble_eq_true rfl) dX12_cross_88 ?_
              cases h
              exact rb_iret hC dX12_cross_91
            · replace h := rb_ifn c17 h
              refine rb_iconst (x := (-1)) hC dX12_cross_80 (by decide) ?_
              cases h
              exact rb_iret hC dX12_cross_81
          · replace h := rb_ifn c13 h
            refine rb_iconst (x := 4) hC dX12_cross_69 (by decide) ?_
            refine rb_goto hC 74 dX12_cross_70 (by decide) ?_
            obtain ⟨r25, s23, q24, h⟩ := rb_b2s h
            refine rb_callVi hC rb_VokM mv_X12_398 (xc_M_isRefused 4 s6 _ _ q24) rb_obM0 rfl [.int 4] rfl rfl rfl ⟨Nat.le_of_ble_eq_true rfl, Nat.le_of_ble_eq_true rfl⟩ (Nat.le_of_ble_eq_true rfl) dX12_cross_74 ?_
            refine rb_if_eq hC 82 dX12_cross_77 (by decide) (fun c26 => ?_) (fun c26 => ?_)
            · replace h := rb_ifp c26 h
              refine rb_aload_n hC 1 dX12_cross_82 rfl ?_
              obtain ⟨s27, q28, h⟩ := rb_b1s h
              refine rb_callVv hC rb_VokM mv_X12_401 (xc_M_keep  s23 _ q28) rb_obM0 rfl [] rfl rfl rfl ⟨Nat.le_of_ble_eq_true rfl, Nat.le_of_ble_eq_true rfl⟩ (Nat.le_of_ble_eq_true rfl) dX12_cross_83 ?_
              refine rb_aload_n hC 1 dX12_cross_86 rfl ?_
              refine rb_iload_n hC 0 dX12_cross_87 rfl ?_
              obtain ⟨r31, s29, q30, h⟩ := rb_b2s h
              refine rb_callVi hC rb_VokM mv_X12_404 (xc_M_passBeat (u1 + u0) s27 _ _ q30) rb_obM0 rfl [.int (u1 + u0)] rfl rfl rfl ⟨Nat.le_of_ble_eq_true rfl, Nat.le_of_ble_eq_true rfl⟩ (Nat.le_of_ble_eq_true rfl) dX12_cross_88 ?_
              cases h
              exact rb_iret hC dX12_cross_91
            · replace h := rb_ifn c26 h
              refine rb_iconst (x := (-1)) hC dX12_cross_80 (by decide) ?_
              cases h
              exact rb_iret hC dX12_cross_81
        · replace h := rb_ifn c12 h
          refine rb_iconst (x := 3) hC dX12_cross_58 (by decide) ?_
          refine rb_goto hC 74 dX12_cross_59 (by decide) ?_
          obtain ⟨r34, s32, q33, h⟩ := rb_b2s h
          refine rb_callVi hC rb_VokM mv_X12_398 (xc_M_isRefused 3 s6 _ _ q33) rb_obM0 rfl [.int 3] rfl rfl rfl ⟨Nat.le_of_ble_eq_true rfl, Nat.le_of_ble_eq_true rfl⟩ (Nat.le_of_ble_eq_true rfl) dX12_cross_74 ?_
          refine rb_if_eq hC 82 dX12_cross_77 (by decide) (fun c35 => ?_) (fun c35 => ?_)
          · replace h := rb_ifp c35 h
            refine rb_aload_n hC 1 dX12_cross_82 rfl ?_
            obtain ⟨s36, q37, h⟩ := rb_b1s h
            refine rb_callVv hC rb_VokM mv_X12_401 (xc_M_keep  s32 _ q37) rb_obM0 rfl [] rfl rfl rfl ⟨Nat.le_of_ble_eq_true rfl, Nat.le_of_ble_eq_true rfl⟩ (Nat.le_of_ble_eq_true rfl) dX12_cross_83 ?_
            refine rb_aload_n hC 1 dX12_cross_86 rfl ?_
            refine rb_iload_n hC 0 dX12_cross_87 rfl ?_
            obtain ⟨r40, s38, q39, h⟩ := rb_b2s h
            refine rb_callVi hC rb_VokM mv_X12_404 (xc_M_passBeat (u1 + u0) s36 _ _ q39) rb_obM0 rfl [.int (u1 + u0)] rfl rfl rfl ⟨Nat.le_of_ble_eq_true rfl, Nat.le_of_ble_eq_true rfl⟩ (Nat.le_of_ble_eq_true rfl) dX12_cross_88 ?_
            cases h
            exact rb_iret hC dX12_cross_91
          · replace h := rb_ifn c35 h
            refine rb_iconst (x := (-1)) hC dX12_cross_80 (by decide) ?_
            cases h
            exact rb_iret hC dX12_cross_81
      · replace h := rb_ifn c9 h
        refine rb_iconst (x := 2) hC dX12_cross_46 (by decide) ?_
        refine rb_goto hC 74 dX12_cross_47 (by decide) ?_
        obtain ⟨r43, s41, q42, h⟩ := rb_b2s h
        refine rb_callVi hC rb_VokM mv_X12_398 (xc_M_isRefused 2 s6 _ _ q42) rb_obM0 rfl [.int 2] rfl rfl rfl ⟨Nat.le_of_ble_eq_true rfl, Nat.le_of_ble_eq_true rfl⟩ (Nat.le_of_ble_eq_true rfl) dX12_cross_74 ?_
        refine rb_if_eq hC 82 dX12_cross_77 (by decide) (fun c44 => ?_) (fun c44 => ?_)
        · replace h := rb_ifp c44 h
          refine rb_aload_n hC 1 dX12_cross_82 rfl ?_
          obtain ⟨s45, q46, h⟩ := rb_b1s h
          refine rb_callVv hC rb_VokM mv_X12_401 (xc_M_keep  s41 _ q46) rb_obM0 rfl [] rfl rfl rfl ⟨Nat.le_of_ble_eq_true rfl, Nat.le_of_ble_eq_true rfl⟩ (Nat.le_of_ble_eq_true rfl) dX12_cross_83 ?_
          refine rb_aload_n hC 1 dX12_cross_86 rfl ?_
          refine rb_iload_n hC 0 dX12_cross_87 rfl ?_
          obtain ⟨r49, s47, q48, h⟩ := rb_b2s h
          refine rb_callVi hC rb_VokM mv_X12_404 (xc_M_passBeat (u1 + u0) s45 _ _ q48) rb_obM0 rfl [.int (u1 + u0)] rfl rfl rfl ⟨Nat.le_of_ble_eq_true rfl, Nat.le_of_ble_eq_true rfl⟩ (Nat.le_of_ble_eq_true rfl) dX12_cross_88 ?_
          cases h
          exact rb_iret hC dX12_cross_91
        · replace h := rb_ifn c44 h
          refine rb_iconst (x := (-1)) hC dX12_cross_80 (by decide) ?_
          cases h
          exact rb_iret hC dX12_cross_81
    · replace h := rb_ifp c5 h
      refine rb_iconst (x := 1) hC dX12_cross_34 (by decide) ?_
      refine rb_goto hC 74 dX12_cross_35 (by decide) ?_
      obtain ⟨r52, s50, q51, h⟩ := rb_b2s h
      refine rb_callVi hC rb_VokM mv_X12_398 (xc_M_isRefused 1 σ _ _ q51) rb_obM0 rfl [.int 1] rfl rfl rfl ⟨Nat.le_of_ble_eq_true rfl, Nat.le_of_ble_eq_true rfl⟩ (Nat.le_of_ble_eq_true rfl) dX12_cross_74 ?_
      refine rb_if_eq hC 82 dX12_cross_77 (by decide) (fun c53 => ?_) (fun c53 => ?_)
      · replace h := rb_ifp c53 h
        refine rb_aload_n hC 1 dX12_cross_82 rfl ?_
        obtain ⟨s54, q55, h⟩ := rb_b1s h
        refine rb_callVv hC rb_VokM mv_X12_401 (xc_M_keep  s50 _ q55) rb_obM0 rfl [] rfl rfl rfl ⟨Nat.le_of_ble_eq_true rfl, Nat.le_of_ble_eq_true rfl⟩ (Nat.le_of_ble_eq_true rfl) dX12_cross_83 ?_
        refine rb_aload_n hC 1 dX12_cross_86 rfl ?_
        refine rb_iload_n hC 0 dX12_cross_87 rfl ?_
        obtain ⟨r58, s56, q57, h⟩ := rb_b2s h
        refine rb_callVi hC rb_VokM mv_X12_404 (xc_M_passBeat (u1 + u0) s54 _ _ q57) rb_obM0 rfl [.int (u1 + u0)] rfl rfl rfl ⟨Nat.le_of_ble_eq_true rfl, Nat.le_of_ble_eq_true rfl⟩ (Nat.le_of_ble_eq_true rfl) dX12_cross_88 ?_
        cases h
        exact rb_iret hC dX12_cross_91
      · replace h := rb_ifn c53 h
        refine rb_iconst (x := (-1)) hC dX12_cross_80 (by decide) ?_
        cases h
        exact rb_iret hC dX12_cross_81
  · replace h := rb_ifp c2 h
    refine rb_iconst (x := 0) hC dX12_cross_22 (by decide) ?_
    refine rb_goto hC 74 dX12_cross_23 (by decide) ?_
    obtain ⟨r61, s59, q60, h⟩ := rb_b2s h
    refine rb_callVi hC rb_VokM mv_X12_398 (xc_M_isRefused 0 σ _ _ q60) rb_obM0 rfl [.int 0] rfl rfl rfl ⟨Nat.le_of_ble_eq_true rfl, Nat.le_of_ble_eq_true rfl⟩ (Nat.le_of_ble_eq_true rfl) dX12_cross_74 ?_
    refine rb_if_eq hC 82 dX12_cross_77 (by decide) (fun c62 => ?_) (fun c62 => ?_)
    · replace h := rb_ifp c62 h
      refine rb_aload_n hC 1 dX12_cross_82 rfl ?_
      obtain ⟨s63, q64, h⟩ := rb_b1s h
      refine rb_callVv hC rb_VokM mv_X12_401 (xc_M_keep  s59 _ q64) rb_obM0 rfl [] rfl rfl rfl ⟨Nat.le_of_ble_eq_true rfl, Nat.le_of_ble_eq_true rfl⟩ (Nat.le_of_ble_eq_true rfl) dX12_cross_83 ?_
      refine rb_aload_n hC 1 dX12_cross_86 rfl ?_
      refine rb_iload_n hC 0 dX12_cross_87 rfl ?_
      obtain ⟨r67, s65, q66, h⟩ := rb_b2s h
      refine rb_callVi hC rb_VokM mv_X12_404 (xc_M_passBeat (u1 + u0) s63 _ _ q66) rb_obM0 rfl [.int (u1 + u0)] rfl rfl rfl ⟨Nat.le_of_ble_eq_true rfl, Nat.le_of_ble_eq_true rfl⟩ (Nat.le_of_ble_eq_true rfl) dX12_cross_88 ?_
      cases h
      exact rb_iret hC dX12_cross_91
    · replace h := rb_ifn c62 h
      refine rb_iconst (x := (-1)) hC dX12_cross_80 (by decide) ?_
      cases h
      exact rb_iret hC dX12_cross_81
def xf_M_cross (p0 : Int32) (p1 : Int32) (σ : rb_St) : Option (Int32 × rb_St) := if p1 = 0 then xj_M_cross_12 p0 1 (2 * p0) σ else xj_M_cross_12 p0 0 (2 * p0) σ
set_option maxHeartbeats 4000000 in
set_option maxRecDepth 100000 in
theorem xk_M_cross {z : rb_Z} {w : rb_Wd} (hC : rb_Cx z rb_vM w RX12 cX12_cross 4 (some .int) 9) (p0 : Int32) (p1 : Int32) (σ : rb_St) (r : Int32) (σ9 : rb_St) (h : xf_M_cross p0 p1 σ = some (r, σ9)) : rb_At z rb_vM w 4 (rb_Q z rb_vM w (some (.int r)) σ9) 0 [(0, .ref (rb_ad w 0)), (1, .int p0), (2, .int p1)] [] σ := by
  unfold xf_M_cross at h
  refine rb_iconst (x := 2) hC dX12_cross_0 (by decide) ?_
  refine rb_iload_n hC 1 dX12_cross_1 rfl ?_
  refine rb_imul hC dX12_cross_2 ?_
  refine rb_iload_n hC 2 dX12_cross_3 rfl ?_
  refine rb_if_eq hC 11 dX12_cross_4 (by decide) (fun c1 => ?_) (fun c1 => ?_)
  · replace h := rb_ifp c1 h
    refine rb_iconst (x := 1) hC dX12_cross_11 (by decide) ?_
    exact rb_sub [0, 1] rfl (xu_M_cross_12 hC p0 1 (2 * p0) σ _ _ h)
  · replace h := rb_ifn c1 h
    refine rb_iconst (x := 0) hC dX12_cross_7 (by decide) ?_
    refine rb_goto hC 12 dX12_cross_8 (by decide) ?_
    exact rb_sub [0, 1] rfl (xu_M_cross_12 hC p0 0 (2 * p0) σ _ _ h)
theorem xc_M_cross (p0 : Int32) (p1 : Int32) (σ : rb_St) (r : Int32) (σ9 : rb_St) (h : xf_M_cross p0 p1 σ = some (r, σ9)) : rb_Con rb_vM yX12_cross cX12_cross 4 (some .int) 9 (fun w => [.ref (rb_ad w 0), .int p0, .int p1]) σ (fun _ => (some (.int r))) σ9 := rb_Con.of (by decide +kernel) (fun _ => Nat.le_of_ble_eq_true rfl) (fun z w hC => xk_M_cross hC p0 p1 σ r σ9 h)
