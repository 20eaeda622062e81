theorem ft_11_25 : rb_Ty 11 25 .int := ⟨RX12, TX12, 50, tyX12, rfl, tyX12_ok, nmX12, rfl, by decide +kernel⟩
theorem ft_11_13 : rb_Ty 11 13 .int := ⟨RX12, TX12, 50, tyX12, rfl, tyX12_ok, nmX12, rfl, by decide +kernel⟩
theorem me_X12_takeGreen : Cond.instanceMethod yX12_takeGreen ∈ rb_tbl ∧ Cond.selects yX12_takeGreen.cls yX12_takeGreen yX12_takeGreen ∈ rb_tbl ∧ Cond.initialized yX12_takeGreen.cls ∈ rb_tbl ∧ Cond.code yX12_takeGreen cX12_takeGreen 2 (some .int) ∈ rb_tbl ∧ rb_pn yX12_takeGreen 0 := ⟨rb_in (by decide +kernel) (by decide +kernel), rb_in (by decide +kernel) (by decide +kernel), rb_in (by decide +kernel) (by decide +kernel), rb_in (by decide +kernel) (by decide +kernel), by decide +kernel, by decide +kernel, by decide +kernel⟩
theorem mv_X12_299 : rb_MV RX12 299 yX12_takeGreen cX12_takeGreen 2 (some .int) 0 := ⟨rb_in (by decide +kernel) (by decide +kernel), me_X12_takeGreen⟩
def xj_M_text_69 (x1 : Int32) (σ : rb_St) : Option (Int32 × rb_St) := if x1 = 2 then if 6 ≤ (σ.1 0 25) then some ((-1), σ) else rb_b2 (xf_M_readFigure (σ.1 0 25) σ) fun r7 s5 => if r7 = (-1) then rb_lt (rb_sI s5 0 2 0) (fun s9 => rb_lt (rb_sI s9 0 25 ((s9.1 0 25) + 1)) (fun s11 => some ((s11.1 0 25) - 1, s11))) else some ((-1), s5) else some ((-1), σ)
set_option maxHeartbeats 4000000 in
set_option maxRecDepth 100000 in
theorem xu_M_text_69 {z : rb_Z} {w : rb_Wd} (hC : rb_Cx z rb_vM w RX12 cX12_text 2 (some .int) 70) (x1 : Int32) (σ : rb_St) (r : Int32) (σ9 : rb_St) (h : xj_M_text_69 x1 σ = some (r, σ9)) : rb_At z rb_vM w 2 (rb_Q z rb_vM w (some (.int r)) σ9) 69 [(0, .ref (rb_ad w 0)), (1, .int x1)] [] σ := by
  unfold xj_M_text_69 at h
  refine rb_iload_n hC 1 dX12_text_69 rfl ?_
  refine rb_iconst (x := 2) hC dX12_text_70 (by decide) ?_
  refine rb_icmp_ne hC 117 dX12_text_71 (by decide) (fun c3 => ?_) (fun c3 => ?_)
  · replace h := rb_ifn c3 h
    refine rb_iconst (x := (-1)) hC dX12_text_117 (by decide) ?_
    cases h
    exact rb_iret hC dX12_text_118
  · replace h := rb_ifp c3 h
    refine rb_aload_n hC 0 dX12_text_74 rfl ?_
    refine rb_getI hC fr_X12_305_11 rb_obM0 rfl dX12_text_75 ?_
    refine rb_bipush (x := 6) hC dX12_text_78 (by decide) ?_
    refine rb_icmp_ge hC 117 dX12_text_80 (by decide) (fun c4 => ?_) (fun c4 => ?_)
    · replace h := rb_ifp c4 h
      refine rb_iconst (x := (-1)) hC dX12_text_117 (by decide) ?_
      cases h
      exact rb_iret hC dX12_text_118
    · replace h := rb_ifn c4 h
      refine rb_aload_n hC 0 dX12_text_83 rfl ?_
      refine rb_aload_n hC 0 dX12_text_84 rfl ?_
      refine rb_getI hC fr_X12_305_11 rb_obM0 rfl dX12_text_85 ?_
      obtain ⟨r7, s5, q6, h⟩ := rb_b2s h
      refine rb_callVi hC rb_VokM mv_X12_280 (xc_M_readFigure (σ.1 0 25) σ _ _ q6) rb_obM0 rfl [.int (σ.1 0 25)] rfl rfl rfl ⟨Nat.le_of_ble_eq_true rfl, Nat.le_of_ble_eq_true rfl⟩ (Nat.le_of_ble_eq_true rfl) dX12_text_88 ?_
      refine rb_iconst (x := (-1)) hC dX12_text_91 (by decide) ?_
      refine rb_icmp_ne hC 117 dX12_text_92 (by decide) (fun c8 => ?_) (fun c8 => ?_)
      · replace h := rb_ifn c8 h
        refine rb_iconst (x := (-1)) hC dX12_text_117 (by decide) ?_
        cases h
        exact rb_iret hC dX12_text_118
      · replace h := rb_ifp c8 h
        refine rb_aload_n hC 0 dX12_text_95 rfl ?_
        refine rb_iconst (x := 0) hC dX12_text_96 (by decide) ?_
        refine rb_putI hC fr_X12_121_11 ft_11_2 rb_obM0 rfl rfl rfl dX12_text_97 ?_
        obtain ⟨s9, e10, h⟩ := rb_ltE h
        refine rb_nmS e10 ?_
        refine rb_aload_n hC 0 dX12_text_100 rfl ?_
        refine rb_dup hC dX12_text_101 rfl ?_
        refine rb_getI hC fr_X12_305_11 rb_obM0 rfl dX12_text_102 ?_
        refine rb_iconst (x := 1) hC dX12_text_105 (by decide) ?_
        refine rb_iadd hC dX12_text_106 ?_
        refine rb_putI hC fr_X12_305_11 ft_11_25 rb_obM0 rfl rfl rfl dX12_text_107 ?_
        obtain ⟨s11, e12, h⟩ := rb_ltE h
        refine rb_nmS e12 ?_
        refine rb_aload_n hC 0 dX12_text_110 rfl ?_
        refine rb_getI hC fr_X12_305_11 rb_obM0 rfl dX12_text_111 ?_
        refine rb_iconst (x := 1) hC dX12_text_114 (by decide) ?_
        refine rb_isub hC dX12_text_115 ?_
        cases h
        exact rb_iret hC dX12_text_116
def xj_M_text_22 (x1 : Int32) (σ : rb_St) : Option (Int32 × rb_St) := if x1 = 1 then if 4 ≤ (σ.1 0 13) then xj_M_text_69 x1 σ else rb_b2 (xf_M_readLaw (σ.1 0 13) σ) fun r16 s14 => if r16 = (-1) then rb_lt (rb_sI s14 0 2 0) (fun s18 => rb_lt (rb_sI s18 0 13 ((s18.1 0 13) + 1)) (fun s20 => some ((s20.1 0 13) - 1, s20))) else xj_M_text_69 x1 s14 else xj_M_text_69 x1 σ
set_option maxHeartbeats 4000000 in
set_option maxRecDepth 100000 in
theorem xu_M_text_22 {z : rb_Z} {w : rb_Wd} (hC : rb_Cx z rb_vM w RX12 cX12_text 2 (some .int) 70) (x1 : Int32) (σ : rb_St) (r : Int32) (σ9 : rb_St) (h : xj_M_text_22 x1 σ = some (r, σ9)) : rb_At z rb_vM w 2 (rb_Q z rb_vM w (some (.int r)) σ9) 22 [(0, .ref (rb_ad w 0)), (1, .int x1)] [] σ := by
  unfold xj_M_text_22 at h
  refine rb_iload_n hC 1 dX12_text_22 rfl ?_
  refine rb_iconst (x := 1) hC dX12_text_23 (by decide) ?_
  refine rb_icmp_ne hC 69 dX12_text_24 (by decide) (fun c2 => ?_) (fun c2 => ?_)
  · replace h := rb_ifn c2 h
    exact rb_sub [0, 1] rfl (xu_M_text_69 hC x1 σ _ _ h)
  · replace h := rb_ifp c2 h
    refine rb_aload_n hC 0 dX12_text_27 rfl ?_
    refine rb_getI hC fr_X12_302_11 rb_obM0 rfl dX12_text_28 ?_
    refine rb_iconst (x := 4) hC dX12_text_31 (by decide) ?_
    refine rb_icmp_ge hC 69 dX12_text_32 (by decide) (fun c13 => ?_) (fun c13 => ?_)
    · replace h := rb_ifp c13 h
      exact rb_sub [0, 1] rfl (xu_M_text_69 hC x1 σ _ _ h)
    · replace h := rb_ifn c13 h
      refine rb_aload_n hC 0 dX12_text_35 rfl ?_
      refine rb_aload_n hC 0 dX12_text_36 rfl ?_
      refine rb_getI hC fr_X12_302_11 rb_obM0 rfl dX12_text_37 ?_
      obtain ⟨r16, s14, q15, h⟩ := rb_b2s h
      refine rb_callVi hC rb_VokM mv_X12_277 (xc_M_readLaw (σ.1 0 13) σ _ _ q15) rb_obM0 rfl [.int (σ.1 0 13)] rfl rfl rfl ⟨Nat.le_of_ble_eq_true rfl, Nat.le_of_ble_eq_true rfl⟩ (Nat.le_of_ble_eq_true rfl) dX12_text_40 ?_
      refine rb_iconst (x := (-1)) hC dX12_text_43 (by decide) ?_
      refine rb_icmp_ne hC 69 dX12_text_44 (by decide) (fun c17 => ?_) (fun c17 => ?_)
      · replace h := rb_ifn c17 h
        exact rb_sub [0, 1] rfl (xu_M_text_69 hC x1 s14 _ _ h)
      · replace h := rb_ifp c17 h
        refine rb_aload_n hC 0 dX12_text_47 rfl ?_
        refine rb_iconst (x := 0) hC dX12_text_48 (by decide) ?_
        refine rb_putI hC fr_X12_121_11 ft_11_2 rb_obM0 rfl rfl rfl dX12_text_49 ?_
        obtain ⟨s18, e19, h⟩ := rb_ltE h
        refine rb_nmS e19 ?_
        refine rb_aload_n hC 0 dX12_text_52 rfl ?_
        refine rb_dup hC dX12_text_53 rfl ?_
        refine rb_getI hC fr_X12_302_11 rb_obM0 rfl dX12_text_54 ?_
        refine rb_iconst (x := 1) hC dX12_text_57 (by decide) ?_
        refine rb_iadd hC dX12_text_58 ?_
        refine rb_putI hC fr_X12_302_11 ft_11_13 rb_obM0 rfl rfl rfl dX12_text_59 ?_
        obtain ⟨s20, e21, h⟩ := rb_ltE h
        refine rb_nmS e21 ?_
        refine rb_aload_n hC 0 dX12_text_62 rfl ?_
        refine rb_getI hC fr_X12_302_11 rb_obM0 rfl dX12_text_63 ?_
        refine rb_iconst (x := 1) hC dX12_text_66 (by decide) ?_
        refine rb_isub hC dX12_text_67 ?_
        cases h
        exact rb_iret hC dX12_text_68
def xf_M_text (p0 : Int32) (σ : rb_St) : Option (Int32 × rb_St) := if p0 = 0 then rb_b2 (xf_M_readGreen σ) fun r24 s22 => if r24 = (-1) then rb_lt (rb_sI s22 0 2 0) (fun s26 => rb_b2 (xf_M_takeGreen s26) fun r30 s28 => some (r30, s28)) else xj_M_text_22 p0 s22 else xj_M_text_22 p0 σ
set_option maxHeartbeats 4000000 in
set_option maxRecDepth 100000 in
theorem xk_M_text {z : rb_Z} {w : rb_Wd} (hC : rb_Cx z rb_vM w RX12 cX12_text 2 (some .int) 70) (p0 : Int32) (σ : rb_St) (r : Int32) (σ9 : rb_St) (h : xf_M_text p0 σ = some (r, σ9)) : rb_At z rb_vM w 2 (rb_Q z rb_vM w (some (.int r)) σ9) 0 [(0, .ref (rb_ad w 0)), (1, .int p0)] [] σ := by
  unfold xf_M_text at h
  refine rb_iload_n hC 1 dX12_text_0 rfl ?_
  refine rb_if_ne hC 22 dX12_text_1 (by decide) (fun c1 => ?_) (fun c1 => ?_)
  · replace h := rb_ifn c1 h
    exact rb_sub [0, 1] rfl (xu_M_text_22 hC p0 σ _ _ h)
  · replace h := rb_ifp c1 h
    refine rb_aload_n hC 0 dX12_text_4 rfl ?_
    obtain ⟨r24, s22, q23, h⟩ := rb_b2s h
    refine rb_callVi hC rb_VokM mv_X12_274 (xc_M_readGreen  σ _ _ q23) rb_obM0 rfl [] rfl rfl rfl ⟨Nat.le_of_ble_eq_true rfl, Nat.le_of_ble_eq_true rfl⟩ (Nat.le_of_ble_eq_true rfl) dX12_text_5 ?_
    refine rb_iconst (x := (-1)) hC dX12_text_8 (by decide) ?_
    refine rb_icmp_ne hC 22 dX12_text_9 (by decide) (fun c25 => ?_) (fun c25 => ?_)
    · replace h := rb_ifn c25 h
      exact rb_sub [0, 1] rfl (xu_M_text_22 hC p0 s22 _ _ h)
    · replace h := rb_ifp c25 h
      refine rb_aload_n hC 0 dX12_text_12 rfl ?_
      refine rb_iconst (x := 0) hC dX12_text_13 (by decide) ?_
      refine rb_putI hC fr_X12_121_11 ft_11_2 rb_obM0 rfl rfl rfl dX12_text_14 ?_
      obtain ⟨s26, e27, h⟩ := rb_ltE h
      refine rb_nmS e27 ?_
      refine rb_aload_n hC 0 dX12_text_17 rfl ?_
      obtain ⟨r30, s28, q29, h⟩ := rb_b2s h
      refine rb_callVi hC rb_VokM mv_X12_299 (xc_M_takeGreen  s26 _ _ q29) rb_obM0 rfl [] rfl rfl rfl ⟨Nat.le_of_ble_eq_true rfl, Nat.le_of_ble_eq_true rfl⟩ (Nat.le_of_ble_eq_true rfl) dX12_text_18 ?_
      cases h
      exact rb_iret hC dX12_text_21
theorem xc_M_text (p0 : Int32) (σ : rb_St) (r : Int32) (σ9 : rb_St) (h : xf_M_text p0 σ = some (r, σ9)) : rb_Con rb_vM yX12_text cX12_text 2 (some .int) 70 (fun w => [.ref (rb_ad w 0), .int p0]) σ (fun _ => (some (.int r))) σ9 := rb_Con.of (by decide +kernel) (fun _ => Nat.le_of_ble_eq_true rfl) (fun z w hC => xk_M_text hC p0 σ r σ9 h)
theorem kc_X12_507 : Cond.constant RX12 507 1000000000 ∈ rb_tbl := rb_in (by decide +kernel) (by decide +kernel)
def xf_M_odds (p0 : Int32) (p1 : Int32) (p2 : Int32) (σ : rb_St) : Option (Int32 × rb_St) := if (xf_M_isFigure p0 σ) = 0 then some ((-1), σ) else if rb_ib p0 7 then if 8 < (σ.1 16 p0.toNatClampNeg) then some ((-1), σ) else if (xf_M_in p1 0 100 σ) = 0 then some ((-1), σ) else if (xf_M_in p2 0 60 σ) = 0 then some ((-1), σ) else rb_b2 (xf_M_oddsFrom 64 p0 0 0 p1 p2 1000000000 σ) fun r8 s6 => some (r8, s6) else none
set_option maxHeartbeats 4000000 in
set_option maxRecDepth 100000 in
theorem xk_M_odds {z : rb_Z} {w : rb_Wd} (hC : rb_Cx z rb_vM w RX12 cX12_odds 4 (some .int) 69) (p0 : Int32) (p1 : Int32) (p2 : Int32) (σ : rb_St) (r : Int32) (σ9 : rb_St) (h : xf_M_odds p0 p1 p2 σ = some (r, σ9)) : rb_At z rb_vM w 4 (rb_Q z rb_vM w (some (.int r)) σ9) 0 [(0, .ref (rb_ad w 0)), (1, .int p0), (2, .int p1), (3, .int p2)] [] σ := by
  unfold xf_M_odds at h
  refine rb_aload_n hC 0 dX12_odds_0 rfl ?_
  refine rb_iload_n hC 1 dX12_odds_1 rfl ?_
  refine rb_callVi hC rb_VokM mv_X12_407 (xc_M_isFigure p0 σ _ rfl) rb_obM0 rfl [.int p0] rfl rfl rfl ⟨Nat.le_of_ble_eq_true rfl, Nat.le_of_ble_eq_true rfl⟩ (Nat.le_of_ble_eq_true rfl) dX12_odds_2 ?_
  refine rb_if_eq hC 39 dX12_odds_5 (by decide) (fun c1 => ?_) (fun c1 => ?_)
  · replace h := rb_ifp c1 h
    refine rb_iconst (x := (-1)) hC dX12_odds_39 (by decide) ?_
    cases h
    exact rb_iret hC dX12_odds_40
  · replace h := rb_ifn c1 h
    refine rb_aload_n hC 0 dX12_odds_8 rfl ?_
    refine rb_getR hC fr_X12_55_11 rb_obM0 rfl dX12_odds_9 ?_
    refine rb_iload_n hC 1 dX12_odds_12 rfl ?_
    obtain ⟨g2, h⟩ := rb_gd h
    refine rb_iald hC rb_arM16 (rb_ibI g2) dX12_odds_13 ?_
    refine rb_bipush (x := 8) hC dX12_odds_14 (by decide) ?_
    refine rb_icmp_gt hC 39 dX12_odds_16 (by decide) (fun c3 => ?_) (fun c3 => ?_)
    · replace h := rb_ifp c3 h
      refine rb_iconst (x := (-1)) hC dX12_odds_39 (by decide) ?_
      cases h
      exact rb_iret hC dX12_odds_40
    · replace h := rb_ifn c3 h
      refine rb_iload_n hC 2 dX12_odds_19 rfl ?_
      refine rb_iconst (x := 0) hC dX12_odds_20 (by decide) ?_
      refine rb_bipush (x := 100) hC dX12_odds_21 (by decide) ?_
      refine rb_callSi hC rb_VokM mv_X12_229 (xc_M_in p1 0 100 σ _ rfl) [.int p1, .int 0, .int 100] rfl rfl rfl ⟨Nat.le_of_ble_eq_true rfl, Nat.le_of_ble_eq_true rfl⟩ (Nat.le_of_ble_eq_true rfl) dX12_odds_23 ?_
      refine rb_if_eq hC 39 dX12_odds_26 (by decide) (fun c4 => ?_) (fun c4 => ?_)
      · replace h := rb_ifp c4 h
        refine rb_iconst (x := (-1)) hC dX12_odds_39 (by decide) ?_
        cases h
        exact rb_iret hC dX12_odds_40
      · replace h := rb_ifn c4 h
        refine rb_iload_n hC 3 dX12_odds_29 rfl ?_
        refine rb_iconst (x := 0) hC dX12_odds_30 (by decide) ?_
        refine rb_bipush (x := 60) hC dX12_odds_31 (by decide) ?_
        refine rb_callSi hC rb_VokM mv_X12_229 (xc_M_in p2 0 60 σ _ rfl) [.int p2, .int 0, .int 60] rfl rfl rfl ⟨Nat.le_of_ble_eq_true rfl, Nat.le_of_ble_eq_true rfl⟩ (Nat.le_of_ble_eq_true rfl) dX12_odds_33 ?_
        refine rb_if_ne hC 41 dX12_odds_36 (by decide) (fun c5 => ?_) (fun c5 => ?_)
        · replace h := rb_ifn c5 h
          refine rb_aload_n hC 0 dX12_odds_41 rfl ?_
          refine rb_iload_n hC 1 dX12_odds_42 rfl ?_
          refine rb_iconst (x := 0) hC dX12_odds_43 (by decide) ?_
          refine rb_iconst (x := 0) hC dX12_odds_44 (by decide) ?_
          refine rb_iload_n hC 2 dX12_odds_45 rfl ?_
          refine rb_iload_n hC 3 dX12_odds_46 rfl ?_
          refine rb_ldc_w hC kc_X12_507 dX12_odds_47 ?_
          obtain ⟨r8, s6, q7, h⟩ := rb_b2s h
          refine rb_callVi hC rb_VokM mv_X12_502 (xc_M_oddsFrom 64 p0 0 0 p1 p2 1000000000 σ _ _ q7) rb_obM0 rfl [.int p0, .int 0, .int 0, .int p1, .int p2, .int 1000000000] rfl rfl rfl ⟨Nat.le_of_ble_eq_true rfl, Nat.le_of_ble_eq_true rfl⟩ (Nat.le_of_ble_eq_true rfl) dX12_odds_50 ?_
          cases h
          exact rb_iret hC dX12_odds_53
        · replace h := rb_ifp c5 h
          refine rb_iconst (x := (-1)) hC dX12_odds_39 (by decide) ?_
          cases h
          exact rb_iret hC dX12_odds_40
theorem xc_M_odds (p0 : Int32) (p1 : Int32) (p2 : Int32) (σ : rb_St) (r : Int32) (σ9 : rb_St) (h : xf_M_odds p0 p1 p2 σ = some (r, σ9)) : rb_Con rb_vM yX12_odds cX12_odds 4 (some .int) 69 (fun w => [.ref (rb_ad w 0), .int p0, .int p1, .int p2]) σ (fun _ => (some (.int r))) σ9 := rb_Con.of (by decide +kernel) (fun _ => Nat.le_of_ble_eq_true rfl) (fun z w hC => xk_M_odds hC p0 p1 p2 σ r σ9 h)
theorem me_X2_readPlace : Cond.instanceMethod yX2_readPlace ∈ rb_tbl ∧ Cond.selects yX2_readPlace.cls yX2_readPlace yX2_readPlace ∈ rb_tbl ∧ Cond.initialized yX2_readPlace.cls ∈ rb_tbl ∧ Cond.code yX2_readPlace cX2_readPlace 3 (some .boolean) ∈ rb_tbl ∧ rb_pn yX2_readPlace 1 := ⟨rb_in (by decide +kernel) (by decide +kernel), rb_in (by decide +kernel) (by decide +kernel), rb_in (by decide +kernel) (by decide +kernel), rb_in (by decide +kernel) (by decide +kernel), by decide +kernel, by decide +kernel, by decide +kernel⟩
theorem mv_X2_45 : rb_MV RX2 45 yX2_readPlace cX2_readPlace 3 (some .boolean) 1 := ⟨rb_in (by decide +kernel) (by decide +kernel), me_X2_readPlace⟩
theorem me_X2_readRepeated : Cond.instanceMethod yX2_readRepeated ∈ rb_tbl ∧ Cond.selects yX2_readRepeated.cls yX2_readRepeated yX2_readRepeated ∈ rb_tbl ∧ Cond.initialized yX2_readRepeated.cls ∈ rb_tbl ∧ Cond.code yX2_readRepeated cX2_readRepeated 4 (some .boolean) ∈ rb_tbl ∧ rb_pn yX2_readRepeated 2 := ⟨rb_in (by decide +kernel) (by decide +kernel), rb_in (by decide +kernel) (by decide +kernel), rb_in (by decide +kernel) (by decide +kernel), rb_in (by decide +kernel) (by decide +kernel), by decide +kernel, by decide +kernel, by decide +kernel⟩
theorem mv_X2_49 : rb_MV RX2 49 yX2_readRepeated cX2_readRepeated 4 (some .boolean) 2 := ⟨rb_in (by decide +kernel) (by decide +kernel), me_X2_readRepeated⟩
theorem me_X2_readRow : Cond.instanceMethod yX2_readRow ∈ rb_tbl ∧ Cond.selects yX2_readRow.cls yX2_readRow yX2_readRow ∈ rb_tbl ∧ Cond.initialized yX2_readRow.cls ∈ rb_tbl ∧ Cond.code yX2_readRow cX2_readRow 3 (some .boolean) ∈ rb_tbl ∧ rb_pn yX2_readRow 1 := ⟨rb_in (by decide +kernel) (by decide +kernel), rb_in (by decide +kernel) (by decide +kernel), rb_in (by decide +kernel) (by decide +kernel), rb_in (by decide +kernel) (by decide +kernel), by decide +kernel, by decide +kernel, by decide +kernel⟩
theorem mv_X2_27 : rb_MV RX2 27 yX2_readRow cX2_readRow 3 (some .boolean) 1 := ⟨rb_in (by decide +kernel) (by decide +kernel), me_X2_readRow⟩
theorem me_X1_repeatFrom : Cond.instanceMethod yX1_repeatFrom ∈ rb_tbl ∧ Cond.selects yX1_repeatFrom.cls yX1_repeatFrom yX1_repeatFrom ∈ rb_tbl ∧ Cond.initialized yX1_repeatFrom.cls ∈ rb_tbl ∧ Cond.code yX1_repeatFrom cX1_repeatFrom 5 none ∈ rb_tbl ∧ rb_pn yX1_repeatFrom 2 := ⟨rb_in (by decide +kernel) (by decide +kernel), rb_in (by decide +kernel) (by decide +kernel), rb_in (by decide +kernel) (by decide +kernel), rb_in (by decide +kernel) (by decide +kernel), by decide +kernel, by decide +kernel, by decide +kernel⟩
theorem mv_X2_60 : rb_MV RX2 60 yX1_repeatFrom cX1_repeatFrom 5 none 2 := ⟨rb_in (by decide +kernel) (by decide +kernel), me_X1_repeatFrom⟩
abbrev xg_FR : Type := (Int32 → rb_St → Option (Int32 × rb_St)) × (Int32 → rb_St → Option (Int32 × rb_St)) × (Int32 → Int32 → rb_St → Option (Int32 × rb_St))
def xg_FR_ok (g : xg_FR) (h0 : Nat) : Prop := (∀ (p0 : Int32) (σ : rb_St) (r : Int32) (σ9 : rb_St), g.1 p0 σ = some (r, σ9) → rb_Con rb_vX yX2_readRow cX2_readRow 3 (some .boolean) h0 (fun w => [.ref (rb_ad w 12), .int p0]) σ (fun _ => (some (.int r))) σ9) ∧ (∀ (p0 : Int32) (σ : rb_St) (r : Int32) (σ9 : rb_St), g.2.1 p0 σ = some (r, σ9) → rb_Con rb_vX yX2_readStep cX2_readStep 3 (some .boolean) h0 (fun w => [.ref (rb_ad w 12), .int p0]) σ (fun _ => (some (.int r))) σ9) ∧ (∀ (p0 : Int32) (p1 : Int32) (σ : rb_St) (r : Int32) (σ9 : rb_St), g.2.2 p0 p1 σ = some (r, σ9) → rb_Con rb_vX yX2_readRepeated cX2_readRepeated 4 (some .boolean) h0 (fun w => [.ref (rb_ad w 12), .int p0, .int p1]) σ (fun _ => (some (.int r))) σ9)
def xl_FR_readRow_2 (g : xg_FR) (x1 : Int32) : Nat → Int32 → rb_St → Option (Nat × rb_St)
  | 0, _, _ => none
  | n + 1, x2, σ => if 240 ≤ x2 then some (2, σ) else rb_b2 (g.2.1 x1 σ) fun r4 s2 => if r4 = 0 then some (0, s2) else rb_b2 (xf_Rd_passesF 59 s2) fun r8 s6 => if r8 = 0 then some (1, s6) else xl_FR_readRow_2 g x1 n (x2 + 1) s6
set_option maxHeartbeats 4000000 in
set_option maxRecDepth 100000 in
theorem xt_FR_readRow_2 {z : rb_Z} {w : rb_Wd} {Q : State → Prop} {h0 : Nat} (hb : 2 ≤ h0) {g : xg_FR} (hg : xg_FR_ok g h0) (hC : rb_Cx z rb_vX w RX2 cX2_readRow 3 (some .boolean) (h0 + 1)) (x1 : Int32) : ∀ (n : Nat) (x2 : Int32) (σ : rb_St) (t : Nat) (σ9 : rb_St), xl_FR_readRow_2 g x1 n x2 σ = some (t, σ9) → (t = 0 → rb_At z rb_vX w 3 Q 17 [] [] σ9) → (t = 1 → rb_At z rb_vX w 3 Q 28 [] [] σ9) → (t = 2 → rb_At z rb_vX w 3 Q 36 [] [] σ9) → rb_At z rb_vX w 3 Q 2 [(0, .ref (rb_ad w 12)), (1, .int x1), (2, .int x2)] [] σ := by
  intro n
  induction n with
  | zero =>
    intro x2 σ t σ9 h hE0 hE1 hE2
    cases h
  | succ n ih =>
    intro x2 σ t σ9 h hE0 hE1 hE2
    rw [xl_FR_readRow_2] at h
    refine rb_iload_n hC 2 dX2_readRow_2 rfl ?_
    refine rb_sipush (x := 240) hC dX2_readRow_3 (by decide) ?_
    refine rb_icmp_ge hC 36 dX2_readRow_6 (by decide) (fun c1 => ?_) (fun c1 => ?_)
    · replace h := rb_ifp c1 h
      cases h
      exact rb_sub [] rfl (hE2 rfl)
    · replace h := rb_ifn c1 h
      refine rb_aload_n hC 0 dX2_readRow_9 rfl ?_
      refine rb_iload_n hC 1 dX2_readRow_10 rfl ?_
      obtain ⟨r4, s2, q3, h⟩ := rb_b2s h
      refine rb_callVi hC rb_VokX mv_X2_35 (hg.2.1 x1 σ _ _ q3) rb_obX12 rfl [.int x1] rfl rfl rfl ⟨by omega, Nat.le_of_ble_eq_true rfl⟩ (Nat.le_of_ble_eq_true rfl) dX2_readRow_11 ?_
      refine rb_if_ne hC 19 dX2_readRow_14 (by decide) (fun c5 => ?_) (fun c5 => ?_)
      · replace h := rb_ifn c5 h
        refine rb_aload_n hC 0 dX2_readRow_19 rfl ?_
        refine rb_bipush (x := 59) hC dX2_readRow_20 (by decide) ?_
        obtain ⟨r8, s6, q7, h⟩ := rb_b2s h
        refine rb_callUi hC rb_VokX mv_X2_38_2 (xc_Rd_passesF 59 s2 _ _ q7) rb_obX12 rfl [.int 59] rfl rfl rfl ⟨by omega, Nat.le_of_ble_eq_true rfl⟩ (Nat.le_of_ble_eq_true rfl) dX2_readRow_22 ?_
        refine rb_if_ne hC 30 dX2_readRow_25 (by decide) (fun c9 => ?_) (fun c9 => ?_)
        · replace h := rb_ifn c9 h
          refine rb_iinc hC 2 [(2, .int (x2 + 1)), (0, .ref (rb_ad w 12)), (1, .int x1)] dX2_readRow_30 rfl rfl (by decide) rfl ?_
          refine rb_goto hC 2 dX2_readRow_33 (by decide) ?_
          exact rb_sub [1, 2, 0] rfl (ih (x2 + 1) s6 _ _ h hE0 hE1 hE2)
        · replace h := rb_ifp c9 h
          cases h
          exact rb_sub [] rfl (hE1 rfl)
      · replace h := rb_ifp c5 h
        cases h
        exact rb_sub [] rfl (hE0 rfl)
def xb_FR_readRow (g : xg_FR) (p0 : Int32) (σ : rb_St) : Option (Int32 × rb_St) := rb_b2 (xl_FR_readRow_2 g p0 rb_FU 0 σ) fun t10 s11 => if t10 = 0 then some (0, s11) else if t10 = 1 then some (1, s11) else some (0, s11)
set_option maxHeartbeats 4000000 in
set_option maxRecDepth 100000 in
theorem xk_FR_readRow {z : rb_Z} {w : rb_Wd} {h0 : Nat} (hb : 2 ≤ h0) {g : xg_FR} (hg : xg_FR_ok g h0) (hC : rb_Cx z rb_vX w RX2 cX2_readRow 3 (some .boolean) (h0 + 1)) (p0 : Int32) (σ : rb_St) (r : Int32) (σ9 : rb_St) (h : xb_FR_readRow g p0 σ = some (r, σ9)) : rb_At z rb_vX w 3 (rb_Q z rb_vX w (some (.int r)) σ9) 0 [(0, .ref (rb_ad w 12)), (1, .int p0)] [] σ := by
  unfold xb_FR_readRow at h
  refine rb_iconst (x := 0) hC dX2_readRow_0 (by decide) ?_
  refine rb_istore_n hC [(2, .int 0), (0, .ref (rb_ad w 12)), (1, .int p0)] dX2_readRow_1 (by decide) rfl ?_
  obtain ⟨t10, s11, q12, h⟩ := rb_b2s h
  refine rb_sub (lv2 := [(0, .ref (rb_ad w 12)), (1, .int p0), (2, .int 0)]) [1, 2, 0] rfl ?_
  refine xt_FR_readRow_2 hb hg hC p0 rb_FU 0 σ _ _ q12 (fun ht => ?_) (fun ht => ?_) (fun ht => ?_)
  · subst ht
    replace h := rb_ifp rfl h
    refine rb_iconst (x := 0) hC dX2_readRow_17 (by decide) ?_
    cases h
    exact rb_zret hC rfl dX2_readRow_18
  · subst ht
    replace h := rb_ifn (by decide) h
    replace h := rb_ifp rfl h
    refine rb_iconst (x := 1) hC dX2_readRow_28 (by decide) ?_
    cases h
    exact rb_zret hC rfl dX2_readRow_29
  · subst ht
    replace h := rb_ifn (by decide) h
    replace h := rb_ifn (by decide) h
    refine rb_iconst (x := 0) hC dX2_readRow_36 (by decide) ?_
    cases h
    exact rb_zret hC rfl dX2_readRow_37
def xj_FR_readStep_44 (g : xg_FR) (x2 : Int32) (σ : rb_St) : Option (Int32 × rb_St) := rb_lt (rb_sI σ 12 1 ((σ.1 12 1) + 1)) (fun s6 => if x2 = 111 then rb_b2 (xf_FR_readPlace 1 s6) fun r15 s13 => if rb_bz r15 then some (r15, s13) else none else rb_b2 (xf_FR_readPlace 0 s6) fun r11 s9 => if rb_bz r11 then some (r11, s9) else none)
set_option maxHeartbeats 4000000 in
set_option maxRecDepth 100000 in
theorem xu_FR_readStep_44 {z : rb_Z} {w : rb_Wd} {h0 : Nat} (hb : 2 ≤ h0) {g : xg_FR} (hg : xg_FR_ok g h0) (hC : rb_Cx z rb_vX w RX2 cX2_readStep 3 (some .boolean) (h0 + 1)) (x2 : Int32) (σ : rb_St) (r : Int32) (σ9 : rb_St) (h : xj_FR_readStep_44 g x2 σ = some (r, σ9)) : rb_At z rb_vX w 3 (rb_Q z rb_vX w (some (.int r)) σ9) 44 [(0, .ref (rb_ad w 12)), (2, .int x2)] [] σ := by
  unfold xj_FR_readStep_44 at h
  refine rb_aload_n hC 0 dX2_readStep_44 rfl ?_
  refine rb_dup hC dX2_readStep_45 rfl ?_
  refine rb_getI hC fr_X2_20_2 rb_obX12 rfl dX2_readStep_46 ?_
  refine rb_iconst (x := 1) hC dX2_readStep_49 (by decide) ?_
  refine rb_iadd hC dX2_readStep_50 ?_
  refine rb_putI hC fr_X2_20_2 ft_2_1 rb_obX12 rfl rfl rfl dX2_readStep_51 ?_
  obtain ⟨s6, e7, h⟩ := rb_ltE h
  refine rb_nmS e7 ?_
  refine rb_aload_n hC 0 dX2_readStep_54 rfl ?_
  refine rb_iload_n hC 1 dX2_readStep_55 rfl ?_
  refine rb_bipush (x := 111) hC dX2_readStep_56 (by decide) ?_
  refine rb_icmp_ne hC 65 dX2_readStep_58 (by decide) (fun c8 => ?_) (fun c8 => ?_)
  · replace h := rb_ifn c8 h
    refine rb_iconst (x := 0) hC dX2_readStep_65 (by decide) ?_
    obtain ⟨r11, s9, q10, h⟩ := rb_b2s h
    refine rb_callVi hC rb_VokX mv_X2_45 (xc_FR_readPlace 0 s6 _ _ q10) rb_obX12 rfl [.int 0] rfl rfl rfl ⟨by omega, Nat.le_of_ble_eq_true rfl⟩ (Nat.le_of_ble_eq_true rfl) dX2_readStep_66 ?_
    obtain ⟨g12, h⟩ := rb_gd h
    cases h
    exact rb_zret hC (rb_bzN g12) dX2_readStep_69
  · replace h := rb_ifp c8 h
    refine rb_iconst (x := 1) hC dX2_readStep_61 (by decide) ?_
    refine rb_goto hC 66 dX2_readStep_62 (by decide) ?_
    obtain ⟨r15, s13, q14, h⟩ := rb_b2s h
    refine rb_callVi hC rb_VokX mv_X2_45 (xc_FR_readPlace 1 s6 _ _ q14) rb_obX12 rfl [.int 1] rfl rfl rfl ⟨by omega, Nat.le_of_ble_eq_true rfl⟩ (Nat.le_of_ble_eq_true rfl) dX2_readStep_66 ?_
    obtain ⟨g16, h⟩ := rb_gd h
    cases h
    exact rb_zret hC (rb_bzN g16) dX2_readStep_69
def xb_FR_readStep (g : xg_FR) (p0 : Int32) (σ : rb_St) : Option (Int32 × rb_St) := rb_b2 (xf_Rd_nextSignF σ) fun r3 s1 => if r3 = 119 then rb_lt (rb_sI s1 12 1 ((s1.1 12 1) + 1)) (fun s26 => rb_b1 (xf_Fig_add 20 s26) fun s28 => some (1, s28)) else if r3 = 111 then xj_FR_readStep_44 g r3 s1 else if r3 = 117 then xj_FR_readStep_44 g r3 s1 else if r3 < 50 then some (0, s1) else if 57 < r3 then some (0, s1) else rb_lt (rb_sI s1 12 1 ((s1.1 12 1) + 1)) (fun s20 => rb_b2 (g.2.2 (r3 - 48) p0 s20) fun r24 s22 => if rb_bz r24 then some (r24, s22) else none)
set_option maxHeartbeats 4000000 in
set_option maxRecDepth 100000 in
theorem xk_FR_readStep {z : rb_Z} {w : rb_Wd} {h0 : Nat} (hb : 2 ≤ h0) {g : xg_FR} (hg : xg_FR_ok g h0) (hC : rb_Cx z rb_vX w RX2 cX2_readStep 3 (some .boolean) (h0 + 1)) (p0 : Int32) (σ : rb_St) (r : Int32) (σ9 : rb_St) (h : xb_FR_readStep g p0 σ = some (r, σ9)) : rb_At z rb_vX w 3 (rb_Q z rb_vX w (some (.int r)) σ9) 0 [(0, .ref (rb_ad w 12)), (1, .int p0)] [] σ := by
  unfold xb_FR_readStep at h
  refine rb_aload_n hC 0 dX2_readStep_0 rfl ?_
  obtain ⟨r3, s1, q2, h⟩ := rb_b2s h
  refine rb_callUi hC rb_VokX mv_X2_31_2 (xc_Rd_nextSignF  σ _ _ q2) rb_obX12 rfl [] rfl rfl rfl ⟨by omega, Nat.le_of_ble_eq_true rfl⟩ (Nat.le_of_ble_eq_true rfl) dX2_readStep_1 ?_
  refine rb_istore_n hC [(2, .int r3), (0, .ref (rb_ad w 12)), (1, .int p0)] dX2_readStep_4 (by decide) rfl ?_
  refine rb_iload_n hC 0 dX2_readStep_5 rfl ?_
  refine rb_bipush (x := 119) hC dX2_readStep_6 (by decide) ?_
  refine rb_icmp_ne hC 32 dX2_readStep_8 (by decide) (fun c4 => ?_) (fun c4 => ?_)
  · replace h := rb_ifn c4 h
    refine rb_iload_n hC 0 dX2_readStep_32 rfl ?_
    refine rb_bipush (x := 111) hC dX2_readStep_33 (by decide) ?_
    refine rb_icmp_eq hC 44 dX2_readStep_35 (by decide) (fun c5 => ?_) (fun c5 => ?_)
    · replace h := rb_ifp c5 h
      exact rb_sub [1, 0] rfl (xu_FR_readStep_44 hb hg hC r3 s1 _ _ h)
    · replace h := rb_ifn c5 h
      refine rb_iload_n hC 0 dX2_readStep_38 rfl ?_
      refine rb_bipush (x := 117) hC dX2_readStep_39 (by decide) ?_
      refine rb_icmp_ne hC 70 dX2_readStep_41 (by decide) (fun c17 => ?_) (fun c17 => ?_)
      · replace h := rb_ifn c17 h
        refine rb_iload_n hC 0 dX2_readStep_70 rfl ?_
        refine rb_bipush (x := 50) hC dX2_readStep_71 (by decide) ?_
        refine rb_icmp_lt hC 102 dX2_readStep_73 (by decide) (fun c18 => ?_) (fun c18 => ?_)
        · replace h := rb_ifp c18 h
          refine rb_iconst (x := 0) hC dX2_readStep_102 (by decide) ?_
          cases h
          exact rb_zret hC rfl dX2_readStep_103
        · replace h := rb_ifn c18 h
          refine rb_iload_n hC 0 dX2_readStep_76 rfl ?_
          refine rb_bipush (x := 57) hC dX2_readStep_77 (by decide) ?_
          refine rb_icmp_gt hC 102 dX2_readStep_79 (by decide) (fun c19 => ?_) (fun c19 => ?_)
          · replace h := rb_ifp c19 h
            refine rb_iconst (x := 0) hC dX2_readStep_102 (by decide) ?_
            cases h
            exact rb_zret hC rfl dX2_readStep_103
          · replace h := rb_ifn c19 h
            refine rb_aload_n hC 1 dX2_readStep_82 rfl ?_
            refine rb_dup hC dX2_readStep_83 rfl ?_
            refine rb_getI hC fr_X2_20_2 rb_obX12 rfl dX2_readStep_84 ?_
            refine rb_iconst (x := 1) hC dX2_readStep_87 (by decide) ?_
            refine rb_iadd hC dX2_readStep_88 ?_
            refine rb_putI hC fr_X2_20_2 ft_2_1 rb_obX12 rfl rfl rfl dX2_readStep_89 ?_
            obtain ⟨s20, e21, h⟩ := rb_ltE h
            refine rb_nmS e21 ?_
            refine rb_aload_n hC 1 dX2_readStep_92 rfl ?_
            refine rb_iload_n hC 0 dX2_readStep_93 rfl ?_
            refine rb_bipush (x := 48) hC dX2_readStep_94 (by decide) ?_
            refine rb_isub hC dX2_readStep_96 ?_
            refine rb_iload_n hC 2 dX2_readStep_97 rfl ?_
            obtain ⟨r24, s22, q23, h⟩ := rb_b2s h
            refine rb_callVi hC rb_VokX mv_X2_49 (hg.2.2 (r3 - 48) p0 s20 _ _ q23) rb_obX12 rfl [.int (r3 - 48), .int p0] rfl rfl rfl ⟨by omega, Nat.le_of_ble_eq_true rfl⟩ (Nat.le_of_ble_eq_true rfl) dX2_readStep_98 ?_
            obtain ⟨g25, h⟩ := rb_gd h
            cases h
            exact rb_zret hC (rb_bzN g25) dX2_readStep_101
      · replace h := rb_ifp c17 h
        exact rb_sub [1, 0] rfl (xu_FR_readStep_44 hb hg hC r3 s1 _ _ h)
  · replace h := rb_ifp c4 h
    refine rb_aload_n hC 1 dX2_readStep_11 rfl ?_
    refine rb_dup hC dX2_readStep_12 rfl ?_
    refine rb_getI hC fr_X2_20_2 rb_obX12 rfl dX2_readStep_13 ?_
    refine rb_iconst (x := 1) hC dX2_readStep_16 (by decide) ?_
    refine rb_iadd hC dX2_readStep_17 ?_
    refine rb_putI hC fr_X2_20_2 ft_2_1 rb_obX12 rfl rfl rfl dX2_readStep_18 ?_
    obtain ⟨s26, e27, h⟩ := rb_ltE h
    refine rb_nmS e27 ?_
    refine rb_aload_n hC 1 dX2_readStep_21 rfl ?_
    refine rb_getR hC fr_X2_14_2 rb_obX12 rfl dX2_readStep_22 ?_
    refine rb_bipush (x := 20) hC dX2_readStep_25 (by decide) ?_
    obtain ⟨s28, q29, h⟩ := rb_b1s h
    refine rb_callVv hC rb_VokX mv_X2_41 (xc_Fig_add 20 s26 _ q29) rb_obX13 rfl [.int 20] rfl rfl rfl ⟨by omega, Nat.le_of_ble_eq_true rfl⟩ (Nat.le_of_ble_eq_true rfl) dX2_readStep_27 ?_
    refine rb_iconst (x := 1) hC dX2_readStep_30 (by decide) ?_
    cases h
    exact rb_zret hC rfl dX2_readStep_31
def xb_FR_readRepeated (g : xg_FR) (p0 : Int32) (p1 : Int32) (σ : rb_St) : Option (Int32 × rb_St) := rb_b2 (xf_Rd_nextSignF σ) fun r3 s1 => if r3 = 40 then if p1 < 3 then rb_lt (rb_sI s1 12 1 ((s1.1 12 1) + 1)) (fun s6 => rb_b2 (g.1 (p1 + 1) s6) fun r10 s8 => if r10 = 0 then some (0, s8) else rb_b2 (xf_Rd_passesF 41 s8) fun r14 s12 => if r14 = 0 then some (0, s12) else rb_b1 (xf_Fig_repeatFrom (s6.1 13 1) p0 s12) fun s16 => some (1, s16)) else some (0, s1) else some (0, s1)
set_option maxHeartbeats 4000000 in
set_option maxRecDepth 100000 in
theorem xk_FR_readRepeated {z : rb_Z} {w : rb_Wd} {h0 : Nat} (hb : 2 ≤ h0) {g : xg_FR} (hg : xg_FR_ok g h0) (hC : rb_Cx z rb_vX w RX2 cX2_readRepeated 4 (some .boolean) (h0 + 1)) (p0 : Int32) (p1 : Int32) (σ : rb_St) (r : Int32) (σ9 : rb_St) (h : xb_FR_readRepeated g p0 p1 σ = some (r, σ9)) : rb_At z rb_vX w 4 (rb_Q z rb_vX w (some (.int r)) σ9) 0 [(0, .ref (rb_ad w 12)), (1, .int p0), (2, .int p1)] [] σ := by
  unfold xb_FR_readRepeated at h
  refine rb_aload_n hC 0 dX2_readRepeated_0 rfl ?_
  obtain ⟨r3, s1, q2, h⟩ := rb_b2s h
  refine rb_callUi hC rb_VokX mv_X2_31_2 (xc_Rd_nextSignF  σ _ _ q2) rb_obX12 rfl [] rfl rfl rfl ⟨by omega, Nat.le_of_ble_eq_true rfl⟩ (Nat.le_of_ble_eq_true rfl) dX2_readRepeated_1 ?_
  refine rb_bipush (x := 40) hC dX2_readRepeated_4 (by decide) ?_
  refine rb_icmp_ne hC 14 dX2_readRepeated_6 (by decide) (fun c4 => ?_) (fun c4 => ?_)
  · replace h := rb_ifn c4 h
    refine rb_iconst (x := 0) hC dX2_readRepeated_14 (by decide) ?_
    cases h
    exact rb_zret hC rfl dX2_readRepeated_15
  · replace h := rb_ifp c4 h
    refine rb_iload_n hC 2 dX2_readRepeated_9 rfl ?_
    refine rb_iconst (x := 3) hC dX2_readRepeated_10 (by decide) ?_
    refine rb_icmp_lt hC 16 dX2_readRepeated_11 (by decide) (fun c5 => ?_) (fun c5 => ?_)
    · replace h := rb_ifp c5 h
      refine rb_aload_n hC 0 dX2_readRepeated_16 rfl ?_
      refine rb_dup hC dX2_readRepeated_17 rfl ?_
      refine rb_getI hC fr_X2_20_2 rb_obX12 rfl dX2_readRepeated_18 ?_
      refine rb_iconst (x := 1) hC dX2_readRepeated_21 (by decide) ?_
      refine rb_iadd hC dX2_readRepeated_22 ?_
      refine rb_putI hC fr_X2_20_2 ft_2_1 rb_obX12 rfl rfl rfl dX2_readRepeated_23 ?_
      obtain ⟨s6, e7, h⟩ := rb_ltE h
      refine rb_nmS e7 ?_
      refine rb_aload_n hC 0 dX2_readRepeated_26 rfl ?_
      refine rb_getR hC fr_X2_14_2 rb_obX12 rfl dX2_readRepeated_27 ?_
      refine rb_getI hC fr_X2_24_1 rb_obX13 rfl dX2_readRepeated_30 ?_
      refine rb_istore_n hC [(3, .int (s6.1 13 1)), (0, .ref (rb_ad w 12)), (1, .int p0), (2, .int p1)] dX2_readRepeated_33 (by decide) rfl ?_
      refine rb_aload_n hC 1 dX2_readRepeated_34 rfl ?_
      refine rb_iload_n hC 3 dX2_readRepeated_35 rfl ?_
      refine rb_iconst (x := 1) hC dX2_readRepeated_36 (by decide) ?_
      refine rb_iadd hC dX2_readRepeated_37 ?_
      obtain ⟨r10, s8, q9, h⟩ := rb_b2s h
      refine rb_callVi hC rb_VokX mv_X2_27 (hg.1 (p1 + 1) s6 _ _ q9) rb_obX12 rfl [.int (p1 + 1)] rfl rfl rfl ⟨by omega, Nat.le_of_ble_eq_true rfl⟩ (Nat.le_of_ble_eq_true rfl) dX2_readRepeated_38 ?_
      refine rb_if_eq hC 53 dX2_readRepeated_41 (by decide) (fun c11 => ?_) (fun c11 => ?_)
      · replace h := rb_ifp c11 h
        refine rb_iconst (x := 0) hC dX2_readRepeated_53 (by decide) ?_
        cases h
        exact rb_zret hC rfl dX2_readRepeated_54
      · replace h := rb_ifn c11 h
        refine rb_aload_n hC 1 dX2_readRepeated_44 rfl ?_
        refine rb_bipush (x := 41) hC dX2_readRepeated_45 (by decide) ?_
        obtain ⟨r14, s12, q13, h⟩ := rb_b2s h
        refine rb_callUi hC rb_VokX mv_X2_38_2 (xc_Rd_passesF 41 s8 _ _ q13) rb_obX12 rfl [.int 41] rfl rfl rfl ⟨by omega, Nat.le_of_ble_eq_true rfl⟩ (Nat.le_of_ble_eq_true rfl) dX2_readRepeated_47 ?_
        refine rb_if_ne hC 55 dX2_readRepeated_50 (by decide) (fun c15 => ?_) (fun c15 => ?_)
        · replace h := rb_ifn c15 h
          refine rb_aload_n hC 1 dX2_readRepeated_55 rfl ?_
          refine rb_getR hC fr_X2_14_2 rb_obX12 rfl dX2_readRepeated_56 ?_
          refine rb_iload_n hC 0 dX2_readRepeated_59 rfl ?_
          refine rb_iload_n hC 2 dX2_readRepeated_60 rfl ?_
          obtain ⟨s16, q17, h⟩ := rb_b1s h
          refine rb_callVv hC rb_VokX mv_X2_60 (xc_Fig_repeatFrom (s6.1 13 1) p0 s12 _ q17) rb_obX13 rfl [.int (s6.1 13 1), .int p0] rfl rfl rfl ⟨by omega, Nat.le_of_ble_eq_true rfl⟩ (Nat.le_of_ble_eq_true rfl) dX2_readRepeated_61 ?_
          refine rb_iconst (x := 1) hC dX2_readRepeated_64 (by decide) ?_
          cases h
          exact rb_zret hC rfl dX2_readRepeated_65
        · replace h := rb_ifp c15 h
          refine rb_iconst (x := 0) hC dX2_readRepeated_53 (by decide) ?_
          cases h
          exact rb_zret hC rfl dX2_readRepeated_54
    · replace h := rb_ifn c5 h
      refine rb_iconst (x := 0) hC dX2_readRepeated_14 (by decide) ?_
      cases h
      exact rb_zret hC rfl dX2_readRepeated_15
def xG_FR : Nat → xg_FR
  | 0 => (fun _ _ => none, fun _ _ => none, fun _ _ _ => none)
  | d + 1 => (xb_FR_readRow (xG_FR d), xb_FR_readStep (xG_FR d), xb_FR_readRepeated (xG_FR d))
theorem xG_FR_all : ∀ d : Nat, xg_FR_ok (xG_FR d) (2 + d) := by
  intro d
  induction d with
  | zero => exact ⟨fun _ _ _ _ h => by cases h, fun _ _ _ _ h => by cases h, fun _ _ _ _ _ h => by cases h⟩
  | succ d ih =>
    have hb : 2 ≤ 2 + d := Nat.le_add_right _ _
    exact ⟨fun p0 σ r σ9 h => rb_Con.of (by decide +kernel) (fun _ => Nat.le_of_ble_eq_true rfl) (fun z w hC => xk_FR_readRow hb ih hC p0 σ r σ9 h),
      fun p0 σ r σ9 h => rb_Con.of (by decide +kernel) (fun _ => Nat.le_of_ble_eq_true rfl) (fun z w hC => xk_FR_readStep hb ih hC p0 σ r σ9 h),
      fun p0 p1 σ r σ9 h => rb_Con.of (by decide +kernel) (fun _ => Nat.le_of_ble_eq_true rfl) (fun z w hC => xk_FR_readRepeated hb ih hC p0 p1 σ r σ9 h)⟩
def xf_FR_readRow (d : Nat) (p0 : Int32) (σ : rb_St) : Option (Int32 × rb_St) := (xG_FR d).1 p0 σ
theorem xc_FR_readRow (d : Nat) (p0 : Int32) (σ : rb_St) (r : Int32) (σ9 : rb_St) (h : xf_FR_readRow d p0 σ = some (r, σ9)) : rb_Con rb_vX yX2_readRow cX2_readRow 3 (some .boolean) (2 + d) (fun w => [.ref (rb_ad w 12), .int p0]) σ (fun _ => (some (.int r))) σ9 := (xG_FR_all d).1 p0 σ r σ9 h
def xf_FR_readStep (d : Nat) (p0 : Int32) (σ : rb_St) : Option (Int32 × rb_St) := (xG_FR d).2.1 p0 σ
theorem xc_FR_readStep (d : Nat) (p0 : Int32) (σ : rb_St) (r : Int32) (σ9 : rb_St) (h : xf_FR_readStep d p0 σ = some (r, σ9)) : rb_Con rb_vX yX2_readStep cX2_readStep 3 (some .boolean) (2 + d) (fun w => [.ref (rb_ad w 12), .int p0]) σ (fun _ => (some (.int r))) σ9 := (xG_FR_all d).2.1 p0 σ r σ9 h
def xf_FR_readRepeated (d : Nat) (p0 : Int32) (p1 : Int32) (σ : rb_St) : Option (Int32 × rb_St) := (xG_FR d).2.2 p0 p1 σ
theorem xc_FR_readRepeated (d : Nat) (p0 : Int32) (p1 : Int32) (σ : rb_St) (r : Int32) (σ9 : rb_St) (h : xf_FR_readRepeated d p0 p1 σ = some (r, σ9)) : rb_Con rb_vX yX2_readRepeated cX2_readRepeated 4 (some .boolean) (2 + d) (fun w => [.ref (rb_ad w 12), .int p0, .int p1]) σ (fun _ => (some (.int r))) σ9 := (xG_FR_all d).2.2 p0 p1 σ r σ9 h
theorem me_X11_fewFrom : Cond.instanceMethod yX11_fewFrom ∈ rb_tbl ∧ Cond.selects yX11_fewFrom.cls yX11_fewFrom yX11_fewFrom ∈ rb_tbl ∧ Cond.initialized yX11_fewFrom.cls ∈ rb_tbl ∧ Cond.code yX11_fewFrom cX11_fewFrom 10 (some .long) ∈ rb_tbl ∧ rb_pn yX11_fewFrom 5 := ⟨rb_in (by decide +kernel) (by decide +kernel), rb_in (by decide +kernel) (by decide +kernel), rb_in (by decide +kernel) (by decide +kernel), rb_in (by decide +kernel) (by decide +kernel), by decide +kernel, by decide +kernel, by decide +kernel⟩
theorem mv_X11_437 : rb_MV RX11 437 yX11_fewFrom cX11_fewFrom 10 (some .long) 5 := ⟨rb_in (by decide +kernel) (by decide +kernel), me_X11_fewFrom⟩
abbrev xg_RF : Type := (Int32 → Int64 → Nat → Int32 → Int32 → rb_St → Option (Int64 × rb_St)) × (Int32 → Int32 → Int64 → Nat → Int32 → Int32 → rb_St → Option (Int64 × rb_St))
def xg_RF_ok (g : xg_RF) (h0 : Nat) : Prop := (∀ (p0 : Int32) (p1 : Int64) (k3 : Nat) (hk3 : rb_isFig k3) (p2 : Int32) (p3 : Int32) (σ : rb_St) (r : Int64) (σ9 : rb_St), g.1 p0 p1 k3 p2 p3 σ = some (r, σ9) → rb_Con rb_vX yX11_fewFrom cX11_fewFrom 10 (some .long) h0 (fun w => [.ref (rb_ad w 0), .int p0, .long p1, .ref (rb_ad w k3), .int p2, .int p3]) σ (fun _ => (some (.long r))) σ9) ∧ (∀ (p0 : Int32) (p1 : Int32) (p2 : Int64) (k4 : Nat) (hk4 : rb_isFig k4) (p3 : Int32) (p4 : Int32) (σ : rb_St) (r : Int64) (σ9 : rb_St), g.2 p0 p1 p2 k4 p3 p4 σ = some (r, σ9) → rb_Con rb_vX yX11_fewBy cX11_fewBy 8 (some .long) h0 (fun w => [.ref (rb_ad w 0), .int p0, .int p1, .long p2, .ref (rb_ad w k4), .int p3, .int p4]) σ (fun _ => (some (.long r))) σ9)
def xb_RP_fewFrom (g : xg_RF) (p0 : Int32) (p1 : Int64) (k3 : Nat) (p2 : Int32) (p3 : Int32) (σ : rb_St) : Option (Int64 × rb_St) := if (lg_cmp p1 0) = 0 then some (0, σ) else if p0 < 0 then some (0, σ) else if p0 ≤ 8 then if p0 < (σ.1 k3 1) then rb_b1 (xf_Fig_letterAt k3 p0 σ) fun r5 => if rb_ib p0 9 then if (xf_Pole_hasPlace (268 + 5 * p0.toNatClampNeg) (r5 >>> (1 &&& 31)) σ) = 0 then rb_b2 (g.2 p0 r5 p1 k3 p2 p3 σ) fun r17 s15 => some (r17, s15) else rb_b2 (g.2 p0 r5 (p1 - ((p1 * p2.toInt64) / 100)) k3 p2 p3 σ) fun r11 s9 => rb_b2 (g.2 p0 (r5 ^^^ 1) ((p1 * p2.toInt64) / 100) k3 p2 p3 s9) fun r14 s12 => some (r11 + r14, s12) else none else if rb_ib p0 9 then if p3 < (σ.1 (268 + 5 * p0.toNatClampNeg) 1) then some (0, σ) else some (p1, σ) else none else some (0, σ)
set_option maxHeartbeats 4000000 in
set_option maxRecDepth 100000 in
theorem xk_RP_fewFrom {z : rb_Z} {w : rb_Wd} {h0 : Nat} (hb : 5 ≤ h0) {g : xg_RF} (hg : xg_RF_ok g h0) (hC : rb_Cx z rb_vX w RX11 cX11_fewFrom 10 (some .long) (h0 + 1)) (p0 : Int32) (p1 : Int64) (k3 : Nat) (hk3 : rb_isFig k3) (p2 : Int32) (p3 : Int32) (σ : rb_St) (r : Int64) (σ9 : rb_St) (h : xb_RP_fewFrom g p0 p1 k3 p2 p3 σ = some (r, σ9)) : rb_At z rb_vX w 10 (rb_Q z rb_vX w (some (.long r)) σ9) 0 [(0, .ref (rb_ad w 0)), (1, .int p0), (2, .long p1), (4, .ref (rb_ad w k3)), (5, .int p2), (6, .int p3)] [] σ := by
  unfold xb_RP_fewFrom at h
  refine rb_lload_n hC 2 dX11_fewFrom_0 rfl ?_
  refine rb_lconst (x := 0) hC dX11_fewFrom_1 (by decide) ?_
  refine rb_lcmp hC dX11_fewFrom_2 ?_
  refine rb_if_eq hC 16 dX11_fewFrom_3 (by decide) (fun c1 => ?_) (fun c1 => ?_)
  · replace h := rb_ifp c1 h
    refine rb_lconst (x := 0) hC dX11_fewFrom_16 (by decide) ?_
    cases h
    exact rb_lret hC dX11_fewFrom_17
  · replace h := rb_ifn c1 h
    refine rb_iload_n hC 1 dX11_fewFrom_6 rfl ?_
    refine rb_if_lt hC 16 dX11_fewFrom_7 (by decide) (fun c2 => ?_) (fun c2 => ?_)
    · replace h := rb_ifp c2 h
      refine rb_lconst (x := 0) hC dX11_fewFrom_16 (by decide) ?_
      cases h
      exact rb_lret hC dX11_fewFrom_17
    · replace h := rb_ifn c2 h
      refine rb_iload_n hC 1 dX11_fewFrom_10 rfl ?_
      refine rb_bipush (x := 8) hC dX11_fewFrom_11 (by decide) ?_
      refine rb_icmp_le hC 18 dX11_fewFrom_13 (by decide) (fun c3 => ?_) (fun c3 => ?_)
      · replace h := rb_ifp c3 h
        refine rb_iload_n hC 1 dX11_fewFrom_18 rfl ?_
        refine rb_aload hC 3 dX11_fewFrom_19 rfl ?_
        refine rb_getI hC fr_X11_220_1 (rb_obFig hk3) rfl dX11_fewFrom_21 ?_
        refine rb_icmp_lt hC 47 dX11_fewFrom_24 (by decide) (fun c4 => ?_) (fun c4 => ?_)
        · replace h := rb_ifp c4 h
          refine rb_aload hC 3 dX11_fewFrom_47 rfl ?_
          refine rb_iload_n hC 1 dX11_fewFrom_49 rfl ?_
          obtain ⟨r5, q6, h⟩ := rb_b1s h
          refine rb_callVi hC rb_VokX mv_X11_221 (xc_Fig_letterAt k3 hk3 p0 σ _ q6) (rb_obFig hk3) rfl [.int p0] rfl rfl rfl ⟨by omega, Nat.le_of_ble_eq_true rfl⟩ (Nat.le_of_ble_eq_true rfl) dX11_fewFrom_50 ?_
          refine rb_istore hC [(7, .int r5), (0, .ref (rb_ad w 0)), (1, .int p0), (2, .long p1), (4, .ref (rb_ad w k3)), (5, .int p2), (6, .int p3)] dX11_fewFrom_53 (by decide) rfl ?_
          refine rb_aload_n hC 1 dX11_fewFrom_55 rfl ?_
          refine rb_getR hC fr_X11_86_10 rb_obX0 rfl dX11_fewFrom_56 ?_
          refine rb_iload_n hC 2 dX11_fewFrom_59 rfl ?_
          obtain ⟨g7, h⟩ := rb_gd h
          refine rb_aald hC rb_rrX24 (fun _ => rfl) (rb_ibI g7) dX11_fewFrom_60 ?_
          refine rb_iload hC 0 dX11_fewFrom_61 rfl ?_
          refine rb_iconst (x := 1) hC dX11_fewFrom_63 (by decide) ?_
          refine rb_ishr hC dX11_fewFrom_64 ?_
          refine rb_callVi hC rb_VokX mv_X11_211 (xc_Pole_hasPlace (268 + 5 * p0.toNatClampNeg) (rb_isPole_24 g7) (r5 >>> (1 &&& 31)) σ _ rfl) (rb_obPole (rb_isPole_24 g7)) rfl [.int (r5 >>> (1 &&& 31))] rfl rfl rfl ⟨by omega, Nat.le_of_ble_eq_true rfl⟩ (Nat.le_of_ble_eq_true rfl) dX11_fewFrom_65 ?_
          refine rb_if_ne hC 86 dX11_fewFrom_68 (by decide) (fun c8 => ?_) (fun c8 => ?_)
          · replace h := rb_ifn c8 h
            refine rb_lload_n hC 3 dX11_fewFrom_86 rfl ?_
            refine rb_iload hC 5 dX11_fewFrom_87 rfl ?_
            refine rb_i2l hC dX11_fewFrom_89 ?_
            refine rb_lmul hC dX11_fewFrom_90 ?_
            refine rb_ldc2_w hC kc_X11_445 dX11_fewFrom_91 ?_
            refine rb_ldiv hC dX11_fewFrom_94 (by decide) ?_
            refine rb_lstore hC [(8, .long ((p1 * p2.toInt64) / 100)), (7, .int r5), (0, .ref (rb_ad w 0)), (1, .int p0), (2, .long p1), (4, .ref (rb_ad w k3)), (5, .int p2), (6, .int p3)] dX11_fewFrom_95 (by decide) rfl ?_
            refine rb_aload_n hC 2 dX11_fewFrom_97 rfl ?_
            refine rb_iload_n hC 3 dX11_fewFrom_98 rfl ?_
            refine rb_iload hC 1 dX11_fewFrom_99 rfl ?_
            refine rb_lload_n hC 4 dX11_fewFrom_101 rfl ?_
            refine rb_lload hC 0 dX11_fewFrom_102 rfl ?_
            refine rb_lsub hC dX11_fewFrom_104 ?_
            refine rb_aload hC 5 dX11_fewFrom_105 rfl ?_
            refine rb_iload hC 6 dX11_fewFrom_107 rfl ?_
            refine rb_iload hC 7 dX11_fewFrom_109 rfl ?_
            obtain ⟨r11, s9, q10, h⟩ := rb_b2s h
            refine rb_callVj hC rb_VokX mv_X11_441 (hg.2 p0 r5 (p1 - ((p1 * p2.toInt64) / 100)) k3 hk3 p2 p3 σ _ _ q10) rb_obX0 rfl [.int p0, .int r5, .long (p1 - ((p1 * p2.toInt64) / 100)), .ref (rb_ad w k3), .int p2, .int p3] rfl rfl rfl ⟨by omega, Nat.le_of_ble_eq_true rfl⟩ (Nat.le_of_ble_eq_true rfl) dX11_fewFrom_111 ?_
            refine rb_aload_n hC 2 dX11_fewFrom_114 rfl ?_
            refine rb_iload_n hC 3 dX11_fewFrom_115 rfl ?_
            refine rb_iload hC 1 dX11_fewFrom_116 rfl ?_
            refine rb_iconst (x := 1) hC dX11_fewFrom_118 (by decide) ?_
            refine rb_ixor hC dX11_fewFrom_119 ?_
            refine rb_lload hC 0 dX11_fewFrom_120 rfl ?_
            refine rb_aload hC 5 dX11_fewFrom_122 rfl ?_
            refine rb_iload hC 6 dX11_fewFrom_124 rfl ?_
            refine rb_iload hC 7 dX11_fewFrom_126 rfl ?_
            obtain ⟨r14, s12, q13, h⟩ := rb_b2s h
            refine rb_callVj hC rb_VokX mv_X11_441 (hg.2 p0 (r5 ^^^ 1) ((p1 * p2.toInt64) / 100) k3 hk3 p2 p3 s9 _ _ q13) rb_obX0 rfl [.int p0, .int (r5 ^^^ 1), .long ((p1 * p2.toInt64) / 100), .ref (rb_ad w k3), .int p2, .int p3] rfl rfl rfl ⟨by omega, Nat.le_of_ble_eq_true rfl⟩ (Nat.le_of_ble_eq_true rfl) dX11_fewFrom_128 ?_
            refine rb_ladd hC dX11_fewFrom_131 ?_
            cases h
            exact rb_lret hC dX11_fewFrom_132
          · replace h := rb_ifp c8 h
            refine rb_aload_n hC 1 dX11_fewFrom_71 rfl ?_
            refine rb_iload_n hC 2 dX11_fewFrom_72 rfl ?_
            refine rb_iload hC 0 dX11_fewFrom_73 rfl ?_
            refine rb_lload_n hC 3 dX11_fewFrom_75 rfl ?_
            refine rb_aload hC 4 dX11_fewFrom_76 rfl ?_
            refine rb_iload hC 5 dX11_fewFrom_78 rfl ?_
            refine rb_iload hC 6 dX11_fewFrom_80 rfl ?_
            obtain ⟨r17, s15, q16, h⟩ := rb_b2s h
            refine rb_callVj hC rb_VokX mv_X11_441 (hg.2 p0 r5 p1 k3 hk3 p2 p3 σ _ _ q16) rb_obX0 rfl [.int p0, .int r5, .long p1, .ref (rb_ad w k3), .int p2, .int p3] rfl rfl rfl ⟨by omega, Nat.le_of_ble_eq_true rfl⟩ (Nat.le_of_ble_eq_true rfl) dX11_fewFrom_82 ?_
            cases h
            exact rb_lret hC dX11_fewFrom_85
        · replace h := rb_ifn c4 h
          refine rb_aload_n hC 0 dX11_fewFrom_27 rfl ?_
          refine rb_getR hC fr_X11_86_10 rb_obX0 rfl dX11_fewFrom_28 ?_
          refine rb_iload_n hC 1 dX11_fewFrom_31 rfl ?_
          obtain ⟨g18, h⟩ := rb_gd h
          refine rb_aald hC rb_rrX24 (fun _ => rfl) (rb_ibI g18) dX11_fewFrom_32 ?_
          refine rb_getI hC fr_X11_224_7 (rb_obPole (rb_isPole_24 g18)) rfl dX11_fewFrom_33 ?_
          refine rb_iload hC 5 dX11_fewFrom_36 rfl ?_
          refine rb_icmp_gt hC 45 dX11_fewFrom_38 (by decide) (fun c19 => ?_) (fun c19 => ?_)
          · replace h := rb_ifp c19 h
            refine rb_lconst (x := 0) hC dX11_fewFrom_45 (by decide) ?_
            cases h
            exact rb_lret hC dX11_fewFrom_46
          · replace h := rb_ifn c19 h
            refine rb_lload_n hC 2 dX11_fewFrom_41 rfl ?_
            refine rb_goto hC 46 dX11_fewFrom_42 (by decide) ?_
            cases h
            exact rb_lret hC dX11_fewFrom_46
      · replace h := rb_ifn c3 h
        refine rb_lconst (x := 0) hC dX11_fewFrom_16 (by decide) ?_
        cases h
        exact rb_lret hC dX11_fewFrom_17
def xb_RP_fewBy (g : xg_RF) (p0 : Int32) (p1 : Int32) (p2 : Int64) (k4 : Nat) (p3 : Int32) (p4 : Int32) (σ : rb_St) : Option (Int64 × rb_St) := if (lg_cmp p2 0) = 0 then some (0, σ) else if p0 < 0 then some (0, σ) else if p0 < 8 then if rb_ib (p0 + 1) 9 then if rb_ib p0 9 then rb_b1 (xf_Pole_standAs (268 + 5 * (p0 + 1).toNatClampNeg) (268 + 5 * p0.toNatClampNeg) σ) fun s6 => rb_b1 (xf_Pole_moveEndless (268 + 5 * (p0 + 1).toNatClampNeg) p1 s6) fun s8 => rb_b2 (g.1 (p0 + 1) p2 k4 p3 p4 s8) fun r12 s10 => some (r12, s10) else none else none else some (0, σ)
set_option maxHeartbeats 4000000 in
set_option maxRecDepth 100000 in
theorem xk_RP_fewBy {z : rb_Z} {w : rb_Wd} {h0 : Nat} (hb : 5 ≤ h0) {g : xg_RF} (hg : xg_RF_ok g h0) (hC : rb_Cx z rb_vX w RX11 cX11_fewBy 8 (some .long) (h0 + 1)) (p0 : Int32) (p1 : Int32) (p2 : Int64) (k4 : Nat) (hk4 : rb_isFig k4) (p3 : Int32) (p4 : Int32) (σ : rb_St) (r : Int64) (σ9 : rb_St) (h : xb_RP_fewBy g p0 p1 p2 k4 p3 p4 σ = some (r, σ9)) : rb_At z rb_vX w 8 (rb_Q z rb_vX w (some (.long r)) σ9) 0 [(0, .ref (rb_ad w 0)), (1, .int p0), (2, .int p1), (3, .long p2), (5, .ref (rb_ad w k4)), (6, .int p3), (7, .int p4)] [] σ := by
  unfold xb_RP_fewBy at h
  refine rb_lload_n hC 3 dX11_fewBy_0 rfl ?_
  refine rb_lconst (x := 0) hC dX11_fewBy_1 (by decide) ?_
  refine rb_lcmp hC dX11_fewBy_2 ?_
  refine rb_if_eq hC 16 dX11_fewBy_3 (by decide) (fun c1 => ?_) (fun c1 => ?_)
  · replace h := rb_ifp c1 h
    refine rb_lconst (x := 0) hC dX11_fewBy_16 (by decide) ?_
    cases h
    exact rb_lret hC dX11_fewBy_17
  · replace h := rb_ifn c1 h
    refine rb_iload_n hC 1 dX11_fewBy_6 rfl ?_
    refine rb_if_lt hC 16 dX11_fewBy_7 (by decide) (fun c2 => ?_) (fun c2 => ?_)
    · replace h := rb_ifp c2 h
      refine rb_lconst (x := 0) hC dX11_fewBy_16 (by decide) ?_
      cases h
      exact rb_lret hC dX11_fewBy_17
    · replace h := rb_ifn c2 h
      refine rb_iload_n hC 1 dX11_fewBy_10 rfl ?_
      refine rb_bipush (x := 8) hC dX11_fewBy_11 (by decide) ?_
      refine rb_icmp_lt hC 18 dX11_fewBy_13 (by decide) (fun c3 => ?_) (fun c3 => ?_)
      · replace h := rb_ifp c3 h
        refine rb_aload_n hC 0 dX11_fewBy_18 rfl ?_
        refine rb_getR hC fr_X11_86_10 rb_obX0 rfl dX11_fewBy_19 ?_
        refine rb_iload_n hC 1 dX11_fewBy_22 rfl ?_
        refine rb_iconst (x := 1) hC dX11_fewBy_23 (by decide) ?_
        refine rb_iadd hC dX11_fewBy_24 ?_
        obtain ⟨g4, h⟩ := rb_gd h
        refine rb_aald hC rb_rrX24 (fun _ => rfl) (rb_ibI g4) dX11_fewBy_25 ?_
        refine rb_aload_n hC 0 dX11_fewBy_26 rfl ?_
        refine rb_getR hC fr_X11_86_10 rb_obX0 rfl dX11_fewBy_27 ?_
        refine rb_iload_n hC 1 dX11_fewBy_30 rfl ?_
        obtain ⟨g5, h⟩ := rb_gd h
        refine rb_aald hC rb_rrX24 (fun _ => rfl) (rb_ibI g5) dX11_fewBy_31 ?_
        obtain ⟨s6, q7, h⟩ := rb_b1s h
        refine rb_callVv hC rb_VokX mv_X11_409 (xc_Pole_standAs (268 + 5 * (p0 + 1).toNatClampNeg) (rb_isPole_24 g4) (268 + 5 * p0.toNatClampNeg) (rb_isPole_24 g5) σ _ q7) (rb_obPole (rb_isPole_24 g4)) rfl [.ref (rb_ad w (268 + 5 * p0.toNatClampNeg))] rfl rfl rfl ⟨by omega, Nat.le_of_ble_eq_true rfl⟩ (Nat.le_of_ble_eq_true rfl) dX11_fewBy_32 ?_
        refine rb_aload_n hC 0 dX11_fewBy_35 rfl ?_
        refine rb_getR hC fr_X11_86_10 rb_obX0 rfl dX11_fewBy_36 ?_
        refine rb_iload_n hC 1 dX11_fewBy_39 rfl ?_
        refine rb_iconst (x := 1) hC dX11_fewBy_40 (by decide) ?_
        refine rb_iadd hC dX11_fewBy_41 ?_
        refine rb_aald hC rb_rrX24 (fun _ => rfl) (rb_ibI g4) dX11_fewBy_42 ?_
        refine rb_iload_n hC 2 dX11_fewBy_43 rfl ?_
        obtain ⟨s8, q9, h⟩ := rb_b1s h
        refine rb_callVv hC rb_VokX mv_X11_388 (xc_Pole_moveEndless (268 + 5 * (p0 + 1).toNatClampNeg) (rb_isPole_24 g4) p1 s6 _ q9) (rb_obPole (rb_isPole_24 g4)) rfl [.int p1] rfl rfl rfl ⟨by omega, Nat.le_of_ble_eq_true rfl⟩ (Nat.le_of_ble_eq_true rfl) dX11_fewBy_44 ?_
        refine rb_aload_n hC 0 dX11_fewBy_47 rfl ?_
        refine rb_iload_n hC 1 dX11_fewBy_48 rfl ?_
        refine rb_iconst (x := 1) hC dX11_fewBy_49 (by decide) ?_
        refine rb_iadd hC dX11_fewBy_50 ?_
        refine rb_lload_n hC 3 dX11_fewBy_51 rfl ?_
        refine rb_aload hC 4 dX11_fewBy_52 rfl ?_
        refine rb_iload hC 5 dX11_fewBy_54 rfl ?_
        refine rb_iload hC 6 dX11_fewBy_56 rfl ?_
        obtain ⟨r12, s10, q11, h⟩ := rb_b2s h
        refine rb_callVj hC rb_VokX mv_X11_437 (hg.1 (p0 + 1) p2 k4 hk4 p3 p4 s8 _ _ q11) rb_obX0 rfl [.int (p0 + 1), .long p2, .ref (rb_ad w k4), .int p3, .int p4] rfl rfl rfl ⟨by omega, Nat.le_of_ble_eq_true rfl⟩ (Nat.le_of_ble_eq_true rfl) dX11_fewBy_58 ?_
        cases h
        exact rb_lret hC dX11_fewBy_61
      · replace h := rb_ifn c3 h
        refine rb_lconst (x := 0) hC dX11_fewBy_16 (by decide) ?_
        cases h
        exact rb_lret hC dX11_fewBy_17
def xG_RF : Nat → xg_RF
  | 0 => (fun _ _ _ _ _ _ => none, fun _ _ _ _ _ _ _ => none)
  | d + 1 => (xb_RP_fewFrom (xG_RF d), xb_RP_fewBy (xG_RF d))
theorem xG_RF_all : ∀ d : Nat, xg_RF_ok (xG_RF d) (5 + d) := by
  intro d
  induction d with
  | zero => exact ⟨fun _ _ _ _ _ _ _ _ _ h => by cases h, fun _ _ _ _ _ _ _ _ _ _ h => by cases h⟩
  | succ d ih =>
    have hb : 5 ≤ 5 + d := Nat.le_add_right _ _
    exact ⟨fun p0 p1 k3 hk3 p2 p3 σ r σ9 h => rb_Con.of (by decide +kernel) (fun _ => Nat.le_of_ble_eq_true rfl) (fun z w hC => xk_RP_fewFrom hb ih hC p0 p1 k3 hk3 p2 p3 σ r σ9 h),
      fun p0 p1 p2 k4 hk4 p3 p4 σ r σ9 h => rb_Con.of (by decide +kernel) (fun _ => Nat.le_of_ble_eq_true rfl) (fun z w hC => xk_RP_fewBy hb ih hC p0 p1 p2 k4 hk4 p3 p4 σ r σ9 h)⟩
def xf_RP_fewFrom (d : Nat) (p0 : Int32) (p1 : Int64) (k3 : Nat) (p2 : Int32) (p3 : Int32) (σ : rb_St) : Option (Int64 × rb_St) := (xG_RF d).1 p0 p1 k3 p2 p3 σ
theorem xc_RP_fewFrom (d : Nat) (p0 : Int32) (p1 : Int64) (k3 : Nat) (hk3 : rb_isFig k3) (p2 : Int32) (p3 : Int32) (σ : rb_St) (r : Int64) (σ9 : rb_St) (h : xf_RP_fewFrom d p0 p1 k3 p2 p3 σ = some (r, σ9)) : rb_Con rb_vX yX11_fewFrom cX11_fewFrom 10 (some .long) (5 + d) (fun w => [.ref (rb_ad w 0), .int p0, .long p1, .ref (rb_ad w k3), .int p2, .int p3]) σ (fun _ => (some (.long r))) σ9 := (xG_RF_all d).1 p0 p1 k3 hk3 p2 p3 σ r σ9 h
def xf_RP_fewBy (d : Nat) (p0 : Int32) (p1 : Int32) (p2 : Int64) (k4 : Nat) (p3 : Int32) (p4 : Int32) (σ : rb_St) : Option (Int64 × rb_St) := (xG_RF d).2 p0 p1 p2 k4 p3 p4 σ
theorem xc_RP_fewBy (d : Nat) (p0 : Int32) (p1 : Int32) (p2 : Int64) (k4 : Nat) (hk4 : rb_isFig k4) (p3 : Int32) (p4 : Int32) (σ : rb_St) (r : Int64) (σ9 : rb_St) (h : xf_RP_fewBy d p0 p1 p2 k4 p3 p4 σ = some (r, σ9)) : rb_Con rb_vX yX11_fewBy cX11_fewBy 8 (some .long) (5 + d) (fun w => [.ref (rb_ad w 0), .int p0, .int p1, .long p2, .ref (rb_ad w k4), .int p3, .int p4]) σ (fun _ => (some (.long r))) σ9 := (xG_RF_all d).2 p0 p1 p2 k4 hk4 p3 p4 σ r σ9 h
theorem me_X5_run : Cond.instanceMethod yX5_run ∈ rb_tbl ∧ Cond.selects yX5_run.cls yX5_run yX5_run ∈ rb_tbl ∧ Cond.initialized yX5_run.cls ∈ rb_tbl ∧ Cond.code yX5_run cX5_run 4 none ∈ rb_tbl ∧ rb_pn yX5_run 1 := ⟨rb_in (by decide +kernel) (by decide +kernel), rb_in (by decide +kernel) (by decide +kernel), rb_in (by decide +kernel) (by decide +kernel), rb_in (by decide +kernel) (by decide +kernel), by decide +kernel, by decide +kernel, by decide +kernel⟩
theorem mv_X5_38 : rb_MV RX5 38 yX5_run cX5_run 4 none 1 := ⟨rb_in (by decide +kernel) (by decide +kernel), me_X5_run⟩
def xl_Law_worth_56 (k0 : Nat) : Nat → Int32 → Int32 → rb_St → Option (Nat × rb_St)
  | 0, _, _, _ => none
  | n + 1, x7, x8, σ => if (σ.1 k0 1) ≤ x8 then some (1, σ) else if rb_ib x8 240 then if x7 = 0 then if (σ.1 (k0 + 1) x8.toNatClampNeg) = (-22) then some (0, σ) else if (σ.1 (k0 + 1) x8.toNatClampNeg) = (-21) then rb_b2 (xf_Law_pop k0 σ) fun r24 s22 => if r24 = 0 then xl_Law_worth_56 k0 n 1 (x8 + 1) s22 else xl_Law_worth_56 k0 n 0 (x8 + 1) s22 else rb_b1 (xf_Law_run k0 (σ.1 (k0 + 1) x8.toNatClampNeg) σ) fun s20 => xl_Law_worth_56 k0 n x7 (x8 + 1) s20 else if (σ.1 (k0 + 1) x8.toNatClampNeg) = (-22) then xl_Law_worth_56 k0 n 0 (x8 + 1) σ else xl_Law_worth_56 k0 n 1 (x8 + 1) σ else none
set_option maxHeartbeats 4000000 in
set_option maxRecDepth 100000 in
theorem xt_Law_worth_56 {z : rb_Z} {w : rb_Wd} {Q : State → Prop} (hC : rb_Cx z rb_vX w RX5 cX5_worth 10 (some .int) 3) (k0 : Nat) (hk0 : rb_isLaw k0) : ∀ (n : Nat) (x7 : Int32) (x8 : Int32) (σ : rb_St) (t : Nat) (σ9 : rb_St), xl_Law_worth_56 k0 n x7 x8 σ = some (t, σ9) → (t = 0 → rb_At z rb_vX w 10 Q 103 [(0, .ref (rb_ad w k0))] [] σ9) → (t = 1 → rb_At z rb_vX w 10 Q 144 [] [] σ9) → rb_At z rb_vX w 10 Q 56 [(0, .ref (rb_ad w k0)), (7, .int x7), (8, .int x8)] [] σ := by
  intro n
  induction n with
  | zero =>
    intro x7 x8 σ t σ9 h hE0 hE1
    cases h
  | succ n ih =>
    intro x7 x8 σ t σ9 h hE0 hE1
    rw [xl_Law_worth_56] at h
    refine rb_iload hC 2 dX5_worth_56 rfl ?_
    refine rb_aload_n hC 0 dX5_worth_58 rfl ?_
    refine rb_getI hC fr_X5_21_5 (rb_obLaw hk0) rfl dX5_worth_59 ?_
    refine rb_icmp_ge hC 144 dX5_worth_62 (by decide) (fun c15 => ?_) (fun c15 => ?_)
    · replace h := rb_ifp c15 h
      cases h
      exact rb_sub [] rfl (hE1 rfl)
    · replace h := rb_ifn c15 h
      refine rb_aload_n hC 0 dX5_worth_65 rfl ?_
      refine rb_getR hC fr_X5_9_5 (rb_obLaw hk0) rfl dX5_worth_66 ?_
      refine rb_iload hC 2 dX5_worth_69 rfl ?_
      obtain ⟨g16, h⟩ := rb_gd h
      refine rb_iald hC (rb_arLaw1 hk0) (rb_ibI g16) dX5_worth_71 ?_
      refine rb_istore hC [(9, .int (σ.1 (k0 + 1) x8.toNatClampNeg)), (0, .ref (rb_ad w k0)), (7, .int x7), (8, .int x8)] dX5_worth_72 (by decide) rfl ?_
      refine rb_iload hC 2 dX5_worth_74 rfl ?_
      refine rb_if_eq hC 96 dX5_worth_76 (by decide) (fun c17 => ?_) (fun c17 => ?_)
      · replace h := rb_ifp c17 h
        refine rb_iload hC 0 dX5_worth_96 rfl ?_
        refine rb_bipush (x := (-22)) hC dX5_worth_98 (by decide) ?_
        refine rb_icmp_ne hC 108 dX5_worth_100 (by decide) (fun c18 => ?_) (fun c18 => ?_)
        · replace h := rb_ifn c18 h
          refine rb_iload hC 0 dX5_worth_108 rfl ?_
          refine rb_bipush (x := (-21)) hC dX5_worth_110 (by decide) ?_
          refine rb_icmp_ne hC 132 dX5_worth_112 (by decide) (fun c19 => ?_) (fun c19 => ?_)
          · replace h := rb_ifn c19 h
            refine rb_aload_n hC 1 dX5_worth_132 rfl ?_
            refine rb_iload hC 0 dX5_worth_133 rfl ?_
            obtain ⟨s20, q21, h⟩ := rb_b1s h
            refine rb_callVv hC rb_VokX mv_X5_38 (xc_Law_run k0 hk0 (σ.1 (k0 + 1) x8.toNatClampNeg) σ _ q21) (rb_obLaw hk0) rfl [.int (σ.1 (k0 + 1) x8.toNatClampNeg)] rfl rfl rfl ⟨Nat.le_of_ble_eq_true rfl, Nat.le_of_ble_eq_true rfl⟩ (Nat.le_of_ble_eq_true rfl) dX5_worth_135 ?_
            refine rb_iinc hC 3 [(8, .int (x8 + 1)), (9, .int (σ.1 (k0 + 1) x8.toNatClampNeg)), (0, .ref (rb_ad w k0)), (7, .int x7)] dX5_worth_138 rfl rfl (by decide) rfl ?_
            refine rb_goto hC 56 dX5_worth_141 (by decide) ?_
            exact rb_sub [2, 3, 0] rfl (ih x7 (x8 + 1) s20 _ _ h hE0 hE1)
          · replace h := rb_ifp c19 h
            refine rb_aload_n hC 1 dX5_worth_115 rfl ?_
            obtain ⟨r24, s22, q23, h⟩ := rb_b2s h
            refine rb_callVi hC rb_VokX mv_X5_34 (xc_Law_pop k0 hk0 σ _ _ q23) (rb_obLaw hk0) rfl [] rfl rfl rfl ⟨Nat.le_of_ble_eq_true rfl, Nat.le_of_ble_eq_true rfl⟩ (Nat.le_of_ble_eq_true rfl) dX5_worth_116 ?_
            refine rb_if_ne hC 126 dX5_worth_119 (by decide) (fun c25 => ?_) (fun c25 => ?_)
            · replace h := rb_ifn c25 h
              refine rb_iconst (x := 0) hC dX5_worth_126 (by decide) ?_
              refine rb_istore hC [(7, .int 0), (9, .int (σ.1 (k0 + 1) x8.toNatClampNeg)), (0, .ref (rb_ad w k0)), (8, .int x8)] dX5_worth_127 (by decide) rfl ?_
              refine rb_goto hC 138 dX5_worth_129 (by decide) ?_
              refine rb_iinc hC 3 [(8, .int (x8 + 1)), (7, .int 0), (9, .int (σ.1 (k0 + 1) x8.toNatClampNeg)), (0, .ref (rb_ad w k0))] dX5_worth_138 rfl rfl (by decide) rfl ?_
              refine rb_goto hC 56 dX5_worth_141 (by decide) ?_
              exact rb_sub [3, 1, 0] rfl (ih 0 (x8 + 1) s22 _ _ h hE0 hE1)
            · replace h := rb_ifp c25 h
              refine rb_iconst (x := 1) hC dX5_worth_122 (by decide) ?_
              refine rb_goto hC 127 dX5_worth_123 (by decide) ?_
              refine rb_istore hC [(7, .int 1), (9, .int (σ.1 (k0 + 1) x8.toNatClampNeg)), (0, .ref (rb_ad w k0)), (8, .int x8)] dX5_worth_127 (by decide) rfl ?_
              refine rb_goto hC 138 dX5_worth_129 (by decide) ?_
              refine rb_iinc hC 3 [(8, .int (x8 + 1)), (7, .int 1), (9, .int (σ.1 (k0 + 1) x8.toNatClampNeg)), (0, .ref (rb_ad w k0))] dX5_worth_138 rfl rfl (by decide) rfl ?_
              refine rb_goto hC 56 dX5_worth_141 (by decide) ?_
              exact rb_sub [3, 1, 0] rfl (ih 1 (x8 + 1) s22 _ _ h hE0 hE1)
        · replace h := rb_ifp c18 h
          cases h
          exact rb_sub [1] rfl (hE0 rfl)
      · replace h := rb_ifn c17 h
        refine rb_iload hC 0 dX5_worth_79 rfl ?_
        refine rb_bipush (x := (-22)) hC dX5_worth_81 (by decide) ?_
        refine rb_icmp_eq hC 90 dX5_worth_83 (by decide) (fun c26 => ?_) (fun c26 => ?_)
        · replace h := rb_ifp c26 h
          refine rb_iconst (x := 0) hC dX5_worth_90 (by decide) ?_
          refine rb_istore hC [(7, .int 0), (9, .int (σ.1 (k0 + 1) x8.toNatClampNeg)), (0, .ref (rb_ad w k0)), (8, .int x8)] dX5_worth_91 (by decide) rfl ?_
          refine rb_goto hC 138 dX5_worth_93 (by decide) ?_
          refine rb_iinc hC 3 [(8, .int (x8 + 1)), (7, .int 0), (9, .int (σ.1 (k0 + 1) x8.toNatClampNeg)), (0, .ref (rb_ad w k0))] dX5_worth_138 rfl rfl (by decide) rfl ?_
          refine rb_goto hC 56 dX5_worth_141 (by decide) ?_
          exact rb_sub [3, 1, 0] rfl (ih 0 (x8 + 1) σ _ _ h hE0 hE1)
        · replace h := rb_ifn c26 h
          refine rb_iconst (x := 1) hC dX5_worth_86 (by decide) ?_
          refine rb_goto hC 91 dX5_worth_87 (by decide) ?_
          refine rb_istore hC [(7, .int 1), (9, .int (σ.1 (k0 + 1) x8.toNatClampNeg)), (0, .ref (rb_ad w k0)), (8, .int x8)] dX5_worth_91 (by decide) rfl ?_
          refine rb_goto hC 138 dX5_worth_93 (by decide) ?_
          refine rb_iinc hC 3 [(8, .int (x8 + 1)), (7, .int 1), (9, .int (σ.1 (k0 + 1) x8.toNatClampNeg)), (0, .ref (rb_ad w k0))] dX5_worth_138 rfl rfl (by decide) rfl ?_
          refine rb_goto hC 56 dX5_worth_141 (by decide) ?_
          exact rb_sub [3, 1, 0] rfl (ih 1 (x8 + 1) σ _ _ h hE0 hE1)
def xf_Law_worth (k0 : Nat) (p0 : Int32) (p1 : Int32) (p2 : Int32) (p3 : Int32) (p4 : Int32) (p5 : Int32) (σ : rb_St) : Option (Int32 × rb_St) := rb_lt (rb_sI σ (k0 + 2) 0 p0) (fun s1 => rb_lt (rb_sI s1 (k0 + 2) 1 p1) (fun s3 => rb_lt (rb_sI s3 (k0 + 2) 2 p2) (fun s5 => rb_lt (rb_sI s5 (k0 + 2) 3 p3) (fun s7 => rb_lt (rb_sI s7 (k0 + 2) 4 p4) (fun s9 => rb_lt (rb_sI s9 (k0 + 2) 5 p5) (fun s11 => rb_lt (rb_sI s11 k0 4 0) (fun s13 => rb_b2 (xl_Law_worth_56 k0 rb_FU 0 0 s13) fun t27 s28 => if t27 = 0 then rb_b2 (xf_Law_pop k0 s28) fun r32 s30 => some (r32, s30) else some (0, s28))))))))
set_option maxHeartbeats 4000000 in
set_option maxRecDepth 100000 in
theorem xk_Law_worth {z : rb_Z} {w : rb_Wd} (hC : rb_Cx z rb_vX w RX5 cX5_worth 10 (some .int) 3) (k0 : Nat) (hk0 : rb_isLaw k0) (p0 : Int32) (p1 : Int32) (p2 : Int32) (p3 : Int32) (p4 : Int32) (p5 : Int32) (σ : rb_St) (r : Int32) (σ9 : rb_St) (h : xf_Law_worth k0 p0 p1 p2 p3 p4 p5 σ = some (r, σ9)) : rb_At z rb_vX w 10 (rb_Q z rb_vX w (some (.int r)) σ9) 0 [(0, .ref (rb_ad w k0)), (1, .int p0), (2, .int p1), (3, .int p2), (4, .int p3), (5, .int p4), (6, .int p5)] [] σ := by
  unfold xf_Law_worth at h
  refine rb_aload_n hC 0 dX5_worth_0 rfl ?_
  refine rb_getR hC fr_X5_15_5 (rb_obLaw hk0) rfl dX5_worth_1 ?_
  refine rb_iconst (x := 0) hC dX5_worth_4 (by decide) ?_
  refine rb_iload_n hC 1 dX5_worth_5 rfl ?_
  refine rb_iast hC (rb_arLaw2 hk0) (rb_ibI (by decide)) dX5_worth_6 ?_
  obtain ⟨s1, e2, h⟩ := rb_ltE h
  refine rb_nmS e2 ?_
  refine rb_aload_n hC 0 dX5_worth_7 rfl ?_
  refine rb_getR hC fr_X5_15_5 (rb_obLaw hk0) rfl dX5_worth_8 ?_
  refine rb_iconst (x := 1) hC dX5_worth_11 (by decide) ?_
  refine rb_iload_n hC 2 dX5_worth_12 rfl ?_
  refine rb_iast hC (rb_arLaw2 hk0) (rb_ibI (by decide)) dX5_worth_13 ?_
  obtain ⟨s3, e4, h⟩ := rb_ltE h
  refine rb_nmS e4 ?_
  refine rb_aload_n hC 0 dX5_worth_14 rfl ?_
  refine rb_getR hC fr_X5_15_5 (rb_obLaw hk0) rfl dX5_worth_15 ?_
  refine rb_iconst (x := 2) hC dX5_worth_18 (by decide) ?_
  refine rb_iload_n hC 3 dX5_worth_19 rfl ?_
  refine rb_iast hC (rb_arLaw2 hk0) (rb_ibI (by decide)) dX5_worth_20 ?_
  obtain ⟨s5, e6, h⟩ := rb_ltE h
  refine rb_nmS e6 ?_
  refine rb_aload_n hC 0 dX5_worth_21 rfl ?_
  refine rb_getR hC fr_X5_15_5 (rb_obLaw hk0) rfl dX5_worth_22 ?_
  refine rb_iconst (x := 3) hC dX5_worth_25 (by decide) ?_
  refine rb_iload hC 4 dX5_worth_26 rfl ?_
  refine rb_iast hC (rb_arLaw2 hk0) (rb_ibI (by decide)) dX5_worth_28 ?_
  obtain ⟨s7, e8, h⟩ := rb_ltE h
  refine rb_nmS e8 ?_
  refine rb_aload_n hC 0 dX5_worth_29 rfl ?_
  refine rb_getR hC fr_X5_15_5 (rb_obLaw hk0) rfl dX5_worth_30 ?_
  refine rb_iconst (x := 4) hC dX5_worth_33 (by decide) ?_
  refine rb_iload hC 5 dX5_worth_34 rfl ?_
  refine rb_iast hC (rb_arLaw2 hk0) (rb_ibI (by decide)) dX5_worth_36 ?_
  obtain ⟨s9, e10, h⟩ := rb_ltE h
  refine rb_nmS e10 ?_
  refine rb_aload_n hC 0 dX5_worth_37 rfl ?_
  refine rb_getR hC fr_X5_15_5 (rb_obLaw hk0) rfl dX5_worth_38 ?_
  refine rb_iconst (x := 5) hC dX5_worth_41 (by decide) ?_
  refine rb_iload hC 6 dX5_worth_42 rfl ?_
  refine rb_iast hC (rb_arLaw2 hk0) (rb_ibI (by decide)) dX5_worth_44 ?_
  obtain ⟨s11, e12, h⟩ := rb_ltE h
  refine rb_nmS e12 ?_
  refine rb_aload_n hC 0 dX5_worth_45 rfl ?_
  refine rb_iconst (x := 0) hC dX5_worth_46 (by decide) ?_
  refine rb_putI hC fr_X5_31_5 ft_5_4 (rb_obLaw hk0) rfl rfl rfl dX5_worth_47 ?_
  obtain ⟨s13, e14, h⟩ := rb_ltE h
  refine rb_nmS e14 ?_
  refine rb_iconst (x := 0) hC dX5_worth_50 (by decide) ?_
  refine rb_istore hC [(7, .int 0), (0, .ref (rb_ad w k0)), (1, .int p0), (2, .int p1), (3, .int p2), (4, .int p3), (5, .int p4), (6, .int p5)] dX5_worth_51 (by decide) rfl ?_
  refine rb_iconst (x := 0) hC dX5_worth_53 (by decide) ?_
  refine rb_istore hC [(8, .int 0), (7, .int 0), (0, .ref (rb_ad w k0)), (1, .int p0), (2, .int p1), (3, .int p2), (4, .int p3), (5, .int p4), (6, .int p5)] dX5_worth_54 (by decide) rfl ?_
  obtain ⟨t27, s28, q29, h⟩ := rb_b2s h
  refine rb_sub (lv2 := [(0, .ref (rb_ad w k0)), (7, .int 0), (8, .int 0)]) [2, 1, 0] rfl ?_
  refine xt_Law_worth_56 hC k0 hk0 rb_FU 0 0 s13 _ _ q29 (fun ht => ?_) (fun ht => ?_)
  · subst ht
    replace h := rb_ifp rfl h
    refine rb_aload_n hC 0 dX5_worth_103 rfl ?_
    obtain ⟨r32, s30, q31, h⟩ := rb_b2s h
    refine rb_callVi hC rb_VokX mv_X5_34 (xc_Law_pop k0 hk0 s28 _ _ q31) (rb_obLaw hk0) rfl [] rfl rfl rfl ⟨Nat.le_of_ble_eq_true rfl, Nat.le_of_ble_eq_true rfl⟩ (Nat.le_of_ble_eq_true rfl) dX5_worth_104 ?_
    cases h
    exact rb_iret hC dX5_worth_107
  · subst ht
    replace h := rb_ifn (by decide) h
    refine rb_iconst (x := 0) hC dX5_worth_144 (by decide) ?_
    cases h
    exact rb_iret hC dX5_worth_145
theorem xc_Law_worth (k0 : Nat) (hk0 : rb_isLaw k0) (p0 : Int32) (p1 : Int32) (p2 : Int32) (p3 : Int32) (p4 : Int32) (p5 : Int32) (σ : rb_St) (r : Int32) (σ9 : rb_St) (h : xf_Law_worth k0 p0 p1 p2 p3 p4 p5 σ = some (r, σ9)) : rb_Con rb_vX yX5_worth cX5_worth 10 (some .int) 3 (fun w => [.ref (rb_ad w k0), .int p0, .int p1, .int p2, .int p3, .int p4, .int p5]) σ (fun _ => (some (.int r))) σ9 := rb_Con.of (by decide +kernel) (fun _ => Nat.le_of_ble_eq_true rfl) (fun z w hC => xk_Law_worth hC k0 hk0 p0 p1 p2 p3 p4 p5 σ r σ9 h)
theorem me_J6_bitCount_0f7a4 : Cond.static yJ6_bitCount_0f7a4 ∈ rb_tbl ∧ Cond.initialized yJ6_bitCount_0f7a4.cls ∈ rb_tbl ∧ Cond.code yJ6_bitCount_0f7a4 cJ6_bitCount_0f7a4 1 (some .int) ∈ rb_tbl ∧ rb_pn yJ6_bitCount_0f7a4 1 := ⟨rb_in (by decide +kernel) (by decide +kernel), rb_in (by decide +kernel) (by decide +kernel), rb_in (by decide +kernel) (by decide +kernel), by decide +kernel, by decide +kernel, by decide +kernel⟩
theorem mv_X10_44 : rb_MS RX10 44 yJ6_bitCount_0f7a4 cJ6_bitCount_0f7a4 1 (some .int) 1 := ⟨rb_in (by decide +kernel) (by decide +kernel), me_J6_bitCount_0f7a4⟩
theorem me_X10_crossingsWith : Cond.instanceMethod yX10_crossingsWith ∈ rb_tbl ∧ Cond.selects yX10_crossingsWith.cls yX10_crossingsWith yX10_crossingsWith ∈ rb_tbl ∧ Cond.initialized yX10_crossingsWith.cls ∈ rb_tbl ∧ Cond.code yX10_crossingsWith cX10_crossingsWith 6 (some .int) ∈ rb_tbl ∧ rb_pn yX10_crossingsWith 1 := ⟨rb_in (by decide +kernel) (by decide +kernel), rb_in (by decide +kernel) (by decide +kernel), rb_in (by decide +kernel) (by decide +kernel), rb_in (by decide +kernel) (by decide +kernel), by decide +kernel, by decide +kernel, by decide +kernel⟩
theorem mv_X10_48 : rb_MV RX10 48 yX10_crossingsWith cX10_crossingsWith 6 (some .int) 1 := ⟨rb_in (by decide +kernel) (by decide +kernel), me_X10_crossingsWith⟩
theorem mk_X10_51 : Cond.methodLink RX10 51 Lib.Math.min.name ∈ rb_tbl := rb_in (by decide +kernel) (by decide +kernel)
def xl_Way_fewest_14  : Nat → Int32 → Int32 → rb_St → Option (Int32 × rb_St)
  | 0, _, _, _ => none
  | n + 1, x1, x2, σ => if (σ.1 26 0) ≤ x2 then some (x1, σ) else if rb_ib x2 8 then if rb_ib ((σ.1 27 x2.toNatClampNeg) &&& 7) 8 then rb_b1 (xf_JM_floorMod ((σ.1 28 ((σ.1 27 x2.toNatClampNeg) &&& 7).toNatClampNeg) - x2) (σ.1 26 0) σ) fun r5 => rb_lt (rb_sI σ 29 x2.toNatClampNeg r5) (fun s7 => rb_lt (x1 + (s7.1 29 x2.toNatClampNeg)) (fun v9 => xl_Way_fewest_14 n v9 (x2 + 1) s7)) else none else none
set_option maxHeartbeats 4000000 in
set_option maxRecDepth 100000 in
theorem xt_Way_fewest_14 {z : rb_Z} {w : rb_Wd} {Q : State → Prop} (hC : rb_Cx z rb_vX w RX10 cX10_fewest 5 (some .int) 2)  : ∀ (n : Nat) (x1 : Int32) (x2 : Int32) (σ : rb_St) (y1 : Int32) (σ9 : rb_St), xl_Way_fewest_14 n x1 x2 σ = some (y1, σ9) → rb_At z rb_vX w 5 Q 66 [(0, .ref (rb_ad w 26)), (1, .int y1)] [] σ9 → rb_At z rb_vX w 5 Q 14 [(0, .ref (rb_ad w 26)), (1, .int x1), (2, .int x2)] [] σ := by
  intro n
  induction n with
  | zero =>
    intro x1 x2 σ y1 σ9 h hE0
    cases h
  | succ n ih =>
    intro x1 x2 σ y1 σ9 h hE0
    rw [xl_Way_fewest_14] at h
    refine rb_iload_n hC 2 dX10_fewest_14 rfl ?_
    refine rb_aload_n hC 0 dX10_fewest_15 rfl ?_
    refine rb_getI hC fr_X10_27_9 rb_obX26 rfl dX10_fewest_16 ?_
    refine rb_icmp_ge hC 66 dX10_fewest_19 (by decide) (fun c2 => ?_) (fun c2 => ?_)
    · replace h := rb_ifp c2 h
      cases h
      exact rb_sub [0, 1] rfl (hE0)
    · replace h := rb_ifn c2 h
      refine rb_aload_n hC 0 dX10_fewest_22 rfl ?_
      refine rb_getR hC fr_X10_18_9 rb_obX26 rfl dX10_fewest_23 ?_
      refine rb_iload_n hC 2 dX10_fewest_26 rfl ?_
      refine rb_aload_n hC 0 dX10_fewest_27 rfl ?_
      refine rb_getR hC fr_X10_15_9 rb_obX26 rfl dX10_fewest_28 ?_
      refine rb_aload_n hC 0 dX10_fewest_31 rfl ?_
      refine rb_getR hC fr_X10_9_9 rb_obX26 rfl dX10_fewest_32 ?_
      refine rb_iload_n hC 2 dX10_fewest_35 rfl ?_
      obtain ⟨g3, h⟩ := rb_gd h
      refine rb_iald hC rb_arX27 (rb_ibI g3) dX10_fewest_36 ?_
      refine rb_bipush (x := 7) hC dX10_fewest_37 (by decide) ?_
      refine rb_iand hC dX10_fewest_39 ?_
      obtain ⟨g4, h⟩ := rb_gd h
      refine rb_iald hC rb_arX28 (rb_ibI g4) dX10_fewest_40 ?_
      refine rb_iload_n hC 2 dX10_fewest_41 rfl ?_
      refine rb_isub hC dX10_fewest_42 ?_
      refine rb_aload_n hC 0 dX10_fewest_43 rfl ?_
      refine rb_getI hC fr_X10_27_9 rb_obX26 rfl dX10_fewest_44 ?_
      obtain ⟨r5, q6, h⟩ := rb_b1s h
      refine rb_callSi hC rb_VokX mv_X10_35 (xc_JM_floorMod ((σ.1 28 ((σ.1 27 x2.toNatClampNeg) &&& 7).toNatClampNeg) - x2) (σ.1 26 0) σ _ q6) [.int ((σ.1 28 ((σ.1 27 x2.toNatClampNeg) &&& 7).toNatClampNeg) - x2), .int (σ.1 26 0)] rfl rfl rfl ⟨Nat.le_of_ble_eq_true rfl, Nat.le_of_ble_eq_true rfl⟩ (Nat.le_of_ble_eq_true rfl) dX10_fewest_47 ?_
      refine rb_iast hC rb_arX29 (rb_ibI g3) dX10_fewest_50 ?_
      obtain ⟨s7, e8, h⟩ := rb_ltE h
      refine rb_nmS e8 ?_
      refine rb_iload_n hC 1 dX10_fewest_51 rfl ?_
      refine rb_aload_n hC 0 dX10_fewest_52 rfl ?_
      refine rb_getR hC fr_X10_18_9 rb_obX26 rfl dX10_fewest_53 ?_
      refine rb_iload_n hC 2 dX10_fewest_56 rfl ?_
      refine rb_iald hC rb_arX29 (rb_ibI g3) dX10_fewest_57 ?_
      refine rb_iadd hC dX10_fewest_58 ?_
      obtain ⟨v9, e10, h⟩ := rb_ltE h
      refine rb_nmI e10 ?_
      refine rb_istore_n hC [(1, .int v9), (0, .ref (rb_ad w 26)), (2, .int x2)] dX10_fewest_59 (by decide) rfl ?_
      refine rb_iinc hC 2 [(2, .int (x2 + 1)), (1, .int v9), (0, .ref (rb_ad w 26))] dX10_fewest_60 rfl rfl (by decide) rfl ?_
      refine rb_goto hC 14 dX10_fewest_63 (by decide) ?_
      exact rb_sub [2, 1, 0] rfl (ih v9 (x2 + 1) s7 _ _ h hE0)
def xl_Way_fewest_79 (x2 : Int32) (σ : rb_St) : Nat → Int32 → Int32 → Option (Int32)
  | 0, _, _ => none
  | n + 1, x3, x4 => if (1 <<< ((σ.1 26 0) &&& 31)) ≤ x4 then some x3 else if (xf_JI_bitCount x4 σ) = x2 then rb_b1 (xf_Way_crossingsWith x4 σ) fun r17 => xl_Way_fewest_79 x2 σ n (rb_mn x3 r17) (x4 + 1) else xl_Way_fewest_79 x2 σ n x3 (x4 + 1)
set_option maxHeartbeats 4000000 in
set_option maxRecDepth 100000 in
theorem xt_Way_fewest_79 {z : rb_Z} {w : rb_Wd} {Q : State → Prop} (hC : rb_Cx z rb_vX w RX10 cX10_fewest 5 (some .int) 2) (x2 : Int32) (σ : rb_St) : ∀ (n : Nat) (x3 : Int32) (x4 : Int32) (y3 : Int32), xl_Way_fewest_79 x2 σ n x3 x4 = some y3 → rb_At z rb_vX w 5 Q 116 [(3, .int y3)] [] σ → rb_At z rb_vX w 5 Q 79 [(0, .ref (rb_ad w 26)), (2, .int x2), (3, .int x3), (4, .int x4)] [] σ := by
  intro n
  induction n with
  | zero =>
    intro x3 x4 y3 h hE0
    cases h
  | succ n ih =>
    intro x3 x4 y3 h hE0
    rw [xl_Way_fewest_79] at h
    refine rb_iload hC 3 dX10_fewest_79 rfl ?_
    refine rb_iconst (x := 1) hC dX10_fewest_81 (by decide) ?_
    refine rb_aload_n hC 0 dX10_fewest_82 rfl ?_
    refine rb_getI hC fr_X10_27_9 rb_obX26 rfl dX10_fewest_83 ?_
    refine rb_ishl hC dX10_fewest_86 ?_
    refine rb_icmp_ge hC 116 dX10_fewest_87 (by decide) (fun c15 => ?_) (fun c15 => ?_)
    · replace h := rb_ifp c15 h
      cases h
      exact rb_sub [2] rfl (hE0)
    · replace h := rb_ifn c15 h
      refine rb_iload hC 3 dX10_fewest_90 rfl ?_
      refine rb_callSi hC rb_VokX mv_X10_44 (xc_JI_bitCount x4 σ _ rfl) [.int x4] rfl rfl rfl ⟨Nat.le_of_ble_eq_true rfl, Nat.le_of_ble_eq_true rfl⟩ (Nat.le_of_ble_eq_true rfl) dX10_fewest_92 ?_
      refine rb_iload_n hC 1 dX10_fewest_95 rfl ?_
      refine rb_icmp_ne hC 110 dX10_fewest_96 (by decide) (fun c16 => ?_) (fun c16 => ?_)
      · replace h := rb_ifn c16 h
        refine rb_iinc hC 3 [(4, .int (x4 + 1)), (0, .ref (rb_ad w 26)), (2, .int x2), (3, .int x3)] dX10_fewest_110 rfl rfl (by decide) rfl ?_
        refine rb_goto hC 79 dX10_fewest_113 (by decide) ?_
        exact rb_sub [1, 2, 3, 0] rfl (ih x3 (x4 + 1) _ h hE0)
      · replace h := rb_ifp c16 h
        refine rb_iload_n hC 2 dX10_fewest_99 rfl ?_
        refine rb_aload_n hC 0 dX10_fewest_100 rfl ?_
        refine rb_iload hC 3 dX10_fewest_101 rfl ?_
        obtain ⟨r17, q18, h⟩ := rb_b1s h
        refine rb_callVi hC rb_VokX mv_X10_48 (xc_Way_crossingsWith x4 σ _ q18) rb_obX26 rfl [.int x4] rfl rfl rfl ⟨Nat.le_of_ble_eq_true rfl, Nat.le_of_ble_eq_true rfl⟩ (Nat.le_of_ble_eq_true rfl) dX10_fewest_103 ?_
        refine rb_mmin hC mk_X10_51 (by decide) dX10_fewest_106 ?_
        refine rb_istore_n hC [(3, .int (rb_mn x3 r17)), (0, .ref (rb_ad w 26)), (2, .int x2), (4, .int x4)] dX10_fewest_109 (by decide) rfl ?_
        refine rb_iinc hC 3 [(4, .int (x4 + 1)), (3, .int (rb_mn x3 r17)), (0, .ref (rb_ad w 26)), (2, .int x2)] dX10_fewest_110 rfl rfl (by decide) rfl ?_
        refine rb_goto hC 79 dX10_fewest_113 (by decide) ?_
        exact rb_sub [2, 3, 1, 0] rfl (ih (rb_mn x3 r17) (x4 + 1) _ h hE0)
def xf_Way_fewest  (σ : rb_St) : Option (Int32 × rb_St) := if 1 ≤ (σ.1 26 0) then rb_b2 (xl_Way_fewest_14 rb_FU 0 0 σ) fun y11 s12 => if (s12.1 26 0) = 0 then none else rb_b1 (xl_Way_fewest_79 (y11 / (s12.1 26 0)) s12 rb_FU 2147483647 0) fun y19 => some (y19, s12) else some (0, σ)
set_option maxHeartbeats 4000000 in
set_option maxRecDepth 100000 in
theorem xk_Way_fewest {z : rb_Z} {w : rb_Wd} (hC : rb_Cx z rb_vX w RX10 cX10_fewest 5 (some .int) 2)  (σ : rb_St) (r : Int32) (σ9 : rb_St) (h : xf_Way_fewest σ = some (r, σ9)) : rb_At z rb_vX w 5 (rb_Q z rb_vX w (some (.int r)) σ9) 0 [(0, .ref (rb_ad w 26))] [] σ := by
  unfold xf_Way_fewest at h
  refine rb_aload_n hC 0 dX10_fewest_0 rfl ?_
  refine rb_getI hC fr_X10_27_9 rb_obX26 rfl dX10_fewest_1 ?_
  refine rb_iconst (x := 1) hC dX10_fewest_4 (by decide) ?_
  refine rb_icmp_ge hC 10 dX10_fewest_5 (by decide) (fun c1 => ?_) (fun c1 => ?_)
  · replace h := rb_ifp c1 h
    refine rb_iconst (x := 0) hC dX10_fewest_10 (by decide) ?_
    refine rb_istore_n hC [(1, .int 0), (0, .ref (rb_ad w 26))] dX10_fewest_11 (by decide) rfl ?_
    refine rb_iconst (x := 0) hC dX10_fewest_12 (by decide) ?_
    refine rb_istore_n hC [(2, .int 0), (1, .int 0), (0, .ref (rb_ad w 26))] dX10_fewest_13 (by decide) rfl ?_
    obtain ⟨y11, s12, q13, h⟩ := rb_b2s h
    refine rb_sub (lv2 := [(0, .ref (rb_ad w 26)), (1, .int 0), (2, .int 0)]) [2, 1, 0] rfl ?_
    refine xt_Way_fewest_14 hC  rb_FU 0 0 σ _ _ q13 ?_
    refine rb_iload_n hC 1 dX10_fewest_66 rfl ?_
    refine rb_aload_n hC 0 dX10_fewest_67 rfl ?_
    refine rb_getI hC fr_X10_27_9 rb_obX26 rfl dX10_fewest_68 ?_
    obtain ⟨g14, h⟩ := rb_dv h
    refine rb_idiv hC dX10_fewest_71 g14 ?_
    refine rb_istore_n hC [(2, .int (y11 / (s12.1 26 0))), (0, .ref (rb_ad w 26)), (1, .int y11)] dX10_fewest_72 (by decide) rfl ?_
    refine rb_ldc hC kc_X10_43 dX10_fewest_73 ?_
    refine rb_istore_n hC [(3, .int 2147483647), (2, .int (y11 / (s12.1 26 0))), (0, .ref (rb_ad w 26)), (1, .int y11)] dX10_fewest_75 (by decide) rfl ?_
    refine rb_iconst (x := 0) hC dX10_fewest_76 (by decide) ?_
    refine rb_istore hC [(4, .int 0), (3, .int 2147483647), (2, .int (y11 / (s12.1 26 0))), (0, .ref (rb_ad w 26)), (1, .int y11)] dX10_fewest_77 (by decide) rfl ?_
    obtain ⟨y19, q20, h⟩ := rb_b1s h
    refine rb_sub (lv2 := [(0, .ref (rb_ad w 26)), (2, .int (y11 / (s12.1 26 0))), (3, .int 2147483647), (4, .int 0)]) [3, 2, 1, 0] rfl ?_
    refine xt_Way_fewest_79 hC (y11 / (s12.1 26 0)) s12 rb_FU 2147483647 0 _ q20 ?_
    refine rb_iload_n hC 0 dX10_fewest_116 rfl ?_
    cases h
    exact rb_iret hC dX10_fewest_117
  · replace h := rb_ifn c1 h
    refine rb_iconst (x := 0) hC dX10_fewest_8 (by decide) ?_
    cases h
    exact rb_iret hC dX10_fewest_9
theorem xc_Way_fewest  (σ : rb_St) (r : Int32) (σ9 : rb_St) (h : xf_Way_fewest σ = some (r, σ9)) : rb_Con rb_vX yX10_fewest cX10_fewest 5 (some .int) 2 (fun w => [.ref (rb_ad w 26)]) σ (fun _ => (some (.int r))) σ9 := rb_Con.of (by decide +kernel) (fun _ => Nat.le_of_ble_eq_true rfl) (fun z w hC => xk_Way_fewest hC  σ r σ9 h)
