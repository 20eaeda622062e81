theorem me_X12_open : Cond.instanceMethod yX12_open ∈ rb_tbl ∧ Cond.selects yX12_open.cls yX12_open yX12_open ∈ rb_tbl ∧ Cond.initialized yX12_open.cls ∈ rb_tbl ∧ Cond.code yX12_open cX12_open 2 none ∈ rb_tbl ∧ rb_pn yX12_open 1 := ⟨rb_in (by decide +kernel) (by decide +kernel), rb_in (by decide +kernel) (by decide +kernel), rb_in (by decide +kernel) (by decide +kernel), rb_in (by decide +kernel) (by decide +kernel), by decide +kernel, by decide +kernel, by decide +kernel⟩
theorem mv_X12_195 : rb_MV RX12 195 yX12_open cX12_open 2 none 1 := ⟨rb_in (by decide +kernel) (by decide +kernel), me_X12_open⟩
theorem me_X12_clause : Cond.instanceMethod yX12_clause ∈ rb_tbl ∧ Cond.selects yX12_clause.cls yX12_clause yX12_clause ∈ rb_tbl ∧ Cond.initialized yX12_clause.cls ∈ rb_tbl ∧ Cond.code yX12_clause cX12_clause 3 none ∈ rb_tbl ∧ rb_pn yX12_clause 0 := ⟨rb_in (by decide +kernel) (by decide +kernel), rb_in (by decide +kernel) (by decide +kernel), rb_in (by decide +kernel) (by decide +kernel), rb_in (by decide +kernel) (by decide +kernel), by decide +kernel, by decide +kernel, by decide +kernel⟩
theorem mv_X12_198 : rb_MV RX12 198 yX12_clause cX12_clause 3 none 0 := ⟨rb_in (by decide +kernel) (by decide +kernel), me_X12_clause⟩
theorem me_X12_atEnd : Cond.instanceMethod yX12_atEnd ∈ rb_tbl ∧ Cond.selects yX12_atEnd.cls yX12_atEnd yX12_atEnd ∈ rb_tbl ∧ Cond.initialized yX12_atEnd.cls ∈ rb_tbl ∧ Cond.code yX12_atEnd cX12_atEnd 1 (some .int) ∈ rb_tbl ∧ rb_pn yX12_atEnd 0 := ⟨rb_in (by decide +kernel) (by decide +kernel), rb_in (by decide +kernel) (by decide +kernel), rb_in (by decide +kernel) (by decide +kernel), rb_in (by decide +kernel) (by decide +kernel), by decide +kernel, by decide +kernel, by decide +kernel⟩
theorem mv_X12_201 : rb_MV RX12 201 yX12_atEnd cX12_atEnd 1 (some .int) 0 := ⟨rb_in (by decide +kernel) (by decide +kernel), me_X12_atEnd⟩
def xl_M_readLaw_9  : Nat → rb_St → Option (rb_St)
  | 0, _ => none
  | n + 1, σ => if (σ.1 0 4) = (-1) then rb_b2 (xf_M_look σ) fun r8 s6 => if r8 = 59 then rb_lt (rb_sI s6 0 3 ((s6.1 0 3) + 1)) (fun s10 => rb_b1 (xf_M_clause s10) fun s12 => xl_M_readLaw_9 n s12) else some s6 else some σ
set_option maxHeartbeats 4000000 in
set_option maxRecDepth 100000 in
theorem xt_M_readLaw_9 {z : rb_Z} {w : rb_Wd} {Q : State → Prop} (hC : rb_Cx z rb_vM w RX12 cX12_readLaw 2 (some .int) 69)  : ∀ (n : Nat) (σ : rb_St) (σ9 : rb_St), xl_M_readLaw_9 n σ = some σ9 → rb_At z rb_vM w 2 Q 43 [(0, .ref (rb_ad w 0))] [] σ9 → rb_At z rb_vM w 2 Q 9 [(0, .ref (rb_ad w 0))] [] σ := by
  intro n
  induction n with
  | zero =>
    intro σ σ9 h hE0
    cases h
  | succ n ih =>
    intro σ σ9 h hE0
    rw [xl_M_readLaw_9] at h
    refine rb_aload_n hC 0 dX12_readLaw_9 rfl ?_
    refine rb_getI hC fr_X12_131_11 rb_obM0 rfl dX12_readLaw_10 ?_
    refine rb_iconst (x := (-1)) hC dX12_readLaw_13 (by decide) ?_
    refine rb_icmp_ne hC 43 dX12_readLaw_14 (by decide) (fun c5 => ?_) (fun c5 => ?_)
    · replace h := rb_ifn c5 h
      cases h
      exact rb_sub [0] rfl (hE0)
    · replace h := rb_ifp c5 h
      refine rb_aload_n hC 0 dX12_readLaw_17 rfl ?_
      obtain ⟨r8, s6, q7, h⟩ := rb_b2s h
      refine rb_callVi hC rb_VokM mv_X12_143 (xc_M_look  σ _ _ q7) rb_obM0 rfl [] rfl rfl rfl ⟨Nat.le_of_ble_eq_true rfl, Nat.le_of_ble_eq_true rfl⟩ (Nat.le_of_ble_eq_true rfl) dX12_readLaw_18 ?_
      refine rb_bipush (x := 59) hC dX12_readLaw_21 (by decide) ?_
      refine rb_icmp_ne hC 43 dX12_readLaw_23 (by decide) (fun c9 => ?_) (fun c9 => ?_)
      · replace h := rb_ifn c9 h
        cases h
        exact rb_sub [0] rfl (hE0)
      · replace h := rb_ifp c9 h
        refine rb_aload_n hC 0 dX12_readLaw_26 rfl ?_
        refine rb_dup hC dX12_readLaw_27 rfl ?_
        refine rb_getI hC fr_X12_124_11 rb_obM0 rfl dX12_readLaw_28 ?_
        refine rb_iconst (x := 1) hC dX12_readLaw_31 (by decide) ?_
        refine rb_iadd hC dX12_readLaw_32 ?_
        refine rb_putI hC fr_X12_124_11 ft_11_3 rb_obM0 rfl rfl rfl dX12_readLaw_33 ?_
        obtain ⟨s10, e11, h⟩ := rb_ltE h
        refine rb_nmS e11 ?_
        refine rb_aload_n hC 0 dX12_readLaw_36 rfl ?_
        obtain ⟨s12, q13, h⟩ := rb_b1s h
        refine rb_callVv hC rb_VokM mv_X12_198 (xc_M_clause  s10 _ q13) rb_obM0 rfl [] rfl rfl rfl ⟨Nat.le_of_ble_eq_true rfl, Nat.le_of_ble_eq_true rfl⟩ (Nat.le_of_ble_eq_true rfl) dX12_readLaw_37 ?_
        refine rb_goto hC 9 dX12_readLaw_40 (by decide) ?_
        exact rb_sub [0] rfl (ih s12 _ h hE0)
def xf_M_readLaw (p0 : Int32) (σ : rb_St) : Option (Int32 × rb_St) := rb_b1 (xf_M_open p0 σ) fun s1 => rb_b1 (xf_M_clause s1) fun s3 => rb_b1 (xl_M_readLaw_9 rb_FU s3) fun s14 => rb_b2 (xf_M_atEnd s14) fun r18 s16 => some (r18, s16)
set_option maxHeartbeats 4000000 in
set_option maxRecDepth 100000 in
theorem xk_M_readLaw {z : rb_Z} {w : rb_Wd} (hC : rb_Cx z rb_vM w RX12 cX12_readLaw 2 (some .int) 69) (p0 : Int32) (σ : rb_St) (r : Int32) (σ9 : rb_St) (h : xf_M_readLaw p0 σ = some (r, σ9)) : rb_At z rb_vM w 2 (rb_Q z rb_vM w (some (.int r)) σ9) 0 [(0, .ref (rb_ad w 0)), (1, .int p0)] [] σ := by
  unfold xf_M_readLaw at h
  refine rb_aload_n hC 0 dX12_readLaw_0 rfl ?_
  refine rb_iload_n hC 1 dX12_readLaw_1 rfl ?_
  obtain ⟨s1, q2, h⟩ := rb_b1s h
  refine rb_callVv hC rb_VokM mv_X12_195 (xc_M_open p0 σ _ q2) rb_obM0 rfl [.int p0] rfl rfl rfl ⟨Nat.le_of_ble_eq_true rfl, Nat.le_of_ble_eq_true rfl⟩ (Nat.le_of_ble_eq_true rfl) dX12_readLaw_2 ?_
  refine rb_aload_n hC 0 dX12_readLaw_5 rfl ?_
  obtain ⟨s3, q4, h⟩ := rb_b1s h
  refine rb_callVv hC rb_VokM mv_X12_198 (xc_M_clause  s1 _ q4) rb_obM0 rfl [] rfl rfl rfl ⟨Nat.le_of_ble_eq_true rfl, Nat.le_of_ble_eq_true rfl⟩ (Nat.le_of_ble_eq_true rfl) dX12_readLaw_6 ?_
  obtain ⟨s14, q15, h⟩ := rb_b1s h
  refine rb_sub (lv2 := [(0, .ref (rb_ad w 0))]) [0] rfl ?_
  refine xt_M_readLaw_9 hC  rb_FU s3 _ q15 ?_
  refine rb_aload_n hC 0 dX12_readLaw_43 rfl ?_
  obtain ⟨r18, s16, q17, h⟩ := rb_b2s h
  refine rb_callVi hC rb_VokM mv_X12_201 (xc_M_atEnd  s14 _ _ q17) rb_obM0 rfl [] rfl rfl rfl ⟨Nat.le_of_ble_eq_true rfl, Nat.le_of_ble_eq_true rfl⟩ (Nat.le_of_ble_eq_true rfl) dX12_readLaw_44 ?_
  cases h
  exact rb_iret hC dX12_readLaw_47
theorem xc_M_readLaw (p0 : Int32) (σ : rb_St) (r : Int32) (σ9 : rb_St) (h : xf_M_readLaw p0 σ = some (r, σ9)) : rb_Con rb_vM yX12_readLaw cX12_readLaw 2 (some .int) 69 (fun w => [.ref (rb_ad w 0), .int p0]) σ (fun _ => (some (.int r))) σ9 := rb_Con.of (by decide +kernel) (fun _ => Nat.le_of_ble_eq_true rfl) (fun z w hC => xk_M_readLaw hC p0 σ r σ9 h)
def xf_M_readFigure (p0 : Int32) (σ : rb_St) : Option (Int32 × rb_St) := rb_lt (rb_sI σ 0 3 0) (fun s1 => rb_lt (rb_sI s1 0 4 (-1)) (fun s3 => rb_lt (rb_sI s3 0 26 0) (fun s5 => rb_b1 (xf_M_readRow 64 p0 0 s5) fun s7 => if (s7.1 0 4) = (-1) then rb_b2 (xf_M_look s7) fun r15 s13 => if r15 = (-1) then if (s13.1 0 26) ≤ 48 then if rb_ib p0 7 then rb_lt (rb_sI s13 16 p0.toNatClampNeg (s13.1 0 26)) (fun s24 => some (s24.1 0 4, s24)) else none else rb_b1 (xf_M_bad s13) fun s26 => if rb_ib p0 7 then rb_lt (rb_sI s26 16 p0.toNatClampNeg (s26.1 0 26)) (fun s29 => some (s29.1 0 4, s29)) else none else rb_b1 (xf_M_bad s13) fun s17 => if rb_ib p0 7 then rb_lt (rb_sI s17 16 p0.toNatClampNeg (s17.1 0 26)) (fun s20 => some (s20.1 0 4, s20)) else none else if rb_ib p0 7 then rb_lt (rb_sI s7 16 p0.toNatClampNeg (s7.1 0 26)) (fun s11 => some (s11.1 0 4, s11)) else none)))
set_option maxHeartbeats 4000000 in
set_option maxRecDepth 100000 in
theorem xk_M_readFigure {z : rb_Z} {w : rb_Wd} (hC : rb_Cx z rb_vM w RX12 cX12_readFigure 2 (some .int) 68) (p0 : Int32) (σ : rb_St) (r : Int32) (σ9 : rb_St) (h : xf_M_readFigure p0 σ = some (r, σ9)) : rb_At z rb_vM w 2 (rb_Q z rb_vM w (some (.int r)) σ9) 0 [(0, .ref (rb_ad w 0)), (1, .int p0)] [] σ := by
  unfold xf_M_readFigure at h
  refine rb_aload_n hC 0 dX12_readFigure_0 rfl ?_
  refine rb_iconst (x := 0) hC dX12_readFigure_1 (by decide) ?_
  refine rb_putI hC fr_X12_124_11 ft_11_3 rb_obM0 rfl rfl rfl dX12_readFigure_2 ?_
  obtain ⟨s1, e2, h⟩ := rb_ltE h
  refine rb_nmS e2 ?_
  refine rb_aload_n hC 0 dX12_readFigure_5 rfl ?_
  refine rb_iconst (x := (-1)) hC dX12_readFigure_6 (by decide) ?_
  refine rb_putI hC fr_X12_131_11 ft_11_4 rb_obM0 rfl rfl rfl dX12_readFigure_7 ?_
  obtain ⟨s3, e4, h⟩ := rb_ltE h
  refine rb_nmS e4 ?_
  refine rb_aload_n hC 0 dX12_readFigure_10 rfl ?_
  refine rb_iconst (x := 0) hC dX12_readFigure_11 (by decide) ?_
  refine rb_putI hC fr_X12_257_11 ft_11_26 rb_obM0 rfl rfl rfl dX12_readFigure_12 ?_
  obtain ⟨s5, e6, h⟩ := rb_ltE h
  refine rb_nmS e6 ?_
  refine rb_aload_n hC 0 dX12_readFigure_15 rfl ?_
  refine rb_iload_n hC 1 dX12_readFigure_16 rfl ?_
  refine rb_iconst (x := 0) hC dX12_readFigure_17 (by decide) ?_
  obtain ⟨s7, q8, h⟩ := rb_b1s h
  refine rb_callVv hC rb_VokM mv_X12_265 (xc_M_readRow 64 p0 0 s5 _ q8) rb_obM0 rfl [.int p0, .int 0] rfl rfl rfl ⟨Nat.le_of_ble_eq_true rfl, Nat.le_of_ble_eq_true rfl⟩ (Nat.le_of_ble_eq_true rfl) dX12_readFigure_18 ?_
  refine rb_aload_n hC 0 dX12_readFigure_21 rfl ?_
  refine rb_getI hC fr_X12_131_11 rb_obM0 rfl dX12_readFigure_22 ?_
  refine rb_iconst (x := (-1)) hC dX12_readFigure_25 (by decide) ?_
  refine rb_icmp_ne hC 50 dX12_readFigure_26 (by decide) (fun c9 => ?_) (fun c9 => ?_)
  · replace h := rb_ifn c9 h
    refine rb_aload_n hC 0 dX12_readFigure_50 rfl ?_
    refine rb_getR hC fr_X12_55_11 rb_obM0 rfl dX12_readFigure_51 ?_
    refine rb_iload_n hC 1 dX12_readFigure_54 rfl ?_
    refine rb_aload_n hC 0 dX12_readFigure_55 rfl ?_
    refine rb_getI hC fr_X12_257_11 rb_obM0 rfl dX12_readFigure_56 ?_
    obtain ⟨g10, h⟩ := rb_gd h
    refine rb_iast hC rb_arM16 (rb_ibI g10) dX12_readFigure_59 ?_
    obtain ⟨s11, e12, h⟩ := rb_ltE h
    refine rb_nmS e12 ?_
    refine rb_aload_n hC 0 dX12_readFigure_60 rfl ?_
    refine rb_getI hC fr_X12_131_11 rb_obM0 rfl dX12_readFigure_61 ?_
    cases h
    exact rb_iret hC dX12_readFigure_64
  · replace h := rb_ifp c9 h
    refine rb_aload_n hC 0 dX12_readFigure_29 rfl ?_
    obtain ⟨r15, s13, q14, h⟩ := rb_b2s h
    refine rb_callVi hC rb_VokM mv_X12_143 (xc_M_look  s7 _ _ q14) rb_obM0 rfl [] rfl rfl rfl ⟨Nat.le_of_ble_eq_true rfl, Nat.le_of_ble_eq_true rfl⟩ (Nat.le_of_ble_eq_true rfl) dX12_readFigure_30 ?_
    refine rb_iconst (x := (-1)) hC dX12_readFigure_33 (by decide) ?_
    refine rb_icmp_ne hC 46 dX12_readFigure_34 (by decide) (fun c16 => ?_) (fun c16 => ?_)
    · replace h := rb_ifn c16 h
      refine rb_aload_n hC 0 dX12_readFigure_46 rfl ?_
      obtain ⟨s17, q18, h⟩ := rb_b1s h
      refine rb_callVv hC rb_VokM mv_X12_140 (xc_M_bad  s13 _ q18) rb_obM0 rfl [] rfl rfl rfl ⟨Nat.le_of_ble_eq_true rfl, Nat.le_of_ble_eq_true rfl⟩ (Nat.le_of_ble_eq_true rfl) dX12_readFigure_47 ?_
      refine rb_aload_n hC 0 dX12_readFigure_50 rfl ?_
      refine rb_getR hC fr_X12_55_11 rb_obM0 rfl dX12_readFigure_51 ?_
      refine rb_iload_n hC 1 dX12_readFigure_54 rfl ?_
      refine rb_aload_n hC 0 dX12_readFigure_55 rfl ?_
      refine rb_getI hC fr_X12_257_11 rb_obM0 rfl dX12_readFigure_56 ?_
      obtain ⟨g19, h⟩ := rb_gd h
      refine rb_iast hC rb_arM16 (rb_ibI g19) dX12_readFigure_59 ?_
      obtain ⟨s20, e21, h⟩ := rb_ltE h
      refine rb_nmS e21 ?_
      refine rb_aload_n hC 0 dX12_readFigure_60 rfl ?_
      refine rb_getI hC fr_X12_131_11 rb_obM0 rfl dX12_readFigure_61 ?_
      cases h
      exact rb_iret hC dX12_readFigure_64
    · replace h := rb_ifp c16 h
      refine rb_aload_n hC 0 dX12_readFigure_37 rfl ?_
      refine rb_getI hC fr_X12_257_11 rb_obM0 rfl dX12_readFigure_38 ?_
      refine rb_bipush (x := 48) hC dX12_readFigure_41 (by decide) ?_
      refine rb_icmp_le hC 50 dX12_readFigure_43 (by decide) (fun c22 => ?_) (fun c22 => ?_)
      · replace h := rb_ifp c22 h
        refine rb_aload_n hC 0 dX12_readFigure_50 rfl ?_
        refine rb_getR hC fr_X12_55_11 rb_obM0 rfl dX12_readFigure_51 ?_
        refine rb_iload_n hC 1 dX12_readFigure_54 rfl ?_
        refine rb_aload_n hC 0 dX12_readFigure_55 rfl ?_
        refine rb_getI hC fr_X12_257_11 rb_obM0 rfl dX12_readFigure_56 ?_
        obtain ⟨g23, h⟩ := rb_gd h
        refine rb_iast hC rb_arM16 (rb_ibI g23) dX12_readFigure_59 ?_
        obtain ⟨s24, e25, h⟩ := rb_ltE h
        refine rb_nmS e25 ?_
        refine rb_aload_n hC 0 dX12_readFigure_60 rfl ?_
        refine rb_getI hC fr_X12_131_11 rb_obM0 rfl dX12_readFigure_61 ?_
        cases h
        exact rb_iret hC dX12_readFigure_64
      · replace h := rb_ifn c22 h
        refine rb_aload_n hC 0 dX12_readFigure_46 rfl ?_
        obtain ⟨s26, q27, h⟩ := rb_b1s h
        refine rb_callVv hC rb_VokM mv_X12_140 (xc_M_bad  s13 _ q27) rb_obM0 rfl [] rfl rfl rfl ⟨Nat.le_of_ble_eq_true rfl, Nat.le_of_ble_eq_true rfl⟩ (Nat.le_of_ble_eq_true rfl) dX12_readFigure_47 ?_
        refine rb_aload_n hC 0 dX12_readFigure_50 rfl ?_
        refine rb_getR hC fr_X12_55_11 rb_obM0 rfl dX12_readFigure_51 ?_
        refine rb_iload_n hC 1 dX12_readFigure_54 rfl ?_
        refine rb_aload_n hC 0 dX12_readFigure_55 rfl ?_
        refine rb_getI hC fr_X12_257_11 rb_obM0 rfl dX12_readFigure_56 ?_
        obtain ⟨g28, h⟩ := rb_gd h
        refine rb_iast hC rb_arM16 (rb_ibI g28) dX12_readFigure_59 ?_
        obtain ⟨s29, e30, h⟩ := rb_ltE h
        refine rb_nmS e30 ?_
        refine rb_aload_n hC 0 dX12_readFigure_60 rfl ?_
        refine rb_getI hC fr_X12_131_11 rb_obM0 rfl dX12_readFigure_61 ?_
        cases h
        exact rb_iret hC dX12_readFigure_64
theorem xc_M_readFigure (p0 : Int32) (σ : rb_St) (r : Int32) (σ9 : rb_St) (h : xf_M_readFigure p0 σ = some (r, σ9)) : rb_Con rb_vM yX12_readFigure cX12_readFigure 2 (some .int) 68 (fun w => [.ref (rb_ad w 0), .int p0]) σ (fun _ => (some (.int r))) σ9 := rb_Con.of (by decide +kernel) (fun _ => Nat.le_of_ble_eq_true rfl) (fun z w hC => xk_M_readFigure hC p0 σ r σ9 h)
theorem me_X12_readFigure : Cond.instanceMethod yX12_readFigure ∈ rb_tbl ∧ Cond.selects yX12_readFigure.cls yX12_readFigure yX12_readFigure ∈ rb_tbl ∧ Cond.initialized yX12_readFigure.cls ∈ rb_tbl ∧ Cond.code yX12_readFigure cX12_readFigure 2 (some .int) ∈ rb_tbl ∧ rb_pn yX12_readFigure 1 := ⟨rb_in (by decide +kernel) (by decide +kernel), rb_in (by decide +kernel) (by decide +kernel), rb_in (by decide +kernel) (by decide +kernel), rb_in (by decide +kernel) (by decide +kernel), by decide +kernel, by decide +kernel, by decide +kernel⟩
theorem mv_X12_280 : rb_MV RX12 280 yX12_readFigure cX12_readFigure 2 (some .int) 1 := ⟨rb_in (by decide +kernel) (by decide +kernel), me_X12_readFigure⟩
theorem me_X12_readLaw : Cond.instanceMethod yX12_readLaw ∈ rb_tbl ∧ Cond.selects yX12_readLaw.cls yX12_readLaw yX12_readLaw ∈ rb_tbl ∧ Cond.initialized yX12_readLaw.cls ∈ rb_tbl ∧ Cond.code yX12_readLaw cX12_readLaw 2 (some .int) ∈ rb_tbl ∧ rb_pn yX12_readLaw 1 := ⟨rb_in (by decide +kernel) (by decide +kernel), rb_in (by decide +kernel) (by decide +kernel), rb_in (by decide +kernel) (by decide +kernel), rb_in (by decide +kernel) (by decide +kernel), by decide +kernel, by decide +kernel, by decide +kernel⟩
theorem mv_X12_277 : rb_MV RX12 277 yX12_readLaw cX12_readLaw 2 (some .int) 1 := ⟨rb_in (by decide +kernel) (by decide +kernel), me_X12_readLaw⟩
theorem me_X12_readGreen : Cond.instanceMethod yX12_readGreen ∈ rb_tbl ∧ Cond.selects yX12_readGreen.cls yX12_readGreen yX12_readGreen ∈ rb_tbl ∧ Cond.initialized yX12_readGreen.cls ∈ rb_tbl ∧ Cond.code yX12_readGreen cX12_readGreen 4 (some .int) ∈ rb_tbl ∧ rb_pn yX12_readGreen 0 := ⟨rb_in (by decide +kernel) (by decide +kernel), rb_in (by decide +kernel) (by decide +kernel), rb_in (by decide +kernel) (by decide +kernel), rb_in (by decide +kernel) (by decide +kernel), by decide +kernel, by decide +kernel, by decide +kernel⟩
theorem mv_X12_274 : rb_MV RX12 274 yX12_readGreen cX12_readGreen 4 (some .int) 0 := ⟨rb_in (by decide +kernel) (by decide +kernel), me_X12_readGreen⟩
def xf_M_fault (p0 : Int32) (σ : rb_St) : Option (Int32 × rb_St) := if p0 = 0 then rb_b2 (xf_M_readGreen σ) fun r12 s10 => some (r12, s10) else if p0 = 1 then rb_b2 (xf_M_readLaw 4 σ) fun r9 s7 => some (r9, s7) else if p0 = 2 then rb_b2 (xf_M_readFigure 6 σ) fun r6 s4 => some (r6, s4) else some ((-2), σ)
set_option maxHeartbeats 4000000 in
set_option maxRecDepth 100000 in
theorem xk_M_fault {z : rb_Z} {w : rb_Wd} (hC : rb_Cx z rb_vM w RX12 cX12_fault 2 (some .int) 70) (p0 : Int32) (σ : rb_St) (r : Int32) (σ9 : rb_St) (h : xf_M_fault p0 σ = some (r, σ9)) : rb_At z rb_vM w 2 (rb_Q z rb_vM w (some (.int r)) σ9) 0 [(0, .ref (rb_ad w 0)), (1, .int p0)] [] σ := by
  unfold xf_M_fault at h
  refine rb_iload_n hC 1 dX12_fault_0 rfl ?_
  refine rb_if_ne hC 11 dX12_fault_1 (by decide) (fun c1 => ?_) (fun c1 => ?_)
  · replace h := rb_ifn c1 h
    refine rb_iload_n hC 1 dX12_fault_11 rfl ?_
    refine rb_iconst (x := 1) hC dX12_fault_12 (by decide) ?_
    refine rb_icmp_ne hC 24 dX12_fault_13 (by decide) (fun c2 => ?_) (fun c2 => ?_)
    · replace h := rb_ifn c2 h
      refine rb_iload_n hC 1 dX12_fault_24 rfl ?_
      refine rb_iconst (x := 2) hC dX12_fault_25 (by decide) ?_
      refine rb_icmp_ne hC 38 dX12_fault_26 (by decide) (fun c3 => ?_) (fun c3 => ?_)
      · replace h := rb_ifn c3 h
        refine rb_bipush (x := (-2)) hC dX12_fault_38 (by decide) ?_
        cases h
        exact rb_iret hC dX12_fault_40
      · replace h := rb_ifp c3 h
        refine rb_aload_n hC 0 dX12_fault_29 rfl ?_
        refine rb_bipush (x := 6) hC dX12_fault_30 (by decide) ?_
        obtain ⟨r6, s4, q5, h⟩ := rb_b2s h
        refine rb_callVi hC rb_VokM mv_X12_280 (xc_M_readFigure 6 σ _ _ q5) rb_obM0 rfl [.int 6] rfl rfl rfl ⟨Nat.le_of_ble_eq_true rfl, Nat.le_of_ble_eq_true rfl⟩ (Nat.le_of_ble_eq_true rfl) dX12_fault_32 ?_
        refine rb_goto hC 40 dX12_fault_35 (by decide) ?_
        cases h
        exact rb_iret hC dX12_fault_40
    · replace h := rb_ifp c2 h
      refine rb_aload_n hC 0 dX12_fault_16 rfl ?_
      refine rb_iconst (x := 4) hC dX12_fault_17 (by decide) ?_
      obtain ⟨r9, s7, q8, h⟩ := rb_b2s h
      refine rb_callVi hC rb_VokM mv_X12_277 (xc_M_readLaw 4 σ _ _ q8) rb_obM0 rfl [.int 4] rfl rfl rfl ⟨Nat.le_of_ble_eq_true rfl, Nat.le_of_ble_eq_true rfl⟩ (Nat.le_of_ble_eq_true rfl) dX12_fault_18 ?_
      refine rb_goto hC 40 dX12_fault_21 (by decide) ?_
      cases h
      exact rb_iret hC dX12_fault_40
  · replace h := rb_ifp c1 h
    refine rb_aload_n hC 0 dX12_fault_4 rfl ?_
    obtain ⟨r12, s10, q11, h⟩ := rb_b2s h
    refine rb_callVi hC rb_VokM mv_X12_274 (xc_M_readGreen  σ _ _ q11) rb_obM0 rfl [] rfl rfl rfl ⟨Nat.le_of_ble_eq_true rfl, Nat.le_of_ble_eq_true rfl⟩ (Nat.le_of_ble_eq_true rfl) dX12_fault_5 ?_
    refine rb_goto hC 40 dX12_fault_8 (by decide) ?_
    cases h
    exact rb_iret hC dX12_fault_40
theorem xc_M_fault (p0 : Int32) (σ : rb_St) (r : Int32) (σ9 : rb_St) (h : xf_M_fault p0 σ = some (r, σ9)) : rb_Con rb_vM yX12_fault cX12_fault 2 (some .int) 70 (fun w => [.ref (rb_ad w 0), .int p0]) σ (fun _ => (some (.int r))) σ9 := rb_Con.of (by decide +kernel) (fun _ => Nat.le_of_ble_eq_true rfl) (fun z w hC => xk_M_fault hC p0 σ r σ9 h)
theorem ft_11_22 : rb_Ty 11 22 .int := ⟨RX12, TX12, 50, tyX12, rfl, tyX12_ok, nmX12, rfl, by decide +kernel⟩
def xl_M_takeGreen_10  : Nat → Int32 → rb_St → Option (rb_St)
  | 0, _, _ => none
  | n + 1, x1, σ => if 3 ≤ x1 then some σ else if rb_ib x1 3 then rb_lt (rb_sI σ 13 x1.toNatClampNeg (σ.1 11 x1.toNatClampNeg)) (fun s5 => xl_M_takeGreen_10 n (x1 + 1) s5) else none
set_option maxHeartbeats 4000000 in
set_option maxRecDepth 100000 in
theorem xt_M_takeGreen_10 {z : rb_Z} {w : rb_Wd} {Q : State → Prop} (hC : rb_Cx z rb_vM w RX12 cX12_takeGreen 2 (some .int) 1)  : ∀ (n : Nat) (x1 : Int32) (σ : rb_St) (σ9 : rb_St), xl_M_takeGreen_10 n x1 σ = some σ9 → rb_At z rb_vM w 2 Q 33 [(0, .ref (rb_ad w 0))] [] σ9 → rb_At z rb_vM w 2 Q 10 [(0, .ref (rb_ad w 0)), (1, .int x1)] [] σ := by
  intro n
  induction n with
  | zero =>
    intro x1 σ σ9 h hE0
    cases h
  | succ n ih =>
    intro x1 σ σ9 h hE0
    rw [xl_M_takeGreen_10] at h
    refine rb_iload_n hC 1 dX12_takeGreen_10 rfl ?_
    refine rb_iconst (x := 3) hC dX12_takeGreen_11 (by decide) ?_
    refine rb_icmp_ge hC 33 dX12_takeGreen_12 (by decide) (fun c3 => ?_) (fun c3 => ?_)
    · replace h := rb_ifp c3 h
      cases h
      exact rb_sub [0] rfl (hE0)
    · replace h := rb_ifn c3 h
      refine rb_aload_n hC 0 dX12_takeGreen_15 rfl ?_
      refine rb_getR hC fr_X12_46_11 rb_obM0 rfl dX12_takeGreen_16 ?_
      refine rb_iload_n hC 1 dX12_takeGreen_19 rfl ?_
      refine rb_aload_n hC 0 dX12_takeGreen_20 rfl ?_
      refine rb_getR hC fr_X12_40_11 rb_obM0 rfl dX12_takeGreen_21 ?_
      refine rb_iload_n hC 1 dX12_takeGreen_24 rfl ?_
      obtain ⟨g4, h⟩ := rb_gd h
      refine rb_iald hC rb_arM11 (rb_ibI g4) dX12_takeGreen_25 ?_
      refine rb_iast hC rb_arM13 (rb_ibI g4) dX12_takeGreen_26 ?_
      obtain ⟨s5, e6, h⟩ := rb_ltE h
      refine rb_nmS e6 ?_
      refine rb_iinc hC 1 [(1, .int (x1 + 1)), (0, .ref (rb_ad w 0))] dX12_takeGreen_27 rfl rfl (by decide) rfl ?_
      refine rb_goto hC 10 dX12_takeGreen_30 (by decide) ?_
      exact rb_sub [1, 0] rfl (ih (x1 + 1) s5 _ h hE0)
def xl_M_takeGreen_35  : Nat → Int32 → rb_St → Option (rb_St)
  | 0, _, _ => none
  | n + 1, x1, σ => if 21 ≤ x1 then some σ else if rb_ib x1 21 then rb_lt (rb_sI σ 14 x1.toNatClampNeg (σ.1 12 x1.toNatClampNeg)) (fun s11 => xl_M_takeGreen_35 n (x1 + 1) s11) else none
set_option maxHeartbeats 4000000 in
set_option maxRecDepth 100000 in
theorem xt_M_takeGreen_35 {z : rb_Z} {w : rb_Wd} {Q : State → Prop} (hC : rb_Cx z rb_vM w RX12 cX12_takeGreen 2 (some .int) 1)  : ∀ (n : Nat) (x1 : Int32) (σ : rb_St) (σ9 : rb_St), xl_M_takeGreen_35 n x1 σ = some σ9 → rb_At z rb_vM w 2 Q 59 [(0, .ref (rb_ad w 0))] [] σ9 → rb_At z rb_vM w 2 Q 35 [(0, .ref (rb_ad w 0)), (1, .int x1)] [] σ := by
  intro n
  induction n with
  | zero =>
    intro x1 σ σ9 h hE0
    cases h
  | succ n ih =>
    intro x1 σ σ9 h hE0
    rw [xl_M_takeGreen_35] at h
    refine rb_iload_n hC 1 dX12_takeGreen_35 rfl ?_
    refine rb_bipush (x := 21) hC dX12_takeGreen_36 (by decide) ?_
    refine rb_icmp_ge hC 59 dX12_takeGreen_38 (by decide) (fun c9 => ?_) (fun c9 => ?_)
    · replace h := rb_ifp c9 h
      cases h
      exact rb_sub [0] rfl (hE0)
    · replace h := rb_ifn c9 h
      refine rb_aload_n hC 0 dX12_takeGreen_41 rfl ?_
      refine rb_getR hC fr_X12_49_11 rb_obM0 rfl dX12_takeGreen_42 ?_
      refine rb_iload_n hC 1 dX12_takeGreen_45 rfl ?_
      refine rb_aload_n hC 0 dX12_takeGreen_46 rfl ?_
      refine rb_getR hC fr_X12_43_11 rb_obM0 rfl dX12_takeGreen_47 ?_
      refine rb_iload_n hC 1 dX12_takeGreen_50 rfl ?_
      obtain ⟨g10, h⟩ := rb_gd h
      refine rb_iald hC rb_arM12 (rb_ibI g10) dX12_takeGreen_51 ?_
      refine rb_iast hC rb_arM14 (rb_ibI g10) dX12_takeGreen_52 ?_
      obtain ⟨s11, e12, h⟩ := rb_ltE h
      refine rb_nmS e12 ?_
      refine rb_iinc hC 1 [(1, .int (x1 + 1)), (0, .ref (rb_ad w 0))] dX12_takeGreen_53 rfl rfl (by decide) rfl ?_
      refine rb_goto hC 35 dX12_takeGreen_56 (by decide) ?_
      exact rb_sub [1, 0] rfl (ih (x1 + 1) s11 _ h hE0)
def xl_M_takeGreen_61  : Nat → Int32 → rb_St → Option (rb_St)
  | 0, _, _ => none
  | n + 1, x1, σ => if 398 ≤ x1 then some σ else if rb_ib x1 398 then rb_lt (rb_sI σ 17 x1.toNatClampNeg 0) (fun s17 => xl_M_takeGreen_61 n (x1 + 1) s17) else none
set_option maxHeartbeats 4000000 in
set_option maxRecDepth 100000 in
theorem xt_M_takeGreen_61 {z : rb_Z} {w : rb_Wd} {Q : State → Prop} (hC : rb_Cx z rb_vM w RX12 cX12_takeGreen 2 (some .int) 1)  : ∀ (n : Nat) (x1 : Int32) (σ : rb_St) (σ9 : rb_St), xl_M_takeGreen_61 n x1 σ = some σ9 → rb_At z rb_vM w 2 Q 81 [(0, .ref (rb_ad w 0))] [] σ9 → rb_At z rb_vM w 2 Q 61 [(0, .ref (rb_ad w 0)), (1, .int x1)] [] σ := by
  intro n
  induction n with
  | zero =>
    intro x1 σ σ9 h hE0
    cases h
  | succ n ih =>
    intro x1 σ σ9 h hE0
    rw [xl_M_takeGreen_61] at h
    refine rb_iload_n hC 1 dX12_takeGreen_61 rfl ?_
    refine rb_sipush (x := 398) hC dX12_takeGreen_62 (by decide) ?_
    refine rb_icmp_ge hC 81 dX12_takeGreen_65 (by decide) (fun c15 => ?_) (fun c15 => ?_)
    · replace h := rb_ifp c15 h
      cases h
      exact rb_sub [0] rfl (hE0)
    · replace h := rb_ifn c15 h
      refine rb_aload_n hC 0 dX12_takeGreen_68 rfl ?_
      refine rb_getR hC fr_X12_58_11 rb_obM0 rfl dX12_takeGreen_69 ?_
      refine rb_iload_n hC 1 dX12_takeGreen_72 rfl ?_
      refine rb_iconst (x := 0) hC dX12_takeGreen_73 (by decide) ?_
      obtain ⟨g16, h⟩ := rb_gd h
      refine rb_iast hC rb_arM17 (rb_ibI g16) dX12_takeGreen_74 ?_
      obtain ⟨s17, e18, h⟩ := rb_ltE h
      refine rb_nmS e18 ?_
      refine rb_iinc hC 1 [(1, .int (x1 + 1)), (0, .ref (rb_ad w 0))] dX12_takeGreen_75 rfl rfl (by decide) rfl ?_
      refine rb_goto hC 61 dX12_takeGreen_78 (by decide) ?_
      exact rb_sub [1, 0] rfl (ih (x1 + 1) s17 _ h hE0)
def xl_M_takeGreen_83  : Nat → Int32 → rb_St → Option (rb_St)
  | 0, _, _ => none
  | n + 1, x1, σ => if (σ.1 0 22) ≤ x1 then some σ else if rb_ib (0 + x1) 398 then rb_lt (rb_sI σ 17 (0 + x1).toNatClampNeg x1) (fun s23 => rb_b1 (xf_M_told x1 1 s23) fun r25 => if rb_ib (7 + x1) 398 then rb_lt (rb_sI s23 17 (7 + x1).toNatClampNeg r25) (fun s28 => xl_M_takeGreen_83 n (x1 + 1) s28) else none) else none
set_option maxHeartbeats 4000000 in
set_option maxRecDepth 100000 in
theorem xt_M_takeGreen_83 {z : rb_Z} {w : rb_Wd} {Q : State → Prop} (hC : rb_Cx z rb_vM w RX12 cX12_takeGreen 2 (some .int) 1)  : ∀ (n : Nat) (x1 : Int32) (σ : rb_St) (σ9 : rb_St), xl_M_takeGreen_83 n x1 σ = some σ9 → rb_At z rb_vM w 2 Q 121 [(0, .ref (rb_ad w 0))] [] σ9 → rb_At z rb_vM w 2 Q 83 [(0, .ref (rb_ad w 0)), (1, .int x1)] [] σ := by
  intro n
  induction n with
  | zero =>
    intro x1 σ σ9 h hE0
    cases h
  | succ n ih =>
    intro x1 σ σ9 h hE0
    rw [xl_M_takeGreen_83] at h
    refine rb_iload_n hC 1 dX12_takeGreen_83 rfl ?_
    refine rb_aload_n hC 0 dX12_takeGreen_84 rfl ?_
    refine rb_getI hC fr_X12_283_11 rb_obM0 rfl dX12_takeGreen_85 ?_
    refine rb_icmp_ge hC 121 dX12_takeGreen_88 (by decide) (fun c21 => ?_) (fun c21 => ?_)
    · replace h := rb_ifp c21 h
      cases h
      exact rb_sub [0] rfl (hE0)
    · replace h := rb_ifn c21 h
      refine rb_aload_n hC 0 dX12_takeGreen_91 rfl ?_
      refine rb_getR hC fr_X12_58_11 rb_obM0 rfl dX12_takeGreen_92 ?_
      refine rb_iconst (x := 0) hC dX12_takeGreen_95 (by decide) ?_
      refine rb_iload_n hC 1 dX12_takeGreen_96 rfl ?_
      refine rb_iadd hC dX12_takeGreen_97 ?_
      refine rb_iload_n hC 1 dX12_takeGreen_98 rfl ?_
      obtain ⟨g22, h⟩ := rb_gd h
      refine rb_iast hC rb_arM17 (rb_ibI g22) dX12_takeGreen_99 ?_
      obtain ⟨s23, e24, h⟩ := rb_ltE h
      refine rb_nmS e24 ?_
      refine rb_aload_n hC 0 dX12_takeGreen_100 rfl ?_
      refine rb_getR hC fr_X12_58_11 rb_obM0 rfl dX12_takeGreen_101 ?_
      refine rb_bipush (x := 7) hC dX12_takeGreen_104 (by decide) ?_
      refine rb_iload_n hC 1 dX12_takeGreen_106 rfl ?_
      refine rb_iadd hC dX12_takeGreen_107 ?_
      refine rb_aload_n hC 0 dX12_takeGreen_108 rfl ?_
      refine rb_iload_n hC 1 dX12_takeGreen_109 rfl ?_
      refine rb_iconst (x := 1) hC dX12_takeGreen_110 (by decide) ?_
      obtain ⟨r25, q26, h⟩ := rb_b1s h
      refine rb_callVi hC rb_VokM mv_X12_286 (xc_M_told x1 1 s23 _ q26) rb_obM0 rfl [.int x1, .int 1] rfl rfl rfl ⟨Nat.le_of_ble_eq_true rfl, Nat.le_of_ble_eq_true rfl⟩ (Nat.le_of_ble_eq_true rfl) dX12_takeGreen_111 ?_
      obtain ⟨g27, h⟩ := rb_gd h
      refine rb_iast hC rb_arM17 (rb_ibI g27) dX12_takeGreen_114 ?_
      obtain ⟨s28, e29, h⟩ := rb_ltE h
      refine rb_nmS e29 ?_
      refine rb_iinc hC 1 [(1, .int (x1 + 1)), (0, .ref (rb_ad w 0))] dX12_takeGreen_115 rfl rfl (by decide) rfl ?_
      refine rb_goto hC 83 dX12_takeGreen_118 (by decide) ?_
      exact rb_sub [1, 0] rfl (ih (x1 + 1) s28 _ h hE0)
def xf_M_takeGreen  (σ : rb_St) : Option (Int32 × rb_St) := rb_lt (rb_sI σ 0 22 (σ.1 0 19)) (fun s1 => rb_b1 (xl_M_takeGreen_10 rb_FU 0 s1) fun s7 => rb_b1 (xl_M_takeGreen_35 rb_FU 0 s7) fun s13 => rb_b1 (xl_M_takeGreen_61 rb_FU 0 s13) fun s19 => rb_b1 (xl_M_takeGreen_83 rb_FU 0 s19) fun s30 => rb_lt (rb_sI s30 17 215 (s30.1 13 1)) (fun s32 => rb_lt (rb_sI s32 0 47 0) (fun s34 => rb_lt (rb_sI s34 0 35 0) (fun s36 => rb_lt (rb_sI s36 0 49 0) (fun s38 => some (s38.1 0 22, s38))))))
set_option maxHeartbeats 4000000 in
set_option maxRecDepth 100000 in
theorem xk_M_takeGreen {z : rb_Z} {w : rb_Wd} (hC : rb_Cx z rb_vM w RX12 cX12_takeGreen 2 (some .int) 1)  (σ : rb_St) (r : Int32) (σ9 : rb_St) (h : xf_M_takeGreen σ = some (r, σ9)) : rb_At z rb_vM w 2 (rb_Q z rb_vM w (some (.int r)) σ9) 0 [(0, .ref (rb_ad w 0))] [] σ := by
  unfold xf_M_takeGreen at h
  refine rb_aload_n hC 0 dX12_takeGreen_0 rfl ?_
  refine rb_aload_n hC 0 dX12_takeGreen_1 rfl ?_
  refine rb_getI hC fr_X12_250_11 rb_obM0 rfl dX12_takeGreen_2 ?_
  refine rb_putI hC fr_X12_283_11 ft_11_22 rb_obM0 rfl rfl rfl dX12_takeGreen_5 ?_
  obtain ⟨s1, e2, h⟩ := rb_ltE h
  refine rb_nmS e2 ?_
  refine rb_iconst (x := 0) hC dX12_takeGreen_8 (by decide) ?_
  refine rb_istore_n hC [(1, .int 0), (0, .ref (rb_ad w 0))] dX12_takeGreen_9 (by decide) rfl ?_
  obtain ⟨s7, q8, h⟩ := rb_b1s h
  refine rb_sub (lv2 := [(0, .ref (rb_ad w 0)), (1, .int 0)]) [1, 0] rfl ?_
  refine xt_M_takeGreen_10 hC  rb_FU 0 s1 _ q8 ?_
  refine rb_iconst (x := 0) hC dX12_takeGreen_33 (by decide) ?_
  refine rb_istore_n hC [(1, .int 0), (0, .ref (rb_ad w 0))] dX12_takeGreen_34 (by decide) rfl ?_
  obtain ⟨s13, q14, h⟩ := rb_b1s h
  refine rb_sub (lv2 := [(0, .ref (rb_ad w 0)), (1, .int 0)]) [1, 0] rfl ?_
  refine xt_M_takeGreen_35 hC  rb_FU 0 s7 _ q14 ?_
  refine rb_iconst (x := 0) hC dX12_takeGreen_59 (by decide) ?_
  refine rb_istore_n hC [(1, .int 0), (0, .ref (rb_ad w 0))] dX12_takeGreen_60 (by decide) rfl ?_
  obtain ⟨s19, q20, h⟩ := rb_b1s h
  refine rb_sub (lv2 := [(0, .ref (rb_ad w 0)), (1, .int 0)]) [1, 0] rfl ?_
  refine xt_M_takeGreen_61 hC  rb_FU 0 s13 _ q20 ?_
  refine rb_iconst (x := 0) hC dX12_takeGreen_81 (by decide) ?_
  refine rb_istore_n hC [(1, .int 0), (0, .ref (rb_ad w 0))] dX12_takeGreen_82 (by decide) rfl ?_
  obtain ⟨s30, q31, h⟩ := rb_b1s h
  refine rb_sub (lv2 := [(0, .ref (rb_ad w 0)), (1, .int 0)]) [1, 0] rfl ?_
  refine xt_M_takeGreen_83 hC  rb_FU 0 s19 _ q31 ?_
  refine rb_aload_n hC 0 dX12_takeGreen_121 rfl ?_
  refine rb_getR hC fr_X12_58_11 rb_obM0 rfl dX12_takeGreen_122 ?_
  refine rb_sipush (x := 215) hC dX12_takeGreen_125 (by decide) ?_
  refine rb_aload_n hC 0 dX12_takeGreen_128 rfl ?_
  refine rb_getR hC fr_X12_46_11 rb_obM0 rfl dX12_takeGreen_129 ?_
  refine rb_iconst (x := 1) hC dX12_takeGreen_132 (by decide) ?_
  refine rb_iald hC rb_arM13 (rb_ibI (by decide)) dX12_takeGreen_133 ?_
  refine rb_iast hC rb_arM17 (rb_ibI (by decide)) dX12_takeGreen_134 ?_
  obtain ⟨s32, e33, h⟩ := rb_ltE h
  refine rb_nmS e33 ?_
  refine rb_aload_n hC 0 dX12_takeGreen_135 rfl ?_
  refine rb_iconst (x := 0) hC dX12_takeGreen_136 (by decide) ?_
  refine rb_putI hC fr_X12_289_11 ft_11_47 rb_obM0 rfl rfl rfl dX12_takeGreen_137 ?_
  obtain ⟨s34, e35, h⟩ := rb_ltE h
  refine rb_nmS e35 ?_
  refine rb_aload_n hC 0 dX12_takeGreen_140 rfl ?_
  refine rb_iconst (x := 0) hC dX12_takeGreen_141 (by decide) ?_
  refine rb_putI hC fr_X12_292_11 ft_11_35 rb_obM0 rfl rfl rfl dX12_takeGreen_142 ?_
  obtain ⟨s36, e37, h⟩ := rb_ltE h
  refine rb_nmS e37 ?_
  refine rb_aload_n hC 0 dX12_takeGreen_145 rfl ?_
  refine rb_iconst (x := 0) hC dX12_takeGreen_146 (by decide) ?_
  refine rb_putI hC fr_X12_295_11 ft_11_49 rb_obM0 rfl rfl rfl dX12_takeGreen_147 ?_
  obtain ⟨s38, e39, h⟩ := rb_ltE h
  refine rb_nmS e39 ?_
  refine rb_aload_n hC 0 dX12_takeGreen_150 rfl ?_
  refine rb_getI hC fr_X12_283_11 rb_obM0 rfl dX12_takeGreen_151 ?_
  cases h
  exact rb_iret hC dX12_takeGreen_154
theorem xc_M_takeGreen  (σ : rb_St) (r : Int32) (σ9 : rb_St) (h : xf_M_takeGreen σ = some (r, σ9)) : rb_Con rb_vM yX12_takeGreen cX12_takeGreen 2 (some .int) 1 (fun w => [.ref (rb_ad w 0)]) σ (fun _ => (some (.int r))) σ9 := rb_Con.of (by decide +kernel) (fun _ => Nat.le_of_ble_eq_true rfl) (fun z w hC => xk_M_takeGreen hC  σ r σ9 h)
theorem ft_11_25 : rb_Ty 11 25 .int := ⟨RX12, TX12, 50, tyX12, rfl, tyX12_ok, nmX12, rfl, by decide +kernel⟩
theorem ft_11_13 : rb_Ty 11 13 .int := ⟨RX12, TX12, 50, tyX12, rfl, tyX12_ok, nmX12, rfl, by decide +kernel⟩
theorem me_X12_takeGreen : Cond.instanceMethod yX12_takeGreen ∈ rb_tbl ∧ Cond.selects yX12_takeGreen.cls yX12_takeGreen yX12_takeGreen ∈ rb_tbl ∧ Cond.initialized yX12_takeGreen.cls ∈ rb_tbl ∧ Cond.code yX12_takeGreen cX12_takeGreen 2 (some .int) ∈ rb_tbl ∧ rb_pn yX12_takeGreen 0 := ⟨rb_in (by decide +kernel) (by decide +kernel), rb_in (by decide +kernel) (by decide +kernel), rb_in (by decide +kernel) (by decide +kernel), rb_in (by decide +kernel) (by decide +kernel), by decide +kernel, by decide +kernel, by decide +kernel⟩
theorem mv_X12_299 : rb_MV RX12 299 yX12_takeGreen cX12_takeGreen 2 (some .int) 0 := ⟨rb_in (by decide +kernel) (by decide +kernel), me_X12_takeGreen⟩
def xj_M_text_69 (x1 : Int32) (σ : rb_St) : Option (Int32 × rb_St) := if x1 = 2 then if 6 ≤ (σ.1 0 25) then some ((-1), σ) else rb_b2 (xf_M_readFigure (σ.1 0 25) σ) fun r7 s5 => if r7 = (-1) then rb_lt (rb_sI s5 0 2 0) (fun s9 => rb_lt (rb_sI s9 0 25 ((s9.1 0 25) + 1)) (fun s11 => some ((s11.1 0 25) - 1, s11))) else some ((-1), s5) else some ((-1), σ)
set_option maxHeartbeats 4000000 in
set_option maxRecDepth 100000 in
theorem xu_M_text_69 {z : rb_Z} {w : rb_Wd} (hC : rb_Cx z rb_vM w RX12 cX12_text 2 (some .int) 70) (x1 : Int32) (σ : rb_St) (r : Int32) (σ9 : rb_St) (h : xj_M_text_69 x1 σ = some (r, σ9)) : rb_At z rb_vM w 2 (rb_Q z rb_vM w (some (.int r)) σ9) 69 [(0, .ref (rb_ad w 0)), (1, .int x1)] [] σ := by
  unfold xj_M_text_69 at h
  refine rb_iload_n hC 1 dX12_text_69 rfl ?_
  refine rb_iconst (x := 2) hC dX12_text_70 (by decide) ?_
  refine rb_icmp_ne hC 117 dX12_text_71 (by decide) (fun c3 => ?_) (fun c3 => ?_)
  · replace h := rb_ifn c3 h
    refine rb_iconst (x := (-1)) hC dX12_text_117 (by decide) ?_
    cases h
    exact rb_iret hC dX12_text_118
  · replace h := rb_ifp c3 h
    refine rb_aload_n hC 0 dX12_text_74 rfl ?_
    refine rb_getI hC fr_X12_305_11 rb_obM0 rfl dX12_text_75 ?_
    refine rb_bipush (x := 6) hC dX12_text_78 (by decide) ?_
    refine rb_icmp_ge hC 117 dX12_text_80 (by decide) (fun c4 => ?_) (fun c4 => ?_)
    · replace h := rb_ifp c4 h
      refine rb_iconst (x := (-1)) hC dX12_text_117 (by decide) ?_
      cases h
      exact rb_iret hC dX12_text_118
    · replace h := rb_ifn c4 h
      refine rb_aload_n hC 0 dX12_text_83 rfl ?_
      refine rb_aload_n hC 0 dX12_text_84 rfl ?_
      refine rb_getI hC fr_X12_305_11 rb_obM0 rfl dX12_text_85 ?_
      obtain ⟨r7, s5, q6, h⟩ := rb_b2s h
      refine rb_callVi hC rb_VokM mv_X12_280 (xc_M_readFigure (σ.1 0 25) σ _ _ q6) rb_obM0 rfl [.int (σ.1 0 25)] rfl rfl rfl ⟨Nat.le_of_ble_eq_true rfl, Nat.le_of_ble_eq_true rfl⟩ (Nat.le_of_ble_eq_true rfl) dX12_text_88 ?_
      refine rb_iconst (x := (-1)) hC dX12_text_91 (by decide) ?_
      refine rb_icmp_ne hC 117 dX12_text_92 (by decide) (fun c8 => ?_) (fun c8 => ?_)
      · replace h := rb_ifn c8 h
        refine rb_iconst (x := (-1)) hC dX12_text_117 (by decide) ?_
        cases h
        exact rb_iret hC dX12_text_118
      · replace h := rb_ifp c8 h
        refine rb_aload_n hC 0 dX12_text_95 rfl ?_
        refine rb_iconst (x := 0) hC dX12_text_96 (by decide) ?_
        refine rb_putI hC fr_X12_121_11 ft_11_2 rb_obM0 rfl rfl rfl dX12_text_97 ?_
        obtain ⟨s9, e10, h⟩ := rb_ltE h
        refine rb_nmS e10 ?_
        refine rb_aload_n hC 0 dX12_text_100 rfl ?_
        refine rb_dup hC dX12_text_101 rfl ?_
        refine rb_getI hC fr_X12_305_11 rb_obM0 rfl dX12_text_102 ?_
        refine rb_iconst (x := 1) hC dX12_text_105 (by decide) ?_
        refine rb_iadd hC dX12_text_106 ?_
        refine rb_putI hC fr_X12_305_11 ft_11_25 rb_obM0 rfl rfl rfl dX12_text_107 ?_
        obtain ⟨s11, e12, h⟩ := rb_ltE h
        refine rb_nmS e12 ?_
        refine rb_aload_n hC 0 dX12_text_110 rfl ?_
        refine rb_getI hC fr_X12_305_11 rb_obM0 rfl dX12_text_111 ?_
        refine rb_iconst (x := 1) hC dX12_text_114 (by decide) ?_
        refine rb_isub hC dX12_text_115 ?_
        cases h
        exact rb_iret hC dX12_text_116
def xj_M_text_22 (x1 : Int32) (σ : rb_St) : Option (Int32 × rb_St) := if x1 = 1 then if 4 ≤ (σ.1 0 13) then xj_M_text_69 x1 σ else rb_b2 (xf_M_readLaw (σ.1 0 13) σ) fun r16 s14 => if r16 = (-1) then rb_lt (rb_sI s14 0 2 0) (fun s18 => rb_lt (rb_sI s18 0 13 ((s18.1 0 13) + 1)) (fun s20 => some ((s20.1 0 13) - 1, s20))) else xj_M_text_69 x1 s14 else xj_M_text_69 x1 σ
set_option maxHeartbeats 4000000 in
set_option maxRecDepth 100000 in
theorem xu_M_text_22 {z : rb_Z} {w : rb_Wd} (hC : rb_Cx z rb_vM w RX12 cX12_text 2 (some .int) 70) (x1 : Int32) (σ : rb_St) (r : Int32) (σ9 : rb_St) (h : xj_M_text_22 x1 σ = some (r, σ9)) : rb_At z rb_vM w 2 (rb_Q z rb_vM w (some (.int r)) σ9) 22 [(0, .ref (rb_ad w 0)), (1, .int x1)] [] σ := by
  unfold xj_M_text_22 at h
  refine rb_iload_n hC 1 dX12_text_22 rfl ?_
  refine rb_iconst (x := 1) hC dX12_text_23 (by decide) ?_
  refine rb_icmp_ne hC 69 dX12_text_24 (by decide) (fun c2 => ?_) (fun c2 => ?_)
  · replace h := rb_ifn c2 h
    exact rb_sub [0, 1] rfl (xu_M_text_69 hC x1 σ _ _ h)
  · replace h := rb_ifp c2 h
    refine rb_aload_n hC 0 dX12_text_27 rfl ?_
    refine rb_getI hC fr_X12_302_11 rb_obM0 rfl dX12_text_28 ?_
    refine rb_iconst (x := 4) hC dX12_text_31 (by decide) ?_
    refine rb_icmp_ge hC 69 dX12_text_32 (by decide) (fun c13 => ?_) (fun c13 => ?_)
    · replace h := rb_ifp c13 h
      exact rb_sub [0, 1] rfl (xu_M_text_69 hC x1 σ _ _ h)
    · replace h := rb_ifn c13 h
      refine rb_aload_n hC 0 dX12_text_35 rfl ?_
      refine rb_aload_n hC 0 dX12_text_36 rfl ?_
      refine rb_getI hC fr_X12_302_11 rb_obM0 rfl dX12_text_37 ?_
      obtain ⟨r16, s14, q15, h⟩ := rb_b2s h
      refine rb_callVi hC rb_VokM mv_X12_277 (xc_M_readLaw (σ.1 0 13) σ _ _ q15) rb_obM0 rfl [.int (σ.1 0 13)] rfl rfl rfl ⟨Nat.le_of_ble_eq_true rfl, Nat.le_of_ble_eq_true rfl⟩ (Nat.le_of_ble_eq_true rfl) dX12_text_40 ?_
      refine rb_iconst (x := (-1)) hC dX12_text_43 (by decide) ?_
      refine rb_icmp_ne hC 69 dX12_text_44 (by decide) (fun c17 => ?_) (fun c17 => ?_)
      · replace h := rb_ifn c17 h
        exact rb_sub [0, 1] rfl (xu_M_text_69 hC x1 s14 _ _ h)
      · replace h := rb_ifp c17 h
        refine rb_aload_n hC 0 dX12_text_47 rfl ?_
        refine rb_iconst (x := 0) hC dX12_text_48 (by decide) ?_
        refine rb_putI hC fr_X12_121_11 ft_11_2 rb_obM0 rfl rfl rfl dX12_text_49 ?_
        obtain ⟨s18, e19, h⟩ := rb_ltE h
        refine rb_nmS e19 ?_
        refine rb_aload_n hC 0 dX12_text_52 rfl ?_
        refine rb_dup hC dX12_text_53 rfl ?_
        refine rb_getI hC fr_X12_302_11 rb_obM0 rfl dX12_text_54 ?_
        refine rb_iconst (x := 1) hC dX12_text_57 (by decide) ?_
        refine rb_iadd hC dX12_text_58 ?_
        refine rb_putI hC fr_X12_302_11 ft_11_13 rb_obM0 rfl rfl rfl dX12_text_59 ?_
        obtain ⟨s20, e21, h⟩ := rb_ltE h
        refine rb_nmS e21 ?_
        refine rb_aload_n hC 0 dX12_text_62 rfl ?_
        refine rb_getI hC fr_X12_302_11 rb_obM0 rfl dX12_text_63 ?_
        refine rb_iconst (x := 1) hC dX12_text_66 (by decide) ?_
        refine rb_isub hC dX12_text_67 ?_
        cases h
        exact rb_iret hC dX12_text_68
def xf_M_text (p0 : Int32) (σ : rb_St) : Option (Int32 × rb_St) := if p0 = 0 then rb_b2 (xf_M_readGreen σ) fun r24 s22 => if r24 = (-1) then rb_lt (rb_sI s22 0 2 0) (fun s26 => rb_b2 (xf_M_takeGreen s26) fun r30 s28 => some (r30, s28)) else xj_M_text_22 p0 s22 else xj_M_text_22 p0 σ
set_option maxHeartbeats 4000000 in
set_option maxRecDepth 100000 in
theorem xk_M_text {z : rb_Z} {w : rb_Wd} (hC : rb_Cx z rb_vM w RX12 cX12_text 2 (some .int) 70) (p0 : Int32) (σ : rb_St) (r : Int32) (σ9 : rb_St) (h : xf_M_text p0 σ = some (r, σ9)) : rb_At z rb_vM w 2 (rb_Q z rb_vM w (some (.int r)) σ9) 0 [(0, .ref (rb_ad w 0)), (1, .int p0)] [] σ := by
  unfold xf_M_text at h
  refine rb_iload_n hC 1 dX12_text_0 rfl ?_
  refine rb_if_ne hC 22 dX12_text_1 (by decide) (fun c1 => ?_) (fun c1 => ?_)
  · replace h := rb_ifn c1 h
    exact rb_sub [0, 1] rfl (xu_M_text_22 hC p0 σ _ _ h)
  · replace h := rb_ifp c1 h
    refine rb_aload_n hC 0 dX12_text_4 rfl ?_
    obtain ⟨r24, s22, q23, h⟩ := rb_b2s h
    refine rb_callVi hC rb_VokM mv_X12_274 (xc_M_readGreen  σ _ _ q23) rb_obM0 rfl [] rfl rfl rfl ⟨Nat.le_of_ble_eq_true rfl, Nat.le_of_ble_eq_true rfl⟩ (Nat.le_of_ble_eq_true rfl) dX12_text_5 ?_
    refine rb_iconst (x := (-1)) hC dX12_text_8 (by decide) ?_
    refine rb_icmp_ne hC 22 dX12_text_9 (by decide) (fun c25 => ?_) (fun c25 => ?_)
    · replace h := rb_ifn c25 h
      exact rb_sub [0, 1] rfl (xu_M_text_22 hC p0 s22 _ _ h)
    · replace h := rb_ifp c25 h
      refine rb_aload_n hC 0 dX12_text_12 rfl ?_
      refine rb_iconst (x := 0) hC dX12_text_13 (by decide) ?_
      refine rb_putI hC fr_X12_121_11 ft_11_2 rb_obM0 rfl rfl rfl dX12_text_14 ?_
      obtain ⟨s26, e27, h⟩ := rb_ltE h
      refine rb_nmS e27 ?_
      refine rb_aload_n hC 0 dX12_text_17 rfl ?_
      obtain ⟨r30, s28, q29, h⟩ := rb_b2s h
      refine rb_callVi hC rb_VokM mv_X12_299 (xc_M_takeGreen  s26 _ _ q29) rb_obM0 rfl [] rfl rfl rfl ⟨Nat.le_of_ble_eq_true rfl, Nat.le_of_ble_eq_true rfl⟩ (Nat.le_of_ble_eq_true rfl) dX12_text_18 ?_
      cases h
      exact rb_iret hC dX12_text_21
theorem xc_M_text (p0 : Int32) (σ : rb_St) (r : Int32) (σ9 : rb_St) (h : xf_M_text p0 σ = some (r, σ9)) : rb_Con rb_vM yX12_text cX12_text 2 (some .int) 70 (fun w => [.ref (rb_ad w 0), .int p0]) σ (fun _ => (some (.int r))) σ9 := rb_Con.of (by decide +kernel) (fun _ => Nat.le_of_ble_eq_true rfl) (fun z w hC => xk_M_text hC p0 σ r σ9 h)
theorem kc_X12_507 : Cond.constant RX12 507 1000000000 ∈ rb_tbl := rb_in (by decide +kernel) (by decide +kernel)
def xf_M_odds (p0 : Int32) (p1 : Int32) (p2 : Int32) (σ : rb_St) : Option (Int32 × rb_St) := if (xf_M_isFigure p0 σ) = 0 then some ((-1), σ) else if rb_ib p0 7 then if 8 < (σ.1 16 p0.toNatClampNeg) then some ((-1), σ) else if (xf_M_in p1 0 100 σ) = 0 then some ((-1), σ) else if (xf_M_in p2 0 60 σ) = 0 then some ((-1), σ) else rb_b2 (xf_M_oddsFrom 64 p0 0 0 p1 p2 1000000000 σ) fun r8 s6 => some (r8, s6) else none
set_option maxHeartbeats 4000000 in
set_option maxRecDepth 100000 in
theorem xk_M_odds {z : rb_Z} {w : rb_Wd} (hC : rb_Cx z rb_vM w RX12 cX12_odds 4 (some .int) 69) (p0 : Int32) (p1 : Int32) (p2 : Int32) (σ : rb_St) (r : Int32) (σ9 : rb_St) (h : xf_M_odds p0 p1 p2 σ = some (r, σ9)) : rb_At z rb_vM w 4 (rb_Q z rb_vM w (some (.int r)) σ9) 0 [(0, .ref (rb_ad w 0)), (1, .int p0), (2, .int p1), (3, .int p2)] [] σ := by
  unfold xf_M_odds at h
  refine rb_aload_n hC 0 dX12_odds_0 rfl ?_
  refine rb_iload_n hC 1 dX12_odds_1 rfl ?_
  refine rb_callVi hC rb_VokM mv_X12_407 (xc_M_isFigure p0 σ _ rfl) rb_obM0 rfl [.int p0] rfl rfl rfl ⟨Nat.le_of_ble_eq_true rfl, Nat.le_of_ble_eq_true rfl⟩ (Nat.le_of_ble_eq_true rfl) dX12_odds_2 ?_
  refine rb_if_eq hC 39 dX12_odds_5 (by decide) (fun c1 => ?_) (fun c1 => ?_)
  · replace h := rb_ifp c1 h
    refine rb_iconst (x := (-1)) hC dX12_odds_39 (by decide) ?_
    cases h
    exact rb_iret hC dX12_odds_40
  · replace h := rb_ifn c1 h
    refine rb_aload_n hC 0 dX12_odds_8 rfl ?_
    refine rb_getR hC fr_X12_55_11 rb_obM0 rfl dX12_odds_9 ?_
    refine rb_iload_n hC 1 dX12_odds_12 rfl ?_
    obtain ⟨g2, h⟩ := rb_gd h
    refine rb_iald hC rb_arM16 (rb_ibI g2) dX12_odds_13 ?_
    refine rb_bipush (x := 8) hC dX12_odds_14 (by decide) ?_
    refine rb_icmp_gt hC 39 dX12_odds_16 (by decide) (fun c3 => ?_) (fun c3 => ?_)
    · replace h := rb_ifp c3 h
      refine rb_iconst (x := (-1)) hC dX12_odds_39 (by decide) ?_
      cases h
      exact rb_iret hC dX12_odds_40
    · replace h := rb_ifn c3 h
      refine rb_iload_n hC 2 dX12_odds_19 rfl ?_
      refine rb_iconst (x := 0) hC dX12_odds_20 (by decide) ?_
      refine rb_bipush (x := 100) hC dX12_odds_21 (by decide) ?_
      refine rb_callSi hC rb_VokM mv_X12_229 (xc_M_in p1 0 100 σ _ rfl) [.int p1, .int 0, .int 100] rfl rfl rfl ⟨Nat.le_of_ble_eq_true rfl, Nat.le_of_ble_eq_true rfl⟩ (Nat.le_of_ble_eq_true rfl) dX12_odds_23 ?_
      refine rb_if_eq hC 39 dX12_odds_26 (by decide) (fun c4 => ?_) (fun c4 => ?_)
      · replace h := rb_ifp c4 h
        refine rb_iconst (x := (-1)) hC dX12_odds_39 (by decide) ?_
        cases h
        exact rb_iret hC dX12_odds_40
      · replace h := rb_ifn c4 h
        refine rb_iload_n hC 3 dX12_odds_29 rfl ?_
        refine rb_iconst (x := 0) hC dX12_odds_30 (by decide) ?_
        refine rb_bipush (x := 60) hC dX12_odds_31 (by decide) ?_
        refine rb_callSi hC rb_VokM mv_X12_229 (xc_M_in p2 0 60 σ _ rfl) [.int p2, .int 0, .int 60] rfl rfl rfl ⟨Nat.le_of_ble_eq_true rfl, Nat.le_of_ble_eq_true rfl⟩ (Nat.le_of_ble_eq_true rfl) dX12_odds_33 ?_
        refine rb_if_ne hC 41 dX12_odds_36 (by decide) (fun c5 => ?_) (fun c5 => ?_)
        · replace h := rb_ifn c5 h
          refine rb_aload_n hC 0 dX12_odds_41 rfl ?_
          refine rb_iload_n hC 1 dX12_odds_42 rfl ?_
          refine rb_iconst (x := 0) hC dX12_odds_43 (by decide) ?_
          refine rb_iconst (x := 0) hC dX12_odds_44 (by decide) ?_
          refine rb_iload_n hC 2 dX12_odds_45 rfl ?_
          refine rb_iload_n hC 3 dX12_odds_46 rfl ?_
          refine rb_ldc_w hC kc_X12_507 dX12_odds_47 ?_
          obtain ⟨r8, s6, q7, h⟩ := rb_b2s h
          refine rb_callVi hC rb_VokM mv_X12_502 (xc_M_oddsFrom 64 p0 0 0 p1 p2 1000000000 σ _ _ q7) rb_obM0 rfl [.int p0, .int 0, .int 0, .int p1, .int p2, .int 1000000000] rfl rfl rfl ⟨Nat.le_of_ble_eq_true rfl, Nat.le_of_ble_eq_true rfl⟩ (Nat.le_of_ble_eq_true rfl) dX12_odds_50 ?_
          cases h
          exact rb_iret hC dX12_odds_53
        · replace h := rb_ifp c5 h
          refine rb_iconst (x := (-1)) hC dX12_odds_39 (by decide) ?_
          cases h
          exact rb_iret hC dX12_odds_40
theorem xc_M_odds (p0 : Int32) (p1 : Int32) (p2 : Int32) (σ : rb_St) (r : Int32) (σ9 : rb_St) (h : xf_M_odds p0 p1 p2 σ = some (r, σ9)) : rb_Con rb_vM yX12_odds cX12_odds 4 (some .int) 69 (fun w => [.ref (rb_ad w 0), .int p0, .int p1, .int p2]) σ (fun _ => (some (.int r))) σ9 := rb_Con.of (by decide +kernel) (fun _ => Nat.le_of_ble_eq_true rfl) (fun z w hC => xk_M_odds hC p0 p1 p2 σ r σ9 h)
theorem me_X6_readUnit : Cond.instanceMethod yX6_readUnit ∈ rb_tbl ∧ Cond.selects yX6_readUnit.cls yX6_readUnit yX6_readUnit ∈ rb_tbl ∧ Cond.initialized yX6_readUnit.cls ∈ rb_tbl ∧ Cond.code yX6_readUnit cX6_readUnit 3 (some .boolean) ∈ rb_tbl ∧ rb_pn yX6_readUnit 1 := ⟨rb_in (by decide +kernel) (by decide +kernel), rb_in (by decide +kernel) (by decide +kernel), rb_in (by decide +kernel) (by decide +kernel), rb_in (by decide +kernel) (by decide +kernel), by decide +kernel, by decide +kernel, by decide +kernel⟩
theorem mv_X6_61 : rb_MV RX6 61 yX6_readUnit cX6_readUnit 3 (some .boolean) 1 := ⟨rb_in (by decide +kernel) (by decide +kernel), me_X6_readUnit⟩
theorem me_X6_readMoreUnits : Cond.instanceMethod yX6_readMoreUnits ∈ rb_tbl ∧ Cond.selects yX6_readMoreUnits.cls yX6_readMoreUnits yX6_readMoreUnits ∈ rb_tbl ∧ Cond.initialized yX6_readMoreUnits.cls ∈ rb_tbl ∧ Cond.code yX6_readMoreUnits cX6_readMoreUnits 3 (some .boolean) ∈ rb_tbl ∧ rb_pn yX6_readMoreUnits 1 := ⟨rb_in (by decide +kernel) (by decide +kernel), rb_in (by decide +kernel) (by decide +kernel), rb_in (by decide +kernel) (by decide +kernel), rb_in (by decide +kernel) (by decide +kernel), by decide +kernel, by decide +kernel, by decide +kernel⟩
theorem mv_X6_58 : rb_MV RX6 58 yX6_readMoreUnits cX6_readMoreUnits 3 (some .boolean) 1 := ⟨rb_in (by decide +kernel) (by decide +kernel), me_X6_readMoreUnits⟩
theorem me_X6_readMoreOfTruth : Cond.instanceMethod yX6_readMoreOfTruth ∈ rb_tbl ∧ Cond.selects yX6_readMoreOfTruth.cls yX6_readMoreOfTruth yX6_readMoreOfTruth ∈ rb_tbl ∧ Cond.initialized yX6_readMoreOfTruth.cls ∈ rb_tbl ∧ Cond.code yX6_readMoreOfTruth cX6_readMoreOfTruth 3 (some .boolean) ∈ rb_tbl ∧ rb_pn yX6_readMoreOfTruth 1 := ⟨rb_in (by decide +kernel) (by decide +kernel), rb_in (by decide +kernel) (by decide +kernel), rb_in (by decide +kernel) (by decide +kernel), rb_in (by decide +kernel) (by decide +kernel), by decide +kernel, by decide +kernel, by decide +kernel⟩
theorem mv_X6_64 : rb_MV RX6 64 yX6_readMoreOfTruth cX6_readMoreOfTruth 3 (some .boolean) 1 := ⟨rb_in (by decide +kernel) (by decide +kernel), me_X6_readMoreOfTruth⟩
theorem mv_X6_27_6 : rb_MU RX6 27 "RibbonPole$LawReader" "RibbonPole$Reader" ⟨"RibbonPole$LawReader", "passes", "(I)Z"⟩ yX8_passes cX8_passes 2 (some .boolean) 1 := ⟨rb_in (by decide +kernel) (by decide +kernel), rb_in (by decide +kernel) (by decide +kernel), rb_in (by decide +kernel) (by decide +kernel), rb_in (by decide +kernel) (by decide +kernel), rb_in (by decide +kernel) (by decide +kernel), rb_in (by decide +kernel) (by decide +kernel), rfl, by decide, by decide, by decide +kernel⟩
theorem fr_X6_14_6 : rb_FR RX6 14 6 2 := ⟨RX6, TX6, 3, "RibbonPole$LawReader", rfl, rb_uX6, by decide, rb_in (by decide +kernel) (by decide +kernel), Or.inl rfl⟩
theorem me_X5_add : Cond.instanceMethod yX5_add ∈ rb_tbl ∧ Cond.selects yX5_add.cls yX5_add yX5_add ∈ rb_tbl ∧ Cond.initialized yX5_add.cls ∈ rb_tbl ∧ Cond.code yX5_add cX5_add 2 none ∈ rb_tbl ∧ rb_pn yX5_add 1 := ⟨rb_in (by decide +kernel) (by decide +kernel), rb_in (by decide +kernel) (by decide +kernel), rb_in (by decide +kernel) (by decide +kernel), rb_in (by decide +kernel) (by decide +kernel), by decide +kernel, by decide +kernel, by decide +kernel⟩
theorem mv_X6_35 : rb_MV RX6 35 yX5_add cX5_add 2 none 1 := ⟨rb_in (by decide +kernel) (by decide +kernel), me_X5_add⟩
theorem mv_X6_39_6 : rb_MU RX6 39 "RibbonPole$LawReader" "RibbonPole$Reader" ⟨"RibbonPole$LawReader", "nextSign", "()I"⟩ yX8_nextSign cX8_nextSign 1 (some .int) 0 := ⟨rb_in (by decide +kernel) (by decide +kernel), rb_in (by decide +kernel) (by decide +kernel), rb_in (by decide +kernel) (by decide +kernel), rb_in (by decide +kernel) (by decide +kernel), rb_in (by decide +kernel) (by decide +kernel), rb_in (by decide +kernel) (by decide +kernel), rfl, by decide, by decide, by decide +kernel⟩
theorem me_X6_readSum : Cond.instanceMethod yX6_readSum ∈ rb_tbl ∧ Cond.selects yX6_readSum.cls yX6_readSum yX6_readSum ∈ rb_tbl ∧ Cond.initialized yX6_readSum.cls ∈ rb_tbl ∧ Cond.code yX6_readSum cX6_readSum 4 (some .boolean) ∈ rb_tbl ∧ rb_pn yX6_readSum 1 := ⟨rb_in (by decide +kernel) (by decide +kernel), rb_in (by decide +kernel) (by decide +kernel), rb_in (by decide +kernel) (by decide +kernel), rb_in (by decide +kernel) (by decide +kernel), by decide +kernel, by decide +kernel, by decide +kernel⟩
theorem mv_X6_49 : rb_MV RX6 49 yX6_readSum cX6_readSum 4 (some .boolean) 1 := ⟨rb_in (by decide +kernel) (by decide +kernel), me_X6_readSum⟩
theorem me_X6_readComparison : Cond.instanceMethod yX6_readComparison ∈ rb_tbl ∧ Cond.selects yX6_readComparison.cls yX6_readComparison yX6_readComparison ∈ rb_tbl ∧ Cond.initialized yX6_readComparison.cls ∈ rb_tbl ∧ Cond.code yX6_readComparison cX6_readComparison 3 (some .boolean) ∈ rb_tbl ∧ rb_pn yX6_readComparison 1 := ⟨rb_in (by decide +kernel) (by decide +kernel), rb_in (by decide +kernel) (by decide +kernel), rb_in (by decide +kernel) (by decide +kernel), rb_in (by decide +kernel) (by decide +kernel), by decide +kernel, by decide +kernel, by decide +kernel⟩
theorem mv_X6_55 : rb_MV RX6 55 yX6_readComparison cX6_readComparison 3 (some .boolean) 1 := ⟨rb_in (by decide +kernel) (by decide +kernel), me_X6_readComparison⟩
theorem me_X6_opens : Cond.instanceMethod yX6_opens ∈ rb_tbl ∧ Cond.selects yX6_opens.cls yX6_opens yX6_opens ∈ rb_tbl ∧ Cond.initialized yX6_opens.cls ∈ rb_tbl ∧ Cond.code yX6_opens cX6_opens 2 (some .boolean) ∈ rb_tbl ∧ rb_pn yX6_opens 1 := ⟨rb_in (by decide +kernel) (by decide +kernel), rb_in (by decide +kernel) (by decide +kernel), rb_in (by decide +kernel) (by decide +kernel), rb_in (by decide +kernel) (by decide +kernel), by decide +kernel, by decide +kernel, by decide +kernel⟩
theorem mv_X6_67 : rb_MV RX6 67 yX6_opens cX6_opens 2 (some .boolean) 1 := ⟨rb_in (by decide +kernel) (by decide +kernel), me_X6_opens⟩
theorem me_X6_readCondition : Cond.instanceMethod yX6_readCondition ∈ rb_tbl ∧ Cond.selects yX6_readCondition.cls yX6_readCondition yX6_readCondition ∈ rb_tbl ∧ Cond.initialized yX6_readCondition.cls ∈ rb_tbl ∧ Cond.code yX6_readCondition cX6_readCondition 2 (some .boolean) ∈ rb_tbl ∧ rb_pn yX6_readCondition 1 := ⟨rb_in (by decide +kernel) (by decide +kernel), rb_in (by decide +kernel) (by decide +kernel), rb_in (by decide +kernel) (by decide +kernel), rb_in (by decide +kernel) (by decide +kernel), by decide +kernel, by decide +kernel, by decide +kernel⟩
theorem mv_X6_43 : rb_MV RX6 43 yX6_readCondition cX6_readCondition 2 (some .boolean) 1 := ⟨rb_in (by decide +kernel) (by decide +kernel), me_X6_readCondition⟩
theorem me_X6_isComparison : Cond.static yX6_isComparison ∈ rb_tbl ∧ Cond.initialized yX6_isComparison.cls ∈ rb_tbl ∧ Cond.code yX6_isComparison cX6_isComparison 1 (some .boolean) ∈ rb_tbl ∧ rb_pn yX6_isComparison 1 := ⟨rb_in (by decide +kernel) (by decide +kernel), rb_in (by decide +kernel) (by decide +kernel), rb_in (by decide +kernel) (by decide +kernel), by decide +kernel, by decide +kernel, by decide +kernel⟩
theorem mv_X6_52 : rb_MS RX6 52 yX6_isComparison cX6_isComparison 1 (some .boolean) 1 := ⟨rb_in (by decide +kernel) (by decide +kernel), me_X6_isComparison⟩
theorem me_X6_readTerm : Cond.instanceMethod yX6_readTerm ∈ rb_tbl ∧ Cond.selects yX6_readTerm.cls yX6_readTerm yX6_readTerm ∈ rb_tbl ∧ Cond.initialized yX6_readTerm.cls ∈ rb_tbl ∧ Cond.code yX6_readTerm cX6_readTerm 4 (some .boolean) ∈ rb_tbl ∧ rb_pn yX6_readTerm 1 := ⟨rb_in (by decide +kernel) (by decide +kernel), rb_in (by decide +kernel) (by decide +kernel), rb_in (by decide +kernel) (by decide +kernel), rb_in (by decide +kernel) (by decide +kernel), by decide +kernel, by decide +kernel, by decide +kernel⟩
theorem mv_X6_70 : rb_MV RX6 70 yX6_readTerm cX6_readTerm 4 (some .boolean) 1 := ⟨rb_in (by decide +kernel) (by decide +kernel), me_X6_readTerm⟩
theorem me_X6_readAtom : Cond.instanceMethod yX6_readAtom ∈ rb_tbl ∧ Cond.selects yX6_readAtom.cls yX6_readAtom yX6_readAtom ∈ rb_tbl ∧ Cond.initialized yX6_readAtom.cls ∈ rb_tbl ∧ Cond.code yX6_readAtom cX6_readAtom 4 (some .boolean) ∈ rb_tbl ∧ rb_pn yX6_readAtom 1 := ⟨rb_in (by decide +kernel) (by decide +kernel), rb_in (by decide +kernel) (by decide +kernel), rb_in (by decide +kernel) (by decide +kernel), rb_in (by decide +kernel) (by decide +kernel), by decide +kernel, by decide +kernel, by decide +kernel⟩
theorem mv_X6_73 : rb_MV RX6 73 yX6_readAtom cX6_readAtom 4 (some .boolean) 1 := ⟨rb_in (by decide +kernel) (by decide +kernel), me_X6_readAtom⟩
theorem mv_X6_76 : rb_MSU RX6 76 "RibbonPole$Reader" ⟨"RibbonPole$LawReader", "isDigit", "(I)Z"⟩ yX8_isDigit cX8_isDigit 1 (some .boolean) 1 := ⟨rb_in (by decide +kernel) (by decide +kernel), rb_in (by decide +kernel) (by decide +kernel), rb_in (by decide +kernel) (by decide +kernel), rb_in (by decide +kernel) (by decide +kernel), rb_in (by decide +kernel) (by decide +kernel), rfl, by decide +kernel, by decide +kernel, by decide +kernel⟩
theorem me_J0_indexOf_0f7a4 : Cond.instanceMethod yJ0_indexOf_0f7a4 ∈ rb_tbl ∧ Cond.selects yJ0_indexOf_0f7a4.cls yJ0_indexOf_0f7a4 yJ0_indexOf_0f7a4 ∈ rb_tbl ∧ Cond.initialized yJ0_indexOf_0f7a4.cls ∈ rb_tbl ∧ Cond.code yJ0_indexOf_0f7a4 cJ0_indexOf_0f7a4 2 (some .int) ∈ rb_tbl ∧ rb_pn yJ0_indexOf_0f7a4 1 := ⟨rb_in (by decide +kernel) (by decide +kernel), rb_in (by decide +kernel) (by decide +kernel), rb_in (by decide +kernel) (by decide +kernel), rb_in (by decide +kernel) (by decide +kernel), by decide +kernel, by decide +kernel, by decide +kernel⟩
theorem mv_X6_85 : rb_MV RX6 85 yJ0_indexOf_0f7a4 cJ0_indexOf_0f7a4 2 (some .int) 1 := ⟨rb_in (by decide +kernel) (by decide +kernel), me_J0_indexOf_0f7a4⟩
theorem mv_X6_79_6 : rb_MU RX6 79 "RibbonPole$LawReader" "RibbonPole$Reader" ⟨"RibbonPole$LawReader", "readNumber", "(I)I"⟩ yX8_readNumber cX8_readNumber 4 (some .int) 1 := ⟨rb_in (by decide +kernel) (by decide +kernel), rb_in (by decide +kernel) (by decide +kernel), rb_in (by decide +kernel) (by decide +kernel), rb_in (by decide +kernel) (by decide +kernel), rb_in (by decide +kernel) (by decide +kernel), rb_in (by decide +kernel) (by decide +kernel), rfl, by decide, by decide, by decide +kernel⟩
abbrev xg_LR : Type := (Int32 → rb_St → Option (Int32 × rb_St)) × (Int32 → rb_St → Option (Int32 × rb_St)) × (Int32 → rb_St → Option (Int32 × rb_St)) × (Int32 → rb_St → Option (Int32 × rb_St)) × (Int32 → rb_St → Option (Int32 × rb_St)) × (Int32 → rb_St → Option (Int32 × rb_St)) × (Int32 → rb_St → Option (Int32 × rb_St)) × (Int32 → rb_St → Option (Int32 × rb_St))
def xg_LR_ok (g : xg_LR) (h0 : Nat) : Prop := (∀ (p0 : Int32) (σ : rb_St) (r : Int32) (σ9 : rb_St), g.1 p0 σ = some (r, σ9) → rb_Con rb_vX yX6_readCondition cX6_readCondition 2 (some .boolean) h0 (fun w => [.ref (rb_ad w 7), .int p0]) σ (fun _ => (some (.int r))) σ9) ∧ (∀ (p0 : Int32) (σ : rb_St) (r : Int32) (σ9 : rb_St), g.2.1 p0 σ = some (r, σ9) → rb_Con rb_vX yX6_readMoreUnits cX6_readMoreUnits 3 (some .boolean) h0 (fun w => [.ref (rb_ad w 7), .int p0]) σ (fun _ => (some (.int r))) σ9) ∧ (∀ (p0 : Int32) (σ : rb_St) (r : Int32) (σ9 : rb_St), g.2.2.1 p0 σ = some (r, σ9) → rb_Con rb_vX yX6_readMoreOfTruth cX6_readMoreOfTruth 3 (some .boolean) h0 (fun w => [.ref (rb_ad w 7), .int p0]) σ (fun _ => (some (.int r))) σ9) ∧ (∀ (p0 : Int32) (σ : rb_St) (r : Int32) (σ9 : rb_St), g.2.2.2.1 p0 σ = some (r, σ9) → rb_Con rb_vX yX6_readUnit cX6_readUnit 3 (some .boolean) h0 (fun w => [.ref (rb_ad w 7), .int p0]) σ (fun _ => (some (.int r))) σ9) ∧ (∀ (p0 : Int32) (σ : rb_St) (r : Int32) (σ9 : rb_St), g.2.2.2.2.1 p0 σ = some (r, σ9) → rb_Con rb_vX yX6_readComparison cX6_readComparison 3 (some .boolean) h0 (fun w => [.ref (rb_ad w 7), .int p0]) σ (fun _ => (some (.int r))) σ9) ∧ (∀ (p0 : Int32) (σ : rb_St) (r : Int32) (σ9 : rb_St), g.2.2.2.2.2.1 p0 σ = some (r, σ9) → rb_Con rb_vX yX6_readSum cX6_readSum 4 (some .boolean) h0 (fun w => [.ref (rb_ad w 7), .int p0]) σ (fun _ => (some (.int r))) σ9) ∧ (∀ (p0 : Int32) (σ : rb_St) (r : Int32) (σ9 : rb_St), g.2.2.2.2.2.2.1 p0 σ = some (r, σ9) → rb_Con rb_vX yX6_readTerm cX6_readTerm 4 (some .boolean) h0 (fun w => [.ref (rb_ad w 7), .int p0]) σ (fun _ => (some (.int r))) σ9) ∧ (∀ (p0 : Int32) (σ : rb_St) (r : Int32) (σ9 : rb_St), g.2.2.2.2.2.2.2 p0 σ = some (r, σ9) → rb_Con rb_vX yX6_readAtom cX6_readAtom 4 (some .boolean) h0 (fun w => [.ref (rb_ad w 7), .int p0]) σ (fun _ => (some (.int r))) σ9)
def xb_LR_readCondition (g : xg_LR) (p0 : Int32) (σ : rb_St) : Option (Int32 × rb_St) := rb_b2 (g.2.2.2.1 p0 σ) fun r3 s1 => if r3 = 0 then some (0, s1) else rb_b2 (g.2.1 p0 s1) fun r7 s5 => if r7 = 0 then some (0, s5) else some (1, s5)
set_option maxHeartbeats 4000000 in
set_option maxRecDepth 100000 in
theorem xk_LR_readCondition {z : rb_Z} {w : rb_Wd} {h0 : Nat} (hb : 4 ≤ h0) {g : xg_LR} (hg : xg_LR_ok g h0) (hC : rb_Cx z rb_vX w RX6 cX6_readCondition 2 (some .boolean) (h0 + 1)) (p0 : Int32) (σ : rb_St) (r : Int32) (σ9 : rb_St) (h : xb_LR_readCondition g p0 σ = some (r, σ9)) : rb_At z rb_vX w 2 (rb_Q z rb_vX w (some (.int r)) σ9) 0 [(0, .ref (rb_ad w 7)), (1, .int p0)] [] σ := by
  unfold xb_LR_readCondition at h
  refine rb_aload_n hC 0 dX6_readCondition_0 rfl ?_
  refine rb_iload_n hC 1 dX6_readCondition_1 rfl ?_
  obtain ⟨r3, s1, q2, h⟩ := rb_b2s h
  refine rb_callVi hC rb_VokX mv_X6_61 (hg.2.2.2.1 p0 σ _ _ q2) rb_obX7 rfl [.int p0] rfl rfl rfl ⟨by omega, Nat.le_of_ble_eq_true rfl⟩ (Nat.le_of_ble_eq_true rfl) dX6_readCondition_2 ?_
  refine rb_if_eq hC 20 dX6_readCondition_5 (by decide) (fun c4 => ?_) (fun c4 => ?_)
  · replace h := rb_ifp c4 h
    refine rb_iconst (x := 0) hC dX6_readCondition_20 (by decide) ?_
    cases h
    exact rb_zret hC rfl dX6_readCondition_21
  · replace h := rb_ifn c4 h
    refine rb_aload_n hC 0 dX6_readCondition_8 rfl ?_
    refine rb_iload_n hC 1 dX6_readCondition_9 rfl ?_
    obtain ⟨r7, s5, q6, h⟩ := rb_b2s h
    refine rb_callVi hC rb_VokX mv_X6_58 (hg.2.1 p0 s1 _ _ q6) rb_obX7 rfl [.int p0] rfl rfl rfl ⟨by omega, Nat.le_of_ble_eq_true rfl⟩ (Nat.le_of_ble_eq_true rfl) dX6_readCondition_10 ?_
    refine rb_if_eq hC 20 dX6_readCondition_13 (by decide) (fun c8 => ?_) (fun c8 => ?_)
    · replace h := rb_ifp c8 h
      refine rb_iconst (x := 0) hC dX6_readCondition_20 (by decide) ?_
      cases h
      exact rb_zret hC rfl dX6_readCondition_21
    · replace h := rb_ifn c8 h
      refine rb_iconst (x := 1) hC dX6_readCondition_16 (by decide) ?_
      refine rb_goto hC 21 dX6_readCondition_17 (by decide) ?_
      cases h
      exact rb_zret hC rfl dX6_readCondition_21
def xl_LR_readMoreUnits_12 (g : xg_LR) (x1 : Int32) : Nat → Int32 → rb_St → Option (Nat × rb_St)
  | 0, _, _ => none
  | n + 1, x2, σ => if 240 ≤ x2 then some (1, σ) else rb_b2 (xf_Rd_passesL 124 σ) fun r8 s6 => if r8 = 0 then some (1, s6) else rb_b2 (g.2.2.2.1 x1 s6) fun r12 s10 => if r12 = 0 then some (0, s10) else rb_b2 (g.2.2.1 x1 s10) fun r16 s14 => if r16 = 0 then some (0, s14) else rb_b1 (xf_Law_add (-19) s14) fun s18 => xl_LR_readMoreUnits_12 g x1 n (x2 + 1) s18
set_option maxHeartbeats 4000000 in
set_option maxRecDepth 100000 in
theorem xt_LR_readMoreUnits_12 {z : rb_Z} {w : rb_Wd} {Q : State → Prop} {h0 : Nat} (hb : 4 ≤ h0) {g : xg_LR} (hg : xg_LR_ok g h0) (hC : rb_Cx z rb_vX w RX6 cX6_readMoreUnits 3 (some .boolean) (h0 + 1)) (x1 : Int32) : ∀ (n : Nat) (x2 : Int32) (σ : rb_St) (t : Nat) (σ9 : rb_St), xl_LR_readMoreUnits_12 g x1 n x2 σ = some (t, σ9) → (t = 0 → rb_At z rb_vX w 3 Q 44 [] [] σ9) → (t = 1 → rb_At z rb_vX w 3 Q 61 [] [] σ9) → rb_At z rb_vX w 3 Q 12 [(0, .ref (rb_ad w 7)), (1, .int x1), (2, .int x2)] [] σ := by
  intro n
  induction n with
  | zero =>
    intro x2 σ t σ9 h hE0 hE1
    cases h
  | succ n ih =>
    intro x2 σ t σ9 h hE0 hE1
    rw [xl_LR_readMoreUnits_12] at h
    refine rb_iload_n hC 2 dX6_readMoreUnits_12 rfl ?_
    refine rb_sipush (x := 240) hC dX6_readMoreUnits_13 (by decide) ?_
    refine rb_icmp_ge hC 61 dX6_readMoreUnits_16 (by decide) (fun c5 => ?_) (fun c5 => ?_)
    · replace h := rb_ifp c5 h
      cases h
      exact rb_sub [] rfl (hE1 rfl)
    · replace h := rb_ifn c5 h
      refine rb_aload_n hC 0 dX6_readMoreUnits_19 rfl ?_
      refine rb_bipush (x := 124) hC dX6_readMoreUnits_20 (by decide) ?_
      obtain ⟨r8, s6, q7, h⟩ := rb_b2s h
      refine rb_callUi hC rb_VokX mv_X6_27_6 (xc_Rd_passesL 124 σ _ _ q7) rb_obX7 rfl [.int 124] rfl rfl rfl ⟨by omega, Nat.le_of_ble_eq_true rfl⟩ (Nat.le_of_ble_eq_true rfl) dX6_readMoreUnits_22 ?_
      refine rb_if_eq hC 61 dX6_readMoreUnits_25 (by decide) (fun c9 => ?_) (fun c9 => ?_)
      · replace h := rb_ifp c9 h
        cases h
        exact rb_sub [] rfl (hE1 rfl)
      · replace h := rb_ifn c9 h
        refine rb_aload_n hC 0 dX6_readMoreUnits_28 rfl ?_
        refine rb_iload_n hC 1 dX6_readMoreUnits_29 rfl ?_
        obtain ⟨r12, s10, q11, h⟩ := rb_b2s h
        refine rb_callVi hC rb_VokX mv_X6_61 (hg.2.2.2.1 x1 s6 _ _ q11) rb_obX7 rfl [.int x1] rfl rfl rfl ⟨by omega, Nat.le_of_ble_eq_true rfl⟩ (Nat.le_of_ble_eq_true rfl) dX6_readMoreUnits_30 ?_
        refine rb_if_eq hC 44 dX6_readMoreUnits_33 (by decide) (fun c13 => ?_) (fun c13 => ?_)
        · replace h := rb_ifp c13 h
          cases h
          exact rb_sub [] rfl (hE0 rfl)
        · replace h := rb_ifn c13 h
          refine rb_aload_n hC 0 dX6_readMoreUnits_36 rfl ?_
          refine rb_iload_n hC 1 dX6_readMoreUnits_37 rfl ?_
          obtain ⟨r16, s14, q15, h⟩ := rb_b2s h
          refine rb_callVi hC rb_VokX mv_X6_64 (hg.2.2.1 x1 s10 _ _ q15) rb_obX7 rfl [.int x1] rfl rfl rfl ⟨by omega, Nat.le_of_ble_eq_true rfl⟩ (Nat.le_of_ble_eq_true rfl) dX6_readMoreUnits_38 ?_
          refine rb_if_ne hC 46 dX6_readMoreUnits_41 (by decide) (fun c17 => ?_) (fun c17 => ?_)
          · replace h := rb_ifn c17 h
            refine rb_aload_n hC 0 dX6_readMoreUnits_46 rfl ?_
            refine rb_getR hC fr_X6_14_6 rb_obX7 rfl dX6_readMoreUnits_47 ?_
            refine rb_bipush (x := (-19)) hC dX6_readMoreUnits_50 (by decide) ?_
            obtain ⟨s18, q19, h⟩ := rb_b1s h
            refine rb_callVv hC rb_VokX mv_X6_35 (xc_Law_add (-19) s14 _ q19) rb_obX8 rfl [.int (-19)] rfl rfl rfl ⟨by omega, Nat.le_of_ble_eq_true rfl⟩ (Nat.le_of_ble_eq_true rfl) dX6_readMoreUnits_52 ?_
            refine rb_iinc hC 2 [(2, .int (x2 + 1)), (0, .ref (rb_ad w 7)), (1, .int x1)] dX6_readMoreUnits_55 rfl rfl (by decide) rfl ?_
            refine rb_goto hC 12 dX6_readMoreUnits_58 (by decide) ?_
            exact rb_sub [1, 2, 0] rfl (ih (x2 + 1) s18 _ _ h hE0 hE1)
          · replace h := rb_ifp c17 h
            cases h
            exact rb_sub [] rfl (hE0 rfl)
def xb_LR_readMoreUnits (g : xg_LR) (p0 : Int32) (σ : rb_St) : Option (Int32 × rb_St) := rb_b2 (g.2.2.1 p0 σ) fun r3 s1 => if r3 = 0 then some (0, s1) else rb_b2 (xl_LR_readMoreUnits_12 g p0 rb_FU 0 s1) fun t20 s21 => if t20 = 0 then some (0, s21) else some (1, s21)
set_option maxHeartbeats 4000000 in
set_option maxRecDepth 100000 in
theorem xk_LR_readMoreUnits {z : rb_Z} {w : rb_Wd} {h0 : Nat} (hb : 4 ≤ h0) {g : xg_LR} (hg : xg_LR_ok g h0) (hC : rb_Cx z rb_vX w RX6 cX6_readMoreUnits 3 (some .boolean) (h0 + 1)) (p0 : Int32) (σ : rb_St) (r : Int32) (σ9 : rb_St) (h : xb_LR_readMoreUnits g p0 σ = some (r, σ9)) : rb_At z rb_vX w 3 (rb_Q z rb_vX w (some (.int r)) σ9) 0 [(0, .ref (rb_ad w 7)), (1, .int p0)] [] σ := by
  unfold xb_LR_readMoreUnits at h
  refine rb_aload_n hC 0 dX6_readMoreUnits_0 rfl ?_
  refine rb_iload_n hC 1 dX6_readMoreUnits_1 rfl ?_
  obtain ⟨r3, s1, q2, h⟩ := rb_b2s h
  refine rb_callVi hC rb_VokX mv_X6_64 (hg.2.2.1 p0 σ _ _ q2) rb_obX7 rfl [.int p0] rfl rfl rfl ⟨by omega, Nat.le_of_ble_eq_true rfl⟩ (Nat.le_of_ble_eq_true rfl) dX6_readMoreUnits_2 ?_
  refine rb_if_ne hC 10 dX6_readMoreUnits_5 (by decide) (fun c4 => ?_) (fun c4 => ?_)
  · replace h := rb_ifn c4 h
    refine rb_iconst (x := 0) hC dX6_readMoreUnits_10 (by decide) ?_
    refine rb_istore_n hC [(2, .int 0), (0, .ref (rb_ad w 7)), (1, .int p0)] dX6_readMoreUnits_11 (by decide) rfl ?_
    obtain ⟨t20, s21, q22, h⟩ := rb_b2s h
    refine rb_sub (lv2 := [(0, .ref (rb_ad w 7)), (1, .int p0), (2, .int 0)]) [1, 2, 0] rfl ?_
    refine xt_LR_readMoreUnits_12 hb hg hC p0 rb_FU 0 s1 _ _ q22 (fun ht => ?_) (fun ht => ?_)
    · subst ht
      replace h := rb_ifp rfl h
      refine rb_iconst (x := 0) hC dX6_readMoreUnits_44 (by decide) ?_
      cases h
      exact rb_zret hC rfl dX6_readMoreUnits_45
    · subst ht
      replace h := rb_ifn (by decide) h
      refine rb_iconst (x := 1) hC dX6_readMoreUnits_61 (by decide) ?_
      cases h
      exact rb_zret hC rfl dX6_readMoreUnits_62
  · replace h := rb_ifp c4 h
    refine rb_iconst (x := 0) hC dX6_readMoreUnits_8 (by decide) ?_
    cases h
    exact rb_zret hC rfl dX6_readMoreUnits_9
def xl_LR_readMoreOfTruth_2 (g : xg_LR) (x1 : Int32) : Nat → Int32 → rb_St → Option (Nat × rb_St)
  | 0, _, _ => none
  | n + 1, x2, σ => if 240 ≤ x2 then some (1, σ) else rb_b2 (xf_Rd_passesL 38 σ) fun r4 s2 => if r4 = 0 then some (1, s2) else rb_b2 (g.2.2.2.1 x1 s2) fun r8 s6 => if r8 = 0 then some (0, s6) else rb_b1 (xf_Law_add (-18) s6) fun s10 => xl_LR_readMoreOfTruth_2 g x1 n (x2 + 1) s10
set_option maxHeartbeats 4000000 in
set_option maxRecDepth 100000 in
theorem xt_LR_readMoreOfTruth_2 {z : rb_Z} {w : rb_Wd} {Q : State → Prop} {h0 : Nat} (hb : 4 ≤ h0) {g : xg_LR} (hg : xg_LR_ok g h0) (hC : rb_Cx z rb_vX w RX6 cX6_readMoreOfTruth 3 (some .boolean) (h0 + 1)) (x1 : Int32) : ∀ (n : Nat) (x2 : Int32) (σ : rb_St) (t : Nat) (σ9 : rb_St), xl_LR_readMoreOfTruth_2 g x1 n x2 σ = some (t, σ9) → (t = 0 → rb_At z rb_vX w 3 Q 26 [] [] σ9) → (t = 1 → rb_At z rb_vX w 3 Q 43 [] [] σ9) → rb_At z rb_vX w 3 Q 2 [(0, .ref (rb_ad w 7)), (1, .int x1), (2, .int x2)] [] σ := by
  intro n
  induction n with
  | zero =>
    intro x2 σ t σ9 h hE0 hE1
    cases h
  | succ n ih =>
    intro x2 σ t σ9 h hE0 hE1
    rw [xl_LR_readMoreOfTruth_2] at h
    refine rb_iload_n hC 2 dX6_readMoreOfTruth_2 rfl ?_
    refine rb_sipush (x := 240) hC dX6_readMoreOfTruth_3 (by decide) ?_
    refine rb_icmp_ge hC 43 dX6_readMoreOfTruth_6 (by decide) (fun c1 => ?_) (fun c1 => ?_)
    · replace h := rb_ifp c1 h
      cases h
      exact rb_sub [] rfl (hE1 rfl)
    · replace h := rb_ifn c1 h
      refine rb_aload_n hC 0 dX6_readMoreOfTruth_9 rfl ?_
      refine rb_bipush (x := 38) hC dX6_readMoreOfTruth_10 (by decide) ?_
      obtain ⟨r4, s2, q3, h⟩ := rb_b2s h
      refine rb_callUi hC rb_VokX mv_X6_27_6 (xc_Rd_passesL 38 σ _ _ q3) rb_obX7 rfl [.int 38] rfl rfl rfl ⟨by omega, Nat.le_of_ble_eq_true rfl⟩ (Nat.le_of_ble_eq_true rfl) dX6_readMoreOfTruth_12 ?_
      refine rb_if_eq hC 43 dX6_readMoreOfTruth_15 (by decide) (fun c5 => ?_) (fun c5 => ?_)
      · replace h := rb_ifp c5 h
        cases h
        exact rb_sub [] rfl (hE1 rfl)
      · replace h := rb_ifn c5 h
        refine rb_aload_n hC 0 dX6_readMoreOfTruth_18 rfl ?_
        refine rb_iload_n hC 1 dX6_readMoreOfTruth_19 rfl ?_
        obtain ⟨r8, s6, q7, h⟩ := rb_b2s h
        refine rb_callVi hC rb_VokX mv_X6_61 (hg.2.2.2.1 x1 s2 _ _ q7) rb_obX7 rfl [.int x1] rfl rfl rfl ⟨by omega, Nat.le_of_ble_eq_true rfl⟩ (Nat.le_of_ble_eq_true rfl) dX6_readMoreOfTruth_20 ?_
        refine rb_if_ne hC 28 dX6_readMoreOfTruth_23 (by decide) (fun c9 => ?_) (fun c9 => ?_)
        · replace h := rb_ifn c9 h
          refine rb_aload_n hC 0 dX6_readMoreOfTruth_28 rfl ?_
          refine rb_getR hC fr_X6_14_6 rb_obX7 rfl dX6_readMoreOfTruth_29 ?_
          refine rb_bipush (x := (-18)) hC dX6_readMoreOfTruth_32 (by decide) ?_
          obtain ⟨s10, q11, h⟩ := rb_b1s h
          refine rb_callVv hC rb_VokX mv_X6_35 (xc_Law_add (-18) s6 _ q11) rb_obX8 rfl [.int (-18)] rfl rfl rfl ⟨by omega, Nat.le_of_ble_eq_true rfl⟩ (Nat.le_of_ble_eq_true rfl) dX6_readMoreOfTruth_34 ?_
          refine rb_iinc hC 2 [(2, .int (x2 + 1)), (0, .ref (rb_ad w 7)), (1, .int x1)] dX6_readMoreOfTruth_37 rfl rfl (by decide) rfl ?_
          refine rb_goto hC 2 dX6_readMoreOfTruth_40 (by decide) ?_
          exact rb_sub [1, 2, 0] rfl (ih (x2 + 1) s10 _ _ h hE0 hE1)
        · replace h := rb_ifp c9 h
          cases h
          exact rb_sub [] rfl (hE0 rfl)
def xb_LR_readMoreOfTruth (g : xg_LR) (p0 : Int32) (σ : rb_St) : Option (Int32 × rb_St) := rb_b2 (xl_LR_readMoreOfTruth_2 g p0 rb_FU 0 σ) fun t12 s13 => if t12 = 0 then some (0, s13) else some (1, s13)
set_option maxHeartbeats 4000000 in
set_option maxRecDepth 100000 in
theorem xk_LR_readMoreOfTruth {z : rb_Z} {w : rb_Wd} {h0 : Nat} (hb : 4 ≤ h0) {g : xg_LR} (hg : xg_LR_ok g h0) (hC : rb_Cx z rb_vX w RX6 cX6_readMoreOfTruth 3 (some .boolean) (h0 + 1)) (p0 : Int32) (σ : rb_St) (r : Int32) (σ9 : rb_St) (h : xb_LR_readMoreOfTruth g p0 σ = some (r, σ9)) : rb_At z rb_vX w 3 (rb_Q z rb_vX w (some (.int r)) σ9) 0 [(0, .ref (rb_ad w 7)), (1, .int p0)] [] σ := by
  unfold xb_LR_readMoreOfTruth at h
  refine rb_iconst (x := 0) hC dX6_readMoreOfTruth_0 (by decide) ?_
  refine rb_istore_n hC [(2, .int 0), (0, .ref (rb_ad w 7)), (1, .int p0)] dX6_readMoreOfTruth_1 (by decide) rfl ?_
  obtain ⟨t12, s13, q14, h⟩ := rb_b2s h
  refine rb_sub (lv2 := [(0, .ref (rb_ad w 7)), (1, .int p0), (2, .int 0)]) [1, 2, 0] rfl ?_
  refine xt_LR_readMoreOfTruth_2 hb hg hC p0 rb_FU 0 σ _ _ q14 (fun ht => ?_) (fun ht => ?_)
  · subst ht
    replace h := rb_ifp rfl h
    refine rb_iconst (x := 0) hC dX6_readMoreOfTruth_26 (by decide) ?_
    cases h
    exact rb_zret hC rfl dX6_readMoreOfTruth_27
  · subst ht
    replace h := rb_ifn (by decide) h
    refine rb_iconst (x := 1) hC dX6_readMoreOfTruth_43 (by decide) ?_
    cases h
    exact rb_zret hC rfl dX6_readMoreOfTruth_44
def xb_LR_readUnit (g : xg_LR) (p0 : Int32) (σ : rb_St) : Option (Int32 × rb_St) := rb_b2 (xf_Rd_nextSignL σ) fun r3 s1 => if r3 = 33 then rb_b2 (xf_LR_opens p0 s1) fun r28 s26 => if r28 = 0 then some (0, s26) else rb_b2 (g.2.2.2.1 (p0 + 1) s26) fun r32 s30 => if r32 = 0 then some (0, s30) else rb_b1 (xf_Law_add (-20) s30) fun s34 => some (1, s34) else if r3 = 40 then rb_b2 (xf_LR_opens p0 s1) fun r16 s14 => if r16 = 0 then some (0, s14) else rb_b2 (g.1 (p0 + 1) s14) fun r20 s18 => if r20 = 0 then some (0, s18) else rb_b2 (xf_Rd_passesL 41 s18) fun r24 s22 => if r24 = 0 then some (0, s22) else some (1, s22) else rb_b2 (g.2.2.2.2.2.1 p0 s1) fun r8 s6 => if r8 = 0 then some (0, s6) else rb_b2 (g.2.2.2.2.1 p0 s6) fun r12 s10 => if r12 = 0 then some (0, s10) else some (1, s10)
set_option maxHeartbeats 4000000 in
set_option maxRecDepth 100000 in
theorem xk_LR_readUnit {z : rb_Z} {w : rb_Wd} {h0 : Nat} (hb : 4 ≤ h0) {g : xg_LR} (hg : xg_LR_ok g h0) (hC : rb_Cx z rb_vX w RX6 cX6_readUnit 3 (some .boolean) (h0 + 1)) (p0 : Int32) (σ : rb_St) (r : Int32) (σ9 : rb_St) (h : xb_LR_readUnit g p0 σ = some (r, σ9)) : rb_At z rb_vX w 3 (rb_Q z rb_vX w (some (.int r)) σ9) 0 [(0, .ref (rb_ad w 7)), (1, .int p0)] [] σ := by
  unfold xb_LR_readUnit at h
  refine rb_aload_n hC 0 dX6_readUnit_0 rfl ?_
  obtain ⟨r3, s1, q2, h⟩ := rb_b2s h
  refine rb_callUi hC rb_VokX mv_X6_39_6 (xc_Rd_nextSignL  σ _ _ q2) rb_obX7 rfl [] rfl rfl rfl ⟨by omega, Nat.le_of_ble_eq_true rfl⟩ (Nat.le_of_ble_eq_true rfl) dX6_readUnit_1 ?_
  refine rb_istore_n hC [(2, .int r3), (0, .ref (rb_ad w 7)), (1, .int p0)] dX6_readUnit_4 (by decide) rfl ?_
  refine rb_iload_n hC 0 dX6_readUnit_5 rfl ?_
  refine rb_bipush (x := 33) hC dX6_readUnit_6 (by decide) ?_
  refine rb_icmp_ne hC 42 dX6_readUnit_8 (by decide) (fun c4 => ?_) (fun c4 => ?_)
  · replace h := rb_ifn c4 h
    refine rb_iload_n hC 0 dX6_readUnit_42 rfl ?_
    refine rb_bipush (x := 40) hC dX6_readUnit_43 (by decide) ?_
    refine rb_icmp_ne hC 81 dX6_readUnit_45 (by decide) (fun c5 => ?_) (fun c5 => ?_)
    · replace h := rb_ifn c5 h
      refine rb_aload_n hC 1 dX6_readUnit_81 rfl ?_
      refine rb_iload_n hC 2 dX6_readUnit_82 rfl ?_
      obtain ⟨r8, s6, q7, h⟩ := rb_b2s h
      refine rb_callVi hC rb_VokX mv_X6_49 (hg.2.2.2.2.2.1 p0 s1 _ _ q7) rb_obX7 rfl [.int p0] rfl rfl rfl ⟨by omega, Nat.le_of_ble_eq_true rfl⟩ (Nat.le_of_ble_eq_true rfl) dX6_readUnit_83 ?_
      refine rb_if_eq hC 101 dX6_readUnit_86 (by decide) (fun c9 => ?_) (fun c9 => ?_)
      · replace h := rb_ifp c9 h
        refine rb_iconst (x := 0) hC dX6_readUnit_101 (by decide) ?_
        cases h
        exact rb_zret hC rfl dX6_readUnit_102
      · replace h := rb_ifn c9 h
        refine rb_aload_n hC 1 dX6_readUnit_89 rfl ?_
        refine rb_iload_n hC 2 dX6_readUnit_90 rfl ?_
        obtain ⟨r12, s10, q11, h⟩ := rb_b2s h
        refine rb_callVi hC rb_VokX mv_X6_55 (hg.2.2.2.2.1 p0 s6 _ _ q11) rb_obX7 rfl [.int p0] rfl rfl rfl ⟨by omega, Nat.le_of_ble_eq_true rfl⟩ (Nat.le_of_ble_eq_true rfl) dX6_readUnit_91 ?_
        refine rb_if_eq hC 101 dX6_readUnit_94 (by decide) (fun c13 => ?_) (fun c13 => ?_)
        · replace h := rb_ifp c13 h
          refine rb_iconst (x := 0) hC dX6_readUnit_101 (by decide) ?_
          cases h
          exact rb_zret hC rfl dX6_readUnit_102
        · replace h := rb_ifn c13 h
          refine rb_iconst (x := 1) hC dX6_readUnit_97 (by decide) ?_
          refine rb_goto hC 102 dX6_readUnit_98 (by decide) ?_
          cases h
          exact rb_zret hC rfl dX6_readUnit_102
    · replace h := rb_ifp c5 h
      refine rb_aload_n hC 1 dX6_readUnit_48 rfl ?_
      refine rb_iload_n hC 2 dX6_readUnit_49 rfl ?_
      obtain ⟨r16, s14, q15, h⟩ := rb_b2s h
      refine rb_callVi hC rb_VokX mv_X6_67 (xc_LR_opens p0 s1 _ _ q15) rb_obX7 rfl [.int p0] rfl rfl rfl ⟨by omega, Nat.le_of_ble_eq_true rfl⟩ (Nat.le_of_ble_eq_true rfl) dX6_readUnit_50 ?_
      refine rb_if_eq hC 79 dX6_readUnit_53 (by decide) (fun c17 => ?_) (fun c17 => ?_)
      · replace h := rb_ifp c17 h
        refine rb_iconst (x := 0) hC dX6_readUnit_79 (by decide) ?_
        cases h
        exact rb_zret hC rfl dX6_readUnit_80
      · replace h := rb_ifn c17 h
        refine rb_aload_n hC 1 dX6_readUnit_56 rfl ?_
        refine rb_iload_n hC 2 dX6_readUnit_57 rfl ?_
        refine rb_iconst (x := 1) hC dX6_readUnit_58 (by decide) ?_
        refine rb_iadd hC dX6_readUnit_59 ?_
        obtain ⟨r20, s18, q19, h⟩ := rb_b2s h
        refine rb_callVi hC rb_VokX mv_X6_43 (hg.1 (p0 + 1) s14 _ _ q19) rb_obX7 rfl [.int (p0 + 1)] rfl rfl rfl ⟨by omega, Nat.le_of_ble_eq_true rfl⟩ (Nat.le_of_ble_eq_true rfl) dX6_readUnit_60 ?_
        refine rb_if_eq hC 79 dX6_readUnit_63 (by decide) (fun c21 => ?_) (fun c21 => ?_)
        · replace h := rb_ifp c21 h
          refine rb_iconst (x := 0) hC dX6_readUnit_79 (by decide) ?_
          cases h
          exact rb_zret hC rfl dX6_readUnit_80
        · replace h := rb_ifn c21 h
          refine rb_aload_n hC 1 dX6_readUnit_66 rfl ?_
          refine rb_bipush (x := 41) hC dX6_readUnit_67 (by decide) ?_
          obtain ⟨r24, s22, q23, h⟩ := rb_b2s h
          refine rb_callUi hC rb_VokX mv_X6_27_6 (xc_Rd_passesL 41 s18 _ _ q23) rb_obX7 rfl [.int 41] rfl rfl rfl ⟨by omega, Nat.le_of_ble_eq_true rfl⟩ (Nat.le_of_ble_eq_true rfl) dX6_readUnit_69 ?_
          refine rb_if_eq hC 79 dX6_readUnit_72 (by decide) (fun c25 => ?_) (fun c25 => ?_)
          · replace h := rb_ifp c25 h
            refine rb_iconst (x := 0) hC dX6_readUnit_79 (by decide) ?_
            cases h
            exact rb_zret hC rfl dX6_readUnit_80
          · replace h := rb_ifn c25 h
            refine rb_iconst (x := 1) hC dX6_readUnit_75 (by decide) ?_
            refine rb_goto hC 80 dX6_readUnit_76 (by decide) ?_
            cases h
            exact rb_zret hC rfl dX6_readUnit_80
  · replace h := rb_ifp c4 h
    refine rb_aload_n hC 1 dX6_readUnit_11 rfl ?_
    refine rb_iload_n hC 2 dX6_readUnit_12 rfl ?_
    obtain ⟨r28, s26, q27, h⟩ := rb_b2s h
    refine rb_callVi hC rb_VokX mv_X6_67 (xc_LR_opens p0 s1 _ _ q27) rb_obX7 rfl [.int p0] rfl rfl rfl ⟨by omega, Nat.le_of_ble_eq_true rfl⟩ (Nat.le_of_ble_eq_true rfl) dX6_readUnit_13 ?_
    refine rb_if_eq hC 29 dX6_readUnit_16 (by decide) (fun c29 => ?_) (fun c29 => ?_)
    · replace h := rb_ifp c29 h
      refine rb_iconst (x := 0) hC dX6_readUnit_29 (by decide) ?_
      cases h
      exact rb_zret hC rfl dX6_readUnit_30
    · replace h := rb_ifn c29 h
      refine rb_aload_n hC 1 dX6_readUnit_19 rfl ?_
      refine rb_iload_n hC 2 dX6_readUnit_20 rfl ?_
      refine rb_iconst (x := 1) hC dX6_readUnit_21 (by decide) ?_
      refine rb_iadd hC dX6_readUnit_22 ?_
      obtain ⟨r32, s30, q31, h⟩ := rb_b2s h
      refine rb_callVi hC rb_VokX mv_X6_61 (hg.2.2.2.1 (p0 + 1) s26 _ _ q31) rb_obX7 rfl [.int (p0 + 1)] rfl rfl rfl ⟨by omega, Nat.le_of_ble_eq_true rfl⟩ (Nat.le_of_ble_eq_true rfl) dX6_readUnit_23 ?_
      refine rb_if_ne hC 31 dX6_readUnit_26 (by decide) (fun c33 => ?_) (fun c33 => ?_)
      · replace h := rb_ifn c33 h
        refine rb_aload_n hC 1 dX6_readUnit_31 rfl ?_
        refine rb_getR hC fr_X6_14_6 rb_obX7 rfl dX6_readUnit_32 ?_
        refine rb_bipush (x := (-20)) hC dX6_readUnit_35 (by decide) ?_
        obtain ⟨s34, q35, h⟩ := rb_b1s h
        refine rb_callVv hC rb_VokX mv_X6_35 (xc_Law_add (-20) s30 _ q35) rb_obX8 rfl [.int (-20)] rfl rfl rfl ⟨by omega, Nat.le_of_ble_eq_true rfl⟩ (Nat.le_of_ble_eq_true rfl) dX6_readUnit_37 ?_
        refine rb_iconst (x := 1) hC dX6_readUnit_40 (by decide) ?_
        cases h
        exact rb_zret hC rfl dX6_readUnit_41
      · replace h := rb_ifp c33 h
        refine rb_iconst (x := 0) hC dX6_readUnit_29 (by decide) ?_
        cases h
        exact rb_zret hC rfl dX6_readUnit_30
def xb_LR_readComparison (g : xg_LR) (p0 : Int32) (σ : rb_St) : Option (Int32 × rb_St) := rb_b2 (xf_Rd_nextSignL σ) fun r3 s1 => if (xf_LR_isComparison r3 s1) = 0 then some (0, s1) else rb_lt (rb_sI s1 7 1 ((s1.1 7 1) + 1)) (fun s5 => rb_b2 (g.2.2.2.2.2.1 p0 s5) fun r9 s7 => if r9 = 0 then some (0, s7) else if r3 = 61 then rb_b1 (xf_Law_add (-15) s7) fun s17 => some (1, s17) else if r3 = 60 then rb_b1 (xf_Law_add (-16) s7) fun s15 => some (1, s15) else rb_b1 (xf_Law_add (-17) s7) fun s13 => some (1, s13))
set_option maxHeartbeats 4000000 in
set_option maxRecDepth 100000 in
theorem xk_LR_readComparison {z : rb_Z} {w : rb_Wd} {h0 : Nat} (hb : 4 ≤ h0) {g : xg_LR} (hg : xg_LR_ok g h0) (hC : rb_Cx z rb_vX w RX6 cX6_readComparison 3 (some .boolean) (h0 + 1)) (p0 : Int32) (σ : rb_St) (r : Int32) (σ9 : rb_St) (h : xb_LR_readComparison g p0 σ = some (r, σ9)) : rb_At z rb_vX w 3 (rb_Q z rb_vX w (some (.int r)) σ9) 0 [(0, .ref (rb_ad w 7)), (1, .int p0)] [] σ := by
  unfold xb_LR_readComparison at h
  refine rb_aload_n hC 0 dX6_readComparison_0 rfl ?_
  obtain ⟨r3, s1, q2, h⟩ := rb_b2s h
  refine rb_callUi hC rb_VokX mv_X6_39_6 (xc_Rd_nextSignL  σ _ _ q2) rb_obX7 rfl [] rfl rfl rfl ⟨by omega, Nat.le_of_ble_eq_true rfl⟩ (Nat.le_of_ble_eq_true rfl) dX6_readComparison_1 ?_
  refine rb_istore_n hC [(2, .int r3), (0, .ref (rb_ad w 7)), (1, .int p0)] dX6_readComparison_4 (by decide) rfl ?_
  refine rb_iload_n hC 0 dX6_readComparison_5 rfl ?_
  refine rb_callSi hC rb_VokX mv_X6_52 (xc_LR_isComparison r3 s1 _ rfl) [.int r3] rfl rfl rfl ⟨by omega, Nat.le_of_ble_eq_true rfl⟩ (Nat.le_of_ble_eq_true rfl) dX6_readComparison_6 ?_
  refine rb_if_ne hC 14 dX6_readComparison_9 (by decide) (fun c4 => ?_) (fun c4 => ?_)
  · replace h := rb_ifn c4 h
    refine rb_aload_n hC 1 dX6_readComparison_14 rfl ?_
    refine rb_dup hC dX6_readComparison_15 rfl ?_
    refine rb_getI hC fr_X6_20_6 rb_obX7 rfl dX6_readComparison_16 ?_
    refine rb_iconst (x := 1) hC dX6_readComparison_19 (by decide) ?_
    refine rb_iadd hC dX6_readComparison_20 ?_
    refine rb_putI hC fr_X6_20_6 ft_6_1 rb_obX7 rfl rfl rfl dX6_readComparison_21 ?_
    obtain ⟨s5, e6, h⟩ := rb_ltE h
    refine rb_nmS e6 ?_
    refine rb_aload_n hC 1 dX6_readComparison_24 rfl ?_
    refine rb_iload_n hC 2 dX6_readComparison_25 rfl ?_
    obtain ⟨r9, s7, q8, h⟩ := rb_b2s h
    refine rb_callVi hC rb_VokX mv_X6_49 (hg.2.2.2.2.2.1 p0 s5 _ _ q8) rb_obX7 rfl [.int p0] rfl rfl rfl ⟨by omega, Nat.le_of_ble_eq_true rfl⟩ (Nat.le_of_ble_eq_true rfl) dX6_readComparison_26 ?_
    refine rb_if_ne hC 34 dX6_readComparison_29 (by decide) (fun c10 => ?_) (fun c10 => ?_)
    · replace h := rb_ifn c10 h
      refine rb_aload_n hC 1 dX6_readComparison_34 rfl ?_
      refine rb_getR hC fr_X6_14_6 rb_obX7 rfl dX6_readComparison_35 ?_
      refine rb_iload_n hC 0 dX6_readComparison_38 rfl ?_
      refine rb_bipush (x := 61) hC dX6_readComparison_39 (by decide) ?_
      refine rb_icmp_ne hC 49 dX6_readComparison_41 (by decide) (fun c11 => ?_) (fun c11 => ?_)
      · replace h := rb_ifn c11 h
        refine rb_iload_n hC 0 dX6_readComparison_49 rfl ?_
        refine rb_bipush (x := 60) hC dX6_readComparison_50 (by decide) ?_
        refine rb_icmp_ne hC 60 dX6_readComparison_52 (by decide) (fun c12 => ?_) (fun c12 => ?_)
        · replace h := rb_ifn c12 h
          refine rb_bipush (x := (-17)) hC dX6_readComparison_60 (by decide) ?_
          obtain ⟨s13, q14, h⟩ := rb_b1s h
          refine rb_callVv hC rb_VokX mv_X6_35 (xc_Law_add (-17) s7 _ q14) rb_obX8 rfl [.int (-17)] rfl rfl rfl ⟨by omega, Nat.le_of_ble_eq_true rfl⟩ (Nat.le_of_ble_eq_true rfl) dX6_readComparison_62 ?_
          refine rb_iconst (x := 1) hC dX6_readComparison_65 (by decide) ?_
          cases h
          exact rb_zret hC rfl dX6_readComparison_66
        · replace h := rb_ifp c12 h
          refine rb_bipush (x := (-16)) hC dX6_readComparison_55 (by decide) ?_
          refine rb_goto hC 62 dX6_readComparison_57 (by decide) ?_
          obtain ⟨s15, q16, h⟩ := rb_b1s h
          refine rb_callVv hC rb_VokX mv_X6_35 (xc_Law_add (-16) s7 _ q16) rb_obX8 rfl [.int (-16)] rfl rfl rfl ⟨by omega, Nat.le_of_ble_eq_true rfl⟩ (Nat.le_of_ble_eq_true rfl) dX6_readComparison_62 ?_
          refine rb_iconst (x := 1) hC dX6_readComparison_65 (by decide) ?_
          cases h
          exact rb_zret hC rfl dX6_readComparison_66
      · replace h := rb_ifp c11 h
        refine rb_bipush (x := (-15)) hC dX6_readComparison_44 (by decide) ?_
        refine rb_goto hC 62 dX6_readComparison_46 (by decide) ?_
        obtain ⟨s17, q18, h⟩ := rb_b1s h
        refine rb_callVv hC rb_VokX mv_X6_35 (xc_Law_add (-15) s7 _ q18) rb_obX8 rfl [.int (-15)] rfl rfl rfl ⟨by omega, Nat.le_of_ble_eq_true rfl⟩ (Nat.le_of_ble_eq_true rfl) dX6_readComparison_62 ?_
        refine rb_iconst (x := 1) hC dX6_readComparison_65 (by decide) ?_
        cases h
        exact rb_zret hC rfl dX6_readComparison_66
    · replace h := rb_ifp c10 h
      refine rb_iconst (x := 0) hC dX6_readComparison_32 (by decide) ?_
      cases h
      exact rb_zret hC rfl dX6_readComparison_33
  · replace h := rb_ifp c4 h
    refine rb_iconst (x := 0) hC dX6_readComparison_12 (by decide) ?_
    cases h
    exact rb_zret hC rfl dX6_readComparison_13
def xj_LR_readSum_38 (g : xg_LR) (rc : Int32 → rb_St → Option (Nat × rb_St)) (x1 : Int32) (x2 : Int32) (x3 : Int32) (σ : rb_St) : Option (Nat × rb_St) := rb_lt (rb_sI σ 7 1 ((σ.1 7 1) + 1)) (fun s10 => rb_b2 (g.2.2.2.2.2.2.1 x1 s10) fun r14 s12 => if r14 = 0 then some (1, s12) else if x3 = 43 then rb_b1 (xf_Law_add (-11) s12) fun s19 => rc (x2 + 1) s19 else rb_b1 (xf_Law_add (-12) s12) fun s17 => rc (x2 + 1) s17)
set_option maxHeartbeats 4000000 in
set_option maxRecDepth 100000 in
theorem xu_LR_readSum_38 {z : rb_Z} {w : rb_Wd} {Q : State → Prop} {h0 : Nat} (hb : 4 ≤ h0) {g : xg_LR} (hg : xg_LR_ok g h0) (hC : rb_Cx z rb_vX w RX6 cX6_readSum 4 (some .boolean) (h0 + 1))  (rc : Int32 → rb_St → Option (Nat × rb_St)) (x1 : Int32) (x2 : Int32) (x3 : Int32) (σ : rb_St) (t : Nat) (σ9 : rb_St) (h : xj_LR_readSum_38 g rc x1 x2 x3 σ = some (t, σ9)) (hrc : ∀ (b2 : Int32) (τ : rb_St), rc b2 τ = some (t, σ9) → rb_At z rb_vX w 4 Q 12 [(0, .ref (rb_ad w 7)), (1, .int x1), (2, .int b2)] [] τ) (hE0 : t = 0 → rb_At z rb_vX w 4 Q 36 [] [] σ9) (hE1 : t = 1 → rb_At z rb_vX w 4 Q 56 [] [] σ9) (hE2 : t = 2 → rb_At z rb_vX w 4 Q 84 [] [] σ9) : rb_At z rb_vX w 4 Q 38 [(0, .ref (rb_ad w 7)), (1, .int x1), (2, .int x2), (3, .int x3)] [] σ := by
  unfold xj_LR_readSum_38 at h
  refine rb_aload_n hC 0 dX6_readSum_38 rfl ?_
  refine rb_dup hC dX6_readSum_39 rfl ?_
  refine rb_getI hC fr_X6_20_6 rb_obX7 rfl dX6_readSum_40 ?_
  refine rb_iconst (x := 1) hC dX6_readSum_43 (by decide) ?_
  refine rb_iadd hC dX6_readSum_44 ?_
  refine rb_putI hC fr_X6_20_6 ft_6_1 rb_obX7 rfl rfl rfl dX6_readSum_45 ?_
  obtain ⟨s10, e11, h⟩ := rb_ltE h
  refine rb_nmS e11 ?_
  refine rb_aload_n hC 0 dX6_readSum_48 rfl ?_
  refine rb_iload_n hC 1 dX6_readSum_49 rfl ?_
  obtain ⟨r14, s12, q13, h⟩ := rb_b2s h
  refine rb_callVi hC rb_VokX mv_X6_70 (hg.2.2.2.2.2.2.1 x1 s10 _ _ q13) rb_obX7 rfl [.int x1] rfl rfl rfl ⟨by omega, Nat.le_of_ble_eq_true rfl⟩ (Nat.le_of_ble_eq_true rfl) dX6_readSum_50 ?_
  refine rb_if_ne hC 58 dX6_readSum_53 (by decide) (fun c15 => ?_) (fun c15 => ?_)
  · replace h := rb_ifn c15 h
    refine rb_aload_n hC 0 dX6_readSum_58 rfl ?_
    refine rb_getR hC fr_X6_14_6 rb_obX7 rfl dX6_readSum_59 ?_
    refine rb_iload_n hC 3 dX6_readSum_62 rfl ?_
    refine rb_bipush (x := 43) hC dX6_readSum_63 (by decide) ?_
    refine rb_icmp_ne hC 73 dX6_readSum_65 (by decide) (fun c16 => ?_) (fun c16 => ?_)
    · replace h := rb_ifn c16 h
      refine rb_bipush (x := (-12)) hC dX6_readSum_73 (by decide) ?_
      obtain ⟨s17, q18, h⟩ := rb_b1s h
      refine rb_callVv hC rb_VokX mv_X6_35 (xc_Law_add (-12) s12 _ q18) rb_obX8 rfl [.int (-12)] rfl rfl rfl ⟨by omega, Nat.le_of_ble_eq_true rfl⟩ (Nat.le_of_ble_eq_true rfl) dX6_readSum_75 ?_
      refine rb_iinc hC 2 [(2, .int (x2 + 1)), (0, .ref (rb_ad w 7)), (1, .int x1), (3, .int x3)] dX6_readSum_78 rfl rfl (by decide) rfl ?_
      refine rb_goto hC 12 dX6_readSum_81 (by decide) ?_
      exact rb_sub [1, 2, 0] rfl (hrc (x2 + 1) s17 h)
    · replace h := rb_ifp c16 h
      refine rb_bipush (x := (-11)) hC dX6_readSum_68 (by decide) ?_
      refine rb_goto hC 75 dX6_readSum_70 (by decide) ?_
      obtain ⟨s19, q20, h⟩ := rb_b1s h
      refine rb_callVv hC rb_VokX mv_X6_35 (xc_Law_add (-11) s12 _ q20) rb_obX8 rfl [.int (-11)] rfl rfl rfl ⟨by omega, Nat.le_of_ble_eq_true rfl⟩ (Nat.le_of_ble_eq_true rfl) dX6_readSum_75 ?_
      refine rb_iinc hC 2 [(2, .int (x2 + 1)), (0, .ref (rb_ad w 7)), (1, .int x1), (3, .int x3)] dX6_readSum_78 rfl rfl (by decide) rfl ?_
      refine rb_goto hC 12 dX6_readSum_81 (by decide) ?_
      exact rb_sub [1, 2, 0] rfl (hrc (x2 + 1) s19 h)
  · replace h := rb_ifp c15 h
    cases h
    exact rb_sub [] rfl (hE1 rfl)
def xl_LR_readSum_12 (g : xg_LR) (x1 : Int32) : Nat → Int32 → rb_St → Option (Nat × rb_St)
  | 0, _, _ => none
  | n + 1, x2, σ => if 240 ≤ x2 then some (2, σ) else rb_b2 (xf_Rd_nextSignL σ) fun r8 s6 => if r8 = 43 then xj_LR_readSum_38 g (fun b2 τ => xl_LR_readSum_12 g x1 n b2 τ) x1 x2 r8 s6 else if r8 = 45 then xj_LR_readSum_38 g (fun b2 τ => xl_LR_readSum_12 g x1 n b2 τ) x1 x2 r8 s6 else some (0, s6)
set_option maxHeartbeats 4000000 in
set_option maxRecDepth 100000 in
theorem xt_LR_readSum_12 {z : rb_Z} {w : rb_Wd} {Q : State → Prop} {h0 : Nat} (hb : 4 ≤ h0) {g : xg_LR} (hg : xg_LR_ok g h0) (hC : rb_Cx z rb_vX w RX6 cX6_readSum 4 (some .boolean) (h0 + 1)) (x1 : Int32) : ∀ (n : Nat) (x2 : Int32) (σ : rb_St) (t : Nat) (σ9 : rb_St), xl_LR_readSum_12 g x1 n x2 σ = some (t, σ9) → (t = 0 → rb_At z rb_vX w 4 Q 36 [] [] σ9) → (t = 1 → rb_At z rb_vX w 4 Q 56 [] [] σ9) → (t = 2 → rb_At z rb_vX w 4 Q 84 [] [] σ9) → rb_At z rb_vX w 4 Q 12 [(0, .ref (rb_ad w 7)), (1, .int x1), (2, .int x2)] [] σ := by
  intro n
  induction n with
  | zero =>
    intro x2 σ t σ9 h hE0 hE1 hE2
    cases h
  | succ n ih =>
    intro x2 σ t σ9 h hE0 hE1 hE2
    rw [xl_LR_readSum_12] at h
    refine rb_iload_n hC 2 dX6_readSum_12 rfl ?_
    refine rb_sipush (x := 240) hC dX6_readSum_13 (by decide) ?_
    refine rb_icmp_ge hC 84 dX6_readSum_16 (by decide) (fun c5 => ?_) (fun c5 => ?_)
    · replace h := rb_ifp c5 h
      cases h
      exact rb_sub [] rfl (hE2 rfl)
    · replace h := rb_ifn c5 h
      refine rb_aload_n hC 0 dX6_readSum_19 rfl ?_
      obtain ⟨r8, s6, q7, h⟩ := rb_b2s h
      refine rb_callUi hC rb_VokX mv_X6_39_6 (xc_Rd_nextSignL  σ _ _ q7) rb_obX7 rfl [] rfl rfl rfl ⟨by omega, Nat.le_of_ble_eq_true rfl⟩ (Nat.le_of_ble_eq_true rfl) dX6_readSum_20 ?_
      refine rb_istore_n hC [(3, .int r8), (0, .ref (rb_ad w 7)), (1, .int x1), (2, .int x2)] dX6_readSum_23 (by decide) rfl ?_
      refine rb_iload_n hC 0 dX6_readSum_24 rfl ?_
      refine rb_bipush (x := 43) hC dX6_readSum_25 (by decide) ?_
      refine rb_icmp_eq hC 38 dX6_readSum_27 (by decide) (fun c9 => ?_) (fun c9 => ?_)
      · replace h := rb_ifp c9 h
        exact rb_sub [1, 2, 3, 0] rfl (xu_LR_readSum_38 hb hg hC (fun b2 τ => xl_LR_readSum_12 g x1 n b2 τ) x1 x2 r8 s6 _ _ h (fun b2 τ hq => ih b2 τ _ _ hq hE0 hE1 hE2) hE0 hE1 hE2)
      · replace h := rb_ifn c9 h
        refine rb_iload_n hC 0 dX6_readSum_30 rfl ?_
        refine rb_bipush (x := 45) hC dX6_readSum_31 (by decide) ?_
        refine rb_icmp_eq hC 38 dX6_readSum_33 (by decide) (fun c21 => ?_) (fun c21 => ?_)
        · replace h := rb_ifp c21 h
          exact rb_sub [1, 2, 3, 0] rfl (xu_LR_readSum_38 hb hg hC (fun b2 τ => xl_LR_readSum_12 g x1 n b2 τ) x1 x2 r8 s6 _ _ h (fun b2 τ hq => ih b2 τ _ _ hq hE0 hE1 hE2) hE0 hE1 hE2)
        · replace h := rb_ifn c21 h
          cases h
          exact rb_sub [] rfl (hE0 rfl)
def xb_LR_readSum (g : xg_LR) (p0 : Int32) (σ : rb_St) : Option (Int32 × rb_St) := rb_b2 (g.2.2.2.2.2.2.1 p0 σ) fun r3 s1 => if r3 = 0 then some (0, s1) else rb_b2 (xl_LR_readSum_12 g p0 rb_FU 0 s1) fun t22 s23 => if t22 = 0 then some (1, s23) else if t22 = 1 then some (0, s23) else some (0, s23)
set_option maxHeartbeats 4000000 in
set_option maxRecDepth 100000 in
theorem xk_LR_readSum {z : rb_Z} {w : rb_Wd} {h0 : Nat} (hb : 4 ≤ h0) {g : xg_LR} (hg : xg_LR_ok g h0) (hC : rb_Cx z rb_vX w RX6 cX6_readSum 4 (some .boolean) (h0 + 1)) (p0 : Int32) (σ : rb_St) (r : Int32) (σ9 : rb_St) (h : xb_LR_readSum g p0 σ = some (r, σ9)) : rb_At z rb_vX w 4 (rb_Q z rb_vX w (some (.int r)) σ9) 0 [(0, .ref (rb_ad w 7)), (1, .int p0)] [] σ := by
  unfold xb_LR_readSum at h
  refine rb_aload_n hC 0 dX6_readSum_0 rfl ?_
  refine rb_iload_n hC 1 dX6_readSum_1 rfl ?_
  obtain ⟨r3, s1, q2, h⟩ := rb_b2s h
  refine rb_callVi hC rb_VokX mv_X6_70 (hg.2.2.2.2.2.2.1 p0 σ _ _ q2) rb_obX7 rfl [.int p0] rfl rfl rfl ⟨by omega, Nat.le_of_ble_eq_true rfl⟩ (Nat.le_of_ble_eq_true rfl) dX6_readSum_2 ?_
  refine rb_if_ne hC 10 dX6_readSum_5 (by decide) (fun c4 => ?_) (fun c4 => ?_)
  · replace h := rb_ifn c4 h
    refine rb_iconst (x := 0) hC dX6_readSum_10 (by decide) ?_
    refine rb_istore_n hC [(2, .int 0), (0, .ref (rb_ad w 7)), (1, .int p0)] dX6_readSum_11 (by decide) rfl ?_
    obtain ⟨t22, s23, q24, h⟩ := rb_b2s h
    refine rb_sub (lv2 := [(0, .ref (rb_ad w 7)), (1, .int p0), (2, .int 0)]) [1, 2, 0] rfl ?_
    refine xt_LR_readSum_12 hb hg hC p0 rb_FU 0 s1 _ _ q24 (fun ht => ?_) (fun ht => ?_) (fun ht => ?_)
    · subst ht
      replace h := rb_ifp rfl h
      refine rb_iconst (x := 1) hC dX6_readSum_36 (by decide) ?_
      cases h
      exact rb_zret hC rfl dX6_readSum_37
    · subst ht
      replace h := rb_ifn (by decide) h
      replace h := rb_ifp rfl h
      refine rb_iconst (x := 0) hC dX6_readSum_56 (by decide) ?_
      cases h
      exact rb_zret hC rfl dX6_readSum_57
    · subst ht
      replace h := rb_ifn (by decide) h
      replace h := rb_ifn (by decide) h
      refine rb_iconst (x := 0) hC dX6_readSum_84 (by decide) ?_
      cases h
      exact rb_zret hC rfl dX6_readSum_85
  · replace h := rb_ifp c4 h
    refine rb_iconst (x := 0) hC dX6_readSum_8 (by decide) ?_
    cases h
    exact rb_zret hC rfl dX6_readSum_9
def xj_LR_readTerm_38 (g : xg_LR) (rc : Int32 → rb_St → Option (Nat × rb_St)) (x1 : Int32) (x2 : Int32) (x3 : Int32) (σ : rb_St) : Option (Nat × rb_St) := rb_lt (rb_sI σ 7 1 ((σ.1 7 1) + 1)) (fun s10 => rb_b2 (g.2.2.2.2.2.2.2 x1 s10) fun r14 s12 => if r14 = 0 then some (1, s12) else if x3 = 42 then rb_b1 (xf_Law_add (-13) s12) fun s19 => rc (x2 + 1) s19 else rb_b1 (xf_Law_add (-14) s12) fun s17 => rc (x2 + 1) s17)
set_option maxHeartbeats 4000000 in
set_option maxRecDepth 100000 in
theorem xu_LR_readTerm_38 {z : rb_Z} {w : rb_Wd} {Q : State → Prop} {h0 : Nat} (hb : 4 ≤ h0) {g : xg_LR} (hg : xg_LR_ok g h0) (hC : rb_Cx z rb_vX w RX6 cX6_readTerm 4 (some .boolean) (h0 + 1))  (rc : Int32 → rb_St → Option (Nat × rb_St)) (x1 : Int32) (x2 : Int32) (x3 : Int32) (σ : rb_St) (t : Nat) (σ9 : rb_St) (h : xj_LR_readTerm_38 g rc x1 x2 x3 σ = some (t, σ9)) (hrc : ∀ (b2 : Int32) (τ : rb_St), rc b2 τ = some (t, σ9) → rb_At z rb_vX w 4 Q 12 [(0, .ref (rb_ad w 7)), (1, .int x1), (2, .int b2)] [] τ) (hE0 : t = 0 → rb_At z rb_vX w 4 Q 36 [] [] σ9) (hE1 : t = 1 → rb_At z rb_vX w 4 Q 56 [] [] σ9) (hE2 : t = 2 → rb_At z rb_vX w 4 Q 84 [] [] σ9) : rb_At z rb_vX w 4 Q 38 [(0, .ref (rb_ad w 7)), (1, .int x1), (2, .int x2), (3, .int x3)] [] σ := by
  unfold xj_LR_readTerm_38 at h
  refine rb_aload_n hC 0 dX6_readTerm_38 rfl ?_
  refine rb_dup hC dX6_readTerm_39 rfl ?_
  refine rb_getI hC fr_X6_20_6 rb_obX7 rfl dX6_readTerm_40 ?_
  refine rb_iconst (x := 1) hC dX6_readTerm_43 (by decide) ?_
  refine rb_iadd hC dX6_readTerm_44 ?_
  refine rb_putI hC fr_X6_20_6 ft_6_1 rb_obX7 rfl rfl rfl dX6_readTerm_45 ?_
  obtain ⟨s10, e11, h⟩ := rb_ltE h
  refine rb_nmS e11 ?_
  refine rb_aload_n hC 0 dX6_readTerm_48 rfl ?_
  refine rb_iload_n hC 1 dX6_readTerm_49 rfl ?_
  obtain ⟨r14, s12, q13, h⟩ := rb_b2s h
  refine rb_callVi hC rb_VokX mv_X6_73 (hg.2.2.2.2.2.2.2 x1 s10 _ _ q13) rb_obX7 rfl [.int x1] rfl rfl rfl ⟨by omega, Nat.le_of_ble_eq_true rfl⟩ (Nat.le_of_ble_eq_true rfl) dX6_readTerm_50 ?_
  refine rb_if_ne hC 58 dX6_readTerm_53 (by decide) (fun c15 => ?_) (fun c15 => ?_)
  · replace h := rb_ifn c15 h
    refine rb_aload_n hC 0 dX6_readTerm_58 rfl ?_
    refine rb_getR hC fr_X6_14_6 rb_obX7 rfl dX6_readTerm_59 ?_
    refine rb_iload_n hC 3 dX6_readTerm_62 rfl ?_
    refine rb_bipush (x := 42) hC dX6_readTerm_63 (by decide) ?_
    refine rb_icmp_ne hC 73 dX6_readTerm_65 (by decide) (fun c16 => ?_) (fun c16 => ?_)
    · replace h := rb_ifn c16 h
      refine rb_bipush (x := (-14)) hC dX6_readTerm_73 (by decide) ?_
      obtain ⟨s17, q18, h⟩ := rb_b1s h
      refine rb_callVv hC rb_VokX mv_X6_35 (xc_Law_add (-14) s12 _ q18) rb_obX8 rfl [.int (-14)] rfl rfl rfl ⟨by omega, Nat.le_of_ble_eq_true rfl⟩ (Nat.le_of_ble_eq_true rfl) dX6_readTerm_75 ?_
      refine rb_iinc hC 2 [(2, .int (x2 + 1)), (0, .ref (rb_ad w 7)), (1, .int x1), (3, .int x3)] dX6_readTerm_78 rfl rfl (by decide) rfl ?_
      refine rb_goto hC 12 dX6_readTerm_81 (by decide) ?_
      exact rb_sub [1, 2, 0] rfl (hrc (x2 + 1) s17 h)
    · replace h := rb_ifp c16 h
      refine rb_bipush (x := (-13)) hC dX6_readTerm_68 (by decide) ?_
      refine rb_goto hC 75 dX6_readTerm_70 (by decide) ?_
      obtain ⟨s19, q20, h⟩ := rb_b1s h
      refine rb_callVv hC rb_VokX mv_X6_35 (xc_Law_add (-13) s12 _ q20) rb_obX8 rfl [.int (-13)] rfl rfl rfl ⟨by omega, Nat.le_of_ble_eq_true rfl⟩ (Nat.le_of_ble_eq_true rfl) dX6_readTerm_75 ?_
      refine rb_iinc hC 2 [(2, .int (x2 + 1)), (0, .ref (rb_ad w 7)), (1, .int x1), (3, .int x3)] dX6_readTerm_78 rfl rfl (by decide) rfl ?_
      refine rb_goto hC 12 dX6_readTerm_81 (by decide) ?_
      exact rb_sub [1, 2, 0] rfl (hrc (x2 + 1) s19 h)
  · replace h := rb_ifp c15 h
    cases h
    exact rb_sub [] rfl (hE1 rfl)
def xl_LR_readTerm_12 (g : xg_LR) (x1 : Int32) : Nat → Int32 → rb_St → Option (Nat × rb_St)
  | 0, _, _ => none
  | n + 1, x2, σ => if 240 ≤ x2 then some (2, σ) else rb_b2 (xf_Rd_nextSignL σ) fun r8 s6 => if r8 = 42 then xj_LR_readTerm_38 g (fun b2 τ => xl_LR_readTerm_12 g x1 n b2 τ) x1 x2 r8 s6 else if r8 = 47 then xj_LR_readTerm_38 g (fun b2 τ => xl_LR_readTerm_12 g x1 n b2 τ) x1 x2 r8 s6 else some (0, s6)
set_option maxHeartbeats 4000000 in
set_option maxRecDepth 100000 in
theorem xt_LR_readTerm_12 {z : rb_Z} {w : rb_Wd} {Q : State → Prop} {h0 : Nat} (hb : 4 ≤ h0) {g : xg_LR} (hg : xg_LR_ok g h0) (hC : rb_Cx z rb_vX w RX6 cX6_readTerm 4 (some .boolean) (h0 + 1)) (x1 : Int32) : ∀ (n : Nat) (x2 : Int32) (σ : rb_St) (t : Nat) (σ9 : rb_St), xl_LR_readTerm_12 g x1 n x2 σ = some (t, σ9) → (t = 0 → rb_At z rb_vX w 4 Q 36 [] [] σ9) → (t = 1 → rb_At z rb_vX w 4 Q 56 [] [] σ9) → (t = 2 → rb_At z rb_vX w 4 Q 84 [] [] σ9) → rb_At z rb_vX w 4 Q 12 [(0, .ref (rb_ad w 7)), (1, .int x1), (2, .int x2)] [] σ := by
  intro n
  induction n with
  | zero =>
    intro x2 σ t σ9 h hE0 hE1 hE2
    cases h
  | succ n ih =>
    intro x2 σ t σ9 h hE0 hE1 hE2
    rw [xl_LR_readTerm_12] at h
    refine rb_iload_n hC 2 dX6_readTerm_12 rfl ?_
    refine rb_sipush (x := 240) hC dX6_readTerm_13 (by decide) ?_
    refine rb_icmp_ge hC 84 dX6_readTerm_16 (by decide) (fun c5 => ?_) (fun c5 => ?_)
    · replace h := rb_ifp c5 h
      cases h
      exact rb_sub [] rfl (hE2 rfl)
    · replace h := rb_ifn c5 h
      refine rb_aload_n hC 0 dX6_readTerm_19 rfl ?_
      obtain ⟨r8, s6, q7, h⟩ := rb_b2s h
      refine rb_callUi hC rb_VokX mv_X6_39_6 (xc_Rd_nextSignL  σ _ _ q7) rb_obX7 rfl [] rfl rfl rfl ⟨by omega, Nat.le_of_ble_eq_true rfl⟩ (Nat.le_of_ble_eq_true rfl) dX6_readTerm_20 ?_
      refine rb_istore_n hC [(3, .int r8), (0, .ref (rb_ad w 7)), (1, .int x1), (2, .int x2)] dX6_readTerm_23 (by decide) rfl ?_
      refine rb_iload_n hC 0 dX6_readTerm_24 rfl ?_
      refine rb_bipush (x := 42) hC dX6_readTerm_25 (by decide) ?_
      refine rb_icmp_eq hC 38 dX6_readTerm_27 (by decide) (fun c9 => ?_) (fun c9 => ?_)
      · replace h := rb_ifp c9 h
        exact rb_sub [1, 2, 3, 0] rfl (xu_LR_readTerm_38 hb hg hC (fun b2 τ => xl_LR_readTerm_12 g x1 n b2 τ) x1 x2 r8 s6 _ _ h (fun b2 τ hq => ih b2 τ _ _ hq hE0 hE1 hE2) hE0 hE1 hE2)
      · replace h := rb_ifn c9 h
        refine rb_iload_n hC 0 dX6_readTerm_30 rfl ?_
        refine rb_bipush (x := 47) hC dX6_readTerm_31 (by decide) ?_
        refine rb_icmp_eq hC 38 dX6_readTerm_33 (by decide) (fun c21 => ?_) (fun c21 => ?_)
        · replace h := rb_ifp c21 h
          exact rb_sub [1, 2, 3, 0] rfl (xu_LR_readTerm_38 hb hg hC (fun b2 τ => xl_LR_readTerm_12 g x1 n b2 τ) x1 x2 r8 s6 _ _ h (fun b2 τ hq => ih b2 τ _ _ hq hE0 hE1 hE2) hE0 hE1 hE2)
        · replace h := rb_ifn c21 h
          cases h
          exact rb_sub [] rfl (hE0 rfl)
def xb_LR_readTerm (g : xg_LR) (p0 : Int32) (σ : rb_St) : Option (Int32 × rb_St) := rb_b2 (g.2.2.2.2.2.2.2 p0 σ) fun r3 s1 => if r3 = 0 then some (0, s1) else rb_b2 (xl_LR_readTerm_12 g p0 rb_FU 0 s1) fun t22 s23 => if t22 = 0 then some (1, s23) else if t22 = 1 then some (0, s23) else some (0, s23)
set_option maxHeartbeats 4000000 in
set_option maxRecDepth 100000 in
theorem xk_LR_readTerm {z : rb_Z} {w : rb_Wd} {h0 : Nat} (hb : 4 ≤ h0) {g : xg_LR} (hg : xg_LR_ok g h0) (hC : rb_Cx z rb_vX w RX6 cX6_readTerm 4 (some .boolean) (h0 + 1)) (p0 : Int32) (σ : rb_St) (r : Int32) (σ9 : rb_St) (h : xb_LR_readTerm g p0 σ = some (r, σ9)) : rb_At z rb_vX w 4 (rb_Q z rb_vX w (some (.int r)) σ9) 0 [(0, .ref (rb_ad w 7)), (1, .int p0)] [] σ := by
  unfold xb_LR_readTerm at h
  refine rb_aload_n hC 0 dX6_readTerm_0 rfl ?_
  refine rb_iload_n hC 1 dX6_readTerm_1 rfl ?_
  obtain ⟨r3, s1, q2, h⟩ := rb_b2s h
  refine rb_callVi hC rb_VokX mv_X6_73 (hg.2.2.2.2.2.2.2 p0 σ _ _ q2) rb_obX7 rfl [.int p0] rfl rfl rfl ⟨by omega, Nat.le_of_ble_eq_true rfl⟩ (Nat.le_of_ble_eq_true rfl) dX6_readTerm_2 ?_
  refine rb_if_ne hC 10 dX6_readTerm_5 (by decide) (fun c4 => ?_) (fun c4 => ?_)
  · replace h := rb_ifn c4 h
    refine rb_iconst (x := 0) hC dX6_readTerm_10 (by decide) ?_
    refine rb_istore_n hC [(2, .int 0), (0, .ref (rb_ad w 7)), (1, .int p0)] dX6_readTerm_11 (by decide) rfl ?_
    obtain ⟨t22, s23, q24, h⟩ := rb_b2s h
    refine rb_sub (lv2 := [(0, .ref (rb_ad w 7)), (1, .int p0), (2, .int 0)]) [1, 2, 0] rfl ?_
    refine xt_LR_readTerm_12 hb hg hC p0 rb_FU 0 s1 _ _ q24 (fun ht => ?_) (fun ht => ?_) (fun ht => ?_)
    · subst ht
      replace h := rb_ifp rfl h
      refine rb_iconst (x := 1) hC dX6_readTerm_36 (by decide) ?_
      cases h
      exact rb_zret hC rfl dX6_readTerm_37
    · subst ht
      replace h := rb_ifn (by decide) h
      replace h := rb_ifp rfl h
      refine rb_iconst (x := 0) hC dX6_readTerm_56 (by decide) ?_
      cases h
      exact rb_zret hC rfl dX6_readTerm_57
    · subst ht
      replace h := rb_ifn (by decide) h
      replace h := rb_ifn (by decide) h
      refine rb_iconst (x := 0) hC dX6_readTerm_84 (by decide) ?_
      cases h
      exact rb_zret hC rfl dX6_readTerm_85
  · replace h := rb_ifp c4 h
    refine rb_iconst (x := 0) hC dX6_readTerm_8 (by decide) ?_
    cases h
    exact rb_zret hC rfl dX6_readTerm_9
def xj_LR_readAtom_89 (g : xg_LR) (u0 : Int32) (σ : rb_St) : Option (Int32 × rb_St) := if 0 ≤ u0 then rb_lt (rb_sI σ 7 1 ((σ.1 7 1) + 1)) (fun s10 => rb_b1 (xf_Law_add ((-1) - u0) s10) fun s12 => some (1, s12)) else some (0, σ)
set_option maxHeartbeats 4000000 in
set_option maxRecDepth 100000 in
theorem xu_LR_readAtom_89 {z : rb_Z} {w : rb_Wd} {h0 : Nat} (hb : 4 ≤ h0) {g : xg_LR} (hg : xg_LR_ok g h0) (hC : rb_Cx z rb_vX w RX6 cX6_readAtom 4 (some .boolean) (h0 + 1)) (u0 : Int32) (σ : rb_St) (r : Int32) (σ9 : rb_St) (h : xj_LR_readAtom_89 g u0 σ = some (r, σ9)) : rb_At z rb_vX w 4 (rb_Q z rb_vX w (some (.int r)) σ9) 89 [(0, .ref (rb_ad w 7))] [.int u0] σ := by
  unfold xj_LR_readAtom_89 at h
  refine rb_istore_n hC [(3, .int u0), (0, .ref (rb_ad w 7))] dX6_readAtom_89 (by decide) rfl ?_
  refine rb_iload_n hC 0 dX6_readAtom_90 rfl ?_
  refine rb_if_ge hC 96 dX6_readAtom_91 (by decide) (fun c9 => ?_) (fun c9 => ?_)
  · replace h := rb_ifp c9 h
    refine rb_aload_n hC 1 dX6_readAtom_96 rfl ?_
    refine rb_dup hC dX6_readAtom_97 rfl ?_
    refine rb_getI hC fr_X6_20_6 rb_obX7 rfl dX6_readAtom_98 ?_
    refine rb_iconst (x := 1) hC dX6_readAtom_101 (by decide) ?_
    refine rb_iadd hC dX6_readAtom_102 ?_
    refine rb_putI hC fr_X6_20_6 ft_6_1 rb_obX7 rfl rfl rfl dX6_readAtom_103 ?_
    obtain ⟨s10, e11, h⟩ := rb_ltE h
    refine rb_nmS e11 ?_
    refine rb_aload_n hC 1 dX6_readAtom_106 rfl ?_
    refine rb_getR hC fr_X6_14_6 rb_obX7 rfl dX6_readAtom_107 ?_
    refine rb_iconst (x := (-1)) hC dX6_readAtom_110 (by decide) ?_
    refine rb_iload_n hC 0 dX6_readAtom_111 rfl ?_
    refine rb_isub hC dX6_readAtom_112 ?_
    obtain ⟨s12, q13, h⟩ := rb_b1s h
    refine rb_callVv hC rb_VokX mv_X6_35 (xc_Law_add ((-1) - u0) s10 _ q13) rb_obX8 rfl [.int ((-1) - u0)] rfl rfl rfl ⟨by omega, Nat.le_of_ble_eq_true rfl⟩ (Nat.le_of_ble_eq_true rfl) dX6_readAtom_113 ?_
    refine rb_iconst (x := 1) hC dX6_readAtom_116 (by decide) ?_
    cases h
    exact rb_zret hC rfl dX6_readAtom_117
  · replace h := rb_ifn c9 h
    refine rb_iconst (x := 0) hC dX6_readAtom_94 (by decide) ?_
    cases h
    exact rb_zret hC rfl dX6_readAtom_95
def xb_LR_readAtom (g : xg_LR) (p0 : Int32) (σ : rb_St) : Option (Int32 × rb_St) := rb_b2 (xf_Rd_nextSignL σ) fun r3 s1 => if r3 = 91 then rb_b2 (xf_LR_opens p0 s1) fun r22 s20 => if r22 = 0 then some (0, s20) else rb_b2 (g.2.2.2.2.2.1 (p0 + 1) s20) fun r26 s24 => if r26 = 0 then some (0, s24) else rb_b2 (xf_Rd_passesL 93 s24) fun r30 s28 => if r30 = 0 then some (0, s28) else some (1, s28) else if (xf_Rd_isDigit r3 s1) = 0 then if r3 = (-1) then xj_LR_readAtom_89 g (-1) s1 else rb_b1 (xf_JS_indexOf2 ((r3.toUInt32 % 65536).toInt32) s1) fun r7 => xj_LR_readAtom_89 g r7 s1 else rb_b2 (xf_Rd_readNumberL 4 s1) fun r16 s14 => if 0 ≤ r16 then rb_b1 (xf_Law_add r16 s14) fun s18 => some (1, s18) else some (0, s14)
set_option maxHeartbeats 4000000 in
set_option maxRecDepth 100000 in
theorem xk_LR_readAtom {z : rb_Z} {w : rb_Wd} {h0 : Nat} (hb : 4 ≤ h0) {g : xg_LR} (hg : xg_LR_ok g h0) (hC : rb_Cx z rb_vX w RX6 cX6_readAtom 4 (some .boolean) (h0 + 1)) (p0 : Int32) (σ : rb_St) (r : Int32) (σ9 : rb_St) (h : xb_LR_readAtom g p0 σ = some (r, σ9)) : rb_At z rb_vX w 4 (rb_Q z rb_vX w (some (.int r)) σ9) 0 [(0, .ref (rb_ad w 7)), (1, .int p0)] [] σ := by
  unfold xb_LR_readAtom at h
  refine rb_aload_n hC 0 dX6_readAtom_0 rfl ?_
  obtain ⟨r3, s1, q2, h⟩ := rb_b2s h
  refine rb_callUi hC rb_VokX mv_X6_39_6 (xc_Rd_nextSignL  σ _ _ q2) rb_obX7 rfl [] rfl rfl rfl ⟨by omega, Nat.le_of_ble_eq_true rfl⟩ (Nat.le_of_ble_eq_true rfl) dX6_readAtom_1 ?_
  refine rb_istore_n hC [(2, .int r3), (0, .ref (rb_ad w 7)), (1, .int p0)] dX6_readAtom_4 (by decide) rfl ?_
  refine rb_iload_n hC 0 dX6_readAtom_5 rfl ?_
  refine rb_bipush (x := 91) hC dX6_readAtom_6 (by decide) ?_
  refine rb_icmp_ne hC 44 dX6_readAtom_8 (by decide) (fun c4 => ?_) (fun c4 => ?_)
  · replace h := rb_ifn c4 h
    refine rb_iload_n hC 0 dX6_readAtom_44 rfl ?_
    refine rb_callSUi hC rb_VokX mv_X6_76 (xc_Rd_isDigit r3 s1 _ rfl) [.int r3] rfl rfl rfl ⟨by omega, Nat.le_of_ble_eq_true rfl⟩ (Nat.le_of_ble_eq_true rfl) dX6_readAtom_45 ?_
    refine rb_if_eq hC 73 dX6_readAtom_48 (by decide) (fun c5 => ?_) (fun c5 => ?_)
    · replace h := rb_ifp c5 h
      refine rb_iload_n hC 0 dX6_readAtom_73 rfl ?_
      refine rb_iconst (x := (-1)) hC dX6_readAtom_74 (by decide) ?_
      refine rb_icmp_ne hC 82 dX6_readAtom_75 (by decide) (fun c6 => ?_) (fun c6 => ?_)
      · replace h := rb_ifn c6 h
        refine rb_ldcS (tx := "") hC 2 (by exact Or.inr (Or.inr ⟨rfl, rfl, rfl⟩)) dX6_readAtom_82 ?_
        refine rb_iload_n hC 0 dX6_readAtom_84 rfl ?_
        refine rb_i2c hC dX6_readAtom_85 ?_
        obtain ⟨r7, q8, h⟩ := rb_b1s h
        refine rb_callT hC mv_X6_85 rfl (xc_JS_indexOf2 ((r3.toUInt32 % 65536).toInt32) s1 _ q8) (i := 2) (by decide) [.int ((r3.toUInt32 % 65536).toInt32)] rfl rfl rfl ⟨by omega, Nat.le_of_ble_eq_true rfl⟩ (Nat.le_of_ble_eq_true rfl) dX6_readAtom_86 ?_
        exact rb_sub [1] rfl (xu_LR_readAtom_89 hb hg hC r7 s1 _ _ h)
      · replace h := rb_ifp c6 h
        refine rb_iconst (x := (-1)) hC dX6_readAtom_78 (by decide) ?_
        refine rb_goto hC 89 dX6_readAtom_79 (by decide) ?_
        exact rb_sub [1] rfl (xu_LR_readAtom_89 hb hg hC (-1) s1 _ _ h)
    · replace h := rb_ifn c5 h
      refine rb_aload_n hC 1 dX6_readAtom_51 rfl ?_
      refine rb_iconst (x := 4) hC dX6_readAtom_52 (by decide) ?_
      obtain ⟨r16, s14, q15, h⟩ := rb_b2s h
      refine rb_callUi hC rb_VokX mv_X6_79_6 (xc_Rd_readNumberL 4 s1 _ _ q15) rb_obX7 rfl [.int 4] rfl rfl rfl ⟨by omega, Nat.le_of_ble_eq_true rfl⟩ (Nat.le_of_ble_eq_true rfl) dX6_readAtom_53 ?_
      refine rb_istore_n hC [(3, .int r16), (2, .int r3), (0, .ref (rb_ad w 7)), (1, .int p0)] dX6_readAtom_56 (by decide) rfl ?_
      refine rb_iload_n hC 0 dX6_readAtom_57 rfl ?_
      refine rb_if_ge hC 63 dX6_readAtom_58 (by decide) (fun c17 => ?_) (fun c17 => ?_)
      · replace h := rb_ifp c17 h
        refine rb_aload_n hC 2 dX6_readAtom_63 rfl ?_
        refine rb_getR hC fr_X6_14_6 rb_obX7 rfl dX6_readAtom_64 ?_
        refine rb_iload_n hC 0 dX6_readAtom_67 rfl ?_
        obtain ⟨s18, q19, h⟩ := rb_b1s h
        refine rb_callVv hC rb_VokX mv_X6_35 (xc_Law_add r16 s14 _ q19) rb_obX8 rfl [.int r16] rfl rfl rfl ⟨by omega, Nat.le_of_ble_eq_true rfl⟩ (Nat.le_of_ble_eq_true rfl) dX6_readAtom_68 ?_
        refine rb_iconst (x := 1) hC dX6_readAtom_71 (by decide) ?_
        cases h
        exact rb_zret hC rfl dX6_readAtom_72
      · replace h := rb_ifn c17 h
        refine rb_iconst (x := 0) hC dX6_readAtom_61 (by decide) ?_
        cases h
        exact rb_zret hC rfl dX6_readAtom_62
  · replace h := rb_ifp c4 h
    refine rb_aload_n hC 1 dX6_readAtom_11 rfl ?_
    refine rb_iload_n hC 2 dX6_readAtom_12 rfl ?_
    obtain ⟨r22, s20, q21, h⟩ := rb_b2s h
    refine rb_callVi hC rb_VokX mv_X6_67 (xc_LR_opens p0 s1 _ _ q21) rb_obX7 rfl [.int p0] rfl rfl rfl ⟨by omega, Nat.le_of_ble_eq_true rfl⟩ (Nat.le_of_ble_eq_true rfl) dX6_readAtom_13 ?_
    refine rb_if_eq hC 42 dX6_readAtom_16 (by decide) (fun c23 => ?_) (fun c23 => ?_)
    · replace h := rb_ifp c23 h
      refine rb_iconst (x := 0) hC dX6_readAtom_42 (by decide) ?_
      cases h
      exact rb_zret hC rfl dX6_readAtom_43
    · replace h := rb_ifn c23 h
      refine rb_aload_n hC 1 dX6_readAtom_19 rfl ?_
      refine rb_iload_n hC 2 dX6_readAtom_20 rfl ?_
      refine rb_iconst (x := 1) hC dX6_readAtom_21 (by decide) ?_
      refine rb_iadd hC dX6_readAtom_22 ?_
      obtain ⟨r26, s24, q25, h⟩ := rb_b2s h
      refine rb_callVi hC rb_VokX mv_X6_49 (hg.2.2.2.2.2.1 (p0 + 1) s20 _ _ q25) rb_obX7 rfl [.int (p0 + 1)] rfl rfl rfl ⟨by omega, Nat.le_of_ble_eq_true rfl⟩ (Nat.le_of_ble_eq_true rfl) dX6_readAtom_23 ?_
      refine rb_if_eq hC 42 dX6_readAtom_26 (by decide) (fun c27 => ?_) (fun c27 => ?_)
      · replace h := rb_ifp c27 h
        refine rb_iconst (x := 0) hC dX6_readAtom_42 (by decide) ?_
        cases h
        exact rb_zret hC rfl dX6_readAtom_43
      · replace h := rb_ifn c27 h
        refine rb_aload_n hC 1 dX6_readAtom_29 rfl ?_
        refine rb_bipush (x := 93) hC dX6_readAtom_30 (by decide) ?_
        obtain ⟨r30, s28, q29, h⟩ := rb_b2s h
        refine rb_callUi hC rb_VokX mv_X6_27_6 (xc_Rd_passesL 93 s24 _ _ q29) rb_obX7 rfl [.int 93] rfl rfl rfl ⟨by omega, Nat.le_of_ble_eq_true rfl⟩ (Nat.le_of_ble_eq_true rfl) dX6_readAtom_32 ?_
        refine rb_if_eq hC 42 dX6_readAtom_35 (by decide) (fun c31 => ?_) (fun c31 => ?_)
        · replace h := rb_ifp c31 h
          refine rb_iconst (x := 0) hC dX6_readAtom_42 (by decide) ?_
          cases h
          exact rb_zret hC rfl dX6_readAtom_43
        · replace h := rb_ifn c31 h
          refine rb_iconst (x := 1) hC dX6_readAtom_38 (by decide) ?_
          refine rb_goto hC 43 dX6_readAtom_39 (by decide) ?_
          cases h
          exact rb_zret hC rfl dX6_readAtom_43
def xG_LR : Nat → xg_LR
  | 0 => (fun _ _ => none, fun _ _ => none, fun _ _ => none, fun _ _ => none, fun _ _ => none, fun _ _ => none, fun _ _ => none, fun _ _ => none)
  | d + 1 => (xb_LR_readCondition (xG_LR d), xb_LR_readMoreUnits (xG_LR d), xb_LR_readMoreOfTruth (xG_LR d), xb_LR_readUnit (xG_LR d), xb_LR_readComparison (xG_LR d), xb_LR_readSum (xG_LR d), xb_LR_readTerm (xG_LR d), xb_LR_readAtom (xG_LR d))
theorem xG_LR_all : ∀ d : Nat, xg_LR_ok (xG_LR d) (4 + d) := by
  intro d
  induction d with
  | zero => exact ⟨(fun _ _ _ _ h => by cases h), (fun _ _ _ _ h => by cases h), (fun _ _ _ _ h => by cases h), (fun _ _ _ _ h => by cases h), (fun _ _ _ _ h => by cases h), (fun _ _ _ _ h => by cases h), (fun _ _ _ _ h => by cases h), (fun _ _ _ _ h => by cases h)⟩
  | succ d ih =>
    have hb : 4 ≤ 4 + d := Nat.le_add_right _ _
    exact ⟨fun p0 σ r σ9 h => rb_Con.of (by decide +kernel) (fun _ => Nat.le_of_ble_eq_true rfl) (fun z w hC => xk_LR_readCondition hb ih hC p0 σ r σ9 h),
      fun p0 σ r σ9 h => rb_Con.of (by decide +kernel) (fun _ => Nat.le_of_ble_eq_true rfl) (fun z w hC => xk_LR_readMoreUnits hb ih hC p0 σ r σ9 h),
      fun p0 σ r σ9 h => rb_Con.of (by decide +kernel) (fun _ => Nat.le_of_ble_eq_true rfl) (fun z w hC => xk_LR_readMoreOfTruth hb ih hC p0 σ r σ9 h),
      fun p0 σ r σ9 h => rb_Con.of (by decide +kernel) (fun _ => Nat.le_of_ble_eq_true rfl) (fun z w hC => xk_LR_readUnit hb ih hC p0 σ r σ9 h),
      fun p0 σ r σ9 h => rb_Con.of (by decide +kernel) (fun _ => Nat.le_of_ble_eq_true rfl) (fun z w hC => xk_LR_readComparison hb ih hC p0 σ r σ9 h),
      fun p0 σ r σ9 h => rb_Con.of (by decide +kernel) (fun _ => Nat.le_of_ble_eq_true rfl) (fun z w hC => xk_LR_readSum hb ih hC p0 σ r σ9 h),
      fun p0 σ r σ9 h => rb_Con.of (by decide +kernel) (fun _ => Nat.le_of_ble_eq_true rfl) (fun z w hC => xk_LR_readTerm hb ih hC p0 σ r σ9 h),
      fun p0 σ r σ9 h => rb_Con.of (by decide +kernel) (fun _ => Nat.le_of_ble_eq_true rfl) (fun z w hC => xk_LR_readAtom hb ih hC p0 σ r σ9 h)⟩
def xf_LR_readCondition (d : Nat) (p0 : Int32) (σ : rb_St) : Option (Int32 × rb_St) := (xG_LR d).1 p0 σ
theorem xc_LR_readCondition (d : Nat) (p0 : Int32) (σ : rb_St) (r : Int32) (σ9 : rb_St) (h : xf_LR_readCondition d p0 σ = some (r, σ9)) : rb_Con rb_vX yX6_readCondition cX6_readCondition 2 (some .boolean) (4 + d) (fun w => [.ref (rb_ad w 7), .int p0]) σ (fun _ => (some (.int r))) σ9 := (xG_LR_all d).1 p0 σ r σ9 h
def xf_LR_readMoreUnits (d : Nat) (p0 : Int32) (σ : rb_St) : Option (Int32 × rb_St) := (xG_LR d).2.1 p0 σ
theorem xc_LR_readMoreUnits (d : Nat) (p0 : Int32) (σ : rb_St) (r : Int32) (σ9 : rb_St) (h : xf_LR_readMoreUnits d p0 σ = some (r, σ9)) : rb_Con rb_vX yX6_readMoreUnits cX6_readMoreUnits 3 (some .boolean) (4 + d) (fun w => [.ref (rb_ad w 7), .int p0]) σ (fun _ => (some (.int r))) σ9 := (xG_LR_all d).2.1 p0 σ r σ9 h
def xf_LR_readMoreOfTruth (d : Nat) (p0 : Int32) (σ : rb_St) : Option (Int32 × rb_St) := (xG_LR d).2.2.1 p0 σ
theorem xc_LR_readMoreOfTruth (d : Nat) (p0 : Int32) (σ : rb_St) (r : Int32) (σ9 : rb_St) (h : xf_LR_readMoreOfTruth d p0 σ = some (r, σ9)) : rb_Con rb_vX yX6_readMoreOfTruth cX6_readMoreOfTruth 3 (some .boolean) (4 + d) (fun w => [.ref (rb_ad w 7), .int p0]) σ (fun _ => (some (.int r))) σ9 := (xG_LR_all d).2.2.1 p0 σ r σ9 h
def xf_LR_readUnit (d : Nat) (p0 : Int32) (σ : rb_St) : Option (Int32 × rb_St) := (xG_LR d).2.2.2.1 p0 σ
theorem xc_LR_readUnit (d : Nat) (p0 : Int32) (σ : rb_St) (r : Int32) (σ9 : rb_St) (h : xf_LR_readUnit d p0 σ = some (r, σ9)) : rb_Con rb_vX yX6_readUnit cX6_readUnit 3 (some .boolean) (4 + d) (fun w => [.ref (rb_ad w 7), .int p0]) σ (fun _ => (some (.int r))) σ9 := (xG_LR_all d).2.2.2.1 p0 σ r σ9 h
def xf_LR_readComparison (d : Nat) (p0 : Int32) (σ : rb_St) : Option (Int32 × rb_St) := (xG_LR d).2.2.2.2.1 p0 σ
theorem xc_LR_readComparison (d : Nat) (p0 : Int32) (σ : rb_St) (r : Int32) (σ9 : rb_St) (h : xf_LR_readComparison d p0 σ = some (r, σ9)) : rb_Con rb_vX yX6_readComparison cX6_readComparison 3 (some .boolean) (4 + d) (fun w => [.ref (rb_ad w 7), .int p0]) σ (fun _ => (some (.int r))) σ9 := (xG_LR_all d).2.2.2.2.1 p0 σ r σ9 h
def xf_LR_readSum (d : Nat) (p0 : Int32) (σ : rb_St) : Option (Int32 × rb_St) := (xG_LR d).2.2.2.2.2.1 p0 σ
theorem xc_LR_readSum (d : Nat) (p0 : Int32) (σ : rb_St) (r : Int32) (σ9 : rb_St) (h : xf_LR_readSum d p0 σ = some (r, σ9)) : rb_Con rb_vX yX6_readSum cX6_readSum 4 (some .boolean) (4 + d) (fun w => [.ref (rb_ad w 7), .int p0]) σ (fun _ => (some (.int r))) σ9 := (xG_LR_all d).2.2.2.2.2.1 p0 σ r σ9 h
def xf_LR_readTerm (d : Nat) (p0 : Int32) (σ : rb_St) : Option (Int32 × rb_St) := (xG_LR d).2.2.2.2.2.2.1 p0 σ
theorem xc_LR_readTerm (d : Nat) (p0 : Int32) (σ : rb_St) (r : Int32) (σ9 : rb_St) (h : xf_LR_readTerm d p0 σ = some (r, σ9)) : rb_Con rb_vX yX6_readTerm cX6_readTerm 4 (some .boolean) (4 + d) (fun w => [.ref (rb_ad w 7), .int p0]) σ (fun _ => (some (.int r))) σ9 := (xG_LR_all d).2.2.2.2.2.2.1 p0 σ r σ9 h
def xf_LR_readAtom (d : Nat) (p0 : Int32) (σ : rb_St) : Option (Int32 × rb_St) := (xG_LR d).2.2.2.2.2.2.2 p0 σ
theorem xc_LR_readAtom (d : Nat) (p0 : Int32) (σ : rb_St) (r : Int32) (σ9 : rb_St) (h : xf_LR_readAtom d p0 σ = some (r, σ9)) : rb_Con rb_vX yX6_readAtom cX6_readAtom 4 (some .boolean) (4 + d) (fun w => [.ref (rb_ad w 7), .int p0]) σ (fun _ => (some (.int r))) σ9 := (xG_LR_all d).2.2.2.2.2.2.2 p0 σ r σ9 h
