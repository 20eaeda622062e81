def xj_M_beat_24 (u0 : Int32) (σ : rb_St) : Option (Int32 × rb_St) := rb_b2 (xf_M_isRefused u0 σ) fun r5 s3 => if r5 = 0 then rb_b1 (xf_M_keep s3) fun s7 => rb_b2 (xf_M_passBeat 20 s7) fun r11 s9 => some (s9.1 17 216, s9) else some ((-1), s3)
set_option maxHeartbeats 4000000 in
set_option maxRecDepth 100000 in
theorem xu_M_beat_24 {z : rb_Z} {w : rb_Wd} (hC : rb_Cx z rb_vM w RX12 cX12_beat 1 (some .int) 9) (u0 : Int32) (σ : rb_St) (r : Int32) (σ9 : rb_St) (h : xj_M_beat_24 u0 σ = some (r, σ9)) : rb_At z rb_vM w 1 (rb_Q z rb_vM w (some (.int r)) σ9) 24 [(0, .ref (rb_ad w 0))] [.int u0, .ref (rb_ad w 0)] σ := by
  unfold xj_M_beat_24 at h
  obtain ⟨r5, s3, q4, h⟩ := rb_b2s h
  refine rb_callVi hC rb_VokM mv_X12_398 (xc_M_isRefused u0 σ _ _ q4) rb_obM0 rfl [.int u0] rfl rfl rfl ⟨Nat.le_of_ble_eq_true rfl, Nat.le_of_ble_eq_true rfl⟩ (Nat.le_of_ble_eq_true rfl) dX12_beat_24 ?_
  refine rb_if_eq hC 32 dX12_beat_27 (by decide) (fun c6 => ?_) (fun c6 => ?_)
  · replace h := rb_ifp c6 h
    refine rb_aload_n hC 0 dX12_beat_32 rfl ?_
    obtain ⟨s7, q8, h⟩ := rb_b1s h
    refine rb_callVv hC rb_VokM mv_X12_401 (xc_M_keep  s3 _ q8) rb_obM0 rfl [] rfl rfl rfl ⟨Nat.le_of_ble_eq_true rfl, Nat.le_of_ble_eq_true rfl⟩ (Nat.le_of_ble_eq_true rfl) dX12_beat_33 ?_
    refine rb_aload_n hC 0 dX12_beat_36 rfl ?_
    refine rb_bipush (x := 20) hC dX12_beat_37 (by decide) ?_
    obtain ⟨r11, s9, q10, h⟩ := rb_b2s h
    refine rb_callVi hC rb_VokM mv_X12_404 (xc_M_passBeat 20 s7 _ _ q10) rb_obM0 rfl [.int 20] rfl rfl rfl ⟨Nat.le_of_ble_eq_true rfl, Nat.le_of_ble_eq_true rfl⟩ (Nat.le_of_ble_eq_true rfl) dX12_beat_39 ?_
    refine rb_pop hC dX12_beat_42 rfl ?_
    refine rb_aload_n hC 0 dX12_beat_43 rfl ?_
    refine rb_getR hC fr_X12_58_11 rb_obM0 rfl dX12_beat_44 ?_
    refine rb_sipush (x := 216) hC dX12_beat_47 (by decide) ?_
    refine rb_iald hC rb_arM17 (rb_ibI (by decide)) dX12_beat_50 ?_
    cases h
    exact rb_iret hC dX12_beat_51
  · replace h := rb_ifn c6 h
    refine rb_iconst (x := (-1)) hC dX12_beat_30 (by decide) ?_
    cases h
    exact rb_iret hC dX12_beat_31
def xf_M_beat  (σ : rb_St) : Option (Int32 × rb_St) := if (σ.1 0 22) = 0 then xj_M_beat_24 0 σ else if (xf_M_isOver σ) = 0 then xj_M_beat_24 (-1) σ else xj_M_beat_24 4 σ
set_option maxHeartbeats 4000000 in
set_option maxRecDepth 100000 in
theorem xk_M_beat {z : rb_Z} {w : rb_Wd} (hC : rb_Cx z rb_vM w RX12 cX12_beat 1 (some .int) 9)  (σ : rb_St) (r : Int32) (σ9 : rb_St) (h : xf_M_beat σ = some (r, σ9)) : rb_At z rb_vM w 1 (rb_Q z rb_vM w (some (.int r)) σ9) 0 [(0, .ref (rb_ad w 0))] [] σ := by
  unfold xf_M_beat at h
  refine rb_aload_n hC 0 dX12_beat_0 rfl ?_
  refine rb_aload_n hC 0 dX12_beat_1 rfl ?_
  refine rb_getI hC fr_X12_283_11 rb_obM0 rfl dX12_beat_2 ?_
  refine rb_if_ne hC 12 dX12_beat_5 (by decide) (fun c1 => ?_) (fun c1 => ?_)
  · replace h := rb_ifn c1 h
    refine rb_aload_n hC 0 dX12_beat_12 rfl ?_
    refine rb_callVi hC rb_VokM mv_X12_394 (xc_M_isOver  σ _ rfl) rb_obM0 rfl [] rfl rfl rfl ⟨Nat.le_of_ble_eq_true rfl, Nat.le_of_ble_eq_true rfl⟩ (Nat.le_of_ble_eq_true rfl) dX12_beat_13 ?_
    refine rb_if_eq hC 23 dX12_beat_16 (by decide) (fun c2 => ?_) (fun c2 => ?_)
    · replace h := rb_ifp c2 h
      refine rb_iconst (x := (-1)) hC dX12_beat_23 (by decide) ?_
      exact rb_sub [0] rfl (xu_M_beat_24 hC (-1) σ _ _ h)
    · replace h := rb_ifn c2 h
      refine rb_iconst (x := 4) hC dX12_beat_19 (by decide) ?_
      refine rb_goto hC 24 dX12_beat_20 (by decide) ?_
      exact rb_sub [0] rfl (xu_M_beat_24 hC 4 σ _ _ h)
  · replace h := rb_ifp c1 h
    refine rb_iconst (x := 0) hC dX12_beat_8 (by decide) ?_
    refine rb_goto hC 24 dX12_beat_9 (by decide) ?_
    exact rb_sub [0] rfl (xu_M_beat_24 hC 0 σ _ _ h)
theorem xc_M_beat  (σ : rb_St) (r : Int32) (σ9 : rb_St) (h : xf_M_beat σ = some (r, σ9)) : rb_Con rb_vM yX12_beat cX12_beat 1 (some .int) 9 (fun w => [.ref (rb_ad w 0)]) σ (fun _ => (some (.int r))) σ9 := rb_Con.of (by decide +kernel) (fun _ => Nat.le_of_ble_eq_true rfl) (fun z w hC => xk_M_beat hC  σ r σ9 h)
theorem me_X12_isFigure : Cond.instanceMethod yX12_isFigure ∈ rb_tbl ∧ Cond.selects yX12_isFigure.cls yX12_isFigure yX12_isFigure ∈ rb_tbl ∧ Cond.initialized yX12_isFigure.cls ∈ rb_tbl ∧ Cond.code yX12_isFigure cX12_isFigure 2 (some .boolean) ∈ rb_tbl ∧ rb_pn yX12_isFigure 1 := ⟨rb_in (by decide +kernel) (by decide +kernel), rb_in (by decide +kernel) (by decide +kernel), rb_in (by decide +kernel) (by decide +kernel), rb_in (by decide +kernel) (by decide +kernel), by decide +kernel, by decide +kernel, by decide +kernel⟩
theorem mv_X12_407 : rb_MV RX12 407 yX12_isFigure cX12_isFigure 2 (some .boolean) 1 := ⟨rb_in (by decide +kernel) (by decide +kernel), me_X12_isFigure⟩
theorem me_X12_stepOf : Cond.instanceMethod yX12_stepOf ∈ rb_tbl ∧ Cond.selects yX12_stepOf.cls yX12_stepOf yX12_stepOf ∈ rb_tbl ∧ Cond.initialized yX12_stepOf.cls ∈ rb_tbl ∧ Cond.code yX12_stepOf cX12_stepOf 4 (some .int) ∈ rb_tbl ∧ rb_pn yX12_stepOf 2 := ⟨rb_in (by decide +kernel) (by decide +kernel), rb_in (by decide +kernel) (by decide +kernel), rb_in (by decide +kernel) (by decide +kernel), rb_in (by decide +kernel) (by decide +kernel), by decide +kernel, by decide +kernel, by decide +kernel⟩
theorem mv_X12_410 : rb_MV RX12 410 yX12_stepOf cX12_stepOf 4 (some .int) 2 := ⟨rb_in (by decide +kernel) (by decide +kernel), me_X12_stepOf⟩
theorem me_X12_canStep : Cond.instanceMethod yX12_canStep ∈ rb_tbl ∧ Cond.selects yX12_canStep.cls yX12_canStep yX12_canStep ∈ rb_tbl ∧ Cond.initialized yX12_canStep.cls ∈ rb_tbl ∧ Cond.code yX12_canStep cX12_canStep 2 (some .boolean) ∈ rb_tbl ∧ rb_pn yX12_canStep 1 := ⟨rb_in (by decide +kernel) (by decide +kernel), rb_in (by decide +kernel) (by decide +kernel), rb_in (by decide +kernel) (by decide +kernel), rb_in (by decide +kernel) (by decide +kernel), by decide +kernel, by decide +kernel, by decide +kernel⟩
theorem mv_X12_413 : rb_MV RX12 413 yX12_canStep cX12_canStep 2 (some .boolean) 1 := ⟨rb_in (by decide +kernel) (by decide +kernel), me_X12_canStep⟩
def xl_M_dance_35 (x1 : Int32) : Nat → Int32 → rb_St → Option (Int32 × rb_St)
  | 0, _, _ => none
  | n + 1, x2, σ => if rb_ib x1 7 then if (σ.1 16 x1.toNatClampNeg) ≤ x2 then some (x2, σ) else if (xf_M_isOver σ) = 0 then rb_b1 (xf_M_stepOf x1 x2 σ) fun r10 => rb_b2 (xf_M_canStep r10 σ) fun r14 s12 => if r14 = 0 then some (x2, s12) else rb_b1 (xf_M_keep s12) fun s16 => rb_b1 (xf_M_stepOf x1 x2 s16) fun r18 => rb_b2 (xf_M_passBeat r18 s16) fun r22 s20 => xl_M_dance_35 x1 n (x2 + 1) s20 else some (x2, σ) else none
set_option maxHeartbeats 4000000 in
set_option maxRecDepth 100000 in
theorem xt_M_dance_35 {z : rb_Z} {w : rb_Wd} {Q : State → Prop} (hC : rb_Cx z rb_vM w RX12 cX12_dance 3 (some .int) 9) (x1 : Int32) : ∀ (n : Nat) (x2 : Int32) (σ : rb_St) (y2 : Int32) (σ9 : rb_St), xl_M_dance_35 x1 n x2 σ = some (y2, σ9) → rb_At z rb_vM w 3 Q 86 [(2, .int y2)] [] σ9 → rb_At z rb_vM w 3 Q 35 [(0, .ref (rb_ad w 0)), (1, .int x1), (2, .int x2)] [] σ := by
  intro n
  induction n with
  | zero =>
    intro x2 σ y2 σ9 h hE0
    cases h
  | succ n ih =>
    intro x2 σ y2 σ9 h hE0
    rw [xl_M_dance_35] at h
    refine rb_iload_n hC 2 dX12_dance_35 rfl ?_
    refine rb_aload_n hC 0 dX12_dance_36 rfl ?_
    refine rb_getR hC fr_X12_55_11 rb_obM0 rfl dX12_dance_37 ?_
    refine rb_iload_n hC 1 dX12_dance_40 rfl ?_
    obtain ⟨g7, h⟩ := rb_gd h
    refine rb_iald hC rb_arM16 (rb_ibI g7) dX12_dance_41 ?_
    refine rb_icmp_ge hC 86 dX12_dance_42 (by decide) (fun c8 => ?_) (fun c8 => ?_)
    · replace h := rb_ifp c8 h
      cases h
      exact rb_sub [2] rfl (hE0)
    · replace h := rb_ifn c8 h
      refine rb_aload_n hC 0 dX12_dance_45 rfl ?_
      refine rb_callVi hC rb_VokM mv_X12_394 (xc_M_isOver  σ _ rfl) rb_obM0 rfl [] rfl rfl rfl ⟨Nat.le_of_ble_eq_true rfl, Nat.le_of_ble_eq_true rfl⟩ (Nat.le_of_ble_eq_true rfl) dX12_dance_46 ?_
      refine rb_if_ne hC 86 dX12_dance_49 (by decide) (fun c9 => ?_) (fun c9 => ?_)
      · replace h := rb_ifn c9 h
        cases h
        exact rb_sub [2] rfl (hE0)
      · replace h := rb_ifp c9 h
        refine rb_aload_n hC 0 dX12_dance_52 rfl ?_
        refine rb_aload_n hC 0 dX12_dance_53 rfl ?_
        refine rb_iload_n hC 1 dX12_dance_54 rfl ?_
        refine rb_iload_n hC 2 dX12_dance_55 rfl ?_
        obtain ⟨r10, q11, h⟩ := rb_b1s h
        refine rb_callVi hC rb_VokM mv_X12_410 (xc_M_stepOf x1 x2 σ _ q11) rb_obM0 rfl [.int x1, .int x2] rfl rfl rfl ⟨Nat.le_of_ble_eq_true rfl, Nat.le_of_ble_eq_true rfl⟩ (Nat.le_of_ble_eq_true rfl) dX12_dance_56 ?_
        obtain ⟨r14, s12, q13, h⟩ := rb_b2s h
        refine rb_callVi hC rb_VokM mv_X12_413 (xc_M_canStep r10 σ _ _ q13) rb_obM0 rfl [.int r10] rfl rfl rfl ⟨Nat.le_of_ble_eq_true rfl, Nat.le_of_ble_eq_true rfl⟩ (Nat.le_of_ble_eq_true rfl) dX12_dance_59 ?_
        refine rb_if_eq hC 86 dX12_dance_62 (by decide) (fun c15 => ?_) (fun c15 => ?_)
        · replace h := rb_ifp c15 h
          cases h
          exact rb_sub [2] rfl (hE0)
        · replace h := rb_ifn c15 h
          refine rb_aload_n hC 0 dX12_dance_65 rfl ?_
          obtain ⟨s16, q17, h⟩ := rb_b1s h
          refine rb_callVv hC rb_VokM mv_X12_401 (xc_M_keep  s12 _ q17) rb_obM0 rfl [] rfl rfl rfl ⟨Nat.le_of_ble_eq_true rfl, Nat.le_of_ble_eq_true rfl⟩ (Nat.le_of_ble_eq_true rfl) dX12_dance_66 ?_
          refine rb_aload_n hC 0 dX12_dance_69 rfl ?_
          refine rb_aload_n hC 0 dX12_dance_70 rfl ?_
          refine rb_iload_n hC 1 dX12_dance_71 rfl ?_
          refine rb_iload_n hC 2 dX12_dance_72 rfl ?_
          obtain ⟨r18, q19, h⟩ := rb_b1s h
          refine rb_callVi hC rb_VokM mv_X12_410 (xc_M_stepOf x1 x2 s16 _ q19) rb_obM0 rfl [.int x1, .int x2] rfl rfl rfl ⟨Nat.le_of_ble_eq_true rfl, Nat.le_of_ble_eq_true rfl⟩ (Nat.le_of_ble_eq_true rfl) dX12_dance_73 ?_
          obtain ⟨r22, s20, q21, h⟩ := rb_b2s h
          refine rb_callVi hC rb_VokM mv_X12_404 (xc_M_passBeat r18 s16 _ _ q21) rb_obM0 rfl [.int r18] rfl rfl rfl ⟨Nat.le_of_ble_eq_true rfl, Nat.le_of_ble_eq_true rfl⟩ (Nat.le_of_ble_eq_true rfl) dX12_dance_76 ?_
          refine rb_pop hC dX12_dance_79 rfl ?_
          refine rb_iinc hC 2 [(2, .int (x2 + 1)), (0, .ref (rb_ad w 0)), (1, .int x1)] dX12_dance_80 rfl rfl (by decide) rfl ?_
          refine rb_goto hC 35 dX12_dance_83 (by decide) ?_
          exact rb_sub [1, 2, 0] rfl (ih (x2 + 1) s20 _ _ h hE0)
def xf_M_dance (p0 : Int32) (σ : rb_St) : Option (Int32 × rb_St) := if (xf_M_isFigure p0 σ) = 0 then rb_b2 (xf_M_isRefused 0 σ) fun r35 s33 => if r35 = 0 then rb_b2 (xl_M_dance_35 p0 rb_FU 0 s33) fun y37 s38 => some (y37, s38) else some ((-1), s33) else if (xf_M_isOver σ) = 0 then rb_b2 (xf_M_isRefused (-1) σ) fun r5 s3 => if r5 = 0 then rb_b2 (xl_M_dance_35 p0 rb_FU 0 s3) fun y23 s24 => some (y23, s24) else some ((-1), s3) else rb_b2 (xf_M_isRefused 4 σ) fun r28 s26 => if r28 = 0 then rb_b2 (xl_M_dance_35 p0 rb_FU 0 s26) fun y30 s31 => some (y30, s31) else some ((-1), s26)
set_option maxHeartbeats 4000000 in
set_option maxRecDepth 100000 in
theorem xk_M_dance {z : rb_Z} {w : rb_Wd} (hC : rb_Cx z rb_vM w RX12 cX12_dance 3 (some .int) 9) (p0 : Int32) (σ : rb_St) (r : Int32) (σ9 : rb_St) (h : xf_M_dance p0 σ = some (r, σ9)) : rb_At z rb_vM w 3 (rb_Q z rb_vM w (some (.int r)) σ9) 0 [(0, .ref (rb_ad w 0)), (1, .int p0)] [] σ := by
  unfold xf_M_dance at h
  refine rb_aload_n hC 0 dX12_dance_0 rfl ?_
  refine rb_aload_n hC 0 dX12_dance_1 rfl ?_
  refine rb_iload_n hC 1 dX12_dance_2 rfl ?_
  refine rb_callVi hC rb_VokM mv_X12_407 (xc_M_isFigure p0 σ _ rfl) rb_obM0 rfl [.int p0] rfl rfl rfl ⟨Nat.le_of_ble_eq_true rfl, Nat.le_of_ble_eq_true rfl⟩ (Nat.le_of_ble_eq_true rfl) dX12_dance_3 ?_
  refine rb_if_ne hC 13 dX12_dance_6 (by decide) (fun c1 => ?_) (fun c1 => ?_)
  · replace h := rb_ifn c1 h
    refine rb_aload_n hC 0 dX12_dance_13 rfl ?_
    refine rb_callVi hC rb_VokM mv_X12_394 (xc_M_isOver  σ _ rfl) rb_obM0 rfl [] rfl rfl rfl ⟨Nat.le_of_ble_eq_true rfl, Nat.le_of_ble_eq_true rfl⟩ (Nat.le_of_ble_eq_true rfl) dX12_dance_14 ?_
    refine rb_if_eq hC 24 dX12_dance_17 (by decide) (fun c2 => ?_) (fun c2 => ?_)
    · replace h := rb_ifp c2 h
      refine rb_iconst (x := (-1)) hC dX12_dance_24 (by decide) ?_
      obtain ⟨r5, s3, q4, h⟩ := rb_b2s h
      refine rb_callVi hC rb_VokM mv_X12_398 (xc_M_isRefused (-1) σ _ _ q4) rb_obM0 rfl [.int (-1)] rfl rfl rfl ⟨Nat.le_of_ble_eq_true rfl, Nat.le_of_ble_eq_true rfl⟩ (Nat.le_of_ble_eq_true rfl) dX12_dance_25 ?_
      refine rb_if_eq hC 33 dX12_dance_28 (by decide) (fun c6 => ?_) (fun c6 => ?_)
      · replace h := rb_ifp c6 h
        refine rb_iconst (x := 0) hC dX12_dance_33 (by decide) ?_
        refine rb_istore_n hC [(2, .int 0), (0, .ref (rb_ad w 0)), (1, .int p0)] dX12_dance_34 (by decide) rfl ?_
        obtain ⟨y23, s24, q25, h⟩ := rb_b2s h
        refine rb_sub (lv2 := [(0, .ref (rb_ad w 0)), (1, .int p0), (2, .int 0)]) [1, 2, 0] rfl ?_
        refine xt_M_dance_35 hC p0 rb_FU 0 s3 _ _ q25 ?_
        refine rb_iload_n hC 0 dX12_dance_86 rfl ?_
        cases h
        exact rb_iret hC dX12_dance_87
      · replace h := rb_ifn c6 h
        refine rb_iconst (x := (-1)) hC dX12_dance_31 (by decide) ?_
        cases h
        exact rb_iret hC dX12_dance_32
    · replace h := rb_ifn c2 h
      refine rb_iconst (x := 4) hC dX12_dance_20 (by decide) ?_
      refine rb_goto hC 25 dX12_dance_21 (by decide) ?_
      obtain ⟨r28, s26, q27, h⟩ := rb_b2s h
      refine rb_callVi hC rb_VokM mv_X12_398 (xc_M_isRefused 4 σ _ _ q27) rb_obM0 rfl [.int 4] rfl rfl rfl ⟨Nat.le_of_ble_eq_true rfl, Nat.le_of_ble_eq_true rfl⟩ (Nat.le_of_ble_eq_true rfl) dX12_dance_25 ?_
      refine rb_if_eq hC 33 dX12_dance_28 (by decide) (fun c29 => ?_) (fun c29 => ?_)
      · replace h := rb_ifp c29 h
        refine rb_iconst (x := 0) hC dX12_dance_33 (by decide) ?_
        refine rb_istore_n hC [(2, .int 0), (0, .ref (rb_ad w 0)), (1, .int p0)] dX12_dance_34 (by decide) rfl ?_
        obtain ⟨y30, s31, q32, h⟩ := rb_b2s h
        refine rb_sub (lv2 := [(0, .ref (rb_ad w 0)), (1, .int p0), (2, .int 0)]) [1, 2, 0] rfl ?_
        refine xt_M_dance_35 hC p0 rb_FU 0 s26 _ _ q32 ?_
        refine rb_iload_n hC 0 dX12_dance_86 rfl ?_
        cases h
        exact rb_iret hC dX12_dance_87
      · replace h := rb_ifn c29 h
        refine rb_iconst (x := (-1)) hC dX12_dance_31 (by decide) ?_
        cases h
        exact rb_iret hC dX12_dance_32
  · replace h := rb_ifp c1 h
    refine rb_iconst (x := 0) hC dX12_dance_9 (by decide) ?_
    refine rb_goto hC 25 dX12_dance_10 (by decide) ?_
    obtain ⟨r35, s33, q34, h⟩ := rb_b2s h
    refine rb_callVi hC rb_VokM mv_X12_398 (xc_M_isRefused 0 σ _ _ q34) rb_obM0 rfl [.int 0] rfl rfl rfl ⟨Nat.le_of_ble_eq_true rfl, Nat.le_of_ble_eq_true rfl⟩ (Nat.le_of_ble_eq_true rfl) dX12_dance_25 ?_
    refine rb_if_eq hC 33 dX12_dance_28 (by decide) (fun c36 => ?_) (fun c36 => ?_)
    · replace h := rb_ifp c36 h
      refine rb_iconst (x := 0) hC dX12_dance_33 (by decide) ?_
      refine rb_istore_n hC [(2, .int 0), (0, .ref (rb_ad w 0)), (1, .int p0)] dX12_dance_34 (by decide) rfl ?_
      obtain ⟨y37, s38, q39, h⟩ := rb_b2s h
      refine rb_sub (lv2 := [(0, .ref (rb_ad w 0)), (1, .int p0), (2, .int 0)]) [1, 2, 0] rfl ?_
      refine xt_M_dance_35 hC p0 rb_FU 0 s33 _ _ q39 ?_
      refine rb_iload_n hC 0 dX12_dance_86 rfl ?_
      cases h
      exact rb_iret hC dX12_dance_87
    · replace h := rb_ifn c36 h
      refine rb_iconst (x := (-1)) hC dX12_dance_31 (by decide) ?_
      cases h
      exact rb_iret hC dX12_dance_32
theorem xc_M_dance (p0 : Int32) (σ : rb_St) (r : Int32) (σ9 : rb_St) (h : xf_M_dance p0 σ = some (r, σ9)) : rb_Con rb_vM yX12_dance cX12_dance 3 (some .int) 9 (fun w => [.ref (rb_ad w 0), .int p0]) σ (fun _ => (some (.int r))) σ9 := rb_Con.of (by decide +kernel) (fun _ => Nat.le_of_ble_eq_true rfl) (fun z w hC => xk_M_dance hC p0 σ r σ9 h)
theorem me_X12_letterDown : Cond.instanceMethod yX12_letterDown ∈ rb_tbl ∧ Cond.selects yX12_letterDown.cls yX12_letterDown yX12_letterDown ∈ rb_tbl ∧ Cond.initialized yX12_letterDown.cls ∈ rb_tbl ∧ Cond.code yX12_letterDown cX12_letterDown 2 (some .int) ∈ rb_tbl ∧ rb_pn yX12_letterDown 0 := ⟨rb_in (by decide +kernel) (by decide +kernel), rb_in (by decide +kernel) (by decide +kernel), rb_in (by decide +kernel) (by decide +kernel), rb_in (by decide +kernel) (by decide +kernel), by decide +kernel, by decide +kernel, by decide +kernel⟩
theorem mv_X12_416 : rb_MV RX12 416 yX12_letterDown cX12_letterDown 2 (some .int) 0 := ⟨rb_in (by decide +kernel) (by decide +kernel), me_X12_letterDown⟩
def xl_M_down_62 (x1 : Int32) : Nat → Int32 → rb_St → Option (Int32 × rb_St)
  | 0, _, _ => none
  | n + 1, x2, σ => if x1 ≤ x2 then some (x2, σ) else if (xf_M_isOver σ) = 0 then if (σ.1 17 14) ≤ 0 then some (x2, σ) else rb_b1 (xf_M_keep σ) fun s12 => rb_b1 (xf_M_letterDown s12) fun r14 => rb_b2 (xf_M_passBeat r14 s12) fun r18 s16 => xl_M_down_62 x1 n (x2 + 1) s16 else some (x2, σ)
set_option maxHeartbeats 4000000 in
set_option maxRecDepth 100000 in
theorem xt_M_down_62 {z : rb_Z} {w : rb_Wd} {Q : State → Prop} (hC : rb_Cx z rb_vM w RX12 cX12_down 3 (some .int) 9) (x1 : Int32) : ∀ (n : Nat) (x2 : Int32) (σ : rb_St) (y2 : Int32) (σ9 : rb_St), xl_M_down_62 x1 n x2 σ = some (y2, σ9) → rb_At z rb_vM w 3 Q 103 [(2, .int y2)] [] σ9 → rb_At z rb_vM w 3 Q 62 [(0, .ref (rb_ad w 0)), (1, .int x1), (2, .int x2)] [] σ := by
  intro n
  induction n with
  | zero =>
    intro x2 σ y2 σ9 h hE0
    cases h
  | succ n ih =>
    intro x2 σ y2 σ9 h hE0
    rw [xl_M_down_62] at h
    refine rb_iload_n hC 2 dX12_down_62 rfl ?_
    refine rb_iload_n hC 1 dX12_down_63 rfl ?_
    refine rb_icmp_ge hC 103 dX12_down_64 (by decide) (fun c9 => ?_) (fun c9 => ?_)
    · replace h := rb_ifp c9 h
      cases h
      exact rb_sub [2] rfl (hE0)
    · replace h := rb_ifn c9 h
      refine rb_aload_n hC 0 dX12_down_67 rfl ?_
      refine rb_callVi hC rb_VokM mv_X12_394 (xc_M_isOver  σ _ rfl) rb_obM0 rfl [] rfl rfl rfl ⟨Nat.le_of_ble_eq_true rfl, Nat.le_of_ble_eq_true rfl⟩ (Nat.le_of_ble_eq_true rfl) dX12_down_68 ?_
      refine rb_if_ne hC 103 dX12_down_71 (by decide) (fun c10 => ?_) (fun c10 => ?_)
      · replace h := rb_ifn c10 h
        cases h
        exact rb_sub [2] rfl (hE0)
      · replace h := rb_ifp c10 h
        refine rb_aload_n hC 0 dX12_down_74 rfl ?_
        refine rb_getR hC fr_X12_58_11 rb_obM0 rfl dX12_down_75 ?_
        refine rb_bipush (x := 14) hC dX12_down_78 (by decide) ?_
        refine rb_iald hC rb_arM17 (rb_ibI (by decide)) dX12_down_80 ?_
        refine rb_if_le hC 103 dX12_down_81 (by decide) (fun c11 => ?_) (fun c11 => ?_)
        · replace h := rb_ifp c11 h
          cases h
          exact rb_sub [2] rfl (hE0)
        · replace h := rb_ifn c11 h
          refine rb_aload_n hC 0 dX12_down_84 rfl ?_
          obtain ⟨s12, q13, h⟩ := rb_b1s h
          refine rb_callVv hC rb_VokM mv_X12_401 (xc_M_keep  σ _ q13) rb_obM0 rfl [] rfl rfl rfl ⟨Nat.le_of_ble_eq_true rfl, Nat.le_of_ble_eq_true rfl⟩ (Nat.le_of_ble_eq_true rfl) dX12_down_85 ?_
          refine rb_aload_n hC 0 dX12_down_88 rfl ?_
          refine rb_aload_n hC 0 dX12_down_89 rfl ?_
          obtain ⟨r14, q15, h⟩ := rb_b1s h
          refine rb_callVi hC rb_VokM mv_X12_416 (xc_M_letterDown  s12 _ q15) rb_obM0 rfl [] rfl rfl rfl ⟨Nat.le_of_ble_eq_true rfl, Nat.le_of_ble_eq_true rfl⟩ (Nat.le_of_ble_eq_true rfl) dX12_down_90 ?_
          obtain ⟨r18, s16, q17, h⟩ := rb_b2s h
          refine rb_callVi hC rb_VokM mv_X12_404 (xc_M_passBeat r14 s12 _ _ q17) rb_obM0 rfl [.int r14] rfl rfl rfl ⟨Nat.le_of_ble_eq_true rfl, Nat.le_of_ble_eq_true rfl⟩ (Nat.le_of_ble_eq_true rfl) dX12_down_93 ?_
          refine rb_pop hC dX12_down_96 rfl ?_
          refine rb_iinc hC 2 [(2, .int (x2 + 1)), (0, .ref (rb_ad w 0)), (1, .int x1)] dX12_down_97 rfl rfl (by decide) rfl ?_
          refine rb_goto hC 62 dX12_down_100 (by decide) ?_
          exact rb_sub [1, 2, 0] rfl (ih (x2 + 1) s16 _ _ h hE0)
def xf_M_down (p0 : Int32) (σ : rb_St) : Option (Int32 × rb_St) := if (σ.1 0 22) = 0 then rb_b2 (xf_M_isRefused 0 σ) fun r45 s43 => if r45 = 0 then rb_b2 (xl_M_down_62 p0 rb_FU 0 s43) fun y47 s48 => some (y47, s48) else some ((-1), s43) else if (xf_M_in p0 1 9 σ) = 0 then rb_b2 (xf_M_isRefused 1 σ) fun r38 s36 => if r38 = 0 then rb_b2 (xl_M_down_62 p0 rb_FU 0 s36) fun y40 s41 => some (y40, s41) else some ((-1), s36) else if (σ.1 17 14) = 0 then rb_b2 (xf_M_isRefused 2 σ) fun r31 s29 => if r31 = 0 then rb_b2 (xl_M_down_62 p0 rb_FU 0 s29) fun y33 s34 => some (y33, s34) else some ((-1), s29) else if (xf_M_isOver σ) = 0 then rb_b2 (xf_M_isRefused (-1) σ) fun r7 s5 => if r7 = 0 then rb_b2 (xl_M_down_62 p0 rb_FU 0 s5) fun y19 s20 => some (y19, s20) else some ((-1), s5) else rb_b2 (xf_M_isRefused 4 σ) fun r24 s22 => if r24 = 0 then rb_b2 (xl_M_down_62 p0 rb_FU 0 s22) fun y26 s27 => some (y26, s27) else some ((-1), s22)
set_option maxHeartbeats 4000000 in
set_option maxRecDepth 100000 in
theorem xk_M_down {z : rb_Z} {w : rb_Wd} (hC : rb_Cx z rb_vM w RX12 cX12_down 3 (some .int) 9) (p0 : Int32) (σ : rb_St) (r : Int32) (σ9 : rb_St) (h : xf_M_down p0 σ = some (r, σ9)) : rb_At z rb_vM w 3 (rb_Q z rb_vM w (some (.int r)) σ9) 0 [(0, .ref (rb_ad w 0)), (1, .int p0)] [] σ := by
  unfold xf_M_down at h
  refine rb_aload_n hC 0 dX12_down_0 rfl ?_
  refine rb_aload_n hC 0 dX12_down_1 rfl ?_
  refine rb_getI hC fr_X12_283_11 rb_obM0 rfl dX12_down_2 ?_
  refine rb_if_ne hC 12 dX12_down_5 (by decide) (fun c1 => ?_) (fun c1 => ?_)
  · replace h := rb_ifn c1 h
    refine rb_iload_n hC 1 dX12_down_12 rfl ?_
    refine rb_iconst (x := 1) hC dX12_down_13 (by decide) ?_
    refine rb_bipush (x := 9) hC dX12_down_14 (by decide) ?_
    refine rb_callSi hC rb_VokM mv_X12_229 (xc_M_in p0 1 9 σ _ rfl) [.int p0, .int 1, .int 9] rfl rfl rfl ⟨Nat.le_of_ble_eq_true rfl, Nat.le_of_ble_eq_true rfl⟩ (Nat.le_of_ble_eq_true rfl) dX12_down_16 ?_
    refine rb_if_ne hC 26 dX12_down_19 (by decide) (fun c2 => ?_) (fun c2 => ?_)
    · replace h := rb_ifn c2 h
      refine rb_aload_n hC 0 dX12_down_26 rfl ?_
      refine rb_getR hC fr_X12_58_11 rb_obM0 rfl dX12_down_27 ?_
      refine rb_bipush (x := 14) hC dX12_down_30 (by decide) ?_
      refine rb_iald hC rb_arM17 (rb_ibI (by decide)) dX12_down_32 ?_
      refine rb_if_ne hC 40 dX12_down_33 (by decide) (fun c3 => ?_) (fun c3 => ?_)
      · replace h := rb_ifn c3 h
        refine rb_aload_n hC 0 dX12_down_40 rfl ?_
        refine rb_callVi hC rb_VokM mv_X12_394 (xc_M_isOver  σ _ rfl) rb_obM0 rfl [] rfl rfl rfl ⟨Nat.le_of_ble_eq_true rfl, Nat.le_of_ble_eq_true rfl⟩ (Nat.le_of_ble_eq_true rfl) dX12_down_41 ?_
        refine rb_if_eq hC 51 dX12_down_44 (by decide) (fun c4 => ?_) (fun c4 => ?_)
        · replace h := rb_ifp c4 h
          refine rb_iconst (x := (-1)) hC dX12_down_51 (by decide) ?_
          obtain ⟨r7, s5, q6, h⟩ := rb_b2s h
          refine rb_callVi hC rb_VokM mv_X12_398 (xc_M_isRefused (-1) σ _ _ q6) rb_obM0 rfl [.int (-1)] rfl rfl rfl ⟨Nat.le_of_ble_eq_true rfl, Nat.le_of_ble_eq_true rfl⟩ (Nat.le_of_ble_eq_true rfl) dX12_down_52 ?_
          refine rb_if_eq hC 60 dX12_down_55 (by decide) (fun c8 => ?_) (fun c8 => ?_)
          · replace h := rb_ifp c8 h
            refine rb_iconst (x := 0) hC dX12_down_60 (by decide) ?_
            refine rb_istore_n hC [(2, .int 0), (0, .ref (rb_ad w 0)), (1, .int p0)] dX12_down_61 (by decide) rfl ?_
            obtain ⟨y19, s20, q21, h⟩ := rb_b2s h
            refine rb_sub (lv2 := [(0, .ref (rb_ad w 0)), (1, .int p0), (2, .int 0)]) [1, 2, 0] rfl ?_
            refine xt_M_down_62 hC p0 rb_FU 0 s5 _ _ q21 ?_
            refine rb_iload_n hC 0 dX12_down_103 rfl ?_
            cases h
            exact rb_iret hC dX12_down_104
          · replace h := rb_ifn c8 h
            refine rb_iconst (x := (-1)) hC dX12_down_58 (by decide) ?_
            cases h
            exact rb_iret hC dX12_down_59
        · replace h := rb_ifn c4 h
          refine rb_iconst (x := 4) hC dX12_down_47 (by decide) ?_
          refine rb_goto hC 52 dX12_down_48 (by decide) ?_
          obtain ⟨r24, s22, q23, h⟩ := rb_b2s h
          refine rb_callVi hC rb_VokM mv_X12_398 (xc_M_isRefused 4 σ _ _ q23) rb_obM0 rfl [.int 4] rfl rfl rfl ⟨Nat.le_of_ble_eq_true rfl, Nat.le_of_ble_eq_true rfl⟩ (Nat.le_of_ble_eq_true rfl) dX12_down_52 ?_
          refine rb_if_eq hC 60 dX12_down_55 (by decide) (fun c25 => ?_) (fun c25 => ?_)
          · replace h := rb_ifp c25 h
            refine rb_iconst (x := 0) hC dX12_down_60 (by decide) ?_
            refine rb_istore_n hC [(2, .int 0), (0, .ref (rb_ad w 0)), (1, .int p0)] dX12_down_61 (by decide) rfl ?_
            obtain ⟨y26, s27, q28, h⟩ := rb_b2s h
            refine rb_sub (lv2 := [(0, .ref (rb_ad w 0)), (1, .int p0), (2, .int 0)]) [1, 2, 0] rfl ?_
            refine xt_M_down_62 hC p0 rb_FU 0 s22 _ _ q28 ?_
            refine rb_iload_n hC 0 dX12_down_103 rfl ?_
            cases h
            exact rb_iret hC dX12_down_104
          · replace h := rb_ifn c25 h
            refine rb_iconst (x := (-1)) hC dX12_down_58 (by decide) ?_
            cases h
            exact rb_iret hC dX12_down_59
      · replace h := rb_ifp c3 h
        refine rb_iconst (x := 2) hC dX12_down_36 (by decide) ?_
        refine rb_goto hC 52 dX12_down_37 (by decide) ?_
        obtain ⟨r31, s29, q30, h⟩ := rb_b2s h
        refine rb_callVi hC rb_VokM mv_X12_398 (xc_M_isRefused 2 σ _ _ q30) rb_obM0 rfl [.int 2] rfl rfl rfl ⟨Nat.le_of_ble_eq_true rfl, Nat.le_of_ble_eq_true rfl⟩ (Nat.le_of_ble_eq_true rfl) dX12_down_52 ?_
        refine rb_if_eq hC 60 dX12_down_55 (by decide) (fun c32 => ?_) (fun c32 => ?_)
        · replace h := rb_ifp c32 h
          refine rb_iconst (x := 0) hC dX12_down_60 (by decide) ?_
          refine rb_istore_n hC [(2, .int 0), (0, .ref (rb_ad w 0)), (1, .int p0)] dX12_down_61 (by decide) rfl ?_
          obtain ⟨y33, s34, q35, h⟩ := rb_b2s h
          refine rb_sub (lv2 := [(0, .ref (rb_ad w 0)), (1, .int p0), (2, .int 0)]) [1, 2, 0] rfl ?_
          refine xt_M_down_62 hC p0 rb_FU 0 s29 _ _ q35 ?_
          refine rb_iload_n hC 0 dX12_down_103 rfl ?_
          cases h
          exact rb_iret hC dX12_down_104
        · replace h := rb_ifn c32 h
          refine rb_iconst (x := (-1)) hC dX12_down_58 (by decide) ?_
          cases h
          exact rb_iret hC dX12_down_59
    · replace h := rb_ifp c2 h
      refine rb_iconst (x := 1) hC dX12_down_22 (by decide) ?_
      refine rb_goto hC 52 dX12_down_23 (by decide) ?_
      obtain ⟨r38, s36, q37, h⟩ := rb_b2s h
      refine rb_callVi hC rb_VokM mv_X12_398 (xc_M_isRefused 1 σ _ _ q37) rb_obM0 rfl [.int 1] rfl rfl rfl ⟨Nat.le_of_ble_eq_true rfl, Nat.le_of_ble_eq_true rfl⟩ (Nat.le_of_ble_eq_true rfl) dX12_down_52 ?_
      refine rb_if_eq hC 60 dX12_down_55 (by decide) (fun c39 => ?_) (fun c39 => ?_)
      · replace h := rb_ifp c39 h
        refine rb_iconst (x := 0) hC dX12_down_60 (by decide) ?_
        refine rb_istore_n hC [(2, .int 0), (0, .ref (rb_ad w 0)), (1, .int p0)] dX12_down_61 (by decide) rfl ?_
        obtain ⟨y40, s41, q42, h⟩ := rb_b2s h
        refine rb_sub (lv2 := [(0, .ref (rb_ad w 0)), (1, .int p0), (2, .int 0)]) [1, 2, 0] rfl ?_
        refine xt_M_down_62 hC p0 rb_FU 0 s36 _ _ q42 ?_
        refine rb_iload_n hC 0 dX12_down_103 rfl ?_
        cases h
        exact rb_iret hC dX12_down_104
      · replace h := rb_ifn c39 h
        refine rb_iconst (x := (-1)) hC dX12_down_58 (by decide) ?_
        cases h
        exact rb_iret hC dX12_down_59
  · replace h := rb_ifp c1 h
    refine rb_iconst (x := 0) hC dX12_down_8 (by decide) ?_
    refine rb_goto hC 52 dX12_down_9 (by decide) ?_
    obtain ⟨r45, s43, q44, h⟩ := rb_b2s h
    refine rb_callVi hC rb_VokM mv_X12_398 (xc_M_isRefused 0 σ _ _ q44) rb_obM0 rfl [.int 0] rfl rfl rfl ⟨Nat.le_of_ble_eq_true rfl, Nat.le_of_ble_eq_true rfl⟩ (Nat.le_of_ble_eq_true rfl) dX12_down_52 ?_
    refine rb_if_eq hC 60 dX12_down_55 (by decide) (fun c46 => ?_) (fun c46 => ?_)
    · replace h := rb_ifp c46 h
      refine rb_iconst (x := 0) hC dX12_down_60 (by decide) ?_
      refine rb_istore_n hC [(2, .int 0), (0, .ref (rb_ad w 0)), (1, .int p0)] dX12_down_61 (by decide) rfl ?_
      obtain ⟨y47, s48, q49, h⟩ := rb_b2s h
      refine rb_sub (lv2 := [(0, .ref (rb_ad w 0)), (1, .int p0), (2, .int 0)]) [1, 2, 0] rfl ?_
      refine xt_M_down_62 hC p0 rb_FU 0 s43 _ _ q49 ?_
      refine rb_iload_n hC 0 dX12_down_103 rfl ?_
      cases h
      exact rb_iret hC dX12_down_104
    · replace h := rb_ifn c46 h
      refine rb_iconst (x := (-1)) hC dX12_down_58 (by decide) ?_
      cases h
      exact rb_iret hC dX12_down_59
theorem xc_M_down (p0 : Int32) (σ : rb_St) (r : Int32) (σ9 : rb_St) (h : xf_M_down p0 σ = some (r, σ9)) : rb_Con rb_vM yX12_down cX12_down 3 (some .int) 9 (fun w => [.ref (rb_ad w 0), .int p0]) σ (fun _ => (some (.int r))) σ9 := rb_Con.of (by decide +kernel) (fun _ => Nat.le_of_ble_eq_true rfl) (fun z w hC => xk_M_down hC p0 σ r σ9 h)
def xj_M_longer_60 (x1 : Int32) (x2 : Int32) (u0 : Int32) (σ : rb_St) : Option (Int32 × rb_St) := rb_b2 (xf_M_isRefused u0 σ) fun r8 s6 => if r8 = 0 then rb_b1 (xf_M_keep s6) fun s10 => rb_lt (rb_sI s10 17 215 ((s10.1 17 215) - x2)) (fun s12 => if rb_ib (7 + x1) 398 then rb_lt (rb_sI s12 17 (7 + x1).toNatClampNeg ((s12.1 17 (7 + x1).toNatClampNeg) + x2)) (fun s15 => some (s15.1 17 (7 + x1).toNatClampNeg, s15)) else none) else some ((-1), s6)
set_option maxHeartbeats 4000000 in
set_option maxRecDepth 100000 in
theorem xu_M_longer_60 {z : rb_Z} {w : rb_Wd} (hC : rb_Cx z rb_vM w RX12 cX12_longer 3 (some .int) 2) (x1 : Int32) (x2 : Int32) (u0 : Int32) (σ : rb_St) (r : Int32) (σ9 : rb_St) (h : xj_M_longer_60 x1 x2 u0 σ = some (r, σ9)) : rb_At z rb_vM w 3 (rb_Q z rb_vM w (some (.int r)) σ9) 60 [(0, .ref (rb_ad w 0)), (1, .int x1), (2, .int x2)] [.int u0, .ref (rb_ad w 0)] σ := by
  unfold xj_M_longer_60 at h
  obtain ⟨r8, s6, q7, h⟩ := rb_b2s h
  refine rb_callVi hC rb_VokM mv_X12_398 (xc_M_isRefused u0 σ _ _ q7) rb_obM0 rfl [.int u0] rfl rfl rfl ⟨Nat.le_of_ble_eq_true rfl, Nat.le_of_ble_eq_true rfl⟩ (Nat.le_of_ble_eq_true rfl) dX12_longer_60 ?_
  refine rb_if_eq hC 68 dX12_longer_63 (by decide) (fun c9 => ?_) (fun c9 => ?_)
  · replace h := rb_ifp c9 h
    refine rb_aload_n hC 0 dX12_longer_68 rfl ?_
    obtain ⟨s10, q11, h⟩ := rb_b1s h
    refine rb_callVv hC rb_VokM mv_X12_401 (xc_M_keep  s6 _ q11) rb_obM0 rfl [] rfl rfl rfl ⟨Nat.le_of_ble_eq_true rfl, Nat.le_of_ble_eq_true rfl⟩ (Nat.le_of_ble_eq_true rfl) dX12_longer_69 ?_
    refine rb_aload_n hC 0 dX12_longer_72 rfl ?_
    refine rb_getR hC fr_X12_58_11 rb_obM0 rfl dX12_longer_73 ?_
    refine rb_sipush (x := 215) hC dX12_longer_76 (by decide) ?_
    refine rb_dup2_11 hC dX12_longer_79 rfl rfl ?_
    refine rb_iald hC rb_arM17 (rb_ibI (by decide)) dX12_longer_80 ?_
    refine rb_iload_n hC 2 dX12_longer_81 rfl ?_
    refine rb_isub hC dX12_longer_82 ?_
    refine rb_iast hC rb_arM17 (rb_ibI (by decide)) dX12_longer_83 ?_
    obtain ⟨s12, e13, h⟩ := rb_ltE h
    refine rb_nmS e13 ?_
    refine rb_aload_n hC 0 dX12_longer_84 rfl ?_
    refine rb_getR hC fr_X12_58_11 rb_obM0 rfl dX12_longer_85 ?_
    refine rb_bipush (x := 7) hC dX12_longer_88 (by decide) ?_
    refine rb_iload_n hC 1 dX12_longer_90 rfl ?_
    refine rb_iadd hC dX12_longer_91 ?_
    refine rb_dup2_11 hC dX12_longer_92 rfl rfl ?_
    obtain ⟨g14, h⟩ := rb_gd h
    refine rb_iald hC rb_arM17 (rb_ibI g14) dX12_longer_93 ?_
    refine rb_iload_n hC 2 dX12_longer_94 rfl ?_
    refine rb_iadd hC dX12_longer_95 ?_
    refine rb_iast hC rb_arM17 (rb_ibI g14) dX12_longer_96 ?_
    obtain ⟨s15, e16, h⟩ := rb_ltE h
    refine rb_nmS e16 ?_
    refine rb_aload_n hC 0 dX12_longer_97 rfl ?_
    refine rb_getR hC fr_X12_58_11 rb_obM0 rfl dX12_longer_98 ?_
    refine rb_bipush (x := 7) hC dX12_longer_101 (by decide) ?_
    refine rb_iload_n hC 1 dX12_longer_103 rfl ?_
    refine rb_iadd hC dX12_longer_104 ?_
    refine rb_iald hC rb_arM17 (rb_ibI g14) dX12_longer_105 ?_
    cases h
    exact rb_iret hC dX12_longer_106
  · replace h := rb_ifn c9 h
    refine rb_iconst (x := (-1)) hC dX12_longer_66 (by decide) ?_
    cases h
    exact rb_iret hC dX12_longer_67
def xf_M_longer (p0 : Int32) (p1 : Int32) (σ : rb_St) : Option (Int32 × rb_St) := rb_b1 (xf_M_isDancer p0 σ) fun r1 => if r1 = 0 then xj_M_longer_60 p0 p1 0 σ else if (xf_M_in p1 1 20 σ) = 0 then xj_M_longer_60 p0 p1 1 σ else if (σ.1 17 215) < p1 then xj_M_longer_60 p0 p1 3 σ else if rb_ib (7 + p0) 398 then if ((σ.1 17 (7 + p0).toNatClampNeg) + p1) ≤ 99 then xj_M_longer_60 p0 p1 (-1) σ else xj_M_longer_60 p0 p1 3 σ else none
set_option maxHeartbeats 4000000 in
set_option maxRecDepth 100000 in
theorem xk_M_longer {z : rb_Z} {w : rb_Wd} (hC : rb_Cx z rb_vM w RX12 cX12_longer 3 (some .int) 2) (p0 : Int32) (p1 : Int32) (σ : rb_St) (r : Int32) (σ9 : rb_St) (h : xf_M_longer p0 p1 σ = some (r, σ9)) : rb_At z rb_vM w 3 (rb_Q z rb_vM w (some (.int r)) σ9) 0 [(0, .ref (rb_ad w 0)), (1, .int p0), (2, .int p1)] [] σ := by
  unfold xf_M_longer at h
  refine rb_aload_n hC 0 dX12_longer_0 rfl ?_
  refine rb_aload_n hC 0 dX12_longer_1 rfl ?_
  refine rb_iload_n hC 1 dX12_longer_2 rfl ?_
  obtain ⟨r1, q2, h⟩ := rb_b1s h
  refine rb_callVi hC rb_VokM mv_X12_373 (xc_M_isDancer p0 σ _ q2) rb_obM0 rfl [.int p0] rfl rfl rfl ⟨Nat.le_of_ble_eq_true rfl, Nat.le_of_ble_eq_true rfl⟩ (Nat.le_of_ble_eq_true rfl) dX12_longer_3 ?_
  refine rb_if_ne hC 13 dX12_longer_6 (by decide) (fun c3 => ?_) (fun c3 => ?_)
  · replace h := rb_ifn c3 h
    refine rb_iload_n hC 2 dX12_longer_13 rfl ?_
    refine rb_iconst (x := 1) hC dX12_longer_14 (by decide) ?_
    refine rb_bipush (x := 20) hC dX12_longer_15 (by decide) ?_
    refine rb_callSi hC rb_VokM mv_X12_229 (xc_M_in p1 1 20 σ _ rfl) [.int p1, .int 1, .int 20] rfl rfl rfl ⟨Nat.le_of_ble_eq_true rfl, Nat.le_of_ble_eq_true rfl⟩ (Nat.le_of_ble_eq_true rfl) dX12_longer_17 ?_
    refine rb_if_ne hC 27 dX12_longer_20 (by decide) (fun c4 => ?_) (fun c4 => ?_)
    · replace h := rb_ifn c4 h
      refine rb_aload_n hC 0 dX12_longer_27 rfl ?_
      refine rb_getR hC fr_X12_58_11 rb_obM0 rfl dX12_longer_28 ?_
      refine rb_sipush (x := 215) hC dX12_longer_31 (by decide) ?_
      refine rb_iald hC rb_arM17 (rb_ibI (by decide)) dX12_longer_34 ?_
      refine rb_iload_n hC 2 dX12_longer_35 rfl ?_
      refine rb_icmp_lt hC 55 dX12_longer_36 (by decide) (fun c5 => ?_) (fun c5 => ?_)
      · replace h := rb_ifp c5 h
        refine rb_iconst (x := 3) hC dX12_longer_55 (by decide) ?_
        refine rb_goto hC 60 dX12_longer_56 (by decide) ?_
        exact rb_sub [0, 1, 2] rfl (xu_M_longer_60 hC p0 p1 3 σ _ _ h)
      · replace h := rb_ifn c5 h
        refine rb_aload_n hC 0 dX12_longer_39 rfl ?_
        refine rb_getR hC fr_X12_58_11 rb_obM0 rfl dX12_longer_40 ?_
        refine rb_bipush (x := 7) hC dX12_longer_43 (by decide) ?_
        refine rb_iload_n hC 1 dX12_longer_45 rfl ?_
        refine rb_iadd hC dX12_longer_46 ?_
        obtain ⟨g17, h⟩ := rb_gd h
        refine rb_iald hC rb_arM17 (rb_ibI g17) dX12_longer_47 ?_
        refine rb_iload_n hC 2 dX12_longer_48 rfl ?_
        refine rb_iadd hC dX12_longer_49 ?_
        refine rb_bipush (x := 99) hC dX12_longer_50 (by decide) ?_
        refine rb_icmp_le hC 59 dX12_longer_52 (by decide) (fun c18 => ?_) (fun c18 => ?_)
        · replace h := rb_ifp c18 h
          refine rb_iconst (x := (-1)) hC dX12_longer_59 (by decide) ?_
          exact rb_sub [0, 1, 2] rfl (xu_M_longer_60 hC p0 p1 (-1) σ _ _ h)
        · replace h := rb_ifn c18 h
          refine rb_iconst (x := 3) hC dX12_longer_55 (by decide) ?_
          refine rb_goto hC 60 dX12_longer_56 (by decide) ?_
          exact rb_sub [0, 1, 2] rfl (xu_M_longer_60 hC p0 p1 3 σ _ _ h)
    · replace h := rb_ifp c4 h
      refine rb_iconst (x := 1) hC dX12_longer_23 (by decide) ?_
      refine rb_goto hC 60 dX12_longer_24 (by decide) ?_
      exact rb_sub [0, 1, 2] rfl (xu_M_longer_60 hC p0 p1 1 σ _ _ h)
  · replace h := rb_ifp c3 h
    refine rb_iconst (x := 0) hC dX12_longer_9 (by decide) ?_
    refine rb_goto hC 60 dX12_longer_10 (by decide) ?_
    exact rb_sub [0, 1, 2] rfl (xu_M_longer_60 hC p0 p1 0 σ _ _ h)
theorem xc_M_longer (p0 : Int32) (p1 : Int32) (σ : rb_St) (r : Int32) (σ9 : rb_St) (h : xf_M_longer p0 p1 σ = some (r, σ9)) : rb_Con rb_vM yX12_longer cX12_longer 3 (some .int) 2 (fun w => [.ref (rb_ad w 0), .int p0, .int p1]) σ (fun _ => (some (.int r))) σ9 := rb_Con.of (by decide +kernel) (fun _ => Nat.le_of_ble_eq_true rfl) (fun z w hC => xk_M_longer hC p0 p1 σ r σ9 h)
def xj_M_give_43 (x1 : Int32) (u0 : Int32) (σ : rb_St) : Option (Int32 × rb_St) := rb_b2 (xf_M_isRefused u0 σ) fun r5 s3 => if r5 = 0 then rb_b1 (xf_M_keep s3) fun s7 => rb_lt (rb_sI s7 17 215 ((s7.1 17 215) + x1)) (fun s9 => some (s9.1 17 215, s9)) else some ((-1), s3)
set_option maxHeartbeats 4000000 in
set_option maxRecDepth 100000 in
theorem xu_M_give_43 {z : rb_Z} {w : rb_Wd} (hC : rb_Cx z rb_vM w RX12 cX12_give 2 (some .int) 1) (x1 : Int32) (u0 : Int32) (σ : rb_St) (r : Int32) (σ9 : rb_St) (h : xj_M_give_43 x1 u0 σ = some (r, σ9)) : rb_At z rb_vM w 2 (rb_Q z rb_vM w (some (.int r)) σ9) 43 [(0, .ref (rb_ad w 0)), (1, .int x1)] [.int u0, .ref (rb_ad w 0)] σ := by
  unfold xj_M_give_43 at h
  obtain ⟨r5, s3, q4, h⟩ := rb_b2s h
  refine rb_callVi hC rb_VokM mv_X12_398 (xc_M_isRefused u0 σ _ _ q4) rb_obM0 rfl [.int u0] rfl rfl rfl ⟨Nat.le_of_ble_eq_true rfl, Nat.le_of_ble_eq_true rfl⟩ (Nat.le_of_ble_eq_true rfl) dX12_give_43 ?_
  refine rb_if_eq hC 51 dX12_give_46 (by decide) (fun c6 => ?_) (fun c6 => ?_)
  · replace h := rb_ifp c6 h
    refine rb_aload_n hC 0 dX12_give_51 rfl ?_
    obtain ⟨s7, q8, h⟩ := rb_b1s h
    refine rb_callVv hC rb_VokM mv_X12_401 (xc_M_keep  s3 _ q8) rb_obM0 rfl [] rfl rfl rfl ⟨Nat.le_of_ble_eq_true rfl, Nat.le_of_ble_eq_true rfl⟩ (Nat.le_of_ble_eq_true rfl) dX12_give_52 ?_
    refine rb_aload_n hC 0 dX12_give_55 rfl ?_
    refine rb_getR hC fr_X12_58_11 rb_obM0 rfl dX12_give_56 ?_
    refine rb_sipush (x := 215) hC dX12_give_59 (by decide) ?_
    refine rb_dup2_11 hC dX12_give_62 rfl rfl ?_
    refine rb_iald hC rb_arM17 (rb_ibI (by decide)) dX12_give_63 ?_
    refine rb_iload_n hC 1 dX12_give_64 rfl ?_
    refine rb_iadd hC dX12_give_65 ?_
    refine rb_iast hC rb_arM17 (rb_ibI (by decide)) dX12_give_66 ?_
    obtain ⟨s9, e10, h⟩ := rb_ltE h
    refine rb_nmS e10 ?_
    refine rb_aload_n hC 0 dX12_give_67 rfl ?_
    refine rb_getR hC fr_X12_58_11 rb_obM0 rfl dX12_give_68 ?_
    refine rb_sipush (x := 215) hC dX12_give_71 (by decide) ?_
    refine rb_iald hC rb_arM17 (rb_ibI (by decide)) dX12_give_74 ?_
    cases h
    exact rb_iret hC dX12_give_75
  · replace h := rb_ifn c6 h
    refine rb_iconst (x := (-1)) hC dX12_give_49 (by decide) ?_
    cases h
    exact rb_iret hC dX12_give_50
def xf_M_give (p0 : Int32) (σ : rb_St) : Option (Int32 × rb_St) := if (σ.1 0 22) = 0 then xj_M_give_43 p0 0 σ else if (xf_M_in p0 1 50 σ) = 0 then xj_M_give_43 p0 1 σ else if ((σ.1 17 215) + p0) ≤ 999 then xj_M_give_43 p0 (-1) σ else xj_M_give_43 p0 1 σ
set_option maxHeartbeats 4000000 in
set_option maxRecDepth 100000 in
theorem xk_M_give {z : rb_Z} {w : rb_Wd} (hC : rb_Cx z rb_vM w RX12 cX12_give 2 (some .int) 1) (p0 : Int32) (σ : rb_St) (r : Int32) (σ9 : rb_St) (h : xf_M_give p0 σ = some (r, σ9)) : rb_At z rb_vM w 2 (rb_Q z rb_vM w (some (.int r)) σ9) 0 [(0, .ref (rb_ad w 0)), (1, .int p0)] [] σ := by
  unfold xf_M_give at h
  refine rb_aload_n hC 0 dX12_give_0 rfl ?_
  refine rb_aload_n hC 0 dX12_give_1 rfl ?_
  refine rb_getI hC fr_X12_283_11 rb_obM0 rfl dX12_give_2 ?_
  refine rb_if_ne hC 12 dX12_give_5 (by decide) (fun c1 => ?_) (fun c1 => ?_)
  · replace h := rb_ifn c1 h
    refine rb_iload_n hC 1 dX12_give_12 rfl ?_
    refine rb_iconst (x := 1) hC dX12_give_13 (by decide) ?_
    refine rb_bipush (x := 50) hC dX12_give_14 (by decide) ?_
    refine rb_callSi hC rb_VokM mv_X12_229 (xc_M_in p0 1 50 σ _ rfl) [.int p0, .int 1, .int 50] rfl rfl rfl ⟨Nat.le_of_ble_eq_true rfl, Nat.le_of_ble_eq_true rfl⟩ (Nat.le_of_ble_eq_true rfl) dX12_give_16 ?_
    refine rb_if_eq hC 38 dX12_give_19 (by decide) (fun c2 => ?_) (fun c2 => ?_)
    · replace h := rb_ifp c2 h
      refine rb_iconst (x := 1) hC dX12_give_38 (by decide) ?_
      refine rb_goto hC 43 dX12_give_39 (by decide) ?_
      exact rb_sub [0, 1] rfl (xu_M_give_43 hC p0 1 σ _ _ h)
    · replace h := rb_ifn c2 h
      refine rb_aload_n hC 0 dX12_give_22 rfl ?_
      refine rb_getR hC fr_X12_58_11 rb_obM0 rfl dX12_give_23 ?_
      refine rb_sipush (x := 215) hC dX12_give_26 (by decide) ?_
      refine rb_iald hC rb_arM17 (rb_ibI (by decide)) dX12_give_29 ?_
      refine rb_iload_n hC 1 dX12_give_30 rfl ?_
      refine rb_iadd hC dX12_give_31 ?_
      refine rb_sipush (x := 999) hC dX12_give_32 (by decide) ?_
      refine rb_icmp_le hC 42 dX12_give_35 (by decide) (fun c11 => ?_) (fun c11 => ?_)
      · replace h := rb_ifp c11 h
        refine rb_iconst (x := (-1)) hC dX12_give_42 (by decide) ?_
        exact rb_sub [0, 1] rfl (xu_M_give_43 hC p0 (-1) σ _ _ h)
      · replace h := rb_ifn c11 h
        refine rb_iconst (x := 1) hC dX12_give_38 (by decide) ?_
        refine rb_goto hC 43 dX12_give_39 (by decide) ?_
        exact rb_sub [0, 1] rfl (xu_M_give_43 hC p0 1 σ _ _ h)
  · replace h := rb_ifp c1 h
    refine rb_iconst (x := 0) hC dX12_give_8 (by decide) ?_
    refine rb_goto hC 43 dX12_give_9 (by decide) ?_
    exact rb_sub [0, 1] rfl (xu_M_give_43 hC p0 0 σ _ _ h)
theorem xc_M_give (p0 : Int32) (σ : rb_St) (r : Int32) (σ9 : rb_St) (h : xf_M_give p0 σ = some (r, σ9)) : rb_Con rb_vM yX12_give cX12_give 2 (some .int) 1 (fun w => [.ref (rb_ad w 0), .int p0]) σ (fun _ => (some (.int r))) σ9 := rb_Con.of (by decide +kernel) (fun _ => Nat.le_of_ble_eq_true rfl) (fun z w hC => xk_M_give hC p0 σ r σ9 h)
theorem fr_X12_419_11 : rb_FR RX12 419 11 36 := ⟨RX12, TX12, 50, "RibbonPoleModel", rfl, rb_uX12, by decide, rb_in (by decide +kernel) (by decide +kernel), Or.inl rfl⟩
theorem kc_X12_423 : Cond.constantLong RX12 423 6364136223846793005 ∈ rb_tbl := rb_in (by decide +kernel) (by decide +kernel)
theorem kc_X12_425 : Cond.constantLong RX12 425 1442695040888963407 ∈ rb_tbl := rb_in (by decide +kernel) (by decide +kernel)
theorem ft_11_36 : rb_Ty 11 36 .long := ⟨RX12, TX12, 50, tyX12, rfl, tyX12_ok, nmX12, rfl, by decide +kernel⟩
def xf_M_draw (p0 : Int32) (σ : rb_St) : Option (Int32 × rb_St) := rb_lt (rb_sL σ ((σ.2 * 6364136223846793005) + 1442695040888963407)) (fun s1 => if p0.toInt64 = 0 then none else some ((((s1.2.toUInt64 >>> ((33 : Int32).toInt64.toUInt64 &&& Int64.toUInt64 63)).toInt64) - ((s1.2.toUInt64 >>> ((33 : Int32).toInt64.toUInt64 &&& Int64.toUInt64 63)).toInt64) / p0.toInt64 * p0.toInt64).toInt32, s1))
set_option maxHeartbeats 4000000 in
set_option maxRecDepth 100000 in
theorem xk_M_draw {z : rb_Z} {w : rb_Wd} (hC : rb_Cx z rb_vM w RX12 cX12_draw 2 (some .int) 0) (p0 : Int32) (σ : rb_St) (r : Int32) (σ9 : rb_St) (h : xf_M_draw p0 σ = some (r, σ9)) : rb_At z rb_vM w 2 (rb_Q z rb_vM w (some (.int r)) σ9) 0 [(0, .ref (rb_ad w 0)), (1, .int p0)] [] σ := by
  unfold xf_M_draw at h
  refine rb_aload_n hC 0 dX12_draw_0 rfl ?_
  refine rb_aload_n hC 0 dX12_draw_1 rfl ?_
  refine rb_getJ hC fr_X12_419_11 rb_obM0 rfl dX12_draw_2 ?_
  refine rb_ldc2_w hC kc_X12_423 dX12_draw_5 ?_
  refine rb_lmul hC dX12_draw_8 ?_
  refine rb_ldc2_w hC kc_X12_425 dX12_draw_9 ?_
  refine rb_ladd hC dX12_draw_12 ?_
  refine rb_putJ hC fr_X12_419_11 ft_11_36 rb_obM0 rfl (rb_huOf rfl) rb_noM dX12_draw_13 ?_
  obtain ⟨s1, e2, h⟩ := rb_ltE h
  refine rb_nmS e2 ?_
  refine rb_aload_n hC 0 dX12_draw_16 rfl ?_
  refine rb_getJ hC fr_X12_419_11 rb_obM0 rfl dX12_draw_17 ?_
  refine rb_bipush (x := 33) hC dX12_draw_20 (by decide) ?_
  refine rb_lushr hC dX12_draw_22 ?_
  refine rb_iload_n hC 1 dX12_draw_23 rfl ?_
  refine rb_i2l hC dX12_draw_24 ?_
  obtain ⟨g3, h⟩ := rb_dvL h
  refine rb_lrem hC dX12_draw_25 g3 ?_
  refine rb_l2i hC dX12_draw_26 ?_
  cases h
  exact rb_iret hC dX12_draw_27
theorem xc_M_draw (p0 : Int32) (σ : rb_St) (r : Int32) (σ9 : rb_St) (h : xf_M_draw p0 σ = some (r, σ9)) : rb_Con rb_vM yX12_draw cX12_draw 2 (some .int) 0 (fun w => [.ref (rb_ad w 0), .int p0]) σ (fun _ => (some (.int r))) σ9 := rb_Con.of (by decide +kernel) (fun _ => Nat.le_of_ble_eq_true rfl) (fun z w hC => xk_M_draw hC p0 σ r σ9 h)
theorem me_X12_draw : Cond.instanceMethod yX12_draw ∈ rb_tbl ∧ Cond.selects yX12_draw.cls yX12_draw yX12_draw ∈ rb_tbl ∧ Cond.initialized yX12_draw.cls ∈ rb_tbl ∧ Cond.code yX12_draw cX12_draw 2 (some .int) ∈ rb_tbl ∧ rb_pn yX12_draw 1 := ⟨rb_in (by decide +kernel) (by decide +kernel), rb_in (by decide +kernel) (by decide +kernel), rb_in (by decide +kernel) (by decide +kernel), rb_in (by decide +kernel) (by decide +kernel), by decide +kernel, by decide +kernel, by decide +kernel⟩
theorem mv_X12_427 : rb_MV RX12 427 yX12_draw cX12_draw 2 (some .int) 1 := ⟨rb_in (by decide +kernel) (by decide +kernel), me_X12_draw⟩
def xj_M_drawBeat_34 (u0 : Int32) (σ : rb_St) : Option (rb_St) := rb_b2 (xf_M_passBeat u0 σ) fun r13 s11 => rb_b2 (xf_M_draw 10 s11) fun r16 s14 => if (s14.1 13 2) ≤ r16 then some s14 else if (s14.1 17 14) ≤ 0 then some s14 else rb_b1 (xf_M_letterDown s14) fun r19 => rb_b2 (xf_M_crossNow r19 s14) fun r23 s21 => some s21
set_option maxHeartbeats 4000000 in
set_option maxRecDepth 100000 in
theorem xu_M_drawBeat_34 {z : rb_Z} {w : rb_Wd} (hC : rb_Cx z rb_vM w RX12 cX12_drawBeat 3 none 9) (u0 : Int32) (σ : rb_St) (σ9 : rb_St) (h : xj_M_drawBeat_34 u0 σ = some σ9) : rb_At z rb_vM w 3 (rb_Q z rb_vM w none σ9) 34 [(0, .ref (rb_ad w 0))] [.int u0, .ref (rb_ad w 0)] σ := by
  unfold xj_M_drawBeat_34 at h
  obtain ⟨r13, s11, q12, h⟩ := rb_b2s h
  refine rb_callVi hC rb_VokM mv_X12_404 (xc_M_passBeat u0 σ _ _ q12) rb_obM0 rfl [.int u0] rfl rfl rfl ⟨Nat.le_of_ble_eq_true rfl, Nat.le_of_ble_eq_true rfl⟩ (Nat.le_of_ble_eq_true rfl) dX12_drawBeat_34 ?_
  refine rb_pop hC dX12_drawBeat_37 rfl ?_
  refine rb_aload_n hC 0 dX12_drawBeat_38 rfl ?_
  refine rb_bipush (x := 10) hC dX12_drawBeat_39 (by decide) ?_
  obtain ⟨r16, s14, q15, h⟩ := rb_b2s h
  refine rb_callVi hC rb_VokM mv_X12_427 (xc_M_draw 10 s11 _ _ q15) rb_obM0 rfl [.int 10] rfl rfl rfl ⟨Nat.le_of_ble_eq_true rfl, Nat.le_of_ble_eq_true rfl⟩ (Nat.le_of_ble_eq_true rfl) dX12_drawBeat_41 ?_
  refine rb_aload_n hC 0 dX12_drawBeat_44 rfl ?_
  refine rb_getR hC fr_X12_46_11 rb_obM0 rfl dX12_drawBeat_45 ?_
  refine rb_iconst (x := 2) hC dX12_drawBeat_48 (by decide) ?_
  refine rb_iald hC rb_arM13 (rb_ibI (by decide)) dX12_drawBeat_49 ?_
  refine rb_icmp_ge hC 72 dX12_drawBeat_50 (by decide) (fun c17 => ?_) (fun c17 => ?_)
  · replace h := rb_ifp c17 h
    cases h
    exact rb_vret hC dX12_drawBeat_72
  · replace h := rb_ifn c17 h
    refine rb_aload_n hC 0 dX12_drawBeat_53 rfl ?_
    refine rb_getR hC fr_X12_58_11 rb_obM0 rfl dX12_drawBeat_54 ?_
    refine rb_bipush (x := 14) hC dX12_drawBeat_57 (by decide) ?_
    refine rb_iald hC rb_arM17 (rb_ibI (by decide)) dX12_drawBeat_59 ?_
    refine rb_if_le hC 72 dX12_drawBeat_60 (by decide) (fun c18 => ?_) (fun c18 => ?_)
    · replace h := rb_ifp c18 h
      cases h
      exact rb_vret hC dX12_drawBeat_72
    · replace h := rb_ifn c18 h
      refine rb_aload_n hC 0 dX12_drawBeat_63 rfl ?_
      refine rb_aload_n hC 0 dX12_drawBeat_64 rfl ?_
      obtain ⟨r19, q20, h⟩ := rb_b1s h
      refine rb_callVi hC rb_VokM mv_X12_416 (xc_M_letterDown  s14 _ q20) rb_obM0 rfl [] rfl rfl rfl ⟨Nat.le_of_ble_eq_true rfl, Nat.le_of_ble_eq_true rfl⟩ (Nat.le_of_ble_eq_true rfl) dX12_drawBeat_65 ?_
      obtain ⟨r23, s21, q22, h⟩ := rb_b2s h
      refine rb_callVi hC rb_VokM mv_X12_364 (xc_M_crossNow r19 s14 _ _ q22) rb_obM0 rfl [.int r19] rfl rfl rfl ⟨Nat.le_of_ble_eq_true rfl, Nat.le_of_ble_eq_true rfl⟩ (Nat.le_of_ble_eq_true rfl) dX12_drawBeat_68 ?_
      refine rb_pop hC dX12_drawBeat_71 rfl ?_
      cases h
      exact rb_vret hC dX12_drawBeat_72
def xf_M_drawBeat  (σ : rb_St) : Option (rb_St) := rb_b2 (xf_M_draw (σ.1 0 22) σ) fun r3 s1 => rb_b2 (xf_M_draw 2 s1) fun r6 s4 => rb_b2 (xf_M_canCross ((2 * r3) + r6) s4) fun r9 s7 => if r9 = 0 then xj_M_drawBeat_34 20 s7 else xj_M_drawBeat_34 ((2 * r3) + r6) s7
set_option maxHeartbeats 4000000 in
set_option maxRecDepth 100000 in
theorem xk_M_drawBeat {z : rb_Z} {w : rb_Wd} (hC : rb_Cx z rb_vM w RX12 cX12_drawBeat 3 none 9)  (σ : rb_St) (σ9 : rb_St) (h : xf_M_drawBeat σ = some σ9) : rb_At z rb_vM w 3 (rb_Q z rb_vM w none σ9) 0 [(0, .ref (rb_ad w 0))] [] σ := by
  unfold xf_M_drawBeat at h
  refine rb_aload_n hC 0 dX12_drawBeat_0 rfl ?_
  refine rb_aload_n hC 0 dX12_drawBeat_1 rfl ?_
  refine rb_getI hC fr_X12_283_11 rb_obM0 rfl dX12_drawBeat_2 ?_
  obtain ⟨r3, s1, q2, h⟩ := rb_b2s h
  refine rb_callVi hC rb_VokM mv_X12_427 (xc_M_draw (σ.1 0 22) σ _ _ q2) rb_obM0 rfl [.int (σ.1 0 22)] rfl rfl rfl ⟨Nat.le_of_ble_eq_true rfl, Nat.le_of_ble_eq_true rfl⟩ (Nat.le_of_ble_eq_true rfl) dX12_drawBeat_5 ?_
  refine rb_istore_n hC [(1, .int r3), (0, .ref (rb_ad w 0))] dX12_drawBeat_8 (by decide) rfl ?_
  refine rb_iconst (x := 2) hC dX12_drawBeat_9 (by decide) ?_
  refine rb_iload_n hC 0 dX12_drawBeat_10 rfl ?_
  refine rb_imul hC dX12_drawBeat_11 ?_
  refine rb_aload_n hC 1 dX12_drawBeat_12 rfl ?_
  refine rb_iconst (x := 2) hC dX12_drawBeat_13 (by decide) ?_
  obtain ⟨r6, s4, q5, h⟩ := rb_b2s h
  refine rb_callVi hC rb_VokM mv_X12_427 (xc_M_draw 2 s1 _ _ q5) rb_obM0 rfl [.int 2] rfl rfl rfl ⟨Nat.le_of_ble_eq_true rfl, Nat.le_of_ble_eq_true rfl⟩ (Nat.le_of_ble_eq_true rfl) dX12_drawBeat_14 ?_
  refine rb_iadd hC dX12_drawBeat_17 ?_
  refine rb_istore_n hC [(2, .int ((2 * r3) + r6)), (1, .int r3), (0, .ref (rb_ad w 0))] dX12_drawBeat_18 (by decide) rfl ?_
  refine rb_aload_n hC 2 dX12_drawBeat_19 rfl ?_
  refine rb_aload_n hC 2 dX12_drawBeat_20 rfl ?_
  refine rb_iload_n hC 0 dX12_drawBeat_21 rfl ?_
  obtain ⟨r9, s7, q8, h⟩ := rb_b2s h
  refine rb_callVi hC rb_VokM mv_X12_370 (xc_M_canCross ((2 * r3) + r6) s4 _ _ q8) rb_obM0 rfl [.int ((2 * r3) + r6)] rfl rfl rfl ⟨Nat.le_of_ble_eq_true rfl, Nat.le_of_ble_eq_true rfl⟩ (Nat.le_of_ble_eq_true rfl) dX12_drawBeat_22 ?_
  refine rb_if_eq hC 32 dX12_drawBeat_25 (by decide) (fun c10 => ?_) (fun c10 => ?_)
  · replace h := rb_ifp c10 h
    refine rb_bipush (x := 20) hC dX12_drawBeat_32 (by decide) ?_
    exact rb_sub [2] rfl (xu_M_drawBeat_34 hC 20 s7 _ h)
  · replace h := rb_ifn c10 h
    refine rb_iload_n hC 0 dX12_drawBeat_28 rfl ?_
    refine rb_goto hC 34 dX12_drawBeat_29 (by decide) ?_
    exact rb_sub [2] rfl (xu_M_drawBeat_34 hC ((2 * r3) + r6) s7 _ h)
theorem xc_M_drawBeat  (σ : rb_St) (σ9 : rb_St) (h : xf_M_drawBeat σ = some σ9) : rb_Con rb_vM yX12_drawBeat cX12_drawBeat 3 none 9 (fun w => [.ref (rb_ad w 0)]) σ (fun _ => none) σ9 := rb_Con.of (by decide +kernel) (fun _ => Nat.le_of_ble_eq_true rfl) (fun z w hC => xk_M_drawBeat hC  σ σ9 h)
theorem me_X12_drawBeat : Cond.instanceMethod yX12_drawBeat ∈ rb_tbl ∧ Cond.selects yX12_drawBeat.cls yX12_drawBeat yX12_drawBeat ∈ rb_tbl ∧ Cond.initialized yX12_drawBeat.cls ∈ rb_tbl ∧ Cond.code yX12_drawBeat cX12_drawBeat 3 none ∈ rb_tbl ∧ rb_pn yX12_drawBeat 0 := ⟨rb_in (by decide +kernel) (by decide +kernel), rb_in (by decide +kernel) (by decide +kernel), rb_in (by decide +kernel) (by decide +kernel), rb_in (by decide +kernel) (by decide +kernel), by decide +kernel, by decide +kernel, by decide +kernel⟩
theorem mv_X12_430 : rb_MV RX12 430 yX12_drawBeat cX12_drawBeat 3 none 0 := ⟨rb_in (by decide +kernel) (by decide +kernel), me_X12_drawBeat⟩
def xl_M_years_43 (x1 : Int32) : Nat → Int32 → rb_St → Option (rb_St)
  | 0, _, _ => none
  | n + 1, x4, σ => if x1 ≤ x4 then some σ else rb_b1 (xf_M_keep σ) fun s7 => rb_b1 (xf_M_drawBeat s7) fun s9 => xl_M_years_43 x1 n (x4 + 1) s9
set_option maxHeartbeats 4000000 in
set_option maxRecDepth 100000 in
theorem xt_M_years_43 {z : rb_Z} {w : rb_Wd} {Q : State → Prop} (hC : rb_Cx z rb_vM w RX12 cX12_years 5 (some .int) 10) (x1 : Int32) : ∀ (n : Nat) (x4 : Int32) (σ : rb_St) (σ9 : rb_St), xl_M_years_43 x1 n x4 σ = some σ9 → rb_At z rb_vM w 5 Q 63 [(0, .ref (rb_ad w 0))] [] σ9 → rb_At z rb_vM w 5 Q 43 [(0, .ref (rb_ad w 0)), (1, .int x1), (4, .int x4)] [] σ := by
  intro n
  induction n with
  | zero =>
    intro x4 σ σ9 h hE0
    cases h
  | succ n ih =>
    intro x4 σ σ9 h hE0
    rw [xl_M_years_43] at h
    refine rb_iload hC 2 dX12_years_43 rfl ?_
    refine rb_iload_n hC 1 dX12_years_45 rfl ?_
    refine rb_icmp_ge hC 63 dX12_years_46 (by decide) (fun c6 => ?_) (fun c6 => ?_)
    · replace h := rb_ifp c6 h
      cases h
      exact rb_sub [0] rfl (hE0)
    · replace h := rb_ifn c6 h
      refine rb_aload_n hC 0 dX12_years_49 rfl ?_
      obtain ⟨s7, q8, h⟩ := rb_b1s h
      refine rb_callVv hC rb_VokM mv_X12_401 (xc_M_keep  σ _ q8) rb_obM0 rfl [] rfl rfl rfl ⟨Nat.le_of_ble_eq_true rfl, Nat.le_of_ble_eq_true rfl⟩ (Nat.le_of_ble_eq_true rfl) dX12_years_50 ?_
      refine rb_aload_n hC 0 dX12_years_53 rfl ?_
      obtain ⟨s9, q10, h⟩ := rb_b1s h
      refine rb_callVv hC rb_VokM mv_X12_430 (xc_M_drawBeat  s7 _ q10) rb_obM0 rfl [] rfl rfl rfl ⟨Nat.le_of_ble_eq_true rfl, Nat.le_of_ble_eq_true rfl⟩ (Nat.le_of_ble_eq_true rfl) dX12_years_54 ?_
      refine rb_iinc hC 2 [(4, .int (x4 + 1)), (0, .ref (rb_ad w 0)), (1, .int x1)] dX12_years_57 rfl rfl (by decide) rfl ?_
      refine rb_goto hC 43 dX12_years_60 (by decide) ?_
      exact rb_sub [1, 2, 0] rfl (ih (x4 + 1) s9 _ h hE0)
def xf_M_years (p0 : Int32) (p1 : Int64) (σ : rb_St) : Option (Int32 × rb_St) := if (σ.1 0 22) = 0 then some ((-1), σ) else if (xf_M_in p0 1 60 σ) = 0 then some ((-1), σ) else if ((σ.1 17 216) + p0) ≤ 999 then rb_lt (rb_sL σ p1) (fun s4 => rb_b1 (xl_M_years_43 p0 rb_FU 0 s4) fun s11 => some (s11.1 17 216, s11)) else some ((-1), σ)
set_option maxHeartbeats 4000000 in
set_option maxRecDepth 100000 in
theorem xk_M_years {z : rb_Z} {w : rb_Wd} (hC : rb_Cx z rb_vM w RX12 cX12_years 5 (some .int) 10) (p0 : Int32) (p1 : Int64) (σ : rb_St) (r : Int32) (σ9 : rb_St) (h : xf_M_years p0 p1 σ = some (r, σ9)) : rb_At z rb_vM w 5 (rb_Q z rb_vM w (some (.int r)) σ9) 0 [(0, .ref (rb_ad w 0)), (1, .int p0), (2, .long p1)] [] σ := by
  unfold xf_M_years at h
  refine rb_aload_n hC 0 dX12_years_0 rfl ?_
  refine rb_getI hC fr_X12_283_11 rb_obM0 rfl dX12_years_1 ?_
  refine rb_if_eq hC 33 dX12_years_4 (by decide) (fun c1 => ?_) (fun c1 => ?_)
  · replace h := rb_ifp c1 h
    refine rb_iconst (x := (-1)) hC dX12_years_33 (by decide) ?_
    cases h
    exact rb_iret hC dX12_years_34
  · replace h := rb_ifn c1 h
    refine rb_iload_n hC 1 dX12_years_7 rfl ?_
    refine rb_iconst (x := 1) hC dX12_years_8 (by decide) ?_
    refine rb_bipush (x := 60) hC dX12_years_9 (by decide) ?_
    refine rb_callSi hC rb_VokM mv_X12_229 (xc_M_in p0 1 60 σ _ rfl) [.int p0, .int 1, .int 60] rfl rfl rfl ⟨Nat.le_of_ble_eq_true rfl, Nat.le_of_ble_eq_true rfl⟩ (Nat.le_of_ble_eq_true rfl) dX12_years_11 ?_
    refine rb_if_eq hC 33 dX12_years_14 (by decide) (fun c2 => ?_) (fun c2 => ?_)
    · replace h := rb_ifp c2 h
      refine rb_iconst (x := (-1)) hC dX12_years_33 (by decide) ?_
      cases h
      exact rb_iret hC dX12_years_34
    · replace h := rb_ifn c2 h
      refine rb_aload_n hC 0 dX12_years_17 rfl ?_
      refine rb_getR hC fr_X12_58_11 rb_obM0 rfl dX12_years_18 ?_
      refine rb_sipush (x := 216) hC dX12_years_21 (by decide) ?_
      refine rb_iald hC rb_arM17 (rb_ibI (by decide)) dX12_years_24 ?_
      refine rb_iload_n hC 1 dX12_years_25 rfl ?_
      refine rb_iadd hC dX12_years_26 ?_
      refine rb_sipush (x := 999) hC dX12_years_27 (by decide) ?_
      refine rb_icmp_le hC 35 dX12_years_30 (by decide) (fun c3 => ?_) (fun c3 => ?_)
      · replace h := rb_ifp c3 h
        refine rb_aload_n hC 0 dX12_years_35 rfl ?_
        refine rb_lload_n hC 2 dX12_years_36 rfl ?_
        refine rb_putJ hC fr_X12_419_11 ft_11_36 rb_obM0 rfl (rb_huOf rfl) rb_noM dX12_years_37 ?_
        obtain ⟨s4, e5, h⟩ := rb_ltE h
        refine rb_nmS e5 ?_
        refine rb_iconst (x := 0) hC dX12_years_40 (by decide) ?_
        refine rb_istore hC [(4, .int 0), (0, .ref (rb_ad w 0)), (1, .int p0), (2, .long p1)] dX12_years_41 (by decide) rfl ?_
        obtain ⟨s11, q12, h⟩ := rb_b1s h
        refine rb_sub (lv2 := [(0, .ref (rb_ad w 0)), (1, .int p0), (4, .int 0)]) [1, 2, 0] rfl ?_
        refine xt_M_years_43 hC p0 rb_FU 0 s4 _ q12 ?_
        refine rb_aload_n hC 0 dX12_years_63 rfl ?_
        refine rb_getR hC fr_X12_58_11 rb_obM0 rfl dX12_years_64 ?_
        refine rb_sipush (x := 216) hC dX12_years_67 (by decide) ?_
        refine rb_iald hC rb_arM17 (rb_ibI (by decide)) dX12_years_70 ?_
        cases h
        exact rb_iret hC dX12_years_71
      · replace h := rb_ifn c3 h
        refine rb_iconst (x := (-1)) hC dX12_years_33 (by decide) ?_
        cases h
        exact rb_iret hC dX12_years_34
theorem xc_M_years (p0 : Int32) (p1 : Int64) (σ : rb_St) (r : Int32) (σ9 : rb_St) (h : xf_M_years p0 p1 σ = some (r, σ9)) : rb_Con rb_vM yX12_years cX12_years 5 (some .int) 10 (fun w => [.ref (rb_ad w 0), .int p0, .long p1]) σ (fun _ => (some (.int r))) σ9 := rb_Con.of (by decide +kernel) (fun _ => Nat.le_of_ble_eq_true rfl) (fun z w hC => xk_M_years hC p0 p1 σ r σ9 h)
def xf_M_status (p0 : Int32) (σ : rb_St) : Option Int32 := if (xf_M_in p0 0 4 σ) = 0 then some (-1) else if rb_ib p0 5 then some (σ.1 18 p0.toNatClampNeg) else none
set_option maxHeartbeats 4000000 in
set_option maxRecDepth 100000 in
theorem xk_M_status {z : rb_Z} {w : rb_Wd} (hC : rb_Cx z rb_vM w RX12 cX12_status 2 (some .int) 1) (p0 : Int32) (σ : rb_St) (r : Int32) (h : xf_M_status p0 σ = some r) : rb_At z rb_vM w 2 (rb_Q z rb_vM w (some (.int r)) σ) 0 [(0, .ref (rb_ad w 0)), (1, .int p0)] [] σ := by
  unfold xf_M_status at h
  refine rb_iload_n hC 1 dX12_status_0 rfl ?_
  refine rb_iconst (x := 0) hC dX12_status_1 (by decide) ?_
  refine rb_iconst (x := 4) hC dX12_status_2 (by decide) ?_
  refine rb_callSi hC rb_VokM mv_X12_229 (xc_M_in p0 0 4 σ _ rfl) [.int p0, .int 0, .int 4] rfl rfl rfl ⟨Nat.le_of_ble_eq_true rfl, Nat.le_of_ble_eq_true rfl⟩ (Nat.le_of_ble_eq_true rfl) dX12_status_3 ?_
  refine rb_if_eq hC 18 dX12_status_6 (by decide) (fun c1 => ?_) (fun c1 => ?_)
  · replace h := rb_ifp c1 h
    refine rb_iconst (x := (-1)) hC dX12_status_18 (by decide) ?_
    cases h
    exact rb_iret hC dX12_status_19
  · replace h := rb_ifn c1 h
    refine rb_aload_n hC 0 dX12_status_9 rfl ?_
    refine rb_getR hC fr_X12_61_11 rb_obM0 rfl dX12_status_10 ?_
    refine rb_iload_n hC 1 dX12_status_13 rfl ?_
    obtain ⟨g2, h⟩ := rb_gd h
    refine rb_iald hC rb_arM18 (rb_ibI g2) dX12_status_14 ?_
    refine rb_goto hC 19 dX12_status_15 (by decide) ?_
    cases h
    exact rb_iret hC dX12_status_19
theorem xc_M_status (p0 : Int32) (σ : rb_St) (r : Int32) (h : xf_M_status p0 σ = some r) : rb_Con rb_vM yX12_status cX12_status 2 (some .int) 1 (fun w => [.ref (rb_ad w 0), .int p0]) σ (fun _ => (some (.int r))) σ := rb_Con.of (by decide +kernel) (fun _ => Nat.le_of_ble_eq_true rfl) (fun z w hC => xk_M_status hC p0 σ r h)
def xl_M_undo_21  : Nat → Int32 → rb_St → Option (rb_St)
  | 0, _, _ => none
  | n + 1, x1, σ => if 398 ≤ x1 then some σ else if rb_ib ((398 * (σ.1 0 35)) + x1) 15920 then if rb_ib x1 398 then rb_lt (rb_sI σ 17 x1.toNatClampNeg (σ.1 22 ((398 * (σ.1 0 35)) + x1).toNatClampNeg)) (fun s7 => xl_M_undo_21 n (x1 + 1) s7) else none else none
set_option maxHeartbeats 4000000 in
set_option maxRecDepth 100000 in
theorem xt_M_undo_21 {z : rb_Z} {w : rb_Wd} {Q : State → Prop} (hC : rb_Cx z rb_vM w RX12 cX12_undo 2 (some .int) 0)  : ∀ (n : Nat) (x1 : Int32) (σ : rb_St) (σ9 : rb_St), xl_M_undo_21 n x1 σ = some σ9 → rb_At z rb_vM w 2 Q 55 [(0, .ref (rb_ad w 0))] [] σ9 → rb_At z rb_vM w 2 Q 21 [(0, .ref (rb_ad w 0)), (1, .int x1)] [] σ := by
  intro n
  induction n with
  | zero =>
    intro x1 σ σ9 h hE0
    cases h
  | succ n ih =>
    intro x1 σ σ9 h hE0
    rw [xl_M_undo_21] at h
    refine rb_iload_n hC 1 dX12_undo_21 rfl ?_
    refine rb_sipush (x := 398) hC dX12_undo_22 (by decide) ?_
    refine rb_icmp_ge hC 55 dX12_undo_25 (by decide) (fun c4 => ?_) (fun c4 => ?_)
    · replace h := rb_ifp c4 h
      cases h
      exact rb_sub [0] rfl (hE0)
    · replace h := rb_ifn c4 h
      refine rb_aload_n hC 0 dX12_undo_28 rfl ?_
      refine rb_getR hC fr_X12_58_11 rb_obM0 rfl dX12_undo_29 ?_
      refine rb_iload_n hC 1 dX12_undo_32 rfl ?_
      refine rb_aload_n hC 0 dX12_undo_33 rfl ?_
      refine rb_getR hC fr_X12_78_11 rb_obM0 rfl dX12_undo_34 ?_
      refine rb_sipush (x := 398) hC dX12_undo_37 (by decide) ?_
      refine rb_aload_n hC 0 dX12_undo_40 rfl ?_
      refine rb_getI hC fr_X12_292_11 rb_obM0 rfl dX12_undo_41 ?_
      refine rb_imul hC dX12_undo_44 ?_
      refine rb_iload_n hC 1 dX12_undo_45 rfl ?_
      refine rb_iadd hC dX12_undo_46 ?_
      obtain ⟨g5, h⟩ := rb_gd h
      refine rb_iald hC rb_arM22 (rb_ibI g5) dX12_undo_47 ?_
      obtain ⟨g6, h⟩ := rb_gd h
      refine rb_iast hC rb_arM17 (rb_ibI g6) dX12_undo_48 ?_
      obtain ⟨s7, e8, h⟩ := rb_ltE h
      refine rb_nmS e8 ?_
      refine rb_iinc hC 1 [(1, .int (x1 + 1)), (0, .ref (rb_ad w 0))] dX12_undo_49 rfl rfl (by decide) rfl ?_
      refine rb_goto hC 21 dX12_undo_52 (by decide) ?_
      exact rb_sub [1, 0] rfl (ih (x1 + 1) s7 _ h hE0)
def xf_M_undo  (σ : rb_St) : Option (Int32 × rb_St) := if (σ.1 0 35) = 0 then some ((-1), σ) else rb_lt (rb_sI σ 0 35 ((σ.1 0 35) - 1)) (fun s2 => rb_b1 (xl_M_undo_21 rb_FU 0 s2) fun s9 => some (s9.1 0 35, s9))
set_option maxHeartbeats 4000000 in
set_option maxRecDepth 100000 in
theorem xk_M_undo {z : rb_Z} {w : rb_Wd} (hC : rb_Cx z rb_vM w RX12 cX12_undo 2 (some .int) 0)  (σ : rb_St) (r : Int32) (σ9 : rb_St) (h : xf_M_undo σ = some (r, σ9)) : rb_At z rb_vM w 2 (rb_Q z rb_vM w (some (.int r)) σ9) 0 [(0, .ref (rb_ad w 0))] [] σ := by
  unfold xf_M_undo at h
  refine rb_aload_n hC 0 dX12_undo_0 rfl ?_
  refine rb_getI hC fr_X12_292_11 rb_obM0 rfl dX12_undo_1 ?_
  refine rb_if_ne hC 9 dX12_undo_4 (by decide) (fun c1 => ?_) (fun c1 => ?_)
  · replace h := rb_ifn c1 h
    refine rb_aload_n hC 0 dX12_undo_9 rfl ?_
    refine rb_dup hC dX12_undo_10 rfl ?_
    refine rb_getI hC fr_X12_292_11 rb_obM0 rfl dX12_undo_11 ?_
    refine rb_iconst (x := 1) hC dX12_undo_14 (by decide) ?_
    refine rb_isub hC dX12_undo_15 ?_
    refine rb_putI hC fr_X12_292_11 ft_11_35 rb_obM0 rfl rfl rfl dX12_undo_16 ?_
    obtain ⟨s2, e3, h⟩ := rb_ltE h
    refine rb_nmS e3 ?_
    refine rb_iconst (x := 0) hC dX12_undo_19 (by decide) ?_
    refine rb_istore_n hC [(1, .int 0), (0, .ref (rb_ad w 0))] dX12_undo_20 (by decide) rfl ?_
    obtain ⟨s9, q10, h⟩ := rb_b1s h
    refine rb_sub (lv2 := [(0, .ref (rb_ad w 0)), (1, .int 0)]) [1, 0] rfl ?_
    refine xt_M_undo_21 hC  rb_FU 0 s2 _ q10 ?_
    refine rb_aload_n hC 0 dX12_undo_55 rfl ?_
    refine rb_getI hC fr_X12_292_11 rb_obM0 rfl dX12_undo_56 ?_
    cases h
    exact rb_iret hC dX12_undo_59
  · replace h := rb_ifp c1 h
    refine rb_iconst (x := (-1)) hC dX12_undo_7 (by decide) ?_
    cases h
    exact rb_iret hC dX12_undo_8
theorem xc_M_undo  (σ : rb_St) (r : Int32) (σ9 : rb_St) (h : xf_M_undo σ = some (r, σ9)) : rb_Con rb_vM yX12_undo cX12_undo 2 (some .int) 0 (fun w => [.ref (rb_ad w 0)]) σ (fun _ => (some (.int r))) σ9 := rb_Con.of (by decide +kernel) (fun _ => Nat.le_of_ble_eq_true rfl) (fun z w hC => xk_M_undo hC  σ r σ9 h)
def xf_M_log (p0 : Int32) (p1 : Int32) (σ : rb_St) : Option Int32 := if (xf_M_in p0 0 ((σ.1 17 217) - 1) σ) = 0 then some (-1) else if (xf_M_in p1 0 2 σ) = 0 then some (-1) else if rb_ib ((218 + (3 * (((σ.1 17 217) - 1) - p0))) + p1) 398 then some (σ.1 17 ((218 + (3 * (((σ.1 17 217) - 1) - p0))) + p1).toNatClampNeg) else none
set_option maxHeartbeats 4000000 in
set_option maxRecDepth 100000 in
theorem xk_M_log {z : rb_Z} {w : rb_Wd} (hC : rb_Cx z rb_vM w RX12 cX12_log 3 (some .int) 1) (p0 : Int32) (p1 : Int32) (σ : rb_St) (r : Int32) (h : xf_M_log p0 p1 σ = some r) : rb_At z rb_vM w 3 (rb_Q z rb_vM w (some (.int r)) σ) 0 [(0, .ref (rb_ad w 0)), (1, .int p0), (2, .int p1)] [] σ := by
  unfold xf_M_log at h
  refine rb_iload_n hC 1 dX12_log_0 rfl ?_
  refine rb_iconst (x := 0) hC dX12_log_1 (by decide) ?_
  refine rb_aload_n hC 0 dX12_log_2 rfl ?_
  refine rb_getR hC fr_X12_58_11 rb_obM0 rfl dX12_log_3 ?_
  refine rb_sipush (x := 217) hC dX12_log_6 (by decide) ?_
  refine rb_iald hC rb_arM17 (rb_ibI (by decide)) dX12_log_9 ?_
  refine rb_iconst (x := 1) hC dX12_log_10 (by decide) ?_
  refine rb_isub hC dX12_log_11 ?_
  refine rb_callSi hC rb_VokM mv_X12_229 (xc_M_in p0 0 ((σ.1 17 217) - 1) σ _ rfl) [.int p0, .int 0, .int ((σ.1 17 217) - 1)] rfl rfl rfl ⟨Nat.le_of_ble_eq_true rfl, Nat.le_of_ble_eq_true rfl⟩ (Nat.le_of_ble_eq_true rfl) dX12_log_12 ?_
  refine rb_if_eq hC 55 dX12_log_15 (by decide) (fun c1 => ?_) (fun c1 => ?_)
  · replace h := rb_ifp c1 h
    refine rb_iconst (x := (-1)) hC dX12_log_55 (by decide) ?_
    cases h
    exact rb_iret hC dX12_log_56
  · replace h := rb_ifn c1 h
    refine rb_iload_n hC 2 dX12_log_18 rfl ?_
    refine rb_iconst (x := 0) hC dX12_log_19 (by decide) ?_
    refine rb_iconst (x := 2) hC dX12_log_20 (by decide) ?_
    refine rb_callSi hC rb_VokM mv_X12_229 (xc_M_in p1 0 2 σ _ rfl) [.int p1, .int 0, .int 2] rfl rfl rfl ⟨Nat.le_of_ble_eq_true rfl, Nat.le_of_ble_eq_true rfl⟩ (Nat.le_of_ble_eq_true rfl) dX12_log_21 ?_
    refine rb_if_eq hC 55 dX12_log_24 (by decide) (fun c2 => ?_) (fun c2 => ?_)
    · replace h := rb_ifp c2 h
      refine rb_iconst (x := (-1)) hC dX12_log_55 (by decide) ?_
      cases h
      exact rb_iret hC dX12_log_56
    · replace h := rb_ifn c2 h
      refine rb_aload_n hC 0 dX12_log_27 rfl ?_
      refine rb_getR hC fr_X12_58_11 rb_obM0 rfl dX12_log_28 ?_
      refine rb_sipush (x := 218) hC dX12_log_31 (by decide) ?_
      refine rb_iconst (x := 3) hC dX12_log_34 (by decide) ?_
      refine rb_aload_n hC 0 dX12_log_35 rfl ?_
      refine rb_getR hC fr_X12_58_11 rb_obM0 rfl dX12_log_36 ?_
      refine rb_sipush (x := 217) hC dX12_log_39 (by decide) ?_
      refine rb_iald hC rb_arM17 (rb_ibI (by decide)) dX12_log_42 ?_
      refine rb_iconst (x := 1) hC dX12_log_43 (by decide) ?_
      refine rb_isub hC dX12_log_44 ?_
      refine rb_iload_n hC 1 dX12_log_45 rfl ?_
      refine rb_isub hC dX12_log_46 ?_
      refine rb_imul hC dX12_log_47 ?_
      refine rb_iadd hC dX12_log_48 ?_
      refine rb_iload_n hC 2 dX12_log_49 rfl ?_
      refine rb_iadd hC dX12_log_50 ?_
      obtain ⟨g3, h⟩ := rb_gd h
      refine rb_iald hC rb_arM17 (rb_ibI g3) dX12_log_51 ?_
      refine rb_goto hC 56 dX12_log_52 (by decide) ?_
      cases h
      exact rb_iret hC dX12_log_56
theorem xc_M_log (p0 : Int32) (p1 : Int32) (σ : rb_St) (r : Int32) (h : xf_M_log p0 p1 σ = some r) : rb_Con rb_vM yX12_log cX12_log 3 (some .int) 1 (fun w => [.ref (rb_ad w 0), .int p0, .int p1]) σ (fun _ => (some (.int r))) σ := rb_Con.of (by decide +kernel) (fun _ => Nat.le_of_ble_eq_true rfl) (fun z w hC => xk_M_log hC p0 p1 σ r h)
def xf_M_takes (p0 : Int32) (p1 : Int32) (σ : rb_St) : Option (Int32 × rb_St) := rb_b1 (xf_M_isDancer p0 σ) fun r1 => if r1 = 0 then some ((-1), σ) else if p1 = 0 then rb_b2 (xf_M_takesBy ((2 * p0) + 1) σ) fun r7 s5 => some (r7, s5) else rb_b2 (xf_M_takesBy ((2 * p0) + 0) σ) fun r10 s8 => some (r10, s8)
set_option maxHeartbeats 4000000 in
set_option maxRecDepth 100000 in
theorem xk_M_takes {z : rb_Z} {w : rb_Wd} (hC : rb_Cx z rb_vM w RX12 cX12_takes 3 (some .int) 6) (p0 : Int32) (p1 : Int32) (σ : rb_St) (r : Int32) (σ9 : rb_St) (h : xf_M_takes p0 p1 σ = some (r, σ9)) : rb_At z rb_vM w 3 (rb_Q z rb_vM w (some (.int r)) σ9) 0 [(0, .ref (rb_ad w 0)), (1, .int p0), (2, .int p1)] [] σ := by
  unfold xf_M_takes at h
  refine rb_aload_n hC 0 dX12_takes_0 rfl ?_
  refine rb_iload_n hC 1 dX12_takes_1 rfl ?_
  obtain ⟨r1, q2, h⟩ := rb_b1s h
  refine rb_callVi hC rb_VokM mv_X12_373 (xc_M_isDancer p0 σ _ q2) rb_obM0 rfl [.int p0] rfl rfl rfl ⟨Nat.le_of_ble_eq_true rfl, Nat.le_of_ble_eq_true rfl⟩ (Nat.le_of_ble_eq_true rfl) dX12_takes_2 ?_
  refine rb_if_eq hC 28 dX12_takes_5 (by decide) (fun c3 => ?_) (fun c3 => ?_)
  · replace h := rb_ifp c3 h
    refine rb_iconst (x := (-1)) hC dX12_takes_28 (by decide) ?_
    cases h
    exact rb_iret hC dX12_takes_29
  · replace h := rb_ifn c3 h
    refine rb_aload_n hC 0 dX12_takes_8 rfl ?_
    refine rb_iconst (x := 2) hC dX12_takes_9 (by decide) ?_
    refine rb_iload_n hC 1 dX12_takes_10 rfl ?_
    refine rb_imul hC dX12_takes_11 ?_
    refine rb_iload_n hC 2 dX12_takes_12 rfl ?_
    refine rb_if_eq hC 20 dX12_takes_13 (by decide) (fun c4 => ?_) (fun c4 => ?_)
    · replace h := rb_ifp c4 h
      refine rb_iconst (x := 1) hC dX12_takes_20 (by decide) ?_
      refine rb_iadd hC dX12_takes_21 ?_
      obtain ⟨r7, s5, q6, h⟩ := rb_b2s h
      refine rb_callVi hC rb_VokM mv_X12_337 (xc_M_takesBy ((2 * p0) + 1) σ _ _ q6) rb_obM0 rfl [.int ((2 * p0) + 1)] rfl rfl rfl ⟨Nat.le_of_ble_eq_true rfl, Nat.le_of_ble_eq_true rfl⟩ (Nat.le_of_ble_eq_true rfl) dX12_takes_22 ?_
      refine rb_goto hC 29 dX12_takes_25 (by decide) ?_
      cases h
      exact rb_iret hC dX12_takes_29
    · replace h := rb_ifn c4 h
      refine rb_iconst (x := 0) hC dX12_takes_16 (by decide) ?_
      refine rb_goto hC 21 dX12_takes_17 (by decide) ?_
      refine rb_iadd hC dX12_takes_21 ?_
      obtain ⟨r10, s8, q9, h⟩ := rb_b2s h
      refine rb_callVi hC rb_VokM mv_X12_337 (xc_M_takesBy ((2 * p0) + 0) σ _ _ q9) rb_obM0 rfl [.int ((2 * p0) + 0)] rfl rfl rfl ⟨Nat.le_of_ble_eq_true rfl, Nat.le_of_ble_eq_true rfl⟩ (Nat.le_of_ble_eq_true rfl) dX12_takes_22 ?_
      refine rb_goto hC 29 dX12_takes_25 (by decide) ?_
      cases h
      exact rb_iret hC dX12_takes_29
theorem xc_M_takes (p0 : Int32) (p1 : Int32) (σ : rb_St) (r : Int32) (σ9 : rb_St) (h : xf_M_takes p0 p1 σ = some (r, σ9)) : rb_Con rb_vM yX12_takes cX12_takes 3 (some .int) 6 (fun w => [.ref (rb_ad w 0), .int p0, .int p1]) σ (fun _ => (some (.int r))) σ9 := rb_Con.of (by decide +kernel) (fun _ => Nat.le_of_ble_eq_true rfl) (fun z w hC => xk_M_takes hC p0 p1 σ r σ9 h)
theorem kc_X12_433 : Cond.constant RX12 433 (-1000000) ∈ rb_tbl := rb_in (by decide +kernel) (by decide +kernel)
def xj_M_bound_69 (rc : Int32 → Int32 → Option (Int32)) (x1 : Int32) (x2 : Int32) (x4 : Int32) (u0 : Int32) (σ : rb_St) : Option (Int32) := rb_b1 (xf_M_of x4 1 σ) fun r12 => if r12 = x2 then rb_b1 (xf_M_of x4 2 σ) fun r15 => if r15 = x1 then rc (u0 + (-1)) (x4 + 1) else rc (u0 + 0) (x4 + 1) else rc (u0 + 0) (x4 + 1)
set_option maxHeartbeats 4000000 in
set_option maxRecDepth 100000 in
theorem xu_M_bound_69 {z : rb_Z} {w : rb_Wd} {Q : State → Prop} (hC : rb_Cx z rb_vM w RX12 cX12_bound 5 (some .int) 2)  (rc : Int32 → Int32 → Option (Int32)) (x1 : Int32) (x2 : Int32) (x4 : Int32) (u0 : Int32) (σ : rb_St) (y3 : Int32) (h : xj_M_bound_69 rc x1 x2 x4 u0 σ = some y3) (hrc : ∀ (b3 : Int32) (b4 : Int32), rc b3 b4 = some y3 → rb_At z rb_vM w 5 Q 30 [(0, .ref (rb_ad w 0)), (1, .int x1), (2, .int x2), (3, .int b3), (4, .int b4)] [] σ) (hE0 : rb_At z rb_vM w 5 Q 104 [(3, .int y3)] [] σ) : rb_At z rb_vM w 5 Q 69 [(0, .ref (rb_ad w 0)), (1, .int x1), (2, .int x2), (4, .int x4)] [.int u0] σ := by
  unfold xj_M_bound_69 at h
  refine rb_aload_n hC 0 dX12_bound_69 rfl ?_
  refine rb_iload hC 3 dX12_bound_70 rfl ?_
  refine rb_iconst (x := 1) hC dX12_bound_72 (by decide) ?_
  obtain ⟨r12, q13, h⟩ := rb_b1s h
  refine rb_callVi hC rb_VokM mv_X12_311 (xc_M_of x4 1 σ _ q13) rb_obM0 rfl [.int x4, .int 1] rfl rfl rfl ⟨Nat.le_of_ble_eq_true rfl, Nat.le_of_ble_eq_true rfl⟩ (Nat.le_of_ble_eq_true rfl) dX12_bound_73 ?_
  refine rb_iload_n hC 2 dX12_bound_76 rfl ?_
  refine rb_icmp_ne hC 95 dX12_bound_77 (by decide) (fun c14 => ?_) (fun c14 => ?_)
  · replace h := rb_ifn c14 h
    refine rb_iconst (x := 0) hC dX12_bound_95 (by decide) ?_
    refine rb_iadd hC dX12_bound_96 ?_
    refine rb_istore_n hC [(3, .int (u0 + 0)), (0, .ref (rb_ad w 0)), (1, .int x1), (2, .int x2), (4, .int x4)] dX12_bound_97 (by decide) rfl ?_
    refine rb_iinc hC 4 [(4, .int (x4 + 1)), (3, .int (u0 + 0)), (0, .ref (rb_ad w 0)), (1, .int x1), (2, .int x2)] dX12_bound_98 rfl rfl (by decide) rfl ?_
    refine rb_goto hC 30 dX12_bound_101 (by decide) ?_
    exact rb_sub [2, 3, 4, 1, 0] rfl (hrc (u0 + 0) (x4 + 1) h)
  · replace h := rb_ifp c14 h
    refine rb_aload_n hC 0 dX12_bound_80 rfl ?_
    refine rb_iload hC 3 dX12_bound_81 rfl ?_
    refine rb_iconst (x := 2) hC dX12_bound_83 (by decide) ?_
    obtain ⟨r15, q16, h⟩ := rb_b1s h
    refine rb_callVi hC rb_VokM mv_X12_311 (xc_M_of x4 2 σ _ q16) rb_obM0 rfl [.int x4, .int 2] rfl rfl rfl ⟨Nat.le_of_ble_eq_true rfl, Nat.le_of_ble_eq_true rfl⟩ (Nat.le_of_ble_eq_true rfl) dX12_bound_84 ?_
    refine rb_iload_n hC 1 dX12_bound_87 rfl ?_
    refine rb_icmp_ne hC 95 dX12_bound_88 (by decide) (fun c17 => ?_) (fun c17 => ?_)
    · replace h := rb_ifn c17 h
      refine rb_iconst (x := 0) hC dX12_bound_95 (by decide) ?_
      refine rb_iadd hC dX12_bound_96 ?_
      refine rb_istore_n hC [(3, .int (u0 + 0)), (0, .ref (rb_ad w 0)), (1, .int x1), (2, .int x2), (4, .int x4)] dX12_bound_97 (by decide) rfl ?_
      refine rb_iinc hC 4 [(4, .int (x4 + 1)), (3, .int (u0 + 0)), (0, .ref (rb_ad w 0)), (1, .int x1), (2, .int x2)] dX12_bound_98 rfl rfl (by decide) rfl ?_
      refine rb_goto hC 30 dX12_bound_101 (by decide) ?_
      exact rb_sub [2, 3, 4, 1, 0] rfl (hrc (u0 + 0) (x4 + 1) h)
    · replace h := rb_ifp c17 h
      refine rb_iconst (x := (-1)) hC dX12_bound_91 (by decide) ?_
      refine rb_goto hC 96 dX12_bound_92 (by decide) ?_
      refine rb_iadd hC dX12_bound_96 ?_
      refine rb_istore_n hC [(3, .int (u0 + (-1))), (0, .ref (rb_ad w 0)), (1, .int x1), (2, .int x2), (4, .int x4)] dX12_bound_97 (by decide) rfl ?_
      refine rb_iinc hC 4 [(4, .int (x4 + 1)), (3, .int (u0 + (-1))), (0, .ref (rb_ad w 0)), (1, .int x1), (2, .int x2)] dX12_bound_98 rfl rfl (by decide) rfl ?_
      refine rb_goto hC 30 dX12_bound_101 (by decide) ?_
      exact rb_sub [2, 3, 4, 1, 0] rfl (hrc (u0 + (-1)) (x4 + 1) h)
def xl_M_bound_30 (x1 : Int32) (x2 : Int32) (σ : rb_St) : Nat → Int32 → Int32 → Option (Int32)
  | 0, _, _ => none
  | n + 1, x3, x4 => if (σ.1 17 14) ≤ x4 then some x3 else rb_b1 (xf_M_of x4 1 σ) fun r9 => if r9 = x1 then rb_b1 (xf_M_of x4 2 σ) fun r18 => if r18 = x2 then xl_M_bound_30 x1 x2 σ n (x3 + 1) (x4 + 1) else xj_M_bound_69 (fun b3 b4 => xl_M_bound_30 x1 x2 σ n b3 b4) x1 x2 x4 x3 σ else xj_M_bound_69 (fun b3 b4 => xl_M_bound_30 x1 x2 σ n b3 b4) x1 x2 x4 x3 σ
set_option maxHeartbeats 4000000 in
set_option maxRecDepth 100000 in
theorem xt_M_bound_30 {z : rb_Z} {w : rb_Wd} {Q : State → Prop} (hC : rb_Cx z rb_vM w RX12 cX12_bound 5 (some .int) 2) (x1 : Int32) (x2 : Int32) (σ : rb_St) : ∀ (n : Nat) (x3 : Int32) (x4 : Int32) (y3 : Int32), xl_M_bound_30 x1 x2 σ n x3 x4 = some y3 → rb_At z rb_vM w 5 Q 104 [(3, .int y3)] [] σ → rb_At z rb_vM w 5 Q 30 [(0, .ref (rb_ad w 0)), (1, .int x1), (2, .int x2), (3, .int x3), (4, .int x4)] [] σ := by
  intro n
  induction n with
  | zero =>
    intro x3 x4 y3 h hE0
    cases h
  | succ n ih =>
    intro x3 x4 y3 h hE0
    rw [xl_M_bound_30] at h
    refine rb_iload hC 4 dX12_bound_30 rfl ?_
    refine rb_aload_n hC 0 dX12_bound_32 rfl ?_
    refine rb_getR hC fr_X12_58_11 rb_obM0 rfl dX12_bound_33 ?_
    refine rb_bipush (x := 14) hC dX12_bound_36 (by decide) ?_
    refine rb_iald hC rb_arM17 (rb_ibI (by decide)) dX12_bound_38 ?_
    refine rb_icmp_ge hC 104 dX12_bound_39 (by decide) (fun c8 => ?_) (fun c8 => ?_)
    · replace h := rb_ifp c8 h
      cases h
      exact rb_sub [3] rfl (hE0)
    · replace h := rb_ifn c8 h
      refine rb_iload_n hC 3 dX12_bound_42 rfl ?_
      refine rb_aload_n hC 0 dX12_bound_43 rfl ?_
      refine rb_iload hC 4 dX12_bound_44 rfl ?_
      refine rb_iconst (x := 1) hC dX12_bound_46 (by decide) ?_
      obtain ⟨r9, q10, h⟩ := rb_b1s h
      refine rb_callVi hC rb_VokM mv_X12_311 (xc_M_of x4 1 σ _ q10) rb_obM0 rfl [.int x4, .int 1] rfl rfl rfl ⟨Nat.le_of_ble_eq_true rfl, Nat.le_of_ble_eq_true rfl⟩ (Nat.le_of_ble_eq_true rfl) dX12_bound_47 ?_
      refine rb_iload_n hC 1 dX12_bound_50 rfl ?_
      refine rb_icmp_ne hC 69 dX12_bound_51 (by decide) (fun c11 => ?_) (fun c11 => ?_)
      · replace h := rb_ifn c11 h
        exact rb_sub [0, 1, 2, 4] rfl (xu_M_bound_69 hC (fun b3 b4 => xl_M_bound_30 x1 x2 σ n b3 b4) x1 x2 x4 x3 σ _ h (fun b3 b4 hq => ih b3 b4 _ hq hE0) hE0)
      · replace h := rb_ifp c11 h
        refine rb_aload_n hC 0 dX12_bound_54 rfl ?_
        refine rb_iload hC 4 dX12_bound_55 rfl ?_
        refine rb_iconst (x := 2) hC dX12_bound_57 (by decide) ?_
        obtain ⟨r18, q19, h⟩ := rb_b1s h
        refine rb_callVi hC rb_VokM mv_X12_311 (xc_M_of x4 2 σ _ q19) rb_obM0 rfl [.int x4, .int 2] rfl rfl rfl ⟨Nat.le_of_ble_eq_true rfl, Nat.le_of_ble_eq_true rfl⟩ (Nat.le_of_ble_eq_true rfl) dX12_bound_58 ?_
        refine rb_iload_n hC 2 dX12_bound_61 rfl ?_
        refine rb_icmp_ne hC 69 dX12_bound_62 (by decide) (fun c20 => ?_) (fun c20 => ?_)
        · replace h := rb_ifn c20 h
          exact rb_sub [0, 1, 2, 4] rfl (xu_M_bound_69 hC (fun b3 b4 => xl_M_bound_30 x1 x2 σ n b3 b4) x1 x2 x4 x3 σ _ h (fun b3 b4 hq => ih b3 b4 _ hq hE0) hE0)
        · replace h := rb_ifp c20 h
          refine rb_iconst (x := 1) hC dX12_bound_65 (by decide) ?_
          refine rb_goto hC 96 dX12_bound_66 (by decide) ?_
          refine rb_iadd hC dX12_bound_96 ?_
          refine rb_istore_n hC [(3, .int (x3 + 1)), (0, .ref (rb_ad w 0)), (1, .int x1), (2, .int x2), (4, .int x4)] dX12_bound_97 (by decide) rfl ?_
          refine rb_iinc hC 4 [(4, .int (x4 + 1)), (3, .int (x3 + 1)), (0, .ref (rb_ad w 0)), (1, .int x1), (2, .int x2)] dX12_bound_98 rfl rfl (by decide) rfl ?_
          refine rb_goto hC 30 dX12_bound_101 (by decide) ?_
          exact rb_sub [2, 3, 4, 1, 0] rfl (ih (x3 + 1) (x4 + 1) _ h hE0)
def xf_M_bound (p0 : Int32) (p1 : Int32) (σ : rb_St) : Option Int32 := rb_b1 (xf_M_isDancer p0 σ) fun r1 => if r1 = 0 then some (-1000000) else rb_b1 (xf_M_isDancer p1 σ) fun r4 => if r4 = 0 then some (-1000000) else if p0 = p1 then some (-1000000) else rb_b1 (xl_M_bound_30 p0 p1 σ rb_FU 0 0) fun y21 => some y21
set_option maxHeartbeats 4000000 in
set_option maxRecDepth 100000 in
theorem xk_M_bound {z : rb_Z} {w : rb_Wd} (hC : rb_Cx z rb_vM w RX12 cX12_bound 5 (some .int) 2) (p0 : Int32) (p1 : Int32) (σ : rb_St) (r : Int32) (h : xf_M_bound p0 p1 σ = some r) : rb_At z rb_vM w 5 (rb_Q z rb_vM w (some (.int r)) σ) 0 [(0, .ref (rb_ad w 0)), (1, .int p0), (2, .int p1)] [] σ := by
  unfold xf_M_bound at h
  refine rb_aload_n hC 0 dX12_bound_0 rfl ?_
  refine rb_iload_n hC 1 dX12_bound_1 rfl ?_
  obtain ⟨r1, q2, h⟩ := rb_b1s h
  refine rb_callVi hC rb_VokM mv_X12_373 (xc_M_isDancer p0 σ _ q2) rb_obM0 rfl [.int p0] rfl rfl rfl ⟨Nat.le_of_ble_eq_true rfl, Nat.le_of_ble_eq_true rfl⟩ (Nat.le_of_ble_eq_true rfl) dX12_bound_2 ?_
  refine rb_if_eq hC 21 dX12_bound_5 (by decide) (fun c3 => ?_) (fun c3 => ?_)
  · replace h := rb_ifp c3 h
    refine rb_ldc_w hC kc_X12_433 dX12_bound_21 ?_
    cases h
    exact rb_iret hC dX12_bound_24
  · replace h := rb_ifn c3 h
    refine rb_aload_n hC 0 dX12_bound_8 rfl ?_
    refine rb_iload_n hC 2 dX12_bound_9 rfl ?_
    obtain ⟨r4, q5, h⟩ := rb_b1s h
    refine rb_callVi hC rb_VokM mv_X12_373 (xc_M_isDancer p1 σ _ q5) rb_obM0 rfl [.int p1] rfl rfl rfl ⟨Nat.le_of_ble_eq_true rfl, Nat.le_of_ble_eq_true rfl⟩ (Nat.le_of_ble_eq_true rfl) dX12_bound_10 ?_
    refine rb_if_eq hC 21 dX12_bound_13 (by decide) (fun c6 => ?_) (fun c6 => ?_)
    · replace h := rb_ifp c6 h
      refine rb_ldc_w hC kc_X12_433 dX12_bound_21 ?_
      cases h
      exact rb_iret hC dX12_bound_24
    · replace h := rb_ifn c6 h
      refine rb_iload_n hC 1 dX12_bound_16 rfl ?_
      refine rb_iload_n hC 2 dX12_bound_17 rfl ?_
      refine rb_icmp_ne hC 25 dX12_bound_18 (by decide) (fun c7 => ?_) (fun c7 => ?_)
      · replace h := rb_ifn c7 h
        refine rb_iconst (x := 0) hC dX12_bound_25 (by decide) ?_
        refine rb_istore_n hC [(3, .int 0), (0, .ref (rb_ad w 0)), (1, .int p0), (2, .int p1)] dX12_bound_26 (by decide) rfl ?_
        refine rb_iconst (x := 0) hC dX12_bound_27 (by decide) ?_
        refine rb_istore hC [(4, .int 0), (3, .int 0), (0, .ref (rb_ad w 0)), (1, .int p0), (2, .int p1)] dX12_bound_28 (by decide) rfl ?_
        obtain ⟨y21, q22, h⟩ := rb_b1s h
        refine rb_sub (lv2 := [(0, .ref (rb_ad w 0)), (1, .int p0), (2, .int p1), (3, .int 0), (4, .int 0)]) [2, 3, 4, 1, 0] rfl ?_
        refine xt_M_bound_30 hC p0 p1 σ rb_FU 0 0 _ q22 ?_
        refine rb_iload_n hC 0 dX12_bound_104 rfl ?_
        cases h
        exact rb_iret hC dX12_bound_105
      · replace h := rb_ifp c7 h
        refine rb_ldc_w hC kc_X12_433 dX12_bound_21 ?_
        cases h
        exact rb_iret hC dX12_bound_24
theorem xc_M_bound (p0 : Int32) (p1 : Int32) (σ : rb_St) (r : Int32) (h : xf_M_bound p0 p1 σ = some r) : rb_Con rb_vM yX12_bound cX12_bound 5 (some .int) 2 (fun w => [.ref (rb_ad w 0), .int p0, .int p1]) σ (fun _ => (some (.int r))) σ := rb_Con.of (by decide +kernel) (fun _ => Nat.le_of_ble_eq_true rfl) (fun z w hC => xk_M_bound hC p0 p1 σ r h)
