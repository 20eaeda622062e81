theorem me_X11_isFigure : Cond.instanceMethod yX11_isFigure ∈ rb_tbl ∧ Cond.selects yX11_isFigure.cls yX11_isFigure yX11_isFigure ∈ rb_tbl ∧ Cond.initialized yX11_isFigure.cls ∈ rb_tbl ∧ Cond.code yX11_isFigure cX11_isFigure 2 (some .boolean) ∈ rb_tbl ∧ rb_pn yX11_isFigure 1 := ⟨rb_in (by decide +kernel) (by decide +kernel), rb_in (by decide +kernel) (by decide +kernel), rb_in (by decide +kernel) (by decide +kernel), rb_in (by decide +kernel) (by decide +kernel), by decide +kernel, by decide +kernel, by decide +kernel⟩
theorem mv_X11_217 : rb_MV RX11 217 yX11_isFigure cX11_isFigure 2 (some .boolean) 1 := ⟨rb_in (by decide +kernel) (by decide +kernel), me_X11_isFigure⟩
theorem me_X1_letterAt : Cond.instanceMethod yX1_letterAt ∈ rb_tbl ∧ Cond.selects yX1_letterAt.cls yX1_letterAt yX1_letterAt ∈ rb_tbl ∧ Cond.initialized yX1_letterAt.cls ∈ rb_tbl ∧ Cond.code yX1_letterAt cX1_letterAt 2 (some .int) ∈ rb_tbl ∧ rb_pn yX1_letterAt 1 := ⟨rb_in (by decide +kernel) (by decide +kernel), rb_in (by decide +kernel) (by decide +kernel), rb_in (by decide +kernel) (by decide +kernel), rb_in (by decide +kernel) (by decide +kernel), by decide +kernel, by decide +kernel, by decide +kernel⟩
theorem mv_X11_221 : rb_MV RX11 221 yX1_letterAt cX1_letterAt 2 (some .int) 1 := ⟨rb_in (by decide +kernel) (by decide +kernel), me_X1_letterAt⟩
theorem fr_X11_220_1 : rb_FR RX11 220 1 1 := ⟨RX1, TX1, 2, "RibbonPole$Figure", rfl, rb_uX1, by decide, rb_in (by decide +kernel) (by decide +kernel), Or.inl rfl⟩
def xf_RP_step (p0 : Int32) (p1 : Int32) (σ : rb_St) : Option Int32 := if (xf_RP_isFigure p0 σ) = 0 then some (-1) else if rb_ib p0 6 then rb_lt (256 + 2 * p0.toNatClampNeg) (fun k93 => if p1 = (-1) then some (σ.1 k93 1) else rb_b1 (xf_Fig_letterAt k93 p1 σ) fun r6 => some r6) else none
set_option maxHeartbeats 4000000 in
set_option maxRecDepth 100000 in
theorem xk_RP_step {z : rb_Z} {w : rb_Wd} (hC : rb_Cx z rb_vX w RX11 cX11_step 4 (some .int) 1) (p0 : Int32) (p1 : Int32) (σ : rb_St) (r : Int32) (h : xf_RP_step p0 p1 σ = some r) : rb_At z rb_vX w 4 (rb_Q z rb_vX w (some (.int r)) σ) 0 [(0, .ref (rb_ad w 0)), (1, .int p0), (2, .int p1)] [] σ := by
  unfold xf_RP_step at h
  refine rb_aload_n hC 0 dX11_step_0 rfl ?_
  refine rb_iload_n hC 1 dX11_step_1 rfl ?_
  refine rb_callVi hC rb_VokX mv_X11_217 (xc_RP_isFigure p0 σ _ rfl) rb_obX0 rfl [.int p0] rfl rfl rfl ⟨Nat.le_of_ble_eq_true rfl, Nat.le_of_ble_eq_true rfl⟩ (Nat.le_of_ble_eq_true rfl) dX11_step_2 ?_
  refine rb_if_ne hC 10 dX11_step_5 (by decide) (fun c1 => ?_) (fun c1 => ?_)
  · replace h := rb_ifn c1 h
    refine rb_aload_n hC 0 dX11_step_10 rfl ?_
    refine rb_getR hC fr_X11_75_10 rb_obX0 rfl dX11_step_11 ?_
    refine rb_iload_n hC 1 dX11_step_14 rfl ?_
    obtain ⟨g2, h⟩ := rb_gd h
    refine rb_aald hC rb_rrX231 (fun _ => rfl) (rb_ibI g2) dX11_step_15 ?_
    obtain ⟨k93, e4, h⟩ := rb_ltE h
    have hk93 : rb_isFig k93 := e4 ▸ (rb_isFig_of g2)
    refine rb_nmR e4 ?_
    refine rb_astore_n hC [(3, .ref (rb_ad w k93)), (0, .ref (rb_ad w 0)), (1, .int p0), (2, .int p1)] dX11_step_16 (by decide) rfl ?_
    refine rb_iload_n hC 3 dX11_step_17 rfl ?_
    refine rb_iconst (x := (-1)) hC dX11_step_18 (by decide) ?_
    refine rb_icmp_ne hC 29 dX11_step_19 (by decide) (fun c5 => ?_) (fun c5 => ?_)
    · replace h := rb_ifn c5 h
      refine rb_aload_n hC 0 dX11_step_29 rfl ?_
      refine rb_iload_n hC 3 dX11_step_30 rfl ?_
      obtain ⟨r6, q7, h⟩ := rb_b1s h
      refine rb_callVi hC rb_VokX mv_X11_221 (xc_Fig_letterAt k93 hk93 p1 σ _ q7) (rb_obFig hk93) rfl [.int p1] rfl rfl rfl ⟨Nat.le_of_ble_eq_true rfl, Nat.le_of_ble_eq_true rfl⟩ (Nat.le_of_ble_eq_true rfl) dX11_step_31 ?_
      cases h
      exact rb_iret hC dX11_step_34
    · replace h := rb_ifp c5 h
      refine rb_aload_n hC 0 dX11_step_22 rfl ?_
      refine rb_getI hC fr_X11_220_1 (rb_obFig hk93) rfl dX11_step_23 ?_
      refine rb_goto hC 34 dX11_step_26 (by decide) ?_
      cases h
      exact rb_iret hC dX11_step_34
  · replace h := rb_ifp c1 h
    refine rb_iconst (x := (-1)) hC dX11_step_8 (by decide) ?_
    cases h
    exact rb_iret hC dX11_step_9
theorem xc_RP_step (p0 : Int32) (p1 : Int32) (σ : rb_St) (r : Int32) (h : xf_RP_step p0 p1 σ = some r) : rb_Con rb_vX yX11_step cX11_step 4 (some .int) 1 (fun w => [.ref (rb_ad w 0), .int p0, .int p1]) σ (fun _ => (some (.int r))) σ := rb_Con.of (by decide +kernel) (fun _ => Nat.le_of_ble_eq_true rfl) (fun z w hC => xk_RP_step hC p0 p1 σ r h)
theorem fr_X11_79_10 : rb_FR RX11 79 10 13 := ⟨RX11, TX11, 20, "RibbonPole", rfl, rb_uX11, by decide, rb_in (by decide +kernel) (by decide +kernel), Or.inl rfl⟩
def xf_RP_status (p0 : Int32) (σ : rb_St) : Option Int32 := if p0 < 0 then some (-1) else if p0 < 5 then if rb_ib p0 5 then some (σ.1 232 p0.toNatClampNeg) else none else some (-1)
set_option maxHeartbeats 4000000 in
set_option maxRecDepth 100000 in
theorem xk_RP_status {z : rb_Z} {w : rb_Wd} (hC : rb_Cx z rb_vX w RX11 cX11_status 2 (some .int) 0) (p0 : Int32) (σ : rb_St) (r : Int32) (h : xf_RP_status p0 σ = some r) : rb_At z rb_vX w 2 (rb_Q z rb_vX w (some (.int r)) σ) 0 [(0, .ref (rb_ad w 0)), (1, .int p0)] [] σ := by
  unfold xf_RP_status at h
  refine rb_iload_n hC 1 dX11_status_0 rfl ?_
  refine rb_if_lt hC 9 dX11_status_1 (by decide) (fun c1 => ?_) (fun c1 => ?_)
  · replace h := rb_ifp c1 h
    refine rb_iconst (x := (-1)) hC dX11_status_9 (by decide) ?_
    refine rb_goto hC 19 dX11_status_10 (by decide) ?_
    cases h
    exact rb_iret hC dX11_status_19
  · replace h := rb_ifn c1 h
    refine rb_iload_n hC 1 dX11_status_4 rfl ?_
    refine rb_iconst (x := 5) hC dX11_status_5 (by decide) ?_
    refine rb_icmp_lt hC 13 dX11_status_6 (by decide) (fun c2 => ?_) (fun c2 => ?_)
    · replace h := rb_ifp c2 h
      refine rb_aload_n hC 0 dX11_status_13 rfl ?_
      refine rb_getR hC fr_X11_79_10 rb_obX0 rfl dX11_status_14 ?_
      refine rb_iload_n hC 1 dX11_status_17 rfl ?_
      obtain ⟨g3, h⟩ := rb_gd h
      refine rb_iald hC rb_arX232 (rb_ibI g3) dX11_status_18 ?_
      cases h
      exact rb_iret hC dX11_status_19
    · replace h := rb_ifn c2 h
      refine rb_iconst (x := (-1)) hC dX11_status_9 (by decide) ?_
      refine rb_goto hC 19 dX11_status_10 (by decide) ?_
      cases h
      exact rb_iret hC dX11_status_19
theorem xc_RP_status (p0 : Int32) (σ : rb_St) (r : Int32) (h : xf_RP_status p0 σ = some r) : rb_Con rb_vX yX11_status cX11_status 2 (some .int) 0 (fun w => [.ref (rb_ad w 0), .int p0]) σ (fun _ => (some (.int r))) σ := rb_Con.of (by decide +kernel) (fun _ => Nat.le_of_ble_eq_true rfl) (fun z w hC => xk_RP_status hC p0 σ r h)
theorem me_X7_entryCount : Cond.instanceMethod yX7_entryCount ∈ rb_tbl ∧ Cond.selects yX7_entryCount.cls yX7_entryCount yX7_entryCount ∈ rb_tbl ∧ Cond.initialized yX7_entryCount.cls ∈ rb_tbl ∧ Cond.code yX7_entryCount cX7_entryCount 1 (some .int) ∈ rb_tbl ∧ rb_pn yX7_entryCount 0 := ⟨rb_in (by decide +kernel) (by decide +kernel), rb_in (by decide +kernel) (by decide +kernel), rb_in (by decide +kernel) (by decide +kernel), rb_in (by decide +kernel) (by decide +kernel), by decide +kernel, by decide +kernel, by decide +kernel⟩
theorem mv_X11_244 : rb_MV RX11 244 yX7_entryCount cX7_entryCount 1 (some .int) 0 := ⟨rb_in (by decide +kernel) (by decide +kernel), me_X7_entryCount⟩
theorem me_X7_entryAgo : Cond.instanceMethod yX7_entryAgo ∈ rb_tbl ∧ Cond.selects yX7_entryAgo.cls yX7_entryAgo yX7_entryAgo ∈ rb_tbl ∧ Cond.initialized yX7_entryAgo.cls ∈ rb_tbl ∧ Cond.code yX7_entryAgo cX7_entryAgo 3 (some .int) ∈ rb_tbl ∧ rb_pn yX7_entryAgo 1 := ⟨rb_in (by decide +kernel) (by decide +kernel), rb_in (by decide +kernel) (by decide +kernel), rb_in (by decide +kernel) (by decide +kernel), rb_in (by decide +kernel) (by decide +kernel), by decide +kernel, by decide +kernel, by decide +kernel⟩
theorem mv_X11_247 : rb_MV RX11 247 yX7_entryAgo cX7_entryAgo 3 (some .int) 1 := ⟨rb_in (by decide +kernel) (by decide +kernel), me_X7_entryAgo⟩
def xf_RP_log (p0 : Int32) (p1 : Int32) (σ : rb_St) : Option Int32 := if p0 < 0 then some (-1) else if p0 < (xf_Pole_entryCount 18 σ) then rb_b1 (xf_Pole_entryAgo 18 p0 σ) fun r3 => if p1 = 0 then some (r3 &&& 31) else if p1 = 1 then some ((r3 >>> (5 &&& 31)) &&& 1) else if p1 = 2 then some (r3 >>> (6 &&& 31)) else some (-1) else some (-1)
set_option maxHeartbeats 4000000 in
set_option maxRecDepth 100000 in
theorem xk_RP_log {z : rb_Z} {w : rb_Wd} (hC : rb_Cx z rb_vX w RX11 cX11_log 4 (some .int) 2) (p0 : Int32) (p1 : Int32) (σ : rb_St) (r : Int32) (h : xf_RP_log p0 p1 σ = some r) : rb_At z rb_vX w 4 (rb_Q z rb_vX w (some (.int r)) σ) 0 [(0, .ref (rb_ad w 0)), (1, .int p0), (2, .int p1)] [] σ := by
  unfold xf_RP_log at h
  refine rb_iload_n hC 1 dX11_log_0 rfl ?_
  refine rb_if_lt hC 15 dX11_log_1 (by decide) (fun c1 => ?_) (fun c1 => ?_)
  · replace h := rb_ifp c1 h
    refine rb_iconst (x := (-1)) hC dX11_log_15 (by decide) ?_
    cases h
    exact rb_iret hC dX11_log_16
  · replace h := rb_ifn c1 h
    refine rb_iload_n hC 1 dX11_log_4 rfl ?_
    refine rb_aload_n hC 0 dX11_log_5 rfl ?_
    refine rb_getR hC fr_X11_49_10 rb_obX0 rfl dX11_log_6 ?_
    refine rb_callVi hC rb_VokX mv_X11_244 (xc_Pole_entryCount 18 rb_isPole18 σ _ rfl) (rb_obPole rb_isPole18) rfl [] rfl rfl rfl ⟨Nat.le_of_ble_eq_true rfl, Nat.le_of_ble_eq_true rfl⟩ (Nat.le_of_ble_eq_true rfl) dX11_log_9 ?_
    refine rb_icmp_lt hC 17 dX11_log_12 (by decide) (fun c2 => ?_) (fun c2 => ?_)
    · replace h := rb_ifp c2 h
      refine rb_aload_n hC 0 dX11_log_17 rfl ?_
      refine rb_getR hC fr_X11_49_10 rb_obX0 rfl dX11_log_18 ?_
      refine rb_iload_n hC 1 dX11_log_21 rfl ?_
      obtain ⟨r3, q4, h⟩ := rb_b1s h
      refine rb_callVi hC rb_VokX mv_X11_247 (xc_Pole_entryAgo 18 rb_isPole18 p0 σ _ q4) (rb_obPole rb_isPole18) rfl [.int p0] rfl rfl rfl ⟨Nat.le_of_ble_eq_true rfl, Nat.le_of_ble_eq_true rfl⟩ (Nat.le_of_ble_eq_true rfl) dX11_log_22 ?_
      refine rb_istore_n hC [(3, .int r3), (0, .ref (rb_ad w 0)), (1, .int p0), (2, .int p1)] dX11_log_25 (by decide) rfl ?_
      refine rb_iload_n hC 3 dX11_log_26 rfl ?_
      by_cases c27_0 : p1 = 0
      · replace h := rb_ifp c27_0 h
        refine rb_tableIn hC 52 dX11_log_27 (by rw [c27_0]; decide) (by rw [c27_0]; decide) (by rw [c27_0]; rfl) (by decide) ?_
        refine rb_iload_n hC 0 dX11_log_52 rfl ?_
        refine rb_bipush (x := 31) hC dX11_log_53 (by decide) ?_
        refine rb_iand hC dX11_log_55 ?_
        cases h
        exact rb_iret hC dX11_log_56
      · replace h := rb_ifn c27_0 h
        by_cases c27_1 : p1 = 1
        · replace h := rb_ifp c27_1 h
          refine rb_tableIn hC 57 dX11_log_27 (by rw [c27_1]; decide) (by rw [c27_1]; decide) (by rw [c27_1]; rfl) (by decide) ?_
          refine rb_iload_n hC 0 dX11_log_57 rfl ?_
          refine rb_iconst (x := 5) hC dX11_log_58 (by decide) ?_
          refine rb_ishr hC dX11_log_59 ?_
          refine rb_iconst (x := 1) hC dX11_log_60 (by decide) ?_
          refine rb_iand hC dX11_log_61 ?_
          cases h
          exact rb_iret hC dX11_log_62
        · replace h := rb_ifn c27_1 h
          by_cases c27_2 : p1 = 2
          · replace h := rb_ifp c27_2 h
            refine rb_tableIn hC 63 dX11_log_27 (by rw [c27_2]; decide) (by rw [c27_2]; decide) (by rw [c27_2]; rfl) (by decide) ?_
            refine rb_iload_n hC 0 dX11_log_63 rfl ?_
            refine rb_bipush (x := 6) hC dX11_log_64 (by decide) ?_
            refine rb_ishr hC dX11_log_66 ?_
            cases h
            exact rb_iret hC dX11_log_67
          · replace h := rb_ifn c27_2 h
            have hO : p1.toInt < 0 ∨ 2 < p1.toInt := by
              have n0 : p1.toInt ≠ 0 := fun q3 => c27_0 (Int32.toInt_inj.mp (q3.trans (by decide)))
              have n1 : p1.toInt ≠ 1 := fun q3 => c27_1 (Int32.toInt_inj.mp (q3.trans (by decide)))
              have n2 : p1.toInt ≠ 2 := fun q3 => c27_2 (Int32.toInt_inj.mp (q3.trans (by decide)))
              omega
            refine rb_tableOut hC 68 dX11_log_27 hO (by decide) ?_
            refine rb_iconst (x := (-1)) hC dX11_log_68 (by decide) ?_
            cases h
            exact rb_iret hC dX11_log_69
    · replace h := rb_ifn c2 h
      refine rb_iconst (x := (-1)) hC dX11_log_15 (by decide) ?_
      cases h
      exact rb_iret hC dX11_log_16
theorem xc_RP_log (p0 : Int32) (p1 : Int32) (σ : rb_St) (r : Int32) (h : xf_RP_log p0 p1 σ = some r) : rb_Con rb_vX yX11_log cX11_log 4 (some .int) 2 (fun w => [.ref (rb_ad w 0), .int p0, .int p1]) σ (fun _ => (some (.int r))) σ := rb_Con.of (by decide +kernel) (fun _ => Nat.le_of_ble_eq_true rfl) (fun z w hC => xk_RP_log hC p0 p1 σ r h)
theorem fr_X11_224_7 : rb_FR RX11 224 7 1 := ⟨RX7, TX7, 8, "RibbonPole$Pole", rfl, rb_uX7, by decide, rb_in (by decide +kernel) (by decide +kernel), Or.inl rfl⟩
theorem fr_X11_250_7 : rb_FR RX11 250 7 3 := ⟨RX7, TX7, 8, "RibbonPole$Pole", rfl, rb_uX7, by decide, rb_in (by decide +kernel) (by decide +kernel), Or.inl rfl⟩
theorem fr_X11_152_10 : rb_FR RX11 152 10 15 := ⟨RX11, TX11, 20, "RibbonPole", rfl, rb_uX11, by decide, rb_in (by decide +kernel) (by decide +kernel), Or.inl rfl⟩
theorem fr_X11_59_10 : rb_FR RX11 59 10 7 := ⟨RX11, TX11, 20, "RibbonPole", rfl, rb_uX11, by decide, rb_in (by decide +kernel) (by decide +kernel), Or.inl rfl⟩
theorem fr_X11_253_0 : rb_FR RX11 253 0 2 := ⟨RX0, TX0, 3, "RibbonPole$Acts", rfl, rb_uX0, by decide, rb_in (by decide +kernel) (by decide +kernel), Or.inl rfl⟩
theorem kc_X11_254 : Cond.constant RX11 254 (-1000000) ∈ rb_tbl := rb_in (by decide +kernel) (by decide +kernel)
def xf_RP_count (p0 : Int32) (σ : rb_St) : Int32 := if p0 = 0 then σ.1 15 2 else if p0 = 1 then σ.1 18 1 else if p0 = 2 then σ.1 0 9 else if p0 = 3 then σ.1 0 12 else if p0 = 4 then σ.1 1 1 else if p0 = 5 then σ.1 0 10 else if p0 = 6 then σ.1 18 3 else if p0 = 7 then σ.1 0 15 else if p0 = 8 then xf_Pole_entryCount 18 σ else if p0 = 9 then σ.1 28 2 else (-1000000)
set_option maxHeartbeats 4000000 in
set_option maxRecDepth 100000 in
theorem xk_RP_count {z : rb_Z} {w : rb_Wd} (hC : rb_Cx z rb_vX w RX11 cX11_count 2 (some .int) 2) (p0 : Int32) (σ : rb_St) (r : Int32) (h : xf_RP_count p0 σ = r) : rb_At z rb_vX w 2 (rb_Q z rb_vX w (some (.int r)) σ) 0 [(0, .ref (rb_ad w 0)), (1, .int p0)] [] σ := by
  unfold xf_RP_count at h
  refine rb_iload_n hC 1 dX11_count_0 rfl ?_
  by_cases c1_0 : p0 = 0
  · replace h := rb_ifp c1_0 h
    refine rb_tableIn hC 56 dX11_count_1 (by rw [c1_0]; decide) (by rw [c1_0]; decide) (by rw [c1_0]; rfl) (by decide) ?_
    refine rb_aload_n hC 0 dX11_count_56 rfl ?_
    refine rb_getR hC fr_X11_42_10 rb_obX0 rfl dX11_count_57 ?_
    refine rb_getI hC fr_X11_155_3 rb_obX15 rfl dX11_count_60 ?_
    subst h
    exact rb_iret hC dX11_count_63
  · replace h := rb_ifn c1_0 h
    by_cases c1_1 : p0 = 1
    · replace h := rb_ifp c1_1 h
      refine rb_tableIn hC 64 dX11_count_1 (by rw [c1_1]; decide) (by rw [c1_1]; decide) (by rw [c1_1]; rfl) (by decide) ?_
      refine rb_aload_n hC 0 dX11_count_64 rfl ?_
      refine rb_getR hC fr_X11_49_10 rb_obX0 rfl dX11_count_65 ?_
      refine rb_getI hC fr_X11_224_7 (rb_obPole rb_isPole18) rfl dX11_count_68 ?_
      subst h
      exact rb_iret hC dX11_count_71
    · replace h := rb_ifn c1_1 h
      by_cases c1_2 : p0 = 2
      · replace h := rb_ifp c1_2 h
        refine rb_tableIn hC 72 dX11_count_1 (by rw [c1_2]; decide) (by rw [c1_2]; decide) (by rw [c1_2]; rfl) (by decide) ?_
        refine rb_aload_n hC 0 dX11_count_72 rfl ?_
        refine rb_getI hC fr_X11_158_10 rb_obX0 rfl dX11_count_73 ?_
        subst h
        exact rb_iret hC dX11_count_76
      · replace h := rb_ifn c1_2 h
        by_cases c1_3 : p0 = 3
        · replace h := rb_ifp c1_3 h
          refine rb_tableIn hC 77 dX11_count_1 (by rw [c1_3]; decide) (by rw [c1_3]; decide) (by rw [c1_3]; rfl) (by decide) ?_
          refine rb_aload_n hC 0 dX11_count_77 rfl ?_
          refine rb_getI hC fr_X11_167_10 rb_obX0 rfl dX11_count_78 ?_
          subst h
          exact rb_iret hC dX11_count_81
        · replace h := rb_ifn c1_3 h
          by_cases c1_4 : p0 = 4
          · replace h := rb_ifp c1_4 h
            refine rb_tableIn hC 82 dX11_count_1 (by rw [c1_4]; decide) (by rw [c1_4]; decide) (by rw [c1_4]; rfl) (by decide) ?_
            refine rb_aload_n hC 0 dX11_count_82 rfl ?_
            refine rb_getR hC fr_X11_10_10 rb_obX0 rfl dX11_count_83 ?_
            refine rb_getI hC fr_X11_106_8 rb_obX1 rfl dX11_count_86 ?_
            subst h
            exact rb_iret hC dX11_count_89
          · replace h := rb_ifn c1_4 h
            by_cases c1_5 : p0 = 5
            · replace h := rb_ifp c1_5 h
              refine rb_tableIn hC 90 dX11_count_1 (by rw [c1_5]; decide) (by rw [c1_5]; decide) (by rw [c1_5]; rfl) (by decide) ?_
              refine rb_aload_n hC 0 dX11_count_90 rfl ?_
              refine rb_getI hC fr_X11_69_10 rb_obX0 rfl dX11_count_91 ?_
              subst h
              exact rb_iret hC dX11_count_94
            · replace h := rb_ifn c1_5 h
              by_cases c1_6 : p0 = 6
              · replace h := rb_ifp c1_6 h
                refine rb_tableIn hC 95 dX11_count_1 (by rw [c1_6]; decide) (by rw [c1_6]; decide) (by rw [c1_6]; rfl) (by decide) ?_
                refine rb_aload_n hC 0 dX11_count_95 rfl ?_
                refine rb_getR hC fr_X11_49_10 rb_obX0 rfl dX11_count_96 ?_
                refine rb_getI hC fr_X11_250_7 (rb_obPole rb_isPole18) rfl dX11_count_99 ?_
                subst h
                exact rb_iret hC dX11_count_102
              · replace h := rb_ifn c1_6 h
                by_cases c1_7 : p0 = 7
                · replace h := rb_ifp c1_7 h
                  refine rb_tableIn hC 103 dX11_count_1 (by rw [c1_7]; decide) (by rw [c1_7]; decide) (by rw [c1_7]; rfl) (by decide) ?_
                  refine rb_aload_n hC 0 dX11_count_103 rfl ?_
                  refine rb_getI hC fr_X11_152_10 rb_obX0 rfl dX11_count_104 ?_
                  subst h
                  exact rb_iret hC dX11_count_107
                · replace h := rb_ifn c1_7 h
                  by_cases c1_8 : p0 = 8
                  · replace h := rb_ifp c1_8 h
                    refine rb_tableIn hC 108 dX11_count_1 (by rw [c1_8]; decide) (by rw [c1_8]; decide) (by rw [c1_8]; rfl) (by decide) ?_
                    refine rb_aload_n hC 0 dX11_count_108 rfl ?_
                    refine rb_getR hC fr_X11_49_10 rb_obX0 rfl dX11_count_109 ?_
                    refine rb_callVi hC rb_VokX mv_X11_244 (xc_Pole_entryCount 18 rb_isPole18 σ _ rfl) (rb_obPole rb_isPole18) rfl [] rfl rfl rfl ⟨Nat.le_of_ble_eq_true rfl, Nat.le_of_ble_eq_true rfl⟩ (Nat.le_of_ble_eq_true rfl) dX11_count_112 ?_
                    subst h
                    exact rb_iret hC dX11_count_115
                  · replace h := rb_ifn c1_8 h
                    by_cases c1_9 : p0 = 9
                    · replace h := rb_ifp c1_9 h
                      refine rb_tableIn hC 116 dX11_count_1 (by rw [c1_9]; decide) (by rw [c1_9]; decide) (by rw [c1_9]; rfl) (by decide) ?_
                      refine rb_aload_n hC 0 dX11_count_116 rfl ?_
                      refine rb_getR hC fr_X11_59_10 rb_obX0 rfl dX11_count_117 ?_
                      refine rb_getI hC fr_X11_253_0 rb_obX28 rfl dX11_count_120 ?_
                      subst h
                      exact rb_iret hC dX11_count_123
                    · replace h := rb_ifn c1_9 h
                      have hO : p0.toInt < 0 ∨ 9 < p0.toInt := by
                        have n0 : p0.toInt ≠ 0 := fun q3 => c1_0 (Int32.toInt_inj.mp (q3.trans (by decide)))
                        have n1 : p0.toInt ≠ 1 := fun q3 => c1_1 (Int32.toInt_inj.mp (q3.trans (by decide)))
                        have n2 : p0.toInt ≠ 2 := fun q3 => c1_2 (Int32.toInt_inj.mp (q3.trans (by decide)))
                        have n3 : p0.toInt ≠ 3 := fun q3 => c1_3 (Int32.toInt_inj.mp (q3.trans (by decide)))
                        have n4 : p0.toInt ≠ 4 := fun q3 => c1_4 (Int32.toInt_inj.mp (q3.trans (by decide)))
                        have n5 : p0.toInt ≠ 5 := fun q3 => c1_5 (Int32.toInt_inj.mp (q3.trans (by decide)))
                        have n6 : p0.toInt ≠ 6 := fun q3 => c1_6 (Int32.toInt_inj.mp (q3.trans (by decide)))
                        have n7 : p0.toInt ≠ 7 := fun q3 => c1_7 (Int32.toInt_inj.mp (q3.trans (by decide)))
                        have n8 : p0.toInt ≠ 8 := fun q3 => c1_8 (Int32.toInt_inj.mp (q3.trans (by decide)))
                        have n9 : p0.toInt ≠ 9 := fun q3 => c1_9 (Int32.toInt_inj.mp (q3.trans (by decide)))
                        omega
                      refine rb_tableOut hC 124 dX11_count_1 hO (by decide) ?_
                      refine rb_ldc hC kc_X11_254 dX11_count_124 ?_
                      subst h
                      exact rb_iret hC dX11_count_126
theorem xc_RP_count (p0 : Int32) (σ : rb_St) (r : Int32) (h : xf_RP_count p0 σ = r) : rb_Con rb_vX yX11_count cX11_count 2 (some .int) 2 (fun w => [.ref (rb_ad w 0), .int p0]) σ (fun _ => (some (.int r))) σ := rb_Con.of (by decide +kernel) (fun _ => Nat.le_of_ble_eq_true rfl) (fun z w hC => xk_RP_count hC p0 σ r h)
def xf_RP_refuse (p0 : Int32) (σ : rb_St) : Option (Int32 × rb_St) := if p0 < 0 then some ((-1), σ) else if 5 ≤ p0 then some ((-1), σ) else if rb_ib p0 5 then rb_lt (rb_sI σ 232 p0.toNatClampNeg ((σ.1 232 p0.toNatClampNeg) + 1)) (fun s4 => some ((-1), s4)) else none
set_option maxHeartbeats 4000000 in
set_option maxRecDepth 100000 in
theorem xk_RP_refuse {z : rb_Z} {w : rb_Wd} (hC : rb_Cx z rb_vX w RX11 cX11_refuse 2 (some .int) 0) (p0 : Int32) (σ : rb_St) (r : Int32) (σ9 : rb_St) (h : xf_RP_refuse p0 σ = some (r, σ9)) : rb_At z rb_vX w 2 (rb_Q z rb_vX w (some (.int r)) σ9) 0 [(0, .ref (rb_ad w 0)), (1, .int p0)] [] σ := by
  unfold xf_RP_refuse at h
  refine rb_iload_n hC 1 dX11_refuse_0 rfl ?_
  refine rb_if_lt hC 19 dX11_refuse_1 (by decide) (fun c1 => ?_) (fun c1 => ?_)
  · replace h := rb_ifp c1 h
    refine rb_iconst (x := (-1)) hC dX11_refuse_19 (by decide) ?_
    cases h
    exact rb_iret hC dX11_refuse_20
  · replace h := rb_ifn c1 h
    refine rb_iload_n hC 1 dX11_refuse_4 rfl ?_
    refine rb_iconst (x := 5) hC dX11_refuse_5 (by decide) ?_
    refine rb_icmp_ge hC 19 dX11_refuse_6 (by decide) (fun c2 => ?_) (fun c2 => ?_)
    · replace h := rb_ifp c2 h
      refine rb_iconst (x := (-1)) hC dX11_refuse_19 (by decide) ?_
      cases h
      exact rb_iret hC dX11_refuse_20
    · replace h := rb_ifn c2 h
      refine rb_aload_n hC 0 dX11_refuse_9 rfl ?_
      refine rb_getR hC fr_X11_79_10 rb_obX0 rfl dX11_refuse_10 ?_
      refine rb_iload_n hC 1 dX11_refuse_13 rfl ?_
      refine rb_dup2_11 hC dX11_refuse_14 rfl rfl ?_
      obtain ⟨g3, h⟩ := rb_gd h
      refine rb_iald hC rb_arX232 (rb_ibI g3) dX11_refuse_15 ?_
      refine rb_iconst (x := 1) hC dX11_refuse_16 (by decide) ?_
      refine rb_iadd hC dX11_refuse_17 ?_
      refine rb_iast hC rb_arX232 (rb_ibI g3) dX11_refuse_18 ?_
      obtain ⟨s4, e5, h⟩ := rb_ltE h
      refine rb_nmS e5 ?_
      refine rb_iconst (x := (-1)) hC dX11_refuse_19 (by decide) ?_
      cases h
      exact rb_iret hC dX11_refuse_20
theorem xc_RP_refuse (p0 : Int32) (σ : rb_St) (r : Int32) (σ9 : rb_St) (h : xf_RP_refuse p0 σ = some (r, σ9)) : rb_Con rb_vX yX11_refuse cX11_refuse 2 (some .int) 0 (fun w => [.ref (rb_ad w 0), .int p0]) σ (fun _ => (some (.int r))) σ9 := rb_Con.of (by decide +kernel) (fun _ => Nat.le_of_ble_eq_true rfl) (fun z w hC => xk_RP_refuse hC p0 σ r σ9 h)
def xf_RP_letterOf (p0 : Int32) (p1 : Int32) (σ : rb_St) : Int32 := if p1 = 0 then (2 * p0) + 1 else 2 * p0
set_option maxHeartbeats 4000000 in
set_option maxRecDepth 100000 in
theorem xk_RP_letterOf {z : rb_Z} {w : rb_Wd} (hC : rb_Cx z rb_vX w RX11 cX11_letterOf 2 (some .int) 0) (p0 : Int32) (p1 : Int32) (σ : rb_St) (r : Int32) (h : xf_RP_letterOf p0 p1 σ = r) : rb_At z rb_vX w 2 (rb_Q z rb_vX w (some (.int r)) σ) 0 [(0, .int p0), (1, .int p1)] [] σ := by
  unfold xf_RP_letterOf at h
  refine rb_iload_n hC 1 dX11_letterOf_0 rfl ?_
  refine rb_if_eq hC 10 dX11_letterOf_1 (by decide) (fun c1 => ?_) (fun c1 => ?_)
  · replace h := rb_ifp c1 h
    refine rb_iconst (x := 2) hC dX11_letterOf_10 (by decide) ?_
    refine rb_iload_n hC 0 dX11_letterOf_11 rfl ?_
    refine rb_imul hC dX11_letterOf_12 ?_
    refine rb_iconst (x := 1) hC dX11_letterOf_13 (by decide) ?_
    refine rb_iadd hC dX11_letterOf_14 ?_
    subst h
    exact rb_iret hC dX11_letterOf_15
  · replace h := rb_ifn c1 h
    refine rb_iconst (x := 2) hC dX11_letterOf_4 (by decide) ?_
    refine rb_iload_n hC 0 dX11_letterOf_5 rfl ?_
    refine rb_imul hC dX11_letterOf_6 ?_
    refine rb_goto hC 15 dX11_letterOf_7 (by decide) ?_
    subst h
    exact rb_iret hC dX11_letterOf_15
theorem xc_RP_letterOf (p0 : Int32) (p1 : Int32) (σ : rb_St) (r : Int32) (h : xf_RP_letterOf p0 p1 σ = r) : rb_Con rb_vX yX11_letterOf cX11_letterOf 2 (some .int) 0 (fun w => [.int p0, .int p1]) σ (fun _ => (some (.int r))) σ := rb_Con.of (by decide +kernel) (fun _ => Nat.le_of_ble_eq_true rfl) (fun z w hC => xk_RP_letterOf hC p0 p1 σ r h)
theorem me_X11_isDancer : Cond.instanceMethod yX11_isDancer ∈ rb_tbl ∧ Cond.selects yX11_isDancer.cls yX11_isDancer yX11_isDancer ∈ rb_tbl ∧ Cond.initialized yX11_isDancer.cls ∈ rb_tbl ∧ Cond.code yX11_isDancer cX11_isDancer 2 (some .boolean) ∈ rb_tbl ∧ rb_pn yX11_isDancer 1 := ⟨rb_in (by decide +kernel) (by decide +kernel), rb_in (by decide +kernel) (by decide +kernel), rb_in (by decide +kernel) (by decide +kernel), rb_in (by decide +kernel) (by decide +kernel), by decide +kernel, by decide +kernel, by decide +kernel⟩
theorem mv_X11_188 : rb_MV RX11 188 yX11_isDancer cX11_isDancer 2 (some .boolean) 1 := ⟨rb_in (by decide +kernel) (by decide +kernel), me_X11_isDancer⟩
theorem me_X11_refuse : Cond.instanceMethod yX11_refuse ∈ rb_tbl ∧ Cond.selects yX11_refuse.cls yX11_refuse yX11_refuse ∈ rb_tbl ∧ Cond.initialized yX11_refuse.cls ∈ rb_tbl ∧ Cond.code yX11_refuse cX11_refuse 2 (some .int) ∈ rb_tbl ∧ rb_pn yX11_refuse 1 := ⟨rb_in (by decide +kernel) (by decide +kernel), rb_in (by decide +kernel) (by decide +kernel), rb_in (by decide +kernel) (by decide +kernel), rb_in (by decide +kernel) (by decide +kernel), by decide +kernel, by decide +kernel, by decide +kernel⟩
theorem mv_X11_303 : rb_MV RX11 303 yX11_refuse cX11_refuse 2 (some .int) 1 := ⟨rb_in (by decide +kernel) (by decide +kernel), me_X11_refuse⟩
theorem fr_X11_199_7 : rb_FR RX11 199 7 5 := ⟨RX7, TX7, 8, "RibbonPole$Pole", rfl, rb_uX7, by decide, rb_in (by decide +kernel) (by decide +kernel), Or.inl rfl⟩
theorem me_X0_keep : Cond.instanceMethod yX0_keep ∈ rb_tbl ∧ Cond.selects yX0_keep.cls yX0_keep yX0_keep ∈ rb_tbl ∧ Cond.initialized yX0_keep.cls ∈ rb_tbl ∧ Cond.code yX0_keep cX0_keep 2 none ∈ rb_tbl ∧ rb_pn yX0_keep 1 := ⟨rb_in (by decide +kernel) (by decide +kernel), rb_in (by decide +kernel) (by decide +kernel), rb_in (by decide +kernel) (by decide +kernel), rb_in (by decide +kernel) (by decide +kernel), by decide +kernel, by decide +kernel, by decide +kernel⟩
theorem mv_X11_293 : rb_MV RX11 293 yX0_keep cX0_keep 2 none 1 := ⟨rb_in (by decide +kernel) (by decide +kernel), me_X0_keep⟩
def xf_RP_longer (p0 : Int32) (p1 : Int32) (σ : rb_St) : Option (Int32 × rb_St) := if (xf_RP_isDancer p0 σ) = 0 then rb_b2 (xf_RP_refuse 0 σ) fun r27 s25 => some (r27, s25) else if p1 < 1 then rb_b2 (xf_RP_refuse 1 σ) fun r5 s3 => some (r5, s3) else if p1 ≤ 20 then if (σ.1 18 2) < p1 then rb_b2 (xf_RP_refuse 3 σ) fun r10 s8 => some (r10, s8) else if rb_ib p0 8 then if ((σ.1 (18 + 2) p0.toNatClampNeg) + p1) ≤ 99 then rb_b1 (xf_Acts_keep 18 σ) fun s13 => rb_lt (rb_sI s13 18 2 ((s13.1 18 2) - p1)) (fun s15 => rb_lt (rb_sI s15 (18 + 2) p0.toNatClampNeg ((s15.1 (18 + 2) p0.toNatClampNeg) + p1)) (fun s17 => some (s17.1 (18 + 2) p0.toNatClampNeg, s17))) else rb_b2 (xf_RP_refuse 3 σ) fun r21 s19 => some (r21, s19) else none else rb_b2 (xf_RP_refuse 1 σ) fun r24 s22 => some (r24, s22)
set_option maxHeartbeats 4000000 in
set_option maxRecDepth 100000 in
theorem xk_RP_longer {z : rb_Z} {w : rb_Wd} (hC : rb_Cx z rb_vX w RX11 cX11_longer 3 (some .int) 4) (p0 : Int32) (p1 : Int32) (σ : rb_St) (r : Int32) (σ9 : rb_St) (h : xf_RP_longer p0 p1 σ = some (r, σ9)) : rb_At z rb_vX w 3 (rb_Q z rb_vX w (some (.int r)) σ9) 0 [(0, .ref (rb_ad w 0)), (1, .int p0), (2, .int p1)] [] σ := by
  unfold xf_RP_longer at h
  refine rb_aload_n hC 0 dX11_longer_0 rfl ?_
  refine rb_iload_n hC 1 dX11_longer_1 rfl ?_
  refine rb_callVi hC rb_VokX mv_X11_188 (xc_RP_isDancer p0 σ _ rfl) rb_obX0 rfl [.int p0] rfl rfl rfl ⟨Nat.le_of_ble_eq_true rfl, Nat.le_of_ble_eq_true rfl⟩ (Nat.le_of_ble_eq_true rfl) dX11_longer_2 ?_
  refine rb_if_ne hC 14 dX11_longer_5 (by decide) (fun c1 => ?_) (fun c1 => ?_)
  · replace h := rb_ifn c1 h
    refine rb_iload_n hC 2 dX11_longer_14 rfl ?_
    refine rb_iconst (x := 1) hC dX11_longer_15 (by decide) ?_
    refine rb_icmp_lt hC 25 dX11_longer_16 (by decide) (fun c2 => ?_) (fun c2 => ?_)
    · replace h := rb_ifp c2 h
      refine rb_aload_n hC 0 dX11_longer_25 rfl ?_
      refine rb_iconst (x := 1) hC dX11_longer_26 (by decide) ?_
      obtain ⟨r5, s3, q4, h⟩ := rb_b2s h
      refine rb_callVi hC rb_VokX mv_X11_303 (xc_RP_refuse 1 σ _ _ q4) rb_obX0 rfl [.int 1] rfl rfl rfl ⟨Nat.le_of_ble_eq_true rfl, Nat.le_of_ble_eq_true rfl⟩ (Nat.le_of_ble_eq_true rfl) dX11_longer_27 ?_
      cases h
      exact rb_iret hC dX11_longer_30
    · replace h := rb_ifn c2 h
      refine rb_iload_n hC 2 dX11_longer_19 rfl ?_
      refine rb_bipush (x := 20) hC dX11_longer_20 (by decide) ?_
      refine rb_icmp_le hC 31 dX11_longer_22 (by decide) (fun c6 => ?_) (fun c6 => ?_)
      · replace h := rb_ifp c6 h
        refine rb_aload_n hC 0 dX11_longer_31 rfl ?_
        refine rb_getR hC fr_X11_49_10 rb_obX0 rfl dX11_longer_32 ?_
        refine rb_getI hC fr_X11_182_7 (rb_obPole rb_isPole18) rfl dX11_longer_35 ?_
        refine rb_iload_n hC 2 dX11_longer_38 rfl ?_
        refine rb_icmp_lt hC 58 dX11_longer_39 (by decide) (fun c7 => ?_) (fun c7 => ?_)
        · replace h := rb_ifp c7 h
          refine rb_aload_n hC 0 dX11_longer_58 rfl ?_
          refine rb_iconst (x := 3) hC dX11_longer_59 (by decide) ?_
          obtain ⟨r10, s8, q9, h⟩ := rb_b2s h
          refine rb_callVi hC rb_VokX mv_X11_303 (xc_RP_refuse 3 σ _ _ q9) rb_obX0 rfl [.int 3] rfl rfl rfl ⟨Nat.le_of_ble_eq_true rfl, Nat.le_of_ble_eq_true rfl⟩ (Nat.le_of_ble_eq_true rfl) dX11_longer_60 ?_
          cases h
          exact rb_iret hC dX11_longer_63
        · replace h := rb_ifn c7 h
          refine rb_aload_n hC 0 dX11_longer_42 rfl ?_
          refine rb_getR hC fr_X11_49_10 rb_obX0 rfl dX11_longer_43 ?_
          refine rb_getR hC fr_X11_199_7 (rb_obPole rb_isPole18) rfl dX11_longer_46 ?_
          refine rb_iload_n hC 1 dX11_longer_49 rfl ?_
          obtain ⟨g11, h⟩ := rb_gd h
          refine rb_iald hC (rb_arPole2 rb_isPole18) (rb_ibI g11) dX11_longer_50 ?_
          refine rb_iload_n hC 2 dX11_longer_51 rfl ?_
          refine rb_iadd hC dX11_longer_52 ?_
          refine rb_bipush (x := 99) hC dX11_longer_53 (by decide) ?_
          refine rb_icmp_le hC 64 dX11_longer_55 (by decide) (fun c12 => ?_) (fun c12 => ?_)
          · replace h := rb_ifp c12 h
            refine rb_aload_n hC 0 dX11_longer_64 rfl ?_
            refine rb_getR hC fr_X11_59_10 rb_obX0 rfl dX11_longer_65 ?_
            refine rb_aload_n hC 0 dX11_longer_68 rfl ?_
            refine rb_getR hC fr_X11_49_10 rb_obX0 rfl dX11_longer_69 ?_
            obtain ⟨s13, q14, h⟩ := rb_b1s h
            refine rb_callVv hC rb_VokX mv_X11_293 (xc_Acts_keep 18 rb_isPole18 σ _ q14) rb_obX28 rfl [.ref (rb_ad w 18)] rfl rfl rfl ⟨Nat.le_of_ble_eq_true rfl, Nat.le_of_ble_eq_true rfl⟩ (Nat.le_of_ble_eq_true rfl) dX11_longer_72 ?_
            refine rb_aload_n hC 0 dX11_longer_75 rfl ?_
            refine rb_getR hC fr_X11_49_10 rb_obX0 rfl dX11_longer_76 ?_
            refine rb_dup hC dX11_longer_79 rfl ?_
            refine rb_getI hC fr_X11_182_7 (rb_obPole rb_isPole18) rfl dX11_longer_80 ?_
            refine rb_iload_n hC 2 dX11_longer_83 rfl ?_
            refine rb_isub hC dX11_longer_84 ?_
            refine rb_putI hC fr_X11_182_7 ft_7_2 (rb_obPole rb_isPole18) rfl rfl rfl dX11_longer_85 ?_
            obtain ⟨s15, e16, h⟩ := rb_ltE h
            refine rb_nmS e16 ?_
            refine rb_aload_n hC 0 dX11_longer_88 rfl ?_
            refine rb_getR hC fr_X11_49_10 rb_obX0 rfl dX11_longer_89 ?_
            refine rb_getR hC fr_X11_199_7 (rb_obPole rb_isPole18) rfl dX11_longer_92 ?_
            refine rb_iload_n hC 1 dX11_longer_95 rfl ?_
            refine rb_dup2_11 hC dX11_longer_96 rfl rfl ?_
            refine rb_iald hC (rb_arPole2 rb_isPole18) (rb_ibI g11) dX11_longer_97 ?_
            refine rb_iload_n hC 2 dX11_longer_98 rfl ?_
            refine rb_iadd hC dX11_longer_99 ?_
            refine rb_iast hC (rb_arPole2 rb_isPole18) (rb_ibI g11) dX11_longer_100 ?_
            obtain ⟨s17, e18, h⟩ := rb_ltE h
            refine rb_nmS e18 ?_
            refine rb_aload_n hC 0 dX11_longer_101 rfl ?_
            refine rb_getR hC fr_X11_49_10 rb_obX0 rfl dX11_longer_102 ?_
            refine rb_getR hC fr_X11_199_7 (rb_obPole rb_isPole18) rfl dX11_longer_105 ?_
            refine rb_iload_n hC 1 dX11_longer_108 rfl ?_
            refine rb_iald hC (rb_arPole2 rb_isPole18) (rb_ibI g11) dX11_longer_109 ?_
            cases h
            exact rb_iret hC dX11_longer_110
          · replace h := rb_ifn c12 h
            refine rb_aload_n hC 0 dX11_longer_58 rfl ?_
            refine rb_iconst (x := 3) hC dX11_longer_59 (by decide) ?_
            obtain ⟨r21, s19, q20, h⟩ := rb_b2s h
            refine rb_callVi hC rb_VokX mv_X11_303 (xc_RP_refuse 3 σ _ _ q20) rb_obX0 rfl [.int 3] rfl rfl rfl ⟨Nat.le_of_ble_eq_true rfl, Nat.le_of_ble_eq_true rfl⟩ (Nat.le_of_ble_eq_true rfl) dX11_longer_60 ?_
            cases h
            exact rb_iret hC dX11_longer_63
      · replace h := rb_ifn c6 h
        refine rb_aload_n hC 0 dX11_longer_25 rfl ?_
        refine rb_iconst (x := 1) hC dX11_longer_26 (by decide) ?_
        obtain ⟨r24, s22, q23, h⟩ := rb_b2s h
        refine rb_callVi hC rb_VokX mv_X11_303 (xc_RP_refuse 1 σ _ _ q23) rb_obX0 rfl [.int 1] rfl rfl rfl ⟨Nat.le_of_ble_eq_true rfl, Nat.le_of_ble_eq_true rfl⟩ (Nat.le_of_ble_eq_true rfl) dX11_longer_27 ?_
        cases h
        exact rb_iret hC dX11_longer_30
  · replace h := rb_ifp c1 h
    refine rb_aload_n hC 0 dX11_longer_8 rfl ?_
    refine rb_iconst (x := 0) hC dX11_longer_9 (by decide) ?_
    obtain ⟨r27, s25, q26, h⟩ := rb_b2s h
    refine rb_callVi hC rb_VokX mv_X11_303 (xc_RP_refuse 0 σ _ _ q26) rb_obX0 rfl [.int 0] rfl rfl rfl ⟨Nat.le_of_ble_eq_true rfl, Nat.le_of_ble_eq_true rfl⟩ (Nat.le_of_ble_eq_true rfl) dX11_longer_10 ?_
    cases h
    exact rb_iret hC dX11_longer_13
theorem xc_RP_longer (p0 : Int32) (p1 : Int32) (σ : rb_St) (r : Int32) (σ9 : rb_St) (h : xf_RP_longer p0 p1 σ = some (r, σ9)) : rb_Con rb_vX yX11_longer cX11_longer 3 (some .int) 4 (fun w => [.ref (rb_ad w 0), .int p0, .int p1]) σ (fun _ => (some (.int r))) σ9 := rb_Con.of (by decide +kernel) (fun _ => Nat.le_of_ble_eq_true rfl) (fun z w hC => xk_RP_longer hC p0 p1 σ r σ9 h)
def xf_RP_give (p0 : Int32) (σ : rb_St) : Option (Int32 × rb_St) := if (xf_RP_hasGreen σ) = 0 then rb_b2 (xf_RP_refuse 0 σ) fun r20 s18 => some (r20, s18) else if p0 < 1 then rb_b2 (xf_RP_refuse 1 σ) fun r5 s3 => some (r5, s3) else if 50 < p0 then rb_b2 (xf_RP_refuse 1 σ) fun r9 s7 => some (r9, s7) else if ((σ.1 18 2) + p0) ≤ 999 then rb_b1 (xf_Acts_keep 18 σ) fun s11 => rb_lt (rb_sI s11 18 2 ((s11.1 18 2) + p0)) (fun s13 => some (s13.1 18 2, s13)) else rb_b2 (xf_RP_refuse 1 σ) fun r17 s15 => some (r17, s15)
set_option maxHeartbeats 4000000 in
set_option maxRecDepth 100000 in
theorem xk_RP_give {z : rb_Z} {w : rb_Wd} (hC : rb_Cx z rb_vX w RX11 cX11_give 2 (some .int) 4) (p0 : Int32) (σ : rb_St) (r : Int32) (σ9 : rb_St) (h : xf_RP_give p0 σ = some (r, σ9)) : rb_At z rb_vX w 2 (rb_Q z rb_vX w (some (.int r)) σ9) 0 [(0, .ref (rb_ad w 0)), (1, .int p0)] [] σ := by
  unfold xf_RP_give at h
  refine rb_aload_n hC 0 dX11_give_0 rfl ?_
  refine rb_callVi hC rb_VokX mv_X11_176 (xc_RP_hasGreen  σ _ rfl) rb_obX0 rfl [] rfl rfl rfl ⟨Nat.le_of_ble_eq_true rfl, Nat.le_of_ble_eq_true rfl⟩ (Nat.le_of_ble_eq_true rfl) dX11_give_1 ?_
  refine rb_if_ne hC 13 dX11_give_4 (by decide) (fun c1 => ?_) (fun c1 => ?_)
  · replace h := rb_ifn c1 h
    refine rb_iload_n hC 1 dX11_give_13 rfl ?_
    refine rb_iconst (x := 1) hC dX11_give_14 (by decide) ?_
    refine rb_icmp_lt hC 39 dX11_give_15 (by decide) (fun c2 => ?_) (fun c2 => ?_)
    · replace h := rb_ifp c2 h
      refine rb_aload_n hC 0 dX11_give_39 rfl ?_
      refine rb_iconst (x := 1) hC dX11_give_40 (by decide) ?_
      obtain ⟨r5, s3, q4, h⟩ := rb_b2s h
      refine rb_callVi hC rb_VokX mv_X11_303 (xc_RP_refuse 1 σ _ _ q4) rb_obX0 rfl [.int 1] rfl rfl rfl ⟨Nat.le_of_ble_eq_true rfl, Nat.le_of_ble_eq_true rfl⟩ (Nat.le_of_ble_eq_true rfl) dX11_give_41 ?_
      cases h
      exact rb_iret hC dX11_give_44
    · replace h := rb_ifn c2 h
      refine rb_iload_n hC 1 dX11_give_18 rfl ?_
      refine rb_bipush (x := 50) hC dX11_give_19 (by decide) ?_
      refine rb_icmp_gt hC 39 dX11_give_21 (by decide) (fun c6 => ?_) (fun c6 => ?_)
      · replace h := rb_ifp c6 h
        refine rb_aload_n hC 0 dX11_give_39 rfl ?_
        refine rb_iconst (x := 1) hC dX11_give_40 (by decide) ?_
        obtain ⟨r9, s7, q8, h⟩ := rb_b2s h
        refine rb_callVi hC rb_VokX mv_X11_303 (xc_RP_refuse 1 σ _ _ q8) rb_obX0 rfl [.int 1] rfl rfl rfl ⟨Nat.le_of_ble_eq_true rfl, Nat.le_of_ble_eq_true rfl⟩ (Nat.le_of_ble_eq_true rfl) dX11_give_41 ?_
        cases h
        exact rb_iret hC dX11_give_44
      · replace h := rb_ifn c6 h
        refine rb_aload_n hC 0 dX11_give_24 rfl ?_
        refine rb_getR hC fr_X11_49_10 rb_obX0 rfl dX11_give_25 ?_
        refine rb_getI hC fr_X11_182_7 (rb_obPole rb_isPole18) rfl dX11_give_28 ?_
        refine rb_iload_n hC 1 dX11_give_31 rfl ?_
        refine rb_iadd hC dX11_give_32 ?_
        refine rb_sipush (x := 999) hC dX11_give_33 (by decide) ?_
        refine rb_icmp_le hC 45 dX11_give_36 (by decide) (fun c10 => ?_) (fun c10 => ?_)
        · replace h := rb_ifp c10 h
          refine rb_aload_n hC 0 dX11_give_45 rfl ?_
          refine rb_getR hC fr_X11_59_10 rb_obX0 rfl dX11_give_46 ?_
          refine rb_aload_n hC 0 dX11_give_49 rfl ?_
          refine rb_getR hC fr_X11_49_10 rb_obX0 rfl dX11_give_50 ?_
          obtain ⟨s11, q12, h⟩ := rb_b1s h
          refine rb_callVv hC rb_VokX mv_X11_293 (xc_Acts_keep 18 rb_isPole18 σ _ q12) rb_obX28 rfl [.ref (rb_ad w 18)] rfl rfl rfl ⟨Nat.le_of_ble_eq_true rfl, Nat.le_of_ble_eq_true rfl⟩ (Nat.le_of_ble_eq_true rfl) dX11_give_53 ?_
          refine rb_aload_n hC 0 dX11_give_56 rfl ?_
          refine rb_getR hC fr_X11_49_10 rb_obX0 rfl dX11_give_57 ?_
          refine rb_dup hC dX11_give_60 rfl ?_
          refine rb_getI hC fr_X11_182_7 (rb_obPole rb_isPole18) rfl dX11_give_61 ?_
          refine rb_iload_n hC 1 dX11_give_64 rfl ?_
          refine rb_iadd hC dX11_give_65 ?_
          refine rb_putI hC fr_X11_182_7 ft_7_2 (rb_obPole rb_isPole18) rfl rfl rfl dX11_give_66 ?_
          obtain ⟨s13, e14, h⟩ := rb_ltE h
          refine rb_nmS e14 ?_
          refine rb_aload_n hC 0 dX11_give_69 rfl ?_
          refine rb_getR hC fr_X11_49_10 rb_obX0 rfl dX11_give_70 ?_
          refine rb_getI hC fr_X11_182_7 (rb_obPole rb_isPole18) rfl dX11_give_73 ?_
          cases h
          exact rb_iret hC dX11_give_76
        · replace h := rb_ifn c10 h
          refine rb_aload_n hC 0 dX11_give_39 rfl ?_
          refine rb_iconst (x := 1) hC dX11_give_40 (by decide) ?_
          obtain ⟨r17, s15, q16, h⟩ := rb_b2s h
          refine rb_callVi hC rb_VokX mv_X11_303 (xc_RP_refuse 1 σ _ _ q16) rb_obX0 rfl [.int 1] rfl rfl rfl ⟨Nat.le_of_ble_eq_true rfl, Nat.le_of_ble_eq_true rfl⟩ (Nat.le_of_ble_eq_true rfl) dX11_give_41 ?_
          cases h
          exact rb_iret hC dX11_give_44
  · replace h := rb_ifp c1 h
    refine rb_aload_n hC 0 dX11_give_7 rfl ?_
    refine rb_iconst (x := 0) hC dX11_give_8 (by decide) ?_
    obtain ⟨r20, s18, q19, h⟩ := rb_b2s h
    refine rb_callVi hC rb_VokX mv_X11_303 (xc_RP_refuse 0 σ _ _ q19) rb_obX0 rfl [.int 0] rfl rfl rfl ⟨Nat.le_of_ble_eq_true rfl, Nat.le_of_ble_eq_true rfl⟩ (Nat.le_of_ble_eq_true rfl) dX11_give_9 ?_
    cases h
    exact rb_iret hC dX11_give_12
theorem xc_RP_give (p0 : Int32) (σ : rb_St) (r : Int32) (σ9 : rb_St) (h : xf_RP_give p0 σ = some (r, σ9)) : rb_Con rb_vX yX11_give cX11_give 2 (some .int) 4 (fun w => [.ref (rb_ad w 0), .int p0]) σ (fun _ => (some (.int r))) σ9 := rb_Con.of (by decide +kernel) (fun _ => Nat.le_of_ble_eq_true rfl) (fun z w hC => xk_RP_give hC p0 σ r σ9 h)
theorem fr_X11_319_10 : rb_FR RX11 319 10 19 := ⟨RX11, TX11, 20, "RibbonPole", rfl, rb_uX11, by decide, rb_in (by decide +kernel) (by decide +kernel), Or.inl rfl⟩
theorem kc_X11_326 : Cond.constantLong RX11 326 6364136223846793005 ∈ rb_tbl := rb_in (by decide +kernel) (by decide +kernel)
theorem kc_X11_328 : Cond.constantLong RX11 328 1442695040888963407 ∈ rb_tbl := rb_in (by decide +kernel) (by decide +kernel)
theorem ft_10_19 : rb_Ty 10 19 .long := ⟨RX11, TX11, 20, tyX11, rfl, tyX11_ok, nmX11, rfl, by decide +kernel⟩
def xf_RP_draw (p0 : Int32) (σ : rb_St) : Option (Int32 × rb_St) := rb_lt (rb_sL σ ((σ.2 * 6364136223846793005) + 1442695040888963407)) (fun s1 => if 1 ≤ p0 then if p0.toInt64 = 0 then none else some ((((s1.2.toUInt64 >>> ((33 : Int32).toInt64.toUInt64 &&& Int64.toUInt64 63)).toInt64) - ((s1.2.toUInt64 >>> ((33 : Int32).toInt64.toUInt64 &&& Int64.toUInt64 63)).toInt64) / p0.toInt64 * p0.toInt64).toInt32, s1) else some (0, s1))
set_option maxHeartbeats 4000000 in
set_option maxRecDepth 100000 in
theorem xk_RP_draw {z : rb_Z} {w : rb_Wd} (hC : rb_Cx z rb_vX w RX11 cX11_draw 2 (some .int) 0) (p0 : Int32) (σ : rb_St) (r : Int32) (σ9 : rb_St) (h : xf_RP_draw p0 σ = some (r, σ9)) : rb_At z rb_vX w 2 (rb_Q z rb_vX w (some (.int r)) σ9) 0 [(0, .ref (rb_ad w 0)), (1, .int p0)] [] σ := by
  unfold xf_RP_draw at h
  refine rb_aload_n hC 0 dX11_draw_0 rfl ?_
  refine rb_aload_n hC 0 dX11_draw_1 rfl ?_
  refine rb_getJ hC fr_X11_319_10 rb_obX0 rfl dX11_draw_2 ?_
  refine rb_ldc2_w hC kc_X11_326 dX11_draw_5 ?_
  refine rb_lmul hC dX11_draw_8 ?_
  refine rb_ldc2_w hC kc_X11_328 dX11_draw_9 ?_
  refine rb_ladd hC dX11_draw_12 ?_
  refine rb_putJ hC fr_X11_319_10 ft_10_19 rb_obX0 rfl (rb_huOf rfl) rb_noX dX11_draw_13 ?_
  obtain ⟨s1, e2, h⟩ := rb_ltE h
  refine rb_nmS e2 ?_
  refine rb_iload_n hC 1 dX11_draw_16 rfl ?_
  refine rb_iconst (x := 1) hC dX11_draw_17 (by decide) ?_
  refine rb_icmp_ge hC 25 dX11_draw_18 (by decide) (fun c3 => ?_) (fun c3 => ?_)
  · replace h := rb_ifp c3 h
    refine rb_aload_n hC 0 dX11_draw_25 rfl ?_
    refine rb_getJ hC fr_X11_319_10 rb_obX0 rfl dX11_draw_26 ?_
    refine rb_bipush (x := 33) hC dX11_draw_29 (by decide) ?_
    refine rb_lushr hC dX11_draw_31 ?_
    refine rb_iload_n hC 1 dX11_draw_32 rfl ?_
    refine rb_i2l hC dX11_draw_33 ?_
    obtain ⟨g4, h⟩ := rb_dvL h
    refine rb_lrem hC dX11_draw_34 g4 ?_
    refine rb_l2i hC dX11_draw_35 ?_
    cases h
    exact rb_iret hC dX11_draw_36
  · replace h := rb_ifn c3 h
    refine rb_iconst (x := 0) hC dX11_draw_21 (by decide) ?_
    refine rb_goto hC 36 dX11_draw_22 (by decide) ?_
    cases h
    exact rb_iret hC dX11_draw_36
theorem xc_RP_draw (p0 : Int32) (σ : rb_St) (r : Int32) (σ9 : rb_St) (h : xf_RP_draw p0 σ = some (r, σ9)) : rb_Con rb_vX yX11_draw cX11_draw 2 (some .int) 0 (fun w => [.ref (rb_ad w 0), .int p0]) σ (fun _ => (some (.int r))) σ9 := rb_Con.of (by decide +kernel) (fun _ => Nat.le_of_ble_eq_true rfl) (fun z w hC => xk_RP_draw hC p0 σ r σ9 h)
theorem me_X0_takeBack : Cond.instanceMethod yX0_takeBack ∈ rb_tbl ∧ Cond.selects yX0_takeBack.cls yX0_takeBack yX0_takeBack ∈ rb_tbl ∧ Cond.initialized yX0_takeBack.cls ∈ rb_tbl ∧ Cond.code yX0_takeBack cX0_takeBack 2 none ∈ rb_tbl ∧ rb_pn yX0_takeBack 1 := ⟨rb_in (by decide +kernel) (by decide +kernel), rb_in (by decide +kernel) (by decide +kernel), rb_in (by decide +kernel) (by decide +kernel), rb_in (by decide +kernel) (by decide +kernel), by decide +kernel, by decide +kernel, by decide +kernel⟩
theorem mv_X11_330 : rb_MV RX11 330 yX0_takeBack cX0_takeBack 2 none 1 := ⟨rb_in (by decide +kernel) (by decide +kernel), me_X0_takeBack⟩
def xf_RP_undo  (σ : rb_St) : Option (Int32 × rb_St) := if (σ.1 28 2) = 0 then some ((-1), σ) else rb_b1 (xf_Acts_takeBack 18 σ) fun s2 => some (s2.1 28 2, s2)
set_option maxHeartbeats 4000000 in
set_option maxRecDepth 100000 in
theorem xk_RP_undo {z : rb_Z} {w : rb_Wd} (hC : rb_Cx z rb_vX w RX11 cX11_undo 1 (some .int) 4)  (σ : rb_St) (r : Int32) (σ9 : rb_St) (h : xf_RP_undo σ = some (r, σ9)) : rb_At z rb_vX w 1 (rb_Q z rb_vX w (some (.int r)) σ9) 0 [(0, .ref (rb_ad w 0))] [] σ := by
  unfold xf_RP_undo at h
  refine rb_aload_n hC 0 dX11_undo_0 rfl ?_
  refine rb_getR hC fr_X11_59_10 rb_obX0 rfl dX11_undo_1 ?_
  refine rb_getI hC fr_X11_253_0 rb_obX28 rfl dX11_undo_4 ?_
  refine rb_if_ne hC 12 dX11_undo_7 (by decide) (fun c1 => ?_) (fun c1 => ?_)
  · replace h := rb_ifn c1 h
    refine rb_aload_n hC 0 dX11_undo_12 rfl ?_
    refine rb_getR hC fr_X11_59_10 rb_obX0 rfl dX11_undo_13 ?_
    refine rb_aload_n hC 0 dX11_undo_16 rfl ?_
    refine rb_getR hC fr_X11_49_10 rb_obX0 rfl dX11_undo_17 ?_
    obtain ⟨s2, q3, h⟩ := rb_b1s h
    refine rb_callVv hC rb_VokX mv_X11_330 (xc_Acts_takeBack 18 rb_isPole18 σ _ q3) rb_obX28 rfl [.ref (rb_ad w 18)] rfl rfl rfl ⟨Nat.le_of_ble_eq_true rfl, Nat.le_of_ble_eq_true rfl⟩ (Nat.le_of_ble_eq_true rfl) dX11_undo_20 ?_
    refine rb_aload_n hC 0 dX11_undo_23 rfl ?_
    refine rb_getR hC fr_X11_59_10 rb_obX0 rfl dX11_undo_24 ?_
    refine rb_getI hC fr_X11_253_0 rb_obX28 rfl dX11_undo_27 ?_
    cases h
    exact rb_iret hC dX11_undo_30
  · replace h := rb_ifp c1 h
    refine rb_iconst (x := (-1)) hC dX11_undo_10 (by decide) ?_
    cases h
    exact rb_iret hC dX11_undo_11
theorem xc_RP_undo  (σ : rb_St) (r : Int32) (σ9 : rb_St) (h : xf_RP_undo σ = some (r, σ9)) : rb_Con rb_vX yX11_undo cX11_undo 1 (some .int) 4 (fun w => [.ref (rb_ad w 0)]) σ (fun _ => (some (.int r))) σ9 := rb_Con.of (by decide +kernel) (fun _ => Nat.le_of_ble_eq_true rfl) (fun z w hC => xk_RP_undo hC  σ r σ9 h)
theorem fr_X11_53_10 : rb_FR RX11 53 10 6 := ⟨RX11, TX11, 20, "RibbonPole", rfl, rb_uX11, by decide, rb_in (by decide +kernel) (by decide +kernel), Or.inl rfl⟩
theorem mv_X11_333 : rb_MV RX11 333 yX7_copyFrom cX7_copyFrom 2 none 1 := ⟨rb_in (by decide +kernel) (by decide +kernel), me_X7_copyFrom⟩
def xf_RP_image  (σ : rb_St) : Option (Int32 × rb_St) := if (xf_RP_hasGreen σ) = 0 then some ((-1), σ) else rb_b1 (xf_Pole_copyFrom 23 18 σ) fun s2 => some (s2.1 18 3, s2)
set_option maxHeartbeats 4000000 in
set_option maxRecDepth 100000 in
theorem xk_RP_image {z : rb_Z} {w : rb_Wd} (hC : rb_Cx z rb_vX w RX11 cX11_image 1 (some .int) 3)  (σ : rb_St) (r : Int32) (σ9 : rb_St) (h : xf_RP_image σ = some (r, σ9)) : rb_At z rb_vX w 1 (rb_Q z rb_vX w (some (.int r)) σ9) 0 [(0, .ref (rb_ad w 0))] [] σ := by
  unfold xf_RP_image at h
  refine rb_aload_n hC 0 dX11_image_0 rfl ?_
  refine rb_callVi hC rb_VokX mv_X11_176 (xc_RP_hasGreen  σ _ rfl) rb_obX0 rfl [] rfl rfl rfl ⟨Nat.le_of_ble_eq_true rfl, Nat.le_of_ble_eq_true rfl⟩ (Nat.le_of_ble_eq_true rfl) dX11_image_1 ?_
  refine rb_if_ne hC 9 dX11_image_4 (by decide) (fun c1 => ?_) (fun c1 => ?_)
  · replace h := rb_ifn c1 h
    refine rb_aload_n hC 0 dX11_image_9 rfl ?_
    refine rb_getR hC fr_X11_53_10 rb_obX0 rfl dX11_image_10 ?_
    refine rb_aload_n hC 0 dX11_image_13 rfl ?_
    refine rb_getR hC fr_X11_49_10 rb_obX0 rfl dX11_image_14 ?_
    obtain ⟨s2, q3, h⟩ := rb_b1s h
    refine rb_callVv hC rb_VokX mv_X11_333 (xc_Pole_copyFrom 23 rb_isPole23 18 rb_isPole18 σ _ q3) (rb_obPole rb_isPole23) rfl [.ref (rb_ad w 18)] rfl rfl rfl ⟨Nat.le_of_ble_eq_true rfl, Nat.le_of_ble_eq_true rfl⟩ (Nat.le_of_ble_eq_true rfl) dX11_image_17 ?_
    refine rb_aload_n hC 0 dX11_image_20 rfl ?_
    refine rb_getR hC fr_X11_49_10 rb_obX0 rfl dX11_image_21 ?_
    refine rb_getI hC fr_X11_250_7 (rb_obPole rb_isPole18) rfl dX11_image_24 ?_
    cases h
    exact rb_iret hC dX11_image_27
  · replace h := rb_ifp c1 h
    refine rb_iconst (x := (-1)) hC dX11_image_7 (by decide) ?_
    cases h
    exact rb_iret hC dX11_image_8
theorem xc_RP_image  (σ : rb_St) (r : Int32) (σ9 : rb_St) (h : xf_RP_image σ = some (r, σ9)) : rb_Con rb_vX yX11_image cX11_image 1 (some .int) 3 (fun w => [.ref (rb_ad w 0)]) σ (fun _ => (some (.int r))) σ9 := rb_Con.of (by decide +kernel) (fun _ => Nat.le_of_ble_eq_true rfl) (fun z w hC => xk_RP_image hC  σ r σ9 h)
theorem fr_X11_146_7 : rb_FR RX11 146 7 0 := ⟨RX7, TX7, 8, "RibbonPole$Pole", rfl, rb_uX7, by decide, rb_in (by decide +kernel) (by decide +kernel), Or.inl rfl⟩
theorem me_X0_forget : Cond.instanceMethod yX0_forget ∈ rb_tbl ∧ Cond.selects yX0_forget.cls yX0_forget yX0_forget ∈ rb_tbl ∧ Cond.initialized yX0_forget.cls ∈ rb_tbl ∧ Cond.code yX0_forget cX0_forget 1 none ∈ rb_tbl ∧ rb_pn yX0_forget 0 := ⟨rb_in (by decide +kernel) (by decide +kernel), rb_in (by decide +kernel) (by decide +kernel), rb_in (by decide +kernel) (by decide +kernel), rb_in (by decide +kernel) (by decide +kernel), by decide +kernel, by decide +kernel, by decide +kernel⟩
theorem mv_X11_149 : rb_MV RX11 149 yX0_forget cX0_forget 1 none 0 := ⟨rb_in (by decide +kernel) (by decide +kernel), me_X0_forget⟩
def xf_RP_back  (σ : rb_St) : Option (Int32 × rb_St) := if (σ.1 23 0) = 0 then some ((-1), σ) else rb_b1 (xf_Pole_copyFrom 18 23 σ) fun s2 => rb_b1 (xf_Acts_forget s2) fun s4 => some (s4.1 18 3, s4)
set_option maxHeartbeats 4000000 in
set_option maxRecDepth 100000 in
theorem xk_RP_back {z : rb_Z} {w : rb_Wd} (hC : rb_Cx z rb_vX w RX11 cX11_back 1 (some .int) 3)  (σ : rb_St) (r : Int32) (σ9 : rb_St) (h : xf_RP_back σ = some (r, σ9)) : rb_At z rb_vX w 1 (rb_Q z rb_vX w (some (.int r)) σ9) 0 [(0, .ref (rb_ad w 0))] [] σ := by
  unfold xf_RP_back at h
  refine rb_aload_n hC 0 dX11_back_0 rfl ?_
  refine rb_getR hC fr_X11_53_10 rb_obX0 rfl dX11_back_1 ?_
  refine rb_getI hC fr_X11_146_7 (rb_obPole rb_isPole23) rfl dX11_back_4 ?_
  refine rb_if_ne hC 12 dX11_back_7 (by decide) (fun c1 => ?_) (fun c1 => ?_)
  · replace h := rb_ifn c1 h
    refine rb_aload_n hC 0 dX11_back_12 rfl ?_
    refine rb_getR hC fr_X11_49_10 rb_obX0 rfl dX11_back_13 ?_
    refine rb_aload_n hC 0 dX11_back_16 rfl ?_
    refine rb_getR hC fr_X11_53_10 rb_obX0 rfl dX11_back_17 ?_
    obtain ⟨s2, q3, h⟩ := rb_b1s h
    refine rb_callVv hC rb_VokX mv_X11_333 (xc_Pole_copyFrom 18 rb_isPole18 23 rb_isPole23 σ _ q3) (rb_obPole rb_isPole18) rfl [.ref (rb_ad w 23)] rfl rfl rfl ⟨Nat.le_of_ble_eq_true rfl, Nat.le_of_ble_eq_true rfl⟩ (Nat.le_of_ble_eq_true rfl) dX11_back_20 ?_
    refine rb_aload_n hC 0 dX11_back_23 rfl ?_
    refine rb_getR hC fr_X11_59_10 rb_obX0 rfl dX11_back_24 ?_
    obtain ⟨s4, q5, h⟩ := rb_b1s h
    refine rb_callVv hC rb_VokX mv_X11_149 (xc_Acts_forget  s2 _ q5) rb_obX28 rfl [] rfl rfl rfl ⟨Nat.le_of_ble_eq_true rfl, Nat.le_of_ble_eq_true rfl⟩ (Nat.le_of_ble_eq_true rfl) dX11_back_27 ?_
    refine rb_aload_n hC 0 dX11_back_30 rfl ?_
    refine rb_getR hC fr_X11_49_10 rb_obX0 rfl dX11_back_31 ?_
    refine rb_getI hC fr_X11_250_7 (rb_obPole rb_isPole18) rfl dX11_back_34 ?_
    cases h
    exact rb_iret hC dX11_back_37
  · replace h := rb_ifp c1 h
    refine rb_iconst (x := (-1)) hC dX11_back_10 (by decide) ?_
    cases h
    exact rb_iret hC dX11_back_11
theorem xc_RP_back  (σ : rb_St) (r : Int32) (σ9 : rb_St) (h : xf_RP_back σ = some (r, σ9)) : rb_Con rb_vX yX11_back cX11_back 1 (some .int) 3 (fun w => [.ref (rb_ad w 0)]) σ (fun _ => (some (.int r))) σ9 := rb_Con.of (by decide +kernel) (fun _ => Nat.le_of_ble_eq_true rfl) (fun z w hC => xk_RP_back hC  σ r σ9 h)
theorem me_X7_oversOf : Cond.instanceMethod yX7_oversOf ∈ rb_tbl ∧ Cond.selects yX7_oversOf.cls yX7_oversOf yX7_oversOf ∈ rb_tbl ∧ Cond.initialized yX7_oversOf.cls ∈ rb_tbl ∧ Cond.code yX7_oversOf cX7_oversOf 5 (some .int) ∈ rb_tbl ∧ rb_pn yX7_oversOf 2 := ⟨rb_in (by decide +kernel) (by decide +kernel), rb_in (by decide +kernel) (by decide +kernel), rb_in (by decide +kernel) (by decide +kernel), rb_in (by decide +kernel) (by decide +kernel), by decide +kernel, by decide +kernel, by decide +kernel⟩
theorem mv_X11_335 : rb_MV RX11 335 yX7_oversOf cX7_oversOf 5 (some .int) 2 := ⟨rb_in (by decide +kernel) (by decide +kernel), me_X7_oversOf⟩
def xf_RP_bound (p0 : Int32) (p1 : Int32) (σ : rb_St) : Option Int32 := if (xf_RP_isDancer p0 σ) = 0 then some (-1000000) else if (xf_RP_isDancer p1 σ) = 0 then some (-1000000) else if p0 = p1 then some (-1000000) else rb_b1 (xf_Pole_oversOf 18 p0 p1 σ) fun r4 => rb_b1 (xf_Pole_oversOf 18 p1 p0 σ) fun r6 => some (r4 - r6)
set_option maxHeartbeats 4000000 in
set_option maxRecDepth 100000 in
theorem xk_RP_bound {z : rb_Z} {w : rb_Wd} (hC : rb_Cx z rb_vX w RX11 cX11_bound 3 (some .int) 2) (p0 : Int32) (p1 : Int32) (σ : rb_St) (r : Int32) (h : xf_RP_bound p0 p1 σ = some r) : rb_At z rb_vX w 3 (rb_Q z rb_vX w (some (.int r)) σ) 0 [(0, .ref (rb_ad w 0)), (1, .int p0), (2, .int p1)] [] σ := by
  unfold xf_RP_bound at h
  refine rb_aload_n hC 0 dX11_bound_0 rfl ?_
  refine rb_iload_n hC 1 dX11_bound_1 rfl ?_
  refine rb_callVi hC rb_VokX mv_X11_188 (xc_RP_isDancer p0 σ _ rfl) rb_obX0 rfl [.int p0] rfl rfl rfl ⟨Nat.le_of_ble_eq_true rfl, Nat.le_of_ble_eq_true rfl⟩ (Nat.le_of_ble_eq_true rfl) dX11_bound_2 ?_
  refine rb_if_eq hC 21 dX11_bound_5 (by decide) (fun c1 => ?_) (fun c1 => ?_)
  · replace h := rb_ifp c1 h
    refine rb_ldc hC kc_X11_254 dX11_bound_21 ?_
    cases h
    exact rb_iret hC dX11_bound_23
  · replace h := rb_ifn c1 h
    refine rb_aload_n hC 0 dX11_bound_8 rfl ?_
    refine rb_iload_n hC 2 dX11_bound_9 rfl ?_
    refine rb_callVi hC rb_VokX mv_X11_188 (xc_RP_isDancer p1 σ _ rfl) rb_obX0 rfl [.int p1] rfl rfl rfl ⟨Nat.le_of_ble_eq_true rfl, Nat.le_of_ble_eq_true rfl⟩ (Nat.le_of_ble_eq_true rfl) dX11_bound_10 ?_
    refine rb_if_eq hC 21 dX11_bound_13 (by decide) (fun c2 => ?_) (fun c2 => ?_)
    · replace h := rb_ifp c2 h
      refine rb_ldc hC kc_X11_254 dX11_bound_21 ?_
      cases h
      exact rb_iret hC dX11_bound_23
    · replace h := rb_ifn c2 h
      refine rb_iload_n hC 1 dX11_bound_16 rfl ?_
      refine rb_iload_n hC 2 dX11_bound_17 rfl ?_
      refine rb_icmp_ne hC 24 dX11_bound_18 (by decide) (fun c3 => ?_) (fun c3 => ?_)
      · replace h := rb_ifn c3 h
        refine rb_aload_n hC 0 dX11_bound_24 rfl ?_
        refine rb_getR hC fr_X11_49_10 rb_obX0 rfl dX11_bound_25 ?_
        refine rb_iload_n hC 1 dX11_bound_28 rfl ?_
        refine rb_iload_n hC 2 dX11_bound_29 rfl ?_
        obtain ⟨r4, q5, h⟩ := rb_b1s h
        refine rb_callVi hC rb_VokX mv_X11_335 (xc_Pole_oversOf 18 rb_isPole18 p0 p1 σ _ q5) (rb_obPole rb_isPole18) rfl [.int p0, .int p1] rfl rfl rfl ⟨Nat.le_of_ble_eq_true rfl, Nat.le_of_ble_eq_true rfl⟩ (Nat.le_of_ble_eq_true rfl) dX11_bound_30 ?_
        refine rb_aload_n hC 0 dX11_bound_33 rfl ?_
        refine rb_getR hC fr_X11_49_10 rb_obX0 rfl dX11_bound_34 ?_
        refine rb_iload_n hC 2 dX11_bound_37 rfl ?_
        refine rb_iload_n hC 1 dX11_bound_38 rfl ?_
        obtain ⟨r6, q7, h⟩ := rb_b1s h
        refine rb_callVi hC rb_VokX mv_X11_335 (xc_Pole_oversOf 18 rb_isPole18 p1 p0 σ _ q7) (rb_obPole rb_isPole18) rfl [.int p1, .int p0] rfl rfl rfl ⟨Nat.le_of_ble_eq_true rfl, Nat.le_of_ble_eq_true rfl⟩ (Nat.le_of_ble_eq_true rfl) dX11_bound_39 ?_
        refine rb_isub hC dX11_bound_42 ?_
        cases h
        exact rb_iret hC dX11_bound_43
      · replace h := rb_ifp c3 h
        refine rb_ldc hC kc_X11_254 dX11_bound_21 ?_
        cases h
        exact rb_iret hC dX11_bound_23
theorem xc_RP_bound (p0 : Int32) (p1 : Int32) (σ : rb_St) (r : Int32) (h : xf_RP_bound p0 p1 σ = some r) : rb_Con rb_vX yX11_bound cX11_bound 3 (some .int) 2 (fun w => [.ref (rb_ad w 0), .int p0, .int p1]) σ (fun _ => (some (.int r))) σ := rb_Con.of (by decide +kernel) (fun _ => Nat.le_of_ble_eq_true rfl) (fun z w hC => xk_RP_bound hC p0 p1 σ r h)
theorem me_X7_takenOfAll : Cond.instanceMethod yX7_takenOfAll ∈ rb_tbl ∧ Cond.selects yX7_takenOfAll.cls yX7_takenOfAll yX7_takenOfAll ∈ rb_tbl ∧ Cond.initialized yX7_takenOfAll.cls ∈ rb_tbl ∧ Cond.code yX7_takenOfAll cX7_takenOfAll 3 (some .int) ∈ rb_tbl ∧ rb_pn yX7_takenOfAll 0 := ⟨rb_in (by decide +kernel) (by decide +kernel), rb_in (by decide +kernel) (by decide +kernel), rb_in (by decide +kernel) (by decide +kernel), rb_in (by decide +kernel) (by decide +kernel), by decide +kernel, by decide +kernel, by decide +kernel⟩
theorem mv_X11_341 : rb_MV RX11 341 yX7_takenOfAll cX7_takenOfAll 3 (some .int) 0 := ⟨rb_in (by decide +kernel) (by decide +kernel), me_X7_takenOfAll⟩
theorem mv_X11_344 : rb_MV RX11 344 yX7_takenOf cX7_takenOf 4 (some .int) 1 := ⟨rb_in (by decide +kernel) (by decide +kernel), me_X7_takenOf⟩
def xf_RP_shares (p0 : Int32) (p1 : Int32) (σ : rb_St) : Option Int32 := if (xf_RP_isDancer p0 σ) = 0 then some (-1) else if p1 < 0 then some (-1) else if p1 ≤ 999 then rb_b1 (xf_Pole_takenOfAll 18 σ) fun r4 => if r4 = 0 then some 0 else rb_b1 (xf_Pole_takenOf 18 p0 σ) fun r7 => if r4 = 0 then none else some ((p1 * r7) / r4) else some (-1)
set_option maxHeartbeats 4000000 in
set_option maxRecDepth 100000 in
theorem xk_RP_shares {z : rb_Z} {w : rb_Wd} (hC : rb_Cx z rb_vX w RX11 cX11_shares 4 (some .int) 3) (p0 : Int32) (p1 : Int32) (σ : rb_St) (r : Int32) (h : xf_RP_shares p0 p1 σ = some r) : rb_At z rb_vX w 4 (rb_Q z rb_vX w (some (.int r)) σ) 0 [(0, .ref (rb_ad w 0)), (1, .int p0), (2, .int p1)] [] σ := by
  unfold xf_RP_shares at h
  refine rb_aload_n hC 0 dX11_shares_0 rfl ?_
  refine rb_iload_n hC 1 dX11_shares_1 rfl ?_
  refine rb_callVi hC rb_VokX mv_X11_188 (xc_RP_isDancer p0 σ _ rfl) rb_obX0 rfl [.int p0] rfl rfl rfl ⟨Nat.le_of_ble_eq_true rfl, Nat.le_of_ble_eq_true rfl⟩ (Nat.le_of_ble_eq_true rfl) dX11_shares_2 ?_
  refine rb_if_eq hC 19 dX11_shares_5 (by decide) (fun c1 => ?_) (fun c1 => ?_)
  · replace h := rb_ifp c1 h
    refine rb_iconst (x := (-1)) hC dX11_shares_19 (by decide) ?_
    cases h
    exact rb_iret hC dX11_shares_20
  · replace h := rb_ifn c1 h
    refine rb_iload_n hC 2 dX11_shares_8 rfl ?_
    refine rb_if_lt hC 19 dX11_shares_9 (by decide) (fun c2 => ?_) (fun c2 => ?_)
    · replace h := rb_ifp c2 h
      refine rb_iconst (x := (-1)) hC dX11_shares_19 (by decide) ?_
      cases h
      exact rb_iret hC dX11_shares_20
    · replace h := rb_ifn c2 h
      refine rb_iload_n hC 2 dX11_shares_12 rfl ?_
      refine rb_sipush (x := 999) hC dX11_shares_13 (by decide) ?_
      refine rb_icmp_le hC 21 dX11_shares_16 (by decide) (fun c3 => ?_) (fun c3 => ?_)
      · replace h := rb_ifp c3 h
        refine rb_aload_n hC 0 dX11_shares_21 rfl ?_
        refine rb_getR hC fr_X11_49_10 rb_obX0 rfl dX11_shares_22 ?_
        obtain ⟨r4, q5, h⟩ := rb_b1s h
        refine rb_callVi hC rb_VokX mv_X11_341 (xc_Pole_takenOfAll 18 rb_isPole18 σ _ q5) (rb_obPole rb_isPole18) rfl [] rfl rfl rfl ⟨Nat.le_of_ble_eq_true rfl, Nat.le_of_ble_eq_true rfl⟩ (Nat.le_of_ble_eq_true rfl) dX11_shares_25 ?_
        refine rb_istore_n hC [(3, .int r4), (0, .ref (rb_ad w 0)), (1, .int p0), (2, .int p1)] dX11_shares_28 (by decide) rfl ?_
        refine rb_iload_n hC 0 dX11_shares_29 rfl ?_
        refine rb_if_ne hC 37 dX11_shares_30 (by decide) (fun c6 => ?_) (fun c6 => ?_)
        · replace h := rb_ifn c6 h
          refine rb_iload_n hC 3 dX11_shares_37 rfl ?_
          refine rb_aload_n hC 1 dX11_shares_38 rfl ?_
          refine rb_getR hC fr_X11_49_10 rb_obX0 rfl dX11_shares_39 ?_
          refine rb_iload_n hC 2 dX11_shares_42 rfl ?_
          obtain ⟨r7, q8, h⟩ := rb_b1s h
          refine rb_callVi hC rb_VokX mv_X11_344 (xc_Pole_takenOf 18 rb_isPole18 p0 σ _ q8) (rb_obPole rb_isPole18) rfl [.int p0] rfl rfl rfl ⟨Nat.le_of_ble_eq_true rfl, Nat.le_of_ble_eq_true rfl⟩ (Nat.le_of_ble_eq_true rfl) dX11_shares_43 ?_
          refine rb_imul hC dX11_shares_46 ?_
          refine rb_iload_n hC 0 dX11_shares_47 rfl ?_
          obtain ⟨g9, h⟩ := rb_dv h
          refine rb_idiv hC dX11_shares_48 g9 ?_
          cases h
          exact rb_iret hC dX11_shares_49
        · replace h := rb_ifp c6 h
          refine rb_iconst (x := 0) hC dX11_shares_33 (by decide) ?_
          refine rb_goto hC 49 dX11_shares_34 (by decide) ?_
          cases h
          exact rb_iret hC dX11_shares_49
      · replace h := rb_ifn c3 h
        refine rb_iconst (x := (-1)) hC dX11_shares_19 (by decide) ?_
        cases h
        exact rb_iret hC dX11_shares_20
theorem xc_RP_shares (p0 : Int32) (p1 : Int32) (σ : rb_St) (r : Int32) (h : xf_RP_shares p0 p1 σ = some r) : rb_Con rb_vX yX11_shares cX11_shares 4 (some .int) 3 (fun w => [.ref (rb_ad w 0), .int p0, .int p1]) σ (fun _ => (some (.int r))) σ := rb_Con.of (by decide +kernel) (fun _ => Nat.le_of_ble_eq_true rfl) (fun z w hC => xk_RP_shares hC p0 p1 σ r h)
theorem me_X7_leftOf : Cond.instanceMethod yX7_leftOf ∈ rb_tbl ∧ Cond.selects yX7_leftOf.cls yX7_leftOf yX7_leftOf ∈ rb_tbl ∧ Cond.initialized yX7_leftOf.cls ∈ rb_tbl ∧ Cond.code yX7_leftOf cX7_leftOf 2 (some .int) ∈ rb_tbl ∧ rb_pn yX7_leftOf 1 := ⟨rb_in (by decide +kernel) (by decide +kernel), rb_in (by decide +kernel) (by decide +kernel), rb_in (by decide +kernel) (by decide +kernel), rb_in (by decide +kernel) (by decide +kernel), by decide +kernel, by decide +kernel, by decide +kernel⟩
theorem mv_X11_205 : rb_MV RX11 205 yX7_leftOf cX7_leftOf 2 (some .int) 1 := ⟨rb_in (by decide +kernel) (by decide +kernel), me_X7_leftOf⟩
theorem me_X7_crossingsOf : Cond.instanceMethod yX7_crossingsOf ∈ rb_tbl ∧ Cond.selects yX7_crossingsOf.cls yX7_crossingsOf yX7_crossingsOf ∈ rb_tbl ∧ Cond.initialized yX7_crossingsOf.cls ∈ rb_tbl ∧ Cond.code yX7_crossingsOf cX7_crossingsOf 4 (some .int) ∈ rb_tbl ∧ rb_pn yX7_crossingsOf 1 := ⟨rb_in (by decide +kernel) (by decide +kernel), rb_in (by decide +kernel) (by decide +kernel), rb_in (by decide +kernel) (by decide +kernel), rb_in (by decide +kernel) (by decide +kernel), by decide +kernel, by decide +kernel, by decide +kernel⟩
theorem mv_X11_208 : rb_MV RX11 208 yX7_crossingsOf cX7_crossingsOf 4 (some .int) 1 := ⟨rb_in (by decide +kernel) (by decide +kernel), me_X7_crossingsOf⟩
theorem me_X3_trait : Cond.instanceMethod yX3_trait ∈ rb_tbl ∧ Cond.selects yX3_trait.cls yX3_trait yX3_trait ∈ rb_tbl ∧ Cond.initialized yX3_trait.cls ∈ rb_tbl ∧ Cond.code yX3_trait cX3_trait 4 (some .int) ∈ rb_tbl ∧ rb_pn yX3_trait 2 := ⟨rb_in (by decide +kernel) (by decide +kernel), rb_in (by decide +kernel) (by decide +kernel), rb_in (by decide +kernel) (by decide +kernel), rb_in (by decide +kernel) (by decide +kernel), by decide +kernel, by decide +kernel, by decide +kernel⟩
theorem mv_X11_195 : rb_MV RX11 195 yX3_trait cX3_trait 4 (some .int) 2 := ⟨rb_in (by decide +kernel) (by decide +kernel), me_X3_trait⟩
def xf_RP_measure (p0 : Int32) (p1 : Int32) (σ : rb_St) : Option Int32 := if p1 = 0 then rb_b1 (xf_Pole_leftOf 18 p0 σ) fun r1 => some r1 else if p1 = 1 then rb_b1 (xf_Pole_leftOf 18 p0 σ) fun r3 => some (-r3) else if p1 = 2 then rb_b1 (xf_Pole_crossingsOf 18 p0 σ) fun r5 => some r5 else rb_b1 (xf_Green_trait p0 2 σ) fun r7 => some r7
set_option maxHeartbeats 4000000 in
set_option maxRecDepth 100000 in
theorem xk_RP_measure {z : rb_Z} {w : rb_Wd} (hC : rb_Cx z rb_vX w RX11 cX11_measure 3 (some .int) 4) (p0 : Int32) (p1 : Int32) (σ : rb_St) (r : Int32) (h : xf_RP_measure p0 p1 σ = some r) : rb_At z rb_vX w 3 (rb_Q z rb_vX w (some (.int r)) σ) 0 [(0, .ref (rb_ad w 0)), (1, .int p0), (2, .int p1)] [] σ := by
  unfold xf_RP_measure at h
  refine rb_iload_n hC 2 dX11_measure_0 rfl ?_
  by_cases c1_0 : p1 = 0
  · replace h := rb_ifp c1_0 h
    refine rb_tableIn hC 28 dX11_measure_1 (by rw [c1_0]; decide) (by rw [c1_0]; decide) (by rw [c1_0]; rfl) (by decide) ?_
    refine rb_aload_n hC 0 dX11_measure_28 rfl ?_
    refine rb_getR hC fr_X11_49_10 rb_obX0 rfl dX11_measure_29 ?_
    refine rb_iload_n hC 1 dX11_measure_32 rfl ?_
    obtain ⟨r1, q2, h⟩ := rb_b1s h
    refine rb_callVi hC rb_VokX mv_X11_205 (xc_Pole_leftOf 18 rb_isPole18 p0 σ _ q2) (rb_obPole rb_isPole18) rfl [.int p0] rfl rfl rfl ⟨Nat.le_of_ble_eq_true rfl, Nat.le_of_ble_eq_true rfl⟩ (Nat.le_of_ble_eq_true rfl) dX11_measure_33 ?_
    cases h
    exact rb_iret hC dX11_measure_36
  · replace h := rb_ifn c1_0 h
    by_cases c1_1 : p1 = 1
    · replace h := rb_ifp c1_1 h
      refine rb_tableIn hC 37 dX11_measure_1 (by rw [c1_1]; decide) (by rw [c1_1]; decide) (by rw [c1_1]; rfl) (by decide) ?_
      refine rb_aload_n hC 0 dX11_measure_37 rfl ?_
      refine rb_getR hC fr_X11_49_10 rb_obX0 rfl dX11_measure_38 ?_
      refine rb_iload_n hC 1 dX11_measure_41 rfl ?_
      obtain ⟨r3, q4, h⟩ := rb_b1s h
      refine rb_callVi hC rb_VokX mv_X11_205 (xc_Pole_leftOf 18 rb_isPole18 p0 σ _ q4) (rb_obPole rb_isPole18) rfl [.int p0] rfl rfl rfl ⟨Nat.le_of_ble_eq_true rfl, Nat.le_of_ble_eq_true rfl⟩ (Nat.le_of_ble_eq_true rfl) dX11_measure_42 ?_
      refine rb_ineg hC dX11_measure_45 ?_
      cases h
      exact rb_iret hC dX11_measure_46
    · replace h := rb_ifn c1_1 h
      by_cases c1_2 : p1 = 2
      · replace h := rb_ifp c1_2 h
        refine rb_tableIn hC 47 dX11_measure_1 (by rw [c1_2]; decide) (by rw [c1_2]; decide) (by rw [c1_2]; rfl) (by decide) ?_
        refine rb_aload_n hC 0 dX11_measure_47 rfl ?_
        refine rb_getR hC fr_X11_49_10 rb_obX0 rfl dX11_measure_48 ?_
        refine rb_iload_n hC 1 dX11_measure_51 rfl ?_
        obtain ⟨r5, q6, h⟩ := rb_b1s h
        refine rb_callVi hC rb_VokX mv_X11_208 (xc_Pole_crossingsOf 18 rb_isPole18 p0 σ _ q6) (rb_obPole rb_isPole18) rfl [.int p0] rfl rfl rfl ⟨Nat.le_of_ble_eq_true rfl, Nat.le_of_ble_eq_true rfl⟩ (Nat.le_of_ble_eq_true rfl) dX11_measure_52 ?_
        cases h
        exact rb_iret hC dX11_measure_55
      · replace h := rb_ifn c1_2 h
        have hO : p1.toInt < 0 ∨ 2 < p1.toInt := by
          have n0 : p1.toInt ≠ 0 := fun q3 => c1_0 (Int32.toInt_inj.mp (q3.trans (by decide)))
          have n1 : p1.toInt ≠ 1 := fun q3 => c1_1 (Int32.toInt_inj.mp (q3.trans (by decide)))
          have n2 : p1.toInt ≠ 2 := fun q3 => c1_2 (Int32.toInt_inj.mp (q3.trans (by decide)))
          omega
        refine rb_tableOut hC 56 dX11_measure_1 hO (by decide) ?_
        refine rb_aload_n hC 0 dX11_measure_56 rfl ?_
        refine rb_getR hC fr_X11_42_10 rb_obX0 rfl dX11_measure_57 ?_
        refine rb_iload_n hC 1 dX11_measure_60 rfl ?_
        refine rb_iconst (x := 2) hC dX11_measure_61 (by decide) ?_
        obtain ⟨r7, q8, h⟩ := rb_b1s h
        refine rb_callVi hC rb_VokX mv_X11_195 (xc_Green_trait p0 2 σ _ q8) rb_obX15 rfl [.int p0, .int 2] rfl rfl rfl ⟨Nat.le_of_ble_eq_true rfl, Nat.le_of_ble_eq_true rfl⟩ (Nat.le_of_ble_eq_true rfl) dX11_measure_62 ?_
        cases h
        exact rb_iret hC dX11_measure_65
theorem xc_RP_measure (p0 : Int32) (p1 : Int32) (σ : rb_St) (r : Int32) (h : xf_RP_measure p0 p1 σ = some r) : rb_Con rb_vX yX11_measure cX11_measure 3 (some .int) 4 (fun w => [.ref (rb_ad w 0), .int p0, .int p1]) σ (fun _ => (some (.int r))) σ := rb_Con.of (by decide +kernel) (fun _ => Nat.le_of_ble_eq_true rfl) (fun z w hC => xk_RP_measure hC p0 p1 σ r h)
theorem me_X1_follow : Cond.instanceMethod yX1_follow ∈ rb_tbl ∧ Cond.selects yX1_follow.cls yX1_follow yX1_follow ∈ rb_tbl ∧ Cond.initialized yX1_follow.cls ∈ rb_tbl ∧ Cond.code yX1_follow cX1_follow 7 (some .int) ∈ rb_tbl ∧ rb_pn yX1_follow 2 := ⟨rb_in (by decide +kernel) (by decide +kernel), rb_in (by decide +kernel) (by decide +kernel), rb_in (by decide +kernel) (by decide +kernel), rb_in (by decide +kernel) (by decide +kernel), by decide +kernel, by decide +kernel, by decide +kernel⟩
theorem mv_X11_377 : rb_MV RX11 377 yX1_follow cX1_follow 7 (some .int) 2 := ⟨rb_in (by decide +kernel) (by decide +kernel), me_X1_follow⟩
def xl_RP_placeBehind_6 (k1 : Nat) (x3 : Int32) (σ : rb_St) : Nat → Int32 → Int32 → Option (Int32)
  | 0, _, _ => none
  | n + 1, x4, x5 => if x3 ≤ x5 then some x4 else rb_b1 (xf_Fig_follow k1 x4 (σ.1 15 2) σ) fun r2 => xl_RP_placeBehind_6 k1 x3 σ n r2 (x5 + 1)
set_option maxHeartbeats 4000000 in
set_option maxRecDepth 100000 in
theorem xt_RP_placeBehind_6 {z : rb_Z} {w : rb_Wd} {Q : State → Prop} (hC : rb_Cx z rb_vX w RX11 cX11_placeBehind 6 (some .int) 1) (k1 : Nat) (hk1 : rb_isFig k1) (x3 : Int32) (σ : rb_St) : ∀ (n : Nat) (x4 : Int32) (x5 : Int32) (y4 : Int32), xl_RP_placeBehind_6 k1 x3 σ n x4 x5 = some y4 → rb_At z rb_vX w 6 Q 33 [(4, .int y4)] [] σ → rb_At z rb_vX w 6 Q 6 [(0, .ref (rb_ad w 0)), (1, .ref (rb_ad w k1)), (3, .int x3), (4, .int x4), (5, .int x5)] [] σ := by
  intro n
  induction n with
  | zero =>
    intro x4 x5 y4 h hE0
    cases h
  | succ n ih =>
    intro x4 x5 y4 h hE0
    rw [xl_RP_placeBehind_6] at h
    refine rb_iload hC 4 dX11_placeBehind_6 rfl ?_
    refine rb_iload_n hC 2 dX11_placeBehind_8 rfl ?_
    refine rb_icmp_ge hC 33 dX11_placeBehind_9 (by decide) (fun c1 => ?_) (fun c1 => ?_)
    · replace h := rb_ifp c1 h
      cases h
      exact rb_sub [3] rfl (hE0)
    · replace h := rb_ifn c1 h
      refine rb_aload_n hC 1 dX11_placeBehind_12 rfl ?_
      refine rb_iload hC 3 dX11_placeBehind_13 rfl ?_
      refine rb_aload_n hC 0 dX11_placeBehind_15 rfl ?_
      refine rb_getR hC fr_X11_42_10 rb_obX0 rfl dX11_placeBehind_16 ?_
      refine rb_getI hC fr_X11_155_3 rb_obX15 rfl dX11_placeBehind_19 ?_
      obtain ⟨r2, q3, h⟩ := rb_b1s h
      refine rb_callVi hC rb_VokX mv_X11_377 (xc_Fig_follow k1 hk1 x4 (σ.1 15 2) σ _ q3) (rb_obFig hk1) rfl [.int x4, .int (σ.1 15 2)] rfl rfl rfl ⟨Nat.le_of_ble_eq_true rfl, Nat.le_of_ble_eq_true rfl⟩ (Nat.le_of_ble_eq_true rfl) dX11_placeBehind_22 ?_
      refine rb_istore hC [(4, .int r2), (0, .ref (rb_ad w 0)), (1, .ref (rb_ad w k1)), (3, .int x3), (5, .int x5)] dX11_placeBehind_25 (by decide) rfl ?_
      refine rb_iinc hC 4 [(5, .int (x5 + 1)), (4, .int r2), (0, .ref (rb_ad w 0)), (1, .ref (rb_ad w k1)), (3, .int x3)] dX11_placeBehind_27 rfl rfl (by decide) rfl ?_
      refine rb_goto hC 6 dX11_placeBehind_30 (by decide) ?_
      exact rb_sub [2, 3, 4, 1, 0] rfl (ih r2 (x5 + 1) _ h hE0)
def xf_RP_placeBehind (k1 : Nat) (p0 : Int32) (p1 : Int32) (σ : rb_St) : Option Int32 := rb_b1 (xl_RP_placeBehind_6 k1 p1 σ rb_FU p0 0) fun y4 => some y4
set_option maxHeartbeats 4000000 in
set_option maxRecDepth 100000 in
theorem xk_RP_placeBehind {z : rb_Z} {w : rb_Wd} (hC : rb_Cx z rb_vX w RX11 cX11_placeBehind 6 (some .int) 1) (k1 : Nat) (hk1 : rb_isFig k1) (p0 : Int32) (p1 : Int32) (σ : rb_St) (r : Int32) (h : xf_RP_placeBehind k1 p0 p1 σ = some r) : rb_At z rb_vX w 6 (rb_Q z rb_vX w (some (.int r)) σ) 0 [(0, .ref (rb_ad w 0)), (1, .ref (rb_ad w k1)), (2, .int p0), (3, .int p1)] [] σ := by
  unfold xf_RP_placeBehind at h
  refine rb_iload_n hC 2 dX11_placeBehind_0 rfl ?_
  refine rb_istore hC [(4, .int p0), (0, .ref (rb_ad w 0)), (1, .ref (rb_ad w k1)), (2, .int p0), (3, .int p1)] dX11_placeBehind_1 (by decide) rfl ?_
  refine rb_iconst (x := 0) hC dX11_placeBehind_3 (by decide) ?_
  refine rb_istore hC [(5, .int 0), (4, .int p0), (0, .ref (rb_ad w 0)), (1, .ref (rb_ad w k1)), (2, .int p0), (3, .int p1)] dX11_placeBehind_4 (by decide) rfl ?_
  obtain ⟨y4, q5, h⟩ := rb_b1s h
  refine rb_sub (lv2 := [(0, .ref (rb_ad w 0)), (1, .ref (rb_ad w k1)), (3, .int p1), (4, .int p0), (5, .int 0)]) [2, 3, 5, 1, 0] rfl ?_
  refine xt_RP_placeBehind_6 hC k1 hk1 p1 σ rb_FU p0 0 _ q5 ?_
  refine rb_iload hC 0 dX11_placeBehind_33 rfl ?_
  cases h
  exact rb_iret hC dX11_placeBehind_35
theorem xc_RP_placeBehind (k1 : Nat) (hk1 : rb_isFig k1) (p0 : Int32) (p1 : Int32) (σ : rb_St) (r : Int32) (h : xf_RP_placeBehind k1 p0 p1 σ = some r) : rb_Con rb_vX yX11_placeBehind cX11_placeBehind 6 (some .int) 1 (fun w => [.ref (rb_ad w 0), .ref (rb_ad w k1), .int p0, .int p1]) σ (fun _ => (some (.int r))) σ := rb_Con.of (by decide +kernel) (fun _ => Nat.le_of_ble_eq_true rfl) (fun z w hC => xk_RP_placeBehind hC k1 hk1 p0 p1 σ r h)
