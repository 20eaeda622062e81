theorem mo_X11_117_X2 : rb_MO RX11 117 "RibbonPole$FigureReader" yX2_readAll cX2_readAll 1 := ⟨rb_in (by decide +kernel) (by decide +kernel), rb_in (by decide +kernel) (by decide +kernel), rb_in (by decide +kernel) (by decide +kernel), rb_in (by decide +kernel) (by decide +kernel), rb_in (by decide +kernel) (by decide +kernel), rb_in (by decide +kernel) (by decide +kernel)⟩
theorem fr_X11_123_2 : rb_FR RX11 123 2 1 := ⟨RX2, TX2, 3, "RibbonPole$Reader", rfl, rb_uX2, by decide, rb_in (by decide +kernel) (by decide +kernel), Or.inl rfl⟩
def xf_RP_fault2  (σ : rb_St) : Option (Int32 × rb_St) := rb_b2 (xf_FR_readAll σ) fun r1 s2 => if r1 = 0 then some (s2.1 12 1, s2) else some ((-1), s2)
set_option maxHeartbeats 4000000 in
set_option maxRecDepth 100000 in
theorem xk_RP_fault2 {z : rb_Z} {w : rb_Wd} (hC : rb_Cx z rb_vX w RX11 cX11_fault 3 (some .int) 70)  (σ : rb_St) (r : Int32) (σ9 : rb_St) (h : xf_RP_fault2 σ = some (r, σ9)) : rb_At z rb_vX w 3 (rb_Q z rb_vX w (some (.int r)) σ9) 0 [(0, .ref (rb_ad w 0)), (1, .int 2)] [] σ := by
  unfold xf_RP_fault2 at h
  refine rb_aload_n hC 0 dX11_fault_0 rfl ?_
  refine rb_iload_n hC 1 dX11_fault_1 rfl ?_
  refine rb_callV hC rb_VokX mv_X11_113 (xc_RP_readerOf2  σ) rb_obX0 rfl [.int 2] rfl rfl rfl ⟨Nat.le_of_ble_eq_true rfl, Nat.le_of_ble_eq_true rfl⟩ (Nat.le_of_ble_eq_true rfl) dX11_fault_2 ?_
  refine rb_astore_n hC [(2, .ref (rb_ad w 12)), (0, .ref (rb_ad w 0)), (1, .int 2)] dX11_fault_5 (by decide) rfl ?_
  refine rb_aload_n hC 0 dX11_fault_6 rfl ?_
  refine rb_ifnonnull hC 13 dX11_fault_7 (by decide) ?_
  refine rb_aload_n hC 0 dX11_fault_13 rfl ?_
  obtain ⟨r1, s2, q3, h⟩ := rb_b2s h
  refine rb_callO hC mo_X11_117_X2 (xc_FR_readAll σ _ _ q3) rb_obX12 rfl ⟨Nat.le_of_ble_eq_true rfl, Nat.le_of_ble_eq_true rfl⟩ (Nat.le_of_ble_eq_true rfl) dX11_fault_14 ?_
  refine rb_if_eq hC 24 dX11_fault_17 (by decide) (fun c4 => ?_) (fun c4 => ?_)
  · replace h := rb_ifp c4 h
    refine rb_aload_n hC 0 dX11_fault_24 rfl ?_
    refine rb_getI hC fr_X11_123_2 rb_obX12 rfl dX11_fault_25 ?_
    cases h
    exact rb_iret hC dX11_fault_28
  · replace h := rb_ifn c4 h
    refine rb_iconst (x := (-1)) hC dX11_fault_20 (by decide) ?_
    refine rb_goto hC 28 dX11_fault_21 (by decide) ?_
    cases h
    exact rb_iret hC dX11_fault_28
theorem xc_RP_fault2  (σ : rb_St) (r : Int32) (σ9 : rb_St) (h : xf_RP_fault2 σ = some (r, σ9)) : rb_Con rb_vX yX11_fault cX11_fault 3 (some .int) 70 (fun w => [.ref (rb_ad w 0), .int 2]) σ (fun _ => (some (.int r))) σ9 := rb_Con.of (by decide +kernel) (fun _ => Nat.le_of_ble_eq_true rfl) (fun z w hC => xk_RP_fault2 hC  σ r σ9 h)
def xf_RP_fault_o (p0 : Int32) (σ : rb_St) : Option (Int32 × rb_St) := some ((-2), σ)
set_option maxHeartbeats 4000000 in
set_option maxRecDepth 100000 in
theorem xk_RP_fault_o {z : rb_Z} {w : rb_Wd} (hC : rb_Cx z rb_vX w RX11 cX11_fault 3 (some .int) 70) (p0 : Int32) (n0 : ¬ p0 = 0) (n1 : ¬ p0 = 1) (n2 : ¬ p0 = 2) (σ : rb_St) (r : Int32) (σ9 : rb_St) (h : xf_RP_fault_o p0 σ = some (r, σ9)) : rb_At z rb_vX w 3 (rb_Q z rb_vX w (some (.int r)) σ9) 0 [(0, .ref (rb_ad w 0)), (1, .int p0)] [] σ := by
  unfold xf_RP_fault_o at h
  refine rb_aload_n hC 0 dX11_fault_0 rfl ?_
  refine rb_iload_n hC 1 dX11_fault_1 rfl ?_
  refine rb_callV hC rb_VokX mv_X11_113 (xc_RP_readerOf_o p0 n0 n1 n2 σ) rb_obX0 rfl [.int p0] rfl rfl rfl ⟨Nat.le_of_ble_eq_true rfl, Nat.le_of_ble_eq_true rfl⟩ (Nat.le_of_ble_eq_true rfl) dX11_fault_2 ?_
  refine rb_astore_nN hC [(2, .null), (0, .ref (rb_ad w 0)), (1, .int p0)] dX11_fault_5 (by decide) rfl ?_
  refine rb_aload_nN hC 0 dX11_fault_6 rfl ?_
  refine rb_ifnonnullN hC dX11_fault_7 ?_
  refine rb_bipush (x := (-2)) hC dX11_fault_10 (by decide) ?_
  cases h
  exact rb_iret hC dX11_fault_12
theorem xc_RP_fault_o (p0 : Int32) (n0 : ¬ p0 = 0) (n1 : ¬ p0 = 1) (n2 : ¬ p0 = 2) (σ : rb_St) (r : Int32) (σ9 : rb_St) (h : xf_RP_fault_o p0 σ = some (r, σ9)) : rb_Con rb_vX yX11_fault cX11_fault 3 (some .int) 70 (fun w => [.ref (rb_ad w 0), .int p0]) σ (fun _ => (some (.int r))) σ9 := rb_Con.of (by decide +kernel) (fun _ => Nat.le_of_ble_eq_true rfl) (fun z w hC => xk_RP_fault_o hC p0 n0 n1 n2 σ r σ9 h)
theorem me_X11_beginGreen : Cond.instanceMethod yX11_beginGreen ∈ rb_tbl ∧ Cond.selects yX11_beginGreen.cls yX11_beginGreen yX11_beginGreen ∈ rb_tbl ∧ Cond.initialized yX11_beginGreen.cls ∈ rb_tbl ∧ Cond.code yX11_beginGreen cX11_beginGreen 1 (some .int) ∈ rb_tbl ∧ rb_pn yX11_beginGreen 0 := ⟨rb_in (by decide +kernel) (by decide +kernel), rb_in (by decide +kernel) (by decide +kernel), rb_in (by decide +kernel) (by decide +kernel), rb_in (by decide +kernel) (by decide +kernel), by decide +kernel, by decide +kernel, by decide +kernel⟩
theorem mv_X11_126 : rb_MV RX11 126 yX11_beginGreen cX11_beginGreen 1 (some .int) 0 := ⟨rb_in (by decide +kernel) (by decide +kernel), me_X11_beginGreen⟩
def xf_RP_text0  (σ : rb_St) : Option (Int32 × rb_St) := rb_b2 (xf_GR_readAll σ) fun r1 s2 => if r1 = 0 then some ((-1), s2) else rb_b2 (xf_RP_beginGreen s2) fun r7 s5 => some (r7, s5)
set_option maxHeartbeats 4000000 in
set_option maxRecDepth 100000 in
theorem xk_RP_text0 {z : rb_Z} {w : rb_Wd} (hC : rb_Cx z rb_vX w RX11 cX11_text 3 (some .int) 72)  (σ : rb_St) (r : Int32) (σ9 : rb_St) (h : xf_RP_text0 σ = some (r, σ9)) : rb_At z rb_vX w 3 (rb_Q z rb_vX w (some (.int r)) σ9) 0 [(0, .ref (rb_ad w 0)), (1, .int 0)] [] σ := by
  unfold xf_RP_text0 at h
  refine rb_aload_n hC 0 dX11_text_0 rfl ?_
  refine rb_iload_n hC 1 dX11_text_1 rfl ?_
  refine rb_callV hC rb_VokX mv_X11_113 (xc_RP_readerOf0  σ) rb_obX0 rfl [.int 0] rfl rfl rfl ⟨Nat.le_of_ble_eq_true rfl, Nat.le_of_ble_eq_true rfl⟩ (Nat.le_of_ble_eq_true rfl) dX11_text_2 ?_
  refine rb_astore_n hC [(2, .ref (rb_ad w 3)), (0, .ref (rb_ad w 0)), (1, .int 0)] dX11_text_5 (by decide) rfl ?_
  refine rb_aload_n hC 0 dX11_text_6 rfl ?_
  refine rb_ifnull hC dX11_text_7 ?_
  refine rb_aload_n hC 0 dX11_text_10 rfl ?_
  obtain ⟨r1, s2, q3, h⟩ := rb_b2s h
  refine rb_callO hC mo_X11_117_X4 (xc_GR_readAll σ _ _ q3) rb_obX3 rfl ⟨Nat.le_of_ble_eq_true rfl, Nat.le_of_ble_eq_true rfl⟩ (Nat.le_of_ble_eq_true rfl) dX11_text_11 ?_
  refine rb_if_ne hC 19 dX11_text_14 (by decide) (fun c4 => ?_) (fun c4 => ?_)
  · replace h := rb_ifn c4 h
    refine rb_iload_n hC 2 dX11_text_19 rfl ?_
    refine rb_lookup hC 48 dX11_text_20 (by decide) rfl (by decide) ?_
    refine rb_aload_n hC 1 dX11_text_48 rfl ?_
    obtain ⟨r7, s5, q6, h⟩ := rb_b2s h
    refine rb_callVi hC rb_VokX mv_X11_126 (xc_RP_beginGreen  s2 _ _ q6) rb_obX0 rfl [] rfl rfl rfl ⟨Nat.le_of_ble_eq_true rfl, Nat.le_of_ble_eq_true rfl⟩ (Nat.le_of_ble_eq_true rfl) dX11_text_49 ?_
    cases h
    exact rb_iret hC dX11_text_52
  · replace h := rb_ifp c4 h
    refine rb_iconst (x := (-1)) hC dX11_text_17 (by decide) ?_
    cases h
    exact rb_iret hC dX11_text_18
theorem xc_RP_text0  (σ : rb_St) (r : Int32) (σ9 : rb_St) (h : xf_RP_text0 σ = some (r, σ9)) : rb_Con rb_vX yX11_text cX11_text 3 (some .int) 72 (fun w => [.ref (rb_ad w 0), .int 0]) σ (fun _ => (some (.int r))) σ9 := rb_Con.of (by decide +kernel) (fun _ => Nat.le_of_ble_eq_true rfl) (fun z w hC => xk_RP_text0 hC  σ r σ9 h)
theorem me_X11_addLaw : Cond.instanceMethod yX11_addLaw ∈ rb_tbl ∧ Cond.selects yX11_addLaw.cls yX11_addLaw yX11_addLaw ∈ rb_tbl ∧ Cond.initialized yX11_addLaw.cls ∈ rb_tbl ∧ Cond.code yX11_addLaw cX11_addLaw 1 (some .int) ∈ rb_tbl ∧ rb_pn yX11_addLaw 0 := ⟨rb_in (by decide +kernel) (by decide +kernel), rb_in (by decide +kernel) (by decide +kernel), rb_in (by decide +kernel) (by decide +kernel), rb_in (by decide +kernel) (by decide +kernel), by decide +kernel, by decide +kernel, by decide +kernel⟩
theorem mv_X11_130 : rb_MV RX11 130 yX11_addLaw cX11_addLaw 1 (some .int) 0 := ⟨rb_in (by decide +kernel) (by decide +kernel), me_X11_addLaw⟩
def xf_RP_text1  (σ : rb_St) : Option (Int32 × rb_St) := rb_b2 (xf_LR_readAll σ) fun r1 s2 => if r1 = 0 then some ((-1), s2) else rb_b2 (xf_RP_addLaw s2) fun r7 s5 => some (r7, s5)
set_option maxHeartbeats 4000000 in
set_option maxRecDepth 100000 in
theorem xk_RP_text1 {z : rb_Z} {w : rb_Wd} (hC : rb_Cx z rb_vX w RX11 cX11_text 3 (some .int) 72)  (σ : rb_St) (r : Int32) (σ9 : rb_St) (h : xf_RP_text1 σ = some (r, σ9)) : rb_At z rb_vX w 3 (rb_Q z rb_vX w (some (.int r)) σ9) 0 [(0, .ref (rb_ad w 0)), (1, .int 1)] [] σ := by
  unfold xf_RP_text1 at h
  refine rb_aload_n hC 0 dX11_text_0 rfl ?_
  refine rb_iload_n hC 1 dX11_text_1 rfl ?_
  refine rb_callV hC rb_VokX mv_X11_113 (xc_RP_readerOf1  σ) rb_obX0 rfl [.int 1] rfl rfl rfl ⟨Nat.le_of_ble_eq_true rfl, Nat.le_of_ble_eq_true rfl⟩ (Nat.le_of_ble_eq_true rfl) dX11_text_2 ?_
  refine rb_astore_n hC [(2, .ref (rb_ad w 7)), (0, .ref (rb_ad w 0)), (1, .int 1)] dX11_text_5 (by decide) rfl ?_
  refine rb_aload_n hC 0 dX11_text_6 rfl ?_
  refine rb_ifnull hC dX11_text_7 ?_
  refine rb_aload_n hC 0 dX11_text_10 rfl ?_
  obtain ⟨r1, s2, q3, h⟩ := rb_b2s h
  refine rb_callO hC mo_X11_117_X6 (xc_LR_readAll σ _ _ q3) rb_obX7 rfl ⟨Nat.le_of_ble_eq_true rfl, Nat.le_of_ble_eq_true rfl⟩ (Nat.le_of_ble_eq_true rfl) dX11_text_11 ?_
  refine rb_if_ne hC 19 dX11_text_14 (by decide) (fun c4 => ?_) (fun c4 => ?_)
  · replace h := rb_ifn c4 h
    refine rb_iload_n hC 2 dX11_text_19 rfl ?_
    refine rb_lookup hC 53 dX11_text_20 (by decide) rfl (by decide) ?_
    refine rb_aload_n hC 1 dX11_text_53 rfl ?_
    obtain ⟨r7, s5, q6, h⟩ := rb_b2s h
    refine rb_callVi hC rb_VokX mv_X11_130 (xc_RP_addLaw  s2 _ _ q6) rb_obX0 rfl [] rfl rfl rfl ⟨Nat.le_of_ble_eq_true rfl, Nat.le_of_ble_eq_true rfl⟩ (Nat.le_of_ble_eq_true rfl) dX11_text_54 ?_
    cases h
    exact rb_iret hC dX11_text_57
  · replace h := rb_ifp c4 h
    refine rb_iconst (x := (-1)) hC dX11_text_17 (by decide) ?_
    cases h
    exact rb_iret hC dX11_text_18
theorem xc_RP_text1  (σ : rb_St) (r : Int32) (σ9 : rb_St) (h : xf_RP_text1 σ = some (r, σ9)) : rb_Con rb_vX yX11_text cX11_text 3 (some .int) 72 (fun w => [.ref (rb_ad w 0), .int 1]) σ (fun _ => (some (.int r))) σ9 := rb_Con.of (by decide +kernel) (fun _ => Nat.le_of_ble_eq_true rfl) (fun z w hC => xk_RP_text1 hC  σ r σ9 h)
theorem me_X11_addFigure : Cond.instanceMethod yX11_addFigure ∈ rb_tbl ∧ Cond.selects yX11_addFigure.cls yX11_addFigure yX11_addFigure ∈ rb_tbl ∧ Cond.initialized yX11_addFigure.cls ∈ rb_tbl ∧ Cond.code yX11_addFigure cX11_addFigure 1 (some .int) ∈ rb_tbl ∧ rb_pn yX11_addFigure 0 := ⟨rb_in (by decide +kernel) (by decide +kernel), rb_in (by decide +kernel) (by decide +kernel), rb_in (by decide +kernel) (by decide +kernel), rb_in (by decide +kernel) (by decide +kernel), by decide +kernel, by decide +kernel, by decide +kernel⟩
theorem mv_X11_133 : rb_MV RX11 133 yX11_addFigure cX11_addFigure 1 (some .int) 0 := ⟨rb_in (by decide +kernel) (by decide +kernel), me_X11_addFigure⟩
def xf_RP_text2  (σ : rb_St) : Option (Int32 × rb_St) := rb_b2 (xf_FR_readAll σ) fun r1 s2 => if r1 = 0 then some ((-1), s2) else rb_b2 (xf_RP_addFigure s2) fun r7 s5 => some (r7, s5)
set_option maxHeartbeats 4000000 in
set_option maxRecDepth 100000 in
theorem xk_RP_text2 {z : rb_Z} {w : rb_Wd} (hC : rb_Cx z rb_vX w RX11 cX11_text 3 (some .int) 72)  (σ : rb_St) (r : Int32) (σ9 : rb_St) (h : xf_RP_text2 σ = some (r, σ9)) : rb_At z rb_vX w 3 (rb_Q z rb_vX w (some (.int r)) σ9) 0 [(0, .ref (rb_ad w 0)), (1, .int 2)] [] σ := by
  unfold xf_RP_text2 at h
  refine rb_aload_n hC 0 dX11_text_0 rfl ?_
  refine rb_iload_n hC 1 dX11_text_1 rfl ?_
  refine rb_callV hC rb_VokX mv_X11_113 (xc_RP_readerOf2  σ) rb_obX0 rfl [.int 2] rfl rfl rfl ⟨Nat.le_of_ble_eq_true rfl, Nat.le_of_ble_eq_true rfl⟩ (Nat.le_of_ble_eq_true rfl) dX11_text_2 ?_
  refine rb_astore_n hC [(2, .ref (rb_ad w 12)), (0, .ref (rb_ad w 0)), (1, .int 2)] dX11_text_5 (by decide) rfl ?_
  refine rb_aload_n hC 0 dX11_text_6 rfl ?_
  refine rb_ifnull hC dX11_text_7 ?_
  refine rb_aload_n hC 0 dX11_text_10 rfl ?_
  obtain ⟨r1, s2, q3, h⟩ := rb_b2s h
  refine rb_callO hC mo_X11_117_X2 (xc_FR_readAll σ _ _ q3) rb_obX12 rfl ⟨Nat.le_of_ble_eq_true rfl, Nat.le_of_ble_eq_true rfl⟩ (Nat.le_of_ble_eq_true rfl) dX11_text_11 ?_
  refine rb_if_ne hC 19 dX11_text_14 (by decide) (fun c4 => ?_) (fun c4 => ?_)
  · replace h := rb_ifn c4 h
    refine rb_iload_n hC 2 dX11_text_19 rfl ?_
    refine rb_lookup hC 58 dX11_text_20 (by decide) rfl (by decide) ?_
    refine rb_aload_n hC 1 dX11_text_58 rfl ?_
    obtain ⟨r7, s5, q6, h⟩ := rb_b2s h
    refine rb_callVi hC rb_VokX mv_X11_133 (xc_RP_addFigure  s2 _ _ q6) rb_obX0 rfl [] rfl rfl rfl ⟨Nat.le_of_ble_eq_true rfl, Nat.le_of_ble_eq_true rfl⟩ (Nat.le_of_ble_eq_true rfl) dX11_text_59 ?_
    cases h
    exact rb_iret hC dX11_text_62
  · replace h := rb_ifp c4 h
    refine rb_iconst (x := (-1)) hC dX11_text_17 (by decide) ?_
    cases h
    exact rb_iret hC dX11_text_18
theorem xc_RP_text2  (σ : rb_St) (r : Int32) (σ9 : rb_St) (h : xf_RP_text2 σ = some (r, σ9)) : rb_Con rb_vX yX11_text cX11_text 3 (some .int) 72 (fun w => [.ref (rb_ad w 0), .int 2]) σ (fun _ => (some (.int r))) σ9 := rb_Con.of (by decide +kernel) (fun _ => Nat.le_of_ble_eq_true rfl) (fun z w hC => xk_RP_text2 hC  σ r σ9 h)
def xf_RP_text_o (p0 : Int32) (σ : rb_St) : Option (Int32 × rb_St) := some ((-1), σ)
set_option maxHeartbeats 4000000 in
set_option maxRecDepth 100000 in
theorem xk_RP_text_o {z : rb_Z} {w : rb_Wd} (hC : rb_Cx z rb_vX w RX11 cX11_text 3 (some .int) 72) (p0 : Int32) (n0 : ¬ p0 = 0) (n1 : ¬ p0 = 1) (n2 : ¬ p0 = 2) (σ : rb_St) (r : Int32) (σ9 : rb_St) (h : xf_RP_text_o p0 σ = some (r, σ9)) : rb_At z rb_vX w 3 (rb_Q z rb_vX w (some (.int r)) σ9) 0 [(0, .ref (rb_ad w 0)), (1, .int p0)] [] σ := by
  unfold xf_RP_text_o at h
  refine rb_aload_n hC 0 dX11_text_0 rfl ?_
  refine rb_iload_n hC 1 dX11_text_1 rfl ?_
  refine rb_callV hC rb_VokX mv_X11_113 (xc_RP_readerOf_o p0 n0 n1 n2 σ) rb_obX0 rfl [.int p0] rfl rfl rfl ⟨Nat.le_of_ble_eq_true rfl, Nat.le_of_ble_eq_true rfl⟩ (Nat.le_of_ble_eq_true rfl) dX11_text_2 ?_
  refine rb_astore_nN hC [(2, .null), (0, .ref (rb_ad w 0)), (1, .int p0)] dX11_text_5 (by decide) rfl ?_
  refine rb_aload_nN hC 0 dX11_text_6 rfl ?_
  refine rb_ifnullN hC 17 dX11_text_7 (by decide) ?_
  refine rb_iconst (x := (-1)) hC dX11_text_17 (by decide) ?_
  cases h
  exact rb_iret hC dX11_text_18
theorem xc_RP_text_o (p0 : Int32) (n0 : ¬ p0 = 0) (n1 : ¬ p0 = 1) (n2 : ¬ p0 = 2) (σ : rb_St) (r : Int32) (σ9 : rb_St) (h : xf_RP_text_o p0 σ = some (r, σ9)) : rb_Con rb_vX yX11_text cX11_text 3 (some .int) 72 (fun w => [.ref (rb_ad w 0), .int p0]) σ (fun _ => (some (.int r))) σ9 := rb_Con.of (by decide +kernel) (fun _ => Nat.le_of_ble_eq_true rfl) (fun z w hC => xk_RP_text_o hC p0 n0 n1 n2 σ r σ9 h)
