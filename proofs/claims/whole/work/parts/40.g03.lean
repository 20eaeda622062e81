theorem mv_X8_28_4 : rb_MU RX8 28 "RibbonPole$GreenReader" "RibbonPole$Reader" ⟨"RibbonPole$Reader", "nextSign", "()I"⟩ yX8_nextSign cX8_nextSign 1 (some .int) 0 := ⟨rb_in (by decide +kernel) (by decide +kernel), rb_in (by decide +kernel) (by decide +kernel), rb_in (by decide +kernel) (by decide +kernel), rb_in (by decide +kernel) (by decide +kernel), rb_in (by decide +kernel) (by decide +kernel), rb_in (by decide +kernel) (by decide +kernel), rfl, by decide, by decide, by decide +kernel⟩
def xf_Rd_passesG (p0 : Int32) (σ : rb_St) : Option (Int32 × rb_St) := rb_b2 (xf_Rd_nextSignG σ) fun r3 s1 => if r3 = p0 then rb_lt (rb_sI s1 3 1 ((s1.1 3 1) + 1)) (fun s5 => some (1, s5)) else some (0, s1)
set_option maxHeartbeats 4000000 in
set_option maxRecDepth 100000 in
theorem xk_Rd_passesG {z : rb_Z} {w : rb_Wd} (hC : rb_Cx z rb_vX w RX8 cX8_passes 2 (some .boolean) 1) (p0 : Int32) (σ : rb_St) (r : Int32) (σ9 : rb_St) (h : xf_Rd_passesG p0 σ = some (r, σ9)) : rb_At z rb_vX w 2 (rb_Q z rb_vX w (some (.int r)) σ9) 0 [(0, .ref (rb_ad w 3)), (1, .int p0)] [] σ := by
  unfold xf_Rd_passesG at h
  refine rb_aload_n hC 0 dX8_passes_0 rfl ?_
  obtain ⟨r3, s1, q2, h⟩ := rb_b2s h
  refine rb_callUi hC rb_VokX mv_X8_28_4 (xc_Rd_nextSignG  σ _ _ q2) rb_obX3 rfl [] rfl rfl rfl ⟨Nat.le_of_ble_eq_true rfl, Nat.le_of_ble_eq_true rfl⟩ (Nat.le_of_ble_eq_true rfl) dX8_passes_1 ?_
  refine rb_iload_n hC 1 dX8_passes_4 rfl ?_
  refine rb_icmp_eq hC 10 dX8_passes_5 (by decide) (fun c4 => ?_) (fun c4 => ?_)
  · replace h := rb_ifp c4 h
    refine rb_aload_n hC 0 dX8_passes_10 rfl ?_
    refine rb_dup hC dX8_passes_11 rfl ?_
    refine rb_getI hC fr_X8_15_4 rb_obX3 rfl dX8_passes_12 ?_
    refine rb_iconst (x := 1) hC dX8_passes_15 (by decide) ?_
    refine rb_iadd hC dX8_passes_16 ?_
    refine rb_putI hC fr_X8_15_4 ft_4_1 rb_obX3 rfl rfl rfl dX8_passes_17 ?_
    obtain ⟨s5, e6, h⟩ := rb_ltE h
    refine rb_nmS e6 ?_
    refine rb_iconst (x := 1) hC dX8_passes_20 (by decide) ?_
    cases h
    exact rb_zret hC rfl dX8_passes_21
  · replace h := rb_ifn c4 h
    refine rb_iconst (x := 0) hC dX8_passes_8 (by decide) ?_
    cases h
    exact rb_zret hC rfl dX8_passes_9
theorem xc_Rd_passesG (p0 : Int32) (σ : rb_St) (r : Int32) (σ9 : rb_St) (h : xf_Rd_passesG p0 σ = some (r, σ9)) : rb_Con rb_vX yX8_passes cX8_passes 2 (some .boolean) 1 (fun w => [.ref (rb_ad w 3), .int p0]) σ (fun _ => (some (.int r))) σ9 := rb_Con.of (by decide +kernel) (fun _ => Nat.le_of_ble_eq_true rfl) (fun z w hC => xk_Rd_passesG hC p0 σ r σ9 h)
theorem fr_X8_15_6 : rb_FR RX8 15 6 1 := ⟨RX6, TX6, 3, "RibbonPole$Reader", rfl, rb_uX6, by decide, rb_in (by decide +kernel) (by decide +kernel), Or.inl rfl⟩
theorem fr_X8_9_6 : rb_FR RX8 9 6 0 := ⟨RX6, TX6, 3, "RibbonPole$Reader", rfl, rb_uX6, by decide, rb_in (by decide +kernel) (by decide +kernel), Or.inl rfl⟩
theorem ft_6_1 : rb_Ty 6 1 .int := ⟨RX6, TX6, 3, tyX6, rfl, tyX6_ok, nmX6, rfl, by decide +kernel⟩
def xl_Rd_nextSignL_0  : Nat → rb_St → Option (rb_St)
  | 0, _ => none
  | n + 1, σ => if (σ.1 1 1) ≤ (σ.1 7 1) then some σ else if rb_ib (σ.1 7 1) 240 then if (σ.1 2 (σ.1 7 1).toNatClampNeg) = 32 then rb_lt (rb_sI σ 7 1 ((σ.1 7 1) + 1)) (fun s4 => xl_Rd_nextSignL_0 n s4) else some σ else none
set_option maxHeartbeats 4000000 in
set_option maxRecDepth 100000 in
theorem xt_Rd_nextSignL_0 {z : rb_Z} {w : rb_Wd} {Q : State → Prop} (hC : rb_Cx z rb_vX w RX8 cX8_nextSign 1 (some .int) 0)  : ∀ (n : Nat) (σ : rb_St) (σ9 : rb_St), xl_Rd_nextSignL_0 n σ = some σ9 → rb_At z rb_vX w 1 Q 44 [(0, .ref (rb_ad w 7))] [] σ9 → rb_At z rb_vX w 1 Q 0 [(0, .ref (rb_ad w 7))] [] σ := by
  intro n
  induction n with
  | zero =>
    intro σ σ9 h hE0
    cases h
  | succ n ih =>
    intro σ σ9 h hE0
    rw [xl_Rd_nextSignL_0] at h
    refine rb_aload_n hC 0 dX8_nextSign_0 rfl ?_
    refine rb_getI hC fr_X8_15_6 rb_obX7 rfl dX8_nextSign_1 ?_
    refine rb_aload_n hC 0 dX8_nextSign_4 rfl ?_
    refine rb_getR hC fr_X8_9_6 rb_obX7 rfl dX8_nextSign_5 ?_
    refine rb_getI hC fr_X8_19_8 rb_obX1 rfl dX8_nextSign_8 ?_
    refine rb_icmp_ge hC 44 dX8_nextSign_11 (by decide) (fun c1 => ?_) (fun c1 => ?_)
    · replace h := rb_ifp c1 h
      cases h
      exact rb_sub [0] rfl (hE0)
    · replace h := rb_ifn c1 h
      refine rb_aload_n hC 0 dX8_nextSign_14 rfl ?_
      refine rb_getR hC fr_X8_9_6 rb_obX7 rfl dX8_nextSign_15 ?_
      refine rb_getR hC fr_X8_24_8 rb_obX1 rfl dX8_nextSign_18 ?_
      refine rb_aload_n hC 0 dX8_nextSign_21 rfl ?_
      refine rb_getI hC fr_X8_15_6 rb_obX7 rfl dX8_nextSign_22 ?_
      obtain ⟨g2, h⟩ := rb_gd h
      refine rb_iald hC rb_arX2 (rb_ibI g2) dX8_nextSign_25 ?_
      refine rb_bipush (x := 32) hC dX8_nextSign_26 (by decide) ?_
      refine rb_icmp_ne hC 44 dX8_nextSign_28 (by decide) (fun c3 => ?_) (fun c3 => ?_)
      · replace h := rb_ifn c3 h
        cases h
        exact rb_sub [0] rfl (hE0)
      · replace h := rb_ifp c3 h
        refine rb_aload_n hC 0 dX8_nextSign_31 rfl ?_
        refine rb_dup hC dX8_nextSign_32 rfl ?_
        refine rb_getI hC fr_X8_15_6 rb_obX7 rfl dX8_nextSign_33 ?_
        refine rb_iconst (x := 1) hC dX8_nextSign_36 (by decide) ?_
        refine rb_iadd hC dX8_nextSign_37 ?_
        refine rb_putI hC fr_X8_15_6 ft_6_1 rb_obX7 rfl rfl rfl dX8_nextSign_38 ?_
        obtain ⟨s4, e5, h⟩ := rb_ltE h
        refine rb_nmS e5 ?_
        refine rb_goto hC 0 dX8_nextSign_41 (by decide) ?_
        exact rb_sub [0] rfl (ih s4 _ h hE0)
def xj_Rd_nextSignL_44  (σ : rb_St) : Option (Int32 × rb_St) := if (σ.1 1 1) ≤ (σ.1 7 1) then some ((-1), σ) else if rb_ib (σ.1 7 1) 240 then some (σ.1 2 (σ.1 7 1).toNatClampNeg, σ) else none
set_option maxHeartbeats 4000000 in
set_option maxRecDepth 100000 in
theorem xu_Rd_nextSignL_44 {z : rb_Z} {w : rb_Wd} (hC : rb_Cx z rb_vX w RX8 cX8_nextSign 1 (some .int) 0)  (σ : rb_St) (r : Int32) (σ9 : rb_St) (h : xj_Rd_nextSignL_44 σ = some (r, σ9)) : rb_At z rb_vX w 1 (rb_Q z rb_vX w (some (.int r)) σ9) 44 [(0, .ref (rb_ad w 7))] [] σ := by
  unfold xj_Rd_nextSignL_44 at h
  refine rb_aload_n hC 0 dX8_nextSign_44 rfl ?_
  refine rb_getI hC fr_X8_15_6 rb_obX7 rfl dX8_nextSign_45 ?_
  refine rb_aload_n hC 0 dX8_nextSign_48 rfl ?_
  refine rb_getR hC fr_X8_9_6 rb_obX7 rfl dX8_nextSign_49 ?_
  refine rb_getI hC fr_X8_19_8 rb_obX1 rfl dX8_nextSign_52 ?_
  refine rb_icmp_ge hC 73 dX8_nextSign_55 (by decide) (fun c8 => ?_) (fun c8 => ?_)
  · replace h := rb_ifp c8 h
    refine rb_iconst (x := (-1)) hC dX8_nextSign_73 (by decide) ?_
    cases h
    exact rb_iret hC dX8_nextSign_74
  · replace h := rb_ifn c8 h
    refine rb_aload_n hC 0 dX8_nextSign_58 rfl ?_
    refine rb_getR hC fr_X8_9_6 rb_obX7 rfl dX8_nextSign_59 ?_
    refine rb_getR hC fr_X8_24_8 rb_obX1 rfl dX8_nextSign_62 ?_
    refine rb_aload_n hC 0 dX8_nextSign_65 rfl ?_
    refine rb_getI hC fr_X8_15_6 rb_obX7 rfl dX8_nextSign_66 ?_
    obtain ⟨g9, h⟩ := rb_gd h
    refine rb_iald hC rb_arX2 (rb_ibI g9) dX8_nextSign_69 ?_
    refine rb_goto hC 74 dX8_nextSign_70 (by decide) ?_
    cases h
    exact rb_iret hC dX8_nextSign_74
def xf_Rd_nextSignL  (σ : rb_St) : Option (Int32 × rb_St) := rb_b1 (xl_Rd_nextSignL_0 rb_FU σ) fun s6 => xj_Rd_nextSignL_44 s6
set_option maxHeartbeats 4000000 in
set_option maxRecDepth 100000 in
theorem xk_Rd_nextSignL {z : rb_Z} {w : rb_Wd} (hC : rb_Cx z rb_vX w RX8 cX8_nextSign 1 (some .int) 0)  (σ : rb_St) (r : Int32) (σ9 : rb_St) (h : xf_Rd_nextSignL σ = some (r, σ9)) : rb_At z rb_vX w 1 (rb_Q z rb_vX w (some (.int r)) σ9) 0 [(0, .ref (rb_ad w 7))] [] σ := by
  unfold xf_Rd_nextSignL at h
  obtain ⟨s6, q7, h⟩ := rb_b1s h
  refine rb_sub (lv2 := [(0, .ref (rb_ad w 7))]) [0] rfl ?_
  refine xt_Rd_nextSignL_0 hC  rb_FU σ _ q7 ?_
  exact rb_sub [0] rfl (xu_Rd_nextSignL_44 hC  s6 _ _ h)
theorem xc_Rd_nextSignL  (σ : rb_St) (r : Int32) (σ9 : rb_St) (h : xf_Rd_nextSignL σ = some (r, σ9)) : rb_Con rb_vX yX8_nextSign cX8_nextSign 1 (some .int) 0 (fun w => [.ref (rb_ad w 7)]) σ (fun _ => (some (.int r))) σ9 := rb_Con.of (by decide +kernel) (fun _ => Nat.le_of_ble_eq_true rfl) (fun z w hC => xk_Rd_nextSignL hC  σ r σ9 h)
theorem mv_X8_28_6 : rb_MU RX8 28 "RibbonPole$LawReader" "RibbonPole$Reader" ⟨"RibbonPole$Reader", "nextSign", "()I"⟩ yX8_nextSign cX8_nextSign 1 (some .int) 0 := ⟨rb_in (by decide +kernel) (by decide +kernel), rb_in (by decide +kernel) (by decide +kernel), rb_in (by decide +kernel) (by decide +kernel), rb_in (by decide +kernel) (by decide +kernel), rb_in (by decide +kernel) (by decide +kernel), rb_in (by decide +kernel) (by decide +kernel), rfl, by decide, by decide, by decide +kernel⟩
def xf_Rd_passesL (p0 : Int32) (σ : rb_St) : Option (Int32 × rb_St) := rb_b2 (xf_Rd_nextSignL σ) fun r3 s1 => if r3 = p0 then rb_lt (rb_sI s1 7 1 ((s1.1 7 1) + 1)) (fun s5 => some (1, s5)) else some (0, s1)
set_option maxHeartbeats 4000000 in
set_option maxRecDepth 100000 in
theorem xk_Rd_passesL {z : rb_Z} {w : rb_Wd} (hC : rb_Cx z rb_vX w RX8 cX8_passes 2 (some .boolean) 1) (p0 : Int32) (σ : rb_St) (r : Int32) (σ9 : rb_St) (h : xf_Rd_passesL p0 σ = some (r, σ9)) : rb_At z rb_vX w 2 (rb_Q z rb_vX w (some (.int r)) σ9) 0 [(0, .ref (rb_ad w 7)), (1, .int p0)] [] σ := by
  unfold xf_Rd_passesL at h
  refine rb_aload_n hC 0 dX8_passes_0 rfl ?_
  obtain ⟨r3, s1, q2, h⟩ := rb_b2s h
  refine rb_callUi hC rb_VokX mv_X8_28_6 (xc_Rd_nextSignL  σ _ _ q2) rb_obX7 rfl [] rfl rfl rfl ⟨Nat.le_of_ble_eq_true rfl, Nat.le_of_ble_eq_true rfl⟩ (Nat.le_of_ble_eq_true rfl) dX8_passes_1 ?_
  refine rb_iload_n hC 1 dX8_passes_4 rfl ?_
  refine rb_icmp_eq hC 10 dX8_passes_5 (by decide) (fun c4 => ?_) (fun c4 => ?_)
  · replace h := rb_ifp c4 h
    refine rb_aload_n hC 0 dX8_passes_10 rfl ?_
    refine rb_dup hC dX8_passes_11 rfl ?_
    refine rb_getI hC fr_X8_15_6 rb_obX7 rfl dX8_passes_12 ?_
    refine rb_iconst (x := 1) hC dX8_passes_15 (by decide) ?_
    refine rb_iadd hC dX8_passes_16 ?_
    refine rb_putI hC fr_X8_15_6 ft_6_1 rb_obX7 rfl rfl rfl dX8_passes_17 ?_
    obtain ⟨s5, e6, h⟩ := rb_ltE h
    refine rb_nmS e6 ?_
    refine rb_iconst (x := 1) hC dX8_passes_20 (by decide) ?_
    cases h
    exact rb_zret hC rfl dX8_passes_21
  · replace h := rb_ifn c4 h
    refine rb_iconst (x := 0) hC dX8_passes_8 (by decide) ?_
    cases h
    exact rb_zret hC rfl dX8_passes_9
theorem xc_Rd_passesL (p0 : Int32) (σ : rb_St) (r : Int32) (σ9 : rb_St) (h : xf_Rd_passesL p0 σ = some (r, σ9)) : rb_Con rb_vX yX8_passes cX8_passes 2 (some .boolean) 1 (fun w => [.ref (rb_ad w 7), .int p0]) σ (fun _ => (some (.int r))) σ9 := rb_Con.of (by decide +kernel) (fun _ => Nat.le_of_ble_eq_true rfl) (fun z w hC => xk_Rd_passesL hC p0 σ r σ9 h)
theorem fr_X8_15_2 : rb_FR RX8 15 2 1 := ⟨RX2, TX2, 3, "RibbonPole$Reader", rfl, rb_uX2, by decide, rb_in (by decide +kernel) (by decide +kernel), Or.inl rfl⟩
theorem fr_X8_9_2 : rb_FR RX8 9 2 0 := ⟨RX2, TX2, 3, "RibbonPole$Reader", rfl, rb_uX2, by decide, rb_in (by decide +kernel) (by decide +kernel), Or.inl rfl⟩
theorem ft_2_1 : rb_Ty 2 1 .int := ⟨RX2, TX2, 3, tyX2, rfl, tyX2_ok, nmX2, rfl, by decide +kernel⟩
def xl_Rd_nextSignF_0  : Nat → rb_St → Option (rb_St)
  | 0, _ => none
  | n + 1, σ => if (σ.1 1 1) ≤ (σ.1 12 1) then some σ else if rb_ib (σ.1 12 1) 240 then if (σ.1 2 (σ.1 12 1).toNatClampNeg) = 32 then rb_lt (rb_sI σ 12 1 ((σ.1 12 1) + 1)) (fun s4 => xl_Rd_nextSignF_0 n s4) else some σ else none
set_option maxHeartbeats 4000000 in
set_option maxRecDepth 100000 in
theorem xt_Rd_nextSignF_0 {z : rb_Z} {w : rb_Wd} {Q : State → Prop} (hC : rb_Cx z rb_vX w RX8 cX8_nextSign 1 (some .int) 0)  : ∀ (n : Nat) (σ : rb_St) (σ9 : rb_St), xl_Rd_nextSignF_0 n σ = some σ9 → rb_At z rb_vX w 1 Q 44 [(0, .ref (rb_ad w 12))] [] σ9 → rb_At z rb_vX w 1 Q 0 [(0, .ref (rb_ad w 12))] [] σ := by
  intro n
  induction n with
  | zero =>
    intro σ σ9 h hE0
    cases h
  | succ n ih =>
    intro σ σ9 h hE0
    rw [xl_Rd_nextSignF_0] at h
    refine rb_aload_n hC 0 dX8_nextSign_0 rfl ?_
    refine rb_getI hC fr_X8_15_2 rb_obX12 rfl dX8_nextSign_1 ?_
    refine rb_aload_n hC 0 dX8_nextSign_4 rfl ?_
    refine rb_getR hC fr_X8_9_2 rb_obX12 rfl dX8_nextSign_5 ?_
    refine rb_getI hC fr_X8_19_8 rb_obX1 rfl dX8_nextSign_8 ?_
    refine rb_icmp_ge hC 44 dX8_nextSign_11 (by decide) (fun c1 => ?_) (fun c1 => ?_)
    · replace h := rb_ifp c1 h
      cases h
      exact rb_sub [0] rfl (hE0)
    · replace h := rb_ifn c1 h
      refine rb_aload_n hC 0 dX8_nextSign_14 rfl ?_
      refine rb_getR hC fr_X8_9_2 rb_obX12 rfl dX8_nextSign_15 ?_
      refine rb_getR hC fr_X8_24_8 rb_obX1 rfl dX8_nextSign_18 ?_
      refine rb_aload_n hC 0 dX8_nextSign_21 rfl ?_
      refine rb_getI hC fr_X8_15_2 rb_obX12 rfl dX8_nextSign_22 ?_
      obtain ⟨g2, h⟩ := rb_gd h
      refine rb_iald hC rb_arX2 (rb_ibI g2) dX8_nextSign_25 ?_
      refine rb_bipush (x := 32) hC dX8_nextSign_26 (by decide) ?_
      refine rb_icmp_ne hC 44 dX8_nextSign_28 (by decide) (fun c3 => ?_) (fun c3 => ?_)
      · replace h := rb_ifn c3 h
        cases h
        exact rb_sub [0] rfl (hE0)
      · replace h := rb_ifp c3 h
        refine rb_aload_n hC 0 dX8_nextSign_31 rfl ?_
        refine rb_dup hC dX8_nextSign_32 rfl ?_
        refine rb_getI hC fr_X8_15_2 rb_obX12 rfl dX8_nextSign_33 ?_
        refine rb_iconst (x := 1) hC dX8_nextSign_36 (by decide) ?_
        refine rb_iadd hC dX8_nextSign_37 ?_
        refine rb_putI hC fr_X8_15_2 ft_2_1 rb_obX12 rfl rfl rfl dX8_nextSign_38 ?_
        obtain ⟨s4, e5, h⟩ := rb_ltE h
        refine rb_nmS e5 ?_
        refine rb_goto hC 0 dX8_nextSign_41 (by decide) ?_
        exact rb_sub [0] rfl (ih s4 _ h hE0)
def xj_Rd_nextSignF_44  (σ : rb_St) : Option (Int32 × rb_St) := if (σ.1 1 1) ≤ (σ.1 12 1) then some ((-1), σ) else if rb_ib (σ.1 12 1) 240 then some (σ.1 2 (σ.1 12 1).toNatClampNeg, σ) else none
set_option maxHeartbeats 4000000 in
set_option maxRecDepth 100000 in
theorem xu_Rd_nextSignF_44 {z : rb_Z} {w : rb_Wd} (hC : rb_Cx z rb_vX w RX8 cX8_nextSign 1 (some .int) 0)  (σ : rb_St) (r : Int32) (σ9 : rb_St) (h : xj_Rd_nextSignF_44 σ = some (r, σ9)) : rb_At z rb_vX w 1 (rb_Q z rb_vX w (some (.int r)) σ9) 44 [(0, .ref (rb_ad w 12))] [] σ := by
  unfold xj_Rd_nextSignF_44 at h
  refine rb_aload_n hC 0 dX8_nextSign_44 rfl ?_
  refine rb_getI hC fr_X8_15_2 rb_obX12 rfl dX8_nextSign_45 ?_
  refine rb_aload_n hC 0 dX8_nextSign_48 rfl ?_
  refine rb_getR hC fr_X8_9_2 rb_obX12 rfl dX8_nextSign_49 ?_
  refine rb_getI hC fr_X8_19_8 rb_obX1 rfl dX8_nextSign_52 ?_
  refine rb_icmp_ge hC 73 dX8_nextSign_55 (by decide) (fun c8 => ?_) (fun c8 => ?_)
  · replace h := rb_ifp c8 h
    refine rb_iconst (x := (-1)) hC dX8_nextSign_73 (by decide) ?_
    cases h
    exact rb_iret hC dX8_nextSign_74
  · replace h := rb_ifn c8 h
    refine rb_aload_n hC 0 dX8_nextSign_58 rfl ?_
    refine rb_getR hC fr_X8_9_2 rb_obX12 rfl dX8_nextSign_59 ?_
    refine rb_getR hC fr_X8_24_8 rb_obX1 rfl dX8_nextSign_62 ?_
    refine rb_aload_n hC 0 dX8_nextSign_65 rfl ?_
    refine rb_getI hC fr_X8_15_2 rb_obX12 rfl dX8_nextSign_66 ?_
    obtain ⟨g9, h⟩ := rb_gd h
    refine rb_iald hC rb_arX2 (rb_ibI g9) dX8_nextSign_69 ?_
    refine rb_goto hC 74 dX8_nextSign_70 (by decide) ?_
    cases h
    exact rb_iret hC dX8_nextSign_74
def xf_Rd_nextSignF  (σ : rb_St) : Option (Int32 × rb_St) := rb_b1 (xl_Rd_nextSignF_0 rb_FU σ) fun s6 => xj_Rd_nextSignF_44 s6
set_option maxHeartbeats 4000000 in
set_option maxRecDepth 100000 in
theorem xk_Rd_nextSignF {z : rb_Z} {w : rb_Wd} (hC : rb_Cx z rb_vX w RX8 cX8_nextSign 1 (some .int) 0)  (σ : rb_St) (r : Int32) (σ9 : rb_St) (h : xf_Rd_nextSignF σ = some (r, σ9)) : rb_At z rb_vX w 1 (rb_Q z rb_vX w (some (.int r)) σ9) 0 [(0, .ref (rb_ad w 12))] [] σ := by
  unfold xf_Rd_nextSignF at h
  obtain ⟨s6, q7, h⟩ := rb_b1s h
  refine rb_sub (lv2 := [(0, .ref (rb_ad w 12))]) [0] rfl ?_
  refine xt_Rd_nextSignF_0 hC  rb_FU σ _ q7 ?_
  exact rb_sub [0] rfl (xu_Rd_nextSignF_44 hC  s6 _ _ h)
theorem xc_Rd_nextSignF  (σ : rb_St) (r : Int32) (σ9 : rb_St) (h : xf_Rd_nextSignF σ = some (r, σ9)) : rb_Con rb_vX yX8_nextSign cX8_nextSign 1 (some .int) 0 (fun w => [.ref (rb_ad w 12)]) σ (fun _ => (some (.int r))) σ9 := rb_Con.of (by decide +kernel) (fun _ => Nat.le_of_ble_eq_true rfl) (fun z w hC => xk_Rd_nextSignF hC  σ r σ9 h)
theorem mv_X8_28_2 : rb_MU RX8 28 "RibbonPole$FigureReader" "RibbonPole$Reader" ⟨"RibbonPole$Reader", "nextSign", "()I"⟩ yX8_nextSign cX8_nextSign 1 (some .int) 0 := ⟨rb_in (by decide +kernel) (by decide +kernel), rb_in (by decide +kernel) (by decide +kernel), rb_in (by decide +kernel) (by decide +kernel), rb_in (by decide +kernel) (by decide +kernel), rb_in (by decide +kernel) (by decide +kernel), rb_in (by decide +kernel) (by decide +kernel), rfl, by decide, by decide, by decide +kernel⟩
def xf_Rd_passesF (p0 : Int32) (σ : rb_St) : Option (Int32 × rb_St) := rb_b2 (xf_Rd_nextSignF σ) fun r3 s1 => if r3 = p0 then rb_lt (rb_sI s1 12 1 ((s1.1 12 1) + 1)) (fun s5 => some (1, s5)) else some (0, s1)
set_option maxHeartbeats 4000000 in
set_option maxRecDepth 100000 in
theorem xk_Rd_passesF {z : rb_Z} {w : rb_Wd} (hC : rb_Cx z rb_vX w RX8 cX8_passes 2 (some .boolean) 1) (p0 : Int32) (σ : rb_St) (r : Int32) (σ9 : rb_St) (h : xf_Rd_passesF p0 σ = some (r, σ9)) : rb_At z rb_vX w 2 (rb_Q z rb_vX w (some (.int r)) σ9) 0 [(0, .ref (rb_ad w 12)), (1, .int p0)] [] σ := by
  unfold xf_Rd_passesF at h
  refine rb_aload_n hC 0 dX8_passes_0 rfl ?_
  obtain ⟨r3, s1, q2, h⟩ := rb_b2s h
  refine rb_callUi hC rb_VokX mv_X8_28_2 (xc_Rd_nextSignF  σ _ _ q2) rb_obX12 rfl [] rfl rfl rfl ⟨Nat.le_of_ble_eq_true rfl, Nat.le_of_ble_eq_true rfl⟩ (Nat.le_of_ble_eq_true rfl) dX8_passes_1 ?_
  refine rb_iload_n hC 1 dX8_passes_4 rfl ?_
  refine rb_icmp_eq hC 10 dX8_passes_5 (by decide) (fun c4 => ?_) (fun c4 => ?_)
  · replace h := rb_ifp c4 h
    refine rb_aload_n hC 0 dX8_passes_10 rfl ?_
    refine rb_dup hC dX8_passes_11 rfl ?_
    refine rb_getI hC fr_X8_15_2 rb_obX12 rfl dX8_passes_12 ?_
    refine rb_iconst (x := 1) hC dX8_passes_15 (by decide) ?_
    refine rb_iadd hC dX8_passes_16 ?_
    refine rb_putI hC fr_X8_15_2 ft_2_1 rb_obX12 rfl rfl rfl dX8_passes_17 ?_
    obtain ⟨s5, e6, h⟩ := rb_ltE h
    refine rb_nmS e6 ?_
    refine rb_iconst (x := 1) hC dX8_passes_20 (by decide) ?_
    cases h
    exact rb_zret hC rfl dX8_passes_21
  · replace h := rb_ifn c4 h
    refine rb_iconst (x := 0) hC dX8_passes_8 (by decide) ?_
    cases h
    exact rb_zret hC rfl dX8_passes_9
theorem xc_Rd_passesF (p0 : Int32) (σ : rb_St) (r : Int32) (σ9 : rb_St) (h : xf_Rd_passesF p0 σ = some (r, σ9)) : rb_Con rb_vX yX8_passes cX8_passes 2 (some .boolean) 1 (fun w => [.ref (rb_ad w 12), .int p0]) σ (fun _ => (some (.int r))) σ9 := rb_Con.of (by decide +kernel) (fun _ => Nat.le_of_ble_eq_true rfl) (fun z w hC => xk_Rd_passesF hC p0 σ r σ9 h)
def xf_Rd_isDigit (p0 : Int32) (σ : rb_St) : Int32 := if p0 < 48 then 0 else if 57 < p0 then 0 else 1
set_option maxHeartbeats 4000000 in
set_option maxRecDepth 100000 in
theorem xk_Rd_isDigit {z : rb_Z} {w : rb_Wd} (hC : rb_Cx z rb_vX w RX8 cX8_isDigit 1 (some .boolean) 0) (p0 : Int32) (σ : rb_St) (r : Int32) (h : xf_Rd_isDigit p0 σ = r) : rb_At z rb_vX w 1 (rb_Q z rb_vX w (some (.int r)) σ) 0 [(0, .int p0)] [] σ := by
  unfold xf_Rd_isDigit at h
  refine rb_iload_n hC 0 dX8_isDigit_0 rfl ?_
  refine rb_bipush (x := 48) hC dX8_isDigit_1 (by decide) ?_
  refine rb_icmp_lt hC 16 dX8_isDigit_3 (by decide) (fun c1 => ?_) (fun c1 => ?_)
  · replace h := rb_ifp c1 h
    refine rb_iconst (x := 0) hC dX8_isDigit_16 (by decide) ?_
    subst h
    exact rb_zret hC rfl dX8_isDigit_17
  · replace h := rb_ifn c1 h
    refine rb_iload_n hC 0 dX8_isDigit_6 rfl ?_
    refine rb_bipush (x := 57) hC dX8_isDigit_7 (by decide) ?_
    refine rb_icmp_gt hC 16 dX8_isDigit_9 (by decide) (fun c2 => ?_) (fun c2 => ?_)
    · replace h := rb_ifp c2 h
      refine rb_iconst (x := 0) hC dX8_isDigit_16 (by decide) ?_
      subst h
      exact rb_zret hC rfl dX8_isDigit_17
    · replace h := rb_ifn c2 h
      refine rb_iconst (x := 1) hC dX8_isDigit_12 (by decide) ?_
      refine rb_goto hC 17 dX8_isDigit_13 (by decide) ?_
      subst h
      exact rb_zret hC rfl dX8_isDigit_17
theorem xc_Rd_isDigit (p0 : Int32) (σ : rb_St) (r : Int32) (h : xf_Rd_isDigit p0 σ = r) : rb_Con rb_vX yX8_isDigit cX8_isDigit 1 (some .boolean) 0 (fun w => [.int p0]) σ (fun _ => (some (.int r))) σ := rb_Con.of (by decide +kernel) (fun _ => Nat.le_of_ble_eq_true rfl) (fun z w hC => xk_Rd_isDigit hC p0 σ r h)
theorem fr_X3_18_3 : rb_FR RX3 18 3 2 := ⟨RX3, TX3, 3, "RibbonPole$Green", rfl, rb_uX3, by decide, rb_in (by decide +kernel) (by decide +kernel), Or.inl rfl⟩
theorem ft_3_2 : rb_Ty 3 2 .int := ⟨RX3, TX3, 3, tyX3, rfl, tyX3_ok, nmX3, rfl, by decide +kernel⟩
theorem fr_X3_9_3 : rb_FR RX3 9 3 0 := ⟨RX3, TX3, 3, "RibbonPole$Green", rfl, rb_uX3, by decide, rb_in (by decide +kernel) (by decide +kernel), Or.inl rfl⟩
def xl_Green_clear_7  : Nat → Int32 → rb_St → Option (rb_St)
  | 0, _, _ => none
  | n + 1, x1, σ => if 3 ≤ x1 then some σ else if rb_ib x1 3 then rb_lt (rb_sI σ 5 x1.toNatClampNeg ((rb_sv 2).getD x1.toNatClampNeg 0)) (fun s5 => xl_Green_clear_7 n (x1 + 1) s5) else none
set_option maxHeartbeats 4000000 in
set_option maxRecDepth 100000 in
theorem xt_Green_clear_7 {z : rb_Z} {w : rb_Wd} {Q : State → Prop} (hC : rb_Cx z rb_vX w RX3 cX3_clear 2 none 0)  : ∀ (n : Nat) (x1 : Int32) (σ : rb_St) (σ9 : rb_St), xl_Green_clear_7 n x1 σ = some σ9 → rb_At z rb_vX w 2 Q 29 [] [] σ9 → rb_At z rb_vX w 2 Q 7 [(0, .ref (rb_ad w 4)), (1, .int x1)] [] σ := by
  intro n
  induction n with
  | zero =>
    intro x1 σ σ9 h hE0
    cases h
  | succ n ih =>
    intro x1 σ σ9 h hE0
    rw [xl_Green_clear_7] at h
    refine rb_iload_n hC 1 dX3_clear_7 rfl ?_
    refine rb_iconst (x := 3) hC dX3_clear_8 (by decide) ?_
    refine rb_icmp_ge hC 29 dX3_clear_9 (by decide) (fun c3 => ?_) (fun c3 => ?_)
    · replace h := rb_ifp c3 h
      cases h
      exact rb_sub [] rfl (hE0)
    · replace h := rb_ifn c3 h
      refine rb_aload_n hC 0 dX3_clear_12 rfl ?_
      refine rb_getR hC fr_X3_9_3 rb_obX4 rfl dX3_clear_13 ?_
      refine rb_iload_n hC 1 dX3_clear_16 rfl ?_
      refine rb_gets (host := "RibbonPole") hC 2 (by decide) (by decide +kernel) dX3_clear_17 ?_
      refine rb_iload_n hC 1 dX3_clear_20 rfl ?_
      obtain ⟨g4, h⟩ := rb_gd h
      refine rb_tald hC (i := 2) (by decide) (rb_ibI g4) dX3_clear_21 ?_
      refine rb_iast hC rb_arX5 (rb_ibI g4) dX3_clear_22 ?_
      obtain ⟨s5, e6, h⟩ := rb_ltE h
      refine rb_nmS e6 ?_
      refine rb_iinc hC 1 [(1, .int (x1 + 1)), (0, .ref (rb_ad w 4))] dX3_clear_23 rfl rfl (by decide) rfl ?_
      refine rb_goto hC 7 dX3_clear_26 (by decide) ?_
      exact rb_sub [1, 0] rfl (ih (x1 + 1) s5 _ h hE0)
def xf_Green_clear  (σ : rb_St) : Option (rb_St) := rb_lt (rb_sI σ 4 2 0) (fun s1 => rb_b1 (xl_Green_clear_7 rb_FU 0 s1) fun s7 => some s7)
set_option maxHeartbeats 4000000 in
set_option maxRecDepth 100000 in
theorem xk_Green_clear {z : rb_Z} {w : rb_Wd} (hC : rb_Cx z rb_vX w RX3 cX3_clear 2 none 0)  (σ : rb_St) (σ9 : rb_St) (h : xf_Green_clear σ = some σ9) : rb_At z rb_vX w 2 (rb_Q z rb_vX w none σ9) 0 [(0, .ref (rb_ad w 4))] [] σ := by
  unfold xf_Green_clear at h
  refine rb_aload_n hC 0 dX3_clear_0 rfl ?_
  refine rb_iconst (x := 0) hC dX3_clear_1 (by decide) ?_
  refine rb_putI hC fr_X3_18_3 ft_3_2 rb_obX4 rfl rfl rfl dX3_clear_2 ?_
  obtain ⟨s1, e2, h⟩ := rb_ltE h
  refine rb_nmS e2 ?_
  refine rb_iconst (x := 0) hC dX3_clear_5 (by decide) ?_
  refine rb_istore_n hC [(1, .int 0), (0, .ref (rb_ad w 4))] dX3_clear_6 (by decide) rfl ?_
  obtain ⟨s7, q8, h⟩ := rb_b1s h
  refine rb_sub (lv2 := [(0, .ref (rb_ad w 4)), (1, .int 0)]) [1, 0] rfl ?_
  refine xt_Green_clear_7 hC  rb_FU 0 s1 _ q8 ?_
  cases h
  exact rb_vret hC dX3_clear_29
theorem xc_Green_clear  (σ : rb_St) (σ9 : rb_St) (h : xf_Green_clear σ = some σ9) : rb_Con rb_vX yX3_clear cX3_clear 2 none 0 (fun w => [.ref (rb_ad w 4)]) σ (fun _ => none) σ9 := rb_Con.of (by decide +kernel) (fun _ => Nat.le_of_ble_eq_true rfl) (fun z w hC => xk_Green_clear hC  σ σ9 h)
theorem fr_X3_15_3 : rb_FR RX3 15 3 1 := ⟨RX3, TX3, 3, "RibbonPole$Green", rfl, rb_uX3, by decide, rb_in (by decide +kernel) (by decide +kernel), Or.inl rfl⟩
def xl_Green_addDancer_9 (x1 : Int32) : Nat → Int32 → rb_St → Option (rb_St)
  | 0, _, _ => none
  | n + 1, x2, σ => if 3 ≤ x2 then some σ else if 24 ≤ (x1 + x2) then some σ else if rb_ib x2 3 then if rb_ib (x1 + x2) 24 then rb_lt (rb_sI σ 6 (x1 + x2).toNatClampNeg ((rb_sv 5).getD x2.toNatClampNeg 0)) (fun s5 => xl_Green_addDancer_9 x1 n (x2 + 1) s5) else none else none
set_option maxHeartbeats 4000000 in
set_option maxRecDepth 100000 in
theorem xt_Green_addDancer_9 {z : rb_Z} {w : rb_Wd} {Q : State → Prop} (hC : rb_Cx z rb_vX w RX3 cX3_addDancer 3 (some .int) 0) (x1 : Int32) : ∀ (n : Nat) (x2 : Int32) (σ : rb_St) (σ9 : rb_St), xl_Green_addDancer_9 x1 n x2 σ = some σ9 → rb_At z rb_vX w 3 Q 44 [(0, .ref (rb_ad w 4)), (1, .int x1)] [] σ9 → rb_At z rb_vX w 3 Q 9 [(0, .ref (rb_ad w 4)), (1, .int x1), (2, .int x2)] [] σ := by
  intro n
  induction n with
  | zero =>
    intro x2 σ σ9 h hE0
    cases h
  | succ n ih =>
    intro x2 σ σ9 h hE0
    rw [xl_Green_addDancer_9] at h
    refine rb_iload_n hC 2 dX3_addDancer_9 rfl ?_
    refine rb_iconst (x := 3) hC dX3_addDancer_10 (by decide) ?_
    refine rb_icmp_ge hC 44 dX3_addDancer_11 (by decide) (fun c1 => ?_) (fun c1 => ?_)
    · replace h := rb_ifp c1 h
      cases h
      exact rb_sub [0, 1] rfl (hE0)
    · replace h := rb_ifn c1 h
      refine rb_iload_n hC 1 dX3_addDancer_14 rfl ?_
      refine rb_iload_n hC 2 dX3_addDancer_15 rfl ?_
      refine rb_iadd hC dX3_addDancer_16 ?_
      refine rb_aload_n hC 0 dX3_addDancer_17 rfl ?_
      refine rb_getR hC fr_X3_15_3 rb_obX4 rfl dX3_addDancer_18 ?_
      refine rb_alen (x := 24) hC rb_arX6 (fun _ => rfl) (by decide) dX3_addDancer_21 ?_
      refine rb_icmp_ge hC 44 dX3_addDancer_22 (by decide) (fun c2 => ?_) (fun c2 => ?_)
      · replace h := rb_ifp c2 h
        cases h
        exact rb_sub [0, 1] rfl (hE0)
      · replace h := rb_ifn c2 h
        refine rb_aload_n hC 0 dX3_addDancer_25 rfl ?_
        refine rb_getR hC fr_X3_15_3 rb_obX4 rfl dX3_addDancer_26 ?_
        refine rb_iload_n hC 1 dX3_addDancer_29 rfl ?_
        refine rb_iload_n hC 2 dX3_addDancer_30 rfl ?_
        refine rb_iadd hC dX3_addDancer_31 ?_
        refine rb_gets (host := "RibbonPole") hC 5 (by decide) (by decide +kernel) dX3_addDancer_32 ?_
        refine rb_iload_n hC 2 dX3_addDancer_35 rfl ?_
        obtain ⟨g3, h⟩ := rb_gd h
        refine rb_tald hC (i := 5) (by decide) (rb_ibI g3) dX3_addDancer_36 ?_
        obtain ⟨g4, h⟩ := rb_gd h
        refine rb_iast hC rb_arX6 (rb_ibI g4) dX3_addDancer_37 ?_
        obtain ⟨s5, e6, h⟩ := rb_ltE h
        refine rb_nmS e6 ?_
        refine rb_iinc hC 2 [(2, .int (x2 + 1)), (0, .ref (rb_ad w 4)), (1, .int x1)] dX3_addDancer_38 rfl rfl (by decide) rfl ?_
        refine rb_goto hC 9 dX3_addDancer_41 (by decide) ?_
        exact rb_sub [1, 2, 0] rfl (ih (x2 + 1) s5 _ h hE0)
def xf_Green_addDancer  (σ : rb_St) : Option (Int32 × rb_St) := rb_b1 (xl_Green_addDancer_9 ((σ.1 4 2) * 3) rb_FU 0 σ) fun s7 => rb_lt (rb_sI s7 4 2 ((s7.1 4 2) + 1)) (fun s9 => some ((σ.1 4 2) * 3, s9))
set_option maxHeartbeats 4000000 in
set_option maxRecDepth 100000 in
theorem xk_Green_addDancer {z : rb_Z} {w : rb_Wd} (hC : rb_Cx z rb_vX w RX3 cX3_addDancer 3 (some .int) 0)  (σ : rb_St) (r : Int32) (σ9 : rb_St) (h : xf_Green_addDancer σ = some (r, σ9)) : rb_At z rb_vX w 3 (rb_Q z rb_vX w (some (.int r)) σ9) 0 [(0, .ref (rb_ad w 4))] [] σ := by
  unfold xf_Green_addDancer at h
  refine rb_aload_n hC 0 dX3_addDancer_0 rfl ?_
  refine rb_getI hC fr_X3_18_3 rb_obX4 rfl dX3_addDancer_1 ?_
  refine rb_iconst (x := 3) hC dX3_addDancer_4 (by decide) ?_
  refine rb_imul hC dX3_addDancer_5 ?_
  refine rb_istore_n hC [(1, .int ((σ.1 4 2) * 3)), (0, .ref (rb_ad w 4))] dX3_addDancer_6 (by decide) rfl ?_
  refine rb_iconst (x := 0) hC dX3_addDancer_7 (by decide) ?_
  refine rb_istore_n hC [(2, .int 0), (1, .int ((σ.1 4 2) * 3)), (0, .ref (rb_ad w 4))] dX3_addDancer_8 (by decide) rfl ?_
  obtain ⟨s7, q8, h⟩ := rb_b1s h
  refine rb_sub (lv2 := [(0, .ref (rb_ad w 4)), (1, .int ((σ.1 4 2) * 3)), (2, .int 0)]) [2, 1, 0] rfl ?_
  refine xt_Green_addDancer_9 hC ((σ.1 4 2) * 3) rb_FU 0 σ _ q8 ?_
  refine rb_aload_n hC 0 dX3_addDancer_44 rfl ?_
  refine rb_dup hC dX3_addDancer_45 rfl ?_
  refine rb_getI hC fr_X3_18_3 rb_obX4 rfl dX3_addDancer_46 ?_
  refine rb_iconst (x := 1) hC dX3_addDancer_49 (by decide) ?_
  refine rb_iadd hC dX3_addDancer_50 ?_
  refine rb_putI hC fr_X3_18_3 ft_3_2 rb_obX4 rfl rfl rfl dX3_addDancer_51 ?_
  obtain ⟨s9, e10, h⟩ := rb_ltE h
  refine rb_nmS e10 ?_
  refine rb_iload_n hC 1 dX3_addDancer_54 rfl ?_
  cases h
  exact rb_iret hC dX3_addDancer_55
theorem xc_Green_addDancer  (σ : rb_St) (r : Int32) (σ9 : rb_St) (h : xf_Green_addDancer σ = some (r, σ9)) : rb_Con rb_vX yX3_addDancer cX3_addDancer 3 (some .int) 0 (fun w => [.ref (rb_ad w 4)]) σ (fun _ => (some (.int r))) σ9 := rb_Con.of (by decide +kernel) (fun _ => Nat.le_of_ble_eq_true rfl) (fun z w hC => xk_Green_addDancer hC  σ r σ9 h)
def xf_Green_trait (p0 : Int32) (p1 : Int32) (σ : rb_St) : Option Int32 := if ((p0 * 3) + p1) < 0 then some 0 else if 24 ≤ ((p0 * 3) + p1) then some 0 else if rb_ib ((p0 * 3) + p1) 24 then some (σ.1 17 ((p0 * 3) + p1).toNatClampNeg) else none
set_option maxHeartbeats 4000000 in
set_option maxRecDepth 100000 in
theorem xk_Green_trait {z : rb_Z} {w : rb_Wd} (hC : rb_Cx z rb_vX w RX3 cX3_trait 4 (some .int) 0) (p0 : Int32) (p1 : Int32) (σ : rb_St) (r : Int32) (h : xf_Green_trait p0 p1 σ = some r) : rb_At z rb_vX w 4 (rb_Q z rb_vX w (some (.int r)) σ) 0 [(0, .ref (rb_ad w 15)), (1, .int p0), (2, .int p1)] [] σ := by
  unfold xf_Green_trait at h
  refine rb_iload_n hC 1 dX3_trait_0 rfl ?_
  refine rb_iconst (x := 3) hC dX3_trait_1 (by decide) ?_
  refine rb_imul hC dX3_trait_2 ?_
  refine rb_iload_n hC 2 dX3_trait_3 rfl ?_
  refine rb_iadd hC dX3_trait_4 ?_
  refine rb_istore_n hC [(3, .int ((p0 * 3) + p1)), (0, .ref (rb_ad w 15)), (1, .int p0), (2, .int p1)] dX3_trait_5 (by decide) rfl ?_
  refine rb_iload_n hC 0 dX3_trait_6 rfl ?_
  refine rb_if_lt hC 28 dX3_trait_7 (by decide) (fun c1 => ?_) (fun c1 => ?_)
  · replace h := rb_ifp c1 h
    refine rb_iconst (x := 0) hC dX3_trait_28 (by decide) ?_
    cases h
    exact rb_iret hC dX3_trait_29
  · replace h := rb_ifn c1 h
    refine rb_iload_n hC 0 dX3_trait_10 rfl ?_
    refine rb_aload_n hC 1 dX3_trait_11 rfl ?_
    refine rb_getR hC fr_X3_15_3 rb_obX15 rfl dX3_trait_12 ?_
    refine rb_alen (x := 24) hC rb_arX17 (fun _ => rfl) (by decide) dX3_trait_15 ?_
    refine rb_icmp_ge hC 28 dX3_trait_16 (by decide) (fun c2 => ?_) (fun c2 => ?_)
    · replace h := rb_ifp c2 h
      refine rb_iconst (x := 0) hC dX3_trait_28 (by decide) ?_
      cases h
      exact rb_iret hC dX3_trait_29
    · replace h := rb_ifn c2 h
      refine rb_aload_n hC 1 dX3_trait_19 rfl ?_
      refine rb_getR hC fr_X3_15_3 rb_obX15 rfl dX3_trait_20 ?_
      refine rb_iload_n hC 0 dX3_trait_23 rfl ?_
      obtain ⟨g3, h⟩ := rb_gd h
      refine rb_iald hC rb_arX17 (rb_ibI g3) dX3_trait_24 ?_
      refine rb_goto hC 29 dX3_trait_25 (by decide) ?_
      cases h
      exact rb_iret hC dX3_trait_29
theorem xc_Green_trait (p0 : Int32) (p1 : Int32) (σ : rb_St) (r : Int32) (h : xf_Green_trait p0 p1 σ = some r) : rb_Con rb_vX yX3_trait cX3_trait 4 (some .int) 0 (fun w => [.ref (rb_ad w 15), .int p0, .int p1]) σ (fun _ => (some (.int r))) σ := rb_Con.of (by decide +kernel) (fun _ => Nat.le_of_ble_eq_true rfl) (fun z w hC => xk_Green_trait hC p0 p1 σ r h)
def xf_Green_tight  (σ : rb_St) : Int32 := σ.1 16 0
set_option maxHeartbeats 4000000 in
set_option maxRecDepth 100000 in
theorem xk_Green_tight {z : rb_Z} {w : rb_Wd} (hC : rb_Cx z rb_vX w RX3 cX3_tight 1 (some .int) 0)  (σ : rb_St) (r : Int32) (h : xf_Green_tight σ = r) : rb_At z rb_vX w 1 (rb_Q z rb_vX w (some (.int r)) σ) 0 [(0, .ref (rb_ad w 15))] [] σ := by
  unfold xf_Green_tight at h
  refine rb_aload_n hC 0 dX3_tight_0 rfl ?_
  refine rb_getR hC fr_X3_9_3 rb_obX15 rfl dX3_tight_1 ?_
  refine rb_iconst (x := 0) hC dX3_tight_4 (by decide) ?_
  refine rb_iald hC rb_arX16 (rb_ibI (by decide)) dX3_tight_5 ?_
  subst h
  exact rb_iret hC dX3_tight_6
theorem xc_Green_tight  (σ : rb_St) (r : Int32) (h : xf_Green_tight σ = r) : rb_Con rb_vX yX3_tight cX3_tight 1 (some .int) 0 (fun w => [.ref (rb_ad w 15)]) σ (fun _ => (some (.int r))) σ := rb_Con.of (by decide +kernel) (fun _ => Nat.le_of_ble_eq_true rfl) (fun z w hC => xk_Green_tight hC  σ r h)
def xf_Green_coinsAtFirst  (σ : rb_St) : Int32 := σ.1 16 1
set_option maxHeartbeats 4000000 in
set_option maxRecDepth 100000 in
theorem xk_Green_coinsAtFirst {z : rb_Z} {w : rb_Wd} (hC : rb_Cx z rb_vX w RX3 cX3_coinsAtFirst 1 (some .int) 0)  (σ : rb_St) (r : Int32) (h : xf_Green_coinsAtFirst σ = r) : rb_At z rb_vX w 1 (rb_Q z rb_vX w (some (.int r)) σ) 0 [(0, .ref (rb_ad w 15))] [] σ := by
  unfold xf_Green_coinsAtFirst at h
  refine rb_aload_n hC 0 dX3_coinsAtFirst_0 rfl ?_
  refine rb_getR hC fr_X3_9_3 rb_obX15 rfl dX3_coinsAtFirst_1 ?_
  refine rb_iconst (x := 1) hC dX3_coinsAtFirst_4 (by decide) ?_
  refine rb_iald hC rb_arX16 (rb_ibI (by decide)) dX3_coinsAtFirst_5 ?_
  subst h
  exact rb_iret hC dX3_coinsAtFirst_6
theorem xc_Green_coinsAtFirst  (σ : rb_St) (r : Int32) (h : xf_Green_coinsAtFirst σ = r) : rb_Con rb_vX yX3_coinsAtFirst cX3_coinsAtFirst 1 (some .int) 0 (fun w => [.ref (rb_ad w 15)]) σ (fun _ => (some (.int r))) σ := rb_Con.of (by decide +kernel) (fun _ => Nat.le_of_ble_eq_true rfl) (fun z w hC => xk_Green_coinsAtFirst hC  σ r h)
def xf_Green_wind  (σ : rb_St) : Int32 := σ.1 16 2
set_option maxHeartbeats 4000000 in
set_option maxRecDepth 100000 in
theorem xk_Green_wind {z : rb_Z} {w : rb_Wd} (hC : rb_Cx z rb_vX w RX3 cX3_wind 1 (some .int) 0)  (σ : rb_St) (r : Int32) (h : xf_Green_wind σ = r) : rb_At z rb_vX w 1 (rb_Q z rb_vX w (some (.int r)) σ) 0 [(0, .ref (rb_ad w 15))] [] σ := by
  unfold xf_Green_wind at h
  refine rb_aload_n hC 0 dX3_wind_0 rfl ?_
  refine rb_getR hC fr_X3_9_3 rb_obX15 rfl dX3_wind_1 ?_
  refine rb_iconst (x := 2) hC dX3_wind_4 (by decide) ?_
  refine rb_iald hC rb_arX16 (rb_ibI (by decide)) dX3_wind_5 ?_
  subst h
  exact rb_iret hC dX3_wind_6
theorem xc_Green_wind  (σ : rb_St) (r : Int32) (h : xf_Green_wind σ = r) : rb_Con rb_vX yX3_wind cX3_wind 1 (some .int) 0 (fun w => [.ref (rb_ad w 15)]) σ (fun _ => (some (.int r))) σ := rb_Con.of (by decide +kernel) (fun _ => Nat.le_of_ble_eq_true rfl) (fun z w hC => xk_Green_wind hC  σ r h)
theorem mk_X3_28 : Cond.methodLink RX3 28 arraycopyName ∈ rb_tbl := rb_in (by decide +kernel) (by decide +kernel)
def xf_Green_copyFrom  (σ : rb_St) : Option (rb_St) := rb_lt (rb_cp σ 5 16 0 0 3) (fun s1 => rb_lt (rb_cp s1 6 17 0 0 24) (fun s3 => rb_lt (rb_sI s3 15 2 (s3.1 4 2)) (fun s5 => some s5)))
set_option maxHeartbeats 4000000 in
set_option maxRecDepth 100000 in
theorem xk_Green_copyFrom {z : rb_Z} {w : rb_Wd} (hC : rb_Cx z rb_vX w RX3 cX3_copyFrom 2 none 1)  (σ : rb_St) (σ9 : rb_St) (h : xf_Green_copyFrom σ = some σ9) : rb_At z rb_vX w 2 (rb_Q z rb_vX w none σ9) 0 [(0, .ref (rb_ad w 15)), (1, .ref (rb_ad w 4))] [] σ := by
  unfold xf_Green_copyFrom at h
  refine rb_aload_n hC 1 dX3_copyFrom_0 rfl ?_
  refine rb_getR hC fr_X3_9_3 rb_obX4 rfl dX3_copyFrom_1 ?_
  refine rb_iconst (x := 0) hC dX3_copyFrom_4 (by decide) ?_
  refine rb_aload_n hC 0 dX3_copyFrom_5 rfl ?_
  refine rb_getR hC fr_X3_9_3 rb_obX15 rfl dX3_copyFrom_6 ?_
  refine rb_iconst (x := 0) hC dX3_copyFrom_9 (by decide) ?_
  refine rb_iconst (x := 3) hC dX3_copyFrom_10 (by decide) ?_
  refine rb_copy hC mk_X3_28 rb_arX5 rb_arX16 (rb_ckI (by decide)) ⟨Nat.le_of_ble_eq_true rfl, Nat.le_of_ble_eq_true rfl⟩ dX3_copyFrom_11 ?_
  obtain ⟨s1, e2, h⟩ := rb_ltE h
  refine rb_nmS e2 ?_
  refine rb_aload_n hC 1 dX3_copyFrom_14 rfl ?_
  refine rb_getR hC fr_X3_15_3 rb_obX4 rfl dX3_copyFrom_15 ?_
  refine rb_iconst (x := 0) hC dX3_copyFrom_18 (by decide) ?_
  refine rb_aload_n hC 0 dX3_copyFrom_19 rfl ?_
  refine rb_getR hC fr_X3_15_3 rb_obX15 rfl dX3_copyFrom_20 ?_
  refine rb_iconst (x := 0) hC dX3_copyFrom_23 (by decide) ?_
  refine rb_bipush (x := 24) hC dX3_copyFrom_24 (by decide) ?_
  refine rb_copy hC mk_X3_28 rb_arX6 rb_arX17 (rb_ckI (by decide)) ⟨Nat.le_of_ble_eq_true rfl, Nat.le_of_ble_eq_true rfl⟩ dX3_copyFrom_26 ?_
  obtain ⟨s3, e4, h⟩ := rb_ltE h
  refine rb_nmS e4 ?_
  refine rb_aload_n hC 0 dX3_copyFrom_29 rfl ?_
  refine rb_aload_n hC 1 dX3_copyFrom_30 rfl ?_
  refine rb_getI hC fr_X3_18_3 rb_obX4 rfl dX3_copyFrom_31 ?_
  refine rb_putI hC fr_X3_18_3 ft_3_2 rb_obX15 rfl rfl rfl dX3_copyFrom_34 ?_
  obtain ⟨s5, e6, h⟩ := rb_ltE h
  refine rb_nmS e6 ?_
  cases h
  exact rb_vret hC dX3_copyFrom_37
theorem xc_Green_copyFrom  (σ : rb_St) (σ9 : rb_St) (h : xf_Green_copyFrom σ = some σ9) : rb_Con rb_vX yX3_copyFrom cX3_copyFrom 2 none 1 (fun w => [.ref (rb_ad w 15), .ref (rb_ad w 4)]) σ (fun _ => none) σ9 := rb_Con.of (by decide +kernel) (fun _ => Nat.le_of_ble_eq_true rfl) (fun z w hC => xk_Green_copyFrom hC  σ σ9 h)
theorem fr_X5_21_5 : rb_FR RX5 21 5 1 := ⟨RX5, TX5, 5, "RibbonPole$Law", rfl, rb_uX5, by decide, rb_in (by decide +kernel) (by decide +kernel), Or.inl rfl⟩
theorem fr_X5_9_5 : rb_FR RX5 9 5 0 := ⟨RX5, TX5, 5, "RibbonPole$Law", rfl, rb_uX5, by decide, rb_in (by decide +kernel) (by decide +kernel), Or.inl rfl⟩
theorem ft_5_1 : rb_Ty 5 1 .int := ⟨RX5, TX5, 5, tyX5, rfl, tyX5_ok, nmX5, rfl, by decide +kernel⟩
def xf_Law_add (p0 : Int32) (σ : rb_St) : Option (rb_St) := if 240 ≤ (σ.1 8 1) then some σ else if rb_ib (σ.1 8 1) 240 then rb_lt (rb_sI σ 9 (σ.1 8 1).toNatClampNeg p0) (fun s3 => rb_lt (rb_sI s3 8 1 ((s3.1 8 1) + 1)) (fun s5 => some s5)) else none
set_option maxHeartbeats 4000000 in
set_option maxRecDepth 100000 in
theorem xk_Law_add {z : rb_Z} {w : rb_Wd} (hC : rb_Cx z rb_vX w RX5 cX5_add 2 none 0) (p0 : Int32) (σ : rb_St) (σ9 : rb_St) (h : xf_Law_add p0 σ = some σ9) : rb_At z rb_vX w 2 (rb_Q z rb_vX w none σ9) 0 [(0, .ref (rb_ad w 8)), (1, .int p0)] [] σ := by
  unfold xf_Law_add at h
  refine rb_aload_n hC 0 dX5_add_0 rfl ?_
  refine rb_getI hC fr_X5_21_5 rb_obX8 rfl dX5_add_1 ?_
  refine rb_sipush (x := 240) hC dX5_add_4 (by decide) ?_
  refine rb_icmp_ge hC 30 dX5_add_7 (by decide) (fun c1 => ?_) (fun c1 => ?_)
  · replace h := rb_ifp c1 h
    cases h
    exact rb_vret hC dX5_add_30
  · replace h := rb_ifn c1 h
    refine rb_aload_n hC 0 dX5_add_10 rfl ?_
    refine rb_getR hC fr_X5_9_5 rb_obX8 rfl dX5_add_11 ?_
    refine rb_aload_n hC 0 dX5_add_14 rfl ?_
    refine rb_getI hC fr_X5_21_5 rb_obX8 rfl dX5_add_15 ?_
    refine rb_iload_n hC 1 dX5_add_18 rfl ?_
    obtain ⟨g2, h⟩ := rb_gd h
    refine rb_iast hC rb_arX9 (rb_ibI g2) dX5_add_19 ?_
    obtain ⟨s3, e4, h⟩ := rb_ltE h
    refine rb_nmS e4 ?_
    refine rb_aload_n hC 0 dX5_add_20 rfl ?_
    refine rb_dup hC dX5_add_21 rfl ?_
    refine rb_getI hC fr_X5_21_5 rb_obX8 rfl dX5_add_22 ?_
    refine rb_iconst (x := 1) hC dX5_add_25 (by decide) ?_
    refine rb_iadd hC dX5_add_26 ?_
    refine rb_putI hC fr_X5_21_5 ft_5_1 rb_obX8 rfl rfl rfl dX5_add_27 ?_
    obtain ⟨s5, e6, h⟩ := rb_ltE h
    refine rb_nmS e6 ?_
    cases h
    exact rb_vret hC dX5_add_30
theorem xc_Law_add (p0 : Int32) (σ : rb_St) (σ9 : rb_St) (h : xf_Law_add p0 σ = some σ9) : rb_Con rb_vX yX5_add cX5_add 2 none 0 (fun w => [.ref (rb_ad w 8), .int p0]) σ (fun _ => none) σ9 := rb_Con.of (by decide +kernel) (fun _ => Nat.le_of_ble_eq_true rfl) (fun z w hC => xk_Law_add hC p0 σ σ9 h)
theorem mk_X5_25 : Cond.methodLink RX5 25 arraycopyName ∈ rb_tbl := rb_in (by decide +kernel) (by decide +kernel)
def xf_Law_copyFrom (k0 : Nat) (σ : rb_St) : Option (rb_St) := rb_lt (rb_cp σ 9 (k0 + 1) 0 0 240) (fun s1 => rb_lt (rb_sI s1 k0 1 (s1.1 8 1)) (fun s3 => some s3))
set_option maxHeartbeats 4000000 in
set_option maxRecDepth 100000 in
theorem xk_Law_copyFrom {z : rb_Z} {w : rb_Wd} (hC : rb_Cx z rb_vX w RX5 cX5_copyFrom 2 none 1) (k0 : Nat) (hk0 : rb_isLaw k0) (σ : rb_St) (σ9 : rb_St) (h : xf_Law_copyFrom k0 σ = some σ9) : rb_At z rb_vX w 2 (rb_Q z rb_vX w none σ9) 0 [(0, .ref (rb_ad w k0)), (1, .ref (rb_ad w 8))] [] σ := by
  unfold xf_Law_copyFrom at h
  refine rb_aload_n hC 1 dX5_copyFrom_0 rfl ?_
  refine rb_getR hC fr_X5_9_5 rb_obX8 rfl dX5_copyFrom_1 ?_
  refine rb_iconst (x := 0) hC dX5_copyFrom_4 (by decide) ?_
  refine rb_aload_n hC 0 dX5_copyFrom_5 rfl ?_
  refine rb_getR hC fr_X5_9_5 (rb_obLaw hk0) rfl dX5_copyFrom_6 ?_
  refine rb_iconst (x := 0) hC dX5_copyFrom_9 (by decide) ?_
  refine rb_sipush (x := 240) hC dX5_copyFrom_10 (by decide) ?_
  refine rb_copy hC mk_X5_25 rb_arX9 (rb_arLaw1 hk0) (rb_ckI (by decide)) ⟨Nat.le_of_ble_eq_true rfl, Nat.le_of_ble_eq_true rfl⟩ dX5_copyFrom_13 ?_
  obtain ⟨s1, e2, h⟩ := rb_ltE h
  refine rb_nmS e2 ?_
  refine rb_aload_n hC 0 dX5_copyFrom_16 rfl ?_
  refine rb_aload_n hC 1 dX5_copyFrom_17 rfl ?_
  refine rb_getI hC fr_X5_21_5 rb_obX8 rfl dX5_copyFrom_18 ?_
  refine rb_putI hC fr_X5_21_5 ft_5_1 (rb_obLaw hk0) rfl rfl rfl dX5_copyFrom_21 ?_
  obtain ⟨s3, e4, h⟩ := rb_ltE h
  refine rb_nmS e4 ?_
  cases h
  exact rb_vret hC dX5_copyFrom_24
theorem xc_Law_copyFrom (k0 : Nat) (hk0 : rb_isLaw k0) (σ : rb_St) (σ9 : rb_St) (h : xf_Law_copyFrom k0 σ = some σ9) : rb_Con rb_vX yX5_copyFrom cX5_copyFrom 2 none 1 (fun w => [.ref (rb_ad w k0), .ref (rb_ad w 8)]) σ (fun _ => none) σ9 := rb_Con.of (by decide +kernel) (fun _ => Nat.le_of_ble_eq_true rfl) (fun z w hC => xk_Law_copyFrom hC k0 hk0 σ σ9 h)
theorem fr_X5_31_5 : rb_FR RX5 31 5 4 := ⟨RX5, TX5, 5, "RibbonPole$Law", rfl, rb_uX5, by decide, rb_in (by decide +kernel) (by decide +kernel), Or.inl rfl⟩
theorem fr_X5_18_5 : rb_FR RX5 18 5 3 := ⟨RX5, TX5, 5, "RibbonPole$Law", rfl, rb_uX5, by decide, rb_in (by decide +kernel) (by decide +kernel), Or.inl rfl⟩
theorem ft_5_4 : rb_Ty 5 4 .int := ⟨RX5, TX5, 5, tyX5, rfl, tyX5_ok, nmX5, rfl, by decide +kernel⟩
def xf_Law_push (k0 : Nat) (p0 : Int32) (σ : rb_St) : Option (rb_St) := if 64 ≤ (σ.1 k0 4) then some σ else if rb_ib (σ.1 k0 4) 64 then rb_lt (rb_sI σ (k0 + 3) (σ.1 k0 4).toNatClampNeg p0) (fun s3 => rb_lt (rb_sI s3 k0 4 ((s3.1 k0 4) + 1)) (fun s5 => some s5)) else none
set_option maxHeartbeats 4000000 in
set_option maxRecDepth 100000 in
theorem xk_Law_push {z : rb_Z} {w : rb_Wd} (hC : rb_Cx z rb_vX w RX5 cX5_push 2 none 0) (k0 : Nat) (hk0 : rb_isLaw k0) (p0 : Int32) (σ : rb_St) (σ9 : rb_St) (h : xf_Law_push k0 p0 σ = some σ9) : rb_At z rb_vX w 2 (rb_Q z rb_vX w none σ9) 0 [(0, .ref (rb_ad w k0)), (1, .int p0)] [] σ := by
  unfold xf_Law_push at h
  refine rb_aload_n hC 0 dX5_push_0 rfl ?_
  refine rb_getI hC fr_X5_31_5 (rb_obLaw hk0) rfl dX5_push_1 ?_
  refine rb_bipush (x := 64) hC dX5_push_4 (by decide) ?_
  refine rb_icmp_ge hC 29 dX5_push_6 (by decide) (fun c1 => ?_) (fun c1 => ?_)
  · replace h := rb_ifp c1 h
    cases h
    exact rb_vret hC dX5_push_29
  · replace h := rb_ifn c1 h
    refine rb_aload_n hC 0 dX5_push_9 rfl ?_
    refine rb_getR hC fr_X5_18_5 (rb_obLaw hk0) rfl dX5_push_10 ?_
    refine rb_aload_n hC 0 dX5_push_13 rfl ?_
    refine rb_getI hC fr_X5_31_5 (rb_obLaw hk0) rfl dX5_push_14 ?_
    refine rb_iload_n hC 1 dX5_push_17 rfl ?_
    obtain ⟨g2, h⟩ := rb_gd h
    refine rb_iast hC (rb_arLaw3 hk0) (rb_ibI g2) dX5_push_18 ?_
    obtain ⟨s3, e4, h⟩ := rb_ltE h
    refine rb_nmS e4 ?_
    refine rb_aload_n hC 0 dX5_push_19 rfl ?_
    refine rb_dup hC dX5_push_20 rfl ?_
    refine rb_getI hC fr_X5_31_5 (rb_obLaw hk0) rfl dX5_push_21 ?_
    refine rb_iconst (x := 1) hC dX5_push_24 (by decide) ?_
    refine rb_iadd hC dX5_push_25 ?_
    refine rb_putI hC fr_X5_31_5 ft_5_4 (rb_obLaw hk0) rfl rfl rfl dX5_push_26 ?_
    obtain ⟨s5, e6, h⟩ := rb_ltE h
    refine rb_nmS e6 ?_
    cases h
    exact rb_vret hC dX5_push_29
theorem xc_Law_push (k0 : Nat) (hk0 : rb_isLaw k0) (p0 : Int32) (σ : rb_St) (σ9 : rb_St) (h : xf_Law_push k0 p0 σ = some σ9) : rb_Con rb_vX yX5_push cX5_push 2 none 0 (fun w => [.ref (rb_ad w k0), .int p0]) σ (fun _ => none) σ9 := rb_Con.of (by decide +kernel) (fun _ => Nat.le_of_ble_eq_true rfl) (fun z w hC => xk_Law_push hC k0 hk0 p0 σ σ9 h)
def xf_Law_pop (k0 : Nat) (σ : rb_St) : Option (Int32 × rb_St) := if 0 < (σ.1 k0 4) then rb_lt (rb_sI σ k0 4 ((σ.1 k0 4) - 1)) (fun s2 => if rb_ib (s2.1 k0 4) 64 then some (s2.1 (k0 + 3) (s2.1 k0 4).toNatClampNeg, s2) else none) else some (0, σ)
set_option maxHeartbeats 4000000 in
set_option maxRecDepth 100000 in
theorem xk_Law_pop {z : rb_Z} {w : rb_Wd} (hC : rb_Cx z rb_vX w RX5 cX5_pop 1 (some .int) 0) (k0 : Nat) (hk0 : rb_isLaw k0) (σ : rb_St) (r : Int32) (σ9 : rb_St) (h : xf_Law_pop k0 σ = some (r, σ9)) : rb_At z rb_vX w 1 (rb_Q z rb_vX w (some (.int r)) σ9) 0 [(0, .ref (rb_ad w k0))] [] σ := by
  unfold xf_Law_pop at h
  refine rb_aload_n hC 0 dX5_pop_0 rfl ?_
  refine rb_getI hC fr_X5_31_5 (rb_obLaw hk0) rfl dX5_pop_1 ?_
  refine rb_if_gt hC 9 dX5_pop_4 (by decide) (fun c1 => ?_) (fun c1 => ?_)
  · replace h := rb_ifp c1 h
    refine rb_aload_n hC 0 dX5_pop_9 rfl ?_
    refine rb_dup hC dX5_pop_10 rfl ?_
    refine rb_getI hC fr_X5_31_5 (rb_obLaw hk0) rfl dX5_pop_11 ?_
    refine rb_iconst (x := 1) hC dX5_pop_14 (by decide) ?_
    refine rb_isub hC dX5_pop_15 ?_
    refine rb_putI hC fr_X5_31_5 ft_5_4 (rb_obLaw hk0) rfl rfl rfl dX5_pop_16 ?_
    obtain ⟨s2, e3, h⟩ := rb_ltE h
    refine rb_nmS e3 ?_
    refine rb_aload_n hC 0 dX5_pop_19 rfl ?_
    refine rb_getR hC fr_X5_18_5 (rb_obLaw hk0) rfl dX5_pop_20 ?_
    refine rb_aload_n hC 0 dX5_pop_23 rfl ?_
    refine rb_getI hC fr_X5_31_5 (rb_obLaw hk0) rfl dX5_pop_24 ?_
    obtain ⟨g4, h⟩ := rb_gd h
    refine rb_iald hC (rb_arLaw3 hk0) (rb_ibI g4) dX5_pop_27 ?_
    cases h
    exact rb_iret hC dX5_pop_28
  · replace h := rb_ifn c1 h
    refine rb_iconst (x := 0) hC dX5_pop_7 (by decide) ?_
    cases h
    exact rb_iret hC dX5_pop_8
theorem xc_Law_pop (k0 : Nat) (hk0 : rb_isLaw k0) (σ : rb_St) (r : Int32) (σ9 : rb_St) (h : xf_Law_pop k0 σ = some (r, σ9)) : rb_Con rb_vX yX5_pop cX5_pop 1 (some .int) 0 (fun w => [.ref (rb_ad w k0)]) σ (fun _ => (some (.int r))) σ9 := rb_Con.of (by decide +kernel) (fun _ => Nat.le_of_ble_eq_true rfl) (fun z w hC => xk_Law_pop hC k0 hk0 σ r σ9 h)
def xf_Law_joined (p0 : Int32) (p1 : Int32) (p2 : Int32) (σ : rb_St) : Option Int64 := if p0 = (-18) then some ((p1 &&& p2).toInt64) else if p0 = (-17) then if p1 ≤ p2 then some 0 else some 1 else if p0 = (-16) then if p2 ≤ p1 then some 0 else some 1 else if p0 = (-15) then if p1 = p2 then some 1 else some 0 else if p0 = (-14) then if p2 = 0 then some 0 else if p2 = 0 then none else some ((p1 / p2).toInt64) else if p0 = (-13) then some (p1.toInt64 * p2.toInt64) else if p0 = (-12) then some (p1.toInt64 - p2.toInt64) else if p0 = (-11) then some (p1.toInt64 + p2.toInt64) else some ((p1 ||| p2).toInt64)
set_option maxHeartbeats 4000000 in
set_option maxRecDepth 100000 in
theorem xk_Law_joined {z : rb_Z} {w : rb_Wd} (hC : rb_Cx z rb_vX w RX5 cX5_joined 3 (some .long) 0) (p0 : Int32) (p1 : Int32) (p2 : Int32) (σ : rb_St) (r : Int64) (h : xf_Law_joined p0 p1 p2 σ = some r) : rb_At z rb_vX w 3 (rb_Q z rb_vX w (some (.long r)) σ) 0 [(0, .int p0), (1, .int p1), (2, .int p2)] [] σ := by
  unfold xf_Law_joined at h
  refine rb_iload_n hC 0 dX5_joined_0 rfl ?_
  by_cases c1_0 : p0 = (-18)
  · replace h := rb_ifp c1_0 h
    refine rb_tableIn hC 112 dX5_joined_1 (by rw [c1_0]; decide) (by rw [c1_0]; decide) (by rw [c1_0]; rfl) (by decide) ?_
    refine rb_iload_n hC 1 dX5_joined_112 rfl ?_
    refine rb_iload_n hC 2 dX5_joined_113 rfl ?_
    refine rb_iand hC dX5_joined_114 ?_
    refine rb_i2l hC dX5_joined_115 ?_
    cases h
    exact rb_lret hC dX5_joined_116
  · replace h := rb_ifn c1_0 h
    by_cases c1_1 : p0 = (-17)
    · replace h := rb_ifp c1_1 h
      refine rb_tableIn hC 101 dX5_joined_1 (by rw [c1_1]; decide) (by rw [c1_1]; decide) (by rw [c1_1]; rfl) (by decide) ?_
      refine rb_iload_n hC 1 dX5_joined_101 rfl ?_
      refine rb_iload_n hC 2 dX5_joined_102 rfl ?_
      refine rb_icmp_le hC 110 dX5_joined_103 (by decide) (fun c1 => ?_) (fun c1 => ?_)
      · replace h := rb_ifp c1 h
        refine rb_lconst (x := 0) hC dX5_joined_110 (by decide) ?_
        cases h
        exact rb_lret hC dX5_joined_111
      · replace h := rb_ifn c1 h
        refine rb_lconst (x := 1) hC dX5_joined_106 (by decide) ?_
        refine rb_goto hC 111 dX5_joined_107 (by decide) ?_
        cases h
        exact rb_lret hC dX5_joined_111
    · replace h := rb_ifn c1_1 h
      by_cases c1_2 : p0 = (-16)
      · replace h := rb_ifp c1_2 h
        refine rb_tableIn hC 90 dX5_joined_1 (by rw [c1_2]; decide) (by rw [c1_2]; decide) (by rw [c1_2]; rfl) (by decide) ?_
        refine rb_iload_n hC 1 dX5_joined_90 rfl ?_
        refine rb_iload_n hC 2 dX5_joined_91 rfl ?_
        refine rb_icmp_ge hC 99 dX5_joined_92 (by decide) (fun c2 => ?_) (fun c2 => ?_)
        · replace h := rb_ifp c2 h
          refine rb_lconst (x := 0) hC dX5_joined_99 (by decide) ?_
          cases h
          exact rb_lret hC dX5_joined_100
        · replace h := rb_ifn c2 h
          refine rb_lconst (x := 1) hC dX5_joined_95 (by decide) ?_
          refine rb_goto hC 100 dX5_joined_96 (by decide) ?_
          cases h
          exact rb_lret hC dX5_joined_100
      · replace h := rb_ifn c1_2 h
        by_cases c1_3 : p0 = (-15)
        · replace h := rb_ifp c1_3 h
          refine rb_tableIn hC 79 dX5_joined_1 (by rw [c1_3]; decide) (by rw [c1_3]; decide) (by rw [c1_3]; rfl) (by decide) ?_
          refine rb_iload_n hC 1 dX5_joined_79 rfl ?_
          refine rb_iload_n hC 2 dX5_joined_80 rfl ?_
          refine rb_icmp_ne hC 88 dX5_joined_81 (by decide) (fun c3 => ?_) (fun c3 => ?_)
          · replace h := rb_ifn c3 h
            refine rb_lconst (x := 0) hC dX5_joined_88 (by decide) ?_
            cases h
            exact rb_lret hC dX5_joined_89
          · replace h := rb_ifp c3 h
            refine rb_lconst (x := 1) hC dX5_joined_84 (by decide) ?_
            refine rb_goto hC 89 dX5_joined_85 (by decide) ?_
            cases h
            exact rb_lret hC dX5_joined_89
        · replace h := rb_ifn c1_3 h
          by_cases c1_4 : p0 = (-14)
          · replace h := rb_ifp c1_4 h
            refine rb_tableIn hC 66 dX5_joined_1 (by rw [c1_4]; decide) (by rw [c1_4]; decide) (by rw [c1_4]; rfl) (by decide) ?_
            refine rb_iload_n hC 2 dX5_joined_66 rfl ?_
            refine rb_if_ne hC 74 dX5_joined_67 (by decide) (fun c4 => ?_) (fun c4 => ?_)
            · replace h := rb_ifn c4 h
              refine rb_iload_n hC 1 dX5_joined_74 rfl ?_
              refine rb_iload_n hC 2 dX5_joined_75 rfl ?_
              obtain ⟨g5, h⟩ := rb_dv h
              refine rb_idiv hC dX5_joined_76 g5 ?_
              refine rb_i2l hC dX5_joined_77 ?_
              cases h
              exact rb_lret hC dX5_joined_78
            · replace h := rb_ifp c4 h
              refine rb_lconst (x := 0) hC dX5_joined_70 (by decide) ?_
              refine rb_goto hC 78 dX5_joined_71 (by decide) ?_
              cases h
              exact rb_lret hC dX5_joined_78
          · replace h := rb_ifn c1_4 h
            by_cases c1_5 : p0 = (-13)
            · replace h := rb_ifp c1_5 h
              refine rb_tableIn hC 60 dX5_joined_1 (by rw [c1_5]; decide) (by rw [c1_5]; decide) (by rw [c1_5]; rfl) (by decide) ?_
              refine rb_iload_n hC 1 dX5_joined_60 rfl ?_
              refine rb_i2l hC dX5_joined_61 ?_
              refine rb_iload_n hC 2 dX5_joined_62 rfl ?_
              refine rb_i2l hC dX5_joined_63 ?_
              refine rb_lmul hC dX5_joined_64 ?_
              cases h
              exact rb_lret hC dX5_joined_65
            · replace h := rb_ifn c1_5 h
              by_cases c1_6 : p0 = (-12)
              · replace h := rb_ifp c1_6 h
                refine rb_tableIn hC 54 dX5_joined_1 (by rw [c1_6]; decide) (by rw [c1_6]; decide) (by rw [c1_6]; rfl) (by decide) ?_
                refine rb_iload_n hC 1 dX5_joined_54 rfl ?_
                refine rb_i2l hC dX5_joined_55 ?_
                refine rb_iload_n hC 2 dX5_joined_56 rfl ?_
                refine rb_i2l hC dX5_joined_57 ?_
                refine rb_lsub hC dX5_joined_58 ?_
                cases h
                exact rb_lret hC dX5_joined_59
              · replace h := rb_ifn c1_6 h
                by_cases c1_7 : p0 = (-11)
                · replace h := rb_ifp c1_7 h
                  refine rb_tableIn hC 48 dX5_joined_1 (by rw [c1_7]; decide) (by rw [c1_7]; decide) (by rw [c1_7]; rfl) (by decide) ?_
                  refine rb_iload_n hC 1 dX5_joined_48 rfl ?_
                  refine rb_i2l hC dX5_joined_49 ?_
                  refine rb_iload_n hC 2 dX5_joined_50 rfl ?_
                  refine rb_i2l hC dX5_joined_51 ?_
                  refine rb_ladd hC dX5_joined_52 ?_
                  cases h
                  exact rb_lret hC dX5_joined_53
                · replace h := rb_ifn c1_7 h
                  have hO : p0.toInt < -18 ∨ -11 < p0.toInt := by
                    have n0 : p0.toInt ≠ -18 := fun q3 => c1_0 (Int32.toInt_inj.mp (q3.trans (by decide)))
                    have n1 : p0.toInt ≠ -17 := fun q3 => c1_1 (Int32.toInt_inj.mp (q3.trans (by decide)))
                    have n2 : p0.toInt ≠ -16 := fun q3 => c1_2 (Int32.toInt_inj.mp (q3.trans (by decide)))
                    have n3 : p0.toInt ≠ -15 := fun q3 => c1_3 (Int32.toInt_inj.mp (q3.trans (by decide)))
                    have n4 : p0.toInt ≠ -14 := fun q3 => c1_4 (Int32.toInt_inj.mp (q3.trans (by decide)))
                    have n5 : p0.toInt ≠ -13 := fun q3 => c1_5 (Int32.toInt_inj.mp (q3.trans (by decide)))
                    have n6 : p0.toInt ≠ -12 := fun q3 => c1_6 (Int32.toInt_inj.mp (q3.trans (by decide)))
                    have n7 : p0.toInt ≠ -11 := fun q3 => c1_7 (Int32.toInt_inj.mp (q3.trans (by decide)))
                    omega
                  refine rb_tableOut hC 117 dX5_joined_1 hO (by decide) ?_
                  refine rb_iload_n hC 1 dX5_joined_117 rfl ?_
                  refine rb_iload_n hC 2 dX5_joined_118 rfl ?_
                  refine rb_ior hC dX5_joined_119 ?_
                  refine rb_i2l hC dX5_joined_120 ?_
                  cases h
                  exact rb_lret hC dX5_joined_121
theorem xc_Law_joined (p0 : Int32) (p1 : Int32) (p2 : Int32) (σ : rb_St) (r : Int64) (h : xf_Law_joined p0 p1 p2 σ = some r) : rb_Con rb_vX yX5_joined cX5_joined 3 (some .long) 0 (fun w => [.int p0, .int p1, .int p2]) σ (fun _ => (some (.long r))) σ := rb_Con.of (by decide +kernel) (fun _ => Nat.le_of_ble_eq_true rfl) (fun z w hC => xk_Law_joined hC p0 p1 p2 σ r h)
theorem kc_X5_53 : Cond.constantLong RX5 53 (-1000000) ∈ rb_tbl := rb_in (by decide +kernel) (by decide +kernel)
theorem kc_X5_55 : Cond.constantLong RX5 55 1000000 ∈ rb_tbl := rb_in (by decide +kernel) (by decide +kernel)
theorem mk_X5_57 : Cond.methodLink RX5 57 Lib.MathLoose.min_long.x ∈ rb_tbl := rb_in (by decide +kernel) (by decide +kernel)
theorem mk_X5_63 : Cond.methodLink RX5 63 Lib.MathLoose.max_long.x ∈ rb_tbl := rb_in (by decide +kernel) (by decide +kernel)
def xf_Law_held (p0 : Int64) (σ : rb_St) : Int32 := (rb_mxJ (-1000000) (rb_mnJ 1000000 p0)).toInt32
set_option maxHeartbeats 4000000 in
set_option maxRecDepth 100000 in
theorem xk_Law_held {z : rb_Z} {w : rb_Wd} (hC : rb_Cx z rb_vX w RX5 cX5_held 2 (some .int) 1) (p0 : Int64) (σ : rb_St) (r : Int32) (h : xf_Law_held p0 σ = r) : rb_At z rb_vX w 2 (rb_Q z rb_vX w (some (.int r)) σ) 0 [(0, .long p0)] [] σ := by
  unfold xf_Law_held at h
  refine rb_ldc2_w hC kc_X5_53 dX5_held_0 ?_
  refine rb_ldc2_w hC kc_X5_55 dX5_held_3 ?_
  refine rb_lload_n hC 0 dX5_held_6 rfl ?_
  refine rb_mminJ hC mk_X5_57 ⟨Nat.le_of_ble_eq_true rfl, Nat.le_of_ble_eq_true rfl⟩ dX5_held_7 ?_
  refine rb_mmaxJ hC mk_X5_63 ⟨Nat.le_of_ble_eq_true rfl, Nat.le_of_ble_eq_true rfl⟩ dX5_held_10 ?_
  refine rb_l2i hC dX5_held_13 ?_
  subst h
  exact rb_iret hC dX5_held_14
theorem xc_Law_held (p0 : Int64) (σ : rb_St) (r : Int32) (h : xf_Law_held p0 σ = r) : rb_Con rb_vX yX5_held cX5_held 2 (some .int) 1 (fun w => [.long p0]) σ (fun _ => (some (.int r))) σ := rb_Con.of (by decide +kernel) (fun _ => Nat.le_of_ble_eq_true rfl) (fun z w hC => xk_Law_held hC p0 σ r h)
theorem fr_X1_15_1 : rb_FR RX1 15 1 1 := ⟨RX1, TX1, 2, "RibbonPole$Figure", rfl, rb_uX1, by decide, rb_in (by decide +kernel) (by decide +kernel), Or.inl rfl⟩
theorem ft_1_1 : rb_Ty 1 1 .int := ⟨RX1, TX1, 2, tyX1, rfl, tyX1_ok, nmX1, rfl, by decide +kernel⟩
theorem fr_X1_9_1 : rb_FR RX1 9 1 0 := ⟨RX1, TX1, 2, "RibbonPole$Figure", rfl, rb_uX1, by decide, rb_in (by decide +kernel) (by decide +kernel), Or.inl rfl⟩
def xf_Fig_add (p0 : Int32) (σ : rb_St) : Option (rb_St) := if 48 ≤ (σ.1 13 1) then rb_lt (rb_sI σ 13 1 ((σ.1 13 1) + 1)) (fun s2 => some s2) else if rb_ib (σ.1 13 1) 48 then rb_lt (rb_sI σ 14 (σ.1 13 1).toNatClampNeg p0) (fun s5 => rb_lt (rb_sI s5 13 1 ((s5.1 13 1) + 1)) (fun s7 => some s7)) else none
set_option maxHeartbeats 4000000 in
set_option maxRecDepth 100000 in
theorem xk_Fig_add {z : rb_Z} {w : rb_Wd} (hC : rb_Cx z rb_vX w RX1 cX1_add 2 none 0) (p0 : Int32) (σ : rb_St) (σ9 : rb_St) (h : xf_Fig_add p0 σ = some σ9) : rb_At z rb_vX w 2 (rb_Q z rb_vX w none σ9) 0 [(0, .ref (rb_ad w 13)), (1, .int p0)] [] σ := by
  unfold xf_Fig_add at h
  refine rb_aload_n hC 0 dX1_add_0 rfl ?_
  refine rb_getI hC fr_X1_15_1 rb_obX13 rfl dX1_add_1 ?_
  refine rb_bipush (x := 48) hC dX1_add_4 (by decide) ?_
  refine rb_icmp_ge hC 19 dX1_add_6 (by decide) (fun c1 => ?_) (fun c1 => ?_)
  · replace h := rb_ifp c1 h
    refine rb_aload_n hC 0 dX1_add_19 rfl ?_
    refine rb_dup hC dX1_add_20 rfl ?_
    refine rb_getI hC fr_X1_15_1 rb_obX13 rfl dX1_add_21 ?_
    refine rb_iconst (x := 1) hC dX1_add_24 (by decide) ?_
    refine rb_iadd hC dX1_add_25 ?_
    refine rb_putI hC fr_X1_15_1 ft_1_1 rb_obX13 rfl rfl rfl dX1_add_26 ?_
    obtain ⟨s2, e3, h⟩ := rb_ltE h
    refine rb_nmS e3 ?_
    cases h
    exact rb_vret hC dX1_add_29
  · replace h := rb_ifn c1 h
    refine rb_aload_n hC 0 dX1_add_9 rfl ?_
    refine rb_getR hC fr_X1_9_1 rb_obX13 rfl dX1_add_10 ?_
    refine rb_aload_n hC 0 dX1_add_13 rfl ?_
    refine rb_getI hC fr_X1_15_1 rb_obX13 rfl dX1_add_14 ?_
    refine rb_iload_n hC 1 dX1_add_17 rfl ?_
    obtain ⟨g4, h⟩ := rb_gd h
    refine rb_iast hC rb_arX14 (rb_ibI g4) dX1_add_18 ?_
    obtain ⟨s5, e6, h⟩ := rb_ltE h
    refine rb_nmS e6 ?_
    refine rb_aload_n hC 0 dX1_add_19 rfl ?_
    refine rb_dup hC dX1_add_20 rfl ?_
    refine rb_getI hC fr_X1_15_1 rb_obX13 rfl dX1_add_21 ?_
    refine rb_iconst (x := 1) hC dX1_add_24 (by decide) ?_
    refine rb_iadd hC dX1_add_25 ?_
    refine rb_putI hC fr_X1_15_1 ft_1_1 rb_obX13 rfl rfl rfl dX1_add_26 ?_
    obtain ⟨s7, e8, h⟩ := rb_ltE h
    refine rb_nmS e8 ?_
    cases h
    exact rb_vret hC dX1_add_29
theorem xc_Fig_add (p0 : Int32) (σ : rb_St) (σ9 : rb_St) (h : xf_Fig_add p0 σ = some σ9) : rb_Con rb_vX yX1_add cX1_add 2 none 0 (fun w => [.ref (rb_ad w 13), .int p0]) σ (fun _ => none) σ9 := rb_Con.of (by decide +kernel) (fun _ => Nat.le_of_ble_eq_true rfl) (fun z w hC => xk_Fig_add hC p0 σ σ9 h)
def xl_Fig_repeatFrom_13 (x1 : Int32) (x2 : Int32) (x3 : Int32) : Nat → Int32 → rb_St → Option (rb_St)
  | 0, _, _ => none
  | n + 1, x4, σ => if 48 ≤ x4 then some σ else if (x1 + (x2 * x3)) ≤ x4 then some σ else if rb_ib (x4 - x3) 48 then if rb_ib x4 48 then rb_lt (rb_sI σ 14 x4.toNatClampNeg (σ.1 14 (x4 - x3).toNatClampNeg)) (fun s5 => xl_Fig_repeatFrom_13 x1 x2 x3 n (x4 + 1) s5) else none else none
set_option maxHeartbeats 4000000 in
set_option maxRecDepth 100000 in
theorem xt_Fig_repeatFrom_13 {z : rb_Z} {w : rb_Wd} {Q : State → Prop} (hC : rb_Cx z rb_vX w RX1 cX1_repeatFrom 5 none 0) (x1 : Int32) (x2 : Int32) (x3 : Int32) : ∀ (n : Nat) (x4 : Int32) (σ : rb_St) (σ9 : rb_St), xl_Fig_repeatFrom_13 x1 x2 x3 n x4 σ = some σ9 → rb_At z rb_vX w 5 Q 52 [(0, .ref (rb_ad w 13)), (1, .int x1), (2, .int x2), (3, .int x3)] [] σ9 → rb_At z rb_vX w 5 Q 13 [(0, .ref (rb_ad w 13)), (1, .int x1), (2, .int x2), (3, .int x3), (4, .int x4)] [] σ := by
  intro n
  induction n with
  | zero =>
    intro x4 σ σ9 h hE0
    cases h
  | succ n ih =>
    intro x4 σ σ9 h hE0
    rw [xl_Fig_repeatFrom_13] at h
    refine rb_iload hC 4 dX1_repeatFrom_13 rfl ?_
    refine rb_bipush (x := 48) hC dX1_repeatFrom_15 (by decide) ?_
    refine rb_icmp_ge hC 52 dX1_repeatFrom_17 (by decide) (fun c1 => ?_) (fun c1 => ?_)
    · replace h := rb_ifp c1 h
      cases h
      exact rb_sub [0, 1, 2, 3] rfl (hE0)
    · replace h := rb_ifn c1 h
      refine rb_iload hC 4 dX1_repeatFrom_20 rfl ?_
      refine rb_iload_n hC 1 dX1_repeatFrom_22 rfl ?_
      refine rb_iload_n hC 2 dX1_repeatFrom_23 rfl ?_
      refine rb_iload_n hC 3 dX1_repeatFrom_24 rfl ?_
      refine rb_imul hC dX1_repeatFrom_25 ?_
      refine rb_iadd hC dX1_repeatFrom_26 ?_
      refine rb_icmp_ge hC 52 dX1_repeatFrom_27 (by decide) (fun c2 => ?_) (fun c2 => ?_)
      · replace h := rb_ifp c2 h
        cases h
        exact rb_sub [0, 1, 2, 3] rfl (hE0)
      · replace h := rb_ifn c2 h
        refine rb_aload_n hC 0 dX1_repeatFrom_30 rfl ?_
        refine rb_getR hC fr_X1_9_1 rb_obX13 rfl dX1_repeatFrom_31 ?_
        refine rb_iload hC 4 dX1_repeatFrom_34 rfl ?_
        refine rb_aload_n hC 0 dX1_repeatFrom_36 rfl ?_
        refine rb_getR hC fr_X1_9_1 rb_obX13 rfl dX1_repeatFrom_37 ?_
        refine rb_iload hC 4 dX1_repeatFrom_40 rfl ?_
        refine rb_iload_n hC 3 dX1_repeatFrom_42 rfl ?_
        refine rb_isub hC dX1_repeatFrom_43 ?_
        obtain ⟨g3, h⟩ := rb_gd h
        refine rb_iald hC rb_arX14 (rb_ibI g3) dX1_repeatFrom_44 ?_
        obtain ⟨g4, h⟩ := rb_gd h
        refine rb_iast hC rb_arX14 (rb_ibI g4) dX1_repeatFrom_45 ?_
        obtain ⟨s5, e6, h⟩ := rb_ltE h
        refine rb_nmS e6 ?_
        refine rb_iinc hC 4 [(4, .int (x4 + 1)), (0, .ref (rb_ad w 13)), (1, .int x1), (2, .int x2), (3, .int x3)] dX1_repeatFrom_46 rfl rfl (by decide) rfl ?_
        refine rb_goto hC 13 dX1_repeatFrom_49 (by decide) ?_
        exact rb_sub [1, 2, 3, 4, 0] rfl (ih (x4 + 1) s5 _ h hE0)
def xf_Fig_repeatFrom (p0 : Int32) (p1 : Int32) (σ : rb_St) : Option (rb_St) := rb_b1 (xl_Fig_repeatFrom_13 p0 p1 ((σ.1 13 1) - p0) rb_FU (σ.1 13 1) σ) fun s7 => rb_lt (rb_sI s7 13 1 (p0 + (p1 * ((σ.1 13 1) - p0)))) (fun s9 => some s9)
set_option maxHeartbeats 4000000 in
set_option maxRecDepth 100000 in
theorem xk_Fig_repeatFrom {z : rb_Z} {w : rb_Wd} (hC : rb_Cx z rb_vX w RX1 cX1_repeatFrom 5 none 0) (p0 : Int32) (p1 : Int32) (σ : rb_St) (σ9 : rb_St) (h : xf_Fig_repeatFrom p0 p1 σ = some σ9) : rb_At z rb_vX w 5 (rb_Q z rb_vX w none σ9) 0 [(0, .ref (rb_ad w 13)), (1, .int p0), (2, .int p1)] [] σ := by
  unfold xf_Fig_repeatFrom at h
  refine rb_aload_n hC 0 dX1_repeatFrom_0 rfl ?_
  refine rb_getI hC fr_X1_15_1 rb_obX13 rfl dX1_repeatFrom_1 ?_
  refine rb_iload_n hC 1 dX1_repeatFrom_4 rfl ?_
  refine rb_isub hC dX1_repeatFrom_5 ?_
  refine rb_istore_n hC [(3, .int ((σ.1 13 1) - p0)), (0, .ref (rb_ad w 13)), (1, .int p0), (2, .int p1)] dX1_repeatFrom_6 (by decide) rfl ?_
  refine rb_aload_n hC 1 dX1_repeatFrom_7 rfl ?_
  refine rb_getI hC fr_X1_15_1 rb_obX13 rfl dX1_repeatFrom_8 ?_
  refine rb_istore hC [(4, .int (σ.1 13 1)), (3, .int ((σ.1 13 1) - p0)), (0, .ref (rb_ad w 13)), (1, .int p0), (2, .int p1)] dX1_repeatFrom_11 (by decide) rfl ?_
  obtain ⟨s7, q8, h⟩ := rb_b1s h
  refine rb_sub (lv2 := [(0, .ref (rb_ad w 13)), (1, .int p0), (2, .int p1), (3, .int ((σ.1 13 1) - p0)), (4, .int (σ.1 13 1))]) [2, 3, 4, 1, 0] rfl ?_
  refine xt_Fig_repeatFrom_13 hC p0 p1 ((σ.1 13 1) - p0) rb_FU (σ.1 13 1) σ _ q8 ?_
  refine rb_aload_n hC 0 dX1_repeatFrom_52 rfl ?_
  refine rb_iload_n hC 1 dX1_repeatFrom_53 rfl ?_
  refine rb_iload_n hC 2 dX1_repeatFrom_54 rfl ?_
  refine rb_iload_n hC 3 dX1_repeatFrom_55 rfl ?_
  refine rb_imul hC dX1_repeatFrom_56 ?_
  refine rb_iadd hC dX1_repeatFrom_57 ?_
  refine rb_putI hC fr_X1_15_1 ft_1_1 rb_obX13 rfl rfl rfl dX1_repeatFrom_58 ?_
  obtain ⟨s9, e10, h⟩ := rb_ltE h
  refine rb_nmS e10 ?_
  cases h
  exact rb_vret hC dX1_repeatFrom_61
theorem xc_Fig_repeatFrom (p0 : Int32) (p1 : Int32) (σ : rb_St) (σ9 : rb_St) (h : xf_Fig_repeatFrom p0 p1 σ = some σ9) : rb_Con rb_vX yX1_repeatFrom cX1_repeatFrom 5 none 0 (fun w => [.ref (rb_ad w 13), .int p0, .int p1]) σ (fun _ => none) σ9 := rb_Con.of (by decide +kernel) (fun _ => Nat.le_of_ble_eq_true rfl) (fun z w hC => xk_Fig_repeatFrom hC p0 p1 σ σ9 h)
def xf_Fig_letterAt (k0 : Nat) (p0 : Int32) (σ : rb_St) : Option Int32 := if p0 < 0 then some (-1) else if (σ.1 k0 1) ≤ p0 then some (-1) else if 48 ≤ p0 then some (-1) else if rb_ib p0 48 then some (σ.1 (k0 + 1) p0.toNatClampNeg) else none
set_option maxHeartbeats 4000000 in
set_option maxRecDepth 100000 in
theorem xk_Fig_letterAt {z : rb_Z} {w : rb_Wd} (hC : rb_Cx z rb_vX w RX1 cX1_letterAt 2 (some .int) 0) (k0 : Nat) (hk0 : rb_isFig k0) (p0 : Int32) (σ : rb_St) (r : Int32) (h : xf_Fig_letterAt k0 p0 σ = some r) : rb_At z rb_vX w 2 (rb_Q z rb_vX w (some (.int r)) σ) 0 [(0, .ref (rb_ad w k0)), (1, .int p0)] [] σ := by
  unfold xf_Fig_letterAt at h
  refine rb_iload_n hC 1 dX1_letterAt_0 rfl ?_
  refine rb_if_lt hC 27 dX1_letterAt_1 (by decide) (fun c1 => ?_) (fun c1 => ?_)
  · replace h := rb_ifp c1 h
    refine rb_iconst (x := (-1)) hC dX1_letterAt_27 (by decide) ?_
    cases h
    exact rb_iret hC dX1_letterAt_28
  · replace h := rb_ifn c1 h
    refine rb_iload_n hC 1 dX1_letterAt_4 rfl ?_
    refine rb_aload_n hC 0 dX1_letterAt_5 rfl ?_
    refine rb_getI hC fr_X1_15_1 (rb_obFig hk0) rfl dX1_letterAt_6 ?_
    refine rb_icmp_ge hC 27 dX1_letterAt_9 (by decide) (fun c2 => ?_) (fun c2 => ?_)
    · replace h := rb_ifp c2 h
      refine rb_iconst (x := (-1)) hC dX1_letterAt_27 (by decide) ?_
      cases h
      exact rb_iret hC dX1_letterAt_28
    · replace h := rb_ifn c2 h
      refine rb_iload_n hC 1 dX1_letterAt_12 rfl ?_
      refine rb_bipush (x := 48) hC dX1_letterAt_13 (by decide) ?_
      refine rb_icmp_ge hC 27 dX1_letterAt_15 (by decide) (fun c3 => ?_) (fun c3 => ?_)
      · replace h := rb_ifp c3 h
        refine rb_iconst (x := (-1)) hC dX1_letterAt_27 (by decide) ?_
        cases h
        exact rb_iret hC dX1_letterAt_28
      · replace h := rb_ifn c3 h
        refine rb_aload_n hC 0 dX1_letterAt_18 rfl ?_
        refine rb_getR hC fr_X1_9_1 (rb_obFig hk0) rfl dX1_letterAt_19 ?_
        refine rb_iload_n hC 1 dX1_letterAt_22 rfl ?_
        obtain ⟨g4, h⟩ := rb_gd h
        refine rb_iald hC (rb_arFig1 hk0) (rb_ibI g4) dX1_letterAt_23 ?_
        refine rb_goto hC 28 dX1_letterAt_24 (by decide) ?_
        cases h
        exact rb_iret hC dX1_letterAt_28
theorem xc_Fig_letterAt (k0 : Nat) (hk0 : rb_isFig k0) (p0 : Int32) (σ : rb_St) (r : Int32) (h : xf_Fig_letterAt k0 p0 σ = some r) : rb_Con rb_vX yX1_letterAt cX1_letterAt 2 (some .int) 0 (fun w => [.ref (rb_ad w k0), .int p0]) σ (fun _ => (some (.int r))) σ := rb_Con.of (by decide +kernel) (fun _ => Nat.le_of_ble_eq_true rfl) (fun z w hC => xk_Fig_letterAt hC k0 hk0 p0 σ r h)
def xj_Fig_follow_48 (rc : Int32 → Int32 → Option (Int32)) (k0 : Nat) (x2 : Int32) (x3 : Int32) (x4 : Int32) (x5 : Int32) (u0 : Int32) (σ : rb_St) : Option (Int32) := if x2 ≤ x5 then rc x3 (x4 + 1) else if x3 = x5 then rc u0 (x4 + 1) else if x3 = u0 then rc x5 (x4 + 1) else rc x3 (x4 + 1)
set_option maxHeartbeats 4000000 in
set_option maxRecDepth 100000 in
theorem xu_Fig_follow_48 {z : rb_Z} {w : rb_Wd} {Q : State → Prop} (hC : rb_Cx z rb_vX w RX1 cX1_follow 7 (some .int) 0)  (rc : Int32 → Int32 → Option (Int32)) (k0 : Nat) (hk0 : rb_isFig k0) (x2 : Int32) (x3 : Int32) (x4 : Int32) (x5 : Int32) (u0 : Int32) (σ : rb_St) (y3 : Int32) (h : xj_Fig_follow_48 rc k0 x2 x3 x4 x5 u0 σ = some y3) (hrc : ∀ (b3 : Int32) (b4 : Int32), rc b3 b4 = some y3 → rb_At z rb_vX w 7 Q 5 [(0, .ref (rb_ad w k0)), (2, .int x2), (3, .int b3), (4, .int b4)] [] σ) (hE0 : rb_At z rb_vX w 7 Q 86 [(3, .int y3)] [] σ) : rb_At z rb_vX w 7 Q 48 [(0, .ref (rb_ad w k0)), (2, .int x2), (3, .int x3), (4, .int x4), (5, .int x5)] [.int u0] σ := by
  unfold xj_Fig_follow_48 at h
  refine rb_istore hC [(6, .int u0), (0, .ref (rb_ad w k0)), (2, .int x2), (3, .int x3), (4, .int x4), (5, .int x5)] dX1_follow_48 (by decide) rfl ?_
  refine rb_iload hC 5 dX1_follow_50 rfl ?_
  refine rb_iload_n hC 2 dX1_follow_52 rfl ?_
  refine rb_icmp_ge hC 80 dX1_follow_53 (by decide) (fun c7 => ?_) (fun c7 => ?_)
  · replace h := rb_ifp c7 h
    refine rb_iinc hC 4 [(4, .int (x4 + 1)), (6, .int u0), (0, .ref (rb_ad w k0)), (2, .int x2), (3, .int x3), (5, .int x5)] dX1_follow_80 rfl rfl (by decide) rfl ?_
    refine rb_goto hC 5 dX1_follow_83 (by decide) ?_
    exact rb_sub [2, 3, 4, 0] rfl (hrc x3 (x4 + 1) h)
  · replace h := rb_ifn c7 h
    refine rb_iload_n hC 3 dX1_follow_56 rfl ?_
    refine rb_iload hC 5 dX1_follow_57 rfl ?_
    refine rb_icmp_ne hC 67 dX1_follow_59 (by decide) (fun c8 => ?_) (fun c8 => ?_)
    · replace h := rb_ifn c8 h
      refine rb_iload_n hC 3 dX1_follow_67 rfl ?_
      refine rb_iload hC 0 dX1_follow_68 rfl ?_
      refine rb_icmp_ne hC 78 dX1_follow_70 (by decide) (fun c9 => ?_) (fun c9 => ?_)
      · replace h := rb_ifn c9 h
        refine rb_iload_n hC 3 dX1_follow_78 rfl ?_
        refine rb_istore_n hC [(3, .int x3), (6, .int u0), (0, .ref (rb_ad w k0)), (2, .int x2), (4, .int x4), (5, .int x5)] dX1_follow_79 (by decide) rfl ?_
        refine rb_iinc hC 4 [(4, .int (x4 + 1)), (3, .int x3), (6, .int u0), (0, .ref (rb_ad w k0)), (2, .int x2), (5, .int x5)] dX1_follow_80 rfl rfl (by decide) rfl ?_
        refine rb_goto hC 5 dX1_follow_83 (by decide) ?_
        exact rb_sub [3, 4, 1, 0] rfl (hrc x3 (x4 + 1) h)
      · replace h := rb_ifp c9 h
        refine rb_iload hC 5 dX1_follow_73 rfl ?_
        refine rb_goto hC 79 dX1_follow_75 (by decide) ?_
        refine rb_istore_n hC [(3, .int x5), (6, .int u0), (0, .ref (rb_ad w k0)), (2, .int x2), (4, .int x4), (5, .int x5)] dX1_follow_79 (by decide) rfl ?_
        refine rb_iinc hC 4 [(4, .int (x4 + 1)), (3, .int x5), (6, .int u0), (0, .ref (rb_ad w k0)), (2, .int x2), (5, .int x5)] dX1_follow_80 rfl rfl (by decide) rfl ?_
        refine rb_goto hC 5 dX1_follow_83 (by decide) ?_
        exact rb_sub [3, 4, 1, 0] rfl (hrc x5 (x4 + 1) h)
    · replace h := rb_ifp c8 h
      refine rb_iload hC 0 dX1_follow_62 rfl ?_
      refine rb_goto hC 79 dX1_follow_64 (by decide) ?_
      refine rb_istore_n hC [(3, .int u0), (6, .int u0), (0, .ref (rb_ad w k0)), (2, .int x2), (4, .int x4), (5, .int x5)] dX1_follow_79 (by decide) rfl ?_
      refine rb_iinc hC 4 [(4, .int (x4 + 1)), (3, .int u0), (6, .int u0), (0, .ref (rb_ad w k0)), (2, .int x2), (5, .int x5)] dX1_follow_80 rfl rfl (by decide) rfl ?_
      refine rb_goto hC 5 dX1_follow_83 (by decide) ?_
      exact rb_sub [3, 4, 1, 0] rfl (hrc u0 (x4 + 1) h)
def xl_Fig_follow_5 (k0 : Nat) (x2 : Int32) (σ : rb_St) : Nat → Int32 → Int32 → Option (Int32)
  | 0, _, _ => none
  | n + 1, x3, x4 => if (σ.1 k0 1) ≤ x4 then some x3 else if 48 ≤ x4 then some x3 else if rb_ib x4 48 then rb_lt ((σ.1 (k0 + 1) x4.toNatClampNeg) >>> (1 &&& 31)) (fun v4 => if (v4 + 1) = x2 then xj_Fig_follow_48 (fun b3 b4 => xl_Fig_follow_5 k0 x2 σ n b3 b4) k0 x2 x3 x4 v4 0 σ else xj_Fig_follow_48 (fun b3 b4 => xl_Fig_follow_5 k0 x2 σ n b3 b4) k0 x2 x3 x4 v4 (v4 + 1) σ) else none
set_option maxHeartbeats 4000000 in
set_option maxRecDepth 100000 in
theorem xt_Fig_follow_5 {z : rb_Z} {w : rb_Wd} {Q : State → Prop} (hC : rb_Cx z rb_vX w RX1 cX1_follow 7 (some .int) 0) (k0 : Nat) (hk0 : rb_isFig k0) (x2 : Int32) (σ : rb_St) : ∀ (n : Nat) (x3 : Int32) (x4 : Int32) (y3 : Int32), xl_Fig_follow_5 k0 x2 σ n x3 x4 = some y3 → rb_At z rb_vX w 7 Q 86 [(3, .int y3)] [] σ → rb_At z rb_vX w 7 Q 5 [(0, .ref (rb_ad w k0)), (2, .int x2), (3, .int x3), (4, .int x4)] [] σ := by
  intro n
  induction n with
  | zero =>
    intro x3 x4 y3 h hE0
    cases h
  | succ n ih =>
    intro x3 x4 y3 h hE0
    rw [xl_Fig_follow_5] at h
    refine rb_iload hC 3 dX1_follow_5 rfl ?_
    refine rb_aload_n hC 0 dX1_follow_7 rfl ?_
    refine rb_getI hC fr_X1_15_1 (rb_obFig hk0) rfl dX1_follow_8 ?_
    refine rb_icmp_ge hC 86 dX1_follow_11 (by decide) (fun c1 => ?_) (fun c1 => ?_)
    · replace h := rb_ifp c1 h
      cases h
      exact rb_sub [2] rfl (hE0)
    · replace h := rb_ifn c1 h
      refine rb_iload hC 3 dX1_follow_14 rfl ?_
      refine rb_bipush (x := 48) hC dX1_follow_16 (by decide) ?_
      refine rb_icmp_ge hC 86 dX1_follow_18 (by decide) (fun c2 => ?_) (fun c2 => ?_)
      · replace h := rb_ifp c2 h
        cases h
        exact rb_sub [2] rfl (hE0)
      · replace h := rb_ifn c2 h
        refine rb_aload_n hC 0 dX1_follow_21 rfl ?_
        refine rb_getR hC fr_X1_9_1 (rb_obFig hk0) rfl dX1_follow_22 ?_
        refine rb_iload hC 3 dX1_follow_25 rfl ?_
        obtain ⟨g3, h⟩ := rb_gd h
        refine rb_iald hC (rb_arFig1 hk0) (rb_ibI g3) dX1_follow_27 ?_
        refine rb_iconst (x := 1) hC dX1_follow_28 (by decide) ?_
        refine rb_ishr hC dX1_follow_29 ?_
        obtain ⟨v4, e5, h⟩ := rb_ltE h
        refine rb_nmI e5 ?_
        refine rb_istore hC [(5, .int v4), (0, .ref (rb_ad w k0)), (2, .int x2), (3, .int x3), (4, .int x4)] dX1_follow_30 (by decide) rfl ?_
        refine rb_iload hC 0 dX1_follow_32 rfl ?_
        refine rb_iconst (x := 1) hC dX1_follow_34 (by decide) ?_
        refine rb_iadd hC dX1_follow_35 ?_
        refine rb_iload_n hC 2 dX1_follow_36 rfl ?_
        refine rb_icmp_ne hC 44 dX1_follow_37 (by decide) (fun c6 => ?_) (fun c6 => ?_)
        · replace h := rb_ifn c6 h
          refine rb_iload hC 0 dX1_follow_44 rfl ?_
          refine rb_iconst (x := 1) hC dX1_follow_46 (by decide) ?_
          refine rb_iadd hC dX1_follow_47 ?_
          exact rb_sub [1, 2, 3, 4, 0] rfl (xu_Fig_follow_48 hC (fun b3 b4 => xl_Fig_follow_5 k0 x2 σ n b3 b4) k0 hk0 x2 x3 x4 v4 (v4 + 1) σ _ h (fun b3 b4 hq => ih b3 b4 _ hq hE0) hE0)
        · replace h := rb_ifp c6 h
          refine rb_iconst (x := 0) hC dX1_follow_40 (by decide) ?_
          refine rb_goto hC 48 dX1_follow_41 (by decide) ?_
          exact rb_sub [1, 2, 3, 4, 0] rfl (xu_Fig_follow_48 hC (fun b3 b4 => xl_Fig_follow_5 k0 x2 σ n b3 b4) k0 hk0 x2 x3 x4 v4 0 σ _ h (fun b3 b4 hq => ih b3 b4 _ hq hE0) hE0)
def xf_Fig_follow (k0 : Nat) (p0 : Int32) (p1 : Int32) (σ : rb_St) : Option Int32 := rb_b1 (xl_Fig_follow_5 k0 p1 σ rb_FU p0 0) fun y10 => some y10
set_option maxHeartbeats 4000000 in
set_option maxRecDepth 100000 in
theorem xk_Fig_follow {z : rb_Z} {w : rb_Wd} (hC : rb_Cx z rb_vX w RX1 cX1_follow 7 (some .int) 0) (k0 : Nat) (hk0 : rb_isFig k0) (p0 : Int32) (p1 : Int32) (σ : rb_St) (r : Int32) (h : xf_Fig_follow k0 p0 p1 σ = some r) : rb_At z rb_vX w 7 (rb_Q z rb_vX w (some (.int r)) σ) 0 [(0, .ref (rb_ad w k0)), (1, .int p0), (2, .int p1)] [] σ := by
  unfold xf_Fig_follow at h
  refine rb_iload_n hC 1 dX1_follow_0 rfl ?_
  refine rb_istore_n hC [(3, .int p0), (0, .ref (rb_ad w k0)), (1, .int p0), (2, .int p1)] dX1_follow_1 (by decide) rfl ?_
  refine rb_iconst (x := 0) hC dX1_follow_2 (by decide) ?_
  refine rb_istore hC [(4, .int 0), (3, .int p0), (0, .ref (rb_ad w k0)), (1, .int p0), (2, .int p1)] dX1_follow_3 (by decide) rfl ?_
  obtain ⟨y10, q11, h⟩ := rb_b1s h
  refine rb_sub (lv2 := [(0, .ref (rb_ad w k0)), (2, .int p1), (3, .int p0), (4, .int 0)]) [2, 4, 1, 0] rfl ?_
  refine xt_Fig_follow_5 hC k0 hk0 p1 σ rb_FU p0 0 _ q11 ?_
  refine rb_iload_n hC 0 dX1_follow_86 rfl ?_
  cases h
  exact rb_iret hC dX1_follow_87
theorem xc_Fig_follow (k0 : Nat) (hk0 : rb_isFig k0) (p0 : Int32) (p1 : Int32) (σ : rb_St) (r : Int32) (h : xf_Fig_follow k0 p0 p1 σ = some r) : rb_Con rb_vX yX1_follow cX1_follow 7 (some .int) 0 (fun w => [.ref (rb_ad w k0), .int p0, .int p1]) σ (fun _ => (some (.int r))) σ := rb_Con.of (by decide +kernel) (fun _ => Nat.le_of_ble_eq_true rfl) (fun z w hC => xk_Fig_follow hC k0 hk0 p0 p1 σ r h)
