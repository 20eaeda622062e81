theorem mk_X1_19 : Cond.methodLink RX1 19 arraycopyName ∈ rb_tbl := rb_in (by decide +kernel) (by decide +kernel)
def xf_Fig_copyFrom (k0 : Nat) (σ : rb_St) : Option (rb_St) := rb_lt (rb_cp σ 14 (k0 + 1) 0 0 48) (fun s1 => rb_lt (rb_sI s1 k0 1 (s1.1 13 1)) (fun s3 => some s3))
set_option maxHeartbeats 4000000 in
set_option maxRecDepth 100000 in
theorem xk_Fig_copyFrom {z : rb_Z} {w : rb_Wd} (hC : rb_Cx z rb_vX w RX1 cX1_copyFrom 2 none 1) (k0 : Nat) (hk0 : rb_isFig k0) (σ : rb_St) (σ9 : rb_St) (h : xf_Fig_copyFrom k0 σ = some σ9) : rb_At z rb_vX w 2 (rb_Q z rb_vX w none σ9) 0 [(0, .ref (rb_ad w k0)), (1, .ref (rb_ad w 13))] [] σ := by
  unfold xf_Fig_copyFrom at h
  refine rb_aload_n hC 1 dX1_copyFrom_0 rfl ?_
  refine rb_getR hC fr_X1_9_1 rb_obX13 rfl dX1_copyFrom_1 ?_
  refine rb_iconst (x := 0) hC dX1_copyFrom_4 (by decide) ?_
  refine rb_aload_n hC 0 dX1_copyFrom_5 rfl ?_
  refine rb_getR hC fr_X1_9_1 (rb_obFig hk0) rfl dX1_copyFrom_6 ?_
  refine rb_iconst (x := 0) hC dX1_copyFrom_9 (by decide) ?_
  refine rb_bipush (x := 48) hC dX1_copyFrom_10 (by decide) ?_
  refine rb_copy hC mk_X1_19 rb_arX14 (rb_arFig1 hk0) (rb_ckI (by decide)) ⟨Nat.le_of_ble_eq_true rfl, Nat.le_of_ble_eq_true rfl⟩ dX1_copyFrom_12 ?_
  obtain ⟨s1, e2, h⟩ := rb_ltE h
  refine rb_nmS e2 ?_
  refine rb_aload_n hC 0 dX1_copyFrom_15 rfl ?_
  refine rb_aload_n hC 1 dX1_copyFrom_16 rfl ?_
  refine rb_getI hC fr_X1_15_1 rb_obX13 rfl dX1_copyFrom_17 ?_
  refine rb_putI hC fr_X1_15_1 ft_1_1 (rb_obFig hk0) rfl rfl rfl dX1_copyFrom_20 ?_
  obtain ⟨s3, e4, h⟩ := rb_ltE h
  refine rb_nmS e4 ?_
  cases h
  exact rb_vret hC dX1_copyFrom_23
theorem xc_Fig_copyFrom (k0 : Nat) (hk0 : rb_isFig k0) (σ : rb_St) (σ9 : rb_St) (h : xf_Fig_copyFrom k0 σ = some σ9) : rb_Con rb_vX yX1_copyFrom cX1_copyFrom 2 none 1 (fun w => [.ref (rb_ad w k0), .ref (rb_ad w 13)]) σ (fun _ => none) σ9 := rb_Con.of (by decide +kernel) (fun _ => Nat.le_of_ble_eq_true rfl) (fun z w hC => xk_Fig_copyFrom hC k0 hk0 σ σ9 h)
theorem fr_X0_11_0 : rb_FR RX0 11 0 0 := ⟨RX0, TX0, 3, "RibbonPole$Acts", rfl, rb_uX0, by decide, rb_in (by decide +kernel) (by decide +kernel), Or.inl rfl⟩
theorem fr_X0_18_0 : rb_FR RX0 18 0 1 := ⟨RX0, TX0, 3, "RibbonPole$Acts", rfl, rb_uX0, by decide, rb_in (by decide +kernel) (by decide +kernel), Or.inl rfl⟩
theorem me_X7_copyFrom : Cond.instanceMethod yX7_copyFrom ∈ rb_tbl ∧ Cond.selects yX7_copyFrom.cls yX7_copyFrom yX7_copyFrom ∈ rb_tbl ∧ Cond.initialized yX7_copyFrom.cls ∈ rb_tbl ∧ Cond.code yX7_copyFrom cX7_copyFrom 2 none ∈ rb_tbl ∧ rb_pn yX7_copyFrom 1 := ⟨rb_in (by decide +kernel) (by decide +kernel), rb_in (by decide +kernel) (by decide +kernel), rb_in (by decide +kernel) (by decide +kernel), rb_in (by decide +kernel) (by decide +kernel), by decide +kernel, by decide +kernel, by decide +kernel⟩
theorem mv_X0_22 : rb_MV RX0 22 yX7_copyFrom cX7_copyFrom 2 none 1 := ⟨rb_in (by decide +kernel) (by decide +kernel), me_X7_copyFrom⟩
theorem ft_0_1 : rb_Ty 0 1 .int := ⟨RX0, TX0, 3, tyX0, rfl, tyX0_ok, nmX0, rfl, by decide +kernel⟩
theorem fr_X0_26_0 : rb_FR RX0 26 0 2 := ⟨RX0, TX0, 3, "RibbonPole$Acts", rfl, rb_uX0, by decide, rb_in (by decide +kernel) (by decide +kernel), Or.inl rfl⟩
theorem mk_X0_29 : Cond.methodLink RX0 29 Lib.Math.min.name ∈ rb_tbl := rb_in (by decide +kernel) (by decide +kernel)
theorem ft_0_2 : rb_Ty 0 2 .int := ⟨RX0, TX0, 3, tyX0, rfl, tyX0_ok, nmX0, rfl, by decide +kernel⟩
def xf_Acts_keep (k1 : Nat) (σ : rb_St) : Option (rb_St) := if rb_ib (σ.1 28 1) 40 then rb_b1 (xf_Pole_copyFrom (30 + 5 * (σ.1 28 1).toNatClampNeg) k1 σ) fun s2 => if 40 ≤ ((s2.1 28 1) + 1) then rb_lt (rb_sI s2 28 1 0) (fun s5 => rb_lt (rb_sI s5 28 2 (rb_mn 40 ((s5.1 28 2) + 1))) (fun s7 => some s7)) else rb_lt (rb_sI s2 28 1 ((s2.1 28 1) + 1)) (fun s9 => rb_lt (rb_sI s9 28 2 (rb_mn 40 ((s9.1 28 2) + 1))) (fun s11 => some s11)) else none
set_option maxHeartbeats 4000000 in
set_option maxRecDepth 100000 in
theorem xk_Acts_keep {z : rb_Z} {w : rb_Wd} (hC : rb_Cx z rb_vX w RX0 cX0_keep 2 none 3) (k1 : Nat) (hk1 : rb_isPole k1) (σ : rb_St) (σ9 : rb_St) (h : xf_Acts_keep k1 σ = some σ9) : rb_At z rb_vX w 2 (rb_Q z rb_vX w none σ9) 0 [(0, .ref (rb_ad w 28)), (1, .ref (rb_ad w k1))] [] σ := by
  unfold xf_Acts_keep at h
  refine rb_aload_n hC 0 dX0_keep_0 rfl ?_
  refine rb_getR hC fr_X0_11_0 rb_obX28 rfl dX0_keep_1 ?_
  refine rb_aload_n hC 0 dX0_keep_4 rfl ?_
  refine rb_getI hC fr_X0_18_0 rb_obX28 rfl dX0_keep_5 ?_
  obtain ⟨g1, h⟩ := rb_gd h
  refine rb_aald hC rb_rrX29 (fun _ => rfl) (rb_ibI g1) dX0_keep_8 ?_
  refine rb_aload_n hC 1 dX0_keep_9 rfl ?_
  obtain ⟨s2, q3, h⟩ := rb_b1s h
  refine rb_callVv hC rb_VokX mv_X0_22 (xc_Pole_copyFrom (30 + 5 * (σ.1 28 1).toNatClampNeg) (rb_isPole_29 g1) k1 hk1 σ _ q3) (rb_obPole (rb_isPole_29 g1)) rfl [.ref (rb_ad w k1)] rfl rfl rfl ⟨Nat.le_of_ble_eq_true rfl, Nat.le_of_ble_eq_true rfl⟩ (Nat.le_of_ble_eq_true rfl) dX0_keep_10 ?_
  refine rb_aload_n hC 0 dX0_keep_13 rfl ?_
  refine rb_aload_n hC 0 dX0_keep_14 rfl ?_
  refine rb_getI hC fr_X0_18_0 rb_obX28 rfl dX0_keep_15 ?_
  refine rb_iconst (x := 1) hC dX0_keep_18 (by decide) ?_
  refine rb_iadd hC dX0_keep_19 ?_
  refine rb_bipush (x := 40) hC dX0_keep_20 (by decide) ?_
  refine rb_icmp_ge hC 34 dX0_keep_22 (by decide) (fun c4 => ?_) (fun c4 => ?_)
  · replace h := rb_ifp c4 h
    refine rb_iconst (x := 0) hC dX0_keep_34 (by decide) ?_
    refine rb_putI hC fr_X0_18_0 ft_0_1 rb_obX28 rfl rfl rfl dX0_keep_35 ?_
    obtain ⟨s5, e6, h⟩ := rb_ltE h
    refine rb_nmS e6 ?_
    refine rb_aload_n hC 0 dX0_keep_38 rfl ?_
    refine rb_bipush (x := 40) hC dX0_keep_39 (by decide) ?_
    refine rb_aload_n hC 0 dX0_keep_41 rfl ?_
    refine rb_getI hC fr_X0_26_0 rb_obX28 rfl dX0_keep_42 ?_
    refine rb_iconst (x := 1) hC dX0_keep_45 (by decide) ?_
    refine rb_iadd hC dX0_keep_46 ?_
    refine rb_mmin hC mk_X0_29 ⟨Nat.le_of_ble_eq_true rfl, Nat.le_of_ble_eq_true rfl⟩ dX0_keep_47 ?_
    refine rb_putI hC fr_X0_26_0 ft_0_2 rb_obX28 rfl rfl rfl dX0_keep_50 ?_
    obtain ⟨s7, e8, h⟩ := rb_ltE h
    refine rb_nmS e8 ?_
    cases h
    exact rb_vret hC dX0_keep_53
  · replace h := rb_ifn c4 h
    refine rb_aload_n hC 0 dX0_keep_25 rfl ?_
    refine rb_getI hC fr_X0_18_0 rb_obX28 rfl dX0_keep_26 ?_
    refine rb_iconst (x := 1) hC dX0_keep_29 (by decide) ?_
    refine rb_iadd hC dX0_keep_30 ?_
    refine rb_goto hC 35 dX0_keep_31 (by decide) ?_
    refine rb_putI hC fr_X0_18_0 ft_0_1 rb_obX28 rfl rfl rfl dX0_keep_35 ?_
    obtain ⟨s9, e10, h⟩ := rb_ltE h
    refine rb_nmS e10 ?_
    refine rb_aload_n hC 0 dX0_keep_38 rfl ?_
    refine rb_bipush (x := 40) hC dX0_keep_39 (by decide) ?_
    refine rb_aload_n hC 0 dX0_keep_41 rfl ?_
    refine rb_getI hC fr_X0_26_0 rb_obX28 rfl dX0_keep_42 ?_
    refine rb_iconst (x := 1) hC dX0_keep_45 (by decide) ?_
    refine rb_iadd hC dX0_keep_46 ?_
    refine rb_mmin hC mk_X0_29 ⟨Nat.le_of_ble_eq_true rfl, Nat.le_of_ble_eq_true rfl⟩ dX0_keep_47 ?_
    refine rb_putI hC fr_X0_26_0 ft_0_2 rb_obX28 rfl rfl rfl dX0_keep_50 ?_
    obtain ⟨s11, e12, h⟩ := rb_ltE h
    refine rb_nmS e12 ?_
    cases h
    exact rb_vret hC dX0_keep_53
theorem xc_Acts_keep (k1 : Nat) (hk1 : rb_isPole k1) (σ : rb_St) (σ9 : rb_St) (h : xf_Acts_keep k1 σ = some σ9) : rb_Con rb_vX yX0_keep cX0_keep 2 none 3 (fun w => [.ref (rb_ad w 28), .ref (rb_ad w k1)]) σ (fun _ => none) σ9 := rb_Con.of (by decide +kernel) (fun _ => Nat.le_of_ble_eq_true rfl) (fun z w hC => xk_Acts_keep hC k1 hk1 σ σ9 h)
def xj_Acts_takeBack_19 (k1 : Nat) (u0 : Int32) (σ : rb_St) : Option (rb_St) := rb_lt (rb_sI σ 28 1 u0) (fun s2 => rb_lt (rb_sI s2 28 2 ((s2.1 28 2) - 1)) (fun s4 => if rb_ib (s4.1 28 1) 40 then rb_b1 (xf_Pole_copyFrom k1 (30 + 5 * (s4.1 28 1).toNatClampNeg) s4) fun s7 => some s7 else none))
set_option maxHeartbeats 4000000 in
set_option maxRecDepth 100000 in
theorem xu_Acts_takeBack_19 {z : rb_Z} {w : rb_Wd} (hC : rb_Cx z rb_vX w RX0 cX0_takeBack 2 none 3) (k1 : Nat) (hk1 : rb_isPole k1) (u0 : Int32) (σ : rb_St) (σ9 : rb_St) (h : xj_Acts_takeBack_19 k1 u0 σ = some σ9) : rb_At z rb_vX w 2 (rb_Q z rb_vX w none σ9) 19 [(0, .ref (rb_ad w 28)), (1, .ref (rb_ad w k1))] [.int u0, .ref (rb_ad w 28)] σ := by
  unfold xj_Acts_takeBack_19 at h
  refine rb_putI hC fr_X0_18_0 ft_0_1 rb_obX28 rfl rfl rfl dX0_takeBack_19 ?_
  obtain ⟨s2, e3, h⟩ := rb_ltE h
  refine rb_nmS e3 ?_
  refine rb_aload_n hC 0 dX0_takeBack_22 rfl ?_
  refine rb_dup hC dX0_takeBack_23 rfl ?_
  refine rb_getI hC fr_X0_26_0 rb_obX28 rfl dX0_takeBack_24 ?_
  refine rb_iconst (x := 1) hC dX0_takeBack_27 (by decide) ?_
  refine rb_isub hC dX0_takeBack_28 ?_
  refine rb_putI hC fr_X0_26_0 ft_0_2 rb_obX28 rfl rfl rfl dX0_takeBack_29 ?_
  obtain ⟨s4, e5, h⟩ := rb_ltE h
  refine rb_nmS e5 ?_
  refine rb_aload_n hC 1 dX0_takeBack_32 rfl ?_
  refine rb_aload_n hC 0 dX0_takeBack_33 rfl ?_
  refine rb_getR hC fr_X0_11_0 rb_obX28 rfl dX0_takeBack_34 ?_
  refine rb_aload_n hC 0 dX0_takeBack_37 rfl ?_
  refine rb_getI hC fr_X0_18_0 rb_obX28 rfl dX0_takeBack_38 ?_
  obtain ⟨g6, h⟩ := rb_gd h
  refine rb_aald hC rb_rrX29 (fun _ => rfl) (rb_ibI g6) dX0_takeBack_41 ?_
  obtain ⟨s7, q8, h⟩ := rb_b1s h
  refine rb_callVv hC rb_VokX mv_X0_22 (xc_Pole_copyFrom k1 hk1 (30 + 5 * (s4.1 28 1).toNatClampNeg) (rb_isPole_29 g6) s4 _ q8) (rb_obPole hk1) rfl [.ref (rb_ad w (30 + 5 * (s4.1 28 1).toNatClampNeg))] rfl rfl rfl ⟨Nat.le_of_ble_eq_true rfl, Nat.le_of_ble_eq_true rfl⟩ (Nat.le_of_ble_eq_true rfl) dX0_takeBack_42 ?_
  cases h
  exact rb_vret hC dX0_takeBack_45
def xf_Acts_takeBack (k1 : Nat) (σ : rb_St) : Option (rb_St) := if (σ.1 28 1) ≤ 0 then xj_Acts_takeBack_19 k1 39 σ else xj_Acts_takeBack_19 k1 ((σ.1 28 1) - 1) σ
set_option maxHeartbeats 4000000 in
set_option maxRecDepth 100000 in
theorem xk_Acts_takeBack {z : rb_Z} {w : rb_Wd} (hC : rb_Cx z rb_vX w RX0 cX0_takeBack 2 none 3) (k1 : Nat) (hk1 : rb_isPole k1) (σ : rb_St) (σ9 : rb_St) (h : xf_Acts_takeBack k1 σ = some σ9) : rb_At z rb_vX w 2 (rb_Q z rb_vX w none σ9) 0 [(0, .ref (rb_ad w 28)), (1, .ref (rb_ad w k1))] [] σ := by
  unfold xf_Acts_takeBack at h
  refine rb_aload_n hC 0 dX0_takeBack_0 rfl ?_
  refine rb_aload_n hC 0 dX0_takeBack_1 rfl ?_
  refine rb_getI hC fr_X0_18_0 rb_obX28 rfl dX0_takeBack_2 ?_
  refine rb_if_le hC 17 dX0_takeBack_5 (by decide) (fun c1 => ?_) (fun c1 => ?_)
  · replace h := rb_ifp c1 h
    refine rb_bipush (x := 39) hC dX0_takeBack_17 (by decide) ?_
    exact rb_sub [0, 1] rfl (xu_Acts_takeBack_19 hC k1 hk1 39 σ _ h)
  · replace h := rb_ifn c1 h
    refine rb_aload_n hC 0 dX0_takeBack_8 rfl ?_
    refine rb_getI hC fr_X0_18_0 rb_obX28 rfl dX0_takeBack_9 ?_
    refine rb_iconst (x := 1) hC dX0_takeBack_12 (by decide) ?_
    refine rb_isub hC dX0_takeBack_13 ?_
    refine rb_goto hC 19 dX0_takeBack_14 (by decide) ?_
    exact rb_sub [0, 1] rfl (xu_Acts_takeBack_19 hC k1 hk1 ((σ.1 28 1) - 1) σ _ h)
theorem xc_Acts_takeBack (k1 : Nat) (hk1 : rb_isPole k1) (σ : rb_St) (σ9 : rb_St) (h : xf_Acts_takeBack k1 σ = some σ9) : rb_Con rb_vX yX0_takeBack cX0_takeBack 2 none 3 (fun w => [.ref (rb_ad w 28), .ref (rb_ad w k1)]) σ (fun _ => none) σ9 := rb_Con.of (by decide +kernel) (fun _ => Nat.le_of_ble_eq_true rfl) (fun z w hC => xk_Acts_takeBack hC k1 hk1 σ σ9 h)
def xf_Acts_forget  (σ : rb_St) : Option (rb_St) := rb_lt (rb_sI σ 28 2 0) (fun s1 => some s1)
set_option maxHeartbeats 4000000 in
set_option maxRecDepth 100000 in
theorem xk_Acts_forget {z : rb_Z} {w : rb_Wd} (hC : rb_Cx z rb_vX w RX0 cX0_forget 1 none 0)  (σ : rb_St) (σ9 : rb_St) (h : xf_Acts_forget σ = some σ9) : rb_At z rb_vX w 1 (rb_Q z rb_vX w none σ9) 0 [(0, .ref (rb_ad w 28))] [] σ := by
  unfold xf_Acts_forget at h
  refine rb_aload_n hC 0 dX0_forget_0 rfl ?_
  refine rb_iconst (x := 0) hC dX0_forget_1 (by decide) ?_
  refine rb_putI hC fr_X0_26_0 ft_0_2 rb_obX28 rfl rfl rfl dX0_forget_2 ?_
  obtain ⟨s1, e2, h⟩ := rb_ltE h
  refine rb_nmS e2 ?_
  cases h
  exact rb_vret hC dX0_forget_5
theorem xc_Acts_forget  (σ : rb_St) (σ9 : rb_St) (h : xf_Acts_forget σ = some σ9) : rb_Con rb_vX yX0_forget cX0_forget 1 none 0 (fun w => [.ref (rb_ad w 28)]) σ (fun _ => none) σ9 := rb_Con.of (by decide +kernel) (fun _ => Nat.le_of_ble_eq_true rfl) (fun z w hC => xk_Acts_forget hC  σ σ9 h)
theorem fr_X10_21_7 : rb_FR RX10 21 7 0 := ⟨RX7, TX7, 8, "RibbonPole$Pole", rfl, rb_uX7, by decide, rb_in (by decide +kernel) (by decide +kernel), Or.inl rfl⟩
theorem fr_X10_27_9 : rb_FR RX10 27 9 0 := ⟨RX10, TX10, 4, "RibbonPole$Way", rfl, rb_uX10, by decide, rb_in (by decide +kernel) (by decide +kernel), Or.inl rfl⟩
theorem ft_9_0 : rb_Ty 9 0 .int := ⟨RX10, TX10, 4, tyX10, rfl, tyX10_ok, nmX10, rfl, by decide +kernel⟩
theorem fr_X10_28_7 : rb_FR RX10 28 7 4 := ⟨RX7, TX7, 8, "RibbonPole$Pole", rfl, rb_uX7, by decide, rb_in (by decide +kernel) (by decide +kernel), Or.inl rfl⟩
theorem fr_X10_9_9 : rb_FR RX10 9 9 1 := ⟨RX10, TX10, 4, "RibbonPole$Way", rfl, rb_uX10, by decide, rb_in (by decide +kernel) (by decide +kernel), Or.inl rfl⟩
theorem mk_X10_29 : Cond.methodLink RX10 29 arraycopyName ∈ rb_tbl := rb_in (by decide +kernel) (by decide +kernel)
theorem fr_X10_15_9 : rb_FR RX10 15 9 2 := ⟨RX10, TX10, 4, "RibbonPole$Way", rfl, rb_uX10, by decide, rb_in (by decide +kernel) (by decide +kernel), Or.inl rfl⟩
def xl_Way_aim_36  : Nat → Int32 → Int32 → Int32 → rb_St → Option (Nat × Int32 × rb_St)
  | 0, _, _, _, _ => none
  | n + 1, x3, x4, x5, σ => if x5 < 0 then some (1, x3, σ) else if (x3 - x3 / 10 * 10) < 0 then some (0, x3, σ) else if (σ.1 236 0) ≤ (x3 - x3 / 10 * 10) then some (0, x3, σ) else if ((x4 >>> ((x3 - x3 / 10 * 10) &&& 31)) &&& 1) = 0 then rb_lt (x4 ||| (1 <<< ((x3 - x3 / 10 * 10) &&& 31))) (fun v9 => if rb_ib (x3 - x3 / 10 * 10) 8 then rb_lt (rb_sI σ 238 (x3 - x3 / 10 * 10).toNatClampNeg x5) (fun s12 => xl_Way_aim_36 n (x3 / 10) v9 (x5 + (-1)) s12) else none) else some (0, x3, σ)
set_option maxHeartbeats 4000000 in
set_option maxRecDepth 100000 in
theorem xt_Way_aim_36 {z : rb_Z} {w : rb_Wd} {Q : State → Prop} (hC : rb_Cx z rb_vX w RX10 cX10_aim 7 (some .boolean) 1)  : ∀ (n : Nat) (x3 : Int32) (x4 : Int32) (x5 : Int32) (σ : rb_St) (t : Nat) (y3 : Int32) (σ9 : rb_St), xl_Way_aim_36 n x3 x4 x5 σ = some (t, y3, σ9) → (t = 0 → rb_At z rb_vX w 7 Q 71 [] [] σ9) → (t = 1 → rb_At z rb_vX w 7 Q 102 [(3, .int y3)] [] σ9) → rb_At z rb_vX w 7 Q 36 [(0, .ref (rb_ad w 236)), (3, .int x3), (4, .int x4), (5, .int x5)] [] σ := by
  intro n
  induction n with
  | zero =>
    intro x3 x4 x5 σ t y3 σ9 h hE0 hE1
    cases h
  | succ n ih =>
    intro x3 x4 x5 σ t y3 σ9 h hE0 hE1
    rw [xl_Way_aim_36] at h
    refine rb_iload hC 3 dX10_aim_36 rfl ?_
    refine rb_if_lt hC 102 dX10_aim_38 (by decide) (fun c5 => ?_) (fun c5 => ?_)
    · replace h := rb_ifp c5 h
      cases h
      exact rb_sub [1] rfl (hE1 rfl)
    · replace h := rb_ifn c5 h
      refine rb_iload_n hC 1 dX10_aim_41 rfl ?_
      refine rb_bipush (x := 10) hC dX10_aim_42 (by decide) ?_
      refine rb_irem hC dX10_aim_44 (by decide) ?_
      refine rb_istore hC [(6, .int (x3 - x3 / 10 * 10)), (0, .ref (rb_ad w 236)), (3, .int x3), (4, .int x4), (5, .int x5)] dX10_aim_45 (by decide) rfl ?_
      refine rb_iload hC 0 dX10_aim_47 rfl ?_
      refine rb_if_lt hC 71 dX10_aim_49 (by decide) (fun c6 => ?_) (fun c6 => ?_)
      · replace h := rb_ifp c6 h
        cases h
        exact rb_sub [] rfl (hE0 rfl)
      · replace h := rb_ifn c6 h
        refine rb_iload hC 0 dX10_aim_52 rfl ?_
        refine rb_aload_n hC 1 dX10_aim_54 rfl ?_
        refine rb_getI hC fr_X10_27_9 rb_obX236 rfl dX10_aim_55 ?_
        refine rb_icmp_ge hC 71 dX10_aim_58 (by decide) (fun c7 => ?_) (fun c7 => ?_)
        · replace h := rb_ifp c7 h
          cases h
          exact rb_sub [] rfl (hE0 rfl)
        · replace h := rb_ifn c7 h
          refine rb_iload hC 3 dX10_aim_61 rfl ?_
          refine rb_iload hC 0 dX10_aim_63 rfl ?_
          refine rb_ishr hC dX10_aim_65 ?_
          refine rb_iconst (x := 1) hC dX10_aim_66 (by decide) ?_
          refine rb_iand hC dX10_aim_67 ?_
          refine rb_if_eq hC 73 dX10_aim_68 (by decide) (fun c8 => ?_) (fun c8 => ?_)
          · replace h := rb_ifp c8 h
            refine rb_iload hC 3 dX10_aim_73 rfl ?_
            refine rb_iconst (x := 1) hC dX10_aim_75 (by decide) ?_
            refine rb_iload hC 0 dX10_aim_76 rfl ?_
            refine rb_ishl hC dX10_aim_78 ?_
            refine rb_ior hC dX10_aim_79 ?_
            obtain ⟨v9, e10, h⟩ := rb_ltE h
            refine rb_nmI e10 ?_
            refine rb_istore hC [(4, .int v9), (6, .int (x3 - x3 / 10 * 10)), (0, .ref (rb_ad w 236)), (3, .int x3), (5, .int x5)] dX10_aim_80 (by decide) rfl ?_
            refine rb_aload_n hC 2 dX10_aim_82 rfl ?_
            refine rb_getR hC fr_X10_15_9 rb_obX236 rfl dX10_aim_83 ?_
            refine rb_iload hC 1 dX10_aim_86 rfl ?_
            refine rb_iload hC 4 dX10_aim_88 rfl ?_
            obtain ⟨g11, h⟩ := rb_gd h
            refine rb_iast hC rb_arX238 (rb_ibI g11) dX10_aim_90 ?_
            obtain ⟨s12, e13, h⟩ := rb_ltE h
            refine rb_nmS e13 ?_
            refine rb_iload_n hC 3 dX10_aim_91 rfl ?_
            refine rb_bipush (x := 10) hC dX10_aim_92 (by decide) ?_
            refine rb_idiv hC dX10_aim_94 (by decide) ?_
            refine rb_istore_n hC [(3, .int (x3 / 10)), (4, .int v9), (6, .int (x3 - x3 / 10 * 10)), (0, .ref (rb_ad w 236)), (5, .int x5)] dX10_aim_95 (by decide) rfl ?_
            refine rb_iinc hC 4 [(5, .int (x5 + (-1))), (3, .int (x3 / 10)), (4, .int v9), (6, .int (x3 - x3 / 10 * 10)), (0, .ref (rb_ad w 236))] dX10_aim_96 rfl rfl (by decide) rfl ?_
            refine rb_goto hC 36 dX10_aim_99 (by decide) ?_
            exact rb_sub [4, 1, 2, 0] rfl (ih (x3 / 10) v9 (x5 + (-1)) s12 _ _ _ h hE0 hE1)
          · replace h := rb_ifn c8 h
            cases h
            exact rb_sub [] rfl (hE0 rfl)
def xf_Way_aim (p0 : Int32) (k2 : Nat) (σ : rb_St) : Option (Int32 × rb_St) := rb_lt (rb_sI σ 236 0 (σ.1 k2 0)) (fun s1 => rb_lt (rb_cp s1 (k2 + 1) 237 0 0 8) (fun s3 => rb_b3 (xl_Way_aim_36 rb_FU p0 0 ((s3.1 236 0) - 1) s3) fun t14 y15 s16 => if t14 = 0 then some (0, s16) else if y15 = 0 then some (1, s16) else some (0, s16)))
set_option maxHeartbeats 4000000 in
set_option maxRecDepth 100000 in
theorem xk_Way_aim {z : rb_Z} {w : rb_Wd} (hC : rb_Cx z rb_vX w RX10 cX10_aim 7 (some .boolean) 1) (p0 : Int32) (k2 : Nat) (hk2 : rb_isPole k2) (σ : rb_St) (r : Int32) (σ9 : rb_St) (h : xf_Way_aim p0 k2 σ = some (r, σ9)) : rb_At z rb_vX w 7 (rb_Q z rb_vX w (some (.int r)) σ9) 0 [(0, .ref (rb_ad w 236)), (1, .int p0), (2, .ref (rb_ad w k2))] [] σ := by
  unfold xf_Way_aim at h
  refine rb_aload_n hC 0 dX10_aim_0 rfl ?_
  refine rb_aload_n hC 2 dX10_aim_1 rfl ?_
  refine rb_getI hC fr_X10_21_7 (rb_obPole hk2) rfl dX10_aim_2 ?_
  refine rb_putI hC fr_X10_27_9 ft_9_0 rb_obX236 rfl rfl rfl dX10_aim_5 ?_
  obtain ⟨s1, e2, h⟩ := rb_ltE h
  refine rb_nmS e2 ?_
  refine rb_aload_n hC 2 dX10_aim_8 rfl ?_
  refine rb_getR hC fr_X10_28_7 (rb_obPole hk2) rfl dX10_aim_9 ?_
  refine rb_iconst (x := 0) hC dX10_aim_12 (by decide) ?_
  refine rb_aload_n hC 0 dX10_aim_13 rfl ?_
  refine rb_getR hC fr_X10_9_9 rb_obX236 rfl dX10_aim_14 ?_
  refine rb_iconst (x := 0) hC dX10_aim_17 (by decide) ?_
  refine rb_bipush (x := 8) hC dX10_aim_18 (by decide) ?_
  refine rb_copy hC mk_X10_29 (rb_arPole1 hk2) rb_arX237 (rb_ckI (by decide)) ⟨Nat.le_of_ble_eq_true rfl, Nat.le_of_ble_eq_true rfl⟩ dX10_aim_20 ?_
  obtain ⟨s3, e4, h⟩ := rb_ltE h
  refine rb_nmS e4 ?_
  refine rb_iload_n hC 1 dX10_aim_23 rfl ?_
  refine rb_istore_n hC [(3, .int p0), (0, .ref (rb_ad w 236)), (1, .int p0), (2, .ref (rb_ad w k2))] dX10_aim_24 (by decide) rfl ?_
  refine rb_iconst (x := 0) hC dX10_aim_25 (by decide) ?_
  refine rb_istore hC [(4, .int 0), (3, .int p0), (0, .ref (rb_ad w 236)), (1, .int p0), (2, .ref (rb_ad w k2))] dX10_aim_26 (by decide) rfl ?_
  refine rb_aload_n hC 2 dX10_aim_28 rfl ?_
  refine rb_getI hC fr_X10_27_9 rb_obX236 rfl dX10_aim_29 ?_
  refine rb_iconst (x := 1) hC dX10_aim_32 (by decide) ?_
  refine rb_isub hC dX10_aim_33 ?_
  refine rb_istore hC [(5, .int ((s3.1 236 0) - 1)), (4, .int 0), (3, .int p0), (0, .ref (rb_ad w 236)), (1, .int p0), (2, .ref (rb_ad w k2))] dX10_aim_34 (by decide) rfl ?_
  obtain ⟨t14, y15, s16, q17, h⟩ := rb_b3s h
  refine rb_sub (lv2 := [(0, .ref (rb_ad w 236)), (3, .int p0), (4, .int 0), (5, .int ((s3.1 236 0) - 1))]) [3, 2, 1, 0] rfl ?_
  refine xt_Way_aim_36 hC  rb_FU p0 0 ((s3.1 236 0) - 1) s3 _ _ _ q17 (fun ht => ?_) (fun ht => ?_)
  · subst ht
    replace h := rb_ifp rfl h
    refine rb_iconst (x := 0) hC dX10_aim_71 (by decide) ?_
    cases h
    exact rb_zret hC rfl dX10_aim_72
  · subst ht
    replace h := rb_ifn (by decide) h
    refine rb_iload_n hC 0 dX10_aim_102 rfl ?_
    refine rb_if_ne hC 110 dX10_aim_103 (by decide) (fun c18 => ?_) (fun c18 => ?_)
    · replace h := rb_ifn c18 h
      refine rb_iconst (x := 0) hC dX10_aim_110 (by decide) ?_
      cases h
      exact rb_zret hC rfl dX10_aim_111
    · replace h := rb_ifp c18 h
      refine rb_iconst (x := 1) hC dX10_aim_106 (by decide) ?_
      refine rb_goto hC 111 dX10_aim_107 (by decide) ?_
      cases h
      exact rb_zret hC rfl dX10_aim_111
theorem xc_Way_aim (p0 : Int32) (k2 : Nat) (hk2 : rb_isPole k2) (σ : rb_St) (r : Int32) (σ9 : rb_St) (h : xf_Way_aim p0 k2 σ = some (r, σ9)) : rb_Con rb_vX yX10_aim cX10_aim 7 (some .boolean) 1 (fun w => [.ref (rb_ad w 236), .int p0, .ref (rb_ad w k2)]) σ (fun _ => (some (.int r))) σ9 := rb_Con.of (by decide +kernel) (fun _ => Nat.le_of_ble_eq_true rfl) (fun z w hC => xk_Way_aim hC p0 k2 hk2 σ r σ9 h)
theorem fr_X10_18_9 : rb_FR RX10 18 9 3 := ⟨RX10, TX10, 4, "RibbonPole$Way", rfl, rb_uX10, by decide, rb_in (by decide +kernel) (by decide +kernel), Or.inl rfl⟩
def xf_Way_endOf (p0 : Int32) (p1 : Int32) (σ : rb_St) : Option Int32 := if rb_ib p0 8 then if ((p1 >>> (p0 &&& 31)) &&& 1) = 0 then some ((p0 + (σ.1 239 p0.toNatClampNeg)) - 0) else some ((p0 + (σ.1 239 p0.toNatClampNeg)) - (σ.1 236 0)) else none
set_option maxHeartbeats 4000000 in
set_option maxRecDepth 100000 in
theorem xk_Way_endOf {z : rb_Z} {w : rb_Wd} (hC : rb_Cx z rb_vX w RX10 cX10_endOf 3 (some .int) 0) (p0 : Int32) (p1 : Int32) (σ : rb_St) (r : Int32) (h : xf_Way_endOf p0 p1 σ = some r) : rb_At z rb_vX w 3 (rb_Q z rb_vX w (some (.int r)) σ) 0 [(0, .ref (rb_ad w 236)), (1, .int p0), (2, .int p1)] [] σ := by
  unfold xf_Way_endOf at h
  refine rb_iload_n hC 1 dX10_endOf_0 rfl ?_
  refine rb_aload_n hC 0 dX10_endOf_1 rfl ?_
  refine rb_getR hC fr_X10_18_9 rb_obX236 rfl dX10_endOf_2 ?_
  refine rb_iload_n hC 1 dX10_endOf_5 rfl ?_
  obtain ⟨g1, h⟩ := rb_gd h
  refine rb_iald hC rb_arX239 (rb_ibI g1) dX10_endOf_6 ?_
  refine rb_iadd hC dX10_endOf_7 ?_
  refine rb_iload_n hC 2 dX10_endOf_8 rfl ?_
  refine rb_iload_n hC 1 dX10_endOf_9 rfl ?_
  refine rb_ishr hC dX10_endOf_10 ?_
  refine rb_iconst (x := 1) hC dX10_endOf_11 (by decide) ?_
  refine rb_iand hC dX10_endOf_12 ?_
  refine rb_if_ne hC 20 dX10_endOf_13 (by decide) (fun c2 => ?_) (fun c2 => ?_)
  · replace h := rb_ifn c2 h
    refine rb_aload_n hC 0 dX10_endOf_20 rfl ?_
    refine rb_getI hC fr_X10_27_9 rb_obX236 rfl dX10_endOf_21 ?_
    refine rb_isub hC dX10_endOf_24 ?_
    cases h
    exact rb_iret hC dX10_endOf_25
  · replace h := rb_ifp c2 h
    refine rb_iconst (x := 0) hC dX10_endOf_16 (by decide) ?_
    refine rb_goto hC 24 dX10_endOf_17 (by decide) ?_
    refine rb_isub hC dX10_endOf_24 ?_
    cases h
    exact rb_iret hC dX10_endOf_25
theorem xc_Way_endOf (p0 : Int32) (p1 : Int32) (σ : rb_St) (r : Int32) (h : xf_Way_endOf p0 p1 σ = some r) : rb_Con rb_vX yX10_endOf cX10_endOf 3 (some .int) 0 (fun w => [.ref (rb_ad w 236), .int p0, .int p1]) σ (fun _ => (some (.int r))) σ := rb_Con.of (by decide +kernel) (fun _ => Nat.le_of_ble_eq_true rfl) (fun z w hC => xk_Way_endOf hC p0 p1 σ r h)
def xj_Way_change_17 (x1 : Int32) (u0 : Int32) (σ : rb_St) : Option (rb_St) := if rb_ib x1 8 then if rb_ib u0 8 then rb_lt (rb_sI σ 237 x1.toNatClampNeg (σ.1 237 u0.toNatClampNeg)) (fun s4 => rb_lt (rb_sI s4 237 u0.toNatClampNeg (σ.1 237 x1.toNatClampNeg)) (fun s6 => some s6)) else none else none
set_option maxHeartbeats 4000000 in
set_option maxRecDepth 100000 in
theorem xu_Way_change_17 {z : rb_Z} {w : rb_Wd} (hC : rb_Cx z rb_vX w RX10 cX10_change 4 none 0) (x1 : Int32) (u0 : Int32) (σ : rb_St) (σ9 : rb_St) (h : xj_Way_change_17 x1 u0 σ = some σ9) : rb_At z rb_vX w 4 (rb_Q z rb_vX w none σ9) 17 [(0, .ref (rb_ad w 236)), (1, .int x1)] [.int u0] σ := by
  unfold xj_Way_change_17 at h
  refine rb_istore_n hC [(2, .int u0), (0, .ref (rb_ad w 236)), (1, .int x1)] dX10_change_17 (by decide) rfl ?_
  refine rb_aload_n hC 1 dX10_change_18 rfl ?_
  refine rb_getR hC fr_X10_9_9 rb_obX236 rfl dX10_change_19 ?_
  refine rb_iload_n hC 2 dX10_change_22 rfl ?_
  obtain ⟨g2, h⟩ := rb_gd h
  refine rb_iald hC rb_arX237 (rb_ibI g2) dX10_change_23 ?_
  refine rb_istore_n hC [(3, .int (σ.1 237 x1.toNatClampNeg)), (2, .int u0), (0, .ref (rb_ad w 236)), (1, .int x1)] dX10_change_24 (by decide) rfl ?_
  refine rb_aload_n hC 2 dX10_change_25 rfl ?_
  refine rb_getR hC fr_X10_9_9 rb_obX236 rfl dX10_change_26 ?_
  refine rb_iload_n hC 3 dX10_change_29 rfl ?_
  refine rb_aload_n hC 2 dX10_change_30 rfl ?_
  refine rb_getR hC fr_X10_9_9 rb_obX236 rfl dX10_change_31 ?_
  refine rb_iload_n hC 1 dX10_change_34 rfl ?_
  obtain ⟨g3, h⟩ := rb_gd h
  refine rb_iald hC rb_arX237 (rb_ibI g3) dX10_change_35 ?_
  refine rb_iast hC rb_arX237 (rb_ibI g2) dX10_change_36 ?_
  obtain ⟨s4, e5, h⟩ := rb_ltE h
  refine rb_nmS e5 ?_
  refine rb_aload_n hC 2 dX10_change_37 rfl ?_
  refine rb_getR hC fr_X10_9_9 rb_obX236 rfl dX10_change_38 ?_
  refine rb_iload_n hC 1 dX10_change_41 rfl ?_
  refine rb_iload_n hC 0 dX10_change_42 rfl ?_
  refine rb_iast hC rb_arX237 (rb_ibI g3) dX10_change_43 ?_
  obtain ⟨s6, e7, h⟩ := rb_ltE h
  refine rb_nmS e7 ?_
  cases h
  exact rb_vret hC dX10_change_44
def xf_Way_change (p0 : Int32) (σ : rb_St) : Option (rb_St) := if (σ.1 236 0) ≤ (p0 + 1) then xj_Way_change_17 p0 0 σ else xj_Way_change_17 p0 (p0 + 1) σ
set_option maxHeartbeats 4000000 in
set_option maxRecDepth 100000 in
theorem xk_Way_change {z : rb_Z} {w : rb_Wd} (hC : rb_Cx z rb_vX w RX10 cX10_change 4 none 0) (p0 : Int32) (σ : rb_St) (σ9 : rb_St) (h : xf_Way_change p0 σ = some σ9) : rb_At z rb_vX w 4 (rb_Q z rb_vX w none σ9) 0 [(0, .ref (rb_ad w 236)), (1, .int p0)] [] σ := by
  unfold xf_Way_change at h
  refine rb_iload_n hC 1 dX10_change_0 rfl ?_
  refine rb_iconst (x := 1) hC dX10_change_1 (by decide) ?_
  refine rb_iadd hC dX10_change_2 ?_
  refine rb_aload_n hC 0 dX10_change_3 rfl ?_
  refine rb_getI hC fr_X10_27_9 rb_obX236 rfl dX10_change_4 ?_
  refine rb_icmp_ge hC 16 dX10_change_7 (by decide) (fun c1 => ?_) (fun c1 => ?_)
  · replace h := rb_ifp c1 h
    refine rb_iconst (x := 0) hC dX10_change_16 (by decide) ?_
    exact rb_sub [0, 1] rfl (xu_Way_change_17 hC p0 0 σ _ h)
  · replace h := rb_ifn c1 h
    refine rb_iload_n hC 1 dX10_change_10 rfl ?_
    refine rb_iconst (x := 1) hC dX10_change_11 (by decide) ?_
    refine rb_iadd hC dX10_change_12 ?_
    refine rb_goto hC 17 dX10_change_13 (by decide) ?_
    exact rb_sub [0, 1] rfl (xu_Way_change_17 hC p0 (p0 + 1) σ _ h)
theorem xc_Way_change (p0 : Int32) (σ : rb_St) (σ9 : rb_St) (h : xf_Way_change p0 σ = some σ9) : rb_Con rb_vX yX10_change cX10_change 4 none 0 (fun w => [.ref (rb_ad w 236), .int p0]) σ (fun _ => none) σ9 := rb_Con.of (by decide +kernel) (fun _ => Nat.le_of_ble_eq_true rfl) (fun z w hC => xk_Way_change hC p0 σ σ9 h)
theorem fr_X6_20_6 : rb_FR RX6 20 6 1 := ⟨RX6, TX6, 3, "RibbonPole$LawReader", rfl, rb_uX6, by decide, rb_in (by decide +kernel) (by decide +kernel), Or.inr (rb_in (by decide +kernel) (by decide +kernel))⟩
def xf_LR_opens (p0 : Int32) (σ : rb_St) : Option (Int32 × rb_St) := if p0 < 6 then rb_lt (rb_sI σ 7 1 ((σ.1 7 1) + 1)) (fun s2 => some (1, s2)) else some (0, σ)
set_option maxHeartbeats 4000000 in
set_option maxRecDepth 100000 in
theorem xk_LR_opens {z : rb_Z} {w : rb_Wd} (hC : rb_Cx z rb_vX w RX6 cX6_opens 2 (some .boolean) 0) (p0 : Int32) (σ : rb_St) (r : Int32) (σ9 : rb_St) (h : xf_LR_opens p0 σ = some (r, σ9)) : rb_At z rb_vX w 2 (rb_Q z rb_vX w (some (.int r)) σ9) 0 [(0, .ref (rb_ad w 7)), (1, .int p0)] [] σ := by
  unfold xf_LR_opens at h
  refine rb_iload_n hC 1 dX6_opens_0 rfl ?_
  refine rb_bipush (x := 6) hC dX6_opens_1 (by decide) ?_
  refine rb_icmp_lt hC 8 dX6_opens_3 (by decide) (fun c1 => ?_) (fun c1 => ?_)
  · replace h := rb_ifp c1 h
    refine rb_aload_n hC 0 dX6_opens_8 rfl ?_
    refine rb_dup hC dX6_opens_9 rfl ?_
    refine rb_getI hC fr_X6_20_6 rb_obX7 rfl dX6_opens_10 ?_
    refine rb_iconst (x := 1) hC dX6_opens_13 (by decide) ?_
    refine rb_iadd hC dX6_opens_14 ?_
    refine rb_putI hC fr_X6_20_6 ft_6_1 rb_obX7 rfl rfl rfl dX6_opens_15 ?_
    obtain ⟨s2, e3, h⟩ := rb_ltE h
    refine rb_nmS e3 ?_
    refine rb_iconst (x := 1) hC dX6_opens_18 (by decide) ?_
    cases h
    exact rb_zret hC rfl dX6_opens_19
  · replace h := rb_ifn c1 h
    refine rb_iconst (x := 0) hC dX6_opens_6 (by decide) ?_
    cases h
    exact rb_zret hC rfl dX6_opens_7
theorem xc_LR_opens (p0 : Int32) (σ : rb_St) (r : Int32) (σ9 : rb_St) (h : xf_LR_opens p0 σ = some (r, σ9)) : rb_Con rb_vX yX6_opens cX6_opens 2 (some .boolean) 0 (fun w => [.ref (rb_ad w 7), .int p0]) σ (fun _ => (some (.int r))) σ9 := rb_Con.of (by decide +kernel) (fun _ => Nat.le_of_ble_eq_true rfl) (fun z w hC => xk_LR_opens hC p0 σ r σ9 h)
def xf_LR_isComparison (p0 : Int32) (σ : rb_St) : Int32 := if p0 = 61 then 1 else if p0 = 60 then 1 else if p0 = 62 then 1 else 0
set_option maxHeartbeats 4000000 in
set_option maxRecDepth 100000 in
theorem xk_LR_isComparison {z : rb_Z} {w : rb_Wd} (hC : rb_Cx z rb_vX w RX6 cX6_isComparison 1 (some .boolean) 0) (p0 : Int32) (σ : rb_St) (r : Int32) (h : xf_LR_isComparison p0 σ = r) : rb_At z rb_vX w 1 (rb_Q z rb_vX w (some (.int r)) σ) 0 [(0, .int p0)] [] σ := by
  unfold xf_LR_isComparison at h
  refine rb_iload_n hC 0 dX6_isComparison_0 rfl ?_
  refine rb_bipush (x := 61) hC dX6_isComparison_1 (by decide) ?_
  refine rb_icmp_eq hC 18 dX6_isComparison_3 (by decide) (fun c1 => ?_) (fun c1 => ?_)
  · replace h := rb_ifp c1 h
    refine rb_iconst (x := 1) hC dX6_isComparison_18 (by decide) ?_
    refine rb_goto hC 23 dX6_isComparison_19 (by decide) ?_
    subst h
    exact rb_zret hC rfl dX6_isComparison_23
  · replace h := rb_ifn c1 h
    refine rb_iload_n hC 0 dX6_isComparison_6 rfl ?_
    refine rb_bipush (x := 60) hC dX6_isComparison_7 (by decide) ?_
    refine rb_icmp_eq hC 18 dX6_isComparison_9 (by decide) (fun c2 => ?_) (fun c2 => ?_)
    · replace h := rb_ifp c2 h
      refine rb_iconst (x := 1) hC dX6_isComparison_18 (by decide) ?_
      refine rb_goto hC 23 dX6_isComparison_19 (by decide) ?_
      subst h
      exact rb_zret hC rfl dX6_isComparison_23
    · replace h := rb_ifn c2 h
      refine rb_iload_n hC 0 dX6_isComparison_12 rfl ?_
      refine rb_bipush (x := 62) hC dX6_isComparison_13 (by decide) ?_
      refine rb_icmp_ne hC 22 dX6_isComparison_15 (by decide) (fun c3 => ?_) (fun c3 => ?_)
      · replace h := rb_ifn c3 h
        refine rb_iconst (x := 0) hC dX6_isComparison_22 (by decide) ?_
        subst h
        exact rb_zret hC rfl dX6_isComparison_23
      · replace h := rb_ifp c3 h
        refine rb_iconst (x := 1) hC dX6_isComparison_18 (by decide) ?_
        refine rb_goto hC 23 dX6_isComparison_19 (by decide) ?_
        subst h
        exact rb_zret hC rfl dX6_isComparison_23
theorem xc_LR_isComparison (p0 : Int32) (σ : rb_St) (r : Int32) (h : xf_LR_isComparison p0 σ = r) : rb_Con rb_vX yX6_isComparison cX6_isComparison 1 (some .boolean) 0 (fun w => [.int p0]) σ (fun _ => (some (.int r))) σ := rb_Con.of (by decide +kernel) (fun _ => Nat.le_of_ble_eq_true rfl) (fun z w hC => xk_LR_isComparison hC p0 σ r h)
theorem fr_X11_21_10 : rb_FR RX11 21 10 1 := ⟨RX11, TX11, 20, "RibbonPole", rfl, rb_uX11, by decide, rb_in (by decide +kernel) (by decide +kernel), Or.inl rfl⟩
theorem xk_RP_readerOf0 {z : rb_Z} {w : rb_Wd} (hC : rb_Cx z rb_vX w RX11 cX11_readerOf 2 (some (.object "RibbonPole$Reader")) 0)  (σ : rb_St) : rb_At z rb_vX w 2 (rb_Q z rb_vX w (some (.ref (rb_ad w 3))) σ) 0 [(0, .ref (rb_ad w 0)), (1, .int 0)] [] σ := by
  refine rb_iload_n hC 1 dX11_readerOf_0 rfl ?_
  refine rb_tableIn hC 28 dX11_readerOf_1 (by decide) (by decide) rfl (by decide) ?_
  refine rb_aload_n hC 0 dX11_readerOf_28 rfl ?_
  refine rb_getR hC fr_X11_21_10 rb_obX0 rfl dX11_readerOf_29 ?_
  exact rb_aret hC rfl (Or.inr ⟨_, rfl⟩) dX11_readerOf_32
theorem xc_RP_readerOf0  (σ : rb_St) : rb_Con rb_vX yX11_readerOf cX11_readerOf 2 (some (.object "RibbonPole$Reader")) 0 (fun w => [.ref (rb_ad w 0), .int 0]) σ (fun w => (some (.ref (rb_ad w 3)))) σ := rb_Con.of (by decide +kernel) (fun _ => Nat.le_of_ble_eq_true rfl) (fun z w hC => xk_RP_readerOf0 hC  σ)
theorem fr_X11_28_10 : rb_FR RX11 28 10 2 := ⟨RX11, TX11, 20, "RibbonPole", rfl, rb_uX11, by decide, rb_in (by decide +kernel) (by decide +kernel), Or.inl rfl⟩
theorem xk_RP_readerOf1 {z : rb_Z} {w : rb_Wd} (hC : rb_Cx z rb_vX w RX11 cX11_readerOf 2 (some (.object "RibbonPole$Reader")) 0)  (σ : rb_St) : rb_At z rb_vX w 2 (rb_Q z rb_vX w (some (.ref (rb_ad w 7))) σ) 0 [(0, .ref (rb_ad w 0)), (1, .int 1)] [] σ := by
  refine rb_iload_n hC 1 dX11_readerOf_0 rfl ?_
  refine rb_tableIn hC 33 dX11_readerOf_1 (by decide) (by decide) rfl (by decide) ?_
  refine rb_aload_n hC 0 dX11_readerOf_33 rfl ?_
  refine rb_getR hC fr_X11_28_10 rb_obX0 rfl dX11_readerOf_34 ?_
  exact rb_aret hC rfl (Or.inr ⟨_, rfl⟩) dX11_readerOf_37
theorem xc_RP_readerOf1  (σ : rb_St) : rb_Con rb_vX yX11_readerOf cX11_readerOf 2 (some (.object "RibbonPole$Reader")) 0 (fun w => [.ref (rb_ad w 0), .int 1]) σ (fun w => (some (.ref (rb_ad w 7)))) σ := rb_Con.of (by decide +kernel) (fun _ => Nat.le_of_ble_eq_true rfl) (fun z w hC => xk_RP_readerOf1 hC  σ)
theorem fr_X11_35_10 : rb_FR RX11 35 10 3 := ⟨RX11, TX11, 20, "RibbonPole", rfl, rb_uX11, by decide, rb_in (by decide +kernel) (by decide +kernel), Or.inl rfl⟩
theorem xk_RP_readerOf2 {z : rb_Z} {w : rb_Wd} (hC : rb_Cx z rb_vX w RX11 cX11_readerOf 2 (some (.object "RibbonPole$Reader")) 0)  (σ : rb_St) : rb_At z rb_vX w 2 (rb_Q z rb_vX w (some (.ref (rb_ad w 12))) σ) 0 [(0, .ref (rb_ad w 0)), (1, .int 2)] [] σ := by
  refine rb_iload_n hC 1 dX11_readerOf_0 rfl ?_
  refine rb_tableIn hC 38 dX11_readerOf_1 (by decide) (by decide) rfl (by decide) ?_
  refine rb_aload_n hC 0 dX11_readerOf_38 rfl ?_
  refine rb_getR hC fr_X11_35_10 rb_obX0 rfl dX11_readerOf_39 ?_
  exact rb_aret hC rfl (Or.inr ⟨_, rfl⟩) dX11_readerOf_42
theorem xc_RP_readerOf2  (σ : rb_St) : rb_Con rb_vX yX11_readerOf cX11_readerOf 2 (some (.object "RibbonPole$Reader")) 0 (fun w => [.ref (rb_ad w 0), .int 2]) σ (fun w => (some (.ref (rb_ad w 12)))) σ := rb_Con.of (by decide +kernel) (fun _ => Nat.le_of_ble_eq_true rfl) (fun z w hC => xk_RP_readerOf2 hC  σ)
theorem xk_RP_readerOf_o {z : rb_Z} {w : rb_Wd} (hC : rb_Cx z rb_vX w RX11 cX11_readerOf 2 (some (.object "RibbonPole$Reader")) 0) (p0 : Int32) (n0 : ¬ p0 = 0) (n1 : ¬ p0 = 1) (n2 : ¬ p0 = 2) (σ : rb_St) : rb_At z rb_vX w 2 (rb_Q z rb_vX w (some (.null)) σ) 0 [(0, .ref (rb_ad w 0)), (1, .int p0)] [] σ := by
  refine rb_iload_n hC 1 dX11_readerOf_0 rfl ?_
  have hO : p0.toInt < 0 ∨ 2 < p0.toInt := by
    have n10 : p0.toInt ≠ 0 := fun q3 => n0 (Int32.toInt_inj.mp (q3.trans (by decide)))
    have n11 : p0.toInt ≠ 1 := fun q3 => n1 (Int32.toInt_inj.mp (q3.trans (by decide)))
    have n12 : p0.toInt ≠ 2 := fun q3 => n2 (Int32.toInt_inj.mp (q3.trans (by decide)))
    omega
  refine rb_tableOut hC 43 dX11_readerOf_1 hO (by decide) ?_
  refine rb_aconst_null hC dX11_readerOf_43 ?_
  exact rb_aret hC rfl (Or.inl rfl) dX11_readerOf_44
theorem xc_RP_readerOf_o (p0 : Int32) (n0 : ¬ p0 = 0) (n1 : ¬ p0 = 1) (n2 : ¬ p0 = 2) (σ : rb_St) : rb_Con rb_vX yX11_readerOf cX11_readerOf 2 (some (.object "RibbonPole$Reader")) 0 (fun w => [.ref (rb_ad w 0), .int p0]) σ (fun w => (some (.null))) σ := rb_Con.of (by decide +kernel) (fun _ => Nat.le_of_ble_eq_true rfl) (fun z w hC => xk_RP_readerOf_o hC p0 n0 n1 n2 σ)
theorem me_X9_bytesIn : Cond.static yX9_bytesIn ∈ rb_tbl ∧ Cond.initialized yX9_bytesIn.cls ∈ rb_tbl ∧ Cond.code yX9_bytesIn cX9_bytesIn 3 (some .int) ∈ rb_tbl ∧ rb_pn yX9_bytesIn 1 := ⟨rb_in (by decide +kernel) (by decide +kernel), rb_in (by decide +kernel) (by decide +kernel), rb_in (by decide +kernel) (by decide +kernel), by decide +kernel, by decide +kernel, by decide +kernel⟩
theorem mv_X11_102 : rb_MS RX11 102 yX9_bytesIn cX9_bytesIn 3 (some .int) 1 := ⟨rb_in (by decide +kernel) (by decide +kernel), me_X9_bytesIn⟩
theorem fr_X11_10_10 : rb_FR RX11 10 10 0 := ⟨RX11, TX11, 20, "RibbonPole", rfl, rb_uX11, by decide, rb_in (by decide +kernel) (by decide +kernel), Or.inl rfl⟩
theorem fr_X11_106_8 : rb_FR RX11 106 8 1 := ⟨RX9, TX9, 2, "RibbonPole$Tape", rfl, rb_uX9, by decide, rb_in (by decide +kernel) (by decide +kernel), Or.inl rfl⟩
theorem me_X9_add : Cond.instanceMethod yX9_add ∈ rb_tbl ∧ Cond.selects yX9_add.cls yX9_add yX9_add ∈ rb_tbl ∧ Cond.initialized yX9_add.cls ∈ rb_tbl ∧ Cond.code yX9_add cX9_add 4 none ∈ rb_tbl ∧ rb_pn yX9_add 1 := ⟨rb_in (by decide +kernel) (by decide +kernel), rb_in (by decide +kernel) (by decide +kernel), rb_in (by decide +kernel) (by decide +kernel), rb_in (by decide +kernel) (by decide +kernel), by decide +kernel, by decide +kernel, by decide +kernel⟩
theorem mv_X11_109 : rb_MV RX11 109 yX9_add cX9_add 4 none 1 := ⟨rb_in (by decide +kernel) (by decide +kernel), me_X9_add⟩
def xf_RP_feed (p0 : Int32) (p1 : Int32) (p2 : Int32) (p3 : Int32) (p4 : Int32) (σ : rb_St) : Option (Int32 × rb_St) := rb_b1 (xf_Tape_bytesIn p0 σ) fun r1 => rb_b1 (xf_Tape_bytesIn p1 σ) fun r3 => rb_b1 (xf_Tape_bytesIn p2 σ) fun r5 => rb_b1 (xf_Tape_bytesIn p3 σ) fun r7 => rb_b1 (xf_Tape_bytesIn p4 σ) fun r9 => if ((σ.1 1 1) + ((((r1 + r3) + r5) + r7) + r9)) ≤ 240 then rb_b1 (xf_Tape_add p0 σ) fun s12 => rb_b1 (xf_Tape_add p1 s12) fun s14 => rb_b1 (xf_Tape_add p2 s14) fun s16 => rb_b1 (xf_Tape_add p3 s16) fun s18 => rb_b1 (xf_Tape_add p4 s18) fun s20 => some (s20.1 1 1, s20) else some ((-1), σ)
set_option maxHeartbeats 4000000 in
set_option maxRecDepth 100000 in
theorem xk_RP_feed {z : rb_Z} {w : rb_Wd} (hC : rb_Cx z rb_vX w RX11 cX11_feed 7 (some .int) 1) (p0 : Int32) (p1 : Int32) (p2 : Int32) (p3 : Int32) (p4 : Int32) (σ : rb_St) (r : Int32) (σ9 : rb_St) (h : xf_RP_feed p0 p1 p2 p3 p4 σ = some (r, σ9)) : rb_At z rb_vX w 7 (rb_Q z rb_vX w (some (.int r)) σ9) 0 [(0, .ref (rb_ad w 0)), (1, .int p0), (2, .int p1), (3, .int p2), (4, .int p3), (5, .int p4)] [] σ := by
  unfold xf_RP_feed at h
  refine rb_iload_n hC 1 dX11_feed_0 rfl ?_
  obtain ⟨r1, q2, h⟩ := rb_b1s h
  refine rb_callSi hC rb_VokX mv_X11_102 (xc_Tape_bytesIn p0 σ _ q2) [.int p0] rfl rfl rfl ⟨Nat.le_of_ble_eq_true rfl, Nat.le_of_ble_eq_true rfl⟩ (Nat.le_of_ble_eq_true rfl) dX11_feed_1 ?_
  refine rb_iload_n hC 2 dX11_feed_4 rfl ?_
  obtain ⟨r3, q4, h⟩ := rb_b1s h
  refine rb_callSi hC rb_VokX mv_X11_102 (xc_Tape_bytesIn p1 σ _ q4) [.int p1] rfl rfl rfl ⟨Nat.le_of_ble_eq_true rfl, Nat.le_of_ble_eq_true rfl⟩ (Nat.le_of_ble_eq_true rfl) dX11_feed_5 ?_
  refine rb_iadd hC dX11_feed_8 ?_
  refine rb_iload_n hC 3 dX11_feed_9 rfl ?_
  obtain ⟨r5, q6, h⟩ := rb_b1s h
  refine rb_callSi hC rb_VokX mv_X11_102 (xc_Tape_bytesIn p2 σ _ q6) [.int p2] rfl rfl rfl ⟨Nat.le_of_ble_eq_true rfl, Nat.le_of_ble_eq_true rfl⟩ (Nat.le_of_ble_eq_true rfl) dX11_feed_10 ?_
  refine rb_iadd hC dX11_feed_13 ?_
  refine rb_iload hC 4 dX11_feed_14 rfl ?_
  obtain ⟨r7, q8, h⟩ := rb_b1s h
  refine rb_callSi hC rb_VokX mv_X11_102 (xc_Tape_bytesIn p3 σ _ q8) [.int p3] rfl rfl rfl ⟨Nat.le_of_ble_eq_true rfl, Nat.le_of_ble_eq_true rfl⟩ (Nat.le_of_ble_eq_true rfl) dX11_feed_16 ?_
  refine rb_iadd hC dX11_feed_19 ?_
  refine rb_iload hC 5 dX11_feed_20 rfl ?_
  obtain ⟨r9, q10, h⟩ := rb_b1s h
  refine rb_callSi hC rb_VokX mv_X11_102 (xc_Tape_bytesIn p4 σ _ q10) [.int p4] rfl rfl rfl ⟨Nat.le_of_ble_eq_true rfl, Nat.le_of_ble_eq_true rfl⟩ (Nat.le_of_ble_eq_true rfl) dX11_feed_22 ?_
  refine rb_iadd hC dX11_feed_25 ?_
  refine rb_istore hC [(6, .int ((((r1 + r3) + r5) + r7) + r9)), (0, .ref (rb_ad w 0)), (1, .int p0), (2, .int p1), (3, .int p2), (4, .int p3), (5, .int p4)] dX11_feed_26 (by decide) rfl ?_
  refine rb_aload_n hC 1 dX11_feed_28 rfl ?_
  refine rb_getR hC fr_X11_10_10 rb_obX0 rfl dX11_feed_29 ?_
  refine rb_getI hC fr_X11_106_8 rb_obX1 rfl dX11_feed_32 ?_
  refine rb_iload hC 0 dX11_feed_35 rfl ?_
  refine rb_iadd hC dX11_feed_37 ?_
  refine rb_sipush (x := 240) hC dX11_feed_38 (by decide) ?_
  refine rb_icmp_le hC 46 dX11_feed_41 (by decide) (fun c11 => ?_) (fun c11 => ?_)
  · replace h := rb_ifp c11 h
    refine rb_aload_n hC 1 dX11_feed_46 rfl ?_
    refine rb_getR hC fr_X11_10_10 rb_obX0 rfl dX11_feed_47 ?_
    refine rb_iload_n hC 2 dX11_feed_50 rfl ?_
    obtain ⟨s12, q13, h⟩ := rb_b1s h
    refine rb_callVv hC rb_VokX mv_X11_109 (xc_Tape_add p0 σ _ q13) rb_obX1 rfl [.int p0] rfl rfl rfl ⟨Nat.le_of_ble_eq_true rfl, Nat.le_of_ble_eq_true rfl⟩ (Nat.le_of_ble_eq_true rfl) dX11_feed_51 ?_
    refine rb_aload_n hC 1 dX11_feed_54 rfl ?_
    refine rb_getR hC fr_X11_10_10 rb_obX0 rfl dX11_feed_55 ?_
    refine rb_iload_n hC 3 dX11_feed_58 rfl ?_
    obtain ⟨s14, q15, h⟩ := rb_b1s h
    refine rb_callVv hC rb_VokX mv_X11_109 (xc_Tape_add p1 s12 _ q15) rb_obX1 rfl [.int p1] rfl rfl rfl ⟨Nat.le_of_ble_eq_true rfl, Nat.le_of_ble_eq_true rfl⟩ (Nat.le_of_ble_eq_true rfl) dX11_feed_59 ?_
    refine rb_aload_n hC 1 dX11_feed_62 rfl ?_
    refine rb_getR hC fr_X11_10_10 rb_obX0 rfl dX11_feed_63 ?_
    refine rb_iload_n hC 4 dX11_feed_66 rfl ?_
    obtain ⟨s16, q17, h⟩ := rb_b1s h
    refine rb_callVv hC rb_VokX mv_X11_109 (xc_Tape_add p2 s14 _ q17) rb_obX1 rfl [.int p2] rfl rfl rfl ⟨Nat.le_of_ble_eq_true rfl, Nat.le_of_ble_eq_true rfl⟩ (Nat.le_of_ble_eq_true rfl) dX11_feed_67 ?_
    refine rb_aload_n hC 1 dX11_feed_70 rfl ?_
    refine rb_getR hC fr_X11_10_10 rb_obX0 rfl dX11_feed_71 ?_
    refine rb_iload hC 5 dX11_feed_74 rfl ?_
    obtain ⟨s18, q19, h⟩ := rb_b1s h
    refine rb_callVv hC rb_VokX mv_X11_109 (xc_Tape_add p3 s16 _ q19) rb_obX1 rfl [.int p3] rfl rfl rfl ⟨Nat.le_of_ble_eq_true rfl, Nat.le_of_ble_eq_true rfl⟩ (Nat.le_of_ble_eq_true rfl) dX11_feed_76 ?_
    refine rb_aload_n hC 1 dX11_feed_79 rfl ?_
    refine rb_getR hC fr_X11_10_10 rb_obX0 rfl dX11_feed_80 ?_
    refine rb_iload hC 6 dX11_feed_83 rfl ?_
    obtain ⟨s20, q21, h⟩ := rb_b1s h
    refine rb_callVv hC rb_VokX mv_X11_109 (xc_Tape_add p4 s18 _ q21) rb_obX1 rfl [.int p4] rfl rfl rfl ⟨Nat.le_of_ble_eq_true rfl, Nat.le_of_ble_eq_true rfl⟩ (Nat.le_of_ble_eq_true rfl) dX11_feed_85 ?_
    refine rb_aload_n hC 1 dX11_feed_88 rfl ?_
    refine rb_getR hC fr_X11_10_10 rb_obX0 rfl dX11_feed_89 ?_
    refine rb_getI hC fr_X11_106_8 rb_obX1 rfl dX11_feed_92 ?_
    cases h
    exact rb_iret hC dX11_feed_95
  · replace h := rb_ifn c11 h
    refine rb_iconst (x := (-1)) hC dX11_feed_44 (by decide) ?_
    cases h
    exact rb_iret hC dX11_feed_45
theorem xc_RP_feed (p0 : Int32) (p1 : Int32) (p2 : Int32) (p3 : Int32) (p4 : Int32) (σ : rb_St) (r : Int32) (σ9 : rb_St) (h : xf_RP_feed p0 p1 p2 p3 p4 σ = some (r, σ9)) : rb_Con rb_vX yX11_feed cX11_feed 7 (some .int) 1 (fun w => [.ref (rb_ad w 0), .int p0, .int p1, .int p2, .int p3, .int p4]) σ (fun _ => (some (.int r))) σ9 := rb_Con.of (by decide +kernel) (fun _ => Nat.le_of_ble_eq_true rfl) (fun z w hC => xk_RP_feed hC p0 p1 p2 p3 p4 σ r σ9 h)
def xf_RP_end (p0 : Int32) (σ : rb_St) : Option (Int32 × rb_St) := if p0 < 0 then some (0, σ) else if p0 ≤ (σ.1 1 1) then rb_lt (rb_sI σ 1 1 p0) (fun s3 => some (1, s3)) else some (0, σ)
set_option maxHeartbeats 4000000 in
set_option maxRecDepth 100000 in
theorem xk_RP_end {z : rb_Z} {w : rb_Wd} (hC : rb_Cx z rb_vX w RX11 cX11_end 2 (some .boolean) 0) (p0 : Int32) (σ : rb_St) (r : Int32) (σ9 : rb_St) (h : xf_RP_end p0 σ = some (r, σ9)) : rb_At z rb_vX w 2 (rb_Q z rb_vX w (some (.int r)) σ9) 0 [(0, .ref (rb_ad w 0)), (1, .int p0)] [] σ := by
  unfold xf_RP_end at h
  refine rb_iload_n hC 1 dX11_end_0 rfl ?_
  refine rb_if_lt hC 15 dX11_end_1 (by decide) (fun c1 => ?_) (fun c1 => ?_)
  · replace h := rb_ifp c1 h
    refine rb_iconst (x := 0) hC dX11_end_15 (by decide) ?_
    cases h
    exact rb_zret hC rfl dX11_end_16
  · replace h := rb_ifn c1 h
    refine rb_iload_n hC 1 dX11_end_4 rfl ?_
    refine rb_aload_n hC 0 dX11_end_5 rfl ?_
    refine rb_getR hC fr_X11_10_10 rb_obX0 rfl dX11_end_6 ?_
    refine rb_getI hC fr_X11_106_8 rb_obX1 rfl dX11_end_9 ?_
    refine rb_icmp_le hC 17 dX11_end_12 (by decide) (fun c2 => ?_) (fun c2 => ?_)
    · replace h := rb_ifp c2 h
      refine rb_aload_n hC 0 dX11_end_17 rfl ?_
      refine rb_getR hC fr_X11_10_10 rb_obX0 rfl dX11_end_18 ?_
      refine rb_iload_n hC 1 dX11_end_21 rfl ?_
      refine rb_putI hC fr_X11_106_8 ft_8_1 rb_obX1 rfl rfl rfl dX11_end_22 ?_
      obtain ⟨s3, e4, h⟩ := rb_ltE h
      refine rb_nmS e4 ?_
      refine rb_iconst (x := 1) hC dX11_end_25 (by decide) ?_
      cases h
      exact rb_zret hC rfl dX11_end_26
    · replace h := rb_ifn c2 h
      refine rb_iconst (x := 0) hC dX11_end_15 (by decide) ?_
      cases h
      exact rb_zret hC rfl dX11_end_16
theorem xc_RP_end (p0 : Int32) (σ : rb_St) (r : Int32) (σ9 : rb_St) (h : xf_RP_end p0 σ = some (r, σ9)) : rb_Con rb_vX yX11_end cX11_end 2 (some .boolean) 0 (fun w => [.ref (rb_ad w 0), .int p0]) σ (fun _ => (some (.int r))) σ9 := rb_Con.of (by decide +kernel) (fun _ => Nat.le_of_ble_eq_true rfl) (fun z w hC => xk_RP_end hC p0 σ r σ9 h)
theorem fr_X11_158_10 : rb_FR RX11 158 10 9 := ⟨RX11, TX11, 20, "RibbonPole", rfl, rb_uX11, by decide, rb_in (by decide +kernel) (by decide +kernel), Or.inl rfl⟩
theorem fr_X11_65_10 : rb_FR RX11 65 10 8 := ⟨RX11, TX11, 20, "RibbonPole", rfl, rb_uX11, by decide, rb_in (by decide +kernel) (by decide +kernel), Or.inl rfl⟩
theorem fr_X11_161_6 : rb_FR RX11 161 6 2 := ⟨RX6, TX6, 3, "RibbonPole$LawReader", rfl, rb_uX6, by decide, rb_in (by decide +kernel) (by decide +kernel), Or.inl rfl⟩
theorem me_X5_copyFrom : Cond.instanceMethod yX5_copyFrom ∈ rb_tbl ∧ Cond.selects yX5_copyFrom.cls yX5_copyFrom yX5_copyFrom ∈ rb_tbl ∧ Cond.initialized yX5_copyFrom.cls ∈ rb_tbl ∧ Cond.code yX5_copyFrom cX5_copyFrom 2 none ∈ rb_tbl ∧ rb_pn yX5_copyFrom 1 := ⟨rb_in (by decide +kernel) (by decide +kernel), rb_in (by decide +kernel) (by decide +kernel), rb_in (by decide +kernel) (by decide +kernel), rb_in (by decide +kernel) (by decide +kernel), by decide +kernel, by decide +kernel, by decide +kernel⟩
theorem mv_X11_164 : rb_MV RX11 164 yX5_copyFrom cX5_copyFrom 2 none 1 := ⟨rb_in (by decide +kernel) (by decide +kernel), me_X5_copyFrom⟩
theorem ft_10_9 : rb_Ty 10 9 .int := ⟨RX11, TX11, 20, tyX11, rfl, tyX11_ok, nmX11, rfl, by decide +kernel⟩
def xf_RP_addLaw  (σ : rb_St) : Option (Int32 × rb_St) := if (σ.1 0 9) < 4 then if rb_ib (σ.1 0 9) 4 then rb_b1 (xf_Law_copyFrom (240 + 4 * (σ.1 0 9).toNatClampNeg) σ) fun s3 => rb_lt (rb_sI s3 1 1 0) (fun s5 => rb_lt (rb_sI s5 0 9 ((s5.1 0 9) + 1)) (fun s7 => some ((s7.1 0 9) - 1, s7))) else none else some ((-1), σ)
set_option maxHeartbeats 4000000 in
set_option maxRecDepth 100000 in
theorem xk_RP_addLaw {z : rb_Z} {w : rb_Wd} (hC : rb_Cx z rb_vX w RX11 cX11_addLaw 1 (some .int) 2)  (σ : rb_St) (r : Int32) (σ9 : rb_St) (h : xf_RP_addLaw σ = some (r, σ9)) : rb_At z rb_vX w 1 (rb_Q z rb_vX w (some (.int r)) σ9) 0 [(0, .ref (rb_ad w 0))] [] σ := by
  unfold xf_RP_addLaw at h
  refine rb_aload_n hC 0 dX11_addLaw_0 rfl ?_
  refine rb_getI hC fr_X11_158_10 rb_obX0 rfl dX11_addLaw_1 ?_
  refine rb_iconst (x := 4) hC dX11_addLaw_4 (by decide) ?_
  refine rb_icmp_lt hC 10 dX11_addLaw_5 (by decide) (fun c1 => ?_) (fun c1 => ?_)
  · replace h := rb_ifp c1 h
    refine rb_aload_n hC 0 dX11_addLaw_10 rfl ?_
    refine rb_getR hC fr_X11_65_10 rb_obX0 rfl dX11_addLaw_11 ?_
    refine rb_aload_n hC 0 dX11_addLaw_14 rfl ?_
    refine rb_getI hC fr_X11_158_10 rb_obX0 rfl dX11_addLaw_15 ?_
    obtain ⟨g2, h⟩ := rb_gd h
    refine rb_aald hC rb_rrX230 (fun _ => rfl) (rb_ibI g2) dX11_addLaw_18 ?_
    refine rb_aload_n hC 0 dX11_addLaw_19 rfl ?_
    refine rb_getR hC fr_X11_28_10 rb_obX0 rfl dX11_addLaw_20 ?_
    refine rb_getR hC fr_X11_161_6 rb_obX7 rfl dX11_addLaw_23 ?_
    obtain ⟨s3, q4, h⟩ := rb_b1s h
    refine rb_callVv hC rb_VokX mv_X11_164 (xc_Law_copyFrom (240 + 4 * (σ.1 0 9).toNatClampNeg) (rb_isLaw_of g2) σ _ q4) (rb_obLaw (rb_isLaw_of g2)) rfl [.ref (rb_ad w 8)] rfl rfl rfl ⟨Nat.le_of_ble_eq_true rfl, Nat.le_of_ble_eq_true rfl⟩ (Nat.le_of_ble_eq_true rfl) dX11_addLaw_26 ?_
    refine rb_aload_n hC 0 dX11_addLaw_29 rfl ?_
    refine rb_getR hC fr_X11_10_10 rb_obX0 rfl dX11_addLaw_30 ?_
    refine rb_iconst (x := 0) hC dX11_addLaw_33 (by decide) ?_
    refine rb_putI hC fr_X11_106_8 ft_8_1 rb_obX1 rfl rfl rfl dX11_addLaw_34 ?_
    obtain ⟨s5, e6, h⟩ := rb_ltE h
    refine rb_nmS e6 ?_
    refine rb_aload_n hC 0 dX11_addLaw_37 rfl ?_
    refine rb_dup hC dX11_addLaw_38 rfl ?_
    refine rb_getI hC fr_X11_158_10 rb_obX0 rfl dX11_addLaw_39 ?_
    refine rb_iconst (x := 1) hC dX11_addLaw_42 (by decide) ?_
    refine rb_iadd hC dX11_addLaw_43 ?_
    refine rb_putI hC fr_X11_158_10 ft_10_9 rb_obX0 rfl rfl rfl dX11_addLaw_44 ?_
    obtain ⟨s7, e8, h⟩ := rb_ltE h
    refine rb_nmS e8 ?_
    refine rb_aload_n hC 0 dX11_addLaw_47 rfl ?_
    refine rb_getI hC fr_X11_158_10 rb_obX0 rfl dX11_addLaw_48 ?_
    refine rb_iconst (x := 1) hC dX11_addLaw_51 (by decide) ?_
    refine rb_isub hC dX11_addLaw_52 ?_
    cases h
    exact rb_iret hC dX11_addLaw_53
  · replace h := rb_ifn c1 h
    refine rb_iconst (x := (-1)) hC dX11_addLaw_8 (by decide) ?_
    cases h
    exact rb_iret hC dX11_addLaw_9
theorem xc_RP_addLaw  (σ : rb_St) (r : Int32) (σ9 : rb_St) (h : xf_RP_addLaw σ = some (r, σ9)) : rb_Con rb_vX yX11_addLaw cX11_addLaw 1 (some .int) 2 (fun w => [.ref (rb_ad w 0)]) σ (fun _ => (some (.int r))) σ9 := rb_Con.of (by decide +kernel) (fun _ => Nat.le_of_ble_eq_true rfl) (fun z w hC => xk_RP_addLaw hC  σ r σ9 h)
theorem fr_X11_167_10 : rb_FR RX11 167 10 12 := ⟨RX11, TX11, 20, "RibbonPole", rfl, rb_uX11, by decide, rb_in (by decide +kernel) (by decide +kernel), Or.inl rfl⟩
theorem fr_X11_75_10 : rb_FR RX11 75 10 11 := ⟨RX11, TX11, 20, "RibbonPole", rfl, rb_uX11, by decide, rb_in (by decide +kernel) (by decide +kernel), Or.inl rfl⟩
theorem fr_X11_170_2 : rb_FR RX11 170 2 2 := ⟨RX2, TX2, 3, "RibbonPole$FigureReader", rfl, rb_uX2, by decide, rb_in (by decide +kernel) (by decide +kernel), Or.inl rfl⟩
theorem me_X1_copyFrom : Cond.instanceMethod yX1_copyFrom ∈ rb_tbl ∧ Cond.selects yX1_copyFrom.cls yX1_copyFrom yX1_copyFrom ∈ rb_tbl ∧ Cond.initialized yX1_copyFrom.cls ∈ rb_tbl ∧ Cond.code yX1_copyFrom cX1_copyFrom 2 none ∈ rb_tbl ∧ rb_pn yX1_copyFrom 1 := ⟨rb_in (by decide +kernel) (by decide +kernel), rb_in (by decide +kernel) (by decide +kernel), rb_in (by decide +kernel) (by decide +kernel), rb_in (by decide +kernel) (by decide +kernel), by decide +kernel, by decide +kernel, by decide +kernel⟩
theorem mv_X11_173 : rb_MV RX11 173 yX1_copyFrom cX1_copyFrom 2 none 1 := ⟨rb_in (by decide +kernel) (by decide +kernel), me_X1_copyFrom⟩
theorem ft_10_12 : rb_Ty 10 12 .int := ⟨RX11, TX11, 20, tyX11, rfl, tyX11_ok, nmX11, rfl, by decide +kernel⟩
def xf_RP_addFigure  (σ : rb_St) : Option (Int32 × rb_St) := if (σ.1 0 12) < 6 then if rb_ib (σ.1 0 12) 6 then rb_b1 (xf_Fig_copyFrom (256 + 2 * (σ.1 0 12).toNatClampNeg) σ) fun s3 => rb_lt (rb_sI s3 1 1 0) (fun s5 => rb_lt (rb_sI s5 0 12 ((s5.1 0 12) + 1)) (fun s7 => some ((s7.1 0 12) - 1, s7))) else none else some ((-1), σ)
set_option maxHeartbeats 4000000 in
set_option maxRecDepth 100000 in
theorem xk_RP_addFigure {z : rb_Z} {w : rb_Wd} (hC : rb_Cx z rb_vX w RX11 cX11_addFigure 1 (some .int) 2)  (σ : rb_St) (r : Int32) (σ9 : rb_St) (h : xf_RP_addFigure σ = some (r, σ9)) : rb_At z rb_vX w 1 (rb_Q z rb_vX w (some (.int r)) σ9) 0 [(0, .ref (rb_ad w 0))] [] σ := by
  unfold xf_RP_addFigure at h
  refine rb_aload_n hC 0 dX11_addFigure_0 rfl ?_
  refine rb_getI hC fr_X11_167_10 rb_obX0 rfl dX11_addFigure_1 ?_
  refine rb_bipush (x := 6) hC dX11_addFigure_4 (by decide) ?_
  refine rb_icmp_lt hC 11 dX11_addFigure_6 (by decide) (fun c1 => ?_) (fun c1 => ?_)
  · replace h := rb_ifp c1 h
    refine rb_aload_n hC 0 dX11_addFigure_11 rfl ?_
    refine rb_getR hC fr_X11_75_10 rb_obX0 rfl dX11_addFigure_12 ?_
    refine rb_aload_n hC 0 dX11_addFigure_15 rfl ?_
    refine rb_getI hC fr_X11_167_10 rb_obX0 rfl dX11_addFigure_16 ?_
    obtain ⟨g2, h⟩ := rb_gd h
    refine rb_aald hC rb_rrX231 (fun _ => rfl) (rb_ibI g2) dX11_addFigure_19 ?_
    refine rb_aload_n hC 0 dX11_addFigure_20 rfl ?_
    refine rb_getR hC fr_X11_35_10 rb_obX0 rfl dX11_addFigure_21 ?_
    refine rb_getR hC fr_X11_170_2 rb_obX12 rfl dX11_addFigure_24 ?_
    obtain ⟨s3, q4, h⟩ := rb_b1s h
    refine rb_callVv hC rb_VokX mv_X11_173 (xc_Fig_copyFrom (256 + 2 * (σ.1 0 12).toNatClampNeg) (rb_isFig_of g2) σ _ q4) (rb_obFig (rb_isFig_of g2)) rfl [.ref (rb_ad w 13)] rfl rfl rfl ⟨Nat.le_of_ble_eq_true rfl, Nat.le_of_ble_eq_true rfl⟩ (Nat.le_of_ble_eq_true rfl) dX11_addFigure_27 ?_
    refine rb_aload_n hC 0 dX11_addFigure_30 rfl ?_
    refine rb_getR hC fr_X11_10_10 rb_obX0 rfl dX11_addFigure_31 ?_
    refine rb_iconst (x := 0) hC dX11_addFigure_34 (by decide) ?_
    refine rb_putI hC fr_X11_106_8 ft_8_1 rb_obX1 rfl rfl rfl dX11_addFigure_35 ?_
    obtain ⟨s5, e6, h⟩ := rb_ltE h
    refine rb_nmS e6 ?_
    refine rb_aload_n hC 0 dX11_addFigure_38 rfl ?_
    refine rb_dup hC dX11_addFigure_39 rfl ?_
    refine rb_getI hC fr_X11_167_10 rb_obX0 rfl dX11_addFigure_40 ?_
    refine rb_iconst (x := 1) hC dX11_addFigure_43 (by decide) ?_
    refine rb_iadd hC dX11_addFigure_44 ?_
    refine rb_putI hC fr_X11_167_10 ft_10_12 rb_obX0 rfl rfl rfl dX11_addFigure_45 ?_
    obtain ⟨s7, e8, h⟩ := rb_ltE h
    refine rb_nmS e8 ?_
    refine rb_aload_n hC 0 dX11_addFigure_48 rfl ?_
    refine rb_getI hC fr_X11_167_10 rb_obX0 rfl dX11_addFigure_49 ?_
    refine rb_iconst (x := 1) hC dX11_addFigure_52 (by decide) ?_
    refine rb_isub hC dX11_addFigure_53 ?_
    cases h
    exact rb_iret hC dX11_addFigure_54
  · replace h := rb_ifn c1 h
    refine rb_iconst (x := (-1)) hC dX11_addFigure_9 (by decide) ?_
    cases h
    exact rb_iret hC dX11_addFigure_10
theorem xc_RP_addFigure  (σ : rb_St) (r : Int32) (σ9 : rb_St) (h : xf_RP_addFigure σ = some (r, σ9)) : rb_Con rb_vX yX11_addFigure cX11_addFigure 1 (some .int) 2 (fun w => [.ref (rb_ad w 0)]) σ (fun _ => (some (.int r))) σ9 := rb_Con.of (by decide +kernel) (fun _ => Nat.le_of_ble_eq_true rfl) (fun z w hC => xk_RP_addFigure hC  σ r σ9 h)
theorem fr_X11_42_10 : rb_FR RX11 42 10 4 := ⟨RX11, TX11, 20, "RibbonPole", rfl, rb_uX11, by decide, rb_in (by decide +kernel) (by decide +kernel), Or.inl rfl⟩
theorem fr_X11_155_3 : rb_FR RX11 155 3 2 := ⟨RX3, TX3, 3, "RibbonPole$Green", rfl, rb_uX3, by decide, rb_in (by decide +kernel) (by decide +kernel), Or.inl rfl⟩
def xf_RP_hasGreen  (σ : rb_St) : Int32 := if (σ.1 15 2) ≤ 0 then 0 else 1
set_option maxHeartbeats 4000000 in
set_option maxRecDepth 100000 in
theorem xk_RP_hasGreen {z : rb_Z} {w : rb_Wd} (hC : rb_Cx z rb_vX w RX11 cX11_hasGreen 1 (some .boolean) 0)  (σ : rb_St) (r : Int32) (h : xf_RP_hasGreen σ = r) : rb_At z rb_vX w 1 (rb_Q z rb_vX w (some (.int r)) σ) 0 [(0, .ref (rb_ad w 0))] [] σ := by
  unfold xf_RP_hasGreen at h
  refine rb_aload_n hC 0 dX11_hasGreen_0 rfl ?_
  refine rb_getR hC fr_X11_42_10 rb_obX0 rfl dX11_hasGreen_1 ?_
  refine rb_getI hC fr_X11_155_3 rb_obX15 rfl dX11_hasGreen_4 ?_
  refine rb_if_le hC 14 dX11_hasGreen_7 (by decide) (fun c1 => ?_) (fun c1 => ?_)
  · replace h := rb_ifp c1 h
    refine rb_iconst (x := 0) hC dX11_hasGreen_14 (by decide) ?_
    subst h
    exact rb_zret hC rfl dX11_hasGreen_15
  · replace h := rb_ifn c1 h
    refine rb_iconst (x := 1) hC dX11_hasGreen_10 (by decide) ?_
    refine rb_goto hC 15 dX11_hasGreen_11 (by decide) ?_
    subst h
    exact rb_zret hC rfl dX11_hasGreen_15
theorem xc_RP_hasGreen  (σ : rb_St) (r : Int32) (h : xf_RP_hasGreen σ = r) : rb_Con rb_vX yX11_hasGreen cX11_hasGreen 1 (some .boolean) 0 (fun w => [.ref (rb_ad w 0)]) σ (fun _ => (some (.int r))) σ := rb_Con.of (by decide +kernel) (fun _ => Nat.le_of_ble_eq_true rfl) (fun z w hC => xk_RP_hasGreen hC  σ r h)
def xf_RP_isDancer (p0 : Int32) (σ : rb_St) : Int32 := if p0 < 0 then 0 else if (σ.1 15 2) ≤ p0 then 0 else 1
set_option maxHeartbeats 4000000 in
set_option maxRecDepth 100000 in
theorem xk_RP_isDancer {z : rb_Z} {w : rb_Wd} (hC : rb_Cx z rb_vX w RX11 cX11_isDancer 2 (some .boolean) 0) (p0 : Int32) (σ : rb_St) (r : Int32) (h : xf_RP_isDancer p0 σ = r) : rb_At z rb_vX w 2 (rb_Q z rb_vX w (some (.int r)) σ) 0 [(0, .ref (rb_ad w 0)), (1, .int p0)] [] σ := by
  unfold xf_RP_isDancer at h
  refine rb_iload_n hC 1 dX11_isDancer_0 rfl ?_
  refine rb_if_lt hC 19 dX11_isDancer_1 (by decide) (fun c1 => ?_) (fun c1 => ?_)
  · replace h := rb_ifp c1 h
    refine rb_iconst (x := 0) hC dX11_isDancer_19 (by decide) ?_
    subst h
    exact rb_zret hC rfl dX11_isDancer_20
  · replace h := rb_ifn c1 h
    refine rb_iload_n hC 1 dX11_isDancer_4 rfl ?_
    refine rb_aload_n hC 0 dX11_isDancer_5 rfl ?_
    refine rb_getR hC fr_X11_42_10 rb_obX0 rfl dX11_isDancer_6 ?_
    refine rb_getI hC fr_X11_155_3 rb_obX15 rfl dX11_isDancer_9 ?_
    refine rb_icmp_ge hC 19 dX11_isDancer_12 (by decide) (fun c2 => ?_) (fun c2 => ?_)
    · replace h := rb_ifp c2 h
      refine rb_iconst (x := 0) hC dX11_isDancer_19 (by decide) ?_
      subst h
      exact rb_zret hC rfl dX11_isDancer_20
    · replace h := rb_ifn c2 h
      refine rb_iconst (x := 1) hC dX11_isDancer_15 (by decide) ?_
      refine rb_goto hC 20 dX11_isDancer_16 (by decide) ?_
      subst h
      exact rb_zret hC rfl dX11_isDancer_20
theorem xc_RP_isDancer (p0 : Int32) (σ : rb_St) (r : Int32) (h : xf_RP_isDancer p0 σ = r) : rb_Con rb_vX yX11_isDancer cX11_isDancer 2 (some .boolean) 0 (fun w => [.ref (rb_ad w 0), .int p0]) σ (fun _ => (some (.int r))) σ := rb_Con.of (by decide +kernel) (fun _ => Nat.le_of_ble_eq_true rfl) (fun z w hC => xk_RP_isDancer hC p0 σ r h)
def xf_RP_isFigure (p0 : Int32) (σ : rb_St) : Int32 := if p0 < 0 then 0 else if (σ.1 0 12) ≤ p0 then 0 else 1
set_option maxHeartbeats 4000000 in
set_option maxRecDepth 100000 in
theorem xk_RP_isFigure {z : rb_Z} {w : rb_Wd} (hC : rb_Cx z rb_vX w RX11 cX11_isFigure 2 (some .boolean) 0) (p0 : Int32) (σ : rb_St) (r : Int32) (h : xf_RP_isFigure p0 σ = r) : rb_At z rb_vX w 2 (rb_Q z rb_vX w (some (.int r)) σ) 0 [(0, .ref (rb_ad w 0)), (1, .int p0)] [] σ := by
  unfold xf_RP_isFigure at h
  refine rb_iload_n hC 1 dX11_isFigure_0 rfl ?_
  refine rb_if_lt hC 16 dX11_isFigure_1 (by decide) (fun c1 => ?_) (fun c1 => ?_)
  · replace h := rb_ifp c1 h
    refine rb_iconst (x := 0) hC dX11_isFigure_16 (by decide) ?_
    subst h
    exact rb_zret hC rfl dX11_isFigure_17
  · replace h := rb_ifn c1 h
    refine rb_iload_n hC 1 dX11_isFigure_4 rfl ?_
    refine rb_aload_n hC 0 dX11_isFigure_5 rfl ?_
    refine rb_getI hC fr_X11_167_10 rb_obX0 rfl dX11_isFigure_6 ?_
    refine rb_icmp_ge hC 16 dX11_isFigure_9 (by decide) (fun c2 => ?_) (fun c2 => ?_)
    · replace h := rb_ifp c2 h
      refine rb_iconst (x := 0) hC dX11_isFigure_16 (by decide) ?_
      subst h
      exact rb_zret hC rfl dX11_isFigure_17
    · replace h := rb_ifn c2 h
      refine rb_iconst (x := 1) hC dX11_isFigure_12 (by decide) ?_
      refine rb_goto hC 17 dX11_isFigure_13 (by decide) ?_
      subst h
      exact rb_zret hC rfl dX11_isFigure_17
theorem xc_RP_isFigure (p0 : Int32) (σ : rb_St) (r : Int32) (h : xf_RP_isFigure p0 σ = r) : rb_Con rb_vX yX11_isFigure cX11_isFigure 2 (some .boolean) 0 (fun w => [.ref (rb_ad w 0), .int p0]) σ (fun _ => (some (.int r))) σ := rb_Con.of (by decide +kernel) (fun _ => Nat.le_of_ble_eq_true rfl) (fun z w hC => xk_RP_isFigure hC p0 σ r h)
theorem me_X11_hasGreen : Cond.instanceMethod yX11_hasGreen ∈ rb_tbl ∧ Cond.selects yX11_hasGreen.cls yX11_hasGreen yX11_hasGreen ∈ rb_tbl ∧ Cond.initialized yX11_hasGreen.cls ∈ rb_tbl ∧ Cond.code yX11_hasGreen cX11_hasGreen 1 (some .boolean) ∈ rb_tbl ∧ rb_pn yX11_hasGreen 0 := ⟨rb_in (by decide +kernel) (by decide +kernel), rb_in (by decide +kernel) (by decide +kernel), rb_in (by decide +kernel) (by decide +kernel), rb_in (by decide +kernel) (by decide +kernel), by decide +kernel, by decide +kernel, by decide +kernel⟩
theorem mv_X11_176 : rb_MV RX11 176 yX11_hasGreen cX11_hasGreen 1 (some .boolean) 0 := ⟨rb_in (by decide +kernel) (by decide +kernel), me_X11_hasGreen⟩
theorem me_X3_tight : Cond.instanceMethod yX3_tight ∈ rb_tbl ∧ Cond.selects yX3_tight.cls yX3_tight yX3_tight ∈ rb_tbl ∧ Cond.initialized yX3_tight.cls ∈ rb_tbl ∧ Cond.code yX3_tight cX3_tight 1 (some .int) ∈ rb_tbl ∧ rb_pn yX3_tight 0 := ⟨rb_in (by decide +kernel) (by decide +kernel), rb_in (by decide +kernel) (by decide +kernel), rb_in (by decide +kernel) (by decide +kernel), rb_in (by decide +kernel) (by decide +kernel), by decide +kernel, by decide +kernel, by decide +kernel⟩
theorem mv_X11_179 : rb_MV RX11 179 yX3_tight cX3_tight 1 (some .int) 0 := ⟨rb_in (by decide +kernel) (by decide +kernel), me_X3_tight⟩
theorem fr_X11_49_10 : rb_FR RX11 49 10 5 := ⟨RX11, TX11, 20, "RibbonPole", rfl, rb_uX11, by decide, rb_in (by decide +kernel) (by decide +kernel), Or.inl rfl⟩
theorem fr_X11_182_7 : rb_FR RX11 182 7 2 := ⟨RX7, TX7, 8, "RibbonPole$Pole", rfl, rb_uX7, by decide, rb_in (by decide +kernel) (by decide +kernel), Or.inl rfl⟩
theorem me_X3_wind : Cond.instanceMethod yX3_wind ∈ rb_tbl ∧ Cond.selects yX3_wind.cls yX3_wind yX3_wind ∈ rb_tbl ∧ Cond.initialized yX3_wind.cls ∈ rb_tbl ∧ Cond.code yX3_wind cX3_wind 1 (some .int) ∈ rb_tbl ∧ rb_pn yX3_wind 0 := ⟨rb_in (by decide +kernel) (by decide +kernel), rb_in (by decide +kernel) (by decide +kernel), rb_in (by decide +kernel) (by decide +kernel), rb_in (by decide +kernel) (by decide +kernel), by decide +kernel, by decide +kernel, by decide +kernel⟩
theorem mv_X11_185 : rb_MV RX11 185 yX3_wind cX3_wind 1 (some .int) 0 := ⟨rb_in (by decide +kernel) (by decide +kernel), me_X3_wind⟩
def xf_RP_rule (p0 : Int32) (σ : rb_St) : Int32 := if (xf_RP_hasGreen σ) = 0 then (-1) else if p0 = 0 then xf_Green_tight σ else if p0 = 1 then σ.1 18 2 else if p0 = 2 then xf_Green_wind σ else (-1)
set_option maxHeartbeats 4000000 in
set_option maxRecDepth 100000 in
theorem xk_RP_rule {z : rb_Z} {w : rb_Wd} (hC : rb_Cx z rb_vX w RX11 cX11_rule 2 (some .int) 1) (p0 : Int32) (σ : rb_St) (r : Int32) (h : xf_RP_rule p0 σ = r) : rb_At z rb_vX w 2 (rb_Q z rb_vX w (some (.int r)) σ) 0 [(0, .ref (rb_ad w 0)), (1, .int p0)] [] σ := by
  unfold xf_RP_rule at h
  refine rb_aload_n hC 0 dX11_rule_0 rfl ?_
  refine rb_callVi hC rb_VokX mv_X11_176 (xc_RP_hasGreen  σ _ rfl) rb_obX0 rfl [] rfl rfl rfl ⟨Nat.le_of_ble_eq_true rfl, Nat.le_of_ble_eq_true rfl⟩ (Nat.le_of_ble_eq_true rfl) dX11_rule_1 ?_
  refine rb_if_ne hC 9 dX11_rule_4 (by decide) (fun c1 => ?_) (fun c1 => ?_)
  · replace h := rb_ifn c1 h
    refine rb_iload_n hC 1 dX11_rule_9 rfl ?_
    by_cases c10_0 : p0 = 0
    · replace h := rb_ifp c10_0 h
      refine rb_tableIn hC 36 dX11_rule_10 (by rw [c10_0]; decide) (by rw [c10_0]; decide) (by rw [c10_0]; rfl) (by decide) ?_
      refine rb_aload_n hC 0 dX11_rule_36 rfl ?_
      refine rb_getR hC fr_X11_42_10 rb_obX0 rfl dX11_rule_37 ?_
      refine rb_callVi hC rb_VokX mv_X11_179 (xc_Green_tight  σ _ rfl) rb_obX15 rfl [] rfl rfl rfl ⟨Nat.le_of_ble_eq_true rfl, Nat.le_of_ble_eq_true rfl⟩ (Nat.le_of_ble_eq_true rfl) dX11_rule_40 ?_
      subst h
      exact rb_iret hC dX11_rule_43
    · replace h := rb_ifn c10_0 h
      by_cases c10_1 : p0 = 1
      · replace h := rb_ifp c10_1 h
        refine rb_tableIn hC 44 dX11_rule_10 (by rw [c10_1]; decide) (by rw [c10_1]; decide) (by rw [c10_1]; rfl) (by decide) ?_
        refine rb_aload_n hC 0 dX11_rule_44 rfl ?_
        refine rb_getR hC fr_X11_49_10 rb_obX0 rfl dX11_rule_45 ?_
        refine rb_getI hC fr_X11_182_7 (rb_obPole rb_isPole18) rfl dX11_rule_48 ?_
        subst h
        exact rb_iret hC dX11_rule_51
      · replace h := rb_ifn c10_1 h
        by_cases c10_2 : p0 = 2
        · replace h := rb_ifp c10_2 h
          refine rb_tableIn hC 52 dX11_rule_10 (by rw [c10_2]; decide) (by rw [c10_2]; decide) (by rw [c10_2]; rfl) (by decide) ?_
          refine rb_aload_n hC 0 dX11_rule_52 rfl ?_
          refine rb_getR hC fr_X11_42_10 rb_obX0 rfl dX11_rule_53 ?_
          refine rb_callVi hC rb_VokX mv_X11_185 (xc_Green_wind  σ _ rfl) rb_obX15 rfl [] rfl rfl rfl ⟨Nat.le_of_ble_eq_true rfl, Nat.le_of_ble_eq_true rfl⟩ (Nat.le_of_ble_eq_true rfl) dX11_rule_56 ?_
          subst h
          exact rb_iret hC dX11_rule_59
        · replace h := rb_ifn c10_2 h
          have hO : p0.toInt < 0 ∨ 2 < p0.toInt := by
            have n0 : p0.toInt ≠ 0 := fun q3 => c10_0 (Int32.toInt_inj.mp (q3.trans (by decide)))
            have n1 : p0.toInt ≠ 1 := fun q3 => c10_1 (Int32.toInt_inj.mp (q3.trans (by decide)))
            have n2 : p0.toInt ≠ 2 := fun q3 => c10_2 (Int32.toInt_inj.mp (q3.trans (by decide)))
            omega
          refine rb_tableOut hC 60 dX11_rule_10 hO (by decide) ?_
          refine rb_iconst (x := (-1)) hC dX11_rule_60 (by decide) ?_
          subst h
          exact rb_iret hC dX11_rule_61
  · replace h := rb_ifp c1 h
    refine rb_iconst (x := (-1)) hC dX11_rule_7 (by decide) ?_
    subst h
    exact rb_iret hC dX11_rule_8
theorem xc_RP_rule (p0 : Int32) (σ : rb_St) (r : Int32) (h : xf_RP_rule p0 σ = r) : rb_Con rb_vX yX11_rule cX11_rule 2 (some .int) 1 (fun w => [.ref (rb_ad w 0), .int p0]) σ (fun _ => (some (.int r))) σ := rb_Con.of (by decide +kernel) (fun _ => Nat.le_of_ble_eq_true rfl) (fun z w hC => xk_RP_rule hC p0 σ r h)
theorem mv_X11_211 : rb_MV RX11 211 yX7_hasPlace cX7_hasPlace 2 (some .boolean) 1 := ⟨rb_in (by decide +kernel) (by decide +kernel), me_X7_hasPlace⟩
theorem fr_X11_214_7 : rb_FR RX11 214 7 4 := ⟨RX7, TX7, 8, "RibbonPole$Pole", rfl, rb_uX7, by decide, rb_in (by decide +kernel) (by decide +kernel), Or.inl rfl⟩
def xf_RP_stands (p0 : Int32) (σ : rb_St) : Option Int32 := if (xf_Pole_hasPlace 18 p0 σ) = 0 then some (-1) else if rb_ib p0 8 then some (σ.1 (18 + 1) p0.toNatClampNeg) else none
set_option maxHeartbeats 4000000 in
set_option maxRecDepth 100000 in
theorem xk_RP_stands {z : rb_Z} {w : rb_Wd} (hC : rb_Cx z rb_vX w RX11 cX11_stands 2 (some .int) 1) (p0 : Int32) (σ : rb_St) (r : Int32) (h : xf_RP_stands p0 σ = some r) : rb_At z rb_vX w 2 (rb_Q z rb_vX w (some (.int r)) σ) 0 [(0, .ref (rb_ad w 0)), (1, .int p0)] [] σ := by
  unfold xf_RP_stands at h
  refine rb_aload_n hC 0 dX11_stands_0 rfl ?_
  refine rb_getR hC fr_X11_49_10 rb_obX0 rfl dX11_stands_1 ?_
  refine rb_iload_n hC 1 dX11_stands_4 rfl ?_
  refine rb_callVi hC rb_VokX mv_X11_211 (xc_Pole_hasPlace 18 rb_isPole18 p0 σ _ rfl) (rb_obPole rb_isPole18) rfl [.int p0] rfl rfl rfl ⟨Nat.le_of_ble_eq_true rfl, Nat.le_of_ble_eq_true rfl⟩ (Nat.le_of_ble_eq_true rfl) dX11_stands_5 ?_
  refine rb_if_eq hC 23 dX11_stands_8 (by decide) (fun c1 => ?_) (fun c1 => ?_)
  · replace h := rb_ifp c1 h
    refine rb_iconst (x := (-1)) hC dX11_stands_23 (by decide) ?_
    cases h
    exact rb_iret hC dX11_stands_24
  · replace h := rb_ifn c1 h
    refine rb_aload_n hC 0 dX11_stands_11 rfl ?_
    refine rb_getR hC fr_X11_49_10 rb_obX0 rfl dX11_stands_12 ?_
    refine rb_getR hC fr_X11_214_7 (rb_obPole rb_isPole18) rfl dX11_stands_15 ?_
    refine rb_iload_n hC 1 dX11_stands_18 rfl ?_
    obtain ⟨g2, h⟩ := rb_gd h
    refine rb_iald hC (rb_arPole1 rb_isPole18) (rb_ibI g2) dX11_stands_19 ?_
    refine rb_goto hC 24 dX11_stands_20 (by decide) ?_
    cases h
    exact rb_iret hC dX11_stands_24
theorem xc_RP_stands (p0 : Int32) (σ : rb_St) (r : Int32) (h : xf_RP_stands p0 σ = some r) : rb_Con rb_vX yX11_stands cX11_stands 2 (some .int) 1 (fun w => [.ref (rb_ad w 0), .int p0]) σ (fun _ => (some (.int r))) σ := rb_Con.of (by decide +kernel) (fun _ => Nat.le_of_ble_eq_true rfl) (fun z w hC => xk_RP_stands hC p0 σ r h)
theorem fr_X11_69_10 : rb_FR RX11 69 10 10 := ⟨RX11, TX11, 20, "RibbonPole", rfl, rb_uX11, by decide, rb_in (by decide +kernel) (by decide +kernel), Or.inl rfl⟩
theorem ft_10_10 : rb_Ty 10 10 .int := ⟨RX11, TX11, 20, tyX11, rfl, tyX11_ok, nmX11, rfl, by decide +kernel⟩
def xf_RP_law (p0 : Int32) (σ : rb_St) : Option (Int32 × rb_St) := if p0 < (-1) then some (0, σ) else if p0 < (σ.1 0 9) then rb_lt (rb_sI σ 0 10 p0) (fun s3 => some (1, s3)) else some (0, σ)
set_option maxHeartbeats 4000000 in
set_option maxRecDepth 100000 in
theorem xk_RP_law {z : rb_Z} {w : rb_Wd} (hC : rb_Cx z rb_vX w RX11 cX11_law 2 (some .boolean) 0) (p0 : Int32) (σ : rb_St) (r : Int32) (σ9 : rb_St) (h : xf_RP_law p0 σ = some (r, σ9)) : rb_At z rb_vX w 2 (rb_Q z rb_vX w (some (.int r)) σ9) 0 [(0, .ref (rb_ad w 0)), (1, .int p0)] [] σ := by
  unfold xf_RP_law at h
  refine rb_iload_n hC 1 dX11_law_0 rfl ?_
  refine rb_iconst (x := (-1)) hC dX11_law_1 (by decide) ?_
  refine rb_icmp_lt hC 13 dX11_law_2 (by decide) (fun c1 => ?_) (fun c1 => ?_)
  · replace h := rb_ifp c1 h
    refine rb_iconst (x := 0) hC dX11_law_13 (by decide) ?_
    cases h
    exact rb_zret hC rfl dX11_law_14
  · replace h := rb_ifn c1 h
    refine rb_iload_n hC 1 dX11_law_5 rfl ?_
    refine rb_aload_n hC 0 dX11_law_6 rfl ?_
    refine rb_getI hC fr_X11_158_10 rb_obX0 rfl dX11_law_7 ?_
    refine rb_icmp_lt hC 15 dX11_law_10 (by decide) (fun c2 => ?_) (fun c2 => ?_)
    · replace h := rb_ifp c2 h
      refine rb_aload_n hC 0 dX11_law_15 rfl ?_
      refine rb_iload_n hC 1 dX11_law_16 rfl ?_
      refine rb_putI hC fr_X11_69_10 ft_10_10 rb_obX0 rfl rfl rfl dX11_law_17 ?_
      obtain ⟨s3, e4, h⟩ := rb_ltE h
      refine rb_nmS e4 ?_
      refine rb_iconst (x := 1) hC dX11_law_20 (by decide) ?_
      cases h
      exact rb_zret hC rfl dX11_law_21
    · replace h := rb_ifn c2 h
      refine rb_iconst (x := 0) hC dX11_law_13 (by decide) ?_
      cases h
      exact rb_zret hC rfl dX11_law_14
theorem xc_RP_law (p0 : Int32) (σ : rb_St) (r : Int32) (σ9 : rb_St) (h : xf_RP_law p0 σ = some (r, σ9)) : rb_Con rb_vX yX11_law cX11_law 2 (some .boolean) 0 (fun w => [.ref (rb_ad w 0), .int p0]) σ (fun _ => (some (.int r))) σ9 := rb_Con.of (by decide +kernel) (fun _ => Nat.le_of_ble_eq_true rfl) (fun z w hC => xk_RP_law hC p0 σ r σ9 h)
