theorem me_X10_fewest : Cond.instanceMethod yX10_fewest ∈ rb_tbl ∧ Cond.selects yX10_fewest.cls yX10_fewest yX10_fewest ∈ rb_tbl ∧ Cond.initialized yX10_fewest.cls ∈ rb_tbl ∧ Cond.code yX10_fewest cX10_fewest 5 (some .int) ∈ rb_tbl ∧ rb_pn yX10_fewest 0 := ⟨rb_in (by decide +kernel) (by decide +kernel), rb_in (by decide +kernel) (by decide +kernel), rb_in (by decide +kernel) (by decide +kernel), rb_in (by decide +kernel) (by decide +kernel), by decide +kernel, by decide +kernel, by decide +kernel⟩
theorem mv_X10_63 : rb_MV RX10 63 yX10_fewest cX10_fewest 5 (some .int) 0 := ⟨rb_in (by decide +kernel) (by decide +kernel), me_X10_fewest⟩
theorem me_X10_change : Cond.instanceMethod yX10_change ∈ rb_tbl ∧ Cond.selects yX10_change.cls yX10_change yX10_change ∈ rb_tbl ∧ Cond.initialized yX10_change.cls ∈ rb_tbl ∧ Cond.code yX10_change cX10_change 4 none ∈ rb_tbl ∧ rb_pn yX10_change 1 := ⟨rb_in (by decide +kernel) (by decide +kernel), rb_in (by decide +kernel) (by decide +kernel), rb_in (by decide +kernel) (by decide +kernel), rb_in (by decide +kernel) (by decide +kernel), by decide +kernel, by decide +kernel, by decide +kernel⟩
theorem mv_X10_67 : rb_MV RX10 67 yX10_change cX10_change 4 none 1 := ⟨rb_in (by decide +kernel) (by decide +kernel), me_X10_change⟩
def xl_Way_firstPlace_7 (x1 : Int32) : Nat → Int32 → rb_St → Option (Nat × Int32 × rb_St)
  | 0, _, _ => none
  | n + 1, x2, σ => if (σ.1 26 0) ≤ x2 then some (1, x2, σ) else rb_b1 (xf_Way_change x2 σ) fun s5 => rb_b2 (xf_Way_fewest s5) fun r9 s7 => rb_b1 (xf_Way_change x2 s7) fun s10 => if x1 ≤ r9 then xl_Way_firstPlace_7 x1 n (x2 + 1) s10 else some (0, x2, s10)
set_option maxHeartbeats 4000000 in
set_option maxRecDepth 100000 in
theorem xt_Way_firstPlace_7 {z : rb_Z} {w : rb_Wd} {Q : State → Prop} (hC : rb_Cx z rb_vX w RX10 cX10_firstPlace 4 (some .int) 3) (x1 : Int32) : ∀ (n : Nat) (x2 : Int32) (σ : rb_St) (t : Nat) (y2 : Int32) (σ9 : rb_St), xl_Way_firstPlace_7 x1 n x2 σ = some (t, y2, σ9) → (t = 0 → rb_At z rb_vX w 4 Q 35 [(2, .int y2)] [] σ9) → (t = 1 → rb_At z rb_vX w 4 Q 43 [] [] σ9) → rb_At z rb_vX w 4 Q 7 [(0, .ref (rb_ad w 26)), (1, .int x1), (2, .int x2)] [] σ := by
  intro n
  induction n with
  | zero =>
    intro x2 σ t y2 σ9 h hE0 hE1
    cases h
  | succ n ih =>
    intro x2 σ t y2 σ9 h hE0 hE1
    rw [xl_Way_firstPlace_7] at h
    refine rb_iload_n hC 2 dX10_firstPlace_7 rfl ?_
    refine rb_aload_n hC 0 dX10_firstPlace_8 rfl ?_
    refine rb_getI hC fr_X10_27_9 rb_obX26 rfl dX10_firstPlace_9 ?_
    refine rb_icmp_ge hC 43 dX10_firstPlace_12 (by decide) (fun c4 => ?_) (fun c4 => ?_)
    · replace h := rb_ifp c4 h
      cases h
      exact rb_sub [] rfl (hE1 rfl)
    · replace h := rb_ifn c4 h
      refine rb_aload_n hC 0 dX10_firstPlace_15 rfl ?_
      refine rb_iload_n hC 2 dX10_firstPlace_16 rfl ?_
      obtain ⟨s5, q6, h⟩ := rb_b1s h
      refine rb_callVv hC rb_VokX mv_X10_67 (xc_Way_change x2 σ _ q6) rb_obX26 rfl [.int x2] rfl rfl rfl ⟨Nat.le_of_ble_eq_true rfl, Nat.le_of_ble_eq_true rfl⟩ (Nat.le_of_ble_eq_true rfl) dX10_firstPlace_17 ?_
      refine rb_aload_n hC 0 dX10_firstPlace_20 rfl ?_
      obtain ⟨r9, s7, q8, h⟩ := rb_b2s h
      refine rb_callVi hC rb_VokX mv_X10_63 (xc_Way_fewest  s5 _ _ q8) rb_obX26 rfl [] rfl rfl rfl ⟨Nat.le_of_ble_eq_true rfl, Nat.le_of_ble_eq_true rfl⟩ (Nat.le_of_ble_eq_true rfl) dX10_firstPlace_21 ?_
      refine rb_istore_n hC [(3, .int r9), (0, .ref (rb_ad w 26)), (1, .int x1), (2, .int x2)] dX10_firstPlace_24 (by decide) rfl ?_
      refine rb_aload_n hC 1 dX10_firstPlace_25 rfl ?_
      refine rb_iload_n hC 3 dX10_firstPlace_26 rfl ?_
      obtain ⟨s10, q11, h⟩ := rb_b1s h
      refine rb_callVv hC rb_VokX mv_X10_67 (xc_Way_change x2 s7 _ q11) rb_obX26 rfl [.int x2] rfl rfl rfl ⟨Nat.le_of_ble_eq_true rfl, Nat.le_of_ble_eq_true rfl⟩ (Nat.le_of_ble_eq_true rfl) dX10_firstPlace_27 ?_
      refine rb_iload_n hC 0 dX10_firstPlace_30 rfl ?_
      refine rb_iload_n hC 2 dX10_firstPlace_31 rfl ?_
      refine rb_icmp_ge hC 37 dX10_firstPlace_32 (by decide) (fun c12 => ?_) (fun c12 => ?_)
      · replace h := rb_ifp c12 h
        refine rb_iinc hC 3 [(2, .int (x2 + 1)), (3, .int r9), (0, .ref (rb_ad w 26)), (1, .int x1)] dX10_firstPlace_37 rfl rfl (by decide) rfl ?_
        refine rb_goto hC 7 dX10_firstPlace_40 (by decide) ?_
        exact rb_sub [2, 3, 0] rfl (ih (x2 + 1) s10 _ _ _ h hE0 hE1)
      · replace h := rb_ifn c12 h
        cases h
        exact rb_sub [3] rfl (hE0 rfl)
def xf_Way_firstPlace  (σ : rb_St) : Option (Int32 × rb_St) := rb_b2 (xf_Way_fewest σ) fun r3 s1 => rb_b3 (xl_Way_firstPlace_7 r3 rb_FU 0 s1) fun t13 y14 s15 => if t13 = 0 then some (y14, s15) else some ((-1), s15)
set_option maxHeartbeats 4000000 in
set_option maxRecDepth 100000 in
theorem xk_Way_firstPlace {z : rb_Z} {w : rb_Wd} (hC : rb_Cx z rb_vX w RX10 cX10_firstPlace 4 (some .int) 3)  (σ : rb_St) (r : Int32) (σ9 : rb_St) (h : xf_Way_firstPlace σ = some (r, σ9)) : rb_At z rb_vX w 4 (rb_Q z rb_vX w (some (.int r)) σ9) 0 [(0, .ref (rb_ad w 26))] [] σ := by
  unfold xf_Way_firstPlace at h
  refine rb_aload_n hC 0 dX10_firstPlace_0 rfl ?_
  obtain ⟨r3, s1, q2, h⟩ := rb_b2s h
  refine rb_callVi hC rb_VokX mv_X10_63 (xc_Way_fewest  σ _ _ q2) rb_obX26 rfl [] rfl rfl rfl ⟨Nat.le_of_ble_eq_true rfl, Nat.le_of_ble_eq_true rfl⟩ (Nat.le_of_ble_eq_true rfl) dX10_firstPlace_1 ?_
  refine rb_istore_n hC [(1, .int r3), (0, .ref (rb_ad w 26))] dX10_firstPlace_4 (by decide) rfl ?_
  refine rb_iconst (x := 0) hC dX10_firstPlace_5 (by decide) ?_
  refine rb_istore_n hC [(2, .int 0), (1, .int r3), (0, .ref (rb_ad w 26))] dX10_firstPlace_6 (by decide) rfl ?_
  obtain ⟨t13, y14, s15, q16, h⟩ := rb_b3s h
  refine rb_sub (lv2 := [(0, .ref (rb_ad w 26)), (1, .int r3), (2, .int 0)]) [2, 1, 0] rfl ?_
  refine xt_Way_firstPlace_7 hC r3 rb_FU 0 s1 _ _ _ q16 (fun ht => ?_) (fun ht => ?_)
  · subst ht
    replace h := rb_ifp rfl h
    refine rb_iload_n hC 0 dX10_firstPlace_35 rfl ?_
    cases h
    exact rb_iret hC dX10_firstPlace_36
  · subst ht
    replace h := rb_ifn (by decide) h
    refine rb_iconst (x := (-1)) hC dX10_firstPlace_43 (by decide) ?_
    cases h
    exact rb_iret hC dX10_firstPlace_44
theorem xc_Way_firstPlace  (σ : rb_St) (r : Int32) (σ9 : rb_St) (h : xf_Way_firstPlace σ = some (r, σ9)) : rb_Con rb_vX yX10_firstPlace cX10_firstPlace 4 (some .int) 3 (fun w => [.ref (rb_ad w 26)]) σ (fun _ => (some (.int r))) σ9 := rb_Con.of (by decide +kernel) (fun _ => Nat.le_of_ble_eq_true rfl) (fun z w hC => xk_Way_firstPlace hC  σ r σ9 h)
def xf_FR_readAll  (σ : rb_St) : Option (Int32 × rb_St) := rb_lt (rb_sI σ 12 1 0) (fun s1 => rb_lt (rb_sI s1 13 1 0) (fun s3 => rb_b2 (xf_FR_readRow 64 0 s3) fun r7 s5 => if r7 = 0 then some (0, s5) else rb_b2 (xf_Rd_nextSignF s5) fun r11 s9 => if r11 = (-1) then if 48 < (s9.1 13 1) then some (0, s9) else some (1, s9) else some (0, s9)))
set_option maxHeartbeats 4000000 in
set_option maxRecDepth 100000 in
theorem xk_FR_readAll {z : rb_Z} {w : rb_Wd} (hC : rb_Cx z rb_vX w RX2 cX2_readAll 1 (some .boolean) 67)  (σ : rb_St) (r : Int32) (σ9 : rb_St) (h : xf_FR_readAll σ = some (r, σ9)) : rb_At z rb_vX w 1 (rb_Q z rb_vX w (some (.int r)) σ9) 0 [(0, .ref (rb_ad w 12))] [] σ := by
  unfold xf_FR_readAll at h
  refine rb_aload_n hC 0 dX2_readAll_0 rfl ?_
  refine rb_iconst (x := 0) hC dX2_readAll_1 (by decide) ?_
  refine rb_putI hC fr_X2_20_2 ft_2_1 rb_obX12 rfl rfl rfl dX2_readAll_2 ?_
  obtain ⟨s1, e2, h⟩ := rb_ltE h
  refine rb_nmS e2 ?_
  refine rb_aload_n hC 0 dX2_readAll_5 rfl ?_
  refine rb_getR hC fr_X2_14_2 rb_obX12 rfl dX2_readAll_6 ?_
  refine rb_iconst (x := 0) hC dX2_readAll_9 (by decide) ?_
  refine rb_putI hC fr_X2_24_1 ft_1_1 rb_obX13 rfl rfl rfl dX2_readAll_10 ?_
  obtain ⟨s3, e4, h⟩ := rb_ltE h
  refine rb_nmS e4 ?_
  refine rb_aload_n hC 0 dX2_readAll_13 rfl ?_
  refine rb_iconst (x := 0) hC dX2_readAll_14 (by decide) ?_
  obtain ⟨r7, s5, q6, h⟩ := rb_b2s h
  refine rb_callVi hC rb_VokX mv_X2_27 (xc_FR_readRow 64 0 s3 _ _ q6) rb_obX12 rfl [.int 0] rfl rfl rfl ⟨Nat.le_of_ble_eq_true rfl, Nat.le_of_ble_eq_true rfl⟩ (Nat.le_of_ble_eq_true rfl) dX2_readAll_15 ?_
  refine rb_if_eq hC 45 dX2_readAll_18 (by decide) (fun c8 => ?_) (fun c8 => ?_)
  · replace h := rb_ifp c8 h
    refine rb_iconst (x := 0) hC dX2_readAll_45 (by decide) ?_
    cases h
    exact rb_zret hC rfl dX2_readAll_46
  · replace h := rb_ifn c8 h
    refine rb_aload_n hC 0 dX2_readAll_21 rfl ?_
    obtain ⟨r11, s9, q10, h⟩ := rb_b2s h
    refine rb_callUi hC rb_VokX mv_X2_31_2 (xc_Rd_nextSignF  s5 _ _ q10) rb_obX12 rfl [] rfl rfl rfl ⟨Nat.le_of_ble_eq_true rfl, Nat.le_of_ble_eq_true rfl⟩ (Nat.le_of_ble_eq_true rfl) dX2_readAll_22 ?_
    refine rb_iconst (x := (-1)) hC dX2_readAll_25 (by decide) ?_
    refine rb_icmp_ne hC 45 dX2_readAll_26 (by decide) (fun c12 => ?_) (fun c12 => ?_)
    · replace h := rb_ifn c12 h
      refine rb_iconst (x := 0) hC dX2_readAll_45 (by decide) ?_
      cases h
      exact rb_zret hC rfl dX2_readAll_46
    · replace h := rb_ifp c12 h
      refine rb_aload_n hC 0 dX2_readAll_29 rfl ?_
      refine rb_getR hC fr_X2_14_2 rb_obX12 rfl dX2_readAll_30 ?_
      refine rb_getI hC fr_X2_24_1 rb_obX13 rfl dX2_readAll_33 ?_
      refine rb_bipush (x := 48) hC dX2_readAll_36 (by decide) ?_
      refine rb_icmp_gt hC 45 dX2_readAll_38 (by decide) (fun c13 => ?_) (fun c13 => ?_)
      · replace h := rb_ifp c13 h
        refine rb_iconst (x := 0) hC dX2_readAll_45 (by decide) ?_
        cases h
        exact rb_zret hC rfl dX2_readAll_46
      · replace h := rb_ifn c13 h
        refine rb_iconst (x := 1) hC dX2_readAll_41 (by decide) ?_
        refine rb_goto hC 46 dX2_readAll_42 (by decide) ?_
        cases h
        exact rb_zret hC rfl dX2_readAll_46
theorem xc_FR_readAll  (σ : rb_St) (r : Int32) (σ9 : rb_St) (h : xf_FR_readAll σ = some (r, σ9)) : rb_Con rb_vX yX2_readAll cX2_readAll 1 (some .boolean) 67 (fun w => [.ref (rb_ad w 12)]) σ (fun _ => (some (.int r))) σ9 := rb_Con.of (by decide +kernel) (fun _ => Nat.le_of_ble_eq_true rfl) (fun z w hC => xk_FR_readAll hC  σ r σ9 h)
theorem mv_X11_255 : rb_MV RX11 255 yX7_overBy cX7_overBy 3 (some .int) 1 := ⟨rb_in (by decide +kernel) (by decide +kernel), me_X7_overBy⟩
theorem mv_X11_258 : rb_MV RX11 258 yX7_underBy cX7_underBy 2 (some .int) 1 := ⟨rb_in (by decide +kernel) (by decide +kernel), me_X7_underBy⟩
theorem mv_X11_261 : rb_MV RX11 261 yX7_layerAt cX7_layerAt 5 (some .int) 1 := ⟨rb_in (by decide +kernel) (by decide +kernel), me_X7_layerAt⟩
theorem me_X5_worth : Cond.instanceMethod yX5_worth ∈ rb_tbl ∧ Cond.selects yX5_worth.cls yX5_worth yX5_worth ∈ rb_tbl ∧ Cond.initialized yX5_worth.cls ∈ rb_tbl ∧ Cond.code yX5_worth cX5_worth 10 (some .int) ∈ rb_tbl ∧ rb_pn yX5_worth 6 := ⟨rb_in (by decide +kernel) (by decide +kernel), rb_in (by decide +kernel) (by decide +kernel), rb_in (by decide +kernel) (by decide +kernel), rb_in (by decide +kernel) (by decide +kernel), by decide +kernel, by decide +kernel, by decide +kernel⟩
theorem mv_X11_264 : rb_MV RX11 264 yX5_worth cX5_worth 10 (some .int) 6 := ⟨rb_in (by decide +kernel) (by decide +kernel), me_X5_worth⟩
def xf_RP_priceOn (k1 : Nat) (p0 : Int32) (σ : rb_St) : Option (Int32 × rb_St) := if (σ.1 0 10) < 0 then some (xf_Green_tight σ, σ) else if (σ.1 0 10) < (σ.1 0 9) then rb_b1 (xf_Pole_overBy k1 p0 σ) fun r3 => rb_b1 (xf_Green_trait r3 2 σ) fun r5 => rb_b1 (xf_Pole_underBy k1 p0 σ) fun r7 => rb_b1 (xf_Green_trait r7 2 σ) fun r9 => rb_b1 (xf_Pole_layerAt k1 (p0 >>> (1 &&& 31)) σ) fun r11 => if rb_ib (σ.1 0 10) 4 then rb_b2 (xf_Law_worth (30 + 4 * (σ.1 0 10).toNatClampNeg) (xf_Green_tight σ) r5 r9 (σ.1 k1 1) r11 ((σ.1 k1 3) - (σ.1 k1 3) / 100 * 100) σ) fun r16 s14 => some (rb_mx 1 (rb_mn 9 r16), s14) else none else some (xf_Green_tight σ, σ)
set_option maxHeartbeats 4000000 in
set_option maxRecDepth 100000 in
theorem xk_RP_priceOn {z : rb_Z} {w : rb_Wd} (hC : rb_Cx z rb_vX w RX11 cX11_priceOn 7 (some .int) 4) (k1 : Nat) (hk1 : rb_isPole k1) (p0 : Int32) (σ : rb_St) (r : Int32) (σ9 : rb_St) (h : xf_RP_priceOn k1 p0 σ = some (r, σ9)) : rb_At z rb_vX w 7 (rb_Q z rb_vX w (some (.int r)) σ9) 0 [(0, .ref (rb_ad w 0)), (1, .ref (rb_ad w k1)), (2, .int p0)] [] σ := by
  unfold xf_RP_priceOn at h
  refine rb_aload_n hC 0 dX11_priceOn_0 rfl ?_
  refine rb_getI hC fr_X11_69_10 rb_obX0 rfl dX11_priceOn_1 ?_
  refine rb_if_lt hC 18 dX11_priceOn_4 (by decide) (fun c1 => ?_) (fun c1 => ?_)
  · replace h := rb_ifp c1 h
    refine rb_aload_n hC 0 dX11_priceOn_18 rfl ?_
    refine rb_getR hC fr_X11_42_10 rb_obX0 rfl dX11_priceOn_19 ?_
    refine rb_callVi hC rb_VokX mv_X11_179 (xc_Green_tight  σ _ rfl) rb_obX15 rfl [] rfl rfl rfl ⟨Nat.le_of_ble_eq_true rfl, Nat.le_of_ble_eq_true rfl⟩ (Nat.le_of_ble_eq_true rfl) dX11_priceOn_22 ?_
    cases h
    exact rb_iret hC dX11_priceOn_25
  · replace h := rb_ifn c1 h
    refine rb_aload_n hC 0 dX11_priceOn_7 rfl ?_
    refine rb_getI hC fr_X11_69_10 rb_obX0 rfl dX11_priceOn_8 ?_
    refine rb_aload_n hC 0 dX11_priceOn_11 rfl ?_
    refine rb_getI hC fr_X11_158_10 rb_obX0 rfl dX11_priceOn_12 ?_
    refine rb_icmp_lt hC 26 dX11_priceOn_15 (by decide) (fun c2 => ?_) (fun c2 => ?_)
    · replace h := rb_ifp c2 h
      refine rb_aload_n hC 0 dX11_priceOn_26 rfl ?_
      refine rb_getR hC fr_X11_42_10 rb_obX0 rfl dX11_priceOn_27 ?_
      refine rb_aload_n hC 1 dX11_priceOn_30 rfl ?_
      refine rb_iload_n hC 2 dX11_priceOn_31 rfl ?_
      obtain ⟨r3, q4, h⟩ := rb_b1s h
      refine rb_callVi hC rb_VokX mv_X11_255 (xc_Pole_overBy k1 hk1 p0 σ _ q4) (rb_obPole hk1) rfl [.int p0] rfl rfl rfl ⟨Nat.le_of_ble_eq_true rfl, Nat.le_of_ble_eq_true rfl⟩ (Nat.le_of_ble_eq_true rfl) dX11_priceOn_32 ?_
      refine rb_iconst (x := 2) hC dX11_priceOn_35 (by decide) ?_
      obtain ⟨r5, q6, h⟩ := rb_b1s h
      refine rb_callVi hC rb_VokX mv_X11_195 (xc_Green_trait r3 2 σ _ q6) rb_obX15 rfl [.int r3, .int 2] rfl rfl rfl ⟨Nat.le_of_ble_eq_true rfl, Nat.le_of_ble_eq_true rfl⟩ (Nat.le_of_ble_eq_true rfl) dX11_priceOn_36 ?_
      refine rb_istore_n hC [(3, .int r5), (0, .ref (rb_ad w 0)), (1, .ref (rb_ad w k1)), (2, .int p0)] dX11_priceOn_39 (by decide) rfl ?_
      refine rb_aload_n hC 1 dX11_priceOn_40 rfl ?_
      refine rb_getR hC fr_X11_42_10 rb_obX0 rfl dX11_priceOn_41 ?_
      refine rb_aload_n hC 2 dX11_priceOn_44 rfl ?_
      refine rb_iload_n hC 3 dX11_priceOn_45 rfl ?_
      obtain ⟨r7, q8, h⟩ := rb_b1s h
      refine rb_callVi hC rb_VokX mv_X11_258 (xc_Pole_underBy k1 hk1 p0 σ _ q8) (rb_obPole hk1) rfl [.int p0] rfl rfl rfl ⟨Nat.le_of_ble_eq_true rfl, Nat.le_of_ble_eq_true rfl⟩ (Nat.le_of_ble_eq_true rfl) dX11_priceOn_46 ?_
      refine rb_iconst (x := 2) hC dX11_priceOn_49 (by decide) ?_
      obtain ⟨r9, q10, h⟩ := rb_b1s h
      refine rb_callVi hC rb_VokX mv_X11_195 (xc_Green_trait r7 2 σ _ q10) rb_obX15 rfl [.int r7, .int 2] rfl rfl rfl ⟨Nat.le_of_ble_eq_true rfl, Nat.le_of_ble_eq_true rfl⟩ (Nat.le_of_ble_eq_true rfl) dX11_priceOn_50 ?_
      refine rb_istore hC [(4, .int r9), (3, .int r5), (0, .ref (rb_ad w 0)), (1, .ref (rb_ad w k1)), (2, .int p0)] dX11_priceOn_53 (by decide) rfl ?_
      refine rb_aload_n hC 3 dX11_priceOn_55 rfl ?_
      refine rb_iload_n hC 4 dX11_priceOn_56 rfl ?_
      refine rb_iconst (x := 1) hC dX11_priceOn_57 (by decide) ?_
      refine rb_ishr hC dX11_priceOn_58 ?_
      obtain ⟨r11, q12, h⟩ := rb_b1s h
      refine rb_callVi hC rb_VokX mv_X11_261 (xc_Pole_layerAt k1 hk1 (p0 >>> (1 &&& 31)) σ _ q12) (rb_obPole hk1) rfl [.int (p0 >>> (1 &&& 31))] rfl rfl rfl ⟨Nat.le_of_ble_eq_true rfl, Nat.le_of_ble_eq_true rfl⟩ (Nat.le_of_ble_eq_true rfl) dX11_priceOn_59 ?_
      refine rb_istore hC [(5, .int r11), (4, .int r9), (3, .int r5), (0, .ref (rb_ad w 0)), (1, .ref (rb_ad w k1)), (2, .int p0)] dX11_priceOn_62 (by decide) rfl ?_
      refine rb_aload_n hC 3 dX11_priceOn_64 rfl ?_
      refine rb_getR hC fr_X11_65_10 rb_obX0 rfl dX11_priceOn_65 ?_
      refine rb_aload_n hC 3 dX11_priceOn_68 rfl ?_
      refine rb_getI hC fr_X11_69_10 rb_obX0 rfl dX11_priceOn_69 ?_
      obtain ⟨g13, h⟩ := rb_gd h
      refine rb_aald hC rb_rrX20 (fun _ => rfl) (rb_ibI g13) dX11_priceOn_72 ?_
      refine rb_aload_n hC 3 dX11_priceOn_73 rfl ?_
      refine rb_getR hC fr_X11_42_10 rb_obX0 rfl dX11_priceOn_74 ?_
      refine rb_callVi hC rb_VokX mv_X11_179 (xc_Green_tight  σ _ rfl) rb_obX15 rfl [] rfl rfl rfl ⟨Nat.le_of_ble_eq_true rfl, Nat.le_of_ble_eq_true rfl⟩ (Nat.le_of_ble_eq_true rfl) dX11_priceOn_77 ?_
      refine rb_iload_n hC 2 dX11_priceOn_80 rfl ?_
      refine rb_iload hC 1 dX11_priceOn_81 rfl ?_
      refine rb_aload_n hC 4 dX11_priceOn_83 rfl ?_
      refine rb_getI hC fr_X11_224_7 (rb_obPole hk1) rfl dX11_priceOn_84 ?_
      refine rb_iload hC 0 dX11_priceOn_87 rfl ?_
      refine rb_aload_n hC 4 dX11_priceOn_89 rfl ?_
      refine rb_getI hC fr_X11_250_7 (rb_obPole hk1) rfl dX11_priceOn_90 ?_
      refine rb_bipush (x := 100) hC dX11_priceOn_93 (by decide) ?_
      refine rb_irem hC dX11_priceOn_95 (by decide) ?_
      obtain ⟨r16, s14, q15, h⟩ := rb_b2s h
      refine rb_callVi hC rb_VokX mv_X11_264 (xc_Law_worth (30 + 4 * (σ.1 0 10).toNatClampNeg) (rb_isLaw_of g13) (xf_Green_tight σ) r5 r9 (σ.1 k1 1) r11 ((σ.1 k1 3) - (σ.1 k1 3) / 100 * 100) σ _ _ q15) (rb_obLaw (rb_isLaw_of g13)) rfl [.int (xf_Green_tight σ), .int r5, .int r9, .int (σ.1 k1 1), .int r11, .int ((σ.1 k1 3) - (σ.1 k1 3) / 100 * 100)] rfl rfl rfl ⟨Nat.le_of_ble_eq_true rfl, Nat.le_of_ble_eq_true rfl⟩ (Nat.le_of_ble_eq_true rfl) dX11_priceOn_96 ?_
      refine rb_istore hC [(6, .int r16), (5, .int r11), (4, .int r9), (3, .int r5), (0, .ref (rb_ad w 0)), (1, .ref (rb_ad w k1)), (2, .int p0)] dX11_priceOn_99 (by decide) rfl ?_
      refine rb_iconst (x := 1) hC dX11_priceOn_101 (by decide) ?_
      refine rb_bipush (x := 9) hC dX11_priceOn_102 (by decide) ?_
      refine rb_iload hC 0 dX11_priceOn_104 rfl ?_
      refine rb_mmin hC mk_X11_268 (by decide) dX11_priceOn_106 ?_
      refine rb_mmax hC mk_X11_273 (by decide) dX11_priceOn_109 ?_
      cases h
      exact rb_iret hC dX11_priceOn_112
    · replace h := rb_ifn c2 h
      refine rb_aload_n hC 0 dX11_priceOn_18 rfl ?_
      refine rb_getR hC fr_X11_42_10 rb_obX0 rfl dX11_priceOn_19 ?_
      refine rb_callVi hC rb_VokX mv_X11_179 (xc_Green_tight  σ _ rfl) rb_obX15 rfl [] rfl rfl rfl ⟨Nat.le_of_ble_eq_true rfl, Nat.le_of_ble_eq_true rfl⟩ (Nat.le_of_ble_eq_true rfl) dX11_priceOn_22 ?_
      cases h
      exact rb_iret hC dX11_priceOn_25
theorem xc_RP_priceOn (k1 : Nat) (hk1 : rb_isPole k1) (p0 : Int32) (σ : rb_St) (r : Int32) (σ9 : rb_St) (h : xf_RP_priceOn k1 p0 σ = some (r, σ9)) : rb_Con rb_vX yX11_priceOn cX11_priceOn 7 (some .int) 4 (fun w => [.ref (rb_ad w 0), .ref (rb_ad w k1), .int p0]) σ (fun _ => (some (.int r))) σ9 := rb_Con.of (by decide +kernel) (fun _ => Nat.le_of_ble_eq_true rfl) (fun z w hC => xk_RP_priceOn hC k1 hk1 p0 σ r σ9 h)
theorem me_X11_priceOn : Cond.instanceMethod yX11_priceOn ∈ rb_tbl ∧ Cond.selects yX11_priceOn.cls yX11_priceOn yX11_priceOn ∈ rb_tbl ∧ Cond.initialized yX11_priceOn.cls ∈ rb_tbl ∧ Cond.code yX11_priceOn cX11_priceOn 7 (some .int) ∈ rb_tbl ∧ rb_pn yX11_priceOn 2 := ⟨rb_in (by decide +kernel) (by decide +kernel), rb_in (by decide +kernel) (by decide +kernel), rb_in (by decide +kernel) (by decide +kernel), rb_in (by decide +kernel) (by decide +kernel), by decide +kernel, by decide +kernel, by decide +kernel⟩
theorem mv_X11_279 : rb_MV RX11 279 yX11_priceOn cX11_priceOn 7 (some .int) 2 := ⟨rb_in (by decide +kernel) (by decide +kernel), me_X11_priceOn⟩
theorem me_X7_hindrance : Cond.instanceMethod yX7_hindrance ∈ rb_tbl ∧ Cond.selects yX7_hindrance.cls yX7_hindrance yX7_hindrance ∈ rb_tbl ∧ Cond.initialized yX7_hindrance.cls ∈ rb_tbl ∧ Cond.code yX7_hindrance cX7_hindrance 3 (some .int) ∈ rb_tbl ∧ rb_pn yX7_hindrance 2 := ⟨rb_in (by decide +kernel) (by decide +kernel), rb_in (by decide +kernel) (by decide +kernel), rb_in (by decide +kernel) (by decide +kernel), rb_in (by decide +kernel) (by decide +kernel), by decide +kernel, by decide +kernel, by decide +kernel⟩
theorem mv_X11_283 : rb_MV RX11 283 yX7_hindrance cX7_hindrance 3 (some .int) 2 := ⟨rb_in (by decide +kernel) (by decide +kernel), me_X7_hindrance⟩
def xf_RP_hindranceOf (p0 : Int32) (σ : rb_St) : Option (Int32 × rb_St) := rb_b1 (xf_Pole_undoneBy 58 p0 σ) fun r1 => if r1 < 0 then rb_b2 (xf_RP_priceOn 58 p0 σ) fun r6 s4 => rb_b1 (xf_Pole_hindrance 58 p0 r6 s4) fun r7 => some (r7, s4) else some (0, σ)
set_option maxHeartbeats 4000000 in
set_option maxRecDepth 100000 in
theorem xk_RP_hindranceOf {z : rb_Z} {w : rb_Wd} (hC : rb_Cx z rb_vX w RX11 cX11_hindranceOf 2 (some .int) 5) (p0 : Int32) (σ : rb_St) (r : Int32) (σ9 : rb_St) (h : xf_RP_hindranceOf p0 σ = some (r, σ9)) : rb_At z rb_vX w 2 (rb_Q z rb_vX w (some (.int r)) σ9) 0 [(0, .ref (rb_ad w 0)), (1, .int p0)] [] σ := by
  unfold xf_RP_hindranceOf at h
  refine rb_aload_n hC 0 dX11_hindranceOf_0 rfl ?_
  refine rb_getR hC fr_X11_49_10 rb_obX0 rfl dX11_hindranceOf_1 ?_
  refine rb_iload_n hC 1 dX11_hindranceOf_4 rfl ?_
  obtain ⟨r1, q2, h⟩ := rb_b1s h
  refine rb_callVi hC rb_VokX mv_X11_276 (xc_Pole_undoneBy 58 rb_isPole58 p0 σ _ q2) (rb_obPole rb_isPole58) rfl [.int p0] rfl rfl rfl ⟨Nat.le_of_ble_eq_true rfl, Nat.le_of_ble_eq_true rfl⟩ (Nat.le_of_ble_eq_true rfl) dX11_hindranceOf_5 ?_
  refine rb_if_lt hC 15 dX11_hindranceOf_8 (by decide) (fun c3 => ?_) (fun c3 => ?_)
  · replace h := rb_ifp c3 h
    refine rb_aload_n hC 0 dX11_hindranceOf_15 rfl ?_
    refine rb_getR hC fr_X11_49_10 rb_obX0 rfl dX11_hindranceOf_16 ?_
    refine rb_iload_n hC 1 dX11_hindranceOf_19 rfl ?_
    refine rb_aload_n hC 0 dX11_hindranceOf_20 rfl ?_
    refine rb_aload_n hC 0 dX11_hindranceOf_21 rfl ?_
    refine rb_getR hC fr_X11_49_10 rb_obX0 rfl dX11_hindranceOf_22 ?_
    refine rb_iload_n hC 1 dX11_hindranceOf_25 rfl ?_
    obtain ⟨r6, s4, q5, h⟩ := rb_b2s h
    refine rb_callVi hC rb_VokX mv_X11_279 (xc_RP_priceOn 58 rb_isPole58 p0 σ _ _ q5) rb_obX0 rfl [.ref (rb_ad w 58), .int p0] rfl rfl rfl ⟨Nat.le_of_ble_eq_true rfl, Nat.le_of_ble_eq_true rfl⟩ (Nat.le_of_ble_eq_true rfl) dX11_hindranceOf_26 ?_
    obtain ⟨r7, q8, h⟩ := rb_b1s h
    refine rb_callVi hC rb_VokX mv_X11_283 (xc_Pole_hindrance 58 rb_isPole58 p0 r6 s4 _ q8) (rb_obPole rb_isPole58) rfl [.int p0, .int r6] rfl rfl rfl ⟨Nat.le_of_ble_eq_true rfl, Nat.le_of_ble_eq_true rfl⟩ (Nat.le_of_ble_eq_true rfl) dX11_hindranceOf_29 ?_
    cases h
    exact rb_iret hC dX11_hindranceOf_32
  · replace h := rb_ifn c3 h
    refine rb_iconst (x := 0) hC dX11_hindranceOf_11 (by decide) ?_
    refine rb_goto hC 32 dX11_hindranceOf_12 (by decide) ?_
    cases h
    exact rb_iret hC dX11_hindranceOf_32
theorem xc_RP_hindranceOf (p0 : Int32) (σ : rb_St) (r : Int32) (σ9 : rb_St) (h : xf_RP_hindranceOf p0 σ = some (r, σ9)) : rb_Con rb_vX yX11_hindranceOf cX11_hindranceOf 2 (some .int) 5 (fun w => [.ref (rb_ad w 0), .int p0]) σ (fun _ => (some (.int r))) σ9 := rb_Con.of (by decide +kernel) (fun _ => Nat.le_of_ble_eq_true rfl) (fun z w hC => xk_RP_hindranceOf hC p0 σ r σ9 h)
theorem mv_X11_289 : rb_MV RX11 289 yX7_putIn cX7_putIn 4 none 2 := ⟨rb_in (by decide +kernel) (by decide +kernel), me_X7_putIn⟩
theorem mv_X11_286 : rb_MV RX11 286 yX7_takeOut cX7_takeOut 4 none 1 := ⟨rb_in (by decide +kernel) (by decide +kernel), me_X7_takeOut⟩
def xf_RP_moveOn (k1 : Nat) (p0 : Int32) (σ : rb_St) : Option (Int32 × rb_St) := rb_b1 (xf_Pole_undoneBy k1 p0 σ) fun r1 => if r1 < 0 then rb_b2 (xf_RP_priceOn k1 p0 σ) fun r6 s4 => rb_b1 (xf_Pole_hindrance k1 p0 r6 s4) fun r7 => if r7 = 0 then rb_b1 (xf_Pole_putIn k1 p0 r6 s4) fun s10 => some (0, s10) else some (-r7, s4) else rb_b1 (xf_Pole_takeOut k1 r1 σ) fun s12 => some (1, s12)
set_option maxHeartbeats 4000000 in
set_option maxRecDepth 100000 in
theorem xk_RP_moveOn {z : rb_Z} {w : rb_Wd} (hC : rb_Cx z rb_vX w RX11 cX11_moveOn 6 (some .int) 5) (k1 : Nat) (hk1 : rb_isPole k1) (p0 : Int32) (σ : rb_St) (r : Int32) (σ9 : rb_St) (h : xf_RP_moveOn k1 p0 σ = some (r, σ9)) : rb_At z rb_vX w 6 (rb_Q z rb_vX w (some (.int r)) σ9) 0 [(0, .ref (rb_ad w 0)), (1, .ref (rb_ad w k1)), (2, .int p0)] [] σ := by
  unfold xf_RP_moveOn at h
  refine rb_aload_n hC 1 dX11_moveOn_0 rfl ?_
  refine rb_iload_n hC 2 dX11_moveOn_1 rfl ?_
  obtain ⟨r1, q2, h⟩ := rb_b1s h
  refine rb_callVi hC rb_VokX mv_X11_276 (xc_Pole_undoneBy k1 hk1 p0 σ _ q2) (rb_obPole hk1) rfl [.int p0] rfl rfl rfl ⟨Nat.le_of_ble_eq_true rfl, Nat.le_of_ble_eq_true rfl⟩ (Nat.le_of_ble_eq_true rfl) dX11_moveOn_2 ?_
  refine rb_istore_n hC [(3, .int r1), (0, .ref (rb_ad w 0)), (1, .ref (rb_ad w k1)), (2, .int p0)] dX11_moveOn_5 (by decide) rfl ?_
  refine rb_iload_n hC 0 dX11_moveOn_6 rfl ?_
  refine rb_if_lt hC 17 dX11_moveOn_7 (by decide) (fun c3 => ?_) (fun c3 => ?_)
  · replace h := rb_ifp c3 h
    refine rb_aload_n hC 1 dX11_moveOn_17 rfl ?_
    refine rb_aload_n hC 2 dX11_moveOn_18 rfl ?_
    refine rb_iload_n hC 3 dX11_moveOn_19 rfl ?_
    obtain ⟨r6, s4, q5, h⟩ := rb_b2s h
    refine rb_callVi hC rb_VokX mv_X11_279 (xc_RP_priceOn k1 hk1 p0 σ _ _ q5) rb_obX0 rfl [.ref (rb_ad w k1), .int p0] rfl rfl rfl ⟨Nat.le_of_ble_eq_true rfl, Nat.le_of_ble_eq_true rfl⟩ (Nat.le_of_ble_eq_true rfl) dX11_moveOn_20 ?_
    refine rb_istore hC [(4, .int r6), (3, .int r1), (0, .ref (rb_ad w 0)), (1, .ref (rb_ad w k1)), (2, .int p0)] dX11_moveOn_23 (by decide) rfl ?_
    refine rb_aload_n hC 3 dX11_moveOn_25 rfl ?_
    refine rb_iload_n hC 4 dX11_moveOn_26 rfl ?_
    refine rb_iload hC 0 dX11_moveOn_27 rfl ?_
    obtain ⟨r7, q8, h⟩ := rb_b1s h
    refine rb_callVi hC rb_VokX mv_X11_283 (xc_Pole_hindrance k1 hk1 p0 r6 s4 _ q8) (rb_obPole hk1) rfl [.int p0, .int r6] rfl rfl rfl ⟨Nat.le_of_ble_eq_true rfl, Nat.le_of_ble_eq_true rfl⟩ (Nat.le_of_ble_eq_true rfl) dX11_moveOn_29 ?_
    refine rb_istore hC [(5, .int r7), (4, .int r6), (3, .int r1), (0, .ref (rb_ad w 0)), (1, .ref (rb_ad w k1)), (2, .int p0)] dX11_moveOn_32 (by decide) rfl ?_
    refine rb_iload hC 0 dX11_moveOn_34 rfl ?_
    refine rb_if_eq hC 43 dX11_moveOn_36 (by decide) (fun c9 => ?_) (fun c9 => ?_)
    · replace h := rb_ifp c9 h
      refine rb_aload_n hC 4 dX11_moveOn_43 rfl ?_
      refine rb_iload_n hC 5 dX11_moveOn_44 rfl ?_
      refine rb_iload hC 1 dX11_moveOn_45 rfl ?_
      obtain ⟨s10, q11, h⟩ := rb_b1s h
      refine rb_callVv hC rb_VokX mv_X11_289 (xc_Pole_putIn k1 hk1 p0 r6 s4 _ q11) (rb_obPole hk1) rfl [.int p0, .int r6] rfl rfl rfl ⟨Nat.le_of_ble_eq_true rfl, Nat.le_of_ble_eq_true rfl⟩ (Nat.le_of_ble_eq_true rfl) dX11_moveOn_47 ?_
      refine rb_iconst (x := 0) hC dX11_moveOn_50 (by decide) ?_
      cases h
      exact rb_iret hC dX11_moveOn_51
    · replace h := rb_ifn c9 h
      refine rb_iload hC 0 dX11_moveOn_39 rfl ?_
      refine rb_ineg hC dX11_moveOn_41 ?_
      cases h
      exact rb_iret hC dX11_moveOn_42
  · replace h := rb_ifn c3 h
    refine rb_aload_n hC 2 dX11_moveOn_10 rfl ?_
    refine rb_iload_n hC 0 dX11_moveOn_11 rfl ?_
    obtain ⟨s12, q13, h⟩ := rb_b1s h
    refine rb_callVv hC rb_VokX mv_X11_286 (xc_Pole_takeOut k1 hk1 r1 σ _ q13) (rb_obPole hk1) rfl [.int r1] rfl rfl rfl ⟨Nat.le_of_ble_eq_true rfl, Nat.le_of_ble_eq_true rfl⟩ (Nat.le_of_ble_eq_true rfl) dX11_moveOn_12 ?_
    refine rb_iconst (x := 1) hC dX11_moveOn_15 (by decide) ?_
    cases h
    exact rb_iret hC dX11_moveOn_16
theorem xc_RP_moveOn (k1 : Nat) (hk1 : rb_isPole k1) (p0 : Int32) (σ : rb_St) (r : Int32) (σ9 : rb_St) (h : xf_RP_moveOn k1 p0 σ = some (r, σ9)) : rb_Con rb_vX yX11_moveOn cX11_moveOn 6 (some .int) 5 (fun w => [.ref (rb_ad w 0), .ref (rb_ad w k1), .int p0]) σ (fun _ => (some (.int r))) σ9 := rb_Con.of (by decide +kernel) (fun _ => Nat.le_of_ble_eq_true rfl) (fun z w hC => xk_RP_moveOn hC k1 hk1 p0 σ r σ9 h)
theorem me_X11_moveOn : Cond.instanceMethod yX11_moveOn ∈ rb_tbl ∧ Cond.selects yX11_moveOn.cls yX11_moveOn yX11_moveOn ∈ rb_tbl ∧ Cond.initialized yX11_moveOn.cls ∈ rb_tbl ∧ Cond.code yX11_moveOn cX11_moveOn 6 (some .int) ∈ rb_tbl ∧ rb_pn yX11_moveOn 2 := ⟨rb_in (by decide +kernel) (by decide +kernel), rb_in (by decide +kernel) (by decide +kernel), rb_in (by decide +kernel) (by decide +kernel), rb_in (by decide +kernel) (by decide +kernel), by decide +kernel, by decide +kernel, by decide +kernel⟩
theorem mv_X11_297 : rb_MV RX11 297 yX11_moveOn cX11_moveOn 6 (some .int) 2 := ⟨rb_in (by decide +kernel) (by decide +kernel), me_X11_moveOn⟩
def xj_RP_takeBeat_69 (x1 : Int32) (x2 : Int32) (σ : rb_St) : Option (Int32 × rb_St) := if (xf_Pole_hasPlace 58 (x1 >>> (1 &&& 31)) σ) = 0 then rb_b1 (xf_Pole_noteBeat 58 20 x2 σ) fun s6 => some (x2, s6) else rb_b1 (xf_Pole_noteBeat 58 x1 x2 σ) fun s8 => some (x2, s8)
set_option maxHeartbeats 4000000 in
set_option maxRecDepth 100000 in
theorem xu_RP_takeBeat_69 {z : rb_Z} {w : rb_Wd} (hC : rb_Cx z rb_vX w RX11 cX11_takeBeat 3 (some .int) 6) (x1 : Int32) (x2 : Int32) (σ : rb_St) (r : Int32) (σ9 : rb_St) (h : xj_RP_takeBeat_69 x1 x2 σ = some (r, σ9)) : rb_At z rb_vX w 3 (rb_Q z rb_vX w (some (.int r)) σ9) 69 [(0, .ref (rb_ad w 0)), (1, .int x1), (2, .int x2)] [] σ := by
  unfold xj_RP_takeBeat_69 at h
  refine rb_aload_n hC 0 dX11_takeBeat_69 rfl ?_
  refine rb_getR hC fr_X11_49_10 rb_obX0 rfl dX11_takeBeat_70 ?_
  refine rb_aload_n hC 0 dX11_takeBeat_73 rfl ?_
  refine rb_getR hC fr_X11_49_10 rb_obX0 rfl dX11_takeBeat_74 ?_
  refine rb_iload_n hC 1 dX11_takeBeat_77 rfl ?_
  refine rb_iconst (x := 1) hC dX11_takeBeat_78 (by decide) ?_
  refine rb_ishr hC dX11_takeBeat_79 ?_
  refine rb_callVi hC rb_VokX mv_X11_211 (xc_Pole_hasPlace 58 rb_isPole58 (x1 >>> (1 &&& 31)) σ _ rfl) (rb_obPole rb_isPole58) rfl [.int (x1 >>> (1 &&& 31))] rfl rfl rfl ⟨Nat.le_of_ble_eq_true rfl, Nat.le_of_ble_eq_true rfl⟩ (Nat.le_of_ble_eq_true rfl) dX11_takeBeat_80 ?_
  refine rb_if_eq hC 90 dX11_takeBeat_83 (by decide) (fun c5 => ?_) (fun c5 => ?_)
  · replace h := rb_ifp c5 h
    refine rb_bipush (x := 20) hC dX11_takeBeat_90 (by decide) ?_
    refine rb_iload_n hC 2 dX11_takeBeat_92 rfl ?_
    obtain ⟨s6, q7, h⟩ := rb_b1s h
    refine rb_callVv hC rb_VokX mv_X11_300 (xc_Pole_noteBeat 58 rb_isPole58 20 x2 σ _ q7) (rb_obPole rb_isPole58) rfl [.int 20, .int x2] rfl rfl rfl ⟨Nat.le_of_ble_eq_true rfl, Nat.le_of_ble_eq_true rfl⟩ (Nat.le_of_ble_eq_true rfl) dX11_takeBeat_93 ?_
    refine rb_iload_n hC 2 dX11_takeBeat_96 rfl ?_
    cases h
    exact rb_iret hC dX11_takeBeat_97
  · replace h := rb_ifn c5 h
    refine rb_iload_n hC 1 dX11_takeBeat_86 rfl ?_
    refine rb_goto hC 92 dX11_takeBeat_87 (by decide) ?_
    refine rb_iload_n hC 2 dX11_takeBeat_92 rfl ?_
    obtain ⟨s8, q9, h⟩ := rb_b1s h
    refine rb_callVv hC rb_VokX mv_X11_300 (xc_Pole_noteBeat 58 rb_isPole58 x1 x2 σ _ q9) (rb_obPole rb_isPole58) rfl [.int x1, .int x2] rfl rfl rfl ⟨Nat.le_of_ble_eq_true rfl, Nat.le_of_ble_eq_true rfl⟩ (Nat.le_of_ble_eq_true rfl) dX11_takeBeat_93 ?_
    refine rb_iload_n hC 2 dX11_takeBeat_96 rfl ?_
    cases h
    exact rb_iret hC dX11_takeBeat_97
def xj_RP_takeBeat_41 (x1 : Int32) (u0 : Int32) (σ : rb_St) : Option (Int32 × rb_St) := if u0 = 1 then rb_lt (rb_sI σ 58 2 (rb_mn 999 ((σ.1 58 2) + 1))) (fun s10 => xj_RP_takeBeat_69 x1 u0 s10) else xj_RP_takeBeat_69 x1 u0 σ
set_option maxHeartbeats 4000000 in
set_option maxRecDepth 100000 in
theorem xu_RP_takeBeat_41 {z : rb_Z} {w : rb_Wd} (hC : rb_Cx z rb_vX w RX11 cX11_takeBeat 3 (some .int) 6) (x1 : Int32) (u0 : Int32) (σ : rb_St) (r : Int32) (σ9 : rb_St) (h : xj_RP_takeBeat_41 x1 u0 σ = some (r, σ9)) : rb_At z rb_vX w 3 (rb_Q z rb_vX w (some (.int r)) σ9) 41 [(0, .ref (rb_ad w 0)), (1, .int x1)] [.int u0] σ := by
  unfold xj_RP_takeBeat_41 at h
  refine rb_istore_n hC [(2, .int u0), (0, .ref (rb_ad w 0)), (1, .int x1)] dX11_takeBeat_41 (by decide) rfl ?_
  refine rb_iload_n hC 0 dX11_takeBeat_42 rfl ?_
  refine rb_iconst (x := 1) hC dX11_takeBeat_43 (by decide) ?_
  refine rb_icmp_ne hC 69 dX11_takeBeat_44 (by decide) (fun c4 => ?_) (fun c4 => ?_)
  · replace h := rb_ifn c4 h
    exact rb_sub [1, 2, 0] rfl (xu_RP_takeBeat_69 hC x1 u0 σ _ _ h)
  · replace h := rb_ifp c4 h
    refine rb_aload_n hC 1 dX11_takeBeat_47 rfl ?_
    refine rb_getR hC fr_X11_49_10 rb_obX0 rfl dX11_takeBeat_48 ?_
    refine rb_sipush (x := 999) hC dX11_takeBeat_51 (by decide) ?_
    refine rb_aload_n hC 1 dX11_takeBeat_54 rfl ?_
    refine rb_getR hC fr_X11_49_10 rb_obX0 rfl dX11_takeBeat_55 ?_
    refine rb_getI hC fr_X11_182_7 (rb_obPole rb_isPole58) rfl dX11_takeBeat_58 ?_
    refine rb_iconst (x := 1) hC dX11_takeBeat_61 (by decide) ?_
    refine rb_iadd hC dX11_takeBeat_62 ?_
    refine rb_mmin hC mk_X11_268 (by decide) dX11_takeBeat_63 ?_
    refine rb_putI hC fr_X11_182_7 ft_7_2 (rb_obPole rb_isPole58) rfl rfl rfl dX11_takeBeat_66 ?_
    obtain ⟨s10, e11, h⟩ := rb_ltE h
    refine rb_nmS e11 ?_
    exact rb_sub [1, 2, 0] rfl (xu_RP_takeBeat_69 hC x1 u0 s10 _ _ h)
def xf_RP_takeBeat (p0 : Int32) (σ : rb_St) : Option (Int32 × rb_St) := rb_b1 (xf_Acts_keep 58 σ) fun s1 => if (xf_Pole_hasPlace 58 (p0 >>> (1 &&& 31)) s1) = 0 then xj_RP_takeBeat_41 p0 0 s1 else rb_b2 (xf_RP_moveOn 58 p0 s1) fun r14 s12 => xj_RP_takeBeat_41 p0 (rb_mx 0 r14) s12
set_option maxHeartbeats 4000000 in
set_option maxRecDepth 100000 in
theorem xk_RP_takeBeat {z : rb_Z} {w : rb_Wd} (hC : rb_Cx z rb_vX w RX11 cX11_takeBeat 3 (some .int) 6) (p0 : Int32) (σ : rb_St) (r : Int32) (σ9 : rb_St) (h : xf_RP_takeBeat p0 σ = some (r, σ9)) : rb_At z rb_vX w 3 (rb_Q z rb_vX w (some (.int r)) σ9) 0 [(0, .ref (rb_ad w 0)), (1, .int p0)] [] σ := by
  unfold xf_RP_takeBeat at h
  refine rb_aload_n hC 0 dX11_takeBeat_0 rfl ?_
  refine rb_getR hC fr_X11_59_10 rb_obX0 rfl dX11_takeBeat_1 ?_
  refine rb_aload_n hC 0 dX11_takeBeat_4 rfl ?_
  refine rb_getR hC fr_X11_49_10 rb_obX0 rfl dX11_takeBeat_5 ?_
  obtain ⟨s1, q2, h⟩ := rb_b1s h
  refine rb_callVv hC rb_VokX mv_X11_293 (xc_Acts_keep 58 rb_isPole58 σ _ q2) rb_obX18 rfl [.ref (rb_ad w 58)] rfl rfl rfl ⟨Nat.le_of_ble_eq_true rfl, Nat.le_of_ble_eq_true rfl⟩ (Nat.le_of_ble_eq_true rfl) dX11_takeBeat_8 ?_
  refine rb_aload_n hC 0 dX11_takeBeat_11 rfl ?_
  refine rb_getR hC fr_X11_49_10 rb_obX0 rfl dX11_takeBeat_12 ?_
  refine rb_iload_n hC 1 dX11_takeBeat_15 rfl ?_
  refine rb_iconst (x := 1) hC dX11_takeBeat_16 (by decide) ?_
  refine rb_ishr hC dX11_takeBeat_17 ?_
  refine rb_callVi hC rb_VokX mv_X11_211 (xc_Pole_hasPlace 58 rb_isPole58 (p0 >>> (1 &&& 31)) s1 _ rfl) (rb_obPole rb_isPole58) rfl [.int (p0 >>> (1 &&& 31))] rfl rfl rfl ⟨Nat.le_of_ble_eq_true rfl, Nat.le_of_ble_eq_true rfl⟩ (Nat.le_of_ble_eq_true rfl) dX11_takeBeat_18 ?_
  refine rb_if_eq hC 40 dX11_takeBeat_21 (by decide) (fun c3 => ?_) (fun c3 => ?_)
  · replace h := rb_ifp c3 h
    refine rb_iconst (x := 0) hC dX11_takeBeat_40 (by decide) ?_
    exact rb_sub [0, 1] rfl (xu_RP_takeBeat_41 hC p0 0 s1 _ _ h)
  · replace h := rb_ifn c3 h
    refine rb_iconst (x := 0) hC dX11_takeBeat_24 (by decide) ?_
    refine rb_aload_n hC 0 dX11_takeBeat_25 rfl ?_
    refine rb_aload_n hC 0 dX11_takeBeat_26 rfl ?_
    refine rb_getR hC fr_X11_49_10 rb_obX0 rfl dX11_takeBeat_27 ?_
    refine rb_iload_n hC 1 dX11_takeBeat_30 rfl ?_
    obtain ⟨r14, s12, q13, h⟩ := rb_b2s h
    refine rb_callVi hC rb_VokX mv_X11_297 (xc_RP_moveOn 58 rb_isPole58 p0 s1 _ _ q13) rb_obX0 rfl [.ref (rb_ad w 58), .int p0] rfl rfl rfl ⟨Nat.le_of_ble_eq_true rfl, Nat.le_of_ble_eq_true rfl⟩ (Nat.le_of_ble_eq_true rfl) dX11_takeBeat_31 ?_
    refine rb_mmax hC mk_X11_273 (by decide) dX11_takeBeat_34 ?_
    refine rb_goto hC 41 dX11_takeBeat_37 (by decide) ?_
    exact rb_sub [0, 1] rfl (xu_RP_takeBeat_41 hC p0 (rb_mx 0 r14) s12 _ _ h)
theorem xc_RP_takeBeat (p0 : Int32) (σ : rb_St) (r : Int32) (σ9 : rb_St) (h : xf_RP_takeBeat p0 σ = some (r, σ9)) : rb_Con rb_vX yX11_takeBeat cX11_takeBeat 3 (some .int) 6 (fun w => [.ref (rb_ad w 0), .int p0]) σ (fun _ => (some (.int r))) σ9 := rb_Con.of (by decide +kernel) (fun _ => Nat.le_of_ble_eq_true rfl) (fun z w hC => xk_RP_takeBeat hC p0 σ r σ9 h)
theorem me_X11_hindranceOf : Cond.instanceMethod yX11_hindranceOf ∈ rb_tbl ∧ Cond.selects yX11_hindranceOf.cls yX11_hindranceOf yX11_hindranceOf ∈ rb_tbl ∧ Cond.initialized yX11_hindranceOf.cls ∈ rb_tbl ∧ Cond.code yX11_hindranceOf cX11_hindranceOf 2 (some .int) ∈ rb_tbl ∧ rb_pn yX11_hindranceOf 1 := ⟨rb_in (by decide +kernel) (by decide +kernel), rb_in (by decide +kernel) (by decide +kernel), rb_in (by decide +kernel) (by decide +kernel), rb_in (by decide +kernel) (by decide +kernel), by decide +kernel, by decide +kernel, by decide +kernel⟩
theorem mv_X11_310 : rb_MV RX11 310 yX11_hindranceOf cX11_hindranceOf 2 (some .int) 1 := ⟨rb_in (by decide +kernel) (by decide +kernel), me_X11_hindranceOf⟩
theorem me_X11_takeBeat : Cond.instanceMethod yX11_takeBeat ∈ rb_tbl ∧ Cond.selects yX11_takeBeat.cls yX11_takeBeat yX11_takeBeat ∈ rb_tbl ∧ Cond.initialized yX11_takeBeat.cls ∈ rb_tbl ∧ Cond.code yX11_takeBeat cX11_takeBeat 3 (some .int) ∈ rb_tbl ∧ rb_pn yX11_takeBeat 1 := ⟨rb_in (by decide +kernel) (by decide +kernel), rb_in (by decide +kernel) (by decide +kernel), rb_in (by decide +kernel) (by decide +kernel), rb_in (by decide +kernel) (by decide +kernel), by decide +kernel, by decide +kernel, by decide +kernel⟩
theorem mv_X11_313 : rb_MV RX11 313 yX11_takeBeat cX11_takeBeat 3 (some .int) 1 := ⟨rb_in (by decide +kernel) (by decide +kernel), me_X11_takeBeat⟩
def xf_RP_cross (p0 : Int32) (p1 : Int32) (σ : rb_St) : Option (Int32 × rb_St) := if (xf_RP_hasGreen σ) = 0 then rb_b2 (xf_RP_refuse 0 σ) fun r22 s20 => some (r22, s20) else if (xf_Pole_hasPlace 58 p0 σ) = 0 then rb_b2 (xf_RP_refuse 1 σ) fun r19 s17 => some (r19, s17) else rb_b2 (xf_RP_hindranceOf (xf_RP_letterOf p0 p1 σ) σ) fun r5 s3 => if r5 = 0 then if (s3.1 58 3) < 999 then rb_b2 (xf_RP_takeBeat (xf_RP_letterOf p0 p1 σ) s3) fun r10 s8 => some (r10, s8) else rb_b2 (xf_RP_refuse 4 s3) fun r13 s11 => some (r13, s11) else rb_b2 (xf_RP_refuse r5 s3) fun r16 s14 => some (r16, s14)
set_option maxHeartbeats 4000000 in
set_option maxRecDepth 100000 in
theorem xk_RP_cross {z : rb_Z} {w : rb_Wd} (hC : rb_Cx z rb_vX w RX11 cX11_cross 5 (some .int) 7) (p0 : Int32) (p1 : Int32) (σ : rb_St) (r : Int32) (σ9 : rb_St) (h : xf_RP_cross p0 p1 σ = some (r, σ9)) : rb_At z rb_vX w 5 (rb_Q z rb_vX w (some (.int r)) σ9) 0 [(0, .ref (rb_ad w 0)), (1, .int p0), (2, .int p1)] [] σ := by
  unfold xf_RP_cross at h
  refine rb_aload_n hC 0 dX11_cross_0 rfl ?_
  refine rb_callVi hC rb_VokX mv_X11_176 (xc_RP_hasGreen  σ _ rfl) rb_obX0 rfl [] rfl rfl rfl ⟨Nat.le_of_ble_eq_true rfl, Nat.le_of_ble_eq_true rfl⟩ (Nat.le_of_ble_eq_true rfl) dX11_cross_1 ?_
  refine rb_if_ne hC 13 dX11_cross_4 (by decide) (fun c1 => ?_) (fun c1 => ?_)
  · replace h := rb_ifn c1 h
    refine rb_aload_n hC 0 dX11_cross_13 rfl ?_
    refine rb_getR hC fr_X11_49_10 rb_obX0 rfl dX11_cross_14 ?_
    refine rb_iload_n hC 1 dX11_cross_17 rfl ?_
    refine rb_callVi hC rb_VokX mv_X11_211 (xc_Pole_hasPlace 58 rb_isPole58 p0 σ _ rfl) (rb_obPole rb_isPole58) rfl [.int p0] rfl rfl rfl ⟨Nat.le_of_ble_eq_true rfl, Nat.le_of_ble_eq_true rfl⟩ (Nat.le_of_ble_eq_true rfl) dX11_cross_18 ?_
    refine rb_if_ne hC 30 dX11_cross_21 (by decide) (fun c2 => ?_) (fun c2 => ?_)
    · replace h := rb_ifn c2 h
      refine rb_iload_n hC 1 dX11_cross_30 rfl ?_
      refine rb_iload_n hC 2 dX11_cross_31 rfl ?_
      refine rb_callSi hC rb_VokX mv_X11_306 (xc_RP_letterOf p0 p1 σ _ rfl) [.int p0, .int p1] rfl rfl rfl ⟨Nat.le_of_ble_eq_true rfl, Nat.le_of_ble_eq_true rfl⟩ (Nat.le_of_ble_eq_true rfl) dX11_cross_32 ?_
      refine rb_istore_n hC [(3, .int (xf_RP_letterOf p0 p1 σ)), (0, .ref (rb_ad w 0)), (1, .int p0), (2, .int p1)] dX11_cross_35 (by decide) rfl ?_
      refine rb_aload_n hC 1 dX11_cross_36 rfl ?_
      refine rb_iload_n hC 0 dX11_cross_37 rfl ?_
      obtain ⟨r5, s3, q4, h⟩ := rb_b2s h
      refine rb_callVi hC rb_VokX mv_X11_310 (xc_RP_hindranceOf (xf_RP_letterOf p0 p1 σ) σ _ _ q4) rb_obX0 rfl [.int (xf_RP_letterOf p0 p1 σ)] rfl rfl rfl ⟨Nat.le_of_ble_eq_true rfl, Nat.le_of_ble_eq_true rfl⟩ (Nat.le_of_ble_eq_true rfl) dX11_cross_38 ?_
      refine rb_istore hC [(4, .int r5), (3, .int (xf_RP_letterOf p0 p1 σ)), (0, .ref (rb_ad w 0)), (1, .int p0), (2, .int p1)] dX11_cross_41 (by decide) rfl ?_
      refine rb_iload hC 0 dX11_cross_43 rfl ?_
      refine rb_if_eq hC 55 dX11_cross_45 (by decide) (fun c6 => ?_) (fun c6 => ?_)
      · replace h := rb_ifp c6 h
        refine rb_aload_n hC 2 dX11_cross_55 rfl ?_
        refine rb_getR hC fr_X11_49_10 rb_obX0 rfl dX11_cross_56 ?_
        refine rb_getI hC fr_X11_250_7 (rb_obPole rb_isPole58) rfl dX11_cross_59 ?_
        refine rb_sipush (x := 999) hC dX11_cross_62 (by decide) ?_
        refine rb_icmp_lt hC 74 dX11_cross_65 (by decide) (fun c7 => ?_) (fun c7 => ?_)
        · replace h := rb_ifp c7 h
          refine rb_aload_n hC 2 dX11_cross_74 rfl ?_
          refine rb_iload_n hC 1 dX11_cross_75 rfl ?_
          obtain ⟨r10, s8, q9, h⟩ := rb_b2s h
          refine rb_callVi hC rb_VokX mv_X11_313 (xc_RP_takeBeat (xf_RP_letterOf p0 p1 σ) s3 _ _ q9) rb_obX0 rfl [.int (xf_RP_letterOf p0 p1 σ)] rfl rfl rfl ⟨Nat.le_of_ble_eq_true rfl, Nat.le_of_ble_eq_true rfl⟩ (Nat.le_of_ble_eq_true rfl) dX11_cross_76 ?_
          cases h
          exact rb_iret hC dX11_cross_79
        · replace h := rb_ifn c7 h
          refine rb_aload_n hC 2 dX11_cross_68 rfl ?_
          refine rb_iconst (x := 4) hC dX11_cross_69 (by decide) ?_
          obtain ⟨r13, s11, q12, h⟩ := rb_b2s h
          refine rb_callVi hC rb_VokX mv_X11_303 (xc_RP_refuse 4 s3 _ _ q12) rb_obX0 rfl [.int 4] rfl rfl rfl ⟨Nat.le_of_ble_eq_true rfl, Nat.le_of_ble_eq_true rfl⟩ (Nat.le_of_ble_eq_true rfl) dX11_cross_70 ?_
          cases h
          exact rb_iret hC dX11_cross_73
      · replace h := rb_ifn c6 h
        refine rb_aload_n hC 2 dX11_cross_48 rfl ?_
        refine rb_iload hC 0 dX11_cross_49 rfl ?_
        obtain ⟨r16, s14, q15, h⟩ := rb_b2s h
        refine rb_callVi hC rb_VokX mv_X11_303 (xc_RP_refuse r5 s3 _ _ q15) rb_obX0 rfl [.int r5] rfl rfl rfl ⟨Nat.le_of_ble_eq_true rfl, Nat.le_of_ble_eq_true rfl⟩ (Nat.le_of_ble_eq_true rfl) dX11_cross_51 ?_
        cases h
        exact rb_iret hC dX11_cross_54
    · replace h := rb_ifp c2 h
      refine rb_aload_n hC 0 dX11_cross_24 rfl ?_
      refine rb_iconst (x := 1) hC dX11_cross_25 (by decide) ?_
      obtain ⟨r19, s17, q18, h⟩ := rb_b2s h
      refine rb_callVi hC rb_VokX mv_X11_303 (xc_RP_refuse 1 σ _ _ q18) rb_obX0 rfl [.int 1] rfl rfl rfl ⟨Nat.le_of_ble_eq_true rfl, Nat.le_of_ble_eq_true rfl⟩ (Nat.le_of_ble_eq_true rfl) dX11_cross_26 ?_
      cases h
      exact rb_iret hC dX11_cross_29
  · replace h := rb_ifp c1 h
    refine rb_aload_n hC 0 dX11_cross_7 rfl ?_
    refine rb_iconst (x := 0) hC dX11_cross_8 (by decide) ?_
    obtain ⟨r22, s20, q21, h⟩ := rb_b2s h
    refine rb_callVi hC rb_VokX mv_X11_303 (xc_RP_refuse 0 σ _ _ q21) rb_obX0 rfl [.int 0] rfl rfl rfl ⟨Nat.le_of_ble_eq_true rfl, Nat.le_of_ble_eq_true rfl⟩ (Nat.le_of_ble_eq_true rfl) dX11_cross_9 ?_
    cases h
    exact rb_iret hC dX11_cross_12
theorem xc_RP_cross (p0 : Int32) (p1 : Int32) (σ : rb_St) (r : Int32) (σ9 : rb_St) (h : xf_RP_cross p0 p1 σ = some (r, σ9)) : rb_Con rb_vX yX11_cross cX11_cross 5 (some .int) 7 (fun w => [.ref (rb_ad w 0), .int p0, .int p1]) σ (fun _ => (some (.int r))) σ9 := rb_Con.of (by decide +kernel) (fun _ => Nat.le_of_ble_eq_true rfl) (fun z w hC => xk_RP_cross hC p0 p1 σ r σ9 h)
def xf_RP_beat  (σ : rb_St) : Option (Int32 × rb_St) := if (xf_RP_hasGreen σ) = 0 then rb_b2 (xf_RP_refuse 0 σ) fun r11 s9 => some (r11, s9) else if (σ.1 58 3) < 999 then rb_b2 (xf_RP_takeBeat 20 σ) fun r5 s3 => some (s3.1 58 3, s3) else rb_b2 (xf_RP_refuse 4 σ) fun r8 s6 => some (r8, s6)
set_option maxHeartbeats 4000000 in
set_option maxRecDepth 100000 in
theorem xk_RP_beat {z : rb_Z} {w : rb_Wd} (hC : rb_Cx z rb_vX w RX11 cX11_beat 1 (some .int) 7)  (σ : rb_St) (r : Int32) (σ9 : rb_St) (h : xf_RP_beat σ = some (r, σ9)) : rb_At z rb_vX w 1 (rb_Q z rb_vX w (some (.int r)) σ9) 0 [(0, .ref (rb_ad w 0))] [] σ := by
  unfold xf_RP_beat at h
  refine rb_aload_n hC 0 dX11_beat_0 rfl ?_
  refine rb_callVi hC rb_VokX mv_X11_176 (xc_RP_hasGreen  σ _ rfl) rb_obX0 rfl [] rfl rfl rfl ⟨Nat.le_of_ble_eq_true rfl, Nat.le_of_ble_eq_true rfl⟩ (Nat.le_of_ble_eq_true rfl) dX11_beat_1 ?_
  refine rb_if_ne hC 13 dX11_beat_4 (by decide) (fun c1 => ?_) (fun c1 => ?_)
  · replace h := rb_ifn c1 h
    refine rb_aload_n hC 0 dX11_beat_13 rfl ?_
    refine rb_getR hC fr_X11_49_10 rb_obX0 rfl dX11_beat_14 ?_
    refine rb_getI hC fr_X11_250_7 (rb_obPole rb_isPole58) rfl dX11_beat_17 ?_
    refine rb_sipush (x := 999) hC dX11_beat_20 (by decide) ?_
    refine rb_icmp_lt hC 32 dX11_beat_23 (by decide) (fun c2 => ?_) (fun c2 => ?_)
    · replace h := rb_ifp c2 h
      refine rb_aload_n hC 0 dX11_beat_32 rfl ?_
      refine rb_bipush (x := 20) hC dX11_beat_33 (by decide) ?_
      obtain ⟨r5, s3, q4, h⟩ := rb_b2s h
      refine rb_callVi hC rb_VokX mv_X11_313 (xc_RP_takeBeat 20 σ _ _ q4) rb_obX0 rfl [.int 20] rfl rfl rfl ⟨Nat.le_of_ble_eq_true rfl, Nat.le_of_ble_eq_true rfl⟩ (Nat.le_of_ble_eq_true rfl) dX11_beat_35 ?_
      refine rb_pop hC dX11_beat_38 rfl ?_
      refine rb_aload_n hC 0 dX11_beat_39 rfl ?_
      refine rb_getR hC fr_X11_49_10 rb_obX0 rfl dX11_beat_40 ?_
      refine rb_getI hC fr_X11_250_7 (rb_obPole rb_isPole58) rfl dX11_beat_43 ?_
      cases h
      exact rb_iret hC dX11_beat_46
    · replace h := rb_ifn c2 h
      refine rb_aload_n hC 0 dX11_beat_26 rfl ?_
      refine rb_iconst (x := 4) hC dX11_beat_27 (by decide) ?_
      obtain ⟨r8, s6, q7, h⟩ := rb_b2s h
      refine rb_callVi hC rb_VokX mv_X11_303 (xc_RP_refuse 4 σ _ _ q7) rb_obX0 rfl [.int 4] rfl rfl rfl ⟨Nat.le_of_ble_eq_true rfl, Nat.le_of_ble_eq_true rfl⟩ (Nat.le_of_ble_eq_true rfl) dX11_beat_28 ?_
      cases h
      exact rb_iret hC dX11_beat_31
  · replace h := rb_ifp c1 h
    refine rb_aload_n hC 0 dX11_beat_7 rfl ?_
    refine rb_iconst (x := 0) hC dX11_beat_8 (by decide) ?_
    obtain ⟨r11, s9, q10, h⟩ := rb_b2s h
    refine rb_callVi hC rb_VokX mv_X11_303 (xc_RP_refuse 0 σ _ _ q10) rb_obX0 rfl [.int 0] rfl rfl rfl ⟨Nat.le_of_ble_eq_true rfl, Nat.le_of_ble_eq_true rfl⟩ (Nat.le_of_ble_eq_true rfl) dX11_beat_9 ?_
    cases h
    exact rb_iret hC dX11_beat_12
theorem xc_RP_beat  (σ : rb_St) (r : Int32) (σ9 : rb_St) (h : xf_RP_beat σ = some (r, σ9)) : rb_Con rb_vX yX11_beat cX11_beat 1 (some .int) 7 (fun w => [.ref (rb_ad w 0)]) σ (fun _ => (some (.int r))) σ9 := rb_Con.of (by decide +kernel) (fun _ => Nat.le_of_ble_eq_true rfl) (fun z w hC => xk_RP_beat hC  σ r σ9 h)
def xl_RP_dance_49 (k98 : Nat) : Nat → Int32 → rb_St → Option (Nat × Int32 × rb_St)
  | 0, _, _ => none
  | n + 1, x3, σ => if (σ.1 k98 1) ≤ x3 then some (1, x3, σ) else rb_b1 (xf_Fig_letterAt k98 x3 σ) fun r11 => if 999 ≤ (σ.1 58 3) then some (0, x3, σ) else if (xf_Pole_hasPlace 58 (r11 >>> (1 &&& 31)) σ) = 0 then rb_b2 (xf_RP_takeBeat r11 σ) fun r17 s15 => xl_RP_dance_49 k98 n (x3 + 1) s15 else rb_b2 (xf_RP_hindranceOf r11 σ) fun r20 s18 => if r20 = 0 then rb_b2 (xf_RP_takeBeat r11 s18) fun r24 s22 => xl_RP_dance_49 k98 n (x3 + 1) s22 else some (0, x3, s18)
set_option maxHeartbeats 4000000 in
set_option maxRecDepth 100000 in
theorem xt_RP_dance_49 {z : rb_Z} {w : rb_Wd} {Q : State → Prop} (hC : rb_Cx z rb_vX w RX11 cX11_dance 5 (some .int) 7) (k98 : Nat) (hk98 : rb_isFig k98) : ∀ (n : Nat) (x3 : Int32) (σ : rb_St) (t : Nat) (y3 : Int32) (σ9 : rb_St), xl_RP_dance_49 k98 n x3 σ = some (t, y3, σ9) → (t = 0 → rb_At z rb_vX w 5 Q 100 [(3, .int y3)] [] σ9) → (t = 1 → rb_At z rb_vX w 5 Q 115 [(2, .ref (rb_ad w k98))] [] σ9) → rb_At z rb_vX w 5 Q 49 [(0, .ref (rb_ad w 0)), (2, .ref (rb_ad w k98)), (3, .int x3)] [] σ := by
  intro n
  induction n with
  | zero =>
    intro x3 σ t y3 σ9 h hE0 hE1
    cases h
  | succ n ih =>
    intro x3 σ t y3 σ9 h hE0 hE1
    rw [xl_RP_dance_49] at h
    refine rb_iload_n hC 2 dX11_dance_49 rfl ?_
    refine rb_aload_n hC 1 dX11_dance_50 rfl ?_
    refine rb_getI hC fr_X11_220_1 (rb_obFig hk98) rfl dX11_dance_51 ?_
    refine rb_icmp_ge hC 115 dX11_dance_54 (by decide) (fun c10 => ?_) (fun c10 => ?_)
    · replace h := rb_ifp c10 h
      cases h
      exact rb_sub [1] rfl (hE1 rfl)
    · replace h := rb_ifn c10 h
      refine rb_aload_n hC 1 dX11_dance_57 rfl ?_
      refine rb_iload_n hC 2 dX11_dance_58 rfl ?_
      obtain ⟨r11, q12, h⟩ := rb_b1s h
      refine rb_callVi hC rb_VokX mv_X11_221 (xc_Fig_letterAt k98 hk98 x3 σ _ q12) (rb_obFig hk98) rfl [.int x3] rfl rfl rfl ⟨Nat.le_of_ble_eq_true rfl, Nat.le_of_ble_eq_true rfl⟩ (Nat.le_of_ble_eq_true rfl) dX11_dance_59 ?_
      refine rb_istore hC [(4, .int r11), (0, .ref (rb_ad w 0)), (2, .ref (rb_ad w k98)), (3, .int x3)] dX11_dance_62 (by decide) rfl ?_
      refine rb_aload_n hC 1 dX11_dance_64 rfl ?_
      refine rb_getR hC fr_X11_49_10 rb_obX0 rfl dX11_dance_65 ?_
      refine rb_getI hC fr_X11_250_7 (rb_obPole rb_isPole58) rfl dX11_dance_68 ?_
      refine rb_sipush (x := 999) hC dX11_dance_71 (by decide) ?_
      refine rb_icmp_ge hC 100 dX11_dance_74 (by decide) (fun c13 => ?_) (fun c13 => ?_)
      · replace h := rb_ifp c13 h
        cases h
        exact rb_sub [3] rfl (hE0 rfl)
      · replace h := rb_ifn c13 h
        refine rb_aload_n hC 1 dX11_dance_77 rfl ?_
        refine rb_getR hC fr_X11_49_10 rb_obX0 rfl dX11_dance_78 ?_
        refine rb_iload hC 0 dX11_dance_81 rfl ?_
        refine rb_iconst (x := 1) hC dX11_dance_83 (by decide) ?_
        refine rb_ishr hC dX11_dance_84 ?_
        refine rb_callVi hC rb_VokX mv_X11_211 (xc_Pole_hasPlace 58 rb_isPole58 (r11 >>> (1 &&& 31)) σ _ rfl) (rb_obPole rb_isPole58) rfl [.int (r11 >>> (1 &&& 31))] rfl rfl rfl ⟨Nat.le_of_ble_eq_true rfl, Nat.le_of_ble_eq_true rfl⟩ (Nat.le_of_ble_eq_true rfl) dX11_dance_85 ?_
        refine rb_if_eq hC 102 dX11_dance_88 (by decide) (fun c14 => ?_) (fun c14 => ?_)
        · replace h := rb_ifp c14 h
          refine rb_aload_n hC 1 dX11_dance_102 rfl ?_
          refine rb_iload hC 0 dX11_dance_103 rfl ?_
          obtain ⟨r17, s15, q16, h⟩ := rb_b2s h
          refine rb_callVi hC rb_VokX mv_X11_313 (xc_RP_takeBeat r11 σ _ _ q16) rb_obX0 rfl [.int r11] rfl rfl rfl ⟨Nat.le_of_ble_eq_true rfl, Nat.le_of_ble_eq_true rfl⟩ (Nat.le_of_ble_eq_true rfl) dX11_dance_105 ?_
          refine rb_pop hC dX11_dance_108 rfl ?_
          refine rb_iinc hC 3 [(3, .int (x3 + 1)), (4, .int r11), (0, .ref (rb_ad w 0)), (2, .ref (rb_ad w k98))] dX11_dance_109 rfl rfl (by decide) rfl ?_
          refine rb_goto hC 49 dX11_dance_112 (by decide) ?_
          exact rb_sub [2, 3, 0] rfl (ih (x3 + 1) s15 _ _ _ h hE0 hE1)
        · replace h := rb_ifn c14 h
          refine rb_aload_n hC 1 dX11_dance_91 rfl ?_
          refine rb_iload hC 0 dX11_dance_92 rfl ?_
          obtain ⟨r20, s18, q19, h⟩ := rb_b2s h
          refine rb_callVi hC rb_VokX mv_X11_310 (xc_RP_hindranceOf r11 σ _ _ q19) rb_obX0 rfl [.int r11] rfl rfl rfl ⟨Nat.le_of_ble_eq_true rfl, Nat.le_of_ble_eq_true rfl⟩ (Nat.le_of_ble_eq_true rfl) dX11_dance_94 ?_
          refine rb_if_eq hC 102 dX11_dance_97 (by decide) (fun c21 => ?_) (fun c21 => ?_)
          · replace h := rb_ifp c21 h
            refine rb_aload_n hC 1 dX11_dance_102 rfl ?_
            refine rb_iload hC 0 dX11_dance_103 rfl ?_
            obtain ⟨r24, s22, q23, h⟩ := rb_b2s h
            refine rb_callVi hC rb_VokX mv_X11_313 (xc_RP_takeBeat r11 s18 _ _ q23) rb_obX0 rfl [.int r11] rfl rfl rfl ⟨Nat.le_of_ble_eq_true rfl, Nat.le_of_ble_eq_true rfl⟩ (Nat.le_of_ble_eq_true rfl) dX11_dance_105 ?_
            refine rb_pop hC dX11_dance_108 rfl ?_
            refine rb_iinc hC 3 [(3, .int (x3 + 1)), (4, .int r11), (0, .ref (rb_ad w 0)), (2, .ref (rb_ad w k98))] dX11_dance_109 rfl rfl (by decide) rfl ?_
            refine rb_goto hC 49 dX11_dance_112 (by decide) ?_
            exact rb_sub [2, 3, 0] rfl (ih (x3 + 1) s22 _ _ _ h hE0 hE1)
          · replace h := rb_ifn c21 h
            cases h
            exact rb_sub [3] rfl (hE0 rfl)
def xf_RP_dance (p0 : Int32) (σ : rb_St) : Option (Int32 × rb_St) := if (xf_RP_hasGreen σ) = 0 then rb_b2 (xf_RP_refuse 0 σ) fun r4 s2 => some (r4, s2) else if (xf_RP_isFigure p0 σ) = 0 then rb_b2 (xf_RP_refuse 0 σ) fun r34 s32 => some (r34, s32) else if (σ.1 58 3) < 999 then if rb_ib p0 6 then rb_lt (46 + 2 * p0.toNatClampNeg) (fun k98 => rb_b3 (xl_RP_dance_49 k98 rb_FU 0 σ) fun t25 y26 s27 => if t25 = 0 then some (y26, s27) else some (s27.1 k98 1, s27)) else none else rb_b2 (xf_RP_refuse 4 σ) fun r31 s29 => some (r31, s29)
set_option maxHeartbeats 4000000 in
set_option maxRecDepth 100000 in
theorem xk_RP_dance {z : rb_Z} {w : rb_Wd} (hC : rb_Cx z rb_vX w RX11 cX11_dance 5 (some .int) 7) (p0 : Int32) (σ : rb_St) (r : Int32) (σ9 : rb_St) (h : xf_RP_dance p0 σ = some (r, σ9)) : rb_At z rb_vX w 5 (rb_Q z rb_vX w (some (.int r)) σ9) 0 [(0, .ref (rb_ad w 0)), (1, .int p0)] [] σ := by
  unfold xf_RP_dance at h
  refine rb_aload_n hC 0 dX11_dance_0 rfl ?_
  refine rb_callVi hC rb_VokX mv_X11_176 (xc_RP_hasGreen  σ _ rfl) rb_obX0 rfl [] rfl rfl rfl ⟨Nat.le_of_ble_eq_true rfl, Nat.le_of_ble_eq_true rfl⟩ (Nat.le_of_ble_eq_true rfl) dX11_dance_1 ?_
  refine rb_if_eq hC 15 dX11_dance_4 (by decide) (fun c1 => ?_) (fun c1 => ?_)
  · replace h := rb_ifp c1 h
    refine rb_aload_n hC 0 dX11_dance_15 rfl ?_
    refine rb_iconst (x := 0) hC dX11_dance_16 (by decide) ?_
    obtain ⟨r4, s2, q3, h⟩ := rb_b2s h
    refine rb_callVi hC rb_VokX mv_X11_303 (xc_RP_refuse 0 σ _ _ q3) rb_obX0 rfl [.int 0] rfl rfl rfl ⟨Nat.le_of_ble_eq_true rfl, Nat.le_of_ble_eq_true rfl⟩ (Nat.le_of_ble_eq_true rfl) dX11_dance_17 ?_
    cases h
    exact rb_iret hC dX11_dance_20
  · replace h := rb_ifn c1 h
    refine rb_aload_n hC 0 dX11_dance_7 rfl ?_
    refine rb_iload_n hC 1 dX11_dance_8 rfl ?_
    refine rb_callVi hC rb_VokX mv_X11_217 (xc_RP_isFigure p0 σ _ rfl) rb_obX0 rfl [.int p0] rfl rfl rfl ⟨Nat.le_of_ble_eq_true rfl, Nat.le_of_ble_eq_true rfl⟩ (Nat.le_of_ble_eq_true rfl) dX11_dance_9 ?_
    refine rb_if_ne hC 21 dX11_dance_12 (by decide) (fun c5 => ?_) (fun c5 => ?_)
    · replace h := rb_ifn c5 h
      refine rb_aload_n hC 0 dX11_dance_21 rfl ?_
      refine rb_getR hC fr_X11_49_10 rb_obX0 rfl dX11_dance_22 ?_
      refine rb_getI hC fr_X11_250_7 (rb_obPole rb_isPole58) rfl dX11_dance_25 ?_
      refine rb_sipush (x := 999) hC dX11_dance_28 (by decide) ?_
      refine rb_icmp_lt hC 40 dX11_dance_31 (by decide) (fun c6 => ?_) (fun c6 => ?_)
      · replace h := rb_ifp c6 h
        refine rb_aload_n hC 0 dX11_dance_40 rfl ?_
        refine rb_getR hC fr_X11_75_10 rb_obX0 rfl dX11_dance_41 ?_
        refine rb_iload_n hC 1 dX11_dance_44 rfl ?_
        obtain ⟨g7, h⟩ := rb_gd h
        refine rb_aald hC rb_rrX21 (fun _ => rfl) (rb_ibI g7) dX11_dance_45 ?_
        obtain ⟨k98, e9, h⟩ := rb_ltE h
        have hk98 : rb_isFig k98 := e9 ▸ (rb_isFig_of g7)
        refine rb_nmR e9 ?_
        refine rb_astore_n hC [(2, .ref (rb_ad w k98)), (0, .ref (rb_ad w 0)), (1, .int p0)] dX11_dance_46 (by decide) rfl ?_
        refine rb_iconst (x := 0) hC dX11_dance_47 (by decide) ?_
        refine rb_istore_n hC [(3, .int 0), (2, .ref (rb_ad w k98)), (0, .ref (rb_ad w 0)), (1, .int p0)] dX11_dance_48 (by decide) rfl ?_
        obtain ⟨t25, y26, s27, q28, h⟩ := rb_b3s h
        refine rb_sub (lv2 := [(0, .ref (rb_ad w 0)), (2, .ref (rb_ad w k98)), (3, .int 0)]) [2, 1, 0] rfl ?_
        refine xt_RP_dance_49 hC k98 hk98 rb_FU 0 σ _ _ _ q28 (fun ht => ?_) (fun ht => ?_)
        · subst ht
          replace h := rb_ifp rfl h
          refine rb_iload_n hC 0 dX11_dance_100 rfl ?_
          cases h
          exact rb_iret hC dX11_dance_101
        · subst ht
          replace h := rb_ifn (by decide) h
          refine rb_aload_n hC 0 dX11_dance_115 rfl ?_
          refine rb_getI hC fr_X11_220_1 (rb_obFig hk98) rfl dX11_dance_116 ?_
          cases h
          exact rb_iret hC dX11_dance_119
      · replace h := rb_ifn c6 h
        refine rb_aload_n hC 0 dX11_dance_34 rfl ?_
        refine rb_iconst (x := 4) hC dX11_dance_35 (by decide) ?_
        obtain ⟨r31, s29, q30, h⟩ := rb_b2s h
        refine rb_callVi hC rb_VokX mv_X11_303 (xc_RP_refuse 4 σ _ _ q30) rb_obX0 rfl [.int 4] rfl rfl rfl ⟨Nat.le_of_ble_eq_true rfl, Nat.le_of_ble_eq_true rfl⟩ (Nat.le_of_ble_eq_true rfl) dX11_dance_36 ?_
        cases h
        exact rb_iret hC dX11_dance_39
    · replace h := rb_ifp c5 h
      refine rb_aload_n hC 0 dX11_dance_15 rfl ?_
      refine rb_iconst (x := 0) hC dX11_dance_16 (by decide) ?_
      obtain ⟨r34, s32, q33, h⟩ := rb_b2s h
      refine rb_callVi hC rb_VokX mv_X11_303 (xc_RP_refuse 0 σ _ _ q33) rb_obX0 rfl [.int 0] rfl rfl rfl ⟨Nat.le_of_ble_eq_true rfl, Nat.le_of_ble_eq_true rfl⟩ (Nat.le_of_ble_eq_true rfl) dX11_dance_17 ?_
      cases h
      exact rb_iret hC dX11_dance_20
theorem xc_RP_dance (p0 : Int32) (σ : rb_St) (r : Int32) (σ9 : rb_St) (h : xf_RP_dance p0 σ = some (r, σ9)) : rb_Con rb_vX yX11_dance cX11_dance 5 (some .int) 7 (fun w => [.ref (rb_ad w 0), .int p0]) σ (fun _ => (some (.int r))) σ9 := rb_Con.of (by decide +kernel) (fun _ => Nat.le_of_ble_eq_true rfl) (fun z w hC => xk_RP_dance hC p0 σ r σ9 h)
theorem me_X7_undoingLetter : Cond.instanceMethod yX7_undoingLetter ∈ rb_tbl ∧ Cond.selects yX7_undoingLetter.cls yX7_undoingLetter yX7_undoingLetter ∈ rb_tbl ∧ Cond.initialized yX7_undoingLetter.cls ∈ rb_tbl ∧ Cond.code yX7_undoingLetter cX7_undoingLetter 3 (some .int) ∈ rb_tbl ∧ rb_pn yX7_undoingLetter 0 := ⟨rb_in (by decide +kernel) (by decide +kernel), rb_in (by decide +kernel) (by decide +kernel), rb_in (by decide +kernel) (by decide +kernel), rb_in (by decide +kernel) (by decide +kernel), by decide +kernel, by decide +kernel, by decide +kernel⟩
theorem mv_X11_316 : rb_MV RX11 316 yX7_undoingLetter cX7_undoingLetter 3 (some .int) 0 := ⟨rb_in (by decide +kernel) (by decide +kernel), me_X7_undoingLetter⟩
def xl_RP_down_67 (x1 : Int32) : Nat → Int32 → rb_St → Option (Nat × Int32 × rb_St)
  | 0, _, _ => none
  | n + 1, x2, σ => if x1 ≤ x2 then some (1, x2, σ) else if (σ.1 58 1) = 0 then some (0, x2, σ) else if (σ.1 58 3) < 999 then rb_b1 (xf_Pole_undoingLetter 58 σ) fun r12 => rb_b2 (xf_RP_takeBeat r12 σ) fun r16 s14 => xl_RP_down_67 x1 n (x2 + 1) s14 else some (0, x2, σ)
set_option maxHeartbeats 4000000 in
set_option maxRecDepth 100000 in
theorem xt_RP_down_67 {z : rb_Z} {w : rb_Wd} {Q : State → Prop} (hC : rb_Cx z rb_vX w RX11 cX11_down 3 (some .int) 7) (x1 : Int32) : ∀ (n : Nat) (x2 : Int32) (σ : rb_St) (t : Nat) (y2 : Int32) (σ9 : rb_St), xl_RP_down_67 x1 n x2 σ = some (t, y2, σ9) → (t = 0 → rb_At z rb_vX w 3 Q 95 [(2, .int y2)] [] σ9) → (t = 1 → rb_At z rb_vX w 3 Q 115 [(1, .int x1)] [] σ9) → rb_At z rb_vX w 3 Q 67 [(0, .ref (rb_ad w 0)), (1, .int x1), (2, .int x2)] [] σ := by
  intro n
  induction n with
  | zero =>
    intro x2 σ t y2 σ9 h hE0 hE1
    cases h
  | succ n ih =>
    intro x2 σ t y2 σ9 h hE0 hE1
    rw [xl_RP_down_67] at h
    refine rb_iload_n hC 2 dX11_down_67 rfl ?_
    refine rb_iload_n hC 1 dX11_down_68 rfl ?_
    refine rb_icmp_ge hC 115 dX11_down_69 (by decide) (fun c9 => ?_) (fun c9 => ?_)
    · replace h := rb_ifp c9 h
      cases h
      exact rb_sub [1] rfl (hE1 rfl)
    · replace h := rb_ifn c9 h
      refine rb_aload_n hC 0 dX11_down_72 rfl ?_
      refine rb_getR hC fr_X11_49_10 rb_obX0 rfl dX11_down_73 ?_
      refine rb_getI hC fr_X11_224_7 (rb_obPole rb_isPole58) rfl dX11_down_76 ?_
      refine rb_if_eq hC 95 dX11_down_79 (by decide) (fun c10 => ?_) (fun c10 => ?_)
      · replace h := rb_ifp c10 h
        cases h
        exact rb_sub [2] rfl (hE0 rfl)
      · replace h := rb_ifn c10 h
        refine rb_aload_n hC 0 dX11_down_82 rfl ?_
        refine rb_getR hC fr_X11_49_10 rb_obX0 rfl dX11_down_83 ?_
        refine rb_getI hC fr_X11_250_7 (rb_obPole rb_isPole58) rfl dX11_down_86 ?_
        refine rb_sipush (x := 999) hC dX11_down_89 (by decide) ?_
        refine rb_icmp_lt hC 97 dX11_down_92 (by decide) (fun c11 => ?_) (fun c11 => ?_)
        · replace h := rb_ifp c11 h
          refine rb_aload_n hC 0 dX11_down_97 rfl ?_
          refine rb_aload_n hC 0 dX11_down_98 rfl ?_
          refine rb_getR hC fr_X11_49_10 rb_obX0 rfl dX11_down_99 ?_
          obtain ⟨r12, q13, h⟩ := rb_b1s h
          refine rb_callVi hC rb_VokX mv_X11_316 (xc_Pole_undoingLetter 58 rb_isPole58 σ _ q13) (rb_obPole rb_isPole58) rfl [] rfl rfl rfl ⟨Nat.le_of_ble_eq_true rfl, Nat.le_of_ble_eq_true rfl⟩ (Nat.le_of_ble_eq_true rfl) dX11_down_102 ?_
          obtain ⟨r16, s14, q15, h⟩ := rb_b2s h
          refine rb_callVi hC rb_VokX mv_X11_313 (xc_RP_takeBeat r12 σ _ _ q15) rb_obX0 rfl [.int r12] rfl rfl rfl ⟨Nat.le_of_ble_eq_true rfl, Nat.le_of_ble_eq_true rfl⟩ (Nat.le_of_ble_eq_true rfl) dX11_down_105 ?_
          refine rb_pop hC dX11_down_108 rfl ?_
          refine rb_iinc hC 2 [(2, .int (x2 + 1)), (0, .ref (rb_ad w 0)), (1, .int x1)] dX11_down_109 rfl rfl (by decide) rfl ?_
          refine rb_goto hC 67 dX11_down_112 (by decide) ?_
          exact rb_sub [1, 2, 0] rfl (ih (x2 + 1) s14 _ _ _ h hE0 hE1)
        · replace h := rb_ifn c11 h
          cases h
          exact rb_sub [2] rfl (hE0 rfl)
def xf_RP_down (p0 : Int32) (σ : rb_St) : Option (Int32 × rb_St) := if (xf_RP_hasGreen σ) = 0 then rb_b2 (xf_RP_refuse 0 σ) fun r32 s30 => some (r32, s30) else if p0 < 1 then rb_b2 (xf_RP_refuse 1 σ) fun r5 s3 => some (r5, s3) else if p0 ≤ 9 then if (σ.1 58 1) = 0 then rb_b2 (xf_RP_refuse 2 σ) fun r26 s24 => some (r26, s24) else if (σ.1 58 3) < 999 then rb_b3 (xl_RP_down_67 p0 rb_FU 0 σ) fun t17 y18 s19 => if t17 = 0 then some (y18, s19) else some (p0, s19) else rb_b2 (xf_RP_refuse 4 σ) fun r23 s21 => some (r23, s21) else rb_b2 (xf_RP_refuse 1 σ) fun r29 s27 => some (r29, s27)
set_option maxHeartbeats 4000000 in
set_option maxRecDepth 100000 in
theorem xk_RP_down {z : rb_Z} {w : rb_Wd} (hC : rb_Cx z rb_vX w RX11 cX11_down 3 (some .int) 7) (p0 : Int32) (σ : rb_St) (r : Int32) (σ9 : rb_St) (h : xf_RP_down p0 σ = some (r, σ9)) : rb_At z rb_vX w 3 (rb_Q z rb_vX w (some (.int r)) σ9) 0 [(0, .ref (rb_ad w 0)), (1, .int p0)] [] σ := by
  unfold xf_RP_down at h
  refine rb_aload_n hC 0 dX11_down_0 rfl ?_
  refine rb_callVi hC rb_VokX mv_X11_176 (xc_RP_hasGreen  σ _ rfl) rb_obX0 rfl [] rfl rfl rfl ⟨Nat.le_of_ble_eq_true rfl, Nat.le_of_ble_eq_true rfl⟩ (Nat.le_of_ble_eq_true rfl) dX11_down_1 ?_
  refine rb_if_ne hC 13 dX11_down_4 (by decide) (fun c1 => ?_) (fun c1 => ?_)
  · replace h := rb_ifn c1 h
    refine rb_iload_n hC 1 dX11_down_13 rfl ?_
    refine rb_iconst (x := 1) hC dX11_down_14 (by decide) ?_
    refine rb_icmp_lt hC 24 dX11_down_15 (by decide) (fun c2 => ?_) (fun c2 => ?_)
    · replace h := rb_ifp c2 h
      refine rb_aload_n hC 0 dX11_down_24 rfl ?_
      refine rb_iconst (x := 1) hC dX11_down_25 (by decide) ?_
      obtain ⟨r5, s3, q4, h⟩ := rb_b2s h
      refine rb_callVi hC rb_VokX mv_X11_303 (xc_RP_refuse 1 σ _ _ q4) rb_obX0 rfl [.int 1] rfl rfl rfl ⟨Nat.le_of_ble_eq_true rfl, Nat.le_of_ble_eq_true rfl⟩ (Nat.le_of_ble_eq_true rfl) dX11_down_26 ?_
      cases h
      exact rb_iret hC dX11_down_29
    · replace h := rb_ifn c2 h
      refine rb_iload_n hC 1 dX11_down_18 rfl ?_
      refine rb_bipush (x := 9) hC dX11_down_19 (by decide) ?_
      refine rb_icmp_le hC 30 dX11_down_21 (by decide) (fun c6 => ?_) (fun c6 => ?_)
      · replace h := rb_ifp c6 h
        refine rb_aload_n hC 0 dX11_down_30 rfl ?_
        refine rb_getR hC fr_X11_49_10 rb_obX0 rfl dX11_down_31 ?_
        refine rb_getI hC fr_X11_224_7 (rb_obPole rb_isPole58) rfl dX11_down_34 ?_
        refine rb_if_ne hC 46 dX11_down_37 (by decide) (fun c7 => ?_) (fun c7 => ?_)
        · replace h := rb_ifn c7 h
          refine rb_aload_n hC 0 dX11_down_46 rfl ?_
          refine rb_getR hC fr_X11_49_10 rb_obX0 rfl dX11_down_47 ?_
          refine rb_getI hC fr_X11_250_7 (rb_obPole rb_isPole58) rfl dX11_down_50 ?_
          refine rb_sipush (x := 999) hC dX11_down_53 (by decide) ?_
          refine rb_icmp_lt hC 65 dX11_down_56 (by decide) (fun c8 => ?_) (fun c8 => ?_)
          · replace h := rb_ifp c8 h
            refine rb_iconst (x := 0) hC dX11_down_65 (by decide) ?_
            refine rb_istore_n hC [(2, .int 0), (0, .ref (rb_ad w 0)), (1, .int p0)] dX11_down_66 (by decide) rfl ?_
            obtain ⟨t17, y18, s19, q20, h⟩ := rb_b3s h
            refine rb_sub (lv2 := [(0, .ref (rb_ad w 0)), (1, .int p0), (2, .int 0)]) [1, 2, 0] rfl ?_
            refine xt_RP_down_67 hC p0 rb_FU 0 σ _ _ _ q20 (fun ht => ?_) (fun ht => ?_)
            · subst ht
              replace h := rb_ifp rfl h
              refine rb_iload_n hC 0 dX11_down_95 rfl ?_
              cases h
              exact rb_iret hC dX11_down_96
            · subst ht
              replace h := rb_ifn (by decide) h
              refine rb_iload_n hC 0 dX11_down_115 rfl ?_
              cases h
              exact rb_iret hC dX11_down_116
          · replace h := rb_ifn c8 h
            refine rb_aload_n hC 0 dX11_down_59 rfl ?_
            refine rb_iconst (x := 4) hC dX11_down_60 (by decide) ?_
            obtain ⟨r23, s21, q22, h⟩ := rb_b2s h
            refine rb_callVi hC rb_VokX mv_X11_303 (xc_RP_refuse 4 σ _ _ q22) rb_obX0 rfl [.int 4] rfl rfl rfl ⟨Nat.le_of_ble_eq_true rfl, Nat.le_of_ble_eq_true rfl⟩ (Nat.le_of_ble_eq_true rfl) dX11_down_61 ?_
            cases h
            exact rb_iret hC dX11_down_64
        · replace h := rb_ifp c7 h
          refine rb_aload_n hC 0 dX11_down_40 rfl ?_
          refine rb_iconst (x := 2) hC dX11_down_41 (by decide) ?_
          obtain ⟨r26, s24, q25, h⟩ := rb_b2s h
          refine rb_callVi hC rb_VokX mv_X11_303 (xc_RP_refuse 2 σ _ _ q25) rb_obX0 rfl [.int 2] rfl rfl rfl ⟨Nat.le_of_ble_eq_true rfl, Nat.le_of_ble_eq_true rfl⟩ (Nat.le_of_ble_eq_true rfl) dX11_down_42 ?_
          cases h
          exact rb_iret hC dX11_down_45
      · replace h := rb_ifn c6 h
        refine rb_aload_n hC 0 dX11_down_24 rfl ?_
        refine rb_iconst (x := 1) hC dX11_down_25 (by decide) ?_
        obtain ⟨r29, s27, q28, h⟩ := rb_b2s h
        refine rb_callVi hC rb_VokX mv_X11_303 (xc_RP_refuse 1 σ _ _ q28) rb_obX0 rfl [.int 1] rfl rfl rfl ⟨Nat.le_of_ble_eq_true rfl, Nat.le_of_ble_eq_true rfl⟩ (Nat.le_of_ble_eq_true rfl) dX11_down_26 ?_
        cases h
        exact rb_iret hC dX11_down_29
  · replace h := rb_ifp c1 h
    refine rb_aload_n hC 0 dX11_down_7 rfl ?_
    refine rb_iconst (x := 0) hC dX11_down_8 (by decide) ?_
    obtain ⟨r32, s30, q31, h⟩ := rb_b2s h
    refine rb_callVi hC rb_VokX mv_X11_303 (xc_RP_refuse 0 σ _ _ q31) rb_obX0 rfl [.int 0] rfl rfl rfl ⟨Nat.le_of_ble_eq_true rfl, Nat.le_of_ble_eq_true rfl⟩ (Nat.le_of_ble_eq_true rfl) dX11_down_9 ?_
    cases h
    exact rb_iret hC dX11_down_12
theorem xc_RP_down (p0 : Int32) (σ : rb_St) (r : Int32) (σ9 : rb_St) (h : xf_RP_down p0 σ = some (r, σ9)) : rb_Con rb_vX yX11_down cX11_down 3 (some .int) 7 (fun w => [.ref (rb_ad w 0), .int p0]) σ (fun _ => (some (.int r))) σ9 := rb_Con.of (by decide +kernel) (fun _ => Nat.le_of_ble_eq_true rfl) (fun z w hC => xk_RP_down hC p0 σ r σ9 h)
theorem me_X11_draw : Cond.instanceMethod yX11_draw ∈ rb_tbl ∧ Cond.selects yX11_draw.cls yX11_draw yX11_draw ∈ rb_tbl ∧ Cond.initialized yX11_draw.cls ∈ rb_tbl ∧ Cond.code yX11_draw cX11_draw 2 (some .int) ∈ rb_tbl ∧ rb_pn yX11_draw 1 := ⟨rb_in (by decide +kernel) (by decide +kernel), rb_in (by decide +kernel) (by decide +kernel), rb_in (by decide +kernel) (by decide +kernel), rb_in (by decide +kernel) (by decide +kernel), by decide +kernel, by decide +kernel, by decide +kernel⟩
theorem mv_X11_323 : rb_MV RX11 323 yX11_draw cX11_draw 2 (some .int) 1 := ⟨rb_in (by decide +kernel) (by decide +kernel), me_X11_draw⟩
def xj_RP_years_91 (rc : Int32 → rb_St → Option (rb_St)) (x1 : Int32) (x4 : Int32) (u0 : Int32) (σ : rb_St) : Option (rb_St) := rb_b2 (xf_RP_takeBeat u0 σ) fun r20 s18 => rb_b2 (xf_RP_draw 10 s18) fun r23 s21 => if (xf_Green_wind s21) ≤ r23 then rc (x4 + 1) s21 else if (s21.1 58 1) ≤ 0 then rc (x4 + 1) s21 else rb_b1 (xf_Pole_undoingLetter 58 s21) fun r26 => rb_b2 (xf_RP_moveOn 58 r26 s21) fun r30 s28 => rc (x4 + 1) s28
set_option maxHeartbeats 4000000 in
set_option maxRecDepth 100000 in
theorem xu_RP_years_91 {z : rb_Z} {w : rb_Wd} {Q : State → Prop} (hC : rb_Cx z rb_vX w RX11 cX11_years 6 (some .int) 7)  (rc : Int32 → rb_St → Option (rb_St)) (x1 : Int32) (x4 : Int32) (u0 : Int32) (σ : rb_St) (σ9 : rb_St) (h : xj_RP_years_91 rc x1 x4 u0 σ = some σ9) (hrc : ∀ (b4 : Int32) (τ : rb_St), rc b4 τ = some σ9 → rb_At z rb_vX w 6 Q 43 [(0, .ref (rb_ad w 0)), (1, .int x1), (4, .int b4)] [] τ) (hE0 : rb_At z rb_vX w 6 Q 143 [(0, .ref (rb_ad w 0))] [] σ9) : rb_At z rb_vX w 6 Q 91 [(0, .ref (rb_ad w 0)), (1, .int x1), (4, .int x4)] [.int u0, .ref (rb_ad w 0)] σ := by
  unfold xj_RP_years_91 at h
  obtain ⟨r20, s18, q19, h⟩ := rb_b2s h
  refine rb_callVi hC rb_VokX mv_X11_313 (xc_RP_takeBeat u0 σ _ _ q19) rb_obX0 rfl [.int u0] rfl rfl rfl ⟨Nat.le_of_ble_eq_true rfl, Nat.le_of_ble_eq_true rfl⟩ (Nat.le_of_ble_eq_true rfl) dX11_years_91 ?_
  refine rb_pop hC dX11_years_94 rfl ?_
  refine rb_aload_n hC 0 dX11_years_95 rfl ?_
  refine rb_bipush (x := 10) hC dX11_years_96 (by decide) ?_
  obtain ⟨r23, s21, q22, h⟩ := rb_b2s h
  refine rb_callVi hC rb_VokX mv_X11_323 (xc_RP_draw 10 s18 _ _ q22) rb_obX0 rfl [.int 10] rfl rfl rfl ⟨Nat.le_of_ble_eq_true rfl, Nat.le_of_ble_eq_true rfl⟩ (Nat.le_of_ble_eq_true rfl) dX11_years_98 ?_
  refine rb_aload_n hC 0 dX11_years_101 rfl ?_
  refine rb_getR hC fr_X11_42_10 rb_obX0 rfl dX11_years_102 ?_
  refine rb_callVi hC rb_VokX mv_X11_185 (xc_Green_wind  s21 _ rfl) rb_obX15 rfl [] rfl rfl rfl ⟨Nat.le_of_ble_eq_true rfl, Nat.le_of_ble_eq_true rfl⟩ (Nat.le_of_ble_eq_true rfl) dX11_years_105 ?_
  refine rb_icmp_ge hC 137 dX11_years_108 (by decide) (fun c24 => ?_) (fun c24 => ?_)
  · replace h := rb_ifp c24 h
    refine rb_iinc hC 2 [(4, .int (x4 + 1)), (0, .ref (rb_ad w 0)), (1, .int x1)] dX11_years_137 rfl rfl (by decide) rfl ?_
    refine rb_goto hC 43 dX11_years_140 (by decide) ?_
    exact rb_sub [1, 2, 0] rfl (hrc (x4 + 1) s21 h)
  · replace h := rb_ifn c24 h
    refine rb_aload_n hC 0 dX11_years_111 rfl ?_
    refine rb_getR hC fr_X11_49_10 rb_obX0 rfl dX11_years_112 ?_
    refine rb_getI hC fr_X11_224_7 (rb_obPole rb_isPole58) rfl dX11_years_115 ?_
    refine rb_if_le hC 137 dX11_years_118 (by decide) (fun c25 => ?_) (fun c25 => ?_)
    · replace h := rb_ifp c25 h
      refine rb_iinc hC 2 [(4, .int (x4 + 1)), (0, .ref (rb_ad w 0)), (1, .int x1)] dX11_years_137 rfl rfl (by decide) rfl ?_
      refine rb_goto hC 43 dX11_years_140 (by decide) ?_
      exact rb_sub [1, 2, 0] rfl (hrc (x4 + 1) s21 h)
    · replace h := rb_ifn c25 h
      refine rb_aload_n hC 0 dX11_years_121 rfl ?_
      refine rb_aload_n hC 0 dX11_years_122 rfl ?_
      refine rb_getR hC fr_X11_49_10 rb_obX0 rfl dX11_years_123 ?_
      refine rb_aload_n hC 0 dX11_years_126 rfl ?_
      refine rb_getR hC fr_X11_49_10 rb_obX0 rfl dX11_years_127 ?_
      obtain ⟨r26, q27, h⟩ := rb_b1s h
      refine rb_callVi hC rb_VokX mv_X11_316 (xc_Pole_undoingLetter 58 rb_isPole58 s21 _ q27) (rb_obPole rb_isPole58) rfl [] rfl rfl rfl ⟨Nat.le_of_ble_eq_true rfl, Nat.le_of_ble_eq_true rfl⟩ (Nat.le_of_ble_eq_true rfl) dX11_years_130 ?_
      obtain ⟨r30, s28, q29, h⟩ := rb_b2s h
      refine rb_callVi hC rb_VokX mv_X11_297 (xc_RP_moveOn 58 rb_isPole58 r26 s21 _ _ q29) rb_obX0 rfl [.ref (rb_ad w 58), .int r26] rfl rfl rfl ⟨Nat.le_of_ble_eq_true rfl, Nat.le_of_ble_eq_true rfl⟩ (Nat.le_of_ble_eq_true rfl) dX11_years_133 ?_
      refine rb_pop hC dX11_years_136 rfl ?_
      refine rb_iinc hC 2 [(4, .int (x4 + 1)), (0, .ref (rb_ad w 0)), (1, .int x1)] dX11_years_137 rfl rfl (by decide) rfl ?_
      refine rb_goto hC 43 dX11_years_140 (by decide) ?_
      exact rb_sub [1, 2, 0] rfl (hrc (x4 + 1) s28 h)
def xl_RP_years_43 (x1 : Int32) : Nat → Int32 → rb_St → Option (rb_St)
  | 0, _, _ => none
  | n + 1, x4, σ => if x1 ≤ x4 then some σ else rb_b2 (xf_RP_draw (σ.1 15 2) σ) fun r10 s8 => rb_b2 (xf_RP_draw 2 s8) fun r13 s11 => rb_b2 (xf_RP_hindranceOf ((2 * r10) + r13) s11) fun r16 s14 => if r16 = 0 then xj_RP_years_91 (fun b4 τ => xl_RP_years_43 x1 n b4 τ) x1 x4 ((2 * r10) + r13) s14 else xj_RP_years_91 (fun b4 τ => xl_RP_years_43 x1 n b4 τ) x1 x4 20 s14
set_option maxHeartbeats 4000000 in
set_option maxRecDepth 100000 in
theorem xt_RP_years_43 {z : rb_Z} {w : rb_Wd} {Q : State → Prop} (hC : rb_Cx z rb_vX w RX11 cX11_years 6 (some .int) 7) (x1 : Int32) : ∀ (n : Nat) (x4 : Int32) (σ : rb_St) (σ9 : rb_St), xl_RP_years_43 x1 n x4 σ = some σ9 → rb_At z rb_vX w 6 Q 143 [(0, .ref (rb_ad w 0))] [] σ9 → rb_At z rb_vX w 6 Q 43 [(0, .ref (rb_ad w 0)), (1, .int x1), (4, .int x4)] [] σ := by
  intro n
  induction n with
  | zero =>
    intro x4 σ σ9 h hE0
    cases h
  | succ n ih =>
    intro x4 σ σ9 h hE0
    rw [xl_RP_years_43] at h
    refine rb_iload hC 2 dX11_years_43 rfl ?_
    refine rb_iload_n hC 1 dX11_years_45 rfl ?_
    refine rb_icmp_ge hC 143 dX11_years_46 (by decide) (fun c7 => ?_) (fun c7 => ?_)
    · replace h := rb_ifp c7 h
      cases h
      exact rb_sub [0] rfl (hE0)
    · replace h := rb_ifn c7 h
      refine rb_iconst (x := 2) hC dX11_years_49 (by decide) ?_
      refine rb_aload_n hC 0 dX11_years_50 rfl ?_
      refine rb_aload_n hC 0 dX11_years_51 rfl ?_
      refine rb_getR hC fr_X11_42_10 rb_obX0 rfl dX11_years_52 ?_
      refine rb_getI hC fr_X11_155_3 rb_obX15 rfl dX11_years_55 ?_
      obtain ⟨r10, s8, q9, h⟩ := rb_b2s h
      refine rb_callVi hC rb_VokX mv_X11_323 (xc_RP_draw (σ.1 15 2) σ _ _ q9) rb_obX0 rfl [.int (σ.1 15 2)] rfl rfl rfl ⟨Nat.le_of_ble_eq_true rfl, Nat.le_of_ble_eq_true rfl⟩ (Nat.le_of_ble_eq_true rfl) dX11_years_58 ?_
      refine rb_imul hC dX11_years_61 ?_
      refine rb_istore hC [(5, .int (2 * r10)), (0, .ref (rb_ad w 0)), (1, .int x1), (4, .int x4)] dX11_years_62 (by decide) rfl ?_
      refine rb_iload hC 0 dX11_years_64 rfl ?_
      refine rb_aload_n hC 1 dX11_years_66 rfl ?_
      refine rb_iconst (x := 2) hC dX11_years_67 (by decide) ?_
      obtain ⟨r13, s11, q12, h⟩ := rb_b2s h
      refine rb_callVi hC rb_VokX mv_X11_323 (xc_RP_draw 2 s8 _ _ q12) rb_obX0 rfl [.int 2] rfl rfl rfl ⟨Nat.le_of_ble_eq_true rfl, Nat.le_of_ble_eq_true rfl⟩ (Nat.le_of_ble_eq_true rfl) dX11_years_68 ?_
      refine rb_iadd hC dX11_years_71 ?_
      refine rb_istore hC [(5, .int ((2 * r10) + r13)), (0, .ref (rb_ad w 0)), (1, .int x1), (4, .int x4)] dX11_years_72 (by decide) rfl ?_
      refine rb_aload_n hC 1 dX11_years_74 rfl ?_
      refine rb_aload_n hC 1 dX11_years_75 rfl ?_
      refine rb_iload hC 0 dX11_years_76 rfl ?_
      obtain ⟨r16, s14, q15, h⟩ := rb_b2s h
      refine rb_callVi hC rb_VokX mv_X11_310 (xc_RP_hindranceOf ((2 * r10) + r13) s11 _ _ q15) rb_obX0 rfl [.int ((2 * r10) + r13)] rfl rfl rfl ⟨Nat.le_of_ble_eq_true rfl, Nat.le_of_ble_eq_true rfl⟩ (Nat.le_of_ble_eq_true rfl) dX11_years_78 ?_
      refine rb_if_ne hC 89 dX11_years_81 (by decide) (fun c17 => ?_) (fun c17 => ?_)
      · replace h := rb_ifn c17 h
        refine rb_bipush (x := 20) hC dX11_years_89 (by decide) ?_
        exact rb_sub [1, 2, 3] rfl (xu_RP_years_91 hC (fun b4 τ => xl_RP_years_43 x1 n b4 τ) x1 x4 20 s14 _ h (fun b4 τ hq => ih b4 τ _ hq hE0) hE0)
      · replace h := rb_ifp c17 h
        refine rb_iload hC 0 dX11_years_84 rfl ?_
        refine rb_goto hC 91 dX11_years_86 (by decide) ?_
        exact rb_sub [1, 2, 3] rfl (xu_RP_years_91 hC (fun b4 τ => xl_RP_years_43 x1 n b4 τ) x1 x4 ((2 * r10) + r13) s14 _ h (fun b4 τ hq => ih b4 τ _ hq hE0) hE0)
def xf_RP_years (p0 : Int32) (p1 : Int64) (σ : rb_St) : Option (Int32 × rb_St) := if (xf_RP_hasGreen σ) = 0 then some ((-1), σ) else if p0 < 1 then some ((-1), σ) else if 60 < p0 then some ((-1), σ) else if ((σ.1 58 3) + p0) ≤ 999 then rb_lt (rb_sL σ p1) (fun s5 => rb_b1 (xl_RP_years_43 p0 rb_FU 0 s5) fun s31 => some (s31.1 58 3, s31)) else some ((-1), σ)
set_option maxHeartbeats 4000000 in
set_option maxRecDepth 100000 in
theorem xk_RP_years {z : rb_Z} {w : rb_Wd} (hC : rb_Cx z rb_vX w RX11 cX11_years 6 (some .int) 7) (p0 : Int32) (p1 : Int64) (σ : rb_St) (r : Int32) (σ9 : rb_St) (h : xf_RP_years p0 p1 σ = some (r, σ9)) : rb_At z rb_vX w 6 (rb_Q z rb_vX w (some (.int r)) σ9) 0 [(0, .ref (rb_ad w 0)), (1, .int p0), (2, .long p1)] [] σ := by
  unfold xf_RP_years at h
  refine rb_aload_n hC 0 dX11_years_0 rfl ?_
  refine rb_callVi hC rb_VokX mv_X11_176 (xc_RP_hasGreen  σ _ rfl) rb_obX0 rfl [] rfl rfl rfl ⟨Nat.le_of_ble_eq_true rfl, Nat.le_of_ble_eq_true rfl⟩ (Nat.le_of_ble_eq_true rfl) dX11_years_1 ?_
  refine rb_if_eq hC 33 dX11_years_4 (by decide) (fun c1 => ?_) (fun c1 => ?_)
  · replace h := rb_ifp c1 h
    refine rb_iconst (x := (-1)) hC dX11_years_33 (by decide) ?_
    cases h
    exact rb_iret hC dX11_years_34
  · replace h := rb_ifn c1 h
    refine rb_iload_n hC 1 dX11_years_7 rfl ?_
    refine rb_iconst (x := 1) hC dX11_years_8 (by decide) ?_
    refine rb_icmp_lt hC 33 dX11_years_9 (by decide) (fun c2 => ?_) (fun c2 => ?_)
    · replace h := rb_ifp c2 h
      refine rb_iconst (x := (-1)) hC dX11_years_33 (by decide) ?_
      cases h
      exact rb_iret hC dX11_years_34
    · replace h := rb_ifn c2 h
      refine rb_iload_n hC 1 dX11_years_12 rfl ?_
      refine rb_bipush (x := 60) hC dX11_years_13 (by decide) ?_
      refine rb_icmp_gt hC 33 dX11_years_15 (by decide) (fun c3 => ?_) (fun c3 => ?_)
      · replace h := rb_ifp c3 h
        refine rb_iconst (x := (-1)) hC dX11_years_33 (by decide) ?_
        cases h
        exact rb_iret hC dX11_years_34
      · replace h := rb_ifn c3 h
        refine rb_aload_n hC 0 dX11_years_18 rfl ?_
        refine rb_getR hC fr_X11_49_10 rb_obX0 rfl dX11_years_19 ?_
        refine rb_getI hC fr_X11_250_7 (rb_obPole rb_isPole58) rfl dX11_years_22 ?_
        refine rb_iload_n hC 1 dX11_years_25 rfl ?_
        refine rb_iadd hC dX11_years_26 ?_
        refine rb_sipush (x := 999) hC dX11_years_27 (by decide) ?_
        refine rb_icmp_le hC 35 dX11_years_30 (by decide) (fun c4 => ?_) (fun c4 => ?_)
        · replace h := rb_ifp c4 h
          refine rb_aload_n hC 0 dX11_years_35 rfl ?_
          refine rb_lload_n hC 2 dX11_years_36 rfl ?_
          refine rb_putJ hC fr_X11_319_10 ft_10_19 rb_obX0 rfl (rb_huOf rfl) rb_noX dX11_years_37 ?_
          obtain ⟨s5, e6, h⟩ := rb_ltE h
          refine rb_nmS e6 ?_
          refine rb_iconst (x := 0) hC dX11_years_40 (by decide) ?_
          refine rb_istore hC [(4, .int 0), (0, .ref (rb_ad w 0)), (1, .int p0), (2, .long p1)] dX11_years_41 (by decide) rfl ?_
          obtain ⟨s31, q32, h⟩ := rb_b1s h
          refine rb_sub (lv2 := [(0, .ref (rb_ad w 0)), (1, .int p0), (4, .int 0)]) [1, 2, 0] rfl ?_
          refine xt_RP_years_43 hC p0 rb_FU 0 s5 _ q32 ?_
          refine rb_aload_n hC 0 dX11_years_143 rfl ?_
          refine rb_getR hC fr_X11_49_10 rb_obX0 rfl dX11_years_144 ?_
          refine rb_getI hC fr_X11_250_7 (rb_obPole rb_isPole58) rfl dX11_years_147 ?_
          cases h
          exact rb_iret hC dX11_years_150
        · replace h := rb_ifn c4 h
          refine rb_iconst (x := (-1)) hC dX11_years_33 (by decide) ?_
          cases h
          exact rb_iret hC dX11_years_34
theorem xc_RP_years (p0 : Int32) (p1 : Int64) (σ : rb_St) (r : Int32) (σ9 : rb_St) (h : xf_RP_years p0 p1 σ = some (r, σ9)) : rb_Con rb_vX yX11_years cX11_years 6 (some .int) 7 (fun w => [.ref (rb_ad w 0), .int p0, .long p1]) σ (fun _ => (some (.int r))) σ9 := rb_Con.of (by decide +kernel) (fun _ => Nat.le_of_ble_eq_true rfl) (fun z w hC => xk_RP_years hC p0 p1 σ r σ9 h)
