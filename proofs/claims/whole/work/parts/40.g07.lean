def xf_M_letterOf (p0 : Int32) (σ : rb_St) : Int32 := if p0 = 116 then 0 else if p0 = 115 then 1 else if p0 = 117 then 2 else if p0 = 110 then 3 else if p0 = 104 then 4 else if p0 = 98 then 5 else (-1)
set_option maxHeartbeats 4000000 in
set_option maxRecDepth 100000 in
theorem xk_M_letterOf {z : rb_Z} {w : rb_Wd} (hC : rb_Cx z rb_vM w RX12 cX12_letterOf 1 (some .int) 0) (p0 : Int32) (σ : rb_St) (r : Int32) (h : xf_M_letterOf p0 σ = r) : rb_At z rb_vM w 1 (rb_Q z rb_vM w (some (.int r)) σ) 0 [(0, .int p0)] [] σ := by
  unfold xf_M_letterOf at h
  refine rb_iload_n hC 0 dX12_letterOf_0 rfl ?_
  refine rb_bipush (x := 116) hC dX12_letterOf_1 (by decide) ?_
  refine rb_icmp_ne hC 10 dX12_letterOf_3 (by decide) (fun c1 => ?_) (fun c1 => ?_)
  · replace h := rb_ifn c1 h
    refine rb_iload_n hC 0 dX12_letterOf_10 rfl ?_
    refine rb_bipush (x := 115) hC dX12_letterOf_11 (by decide) ?_
    refine rb_icmp_ne hC 20 dX12_letterOf_13 (by decide) (fun c2 => ?_) (fun c2 => ?_)
    · replace h := rb_ifn c2 h
      refine rb_iload_n hC 0 dX12_letterOf_20 rfl ?_
      refine rb_bipush (x := 117) hC dX12_letterOf_21 (by decide) ?_
      refine rb_icmp_ne hC 30 dX12_letterOf_23 (by decide) (fun c3 => ?_) (fun c3 => ?_)
      · replace h := rb_ifn c3 h
        refine rb_iload_n hC 0 dX12_letterOf_30 rfl ?_
        refine rb_bipush (x := 110) hC dX12_letterOf_31 (by decide) ?_
        refine rb_icmp_ne hC 40 dX12_letterOf_33 (by decide) (fun c4 => ?_) (fun c4 => ?_)
        · replace h := rb_ifn c4 h
          refine rb_iload_n hC 0 dX12_letterOf_40 rfl ?_
          refine rb_bipush (x := 104) hC dX12_letterOf_41 (by decide) ?_
          refine rb_icmp_ne hC 50 dX12_letterOf_43 (by decide) (fun c5 => ?_) (fun c5 => ?_)
          · replace h := rb_ifn c5 h
            refine rb_iload_n hC 0 dX12_letterOf_50 rfl ?_
            refine rb_bipush (x := 98) hC dX12_letterOf_51 (by decide) ?_
            refine rb_icmp_ne hC 60 dX12_letterOf_53 (by decide) (fun c6 => ?_) (fun c6 => ?_)
            · replace h := rb_ifn c6 h
              refine rb_iconst (x := (-1)) hC dX12_letterOf_60 (by decide) ?_
              subst h
              exact rb_iret hC dX12_letterOf_61
            · replace h := rb_ifp c6 h
              refine rb_iconst (x := 5) hC dX12_letterOf_56 (by decide) ?_
              refine rb_goto hC 61 dX12_letterOf_57 (by decide) ?_
              subst h
              exact rb_iret hC dX12_letterOf_61
          · replace h := rb_ifp c5 h
            refine rb_iconst (x := 4) hC dX12_letterOf_46 (by decide) ?_
            refine rb_goto hC 61 dX12_letterOf_47 (by decide) ?_
            subst h
            exact rb_iret hC dX12_letterOf_61
        · replace h := rb_ifp c4 h
          refine rb_iconst (x := 3) hC dX12_letterOf_36 (by decide) ?_
          refine rb_goto hC 61 dX12_letterOf_37 (by decide) ?_
          subst h
          exact rb_iret hC dX12_letterOf_61
      · replace h := rb_ifp c3 h
        refine rb_iconst (x := 2) hC dX12_letterOf_26 (by decide) ?_
        refine rb_goto hC 61 dX12_letterOf_27 (by decide) ?_
        subst h
        exact rb_iret hC dX12_letterOf_61
    · replace h := rb_ifp c2 h
      refine rb_iconst (x := 1) hC dX12_letterOf_16 (by decide) ?_
      refine rb_goto hC 61 dX12_letterOf_17 (by decide) ?_
      subst h
      exact rb_iret hC dX12_letterOf_61
  · replace h := rb_ifp c1 h
    refine rb_iconst (x := 0) hC dX12_letterOf_6 (by decide) ?_
    refine rb_goto hC 61 dX12_letterOf_7 (by decide) ?_
    subst h
    exact rb_iret hC dX12_letterOf_61
theorem xc_M_letterOf (p0 : Int32) (σ : rb_St) (r : Int32) (h : xf_M_letterOf p0 σ = r) : rb_Con rb_vM yX12_letterOf cX12_letterOf 1 (some .int) 0 (fun w => [.int p0]) σ (fun _ => (some (.int r))) σ := rb_Con.of (by decide +kernel) (fun _ => Nat.le_of_ble_eq_true rfl) (fun z w hC => xk_M_letterOf hC p0 σ r h)
theorem fr_X12_137_11 : rb_FR RX12 137 11 5 := ⟨RX12, TX12, 50, "RibbonPoleModel", rfl, rb_uX12, by decide, rb_in (by decide +kernel) (by decide +kernel), Or.inl rfl⟩
theorem ft_11_5 : rb_Ty 11 5 .int := ⟨RX12, TX12, 50, tyX12, rfl, tyX12_ok, nmX12, rfl, by decide +kernel⟩
theorem me_X12_bad : Cond.instanceMethod yX12_bad ∈ rb_tbl ∧ Cond.selects yX12_bad.cls yX12_bad yX12_bad ∈ rb_tbl ∧ Cond.initialized yX12_bad.cls ∈ rb_tbl ∧ Cond.code yX12_bad cX12_bad 1 none ∈ rb_tbl ∧ rb_pn yX12_bad 0 := ⟨rb_in (by decide +kernel) (by decide +kernel), rb_in (by decide +kernel) (by decide +kernel), rb_in (by decide +kernel) (by decide +kernel), rb_in (by decide +kernel) (by decide +kernel), by decide +kernel, by decide +kernel, by decide +kernel⟩
theorem mv_X12_140 : rb_MV RX12 140 yX12_bad cX12_bad 1 none 0 := ⟨rb_in (by decide +kernel) (by decide +kernel), me_X12_bad⟩
def xf_M_opens  (σ : rb_St) : Option (rb_St) := if (σ.1 0 5) = 6 then rb_b1 (xf_M_bad σ) fun s6 => rb_lt (rb_sI s6 0 5 ((s6.1 0 5) + 1)) (fun s8 => rb_lt (rb_sI s8 0 3 ((s8.1 0 3) + 1)) (fun s10 => some s10)) else rb_lt (rb_sI σ 0 5 ((σ.1 0 5) + 1)) (fun s2 => rb_lt (rb_sI s2 0 3 ((s2.1 0 3) + 1)) (fun s4 => some s4))
set_option maxHeartbeats 4000000 in
set_option maxRecDepth 100000 in
theorem xk_M_opens {z : rb_Z} {w : rb_Wd} (hC : rb_Cx z rb_vM w RX12 cX12_opens 1 none 1)  (σ : rb_St) (σ9 : rb_St) (h : xf_M_opens σ = some σ9) : rb_At z rb_vM w 1 (rb_Q z rb_vM w none σ9) 0 [(0, .ref (rb_ad w 0))] [] σ := by
  unfold xf_M_opens at h
  refine rb_aload_n hC 0 dX12_opens_0 rfl ?_
  refine rb_getI hC fr_X12_137_11 rb_obM0 rfl dX12_opens_1 ?_
  refine rb_bipush (x := 6) hC dX12_opens_4 (by decide) ?_
  refine rb_icmp_ne hC 13 dX12_opens_6 (by decide) (fun c1 => ?_) (fun c1 => ?_)
  · replace h := rb_ifn c1 h
    refine rb_aload_n hC 0 dX12_opens_13 rfl ?_
    refine rb_dup hC dX12_opens_14 rfl ?_
    refine rb_getI hC fr_X12_137_11 rb_obM0 rfl dX12_opens_15 ?_
    refine rb_iconst (x := 1) hC dX12_opens_18 (by decide) ?_
    refine rb_iadd hC dX12_opens_19 ?_
    refine rb_putI hC fr_X12_137_11 ft_11_5 rb_obM0 rfl rfl rfl dX12_opens_20 ?_
    obtain ⟨s2, e3, h⟩ := rb_ltE h
    refine rb_nmS e3 ?_
    refine rb_aload_n hC 0 dX12_opens_23 rfl ?_
    refine rb_dup hC dX12_opens_24 rfl ?_
    refine rb_getI hC fr_X12_124_11 rb_obM0 rfl dX12_opens_25 ?_
    refine rb_iconst (x := 1) hC dX12_opens_28 (by decide) ?_
    refine rb_iadd hC dX12_opens_29 ?_
    refine rb_putI hC fr_X12_124_11 ft_11_3 rb_obM0 rfl rfl rfl dX12_opens_30 ?_
    obtain ⟨s4, e5, h⟩ := rb_ltE h
    refine rb_nmS e5 ?_
    cases h
    exact rb_vret hC dX12_opens_33
  · replace h := rb_ifp c1 h
    refine rb_aload_n hC 0 dX12_opens_9 rfl ?_
    obtain ⟨s6, q7, h⟩ := rb_b1s h
    refine rb_callVv hC rb_VokM mv_X12_140 (xc_M_bad  σ _ q7) rb_obM0 rfl [] rfl rfl rfl ⟨Nat.le_of_ble_eq_true rfl, Nat.le_of_ble_eq_true rfl⟩ (Nat.le_of_ble_eq_true rfl) dX12_opens_10 ?_
    refine rb_aload_n hC 0 dX12_opens_13 rfl ?_
    refine rb_dup hC dX12_opens_14 rfl ?_
    refine rb_getI hC fr_X12_137_11 rb_obM0 rfl dX12_opens_15 ?_
    refine rb_iconst (x := 1) hC dX12_opens_18 (by decide) ?_
    refine rb_iadd hC dX12_opens_19 ?_
    refine rb_putI hC fr_X12_137_11 ft_11_5 rb_obM0 rfl rfl rfl dX12_opens_20 ?_
    obtain ⟨s8, e9, h⟩ := rb_ltE h
    refine rb_nmS e9 ?_
    refine rb_aload_n hC 0 dX12_opens_23 rfl ?_
    refine rb_dup hC dX12_opens_24 rfl ?_
    refine rb_getI hC fr_X12_124_11 rb_obM0 rfl dX12_opens_25 ?_
    refine rb_iconst (x := 1) hC dX12_opens_28 (by decide) ?_
    refine rb_iadd hC dX12_opens_29 ?_
    refine rb_putI hC fr_X12_124_11 ft_11_3 rb_obM0 rfl rfl rfl dX12_opens_30 ?_
    obtain ⟨s10, e11, h⟩ := rb_ltE h
    refine rb_nmS e11 ?_
    cases h
    exact rb_vret hC dX12_opens_33
theorem xc_M_opens  (σ : rb_St) (σ9 : rb_St) (h : xf_M_opens σ = some σ9) : rb_Con rb_vM yX12_opens cX12_opens 1 none 1 (fun w => [.ref (rb_ad w 0)]) σ (fun _ => none) σ9 := rb_Con.of (by decide +kernel) (fun _ => Nat.le_of_ble_eq_true rfl) (fun z w hC => xk_M_opens hC  σ σ9 h)
theorem me_X12_look : Cond.instanceMethod yX12_look ∈ rb_tbl ∧ Cond.selects yX12_look.cls yX12_look yX12_look ∈ rb_tbl ∧ Cond.initialized yX12_look.cls ∈ rb_tbl ∧ Cond.code yX12_look cX12_look 1 (some .int) ∈ rb_tbl ∧ rb_pn yX12_look 0 := ⟨rb_in (by decide +kernel) (by decide +kernel), rb_in (by decide +kernel) (by decide +kernel), rb_in (by decide +kernel) (by decide +kernel), rb_in (by decide +kernel) (by decide +kernel), by decide +kernel, by decide +kernel, by decide +kernel⟩
theorem mv_X12_143 : rb_MV RX12 143 yX12_look cX12_look 1 (some .int) 0 := ⟨rb_in (by decide +kernel) (by decide +kernel), me_X12_look⟩
def xf_M_closes (p0 : Int32) (σ : rb_St) : Option (rb_St) := if (σ.1 0 4) = (-1) then rb_b2 (xf_M_look σ) fun r8 s6 => if r8 = p0 then rb_lt (rb_sI s6 0 3 ((s6.1 0 3) + 1)) (fun s10 => rb_lt (rb_sI s10 0 5 ((s10.1 0 5) - 1)) (fun s12 => some s12)) else rb_b1 (xf_M_bad s6) fun s14 => rb_lt (rb_sI s14 0 3 ((s14.1 0 3) + 1)) (fun s16 => rb_lt (rb_sI s16 0 5 ((s16.1 0 5) - 1)) (fun s18 => some s18)) else rb_lt (rb_sI σ 0 3 ((σ.1 0 3) + 1)) (fun s2 => rb_lt (rb_sI s2 0 5 ((s2.1 0 5) - 1)) (fun s4 => some s4))
set_option maxHeartbeats 4000000 in
set_option maxRecDepth 100000 in
theorem xk_M_closes {z : rb_Z} {w : rb_Wd} (hC : rb_Cx z rb_vM w RX12 cX12_closes 2 none 2) (p0 : Int32) (σ : rb_St) (σ9 : rb_St) (h : xf_M_closes p0 σ = some σ9) : rb_At z rb_vM w 2 (rb_Q z rb_vM w none σ9) 0 [(0, .ref (rb_ad w 0)), (1, .int p0)] [] σ := by
  unfold xf_M_closes at h
  refine rb_aload_n hC 0 dX12_closes_0 rfl ?_
  refine rb_getI hC fr_X12_131_11 rb_obM0 rfl dX12_closes_1 ?_
  refine rb_iconst (x := (-1)) hC dX12_closes_4 (by decide) ?_
  refine rb_icmp_ne hC 20 dX12_closes_5 (by decide) (fun c1 => ?_) (fun c1 => ?_)
  · replace h := rb_ifn c1 h
    refine rb_aload_n hC 0 dX12_closes_20 rfl ?_
    refine rb_dup hC dX12_closes_21 rfl ?_
    refine rb_getI hC fr_X12_124_11 rb_obM0 rfl dX12_closes_22 ?_
    refine rb_iconst (x := 1) hC dX12_closes_25 (by decide) ?_
    refine rb_iadd hC dX12_closes_26 ?_
    refine rb_putI hC fr_X12_124_11 ft_11_3 rb_obM0 rfl rfl rfl dX12_closes_27 ?_
    obtain ⟨s2, e3, h⟩ := rb_ltE h
    refine rb_nmS e3 ?_
    refine rb_aload_n hC 0 dX12_closes_30 rfl ?_
    refine rb_dup hC dX12_closes_31 rfl ?_
    refine rb_getI hC fr_X12_137_11 rb_obM0 rfl dX12_closes_32 ?_
    refine rb_iconst (x := 1) hC dX12_closes_35 (by decide) ?_
    refine rb_isub hC dX12_closes_36 ?_
    refine rb_putI hC fr_X12_137_11 ft_11_5 rb_obM0 rfl rfl rfl dX12_closes_37 ?_
    obtain ⟨s4, e5, h⟩ := rb_ltE h
    refine rb_nmS e5 ?_
    cases h
    exact rb_vret hC dX12_closes_40
  · replace h := rb_ifp c1 h
    refine rb_aload_n hC 0 dX12_closes_8 rfl ?_
    obtain ⟨r8, s6, q7, h⟩ := rb_b2s h
    refine rb_callVi hC rb_VokM mv_X12_143 (xc_M_look  σ _ _ q7) rb_obM0 rfl [] rfl rfl rfl ⟨Nat.le_of_ble_eq_true rfl, Nat.le_of_ble_eq_true rfl⟩ (Nat.le_of_ble_eq_true rfl) dX12_closes_9 ?_
    refine rb_iload_n hC 1 dX12_closes_12 rfl ?_
    refine rb_icmp_eq hC 20 dX12_closes_13 (by decide) (fun c9 => ?_) (fun c9 => ?_)
    · replace h := rb_ifp c9 h
      refine rb_aload_n hC 0 dX12_closes_20 rfl ?_
      refine rb_dup hC dX12_closes_21 rfl ?_
      refine rb_getI hC fr_X12_124_11 rb_obM0 rfl dX12_closes_22 ?_
      refine rb_iconst (x := 1) hC dX12_closes_25 (by decide) ?_
      refine rb_iadd hC dX12_closes_26 ?_
      refine rb_putI hC fr_X12_124_11 ft_11_3 rb_obM0 rfl rfl rfl dX12_closes_27 ?_
      obtain ⟨s10, e11, h⟩ := rb_ltE h
      refine rb_nmS e11 ?_
      refine rb_aload_n hC 0 dX12_closes_30 rfl ?_
      refine rb_dup hC dX12_closes_31 rfl ?_
      refine rb_getI hC fr_X12_137_11 rb_obM0 rfl dX12_closes_32 ?_
      refine rb_iconst (x := 1) hC dX12_closes_35 (by decide) ?_
      refine rb_isub hC dX12_closes_36 ?_
      refine rb_putI hC fr_X12_137_11 ft_11_5 rb_obM0 rfl rfl rfl dX12_closes_37 ?_
      obtain ⟨s12, e13, h⟩ := rb_ltE h
      refine rb_nmS e13 ?_
      cases h
      exact rb_vret hC dX12_closes_40
    · replace h := rb_ifn c9 h
      refine rb_aload_n hC 0 dX12_closes_16 rfl ?_
      obtain ⟨s14, q15, h⟩ := rb_b1s h
      refine rb_callVv hC rb_VokM mv_X12_140 (xc_M_bad  s6 _ q15) rb_obM0 rfl [] rfl rfl rfl ⟨Nat.le_of_ble_eq_true rfl, Nat.le_of_ble_eq_true rfl⟩ (Nat.le_of_ble_eq_true rfl) dX12_closes_17 ?_
      refine rb_aload_n hC 0 dX12_closes_20 rfl ?_
      refine rb_dup hC dX12_closes_21 rfl ?_
      refine rb_getI hC fr_X12_124_11 rb_obM0 rfl dX12_closes_22 ?_
      refine rb_iconst (x := 1) hC dX12_closes_25 (by decide) ?_
      refine rb_iadd hC dX12_closes_26 ?_
      refine rb_putI hC fr_X12_124_11 ft_11_3 rb_obM0 rfl rfl rfl dX12_closes_27 ?_
      obtain ⟨s16, e17, h⟩ := rb_ltE h
      refine rb_nmS e17 ?_
      refine rb_aload_n hC 0 dX12_closes_30 rfl ?_
      refine rb_dup hC dX12_closes_31 rfl ?_
      refine rb_getI hC fr_X12_137_11 rb_obM0 rfl dX12_closes_32 ?_
      refine rb_iconst (x := 1) hC dX12_closes_35 (by decide) ?_
      refine rb_isub hC dX12_closes_36 ?_
      refine rb_putI hC fr_X12_137_11 ft_11_5 rb_obM0 rfl rfl rfl dX12_closes_37 ?_
      obtain ⟨s18, e19, h⟩ := rb_ltE h
      refine rb_nmS e19 ?_
      cases h
      exact rb_vret hC dX12_closes_40
theorem xc_M_closes (p0 : Int32) (σ : rb_St) (σ9 : rb_St) (h : xf_M_closes p0 σ = some σ9) : rb_Con rb_vM yX12_closes cX12_closes 2 none 2 (fun w => [.ref (rb_ad w 0), .int p0]) σ (fun _ => none) σ9 := rb_Con.of (by decide +kernel) (fun _ => Nat.le_of_ble_eq_true rfl) (fun z w hC => xk_M_closes hC p0 σ σ9 h)
theorem me_X12_isDigit : Cond.static yX12_isDigit ∈ rb_tbl ∧ Cond.initialized yX12_isDigit.cls ∈ rb_tbl ∧ Cond.code yX12_isDigit cX12_isDigit 1 (some .boolean) ∈ rb_tbl ∧ rb_pn yX12_isDigit 1 := ⟨rb_in (by decide +kernel) (by decide +kernel), rb_in (by decide +kernel) (by decide +kernel), rb_in (by decide +kernel) (by decide +kernel), by decide +kernel, by decide +kernel, by decide +kernel⟩
theorem mv_X12_146 : rb_MS RX12 146 yX12_isDigit cX12_isDigit 1 (some .boolean) 1 := ⟨rb_in (by decide +kernel) (by decide +kernel), me_X12_isDigit⟩
def xl_M_plainNumber_4  : Nat → Int32 → Int32 → rb_St → Option (Int32 × rb_St)
  | 0, _, _, _ => none
  | n + 1, x1, x2, σ => if 4 ≤ x2 then some (x1, σ) else rb_b1 (xf_M_here σ) fun r2 => if (xf_M_isDigit r2 σ) = 0 then some (x1, σ) else rb_b1 (xf_M_here σ) fun r5 => rb_lt (rb_sI σ 0 3 ((σ.1 0 3) + 1)) (fun s7 => xl_M_plainNumber_4 n (((10 * x1) + r5) - 48) (x2 + 1) s7)
set_option maxHeartbeats 4000000 in
set_option maxRecDepth 100000 in
theorem xt_M_plainNumber_4 {z : rb_Z} {w : rb_Wd} {Q : State → Prop} (hC : rb_Cx z rb_vM w RX12 cX12_plainNumber 3 (some .int) 1)  : ∀ (n : Nat) (x1 : Int32) (x2 : Int32) (σ : rb_St) (y1 : Int32) (σ9 : rb_St), xl_M_plainNumber_4 n x1 x2 σ = some (y1, σ9) → rb_At z rb_vM w 3 Q 48 [(0, .ref (rb_ad w 0)), (1, .int y1)] [] σ9 → rb_At z rb_vM w 3 Q 4 [(0, .ref (rb_ad w 0)), (1, .int x1), (2, .int x2)] [] σ := by
  intro n
  induction n with
  | zero =>
    intro x1 x2 σ y1 σ9 h hE0
    cases h
  | succ n ih =>
    intro x1 x2 σ y1 σ9 h hE0
    rw [xl_M_plainNumber_4] at h
    refine rb_iload_n hC 2 dX12_plainNumber_4 rfl ?_
    refine rb_iconst (x := 4) hC dX12_plainNumber_5 (by decide) ?_
    refine rb_icmp_ge hC 48 dX12_plainNumber_6 (by decide) (fun c1 => ?_) (fun c1 => ?_)
    · replace h := rb_ifp c1 h
      cases h
      exact rb_sub [0, 1] rfl (hE0)
    · replace h := rb_ifn c1 h
      refine rb_aload_n hC 0 dX12_plainNumber_9 rfl ?_
      obtain ⟨r2, q3, h⟩ := rb_b1s h
      refine rb_callVi hC rb_VokM mv_X12_127 (xc_M_here  σ _ q3) rb_obM0 rfl [] rfl rfl rfl ⟨Nat.le_of_ble_eq_true rfl, Nat.le_of_ble_eq_true rfl⟩ (Nat.le_of_ble_eq_true rfl) dX12_plainNumber_10 ?_
      refine rb_callSi hC rb_VokM mv_X12_146 (xc_M_isDigit r2 σ _ rfl) [.int r2] rfl rfl rfl ⟨Nat.le_of_ble_eq_true rfl, Nat.le_of_ble_eq_true rfl⟩ (Nat.le_of_ble_eq_true rfl) dX12_plainNumber_13 ?_
      refine rb_if_eq hC 48 dX12_plainNumber_16 (by decide) (fun c4 => ?_) (fun c4 => ?_)
      · replace h := rb_ifp c4 h
        cases h
        exact rb_sub [0, 1] rfl (hE0)
      · replace h := rb_ifn c4 h
        refine rb_bipush (x := 10) hC dX12_plainNumber_19 (by decide) ?_
        refine rb_iload_n hC 1 dX12_plainNumber_21 rfl ?_
        refine rb_imul hC dX12_plainNumber_22 ?_
        refine rb_aload_n hC 0 dX12_plainNumber_23 rfl ?_
        obtain ⟨r5, q6, h⟩ := rb_b1s h
        refine rb_callVi hC rb_VokM mv_X12_127 (xc_M_here  σ _ q6) rb_obM0 rfl [] rfl rfl rfl ⟨Nat.le_of_ble_eq_true rfl, Nat.le_of_ble_eq_true rfl⟩ (Nat.le_of_ble_eq_true rfl) dX12_plainNumber_24 ?_
        refine rb_iadd hC dX12_plainNumber_27 ?_
        refine rb_bipush (x := 48) hC dX12_plainNumber_28 (by decide) ?_
        refine rb_isub hC dX12_plainNumber_30 ?_
        refine rb_istore_n hC [(1, .int (((10 * x1) + r5) - 48)), (0, .ref (rb_ad w 0)), (2, .int x2)] dX12_plainNumber_31 (by decide) rfl ?_
        refine rb_aload_n hC 1 dX12_plainNumber_32 rfl ?_
        refine rb_dup hC dX12_plainNumber_33 rfl ?_
        refine rb_getI hC fr_X12_124_11 rb_obM0 rfl dX12_plainNumber_34 ?_
        refine rb_iconst (x := 1) hC dX12_plainNumber_37 (by decide) ?_
        refine rb_iadd hC dX12_plainNumber_38 ?_
        refine rb_putI hC fr_X12_124_11 ft_11_3 rb_obM0 rfl rfl rfl dX12_plainNumber_39 ?_
        obtain ⟨s7, e8, h⟩ := rb_ltE h
        refine rb_nmS e8 ?_
        refine rb_iinc hC 2 [(2, .int (x2 + 1)), (1, .int (((10 * x1) + r5) - 48)), (0, .ref (rb_ad w 0))] dX12_plainNumber_42 rfl rfl (by decide) rfl ?_
        refine rb_goto hC 4 dX12_plainNumber_45 (by decide) ?_
        exact rb_sub [2, 1, 0] rfl (ih (((10 * x1) + r5) - 48) (x2 + 1) s7 _ _ h hE0)
def xf_M_plainNumber  (σ : rb_St) : Option (Int32 × rb_St) := rb_b2 (xl_M_plainNumber_4 rb_FU 0 0 σ) fun y9 s10 => rb_b1 (xf_M_here s10) fun r12 => if (xf_M_isDigit r12 s10) = 0 then some (y9, s10) else rb_b1 (xf_M_bad s10) fun s15 => some (y9, s15)
set_option maxHeartbeats 4000000 in
set_option maxRecDepth 100000 in
theorem xk_M_plainNumber {z : rb_Z} {w : rb_Wd} (hC : rb_Cx z rb_vM w RX12 cX12_plainNumber 3 (some .int) 1)  (σ : rb_St) (r : Int32) (σ9 : rb_St) (h : xf_M_plainNumber σ = some (r, σ9)) : rb_At z rb_vM w 3 (rb_Q z rb_vM w (some (.int r)) σ9) 0 [(0, .ref (rb_ad w 0))] [] σ := by
  unfold xf_M_plainNumber at h
  refine rb_iconst (x := 0) hC dX12_plainNumber_0 (by decide) ?_
  refine rb_istore_n hC [(1, .int 0), (0, .ref (rb_ad w 0))] dX12_plainNumber_1 (by decide) rfl ?_
  refine rb_iconst (x := 0) hC dX12_plainNumber_2 (by decide) ?_
  refine rb_istore_n hC [(2, .int 0), (1, .int 0), (0, .ref (rb_ad w 0))] dX12_plainNumber_3 (by decide) rfl ?_
  obtain ⟨y9, s10, q11, h⟩ := rb_b2s h
  refine rb_sub (lv2 := [(0, .ref (rb_ad w 0)), (1, .int 0), (2, .int 0)]) [2, 1, 0] rfl ?_
  refine xt_M_plainNumber_4 hC  rb_FU 0 0 σ _ _ q11 ?_
  refine rb_aload_n hC 0 dX12_plainNumber_48 rfl ?_
  obtain ⟨r12, q13, h⟩ := rb_b1s h
  refine rb_callVi hC rb_VokM mv_X12_127 (xc_M_here  s10 _ q13) rb_obM0 rfl [] rfl rfl rfl ⟨Nat.le_of_ble_eq_true rfl, Nat.le_of_ble_eq_true rfl⟩ (Nat.le_of_ble_eq_true rfl) dX12_plainNumber_49 ?_
  refine rb_callSi hC rb_VokM mv_X12_146 (xc_M_isDigit r12 s10 _ rfl) [.int r12] rfl rfl rfl ⟨Nat.le_of_ble_eq_true rfl, Nat.le_of_ble_eq_true rfl⟩ (Nat.le_of_ble_eq_true rfl) dX12_plainNumber_52 ?_
  refine rb_if_eq hC 62 dX12_plainNumber_55 (by decide) (fun c14 => ?_) (fun c14 => ?_)
  · replace h := rb_ifp c14 h
    refine rb_iload_n hC 1 dX12_plainNumber_62 rfl ?_
    cases h
    exact rb_iret hC dX12_plainNumber_63
  · replace h := rb_ifn c14 h
    refine rb_aload_n hC 0 dX12_plainNumber_58 rfl ?_
    obtain ⟨s15, q16, h⟩ := rb_b1s h
    refine rb_callVv hC rb_VokM mv_X12_140 (xc_M_bad  s10 _ q16) rb_obM0 rfl [] rfl rfl rfl ⟨Nat.le_of_ble_eq_true rfl, Nat.le_of_ble_eq_true rfl⟩ (Nat.le_of_ble_eq_true rfl) dX12_plainNumber_59 ?_
    refine rb_iload_n hC 1 dX12_plainNumber_62 rfl ?_
    cases h
    exact rb_iret hC dX12_plainNumber_63
theorem xc_M_plainNumber  (σ : rb_St) (r : Int32) (σ9 : rb_St) (h : xf_M_plainNumber σ = some (r, σ9)) : rb_Con rb_vM yX12_plainNumber cX12_plainNumber 3 (some .int) 1 (fun w => [.ref (rb_ad w 0)]) σ (fun _ => (some (.int r))) σ9 := rb_Con.of (by decide +kernel) (fun _ => Nat.le_of_ble_eq_true rfl) (fun z w hC => xk_M_plainNumber hC  σ r σ9 h)
def xf_M_isSign (p0 : Int32) (σ : rb_St) : Int32 := if p0 = 61 then 1 else if p0 = 60 then 1 else if p0 = 62 then 1 else 0
set_option maxHeartbeats 4000000 in
set_option maxRecDepth 100000 in
theorem xk_M_isSign {z : rb_Z} {w : rb_Wd} (hC : rb_Cx z rb_vM w RX12 cX12_isSign 1 (some .boolean) 0) (p0 : Int32) (σ : rb_St) (r : Int32) (h : xf_M_isSign p0 σ = r) : rb_At z rb_vM w 1 (rb_Q z rb_vM w (some (.int r)) σ) 0 [(0, .int p0)] [] σ := by
  unfold xf_M_isSign at h
  refine rb_iload_n hC 0 dX12_isSign_0 rfl ?_
  refine rb_bipush (x := 61) hC dX12_isSign_1 (by decide) ?_
  refine rb_icmp_eq hC 18 dX12_isSign_3 (by decide) (fun c1 => ?_) (fun c1 => ?_)
  · replace h := rb_ifp c1 h
    refine rb_iconst (x := 1) hC dX12_isSign_18 (by decide) ?_
    refine rb_goto hC 23 dX12_isSign_19 (by decide) ?_
    subst h
    exact rb_zret hC rfl dX12_isSign_23
  · replace h := rb_ifn c1 h
    refine rb_iload_n hC 0 dX12_isSign_6 rfl ?_
    refine rb_bipush (x := 60) hC dX12_isSign_7 (by decide) ?_
    refine rb_icmp_eq hC 18 dX12_isSign_9 (by decide) (fun c2 => ?_) (fun c2 => ?_)
    · replace h := rb_ifp c2 h
      refine rb_iconst (x := 1) hC dX12_isSign_18 (by decide) ?_
      refine rb_goto hC 23 dX12_isSign_19 (by decide) ?_
      subst h
      exact rb_zret hC rfl dX12_isSign_23
    · replace h := rb_ifn c2 h
      refine rb_iload_n hC 0 dX12_isSign_12 rfl ?_
      refine rb_bipush (x := 62) hC dX12_isSign_13 (by decide) ?_
      refine rb_icmp_ne hC 22 dX12_isSign_15 (by decide) (fun c3 => ?_) (fun c3 => ?_)
      · replace h := rb_ifn c3 h
        refine rb_iconst (x := 0) hC dX12_isSign_22 (by decide) ?_
        subst h
        exact rb_zret hC rfl dX12_isSign_23
      · replace h := rb_ifp c3 h
        refine rb_iconst (x := 1) hC dX12_isSign_18 (by decide) ?_
        refine rb_goto hC 23 dX12_isSign_19 (by decide) ?_
        subst h
        exact rb_zret hC rfl dX12_isSign_23
theorem xc_M_isSign (p0 : Int32) (σ : rb_St) (r : Int32) (h : xf_M_isSign p0 σ = r) : rb_Con rb_vM yX12_isSign cX12_isSign 1 (some .boolean) 0 (fun w => [.int p0]) σ (fun _ => (some (.int r))) σ := rb_Con.of (by decide +kernel) (fun _ => Nat.le_of_ble_eq_true rfl) (fun z w hC => xk_M_isSign hC p0 σ r h)
theorem ft_11_14 : rb_Ty 11 14 .int := ⟨RX12, TX12, 50, tyX12, rfl, tyX12_ok, nmX12, rfl, by decide +kernel⟩
theorem fr_X12_22_11 : rb_FR RX12 22 11 9 := ⟨RX12, TX12, 50, "RibbonPoleModel", rfl, rb_uX12, by decide, rb_in (by decide +kernel) (by decide +kernel), Or.inl rfl⟩
def xf_M_open (p0 : Int32) (σ : rb_St) : Option (rb_St) := rb_lt (rb_sI σ 0 14 p0) (fun s1 => rb_lt (rb_sI s1 0 3 0) (fun s3 => rb_lt (rb_sI s3 0 4 (-1)) (fun s5 => rb_lt (rb_sI s5 0 5 0) (fun s7 => if rb_ib p0 5 then rb_lt (rb_sI s7 4 p0.toNatClampNeg 0) (fun s10 => rb_lt (rb_sI s10 5 p0.toNatClampNeg 0) (fun s12 => some s12)) else none))))
set_option maxHeartbeats 4000000 in
set_option maxRecDepth 100000 in
theorem xk_M_open {z : rb_Z} {w : rb_Wd} (hC : rb_Cx z rb_vM w RX12 cX12_open 2 none 0) (p0 : Int32) (σ : rb_St) (σ9 : rb_St) (h : xf_M_open p0 σ = some σ9) : rb_At z rb_vM w 2 (rb_Q z rb_vM w none σ9) 0 [(0, .ref (rb_ad w 0)), (1, .int p0)] [] σ := by
  unfold xf_M_open at h
  refine rb_aload_n hC 0 dX12_open_0 rfl ?_
  refine rb_iload_n hC 1 dX12_open_1 rfl ?_
  refine rb_putI hC fr_X12_134_11 ft_11_14 rb_obM0 rfl rfl rfl dX12_open_2 ?_
  obtain ⟨s1, e2, h⟩ := rb_ltE h
  refine rb_nmS e2 ?_
  refine rb_aload_n hC 0 dX12_open_5 rfl ?_
  refine rb_iconst (x := 0) hC dX12_open_6 (by decide) ?_
  refine rb_putI hC fr_X12_124_11 ft_11_3 rb_obM0 rfl rfl rfl dX12_open_7 ?_
  obtain ⟨s3, e4, h⟩ := rb_ltE h
  refine rb_nmS e4 ?_
  refine rb_aload_n hC 0 dX12_open_10 rfl ?_
  refine rb_iconst (x := (-1)) hC dX12_open_11 (by decide) ?_
  refine rb_putI hC fr_X12_131_11 ft_11_4 rb_obM0 rfl rfl rfl dX12_open_12 ?_
  obtain ⟨s5, e6, h⟩ := rb_ltE h
  refine rb_nmS e6 ?_
  refine rb_aload_n hC 0 dX12_open_15 rfl ?_
  refine rb_iconst (x := 0) hC dX12_open_16 (by decide) ?_
  refine rb_putI hC fr_X12_137_11 ft_11_5 rb_obM0 rfl rfl rfl dX12_open_17 ?_
  obtain ⟨s7, e8, h⟩ := rb_ltE h
  refine rb_nmS e8 ?_
  refine rb_aload_n hC 0 dX12_open_20 rfl ?_
  refine rb_getR hC fr_X12_19_11 rb_obM0 rfl dX12_open_21 ?_
  refine rb_iload_n hC 1 dX12_open_24 rfl ?_
  refine rb_iconst (x := 0) hC dX12_open_25 (by decide) ?_
  obtain ⟨g9, h⟩ := rb_gd h
  refine rb_iast hC rb_arM4 (rb_ibI g9) dX12_open_26 ?_
  obtain ⟨s10, e11, h⟩ := rb_ltE h
  refine rb_nmS e11 ?_
  refine rb_aload_n hC 0 dX12_open_27 rfl ?_
  refine rb_getR hC fr_X12_22_11 rb_obM0 rfl dX12_open_28 ?_
  refine rb_iload_n hC 1 dX12_open_31 rfl ?_
  refine rb_iconst (x := 0) hC dX12_open_32 (by decide) ?_
  refine rb_iast hC rb_arM5 (rb_ibI g9) dX12_open_33 ?_
  obtain ⟨s12, e13, h⟩ := rb_ltE h
  refine rb_nmS e13 ?_
  cases h
  exact rb_vret hC dX12_open_34
theorem xc_M_open (p0 : Int32) (σ : rb_St) (σ9 : rb_St) (h : xf_M_open p0 σ = some σ9) : rb_Con rb_vM yX12_open cX12_open 2 none 0 (fun w => [.ref (rb_ad w 0), .int p0]) σ (fun _ => none) σ9 := rb_Con.of (by decide +kernel) (fun _ => Nat.le_of_ble_eq_true rfl) (fun z w hC => xk_M_open hC p0 σ σ9 h)
def xf_M_atEnd  (σ : rb_St) : Option (Int32 × rb_St) := if (σ.1 0 4) = (-1) then rb_b2 (xf_M_look σ) fun r4 s2 => if r4 = (-1) then some (s2.1 0 4, s2) else rb_b1 (xf_M_bad s2) fun s6 => some (s6.1 0 4, s6) else some (σ.1 0 4, σ)
set_option maxHeartbeats 4000000 in
set_option maxRecDepth 100000 in
theorem xk_M_atEnd {z : rb_Z} {w : rb_Wd} (hC : rb_Cx z rb_vM w RX12 cX12_atEnd 1 (some .int) 2)  (σ : rb_St) (r : Int32) (σ9 : rb_St) (h : xf_M_atEnd σ = some (r, σ9)) : rb_At z rb_vM w 1 (rb_Q z rb_vM w (some (.int r)) σ9) 0 [(0, .ref (rb_ad w 0))] [] σ := by
  unfold xf_M_atEnd at h
  refine rb_aload_n hC 0 dX12_atEnd_0 rfl ?_
  refine rb_getI hC fr_X12_131_11 rb_obM0 rfl dX12_atEnd_1 ?_
  refine rb_iconst (x := (-1)) hC dX12_atEnd_4 (by decide) ?_
  refine rb_icmp_ne hC 20 dX12_atEnd_5 (by decide) (fun c1 => ?_) (fun c1 => ?_)
  · replace h := rb_ifn c1 h
    refine rb_aload_n hC 0 dX12_atEnd_20 rfl ?_
    refine rb_getI hC fr_X12_131_11 rb_obM0 rfl dX12_atEnd_21 ?_
    cases h
    exact rb_iret hC dX12_atEnd_24
  · replace h := rb_ifp c1 h
    refine rb_aload_n hC 0 dX12_atEnd_8 rfl ?_
    obtain ⟨r4, s2, q3, h⟩ := rb_b2s h
    refine rb_callVi hC rb_VokM mv_X12_143 (xc_M_look  σ _ _ q3) rb_obM0 rfl [] rfl rfl rfl ⟨Nat.le_of_ble_eq_true rfl, Nat.le_of_ble_eq_true rfl⟩ (Nat.le_of_ble_eq_true rfl) dX12_atEnd_9 ?_
    refine rb_iconst (x := (-1)) hC dX12_atEnd_12 (by decide) ?_
    refine rb_icmp_eq hC 20 dX12_atEnd_13 (by decide) (fun c5 => ?_) (fun c5 => ?_)
    · replace h := rb_ifp c5 h
      refine rb_aload_n hC 0 dX12_atEnd_20 rfl ?_
      refine rb_getI hC fr_X12_131_11 rb_obM0 rfl dX12_atEnd_21 ?_
      cases h
      exact rb_iret hC dX12_atEnd_24
    · replace h := rb_ifn c5 h
      refine rb_aload_n hC 0 dX12_atEnd_16 rfl ?_
      obtain ⟨s6, q7, h⟩ := rb_b1s h
      refine rb_callVv hC rb_VokM mv_X12_140 (xc_M_bad  s2 _ q7) rb_obM0 rfl [] rfl rfl rfl ⟨Nat.le_of_ble_eq_true rfl, Nat.le_of_ble_eq_true rfl⟩ (Nat.le_of_ble_eq_true rfl) dX12_atEnd_17 ?_
      refine rb_aload_n hC 0 dX12_atEnd_20 rfl ?_
      refine rb_getI hC fr_X12_131_11 rb_obM0 rfl dX12_atEnd_21 ?_
      cases h
      exact rb_iret hC dX12_atEnd_24
theorem xc_M_atEnd  (σ : rb_St) (r : Int32) (σ9 : rb_St) (h : xf_M_atEnd σ = some (r, σ9)) : rb_Con rb_vM yX12_atEnd cX12_atEnd 1 (some .int) 2 (fun w => [.ref (rb_ad w 0)]) σ (fun _ => (some (.int r))) σ9 := rb_Con.of (by decide +kernel) (fun _ => Nat.le_of_ble_eq_true rfl) (fun z w hC => xk_M_atEnd hC  σ r σ9 h)
theorem kc_X12_204 : Cond.constantLong RX12 204 (-1000000) ∈ rb_tbl := rb_in (by decide +kernel) (by decide +kernel)
theorem kc_X12_206 : Cond.constantLong RX12 206 1000000 ∈ rb_tbl := rb_in (by decide +kernel) (by decide +kernel)
theorem mk_X12_208 : Cond.methodLink RX12 208 Lib.MathLoose.min_long.x ∈ rb_tbl := rb_in (by decide +kernel) (by decide +kernel)
theorem mk_X12_214 : Cond.methodLink RX12 214 Lib.MathLoose.max_long.x ∈ rb_tbl := rb_in (by decide +kernel) (by decide +kernel)
def xf_M_bounded (p0 : Int64) (σ : rb_St) : Int32 := (rb_mxJ (-1000000) (rb_mnJ 1000000 p0)).toInt32
set_option maxHeartbeats 4000000 in
set_option maxRecDepth 100000 in
theorem xk_M_bounded {z : rb_Z} {w : rb_Wd} (hC : rb_Cx z rb_vM w RX12 cX12_bounded 2 (some .int) 1) (p0 : Int64) (σ : rb_St) (r : Int32) (h : xf_M_bounded p0 σ = r) : rb_At z rb_vM w 2 (rb_Q z rb_vM w (some (.int r)) σ) 0 [(0, .long p0)] [] σ := by
  unfold xf_M_bounded at h
  refine rb_ldc2_w hC kc_X12_204 dX12_bounded_0 ?_
  refine rb_ldc2_w hC kc_X12_206 dX12_bounded_3 ?_
  refine rb_lload_n hC 0 dX12_bounded_6 rfl ?_
  refine rb_mminJ hC mk_X12_208 ⟨Nat.le_of_ble_eq_true rfl, Nat.le_of_ble_eq_true rfl⟩ dX12_bounded_7 ?_
  refine rb_mmaxJ hC mk_X12_214 ⟨Nat.le_of_ble_eq_true rfl, Nat.le_of_ble_eq_true rfl⟩ dX12_bounded_10 ?_
  refine rb_l2i hC dX12_bounded_13 ?_
  subst h
  exact rb_iret hC dX12_bounded_14
theorem xc_M_bounded (p0 : Int64) (σ : rb_St) (r : Int32) (h : xf_M_bounded p0 σ = r) : rb_Con rb_vM yX12_bounded cX12_bounded 2 (some .int) 1 (fun w => [.long p0]) σ (fun _ => (some (.int r))) σ := rb_Con.of (by decide +kernel) (fun _ => Nat.le_of_ble_eq_true rfl) (fun z w hC => xk_M_bounded hC p0 σ r h)
theorem me_X12_bounded : Cond.static yX12_bounded ∈ rb_tbl ∧ Cond.initialized yX12_bounded.cls ∈ rb_tbl ∧ Cond.code yX12_bounded cX12_bounded 2 (some .int) ∈ rb_tbl ∧ rb_pn yX12_bounded 1 := ⟨rb_in (by decide +kernel) (by decide +kernel), rb_in (by decide +kernel) (by decide +kernel), rb_in (by decide +kernel) (by decide +kernel), by decide +kernel, by decide +kernel, by decide +kernel⟩
theorem mv_X12_217 : rb_MS RX12 217 yX12_bounded cX12_bounded 2 (some .int) 1 := ⟨rb_in (by decide +kernel) (by decide +kernel), me_X12_bounded⟩
def xf_M_worked (p0 : Int32) (p1 : Int64) (p2 : Int64) (σ : rb_St) : Option Int32 := if p0 = 2 then some (xf_M_bounded (p1 + p2) σ) else if p0 = 3 then some (xf_M_bounded (p1 - p2) σ) else if p0 = 4 then some (xf_M_bounded (p1 * p2) σ) else if p0 = 5 then if (lg_cmp p2 0) = 0 then some 0 else if p2 = 0 then none else some (xf_M_bounded (p1 / p2) σ) else if p0 = 6 then if (lg_cmp p1 p2) = 0 then some 1 else some 0 else if p0 = 7 then if 0 ≤ (lg_cmp p1 p2) then some 0 else some 1 else if p0 = 8 then if (lg_cmp p1 p2) ≤ 0 then some 0 else some 1 else if p0 = 9 then if (lg_cmp p1 0) = 0 then if (lg_cmp p2 0) = 0 then some 0 else some 1 else some 1 else if p0 = 10 then if (lg_cmp p1 0) = 0 then some 0 else if (lg_cmp p2 0) = 0 then some 0 else some 1 else if (lg_cmp p1 0) = 0 then if (lg_cmp p2 0) = 0 then some 0 else some 1 else some 1
set_option maxHeartbeats 4000000 in
set_option maxRecDepth 100000 in
theorem xk_M_worked {z : rb_Z} {w : rb_Wd} (hC : rb_Cx z rb_vM w RX12 cX12_worked 5 (some .int) 2) (p0 : Int32) (p1 : Int64) (p2 : Int64) (σ : rb_St) (r : Int32) (h : xf_M_worked p0 p1 p2 σ = some r) : rb_At z rb_vM w 5 (rb_Q z rb_vM w (some (.int r)) σ) 0 [(0, .int p0), (1, .long p1), (3, .long p2)] [] σ := by
  unfold xf_M_worked at h
  refine rb_iload_n hC 0 dX12_worked_0 rfl ?_
  by_cases c1_0 : p0 = 2
  · replace h := rb_ifp c1_0 h
    refine rb_tableIn hC 52 dX12_worked_1 (by rw [c1_0]; decide) (by rw [c1_0]; decide) (by rw [c1_0]; rfl) (by decide) ?_
    refine rb_lload_n hC 1 dX12_worked_52 rfl ?_
    refine rb_lload_n hC 2 dX12_worked_53 rfl ?_
    refine rb_ladd hC dX12_worked_54 ?_
    refine rb_callSi hC rb_VokM mv_X12_217 (xc_M_bounded (p1 + p2) σ _ rfl) [.long (p1 + p2)] rfl rfl rfl ⟨Nat.le_of_ble_eq_true rfl, Nat.le_of_ble_eq_true rfl⟩ (Nat.le_of_ble_eq_true rfl) dX12_worked_55 ?_
    cases h
    exact rb_iret hC dX12_worked_58
  · replace h := rb_ifn c1_0 h
    by_cases c1_1 : p0 = 3
    · replace h := rb_ifp c1_1 h
      refine rb_tableIn hC 59 dX12_worked_1 (by rw [c1_1]; decide) (by rw [c1_1]; decide) (by rw [c1_1]; rfl) (by decide) ?_
      refine rb_lload_n hC 1 dX12_worked_59 rfl ?_
      refine rb_lload_n hC 2 dX12_worked_60 rfl ?_
      refine rb_lsub hC dX12_worked_61 ?_
      refine rb_callSi hC rb_VokM mv_X12_217 (xc_M_bounded (p1 - p2) σ _ rfl) [.long (p1 - p2)] rfl rfl rfl ⟨Nat.le_of_ble_eq_true rfl, Nat.le_of_ble_eq_true rfl⟩ (Nat.le_of_ble_eq_true rfl) dX12_worked_62 ?_
      cases h
      exact rb_iret hC dX12_worked_65
    · replace h := rb_ifn c1_1 h
      by_cases c1_2 : p0 = 4
      · replace h := rb_ifp c1_2 h
        refine rb_tableIn hC 66 dX12_worked_1 (by rw [c1_2]; decide) (by rw [c1_2]; decide) (by rw [c1_2]; rfl) (by decide) ?_
        refine rb_lload_n hC 1 dX12_worked_66 rfl ?_
        refine rb_lload_n hC 2 dX12_worked_67 rfl ?_
        refine rb_lmul hC dX12_worked_68 ?_
        refine rb_callSi hC rb_VokM mv_X12_217 (xc_M_bounded (p1 * p2) σ _ rfl) [.long (p1 * p2)] rfl rfl rfl ⟨Nat.le_of_ble_eq_true rfl, Nat.le_of_ble_eq_true rfl⟩ (Nat.le_of_ble_eq_true rfl) dX12_worked_69 ?_
        cases h
        exact rb_iret hC dX12_worked_72
      · replace h := rb_ifn c1_2 h
        by_cases c1_3 : p0 = 5
        · replace h := rb_ifp c1_3 h
          refine rb_tableIn hC 73 dX12_worked_1 (by rw [c1_3]; decide) (by rw [c1_3]; decide) (by rw [c1_3]; rfl) (by decide) ?_
          refine rb_lload_n hC 2 dX12_worked_73 rfl ?_
          refine rb_lconst (x := 0) hC dX12_worked_74 (by decide) ?_
          refine rb_lcmp hC dX12_worked_75 ?_
          refine rb_if_ne hC 83 dX12_worked_76 (by decide) (fun c1 => ?_) (fun c1 => ?_)
          · replace h := rb_ifn c1 h
            refine rb_lload_n hC 1 dX12_worked_83 rfl ?_
            refine rb_lload_n hC 2 dX12_worked_84 rfl ?_
            obtain ⟨g2, h⟩ := rb_dvL h
            refine rb_ldiv hC dX12_worked_85 g2 ?_
            refine rb_callSi hC rb_VokM mv_X12_217 (xc_M_bounded (p1 / p2) σ _ rfl) [.long (p1 / p2)] rfl rfl rfl ⟨Nat.le_of_ble_eq_true rfl, Nat.le_of_ble_eq_true rfl⟩ (Nat.le_of_ble_eq_true rfl) dX12_worked_86 ?_
            cases h
            exact rb_iret hC dX12_worked_89
          · replace h := rb_ifp c1 h
            refine rb_iconst (x := 0) hC dX12_worked_79 (by decide) ?_
            refine rb_goto hC 89 dX12_worked_80 (by decide) ?_
            cases h
            exact rb_iret hC dX12_worked_89
        · replace h := rb_ifn c1_3 h
          by_cases c1_4 : p0 = 6
          · replace h := rb_ifp c1_4 h
            refine rb_tableIn hC 90 dX12_worked_1 (by rw [c1_4]; decide) (by rw [c1_4]; decide) (by rw [c1_4]; rfl) (by decide) ?_
            refine rb_lload_n hC 1 dX12_worked_90 rfl ?_
            refine rb_lload_n hC 2 dX12_worked_91 rfl ?_
            refine rb_lcmp hC dX12_worked_92 ?_
            refine rb_if_ne hC 100 dX12_worked_93 (by decide) (fun c3 => ?_) (fun c3 => ?_)
            · replace h := rb_ifn c3 h
              refine rb_iconst (x := 0) hC dX12_worked_100 (by decide) ?_
              cases h
              exact rb_iret hC dX12_worked_101
            · replace h := rb_ifp c3 h
              refine rb_iconst (x := 1) hC dX12_worked_96 (by decide) ?_
              refine rb_goto hC 101 dX12_worked_97 (by decide) ?_
              cases h
              exact rb_iret hC dX12_worked_101
          · replace h := rb_ifn c1_4 h
            by_cases c1_5 : p0 = 7
            · replace h := rb_ifp c1_5 h
              refine rb_tableIn hC 102 dX12_worked_1 (by rw [c1_5]; decide) (by rw [c1_5]; decide) (by rw [c1_5]; rfl) (by decide) ?_
              refine rb_lload_n hC 1 dX12_worked_102 rfl ?_
              refine rb_lload_n hC 2 dX12_worked_103 rfl ?_
              refine rb_lcmp hC dX12_worked_104 ?_
              refine rb_if_ge hC 112 dX12_worked_105 (by decide) (fun c4 => ?_) (fun c4 => ?_)
              · replace h := rb_ifp c4 h
                refine rb_iconst (x := 0) hC dX12_worked_112 (by decide) ?_
                cases h
                exact rb_iret hC dX12_worked_113
              · replace h := rb_ifn c4 h
                refine rb_iconst (x := 1) hC dX12_worked_108 (by decide) ?_
                refine rb_goto hC 113 dX12_worked_109 (by decide) ?_
                cases h
                exact rb_iret hC dX12_worked_113
            · replace h := rb_ifn c1_5 h
              by_cases c1_6 : p0 = 8
              · replace h := rb_ifp c1_6 h
                refine rb_tableIn hC 114 dX12_worked_1 (by rw [c1_6]; decide) (by rw [c1_6]; decide) (by rw [c1_6]; rfl) (by decide) ?_
                refine rb_lload_n hC 1 dX12_worked_114 rfl ?_
                refine rb_lload_n hC 2 dX12_worked_115 rfl ?_
                refine rb_lcmp hC dX12_worked_116 ?_
                refine rb_if_le hC 124 dX12_worked_117 (by decide) (fun c5 => ?_) (fun c5 => ?_)
                · replace h := rb_ifp c5 h
                  refine rb_iconst (x := 0) hC dX12_worked_124 (by decide) ?_
                  cases h
                  exact rb_iret hC dX12_worked_125
                · replace h := rb_ifn c5 h
                  refine rb_iconst (x := 1) hC dX12_worked_120 (by decide) ?_
                  refine rb_goto hC 125 dX12_worked_121 (by decide) ?_
                  cases h
                  exact rb_iret hC dX12_worked_125
              · replace h := rb_ifn c1_6 h
                by_cases c1_7 : p0 = 9
                · replace h := rb_ifp c1_7 h
                  refine rb_tableIn hC 144 dX12_worked_1 (by rw [c1_7]; decide) (by rw [c1_7]; decide) (by rw [c1_7]; rfl) (by decide) ?_
                  refine rb_lload_n hC 1 dX12_worked_144 rfl ?_
                  refine rb_lconst (x := 0) hC dX12_worked_145 (by decide) ?_
                  refine rb_lcmp hC dX12_worked_146 ?_
                  refine rb_if_ne hC 156 dX12_worked_147 (by decide) (fun c6 => ?_) (fun c6 => ?_)
                  · replace h := rb_ifn c6 h
                    refine rb_iconst (x := 1) hC dX12_worked_156 (by decide) ?_
                    refine rb_goto hC 161 dX12_worked_157 (by decide) ?_
                    cases h
                    exact rb_iret hC dX12_worked_161
                  · replace h := rb_ifp c6 h
                    refine rb_lload_n hC 2 dX12_worked_150 rfl ?_
                    refine rb_lconst (x := 0) hC dX12_worked_151 (by decide) ?_
                    refine rb_lcmp hC dX12_worked_152 ?_
                    refine rb_if_eq hC 160 dX12_worked_153 (by decide) (fun c7 => ?_) (fun c7 => ?_)
                    · replace h := rb_ifp c7 h
                      refine rb_iconst (x := 0) hC dX12_worked_160 (by decide) ?_
                      cases h
                      exact rb_iret hC dX12_worked_161
                    · replace h := rb_ifn c7 h
                      refine rb_iconst (x := 1) hC dX12_worked_156 (by decide) ?_
                      refine rb_goto hC 161 dX12_worked_157 (by decide) ?_
                      cases h
                      exact rb_iret hC dX12_worked_161
                · replace h := rb_ifn c1_7 h
                  by_cases c1_8 : p0 = 10
                  · replace h := rb_ifp c1_8 h
                    refine rb_tableIn hC 126 dX12_worked_1 (by rw [c1_8]; decide) (by rw [c1_8]; decide) (by rw [c1_8]; rfl) (by decide) ?_
                    refine rb_lload_n hC 1 dX12_worked_126 rfl ?_
                    refine rb_lconst (x := 0) hC dX12_worked_127 (by decide) ?_
                    refine rb_lcmp hC dX12_worked_128 ?_
                    refine rb_if_eq hC 142 dX12_worked_129 (by decide) (fun c8 => ?_) (fun c8 => ?_)
                    · replace h := rb_ifp c8 h
                      refine rb_iconst (x := 0) hC dX12_worked_142 (by decide) ?_
                      cases h
                      exact rb_iret hC dX12_worked_143
                    · replace h := rb_ifn c8 h
                      refine rb_lload_n hC 2 dX12_worked_132 rfl ?_
                      refine rb_lconst (x := 0) hC dX12_worked_133 (by decide) ?_
                      refine rb_lcmp hC dX12_worked_134 ?_
                      refine rb_if_eq hC 142 dX12_worked_135 (by decide) (fun c9 => ?_) (fun c9 => ?_)
                      · replace h := rb_ifp c9 h
                        refine rb_iconst (x := 0) hC dX12_worked_142 (by decide) ?_
                        cases h
                        exact rb_iret hC dX12_worked_143
                      · replace h := rb_ifn c9 h
                        refine rb_iconst (x := 1) hC dX12_worked_138 (by decide) ?_
                        refine rb_goto hC 143 dX12_worked_139 (by decide) ?_
                        cases h
                        exact rb_iret hC dX12_worked_143
                  · replace h := rb_ifn c1_8 h
                    have hO : p0.toInt < 2 ∨ 10 < p0.toInt := by
                      have n0 : p0.toInt ≠ 2 := fun q3 => c1_0 (Int32.toInt_inj.mp (q3.trans (by decide)))
                      have n1 : p0.toInt ≠ 3 := fun q3 => c1_1 (Int32.toInt_inj.mp (q3.trans (by decide)))
                      have n2 : p0.toInt ≠ 4 := fun q3 => c1_2 (Int32.toInt_inj.mp (q3.trans (by decide)))
                      have n3 : p0.toInt ≠ 5 := fun q3 => c1_3 (Int32.toInt_inj.mp (q3.trans (by decide)))
                      have n4 : p0.toInt ≠ 6 := fun q3 => c1_4 (Int32.toInt_inj.mp (q3.trans (by decide)))
                      have n5 : p0.toInt ≠ 7 := fun q3 => c1_5 (Int32.toInt_inj.mp (q3.trans (by decide)))
                      have n6 : p0.toInt ≠ 8 := fun q3 => c1_6 (Int32.toInt_inj.mp (q3.trans (by decide)))
                      have n7 : p0.toInt ≠ 9 := fun q3 => c1_7 (Int32.toInt_inj.mp (q3.trans (by decide)))
                      have n8 : p0.toInt ≠ 10 := fun q3 => c1_8 (Int32.toInt_inj.mp (q3.trans (by decide)))
                      omega
                    refine rb_tableOut hC 144 dX12_worked_1 hO (by decide) ?_
                    refine rb_lload_n hC 1 dX12_worked_144 rfl ?_
                    refine rb_lconst (x := 0) hC dX12_worked_145 (by decide) ?_
                    refine rb_lcmp hC dX12_worked_146 ?_
                    refine rb_if_ne hC 156 dX12_worked_147 (by decide) (fun c10 => ?_) (fun c10 => ?_)
                    · replace h := rb_ifn c10 h
                      refine rb_iconst (x := 1) hC dX12_worked_156 (by decide) ?_
                      refine rb_goto hC 161 dX12_worked_157 (by decide) ?_
                      cases h
                      exact rb_iret hC dX12_worked_161
                    · replace h := rb_ifp c10 h
                      refine rb_lload_n hC 2 dX12_worked_150 rfl ?_
                      refine rb_lconst (x := 0) hC dX12_worked_151 (by decide) ?_
                      refine rb_lcmp hC dX12_worked_152 ?_
                      refine rb_if_eq hC 160 dX12_worked_153 (by decide) (fun c11 => ?_) (fun c11 => ?_)
                      · replace h := rb_ifp c11 h
                        refine rb_iconst (x := 0) hC dX12_worked_160 (by decide) ?_
                        cases h
                        exact rb_iret hC dX12_worked_161
                      · replace h := rb_ifn c11 h
                        refine rb_iconst (x := 1) hC dX12_worked_156 (by decide) ?_
                        refine rb_goto hC 161 dX12_worked_157 (by decide) ?_
                        cases h
                        exact rb_iret hC dX12_worked_161
theorem xc_M_worked (p0 : Int32) (p1 : Int64) (p2 : Int64) (σ : rb_St) (r : Int32) (h : xf_M_worked p0 p1 p2 σ = some r) : rb_Con rb_vM yX12_worked cX12_worked 5 (some .int) 2 (fun w => [.int p0, .long p1, .long p2]) σ (fun _ => (some (.int r))) σ := rb_Con.of (by decide +kernel) (fun _ => Nat.le_of_ble_eq_true rfl) (fun z w hC => xk_M_worked hC p0 p1 p2 σ r h)
theorem fr_X12_37_11 : rb_FR RX12 37 11 16 := ⟨RX12, TX12, 50, "RibbonPoleModel", rfl, rb_uX12, by decide, rb_in (by decide +kernel) (by decide +kernel), Or.inl rfl⟩
theorem fr_X12_34_11 : rb_FR RX12 34 11 15 := ⟨RX12, TX12, 50, "RibbonPoleModel", rfl, rb_uX12, by decide, rb_in (by decide +kernel) (by decide +kernel), Or.inl rfl⟩
theorem me_X12_worked : Cond.static yX12_worked ∈ rb_tbl ∧ Cond.initialized yX12_worked.cls ∈ rb_tbl ∧ Cond.code yX12_worked cX12_worked 5 (some .int) ∈ rb_tbl ∧ rb_pn yX12_worked 3 := ⟨rb_in (by decide +kernel) (by decide +kernel), rb_in (by decide +kernel) (by decide +kernel), rb_in (by decide +kernel) (by decide +kernel), by decide +kernel, by decide +kernel, by decide +kernel⟩
theorem mv_X12_221 : rb_MS RX12 221 yX12_worked cX12_worked 5 (some .int) 3 := ⟨rb_in (by decide +kernel) (by decide +kernel), me_X12_worked⟩
def xj_M_workOut_45 (rc : Int32 → Int32 → rb_St → Option (rb_St)) (x1 : Int32) (x3 : Int32) (x4 : Int32) (x5 : Int32) (σ : rb_St) : Option (rb_St) := if rb_ib x5 2600 then if (σ.1 2 x5.toNatClampNeg) = 0 then if rb_ib x4 80 then rb_lt (rb_sI σ 10 x4.toNatClampNeg (σ.1 3 x5.toNatClampNeg)) (fun s11 => rc (x4 + 1) (x5 + 1) s11) else none else if rb_ib (σ.1 3 x5.toNatClampNeg) 6 then if rb_ib x4 80 then rb_lt (rb_sI σ 10 x4.toNatClampNeg (σ.1 9 (σ.1 3 x5.toNatClampNeg).toNatClampNeg)) (fun s8 => rc (x4 + 1) (x5 + 1) s8) else none else none else none
set_option maxHeartbeats 4000000 in
set_option maxRecDepth 100000 in
theorem xu_M_workOut_45 {z : rb_Z} {w : rb_Wd} {Q : State → Prop} (hC : rb_Cx z rb_vM w RX12 cX12_workOut 6 (some .int) 3)  (rc : Int32 → Int32 → rb_St → Option (rb_St)) (x1 : Int32) (x3 : Int32) (x4 : Int32) (x5 : Int32) (σ : rb_St) (σ9 : rb_St) (h : xj_M_workOut_45 rc x1 x3 x4 x5 σ = some σ9) (hrc : ∀ (b4 : Int32) (b5 : Int32) (τ : rb_St), rc b4 b5 τ = some σ9 → rb_At z rb_vM w 6 Q 12 [(0, .ref (rb_ad w 0)), (1, .int x1), (3, .int x3), (4, .int b4), (5, .int b5)] [] τ) (hE0 : rb_At z rb_vM w 6 Q 171 [(0, .ref (rb_ad w 0))] [] σ9) : rb_At z rb_vM w 6 Q 45 [(0, .ref (rb_ad w 0)), (1, .int x1), (3, .int x3), (4, .int x4), (5, .int x5)] [] σ := by
  unfold xj_M_workOut_45 at h
  refine rb_aload_n hC 0 dX12_workOut_45 rfl ?_
  refine rb_getR hC fr_X12_37_11 rb_obM0 rfl dX12_workOut_46 ?_
  refine rb_iload hC 3 dX12_workOut_49 rfl ?_
  refine rb_aload_n hC 0 dX12_workOut_51 rfl ?_
  refine rb_getR hC fr_X12_13_11 rb_obM0 rfl dX12_workOut_52 ?_
  refine rb_iload hC 4 dX12_workOut_55 rfl ?_
  obtain ⟨g4, h⟩ := rb_gd h
  refine rb_iald hC rb_arM2 (rb_ibI g4) dX12_workOut_57 ?_
  refine rb_if_ne hC 71 dX12_workOut_58 (by decide) (fun c5 => ?_) (fun c5 => ?_)
  · replace h := rb_ifn c5 h
    refine rb_aload_n hC 0 dX12_workOut_71 rfl ?_
    refine rb_getR hC fr_X12_34_11 rb_obM0 rfl dX12_workOut_72 ?_
    refine rb_aload_n hC 0 dX12_workOut_75 rfl ?_
    refine rb_getR hC fr_X12_16_11 rb_obM0 rfl dX12_workOut_76 ?_
    refine rb_iload hC 4 dX12_workOut_79 rfl ?_
    refine rb_iald hC rb_arM3 (rb_ibI g4) dX12_workOut_81 ?_
    obtain ⟨g6, h⟩ := rb_gd h
    refine rb_iald hC rb_arM9 (rb_ibI g6) dX12_workOut_82 ?_
    obtain ⟨g7, h⟩ := rb_gd h
    refine rb_iast hC rb_arM10 (rb_ibI g7) dX12_workOut_83 ?_
    obtain ⟨s8, e9, h⟩ := rb_ltE h
    refine rb_nmS e9 ?_
    refine rb_iinc hC 3 [(4, .int (x4 + 1)), (0, .ref (rb_ad w 0)), (1, .int x1), (3, .int x3), (5, .int x5)] dX12_workOut_84 rfl rfl (by decide) rfl ?_
    refine rb_goto hC 165 dX12_workOut_87 (by decide) ?_
    refine rb_iinc hC 4 [(5, .int (x5 + 1)), (4, .int (x4 + 1)), (0, .ref (rb_ad w 0)), (1, .int x1), (3, .int x3)] dX12_workOut_165 rfl rfl (by decide) rfl ?_
    refine rb_goto hC 12 dX12_workOut_168 (by decide) ?_
    exact rb_sub [2, 3, 4, 1, 0] rfl (hrc (x4 + 1) (x5 + 1) s8 h)
  · replace h := rb_ifp c5 h
    refine rb_aload_n hC 0 dX12_workOut_61 rfl ?_
    refine rb_getR hC fr_X12_16_11 rb_obM0 rfl dX12_workOut_62 ?_
    refine rb_iload hC 4 dX12_workOut_65 rfl ?_
    refine rb_iald hC rb_arM3 (rb_ibI g4) dX12_workOut_67 ?_
    refine rb_goto hC 83 dX12_workOut_68 (by decide) ?_
    obtain ⟨g10, h⟩ := rb_gd h
    refine rb_iast hC rb_arM10 (rb_ibI g10) dX12_workOut_83 ?_
    obtain ⟨s11, e12, h⟩ := rb_ltE h
    refine rb_nmS e12 ?_
    refine rb_iinc hC 3 [(4, .int (x4 + 1)), (0, .ref (rb_ad w 0)), (1, .int x1), (3, .int x3), (5, .int x5)] dX12_workOut_84 rfl rfl (by decide) rfl ?_
    refine rb_goto hC 165 dX12_workOut_87 (by decide) ?_
    refine rb_iinc hC 4 [(5, .int (x5 + 1)), (4, .int (x4 + 1)), (0, .ref (rb_ad w 0)), (1, .int x1), (3, .int x3)] dX12_workOut_165 rfl rfl (by decide) rfl ?_
    refine rb_goto hC 12 dX12_workOut_168 (by decide) ?_
    exact rb_sub [2, 3, 4, 1, 0] rfl (hrc (x4 + 1) (x5 + 1) s11 h)
def xl_M_workOut_12 (x1 : Int32) (x3 : Int32) : Nat → Int32 → Int32 → rb_St → Option (rb_St)
  | 0, _, _, _ => none
  | n + 1, x4, x5, σ => if ((520 * x1) + x3) ≤ x5 then some σ else if rb_ib x5 2600 then if (σ.1 2 x5.toNatClampNeg) = 0 then xj_M_workOut_45 (fun b4 b5 τ => xl_M_workOut_12 x1 x3 n b4 b5 τ) x1 x3 x4 x5 σ else if (σ.1 2 x5.toNatClampNeg) = 1 then xj_M_workOut_45 (fun b4 b5 τ => xl_M_workOut_12 x1 x3 n b4 b5 τ) x1 x3 x4 x5 σ else if (σ.1 2 x5.toNatClampNeg) = 9 then if rb_ib (x4 - 1) 80 then rb_lt (rb_sI σ 10 (x4 - 1).toNatClampNeg (1 - (σ.1 10 (x4 - 1).toNatClampNeg))) (fun s22 => xl_M_workOut_12 x1 x3 n x4 (x5 + 1) s22) else none else if rb_ib ((x4 + (-1)) - 1) 80 then if rb_ib (x4 + (-1)) 80 then rb_b1 (xf_M_worked (σ.1 2 x5.toNatClampNeg) ((σ.1 10 ((x4 + (-1)) - 1).toNatClampNeg).toInt64) ((σ.1 10 (x4 + (-1)).toNatClampNeg).toInt64) σ) fun r17 => rb_lt (rb_sI σ 10 ((x4 + (-1)) - 1).toNatClampNeg r17) (fun s19 => xl_M_workOut_12 x1 x3 n (x4 + (-1)) (x5 + 1) s19) else none else none else none
set_option maxHeartbeats 4000000 in
set_option maxRecDepth 100000 in
theorem xt_M_workOut_12 {z : rb_Z} {w : rb_Wd} {Q : State → Prop} (hC : rb_Cx z rb_vM w RX12 cX12_workOut 6 (some .int) 3) (x1 : Int32) (x3 : Int32) : ∀ (n : Nat) (x4 : Int32) (x5 : Int32) (σ : rb_St) (σ9 : rb_St), xl_M_workOut_12 x1 x3 n x4 x5 σ = some σ9 → rb_At z rb_vM w 6 Q 171 [(0, .ref (rb_ad w 0))] [] σ9 → rb_At z rb_vM w 6 Q 12 [(0, .ref (rb_ad w 0)), (1, .int x1), (3, .int x3), (4, .int x4), (5, .int x5)] [] σ := by
  intro n
  induction n with
  | zero =>
    intro x4 x5 σ σ9 h hE0
    cases h
  | succ n ih =>
    intro x4 x5 σ σ9 h hE0
    rw [xl_M_workOut_12] at h
    refine rb_iload hC 4 dX12_workOut_12 rfl ?_
    refine rb_sipush (x := 520) hC dX12_workOut_14 (by decide) ?_
    refine rb_iload_n hC 1 dX12_workOut_17 rfl ?_
    refine rb_imul hC dX12_workOut_18 ?_
    refine rb_iload_n hC 2 dX12_workOut_19 rfl ?_
    refine rb_iadd hC dX12_workOut_20 ?_
    refine rb_icmp_ge hC 171 dX12_workOut_21 (by decide) (fun c1 => ?_) (fun c1 => ?_)
    · replace h := rb_ifp c1 h
      cases h
      exact rb_sub [0] rfl (hE0)
    · replace h := rb_ifn c1 h
      refine rb_aload_n hC 0 dX12_workOut_24 rfl ?_
      refine rb_getR hC fr_X12_13_11 rb_obM0 rfl dX12_workOut_25 ?_
      refine rb_iload hC 4 dX12_workOut_28 rfl ?_
      obtain ⟨g2, h⟩ := rb_gd h
      refine rb_iald hC rb_arM2 (rb_ibI g2) dX12_workOut_30 ?_
      refine rb_if_eq hC 45 dX12_workOut_31 (by decide) (fun c3 => ?_) (fun c3 => ?_)
      · replace h := rb_ifp c3 h
        exact rb_sub [0, 1, 2, 3, 4] rfl (xu_M_workOut_45 hC (fun b4 b5 τ => xl_M_workOut_12 x1 x3 n b4 b5 τ) x1 x3 x4 x5 σ _ h (fun b4 b5 τ hq => ih b4 b5 τ _ hq hE0) hE0)
      · replace h := rb_ifn c3 h
        refine rb_aload_n hC 0 dX12_workOut_34 rfl ?_
        refine rb_getR hC fr_X12_13_11 rb_obM0 rfl dX12_workOut_35 ?_
        refine rb_iload hC 4 dX12_workOut_38 rfl ?_
        refine rb_iald hC rb_arM2 (rb_ibI g2) dX12_workOut_40 ?_
        refine rb_iconst (x := 1) hC dX12_workOut_41 (by decide) ?_
        refine rb_icmp_ne hC 90 dX12_workOut_42 (by decide) (fun c13 => ?_) (fun c13 => ?_)
        · replace h := rb_ifn c13 h
          refine rb_aload_n hC 0 dX12_workOut_90 rfl ?_
          refine rb_getR hC fr_X12_13_11 rb_obM0 rfl dX12_workOut_91 ?_
          refine rb_iload hC 4 dX12_workOut_94 rfl ?_
          refine rb_iald hC rb_arM2 (rb_ibI g2) dX12_workOut_96 ?_
          refine rb_bipush (x := 9) hC dX12_workOut_97 (by decide) ?_
          refine rb_icmp_ne hC 125 dX12_workOut_99 (by decide) (fun c14 => ?_) (fun c14 => ?_)
          · replace h := rb_ifn c14 h
            refine rb_iinc hC 3 [(4, .int (x4 + (-1))), (0, .ref (rb_ad w 0)), (1, .int x1), (3, .int x3), (5, .int x5)] dX12_workOut_125 rfl rfl (by decide) rfl ?_
            refine rb_aload_n hC 1 dX12_workOut_128 rfl ?_
            refine rb_getR hC fr_X12_37_11 rb_obM0 rfl dX12_workOut_129 ?_
            refine rb_iload hC 0 dX12_workOut_132 rfl ?_
            refine rb_iconst (x := 1) hC dX12_workOut_134 (by decide) ?_
            refine rb_isub hC dX12_workOut_135 ?_
            refine rb_aload_n hC 1 dX12_workOut_136 rfl ?_
            refine rb_getR hC fr_X12_13_11 rb_obM0 rfl dX12_workOut_137 ?_
            refine rb_iload hC 4 dX12_workOut_140 rfl ?_
            refine rb_iald hC rb_arM2 (rb_ibI g2) dX12_workOut_142 ?_
            refine rb_aload_n hC 1 dX12_workOut_143 rfl ?_
            refine rb_getR hC fr_X12_37_11 rb_obM0 rfl dX12_workOut_144 ?_
            refine rb_iload hC 0 dX12_workOut_147 rfl ?_
            refine rb_iconst (x := 1) hC dX12_workOut_149 (by decide) ?_
            refine rb_isub hC dX12_workOut_150 ?_
            obtain ⟨g15, h⟩ := rb_gd h
            refine rb_iald hC rb_arM10 (rb_ibI g15) dX12_workOut_151 ?_
            refine rb_i2l hC dX12_workOut_152 ?_
            refine rb_aload_n hC 1 dX12_workOut_153 rfl ?_
            refine rb_getR hC fr_X12_37_11 rb_obM0 rfl dX12_workOut_154 ?_
            refine rb_iload hC 0 dX12_workOut_157 rfl ?_
            obtain ⟨g16, h⟩ := rb_gd h
            refine rb_iald hC rb_arM10 (rb_ibI g16) dX12_workOut_159 ?_
            refine rb_i2l hC dX12_workOut_160 ?_
            obtain ⟨r17, q18, h⟩ := rb_b1s h
            refine rb_callSi hC rb_VokM mv_X12_221 (xc_M_worked (σ.1 2 x5.toNatClampNeg) ((σ.1 10 ((x4 + (-1)) - 1).toNatClampNeg).toInt64) ((σ.1 10 (x4 + (-1)).toNatClampNeg).toInt64) σ _ q18) [.int (σ.1 2 x5.toNatClampNeg), .long ((σ.1 10 ((x4 + (-1)) - 1).toNatClampNeg).toInt64), .long ((σ.1 10 (x4 + (-1)).toNatClampNeg).toInt64)] rfl rfl rfl ⟨Nat.le_of_ble_eq_true rfl, Nat.le_of_ble_eq_true rfl⟩ (Nat.le_of_ble_eq_true rfl) dX12_workOut_161 ?_
            refine rb_iast hC rb_arM10 (rb_ibI g15) dX12_workOut_164 ?_
            obtain ⟨s19, e20, h⟩ := rb_ltE h
            refine rb_nmS e20 ?_
            refine rb_iinc hC 4 [(5, .int (x5 + 1)), (4, .int (x4 + (-1))), (0, .ref (rb_ad w 0)), (1, .int x1), (3, .int x3)] dX12_workOut_165 rfl rfl (by decide) rfl ?_
            refine rb_goto hC 12 dX12_workOut_168 (by decide) ?_
            exact rb_sub [2, 3, 4, 1, 0] rfl (ih (x4 + (-1)) (x5 + 1) s19 _ h hE0)
          · replace h := rb_ifp c14 h
            refine rb_aload_n hC 0 dX12_workOut_102 rfl ?_
            refine rb_getR hC fr_X12_37_11 rb_obM0 rfl dX12_workOut_103 ?_
            refine rb_iload hC 3 dX12_workOut_106 rfl ?_
            refine rb_iconst (x := 1) hC dX12_workOut_108 (by decide) ?_
            refine rb_isub hC dX12_workOut_109 ?_
            refine rb_iconst (x := 1) hC dX12_workOut_110 (by decide) ?_
            refine rb_aload_n hC 0 dX12_workOut_111 rfl ?_
            refine rb_getR hC fr_X12_37_11 rb_obM0 rfl dX12_workOut_112 ?_
            refine rb_iload hC 3 dX12_workOut_115 rfl ?_
            refine rb_iconst (x := 1) hC dX12_workOut_117 (by decide) ?_
            refine rb_isub hC dX12_workOut_118 ?_
            obtain ⟨g21, h⟩ := rb_gd h
            refine rb_iald hC rb_arM10 (rb_ibI g21) dX12_workOut_119 ?_
            refine rb_isub hC dX12_workOut_120 ?_
            refine rb_iast hC rb_arM10 (rb_ibI g21) dX12_workOut_121 ?_
            obtain ⟨s22, e23, h⟩ := rb_ltE h
            refine rb_nmS e23 ?_
            refine rb_goto hC 165 dX12_workOut_122 (by decide) ?_
            refine rb_iinc hC 4 [(5, .int (x5 + 1)), (0, .ref (rb_ad w 0)), (1, .int x1), (3, .int x3), (4, .int x4)] dX12_workOut_165 rfl rfl (by decide) rfl ?_
            refine rb_goto hC 12 dX12_workOut_168 (by decide) ?_
            exact rb_sub [1, 2, 3, 4, 0] rfl (ih x4 (x5 + 1) s22 _ h hE0)
        · replace h := rb_ifp c13 h
          exact rb_sub [0, 1, 2, 3, 4] rfl (xu_M_workOut_45 hC (fun b4 b5 τ => xl_M_workOut_12 x1 x3 n b4 b5 τ) x1 x3 x4 x5 σ _ h (fun b4 b5 τ hq => ih b4 b5 τ _ hq hE0) hE0)
def xf_M_workOut (p0 : Int32) (p1 : Int32) (p2 : Int32) (σ : rb_St) : Option (Int32 × rb_St) := rb_b1 (xl_M_workOut_12 p0 p2 rb_FU 0 ((520 * p0) + p1) σ) fun s24 => some (s24.1 10 0, s24)
set_option maxHeartbeats 4000000 in
set_option maxRecDepth 100000 in
theorem xk_M_workOut {z : rb_Z} {w : rb_Wd} (hC : rb_Cx z rb_vM w RX12 cX12_workOut 6 (some .int) 3) (p0 : Int32) (p1 : Int32) (p2 : Int32) (σ : rb_St) (r : Int32) (σ9 : rb_St) (h : xf_M_workOut p0 p1 p2 σ = some (r, σ9)) : rb_At z rb_vM w 6 (rb_Q z rb_vM w (some (.int r)) σ9) 0 [(0, .ref (rb_ad w 0)), (1, .int p0), (2, .int p1), (3, .int p2)] [] σ := by
  unfold xf_M_workOut at h
  refine rb_iconst (x := 0) hC dX12_workOut_0 (by decide) ?_
  refine rb_istore hC [(4, .int 0), (0, .ref (rb_ad w 0)), (1, .int p0), (2, .int p1), (3, .int p2)] dX12_workOut_1 (by decide) rfl ?_
  refine rb_sipush (x := 520) hC dX12_workOut_3 (by decide) ?_
  refine rb_iload_n hC 2 dX12_workOut_6 rfl ?_
  refine rb_imul hC dX12_workOut_7 ?_
  refine rb_iload_n hC 3 dX12_workOut_8 rfl ?_
  refine rb_iadd hC dX12_workOut_9 ?_
  refine rb_istore hC [(5, .int ((520 * p0) + p1)), (4, .int 0), (0, .ref (rb_ad w 0)), (1, .int p0), (2, .int p1), (3, .int p2)] dX12_workOut_10 (by decide) rfl ?_
  obtain ⟨s24, q25, h⟩ := rb_b1s h
  refine rb_sub (lv2 := [(0, .ref (rb_ad w 0)), (1, .int p0), (3, .int p2), (4, .int 0), (5, .int ((520 * p0) + p1))]) [2, 3, 5, 1, 0] rfl ?_
  refine xt_M_workOut_12 hC p0 p2 rb_FU 0 ((520 * p0) + p1) σ _ q25 ?_
  refine rb_aload_n hC 0 dX12_workOut_171 rfl ?_
  refine rb_getR hC fr_X12_37_11 rb_obM0 rfl dX12_workOut_172 ?_
  refine rb_iconst (x := 0) hC dX12_workOut_175 (by decide) ?_
  refine rb_iald hC rb_arM10 (rb_ibI (by decide)) dX12_workOut_176 ?_
  cases h
  exact rb_iret hC dX12_workOut_177
theorem xc_M_workOut (p0 : Int32) (p1 : Int32) (p2 : Int32) (σ : rb_St) (r : Int32) (σ9 : rb_St) (h : xf_M_workOut p0 p1 p2 σ = some (r, σ9)) : rb_Con rb_vM yX12_workOut cX12_workOut 6 (some .int) 3 (fun w => [.ref (rb_ad w 0), .int p0, .int p1, .int p2]) σ (fun _ => (some (.int r))) σ9 := rb_Con.of (by decide +kernel) (fun _ => Nat.le_of_ble_eq_true rfl) (fun z w hC => xk_M_workOut hC p0 p1 p2 σ r σ9 h)
theorem fr_X12_25_11 : rb_FR RX12 25 11 10 := ⟨RX12, TX12, 50, "RibbonPoleModel", rfl, rb_uX12, by decide, rb_in (by decide +kernel) (by decide +kernel), Or.inl rfl⟩
theorem fr_X12_28_11 : rb_FR RX12 28 11 11 := ⟨RX12, TX12, 50, "RibbonPoleModel", rfl, rb_uX12, by decide, rb_in (by decide +kernel) (by decide +kernel), Or.inl rfl⟩
theorem me_X12_workOut : Cond.instanceMethod yX12_workOut ∈ rb_tbl ∧ Cond.selects yX12_workOut.cls yX12_workOut yX12_workOut ∈ rb_tbl ∧ Cond.initialized yX12_workOut.cls ∈ rb_tbl ∧ Cond.code yX12_workOut cX12_workOut 6 (some .int) ∈ rb_tbl ∧ rb_pn yX12_workOut 3 := ⟨rb_in (by decide +kernel) (by decide +kernel), rb_in (by decide +kernel) (by decide +kernel), rb_in (by decide +kernel) (by decide +kernel), rb_in (by decide +kernel) (by decide +kernel), by decide +kernel, by decide +kernel, by decide +kernel⟩
theorem mv_X12_225 : rb_MV RX12 225 yX12_workOut cX12_workOut 6 (some .int) 3 := ⟨rb_in (by decide +kernel) (by decide +kernel), me_X12_workOut⟩
theorem fr_X12_31_11 : rb_FR RX12 31 11 12 := ⟨RX12, TX12, 50, "RibbonPoleModel", rfl, rb_uX12, by decide, rb_in (by decide +kernel) (by decide +kernel), Or.inl rfl⟩
def xl_M_worthOf_6 (x1 : Int32) : Nat → Int32 → rb_St → Option (Nat × Int32 × rb_St)
  | 0, _, _ => none
  | n + 1, x2, σ => if rb_ib x1 5 then if ((140 * x1) + (σ.1 5 x1.toNatClampNeg)) ≤ x2 then some (1, x2, σ) else if rb_ib x2 700 then if (σ.1 6 x2.toNatClampNeg) = (σ.1 7 x2.toNatClampNeg) then some (0, x2, σ) else rb_b2 (xf_M_workOut x1 (σ.1 6 x2.toNatClampNeg) (σ.1 7 x2.toNatClampNeg) σ) fun r7 s5 => if r7 = 0 then xl_M_worthOf_6 x1 n (x2 + 1) s5 else some (0, x2, s5) else none else none
set_option maxHeartbeats 4000000 in
set_option maxRecDepth 100000 in
theorem xt_M_worthOf_6 {z : rb_Z} {w : rb_Wd} {Q : State → Prop} (hC : rb_Cx z rb_vM w RX12 cX12_worthOf 3 (some .int) 4) (x1 : Int32) : ∀ (n : Nat) (x2 : Int32) (σ : rb_St) (t : Nat) (y2 : Int32) (σ9 : rb_St), xl_M_worthOf_6 x1 n x2 σ = some (t, y2, σ9) → (t = 0 → rb_At z rb_vM w 3 Q 57 [(0, .ref (rb_ad w 0)), (1, .int x1), (2, .int y2)] [] σ9) → (t = 1 → rb_At z rb_vM w 3 Q 81 [] [] σ9) → rb_At z rb_vM w 3 Q 6 [(0, .ref (rb_ad w 0)), (1, .int x1), (2, .int x2)] [] σ := by
  intro n
  induction n with
  | zero =>
    intro x2 σ t y2 σ9 h hE0 hE1
    cases h
  | succ n ih =>
    intro x2 σ t y2 σ9 h hE0 hE1
    rw [xl_M_worthOf_6] at h
    refine rb_iload_n hC 2 dX12_worthOf_6 rfl ?_
    refine rb_sipush (x := 140) hC dX12_worthOf_7 (by decide) ?_
    refine rb_iload_n hC 1 dX12_worthOf_10 rfl ?_
    refine rb_imul hC dX12_worthOf_11 ?_
    refine rb_aload_n hC 0 dX12_worthOf_12 rfl ?_
    refine rb_getR hC fr_X12_22_11 rb_obM0 rfl dX12_worthOf_13 ?_
    refine rb_iload_n hC 1 dX12_worthOf_16 rfl ?_
    obtain ⟨g1, h⟩ := rb_gd h
    refine rb_iald hC rb_arM5 (rb_ibI g1) dX12_worthOf_17 ?_
    refine rb_iadd hC dX12_worthOf_18 ?_
    refine rb_icmp_ge hC 81 dX12_worthOf_19 (by decide) (fun c2 => ?_) (fun c2 => ?_)
    · replace h := rb_ifp c2 h
      cases h
      exact rb_sub [] rfl (hE1 rfl)
    · replace h := rb_ifn c2 h
      refine rb_aload_n hC 0 dX12_worthOf_22 rfl ?_
      refine rb_getR hC fr_X12_25_11 rb_obM0 rfl dX12_worthOf_23 ?_
      refine rb_iload_n hC 2 dX12_worthOf_26 rfl ?_
      obtain ⟨g3, h⟩ := rb_gd h
      refine rb_iald hC rb_arM6 (rb_ibI g3) dX12_worthOf_27 ?_
      refine rb_aload_n hC 0 dX12_worthOf_28 rfl ?_
      refine rb_getR hC fr_X12_28_11 rb_obM0 rfl dX12_worthOf_29 ?_
      refine rb_iload_n hC 2 dX12_worthOf_32 rfl ?_
      refine rb_iald hC rb_arM7 (rb_ibI g3) dX12_worthOf_33 ?_
      refine rb_icmp_eq hC 57 dX12_worthOf_34 (by decide) (fun c4 => ?_) (fun c4 => ?_)
      · replace h := rb_ifp c4 h
        cases h
        exact rb_sub [0, 1, 2] rfl (hE0 rfl)
      · replace h := rb_ifn c4 h
        refine rb_aload_n hC 0 dX12_worthOf_37 rfl ?_
        refine rb_iload_n hC 1 dX12_worthOf_38 rfl ?_
        refine rb_aload_n hC 0 dX12_worthOf_39 rfl ?_
        refine rb_getR hC fr_X12_25_11 rb_obM0 rfl dX12_worthOf_40 ?_
        refine rb_iload_n hC 2 dX12_worthOf_43 rfl ?_
        refine rb_iald hC rb_arM6 (rb_ibI g3) dX12_worthOf_44 ?_
        refine rb_aload_n hC 0 dX12_worthOf_45 rfl ?_
        refine rb_getR hC fr_X12_28_11 rb_obM0 rfl dX12_worthOf_46 ?_
        refine rb_iload_n hC 2 dX12_worthOf_49 rfl ?_
        refine rb_iald hC rb_arM7 (rb_ibI g3) dX12_worthOf_50 ?_
        obtain ⟨r7, s5, q6, h⟩ := rb_b2s h
        refine rb_callVi hC rb_VokM mv_X12_225 (xc_M_workOut x1 (σ.1 6 x2.toNatClampNeg) (σ.1 7 x2.toNatClampNeg) σ _ _ q6) rb_obM0 rfl [.int x1, .int (σ.1 6 x2.toNatClampNeg), .int (σ.1 7 x2.toNatClampNeg)] rfl rfl rfl ⟨Nat.le_of_ble_eq_true rfl, Nat.le_of_ble_eq_true rfl⟩ (Nat.le_of_ble_eq_true rfl) dX12_worthOf_51 ?_
        refine rb_if_eq hC 75 dX12_worthOf_54 (by decide) (fun c8 => ?_) (fun c8 => ?_)
        · replace h := rb_ifp c8 h
          refine rb_iinc hC 2 [(2, .int (x2 + 1)), (0, .ref (rb_ad w 0)), (1, .int x1)] dX12_worthOf_75 rfl rfl (by decide) rfl ?_
          refine rb_goto hC 6 dX12_worthOf_78 (by decide) ?_
          exact rb_sub [1, 2, 0] rfl (ih (x2 + 1) s5 _ _ _ h hE0 hE1)
        · replace h := rb_ifn c8 h
          cases h
          exact rb_sub [0, 1, 2] rfl (hE0 rfl)
def xf_M_worthOf (p0 : Int32) (σ : rb_St) : Option (Int32 × rb_St) := rb_b3 (xl_M_worthOf_6 p0 rb_FU (140 * p0) σ) fun t9 y10 s11 => if t9 = 0 then if rb_ib y10 700 then rb_b2 (xf_M_workOut p0 (s11.1 7 y10.toNatClampNeg) (s11.1 8 y10.toNatClampNeg) s11) fun r16 s14 => some (r16, s14) else none else some (0, s11)
set_option maxHeartbeats 4000000 in
set_option maxRecDepth 100000 in
theorem xk_M_worthOf {z : rb_Z} {w : rb_Wd} (hC : rb_Cx z rb_vM w RX12 cX12_worthOf 3 (some .int) 4) (p0 : Int32) (σ : rb_St) (r : Int32) (σ9 : rb_St) (h : xf_M_worthOf p0 σ = some (r, σ9)) : rb_At z rb_vM w 3 (rb_Q z rb_vM w (some (.int r)) σ9) 0 [(0, .ref (rb_ad w 0)), (1, .int p0)] [] σ := by
  unfold xf_M_worthOf at h
  refine rb_sipush (x := 140) hC dX12_worthOf_0 (by decide) ?_
  refine rb_iload_n hC 1 dX12_worthOf_3 rfl ?_
  refine rb_imul hC dX12_worthOf_4 ?_
  refine rb_istore_n hC [(2, .int (140 * p0)), (0, .ref (rb_ad w 0)), (1, .int p0)] dX12_worthOf_5 (by decide) rfl ?_
  obtain ⟨t9, y10, s11, q12, h⟩ := rb_b3s h
  refine rb_sub (lv2 := [(0, .ref (rb_ad w 0)), (1, .int p0), (2, .int (140 * p0))]) [1, 2, 0] rfl ?_
  refine xt_M_worthOf_6 hC p0 rb_FU (140 * p0) σ _ _ _ q12 (fun ht => ?_) (fun ht => ?_)
  · subst ht
    replace h := rb_ifp rfl h
    refine rb_aload_n hC 0 dX12_worthOf_57 rfl ?_
    refine rb_iload_n hC 1 dX12_worthOf_58 rfl ?_
    refine rb_aload_n hC 0 dX12_worthOf_59 rfl ?_
    refine rb_getR hC fr_X12_28_11 rb_obM0 rfl dX12_worthOf_60 ?_
    refine rb_iload_n hC 2 dX12_worthOf_63 rfl ?_
    obtain ⟨g13, h⟩ := rb_gd h
    refine rb_iald hC rb_arM7 (rb_ibI g13) dX12_worthOf_64 ?_
    refine rb_aload_n hC 0 dX12_worthOf_65 rfl ?_
    refine rb_getR hC fr_X12_31_11 rb_obM0 rfl dX12_worthOf_66 ?_
    refine rb_iload_n hC 2 dX12_worthOf_69 rfl ?_
    refine rb_iald hC rb_arM8 (rb_ibI g13) dX12_worthOf_70 ?_
    obtain ⟨r16, s14, q15, h⟩ := rb_b2s h
    refine rb_callVi hC rb_VokM mv_X12_225 (xc_M_workOut p0 (s11.1 7 y10.toNatClampNeg) (s11.1 8 y10.toNatClampNeg) s11 _ _ q15) rb_obM0 rfl [.int p0, .int (s11.1 7 y10.toNatClampNeg), .int (s11.1 8 y10.toNatClampNeg)] rfl rfl rfl ⟨Nat.le_of_ble_eq_true rfl, Nat.le_of_ble_eq_true rfl⟩ (Nat.le_of_ble_eq_true rfl) dX12_worthOf_71 ?_
    cases h
    exact rb_iret hC dX12_worthOf_74
  · subst ht
    replace h := rb_ifn (by decide) h
    refine rb_iconst (x := 0) hC dX12_worthOf_81 (by decide) ?_
    cases h
    exact rb_iret hC dX12_worthOf_82
theorem xc_M_worthOf (p0 : Int32) (σ : rb_St) (r : Int32) (σ9 : rb_St) (h : xf_M_worthOf p0 σ = some (r, σ9)) : rb_Con rb_vM yX12_worthOf cX12_worthOf 3 (some .int) 4 (fun w => [.ref (rb_ad w 0), .int p0]) σ (fun _ => (some (.int r))) σ9 := rb_Con.of (by decide +kernel) (fun _ => Nat.le_of_ble_eq_true rfl) (fun z w hC => xk_M_worthOf hC p0 σ r σ9 h)
theorem me_X12_in : Cond.static yX12_in ∈ rb_tbl ∧ Cond.initialized yX12_in.cls ∈ rb_tbl ∧ Cond.code yX12_in cX12_in 3 (some .boolean) ∈ rb_tbl ∧ rb_pn yX12_in 3 := ⟨rb_in (by decide +kernel) (by decide +kernel), rb_in (by decide +kernel) (by decide +kernel), rb_in (by decide +kernel) (by decide +kernel), by decide +kernel, by decide +kernel, by decide +kernel⟩
theorem mv_X12_229 : rb_MS RX12 229 yX12_in cX12_in 3 (some .boolean) 3 := ⟨rb_in (by decide +kernel) (by decide +kernel), me_X12_in⟩
def xj_M_number_67 (x1 : Int32) (x2 : Int32) (x3 : Int32) (σ : rb_St) : Option (Int32 × rb_St) := rb_b1 (xf_M_here σ) fun r12 => if (xf_M_isDigit r12 σ) = 0 then if (xf_M_in x3 x1 x2 σ) = 0 then rb_lt (rb_sI σ 0 3 ((σ.1 0 3) - 1)) (fun s16 => rb_b1 (xf_M_bad s16) fun s18 => some (x3, s18)) else some (x3, σ) else rb_b1 (xf_M_bad σ) fun s20 => some (x3, s20)
set_option maxHeartbeats 4000000 in
set_option maxRecDepth 100000 in
theorem xu_M_number_67 {z : rb_Z} {w : rb_Wd} (hC : rb_Cx z rb_vM w RX12 cX12_number 4 (some .int) 2) (x1 : Int32) (x2 : Int32) (x3 : Int32) (σ : rb_St) (r : Int32) (σ9 : rb_St) (h : xj_M_number_67 x1 x2 x3 σ = some (r, σ9)) : rb_At z rb_vM w 4 (rb_Q z rb_vM w (some (.int r)) σ9) 67 [(0, .ref (rb_ad w 0)), (1, .int x1), (2, .int x2), (3, .int x3)] [] σ := by
  unfold xj_M_number_67 at h
  refine rb_aload_n hC 0 dX12_number_67 rfl ?_
  obtain ⟨r12, q13, h⟩ := rb_b1s h
  refine rb_callVi hC rb_VokM mv_X12_127 (xc_M_here  σ _ q13) rb_obM0 rfl [] rfl rfl rfl ⟨Nat.le_of_ble_eq_true rfl, Nat.le_of_ble_eq_true rfl⟩ (Nat.le_of_ble_eq_true rfl) dX12_number_68 ?_
  refine rb_callSi hC rb_VokM mv_X12_146 (xc_M_isDigit r12 σ _ rfl) [.int r12] rfl rfl rfl ⟨Nat.le_of_ble_eq_true rfl, Nat.le_of_ble_eq_true rfl⟩ (Nat.le_of_ble_eq_true rfl) dX12_number_71 ?_
  refine rb_if_eq hC 84 dX12_number_74 (by decide) (fun c14 => ?_) (fun c14 => ?_)
  · replace h := rb_ifp c14 h
    refine rb_iload_n hC 3 dX12_number_84 rfl ?_
    refine rb_iload_n hC 1 dX12_number_85 rfl ?_
    refine rb_iload_n hC 2 dX12_number_86 rfl ?_
    refine rb_callSi hC rb_VokM mv_X12_229 (xc_M_in x3 x1 x2 σ _ rfl) [.int x3, .int x1, .int x2] rfl rfl rfl ⟨Nat.le_of_ble_eq_true rfl, Nat.le_of_ble_eq_true rfl⟩ (Nat.le_of_ble_eq_true rfl) dX12_number_87 ?_
    refine rb_if_ne hC 107 dX12_number_90 (by decide) (fun c15 => ?_) (fun c15 => ?_)
    · replace h := rb_ifn c15 h
      refine rb_iload_n hC 3 dX12_number_107 rfl ?_
      cases h
      exact rb_iret hC dX12_number_108
    · replace h := rb_ifp c15 h
      refine rb_aload_n hC 0 dX12_number_93 rfl ?_
      refine rb_dup hC dX12_number_94 rfl ?_
      refine rb_getI hC fr_X12_124_11 rb_obM0 rfl dX12_number_95 ?_
      refine rb_iconst (x := 1) hC dX12_number_98 (by decide) ?_
      refine rb_isub hC dX12_number_99 ?_
      refine rb_putI hC fr_X12_124_11 ft_11_3 rb_obM0 rfl rfl rfl dX12_number_100 ?_
      obtain ⟨s16, e17, h⟩ := rb_ltE h
      refine rb_nmS e17 ?_
      refine rb_aload_n hC 0 dX12_number_103 rfl ?_
      obtain ⟨s18, q19, h⟩ := rb_b1s h
      refine rb_callVv hC rb_VokM mv_X12_140 (xc_M_bad  s16 _ q19) rb_obM0 rfl [] rfl rfl rfl ⟨Nat.le_of_ble_eq_true rfl, Nat.le_of_ble_eq_true rfl⟩ (Nat.le_of_ble_eq_true rfl) dX12_number_104 ?_
      refine rb_iload_n hC 3 dX12_number_107 rfl ?_
      cases h
      exact rb_iret hC dX12_number_108
  · replace h := rb_ifn c14 h
    refine rb_aload_n hC 0 dX12_number_77 rfl ?_
    obtain ⟨s20, q21, h⟩ := rb_b1s h
    refine rb_callVv hC rb_VokM mv_X12_140 (xc_M_bad  σ _ q21) rb_obM0 rfl [] rfl rfl rfl ⟨Nat.le_of_ble_eq_true rfl, Nat.le_of_ble_eq_true rfl⟩ (Nat.le_of_ble_eq_true rfl) dX12_number_78 ?_
    refine rb_goto hC 107 dX12_number_81 (by decide) ?_
    refine rb_iload_n hC 3 dX12_number_107 rfl ?_
    cases h
    exact rb_iret hC dX12_number_108
def xf_M_number (p0 : Int32) (p1 : Int32) (σ : rb_St) : Option (Int32 × rb_St) := rb_b2 (xf_M_look σ) fun r3 s1 => if (xf_M_isDigit r3 s1) = 0 then rb_b1 (xf_M_bad s1) fun s26 => some (p0, s26) else rb_b1 (xf_M_here s1) fun r5 => rb_lt (rb_sI s1 0 3 ((s1.1 0 3) + 1)) (fun s7 => rb_b1 (xf_M_here s7) fun r9 => if (xf_M_isDigit r9 s7) = 0 then xj_M_number_67 p0 p1 (r5 - 48) s7 else rb_b1 (xf_M_here s7) fun r22 => rb_lt (rb_sI s7 0 3 ((s7.1 0 3) + 1)) (fun s24 => xj_M_number_67 p0 p1 (((10 * (r5 - 48)) + r22) - 48) s24))
set_option maxHeartbeats 4000000 in
set_option maxRecDepth 100000 in
theorem xk_M_number {z : rb_Z} {w : rb_Wd} (hC : rb_Cx z rb_vM w RX12 cX12_number 4 (some .int) 2) (p0 : Int32) (p1 : Int32) (σ : rb_St) (r : Int32) (σ9 : rb_St) (h : xf_M_number p0 p1 σ = some (r, σ9)) : rb_At z rb_vM w 4 (rb_Q z rb_vM w (some (.int r)) σ9) 0 [(0, .ref (rb_ad w 0)), (1, .int p0), (2, .int p1)] [] σ := by
  unfold xf_M_number at h
  refine rb_aload_n hC 0 dX12_number_0 rfl ?_
  obtain ⟨r3, s1, q2, h⟩ := rb_b2s h
  refine rb_callVi hC rb_VokM mv_X12_143 (xc_M_look  σ _ _ q2) rb_obM0 rfl [] rfl rfl rfl ⟨Nat.le_of_ble_eq_true rfl, Nat.le_of_ble_eq_true rfl⟩ (Nat.le_of_ble_eq_true rfl) dX12_number_1 ?_
  refine rb_callSi hC rb_VokM mv_X12_146 (xc_M_isDigit r3 s1 _ rfl) [.int r3] rfl rfl rfl ⟨Nat.le_of_ble_eq_true rfl, Nat.le_of_ble_eq_true rfl⟩ (Nat.le_of_ble_eq_true rfl) dX12_number_4 ?_
  refine rb_if_ne hC 16 dX12_number_7 (by decide) (fun c4 => ?_) (fun c4 => ?_)
  · replace h := rb_ifn c4 h
    refine rb_aload_n hC 0 dX12_number_16 rfl ?_
    obtain ⟨r5, q6, h⟩ := rb_b1s h
    refine rb_callVi hC rb_VokM mv_X12_127 (xc_M_here  s1 _ q6) rb_obM0 rfl [] rfl rfl rfl ⟨Nat.le_of_ble_eq_true rfl, Nat.le_of_ble_eq_true rfl⟩ (Nat.le_of_ble_eq_true rfl) dX12_number_17 ?_
    refine rb_bipush (x := 48) hC dX12_number_20 (by decide) ?_
    refine rb_isub hC dX12_number_22 ?_
    refine rb_istore_n hC [(3, .int (r5 - 48)), (0, .ref (rb_ad w 0)), (1, .int p0), (2, .int p1)] dX12_number_23 (by decide) rfl ?_
    refine rb_aload_n hC 1 dX12_number_24 rfl ?_
    refine rb_dup hC dX12_number_25 rfl ?_
    refine rb_getI hC fr_X12_124_11 rb_obM0 rfl dX12_number_26 ?_
    refine rb_iconst (x := 1) hC dX12_number_29 (by decide) ?_
    refine rb_iadd hC dX12_number_30 ?_
    refine rb_putI hC fr_X12_124_11 ft_11_3 rb_obM0 rfl rfl rfl dX12_number_31 ?_
    obtain ⟨s7, e8, h⟩ := rb_ltE h
    refine rb_nmS e8 ?_
    refine rb_aload_n hC 1 dX12_number_34 rfl ?_
    obtain ⟨r9, q10, h⟩ := rb_b1s h
    refine rb_callVi hC rb_VokM mv_X12_127 (xc_M_here  s7 _ q10) rb_obM0 rfl [] rfl rfl rfl ⟨Nat.le_of_ble_eq_true rfl, Nat.le_of_ble_eq_true rfl⟩ (Nat.le_of_ble_eq_true rfl) dX12_number_35 ?_
    refine rb_callSi hC rb_VokM mv_X12_146 (xc_M_isDigit r9 s7 _ rfl) [.int r9] rfl rfl rfl ⟨Nat.le_of_ble_eq_true rfl, Nat.le_of_ble_eq_true rfl⟩ (Nat.le_of_ble_eq_true rfl) dX12_number_38 ?_
    refine rb_if_eq hC 67 dX12_number_41 (by decide) (fun c11 => ?_) (fun c11 => ?_)
    · replace h := rb_ifp c11 h
      exact rb_sub [1, 2, 3, 0] rfl (xu_M_number_67 hC p0 p1 (r5 - 48) s7 _ _ h)
    · replace h := rb_ifn c11 h
      refine rb_bipush (x := 10) hC dX12_number_44 (by decide) ?_
      refine rb_iload_n hC 0 dX12_number_46 rfl ?_
      refine rb_imul hC dX12_number_47 ?_
      refine rb_aload_n hC 1 dX12_number_48 rfl ?_
      obtain ⟨r22, q23, h⟩ := rb_b1s h
      refine rb_callVi hC rb_VokM mv_X12_127 (xc_M_here  s7 _ q23) rb_obM0 rfl [] rfl rfl rfl ⟨Nat.le_of_ble_eq_true rfl, Nat.le_of_ble_eq_true rfl⟩ (Nat.le_of_ble_eq_true rfl) dX12_number_49 ?_
      refine rb_iadd hC dX12_number_52 ?_
      refine rb_bipush (x := 48) hC dX12_number_53 (by decide) ?_
      refine rb_isub hC dX12_number_55 ?_
      refine rb_istore_n hC [(3, .int (((10 * (r5 - 48)) + r22) - 48)), (0, .ref (rb_ad w 0)), (1, .int p0), (2, .int p1)] dX12_number_56 (by decide) rfl ?_
      refine rb_aload_n hC 1 dX12_number_57 rfl ?_
      refine rb_dup hC dX12_number_58 rfl ?_
      refine rb_getI hC fr_X12_124_11 rb_obM0 rfl dX12_number_59 ?_
      refine rb_iconst (x := 1) hC dX12_number_62 (by decide) ?_
      refine rb_iadd hC dX12_number_63 ?_
      refine rb_putI hC fr_X12_124_11 ft_11_3 rb_obM0 rfl rfl rfl dX12_number_64 ?_
      obtain ⟨s24, e25, h⟩ := rb_ltE h
      refine rb_nmS e25 ?_
      exact rb_sub [1, 2, 3, 0] rfl (xu_M_number_67 hC p0 p1 (((10 * (r5 - 48)) + r22) - 48) s24 _ _ h)
  · replace h := rb_ifp c4 h
    refine rb_aload_n hC 0 dX12_number_10 rfl ?_
    obtain ⟨s26, q27, h⟩ := rb_b1s h
    refine rb_callVv hC rb_VokM mv_X12_140 (xc_M_bad  s1 _ q27) rb_obM0 rfl [] rfl rfl rfl ⟨Nat.le_of_ble_eq_true rfl, Nat.le_of_ble_eq_true rfl⟩ (Nat.le_of_ble_eq_true rfl) dX12_number_11 ?_
    refine rb_iload_n hC 1 dX12_number_14 rfl ?_
    cases h
    exact rb_iret hC dX12_number_15
theorem xc_M_number (p0 : Int32) (p1 : Int32) (σ : rb_St) (r : Int32) (σ9 : rb_St) (h : xf_M_number p0 p1 σ = some (r, σ9)) : rb_Con rb_vM yX12_number cX12_number 4 (some .int) 2 (fun w => [.ref (rb_ad w 0), .int p0, .int p1]) σ (fun _ => (some (.int r))) σ9 := rb_Con.of (by decide +kernel) (fun _ => Nat.le_of_ble_eq_true rfl) (fun z w hC => xk_M_number hC p0 p1 σ r σ9 h)
