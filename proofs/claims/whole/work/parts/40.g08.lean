def xf_M_itemOf (p0 : Int32) (p1 : Int32) (σ : rb_St) : Int32 := if p0 = 115 then if p1 = 116 then 0 else if p1 = 107 then 1 else if p1 = 119 then 2 else (-1) else if p1 = 99 then 0 else if p1 = 108 then 1 else if p1 = 115 then 2 else (-1)
set_option maxHeartbeats 4000000 in
set_option maxRecDepth 100000 in
theorem xk_M_itemOf {z : rb_Z} {w : rb_Wd} (hC : rb_Cx z rb_vM w RX12 cX12_itemOf 2 (some .int) 0) (p0 : Int32) (p1 : Int32) (σ : rb_St) (r : Int32) (h : xf_M_itemOf p0 p1 σ = r) : rb_At z rb_vM w 2 (rb_Q z rb_vM w (some (.int r)) σ) 0 [(0, .int p0), (1, .int p1)] [] σ := by
  unfold xf_M_itemOf at h
  refine rb_iload_n hC 0 dX12_itemOf_0 rfl ?_
  refine rb_bipush (x := 115) hC dX12_itemOf_1 (by decide) ?_
  refine rb_icmp_ne hC 38 dX12_itemOf_3 (by decide) (fun c1 => ?_) (fun c1 => ?_)
  · replace h := rb_ifn c1 h
    refine rb_iload_n hC 1 dX12_itemOf_38 rfl ?_
    refine rb_bipush (x := 99) hC dX12_itemOf_39 (by decide) ?_
    refine rb_icmp_ne hC 48 dX12_itemOf_41 (by decide) (fun c2 => ?_) (fun c2 => ?_)
    · replace h := rb_ifn c2 h
      refine rb_iload_n hC 1 dX12_itemOf_48 rfl ?_
      refine rb_bipush (x := 108) hC dX12_itemOf_49 (by decide) ?_
      refine rb_icmp_ne hC 58 dX12_itemOf_51 (by decide) (fun c3 => ?_) (fun c3 => ?_)
      · replace h := rb_ifn c3 h
        refine rb_iload_n hC 1 dX12_itemOf_58 rfl ?_
        refine rb_bipush (x := 115) hC dX12_itemOf_59 (by decide) ?_
        refine rb_icmp_ne hC 68 dX12_itemOf_61 (by decide) (fun c4 => ?_) (fun c4 => ?_)
        · replace h := rb_ifn c4 h
          refine rb_iconst (x := (-1)) hC dX12_itemOf_68 (by decide) ?_
          subst h
          exact rb_iret hC dX12_itemOf_69
        · replace h := rb_ifp c4 h
          refine rb_iconst (x := 2) hC dX12_itemOf_64 (by decide) ?_
          refine rb_goto hC 69 dX12_itemOf_65 (by decide) ?_
          subst h
          exact rb_iret hC dX12_itemOf_69
      · replace h := rb_ifp c3 h
        refine rb_iconst (x := 1) hC dX12_itemOf_54 (by decide) ?_
        refine rb_goto hC 69 dX12_itemOf_55 (by decide) ?_
        subst h
        exact rb_iret hC dX12_itemOf_69
    · replace h := rb_ifp c2 h
      refine rb_iconst (x := 0) hC dX12_itemOf_44 (by decide) ?_
      refine rb_goto hC 69 dX12_itemOf_45 (by decide) ?_
      subst h
      exact rb_iret hC dX12_itemOf_69
  · replace h := rb_ifp c1 h
    refine rb_iload_n hC 1 dX12_itemOf_6 rfl ?_
    refine rb_bipush (x := 116) hC dX12_itemOf_7 (by decide) ?_
    refine rb_icmp_ne hC 16 dX12_itemOf_9 (by decide) (fun c5 => ?_) (fun c5 => ?_)
    · replace h := rb_ifn c5 h
      refine rb_iload_n hC 1 dX12_itemOf_16 rfl ?_
      refine rb_bipush (x := 107) hC dX12_itemOf_17 (by decide) ?_
      refine rb_icmp_ne hC 26 dX12_itemOf_19 (by decide) (fun c6 => ?_) (fun c6 => ?_)
      · replace h := rb_ifn c6 h
        refine rb_iload_n hC 1 dX12_itemOf_26 rfl ?_
        refine rb_bipush (x := 119) hC dX12_itemOf_27 (by decide) ?_
        refine rb_icmp_ne hC 36 dX12_itemOf_29 (by decide) (fun c7 => ?_) (fun c7 => ?_)
        · replace h := rb_ifn c7 h
          refine rb_iconst (x := (-1)) hC dX12_itemOf_36 (by decide) ?_
          subst h
          exact rb_iret hC dX12_itemOf_37
        · replace h := rb_ifp c7 h
          refine rb_iconst (x := 2) hC dX12_itemOf_32 (by decide) ?_
          refine rb_goto hC 37 dX12_itemOf_33 (by decide) ?_
          subst h
          exact rb_iret hC dX12_itemOf_37
      · replace h := rb_ifp c6 h
        refine rb_iconst (x := 1) hC dX12_itemOf_22 (by decide) ?_
        refine rb_goto hC 37 dX12_itemOf_23 (by decide) ?_
        subst h
        exact rb_iret hC dX12_itemOf_37
    · replace h := rb_ifp c5 h
      refine rb_iconst (x := 0) hC dX12_itemOf_12 (by decide) ?_
      refine rb_goto hC 37 dX12_itemOf_13 (by decide) ?_
      subst h
      exact rb_iret hC dX12_itemOf_37
theorem xc_M_itemOf (p0 : Int32) (p1 : Int32) (σ : rb_St) (r : Int32) (h : xf_M_itemOf p0 p1 σ = r) : rb_Con rb_vM yX12_itemOf cX12_itemOf 2 (some .int) 0 (fun w => [.int p0, .int p1]) σ (fun _ => (some (.int r))) σ := rb_Con.of (by decide +kernel) (fun _ => Nat.le_of_ble_eq_true rfl) (fun z w hC => xk_M_itemOf hC p0 p1 σ r h)
def xf_M_highest (p0 : Int32) (p1 : Int32) (σ : rb_St) : Int32 := if p0 = 115 then if p1 = 1 then 99 else 9 else if p1 = 0 then 7 else if p1 = 1 then 99 else 9
set_option maxHeartbeats 4000000 in
set_option maxRecDepth 100000 in
theorem xk_M_highest {z : rb_Z} {w : rb_Wd} (hC : rb_Cx z rb_vM w RX12 cX12_highest 2 (some .int) 0) (p0 : Int32) (p1 : Int32) (σ : rb_St) (r : Int32) (h : xf_M_highest p0 p1 σ = r) : rb_At z rb_vM w 2 (rb_Q z rb_vM w (some (.int r)) σ) 0 [(0, .int p0), (1, .int p1)] [] σ := by
  unfold xf_M_highest at h
  refine rb_iload_n hC 0 dX12_highest_0 rfl ?_
  refine rb_bipush (x := 115) hC dX12_highest_1 (by decide) ?_
  refine rb_icmp_ne hC 19 dX12_highest_3 (by decide) (fun c1 => ?_) (fun c1 => ?_)
  · replace h := rb_ifn c1 h
    refine rb_iload_n hC 1 dX12_highest_19 rfl ?_
    refine rb_if_ne hC 28 dX12_highest_20 (by decide) (fun c2 => ?_) (fun c2 => ?_)
    · replace h := rb_ifn c2 h
      refine rb_iload_n hC 1 dX12_highest_28 rfl ?_
      refine rb_iconst (x := 1) hC dX12_highest_29 (by decide) ?_
      refine rb_icmp_ne hC 38 dX12_highest_30 (by decide) (fun c3 => ?_) (fun c3 => ?_)
      · replace h := rb_ifn c3 h
        refine rb_bipush (x := 9) hC dX12_highest_38 (by decide) ?_
        subst h
        exact rb_iret hC dX12_highest_40
      · replace h := rb_ifp c3 h
        refine rb_bipush (x := 99) hC dX12_highest_33 (by decide) ?_
        refine rb_goto hC 40 dX12_highest_35 (by decide) ?_
        subst h
        exact rb_iret hC dX12_highest_40
    · replace h := rb_ifp c2 h
      refine rb_bipush (x := 7) hC dX12_highest_23 (by decide) ?_
      refine rb_goto hC 40 dX12_highest_25 (by decide) ?_
      subst h
      exact rb_iret hC dX12_highest_40
  · replace h := rb_ifp c1 h
    refine rb_iload_n hC 1 dX12_highest_6 rfl ?_
    refine rb_iconst (x := 1) hC dX12_highest_7 (by decide) ?_
    refine rb_icmp_ne hC 16 dX12_highest_8 (by decide) (fun c4 => ?_) (fun c4 => ?_)
    · replace h := rb_ifn c4 h
      refine rb_bipush (x := 9) hC dX12_highest_16 (by decide) ?_
      subst h
      exact rb_iret hC dX12_highest_18
    · replace h := rb_ifp c4 h
      refine rb_bipush (x := 99) hC dX12_highest_11 (by decide) ?_
      refine rb_goto hC 18 dX12_highest_13 (by decide) ?_
      subst h
      exact rb_iret hC dX12_highest_18
theorem xc_M_highest (p0 : Int32) (p1 : Int32) (σ : rb_St) (r : Int32) (h : xf_M_highest p0 p1 σ = r) : rb_Con rb_vM yX12_highest cX12_highest 2 (some .int) 0 (fun w => [.int p0, .int p1]) σ (fun _ => (some (.int r))) σ := rb_Con.of (by decide +kernel) (fun _ => Nat.le_of_ble_eq_true rfl) (fun z w hC => xk_M_highest hC p0 p1 σ r h)
def xf_M_usual (p0 : Int32) (p1 : Int32) (σ : rb_St) : Int32 := if p0 = 115 then if p1 = 1 then 20 else 2 else if p1 = 0 then 0 else if p1 = 1 then 30 else 5
set_option maxHeartbeats 4000000 in
set_option maxRecDepth 100000 in
theorem xk_M_usual {z : rb_Z} {w : rb_Wd} (hC : rb_Cx z rb_vM w RX12 cX12_usual 2 (some .int) 0) (p0 : Int32) (p1 : Int32) (σ : rb_St) (r : Int32) (h : xf_M_usual p0 p1 σ = r) : rb_At z rb_vM w 2 (rb_Q z rb_vM w (some (.int r)) σ) 0 [(0, .int p0), (1, .int p1)] [] σ := by
  unfold xf_M_usual at h
  refine rb_iload_n hC 0 dX12_usual_0 rfl ?_
  refine rb_bipush (x := 115) hC dX12_usual_1 (by decide) ?_
  refine rb_icmp_ne hC 18 dX12_usual_3 (by decide) (fun c1 => ?_) (fun c1 => ?_)
  · replace h := rb_ifn c1 h
    refine rb_iload_n hC 1 dX12_usual_18 rfl ?_
    refine rb_if_ne hC 26 dX12_usual_19 (by decide) (fun c2 => ?_) (fun c2 => ?_)
    · replace h := rb_ifn c2 h
      refine rb_iload_n hC 1 dX12_usual_26 rfl ?_
      refine rb_iconst (x := 1) hC dX12_usual_27 (by decide) ?_
      refine rb_icmp_ne hC 36 dX12_usual_28 (by decide) (fun c3 => ?_) (fun c3 => ?_)
      · replace h := rb_ifn c3 h
        refine rb_iconst (x := 5) hC dX12_usual_36 (by decide) ?_
        subst h
        exact rb_iret hC dX12_usual_37
      · replace h := rb_ifp c3 h
        refine rb_bipush (x := 30) hC dX12_usual_31 (by decide) ?_
        refine rb_goto hC 37 dX12_usual_33 (by decide) ?_
        subst h
        exact rb_iret hC dX12_usual_37
    · replace h := rb_ifp c2 h
      refine rb_iconst (x := 0) hC dX12_usual_22 (by decide) ?_
      refine rb_goto hC 37 dX12_usual_23 (by decide) ?_
      subst h
      exact rb_iret hC dX12_usual_37
  · replace h := rb_ifp c1 h
    refine rb_iload_n hC 1 dX12_usual_6 rfl ?_
    refine rb_iconst (x := 1) hC dX12_usual_7 (by decide) ?_
    refine rb_icmp_ne hC 16 dX12_usual_8 (by decide) (fun c4 => ?_) (fun c4 => ?_)
    · replace h := rb_ifn c4 h
      refine rb_iconst (x := 2) hC dX12_usual_16 (by decide) ?_
      subst h
      exact rb_iret hC dX12_usual_17
    · replace h := rb_ifp c4 h
      refine rb_bipush (x := 20) hC dX12_usual_11 (by decide) ?_
      refine rb_goto hC 17 dX12_usual_13 (by decide) ?_
      subst h
      exact rb_iret hC dX12_usual_17
theorem xc_M_usual (p0 : Int32) (p1 : Int32) (σ : rb_St) (r : Int32) (h : xf_M_usual p0 p1 σ = r) : rb_Con rb_vM yX12_usual cX12_usual 2 (some .int) 0 (fun w => [.int p0, .int p1]) σ (fun _ => (some (.int r))) σ := rb_Con.of (by decide +kernel) (fun _ => Nat.le_of_ble_eq_true rfl) (fun z w hC => xk_M_usual hC p0 p1 σ r h)
theorem me_X12_usual : Cond.static yX12_usual ∈ rb_tbl ∧ Cond.initialized yX12_usual.cls ∈ rb_tbl ∧ Cond.code yX12_usual cX12_usual 2 (some .int) ∈ rb_tbl ∧ rb_pn yX12_usual 2 := ⟨rb_in (by decide +kernel) (by decide +kernel), rb_in (by decide +kernel) (by decide +kernel), rb_in (by decide +kernel) (by decide +kernel), by decide +kernel, by decide +kernel, by decide +kernel⟩
theorem mv_X12_233 : rb_MS RX12 233 yX12_usual cX12_usual 2 (some .int) 2 := ⟨rb_in (by decide +kernel) (by decide +kernel), me_X12_usual⟩
theorem me_X12_itemOf : Cond.static yX12_itemOf ∈ rb_tbl ∧ Cond.initialized yX12_itemOf.cls ∈ rb_tbl ∧ Cond.code yX12_itemOf cX12_itemOf 2 (some .int) ∈ rb_tbl ∧ rb_pn yX12_itemOf 2 := ⟨rb_in (by decide +kernel) (by decide +kernel), rb_in (by decide +kernel) (by decide +kernel), rb_in (by decide +kernel) (by decide +kernel), by decide +kernel, by decide +kernel, by decide +kernel⟩
theorem mv_X12_237 : rb_MS RX12 237 yX12_itemOf cX12_itemOf 2 (some .int) 2 := ⟨rb_in (by decide +kernel) (by decide +kernel), me_X12_itemOf⟩
theorem me_X12_has : Cond.static yX12_has ∈ rb_tbl ∧ Cond.initialized yX12_has.cls ∈ rb_tbl ∧ Cond.code yX12_has cX12_has 2 (some .boolean) ∈ rb_tbl ∧ rb_pn yX12_has 2 := ⟨rb_in (by decide +kernel) (by decide +kernel), rb_in (by decide +kernel) (by decide +kernel), rb_in (by decide +kernel) (by decide +kernel), by decide +kernel, by decide +kernel, by decide +kernel⟩
theorem mv_X12_240 : rb_MS RX12 240 yX12_has cX12_has 2 (some .boolean) 2 := ⟨rb_in (by decide +kernel) (by decide +kernel), me_X12_has⟩
theorem me_X12_highest : Cond.static yX12_highest ∈ rb_tbl ∧ Cond.initialized yX12_highest.cls ∈ rb_tbl ∧ Cond.code yX12_highest cX12_highest 2 (some .int) ∈ rb_tbl ∧ rb_pn yX12_highest 2 := ⟨rb_in (by decide +kernel) (by decide +kernel), rb_in (by decide +kernel) (by decide +kernel), rb_in (by decide +kernel) (by decide +kernel), by decide +kernel, by decide +kernel, by decide +kernel⟩
theorem mv_X12_244 : rb_MS RX12 244 yX12_highest cX12_highest 2 (some .int) 2 := ⟨rb_in (by decide +kernel) (by decide +kernel), me_X12_highest⟩
theorem me_X12_number : Cond.instanceMethod yX12_number ∈ rb_tbl ∧ Cond.selects yX12_number.cls yX12_number yX12_number ∈ rb_tbl ∧ Cond.initialized yX12_number.cls ∈ rb_tbl ∧ Cond.code yX12_number cX12_number 4 (some .int) ∈ rb_tbl ∧ rb_pn yX12_number 2 := ⟨rb_in (by decide +kernel) (by decide +kernel), rb_in (by decide +kernel) (by decide +kernel), rb_in (by decide +kernel) (by decide +kernel), rb_in (by decide +kernel) (by decide +kernel), by decide +kernel, by decide +kernel, by decide +kernel⟩
theorem mv_X12_247 : rb_MV RX12 247 yX12_number cX12_number 4 (some .int) 2 := ⟨rb_in (by decide +kernel) (by decide +kernel), me_X12_number⟩
def xl_M_items_r_3 (x1 : Int32) (x3 : Int32) : Nat → Int32 → rb_St → Option (rb_St)
  | 0, _, _ => none
  | n + 1, x4, σ => if 3 ≤ x4 then some σ else if rb_ib (x3 + x4) 3 then rb_lt (rb_sI σ 11 (x3 + x4).toNatClampNeg (xf_M_usual x1 x4 σ)) (fun s3 => xl_M_items_r_3 x1 x3 n (x4 + 1) s3) else none
set_option maxHeartbeats 4000000 in
set_option maxRecDepth 100000 in
theorem xt_M_items_r_3 {z : rb_Z} {w : rb_Wd} {Q : State → Prop} (hC : rb_Cx z rb_vM w RX12 cX12_items 6 none 3) (x1 : Int32) (x3 : Int32) : ∀ (n : Nat) (x4 : Int32) (σ : rb_St) (σ9 : rb_St), xl_M_items_r_3 x1 x3 n x4 σ = some σ9 → rb_At z rb_vM w 6 Q 27 [(0, .ref (rb_ad w 0)), (1, .int x1), (2, .ref (rb_ad w 11)), (3, .int x3)] [] σ9 → rb_At z rb_vM w 6 Q 3 [(0, .ref (rb_ad w 0)), (1, .int x1), (2, .ref (rb_ad w 11)), (3, .int x3), (4, .int x4)] [] σ := by
  intro n
  induction n with
  | zero =>
    intro x4 σ σ9 h hE0
    cases h
  | succ n ih =>
    intro x4 σ σ9 h hE0
    rw [xl_M_items_r_3] at h
    refine rb_iload hC 4 dX12_items_3 rfl ?_
    refine rb_iconst (x := 3) hC dX12_items_5 (by decide) ?_
    refine rb_icmp_ge hC 27 dX12_items_6 (by decide) (fun c1 => ?_) (fun c1 => ?_)
    · replace h := rb_ifp c1 h
      cases h
      exact rb_sub [0, 1, 2, 3] rfl (hE0)
    · replace h := rb_ifn c1 h
      refine rb_aload_n hC 2 dX12_items_9 rfl ?_
      refine rb_iload_n hC 3 dX12_items_10 rfl ?_
      refine rb_iload hC 4 dX12_items_11 rfl ?_
      refine rb_iadd hC dX12_items_13 ?_
      refine rb_iload_n hC 1 dX12_items_14 rfl ?_
      refine rb_iload hC 4 dX12_items_15 rfl ?_
      refine rb_callSi hC rb_VokM mv_X12_233 (xc_M_usual x1 x4 σ _ rfl) [.int x1, .int x4] rfl rfl rfl ⟨Nat.le_of_ble_eq_true rfl, Nat.le_of_ble_eq_true rfl⟩ (Nat.le_of_ble_eq_true rfl) dX12_items_17 ?_
      obtain ⟨g2, h⟩ := rb_gd h
      refine rb_iast hC rb_arM11 (rb_ibI g2) dX12_items_20 ?_
      obtain ⟨s3, e4, h⟩ := rb_ltE h
      refine rb_nmS e4 ?_
      refine rb_iinc hC 4 [(4, .int (x4 + 1)), (0, .ref (rb_ad w 0)), (1, .int x1), (2, .ref (rb_ad w 11)), (3, .int x3)] dX12_items_21 rfl rfl (by decide) rfl ?_
      refine rb_goto hC 3 dX12_items_24 (by decide) ?_
      exact rb_sub [1, 2, 3, 4, 0] rfl (ih (x4 + 1) s3 _ h hE0)
def xj_M_items_r_117 (rc : Int32 → Int32 → rb_St → Option (rb_St)) (x1 : Int32) (x3 : Int32) (x4 : Int32) (x5 : Int32) (u0 : Int32) (u2 : Int32) (σ : rb_St) : Option (rb_St) := rb_b2 (xf_M_number u0 (xf_M_highest x1 x5 σ) σ) fun r19 s17 => if rb_ib u2 3 then rb_lt (rb_sI s17 11 u2.toNatClampNeg r19) (fun s21 => if (s21.1 0 4) = (-1) then rb_b2 (xf_M_look s21) fun r26 s24 => rc x4 (xf_M_itemOf x1 r26 s24) s24 else rc x4 (-1) s21) else none
set_option maxHeartbeats 4000000 in
set_option maxRecDepth 100000 in
theorem xu_M_items_r_117 {z : rb_Z} {w : rb_Wd} {Q : State → Prop} (hC : rb_Cx z rb_vM w RX12 cX12_items 6 none 3)  (rc : Int32 → Int32 → rb_St → Option (rb_St)) (x1 : Int32) (x3 : Int32) (x4 : Int32) (x5 : Int32) (u0 : Int32) (u2 : Int32) (σ : rb_St) (σ9 : rb_St) (h : xj_M_items_r_117 rc x1 x3 x4 x5 u0 u2 σ = some σ9) (hrc : ∀ (b4 : Int32) (b5 : Int32) (τ : rb_St), rc b4 b5 τ = some σ9 → rb_At z rb_vM w 6 Q 40 [(0, .ref (rb_ad w 0)), (1, .int x1), (2, .ref (rb_ad w 11)), (3, .int x3), (4, .int b4), (5, .int b5)] [] τ) (hE0 : rb_At z rb_vM w 6 Q 152 [] [] σ9) : rb_At z rb_vM w 6 Q 117 [(0, .ref (rb_ad w 0)), (1, .int x1), (2, .ref (rb_ad w 11)), (3, .int x3), (4, .int x4), (5, .int x5)] [.int u0, .ref (rb_ad w 0), .int u2, .ref (rb_ad w 11)] σ := by
  unfold xj_M_items_r_117 at h
  refine rb_iload_n hC 1 dX12_items_117 rfl ?_
  refine rb_iload hC 5 dX12_items_118 rfl ?_
  refine rb_callSi hC rb_VokM mv_X12_244 (xc_M_highest x1 x5 σ _ rfl) [.int x1, .int x5] rfl rfl rfl ⟨Nat.le_of_ble_eq_true rfl, Nat.le_of_ble_eq_true rfl⟩ (Nat.le_of_ble_eq_true rfl) dX12_items_120 ?_
  obtain ⟨r19, s17, q18, h⟩ := rb_b2s h
  refine rb_callVi hC rb_VokM mv_X12_247 (xc_M_number u0 (xf_M_highest x1 x5 σ) σ _ _ q18) rb_obM0 rfl [.int u0, .int (xf_M_highest x1 x5 σ)] rfl rfl rfl ⟨Nat.le_of_ble_eq_true rfl, Nat.le_of_ble_eq_true rfl⟩ (Nat.le_of_ble_eq_true rfl) dX12_items_123 ?_
  obtain ⟨g20, h⟩ := rb_gd h
  refine rb_iast hC rb_arM11 (rb_ibI g20) dX12_items_126 ?_
  obtain ⟨s21, e22, h⟩ := rb_ltE h
  refine rb_nmS e22 ?_
  refine rb_aload_n hC 0 dX12_items_127 rfl ?_
  refine rb_getI hC fr_X12_131_11 rb_obM0 rfl dX12_items_128 ?_
  refine rb_iconst (x := (-1)) hC dX12_items_131 (by decide) ?_
  refine rb_icmp_ne hC 146 dX12_items_132 (by decide) (fun c23 => ?_) (fun c23 => ?_)
  · replace h := rb_ifn c23 h
    refine rb_iconst (x := (-1)) hC dX12_items_146 (by decide) ?_
    refine rb_istore hC [(5, .int (-1)), (0, .ref (rb_ad w 0)), (1, .int x1), (2, .ref (rb_ad w 11)), (3, .int x3), (4, .int x4)] dX12_items_147 (by decide) rfl ?_
    refine rb_goto hC 40 dX12_items_149 (by decide) ?_
    exact rb_sub [1, 2, 3, 4, 5, 0] rfl (hrc x4 (-1) s21 h)
  · replace h := rb_ifp c23 h
    refine rb_iload_n hC 1 dX12_items_135 rfl ?_
    refine rb_aload_n hC 0 dX12_items_136 rfl ?_
    obtain ⟨r26, s24, q25, h⟩ := rb_b2s h
    refine rb_callVi hC rb_VokM mv_X12_143 (xc_M_look  s21 _ _ q25) rb_obM0 rfl [] rfl rfl rfl ⟨Nat.le_of_ble_eq_true rfl, Nat.le_of_ble_eq_true rfl⟩ (Nat.le_of_ble_eq_true rfl) dX12_items_137 ?_
    refine rb_callSi hC rb_VokM mv_X12_237 (xc_M_itemOf x1 r26 s24 _ rfl) [.int x1, .int r26] rfl rfl rfl ⟨Nat.le_of_ble_eq_true rfl, Nat.le_of_ble_eq_true rfl⟩ (Nat.le_of_ble_eq_true rfl) dX12_items_140 ?_
    refine rb_goto hC 147 dX12_items_143 (by decide) ?_
    refine rb_istore hC [(5, .int (xf_M_itemOf x1 r26 s24)), (0, .ref (rb_ad w 0)), (1, .int x1), (2, .ref (rb_ad w 11)), (3, .int x3), (4, .int x4)] dX12_items_147 (by decide) rfl ?_
    refine rb_goto hC 40 dX12_items_149 (by decide) ?_
    exact rb_sub [1, 2, 3, 4, 5, 0] rfl (hrc x4 (xf_M_itemOf x1 r26 s24) s24 h)
def xj_M_items_r_100 (rc : Int32 → Int32 → rb_St → Option (rb_St)) (x1 : Int32) (x3 : Int32) (x4 : Int32) (x5 : Int32) (u1 : Int32) (σ : rb_St) : Option (rb_St) := if x1 = 100 then if x5 = 1 then xj_M_items_r_117 rc x1 x3 x4 x5 1 u1 σ else xj_M_items_r_117 rc x1 x3 x4 x5 0 u1 σ else xj_M_items_r_117 rc x1 x3 x4 x5 0 u1 σ
set_option maxHeartbeats 4000000 in
set_option maxRecDepth 100000 in
theorem xu_M_items_r_100 {z : rb_Z} {w : rb_Wd} {Q : State → Prop} (hC : rb_Cx z rb_vM w RX12 cX12_items 6 none 3)  (rc : Int32 → Int32 → rb_St → Option (rb_St)) (x1 : Int32) (x3 : Int32) (x4 : Int32) (x5 : Int32) (u1 : Int32) (σ : rb_St) (σ9 : rb_St) (h : xj_M_items_r_100 rc x1 x3 x4 x5 u1 σ = some σ9) (hrc : ∀ (b4 : Int32) (b5 : Int32) (τ : rb_St), rc b4 b5 τ = some σ9 → rb_At z rb_vM w 6 Q 40 [(0, .ref (rb_ad w 0)), (1, .int x1), (2, .ref (rb_ad w 11)), (3, .int x3), (4, .int b4), (5, .int b5)] [] τ) (hE0 : rb_At z rb_vM w 6 Q 152 [] [] σ9) : rb_At z rb_vM w 6 Q 100 [(0, .ref (rb_ad w 0)), (1, .int x1), (2, .ref (rb_ad w 11)), (3, .int x3), (4, .int x4), (5, .int x5)] [.ref (rb_ad w 0), .int u1, .ref (rb_ad w 11)] σ := by
  unfold xj_M_items_r_100 at h
  refine rb_iload_n hC 1 dX12_items_100 rfl ?_
  refine rb_bipush (x := 100) hC dX12_items_101 (by decide) ?_
  refine rb_icmp_ne hC 116 dX12_items_103 (by decide) (fun c16 => ?_) (fun c16 => ?_)
  · replace h := rb_ifn c16 h
    refine rb_iconst (x := 0) hC dX12_items_116 (by decide) ?_
    exact rb_sub [0, 1, 2, 3, 4, 5] rfl (xu_M_items_r_117 hC rc x1 x3 x4 x5 0 u1 σ _ h hrc hE0)
  · replace h := rb_ifp c16 h
    refine rb_iload hC 5 dX12_items_106 rfl ?_
    refine rb_iconst (x := 1) hC dX12_items_108 (by decide) ?_
    refine rb_icmp_ne hC 116 dX12_items_109 (by decide) (fun c27 => ?_) (fun c27 => ?_)
    · replace h := rb_ifn c27 h
      refine rb_iconst (x := 0) hC dX12_items_116 (by decide) ?_
      exact rb_sub [0, 1, 2, 3, 4, 5] rfl (xu_M_items_r_117 hC rc x1 x3 x4 x5 0 u1 σ _ h hrc hE0)
    · replace h := rb_ifp c27 h
      refine rb_iconst (x := 1) hC dX12_items_112 (by decide) ?_
      refine rb_goto hC 117 dX12_items_113 (by decide) ?_
      exact rb_sub [0, 1, 2, 3, 4, 5] rfl (xu_M_items_r_117 hC rc x1 x3 x4 x5 1 u1 σ _ h hrc hE0)
def xl_M_items_r_40 (x1 : Int32) (x3 : Int32) : Nat → Int32 → Int32 → rb_St → Option (rb_St)
  | 0, _, _, _ => none
  | n + 1, x4, x5, σ => if (σ.1 0 4) = (-1) then if x5 = (-1) then some σ else if (xf_M_has x4 x5 σ) = 0 then rb_lt (rb_sI σ 0 3 ((σ.1 0 3) + 1)) (fun s13 => if x1 = 115 then if x5 = 0 then xj_M_items_r_117 (fun b4 b5 τ => xl_M_items_r_40 x1 x3 n b4 b5 τ) x1 x3 (x4 ||| (1 <<< (x5 &&& 31))) x5 1 (x3 + x5) s13 else xj_M_items_r_100 (fun b4 b5 τ => xl_M_items_r_40 x1 x3 n b4 b5 τ) x1 x3 (x4 ||| (1 <<< (x5 &&& 31))) x5 (x3 + x5) s13 else xj_M_items_r_100 (fun b4 b5 τ => xl_M_items_r_40 x1 x3 n b4 b5 τ) x1 x3 (x4 ||| (1 <<< (x5 &&& 31))) x5 (x3 + x5) s13) else some σ else some σ
set_option maxHeartbeats 4000000 in
set_option maxRecDepth 100000 in
theorem xt_M_items_r_40 {z : rb_Z} {w : rb_Wd} {Q : State → Prop} (hC : rb_Cx z rb_vM w RX12 cX12_items 6 none 3) (x1 : Int32) (x3 : Int32) : ∀ (n : Nat) (x4 : Int32) (x5 : Int32) (σ : rb_St) (σ9 : rb_St), xl_M_items_r_40 x1 x3 n x4 x5 σ = some σ9 → rb_At z rb_vM w 6 Q 152 [] [] σ9 → rb_At z rb_vM w 6 Q 40 [(0, .ref (rb_ad w 0)), (1, .int x1), (2, .ref (rb_ad w 11)), (3, .int x3), (4, .int x4), (5, .int x5)] [] σ := by
  intro n
  induction n with
  | zero =>
    intro x4 x5 σ σ9 h hE0
    cases h
  | succ n ih =>
    intro x4 x5 σ σ9 h hE0
    rw [xl_M_items_r_40] at h
    refine rb_aload_n hC 0 dX12_items_40 rfl ?_
    refine rb_getI hC fr_X12_131_11 rb_obM0 rfl dX12_items_41 ?_
    refine rb_iconst (x := (-1)) hC dX12_items_44 (by decide) ?_
    refine rb_icmp_ne hC 152 dX12_items_45 (by decide) (fun c10 => ?_) (fun c10 => ?_)
    · replace h := rb_ifn c10 h
      cases h
      exact rb_sub [] rfl (hE0)
    · replace h := rb_ifp c10 h
      refine rb_iload hC 5 dX12_items_48 rfl ?_
      refine rb_iconst (x := (-1)) hC dX12_items_50 (by decide) ?_
      refine rb_icmp_eq hC 152 dX12_items_51 (by decide) (fun c11 => ?_) (fun c11 => ?_)
      · replace h := rb_ifp c11 h
        cases h
        exact rb_sub [] rfl (hE0)
      · replace h := rb_ifn c11 h
        refine rb_iload hC 4 dX12_items_54 rfl ?_
        refine rb_iload hC 5 dX12_items_56 rfl ?_
        refine rb_callSi hC rb_VokM mv_X12_240 (xc_M_has x4 x5 σ _ rfl) [.int x4, .int x5] rfl rfl rfl ⟨Nat.le_of_ble_eq_true rfl, Nat.le_of_ble_eq_true rfl⟩ (Nat.le_of_ble_eq_true rfl) dX12_items_58 ?_
        refine rb_if_ne hC 152 dX12_items_61 (by decide) (fun c12 => ?_) (fun c12 => ?_)
        · replace h := rb_ifn c12 h
          cases h
          exact rb_sub [] rfl (hE0)
        · replace h := rb_ifp c12 h
          refine rb_iload hC 4 dX12_items_64 rfl ?_
          refine rb_iconst (x := 1) hC dX12_items_66 (by decide) ?_
          refine rb_iload hC 5 dX12_items_67 rfl ?_
          refine rb_ishl hC dX12_items_69 ?_
          refine rb_ior hC dX12_items_70 ?_
          refine rb_istore hC [(4, .int (x4 ||| (1 <<< (x5 &&& 31)))), (0, .ref (rb_ad w 0)), (1, .int x1), (2, .ref (rb_ad w 11)), (3, .int x3), (5, .int x5)] dX12_items_71 (by decide) rfl ?_
          refine rb_aload_n hC 1 dX12_items_73 rfl ?_
          refine rb_dup hC dX12_items_74 rfl ?_
          refine rb_getI hC fr_X12_124_11 rb_obM0 rfl dX12_items_75 ?_
          refine rb_iconst (x := 1) hC dX12_items_78 (by decide) ?_
          refine rb_iadd hC dX12_items_79 ?_
          refine rb_putI hC fr_X12_124_11 ft_11_3 rb_obM0 rfl rfl rfl dX12_items_80 ?_
          obtain ⟨s13, e14, h⟩ := rb_ltE h
          refine rb_nmS e14 ?_
          refine rb_aload_n hC 3 dX12_items_83 rfl ?_
          refine rb_iload_n hC 4 dX12_items_84 rfl ?_
          refine rb_iload hC 5 dX12_items_85 rfl ?_
          refine rb_iadd hC dX12_items_87 ?_
          refine rb_aload_n hC 1 dX12_items_88 rfl ?_
          refine rb_iload_n hC 2 dX12_items_89 rfl ?_
          refine rb_bipush (x := 115) hC dX12_items_90 (by decide) ?_
          refine rb_icmp_ne hC 100 dX12_items_92 (by decide) (fun c15 => ?_) (fun c15 => ?_)
          · replace h := rb_ifn c15 h
            exact rb_sub [1, 2, 3, 4, 0, 5] rfl (xu_M_items_r_100 hC (fun b4 b5 τ => xl_M_items_r_40 x1 x3 n b4 b5 τ) x1 x3 (x4 ||| (1 <<< (x5 &&& 31))) x5 (x3 + x5) s13 _ h (fun b4 b5 τ hq => ih b4 b5 τ _ hq hE0) hE0)
          · replace h := rb_ifp c15 h
            refine rb_iload hC 5 dX12_items_95 rfl ?_
            refine rb_if_eq hC 112 dX12_items_97 (by decide) (fun c28 => ?_) (fun c28 => ?_)
            · replace h := rb_ifp c28 h
              refine rb_iconst (x := 1) hC dX12_items_112 (by decide) ?_
              refine rb_goto hC 117 dX12_items_113 (by decide) ?_
              exact rb_sub [1, 2, 3, 4, 0, 5] rfl (xu_M_items_r_117 hC (fun b4 b5 τ => xl_M_items_r_40 x1 x3 n b4 b5 τ) x1 x3 (x4 ||| (1 <<< (x5 &&& 31))) x5 1 (x3 + x5) s13 _ h (fun b4 b5 τ hq => ih b4 b5 τ _ hq hE0) hE0)
            · replace h := rb_ifn c28 h
              exact rb_sub [1, 2, 3, 4, 0, 5] rfl (xu_M_items_r_100 hC (fun b4 b5 τ => xl_M_items_r_40 x1 x3 n b4 b5 τ) x1 x3 (x4 ||| (1 <<< (x5 &&& 31))) x5 (x3 + x5) s13 _ h (fun b4 b5 τ hq => ih b4 b5 τ _ hq hE0) hE0)
def xf_M_items_r (p0 : Int32) (p1 : Int32) (σ : rb_St) : Option (rb_St) := rb_b1 (xl_M_items_r_3 p0 p1 rb_FU 0 σ) fun s5 => rb_b2 (xf_M_look s5) fun r9 s7 => rb_b1 (xl_M_items_r_40 p0 p1 rb_FU 0 (xf_M_itemOf p0 r9 s7) s7) fun s29 => some s29
set_option maxHeartbeats 4000000 in
set_option maxRecDepth 100000 in
theorem xk_M_items_r {z : rb_Z} {w : rb_Wd} (hC : rb_Cx z rb_vM w RX12 cX12_items 6 none 3) (p0 : Int32) (p1 : Int32) (σ : rb_St) (σ9 : rb_St) (h : xf_M_items_r p0 p1 σ = some σ9) : rb_At z rb_vM w 6 (rb_Q z rb_vM w none σ9) 0 [(0, .ref (rb_ad w 0)), (1, .int p0), (2, .ref (rb_ad w 11)), (3, .int p1)] [] σ := by
  unfold xf_M_items_r at h
  refine rb_iconst (x := 0) hC dX12_items_0 (by decide) ?_
  refine rb_istore hC [(4, .int 0), (0, .ref (rb_ad w 0)), (1, .int p0), (2, .ref (rb_ad w 11)), (3, .int p1)] dX12_items_1 (by decide) rfl ?_
  obtain ⟨s5, q6, h⟩ := rb_b1s h
  refine rb_sub (lv2 := [(0, .ref (rb_ad w 0)), (1, .int p0), (2, .ref (rb_ad w 11)), (3, .int p1), (4, .int 0)]) [1, 2, 3, 4, 0] rfl ?_
  refine xt_M_items_r_3 hC p0 p1 rb_FU 0 σ _ q6 ?_
  refine rb_iconst (x := 0) hC dX12_items_27 (by decide) ?_
  refine rb_istore hC [(4, .int 0), (0, .ref (rb_ad w 0)), (1, .int p0), (2, .ref (rb_ad w 11)), (3, .int p1)] dX12_items_28 (by decide) rfl ?_
  refine rb_iload_n hC 2 dX12_items_30 rfl ?_
  refine rb_aload_n hC 1 dX12_items_31 rfl ?_
  obtain ⟨r9, s7, q8, h⟩ := rb_b2s h
  refine rb_callVi hC rb_VokM mv_X12_143 (xc_M_look  s5 _ _ q8) rb_obM0 rfl [] rfl rfl rfl ⟨Nat.le_of_ble_eq_true rfl, Nat.le_of_ble_eq_true rfl⟩ (Nat.le_of_ble_eq_true rfl) dX12_items_32 ?_
  refine rb_callSi hC rb_VokM mv_X12_237 (xc_M_itemOf p0 r9 s7 _ rfl) [.int p0, .int r9] rfl rfl rfl ⟨Nat.le_of_ble_eq_true rfl, Nat.le_of_ble_eq_true rfl⟩ (Nat.le_of_ble_eq_true rfl) dX12_items_35 ?_
  refine rb_istore hC [(5, .int (xf_M_itemOf p0 r9 s7)), (4, .int 0), (0, .ref (rb_ad w 0)), (1, .int p0), (2, .ref (rb_ad w 11)), (3, .int p1)] dX12_items_38 (by decide) rfl ?_
  obtain ⟨s29, q30, h⟩ := rb_b1s h
  refine rb_sub (lv2 := [(0, .ref (rb_ad w 0)), (1, .int p0), (2, .ref (rb_ad w 11)), (3, .int p1), (4, .int 0), (5, .int (xf_M_itemOf p0 r9 s7))]) [2, 3, 4, 5, 1, 0] rfl ?_
  refine xt_M_items_r_40 hC p0 p1 rb_FU 0 (xf_M_itemOf p0 r9 s7) s7 _ q30 ?_
  cases h
  exact rb_vret hC dX12_items_152
theorem xc_M_items_r (p0 : Int32) (p1 : Int32) (σ : rb_St) (σ9 : rb_St) (h : xf_M_items_r p0 p1 σ = some σ9) : rb_Con rb_vM yX12_items cX12_items 6 none 3 (fun w => [.ref (rb_ad w 0), .int p0, .ref (rb_ad w 11), .int p1]) σ (fun _ => none) σ9 := rb_Con.of (by decide +kernel) (fun _ => Nat.le_of_ble_eq_true rfl) (fun z w hC => xk_M_items_r hC p0 p1 σ σ9 h)
def xl_M_items_d_3 (x1 : Int32) (x3 : Int32) : Nat → Int32 → rb_St → Option (rb_St)
  | 0, _, _ => none
  | n + 1, x4, σ => if 3 ≤ x4 then some σ else if rb_ib (x3 + x4) 21 then rb_lt (rb_sI σ 12 (x3 + x4).toNatClampNeg (xf_M_usual x1 x4 σ)) (fun s3 => xl_M_items_d_3 x1 x3 n (x4 + 1) s3) else none
set_option maxHeartbeats 4000000 in
set_option maxRecDepth 100000 in
theorem xt_M_items_d_3 {z : rb_Z} {w : rb_Wd} {Q : State → Prop} (hC : rb_Cx z rb_vM w RX12 cX12_items 6 none 3) (x1 : Int32) (x3 : Int32) : ∀ (n : Nat) (x4 : Int32) (σ : rb_St) (σ9 : rb_St), xl_M_items_d_3 x1 x3 n x4 σ = some σ9 → rb_At z rb_vM w 6 Q 27 [(0, .ref (rb_ad w 0)), (1, .int x1), (2, .ref (rb_ad w 12)), (3, .int x3)] [] σ9 → rb_At z rb_vM w 6 Q 3 [(0, .ref (rb_ad w 0)), (1, .int x1), (2, .ref (rb_ad w 12)), (3, .int x3), (4, .int x4)] [] σ := by
  intro n
  induction n with
  | zero =>
    intro x4 σ σ9 h hE0
    cases h
  | succ n ih =>
    intro x4 σ σ9 h hE0
    rw [xl_M_items_d_3] at h
    refine rb_iload hC 4 dX12_items_3 rfl ?_
    refine rb_iconst (x := 3) hC dX12_items_5 (by decide) ?_
    refine rb_icmp_ge hC 27 dX12_items_6 (by decide) (fun c1 => ?_) (fun c1 => ?_)
    · replace h := rb_ifp c1 h
      cases h
      exact rb_sub [0, 1, 2, 3] rfl (hE0)
    · replace h := rb_ifn c1 h
      refine rb_aload_n hC 2 dX12_items_9 rfl ?_
      refine rb_iload_n hC 3 dX12_items_10 rfl ?_
      refine rb_iload hC 4 dX12_items_11 rfl ?_
      refine rb_iadd hC dX12_items_13 ?_
      refine rb_iload_n hC 1 dX12_items_14 rfl ?_
      refine rb_iload hC 4 dX12_items_15 rfl ?_
      refine rb_callSi hC rb_VokM mv_X12_233 (xc_M_usual x1 x4 σ _ rfl) [.int x1, .int x4] rfl rfl rfl ⟨Nat.le_of_ble_eq_true rfl, Nat.le_of_ble_eq_true rfl⟩ (Nat.le_of_ble_eq_true rfl) dX12_items_17 ?_
      obtain ⟨g2, h⟩ := rb_gd h
      refine rb_iast hC rb_arM12 (rb_ibI g2) dX12_items_20 ?_
      obtain ⟨s3, e4, h⟩ := rb_ltE h
      refine rb_nmS e4 ?_
      refine rb_iinc hC 4 [(4, .int (x4 + 1)), (0, .ref (rb_ad w 0)), (1, .int x1), (2, .ref (rb_ad w 12)), (3, .int x3)] dX12_items_21 rfl rfl (by decide) rfl ?_
      refine rb_goto hC 3 dX12_items_24 (by decide) ?_
      exact rb_sub [1, 2, 3, 4, 0] rfl (ih (x4 + 1) s3 _ h hE0)
def xj_M_items_d_117 (rc : Int32 → Int32 → rb_St → Option (rb_St)) (x1 : Int32) (x3 : Int32) (x4 : Int32) (x5 : Int32) (u0 : Int32) (u2 : Int32) (σ : rb_St) : Option (rb_St) := rb_b2 (xf_M_number u0 (xf_M_highest x1 x5 σ) σ) fun r19 s17 => if rb_ib u2 21 then rb_lt (rb_sI s17 12 u2.toNatClampNeg r19) (fun s21 => if (s21.1 0 4) = (-1) then rb_b2 (xf_M_look s21) fun r26 s24 => rc x4 (xf_M_itemOf x1 r26 s24) s24 else rc x4 (-1) s21) else none
set_option maxHeartbeats 4000000 in
set_option maxRecDepth 100000 in
theorem xu_M_items_d_117 {z : rb_Z} {w : rb_Wd} {Q : State → Prop} (hC : rb_Cx z rb_vM w RX12 cX12_items 6 none 3)  (rc : Int32 → Int32 → rb_St → Option (rb_St)) (x1 : Int32) (x3 : Int32) (x4 : Int32) (x5 : Int32) (u0 : Int32) (u2 : Int32) (σ : rb_St) (σ9 : rb_St) (h : xj_M_items_d_117 rc x1 x3 x4 x5 u0 u2 σ = some σ9) (hrc : ∀ (b4 : Int32) (b5 : Int32) (τ : rb_St), rc b4 b5 τ = some σ9 → rb_At z rb_vM w 6 Q 40 [(0, .ref (rb_ad w 0)), (1, .int x1), (2, .ref (rb_ad w 12)), (3, .int x3), (4, .int b4), (5, .int b5)] [] τ) (hE0 : rb_At z rb_vM w 6 Q 152 [] [] σ9) : rb_At z rb_vM w 6 Q 117 [(0, .ref (rb_ad w 0)), (1, .int x1), (2, .ref (rb_ad w 12)), (3, .int x3), (4, .int x4), (5, .int x5)] [.int u0, .ref (rb_ad w 0), .int u2, .ref (rb_ad w 12)] σ := by
  unfold xj_M_items_d_117 at h
  refine rb_iload_n hC 1 dX12_items_117 rfl ?_
  refine rb_iload hC 5 dX12_items_118 rfl ?_
  refine rb_callSi hC rb_VokM mv_X12_244 (xc_M_highest x1 x5 σ _ rfl) [.int x1, .int x5] rfl rfl rfl ⟨Nat.le_of_ble_eq_true rfl, Nat.le_of_ble_eq_true rfl⟩ (Nat.le_of_ble_eq_true rfl) dX12_items_120 ?_
  obtain ⟨r19, s17, q18, h⟩ := rb_b2s h
  refine rb_callVi hC rb_VokM mv_X12_247 (xc_M_number u0 (xf_M_highest x1 x5 σ) σ _ _ q18) rb_obM0 rfl [.int u0, .int (xf_M_highest x1 x5 σ)] rfl rfl rfl ⟨Nat.le_of_ble_eq_true rfl, Nat.le_of_ble_eq_true rfl⟩ (Nat.le_of_ble_eq_true rfl) dX12_items_123 ?_
  obtain ⟨g20, h⟩ := rb_gd h
  refine rb_iast hC rb_arM12 (rb_ibI g20) dX12_items_126 ?_
  obtain ⟨s21, e22, h⟩ := rb_ltE h
  refine rb_nmS e22 ?_
  refine rb_aload_n hC 0 dX12_items_127 rfl ?_
  refine rb_getI hC fr_X12_131_11 rb_obM0 rfl dX12_items_128 ?_
  refine rb_iconst (x := (-1)) hC dX12_items_131 (by decide) ?_
  refine rb_icmp_ne hC 146 dX12_items_132 (by decide) (fun c23 => ?_) (fun c23 => ?_)
  · replace h := rb_ifn c23 h
    refine rb_iconst (x := (-1)) hC dX12_items_146 (by decide) ?_
    refine rb_istore hC [(5, .int (-1)), (0, .ref (rb_ad w 0)), (1, .int x1), (2, .ref (rb_ad w 12)), (3, .int x3), (4, .int x4)] dX12_items_147 (by decide) rfl ?_
    refine rb_goto hC 40 dX12_items_149 (by decide) ?_
    exact rb_sub [1, 2, 3, 4, 5, 0] rfl (hrc x4 (-1) s21 h)
  · replace h := rb_ifp c23 h
    refine rb_iload_n hC 1 dX12_items_135 rfl ?_
    refine rb_aload_n hC 0 dX12_items_136 rfl ?_
    obtain ⟨r26, s24, q25, h⟩ := rb_b2s h
    refine rb_callVi hC rb_VokM mv_X12_143 (xc_M_look  s21 _ _ q25) rb_obM0 rfl [] rfl rfl rfl ⟨Nat.le_of_ble_eq_true rfl, Nat.le_of_ble_eq_true rfl⟩ (Nat.le_of_ble_eq_true rfl) dX12_items_137 ?_
    refine rb_callSi hC rb_VokM mv_X12_237 (xc_M_itemOf x1 r26 s24 _ rfl) [.int x1, .int r26] rfl rfl rfl ⟨Nat.le_of_ble_eq_true rfl, Nat.le_of_ble_eq_true rfl⟩ (Nat.le_of_ble_eq_true rfl) dX12_items_140 ?_
    refine rb_goto hC 147 dX12_items_143 (by decide) ?_
    refine rb_istore hC [(5, .int (xf_M_itemOf x1 r26 s24)), (0, .ref (rb_ad w 0)), (1, .int x1), (2, .ref (rb_ad w 12)), (3, .int x3), (4, .int x4)] dX12_items_147 (by decide) rfl ?_
    refine rb_goto hC 40 dX12_items_149 (by decide) ?_
    exact rb_sub [1, 2, 3, 4, 5, 0] rfl (hrc x4 (xf_M_itemOf x1 r26 s24) s24 h)
def xj_M_items_d_100 (rc : Int32 → Int32 → rb_St → Option (rb_St)) (x1 : Int32) (x3 : Int32) (x4 : Int32) (x5 : Int32) (u1 : Int32) (σ : rb_St) : Option (rb_St) := if x1 = 100 then if x5 = 1 then xj_M_items_d_117 rc x1 x3 x4 x5 1 u1 σ else xj_M_items_d_117 rc x1 x3 x4 x5 0 u1 σ else xj_M_items_d_117 rc x1 x3 x4 x5 0 u1 σ
set_option maxHeartbeats 4000000 in
set_option maxRecDepth 100000 in
theorem xu_M_items_d_100 {z : rb_Z} {w : rb_Wd} {Q : State → Prop} (hC : rb_Cx z rb_vM w RX12 cX12_items 6 none 3)  (rc : Int32 → Int32 → rb_St → Option (rb_St)) (x1 : Int32) (x3 : Int32) (x4 : Int32) (x5 : Int32) (u1 : Int32) (σ : rb_St) (σ9 : rb_St) (h : xj_M_items_d_100 rc x1 x3 x4 x5 u1 σ = some σ9) (hrc : ∀ (b4 : Int32) (b5 : Int32) (τ : rb_St), rc b4 b5 τ = some σ9 → rb_At z rb_vM w 6 Q 40 [(0, .ref (rb_ad w 0)), (1, .int x1), (2, .ref (rb_ad w 12)), (3, .int x3), (4, .int b4), (5, .int b5)] [] τ) (hE0 : rb_At z rb_vM w 6 Q 152 [] [] σ9) : rb_At z rb_vM w 6 Q 100 [(0, .ref (rb_ad w 0)), (1, .int x1), (2, .ref (rb_ad w 12)), (3, .int x3), (4, .int x4), (5, .int x5)] [.ref (rb_ad w 0), .int u1, .ref (rb_ad w 12)] σ := by
  unfold xj_M_items_d_100 at h
  refine rb_iload_n hC 1 dX12_items_100 rfl ?_
  refine rb_bipush (x := 100) hC dX12_items_101 (by decide) ?_
  refine rb_icmp_ne hC 116 dX12_items_103 (by decide) (fun c16 => ?_) (fun c16 => ?_)
  · replace h := rb_ifn c16 h
    refine rb_iconst (x := 0) hC dX12_items_116 (by decide) ?_
    exact rb_sub [0, 1, 2, 3, 4, 5] rfl (xu_M_items_d_117 hC rc x1 x3 x4 x5 0 u1 σ _ h hrc hE0)
  · replace h := rb_ifp c16 h
    refine rb_iload hC 5 dX12_items_106 rfl ?_
    refine rb_iconst (x := 1) hC dX12_items_108 (by decide) ?_
    refine rb_icmp_ne hC 116 dX12_items_109 (by decide) (fun c27 => ?_) (fun c27 => ?_)
    · replace h := rb_ifn c27 h
      refine rb_iconst (x := 0) hC dX12_items_116 (by decide) ?_
      exact rb_sub [0, 1, 2, 3, 4, 5] rfl (xu_M_items_d_117 hC rc x1 x3 x4 x5 0 u1 σ _ h hrc hE0)
    · replace h := rb_ifp c27 h
      refine rb_iconst (x := 1) hC dX12_items_112 (by decide) ?_
      refine rb_goto hC 117 dX12_items_113 (by decide) ?_
      exact rb_sub [0, 1, 2, 3, 4, 5] rfl (xu_M_items_d_117 hC rc x1 x3 x4 x5 1 u1 σ _ h hrc hE0)
def xl_M_items_d_40 (x1 : Int32) (x3 : Int32) : Nat → Int32 → Int32 → rb_St → Option (rb_St)
  | 0, _, _, _ => none
  | n + 1, x4, x5, σ => if (σ.1 0 4) = (-1) then if x5 = (-1) then some σ else if (xf_M_has x4 x5 σ) = 0 then rb_lt (rb_sI σ 0 3 ((σ.1 0 3) + 1)) (fun s13 => if x1 = 115 then if x5 = 0 then xj_M_items_d_117 (fun b4 b5 τ => xl_M_items_d_40 x1 x3 n b4 b5 τ) x1 x3 (x4 ||| (1 <<< (x5 &&& 31))) x5 1 (x3 + x5) s13 else xj_M_items_d_100 (fun b4 b5 τ => xl_M_items_d_40 x1 x3 n b4 b5 τ) x1 x3 (x4 ||| (1 <<< (x5 &&& 31))) x5 (x3 + x5) s13 else xj_M_items_d_100 (fun b4 b5 τ => xl_M_items_d_40 x1 x3 n b4 b5 τ) x1 x3 (x4 ||| (1 <<< (x5 &&& 31))) x5 (x3 + x5) s13) else some σ else some σ
set_option maxHeartbeats 4000000 in
set_option maxRecDepth 100000 in
theorem xt_M_items_d_40 {z : rb_Z} {w : rb_Wd} {Q : State → Prop} (hC : rb_Cx z rb_vM w RX12 cX12_items 6 none 3) (x1 : Int32) (x3 : Int32) : ∀ (n : Nat) (x4 : Int32) (x5 : Int32) (σ : rb_St) (σ9 : rb_St), xl_M_items_d_40 x1 x3 n x4 x5 σ = some σ9 → rb_At z rb_vM w 6 Q 152 [] [] σ9 → rb_At z rb_vM w 6 Q 40 [(0, .ref (rb_ad w 0)), (1, .int x1), (2, .ref (rb_ad w 12)), (3, .int x3), (4, .int x4), (5, .int x5)] [] σ := by
  intro n
  induction n with
  | zero =>
    intro x4 x5 σ σ9 h hE0
    cases h
  | succ n ih =>
    intro x4 x5 σ σ9 h hE0
    rw [xl_M_items_d_40] at h
    refine rb_aload_n hC 0 dX12_items_40 rfl ?_
    refine rb_getI hC fr_X12_131_11 rb_obM0 rfl dX12_items_41 ?_
    refine rb_iconst (x := (-1)) hC dX12_items_44 (by decide) ?_
    refine rb_icmp_ne hC 152 dX12_items_45 (by decide) (fun c10 => ?_) (fun c10 => ?_)
    · replace h := rb_ifn c10 h
      cases h
      exact rb_sub [] rfl (hE0)
    · replace h := rb_ifp c10 h
      refine rb_iload hC 5 dX12_items_48 rfl ?_
      refine rb_iconst (x := (-1)) hC dX12_items_50 (by decide) ?_
      refine rb_icmp_eq hC 152 dX12_items_51 (by decide) (fun c11 => ?_) (fun c11 => ?_)
      · replace h := rb_ifp c11 h
        cases h
        exact rb_sub [] rfl (hE0)
      · replace h := rb_ifn c11 h
        refine rb_iload hC 4 dX12_items_54 rfl ?_
        refine rb_iload hC 5 dX12_items_56 rfl ?_
        refine rb_callSi hC rb_VokM mv_X12_240 (xc_M_has x4 x5 σ _ rfl) [.int x4, .int x5] rfl rfl rfl ⟨Nat.le_of_ble_eq_true rfl, Nat.le_of_ble_eq_true rfl⟩ (Nat.le_of_ble_eq_true rfl) dX12_items_58 ?_
        refine rb_if_ne hC 152 dX12_items_61 (by decide) (fun c12 => ?_) (fun c12 => ?_)
        · replace h := rb_ifn c12 h
          cases h
          exact rb_sub [] rfl (hE0)
        · replace h := rb_ifp c12 h
          refine rb_iload hC 4 dX12_items_64 rfl ?_
          refine rb_iconst (x := 1) hC dX12_items_66 (by decide) ?_
          refine rb_iload hC 5 dX12_items_67 rfl ?_
          refine rb_ishl hC dX12_items_69 ?_
          refine rb_ior hC dX12_items_70 ?_
          refine rb_istore hC [(4, .int (x4 ||| (1 <<< (x5 &&& 31)))), (0, .ref (rb_ad w 0)), (1, .int x1), (2, .ref (rb_ad w 12)), (3, .int x3), (5, .int x5)] dX12_items_71 (by decide) rfl ?_
          refine rb_aload_n hC 1 dX12_items_73 rfl ?_
          refine rb_dup hC dX12_items_74 rfl ?_
          refine rb_getI hC fr_X12_124_11 rb_obM0 rfl dX12_items_75 ?_
          refine rb_iconst (x := 1) hC dX12_items_78 (by decide) ?_
          refine rb_iadd hC dX12_items_79 ?_
          refine rb_putI hC fr_X12_124_11 ft_11_3 rb_obM0 rfl rfl rfl dX12_items_80 ?_
          obtain ⟨s13, e14, h⟩ := rb_ltE h
          refine rb_nmS e14 ?_
          refine rb_aload_n hC 3 dX12_items_83 rfl ?_
          refine rb_iload_n hC 4 dX12_items_84 rfl ?_
          refine rb_iload hC 5 dX12_items_85 rfl ?_
          refine rb_iadd hC dX12_items_87 ?_
          refine rb_aload_n hC 1 dX12_items_88 rfl ?_
          refine rb_iload_n hC 2 dX12_items_89 rfl ?_
          refine rb_bipush (x := 115) hC dX12_items_90 (by decide) ?_
          refine rb_icmp_ne hC 100 dX12_items_92 (by decide) (fun c15 => ?_) (fun c15 => ?_)
          · replace h := rb_ifn c15 h
            exact rb_sub [1, 2, 3, 4, 0, 5] rfl (xu_M_items_d_100 hC (fun b4 b5 τ => xl_M_items_d_40 x1 x3 n b4 b5 τ) x1 x3 (x4 ||| (1 <<< (x5 &&& 31))) x5 (x3 + x5) s13 _ h (fun b4 b5 τ hq => ih b4 b5 τ _ hq hE0) hE0)
          · replace h := rb_ifp c15 h
            refine rb_iload hC 5 dX12_items_95 rfl ?_
            refine rb_if_eq hC 112 dX12_items_97 (by decide) (fun c28 => ?_) (fun c28 => ?_)
            · replace h := rb_ifp c28 h
              refine rb_iconst (x := 1) hC dX12_items_112 (by decide) ?_
              refine rb_goto hC 117 dX12_items_113 (by decide) ?_
              exact rb_sub [1, 2, 3, 4, 0, 5] rfl (xu_M_items_d_117 hC (fun b4 b5 τ => xl_M_items_d_40 x1 x3 n b4 b5 τ) x1 x3 (x4 ||| (1 <<< (x5 &&& 31))) x5 1 (x3 + x5) s13 _ h (fun b4 b5 τ hq => ih b4 b5 τ _ hq hE0) hE0)
            · replace h := rb_ifn c28 h
              exact rb_sub [1, 2, 3, 4, 0, 5] rfl (xu_M_items_d_100 hC (fun b4 b5 τ => xl_M_items_d_40 x1 x3 n b4 b5 τ) x1 x3 (x4 ||| (1 <<< (x5 &&& 31))) x5 (x3 + x5) s13 _ h (fun b4 b5 τ hq => ih b4 b5 τ _ hq hE0) hE0)
def xf_M_items_d (p0 : Int32) (p1 : Int32) (σ : rb_St) : Option (rb_St) := rb_b1 (xl_M_items_d_3 p0 p1 rb_FU 0 σ) fun s5 => rb_b2 (xf_M_look s5) fun r9 s7 => rb_b1 (xl_M_items_d_40 p0 p1 rb_FU 0 (xf_M_itemOf p0 r9 s7) s7) fun s29 => some s29
set_option maxHeartbeats 4000000 in
set_option maxRecDepth 100000 in
theorem xk_M_items_d {z : rb_Z} {w : rb_Wd} (hC : rb_Cx z rb_vM w RX12 cX12_items 6 none 3) (p0 : Int32) (p1 : Int32) (σ : rb_St) (σ9 : rb_St) (h : xf_M_items_d p0 p1 σ = some σ9) : rb_At z rb_vM w 6 (rb_Q z rb_vM w none σ9) 0 [(0, .ref (rb_ad w 0)), (1, .int p0), (2, .ref (rb_ad w 12)), (3, .int p1)] [] σ := by
  unfold xf_M_items_d at h
  refine rb_iconst (x := 0) hC dX12_items_0 (by decide) ?_
  refine rb_istore hC [(4, .int 0), (0, .ref (rb_ad w 0)), (1, .int p0), (2, .ref (rb_ad w 12)), (3, .int p1)] dX12_items_1 (by decide) rfl ?_
  obtain ⟨s5, q6, h⟩ := rb_b1s h
  refine rb_sub (lv2 := [(0, .ref (rb_ad w 0)), (1, .int p0), (2, .ref (rb_ad w 12)), (3, .int p1), (4, .int 0)]) [1, 2, 3, 4, 0] rfl ?_
  refine xt_M_items_d_3 hC p0 p1 rb_FU 0 σ _ q6 ?_
  refine rb_iconst (x := 0) hC dX12_items_27 (by decide) ?_
  refine rb_istore hC [(4, .int 0), (0, .ref (rb_ad w 0)), (1, .int p0), (2, .ref (rb_ad w 12)), (3, .int p1)] dX12_items_28 (by decide) rfl ?_
  refine rb_iload_n hC 2 dX12_items_30 rfl ?_
  refine rb_aload_n hC 1 dX12_items_31 rfl ?_
  obtain ⟨r9, s7, q8, h⟩ := rb_b2s h
  refine rb_callVi hC rb_VokM mv_X12_143 (xc_M_look  s5 _ _ q8) rb_obM0 rfl [] rfl rfl rfl ⟨Nat.le_of_ble_eq_true rfl, Nat.le_of_ble_eq_true rfl⟩ (Nat.le_of_ble_eq_true rfl) dX12_items_32 ?_
  refine rb_callSi hC rb_VokM mv_X12_237 (xc_M_itemOf p0 r9 s7 _ rfl) [.int p0, .int r9] rfl rfl rfl ⟨Nat.le_of_ble_eq_true rfl, Nat.le_of_ble_eq_true rfl⟩ (Nat.le_of_ble_eq_true rfl) dX12_items_35 ?_
  refine rb_istore hC [(5, .int (xf_M_itemOf p0 r9 s7)), (4, .int 0), (0, .ref (rb_ad w 0)), (1, .int p0), (2, .ref (rb_ad w 12)), (3, .int p1)] dX12_items_38 (by decide) rfl ?_
  obtain ⟨s29, q30, h⟩ := rb_b1s h
  refine rb_sub (lv2 := [(0, .ref (rb_ad w 0)), (1, .int p0), (2, .ref (rb_ad w 12)), (3, .int p1), (4, .int 0), (5, .int (xf_M_itemOf p0 r9 s7))]) [2, 3, 4, 5, 1, 0] rfl ?_
  refine xt_M_items_d_40 hC p0 p1 rb_FU 0 (xf_M_itemOf p0 r9 s7) s7 _ q30 ?_
  cases h
  exact rb_vret hC dX12_items_152
theorem xc_M_items_d (p0 : Int32) (p1 : Int32) (σ : rb_St) (σ9 : rb_St) (h : xf_M_items_d p0 p1 σ = some σ9) : rb_Con rb_vM yX12_items cX12_items 6 none 3 (fun w => [.ref (rb_ad w 0), .int p0, .ref (rb_ad w 12), .int p1]) σ (fun _ => none) σ9 := rb_Con.of (by decide +kernel) (fun _ => Nat.le_of_ble_eq_true rfl) (fun z w hC => xk_M_items_d hC p0 p1 σ σ9 h)
theorem fr_X12_250_11 : rb_FR RX12 250 11 19 := ⟨RX12, TX12, 50, "RibbonPoleModel", rfl, rb_uX12, by decide, rb_in (by decide +kernel) (by decide +kernel), Or.inl rfl⟩
theorem ft_11_19 : rb_Ty 11 19 .int := ⟨RX12, TX12, 50, tyX12, rfl, tyX12_ok, nmX12, rfl, by decide +kernel⟩
theorem fr_X12_40_11 : rb_FR RX12 40 11 17 := ⟨RX12, TX12, 50, "RibbonPoleModel", rfl, rb_uX12, by decide, rb_in (by decide +kernel) (by decide +kernel), Or.inl rfl⟩
theorem fr_X12_43_11 : rb_FR RX12 43 11 18 := ⟨RX12, TX12, 50, "RibbonPoleModel", rfl, rb_uX12, by decide, rb_in (by decide +kernel) (by decide +kernel), Or.inl rfl⟩
theorem me_X12_items : Cond.instanceMethod yX12_items ∈ rb_tbl ∧ Cond.selects yX12_items.cls yX12_items yX12_items ∈ rb_tbl ∧ Cond.initialized yX12_items.cls ∈ rb_tbl ∧ Cond.code yX12_items cX12_items 6 none ∈ rb_tbl ∧ rb_pn yX12_items 3 := ⟨rb_in (by decide +kernel) (by decide +kernel), rb_in (by decide +kernel) (by decide +kernel), rb_in (by decide +kernel) (by decide +kernel), rb_in (by decide +kernel) (by decide +kernel), by decide +kernel, by decide +kernel, by decide +kernel⟩
theorem mv_X12_253 : rb_MV RX12 253 yX12_items cX12_items 6 none 3 := ⟨rb_in (by decide +kernel) (by decide +kernel), me_X12_items⟩
def xl_M_readGreen_19 (x1 : Int32) : Nat → Int32 → rb_St → Option (rb_St)
  | 0, _, _ => none
  | n + 1, x2, σ => if 3 ≤ x2 then some σ else if rb_ib x2 3 then rb_lt (rb_sI σ 11 x2.toNatClampNeg (xf_M_usual 115 x2 σ)) (fun s9 => xl_M_readGreen_19 x1 n (x2 + 1) s9) else none
set_option maxHeartbeats 4000000 in
set_option maxRecDepth 100000 in
theorem xt_M_readGreen_19 {z : rb_Z} {w : rb_Wd} {Q : State → Prop} (hC : rb_Cx z rb_vM w RX12 cX12_readGreen 4 (some .int) 4) (x1 : Int32) : ∀ (n : Nat) (x2 : Int32) (σ : rb_St) (σ9 : rb_St), xl_M_readGreen_19 x1 n x2 σ = some σ9 → rb_At z rb_vM w 4 Q 42 [(0, .ref (rb_ad w 0)), (1, .int x1)] [] σ9 → rb_At z rb_vM w 4 Q 19 [(0, .ref (rb_ad w 0)), (1, .int x1), (2, .int x2)] [] σ := by
  intro n
  induction n with
  | zero =>
    intro x2 σ σ9 h hE0
    cases h
  | succ n ih =>
    intro x2 σ σ9 h hE0
    rw [xl_M_readGreen_19] at h
    refine rb_iload_n hC 2 dX12_readGreen_19 rfl ?_
    refine rb_iconst (x := 3) hC dX12_readGreen_20 (by decide) ?_
    refine rb_icmp_ge hC 42 dX12_readGreen_21 (by decide) (fun c7 => ?_) (fun c7 => ?_)
    · replace h := rb_ifp c7 h
      cases h
      exact rb_sub [0, 1] rfl (hE0)
    · replace h := rb_ifn c7 h
      refine rb_aload_n hC 0 dX12_readGreen_24 rfl ?_
      refine rb_getR hC fr_X12_40_11 rb_obM0 rfl dX12_readGreen_25 ?_
      refine rb_iload_n hC 2 dX12_readGreen_28 rfl ?_
      refine rb_bipush (x := 115) hC dX12_readGreen_29 (by decide) ?_
      refine rb_iload_n hC 2 dX12_readGreen_31 rfl ?_
      refine rb_callSi hC rb_VokM mv_X12_233 (xc_M_usual 115 x2 σ _ rfl) [.int 115, .int x2] rfl rfl rfl ⟨Nat.le_of_ble_eq_true rfl, Nat.le_of_ble_eq_true rfl⟩ (Nat.le_of_ble_eq_true rfl) dX12_readGreen_32 ?_
      obtain ⟨g8, h⟩ := rb_gd h
      refine rb_iast hC rb_arM11 (rb_ibI g8) dX12_readGreen_35 ?_
      obtain ⟨s9, e10, h⟩ := rb_ltE h
      refine rb_nmS e10 ?_
      refine rb_iinc hC 2 [(2, .int (x2 + 1)), (0, .ref (rb_ad w 0)), (1, .int x1)] dX12_readGreen_36 rfl rfl (by decide) rfl ?_
      refine rb_goto hC 19 dX12_readGreen_39 (by decide) ?_
      exact rb_sub [1, 2, 0] rfl (ih (x2 + 1) s9 _ h hE0)
def xj_M_readGreen_175 (rc : Int32 → Int32 → rb_St → Option (rb_St)) (x1 : Int32) (u0 : Int32) (σ : rb_St) : Option (rb_St) := if u0 = 0 then rb_lt (rb_sI σ 0 3 ((σ.1 0 3) + 0)) (fun s24 => rc x1 u0 s24) else rb_lt (rb_sI σ 0 3 ((σ.1 0 3) + 1)) (fun s26 => rc x1 u0 s26)
set_option maxHeartbeats 4000000 in
set_option maxRecDepth 100000 in
theorem xu_M_readGreen_175 {z : rb_Z} {w : rb_Wd} {Q : State → Prop} (hC : rb_Cx z rb_vM w RX12 cX12_readGreen 4 (some .int) 4)  (rc : Int32 → Int32 → rb_St → Option (rb_St)) (x1 : Int32) (u0 : Int32) (σ : rb_St) (σ9 : rb_St) (h : xj_M_readGreen_175 rc x1 u0 σ = some σ9) (hrc : ∀ (b1 : Int32) (b2 : Int32) (τ : rb_St), rc b1 b2 τ = some σ9 → rb_At z rb_vM w 4 Q 44 [(0, .ref (rb_ad w 0)), (1, .int b1), (2, .int b2)] [] τ) (hE0 : rb_At z rb_vM w 4 Q 197 [(0, .ref (rb_ad w 0))] [] σ9) : rb_At z rb_vM w 4 Q 175 [(0, .ref (rb_ad w 0)), (1, .int x1)] [.int u0] σ := by
  unfold xj_M_readGreen_175 at h
  refine rb_istore_n hC [(2, .int u0), (0, .ref (rb_ad w 0)), (1, .int x1)] dX12_readGreen_175 (by decide) rfl ?_
  refine rb_aload_n hC 1 dX12_readGreen_176 rfl ?_
  refine rb_dup hC dX12_readGreen_177 rfl ?_
  refine rb_getI hC fr_X12_124_11 rb_obM0 rfl dX12_readGreen_178 ?_
  refine rb_iload_n hC 0 dX12_readGreen_181 rfl ?_
  refine rb_if_eq hC 189 dX12_readGreen_182 (by decide) (fun c23 => ?_) (fun c23 => ?_)
  · replace h := rb_ifp c23 h
    refine rb_iconst (x := 0) hC dX12_readGreen_189 (by decide) ?_
    refine rb_iadd hC dX12_readGreen_190 ?_
    refine rb_putI hC fr_X12_124_11 ft_11_3 rb_obM0 rfl rfl rfl dX12_readGreen_191 ?_
    obtain ⟨s24, e25, h⟩ := rb_ltE h
    refine rb_nmS e25 ?_
    refine rb_goto hC 44 dX12_readGreen_194 (by decide) ?_
    exact rb_sub [1, 2, 0] rfl (hrc x1 u0 s24 h)
  · replace h := rb_ifn c23 h
    refine rb_iconst (x := 1) hC dX12_readGreen_185 (by decide) ?_
    refine rb_goto hC 190 dX12_readGreen_186 (by decide) ?_
    refine rb_iadd hC dX12_readGreen_190 ?_
    refine rb_putI hC fr_X12_124_11 ft_11_3 rb_obM0 rfl rfl rfl dX12_readGreen_191 ?_
    obtain ⟨s26, e27, h⟩ := rb_ltE h
    refine rb_nmS e27 ?_
    refine rb_goto hC 44 dX12_readGreen_194 (by decide) ?_
    exact rb_sub [1, 2, 0] rfl (hrc x1 u0 s26 h)
def xj_M_readGreen_153 (rc : Int32 → Int32 → rb_St → Option (rb_St)) (x1 : Int32) (σ : rb_St) : Option (rb_St) := if (σ.1 0 4) = (-1) then rb_b2 (xf_M_look σ) fun r30 s28 => if r30 = 59 then xj_M_readGreen_175 rc x1 1 s28 else xj_M_readGreen_175 rc x1 0 s28 else xj_M_readGreen_175 rc x1 0 σ
set_option maxHeartbeats 4000000 in
set_option maxRecDepth 100000 in
theorem xu_M_readGreen_153 {z : rb_Z} {w : rb_Wd} {Q : State → Prop} (hC : rb_Cx z rb_vM w RX12 cX12_readGreen 4 (some .int) 4)  (rc : Int32 → Int32 → rb_St → Option (rb_St)) (x1 : Int32) (σ : rb_St) (σ9 : rb_St) (h : xj_M_readGreen_153 rc x1 σ = some σ9) (hrc : ∀ (b1 : Int32) (b2 : Int32) (τ : rb_St), rc b1 b2 τ = some σ9 → rb_At z rb_vM w 4 Q 44 [(0, .ref (rb_ad w 0)), (1, .int b1), (2, .int b2)] [] τ) (hE0 : rb_At z rb_vM w 4 Q 197 [(0, .ref (rb_ad w 0))] [] σ9) : rb_At z rb_vM w 4 Q 153 [(0, .ref (rb_ad w 0)), (1, .int x1)] [] σ := by
  unfold xj_M_readGreen_153 at h
  refine rb_aload_n hC 0 dX12_readGreen_153 rfl ?_
  refine rb_getI hC fr_X12_131_11 rb_obM0 rfl dX12_readGreen_154 ?_
  refine rb_iconst (x := (-1)) hC dX12_readGreen_157 (by decide) ?_
  refine rb_icmp_ne hC 174 dX12_readGreen_158 (by decide) (fun c22 => ?_) (fun c22 => ?_)
  · replace h := rb_ifn c22 h
    refine rb_iconst (x := 0) hC dX12_readGreen_174 (by decide) ?_
    exact rb_sub [0, 1] rfl (xu_M_readGreen_175 hC rc x1 0 σ _ h hrc hE0)
  · replace h := rb_ifp c22 h
    refine rb_aload_n hC 0 dX12_readGreen_161 rfl ?_
    obtain ⟨r30, s28, q29, h⟩ := rb_b2s h
    refine rb_callVi hC rb_VokM mv_X12_143 (xc_M_look  σ _ _ q29) rb_obM0 rfl [] rfl rfl rfl ⟨Nat.le_of_ble_eq_true rfl, Nat.le_of_ble_eq_true rfl⟩ (Nat.le_of_ble_eq_true rfl) dX12_readGreen_162 ?_
    refine rb_bipush (x := 59) hC dX12_readGreen_165 (by decide) ?_
    refine rb_icmp_ne hC 174 dX12_readGreen_167 (by decide) (fun c31 => ?_) (fun c31 => ?_)
    · replace h := rb_ifn c31 h
      refine rb_iconst (x := 0) hC dX12_readGreen_174 (by decide) ?_
      exact rb_sub [0, 1] rfl (xu_M_readGreen_175 hC rc x1 0 s28 _ h hrc hE0)
    · replace h := rb_ifp c31 h
      refine rb_iconst (x := 1) hC dX12_readGreen_170 (by decide) ?_
      refine rb_goto hC 175 dX12_readGreen_171 (by decide) ?_
      exact rb_sub [0, 1] rfl (xu_M_readGreen_175 hC rc x1 1 s28 _ h hrc hE0)
def xj_M_readGreen_96 (rc : Int32 → Int32 → rb_St → Option (rb_St)) (x1 : Int32) (x3 : Int32) (σ : rb_St) : Option (rb_St) := if x3 = 100 then if 7 ≤ (σ.1 0 19) then rb_b1 (xf_M_bad σ) fun s33 => xj_M_readGreen_153 rc x1 s33 else rb_lt (rb_sI σ 0 3 ((σ.1 0 3) + 1)) (fun s35 => rb_b1 (xf_M_items_d x3 (3 * (s35.1 0 19)) s35) fun s37 => rb_lt (rb_sI s37 0 19 ((s37.1 0 19) + 1)) (fun s39 => xj_M_readGreen_153 rc x1 s39)) else rb_b1 (xf_M_bad σ) fun s20 => xj_M_readGreen_153 rc x1 s20
set_option maxHeartbeats 4000000 in
set_option maxRecDepth 100000 in
theorem xu_M_readGreen_96 {z : rb_Z} {w : rb_Wd} {Q : State → Prop} (hC : rb_Cx z rb_vM w RX12 cX12_readGreen 4 (some .int) 4)  (rc : Int32 → Int32 → rb_St → Option (rb_St)) (x1 : Int32) (x3 : Int32) (σ : rb_St) (σ9 : rb_St) (h : xj_M_readGreen_96 rc x1 x3 σ = some σ9) (hrc : ∀ (b1 : Int32) (b2 : Int32) (τ : rb_St), rc b1 b2 τ = some σ9 → rb_At z rb_vM w 4 Q 44 [(0, .ref (rb_ad w 0)), (1, .int b1), (2, .int b2)] [] τ) (hE0 : rb_At z rb_vM w 4 Q 197 [(0, .ref (rb_ad w 0))] [] σ9) : rb_At z rb_vM w 4 Q 96 [(0, .ref (rb_ad w 0)), (1, .int x1), (3, .int x3)] [] σ := by
  unfold xj_M_readGreen_96 at h
  refine rb_iload_n hC 2 dX12_readGreen_96 rfl ?_
  refine rb_bipush (x := 100) hC dX12_readGreen_97 (by decide) ?_
  refine rb_icmp_ne hC 149 dX12_readGreen_99 (by decide) (fun c19 => ?_) (fun c19 => ?_)
  · replace h := rb_ifn c19 h
    refine rb_aload_n hC 0 dX12_readGreen_149 rfl ?_
    obtain ⟨s20, q21, h⟩ := rb_b1s h
    refine rb_callVv hC rb_VokM mv_X12_140 (xc_M_bad  σ _ q21) rb_obM0 rfl [] rfl rfl rfl ⟨Nat.le_of_ble_eq_true rfl, Nat.le_of_ble_eq_true rfl⟩ (Nat.le_of_ble_eq_true rfl) dX12_readGreen_150 ?_
    exact rb_sub [0, 1] rfl (xu_M_readGreen_153 hC rc x1 s20 _ h hrc hE0)
  · replace h := rb_ifp c19 h
    refine rb_aload_n hC 0 dX12_readGreen_102 rfl ?_
    refine rb_getI hC fr_X12_250_11 rb_obM0 rfl dX12_readGreen_103 ?_
    refine rb_bipush (x := 7) hC dX12_readGreen_106 (by decide) ?_
    refine rb_icmp_ge hC 149 dX12_readGreen_108 (by decide) (fun c32 => ?_) (fun c32 => ?_)
    · replace h := rb_ifp c32 h
      refine rb_aload_n hC 0 dX12_readGreen_149 rfl ?_
      obtain ⟨s33, q34, h⟩ := rb_b1s h
      refine rb_callVv hC rb_VokM mv_X12_140 (xc_M_bad  σ _ q34) rb_obM0 rfl [] rfl rfl rfl ⟨Nat.le_of_ble_eq_true rfl, Nat.le_of_ble_eq_true rfl⟩ (Nat.le_of_ble_eq_true rfl) dX12_readGreen_150 ?_
      exact rb_sub [0, 1] rfl (xu_M_readGreen_153 hC rc x1 s33 _ h hrc hE0)
    · replace h := rb_ifn c32 h
      refine rb_aload_n hC 0 dX12_readGreen_111 rfl ?_
      refine rb_dup hC dX12_readGreen_112 rfl ?_
      refine rb_getI hC fr_X12_124_11 rb_obM0 rfl dX12_readGreen_113 ?_
      refine rb_iconst (x := 1) hC dX12_readGreen_116 (by decide) ?_
      refine rb_iadd hC dX12_readGreen_117 ?_
      refine rb_putI hC fr_X12_124_11 ft_11_3 rb_obM0 rfl rfl rfl dX12_readGreen_118 ?_
      obtain ⟨s35, e36, h⟩ := rb_ltE h
      refine rb_nmS e36 ?_
      refine rb_aload_n hC 0 dX12_readGreen_121 rfl ?_
      refine rb_iload_n hC 2 dX12_readGreen_122 rfl ?_
      refine rb_aload_n hC 0 dX12_readGreen_123 rfl ?_
      refine rb_getR hC fr_X12_43_11 rb_obM0 rfl dX12_readGreen_124 ?_
      refine rb_iconst (x := 3) hC dX12_readGreen_127 (by decide) ?_
      refine rb_aload_n hC 0 dX12_readGreen_128 rfl ?_
      refine rb_getI hC fr_X12_250_11 rb_obM0 rfl dX12_readGreen_129 ?_
      refine rb_imul hC dX12_readGreen_132 ?_
      obtain ⟨s37, q38, h⟩ := rb_b1s h
      refine rb_callVv hC rb_VokM mv_X12_253 (xc_M_items_d x3 (3 * (s35.1 0 19)) s35 _ q38) rb_obM0 rfl [.int x3, .ref (rb_ad w 12), .int (3 * (s35.1 0 19))] rfl rfl rfl ⟨Nat.le_of_ble_eq_true rfl, Nat.le_of_ble_eq_true rfl⟩ (Nat.le_of_ble_eq_true rfl) dX12_readGreen_133 ?_
      refine rb_aload_n hC 0 dX12_readGreen_136 rfl ?_
      refine rb_dup hC dX12_readGreen_137 rfl ?_
      refine rb_getI hC fr_X12_250_11 rb_obM0 rfl dX12_readGreen_138 ?_
      refine rb_iconst (x := 1) hC dX12_readGreen_141 (by decide) ?_
      refine rb_iadd hC dX12_readGreen_142 ?_
      refine rb_putI hC fr_X12_250_11 ft_11_19 rb_obM0 rfl rfl rfl dX12_readGreen_143 ?_
      obtain ⟨s39, e40, h⟩ := rb_ltE h
      refine rb_nmS e40 ?_
      refine rb_goto hC 153 dX12_readGreen_146 (by decide) ?_
      exact rb_sub [0, 1] rfl (xu_M_readGreen_153 hC rc x1 s39 _ h hrc hE0)
def xl_M_readGreen_44  : Nat → Int32 → Int32 → rb_St → Option (rb_St)
  | 0, _, _, _ => none
  | n + 1, x1, x2, σ => if x2 = 0 then some σ else if (σ.1 0 4) = (-1) then rb_b2 (xf_M_look σ) fun r17 s15 => if r17 = 115 then if x1 = 0 then rb_lt (rb_sI s15 0 3 ((s15.1 0 3) + 1)) (fun s42 => rb_b1 (xf_M_items_r r17 0 s42) fun s44 => xj_M_readGreen_153 (fun b1 b2 τ => xl_M_readGreen_44 n b1 b2 τ) 1 s44) else xj_M_readGreen_96 (fun b1 b2 τ => xl_M_readGreen_44 n b1 b2 τ) x1 r17 s15 else xj_M_readGreen_96 (fun b1 b2 τ => xl_M_readGreen_44 n b1 b2 τ) x1 r17 s15 else some σ
set_option maxHeartbeats 4000000 in
set_option maxRecDepth 100000 in
theorem xt_M_readGreen_44 {z : rb_Z} {w : rb_Wd} {Q : State → Prop} (hC : rb_Cx z rb_vM w RX12 cX12_readGreen 4 (some .int) 4)  : ∀ (n : Nat) (x1 : Int32) (x2 : Int32) (σ : rb_St) (σ9 : rb_St), xl_M_readGreen_44 n x1 x2 σ = some σ9 → rb_At z rb_vM w 4 Q 197 [(0, .ref (rb_ad w 0))] [] σ9 → rb_At z rb_vM w 4 Q 44 [(0, .ref (rb_ad w 0)), (1, .int x1), (2, .int x2)] [] σ := by
  intro n
  induction n with
  | zero =>
    intro x1 x2 σ σ9 h hE0
    cases h
  | succ n ih =>
    intro x1 x2 σ σ9 h hE0
    rw [xl_M_readGreen_44] at h
    refine rb_iload_n hC 2 dX12_readGreen_44 rfl ?_
    refine rb_if_eq hC 197 dX12_readGreen_45 (by decide) (fun c13 => ?_) (fun c13 => ?_)
    · replace h := rb_ifp c13 h
      cases h
      exact rb_sub [0] rfl (hE0)
    · replace h := rb_ifn c13 h
      refine rb_aload_n hC 0 dX12_readGreen_48 rfl ?_
      refine rb_getI hC fr_X12_131_11 rb_obM0 rfl dX12_readGreen_49 ?_
      refine rb_iconst (x := (-1)) hC dX12_readGreen_52 (by decide) ?_
      refine rb_icmp_ne hC 197 dX12_readGreen_53 (by decide) (fun c14 => ?_) (fun c14 => ?_)
      · replace h := rb_ifn c14 h
        cases h
        exact rb_sub [0] rfl (hE0)
      · replace h := rb_ifp c14 h
        refine rb_aload_n hC 0 dX12_readGreen_56 rfl ?_
        obtain ⟨r17, s15, q16, h⟩ := rb_b2s h
        refine rb_callVi hC rb_VokM mv_X12_143 (xc_M_look  σ _ _ q16) rb_obM0 rfl [] rfl rfl rfl ⟨Nat.le_of_ble_eq_true rfl, Nat.le_of_ble_eq_true rfl⟩ (Nat.le_of_ble_eq_true rfl) dX12_readGreen_57 ?_
        refine rb_istore_n hC [(3, .int r17), (0, .ref (rb_ad w 0)), (1, .int x1), (2, .int x2)] dX12_readGreen_60 (by decide) rfl ?_
        refine rb_iload_n hC 0 dX12_readGreen_61 rfl ?_
        refine rb_bipush (x := 115) hC dX12_readGreen_62 (by decide) ?_
        refine rb_icmp_ne hC 96 dX12_readGreen_64 (by decide) (fun c18 => ?_) (fun c18 => ?_)
        · replace h := rb_ifn c18 h
          exact rb_sub [1, 2, 0] rfl (xu_M_readGreen_96 hC (fun b1 b2 τ => xl_M_readGreen_44 n b1 b2 τ) x1 r17 s15 _ h (fun b1 b2 τ hq => ih b1 b2 τ _ hq hE0) hE0)
        · replace h := rb_ifp c18 h
          refine rb_iload_n hC 2 dX12_readGreen_67 rfl ?_
          refine rb_if_ne hC 96 dX12_readGreen_68 (by decide) (fun c41 => ?_) (fun c41 => ?_)
          · replace h := rb_ifn c41 h
            exact rb_sub [1, 2, 0] rfl (xu_M_readGreen_96 hC (fun b1 b2 τ => xl_M_readGreen_44 n b1 b2 τ) x1 r17 s15 _ h (fun b1 b2 τ hq => ih b1 b2 τ _ hq hE0) hE0)
          · replace h := rb_ifp c41 h
            refine rb_iconst (x := 1) hC dX12_readGreen_71 (by decide) ?_
            refine rb_istore_n hC [(1, .int 1), (3, .int r17), (0, .ref (rb_ad w 0)), (2, .int x2)] dX12_readGreen_72 (by decide) rfl ?_
            refine rb_aload_n hC 2 dX12_readGreen_73 rfl ?_
            refine rb_dup hC dX12_readGreen_74 rfl ?_
            refine rb_getI hC fr_X12_124_11 rb_obM0 rfl dX12_readGreen_75 ?_
            refine rb_iconst (x := 1) hC dX12_readGreen_78 (by decide) ?_
            refine rb_iadd hC dX12_readGreen_79 ?_
            refine rb_putI hC fr_X12_124_11 ft_11_3 rb_obM0 rfl rfl rfl dX12_readGreen_80 ?_
            obtain ⟨s42, e43, h⟩ := rb_ltE h
            refine rb_nmS e43 ?_
            refine rb_aload_n hC 2 dX12_readGreen_83 rfl ?_
            refine rb_iload_n hC 1 dX12_readGreen_84 rfl ?_
            refine rb_aload_n hC 2 dX12_readGreen_85 rfl ?_
            refine rb_getR hC fr_X12_40_11 rb_obM0 rfl dX12_readGreen_86 ?_
            refine rb_iconst (x := 0) hC dX12_readGreen_89 (by decide) ?_
            obtain ⟨s44, q45, h⟩ := rb_b1s h
            refine rb_callVv hC rb_VokM mv_X12_253 (xc_M_items_r r17 0 s42 _ q45) rb_obM0 rfl [.int r17, .ref (rb_ad w 11), .int 0] rfl rfl rfl ⟨Nat.le_of_ble_eq_true rfl, Nat.le_of_ble_eq_true rfl⟩ (Nat.le_of_ble_eq_true rfl) dX12_readGreen_90 ?_
            refine rb_goto hC 153 dX12_readGreen_93 (by decide) ?_
            exact rb_sub [2, 0] rfl (xu_M_readGreen_153 hC (fun b1 b2 τ => xl_M_readGreen_44 n b1 b2 τ) 1 s44 _ h (fun b1 b2 τ hq => ih b1 b2 τ _ hq hE0) hE0)
def xj_M_readGreen_197  (σ : rb_St) : Option (Int32 × rb_St) := if (σ.1 0 4) = (-1) then rb_b2 (xf_M_look σ) fun r51 s49 => if r51 = (-1) then if 3 ≤ (s49.1 0 19) then some (s49.1 0 4, s49) else rb_b1 (xf_M_bad s49) fun s56 => some (s56.1 0 4, s56) else rb_b1 (xf_M_bad s49) fun s53 => some (s53.1 0 4, s53) else some (σ.1 0 4, σ)
set_option maxHeartbeats 4000000 in
set_option maxRecDepth 100000 in
theorem xu_M_readGreen_197 {z : rb_Z} {w : rb_Wd} (hC : rb_Cx z rb_vM w RX12 cX12_readGreen 4 (some .int) 4)  (σ : rb_St) (r : Int32) (σ9 : rb_St) (h : xj_M_readGreen_197 σ = some (r, σ9)) : rb_At z rb_vM w 4 (rb_Q z rb_vM w (some (.int r)) σ9) 197 [(0, .ref (rb_ad w 0))] [] σ := by
  unfold xj_M_readGreen_197 at h
  refine rb_aload_n hC 0 dX12_readGreen_197 rfl ?_
  refine rb_getI hC fr_X12_131_11 rb_obM0 rfl dX12_readGreen_198 ?_
  refine rb_iconst (x := (-1)) hC dX12_readGreen_201 (by decide) ?_
  refine rb_icmp_ne hC 225 dX12_readGreen_202 (by decide) (fun c48 => ?_) (fun c48 => ?_)
  · replace h := rb_ifn c48 h
    refine rb_aload_n hC 0 dX12_readGreen_225 rfl ?_
    refine rb_getI hC fr_X12_131_11 rb_obM0 rfl dX12_readGreen_226 ?_
    cases h
    exact rb_iret hC dX12_readGreen_229
  · replace h := rb_ifp c48 h
    refine rb_aload_n hC 0 dX12_readGreen_205 rfl ?_
    obtain ⟨r51, s49, q50, h⟩ := rb_b2s h
    refine rb_callVi hC rb_VokM mv_X12_143 (xc_M_look  σ _ _ q50) rb_obM0 rfl [] rfl rfl rfl ⟨Nat.le_of_ble_eq_true rfl, Nat.le_of_ble_eq_true rfl⟩ (Nat.le_of_ble_eq_true rfl) dX12_readGreen_206 ?_
    refine rb_iconst (x := (-1)) hC dX12_readGreen_209 (by decide) ?_
    refine rb_icmp_ne hC 221 dX12_readGreen_210 (by decide) (fun c52 => ?_) (fun c52 => ?_)
    · replace h := rb_ifn c52 h
      refine rb_aload_n hC 0 dX12_readGreen_221 rfl ?_
      obtain ⟨s53, q54, h⟩ := rb_b1s h
      refine rb_callVv hC rb_VokM mv_X12_140 (xc_M_bad  s49 _ q54) rb_obM0 rfl [] rfl rfl rfl ⟨Nat.le_of_ble_eq_true rfl, Nat.le_of_ble_eq_true rfl⟩ (Nat.le_of_ble_eq_true rfl) dX12_readGreen_222 ?_
      refine rb_aload_n hC 0 dX12_readGreen_225 rfl ?_
      refine rb_getI hC fr_X12_131_11 rb_obM0 rfl dX12_readGreen_226 ?_
      cases h
      exact rb_iret hC dX12_readGreen_229
    · replace h := rb_ifp c52 h
      refine rb_aload_n hC 0 dX12_readGreen_213 rfl ?_
      refine rb_getI hC fr_X12_250_11 rb_obM0 rfl dX12_readGreen_214 ?_
      refine rb_iconst (x := 3) hC dX12_readGreen_217 (by decide) ?_
      refine rb_icmp_ge hC 225 dX12_readGreen_218 (by decide) (fun c55 => ?_) (fun c55 => ?_)
      · replace h := rb_ifp c55 h
        refine rb_aload_n hC 0 dX12_readGreen_225 rfl ?_
        refine rb_getI hC fr_X12_131_11 rb_obM0 rfl dX12_readGreen_226 ?_
        cases h
        exact rb_iret hC dX12_readGreen_229
      · replace h := rb_ifn c55 h
        refine rb_aload_n hC 0 dX12_readGreen_221 rfl ?_
        obtain ⟨s56, q57, h⟩ := rb_b1s h
        refine rb_callVv hC rb_VokM mv_X12_140 (xc_M_bad  s49 _ q57) rb_obM0 rfl [] rfl rfl rfl ⟨Nat.le_of_ble_eq_true rfl, Nat.le_of_ble_eq_true rfl⟩ (Nat.le_of_ble_eq_true rfl) dX12_readGreen_222 ?_
        refine rb_aload_n hC 0 dX12_readGreen_225 rfl ?_
        refine rb_getI hC fr_X12_131_11 rb_obM0 rfl dX12_readGreen_226 ?_
        cases h
        exact rb_iret hC dX12_readGreen_229
def xf_M_readGreen  (σ : rb_St) : Option (Int32 × rb_St) := rb_lt (rb_sI σ 0 3 0) (fun s1 => rb_lt (rb_sI s1 0 4 (-1)) (fun s3 => rb_lt (rb_sI s3 0 19 0) (fun s5 => rb_b1 (xl_M_readGreen_19 0 rb_FU 0 s5) fun s11 => rb_b1 (xl_M_readGreen_44 rb_FU 0 1 s11) fun s46 => xj_M_readGreen_197 s46)))
set_option maxHeartbeats 4000000 in
set_option maxRecDepth 100000 in
theorem xk_M_readGreen {z : rb_Z} {w : rb_Wd} (hC : rb_Cx z rb_vM w RX12 cX12_readGreen 4 (some .int) 4)  (σ : rb_St) (r : Int32) (σ9 : rb_St) (h : xf_M_readGreen σ = some (r, σ9)) : rb_At z rb_vM w 4 (rb_Q z rb_vM w (some (.int r)) σ9) 0 [(0, .ref (rb_ad w 0))] [] σ := by
  unfold xf_M_readGreen at h
  refine rb_aload_n hC 0 dX12_readGreen_0 rfl ?_
  refine rb_iconst (x := 0) hC dX12_readGreen_1 (by decide) ?_
  refine rb_putI hC fr_X12_124_11 ft_11_3 rb_obM0 rfl rfl rfl dX12_readGreen_2 ?_
  obtain ⟨s1, e2, h⟩ := rb_ltE h
  refine rb_nmS e2 ?_
  refine rb_aload_n hC 0 dX12_readGreen_5 rfl ?_
  refine rb_iconst (x := (-1)) hC dX12_readGreen_6 (by decide) ?_
  refine rb_putI hC fr_X12_131_11 ft_11_4 rb_obM0 rfl rfl rfl dX12_readGreen_7 ?_
  obtain ⟨s3, e4, h⟩ := rb_ltE h
  refine rb_nmS e4 ?_
  refine rb_aload_n hC 0 dX12_readGreen_10 rfl ?_
  refine rb_iconst (x := 0) hC dX12_readGreen_11 (by decide) ?_
  refine rb_putI hC fr_X12_250_11 ft_11_19 rb_obM0 rfl rfl rfl dX12_readGreen_12 ?_
  obtain ⟨s5, e6, h⟩ := rb_ltE h
  refine rb_nmS e6 ?_
  refine rb_iconst (x := 0) hC dX12_readGreen_15 (by decide) ?_
  refine rb_istore_n hC [(1, .int 0), (0, .ref (rb_ad w 0))] dX12_readGreen_16 (by decide) rfl ?_
  refine rb_iconst (x := 0) hC dX12_readGreen_17 (by decide) ?_
  refine rb_istore_n hC [(2, .int 0), (1, .int 0), (0, .ref (rb_ad w 0))] dX12_readGreen_18 (by decide) rfl ?_
  obtain ⟨s11, q12, h⟩ := rb_b1s h
  refine rb_sub (lv2 := [(0, .ref (rb_ad w 0)), (1, .int 0), (2, .int 0)]) [2, 1, 0] rfl ?_
  refine xt_M_readGreen_19 hC 0 rb_FU 0 s5 _ q12 ?_
  refine rb_iconst (x := 1) hC dX12_readGreen_42 (by decide) ?_
  refine rb_istore_n hC [(2, .int 1), (0, .ref (rb_ad w 0)), (1, .int 0)] dX12_readGreen_43 (by decide) rfl ?_
  obtain ⟨s46, q47, h⟩ := rb_b1s h
  refine rb_sub (lv2 := [(0, .ref (rb_ad w 0)), (1, .int 0), (2, .int 1)]) [1, 2, 0] rfl ?_
  refine xt_M_readGreen_44 hC  rb_FU 0 1 s11 _ q47 ?_
  exact rb_sub [0] rfl (xu_M_readGreen_197 hC  s46 _ _ h)
theorem xc_M_readGreen  (σ : rb_St) (r : Int32) (σ9 : rb_St) (h : xf_M_readGreen σ = some (r, σ9)) : rb_Con rb_vM yX12_readGreen cX12_readGreen 4 (some .int) 4 (fun w => [.ref (rb_ad w 0)]) σ (fun _ => (some (.int r))) σ9 := rb_Con.of (by decide +kernel) (fun _ => Nat.le_of_ble_eq_true rfl) (fun z w hC => xk_M_readGreen hC  σ r σ9 h)
theorem fr_X12_257_11 : rb_FR RX12 257 11 26 := ⟨RX12, TX12, 50, "RibbonPoleModel", rfl, rb_uX12, by decide, rb_in (by decide +kernel) (by decide +kernel), Or.inl rfl⟩
theorem mk_X12_260 : Cond.methodLink RX12 260 Lib.Math.min.name ∈ rb_tbl := rb_in (by decide +kernel) (by decide +kernel)
theorem ft_11_26 : rb_Ty 11 26 .int := ⟨RX12, TX12, 50, tyX12, rfl, tyX12_ok, nmX12, rfl, by decide +kernel⟩
theorem fr_X12_52_11 : rb_FR RX12 52 11 23 := ⟨RX12, TX12, 50, "RibbonPoleModel", rfl, rb_uX12, by decide, rb_in (by decide +kernel) (by decide +kernel), Or.inl rfl⟩
def xf_M_putStep (p0 : Int32) (p1 : Int32) (σ : rb_St) : Option (rb_St) := if 48 ≤ (σ.1 0 26) then rb_lt (rb_sI σ 0 26 (rb_mn 49 ((σ.1 0 26) + 1))) (fun s2 => some s2) else if rb_ib ((48 * p0) + (σ.1 0 26)) 336 then rb_lt (rb_sI σ 15 ((48 * p0) + (σ.1 0 26)).toNatClampNeg p1) (fun s5 => rb_lt (rb_sI s5 0 26 (rb_mn 49 ((s5.1 0 26) + 1))) (fun s7 => some s7)) else none
set_option maxHeartbeats 4000000 in
set_option maxRecDepth 100000 in
theorem xk_M_putStep {z : rb_Z} {w : rb_Wd} (hC : rb_Cx z rb_vM w RX12 cX12_putStep 3 none 1) (p0 : Int32) (p1 : Int32) (σ : rb_St) (σ9 : rb_St) (h : xf_M_putStep p0 p1 σ = some σ9) : rb_At z rb_vM w 3 (rb_Q z rb_vM w none σ9) 0 [(0, .ref (rb_ad w 0)), (1, .int p0), (2, .int p1)] [] σ := by
  unfold xf_M_putStep at h
  refine rb_aload_n hC 0 dX12_putStep_0 rfl ?_
  refine rb_getI hC fr_X12_257_11 rb_obM0 rfl dX12_putStep_1 ?_
  refine rb_bipush (x := 48) hC dX12_putStep_4 (by decide) ?_
  refine rb_icmp_ge hC 24 dX12_putStep_6 (by decide) (fun c1 => ?_) (fun c1 => ?_)
  · replace h := rb_ifp c1 h
    refine rb_aload_n hC 0 dX12_putStep_24 rfl ?_
    refine rb_bipush (x := 49) hC dX12_putStep_25 (by decide) ?_
    refine rb_aload_n hC 0 dX12_putStep_27 rfl ?_
    refine rb_getI hC fr_X12_257_11 rb_obM0 rfl dX12_putStep_28 ?_
    refine rb_iconst (x := 1) hC dX12_putStep_31 (by decide) ?_
    refine rb_iadd hC dX12_putStep_32 ?_
    refine rb_mmin hC mk_X12_260 ⟨Nat.le_of_ble_eq_true rfl, Nat.le_of_ble_eq_true rfl⟩ dX12_putStep_33 ?_
    refine rb_putI hC fr_X12_257_11 ft_11_26 rb_obM0 rfl rfl rfl dX12_putStep_36 ?_
    obtain ⟨s2, e3, h⟩ := rb_ltE h
    refine rb_nmS e3 ?_
    cases h
    exact rb_vret hC dX12_putStep_39
  · replace h := rb_ifn c1 h
    refine rb_aload_n hC 0 dX12_putStep_9 rfl ?_
    refine rb_getR hC fr_X12_52_11 rb_obM0 rfl dX12_putStep_10 ?_
    refine rb_bipush (x := 48) hC dX12_putStep_13 (by decide) ?_
    refine rb_iload_n hC 1 dX12_putStep_15 rfl ?_
    refine rb_imul hC dX12_putStep_16 ?_
    refine rb_aload_n hC 0 dX12_putStep_17 rfl ?_
    refine rb_getI hC fr_X12_257_11 rb_obM0 rfl dX12_putStep_18 ?_
    refine rb_iadd hC dX12_putStep_21 ?_
    refine rb_iload_n hC 2 dX12_putStep_22 rfl ?_
    obtain ⟨g4, h⟩ := rb_gd h
    refine rb_iast hC rb_arM15 (rb_ibI g4) dX12_putStep_23 ?_
    obtain ⟨s5, e6, h⟩ := rb_ltE h
    refine rb_nmS e6 ?_
    refine rb_aload_n hC 0 dX12_putStep_24 rfl ?_
    refine rb_bipush (x := 49) hC dX12_putStep_25 (by decide) ?_
    refine rb_aload_n hC 0 dX12_putStep_27 rfl ?_
    refine rb_getI hC fr_X12_257_11 rb_obM0 rfl dX12_putStep_28 ?_
    refine rb_iconst (x := 1) hC dX12_putStep_31 (by decide) ?_
    refine rb_iadd hC dX12_putStep_32 ?_
    refine rb_mmin hC mk_X12_260 ⟨Nat.le_of_ble_eq_true rfl, Nat.le_of_ble_eq_true rfl⟩ dX12_putStep_33 ?_
    refine rb_putI hC fr_X12_257_11 ft_11_26 rb_obM0 rfl rfl rfl dX12_putStep_36 ?_
    obtain ⟨s7, e8, h⟩ := rb_ltE h
    refine rb_nmS e8 ?_
    cases h
    exact rb_vret hC dX12_putStep_39
theorem xc_M_putStep (p0 : Int32) (p1 : Int32) (σ : rb_St) (σ9 : rb_St) (h : xf_M_putStep p0 p1 σ = some σ9) : rb_Con rb_vM yX12_putStep cX12_putStep 3 none 1 (fun w => [.ref (rb_ad w 0), .int p0, .int p1]) σ (fun _ => none) σ9 := rb_Con.of (by decide +kernel) (fun _ => Nat.le_of_ble_eq_true rfl) (fun z w hC => xk_M_putStep hC p0 p1 σ σ9 h)
