def xl_M_takenAll_4  (σ : rb_St) : Nat → Int32 → Int32 → Option (Int32)
  | 0, _, _ => none
  | n + 1, x1, x2 => if (σ.1 0 22) ≤ x2 then some x1 else rb_b1 (xf_M_takenOf x2 σ) fun r2 => xl_M_takenAll_4 σ n (x1 + r2) (x2 + 1)
set_option maxHeartbeats 4000000 in
set_option maxRecDepth 100000 in
theorem xt_M_takenAll_4 {z : rb_Z} {w : rb_Wd} {Q : State → Prop} (hC : rb_Cx z rb_vM w RX12 cX12_takenAll 3 (some .int) 2)  (σ : rb_St) : ∀ (n : Nat) (x1 : Int32) (x2 : Int32) (y1 : Int32), xl_M_takenAll_4 σ n x1 x2 = some y1 → rb_At z rb_vM w 3 Q 26 [(1, .int y1)] [] σ → rb_At z rb_vM w 3 Q 4 [(0, .ref (rb_ad w 0)), (1, .int x1), (2, .int x2)] [] σ := by
  intro n
  induction n with
  | zero =>
    intro x1 x2 y1 h hE0
    cases h
  | succ n ih =>
    intro x1 x2 y1 h hE0
    rw [xl_M_takenAll_4] at h
    refine rb_iload_n hC 2 dX12_takenAll_4 rfl ?_
    refine rb_aload_n hC 0 dX12_takenAll_5 rfl ?_
    refine rb_getI hC fr_X12_283_11 rb_obM0 rfl dX12_takenAll_6 ?_
    refine rb_icmp_ge hC 26 dX12_takenAll_9 (by decide) (fun c1 => ?_) (fun c1 => ?_)
    · replace h := rb_ifp c1 h
      cases h
      exact rb_sub [1] rfl (hE0)
    · replace h := rb_ifn c1 h
      refine rb_iload_n hC 1 dX12_takenAll_12 rfl ?_
      refine rb_aload_n hC 0 dX12_takenAll_13 rfl ?_
      refine rb_iload_n hC 2 dX12_takenAll_14 rfl ?_
      obtain ⟨r2, q3, h⟩ := rb_b1s h
      refine rb_callVi hC rb_VokM mv_X12_334 (xc_M_takenOf x2 σ _ q3) rb_obM0 rfl [.int x2] rfl rfl rfl ⟨Nat.le_of_ble_eq_true rfl, Nat.le_of_ble_eq_true rfl⟩ (Nat.le_of_ble_eq_true rfl) dX12_takenAll_15 ?_
      refine rb_iadd hC dX12_takenAll_18 ?_
      refine rb_istore_n hC [(1, .int (x1 + r2)), (0, .ref (rb_ad w 0)), (2, .int x2)] dX12_takenAll_19 (by decide) rfl ?_
      refine rb_iinc hC 2 [(2, .int (x2 + 1)), (1, .int (x1 + r2)), (0, .ref (rb_ad w 0))] dX12_takenAll_20 rfl rfl (by decide) rfl ?_
      refine rb_goto hC 4 dX12_takenAll_23 (by decide) ?_
      exact rb_sub [2, 1, 0] rfl (ih (x1 + r2) (x2 + 1) _ h hE0)
def xf_M_takenAll  (σ : rb_St) : Option Int32 := rb_b1 (xl_M_takenAll_4 σ rb_FU 0 0) fun y4 => some y4
set_option maxHeartbeats 4000000 in
set_option maxRecDepth 100000 in
theorem xk_M_takenAll {z : rb_Z} {w : rb_Wd} (hC : rb_Cx z rb_vM w RX12 cX12_takenAll 3 (some .int) 2)  (σ : rb_St) (r : Int32) (h : xf_M_takenAll σ = some r) : rb_At z rb_vM w 3 (rb_Q z rb_vM w (some (.int r)) σ) 0 [(0, .ref (rb_ad w 0))] [] σ := by
  unfold xf_M_takenAll at h
  refine rb_iconst (x := 0) hC dX12_takenAll_0 (by decide) ?_
  refine rb_istore_n hC [(1, .int 0), (0, .ref (rb_ad w 0))] dX12_takenAll_1 (by decide) rfl ?_
  refine rb_iconst (x := 0) hC dX12_takenAll_2 (by decide) ?_
  refine rb_istore_n hC [(2, .int 0), (1, .int 0), (0, .ref (rb_ad w 0))] dX12_takenAll_3 (by decide) rfl ?_
  obtain ⟨y4, q5, h⟩ := rb_b1s h
  refine rb_sub (lv2 := [(0, .ref (rb_ad w 0)), (1, .int 0), (2, .int 0)]) [2, 1, 0] rfl ?_
  refine xt_M_takenAll_4 hC  σ rb_FU 0 0 _ q5 ?_
  refine rb_iload_n hC 0 dX12_takenAll_26 rfl ?_
  cases h
  exact rb_iret hC dX12_takenAll_27
theorem xc_M_takenAll  (σ : rb_St) (r : Int32) (h : xf_M_takenAll σ = some r) : rb_Con rb_vM yX12_takenAll cX12_takenAll 3 (some .int) 2 (fun w => [.ref (rb_ad w 0)]) σ (fun _ => (some (.int r))) σ := rb_Con.of (by decide +kernel) (fun _ => Nat.le_of_ble_eq_true rfl) (fun z w hC => xk_M_takenAll hC  σ r h)
theorem me_X12_takenAll : Cond.instanceMethod yX12_takenAll ∈ rb_tbl ∧ Cond.selects yX12_takenAll.cls yX12_takenAll yX12_takenAll ∈ rb_tbl ∧ Cond.initialized yX12_takenAll.cls ∈ rb_tbl ∧ Cond.code yX12_takenAll cX12_takenAll 3 (some .int) ∈ rb_tbl ∧ rb_pn yX12_takenAll 0 := ⟨rb_in (by decide +kernel) (by decide +kernel), rb_in (by decide +kernel) (by decide +kernel), rb_in (by decide +kernel) (by decide +kernel), rb_in (by decide +kernel) (by decide +kernel), by decide +kernel, by decide +kernel, by decide +kernel⟩
theorem mv_X12_508 : rb_MV RX12 508 yX12_takenAll cX12_takenAll 3 (some .int) 0 := ⟨rb_in (by decide +kernel) (by decide +kernel), me_X12_takenAll⟩
def xf_M_shares (p0 : Int32) (p1 : Int32) (σ : rb_St) : Option Int32 := rb_b1 (xf_M_isDancer p0 σ) fun r1 => if r1 = 0 then some (-1) else if (xf_M_in p1 0 999 σ) = 0 then some (-1) else rb_b1 (xf_M_takenAll σ) fun r5 => if r5 = 0 then some 0 else rb_b1 (xf_M_takenOf p0 σ) fun r8 => rb_b1 (xf_M_takenAll σ) fun r10 => if r10 = 0 then none else some ((p1 * r8) / r10)
set_option maxHeartbeats 4000000 in
set_option maxRecDepth 100000 in
theorem xk_M_shares {z : rb_Z} {w : rb_Wd} (hC : rb_Cx z rb_vM w RX12 cX12_shares 3 (some .int) 3) (p0 : Int32) (p1 : Int32) (σ : rb_St) (r : Int32) (h : xf_M_shares p0 p1 σ = some r) : rb_At z rb_vM w 3 (rb_Q z rb_vM w (some (.int r)) σ) 0 [(0, .ref (rb_ad w 0)), (1, .int p0), (2, .int p1)] [] σ := by
  unfold xf_M_shares at h
  refine rb_aload_n hC 0 dX12_shares_0 rfl ?_
  refine rb_iload_n hC 1 dX12_shares_1 rfl ?_
  obtain ⟨r1, q2, h⟩ := rb_b1s h
  refine rb_callVi hC rb_VokM mv_X12_373 (xc_M_isDancer p0 σ _ q2) rb_obM0 rfl [.int p0] rfl rfl rfl ⟨Nat.le_of_ble_eq_true rfl, Nat.le_of_ble_eq_true rfl⟩ (Nat.le_of_ble_eq_true rfl) dX12_shares_2 ?_
  refine rb_if_eq hC 19 dX12_shares_5 (by decide) (fun c3 => ?_) (fun c3 => ?_)
  · replace h := rb_ifp c3 h
    refine rb_iconst (x := (-1)) hC dX12_shares_19 (by decide) ?_
    cases h
    exact rb_iret hC dX12_shares_20
  · replace h := rb_ifn c3 h
    refine rb_iload_n hC 2 dX12_shares_8 rfl ?_
    refine rb_iconst (x := 0) hC dX12_shares_9 (by decide) ?_
    refine rb_sipush (x := 999) hC dX12_shares_10 (by decide) ?_
    refine rb_callSi hC rb_VokM mv_X12_229 (xc_M_in p1 0 999 σ _ rfl) [.int p1, .int 0, .int 999] rfl rfl rfl ⟨Nat.le_of_ble_eq_true rfl, Nat.le_of_ble_eq_true rfl⟩ (Nat.le_of_ble_eq_true rfl) dX12_shares_13 ?_
    refine rb_if_ne hC 21 dX12_shares_16 (by decide) (fun c4 => ?_) (fun c4 => ?_)
    · replace h := rb_ifn c4 h
      refine rb_aload_n hC 0 dX12_shares_21 rfl ?_
      obtain ⟨r5, q6, h⟩ := rb_b1s h
      refine rb_callVi hC rb_VokM mv_X12_508 (xc_M_takenAll  σ _ q6) rb_obM0 rfl [] rfl rfl rfl ⟨Nat.le_of_ble_eq_true rfl, Nat.le_of_ble_eq_true rfl⟩ (Nat.le_of_ble_eq_true rfl) dX12_shares_22 ?_
      refine rb_if_ne hC 32 dX12_shares_25 (by decide) (fun c7 => ?_) (fun c7 => ?_)
      · replace h := rb_ifn c7 h
        refine rb_iload_n hC 2 dX12_shares_32 rfl ?_
        refine rb_aload_n hC 0 dX12_shares_33 rfl ?_
        refine rb_iload_n hC 1 dX12_shares_34 rfl ?_
        obtain ⟨r8, q9, h⟩ := rb_b1s h
        refine rb_callVi hC rb_VokM mv_X12_334 (xc_M_takenOf p0 σ _ q9) rb_obM0 rfl [.int p0] rfl rfl rfl ⟨Nat.le_of_ble_eq_true rfl, Nat.le_of_ble_eq_true rfl⟩ (Nat.le_of_ble_eq_true rfl) dX12_shares_35 ?_
        refine rb_imul hC dX12_shares_38 ?_
        refine rb_aload_n hC 0 dX12_shares_39 rfl ?_
        obtain ⟨r10, q11, h⟩ := rb_b1s h
        refine rb_callVi hC rb_VokM mv_X12_508 (xc_M_takenAll  σ _ q11) rb_obM0 rfl [] rfl rfl rfl ⟨Nat.le_of_ble_eq_true rfl, Nat.le_of_ble_eq_true rfl⟩ (Nat.le_of_ble_eq_true rfl) dX12_shares_40 ?_
        obtain ⟨g12, h⟩ := rb_dv h
        refine rb_idiv hC dX12_shares_43 g12 ?_
        cases h
        exact rb_iret hC dX12_shares_44
      · replace h := rb_ifp c7 h
        refine rb_iconst (x := 0) hC dX12_shares_28 (by decide) ?_
        refine rb_goto hC 44 dX12_shares_29 (by decide) ?_
        cases h
        exact rb_iret hC dX12_shares_44
    · replace h := rb_ifp c4 h
      refine rb_iconst (x := (-1)) hC dX12_shares_19 (by decide) ?_
      cases h
      exact rb_iret hC dX12_shares_20
theorem xc_M_shares (p0 : Int32) (p1 : Int32) (σ : rb_St) (r : Int32) (h : xf_M_shares p0 p1 σ = some r) : rb_Con rb_vM yX12_shares cX12_shares 3 (some .int) 3 (fun w => [.ref (rb_ad w 0), .int p0, .int p1]) σ (fun _ => (some (.int r))) σ := rb_Con.of (by decide +kernel) (fun _ => Nat.le_of_ble_eq_true rfl) (fun z w hC => xk_M_shares hC p0 p1 σ r h)
def xf_M_valueOf (p0 : Int32) (p1 : Int32) (σ : rb_St) : Option Int32 := if p1 = 0 then rb_b1 (xf_M_leftOf p0 σ) fun r1 => some r1 else if p1 = 1 then rb_b1 (xf_M_leftOf p0 σ) fun r3 => some (-r3) else if p1 = 2 then rb_b1 (xf_M_crossingsOf p0 σ) fun r5 => some r5 else rb_b1 (xf_M_told p0 2 σ) fun r7 => some r7
set_option maxHeartbeats 4000000 in
set_option maxRecDepth 100000 in
theorem xk_M_valueOf {z : rb_Z} {w : rb_Wd} (hC : rb_Cx z rb_vM w RX12 cX12_valueOf 3 (some .int) 3) (p0 : Int32) (p1 : Int32) (σ : rb_St) (r : Int32) (h : xf_M_valueOf p0 p1 σ = some r) : rb_At z rb_vM w 3 (rb_Q z rb_vM w (some (.int r)) σ) 0 [(0, .ref (rb_ad w 0)), (1, .int p0), (2, .int p1)] [] σ := by
  unfold xf_M_valueOf at h
  refine rb_iload_n hC 2 dX12_valueOf_0 rfl ?_
  by_cases c1_0 : p1 = 0
  · replace h := rb_ifp c1_0 h
    refine rb_tableIn hC 28 dX12_valueOf_1 (by rw [c1_0]; decide) (by rw [c1_0]; decide) (by rw [c1_0]; rfl) (by decide) ?_
    refine rb_aload_n hC 0 dX12_valueOf_28 rfl ?_
    refine rb_iload_n hC 1 dX12_valueOf_29 rfl ?_
    obtain ⟨r1, q2, h⟩ := rb_b1s h
    refine rb_callVi hC rb_VokM mv_X12_343 (xc_M_leftOf p0 σ _ q2) rb_obM0 rfl [.int p0] rfl rfl rfl ⟨Nat.le_of_ble_eq_true rfl, Nat.le_of_ble_eq_true rfl⟩ (Nat.le_of_ble_eq_true rfl) dX12_valueOf_30 ?_
    cases h
    exact rb_iret hC dX12_valueOf_33
  · replace h := rb_ifn c1_0 h
    by_cases c1_1 : p1 = 1
    · replace h := rb_ifp c1_1 h
      refine rb_tableIn hC 34 dX12_valueOf_1 (by rw [c1_1]; decide) (by rw [c1_1]; decide) (by rw [c1_1]; rfl) (by decide) ?_
      refine rb_aload_n hC 0 dX12_valueOf_34 rfl ?_
      refine rb_iload_n hC 1 dX12_valueOf_35 rfl ?_
      obtain ⟨r3, q4, h⟩ := rb_b1s h
      refine rb_callVi hC rb_VokM mv_X12_343 (xc_M_leftOf p0 σ _ q4) rb_obM0 rfl [.int p0] rfl rfl rfl ⟨Nat.le_of_ble_eq_true rfl, Nat.le_of_ble_eq_true rfl⟩ (Nat.le_of_ble_eq_true rfl) dX12_valueOf_36 ?_
      refine rb_ineg hC dX12_valueOf_39 ?_
      cases h
      exact rb_iret hC dX12_valueOf_40
    · replace h := rb_ifn c1_1 h
      by_cases c1_2 : p1 = 2
      · replace h := rb_ifp c1_2 h
        refine rb_tableIn hC 41 dX12_valueOf_1 (by rw [c1_2]; decide) (by rw [c1_2]; decide) (by rw [c1_2]; rfl) (by decide) ?_
        refine rb_aload_n hC 0 dX12_valueOf_41 rfl ?_
        refine rb_iload_n hC 1 dX12_valueOf_42 rfl ?_
        obtain ⟨r5, q6, h⟩ := rb_b1s h
        refine rb_callVi hC rb_VokM mv_X12_379 (xc_M_crossingsOf p0 σ _ q6) rb_obM0 rfl [.int p0] rfl rfl rfl ⟨Nat.le_of_ble_eq_true rfl, Nat.le_of_ble_eq_true rfl⟩ (Nat.le_of_ble_eq_true rfl) dX12_valueOf_43 ?_
        cases h
        exact rb_iret hC dX12_valueOf_46
      · replace h := rb_ifn c1_2 h
        have hO : p1.toInt < 0 ∨ 2 < p1.toInt := by
          have n0 : p1.toInt ≠ 0 := fun q3 => c1_0 (Int32.toInt_inj.mp (q3.trans (by decide)))
          have n1 : p1.toInt ≠ 1 := fun q3 => c1_1 (Int32.toInt_inj.mp (q3.trans (by decide)))
          have n2 : p1.toInt ≠ 2 := fun q3 => c1_2 (Int32.toInt_inj.mp (q3.trans (by decide)))
          omega
        refine rb_tableOut hC 47 dX12_valueOf_1 hO (by decide) ?_
        refine rb_aload_n hC 0 dX12_valueOf_47 rfl ?_
        refine rb_iload_n hC 1 dX12_valueOf_48 rfl ?_
        refine rb_iconst (x := 2) hC dX12_valueOf_49 (by decide) ?_
        obtain ⟨r7, q8, h⟩ := rb_b1s h
        refine rb_callVi hC rb_VokM mv_X12_286 (xc_M_told p0 2 σ _ q8) rb_obM0 rfl [.int p0, .int 2] rfl rfl rfl ⟨Nat.le_of_ble_eq_true rfl, Nat.le_of_ble_eq_true rfl⟩ (Nat.le_of_ble_eq_true rfl) dX12_valueOf_50 ?_
        cases h
        exact rb_iret hC dX12_valueOf_53
theorem xc_M_valueOf (p0 : Int32) (p1 : Int32) (σ : rb_St) (r : Int32) (h : xf_M_valueOf p0 p1 σ = some r) : rb_Con rb_vM yX12_valueOf cX12_valueOf 3 (some .int) 3 (fun w => [.ref (rb_ad w 0), .int p0, .int p1]) σ (fun _ => (some (.int r))) σ := rb_Con.of (by decide +kernel) (fun _ => Nat.le_of_ble_eq_true rfl) (fun z w hC => xk_M_valueOf hC p0 p1 σ r h)
theorem me_X12_valueOf : Cond.instanceMethod yX12_valueOf ∈ rb_tbl ∧ Cond.selects yX12_valueOf.cls yX12_valueOf yX12_valueOf ∈ rb_tbl ∧ Cond.initialized yX12_valueOf.cls ∈ rb_tbl ∧ Cond.code yX12_valueOf cX12_valueOf 3 (some .int) ∈ rb_tbl ∧ rb_pn yX12_valueOf 2 := ⟨rb_in (by decide +kernel) (by decide +kernel), rb_in (by decide +kernel) (by decide +kernel), rb_in (by decide +kernel) (by decide +kernel), rb_in (by decide +kernel) (by decide +kernel), by decide +kernel, by decide +kernel, by decide +kernel⟩
theorem mv_X12_511 : rb_MV RX12 511 yX12_valueOf cX12_valueOf 3 (some .int) 2 := ⟨rb_in (by decide +kernel) (by decide +kernel), me_X12_valueOf⟩
def xl_M_topBy_4 (x1 : Int32) (σ : rb_St) : Nat → Int32 → Int32 → Option (Int32)
  | 0, _, _ => none
  | n + 1, x2, x3 => if (σ.1 0 22) ≤ x3 then some x2 else rb_b1 (xf_M_valueOf x3 x1 σ) fun r2 => rb_b1 (xf_M_valueOf x2 x1 σ) fun r4 => if r2 ≤ r4 then xl_M_topBy_4 x1 σ n x2 (x3 + 1) else xl_M_topBy_4 x1 σ n x3 (x3 + 1)
set_option maxHeartbeats 4000000 in
set_option maxRecDepth 100000 in
theorem xt_M_topBy_4 {z : rb_Z} {w : rb_Wd} {Q : State → Prop} (hC : rb_Cx z rb_vM w RX12 cX12_topBy 4 (some .int) 4) (x1 : Int32) (σ : rb_St) : ∀ (n : Nat) (x2 : Int32) (x3 : Int32) (y2 : Int32), xl_M_topBy_4 x1 σ n x2 x3 = some y2 → rb_At z rb_vM w 4 Q 39 [(2, .int y2)] [] σ → rb_At z rb_vM w 4 Q 4 [(0, .ref (rb_ad w 0)), (1, .int x1), (2, .int x2), (3, .int x3)] [] σ := by
  intro n
  induction n with
  | zero =>
    intro x2 x3 y2 h hE0
    cases h
  | succ n ih =>
    intro x2 x3 y2 h hE0
    rw [xl_M_topBy_4] at h
    refine rb_iload_n hC 3 dX12_topBy_4 rfl ?_
    refine rb_aload_n hC 0 dX12_topBy_5 rfl ?_
    refine rb_getI hC fr_X12_283_11 rb_obM0 rfl dX12_topBy_6 ?_
    refine rb_icmp_ge hC 39 dX12_topBy_9 (by decide) (fun c1 => ?_) (fun c1 => ?_)
    · replace h := rb_ifp c1 h
      cases h
      exact rb_sub [2] rfl (hE0)
    · replace h := rb_ifn c1 h
      refine rb_aload_n hC 0 dX12_topBy_12 rfl ?_
      refine rb_iload_n hC 3 dX12_topBy_13 rfl ?_
      refine rb_iload_n hC 1 dX12_topBy_14 rfl ?_
      obtain ⟨r2, q3, h⟩ := rb_b1s h
      refine rb_callVi hC rb_VokM mv_X12_511 (xc_M_valueOf x3 x1 σ _ q3) rb_obM0 rfl [.int x3, .int x1] rfl rfl rfl ⟨Nat.le_of_ble_eq_true rfl, Nat.le_of_ble_eq_true rfl⟩ (Nat.le_of_ble_eq_true rfl) dX12_topBy_15 ?_
      refine rb_aload_n hC 0 dX12_topBy_18 rfl ?_
      refine rb_iload_n hC 2 dX12_topBy_19 rfl ?_
      refine rb_iload_n hC 1 dX12_topBy_20 rfl ?_
      obtain ⟨r4, q5, h⟩ := rb_b1s h
      refine rb_callVi hC rb_VokM mv_X12_511 (xc_M_valueOf x2 x1 σ _ q5) rb_obM0 rfl [.int x2, .int x1] rfl rfl rfl ⟨Nat.le_of_ble_eq_true rfl, Nat.le_of_ble_eq_true rfl⟩ (Nat.le_of_ble_eq_true rfl) dX12_topBy_21 ?_
      refine rb_icmp_le hC 31 dX12_topBy_24 (by decide) (fun c6 => ?_) (fun c6 => ?_)
      · replace h := rb_ifp c6 h
        refine rb_iload_n hC 2 dX12_topBy_31 rfl ?_
        refine rb_istore_n hC [(2, .int x2), (0, .ref (rb_ad w 0)), (1, .int x1), (3, .int x3)] dX12_topBy_32 (by decide) rfl ?_
        refine rb_iinc hC 3 [(3, .int (x3 + 1)), (2, .int x2), (0, .ref (rb_ad w 0)), (1, .int x1)] dX12_topBy_33 rfl rfl (by decide) rfl ?_
        refine rb_goto hC 4 dX12_topBy_36 (by decide) ?_
        exact rb_sub [2, 3, 1, 0] rfl (ih x2 (x3 + 1) _ h hE0)
      · replace h := rb_ifn c6 h
        refine rb_iload_n hC 3 dX12_topBy_27 rfl ?_
        refine rb_goto hC 32 dX12_topBy_28 (by decide) ?_
        refine rb_istore_n hC [(2, .int x3), (0, .ref (rb_ad w 0)), (1, .int x1), (3, .int x3)] dX12_topBy_32 (by decide) rfl ?_
        refine rb_iinc hC 3 [(3, .int (x3 + 1)), (2, .int x3), (0, .ref (rb_ad w 0)), (1, .int x1)] dX12_topBy_33 rfl rfl (by decide) rfl ?_
        refine rb_goto hC 4 dX12_topBy_36 (by decide) ?_
        exact rb_sub [2, 3, 1, 0] rfl (ih x3 (x3 + 1) _ h hE0)
def xf_M_topBy (p0 : Int32) (σ : rb_St) : Option Int32 := rb_b1 (xl_M_topBy_4 p0 σ rb_FU 0 1) fun y7 => some y7
set_option maxHeartbeats 4000000 in
set_option maxRecDepth 100000 in
theorem xk_M_topBy {z : rb_Z} {w : rb_Wd} (hC : rb_Cx z rb_vM w RX12 cX12_topBy 4 (some .int) 4) (p0 : Int32) (σ : rb_St) (r : Int32) (h : xf_M_topBy p0 σ = some r) : rb_At z rb_vM w 4 (rb_Q z rb_vM w (some (.int r)) σ) 0 [(0, .ref (rb_ad w 0)), (1, .int p0)] [] σ := by
  unfold xf_M_topBy at h
  refine rb_iconst (x := 0) hC dX12_topBy_0 (by decide) ?_
  refine rb_istore_n hC [(2, .int 0), (0, .ref (rb_ad w 0)), (1, .int p0)] dX12_topBy_1 (by decide) rfl ?_
  refine rb_iconst (x := 1) hC dX12_topBy_2 (by decide) ?_
  refine rb_istore_n hC [(3, .int 1), (2, .int 0), (0, .ref (rb_ad w 0)), (1, .int p0)] dX12_topBy_3 (by decide) rfl ?_
  obtain ⟨y7, q8, h⟩ := rb_b1s h
  refine rb_sub (lv2 := [(0, .ref (rb_ad w 0)), (1, .int p0), (2, .int 0), (3, .int 1)]) [2, 3, 1, 0] rfl ?_
  refine xt_M_topBy_4 hC p0 σ rb_FU 0 1 _ q8 ?_
  refine rb_iload_n hC 0 dX12_topBy_39 rfl ?_
  cases h
  exact rb_iret hC dX12_topBy_40
theorem xc_M_topBy (p0 : Int32) (σ : rb_St) (r : Int32) (h : xf_M_topBy p0 σ = some r) : rb_Con rb_vM yX12_topBy cX12_topBy 4 (some .int) 4 (fun w => [.ref (rb_ad w 0), .int p0]) σ (fun _ => (some (.int r))) σ := rb_Con.of (by decide +kernel) (fun _ => Nat.le_of_ble_eq_true rfl) (fun z w hC => xk_M_topBy hC p0 σ r h)
def xl_M_depth_4  (σ : rb_St) : Nat → Int32 → Int32 → Option (Int32)
  | 0, _, _ => none
  | n + 1, x1, x2 => if (σ.1 17 14) ≤ x2 then some x1 else rb_b1 (xf_M_of x2 4 σ) fun r2 => xl_M_depth_4 σ n (rb_mx x1 r2) (x2 + 1)
set_option maxHeartbeats 4000000 in
set_option maxRecDepth 100000 in
theorem xt_M_depth_4 {z : rb_Z} {w : rb_Wd} {Q : State → Prop} (hC : rb_Cx z rb_vM w RX12 cX12_depth 3 (some .int) 1)  (σ : rb_St) : ∀ (n : Nat) (x1 : Int32) (x2 : Int32) (y1 : Int32), xl_M_depth_4 σ n x1 x2 = some y1 → rb_At z rb_vM w 3 Q 32 [(1, .int y1)] [] σ → rb_At z rb_vM w 3 Q 4 [(0, .ref (rb_ad w 0)), (1, .int x1), (2, .int x2)] [] σ := by
  intro n
  induction n with
  | zero =>
    intro x1 x2 y1 h hE0
    cases h
  | succ n ih =>
    intro x1 x2 y1 h hE0
    rw [xl_M_depth_4] at h
    refine rb_iload_n hC 2 dX12_depth_4 rfl ?_
    refine rb_aload_n hC 0 dX12_depth_5 rfl ?_
    refine rb_getR hC fr_X12_58_11 rb_obM0 rfl dX12_depth_6 ?_
    refine rb_bipush (x := 14) hC dX12_depth_9 (by decide) ?_
    refine rb_iald hC rb_arM17 (rb_ibI (by decide)) dX12_depth_11 ?_
    refine rb_icmp_ge hC 32 dX12_depth_12 (by decide) (fun c1 => ?_) (fun c1 => ?_)
    · replace h := rb_ifp c1 h
      cases h
      exact rb_sub [1] rfl (hE0)
    · replace h := rb_ifn c1 h
      refine rb_iload_n hC 1 dX12_depth_15 rfl ?_
      refine rb_aload_n hC 0 dX12_depth_16 rfl ?_
      refine rb_iload_n hC 2 dX12_depth_17 rfl ?_
      refine rb_iconst (x := 4) hC dX12_depth_18 (by decide) ?_
      obtain ⟨r2, q3, h⟩ := rb_b1s h
      refine rb_callVi hC rb_VokM mv_X12_311 (xc_M_of x2 4 σ _ q3) rb_obM0 rfl [.int x2, .int 4] rfl rfl rfl ⟨Nat.le_of_ble_eq_true rfl, Nat.le_of_ble_eq_true rfl⟩ (Nat.le_of_ble_eq_true rfl) dX12_depth_19 ?_
      refine rb_mmax hC mk_X12_320 ⟨Nat.le_of_ble_eq_true rfl, Nat.le_of_ble_eq_true rfl⟩ dX12_depth_22 ?_
      refine rb_istore_n hC [(1, .int (rb_mx x1 r2)), (0, .ref (rb_ad w 0)), (2, .int x2)] dX12_depth_25 (by decide) rfl ?_
      refine rb_iinc hC 2 [(2, .int (x2 + 1)), (1, .int (rb_mx x1 r2)), (0, .ref (rb_ad w 0))] dX12_depth_26 rfl rfl (by decide) rfl ?_
      refine rb_goto hC 4 dX12_depth_29 (by decide) ?_
      exact rb_sub [2, 1, 0] rfl (ih (rb_mx x1 r2) (x2 + 1) _ h hE0)
def xf_M_depth  (σ : rb_St) : Option Int32 := rb_b1 (xl_M_depth_4 σ rb_FU 0 0) fun y4 => some y4
set_option maxHeartbeats 4000000 in
set_option maxRecDepth 100000 in
theorem xk_M_depth {z : rb_Z} {w : rb_Wd} (hC : rb_Cx z rb_vM w RX12 cX12_depth 3 (some .int) 1)  (σ : rb_St) (r : Int32) (h : xf_M_depth σ = some r) : rb_At z rb_vM w 3 (rb_Q z rb_vM w (some (.int r)) σ) 0 [(0, .ref (rb_ad w 0))] [] σ := by
  unfold xf_M_depth at h
  refine rb_iconst (x := 0) hC dX12_depth_0 (by decide) ?_
  refine rb_istore_n hC [(1, .int 0), (0, .ref (rb_ad w 0))] dX12_depth_1 (by decide) rfl ?_
  refine rb_iconst (x := 0) hC dX12_depth_2 (by decide) ?_
  refine rb_istore_n hC [(2, .int 0), (1, .int 0), (0, .ref (rb_ad w 0))] dX12_depth_3 (by decide) rfl ?_
  obtain ⟨y4, q5, h⟩ := rb_b1s h
  refine rb_sub (lv2 := [(0, .ref (rb_ad w 0)), (1, .int 0), (2, .int 0)]) [2, 1, 0] rfl ?_
  refine xt_M_depth_4 hC  σ rb_FU 0 0 _ q5 ?_
  refine rb_iload_n hC 0 dX12_depth_32 rfl ?_
  cases h
  exact rb_iret hC dX12_depth_33
theorem xc_M_depth  (σ : rb_St) (r : Int32) (h : xf_M_depth σ = some r) : rb_Con rb_vM yX12_depth cX12_depth 3 (some .int) 1 (fun w => [.ref (rb_ad w 0)]) σ (fun _ => (some (.int r))) σ := rb_Con.of (by decide +kernel) (fun _ => Nat.le_of_ble_eq_true rfl) (fun z w hC => xk_M_depth hC  σ r h)
def xl_M_orderRow_4  (σ : rb_St) : Nat → Int32 → Int32 → Option (Int32)
  | 0, _, _ => none
  | n + 1, x1, x2 => if (σ.1 0 22) ≤ x2 then some x1 else if rb_ib (0 + x2) 398 then rb_lt ((10 * x1) + (σ.1 17 (0 + x2).toNatClampNeg)) (fun v3 => xl_M_orderRow_4 σ n v3 (x2 + 1)) else none
set_option maxHeartbeats 4000000 in
set_option maxRecDepth 100000 in
theorem xt_M_orderRow_4 {z : rb_Z} {w : rb_Wd} {Q : State → Prop} (hC : rb_Cx z rb_vM w RX12 cX12_orderRow 3 (some .int) 0)  (σ : rb_St) : ∀ (n : Nat) (x1 : Int32) (x2 : Int32) (y1 : Int32), xl_M_orderRow_4 σ n x1 x2 = some y1 → rb_At z rb_vM w 3 Q 32 [(1, .int y1)] [] σ → rb_At z rb_vM w 3 Q 4 [(0, .ref (rb_ad w 0)), (1, .int x1), (2, .int x2)] [] σ := by
  intro n
  induction n with
  | zero =>
    intro x1 x2 y1 h hE0
    cases h
  | succ n ih =>
    intro x1 x2 y1 h hE0
    rw [xl_M_orderRow_4] at h
    refine rb_iload_n hC 2 dX12_orderRow_4 rfl ?_
    refine rb_aload_n hC 0 dX12_orderRow_5 rfl ?_
    refine rb_getI hC fr_X12_283_11 rb_obM0 rfl dX12_orderRow_6 ?_
    refine rb_icmp_ge hC 32 dX12_orderRow_9 (by decide) (fun c1 => ?_) (fun c1 => ?_)
    · replace h := rb_ifp c1 h
      cases h
      exact rb_sub [1] rfl (hE0)
    · replace h := rb_ifn c1 h
      refine rb_bipush (x := 10) hC dX12_orderRow_12 (by decide) ?_
      refine rb_iload_n hC 1 dX12_orderRow_14 rfl ?_
      refine rb_imul hC dX12_orderRow_15 ?_
      refine rb_aload_n hC 0 dX12_orderRow_16 rfl ?_
      refine rb_getR hC fr_X12_58_11 rb_obM0 rfl dX12_orderRow_17 ?_
      refine rb_iconst (x := 0) hC dX12_orderRow_20 (by decide) ?_
      refine rb_iload_n hC 2 dX12_orderRow_21 rfl ?_
      refine rb_iadd hC dX12_orderRow_22 ?_
      obtain ⟨g2, h⟩ := rb_gd h
      refine rb_iald hC rb_arM17 (rb_ibI g2) dX12_orderRow_23 ?_
      refine rb_iadd hC dX12_orderRow_24 ?_
      obtain ⟨v3, e4, h⟩ := rb_ltE h
      refine rb_nmI e4 ?_
      refine rb_istore_n hC [(1, .int v3), (0, .ref (rb_ad w 0)), (2, .int x2)] dX12_orderRow_25 (by decide) rfl ?_
      refine rb_iinc hC 2 [(2, .int (x2 + 1)), (1, .int v3), (0, .ref (rb_ad w 0))] dX12_orderRow_26 rfl rfl (by decide) rfl ?_
      refine rb_goto hC 4 dX12_orderRow_29 (by decide) ?_
      exact rb_sub [2, 1, 0] rfl (ih v3 (x2 + 1) _ h hE0)
def xf_M_orderRow  (σ : rb_St) : Option Int32 := rb_b1 (xl_M_orderRow_4 σ rb_FU 0 0) fun y5 => some y5
set_option maxHeartbeats 4000000 in
set_option maxRecDepth 100000 in
theorem xk_M_orderRow {z : rb_Z} {w : rb_Wd} (hC : rb_Cx z rb_vM w RX12 cX12_orderRow 3 (some .int) 0)  (σ : rb_St) (r : Int32) (h : xf_M_orderRow σ = some r) : rb_At z rb_vM w 3 (rb_Q z rb_vM w (some (.int r)) σ) 0 [(0, .ref (rb_ad w 0))] [] σ := by
  unfold xf_M_orderRow at h
  refine rb_iconst (x := 0) hC dX12_orderRow_0 (by decide) ?_
  refine rb_istore_n hC [(1, .int 0), (0, .ref (rb_ad w 0))] dX12_orderRow_1 (by decide) rfl ?_
  refine rb_iconst (x := 0) hC dX12_orderRow_2 (by decide) ?_
  refine rb_istore_n hC [(2, .int 0), (1, .int 0), (0, .ref (rb_ad w 0))] dX12_orderRow_3 (by decide) rfl ?_
  obtain ⟨y5, q6, h⟩ := rb_b1s h
  refine rb_sub (lv2 := [(0, .ref (rb_ad w 0)), (1, .int 0), (2, .int 0)]) [2, 1, 0] rfl ?_
  refine xt_M_orderRow_4 hC  σ rb_FU 0 0 _ q6 ?_
  refine rb_iload_n hC 0 dX12_orderRow_32 rfl ?_
  cases h
  exact rb_iret hC dX12_orderRow_33
theorem xc_M_orderRow  (σ : rb_St) (r : Int32) (h : xf_M_orderRow σ = some r) : rb_Con rb_vM yX12_orderRow cX12_orderRow 3 (some .int) 0 (fun w => [.ref (rb_ad w 0)]) σ (fun _ => (some (.int r))) σ := rb_Con.of (by decide +kernel) (fun _ => Nat.le_of_ble_eq_true rfl) (fun z w hC => xk_M_orderRow hC  σ r h)
def xl_M_freeOnes_4  (σ : rb_St) : Nat → Int32 → Int32 → Option (Int32)
  | 0, _, _ => none
  | n + 1, x1, x2 => if (σ.1 0 22) ≤ x2 then some x1 else rb_b1 (xf_M_crossingsOf x2 σ) fun r2 => if r2 = 0 then xl_M_freeOnes_4 σ n (x1 ||| (1 <<< (x2 &&& 31))) (x2 + 1) else xl_M_freeOnes_4 σ n (x1 ||| 0) (x2 + 1)
set_option maxHeartbeats 4000000 in
set_option maxRecDepth 100000 in
theorem xt_M_freeOnes_4 {z : rb_Z} {w : rb_Wd} {Q : State → Prop} (hC : rb_Cx z rb_vM w RX12 cX12_freeOnes 3 (some .int) 2)  (σ : rb_St) : ∀ (n : Nat) (x1 : Int32) (x2 : Int32) (y1 : Int32), xl_M_freeOnes_4 σ n x1 x2 = some y1 → rb_At z rb_vM w 3 Q 36 [(1, .int y1)] [] σ → rb_At z rb_vM w 3 Q 4 [(0, .ref (rb_ad w 0)), (1, .int x1), (2, .int x2)] [] σ := by
  intro n
  induction n with
  | zero =>
    intro x1 x2 y1 h hE0
    cases h
  | succ n ih =>
    intro x1 x2 y1 h hE0
    rw [xl_M_freeOnes_4] at h
    refine rb_iload_n hC 2 dX12_freeOnes_4 rfl ?_
    refine rb_aload_n hC 0 dX12_freeOnes_5 rfl ?_
    refine rb_getI hC fr_X12_283_11 rb_obM0 rfl dX12_freeOnes_6 ?_
    refine rb_icmp_ge hC 36 dX12_freeOnes_9 (by decide) (fun c1 => ?_) (fun c1 => ?_)
    · replace h := rb_ifp c1 h
      cases h
      exact rb_sub [1] rfl (hE0)
    · replace h := rb_ifn c1 h
      refine rb_iload_n hC 1 dX12_freeOnes_12 rfl ?_
      refine rb_aload_n hC 0 dX12_freeOnes_13 rfl ?_
      refine rb_iload_n hC 2 dX12_freeOnes_14 rfl ?_
      obtain ⟨r2, q3, h⟩ := rb_b1s h
      refine rb_callVi hC rb_VokM mv_X12_379 (xc_M_crossingsOf x2 σ _ q3) rb_obM0 rfl [.int x2] rfl rfl rfl ⟨Nat.le_of_ble_eq_true rfl, Nat.le_of_ble_eq_true rfl⟩ (Nat.le_of_ble_eq_true rfl) dX12_freeOnes_15 ?_
      refine rb_if_ne hC 27 dX12_freeOnes_18 (by decide) (fun c4 => ?_) (fun c4 => ?_)
      · replace h := rb_ifn c4 h
        refine rb_iconst (x := 0) hC dX12_freeOnes_27 (by decide) ?_
        refine rb_ior hC dX12_freeOnes_28 ?_
        refine rb_istore_n hC [(1, .int (x1 ||| 0)), (0, .ref (rb_ad w 0)), (2, .int x2)] dX12_freeOnes_29 (by decide) rfl ?_
        refine rb_iinc hC 2 [(2, .int (x2 + 1)), (1, .int (x1 ||| 0)), (0, .ref (rb_ad w 0))] dX12_freeOnes_30 rfl rfl (by decide) rfl ?_
        refine rb_goto hC 4 dX12_freeOnes_33 (by decide) ?_
        exact rb_sub [2, 1, 0] rfl (ih (x1 ||| 0) (x2 + 1) _ h hE0)
      · replace h := rb_ifp c4 h
        refine rb_iconst (x := 1) hC dX12_freeOnes_21 (by decide) ?_
        refine rb_iload_n hC 2 dX12_freeOnes_22 rfl ?_
        refine rb_ishl hC dX12_freeOnes_23 ?_
        refine rb_goto hC 28 dX12_freeOnes_24 (by decide) ?_
        refine rb_ior hC dX12_freeOnes_28 ?_
        refine rb_istore_n hC [(1, .int (x1 ||| (1 <<< (x2 &&& 31)))), (0, .ref (rb_ad w 0)), (2, .int x2)] dX12_freeOnes_29 (by decide) rfl ?_
        refine rb_iinc hC 2 [(2, .int (x2 + 1)), (1, .int (x1 ||| (1 <<< (x2 &&& 31)))), (0, .ref (rb_ad w 0))] dX12_freeOnes_30 rfl rfl (by decide) rfl ?_
        refine rb_goto hC 4 dX12_freeOnes_33 (by decide) ?_
        exact rb_sub [2, 1, 0] rfl (ih (x1 ||| (1 <<< (x2 &&& 31))) (x2 + 1) _ h hE0)
def xf_M_freeOnes  (σ : rb_St) : Option Int32 := rb_b1 (xl_M_freeOnes_4 σ rb_FU 0 0) fun y5 => some y5
set_option maxHeartbeats 4000000 in
set_option maxRecDepth 100000 in
theorem xk_M_freeOnes {z : rb_Z} {w : rb_Wd} (hC : rb_Cx z rb_vM w RX12 cX12_freeOnes 3 (some .int) 2)  (σ : rb_St) (r : Int32) (h : xf_M_freeOnes σ = some r) : rb_At z rb_vM w 3 (rb_Q z rb_vM w (some (.int r)) σ) 0 [(0, .ref (rb_ad w 0))] [] σ := by
  unfold xf_M_freeOnes at h
  refine rb_iconst (x := 0) hC dX12_freeOnes_0 (by decide) ?_
  refine rb_istore_n hC [(1, .int 0), (0, .ref (rb_ad w 0))] dX12_freeOnes_1 (by decide) rfl ?_
  refine rb_iconst (x := 0) hC dX12_freeOnes_2 (by decide) ?_
  refine rb_istore_n hC [(2, .int 0), (1, .int 0), (0, .ref (rb_ad w 0))] dX12_freeOnes_3 (by decide) rfl ?_
  obtain ⟨y5, q6, h⟩ := rb_b1s h
  refine rb_sub (lv2 := [(0, .ref (rb_ad w 0)), (1, .int 0), (2, .int 0)]) [2, 1, 0] rfl ?_
  refine xt_M_freeOnes_4 hC  σ rb_FU 0 0 _ q6 ?_
  refine rb_iload_n hC 0 dX12_freeOnes_36 rfl ?_
  cases h
  exact rb_iret hC dX12_freeOnes_37
theorem xc_M_freeOnes  (σ : rb_St) (r : Int32) (h : xf_M_freeOnes σ = some r) : rb_Con rb_vM yX12_freeOnes cX12_freeOnes 3 (some .int) 2 (fun w => [.ref (rb_ad w 0)]) σ (fun _ => (some (.int r))) σ := rb_Con.of (by decide +kernel) (fun _ => Nat.le_of_ble_eq_true rfl) (fun z w hC => xk_M_freeOnes hC  σ r h)
def xl_M_changes_12  (σ : rb_St) : Nat → Int32 → Int32 → Option (Int32)
  | 0, _, _ => none
  | n + 1, x1, x2 => if (σ.1 17 14) ≤ x2 then some x1 else if rb_ib x2 88 then rb_b1 (xf_M_of (σ.1 20 x2.toNatClampNeg) 1 σ) fun r7 => rb_b1 (xf_M_told r7 0 σ) fun r9 => if rb_ib (x2 - 1) 88 then rb_b1 (xf_M_of (σ.1 20 (x2 - 1).toNatClampNeg) 1 σ) fun r12 => rb_b1 (xf_M_told r12 0 σ) fun r14 => if r9 = r14 then xl_M_changes_12 σ n (x1 + 0) (x2 + 1) else xl_M_changes_12 σ n (x1 + 1) (x2 + 1) else none else none
set_option maxHeartbeats 4000000 in
set_option maxRecDepth 100000 in
theorem xt_M_changes_12 {z : rb_Z} {w : rb_Wd} {Q : State → Prop} (hC : rb_Cx z rb_vM w RX12 cX12_changes 3 (some .int) 4)  (σ : rb_St) : ∀ (n : Nat) (x1 : Int32) (x2 : Int32) (y1 : Int32), xl_M_changes_12 σ n x1 x2 = some y1 → rb_At z rb_vM w 3 Q 74 [(1, .int y1)] [] σ → rb_At z rb_vM w 3 Q 12 [(0, .ref (rb_ad w 0)), (1, .int x1), (2, .int x2)] [] σ := by
  intro n
  induction n with
  | zero =>
    intro x1 x2 y1 h hE0
    cases h
  | succ n ih =>
    intro x1 x2 y1 h hE0
    rw [xl_M_changes_12] at h
    refine rb_iload_n hC 2 dX12_changes_12 rfl ?_
    refine rb_aload_n hC 0 dX12_changes_13 rfl ?_
    refine rb_getR hC fr_X12_58_11 rb_obM0 rfl dX12_changes_14 ?_
    refine rb_bipush (x := 14) hC dX12_changes_17 (by decide) ?_
    refine rb_iald hC rb_arM17 (rb_ibI (by decide)) dX12_changes_19 ?_
    refine rb_icmp_ge hC 74 dX12_changes_20 (by decide) (fun c5 => ?_) (fun c5 => ?_)
    · replace h := rb_ifp c5 h
      cases h
      exact rb_sub [1] rfl (hE0)
    · replace h := rb_ifn c5 h
      refine rb_iload_n hC 1 dX12_changes_23 rfl ?_
      refine rb_aload_n hC 0 dX12_changes_24 rfl ?_
      refine rb_aload_n hC 0 dX12_changes_25 rfl ?_
      refine rb_aload_n hC 0 dX12_changes_26 rfl ?_
      refine rb_getR hC fr_X12_71_11 rb_obM0 rfl dX12_changes_27 ?_
      refine rb_iload_n hC 2 dX12_changes_30 rfl ?_
      obtain ⟨g6, h⟩ := rb_gd h
      refine rb_iald hC rb_arM20 (rb_ibI g6) dX12_changes_31 ?_
      refine rb_iconst (x := 1) hC dX12_changes_32 (by decide) ?_
      obtain ⟨r7, q8, h⟩ := rb_b1s h
      refine rb_callVi hC rb_VokM mv_X12_311 (xc_M_of (σ.1 20 x2.toNatClampNeg) 1 σ _ q8) rb_obM0 rfl [.int (σ.1 20 x2.toNatClampNeg), .int 1] rfl rfl rfl ⟨Nat.le_of_ble_eq_true rfl, Nat.le_of_ble_eq_true rfl⟩ (Nat.le_of_ble_eq_true rfl) dX12_changes_33 ?_
      refine rb_iconst (x := 0) hC dX12_changes_36 (by decide) ?_
      obtain ⟨r9, q10, h⟩ := rb_b1s h
      refine rb_callVi hC rb_VokM mv_X12_286 (xc_M_told r7 0 σ _ q10) rb_obM0 rfl [.int r7, .int 0] rfl rfl rfl ⟨Nat.le_of_ble_eq_true rfl, Nat.le_of_ble_eq_true rfl⟩ (Nat.le_of_ble_eq_true rfl) dX12_changes_37 ?_
      refine rb_aload_n hC 0 dX12_changes_40 rfl ?_
      refine rb_aload_n hC 0 dX12_changes_41 rfl ?_
      refine rb_aload_n hC 0 dX12_changes_42 rfl ?_
      refine rb_getR hC fr_X12_71_11 rb_obM0 rfl dX12_changes_43 ?_
      refine rb_iload_n hC 2 dX12_changes_46 rfl ?_
      refine rb_iconst (x := 1) hC dX12_changes_47 (by decide) ?_
      refine rb_isub hC dX12_changes_48 ?_
      obtain ⟨g11, h⟩ := rb_gd h
      refine rb_iald hC rb_arM20 (rb_ibI g11) dX12_changes_49 ?_
      refine rb_iconst (x := 1) hC dX12_changes_50 (by decide) ?_
      obtain ⟨r12, q13, h⟩ := rb_b1s h
      refine rb_callVi hC rb_VokM mv_X12_311 (xc_M_of (σ.1 20 (x2 - 1).toNatClampNeg) 1 σ _ q13) rb_obM0 rfl [.int (σ.1 20 (x2 - 1).toNatClampNeg), .int 1] rfl rfl rfl ⟨Nat.le_of_ble_eq_true rfl, Nat.le_of_ble_eq_true rfl⟩ (Nat.le_of_ble_eq_true rfl) dX12_changes_51 ?_
      refine rb_iconst (x := 0) hC dX12_changes_54 (by decide) ?_
      obtain ⟨r14, q15, h⟩ := rb_b1s h
      refine rb_callVi hC rb_VokM mv_X12_286 (xc_M_told r12 0 σ _ q15) rb_obM0 rfl [.int r12, .int 0] rfl rfl rfl ⟨Nat.le_of_ble_eq_true rfl, Nat.le_of_ble_eq_true rfl⟩ (Nat.le_of_ble_eq_true rfl) dX12_changes_55 ?_
      refine rb_icmp_eq hC 65 dX12_changes_58 (by decide) (fun c16 => ?_) (fun c16 => ?_)
      · replace h := rb_ifp c16 h
        refine rb_iconst (x := 0) hC dX12_changes_65 (by decide) ?_
        refine rb_iadd hC dX12_changes_66 ?_
        refine rb_istore_n hC [(1, .int (x1 + 0)), (0, .ref (rb_ad w 0)), (2, .int x2)] dX12_changes_67 (by decide) rfl ?_
        refine rb_iinc hC 2 [(2, .int (x2 + 1)), (1, .int (x1 + 0)), (0, .ref (rb_ad w 0))] dX12_changes_68 rfl rfl (by decide) rfl ?_
        refine rb_goto hC 12 dX12_changes_71 (by decide) ?_
        exact rb_sub [2, 1, 0] rfl (ih (x1 + 0) (x2 + 1) _ h hE0)
      · replace h := rb_ifn c16 h
        refine rb_iconst (x := 1) hC dX12_changes_61 (by decide) ?_
        refine rb_goto hC 66 dX12_changes_62 (by decide) ?_
        refine rb_iadd hC dX12_changes_66 ?_
        refine rb_istore_n hC [(1, .int (x1 + 1)), (0, .ref (rb_ad w 0)), (2, .int x2)] dX12_changes_67 (by decide) rfl ?_
        refine rb_iinc hC 2 [(2, .int (x2 + 1)), (1, .int (x1 + 1)), (0, .ref (rb_ad w 0))] dX12_changes_68 rfl rfl (by decide) rfl ?_
        refine rb_goto hC 12 dX12_changes_71 (by decide) ?_
        exact rb_sub [2, 1, 0] rfl (ih (x1 + 1) (x2 + 1) _ h hE0)
def xf_M_changes  (σ : rb_St) : Option (Int32 × rb_St) := rb_b1 (xf_M_rowOfPlait σ) fun s1 => rb_b1 (xf_M_layOrder s1) fun s3 => rb_b1 (xl_M_changes_12 s3 rb_FU 0 1) fun y17 => some (y17, s3)
set_option maxHeartbeats 4000000 in
set_option maxRecDepth 100000 in
theorem xk_M_changes {z : rb_Z} {w : rb_Wd} (hC : rb_Cx z rb_vM w RX12 cX12_changes 3 (some .int) 4)  (σ : rb_St) (r : Int32) (σ9 : rb_St) (h : xf_M_changes σ = some (r, σ9)) : rb_At z rb_vM w 3 (rb_Q z rb_vM w (some (.int r)) σ9) 0 [(0, .ref (rb_ad w 0))] [] σ := by
  unfold xf_M_changes at h
  refine rb_aload_n hC 0 dX12_changes_0 rfl ?_
  obtain ⟨s1, q2, h⟩ := rb_b1s h
  refine rb_callVv hC rb_VokM mv_X12_388 (xc_M_rowOfPlait  σ _ q2) rb_obM0 rfl [] rfl rfl rfl ⟨Nat.le_of_ble_eq_true rfl, Nat.le_of_ble_eq_true rfl⟩ (Nat.le_of_ble_eq_true rfl) dX12_changes_1 ?_
  refine rb_aload_n hC 0 dX12_changes_4 rfl ?_
  obtain ⟨s3, q4, h⟩ := rb_b1s h
  refine rb_callVv hC rb_VokM mv_X12_391 (xc_M_layOrder  s1 _ q4) rb_obM0 rfl [] rfl rfl rfl ⟨Nat.le_of_ble_eq_true rfl, Nat.le_of_ble_eq_true rfl⟩ (Nat.le_of_ble_eq_true rfl) dX12_changes_5 ?_
  refine rb_iconst (x := 0) hC dX12_changes_8 (by decide) ?_
  refine rb_istore_n hC [(1, .int 0), (0, .ref (rb_ad w 0))] dX12_changes_9 (by decide) rfl ?_
  refine rb_iconst (x := 1) hC dX12_changes_10 (by decide) ?_
  refine rb_istore_n hC [(2, .int 1), (1, .int 0), (0, .ref (rb_ad w 0))] dX12_changes_11 (by decide) rfl ?_
  obtain ⟨y17, q18, h⟩ := rb_b1s h
  refine rb_sub (lv2 := [(0, .ref (rb_ad w 0)), (1, .int 0), (2, .int 1)]) [2, 1, 0] rfl ?_
  refine xt_M_changes_12 hC  s3 rb_FU 0 1 _ q18 ?_
  refine rb_iload_n hC 0 dX12_changes_74 rfl ?_
  cases h
  exact rb_iret hC dX12_changes_75
theorem xc_M_changes  (σ : rb_St) (r : Int32) (σ9 : rb_St) (h : xf_M_changes σ = some (r, σ9)) : rb_Con rb_vM yX12_changes cX12_changes 3 (some .int) 4 (fun w => [.ref (rb_ad w 0)]) σ (fun _ => (some (.int r))) σ9 := rb_Con.of (by decide +kernel) (fun _ => Nat.le_of_ble_eq_true rfl) (fun z w hC => xk_M_changes hC  σ r σ9 h)
def xl_M_twist_4  (σ : rb_St) : Nat → Int32 → Int32 → Option (Int32)
  | 0, _, _ => none
  | n + 1, x1, x2 => if (σ.1 17 14) ≤ x2 then some x1 else rb_b1 (xf_M_of x2 0 σ) fun r2 => if (r2 - r2 / 2 * 2) = 0 then xl_M_twist_4 σ n (x1 + 1) (x2 + 1) else xl_M_twist_4 σ n (x1 + (-1)) (x2 + 1)
set_option maxHeartbeats 4000000 in
set_option maxRecDepth 100000 in
theorem xt_M_twist_4 {z : rb_Z} {w : rb_Wd} {Q : State → Prop} (hC : rb_Cx z rb_vM w RX12 cX12_twist 3 (some .int) 1)  (σ : rb_St) : ∀ (n : Nat) (x1 : Int32) (x2 : Int32) (y1 : Int32), xl_M_twist_4 σ n x1 x2 = some y1 → rb_At z rb_vM w 3 Q 40 [(1, .int y1)] [] σ → rb_At z rb_vM w 3 Q 4 [(0, .ref (rb_ad w 0)), (1, .int x1), (2, .int x2)] [] σ := by
  intro n
  induction n with
  | zero =>
    intro x1 x2 y1 h hE0
    cases h
  | succ n ih =>
    intro x1 x2 y1 h hE0
    rw [xl_M_twist_4] at h
    refine rb_iload_n hC 2 dX12_twist_4 rfl ?_
    refine rb_aload_n hC 0 dX12_twist_5 rfl ?_
    refine rb_getR hC fr_X12_58_11 rb_obM0 rfl dX12_twist_6 ?_
    refine rb_bipush (x := 14) hC dX12_twist_9 (by decide) ?_
    refine rb_iald hC rb_arM17 (rb_ibI (by decide)) dX12_twist_11 ?_
    refine rb_icmp_ge hC 40 dX12_twist_12 (by decide) (fun c1 => ?_) (fun c1 => ?_)
    · replace h := rb_ifp c1 h
      cases h
      exact rb_sub [1] rfl (hE0)
    · replace h := rb_ifn c1 h
      refine rb_iload_n hC 1 dX12_twist_15 rfl ?_
      refine rb_aload_n hC 0 dX12_twist_16 rfl ?_
      refine rb_iload_n hC 2 dX12_twist_17 rfl ?_
      refine rb_iconst (x := 0) hC dX12_twist_18 (by decide) ?_
      obtain ⟨r2, q3, h⟩ := rb_b1s h
      refine rb_callVi hC rb_VokM mv_X12_311 (xc_M_of x2 0 σ _ q3) rb_obM0 rfl [.int x2, .int 0] rfl rfl rfl ⟨Nat.le_of_ble_eq_true rfl, Nat.le_of_ble_eq_true rfl⟩ (Nat.le_of_ble_eq_true rfl) dX12_twist_19 ?_
      refine rb_iconst (x := 2) hC dX12_twist_22 (by decide) ?_
      refine rb_irem hC dX12_twist_23 (by decide) ?_
      refine rb_if_ne hC 31 dX12_twist_24 (by decide) (fun c4 => ?_) (fun c4 => ?_)
      · replace h := rb_ifn c4 h
        refine rb_iconst (x := (-1)) hC dX12_twist_31 (by decide) ?_
        refine rb_iadd hC dX12_twist_32 ?_
        refine rb_istore_n hC [(1, .int (x1 + (-1))), (0, .ref (rb_ad w 0)), (2, .int x2)] dX12_twist_33 (by decide) rfl ?_
        refine rb_iinc hC 2 [(2, .int (x2 + 1)), (1, .int (x1 + (-1))), (0, .ref (rb_ad w 0))] dX12_twist_34 rfl rfl (by decide) rfl ?_
        refine rb_goto hC 4 dX12_twist_37 (by decide) ?_
        exact rb_sub [2, 1, 0] rfl (ih (x1 + (-1)) (x2 + 1) _ h hE0)
      · replace h := rb_ifp c4 h
        refine rb_iconst (x := 1) hC dX12_twist_27 (by decide) ?_
        refine rb_goto hC 32 dX12_twist_28 (by decide) ?_
        refine rb_iadd hC dX12_twist_32 ?_
        refine rb_istore_n hC [(1, .int (x1 + 1)), (0, .ref (rb_ad w 0)), (2, .int x2)] dX12_twist_33 (by decide) rfl ?_
        refine rb_iinc hC 2 [(2, .int (x2 + 1)), (1, .int (x1 + 1)), (0, .ref (rb_ad w 0))] dX12_twist_34 rfl rfl (by decide) rfl ?_
        refine rb_goto hC 4 dX12_twist_37 (by decide) ?_
        exact rb_sub [2, 1, 0] rfl (ih (x1 + 1) (x2 + 1) _ h hE0)
def xf_M_twist  (σ : rb_St) : Option Int32 := rb_b1 (xl_M_twist_4 σ rb_FU 0 0) fun y5 => some y5
set_option maxHeartbeats 4000000 in
set_option maxRecDepth 100000 in
theorem xk_M_twist {z : rb_Z} {w : rb_Wd} (hC : rb_Cx z rb_vM w RX12 cX12_twist 3 (some .int) 1)  (σ : rb_St) (r : Int32) (h : xf_M_twist σ = some r) : rb_At z rb_vM w 3 (rb_Q z rb_vM w (some (.int r)) σ) 0 [(0, .ref (rb_ad w 0))] [] σ := by
  unfold xf_M_twist at h
  refine rb_iconst (x := 0) hC dX12_twist_0 (by decide) ?_
  refine rb_istore_n hC [(1, .int 0), (0, .ref (rb_ad w 0))] dX12_twist_1 (by decide) rfl ?_
  refine rb_iconst (x := 0) hC dX12_twist_2 (by decide) ?_
  refine rb_istore_n hC [(2, .int 0), (1, .int 0), (0, .ref (rb_ad w 0))] dX12_twist_3 (by decide) rfl ?_
  obtain ⟨y5, q6, h⟩ := rb_b1s h
  refine rb_sub (lv2 := [(0, .ref (rb_ad w 0)), (1, .int 0), (2, .int 0)]) [2, 1, 0] rfl ?_
  refine xt_M_twist_4 hC  σ rb_FU 0 0 _ q6 ?_
  refine rb_iload_n hC 0 dX12_twist_40 rfl ?_
  cases h
  exact rb_iret hC dX12_twist_41
theorem xc_M_twist  (σ : rb_St) (r : Int32) (h : xf_M_twist σ = some r) : rb_Con rb_vM yX12_twist cX12_twist 3 (some .int) 1 (fun w => [.ref (rb_ad w 0)]) σ (fun _ => (some (.int r))) σ := rb_Con.of (by decide +kernel) (fun _ => Nat.le_of_ble_eq_true rfl) (fun z w hC => xk_M_twist hC  σ r h)
def xl_M_homeMany_4  (σ : rb_St) : Nat → Int32 → Int32 → Option (Int32)
  | 0, _, _ => none
  | n + 1, x1, x2 => if (σ.1 0 22) ≤ x2 then some x1 else if rb_ib (0 + x2) 398 then if (σ.1 17 (0 + x2).toNatClampNeg) = x2 then xl_M_homeMany_4 σ n (x1 + 1) (x2 + 1) else xl_M_homeMany_4 σ n (x1 + 0) (x2 + 1) else none
set_option maxHeartbeats 4000000 in
set_option maxRecDepth 100000 in
theorem xt_M_homeMany_4 {z : rb_Z} {w : rb_Wd} {Q : State → Prop} (hC : rb_Cx z rb_vM w RX12 cX12_homeMany 3 (some .int) 0)  (σ : rb_St) : ∀ (n : Nat) (x1 : Int32) (x2 : Int32) (y1 : Int32), xl_M_homeMany_4 σ n x1 x2 = some y1 → rb_At z rb_vM w 3 Q 38 [(1, .int y1)] [] σ → rb_At z rb_vM w 3 Q 4 [(0, .ref (rb_ad w 0)), (1, .int x1), (2, .int x2)] [] σ := by
  intro n
  induction n with
  | zero =>
    intro x1 x2 y1 h hE0
    cases h
  | succ n ih =>
    intro x1 x2 y1 h hE0
    rw [xl_M_homeMany_4] at h
    refine rb_iload_n hC 2 dX12_homeMany_4 rfl ?_
    refine rb_aload_n hC 0 dX12_homeMany_5 rfl ?_
    refine rb_getI hC fr_X12_283_11 rb_obM0 rfl dX12_homeMany_6 ?_
    refine rb_icmp_ge hC 38 dX12_homeMany_9 (by decide) (fun c1 => ?_) (fun c1 => ?_)
    · replace h := rb_ifp c1 h
      cases h
      exact rb_sub [1] rfl (hE0)
    · replace h := rb_ifn c1 h
      refine rb_iload_n hC 1 dX12_homeMany_12 rfl ?_
      refine rb_aload_n hC 0 dX12_homeMany_13 rfl ?_
      refine rb_getR hC fr_X12_58_11 rb_obM0 rfl dX12_homeMany_14 ?_
      refine rb_iconst (x := 0) hC dX12_homeMany_17 (by decide) ?_
      refine rb_iload_n hC 2 dX12_homeMany_18 rfl ?_
      refine rb_iadd hC dX12_homeMany_19 ?_
      obtain ⟨g2, h⟩ := rb_gd h
      refine rb_iald hC rb_arM17 (rb_ibI g2) dX12_homeMany_20 ?_
      refine rb_iload_n hC 2 dX12_homeMany_21 rfl ?_
      refine rb_icmp_ne hC 29 dX12_homeMany_22 (by decide) (fun c3 => ?_) (fun c3 => ?_)
      · replace h := rb_ifn c3 h
        refine rb_iconst (x := 0) hC dX12_homeMany_29 (by decide) ?_
        refine rb_iadd hC dX12_homeMany_30 ?_
        refine rb_istore_n hC [(1, .int (x1 + 0)), (0, .ref (rb_ad w 0)), (2, .int x2)] dX12_homeMany_31 (by decide) rfl ?_
        refine rb_iinc hC 2 [(2, .int (x2 + 1)), (1, .int (x1 + 0)), (0, .ref (rb_ad w 0))] dX12_homeMany_32 rfl rfl (by decide) rfl ?_
        refine rb_goto hC 4 dX12_homeMany_35 (by decide) ?_
        exact rb_sub [2, 1, 0] rfl (ih (x1 + 0) (x2 + 1) _ h hE0)
      · replace h := rb_ifp c3 h
        refine rb_iconst (x := 1) hC dX12_homeMany_25 (by decide) ?_
        refine rb_goto hC 30 dX12_homeMany_26 (by decide) ?_
        refine rb_iadd hC dX12_homeMany_30 ?_
        refine rb_istore_n hC [(1, .int (x1 + 1)), (0, .ref (rb_ad w 0)), (2, .int x2)] dX12_homeMany_31 (by decide) rfl ?_
        refine rb_iinc hC 2 [(2, .int (x2 + 1)), (1, .int (x1 + 1)), (0, .ref (rb_ad w 0))] dX12_homeMany_32 rfl rfl (by decide) rfl ?_
        refine rb_goto hC 4 dX12_homeMany_35 (by decide) ?_
        exact rb_sub [2, 1, 0] rfl (ih (x1 + 1) (x2 + 1) _ h hE0)
def xf_M_homeMany  (σ : rb_St) : Option Int32 := rb_b1 (xl_M_homeMany_4 σ rb_FU 0 0) fun y4 => some y4
set_option maxHeartbeats 4000000 in
set_option maxRecDepth 100000 in
theorem xk_M_homeMany {z : rb_Z} {w : rb_Wd} (hC : rb_Cx z rb_vM w RX12 cX12_homeMany 3 (some .int) 0)  (σ : rb_St) (r : Int32) (h : xf_M_homeMany σ = some r) : rb_At z rb_vM w 3 (rb_Q z rb_vM w (some (.int r)) σ) 0 [(0, .ref (rb_ad w 0))] [] σ := by
  unfold xf_M_homeMany at h
  refine rb_iconst (x := 0) hC dX12_homeMany_0 (by decide) ?_
  refine rb_istore_n hC [(1, .int 0), (0, .ref (rb_ad w 0))] dX12_homeMany_1 (by decide) rfl ?_
  refine rb_iconst (x := 0) hC dX12_homeMany_2 (by decide) ?_
  refine rb_istore_n hC [(2, .int 0), (1, .int 0), (0, .ref (rb_ad w 0))] dX12_homeMany_3 (by decide) rfl ?_
  obtain ⟨y4, q5, h⟩ := rb_b1s h
  refine rb_sub (lv2 := [(0, .ref (rb_ad w 0)), (1, .int 0), (2, .int 0)]) [2, 1, 0] rfl ?_
  refine xt_M_homeMany_4 hC  σ rb_FU 0 0 _ q5 ?_
  refine rb_iload_n hC 0 dX12_homeMany_38 rfl ?_
  cases h
  exact rb_iret hC dX12_homeMany_39
theorem xc_M_homeMany  (σ : rb_St) (r : Int32) (h : xf_M_homeMany σ = some r) : rb_Con rb_vM yX12_homeMany cX12_homeMany 3 (some .int) 0 (fun w => [.ref (rb_ad w 0)]) σ (fun _ => (some (.int r))) σ := rb_Con.of (by decide +kernel) (fun _ => Nat.le_of_ble_eq_true rfl) (fun z w hC => xk_M_homeMany hC  σ r h)
theorem me_X12_depth : Cond.instanceMethod yX12_depth ∈ rb_tbl ∧ Cond.selects yX12_depth.cls yX12_depth yX12_depth ∈ rb_tbl ∧ Cond.initialized yX12_depth.cls ∈ rb_tbl ∧ Cond.code yX12_depth cX12_depth 3 (some .int) ∈ rb_tbl ∧ rb_pn yX12_depth 0 := ⟨rb_in (by decide +kernel) (by decide +kernel), rb_in (by decide +kernel) (by decide +kernel), rb_in (by decide +kernel) (by decide +kernel), rb_in (by decide +kernel) (by decide +kernel), by decide +kernel, by decide +kernel, by decide +kernel⟩
theorem mv_X12_514 : rb_MV RX12 514 yX12_depth cX12_depth 3 (some .int) 0 := ⟨rb_in (by decide +kernel) (by decide +kernel), me_X12_depth⟩
theorem me_X12_orderRow : Cond.instanceMethod yX12_orderRow ∈ rb_tbl ∧ Cond.selects yX12_orderRow.cls yX12_orderRow yX12_orderRow ∈ rb_tbl ∧ Cond.initialized yX12_orderRow.cls ∈ rb_tbl ∧ Cond.code yX12_orderRow cX12_orderRow 3 (some .int) ∈ rb_tbl ∧ rb_pn yX12_orderRow 0 := ⟨rb_in (by decide +kernel) (by decide +kernel), rb_in (by decide +kernel) (by decide +kernel), rb_in (by decide +kernel) (by decide +kernel), rb_in (by decide +kernel) (by decide +kernel), by decide +kernel, by decide +kernel, by decide +kernel⟩
theorem mv_X12_517 : rb_MV RX12 517 yX12_orderRow cX12_orderRow 3 (some .int) 0 := ⟨rb_in (by decide +kernel) (by decide +kernel), me_X12_orderRow⟩
theorem me_X12_freeOnes : Cond.instanceMethod yX12_freeOnes ∈ rb_tbl ∧ Cond.selects yX12_freeOnes.cls yX12_freeOnes yX12_freeOnes ∈ rb_tbl ∧ Cond.initialized yX12_freeOnes.cls ∈ rb_tbl ∧ Cond.code yX12_freeOnes cX12_freeOnes 3 (some .int) ∈ rb_tbl ∧ rb_pn yX12_freeOnes 0 := ⟨rb_in (by decide +kernel) (by decide +kernel), rb_in (by decide +kernel) (by decide +kernel), rb_in (by decide +kernel) (by decide +kernel), rb_in (by decide +kernel) (by decide +kernel), by decide +kernel, by decide +kernel, by decide +kernel⟩
theorem mv_X12_520 : rb_MV RX12 520 yX12_freeOnes cX12_freeOnes 3 (some .int) 0 := ⟨rb_in (by decide +kernel) (by decide +kernel), me_X12_freeOnes⟩
theorem me_X12_changes : Cond.instanceMethod yX12_changes ∈ rb_tbl ∧ Cond.selects yX12_changes.cls yX12_changes yX12_changes ∈ rb_tbl ∧ Cond.initialized yX12_changes.cls ∈ rb_tbl ∧ Cond.code yX12_changes cX12_changes 3 (some .int) ∈ rb_tbl ∧ rb_pn yX12_changes 0 := ⟨rb_in (by decide +kernel) (by decide +kernel), rb_in (by decide +kernel) (by decide +kernel), rb_in (by decide +kernel) (by decide +kernel), rb_in (by decide +kernel) (by decide +kernel), by decide +kernel, by decide +kernel, by decide +kernel⟩
theorem mv_X12_523 : rb_MV RX12 523 yX12_changes cX12_changes 3 (some .int) 0 := ⟨rb_in (by decide +kernel) (by decide +kernel), me_X12_changes⟩
theorem me_X12_twist : Cond.instanceMethod yX12_twist ∈ rb_tbl ∧ Cond.selects yX12_twist.cls yX12_twist yX12_twist ∈ rb_tbl ∧ Cond.initialized yX12_twist.cls ∈ rb_tbl ∧ Cond.code yX12_twist cX12_twist 3 (some .int) ∈ rb_tbl ∧ rb_pn yX12_twist 0 := ⟨rb_in (by decide +kernel) (by decide +kernel), rb_in (by decide +kernel) (by decide +kernel), rb_in (by decide +kernel) (by decide +kernel), rb_in (by decide +kernel) (by decide +kernel), by decide +kernel, by decide +kernel, by decide +kernel⟩
theorem mv_X12_526 : rb_MV RX12 526 yX12_twist cX12_twist 3 (some .int) 0 := ⟨rb_in (by decide +kernel) (by decide +kernel), me_X12_twist⟩
theorem me_X12_homeMany : Cond.instanceMethod yX12_homeMany ∈ rb_tbl ∧ Cond.selects yX12_homeMany.cls yX12_homeMany yX12_homeMany ∈ rb_tbl ∧ Cond.initialized yX12_homeMany.cls ∈ rb_tbl ∧ Cond.code yX12_homeMany cX12_homeMany 3 (some .int) ∈ rb_tbl ∧ rb_pn yX12_homeMany 0 := ⟨rb_in (by decide +kernel) (by decide +kernel), rb_in (by decide +kernel) (by decide +kernel), rb_in (by decide +kernel) (by decide +kernel), rb_in (by decide +kernel) (by decide +kernel), by decide +kernel, by decide +kernel, by decide +kernel⟩
theorem mv_X12_529 : rb_MV RX12 529 yX12_homeMany cX12_homeMany 3 (some .int) 0 := ⟨rb_in (by decide +kernel) (by decide +kernel), me_X12_homeMany⟩
theorem me_X12_topBy : Cond.instanceMethod yX12_topBy ∈ rb_tbl ∧ Cond.selects yX12_topBy.cls yX12_topBy yX12_topBy ∈ rb_tbl ∧ Cond.initialized yX12_topBy.cls ∈ rb_tbl ∧ Cond.code yX12_topBy cX12_topBy 4 (some .int) ∈ rb_tbl ∧ rb_pn yX12_topBy 1 := ⟨rb_in (by decide +kernel) (by decide +kernel), rb_in (by decide +kernel) (by decide +kernel), rb_in (by decide +kernel) (by decide +kernel), rb_in (by decide +kernel) (by decide +kernel), by decide +kernel, by decide +kernel, by decide +kernel⟩
theorem mv_X12_532 : rb_MV RX12 532 yX12_topBy cX12_topBy 4 (some .int) 1 := ⟨rb_in (by decide +kernel) (by decide +kernel), me_X12_topBy⟩
def xf_M_most (p0 : Int32) (σ : rb_St) : Option (Int32 × rb_St) := if (σ.1 0 22) = 0 then some ((-1000000), σ) else if (xf_M_in p0 0 12 σ) = 0 then some ((-1000000), σ) else if p0 = 4 then rb_b1 (xf_M_depth σ) fun r3 => some (r3, σ) else if p0 = 5 then rb_b1 (xf_M_orderRow σ) fun r5 => some (r5, σ) else if p0 = 6 then rb_b1 (xf_M_edges 1 σ) fun r7 => some (r7, σ) else if p0 = 7 then rb_b1 (xf_M_edges 0 σ) fun r9 => some (r9, σ) else if p0 = 8 then rb_b1 (xf_M_freeOnes σ) fun r11 => some (r11, σ) else if p0 = 9 then rb_b2 (xf_M_changes σ) fun r15 s13 => some (r15, s13) else if p0 = 10 then rb_b1 (xf_M_twist σ) fun r16 => some (r16, σ) else if p0 = 11 then rb_b1 (xf_M_takenAll σ) fun r18 => some (r18, σ) else if p0 = 12 then rb_b1 (xf_M_homeMany σ) fun r20 => some (r20, σ) else rb_b1 (xf_M_topBy p0 σ) fun r22 => some (r22, σ)
set_option maxHeartbeats 4000000 in
set_option maxRecDepth 100000 in
theorem xk_M_most {z : rb_Z} {w : rb_Wd} (hC : rb_Cx z rb_vM w RX12 cX12_most 2 (some .int) 5) (p0 : Int32) (σ : rb_St) (r : Int32) (σ9 : rb_St) (h : xf_M_most p0 σ = some (r, σ9)) : rb_At z rb_vM w 2 (rb_Q z rb_vM w (some (.int r)) σ9) 0 [(0, .ref (rb_ad w 0)), (1, .int p0)] [] σ := by
  unfold xf_M_most at h
  refine rb_aload_n hC 0 dX12_most_0 rfl ?_
  refine rb_getI hC fr_X12_283_11 rb_obM0 rfl dX12_most_1 ?_
  refine rb_if_eq hC 17 dX12_most_4 (by decide) (fun c1 => ?_) (fun c1 => ?_)
  · replace h := rb_ifp c1 h
    refine rb_ldc_w hC kc_X12_433 dX12_most_17 ?_
    cases h
    exact rb_iret hC dX12_most_20
  · replace h := rb_ifn c1 h
    refine rb_iload_n hC 1 dX12_most_7 rfl ?_
    refine rb_iconst (x := 0) hC dX12_most_8 (by decide) ?_
    refine rb_bipush (x := 12) hC dX12_most_9 (by decide) ?_
    refine rb_callSi hC rb_VokM mv_X12_229 (xc_M_in p0 0 12 σ _ rfl) [.int p0, .int 0, .int 12] rfl rfl rfl ⟨Nat.le_of_ble_eq_true rfl, Nat.le_of_ble_eq_true rfl⟩ (Nat.le_of_ble_eq_true rfl) dX12_most_11 ?_
    refine rb_if_ne hC 21 dX12_most_14 (by decide) (fun c2 => ?_) (fun c2 => ?_)
    · replace h := rb_ifn c2 h
      refine rb_iload_n hC 1 dX12_most_21 rfl ?_
      by_cases c22_0 : p0 = 4
      · replace h := rb_ifp c22_0 h
        refine rb_tableIn hC 72 dX12_most_22 (by rw [c22_0]; decide) (by rw [c22_0]; decide) (by rw [c22_0]; rfl) (by decide) ?_
        refine rb_aload_n hC 0 dX12_most_72 rfl ?_
        obtain ⟨r3, q4, h⟩ := rb_b1s h
        refine rb_callVi hC rb_VokM mv_X12_514 (xc_M_depth  σ _ q4) rb_obM0 rfl [] rfl rfl rfl ⟨Nat.le_of_ble_eq_true rfl, Nat.le_of_ble_eq_true rfl⟩ (Nat.le_of_ble_eq_true rfl) dX12_most_73 ?_
        cases h
        exact rb_iret hC dX12_most_76
      · replace h := rb_ifn c22_0 h
        by_cases c22_1 : p0 = 5
        · replace h := rb_ifp c22_1 h
          refine rb_tableIn hC 77 dX12_most_22 (by rw [c22_1]; decide) (by rw [c22_1]; decide) (by rw [c22_1]; rfl) (by decide) ?_
          refine rb_aload_n hC 0 dX12_most_77 rfl ?_
          obtain ⟨r5, q6, h⟩ := rb_b1s h
          refine rb_callVi hC rb_VokM mv_X12_517 (xc_M_orderRow  σ _ q6) rb_obM0 rfl [] rfl rfl rfl ⟨Nat.le_of_ble_eq_true rfl, Nat.le_of_ble_eq_true rfl⟩ (Nat.le_of_ble_eq_true rfl) dX12_most_78 ?_
          cases h
          exact rb_iret hC dX12_most_81
        · replace h := rb_ifn c22_1 h
          by_cases c22_2 : p0 = 6
          · replace h := rb_ifp c22_2 h
            refine rb_tableIn hC 82 dX12_most_22 (by rw [c22_2]; decide) (by rw [c22_2]; decide) (by rw [c22_2]; rfl) (by decide) ?_
            refine rb_aload_n hC 0 dX12_most_82 rfl ?_
            refine rb_iconst (x := 1) hC dX12_most_83 (by decide) ?_
            obtain ⟨r7, q8, h⟩ := rb_b1s h
            refine rb_callVi hC rb_VokM mv_X12_355 (xc_M_edges 1 σ _ q8) rb_obM0 rfl [.int 1] rfl rfl rfl ⟨Nat.le_of_ble_eq_true rfl, Nat.le_of_ble_eq_true rfl⟩ (Nat.le_of_ble_eq_true rfl) dX12_most_84 ?_
            cases h
            exact rb_iret hC dX12_most_87
          · replace h := rb_ifn c22_2 h
            by_cases c22_3 : p0 = 7
            · replace h := rb_ifp c22_3 h
              refine rb_tableIn hC 88 dX12_most_22 (by rw [c22_3]; decide) (by rw [c22_3]; decide) (by rw [c22_3]; rfl) (by decide) ?_
              refine rb_aload_n hC 0 dX12_most_88 rfl ?_
              refine rb_iconst (x := 0) hC dX12_most_89 (by decide) ?_
              obtain ⟨r9, q10, h⟩ := rb_b1s h
              refine rb_callVi hC rb_VokM mv_X12_355 (xc_M_edges 0 σ _ q10) rb_obM0 rfl [.int 0] rfl rfl rfl ⟨Nat.le_of_ble_eq_true rfl, Nat.le_of_ble_eq_true rfl⟩ (Nat.le_of_ble_eq_true rfl) dX12_most_90 ?_
              cases h
              exact rb_iret hC dX12_most_93
            · replace h := rb_ifn c22_3 h
              by_cases c22_4 : p0 = 8
              · replace h := rb_ifp c22_4 h
                refine rb_tableIn hC 94 dX12_most_22 (by rw [c22_4]; decide) (by rw [c22_4]; decide) (by rw [c22_4]; rfl) (by decide) ?_
                refine rb_aload_n hC 0 dX12_most_94 rfl ?_
                obtain ⟨r11, q12, h⟩ := rb_b1s h
                refine rb_callVi hC rb_VokM mv_X12_520 (xc_M_freeOnes  σ _ q12) rb_obM0 rfl [] rfl rfl rfl ⟨Nat.le_of_ble_eq_true rfl, Nat.le_of_ble_eq_true rfl⟩ (Nat.le_of_ble_eq_true rfl) dX12_most_95 ?_
                cases h
                exact rb_iret hC dX12_most_98
              · replace h := rb_ifn c22_4 h
                by_cases c22_5 : p0 = 9
                · replace h := rb_ifp c22_5 h
                  refine rb_tableIn hC 99 dX12_most_22 (by rw [c22_5]; decide) (by rw [c22_5]; decide) (by rw [c22_5]; rfl) (by decide) ?_
                  refine rb_aload_n hC 0 dX12_most_99 rfl ?_
                  obtain ⟨r15, s13, q14, h⟩ := rb_b2s h
                  refine rb_callVi hC rb_VokM mv_X12_523 (xc_M_changes  σ _ _ q14) rb_obM0 rfl [] rfl rfl rfl ⟨Nat.le_of_ble_eq_true rfl, Nat.le_of_ble_eq_true rfl⟩ (Nat.le_of_ble_eq_true rfl) dX12_most_100 ?_
                  cases h
                  exact rb_iret hC dX12_most_103
                · replace h := rb_ifn c22_5 h
                  by_cases c22_6 : p0 = 10
                  · replace h := rb_ifp c22_6 h
                    refine rb_tableIn hC 104 dX12_most_22 (by rw [c22_6]; decide) (by rw [c22_6]; decide) (by rw [c22_6]; rfl) (by decide) ?_
                    refine rb_aload_n hC 0 dX12_most_104 rfl ?_
                    obtain ⟨r16, q17, h⟩ := rb_b1s h
                    refine rb_callVi hC rb_VokM mv_X12_526 (xc_M_twist  σ _ q17) rb_obM0 rfl [] rfl rfl rfl ⟨Nat.le_of_ble_eq_true rfl, Nat.le_of_ble_eq_true rfl⟩ (Nat.le_of_ble_eq_true rfl) dX12_most_105 ?_
                    cases h
                    exact rb_iret hC dX12_most_108
                  · replace h := rb_ifn c22_6 h
                    by_cases c22_7 : p0 = 11
                    · replace h := rb_ifp c22_7 h
                      refine rb_tableIn hC 109 dX12_most_22 (by rw [c22_7]; decide) (by rw [c22_7]; decide) (by rw [c22_7]; rfl) (by decide) ?_
                      refine rb_aload_n hC 0 dX12_most_109 rfl ?_
                      obtain ⟨r18, q19, h⟩ := rb_b1s h
                      refine rb_callVi hC rb_VokM mv_X12_508 (xc_M_takenAll  σ _ q19) rb_obM0 rfl [] rfl rfl rfl ⟨Nat.le_of_ble_eq_true rfl, Nat.le_of_ble_eq_true rfl⟩ (Nat.le_of_ble_eq_true rfl) dX12_most_110 ?_
                      cases h
                      exact rb_iret hC dX12_most_113
                    · replace h := rb_ifn c22_7 h
                      by_cases c22_8 : p0 = 12
                      · replace h := rb_ifp c22_8 h
                        refine rb_tableIn hC 114 dX12_most_22 (by rw [c22_8]; decide) (by rw [c22_8]; decide) (by rw [c22_8]; rfl) (by decide) ?_
                        refine rb_aload_n hC 0 dX12_most_114 rfl ?_
                        obtain ⟨r20, q21, h⟩ := rb_b1s h
                        refine rb_callVi hC rb_VokM mv_X12_529 (xc_M_homeMany  σ _ q21) rb_obM0 rfl [] rfl rfl rfl ⟨Nat.le_of_ble_eq_true rfl, Nat.le_of_ble_eq_true rfl⟩ (Nat.le_of_ble_eq_true rfl) dX12_most_115 ?_
                        cases h
                        exact rb_iret hC dX12_most_118
                      · replace h := rb_ifn c22_8 h
                        have hO : p0.toInt < 4 ∨ 12 < p0.toInt := by
                          have n0 : p0.toInt ≠ 4 := fun q3 => c22_0 (Int32.toInt_inj.mp (q3.trans (by decide)))
                          have n1 : p0.toInt ≠ 5 := fun q3 => c22_1 (Int32.toInt_inj.mp (q3.trans (by decide)))
                          have n2 : p0.toInt ≠ 6 := fun q3 => c22_2 (Int32.toInt_inj.mp (q3.trans (by decide)))
                          have n3 : p0.toInt ≠ 7 := fun q3 => c22_3 (Int32.toInt_inj.mp (q3.trans (by decide)))
                          have n4 : p0.toInt ≠ 8 := fun q3 => c22_4 (Int32.toInt_inj.mp (q3.trans (by decide)))
                          have n5 : p0.toInt ≠ 9 := fun q3 => c22_5 (Int32.toInt_inj.mp (q3.trans (by decide)))
                          have n6 : p0.toInt ≠ 10 := fun q3 => c22_6 (Int32.toInt_inj.mp (q3.trans (by decide)))
                          have n7 : p0.toInt ≠ 11 := fun q3 => c22_7 (Int32.toInt_inj.mp (q3.trans (by decide)))
                          have n8 : p0.toInt ≠ 12 := fun q3 => c22_8 (Int32.toInt_inj.mp (q3.trans (by decide)))
                          omega
                        refine rb_tableOut hC 119 dX12_most_22 hO (by decide) ?_
                        refine rb_aload_n hC 0 dX12_most_119 rfl ?_
                        refine rb_iload_n hC 1 dX12_most_120 rfl ?_
                        obtain ⟨r22, q23, h⟩ := rb_b1s h
                        refine rb_callVi hC rb_VokM mv_X12_532 (xc_M_topBy p0 σ _ q23) rb_obM0 rfl [.int p0] rfl rfl rfl ⟨Nat.le_of_ble_eq_true rfl, Nat.le_of_ble_eq_true rfl⟩ (Nat.le_of_ble_eq_true rfl) dX12_most_121 ?_
                        cases h
                        exact rb_iret hC dX12_most_124
    · replace h := rb_ifp c2 h
      refine rb_ldc_w hC kc_X12_433 dX12_most_17 ?_
      cases h
      exact rb_iret hC dX12_most_20
theorem xc_M_most (p0 : Int32) (σ : rb_St) (r : Int32) (σ9 : rb_St) (h : xf_M_most p0 σ = some (r, σ9)) : rb_Con rb_vM yX12_most cX12_most 2 (some .int) 5 (fun w => [.ref (rb_ad w 0), .int p0]) σ (fun _ => (some (.int r))) σ9 := rb_Con.of (by decide +kernel) (fun _ => Nat.le_of_ble_eq_true rfl) (fun z w hC => xk_M_most hC p0 σ r σ9 h)
theorem fr_X12_111_11 : rb_FR RX12 111 11 48 := ⟨RX12, TX12, 50, "RibbonPoleModel", rfl, rb_uX12, by decide, rb_in (by decide +kernel) (by decide +kernel), Or.inl rfl⟩
theorem fr_X12_295_11 : rb_FR RX12 295 11 49 := ⟨RX12, TX12, 50, "RibbonPoleModel", rfl, rb_uX12, by decide, rb_in (by decide +kernel) (by decide +kernel), Or.inl rfl⟩
theorem ft_11_49 : rb_Ty 11 49 .boolean := ⟨RX12, TX12, 50, tyX12, rfl, tyX12_ok, nmX12, rfl, by decide +kernel⟩
def xl_M_image_11  : Nat → Int32 → rb_St → Option (rb_St)
  | 0, _, _ => none
  | n + 1, x1, σ => if 398 ≤ x1 then some σ else if rb_ib x1 398 then rb_lt (rb_sI σ 33 x1.toNatClampNeg (σ.1 17 x1.toNatClampNeg)) (fun s4 => xl_M_image_11 n (x1 + 1) s4) else none
set_option maxHeartbeats 4000000 in
set_option maxRecDepth 100000 in
theorem xt_M_image_11 {z : rb_Z} {w : rb_Wd} {Q : State → Prop} (hC : rb_Cx z rb_vM w RX12 cX12_image 2 (some .int) 0)  : ∀ (n : Nat) (x1 : Int32) (σ : rb_St) (σ9 : rb_St), xl_M_image_11 n x1 σ = some σ9 → rb_At z rb_vM w 2 Q 36 [(0, .ref (rb_ad w 0))] [] σ9 → rb_At z rb_vM w 2 Q 11 [(0, .ref (rb_ad w 0)), (1, .int x1)] [] σ := by
  intro n
  induction n with
  | zero =>
    intro x1 σ σ9 h hE0
    cases h
  | succ n ih =>
    intro x1 σ σ9 h hE0
    rw [xl_M_image_11] at h
    refine rb_iload_n hC 1 dX12_image_11 rfl ?_
    refine rb_sipush (x := 398) hC dX12_image_12 (by decide) ?_
    refine rb_icmp_ge hC 36 dX12_image_15 (by decide) (fun c2 => ?_) (fun c2 => ?_)
    · replace h := rb_ifp c2 h
      cases h
      exact rb_sub [0] rfl (hE0)
    · replace h := rb_ifn c2 h
      refine rb_aload_n hC 0 dX12_image_18 rfl ?_
      refine rb_getR hC fr_X12_111_11 rb_obM0 rfl dX12_image_19 ?_
      refine rb_iload_n hC 1 dX12_image_22 rfl ?_
      refine rb_aload_n hC 0 dX12_image_23 rfl ?_
      refine rb_getR hC fr_X12_58_11 rb_obM0 rfl dX12_image_24 ?_
      refine rb_iload_n hC 1 dX12_image_27 rfl ?_
      obtain ⟨g3, h⟩ := rb_gd h
      refine rb_iald hC rb_arM17 (rb_ibI g3) dX12_image_28 ?_
      refine rb_iast hC rb_arM33 (rb_ibI g3) dX12_image_29 ?_
      obtain ⟨s4, e5, h⟩ := rb_ltE h
      refine rb_nmS e5 ?_
      refine rb_iinc hC 1 [(1, .int (x1 + 1)), (0, .ref (rb_ad w 0))] dX12_image_30 rfl rfl (by decide) rfl ?_
      refine rb_goto hC 11 dX12_image_33 (by decide) ?_
      exact rb_sub [1, 0] rfl (ih (x1 + 1) s4 _ h hE0)
def xf_M_image  (σ : rb_St) : Option (Int32 × rb_St) := if (σ.1 0 22) = 0 then some ((-1), σ) else rb_b1 (xl_M_image_11 rb_FU 0 σ) fun s6 => rb_lt (rb_sI s6 0 49 1) (fun s8 => some (s8.1 17 216, s8))
set_option maxHeartbeats 4000000 in
set_option maxRecDepth 100000 in
theorem xk_M_image {z : rb_Z} {w : rb_Wd} (hC : rb_Cx z rb_vM w RX12 cX12_image 2 (some .int) 0)  (σ : rb_St) (r : Int32) (σ9 : rb_St) (h : xf_M_image σ = some (r, σ9)) : rb_At z rb_vM w 2 (rb_Q z rb_vM w (some (.int r)) σ9) 0 [(0, .ref (rb_ad w 0))] [] σ := by
  unfold xf_M_image at h
  refine rb_aload_n hC 0 dX12_image_0 rfl ?_
  refine rb_getI hC fr_X12_283_11 rb_obM0 rfl dX12_image_1 ?_
  refine rb_if_ne hC 9 dX12_image_4 (by decide) (fun c1 => ?_) (fun c1 => ?_)
  · replace h := rb_ifn c1 h
    refine rb_iconst (x := 0) hC dX12_image_9 (by decide) ?_
    refine rb_istore_n hC [(1, .int 0), (0, .ref (rb_ad w 0))] dX12_image_10 (by decide) rfl ?_
    obtain ⟨s6, q7, h⟩ := rb_b1s h
    refine rb_sub (lv2 := [(0, .ref (rb_ad w 0)), (1, .int 0)]) [1, 0] rfl ?_
    refine xt_M_image_11 hC  rb_FU 0 σ _ q7 ?_
    refine rb_aload_n hC 0 dX12_image_36 rfl ?_
    refine rb_iconst (x := 1) hC dX12_image_37 (by decide) ?_
    refine rb_putI hC fr_X12_295_11 ft_11_49 rb_obM0 rfl rfl rfl dX12_image_38 ?_
    obtain ⟨s8, e9, h⟩ := rb_ltE h
    refine rb_nmS e9 ?_
    refine rb_aload_n hC 0 dX12_image_41 rfl ?_
    refine rb_getR hC fr_X12_58_11 rb_obM0 rfl dX12_image_42 ?_
    refine rb_sipush (x := 216) hC dX12_image_45 (by decide) ?_
    refine rb_iald hC rb_arM17 (rb_ibI (by decide)) dX12_image_48 ?_
    cases h
    exact rb_iret hC dX12_image_49
  · replace h := rb_ifp c1 h
    refine rb_iconst (x := (-1)) hC dX12_image_7 (by decide) ?_
    cases h
    exact rb_iret hC dX12_image_8
theorem xc_M_image  (σ : rb_St) (r : Int32) (σ9 : rb_St) (h : xf_M_image σ = some (r, σ9)) : rb_Con rb_vM yX12_image cX12_image 2 (some .int) 0 (fun w => [.ref (rb_ad w 0)]) σ (fun _ => (some (.int r))) σ9 := rb_Con.of (by decide +kernel) (fun _ => Nat.le_of_ble_eq_true rfl) (fun z w hC => xk_M_image hC  σ r σ9 h)
def xl_M_back_11  : Nat → Int32 → rb_St → Option (rb_St)
  | 0, _, _ => none
  | n + 1, x1, σ => if 398 ≤ x1 then some σ else if rb_ib x1 398 then rb_lt (rb_sI σ 17 x1.toNatClampNeg (σ.1 33 x1.toNatClampNeg)) (fun s4 => xl_M_back_11 n (x1 + 1) s4) else none
set_option maxHeartbeats 4000000 in
set_option maxRecDepth 100000 in
theorem xt_M_back_11 {z : rb_Z} {w : rb_Wd} {Q : State → Prop} (hC : rb_Cx z rb_vM w RX12 cX12_back 2 (some .int) 0)  : ∀ (n : Nat) (x1 : Int32) (σ : rb_St) (σ9 : rb_St), xl_M_back_11 n x1 σ = some σ9 → rb_At z rb_vM w 2 Q 36 [(0, .ref (rb_ad w 0))] [] σ9 → rb_At z rb_vM w 2 Q 11 [(0, .ref (rb_ad w 0)), (1, .int x1)] [] σ := by
  intro n
  induction n with
  | zero =>
    intro x1 σ σ9 h hE0
    cases h
  | succ n ih =>
    intro x1 σ σ9 h hE0
    rw [xl_M_back_11] at h
    refine rb_iload_n hC 1 dX12_back_11 rfl ?_
    refine rb_sipush (x := 398) hC dX12_back_12 (by decide) ?_
    refine rb_icmp_ge hC 36 dX12_back_15 (by decide) (fun c2 => ?_) (fun c2 => ?_)
    · replace h := rb_ifp c2 h
      cases h
      exact rb_sub [0] rfl (hE0)
    · replace h := rb_ifn c2 h
      refine rb_aload_n hC 0 dX12_back_18 rfl ?_
      refine rb_getR hC fr_X12_58_11 rb_obM0 rfl dX12_back_19 ?_
      refine rb_iload_n hC 1 dX12_back_22 rfl ?_
      refine rb_aload_n hC 0 dX12_back_23 rfl ?_
      refine rb_getR hC fr_X12_111_11 rb_obM0 rfl dX12_back_24 ?_
      refine rb_iload_n hC 1 dX12_back_27 rfl ?_
      obtain ⟨g3, h⟩ := rb_gd h
      refine rb_iald hC rb_arM33 (rb_ibI g3) dX12_back_28 ?_
      refine rb_iast hC rb_arM17 (rb_ibI g3) dX12_back_29 ?_
      obtain ⟨s4, e5, h⟩ := rb_ltE h
      refine rb_nmS e5 ?_
      refine rb_iinc hC 1 [(1, .int (x1 + 1)), (0, .ref (rb_ad w 0))] dX12_back_30 rfl rfl (by decide) rfl ?_
      refine rb_goto hC 11 dX12_back_33 (by decide) ?_
      exact rb_sub [1, 0] rfl (ih (x1 + 1) s4 _ h hE0)
def xf_M_back  (σ : rb_St) : Option (Int32 × rb_St) := if (σ.1 0 49) = 0 then some ((-1), σ) else rb_b1 (xl_M_back_11 rb_FU 0 σ) fun s6 => rb_lt (rb_sI s6 0 35 0) (fun s8 => some (s8.1 17 216, s8))
set_option maxHeartbeats 4000000 in
set_option maxRecDepth 100000 in
theorem xk_M_back {z : rb_Z} {w : rb_Wd} (hC : rb_Cx z rb_vM w RX12 cX12_back 2 (some .int) 0)  (σ : rb_St) (r : Int32) (σ9 : rb_St) (h : xf_M_back σ = some (r, σ9)) : rb_At z rb_vM w 2 (rb_Q z rb_vM w (some (.int r)) σ9) 0 [(0, .ref (rb_ad w 0))] [] σ := by
  unfold xf_M_back at h
  refine rb_aload_n hC 0 dX12_back_0 rfl ?_
  refine rb_getI hC fr_X12_295_11 rb_obM0 rfl dX12_back_1 ?_
  refine rb_if_ne hC 9 dX12_back_4 (by decide) (fun c1 => ?_) (fun c1 => ?_)
  · replace h := rb_ifn c1 h
    refine rb_iconst (x := 0) hC dX12_back_9 (by decide) ?_
    refine rb_istore_n hC [(1, .int 0), (0, .ref (rb_ad w 0))] dX12_back_10 (by decide) rfl ?_
    obtain ⟨s6, q7, h⟩ := rb_b1s h
    refine rb_sub (lv2 := [(0, .ref (rb_ad w 0)), (1, .int 0)]) [1, 0] rfl ?_
    refine xt_M_back_11 hC  rb_FU 0 σ _ q7 ?_
    refine rb_aload_n hC 0 dX12_back_36 rfl ?_
    refine rb_iconst (x := 0) hC dX12_back_37 (by decide) ?_
    refine rb_putI hC fr_X12_292_11 ft_11_35 rb_obM0 rfl rfl rfl dX12_back_38 ?_
    obtain ⟨s8, e9, h⟩ := rb_ltE h
    refine rb_nmS e9 ?_
    refine rb_aload_n hC 0 dX12_back_41 rfl ?_
    refine rb_getR hC fr_X12_58_11 rb_obM0 rfl dX12_back_42 ?_
    refine rb_sipush (x := 216) hC dX12_back_45 (by decide) ?_
    refine rb_iald hC rb_arM17 (rb_ibI (by decide)) dX12_back_48 ?_
    cases h
    exact rb_iret hC dX12_back_49
  · replace h := rb_ifp c1 h
    refine rb_iconst (x := (-1)) hC dX12_back_7 (by decide) ?_
    cases h
    exact rb_iret hC dX12_back_8
theorem xc_M_back  (σ : rb_St) (r : Int32) (σ9 : rb_St) (h : xf_M_back σ = some (r, σ9)) : rb_Con rb_vM yX12_back cX12_back 2 (some .int) 0 (fun w => [.ref (rb_ad w 0)]) σ (fun _ => (some (.int r))) σ9 := rb_Con.of (by decide +kernel) (fun _ => Nat.le_of_ble_eq_true rfl) (fun z w hC => xk_M_back hC  σ r σ9 h)
def xf_M_count (p0 : Int32) (σ : rb_St) : Int32 := if p0 = 0 then σ.1 0 22 else if p0 = 1 then σ.1 17 14 else if p0 = 2 then σ.1 0 13 else if p0 = 3 then σ.1 0 25 else if p0 = 4 then σ.1 0 2 else if p0 = 5 then σ.1 0 29 else if p0 = 6 then σ.1 17 216 else if p0 = 7 then σ.1 0 47 else if p0 = 8 then σ.1 17 217 else if p0 = 9 then σ.1 0 35 else (-1000000)
set_option maxHeartbeats 4000000 in
set_option maxRecDepth 100000 in
theorem xk_M_count {z : rb_Z} {w : rb_Wd} (hC : rb_Cx z rb_vM w RX12 cX12_count 2 (some .int) 0) (p0 : Int32) (σ : rb_St) (r : Int32) (h : xf_M_count p0 σ = r) : rb_At z rb_vM w 2 (rb_Q z rb_vM w (some (.int r)) σ) 0 [(0, .ref (rb_ad w 0)), (1, .int p0)] [] σ := by
  unfold xf_M_count at h
  refine rb_iload_n hC 1 dX12_count_0 rfl ?_
  by_cases c1_0 : p0 = 0
  · replace h := rb_ifp c1_0 h
    refine rb_tableIn hC 56 dX12_count_1 (by rw [c1_0]; decide) (by rw [c1_0]; decide) (by rw [c1_0]; rfl) (by decide) ?_
    refine rb_aload_n hC 0 dX12_count_56 rfl ?_
    refine rb_getI hC fr_X12_283_11 rb_obM0 rfl dX12_count_57 ?_
    subst h
    exact rb_iret hC dX12_count_60
  · replace h := rb_ifn c1_0 h
    by_cases c1_1 : p0 = 1
    · replace h := rb_ifp c1_1 h
      refine rb_tableIn hC 61 dX12_count_1 (by rw [c1_1]; decide) (by rw [c1_1]; decide) (by rw [c1_1]; rfl) (by decide) ?_
      refine rb_aload_n hC 0 dX12_count_61 rfl ?_
      refine rb_getR hC fr_X12_58_11 rb_obM0 rfl dX12_count_62 ?_
      refine rb_bipush (x := 14) hC dX12_count_65 (by decide) ?_
      refine rb_iald hC rb_arM17 (rb_ibI (by decide)) dX12_count_67 ?_
      subst h
      exact rb_iret hC dX12_count_68
    · replace h := rb_ifn c1_1 h
      by_cases c1_2 : p0 = 2
      · replace h := rb_ifp c1_2 h
        refine rb_tableIn hC 69 dX12_count_1 (by rw [c1_2]; decide) (by rw [c1_2]; decide) (by rw [c1_2]; rfl) (by decide) ?_
        refine rb_aload_n hC 0 dX12_count_69 rfl ?_
        refine rb_getI hC fr_X12_302_11 rb_obM0 rfl dX12_count_70 ?_
        subst h
        exact rb_iret hC dX12_count_73
      · replace h := rb_ifn c1_2 h
        by_cases c1_3 : p0 = 3
        · replace h := rb_ifp c1_3 h
          refine rb_tableIn hC 74 dX12_count_1 (by rw [c1_3]; decide) (by rw [c1_3]; decide) (by rw [c1_3]; rfl) (by decide) ?_
          refine rb_aload_n hC 0 dX12_count_74 rfl ?_
          refine rb_getI hC fr_X12_305_11 rb_obM0 rfl dX12_count_75 ?_
          subst h
          exact rb_iret hC dX12_count_78
        · replace h := rb_ifn c1_3 h
          by_cases c1_4 : p0 = 4
          · replace h := rb_ifp c1_4 h
            refine rb_tableIn hC 79 dX12_count_1 (by rw [c1_4]; decide) (by rw [c1_4]; decide) (by rw [c1_4]; rfl) (by decide) ?_
            refine rb_aload_n hC 0 dX12_count_79 rfl ?_
            refine rb_getI hC fr_X12_121_11 rb_obM0 rfl dX12_count_80 ?_
            subst h
            exact rb_iret hC dX12_count_83
          · replace h := rb_ifn c1_4 h
            by_cases c1_5 : p0 = 5
            · replace h := rb_ifp c1_5 h
              refine rb_tableIn hC 84 dX12_count_1 (by rw [c1_5]; decide) (by rw [c1_5]; decide) (by rw [c1_5]; rfl) (by decide) ?_
              refine rb_aload_n hC 0 dX12_count_84 rfl ?_
              refine rb_getI hC fr_X12_64_11 rb_obM0 rfl dX12_count_85 ?_
              subst h
              exact rb_iret hC dX12_count_88
            · replace h := rb_ifn c1_5 h
              by_cases c1_6 : p0 = 6
              · replace h := rb_ifp c1_6 h
                refine rb_tableIn hC 89 dX12_count_1 (by rw [c1_6]; decide) (by rw [c1_6]; decide) (by rw [c1_6]; rfl) (by decide) ?_
                refine rb_aload_n hC 0 dX12_count_89 rfl ?_
                refine rb_getR hC fr_X12_58_11 rb_obM0 rfl dX12_count_90 ?_
                refine rb_sipush (x := 216) hC dX12_count_93 (by decide) ?_
                refine rb_iald hC rb_arM17 (rb_ibI (by decide)) dX12_count_96 ?_
                subst h
                exact rb_iret hC dX12_count_97
              · replace h := rb_ifn c1_6 h
                by_cases c1_7 : p0 = 7
                · replace h := rb_ifp c1_7 h
                  refine rb_tableIn hC 98 dX12_count_1 (by rw [c1_7]; decide) (by rw [c1_7]; decide) (by rw [c1_7]; rfl) (by decide) ?_
                  refine rb_aload_n hC 0 dX12_count_98 rfl ?_
                  refine rb_getI hC fr_X12_289_11 rb_obM0 rfl dX12_count_99 ?_
                  subst h
                  exact rb_iret hC dX12_count_102
                · replace h := rb_ifn c1_7 h
                  by_cases c1_8 : p0 = 8
                  · replace h := rb_ifp c1_8 h
                    refine rb_tableIn hC 103 dX12_count_1 (by rw [c1_8]; decide) (by rw [c1_8]; decide) (by rw [c1_8]; rfl) (by decide) ?_
                    refine rb_aload_n hC 0 dX12_count_103 rfl ?_
                    refine rb_getR hC fr_X12_58_11 rb_obM0 rfl dX12_count_104 ?_
                    refine rb_sipush (x := 217) hC dX12_count_107 (by decide) ?_
                    refine rb_iald hC rb_arM17 (rb_ibI (by decide)) dX12_count_110 ?_
                    subst h
                    exact rb_iret hC dX12_count_111
                  · replace h := rb_ifn c1_8 h
                    by_cases c1_9 : p0 = 9
                    · replace h := rb_ifp c1_9 h
                      refine rb_tableIn hC 112 dX12_count_1 (by rw [c1_9]; decide) (by rw [c1_9]; decide) (by rw [c1_9]; rfl) (by decide) ?_
                      refine rb_aload_n hC 0 dX12_count_112 rfl ?_
                      refine rb_getI hC fr_X12_292_11 rb_obM0 rfl dX12_count_113 ?_
                      subst h
                      exact rb_iret hC dX12_count_116
                    · replace h := rb_ifn c1_9 h
                      have hO : p0.toInt < 0 ∨ 9 < p0.toInt := by
                        have n0 : p0.toInt ≠ 0 := fun q3 => c1_0 (Int32.toInt_inj.mp (q3.trans (by decide)))
                        have n1 : p0.toInt ≠ 1 := fun q3 => c1_1 (Int32.toInt_inj.mp (q3.trans (by decide)))
                        have n2 : p0.toInt ≠ 2 := fun q3 => c1_2 (Int32.toInt_inj.mp (q3.trans (by decide)))
                        have n3 : p0.toInt ≠ 3 := fun q3 => c1_3 (Int32.toInt_inj.mp (q3.trans (by decide)))
                        have n4 : p0.toInt ≠ 4 := fun q3 => c1_4 (Int32.toInt_inj.mp (q3.trans (by decide)))
                        have n5 : p0.toInt ≠ 5 := fun q3 => c1_5 (Int32.toInt_inj.mp (q3.trans (by decide)))
                        have n6 : p0.toInt ≠ 6 := fun q3 => c1_6 (Int32.toInt_inj.mp (q3.trans (by decide)))
                        have n7 : p0.toInt ≠ 7 := fun q3 => c1_7 (Int32.toInt_inj.mp (q3.trans (by decide)))
                        have n8 : p0.toInt ≠ 8 := fun q3 => c1_8 (Int32.toInt_inj.mp (q3.trans (by decide)))
                        have n9 : p0.toInt ≠ 9 := fun q3 => c1_9 (Int32.toInt_inj.mp (q3.trans (by decide)))
                        omega
                      refine rb_tableOut hC 117 dX12_count_1 hO (by decide) ?_
                      refine rb_ldc_w hC kc_X12_433 dX12_count_117 ?_
                      subst h
                      exact rb_iret hC dX12_count_120
theorem xc_M_count (p0 : Int32) (σ : rb_St) (r : Int32) (h : xf_M_count p0 σ = r) : rb_Con rb_vM yX12_count cX12_count 2 (some .int) 0 (fun w => [.ref (rb_ad w 0), .int p0]) σ (fun _ => (some (.int r))) σ := rb_Con.of (by decide +kernel) (fun _ => Nat.le_of_ble_eq_true rfl) (fun z w hC => xk_M_count hC p0 σ r h)
