def xl_M_toldSpot_8 (x1 : Int32) (x2 : Int32) (x3 : Int32) : Nat → Int32 → rb_St → Option (rb_St)
  | 0, _, _ => none
  | n + 1, x4, σ => if x2 ≤ x4 then some σ else rb_b1 (xf_M_goFigure x1 σ) fun s4 => xl_M_toldSpot_8 x1 x2 x3 n (x4 + 1) s4
set_option maxHeartbeats 4000000 in
set_option maxRecDepth 100000 in
theorem xt_M_toldSpot_8 {z : rb_Z} {w : rb_Wd} {Q : State → Prop} (hC : rb_Cx z rb_vM w RX12 cX12_toldSpot 5 (some .int) 2) (x1 : Int32) (x2 : Int32) (x3 : Int32) : ∀ (n : Nat) (x4 : Int32) (σ : rb_St) (σ9 : rb_St), xl_M_toldSpot_8 x1 x2 x3 n x4 σ = some σ9 → rb_At z rb_vM w 5 Q 25 [(0, .ref (rb_ad w 0)), (3, .int x3)] [] σ9 → rb_At z rb_vM w 5 Q 8 [(0, .ref (rb_ad w 0)), (1, .int x1), (2, .int x2), (3, .int x3), (4, .int x4)] [] σ := by
  intro n
  induction n with
  | zero =>
    intro x4 σ σ9 h hE0
    cases h
  | succ n ih =>
    intro x4 σ σ9 h hE0
    rw [xl_M_toldSpot_8] at h
    refine rb_iload hC 4 dX12_toldSpot_8 rfl ?_
    refine rb_iload_n hC 2 dX12_toldSpot_10 rfl ?_
    refine rb_icmp_ge hC 25 dX12_toldSpot_11 (by decide) (fun c3 => ?_) (fun c3 => ?_)
    · replace h := rb_ifp c3 h
      cases h
      exact rb_sub [0, 3] rfl (hE0)
    · replace h := rb_ifn c3 h
      refine rb_aload_n hC 0 dX12_toldSpot_14 rfl ?_
      refine rb_iload_n hC 1 dX12_toldSpot_15 rfl ?_
      obtain ⟨s4, q5, h⟩ := rb_b1s h
      refine rb_callVv hC rb_VokM mv_X12_438 (xc_M_goFigure x1 σ _ q5) rb_obM0 rfl [.int x1] rfl rfl rfl ⟨Nat.le_of_ble_eq_true rfl, Nat.le_of_ble_eq_true rfl⟩ (Nat.le_of_ble_eq_true rfl) dX12_toldSpot_16 ?_
      refine rb_iinc hC 4 [(4, .int (x4 + 1)), (0, .ref (rb_ad w 0)), (1, .int x1), (2, .int x2), (3, .int x3)] dX12_toldSpot_19 rfl rfl (by decide) rfl ?_
      refine rb_goto hC 8 dX12_toldSpot_22 (by decide) ?_
      exact rb_sub [1, 2, 3, 4, 0] rfl (ih (x4 + 1) s4 _ h hE0)
def xf_M_toldSpot (p0 : Int32) (p1 : Int32) (p2 : Int32) (σ : rb_St) : Option (Int32 × rb_St) := rb_b1 (xf_M_startAt 0 σ) fun s1 => rb_b1 (xl_M_toldSpot_8 p0 p1 p2 rb_FU 0 s1) fun s6 => rb_b1 (xf_M_spotOf p2 s6) fun r8 => some (r8, s6)
set_option maxHeartbeats 4000000 in
set_option maxRecDepth 100000 in
theorem xk_M_toldSpot {z : rb_Z} {w : rb_Wd} (hC : rb_Cx z rb_vM w RX12 cX12_toldSpot 5 (some .int) 2) (p0 : Int32) (p1 : Int32) (p2 : Int32) (σ : rb_St) (r : Int32) (σ9 : rb_St) (h : xf_M_toldSpot p0 p1 p2 σ = some (r, σ9)) : rb_At z rb_vM w 5 (rb_Q z rb_vM w (some (.int r)) σ9) 0 [(0, .ref (rb_ad w 0)), (1, .int p0), (2, .int p1), (3, .int p2)] [] σ := by
  unfold xf_M_toldSpot at h
  refine rb_aload_n hC 0 dX12_toldSpot_0 rfl ?_
  refine rb_iconst (x := 0) hC dX12_toldSpot_1 (by decide) ?_
  obtain ⟨s1, q2, h⟩ := rb_b1s h
  refine rb_callVv hC rb_VokM mv_X12_434 (xc_M_startAt 0 σ _ q2) rb_obM0 rfl [.int 0] rfl rfl rfl ⟨Nat.le_of_ble_eq_true rfl, Nat.le_of_ble_eq_true rfl⟩ (Nat.le_of_ble_eq_true rfl) dX12_toldSpot_2 ?_
  refine rb_iconst (x := 0) hC dX12_toldSpot_5 (by decide) ?_
  refine rb_istore hC [(4, .int 0), (0, .ref (rb_ad w 0)), (1, .int p0), (2, .int p1), (3, .int p2)] dX12_toldSpot_6 (by decide) rfl ?_
  obtain ⟨s6, q7, h⟩ := rb_b1s h
  refine rb_sub (lv2 := [(0, .ref (rb_ad w 0)), (1, .int p0), (2, .int p1), (3, .int p2), (4, .int 0)]) [1, 2, 3, 4, 0] rfl ?_
  refine xt_M_toldSpot_8 hC p0 p1 p2 rb_FU 0 s1 _ q7 ?_
  refine rb_aload_n hC 0 dX12_toldSpot_25 rfl ?_
  refine rb_iload_n hC 1 dX12_toldSpot_26 rfl ?_
  obtain ⟨r8, q9, h⟩ := rb_b1s h
  refine rb_callVi hC rb_VokM mv_X12_441 (xc_M_spotOf p2 s6 _ q9) rb_obM0 rfl [.int p2] rfl rfl rfl ⟨Nat.le_of_ble_eq_true rfl, Nat.le_of_ble_eq_true rfl⟩ (Nat.le_of_ble_eq_true rfl) dX12_toldSpot_27 ?_
  cases h
  exact rb_iret hC dX12_toldSpot_30
theorem xc_M_toldSpot (p0 : Int32) (p1 : Int32) (p2 : Int32) (σ : rb_St) (r : Int32) (σ9 : rb_St) (h : xf_M_toldSpot p0 p1 p2 σ = some (r, σ9)) : rb_Con rb_vM yX12_toldSpot cX12_toldSpot 5 (some .int) 2 (fun w => [.ref (rb_ad w 0), .int p0, .int p1, .int p2]) σ (fun _ => (some (.int r))) σ9 := rb_Con.of (by decide +kernel) (fun _ => Nat.le_of_ble_eq_true rfl) (fun z w hC => xk_M_toldSpot hC p0 p1 p2 σ r σ9 h)
theorem me_X12_toldSpot : Cond.instanceMethod yX12_toldSpot ∈ rb_tbl ∧ Cond.selects yX12_toldSpot.cls yX12_toldSpot yX12_toldSpot ∈ rb_tbl ∧ Cond.initialized yX12_toldSpot.cls ∈ rb_tbl ∧ Cond.code yX12_toldSpot cX12_toldSpot 5 (some .int) ∈ rb_tbl ∧ rb_pn yX12_toldSpot 3 := ⟨rb_in (by decide +kernel) (by decide +kernel), rb_in (by decide +kernel) (by decide +kernel), rb_in (by decide +kernel) (by decide +kernel), rb_in (by decide +kernel) (by decide +kernel), by decide +kernel, by decide +kernel, by decide +kernel⟩
theorem mv_X12_477 : rb_MV RX12 477 yX12_toldSpot cX12_toldSpot 5 (some .int) 3 := ⟨rb_in (by decide +kernel) (by decide +kernel), me_X12_toldSpot⟩
def xl_M_isFit_2 (x1 : Int32) : Nat → Int32 → rb_St → Option (Nat × rb_St)
  | 0, _, _ => none
  | n + 1, x2, σ => if (σ.1 0 47) ≤ x2 then some (1, σ) else if rb_ib x2 10 then rb_b2 (xf_M_toldSpot x1 (σ.1 31 x2.toNatClampNeg) (σ.1 29 x2.toNatClampNeg) σ) fun r5 s3 => if r5 = (s3.1 30 x2.toNatClampNeg) then if 1 = (s3.1 32 x2.toNatClampNeg) then xl_M_isFit_2 x1 n (x2 + 1) s3 else some (0, s3) else if 0 = (s3.1 32 x2.toNatClampNeg) then xl_M_isFit_2 x1 n (x2 + 1) s3 else some (0, s3) else none
set_option maxHeartbeats 4000000 in
set_option maxRecDepth 100000 in
theorem xt_M_isFit_2 {z : rb_Z} {w : rb_Wd} {Q : State → Prop} (hC : rb_Cx z rb_vM w RX12 cX12_isFit 3 (some .boolean) 3) (x1 : Int32) : ∀ (n : Nat) (x2 : Int32) (σ : rb_St) (t : Nat) (σ9 : rb_St), xl_M_isFit_2 x1 n x2 σ = some (t, σ9) → (t = 0 → rb_At z rb_vM w 3 Q 50 [] [] σ9) → (t = 1 → rb_At z rb_vM w 3 Q 58 [] [] σ9) → rb_At z rb_vM w 3 Q 2 [(0, .ref (rb_ad w 0)), (1, .int x1), (2, .int x2)] [] σ := by
  intro n
  induction n with
  | zero =>
    intro x2 σ t σ9 h hE0 hE1
    cases h
  | succ n ih =>
    intro x2 σ t σ9 h hE0 hE1
    rw [xl_M_isFit_2] at h
    refine rb_iload_n hC 2 dX12_isFit_2 rfl ?_
    refine rb_aload_n hC 0 dX12_isFit_3 rfl ?_
    refine rb_getI hC fr_X12_289_11 rb_obM0 rfl dX12_isFit_4 ?_
    refine rb_icmp_ge hC 58 dX12_isFit_7 (by decide) (fun c1 => ?_) (fun c1 => ?_)
    · replace h := rb_ifp c1 h
      cases h
      exact rb_sub [] rfl (hE1 rfl)
    · replace h := rb_ifn c1 h
      refine rb_aload_n hC 0 dX12_isFit_10 rfl ?_
      refine rb_iload_n hC 1 dX12_isFit_11 rfl ?_
      refine rb_aload_n hC 0 dX12_isFit_12 rfl ?_
      refine rb_getR hC fr_X12_105_11 rb_obM0 rfl dX12_isFit_13 ?_
      refine rb_iload_n hC 2 dX12_isFit_16 rfl ?_
      obtain ⟨g2, h⟩ := rb_gd h
      refine rb_iald hC rb_arM31 (rb_ibI g2) dX12_isFit_17 ?_
      refine rb_aload_n hC 0 dX12_isFit_18 rfl ?_
      refine rb_getR hC fr_X12_99_11 rb_obM0 rfl dX12_isFit_19 ?_
      refine rb_iload_n hC 2 dX12_isFit_22 rfl ?_
      refine rb_iald hC rb_arM29 (rb_ibI g2) dX12_isFit_23 ?_
      obtain ⟨r5, s3, q4, h⟩ := rb_b2s h
      refine rb_callVi hC rb_VokM mv_X12_477 (xc_M_toldSpot x1 (σ.1 31 x2.toNatClampNeg) (σ.1 29 x2.toNatClampNeg) σ _ _ q4) rb_obM0 rfl [.int x1, .int (σ.1 31 x2.toNatClampNeg), .int (σ.1 29 x2.toNatClampNeg)] rfl rfl rfl ⟨Nat.le_of_ble_eq_true rfl, Nat.le_of_ble_eq_true rfl⟩ (Nat.le_of_ble_eq_true rfl) dX12_isFit_24 ?_
      refine rb_aload_n hC 0 dX12_isFit_27 rfl ?_
      refine rb_getR hC fr_X12_102_11 rb_obM0 rfl dX12_isFit_28 ?_
      refine rb_iload_n hC 2 dX12_isFit_31 rfl ?_
      refine rb_iald hC rb_arM30 (rb_ibI g2) dX12_isFit_32 ?_
      refine rb_icmp_ne hC 40 dX12_isFit_33 (by decide) (fun c6 => ?_) (fun c6 => ?_)
      · replace h := rb_ifn c6 h
        refine rb_iconst (x := 0) hC dX12_isFit_40 (by decide) ?_
        refine rb_aload_n hC 0 dX12_isFit_41 rfl ?_
        refine rb_getR hC fr_X12_108_11 rb_obM0 rfl dX12_isFit_42 ?_
        refine rb_iload_n hC 2 dX12_isFit_45 rfl ?_
        refine rb_zald hC rb_arM32 (rb_ibI g2) dX12_isFit_46 ?_
        refine rb_icmp_eq hC 52 dX12_isFit_47 (by decide) (fun c7 => ?_) (fun c7 => ?_)
        · replace h := rb_ifp c7 h
          refine rb_iinc hC 2 [(2, .int (x2 + 1)), (0, .ref (rb_ad w 0)), (1, .int x1)] dX12_isFit_52 rfl rfl (by decide) rfl ?_
          refine rb_goto hC 2 dX12_isFit_55 (by decide) ?_
          exact rb_sub [1, 2, 0] rfl (ih (x2 + 1) s3 _ _ h hE0 hE1)
        · replace h := rb_ifn c7 h
          cases h
          exact rb_sub [] rfl (hE0 rfl)
      · replace h := rb_ifp c6 h
        refine rb_iconst (x := 1) hC dX12_isFit_36 (by decide) ?_
        refine rb_goto hC 41 dX12_isFit_37 (by decide) ?_
        refine rb_aload_n hC 0 dX12_isFit_41 rfl ?_
        refine rb_getR hC fr_X12_108_11 rb_obM0 rfl dX12_isFit_42 ?_
        refine rb_iload_n hC 2 dX12_isFit_45 rfl ?_
        refine rb_zald hC rb_arM32 (rb_ibI g2) dX12_isFit_46 ?_
        refine rb_icmp_eq hC 52 dX12_isFit_47 (by decide) (fun c8 => ?_) (fun c8 => ?_)
        · replace h := rb_ifp c8 h
          refine rb_iinc hC 2 [(2, .int (x2 + 1)), (0, .ref (rb_ad w 0)), (1, .int x1)] dX12_isFit_52 rfl rfl (by decide) rfl ?_
          refine rb_goto hC 2 dX12_isFit_55 (by decide) ?_
          exact rb_sub [1, 2, 0] rfl (ih (x2 + 1) s3 _ _ h hE0 hE1)
        · replace h := rb_ifn c8 h
          cases h
          exact rb_sub [] rfl (hE0 rfl)
def xf_M_isFit (p0 : Int32) (σ : rb_St) : Option (Int32 × rb_St) := rb_b2 (xl_M_isFit_2 p0 rb_FU 0 σ) fun t9 s10 => if t9 = 0 then some (0, s10) else some (1, s10)
set_option maxHeartbeats 4000000 in
set_option maxRecDepth 100000 in
theorem xk_M_isFit {z : rb_Z} {w : rb_Wd} (hC : rb_Cx z rb_vM w RX12 cX12_isFit 3 (some .boolean) 3) (p0 : Int32) (σ : rb_St) (r : Int32) (σ9 : rb_St) (h : xf_M_isFit p0 σ = some (r, σ9)) : rb_At z rb_vM w 3 (rb_Q z rb_vM w (some (.int r)) σ9) 0 [(0, .ref (rb_ad w 0)), (1, .int p0)] [] σ := by
  unfold xf_M_isFit at h
  refine rb_iconst (x := 0) hC dX12_isFit_0 (by decide) ?_
  refine rb_istore_n hC [(2, .int 0), (0, .ref (rb_ad w 0)), (1, .int p0)] dX12_isFit_1 (by decide) rfl ?_
  obtain ⟨t9, s10, q11, h⟩ := rb_b2s h
  refine rb_sub (lv2 := [(0, .ref (rb_ad w 0)), (1, .int p0), (2, .int 0)]) [1, 2, 0] rfl ?_
  refine xt_M_isFit_2 hC p0 rb_FU 0 σ _ _ q11 (fun ht => ?_) (fun ht => ?_)
  · subst ht
    replace h := rb_ifp rfl h
    refine rb_iconst (x := 0) hC dX12_isFit_50 (by decide) ?_
    cases h
    exact rb_zret hC rfl dX12_isFit_51
  · subst ht
    replace h := rb_ifn (by decide) h
    refine rb_iconst (x := 1) hC dX12_isFit_58 (by decide) ?_
    cases h
    exact rb_zret hC rfl dX12_isFit_59
theorem xc_M_isFit (p0 : Int32) (σ : rb_St) (r : Int32) (σ9 : rb_St) (h : xf_M_isFit p0 σ = some (r, σ9)) : rb_Con rb_vM yX12_isFit cX12_isFit 3 (some .boolean) 3 (fun w => [.ref (rb_ad w 0), .int p0]) σ (fun _ => (some (.int r))) σ9 := rb_Con.of (by decide +kernel) (fun _ => Nat.le_of_ble_eq_true rfl) (fun z w hC => xk_M_isFit hC p0 σ r σ9 h)
theorem me_X12_isFit : Cond.instanceMethod yX12_isFit ∈ rb_tbl ∧ Cond.selects yX12_isFit.cls yX12_isFit yX12_isFit ∈ rb_tbl ∧ Cond.initialized yX12_isFit.cls ∈ rb_tbl ∧ Cond.code yX12_isFit cX12_isFit 3 (some .boolean) ∈ rb_tbl ∧ rb_pn yX12_isFit 1 := ⟨rb_in (by decide +kernel) (by decide +kernel), rb_in (by decide +kernel) (by decide +kernel), rb_in (by decide +kernel) (by decide +kernel), rb_in (by decide +kernel) (by decide +kernel), by decide +kernel, by decide +kernel, by decide +kernel⟩
theorem mv_X12_480 : rb_MV RX12 480 yX12_isFit cX12_isFit 3 (some .boolean) 1 := ⟨rb_in (by decide +kernel) (by decide +kernel), me_X12_isFit⟩
def xl_M_fits_13  : Nat → Int32 → Int32 → rb_St → Option (Int32 × rb_St)
  | 0, _, _, _ => none
  | n + 1, x1, x2, σ => if (σ.1 0 25) ≤ x2 then some (x1, σ) else rb_b2 (xf_M_isFit x2 σ) fun r5 s3 => if r5 = 0 then xl_M_fits_13 n (x1 ||| 0) (x2 + 1) s3 else xl_M_fits_13 n (x1 ||| (1 <<< (x2 &&& 31))) (x2 + 1) s3
set_option maxHeartbeats 4000000 in
set_option maxRecDepth 100000 in
theorem xt_M_fits_13 {z : rb_Z} {w : rb_Wd} {Q : State → Prop} (hC : rb_Cx z rb_vM w RX12 cX12_fits 3 (some .int) 4)  : ∀ (n : Nat) (x1 : Int32) (x2 : Int32) (σ : rb_St) (y1 : Int32) (σ9 : rb_St), xl_M_fits_13 n x1 x2 σ = some (y1, σ9) → rb_At z rb_vM w 3 Q 45 [(1, .int y1)] [] σ9 → rb_At z rb_vM w 3 Q 13 [(0, .ref (rb_ad w 0)), (1, .int x1), (2, .int x2)] [] σ := by
  intro n
  induction n with
  | zero =>
    intro x1 x2 σ y1 σ9 h hE0
    cases h
  | succ n ih =>
    intro x1 x2 σ y1 σ9 h hE0
    rw [xl_M_fits_13] at h
    refine rb_iload_n hC 2 dX12_fits_13 rfl ?_
    refine rb_aload_n hC 0 dX12_fits_14 rfl ?_
    refine rb_getI hC fr_X12_305_11 rb_obM0 rfl dX12_fits_15 ?_
    refine rb_icmp_ge hC 45 dX12_fits_18 (by decide) (fun c2 => ?_) (fun c2 => ?_)
    · replace h := rb_ifp c2 h
      cases h
      exact rb_sub [1] rfl (hE0)
    · replace h := rb_ifn c2 h
      refine rb_iload_n hC 1 dX12_fits_21 rfl ?_
      refine rb_aload_n hC 0 dX12_fits_22 rfl ?_
      refine rb_iload_n hC 2 dX12_fits_23 rfl ?_
      obtain ⟨r5, s3, q4, h⟩ := rb_b2s h
      refine rb_callVi hC rb_VokM mv_X12_480 (xc_M_isFit x2 σ _ _ q4) rb_obM0 rfl [.int x2] rfl rfl rfl ⟨Nat.le_of_ble_eq_true rfl, Nat.le_of_ble_eq_true rfl⟩ (Nat.le_of_ble_eq_true rfl) dX12_fits_24 ?_
      refine rb_if_eq hC 36 dX12_fits_27 (by decide) (fun c6 => ?_) (fun c6 => ?_)
      · replace h := rb_ifp c6 h
        refine rb_iconst (x := 0) hC dX12_fits_36 (by decide) ?_
        refine rb_ior hC dX12_fits_37 ?_
        refine rb_istore_n hC [(1, .int (x1 ||| 0)), (0, .ref (rb_ad w 0)), (2, .int x2)] dX12_fits_38 (by decide) rfl ?_
        refine rb_iinc hC 2 [(2, .int (x2 + 1)), (1, .int (x1 ||| 0)), (0, .ref (rb_ad w 0))] dX12_fits_39 rfl rfl (by decide) rfl ?_
        refine rb_goto hC 13 dX12_fits_42 (by decide) ?_
        exact rb_sub [2, 1, 0] rfl (ih (x1 ||| 0) (x2 + 1) s3 _ _ h hE0)
      · replace h := rb_ifn c6 h
        refine rb_iconst (x := 1) hC dX12_fits_30 (by decide) ?_
        refine rb_iload_n hC 2 dX12_fits_31 rfl ?_
        refine rb_ishl hC dX12_fits_32 ?_
        refine rb_goto hC 37 dX12_fits_33 (by decide) ?_
        refine rb_ior hC dX12_fits_37 ?_
        refine rb_istore_n hC [(1, .int (x1 ||| (1 <<< (x2 &&& 31)))), (0, .ref (rb_ad w 0)), (2, .int x2)] dX12_fits_38 (by decide) rfl ?_
        refine rb_iinc hC 2 [(2, .int (x2 + 1)), (1, .int (x1 ||| (1 <<< (x2 &&& 31)))), (0, .ref (rb_ad w 0))] dX12_fits_39 rfl rfl (by decide) rfl ?_
        refine rb_goto hC 13 dX12_fits_42 (by decide) ?_
        exact rb_sub [2, 1, 0] rfl (ih (x1 ||| (1 <<< (x2 &&& 31))) (x2 + 1) s3 _ _ h hE0)
def xf_M_fits  (σ : rb_St) : Option (Int32 × rb_St) := if (σ.1 0 22) = 0 then some ((-1), σ) else rb_b2 (xl_M_fits_13 rb_FU 0 0 σ) fun y7 s8 => some (y7, s8)
set_option maxHeartbeats 4000000 in
set_option maxRecDepth 100000 in
theorem xk_M_fits {z : rb_Z} {w : rb_Wd} (hC : rb_Cx z rb_vM w RX12 cX12_fits 3 (some .int) 4)  (σ : rb_St) (r : Int32) (σ9 : rb_St) (h : xf_M_fits σ = some (r, σ9)) : rb_At z rb_vM w 3 (rb_Q z rb_vM w (some (.int r)) σ9) 0 [(0, .ref (rb_ad w 0))] [] σ := by
  unfold xf_M_fits at h
  refine rb_aload_n hC 0 dX12_fits_0 rfl ?_
  refine rb_getI hC fr_X12_283_11 rb_obM0 rfl dX12_fits_1 ?_
  refine rb_if_ne hC 9 dX12_fits_4 (by decide) (fun c1 => ?_) (fun c1 => ?_)
  · replace h := rb_ifn c1 h
    refine rb_iconst (x := 0) hC dX12_fits_9 (by decide) ?_
    refine rb_istore_n hC [(1, .int 0), (0, .ref (rb_ad w 0))] dX12_fits_10 (by decide) rfl ?_
    refine rb_iconst (x := 0) hC dX12_fits_11 (by decide) ?_
    refine rb_istore_n hC [(2, .int 0), (1, .int 0), (0, .ref (rb_ad w 0))] dX12_fits_12 (by decide) rfl ?_
    obtain ⟨y7, s8, q9, h⟩ := rb_b2s h
    refine rb_sub (lv2 := [(0, .ref (rb_ad w 0)), (1, .int 0), (2, .int 0)]) [2, 1, 0] rfl ?_
    refine xt_M_fits_13 hC  rb_FU 0 0 σ _ _ q9 ?_
    refine rb_iload_n hC 0 dX12_fits_45 rfl ?_
    cases h
    exact rb_iret hC dX12_fits_46
  · replace h := rb_ifp c1 h
    refine rb_iconst (x := (-1)) hC dX12_fits_7 (by decide) ?_
    cases h
    exact rb_iret hC dX12_fits_8
theorem xc_M_fits  (σ : rb_St) (r : Int32) (σ9 : rb_St) (h : xf_M_fits σ = some (r, σ9)) : rb_Con rb_vM yX12_fits cX12_fits 3 (some .int) 4 (fun w => [.ref (rb_ad w 0)]) σ (fun _ => (some (.int r))) σ9 := rb_Con.of (by decide +kernel) (fun _ => Nat.le_of_ble_eq_true rfl) (fun z w hC => xk_M_fits hC  σ r σ9 h)
def xl_M_mostAlike_21 (x1 : Int32) (x2 : Int32) (x3 : Int32) (x4 : Int32) (x5 : Int32) : Nat → Int32 → Int32 → rb_St → Option (Int32 × rb_St)
  | 0, _, _, _ => none
  | n + 1, x6, x7, σ => if (σ.1 0 25) ≤ x7 then some (x6, σ) else if (xf_M_has x1 x7 σ) = 0 then xl_M_mostAlike_21 x1 x2 x3 x4 x5 n (x6 + 0) (x7 + 1) σ else rb_b2 (xf_M_toldSpot x7 x2 x3 σ) fun r6 s4 => if r6 = x5 then xl_M_mostAlike_21 x1 x2 x3 x4 x5 n (x6 + 1) (x7 + 1) s4 else xl_M_mostAlike_21 x1 x2 x3 x4 x5 n (x6 + 0) (x7 + 1) s4
set_option maxHeartbeats 4000000 in
set_option maxRecDepth 100000 in
theorem xt_M_mostAlike_21 {z : rb_Z} {w : rb_Wd} {Q : State → Prop} (hC : rb_Cx z rb_vM w RX12 cX12_mostAlike 8 (some .int) 3) (x1 : Int32) (x2 : Int32) (x3 : Int32) (x4 : Int32) (x5 : Int32) : ∀ (n : Nat) (x6 : Int32) (x7 : Int32) (σ : rb_St) (y6 : Int32) (σ9 : rb_St), xl_M_mostAlike_21 x1 x2 x3 x4 x5 n x6 x7 σ = some (y6, σ9) → rb_At z rb_vM w 8 Q 68 [(0, .ref (rb_ad w 0)), (1, .int x1), (2, .int x2), (3, .int x3), (4, .int x4), (5, .int x5), (6, .int y6)] [] σ9 → rb_At z rb_vM w 8 Q 21 [(0, .ref (rb_ad w 0)), (1, .int x1), (2, .int x2), (3, .int x3), (4, .int x4), (5, .int x5), (6, .int x6), (7, .int x7)] [] σ := by
  intro n
  induction n with
  | zero =>
    intro x6 x7 σ y6 σ9 h hE0
    cases h
  | succ n ih =>
    intro x6 x7 σ y6 σ9 h hE0
    rw [xl_M_mostAlike_21] at h
    refine rb_iload hC 7 dX12_mostAlike_21 rfl ?_
    refine rb_aload_n hC 0 dX12_mostAlike_23 rfl ?_
    refine rb_getI hC fr_X12_305_11 rb_obM0 rfl dX12_mostAlike_24 ?_
    refine rb_icmp_ge hC 68 dX12_mostAlike_27 (by decide) (fun c2 => ?_) (fun c2 => ?_)
    · replace h := rb_ifp c2 h
      cases h
      exact rb_sub [0, 1, 2, 3, 4, 5, 6] rfl (hE0)
    · replace h := rb_ifn c2 h
      refine rb_iload hC 6 dX12_mostAlike_30 rfl ?_
      refine rb_iload_n hC 1 dX12_mostAlike_32 rfl ?_
      refine rb_iload hC 7 dX12_mostAlike_33 rfl ?_
      refine rb_callSi hC rb_VokM mv_X12_240 (xc_M_has x1 x7 σ _ rfl) [.int x1, .int x7] rfl rfl rfl ⟨Nat.le_of_ble_eq_true rfl, Nat.le_of_ble_eq_true rfl⟩ (Nat.le_of_ble_eq_true rfl) dX12_mostAlike_35 ?_
      refine rb_if_eq hC 58 dX12_mostAlike_38 (by decide) (fun c3 => ?_) (fun c3 => ?_)
      · replace h := rb_ifp c3 h
        refine rb_iconst (x := 0) hC dX12_mostAlike_58 (by decide) ?_
        refine rb_iadd hC dX12_mostAlike_59 ?_
        refine rb_istore hC [(6, .int (x6 + 0)), (0, .ref (rb_ad w 0)), (1, .int x1), (2, .int x2), (3, .int x3), (4, .int x4), (5, .int x5), (7, .int x7)] dX12_mostAlike_60 (by decide) rfl ?_
        refine rb_iinc hC 7 [(7, .int (x7 + 1)), (6, .int (x6 + 0)), (0, .ref (rb_ad w 0)), (1, .int x1), (2, .int x2), (3, .int x3), (4, .int x4), (5, .int x5)] dX12_mostAlike_62 rfl rfl (by decide) rfl ?_
        refine rb_goto hC 21 dX12_mostAlike_65 (by decide) ?_
        exact rb_sub [2, 3, 4, 5, 6, 7, 1, 0] rfl (ih (x6 + 0) (x7 + 1) σ _ _ h hE0)
      · replace h := rb_ifn c3 h
        refine rb_aload_n hC 0 dX12_mostAlike_41 rfl ?_
        refine rb_iload hC 7 dX12_mostAlike_42 rfl ?_
        refine rb_iload_n hC 2 dX12_mostAlike_44 rfl ?_
        refine rb_iload_n hC 3 dX12_mostAlike_45 rfl ?_
        obtain ⟨r6, s4, q5, h⟩ := rb_b2s h
        refine rb_callVi hC rb_VokM mv_X12_477 (xc_M_toldSpot x7 x2 x3 σ _ _ q5) rb_obM0 rfl [.int x7, .int x2, .int x3] rfl rfl rfl ⟨Nat.le_of_ble_eq_true rfl, Nat.le_of_ble_eq_true rfl⟩ (Nat.le_of_ble_eq_true rfl) dX12_mostAlike_46 ?_
        refine rb_iload hC 5 dX12_mostAlike_49 rfl ?_
        refine rb_icmp_ne hC 58 dX12_mostAlike_51 (by decide) (fun c7 => ?_) (fun c7 => ?_)
        · replace h := rb_ifn c7 h
          refine rb_iconst (x := 0) hC dX12_mostAlike_58 (by decide) ?_
          refine rb_iadd hC dX12_mostAlike_59 ?_
          refine rb_istore hC [(6, .int (x6 + 0)), (0, .ref (rb_ad w 0)), (1, .int x1), (2, .int x2), (3, .int x3), (4, .int x4), (5, .int x5), (7, .int x7)] dX12_mostAlike_60 (by decide) rfl ?_
          refine rb_iinc hC 7 [(7, .int (x7 + 1)), (6, .int (x6 + 0)), (0, .ref (rb_ad w 0)), (1, .int x1), (2, .int x2), (3, .int x3), (4, .int x4), (5, .int x5)] dX12_mostAlike_62 rfl rfl (by decide) rfl ?_
          refine rb_goto hC 21 dX12_mostAlike_65 (by decide) ?_
          exact rb_sub [2, 3, 4, 5, 6, 7, 1, 0] rfl (ih (x6 + 0) (x7 + 1) s4 _ _ h hE0)
        · replace h := rb_ifp c7 h
          refine rb_iconst (x := 1) hC dX12_mostAlike_54 (by decide) ?_
          refine rb_goto hC 59 dX12_mostAlike_55 (by decide) ?_
          refine rb_iadd hC dX12_mostAlike_59 ?_
          refine rb_istore hC [(6, .int (x6 + 1)), (0, .ref (rb_ad w 0)), (1, .int x1), (2, .int x2), (3, .int x3), (4, .int x4), (5, .int x5), (7, .int x7)] dX12_mostAlike_60 (by decide) rfl ?_
          refine rb_iinc hC 7 [(7, .int (x7 + 1)), (6, .int (x6 + 1)), (0, .ref (rb_ad w 0)), (1, .int x1), (2, .int x2), (3, .int x3), (4, .int x4), (5, .int x5)] dX12_mostAlike_62 rfl rfl (by decide) rfl ?_
          refine rb_goto hC 21 dX12_mostAlike_65 (by decide) ?_
          exact rb_sub [2, 3, 4, 5, 6, 7, 1, 0] rfl (ih (x6 + 1) (x7 + 1) s4 _ _ h hE0)
def xl_M_mostAlike_6 (x1 : Int32) (x2 : Int32) (x3 : Int32) : Nat → Int32 → Int32 → rb_St → Option (Int32 × rb_St)
  | 0, _, _, _ => none
  | n + 1, x4, x5, σ => if (σ.1 0 22) ≤ x5 then some (x4, σ) else rb_b2 (xl_M_mostAlike_21 x1 x2 x3 x4 x5 rb_FU 0 0 σ) fun y8 s9 => xl_M_mostAlike_6 x1 x2 x3 n (rb_mx x4 y8) (x5 + 1) s9
set_option maxHeartbeats 4000000 in
set_option maxRecDepth 100000 in
theorem xt_M_mostAlike_6 {z : rb_Z} {w : rb_Wd} {Q : State → Prop} (hC : rb_Cx z rb_vM w RX12 cX12_mostAlike 8 (some .int) 3) (x1 : Int32) (x2 : Int32) (x3 : Int32) : ∀ (n : Nat) (x4 : Int32) (x5 : Int32) (σ : rb_St) (y4 : Int32) (σ9 : rb_St), xl_M_mostAlike_6 x1 x2 x3 n x4 x5 σ = some (y4, σ9) → rb_At z rb_vM w 8 Q 83 [(4, .int y4)] [] σ9 → rb_At z rb_vM w 8 Q 6 [(0, .ref (rb_ad w 0)), (1, .int x1), (2, .int x2), (3, .int x3), (4, .int x4), (5, .int x5)] [] σ := by
  intro n
  induction n with
  | zero =>
    intro x4 x5 σ y4 σ9 h hE0
    cases h
  | succ n ih =>
    intro x4 x5 σ y4 σ9 h hE0
    rw [xl_M_mostAlike_6] at h
    refine rb_iload hC 5 dX12_mostAlike_6 rfl ?_
    refine rb_aload_n hC 0 dX12_mostAlike_8 rfl ?_
    refine rb_getI hC fr_X12_283_11 rb_obM0 rfl dX12_mostAlike_9 ?_
    refine rb_icmp_ge hC 83 dX12_mostAlike_12 (by decide) (fun c1 => ?_) (fun c1 => ?_)
    · replace h := rb_ifp c1 h
      cases h
      exact rb_sub [4] rfl (hE0)
    · replace h := rb_ifn c1 h
      refine rb_iconst (x := 0) hC dX12_mostAlike_15 (by decide) ?_
      refine rb_istore hC [(6, .int 0), (0, .ref (rb_ad w 0)), (1, .int x1), (2, .int x2), (3, .int x3), (4, .int x4), (5, .int x5)] dX12_mostAlike_16 (by decide) rfl ?_
      refine rb_iconst (x := 0) hC dX12_mostAlike_18 (by decide) ?_
      refine rb_istore hC [(7, .int 0), (6, .int 0), (0, .ref (rb_ad w 0)), (1, .int x1), (2, .int x2), (3, .int x3), (4, .int x4), (5, .int x5)] dX12_mostAlike_19 (by decide) rfl ?_
      obtain ⟨y8, s9, q10, h⟩ := rb_b2s h
      refine rb_sub (lv2 := [(0, .ref (rb_ad w 0)), (1, .int x1), (2, .int x2), (3, .int x3), (4, .int x4), (5, .int x5), (6, .int 0), (7, .int 0)]) [2, 3, 4, 5, 6, 7, 1, 0] rfl ?_
      refine xt_M_mostAlike_21 hC x1 x2 x3 x4 x5 rb_FU 0 0 σ _ _ q10 ?_
      refine rb_iload hC 4 dX12_mostAlike_68 rfl ?_
      refine rb_iload hC 6 dX12_mostAlike_70 rfl ?_
      refine rb_mmax hC mk_X12_320 ⟨Nat.le_of_ble_eq_true rfl, Nat.le_of_ble_eq_true rfl⟩ dX12_mostAlike_72 ?_
      refine rb_istore hC [(4, .int (rb_mx x4 y8)), (0, .ref (rb_ad w 0)), (1, .int x1), (2, .int x2), (3, .int x3), (5, .int x5), (6, .int y8)] dX12_mostAlike_75 (by decide) rfl ?_
      refine rb_iinc hC 5 [(5, .int (x5 + 1)), (4, .int (rb_mx x4 y8)), (0, .ref (rb_ad w 0)), (1, .int x1), (2, .int x2), (3, .int x3), (6, .int y8)] dX12_mostAlike_77 rfl rfl (by decide) rfl ?_
      refine rb_goto hC 6 dX12_mostAlike_80 (by decide) ?_
      exact rb_sub [2, 3, 4, 5, 1, 0] rfl (ih (rb_mx x4 y8) (x5 + 1) s9 _ _ h hE0)
def xf_M_mostAlike (p0 : Int32) (p1 : Int32) (p2 : Int32) (σ : rb_St) : Option (Int32 × rb_St) := rb_b2 (xl_M_mostAlike_6 p0 p1 p2 rb_FU 0 0 σ) fun y11 s12 => some (y11, s12)
set_option maxHeartbeats 4000000 in
set_option maxRecDepth 100000 in
theorem xk_M_mostAlike {z : rb_Z} {w : rb_Wd} (hC : rb_Cx z rb_vM w RX12 cX12_mostAlike 8 (some .int) 3) (p0 : Int32) (p1 : Int32) (p2 : Int32) (σ : rb_St) (r : Int32) (σ9 : rb_St) (h : xf_M_mostAlike p0 p1 p2 σ = some (r, σ9)) : rb_At z rb_vM w 8 (rb_Q z rb_vM w (some (.int r)) σ9) 0 [(0, .ref (rb_ad w 0)), (1, .int p0), (2, .int p1), (3, .int p2)] [] σ := by
  unfold xf_M_mostAlike at h
  refine rb_iconst (x := 0) hC dX12_mostAlike_0 (by decide) ?_
  refine rb_istore hC [(4, .int 0), (0, .ref (rb_ad w 0)), (1, .int p0), (2, .int p1), (3, .int p2)] dX12_mostAlike_1 (by decide) rfl ?_
  refine rb_iconst (x := 0) hC dX12_mostAlike_3 (by decide) ?_
  refine rb_istore hC [(5, .int 0), (4, .int 0), (0, .ref (rb_ad w 0)), (1, .int p0), (2, .int p1), (3, .int p2)] dX12_mostAlike_4 (by decide) rfl ?_
  obtain ⟨y11, s12, q13, h⟩ := rb_b2s h
  refine rb_sub (lv2 := [(0, .ref (rb_ad w 0)), (1, .int p0), (2, .int p1), (3, .int p2), (4, .int 0), (5, .int 0)]) [2, 3, 4, 5, 1, 0] rfl ?_
  refine xt_M_mostAlike_6 hC p0 p1 p2 rb_FU 0 0 σ _ _ q13 ?_
  refine rb_iload hC 0 dX12_mostAlike_83 rfl ?_
  cases h
  exact rb_iret hC dX12_mostAlike_85
theorem xc_M_mostAlike (p0 : Int32) (p1 : Int32) (p2 : Int32) (σ : rb_St) (r : Int32) (σ9 : rb_St) (h : xf_M_mostAlike p0 p1 p2 σ = some (r, σ9)) : rb_Con rb_vM yX12_mostAlike cX12_mostAlike 8 (some .int) 3 (fun w => [.ref (rb_ad w 0), .int p0, .int p1, .int p2]) σ (fun _ => (some (.int r))) σ9 := rb_Con.of (by decide +kernel) (fun _ => Nat.le_of_ble_eq_true rfl) (fun z w hC => xk_M_mostAlike hC p0 p1 p2 σ r σ9 h)
theorem me_X12_fits : Cond.instanceMethod yX12_fits ∈ rb_tbl ∧ Cond.selects yX12_fits.cls yX12_fits yX12_fits ∈ rb_tbl ∧ Cond.initialized yX12_fits.cls ∈ rb_tbl ∧ Cond.code yX12_fits cX12_fits 3 (some .int) ∈ rb_tbl ∧ rb_pn yX12_fits 0 := ⟨rb_in (by decide +kernel) (by decide +kernel), rb_in (by decide +kernel) (by decide +kernel), rb_in (by decide +kernel) (by decide +kernel), rb_in (by decide +kernel) (by decide +kernel), by decide +kernel, by decide +kernel, by decide +kernel⟩
theorem mv_X12_483 : rb_MV RX12 483 yX12_fits cX12_fits 3 (some .int) 0 := ⟨rb_in (by decide +kernel) (by decide +kernel), me_X12_fits⟩
theorem me_X12_mostAlike : Cond.instanceMethod yX12_mostAlike ∈ rb_tbl ∧ Cond.selects yX12_mostAlike.cls yX12_mostAlike yX12_mostAlike ∈ rb_tbl ∧ Cond.initialized yX12_mostAlike.cls ∈ rb_tbl ∧ Cond.code yX12_mostAlike cX12_mostAlike 8 (some .int) ∈ rb_tbl ∧ rb_pn yX12_mostAlike 3 := ⟨rb_in (by decide +kernel) (by decide +kernel), rb_in (by decide +kernel) (by decide +kernel), rb_in (by decide +kernel) (by decide +kernel), rb_in (by decide +kernel) (by decide +kernel), by decide +kernel, by decide +kernel, by decide +kernel⟩
theorem mv_X12_486 : rb_MV RX12 486 yX12_mostAlike cX12_mostAlike 8 (some .int) 3 := ⟨rb_in (by decide +kernel) (by decide +kernel), me_X12_mostAlike⟩
def xl_M_ask_27 (x1 : Int32) (x2 : Int32) : Nat → Int32 → Int32 → Int32 → rb_St → Option (Int32 × rb_St)
  | 0, _, _, _, _ => none
  | n + 1, x3, x4, x5, σ => if 9 < x5 then some (x3, σ) else rb_b2 (xf_M_mostAlike x2 x5 x1 σ) fun r11 s9 => if x3 = (-1) then xl_M_ask_27 x1 x2 n x5 r11 (x5 + 1) s9 else if x4 ≤ r11 then xl_M_ask_27 x1 x2 n x3 x4 (x5 + 1) s9 else xl_M_ask_27 x1 x2 n x5 r11 (x5 + 1) s9
set_option maxHeartbeats 4000000 in
set_option maxRecDepth 100000 in
theorem xt_M_ask_27 {z : rb_Z} {w : rb_Wd} {Q : State → Prop} (hC : rb_Cx z rb_vM w RX12 cX12_ask 7 (some .int) 5) (x1 : Int32) (x2 : Int32) : ∀ (n : Nat) (x3 : Int32) (x4 : Int32) (x5 : Int32) (σ : rb_St) (y3 : Int32) (σ9 : rb_St), xl_M_ask_27 x1 x2 n x3 x4 x5 σ = some (y3, σ9) → rb_At z rb_vM w 7 Q 69 [(3, .int y3)] [] σ9 → rb_At z rb_vM w 7 Q 27 [(0, .ref (rb_ad w 0)), (1, .int x1), (2, .int x2), (3, .int x3), (4, .int x4), (5, .int x5)] [] σ := by
  intro n
  induction n with
  | zero =>
    intro x3 x4 x5 σ y3 σ9 h hE0
    cases h
  | succ n ih =>
    intro x3 x4 x5 σ y3 σ9 h hE0
    rw [xl_M_ask_27] at h
    refine rb_iload hC 5 dX12_ask_27 rfl ?_
    refine rb_bipush (x := 9) hC dX12_ask_29 (by decide) ?_
    refine rb_icmp_gt hC 69 dX12_ask_31 (by decide) (fun c8 => ?_) (fun c8 => ?_)
    · replace h := rb_ifp c8 h
      cases h
      exact rb_sub [3] rfl (hE0)
    · replace h := rb_ifn c8 h
      refine rb_aload_n hC 0 dX12_ask_34 rfl ?_
      refine rb_iload_n hC 2 dX12_ask_35 rfl ?_
      refine rb_iload hC 5 dX12_ask_36 rfl ?_
      refine rb_iload_n hC 1 dX12_ask_38 rfl ?_
      obtain ⟨r11, s9, q10, h⟩ := rb_b2s h
      refine rb_callVi hC rb_VokM mv_X12_486 (xc_M_mostAlike x2 x5 x1 σ _ _ q10) rb_obM0 rfl [.int x2, .int x5, .int x1] rfl rfl rfl ⟨Nat.le_of_ble_eq_true rfl, Nat.le_of_ble_eq_true rfl⟩ (Nat.le_of_ble_eq_true rfl) dX12_ask_39 ?_
      refine rb_istore hC [(6, .int r11), (0, .ref (rb_ad w 0)), (1, .int x1), (2, .int x2), (3, .int x3), (4, .int x4), (5, .int x5)] dX12_ask_42 (by decide) rfl ?_
      refine rb_iload_n hC 4 dX12_ask_44 rfl ?_
      refine rb_iconst (x := (-1)) hC dX12_ask_45 (by decide) ?_
      refine rb_icmp_eq hC 56 dX12_ask_46 (by decide) (fun c12 => ?_) (fun c12 => ?_)
      · replace h := rb_ifp c12 h
        refine rb_iload hC 6 dX12_ask_56 rfl ?_
        refine rb_istore_n hC [(3, .int x5), (6, .int r11), (0, .ref (rb_ad w 0)), (1, .int x1), (2, .int x2), (4, .int x4), (5, .int x5)] dX12_ask_58 (by decide) rfl ?_
        refine rb_iload hC 1 dX12_ask_59 rfl ?_
        refine rb_istore hC [(4, .int r11), (3, .int x5), (6, .int r11), (0, .ref (rb_ad w 0)), (1, .int x1), (2, .int x2), (5, .int x5)] dX12_ask_61 (by decide) rfl ?_
        refine rb_iinc hC 6 [(5, .int (x5 + 1)), (4, .int r11), (3, .int x5), (6, .int r11), (0, .ref (rb_ad w 0)), (1, .int x1), (2, .int x2)] dX12_ask_63 rfl rfl (by decide) rfl ?_
        refine rb_goto hC 27 dX12_ask_66 (by decide) ?_
        exact rb_sub [4, 5, 6, 2, 1, 0] rfl (ih x5 r11 (x5 + 1) s9 _ _ h hE0)
      · replace h := rb_ifn c12 h
        refine rb_iload hC 0 dX12_ask_49 rfl ?_
        refine rb_iload hC 5 dX12_ask_51 rfl ?_
        refine rb_icmp_ge hC 63 dX12_ask_53 (by decide) (fun c13 => ?_) (fun c13 => ?_)
        · replace h := rb_ifp c13 h
          refine rb_iinc hC 6 [(5, .int (x5 + 1)), (6, .int r11), (0, .ref (rb_ad w 0)), (1, .int x1), (2, .int x2), (3, .int x3), (4, .int x4)] dX12_ask_63 rfl rfl (by decide) rfl ?_
          refine rb_goto hC 27 dX12_ask_66 (by decide) ?_
          exact rb_sub [2, 3, 4, 5, 6, 0] rfl (ih x3 x4 (x5 + 1) s9 _ _ h hE0)
        · replace h := rb_ifn c13 h
          refine rb_iload hC 6 dX12_ask_56 rfl ?_
          refine rb_istore_n hC [(3, .int x5), (6, .int r11), (0, .ref (rb_ad w 0)), (1, .int x1), (2, .int x2), (4, .int x4), (5, .int x5)] dX12_ask_58 (by decide) rfl ?_
          refine rb_iload hC 1 dX12_ask_59 rfl ?_
          refine rb_istore hC [(4, .int r11), (3, .int x5), (6, .int r11), (0, .ref (rb_ad w 0)), (1, .int x1), (2, .int x2), (5, .int x5)] dX12_ask_61 (by decide) rfl ?_
          refine rb_iinc hC 6 [(5, .int (x5 + 1)), (4, .int r11), (3, .int x5), (6, .int r11), (0, .ref (rb_ad w 0)), (1, .int x1), (2, .int x2)] dX12_ask_63 rfl rfl (by decide) rfl ?_
          refine rb_goto hC 27 dX12_ask_66 (by decide) ?_
          exact rb_sub [4, 5, 6, 2, 1, 0] rfl (ih x5 r11 (x5 + 1) s9 _ _ h hE0)
def xf_M_ask (p0 : Int32) (σ : rb_St) : Option (Int32 × rb_St) := rb_b2 (xf_M_fits σ) fun r3 s1 => rb_b1 (xf_M_isDancer p0 s1) fun r4 => if r4 = 0 then some ((-1), s1) else if r3 = 0 then some ((-1), s1) else rb_b2 (xl_M_ask_27 p0 r3 rb_FU (-1) 0 1 s1) fun y14 s15 => some (y14, s15)
set_option maxHeartbeats 4000000 in
set_option maxRecDepth 100000 in
theorem xk_M_ask {z : rb_Z} {w : rb_Wd} (hC : rb_Cx z rb_vM w RX12 cX12_ask 7 (some .int) 5) (p0 : Int32) (σ : rb_St) (r : Int32) (σ9 : rb_St) (h : xf_M_ask p0 σ = some (r, σ9)) : rb_At z rb_vM w 7 (rb_Q z rb_vM w (some (.int r)) σ9) 0 [(0, .ref (rb_ad w 0)), (1, .int p0)] [] σ := by
  unfold xf_M_ask at h
  refine rb_aload_n hC 0 dX12_ask_0 rfl ?_
  obtain ⟨r3, s1, q2, h⟩ := rb_b2s h
  refine rb_callVi hC rb_VokM mv_X12_483 (xc_M_fits  σ _ _ q2) rb_obM0 rfl [] rfl rfl rfl ⟨Nat.le_of_ble_eq_true rfl, Nat.le_of_ble_eq_true rfl⟩ (Nat.le_of_ble_eq_true rfl) dX12_ask_1 ?_
  refine rb_istore_n hC [(2, .int r3), (0, .ref (rb_ad w 0)), (1, .int p0)] dX12_ask_4 (by decide) rfl ?_
  refine rb_aload_n hC 1 dX12_ask_5 rfl ?_
  refine rb_iload_n hC 2 dX12_ask_6 rfl ?_
  obtain ⟨r4, q5, h⟩ := rb_b1s h
  refine rb_callVi hC rb_VokM mv_X12_373 (xc_M_isDancer p0 s1 _ q5) rb_obM0 rfl [.int p0] rfl rfl rfl ⟨Nat.le_of_ble_eq_true rfl, Nat.le_of_ble_eq_true rfl⟩ (Nat.le_of_ble_eq_true rfl) dX12_ask_7 ?_
  refine rb_if_eq hC 17 dX12_ask_10 (by decide) (fun c6 => ?_) (fun c6 => ?_)
  · replace h := rb_ifp c6 h
    refine rb_iconst (x := (-1)) hC dX12_ask_17 (by decide) ?_
    cases h
    exact rb_iret hC dX12_ask_18
  · replace h := rb_ifn c6 h
    refine rb_iload_n hC 0 dX12_ask_13 rfl ?_
    refine rb_if_ne hC 19 dX12_ask_14 (by decide) (fun c7 => ?_) (fun c7 => ?_)
    · replace h := rb_ifn c7 h
      refine rb_iconst (x := (-1)) hC dX12_ask_19 (by decide) ?_
      refine rb_istore_n hC [(3, .int (-1)), (2, .int r3), (0, .ref (rb_ad w 0)), (1, .int p0)] dX12_ask_20 (by decide) rfl ?_
      refine rb_iconst (x := 0) hC dX12_ask_21 (by decide) ?_
      refine rb_istore hC [(4, .int 0), (3, .int (-1)), (2, .int r3), (0, .ref (rb_ad w 0)), (1, .int p0)] dX12_ask_22 (by decide) rfl ?_
      refine rb_iconst (x := 1) hC dX12_ask_24 (by decide) ?_
      refine rb_istore hC [(5, .int 1), (4, .int 0), (3, .int (-1)), (2, .int r3), (0, .ref (rb_ad w 0)), (1, .int p0)] dX12_ask_25 (by decide) rfl ?_
      obtain ⟨y14, s15, q16, h⟩ := rb_b2s h
      refine rb_sub (lv2 := [(0, .ref (rb_ad w 0)), (1, .int p0), (2, .int r3), (3, .int (-1)), (4, .int 0), (5, .int 1)]) [4, 5, 3, 2, 1, 0] rfl ?_
      refine xt_M_ask_27 hC p0 r3 rb_FU (-1) 0 1 s1 _ _ q16 ?_
      refine rb_iload_n hC 0 dX12_ask_69 rfl ?_
      cases h
      exact rb_iret hC dX12_ask_70
    · replace h := rb_ifp c7 h
      refine rb_iconst (x := (-1)) hC dX12_ask_17 (by decide) ?_
      cases h
      exact rb_iret hC dX12_ask_18
theorem xc_M_ask (p0 : Int32) (σ : rb_St) (r : Int32) (σ9 : rb_St) (h : xf_M_ask p0 σ = some (r, σ9)) : rb_Con rb_vM yX12_ask cX12_ask 7 (some .int) 5 (fun w => [.ref (rb_ad w 0), .int p0]) σ (fun _ => (some (.int r))) σ9 := rb_Con.of (by decide +kernel) (fun _ => Nat.le_of_ble_eq_true rfl) (fun z w hC => xk_M_ask hC p0 σ r σ9 h)
theorem me_X12_plait : Cond.instanceMethod yX12_plait ∈ rb_tbl ∧ Cond.selects yX12_plait.cls yX12_plait yX12_plait ∈ rb_tbl ∧ Cond.initialized yX12_plait.cls ∈ rb_tbl ∧ Cond.code yX12_plait cX12_plait 3 (some .int) ∈ rb_tbl ∧ rb_pn yX12_plait 2 := ⟨rb_in (by decide +kernel) (by decide +kernel), rb_in (by decide +kernel) (by decide +kernel), rb_in (by decide +kernel) (by decide +kernel), rb_in (by decide +kernel) (by decide +kernel), by decide +kernel, by decide +kernel, by decide +kernel⟩
theorem mv_X12_489 : rb_MV RX12 489 yX12_plait cX12_plait 3 (some .int) 2 := ⟨rb_in (by decide +kernel) (by decide +kernel), me_X12_plait⟩
def xf_M_stripe (p0 : Int32) (σ : rb_St) : Option (Int32 × rb_St) := rb_b2 (xf_M_plait p0 1 σ) fun r3 s1 => if r3 = (-1) then some ((-1), s1) else rb_b1 (xf_M_told r3 0 s1) fun r5 => some (r5, s1)
set_option maxHeartbeats 4000000 in
set_option maxRecDepth 100000 in
theorem xk_M_stripe {z : rb_Z} {w : rb_Wd} (hC : rb_Cx z rb_vM w RX12 cX12_stripe 3 (some .int) 5) (p0 : Int32) (σ : rb_St) (r : Int32) (σ9 : rb_St) (h : xf_M_stripe p0 σ = some (r, σ9)) : rb_At z rb_vM w 3 (rb_Q z rb_vM w (some (.int r)) σ9) 0 [(0, .ref (rb_ad w 0)), (1, .int p0)] [] σ := by
  unfold xf_M_stripe at h
  refine rb_aload_n hC 0 dX12_stripe_0 rfl ?_
  refine rb_iload_n hC 1 dX12_stripe_1 rfl ?_
  refine rb_iconst (x := 1) hC dX12_stripe_2 (by decide) ?_
  obtain ⟨r3, s1, q2, h⟩ := rb_b2s h
  refine rb_callVi hC rb_VokM mv_X12_489 (xc_M_plait p0 1 σ _ _ q2) rb_obM0 rfl [.int p0, .int 1] rfl rfl rfl ⟨Nat.le_of_ble_eq_true rfl, Nat.le_of_ble_eq_true rfl⟩ (Nat.le_of_ble_eq_true rfl) dX12_stripe_3 ?_
  refine rb_istore_n hC [(2, .int r3), (0, .ref (rb_ad w 0)), (1, .int p0)] dX12_stripe_6 (by decide) rfl ?_
  refine rb_iload_n hC 0 dX12_stripe_7 rfl ?_
  refine rb_iconst (x := (-1)) hC dX12_stripe_8 (by decide) ?_
  refine rb_icmp_ne hC 16 dX12_stripe_9 (by decide) (fun c4 => ?_) (fun c4 => ?_)
  · replace h := rb_ifn c4 h
    refine rb_aload_n hC 1 dX12_stripe_16 rfl ?_
    refine rb_iload_n hC 0 dX12_stripe_17 rfl ?_
    refine rb_iconst (x := 0) hC dX12_stripe_18 (by decide) ?_
    obtain ⟨r5, q6, h⟩ := rb_b1s h
    refine rb_callVi hC rb_VokM mv_X12_286 (xc_M_told r3 0 s1 _ q6) rb_obM0 rfl [.int r3, .int 0] rfl rfl rfl ⟨Nat.le_of_ble_eq_true rfl, Nat.le_of_ble_eq_true rfl⟩ (Nat.le_of_ble_eq_true rfl) dX12_stripe_19 ?_
    cases h
    exact rb_iret hC dX12_stripe_22
  · replace h := rb_ifp c4 h
    refine rb_iconst (x := (-1)) hC dX12_stripe_12 (by decide) ?_
    refine rb_goto hC 22 dX12_stripe_13 (by decide) ?_
    cases h
    exact rb_iret hC dX12_stripe_22
theorem xc_M_stripe (p0 : Int32) (σ : rb_St) (r : Int32) (σ9 : rb_St) (h : xf_M_stripe p0 σ = some (r, σ9)) : rb_Con rb_vM yX12_stripe cX12_stripe 3 (some .int) 5 (fun w => [.ref (rb_ad w 0), .int p0]) σ (fun _ => (some (.int r))) σ9 := rb_Con.of (by decide +kernel) (fun _ => Nat.le_of_ble_eq_true rfl) (fun z w hC => xk_M_stripe hC p0 σ r σ9 h)
def xf_M_gameOf (p0 : Int32) (p1 : Int32) (p2 : Int32) (p3 : Int32) (σ : rb_St) : Option (Int32 × rb_St) := if p1 = 2 then some (0, σ) else if p2 = 2 then some (0, σ) else if p1 = p2 then if p1 = 0 then some ((-2), σ) else some ((-1), σ) else rb_b2 (xf_M_canCross ((2 * p0) + p1) σ) fun r6 s4 => if r6 = 0 then some ((-3), s4) else rb_b1 (xf_M_undoes ((2 * p0) + p1) s4) fun r8 => if r8 = (-1) then if p3 = 0 then if p1 = 0 then rb_b2 (xf_M_takesBy ((2 * p0) + p1) s4) fun r25 s23 => some (6 - r25, s23) else rb_b2 (xf_M_takesBy ((2 * p0) + p1) s4) fun r22 s20 => some (5 - r22, s20) else if p2 = 0 then rb_b2 (xf_M_takesBy ((2 * p0) + p1) s4) fun r18 s16 => some (6 - r18, s16) else rb_b2 (xf_M_takesBy ((2 * p0) + p1) s4) fun r15 s13 => some (5 - r15, s13) else some (4, s4)
set_option maxHeartbeats 4000000 in
set_option maxRecDepth 100000 in
theorem xk_M_gameOf {z : rb_Z} {w : rb_Wd} (hC : rb_Cx z rb_vM w RX12 cX12_gameOf 6 (some .int) 8) (p0 : Int32) (p1 : Int32) (p2 : Int32) (p3 : Int32) (σ : rb_St) (r : Int32) (σ9 : rb_St) (h : xf_M_gameOf p0 p1 p2 p3 σ = some (r, σ9)) : rb_At z rb_vM w 6 (rb_Q z rb_vM w (some (.int r)) σ9) 0 [(0, .ref (rb_ad w 0)), (1, .int p0), (2, .int p1), (3, .int p2), (4, .int p3)] [] σ := by
  unfold xf_M_gameOf at h
  refine rb_iload_n hC 2 dX12_gameOf_0 rfl ?_
  refine rb_iconst (x := 2) hC dX12_gameOf_1 (by decide) ?_
  refine rb_icmp_eq hC 10 dX12_gameOf_2 (by decide) (fun c1 => ?_) (fun c1 => ?_)
  · replace h := rb_ifp c1 h
    refine rb_iconst (x := 0) hC dX12_gameOf_10 (by decide) ?_
    cases h
    exact rb_iret hC dX12_gameOf_11
  · replace h := rb_ifn c1 h
    refine rb_iload_n hC 3 dX12_gameOf_5 rfl ?_
    refine rb_iconst (x := 2) hC dX12_gameOf_6 (by decide) ?_
    refine rb_icmp_ne hC 12 dX12_gameOf_7 (by decide) (fun c2 => ?_) (fun c2 => ?_)
    · replace h := rb_ifn c2 h
      refine rb_iload_n hC 2 dX12_gameOf_12 rfl ?_
      refine rb_iload_n hC 3 dX12_gameOf_13 rfl ?_
      refine rb_icmp_ne hC 28 dX12_gameOf_14 (by decide) (fun c3 => ?_) (fun c3 => ?_)
      · replace h := rb_ifn c3 h
        refine rb_iconst (x := 2) hC dX12_gameOf_28 (by decide) ?_
        refine rb_iload_n hC 1 dX12_gameOf_29 rfl ?_
        refine rb_imul hC dX12_gameOf_30 ?_
        refine rb_iload_n hC 2 dX12_gameOf_31 rfl ?_
        refine rb_iadd hC dX12_gameOf_32 ?_
        refine rb_istore hC [(5, .int ((2 * p0) + p1)), (0, .ref (rb_ad w 0)), (1, .int p0), (2, .int p1), (3, .int p2), (4, .int p3)] dX12_gameOf_33 (by decide) rfl ?_
        refine rb_aload_n hC 1 dX12_gameOf_35 rfl ?_
        refine rb_iload hC 0 dX12_gameOf_36 rfl ?_
        obtain ⟨r6, s4, q5, h⟩ := rb_b2s h
        refine rb_callVi hC rb_VokM mv_X12_370 (xc_M_canCross ((2 * p0) + p1) σ _ _ q5) rb_obM0 rfl [.int ((2 * p0) + p1)] rfl rfl rfl ⟨Nat.le_of_ble_eq_true rfl, Nat.le_of_ble_eq_true rfl⟩ (Nat.le_of_ble_eq_true rfl) dX12_gameOf_38 ?_
        refine rb_if_ne hC 47 dX12_gameOf_41 (by decide) (fun c7 => ?_) (fun c7 => ?_)
        · replace h := rb_ifn c7 h
          refine rb_aload_n hC 1 dX12_gameOf_47 rfl ?_
          refine rb_iload hC 0 dX12_gameOf_48 rfl ?_
          obtain ⟨r8, q9, h⟩ := rb_b1s h
          refine rb_callVi hC rb_VokM mv_X12_340 (xc_M_undoes ((2 * p0) + p1) s4 _ q9) rb_obM0 rfl [.int ((2 * p0) + p1)] rfl rfl rfl ⟨Nat.le_of_ble_eq_true rfl, Nat.le_of_ble_eq_true rfl⟩ (Nat.le_of_ble_eq_true rfl) dX12_gameOf_50 ?_
          refine rb_iconst (x := (-1)) hC dX12_gameOf_53 (by decide) ?_
          refine rb_icmp_eq hC 59 dX12_gameOf_54 (by decide) (fun c10 => ?_) (fun c10 => ?_)
          · replace h := rb_ifp c10 h
            refine rb_iload hC 5 dX12_gameOf_59 rfl ?_
            refine rb_if_ne hC 68 dX12_gameOf_61 (by decide) (fun c11 => ?_) (fun c11 => ?_)
            · replace h := rb_ifn c11 h
              refine rb_iload_n hC 4 dX12_gameOf_68 rfl ?_
              refine rb_if_ne hC 77 dX12_gameOf_69 (by decide) (fun c12 => ?_) (fun c12 => ?_)
              · replace h := rb_ifn c12 h
                refine rb_iconst (x := 5) hC dX12_gameOf_77 (by decide) ?_
                refine rb_aload_n hC 1 dX12_gameOf_78 rfl ?_
                refine rb_iload hC 0 dX12_gameOf_79 rfl ?_
                obtain ⟨r15, s13, q14, h⟩ := rb_b2s h
                refine rb_callVi hC rb_VokM mv_X12_337 (xc_M_takesBy ((2 * p0) + p1) s4 _ _ q14) rb_obM0 rfl [.int ((2 * p0) + p1)] rfl rfl rfl ⟨Nat.le_of_ble_eq_true rfl, Nat.le_of_ble_eq_true rfl⟩ (Nat.le_of_ble_eq_true rfl) dX12_gameOf_81 ?_
                refine rb_isub hC dX12_gameOf_84 ?_
                cases h
                exact rb_iret hC dX12_gameOf_85
              · replace h := rb_ifp c12 h
                refine rb_bipush (x := 6) hC dX12_gameOf_72 (by decide) ?_
                refine rb_goto hC 78 dX12_gameOf_74 (by decide) ?_
                refine rb_aload_n hC 1 dX12_gameOf_78 rfl ?_
                refine rb_iload hC 0 dX12_gameOf_79 rfl ?_
                obtain ⟨r18, s16, q17, h⟩ := rb_b2s h
                refine rb_callVi hC rb_VokM mv_X12_337 (xc_M_takesBy ((2 * p0) + p1) s4 _ _ q17) rb_obM0 rfl [.int ((2 * p0) + p1)] rfl rfl rfl ⟨Nat.le_of_ble_eq_true rfl, Nat.le_of_ble_eq_true rfl⟩ (Nat.le_of_ble_eq_true rfl) dX12_gameOf_81 ?_
                refine rb_isub hC dX12_gameOf_84 ?_
                cases h
                exact rb_iret hC dX12_gameOf_85
            · replace h := rb_ifp c11 h
              refine rb_iload_n hC 3 dX12_gameOf_64 rfl ?_
              refine rb_goto hC 69 dX12_gameOf_65 (by decide) ?_
              refine rb_if_ne hC 77 dX12_gameOf_69 (by decide) (fun c19 => ?_) (fun c19 => ?_)
              · replace h := rb_ifn c19 h
                refine rb_iconst (x := 5) hC dX12_gameOf_77 (by decide) ?_
                refine rb_aload_n hC 1 dX12_gameOf_78 rfl ?_
                refine rb_iload hC 0 dX12_gameOf_79 rfl ?_
                obtain ⟨r22, s20, q21, h⟩ := rb_b2s h
                refine rb_callVi hC rb_VokM mv_X12_337 (xc_M_takesBy ((2 * p0) + p1) s4 _ _ q21) rb_obM0 rfl [.int ((2 * p0) + p1)] rfl rfl rfl ⟨Nat.le_of_ble_eq_true rfl, Nat.le_of_ble_eq_true rfl⟩ (Nat.le_of_ble_eq_true rfl) dX12_gameOf_81 ?_
                refine rb_isub hC dX12_gameOf_84 ?_
                cases h
                exact rb_iret hC dX12_gameOf_85
              · replace h := rb_ifp c19 h
                refine rb_bipush (x := 6) hC dX12_gameOf_72 (by decide) ?_
                refine rb_goto hC 78 dX12_gameOf_74 (by decide) ?_
                refine rb_aload_n hC 1 dX12_gameOf_78 rfl ?_
                refine rb_iload hC 0 dX12_gameOf_79 rfl ?_
                obtain ⟨r25, s23, q24, h⟩ := rb_b2s h
                refine rb_callVi hC rb_VokM mv_X12_337 (xc_M_takesBy ((2 * p0) + p1) s4 _ _ q24) rb_obM0 rfl [.int ((2 * p0) + p1)] rfl rfl rfl ⟨Nat.le_of_ble_eq_true rfl, Nat.le_of_ble_eq_true rfl⟩ (Nat.le_of_ble_eq_true rfl) dX12_gameOf_81 ?_
                refine rb_isub hC dX12_gameOf_84 ?_
                cases h
                exact rb_iret hC dX12_gameOf_85
          · replace h := rb_ifn c10 h
            refine rb_iconst (x := 4) hC dX12_gameOf_57 (by decide) ?_
            cases h
            exact rb_iret hC dX12_gameOf_58
        · replace h := rb_ifp c7 h
          refine rb_bipush (x := (-3)) hC dX12_gameOf_44 (by decide) ?_
          cases h
          exact rb_iret hC dX12_gameOf_46
      · replace h := rb_ifp c3 h
        refine rb_iload_n hC 2 dX12_gameOf_17 rfl ?_
        refine rb_if_ne hC 26 dX12_gameOf_18 (by decide) (fun c26 => ?_) (fun c26 => ?_)
        · replace h := rb_ifn c26 h
          refine rb_iconst (x := (-1)) hC dX12_gameOf_26 (by decide) ?_
          cases h
          exact rb_iret hC dX12_gameOf_27
        · replace h := rb_ifp c26 h
          refine rb_bipush (x := (-2)) hC dX12_gameOf_21 (by decide) ?_
          refine rb_goto hC 27 dX12_gameOf_23 (by decide) ?_
          cases h
          exact rb_iret hC dX12_gameOf_27
    · replace h := rb_ifp c2 h
      refine rb_iconst (x := 0) hC dX12_gameOf_10 (by decide) ?_
      cases h
      exact rb_iret hC dX12_gameOf_11
theorem xc_M_gameOf (p0 : Int32) (p1 : Int32) (p2 : Int32) (p3 : Int32) (σ : rb_St) (r : Int32) (σ9 : rb_St) (h : xf_M_gameOf p0 p1 p2 p3 σ = some (r, σ9)) : rb_Con rb_vM yX12_gameOf cX12_gameOf 6 (some .int) 8 (fun w => [.ref (rb_ad w 0), .int p0, .int p1, .int p2, .int p3]) σ (fun _ => (some (.int r))) σ9 := rb_Con.of (by decide +kernel) (fun _ => Nat.le_of_ble_eq_true rfl) (fun z w hC => xk_M_gameOf hC p0 p1 p2 p3 σ r σ9 h)
theorem me_X12_gameOf : Cond.instanceMethod yX12_gameOf ∈ rb_tbl ∧ Cond.selects yX12_gameOf.cls yX12_gameOf yX12_gameOf ∈ rb_tbl ∧ Cond.initialized yX12_gameOf.cls ∈ rb_tbl ∧ Cond.code yX12_gameOf cX12_gameOf 6 (some .int) ∈ rb_tbl ∧ rb_pn yX12_gameOf 4 := ⟨rb_in (by decide +kernel) (by decide +kernel), rb_in (by decide +kernel) (by decide +kernel), rb_in (by decide +kernel) (by decide +kernel), rb_in (by decide +kernel) (by decide +kernel), by decide +kernel, by decide +kernel, by decide +kernel⟩
theorem mv_X12_492 : rb_MV RX12 492 yX12_gameOf cX12_gameOf 6 (some .int) 4 := ⟨rb_in (by decide +kernel) (by decide +kernel), me_X12_gameOf⟩
def xf_M_game (p0 : Int32) (p1 : Int32) (p2 : Int32) (p3 : Int32) (σ : rb_St) : Option (Int32 × rb_St) := rb_b1 (xf_M_isDancer p0 σ) fun r1 => if r1 = 0 then some ((-1000000), σ) else if (xf_M_in p1 0 2 σ) = 0 then some ((-1000000), σ) else if (xf_M_in p2 0 2 σ) = 0 then some ((-1000000), σ) else if (xf_M_in p3 0 1 σ) = 0 then some ((-1000000), σ) else rb_b2 (xf_M_gameOf p0 p1 p2 p3 σ) fun r9 s7 => some (r9, s7)
set_option maxHeartbeats 4000000 in
set_option maxRecDepth 100000 in
theorem xk_M_game {z : rb_Z} {w : rb_Wd} (hC : rb_Cx z rb_vM w RX12 cX12_game 5 (some .int) 9) (p0 : Int32) (p1 : Int32) (p2 : Int32) (p3 : Int32) (σ : rb_St) (r : Int32) (σ9 : rb_St) (h : xf_M_game p0 p1 p2 p3 σ = some (r, σ9)) : rb_At z rb_vM w 5 (rb_Q z rb_vM w (some (.int r)) σ9) 0 [(0, .ref (rb_ad w 0)), (1, .int p0), (2, .int p1), (3, .int p2), (4, .int p3)] [] σ := by
  unfold xf_M_game at h
  refine rb_aload_n hC 0 dX12_game_0 rfl ?_
  refine rb_iload_n hC 1 dX12_game_1 rfl ?_
  obtain ⟨r1, q2, h⟩ := rb_b1s h
  refine rb_callVi hC rb_VokM mv_X12_373 (xc_M_isDancer p0 σ _ q2) rb_obM0 rfl [.int p0] rfl rfl rfl ⟨Nat.le_of_ble_eq_true rfl, Nat.le_of_ble_eq_true rfl⟩ (Nat.le_of_ble_eq_true rfl) dX12_game_2 ?_
  refine rb_if_eq hC 48 dX12_game_5 (by decide) (fun c3 => ?_) (fun c3 => ?_)
  · replace h := rb_ifp c3 h
    refine rb_ldc_w hC kc_X12_433 dX12_game_48 ?_
    cases h
    exact rb_iret hC dX12_game_51
  · replace h := rb_ifn c3 h
    refine rb_iload_n hC 2 dX12_game_8 rfl ?_
    refine rb_iconst (x := 0) hC dX12_game_9 (by decide) ?_
    refine rb_iconst (x := 2) hC dX12_game_10 (by decide) ?_
    refine rb_callSi hC rb_VokM mv_X12_229 (xc_M_in p1 0 2 σ _ rfl) [.int p1, .int 0, .int 2] rfl rfl rfl ⟨Nat.le_of_ble_eq_true rfl, Nat.le_of_ble_eq_true rfl⟩ (Nat.le_of_ble_eq_true rfl) dX12_game_11 ?_
    refine rb_if_eq hC 48 dX12_game_14 (by decide) (fun c4 => ?_) (fun c4 => ?_)
    · replace h := rb_ifp c4 h
      refine rb_ldc_w hC kc_X12_433 dX12_game_48 ?_
      cases h
      exact rb_iret hC dX12_game_51
    · replace h := rb_ifn c4 h
      refine rb_iload_n hC 3 dX12_game_17 rfl ?_
      refine rb_iconst (x := 0) hC dX12_game_18 (by decide) ?_
      refine rb_iconst (x := 2) hC dX12_game_19 (by decide) ?_
      refine rb_callSi hC rb_VokM mv_X12_229 (xc_M_in p2 0 2 σ _ rfl) [.int p2, .int 0, .int 2] rfl rfl rfl ⟨Nat.le_of_ble_eq_true rfl, Nat.le_of_ble_eq_true rfl⟩ (Nat.le_of_ble_eq_true rfl) dX12_game_20 ?_
      refine rb_if_eq hC 48 dX12_game_23 (by decide) (fun c5 => ?_) (fun c5 => ?_)
      · replace h := rb_ifp c5 h
        refine rb_ldc_w hC kc_X12_433 dX12_game_48 ?_
        cases h
        exact rb_iret hC dX12_game_51
      · replace h := rb_ifn c5 h
        refine rb_iload hC 4 dX12_game_26 rfl ?_
        refine rb_iconst (x := 0) hC dX12_game_28 (by decide) ?_
        refine rb_iconst (x := 1) hC dX12_game_29 (by decide) ?_
        refine rb_callSi hC rb_VokM mv_X12_229 (xc_M_in p3 0 1 σ _ rfl) [.int p3, .int 0, .int 1] rfl rfl rfl ⟨Nat.le_of_ble_eq_true rfl, Nat.le_of_ble_eq_true rfl⟩ (Nat.le_of_ble_eq_true rfl) dX12_game_30 ?_
        refine rb_if_eq hC 48 dX12_game_33 (by decide) (fun c6 => ?_) (fun c6 => ?_)
        · replace h := rb_ifp c6 h
          refine rb_ldc_w hC kc_X12_433 dX12_game_48 ?_
          cases h
          exact rb_iret hC dX12_game_51
        · replace h := rb_ifn c6 h
          refine rb_aload_n hC 0 dX12_game_36 rfl ?_
          refine rb_iload_n hC 1 dX12_game_37 rfl ?_
          refine rb_iload_n hC 2 dX12_game_38 rfl ?_
          refine rb_iload_n hC 3 dX12_game_39 rfl ?_
          refine rb_iload hC 4 dX12_game_40 rfl ?_
          obtain ⟨r9, s7, q8, h⟩ := rb_b2s h
          refine rb_callVi hC rb_VokM mv_X12_492 (xc_M_gameOf p0 p1 p2 p3 σ _ _ q8) rb_obM0 rfl [.int p0, .int p1, .int p2, .int p3] rfl rfl rfl ⟨Nat.le_of_ble_eq_true rfl, Nat.le_of_ble_eq_true rfl⟩ (Nat.le_of_ble_eq_true rfl) dX12_game_42 ?_
          refine rb_goto hC 51 dX12_game_45 (by decide) ?_
          cases h
          exact rb_iret hC dX12_game_51
theorem xc_M_game (p0 : Int32) (p1 : Int32) (p2 : Int32) (p3 : Int32) (σ : rb_St) (r : Int32) (σ9 : rb_St) (h : xf_M_game p0 p1 p2 p3 σ = some (r, σ9)) : rb_Con rb_vM yX12_game cX12_game 5 (some .int) 9 (fun w => [.ref (rb_ad w 0), .int p0, .int p1, .int p2, .int p3]) σ (fun _ => (some (.int r))) σ9 := rb_Con.of (by decide +kernel) (fun _ => Nat.le_of_ble_eq_true rfl) (fun z w hC => xk_M_game hC p0 p1 p2 p3 σ r σ9 h)
def xl_M_isRest_3 (x1 : Int32) (x2 : Int32) (x3 : Int32) : Nat → Int32 → rb_St → Option (Nat × rb_St)
  | 0, _, _ => none
  | n + 1, x4, σ => if 3 ≤ x4 then some (1, σ) else rb_b2 (xf_M_gameOf x1 x4 x3 0 σ) fun r4 s2 => rb_b2 (xf_M_gameOf x1 x2 x3 0 s2) fun r7 s5 => if r7 < r4 then some (0, s5) else rb_b2 (xf_M_gameOf x1 x2 x4 1 s5) fun r11 s9 => rb_b2 (xf_M_gameOf x1 x2 x3 1 s9) fun r14 s12 => if r11 ≤ r14 then xl_M_isRest_3 x1 x2 x3 n (x4 + 1) s12 else some (0, s12)
set_option maxHeartbeats 4000000 in
set_option maxRecDepth 100000 in
theorem xt_M_isRest_3 {z : rb_Z} {w : rb_Wd} {Q : State → Prop} (hC : rb_Cx z rb_vM w RX12 cX12_isRest 5 (some .boolean) 9) (x1 : Int32) (x2 : Int32) (x3 : Int32) : ∀ (n : Nat) (x4 : Int32) (σ : rb_St) (t : Nat) (σ9 : rb_St), xl_M_isRest_3 x1 x2 x3 n x4 σ = some (t, σ9) → (t = 0 → rb_At z rb_vM w 5 Q 49 [] [] σ9) → (t = 1 → rb_At z rb_vM w 5 Q 57 [] [] σ9) → rb_At z rb_vM w 5 Q 3 [(0, .ref (rb_ad w 0)), (1, .int x1), (2, .int x2), (3, .int x3), (4, .int x4)] [] σ := by
  intro n
  induction n with
  | zero =>
    intro x4 σ t σ9 h hE0 hE1
    cases h
  | succ n ih =>
    intro x4 σ t σ9 h hE0 hE1
    rw [xl_M_isRest_3] at h
    refine rb_iload hC 4 dX12_isRest_3 rfl ?_
    refine rb_iconst (x := 3) hC dX12_isRest_5 (by decide) ?_
    refine rb_icmp_ge hC 57 dX12_isRest_6 (by decide) (fun c1 => ?_) (fun c1 => ?_)
    · replace h := rb_ifp c1 h
      cases h
      exact rb_sub [] rfl (hE1 rfl)
    · replace h := rb_ifn c1 h
      refine rb_aload_n hC 0 dX12_isRest_9 rfl ?_
      refine rb_iload_n hC 1 dX12_isRest_10 rfl ?_
      refine rb_iload hC 4 dX12_isRest_11 rfl ?_
      refine rb_iload_n hC 3 dX12_isRest_13 rfl ?_
      refine rb_iconst (x := 0) hC dX12_isRest_14 (by decide) ?_
      obtain ⟨r4, s2, q3, h⟩ := rb_b2s h
      refine rb_callVi hC rb_VokM mv_X12_492 (xc_M_gameOf x1 x4 x3 0 σ _ _ q3) rb_obM0 rfl [.int x1, .int x4, .int x3, .int 0] rfl rfl rfl ⟨Nat.le_of_ble_eq_true rfl, Nat.le_of_ble_eq_true rfl⟩ (Nat.le_of_ble_eq_true rfl) dX12_isRest_15 ?_
      refine rb_aload_n hC 0 dX12_isRest_18 rfl ?_
      refine rb_iload_n hC 1 dX12_isRest_19 rfl ?_
      refine rb_iload_n hC 2 dX12_isRest_20 rfl ?_
      refine rb_iload_n hC 3 dX12_isRest_21 rfl ?_
      refine rb_iconst (x := 0) hC dX12_isRest_22 (by decide) ?_
      obtain ⟨r7, s5, q6, h⟩ := rb_b2s h
      refine rb_callVi hC rb_VokM mv_X12_492 (xc_M_gameOf x1 x2 x3 0 s2 _ _ q6) rb_obM0 rfl [.int x1, .int x2, .int x3, .int 0] rfl rfl rfl ⟨Nat.le_of_ble_eq_true rfl, Nat.le_of_ble_eq_true rfl⟩ (Nat.le_of_ble_eq_true rfl) dX12_isRest_23 ?_
      refine rb_icmp_gt hC 49 dX12_isRest_26 (by decide) (fun c8 => ?_) (fun c8 => ?_)
      · replace h := rb_ifp c8 h
        cases h
        exact rb_sub [] rfl (hE0 rfl)
      · replace h := rb_ifn c8 h
        refine rb_aload_n hC 0 dX12_isRest_29 rfl ?_
        refine rb_iload_n hC 1 dX12_isRest_30 rfl ?_
        refine rb_iload_n hC 2 dX12_isRest_31 rfl ?_
        refine rb_iload hC 4 dX12_isRest_32 rfl ?_
        refine rb_iconst (x := 1) hC dX12_isRest_34 (by decide) ?_
        obtain ⟨r11, s9, q10, h⟩ := rb_b2s h
        refine rb_callVi hC rb_VokM mv_X12_492 (xc_M_gameOf x1 x2 x4 1 s5 _ _ q10) rb_obM0 rfl [.int x1, .int x2, .int x4, .int 1] rfl rfl rfl ⟨Nat.le_of_ble_eq_true rfl, Nat.le_of_ble_eq_true rfl⟩ (Nat.le_of_ble_eq_true rfl) dX12_isRest_35 ?_
        refine rb_aload_n hC 0 dX12_isRest_38 rfl ?_
        refine rb_iload_n hC 1 dX12_isRest_39 rfl ?_
        refine rb_iload_n hC 2 dX12_isRest_40 rfl ?_
        refine rb_iload_n hC 3 dX12_isRest_41 rfl ?_
        refine rb_iconst (x := 1) hC dX12_isRest_42 (by decide) ?_
        obtain ⟨r14, s12, q13, h⟩ := rb_b2s h
        refine rb_callVi hC rb_VokM mv_X12_492 (xc_M_gameOf x1 x2 x3 1 s9 _ _ q13) rb_obM0 rfl [.int x1, .int x2, .int x3, .int 1] rfl rfl rfl ⟨Nat.le_of_ble_eq_true rfl, Nat.le_of_ble_eq_true rfl⟩ (Nat.le_of_ble_eq_true rfl) dX12_isRest_43 ?_
        refine rb_icmp_le hC 51 dX12_isRest_46 (by decide) (fun c15 => ?_) (fun c15 => ?_)
        · replace h := rb_ifp c15 h
          refine rb_iinc hC 4 [(4, .int (x4 + 1)), (0, .ref (rb_ad w 0)), (1, .int x1), (2, .int x2), (3, .int x3)] dX12_isRest_51 rfl rfl (by decide) rfl ?_
          refine rb_goto hC 3 dX12_isRest_54 (by decide) ?_
          exact rb_sub [1, 2, 3, 4, 0] rfl (ih (x4 + 1) s12 _ _ h hE0 hE1)
        · replace h := rb_ifn c15 h
          cases h
          exact rb_sub [] rfl (hE0 rfl)
def xf_M_isRest (p0 : Int32) (p1 : Int32) (p2 : Int32) (σ : rb_St) : Option (Int32 × rb_St) := rb_b2 (xl_M_isRest_3 p0 p1 p2 rb_FU 0 σ) fun t16 s17 => if t16 = 0 then some (0, s17) else some (1, s17)
set_option maxHeartbeats 4000000 in
set_option maxRecDepth 100000 in
theorem xk_M_isRest {z : rb_Z} {w : rb_Wd} (hC : rb_Cx z rb_vM w RX12 cX12_isRest 5 (some .boolean) 9) (p0 : Int32) (p1 : Int32) (p2 : Int32) (σ : rb_St) (r : Int32) (σ9 : rb_St) (h : xf_M_isRest p0 p1 p2 σ = some (r, σ9)) : rb_At z rb_vM w 5 (rb_Q z rb_vM w (some (.int r)) σ9) 0 [(0, .ref (rb_ad w 0)), (1, .int p0), (2, .int p1), (3, .int p2)] [] σ := by
  unfold xf_M_isRest at h
  refine rb_iconst (x := 0) hC dX12_isRest_0 (by decide) ?_
  refine rb_istore hC [(4, .int 0), (0, .ref (rb_ad w 0)), (1, .int p0), (2, .int p1), (3, .int p2)] dX12_isRest_1 (by decide) rfl ?_
  obtain ⟨t16, s17, q18, h⟩ := rb_b2s h
  refine rb_sub (lv2 := [(0, .ref (rb_ad w 0)), (1, .int p0), (2, .int p1), (3, .int p2), (4, .int 0)]) [1, 2, 3, 4, 0] rfl ?_
  refine xt_M_isRest_3 hC p0 p1 p2 rb_FU 0 σ _ _ q18 (fun ht => ?_) (fun ht => ?_)
  · subst ht
    replace h := rb_ifp rfl h
    refine rb_iconst (x := 0) hC dX12_isRest_49 (by decide) ?_
    cases h
    exact rb_zret hC rfl dX12_isRest_50
  · subst ht
    replace h := rb_ifn (by decide) h
    refine rb_iconst (x := 1) hC dX12_isRest_57 (by decide) ?_
    cases h
    exact rb_zret hC rfl dX12_isRest_58
theorem xc_M_isRest (p0 : Int32) (p1 : Int32) (p2 : Int32) (σ : rb_St) (r : Int32) (σ9 : rb_St) (h : xf_M_isRest p0 p1 p2 σ = some (r, σ9)) : rb_Con rb_vM yX12_isRest cX12_isRest 5 (some .boolean) 9 (fun w => [.ref (rb_ad w 0), .int p0, .int p1, .int p2]) σ (fun _ => (some (.int r))) σ9 := rb_Con.of (by decide +kernel) (fun _ => Nat.le_of_ble_eq_true rfl) (fun z w hC => xk_M_isRest hC p0 p1 p2 σ r σ9 h)
theorem me_X12_isRest : Cond.instanceMethod yX12_isRest ∈ rb_tbl ∧ Cond.selects yX12_isRest.cls yX12_isRest yX12_isRest ∈ rb_tbl ∧ Cond.initialized yX12_isRest.cls ∈ rb_tbl ∧ Cond.code yX12_isRest cX12_isRest 5 (some .boolean) ∈ rb_tbl ∧ rb_pn yX12_isRest 3 := ⟨rb_in (by decide +kernel) (by decide +kernel), rb_in (by decide +kernel) (by decide +kernel), rb_in (by decide +kernel) (by decide +kernel), rb_in (by decide +kernel) (by decide +kernel), by decide +kernel, by decide +kernel, by decide +kernel⟩
theorem mv_X12_496 : rb_MV RX12 496 yX12_isRest cX12_isRest 5 (some .boolean) 3 := ⟨rb_in (by decide +kernel) (by decide +kernel), me_X12_isRest⟩
def xl_M_rests_20 (x1 : Int32) (x2 : Int32) : Nat → Int32 → Int32 → rb_St → Option (Nat × Int32 × Int32 × rb_St)
  | 0, _, _, _ => none
  | n + 1, x3, x4, σ => if 9 ≤ x4 then some (1, x3, x4, σ) else rb_b2 (xf_M_isRest x1 (x4 / 3) (x4 - x4 / 3 * 3) σ) fun r8 s6 => if r8 = 0 then xl_M_rests_20 x1 x2 n x3 (x4 + 1) s6 else if x3 = x2 then some (0, x3, x4, s6) else xl_M_rests_20 x1 x2 n (x3 + 1) (x4 + 1) s6
set_option maxHeartbeats 4000000 in
set_option maxRecDepth 100000 in
theorem xt_M_rests_20 {z : rb_Z} {w : rb_Wd} {Q : State → Prop} (hC : rb_Cx z rb_vM w RX12 cX12_rests 5 (some .int) 10) (x1 : Int32) (x2 : Int32) : ∀ (n : Nat) (x3 : Int32) (x4 : Int32) (σ : rb_St) (t : Nat) (y3 : Int32) (y4 : Int32) (σ9 : rb_St), xl_M_rests_20 x1 x2 n x3 x4 σ = some (t, y3, y4, σ9) → (t = 0 → rb_At z rb_vM w 5 Q 48 [(4, .int y4)] [] σ9) → (t = 1 → rb_At z rb_vM w 5 Q 70 [(2, .int x2), (3, .int y3)] [] σ9) → rb_At z rb_vM w 5 Q 20 [(0, .ref (rb_ad w 0)), (1, .int x1), (2, .int x2), (3, .int x3), (4, .int x4)] [] σ := by
  intro n
  induction n with
  | zero =>
    intro x3 x4 σ t y3 y4 σ9 h hE0 hE1
    cases h
  | succ n ih =>
    intro x3 x4 σ t y3 y4 σ9 h hE0 hE1
    rw [xl_M_rests_20] at h
    refine rb_iload hC 4 dX12_rests_20 rfl ?_
    refine rb_bipush (x := 9) hC dX12_rests_22 (by decide) ?_
    refine rb_icmp_ge hC 70 dX12_rests_24 (by decide) (fun c5 => ?_) (fun c5 => ?_)
    · replace h := rb_ifp c5 h
      cases h
      exact rb_sub [2, 3] rfl (hE1 rfl)
    · replace h := rb_ifn c5 h
      refine rb_aload_n hC 0 dX12_rests_27 rfl ?_
      refine rb_iload_n hC 1 dX12_rests_28 rfl ?_
      refine rb_iload hC 4 dX12_rests_29 rfl ?_
      refine rb_iconst (x := 3) hC dX12_rests_31 (by decide) ?_
      refine rb_idiv hC dX12_rests_32 (by decide) ?_
      refine rb_iload hC 4 dX12_rests_33 rfl ?_
      refine rb_iconst (x := 3) hC dX12_rests_35 (by decide) ?_
      refine rb_irem hC dX12_rests_36 (by decide) ?_
      obtain ⟨r8, s6, q7, h⟩ := rb_b2s h
      refine rb_callVi hC rb_VokM mv_X12_496 (xc_M_isRest x1 (x4 / 3) (x4 - x4 / 3 * 3) σ _ _ q7) rb_obM0 rfl [.int x1, .int (x4 / 3), .int (x4 - x4 / 3 * 3)] rfl rfl rfl ⟨Nat.le_of_ble_eq_true rfl, Nat.le_of_ble_eq_true rfl⟩ (Nat.le_of_ble_eq_true rfl) dX12_rests_37 ?_
      refine rb_if_eq hC 64 dX12_rests_40 (by decide) (fun c9 => ?_) (fun c9 => ?_)
      · replace h := rb_ifp c9 h
        refine rb_iinc hC 4 [(4, .int (x4 + 1)), (0, .ref (rb_ad w 0)), (1, .int x1), (2, .int x2), (3, .int x3)] dX12_rests_64 rfl rfl (by decide) rfl ?_
        refine rb_goto hC 20 dX12_rests_67 (by decide) ?_
        exact rb_sub [1, 2, 3, 4, 0] rfl (ih x3 (x4 + 1) s6 _ _ _ _ h hE0 hE1)
      · replace h := rb_ifn c9 h
        refine rb_iload_n hC 3 dX12_rests_43 rfl ?_
        refine rb_iload_n hC 2 dX12_rests_44 rfl ?_
        refine rb_icmp_ne hC 61 dX12_rests_45 (by decide) (fun c10 => ?_) (fun c10 => ?_)
        · replace h := rb_ifn c10 h
          refine rb_iinc hC 3 [(3, .int (x3 + 1)), (0, .ref (rb_ad w 0)), (1, .int x1), (2, .int x2), (4, .int x4)] dX12_rests_61 rfl rfl (by decide) rfl ?_
          refine rb_iinc hC 4 [(4, .int (x4 + 1)), (3, .int (x3 + 1)), (0, .ref (rb_ad w 0)), (1, .int x1), (2, .int x2)] dX12_rests_64 rfl rfl (by decide) rfl ?_
          refine rb_goto hC 20 dX12_rests_67 (by decide) ?_
          exact rb_sub [2, 3, 4, 1, 0] rfl (ih (x3 + 1) (x4 + 1) s6 _ _ _ _ h hE0 hE1)
        · replace h := rb_ifp c10 h
          cases h
          exact rb_sub [4] rfl (hE0 rfl)
def xf_M_rests (p0 : Int32) (p1 : Int32) (σ : rb_St) : Option (Int32 × rb_St) := rb_b1 (xf_M_isDancer p0 σ) fun r1 => if r1 = 0 then some ((-1), σ) else if (-1) ≤ p1 then rb_b4 (xl_M_rests_20 p0 p1 rb_FU 0 0 σ) fun t11 y12 y13 s14 => if t11 = 0 then some ((10 * (y13 / 3)) + (y13 - y13 / 3 * 3), s14) else if p1 = (-1) then some (y12, s14) else some ((-1), s14) else some ((-1), σ)
set_option maxHeartbeats 4000000 in
set_option maxRecDepth 100000 in
theorem xk_M_rests {z : rb_Z} {w : rb_Wd} (hC : rb_Cx z rb_vM w RX12 cX12_rests 5 (some .int) 10) (p0 : Int32) (p1 : Int32) (σ : rb_St) (r : Int32) (σ9 : rb_St) (h : xf_M_rests p0 p1 σ = some (r, σ9)) : rb_At z rb_vM w 5 (rb_Q z rb_vM w (some (.int r)) σ9) 0 [(0, .ref (rb_ad w 0)), (1, .int p0), (2, .int p1)] [] σ := by
  unfold xf_M_rests at h
  refine rb_aload_n hC 0 dX12_rests_0 rfl ?_
  refine rb_iload_n hC 1 dX12_rests_1 rfl ?_
  obtain ⟨r1, q2, h⟩ := rb_b1s h
  refine rb_callVi hC rb_VokM mv_X12_373 (xc_M_isDancer p0 σ _ q2) rb_obM0 rfl [.int p0] rfl rfl rfl ⟨Nat.le_of_ble_eq_true rfl, Nat.le_of_ble_eq_true rfl⟩ (Nat.le_of_ble_eq_true rfl) dX12_rests_2 ?_
  refine rb_if_eq hC 13 dX12_rests_5 (by decide) (fun c3 => ?_) (fun c3 => ?_)
  · replace h := rb_ifp c3 h
    refine rb_iconst (x := (-1)) hC dX12_rests_13 (by decide) ?_
    cases h
    exact rb_iret hC dX12_rests_14
  · replace h := rb_ifn c3 h
    refine rb_iload_n hC 2 dX12_rests_8 rfl ?_
    refine rb_iconst (x := (-1)) hC dX12_rests_9 (by decide) ?_
    refine rb_icmp_ge hC 15 dX12_rests_10 (by decide) (fun c4 => ?_) (fun c4 => ?_)
    · replace h := rb_ifp c4 h
      refine rb_iconst (x := 0) hC dX12_rests_15 (by decide) ?_
      refine rb_istore_n hC [(3, .int 0), (0, .ref (rb_ad w 0)), (1, .int p0), (2, .int p1)] dX12_rests_16 (by decide) rfl ?_
      refine rb_iconst (x := 0) hC dX12_rests_17 (by decide) ?_
      refine rb_istore hC [(4, .int 0), (3, .int 0), (0, .ref (rb_ad w 0)), (1, .int p0), (2, .int p1)] dX12_rests_18 (by decide) rfl ?_
      obtain ⟨t11, y12, y13, s14, q15, h⟩ := rb_b4s h
      refine rb_sub (lv2 := [(0, .ref (rb_ad w 0)), (1, .int p0), (2, .int p1), (3, .int 0), (4, .int 0)]) [2, 3, 4, 1, 0] rfl ?_
      refine xt_M_rests_20 hC p0 p1 rb_FU 0 0 σ _ _ _ _ q15 (fun ht => ?_) (fun ht => ?_)
      · subst ht
        replace h := rb_ifp rfl h
        refine rb_bipush (x := 10) hC dX12_rests_48 (by decide) ?_
        refine rb_iload hC 0 dX12_rests_50 rfl ?_
        refine rb_iconst (x := 3) hC dX12_rests_52 (by decide) ?_
        refine rb_idiv hC dX12_rests_53 (by decide) ?_
        refine rb_imul hC dX12_rests_54 ?_
        refine rb_iload hC 0 dX12_rests_55 rfl ?_
        refine rb_iconst (x := 3) hC dX12_rests_57 (by decide) ?_
        refine rb_irem hC dX12_rests_58 (by decide) ?_
        refine rb_iadd hC dX12_rests_59 ?_
        cases h
        exact rb_iret hC dX12_rests_60
      · subst ht
        replace h := rb_ifn (by decide) h
        refine rb_iload_n hC 0 dX12_rests_70 rfl ?_
        refine rb_iconst (x := (-1)) hC dX12_rests_71 (by decide) ?_
        refine rb_icmp_ne hC 79 dX12_rests_72 (by decide) (fun c16 => ?_) (fun c16 => ?_)
        · replace h := rb_ifn c16 h
          refine rb_iconst (x := (-1)) hC dX12_rests_79 (by decide) ?_
          cases h
          exact rb_iret hC dX12_rests_80
        · replace h := rb_ifp c16 h
          refine rb_iload_n hC 1 dX12_rests_75 rfl ?_
          refine rb_goto hC 80 dX12_rests_76 (by decide) ?_
          cases h
          exact rb_iret hC dX12_rests_80
    · replace h := rb_ifn c4 h
      refine rb_iconst (x := (-1)) hC dX12_rests_13 (by decide) ?_
      cases h
      exact rb_iret hC dX12_rests_14
theorem xc_M_rests (p0 : Int32) (p1 : Int32) (σ : rb_St) (r : Int32) (σ9 : rb_St) (h : xf_M_rests p0 p1 σ = some (r, σ9)) : rb_Con rb_vM yX12_rests cX12_rests 5 (some .int) 10 (fun w => [.ref (rb_ad w 0), .int p0, .int p1]) σ (fun _ => (some (.int r))) σ9 := rb_Con.of (by decide +kernel) (fun _ => Nat.le_of_ble_eq_true rfl) (fun z w hC => xk_M_rests hC p0 p1 σ r σ9 h)
def xl_M_manyBy_6 (x1 : Int32) (x2 : Int32) : Nat → Int32 → rb_St → Option (rb_St)
  | 0, _, _ => none
  | n + 1, x3, σ => if rb_ib x1 7 then if (σ.1 16 x1.toNatClampNeg) ≤ x3 then some σ else rb_b1 (xf_M_stepOf x1 x3 σ) fun r5 => if r5 = 20 then xl_M_manyBy_6 x1 x2 n (x3 + 1) σ else rb_b1 (xf_M_stepOf x1 x3 σ) fun r8 => if (xf_M_has x2 x3 σ) = 0 then rb_b1 (xf_M_addLetter (r8 ^^^ 0) σ) fun s11 => xl_M_manyBy_6 x1 x2 n (x3 + 1) s11 else rb_b1 (xf_M_addLetter (r8 ^^^ 1) σ) fun s13 => xl_M_manyBy_6 x1 x2 n (x3 + 1) s13 else none
set_option maxHeartbeats 4000000 in
set_option maxRecDepth 100000 in
theorem xt_M_manyBy_6 {z : rb_Z} {w : rb_Wd} {Q : State → Prop} (hC : rb_Cx z rb_vM w RX12 cX12_manyBy 4 (some .int) 3) (x1 : Int32) (x2 : Int32) : ∀ (n : Nat) (x3 : Int32) (σ : rb_St) (σ9 : rb_St), xl_M_manyBy_6 x1 x2 n x3 σ = some σ9 → rb_At z rb_vM w 4 Q 57 [(0, .ref (rb_ad w 0))] [] σ9 → rb_At z rb_vM w 4 Q 6 [(0, .ref (rb_ad w 0)), (1, .int x1), (2, .int x2), (3, .int x3)] [] σ := by
  intro n
  induction n with
  | zero =>
    intro x3 σ σ9 h hE0
    cases h
  | succ n ih =>
    intro x3 σ σ9 h hE0
    rw [xl_M_manyBy_6] at h
    refine rb_iload_n hC 3 dX12_manyBy_6 rfl ?_
    refine rb_aload_n hC 0 dX12_manyBy_7 rfl ?_
    refine rb_getR hC fr_X12_55_11 rb_obM0 rfl dX12_manyBy_8 ?_
    refine rb_iload_n hC 1 dX12_manyBy_11 rfl ?_
    obtain ⟨g3, h⟩ := rb_gd h
    refine rb_iald hC rb_arM16 (rb_ibI g3) dX12_manyBy_12 ?_
    refine rb_icmp_ge hC 57 dX12_manyBy_13 (by decide) (fun c4 => ?_) (fun c4 => ?_)
    · replace h := rb_ifp c4 h
      cases h
      exact rb_sub [0] rfl (hE0)
    · replace h := rb_ifn c4 h
      refine rb_aload_n hC 0 dX12_manyBy_16 rfl ?_
      refine rb_iload_n hC 1 dX12_manyBy_17 rfl ?_
      refine rb_iload_n hC 3 dX12_manyBy_18 rfl ?_
      obtain ⟨r5, q6, h⟩ := rb_b1s h
      refine rb_callVi hC rb_VokM mv_X12_410 (xc_M_stepOf x1 x3 σ _ q6) rb_obM0 rfl [.int x1, .int x3] rfl rfl rfl ⟨Nat.le_of_ble_eq_true rfl, Nat.le_of_ble_eq_true rfl⟩ (Nat.le_of_ble_eq_true rfl) dX12_manyBy_19 ?_
      refine rb_bipush (x := 20) hC dX12_manyBy_22 (by decide) ?_
      refine rb_icmp_eq hC 51 dX12_manyBy_24 (by decide) (fun c7 => ?_) (fun c7 => ?_)
      · replace h := rb_ifp c7 h
        refine rb_iinc hC 3 [(3, .int (x3 + 1)), (0, .ref (rb_ad w 0)), (1, .int x1), (2, .int x2)] dX12_manyBy_51 rfl rfl (by decide) rfl ?_
        refine rb_goto hC 6 dX12_manyBy_54 (by decide) ?_
        exact rb_sub [1, 2, 3, 0] rfl (ih (x3 + 1) σ _ h hE0)
      · replace h := rb_ifn c7 h
        refine rb_aload_n hC 0 dX12_manyBy_27 rfl ?_
        refine rb_aload_n hC 0 dX12_manyBy_28 rfl ?_
        refine rb_iload_n hC 1 dX12_manyBy_29 rfl ?_
        refine rb_iload_n hC 3 dX12_manyBy_30 rfl ?_
        obtain ⟨r8, q9, h⟩ := rb_b1s h
        refine rb_callVi hC rb_VokM mv_X12_410 (xc_M_stepOf x1 x3 σ _ q9) rb_obM0 rfl [.int x1, .int x3] rfl rfl rfl ⟨Nat.le_of_ble_eq_true rfl, Nat.le_of_ble_eq_true rfl⟩ (Nat.le_of_ble_eq_true rfl) dX12_manyBy_31 ?_
        refine rb_iload_n hC 2 dX12_manyBy_34 rfl ?_
        refine rb_iload_n hC 3 dX12_manyBy_35 rfl ?_
        refine rb_callSi hC rb_VokM mv_X12_240 (xc_M_has x2 x3 σ _ rfl) [.int x2, .int x3] rfl rfl rfl ⟨Nat.le_of_ble_eq_true rfl, Nat.le_of_ble_eq_true rfl⟩ (Nat.le_of_ble_eq_true rfl) dX12_manyBy_36 ?_
        refine rb_if_eq hC 46 dX12_manyBy_39 (by decide) (fun c10 => ?_) (fun c10 => ?_)
        · replace h := rb_ifp c10 h
          refine rb_iconst (x := 0) hC dX12_manyBy_46 (by decide) ?_
          refine rb_ixor hC dX12_manyBy_47 ?_
          obtain ⟨s11, q12, h⟩ := rb_b1s h
          refine rb_callVv hC rb_VokM mv_X12_444 (xc_M_addLetter (r8 ^^^ 0) σ _ q12) rb_obM0 rfl [.int (r8 ^^^ 0)] rfl rfl rfl ⟨Nat.le_of_ble_eq_true rfl, Nat.le_of_ble_eq_true rfl⟩ (Nat.le_of_ble_eq_true rfl) dX12_manyBy_48 ?_
          refine rb_iinc hC 3 [(3, .int (x3 + 1)), (0, .ref (rb_ad w 0)), (1, .int x1), (2, .int x2)] dX12_manyBy_51 rfl rfl (by decide) rfl ?_
          refine rb_goto hC 6 dX12_manyBy_54 (by decide) ?_
          exact rb_sub [1, 2, 3, 0] rfl (ih (x3 + 1) s11 _ h hE0)
        · replace h := rb_ifn c10 h
          refine rb_iconst (x := 1) hC dX12_manyBy_42 (by decide) ?_
          refine rb_goto hC 47 dX12_manyBy_43 (by decide) ?_
          refine rb_ixor hC dX12_manyBy_47 ?_
          obtain ⟨s13, q14, h⟩ := rb_b1s h
          refine rb_callVv hC rb_VokM mv_X12_444 (xc_M_addLetter (r8 ^^^ 1) σ _ q14) rb_obM0 rfl [.int (r8 ^^^ 1)] rfl rfl rfl ⟨Nat.le_of_ble_eq_true rfl, Nat.le_of_ble_eq_true rfl⟩ (Nat.le_of_ble_eq_true rfl) dX12_manyBy_48 ?_
          refine rb_iinc hC 3 [(3, .int (x3 + 1)), (0, .ref (rb_ad w 0)), (1, .int x1), (2, .int x2)] dX12_manyBy_51 rfl rfl (by decide) rfl ?_
          refine rb_goto hC 6 dX12_manyBy_54 (by decide) ?_
          exact rb_sub [1, 2, 3, 0] rfl (ih (x3 + 1) s13 _ h hE0)
def xf_M_manyBy (p0 : Int32) (p1 : Int32) (σ : rb_St) : Option (Int32 × rb_St) := rb_b1 (xf_M_rowOfPlait σ) fun s1 => rb_b1 (xl_M_manyBy_6 p0 p1 rb_FU 0 s1) fun s15 => some (s15.1 0 33, s15)
set_option maxHeartbeats 4000000 in
set_option maxRecDepth 100000 in
theorem xk_M_manyBy {z : rb_Z} {w : rb_Wd} (hC : rb_Cx z rb_vM w RX12 cX12_manyBy 4 (some .int) 3) (p0 : Int32) (p1 : Int32) (σ : rb_St) (r : Int32) (σ9 : rb_St) (h : xf_M_manyBy p0 p1 σ = some (r, σ9)) : rb_At z rb_vM w 4 (rb_Q z rb_vM w (some (.int r)) σ9) 0 [(0, .ref (rb_ad w 0)), (1, .int p0), (2, .int p1)] [] σ := by
  unfold xf_M_manyBy at h
  refine rb_aload_n hC 0 dX12_manyBy_0 rfl ?_
  obtain ⟨s1, q2, h⟩ := rb_b1s h
  refine rb_callVv hC rb_VokM mv_X12_388 (xc_M_rowOfPlait  σ _ q2) rb_obM0 rfl [] rfl rfl rfl ⟨Nat.le_of_ble_eq_true rfl, Nat.le_of_ble_eq_true rfl⟩ (Nat.le_of_ble_eq_true rfl) dX12_manyBy_1 ?_
  refine rb_iconst (x := 0) hC dX12_manyBy_4 (by decide) ?_
  refine rb_istore_n hC [(3, .int 0), (0, .ref (rb_ad w 0)), (1, .int p0), (2, .int p1)] dX12_manyBy_5 (by decide) rfl ?_
  obtain ⟨s15, q16, h⟩ := rb_b1s h
  refine rb_sub (lv2 := [(0, .ref (rb_ad w 0)), (1, .int p0), (2, .int p1), (3, .int 0)]) [1, 2, 3, 0] rfl ?_
  refine xt_M_manyBy_6 hC p0 p1 rb_FU 0 s1 _ q16 ?_
  refine rb_aload_n hC 0 dX12_manyBy_57 rfl ?_
  refine rb_getI hC fr_X12_382_11 rb_obM0 rfl dX12_manyBy_58 ?_
  cases h
  exact rb_iret hC dX12_manyBy_61
theorem xc_M_manyBy (p0 : Int32) (p1 : Int32) (σ : rb_St) (r : Int32) (σ9 : rb_St) (h : xf_M_manyBy p0 p1 σ = some (r, σ9)) : rb_Con rb_vM yX12_manyBy cX12_manyBy 4 (some .int) 3 (fun w => [.ref (rb_ad w 0), .int p0, .int p1]) σ (fun _ => (some (.int r))) σ9 := rb_Con.of (by decide +kernel) (fun _ => Nat.le_of_ble_eq_true rfl) (fun z w hC => xk_M_manyBy hC p0 p1 σ r σ9 h)
