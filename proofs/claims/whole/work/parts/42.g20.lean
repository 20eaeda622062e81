theorem me_X7_toLetOut : Cond.instanceMethod yX7_toLetOut ∈ rb_tbl ∧ Cond.selects yX7_toLetOut.cls yX7_toLetOut yX7_toLetOut ∈ rb_tbl ∧ Cond.initialized yX7_toLetOut.cls ∈ rb_tbl ∧ Cond.code yX7_toLetOut cX7_toLetOut 6 (some .int) ∈ rb_tbl ∧ rb_pn yX7_toLetOut 1 := ⟨rb_in (by decide +kernel) (by decide +kernel), rb_in (by decide +kernel) (by decide +kernel), rb_in (by decide +kernel) (by decide +kernel), rb_in (by decide +kernel) (by decide +kernel), by decide +kernel, by decide +kernel, by decide +kernel⟩
theorem mv_X11_338 : rb_MV RX11 338 yX7_toLetOut cX7_toLetOut 6 (some .int) 1 := ⟨rb_in (by decide +kernel) (by decide +kernel), me_X7_toLetOut⟩
def xf_RP_letOut (p0 : Int32) (σ : rb_St) : Option Int32 := if (xf_RP_isDancer p0 σ) = 0 then some (-1) else rb_b1 (xf_Pole_toLetOut 18 p0 σ) fun r2 => some r2
set_option maxHeartbeats 4000000 in
set_option maxRecDepth 100000 in
theorem xk_RP_letOut {z : rb_Z} {w : rb_Wd} (hC : rb_Cx z rb_vX w RX11 cX11_letOut 2 (some .int) 3) (p0 : Int32) (σ : rb_St) (r : Int32) (h : xf_RP_letOut p0 σ = some r) : rb_At z rb_vX w 2 (rb_Q z rb_vX w (some (.int r)) σ) 0 [(0, .ref (rb_ad w 0)), (1, .int p0)] [] σ := by
  unfold xf_RP_letOut at h
  refine rb_aload_n hC 0 dX11_letOut_0 rfl ?_
  refine rb_iload_n hC 1 dX11_letOut_1 rfl ?_
  refine rb_callVi hC rb_VokX mv_X11_188 (xc_RP_isDancer p0 σ _ rfl) rb_obX0 rfl [.int p0] rfl rfl rfl ⟨Nat.le_of_ble_eq_true rfl, Nat.le_of_ble_eq_true rfl⟩ (Nat.le_of_ble_eq_true rfl) dX11_letOut_2 ?_
  refine rb_if_eq hC 19 dX11_letOut_5 (by decide) (fun c1 => ?_) (fun c1 => ?_)
  · replace h := rb_ifp c1 h
    refine rb_iconst (x := (-1)) hC dX11_letOut_19 (by decide) ?_
    cases h
    exact rb_iret hC dX11_letOut_20
  · replace h := rb_ifn c1 h
    refine rb_aload_n hC 0 dX11_letOut_8 rfl ?_
    refine rb_getR hC fr_X11_49_10 rb_obX0 rfl dX11_letOut_9 ?_
    refine rb_iload_n hC 1 dX11_letOut_12 rfl ?_
    obtain ⟨r2, q3, h⟩ := rb_b1s h
    refine rb_callVi hC rb_VokX mv_X11_338 (xc_Pole_toLetOut 18 rb_isPole18 p0 σ _ q3) (rb_obPole rb_isPole18) rfl [.int p0] rfl rfl rfl ⟨Nat.le_of_ble_eq_true rfl, Nat.le_of_ble_eq_true rfl⟩ (Nat.le_of_ble_eq_true rfl) dX11_letOut_13 ?_
    refine rb_goto hC 20 dX11_letOut_16 (by decide) ?_
    cases h
    exact rb_iret hC dX11_letOut_20
theorem xc_RP_letOut (p0 : Int32) (σ : rb_St) (r : Int32) (h : xf_RP_letOut p0 σ = some r) : rb_Con rb_vX yX11_letOut cX11_letOut 2 (some .int) 3 (fun w => [.ref (rb_ad w 0), .int p0]) σ (fun _ => (some (.int r))) σ := rb_Con.of (by decide +kernel) (fun _ => Nat.le_of_ble_eq_true rfl) (fun z w hC => xk_RP_letOut hC p0 σ r h)
theorem me_X11_measure : Cond.instanceMethod yX11_measure ∈ rb_tbl ∧ Cond.selects yX11_measure.cls yX11_measure yX11_measure ∈ rb_tbl ∧ Cond.initialized yX11_measure.cls ∈ rb_tbl ∧ Cond.code yX11_measure cX11_measure 3 (some .int) ∈ rb_tbl ∧ rb_pn yX11_measure 2 := ⟨rb_in (by decide +kernel) (by decide +kernel), rb_in (by decide +kernel) (by decide +kernel), rb_in (by decide +kernel) (by decide +kernel), rb_in (by decide +kernel) (by decide +kernel), by decide +kernel, by decide +kernel, by decide +kernel⟩
theorem mv_X11_374 : rb_MV RX11 374 yX11_measure cX11_measure 3 (some .int) 2 := ⟨rb_in (by decide +kernel) (by decide +kernel), me_X11_measure⟩
def xl_RP_foremost_4 (x1 : Int32) (σ : rb_St) : Nat → Int32 → Int32 → Option (Int32)
  | 0, _, _ => none
  | n + 1, x2, x3 => if (σ.1 15 2) ≤ x3 then some x2 else rb_b1 (xf_RP_measure x3 x1 σ) fun r2 => rb_b1 (xf_RP_measure x2 x1 σ) fun r4 => if r2 ≤ r4 then xl_RP_foremost_4 x1 σ n x2 (x3 + 1) else xl_RP_foremost_4 x1 σ n x3 (x3 + 1)
set_option maxHeartbeats 4000000 in
set_option maxRecDepth 100000 in
theorem xt_RP_foremost_4 {z : rb_Z} {w : rb_Wd} {Q : State → Prop} (hC : rb_Cx z rb_vX w RX11 cX11_foremost 4 (some .int) 5) (x1 : Int32) (σ : rb_St) : ∀ (n : Nat) (x2 : Int32) (x3 : Int32) (y2 : Int32), xl_RP_foremost_4 x1 σ n x2 x3 = some y2 → rb_At z rb_vX w 4 Q 38 [(2, .int y2)] [] σ → rb_At z rb_vX w 4 Q 4 [(0, .ref (rb_ad w 0)), (1, .int x1), (2, .int x2), (3, .int x3)] [] σ := by
  intro n
  induction n with
  | zero =>
    intro x2 x3 y2 h hE0
    cases h
  | succ n ih =>
    intro x2 x3 y2 h hE0
    rw [xl_RP_foremost_4] at h
    refine rb_iload_n hC 3 dX11_foremost_4 rfl ?_
    refine rb_aload_n hC 0 dX11_foremost_5 rfl ?_
    refine rb_getR hC fr_X11_42_10 rb_obX0 rfl dX11_foremost_6 ?_
    refine rb_getI hC fr_X11_155_3 rb_obX15 rfl dX11_foremost_9 ?_
    refine rb_icmp_ge hC 38 dX11_foremost_12 (by decide) (fun c1 => ?_) (fun c1 => ?_)
    · replace h := rb_ifp c1 h
      cases h
      exact rb_sub [2] rfl (hE0)
    · replace h := rb_ifn c1 h
      refine rb_aload_n hC 0 dX11_foremost_15 rfl ?_
      refine rb_iload_n hC 3 dX11_foremost_16 rfl ?_
      refine rb_iload_n hC 1 dX11_foremost_17 rfl ?_
      obtain ⟨r2, q3, h⟩ := rb_b1s h
      refine rb_callVi hC rb_VokX mv_X11_374 (xc_RP_measure x3 x1 σ _ q3) rb_obX0 rfl [.int x3, .int x1] rfl rfl rfl ⟨Nat.le_of_ble_eq_true rfl, Nat.le_of_ble_eq_true rfl⟩ (Nat.le_of_ble_eq_true rfl) dX11_foremost_18 ?_
      refine rb_aload_n hC 0 dX11_foremost_21 rfl ?_
      refine rb_iload_n hC 2 dX11_foremost_22 rfl ?_
      refine rb_iload_n hC 1 dX11_foremost_23 rfl ?_
      obtain ⟨r4, q5, h⟩ := rb_b1s h
      refine rb_callVi hC rb_VokX mv_X11_374 (xc_RP_measure x2 x1 σ _ q5) rb_obX0 rfl [.int x2, .int x1] rfl rfl rfl ⟨Nat.le_of_ble_eq_true rfl, Nat.le_of_ble_eq_true rfl⟩ (Nat.le_of_ble_eq_true rfl) dX11_foremost_24 ?_
      refine rb_icmp_le hC 32 dX11_foremost_27 (by decide) (fun c6 => ?_) (fun c6 => ?_)
      · replace h := rb_ifp c6 h
        refine rb_iinc hC 3 [(3, .int (x3 + 1)), (0, .ref (rb_ad w 0)), (1, .int x1), (2, .int x2)] dX11_foremost_32 rfl rfl (by decide) rfl ?_
        refine rb_goto hC 4 dX11_foremost_35 (by decide) ?_
        exact rb_sub [1, 2, 3, 0] rfl (ih x2 (x3 + 1) _ h hE0)
      · replace h := rb_ifn c6 h
        refine rb_iload_n hC 3 dX11_foremost_30 rfl ?_
        refine rb_istore_n hC [(2, .int x3), (0, .ref (rb_ad w 0)), (1, .int x1), (3, .int x3)] dX11_foremost_31 (by decide) rfl ?_
        refine rb_iinc hC 3 [(3, .int (x3 + 1)), (2, .int x3), (0, .ref (rb_ad w 0)), (1, .int x1)] dX11_foremost_32 rfl rfl (by decide) rfl ?_
        refine rb_goto hC 4 dX11_foremost_35 (by decide) ?_
        exact rb_sub [2, 3, 1, 0] rfl (ih x3 (x3 + 1) _ h hE0)
def xf_RP_foremost (p0 : Int32) (σ : rb_St) : Option Int32 := rb_b1 (xl_RP_foremost_4 p0 σ rb_FU 0 1) fun y7 => some y7
set_option maxHeartbeats 4000000 in
set_option maxRecDepth 100000 in
theorem xk_RP_foremost {z : rb_Z} {w : rb_Wd} (hC : rb_Cx z rb_vX w RX11 cX11_foremost 4 (some .int) 5) (p0 : Int32) (σ : rb_St) (r : Int32) (h : xf_RP_foremost p0 σ = some r) : rb_At z rb_vX w 4 (rb_Q z rb_vX w (some (.int r)) σ) 0 [(0, .ref (rb_ad w 0)), (1, .int p0)] [] σ := by
  unfold xf_RP_foremost at h
  refine rb_iconst (x := 0) hC dX11_foremost_0 (by decide) ?_
  refine rb_istore_n hC [(2, .int 0), (0, .ref (rb_ad w 0)), (1, .int p0)] dX11_foremost_1 (by decide) rfl ?_
  refine rb_iconst (x := 1) hC dX11_foremost_2 (by decide) ?_
  refine rb_istore_n hC [(3, .int 1), (2, .int 0), (0, .ref (rb_ad w 0)), (1, .int p0)] dX11_foremost_3 (by decide) rfl ?_
  obtain ⟨y7, q8, h⟩ := rb_b1s h
  refine rb_sub (lv2 := [(0, .ref (rb_ad w 0)), (1, .int p0), (2, .int 0), (3, .int 1)]) [2, 3, 1, 0] rfl ?_
  refine xt_RP_foremost_4 hC p0 σ rb_FU 0 1 _ q8 ?_
  refine rb_iload_n hC 0 dX11_foremost_38 rfl ?_
  cases h
  exact rb_iret hC dX11_foremost_39
theorem xc_RP_foremost (p0 : Int32) (σ : rb_St) (r : Int32) (h : xf_RP_foremost p0 σ = some r) : rb_Con rb_vX yX11_foremost cX11_foremost 4 (some .int) 5 (fun w => [.ref (rb_ad w 0), .int p0]) σ (fun _ => (some (.int r))) σ := rb_Con.of (by decide +kernel) (fun _ => Nat.le_of_ble_eq_true rfl) (fun z w hC => xk_RP_foremost hC p0 σ r h)
def xl_RP_changes_15  (σ : rb_St) : Nat → Int32 → Int32 → Option (Int32)
  | 0, _, _ => none
  | n + 1, x1, x2 => if (σ.1 18 1) ≤ x2 then some x1 else if rb_ib (x2 - 1) 48 then rb_b1 (xf_Green_trait (xf_Pole_overIn (σ.1 235 (x2 - 1).toNatClampNeg) σ) 0 σ) fun r5 => if rb_ib x2 48 then rb_b1 (xf_Green_trait (xf_Pole_overIn (σ.1 235 x2.toNatClampNeg) σ) 0 σ) fun r8 => if r8 = r5 then xl_RP_changes_15 σ n x1 (x2 + 1) else xl_RP_changes_15 σ n (x1 + 1) (x2 + 1) else none else none
set_option maxHeartbeats 4000000 in
set_option maxRecDepth 100000 in
theorem xt_RP_changes_15 {z : rb_Z} {w : rb_Wd} {Q : State → Prop} (hC : rb_Cx z rb_vX w RX11 cX11_changes 4 (some .int) 4)  (σ : rb_St) : ∀ (n : Nat) (x1 : Int32) (x2 : Int32) (y1 : Int32), xl_RP_changes_15 σ n x1 x2 = some y1 → rb_At z rb_vX w 4 Q 76 [(1, .int y1)] [] σ → rb_At z rb_vX w 4 Q 15 [(0, .ref (rb_ad w 0)), (1, .int x1), (2, .int x2)] [] σ := by
  intro n
  induction n with
  | zero =>
    intro x1 x2 y1 h hE0
    cases h
  | succ n ih =>
    intro x1 x2 y1 h hE0
    rw [xl_RP_changes_15] at h
    refine rb_iload_n hC 2 dX11_changes_15 rfl ?_
    refine rb_aload_n hC 0 dX11_changes_16 rfl ?_
    refine rb_getR hC fr_X11_49_10 rb_obX0 rfl dX11_changes_17 ?_
    refine rb_getI hC fr_X11_224_7 (rb_obPole rb_isPole18) rfl dX11_changes_20 ?_
    refine rb_icmp_ge hC 76 dX11_changes_23 (by decide) (fun c3 => ?_) (fun c3 => ?_)
    · replace h := rb_ifp c3 h
      cases h
      exact rb_sub [1] rfl (hE0)
    · replace h := rb_ifn c3 h
      refine rb_aload_n hC 0 dX11_changes_26 rfl ?_
      refine rb_getR hC fr_X11_42_10 rb_obX0 rfl dX11_changes_27 ?_
      refine rb_aload_n hC 0 dX11_changes_30 rfl ?_
      refine rb_getR hC fr_X11_90_10 rb_obX0 rfl dX11_changes_31 ?_
      refine rb_iload_n hC 2 dX11_changes_34 rfl ?_
      refine rb_iconst (x := 1) hC dX11_changes_35 (by decide) ?_
      refine rb_isub hC dX11_changes_36 ?_
      obtain ⟨g4, h⟩ := rb_gd h
      refine rb_iald hC rb_arX235 (rb_ibI g4) dX11_changes_37 ?_
      refine rb_callSi hC rb_VokX mv_X11_232 (xc_Pole_overIn (σ.1 235 (x2 - 1).toNatClampNeg) σ _ rfl) [.int (σ.1 235 (x2 - 1).toNatClampNeg)] rfl rfl rfl ⟨Nat.le_of_ble_eq_true rfl, Nat.le_of_ble_eq_true rfl⟩ (Nat.le_of_ble_eq_true rfl) dX11_changes_38 ?_
      refine rb_iconst (x := 0) hC dX11_changes_41 (by decide) ?_
      obtain ⟨r5, q6, h⟩ := rb_b1s h
      refine rb_callVi hC rb_VokX mv_X11_195 (xc_Green_trait (xf_Pole_overIn (σ.1 235 (x2 - 1).toNatClampNeg) σ) 0 σ _ q6) rb_obX15 rfl [.int (xf_Pole_overIn (σ.1 235 (x2 - 1).toNatClampNeg) σ), .int 0] rfl rfl rfl ⟨Nat.le_of_ble_eq_true rfl, Nat.le_of_ble_eq_true rfl⟩ (Nat.le_of_ble_eq_true rfl) dX11_changes_42 ?_
      refine rb_istore_n hC [(3, .int r5), (0, .ref (rb_ad w 0)), (1, .int x1), (2, .int x2)] dX11_changes_45 (by decide) rfl ?_
      refine rb_aload_n hC 1 dX11_changes_46 rfl ?_
      refine rb_getR hC fr_X11_42_10 rb_obX0 rfl dX11_changes_47 ?_
      refine rb_aload_n hC 1 dX11_changes_50 rfl ?_
      refine rb_getR hC fr_X11_90_10 rb_obX0 rfl dX11_changes_51 ?_
      refine rb_iload_n hC 3 dX11_changes_54 rfl ?_
      obtain ⟨g7, h⟩ := rb_gd h
      refine rb_iald hC rb_arX235 (rb_ibI g7) dX11_changes_55 ?_
      refine rb_callSi hC rb_VokX mv_X11_232 (xc_Pole_overIn (σ.1 235 x2.toNatClampNeg) σ _ rfl) [.int (σ.1 235 x2.toNatClampNeg)] rfl rfl rfl ⟨Nat.le_of_ble_eq_true rfl, Nat.le_of_ble_eq_true rfl⟩ (Nat.le_of_ble_eq_true rfl) dX11_changes_56 ?_
      refine rb_iconst (x := 0) hC dX11_changes_59 (by decide) ?_
      obtain ⟨r8, q9, h⟩ := rb_b1s h
      refine rb_callVi hC rb_VokX mv_X11_195 (xc_Green_trait (xf_Pole_overIn (σ.1 235 x2.toNatClampNeg) σ) 0 σ _ q9) rb_obX15 rfl [.int (xf_Pole_overIn (σ.1 235 x2.toNatClampNeg) σ), .int 0] rfl rfl rfl ⟨Nat.le_of_ble_eq_true rfl, Nat.le_of_ble_eq_true rfl⟩ (Nat.le_of_ble_eq_true rfl) dX11_changes_60 ?_
      refine rb_iload_n hC 0 dX11_changes_63 rfl ?_
      refine rb_icmp_eq hC 70 dX11_changes_64 (by decide) (fun c10 => ?_) (fun c10 => ?_)
      · replace h := rb_ifp c10 h
        refine rb_iinc hC 3 [(2, .int (x2 + 1)), (3, .int r5), (0, .ref (rb_ad w 0)), (1, .int x1)] dX11_changes_70 rfl rfl (by decide) rfl ?_
        refine rb_goto hC 15 dX11_changes_73 (by decide) ?_
        exact rb_sub [2, 3, 0] rfl (ih x1 (x2 + 1) _ h hE0)
      · replace h := rb_ifn c10 h
        refine rb_iinc hC 2 [(1, .int (x1 + 1)), (3, .int r5), (0, .ref (rb_ad w 0)), (2, .int x2)] dX11_changes_67 rfl rfl (by decide) rfl ?_
        refine rb_iinc hC 3 [(2, .int (x2 + 1)), (1, .int (x1 + 1)), (3, .int r5), (0, .ref (rb_ad w 0))] dX11_changes_70 rfl rfl (by decide) rfl ?_
        refine rb_goto hC 15 dX11_changes_73 (by decide) ?_
        exact rb_sub [3, 1, 0] rfl (ih (x1 + 1) (x2 + 1) _ h hE0)
def xf_RP_changes  (σ : rb_St) : Option (Int32 × rb_St) := rb_b1 (xf_Pole_tellOrder 18 σ) fun s1 => rb_b1 (xl_RP_changes_15 s1 rb_FU 0 1) fun y11 => some (y11, s1)
set_option maxHeartbeats 4000000 in
set_option maxRecDepth 100000 in
theorem xk_RP_changes {z : rb_Z} {w : rb_Wd} (hC : rb_Cx z rb_vX w RX11 cX11_changes 4 (some .int) 4)  (σ : rb_St) (r : Int32) (σ9 : rb_St) (h : xf_RP_changes σ = some (r, σ9)) : rb_At z rb_vX w 4 (rb_Q z rb_vX w (some (.int r)) σ9) 0 [(0, .ref (rb_ad w 0))] [] σ := by
  unfold xf_RP_changes at h
  refine rb_aload_n hC 0 dX11_changes_0 rfl ?_
  refine rb_getR hC fr_X11_49_10 rb_obX0 rfl dX11_changes_1 ?_
  refine rb_aload_n hC 0 dX11_changes_4 rfl ?_
  refine rb_getR hC fr_X11_90_10 rb_obX0 rfl dX11_changes_5 ?_
  obtain ⟨s1, q2, h⟩ := rb_b1s h
  refine rb_callVv hC rb_VokX mv_X11_225 (xc_Pole_tellOrder 18 rb_isPole18 σ _ q2) (rb_obPole rb_isPole18) rfl [.ref (rb_ad w 235)] rfl rfl rfl ⟨Nat.le_of_ble_eq_true rfl, Nat.le_of_ble_eq_true rfl⟩ (Nat.le_of_ble_eq_true rfl) dX11_changes_8 ?_
  refine rb_iconst (x := 0) hC dX11_changes_11 (by decide) ?_
  refine rb_istore_n hC [(1, .int 0), (0, .ref (rb_ad w 0))] dX11_changes_12 (by decide) rfl ?_
  refine rb_iconst (x := 1) hC dX11_changes_13 (by decide) ?_
  refine rb_istore_n hC [(2, .int 1), (1, .int 0), (0, .ref (rb_ad w 0))] dX11_changes_14 (by decide) rfl ?_
  obtain ⟨y11, q12, h⟩ := rb_b1s h
  refine rb_sub (lv2 := [(0, .ref (rb_ad w 0)), (1, .int 0), (2, .int 1)]) [2, 1, 0] rfl ?_
  refine xt_RP_changes_15 hC  s1 rb_FU 0 1 _ q12 ?_
  refine rb_iload_n hC 0 dX11_changes_76 rfl ?_
  cases h
  exact rb_iret hC dX11_changes_77
theorem xc_RP_changes  (σ : rb_St) (r : Int32) (σ9 : rb_St) (h : xf_RP_changes σ = some (r, σ9)) : rb_Con rb_vX yX11_changes cX11_changes 4 (some .int) 4 (fun w => [.ref (rb_ad w 0)]) σ (fun _ => (some (.int r))) σ9 := rb_Con.of (by decide +kernel) (fun _ => Nat.le_of_ble_eq_true rfl) (fun z w hC => xk_RP_changes hC  σ r σ9 h)
theorem me_X11_allBackBehind : Cond.instanceMethod yX11_allBackBehind ∈ rb_tbl ∧ Cond.selects yX11_allBackBehind.cls yX11_allBackBehind yX11_allBackBehind ∈ rb_tbl ∧ Cond.initialized yX11_allBackBehind.cls ∈ rb_tbl ∧ Cond.code yX11_allBackBehind cX11_allBackBehind 4 (some .boolean) ∈ rb_tbl ∧ rb_pn yX11_allBackBehind 2 := ⟨rb_in (by decide +kernel) (by decide +kernel), rb_in (by decide +kernel) (by decide +kernel), rb_in (by decide +kernel) (by decide +kernel), rb_in (by decide +kernel) (by decide +kernel), by decide +kernel, by decide +kernel, by decide +kernel⟩
theorem mv_X11_384 : rb_MV RX11 384 yX11_allBackBehind cX11_allBackBehind 4 (some .boolean) 2 := ⟨rb_in (by decide +kernel) (by decide +kernel), me_X11_allBackBehind⟩
def xl_RP_rounds_19 (x1 : Int32) (σ : rb_St) : Nat → Int32 → Option (Nat × Int32)
  | 0, _ => none
  | n + 1, x2 => if 12 ≤ x2 then some (1, x2) else if rb_ib x1 6 then rb_b1 (xf_RP_allBackBehind (256 + 2 * x1.toNatClampNeg) x2 σ) fun r5 => if r5 = 0 then xl_RP_rounds_19 x1 σ n (x2 + 1) else some (0, x2) else none
set_option maxHeartbeats 4000000 in
set_option maxRecDepth 100000 in
theorem xt_RP_rounds_19 {z : rb_Z} {w : rb_Wd} {Q : State → Prop} (hC : rb_Cx z rb_vX w RX11 cX11_rounds 3 (some .int) 3) (x1 : Int32) (σ : rb_St) : ∀ (n : Nat) (x2 : Int32) (t : Nat) (y2 : Int32), xl_RP_rounds_19 x1 σ n x2 = some (t, y2) → (t = 0 → rb_At z rb_vX w 3 Q 39 [(2, .int y2)] [] σ) → (t = 1 → rb_At z rb_vX w 3 Q 47 [] [] σ) → rb_At z rb_vX w 3 Q 19 [(0, .ref (rb_ad w 0)), (1, .int x1), (2, .int x2)] [] σ := by
  intro n
  induction n with
  | zero =>
    intro x2 t y2 h hE0 hE1
    cases h
  | succ n ih =>
    intro x2 t y2 h hE0 hE1
    rw [xl_RP_rounds_19] at h
    refine rb_iload_n hC 2 dX11_rounds_19 rfl ?_
    refine rb_bipush (x := 12) hC dX11_rounds_20 (by decide) ?_
    refine rb_icmp_ge hC 47 dX11_rounds_22 (by decide) (fun c3 => ?_) (fun c3 => ?_)
    · replace h := rb_ifp c3 h
      cases h
      exact rb_sub [] rfl (hE1 rfl)
    · replace h := rb_ifn c3 h
      refine rb_aload_n hC 0 dX11_rounds_25 rfl ?_
      refine rb_aload_n hC 0 dX11_rounds_26 rfl ?_
      refine rb_getR hC fr_X11_75_10 rb_obX0 rfl dX11_rounds_27 ?_
      refine rb_iload_n hC 1 dX11_rounds_30 rfl ?_
      obtain ⟨g4, h⟩ := rb_gd h
      refine rb_aald hC rb_rrX231 (fun _ => rfl) (rb_ibI g4) dX11_rounds_31 ?_
      refine rb_iload_n hC 2 dX11_rounds_32 rfl ?_
      obtain ⟨r5, q6, h⟩ := rb_b1s h
      refine rb_callVi hC rb_VokX mv_X11_384 (xc_RP_allBackBehind (256 + 2 * x1.toNatClampNeg) (rb_isFig_of g4) x2 σ _ q6) rb_obX0 rfl [.ref (rb_ad w (256 + 2 * x1.toNatClampNeg)), .int x2] rfl rfl rfl ⟨Nat.le_of_ble_eq_true rfl, Nat.le_of_ble_eq_true rfl⟩ (Nat.le_of_ble_eq_true rfl) dX11_rounds_33 ?_
      refine rb_if_eq hC 41 dX11_rounds_36 (by decide) (fun c7 => ?_) (fun c7 => ?_)
      · replace h := rb_ifp c7 h
        refine rb_iinc hC 2 [(2, .int (x2 + 1)), (0, .ref (rb_ad w 0)), (1, .int x1)] dX11_rounds_41 rfl rfl (by decide) rfl ?_
        refine rb_goto hC 19 dX11_rounds_44 (by decide) ?_
        exact rb_sub [1, 2, 0] rfl (ih (x2 + 1) _ _ h hE0 hE1)
      · replace h := rb_ifn c7 h
        cases h
        exact rb_sub [2] rfl (hE0 rfl)
def xf_RP_rounds (p0 : Int32) (σ : rb_St) : Option Int32 := if (xf_RP_hasGreen σ) = 0 then some (-1) else if (xf_RP_isFigure p0 σ) = 0 then some (-1) else rb_b2 (xl_RP_rounds_19 p0 σ rb_FU 1) fun t8 y9 => if t8 = 0 then some y9 else some 12
set_option maxHeartbeats 4000000 in
set_option maxRecDepth 100000 in
theorem xk_RP_rounds {z : rb_Z} {w : rb_Wd} (hC : rb_Cx z rb_vX w RX11 cX11_rounds 3 (some .int) 3) (p0 : Int32) (σ : rb_St) (r : Int32) (h : xf_RP_rounds p0 σ = some r) : rb_At z rb_vX w 3 (rb_Q z rb_vX w (some (.int r)) σ) 0 [(0, .ref (rb_ad w 0)), (1, .int p0)] [] σ := by
  unfold xf_RP_rounds at h
  refine rb_aload_n hC 0 dX11_rounds_0 rfl ?_
  refine rb_callVi hC rb_VokX mv_X11_176 (xc_RP_hasGreen  σ _ rfl) rb_obX0 rfl [] rfl rfl rfl ⟨Nat.le_of_ble_eq_true rfl, Nat.le_of_ble_eq_true rfl⟩ (Nat.le_of_ble_eq_true rfl) dX11_rounds_1 ?_
  refine rb_if_eq hC 15 dX11_rounds_4 (by decide) (fun c1 => ?_) (fun c1 => ?_)
  · replace h := rb_ifp c1 h
    refine rb_iconst (x := (-1)) hC dX11_rounds_15 (by decide) ?_
    cases h
    exact rb_iret hC dX11_rounds_16
  · replace h := rb_ifn c1 h
    refine rb_aload_n hC 0 dX11_rounds_7 rfl ?_
    refine rb_iload_n hC 1 dX11_rounds_8 rfl ?_
    refine rb_callVi hC rb_VokX mv_X11_217 (xc_RP_isFigure p0 σ _ rfl) rb_obX0 rfl [.int p0] rfl rfl rfl ⟨Nat.le_of_ble_eq_true rfl, Nat.le_of_ble_eq_true rfl⟩ (Nat.le_of_ble_eq_true rfl) dX11_rounds_9 ?_
    refine rb_if_ne hC 17 dX11_rounds_12 (by decide) (fun c2 => ?_) (fun c2 => ?_)
    · replace h := rb_ifn c2 h
      refine rb_iconst (x := 1) hC dX11_rounds_17 (by decide) ?_
      refine rb_istore_n hC [(2, .int 1), (0, .ref (rb_ad w 0)), (1, .int p0)] dX11_rounds_18 (by decide) rfl ?_
      obtain ⟨t8, y9, q10, h⟩ := rb_b2s h
      refine rb_sub (lv2 := [(0, .ref (rb_ad w 0)), (1, .int p0), (2, .int 1)]) [1, 2, 0] rfl ?_
      refine xt_RP_rounds_19 hC p0 σ rb_FU 1 _ _ q10 (fun ht => ?_) (fun ht => ?_)
      · subst ht
        replace h := rb_ifp rfl h
        refine rb_iload_n hC 0 dX11_rounds_39 rfl ?_
        cases h
        exact rb_iret hC dX11_rounds_40
      · subst ht
        replace h := rb_ifn (by decide) h
        refine rb_bipush (x := 12) hC dX11_rounds_47 (by decide) ?_
        cases h
        exact rb_iret hC dX11_rounds_49
    · replace h := rb_ifp c2 h
      refine rb_iconst (x := (-1)) hC dX11_rounds_15 (by decide) ?_
      cases h
      exact rb_iret hC dX11_rounds_16
theorem xc_RP_rounds (p0 : Int32) (σ : rb_St) (r : Int32) (h : xf_RP_rounds p0 σ = some r) : rb_Con rb_vX yX11_rounds cX11_rounds 3 (some .int) 3 (fun w => [.ref (rb_ad w 0), .int p0]) σ (fun _ => (some (.int r))) σ := rb_Con.of (by decide +kernel) (fun _ => Nat.le_of_ble_eq_true rfl) (fun z w hC => xk_RP_rounds hC p0 σ r h)
theorem me_X7_moveEndless : Cond.instanceMethod yX7_moveEndless ∈ rb_tbl ∧ Cond.selects yX7_moveEndless.cls yX7_moveEndless yX7_moveEndless ∈ rb_tbl ∧ Cond.initialized yX7_moveEndless.cls ∈ rb_tbl ∧ Cond.code yX7_moveEndless cX7_moveEndless 3 none ∈ rb_tbl ∧ rb_pn yX7_moveEndless 1 := ⟨rb_in (by decide +kernel) (by decide +kernel), rb_in (by decide +kernel) (by decide +kernel), rb_in (by decide +kernel) (by decide +kernel), rb_in (by decide +kernel) (by decide +kernel), by decide +kernel, by decide +kernel, by decide +kernel⟩
theorem mv_X11_388 : rb_MV RX11 388 yX7_moveEndless cX7_moveEndless 3 none 1 := ⟨rb_in (by decide +kernel) (by decide +kernel), me_X7_moveEndless⟩
def xl_RP_plaitAlone_10 (k1 : Nat) (k2 : Nat) : Nat → Int32 → rb_St → Option (rb_St)
  | 0, _, _ => none
  | n + 1, x3, σ => if (σ.1 k1 1) ≤ x3 then some σ else rb_b1 (xf_Fig_letterAt k1 x3 σ) fun r4 => rb_b1 (xf_Pole_moveEndless k2 r4 σ) fun s6 => xl_RP_plaitAlone_10 k1 k2 n (x3 + 1) s6
set_option maxHeartbeats 4000000 in
set_option maxRecDepth 100000 in
theorem xt_RP_plaitAlone_10 {z : rb_Z} {w : rb_Wd} {Q : State → Prop} (hC : rb_Cx z rb_vX w RX11 cX11_plaitAlone 4 none 5) (k1 : Nat) (hk1 : rb_isFig k1) (k2 : Nat) (hk2 : rb_isPole k2) : ∀ (n : Nat) (x3 : Int32) (σ : rb_St) (σ9 : rb_St), xl_RP_plaitAlone_10 k1 k2 n x3 σ = some σ9 → rb_At z rb_vX w 4 Q 33 [] [] σ9 → rb_At z rb_vX w 4 Q 10 [(1, .ref (rb_ad w k1)), (2, .ref (rb_ad w k2)), (3, .int x3)] [] σ := by
  intro n
  induction n with
  | zero =>
    intro x3 σ σ9 h hE0
    cases h
  | succ n ih =>
    intro x3 σ σ9 h hE0
    rw [xl_RP_plaitAlone_10] at h
    refine rb_iload_n hC 2 dX11_plaitAlone_10 rfl ?_
    refine rb_aload_n hC 0 dX11_plaitAlone_11 rfl ?_
    refine rb_getI hC fr_X11_220_1 (rb_obFig hk1) rfl dX11_plaitAlone_12 ?_
    refine rb_icmp_ge hC 33 dX11_plaitAlone_15 (by decide) (fun c3 => ?_) (fun c3 => ?_)
    · replace h := rb_ifp c3 h
      cases h
      exact rb_sub [] rfl (hE0)
    · replace h := rb_ifn c3 h
      refine rb_aload_n hC 1 dX11_plaitAlone_18 rfl ?_
      refine rb_aload_n hC 0 dX11_plaitAlone_19 rfl ?_
      refine rb_iload_n hC 2 dX11_plaitAlone_20 rfl ?_
      obtain ⟨r4, q5, h⟩ := rb_b1s h
      refine rb_callVi hC rb_VokX mv_X11_221 (xc_Fig_letterAt k1 hk1 x3 σ _ q5) (rb_obFig hk1) rfl [.int x3] rfl rfl rfl ⟨Nat.le_of_ble_eq_true rfl, Nat.le_of_ble_eq_true rfl⟩ (Nat.le_of_ble_eq_true rfl) dX11_plaitAlone_21 ?_
      obtain ⟨s6, q7, h⟩ := rb_b1s h
      refine rb_callVv hC rb_VokX mv_X11_388 (xc_Pole_moveEndless k2 hk2 r4 σ _ q7) (rb_obPole hk2) rfl [.int r4] rfl rfl rfl ⟨Nat.le_of_ble_eq_true rfl, Nat.le_of_ble_eq_true rfl⟩ (Nat.le_of_ble_eq_true rfl) dX11_plaitAlone_24 ?_
      refine rb_iinc hC 2 [(3, .int (x3 + 1)), (1, .ref (rb_ad w k1)), (2, .ref (rb_ad w k2))] dX11_plaitAlone_27 rfl rfl (by decide) rfl ?_
      refine rb_goto hC 10 dX11_plaitAlone_30 (by decide) ?_
      exact rb_sub [1, 2, 0] rfl (ih (x3 + 1) s6 _ h hE0)
def xf_RP_plaitAlone (k1 : Nat) (k2 : Nat) (σ : rb_St) : Option (rb_St) := rb_b1 (xf_Pole_beginAs k2 σ) fun s1 => rb_b1 (xl_RP_plaitAlone_10 k1 k2 rb_FU 0 s1) fun s8 => some s8
set_option maxHeartbeats 4000000 in
set_option maxRecDepth 100000 in
theorem xk_RP_plaitAlone {z : rb_Z} {w : rb_Wd} (hC : rb_Cx z rb_vX w RX11 cX11_plaitAlone 4 none 5) (k1 : Nat) (hk1 : rb_isFig k1) (k2 : Nat) (hk2 : rb_isPole k2) (σ : rb_St) (σ9 : rb_St) (h : xf_RP_plaitAlone k1 k2 σ = some σ9) : rb_At z rb_vX w 4 (rb_Q z rb_vX w none σ9) 0 [(0, .ref (rb_ad w 0)), (1, .ref (rb_ad w k1)), (2, .ref (rb_ad w k2))] [] σ := by
  unfold xf_RP_plaitAlone at h
  refine rb_aload_n hC 2 dX11_plaitAlone_0 rfl ?_
  refine rb_aload_n hC 0 dX11_plaitAlone_1 rfl ?_
  refine rb_getR hC fr_X11_42_10 rb_obX0 rfl dX11_plaitAlone_2 ?_
  obtain ⟨s1, q2, h⟩ := rb_b1s h
  refine rb_callVv hC rb_VokX mv_X11_143 (xc_Pole_beginAs k2 hk2 σ _ q2) (rb_obPole hk2) rfl [.ref (rb_ad w 15)] rfl rfl rfl ⟨Nat.le_of_ble_eq_true rfl, Nat.le_of_ble_eq_true rfl⟩ (Nat.le_of_ble_eq_true rfl) dX11_plaitAlone_5 ?_
  refine rb_iconst (x := 0) hC dX11_plaitAlone_8 (by decide) ?_
  refine rb_istore_n hC [(3, .int 0), (0, .ref (rb_ad w 0)), (1, .ref (rb_ad w k1)), (2, .ref (rb_ad w k2))] dX11_plaitAlone_9 (by decide) rfl ?_
  obtain ⟨s8, q9, h⟩ := rb_b1s h
  refine rb_sub (lv2 := [(1, .ref (rb_ad w k1)), (2, .ref (rb_ad w k2)), (3, .int 0)]) [2, 3, 0] rfl ?_
  refine xt_RP_plaitAlone_10 hC k1 hk1 k2 hk2 rb_FU 0 s1 _ q9 ?_
  cases h
  exact rb_vret hC dX11_plaitAlone_33
theorem xc_RP_plaitAlone (k1 : Nat) (hk1 : rb_isFig k1) (k2 : Nat) (hk2 : rb_isPole k2) (σ : rb_St) (σ9 : rb_St) (h : xf_RP_plaitAlone k1 k2 σ = some σ9) : rb_Con rb_vX yX11_plaitAlone cX11_plaitAlone 4 none 5 (fun w => [.ref (rb_ad w 0), .ref (rb_ad w k1), .ref (rb_ad w k2)]) σ (fun _ => none) σ9 := rb_Con.of (by decide +kernel) (fun _ => Nat.le_of_ble_eq_true rfl) (fun z w hC => xk_RP_plaitAlone hC k1 hk1 k2 hk2 σ σ9 h)
theorem fr_X11_86_10 : rb_FR RX11 86 10 16 := ⟨RX11, TX11, 20, "RibbonPole", rfl, rb_uX11, by decide, rb_in (by decide +kernel) (by decide +kernel), Or.inl rfl⟩
theorem me_X11_plaitAlone : Cond.instanceMethod yX11_plaitAlone ∈ rb_tbl ∧ Cond.selects yX11_plaitAlone.cls yX11_plaitAlone yX11_plaitAlone ∈ rb_tbl ∧ Cond.initialized yX11_plaitAlone.cls ∈ rb_tbl ∧ Cond.code yX11_plaitAlone cX11_plaitAlone 4 none ∈ rb_tbl ∧ rb_pn yX11_plaitAlone 2 := ⟨rb_in (by decide +kernel) (by decide +kernel), rb_in (by decide +kernel) (by decide +kernel), rb_in (by decide +kernel) (by decide +kernel), rb_in (by decide +kernel) (by decide +kernel), by decide +kernel, by decide +kernel, by decide +kernel⟩
theorem mv_X11_391 : rb_MV RX11 391 yX11_plaitAlone cX11_plaitAlone 4 none 2 := ⟨rb_in (by decide +kernel) (by decide +kernel), me_X11_plaitAlone⟩
def xf_RP_knot (p0 : Int32) (σ : rb_St) : Option (Int32 × rb_St) := if (xf_RP_hasGreen σ) = 0 then some ((-1), σ) else if (xf_RP_isFigure p0 σ) = 0 then some ((-1), σ) else if rb_ib p0 6 then rb_b1 (xf_RP_plaitAlone (256 + 2 * p0.toNatClampNeg) (268 + 5 * Int32.toNatClampNeg 0) σ) fun s4 => some (s4.1 (268 + 5 * Int32.toNatClampNeg 0) 1, s4) else none
set_option maxHeartbeats 4000000 in
set_option maxRecDepth 100000 in
theorem xk_RP_knot {z : rb_Z} {w : rb_Wd} (hC : rb_Cx z rb_vX w RX11 cX11_knot 2 (some .int) 6) (p0 : Int32) (σ : rb_St) (r : Int32) (σ9 : rb_St) (h : xf_RP_knot p0 σ = some (r, σ9)) : rb_At z rb_vX w 2 (rb_Q z rb_vX w (some (.int r)) σ9) 0 [(0, .ref (rb_ad w 0)), (1, .int p0)] [] σ := by
  unfold xf_RP_knot at h
  refine rb_aload_n hC 0 dX11_knot_0 rfl ?_
  refine rb_callVi hC rb_VokX mv_X11_176 (xc_RP_hasGreen  σ _ rfl) rb_obX0 rfl [] rfl rfl rfl ⟨Nat.le_of_ble_eq_true rfl, Nat.le_of_ble_eq_true rfl⟩ (Nat.le_of_ble_eq_true rfl) dX11_knot_1 ?_
  refine rb_if_eq hC 15 dX11_knot_4 (by decide) (fun c1 => ?_) (fun c1 => ?_)
  · replace h := rb_ifp c1 h
    refine rb_iconst (x := (-1)) hC dX11_knot_15 (by decide) ?_
    cases h
    exact rb_iret hC dX11_knot_16
  · replace h := rb_ifn c1 h
    refine rb_aload_n hC 0 dX11_knot_7 rfl ?_
    refine rb_iload_n hC 1 dX11_knot_8 rfl ?_
    refine rb_callVi hC rb_VokX mv_X11_217 (xc_RP_isFigure p0 σ _ rfl) rb_obX0 rfl [.int p0] rfl rfl rfl ⟨Nat.le_of_ble_eq_true rfl, Nat.le_of_ble_eq_true rfl⟩ (Nat.le_of_ble_eq_true rfl) dX11_knot_9 ?_
    refine rb_if_ne hC 17 dX11_knot_12 (by decide) (fun c2 => ?_) (fun c2 => ?_)
    · replace h := rb_ifn c2 h
      refine rb_aload_n hC 0 dX11_knot_17 rfl ?_
      refine rb_aload_n hC 0 dX11_knot_18 rfl ?_
      refine rb_getR hC fr_X11_75_10 rb_obX0 rfl dX11_knot_19 ?_
      refine rb_iload_n hC 1 dX11_knot_22 rfl ?_
      obtain ⟨g3, h⟩ := rb_gd h
      refine rb_aald hC rb_rrX231 (fun _ => rfl) (rb_ibI g3) dX11_knot_23 ?_
      refine rb_aload_n hC 0 dX11_knot_24 rfl ?_
      refine rb_getR hC fr_X11_86_10 rb_obX0 rfl dX11_knot_25 ?_
      refine rb_iconst (x := 0) hC dX11_knot_28 (by decide) ?_
      refine rb_aald hC rb_rrX234 (fun _ => rfl) (rb_ibI (by decide)) dX11_knot_29 ?_
      obtain ⟨s4, q5, h⟩ := rb_b1s h
      refine rb_callVv hC rb_VokX mv_X11_391 (xc_RP_plaitAlone (256 + 2 * p0.toNatClampNeg) (rb_isFig_of g3) (268 + 5 * Int32.toNatClampNeg 0) (rb_isPole_234 (i := 0) (by decide)) σ _ q5) rb_obX0 rfl [.ref (rb_ad w (256 + 2 * p0.toNatClampNeg)), .ref (rb_ad w (268 + 5 * Int32.toNatClampNeg 0))] rfl rfl rfl ⟨Nat.le_of_ble_eq_true rfl, Nat.le_of_ble_eq_true rfl⟩ (Nat.le_of_ble_eq_true rfl) dX11_knot_30 ?_
      refine rb_aload_n hC 0 dX11_knot_33 rfl ?_
      refine rb_getR hC fr_X11_86_10 rb_obX0 rfl dX11_knot_34 ?_
      refine rb_iconst (x := 0) hC dX11_knot_37 (by decide) ?_
      refine rb_aald hC rb_rrX234 (fun _ => rfl) (rb_ibI (by decide)) dX11_knot_38 ?_
      refine rb_getI hC fr_X11_224_7 (rb_obPole (rb_isPole_234 (i := 0) (by decide))) rfl dX11_knot_39 ?_
      cases h
      exact rb_iret hC dX11_knot_42
    · replace h := rb_ifp c2 h
      refine rb_iconst (x := (-1)) hC dX11_knot_15 (by decide) ?_
      cases h
      exact rb_iret hC dX11_knot_16
theorem xc_RP_knot (p0 : Int32) (σ : rb_St) (r : Int32) (σ9 : rb_St) (h : xf_RP_knot p0 σ = some (r, σ9)) : rb_Con rb_vX yX11_knot cX11_knot 2 (some .int) 6 (fun w => [.ref (rb_ad w 0), .int p0]) σ (fun _ => (some (.int r))) σ9 := rb_Con.of (by decide +kernel) (fun _ => Nat.le_of_ble_eq_true rfl) (fun z w hC => xk_RP_knot hC p0 σ r σ9 h)
theorem me_X7_plaitsLike : Cond.instanceMethod yX7_plaitsLike ∈ rb_tbl ∧ Cond.selects yX7_plaitsLike.cls yX7_plaitsLike yX7_plaitsLike ∈ rb_tbl ∧ Cond.initialized yX7_plaitsLike.cls ∈ rb_tbl ∧ Cond.code yX7_plaitsLike cX7_plaitsLike 9 (some .boolean) ∈ rb_tbl ∧ rb_pn yX7_plaitsLike 1 := ⟨rb_in (by decide +kernel) (by decide +kernel), rb_in (by decide +kernel) (by decide +kernel), rb_in (by decide +kernel) (by decide +kernel), rb_in (by decide +kernel) (by decide +kernel), by decide +kernel, by decide +kernel, by decide +kernel⟩
theorem mv_X11_395 : rb_MV RX11 395 yX7_plaitsLike cX7_plaitsLike 9 (some .boolean) 1 := ⟨rb_in (by decide +kernel) (by decide +kernel), me_X7_plaitsLike⟩
def xf_RP_same (p0 : Int32) (p1 : Int32) (σ : rb_St) : Option (Int32 × rb_St) := if (xf_RP_hasGreen σ) = 0 then some ((-1), σ) else if (xf_RP_isFigure p0 σ) = 0 then some ((-1), σ) else if (xf_RP_isFigure p1 σ) = 0 then some ((-1), σ) else if rb_ib p0 6 then rb_b1 (xf_RP_plaitAlone (256 + 2 * p0.toNatClampNeg) (268 + 5 * Int32.toNatClampNeg 0) σ) fun s5 => if rb_ib p1 6 then rb_b1 (xf_RP_plaitAlone (256 + 2 * p1.toNatClampNeg) (268 + 5 * Int32.toNatClampNeg 1) s5) fun s8 => rb_b1 (xf_Pole_plaitsLike (268 + 5 * Int32.toNatClampNeg 0) (268 + 5 * Int32.toNatClampNeg 1) s8) fun r10 => if r10 = 0 then some (0, s8) else some (1, s8) else none else none
set_option maxHeartbeats 4000000 in
set_option maxRecDepth 100000 in
theorem xk_RP_same {z : rb_Z} {w : rb_Wd} (hC : rb_Cx z rb_vX w RX11 cX11_same 3 (some .int) 6) (p0 : Int32) (p1 : Int32) (σ : rb_St) (r : Int32) (σ9 : rb_St) (h : xf_RP_same p0 p1 σ = some (r, σ9)) : rb_At z rb_vX w 3 (rb_Q z rb_vX w (some (.int r)) σ9) 0 [(0, .ref (rb_ad w 0)), (1, .int p0), (2, .int p1)] [] σ := by
  unfold xf_RP_same at h
  refine rb_aload_n hC 0 dX11_same_0 rfl ?_
  refine rb_callVi hC rb_VokX mv_X11_176 (xc_RP_hasGreen  σ _ rfl) rb_obX0 rfl [] rfl rfl rfl ⟨Nat.le_of_ble_eq_true rfl, Nat.le_of_ble_eq_true rfl⟩ (Nat.le_of_ble_eq_true rfl) dX11_same_1 ?_
  refine rb_if_eq hC 23 dX11_same_4 (by decide) (fun c1 => ?_) (fun c1 => ?_)
  · replace h := rb_ifp c1 h
    refine rb_iconst (x := (-1)) hC dX11_same_23 (by decide) ?_
    cases h
    exact rb_iret hC dX11_same_24
  · replace h := rb_ifn c1 h
    refine rb_aload_n hC 0 dX11_same_7 rfl ?_
    refine rb_iload_n hC 1 dX11_same_8 rfl ?_
    refine rb_callVi hC rb_VokX mv_X11_217 (xc_RP_isFigure p0 σ _ rfl) rb_obX0 rfl [.int p0] rfl rfl rfl ⟨Nat.le_of_ble_eq_true rfl, Nat.le_of_ble_eq_true rfl⟩ (Nat.le_of_ble_eq_true rfl) dX11_same_9 ?_
    refine rb_if_eq hC 23 dX11_same_12 (by decide) (fun c2 => ?_) (fun c2 => ?_)
    · replace h := rb_ifp c2 h
      refine rb_iconst (x := (-1)) hC dX11_same_23 (by decide) ?_
      cases h
      exact rb_iret hC dX11_same_24
    · replace h := rb_ifn c2 h
      refine rb_aload_n hC 0 dX11_same_15 rfl ?_
      refine rb_iload_n hC 2 dX11_same_16 rfl ?_
      refine rb_callVi hC rb_VokX mv_X11_217 (xc_RP_isFigure p1 σ _ rfl) rb_obX0 rfl [.int p1] rfl rfl rfl ⟨Nat.le_of_ble_eq_true rfl, Nat.le_of_ble_eq_true rfl⟩ (Nat.le_of_ble_eq_true rfl) dX11_same_17 ?_
      refine rb_if_ne hC 25 dX11_same_20 (by decide) (fun c3 => ?_) (fun c3 => ?_)
      · replace h := rb_ifn c3 h
        refine rb_aload_n hC 0 dX11_same_25 rfl ?_
        refine rb_aload_n hC 0 dX11_same_26 rfl ?_
        refine rb_getR hC fr_X11_75_10 rb_obX0 rfl dX11_same_27 ?_
        refine rb_iload_n hC 1 dX11_same_30 rfl ?_
        obtain ⟨g4, h⟩ := rb_gd h
        refine rb_aald hC rb_rrX231 (fun _ => rfl) (rb_ibI g4) dX11_same_31 ?_
        refine rb_aload_n hC 0 dX11_same_32 rfl ?_
        refine rb_getR hC fr_X11_86_10 rb_obX0 rfl dX11_same_33 ?_
        refine rb_iconst (x := 0) hC dX11_same_36 (by decide) ?_
        refine rb_aald hC rb_rrX234 (fun _ => rfl) (rb_ibI (by decide)) dX11_same_37 ?_
        obtain ⟨s5, q6, h⟩ := rb_b1s h
        refine rb_callVv hC rb_VokX mv_X11_391 (xc_RP_plaitAlone (256 + 2 * p0.toNatClampNeg) (rb_isFig_of g4) (268 + 5 * Int32.toNatClampNeg 0) (rb_isPole_234 (i := 0) (by decide)) σ _ q6) rb_obX0 rfl [.ref (rb_ad w (256 + 2 * p0.toNatClampNeg)), .ref (rb_ad w (268 + 5 * Int32.toNatClampNeg 0))] rfl rfl rfl ⟨Nat.le_of_ble_eq_true rfl, Nat.le_of_ble_eq_true rfl⟩ (Nat.le_of_ble_eq_true rfl) dX11_same_38 ?_
        refine rb_aload_n hC 0 dX11_same_41 rfl ?_
        refine rb_aload_n hC 0 dX11_same_42 rfl ?_
        refine rb_getR hC fr_X11_75_10 rb_obX0 rfl dX11_same_43 ?_
        refine rb_iload_n hC 2 dX11_same_46 rfl ?_
        obtain ⟨g7, h⟩ := rb_gd h
        refine rb_aald hC rb_rrX231 (fun _ => rfl) (rb_ibI g7) dX11_same_47 ?_
        refine rb_aload_n hC 0 dX11_same_48 rfl ?_
        refine rb_getR hC fr_X11_86_10 rb_obX0 rfl dX11_same_49 ?_
        refine rb_iconst (x := 1) hC dX11_same_52 (by decide) ?_
        refine rb_aald hC rb_rrX234 (fun _ => rfl) (rb_ibI (by decide)) dX11_same_53 ?_
        obtain ⟨s8, q9, h⟩ := rb_b1s h
        refine rb_callVv hC rb_VokX mv_X11_391 (xc_RP_plaitAlone (256 + 2 * p1.toNatClampNeg) (rb_isFig_of g7) (268 + 5 * Int32.toNatClampNeg 1) (rb_isPole_234 (i := 1) (by decide)) s5 _ q9) rb_obX0 rfl [.ref (rb_ad w (256 + 2 * p1.toNatClampNeg)), .ref (rb_ad w (268 + 5 * Int32.toNatClampNeg 1))] rfl rfl rfl ⟨Nat.le_of_ble_eq_true rfl, Nat.le_of_ble_eq_true rfl⟩ (Nat.le_of_ble_eq_true rfl) dX11_same_54 ?_
        refine rb_aload_n hC 0 dX11_same_57 rfl ?_
        refine rb_getR hC fr_X11_86_10 rb_obX0 rfl dX11_same_58 ?_
        refine rb_iconst (x := 0) hC dX11_same_61 (by decide) ?_
        refine rb_aald hC rb_rrX234 (fun _ => rfl) (rb_ibI (by decide)) dX11_same_62 ?_
        refine rb_aload_n hC 0 dX11_same_63 rfl ?_
        refine rb_getR hC fr_X11_86_10 rb_obX0 rfl dX11_same_64 ?_
        refine rb_iconst (x := 1) hC dX11_same_67 (by decide) ?_
        refine rb_aald hC rb_rrX234 (fun _ => rfl) (rb_ibI (by decide)) dX11_same_68 ?_
        obtain ⟨r10, q11, h⟩ := rb_b1s h
        refine rb_callVi hC rb_VokX mv_X11_395 (xc_Pole_plaitsLike (268 + 5 * Int32.toNatClampNeg 0) (rb_isPole_234 (i := 0) (by decide)) (268 + 5 * Int32.toNatClampNeg 1) (rb_isPole_234 (i := 1) (by decide)) s8 _ q11) (rb_obPole (rb_isPole_234 (i := 0) (by decide))) rfl [.ref (rb_ad w (268 + 5 * Int32.toNatClampNeg 1))] rfl rfl rfl ⟨Nat.le_of_ble_eq_true rfl, Nat.le_of_ble_eq_true rfl⟩ (Nat.le_of_ble_eq_true rfl) dX11_same_69 ?_
        refine rb_if_eq hC 79 dX11_same_72 (by decide) (fun c12 => ?_) (fun c12 => ?_)
        · replace h := rb_ifp c12 h
          refine rb_iconst (x := 0) hC dX11_same_79 (by decide) ?_
          cases h
          exact rb_iret hC dX11_same_80
        · replace h := rb_ifn c12 h
          refine rb_iconst (x := 1) hC dX11_same_75 (by decide) ?_
          refine rb_goto hC 80 dX11_same_76 (by decide) ?_
          cases h
          exact rb_iret hC dX11_same_80
      · replace h := rb_ifp c3 h
        refine rb_iconst (x := (-1)) hC dX11_same_23 (by decide) ?_
        cases h
        exact rb_iret hC dX11_same_24
theorem xc_RP_same (p0 : Int32) (p1 : Int32) (σ : rb_St) (r : Int32) (σ9 : rb_St) (h : xf_RP_same p0 p1 σ = some (r, σ9)) : rb_Con rb_vX yX11_same cX11_same 3 (some .int) 6 (fun w => [.ref (rb_ad w 0), .int p0, .int p1]) σ (fun _ => (some (.int r))) σ9 := rb_Con.of (by decide +kernel) (fun _ => Nat.le_of_ble_eq_true rfl) (fun z w hC => xk_RP_same hC p0 p1 σ r σ9 h)
theorem me_X11_agreesWithAll : Cond.instanceMethod yX11_agreesWithAll ∈ rb_tbl ∧ Cond.selects yX11_agreesWithAll.cls yX11_agreesWithAll yX11_agreesWithAll ∈ rb_tbl ∧ Cond.initialized yX11_agreesWithAll.cls ∈ rb_tbl ∧ Cond.code yX11_agreesWithAll cX11_agreesWithAll 5 (some .boolean) ∈ rb_tbl ∧ rb_pn yX11_agreesWithAll 1 := ⟨rb_in (by decide +kernel) (by decide +kernel), rb_in (by decide +kernel) (by decide +kernel), rb_in (by decide +kernel) (by decide +kernel), rb_in (by decide +kernel) (by decide +kernel), by decide +kernel, by decide +kernel, by decide +kernel⟩
theorem mv_X11_416 : rb_MV RX11 416 yX11_agreesWithAll cX11_agreesWithAll 5 (some .boolean) 1 := ⟨rb_in (by decide +kernel) (by decide +kernel), me_X11_agreesWithAll⟩
def xl_RP_fits_13  (σ : rb_St) : Nat → Int32 → Int32 → Option (Int32)
  | 0, _, _ => none
  | n + 1, x1, x2 => if (σ.1 0 12) ≤ x2 then some x1 else if rb_ib x2 6 then rb_b1 (xf_RP_agreesWithAll (256 + 2 * x2.toNatClampNeg) σ) fun r4 => if r4 = 0 then xl_RP_fits_13 σ n x1 (x2 + 1) else xl_RP_fits_13 σ n (x1 ||| (1 <<< (x2 &&& 31))) (x2 + 1) else none
set_option maxHeartbeats 4000000 in
set_option maxRecDepth 100000 in
theorem xt_RP_fits_13 {z : rb_Z} {w : rb_Wd} {Q : State → Prop} (hC : rb_Cx z rb_vX w RX11 cX11_fits 3 (some .int) 3)  (σ : rb_St) : ∀ (n : Nat) (x1 : Int32) (x2 : Int32) (y1 : Int32), xl_RP_fits_13 σ n x1 x2 = some y1 → rb_At z rb_vX w 3 Q 46 [(1, .int y1)] [] σ → rb_At z rb_vX w 3 Q 13 [(0, .ref (rb_ad w 0)), (1, .int x1), (2, .int x2)] [] σ := by
  intro n
  induction n with
  | zero =>
    intro x1 x2 y1 h hE0
    cases h
  | succ n ih =>
    intro x1 x2 y1 h hE0
    rw [xl_RP_fits_13] at h
    refine rb_iload_n hC 2 dX11_fits_13 rfl ?_
    refine rb_aload_n hC 0 dX11_fits_14 rfl ?_
    refine rb_getI hC fr_X11_167_10 rb_obX0 rfl dX11_fits_15 ?_
    refine rb_icmp_ge hC 46 dX11_fits_18 (by decide) (fun c2 => ?_) (fun c2 => ?_)
    · replace h := rb_ifp c2 h
      cases h
      exact rb_sub [1] rfl (hE0)
    · replace h := rb_ifn c2 h
      refine rb_aload_n hC 0 dX11_fits_21 rfl ?_
      refine rb_aload_n hC 0 dX11_fits_22 rfl ?_
      refine rb_getR hC fr_X11_75_10 rb_obX0 rfl dX11_fits_23 ?_
      refine rb_iload_n hC 2 dX11_fits_26 rfl ?_
      obtain ⟨g3, h⟩ := rb_gd h
      refine rb_aald hC rb_rrX231 (fun _ => rfl) (rb_ibI g3) dX11_fits_27 ?_
      obtain ⟨r4, q5, h⟩ := rb_b1s h
      refine rb_callVi hC rb_VokX mv_X11_416 (xc_RP_agreesWithAll (256 + 2 * x2.toNatClampNeg) (rb_isFig_of g3) σ _ q5) rb_obX0 rfl [.ref (rb_ad w (256 + 2 * x2.toNatClampNeg))] rfl rfl rfl ⟨Nat.le_of_ble_eq_true rfl, Nat.le_of_ble_eq_true rfl⟩ (Nat.le_of_ble_eq_true rfl) dX11_fits_28 ?_
      refine rb_if_eq hC 40 dX11_fits_31 (by decide) (fun c6 => ?_) (fun c6 => ?_)
      · replace h := rb_ifp c6 h
        refine rb_iinc hC 2 [(2, .int (x2 + 1)), (0, .ref (rb_ad w 0)), (1, .int x1)] dX11_fits_40 rfl rfl (by decide) rfl ?_
        refine rb_goto hC 13 dX11_fits_43 (by decide) ?_
        exact rb_sub [1, 2, 0] rfl (ih x1 (x2 + 1) _ h hE0)
      · replace h := rb_ifn c6 h
        refine rb_iload_n hC 1 dX11_fits_34 rfl ?_
        refine rb_iconst (x := 1) hC dX11_fits_35 (by decide) ?_
        refine rb_iload_n hC 2 dX11_fits_36 rfl ?_
        refine rb_ishl hC dX11_fits_37 ?_
        refine rb_ior hC dX11_fits_38 ?_
        refine rb_istore_n hC [(1, .int (x1 ||| (1 <<< (x2 &&& 31)))), (0, .ref (rb_ad w 0)), (2, .int x2)] dX11_fits_39 (by decide) rfl ?_
        refine rb_iinc hC 2 [(2, .int (x2 + 1)), (1, .int (x1 ||| (1 <<< (x2 &&& 31)))), (0, .ref (rb_ad w 0))] dX11_fits_40 rfl rfl (by decide) rfl ?_
        refine rb_goto hC 13 dX11_fits_43 (by decide) ?_
        exact rb_sub [2, 1, 0] rfl (ih (x1 ||| (1 <<< (x2 &&& 31))) (x2 + 1) _ h hE0)
def xf_RP_fits  (σ : rb_St) : Option Int32 := if (xf_RP_hasGreen σ) = 0 then some (-1) else rb_b1 (xl_RP_fits_13 σ rb_FU 0 0) fun y7 => some y7
set_option maxHeartbeats 4000000 in
set_option maxRecDepth 100000 in
theorem xk_RP_fits {z : rb_Z} {w : rb_Wd} (hC : rb_Cx z rb_vX w RX11 cX11_fits 3 (some .int) 3)  (σ : rb_St) (r : Int32) (h : xf_RP_fits σ = some r) : rb_At z rb_vX w 3 (rb_Q z rb_vX w (some (.int r)) σ) 0 [(0, .ref (rb_ad w 0))] [] σ := by
  unfold xf_RP_fits at h
  refine rb_aload_n hC 0 dX11_fits_0 rfl ?_
  refine rb_callVi hC rb_VokX mv_X11_176 (xc_RP_hasGreen  σ _ rfl) rb_obX0 rfl [] rfl rfl rfl ⟨Nat.le_of_ble_eq_true rfl, Nat.le_of_ble_eq_true rfl⟩ (Nat.le_of_ble_eq_true rfl) dX11_fits_1 ?_
  refine rb_if_ne hC 9 dX11_fits_4 (by decide) (fun c1 => ?_) (fun c1 => ?_)
  · replace h := rb_ifn c1 h
    refine rb_iconst (x := 0) hC dX11_fits_9 (by decide) ?_
    refine rb_istore_n hC [(1, .int 0), (0, .ref (rb_ad w 0))] dX11_fits_10 (by decide) rfl ?_
    refine rb_iconst (x := 0) hC dX11_fits_11 (by decide) ?_
    refine rb_istore_n hC [(2, .int 0), (1, .int 0), (0, .ref (rb_ad w 0))] dX11_fits_12 (by decide) rfl ?_
    obtain ⟨y7, q8, h⟩ := rb_b1s h
    refine rb_sub (lv2 := [(0, .ref (rb_ad w 0)), (1, .int 0), (2, .int 0)]) [2, 1, 0] rfl ?_
    refine xt_RP_fits_13 hC  σ rb_FU 0 0 _ q8 ?_
    refine rb_iload_n hC 0 dX11_fits_46 rfl ?_
    cases h
    exact rb_iret hC dX11_fits_47
  · replace h := rb_ifp c1 h
    refine rb_iconst (x := (-1)) hC dX11_fits_7 (by decide) ?_
    cases h
    exact rb_iret hC dX11_fits_8
theorem xc_RP_fits  (σ : rb_St) (r : Int32) (h : xf_RP_fits σ = some r) : rb_Con rb_vX yX11_fits cX11_fits 3 (some .int) 3 (fun w => [.ref (rb_ad w 0)]) σ (fun _ => (some (.int r))) σ := rb_Con.of (by decide +kernel) (fun _ => Nat.le_of_ble_eq_true rfl) (fun z w hC => xk_RP_fits hC  σ r h)
theorem me_X11_fits : Cond.instanceMethod yX11_fits ∈ rb_tbl ∧ Cond.selects yX11_fits.cls yX11_fits yX11_fits ∈ rb_tbl ∧ Cond.initialized yX11_fits.cls ∈ rb_tbl ∧ Cond.code yX11_fits cX11_fits 3 (some .int) ∈ rb_tbl ∧ rb_pn yX11_fits 0 := ⟨rb_in (by decide +kernel) (by decide +kernel), rb_in (by decide +kernel) (by decide +kernel), rb_in (by decide +kernel) (by decide +kernel), rb_in (by decide +kernel) (by decide +kernel), by decide +kernel, by decide +kernel, by decide +kernel⟩
theorem mv_X11_420 : rb_MV RX11 420 yX11_fits cX11_fits 3 (some .int) 0 := ⟨rb_in (by decide +kernel) (by decide +kernel), me_X11_fits⟩
theorem me_X11_mostAgreeing : Cond.instanceMethod yX11_mostAgreeing ∈ rb_tbl ∧ Cond.selects yX11_mostAgreeing.cls yX11_mostAgreeing yX11_mostAgreeing ∈ rb_tbl ∧ Cond.initialized yX11_mostAgreeing.cls ∈ rb_tbl ∧ Cond.code yX11_mostAgreeing cX11_mostAgreeing 8 (some .int) ∈ rb_tbl ∧ rb_pn yX11_mostAgreeing 3 := ⟨rb_in (by decide +kernel) (by decide +kernel), rb_in (by decide +kernel) (by decide +kernel), rb_in (by decide +kernel) (by decide +kernel), rb_in (by decide +kernel) (by decide +kernel), by decide +kernel, by decide +kernel, by decide +kernel⟩
theorem mv_X11_423 : rb_MV RX11 423 yX11_mostAgreeing cX11_mostAgreeing 8 (some .int) 3 := ⟨rb_in (by decide +kernel) (by decide +kernel), me_X11_mostAgreeing⟩
def xl_RP_ask_28 (x1 : Int32) (x2 : Int32) (σ : rb_St) : Nat → Int32 → Int32 → Int32 → Option (Int32)
  | 0, _, _, _ => none
  | n + 1, x3, x4, x5 => if 9 < x5 then some x3 else rb_b1 (xf_RP_mostAgreeing x2 x1 x5 σ) fun r6 => if x4 ≤ r6 then xl_RP_ask_28 x1 x2 σ n x3 x4 (x5 + 1) else xl_RP_ask_28 x1 x2 σ n x5 r6 (x5 + 1)
set_option maxHeartbeats 4000000 in
set_option maxRecDepth 100000 in
theorem xt_RP_ask_28 {z : rb_Z} {w : rb_Wd} {Q : State → Prop} (hC : rb_Cx z rb_vX w RX11 cX11_ask 7 (some .int) 4) (x1 : Int32) (x2 : Int32) (σ : rb_St) : ∀ (n : Nat) (x3 : Int32) (x4 : Int32) (x5 : Int32) (y3 : Int32), xl_RP_ask_28 x1 x2 σ n x3 x4 x5 = some y3 → rb_At z rb_vX w 7 Q 65 [(3, .int y3)] [] σ → rb_At z rb_vX w 7 Q 28 [(0, .ref (rb_ad w 0)), (1, .int x1), (2, .int x2), (3, .int x3), (4, .int x4), (5, .int x5)] [] σ := by
  intro n
  induction n with
  | zero =>
    intro x3 x4 x5 y3 h hE0
    cases h
  | succ n ih =>
    intro x3 x4 x5 y3 h hE0
    rw [xl_RP_ask_28] at h
    refine rb_iload hC 5 dX11_ask_28 rfl ?_
    refine rb_bipush (x := 9) hC dX11_ask_30 (by decide) ?_
    refine rb_icmp_gt hC 65 dX11_ask_32 (by decide) (fun c5 => ?_) (fun c5 => ?_)
    · replace h := rb_ifp c5 h
      cases h
      exact rb_sub [3] rfl (hE0)
    · replace h := rb_ifn c5 h
      refine rb_aload_n hC 0 dX11_ask_35 rfl ?_
      refine rb_iload_n hC 2 dX11_ask_36 rfl ?_
      refine rb_iload_n hC 1 dX11_ask_37 rfl ?_
      refine rb_iload hC 5 dX11_ask_38 rfl ?_
      obtain ⟨r6, q7, h⟩ := rb_b1s h
      refine rb_callVi hC rb_VokX mv_X11_423 (xc_RP_mostAgreeing x2 x1 x5 σ _ q7) rb_obX0 rfl [.int x2, .int x1, .int x5] rfl rfl rfl ⟨Nat.le_of_ble_eq_true rfl, Nat.le_of_ble_eq_true rfl⟩ (Nat.le_of_ble_eq_true rfl) dX11_ask_40 ?_
      refine rb_istore hC [(6, .int r6), (0, .ref (rb_ad w 0)), (1, .int x1), (2, .int x2), (3, .int x3), (4, .int x4), (5, .int x5)] dX11_ask_43 (by decide) rfl ?_
      refine rb_iload hC 0 dX11_ask_45 rfl ?_
      refine rb_iload hC 5 dX11_ask_47 rfl ?_
      refine rb_icmp_ge hC 59 dX11_ask_49 (by decide) (fun c8 => ?_) (fun c8 => ?_)
      · replace h := rb_ifp c8 h
        refine rb_iinc hC 6 [(5, .int (x5 + 1)), (6, .int r6), (0, .ref (rb_ad w 0)), (1, .int x1), (2, .int x2), (3, .int x3), (4, .int x4)] dX11_ask_59 rfl rfl (by decide) rfl ?_
        refine rb_goto hC 28 dX11_ask_62 (by decide) ?_
        exact rb_sub [2, 3, 4, 5, 6, 0] rfl (ih x3 x4 (x5 + 1) _ h hE0)
      · replace h := rb_ifn c8 h
        refine rb_iload hC 0 dX11_ask_52 rfl ?_
        refine rb_istore hC [(4, .int r6), (6, .int r6), (0, .ref (rb_ad w 0)), (1, .int x1), (2, .int x2), (3, .int x3), (5, .int x5)] dX11_ask_54 (by decide) rfl ?_
        refine rb_iload hC 6 dX11_ask_56 rfl ?_
        refine rb_istore_n hC [(3, .int x5), (4, .int r6), (6, .int r6), (0, .ref (rb_ad w 0)), (1, .int x1), (2, .int x2), (5, .int x5)] dX11_ask_58 (by decide) rfl ?_
        refine rb_iinc hC 6 [(5, .int (x5 + 1)), (3, .int x5), (4, .int r6), (6, .int r6), (0, .ref (rb_ad w 0)), (1, .int x1), (2, .int x2)] dX11_ask_59 rfl rfl (by decide) rfl ?_
        refine rb_goto hC 28 dX11_ask_62 (by decide) ?_
        exact rb_sub [4, 5, 6, 1, 2, 0] rfl (ih x5 r6 (x5 + 1) _ h hE0)
def xf_RP_ask (p0 : Int32) (σ : rb_St) : Option Int32 := rb_b1 (xf_RP_fits σ) fun r1 => if (xf_RP_isDancer p0 σ) = 0 then some (-1) else if 0 < r1 then rb_b1 (xl_RP_ask_28 p0 r1 σ rb_FU 1 7 1) fun y9 => some y9 else some (-1)
set_option maxHeartbeats 4000000 in
set_option maxRecDepth 100000 in
theorem xk_RP_ask {z : rb_Z} {w : rb_Wd} (hC : rb_Cx z rb_vX w RX11 cX11_ask 7 (some .int) 4) (p0 : Int32) (σ : rb_St) (r : Int32) (h : xf_RP_ask p0 σ = some r) : rb_At z rb_vX w 7 (rb_Q z rb_vX w (some (.int r)) σ) 0 [(0, .ref (rb_ad w 0)), (1, .int p0)] [] σ := by
  unfold xf_RP_ask at h
  refine rb_aload_n hC 0 dX11_ask_0 rfl ?_
  obtain ⟨r1, q2, h⟩ := rb_b1s h
  refine rb_callVi hC rb_VokX mv_X11_420 (xc_RP_fits  σ _ q2) rb_obX0 rfl [] rfl rfl rfl ⟨Nat.le_of_ble_eq_true rfl, Nat.le_of_ble_eq_true rfl⟩ (Nat.le_of_ble_eq_true rfl) dX11_ask_1 ?_
  refine rb_istore_n hC [(2, .int r1), (0, .ref (rb_ad w 0)), (1, .int p0)] dX11_ask_4 (by decide) rfl ?_
  refine rb_aload_n hC 1 dX11_ask_5 rfl ?_
  refine rb_iload_n hC 2 dX11_ask_6 rfl ?_
  refine rb_callVi hC rb_VokX mv_X11_188 (xc_RP_isDancer p0 σ _ rfl) rb_obX0 rfl [.int p0] rfl rfl rfl ⟨Nat.le_of_ble_eq_true rfl, Nat.le_of_ble_eq_true rfl⟩ (Nat.le_of_ble_eq_true rfl) dX11_ask_7 ?_
  refine rb_if_eq hC 17 dX11_ask_10 (by decide) (fun c3 => ?_) (fun c3 => ?_)
  · replace h := rb_ifp c3 h
    refine rb_iconst (x := (-1)) hC dX11_ask_17 (by decide) ?_
    cases h
    exact rb_iret hC dX11_ask_18
  · replace h := rb_ifn c3 h
    refine rb_iload_n hC 0 dX11_ask_13 rfl ?_
    refine rb_if_gt hC 19 dX11_ask_14 (by decide) (fun c4 => ?_) (fun c4 => ?_)
    · replace h := rb_ifp c4 h
      refine rb_iconst (x := 1) hC dX11_ask_19 (by decide) ?_
      refine rb_istore_n hC [(3, .int 1), (2, .int r1), (0, .ref (rb_ad w 0)), (1, .int p0)] dX11_ask_20 (by decide) rfl ?_
      refine rb_bipush (x := 7) hC dX11_ask_21 (by decide) ?_
      refine rb_istore hC [(4, .int 7), (3, .int 1), (2, .int r1), (0, .ref (rb_ad w 0)), (1, .int p0)] dX11_ask_23 (by decide) rfl ?_
      refine rb_iconst (x := 1) hC dX11_ask_25 (by decide) ?_
      refine rb_istore hC [(5, .int 1), (4, .int 7), (3, .int 1), (2, .int r1), (0, .ref (rb_ad w 0)), (1, .int p0)] dX11_ask_26 (by decide) rfl ?_
      obtain ⟨y9, q10, h⟩ := rb_b1s h
      refine rb_sub (lv2 := [(0, .ref (rb_ad w 0)), (1, .int p0), (2, .int r1), (3, .int 1), (4, .int 7), (5, .int 1)]) [4, 5, 3, 2, 1, 0] rfl ?_
      refine xt_RP_ask_28 hC p0 r1 σ rb_FU 1 7 1 _ q10 ?_
      refine rb_iload_n hC 0 dX11_ask_65 rfl ?_
      cases h
      exact rb_iret hC dX11_ask_66
    · replace h := rb_ifn c4 h
      refine rb_iconst (x := (-1)) hC dX11_ask_17 (by decide) ?_
      cases h
      exact rb_iret hC dX11_ask_18
theorem xc_RP_ask (p0 : Int32) (σ : rb_St) (r : Int32) (h : xf_RP_ask p0 σ = some r) : rb_Con rb_vX yX11_ask cX11_ask 7 (some .int) 4 (fun w => [.ref (rb_ad w 0), .int p0]) σ (fun _ => (some (.int r))) σ := rb_Con.of (by decide +kernel) (fun _ => Nat.le_of_ble_eq_true rfl) (fun z w hC => xk_RP_ask hC p0 σ r h)
def xj_M_clause_251 (x1 : Int32) (σ : rb_St) : Option (rb_St) := if rb_ib (σ.1 0 14) 5 then if rb_ib x1 700 then rb_lt (rb_sI σ 8 x1.toNatClampNeg (σ.1 4 (σ.1 0 14).toNatClampNeg)) (fun s30 => if rb_ib (s30.1 0 14) 5 then rb_lt (rb_sI s30 5 (s30.1 0 14).toNatClampNeg ((s30.1 5 (s30.1 0 14).toNatClampNeg) + 1)) (fun s33 => some s33) else none) else none else none
set_option maxHeartbeats 4000000 in
set_option maxRecDepth 100000 in
theorem xu_M_clause_251 {z : rb_Z} {w : rb_Wd} (hC : rb_Cx z rb_vM w RX12 cX12_clause 3 none 68) (x1 : Int32) (σ : rb_St) (σ9 : rb_St) (h : xj_M_clause_251 x1 σ = some σ9) : rb_At z rb_vM w 3 (rb_Q z rb_vM w none σ9) 251 [(0, .ref (rb_ad w 0)), (1, .int x1)] [] σ := by
  unfold xj_M_clause_251 at h
  refine rb_aload_n hC 0 dX12_clause_251 rfl ?_
  refine rb_getR hC fr_X12_31_11 rb_obM0 rfl dX12_clause_252 ?_
  refine rb_iload_n hC 1 dX12_clause_255 rfl ?_
  refine rb_aload_n hC 0 dX12_clause_256 rfl ?_
  refine rb_getR hC fr_X12_19_11 rb_obM0 rfl dX12_clause_257 ?_
  refine rb_aload_n hC 0 dX12_clause_260 rfl ?_
  refine rb_getI hC fr_X12_134_11 rb_obM0 rfl dX12_clause_261 ?_
  obtain ⟨g28, h⟩ := rb_gd h
  refine rb_iald hC rb_arM4 (rb_ibI g28) dX12_clause_264 ?_
  obtain ⟨g29, h⟩ := rb_gd h
  refine rb_iast hC rb_arM8 (rb_ibI g29) dX12_clause_265 ?_
  obtain ⟨s30, e31, h⟩ := rb_ltE h
  refine rb_nmS e31 ?_
  refine rb_aload_n hC 0 dX12_clause_266 rfl ?_
  refine rb_getR hC fr_X12_22_11 rb_obM0 rfl dX12_clause_267 ?_
  refine rb_aload_n hC 0 dX12_clause_270 rfl ?_
  refine rb_getI hC fr_X12_134_11 rb_obM0 rfl dX12_clause_271 ?_
  refine rb_dup2_11 hC dX12_clause_274 rfl rfl ?_
  obtain ⟨g32, h⟩ := rb_gd h
  refine rb_iald hC rb_arM5 (rb_ibI g32) dX12_clause_275 ?_
  refine rb_iconst (x := 1) hC dX12_clause_276 (by decide) ?_
  refine rb_iadd hC dX12_clause_277 ?_
  refine rb_iast hC rb_arM5 (rb_ibI g32) dX12_clause_278 ?_
  obtain ⟨s33, e34, h⟩ := rb_ltE h
  refine rb_nmS e34 ?_
  cases h
  exact rb_vret hC dX12_clause_279
def xj_M_clause_184 (x1 : Int32) (x2 : Int32) (σ : rb_St) : Option (rb_St) := if rb_ib x1 700 then rb_lt (rb_sI σ 7 x1.toNatClampNeg (σ.1 6 x1.toNatClampNeg)) (fun s25 => if x2 = 0 then xj_M_clause_251 x1 s25 else if (s25.1 0 4) = (-1) then rb_b2 (xf_M_look s25) fun r38 s36 => if r38 = 63 then rb_lt (rb_sI s36 0 3 ((s36.1 0 3) + 1)) (fun s40 => if rb_ib (s40.1 0 14) 5 then rb_lt (rb_sI s40 7 x1.toNatClampNeg (s40.1 4 (s40.1 0 14).toNatClampNeg)) (fun s43 => rb_b1 (xf_M_sum 64 s43) fun s45 => xj_M_clause_251 x1 s45) else none) else rb_b1 (xf_M_bad s36) fun s47 => some s47 else xj_M_clause_251 x1 s25) else none
set_option maxHeartbeats 4000000 in
set_option maxRecDepth 100000 in
theorem xu_M_clause_184 {z : rb_Z} {w : rb_Wd} (hC : rb_Cx z rb_vM w RX12 cX12_clause 3 none 68) (x1 : Int32) (x2 : Int32) (σ : rb_St) (σ9 : rb_St) (h : xj_M_clause_184 x1 x2 σ = some σ9) : rb_At z rb_vM w 3 (rb_Q z rb_vM w none σ9) 184 [(0, .ref (rb_ad w 0)), (1, .int x1), (2, .int x2)] [] σ := by
  unfold xj_M_clause_184 at h
  refine rb_aload_n hC 0 dX12_clause_184 rfl ?_
  refine rb_getR hC fr_X12_28_11 rb_obM0 rfl dX12_clause_185 ?_
  refine rb_iload_n hC 1 dX12_clause_188 rfl ?_
  refine rb_aload_n hC 0 dX12_clause_189 rfl ?_
  refine rb_getR hC fr_X12_25_11 rb_obM0 rfl dX12_clause_190 ?_
  refine rb_iload_n hC 1 dX12_clause_193 rfl ?_
  obtain ⟨g24, h⟩ := rb_gd h
  refine rb_iald hC rb_arM6 (rb_ibI g24) dX12_clause_194 ?_
  refine rb_iast hC rb_arM7 (rb_ibI g24) dX12_clause_195 ?_
  obtain ⟨s25, e26, h⟩ := rb_ltE h
  refine rb_nmS e26 ?_
  refine rb_iload_n hC 2 dX12_clause_196 rfl ?_
  refine rb_if_eq hC 251 dX12_clause_197 (by decide) (fun c27 => ?_) (fun c27 => ?_)
  · replace h := rb_ifp c27 h
    exact rb_sub [0, 1] rfl (xu_M_clause_251 hC x1 s25 _ h)
  · replace h := rb_ifn c27 h
    refine rb_aload_n hC 0 dX12_clause_200 rfl ?_
    refine rb_getI hC fr_X12_131_11 rb_obM0 rfl dX12_clause_201 ?_
    refine rb_iconst (x := (-1)) hC dX12_clause_204 (by decide) ?_
    refine rb_icmp_ne hC 251 dX12_clause_205 (by decide) (fun c35 => ?_) (fun c35 => ?_)
    · replace h := rb_ifn c35 h
      exact rb_sub [0, 1] rfl (xu_M_clause_251 hC x1 s25 _ h)
    · replace h := rb_ifp c35 h
      refine rb_aload_n hC 0 dX12_clause_208 rfl ?_
      obtain ⟨r38, s36, q37, h⟩ := rb_b2s h
      refine rb_callVi hC rb_VokM mv_X12_143 (xc_M_look  s25 _ _ q37) rb_obM0 rfl [] rfl rfl rfl ⟨Nat.le_of_ble_eq_true rfl, Nat.le_of_ble_eq_true rfl⟩ (Nat.le_of_ble_eq_true rfl) dX12_clause_209 ?_
      refine rb_bipush (x := 63) hC dX12_clause_212 (by decide) ?_
      refine rb_icmp_eq hC 222 dX12_clause_214 (by decide) (fun c39 => ?_) (fun c39 => ?_)
      · replace h := rb_ifp c39 h
        refine rb_aload_n hC 0 dX12_clause_222 rfl ?_
        refine rb_dup hC dX12_clause_223 rfl ?_
        refine rb_getI hC fr_X12_124_11 rb_obM0 rfl dX12_clause_224 ?_
        refine rb_iconst (x := 1) hC dX12_clause_227 (by decide) ?_
        refine rb_iadd hC dX12_clause_228 ?_
        refine rb_putI hC fr_X12_124_11 ft_11_3 rb_obM0 rfl rfl rfl dX12_clause_229 ?_
        obtain ⟨s40, e41, h⟩ := rb_ltE h
        refine rb_nmS e41 ?_
        refine rb_aload_n hC 0 dX12_clause_232 rfl ?_
        refine rb_getR hC fr_X12_28_11 rb_obM0 rfl dX12_clause_233 ?_
        refine rb_iload_n hC 1 dX12_clause_236 rfl ?_
        refine rb_aload_n hC 0 dX12_clause_237 rfl ?_
        refine rb_getR hC fr_X12_19_11 rb_obM0 rfl dX12_clause_238 ?_
        refine rb_aload_n hC 0 dX12_clause_241 rfl ?_
        refine rb_getI hC fr_X12_134_11 rb_obM0 rfl dX12_clause_242 ?_
        obtain ⟨g42, h⟩ := rb_gd h
        refine rb_iald hC rb_arM4 (rb_ibI g42) dX12_clause_245 ?_
        refine rb_iast hC rb_arM7 (rb_ibI g24) dX12_clause_246 ?_
        obtain ⟨s43, e44, h⟩ := rb_ltE h
        refine rb_nmS e44 ?_
        refine rb_aload_n hC 0 dX12_clause_247 rfl ?_
        obtain ⟨s45, q46, h⟩ := rb_b1s h
        refine rb_callVv hC rb_VokM mv_X12_164 (xc_M_sum 64  s43 _ q46) rb_obM0 rfl [] rfl rfl rfl ⟨Nat.le_of_ble_eq_true rfl, Nat.le_of_ble_eq_true rfl⟩ (Nat.le_of_ble_eq_true rfl) dX12_clause_248 ?_
        exact rb_sub [0, 1] rfl (xu_M_clause_251 hC x1 s45 _ h)
      · replace h := rb_ifn c39 h
        refine rb_aload_n hC 0 dX12_clause_217 rfl ?_
        obtain ⟨s47, q48, h⟩ := rb_b1s h
        refine rb_callVv hC rb_VokM mv_X12_140 (xc_M_bad  s36 _ q48) rb_obM0 rfl [] rfl rfl rfl ⟨Nat.le_of_ble_eq_true rfl, Nat.le_of_ble_eq_true rfl⟩ (Nat.le_of_ble_eq_true rfl) dX12_clause_218 ?_
        cases h
        exact rb_vret hC dX12_clause_221
def xj_M_clause_128 (x1 : Int32) (u0 : Int32) (σ : rb_St) : Option (rb_St) := if u0 = 0 then rb_b1 (xf_M_sum 64 σ) fun s20 => if (s20.1 0 4) = (-1) then rb_b2 (xf_M_look s20) fun r51 s49 => if (xf_M_isSign r51 s49) = 0 then xj_M_clause_184 x1 0 s49 else rb_b1 (xf_M_compare 64 s49) fun s55 => rb_b1 (xf_M_goOnAnd 64 s55) fun s57 => rb_b1 (xf_M_goOnOr 64 s57) fun s59 => xj_M_clause_184 x1 1 s59 else xj_M_clause_184 x1 0 s20 else rb_b1 (xf_M_condition 64 σ) fun s61 => xj_M_clause_184 x1 u0 s61
set_option maxHeartbeats 4000000 in
set_option maxRecDepth 100000 in
theorem xu_M_clause_128 {z : rb_Z} {w : rb_Wd} (hC : rb_Cx z rb_vM w RX12 cX12_clause 3 none 68) (x1 : Int32) (u0 : Int32) (σ : rb_St) (σ9 : rb_St) (h : xj_M_clause_128 x1 u0 σ = some σ9) : rb_At z rb_vM w 3 (rb_Q z rb_vM w none σ9) 128 [(0, .ref (rb_ad w 0)), (1, .int x1)] [.int u0] σ := by
  unfold xj_M_clause_128 at h
  refine rb_istore_n hC [(2, .int u0), (0, .ref (rb_ad w 0)), (1, .int x1)] dX12_clause_128 (by decide) rfl ?_
  refine rb_iload_n hC 0 dX12_clause_129 rfl ?_
  refine rb_if_eq hC 140 dX12_clause_130 (by decide) (fun c19 => ?_) (fun c19 => ?_)
  · replace h := rb_ifp c19 h
    refine rb_aload_n hC 1 dX12_clause_140 rfl ?_
    obtain ⟨s20, q21, h⟩ := rb_b1s h
    refine rb_callVv hC rb_VokM mv_X12_164 (xc_M_sum 64  σ _ q21) rb_obM0 rfl [] rfl rfl rfl ⟨Nat.le_of_ble_eq_true rfl, Nat.le_of_ble_eq_true rfl⟩ (Nat.le_of_ble_eq_true rfl) dX12_clause_141 ?_
    refine rb_aload_n hC 1 dX12_clause_144 rfl ?_
    refine rb_getI hC fr_X12_131_11 rb_obM0 rfl dX12_clause_145 ?_
    refine rb_iconst (x := (-1)) hC dX12_clause_148 (by decide) ?_
    refine rb_icmp_ne hC 166 dX12_clause_149 (by decide) (fun c22 => ?_) (fun c22 => ?_)
    · replace h := rb_ifn c22 h
      refine rb_iconst (x := 0) hC dX12_clause_166 (by decide) ?_
      refine rb_istore_n hC [(2, .int 0), (0, .ref (rb_ad w 0)), (1, .int x1)] dX12_clause_167 (by decide) rfl ?_
      refine rb_iload_n hC 0 dX12_clause_168 rfl ?_
      refine rb_if_eq hC 184 dX12_clause_169 (by decide) (fun _ => ?_) (fun c23 => absurd c23 (by decide))
      exact rb_sub [1, 2, 0] rfl (xu_M_clause_184 hC x1 0 s20 _ h)
    · replace h := rb_ifp c22 h
      refine rb_aload_n hC 1 dX12_clause_152 rfl ?_
      obtain ⟨r51, s49, q50, h⟩ := rb_b2s h
      refine rb_callVi hC rb_VokM mv_X12_143 (xc_M_look  s20 _ _ q50) rb_obM0 rfl [] rfl rfl rfl ⟨Nat.le_of_ble_eq_true rfl, Nat.le_of_ble_eq_true rfl⟩ (Nat.le_of_ble_eq_true rfl) dX12_clause_153 ?_
      refine rb_callSi hC rb_VokM mv_X12_177 (xc_M_isSign r51 s49 _ rfl) [.int r51] rfl rfl rfl ⟨Nat.le_of_ble_eq_true rfl, Nat.le_of_ble_eq_true rfl⟩ (Nat.le_of_ble_eq_true rfl) dX12_clause_156 ?_
      refine rb_if_eq hC 166 dX12_clause_159 (by decide) (fun c52 => ?_) (fun c52 => ?_)
      · replace h := rb_ifp c52 h
        refine rb_iconst (x := 0) hC dX12_clause_166 (by decide) ?_
        refine rb_istore_n hC [(2, .int 0), (0, .ref (rb_ad w 0)), (1, .int x1)] dX12_clause_167 (by decide) rfl ?_
        refine rb_iload_n hC 0 dX12_clause_168 rfl ?_
        refine rb_if_eq hC 184 dX12_clause_169 (by decide) (fun _ => ?_) (fun c53 => absurd c53 (by decide))
        exact rb_sub [1, 2, 0] rfl (xu_M_clause_184 hC x1 0 s49 _ h)
      · replace h := rb_ifn c52 h
        refine rb_iconst (x := 1) hC dX12_clause_162 (by decide) ?_
        refine rb_goto hC 167 dX12_clause_163 (by decide) ?_
        refine rb_istore_n hC [(2, .int 1), (0, .ref (rb_ad w 0)), (1, .int x1)] dX12_clause_167 (by decide) rfl ?_
        refine rb_iload_n hC 0 dX12_clause_168 rfl ?_
        refine rb_if_eq hC 184 dX12_clause_169 (by decide) (fun c54 => absurd c54 (by decide)) (fun _ => ?_)
        refine rb_aload_n hC 1 dX12_clause_172 rfl ?_
        obtain ⟨s55, q56, h⟩ := rb_b1s h
        refine rb_callVv hC rb_VokM mv_X12_186 (xc_M_compare 64  s49 _ q56) rb_obM0 rfl [] rfl rfl rfl ⟨Nat.le_of_ble_eq_true rfl, Nat.le_of_ble_eq_true rfl⟩ (Nat.le_of_ble_eq_true rfl) dX12_clause_173 ?_
        refine rb_aload_n hC 1 dX12_clause_176 rfl ?_
        obtain ⟨s57, q58, h⟩ := rb_b1s h
        refine rb_callVv hC rb_VokM mv_X12_189 (xc_M_goOnAnd 64  s55 _ q58) rb_obM0 rfl [] rfl rfl rfl ⟨Nat.le_of_ble_eq_true rfl, Nat.le_of_ble_eq_true rfl⟩ (Nat.le_of_ble_eq_true rfl) dX12_clause_177 ?_
        refine rb_aload_n hC 1 dX12_clause_180 rfl ?_
        obtain ⟨s59, q60, h⟩ := rb_b1s h
        refine rb_callVv hC rb_VokM mv_X12_192 (xc_M_goOnOr 64  s57 _ q60) rb_obM0 rfl [] rfl rfl rfl ⟨Nat.le_of_ble_eq_true rfl, Nat.le_of_ble_eq_true rfl⟩ (Nat.le_of_ble_eq_true rfl) dX12_clause_181 ?_
        exact rb_sub [1, 2, 0] rfl (xu_M_clause_184 hC x1 1 s59 _ h)
  · replace h := rb_ifn c19 h
    refine rb_aload_n hC 1 dX12_clause_133 rfl ?_
    obtain ⟨s61, q62, h⟩ := rb_b1s h
    refine rb_callVv hC rb_VokM mv_X12_183 (xc_M_condition 64  σ _ q62) rb_obM0 rfl [] rfl rfl rfl ⟨Nat.le_of_ble_eq_true rfl, Nat.le_of_ble_eq_true rfl⟩ (Nat.le_of_ble_eq_true rfl) dX12_clause_134 ?_
    refine rb_goto hC 184 dX12_clause_137 (by decide) ?_
    exact rb_sub [1, 2, 0] rfl (xu_M_clause_184 hC x1 u0 s61 _ h)
def xj_M_clause_71 (x1 : Int32) (σ : rb_St) : Option (rb_St) := rb_lt (rb_sI σ 0 3 ((σ.1 0 3) + 1)) (fun s8 => if (s8.1 0 4) = (-1) then if rb_ib (s8.1 0 14) 5 then if rb_ib x1 700 then rb_lt (rb_sI s8 6 x1.toNatClampNeg (s8.1 4 (s8.1 0 14).toNatClampNeg)) (fun s13 => rb_b2 (xf_M_look s13) fun r17 s15 => if r17 = 33 then xj_M_clause_128 x1 1 s15 else rb_b2 (xf_M_look s15) fun r65 s63 => if r65 = 40 then xj_M_clause_128 x1 1 s63 else xj_M_clause_128 x1 0 s63) else none else none else some s8)
set_option maxHeartbeats 4000000 in
set_option maxRecDepth 100000 in
theorem xu_M_clause_71 {z : rb_Z} {w : rb_Wd} (hC : rb_Cx z rb_vM w RX12 cX12_clause 3 none 68) (x1 : Int32) (σ : rb_St) (σ9 : rb_St) (h : xj_M_clause_71 x1 σ = some σ9) : rb_At z rb_vM w 3 (rb_Q z rb_vM w none σ9) 71 [(0, .ref (rb_ad w 0)), (1, .int x1)] [] σ := by
  unfold xj_M_clause_71 at h
  refine rb_aload_n hC 0 dX12_clause_71 rfl ?_
  refine rb_dup hC dX12_clause_72 rfl ?_
  refine rb_getI hC fr_X12_124_11 rb_obM0 rfl dX12_clause_73 ?_
  refine rb_iconst (x := 1) hC dX12_clause_76 (by decide) ?_
  refine rb_iadd hC dX12_clause_77 ?_
  refine rb_putI hC fr_X12_124_11 ft_11_3 rb_obM0 rfl rfl rfl dX12_clause_78 ?_
  obtain ⟨s8, e9, h⟩ := rb_ltE h
  refine rb_nmS e9 ?_
  refine rb_aload_n hC 0 dX12_clause_81 rfl ?_
  refine rb_getI hC fr_X12_131_11 rb_obM0 rfl dX12_clause_82 ?_
  refine rb_iconst (x := (-1)) hC dX12_clause_85 (by decide) ?_
  refine rb_icmp_eq hC 90 dX12_clause_86 (by decide) (fun c10 => ?_) (fun c10 => ?_)
  · replace h := rb_ifp c10 h
    refine rb_aload_n hC 0 dX12_clause_90 rfl ?_
    refine rb_getR hC fr_X12_25_11 rb_obM0 rfl dX12_clause_91 ?_
    refine rb_iload_n hC 1 dX12_clause_94 rfl ?_
    refine rb_aload_n hC 0 dX12_clause_95 rfl ?_
    refine rb_getR hC fr_X12_19_11 rb_obM0 rfl dX12_clause_96 ?_
    refine rb_aload_n hC 0 dX12_clause_99 rfl ?_
    refine rb_getI hC fr_X12_134_11 rb_obM0 rfl dX12_clause_100 ?_
    obtain ⟨g11, h⟩ := rb_gd h
    refine rb_iald hC rb_arM4 (rb_ibI g11) dX12_clause_103 ?_
    obtain ⟨g12, h⟩ := rb_gd h
    refine rb_iast hC rb_arM6 (rb_ibI g12) dX12_clause_104 ?_
    obtain ⟨s13, e14, h⟩ := rb_ltE h
    refine rb_nmS e14 ?_
    refine rb_aload_n hC 0 dX12_clause_105 rfl ?_
    obtain ⟨r17, s15, q16, h⟩ := rb_b2s h
    refine rb_callVi hC rb_VokM mv_X12_143 (xc_M_look  s13 _ _ q16) rb_obM0 rfl [] rfl rfl rfl ⟨Nat.le_of_ble_eq_true rfl, Nat.le_of_ble_eq_true rfl⟩ (Nat.le_of_ble_eq_true rfl) dX12_clause_106 ?_
    refine rb_bipush (x := 33) hC dX12_clause_109 (by decide) ?_
    refine rb_icmp_eq hC 123 dX12_clause_111 (by decide) (fun c18 => ?_) (fun c18 => ?_)
    · replace h := rb_ifp c18 h
      refine rb_iconst (x := 1) hC dX12_clause_123 (by decide) ?_
      refine rb_goto hC 128 dX12_clause_124 (by decide) ?_
      exact rb_sub [0, 1] rfl (xu_M_clause_128 hC x1 1 s15 _ h)
    · replace h := rb_ifn c18 h
      refine rb_aload_n hC 0 dX12_clause_114 rfl ?_
      obtain ⟨r65, s63, q64, h⟩ := rb_b2s h
      refine rb_callVi hC rb_VokM mv_X12_143 (xc_M_look  s15 _ _ q64) rb_obM0 rfl [] rfl rfl rfl ⟨Nat.le_of_ble_eq_true rfl, Nat.le_of_ble_eq_true rfl⟩ (Nat.le_of_ble_eq_true rfl) dX12_clause_115 ?_
      refine rb_bipush (x := 40) hC dX12_clause_118 (by decide) ?_
      refine rb_icmp_ne hC 127 dX12_clause_120 (by decide) (fun c66 => ?_) (fun c66 => ?_)
      · replace h := rb_ifn c66 h
        refine rb_iconst (x := 0) hC dX12_clause_127 (by decide) ?_
        exact rb_sub [0, 1] rfl (xu_M_clause_128 hC x1 0 s63 _ h)
      · replace h := rb_ifp c66 h
        refine rb_iconst (x := 1) hC dX12_clause_123 (by decide) ?_
        refine rb_goto hC 128 dX12_clause_124 (by decide) ?_
        exact rb_sub [0, 1] rfl (xu_M_clause_128 hC x1 1 s63 _ h)
  · replace h := rb_ifn c10 h
    cases h
    exact rb_vret hC dX12_clause_89
def xj_M_clause_40 (x1 : Int32) (σ : rb_St) : Option (rb_St) := rb_lt (rb_sI σ 0 3 ((σ.1 0 3) + 1)) (fun s5 => if (s5.1 0 4) = (-1) then rb_b2 (xf_M_look s5) fun r69 s67 => if r69 = 58 then xj_M_clause_71 x1 s67 else rb_b1 (xf_M_bad s67) fun s71 => xj_M_clause_71 x1 s71 else xj_M_clause_71 x1 s5)
set_option maxHeartbeats 4000000 in
set_option maxRecDepth 100000 in
theorem xu_M_clause_40 {z : rb_Z} {w : rb_Wd} (hC : rb_Cx z rb_vM w RX12 cX12_clause 3 none 68) (x1 : Int32) (σ : rb_St) (σ9 : rb_St) (h : xj_M_clause_40 x1 σ = some σ9) : rb_At z rb_vM w 3 (rb_Q z rb_vM w none σ9) 40 [(0, .ref (rb_ad w 0)), (1, .int x1)] [] σ := by
  unfold xj_M_clause_40 at h
  refine rb_aload_n hC 0 dX12_clause_40 rfl ?_
  refine rb_dup hC dX12_clause_41 rfl ?_
  refine rb_getI hC fr_X12_124_11 rb_obM0 rfl dX12_clause_42 ?_
  refine rb_iconst (x := 1) hC dX12_clause_45 (by decide) ?_
  refine rb_iadd hC dX12_clause_46 ?_
  refine rb_putI hC fr_X12_124_11 ft_11_3 rb_obM0 rfl rfl rfl dX12_clause_47 ?_
  obtain ⟨s5, e6, h⟩ := rb_ltE h
  refine rb_nmS e6 ?_
  refine rb_aload_n hC 0 dX12_clause_50 rfl ?_
  refine rb_getI hC fr_X12_131_11 rb_obM0 rfl dX12_clause_51 ?_
  refine rb_iconst (x := (-1)) hC dX12_clause_54 (by decide) ?_
  refine rb_icmp_ne hC 71 dX12_clause_55 (by decide) (fun c7 => ?_) (fun c7 => ?_)
  · replace h := rb_ifn c7 h
    exact rb_sub [0, 1] rfl (xu_M_clause_71 hC x1 s5 _ h)
  · replace h := rb_ifp c7 h
    refine rb_aload_n hC 0 dX12_clause_58 rfl ?_
    obtain ⟨r69, s67, q68, h⟩ := rb_b2s h
    refine rb_callVi hC rb_VokM mv_X12_143 (xc_M_look  s5 _ _ q68) rb_obM0 rfl [] rfl rfl rfl ⟨Nat.le_of_ble_eq_true rfl, Nat.le_of_ble_eq_true rfl⟩ (Nat.le_of_ble_eq_true rfl) dX12_clause_59 ?_
    refine rb_bipush (x := 58) hC dX12_clause_62 (by decide) ?_
    refine rb_icmp_eq hC 71 dX12_clause_64 (by decide) (fun c70 => ?_) (fun c70 => ?_)
    · replace h := rb_ifp c70 h
      exact rb_sub [0, 1] rfl (xu_M_clause_71 hC x1 s67 _ h)
    · replace h := rb_ifn c70 h
      refine rb_aload_n hC 0 dX12_clause_67 rfl ?_
      obtain ⟨s71, q72, h⟩ := rb_b1s h
      refine rb_callVv hC rb_VokM mv_X12_140 (xc_M_bad  s67 _ q72) rb_obM0 rfl [] rfl rfl rfl ⟨Nat.le_of_ble_eq_true rfl, Nat.le_of_ble_eq_true rfl⟩ (Nat.le_of_ble_eq_true rfl) dX12_clause_68 ?_
      exact rb_sub [0, 1] rfl (xu_M_clause_71 hC x1 s71 _ h)
def xf_M_clause  (σ : rb_St) : Option (rb_St) := if rb_ib (σ.1 0 14) 5 then rb_lt ((140 * (σ.1 0 14)) + (σ.1 5 (σ.1 0 14).toNatClampNeg)) (fun v2 => if (σ.1 0 4) = (-1) then rb_b2 (xf_M_look σ) fun r75 s73 => if r75 = 121 then xj_M_clause_40 v2 s73 else rb_b1 (xf_M_bad s73) fun s77 => xj_M_clause_40 v2 s77 else xj_M_clause_40 v2 σ) else none
set_option maxHeartbeats 4000000 in
set_option maxRecDepth 100000 in
theorem xk_M_clause {z : rb_Z} {w : rb_Wd} (hC : rb_Cx z rb_vM w RX12 cX12_clause 3 none 68)  (σ : rb_St) (σ9 : rb_St) (h : xf_M_clause σ = some σ9) : rb_At z rb_vM w 3 (rb_Q z rb_vM w none σ9) 0 [(0, .ref (rb_ad w 0))] [] σ := by
  unfold xf_M_clause at h
  refine rb_sipush (x := 140) hC dX12_clause_0 (by decide) ?_
  refine rb_aload_n hC 0 dX12_clause_3 rfl ?_
  refine rb_getI hC fr_X12_134_11 rb_obM0 rfl dX12_clause_4 ?_
  refine rb_imul hC dX12_clause_7 ?_
  refine rb_aload_n hC 0 dX12_clause_8 rfl ?_
  refine rb_getR hC fr_X12_22_11 rb_obM0 rfl dX12_clause_9 ?_
  refine rb_aload_n hC 0 dX12_clause_12 rfl ?_
  refine rb_getI hC fr_X12_134_11 rb_obM0 rfl dX12_clause_13 ?_
  obtain ⟨g1, h⟩ := rb_gd h
  refine rb_iald hC rb_arM5 (rb_ibI g1) dX12_clause_16 ?_
  refine rb_iadd hC dX12_clause_17 ?_
  obtain ⟨v2, e3, h⟩ := rb_ltE h
  refine rb_nmI e3 ?_
  refine rb_istore_n hC [(1, .int v2), (0, .ref (rb_ad w 0))] dX12_clause_18 (by decide) rfl ?_
  refine rb_aload_n hC 1 dX12_clause_19 rfl ?_
  refine rb_getI hC fr_X12_131_11 rb_obM0 rfl dX12_clause_20 ?_
  refine rb_iconst (x := (-1)) hC dX12_clause_23 (by decide) ?_
  refine rb_icmp_ne hC 40 dX12_clause_24 (by decide) (fun c4 => ?_) (fun c4 => ?_)
  · replace h := rb_ifn c4 h
    exact rb_sub [1, 0] rfl (xu_M_clause_40 hC v2 σ _ h)
  · replace h := rb_ifp c4 h
    refine rb_aload_n hC 1 dX12_clause_27 rfl ?_
    obtain ⟨r75, s73, q74, h⟩ := rb_b2s h
    refine rb_callVi hC rb_VokM mv_X12_143 (xc_M_look  σ _ _ q74) rb_obM0 rfl [] rfl rfl rfl ⟨Nat.le_of_ble_eq_true rfl, Nat.le_of_ble_eq_true rfl⟩ (Nat.le_of_ble_eq_true rfl) dX12_clause_28 ?_
    refine rb_bipush (x := 121) hC dX12_clause_31 (by decide) ?_
    refine rb_icmp_eq hC 40 dX12_clause_33 (by decide) (fun c76 => ?_) (fun c76 => ?_)
    · replace h := rb_ifp c76 h
      exact rb_sub [1, 0] rfl (xu_M_clause_40 hC v2 s73 _ h)
    · replace h := rb_ifn c76 h
      refine rb_aload_n hC 1 dX12_clause_36 rfl ?_
      obtain ⟨s77, q78, h⟩ := rb_b1s h
      refine rb_callVv hC rb_VokM mv_X12_140 (xc_M_bad  s73 _ q78) rb_obM0 rfl [] rfl rfl rfl ⟨Nat.le_of_ble_eq_true rfl, Nat.le_of_ble_eq_true rfl⟩ (Nat.le_of_ble_eq_true rfl) dX12_clause_37 ?_
      exact rb_sub [1, 0] rfl (xu_M_clause_40 hC v2 s77 _ h)
theorem xc_M_clause  (σ : rb_St) (σ9 : rb_St) (h : xf_M_clause σ = some σ9) : rb_Con rb_vM yX12_clause cX12_clause 3 none 68 (fun w => [.ref (rb_ad w 0)]) σ (fun _ => none) σ9 := rb_Con.of (by decide +kernel) (fun _ => Nat.le_of_ble_eq_true rfl) (fun z w hC => xk_M_clause hC  σ σ9 h)
