theorem me_X8_isDigit : Cond.static yX8_isDigit ∈ rb_tbl ∧ Cond.initialized yX8_isDigit.cls ∈ rb_tbl ∧ Cond.code yX8_isDigit cX8_isDigit 1 (some .boolean) ∈ rb_tbl ∧ rb_pn yX8_isDigit 1 := ⟨rb_in (by decide +kernel) (by decide +kernel), rb_in (by decide +kernel) (by decide +kernel), rb_in (by decide +kernel) (by decide +kernel), by decide +kernel, by decide +kernel, by decide +kernel⟩
theorem mv_X8_32 : rb_MS RX8 32 yX8_isDigit cX8_isDigit 1 (some .boolean) 1 := ⟨rb_in (by decide +kernel) (by decide +kernel), me_X8_isDigit⟩
theorem me_X9_signAt : Cond.instanceMethod yX9_signAt ∈ rb_tbl ∧ Cond.selects yX9_signAt.cls yX9_signAt yX9_signAt ∈ rb_tbl ∧ Cond.initialized yX9_signAt.cls ∈ rb_tbl ∧ Cond.code yX9_signAt cX9_signAt 2 (some .int) ∈ rb_tbl ∧ rb_pn yX9_signAt 1 := ⟨rb_in (by decide +kernel) (by decide +kernel), rb_in (by decide +kernel) (by decide +kernel), rb_in (by decide +kernel) (by decide +kernel), rb_in (by decide +kernel) (by decide +kernel), by decide +kernel, by decide +kernel, by decide +kernel⟩
theorem mv_X8_36 : rb_MV RX8 36 yX9_signAt cX9_signAt 2 (some .int) 1 := ⟨rb_in (by decide +kernel) (by decide +kernel), me_X9_signAt⟩
def xl_Rd_readNumberG_16 (x1 : Int32) : Nat → Int32 → Int32 → rb_St → Option (Int32 × rb_St)
  | 0, _, _, _ => none
  | n + 1, x2, x3, σ => if x1 ≤ x3 then some (x2, σ) else rb_b1 (xf_Tape_signAt (σ.1 3 1) σ) fun r6 => if (xf_Rd_isDigit r6 σ) = 0 then some (x2, σ) else rb_b1 (xf_Tape_signAt (σ.1 3 1) σ) fun r9 => rb_lt (rb_sI σ 3 1 ((σ.1 3 1) + 1)) (fun s11 => xl_Rd_readNumberG_16 x1 n (((10 * x2) + r9) - 48) (x3 + 1) s11)
set_option maxHeartbeats 4000000 in
set_option maxRecDepth 100000 in
theorem xt_Rd_readNumberG_16 {z : rb_Z} {w : rb_Wd} {Q : State → Prop} (hC : rb_Cx z rb_vX w RX8 cX8_readNumber 4 (some .int) 1) (x1 : Int32) : ∀ (n : Nat) (x2 : Int32) (x3 : Int32) (σ : rb_St) (y2 : Int32) (σ9 : rb_St), xl_Rd_readNumberG_16 x1 n x2 x3 σ = some (y2, σ9) → rb_At z rb_vX w 4 Q 74 [(0, .ref (rb_ad w 3)), (2, .int y2)] [] σ9 → rb_At z rb_vX w 4 Q 16 [(0, .ref (rb_ad w 3)), (1, .int x1), (2, .int x2), (3, .int x3)] [] σ := by
  intro n
  induction n with
  | zero =>
    intro x2 x3 σ y2 σ9 h hE0
    cases h
  | succ n ih =>
    intro x2 x3 σ y2 σ9 h hE0
    rw [xl_Rd_readNumberG_16] at h
    refine rb_iload_n hC 3 dX8_readNumber_16 rfl ?_
    refine rb_iload_n hC 1 dX8_readNumber_17 rfl ?_
    refine rb_icmp_ge hC 74 dX8_readNumber_18 (by decide) (fun c5 => ?_) (fun c5 => ?_)
    · replace h := rb_ifp c5 h
      cases h
      exact rb_sub [0, 2] rfl (hE0)
    · replace h := rb_ifn c5 h
      refine rb_aload_n hC 0 dX8_readNumber_21 rfl ?_
      refine rb_getR hC fr_X8_9_4 rb_obX3 rfl dX8_readNumber_22 ?_
      refine rb_aload_n hC 0 dX8_readNumber_25 rfl ?_
      refine rb_getI hC fr_X8_15_4 rb_obX3 rfl dX8_readNumber_26 ?_
      obtain ⟨r6, q7, h⟩ := rb_b1s h
      refine rb_callVi hC rb_VokX mv_X8_36 (xc_Tape_signAt (σ.1 3 1) σ _ q7) rb_obX1 rfl [.int (σ.1 3 1)] rfl rfl rfl ⟨Nat.le_of_ble_eq_true rfl, Nat.le_of_ble_eq_true rfl⟩ (Nat.le_of_ble_eq_true rfl) dX8_readNumber_29 ?_
      refine rb_callSi hC rb_VokX mv_X8_32 (xc_Rd_isDigit r6 σ _ rfl) [.int r6] rfl rfl rfl ⟨Nat.le_of_ble_eq_true rfl, Nat.le_of_ble_eq_true rfl⟩ (Nat.le_of_ble_eq_true rfl) dX8_readNumber_32 ?_
      refine rb_if_eq hC 74 dX8_readNumber_35 (by decide) (fun c8 => ?_) (fun c8 => ?_)
      · replace h := rb_ifp c8 h
        cases h
        exact rb_sub [0, 2] rfl (hE0)
      · replace h := rb_ifn c8 h
        refine rb_bipush (x := 10) hC dX8_readNumber_38 (by decide) ?_
        refine rb_iload_n hC 2 dX8_readNumber_40 rfl ?_
        refine rb_imul hC dX8_readNumber_41 ?_
        refine rb_aload_n hC 0 dX8_readNumber_42 rfl ?_
        refine rb_getR hC fr_X8_9_4 rb_obX3 rfl dX8_readNumber_43 ?_
        refine rb_aload_n hC 0 dX8_readNumber_46 rfl ?_
        refine rb_getI hC fr_X8_15_4 rb_obX3 rfl dX8_readNumber_47 ?_
        obtain ⟨r9, q10, h⟩ := rb_b1s h
        refine rb_callVi hC rb_VokX mv_X8_36 (xc_Tape_signAt (σ.1 3 1) σ _ q10) rb_obX1 rfl [.int (σ.1 3 1)] rfl rfl rfl ⟨Nat.le_of_ble_eq_true rfl, Nat.le_of_ble_eq_true rfl⟩ (Nat.le_of_ble_eq_true rfl) dX8_readNumber_50 ?_
        refine rb_iadd hC dX8_readNumber_53 ?_
        refine rb_bipush (x := 48) hC dX8_readNumber_54 (by decide) ?_
        refine rb_isub hC dX8_readNumber_56 ?_
        refine rb_istore_n hC [(2, .int (((10 * x2) + r9) - 48)), (0, .ref (rb_ad w 3)), (1, .int x1), (3, .int x3)] dX8_readNumber_57 (by decide) rfl ?_
        refine rb_aload_n hC 1 dX8_readNumber_58 rfl ?_
        refine rb_dup hC dX8_readNumber_59 rfl ?_
        refine rb_getI hC fr_X8_15_4 rb_obX3 rfl dX8_readNumber_60 ?_
        refine rb_iconst (x := 1) hC dX8_readNumber_63 (by decide) ?_
        refine rb_iadd hC dX8_readNumber_64 ?_
        refine rb_putI hC fr_X8_15_4 ft_4_1 rb_obX3 rfl rfl rfl dX8_readNumber_65 ?_
        obtain ⟨s11, e12, h⟩ := rb_ltE h
        refine rb_nmS e12 ?_
        refine rb_iinc hC 3 [(3, .int (x3 + 1)), (2, .int (((10 * x2) + r9) - 48)), (0, .ref (rb_ad w 3)), (1, .int x1)] dX8_readNumber_68 rfl rfl (by decide) rfl ?_
        refine rb_goto hC 16 dX8_readNumber_71 (by decide) ?_
        exact rb_sub [2, 3, 1, 0] rfl (ih (((10 * x2) + r9) - 48) (x3 + 1) s11 _ _ h hE0)
def xf_Rd_readNumberG (p0 : Int32) (σ : rb_St) : Option (Int32 × rb_St) := rb_b2 (xf_Rd_nextSignG σ) fun r3 s1 => if (xf_Rd_isDigit r3 s1) = 0 then some ((-1), s1) else rb_b2 (xl_Rd_readNumberG_16 p0 rb_FU 0 0 s1) fun y13 s14 => rb_b1 (xf_Tape_signAt (s14.1 3 1) s14) fun r16 => if (xf_Rd_isDigit r16 s14) = 0 then some (y13, s14) else some ((-1), s14)
set_option maxHeartbeats 4000000 in
set_option maxRecDepth 100000 in
theorem xk_Rd_readNumberG {z : rb_Z} {w : rb_Wd} (hC : rb_Cx z rb_vX w RX8 cX8_readNumber 4 (some .int) 1) (p0 : Int32) (σ : rb_St) (r : Int32) (σ9 : rb_St) (h : xf_Rd_readNumberG p0 σ = some (r, σ9)) : rb_At z rb_vX w 4 (rb_Q z rb_vX w (some (.int r)) σ9) 0 [(0, .ref (rb_ad w 3)), (1, .int p0)] [] σ := by
  unfold xf_Rd_readNumberG at h
  refine rb_aload_n hC 0 dX8_readNumber_0 rfl ?_
  obtain ⟨r3, s1, q2, h⟩ := rb_b2s h
  refine rb_callUi hC rb_VokX mv_X8_28_4 (xc_Rd_nextSignG  σ _ _ q2) rb_obX3 rfl [] rfl rfl rfl ⟨Nat.le_of_ble_eq_true rfl, Nat.le_of_ble_eq_true rfl⟩ (Nat.le_of_ble_eq_true rfl) dX8_readNumber_1 ?_
  refine rb_callSi hC rb_VokX mv_X8_32 (xc_Rd_isDigit r3 s1 _ rfl) [.int r3] rfl rfl rfl ⟨Nat.le_of_ble_eq_true rfl, Nat.le_of_ble_eq_true rfl⟩ (Nat.le_of_ble_eq_true rfl) dX8_readNumber_4 ?_
  refine rb_if_ne hC 12 dX8_readNumber_7 (by decide) (fun c4 => ?_) (fun c4 => ?_)
  · replace h := rb_ifn c4 h
    refine rb_iconst (x := 0) hC dX8_readNumber_12 (by decide) ?_
    refine rb_istore_n hC [(2, .int 0), (0, .ref (rb_ad w 3)), (1, .int p0)] dX8_readNumber_13 (by decide) rfl ?_
    refine rb_iconst (x := 0) hC dX8_readNumber_14 (by decide) ?_
    refine rb_istore_n hC [(3, .int 0), (2, .int 0), (0, .ref (rb_ad w 3)), (1, .int p0)] dX8_readNumber_15 (by decide) rfl ?_
    obtain ⟨y13, s14, q15, h⟩ := rb_b2s h
    refine rb_sub (lv2 := [(0, .ref (rb_ad w 3)), (1, .int p0), (2, .int 0), (3, .int 0)]) [2, 3, 1, 0] rfl ?_
    refine xt_Rd_readNumberG_16 hC p0 rb_FU 0 0 s1 _ _ q15 ?_
    refine rb_aload_n hC 0 dX8_readNumber_74 rfl ?_
    refine rb_getR hC fr_X8_9_4 rb_obX3 rfl dX8_readNumber_75 ?_
    refine rb_aload_n hC 0 dX8_readNumber_78 rfl ?_
    refine rb_getI hC fr_X8_15_4 rb_obX3 rfl dX8_readNumber_79 ?_
    obtain ⟨r16, q17, h⟩ := rb_b1s h
    refine rb_callVi hC rb_VokX mv_X8_36 (xc_Tape_signAt (s14.1 3 1) s14 _ q17) rb_obX1 rfl [.int (s14.1 3 1)] rfl rfl rfl ⟨Nat.le_of_ble_eq_true rfl, Nat.le_of_ble_eq_true rfl⟩ (Nat.le_of_ble_eq_true rfl) dX8_readNumber_82 ?_
    refine rb_callSi hC rb_VokX mv_X8_32 (xc_Rd_isDigit r16 s14 _ rfl) [.int r16] rfl rfl rfl ⟨Nat.le_of_ble_eq_true rfl, Nat.le_of_ble_eq_true rfl⟩ (Nat.le_of_ble_eq_true rfl) dX8_readNumber_85 ?_
    refine rb_if_eq hC 95 dX8_readNumber_88 (by decide) (fun c18 => ?_) (fun c18 => ?_)
    · replace h := rb_ifp c18 h
      refine rb_iload_n hC 1 dX8_readNumber_95 rfl ?_
      cases h
      exact rb_iret hC dX8_readNumber_96
    · replace h := rb_ifn c18 h
      refine rb_iconst (x := (-1)) hC dX8_readNumber_91 (by decide) ?_
      refine rb_goto hC 96 dX8_readNumber_92 (by decide) ?_
      cases h
      exact rb_iret hC dX8_readNumber_96
  · replace h := rb_ifp c4 h
    refine rb_iconst (x := (-1)) hC dX8_readNumber_10 (by decide) ?_
    cases h
    exact rb_iret hC dX8_readNumber_11
theorem xc_Rd_readNumberG (p0 : Int32) (σ : rb_St) (r : Int32) (σ9 : rb_St) (h : xf_Rd_readNumberG p0 σ = some (r, σ9)) : rb_Con rb_vX yX8_readNumber cX8_readNumber 4 (some .int) 1 (fun w => [.ref (rb_ad w 3), .int p0]) σ (fun _ => (some (.int r))) σ9 := rb_Con.of (by decide +kernel) (fun _ => Nat.le_of_ble_eq_true rfl) (fun z w hC => xk_Rd_readNumberG hC p0 σ r σ9 h)
def xl_Rd_readNumberL_16 (x1 : Int32) : Nat → Int32 → Int32 → rb_St → Option (Int32 × rb_St)
  | 0, _, _, _ => none
  | n + 1, x2, x3, σ => if x1 ≤ x3 then some (x2, σ) else rb_b1 (xf_Tape_signAt (σ.1 7 1) σ) fun r6 => if (xf_Rd_isDigit r6 σ) = 0 then some (x2, σ) else rb_b1 (xf_Tape_signAt (σ.1 7 1) σ) fun r9 => rb_lt (rb_sI σ 7 1 ((σ.1 7 1) + 1)) (fun s11 => xl_Rd_readNumberL_16 x1 n (((10 * x2) + r9) - 48) (x3 + 1) s11)
set_option maxHeartbeats 4000000 in
set_option maxRecDepth 100000 in
theorem xt_Rd_readNumberL_16 {z : rb_Z} {w : rb_Wd} {Q : State → Prop} (hC : rb_Cx z rb_vX w RX8 cX8_readNumber 4 (some .int) 1) (x1 : Int32) : ∀ (n : Nat) (x2 : Int32) (x3 : Int32) (σ : rb_St) (y2 : Int32) (σ9 : rb_St), xl_Rd_readNumberL_16 x1 n x2 x3 σ = some (y2, σ9) → rb_At z rb_vX w 4 Q 74 [(0, .ref (rb_ad w 7)), (2, .int y2)] [] σ9 → rb_At z rb_vX w 4 Q 16 [(0, .ref (rb_ad w 7)), (1, .int x1), (2, .int x2), (3, .int x3)] [] σ := by
  intro n
  induction n with
  | zero =>
    intro x2 x3 σ y2 σ9 h hE0
    cases h
  | succ n ih =>
    intro x2 x3 σ y2 σ9 h hE0
    rw [xl_Rd_readNumberL_16] at h
    refine rb_iload_n hC 3 dX8_readNumber_16 rfl ?_
    refine rb_iload_n hC 1 dX8_readNumber_17 rfl ?_
    refine rb_icmp_ge hC 74 dX8_readNumber_18 (by decide) (fun c5 => ?_) (fun c5 => ?_)
    · replace h := rb_ifp c5 h
      cases h
      exact rb_sub [0, 2] rfl (hE0)
    · replace h := rb_ifn c5 h
      refine rb_aload_n hC 0 dX8_readNumber_21 rfl ?_
      refine rb_getR hC fr_X8_9_6 rb_obX7 rfl dX8_readNumber_22 ?_
      refine rb_aload_n hC 0 dX8_readNumber_25 rfl ?_
      refine rb_getI hC fr_X8_15_6 rb_obX7 rfl dX8_readNumber_26 ?_
      obtain ⟨r6, q7, h⟩ := rb_b1s h
      refine rb_callVi hC rb_VokX mv_X8_36 (xc_Tape_signAt (σ.1 7 1) σ _ q7) rb_obX1 rfl [.int (σ.1 7 1)] rfl rfl rfl ⟨Nat.le_of_ble_eq_true rfl, Nat.le_of_ble_eq_true rfl⟩ (Nat.le_of_ble_eq_true rfl) dX8_readNumber_29 ?_
      refine rb_callSi hC rb_VokX mv_X8_32 (xc_Rd_isDigit r6 σ _ rfl) [.int r6] rfl rfl rfl ⟨Nat.le_of_ble_eq_true rfl, Nat.le_of_ble_eq_true rfl⟩ (Nat.le_of_ble_eq_true rfl) dX8_readNumber_32 ?_
      refine rb_if_eq hC 74 dX8_readNumber_35 (by decide) (fun c8 => ?_) (fun c8 => ?_)
      · replace h := rb_ifp c8 h
        cases h
        exact rb_sub [0, 2] rfl (hE0)
      · replace h := rb_ifn c8 h
        refine rb_bipush (x := 10) hC dX8_readNumber_38 (by decide) ?_
        refine rb_iload_n hC 2 dX8_readNumber_40 rfl ?_
        refine rb_imul hC dX8_readNumber_41 ?_
        refine rb_aload_n hC 0 dX8_readNumber_42 rfl ?_
        refine rb_getR hC fr_X8_9_6 rb_obX7 rfl dX8_readNumber_43 ?_
        refine rb_aload_n hC 0 dX8_readNumber_46 rfl ?_
        refine rb_getI hC fr_X8_15_6 rb_obX7 rfl dX8_readNumber_47 ?_
        obtain ⟨r9, q10, h⟩ := rb_b1s h
        refine rb_callVi hC rb_VokX mv_X8_36 (xc_Tape_signAt (σ.1 7 1) σ _ q10) rb_obX1 rfl [.int (σ.1 7 1)] rfl rfl rfl ⟨Nat.le_of_ble_eq_true rfl, Nat.le_of_ble_eq_true rfl⟩ (Nat.le_of_ble_eq_true rfl) dX8_readNumber_50 ?_
        refine rb_iadd hC dX8_readNumber_53 ?_
        refine rb_bipush (x := 48) hC dX8_readNumber_54 (by decide) ?_
        refine rb_isub hC dX8_readNumber_56 ?_
        refine rb_istore_n hC [(2, .int (((10 * x2) + r9) - 48)), (0, .ref (rb_ad w 7)), (1, .int x1), (3, .int x3)] dX8_readNumber_57 (by decide) rfl ?_
        refine rb_aload_n hC 1 dX8_readNumber_58 rfl ?_
        refine rb_dup hC dX8_readNumber_59 rfl ?_
        refine rb_getI hC fr_X8_15_6 rb_obX7 rfl dX8_readNumber_60 ?_
        refine rb_iconst (x := 1) hC dX8_readNumber_63 (by decide) ?_
        refine rb_iadd hC dX8_readNumber_64 ?_
        refine rb_putI hC fr_X8_15_6 ft_6_1 rb_obX7 rfl rfl rfl dX8_readNumber_65 ?_
        obtain ⟨s11, e12, h⟩ := rb_ltE h
        refine rb_nmS e12 ?_
        refine rb_iinc hC 3 [(3, .int (x3 + 1)), (2, .int (((10 * x2) + r9) - 48)), (0, .ref (rb_ad w 7)), (1, .int x1)] dX8_readNumber_68 rfl rfl (by decide) rfl ?_
        refine rb_goto hC 16 dX8_readNumber_71 (by decide) ?_
        exact rb_sub [2, 3, 1, 0] rfl (ih (((10 * x2) + r9) - 48) (x3 + 1) s11 _ _ h hE0)
def xf_Rd_readNumberL (p0 : Int32) (σ : rb_St) : Option (Int32 × rb_St) := rb_b2 (xf_Rd_nextSignL σ) fun r3 s1 => if (xf_Rd_isDigit r3 s1) = 0 then some ((-1), s1) else rb_b2 (xl_Rd_readNumberL_16 p0 rb_FU 0 0 s1) fun y13 s14 => rb_b1 (xf_Tape_signAt (s14.1 7 1) s14) fun r16 => if (xf_Rd_isDigit r16 s14) = 0 then some (y13, s14) else some ((-1), s14)
set_option maxHeartbeats 4000000 in
set_option maxRecDepth 100000 in
theorem xk_Rd_readNumberL {z : rb_Z} {w : rb_Wd} (hC : rb_Cx z rb_vX w RX8 cX8_readNumber 4 (some .int) 1) (p0 : Int32) (σ : rb_St) (r : Int32) (σ9 : rb_St) (h : xf_Rd_readNumberL p0 σ = some (r, σ9)) : rb_At z rb_vX w 4 (rb_Q z rb_vX w (some (.int r)) σ9) 0 [(0, .ref (rb_ad w 7)), (1, .int p0)] [] σ := by
  unfold xf_Rd_readNumberL at h
  refine rb_aload_n hC 0 dX8_readNumber_0 rfl ?_
  obtain ⟨r3, s1, q2, h⟩ := rb_b2s h
  refine rb_callUi hC rb_VokX mv_X8_28_6 (xc_Rd_nextSignL  σ _ _ q2) rb_obX7 rfl [] rfl rfl rfl ⟨Nat.le_of_ble_eq_true rfl, Nat.le_of_ble_eq_true rfl⟩ (Nat.le_of_ble_eq_true rfl) dX8_readNumber_1 ?_
  refine rb_callSi hC rb_VokX mv_X8_32 (xc_Rd_isDigit r3 s1 _ rfl) [.int r3] rfl rfl rfl ⟨Nat.le_of_ble_eq_true rfl, Nat.le_of_ble_eq_true rfl⟩ (Nat.le_of_ble_eq_true rfl) dX8_readNumber_4 ?_
  refine rb_if_ne hC 12 dX8_readNumber_7 (by decide) (fun c4 => ?_) (fun c4 => ?_)
  · replace h := rb_ifn c4 h
    refine rb_iconst (x := 0) hC dX8_readNumber_12 (by decide) ?_
    refine rb_istore_n hC [(2, .int 0), (0, .ref (rb_ad w 7)), (1, .int p0)] dX8_readNumber_13 (by decide) rfl ?_
    refine rb_iconst (x := 0) hC dX8_readNumber_14 (by decide) ?_
    refine rb_istore_n hC [(3, .int 0), (2, .int 0), (0, .ref (rb_ad w 7)), (1, .int p0)] dX8_readNumber_15 (by decide) rfl ?_
    obtain ⟨y13, s14, q15, h⟩ := rb_b2s h
    refine rb_sub (lv2 := [(0, .ref (rb_ad w 7)), (1, .int p0), (2, .int 0), (3, .int 0)]) [2, 3, 1, 0] rfl ?_
    refine xt_Rd_readNumberL_16 hC p0 rb_FU 0 0 s1 _ _ q15 ?_
    refine rb_aload_n hC 0 dX8_readNumber_74 rfl ?_
    refine rb_getR hC fr_X8_9_6 rb_obX7 rfl dX8_readNumber_75 ?_
    refine rb_aload_n hC 0 dX8_readNumber_78 rfl ?_
    refine rb_getI hC fr_X8_15_6 rb_obX7 rfl dX8_readNumber_79 ?_
    obtain ⟨r16, q17, h⟩ := rb_b1s h
    refine rb_callVi hC rb_VokX mv_X8_36 (xc_Tape_signAt (s14.1 7 1) s14 _ q17) rb_obX1 rfl [.int (s14.1 7 1)] rfl rfl rfl ⟨Nat.le_of_ble_eq_true rfl, Nat.le_of_ble_eq_true rfl⟩ (Nat.le_of_ble_eq_true rfl) dX8_readNumber_82 ?_
    refine rb_callSi hC rb_VokX mv_X8_32 (xc_Rd_isDigit r16 s14 _ rfl) [.int r16] rfl rfl rfl ⟨Nat.le_of_ble_eq_true rfl, Nat.le_of_ble_eq_true rfl⟩ (Nat.le_of_ble_eq_true rfl) dX8_readNumber_85 ?_
    refine rb_if_eq hC 95 dX8_readNumber_88 (by decide) (fun c18 => ?_) (fun c18 => ?_)
    · replace h := rb_ifp c18 h
      refine rb_iload_n hC 1 dX8_readNumber_95 rfl ?_
      cases h
      exact rb_iret hC dX8_readNumber_96
    · replace h := rb_ifn c18 h
      refine rb_iconst (x := (-1)) hC dX8_readNumber_91 (by decide) ?_
      refine rb_goto hC 96 dX8_readNumber_92 (by decide) ?_
      cases h
      exact rb_iret hC dX8_readNumber_96
  · replace h := rb_ifp c4 h
    refine rb_iconst (x := (-1)) hC dX8_readNumber_10 (by decide) ?_
    cases h
    exact rb_iret hC dX8_readNumber_11
theorem xc_Rd_readNumberL (p0 : Int32) (σ : rb_St) (r : Int32) (σ9 : rb_St) (h : xf_Rd_readNumberL p0 σ = some (r, σ9)) : rb_Con rb_vX yX8_readNumber cX8_readNumber 4 (some .int) 1 (fun w => [.ref (rb_ad w 7), .int p0]) σ (fun _ => (some (.int r))) σ9 := rb_Con.of (by decide +kernel) (fun _ => Nat.le_of_ble_eq_true rfl) (fun z w hC => xk_Rd_readNumberL hC p0 σ r σ9 h)
def xl_Rd_readNumberF_16 (x1 : Int32) : Nat → Int32 → Int32 → rb_St → Option (Int32 × rb_St)
  | 0, _, _, _ => none
  | n + 1, x2, x3, σ => if x1 ≤ x3 then some (x2, σ) else rb_b1 (xf_Tape_signAt (σ.1 12 1) σ) fun r6 => if (xf_Rd_isDigit r6 σ) = 0 then some (x2, σ) else rb_b1 (xf_Tape_signAt (σ.1 12 1) σ) fun r9 => rb_lt (rb_sI σ 12 1 ((σ.1 12 1) + 1)) (fun s11 => xl_Rd_readNumberF_16 x1 n (((10 * x2) + r9) - 48) (x3 + 1) s11)
set_option maxHeartbeats 4000000 in
set_option maxRecDepth 100000 in
theorem xt_Rd_readNumberF_16 {z : rb_Z} {w : rb_Wd} {Q : State → Prop} (hC : rb_Cx z rb_vX w RX8 cX8_readNumber 4 (some .int) 1) (x1 : Int32) : ∀ (n : Nat) (x2 : Int32) (x3 : Int32) (σ : rb_St) (y2 : Int32) (σ9 : rb_St), xl_Rd_readNumberF_16 x1 n x2 x3 σ = some (y2, σ9) → rb_At z rb_vX w 4 Q 74 [(0, .ref (rb_ad w 12)), (2, .int y2)] [] σ9 → rb_At z rb_vX w 4 Q 16 [(0, .ref (rb_ad w 12)), (1, .int x1), (2, .int x2), (3, .int x3)] [] σ := by
  intro n
  induction n with
  | zero =>
    intro x2 x3 σ y2 σ9 h hE0
    cases h
  | succ n ih =>
    intro x2 x3 σ y2 σ9 h hE0
    rw [xl_Rd_readNumberF_16] at h
    refine rb_iload_n hC 3 dX8_readNumber_16 rfl ?_
    refine rb_iload_n hC 1 dX8_readNumber_17 rfl ?_
    refine rb_icmp_ge hC 74 dX8_readNumber_18 (by decide) (fun c5 => ?_) (fun c5 => ?_)
    · replace h := rb_ifp c5 h
      cases h
      exact rb_sub [0, 2] rfl (hE0)
    · replace h := rb_ifn c5 h
      refine rb_aload_n hC 0 dX8_readNumber_21 rfl ?_
      refine rb_getR hC fr_X8_9_2 rb_obX12 rfl dX8_readNumber_22 ?_
      refine rb_aload_n hC 0 dX8_readNumber_25 rfl ?_
      refine rb_getI hC fr_X8_15_2 rb_obX12 rfl dX8_readNumber_26 ?_
      obtain ⟨r6, q7, h⟩ := rb_b1s h
      refine rb_callVi hC rb_VokX mv_X8_36 (xc_Tape_signAt (σ.1 12 1) σ _ q7) rb_obX1 rfl [.int (σ.1 12 1)] rfl rfl rfl ⟨Nat.le_of_ble_eq_true rfl, Nat.le_of_ble_eq_true rfl⟩ (Nat.le_of_ble_eq_true rfl) dX8_readNumber_29 ?_
      refine rb_callSi hC rb_VokX mv_X8_32 (xc_Rd_isDigit r6 σ _ rfl) [.int r6] rfl rfl rfl ⟨Nat.le_of_ble_eq_true rfl, Nat.le_of_ble_eq_true rfl⟩ (Nat.le_of_ble_eq_true rfl) dX8_readNumber_32 ?_
      refine rb_if_eq hC 74 dX8_readNumber_35 (by decide) (fun c8 => ?_) (fun c8 => ?_)
      · replace h := rb_ifp c8 h
        cases h
        exact rb_sub [0, 2] rfl (hE0)
      · replace h := rb_ifn c8 h
        refine rb_bipush (x := 10) hC dX8_readNumber_38 (by decide) ?_
        refine rb_iload_n hC 2 dX8_readNumber_40 rfl ?_
        refine rb_imul hC dX8_readNumber_41 ?_
        refine rb_aload_n hC 0 dX8_readNumber_42 rfl ?_
        refine rb_getR hC fr_X8_9_2 rb_obX12 rfl dX8_readNumber_43 ?_
        refine rb_aload_n hC 0 dX8_readNumber_46 rfl ?_
        refine rb_getI hC fr_X8_15_2 rb_obX12 rfl dX8_readNumber_47 ?_
        obtain ⟨r9, q10, h⟩ := rb_b1s h
        refine rb_callVi hC rb_VokX mv_X8_36 (xc_Tape_signAt (σ.1 12 1) σ _ q10) rb_obX1 rfl [.int (σ.1 12 1)] rfl rfl rfl ⟨Nat.le_of_ble_eq_true rfl, Nat.le_of_ble_eq_true rfl⟩ (Nat.le_of_ble_eq_true rfl) dX8_readNumber_50 ?_
        refine rb_iadd hC dX8_readNumber_53 ?_
        refine rb_bipush (x := 48) hC dX8_readNumber_54 (by decide) ?_
        refine rb_isub hC dX8_readNumber_56 ?_
        refine rb_istore_n hC [(2, .int (((10 * x2) + r9) - 48)), (0, .ref (rb_ad w 12)), (1, .int x1), (3, .int x3)] dX8_readNumber_57 (by decide) rfl ?_
        refine rb_aload_n hC 1 dX8_readNumber_58 rfl ?_
        refine rb_dup hC dX8_readNumber_59 rfl ?_
        refine rb_getI hC fr_X8_15_2 rb_obX12 rfl dX8_readNumber_60 ?_
        refine rb_iconst (x := 1) hC dX8_readNumber_63 (by decide) ?_
        refine rb_iadd hC dX8_readNumber_64 ?_
        refine rb_putI hC fr_X8_15_2 ft_2_1 rb_obX12 rfl rfl rfl dX8_readNumber_65 ?_
        obtain ⟨s11, e12, h⟩ := rb_ltE h
        refine rb_nmS e12 ?_
        refine rb_iinc hC 3 [(3, .int (x3 + 1)), (2, .int (((10 * x2) + r9) - 48)), (0, .ref (rb_ad w 12)), (1, .int x1)] dX8_readNumber_68 rfl rfl (by decide) rfl ?_
        refine rb_goto hC 16 dX8_readNumber_71 (by decide) ?_
        exact rb_sub [2, 3, 1, 0] rfl (ih (((10 * x2) + r9) - 48) (x3 + 1) s11 _ _ h hE0)
def xf_Rd_readNumberF (p0 : Int32) (σ : rb_St) : Option (Int32 × rb_St) := rb_b2 (xf_Rd_nextSignF σ) fun r3 s1 => if (xf_Rd_isDigit r3 s1) = 0 then some ((-1), s1) else rb_b2 (xl_Rd_readNumberF_16 p0 rb_FU 0 0 s1) fun y13 s14 => rb_b1 (xf_Tape_signAt (s14.1 12 1) s14) fun r16 => if (xf_Rd_isDigit r16 s14) = 0 then some (y13, s14) else some ((-1), s14)
set_option maxHeartbeats 4000000 in
set_option maxRecDepth 100000 in
theorem xk_Rd_readNumberF {z : rb_Z} {w : rb_Wd} (hC : rb_Cx z rb_vX w RX8 cX8_readNumber 4 (some .int) 1) (p0 : Int32) (σ : rb_St) (r : Int32) (σ9 : rb_St) (h : xf_Rd_readNumberF p0 σ = some (r, σ9)) : rb_At z rb_vX w 4 (rb_Q z rb_vX w (some (.int r)) σ9) 0 [(0, .ref (rb_ad w 12)), (1, .int p0)] [] σ := by
  unfold xf_Rd_readNumberF at h
  refine rb_aload_n hC 0 dX8_readNumber_0 rfl ?_
  obtain ⟨r3, s1, q2, h⟩ := rb_b2s h
  refine rb_callUi hC rb_VokX mv_X8_28_2 (xc_Rd_nextSignF  σ _ _ q2) rb_obX12 rfl [] rfl rfl rfl ⟨Nat.le_of_ble_eq_true rfl, Nat.le_of_ble_eq_true rfl⟩ (Nat.le_of_ble_eq_true rfl) dX8_readNumber_1 ?_
  refine rb_callSi hC rb_VokX mv_X8_32 (xc_Rd_isDigit r3 s1 _ rfl) [.int r3] rfl rfl rfl ⟨Nat.le_of_ble_eq_true rfl, Nat.le_of_ble_eq_true rfl⟩ (Nat.le_of_ble_eq_true rfl) dX8_readNumber_4 ?_
  refine rb_if_ne hC 12 dX8_readNumber_7 (by decide) (fun c4 => ?_) (fun c4 => ?_)
  · replace h := rb_ifn c4 h
    refine rb_iconst (x := 0) hC dX8_readNumber_12 (by decide) ?_
    refine rb_istore_n hC [(2, .int 0), (0, .ref (rb_ad w 12)), (1, .int p0)] dX8_readNumber_13 (by decide) rfl ?_
    refine rb_iconst (x := 0) hC dX8_readNumber_14 (by decide) ?_
    refine rb_istore_n hC [(3, .int 0), (2, .int 0), (0, .ref (rb_ad w 12)), (1, .int p0)] dX8_readNumber_15 (by decide) rfl ?_
    obtain ⟨y13, s14, q15, h⟩ := rb_b2s h
    refine rb_sub (lv2 := [(0, .ref (rb_ad w 12)), (1, .int p0), (2, .int 0), (3, .int 0)]) [2, 3, 1, 0] rfl ?_
    refine xt_Rd_readNumberF_16 hC p0 rb_FU 0 0 s1 _ _ q15 ?_
    refine rb_aload_n hC 0 dX8_readNumber_74 rfl ?_
    refine rb_getR hC fr_X8_9_2 rb_obX12 rfl dX8_readNumber_75 ?_
    refine rb_aload_n hC 0 dX8_readNumber_78 rfl ?_
    refine rb_getI hC fr_X8_15_2 rb_obX12 rfl dX8_readNumber_79 ?_
    obtain ⟨r16, q17, h⟩ := rb_b1s h
    refine rb_callVi hC rb_VokX mv_X8_36 (xc_Tape_signAt (s14.1 12 1) s14 _ q17) rb_obX1 rfl [.int (s14.1 12 1)] rfl rfl rfl ⟨Nat.le_of_ble_eq_true rfl, Nat.le_of_ble_eq_true rfl⟩ (Nat.le_of_ble_eq_true rfl) dX8_readNumber_82 ?_
    refine rb_callSi hC rb_VokX mv_X8_32 (xc_Rd_isDigit r16 s14 _ rfl) [.int r16] rfl rfl rfl ⟨Nat.le_of_ble_eq_true rfl, Nat.le_of_ble_eq_true rfl⟩ (Nat.le_of_ble_eq_true rfl) dX8_readNumber_85 ?_
    refine rb_if_eq hC 95 dX8_readNumber_88 (by decide) (fun c18 => ?_) (fun c18 => ?_)
    · replace h := rb_ifp c18 h
      refine rb_iload_n hC 1 dX8_readNumber_95 rfl ?_
      cases h
      exact rb_iret hC dX8_readNumber_96
    · replace h := rb_ifn c18 h
      refine rb_iconst (x := (-1)) hC dX8_readNumber_91 (by decide) ?_
      refine rb_goto hC 96 dX8_readNumber_92 (by decide) ?_
      cases h
      exact rb_iret hC dX8_readNumber_96
  · replace h := rb_ifp c4 h
    refine rb_iconst (x := (-1)) hC dX8_readNumber_10 (by decide) ?_
    cases h
    exact rb_iret hC dX8_readNumber_11
theorem xc_Rd_readNumberF (p0 : Int32) (σ : rb_St) (r : Int32) (σ9 : rb_St) (h : xf_Rd_readNumberF p0 σ = some (r, σ9)) : rb_Con rb_vX yX8_readNumber cX8_readNumber 4 (some .int) 1 (fun w => [.ref (rb_ad w 12), .int p0]) σ (fun _ => (some (.int r))) σ9 := rb_Con.of (by decide +kernel) (fun _ => Nat.le_of_ble_eq_true rfl) (fun z w hC => xk_Rd_readNumberF hC p0 σ r σ9 h)
theorem me_X5_pop : Cond.instanceMethod yX5_pop ∈ rb_tbl ∧ Cond.selects yX5_pop.cls yX5_pop yX5_pop ∈ rb_tbl ∧ Cond.initialized yX5_pop.cls ∈ rb_tbl ∧ Cond.code yX5_pop cX5_pop 1 (some .int) ∈ rb_tbl ∧ rb_pn yX5_pop 0 := ⟨rb_in (by decide +kernel) (by decide +kernel), rb_in (by decide +kernel) (by decide +kernel), rb_in (by decide +kernel) (by decide +kernel), rb_in (by decide +kernel) (by decide +kernel), by decide +kernel, by decide +kernel, by decide +kernel⟩
theorem mv_X5_34 : rb_MV RX5 34 yX5_pop cX5_pop 1 (some .int) 0 := ⟨rb_in (by decide +kernel) (by decide +kernel), me_X5_pop⟩
theorem me_X5_joined : Cond.static yX5_joined ∈ rb_tbl ∧ Cond.initialized yX5_joined.cls ∈ rb_tbl ∧ Cond.code yX5_joined cX5_joined 3 (some .long) ∈ rb_tbl ∧ rb_pn yX5_joined 3 := ⟨rb_in (by decide +kernel) (by decide +kernel), rb_in (by decide +kernel) (by decide +kernel), rb_in (by decide +kernel) (by decide +kernel), by decide +kernel, by decide +kernel, by decide +kernel⟩
theorem mv_X5_45 : rb_MS RX5 45 yX5_joined cX5_joined 3 (some .long) 3 := ⟨rb_in (by decide +kernel) (by decide +kernel), me_X5_joined⟩
theorem me_X5_held : Cond.static yX5_held ∈ rb_tbl ∧ Cond.initialized yX5_held.cls ∈ rb_tbl ∧ Cond.code yX5_held cX5_held 2 (some .int) ∈ rb_tbl ∧ rb_pn yX5_held 1 := ⟨rb_in (by decide +kernel) (by decide +kernel), rb_in (by decide +kernel) (by decide +kernel), rb_in (by decide +kernel) (by decide +kernel), by decide +kernel, by decide +kernel, by decide +kernel⟩
theorem mv_X5_49 : rb_MS RX5 49 yX5_held cX5_held 2 (some .int) 1 := ⟨rb_in (by decide +kernel) (by decide +kernel), me_X5_held⟩
theorem me_X5_push : Cond.instanceMethod yX5_push ∈ rb_tbl ∧ Cond.selects yX5_push.cls yX5_push yX5_push ∈ rb_tbl ∧ Cond.initialized yX5_push.cls ∈ rb_tbl ∧ Cond.code yX5_push cX5_push 2 none ∈ rb_tbl ∧ rb_pn yX5_push 1 := ⟨rb_in (by decide +kernel) (by decide +kernel), rb_in (by decide +kernel) (by decide +kernel), rb_in (by decide +kernel) (by decide +kernel), rb_in (by decide +kernel) (by decide +kernel), by decide +kernel, by decide +kernel, by decide +kernel⟩
theorem mv_X5_42 : rb_MV RX5 42 yX5_push cX5_push 2 none 1 := ⟨rb_in (by decide +kernel) (by decide +kernel), me_X5_push⟩
theorem fr_X5_15_5 : rb_FR RX5 15 5 2 := ⟨RX5, TX5, 5, "RibbonPole$Law", rfl, rb_uX5, by decide, rb_in (by decide +kernel) (by decide +kernel), Or.inl rfl⟩
def xf_Law_run (k0 : Nat) (p0 : Int32) (σ : rb_St) : Option (rb_St) := if p0 < 0 then if p0 ≤ (-11) then if p0 = (-20) then rb_b2 (xf_Law_pop k0 σ) fun r16 s14 => rb_b1 (xf_Law_push k0 (1 - r16) s14) fun s17 => some s17 else rb_b2 (xf_Law_pop k0 σ) fun r6 s4 => rb_b2 (xf_Law_pop k0 s4) fun r9 s7 => rb_b1 (xf_Law_joined p0 r9 r6 s7) fun r10 => rb_b1 (xf_Law_push k0 (xf_Law_held r10 s7) s7) fun s12 => some s12 else if rb_ib (((-1) - p0) &&& 7) 8 then rb_b1 (xf_Law_push k0 (σ.1 (k0 + 2) (((-1) - p0) &&& 7).toNatClampNeg) σ) fun s20 => some s20 else none else rb_b1 (xf_Law_push k0 p0 σ) fun s22 => some s22
set_option maxHeartbeats 4000000 in
set_option maxRecDepth 100000 in
theorem xk_Law_run {z : rb_Z} {w : rb_Wd} (hC : rb_Cx z rb_vX w RX5 cX5_run 4 none 2) (k0 : Nat) (hk0 : rb_isLaw k0) (p0 : Int32) (σ : rb_St) (σ9 : rb_St) (h : xf_Law_run k0 p0 σ = some σ9) : rb_At z rb_vX w 4 (rb_Q z rb_vX w none σ9) 0 [(0, .ref (rb_ad w k0)), (1, .int p0)] [] σ := by
  unfold xf_Law_run at h
  refine rb_iload_n hC 1 dX5_run_0 rfl ?_
  refine rb_if_lt hC 12 dX5_run_1 (by decide) (fun c1 => ?_) (fun c1 => ?_)
  · replace h := rb_ifp c1 h
    refine rb_iload_n hC 1 dX5_run_12 rfl ?_
    refine rb_bipush (x := (-11)) hC dX5_run_13 (by decide) ?_
    refine rb_icmp_le hC 36 dX5_run_15 (by decide) (fun c2 => ?_) (fun c2 => ?_)
    · replace h := rb_ifp c2 h
      refine rb_iload_n hC 1 dX5_run_36 rfl ?_
      refine rb_bipush (x := (-20)) hC dX5_run_37 (by decide) ?_
      refine rb_icmp_ne hC 55 dX5_run_39 (by decide) (fun c3 => ?_) (fun c3 => ?_)
      · replace h := rb_ifn c3 h
        refine rb_aload_n hC 0 dX5_run_55 rfl ?_
        obtain ⟨r6, s4, q5, h⟩ := rb_b2s h
        refine rb_callVi hC rb_VokX mv_X5_34 (xc_Law_pop k0 hk0 σ _ _ q5) (rb_obLaw hk0) rfl [] rfl rfl rfl ⟨Nat.le_of_ble_eq_true rfl, Nat.le_of_ble_eq_true rfl⟩ (Nat.le_of_ble_eq_true rfl) dX5_run_56 ?_
        refine rb_istore_n hC [(2, .int r6), (0, .ref (rb_ad w k0)), (1, .int p0)] dX5_run_59 (by decide) rfl ?_
        refine rb_aload_n hC 1 dX5_run_60 rfl ?_
        obtain ⟨r9, s7, q8, h⟩ := rb_b2s h
        refine rb_callVi hC rb_VokX mv_X5_34 (xc_Law_pop k0 hk0 s4 _ _ q8) (rb_obLaw hk0) rfl [] rfl rfl rfl ⟨Nat.le_of_ble_eq_true rfl, Nat.le_of_ble_eq_true rfl⟩ (Nat.le_of_ble_eq_true rfl) dX5_run_61 ?_
        refine rb_istore_n hC [(3, .int r9), (2, .int r6), (0, .ref (rb_ad w k0)), (1, .int p0)] dX5_run_64 (by decide) rfl ?_
        refine rb_aload_n hC 2 dX5_run_65 rfl ?_
        refine rb_iload_n hC 3 dX5_run_66 rfl ?_
        refine rb_iload_n hC 0 dX5_run_67 rfl ?_
        refine rb_iload_n hC 1 dX5_run_68 rfl ?_
        obtain ⟨r10, q11, h⟩ := rb_b1s h
        refine rb_callSj hC rb_VokX mv_X5_45 (xc_Law_joined p0 r9 r6 s7 _ q11) [.int p0, .int r9, .int r6] rfl rfl rfl ⟨Nat.le_of_ble_eq_true rfl, Nat.le_of_ble_eq_true rfl⟩ (Nat.le_of_ble_eq_true rfl) dX5_run_69 ?_
        refine rb_callSi hC rb_VokX mv_X5_49 (xc_Law_held r10 s7 _ rfl) [.long r10] rfl rfl rfl ⟨Nat.le_of_ble_eq_true rfl, Nat.le_of_ble_eq_true rfl⟩ (Nat.le_of_ble_eq_true rfl) dX5_run_72 ?_
        obtain ⟨s12, q13, h⟩ := rb_b1s h
        refine rb_callVv hC rb_VokX mv_X5_42 (xc_Law_push k0 hk0 (xf_Law_held r10 s7) s7 _ q13) (rb_obLaw hk0) rfl [.int (xf_Law_held r10 s7)] rfl rfl rfl ⟨Nat.le_of_ble_eq_true rfl, Nat.le_of_ble_eq_true rfl⟩ (Nat.le_of_ble_eq_true rfl) dX5_run_75 ?_
        cases h
        exact rb_vret hC dX5_run_78
      · replace h := rb_ifp c3 h
        refine rb_aload_n hC 0 dX5_run_42 rfl ?_
        refine rb_iconst (x := 1) hC dX5_run_43 (by decide) ?_
        refine rb_aload_n hC 0 dX5_run_44 rfl ?_
        obtain ⟨r16, s14, q15, h⟩ := rb_b2s h
        refine rb_callVi hC rb_VokX mv_X5_34 (xc_Law_pop k0 hk0 σ _ _ q15) (rb_obLaw hk0) rfl [] rfl rfl rfl ⟨Nat.le_of_ble_eq_true rfl, Nat.le_of_ble_eq_true rfl⟩ (Nat.le_of_ble_eq_true rfl) dX5_run_45 ?_
        refine rb_isub hC dX5_run_48 ?_
        obtain ⟨s17, q18, h⟩ := rb_b1s h
        refine rb_callVv hC rb_VokX mv_X5_42 (xc_Law_push k0 hk0 (1 - r16) s14 _ q18) (rb_obLaw hk0) rfl [.int (1 - r16)] rfl rfl rfl ⟨Nat.le_of_ble_eq_true rfl, Nat.le_of_ble_eq_true rfl⟩ (Nat.le_of_ble_eq_true rfl) dX5_run_49 ?_
        refine rb_goto hC 78 dX5_run_52 (by decide) ?_
        cases h
        exact rb_vret hC dX5_run_78
    · replace h := rb_ifn c2 h
      refine rb_aload_n hC 0 dX5_run_18 rfl ?_
      refine rb_aload_n hC 0 dX5_run_19 rfl ?_
      refine rb_getR hC fr_X5_15_5 (rb_obLaw hk0) rfl dX5_run_20 ?_
      refine rb_iconst (x := (-1)) hC dX5_run_23 (by decide) ?_
      refine rb_iload_n hC 1 dX5_run_24 rfl ?_
      refine rb_isub hC dX5_run_25 ?_
      refine rb_bipush (x := 7) hC dX5_run_26 (by decide) ?_
      refine rb_iand hC dX5_run_28 ?_
      obtain ⟨g19, h⟩ := rb_gd h
      refine rb_iald hC (rb_arLaw2 hk0) (rb_ibI g19) dX5_run_29 ?_
      obtain ⟨s20, q21, h⟩ := rb_b1s h
      refine rb_callVv hC rb_VokX mv_X5_42 (xc_Law_push k0 hk0 (σ.1 (k0 + 2) (((-1) - p0) &&& 7).toNatClampNeg) σ _ q21) (rb_obLaw hk0) rfl [.int (σ.1 (k0 + 2) (((-1) - p0) &&& 7).toNatClampNeg)] rfl rfl rfl ⟨Nat.le_of_ble_eq_true rfl, Nat.le_of_ble_eq_true rfl⟩ (Nat.le_of_ble_eq_true rfl) dX5_run_30 ?_
      refine rb_goto hC 78 dX5_run_33 (by decide) ?_
      cases h
      exact rb_vret hC dX5_run_78
  · replace h := rb_ifn c1 h
    refine rb_aload_n hC 0 dX5_run_4 rfl ?_
    refine rb_iload_n hC 1 dX5_run_5 rfl ?_
    obtain ⟨s22, q23, h⟩ := rb_b1s h
    refine rb_callVv hC rb_VokX mv_X5_42 (xc_Law_push k0 hk0 p0 σ _ q23) (rb_obLaw hk0) rfl [.int p0] rfl rfl rfl ⟨Nat.le_of_ble_eq_true rfl, Nat.le_of_ble_eq_true rfl⟩ (Nat.le_of_ble_eq_true rfl) dX5_run_6 ?_
    refine rb_goto hC 78 dX5_run_9 (by decide) ?_
    cases h
    exact rb_vret hC dX5_run_78
theorem xc_Law_run (k0 : Nat) (hk0 : rb_isLaw k0) (p0 : Int32) (σ : rb_St) (σ9 : rb_St) (h : xf_Law_run k0 p0 σ = some σ9) : rb_Con rb_vX yX5_run cX5_run 4 none 2 (fun w => [.ref (rb_ad w k0), .int p0]) σ (fun _ => none) σ9 := rb_Con.of (by decide +kernel) (fun _ => Nat.le_of_ble_eq_true rfl) (fun z w hC => xk_Law_run hC k0 hk0 p0 σ σ9 h)
theorem me_X10_endOf : Cond.instanceMethod yX10_endOf ∈ rb_tbl ∧ Cond.selects yX10_endOf.cls yX10_endOf yX10_endOf ∈ rb_tbl ∧ Cond.initialized yX10_endOf.cls ∈ rb_tbl ∧ Cond.code yX10_endOf cX10_endOf 3 (some .int) ∈ rb_tbl ∧ rb_pn yX10_endOf 2 := ⟨rb_in (by decide +kernel) (by decide +kernel), rb_in (by decide +kernel) (by decide +kernel), rb_in (by decide +kernel) (by decide +kernel), rb_in (by decide +kernel) (by decide +kernel), by decide +kernel, by decide +kernel, by decide +kernel⟩
theorem mv_X10_53 : rb_MV RX10 53 yX10_endOf cX10_endOf 3 (some .int) 2 := ⟨rb_in (by decide +kernel) (by decide +kernel), me_X10_endOf⟩
theorem me_J9_floorDiv_7cf53 : Cond.static yJ9_floorDiv_7cf53 ∈ rb_tbl ∧ Cond.initialized yJ9_floorDiv_7cf53.cls ∈ rb_tbl ∧ Cond.code yJ9_floorDiv_7cf53 cJ9_floorDiv_7cf53 3 (some .int) ∈ rb_tbl ∧ rb_pn yJ9_floorDiv_7cf53 2 := ⟨rb_in (by decide +kernel) (by decide +kernel), rb_in (by decide +kernel) (by decide +kernel), rb_in (by decide +kernel) (by decide +kernel), by decide +kernel, by decide +kernel, by decide +kernel⟩
theorem mv_X10_56 : rb_MS RX10 56 yJ9_floorDiv_7cf53 cJ9_floorDiv_7cf53 3 (some .int) 2 := ⟨rb_in (by decide +kernel) (by decide +kernel), me_J9_floorDiv_7cf53⟩
theorem mk_X10_59 : Cond.methodLink RX10 59 Lib.Math.abs.name ∈ rb_tbl := rb_in (by decide +kernel) (by decide +kernel)
def xl_Way_crossingsWith_17 (x1 : Int32) (x3 : Int32) (σ : rb_St) : Nat → Int32 → Int32 → Option (Int32)
  | 0, _, _ => none
  | n + 1, x2, x4 => if (σ.1 236 0) ≤ x4 then some x2 else rb_b1 (xf_Way_endOf x3 x1 σ) fun r3 => rb_b1 (xf_Way_endOf x4 x1 σ) fun r5 => if 1 ≤ (σ.1 236 0) then rb_b1 (xf_JM_floorDiv (r3 - r5) (σ.1 236 0) σ) fun r8 => rb_lt (x2 + (if 0 ≤ (r8 + 1) then (r8 + 1) else 0 - (r8 + 1))) (fun v10 => xl_Way_crossingsWith_17 x1 x3 σ n v10 (x4 + 1)) else xl_Way_crossingsWith_17 x1 x3 σ n (x2 + 0) (x4 + 1)
set_option maxHeartbeats 4000000 in
set_option maxRecDepth 100000 in
theorem xt_Way_crossingsWith_17 {z : rb_Z} {w : rb_Wd} {Q : State → Prop} (hC : rb_Cx z rb_vX w RX10 cX10_crossingsWith 6 (some .int) 1) (x1 : Int32) (x3 : Int32) (σ : rb_St) : ∀ (n : Nat) (x2 : Int32) (x4 : Int32) (y2 : Int32), xl_Way_crossingsWith_17 x1 x3 σ n x2 x4 = some y2 → rb_At z rb_vX w 6 Q 77 [(0, .ref (rb_ad w 236)), (1, .int x1), (2, .int y2), (3, .int x3)] [] σ → rb_At z rb_vX w 6 Q 17 [(0, .ref (rb_ad w 236)), (1, .int x1), (2, .int x2), (3, .int x3), (4, .int x4)] [] σ := by
  intro n
  induction n with
  | zero =>
    intro x2 x4 y2 h hE0
    cases h
  | succ n ih =>
    intro x2 x4 y2 h hE0
    rw [xl_Way_crossingsWith_17] at h
    refine rb_iload hC 4 dX10_crossingsWith_17 rfl ?_
    refine rb_aload_n hC 0 dX10_crossingsWith_19 rfl ?_
    refine rb_getI hC fr_X10_27_9 rb_obX236 rfl dX10_crossingsWith_20 ?_
    refine rb_icmp_ge hC 77 dX10_crossingsWith_23 (by decide) (fun c2 => ?_) (fun c2 => ?_)
    · replace h := rb_ifp c2 h
      cases h
      exact rb_sub [0, 1, 2, 3] rfl (hE0)
    · replace h := rb_ifn c2 h
      refine rb_aload_n hC 0 dX10_crossingsWith_26 rfl ?_
      refine rb_iload_n hC 3 dX10_crossingsWith_27 rfl ?_
      refine rb_iload_n hC 1 dX10_crossingsWith_28 rfl ?_
      obtain ⟨r3, q4, h⟩ := rb_b1s h
      refine rb_callVi hC rb_VokX mv_X10_53 (xc_Way_endOf x3 x1 σ _ q4) rb_obX236 rfl [.int x3, .int x1] rfl rfl rfl ⟨Nat.le_of_ble_eq_true rfl, Nat.le_of_ble_eq_true rfl⟩ (Nat.le_of_ble_eq_true rfl) dX10_crossingsWith_29 ?_
      refine rb_aload_n hC 0 dX10_crossingsWith_32 rfl ?_
      refine rb_iload hC 4 dX10_crossingsWith_33 rfl ?_
      refine rb_iload_n hC 1 dX10_crossingsWith_35 rfl ?_
      obtain ⟨r5, q6, h⟩ := rb_b1s h
      refine rb_callVi hC rb_VokX mv_X10_53 (xc_Way_endOf x4 x1 σ _ q6) rb_obX236 rfl [.int x4, .int x1] rfl rfl rfl ⟨Nat.le_of_ble_eq_true rfl, Nat.le_of_ble_eq_true rfl⟩ (Nat.le_of_ble_eq_true rfl) dX10_crossingsWith_36 ?_
      refine rb_isub hC dX10_crossingsWith_39 ?_
      refine rb_istore hC [(5, .int (r3 - r5)), (0, .ref (rb_ad w 236)), (1, .int x1), (2, .int x2), (3, .int x3), (4, .int x4)] dX10_crossingsWith_40 (by decide) rfl ?_
      refine rb_iload_n hC 3 dX10_crossingsWith_42 rfl ?_
      refine rb_aload_n hC 1 dX10_crossingsWith_43 rfl ?_
      refine rb_getI hC fr_X10_27_9 rb_obX236 rfl dX10_crossingsWith_44 ?_
      refine rb_iconst (x := 1) hC dX10_crossingsWith_47 (by decide) ?_
      refine rb_icmp_ge hC 55 dX10_crossingsWith_48 (by decide) (fun c7 => ?_) (fun c7 => ?_)
      · replace h := rb_ifp c7 h
        refine rb_iload hC 0 dX10_crossingsWith_55 rfl ?_
        refine rb_aload_n hC 1 dX10_crossingsWith_57 rfl ?_
        refine rb_getI hC fr_X10_27_9 rb_obX236 rfl dX10_crossingsWith_58 ?_
        obtain ⟨r8, q9, h⟩ := rb_b1s h
        refine rb_callSi hC rb_VokX mv_X10_56 (xc_JM_floorDiv (r3 - r5) (σ.1 236 0) σ _ q9) [.int (r3 - r5), .int (σ.1 236 0)] rfl rfl rfl ⟨Nat.le_of_ble_eq_true rfl, Nat.le_of_ble_eq_true rfl⟩ (Nat.le_of_ble_eq_true rfl) dX10_crossingsWith_61 ?_
        refine rb_iconst (x := 1) hC dX10_crossingsWith_64 (by decide) ?_
        refine rb_iadd hC dX10_crossingsWith_65 ?_
        refine rb_mabs hC mk_X10_59 ⟨Nat.le_of_ble_eq_true rfl, Nat.le_of_ble_eq_true rfl⟩ dX10_crossingsWith_66 ?_
        refine rb_iadd hC dX10_crossingsWith_69 ?_
        obtain ⟨v10, e11, h⟩ := rb_ltE h
        refine rb_nmI e11 ?_
        refine rb_istore_n hC [(2, .int v10), (5, .int (r3 - r5)), (0, .ref (rb_ad w 236)), (1, .int x1), (3, .int x3), (4, .int x4)] dX10_crossingsWith_70 (by decide) rfl ?_
        refine rb_iinc hC 5 [(4, .int (x4 + 1)), (2, .int v10), (5, .int (r3 - r5)), (0, .ref (rb_ad w 236)), (1, .int x1), (3, .int x3)] dX10_crossingsWith_71 rfl rfl (by decide) rfl ?_
        refine rb_goto hC 17 dX10_crossingsWith_74 (by decide) ?_
        exact rb_sub [3, 4, 1, 5, 0] rfl (ih v10 (x4 + 1) _ h hE0)
      · replace h := rb_ifn c7 h
        refine rb_iconst (x := 0) hC dX10_crossingsWith_51 (by decide) ?_
        refine rb_goto hC 69 dX10_crossingsWith_52 (by decide) ?_
        refine rb_iadd hC dX10_crossingsWith_69 ?_
        refine rb_istore_n hC [(2, .int (x2 + 0)), (5, .int (r3 - r5)), (0, .ref (rb_ad w 236)), (1, .int x1), (3, .int x3), (4, .int x4)] dX10_crossingsWith_70 (by decide) rfl ?_
        refine rb_iinc hC 5 [(4, .int (x4 + 1)), (2, .int (x2 + 0)), (5, .int (r3 - r5)), (0, .ref (rb_ad w 236)), (1, .int x1), (3, .int x3)] dX10_crossingsWith_71 rfl rfl (by decide) rfl ?_
        refine rb_goto hC 17 dX10_crossingsWith_74 (by decide) ?_
        exact rb_sub [3, 4, 1, 5, 0] rfl (ih (x2 + 0) (x4 + 1) _ h hE0)
def xl_Way_crossingsWith_4 (x1 : Int32) (σ : rb_St) : Nat → Int32 → Int32 → Option (Int32)
  | 0, _, _ => none
  | n + 1, x2, x3 => if (σ.1 236 0) ≤ x3 then some x2 else rb_b1 (xl_Way_crossingsWith_17 x1 x3 σ rb_FU x2 (x3 + 1)) fun y12 => xl_Way_crossingsWith_4 x1 σ n y12 (x3 + 1)
set_option maxHeartbeats 4000000 in
set_option maxRecDepth 100000 in
theorem xt_Way_crossingsWith_4 {z : rb_Z} {w : rb_Wd} {Q : State → Prop} (hC : rb_Cx z rb_vX w RX10 cX10_crossingsWith 6 (some .int) 1) (x1 : Int32) (σ : rb_St) : ∀ (n : Nat) (x2 : Int32) (x3 : Int32) (y2 : Int32), xl_Way_crossingsWith_4 x1 σ n x2 x3 = some y2 → rb_At z rb_vX w 6 Q 83 [(2, .int y2)] [] σ → rb_At z rb_vX w 6 Q 4 [(0, .ref (rb_ad w 236)), (1, .int x1), (2, .int x2), (3, .int x3)] [] σ := by
  intro n
  induction n with
  | zero =>
    intro x2 x3 y2 h hE0
    cases h
  | succ n ih =>
    intro x2 x3 y2 h hE0
    rw [xl_Way_crossingsWith_4] at h
    refine rb_iload_n hC 3 dX10_crossingsWith_4 rfl ?_
    refine rb_aload_n hC 0 dX10_crossingsWith_5 rfl ?_
    refine rb_getI hC fr_X10_27_9 rb_obX236 rfl dX10_crossingsWith_6 ?_
    refine rb_icmp_ge hC 83 dX10_crossingsWith_9 (by decide) (fun c1 => ?_) (fun c1 => ?_)
    · replace h := rb_ifp c1 h
      cases h
      exact rb_sub [2] rfl (hE0)
    · replace h := rb_ifn c1 h
      refine rb_iload_n hC 3 dX10_crossingsWith_12 rfl ?_
      refine rb_iconst (x := 1) hC dX10_crossingsWith_13 (by decide) ?_
      refine rb_iadd hC dX10_crossingsWith_14 ?_
      refine rb_istore hC [(4, .int (x3 + 1)), (0, .ref (rb_ad w 236)), (1, .int x1), (2, .int x2), (3, .int x3)] dX10_crossingsWith_15 (by decide) rfl ?_
      obtain ⟨y12, q13, h⟩ := rb_b1s h
      refine rb_sub (lv2 := [(0, .ref (rb_ad w 236)), (1, .int x1), (2, .int x2), (3, .int x3), (4, .int (x3 + 1))]) [1, 2, 3, 4, 0] rfl ?_
      refine xt_Way_crossingsWith_17 hC x1 x3 σ rb_FU x2 (x3 + 1) _ q13 ?_
      refine rb_iinc hC 3 [(3, .int (x3 + 1)), (0, .ref (rb_ad w 236)), (1, .int x1), (2, .int y12)] dX10_crossingsWith_77 rfl rfl (by decide) rfl ?_
      refine rb_goto hC 4 dX10_crossingsWith_80 (by decide) ?_
      exact rb_sub [1, 2, 3, 0] rfl (ih y12 (x3 + 1) _ h hE0)
def xf_Way_crossingsWith (p0 : Int32) (σ : rb_St) : Option Int32 := rb_b1 (xl_Way_crossingsWith_4 p0 σ rb_FU 0 0) fun y14 => some y14
set_option maxHeartbeats 4000000 in
set_option maxRecDepth 100000 in
theorem xk_Way_crossingsWith {z : rb_Z} {w : rb_Wd} (hC : rb_Cx z rb_vX w RX10 cX10_crossingsWith 6 (some .int) 1) (p0 : Int32) (σ : rb_St) (r : Int32) (h : xf_Way_crossingsWith p0 σ = some r) : rb_At z rb_vX w 6 (rb_Q z rb_vX w (some (.int r)) σ) 0 [(0, .ref (rb_ad w 236)), (1, .int p0)] [] σ := by
  unfold xf_Way_crossingsWith at h
  refine rb_iconst (x := 0) hC dX10_crossingsWith_0 (by decide) ?_
  refine rb_istore_n hC [(2, .int 0), (0, .ref (rb_ad w 236)), (1, .int p0)] dX10_crossingsWith_1 (by decide) rfl ?_
  refine rb_iconst (x := 0) hC dX10_crossingsWith_2 (by decide) ?_
  refine rb_istore_n hC [(3, .int 0), (2, .int 0), (0, .ref (rb_ad w 236)), (1, .int p0)] dX10_crossingsWith_3 (by decide) rfl ?_
  obtain ⟨y14, q15, h⟩ := rb_b1s h
  refine rb_sub (lv2 := [(0, .ref (rb_ad w 236)), (1, .int p0), (2, .int 0), (3, .int 0)]) [2, 3, 1, 0] rfl ?_
  refine xt_Way_crossingsWith_4 hC p0 σ rb_FU 0 0 _ q15 ?_
  refine rb_iload_n hC 0 dX10_crossingsWith_83 rfl ?_
  cases h
  exact rb_iret hC dX10_crossingsWith_84
theorem xc_Way_crossingsWith (p0 : Int32) (σ : rb_St) (r : Int32) (h : xf_Way_crossingsWith p0 σ = some r) : rb_Con rb_vX yX10_crossingsWith cX10_crossingsWith 6 (some .int) 1 (fun w => [.ref (rb_ad w 236), .int p0]) σ (fun _ => (some (.int r))) σ := rb_Con.of (by decide +kernel) (fun _ => Nat.le_of_ble_eq_true rfl) (fun z w hC => xk_Way_crossingsWith hC p0 σ r h)
theorem mv_X2_31_2 : rb_MU RX2 31 "RibbonPole$FigureReader" "RibbonPole$Reader" ⟨"RibbonPole$FigureReader", "nextSign", "()I"⟩ yX8_nextSign cX8_nextSign 1 (some .int) 0 := ⟨rb_in (by decide +kernel) (by decide +kernel), rb_in (by decide +kernel) (by decide +kernel), rb_in (by decide +kernel) (by decide +kernel), rb_in (by decide +kernel) (by decide +kernel), rb_in (by decide +kernel) (by decide +kernel), rb_in (by decide +kernel) (by decide +kernel), rfl, by decide, by decide, by decide +kernel⟩
theorem mv_X2_53 : rb_MSU RX2 53 "RibbonPole$Reader" ⟨"RibbonPole$FigureReader", "isDigit", "(I)Z"⟩ yX8_isDigit cX8_isDigit 1 (some .boolean) 1 := ⟨rb_in (by decide +kernel) (by decide +kernel), rb_in (by decide +kernel) (by decide +kernel), rb_in (by decide +kernel) (by decide +kernel), rb_in (by decide +kernel) (by decide +kernel), rb_in (by decide +kernel) (by decide +kernel), rfl, by decide +kernel, by decide +kernel, by decide +kernel⟩
theorem fr_X2_20_2 : rb_FR RX2 20 2 1 := ⟨RX2, TX2, 3, "RibbonPole$FigureReader", rfl, rb_uX2, by decide, rb_in (by decide +kernel) (by decide +kernel), Or.inr (rb_in (by decide +kernel) (by decide +kernel))⟩
theorem fr_X2_14_2 : rb_FR RX2 14 2 2 := ⟨RX2, TX2, 3, "RibbonPole$FigureReader", rfl, rb_uX2, by decide, rb_in (by decide +kernel) (by decide +kernel), Or.inl rfl⟩
theorem mv_X2_56 : Cond.methodLinkNest RX2 56 yX11_letterOf "RibbonPole" ∈ rb_nw ∧ Cond.static yX11_letterOf ∈ rb_tbl ∧ Cond.initialized yX11_letterOf.cls ∈ rb_tbl ∧ Cond.code yX11_letterOf cX11_letterOf 2 (some .int) ∈ rb_tbl ∧ rb_pn yX11_letterOf 2 := ⟨by decide +kernel, rb_in (by decide +kernel) (by decide +kernel), rb_in (by decide +kernel) (by decide +kernel), rb_in (by decide +kernel) (by decide +kernel), by decide +kernel, by decide +kernel, by decide +kernel⟩
theorem me_X1_add : Cond.instanceMethod yX1_add ∈ rb_tbl ∧ Cond.selects yX1_add.cls yX1_add yX1_add ∈ rb_tbl ∧ Cond.initialized yX1_add.cls ∈ rb_tbl ∧ Cond.code yX1_add cX1_add 2 none ∈ rb_tbl ∧ rb_pn yX1_add 1 := ⟨rb_in (by decide +kernel) (by decide +kernel), rb_in (by decide +kernel) (by decide +kernel), rb_in (by decide +kernel) (by decide +kernel), rb_in (by decide +kernel) (by decide +kernel), by decide +kernel, by decide +kernel, by decide +kernel⟩
theorem mv_X2_41 : rb_MV RX2 41 yX1_add cX1_add 2 none 1 := ⟨rb_in (by decide +kernel) (by decide +kernel), me_X1_add⟩
def xf_FR_readPlace (p0 : Int32) (σ : rb_St) : Option (Int32 × rb_St) := rb_b2 (xf_Rd_nextSignF σ) fun r3 s1 => if (xf_Rd_isDigit r3 s1) = 0 then some (0, s1) else rb_lt (rb_sI s1 12 1 ((s1.1 12 1) + 1)) (fun s5 => rb_b1 (xf_Fig_add (xf_RP_letterOf (r3 - 48) p0 s5) s5) fun s7 => some (1, s7))
set_option maxHeartbeats 4000000 in
set_option maxRecDepth 100000 in
theorem xk_FR_readPlace {z : rb_Z} {w : rb_Wd} (hC : rb_Cx z rb_vX w RX2 cX2_readPlace 3 (some .boolean) 1) (p0 : Int32) (σ : rb_St) (r : Int32) (σ9 : rb_St) (h : xf_FR_readPlace p0 σ = some (r, σ9)) : rb_At z rb_vX w 3 (rb_Q z rb_vX w (some (.int r)) σ9) 0 [(0, .ref (rb_ad w 12)), (1, .int p0)] [] σ := by
  unfold xf_FR_readPlace at h
  refine rb_aload_n hC 0 dX2_readPlace_0 rfl ?_
  obtain ⟨r3, s1, q2, h⟩ := rb_b2s h
  refine rb_callUi hC rb_VokX mv_X2_31_2 (xc_Rd_nextSignF  σ _ _ q2) rb_obX12 rfl [] rfl rfl rfl ⟨Nat.le_of_ble_eq_true rfl, Nat.le_of_ble_eq_true rfl⟩ (Nat.le_of_ble_eq_true rfl) dX2_readPlace_1 ?_
  refine rb_istore_n hC [(2, .int r3), (0, .ref (rb_ad w 12)), (1, .int p0)] dX2_readPlace_4 (by decide) rfl ?_
  refine rb_iload_n hC 0 dX2_readPlace_5 rfl ?_
  refine rb_callSUi hC rb_VokX mv_X2_53 (xc_Rd_isDigit r3 s1 _ rfl) [.int r3] rfl rfl rfl ⟨Nat.le_of_ble_eq_true rfl, Nat.le_of_ble_eq_true rfl⟩ (Nat.le_of_ble_eq_true rfl) dX2_readPlace_6 ?_
  refine rb_if_ne hC 14 dX2_readPlace_9 (by decide) (fun c4 => ?_) (fun c4 => ?_)
  · replace h := rb_ifn c4 h
    refine rb_aload_n hC 1 dX2_readPlace_14 rfl ?_
    refine rb_dup hC dX2_readPlace_15 rfl ?_
    refine rb_getI hC fr_X2_20_2 rb_obX12 rfl dX2_readPlace_16 ?_
    refine rb_iconst (x := 1) hC dX2_readPlace_19 (by decide) ?_
    refine rb_iadd hC dX2_readPlace_20 ?_
    refine rb_putI hC fr_X2_20_2 ft_2_1 rb_obX12 rfl rfl rfl dX2_readPlace_21 ?_
    obtain ⟨s5, e6, h⟩ := rb_ltE h
    refine rb_nmS e6 ?_
    refine rb_aload_n hC 1 dX2_readPlace_24 rfl ?_
    refine rb_getR hC fr_X2_14_2 rb_obX12 rfl dX2_readPlace_25 ?_
    refine rb_iload_n hC 0 dX2_readPlace_28 rfl ?_
    refine rb_bipush (x := 48) hC dX2_readPlace_29 (by decide) ?_
    refine rb_isub hC dX2_readPlace_31 ?_
    refine rb_iload_n hC 2 dX2_readPlace_32 rfl ?_
    refine rb_callN hC mv_X2_56 (xc_RP_letterOf (r3 - 48) p0 s5 _ rfl) [.int (r3 - 48), .int p0] rfl rfl rfl ⟨Nat.le_of_ble_eq_true rfl, Nat.le_of_ble_eq_true rfl⟩ (Nat.le_of_ble_eq_true rfl) dX2_readPlace_33 ?_
    obtain ⟨s7, q8, h⟩ := rb_b1s h
    refine rb_callVv hC rb_VokX mv_X2_41 (xc_Fig_add (xf_RP_letterOf (r3 - 48) p0 s5) s5 _ q8) rb_obX13 rfl [.int (xf_RP_letterOf (r3 - 48) p0 s5)] rfl rfl rfl ⟨Nat.le_of_ble_eq_true rfl, Nat.le_of_ble_eq_true rfl⟩ (Nat.le_of_ble_eq_true rfl) dX2_readPlace_36 ?_
    refine rb_iconst (x := 1) hC dX2_readPlace_39 (by decide) ?_
    cases h
    exact rb_zret hC rfl dX2_readPlace_40
  · replace h := rb_ifp c4 h
    refine rb_iconst (x := 0) hC dX2_readPlace_12 (by decide) ?_
    cases h
    exact rb_zret hC rfl dX2_readPlace_13
theorem xc_FR_readPlace (p0 : Int32) (σ : rb_St) (r : Int32) (σ9 : rb_St) (h : xf_FR_readPlace p0 σ = some (r, σ9)) : rb_Con rb_vX yX2_readPlace cX2_readPlace 3 (some .boolean) 1 (fun w => [.ref (rb_ad w 12), .int p0]) σ (fun _ => (some (.int r))) σ9 := rb_Con.of (by decide +kernel) (fun _ => Nat.le_of_ble_eq_true rfl) (fun z w hC => xk_FR_readPlace hC p0 σ r σ9 h)
theorem mv_X4_86_4 : rb_MU RX4 86 "RibbonPole$GreenReader" "RibbonPole$Reader" ⟨"RibbonPole$GreenReader", "readNumber", "(I)I"⟩ yX8_readNumber cX8_readNumber 4 (some .int) 1 := ⟨rb_in (by decide +kernel) (by decide +kernel), rb_in (by decide +kernel) (by decide +kernel), rb_in (by decide +kernel) (by decide +kernel), rb_in (by decide +kernel) (by decide +kernel), rb_in (by decide +kernel) (by decide +kernel), rb_in (by decide +kernel) (by decide +kernel), rfl, by decide, by decide, by decide +kernel⟩
theorem fr_X4_20_4 : rb_FR RX4 20 4 1 := ⟨RX4, TX4, 4, "RibbonPole$GreenReader", rfl, rb_uX4, by decide, rb_in (by decide +kernel) (by decide +kernel), Or.inr (rb_in (by decide +kernel) (by decide +kernel))⟩
def xf_GR_readWithin (p0 : Int32) (p1 : Int32) (σ : rb_St) : Option (Int32 × rb_St) := rb_b2 (xf_Rd_readNumberG 2 σ) fun r3 s1 => if r3 = (-1) then some (r3, s1) else if r3 < p0 then rb_lt (rb_sI s1 3 1 ((s1.1 3 1) - 1)) (fun s6 => some ((-1), s6)) else if p1 < r3 then rb_lt (rb_sI s1 3 1 ((s1.1 3 1) - 1)) (fun s9 => some ((-1), s9)) else some (r3, s1)
set_option maxHeartbeats 4000000 in
set_option maxRecDepth 100000 in
theorem xk_GR_readWithin {z : rb_Z} {w : rb_Wd} (hC : rb_Cx z rb_vX w RX4 cX4_readWithin 4 (some .int) 2) (p0 : Int32) (p1 : Int32) (σ : rb_St) (r : Int32) (σ9 : rb_St) (h : xf_GR_readWithin p0 p1 σ = some (r, σ9)) : rb_At z rb_vX w 4 (rb_Q z rb_vX w (some (.int r)) σ9) 0 [(0, .ref (rb_ad w 3)), (1, .int p0), (2, .int p1)] [] σ := by
  unfold xf_GR_readWithin at h
  refine rb_aload_n hC 0 dX4_readWithin_0 rfl ?_
  refine rb_iconst (x := 2) hC dX4_readWithin_1 (by decide) ?_
  obtain ⟨r3, s1, q2, h⟩ := rb_b2s h
  refine rb_callUi hC rb_VokX mv_X4_86_4 (xc_Rd_readNumberG 2 σ _ _ q2) rb_obX3 rfl [.int 2] rfl rfl rfl ⟨Nat.le_of_ble_eq_true rfl, Nat.le_of_ble_eq_true rfl⟩ (Nat.le_of_ble_eq_true rfl) dX4_readWithin_2 ?_
  refine rb_istore_n hC [(3, .int r3), (0, .ref (rb_ad w 3)), (1, .int p0), (2, .int p1)] dX4_readWithin_5 (by decide) rfl ?_
  refine rb_iload_n hC 0 dX4_readWithin_6 rfl ?_
  refine rb_iconst (x := (-1)) hC dX4_readWithin_7 (by decide) ?_
  refine rb_icmp_eq hC 21 dX4_readWithin_8 (by decide) (fun c4 => ?_) (fun c4 => ?_)
  · replace h := rb_ifp c4 h
    refine rb_iload_n hC 0 dX4_readWithin_21 rfl ?_
    cases h
    exact rb_iret hC dX4_readWithin_22
  · replace h := rb_ifn c4 h
    refine rb_iload_n hC 0 dX4_readWithin_11 rfl ?_
    refine rb_iload_n hC 2 dX4_readWithin_12 rfl ?_
    refine rb_icmp_lt hC 23 dX4_readWithin_13 (by decide) (fun c5 => ?_) (fun c5 => ?_)
    · replace h := rb_ifp c5 h
      refine rb_aload_n hC 1 dX4_readWithin_23 rfl ?_
      refine rb_dup hC dX4_readWithin_24 rfl ?_
      refine rb_getI hC fr_X4_20_4 rb_obX3 rfl dX4_readWithin_25 ?_
      refine rb_iconst (x := 1) hC dX4_readWithin_28 (by decide) ?_
      refine rb_isub hC dX4_readWithin_29 ?_
      refine rb_putI hC fr_X4_20_4 ft_4_1 rb_obX3 rfl rfl rfl dX4_readWithin_30 ?_
      obtain ⟨s6, e7, h⟩ := rb_ltE h
      refine rb_nmS e7 ?_
      refine rb_iconst (x := (-1)) hC dX4_readWithin_33 (by decide) ?_
      cases h
      exact rb_iret hC dX4_readWithin_34
    · replace h := rb_ifn c5 h
      refine rb_iload_n hC 0 dX4_readWithin_16 rfl ?_
      refine rb_iload_n hC 3 dX4_readWithin_17 rfl ?_
      refine rb_icmp_gt hC 23 dX4_readWithin_18 (by decide) (fun c8 => ?_) (fun c8 => ?_)
      · replace h := rb_ifp c8 h
        refine rb_aload_n hC 1 dX4_readWithin_23 rfl ?_
        refine rb_dup hC dX4_readWithin_24 rfl ?_
        refine rb_getI hC fr_X4_20_4 rb_obX3 rfl dX4_readWithin_25 ?_
        refine rb_iconst (x := 1) hC dX4_readWithin_28 (by decide) ?_
        refine rb_isub hC dX4_readWithin_29 ?_
        refine rb_putI hC fr_X4_20_4 ft_4_1 rb_obX3 rfl rfl rfl dX4_readWithin_30 ?_
        obtain ⟨s9, e10, h⟩ := rb_ltE h
        refine rb_nmS e10 ?_
        refine rb_iconst (x := (-1)) hC dX4_readWithin_33 (by decide) ?_
        cases h
        exact rb_iret hC dX4_readWithin_34
      · replace h := rb_ifn c8 h
        refine rb_iload_n hC 0 dX4_readWithin_21 rfl ?_
        cases h
        exact rb_iret hC dX4_readWithin_22
theorem xc_GR_readWithin (p0 : Int32) (p1 : Int32) (σ : rb_St) (r : Int32) (σ9 : rb_St) (h : xf_GR_readWithin p0 p1 σ = some (r, σ9)) : rb_Con rb_vX yX4_readWithin cX4_readWithin 4 (some .int) 2 (fun w => [.ref (rb_ad w 3), .int p0, .int p1]) σ (fun _ => (some (.int r))) σ9 := rb_Con.of (by decide +kernel) (fun _ => Nat.le_of_ble_eq_true rfl) (fun z w hC => xk_GR_readWithin hC p0 p1 σ r σ9 h)
theorem fr_X11_136_4 : rb_FR RX11 136 4 2 := ⟨RX4, TX4, 4, "RibbonPole$GreenReader", rfl, rb_uX4, by decide, rb_in (by decide +kernel) (by decide +kernel), Or.inl rfl⟩
theorem me_X3_copyFrom : Cond.instanceMethod yX3_copyFrom ∈ rb_tbl ∧ Cond.selects yX3_copyFrom.cls yX3_copyFrom yX3_copyFrom ∈ rb_tbl ∧ Cond.initialized yX3_copyFrom.cls ∈ rb_tbl ∧ Cond.code yX3_copyFrom cX3_copyFrom 2 none ∈ rb_tbl ∧ rb_pn yX3_copyFrom 1 := ⟨rb_in (by decide +kernel) (by decide +kernel), rb_in (by decide +kernel) (by decide +kernel), rb_in (by decide +kernel) (by decide +kernel), rb_in (by decide +kernel) (by decide +kernel), by decide +kernel, by decide +kernel, by decide +kernel⟩
theorem mv_X11_139 : rb_MV RX11 139 yX3_copyFrom cX3_copyFrom 2 none 1 := ⟨rb_in (by decide +kernel) (by decide +kernel), me_X3_copyFrom⟩
theorem me_X7_beginAs : Cond.instanceMethod yX7_beginAs ∈ rb_tbl ∧ Cond.selects yX7_beginAs.cls yX7_beginAs yX7_beginAs ∈ rb_tbl ∧ Cond.initialized yX7_beginAs.cls ∈ rb_tbl ∧ Cond.code yX7_beginAs cX7_beginAs 3 none ∈ rb_tbl ∧ rb_pn yX7_beginAs 1 := ⟨rb_in (by decide +kernel) (by decide +kernel), rb_in (by decide +kernel) (by decide +kernel), rb_in (by decide +kernel) (by decide +kernel), rb_in (by decide +kernel) (by decide +kernel), by decide +kernel, by decide +kernel, by decide +kernel⟩
theorem mv_X11_143 : rb_MV RX11 143 yX7_beginAs cX7_beginAs 3 none 1 := ⟨rb_in (by decide +kernel) (by decide +kernel), me_X7_beginAs⟩
def xf_RP_beginGreen  (σ : rb_St) : Option (Int32 × rb_St) := rb_b1 (xf_Green_copyFrom σ) fun s1 => rb_lt (rb_sI s1 1 1 0) (fun s3 => rb_b1 (xf_Pole_beginAs 18 s3) fun s5 => rb_lt (rb_sI s5 23 0 0) (fun s7 => rb_b1 (xf_Acts_forget s7) fun s9 => rb_lt (rb_sI s9 0 15 0) (fun s11 => some (s11.1 15 2, s11))))
set_option maxHeartbeats 4000000 in
set_option maxRecDepth 100000 in
theorem xk_RP_beginGreen {z : rb_Z} {w : rb_Wd} (hC : rb_Cx z rb_vX w RX11 cX11_beginGreen 1 (some .int) 2)  (σ : rb_St) (r : Int32) (σ9 : rb_St) (h : xf_RP_beginGreen σ = some (r, σ9)) : rb_At z rb_vX w 1 (rb_Q z rb_vX w (some (.int r)) σ9) 0 [(0, .ref (rb_ad w 0))] [] σ := by
  unfold xf_RP_beginGreen at h
  refine rb_aload_n hC 0 dX11_beginGreen_0 rfl ?_
  refine rb_getR hC fr_X11_42_10 rb_obX0 rfl dX11_beginGreen_1 ?_
  refine rb_aload_n hC 0 dX11_beginGreen_4 rfl ?_
  refine rb_getR hC fr_X11_21_10 rb_obX0 rfl dX11_beginGreen_5 ?_
  refine rb_getR hC fr_X11_136_4 rb_obX3 rfl dX11_beginGreen_8 ?_
  obtain ⟨s1, q2, h⟩ := rb_b1s h
  refine rb_callVv hC rb_VokX mv_X11_139 (xc_Green_copyFrom  σ _ q2) rb_obX15 rfl [.ref (rb_ad w 4)] rfl rfl rfl ⟨Nat.le_of_ble_eq_true rfl, Nat.le_of_ble_eq_true rfl⟩ (Nat.le_of_ble_eq_true rfl) dX11_beginGreen_11 ?_
  refine rb_aload_n hC 0 dX11_beginGreen_14 rfl ?_
  refine rb_getR hC fr_X11_10_10 rb_obX0 rfl dX11_beginGreen_15 ?_
  refine rb_iconst (x := 0) hC dX11_beginGreen_18 (by decide) ?_
  refine rb_putI hC fr_X11_106_8 ft_8_1 rb_obX1 rfl rfl rfl dX11_beginGreen_19 ?_
  obtain ⟨s3, e4, h⟩ := rb_ltE h
  refine rb_nmS e4 ?_
  refine rb_aload_n hC 0 dX11_beginGreen_22 rfl ?_
  refine rb_getR hC fr_X11_49_10 rb_obX0 rfl dX11_beginGreen_23 ?_
  refine rb_aload_n hC 0 dX11_beginGreen_26 rfl ?_
  refine rb_getR hC fr_X11_42_10 rb_obX0 rfl dX11_beginGreen_27 ?_
  obtain ⟨s5, q6, h⟩ := rb_b1s h
  refine rb_callVv hC rb_VokX mv_X11_143 (xc_Pole_beginAs 18 rb_isPole18 s3 _ q6) (rb_obPole rb_isPole18) rfl [.ref (rb_ad w 15)] rfl rfl rfl ⟨Nat.le_of_ble_eq_true rfl, Nat.le_of_ble_eq_true rfl⟩ (Nat.le_of_ble_eq_true rfl) dX11_beginGreen_30 ?_
  refine rb_aload_n hC 0 dX11_beginGreen_33 rfl ?_
  refine rb_getR hC fr_X11_53_10 rb_obX0 rfl dX11_beginGreen_34 ?_
  refine rb_iconst (x := 0) hC dX11_beginGreen_37 (by decide) ?_
  refine rb_putI hC fr_X11_146_7 ft_7_0 (rb_obPole rb_isPole23) rfl rfl rfl dX11_beginGreen_38 ?_
  obtain ⟨s7, e8, h⟩ := rb_ltE h
  refine rb_nmS e8 ?_
  refine rb_aload_n hC 0 dX11_beginGreen_41 rfl ?_
  refine rb_getR hC fr_X11_59_10 rb_obX0 rfl dX11_beginGreen_42 ?_
  obtain ⟨s9, q10, h⟩ := rb_b1s h
  refine rb_callVv hC rb_VokX mv_X11_149 (xc_Acts_forget  s7 _ q10) rb_obX28 rfl [] rfl rfl rfl ⟨Nat.le_of_ble_eq_true rfl, Nat.le_of_ble_eq_true rfl⟩ (Nat.le_of_ble_eq_true rfl) dX11_beginGreen_45 ?_
  refine rb_aload_n hC 0 dX11_beginGreen_48 rfl ?_
  refine rb_iconst (x := 0) hC dX11_beginGreen_49 (by decide) ?_
  refine rb_putI hC fr_X11_152_10 ft_10_15 rb_obX0 rfl rfl rfl dX11_beginGreen_50 ?_
  obtain ⟨s11, e12, h⟩ := rb_ltE h
  refine rb_nmS e12 ?_
  refine rb_aload_n hC 0 dX11_beginGreen_53 rfl ?_
  refine rb_getR hC fr_X11_42_10 rb_obX0 rfl dX11_beginGreen_54 ?_
  refine rb_getI hC fr_X11_155_3 rb_obX15 rfl dX11_beginGreen_57 ?_
  cases h
  exact rb_iret hC dX11_beginGreen_60
theorem xc_RP_beginGreen  (σ : rb_St) (r : Int32) (σ9 : rb_St) (h : xf_RP_beginGreen σ = some (r, σ9)) : rb_Con rb_vX yX11_beginGreen cX11_beginGreen 1 (some .int) 2 (fun w => [.ref (rb_ad w 0)]) σ (fun _ => (some (.int r))) σ9 := rb_Con.of (by decide +kernel) (fun _ => Nat.le_of_ble_eq_true rfl) (fun z w hC => xk_RP_beginGreen hC  σ r σ9 h)
theorem fr_X11_90_10 : rb_FR RX11 90 10 17 := ⟨RX11, TX11, 20, "RibbonPole", rfl, rb_uX11, by decide, rb_in (by decide +kernel) (by decide +kernel), Or.inl rfl⟩
theorem me_X7_tellOrder : Cond.instanceMethod yX7_tellOrder ∈ rb_tbl ∧ Cond.selects yX7_tellOrder.cls yX7_tellOrder yX7_tellOrder ∈ rb_tbl ∧ Cond.initialized yX7_tellOrder.cls ∈ rb_tbl ∧ Cond.code yX7_tellOrder cX7_tellOrder 6 none ∈ rb_tbl ∧ rb_pn yX7_tellOrder 1 := ⟨rb_in (by decide +kernel) (by decide +kernel), rb_in (by decide +kernel) (by decide +kernel), rb_in (by decide +kernel) (by decide +kernel), rb_in (by decide +kernel) (by decide +kernel), by decide +kernel, by decide +kernel, by decide +kernel⟩
theorem mv_X11_225 : rb_MV RX11 225 yX7_tellOrder cX7_tellOrder 6 none 1 := ⟨rb_in (by decide +kernel) (by decide +kernel), me_X7_tellOrder⟩
theorem mv_X11_229 : rb_MS RX11 229 yX7_letterIn cX7_letterIn 1 (some .int) 1 := ⟨rb_in (by decide +kernel) (by decide +kernel), me_X7_letterIn⟩
theorem mv_X11_232 : rb_MS RX11 232 yX7_overIn cX7_overIn 1 (some .int) 1 := ⟨rb_in (by decide +kernel) (by decide +kernel), me_X7_overIn⟩
theorem mv_X11_235 : rb_MS RX11 235 yX7_underIn cX7_underIn 1 (some .int) 1 := ⟨rb_in (by decide +kernel) (by decide +kernel), me_X7_underIn⟩
theorem mv_X11_238 : rb_MS RX11 238 yX7_tookIn cX7_tookIn 1 (some .int) 1 := ⟨rb_in (by decide +kernel) (by decide +kernel), me_X7_tookIn⟩
theorem mv_X11_241 : rb_MS RX11 241 yX7_layerIn cX7_layerIn 1 (some .int) 1 := ⟨rb_in (by decide +kernel) (by decide +kernel), me_X7_layerIn⟩
def xf_RP_plait (p0 : Int32) (p1 : Int32) (σ : rb_St) : Option (Int32 × rb_St) := if p0 < 0 then some ((-1), σ) else if p0 < (σ.1 18 1) then rb_b1 (xf_Pole_tellOrder 18 σ) fun s3 => if p1 = 0 then if rb_ib p0 48 then some (xf_Pole_letterIn (s3.1 235 p0.toNatClampNeg) s3, s3) else none else if p1 = 1 then if rb_ib p0 48 then some (xf_Pole_overIn (s3.1 235 p0.toNatClampNeg) s3, s3) else none else if p1 = 2 then if rb_ib p0 48 then some (xf_Pole_underIn (s3.1 235 p0.toNatClampNeg) s3, s3) else none else if p1 = 3 then if rb_ib p0 48 then some (xf_Pole_tookIn (s3.1 235 p0.toNatClampNeg) s3, s3) else none else if p1 = 4 then if rb_ib p0 48 then some (xf_Pole_layerIn (s3.1 235 p0.toNatClampNeg) s3, s3) else none else some ((-1), s3) else some ((-1), σ)
set_option maxHeartbeats 4000000 in
set_option maxRecDepth 100000 in
theorem xk_RP_plait {z : rb_Z} {w : rb_Wd} (hC : rb_Cx z rb_vX w RX11 cX11_plait 3 (some .int) 4) (p0 : Int32) (p1 : Int32) (σ : rb_St) (r : Int32) (σ9 : rb_St) (h : xf_RP_plait p0 p1 σ = some (r, σ9)) : rb_At z rb_vX w 3 (rb_Q z rb_vX w (some (.int r)) σ9) 0 [(0, .ref (rb_ad w 0)), (1, .int p0), (2, .int p1)] [] σ := by
  unfold xf_RP_plait at h
  refine rb_iload_n hC 1 dX11_plait_0 rfl ?_
  refine rb_if_lt hC 15 dX11_plait_1 (by decide) (fun c1 => ?_) (fun c1 => ?_)
  · replace h := rb_ifp c1 h
    refine rb_iconst (x := (-1)) hC dX11_plait_15 (by decide) ?_
    cases h
    exact rb_iret hC dX11_plait_16
  · replace h := rb_ifn c1 h
    refine rb_iload_n hC 1 dX11_plait_4 rfl ?_
    refine rb_aload_n hC 0 dX11_plait_5 rfl ?_
    refine rb_getR hC fr_X11_49_10 rb_obX0 rfl dX11_plait_6 ?_
    refine rb_getI hC fr_X11_224_7 (rb_obPole rb_isPole18) rfl dX11_plait_9 ?_
    refine rb_icmp_lt hC 17 dX11_plait_12 (by decide) (fun c2 => ?_) (fun c2 => ?_)
    · replace h := rb_ifp c2 h
      refine rb_aload_n hC 0 dX11_plait_17 rfl ?_
      refine rb_getR hC fr_X11_49_10 rb_obX0 rfl dX11_plait_18 ?_
      refine rb_aload_n hC 0 dX11_plait_21 rfl ?_
      refine rb_getR hC fr_X11_90_10 rb_obX0 rfl dX11_plait_22 ?_
      obtain ⟨s3, q4, h⟩ := rb_b1s h
      refine rb_callVv hC rb_VokX mv_X11_225 (xc_Pole_tellOrder 18 rb_isPole18 σ _ q4) (rb_obPole rb_isPole18) rfl [.ref (rb_ad w 235)] rfl rfl rfl ⟨Nat.le_of_ble_eq_true rfl, Nat.le_of_ble_eq_true rfl⟩ (Nat.le_of_ble_eq_true rfl) dX11_plait_25 ?_
      refine rb_iload_n hC 2 dX11_plait_28 rfl ?_
      by_cases c29_0 : p1 = 0
      · replace h := rb_ifp c29_0 h
        refine rb_tableIn hC 64 dX11_plait_29 (by rw [c29_0]; decide) (by rw [c29_0]; decide) (by rw [c29_0]; rfl) (by decide) ?_
        refine rb_aload_n hC 0 dX11_plait_64 rfl ?_
        refine rb_getR hC fr_X11_90_10 rb_obX0 rfl dX11_plait_65 ?_
        refine rb_iload_n hC 1 dX11_plait_68 rfl ?_
        obtain ⟨g5, h⟩ := rb_gd h
        refine rb_iald hC rb_arX235 (rb_ibI g5) dX11_plait_69 ?_
        refine rb_callSi hC rb_VokX mv_X11_229 (xc_Pole_letterIn (s3.1 235 p0.toNatClampNeg) s3 _ rfl) [.int (s3.1 235 p0.toNatClampNeg)] rfl rfl rfl ⟨Nat.le_of_ble_eq_true rfl, Nat.le_of_ble_eq_true rfl⟩ (Nat.le_of_ble_eq_true rfl) dX11_plait_70 ?_
        cases h
        exact rb_iret hC dX11_plait_73
      · replace h := rb_ifn c29_0 h
        by_cases c29_1 : p1 = 1
        · replace h := rb_ifp c29_1 h
          refine rb_tableIn hC 74 dX11_plait_29 (by rw [c29_1]; decide) (by rw [c29_1]; decide) (by rw [c29_1]; rfl) (by decide) ?_
          refine rb_aload_n hC 0 dX11_plait_74 rfl ?_
          refine rb_getR hC fr_X11_90_10 rb_obX0 rfl dX11_plait_75 ?_
          refine rb_iload_n hC 1 dX11_plait_78 rfl ?_
          obtain ⟨g6, h⟩ := rb_gd h
          refine rb_iald hC rb_arX235 (rb_ibI g6) dX11_plait_79 ?_
          refine rb_callSi hC rb_VokX mv_X11_232 (xc_Pole_overIn (s3.1 235 p0.toNatClampNeg) s3 _ rfl) [.int (s3.1 235 p0.toNatClampNeg)] rfl rfl rfl ⟨Nat.le_of_ble_eq_true rfl, Nat.le_of_ble_eq_true rfl⟩ (Nat.le_of_ble_eq_true rfl) dX11_plait_80 ?_
          cases h
          exact rb_iret hC dX11_plait_83
        · replace h := rb_ifn c29_1 h
          by_cases c29_2 : p1 = 2
          · replace h := rb_ifp c29_2 h
            refine rb_tableIn hC 84 dX11_plait_29 (by rw [c29_2]; decide) (by rw [c29_2]; decide) (by rw [c29_2]; rfl) (by decide) ?_
            refine rb_aload_n hC 0 dX11_plait_84 rfl ?_
            refine rb_getR hC fr_X11_90_10 rb_obX0 rfl dX11_plait_85 ?_
            refine rb_iload_n hC 1 dX11_plait_88 rfl ?_
            obtain ⟨g7, h⟩ := rb_gd h
            refine rb_iald hC rb_arX235 (rb_ibI g7) dX11_plait_89 ?_
            refine rb_callSi hC rb_VokX mv_X11_235 (xc_Pole_underIn (s3.1 235 p0.toNatClampNeg) s3 _ rfl) [.int (s3.1 235 p0.toNatClampNeg)] rfl rfl rfl ⟨Nat.le_of_ble_eq_true rfl, Nat.le_of_ble_eq_true rfl⟩ (Nat.le_of_ble_eq_true rfl) dX11_plait_90 ?_
            cases h
            exact rb_iret hC dX11_plait_93
          · replace h := rb_ifn c29_2 h
            by_cases c29_3 : p1 = 3
            · replace h := rb_ifp c29_3 h
              refine rb_tableIn hC 94 dX11_plait_29 (by rw [c29_3]; decide) (by rw [c29_3]; decide) (by rw [c29_3]; rfl) (by decide) ?_
              refine rb_aload_n hC 0 dX11_plait_94 rfl ?_
              refine rb_getR hC fr_X11_90_10 rb_obX0 rfl dX11_plait_95 ?_
              refine rb_iload_n hC 1 dX11_plait_98 rfl ?_
              obtain ⟨g8, h⟩ := rb_gd h
              refine rb_iald hC rb_arX235 (rb_ibI g8) dX11_plait_99 ?_
              refine rb_callSi hC rb_VokX mv_X11_238 (xc_Pole_tookIn (s3.1 235 p0.toNatClampNeg) s3 _ rfl) [.int (s3.1 235 p0.toNatClampNeg)] rfl rfl rfl ⟨Nat.le_of_ble_eq_true rfl, Nat.le_of_ble_eq_true rfl⟩ (Nat.le_of_ble_eq_true rfl) dX11_plait_100 ?_
              cases h
              exact rb_iret hC dX11_plait_103
            · replace h := rb_ifn c29_3 h
              by_cases c29_4 : p1 = 4
              · replace h := rb_ifp c29_4 h
                refine rb_tableIn hC 104 dX11_plait_29 (by rw [c29_4]; decide) (by rw [c29_4]; decide) (by rw [c29_4]; rfl) (by decide) ?_
                refine rb_aload_n hC 0 dX11_plait_104 rfl ?_
                refine rb_getR hC fr_X11_90_10 rb_obX0 rfl dX11_plait_105 ?_
                refine rb_iload_n hC 1 dX11_plait_108 rfl ?_
                obtain ⟨g9, h⟩ := rb_gd h
                refine rb_iald hC rb_arX235 (rb_ibI g9) dX11_plait_109 ?_
                refine rb_callSi hC rb_VokX mv_X11_241 (xc_Pole_layerIn (s3.1 235 p0.toNatClampNeg) s3 _ rfl) [.int (s3.1 235 p0.toNatClampNeg)] rfl rfl rfl ⟨Nat.le_of_ble_eq_true rfl, Nat.le_of_ble_eq_true rfl⟩ (Nat.le_of_ble_eq_true rfl) dX11_plait_110 ?_
                cases h
                exact rb_iret hC dX11_plait_113
              · replace h := rb_ifn c29_4 h
                have hO : p1.toInt < 0 ∨ 4 < p1.toInt := by
                  have n0 : p1.toInt ≠ 0 := fun q3 => c29_0 (Int32.toInt_inj.mp (q3.trans (by decide)))
                  have n1 : p1.toInt ≠ 1 := fun q3 => c29_1 (Int32.toInt_inj.mp (q3.trans (by decide)))
                  have n2 : p1.toInt ≠ 2 := fun q3 => c29_2 (Int32.toInt_inj.mp (q3.trans (by decide)))
                  have n3 : p1.toInt ≠ 3 := fun q3 => c29_3 (Int32.toInt_inj.mp (q3.trans (by decide)))
                  have n4 : p1.toInt ≠ 4 := fun q3 => c29_4 (Int32.toInt_inj.mp (q3.trans (by decide)))
                  omega
                refine rb_tableOut hC 114 dX11_plait_29 hO (by decide) ?_
                refine rb_iconst (x := (-1)) hC dX11_plait_114 (by decide) ?_
                cases h
                exact rb_iret hC dX11_plait_115
    · replace h := rb_ifn c2 h
      refine rb_iconst (x := (-1)) hC dX11_plait_15 (by decide) ?_
      cases h
      exact rb_iret hC dX11_plait_16
theorem xc_RP_plait (p0 : Int32) (p1 : Int32) (σ : rb_St) (r : Int32) (σ9 : rb_St) (h : xf_RP_plait p0 p1 σ = some (r, σ9)) : rb_Con rb_vX yX11_plait cX11_plait 3 (some .int) 4 (fun w => [.ref (rb_ad w 0), .int p0, .int p1]) σ (fun _ => (some (.int r))) σ9 := rb_Con.of (by decide +kernel) (fun _ => Nat.le_of_ble_eq_true rfl) (fun z w hC => xk_RP_plait hC p0 p1 σ r σ9 h)
def xf_RP_stripe (p0 : Int32) (σ : rb_St) : Option (Int32 × rb_St) := if p0 < 0 then some ((-1), σ) else if p0 < (σ.1 18 1) then rb_b1 (xf_Pole_tellOrder 18 σ) fun s3 => if rb_ib p0 48 then rb_b1 (xf_Green_trait (xf_Pole_overIn (s3.1 235 p0.toNatClampNeg) s3) 0 s3) fun r6 => some (r6, s3) else none else some ((-1), σ)
set_option maxHeartbeats 4000000 in
set_option maxRecDepth 100000 in
theorem xk_RP_stripe {z : rb_Z} {w : rb_Wd} (hC : rb_Cx z rb_vX w RX11 cX11_stripe 2 (some .int) 4) (p0 : Int32) (σ : rb_St) (r : Int32) (σ9 : rb_St) (h : xf_RP_stripe p0 σ = some (r, σ9)) : rb_At z rb_vX w 2 (rb_Q z rb_vX w (some (.int r)) σ9) 0 [(0, .ref (rb_ad w 0)), (1, .int p0)] [] σ := by
  unfold xf_RP_stripe at h
  refine rb_iload_n hC 1 dX11_stripe_0 rfl ?_
  refine rb_if_lt hC 15 dX11_stripe_1 (by decide) (fun c1 => ?_) (fun c1 => ?_)
  · replace h := rb_ifp c1 h
    refine rb_iconst (x := (-1)) hC dX11_stripe_15 (by decide) ?_
    cases h
    exact rb_iret hC dX11_stripe_16
  · replace h := rb_ifn c1 h
    refine rb_iload_n hC 1 dX11_stripe_4 rfl ?_
    refine rb_aload_n hC 0 dX11_stripe_5 rfl ?_
    refine rb_getR hC fr_X11_49_10 rb_obX0 rfl dX11_stripe_6 ?_
    refine rb_getI hC fr_X11_224_7 (rb_obPole rb_isPole18) rfl dX11_stripe_9 ?_
    refine rb_icmp_lt hC 17 dX11_stripe_12 (by decide) (fun c2 => ?_) (fun c2 => ?_)
    · replace h := rb_ifp c2 h
      refine rb_aload_n hC 0 dX11_stripe_17 rfl ?_
      refine rb_getR hC fr_X11_49_10 rb_obX0 rfl dX11_stripe_18 ?_
      refine rb_aload_n hC 0 dX11_stripe_21 rfl ?_
      refine rb_getR hC fr_X11_90_10 rb_obX0 rfl dX11_stripe_22 ?_
      obtain ⟨s3, q4, h⟩ := rb_b1s h
      refine rb_callVv hC rb_VokX mv_X11_225 (xc_Pole_tellOrder 18 rb_isPole18 σ _ q4) (rb_obPole rb_isPole18) rfl [.ref (rb_ad w 235)] rfl rfl rfl ⟨Nat.le_of_ble_eq_true rfl, Nat.le_of_ble_eq_true rfl⟩ (Nat.le_of_ble_eq_true rfl) dX11_stripe_25 ?_
      refine rb_aload_n hC 0 dX11_stripe_28 rfl ?_
      refine rb_getR hC fr_X11_42_10 rb_obX0 rfl dX11_stripe_29 ?_
      refine rb_aload_n hC 0 dX11_stripe_32 rfl ?_
      refine rb_getR hC fr_X11_90_10 rb_obX0 rfl dX11_stripe_33 ?_
      refine rb_iload_n hC 1 dX11_stripe_36 rfl ?_
      obtain ⟨g5, h⟩ := rb_gd h
      refine rb_iald hC rb_arX235 (rb_ibI g5) dX11_stripe_37 ?_
      refine rb_callSi hC rb_VokX mv_X11_232 (xc_Pole_overIn (s3.1 235 p0.toNatClampNeg) s3 _ rfl) [.int (s3.1 235 p0.toNatClampNeg)] rfl rfl rfl ⟨Nat.le_of_ble_eq_true rfl, Nat.le_of_ble_eq_true rfl⟩ (Nat.le_of_ble_eq_true rfl) dX11_stripe_38 ?_
      refine rb_iconst (x := 0) hC dX11_stripe_41 (by decide) ?_
      obtain ⟨r6, q7, h⟩ := rb_b1s h
      refine rb_callVi hC rb_VokX mv_X11_195 (xc_Green_trait (xf_Pole_overIn (s3.1 235 p0.toNatClampNeg) s3) 0 s3 _ q7) rb_obX15 rfl [.int (xf_Pole_overIn (s3.1 235 p0.toNatClampNeg) s3), .int 0] rfl rfl rfl ⟨Nat.le_of_ble_eq_true rfl, Nat.le_of_ble_eq_true rfl⟩ (Nat.le_of_ble_eq_true rfl) dX11_stripe_42 ?_
      cases h
      exact rb_iret hC dX11_stripe_45
    · replace h := rb_ifn c2 h
      refine rb_iconst (x := (-1)) hC dX11_stripe_15 (by decide) ?_
      cases h
      exact rb_iret hC dX11_stripe_16
theorem xc_RP_stripe (p0 : Int32) (σ : rb_St) (r : Int32) (σ9 : rb_St) (h : xf_RP_stripe p0 σ = some (r, σ9)) : rb_Con rb_vX yX11_stripe cX11_stripe 2 (some .int) 4 (fun w => [.ref (rb_ad w 0), .int p0]) σ (fun _ => (some (.int r))) σ9 := rb_Con.of (by decide +kernel) (fun _ => Nat.le_of_ble_eq_true rfl) (fun z w hC => xk_RP_stripe hC p0 σ r σ9 h)
