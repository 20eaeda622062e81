def xl_M_digitsOf_9  : Nat → Int32 → Int32 → rb_St → Option (rb_St)
  | 0, _, _, _ => none
  | n + 1, x2, x3, σ => if x3 < 0 then some σ else if ((σ.1 0 22) - x3) = 0 then none else if rb_ib x3 7 then rb_lt (rb_sI σ 27 x3.toNatClampNeg (x2 - x2 / ((σ.1 0 22) - x3) * ((σ.1 0 22) - x3))) (fun s4 => if ((s4.1 0 22) - x3) = 0 then none else xl_M_digitsOf_9 n (x2 / ((s4.1 0 22) - x3)) (x3 + (-1)) s4) else none
set_option maxHeartbeats 4000000 in
set_option maxRecDepth 100000 in
theorem xt_M_digitsOf_9 {z : rb_Z} {w : rb_Wd} {Q : State → Prop} (hC : rb_Cx z rb_vM w RX12 cX12_digitsOf 5 none 0)  : ∀ (n : Nat) (x2 : Int32) (x3 : Int32) (σ : rb_St) (σ9 : rb_St), xl_M_digitsOf_9 n x2 x3 σ = some σ9 → rb_At z rb_vM w 5 Q 42 [(0, .ref (rb_ad w 0))] [] σ9 → rb_At z rb_vM w 5 Q 9 [(0, .ref (rb_ad w 0)), (2, .int x2), (3, .int x3)] [] σ := by
  intro n
  induction n with
  | zero =>
    intro x2 x3 σ σ9 h hE0
    cases h
  | succ n ih =>
    intro x2 x3 σ σ9 h hE0
    rw [xl_M_digitsOf_9] at h
    refine rb_iload_n hC 2 dX12_digitsOf_9 rfl ?_
    refine rb_if_lt hC 42 dX12_digitsOf_10 (by decide) (fun c1 => ?_) (fun c1 => ?_)
    · replace h := rb_ifp c1 h
      cases h
      exact rb_sub [0] rfl (hE0)
    · replace h := rb_ifn c1 h
      refine rb_aload_n hC 0 dX12_digitsOf_13 rfl ?_
      refine rb_getR hC fr_X12_93_11 rb_obM0 rfl dX12_digitsOf_14 ?_
      refine rb_iload_n hC 2 dX12_digitsOf_17 rfl ?_
      refine rb_iload_n hC 1 dX12_digitsOf_18 rfl ?_
      refine rb_aload_n hC 0 dX12_digitsOf_19 rfl ?_
      refine rb_getI hC fr_X12_283_11 rb_obM0 rfl dX12_digitsOf_20 ?_
      refine rb_iload_n hC 2 dX12_digitsOf_23 rfl ?_
      refine rb_isub hC dX12_digitsOf_24 ?_
      obtain ⟨g2, h⟩ := rb_dv h
      refine rb_irem hC dX12_digitsOf_25 g2 ?_
      obtain ⟨g3, h⟩ := rb_gd h
      refine rb_iast hC rb_arM27 (rb_ibI g3) dX12_digitsOf_26 ?_
      obtain ⟨s4, e5, h⟩ := rb_ltE h
      refine rb_nmS e5 ?_
      refine rb_iload_n hC 1 dX12_digitsOf_27 rfl ?_
      refine rb_aload_n hC 0 dX12_digitsOf_28 rfl ?_
      refine rb_getI hC fr_X12_283_11 rb_obM0 rfl dX12_digitsOf_29 ?_
      refine rb_iload_n hC 2 dX12_digitsOf_32 rfl ?_
      refine rb_isub hC dX12_digitsOf_33 ?_
      obtain ⟨g6, h⟩ := rb_dv h
      refine rb_idiv hC dX12_digitsOf_34 g6 ?_
      refine rb_istore_n hC [(2, .int (x2 / ((s4.1 0 22) - x3))), (0, .ref (rb_ad w 0)), (3, .int x3)] dX12_digitsOf_35 (by decide) rfl ?_
      refine rb_iinc hC 2 [(3, .int (x3 + (-1))), (2, .int (x2 / ((s4.1 0 22) - x3))), (0, .ref (rb_ad w 0))] dX12_digitsOf_36 rfl rfl (by decide) rfl ?_
      refine rb_goto hC 9 dX12_digitsOf_39 (by decide) ?_
      exact rb_sub [2, 1, 0] rfl (ih (x2 / ((s4.1 0 22) - x3)) (x3 + (-1)) s4 _ h hE0)
def xl_M_digitsOf_58 (x3 : Int32) : Nat → Int32 → rb_St → Option (rb_St)
  | 0, _, _ => none
  | n + 1, x4, σ => if (σ.1 0 22) ≤ x4 then some σ else if rb_ib x4 7 then if rb_ib x3 7 then if (σ.1 27 x4.toNatClampNeg) < (σ.1 27 x3.toNatClampNeg) then rb_lt (rb_sI σ 27 x4.toNatClampNeg ((σ.1 27 x4.toNatClampNeg) + 0)) (fun s14 => xl_M_digitsOf_58 x3 n (x4 + 1) s14) else rb_lt (rb_sI σ 27 x4.toNatClampNeg ((σ.1 27 x4.toNatClampNeg) + 1)) (fun s16 => xl_M_digitsOf_58 x3 n (x4 + 1) s16) else none else none
set_option maxHeartbeats 4000000 in
set_option maxRecDepth 100000 in
theorem xt_M_digitsOf_58 {z : rb_Z} {w : rb_Wd} {Q : State → Prop} (hC : rb_Cx z rb_vM w RX12 cX12_digitsOf 5 none 0) (x3 : Int32) : ∀ (n : Nat) (x4 : Int32) (σ : rb_St) (σ9 : rb_St), xl_M_digitsOf_58 x3 n x4 σ = some σ9 → rb_At z rb_vM w 5 Q 104 [(0, .ref (rb_ad w 0)), (3, .int x3)] [] σ9 → rb_At z rb_vM w 5 Q 58 [(0, .ref (rb_ad w 0)), (3, .int x3), (4, .int x4)] [] σ := by
  intro n
  induction n with
  | zero =>
    intro x4 σ σ9 h hE0
    cases h
  | succ n ih =>
    intro x4 σ σ9 h hE0
    rw [xl_M_digitsOf_58] at h
    refine rb_iload hC 2 dX12_digitsOf_58 rfl ?_
    refine rb_aload_n hC 0 dX12_digitsOf_60 rfl ?_
    refine rb_getI hC fr_X12_283_11 rb_obM0 rfl dX12_digitsOf_61 ?_
    refine rb_icmp_ge hC 104 dX12_digitsOf_64 (by decide) (fun c10 => ?_) (fun c10 => ?_)
    · replace h := rb_ifp c10 h
      cases h
      exact rb_sub [0, 1] rfl (hE0)
    · replace h := rb_ifn c10 h
      refine rb_aload_n hC 0 dX12_digitsOf_67 rfl ?_
      refine rb_getR hC fr_X12_93_11 rb_obM0 rfl dX12_digitsOf_68 ?_
      refine rb_iload hC 2 dX12_digitsOf_71 rfl ?_
      refine rb_dup2_11 hC dX12_digitsOf_73 rfl rfl ?_
      obtain ⟨g11, h⟩ := rb_gd h
      refine rb_iald hC rb_arM27 (rb_ibI g11) dX12_digitsOf_74 ?_
      refine rb_aload_n hC 0 dX12_digitsOf_75 rfl ?_
      refine rb_getR hC fr_X12_93_11 rb_obM0 rfl dX12_digitsOf_76 ?_
      refine rb_iload hC 2 dX12_digitsOf_79 rfl ?_
      refine rb_iald hC rb_arM27 (rb_ibI g11) dX12_digitsOf_81 ?_
      refine rb_aload_n hC 0 dX12_digitsOf_82 rfl ?_
      refine rb_getR hC fr_X12_93_11 rb_obM0 rfl dX12_digitsOf_83 ?_
      refine rb_iload_n hC 1 dX12_digitsOf_86 rfl ?_
      obtain ⟨g12, h⟩ := rb_gd h
      refine rb_iald hC rb_arM27 (rb_ibI g12) dX12_digitsOf_87 ?_
      refine rb_icmp_lt hC 95 dX12_digitsOf_88 (by decide) (fun c13 => ?_) (fun c13 => ?_)
      · replace h := rb_ifp c13 h
        refine rb_iconst (x := 0) hC dX12_digitsOf_95 (by decide) ?_
        refine rb_iadd hC dX12_digitsOf_96 ?_
        refine rb_iast hC rb_arM27 (rb_ibI g11) dX12_digitsOf_97 ?_
        obtain ⟨s14, e15, h⟩ := rb_ltE h
        refine rb_nmS e15 ?_
        refine rb_iinc hC 2 [(4, .int (x4 + 1)), (0, .ref (rb_ad w 0)), (3, .int x3)] dX12_digitsOf_98 rfl rfl (by decide) rfl ?_
        refine rb_goto hC 58 dX12_digitsOf_101 (by decide) ?_
        exact rb_sub [1, 2, 0] rfl (ih (x4 + 1) s14 _ h hE0)
      · replace h := rb_ifn c13 h
        refine rb_iconst (x := 1) hC dX12_digitsOf_91 (by decide) ?_
        refine rb_goto hC 96 dX12_digitsOf_92 (by decide) ?_
        refine rb_iadd hC dX12_digitsOf_96 ?_
        refine rb_iast hC rb_arM27 (rb_ibI g11) dX12_digitsOf_97 ?_
        obtain ⟨s16, e17, h⟩ := rb_ltE h
        refine rb_nmS e17 ?_
        refine rb_iinc hC 2 [(4, .int (x4 + 1)), (0, .ref (rb_ad w 0)), (3, .int x3)] dX12_digitsOf_98 rfl rfl (by decide) rfl ?_
        refine rb_goto hC 58 dX12_digitsOf_101 (by decide) ?_
        exact rb_sub [1, 2, 0] rfl (ih (x4 + 1) s16 _ h hE0)
def xl_M_digitsOf_49  : Nat → Int32 → rb_St → Option (rb_St)
  | 0, _, _ => none
  | n + 1, x3, σ => if x3 < 0 then some σ else rb_b1 (xl_M_digitsOf_58 x3 rb_FU (x3 + 1) σ) fun s18 => xl_M_digitsOf_49 n (x3 + (-1)) s18
set_option maxHeartbeats 4000000 in
set_option maxRecDepth 100000 in
theorem xt_M_digitsOf_49 {z : rb_Z} {w : rb_Wd} {Q : State → Prop} (hC : rb_Cx z rb_vM w RX12 cX12_digitsOf 5 none 0)  : ∀ (n : Nat) (x3 : Int32) (σ : rb_St) (σ9 : rb_St), xl_M_digitsOf_49 n x3 σ = some σ9 → rb_At z rb_vM w 5 Q 110 [] [] σ9 → rb_At z rb_vM w 5 Q 49 [(0, .ref (rb_ad w 0)), (3, .int x3)] [] σ := by
  intro n
  induction n with
  | zero =>
    intro x3 σ σ9 h hE0
    cases h
  | succ n ih =>
    intro x3 σ σ9 h hE0
    rw [xl_M_digitsOf_49] at h
    refine rb_iload_n hC 1 dX12_digitsOf_49 rfl ?_
    refine rb_if_lt hC 110 dX12_digitsOf_50 (by decide) (fun c9 => ?_) (fun c9 => ?_)
    · replace h := rb_ifp c9 h
      cases h
      exact rb_sub [] rfl (hE0)
    · replace h := rb_ifn c9 h
      refine rb_iload_n hC 1 dX12_digitsOf_53 rfl ?_
      refine rb_iconst (x := 1) hC dX12_digitsOf_54 (by decide) ?_
      refine rb_iadd hC dX12_digitsOf_55 ?_
      refine rb_istore hC [(4, .int (x3 + 1)), (0, .ref (rb_ad w 0)), (3, .int x3)] dX12_digitsOf_56 (by decide) rfl ?_
      obtain ⟨s18, q19, h⟩ := rb_b1s h
      refine rb_sub (lv2 := [(0, .ref (rb_ad w 0)), (3, .int x3), (4, .int (x3 + 1))]) [1, 2, 0] rfl ?_
      refine xt_M_digitsOf_58 hC x3 rb_FU (x3 + 1) σ _ q19 ?_
      refine rb_iinc hC 1 [(3, .int (x3 + (-1))), (0, .ref (rb_ad w 0))] dX12_digitsOf_104 rfl rfl (by decide) rfl ?_
      refine rb_goto hC 49 dX12_digitsOf_107 (by decide) ?_
      exact rb_sub [1, 0] rfl (ih (x3 + (-1)) s18 _ h hE0)
def xf_M_digitsOf (p0 : Int32) (σ : rb_St) : Option (rb_St) := rb_b1 (xl_M_digitsOf_9 rb_FU p0 ((σ.1 0 22) - 1) σ) fun s7 => rb_b1 (xl_M_digitsOf_49 rb_FU ((s7.1 0 22) - 1) s7) fun s20 => some s20
set_option maxHeartbeats 4000000 in
set_option maxRecDepth 100000 in
theorem xk_M_digitsOf {z : rb_Z} {w : rb_Wd} (hC : rb_Cx z rb_vM w RX12 cX12_digitsOf 5 none 0) (p0 : Int32) (σ : rb_St) (σ9 : rb_St) (h : xf_M_digitsOf p0 σ = some σ9) : rb_At z rb_vM w 5 (rb_Q z rb_vM w none σ9) 0 [(0, .ref (rb_ad w 0)), (1, .int p0)] [] σ := by
  unfold xf_M_digitsOf at h
  refine rb_iload_n hC 1 dX12_digitsOf_0 rfl ?_
  refine rb_istore_n hC [(2, .int p0), (0, .ref (rb_ad w 0)), (1, .int p0)] dX12_digitsOf_1 (by decide) rfl ?_
  refine rb_aload_n hC 1 dX12_digitsOf_2 rfl ?_
  refine rb_getI hC fr_X12_283_11 rb_obM0 rfl dX12_digitsOf_3 ?_
  refine rb_iconst (x := 1) hC dX12_digitsOf_6 (by decide) ?_
  refine rb_isub hC dX12_digitsOf_7 ?_
  refine rb_istore_n hC [(3, .int ((σ.1 0 22) - 1)), (2, .int p0), (0, .ref (rb_ad w 0)), (1, .int p0)] dX12_digitsOf_8 (by decide) rfl ?_
  obtain ⟨s7, q8, h⟩ := rb_b1s h
  refine rb_sub (lv2 := [(0, .ref (rb_ad w 0)), (2, .int p0), (3, .int ((σ.1 0 22) - 1))]) [2, 1, 0] rfl ?_
  refine xt_M_digitsOf_9 hC  rb_FU p0 ((σ.1 0 22) - 1) σ _ q8 ?_
  refine rb_aload_n hC 0 dX12_digitsOf_42 rfl ?_
  refine rb_getI hC fr_X12_283_11 rb_obM0 rfl dX12_digitsOf_43 ?_
  refine rb_iconst (x := 1) hC dX12_digitsOf_46 (by decide) ?_
  refine rb_isub hC dX12_digitsOf_47 ?_
  refine rb_istore_n hC [(3, .int ((s7.1 0 22) - 1)), (0, .ref (rb_ad w 0))] dX12_digitsOf_48 (by decide) rfl ?_
  obtain ⟨s20, q21, h⟩ := rb_b1s h
  refine rb_sub (lv2 := [(0, .ref (rb_ad w 0)), (3, .int ((s7.1 0 22) - 1))]) [1, 0] rfl ?_
  refine xt_M_digitsOf_49 hC  rb_FU ((s7.1 0 22) - 1) s7 _ q21 ?_
  cases h
  exact rb_vret hC dX12_digitsOf_110
theorem xc_M_digitsOf (p0 : Int32) (σ : rb_St) (σ9 : rb_St) (h : xf_M_digitsOf p0 σ = some σ9) : rb_Con rb_vM yX12_digitsOf cX12_digitsOf 5 none 0 (fun w => [.ref (rb_ad w 0), .int p0]) σ (fun _ => none) σ9 := rb_Con.of (by decide +kernel) (fun _ => Nat.le_of_ble_eq_true rfl) (fun z w hC => xk_M_digitsOf hC p0 σ σ9 h)
def xf_M_swapDigits (p0 : Int32) (σ : rb_St) : Option (rb_St) := if rb_ib p0 7 then rb_b1 (xf_M_nextPlace p0 σ) fun r2 => if rb_ib r2 7 then rb_lt (rb_sI σ 27 p0.toNatClampNeg (σ.1 27 r2.toNatClampNeg)) (fun s5 => rb_b1 (xf_M_nextPlace p0 s5) fun r7 => if rb_ib r7 7 then rb_lt (rb_sI s5 27 r7.toNatClampNeg (σ.1 27 p0.toNatClampNeg)) (fun s10 => some s10) else none) else none else none
set_option maxHeartbeats 4000000 in
set_option maxRecDepth 100000 in
theorem xk_M_swapDigits {z : rb_Z} {w : rb_Wd} (hC : rb_Cx z rb_vM w RX12 cX12_swapDigits 3 none 1) (p0 : Int32) (σ : rb_St) (σ9 : rb_St) (h : xf_M_swapDigits p0 σ = some σ9) : rb_At z rb_vM w 3 (rb_Q z rb_vM w none σ9) 0 [(0, .ref (rb_ad w 0)), (1, .int p0)] [] σ := by
  unfold xf_M_swapDigits at h
  refine rb_aload_n hC 0 dX12_swapDigits_0 rfl ?_
  refine rb_getR hC fr_X12_93_11 rb_obM0 rfl dX12_swapDigits_1 ?_
  refine rb_iload_n hC 1 dX12_swapDigits_4 rfl ?_
  obtain ⟨g1, h⟩ := rb_gd h
  refine rb_iald hC rb_arM27 (rb_ibI g1) dX12_swapDigits_5 ?_
  refine rb_istore_n hC [(2, .int (σ.1 27 p0.toNatClampNeg)), (0, .ref (rb_ad w 0)), (1, .int p0)] dX12_swapDigits_6 (by decide) rfl ?_
  refine rb_aload_n hC 1 dX12_swapDigits_7 rfl ?_
  refine rb_getR hC fr_X12_93_11 rb_obM0 rfl dX12_swapDigits_8 ?_
  refine rb_iload_n hC 2 dX12_swapDigits_11 rfl ?_
  refine rb_aload_n hC 1 dX12_swapDigits_12 rfl ?_
  refine rb_getR hC fr_X12_93_11 rb_obM0 rfl dX12_swapDigits_13 ?_
  refine rb_aload_n hC 1 dX12_swapDigits_16 rfl ?_
  refine rb_iload_n hC 2 dX12_swapDigits_17 rfl ?_
  obtain ⟨r2, q3, h⟩ := rb_b1s h
  refine rb_callVi hC rb_VokM mv_X12_308 (xc_M_nextPlace p0 σ _ q3) rb_obM0 rfl [.int p0] rfl rfl rfl ⟨Nat.le_of_ble_eq_true rfl, Nat.le_of_ble_eq_true rfl⟩ (Nat.le_of_ble_eq_true rfl) dX12_swapDigits_18 ?_
  obtain ⟨g4, h⟩ := rb_gd h
  refine rb_iald hC rb_arM27 (rb_ibI g4) dX12_swapDigits_21 ?_
  refine rb_iast hC rb_arM27 (rb_ibI g1) dX12_swapDigits_22 ?_
  obtain ⟨s5, e6, h⟩ := rb_ltE h
  refine rb_nmS e6 ?_
  refine rb_aload_n hC 1 dX12_swapDigits_23 rfl ?_
  refine rb_getR hC fr_X12_93_11 rb_obM0 rfl dX12_swapDigits_24 ?_
  refine rb_aload_n hC 1 dX12_swapDigits_27 rfl ?_
  refine rb_iload_n hC 2 dX12_swapDigits_28 rfl ?_
  obtain ⟨r7, q8, h⟩ := rb_b1s h
  refine rb_callVi hC rb_VokM mv_X12_308 (xc_M_nextPlace p0 s5 _ q8) rb_obM0 rfl [.int p0] rfl rfl rfl ⟨Nat.le_of_ble_eq_true rfl, Nat.le_of_ble_eq_true rfl⟩ (Nat.le_of_ble_eq_true rfl) dX12_swapDigits_29 ?_
  refine rb_iload_n hC 0 dX12_swapDigits_32 rfl ?_
  obtain ⟨g9, h⟩ := rb_gd h
  refine rb_iast hC rb_arM27 (rb_ibI g9) dX12_swapDigits_33 ?_
  obtain ⟨s10, e11, h⟩ := rb_ltE h
  refine rb_nmS e11 ?_
  cases h
  exact rb_vret hC dX12_swapDigits_34
theorem xc_M_swapDigits (p0 : Int32) (σ : rb_St) (σ9 : rb_St) (h : xf_M_swapDigits p0 σ = some σ9) : rb_Con rb_vM yX12_swapDigits cX12_swapDigits 3 none 1 (fun w => [.ref (rb_ad w 0), .int p0]) σ (fun _ => none) σ9 := rb_Con.of (by decide +kernel) (fun _ => Nat.le_of_ble_eq_true rfl) (fun z w hC => xk_M_swapDigits hC p0 σ σ9 h)
def xl_M_isOrder_12 (x1 : Int32) : Nat → Int32 → Int32 → Int32 → rb_St → Option (Int32 × Int32 × rb_St)
  | 0, _, _, _, _ => none
  | n + 1, x2, x3, x4, σ => if x4 < 0 then some (x2, x3, σ) else if rb_ib x4 7 then rb_lt (rb_sI σ 27 x4.toNatClampNeg (x2 - x2 / 10 * 10)) (fun s3 => rb_lt (x3 ||| (1 <<< ((s3.1 27 x4.toNatClampNeg) &&& 31))) (fun v5 => xl_M_isOrder_12 x1 n (x2 / 10) v5 (x4 + (-1)) s3)) else none
set_option maxHeartbeats 4000000 in
set_option maxRecDepth 100000 in
theorem xt_M_isOrder_12 {z : rb_Z} {w : rb_Wd} {Q : State → Prop} (hC : rb_Cx z rb_vM w RX12 cX12_isOrder 5 (some .boolean) 0) (x1 : Int32) : ∀ (n : Nat) (x2 : Int32) (x3 : Int32) (x4 : Int32) (σ : rb_St) (y2 : Int32) (y3 : Int32) (σ9 : rb_St), xl_M_isOrder_12 x1 n x2 x3 x4 σ = some (y2, y3, σ9) → rb_At z rb_vM w 5 Q 51 [(0, .ref (rb_ad w 0)), (1, .int x1), (2, .int y2), (3, .int y3)] [] σ9 → rb_At z rb_vM w 5 Q 12 [(0, .ref (rb_ad w 0)), (1, .int x1), (2, .int x2), (3, .int x3), (4, .int x4)] [] σ := by
  intro n
  induction n with
  | zero =>
    intro x2 x3 x4 σ y2 y3 σ9 h hE0
    cases h
  | succ n ih =>
    intro x2 x3 x4 σ y2 y3 σ9 h hE0
    rw [xl_M_isOrder_12] at h
    refine rb_iload hC 4 dX12_isOrder_12 rfl ?_
    refine rb_if_lt hC 51 dX12_isOrder_14 (by decide) (fun c1 => ?_) (fun c1 => ?_)
    · replace h := rb_ifp c1 h
      cases h
      exact rb_sub [0, 1, 2, 3] rfl (hE0)
    · replace h := rb_ifn c1 h
      refine rb_aload_n hC 0 dX12_isOrder_17 rfl ?_
      refine rb_getR hC fr_X12_93_11 rb_obM0 rfl dX12_isOrder_18 ?_
      refine rb_iload hC 4 dX12_isOrder_21 rfl ?_
      refine rb_iload_n hC 2 dX12_isOrder_23 rfl ?_
      refine rb_bipush (x := 10) hC dX12_isOrder_24 (by decide) ?_
      refine rb_irem hC dX12_isOrder_26 (by decide) ?_
      obtain ⟨g2, h⟩ := rb_gd h
      refine rb_iast hC rb_arM27 (rb_ibI g2) dX12_isOrder_27 ?_
      obtain ⟨s3, e4, h⟩ := rb_ltE h
      refine rb_nmS e4 ?_
      refine rb_iload_n hC 3 dX12_isOrder_28 rfl ?_
      refine rb_iconst (x := 1) hC dX12_isOrder_29 (by decide) ?_
      refine rb_aload_n hC 0 dX12_isOrder_30 rfl ?_
      refine rb_getR hC fr_X12_93_11 rb_obM0 rfl dX12_isOrder_31 ?_
      refine rb_iload hC 4 dX12_isOrder_34 rfl ?_
      refine rb_iald hC rb_arM27 (rb_ibI g2) dX12_isOrder_36 ?_
      refine rb_ishl hC dX12_isOrder_37 ?_
      refine rb_ior hC dX12_isOrder_38 ?_
      obtain ⟨v5, e6, h⟩ := rb_ltE h
      refine rb_nmI e6 ?_
      refine rb_istore_n hC [(3, .int v5), (0, .ref (rb_ad w 0)), (1, .int x1), (2, .int x2), (4, .int x4)] dX12_isOrder_39 (by decide) rfl ?_
      refine rb_iload_n hC 3 dX12_isOrder_40 rfl ?_
      refine rb_bipush (x := 10) hC dX12_isOrder_41 (by decide) ?_
      refine rb_idiv hC dX12_isOrder_43 (by decide) ?_
      refine rb_istore_n hC [(2, .int (x2 / 10)), (3, .int v5), (0, .ref (rb_ad w 0)), (1, .int x1), (4, .int x4)] dX12_isOrder_44 (by decide) rfl ?_
      refine rb_iinc hC 4 [(4, .int (x4 + (-1))), (2, .int (x2 / 10)), (3, .int v5), (0, .ref (rb_ad w 0)), (1, .int x1)] dX12_isOrder_45 rfl rfl (by decide) rfl ?_
      refine rb_goto hC 12 dX12_isOrder_48 (by decide) ?_
      exact rb_sub [3, 4, 1, 2, 0] rfl (ih (x2 / 10) v5 (x4 + (-1)) s3 _ _ _ h hE0)
def xf_M_isOrder (p0 : Int32) (σ : rb_St) : Option (Int32 × rb_St) := rb_b3 (xl_M_isOrder_12 p0 rb_FU p0 0 ((σ.1 0 22) - 1) σ) fun y7 y8 s9 => if p0 < 0 then some (0, s9) else if y7 = 0 then if y8 = ((1 <<< ((s9.1 0 22) &&& 31)) - 1) then some (1, s9) else some (0, s9) else some (0, s9)
set_option maxHeartbeats 4000000 in
set_option maxRecDepth 100000 in
theorem xk_M_isOrder {z : rb_Z} {w : rb_Wd} (hC : rb_Cx z rb_vM w RX12 cX12_isOrder 5 (some .boolean) 0) (p0 : Int32) (σ : rb_St) (r : Int32) (σ9 : rb_St) (h : xf_M_isOrder p0 σ = some (r, σ9)) : rb_At z rb_vM w 5 (rb_Q z rb_vM w (some (.int r)) σ9) 0 [(0, .ref (rb_ad w 0)), (1, .int p0)] [] σ := by
  unfold xf_M_isOrder at h
  refine rb_iload_n hC 1 dX12_isOrder_0 rfl ?_
  refine rb_istore_n hC [(2, .int p0), (0, .ref (rb_ad w 0)), (1, .int p0)] dX12_isOrder_1 (by decide) rfl ?_
  refine rb_iconst (x := 0) hC dX12_isOrder_2 (by decide) ?_
  refine rb_istore_n hC [(3, .int 0), (2, .int p0), (0, .ref (rb_ad w 0)), (1, .int p0)] dX12_isOrder_3 (by decide) rfl ?_
  refine rb_aload_n hC 2 dX12_isOrder_4 rfl ?_
  refine rb_getI hC fr_X12_283_11 rb_obM0 rfl dX12_isOrder_5 ?_
  refine rb_iconst (x := 1) hC dX12_isOrder_8 (by decide) ?_
  refine rb_isub hC dX12_isOrder_9 ?_
  refine rb_istore hC [(4, .int ((σ.1 0 22) - 1)), (3, .int 0), (2, .int p0), (0, .ref (rb_ad w 0)), (1, .int p0)] dX12_isOrder_10 (by decide) rfl ?_
  obtain ⟨y7, y8, s9, q10, h⟩ := rb_b3s h
  refine rb_sub (lv2 := [(0, .ref (rb_ad w 0)), (1, .int p0), (2, .int p0), (3, .int 0), (4, .int ((σ.1 0 22) - 1))]) [3, 4, 2, 1, 0] rfl ?_
  refine xt_M_isOrder_12 hC p0 rb_FU p0 0 ((σ.1 0 22) - 1) σ _ _ _ q10 ?_
  refine rb_iload_n hC 1 dX12_isOrder_51 rfl ?_
  refine rb_if_lt hC 75 dX12_isOrder_52 (by decide) (fun c11 => ?_) (fun c11 => ?_)
  · replace h := rb_ifp c11 h
    refine rb_iconst (x := 0) hC dX12_isOrder_75 (by decide) ?_
    cases h
    exact rb_zret hC rfl dX12_isOrder_76
  · replace h := rb_ifn c11 h
    refine rb_iload_n hC 2 dX12_isOrder_55 rfl ?_
    refine rb_if_ne hC 75 dX12_isOrder_56 (by decide) (fun c12 => ?_) (fun c12 => ?_)
    · replace h := rb_ifn c12 h
      refine rb_iconst (x := 0) hC dX12_isOrder_75 (by decide) ?_
      cases h
      exact rb_zret hC rfl dX12_isOrder_76
    · replace h := rb_ifp c12 h
      refine rb_iload_n hC 3 dX12_isOrder_59 rfl ?_
      refine rb_iconst (x := 1) hC dX12_isOrder_60 (by decide) ?_
      refine rb_aload_n hC 0 dX12_isOrder_61 rfl ?_
      refine rb_getI hC fr_X12_283_11 rb_obM0 rfl dX12_isOrder_62 ?_
      refine rb_ishl hC dX12_isOrder_65 ?_
      refine rb_iconst (x := 1) hC dX12_isOrder_66 (by decide) ?_
      refine rb_isub hC dX12_isOrder_67 ?_
      refine rb_icmp_ne hC 75 dX12_isOrder_68 (by decide) (fun c13 => ?_) (fun c13 => ?_)
      · replace h := rb_ifn c13 h
        refine rb_iconst (x := 0) hC dX12_isOrder_75 (by decide) ?_
        cases h
        exact rb_zret hC rfl dX12_isOrder_76
      · replace h := rb_ifp c13 h
        refine rb_iconst (x := 1) hC dX12_isOrder_71 (by decide) ?_
        refine rb_goto hC 76 dX12_isOrder_72 (by decide) ?_
        cases h
        exact rb_zret hC rfl dX12_isOrder_76
theorem xc_M_isOrder (p0 : Int32) (σ : rb_St) (r : Int32) (σ9 : rb_St) (h : xf_M_isOrder p0 σ = some (r, σ9)) : rb_Con rb_vM yX12_isOrder cX12_isOrder 5 (some .boolean) 0 (fun w => [.ref (rb_ad w 0), .int p0]) σ (fun _ => (some (.int r))) σ9 := rb_Con.of (by decide +kernel) (fun _ => Nat.le_of_ble_eq_true rfl) (fun z w hC => xk_M_isOrder hC p0 σ r σ9 h)
theorem fr_X12_87_11 : rb_FR RX12 87 11 39 := ⟨RX12, TX12, 50, "RibbonPoleModel", rfl, rb_uX12, by decide, rb_in (by decide +kernel) (by decide +kernel), Or.inl rfl⟩
theorem fr_X12_90_11 : rb_FR RX12 90 11 40 := ⟨RX12, TX12, 50, "RibbonPoleModel", rfl, rb_uX12, by decide, rb_in (by decide +kernel) (by decide +kernel), Or.inl rfl⟩
theorem me_X12_numberOf : Cond.instanceMethod yX12_numberOf ∈ rb_tbl ∧ Cond.selects yX12_numberOf.cls yX12_numberOf yX12_numberOf ∈ rb_tbl ∧ Cond.initialized yX12_numberOf.cls ∈ rb_tbl ∧ Cond.code yX12_numberOf cX12_numberOf 5 (some .int) ∈ rb_tbl ∧ rb_pn yX12_numberOf 0 := ⟨rb_in (by decide +kernel) (by decide +kernel), rb_in (by decide +kernel) (by decide +kernel), rb_in (by decide +kernel) (by decide +kernel), rb_in (by decide +kernel) (by decide +kernel), by decide +kernel, by decide +kernel, by decide +kernel⟩
theorem mv_X12_450 : rb_MV RX12 450 yX12_numberOf cX12_numberOf 5 (some .int) 0 := ⟨rb_in (by decide +kernel) (by decide +kernel), me_X12_numberOf⟩
theorem me_X12_digitsOf : Cond.instanceMethod yX12_digitsOf ∈ rb_tbl ∧ Cond.selects yX12_digitsOf.cls yX12_digitsOf yX12_digitsOf ∈ rb_tbl ∧ Cond.initialized yX12_digitsOf.cls ∈ rb_tbl ∧ Cond.code yX12_digitsOf cX12_digitsOf 5 none ∈ rb_tbl ∧ rb_pn yX12_digitsOf 1 := ⟨rb_in (by decide +kernel) (by decide +kernel), rb_in (by decide +kernel) (by decide +kernel), rb_in (by decide +kernel) (by decide +kernel), rb_in (by decide +kernel) (by decide +kernel), by decide +kernel, by decide +kernel, by decide +kernel⟩
theorem mv_X12_453 : rb_MV RX12 453 yX12_digitsOf cX12_digitsOf 5 none 1 := ⟨rb_in (by decide +kernel) (by decide +kernel), me_X12_digitsOf⟩
theorem me_X12_swapDigits : Cond.instanceMethod yX12_swapDigits ∈ rb_tbl ∧ Cond.selects yX12_swapDigits.cls yX12_swapDigits yX12_swapDigits ∈ rb_tbl ∧ Cond.initialized yX12_swapDigits.cls ∈ rb_tbl ∧ Cond.code yX12_swapDigits cX12_swapDigits 3 none ∈ rb_tbl ∧ rb_pn yX12_swapDigits 1 := ⟨rb_in (by decide +kernel) (by decide +kernel), rb_in (by decide +kernel) (by decide +kernel), rb_in (by decide +kernel) (by decide +kernel), rb_in (by decide +kernel) (by decide +kernel), by decide +kernel, by decide +kernel, by decide +kernel⟩
theorem mv_X12_456 : rb_MV RX12 456 yX12_swapDigits cX12_swapDigits 3 none 1 := ⟨rb_in (by decide +kernel) (by decide +kernel), me_X12_swapDigits⟩
def xl_M_layFar_2  : Nat → Int32 → rb_St → Option (rb_St)
  | 0, _, _ => none
  | n + 1, x1, σ => if 5040 ≤ x1 then some σ else if rb_ib x1 5040 then rb_lt (rb_sI σ 25 x1.toNatClampNeg (-1)) (fun s3 => xl_M_layFar_2 n (x1 + 1) s3) else none
set_option maxHeartbeats 4000000 in
set_option maxRecDepth 100000 in
theorem xt_M_layFar_2 {z : rb_Z} {w : rb_Wd} {Q : State → Prop} (hC : rb_Cx z rb_vM w RX12 cX12_layFar 5 none 2)  : ∀ (n : Nat) (x1 : Int32) (σ : rb_St) (σ9 : rb_St), xl_M_layFar_2 n x1 σ = some σ9 → rb_At z rb_vM w 5 Q 22 [(0, .ref (rb_ad w 0))] [] σ9 → rb_At z rb_vM w 5 Q 2 [(0, .ref (rb_ad w 0)), (1, .int x1)] [] σ := by
  intro n
  induction n with
  | zero =>
    intro x1 σ σ9 h hE0
    cases h
  | succ n ih =>
    intro x1 σ σ9 h hE0
    rw [xl_M_layFar_2] at h
    refine rb_iload_n hC 1 dX12_layFar_2 rfl ?_
    refine rb_sipush (x := 5040) hC dX12_layFar_3 (by decide) ?_
    refine rb_icmp_ge hC 22 dX12_layFar_6 (by decide) (fun c1 => ?_) (fun c1 => ?_)
    · replace h := rb_ifp c1 h
      cases h
      exact rb_sub [0] rfl (hE0)
    · replace h := rb_ifn c1 h
      refine rb_aload_n hC 0 dX12_layFar_9 rfl ?_
      refine rb_getR hC fr_X12_87_11 rb_obM0 rfl dX12_layFar_10 ?_
      refine rb_iload_n hC 1 dX12_layFar_13 rfl ?_
      refine rb_iconst (x := (-1)) hC dX12_layFar_14 (by decide) ?_
      obtain ⟨g2, h⟩ := rb_gd h
      refine rb_iast hC rb_arM25 (rb_ibI g2) dX12_layFar_15 ?_
      obtain ⟨s3, e4, h⟩ := rb_ltE h
      refine rb_nmS e4 ?_
      refine rb_iinc hC 1 [(1, .int (x1 + 1)), (0, .ref (rb_ad w 0))] dX12_layFar_16 rfl rfl (by decide) rfl ?_
      refine rb_goto hC 2 dX12_layFar_19 (by decide) ?_
      exact rb_sub [1, 0] rfl (ih (x1 + 1) s3 _ h hE0)
def xl_M_layFar_55 (x2 : Int32) : Nat → Int32 → Int32 → rb_St → Option (Int32 × rb_St)
  | 0, _, _, _ => none
  | n + 1, x1, x3, σ => if (σ.1 0 22) ≤ x3 then some (x1, σ) else if rb_ib x2 5040 then rb_b1 (xf_M_digitsOf (σ.1 26 x2.toNatClampNeg) σ) fun s17 => rb_b1 (xf_M_swapDigits x3 s17) fun s19 => rb_b1 (xf_M_numberOf s19) fun r21 => if rb_ib r21 5040 then if (s19.1 25 r21.toNatClampNeg) = (-1) then if rb_ib (s19.1 26 x2.toNatClampNeg) 5040 then rb_lt (rb_sI s19 25 r21.toNatClampNeg ((s19.1 25 (s19.1 26 x2.toNatClampNeg).toNatClampNeg) + 1)) (fun s26 => if rb_ib x1 5040 then rb_lt (rb_sI s26 26 x1.toNatClampNeg r21) (fun s29 => xl_M_layFar_55 x2 n (x1 + 1) (x3 + 1) s29) else none) else none else xl_M_layFar_55 x2 n x1 (x3 + 1) s19 else none else none
set_option maxHeartbeats 4000000 in
set_option maxRecDepth 100000 in
theorem xt_M_layFar_55 {z : rb_Z} {w : rb_Wd} {Q : State → Prop} (hC : rb_Cx z rb_vM w RX12 cX12_layFar 5 none 2) (x2 : Int32) : ∀ (n : Nat) (x1 : Int32) (x3 : Int32) (σ : rb_St) (y1 : Int32) (σ9 : rb_St), xl_M_layFar_55 x2 n x1 x3 σ = some (y1, σ9) → rb_At z rb_vM w 5 Q 132 [(0, .ref (rb_ad w 0)), (1, .int y1), (2, .int x2)] [] σ9 → rb_At z rb_vM w 5 Q 55 [(0, .ref (rb_ad w 0)), (1, .int x1), (2, .int x2), (3, .int x3)] [] σ := by
  intro n
  induction n with
  | zero =>
    intro x1 x3 σ y1 σ9 h hE0
    cases h
  | succ n ih =>
    intro x1 x3 σ y1 σ9 h hE0
    rw [xl_M_layFar_55] at h
    refine rb_iload_n hC 3 dX12_layFar_55 rfl ?_
    refine rb_aload_n hC 0 dX12_layFar_56 rfl ?_
    refine rb_getI hC fr_X12_283_11 rb_obM0 rfl dX12_layFar_57 ?_
    refine rb_icmp_ge hC 132 dX12_layFar_60 (by decide) (fun c15 => ?_) (fun c15 => ?_)
    · replace h := rb_ifp c15 h
      cases h
      exact rb_sub [0, 1, 2] rfl (hE0)
    · replace h := rb_ifn c15 h
      refine rb_aload_n hC 0 dX12_layFar_63 rfl ?_
      refine rb_aload_n hC 0 dX12_layFar_64 rfl ?_
      refine rb_getR hC fr_X12_90_11 rb_obM0 rfl dX12_layFar_65 ?_
      refine rb_iload_n hC 2 dX12_layFar_68 rfl ?_
      obtain ⟨g16, h⟩ := rb_gd h
      refine rb_iald hC rb_arM26 (rb_ibI g16) dX12_layFar_69 ?_
      obtain ⟨s17, q18, h⟩ := rb_b1s h
      refine rb_callVv hC rb_VokM mv_X12_453 (xc_M_digitsOf (σ.1 26 x2.toNatClampNeg) σ _ q18) rb_obM0 rfl [.int (σ.1 26 x2.toNatClampNeg)] rfl rfl rfl ⟨Nat.le_of_ble_eq_true rfl, Nat.le_of_ble_eq_true rfl⟩ (Nat.le_of_ble_eq_true rfl) dX12_layFar_70 ?_
      refine rb_aload_n hC 0 dX12_layFar_73 rfl ?_
      refine rb_iload_n hC 3 dX12_layFar_74 rfl ?_
      obtain ⟨s19, q20, h⟩ := rb_b1s h
      refine rb_callVv hC rb_VokM mv_X12_456 (xc_M_swapDigits x3 s17 _ q20) rb_obM0 rfl [.int x3] rfl rfl rfl ⟨Nat.le_of_ble_eq_true rfl, Nat.le_of_ble_eq_true rfl⟩ (Nat.le_of_ble_eq_true rfl) dX12_layFar_75 ?_
      refine rb_aload_n hC 0 dX12_layFar_78 rfl ?_
      obtain ⟨r21, q22, h⟩ := rb_b1s h
      refine rb_callVi hC rb_VokM mv_X12_450 (xc_M_numberOf  s19 _ q22) rb_obM0 rfl [] rfl rfl rfl ⟨Nat.le_of_ble_eq_true rfl, Nat.le_of_ble_eq_true rfl⟩ (Nat.le_of_ble_eq_true rfl) dX12_layFar_79 ?_
      refine rb_istore hC [(4, .int r21), (0, .ref (rb_ad w 0)), (1, .int x1), (2, .int x2), (3, .int x3)] dX12_layFar_82 (by decide) rfl ?_
      refine rb_aload_n hC 1 dX12_layFar_84 rfl ?_
      refine rb_getR hC fr_X12_87_11 rb_obM0 rfl dX12_layFar_85 ?_
      refine rb_iload hC 0 dX12_layFar_88 rfl ?_
      obtain ⟨g23, h⟩ := rb_gd h
      refine rb_iald hC rb_arM25 (rb_ibI g23) dX12_layFar_90 ?_
      refine rb_iconst (x := (-1)) hC dX12_layFar_91 (by decide) ?_
      refine rb_icmp_ne hC 126 dX12_layFar_92 (by decide) (fun c24 => ?_) (fun c24 => ?_)
      · replace h := rb_ifn c24 h
        refine rb_iinc hC 4 [(3, .int (x3 + 1)), (4, .int r21), (0, .ref (rb_ad w 0)), (1, .int x1), (2, .int x2)] dX12_layFar_126 rfl rfl (by decide) rfl ?_
        refine rb_goto hC 55 dX12_layFar_129 (by decide) ?_
        exact rb_sub [2, 3, 4, 0] rfl (ih x1 (x3 + 1) s19 _ _ h hE0)
      · replace h := rb_ifp c24 h
        refine rb_aload_n hC 1 dX12_layFar_95 rfl ?_
        refine rb_getR hC fr_X12_87_11 rb_obM0 rfl dX12_layFar_96 ?_
        refine rb_iload hC 0 dX12_layFar_99 rfl ?_
        refine rb_aload_n hC 1 dX12_layFar_101 rfl ?_
        refine rb_getR hC fr_X12_87_11 rb_obM0 rfl dX12_layFar_102 ?_
        refine rb_aload_n hC 1 dX12_layFar_105 rfl ?_
        refine rb_getR hC fr_X12_90_11 rb_obM0 rfl dX12_layFar_106 ?_
        refine rb_iload_n hC 3 dX12_layFar_109 rfl ?_
        refine rb_iald hC rb_arM26 (rb_ibI g16) dX12_layFar_110 ?_
        obtain ⟨g25, h⟩ := rb_gd h
        refine rb_iald hC rb_arM25 (rb_ibI g25) dX12_layFar_111 ?_
        refine rb_iconst (x := 1) hC dX12_layFar_112 (by decide) ?_
        refine rb_iadd hC dX12_layFar_113 ?_
        refine rb_iast hC rb_arM25 (rb_ibI g23) dX12_layFar_114 ?_
        obtain ⟨s26, e27, h⟩ := rb_ltE h
        refine rb_nmS e27 ?_
        refine rb_aload_n hC 1 dX12_layFar_115 rfl ?_
        refine rb_getR hC fr_X12_90_11 rb_obM0 rfl dX12_layFar_116 ?_
        refine rb_iload_n hC 2 dX12_layFar_119 rfl ?_
        refine rb_iload hC 0 dX12_layFar_120 rfl ?_
        obtain ⟨g28, h⟩ := rb_gd h
        refine rb_iast hC rb_arM26 (rb_ibI g28) dX12_layFar_122 ?_
        obtain ⟨s29, e30, h⟩ := rb_ltE h
        refine rb_nmS e30 ?_
        refine rb_iinc hC 2 [(1, .int (x1 + 1)), (4, .int r21), (0, .ref (rb_ad w 0)), (2, .int x2), (3, .int x3)] dX12_layFar_123 rfl rfl (by decide) rfl ?_
        refine rb_iinc hC 4 [(3, .int (x3 + 1)), (1, .int (x1 + 1)), (4, .int r21), (0, .ref (rb_ad w 0)), (2, .int x2)] dX12_layFar_126 rfl rfl (by decide) rfl ?_
        refine rb_goto hC 55 dX12_layFar_129 (by decide) ?_
        exact rb_sub [3, 1, 4, 0] rfl (ih (x1 + 1) (x3 + 1) s29 _ _ h hE0)
def xl_M_layFar_48  : Nat → Int32 → Int32 → rb_St → Option (rb_St)
  | 0, _, _, _ => none
  | n + 1, x1, x2, σ => if x1 ≤ x2 then some σ else rb_b2 (xl_M_layFar_55 x2 rb_FU x1 0 σ) fun y31 s32 => xl_M_layFar_48 n y31 (x2 + 1) s32
set_option maxHeartbeats 4000000 in
set_option maxRecDepth 100000 in
theorem xt_M_layFar_48 {z : rb_Z} {w : rb_Wd} {Q : State → Prop} (hC : rb_Cx z rb_vM w RX12 cX12_layFar 5 none 2)  : ∀ (n : Nat) (x1 : Int32) (x2 : Int32) (σ : rb_St) (σ9 : rb_St), xl_M_layFar_48 n x1 x2 σ = some σ9 → rb_At z rb_vM w 5 Q 138 [] [] σ9 → rb_At z rb_vM w 5 Q 48 [(0, .ref (rb_ad w 0)), (1, .int x1), (2, .int x2)] [] σ := by
  intro n
  induction n with
  | zero =>
    intro x1 x2 σ σ9 h hE0
    cases h
  | succ n ih =>
    intro x1 x2 σ σ9 h hE0
    rw [xl_M_layFar_48] at h
    refine rb_iload_n hC 2 dX12_layFar_48 rfl ?_
    refine rb_iload_n hC 1 dX12_layFar_49 rfl ?_
    refine rb_icmp_ge hC 138 dX12_layFar_50 (by decide) (fun c14 => ?_) (fun c14 => ?_)
    · replace h := rb_ifp c14 h
      cases h
      exact rb_sub [] rfl (hE0)
    · replace h := rb_ifn c14 h
      refine rb_iconst (x := 0) hC dX12_layFar_53 (by decide) ?_
      refine rb_istore_n hC [(3, .int 0), (0, .ref (rb_ad w 0)), (1, .int x1), (2, .int x2)] dX12_layFar_54 (by decide) rfl ?_
      obtain ⟨y31, s32, q33, h⟩ := rb_b2s h
      refine rb_sub (lv2 := [(0, .ref (rb_ad w 0)), (1, .int x1), (2, .int x2), (3, .int 0)]) [1, 2, 3, 0] rfl ?_
      refine xt_M_layFar_55 hC x2 rb_FU x1 0 σ _ _ q33 ?_
      refine rb_iinc hC 2 [(2, .int (x2 + 1)), (0, .ref (rb_ad w 0)), (1, .int y31)] dX12_layFar_132 rfl rfl (by decide) rfl ?_
      refine rb_goto hC 48 dX12_layFar_135 (by decide) ?_
      exact rb_sub [1, 2, 0] rfl (ih y31 (x2 + 1) s32 _ h hE0)
def xf_M_layFar  (σ : rb_St) : Option (rb_St) := rb_b1 (xl_M_layFar_2 rb_FU 0 σ) fun s5 => rb_b1 (xf_M_numberOf s5) fun r7 => rb_lt (rb_sI s5 26 0 r7) (fun s9 => if rb_ib (s9.1 26 0) 5040 then rb_lt (rb_sI s9 25 (s9.1 26 0).toNatClampNeg 0) (fun s12 => rb_b1 (xl_M_layFar_48 rb_FU 1 0 s12) fun s34 => some s34) else none)
set_option maxHeartbeats 4000000 in
set_option maxRecDepth 100000 in
theorem xk_M_layFar {z : rb_Z} {w : rb_Wd} (hC : rb_Cx z rb_vM w RX12 cX12_layFar 5 none 2)  (σ : rb_St) (σ9 : rb_St) (h : xf_M_layFar σ = some σ9) : rb_At z rb_vM w 5 (rb_Q z rb_vM w none σ9) 0 [(0, .ref (rb_ad w 0))] [] σ := by
  unfold xf_M_layFar at h
  refine rb_iconst (x := 0) hC dX12_layFar_0 (by decide) ?_
  refine rb_istore_n hC [(1, .int 0), (0, .ref (rb_ad w 0))] dX12_layFar_1 (by decide) rfl ?_
  obtain ⟨s5, q6, h⟩ := rb_b1s h
  refine rb_sub (lv2 := [(0, .ref (rb_ad w 0)), (1, .int 0)]) [1, 0] rfl ?_
  refine xt_M_layFar_2 hC  rb_FU 0 σ _ q6 ?_
  refine rb_iconst (x := 1) hC dX12_layFar_22 (by decide) ?_
  refine rb_istore_n hC [(1, .int 1), (0, .ref (rb_ad w 0))] dX12_layFar_23 (by decide) rfl ?_
  refine rb_aload_n hC 1 dX12_layFar_24 rfl ?_
  refine rb_getR hC fr_X12_90_11 rb_obM0 rfl dX12_layFar_25 ?_
  refine rb_iconst (x := 0) hC dX12_layFar_28 (by decide) ?_
  refine rb_aload_n hC 1 dX12_layFar_29 rfl ?_
  obtain ⟨r7, q8, h⟩ := rb_b1s h
  refine rb_callVi hC rb_VokM mv_X12_450 (xc_M_numberOf  s5 _ q8) rb_obM0 rfl [] rfl rfl rfl ⟨Nat.le_of_ble_eq_true rfl, Nat.le_of_ble_eq_true rfl⟩ (Nat.le_of_ble_eq_true rfl) dX12_layFar_30 ?_
  refine rb_iast hC rb_arM26 (rb_ibI (by decide)) dX12_layFar_33 ?_
  obtain ⟨s9, e10, h⟩ := rb_ltE h
  refine rb_nmS e10 ?_
  refine rb_aload_n hC 1 dX12_layFar_34 rfl ?_
  refine rb_getR hC fr_X12_87_11 rb_obM0 rfl dX12_layFar_35 ?_
  refine rb_aload_n hC 1 dX12_layFar_38 rfl ?_
  refine rb_getR hC fr_X12_90_11 rb_obM0 rfl dX12_layFar_39 ?_
  refine rb_iconst (x := 0) hC dX12_layFar_42 (by decide) ?_
  refine rb_iald hC rb_arM26 (rb_ibI (by decide)) dX12_layFar_43 ?_
  refine rb_iconst (x := 0) hC dX12_layFar_44 (by decide) ?_
  obtain ⟨g11, h⟩ := rb_gd h
  refine rb_iast hC rb_arM25 (rb_ibI g11) dX12_layFar_45 ?_
  obtain ⟨s12, e13, h⟩ := rb_ltE h
  refine rb_nmS e13 ?_
  refine rb_iconst (x := 0) hC dX12_layFar_46 (by decide) ?_
  refine rb_istore_n hC [(2, .int 0), (1, .int 1), (0, .ref (rb_ad w 0))] dX12_layFar_47 (by decide) rfl ?_
  obtain ⟨s34, q35, h⟩ := rb_b1s h
  refine rb_sub (lv2 := [(0, .ref (rb_ad w 0)), (1, .int 1), (2, .int 0)]) [2, 1, 0] rfl ?_
  refine xt_M_layFar_48 hC  rb_FU 1 0 s12 _ q35 ?_
  cases h
  exact rb_vret hC dX12_layFar_138
theorem xc_M_layFar  (σ : rb_St) (σ9 : rb_St) (h : xf_M_layFar σ = some σ9) : rb_Con rb_vM yX12_layFar cX12_layFar 5 none 2 (fun w => [.ref (rb_ad w 0)]) σ (fun _ => none) σ9 := rb_Con.of (by decide +kernel) (fun _ => Nat.le_of_ble_eq_true rfl) (fun z w hC => xk_M_layFar hC  σ σ9 h)
def xl_M_farNow_2 (x1 : Int32) : Nat → Int32 → rb_St → Option (rb_St)
  | 0, _, _ => none
  | n + 1, x2, σ => if (σ.1 0 22) ≤ x2 then some σ else if rb_ib (0 + x2) 398 then if rb_ib x2 7 then rb_lt (rb_sI σ 27 x2.toNatClampNeg (σ.1 17 (0 + x2).toNatClampNeg)) (fun s4 => xl_M_farNow_2 x1 n (x2 + 1) s4) else none else none
set_option maxHeartbeats 4000000 in
set_option maxRecDepth 100000 in
theorem xt_M_farNow_2 {z : rb_Z} {w : rb_Wd} {Q : State → Prop} (hC : rb_Cx z rb_vM w RX12 cX12_farNow 3 (some .int) 2) (x1 : Int32) : ∀ (n : Nat) (x2 : Int32) (σ : rb_St) (σ9 : rb_St), xl_M_farNow_2 x1 n x2 σ = some σ9 → rb_At z rb_vM w 3 Q 30 [(0, .ref (rb_ad w 0)), (1, .int x1)] [] σ9 → rb_At z rb_vM w 3 Q 2 [(0, .ref (rb_ad w 0)), (1, .int x1), (2, .int x2)] [] σ := by
  intro n
  induction n with
  | zero =>
    intro x2 σ σ9 h hE0
    cases h
  | succ n ih =>
    intro x2 σ σ9 h hE0
    rw [xl_M_farNow_2] at h
    refine rb_iload_n hC 2 dX12_farNow_2 rfl ?_
    refine rb_aload_n hC 0 dX12_farNow_3 rfl ?_
    refine rb_getI hC fr_X12_283_11 rb_obM0 rfl dX12_farNow_4 ?_
    refine rb_icmp_ge hC 30 dX12_farNow_7 (by decide) (fun c1 => ?_) (fun c1 => ?_)
    · replace h := rb_ifp c1 h
      cases h
      exact rb_sub [0, 1] rfl (hE0)
    · replace h := rb_ifn c1 h
      refine rb_aload_n hC 0 dX12_farNow_10 rfl ?_
      refine rb_getR hC fr_X12_93_11 rb_obM0 rfl dX12_farNow_11 ?_
      refine rb_iload_n hC 2 dX12_farNow_14 rfl ?_
      refine rb_aload_n hC 0 dX12_farNow_15 rfl ?_
      refine rb_getR hC fr_X12_58_11 rb_obM0 rfl dX12_farNow_16 ?_
      refine rb_iconst (x := 0) hC dX12_farNow_19 (by decide) ?_
      refine rb_iload_n hC 2 dX12_farNow_20 rfl ?_
      refine rb_iadd hC dX12_farNow_21 ?_
      obtain ⟨g2, h⟩ := rb_gd h
      refine rb_iald hC rb_arM17 (rb_ibI g2) dX12_farNow_22 ?_
      obtain ⟨g3, h⟩ := rb_gd h
      refine rb_iast hC rb_arM27 (rb_ibI g3) dX12_farNow_23 ?_
      obtain ⟨s4, e5, h⟩ := rb_ltE h
      refine rb_nmS e5 ?_
      refine rb_iinc hC 2 [(2, .int (x2 + 1)), (0, .ref (rb_ad w 0)), (1, .int x1)] dX12_farNow_24 rfl rfl (by decide) rfl ?_
      refine rb_goto hC 2 dX12_farNow_27 (by decide) ?_
      exact rb_sub [1, 2, 0] rfl (ih (x2 + 1) s4 _ h hE0)
def xf_M_farNow (p0 : Int32) (σ : rb_St) : Option (Int32 × rb_St) := rb_b1 (xl_M_farNow_2 p0 rb_FU 0 σ) fun s6 => if p0 = (-1) then rb_b1 (xf_M_numberOf s6) fun r9 => if rb_ib r9 5040 then some (s6.1 25 r9.toNatClampNeg, s6) else none else rb_b1 (xf_M_swapDigits p0 s6) fun s12 => rb_b1 (xf_M_numberOf s12) fun r14 => if rb_ib r14 5040 then some (s12.1 25 r14.toNatClampNeg, s12) else none
set_option maxHeartbeats 4000000 in
set_option maxRecDepth 100000 in
theorem xk_M_farNow {z : rb_Z} {w : rb_Wd} (hC : rb_Cx z rb_vM w RX12 cX12_farNow 3 (some .int) 2) (p0 : Int32) (σ : rb_St) (r : Int32) (σ9 : rb_St) (h : xf_M_farNow p0 σ = some (r, σ9)) : rb_At z rb_vM w 3 (rb_Q z rb_vM w (some (.int r)) σ9) 0 [(0, .ref (rb_ad w 0)), (1, .int p0)] [] σ := by
  unfold xf_M_farNow at h
  refine rb_iconst (x := 0) hC dX12_farNow_0 (by decide) ?_
  refine rb_istore_n hC [(2, .int 0), (0, .ref (rb_ad w 0)), (1, .int p0)] dX12_farNow_1 (by decide) rfl ?_
  obtain ⟨s6, q7, h⟩ := rb_b1s h
  refine rb_sub (lv2 := [(0, .ref (rb_ad w 0)), (1, .int p0), (2, .int 0)]) [1, 2, 0] rfl ?_
  refine xt_M_farNow_2 hC p0 rb_FU 0 σ _ q7 ?_
  refine rb_iload_n hC 1 dX12_farNow_30 rfl ?_
  refine rb_iconst (x := (-1)) hC dX12_farNow_31 (by decide) ?_
  refine rb_icmp_eq hC 40 dX12_farNow_32 (by decide) (fun c8 => ?_) (fun c8 => ?_)
  · replace h := rb_ifp c8 h
    refine rb_aload_n hC 0 dX12_farNow_40 rfl ?_
    refine rb_getR hC fr_X12_87_11 rb_obM0 rfl dX12_farNow_41 ?_
    refine rb_aload_n hC 0 dX12_farNow_44 rfl ?_
    obtain ⟨r9, q10, h⟩ := rb_b1s h
    refine rb_callVi hC rb_VokM mv_X12_450 (xc_M_numberOf  s6 _ q10) rb_obM0 rfl [] rfl rfl rfl ⟨Nat.le_of_ble_eq_true rfl, Nat.le_of_ble_eq_true rfl⟩ (Nat.le_of_ble_eq_true rfl) dX12_farNow_45 ?_
    obtain ⟨g11, h⟩ := rb_gd h
    refine rb_iald hC rb_arM25 (rb_ibI g11) dX12_farNow_48 ?_
    cases h
    exact rb_iret hC dX12_farNow_49
  · replace h := rb_ifn c8 h
    refine rb_aload_n hC 0 dX12_farNow_35 rfl ?_
    refine rb_iload_n hC 1 dX12_farNow_36 rfl ?_
    obtain ⟨s12, q13, h⟩ := rb_b1s h
    refine rb_callVv hC rb_VokM mv_X12_456 (xc_M_swapDigits p0 s6 _ q13) rb_obM0 rfl [.int p0] rfl rfl rfl ⟨Nat.le_of_ble_eq_true rfl, Nat.le_of_ble_eq_true rfl⟩ (Nat.le_of_ble_eq_true rfl) dX12_farNow_37 ?_
    refine rb_aload_n hC 0 dX12_farNow_40 rfl ?_
    refine rb_getR hC fr_X12_87_11 rb_obM0 rfl dX12_farNow_41 ?_
    refine rb_aload_n hC 0 dX12_farNow_44 rfl ?_
    obtain ⟨r14, q15, h⟩ := rb_b1s h
    refine rb_callVi hC rb_VokM mv_X12_450 (xc_M_numberOf  s12 _ q15) rb_obM0 rfl [] rfl rfl rfl ⟨Nat.le_of_ble_eq_true rfl, Nat.le_of_ble_eq_true rfl⟩ (Nat.le_of_ble_eq_true rfl) dX12_farNow_45 ?_
    obtain ⟨g16, h⟩ := rb_gd h
    refine rb_iald hC rb_arM25 (rb_ibI g16) dX12_farNow_48 ?_
    cases h
    exact rb_iret hC dX12_farNow_49
theorem xc_M_farNow (p0 : Int32) (σ : rb_St) (r : Int32) (σ9 : rb_St) (h : xf_M_farNow p0 σ = some (r, σ9)) : rb_Con rb_vM yX12_farNow cX12_farNow 3 (some .int) 2 (fun w => [.ref (rb_ad w 0), .int p0]) σ (fun _ => (some (.int r))) σ9 := rb_Con.of (by decide +kernel) (fun _ => Nat.le_of_ble_eq_true rfl) (fun z w hC => xk_M_farNow hC p0 σ r σ9 h)
theorem me_X12_isOrder : Cond.instanceMethod yX12_isOrder ∈ rb_tbl ∧ Cond.selects yX12_isOrder.cls yX12_isOrder yX12_isOrder ∈ rb_tbl ∧ Cond.initialized yX12_isOrder.cls ∈ rb_tbl ∧ Cond.code yX12_isOrder cX12_isOrder 5 (some .boolean) ∈ rb_tbl ∧ rb_pn yX12_isOrder 1 := ⟨rb_in (by decide +kernel) (by decide +kernel), rb_in (by decide +kernel) (by decide +kernel), rb_in (by decide +kernel) (by decide +kernel), rb_in (by decide +kernel) (by decide +kernel), by decide +kernel, by decide +kernel, by decide +kernel⟩
theorem mv_X12_459 : rb_MV RX12 459 yX12_isOrder cX12_isOrder 5 (some .boolean) 1 := ⟨rb_in (by decide +kernel) (by decide +kernel), me_X12_isOrder⟩
theorem me_X12_layFar : Cond.instanceMethod yX12_layFar ∈ rb_tbl ∧ Cond.selects yX12_layFar.cls yX12_layFar yX12_layFar ∈ rb_tbl ∧ Cond.initialized yX12_layFar.cls ∈ rb_tbl ∧ Cond.code yX12_layFar cX12_layFar 5 none ∈ rb_tbl ∧ rb_pn yX12_layFar 0 := ⟨rb_in (by decide +kernel) (by decide +kernel), rb_in (by decide +kernel) (by decide +kernel), rb_in (by decide +kernel) (by decide +kernel), rb_in (by decide +kernel) (by decide +kernel), by decide +kernel, by decide +kernel, by decide +kernel⟩
theorem mv_X12_462 : rb_MV RX12 462 yX12_layFar cX12_layFar 5 none 0 := ⟨rb_in (by decide +kernel) (by decide +kernel), me_X12_layFar⟩
theorem me_X12_farNow : Cond.instanceMethod yX12_farNow ∈ rb_tbl ∧ Cond.selects yX12_farNow.cls yX12_farNow yX12_farNow ∈ rb_tbl ∧ Cond.initialized yX12_farNow.cls ∈ rb_tbl ∧ Cond.code yX12_farNow cX12_farNow 3 (some .int) ∈ rb_tbl ∧ rb_pn yX12_farNow 1 := ⟨rb_in (by decide +kernel) (by decide +kernel), rb_in (by decide +kernel) (by decide +kernel), rb_in (by decide +kernel) (by decide +kernel), rb_in (by decide +kernel) (by decide +kernel), by decide +kernel, by decide +kernel, by decide +kernel⟩
theorem mv_X12_465 : rb_MV RX12 465 yX12_farNow cX12_farNow 3 (some .int) 1 := ⟨rb_in (by decide +kernel) (by decide +kernel), me_X12_farNow⟩
def xl_M_nearest_47 (x2 : Int32) (x3 : Int32) : Nat → Int32 → Int32 → rb_St → Option (Int32 × rb_St)
  | 0, _, _, _ => none
  | n + 1, x4, x5, σ => if x5 < 0 then some (x4, σ) else rb_b2 (xf_M_farNow x5 σ) fun r15 s13 => if r15 = (x3 - 1) then xl_M_nearest_47 x2 x3 n x5 (x5 + (-1)) s13 else xl_M_nearest_47 x2 x3 n x4 (x5 + (-1)) s13
set_option maxHeartbeats 4000000 in
set_option maxRecDepth 100000 in
theorem xt_M_nearest_47 {z : rb_Z} {w : rb_Wd} {Q : State → Prop} (hC : rb_Cx z rb_vM w RX12 cX12_nearest 6 (some .int) 3) (x2 : Int32) (x3 : Int32) : ∀ (n : Nat) (x4 : Int32) (x5 : Int32) (σ : rb_St) (y4 : Int32) (σ9 : rb_St), xl_M_nearest_47 x2 x3 n x4 x5 σ = some (y4, σ9) → rb_At z rb_vM w 6 Q 79 [(2, .int x2), (3, .int x3), (4, .int y4)] [] σ9 → rb_At z rb_vM w 6 Q 47 [(0, .ref (rb_ad w 0)), (2, .int x2), (3, .int x3), (4, .int x4), (5, .int x5)] [] σ := by
  intro n
  induction n with
  | zero =>
    intro x4 x5 σ y4 σ9 h hE0
    cases h
  | succ n ih =>
    intro x4 x5 σ y4 σ9 h hE0
    rw [xl_M_nearest_47] at h
    refine rb_iload hC 4 dX12_nearest_47 rfl ?_
    refine rb_if_lt hC 79 dX12_nearest_49 (by decide) (fun c12 => ?_) (fun c12 => ?_)
    · replace h := rb_ifp c12 h
      cases h
      exact rb_sub [1, 2, 3] rfl (hE0)
    · replace h := rb_ifn c12 h
      refine rb_aload_n hC 0 dX12_nearest_52 rfl ?_
      refine rb_iload hC 4 dX12_nearest_53 rfl ?_
      obtain ⟨r15, s13, q14, h⟩ := rb_b2s h
      refine rb_callVi hC rb_VokM mv_X12_465 (xc_M_farNow x5 σ _ _ q14) rb_obM0 rfl [.int x5] rfl rfl rfl ⟨Nat.le_of_ble_eq_true rfl, Nat.le_of_ble_eq_true rfl⟩ (Nat.le_of_ble_eq_true rfl) dX12_nearest_55 ?_
      refine rb_iload_n hC 2 dX12_nearest_58 rfl ?_
      refine rb_iconst (x := 1) hC dX12_nearest_59 (by decide) ?_
      refine rb_isub hC dX12_nearest_60 ?_
      refine rb_icmp_ne hC 69 dX12_nearest_61 (by decide) (fun c16 => ?_) (fun c16 => ?_)
      · replace h := rb_ifn c16 h
        refine rb_iload hC 3 dX12_nearest_69 rfl ?_
        refine rb_istore hC [(4, .int x4), (0, .ref (rb_ad w 0)), (2, .int x2), (3, .int x3), (5, .int x5)] dX12_nearest_71 (by decide) rfl ?_
        refine rb_iinc hC 4 [(5, .int (x5 + (-1))), (4, .int x4), (0, .ref (rb_ad w 0)), (2, .int x2), (3, .int x3)] dX12_nearest_73 rfl rfl (by decide) rfl ?_
        refine rb_goto hC 47 dX12_nearest_76 (by decide) ?_
        exact rb_sub [2, 3, 4, 1, 0] rfl (ih x4 (x5 + (-1)) s13 _ _ h hE0)
      · replace h := rb_ifp c16 h
        refine rb_iload hC 4 dX12_nearest_64 rfl ?_
        refine rb_goto hC 71 dX12_nearest_66 (by decide) ?_
        refine rb_istore hC [(4, .int x5), (0, .ref (rb_ad w 0)), (2, .int x2), (3, .int x3), (5, .int x5)] dX12_nearest_71 (by decide) rfl ?_
        refine rb_iinc hC 4 [(5, .int (x5 + (-1))), (4, .int x5), (0, .ref (rb_ad w 0)), (2, .int x2), (3, .int x3)] dX12_nearest_73 rfl rfl (by decide) rfl ?_
        refine rb_goto hC 47 dX12_nearest_76 (by decide) ?_
        exact rb_sub [2, 3, 4, 1, 0] rfl (ih x5 (x5 + (-1)) s13 _ _ h hE0)
def xf_M_nearest (p0 : Int32) (p1 : Int32) (σ : rb_St) : Option (Int32 × rb_St) := if (σ.1 0 22) = 0 then some ((-1), σ) else rb_b2 (xf_M_isOrder p0 σ) fun r4 s2 => if r4 = 0 then some ((-1), s2) else if (xf_M_in p1 0 1 s2) = 0 then some ((-1), s2) else rb_b1 (xf_M_layFar s2) fun s7 => rb_b2 (xf_M_farNow (-1) s7) fun r11 s9 => rb_b2 (xl_M_nearest_47 p1 r11 rb_FU (-1) ((s9.1 0 22) - 1) s9) fun y17 s18 => if p1 = 0 then some (r11, s18) else some (y17, s18)
set_option maxHeartbeats 4000000 in
set_option maxRecDepth 100000 in
theorem xk_M_nearest {z : rb_Z} {w : rb_Wd} (hC : rb_Cx z rb_vM w RX12 cX12_nearest 6 (some .int) 3) (p0 : Int32) (p1 : Int32) (σ : rb_St) (r : Int32) (σ9 : rb_St) (h : xf_M_nearest p0 p1 σ = some (r, σ9)) : rb_At z rb_vM w 6 (rb_Q z rb_vM w (some (.int r)) σ9) 0 [(0, .ref (rb_ad w 0)), (1, .int p0), (2, .int p1)] [] σ := by
  unfold xf_M_nearest at h
  refine rb_aload_n hC 0 dX12_nearest_0 rfl ?_
  refine rb_getI hC fr_X12_283_11 rb_obM0 rfl dX12_nearest_1 ?_
  refine rb_if_eq hC 24 dX12_nearest_4 (by decide) (fun c1 => ?_) (fun c1 => ?_)
  · replace h := rb_ifp c1 h
    refine rb_iconst (x := (-1)) hC dX12_nearest_24 (by decide) ?_
    cases h
    exact rb_iret hC dX12_nearest_25
  · replace h := rb_ifn c1 h
    refine rb_aload_n hC 0 dX12_nearest_7 rfl ?_
    refine rb_iload_n hC 1 dX12_nearest_8 rfl ?_
    obtain ⟨r4, s2, q3, h⟩ := rb_b2s h
    refine rb_callVi hC rb_VokM mv_X12_459 (xc_M_isOrder p0 σ _ _ q3) rb_obM0 rfl [.int p0] rfl rfl rfl ⟨Nat.le_of_ble_eq_true rfl, Nat.le_of_ble_eq_true rfl⟩ (Nat.le_of_ble_eq_true rfl) dX12_nearest_9 ?_
    refine rb_if_eq hC 24 dX12_nearest_12 (by decide) (fun c5 => ?_) (fun c5 => ?_)
    · replace h := rb_ifp c5 h
      refine rb_iconst (x := (-1)) hC dX12_nearest_24 (by decide) ?_
      cases h
      exact rb_iret hC dX12_nearest_25
    · replace h := rb_ifn c5 h
      refine rb_iload_n hC 2 dX12_nearest_15 rfl ?_
      refine rb_iconst (x := 0) hC dX12_nearest_16 (by decide) ?_
      refine rb_iconst (x := 1) hC dX12_nearest_17 (by decide) ?_
      refine rb_callSi hC rb_VokM mv_X12_229 (xc_M_in p1 0 1 s2 _ rfl) [.int p1, .int 0, .int 1] rfl rfl rfl ⟨Nat.le_of_ble_eq_true rfl, Nat.le_of_ble_eq_true rfl⟩ (Nat.le_of_ble_eq_true rfl) dX12_nearest_18 ?_
      refine rb_if_ne hC 26 dX12_nearest_21 (by decide) (fun c6 => ?_) (fun c6 => ?_)
      · replace h := rb_ifn c6 h
        refine rb_aload_n hC 0 dX12_nearest_26 rfl ?_
        obtain ⟨s7, q8, h⟩ := rb_b1s h
        refine rb_callVv hC rb_VokM mv_X12_462 (xc_M_layFar  s2 _ q8) rb_obM0 rfl [] rfl rfl rfl ⟨Nat.le_of_ble_eq_true rfl, Nat.le_of_ble_eq_true rfl⟩ (Nat.le_of_ble_eq_true rfl) dX12_nearest_27 ?_
        refine rb_aload_n hC 0 dX12_nearest_30 rfl ?_
        refine rb_iconst (x := (-1)) hC dX12_nearest_31 (by decide) ?_
        obtain ⟨r11, s9, q10, h⟩ := rb_b2s h
        refine rb_callVi hC rb_VokM mv_X12_465 (xc_M_farNow (-1) s7 _ _ q10) rb_obM0 rfl [.int (-1)] rfl rfl rfl ⟨Nat.le_of_ble_eq_true rfl, Nat.le_of_ble_eq_true rfl⟩ (Nat.le_of_ble_eq_true rfl) dX12_nearest_32 ?_
        refine rb_istore_n hC [(3, .int r11), (0, .ref (rb_ad w 0)), (1, .int p0), (2, .int p1)] dX12_nearest_35 (by decide) rfl ?_
        refine rb_iconst (x := (-1)) hC dX12_nearest_36 (by decide) ?_
        refine rb_istore hC [(4, .int (-1)), (3, .int r11), (0, .ref (rb_ad w 0)), (1, .int p0), (2, .int p1)] dX12_nearest_37 (by decide) rfl ?_
        refine rb_aload_n hC 2 dX12_nearest_39 rfl ?_
        refine rb_getI hC fr_X12_283_11 rb_obM0 rfl dX12_nearest_40 ?_
        refine rb_iconst (x := 1) hC dX12_nearest_43 (by decide) ?_
        refine rb_isub hC dX12_nearest_44 ?_
        refine rb_istore hC [(5, .int ((s9.1 0 22) - 1)), (4, .int (-1)), (3, .int r11), (0, .ref (rb_ad w 0)), (1, .int p0), (2, .int p1)] dX12_nearest_45 (by decide) rfl ?_
        obtain ⟨y17, s18, q19, h⟩ := rb_b2s h
        refine rb_sub (lv2 := [(0, .ref (rb_ad w 0)), (2, .int p1), (3, .int r11), (4, .int (-1)), (5, .int ((s9.1 0 22) - 1))]) [3, 5, 2, 1, 0] rfl ?_
        refine xt_M_nearest_47 hC p1 r11 rb_FU (-1) ((s9.1 0 22) - 1) s9 _ _ q19 ?_
        refine rb_iload_n hC 0 dX12_nearest_79 rfl ?_
        refine rb_if_ne hC 87 dX12_nearest_80 (by decide) (fun c20 => ?_) (fun c20 => ?_)
        · replace h := rb_ifn c20 h
          refine rb_iload hC 2 dX12_nearest_87 rfl ?_
          cases h
          exact rb_iret hC dX12_nearest_89
        · replace h := rb_ifp c20 h
          refine rb_iload_n hC 1 dX12_nearest_83 rfl ?_
          refine rb_goto hC 89 dX12_nearest_84 (by decide) ?_
          cases h
          exact rb_iret hC dX12_nearest_89
      · replace h := rb_ifp c6 h
        refine rb_iconst (x := (-1)) hC dX12_nearest_24 (by decide) ?_
        cases h
        exact rb_iret hC dX12_nearest_25
theorem xc_M_nearest (p0 : Int32) (p1 : Int32) (σ : rb_St) (r : Int32) (σ9 : rb_St) (h : xf_M_nearest p0 p1 σ = some (r, σ9)) : rb_Con rb_vM yX12_nearest cX12_nearest 6 (some .int) 3 (fun w => [.ref (rb_ad w 0), .int p0, .int p1]) σ (fun _ => (some (.int r))) σ9 := rb_Con.of (by decide +kernel) (fun _ => Nat.le_of_ble_eq_true rfl) (fun z w hC => xk_M_nearest hC p0 p1 σ r σ9 h)
theorem fr_X12_96_11 : rb_FR RX12 96 11 42 := ⟨RX12, TX12, 50, "RibbonPoleModel", rfl, rb_uX12, by decide, rb_in (by decide +kernel) (by decide +kernel), Or.inl rfl⟩
def xl_M_putAside_2  : Nat → Int32 → rb_St → Option (rb_St)
  | 0, _, _ => none
  | n + 1, x1, σ => if 217 ≤ x1 then some σ else if rb_ib x1 398 then if rb_ib x1 217 then rb_lt (rb_sI σ 28 x1.toNatClampNeg (σ.1 17 x1.toNatClampNeg)) (fun s4 => xl_M_putAside_2 n (x1 + 1) s4) else none else none
set_option maxHeartbeats 4000000 in
set_option maxRecDepth 100000 in
theorem xt_M_putAside_2 {z : rb_Z} {w : rb_Wd} {Q : State → Prop} (hC : rb_Cx z rb_vM w RX12 cX12_putAside 2 none 0)  : ∀ (n : Nat) (x1 : Int32) (σ : rb_St) (σ9 : rb_St), xl_M_putAside_2 n x1 σ = some σ9 → rb_At z rb_vM w 2 Q 27 [] [] σ9 → rb_At z rb_vM w 2 Q 2 [(0, .ref (rb_ad w 0)), (1, .int x1)] [] σ := by
  intro n
  induction n with
  | zero =>
    intro x1 σ σ9 h hE0
    cases h
  | succ n ih =>
    intro x1 σ σ9 h hE0
    rw [xl_M_putAside_2] at h
    refine rb_iload_n hC 1 dX12_putAside_2 rfl ?_
    refine rb_sipush (x := 217) hC dX12_putAside_3 (by decide) ?_
    refine rb_icmp_ge hC 27 dX12_putAside_6 (by decide) (fun c1 => ?_) (fun c1 => ?_)
    · replace h := rb_ifp c1 h
      cases h
      exact rb_sub [] rfl (hE0)
    · replace h := rb_ifn c1 h
      refine rb_aload_n hC 0 dX12_putAside_9 rfl ?_
      refine rb_getR hC fr_X12_96_11 rb_obM0 rfl dX12_putAside_10 ?_
      refine rb_iload_n hC 1 dX12_putAside_13 rfl ?_
      refine rb_aload_n hC 0 dX12_putAside_14 rfl ?_
      refine rb_getR hC fr_X12_58_11 rb_obM0 rfl dX12_putAside_15 ?_
      refine rb_iload_n hC 1 dX12_putAside_18 rfl ?_
      obtain ⟨g2, h⟩ := rb_gd h
      refine rb_iald hC rb_arM17 (rb_ibI g2) dX12_putAside_19 ?_
      obtain ⟨g3, h⟩ := rb_gd h
      refine rb_iast hC rb_arM28 (rb_ibI g3) dX12_putAside_20 ?_
      obtain ⟨s4, e5, h⟩ := rb_ltE h
      refine rb_nmS e5 ?_
      refine rb_iinc hC 1 [(1, .int (x1 + 1)), (0, .ref (rb_ad w 0))] dX12_putAside_21 rfl rfl (by decide) rfl ?_
      refine rb_goto hC 2 dX12_putAside_24 (by decide) ?_
      exact rb_sub [1, 0] rfl (ih (x1 + 1) s4 _ h hE0)
def xf_M_putAside  (σ : rb_St) : Option (rb_St) := rb_b1 (xl_M_putAside_2 rb_FU 0 σ) fun s6 => some s6
set_option maxHeartbeats 4000000 in
set_option maxRecDepth 100000 in
theorem xk_M_putAside {z : rb_Z} {w : rb_Wd} (hC : rb_Cx z rb_vM w RX12 cX12_putAside 2 none 0)  (σ : rb_St) (σ9 : rb_St) (h : xf_M_putAside σ = some σ9) : rb_At z rb_vM w 2 (rb_Q z rb_vM w none σ9) 0 [(0, .ref (rb_ad w 0))] [] σ := by
  unfold xf_M_putAside at h
  refine rb_iconst (x := 0) hC dX12_putAside_0 (by decide) ?_
  refine rb_istore_n hC [(1, .int 0), (0, .ref (rb_ad w 0))] dX12_putAside_1 (by decide) rfl ?_
  obtain ⟨s6, q7, h⟩ := rb_b1s h
  refine rb_sub (lv2 := [(0, .ref (rb_ad w 0)), (1, .int 0)]) [1, 0] rfl ?_
  refine xt_M_putAside_2 hC  rb_FU 0 σ _ q7 ?_
  cases h
  exact rb_vret hC dX12_putAside_27
theorem xc_M_putAside  (σ : rb_St) (σ9 : rb_St) (h : xf_M_putAside σ = some σ9) : rb_Con rb_vM yX12_putAside cX12_putAside 2 none 0 (fun w => [.ref (rb_ad w 0)]) σ (fun _ => none) σ9 := rb_Con.of (by decide +kernel) (fun _ => Nat.le_of_ble_eq_true rfl) (fun z w hC => xk_M_putAside hC  σ σ9 h)
def xl_M_takeBack_2  : Nat → Int32 → rb_St → Option (rb_St)
  | 0, _, _ => none
  | n + 1, x1, σ => if 217 ≤ x1 then some σ else if rb_ib x1 217 then if rb_ib x1 398 then rb_lt (rb_sI σ 17 x1.toNatClampNeg (σ.1 28 x1.toNatClampNeg)) (fun s4 => xl_M_takeBack_2 n (x1 + 1) s4) else none else none
set_option maxHeartbeats 4000000 in
set_option maxRecDepth 100000 in
theorem xt_M_takeBack_2 {z : rb_Z} {w : rb_Wd} {Q : State → Prop} (hC : rb_Cx z rb_vM w RX12 cX12_takeBack 2 none 0)  : ∀ (n : Nat) (x1 : Int32) (σ : rb_St) (σ9 : rb_St), xl_M_takeBack_2 n x1 σ = some σ9 → rb_At z rb_vM w 2 Q 27 [] [] σ9 → rb_At z rb_vM w 2 Q 2 [(0, .ref (rb_ad w 0)), (1, .int x1)] [] σ := by
  intro n
  induction n with
  | zero =>
    intro x1 σ σ9 h hE0
    cases h
  | succ n ih =>
    intro x1 σ σ9 h hE0
    rw [xl_M_takeBack_2] at h
    refine rb_iload_n hC 1 dX12_takeBack_2 rfl ?_
    refine rb_sipush (x := 217) hC dX12_takeBack_3 (by decide) ?_
    refine rb_icmp_ge hC 27 dX12_takeBack_6 (by decide) (fun c1 => ?_) (fun c1 => ?_)
    · replace h := rb_ifp c1 h
      cases h
      exact rb_sub [] rfl (hE0)
    · replace h := rb_ifn c1 h
      refine rb_aload_n hC 0 dX12_takeBack_9 rfl ?_
      refine rb_getR hC fr_X12_58_11 rb_obM0 rfl dX12_takeBack_10 ?_
      refine rb_iload_n hC 1 dX12_takeBack_13 rfl ?_
      refine rb_aload_n hC 0 dX12_takeBack_14 rfl ?_
      refine rb_getR hC fr_X12_96_11 rb_obM0 rfl dX12_takeBack_15 ?_
      refine rb_iload_n hC 1 dX12_takeBack_18 rfl ?_
      obtain ⟨g2, h⟩ := rb_gd h
      refine rb_iald hC rb_arM28 (rb_ibI g2) dX12_takeBack_19 ?_
      obtain ⟨g3, h⟩ := rb_gd h
      refine rb_iast hC rb_arM17 (rb_ibI g3) dX12_takeBack_20 ?_
      obtain ⟨s4, e5, h⟩ := rb_ltE h
      refine rb_nmS e5 ?_
      refine rb_iinc hC 1 [(1, .int (x1 + 1)), (0, .ref (rb_ad w 0))] dX12_takeBack_21 rfl rfl (by decide) rfl ?_
      refine rb_goto hC 2 dX12_takeBack_24 (by decide) ?_
      exact rb_sub [1, 0] rfl (ih (x1 + 1) s4 _ h hE0)
def xf_M_takeBack  (σ : rb_St) : Option (rb_St) := rb_b1 (xl_M_takeBack_2 rb_FU 0 σ) fun s6 => some s6
set_option maxHeartbeats 4000000 in
set_option maxRecDepth 100000 in
theorem xk_M_takeBack {z : rb_Z} {w : rb_Wd} (hC : rb_Cx z rb_vM w RX12 cX12_takeBack 2 none 0)  (σ : rb_St) (σ9 : rb_St) (h : xf_M_takeBack σ = some σ9) : rb_At z rb_vM w 2 (rb_Q z rb_vM w none σ9) 0 [(0, .ref (rb_ad w 0))] [] σ := by
  unfold xf_M_takeBack at h
  refine rb_iconst (x := 0) hC dX12_takeBack_0 (by decide) ?_
  refine rb_istore_n hC [(1, .int 0), (0, .ref (rb_ad w 0))] dX12_takeBack_1 (by decide) rfl ?_
  obtain ⟨s6, q7, h⟩ := rb_b1s h
  refine rb_sub (lv2 := [(0, .ref (rb_ad w 0)), (1, .int 0)]) [1, 0] rfl ?_
  refine xt_M_takeBack_2 hC  rb_FU 0 σ _ q7 ?_
  cases h
  exact rb_vret hC dX12_takeBack_27
theorem xc_M_takeBack  (σ : rb_St) (σ9 : rb_St) (h : xf_M_takeBack σ = some σ9) : rb_Con rb_vM yX12_takeBack cX12_takeBack 2 none 0 (fun w => [.ref (rb_ad w 0)]) σ (fun _ => none) σ9 := rb_Con.of (by decide +kernel) (fun _ => Nat.le_of_ble_eq_true rfl) (fun z w hC => xk_M_takeBack hC  σ σ9 h)
def xl_M_isDanced_2 (x1 : Int32) : Nat → Int32 → rb_St → Option (Nat × rb_St)
  | 0, _, _ => none
  | n + 1, x2, σ => if rb_ib x1 7 then if (σ.1 16 x1.toNatClampNeg) ≤ x2 then some (1, σ) else rb_b1 (xf_M_stepOf x1 x2 σ) fun r3 => rb_b2 (xf_M_canStep r3 σ) fun r7 s5 => if r7 = 0 then some (0, s5) else rb_b1 (xf_M_stepOf x1 x2 s5) fun r9 => rb_b2 (xf_M_live r9 s5) fun r13 s11 => xl_M_isDanced_2 x1 n (x2 + 1) s11 else none
set_option maxHeartbeats 4000000 in
set_option maxRecDepth 100000 in
theorem xt_M_isDanced_2 {z : rb_Z} {w : rb_Wd} {Q : State → Prop} (hC : rb_Cx z rb_vM w RX12 cX12_isDanced 3 (some .boolean) 9) (x1 : Int32) : ∀ (n : Nat) (x2 : Int32) (σ : rb_St) (t : Nat) (σ9 : rb_St), xl_M_isDanced_2 x1 n x2 σ = some (t, σ9) → (t = 0 → rb_At z rb_vM w 3 Q 25 [] [] σ9) → (t = 1 → rb_At z rb_vM w 3 Q 44 [] [] σ9) → rb_At z rb_vM w 3 Q 2 [(0, .ref (rb_ad w 0)), (1, .int x1), (2, .int x2)] [] σ := by
  intro n
  induction n with
  | zero =>
    intro x2 σ t σ9 h hE0 hE1
    cases h
  | succ n ih =>
    intro x2 σ t σ9 h hE0 hE1
    rw [xl_M_isDanced_2] at h
    refine rb_iload_n hC 2 dX12_isDanced_2 rfl ?_
    refine rb_aload_n hC 0 dX12_isDanced_3 rfl ?_
    refine rb_getR hC fr_X12_55_11 rb_obM0 rfl dX12_isDanced_4 ?_
    refine rb_iload_n hC 1 dX12_isDanced_7 rfl ?_
    obtain ⟨g1, h⟩ := rb_gd h
    refine rb_iald hC rb_arM16 (rb_ibI g1) dX12_isDanced_8 ?_
    refine rb_icmp_ge hC 44 dX12_isDanced_9 (by decide) (fun c2 => ?_) (fun c2 => ?_)
    · replace h := rb_ifp c2 h
      cases h
      exact rb_sub [] rfl (hE1 rfl)
    · replace h := rb_ifn c2 h
      refine rb_aload_n hC 0 dX12_isDanced_12 rfl ?_
      refine rb_aload_n hC 0 dX12_isDanced_13 rfl ?_
      refine rb_iload_n hC 1 dX12_isDanced_14 rfl ?_
      refine rb_iload_n hC 2 dX12_isDanced_15 rfl ?_
      obtain ⟨r3, q4, h⟩ := rb_b1s h
      refine rb_callVi hC rb_VokM mv_X12_410 (xc_M_stepOf x1 x2 σ _ q4) rb_obM0 rfl [.int x1, .int x2] rfl rfl rfl ⟨Nat.le_of_ble_eq_true rfl, Nat.le_of_ble_eq_true rfl⟩ (Nat.le_of_ble_eq_true rfl) dX12_isDanced_16 ?_
      obtain ⟨r7, s5, q6, h⟩ := rb_b2s h
      refine rb_callVi hC rb_VokM mv_X12_413 (xc_M_canStep r3 σ _ _ q6) rb_obM0 rfl [.int r3] rfl rfl rfl ⟨Nat.le_of_ble_eq_true rfl, Nat.le_of_ble_eq_true rfl⟩ (Nat.le_of_ble_eq_true rfl) dX12_isDanced_19 ?_
      refine rb_if_ne hC 27 dX12_isDanced_22 (by decide) (fun c8 => ?_) (fun c8 => ?_)
      · replace h := rb_ifn c8 h
        refine rb_aload_n hC 0 dX12_isDanced_27 rfl ?_
        refine rb_aload_n hC 0 dX12_isDanced_28 rfl ?_
        refine rb_iload_n hC 1 dX12_isDanced_29 rfl ?_
        refine rb_iload_n hC 2 dX12_isDanced_30 rfl ?_
        obtain ⟨r9, q10, h⟩ := rb_b1s h
        refine rb_callVi hC rb_VokM mv_X12_410 (xc_M_stepOf x1 x2 s5 _ q10) rb_obM0 rfl [.int x1, .int x2] rfl rfl rfl ⟨Nat.le_of_ble_eq_true rfl, Nat.le_of_ble_eq_true rfl⟩ (Nat.le_of_ble_eq_true rfl) dX12_isDanced_31 ?_
        obtain ⟨r13, s11, q12, h⟩ := rb_b2s h
        refine rb_callVi hC rb_VokM mv_X12_367 (xc_M_live r9 s5 _ _ q12) rb_obM0 rfl [.int r9] rfl rfl rfl ⟨Nat.le_of_ble_eq_true rfl, Nat.le_of_ble_eq_true rfl⟩ (Nat.le_of_ble_eq_true rfl) dX12_isDanced_34 ?_
        refine rb_pop hC dX12_isDanced_37 rfl ?_
        refine rb_iinc hC 2 [(2, .int (x2 + 1)), (0, .ref (rb_ad w 0)), (1, .int x1)] dX12_isDanced_38 rfl rfl (by decide) rfl ?_
        refine rb_goto hC 2 dX12_isDanced_41 (by decide) ?_
        exact rb_sub [1, 2, 0] rfl (ih (x2 + 1) s11 _ _ h hE0 hE1)
      · replace h := rb_ifp c8 h
        cases h
        exact rb_sub [] rfl (hE0 rfl)
def xf_M_isDanced (p0 : Int32) (σ : rb_St) : Option (Int32 × rb_St) := rb_b2 (xl_M_isDanced_2 p0 rb_FU 0 σ) fun t14 s15 => if t14 = 0 then some (0, s15) else some (1, s15)
set_option maxHeartbeats 4000000 in
set_option maxRecDepth 100000 in
theorem xk_M_isDanced {z : rb_Z} {w : rb_Wd} (hC : rb_Cx z rb_vM w RX12 cX12_isDanced 3 (some .boolean) 9) (p0 : Int32) (σ : rb_St) (r : Int32) (σ9 : rb_St) (h : xf_M_isDanced p0 σ = some (r, σ9)) : rb_At z rb_vM w 3 (rb_Q z rb_vM w (some (.int r)) σ9) 0 [(0, .ref (rb_ad w 0)), (1, .int p0)] [] σ := by
  unfold xf_M_isDanced at h
  refine rb_iconst (x := 0) hC dX12_isDanced_0 (by decide) ?_
  refine rb_istore_n hC [(2, .int 0), (0, .ref (rb_ad w 0)), (1, .int p0)] dX12_isDanced_1 (by decide) rfl ?_
  obtain ⟨t14, s15, q16, h⟩ := rb_b2s h
  refine rb_sub (lv2 := [(0, .ref (rb_ad w 0)), (1, .int p0), (2, .int 0)]) [1, 2, 0] rfl ?_
  refine xt_M_isDanced_2 hC p0 rb_FU 0 σ _ _ q16 (fun ht => ?_) (fun ht => ?_)
  · subst ht
    replace h := rb_ifp rfl h
    refine rb_iconst (x := 0) hC dX12_isDanced_25 (by decide) ?_
    cases h
    exact rb_zret hC rfl dX12_isDanced_26
  · subst ht
    replace h := rb_ifn (by decide) h
    refine rb_iconst (x := 1) hC dX12_isDanced_44 (by decide) ?_
    cases h
    exact rb_zret hC rfl dX12_isDanced_45
theorem xc_M_isDanced (p0 : Int32) (σ : rb_St) (r : Int32) (σ9 : rb_St) (h : xf_M_isDanced p0 σ = some (r, σ9)) : rb_Con rb_vM yX12_isDanced cX12_isDanced 3 (some .boolean) 9 (fun w => [.ref (rb_ad w 0), .int p0]) σ (fun _ => (some (.int r))) σ9 := rb_Con.of (by decide +kernel) (fun _ => Nat.le_of_ble_eq_true rfl) (fun z w hC => xk_M_isDanced hC p0 σ r σ9 h)
theorem me_X12_putAside : Cond.instanceMethod yX12_putAside ∈ rb_tbl ∧ Cond.selects yX12_putAside.cls yX12_putAside yX12_putAside ∈ rb_tbl ∧ Cond.initialized yX12_putAside.cls ∈ rb_tbl ∧ Cond.code yX12_putAside cX12_putAside 2 none ∈ rb_tbl ∧ rb_pn yX12_putAside 0 := ⟨rb_in (by decide +kernel) (by decide +kernel), rb_in (by decide +kernel) (by decide +kernel), rb_in (by decide +kernel) (by decide +kernel), rb_in (by decide +kernel) (by decide +kernel), by decide +kernel, by decide +kernel, by decide +kernel⟩
theorem mv_X12_468 : rb_MV RX12 468 yX12_putAside cX12_putAside 2 none 0 := ⟨rb_in (by decide +kernel) (by decide +kernel), me_X12_putAside⟩
theorem me_X12_isDanced : Cond.instanceMethod yX12_isDanced ∈ rb_tbl ∧ Cond.selects yX12_isDanced.cls yX12_isDanced yX12_isDanced ∈ rb_tbl ∧ Cond.initialized yX12_isDanced.cls ∈ rb_tbl ∧ Cond.code yX12_isDanced cX12_isDanced 3 (some .boolean) ∈ rb_tbl ∧ rb_pn yX12_isDanced 1 := ⟨rb_in (by decide +kernel) (by decide +kernel), rb_in (by decide +kernel) (by decide +kernel), rb_in (by decide +kernel) (by decide +kernel), rb_in (by decide +kernel) (by decide +kernel), by decide +kernel, by decide +kernel, by decide +kernel⟩
theorem mv_X12_471 : rb_MV RX12 471 yX12_isDanced cX12_isDanced 3 (some .boolean) 1 := ⟨rb_in (by decide +kernel) (by decide +kernel), me_X12_isDanced⟩
theorem me_X12_takeBack : Cond.instanceMethod yX12_takeBack ∈ rb_tbl ∧ Cond.selects yX12_takeBack.cls yX12_takeBack yX12_takeBack ∈ rb_tbl ∧ Cond.initialized yX12_takeBack.cls ∈ rb_tbl ∧ Cond.code yX12_takeBack cX12_takeBack 2 none ∈ rb_tbl ∧ rb_pn yX12_takeBack 0 := ⟨rb_in (by decide +kernel) (by decide +kernel), rb_in (by decide +kernel) (by decide +kernel), rb_in (by decide +kernel) (by decide +kernel), rb_in (by decide +kernel) (by decide +kernel), by decide +kernel, by decide +kernel, by decide +kernel⟩
theorem mv_X12_474 : rb_MV RX12 474 yX12_takeBack cX12_takeBack 2 none 0 := ⟨rb_in (by decide +kernel) (by decide +kernel), me_X12_takeBack⟩
def xl_M_times_16 (x1 : Int32) : Nat → Int32 → rb_St → Option (Int32 × rb_St)
  | 0, _, _ => none
  | n + 1, x2, σ => if 99 ≤ x2 then some (x2, σ) else rb_b2 (xf_M_isDanced x1 σ) fun r7 s5 => if r7 = 0 then some (x2, s5) else xl_M_times_16 x1 n (x2 + 1) s5
set_option maxHeartbeats 4000000 in
set_option maxRecDepth 100000 in
theorem xt_M_times_16 {z : rb_Z} {w : rb_Wd} {Q : State → Prop} (hC : rb_Cx z rb_vM w RX12 cX12_times 3 (some .int) 10) (x1 : Int32) : ∀ (n : Nat) (x2 : Int32) (σ : rb_St) (y2 : Int32) (σ9 : rb_St), xl_M_times_16 x1 n x2 σ = some (y2, σ9) → rb_At z rb_vM w 3 Q 36 [(0, .ref (rb_ad w 0)), (2, .int y2)] [] σ9 → rb_At z rb_vM w 3 Q 16 [(0, .ref (rb_ad w 0)), (1, .int x1), (2, .int x2)] [] σ := by
  intro n
  induction n with
  | zero =>
    intro x2 σ y2 σ9 h hE0
    cases h
  | succ n ih =>
    intro x2 σ y2 σ9 h hE0
    rw [xl_M_times_16] at h
    refine rb_iload_n hC 2 dX12_times_16 rfl ?_
    refine rb_bipush (x := 99) hC dX12_times_17 (by decide) ?_
    refine rb_icmp_ge hC 36 dX12_times_19 (by decide) (fun c4 => ?_) (fun c4 => ?_)
    · replace h := rb_ifp c4 h
      cases h
      exact rb_sub [0, 2] rfl (hE0)
    · replace h := rb_ifn c4 h
      refine rb_aload_n hC 0 dX12_times_22 rfl ?_
      refine rb_iload_n hC 1 dX12_times_23 rfl ?_
      obtain ⟨r7, s5, q6, h⟩ := rb_b2s h
      refine rb_callVi hC rb_VokM mv_X12_471 (xc_M_isDanced x1 σ _ _ q6) rb_obM0 rfl [.int x1] rfl rfl rfl ⟨Nat.le_of_ble_eq_true rfl, Nat.le_of_ble_eq_true rfl⟩ (Nat.le_of_ble_eq_true rfl) dX12_times_24 ?_
      refine rb_if_eq hC 36 dX12_times_27 (by decide) (fun c8 => ?_) (fun c8 => ?_)
      · replace h := rb_ifp c8 h
        cases h
        exact rb_sub [0, 2] rfl (hE0)
      · replace h := rb_ifn c8 h
        refine rb_iinc hC 2 [(2, .int (x2 + 1)), (0, .ref (rb_ad w 0)), (1, .int x1)] dX12_times_30 rfl rfl (by decide) rfl ?_
        refine rb_goto hC 16 dX12_times_33 (by decide) ?_
        exact rb_sub [1, 2, 0] rfl (ih (x2 + 1) s5 _ _ h hE0)
def xf_M_times (p0 : Int32) (σ : rb_St) : Option (Int32 × rb_St) := if (xf_M_isFigure p0 σ) = 0 then some ((-1), σ) else rb_b1 (xf_M_putAside σ) fun s2 => rb_b2 (xl_M_times_16 p0 rb_FU 0 s2) fun y9 s10 => rb_b1 (xf_M_takeBack s10) fun s12 => some (y9, s12)
set_option maxHeartbeats 4000000 in
set_option maxRecDepth 100000 in
theorem xk_M_times {z : rb_Z} {w : rb_Wd} (hC : rb_Cx z rb_vM w RX12 cX12_times 3 (some .int) 10) (p0 : Int32) (σ : rb_St) (r : Int32) (σ9 : rb_St) (h : xf_M_times p0 σ = some (r, σ9)) : rb_At z rb_vM w 3 (rb_Q z rb_vM w (some (.int r)) σ9) 0 [(0, .ref (rb_ad w 0)), (1, .int p0)] [] σ := by
  unfold xf_M_times at h
  refine rb_aload_n hC 0 dX12_times_0 rfl ?_
  refine rb_iload_n hC 1 dX12_times_1 rfl ?_
  refine rb_callVi hC rb_VokM mv_X12_407 (xc_M_isFigure p0 σ _ rfl) rb_obM0 rfl [.int p0] rfl rfl rfl ⟨Nat.le_of_ble_eq_true rfl, Nat.le_of_ble_eq_true rfl⟩ (Nat.le_of_ble_eq_true rfl) dX12_times_2 ?_
  refine rb_if_ne hC 10 dX12_times_5 (by decide) (fun c1 => ?_) (fun c1 => ?_)
  · replace h := rb_ifn c1 h
    refine rb_aload_n hC 0 dX12_times_10 rfl ?_
    obtain ⟨s2, q3, h⟩ := rb_b1s h
    refine rb_callVv hC rb_VokM mv_X12_468 (xc_M_putAside  σ _ q3) rb_obM0 rfl [] rfl rfl rfl ⟨Nat.le_of_ble_eq_true rfl, Nat.le_of_ble_eq_true rfl⟩ (Nat.le_of_ble_eq_true rfl) dX12_times_11 ?_
    refine rb_iconst (x := 0) hC dX12_times_14 (by decide) ?_
    refine rb_istore_n hC [(2, .int 0), (0, .ref (rb_ad w 0)), (1, .int p0)] dX12_times_15 (by decide) rfl ?_
    obtain ⟨y9, s10, q11, h⟩ := rb_b2s h
    refine rb_sub (lv2 := [(0, .ref (rb_ad w 0)), (1, .int p0), (2, .int 0)]) [1, 2, 0] rfl ?_
    refine xt_M_times_16 hC p0 rb_FU 0 s2 _ _ q11 ?_
    refine rb_aload_n hC 0 dX12_times_36 rfl ?_
    obtain ⟨s12, q13, h⟩ := rb_b1s h
    refine rb_callVv hC rb_VokM mv_X12_474 (xc_M_takeBack  s10 _ q13) rb_obM0 rfl [] rfl rfl rfl ⟨Nat.le_of_ble_eq_true rfl, Nat.le_of_ble_eq_true rfl⟩ (Nat.le_of_ble_eq_true rfl) dX12_times_37 ?_
    refine rb_iload_n hC 1 dX12_times_40 rfl ?_
    cases h
    exact rb_iret hC dX12_times_41
  · replace h := rb_ifp c1 h
    refine rb_iconst (x := (-1)) hC dX12_times_8 (by decide) ?_
    cases h
    exact rb_iret hC dX12_times_9
theorem xc_M_times (p0 : Int32) (σ : rb_St) (r : Int32) (σ9 : rb_St) (h : xf_M_times p0 σ = some (r, σ9)) : rb_Con rb_vM yX12_times cX12_times 3 (some .int) 10 (fun w => [.ref (rb_ad w 0), .int p0]) σ (fun _ => (some (.int r))) σ9 := rb_Con.of (by decide +kernel) (fun _ => Nat.le_of_ble_eq_true rfl) (fun z w hC => xk_M_times hC p0 σ r σ9 h)
theorem fr_X12_289_11 : rb_FR RX12 289 11 47 := ⟨RX12, TX12, 50, "RibbonPoleModel", rfl, rb_uX12, by decide, rb_in (by decide +kernel) (by decide +kernel), Or.inl rfl⟩
theorem fr_X12_99_11 : rb_FR RX12 99 11 43 := ⟨RX12, TX12, 50, "RibbonPoleModel", rfl, rb_uX12, by decide, rb_in (by decide +kernel) (by decide +kernel), Or.inl rfl⟩
theorem fr_X12_102_11 : rb_FR RX12 102 11 44 := ⟨RX12, TX12, 50, "RibbonPoleModel", rfl, rb_uX12, by decide, rb_in (by decide +kernel) (by decide +kernel), Or.inl rfl⟩
theorem fr_X12_105_11 : rb_FR RX12 105 11 45 := ⟨RX12, TX12, 50, "RibbonPoleModel", rfl, rb_uX12, by decide, rb_in (by decide +kernel) (by decide +kernel), Or.inl rfl⟩
theorem fr_X12_108_11 : rb_FR RX12 108 11 46 := ⟨RX12, TX12, 50, "RibbonPoleModel", rfl, rb_uX12, by decide, rb_in (by decide +kernel) (by decide +kernel), Or.inl rfl⟩
theorem ft_11_47 : rb_Ty 11 47 .int := ⟨RX12, TX12, 50, tyX12, rfl, tyX12_ok, nmX12, rfl, by decide +kernel⟩
def xf_M_seen (p0 : Int32) (p1 : Int32) (p2 : Int32) (p3 : Int32) (σ : rb_St) : Option (Int32 × rb_St) := rb_b1 (xf_M_isDancer p0 σ) fun r1 => if r1 = 0 then some ((-1), σ) else rb_b1 (xf_M_isDancer p1 σ) fun r4 => if r4 = 0 then some ((-1), σ) else if (xf_M_in p2 1 9 σ) = 0 then some ((-1), σ) else if (σ.1 0 47) = 10 then some ((-1), σ) else if rb_ib (σ.1 0 47) 10 then rb_lt (rb_sI σ 29 (σ.1 0 47).toNatClampNeg p0) (fun s10 => if rb_ib (s10.1 0 47) 10 then rb_lt (rb_sI s10 30 (s10.1 0 47).toNatClampNeg p1) (fun s13 => if rb_ib (s13.1 0 47) 10 then rb_lt (rb_sI s13 31 (s13.1 0 47).toNatClampNeg p2) (fun s16 => if rb_ib (s16.1 0 47) 10 then if rb_bz p3 then rb_lt (rb_sI s16 32 (s16.1 0 47).toNatClampNeg p3) (fun s19 => rb_lt (rb_sI s19 0 47 ((s19.1 0 47) + 1)) (fun s22 => some (s22.1 0 47, s22))) else none else none) else none) else none) else none
set_option maxHeartbeats 4000000 in
set_option maxRecDepth 100000 in
theorem xk_M_seen {z : rb_Z} {w : rb_Wd} (hC : rb_Cx z rb_vM w RX12 cX12_seen 5 (some .int) 2) (p0 : Int32) (p1 : Int32) (p2 : Int32) (p3 : Int32) (σ : rb_St) (r : Int32) (σ9 : rb_St) (h : xf_M_seen p0 p1 p2 p3 σ = some (r, σ9)) : rb_At z rb_vM w 5 (rb_Q z rb_vM w (some (.int r)) σ9) 0 [(0, .ref (rb_ad w 0)), (1, .int p0), (2, .int p1), (3, .int p2), (4, .int p3)] [] σ := by
  unfold xf_M_seen at h
  refine rb_aload_n hC 0 dX12_seen_0 rfl ?_
  refine rb_iload_n hC 1 dX12_seen_1 rfl ?_
  obtain ⟨r1, q2, h⟩ := rb_b1s h
  refine rb_callVi hC rb_VokM mv_X12_373 (xc_M_isDancer p0 σ _ q2) rb_obM0 rfl [.int p0] rfl rfl rfl ⟨Nat.le_of_ble_eq_true rfl, Nat.le_of_ble_eq_true rfl⟩ (Nat.le_of_ble_eq_true rfl) dX12_seen_2 ?_
  refine rb_if_eq hC 35 dX12_seen_5 (by decide) (fun c3 => ?_) (fun c3 => ?_)
  · replace h := rb_ifp c3 h
    refine rb_iconst (x := (-1)) hC dX12_seen_35 (by decide) ?_
    cases h
    exact rb_iret hC dX12_seen_36
  · replace h := rb_ifn c3 h
    refine rb_aload_n hC 0 dX12_seen_8 rfl ?_
    refine rb_iload_n hC 2 dX12_seen_9 rfl ?_
    obtain ⟨r4, q5, h⟩ := rb_b1s h
    refine rb_callVi hC rb_VokM mv_X12_373 (xc_M_isDancer p1 σ _ q5) rb_obM0 rfl [.int p1] rfl rfl rfl ⟨Nat.le_of_ble_eq_true rfl, Nat.le_of_ble_eq_true rfl⟩ (Nat.le_of_ble_eq_true rfl) dX12_seen_10 ?_
    refine rb_if_eq hC 35 dX12_seen_13 (by decide) (fun c6 => ?_) (fun c6 => ?_)
    · replace h := rb_ifp c6 h
      refine rb_iconst (x := (-1)) hC dX12_seen_35 (by decide) ?_
      cases h
      exact rb_iret hC dX12_seen_36
    · replace h := rb_ifn c6 h
      refine rb_iload_n hC 3 dX12_seen_16 rfl ?_
      refine rb_iconst (x := 1) hC dX12_seen_17 (by decide) ?_
      refine rb_bipush (x := 9) hC dX12_seen_18 (by decide) ?_
      refine rb_callSi hC rb_VokM mv_X12_229 (xc_M_in p2 1 9 σ _ rfl) [.int p2, .int 1, .int 9] rfl rfl rfl ⟨Nat.le_of_ble_eq_true rfl, Nat.le_of_ble_eq_true rfl⟩ (Nat.le_of_ble_eq_true rfl) dX12_seen_20 ?_
      refine rb_if_eq hC 35 dX12_seen_23 (by decide) (fun c7 => ?_) (fun c7 => ?_)
      · replace h := rb_ifp c7 h
        refine rb_iconst (x := (-1)) hC dX12_seen_35 (by decide) ?_
        cases h
        exact rb_iret hC dX12_seen_36
      · replace h := rb_ifn c7 h
        refine rb_aload_n hC 0 dX12_seen_26 rfl ?_
        refine rb_getI hC fr_X12_289_11 rb_obM0 rfl dX12_seen_27 ?_
        refine rb_bipush (x := 10) hC dX12_seen_30 (by decide) ?_
        refine rb_icmp_ne hC 37 dX12_seen_32 (by decide) (fun c8 => ?_) (fun c8 => ?_)
        · replace h := rb_ifn c8 h
          refine rb_aload_n hC 0 dX12_seen_37 rfl ?_
          refine rb_getR hC fr_X12_99_11 rb_obM0 rfl dX12_seen_38 ?_
          refine rb_aload_n hC 0 dX12_seen_41 rfl ?_
          refine rb_getI hC fr_X12_289_11 rb_obM0 rfl dX12_seen_42 ?_
          refine rb_iload_n hC 1 dX12_seen_45 rfl ?_
          obtain ⟨g9, h⟩ := rb_gd h
          refine rb_iast hC rb_arM29 (rb_ibI g9) dX12_seen_46 ?_
          obtain ⟨s10, e11, h⟩ := rb_ltE h
          refine rb_nmS e11 ?_
          refine rb_aload_n hC 0 dX12_seen_47 rfl ?_
          refine rb_getR hC fr_X12_102_11 rb_obM0 rfl dX12_seen_48 ?_
          refine rb_aload_n hC 0 dX12_seen_51 rfl ?_
          refine rb_getI hC fr_X12_289_11 rb_obM0 rfl dX12_seen_52 ?_
          refine rb_iload_n hC 2 dX12_seen_55 rfl ?_
          obtain ⟨g12, h⟩ := rb_gd h
          refine rb_iast hC rb_arM30 (rb_ibI g12) dX12_seen_56 ?_
          obtain ⟨s13, e14, h⟩ := rb_ltE h
          refine rb_nmS e14 ?_
          refine rb_aload_n hC 0 dX12_seen_57 rfl ?_
          refine rb_getR hC fr_X12_105_11 rb_obM0 rfl dX12_seen_58 ?_
          refine rb_aload_n hC 0 dX12_seen_61 rfl ?_
          refine rb_getI hC fr_X12_289_11 rb_obM0 rfl dX12_seen_62 ?_
          refine rb_iload_n hC 3 dX12_seen_65 rfl ?_
          obtain ⟨g15, h⟩ := rb_gd h
          refine rb_iast hC rb_arM31 (rb_ibI g15) dX12_seen_66 ?_
          obtain ⟨s16, e17, h⟩ := rb_ltE h
          refine rb_nmS e17 ?_
          refine rb_aload_n hC 0 dX12_seen_67 rfl ?_
          refine rb_getR hC fr_X12_108_11 rb_obM0 rfl dX12_seen_68 ?_
          refine rb_aload_n hC 0 dX12_seen_71 rfl ?_
          refine rb_getI hC fr_X12_289_11 rb_obM0 rfl dX12_seen_72 ?_
          refine rb_iload hC 4 dX12_seen_75 rfl ?_
          obtain ⟨g18, h⟩ := rb_gd h
          obtain ⟨g21, h⟩ := rb_gd h
          refine rb_zast hC rb_arM32 (rb_ibI g18) (rb_bzV g21) dX12_seen_77 ?_
          obtain ⟨s19, e20, h⟩ := rb_ltE h
          refine rb_nmS e20 ?_
          refine rb_aload_n hC 0 dX12_seen_78 rfl ?_
          refine rb_dup hC dX12_seen_79 rfl ?_
          refine rb_getI hC fr_X12_289_11 rb_obM0 rfl dX12_seen_80 ?_
          refine rb_iconst (x := 1) hC dX12_seen_83 (by decide) ?_
          refine rb_iadd hC dX12_seen_84 ?_
          refine rb_putI hC fr_X12_289_11 ft_11_47 rb_obM0 rfl rfl rfl dX12_seen_85 ?_
          obtain ⟨s22, e23, h⟩ := rb_ltE h
          refine rb_nmS e23 ?_
          refine rb_aload_n hC 0 dX12_seen_88 rfl ?_
          refine rb_getI hC fr_X12_289_11 rb_obM0 rfl dX12_seen_89 ?_
          cases h
          exact rb_iret hC dX12_seen_92
        · replace h := rb_ifp c8 h
          refine rb_iconst (x := (-1)) hC dX12_seen_35 (by decide) ?_
          cases h
          exact rb_iret hC dX12_seen_36
theorem xc_M_seen (p0 : Int32) (p1 : Int32) (p2 : Int32) (p3 : Int32) (σ : rb_St) (r : Int32) (σ9 : rb_St) (h : xf_M_seen p0 p1 p2 p3 σ = some (r, σ9)) : rb_Con rb_vM yX12_seen cX12_seen 5 (some .int) 2 (fun w => [.ref (rb_ad w 0), .int p0, .int p1, .int p2, .int p3]) σ (fun _ => (some (.int r))) σ9 := rb_Con.of (by decide +kernel) (fun _ => Nat.le_of_ble_eq_true rfl) (fun z w hC => xk_M_seen hC p0 p1 p2 p3 σ r σ9 h)
