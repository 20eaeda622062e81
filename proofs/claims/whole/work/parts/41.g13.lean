def xl_M_letOut_59 (x1 : Int32) (x2 : Int32) (x3 : Int32) : Nat → Int32 → rb_St → Option (rb_St)
  | 0, _, _ => none
  | n + 1, x4, σ => if x3 ≤ x4 then some σ else if rb_ib x3 88 then if (σ.1 21 x3.toNatClampNeg) = 0 then if rb_ib x4 88 then if (σ.1 21 x4.toNatClampNeg) = 0 then rb_lt (rb_sI σ 21 x3.toNatClampNeg 0) (fun s19 => xl_M_letOut_59 x1 x2 x3 n (x4 + 1) s19) else rb_b1 (xf_M_of x4 0 σ) fun r21 => rb_b1 (xf_M_of x3 0 σ) fun r23 => rb_b1 (xf_M_touch (r21 / 2) (r23 / 2) σ) fun r25 => if r25 = 0 then rb_lt (rb_sI σ 21 x3.toNatClampNeg 0) (fun s28 => xl_M_letOut_59 x1 x2 x3 n (x4 + 1) s28) else rb_lt (rb_sI σ 21 x3.toNatClampNeg 1) (fun s30 => xl_M_letOut_59 x1 x2 x3 n (x4 + 1) s30) else none else rb_lt (rb_sI σ 21 x3.toNatClampNeg 1) (fun s15 => xl_M_letOut_59 x1 x2 x3 n (x4 + 1) s15) else none
set_option maxHeartbeats 4000000 in
set_option maxRecDepth 100000 in
theorem xt_M_letOut_59 {z : rb_Z} {w : rb_Wd} {Q : State → Prop} (hC : rb_Cx z rb_vM w RX12 cX12_letOut 5 (some .int) 2) (x1 : Int32) (x2 : Int32) (x3 : Int32) : ∀ (n : Nat) (x4 : Int32) (σ : rb_St) (σ9 : rb_St), xl_M_letOut_59 x1 x2 x3 n x4 σ = some σ9 → rb_At z rb_vM w 5 Q 125 [(0, .ref (rb_ad w 0)), (1, .int x1), (2, .int x2), (3, .int x3)] [] σ9 → rb_At z rb_vM w 5 Q 59 [(0, .ref (rb_ad w 0)), (1, .int x1), (2, .int x2), (3, .int x3), (4, .int x4)] [] σ := by
  intro n
  induction n with
  | zero =>
    intro x4 σ σ9 h hE0
    cases h
  | succ n ih =>
    intro x4 σ σ9 h hE0
    rw [xl_M_letOut_59] at h
    refine rb_iload hC 4 dX12_letOut_59 rfl ?_
    refine rb_iload_n hC 3 dX12_letOut_61 rfl ?_
    refine rb_icmp_ge hC 125 dX12_letOut_62 (by decide) (fun c12 => ?_) (fun c12 => ?_)
    · replace h := rb_ifp c12 h
      cases h
      exact rb_sub [0, 1, 2, 3] rfl (hE0)
    · replace h := rb_ifn c12 h
      refine rb_aload_n hC 0 dX12_letOut_65 rfl ?_
      refine rb_getR hC fr_X12_74_11 rb_obM0 rfl dX12_letOut_66 ?_
      refine rb_iload_n hC 3 dX12_letOut_69 rfl ?_
      refine rb_aload_n hC 0 dX12_letOut_70 rfl ?_
      refine rb_getR hC fr_X12_74_11 rb_obM0 rfl dX12_letOut_71 ?_
      refine rb_iload_n hC 3 dX12_letOut_74 rfl ?_
      obtain ⟨g13, h⟩ := rb_gd h
      refine rb_zald hC rb_arM21 (rb_ibI g13) dX12_letOut_75 ?_
      refine rb_if_ne hC 113 dX12_letOut_76 (by decide) (fun c14 => ?_) (fun c14 => ?_)
      · replace h := rb_ifn c14 h
        refine rb_iconst (x := 1) hC dX12_letOut_113 (by decide) ?_
        refine rb_goto hC 118 dX12_letOut_114 (by decide) ?_
        refine rb_zast hC rb_arM21 (rb_ibI g13) rfl dX12_letOut_118 ?_
        obtain ⟨s15, e16, h⟩ := rb_ltE h
        refine rb_nmS e16 ?_
        refine rb_iinc hC 4 [(4, .int (x4 + 1)), (0, .ref (rb_ad w 0)), (1, .int x1), (2, .int x2), (3, .int x3)] dX12_letOut_119 rfl rfl (by decide) rfl ?_
        refine rb_goto hC 59 dX12_letOut_122 (by decide) ?_
        exact rb_sub [1, 2, 3, 4, 0] rfl (ih (x4 + 1) s15 _ h hE0)
      · replace h := rb_ifp c14 h
        refine rb_aload_n hC 0 dX12_letOut_79 rfl ?_
        refine rb_getR hC fr_X12_74_11 rb_obM0 rfl dX12_letOut_80 ?_
        refine rb_iload hC 4 dX12_letOut_83 rfl ?_
        obtain ⟨g17, h⟩ := rb_gd h
        refine rb_zald hC rb_arM21 (rb_ibI g17) dX12_letOut_85 ?_
        refine rb_if_eq hC 117 dX12_letOut_86 (by decide) (fun c18 => ?_) (fun c18 => ?_)
        · replace h := rb_ifp c18 h
          refine rb_iconst (x := 0) hC dX12_letOut_117 (by decide) ?_
          refine rb_zast hC rb_arM21 (rb_ibI g13) rfl dX12_letOut_118 ?_
          obtain ⟨s19, e20, h⟩ := rb_ltE h
          refine rb_nmS e20 ?_
          refine rb_iinc hC 4 [(4, .int (x4 + 1)), (0, .ref (rb_ad w 0)), (1, .int x1), (2, .int x2), (3, .int x3)] dX12_letOut_119 rfl rfl (by decide) rfl ?_
          refine rb_goto hC 59 dX12_letOut_122 (by decide) ?_
          exact rb_sub [1, 2, 3, 4, 0] rfl (ih (x4 + 1) s19 _ h hE0)
        · replace h := rb_ifn c18 h
          refine rb_aload_n hC 0 dX12_letOut_89 rfl ?_
          refine rb_aload_n hC 0 dX12_letOut_90 rfl ?_
          refine rb_iload hC 4 dX12_letOut_91 rfl ?_
          refine rb_iconst (x := 0) hC dX12_letOut_93 (by decide) ?_
          obtain ⟨r21, q22, h⟩ := rb_b1s h
          refine rb_callVi hC rb_VokM mv_X12_311 (xc_M_of x4 0 σ _ q22) rb_obM0 rfl [.int x4, .int 0] rfl rfl rfl ⟨Nat.le_of_ble_eq_true rfl, Nat.le_of_ble_eq_true rfl⟩ (Nat.le_of_ble_eq_true rfl) dX12_letOut_94 ?_
          refine rb_iconst (x := 2) hC dX12_letOut_97 (by decide) ?_
          refine rb_idiv hC dX12_letOut_98 (by decide) ?_
          refine rb_aload_n hC 0 dX12_letOut_99 rfl ?_
          refine rb_iload_n hC 3 dX12_letOut_100 rfl ?_
          refine rb_iconst (x := 0) hC dX12_letOut_101 (by decide) ?_
          obtain ⟨r23, q24, h⟩ := rb_b1s h
          refine rb_callVi hC rb_VokM mv_X12_311 (xc_M_of x3 0 σ _ q24) rb_obM0 rfl [.int x3, .int 0] rfl rfl rfl ⟨Nat.le_of_ble_eq_true rfl, Nat.le_of_ble_eq_true rfl⟩ (Nat.le_of_ble_eq_true rfl) dX12_letOut_102 ?_
          refine rb_iconst (x := 2) hC dX12_letOut_105 (by decide) ?_
          refine rb_idiv hC dX12_letOut_106 (by decide) ?_
          obtain ⟨r25, q26, h⟩ := rb_b1s h
          refine rb_callVi hC rb_VokM mv_X12_314 (xc_M_touch (r21 / 2) (r23 / 2) σ _ q26) rb_obM0 rfl [.int (r21 / 2), .int (r23 / 2)] rfl rfl rfl ⟨Nat.le_of_ble_eq_true rfl, Nat.le_of_ble_eq_true rfl⟩ (Nat.le_of_ble_eq_true rfl) dX12_letOut_107 ?_
          refine rb_if_eq hC 117 dX12_letOut_110 (by decide) (fun c27 => ?_) (fun c27 => ?_)
          · replace h := rb_ifp c27 h
            refine rb_iconst (x := 0) hC dX12_letOut_117 (by decide) ?_
            refine rb_zast hC rb_arM21 (rb_ibI g13) rfl dX12_letOut_118 ?_
            obtain ⟨s28, e29, h⟩ := rb_ltE h
            refine rb_nmS e29 ?_
            refine rb_iinc hC 4 [(4, .int (x4 + 1)), (0, .ref (rb_ad w 0)), (1, .int x1), (2, .int x2), (3, .int x3)] dX12_letOut_119 rfl rfl (by decide) rfl ?_
            refine rb_goto hC 59 dX12_letOut_122 (by decide) ?_
            exact rb_sub [1, 2, 3, 4, 0] rfl (ih (x4 + 1) s28 _ h hE0)
          · replace h := rb_ifn c27 h
            refine rb_iconst (x := 1) hC dX12_letOut_113 (by decide) ?_
            refine rb_goto hC 118 dX12_letOut_114 (by decide) ?_
            refine rb_zast hC rb_arM21 (rb_ibI g13) rfl dX12_letOut_118 ?_
            obtain ⟨s30, e31, h⟩ := rb_ltE h
            refine rb_nmS e31 ?_
            refine rb_iinc hC 4 [(4, .int (x4 + 1)), (0, .ref (rb_ad w 0)), (1, .int x1), (2, .int x2), (3, .int x3)] dX12_letOut_119 rfl rfl (by decide) rfl ?_
            refine rb_goto hC 59 dX12_letOut_122 (by decide) ?_
            exact rb_sub [1, 2, 3, 4, 0] rfl (ih (x4 + 1) s30 _ h hE0)
def xj_M_letOut_55 (rc : Int32 → Int32 → rb_St → Option (Int32 × rb_St)) (x1 : Int32) (x2 : Int32) (x3 : Int32) (u0 : Int32) (u1 : Int32) (σ : rb_St) : Option (Int32 × rb_St) := if rb_ib u1 88 then if rb_bz u0 then rb_lt (rb_sI σ 21 u1.toNatClampNeg u0) (fun s9 => rb_b1 (xl_M_letOut_59 x1 x2 x3 rb_FU 0 s9) fun s32 => if rb_ib x3 88 then if (s32.1 21 x3.toNatClampNeg) = 0 then rc (x2 + 0) (x3 + 1) s32 else rc (x2 + 1) (x3 + 1) s32 else none) else none else none
set_option maxHeartbeats 4000000 in
set_option maxRecDepth 100000 in
theorem xu_M_letOut_55 {z : rb_Z} {w : rb_Wd} {Q : State → Prop} (hC : rb_Cx z rb_vM w RX12 cX12_letOut 5 (some .int) 2)  (rc : Int32 → Int32 → rb_St → Option (Int32 × rb_St)) (x1 : Int32) (x2 : Int32) (x3 : Int32) (u0 : Int32) (u1 : Int32) (σ : rb_St) (y2 : Int32) (σ9 : rb_St) (h : xj_M_letOut_55 rc x1 x2 x3 u0 u1 σ = some (y2, σ9)) (hrc : ∀ (b2 : Int32) (b3 : Int32) (τ : rb_St), rc b2 b3 τ = some (y2, σ9) → rb_At z rb_vM w 5 Q 14 [(0, .ref (rb_ad w 0)), (1, .int x1), (2, .int b2), (3, .int b3)] [] τ) (hE0 : rb_At z rb_vM w 5 Q 148 [(2, .int y2)] [] σ9) : rb_At z rb_vM w 5 Q 55 [(0, .ref (rb_ad w 0)), (1, .int x1), (2, .int x2), (3, .int x3)] [.int u0, .int u1, .ref (rb_ad w 21)] σ := by
  unfold xj_M_letOut_55 at h
  obtain ⟨g8, h⟩ := rb_gd h
  obtain ⟨g11, h⟩ := rb_gd h
  refine rb_zast hC rb_arM21 (rb_ibI g8) (rb_bzV g11) dX12_letOut_55 ?_
  obtain ⟨s9, e10, h⟩ := rb_ltE h
  refine rb_nmS e10 ?_
  refine rb_iconst (x := 0) hC dX12_letOut_56 (by decide) ?_
  refine rb_istore hC [(4, .int 0), (0, .ref (rb_ad w 0)), (1, .int x1), (2, .int x2), (3, .int x3)] dX12_letOut_57 (by decide) rfl ?_
  obtain ⟨s32, q33, h⟩ := rb_b1s h
  refine rb_sub (lv2 := [(0, .ref (rb_ad w 0)), (1, .int x1), (2, .int x2), (3, .int x3), (4, .int 0)]) [1, 2, 3, 4, 0] rfl ?_
  refine xt_M_letOut_59 hC x1 x2 x3 rb_FU 0 s9 _ q33 ?_
  refine rb_iload_n hC 2 dX12_letOut_125 rfl ?_
  refine rb_aload_n hC 0 dX12_letOut_126 rfl ?_
  refine rb_getR hC fr_X12_74_11 rb_obM0 rfl dX12_letOut_127 ?_
  refine rb_iload_n hC 3 dX12_letOut_130 rfl ?_
  obtain ⟨g34, h⟩ := rb_gd h
  refine rb_zald hC rb_arM21 (rb_ibI g34) dX12_letOut_131 ?_
  refine rb_if_eq hC 139 dX12_letOut_132 (by decide) (fun c35 => ?_) (fun c35 => ?_)
  · replace h := rb_ifp c35 h
    refine rb_iconst (x := 0) hC dX12_letOut_139 (by decide) ?_
    refine rb_iadd hC dX12_letOut_140 ?_
    refine rb_istore_n hC [(2, .int (x2 + 0)), (0, .ref (rb_ad w 0)), (1, .int x1), (3, .int x3)] dX12_letOut_141 (by decide) rfl ?_
    refine rb_iinc hC 3 [(3, .int (x3 + 1)), (2, .int (x2 + 0)), (0, .ref (rb_ad w 0)), (1, .int x1)] dX12_letOut_142 rfl rfl (by decide) rfl ?_
    refine rb_goto hC 14 dX12_letOut_145 (by decide) ?_
    exact rb_sub [2, 3, 1, 0] rfl (hrc (x2 + 0) (x3 + 1) s32 h)
  · replace h := rb_ifn c35 h
    refine rb_iconst (x := 1) hC dX12_letOut_135 (by decide) ?_
    refine rb_goto hC 140 dX12_letOut_136 (by decide) ?_
    refine rb_iadd hC dX12_letOut_140 ?_
    refine rb_istore_n hC [(2, .int (x2 + 1)), (0, .ref (rb_ad w 0)), (1, .int x1), (3, .int x3)] dX12_letOut_141 (by decide) rfl ?_
    refine rb_iinc hC 3 [(3, .int (x3 + 1)), (2, .int (x2 + 1)), (0, .ref (rb_ad w 0)), (1, .int x1)] dX12_letOut_142 rfl rfl (by decide) rfl ?_
    refine rb_goto hC 14 dX12_letOut_145 (by decide) ?_
    exact rb_sub [2, 3, 1, 0] rfl (hrc (x2 + 1) (x3 + 1) s32 h)
def xl_M_letOut_14 (x1 : Int32) : Nat → Int32 → Int32 → rb_St → Option (Int32 × rb_St)
  | 0, _, _, _ => none
  | n + 1, x2, x3, σ => if (σ.1 17 14) ≤ x3 then some (x2, σ) else rb_b1 (xf_M_of x3 1 σ) fun r5 => if r5 = x1 then xj_M_letOut_55 (fun b2 b3 τ => xl_M_letOut_14 x1 n b2 b3 τ) x1 x2 x3 1 x3 σ else rb_b1 (xf_M_of x3 2 σ) fun r36 => if r36 = x1 then xj_M_letOut_55 (fun b2 b3 τ => xl_M_letOut_14 x1 n b2 b3 τ) x1 x2 x3 1 x3 σ else xj_M_letOut_55 (fun b2 b3 τ => xl_M_letOut_14 x1 n b2 b3 τ) x1 x2 x3 0 x3 σ
set_option maxHeartbeats 4000000 in
set_option maxRecDepth 100000 in
theorem xt_M_letOut_14 {z : rb_Z} {w : rb_Wd} {Q : State → Prop} (hC : rb_Cx z rb_vM w RX12 cX12_letOut 5 (some .int) 2) (x1 : Int32) : ∀ (n : Nat) (x2 : Int32) (x3 : Int32) (σ : rb_St) (y2 : Int32) (σ9 : rb_St), xl_M_letOut_14 x1 n x2 x3 σ = some (y2, σ9) → rb_At z rb_vM w 5 Q 148 [(2, .int y2)] [] σ9 → rb_At z rb_vM w 5 Q 14 [(0, .ref (rb_ad w 0)), (1, .int x1), (2, .int x2), (3, .int x3)] [] σ := by
  intro n
  induction n with
  | zero =>
    intro x2 x3 σ y2 σ9 h hE0
    cases h
  | succ n ih =>
    intro x2 x3 σ y2 σ9 h hE0
    rw [xl_M_letOut_14] at h
    refine rb_iload_n hC 3 dX12_letOut_14 rfl ?_
    refine rb_aload_n hC 0 dX12_letOut_15 rfl ?_
    refine rb_getR hC fr_X12_58_11 rb_obM0 rfl dX12_letOut_16 ?_
    refine rb_bipush (x := 14) hC dX12_letOut_19 (by decide) ?_
    refine rb_iald hC rb_arM17 (rb_ibI (by decide)) dX12_letOut_21 ?_
    refine rb_icmp_ge hC 148 dX12_letOut_22 (by decide) (fun c4 => ?_) (fun c4 => ?_)
    · replace h := rb_ifp c4 h
      cases h
      exact rb_sub [2] rfl (hE0)
    · replace h := rb_ifn c4 h
      refine rb_aload_n hC 0 dX12_letOut_25 rfl ?_
      refine rb_getR hC fr_X12_74_11 rb_obM0 rfl dX12_letOut_26 ?_
      refine rb_iload_n hC 3 dX12_letOut_29 rfl ?_
      refine rb_aload_n hC 0 dX12_letOut_30 rfl ?_
      refine rb_iload_n hC 3 dX12_letOut_31 rfl ?_
      refine rb_iconst (x := 1) hC dX12_letOut_32 (by decide) ?_
      obtain ⟨r5, q6, h⟩ := rb_b1s h
      refine rb_callVi hC rb_VokM mv_X12_311 (xc_M_of x3 1 σ _ q6) rb_obM0 rfl [.int x3, .int 1] rfl rfl rfl ⟨Nat.le_of_ble_eq_true rfl, Nat.le_of_ble_eq_true rfl⟩ (Nat.le_of_ble_eq_true rfl) dX12_letOut_33 ?_
      refine rb_iload_n hC 1 dX12_letOut_36 rfl ?_
      refine rb_icmp_eq hC 50 dX12_letOut_37 (by decide) (fun c7 => ?_) (fun c7 => ?_)
      · replace h := rb_ifp c7 h
        refine rb_iconst (x := 1) hC dX12_letOut_50 (by decide) ?_
        refine rb_goto hC 55 dX12_letOut_51 (by decide) ?_
        exact rb_sub [0, 1, 2, 3] rfl (xu_M_letOut_55 hC (fun b2 b3 τ => xl_M_letOut_14 x1 n b2 b3 τ) x1 x2 x3 1 x3 σ _ _ h (fun b2 b3 τ hq => ih b2 b3 τ _ _ hq hE0) hE0)
      · replace h := rb_ifn c7 h
        refine rb_aload_n hC 0 dX12_letOut_40 rfl ?_
        refine rb_iload_n hC 3 dX12_letOut_41 rfl ?_
        refine rb_iconst (x := 2) hC dX12_letOut_42 (by decide) ?_
        obtain ⟨r36, q37, h⟩ := rb_b1s h
        refine rb_callVi hC rb_VokM mv_X12_311 (xc_M_of x3 2 σ _ q37) rb_obM0 rfl [.int x3, .int 2] rfl rfl rfl ⟨Nat.le_of_ble_eq_true rfl, Nat.le_of_ble_eq_true rfl⟩ (Nat.le_of_ble_eq_true rfl) dX12_letOut_43 ?_
        refine rb_iload_n hC 1 dX12_letOut_46 rfl ?_
        refine rb_icmp_ne hC 54 dX12_letOut_47 (by decide) (fun c38 => ?_) (fun c38 => ?_)
        · replace h := rb_ifn c38 h
          refine rb_iconst (x := 0) hC dX12_letOut_54 (by decide) ?_
          exact rb_sub [0, 1, 2, 3] rfl (xu_M_letOut_55 hC (fun b2 b3 τ => xl_M_letOut_14 x1 n b2 b3 τ) x1 x2 x3 0 x3 σ _ _ h (fun b2 b3 τ hq => ih b2 b3 τ _ _ hq hE0) hE0)
        · replace h := rb_ifp c38 h
          refine rb_iconst (x := 1) hC dX12_letOut_50 (by decide) ?_
          refine rb_goto hC 55 dX12_letOut_51 (by decide) ?_
          exact rb_sub [0, 1, 2, 3] rfl (xu_M_letOut_55 hC (fun b2 b3 τ => xl_M_letOut_14 x1 n b2 b3 τ) x1 x2 x3 1 x3 σ _ _ h (fun b2 b3 τ hq => ih b2 b3 τ _ _ hq hE0) hE0)
def xf_M_letOut (p0 : Int32) (σ : rb_St) : Option (Int32 × rb_St) := rb_b1 (xf_M_isDancer p0 σ) fun r1 => if r1 = 0 then some ((-1), σ) else rb_b2 (xl_M_letOut_14 p0 rb_FU 0 0 σ) fun y39 s40 => some (y39, s40)
set_option maxHeartbeats 4000000 in
set_option maxRecDepth 100000 in
theorem xk_M_letOut {z : rb_Z} {w : rb_Wd} (hC : rb_Cx z rb_vM w RX12 cX12_letOut 5 (some .int) 2) (p0 : Int32) (σ : rb_St) (r : Int32) (σ9 : rb_St) (h : xf_M_letOut p0 σ = some (r, σ9)) : rb_At z rb_vM w 5 (rb_Q z rb_vM w (some (.int r)) σ9) 0 [(0, .ref (rb_ad w 0)), (1, .int p0)] [] σ := by
  unfold xf_M_letOut at h
  refine rb_aload_n hC 0 dX12_letOut_0 rfl ?_
  refine rb_iload_n hC 1 dX12_letOut_1 rfl ?_
  obtain ⟨r1, q2, h⟩ := rb_b1s h
  refine rb_callVi hC rb_VokM mv_X12_373 (xc_M_isDancer p0 σ _ q2) rb_obM0 rfl [.int p0] rfl rfl rfl ⟨Nat.le_of_ble_eq_true rfl, Nat.le_of_ble_eq_true rfl⟩ (Nat.le_of_ble_eq_true rfl) dX12_letOut_2 ?_
  refine rb_if_ne hC 10 dX12_letOut_5 (by decide) (fun c3 => ?_) (fun c3 => ?_)
  · replace h := rb_ifn c3 h
    refine rb_iconst (x := 0) hC dX12_letOut_10 (by decide) ?_
    refine rb_istore_n hC [(2, .int 0), (0, .ref (rb_ad w 0)), (1, .int p0)] dX12_letOut_11 (by decide) rfl ?_
    refine rb_iconst (x := 0) hC dX12_letOut_12 (by decide) ?_
    refine rb_istore_n hC [(3, .int 0), (2, .int 0), (0, .ref (rb_ad w 0)), (1, .int p0)] dX12_letOut_13 (by decide) rfl ?_
    obtain ⟨y39, s40, q41, h⟩ := rb_b2s h
    refine rb_sub (lv2 := [(0, .ref (rb_ad w 0)), (1, .int p0), (2, .int 0), (3, .int 0)]) [2, 3, 1, 0] rfl ?_
    refine xt_M_letOut_14 hC p0 rb_FU 0 0 σ _ _ q41 ?_
    refine rb_iload_n hC 0 dX12_letOut_148 rfl ?_
    cases h
    exact rb_iret hC dX12_letOut_149
  · replace h := rb_ifp c3 h
    refine rb_iconst (x := (-1)) hC dX12_letOut_8 (by decide) ?_
    cases h
    exact rb_iret hC dX12_letOut_9
theorem xc_M_letOut (p0 : Int32) (σ : rb_St) (r : Int32) (σ9 : rb_St) (h : xf_M_letOut p0 σ = some (r, σ9)) : rb_Con rb_vM yX12_letOut cX12_letOut 5 (some .int) 2 (fun w => [.ref (rb_ad w 0), .int p0]) σ (fun _ => (some (.int r))) σ9 := rb_Con.of (by decide +kernel) (fun _ => Nat.le_of_ble_eq_true rfl) (fun z w hC => xk_M_letOut hC p0 σ r σ9 h)
theorem fr_X12_81_11 : rb_FR RX12 81 11 37 := ⟨RX12, TX12, 50, "RibbonPoleModel", rfl, rb_uX12, by decide, rb_in (by decide +kernel) (by decide +kernel), Or.inl rfl⟩
def xl_M_startAt_2 (x1 : Int32) : Nat → Int32 → rb_St → Option (rb_St)
  | 0, _, _ => none
  | n + 1, x2, σ => if (σ.1 0 22) ≤ x2 then some σ else if x1 = 0 then if rb_ib x2 7 then rb_lt (rb_sI σ 23 x2.toNatClampNeg x2) (fun s4 => xl_M_startAt_2 x1 n (x2 + 1) s4) else none else if rb_ib (0 + x2) 398 then if rb_ib x2 7 then rb_lt (rb_sI σ 23 x2.toNatClampNeg (σ.1 17 (0 + x2).toNatClampNeg)) (fun s8 => xl_M_startAt_2 x1 n (x2 + 1) s8) else none else none
set_option maxHeartbeats 4000000 in
set_option maxRecDepth 100000 in
theorem xt_M_startAt_2 {z : rb_Z} {w : rb_Wd} {Q : State → Prop} (hC : rb_Cx z rb_vM w RX12 cX12_startAt 3 none 0) (x1 : Int32) : ∀ (n : Nat) (x2 : Int32) (σ : rb_St) (σ9 : rb_St), xl_M_startAt_2 x1 n x2 σ = some σ9 → rb_At z rb_vM w 3 Q 38 [] [] σ9 → rb_At z rb_vM w 3 Q 2 [(0, .ref (rb_ad w 0)), (1, .int x1), (2, .int x2)] [] σ := by
  intro n
  induction n with
  | zero =>
    intro x2 σ σ9 h hE0
    cases h
  | succ n ih =>
    intro x2 σ σ9 h hE0
    rw [xl_M_startAt_2] at h
    refine rb_iload_n hC 2 dX12_startAt_2 rfl ?_
    refine rb_aload_n hC 0 dX12_startAt_3 rfl ?_
    refine rb_getI hC fr_X12_283_11 rb_obM0 rfl dX12_startAt_4 ?_
    refine rb_icmp_ge hC 38 dX12_startAt_7 (by decide) (fun c1 => ?_) (fun c1 => ?_)
    · replace h := rb_ifp c1 h
      cases h
      exact rb_sub [] rfl (hE0)
    · replace h := rb_ifn c1 h
      refine rb_aload_n hC 0 dX12_startAt_10 rfl ?_
      refine rb_getR hC fr_X12_81_11 rb_obM0 rfl dX12_startAt_11 ?_
      refine rb_iload_n hC 2 dX12_startAt_14 rfl ?_
      refine rb_iload_n hC 1 dX12_startAt_15 rfl ?_
      refine rb_if_eq hC 30 dX12_startAt_16 (by decide) (fun c2 => ?_) (fun c2 => ?_)
      · replace h := rb_ifp c2 h
        refine rb_iload_n hC 2 dX12_startAt_30 rfl ?_
        obtain ⟨g3, h⟩ := rb_gd h
        refine rb_iast hC rb_arM23 (rb_ibI g3) dX12_startAt_31 ?_
        obtain ⟨s4, e5, h⟩ := rb_ltE h
        refine rb_nmS e5 ?_
        refine rb_iinc hC 2 [(2, .int (x2 + 1)), (0, .ref (rb_ad w 0)), (1, .int x1)] dX12_startAt_32 rfl rfl (by decide) rfl ?_
        refine rb_goto hC 2 dX12_startAt_35 (by decide) ?_
        exact rb_sub [1, 2, 0] rfl (ih (x2 + 1) s4 _ h hE0)
      · replace h := rb_ifn c2 h
        refine rb_aload_n hC 0 dX12_startAt_19 rfl ?_
        refine rb_getR hC fr_X12_58_11 rb_obM0 rfl dX12_startAt_20 ?_
        refine rb_iconst (x := 0) hC dX12_startAt_23 (by decide) ?_
        refine rb_iload_n hC 2 dX12_startAt_24 rfl ?_
        refine rb_iadd hC dX12_startAt_25 ?_
        obtain ⟨g6, h⟩ := rb_gd h
        refine rb_iald hC rb_arM17 (rb_ibI g6) dX12_startAt_26 ?_
        refine rb_goto hC 31 dX12_startAt_27 (by decide) ?_
        obtain ⟨g7, h⟩ := rb_gd h
        refine rb_iast hC rb_arM23 (rb_ibI g7) dX12_startAt_31 ?_
        obtain ⟨s8, e9, h⟩ := rb_ltE h
        refine rb_nmS e9 ?_
        refine rb_iinc hC 2 [(2, .int (x2 + 1)), (0, .ref (rb_ad w 0)), (1, .int x1)] dX12_startAt_32 rfl rfl (by decide) rfl ?_
        refine rb_goto hC 2 dX12_startAt_35 (by decide) ?_
        exact rb_sub [1, 2, 0] rfl (ih (x2 + 1) s8 _ h hE0)
def xf_M_startAt (p0 : Int32) (σ : rb_St) : Option (rb_St) := rb_b1 (xl_M_startAt_2 p0 rb_FU 0 σ) fun s10 => some s10
set_option maxHeartbeats 4000000 in
set_option maxRecDepth 100000 in
theorem xk_M_startAt {z : rb_Z} {w : rb_Wd} (hC : rb_Cx z rb_vM w RX12 cX12_startAt 3 none 0) (p0 : Int32) (σ : rb_St) (σ9 : rb_St) (h : xf_M_startAt p0 σ = some σ9) : rb_At z rb_vM w 3 (rb_Q z rb_vM w none σ9) 0 [(0, .ref (rb_ad w 0)), (1, .int p0)] [] σ := by
  unfold xf_M_startAt at h
  refine rb_iconst (x := 0) hC dX12_startAt_0 (by decide) ?_
  refine rb_istore_n hC [(2, .int 0), (0, .ref (rb_ad w 0)), (1, .int p0)] dX12_startAt_1 (by decide) rfl ?_
  obtain ⟨s10, q11, h⟩ := rb_b1s h
  refine rb_sub (lv2 := [(0, .ref (rb_ad w 0)), (1, .int p0), (2, .int 0)]) [1, 2, 0] rfl ?_
  refine xt_M_startAt_2 hC p0 rb_FU 0 σ _ q11 ?_
  cases h
  exact rb_vret hC dX12_startAt_38
theorem xc_M_startAt (p0 : Int32) (σ : rb_St) (σ9 : rb_St) (h : xf_M_startAt p0 σ = some σ9) : rb_Con rb_vM yX12_startAt cX12_startAt 3 none 0 (fun w => [.ref (rb_ad w 0), .int p0]) σ (fun _ => none) σ9 := rb_Con.of (by decide +kernel) (fun _ => Nat.le_of_ble_eq_true rfl) (fun z w hC => xk_M_startAt hC p0 σ σ9 h)
def xl_M_goFigure_2 (x1 : Int32) : Nat → Int32 → rb_St → Option (rb_St)
  | 0, _, _ => none
  | n + 1, x2, σ => if rb_ib x1 7 then if (σ.1 16 x1.toNatClampNeg) ≤ x2 then some σ else rb_b1 (xf_M_stepOf x1 x2 σ) fun r3 => if r3 = 20 then xl_M_goFigure_2 x1 n (x2 + 1) σ else if rb_ib (r3 / 2) 7 then rb_b1 (xf_M_nextPlace (r3 / 2) σ) fun r7 => if rb_ib r7 7 then rb_lt (rb_sI σ 23 (r3 / 2).toNatClampNeg (σ.1 23 r7.toNatClampNeg)) (fun s10 => rb_b1 (xf_M_nextPlace (r3 / 2) s10) fun r12 => if rb_ib r12 7 then rb_lt (rb_sI s10 23 r12.toNatClampNeg (σ.1 23 (r3 / 2).toNatClampNeg)) (fun s15 => xl_M_goFigure_2 x1 n (x2 + 1) s15) else none) else none else none else none
set_option maxHeartbeats 4000000 in
set_option maxRecDepth 100000 in
theorem xt_M_goFigure_2 {z : rb_Z} {w : rb_Wd} {Q : State → Prop} (hC : rb_Cx z rb_vM w RX12 cX12_goFigure 6 none 1) (x1 : Int32) : ∀ (n : Nat) (x2 : Int32) (σ : rb_St) (σ9 : rb_St), xl_M_goFigure_2 x1 n x2 σ = some σ9 → rb_At z rb_vM w 6 Q 76 [] [] σ9 → rb_At z rb_vM w 6 Q 2 [(0, .ref (rb_ad w 0)), (1, .int x1), (2, .int x2)] [] σ := by
  intro n
  induction n with
  | zero =>
    intro x2 σ σ9 h hE0
    cases h
  | succ n ih =>
    intro x2 σ σ9 h hE0
    rw [xl_M_goFigure_2] at h
    refine rb_iload_n hC 2 dX12_goFigure_2 rfl ?_
    refine rb_aload_n hC 0 dX12_goFigure_3 rfl ?_
    refine rb_getR hC fr_X12_55_11 rb_obM0 rfl dX12_goFigure_4 ?_
    refine rb_iload_n hC 1 dX12_goFigure_7 rfl ?_
    obtain ⟨g1, h⟩ := rb_gd h
    refine rb_iald hC rb_arM16 (rb_ibI g1) dX12_goFigure_8 ?_
    refine rb_icmp_ge hC 76 dX12_goFigure_9 (by decide) (fun c2 => ?_) (fun c2 => ?_)
    · replace h := rb_ifp c2 h
      cases h
      exact rb_sub [] rfl (hE0)
    · replace h := rb_ifn c2 h
      refine rb_aload_n hC 0 dX12_goFigure_12 rfl ?_
      refine rb_iload_n hC 1 dX12_goFigure_13 rfl ?_
      refine rb_iload_n hC 2 dX12_goFigure_14 rfl ?_
      obtain ⟨r3, q4, h⟩ := rb_b1s h
      refine rb_callVi hC rb_VokM mv_X12_410 (xc_M_stepOf x1 x2 σ _ q4) rb_obM0 rfl [.int x1, .int x2] rfl rfl rfl ⟨Nat.le_of_ble_eq_true rfl, Nat.le_of_ble_eq_true rfl⟩ (Nat.le_of_ble_eq_true rfl) dX12_goFigure_15 ?_
      refine rb_istore_n hC [(3, .int r3), (0, .ref (rb_ad w 0)), (1, .int x1), (2, .int x2)] dX12_goFigure_18 (by decide) rfl ?_
      refine rb_iload_n hC 0 dX12_goFigure_19 rfl ?_
      refine rb_bipush (x := 20) hC dX12_goFigure_20 (by decide) ?_
      refine rb_icmp_eq hC 70 dX12_goFigure_22 (by decide) (fun c5 => ?_) (fun c5 => ?_)
      · replace h := rb_ifp c5 h
        refine rb_iinc hC 3 [(2, .int (x2 + 1)), (3, .int r3), (0, .ref (rb_ad w 0)), (1, .int x1)] dX12_goFigure_70 rfl rfl (by decide) rfl ?_
        refine rb_goto hC 2 dX12_goFigure_73 (by decide) ?_
        exact rb_sub [2, 3, 0] rfl (ih (x2 + 1) σ _ h hE0)
      · replace h := rb_ifn c5 h
        refine rb_iload_n hC 0 dX12_goFigure_25 rfl ?_
        refine rb_iconst (x := 2) hC dX12_goFigure_26 (by decide) ?_
        refine rb_idiv hC dX12_goFigure_27 (by decide) ?_
        refine rb_istore hC [(4, .int (r3 / 2)), (3, .int r3), (0, .ref (rb_ad w 0)), (1, .int x1), (2, .int x2)] dX12_goFigure_28 (by decide) rfl ?_
        refine rb_aload_n hC 2 dX12_goFigure_30 rfl ?_
        refine rb_getR hC fr_X12_81_11 rb_obM0 rfl dX12_goFigure_31 ?_
        refine rb_iload hC 0 dX12_goFigure_34 rfl ?_
        obtain ⟨g6, h⟩ := rb_gd h
        refine rb_iald hC rb_arM23 (rb_ibI g6) dX12_goFigure_36 ?_
        refine rb_istore hC [(5, .int (σ.1 23 (r3 / 2).toNatClampNeg)), (4, .int (r3 / 2)), (3, .int r3), (0, .ref (rb_ad w 0)), (1, .int x1), (2, .int x2)] dX12_goFigure_37 (by decide) rfl ?_
        refine rb_aload_n hC 3 dX12_goFigure_39 rfl ?_
        refine rb_getR hC fr_X12_81_11 rb_obM0 rfl dX12_goFigure_40 ?_
        refine rb_iload hC 1 dX12_goFigure_43 rfl ?_
        refine rb_aload_n hC 3 dX12_goFigure_45 rfl ?_
        refine rb_getR hC fr_X12_81_11 rb_obM0 rfl dX12_goFigure_46 ?_
        refine rb_aload_n hC 3 dX12_goFigure_49 rfl ?_
        refine rb_iload hC 1 dX12_goFigure_50 rfl ?_
        obtain ⟨r7, q8, h⟩ := rb_b1s h
        refine rb_callVi hC rb_VokM mv_X12_308 (xc_M_nextPlace (r3 / 2) σ _ q8) rb_obM0 rfl [.int (r3 / 2)] rfl rfl rfl ⟨Nat.le_of_ble_eq_true rfl, Nat.le_of_ble_eq_true rfl⟩ (Nat.le_of_ble_eq_true rfl) dX12_goFigure_52 ?_
        obtain ⟨g9, h⟩ := rb_gd h
        refine rb_iald hC rb_arM23 (rb_ibI g9) dX12_goFigure_55 ?_
        refine rb_iast hC rb_arM23 (rb_ibI g6) dX12_goFigure_56 ?_
        obtain ⟨s10, e11, h⟩ := rb_ltE h
        refine rb_nmS e11 ?_
        refine rb_aload_n hC 3 dX12_goFigure_57 rfl ?_
        refine rb_getR hC fr_X12_81_11 rb_obM0 rfl dX12_goFigure_58 ?_
        refine rb_aload_n hC 3 dX12_goFigure_61 rfl ?_
        refine rb_iload hC 1 dX12_goFigure_62 rfl ?_
        obtain ⟨r12, q13, h⟩ := rb_b1s h
        refine rb_callVi hC rb_VokM mv_X12_308 (xc_M_nextPlace (r3 / 2) s10 _ q13) rb_obM0 rfl [.int (r3 / 2)] rfl rfl rfl ⟨Nat.le_of_ble_eq_true rfl, Nat.le_of_ble_eq_true rfl⟩ (Nat.le_of_ble_eq_true rfl) dX12_goFigure_64 ?_
        refine rb_iload hC 0 dX12_goFigure_67 rfl ?_
        obtain ⟨g14, h⟩ := rb_gd h
        refine rb_iast hC rb_arM23 (rb_ibI g14) dX12_goFigure_69 ?_
        obtain ⟨s15, e16, h⟩ := rb_ltE h
        refine rb_nmS e16 ?_
        refine rb_iinc hC 5 [(2, .int (x2 + 1)), (5, .int (σ.1 23 (r3 / 2).toNatClampNeg)), (4, .int (r3 / 2)), (3, .int r3), (0, .ref (rb_ad w 0)), (1, .int x1)] dX12_goFigure_70 rfl rfl (by decide) rfl ?_
        refine rb_goto hC 2 dX12_goFigure_73 (by decide) ?_
        exact rb_sub [4, 5, 0] rfl (ih (x2 + 1) s15 _ h hE0)
def xf_M_goFigure (p0 : Int32) (σ : rb_St) : Option (rb_St) := rb_b1 (xl_M_goFigure_2 p0 rb_FU 0 σ) fun s17 => some s17
set_option maxHeartbeats 4000000 in
set_option maxRecDepth 100000 in
theorem xk_M_goFigure {z : rb_Z} {w : rb_Wd} (hC : rb_Cx z rb_vM w RX12 cX12_goFigure 6 none 1) (p0 : Int32) (σ : rb_St) (σ9 : rb_St) (h : xf_M_goFigure p0 σ = some σ9) : rb_At z rb_vM w 6 (rb_Q z rb_vM w none σ9) 0 [(0, .ref (rb_ad w 0)), (1, .int p0)] [] σ := by
  unfold xf_M_goFigure at h
  refine rb_iconst (x := 0) hC dX12_goFigure_0 (by decide) ?_
  refine rb_istore_n hC [(2, .int 0), (0, .ref (rb_ad w 0)), (1, .int p0)] dX12_goFigure_1 (by decide) rfl ?_
  obtain ⟨s17, q18, h⟩ := rb_b1s h
  refine rb_sub (lv2 := [(0, .ref (rb_ad w 0)), (1, .int p0), (2, .int 0)]) [1, 2, 0] rfl ?_
  refine xt_M_goFigure_2 hC p0 rb_FU 0 σ _ q18 ?_
  cases h
  exact rb_vret hC dX12_goFigure_76
theorem xc_M_goFigure (p0 : Int32) (σ : rb_St) (σ9 : rb_St) (h : xf_M_goFigure p0 σ = some σ9) : rb_Con rb_vM yX12_goFigure cX12_goFigure 6 none 1 (fun w => [.ref (rb_ad w 0), .int p0]) σ (fun _ => none) σ9 := rb_Con.of (by decide +kernel) (fun _ => Nat.le_of_ble_eq_true rfl) (fun z w hC => xk_M_goFigure hC p0 σ σ9 h)
def xl_M_spotOf_4 (x1 : Int32) (σ : rb_St) : Nat → Int32 → Int32 → Option (Int32)
  | 0, _, _ => none
  | n + 1, x2, x3 => if (σ.1 0 22) ≤ x3 then some x2 else if rb_ib x3 7 then if (σ.1 23 x3.toNatClampNeg) = x1 then xl_M_spotOf_4 x1 σ n x3 (x3 + 1) else xl_M_spotOf_4 x1 σ n x2 (x3 + 1) else none
set_option maxHeartbeats 4000000 in
set_option maxRecDepth 100000 in
theorem xt_M_spotOf_4 {z : rb_Z} {w : rb_Wd} {Q : State → Prop} (hC : rb_Cx z rb_vM w RX12 cX12_spotOf 4 (some .int) 0) (x1 : Int32) (σ : rb_St) : ∀ (n : Nat) (x2 : Int32) (x3 : Int32) (y2 : Int32), xl_M_spotOf_4 x1 σ n x2 x3 = some y2 → rb_At z rb_vM w 4 Q 34 [(2, .int y2)] [] σ → rb_At z rb_vM w 4 Q 4 [(0, .ref (rb_ad w 0)), (1, .int x1), (2, .int x2), (3, .int x3)] [] σ := by
  intro n
  induction n with
  | zero =>
    intro x2 x3 y2 h hE0
    cases h
  | succ n ih =>
    intro x2 x3 y2 h hE0
    rw [xl_M_spotOf_4] at h
    refine rb_iload_n hC 3 dX12_spotOf_4 rfl ?_
    refine rb_aload_n hC 0 dX12_spotOf_5 rfl ?_
    refine rb_getI hC fr_X12_283_11 rb_obM0 rfl dX12_spotOf_6 ?_
    refine rb_icmp_ge hC 34 dX12_spotOf_9 (by decide) (fun c1 => ?_) (fun c1 => ?_)
    · replace h := rb_ifp c1 h
      cases h
      exact rb_sub [2] rfl (hE0)
    · replace h := rb_ifn c1 h
      refine rb_aload_n hC 0 dX12_spotOf_12 rfl ?_
      refine rb_getR hC fr_X12_81_11 rb_obM0 rfl dX12_spotOf_13 ?_
      refine rb_iload_n hC 3 dX12_spotOf_16 rfl ?_
      obtain ⟨g2, h⟩ := rb_gd h
      refine rb_iald hC rb_arM23 (rb_ibI g2) dX12_spotOf_17 ?_
      refine rb_iload_n hC 1 dX12_spotOf_18 rfl ?_
      refine rb_icmp_ne hC 26 dX12_spotOf_19 (by decide) (fun c3 => ?_) (fun c3 => ?_)
      · replace h := rb_ifn c3 h
        refine rb_iload_n hC 2 dX12_spotOf_26 rfl ?_
        refine rb_istore_n hC [(2, .int x2), (0, .ref (rb_ad w 0)), (1, .int x1), (3, .int x3)] dX12_spotOf_27 (by decide) rfl ?_
        refine rb_iinc hC 3 [(3, .int (x3 + 1)), (2, .int x2), (0, .ref (rb_ad w 0)), (1, .int x1)] dX12_spotOf_28 rfl rfl (by decide) rfl ?_
        refine rb_goto hC 4 dX12_spotOf_31 (by decide) ?_
        exact rb_sub [2, 3, 1, 0] rfl (ih x2 (x3 + 1) _ h hE0)
      · replace h := rb_ifp c3 h
        refine rb_iload_n hC 3 dX12_spotOf_22 rfl ?_
        refine rb_goto hC 27 dX12_spotOf_23 (by decide) ?_
        refine rb_istore_n hC [(2, .int x3), (0, .ref (rb_ad w 0)), (1, .int x1), (3, .int x3)] dX12_spotOf_27 (by decide) rfl ?_
        refine rb_iinc hC 3 [(3, .int (x3 + 1)), (2, .int x3), (0, .ref (rb_ad w 0)), (1, .int x1)] dX12_spotOf_28 rfl rfl (by decide) rfl ?_
        refine rb_goto hC 4 dX12_spotOf_31 (by decide) ?_
        exact rb_sub [2, 3, 1, 0] rfl (ih x3 (x3 + 1) _ h hE0)
def xf_M_spotOf (p0 : Int32) (σ : rb_St) : Option Int32 := rb_b1 (xl_M_spotOf_4 p0 σ rb_FU (-1) 0) fun y4 => some y4
set_option maxHeartbeats 4000000 in
set_option maxRecDepth 100000 in
theorem xk_M_spotOf {z : rb_Z} {w : rb_Wd} (hC : rb_Cx z rb_vM w RX12 cX12_spotOf 4 (some .int) 0) (p0 : Int32) (σ : rb_St) (r : Int32) (h : xf_M_spotOf p0 σ = some r) : rb_At z rb_vM w 4 (rb_Q z rb_vM w (some (.int r)) σ) 0 [(0, .ref (rb_ad w 0)), (1, .int p0)] [] σ := by
  unfold xf_M_spotOf at h
  refine rb_iconst (x := (-1)) hC dX12_spotOf_0 (by decide) ?_
  refine rb_istore_n hC [(2, .int (-1)), (0, .ref (rb_ad w 0)), (1, .int p0)] dX12_spotOf_1 (by decide) rfl ?_
  refine rb_iconst (x := 0) hC dX12_spotOf_2 (by decide) ?_
  refine rb_istore_n hC [(3, .int 0), (2, .int (-1)), (0, .ref (rb_ad w 0)), (1, .int p0)] dX12_spotOf_3 (by decide) rfl ?_
  obtain ⟨y4, q5, h⟩ := rb_b1s h
  refine rb_sub (lv2 := [(0, .ref (rb_ad w 0)), (1, .int p0), (2, .int (-1)), (3, .int 0)]) [2, 3, 1, 0] rfl ?_
  refine xt_M_spotOf_4 hC p0 σ rb_FU (-1) 0 _ q5 ?_
  refine rb_iload_n hC 0 dX12_spotOf_34 rfl ?_
  cases h
  exact rb_iret hC dX12_spotOf_35
theorem xc_M_spotOf (p0 : Int32) (σ : rb_St) (r : Int32) (h : xf_M_spotOf p0 σ = some r) : rb_Con rb_vM yX12_spotOf cX12_spotOf 4 (some .int) 0 (fun w => [.ref (rb_ad w 0), .int p0]) σ (fun _ => (some (.int r))) σ := rb_Con.of (by decide +kernel) (fun _ => Nat.le_of_ble_eq_true rfl) (fun z w hC => xk_M_spotOf hC p0 σ r h)
theorem me_X12_startAt : Cond.instanceMethod yX12_startAt ∈ rb_tbl ∧ Cond.selects yX12_startAt.cls yX12_startAt yX12_startAt ∈ rb_tbl ∧ Cond.initialized yX12_startAt.cls ∈ rb_tbl ∧ Cond.code yX12_startAt cX12_startAt 3 none ∈ rb_tbl ∧ rb_pn yX12_startAt 1 := ⟨rb_in (by decide +kernel) (by decide +kernel), rb_in (by decide +kernel) (by decide +kernel), rb_in (by decide +kernel) (by decide +kernel), rb_in (by decide +kernel) (by decide +kernel), by decide +kernel, by decide +kernel, by decide +kernel⟩
theorem mv_X12_434 : rb_MV RX12 434 yX12_startAt cX12_startAt 3 none 1 := ⟨rb_in (by decide +kernel) (by decide +kernel), me_X12_startAt⟩
theorem me_X12_goFigure : Cond.instanceMethod yX12_goFigure ∈ rb_tbl ∧ Cond.selects yX12_goFigure.cls yX12_goFigure yX12_goFigure ∈ rb_tbl ∧ Cond.initialized yX12_goFigure.cls ∈ rb_tbl ∧ Cond.code yX12_goFigure cX12_goFigure 6 none ∈ rb_tbl ∧ rb_pn yX12_goFigure 1 := ⟨rb_in (by decide +kernel) (by decide +kernel), rb_in (by decide +kernel) (by decide +kernel), rb_in (by decide +kernel) (by decide +kernel), rb_in (by decide +kernel) (by decide +kernel), by decide +kernel, by decide +kernel, by decide +kernel⟩
theorem mv_X12_438 : rb_MV RX12 438 yX12_goFigure cX12_goFigure 6 none 1 := ⟨rb_in (by decide +kernel) (by decide +kernel), me_X12_goFigure⟩
theorem me_X12_spotOf : Cond.instanceMethod yX12_spotOf ∈ rb_tbl ∧ Cond.selects yX12_spotOf.cls yX12_spotOf yX12_spotOf ∈ rb_tbl ∧ Cond.initialized yX12_spotOf.cls ∈ rb_tbl ∧ Cond.code yX12_spotOf cX12_spotOf 4 (some .int) ∈ rb_tbl ∧ rb_pn yX12_spotOf 1 := ⟨rb_in (by decide +kernel) (by decide +kernel), rb_in (by decide +kernel) (by decide +kernel), rb_in (by decide +kernel) (by decide +kernel), rb_in (by decide +kernel) (by decide +kernel), by decide +kernel, by decide +kernel, by decide +kernel⟩
theorem mv_X12_441 : rb_MV RX12 441 yX12_spotOf cX12_spotOf 4 (some .int) 1 := ⟨rb_in (by decide +kernel) (by decide +kernel), me_X12_spotOf⟩
def xl_M_behind_36 (x1 : Int32) (x2 : Int32) (x3 : Int32) : Nat → Int32 → rb_St → Option (rb_St)
  | 0, _, _ => none
  | n + 1, x4, σ => if x2 ≤ x4 then some σ else rb_b1 (xf_M_goFigure x1 σ) fun s9 => xl_M_behind_36 x1 x2 x3 n (x4 + 1) s9
set_option maxHeartbeats 4000000 in
set_option maxRecDepth 100000 in
theorem xt_M_behind_36 {z : rb_Z} {w : rb_Wd} {Q : State → Prop} (hC : rb_Cx z rb_vM w RX12 cX12_behind 5 (some .int) 2) (x1 : Int32) (x2 : Int32) (x3 : Int32) : ∀ (n : Nat) (x4 : Int32) (σ : rb_St) (σ9 : rb_St), xl_M_behind_36 x1 x2 x3 n x4 σ = some σ9 → rb_At z rb_vM w 5 Q 53 [(0, .ref (rb_ad w 0)), (3, .int x3)] [] σ9 → rb_At z rb_vM w 5 Q 36 [(0, .ref (rb_ad w 0)), (1, .int x1), (2, .int x2), (3, .int x3), (4, .int x4)] [] σ := by
  intro n
  induction n with
  | zero =>
    intro x4 σ σ9 h hE0
    cases h
  | succ n ih =>
    intro x4 σ σ9 h hE0
    rw [xl_M_behind_36] at h
    refine rb_iload hC 4 dX12_behind_36 rfl ?_
    refine rb_iload_n hC 2 dX12_behind_38 rfl ?_
    refine rb_icmp_ge hC 53 dX12_behind_39 (by decide) (fun c8 => ?_) (fun c8 => ?_)
    · replace h := rb_ifp c8 h
      cases h
      exact rb_sub [0, 3] rfl (hE0)
    · replace h := rb_ifn c8 h
      refine rb_aload_n hC 0 dX12_behind_42 rfl ?_
      refine rb_iload_n hC 1 dX12_behind_43 rfl ?_
      obtain ⟨s9, q10, h⟩ := rb_b1s h
      refine rb_callVv hC rb_VokM mv_X12_438 (xc_M_goFigure x1 σ _ q10) rb_obM0 rfl [.int x1] rfl rfl rfl ⟨Nat.le_of_ble_eq_true rfl, Nat.le_of_ble_eq_true rfl⟩ (Nat.le_of_ble_eq_true rfl) dX12_behind_44 ?_
      refine rb_iinc hC 4 [(4, .int (x4 + 1)), (0, .ref (rb_ad w 0)), (1, .int x1), (2, .int x2), (3, .int x3)] dX12_behind_47 rfl rfl (by decide) rfl ?_
      refine rb_goto hC 36 dX12_behind_50 (by decide) ?_
      exact rb_sub [1, 2, 3, 4, 0] rfl (ih (x4 + 1) s9 _ h hE0)
def xf_M_behind (p0 : Int32) (p1 : Int32) (p2 : Int32) (σ : rb_St) : Option (Int32 × rb_St) := if (xf_M_isFigure p0 σ) = 0 then some ((-1), σ) else if (xf_M_in p1 0 99 σ) = 0 then some ((-1), σ) else rb_b1 (xf_M_isDancer p2 σ) fun r3 => if r3 = 0 then some ((-1), σ) else rb_b1 (xf_M_startAt 1 σ) fun s6 => rb_b1 (xl_M_behind_36 p0 p1 p2 rb_FU 0 s6) fun s11 => rb_b1 (xf_M_spotOf p2 s11) fun r13 => some (r13, s11)
set_option maxHeartbeats 4000000 in
set_option maxRecDepth 100000 in
theorem xk_M_behind {z : rb_Z} {w : rb_Wd} (hC : rb_Cx z rb_vM w RX12 cX12_behind 5 (some .int) 2) (p0 : Int32) (p1 : Int32) (p2 : Int32) (σ : rb_St) (r : Int32) (σ9 : rb_St) (h : xf_M_behind p0 p1 p2 σ = some (r, σ9)) : rb_At z rb_vM w 5 (rb_Q z rb_vM w (some (.int r)) σ9) 0 [(0, .ref (rb_ad w 0)), (1, .int p0), (2, .int p1), (3, .int p2)] [] σ := by
  unfold xf_M_behind at h
  refine rb_aload_n hC 0 dX12_behind_0 rfl ?_
  refine rb_iload_n hC 1 dX12_behind_1 rfl ?_
  refine rb_callVi hC rb_VokM mv_X12_407 (xc_M_isFigure p0 σ _ rfl) rb_obM0 rfl [.int p0] rfl rfl rfl ⟨Nat.le_of_ble_eq_true rfl, Nat.le_of_ble_eq_true rfl⟩ (Nat.le_of_ble_eq_true rfl) dX12_behind_2 ?_
  refine rb_if_eq hC 26 dX12_behind_5 (by decide) (fun c1 => ?_) (fun c1 => ?_)
  · replace h := rb_ifp c1 h
    refine rb_iconst (x := (-1)) hC dX12_behind_26 (by decide) ?_
    cases h
    exact rb_iret hC dX12_behind_27
  · replace h := rb_ifn c1 h
    refine rb_iload_n hC 2 dX12_behind_8 rfl ?_
    refine rb_iconst (x := 0) hC dX12_behind_9 (by decide) ?_
    refine rb_bipush (x := 99) hC dX12_behind_10 (by decide) ?_
    refine rb_callSi hC rb_VokM mv_X12_229 (xc_M_in p1 0 99 σ _ rfl) [.int p1, .int 0, .int 99] rfl rfl rfl ⟨Nat.le_of_ble_eq_true rfl, Nat.le_of_ble_eq_true rfl⟩ (Nat.le_of_ble_eq_true rfl) dX12_behind_12 ?_
    refine rb_if_eq hC 26 dX12_behind_15 (by decide) (fun c2 => ?_) (fun c2 => ?_)
    · replace h := rb_ifp c2 h
      refine rb_iconst (x := (-1)) hC dX12_behind_26 (by decide) ?_
      cases h
      exact rb_iret hC dX12_behind_27
    · replace h := rb_ifn c2 h
      refine rb_aload_n hC 0 dX12_behind_18 rfl ?_
      refine rb_iload_n hC 3 dX12_behind_19 rfl ?_
      obtain ⟨r3, q4, h⟩ := rb_b1s h
      refine rb_callVi hC rb_VokM mv_X12_373 (xc_M_isDancer p2 σ _ q4) rb_obM0 rfl [.int p2] rfl rfl rfl ⟨Nat.le_of_ble_eq_true rfl, Nat.le_of_ble_eq_true rfl⟩ (Nat.le_of_ble_eq_true rfl) dX12_behind_20 ?_
      refine rb_if_ne hC 28 dX12_behind_23 (by decide) (fun c5 => ?_) (fun c5 => ?_)
      · replace h := rb_ifn c5 h
        refine rb_aload_n hC 0 dX12_behind_28 rfl ?_
        refine rb_iconst (x := 1) hC dX12_behind_29 (by decide) ?_
        obtain ⟨s6, q7, h⟩ := rb_b1s h
        refine rb_callVv hC rb_VokM mv_X12_434 (xc_M_startAt 1 σ _ q7) rb_obM0 rfl [.int 1] rfl rfl rfl ⟨Nat.le_of_ble_eq_true rfl, Nat.le_of_ble_eq_true rfl⟩ (Nat.le_of_ble_eq_true rfl) dX12_behind_30 ?_
        refine rb_iconst (x := 0) hC dX12_behind_33 (by decide) ?_
        refine rb_istore hC [(4, .int 0), (0, .ref (rb_ad w 0)), (1, .int p0), (2, .int p1), (3, .int p2)] dX12_behind_34 (by decide) rfl ?_
        obtain ⟨s11, q12, h⟩ := rb_b1s h
        refine rb_sub (lv2 := [(0, .ref (rb_ad w 0)), (1, .int p0), (2, .int p1), (3, .int p2), (4, .int 0)]) [1, 2, 3, 4, 0] rfl ?_
        refine xt_M_behind_36 hC p0 p1 p2 rb_FU 0 s6 _ q12 ?_
        refine rb_aload_n hC 0 dX12_behind_53 rfl ?_
        refine rb_iload_n hC 1 dX12_behind_54 rfl ?_
        obtain ⟨r13, q14, h⟩ := rb_b1s h
        refine rb_callVi hC rb_VokM mv_X12_441 (xc_M_spotOf p2 s11 _ q14) rb_obM0 rfl [.int p2] rfl rfl rfl ⟨Nat.le_of_ble_eq_true rfl, Nat.le_of_ble_eq_true rfl⟩ (Nat.le_of_ble_eq_true rfl) dX12_behind_55 ?_
        cases h
        exact rb_iret hC dX12_behind_58
      · replace h := rb_ifp c5 h
        refine rb_iconst (x := (-1)) hC dX12_behind_26 (by decide) ?_
        cases h
        exact rb_iret hC dX12_behind_27
theorem xc_M_behind (p0 : Int32) (p1 : Int32) (p2 : Int32) (σ : rb_St) (r : Int32) (σ9 : rb_St) (h : xf_M_behind p0 p1 p2 σ = some (r, σ9)) : rb_Con rb_vM yX12_behind cX12_behind 5 (some .int) 2 (fun w => [.ref (rb_ad w 0), .int p0, .int p1, .int p2]) σ (fun _ => (some (.int r))) σ9 := rb_Con.of (by decide +kernel) (fun _ => Nat.le_of_ble_eq_true rfl) (fun z w hC => xk_M_behind hC p0 p1 p2 σ r σ9 h)
def xl_M_rounds_36 (x1 : Int32) (x2 : Int32) (σ : rb_St) : Nat → Int32 → Int32 → Option (Int32)
  | 0, _, _ => none
  | n + 1, x3, x4 => if (σ.1 0 22) ≤ x4 then some x3 else if x3 = 0 then xl_M_rounds_36 x1 x2 σ n 0 (x4 + 1) else if rb_ib x4 7 then if (σ.1 23 x4.toNatClampNeg) = x4 then xl_M_rounds_36 x1 x2 σ n 1 (x4 + 1) else xl_M_rounds_36 x1 x2 σ n 0 (x4 + 1) else none
set_option maxHeartbeats 4000000 in
set_option maxRecDepth 100000 in
theorem xt_M_rounds_36 {z : rb_Z} {w : rb_Wd} {Q : State → Prop} (hC : rb_Cx z rb_vM w RX12 cX12_rounds 5 (some .int) 2) (x1 : Int32) (x2 : Int32) (σ : rb_St) : ∀ (n : Nat) (x3 : Int32) (x4 : Int32) (y3 : Int32), xl_M_rounds_36 x1 x2 σ n x3 x4 = some y3 → rb_At z rb_vM w 5 Q 73 [(0, .ref (rb_ad w 0)), (1, .int x1), (2, .int x2), (3, .int y3)] [] σ → rb_At z rb_vM w 5 Q 36 [(0, .ref (rb_ad w 0)), (1, .int x1), (2, .int x2), (3, .int x3), (4, .int x4)] [] σ := by
  intro n
  induction n with
  | zero =>
    intro x3 x4 y3 h hE0
    cases h
  | succ n ih =>
    intro x3 x4 y3 h hE0
    rw [xl_M_rounds_36] at h
    refine rb_iload hC 4 dX12_rounds_36 rfl ?_
    refine rb_aload_n hC 0 dX12_rounds_38 rfl ?_
    refine rb_getI hC fr_X12_283_11 rb_obM0 rfl dX12_rounds_39 ?_
    refine rb_icmp_ge hC 73 dX12_rounds_42 (by decide) (fun c7 => ?_) (fun c7 => ?_)
    · replace h := rb_ifp c7 h
      cases h
      exact rb_sub [0, 1, 2, 3] rfl (hE0)
    · replace h := rb_ifn c7 h
      refine rb_iload_n hC 3 dX12_rounds_45 rfl ?_
      refine rb_if_eq hC 65 dX12_rounds_46 (by decide) (fun c8 => ?_) (fun c8 => ?_)
      · replace h := rb_ifp c8 h
        refine rb_iconst (x := 0) hC dX12_rounds_65 (by decide) ?_
        refine rb_istore_n hC [(3, .int 0), (0, .ref (rb_ad w 0)), (1, .int x1), (2, .int x2), (4, .int x4)] dX12_rounds_66 (by decide) rfl ?_
        refine rb_iinc hC 4 [(4, .int (x4 + 1)), (3, .int 0), (0, .ref (rb_ad w 0)), (1, .int x1), (2, .int x2)] dX12_rounds_67 rfl rfl (by decide) rfl ?_
        refine rb_goto hC 36 dX12_rounds_70 (by decide) ?_
        exact rb_sub [2, 3, 4, 1, 0] rfl (ih 0 (x4 + 1) _ h hE0)
      · replace h := rb_ifn c8 h
        refine rb_aload_n hC 0 dX12_rounds_49 rfl ?_
        refine rb_getR hC fr_X12_81_11 rb_obM0 rfl dX12_rounds_50 ?_
        refine rb_iload hC 4 dX12_rounds_53 rfl ?_
        obtain ⟨g9, h⟩ := rb_gd h
        refine rb_iald hC rb_arM23 (rb_ibI g9) dX12_rounds_55 ?_
        refine rb_iload hC 4 dX12_rounds_56 rfl ?_
        refine rb_icmp_ne hC 65 dX12_rounds_58 (by decide) (fun c10 => ?_) (fun c10 => ?_)
        · replace h := rb_ifn c10 h
          refine rb_iconst (x := 0) hC dX12_rounds_65 (by decide) ?_
          refine rb_istore_n hC [(3, .int 0), (0, .ref (rb_ad w 0)), (1, .int x1), (2, .int x2), (4, .int x4)] dX12_rounds_66 (by decide) rfl ?_
          refine rb_iinc hC 4 [(4, .int (x4 + 1)), (3, .int 0), (0, .ref (rb_ad w 0)), (1, .int x1), (2, .int x2)] dX12_rounds_67 rfl rfl (by decide) rfl ?_
          refine rb_goto hC 36 dX12_rounds_70 (by decide) ?_
          exact rb_sub [2, 3, 4, 1, 0] rfl (ih 0 (x4 + 1) _ h hE0)
        · replace h := rb_ifp c10 h
          refine rb_iconst (x := 1) hC dX12_rounds_61 (by decide) ?_
          refine rb_goto hC 66 dX12_rounds_62 (by decide) ?_
          refine rb_istore_n hC [(3, .int 1), (0, .ref (rb_ad w 0)), (1, .int x1), (2, .int x2), (4, .int x4)] dX12_rounds_66 (by decide) rfl ?_
          refine rb_iinc hC 4 [(4, .int (x4 + 1)), (3, .int 1), (0, .ref (rb_ad w 0)), (1, .int x1), (2, .int x2)] dX12_rounds_67 rfl rfl (by decide) rfl ?_
          refine rb_goto hC 36 dX12_rounds_70 (by decide) ?_
          exact rb_sub [2, 3, 4, 1, 0] rfl (ih 1 (x4 + 1) _ h hE0)
def xl_M_rounds_19 (x1 : Int32) : Nat → Int32 → Int32 → rb_St → Option (Int32 × rb_St)
  | 0, _, _, _ => none
  | n + 1, x2, x3, σ => if x3 = 0 then rb_b1 (xf_M_goFigure x1 σ) fun s5 => rb_b1 (xl_M_rounds_36 x1 (x2 + 1) s5 rb_FU 1 0) fun y11 => xl_M_rounds_19 x1 n (x2 + 1) y11 s5 else some (x2, σ)
set_option maxHeartbeats 4000000 in
set_option maxRecDepth 100000 in
theorem xt_M_rounds_19 {z : rb_Z} {w : rb_Wd} {Q : State → Prop} (hC : rb_Cx z rb_vM w RX12 cX12_rounds 5 (some .int) 2) (x1 : Int32) : ∀ (n : Nat) (x2 : Int32) (x3 : Int32) (σ : rb_St) (y2 : Int32) (σ9 : rb_St), xl_M_rounds_19 x1 n x2 x3 σ = some (y2, σ9) → rb_At z rb_vM w 5 Q 76 [(2, .int y2)] [] σ9 → rb_At z rb_vM w 5 Q 19 [(0, .ref (rb_ad w 0)), (1, .int x1), (2, .int x2), (3, .int x3)] [] σ := by
  intro n
  induction n with
  | zero =>
    intro x2 x3 σ y2 σ9 h hE0
    cases h
  | succ n ih =>
    intro x2 x3 σ y2 σ9 h hE0
    rw [xl_M_rounds_19] at h
    refine rb_iload_n hC 3 dX12_rounds_19 rfl ?_
    refine rb_if_ne hC 76 dX12_rounds_20 (by decide) (fun c4 => ?_) (fun c4 => ?_)
    · replace h := rb_ifn c4 h
      cases h
      exact rb_sub [2] rfl (hE0)
    · replace h := rb_ifp c4 h
      refine rb_aload_n hC 0 dX12_rounds_23 rfl ?_
      refine rb_iload_n hC 1 dX12_rounds_24 rfl ?_
      obtain ⟨s5, q6, h⟩ := rb_b1s h
      refine rb_callVv hC rb_VokM mv_X12_438 (xc_M_goFigure x1 σ _ q6) rb_obM0 rfl [.int x1] rfl rfl rfl ⟨Nat.le_of_ble_eq_true rfl, Nat.le_of_ble_eq_true rfl⟩ (Nat.le_of_ble_eq_true rfl) dX12_rounds_25 ?_
      refine rb_iinc hC 2 [(2, .int (x2 + 1)), (0, .ref (rb_ad w 0)), (1, .int x1), (3, .int x3)] dX12_rounds_28 rfl rfl (by decide) rfl ?_
      refine rb_iconst (x := 1) hC dX12_rounds_31 (by decide) ?_
      refine rb_istore_n hC [(3, .int 1), (2, .int (x2 + 1)), (0, .ref (rb_ad w 0)), (1, .int x1)] dX12_rounds_32 (by decide) rfl ?_
      refine rb_iconst (x := 0) hC dX12_rounds_33 (by decide) ?_
      refine rb_istore hC [(4, .int 0), (3, .int 1), (2, .int (x2 + 1)), (0, .ref (rb_ad w 0)), (1, .int x1)] dX12_rounds_34 (by decide) rfl ?_
      obtain ⟨y11, q12, h⟩ := rb_b1s h
      refine rb_sub (lv2 := [(0, .ref (rb_ad w 0)), (1, .int x1), (2, .int (x2 + 1)), (3, .int 1), (4, .int 0)]) [3, 4, 2, 1, 0] rfl ?_
      refine xt_M_rounds_36 hC x1 (x2 + 1) s5 rb_FU 1 0 _ q12 ?_
      refine rb_goto hC 19 dX12_rounds_73 (by decide) ?_
      exact rb_sub [0, 1, 2, 3] rfl (ih (x2 + 1) y11 s5 _ _ h hE0)
def xf_M_rounds (p0 : Int32) (σ : rb_St) : Option (Int32 × rb_St) := if (xf_M_isFigure p0 σ) = 0 then some ((-1), σ) else rb_b1 (xf_M_startAt 0 σ) fun s2 => rb_b2 (xl_M_rounds_19 p0 rb_FU 0 0 s2) fun y13 s14 => some (y13, s14)
set_option maxHeartbeats 4000000 in
set_option maxRecDepth 100000 in
theorem xk_M_rounds {z : rb_Z} {w : rb_Wd} (hC : rb_Cx z rb_vM w RX12 cX12_rounds 5 (some .int) 2) (p0 : Int32) (σ : rb_St) (r : Int32) (σ9 : rb_St) (h : xf_M_rounds p0 σ = some (r, σ9)) : rb_At z rb_vM w 5 (rb_Q z rb_vM w (some (.int r)) σ9) 0 [(0, .ref (rb_ad w 0)), (1, .int p0)] [] σ := by
  unfold xf_M_rounds at h
  refine rb_aload_n hC 0 dX12_rounds_0 rfl ?_
  refine rb_iload_n hC 1 dX12_rounds_1 rfl ?_
  refine rb_callVi hC rb_VokM mv_X12_407 (xc_M_isFigure p0 σ _ rfl) rb_obM0 rfl [.int p0] rfl rfl rfl ⟨Nat.le_of_ble_eq_true rfl, Nat.le_of_ble_eq_true rfl⟩ (Nat.le_of_ble_eq_true rfl) dX12_rounds_2 ?_
  refine rb_if_ne hC 10 dX12_rounds_5 (by decide) (fun c1 => ?_) (fun c1 => ?_)
  · replace h := rb_ifn c1 h
    refine rb_aload_n hC 0 dX12_rounds_10 rfl ?_
    refine rb_iconst (x := 0) hC dX12_rounds_11 (by decide) ?_
    obtain ⟨s2, q3, h⟩ := rb_b1s h
    refine rb_callVv hC rb_VokM mv_X12_434 (xc_M_startAt 0 σ _ q3) rb_obM0 rfl [.int 0] rfl rfl rfl ⟨Nat.le_of_ble_eq_true rfl, Nat.le_of_ble_eq_true rfl⟩ (Nat.le_of_ble_eq_true rfl) dX12_rounds_12 ?_
    refine rb_iconst (x := 0) hC dX12_rounds_15 (by decide) ?_
    refine rb_istore_n hC [(2, .int 0), (0, .ref (rb_ad w 0)), (1, .int p0)] dX12_rounds_16 (by decide) rfl ?_
    refine rb_iconst (x := 0) hC dX12_rounds_17 (by decide) ?_
    refine rb_istore_n hC [(3, .int 0), (2, .int 0), (0, .ref (rb_ad w 0)), (1, .int p0)] dX12_rounds_18 (by decide) rfl ?_
    obtain ⟨y13, s14, q15, h⟩ := rb_b2s h
    refine rb_sub (lv2 := [(0, .ref (rb_ad w 0)), (1, .int p0), (2, .int 0), (3, .int 0)]) [2, 3, 1, 0] rfl ?_
    refine xt_M_rounds_19 hC p0 rb_FU 0 0 s2 _ _ q15 ?_
    refine rb_iload_n hC 0 dX12_rounds_76 rfl ?_
    cases h
    exact rb_iret hC dX12_rounds_77
  · replace h := rb_ifp c1 h
    refine rb_iconst (x := (-1)) hC dX12_rounds_8 (by decide) ?_
    cases h
    exact rb_iret hC dX12_rounds_9
theorem xc_M_rounds (p0 : Int32) (σ : rb_St) (r : Int32) (σ9 : rb_St) (h : xf_M_rounds p0 σ = some (r, σ9)) : rb_Con rb_vM yX12_rounds cX12_rounds 5 (some .int) 2 (fun w => [.ref (rb_ad w 0), .int p0]) σ (fun _ => (some (.int r))) σ9 := rb_Con.of (by decide +kernel) (fun _ => Nat.le_of_ble_eq_true rfl) (fun z w hC => xk_M_rounds hC p0 σ r σ9 h)
theorem me_X12_addLetter : Cond.instanceMethod yX12_addLetter ∈ rb_tbl ∧ Cond.selects yX12_addLetter.cls yX12_addLetter yX12_addLetter ∈ rb_tbl ∧ Cond.initialized yX12_addLetter.cls ∈ rb_tbl ∧ Cond.code yX12_addLetter cX12_addLetter 4 none ∈ rb_tbl ∧ rb_pn yX12_addLetter 1 := ⟨rb_in (by decide +kernel) (by decide +kernel), rb_in (by decide +kernel) (by decide +kernel), rb_in (by decide +kernel) (by decide +kernel), rb_in (by decide +kernel) (by decide +kernel), by decide +kernel, by decide +kernel, by decide +kernel⟩
theorem mv_X12_444 : rb_MV RX12 444 yX12_addLetter cX12_addLetter 4 none 1 := ⟨rb_in (by decide +kernel) (by decide +kernel), me_X12_addLetter⟩
def xl_M_layFigure_2 (x1 : Int32) : Nat → Int32 → rb_St → Option (rb_St)
  | 0, _, _ => none
  | n + 1, x2, σ => if rb_ib x1 7 then if (σ.1 16 x1.toNatClampNeg) ≤ x2 then some σ else rb_b1 (xf_M_stepOf x1 x2 σ) fun r3 => if r3 = 20 then xl_M_layFigure_2 x1 n (x2 + 1) σ else rb_b1 (xf_M_stepOf x1 x2 σ) fun r6 => rb_b1 (xf_M_addLetter r6 σ) fun s8 => xl_M_layFigure_2 x1 n (x2 + 1) s8 else none
set_option maxHeartbeats 4000000 in
set_option maxRecDepth 100000 in
theorem xt_M_layFigure_2 {z : rb_Z} {w : rb_Wd} {Q : State → Prop} (hC : rb_Cx z rb_vM w RX12 cX12_layFigure 3 none 3) (x1 : Int32) : ∀ (n : Nat) (x2 : Int32) (σ : rb_St) (σ9 : rb_St), xl_M_layFigure_2 x1 n x2 σ = some σ9 → rb_At z rb_vM w 3 Q 39 [] [] σ9 → rb_At z rb_vM w 3 Q 2 [(0, .ref (rb_ad w 0)), (1, .int x1), (2, .int x2)] [] σ := by
  intro n
  induction n with
  | zero =>
    intro x2 σ σ9 h hE0
    cases h
  | succ n ih =>
    intro x2 σ σ9 h hE0
    rw [xl_M_layFigure_2] at h
    refine rb_iload_n hC 2 dX12_layFigure_2 rfl ?_
    refine rb_aload_n hC 0 dX12_layFigure_3 rfl ?_
    refine rb_getR hC fr_X12_55_11 rb_obM0 rfl dX12_layFigure_4 ?_
    refine rb_iload_n hC 1 dX12_layFigure_7 rfl ?_
    obtain ⟨g1, h⟩ := rb_gd h
    refine rb_iald hC rb_arM16 (rb_ibI g1) dX12_layFigure_8 ?_
    refine rb_icmp_ge hC 39 dX12_layFigure_9 (by decide) (fun c2 => ?_) (fun c2 => ?_)
    · replace h := rb_ifp c2 h
      cases h
      exact rb_sub [] rfl (hE0)
    · replace h := rb_ifn c2 h
      refine rb_aload_n hC 0 dX12_layFigure_12 rfl ?_
      refine rb_iload_n hC 1 dX12_layFigure_13 rfl ?_
      refine rb_iload_n hC 2 dX12_layFigure_14 rfl ?_
      obtain ⟨r3, q4, h⟩ := rb_b1s h
      refine rb_callVi hC rb_VokM mv_X12_410 (xc_M_stepOf x1 x2 σ _ q4) rb_obM0 rfl [.int x1, .int x2] rfl rfl rfl ⟨Nat.le_of_ble_eq_true rfl, Nat.le_of_ble_eq_true rfl⟩ (Nat.le_of_ble_eq_true rfl) dX12_layFigure_15 ?_
      refine rb_bipush (x := 20) hC dX12_layFigure_18 (by decide) ?_
      refine rb_icmp_eq hC 33 dX12_layFigure_20 (by decide) (fun c5 => ?_) (fun c5 => ?_)
      · replace h := rb_ifp c5 h
        refine rb_iinc hC 2 [(2, .int (x2 + 1)), (0, .ref (rb_ad w 0)), (1, .int x1)] dX12_layFigure_33 rfl rfl (by decide) rfl ?_
        refine rb_goto hC 2 dX12_layFigure_36 (by decide) ?_
        exact rb_sub [1, 2, 0] rfl (ih (x2 + 1) σ _ h hE0)
      · replace h := rb_ifn c5 h
        refine rb_aload_n hC 0 dX12_layFigure_23 rfl ?_
        refine rb_aload_n hC 0 dX12_layFigure_24 rfl ?_
        refine rb_iload_n hC 1 dX12_layFigure_25 rfl ?_
        refine rb_iload_n hC 2 dX12_layFigure_26 rfl ?_
        obtain ⟨r6, q7, h⟩ := rb_b1s h
        refine rb_callVi hC rb_VokM mv_X12_410 (xc_M_stepOf x1 x2 σ _ q7) rb_obM0 rfl [.int x1, .int x2] rfl rfl rfl ⟨Nat.le_of_ble_eq_true rfl, Nat.le_of_ble_eq_true rfl⟩ (Nat.le_of_ble_eq_true rfl) dX12_layFigure_27 ?_
        obtain ⟨s8, q9, h⟩ := rb_b1s h
        refine rb_callVv hC rb_VokM mv_X12_444 (xc_M_addLetter r6 σ _ q9) rb_obM0 rfl [.int r6] rfl rfl rfl ⟨Nat.le_of_ble_eq_true rfl, Nat.le_of_ble_eq_true rfl⟩ (Nat.le_of_ble_eq_true rfl) dX12_layFigure_30 ?_
        refine rb_iinc hC 2 [(2, .int (x2 + 1)), (0, .ref (rb_ad w 0)), (1, .int x1)] dX12_layFigure_33 rfl rfl (by decide) rfl ?_
        refine rb_goto hC 2 dX12_layFigure_36 (by decide) ?_
        exact rb_sub [1, 2, 0] rfl (ih (x2 + 1) s8 _ h hE0)
def xf_M_layFigure (p0 : Int32) (σ : rb_St) : Option (rb_St) := rb_b1 (xl_M_layFigure_2 p0 rb_FU 0 σ) fun s10 => some s10
set_option maxHeartbeats 4000000 in
set_option maxRecDepth 100000 in
theorem xk_M_layFigure {z : rb_Z} {w : rb_Wd} (hC : rb_Cx z rb_vM w RX12 cX12_layFigure 3 none 3) (p0 : Int32) (σ : rb_St) (σ9 : rb_St) (h : xf_M_layFigure p0 σ = some σ9) : rb_At z rb_vM w 3 (rb_Q z rb_vM w none σ9) 0 [(0, .ref (rb_ad w 0)), (1, .int p0)] [] σ := by
  unfold xf_M_layFigure at h
  refine rb_iconst (x := 0) hC dX12_layFigure_0 (by decide) ?_
  refine rb_istore_n hC [(2, .int 0), (0, .ref (rb_ad w 0)), (1, .int p0)] dX12_layFigure_1 (by decide) rfl ?_
  obtain ⟨s10, q11, h⟩ := rb_b1s h
  refine rb_sub (lv2 := [(0, .ref (rb_ad w 0)), (1, .int p0), (2, .int 0)]) [1, 2, 0] rfl ?_
  refine xt_M_layFigure_2 hC p0 rb_FU 0 σ _ q11 ?_
  cases h
  exact rb_vret hC dX12_layFigure_39
theorem xc_M_layFigure (p0 : Int32) (σ : rb_St) (σ9 : rb_St) (h : xf_M_layFigure p0 σ = some σ9) : rb_Con rb_vM yX12_layFigure cX12_layFigure 3 none 3 (fun w => [.ref (rb_ad w 0), .int p0]) σ (fun _ => none) σ9 := rb_Con.of (by decide +kernel) (fun _ => Nat.le_of_ble_eq_true rfl) (fun z w hC => xk_M_layFigure hC p0 σ σ9 h)
theorem me_X12_layFigure : Cond.instanceMethod yX12_layFigure ∈ rb_tbl ∧ Cond.selects yX12_layFigure.cls yX12_layFigure yX12_layFigure ∈ rb_tbl ∧ Cond.initialized yX12_layFigure.cls ∈ rb_tbl ∧ Cond.code yX12_layFigure cX12_layFigure 3 none ∈ rb_tbl ∧ rb_pn yX12_layFigure 1 := ⟨rb_in (by decide +kernel) (by decide +kernel), rb_in (by decide +kernel) (by decide +kernel), rb_in (by decide +kernel) (by decide +kernel), rb_in (by decide +kernel) (by decide +kernel), by decide +kernel, by decide +kernel, by decide +kernel⟩
theorem mv_X12_447 : rb_MV RX12 447 yX12_layFigure cX12_layFigure 3 none 1 := ⟨rb_in (by decide +kernel) (by decide +kernel), me_X12_layFigure⟩
def xf_M_knot (p0 : Int32) (σ : rb_St) : Option (Int32 × rb_St) := if (xf_M_isFigure p0 σ) = 0 then some ((-1), σ) else rb_lt (rb_sI σ 0 33 0) (fun s2 => rb_b1 (xf_M_layFigure p0 s2) fun s4 => some (s4.1 0 33, s4))
set_option maxHeartbeats 4000000 in
set_option maxRecDepth 100000 in
theorem xk_M_knot {z : rb_Z} {w : rb_Wd} (hC : rb_Cx z rb_vM w RX12 cX12_knot 2 (some .int) 4) (p0 : Int32) (σ : rb_St) (r : Int32) (σ9 : rb_St) (h : xf_M_knot p0 σ = some (r, σ9)) : rb_At z rb_vM w 2 (rb_Q z rb_vM w (some (.int r)) σ9) 0 [(0, .ref (rb_ad w 0)), (1, .int p0)] [] σ := by
  unfold xf_M_knot at h
  refine rb_aload_n hC 0 dX12_knot_0 rfl ?_
  refine rb_iload_n hC 1 dX12_knot_1 rfl ?_
  refine rb_callVi hC rb_VokM mv_X12_407 (xc_M_isFigure p0 σ _ rfl) rb_obM0 rfl [.int p0] rfl rfl rfl ⟨Nat.le_of_ble_eq_true rfl, Nat.le_of_ble_eq_true rfl⟩ (Nat.le_of_ble_eq_true rfl) dX12_knot_2 ?_
  refine rb_if_ne hC 10 dX12_knot_5 (by decide) (fun c1 => ?_) (fun c1 => ?_)
  · replace h := rb_ifn c1 h
    refine rb_aload_n hC 0 dX12_knot_10 rfl ?_
    refine rb_iconst (x := 0) hC dX12_knot_11 (by decide) ?_
    refine rb_putI hC fr_X12_382_11 ft_11_33 rb_obM0 rfl rfl rfl dX12_knot_12 ?_
    obtain ⟨s2, e3, h⟩ := rb_ltE h
    refine rb_nmS e3 ?_
    refine rb_aload_n hC 0 dX12_knot_15 rfl ?_
    refine rb_iload_n hC 1 dX12_knot_16 rfl ?_
    obtain ⟨s4, q5, h⟩ := rb_b1s h
    refine rb_callVv hC rb_VokM mv_X12_447 (xc_M_layFigure p0 s2 _ q5) rb_obM0 rfl [.int p0] rfl rfl rfl ⟨Nat.le_of_ble_eq_true rfl, Nat.le_of_ble_eq_true rfl⟩ (Nat.le_of_ble_eq_true rfl) dX12_knot_17 ?_
    refine rb_aload_n hC 0 dX12_knot_20 rfl ?_
    refine rb_getI hC fr_X12_382_11 rb_obM0 rfl dX12_knot_21 ?_
    cases h
    exact rb_iret hC dX12_knot_24
  · replace h := rb_ifp c1 h
    refine rb_iconst (x := (-1)) hC dX12_knot_8 (by decide) ?_
    cases h
    exact rb_iret hC dX12_knot_9
theorem xc_M_knot (p0 : Int32) (σ : rb_St) (r : Int32) (σ9 : rb_St) (h : xf_M_knot p0 σ = some (r, σ9)) : rb_Con rb_vM yX12_knot cX12_knot 2 (some .int) 4 (fun w => [.ref (rb_ad w 0), .int p0]) σ (fun _ => (some (.int r))) σ9 := rb_Con.of (by decide +kernel) (fun _ => Nat.le_of_ble_eq_true rfl) (fun z w hC => xk_M_knot hC p0 σ r σ9 h)
theorem fr_X12_84_11 : rb_FR RX12 84 11 38 := ⟨RX12, TX12, 50, "RibbonPoleModel", rfl, rb_uX12, by decide, rb_in (by decide +kernel) (by decide +kernel), Or.inl rfl⟩
def xl_M_same_40 (x2 : Int32) (x3 : Int32) : Nat → Int32 → rb_St → Option (rb_St)
  | 0, _, _ => none
  | n + 1, x4, σ => if x3 ≤ x4 then some σ else if rb_ib x4 88 then if rb_ib (σ.1 20 x4.toNatClampNeg) 88 then if rb_ib x4 48 then rb_lt (rb_sI σ 24 x4.toNatClampNeg (σ.1 19 (σ.1 20 x4.toNatClampNeg).toNatClampNeg)) (fun s13 => xl_M_same_40 x2 x3 n (x4 + 1) s13) else none else none else none
set_option maxHeartbeats 4000000 in
set_option maxRecDepth 100000 in
theorem xt_M_same_40 {z : rb_Z} {w : rb_Wd} {Q : State → Prop} (hC : rb_Cx z rb_vM w RX12 cX12_same 6 (some .int) 4) (x2 : Int32) (x3 : Int32) : ∀ (n : Nat) (x4 : Int32) (σ : rb_St) (σ9 : rb_St), xl_M_same_40 x2 x3 n x4 σ = some σ9 → rb_At z rb_vM w 6 Q 71 [(0, .ref (rb_ad w 0)), (2, .int x2), (3, .int x3)] [] σ9 → rb_At z rb_vM w 6 Q 40 [(0, .ref (rb_ad w 0)), (2, .int x2), (3, .int x3), (4, .int x4)] [] σ := by
  intro n
  induction n with
  | zero =>
    intro x4 σ σ9 h hE0
    cases h
  | succ n ih =>
    intro x4 σ σ9 h hE0
    rw [xl_M_same_40] at h
    refine rb_iload hC 3 dX12_same_40 rfl ?_
    refine rb_iload_n hC 2 dX12_same_42 rfl ?_
    refine rb_icmp_ge hC 71 dX12_same_43 (by decide) (fun c9 => ?_) (fun c9 => ?_)
    · replace h := rb_ifp c9 h
      cases h
      exact rb_sub [0, 1, 2] rfl (hE0)
    · replace h := rb_ifn c9 h
      refine rb_aload_n hC 0 dX12_same_46 rfl ?_
      refine rb_getR hC fr_X12_84_11 rb_obM0 rfl dX12_same_47 ?_
      refine rb_iload hC 3 dX12_same_50 rfl ?_
      refine rb_aload_n hC 0 dX12_same_52 rfl ?_
      refine rb_getR hC fr_X12_68_11 rb_obM0 rfl dX12_same_53 ?_
      refine rb_aload_n hC 0 dX12_same_56 rfl ?_
      refine rb_getR hC fr_X12_71_11 rb_obM0 rfl dX12_same_57 ?_
      refine rb_iload hC 3 dX12_same_60 rfl ?_
      obtain ⟨g10, h⟩ := rb_gd h
      refine rb_iald hC rb_arM20 (rb_ibI g10) dX12_same_62 ?_
      obtain ⟨g11, h⟩ := rb_gd h
      refine rb_iald hC rb_arM19 (rb_ibI g11) dX12_same_63 ?_
      obtain ⟨g12, h⟩ := rb_gd h
      refine rb_iast hC rb_arM24 (rb_ibI g12) dX12_same_64 ?_
      obtain ⟨s13, e14, h⟩ := rb_ltE h
      refine rb_nmS e14 ?_
      refine rb_iinc hC 3 [(4, .int (x4 + 1)), (0, .ref (rb_ad w 0)), (2, .int x2), (3, .int x3)] dX12_same_65 rfl rfl (by decide) rfl ?_
      refine rb_goto hC 40 dX12_same_68 (by decide) ?_
      exact rb_sub [1, 2, 3, 0] rfl (ih (x4 + 1) s13 _ h hE0)
def xl_M_same_103 (x3 : Int32) (σ : rb_St) : Nat → Int32 → Int32 → Option (Int32)
  | 0, _, _ => none
  | n + 1, x4, x5 => if x3 ≤ x5 then some x4 else if x4 = 0 then some x4 else if rb_ib x5 48 then if rb_ib x5 88 then if rb_ib (σ.1 20 x5.toNatClampNeg) 88 then if (σ.1 24 x5.toNatClampNeg) = (σ.1 19 (σ.1 20 x5.toNatClampNeg).toNatClampNeg) then xl_M_same_103 x3 σ n 1 (x5 + 1) else xl_M_same_103 x3 σ n 0 (x5 + 1) else none else none else none
set_option maxHeartbeats 4000000 in
set_option maxRecDepth 100000 in
theorem xt_M_same_103 {z : rb_Z} {w : rb_Wd} {Q : State → Prop} (hC : rb_Cx z rb_vM w RX12 cX12_same 6 (some .int) 4) (x3 : Int32) (σ : rb_St) : ∀ (n : Nat) (x4 : Int32) (x5 : Int32) (y4 : Int32), xl_M_same_103 x3 σ n x4 x5 = some y4 → rb_At z rb_vM w 6 Q 149 [(4, .int y4)] [] σ → rb_At z rb_vM w 6 Q 103 [(0, .ref (rb_ad w 0)), (3, .int x3), (4, .int x4), (5, .int x5)] [] σ := by
  intro n
  induction n with
  | zero =>
    intro x4 x5 y4 h hE0
    cases h
  | succ n ih =>
    intro x4 x5 y4 h hE0
    rw [xl_M_same_103] at h
    refine rb_iload hC 3 dX12_same_103 rfl ?_
    refine rb_iload_n hC 1 dX12_same_105 rfl ?_
    refine rb_icmp_ge hC 149 dX12_same_106 (by decide) (fun c24 => ?_) (fun c24 => ?_)
    · replace h := rb_ifp c24 h
      cases h
      exact rb_sub [2] rfl (hE0)
    · replace h := rb_ifn c24 h
      refine rb_iload hC 2 dX12_same_109 rfl ?_
      refine rb_if_eq hC 149 dX12_same_111 (by decide) (fun c25 => ?_) (fun c25 => ?_)
      · replace h := rb_ifp c25 h
        cases h
        exact rb_sub [2] rfl (hE0)
      · replace h := rb_ifn c25 h
        refine rb_aload_n hC 0 dX12_same_114 rfl ?_
        refine rb_getR hC fr_X12_84_11 rb_obM0 rfl dX12_same_115 ?_
        refine rb_iload hC 3 dX12_same_118 rfl ?_
        obtain ⟨g26, h⟩ := rb_gd h
        refine rb_iald hC rb_arM24 (rb_ibI g26) dX12_same_120 ?_
        refine rb_aload_n hC 0 dX12_same_121 rfl ?_
        refine rb_getR hC fr_X12_68_11 rb_obM0 rfl dX12_same_122 ?_
        refine rb_aload_n hC 0 dX12_same_125 rfl ?_
        refine rb_getR hC fr_X12_71_11 rb_obM0 rfl dX12_same_126 ?_
        refine rb_iload hC 3 dX12_same_129 rfl ?_
        obtain ⟨g27, h⟩ := rb_gd h
        refine rb_iald hC rb_arM20 (rb_ibI g27) dX12_same_131 ?_
        obtain ⟨g28, h⟩ := rb_gd h
        refine rb_iald hC rb_arM19 (rb_ibI g28) dX12_same_132 ?_
        refine rb_icmp_ne hC 140 dX12_same_133 (by decide) (fun c29 => ?_) (fun c29 => ?_)
        · replace h := rb_ifn c29 h
          refine rb_iconst (x := 0) hC dX12_same_140 (by decide) ?_
          refine rb_istore hC [(4, .int 0), (0, .ref (rb_ad w 0)), (3, .int x3), (5, .int x5)] dX12_same_141 (by decide) rfl ?_
          refine rb_iinc hC 3 [(5, .int (x5 + 1)), (4, .int 0), (0, .ref (rb_ad w 0)), (3, .int x3)] dX12_same_143 rfl rfl (by decide) rfl ?_
          refine rb_goto hC 103 dX12_same_146 (by decide) ?_
          exact rb_sub [2, 3, 1, 0] rfl (ih 0 (x5 + 1) _ h hE0)
        · replace h := rb_ifp c29 h
          refine rb_iconst (x := 1) hC dX12_same_136 (by decide) ?_
          refine rb_goto hC 141 dX12_same_137 (by decide) ?_
          refine rb_istore hC [(4, .int 1), (0, .ref (rb_ad w 0)), (3, .int x3), (5, .int x5)] dX12_same_141 (by decide) rfl ?_
          refine rb_iinc hC 3 [(5, .int (x5 + 1)), (4, .int 1), (0, .ref (rb_ad w 0)), (3, .int x3)] dX12_same_143 rfl rfl (by decide) rfl ?_
          refine rb_goto hC 103 dX12_same_146 (by decide) ?_
          exact rb_sub [2, 3, 1, 0] rfl (ih 1 (x5 + 1) _ h hE0)
def xf_M_same (p0 : Int32) (p1 : Int32) (σ : rb_St) : Option (Int32 × rb_St) := if (xf_M_isFigure p0 σ) = 0 then some ((-1), σ) else if (xf_M_isFigure p1 σ) = 0 then some ((-1), σ) else rb_lt (rb_sI σ 0 33 0) (fun s3 => rb_b1 (xf_M_layFigure p0 s3) fun s5 => rb_b1 (xf_M_layOrder s5) fun s7 => rb_b1 (xl_M_same_40 p1 (s7.1 0 33) rb_FU 0 s7) fun s15 => rb_lt (rb_sI s15 0 33 0) (fun s17 => rb_b1 (xf_M_layFigure p1 s17) fun s19 => rb_b1 (xf_M_layOrder s19) fun s21 => if (s21.1 0 33) = (s7.1 0 33) then rb_b1 (xl_M_same_103 (s7.1 0 33) s21 rb_FU 1 0) fun y33 => if y33 = 0 then some (0, s21) else some (1, s21) else rb_b1 (xl_M_same_103 (s7.1 0 33) s21 rb_FU 0 0) fun y30 => if y30 = 0 then some (0, s21) else some (1, s21)))
set_option maxHeartbeats 4000000 in
set_option maxRecDepth 100000 in
theorem xk_M_same {z : rb_Z} {w : rb_Wd} (hC : rb_Cx z rb_vM w RX12 cX12_same 6 (some .int) 4) (p0 : Int32) (p1 : Int32) (σ : rb_St) (r : Int32) (σ9 : rb_St) (h : xf_M_same p0 p1 σ = some (r, σ9)) : rb_At z rb_vM w 6 (rb_Q z rb_vM w (some (.int r)) σ9) 0 [(0, .ref (rb_ad w 0)), (1, .int p0), (2, .int p1)] [] σ := by
  unfold xf_M_same at h
  refine rb_aload_n hC 0 dX12_same_0 rfl ?_
  refine rb_iload_n hC 1 dX12_same_1 rfl ?_
  refine rb_callVi hC rb_VokM mv_X12_407 (xc_M_isFigure p0 σ _ rfl) rb_obM0 rfl [.int p0] rfl rfl rfl ⟨Nat.le_of_ble_eq_true rfl, Nat.le_of_ble_eq_true rfl⟩ (Nat.le_of_ble_eq_true rfl) dX12_same_2 ?_
  refine rb_if_eq hC 16 dX12_same_5 (by decide) (fun c1 => ?_) (fun c1 => ?_)
  · replace h := rb_ifp c1 h
    refine rb_iconst (x := (-1)) hC dX12_same_16 (by decide) ?_
    cases h
    exact rb_iret hC dX12_same_17
  · replace h := rb_ifn c1 h
    refine rb_aload_n hC 0 dX12_same_8 rfl ?_
    refine rb_iload_n hC 2 dX12_same_9 rfl ?_
    refine rb_callVi hC rb_VokM mv_X12_407 (xc_M_isFigure p1 σ _ rfl) rb_obM0 rfl [.int p1] rfl rfl rfl ⟨Nat.le_of_ble_eq_true rfl, Nat.le_of_ble_eq_true rfl⟩ (Nat.le_of_ble_eq_true rfl) dX12_same_10 ?_
    refine rb_if_ne hC 18 dX12_same_13 (by decide) (fun c2 => ?_) (fun c2 => ?_)
    · replace h := rb_ifn c2 h
      refine rb_aload_n hC 0 dX12_same_18 rfl ?_
      refine rb_iconst (x := 0) hC dX12_same_19 (by decide) ?_
      refine rb_putI hC fr_X12_382_11 ft_11_33 rb_obM0 rfl rfl rfl dX12_same_20 ?_
      obtain ⟨s3, e4, h⟩ := rb_ltE h
      refine rb_nmS e4 ?_
      refine rb_aload_n hC 0 dX12_same_23 rfl ?_
      refine rb_iload_n hC 1 dX12_same_24 rfl ?_
      obtain ⟨s5, q6, h⟩ := rb_b1s h
      refine rb_callVv hC rb_VokM mv_X12_447 (xc_M_layFigure p0 s3 _ q6) rb_obM0 rfl [.int p0] rfl rfl rfl ⟨Nat.le_of_ble_eq_true rfl, Nat.le_of_ble_eq_true rfl⟩ (Nat.le_of_ble_eq_true rfl) dX12_same_25 ?_
      refine rb_aload_n hC 0 dX12_same_28 rfl ?_
      obtain ⟨s7, q8, h⟩ := rb_b1s h
      refine rb_callVv hC rb_VokM mv_X12_391 (xc_M_layOrder  s5 _ q8) rb_obM0 rfl [] rfl rfl rfl ⟨Nat.le_of_ble_eq_true rfl, Nat.le_of_ble_eq_true rfl⟩ (Nat.le_of_ble_eq_true rfl) dX12_same_29 ?_
      refine rb_aload_n hC 0 dX12_same_32 rfl ?_
      refine rb_getI hC fr_X12_382_11 rb_obM0 rfl dX12_same_33 ?_
      refine rb_istore_n hC [(3, .int (s7.1 0 33)), (0, .ref (rb_ad w 0)), (1, .int p0), (2, .int p1)] dX12_same_36 (by decide) rfl ?_
      refine rb_iconst (x := 0) hC dX12_same_37 (by decide) ?_
      refine rb_istore hC [(4, .int 0), (3, .int (s7.1 0 33)), (0, .ref (rb_ad w 0)), (1, .int p0), (2, .int p1)] dX12_same_38 (by decide) rfl ?_
      obtain ⟨s15, q16, h⟩ := rb_b1s h
      refine rb_sub (lv2 := [(0, .ref (rb_ad w 0)), (2, .int p1), (3, .int (s7.1 0 33)), (4, .int 0)]) [2, 4, 1, 0] rfl ?_
      refine xt_M_same_40 hC p1 (s7.1 0 33) rb_FU 0 s7 _ q16 ?_
      refine rb_aload_n hC 0 dX12_same_71 rfl ?_
      refine rb_iconst (x := 0) hC dX12_same_72 (by decide) ?_
      refine rb_putI hC fr_X12_382_11 ft_11_33 rb_obM0 rfl rfl rfl dX12_same_73 ?_
      obtain ⟨s17, e18, h⟩ := rb_ltE h
      refine rb_nmS e18 ?_
      refine rb_aload_n hC 0 dX12_same_76 rfl ?_
      refine rb_iload_n hC 1 dX12_same_77 rfl ?_
      obtain ⟨s19, q20, h⟩ := rb_b1s h
      refine rb_callVv hC rb_VokM mv_X12_447 (xc_M_layFigure p1 s17 _ q20) rb_obM0 rfl [.int p1] rfl rfl rfl ⟨Nat.le_of_ble_eq_true rfl, Nat.le_of_ble_eq_true rfl⟩ (Nat.le_of_ble_eq_true rfl) dX12_same_78 ?_
      refine rb_aload_n hC 0 dX12_same_81 rfl ?_
      obtain ⟨s21, q22, h⟩ := rb_b1s h
      refine rb_callVv hC rb_VokM mv_X12_391 (xc_M_layOrder  s19 _ q22) rb_obM0 rfl [] rfl rfl rfl ⟨Nat.le_of_ble_eq_true rfl, Nat.le_of_ble_eq_true rfl⟩ (Nat.le_of_ble_eq_true rfl) dX12_same_82 ?_
      refine rb_aload_n hC 0 dX12_same_85 rfl ?_
      refine rb_getI hC fr_X12_382_11 rb_obM0 rfl dX12_same_86 ?_
      refine rb_iload_n hC 2 dX12_same_89 rfl ?_
      refine rb_icmp_ne hC 97 dX12_same_90 (by decide) (fun c23 => ?_) (fun c23 => ?_)
      · replace h := rb_ifn c23 h
        refine rb_iconst (x := 0) hC dX12_same_97 (by decide) ?_
        refine rb_istore hC [(4, .int 0), (0, .ref (rb_ad w 0)), (2, .int p1), (3, .int (s7.1 0 33))] dX12_same_98 (by decide) rfl ?_
        refine rb_iconst (x := 0) hC dX12_same_100 (by decide) ?_
        refine rb_istore hC [(5, .int 0), (4, .int 0), (0, .ref (rb_ad w 0)), (2, .int p1), (3, .int (s7.1 0 33))] dX12_same_101 (by decide) rfl ?_
        obtain ⟨y30, q31, h⟩ := rb_b1s h
        refine rb_sub (lv2 := [(0, .ref (rb_ad w 0)), (3, .int (s7.1 0 33)), (4, .int 0), (5, .int 0)]) [2, 4, 1, 0] rfl ?_
        refine xt_M_same_103 hC (s7.1 0 33) s21 rb_FU 0 0 _ q31 ?_
        refine rb_iload hC 0 dX12_same_149 rfl ?_
        refine rb_if_eq hC 158 dX12_same_151 (by decide) (fun c32 => ?_) (fun c32 => ?_)
        · replace h := rb_ifp c32 h
          refine rb_iconst (x := 0) hC dX12_same_158 (by decide) ?_
          cases h
          exact rb_iret hC dX12_same_159
        · replace h := rb_ifn c32 h
          refine rb_iconst (x := 1) hC dX12_same_154 (by decide) ?_
          refine rb_goto hC 159 dX12_same_155 (by decide) ?_
          cases h
          exact rb_iret hC dX12_same_159
      · replace h := rb_ifp c23 h
        refine rb_iconst (x := 1) hC dX12_same_93 (by decide) ?_
        refine rb_goto hC 98 dX12_same_94 (by decide) ?_
        refine rb_istore hC [(4, .int 1), (0, .ref (rb_ad w 0)), (2, .int p1), (3, .int (s7.1 0 33))] dX12_same_98 (by decide) rfl ?_
        refine rb_iconst (x := 0) hC dX12_same_100 (by decide) ?_
        refine rb_istore hC [(5, .int 0), (4, .int 1), (0, .ref (rb_ad w 0)), (2, .int p1), (3, .int (s7.1 0 33))] dX12_same_101 (by decide) rfl ?_
        obtain ⟨y33, q34, h⟩ := rb_b1s h
        refine rb_sub (lv2 := [(0, .ref (rb_ad w 0)), (3, .int (s7.1 0 33)), (4, .int 1), (5, .int 0)]) [2, 4, 1, 0] rfl ?_
        refine xt_M_same_103 hC (s7.1 0 33) s21 rb_FU 1 0 _ q34 ?_
        refine rb_iload hC 0 dX12_same_149 rfl ?_
        refine rb_if_eq hC 158 dX12_same_151 (by decide) (fun c35 => ?_) (fun c35 => ?_)
        · replace h := rb_ifp c35 h
          refine rb_iconst (x := 0) hC dX12_same_158 (by decide) ?_
          cases h
          exact rb_iret hC dX12_same_159
        · replace h := rb_ifn c35 h
          refine rb_iconst (x := 1) hC dX12_same_154 (by decide) ?_
          refine rb_goto hC 159 dX12_same_155 (by decide) ?_
          cases h
          exact rb_iret hC dX12_same_159
    · replace h := rb_ifp c2 h
      refine rb_iconst (x := (-1)) hC dX12_same_16 (by decide) ?_
      cases h
      exact rb_iret hC dX12_same_17
theorem xc_M_same (p0 : Int32) (p1 : Int32) (σ : rb_St) (r : Int32) (σ9 : rb_St) (h : xf_M_same p0 p1 σ = some (r, σ9)) : rb_Con rb_vM yX12_same cX12_same 6 (some .int) 4 (fun w => [.ref (rb_ad w 0), .int p0, .int p1]) σ (fun _ => (some (.int r))) σ9 := rb_Con.of (by decide +kernel) (fun _ => Nat.le_of_ble_eq_true rfl) (fun z w hC => xk_M_same hC p0 p1 σ r σ9 h)
theorem fr_X12_93_11 : rb_FR RX12 93 11 41 := ⟨RX12, TX12, 50, "RibbonPoleModel", rfl, rb_uX12, by decide, rb_in (by decide +kernel) (by decide +kernel), Or.inl rfl⟩
def xl_M_numberOf_19 (x1 : Int32) (x2 : Int32) (σ : rb_St) : Nat → Int32 → Int32 → Option (Int32)
  | 0, _, _ => none
  | n + 1, x3, x4 => if (σ.1 0 22) ≤ x4 then some x3 else if rb_ib x4 7 then if rb_ib x2 7 then if (σ.1 27 x2.toNatClampNeg) ≤ (σ.1 27 x4.toNatClampNeg) then xl_M_numberOf_19 x1 x2 σ n (x3 + 0) (x4 + 1) else xl_M_numberOf_19 x1 x2 σ n (x3 + 1) (x4 + 1) else none else none
set_option maxHeartbeats 4000000 in
set_option maxRecDepth 100000 in
theorem xt_M_numberOf_19 {z : rb_Z} {w : rb_Wd} {Q : State → Prop} (hC : rb_Cx z rb_vM w RX12 cX12_numberOf 5 (some .int) 0) (x1 : Int32) (x2 : Int32) (σ : rb_St) : ∀ (n : Nat) (x3 : Int32) (x4 : Int32) (y3 : Int32), xl_M_numberOf_19 x1 x2 σ n x3 x4 = some y3 → rb_At z rb_vM w 5 Q 58 [(0, .ref (rb_ad w 0)), (1, .int x1), (2, .int x2), (3, .int y3)] [] σ → rb_At z rb_vM w 5 Q 19 [(0, .ref (rb_ad w 0)), (1, .int x1), (2, .int x2), (3, .int x3), (4, .int x4)] [] σ := by
  intro n
  induction n with
  | zero =>
    intro x3 x4 y3 h hE0
    cases h
  | succ n ih =>
    intro x3 x4 y3 h hE0
    rw [xl_M_numberOf_19] at h
    refine rb_iload hC 4 dX12_numberOf_19 rfl ?_
    refine rb_aload_n hC 0 dX12_numberOf_21 rfl ?_
    refine rb_getI hC fr_X12_283_11 rb_obM0 rfl dX12_numberOf_22 ?_
    refine rb_icmp_ge hC 58 dX12_numberOf_25 (by decide) (fun c2 => ?_) (fun c2 => ?_)
    · replace h := rb_ifp c2 h
      cases h
      exact rb_sub [0, 1, 2, 3] rfl (hE0)
    · replace h := rb_ifn c2 h
      refine rb_iload_n hC 3 dX12_numberOf_28 rfl ?_
      refine rb_aload_n hC 0 dX12_numberOf_29 rfl ?_
      refine rb_getR hC fr_X12_93_11 rb_obM0 rfl dX12_numberOf_30 ?_
      refine rb_iload hC 4 dX12_numberOf_33 rfl ?_
      obtain ⟨g3, h⟩ := rb_gd h
      refine rb_iald hC rb_arM27 (rb_ibI g3) dX12_numberOf_35 ?_
      refine rb_aload_n hC 0 dX12_numberOf_36 rfl ?_
      refine rb_getR hC fr_X12_93_11 rb_obM0 rfl dX12_numberOf_37 ?_
      refine rb_iload_n hC 2 dX12_numberOf_40 rfl ?_
      obtain ⟨g4, h⟩ := rb_gd h
      refine rb_iald hC rb_arM27 (rb_ibI g4) dX12_numberOf_41 ?_
      refine rb_icmp_ge hC 49 dX12_numberOf_42 (by decide) (fun c5 => ?_) (fun c5 => ?_)
      · replace h := rb_ifp c5 h
        refine rb_iconst (x := 0) hC dX12_numberOf_49 (by decide) ?_
        refine rb_iadd hC dX12_numberOf_50 ?_
        refine rb_istore_n hC [(3, .int (x3 + 0)), (0, .ref (rb_ad w 0)), (1, .int x1), (2, .int x2), (4, .int x4)] dX12_numberOf_51 (by decide) rfl ?_
        refine rb_iinc hC 4 [(4, .int (x4 + 1)), (3, .int (x3 + 0)), (0, .ref (rb_ad w 0)), (1, .int x1), (2, .int x2)] dX12_numberOf_52 rfl rfl (by decide) rfl ?_
        refine rb_goto hC 19 dX12_numberOf_55 (by decide) ?_
        exact rb_sub [2, 3, 4, 1, 0] rfl (ih (x3 + 0) (x4 + 1) _ h hE0)
      · replace h := rb_ifn c5 h
        refine rb_iconst (x := 1) hC dX12_numberOf_45 (by decide) ?_
        refine rb_goto hC 50 dX12_numberOf_46 (by decide) ?_
        refine rb_iadd hC dX12_numberOf_50 ?_
        refine rb_istore_n hC [(3, .int (x3 + 1)), (0, .ref (rb_ad w 0)), (1, .int x1), (2, .int x2), (4, .int x4)] dX12_numberOf_51 (by decide) rfl ?_
        refine rb_iinc hC 4 [(4, .int (x4 + 1)), (3, .int (x3 + 1)), (0, .ref (rb_ad w 0)), (1, .int x1), (2, .int x2)] dX12_numberOf_52 rfl rfl (by decide) rfl ?_
        refine rb_goto hC 19 dX12_numberOf_55 (by decide) ?_
        exact rb_sub [2, 3, 4, 1, 0] rfl (ih (x3 + 1) (x4 + 1) _ h hE0)
def xl_M_numberOf_4  (σ : rb_St) : Nat → Int32 → Int32 → Option (Int32)
  | 0, _, _ => none
  | n + 1, x1, x2 => if (σ.1 0 22) ≤ x2 then some x1 else rb_b1 (xl_M_numberOf_19 x1 x2 σ rb_FU 0 (x2 + 1)) fun y6 => xl_M_numberOf_4 σ n ((x1 * ((σ.1 0 22) - x2)) + y6) (x2 + 1)
set_option maxHeartbeats 4000000 in
set_option maxRecDepth 100000 in
theorem xt_M_numberOf_4 {z : rb_Z} {w : rb_Wd} {Q : State → Prop} (hC : rb_Cx z rb_vM w RX12 cX12_numberOf 5 (some .int) 0)  (σ : rb_St) : ∀ (n : Nat) (x1 : Int32) (x2 : Int32) (y1 : Int32), xl_M_numberOf_4 σ n x1 x2 = some y1 → rb_At z rb_vM w 5 Q 75 [(1, .int y1)] [] σ → rb_At z rb_vM w 5 Q 4 [(0, .ref (rb_ad w 0)), (1, .int x1), (2, .int x2)] [] σ := by
  intro n
  induction n with
  | zero =>
    intro x1 x2 y1 h hE0
    cases h
  | succ n ih =>
    intro x1 x2 y1 h hE0
    rw [xl_M_numberOf_4] at h
    refine rb_iload_n hC 2 dX12_numberOf_4 rfl ?_
    refine rb_aload_n hC 0 dX12_numberOf_5 rfl ?_
    refine rb_getI hC fr_X12_283_11 rb_obM0 rfl dX12_numberOf_6 ?_
    refine rb_icmp_ge hC 75 dX12_numberOf_9 (by decide) (fun c1 => ?_) (fun c1 => ?_)
    · replace h := rb_ifp c1 h
      cases h
      exact rb_sub [1] rfl (hE0)
    · replace h := rb_ifn c1 h
      refine rb_iconst (x := 0) hC dX12_numberOf_12 (by decide) ?_
      refine rb_istore_n hC [(3, .int 0), (0, .ref (rb_ad w 0)), (1, .int x1), (2, .int x2)] dX12_numberOf_13 (by decide) rfl ?_
      refine rb_iload_n hC 3 dX12_numberOf_14 rfl ?_
      refine rb_iconst (x := 1) hC dX12_numberOf_15 (by decide) ?_
      refine rb_iadd hC dX12_numberOf_16 ?_
      refine rb_istore hC [(4, .int (x2 + 1)), (3, .int 0), (0, .ref (rb_ad w 0)), (1, .int x1), (2, .int x2)] dX12_numberOf_17 (by decide) rfl ?_
      obtain ⟨y6, q7, h⟩ := rb_b1s h
      refine rb_sub (lv2 := [(0, .ref (rb_ad w 0)), (1, .int x1), (2, .int x2), (3, .int 0), (4, .int (x2 + 1))]) [2, 3, 4, 1, 0] rfl ?_
      refine xt_M_numberOf_19 hC x1 x2 σ rb_FU 0 (x2 + 1) _ q7 ?_
      refine rb_iload_n hC 1 dX12_numberOf_58 rfl ?_
      refine rb_aload_n hC 0 dX12_numberOf_59 rfl ?_
      refine rb_getI hC fr_X12_283_11 rb_obM0 rfl dX12_numberOf_60 ?_
      refine rb_iload_n hC 2 dX12_numberOf_63 rfl ?_
      refine rb_isub hC dX12_numberOf_64 ?_
      refine rb_imul hC dX12_numberOf_65 ?_
      refine rb_iload_n hC 3 dX12_numberOf_66 rfl ?_
      refine rb_iadd hC dX12_numberOf_67 ?_
      refine rb_istore_n hC [(1, .int ((x1 * ((σ.1 0 22) - x2)) + y6)), (0, .ref (rb_ad w 0)), (2, .int x2), (3, .int y6)] dX12_numberOf_68 (by decide) rfl ?_
      refine rb_iinc hC 2 [(2, .int (x2 + 1)), (1, .int ((x1 * ((σ.1 0 22) - x2)) + y6)), (0, .ref (rb_ad w 0)), (3, .int y6)] dX12_numberOf_69 rfl rfl (by decide) rfl ?_
      refine rb_goto hC 4 dX12_numberOf_72 (by decide) ?_
      exact rb_sub [2, 1, 0] rfl (ih ((x1 * ((σ.1 0 22) - x2)) + y6) (x2 + 1) _ h hE0)
def xf_M_numberOf  (σ : rb_St) : Option Int32 := rb_b1 (xl_M_numberOf_4 σ rb_FU 0 0) fun y8 => some y8
set_option maxHeartbeats 4000000 in
set_option maxRecDepth 100000 in
theorem xk_M_numberOf {z : rb_Z} {w : rb_Wd} (hC : rb_Cx z rb_vM w RX12 cX12_numberOf 5 (some .int) 0)  (σ : rb_St) (r : Int32) (h : xf_M_numberOf σ = some r) : rb_At z rb_vM w 5 (rb_Q z rb_vM w (some (.int r)) σ) 0 [(0, .ref (rb_ad w 0))] [] σ := by
  unfold xf_M_numberOf at h
  refine rb_iconst (x := 0) hC dX12_numberOf_0 (by decide) ?_
  refine rb_istore_n hC [(1, .int 0), (0, .ref (rb_ad w 0))] dX12_numberOf_1 (by decide) rfl ?_
  refine rb_iconst (x := 0) hC dX12_numberOf_2 (by decide) ?_
  refine rb_istore_n hC [(2, .int 0), (1, .int 0), (0, .ref (rb_ad w 0))] dX12_numberOf_3 (by decide) rfl ?_
  obtain ⟨y8, q9, h⟩ := rb_b1s h
  refine rb_sub (lv2 := [(0, .ref (rb_ad w 0)), (1, .int 0), (2, .int 0)]) [2, 1, 0] rfl ?_
  refine xt_M_numberOf_4 hC  σ rb_FU 0 0 _ q9 ?_
  refine rb_iload_n hC 0 dX12_numberOf_75 rfl ?_
  cases h
  exact rb_iret hC dX12_numberOf_76
theorem xc_M_numberOf  (σ : rb_St) (r : Int32) (h : xf_M_numberOf σ = some r) : rb_Con rb_vM yX12_numberOf cX12_numberOf 5 (some .int) 0 (fun w => [.ref (rb_ad w 0)]) σ (fun _ => (some (.int r))) σ := rb_Con.of (by decide +kernel) (fun _ => Nat.le_of_ble_eq_true rfl) (fun z w hC => xk_M_numberOf hC  σ r h)
