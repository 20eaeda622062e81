theorem kc_X12_505 : Cond.constantLong RX12 505 100 ∈ rb_tbl := rb_in (by decide +kernel) (by decide +kernel)
theorem me_X12_oddsFrom : Cond.instanceMethod yX12_oddsFrom ∈ rb_tbl ∧ Cond.selects yX12_oddsFrom.cls yX12_oddsFrom yX12_oddsFrom ∈ rb_tbl ∧ Cond.initialized yX12_oddsFrom.cls ∈ rb_tbl ∧ Cond.code yX12_oddsFrom cX12_oddsFrom 8 (some .int) ∈ rb_tbl ∧ rb_pn yX12_oddsFrom 6 := ⟨rb_in (by decide +kernel) (by decide +kernel), rb_in (by decide +kernel) (by decide +kernel), rb_in (by decide +kernel) (by decide +kernel), rb_in (by decide +kernel) (by decide +kernel), by decide +kernel, by decide +kernel, by decide +kernel⟩
theorem mv_X12_502 : rb_MV RX12 502 yX12_oddsFrom cX12_oddsFrom 8 (some .int) 6 := ⟨rb_in (by decide +kernel) (by decide +kernel), me_X12_oddsFrom⟩
theorem me_X12_manyBy : Cond.instanceMethod yX12_manyBy ∈ rb_tbl ∧ Cond.selects yX12_manyBy.cls yX12_manyBy yX12_manyBy ∈ rb_tbl ∧ Cond.initialized yX12_manyBy.cls ∈ rb_tbl ∧ Cond.code yX12_manyBy cX12_manyBy 4 (some .int) ∈ rb_tbl ∧ rb_pn yX12_manyBy 2 := ⟨rb_in (by decide +kernel) (by decide +kernel), rb_in (by decide +kernel) (by decide +kernel), rb_in (by decide +kernel) (by decide +kernel), rb_in (by decide +kernel) (by decide +kernel), by decide +kernel, by decide +kernel, by decide +kernel⟩
theorem mv_X12_499 : rb_MV RX12 499 yX12_manyBy cX12_manyBy 4 (some .int) 2 := ⟨rb_in (by decide +kernel) (by decide +kernel), me_X12_manyBy⟩
abbrev xg_MO : Type := (Int32 → Int32 → Int32 → Int32 → Int32 → Int32 → rb_St → Option (Int32 × rb_St))
def xg_MO_ok (g : xg_MO) (h0 : Nat) : Prop := (∀ (p0 : Int32) (p1 : Int32) (p2 : Int32) (p3 : Int32) (p4 : Int32) (p5 : Int32) (σ : rb_St) (r : Int32) (σ9 : rb_St), g p0 p1 p2 p3 p4 p5 σ = some (r, σ9) → rb_Con rb_vM yX12_oddsFrom cX12_oddsFrom 8 (some .int) h0 (fun w => [.ref (rb_ad w 0), .int p0, .int p1, .int p2, .int p3, .int p4, .int p5]) σ (fun _ => (some (.int r))) σ9)
def xb_M_oddsFrom (g : xg_MO) (p0 : Int32) (p1 : Int32) (p2 : Int32) (p3 : Int32) (p4 : Int32) (p5 : Int32) (σ : rb_St) : Option (Int32 × rb_St) := if rb_ib p0 7 then if p1 = (σ.1 16 p0.toNatClampNeg) then rb_b2 (xf_M_manyBy p0 p2 σ) fun r19 s17 => if p4 < r19 then some (0, s17) else some (p5, s17) else rb_b1 (xf_M_stepOf p0 p1 σ) fun r3 => if r3 = 20 then rb_b2 (g p0 (p1 + 1) p2 p3 p4 p5 σ) fun r16 s14 => some (r16, s14) else rb_lt (((p5.toInt64 * p3.toInt64) / 100).toInt32) (fun v6 => rb_b2 (g p0 (p1 + 1) (p2 ||| (1 <<< (p1 &&& 31))) p3 p4 v6 σ) fun r10 s8 => rb_b2 (g p0 (p1 + 1) p2 p3 p4 (p5 - v6) s8) fun r13 s11 => some (r10 + r13, s11)) else none
set_option maxHeartbeats 4000000 in
set_option maxRecDepth 100000 in
theorem xk_M_oddsFrom {z : rb_Z} {w : rb_Wd} {h0 : Nat} (hb : 4 ≤ h0) {g : xg_MO} (hg : xg_MO_ok g h0) (hC : rb_Cx z rb_vM w RX12 cX12_oddsFrom 8 (some .int) (h0 + 1)) (p0 : Int32) (p1 : Int32) (p2 : Int32) (p3 : Int32) (p4 : Int32) (p5 : Int32) (σ : rb_St) (r : Int32) (σ9 : rb_St) (h : xb_M_oddsFrom g p0 p1 p2 p3 p4 p5 σ = some (r, σ9)) : rb_At z rb_vM w 8 (rb_Q z rb_vM w (some (.int r)) σ9) 0 [(0, .ref (rb_ad w 0)), (1, .int p0), (2, .int p1), (3, .int p2), (4, .int p3), (5, .int p4), (6, .int p5)] [] σ := by
  unfold xb_M_oddsFrom at h
  refine rb_iload_n hC 2 dX12_oddsFrom_0 rfl ?_
  refine rb_aload_n hC 0 dX12_oddsFrom_1 rfl ?_
  refine rb_getR hC fr_X12_55_11 rb_obM0 rfl dX12_oddsFrom_2 ?_
  refine rb_iload_n hC 1 dX12_oddsFrom_5 rfl ?_
  obtain ⟨g1, h⟩ := rb_gd h
  refine rb_iald hC rb_arM16 (rb_ibI g1) dX12_oddsFrom_6 ?_
  refine rb_icmp_ne hC 28 dX12_oddsFrom_7 (by decide) (fun c2 => ?_) (fun c2 => ?_)
  · replace h := rb_ifn c2 h
    refine rb_aload_n hC 0 dX12_oddsFrom_28 rfl ?_
    refine rb_iload_n hC 1 dX12_oddsFrom_29 rfl ?_
    refine rb_iload_n hC 2 dX12_oddsFrom_30 rfl ?_
    obtain ⟨r3, q4, h⟩ := rb_b1s h
    refine rb_callVi hC rb_VokM mv_X12_410 (xc_M_stepOf p0 p1 σ _ q4) rb_obM0 rfl [.int p0, .int p1] rfl rfl rfl ⟨by omega, Nat.le_of_ble_eq_true rfl⟩ (Nat.le_of_ble_eq_true rfl) dX12_oddsFrom_31 ?_
    refine rb_bipush (x := 20) hC dX12_oddsFrom_34 (by decide) ?_
    refine rb_icmp_ne hC 55 dX12_oddsFrom_36 (by decide) (fun c5 => ?_) (fun c5 => ?_)
    · replace h := rb_ifn c5 h
      refine rb_iload hC 6 dX12_oddsFrom_55 rfl ?_
      refine rb_i2l hC dX12_oddsFrom_57 ?_
      refine rb_iload hC 4 dX12_oddsFrom_58 rfl ?_
      refine rb_i2l hC dX12_oddsFrom_60 ?_
      refine rb_lmul hC dX12_oddsFrom_61 ?_
      refine rb_ldc2_w hC kc_X12_505 dX12_oddsFrom_62 ?_
      refine rb_ldiv hC dX12_oddsFrom_65 (by decide) ?_
      refine rb_l2i hC dX12_oddsFrom_66 ?_
      obtain ⟨v6, e7, h⟩ := rb_ltE h
      refine rb_nmI e7 ?_
      refine rb_istore hC [(7, .int v6), (0, .ref (rb_ad w 0)), (1, .int p0), (2, .int p1), (3, .int p2), (4, .int p3), (5, .int p4), (6, .int p5)] dX12_oddsFrom_67 (by decide) rfl ?_
      refine rb_aload_n hC 1 dX12_oddsFrom_69 rfl ?_
      refine rb_iload_n hC 2 dX12_oddsFrom_70 rfl ?_
      refine rb_iload_n hC 3 dX12_oddsFrom_71 rfl ?_
      refine rb_iconst (x := 1) hC dX12_oddsFrom_72 (by decide) ?_
      refine rb_iadd hC dX12_oddsFrom_73 ?_
      refine rb_iload_n hC 4 dX12_oddsFrom_74 rfl ?_
      refine rb_iconst (x := 1) hC dX12_oddsFrom_75 (by decide) ?_
      refine rb_iload_n hC 3 dX12_oddsFrom_76 rfl ?_
      refine rb_ishl hC dX12_oddsFrom_77 ?_
      refine rb_ior hC dX12_oddsFrom_78 ?_
      refine rb_iload hC 5 dX12_oddsFrom_79 rfl ?_
      refine rb_iload hC 6 dX12_oddsFrom_81 rfl ?_
      refine rb_iload hC 0 dX12_oddsFrom_83 rfl ?_
      obtain ⟨r10, s8, q9, h⟩ := rb_b2s h
      refine rb_callVi hC rb_VokM mv_X12_502 (hg p0 (p1 + 1) (p2 ||| (1 <<< (p1 &&& 31))) p3 p4 v6 σ _ _ q9) rb_obM0 rfl [.int p0, .int (p1 + 1), .int (p2 ||| (1 <<< (p1 &&& 31))), .int p3, .int p4, .int v6] rfl rfl rfl ⟨by omega, Nat.le_of_ble_eq_true rfl⟩ (Nat.le_of_ble_eq_true rfl) dX12_oddsFrom_85 ?_
      refine rb_aload_n hC 1 dX12_oddsFrom_88 rfl ?_
      refine rb_iload_n hC 2 dX12_oddsFrom_89 rfl ?_
      refine rb_iload_n hC 3 dX12_oddsFrom_90 rfl ?_
      refine rb_iconst (x := 1) hC dX12_oddsFrom_91 (by decide) ?_
      refine rb_iadd hC dX12_oddsFrom_92 ?_
      refine rb_iload_n hC 4 dX12_oddsFrom_93 rfl ?_
      refine rb_iload hC 5 dX12_oddsFrom_94 rfl ?_
      refine rb_iload hC 6 dX12_oddsFrom_96 rfl ?_
      refine rb_iload hC 7 dX12_oddsFrom_98 rfl ?_
      refine rb_iload hC 0 dX12_oddsFrom_100 rfl ?_
      refine rb_isub hC dX12_oddsFrom_102 ?_
      obtain ⟨r13, s11, q12, h⟩ := rb_b2s h
      refine rb_callVi hC rb_VokM mv_X12_502 (hg p0 (p1 + 1) p2 p3 p4 (p5 - v6) s8 _ _ q12) rb_obM0 rfl [.int p0, .int (p1 + 1), .int p2, .int p3, .int p4, .int (p5 - v6)] rfl rfl rfl ⟨by omega, Nat.le_of_ble_eq_true rfl⟩ (Nat.le_of_ble_eq_true rfl) dX12_oddsFrom_103 ?_
      refine rb_iadd hC dX12_oddsFrom_106 ?_
      cases h
      exact rb_iret hC dX12_oddsFrom_107
    · replace h := rb_ifp c5 h
      refine rb_aload_n hC 0 dX12_oddsFrom_39 rfl ?_
      refine rb_iload_n hC 1 dX12_oddsFrom_40 rfl ?_
      refine rb_iload_n hC 2 dX12_oddsFrom_41 rfl ?_
      refine rb_iconst (x := 1) hC dX12_oddsFrom_42 (by decide) ?_
      refine rb_iadd hC dX12_oddsFrom_43 ?_
      refine rb_iload_n hC 3 dX12_oddsFrom_44 rfl ?_
      refine rb_iload hC 4 dX12_oddsFrom_45 rfl ?_
      refine rb_iload hC 5 dX12_oddsFrom_47 rfl ?_
      refine rb_iload hC 6 dX12_oddsFrom_49 rfl ?_
      obtain ⟨r16, s14, q15, h⟩ := rb_b2s h
      refine rb_callVi hC rb_VokM mv_X12_502 (hg p0 (p1 + 1) p2 p3 p4 p5 σ _ _ q15) rb_obM0 rfl [.int p0, .int (p1 + 1), .int p2, .int p3, .int p4, .int p5] rfl rfl rfl ⟨by omega, Nat.le_of_ble_eq_true rfl⟩ (Nat.le_of_ble_eq_true rfl) dX12_oddsFrom_51 ?_
      cases h
      exact rb_iret hC dX12_oddsFrom_54
  · replace h := rb_ifp c2 h
    refine rb_aload_n hC 0 dX12_oddsFrom_10 rfl ?_
    refine rb_iload_n hC 1 dX12_oddsFrom_11 rfl ?_
    refine rb_iload_n hC 3 dX12_oddsFrom_12 rfl ?_
    obtain ⟨r19, s17, q18, h⟩ := rb_b2s h
    refine rb_callVi hC rb_VokM mv_X12_499 (xc_M_manyBy p0 p2 σ _ _ q18) rb_obM0 rfl [.int p0, .int p2] rfl rfl rfl ⟨by omega, Nat.le_of_ble_eq_true rfl⟩ (Nat.le_of_ble_eq_true rfl) dX12_oddsFrom_13 ?_
    refine rb_iload hC 5 dX12_oddsFrom_16 rfl ?_
    refine rb_icmp_gt hC 26 dX12_oddsFrom_18 (by decide) (fun c20 => ?_) (fun c20 => ?_)
    · replace h := rb_ifp c20 h
      refine rb_iconst (x := 0) hC dX12_oddsFrom_26 (by decide) ?_
      cases h
      exact rb_iret hC dX12_oddsFrom_27
    · replace h := rb_ifn c20 h
      refine rb_iload hC 6 dX12_oddsFrom_21 rfl ?_
      refine rb_goto hC 27 dX12_oddsFrom_23 (by decide) ?_
      cases h
      exact rb_iret hC dX12_oddsFrom_27
def xG_MO : Nat → xg_MO
  | 0 => (fun _ _ _ _ _ _ _ => none)
  | d + 1 => (xb_M_oddsFrom (xG_MO d))
theorem xG_MO_all : ∀ d : Nat, xg_MO_ok (xG_MO d) (4 + d) := by
  intro d
  induction d with
  | zero => exact fun _ _ _ _ _ _ _ _ _ h => by cases h
  | succ d ih =>
    have hb : 4 ≤ 4 + d := Nat.le_add_right _ _
    exact fun p0 p1 p2 p3 p4 p5 σ r σ9 h => rb_Con.of (by decide +kernel) (fun _ => Nat.le_of_ble_eq_true rfl) (fun z w hC => xk_M_oddsFrom hb ih hC p0 p1 p2 p3 p4 p5 σ r σ9 h)
def xf_M_oddsFrom (d : Nat) (p0 : Int32) (p1 : Int32) (p2 : Int32) (p3 : Int32) (p4 : Int32) (p5 : Int32) (σ : rb_St) : Option (Int32 × rb_St) := (xG_MO d) p0 p1 p2 p3 p4 p5 σ
theorem xc_M_oddsFrom (d : Nat) (p0 : Int32) (p1 : Int32) (p2 : Int32) (p3 : Int32) (p4 : Int32) (p5 : Int32) (σ : rb_St) (r : Int32) (σ9 : rb_St) (h : xf_M_oddsFrom d p0 p1 p2 p3 p4 p5 σ = some (r, σ9)) : rb_Con rb_vM yX12_oddsFrom cX12_oddsFrom 8 (some .int) (4 + d) (fun w => [.ref (rb_ad w 0), .int p0, .int p1, .int p2, .int p3, .int p4, .int p5]) σ (fun _ => (some (.int r))) σ9 := (xG_MO_all d) p0 p1 p2 p3 p4 p5 σ r σ9 h
theorem me_J0_isLatin1_aae02 : Cond.instanceMethod yJ0_isLatin1_aae02 ∈ rb_tbl ∧ Cond.selects yJ0_isLatin1_aae02.cls yJ0_isLatin1_aae02 yJ0_isLatin1_aae02 ∈ rb_tbl ∧ Cond.initialized yJ0_isLatin1_aae02.cls ∈ rb_tbl ∧ Cond.code yJ0_isLatin1_aae02 cJ0_isLatin1_aae02 1 (some .boolean) ∈ rb_tbl ∧ rb_pn yJ0_isLatin1_aae02 0 := ⟨rb_in (by decide +kernel) (by decide +kernel), rb_in (by decide +kernel) (by decide +kernel), rb_in (by decide +kernel) (by decide +kernel), rb_in (by decide +kernel) (by decide +kernel), by decide +kernel, by decide +kernel, by decide +kernel⟩
theorem mv_J0_492 : rb_MV RJ0 492 yJ0_isLatin1_aae02 cJ0_isLatin1_aae02 1 (some .boolean) 0 := ⟨rb_in (by decide +kernel) (by decide +kernel), me_J0_isLatin1_aae02⟩
theorem me_J0_length_8abf5 : Cond.instanceMethod yJ0_length_8abf5 ∈ rb_tbl ∧ Cond.selects yJ0_length_8abf5.cls yJ0_length_8abf5 yJ0_length_8abf5 ∈ rb_tbl ∧ Cond.initialized yJ0_length_8abf5.cls ∈ rb_tbl ∧ Cond.code yJ0_length_8abf5 cJ0_length_8abf5 1 (some .int) ∈ rb_tbl ∧ rb_pn yJ0_length_8abf5 0 := ⟨rb_in (by decide +kernel) (by decide +kernel), rb_in (by decide +kernel) (by decide +kernel), rb_in (by decide +kernel) (by decide +kernel), rb_in (by decide +kernel) (by decide +kernel), by decide +kernel, by decide +kernel, by decide +kernel⟩
theorem mv_J0_505 : rb_MV RJ0 505 yJ0_length_8abf5 cJ0_length_8abf5 1 (some .int) 0 := ⟨rb_in (by decide +kernel) (by decide +kernel), me_J0_length_8abf5⟩
theorem me_J1_indexOf_4cfef : Cond.static yJ1_indexOf_4cfef ∈ rb_tbl ∧ Cond.initialized yJ1_indexOf_4cfef.cls ∈ rb_tbl ∧ Cond.code yJ1_indexOf_4cfef cJ1_indexOf_4cfef 4 (some .int) ∈ rb_tbl ∧ rb_pn yJ1_indexOf_4cfef 4 := ⟨rb_in (by decide +kernel) (by decide +kernel), rb_in (by decide +kernel) (by decide +kernel), rb_in (by decide +kernel) (by decide +kernel), by decide +kernel, by decide +kernel, by decide +kernel⟩
theorem mv_J0_637 : rb_MS RJ0 637 yJ1_indexOf_4cfef cJ1_indexOf_4cfef 4 (some .int) 4 := ⟨rb_in (by decide +kernel) (by decide +kernel), me_J1_indexOf_4cfef⟩
def xf_JS_indexOf0b (p0 : Int32) (p1 : Int32) (σ : rb_St) : Option Int32 := rb_b1 (xf_JL_indexOf0 p0 p1 3 σ) fun r2 => some r2
set_option maxHeartbeats 4000000 in
set_option maxRecDepth 100000 in
theorem xk_JS_indexOf0b {z : rb_Z} {w : rb_Wd} (hC : rb_Cx z rb_vX w RJ0 cJ0_indexOf_7cf53 3 (some .int) 2) (p0 : Int32) (p1 : Int32) (σ : rb_St) (r : Int32) (h : xf_JS_indexOf0b p0 p1 σ = some r) : rb_At z rb_vX w 3 (rb_Q z rb_vX w (some (.int r)) σ) 0 [(0, .ref (rb_sx w (6 + 0))), (1, .int p0), (2, .int p1)] [] σ := by
  unfold xf_JS_indexOf0b at h
  refine rb_aload_n hC 0 dJ0_indexOf_7cf53_0 rfl ?_
  refine rb_callT hC mv_J0_492 rfl (xc_JS_isLatin10  σ 1 rfl) (i := 0) (by decide) [] rfl rfl rfl ⟨Nat.le_of_ble_eq_true rfl, Nat.le_of_ble_eq_true rfl⟩ (Nat.le_of_ble_eq_true rfl) dJ0_indexOf_7cf53_1 ?_
  refine rb_if_eq hC 23 dJ0_indexOf_7cf53_4 (by decide) (fun c1 => absurd c1 (by decide)) (fun _ => ?_)
  refine rb_aload_n hC 0 dJ0_indexOf_7cf53_7 rfl ?_
  refine rb_sval hC (i := 0) (by decide) kf_J0_9 dJ0_indexOf_7cf53_8 ?_
  refine rb_iload_n hC 1 dJ0_indexOf_7cf53_11 rfl ?_
  refine rb_iload_n hC 2 dJ0_indexOf_7cf53_12 rfl ?_
  refine rb_aload_n hC 0 dJ0_indexOf_7cf53_13 rfl ?_
  refine rb_callT hC mv_J0_505 rfl (xc_JS_length0  σ 3 rfl) (i := 0) (by decide) [] rfl rfl rfl ⟨Nat.le_of_ble_eq_true rfl, Nat.le_of_ble_eq_true rfl⟩ (Nat.le_of_ble_eq_true rfl) dJ0_indexOf_7cf53_14 ?_
  obtain ⟨r2, q3, h⟩ := rb_b1s h
  refine rb_callSi hC rb_VokX mv_J0_637 (xc_JL_indexOf0 p0 p1 3 σ _ q3) [.ref (rb_sx w (9 + 0)), .int p0, .int p1, .int 3] rfl rfl rfl ⟨Nat.le_of_ble_eq_true rfl, Nat.le_of_ble_eq_true rfl⟩ (Nat.le_of_ble_eq_true rfl) dJ0_indexOf_7cf53_17 ?_
  refine rb_goto hC 36 dJ0_indexOf_7cf53_20 (by decide) ?_
  cases h
  exact rb_iret hC dJ0_indexOf_7cf53_36
theorem xc_JS_indexOf0b (p0 : Int32) (p1 : Int32) (σ : rb_St) (r : Int32) (h : xf_JS_indexOf0b p0 p1 σ = some r) : rb_Con rb_vX yJ0_indexOf_7cf53 cJ0_indexOf_7cf53 3 (some .int) 2 (fun w => [.ref (rb_sx w (6 + 0)), .int p0, .int p1]) σ (fun _ => (some (.int r))) σ := rb_Con.of (by decide +kernel) (fun _ => Nat.le_of_ble_eq_true rfl) (fun z w hC => xk_JS_indexOf0b hC p0 p1 σ r h)
theorem me_J0_indexOf_7cf53 : Cond.instanceMethod yJ0_indexOf_7cf53 ∈ rb_tbl ∧ Cond.selects yJ0_indexOf_7cf53.cls yJ0_indexOf_7cf53 yJ0_indexOf_7cf53 ∈ rb_tbl ∧ Cond.initialized yJ0_indexOf_7cf53.cls ∈ rb_tbl ∧ Cond.code yJ0_indexOf_7cf53 cJ0_indexOf_7cf53 3 (some .int) ∈ rb_tbl ∧ rb_pn yJ0_indexOf_7cf53 2 := ⟨rb_in (by decide +kernel) (by decide +kernel), rb_in (by decide +kernel) (by decide +kernel), rb_in (by decide +kernel) (by decide +kernel), rb_in (by decide +kernel) (by decide +kernel), by decide +kernel, by decide +kernel, by decide +kernel⟩
theorem mv_J0_633 : rb_MV RJ0 633 yJ0_indexOf_7cf53 cJ0_indexOf_7cf53 3 (some .int) 2 := ⟨rb_in (by decide +kernel) (by decide +kernel), me_J0_indexOf_7cf53⟩
def xf_JS_indexOf0 (p0 : Int32) (σ : rb_St) : Option Int32 := rb_b1 (xf_JS_indexOf0b p0 0 σ) fun r1 => some r1
set_option maxHeartbeats 4000000 in
set_option maxRecDepth 100000 in
theorem xk_JS_indexOf0 {z : rb_Z} {w : rb_Wd} (hC : rb_Cx z rb_vX w RJ0 cJ0_indexOf_0f7a4 2 (some .int) 3) (p0 : Int32) (σ : rb_St) (r : Int32) (h : xf_JS_indexOf0 p0 σ = some r) : rb_At z rb_vX w 2 (rb_Q z rb_vX w (some (.int r)) σ) 0 [(0, .ref (rb_sx w (6 + 0))), (1, .int p0)] [] σ := by
  unfold xf_JS_indexOf0 at h
  refine rb_aload_n hC 0 dJ0_indexOf_0f7a4_0 rfl ?_
  refine rb_iload_n hC 1 dJ0_indexOf_0f7a4_1 rfl ?_
  refine rb_iconst (x := 0) hC dJ0_indexOf_0f7a4_2 (by decide) ?_
  obtain ⟨r1, q2, h⟩ := rb_b1s h
  refine rb_callT hC mv_J0_633 rfl (xc_JS_indexOf0b p0 0 σ _ q2) (i := 0) (by decide) [.int p0, .int 0] rfl rfl rfl ⟨Nat.le_of_ble_eq_true rfl, Nat.le_of_ble_eq_true rfl⟩ (Nat.le_of_ble_eq_true rfl) dJ0_indexOf_0f7a4_3 ?_
  cases h
  exact rb_iret hC dJ0_indexOf_0f7a4_6
theorem xc_JS_indexOf0 (p0 : Int32) (σ : rb_St) (r : Int32) (h : xf_JS_indexOf0 p0 σ = some r) : rb_Con rb_vX yJ0_indexOf_0f7a4 cJ0_indexOf_0f7a4 2 (some .int) 3 (fun w => [.ref (rb_sx w (6 + 0)), .int p0]) σ (fun _ => (some (.int r))) σ := rb_Con.of (by decide +kernel) (fun _ => Nat.le_of_ble_eq_true rfl) (fun z w hC => xk_JS_indexOf0 hC p0 σ r h)
def xf_JS_indexOf1b (p0 : Int32) (p1 : Int32) (σ : rb_St) : Option Int32 := rb_b1 (xf_JL_indexOf1 p0 p1 3 σ) fun r2 => some r2
set_option maxHeartbeats 4000000 in
set_option maxRecDepth 100000 in
theorem xk_JS_indexOf1b {z : rb_Z} {w : rb_Wd} (hC : rb_Cx z rb_vX w RJ0 cJ0_indexOf_7cf53 3 (some .int) 2) (p0 : Int32) (p1 : Int32) (σ : rb_St) (r : Int32) (h : xf_JS_indexOf1b p0 p1 σ = some r) : rb_At z rb_vX w 3 (rb_Q z rb_vX w (some (.int r)) σ) 0 [(0, .ref (rb_sx w (6 + 1))), (1, .int p0), (2, .int p1)] [] σ := by
  unfold xf_JS_indexOf1b at h
  refine rb_aload_n hC 0 dJ0_indexOf_7cf53_0 rfl ?_
  refine rb_callT hC mv_J0_492 rfl (xc_JS_isLatin11  σ 1 rfl) (i := 1) (by decide) [] rfl rfl rfl ⟨Nat.le_of_ble_eq_true rfl, Nat.le_of_ble_eq_true rfl⟩ (Nat.le_of_ble_eq_true rfl) dJ0_indexOf_7cf53_1 ?_
  refine rb_if_eq hC 23 dJ0_indexOf_7cf53_4 (by decide) (fun c1 => absurd c1 (by decide)) (fun _ => ?_)
  refine rb_aload_n hC 0 dJ0_indexOf_7cf53_7 rfl ?_
  refine rb_sval hC (i := 1) (by decide) kf_J0_9 dJ0_indexOf_7cf53_8 ?_
  refine rb_iload_n hC 1 dJ0_indexOf_7cf53_11 rfl ?_
  refine rb_iload_n hC 2 dJ0_indexOf_7cf53_12 rfl ?_
  refine rb_aload_n hC 0 dJ0_indexOf_7cf53_13 rfl ?_
  refine rb_callT hC mv_J0_505 rfl (xc_JS_length1  σ 3 rfl) (i := 1) (by decide) [] rfl rfl rfl ⟨Nat.le_of_ble_eq_true rfl, Nat.le_of_ble_eq_true rfl⟩ (Nat.le_of_ble_eq_true rfl) dJ0_indexOf_7cf53_14 ?_
  obtain ⟨r2, q3, h⟩ := rb_b1s h
  refine rb_callSi hC rb_VokX mv_J0_637 (xc_JL_indexOf1 p0 p1 3 σ _ q3) [.ref (rb_sx w (9 + 1)), .int p0, .int p1, .int 3] rfl rfl rfl ⟨Nat.le_of_ble_eq_true rfl, Nat.le_of_ble_eq_true rfl⟩ (Nat.le_of_ble_eq_true rfl) dJ0_indexOf_7cf53_17 ?_
  refine rb_goto hC 36 dJ0_indexOf_7cf53_20 (by decide) ?_
  cases h
  exact rb_iret hC dJ0_indexOf_7cf53_36
theorem xc_JS_indexOf1b (p0 : Int32) (p1 : Int32) (σ : rb_St) (r : Int32) (h : xf_JS_indexOf1b p0 p1 σ = some r) : rb_Con rb_vX yJ0_indexOf_7cf53 cJ0_indexOf_7cf53 3 (some .int) 2 (fun w => [.ref (rb_sx w (6 + 1)), .int p0, .int p1]) σ (fun _ => (some (.int r))) σ := rb_Con.of (by decide +kernel) (fun _ => Nat.le_of_ble_eq_true rfl) (fun z w hC => xk_JS_indexOf1b hC p0 p1 σ r h)
def xf_JS_indexOf1 (p0 : Int32) (σ : rb_St) : Option Int32 := rb_b1 (xf_JS_indexOf1b p0 0 σ) fun r1 => some r1
set_option maxHeartbeats 4000000 in
set_option maxRecDepth 100000 in
theorem xk_JS_indexOf1 {z : rb_Z} {w : rb_Wd} (hC : rb_Cx z rb_vX w RJ0 cJ0_indexOf_0f7a4 2 (some .int) 3) (p0 : Int32) (σ : rb_St) (r : Int32) (h : xf_JS_indexOf1 p0 σ = some r) : rb_At z rb_vX w 2 (rb_Q z rb_vX w (some (.int r)) σ) 0 [(0, .ref (rb_sx w (6 + 1))), (1, .int p0)] [] σ := by
  unfold xf_JS_indexOf1 at h
  refine rb_aload_n hC 0 dJ0_indexOf_0f7a4_0 rfl ?_
  refine rb_iload_n hC 1 dJ0_indexOf_0f7a4_1 rfl ?_
  refine rb_iconst (x := 0) hC dJ0_indexOf_0f7a4_2 (by decide) ?_
  obtain ⟨r1, q2, h⟩ := rb_b1s h
  refine rb_callT hC mv_J0_633 rfl (xc_JS_indexOf1b p0 0 σ _ q2) (i := 1) (by decide) [.int p0, .int 0] rfl rfl rfl ⟨Nat.le_of_ble_eq_true rfl, Nat.le_of_ble_eq_true rfl⟩ (Nat.le_of_ble_eq_true rfl) dJ0_indexOf_0f7a4_3 ?_
  cases h
  exact rb_iret hC dJ0_indexOf_0f7a4_6
theorem xc_JS_indexOf1 (p0 : Int32) (σ : rb_St) (r : Int32) (h : xf_JS_indexOf1 p0 σ = some r) : rb_Con rb_vX yJ0_indexOf_0f7a4 cJ0_indexOf_0f7a4 2 (some .int) 3 (fun w => [.ref (rb_sx w (6 + 1)), .int p0]) σ (fun _ => (some (.int r))) σ := rb_Con.of (by decide +kernel) (fun _ => Nat.le_of_ble_eq_true rfl) (fun z w hC => xk_JS_indexOf1 hC p0 σ r h)
def xf_JS_indexOf2b (p0 : Int32) (p1 : Int32) (σ : rb_St) : Option Int32 := rb_b1 (xf_JL_indexOf2 p0 p1 6 σ) fun r2 => some r2
set_option maxHeartbeats 4000000 in
set_option maxRecDepth 100000 in
theorem xk_JS_indexOf2b {z : rb_Z} {w : rb_Wd} (hC : rb_Cx z rb_vX w RJ0 cJ0_indexOf_7cf53 3 (some .int) 2) (p0 : Int32) (p1 : Int32) (σ : rb_St) (r : Int32) (h : xf_JS_indexOf2b p0 p1 σ = some r) : rb_At z rb_vX w 3 (rb_Q z rb_vX w (some (.int r)) σ) 0 [(0, .ref (rb_sx w (6 + 2))), (1, .int p0), (2, .int p1)] [] σ := by
  unfold xf_JS_indexOf2b at h
  refine rb_aload_n hC 0 dJ0_indexOf_7cf53_0 rfl ?_
  refine rb_callT hC mv_J0_492 rfl (xc_JS_isLatin12  σ 1 rfl) (i := 2) (by decide) [] rfl rfl rfl ⟨Nat.le_of_ble_eq_true rfl, Nat.le_of_ble_eq_true rfl⟩ (Nat.le_of_ble_eq_true rfl) dJ0_indexOf_7cf53_1 ?_
  refine rb_if_eq hC 23 dJ0_indexOf_7cf53_4 (by decide) (fun c1 => absurd c1 (by decide)) (fun _ => ?_)
  refine rb_aload_n hC 0 dJ0_indexOf_7cf53_7 rfl ?_
  refine rb_sval hC (i := 2) (by decide) kf_J0_9 dJ0_indexOf_7cf53_8 ?_
  refine rb_iload_n hC 1 dJ0_indexOf_7cf53_11 rfl ?_
  refine rb_iload_n hC 2 dJ0_indexOf_7cf53_12 rfl ?_
  refine rb_aload_n hC 0 dJ0_indexOf_7cf53_13 rfl ?_
  refine rb_callT hC mv_J0_505 rfl (xc_JS_length2  σ 6 rfl) (i := 2) (by decide) [] rfl rfl rfl ⟨Nat.le_of_ble_eq_true rfl, Nat.le_of_ble_eq_true rfl⟩ (Nat.le_of_ble_eq_true rfl) dJ0_indexOf_7cf53_14 ?_
  obtain ⟨r2, q3, h⟩ := rb_b1s h
  refine rb_callSi hC rb_VokX mv_J0_637 (xc_JL_indexOf2 p0 p1 6 σ _ q3) [.ref (rb_sx w (9 + 2)), .int p0, .int p1, .int 6] rfl rfl rfl ⟨Nat.le_of_ble_eq_true rfl, Nat.le_of_ble_eq_true rfl⟩ (Nat.le_of_ble_eq_true rfl) dJ0_indexOf_7cf53_17 ?_
  refine rb_goto hC 36 dJ0_indexOf_7cf53_20 (by decide) ?_
  cases h
  exact rb_iret hC dJ0_indexOf_7cf53_36
theorem xc_JS_indexOf2b (p0 : Int32) (p1 : Int32) (σ : rb_St) (r : Int32) (h : xf_JS_indexOf2b p0 p1 σ = some r) : rb_Con rb_vX yJ0_indexOf_7cf53 cJ0_indexOf_7cf53 3 (some .int) 2 (fun w => [.ref (rb_sx w (6 + 2)), .int p0, .int p1]) σ (fun _ => (some (.int r))) σ := rb_Con.of (by decide +kernel) (fun _ => Nat.le_of_ble_eq_true rfl) (fun z w hC => xk_JS_indexOf2b hC p0 p1 σ r h)
def xf_JS_indexOf2 (p0 : Int32) (σ : rb_St) : Option Int32 := rb_b1 (xf_JS_indexOf2b p0 0 σ) fun r1 => some r1
set_option maxHeartbeats 4000000 in
set_option maxRecDepth 100000 in
theorem xk_JS_indexOf2 {z : rb_Z} {w : rb_Wd} (hC : rb_Cx z rb_vX w RJ0 cJ0_indexOf_0f7a4 2 (some .int) 3) (p0 : Int32) (σ : rb_St) (r : Int32) (h : xf_JS_indexOf2 p0 σ = some r) : rb_At z rb_vX w 2 (rb_Q z rb_vX w (some (.int r)) σ) 0 [(0, .ref (rb_sx w (6 + 2))), (1, .int p0)] [] σ := by
  unfold xf_JS_indexOf2 at h
  refine rb_aload_n hC 0 dJ0_indexOf_0f7a4_0 rfl ?_
  refine rb_iload_n hC 1 dJ0_indexOf_0f7a4_1 rfl ?_
  refine rb_iconst (x := 0) hC dJ0_indexOf_0f7a4_2 (by decide) ?_
  obtain ⟨r1, q2, h⟩ := rb_b1s h
  refine rb_callT hC mv_J0_633 rfl (xc_JS_indexOf2b p0 0 σ _ q2) (i := 2) (by decide) [.int p0, .int 0] rfl rfl rfl ⟨Nat.le_of_ble_eq_true rfl, Nat.le_of_ble_eq_true rfl⟩ (Nat.le_of_ble_eq_true rfl) dJ0_indexOf_0f7a4_3 ?_
  cases h
  exact rb_iret hC dJ0_indexOf_0f7a4_6
theorem xc_JS_indexOf2 (p0 : Int32) (σ : rb_St) (r : Int32) (h : xf_JS_indexOf2 p0 σ = some r) : rb_Con rb_vX yJ0_indexOf_0f7a4 cJ0_indexOf_0f7a4 2 (some .int) 3 (fun w => [.ref (rb_sx w (6 + 2)), .int p0]) σ (fun _ => (some (.int r))) σ := rb_Con.of (by decide +kernel) (fun _ => Nat.le_of_ble_eq_true rfl) (fun z w hC => xk_JS_indexOf2 hC p0 σ r h)
theorem fr_X7_24_3 : rb_FR RX7 24 3 2 := ⟨RX3, TX3, 3, "RibbonPole$Green", rfl, rb_uX3, by decide, rb_in (by decide +kernel) (by decide +kernel), Or.inl rfl⟩
theorem me_X3_coinsAtFirst : Cond.instanceMethod yX3_coinsAtFirst ∈ rb_tbl ∧ Cond.selects yX3_coinsAtFirst.cls yX3_coinsAtFirst yX3_coinsAtFirst ∈ rb_tbl ∧ Cond.initialized yX3_coinsAtFirst.cls ∈ rb_tbl ∧ Cond.code yX3_coinsAtFirst cX3_coinsAtFirst 1 (some .int) ∈ rb_tbl ∧ rb_pn yX3_coinsAtFirst 0 := ⟨rb_in (by decide +kernel) (by decide +kernel), rb_in (by decide +kernel) (by decide +kernel), rb_in (by decide +kernel) (by decide +kernel), rb_in (by decide +kernel) (by decide +kernel), by decide +kernel, by decide +kernel, by decide +kernel⟩
theorem mv_X7_36 : rb_MV RX7 36 yX3_coinsAtFirst cX3_coinsAtFirst 1 (some .int) 0 := ⟨rb_in (by decide +kernel) (by decide +kernel), me_X3_coinsAtFirst⟩
theorem mv_X7_46 : rb_MV RX7 46 yX3_trait cX3_trait 4 (some .int) 2 := ⟨rb_in (by decide +kernel) (by decide +kernel), me_X3_trait⟩
def xl_Pole_beginAs_28 (k0 : Nat) : Nat → Int32 → rb_St → Option (rb_St)
  | 0, _, _ => none
  | n + 1, x2, σ => if 8 ≤ x2 then some σ else if rb_ib x2 8 then rb_lt (rb_sI σ (k0 + 1) x2.toNatClampNeg x2) (fun s11 => rb_b1 (xf_Green_trait x2 1 s11) fun r13 => rb_lt (rb_sI s11 (k0 + 2) x2.toNatClampNeg r13) (fun s15 => xl_Pole_beginAs_28 k0 n (x2 + 1) s15)) else none
set_option maxHeartbeats 4000000 in
set_option maxRecDepth 100000 in
theorem xt_Pole_beginAs_28 {z : rb_Z} {w : rb_Wd} {Q : State → Prop} (hC : rb_Cx z rb_vX w RX7 cX7_beginAs 3 none 1) (k0 : Nat) (hk0 : rb_isPole k0) : ∀ (n : Nat) (x2 : Int32) (σ : rb_St) (σ9 : rb_St), xl_Pole_beginAs_28 k0 n x2 σ = some σ9 → rb_At z rb_vX w 3 Q 59 [] [] σ9 → rb_At z rb_vX w 3 Q 28 [(0, .ref (rb_ad w k0)), (1, .ref (rb_ad w 15)), (2, .int x2)] [] σ := by
  intro n
  induction n with
  | zero =>
    intro x2 σ σ9 h hE0
    cases h
  | succ n ih =>
    intro x2 σ σ9 h hE0
    rw [xl_Pole_beginAs_28] at h
    refine rb_iload_n hC 2 dX7_beginAs_28 rfl ?_
    refine rb_bipush (x := 8) hC dX7_beginAs_29 (by decide) ?_
    refine rb_icmp_ge hC 59 dX7_beginAs_31 (by decide) (fun c9 => ?_) (fun c9 => ?_)
    · replace h := rb_ifp c9 h
      cases h
      exact rb_sub [] rfl (hE0)
    · replace h := rb_ifn c9 h
      refine rb_aload_n hC 0 dX7_beginAs_34 rfl ?_
      refine rb_getR hC fr_X7_9_7 (rb_obPole hk0) rfl dX7_beginAs_35 ?_
      refine rb_iload_n hC 2 dX7_beginAs_38 rfl ?_
      refine rb_iload_n hC 2 dX7_beginAs_39 rfl ?_
      obtain ⟨g10, h⟩ := rb_gd h
      refine rb_iast hC (rb_arPole1 hk0) (rb_ibI g10) dX7_beginAs_40 ?_
      obtain ⟨s11, e12, h⟩ := rb_ltE h
      refine rb_nmS e12 ?_
      refine rb_aload_n hC 0 dX7_beginAs_41 rfl ?_
      refine rb_getR hC fr_X7_15_7 (rb_obPole hk0) rfl dX7_beginAs_42 ?_
      refine rb_iload_n hC 2 dX7_beginAs_45 rfl ?_
      refine rb_aload_n hC 1 dX7_beginAs_46 rfl ?_
      refine rb_iload_n hC 2 dX7_beginAs_47 rfl ?_
      refine rb_iconst (x := 1) hC dX7_beginAs_48 (by decide) ?_
      obtain ⟨r13, q14, h⟩ := rb_b1s h
      refine rb_callVi hC rb_VokX mv_X7_46 (xc_Green_trait x2 1 s11 _ q14) rb_obX15 rfl [.int x2, .int 1] rfl rfl rfl ⟨Nat.le_of_ble_eq_true rfl, Nat.le_of_ble_eq_true rfl⟩ (Nat.le_of_ble_eq_true rfl) dX7_beginAs_49 ?_
      refine rb_iast hC (rb_arPole2 hk0) (rb_ibI g10) dX7_beginAs_52 ?_
      obtain ⟨s15, e16, h⟩ := rb_ltE h
      refine rb_nmS e16 ?_
      refine rb_iinc hC 2 [(2, .int (x2 + 1)), (0, .ref (rb_ad w k0)), (1, .ref (rb_ad w 15))] dX7_beginAs_53 rfl rfl (by decide) rfl ?_
      refine rb_goto hC 28 dX7_beginAs_56 (by decide) ?_
      exact rb_sub [1, 2, 0] rfl (ih (x2 + 1) s15 _ h hE0)
def xf_Pole_beginAs (k0 : Nat) (σ : rb_St) : Option (rb_St) := rb_lt (rb_sI σ k0 0 (σ.1 15 2)) (fun s1 => rb_lt (rb_sI s1 k0 1 0) (fun s3 => rb_lt (rb_sI s3 k0 2 (xf_Green_coinsAtFirst s3)) (fun s5 => rb_lt (rb_sI s5 k0 3 0) (fun s7 => rb_b1 (xl_Pole_beginAs_28 k0 rb_FU 0 s7) fun s17 => some s17))))
set_option maxHeartbeats 4000000 in
set_option maxRecDepth 100000 in
theorem xk_Pole_beginAs {z : rb_Z} {w : rb_Wd} (hC : rb_Cx z rb_vX w RX7 cX7_beginAs 3 none 1) (k0 : Nat) (hk0 : rb_isPole k0) (σ : rb_St) (σ9 : rb_St) (h : xf_Pole_beginAs k0 σ = some σ9) : rb_At z rb_vX w 3 (rb_Q z rb_vX w none σ9) 0 [(0, .ref (rb_ad w k0)), (1, .ref (rb_ad w 15))] [] σ := by
  unfold xf_Pole_beginAs at h
  refine rb_aload_n hC 0 dX7_beginAs_0 rfl ?_
  refine rb_aload_n hC 1 dX7_beginAs_1 rfl ?_
  refine rb_getI hC fr_X7_24_3 rb_obX15 rfl dX7_beginAs_2 ?_
  refine rb_putI hC fr_X7_30_7 ft_7_0 (rb_obPole hk0) rfl rfl rfl dX7_beginAs_5 ?_
  obtain ⟨s1, e2, h⟩ := rb_ltE h
  refine rb_nmS e2 ?_
  refine rb_aload_n hC 0 dX7_beginAs_8 rfl ?_
  refine rb_iconst (x := 0) hC dX7_beginAs_9 (by decide) ?_
  refine rb_putI hC fr_X7_33_7 ft_7_1 (rb_obPole hk0) rfl rfl rfl dX7_beginAs_10 ?_
  obtain ⟨s3, e4, h⟩ := rb_ltE h
  refine rb_nmS e4 ?_
  refine rb_aload_n hC 0 dX7_beginAs_13 rfl ?_
  refine rb_aload_n hC 1 dX7_beginAs_14 rfl ?_
  refine rb_callVi hC rb_VokX mv_X7_36 (xc_Green_coinsAtFirst  s3 _ rfl) rb_obX15 rfl [] rfl rfl rfl ⟨Nat.le_of_ble_eq_true rfl, Nat.le_of_ble_eq_true rfl⟩ (Nat.le_of_ble_eq_true rfl) dX7_beginAs_15 ?_
  refine rb_putI hC fr_X7_40_7 ft_7_2 (rb_obPole hk0) rfl rfl rfl dX7_beginAs_18 ?_
  obtain ⟨s5, e6, h⟩ := rb_ltE h
  refine rb_nmS e6 ?_
  refine rb_aload_n hC 0 dX7_beginAs_21 rfl ?_
  refine rb_iconst (x := 0) hC dX7_beginAs_22 (by decide) ?_
  refine rb_putI hC fr_X7_43_7 ft_7_3 (rb_obPole hk0) rfl rfl rfl dX7_beginAs_23 ?_
  obtain ⟨s7, e8, h⟩ := rb_ltE h
  refine rb_nmS e8 ?_
  refine rb_iconst (x := 0) hC dX7_beginAs_26 (by decide) ?_
  refine rb_istore_n hC [(2, .int 0), (0, .ref (rb_ad w k0)), (1, .ref (rb_ad w 15))] dX7_beginAs_27 (by decide) rfl ?_
  obtain ⟨s17, q18, h⟩ := rb_b1s h
  refine rb_sub (lv2 := [(0, .ref (rb_ad w k0)), (1, .ref (rb_ad w 15)), (2, .int 0)]) [1, 2, 0] rfl ?_
  refine xt_Pole_beginAs_28 hC k0 hk0 rb_FU 0 s7 _ q18 ?_
  cases h
  exact rb_vret hC dX7_beginAs_59
theorem xc_Pole_beginAs (k0 : Nat) (hk0 : rb_isPole k0) (σ : rb_St) (σ9 : rb_St) (h : xf_Pole_beginAs k0 σ = some σ9) : rb_Con rb_vX yX7_beginAs cX7_beginAs 3 none 1 (fun w => [.ref (rb_ad w k0), .ref (rb_ad w 15)]) σ (fun _ => none) σ9 := rb_Con.of (by decide +kernel) (fun _ => Nat.le_of_ble_eq_true rfl) (fun z w hC => xk_Pole_beginAs hC k0 hk0 σ σ9 h)
theorem mv_X7_84 : rb_MV RX7 84 yX7_leftOf cX7_leftOf 2 (some .int) 1 := ⟨rb_in (by decide +kernel) (by decide +kernel), me_X7_leftOf⟩
theorem me_X7_underBy : Cond.instanceMethod yX7_underBy ∈ rb_tbl ∧ Cond.selects yX7_underBy.cls yX7_underBy yX7_underBy ∈ rb_tbl ∧ Cond.initialized yX7_underBy.cls ∈ rb_tbl ∧ Cond.code yX7_underBy cX7_underBy 2 (some .int) ∈ rb_tbl ∧ rb_pn yX7_underBy 1 := ⟨rb_in (by decide +kernel) (by decide +kernel), rb_in (by decide +kernel) (by decide +kernel), rb_in (by decide +kernel) (by decide +kernel), rb_in (by decide +kernel) (by decide +kernel), by decide +kernel, by decide +kernel, by decide +kernel⟩
theorem mv_X7_87 : rb_MV RX7 87 yX7_underBy cX7_underBy 2 (some .int) 1 := ⟨rb_in (by decide +kernel) (by decide +kernel), me_X7_underBy⟩
def xf_Pole_hindrance (k0 : Nat) (p0 : Int32) (p1 : Int32) (σ : rb_St) : Option Int32 := rb_b1 (xf_Pole_overBy k0 p0 σ) fun r1 => rb_b1 (xf_Pole_leftOf k0 r1 σ) fun r3 => if r3 < p1 then some 2 else rb_b1 (xf_Pole_underBy k0 p0 σ) fun r6 => rb_b1 (xf_Pole_leftOf k0 r6 σ) fun r8 => if p1 ≤ r8 then if (σ.1 k0 1) < 40 then some 0 else some 3 else some 2
set_option maxHeartbeats 4000000 in
set_option maxRecDepth 100000 in
theorem xk_Pole_hindrance {z : rb_Z} {w : rb_Wd} (hC : rb_Cx z rb_vX w RX7 cX7_hindrance 3 (some .int) 4) (k0 : Nat) (hk0 : rb_isPole k0) (p0 : Int32) (p1 : Int32) (σ : rb_St) (r : Int32) (h : xf_Pole_hindrance k0 p0 p1 σ = some r) : rb_At z rb_vX w 3 (rb_Q z rb_vX w (some (.int r)) σ) 0 [(0, .ref (rb_ad w k0)), (1, .int p0), (2, .int p1)] [] σ := by
  unfold xf_Pole_hindrance at h
  refine rb_aload_n hC 0 dX7_hindrance_0 rfl ?_
  refine rb_aload_n hC 0 dX7_hindrance_1 rfl ?_
  refine rb_iload_n hC 1 dX7_hindrance_2 rfl ?_
  obtain ⟨r1, q2, h⟩ := rb_b1s h
  refine rb_callVi hC rb_VokX mv_X7_64 (xc_Pole_overBy k0 hk0 p0 σ _ q2) (rb_obPole hk0) rfl [.int p0] rfl rfl rfl ⟨Nat.le_of_ble_eq_true rfl, Nat.le_of_ble_eq_true rfl⟩ (Nat.le_of_ble_eq_true rfl) dX7_hindrance_3 ?_
  obtain ⟨r3, q4, h⟩ := rb_b1s h
  refine rb_callVi hC rb_VokX mv_X7_84 (xc_Pole_leftOf k0 hk0 r1 σ _ q4) (rb_obPole hk0) rfl [.int r1] rfl rfl rfl ⟨Nat.le_of_ble_eq_true rfl, Nat.le_of_ble_eq_true rfl⟩ (Nat.le_of_ble_eq_true rfl) dX7_hindrance_6 ?_
  refine rb_iload_n hC 2 dX7_hindrance_9 rfl ?_
  refine rb_icmp_lt hC 26 dX7_hindrance_10 (by decide) (fun c5 => ?_) (fun c5 => ?_)
  · replace h := rb_ifp c5 h
    refine rb_iconst (x := 2) hC dX7_hindrance_26 (by decide) ?_
    cases h
    exact rb_iret hC dX7_hindrance_27
  · replace h := rb_ifn c5 h
    refine rb_aload_n hC 0 dX7_hindrance_13 rfl ?_
    refine rb_aload_n hC 0 dX7_hindrance_14 rfl ?_
    refine rb_iload_n hC 1 dX7_hindrance_15 rfl ?_
    obtain ⟨r6, q7, h⟩ := rb_b1s h
    refine rb_callVi hC rb_VokX mv_X7_87 (xc_Pole_underBy k0 hk0 p0 σ _ q7) (rb_obPole hk0) rfl [.int p0] rfl rfl rfl ⟨Nat.le_of_ble_eq_true rfl, Nat.le_of_ble_eq_true rfl⟩ (Nat.le_of_ble_eq_true rfl) dX7_hindrance_16 ?_
    obtain ⟨r8, q9, h⟩ := rb_b1s h
    refine rb_callVi hC rb_VokX mv_X7_84 (xc_Pole_leftOf k0 hk0 r6 σ _ q9) (rb_obPole hk0) rfl [.int r6] rfl rfl rfl ⟨Nat.le_of_ble_eq_true rfl, Nat.le_of_ble_eq_true rfl⟩ (Nat.le_of_ble_eq_true rfl) dX7_hindrance_19 ?_
    refine rb_iload_n hC 2 dX7_hindrance_22 rfl ?_
    refine rb_icmp_ge hC 28 dX7_hindrance_23 (by decide) (fun c10 => ?_) (fun c10 => ?_)
    · replace h := rb_ifp c10 h
      refine rb_aload_n hC 0 dX7_hindrance_28 rfl ?_
      refine rb_getI hC fr_X7_33_7 (rb_obPole hk0) rfl dX7_hindrance_29 ?_
      refine rb_bipush (x := 40) hC dX7_hindrance_32 (by decide) ?_
      refine rb_icmp_lt hC 41 dX7_hindrance_34 (by decide) (fun c11 => ?_) (fun c11 => ?_)
      · replace h := rb_ifp c11 h
        refine rb_iconst (x := 0) hC dX7_hindrance_41 (by decide) ?_
        cases h
        exact rb_iret hC dX7_hindrance_42
      · replace h := rb_ifn c11 h
        refine rb_iconst (x := 3) hC dX7_hindrance_37 (by decide) ?_
        refine rb_goto hC 42 dX7_hindrance_38 (by decide) ?_
        cases h
        exact rb_iret hC dX7_hindrance_42
    · replace h := rb_ifn c10 h
      refine rb_iconst (x := 2) hC dX7_hindrance_26 (by decide) ?_
      cases h
      exact rb_iret hC dX7_hindrance_27
theorem xc_Pole_hindrance (k0 : Nat) (hk0 : rb_isPole k0) (p0 : Int32) (p1 : Int32) (σ : rb_St) (r : Int32) (h : xf_Pole_hindrance k0 p0 p1 σ = some r) : rb_Con rb_vX yX7_hindrance cX7_hindrance 3 (some .int) 4 (fun w => [.ref (rb_ad w k0), .int p0, .int p1]) σ (fun _ => (some (.int r))) σ := rb_Con.of (by decide +kernel) (fun _ => Nat.le_of_ble_eq_true rfl) (fun z w hC => xk_Pole_hindrance hC k0 hk0 p0 p1 σ r h)
theorem me_X7_layerAt : Cond.instanceMethod yX7_layerAt ∈ rb_tbl ∧ Cond.selects yX7_layerAt.cls yX7_layerAt yX7_layerAt ∈ rb_tbl ∧ Cond.initialized yX7_layerAt.cls ∈ rb_tbl ∧ Cond.code yX7_layerAt cX7_layerAt 5 (some .int) ∈ rb_tbl ∧ rb_pn yX7_layerAt 1 := ⟨rb_in (by decide +kernel) (by decide +kernel), rb_in (by decide +kernel) (by decide +kernel), rb_in (by decide +kernel) (by decide +kernel), rb_in (by decide +kernel) (by decide +kernel), by decide +kernel, by decide +kernel, by decide +kernel⟩
theorem mv_X7_90 : rb_MV RX7 90 yX7_layerAt cX7_layerAt 5 (some .int) 1 := ⟨rb_in (by decide +kernel) (by decide +kernel), me_X7_layerAt⟩
theorem me_X7_change : Cond.instanceMethod yX7_change ∈ rb_tbl ∧ Cond.selects yX7_change.cls yX7_change yX7_change ∈ rb_tbl ∧ Cond.initialized yX7_change.cls ∈ rb_tbl ∧ Cond.code yX7_change cX7_change 3 none ∈ rb_tbl ∧ rb_pn yX7_change 1 := ⟨rb_in (by decide +kernel) (by decide +kernel), rb_in (by decide +kernel) (by decide +kernel), rb_in (by decide +kernel) (by decide +kernel), rb_in (by decide +kernel) (by decide +kernel), by decide +kernel, by decide +kernel, by decide +kernel⟩
theorem mv_X7_93 : rb_MV RX7 93 yX7_change cX7_change 3 none 1 := ⟨rb_in (by decide +kernel) (by decide +kernel), me_X7_change⟩
def xf_Pole_putIn (k0 : Nat) (p0 : Int32) (p1 : Int32) (σ : rb_St) : Option (rb_St) := if (σ.1 k0 1) < 48 then rb_b1 (xf_Pole_overBy k0 p0 σ) fun r2 => rb_b1 (xf_Pole_underBy k0 p0 σ) fun r4 => rb_lt ((r2 <<< (4 &&& 31)) ||| (r4 <<< (7 &&& 31))) (fun v6 => rb_b1 (xf_Pole_layerAt k0 (p0 >>> (1 &&& 31)) σ) fun r8 => if rb_ib (σ.1 k0 1) 48 then rb_lt (rb_sI σ (k0 + 3) (σ.1 k0 1).toNatClampNeg (((p0 ||| v6) ||| (p1 <<< (10 &&& 31))) ||| (r8 <<< (14 &&& 31)))) (fun s11 => rb_lt (rb_sI s11 k0 1 ((s11.1 k0 1) + 1)) (fun s13 => rb_b1 (xf_Pole_change k0 (p0 >>> (1 &&& 31)) s13) fun s15 => some s15)) else none) else some σ
set_option maxHeartbeats 4000000 in
set_option maxRecDepth 100000 in
theorem xk_Pole_putIn {z : rb_Z} {w : rb_Wd} (hC : rb_Cx z rb_vX w RX7 cX7_putIn 4 none 3) (k0 : Nat) (hk0 : rb_isPole k0) (p0 : Int32) (p1 : Int32) (σ : rb_St) (σ9 : rb_St) (h : xf_Pole_putIn k0 p0 p1 σ = some σ9) : rb_At z rb_vX w 4 (rb_Q z rb_vX w none σ9) 0 [(0, .ref (rb_ad w k0)), (1, .int p0), (2, .int p1)] [] σ := by
  unfold xf_Pole_putIn at h
  refine rb_aload_n hC 0 dX7_putIn_0 rfl ?_
  refine rb_getI hC fr_X7_33_7 (rb_obPole hk0) rfl dX7_putIn_1 ?_
  refine rb_bipush (x := 48) hC dX7_putIn_4 (by decide) ?_
  refine rb_icmp_lt hC 10 dX7_putIn_6 (by decide) (fun c1 => ?_) (fun c1 => ?_)
  · replace h := rb_ifp c1 h
    refine rb_aload_n hC 0 dX7_putIn_10 rfl ?_
    refine rb_iload_n hC 1 dX7_putIn_11 rfl ?_
    obtain ⟨r2, q3, h⟩ := rb_b1s h
    refine rb_callVi hC rb_VokX mv_X7_64 (xc_Pole_overBy k0 hk0 p0 σ _ q3) (rb_obPole hk0) rfl [.int p0] rfl rfl rfl ⟨Nat.le_of_ble_eq_true rfl, Nat.le_of_ble_eq_true rfl⟩ (Nat.le_of_ble_eq_true rfl) dX7_putIn_12 ?_
    refine rb_iconst (x := 4) hC dX7_putIn_15 (by decide) ?_
    refine rb_ishl hC dX7_putIn_16 ?_
    refine rb_aload_n hC 0 dX7_putIn_17 rfl ?_
    refine rb_iload_n hC 1 dX7_putIn_18 rfl ?_
    obtain ⟨r4, q5, h⟩ := rb_b1s h
    refine rb_callVi hC rb_VokX mv_X7_87 (xc_Pole_underBy k0 hk0 p0 σ _ q5) (rb_obPole hk0) rfl [.int p0] rfl rfl rfl ⟨Nat.le_of_ble_eq_true rfl, Nat.le_of_ble_eq_true rfl⟩ (Nat.le_of_ble_eq_true rfl) dX7_putIn_19 ?_
    refine rb_bipush (x := 7) hC dX7_putIn_22 (by decide) ?_
    refine rb_ishl hC dX7_putIn_24 ?_
    refine rb_ior hC dX7_putIn_25 ?_
    obtain ⟨v6, e7, h⟩ := rb_ltE h
    refine rb_nmI e7 ?_
    refine rb_istore_n hC [(3, .int v6), (0, .ref (rb_ad w k0)), (1, .int p0), (2, .int p1)] dX7_putIn_26 (by decide) rfl ?_
    refine rb_aload_n hC 1 dX7_putIn_27 rfl ?_
    refine rb_getR hC fr_X7_18_7 (rb_obPole hk0) rfl dX7_putIn_28 ?_
    refine rb_aload_n hC 1 dX7_putIn_31 rfl ?_
    refine rb_getI hC fr_X7_33_7 (rb_obPole hk0) rfl dX7_putIn_32 ?_
    refine rb_iload_n hC 2 dX7_putIn_35 rfl ?_
    refine rb_iload_n hC 0 dX7_putIn_36 rfl ?_
    refine rb_ior hC dX7_putIn_37 ?_
    refine rb_iload_n hC 3 dX7_putIn_38 rfl ?_
    refine rb_bipush (x := 10) hC dX7_putIn_39 (by decide) ?_
    refine rb_ishl hC dX7_putIn_41 ?_
    refine rb_ior hC dX7_putIn_42 ?_
    refine rb_aload_n hC 1 dX7_putIn_43 rfl ?_
    refine rb_iload_n hC 2 dX7_putIn_44 rfl ?_
    refine rb_iconst (x := 1) hC dX7_putIn_45 (by decide) ?_
    refine rb_ishr hC dX7_putIn_46 ?_
    obtain ⟨r8, q9, h⟩ := rb_b1s h
    refine rb_callVi hC rb_VokX mv_X7_90 (xc_Pole_layerAt k0 hk0 (p0 >>> (1 &&& 31)) σ _ q9) (rb_obPole hk0) rfl [.int (p0 >>> (1 &&& 31))] rfl rfl rfl ⟨Nat.le_of_ble_eq_true rfl, Nat.le_of_ble_eq_true rfl⟩ (Nat.le_of_ble_eq_true rfl) dX7_putIn_47 ?_
    refine rb_bipush (x := 14) hC dX7_putIn_50 (by decide) ?_
    refine rb_ishl hC dX7_putIn_52 ?_
    refine rb_ior hC dX7_putIn_53 ?_
    obtain ⟨g10, h⟩ := rb_gd h
    refine rb_iast hC (rb_arPole3 hk0) (rb_ibI g10) dX7_putIn_54 ?_
    obtain ⟨s11, e12, h⟩ := rb_ltE h
    refine rb_nmS e12 ?_
    refine rb_aload_n hC 1 dX7_putIn_55 rfl ?_
    refine rb_dup hC dX7_putIn_56 rfl ?_
    refine rb_getI hC fr_X7_33_7 (rb_obPole hk0) rfl dX7_putIn_57 ?_
    refine rb_iconst (x := 1) hC dX7_putIn_60 (by decide) ?_
    refine rb_iadd hC dX7_putIn_61 ?_
    refine rb_putI hC fr_X7_33_7 ft_7_1 (rb_obPole hk0) rfl rfl rfl dX7_putIn_62 ?_
    obtain ⟨s13, e14, h⟩ := rb_ltE h
    refine rb_nmS e14 ?_
    refine rb_aload_n hC 1 dX7_putIn_65 rfl ?_
    refine rb_iload_n hC 2 dX7_putIn_66 rfl ?_
    refine rb_iconst (x := 1) hC dX7_putIn_67 (by decide) ?_
    refine rb_ishr hC dX7_putIn_68 ?_
    obtain ⟨s15, q16, h⟩ := rb_b1s h
    refine rb_callVv hC rb_VokX mv_X7_93 (xc_Pole_change k0 hk0 (p0 >>> (1 &&& 31)) s13 _ q16) (rb_obPole hk0) rfl [.int (p0 >>> (1 &&& 31))] rfl rfl rfl ⟨Nat.le_of_ble_eq_true rfl, Nat.le_of_ble_eq_true rfl⟩ (Nat.le_of_ble_eq_true rfl) dX7_putIn_69 ?_
    cases h
    exact rb_vret hC dX7_putIn_72
  · replace h := rb_ifn c1 h
    cases h
    exact rb_vret hC dX7_putIn_9
theorem xc_Pole_putIn (k0 : Nat) (hk0 : rb_isPole k0) (p0 : Int32) (p1 : Int32) (σ : rb_St) (σ9 : rb_St) (h : xf_Pole_putIn k0 p0 p1 σ = some σ9) : rb_Con rb_vX yX7_putIn cX7_putIn 4 none 3 (fun w => [.ref (rb_ad w k0), .int p0, .int p1]) σ (fun _ => none) σ9 := rb_Con.of (by decide +kernel) (fun _ => Nat.le_of_ble_eq_true rfl) (fun z w hC => xk_Pole_putIn hC k0 hk0 p0 p1 σ σ9 h)
def xl_Pole_takeOut_25 (k0 : Nat) (x2 : Int32) : Nat → Int32 → rb_St → Option (rb_St)
  | 0, _, _ => none
  | n + 1, x3, σ => if ((σ.1 k0 1) - 1) ≤ x3 then some σ else if rb_ib (x3 + 1) 48 then if rb_ib x3 48 then rb_lt (rb_sI σ (k0 + 3) x3.toNatClampNeg (σ.1 (k0 + 3) (x3 + 1).toNatClampNeg)) (fun s9 => xl_Pole_takeOut_25 k0 x2 n (x3 + 1) s9) else none else none
set_option maxHeartbeats 4000000 in
set_option maxRecDepth 100000 in
theorem xt_Pole_takeOut_25 {z : rb_Z} {w : rb_Wd} {Q : State → Prop} (hC : rb_Cx z rb_vX w RX7 cX7_takeOut 4 none 2) (k0 : Nat) (hk0 : rb_isPole k0) (x2 : Int32) : ∀ (n : Nat) (x3 : Int32) (σ : rb_St) (σ9 : rb_St), xl_Pole_takeOut_25 k0 x2 n x3 σ = some σ9 → rb_At z rb_vX w 4 Q 55 [(0, .ref (rb_ad w k0)), (2, .int x2)] [] σ9 → rb_At z rb_vX w 4 Q 25 [(0, .ref (rb_ad w k0)), (2, .int x2), (3, .int x3)] [] σ := by
  intro n
  induction n with
  | zero =>
    intro x3 σ σ9 h hE0
    cases h
  | succ n ih =>
    intro x3 σ σ9 h hE0
    rw [xl_Pole_takeOut_25] at h
    refine rb_iload_n hC 2 dX7_takeOut_25 rfl ?_
    refine rb_aload_n hC 0 dX7_takeOut_26 rfl ?_
    refine rb_getI hC fr_X7_33_7 (rb_obPole hk0) rfl dX7_takeOut_27 ?_
    refine rb_iconst (x := 1) hC dX7_takeOut_30 (by decide) ?_
    refine rb_isub hC dX7_takeOut_31 ?_
    refine rb_icmp_ge hC 55 dX7_takeOut_32 (by decide) (fun c6 => ?_) (fun c6 => ?_)
    · replace h := rb_ifp c6 h
      cases h
      exact rb_sub [0, 1] rfl (hE0)
    · replace h := rb_ifn c6 h
      refine rb_aload_n hC 0 dX7_takeOut_35 rfl ?_
      refine rb_getR hC fr_X7_18_7 (rb_obPole hk0) rfl dX7_takeOut_36 ?_
      refine rb_iload_n hC 2 dX7_takeOut_39 rfl ?_
      refine rb_aload_n hC 0 dX7_takeOut_40 rfl ?_
      refine rb_getR hC fr_X7_18_7 (rb_obPole hk0) rfl dX7_takeOut_41 ?_
      refine rb_iload_n hC 2 dX7_takeOut_44 rfl ?_
      refine rb_iconst (x := 1) hC dX7_takeOut_45 (by decide) ?_
      refine rb_iadd hC dX7_takeOut_46 ?_
      obtain ⟨g7, h⟩ := rb_gd h
      refine rb_iald hC (rb_arPole3 hk0) (rb_ibI g7) dX7_takeOut_47 ?_
      obtain ⟨g8, h⟩ := rb_gd h
      refine rb_iast hC (rb_arPole3 hk0) (rb_ibI g8) dX7_takeOut_48 ?_
      obtain ⟨s9, e10, h⟩ := rb_ltE h
      refine rb_nmS e10 ?_
      refine rb_iinc hC 2 [(3, .int (x3 + 1)), (0, .ref (rb_ad w k0)), (2, .int x2)] dX7_takeOut_49 rfl rfl (by decide) rfl ?_
      refine rb_goto hC 25 dX7_takeOut_52 (by decide) ?_
      exact rb_sub [1, 2, 0] rfl (ih (x3 + 1) s9 _ h hE0)
def xf_Pole_takeOut (k0 : Nat) (p0 : Int32) (σ : rb_St) : Option (rb_St) := if p0 < 0 then some σ else if p0 < (σ.1 k0 1) then if rb_ib p0 48 then rb_lt (xf_Pole_placeIn (σ.1 (k0 + 3) p0.toNatClampNeg) σ) (fun v4 => rb_b1 (xl_Pole_takeOut_25 k0 v4 rb_FU p0 σ) fun s11 => rb_lt (rb_sI s11 k0 1 ((s11.1 k0 1) - 1)) (fun s13 => rb_b1 (xf_Pole_change k0 v4 s13) fun s15 => some s15)) else none else some σ
set_option maxHeartbeats 4000000 in
set_option maxRecDepth 100000 in
theorem xk_Pole_takeOut {z : rb_Z} {w : rb_Wd} (hC : rb_Cx z rb_vX w RX7 cX7_takeOut 4 none 2) (k0 : Nat) (hk0 : rb_isPole k0) (p0 : Int32) (σ : rb_St) (σ9 : rb_St) (h : xf_Pole_takeOut k0 p0 σ = some σ9) : rb_At z rb_vX w 4 (rb_Q z rb_vX w none σ9) 0 [(0, .ref (rb_ad w k0)), (1, .int p0)] [] σ := by
  unfold xf_Pole_takeOut at h
  refine rb_iload_n hC 1 dX7_takeOut_0 rfl ?_
  refine rb_if_lt hC 12 dX7_takeOut_1 (by decide) (fun c1 => ?_) (fun c1 => ?_)
  · replace h := rb_ifp c1 h
    cases h
    exact rb_vret hC dX7_takeOut_12
  · replace h := rb_ifn c1 h
    refine rb_iload_n hC 1 dX7_takeOut_4 rfl ?_
    refine rb_aload_n hC 0 dX7_takeOut_5 rfl ?_
    refine rb_getI hC fr_X7_33_7 (rb_obPole hk0) rfl dX7_takeOut_6 ?_
    refine rb_icmp_lt hC 13 dX7_takeOut_9 (by decide) (fun c2 => ?_) (fun c2 => ?_)
    · replace h := rb_ifp c2 h
      refine rb_aload_n hC 0 dX7_takeOut_13 rfl ?_
      refine rb_getR hC fr_X7_18_7 (rb_obPole hk0) rfl dX7_takeOut_14 ?_
      refine rb_iload_n hC 1 dX7_takeOut_17 rfl ?_
      obtain ⟨g3, h⟩ := rb_gd h
      refine rb_iald hC (rb_arPole3 hk0) (rb_ibI g3) dX7_takeOut_18 ?_
      refine rb_callSi hC rb_VokX mv_X7_70 (xc_Pole_placeIn (σ.1 (k0 + 3) p0.toNatClampNeg) σ _ rfl) [.int (σ.1 (k0 + 3) p0.toNatClampNeg)] rfl rfl rfl ⟨Nat.le_of_ble_eq_true rfl, Nat.le_of_ble_eq_true rfl⟩ (Nat.le_of_ble_eq_true rfl) dX7_takeOut_19 ?_
      obtain ⟨v4, e5, h⟩ := rb_ltE h
      refine rb_nmI e5 ?_
      refine rb_istore_n hC [(2, .int v4), (0, .ref (rb_ad w k0)), (1, .int p0)] dX7_takeOut_22 (by decide) rfl ?_
      refine rb_iload_n hC 2 dX7_takeOut_23 rfl ?_
      refine rb_istore_n hC [(3, .int p0), (2, .int v4), (0, .ref (rb_ad w k0)), (1, .int p0)] dX7_takeOut_24 (by decide) rfl ?_
      obtain ⟨s11, q12, h⟩ := rb_b1s h
      refine rb_sub (lv2 := [(0, .ref (rb_ad w k0)), (2, .int v4), (3, .int p0)]) [2, 1, 0] rfl ?_
      refine xt_Pole_takeOut_25 hC k0 hk0 v4 rb_FU p0 σ _ q12 ?_
      refine rb_aload_n hC 0 dX7_takeOut_55 rfl ?_
      refine rb_dup hC dX7_takeOut_56 rfl ?_
      refine rb_getI hC fr_X7_33_7 (rb_obPole hk0) rfl dX7_takeOut_57 ?_
      refine rb_iconst (x := 1) hC dX7_takeOut_60 (by decide) ?_
      refine rb_isub hC dX7_takeOut_61 ?_
      refine rb_putI hC fr_X7_33_7 ft_7_1 (rb_obPole hk0) rfl rfl rfl dX7_takeOut_62 ?_
      obtain ⟨s13, e14, h⟩ := rb_ltE h
      refine rb_nmS e14 ?_
      refine rb_aload_n hC 0 dX7_takeOut_65 rfl ?_
      refine rb_iload_n hC 1 dX7_takeOut_66 rfl ?_
      obtain ⟨s15, q16, h⟩ := rb_b1s h
      refine rb_callVv hC rb_VokX mv_X7_93 (xc_Pole_change k0 hk0 v4 s13 _ q16) (rb_obPole hk0) rfl [.int v4] rfl rfl rfl ⟨Nat.le_of_ble_eq_true rfl, Nat.le_of_ble_eq_true rfl⟩ (Nat.le_of_ble_eq_true rfl) dX7_takeOut_67 ?_
      cases h
      exact rb_vret hC dX7_takeOut_70
    · replace h := rb_ifn c2 h
      cases h
      exact rb_vret hC dX7_takeOut_12
theorem xc_Pole_takeOut (k0 : Nat) (hk0 : rb_isPole k0) (p0 : Int32) (σ : rb_St) (σ9 : rb_St) (h : xf_Pole_takeOut k0 p0 σ = some σ9) : rb_Con rb_vX yX7_takeOut cX7_takeOut 4 none 2 (fun w => [.ref (rb_ad w k0), .int p0]) σ (fun _ => none) σ9 := rb_Con.of (by decide +kernel) (fun _ => Nat.le_of_ble_eq_true rfl) (fun z w hC => xk_Pole_takeOut hC k0 hk0 p0 σ σ9 h)
theorem me_X7_undoneBy : Cond.instanceMethod yX7_undoneBy ∈ rb_tbl ∧ Cond.selects yX7_undoneBy.cls yX7_undoneBy yX7_undoneBy ∈ rb_tbl ∧ Cond.initialized yX7_undoneBy.cls ∈ rb_tbl ∧ Cond.code yX7_undoneBy cX7_undoneBy 4 (some .int) ∈ rb_tbl ∧ rb_pn yX7_undoneBy 1 := ⟨rb_in (by decide +kernel) (by decide +kernel), rb_in (by decide +kernel) (by decide +kernel), rb_in (by decide +kernel) (by decide +kernel), rb_in (by decide +kernel) (by decide +kernel), by decide +kernel, by decide +kernel, by decide +kernel⟩
theorem mv_X7_101 : rb_MV RX7 101 yX7_undoneBy cX7_undoneBy 4 (some .int) 1 := ⟨rb_in (by decide +kernel) (by decide +kernel), me_X7_undoneBy⟩
theorem me_X7_putIn : Cond.instanceMethod yX7_putIn ∈ rb_tbl ∧ Cond.selects yX7_putIn.cls yX7_putIn yX7_putIn ∈ rb_tbl ∧ Cond.initialized yX7_putIn.cls ∈ rb_tbl ∧ Cond.code yX7_putIn cX7_putIn 4 none ∈ rb_tbl ∧ rb_pn yX7_putIn 2 := ⟨rb_in (by decide +kernel) (by decide +kernel), rb_in (by decide +kernel) (by decide +kernel), rb_in (by decide +kernel) (by decide +kernel), rb_in (by decide +kernel) (by decide +kernel), by decide +kernel, by decide +kernel, by decide +kernel⟩
theorem mv_X7_107 : rb_MV RX7 107 yX7_putIn cX7_putIn 4 none 2 := ⟨rb_in (by decide +kernel) (by decide +kernel), me_X7_putIn⟩
theorem me_X7_takeOut : Cond.instanceMethod yX7_takeOut ∈ rb_tbl ∧ Cond.selects yX7_takeOut.cls yX7_takeOut yX7_takeOut ∈ rb_tbl ∧ Cond.initialized yX7_takeOut.cls ∈ rb_tbl ∧ Cond.code yX7_takeOut cX7_takeOut 4 none ∈ rb_tbl ∧ rb_pn yX7_takeOut 1 := ⟨rb_in (by decide +kernel) (by decide +kernel), rb_in (by decide +kernel) (by decide +kernel), rb_in (by decide +kernel) (by decide +kernel), rb_in (by decide +kernel) (by decide +kernel), by decide +kernel, by decide +kernel, by decide +kernel⟩
theorem mv_X7_104 : rb_MV RX7 104 yX7_takeOut cX7_takeOut 4 none 1 := ⟨rb_in (by decide +kernel) (by decide +kernel), me_X7_takeOut⟩
def xf_Pole_moveEndless (k0 : Nat) (p0 : Int32) (σ : rb_St) : Option (rb_St) := if (xf_Pole_hasPlace k0 (p0 >>> (1 &&& 31)) σ) = 0 then some σ else rb_b1 (xf_Pole_undoneBy k0 p0 σ) fun r2 => if r2 < 0 then rb_b1 (xf_Pole_putIn k0 p0 0 σ) fun s5 => some s5 else rb_b1 (xf_Pole_takeOut k0 r2 σ) fun s7 => some s7
set_option maxHeartbeats 4000000 in
set_option maxRecDepth 100000 in
theorem xk_Pole_moveEndless {z : rb_Z} {w : rb_Wd} (hC : rb_Cx z rb_vX w RX7 cX7_moveEndless 3 none 4) (k0 : Nat) (hk0 : rb_isPole k0) (p0 : Int32) (σ : rb_St) (σ9 : rb_St) (h : xf_Pole_moveEndless k0 p0 σ = some σ9) : rb_At z rb_vX w 3 (rb_Q z rb_vX w none σ9) 0 [(0, .ref (rb_ad w k0)), (1, .int p0)] [] σ := by
  unfold xf_Pole_moveEndless at h
  refine rb_aload_n hC 0 dX7_moveEndless_0 rfl ?_
  refine rb_iload_n hC 1 dX7_moveEndless_1 rfl ?_
  refine rb_iconst (x := 1) hC dX7_moveEndless_2 (by decide) ?_
  refine rb_ishr hC dX7_moveEndless_3 ?_
  refine rb_callVi hC rb_VokX mv_X7_97 (xc_Pole_hasPlace k0 hk0 (p0 >>> (1 &&& 31)) σ _ rfl) (rb_obPole hk0) rfl [.int (p0 >>> (1 &&& 31))] rfl rfl rfl ⟨Nat.le_of_ble_eq_true rfl, Nat.le_of_ble_eq_true rfl⟩ (Nat.le_of_ble_eq_true rfl) dX7_moveEndless_4 ?_
  refine rb_if_ne hC 11 dX7_moveEndless_7 (by decide) (fun c1 => ?_) (fun c1 => ?_)
  · replace h := rb_ifn c1 h
    refine rb_aload_n hC 0 dX7_moveEndless_11 rfl ?_
    refine rb_iload_n hC 1 dX7_moveEndless_12 rfl ?_
    obtain ⟨r2, q3, h⟩ := rb_b1s h
    refine rb_callVi hC rb_VokX mv_X7_101 (xc_Pole_undoneBy k0 hk0 p0 σ _ q3) (rb_obPole hk0) rfl [.int p0] rfl rfl rfl ⟨Nat.le_of_ble_eq_true rfl, Nat.le_of_ble_eq_true rfl⟩ (Nat.le_of_ble_eq_true rfl) dX7_moveEndless_13 ?_
    refine rb_istore_n hC [(2, .int r2), (0, .ref (rb_ad w k0)), (1, .int p0)] dX7_moveEndless_16 (by decide) rfl ?_
    refine rb_iload_n hC 0 dX7_moveEndless_17 rfl ?_
    refine rb_if_lt hC 29 dX7_moveEndless_18 (by decide) (fun c4 => ?_) (fun c4 => ?_)
    · replace h := rb_ifp c4 h
      refine rb_aload_n hC 1 dX7_moveEndless_29 rfl ?_
      refine rb_iload_n hC 2 dX7_moveEndless_30 rfl ?_
      refine rb_iconst (x := 0) hC dX7_moveEndless_31 (by decide) ?_
      obtain ⟨s5, q6, h⟩ := rb_b1s h
      refine rb_callVv hC rb_VokX mv_X7_107 (xc_Pole_putIn k0 hk0 p0 0 σ _ q6) (rb_obPole hk0) rfl [.int p0, .int 0] rfl rfl rfl ⟨Nat.le_of_ble_eq_true rfl, Nat.le_of_ble_eq_true rfl⟩ (Nat.le_of_ble_eq_true rfl) dX7_moveEndless_32 ?_
      cases h
      exact rb_vret hC dX7_moveEndless_35
    · replace h := rb_ifn c4 h
      refine rb_aload_n hC 1 dX7_moveEndless_21 rfl ?_
      refine rb_iload_n hC 0 dX7_moveEndless_22 rfl ?_
      obtain ⟨s7, q8, h⟩ := rb_b1s h
      refine rb_callVv hC rb_VokX mv_X7_104 (xc_Pole_takeOut k0 hk0 r2 σ _ q8) (rb_obPole hk0) rfl [.int r2] rfl rfl rfl ⟨Nat.le_of_ble_eq_true rfl, Nat.le_of_ble_eq_true rfl⟩ (Nat.le_of_ble_eq_true rfl) dX7_moveEndless_23 ?_
      refine rb_goto hC 35 dX7_moveEndless_26 (by decide) ?_
      cases h
      exact rb_vret hC dX7_moveEndless_35
  · replace h := rb_ifp c1 h
    cases h
    exact rb_vret hC dX7_moveEndless_10
theorem xc_Pole_moveEndless (k0 : Nat) (hk0 : rb_isPole k0) (p0 : Int32) (σ : rb_St) (σ9 : rb_St) (h : xf_Pole_moveEndless k0 p0 σ = some σ9) : rb_Con rb_vX yX7_moveEndless cX7_moveEndless 3 none 4 (fun w => [.ref (rb_ad w k0), .int p0]) σ (fun _ => none) σ9 := rb_Con.of (by decide +kernel) (fun _ => Nat.le_of_ble_eq_true rfl) (fun z w hC => xk_Pole_moveEndless hC k0 hk0 p0 σ σ9 h)
theorem me_X7_looseLetters : Cond.instanceMethod yX7_looseLetters ∈ rb_tbl ∧ Cond.selects yX7_looseLetters.cls yX7_looseLetters yX7_looseLetters ∈ rb_tbl ∧ Cond.initialized yX7_looseLetters.cls ∈ rb_tbl ∧ Cond.code yX7_looseLetters cX7_looseLetters 5 (some .int) ∈ rb_tbl ∧ rb_pn yX7_looseLetters 0 := ⟨rb_in (by decide +kernel) (by decide +kernel), rb_in (by decide +kernel) (by decide +kernel), rb_in (by decide +kernel) (by decide +kernel), rb_in (by decide +kernel) (by decide +kernel), by decide +kernel, by decide +kernel, by decide +kernel⟩
theorem mv_X7_111 : rb_MV RX7 111 yX7_looseLetters cX7_looseLetters 5 (some .int) 0 := ⟨rb_in (by decide +kernel) (by decide +kernel), me_X7_looseLetters⟩
def xl_Pole_undoingLetter_14 (x1 : Int32) (σ : rb_St) : Nat → Int32 → Option (Nat × Int32)
  | 0, _ => none
  | n + 1, x2 => if x2 < 0 then some (1, x2) else if ((x1 >>> (x2 &&& 31)) &&& 1) = 0 then xl_Pole_undoingLetter_14 x1 σ n (x2 + (-1)) else some (0, x2)
set_option maxHeartbeats 4000000 in
set_option maxRecDepth 100000 in
theorem xt_Pole_undoingLetter_14 {z : rb_Z} {w : rb_Wd} {Q : State → Prop} (hC : rb_Cx z rb_vX w RX7 cX7_undoingLetter 3 (some .int) 3) (x1 : Int32) (σ : rb_St) : ∀ (n : Nat) (x2 : Int32) (t : Nat) (y2 : Int32), xl_Pole_undoingLetter_14 x1 σ n x2 = some (t, y2) → (t = 0 → rb_At z rb_vX w 3 Q 26 [(2, .int y2)] [] σ) → (t = 1 → rb_At z rb_vX w 3 Q 36 [] [] σ) → rb_At z rb_vX w 3 Q 14 [(1, .int x1), (2, .int x2)] [] σ := by
  intro n
  induction n with
  | zero =>
    intro x2 t y2 h hE0 hE1
    cases h
  | succ n ih =>
    intro x2 t y2 h hE0 hE1
    rw [xl_Pole_undoingLetter_14] at h
    refine rb_iload_n hC 1 dX7_undoingLetter_14 rfl ?_
    refine rb_if_lt hC 36 dX7_undoingLetter_15 (by decide) (fun c3 => ?_) (fun c3 => ?_)
    · replace h := rb_ifp c3 h
      cases h
      exact rb_sub [] rfl (hE1 rfl)
    · replace h := rb_ifn c3 h
      refine rb_iload_n hC 0 dX7_undoingLetter_18 rfl ?_
      refine rb_iload_n hC 1 dX7_undoingLetter_19 rfl ?_
      refine rb_ishr hC dX7_undoingLetter_20 ?_
      refine rb_iconst (x := 1) hC dX7_undoingLetter_21 (by decide) ?_
      refine rb_iand hC dX7_undoingLetter_22 ?_
      refine rb_if_eq hC 30 dX7_undoingLetter_23 (by decide) (fun c4 => ?_) (fun c4 => ?_)
      · replace h := rb_ifp c4 h
        refine rb_iinc hC 1 [(2, .int (x2 + (-1))), (1, .int x1)] dX7_undoingLetter_30 rfl rfl (by decide) rfl ?_
        refine rb_goto hC 14 dX7_undoingLetter_33 (by decide) ?_
        exact rb_sub [1, 0] rfl (ih (x2 + (-1)) _ _ h hE0 hE1)
      · replace h := rb_ifn c4 h
        cases h
        exact rb_sub [1] rfl (hE0 rfl)
def xf_Pole_undoingLetter (k0 : Nat) (σ : rb_St) : Option Int32 := rb_b1 (xf_Pole_looseLetters k0 σ) fun r1 => rb_b2 (xl_Pole_undoingLetter_14 r1 σ rb_FU ((2 * (σ.1 k0 0)) - 1)) fun t5 y6 => if t5 = 0 then some (y6 ^^^ 1) else some 20
set_option maxHeartbeats 4000000 in
set_option maxRecDepth 100000 in
theorem xk_Pole_undoingLetter {z : rb_Z} {w : rb_Wd} (hC : rb_Cx z rb_vX w RX7 cX7_undoingLetter 3 (some .int) 3) (k0 : Nat) (hk0 : rb_isPole k0) (σ : rb_St) (r : Int32) (h : xf_Pole_undoingLetter k0 σ = some r) : rb_At z rb_vX w 3 (rb_Q z rb_vX w (some (.int r)) σ) 0 [(0, .ref (rb_ad w k0))] [] σ := by
  unfold xf_Pole_undoingLetter at h
  refine rb_aload_n hC 0 dX7_undoingLetter_0 rfl ?_
  obtain ⟨r1, q2, h⟩ := rb_b1s h
  refine rb_callVi hC rb_VokX mv_X7_111 (xc_Pole_looseLetters k0 hk0 σ _ q2) (rb_obPole hk0) rfl [] rfl rfl rfl ⟨Nat.le_of_ble_eq_true rfl, Nat.le_of_ble_eq_true rfl⟩ (Nat.le_of_ble_eq_true rfl) dX7_undoingLetter_1 ?_
  refine rb_istore_n hC [(1, .int r1), (0, .ref (rb_ad w k0))] dX7_undoingLetter_4 (by decide) rfl ?_
  refine rb_iconst (x := 2) hC dX7_undoingLetter_5 (by decide) ?_
  refine rb_aload_n hC 1 dX7_undoingLetter_6 rfl ?_
  refine rb_getI hC fr_X7_30_7 (rb_obPole hk0) rfl dX7_undoingLetter_7 ?_
  refine rb_imul hC dX7_undoingLetter_10 ?_
  refine rb_iconst (x := 1) hC dX7_undoingLetter_11 (by decide) ?_
  refine rb_isub hC dX7_undoingLetter_12 ?_
  refine rb_istore_n hC [(2, .int ((2 * (σ.1 k0 0)) - 1)), (1, .int r1), (0, .ref (rb_ad w k0))] dX7_undoingLetter_13 (by decide) rfl ?_
  obtain ⟨t5, y6, q7, h⟩ := rb_b2s h
  refine rb_sub (lv2 := [(1, .int r1), (2, .int ((2 * (σ.1 k0 0)) - 1))]) [1, 0] rfl ?_
  refine xt_Pole_undoingLetter_14 hC r1 σ rb_FU ((2 * (σ.1 k0 0)) - 1) _ _ q7 (fun ht => ?_) (fun ht => ?_)
  · subst ht
    replace h := rb_ifp rfl h
    refine rb_iload_n hC 0 dX7_undoingLetter_26 rfl ?_
    refine rb_iconst (x := 1) hC dX7_undoingLetter_27 (by decide) ?_
    refine rb_ixor hC dX7_undoingLetter_28 ?_
    cases h
    exact rb_iret hC dX7_undoingLetter_29
  · subst ht
    replace h := rb_ifn (by decide) h
    refine rb_bipush (x := 20) hC dX7_undoingLetter_36 (by decide) ?_
    cases h
    exact rb_iret hC dX7_undoingLetter_38
theorem xc_Pole_undoingLetter (k0 : Nat) (hk0 : rb_isPole k0) (σ : rb_St) (r : Int32) (h : xf_Pole_undoingLetter k0 σ = some r) : rb_Con rb_vX yX7_undoingLetter cX7_undoingLetter 3 (some .int) 3 (fun w => [.ref (rb_ad w k0)]) σ (fun _ => (some (.int r))) σ := rb_Con.of (by decide +kernel) (fun _ => Nat.le_of_ble_eq_true rfl) (fun z w hC => xk_Pole_undoingLetter hC k0 hk0 σ r h)
def xl_Pole_tellOrder_12 (k0 : Nat) : Nat → Int64 → Int32 → rb_St → Option (rb_St)
  | 0, _, _, _ => none
  | n + 1, x2, x4, σ => if (σ.1 k0 1) ≤ x4 then some σ else if 48 ≤ x4 then some σ else rb_b1 (xf_Pole_toldNext k0 x2 σ) fun r5 => if rb_ib r5 48 then if rb_ib x4 48 then rb_lt (rb_sI σ 235 x4.toNatClampNeg (σ.1 (k0 + 3) r5.toNatClampNeg)) (fun s9 => rb_lt (x2 &&& (((1 : Int64) <<< (r5.toInt64 &&& 63)) ^^^ (-1))) (fun v11 => xl_Pole_tellOrder_12 k0 n v11 (x4 + 1) s9)) else none else none
set_option maxHeartbeats 4000000 in
set_option maxRecDepth 100000 in
theorem xt_Pole_tellOrder_12 {z : rb_Z} {w : rb_Wd} {Q : State → Prop} (hC : rb_Cx z rb_vX w RX7 cX7_tellOrder 6 none 3) (k0 : Nat) (hk0 : rb_isPole k0) : ∀ (n : Nat) (x2 : Int64) (x4 : Int32) (σ : rb_St) (σ9 : rb_St), xl_Pole_tellOrder_12 k0 n x2 x4 σ = some σ9 → rb_At z rb_vX w 6 Q 63 [] [] σ9 → rb_At z rb_vX w 6 Q 12 [(0, .ref (rb_ad w k0)), (1, .ref (rb_ad w 235)), (2, .long x2), (4, .int x4)] [] σ := by
  intro n
  induction n with
  | zero =>
    intro x2 x4 σ σ9 h hE0
    cases h
  | succ n ih =>
    intro x2 x4 σ σ9 h hE0
    rw [xl_Pole_tellOrder_12] at h
    refine rb_iload hC 3 dX7_tellOrder_12 rfl ?_
    refine rb_aload_n hC 0 dX7_tellOrder_14 rfl ?_
    refine rb_getI hC fr_X7_33_7 (rb_obPole hk0) rfl dX7_tellOrder_15 ?_
    refine rb_icmp_ge hC 63 dX7_tellOrder_18 (by decide) (fun c3 => ?_) (fun c3 => ?_)
    · replace h := rb_ifp c3 h
      cases h
      exact rb_sub [] rfl (hE0)
    · replace h := rb_ifn c3 h
      refine rb_iload hC 3 dX7_tellOrder_21 rfl ?_
      refine rb_aload_n hC 1 dX7_tellOrder_23 rfl ?_
      refine rb_alen (x := 48) hC rb_arX235 (fun _ => rfl) (by decide) dX7_tellOrder_24 ?_
      refine rb_icmp_ge hC 63 dX7_tellOrder_25 (by decide) (fun c4 => ?_) (fun c4 => ?_)
      · replace h := rb_ifp c4 h
        cases h
        exact rb_sub [] rfl (hE0)
      · replace h := rb_ifn c4 h
        refine rb_aload_n hC 0 dX7_tellOrder_28 rfl ?_
        refine rb_lload_n hC 2 dX7_tellOrder_29 rfl ?_
        obtain ⟨r5, q6, h⟩ := rb_b1s h
        refine rb_callVi hC rb_VokX mv_X7_117 (xc_Pole_toldNext k0 hk0 x2 σ _ q6) (rb_obPole hk0) rfl [.long x2] rfl rfl rfl ⟨Nat.le_of_ble_eq_true rfl, Nat.le_of_ble_eq_true rfl⟩ (Nat.le_of_ble_eq_true rfl) dX7_tellOrder_30 ?_
        refine rb_istore hC [(5, .int r5), (0, .ref (rb_ad w k0)), (1, .ref (rb_ad w 235)), (2, .long x2), (4, .int x4)] dX7_tellOrder_33 (by decide) rfl ?_
        refine rb_aload_n hC 2 dX7_tellOrder_35 rfl ?_
        refine rb_iload hC 4 dX7_tellOrder_36 rfl ?_
        refine rb_aload_n hC 1 dX7_tellOrder_38 rfl ?_
        refine rb_getR hC fr_X7_18_7 (rb_obPole hk0) rfl dX7_tellOrder_39 ?_
        refine rb_iload hC 0 dX7_tellOrder_42 rfl ?_
        obtain ⟨g7, h⟩ := rb_gd h
        refine rb_iald hC (rb_arPole3 hk0) (rb_ibI g7) dX7_tellOrder_44 ?_
        obtain ⟨g8, h⟩ := rb_gd h
        refine rb_iast hC rb_arX235 (rb_ibI g8) dX7_tellOrder_45 ?_
        obtain ⟨s9, e10, h⟩ := rb_ltE h
        refine rb_nmS e10 ?_
        refine rb_lload_n hC 3 dX7_tellOrder_46 rfl ?_
        refine rb_lconst (x := 1) hC dX7_tellOrder_47 (by decide) ?_
        refine rb_iload hC 0 dX7_tellOrder_48 rfl ?_
        refine rb_lshl hC dX7_tellOrder_50 ?_
        refine rb_ldc2_w hC kc_X7_121 dX7_tellOrder_51 ?_
        refine rb_lxor hC dX7_tellOrder_54 ?_
        refine rb_land hC dX7_tellOrder_55 ?_
        obtain ⟨v11, e12, h⟩ := rb_ltE h
        refine rb_nmJ e12 ?_
        refine rb_lstore_n hC [(2, .long v11), (5, .int r5), (0, .ref (rb_ad w k0)), (1, .ref (rb_ad w 235)), (4, .int x4)] dX7_tellOrder_56 (by decide) rfl ?_
        refine rb_iinc hC 4 [(4, .int (x4 + 1)), (2, .long v11), (5, .int r5), (0, .ref (rb_ad w k0)), (1, .ref (rb_ad w 235))] dX7_tellOrder_57 rfl rfl (by decide) rfl ?_
        refine rb_goto hC 12 dX7_tellOrder_60 (by decide) ?_
        exact rb_sub [3, 4, 1, 0] rfl (ih v11 (x4 + 1) s9 _ h hE0)
def xf_Pole_tellOrder (k0 : Nat) (σ : rb_St) : Option (rb_St) := rb_lt (((1 : Int64) <<< ((σ.1 k0 1).toInt64 &&& 63)) - 1) (fun v1 => rb_b1 (xl_Pole_tellOrder_12 k0 rb_FU v1 0 σ) fun s13 => some s13)
set_option maxHeartbeats 4000000 in
set_option maxRecDepth 100000 in
theorem xk_Pole_tellOrder {z : rb_Z} {w : rb_Wd} (hC : rb_Cx z rb_vX w RX7 cX7_tellOrder 6 none 3) (k0 : Nat) (hk0 : rb_isPole k0) (σ : rb_St) (σ9 : rb_St) (h : xf_Pole_tellOrder k0 σ = some σ9) : rb_At z rb_vX w 6 (rb_Q z rb_vX w none σ9) 0 [(0, .ref (rb_ad w k0)), (1, .ref (rb_ad w 235))] [] σ := by
  unfold xf_Pole_tellOrder at h
  refine rb_lconst (x := 1) hC dX7_tellOrder_0 (by decide) ?_
  refine rb_aload_n hC 0 dX7_tellOrder_1 rfl ?_
  refine rb_getI hC fr_X7_33_7 (rb_obPole hk0) rfl dX7_tellOrder_2 ?_
  refine rb_lshl hC dX7_tellOrder_5 ?_
  refine rb_lconst (x := 1) hC dX7_tellOrder_6 (by decide) ?_
  refine rb_lsub hC dX7_tellOrder_7 ?_
  obtain ⟨v1, e2, h⟩ := rb_ltE h
  refine rb_nmJ e2 ?_
  refine rb_lstore_n hC [(2, .long v1), (0, .ref (rb_ad w k0)), (1, .ref (rb_ad w 235))] dX7_tellOrder_8 (by decide) rfl ?_
  refine rb_iconst (x := 0) hC dX7_tellOrder_9 (by decide) ?_
  refine rb_istore hC [(4, .int 0), (2, .long v1), (0, .ref (rb_ad w k0)), (1, .ref (rb_ad w 235))] dX7_tellOrder_10 (by decide) rfl ?_
  obtain ⟨s13, q14, h⟩ := rb_b1s h
  refine rb_sub (lv2 := [(0, .ref (rb_ad w k0)), (1, .ref (rb_ad w 235)), (2, .long v1), (4, .int 0)]) [2, 3, 1, 0] rfl ?_
  refine xt_Pole_tellOrder_12 hC k0 hk0 rb_FU v1 0 σ _ q14 ?_
  cases h
  exact rb_vret hC dX7_tellOrder_63
theorem xc_Pole_tellOrder (k0 : Nat) (hk0 : rb_isPole k0) (σ : rb_St) (σ9 : rb_St) (h : xf_Pole_tellOrder k0 σ = some σ9) : rb_Con rb_vX yX7_tellOrder cX7_tellOrder 6 none 3 (fun w => [.ref (rb_ad w k0), .ref (rb_ad w 235)]) σ (fun _ => none) σ9 := rb_Con.of (by decide +kernel) (fun _ => Nat.le_of_ble_eq_true rfl) (fun z w hC => xk_Pole_tellOrder hC k0 hk0 σ σ9 h)
def xl_Pole_toLetOut_7 (k0 : Nat) (x1 : Int32) (σ : rb_St) : Nat → Int32 → Int32 → Int32 → Option (Int32)
  | 0, _, _, _ => none
  | n + 1, x2, x3, x4 => if (σ.1 k0 1) ≤ x4 then some x3 else if rb_ib x4 48 then rb_lt (xf_Pole_placeIn (σ.1 (k0 + 3) x4.toNatClampNeg) σ) (fun v3 => rb_b1 (xf_Pole_isOf k0 x4 x1 σ) fun r5 => if r5 = 0 then if ((x2 >>> (v3 &&& 31)) &&& 1) = 0 then xl_Pole_toLetOut_7 k0 x1 σ n x2 x3 (x4 + 1) else rb_lt (x2 ||| (xf_Pole_nearOf k0 v3 σ)) (fun v11 => xl_Pole_toLetOut_7 k0 x1 σ n v11 (x3 + 1) (x4 + 1)) else rb_lt (x2 ||| (xf_Pole_nearOf k0 v3 σ)) (fun v8 => xl_Pole_toLetOut_7 k0 x1 σ n v8 (x3 + 1) (x4 + 1))) else none
set_option maxHeartbeats 4000000 in
set_option maxRecDepth 100000 in
theorem xt_Pole_toLetOut_7 {z : rb_Z} {w : rb_Wd} {Q : State → Prop} (hC : rb_Cx z rb_vX w RX7 cX7_toLetOut 6 (some .int) 2) (k0 : Nat) (hk0 : rb_isPole k0) (x1 : Int32) (σ : rb_St) : ∀ (n : Nat) (x2 : Int32) (x3 : Int32) (x4 : Int32) (y3 : Int32), xl_Pole_toLetOut_7 k0 x1 σ n x2 x3 x4 = some y3 → rb_At z rb_vX w 6 Q 65 [(3, .int y3)] [] σ → rb_At z rb_vX w 6 Q 7 [(0, .ref (rb_ad w k0)), (1, .int x1), (2, .int x2), (3, .int x3), (4, .int x4)] [] σ := by
  intro n
  induction n with
  | zero =>
    intro x2 x3 x4 y3 h hE0
    cases h
  | succ n ih =>
    intro x2 x3 x4 y3 h hE0
    rw [xl_Pole_toLetOut_7] at h
    refine rb_iload hC 4 dX7_toLetOut_7 rfl ?_
    refine rb_aload_n hC 0 dX7_toLetOut_9 rfl ?_
    refine rb_getI hC fr_X7_33_7 (rb_obPole hk0) rfl dX7_toLetOut_10 ?_
    refine rb_icmp_ge hC 65 dX7_toLetOut_13 (by decide) (fun c1 => ?_) (fun c1 => ?_)
    · replace h := rb_ifp c1 h
      cases h
      exact rb_sub [3] rfl (hE0)
    · replace h := rb_ifn c1 h
      refine rb_aload_n hC 0 dX7_toLetOut_16 rfl ?_
      refine rb_getR hC fr_X7_18_7 (rb_obPole hk0) rfl dX7_toLetOut_17 ?_
      refine rb_iload hC 4 dX7_toLetOut_20 rfl ?_
      obtain ⟨g2, h⟩ := rb_gd h
      refine rb_iald hC (rb_arPole3 hk0) (rb_ibI g2) dX7_toLetOut_22 ?_
      refine rb_callSi hC rb_VokX mv_X7_70 (xc_Pole_placeIn (σ.1 (k0 + 3) x4.toNatClampNeg) σ _ rfl) [.int (σ.1 (k0 + 3) x4.toNatClampNeg)] rfl rfl rfl ⟨Nat.le_of_ble_eq_true rfl, Nat.le_of_ble_eq_true rfl⟩ (Nat.le_of_ble_eq_true rfl) dX7_toLetOut_23 ?_
      obtain ⟨v3, e4, h⟩ := rb_ltE h
      refine rb_nmI e4 ?_
      refine rb_istore hC [(5, .int v3), (0, .ref (rb_ad w k0)), (1, .int x1), (2, .int x2), (3, .int x3), (4, .int x4)] dX7_toLetOut_26 (by decide) rfl ?_
      refine rb_aload_n hC 1 dX7_toLetOut_28 rfl ?_
      refine rb_iload hC 5 dX7_toLetOut_29 rfl ?_
      refine rb_iload_n hC 2 dX7_toLetOut_31 rfl ?_
      obtain ⟨r5, q6, h⟩ := rb_b1s h
      refine rb_callVi hC rb_VokX mv_X7_123 (xc_Pole_isOf k0 hk0 x4 x1 σ _ q6) (rb_obPole hk0) rfl [.int x4, .int x1] rfl rfl rfl ⟨Nat.le_of_ble_eq_true rfl, Nat.le_of_ble_eq_true rfl⟩ (Nat.le_of_ble_eq_true rfl) dX7_toLetOut_32 ?_
      refine rb_if_ne hC 47 dX7_toLetOut_35 (by decide) (fun c7 => ?_) (fun c7 => ?_)
      · replace h := rb_ifn c7 h
        refine rb_iinc hC 4 [(3, .int (x3 + 1)), (5, .int v3), (0, .ref (rb_ad w k0)), (1, .int x1), (2, .int x2), (4, .int x4)] dX7_toLetOut_47 rfl rfl (by decide) rfl ?_
        refine rb_iload_n hC 4 dX7_toLetOut_50 rfl ?_
        refine rb_aload_n hC 2 dX7_toLetOut_51 rfl ?_
        refine rb_iload hC 1 dX7_toLetOut_52 rfl ?_
        refine rb_callVi hC rb_VokX mv_X7_67 (xc_Pole_nearOf k0 hk0 v3 σ _ rfl) (rb_obPole hk0) rfl [.int v3] rfl rfl rfl ⟨Nat.le_of_ble_eq_true rfl, Nat.le_of_ble_eq_true rfl⟩ (Nat.le_of_ble_eq_true rfl) dX7_toLetOut_54 ?_
        refine rb_ior hC dX7_toLetOut_57 ?_
        obtain ⟨v8, e9, h⟩ := rb_ltE h
        refine rb_nmI e9 ?_
        refine rb_istore_n hC [(2, .int v8), (3, .int (x3 + 1)), (5, .int v3), (0, .ref (rb_ad w k0)), (1, .int x1), (4, .int x4)] dX7_toLetOut_58 (by decide) rfl ?_
        refine rb_iinc hC 5 [(4, .int (x4 + 1)), (2, .int v8), (3, .int (x3 + 1)), (5, .int v3), (0, .ref (rb_ad w k0)), (1, .int x1)] dX7_toLetOut_59 rfl rfl (by decide) rfl ?_
        refine rb_goto hC 7 dX7_toLetOut_62 (by decide) ?_
        exact rb_sub [4, 5, 1, 2, 0] rfl (ih v8 (x3 + 1) (x4 + 1) _ h hE0)
      · replace h := rb_ifp c7 h
        refine rb_iload_n hC 3 dX7_toLetOut_38 rfl ?_
        refine rb_iload hC 0 dX7_toLetOut_39 rfl ?_
        refine rb_ishr hC dX7_toLetOut_41 ?_
        refine rb_iconst (x := 1) hC dX7_toLetOut_42 (by decide) ?_
        refine rb_iand hC dX7_toLetOut_43 ?_
        refine rb_if_eq hC 59 dX7_toLetOut_44 (by decide) (fun c10 => ?_) (fun c10 => ?_)
        · replace h := rb_ifp c10 h
          refine rb_iinc hC 5 [(4, .int (x4 + 1)), (5, .int v3), (0, .ref (rb_ad w k0)), (1, .int x1), (2, .int x2), (3, .int x3)] dX7_toLetOut_59 rfl rfl (by decide) rfl ?_
          refine rb_goto hC 7 dX7_toLetOut_62 (by decide) ?_
          exact rb_sub [2, 3, 4, 5, 0] rfl (ih x2 x3 (x4 + 1) _ h hE0)
        · replace h := rb_ifn c10 h
          refine rb_iinc hC 4 [(3, .int (x3 + 1)), (5, .int v3), (0, .ref (rb_ad w k0)), (1, .int x1), (2, .int x2), (4, .int x4)] dX7_toLetOut_47 rfl rfl (by decide) rfl ?_
          refine rb_iload_n hC 4 dX7_toLetOut_50 rfl ?_
          refine rb_aload_n hC 2 dX7_toLetOut_51 rfl ?_
          refine rb_iload hC 1 dX7_toLetOut_52 rfl ?_
          refine rb_callVi hC rb_VokX mv_X7_67 (xc_Pole_nearOf k0 hk0 v3 σ _ rfl) (rb_obPole hk0) rfl [.int v3] rfl rfl rfl ⟨Nat.le_of_ble_eq_true rfl, Nat.le_of_ble_eq_true rfl⟩ (Nat.le_of_ble_eq_true rfl) dX7_toLetOut_54 ?_
          refine rb_ior hC dX7_toLetOut_57 ?_
          obtain ⟨v11, e12, h⟩ := rb_ltE h
          refine rb_nmI e12 ?_
          refine rb_istore_n hC [(2, .int v11), (3, .int (x3 + 1)), (5, .int v3), (0, .ref (rb_ad w k0)), (1, .int x1), (4, .int x4)] dX7_toLetOut_58 (by decide) rfl ?_
          refine rb_iinc hC 5 [(4, .int (x4 + 1)), (2, .int v11), (3, .int (x3 + 1)), (5, .int v3), (0, .ref (rb_ad w k0)), (1, .int x1)] dX7_toLetOut_59 rfl rfl (by decide) rfl ?_
          refine rb_goto hC 7 dX7_toLetOut_62 (by decide) ?_
          exact rb_sub [4, 5, 1, 2, 0] rfl (ih v11 (x3 + 1) (x4 + 1) _ h hE0)
def xf_Pole_toLetOut (k0 : Nat) (p0 : Int32) (σ : rb_St) : Option Int32 := rb_b1 (xl_Pole_toLetOut_7 k0 p0 σ rb_FU 0 0 0) fun y13 => some y13
set_option maxHeartbeats 4000000 in
set_option maxRecDepth 100000 in
theorem xk_Pole_toLetOut {z : rb_Z} {w : rb_Wd} (hC : rb_Cx z rb_vX w RX7 cX7_toLetOut 6 (some .int) 2) (k0 : Nat) (hk0 : rb_isPole k0) (p0 : Int32) (σ : rb_St) (r : Int32) (h : xf_Pole_toLetOut k0 p0 σ = some r) : rb_At z rb_vX w 6 (rb_Q z rb_vX w (some (.int r)) σ) 0 [(0, .ref (rb_ad w k0)), (1, .int p0)] [] σ := by
  unfold xf_Pole_toLetOut at h
  refine rb_iconst (x := 0) hC dX7_toLetOut_0 (by decide) ?_
  refine rb_istore_n hC [(2, .int 0), (0, .ref (rb_ad w k0)), (1, .int p0)] dX7_toLetOut_1 (by decide) rfl ?_
  refine rb_iconst (x := 0) hC dX7_toLetOut_2 (by decide) ?_
  refine rb_istore_n hC [(3, .int 0), (2, .int 0), (0, .ref (rb_ad w k0)), (1, .int p0)] dX7_toLetOut_3 (by decide) rfl ?_
  refine rb_iconst (x := 0) hC dX7_toLetOut_4 (by decide) ?_
  refine rb_istore hC [(4, .int 0), (3, .int 0), (2, .int 0), (0, .ref (rb_ad w k0)), (1, .int p0)] dX7_toLetOut_5 (by decide) rfl ?_
  obtain ⟨y13, q14, h⟩ := rb_b1s h
  refine rb_sub (lv2 := [(0, .ref (rb_ad w k0)), (1, .int p0), (2, .int 0), (3, .int 0), (4, .int 0)]) [3, 4, 2, 1, 0] rfl ?_
  refine xt_Pole_toLetOut_7 hC k0 hk0 p0 σ rb_FU 0 0 0 _ q14 ?_
  refine rb_iload_n hC 0 dX7_toLetOut_65 rfl ?_
  cases h
  exact rb_iret hC dX7_toLetOut_66
theorem xc_Pole_toLetOut (k0 : Nat) (hk0 : rb_isPole k0) (p0 : Int32) (σ : rb_St) (r : Int32) (h : xf_Pole_toLetOut k0 p0 σ = some r) : rb_Con rb_vX yX7_toLetOut cX7_toLetOut 6 (some .int) 2 (fun w => [.ref (rb_ad w k0), .int p0]) σ (fun _ => (some (.int r))) σ := rb_Con.of (by decide +kernel) (fun _ => Nat.le_of_ble_eq_true rfl) (fun z w hC => xk_Pole_toLetOut hC k0 hk0 p0 σ r h)
