theorem me_J9_floorMod_7cf53 : Cond.static yJ9_floorMod_7cf53 ∈ rb_tbl ∧ Cond.initialized yJ9_floorMod_7cf53.cls ∈ rb_tbl ∧ Cond.code yJ9_floorMod_7cf53 cJ9_floorMod_7cf53 3 (some .int) ∈ rb_tbl ∧ rb_pn yJ9_floorMod_7cf53 2 := ⟨rb_in (by decide +kernel) (by decide +kernel), rb_in (by decide +kernel) (by decide +kernel), rb_in (by decide +kernel) (by decide +kernel), by decide +kernel, by decide +kernel, by decide +kernel⟩
theorem mv_X10_35 : rb_MS RX10 35 yJ9_floorMod_7cf53 cJ9_floorMod_7cf53 3 (some .int) 2 := ⟨rb_in (by decide +kernel) (by decide +kernel), me_J9_floorMod_7cf53⟩
theorem me_J6_bitCount_0f7a4 : Cond.static yJ6_bitCount_0f7a4 ∈ rb_tbl ∧ Cond.initialized yJ6_bitCount_0f7a4.cls ∈ rb_tbl ∧ Cond.code yJ6_bitCount_0f7a4 cJ6_bitCount_0f7a4 1 (some .int) ∈ rb_tbl ∧ rb_pn yJ6_bitCount_0f7a4 1 := ⟨rb_in (by decide +kernel) (by decide +kernel), rb_in (by decide +kernel) (by decide +kernel), rb_in (by decide +kernel) (by decide +kernel), by decide +kernel, by decide +kernel, by decide +kernel⟩
theorem mv_X10_41 : rb_MS RX10 41 yJ6_bitCount_0f7a4 cJ6_bitCount_0f7a4 1 (some .int) 1 := ⟨rb_in (by decide +kernel) (by decide +kernel), me_J6_bitCount_0f7a4⟩
theorem me_X10_crossingsWith : Cond.instanceMethod yX10_crossingsWith ∈ rb_tbl ∧ Cond.selects yX10_crossingsWith.cls yX10_crossingsWith yX10_crossingsWith ∈ rb_tbl ∧ Cond.initialized yX10_crossingsWith.cls ∈ rb_tbl ∧ Cond.code yX10_crossingsWith cX10_crossingsWith 6 (some .int) ∈ rb_tbl ∧ rb_pn yX10_crossingsWith 1 := ⟨rb_in (by decide +kernel) (by decide +kernel), rb_in (by decide +kernel) (by decide +kernel), rb_in (by decide +kernel) (by decide +kernel), rb_in (by decide +kernel) (by decide +kernel), by decide +kernel, by decide +kernel, by decide +kernel⟩
theorem mv_X10_47 : rb_MV RX10 47 yX10_crossingsWith cX10_crossingsWith 6 (some .int) 1 := ⟨rb_in (by decide +kernel) (by decide +kernel), me_X10_crossingsWith⟩
theorem mk_X10_50 : Cond.methodLink RX10 50 Lib.Math.min.name ∈ rb_tbl := rb_in (by decide +kernel) (by decide +kernel)
def xl_Way_fewest_14  : Nat → Int32 → Int32 → rb_St → Option (Int32 × rb_St)
  | 0, _, _, _ => none
  | n + 1, x1, x2, σ => if (σ.1 236 0) ≤ x2 then some (x1, σ) else if rb_ib x2 8 then if rb_ib ((σ.1 237 x2.toNatClampNeg) &&& 7) 8 then rb_b1 (xf_JM_floorMod ((σ.1 238 ((σ.1 237 x2.toNatClampNeg) &&& 7).toNatClampNeg) - x2) (σ.1 236 0) σ) fun r5 => rb_lt (rb_sI σ 239 x2.toNatClampNeg r5) (fun s7 => rb_lt (x1 + (s7.1 239 x2.toNatClampNeg)) (fun v9 => xl_Way_fewest_14 n v9 (x2 + 1) s7)) else none else none
set_option maxHeartbeats 4000000 in
set_option maxRecDepth 100000 in
theorem xt_Way_fewest_14 {z : rb_Z} {w : rb_Wd} {Q : State → Prop} (hC : rb_Cx z rb_vX w RX10 cX10_fewest 5 (some .int) 2)  : ∀ (n : Nat) (x1 : Int32) (x2 : Int32) (σ : rb_St) (y1 : Int32) (σ9 : rb_St), xl_Way_fewest_14 n x1 x2 σ = some (y1, σ9) → rb_At z rb_vX w 5 Q 66 [(0, .ref (rb_ad w 236)), (1, .int y1)] [] σ9 → rb_At z rb_vX w 5 Q 14 [(0, .ref (rb_ad w 236)), (1, .int x1), (2, .int x2)] [] σ := by
  intro n
  induction n with
  | zero =>
    intro x1 x2 σ y1 σ9 h hE0
    cases h
  | succ n ih =>
    intro x1 x2 σ y1 σ9 h hE0
    rw [xl_Way_fewest_14] at h
    refine rb_iload_n hC 2 dX10_fewest_14 rfl ?_
    refine rb_aload_n hC 0 dX10_fewest_15 rfl ?_
    refine rb_getI hC fr_X10_27_9 rb_obX236 rfl dX10_fewest_16 ?_
    refine rb_icmp_ge hC 66 dX10_fewest_19 (by decide) (fun c2 => ?_) (fun c2 => ?_)
    · replace h := rb_ifp c2 h
      cases h
      exact rb_sub [0, 1] rfl (hE0)
    · replace h := rb_ifn c2 h
      refine rb_aload_n hC 0 dX10_fewest_22 rfl ?_
      refine rb_getR hC fr_X10_18_9 rb_obX236 rfl dX10_fewest_23 ?_
      refine rb_iload_n hC 2 dX10_fewest_26 rfl ?_
      refine rb_aload_n hC 0 dX10_fewest_27 rfl ?_
      refine rb_getR hC fr_X10_15_9 rb_obX236 rfl dX10_fewest_28 ?_
      refine rb_aload_n hC 0 dX10_fewest_31 rfl ?_
      refine rb_getR hC fr_X10_9_9 rb_obX236 rfl dX10_fewest_32 ?_
      refine rb_iload_n hC 2 dX10_fewest_35 rfl ?_
      obtain ⟨g3, h⟩ := rb_gd h
      refine rb_iald hC rb_arX237 (rb_ibI g3) dX10_fewest_36 ?_
      refine rb_bipush (x := 7) hC dX10_fewest_37 (by decide) ?_
      refine rb_iand hC dX10_fewest_39 ?_
      obtain ⟨g4, h⟩ := rb_gd h
      refine rb_iald hC rb_arX238 (rb_ibI g4) dX10_fewest_40 ?_
      refine rb_iload_n hC 2 dX10_fewest_41 rfl ?_
      refine rb_isub hC dX10_fewest_42 ?_
      refine rb_aload_n hC 0 dX10_fewest_43 rfl ?_
      refine rb_getI hC fr_X10_27_9 rb_obX236 rfl dX10_fewest_44 ?_
      obtain ⟨r5, q6, h⟩ := rb_b1s h
      refine rb_callSi hC rb_VokX mv_X10_35 (xc_JM_floorMod ((σ.1 238 ((σ.1 237 x2.toNatClampNeg) &&& 7).toNatClampNeg) - x2) (σ.1 236 0) σ _ q6) [.int ((σ.1 238 ((σ.1 237 x2.toNatClampNeg) &&& 7).toNatClampNeg) - x2), .int (σ.1 236 0)] rfl rfl rfl ⟨Nat.le_of_ble_eq_true rfl, Nat.le_of_ble_eq_true rfl⟩ (Nat.le_of_ble_eq_true rfl) dX10_fewest_47 ?_
      refine rb_iast hC rb_arX239 (rb_ibI g3) dX10_fewest_50 ?_
      obtain ⟨s7, e8, h⟩ := rb_ltE h
      refine rb_nmS e8 ?_
      refine rb_iload_n hC 1 dX10_fewest_51 rfl ?_
      refine rb_aload_n hC 0 dX10_fewest_52 rfl ?_
      refine rb_getR hC fr_X10_18_9 rb_obX236 rfl dX10_fewest_53 ?_
      refine rb_iload_n hC 2 dX10_fewest_56 rfl ?_
      refine rb_iald hC rb_arX239 (rb_ibI g3) dX10_fewest_57 ?_
      refine rb_iadd hC dX10_fewest_58 ?_
      obtain ⟨v9, e10, h⟩ := rb_ltE h
      refine rb_nmI e10 ?_
      refine rb_istore_n hC [(1, .int v9), (0, .ref (rb_ad w 236)), (2, .int x2)] dX10_fewest_59 (by decide) rfl ?_
      refine rb_iinc hC 2 [(2, .int (x2 + 1)), (1, .int v9), (0, .ref (rb_ad w 236))] dX10_fewest_60 rfl rfl (by decide) rfl ?_
      refine rb_goto hC 14 dX10_fewest_63 (by decide) ?_
      exact rb_sub [2, 1, 0] rfl (ih v9 (x2 + 1) s7 _ _ h hE0)
def xl_Way_fewest_80 (x2 : Int32) (σ : rb_St) : Nat → Int32 → Int32 → Option (Int32)
  | 0, _, _ => none
  | n + 1, x3, x4 => if (1 <<< ((σ.1 236 0) &&& 31)) ≤ x4 then some x3 else if (xf_JI_bitCount x4 σ) = x2 then rb_b1 (xf_Way_crossingsWith x4 σ) fun r17 => xl_Way_fewest_80 x2 σ n (rb_mn x3 r17) (x4 + 1) else xl_Way_fewest_80 x2 σ n x3 (x4 + 1)
set_option maxHeartbeats 4000000 in
set_option maxRecDepth 100000 in
theorem xt_Way_fewest_80 {z : rb_Z} {w : rb_Wd} {Q : State → Prop} (hC : rb_Cx z rb_vX w RX10 cX10_fewest 5 (some .int) 2) (x2 : Int32) (σ : rb_St) : ∀ (n : Nat) (x3 : Int32) (x4 : Int32) (y3 : Int32), xl_Way_fewest_80 x2 σ n x3 x4 = some y3 → rb_At z rb_vX w 5 Q 117 [(3, .int y3)] [] σ → rb_At z rb_vX w 5 Q 80 [(0, .ref (rb_ad w 236)), (2, .int x2), (3, .int x3), (4, .int x4)] [] σ := by
  intro n
  induction n with
  | zero =>
    intro x3 x4 y3 h hE0
    cases h
  | succ n ih =>
    intro x3 x4 y3 h hE0
    rw [xl_Way_fewest_80] at h
    refine rb_iload hC 3 dX10_fewest_80 rfl ?_
    refine rb_iconst (x := 1) hC dX10_fewest_82 (by decide) ?_
    refine rb_aload_n hC 0 dX10_fewest_83 rfl ?_
    refine rb_getI hC fr_X10_27_9 rb_obX236 rfl dX10_fewest_84 ?_
    refine rb_ishl hC dX10_fewest_87 ?_
    refine rb_icmp_ge hC 117 dX10_fewest_88 (by decide) (fun c15 => ?_) (fun c15 => ?_)
    · replace h := rb_ifp c15 h
      cases h
      exact rb_sub [2] rfl (hE0)
    · replace h := rb_ifn c15 h
      refine rb_iload hC 3 dX10_fewest_91 rfl ?_
      refine rb_callSi hC rb_VokX mv_X10_41 (xc_JI_bitCount x4 σ _ rfl) [.int x4] rfl rfl rfl ⟨Nat.le_of_ble_eq_true rfl, Nat.le_of_ble_eq_true rfl⟩ (Nat.le_of_ble_eq_true rfl) dX10_fewest_93 ?_
      refine rb_iload_n hC 1 dX10_fewest_96 rfl ?_
      refine rb_icmp_ne hC 111 dX10_fewest_97 (by decide) (fun c16 => ?_) (fun c16 => ?_)
      · replace h := rb_ifn c16 h
        refine rb_iinc hC 3 [(4, .int (x4 + 1)), (0, .ref (rb_ad w 236)), (2, .int x2), (3, .int x3)] dX10_fewest_111 rfl rfl (by decide) rfl ?_
        refine rb_goto hC 80 dX10_fewest_114 (by decide) ?_
        exact rb_sub [1, 2, 3, 0] rfl (ih x3 (x4 + 1) _ h hE0)
      · replace h := rb_ifp c16 h
        refine rb_iload_n hC 2 dX10_fewest_100 rfl ?_
        refine rb_aload_n hC 0 dX10_fewest_101 rfl ?_
        refine rb_iload hC 3 dX10_fewest_102 rfl ?_
        obtain ⟨r17, q18, h⟩ := rb_b1s h
        refine rb_callVi hC rb_VokX mv_X10_47 (xc_Way_crossingsWith x4 σ _ q18) rb_obX236 rfl [.int x4] rfl rfl rfl ⟨Nat.le_of_ble_eq_true rfl, Nat.le_of_ble_eq_true rfl⟩ (Nat.le_of_ble_eq_true rfl) dX10_fewest_104 ?_
        refine rb_mmin hC mk_X10_50 ⟨Nat.le_of_ble_eq_true rfl, Nat.le_of_ble_eq_true rfl⟩ dX10_fewest_107 ?_
        refine rb_istore_n hC [(3, .int (rb_mn x3 r17)), (0, .ref (rb_ad w 236)), (2, .int x2), (4, .int x4)] dX10_fewest_110 (by decide) rfl ?_
        refine rb_iinc hC 3 [(4, .int (x4 + 1)), (3, .int (rb_mn x3 r17)), (0, .ref (rb_ad w 236)), (2, .int x2)] dX10_fewest_111 rfl rfl (by decide) rfl ?_
        refine rb_goto hC 80 dX10_fewest_114 (by decide) ?_
        exact rb_sub [2, 3, 1, 0] rfl (ih (rb_mn x3 r17) (x4 + 1) _ h hE0)
def xf_Way_fewest  (σ : rb_St) : Option (Int32 × rb_St) := if 1 ≤ (σ.1 236 0) then rb_b2 (xl_Way_fewest_14 rb_FU 0 0 σ) fun y11 s12 => if (s12.1 236 0) = 0 then none else rb_b1 (xl_Way_fewest_80 (y11 / (s12.1 236 0)) s12 rb_FU 1000 0) fun y19 => some (y19, s12) else some (0, σ)
set_option maxHeartbeats 4000000 in
set_option maxRecDepth 100000 in
theorem xk_Way_fewest {z : rb_Z} {w : rb_Wd} (hC : rb_Cx z rb_vX w RX10 cX10_fewest 5 (some .int) 2)  (σ : rb_St) (r : Int32) (σ9 : rb_St) (h : xf_Way_fewest σ = some (r, σ9)) : rb_At z rb_vX w 5 (rb_Q z rb_vX w (some (.int r)) σ9) 0 [(0, .ref (rb_ad w 236))] [] σ := by
  unfold xf_Way_fewest at h
  refine rb_aload_n hC 0 dX10_fewest_0 rfl ?_
  refine rb_getI hC fr_X10_27_9 rb_obX236 rfl dX10_fewest_1 ?_
  refine rb_iconst (x := 1) hC dX10_fewest_4 (by decide) ?_
  refine rb_icmp_ge hC 10 dX10_fewest_5 (by decide) (fun c1 => ?_) (fun c1 => ?_)
  · replace h := rb_ifp c1 h
    refine rb_iconst (x := 0) hC dX10_fewest_10 (by decide) ?_
    refine rb_istore_n hC [(1, .int 0), (0, .ref (rb_ad w 236))] dX10_fewest_11 (by decide) rfl ?_
    refine rb_iconst (x := 0) hC dX10_fewest_12 (by decide) ?_
    refine rb_istore_n hC [(2, .int 0), (1, .int 0), (0, .ref (rb_ad w 236))] dX10_fewest_13 (by decide) rfl ?_
    obtain ⟨y11, s12, q13, h⟩ := rb_b2s h
    refine rb_sub (lv2 := [(0, .ref (rb_ad w 236)), (1, .int 0), (2, .int 0)]) [2, 1, 0] rfl ?_
    refine xt_Way_fewest_14 hC  rb_FU 0 0 σ _ _ q13 ?_
    refine rb_iload_n hC 1 dX10_fewest_66 rfl ?_
    refine rb_aload_n hC 0 dX10_fewest_67 rfl ?_
    refine rb_getI hC fr_X10_27_9 rb_obX236 rfl dX10_fewest_68 ?_
    obtain ⟨g14, h⟩ := rb_dv h
    refine rb_idiv hC dX10_fewest_71 g14 ?_
    refine rb_istore_n hC [(2, .int (y11 / (s12.1 236 0))), (0, .ref (rb_ad w 236)), (1, .int y11)] dX10_fewest_72 (by decide) rfl ?_
    refine rb_sipush (x := 1000) hC dX10_fewest_73 (by decide) ?_
    refine rb_istore_n hC [(3, .int 1000), (2, .int (y11 / (s12.1 236 0))), (0, .ref (rb_ad w 236)), (1, .int y11)] dX10_fewest_76 (by decide) rfl ?_
    refine rb_iconst (x := 0) hC dX10_fewest_77 (by decide) ?_
    refine rb_istore hC [(4, .int 0), (3, .int 1000), (2, .int (y11 / (s12.1 236 0))), (0, .ref (rb_ad w 236)), (1, .int y11)] dX10_fewest_78 (by decide) rfl ?_
    obtain ⟨y19, q20, h⟩ := rb_b1s h
    refine rb_sub (lv2 := [(0, .ref (rb_ad w 236)), (2, .int (y11 / (s12.1 236 0))), (3, .int 1000), (4, .int 0)]) [3, 2, 1, 0] rfl ?_
    refine xt_Way_fewest_80 hC (y11 / (s12.1 236 0)) s12 rb_FU 1000 0 _ q20 ?_
    refine rb_iload_n hC 0 dX10_fewest_117 rfl ?_
    cases h
    exact rb_iret hC dX10_fewest_118
  · replace h := rb_ifn c1 h
    refine rb_iconst (x := 0) hC dX10_fewest_8 (by decide) ?_
    cases h
    exact rb_iret hC dX10_fewest_9
theorem xc_Way_fewest  (σ : rb_St) (r : Int32) (σ9 : rb_St) (h : xf_Way_fewest σ = some (r, σ9)) : rb_Con rb_vX yX10_fewest cX10_fewest 5 (some .int) 2 (fun w => [.ref (rb_ad w 236)]) σ (fun _ => (some (.int r))) σ9 := rb_Con.of (by decide +kernel) (fun _ => Nat.le_of_ble_eq_true rfl) (fun z w hC => xk_Way_fewest hC  σ r σ9 h)
theorem me_X10_fewest : Cond.instanceMethod yX10_fewest ∈ rb_tbl ∧ Cond.selects yX10_fewest.cls yX10_fewest yX10_fewest ∈ rb_tbl ∧ Cond.initialized yX10_fewest.cls ∈ rb_tbl ∧ Cond.code yX10_fewest cX10_fewest 5 (some .int) ∈ rb_tbl ∧ rb_pn yX10_fewest 0 := ⟨rb_in (by decide +kernel) (by decide +kernel), rb_in (by decide +kernel) (by decide +kernel), rb_in (by decide +kernel) (by decide +kernel), rb_in (by decide +kernel) (by decide +kernel), by decide +kernel, by decide +kernel, by decide +kernel⟩
theorem mv_X10_62 : rb_MV RX10 62 yX10_fewest cX10_fewest 5 (some .int) 0 := ⟨rb_in (by decide +kernel) (by decide +kernel), me_X10_fewest⟩
theorem me_X10_change : Cond.instanceMethod yX10_change ∈ rb_tbl ∧ Cond.selects yX10_change.cls yX10_change yX10_change ∈ rb_tbl ∧ Cond.initialized yX10_change.cls ∈ rb_tbl ∧ Cond.code yX10_change cX10_change 4 none ∈ rb_tbl ∧ rb_pn yX10_change 1 := ⟨rb_in (by decide +kernel) (by decide +kernel), rb_in (by decide +kernel) (by decide +kernel), rb_in (by decide +kernel) (by decide +kernel), rb_in (by decide +kernel) (by decide +kernel), by decide +kernel, by decide +kernel, by decide +kernel⟩
theorem mv_X10_66 : rb_MV RX10 66 yX10_change cX10_change 4 none 1 := ⟨rb_in (by decide +kernel) (by decide +kernel), me_X10_change⟩
def xl_Way_firstPlace_7 (x1 : Int32) : Nat → Int32 → rb_St → Option (Nat × Int32 × rb_St)
  | 0, _, _ => none
  | n + 1, x2, σ => if (σ.1 236 0) ≤ x2 then some (1, x2, σ) else rb_b1 (xf_Way_change x2 σ) fun s5 => rb_b2 (xf_Way_fewest s5) fun r9 s7 => rb_b1 (xf_Way_change x2 s7) fun s10 => if x1 ≤ r9 then xl_Way_firstPlace_7 x1 n (x2 + 1) s10 else some (0, x2, s10)
set_option maxHeartbeats 4000000 in
set_option maxRecDepth 100000 in
theorem xt_Way_firstPlace_7 {z : rb_Z} {w : rb_Wd} {Q : State → Prop} (hC : rb_Cx z rb_vX w RX10 cX10_firstPlace 4 (some .int) 3) (x1 : Int32) : ∀ (n : Nat) (x2 : Int32) (σ : rb_St) (t : Nat) (y2 : Int32) (σ9 : rb_St), xl_Way_firstPlace_7 x1 n x2 σ = some (t, y2, σ9) → (t = 0 → rb_At z rb_vX w 4 Q 35 [(2, .int y2)] [] σ9) → (t = 1 → rb_At z rb_vX w 4 Q 43 [] [] σ9) → rb_At z rb_vX w 4 Q 7 [(0, .ref (rb_ad w 236)), (1, .int x1), (2, .int x2)] [] σ := by
  intro n
  induction n with
  | zero =>
    intro x2 σ t y2 σ9 h hE0 hE1
    cases h
  | succ n ih =>
    intro x2 σ t y2 σ9 h hE0 hE1
    rw [xl_Way_firstPlace_7] at h
    refine rb_iload_n hC 2 dX10_firstPlace_7 rfl ?_
    refine rb_aload_n hC 0 dX10_firstPlace_8 rfl ?_
    refine rb_getI hC fr_X10_27_9 rb_obX236 rfl dX10_firstPlace_9 ?_
    refine rb_icmp_ge hC 43 dX10_firstPlace_12 (by decide) (fun c4 => ?_) (fun c4 => ?_)
    · replace h := rb_ifp c4 h
      cases h
      exact rb_sub [] rfl (hE1 rfl)
    · replace h := rb_ifn c4 h
      refine rb_aload_n hC 0 dX10_firstPlace_15 rfl ?_
      refine rb_iload_n hC 2 dX10_firstPlace_16 rfl ?_
      obtain ⟨s5, q6, h⟩ := rb_b1s h
      refine rb_callVv hC rb_VokX mv_X10_66 (xc_Way_change x2 σ _ q6) rb_obX236 rfl [.int x2] rfl rfl rfl ⟨Nat.le_of_ble_eq_true rfl, Nat.le_of_ble_eq_true rfl⟩ (Nat.le_of_ble_eq_true rfl) dX10_firstPlace_17 ?_
      refine rb_aload_n hC 0 dX10_firstPlace_20 rfl ?_
      obtain ⟨r9, s7, q8, h⟩ := rb_b2s h
      refine rb_callVi hC rb_VokX mv_X10_62 (xc_Way_fewest  s5 _ _ q8) rb_obX236 rfl [] rfl rfl rfl ⟨Nat.le_of_ble_eq_true rfl, Nat.le_of_ble_eq_true rfl⟩ (Nat.le_of_ble_eq_true rfl) dX10_firstPlace_21 ?_
      refine rb_istore_n hC [(3, .int r9), (0, .ref (rb_ad w 236)), (1, .int x1), (2, .int x2)] dX10_firstPlace_24 (by decide) rfl ?_
      refine rb_aload_n hC 1 dX10_firstPlace_25 rfl ?_
      refine rb_iload_n hC 3 dX10_firstPlace_26 rfl ?_
      obtain ⟨s10, q11, h⟩ := rb_b1s h
      refine rb_callVv hC rb_VokX mv_X10_66 (xc_Way_change x2 s7 _ q11) rb_obX236 rfl [.int x2] rfl rfl rfl ⟨Nat.le_of_ble_eq_true rfl, Nat.le_of_ble_eq_true rfl⟩ (Nat.le_of_ble_eq_true rfl) dX10_firstPlace_27 ?_
      refine rb_iload_n hC 0 dX10_firstPlace_30 rfl ?_
      refine rb_iload_n hC 2 dX10_firstPlace_31 rfl ?_
      refine rb_icmp_ge hC 37 dX10_firstPlace_32 (by decide) (fun c12 => ?_) (fun c12 => ?_)
      · replace h := rb_ifp c12 h
        refine rb_iinc hC 3 [(2, .int (x2 + 1)), (3, .int r9), (0, .ref (rb_ad w 236)), (1, .int x1)] dX10_firstPlace_37 rfl rfl (by decide) rfl ?_
        refine rb_goto hC 7 dX10_firstPlace_40 (by decide) ?_
        exact rb_sub [2, 3, 0] rfl (ih (x2 + 1) s10 _ _ _ h hE0 hE1)
      · replace h := rb_ifn c12 h
        cases h
        exact rb_sub [3] rfl (hE0 rfl)
def xf_Way_firstPlace  (σ : rb_St) : Option (Int32 × rb_St) := rb_b2 (xf_Way_fewest σ) fun r3 s1 => rb_b3 (xl_Way_firstPlace_7 r3 rb_FU 0 s1) fun t13 y14 s15 => if t13 = 0 then some (y14, s15) else some ((-1), s15)
set_option maxHeartbeats 4000000 in
set_option maxRecDepth 100000 in
theorem xk_Way_firstPlace {z : rb_Z} {w : rb_Wd} (hC : rb_Cx z rb_vX w RX10 cX10_firstPlace 4 (some .int) 3)  (σ : rb_St) (r : Int32) (σ9 : rb_St) (h : xf_Way_firstPlace σ = some (r, σ9)) : rb_At z rb_vX w 4 (rb_Q z rb_vX w (some (.int r)) σ9) 0 [(0, .ref (rb_ad w 236))] [] σ := by
  unfold xf_Way_firstPlace at h
  refine rb_aload_n hC 0 dX10_firstPlace_0 rfl ?_
  obtain ⟨r3, s1, q2, h⟩ := rb_b2s h
  refine rb_callVi hC rb_VokX mv_X10_62 (xc_Way_fewest  σ _ _ q2) rb_obX236 rfl [] rfl rfl rfl ⟨Nat.le_of_ble_eq_true rfl, Nat.le_of_ble_eq_true rfl⟩ (Nat.le_of_ble_eq_true rfl) dX10_firstPlace_1 ?_
  refine rb_istore_n hC [(1, .int r3), (0, .ref (rb_ad w 236))] dX10_firstPlace_4 (by decide) rfl ?_
  refine rb_iconst (x := 0) hC dX10_firstPlace_5 (by decide) ?_
  refine rb_istore_n hC [(2, .int 0), (1, .int r3), (0, .ref (rb_ad w 236))] dX10_firstPlace_6 (by decide) rfl ?_
  obtain ⟨t13, y14, s15, q16, h⟩ := rb_b3s h
  refine rb_sub (lv2 := [(0, .ref (rb_ad w 236)), (1, .int r3), (2, .int 0)]) [2, 1, 0] rfl ?_
  refine xt_Way_firstPlace_7 hC r3 rb_FU 0 s1 _ _ _ q16 (fun ht => ?_) (fun ht => ?_)
  · subst ht
    replace h := rb_ifp rfl h
    refine rb_iload_n hC 0 dX10_firstPlace_35 rfl ?_
    cases h
    exact rb_iret hC dX10_firstPlace_36
  · subst ht
    replace h := rb_ifn (by decide) h
    refine rb_iconst (x := (-1)) hC dX10_firstPlace_43 (by decide) ?_
    cases h
    exact rb_iret hC dX10_firstPlace_44
theorem xc_Way_firstPlace  (σ : rb_St) (r : Int32) (σ9 : rb_St) (h : xf_Way_firstPlace σ = some (r, σ9)) : rb_Con rb_vX yX10_firstPlace cX10_firstPlace 4 (some .int) 3 (fun w => [.ref (rb_ad w 236)]) σ (fun _ => (some (.int r))) σ9 := rb_Con.of (by decide +kernel) (fun _ => Nat.le_of_ble_eq_true rfl) (fun z w hC => xk_Way_firstPlace hC  σ r σ9 h)
def xf_FR_readAll  (σ : rb_St) : Option (Int32 × rb_St) := rb_lt (rb_sI σ 12 1 0) (fun s1 => rb_lt (rb_sI s1 13 1 0) (fun s3 => rb_b2 (xf_FR_readRow 64 0 s3) fun r7 s5 => if r7 = 0 then some (0, s5) else rb_b2 (xf_Rd_nextSignF s5) fun r11 s9 => if r11 = (-1) then if 48 < (s9.1 13 1) then some (0, s9) else some (1, s9) else some (0, s9)))
set_option maxHeartbeats 4000000 in
set_option maxRecDepth 100000 in
theorem xk_FR_readAll {z : rb_Z} {w : rb_Wd} (hC : rb_Cx z rb_vX w RX2 cX2_readAll 1 (some .boolean) 67)  (σ : rb_St) (r : Int32) (σ9 : rb_St) (h : xf_FR_readAll σ = some (r, σ9)) : rb_At z rb_vX w 1 (rb_Q z rb_vX w (some (.int r)) σ9) 0 [(0, .ref (rb_ad w 12))] [] σ := by
  unfold xf_FR_readAll at h
  refine rb_aload_n hC 0 dX2_readAll_0 rfl ?_
  refine rb_iconst (x := 0) hC dX2_readAll_1 (by decide) ?_
  refine rb_putI hC fr_X2_20_2 ft_2_1 rb_obX12 rfl rfl rfl dX2_readAll_2 ?_
  obtain ⟨s1, e2, h⟩ := rb_ltE h
  refine rb_nmS e2 ?_
  refine rb_aload_n hC 0 dX2_readAll_5 rfl ?_
  refine rb_getR hC fr_X2_14_2 rb_obX12 rfl dX2_readAll_6 ?_
  refine rb_iconst (x := 0) hC dX2_readAll_9 (by decide) ?_
  refine rb_putI hC fr_X2_24_1 ft_1_1 rb_obX13 rfl rfl rfl dX2_readAll_10 ?_
  obtain ⟨s3, e4, h⟩ := rb_ltE h
  refine rb_nmS e4 ?_
  refine rb_aload_n hC 0 dX2_readAll_13 rfl ?_
  refine rb_iconst (x := 0) hC dX2_readAll_14 (by decide) ?_
  obtain ⟨r7, s5, q6, h⟩ := rb_b2s h
  refine rb_callVi hC rb_VokX mv_X2_27 (xc_FR_readRow 64 0 s3 _ _ q6) rb_obX12 rfl [.int 0] rfl rfl rfl ⟨Nat.le_of_ble_eq_true rfl, Nat.le_of_ble_eq_true rfl⟩ (Nat.le_of_ble_eq_true rfl) dX2_readAll_15 ?_
  refine rb_if_eq hC 45 dX2_readAll_18 (by decide) (fun c8 => ?_) (fun c8 => ?_)
  · replace h := rb_ifp c8 h
    refine rb_iconst (x := 0) hC dX2_readAll_45 (by decide) ?_
    cases h
    exact rb_zret hC rfl dX2_readAll_46
  · replace h := rb_ifn c8 h
    refine rb_aload_n hC 0 dX2_readAll_21 rfl ?_
    obtain ⟨r11, s9, q10, h⟩ := rb_b2s h
    refine rb_callUi hC rb_VokX mv_X2_31_2 (xc_Rd_nextSignF  s5 _ _ q10) rb_obX12 rfl [] rfl rfl rfl ⟨Nat.le_of_ble_eq_true rfl, Nat.le_of_ble_eq_true rfl⟩ (Nat.le_of_ble_eq_true rfl) dX2_readAll_22 ?_
    refine rb_iconst (x := (-1)) hC dX2_readAll_25 (by decide) ?_
    refine rb_icmp_ne hC 45 dX2_readAll_26 (by decide) (fun c12 => ?_) (fun c12 => ?_)
    · replace h := rb_ifn c12 h
      refine rb_iconst (x := 0) hC dX2_readAll_45 (by decide) ?_
      cases h
      exact rb_zret hC rfl dX2_readAll_46
    · replace h := rb_ifp c12 h
      refine rb_aload_n hC 0 dX2_readAll_29 rfl ?_
      refine rb_getR hC fr_X2_14_2 rb_obX12 rfl dX2_readAll_30 ?_
      refine rb_getI hC fr_X2_24_1 rb_obX13 rfl dX2_readAll_33 ?_
      refine rb_bipush (x := 48) hC dX2_readAll_36 (by decide) ?_
      refine rb_icmp_gt hC 45 dX2_readAll_38 (by decide) (fun c13 => ?_) (fun c13 => ?_)
      · replace h := rb_ifp c13 h
        refine rb_iconst (x := 0) hC dX2_readAll_45 (by decide) ?_
        cases h
        exact rb_zret hC rfl dX2_readAll_46
      · replace h := rb_ifn c13 h
        refine rb_iconst (x := 1) hC dX2_readAll_41 (by decide) ?_
        refine rb_goto hC 46 dX2_readAll_42 (by decide) ?_
        cases h
        exact rb_zret hC rfl dX2_readAll_46
theorem xc_FR_readAll  (σ : rb_St) (r : Int32) (σ9 : rb_St) (h : xf_FR_readAll σ = some (r, σ9)) : rb_Con rb_vX yX2_readAll cX2_readAll 1 (some .boolean) 67 (fun w => [.ref (rb_ad w 12)]) σ (fun _ => (some (.int r))) σ9 := rb_Con.of (by decide +kernel) (fun _ => Nat.le_of_ble_eq_true rfl) (fun z w hC => xk_FR_readAll hC  σ r σ9 h)
def xf_LR_readBehindCondition  (σ : rb_St) : Option (Int32 × rb_St) := rb_b2 (xf_Rd_passesL 63 σ) fun r3 s1 => if r3 = 0 then some (0, s1) else rb_b1 (xf_Law_add (-21) s1) fun s5 => rb_b2 (xf_LR_readSum 64 0 s5) fun r9 s7 => if rb_bz r9 then some (r9, s7) else none
set_option maxHeartbeats 4000000 in
set_option maxRecDepth 100000 in
theorem xk_LR_readBehindCondition {z : rb_Z} {w : rb_Wd} (hC : rb_Cx z rb_vX w RX6 cX6_readBehindCondition 1 (some .boolean) 69)  (σ : rb_St) (r : Int32) (σ9 : rb_St) (h : xf_LR_readBehindCondition σ = some (r, σ9)) : rb_At z rb_vX w 1 (rb_Q z rb_vX w (some (.int r)) σ9) 0 [(0, .ref (rb_ad w 7))] [] σ := by
  unfold xf_LR_readBehindCondition at h
  refine rb_aload_n hC 0 dX6_readBehindCondition_0 rfl ?_
  refine rb_bipush (x := 63) hC dX6_readBehindCondition_1 (by decide) ?_
  obtain ⟨r3, s1, q2, h⟩ := rb_b2s h
  refine rb_callUi hC rb_VokX mv_X6_27_6 (xc_Rd_passesL 63 σ _ _ q2) rb_obX7 rfl [.int 63] rfl rfl rfl ⟨Nat.le_of_ble_eq_true rfl, Nat.le_of_ble_eq_true rfl⟩ (Nat.le_of_ble_eq_true rfl) dX6_readBehindCondition_3 ?_
  refine rb_if_ne hC 11 dX6_readBehindCondition_6 (by decide) (fun c4 => ?_) (fun c4 => ?_)
  · replace h := rb_ifn c4 h
    refine rb_aload_n hC 0 dX6_readBehindCondition_11 rfl ?_
    refine rb_getR hC fr_X6_14_6 rb_obX7 rfl dX6_readBehindCondition_12 ?_
    refine rb_bipush (x := (-21)) hC dX6_readBehindCondition_15 (by decide) ?_
    obtain ⟨s5, q6, h⟩ := rb_b1s h
    refine rb_callVv hC rb_VokX mv_X6_35 (xc_Law_add (-21) s1 _ q6) rb_obX8 rfl [.int (-21)] rfl rfl rfl ⟨Nat.le_of_ble_eq_true rfl, Nat.le_of_ble_eq_true rfl⟩ (Nat.le_of_ble_eq_true rfl) dX6_readBehindCondition_17 ?_
    refine rb_aload_n hC 0 dX6_readBehindCondition_20 rfl ?_
    refine rb_iconst (x := 0) hC dX6_readBehindCondition_21 (by decide) ?_
    obtain ⟨r9, s7, q8, h⟩ := rb_b2s h
    refine rb_callVi hC rb_VokX mv_X6_49 (xc_LR_readSum 64 0 s5 _ _ q8) rb_obX7 rfl [.int 0] rfl rfl rfl ⟨Nat.le_of_ble_eq_true rfl, Nat.le_of_ble_eq_true rfl⟩ (Nat.le_of_ble_eq_true rfl) dX6_readBehindCondition_22 ?_
    obtain ⟨g10, h⟩ := rb_gd h
    cases h
    exact rb_zret hC (rb_bzN g10) dX6_readBehindCondition_25
  · replace h := rb_ifp c4 h
    refine rb_iconst (x := 0) hC dX6_readBehindCondition_9 (by decide) ?_
    cases h
    exact rb_zret hC rfl dX6_readBehindCondition_10
theorem xc_LR_readBehindCondition  (σ : rb_St) (r : Int32) (σ9 : rb_St) (h : xf_LR_readBehindCondition σ = some (r, σ9)) : rb_Con rb_vX yX6_readBehindCondition cX6_readBehindCondition 1 (some .boolean) 69 (fun w => [.ref (rb_ad w 7)]) σ (fun _ => (some (.int r))) σ9 := rb_Con.of (by decide +kernel) (fun _ => Nat.le_of_ble_eq_true rfl) (fun z w hC => xk_LR_readBehindCondition hC  σ r σ9 h)
theorem fr_X4_14_4 : rb_FR RX4 14 4 2 := ⟨RX4, TX4, 4, "RibbonPole$GreenReader", rfl, rb_uX4, by decide, rb_in (by decide +kernel) (by decide +kernel), Or.inl rfl⟩
theorem fr_X4_39_3 : rb_FR RX4 39 3 2 := ⟨RX3, TX3, 3, "RibbonPole$Green", rfl, rb_uX3, by decide, rb_in (by decide +kernel) (by decide +kernel), Or.inl rfl⟩
theorem me_X3_addDancer : Cond.instanceMethod yX3_addDancer ∈ rb_tbl ∧ Cond.selects yX3_addDancer.cls yX3_addDancer yX3_addDancer ∈ rb_tbl ∧ Cond.initialized yX3_addDancer.cls ∈ rb_tbl ∧ Cond.code yX3_addDancer cX3_addDancer 3 (some .int) ∈ rb_tbl ∧ rb_pn yX3_addDancer 0 := ⟨rb_in (by decide +kernel) (by decide +kernel), rb_in (by decide +kernel) (by decide +kernel), rb_in (by decide +kernel) (by decide +kernel), rb_in (by decide +kernel) (by decide +kernel), by decide +kernel, by decide +kernel, by decide +kernel⟩
theorem mv_X4_62 : rb_MV RX4 62 yX3_addDancer cX3_addDancer 3 (some .int) 0 := ⟨rb_in (by decide +kernel) (by decide +kernel), me_X3_addDancer⟩
theorem fr_X4_73_3 : rb_FR RX4 73 3 1 := ⟨RX3, TX3, 3, "RibbonPole$Green", rfl, rb_uX3, by decide, rb_in (by decide +kernel) (by decide +kernel), Or.inl rfl⟩
theorem me_X4_readItems : Cond.instanceMethod yX4_readItems ∈ rb_tbl ∧ Cond.selects yX4_readItems.cls yX4_readItems yX4_readItems ∈ rb_tbl ∧ Cond.initialized yX4_readItems.cls ∈ rb_tbl ∧ Cond.code yX4_readItems cX4_readItems 11 (some .boolean) ∈ rb_tbl ∧ rb_pn yX4_readItems 5 := ⟨rb_in (by decide +kernel) (by decide +kernel), rb_in (by decide +kernel) (by decide +kernel), rb_in (by decide +kernel) (by decide +kernel), rb_in (by decide +kernel) (by decide +kernel), by decide +kernel, by decide +kernel, by decide +kernel⟩
theorem mv_X4_58 : rb_MV RX4 58 yX4_readItems cX4_readItems 11 (some .boolean) 5 := ⟨rb_in (by decide +kernel) (by decide +kernel), me_X4_readItems⟩
theorem fr_X4_27_4 : rb_FR RX4 27 4 3 := ⟨RX4, TX4, 4, "RibbonPole$GreenReader", rfl, rb_uX4, by decide, rb_in (by decide +kernel) (by decide +kernel), Or.inl rfl⟩
theorem ft_4_3 : rb_Ty 4 3 .boolean := ⟨RX4, TX4, 4, tyX4, rfl, tyX4_ok, nmX4, rfl, by decide +kernel⟩
theorem fr_X4_55_3 : rb_FR RX4 55 3 0 := ⟨RX3, TX3, 3, "RibbonPole$Green", rfl, rb_uX3, by decide, rb_in (by decide +kernel) (by decide +kernel), Or.inl rfl⟩
def xj_GR_readClause_54 (x1 : Int32) (σ : rb_St) : Option (Int32 × rb_St) := if x1 = 100 then if 7 ≤ (σ.1 4 2) then some (0, σ) else rb_b2 (xf_Green_addDancer σ) fun r9 s7 => rb_lt (rb_sI s7 3 1 ((s7.1 3 1) + 1)) (fun s10 => rb_b2 (xf_GR_readItems_d r9 s10) fun r14 s12 => if rb_bz r14 then some (r14, s12) else none) else some (0, σ)
set_option maxHeartbeats 4000000 in
set_option maxRecDepth 100000 in
theorem xu_GR_readClause_54 {z : rb_Z} {w : rb_Wd} (hC : rb_Cx z rb_vX w RX4 cX4_readClause 3 (some .boolean) 5) (x1 : Int32) (σ : rb_St) (r : Int32) (σ9 : rb_St) (h : xj_GR_readClause_54 x1 σ = some (r, σ9)) : rb_At z rb_vX w 3 (rb_Q z rb_vX w (some (.int r)) σ9) 54 [(0, .ref (rb_ad w 3)), (1, .int x1)] [] σ := by
  unfold xj_GR_readClause_54 at h
  refine rb_iload_n hC 1 dX4_readClause_54 rfl ?_
  refine rb_bipush (x := 100) hC dX4_readClause_55 (by decide) ?_
  refine rb_icmp_ne hC 111 dX4_readClause_57 (by decide) (fun c5 => ?_) (fun c5 => ?_)
  · replace h := rb_ifn c5 h
    refine rb_iconst (x := 0) hC dX4_readClause_111 (by decide) ?_
    cases h
    exact rb_zret hC rfl dX4_readClause_112
  · replace h := rb_ifp c5 h
    refine rb_aload_n hC 0 dX4_readClause_60 rfl ?_
    refine rb_getR hC fr_X4_14_4 rb_obX3 rfl dX4_readClause_61 ?_
    refine rb_getI hC fr_X4_39_3 rb_obX4 rfl dX4_readClause_64 ?_
    refine rb_bipush (x := 7) hC dX4_readClause_67 (by decide) ?_
    refine rb_icmp_ge hC 111 dX4_readClause_69 (by decide) (fun c6 => ?_) (fun c6 => ?_)
    · replace h := rb_ifp c6 h
      refine rb_iconst (x := 0) hC dX4_readClause_111 (by decide) ?_
      cases h
      exact rb_zret hC rfl dX4_readClause_112
    · replace h := rb_ifn c6 h
      refine rb_aload_n hC 0 dX4_readClause_72 rfl ?_
      refine rb_getR hC fr_X4_14_4 rb_obX3 rfl dX4_readClause_73 ?_
      obtain ⟨r9, s7, q8, h⟩ := rb_b2s h
      refine rb_callVi hC rb_VokX mv_X4_62 (xc_Green_addDancer  σ _ _ q8) rb_obX4 rfl [] rfl rfl rfl ⟨Nat.le_of_ble_eq_true rfl, Nat.le_of_ble_eq_true rfl⟩ (Nat.le_of_ble_eq_true rfl) dX4_readClause_76 ?_
      refine rb_istore_n hC [(2, .int r9), (0, .ref (rb_ad w 3)), (1, .int x1)] dX4_readClause_79 (by decide) rfl ?_
      refine rb_aload_n hC 1 dX4_readClause_80 rfl ?_
      refine rb_dup hC dX4_readClause_81 rfl ?_
      refine rb_getI hC fr_X4_20_4 rb_obX3 rfl dX4_readClause_82 ?_
      refine rb_iconst (x := 1) hC dX4_readClause_85 (by decide) ?_
      refine rb_iadd hC dX4_readClause_86 ?_
      refine rb_putI hC fr_X4_20_4 ft_4_1 rb_obX3 rfl rfl rfl dX4_readClause_87 ?_
      obtain ⟨s10, e11, h⟩ := rb_ltE h
      refine rb_nmS e11 ?_
      refine rb_aload_n hC 1 dX4_readClause_90 rfl ?_
      refine rb_ldcS (tx := "") hC 1 (by exact Or.inr (Or.inl ⟨rfl, rfl, rfl⟩)) dX4_readClause_91 ?_
      refine rb_gets (host := "RibbonPole") hC 3 (by decide) (by decide +kernel) dX4_readClause_93 ?_
      refine rb_gets (host := "RibbonPole") hC 4 (by decide) (by decide +kernel) dX4_readClause_96 ?_
      refine rb_aload_n hC 1 dX4_readClause_99 rfl ?_
      refine rb_getR hC fr_X4_14_4 rb_obX3 rfl dX4_readClause_100 ?_
      refine rb_getR hC fr_X4_73_3 rb_obX4 rfl dX4_readClause_103 ?_
      refine rb_iload_n hC 0 dX4_readClause_106 rfl ?_
      obtain ⟨r14, s12, q13, h⟩ := rb_b2s h
      refine rb_callVi hC rb_VokX mv_X4_58 (xc_GR_readItems_d r9 s10 _ _ q13) rb_obX3 rfl [.ref (rb_sx w (6 + 1)), .ref (rb_sx w 3), .ref (rb_sx w 4), .ref (rb_ad w 6), .int r9] rfl rfl rfl ⟨Nat.le_of_ble_eq_true rfl, Nat.le_of_ble_eq_true rfl⟩ (Nat.le_of_ble_eq_true rfl) dX4_readClause_107 ?_
      obtain ⟨g15, h⟩ := rb_gd h
      cases h
      exact rb_zret hC (rb_bzN g15) dX4_readClause_110
def xf_GR_readClause  (σ : rb_St) : Option (Int32 × rb_St) := rb_b2 (xf_Rd_nextSignG σ) fun r3 s1 => if r3 = 115 then if (s1.1 3 3) = 0 then rb_lt (rb_sI s1 3 3 1) (fun s17 => rb_lt (rb_sI s17 3 1 ((s17.1 3 1) + 1)) (fun s19 => rb_b2 (xf_GR_readItems_r 0 s19) fun r23 s21 => if rb_bz r23 then some (r23, s21) else none)) else xj_GR_readClause_54 r3 s1 else xj_GR_readClause_54 r3 s1
set_option maxHeartbeats 4000000 in
set_option maxRecDepth 100000 in
theorem xk_GR_readClause {z : rb_Z} {w : rb_Wd} (hC : rb_Cx z rb_vX w RX4 cX4_readClause 3 (some .boolean) 5)  (σ : rb_St) (r : Int32) (σ9 : rb_St) (h : xf_GR_readClause σ = some (r, σ9)) : rb_At z rb_vX w 3 (rb_Q z rb_vX w (some (.int r)) σ9) 0 [(0, .ref (rb_ad w 3))] [] σ := by
  unfold xf_GR_readClause at h
  refine rb_aload_n hC 0 dX4_readClause_0 rfl ?_
  obtain ⟨r3, s1, q2, h⟩ := rb_b2s h
  refine rb_callUi hC rb_VokX mv_X4_35_4 (xc_Rd_nextSignG  σ _ _ q2) rb_obX3 rfl [] rfl rfl rfl ⟨Nat.le_of_ble_eq_true rfl, Nat.le_of_ble_eq_true rfl⟩ (Nat.le_of_ble_eq_true rfl) dX4_readClause_1 ?_
  refine rb_istore_n hC [(1, .int r3), (0, .ref (rb_ad w 3))] dX4_readClause_4 (by decide) rfl ?_
  refine rb_iload_n hC 0 dX4_readClause_5 rfl ?_
  refine rb_bipush (x := 115) hC dX4_readClause_6 (by decide) ?_
  refine rb_icmp_ne hC 54 dX4_readClause_8 (by decide) (fun c4 => ?_) (fun c4 => ?_)
  · replace h := rb_ifn c4 h
    exact rb_sub [1, 0] rfl (xu_GR_readClause_54 hC r3 s1 _ _ h)
  · replace h := rb_ifp c4 h
    refine rb_aload_n hC 1 dX4_readClause_11 rfl ?_
    refine rb_getI hC fr_X4_27_4 rb_obX3 rfl dX4_readClause_12 ?_
    refine rb_if_ne hC 54 dX4_readClause_15 (by decide) (fun c16 => ?_) (fun c16 => ?_)
    · replace h := rb_ifn c16 h
      exact rb_sub [1, 0] rfl (xu_GR_readClause_54 hC r3 s1 _ _ h)
    · replace h := rb_ifp c16 h
      refine rb_aload_n hC 1 dX4_readClause_18 rfl ?_
      refine rb_iconst (x := 1) hC dX4_readClause_19 (by decide) ?_
      refine rb_putI hC fr_X4_27_4 ft_4_3 rb_obX3 rfl rfl rfl dX4_readClause_20 ?_
      obtain ⟨s17, e18, h⟩ := rb_ltE h
      refine rb_nmS e18 ?_
      refine rb_aload_n hC 1 dX4_readClause_23 rfl ?_
      refine rb_dup hC dX4_readClause_24 rfl ?_
      refine rb_getI hC fr_X4_20_4 rb_obX3 rfl dX4_readClause_25 ?_
      refine rb_iconst (x := 1) hC dX4_readClause_28 (by decide) ?_
      refine rb_iadd hC dX4_readClause_29 ?_
      refine rb_putI hC fr_X4_20_4 ft_4_1 rb_obX3 rfl rfl rfl dX4_readClause_30 ?_
      obtain ⟨s19, e20, h⟩ := rb_ltE h
      refine rb_nmS e20 ?_
      refine rb_aload_n hC 1 dX4_readClause_33 rfl ?_
      refine rb_ldcS (tx := "") hC 0 (by exact Or.inl ⟨rfl, rfl, rfl⟩) dX4_readClause_34 ?_
      refine rb_gets (host := "RibbonPole") hC 0 (by decide) (by decide +kernel) dX4_readClause_36 ?_
      refine rb_gets (host := "RibbonPole") hC 1 (by decide) (by decide +kernel) dX4_readClause_39 ?_
      refine rb_aload_n hC 1 dX4_readClause_42 rfl ?_
      refine rb_getR hC fr_X4_14_4 rb_obX3 rfl dX4_readClause_43 ?_
      refine rb_getR hC fr_X4_55_3 rb_obX4 rfl dX4_readClause_46 ?_
      refine rb_iconst (x := 0) hC dX4_readClause_49 (by decide) ?_
      obtain ⟨r23, s21, q22, h⟩ := rb_b2s h
      refine rb_callVi hC rb_VokX mv_X4_58 (xc_GR_readItems_r 0 s19 _ _ q22) rb_obX3 rfl [.ref (rb_sx w (6 + 0)), .ref (rb_sx w 0), .ref (rb_sx w 1), .ref (rb_ad w 5), .int 0] rfl rfl rfl ⟨Nat.le_of_ble_eq_true rfl, Nat.le_of_ble_eq_true rfl⟩ (Nat.le_of_ble_eq_true rfl) dX4_readClause_50 ?_
      obtain ⟨g24, h⟩ := rb_gd h
      cases h
      exact rb_zret hC (rb_bzN g24) dX4_readClause_53
theorem xc_GR_readClause  (σ : rb_St) (r : Int32) (σ9 : rb_St) (h : xf_GR_readClause σ = some (r, σ9)) : rb_Con rb_vX yX4_readClause cX4_readClause 3 (some .boolean) 5 (fun w => [.ref (rb_ad w 3)]) σ (fun _ => (some (.int r))) σ9 := rb_Con.of (by decide +kernel) (fun _ => Nat.le_of_ble_eq_true rfl) (fun z w hC => xk_GR_readClause hC  σ r σ9 h)
theorem mv_X11_255 : rb_MV RX11 255 yX7_overBy cX7_overBy 3 (some .int) 1 := ⟨rb_in (by decide +kernel) (by decide +kernel), me_X7_overBy⟩
theorem mv_X11_258 : rb_MV RX11 258 yX7_underBy cX7_underBy 2 (some .int) 1 := ⟨rb_in (by decide +kernel) (by decide +kernel), me_X7_underBy⟩
theorem mv_X11_261 : rb_MV RX11 261 yX7_layerAt cX7_layerAt 5 (some .int) 1 := ⟨rb_in (by decide +kernel) (by decide +kernel), me_X7_layerAt⟩
theorem me_X5_worth : Cond.instanceMethod yX5_worth ∈ rb_tbl ∧ Cond.selects yX5_worth.cls yX5_worth yX5_worth ∈ rb_tbl ∧ Cond.initialized yX5_worth.cls ∈ rb_tbl ∧ Cond.code yX5_worth cX5_worth 10 (some .int) ∈ rb_tbl ∧ rb_pn yX5_worth 6 := ⟨rb_in (by decide +kernel) (by decide +kernel), rb_in (by decide +kernel) (by decide +kernel), rb_in (by decide +kernel) (by decide +kernel), rb_in (by decide +kernel) (by decide +kernel), by decide +kernel, by decide +kernel, by decide +kernel⟩
theorem mv_X11_264 : rb_MV RX11 264 yX5_worth cX5_worth 10 (some .int) 6 := ⟨rb_in (by decide +kernel) (by decide +kernel), me_X5_worth⟩
theorem mk_X11_268 : Cond.methodLink RX11 268 Lib.Math.min.name ∈ rb_tbl := rb_in (by decide +kernel) (by decide +kernel)
def xf_RP_priceOn (k1 : Nat) (p0 : Int32) (σ : rb_St) : Option (Int32 × rb_St) := if (σ.1 0 10) < 0 then some (xf_Green_tight σ, σ) else if (σ.1 0 10) < (σ.1 0 9) then rb_b1 (xf_Pole_overBy k1 p0 σ) fun r3 => rb_b1 (xf_Green_trait r3 2 σ) fun r5 => rb_b1 (xf_Pole_underBy k1 p0 σ) fun r7 => rb_b1 (xf_Green_trait r7 2 σ) fun r9 => rb_b1 (xf_Pole_layerAt k1 (p0 >>> (1 &&& 31)) σ) fun r11 => if rb_ib (σ.1 0 10) 4 then rb_b2 (xf_Law_worth (240 + 4 * (σ.1 0 10).toNatClampNeg) (xf_Green_tight σ) r5 r9 (σ.1 k1 1) r11 ((σ.1 k1 3) - (σ.1 k1 3) / 100 * 100) σ) fun r16 s14 => some (rb_mx 1 (rb_mn 9 r16), s14) else none else some (xf_Green_tight σ, σ)
set_option maxHeartbeats 4000000 in
set_option maxRecDepth 100000 in
theorem xk_RP_priceOn {z : rb_Z} {w : rb_Wd} (hC : rb_Cx z rb_vX w RX11 cX11_priceOn 7 (some .int) 4) (k1 : Nat) (hk1 : rb_isPole k1) (p0 : Int32) (σ : rb_St) (r : Int32) (σ9 : rb_St) (h : xf_RP_priceOn k1 p0 σ = some (r, σ9)) : rb_At z rb_vX w 7 (rb_Q z rb_vX w (some (.int r)) σ9) 0 [(0, .ref (rb_ad w 0)), (1, .ref (rb_ad w k1)), (2, .int p0)] [] σ := by
  unfold xf_RP_priceOn at h
  refine rb_aload_n hC 0 dX11_priceOn_0 rfl ?_
  refine rb_getI hC fr_X11_69_10 rb_obX0 rfl dX11_priceOn_1 ?_
  refine rb_if_lt hC 18 dX11_priceOn_4 (by decide) (fun c1 => ?_) (fun c1 => ?_)
  · replace h := rb_ifp c1 h
    refine rb_aload_n hC 0 dX11_priceOn_18 rfl ?_
    refine rb_getR hC fr_X11_42_10 rb_obX0 rfl dX11_priceOn_19 ?_
    refine rb_callVi hC rb_VokX mv_X11_179 (xc_Green_tight  σ _ rfl) rb_obX15 rfl [] rfl rfl rfl ⟨Nat.le_of_ble_eq_true rfl, Nat.le_of_ble_eq_true rfl⟩ (Nat.le_of_ble_eq_true rfl) dX11_priceOn_22 ?_
    cases h
    exact rb_iret hC dX11_priceOn_25
  · replace h := rb_ifn c1 h
    refine rb_aload_n hC 0 dX11_priceOn_7 rfl ?_
    refine rb_getI hC fr_X11_69_10 rb_obX0 rfl dX11_priceOn_8 ?_
    refine rb_aload_n hC 0 dX11_priceOn_11 rfl ?_
    refine rb_getI hC fr_X11_158_10 rb_obX0 rfl dX11_priceOn_12 ?_
    refine rb_icmp_lt hC 26 dX11_priceOn_15 (by decide) (fun c2 => ?_) (fun c2 => ?_)
    · replace h := rb_ifp c2 h
      refine rb_aload_n hC 0 dX11_priceOn_26 rfl ?_
      refine rb_getR hC fr_X11_42_10 rb_obX0 rfl dX11_priceOn_27 ?_
      refine rb_aload_n hC 1 dX11_priceOn_30 rfl ?_
      refine rb_iload_n hC 2 dX11_priceOn_31 rfl ?_
      obtain ⟨r3, q4, h⟩ := rb_b1s h
      refine rb_callVi hC rb_VokX mv_X11_255 (xc_Pole_overBy k1 hk1 p0 σ _ q4) (rb_obPole hk1) rfl [.int p0] rfl rfl rfl ⟨Nat.le_of_ble_eq_true rfl, Nat.le_of_ble_eq_true rfl⟩ (Nat.le_of_ble_eq_true rfl) dX11_priceOn_32 ?_
      refine rb_iconst (x := 2) hC dX11_priceOn_35 (by decide) ?_
      obtain ⟨r5, q6, h⟩ := rb_b1s h
      refine rb_callVi hC rb_VokX mv_X11_195 (xc_Green_trait r3 2 σ _ q6) rb_obX15 rfl [.int r3, .int 2] rfl rfl rfl ⟨Nat.le_of_ble_eq_true rfl, Nat.le_of_ble_eq_true rfl⟩ (Nat.le_of_ble_eq_true rfl) dX11_priceOn_36 ?_
      refine rb_istore_n hC [(3, .int r5), (0, .ref (rb_ad w 0)), (1, .ref (rb_ad w k1)), (2, .int p0)] dX11_priceOn_39 (by decide) rfl ?_
      refine rb_aload_n hC 1 dX11_priceOn_40 rfl ?_
      refine rb_getR hC fr_X11_42_10 rb_obX0 rfl dX11_priceOn_41 ?_
      refine rb_aload_n hC 2 dX11_priceOn_44 rfl ?_
      refine rb_iload_n hC 3 dX11_priceOn_45 rfl ?_
      obtain ⟨r7, q8, h⟩ := rb_b1s h
      refine rb_callVi hC rb_VokX mv_X11_258 (xc_Pole_underBy k1 hk1 p0 σ _ q8) (rb_obPole hk1) rfl [.int p0] rfl rfl rfl ⟨Nat.le_of_ble_eq_true rfl, Nat.le_of_ble_eq_true rfl⟩ (Nat.le_of_ble_eq_true rfl) dX11_priceOn_46 ?_
      refine rb_iconst (x := 2) hC dX11_priceOn_49 (by decide) ?_
      obtain ⟨r9, q10, h⟩ := rb_b1s h
      refine rb_callVi hC rb_VokX mv_X11_195 (xc_Green_trait r7 2 σ _ q10) rb_obX15 rfl [.int r7, .int 2] rfl rfl rfl ⟨Nat.le_of_ble_eq_true rfl, Nat.le_of_ble_eq_true rfl⟩ (Nat.le_of_ble_eq_true rfl) dX11_priceOn_50 ?_
      refine rb_istore hC [(4, .int r9), (3, .int r5), (0, .ref (rb_ad w 0)), (1, .ref (rb_ad w k1)), (2, .int p0)] dX11_priceOn_53 (by decide) rfl ?_
      refine rb_aload_n hC 3 dX11_priceOn_55 rfl ?_
      refine rb_iload_n hC 4 dX11_priceOn_56 rfl ?_
      refine rb_iconst (x := 1) hC dX11_priceOn_57 (by decide) ?_
      refine rb_ishr hC dX11_priceOn_58 ?_
      obtain ⟨r11, q12, h⟩ := rb_b1s h
      refine rb_callVi hC rb_VokX mv_X11_261 (xc_Pole_layerAt k1 hk1 (p0 >>> (1 &&& 31)) σ _ q12) (rb_obPole hk1) rfl [.int (p0 >>> (1 &&& 31))] rfl rfl rfl ⟨Nat.le_of_ble_eq_true rfl, Nat.le_of_ble_eq_true rfl⟩ (Nat.le_of_ble_eq_true rfl) dX11_priceOn_59 ?_
      refine rb_istore hC [(5, .int r11), (4, .int r9), (3, .int r5), (0, .ref (rb_ad w 0)), (1, .ref (rb_ad w k1)), (2, .int p0)] dX11_priceOn_62 (by decide) rfl ?_
      refine rb_aload_n hC 3 dX11_priceOn_64 rfl ?_
      refine rb_getR hC fr_X11_65_10 rb_obX0 rfl dX11_priceOn_65 ?_
      refine rb_aload_n hC 3 dX11_priceOn_68 rfl ?_
      refine rb_getI hC fr_X11_69_10 rb_obX0 rfl dX11_priceOn_69 ?_
      obtain ⟨g13, h⟩ := rb_gd h
      refine rb_aald hC rb_rrX230 (fun _ => rfl) (rb_ibI g13) dX11_priceOn_72 ?_
      refine rb_aload_n hC 3 dX11_priceOn_73 rfl ?_
      refine rb_getR hC fr_X11_42_10 rb_obX0 rfl dX11_priceOn_74 ?_
      refine rb_callVi hC rb_VokX mv_X11_179 (xc_Green_tight  σ _ rfl) rb_obX15 rfl [] rfl rfl rfl ⟨Nat.le_of_ble_eq_true rfl, Nat.le_of_ble_eq_true rfl⟩ (Nat.le_of_ble_eq_true rfl) dX11_priceOn_77 ?_
      refine rb_iload_n hC 2 dX11_priceOn_80 rfl ?_
      refine rb_iload hC 1 dX11_priceOn_81 rfl ?_
      refine rb_aload_n hC 4 dX11_priceOn_83 rfl ?_
      refine rb_getI hC fr_X11_224_7 (rb_obPole hk1) rfl dX11_priceOn_84 ?_
      refine rb_iload hC 0 dX11_priceOn_87 rfl ?_
      refine rb_aload_n hC 4 dX11_priceOn_89 rfl ?_
      refine rb_getI hC fr_X11_250_7 (rb_obPole hk1) rfl dX11_priceOn_90 ?_
      refine rb_bipush (x := 100) hC dX11_priceOn_93 (by decide) ?_
      refine rb_irem hC dX11_priceOn_95 (by decide) ?_
      obtain ⟨r16, s14, q15, h⟩ := rb_b2s h
      refine rb_callVi hC rb_VokX mv_X11_264 (xc_Law_worth (240 + 4 * (σ.1 0 10).toNatClampNeg) (rb_isLaw_of g13) (xf_Green_tight σ) r5 r9 (σ.1 k1 1) r11 ((σ.1 k1 3) - (σ.1 k1 3) / 100 * 100) σ _ _ q15) (rb_obLaw (rb_isLaw_of g13)) rfl [.int (xf_Green_tight σ), .int r5, .int r9, .int (σ.1 k1 1), .int r11, .int ((σ.1 k1 3) - (σ.1 k1 3) / 100 * 100)] rfl rfl rfl ⟨Nat.le_of_ble_eq_true rfl, Nat.le_of_ble_eq_true rfl⟩ (Nat.le_of_ble_eq_true rfl) dX11_priceOn_96 ?_
      refine rb_istore hC [(6, .int r16), (5, .int r11), (4, .int r9), (3, .int r5), (0, .ref (rb_ad w 0)), (1, .ref (rb_ad w k1)), (2, .int p0)] dX11_priceOn_99 (by decide) rfl ?_
      refine rb_iconst (x := 1) hC dX11_priceOn_101 (by decide) ?_
      refine rb_bipush (x := 9) hC dX11_priceOn_102 (by decide) ?_
      refine rb_iload hC 0 dX11_priceOn_104 rfl ?_
      refine rb_mmin hC mk_X11_268 ⟨Nat.le_of_ble_eq_true rfl, Nat.le_of_ble_eq_true rfl⟩ dX11_priceOn_106 ?_
      refine rb_mmax hC mk_X11_273 ⟨Nat.le_of_ble_eq_true rfl, Nat.le_of_ble_eq_true rfl⟩ dX11_priceOn_109 ?_
      cases h
      exact rb_iret hC dX11_priceOn_112
    · replace h := rb_ifn c2 h
      refine rb_aload_n hC 0 dX11_priceOn_18 rfl ?_
      refine rb_getR hC fr_X11_42_10 rb_obX0 rfl dX11_priceOn_19 ?_
      refine rb_callVi hC rb_VokX mv_X11_179 (xc_Green_tight  σ _ rfl) rb_obX15 rfl [] rfl rfl rfl ⟨Nat.le_of_ble_eq_true rfl, Nat.le_of_ble_eq_true rfl⟩ (Nat.le_of_ble_eq_true rfl) dX11_priceOn_22 ?_
      cases h
      exact rb_iret hC dX11_priceOn_25
theorem xc_RP_priceOn (k1 : Nat) (hk1 : rb_isPole k1) (p0 : Int32) (σ : rb_St) (r : Int32) (σ9 : rb_St) (h : xf_RP_priceOn k1 p0 σ = some (r, σ9)) : rb_Con rb_vX yX11_priceOn cX11_priceOn 7 (some .int) 4 (fun w => [.ref (rb_ad w 0), .ref (rb_ad w k1), .int p0]) σ (fun _ => (some (.int r))) σ9 := rb_Con.of (by decide +kernel) (fun _ => Nat.le_of_ble_eq_true rfl) (fun z w hC => xk_RP_priceOn hC k1 hk1 p0 σ r σ9 h)
theorem mv_X11_276 : rb_MV RX11 276 yX7_undoneBy cX7_undoneBy 4 (some .int) 1 := ⟨rb_in (by decide +kernel) (by decide +kernel), me_X7_undoneBy⟩
theorem me_X11_priceOn : Cond.instanceMethod yX11_priceOn ∈ rb_tbl ∧ Cond.selects yX11_priceOn.cls yX11_priceOn yX11_priceOn ∈ rb_tbl ∧ Cond.initialized yX11_priceOn.cls ∈ rb_tbl ∧ Cond.code yX11_priceOn cX11_priceOn 7 (some .int) ∈ rb_tbl ∧ rb_pn yX11_priceOn 2 := ⟨rb_in (by decide +kernel) (by decide +kernel), rb_in (by decide +kernel) (by decide +kernel), rb_in (by decide +kernel) (by decide +kernel), rb_in (by decide +kernel) (by decide +kernel), by decide +kernel, by decide +kernel, by decide +kernel⟩
theorem mv_X11_279 : rb_MV RX11 279 yX11_priceOn cX11_priceOn 7 (some .int) 2 := ⟨rb_in (by decide +kernel) (by decide +kernel), me_X11_priceOn⟩
theorem me_X7_hindrance : Cond.instanceMethod yX7_hindrance ∈ rb_tbl ∧ Cond.selects yX7_hindrance.cls yX7_hindrance yX7_hindrance ∈ rb_tbl ∧ Cond.initialized yX7_hindrance.cls ∈ rb_tbl ∧ Cond.code yX7_hindrance cX7_hindrance 3 (some .int) ∈ rb_tbl ∧ rb_pn yX7_hindrance 2 := ⟨rb_in (by decide +kernel) (by decide +kernel), rb_in (by decide +kernel) (by decide +kernel), rb_in (by decide +kernel) (by decide +kernel), rb_in (by decide +kernel) (by decide +kernel), by decide +kernel, by decide +kernel, by decide +kernel⟩
theorem mv_X11_283 : rb_MV RX11 283 yX7_hindrance cX7_hindrance 3 (some .int) 2 := ⟨rb_in (by decide +kernel) (by decide +kernel), me_X7_hindrance⟩
def xf_RP_hindranceOf (p0 : Int32) (σ : rb_St) : Option (Int32 × rb_St) := rb_b1 (xf_Pole_undoneBy 18 p0 σ) fun r1 => if r1 < 0 then rb_b2 (xf_RP_priceOn 18 p0 σ) fun r6 s4 => rb_b1 (xf_Pole_hindrance 18 p0 r6 s4) fun r7 => some (r7, s4) else some (0, σ)
set_option maxHeartbeats 4000000 in
set_option maxRecDepth 100000 in
theorem xk_RP_hindranceOf {z : rb_Z} {w : rb_Wd} (hC : rb_Cx z rb_vX w RX11 cX11_hindranceOf 2 (some .int) 5) (p0 : Int32) (σ : rb_St) (r : Int32) (σ9 : rb_St) (h : xf_RP_hindranceOf p0 σ = some (r, σ9)) : rb_At z rb_vX w 2 (rb_Q z rb_vX w (some (.int r)) σ9) 0 [(0, .ref (rb_ad w 0)), (1, .int p0)] [] σ := by
  unfold xf_RP_hindranceOf at h
  refine rb_aload_n hC 0 dX11_hindranceOf_0 rfl ?_
  refine rb_getR hC fr_X11_49_10 rb_obX0 rfl dX11_hindranceOf_1 ?_
  refine rb_iload_n hC 1 dX11_hindranceOf_4 rfl ?_
  obtain ⟨r1, q2, h⟩ := rb_b1s h
  refine rb_callVi hC rb_VokX mv_X11_276 (xc_Pole_undoneBy 18 rb_isPole18 p0 σ _ q2) (rb_obPole rb_isPole18) rfl [.int p0] rfl rfl rfl ⟨Nat.le_of_ble_eq_true rfl, Nat.le_of_ble_eq_true rfl⟩ (Nat.le_of_ble_eq_true rfl) dX11_hindranceOf_5 ?_
  refine rb_if_lt hC 15 dX11_hindranceOf_8 (by decide) (fun c3 => ?_) (fun c3 => ?_)
  · replace h := rb_ifp c3 h
    refine rb_aload_n hC 0 dX11_hindranceOf_15 rfl ?_
    refine rb_getR hC fr_X11_49_10 rb_obX0 rfl dX11_hindranceOf_16 ?_
    refine rb_iload_n hC 1 dX11_hindranceOf_19 rfl ?_
    refine rb_aload_n hC 0 dX11_hindranceOf_20 rfl ?_
    refine rb_aload_n hC 0 dX11_hindranceOf_21 rfl ?_
    refine rb_getR hC fr_X11_49_10 rb_obX0 rfl dX11_hindranceOf_22 ?_
    refine rb_iload_n hC 1 dX11_hindranceOf_25 rfl ?_
    obtain ⟨r6, s4, q5, h⟩ := rb_b2s h
    refine rb_callVi hC rb_VokX mv_X11_279 (xc_RP_priceOn 18 rb_isPole18 p0 σ _ _ q5) rb_obX0 rfl [.ref (rb_ad w 18), .int p0] rfl rfl rfl ⟨Nat.le_of_ble_eq_true rfl, Nat.le_of_ble_eq_true rfl⟩ (Nat.le_of_ble_eq_true rfl) dX11_hindranceOf_26 ?_
    obtain ⟨r7, q8, h⟩ := rb_b1s h
    refine rb_callVi hC rb_VokX mv_X11_283 (xc_Pole_hindrance 18 rb_isPole18 p0 r6 s4 _ q8) (rb_obPole rb_isPole18) rfl [.int p0, .int r6] rfl rfl rfl ⟨Nat.le_of_ble_eq_true rfl, Nat.le_of_ble_eq_true rfl⟩ (Nat.le_of_ble_eq_true rfl) dX11_hindranceOf_29 ?_
    cases h
    exact rb_iret hC dX11_hindranceOf_32
  · replace h := rb_ifn c3 h
    refine rb_iconst (x := 0) hC dX11_hindranceOf_11 (by decide) ?_
    refine rb_goto hC 32 dX11_hindranceOf_12 (by decide) ?_
    cases h
    exact rb_iret hC dX11_hindranceOf_32
theorem xc_RP_hindranceOf (p0 : Int32) (σ : rb_St) (r : Int32) (σ9 : rb_St) (h : xf_RP_hindranceOf p0 σ = some (r, σ9)) : rb_Con rb_vX yX11_hindranceOf cX11_hindranceOf 2 (some .int) 5 (fun w => [.ref (rb_ad w 0), .int p0]) σ (fun _ => (some (.int r))) σ9 := rb_Con.of (by decide +kernel) (fun _ => Nat.le_of_ble_eq_true rfl) (fun z w hC => xk_RP_hindranceOf hC p0 σ r σ9 h)
theorem mv_X11_289 : rb_MV RX11 289 yX7_putIn cX7_putIn 4 none 2 := ⟨rb_in (by decide +kernel) (by decide +kernel), me_X7_putIn⟩
theorem mv_X11_286 : rb_MV RX11 286 yX7_takeOut cX7_takeOut 4 none 1 := ⟨rb_in (by decide +kernel) (by decide +kernel), me_X7_takeOut⟩
def xf_RP_moveOn (k1 : Nat) (p0 : Int32) (σ : rb_St) : Option (Int32 × rb_St) := rb_b1 (xf_Pole_undoneBy k1 p0 σ) fun r1 => if r1 < 0 then rb_b2 (xf_RP_priceOn k1 p0 σ) fun r6 s4 => rb_b1 (xf_Pole_hindrance k1 p0 r6 s4) fun r7 => if r7 = 0 then rb_b1 (xf_Pole_putIn k1 p0 r6 s4) fun s10 => some (0, s10) else some (-r7, s4) else rb_b1 (xf_Pole_takeOut k1 r1 σ) fun s12 => some (1, s12)
set_option maxHeartbeats 4000000 in
set_option maxRecDepth 100000 in
theorem xk_RP_moveOn {z : rb_Z} {w : rb_Wd} (hC : rb_Cx z rb_vX w RX11 cX11_moveOn 6 (some .int) 5) (k1 : Nat) (hk1 : rb_isPole k1) (p0 : Int32) (σ : rb_St) (r : Int32) (σ9 : rb_St) (h : xf_RP_moveOn k1 p0 σ = some (r, σ9)) : rb_At z rb_vX w 6 (rb_Q z rb_vX w (some (.int r)) σ9) 0 [(0, .ref (rb_ad w 0)), (1, .ref (rb_ad w k1)), (2, .int p0)] [] σ := by
  unfold xf_RP_moveOn at h
  refine rb_aload_n hC 1 dX11_moveOn_0 rfl ?_
  refine rb_iload_n hC 2 dX11_moveOn_1 rfl ?_
  obtain ⟨r1, q2, h⟩ := rb_b1s h
  refine rb_callVi hC rb_VokX mv_X11_276 (xc_Pole_undoneBy k1 hk1 p0 σ _ q2) (rb_obPole hk1) rfl [.int p0] rfl rfl rfl ⟨Nat.le_of_ble_eq_true rfl, Nat.le_of_ble_eq_true rfl⟩ (Nat.le_of_ble_eq_true rfl) dX11_moveOn_2 ?_
  refine rb_istore_n hC [(3, .int r1), (0, .ref (rb_ad w 0)), (1, .ref (rb_ad w k1)), (2, .int p0)] dX11_moveOn_5 (by decide) rfl ?_
  refine rb_iload_n hC 0 dX11_moveOn_6 rfl ?_
  refine rb_if_lt hC 17 dX11_moveOn_7 (by decide) (fun c3 => ?_) (fun c3 => ?_)
  · replace h := rb_ifp c3 h
    refine rb_aload_n hC 1 dX11_moveOn_17 rfl ?_
    refine rb_aload_n hC 2 dX11_moveOn_18 rfl ?_
    refine rb_iload_n hC 3 dX11_moveOn_19 rfl ?_
    obtain ⟨r6, s4, q5, h⟩ := rb_b2s h
    refine rb_callVi hC rb_VokX mv_X11_279 (xc_RP_priceOn k1 hk1 p0 σ _ _ q5) rb_obX0 rfl [.ref (rb_ad w k1), .int p0] rfl rfl rfl ⟨Nat.le_of_ble_eq_true rfl, Nat.le_of_ble_eq_true rfl⟩ (Nat.le_of_ble_eq_true rfl) dX11_moveOn_20 ?_
    refine rb_istore hC [(4, .int r6), (3, .int r1), (0, .ref (rb_ad w 0)), (1, .ref (rb_ad w k1)), (2, .int p0)] dX11_moveOn_23 (by decide) rfl ?_
    refine rb_aload_n hC 3 dX11_moveOn_25 rfl ?_
    refine rb_iload_n hC 4 dX11_moveOn_26 rfl ?_
    refine rb_iload hC 0 dX11_moveOn_27 rfl ?_
    obtain ⟨r7, q8, h⟩ := rb_b1s h
    refine rb_callVi hC rb_VokX mv_X11_283 (xc_Pole_hindrance k1 hk1 p0 r6 s4 _ q8) (rb_obPole hk1) rfl [.int p0, .int r6] rfl rfl rfl ⟨Nat.le_of_ble_eq_true rfl, Nat.le_of_ble_eq_true rfl⟩ (Nat.le_of_ble_eq_true rfl) dX11_moveOn_29 ?_
    refine rb_istore hC [(5, .int r7), (4, .int r6), (3, .int r1), (0, .ref (rb_ad w 0)), (1, .ref (rb_ad w k1)), (2, .int p0)] dX11_moveOn_32 (by decide) rfl ?_
    refine rb_iload hC 0 dX11_moveOn_34 rfl ?_
    refine rb_if_eq hC 43 dX11_moveOn_36 (by decide) (fun c9 => ?_) (fun c9 => ?_)
    · replace h := rb_ifp c9 h
      refine rb_aload_n hC 4 dX11_moveOn_43 rfl ?_
      refine rb_iload_n hC 5 dX11_moveOn_44 rfl ?_
      refine rb_iload hC 1 dX11_moveOn_45 rfl ?_
      obtain ⟨s10, q11, h⟩ := rb_b1s h
      refine rb_callVv hC rb_VokX mv_X11_289 (xc_Pole_putIn k1 hk1 p0 r6 s4 _ q11) (rb_obPole hk1) rfl [.int p0, .int r6] rfl rfl rfl ⟨Nat.le_of_ble_eq_true rfl, Nat.le_of_ble_eq_true rfl⟩ (Nat.le_of_ble_eq_true rfl) dX11_moveOn_47 ?_
      refine rb_iconst (x := 0) hC dX11_moveOn_50 (by decide) ?_
      cases h
      exact rb_iret hC dX11_moveOn_51
    · replace h := rb_ifn c9 h
      refine rb_iload hC 0 dX11_moveOn_39 rfl ?_
      refine rb_ineg hC dX11_moveOn_41 ?_
      cases h
      exact rb_iret hC dX11_moveOn_42
  · replace h := rb_ifn c3 h
    refine rb_aload_n hC 2 dX11_moveOn_10 rfl ?_
    refine rb_iload_n hC 0 dX11_moveOn_11 rfl ?_
    obtain ⟨s12, q13, h⟩ := rb_b1s h
    refine rb_callVv hC rb_VokX mv_X11_286 (xc_Pole_takeOut k1 hk1 r1 σ _ q13) (rb_obPole hk1) rfl [.int r1] rfl rfl rfl ⟨Nat.le_of_ble_eq_true rfl, Nat.le_of_ble_eq_true rfl⟩ (Nat.le_of_ble_eq_true rfl) dX11_moveOn_12 ?_
    refine rb_iconst (x := 1) hC dX11_moveOn_15 (by decide) ?_
    cases h
    exact rb_iret hC dX11_moveOn_16
theorem xc_RP_moveOn (k1 : Nat) (hk1 : rb_isPole k1) (p0 : Int32) (σ : rb_St) (r : Int32) (σ9 : rb_St) (h : xf_RP_moveOn k1 p0 σ = some (r, σ9)) : rb_Con rb_vX yX11_moveOn cX11_moveOn 6 (some .int) 5 (fun w => [.ref (rb_ad w 0), .ref (rb_ad w k1), .int p0]) σ (fun _ => (some (.int r))) σ9 := rb_Con.of (by decide +kernel) (fun _ => Nat.le_of_ble_eq_true rfl) (fun z w hC => xk_RP_moveOn hC k1 hk1 p0 σ r σ9 h)
theorem me_X7_noteBeat : Cond.instanceMethod yX7_noteBeat ∈ rb_tbl ∧ Cond.selects yX7_noteBeat.cls yX7_noteBeat yX7_noteBeat ∈ rb_tbl ∧ Cond.initialized yX7_noteBeat.cls ∈ rb_tbl ∧ Cond.code yX7_noteBeat cX7_noteBeat 3 none ∈ rb_tbl ∧ rb_pn yX7_noteBeat 2 := ⟨rb_in (by decide +kernel) (by decide +kernel), rb_in (by decide +kernel) (by decide +kernel), rb_in (by decide +kernel) (by decide +kernel), rb_in (by decide +kernel) (by decide +kernel), by decide +kernel, by decide +kernel, by decide +kernel⟩
theorem mv_X11_300 : rb_MV RX11 300 yX7_noteBeat cX7_noteBeat 3 none 2 := ⟨rb_in (by decide +kernel) (by decide +kernel), me_X7_noteBeat⟩
theorem me_X11_moveOn : Cond.instanceMethod yX11_moveOn ∈ rb_tbl ∧ Cond.selects yX11_moveOn.cls yX11_moveOn yX11_moveOn ∈ rb_tbl ∧ Cond.initialized yX11_moveOn.cls ∈ rb_tbl ∧ Cond.code yX11_moveOn cX11_moveOn 6 (some .int) ∈ rb_tbl ∧ rb_pn yX11_moveOn 2 := ⟨rb_in (by decide +kernel) (by decide +kernel), rb_in (by decide +kernel) (by decide +kernel), rb_in (by decide +kernel) (by decide +kernel), rb_in (by decide +kernel) (by decide +kernel), by decide +kernel, by decide +kernel, by decide +kernel⟩
theorem mv_X11_297 : rb_MV RX11 297 yX11_moveOn cX11_moveOn 6 (some .int) 2 := ⟨rb_in (by decide +kernel) (by decide +kernel), me_X11_moveOn⟩
def xj_RP_takeBeat_69 (x1 : Int32) (x2 : Int32) (σ : rb_St) : Option (Int32 × rb_St) := if (xf_Pole_hasPlace 18 (x1 >>> (1 &&& 31)) σ) = 0 then rb_b1 (xf_Pole_noteBeat 18 20 x2 σ) fun s6 => some (x2, s6) else rb_b1 (xf_Pole_noteBeat 18 x1 x2 σ) fun s8 => some (x2, s8)
set_option maxHeartbeats 4000000 in
set_option maxRecDepth 100000 in
theorem xu_RP_takeBeat_69 {z : rb_Z} {w : rb_Wd} (hC : rb_Cx z rb_vX w RX11 cX11_takeBeat 3 (some .int) 6) (x1 : Int32) (x2 : Int32) (σ : rb_St) (r : Int32) (σ9 : rb_St) (h : xj_RP_takeBeat_69 x1 x2 σ = some (r, σ9)) : rb_At z rb_vX w 3 (rb_Q z rb_vX w (some (.int r)) σ9) 69 [(0, .ref (rb_ad w 0)), (1, .int x1), (2, .int x2)] [] σ := by
  unfold xj_RP_takeBeat_69 at h
  refine rb_aload_n hC 0 dX11_takeBeat_69 rfl ?_
  refine rb_getR hC fr_X11_49_10 rb_obX0 rfl dX11_takeBeat_70 ?_
  refine rb_aload_n hC 0 dX11_takeBeat_73 rfl ?_
  refine rb_getR hC fr_X11_49_10 rb_obX0 rfl dX11_takeBeat_74 ?_
  refine rb_iload_n hC 1 dX11_takeBeat_77 rfl ?_
  refine rb_iconst (x := 1) hC dX11_takeBeat_78 (by decide) ?_
  refine rb_ishr hC dX11_takeBeat_79 ?_
  refine rb_callVi hC rb_VokX mv_X11_211 (xc_Pole_hasPlace 18 rb_isPole18 (x1 >>> (1 &&& 31)) σ _ rfl) (rb_obPole rb_isPole18) rfl [.int (x1 >>> (1 &&& 31))] rfl rfl rfl ⟨Nat.le_of_ble_eq_true rfl, Nat.le_of_ble_eq_true rfl⟩ (Nat.le_of_ble_eq_true rfl) dX11_takeBeat_80 ?_
  refine rb_if_eq hC 90 dX11_takeBeat_83 (by decide) (fun c5 => ?_) (fun c5 => ?_)
  · replace h := rb_ifp c5 h
    refine rb_bipush (x := 20) hC dX11_takeBeat_90 (by decide) ?_
    refine rb_iload_n hC 2 dX11_takeBeat_92 rfl ?_
    obtain ⟨s6, q7, h⟩ := rb_b1s h
    refine rb_callVv hC rb_VokX mv_X11_300 (xc_Pole_noteBeat 18 rb_isPole18 20 x2 σ _ q7) (rb_obPole rb_isPole18) rfl [.int 20, .int x2] rfl rfl rfl ⟨Nat.le_of_ble_eq_true rfl, Nat.le_of_ble_eq_true rfl⟩ (Nat.le_of_ble_eq_true rfl) dX11_takeBeat_93 ?_
    refine rb_iload_n hC 2 dX11_takeBeat_96 rfl ?_
    cases h
    exact rb_iret hC dX11_takeBeat_97
  · replace h := rb_ifn c5 h
    refine rb_iload_n hC 1 dX11_takeBeat_86 rfl ?_
    refine rb_goto hC 92 dX11_takeBeat_87 (by decide) ?_
    refine rb_iload_n hC 2 dX11_takeBeat_92 rfl ?_
    obtain ⟨s8, q9, h⟩ := rb_b1s h
    refine rb_callVv hC rb_VokX mv_X11_300 (xc_Pole_noteBeat 18 rb_isPole18 x1 x2 σ _ q9) (rb_obPole rb_isPole18) rfl [.int x1, .int x2] rfl rfl rfl ⟨Nat.le_of_ble_eq_true rfl, Nat.le_of_ble_eq_true rfl⟩ (Nat.le_of_ble_eq_true rfl) dX11_takeBeat_93 ?_
    refine rb_iload_n hC 2 dX11_takeBeat_96 rfl ?_
    cases h
    exact rb_iret hC dX11_takeBeat_97
def xj_RP_takeBeat_41 (x1 : Int32) (u0 : Int32) (σ : rb_St) : Option (Int32 × rb_St) := if u0 = 1 then rb_lt (rb_sI σ 18 2 (rb_mn 999 ((σ.1 18 2) + 1))) (fun s10 => xj_RP_takeBeat_69 x1 u0 s10) else xj_RP_takeBeat_69 x1 u0 σ
set_option maxHeartbeats 4000000 in
set_option maxRecDepth 100000 in
theorem xu_RP_takeBeat_41 {z : rb_Z} {w : rb_Wd} (hC : rb_Cx z rb_vX w RX11 cX11_takeBeat 3 (some .int) 6) (x1 : Int32) (u0 : Int32) (σ : rb_St) (r : Int32) (σ9 : rb_St) (h : xj_RP_takeBeat_41 x1 u0 σ = some (r, σ9)) : rb_At z rb_vX w 3 (rb_Q z rb_vX w (some (.int r)) σ9) 41 [(0, .ref (rb_ad w 0)), (1, .int x1)] [.int u0] σ := by
  unfold xj_RP_takeBeat_41 at h
  refine rb_istore_n hC [(2, .int u0), (0, .ref (rb_ad w 0)), (1, .int x1)] dX11_takeBeat_41 (by decide) rfl ?_
  refine rb_iload_n hC 0 dX11_takeBeat_42 rfl ?_
  refine rb_iconst (x := 1) hC dX11_takeBeat_43 (by decide) ?_
  refine rb_icmp_ne hC 69 dX11_takeBeat_44 (by decide) (fun c4 => ?_) (fun c4 => ?_)
  · replace h := rb_ifn c4 h
    exact rb_sub [1, 2, 0] rfl (xu_RP_takeBeat_69 hC x1 u0 σ _ _ h)
  · replace h := rb_ifp c4 h
    refine rb_aload_n hC 1 dX11_takeBeat_47 rfl ?_
    refine rb_getR hC fr_X11_49_10 rb_obX0 rfl dX11_takeBeat_48 ?_
    refine rb_sipush (x := 999) hC dX11_takeBeat_51 (by decide) ?_
    refine rb_aload_n hC 1 dX11_takeBeat_54 rfl ?_
    refine rb_getR hC fr_X11_49_10 rb_obX0 rfl dX11_takeBeat_55 ?_
    refine rb_getI hC fr_X11_182_7 (rb_obPole rb_isPole18) rfl dX11_takeBeat_58 ?_
    refine rb_iconst (x := 1) hC dX11_takeBeat_61 (by decide) ?_
    refine rb_iadd hC dX11_takeBeat_62 ?_
    refine rb_mmin hC mk_X11_268 ⟨Nat.le_of_ble_eq_true rfl, Nat.le_of_ble_eq_true rfl⟩ dX11_takeBeat_63 ?_
    refine rb_putI hC fr_X11_182_7 ft_7_2 (rb_obPole rb_isPole18) rfl rfl rfl dX11_takeBeat_66 ?_
    obtain ⟨s10, e11, h⟩ := rb_ltE h
    refine rb_nmS e11 ?_
    exact rb_sub [1, 2, 0] rfl (xu_RP_takeBeat_69 hC x1 u0 s10 _ _ h)
def xf_RP_takeBeat (p0 : Int32) (σ : rb_St) : Option (Int32 × rb_St) := rb_b1 (xf_Acts_keep 18 σ) fun s1 => if (xf_Pole_hasPlace 18 (p0 >>> (1 &&& 31)) s1) = 0 then xj_RP_takeBeat_41 p0 0 s1 else rb_b2 (xf_RP_moveOn 18 p0 s1) fun r14 s12 => xj_RP_takeBeat_41 p0 (rb_mx 0 r14) s12
set_option maxHeartbeats 4000000 in
set_option maxRecDepth 100000 in
theorem xk_RP_takeBeat {z : rb_Z} {w : rb_Wd} (hC : rb_Cx z rb_vX w RX11 cX11_takeBeat 3 (some .int) 6) (p0 : Int32) (σ : rb_St) (r : Int32) (σ9 : rb_St) (h : xf_RP_takeBeat p0 σ = some (r, σ9)) : rb_At z rb_vX w 3 (rb_Q z rb_vX w (some (.int r)) σ9) 0 [(0, .ref (rb_ad w 0)), (1, .int p0)] [] σ := by
  unfold xf_RP_takeBeat at h
  refine rb_aload_n hC 0 dX11_takeBeat_0 rfl ?_
  refine rb_getR hC fr_X11_59_10 rb_obX0 rfl dX11_takeBeat_1 ?_
  refine rb_aload_n hC 0 dX11_takeBeat_4 rfl ?_
  refine rb_getR hC fr_X11_49_10 rb_obX0 rfl dX11_takeBeat_5 ?_
  obtain ⟨s1, q2, h⟩ := rb_b1s h
  refine rb_callVv hC rb_VokX mv_X11_293 (xc_Acts_keep 18 rb_isPole18 σ _ q2) rb_obX28 rfl [.ref (rb_ad w 18)] rfl rfl rfl ⟨Nat.le_of_ble_eq_true rfl, Nat.le_of_ble_eq_true rfl⟩ (Nat.le_of_ble_eq_true rfl) dX11_takeBeat_8 ?_
  refine rb_aload_n hC 0 dX11_takeBeat_11 rfl ?_
  refine rb_getR hC fr_X11_49_10 rb_obX0 rfl dX11_takeBeat_12 ?_
  refine rb_iload_n hC 1 dX11_takeBeat_15 rfl ?_
  refine rb_iconst (x := 1) hC dX11_takeBeat_16 (by decide) ?_
  refine rb_ishr hC dX11_takeBeat_17 ?_
  refine rb_callVi hC rb_VokX mv_X11_211 (xc_Pole_hasPlace 18 rb_isPole18 (p0 >>> (1 &&& 31)) s1 _ rfl) (rb_obPole rb_isPole18) rfl [.int (p0 >>> (1 &&& 31))] rfl rfl rfl ⟨Nat.le_of_ble_eq_true rfl, Nat.le_of_ble_eq_true rfl⟩ (Nat.le_of_ble_eq_true rfl) dX11_takeBeat_18 ?_
  refine rb_if_eq hC 40 dX11_takeBeat_21 (by decide) (fun c3 => ?_) (fun c3 => ?_)
  · replace h := rb_ifp c3 h
    refine rb_iconst (x := 0) hC dX11_takeBeat_40 (by decide) ?_
    exact rb_sub [0, 1] rfl (xu_RP_takeBeat_41 hC p0 0 s1 _ _ h)
  · replace h := rb_ifn c3 h
    refine rb_iconst (x := 0) hC dX11_takeBeat_24 (by decide) ?_
    refine rb_aload_n hC 0 dX11_takeBeat_25 rfl ?_
    refine rb_aload_n hC 0 dX11_takeBeat_26 rfl ?_
    refine rb_getR hC fr_X11_49_10 rb_obX0 rfl dX11_takeBeat_27 ?_
    refine rb_iload_n hC 1 dX11_takeBeat_30 rfl ?_
    obtain ⟨r14, s12, q13, h⟩ := rb_b2s h
    refine rb_callVi hC rb_VokX mv_X11_297 (xc_RP_moveOn 18 rb_isPole18 p0 s1 _ _ q13) rb_obX0 rfl [.ref (rb_ad w 18), .int p0] rfl rfl rfl ⟨Nat.le_of_ble_eq_true rfl, Nat.le_of_ble_eq_true rfl⟩ (Nat.le_of_ble_eq_true rfl) dX11_takeBeat_31 ?_
    refine rb_mmax hC mk_X11_273 ⟨Nat.le_of_ble_eq_true rfl, Nat.le_of_ble_eq_true rfl⟩ dX11_takeBeat_34 ?_
    refine rb_goto hC 41 dX11_takeBeat_37 (by decide) ?_
    exact rb_sub [0, 1] rfl (xu_RP_takeBeat_41 hC p0 (rb_mx 0 r14) s12 _ _ h)
theorem xc_RP_takeBeat (p0 : Int32) (σ : rb_St) (r : Int32) (σ9 : rb_St) (h : xf_RP_takeBeat p0 σ = some (r, σ9)) : rb_Con rb_vX yX11_takeBeat cX11_takeBeat 3 (some .int) 6 (fun w => [.ref (rb_ad w 0), .int p0]) σ (fun _ => (some (.int r))) σ9 := rb_Con.of (by decide +kernel) (fun _ => Nat.le_of_ble_eq_true rfl) (fun z w hC => xk_RP_takeBeat hC p0 σ r σ9 h)
theorem me_X11_letterOf : Cond.static yX11_letterOf ∈ rb_tbl ∧ Cond.initialized yX11_letterOf.cls ∈ rb_tbl ∧ Cond.code yX11_letterOf cX11_letterOf 2 (some .int) ∈ rb_tbl ∧ rb_pn yX11_letterOf 2 := ⟨rb_in (by decide +kernel) (by decide +kernel), rb_in (by decide +kernel) (by decide +kernel), rb_in (by decide +kernel) (by decide +kernel), by decide +kernel, by decide +kernel, by decide +kernel⟩
theorem mv_X11_306 : rb_MS RX11 306 yX11_letterOf cX11_letterOf 2 (some .int) 2 := ⟨rb_in (by decide +kernel) (by decide +kernel), me_X11_letterOf⟩
theorem me_X11_hindranceOf : Cond.instanceMethod yX11_hindranceOf ∈ rb_tbl ∧ Cond.selects yX11_hindranceOf.cls yX11_hindranceOf yX11_hindranceOf ∈ rb_tbl ∧ Cond.initialized yX11_hindranceOf.cls ∈ rb_tbl ∧ Cond.code yX11_hindranceOf cX11_hindranceOf 2 (some .int) ∈ rb_tbl ∧ rb_pn yX11_hindranceOf 1 := ⟨rb_in (by decide +kernel) (by decide +kernel), rb_in (by decide +kernel) (by decide +kernel), rb_in (by decide +kernel) (by decide +kernel), rb_in (by decide +kernel) (by decide +kernel), by decide +kernel, by decide +kernel, by decide +kernel⟩
theorem mv_X11_310 : rb_MV RX11 310 yX11_hindranceOf cX11_hindranceOf 2 (some .int) 1 := ⟨rb_in (by decide +kernel) (by decide +kernel), me_X11_hindranceOf⟩
theorem me_X11_takeBeat : Cond.instanceMethod yX11_takeBeat ∈ rb_tbl ∧ Cond.selects yX11_takeBeat.cls yX11_takeBeat yX11_takeBeat ∈ rb_tbl ∧ Cond.initialized yX11_takeBeat.cls ∈ rb_tbl ∧ Cond.code yX11_takeBeat cX11_takeBeat 3 (some .int) ∈ rb_tbl ∧ rb_pn yX11_takeBeat 1 := ⟨rb_in (by decide +kernel) (by decide +kernel), rb_in (by decide +kernel) (by decide +kernel), rb_in (by decide +kernel) (by decide +kernel), rb_in (by decide +kernel) (by decide +kernel), by decide +kernel, by decide +kernel, by decide +kernel⟩
theorem mv_X11_313 : rb_MV RX11 313 yX11_takeBeat cX11_takeBeat 3 (some .int) 1 := ⟨rb_in (by decide +kernel) (by decide +kernel), me_X11_takeBeat⟩
def xf_RP_cross (p0 : Int32) (p1 : Int32) (σ : rb_St) : Option (Int32 × rb_St) := if (xf_RP_hasGreen σ) = 0 then rb_b2 (xf_RP_refuse 0 σ) fun r22 s20 => some (r22, s20) else if (xf_Pole_hasPlace 18 p0 σ) = 0 then rb_b2 (xf_RP_refuse 1 σ) fun r19 s17 => some (r19, s17) else rb_b2 (xf_RP_hindranceOf (xf_RP_letterOf p0 p1 σ) σ) fun r5 s3 => if r5 = 0 then if (s3.1 18 3) < 999 then rb_b2 (xf_RP_takeBeat (xf_RP_letterOf p0 p1 σ) s3) fun r10 s8 => some (r10, s8) else rb_b2 (xf_RP_refuse 4 s3) fun r13 s11 => some (r13, s11) else rb_b2 (xf_RP_refuse r5 s3) fun r16 s14 => some (r16, s14)
set_option maxHeartbeats 4000000 in
set_option maxRecDepth 100000 in
theorem xk_RP_cross {z : rb_Z} {w : rb_Wd} (hC : rb_Cx z rb_vX w RX11 cX11_cross 5 (some .int) 7) (p0 : Int32) (p1 : Int32) (σ : rb_St) (r : Int32) (σ9 : rb_St) (h : xf_RP_cross p0 p1 σ = some (r, σ9)) : rb_At z rb_vX w 5 (rb_Q z rb_vX w (some (.int r)) σ9) 0 [(0, .ref (rb_ad w 0)), (1, .int p0), (2, .int p1)] [] σ := by
  unfold xf_RP_cross at h
  refine rb_aload_n hC 0 dX11_cross_0 rfl ?_
  refine rb_callVi hC rb_VokX mv_X11_176 (xc_RP_hasGreen  σ _ rfl) rb_obX0 rfl [] rfl rfl rfl ⟨Nat.le_of_ble_eq_true rfl, Nat.le_of_ble_eq_true rfl⟩ (Nat.le_of_ble_eq_true rfl) dX11_cross_1 ?_
  refine rb_if_ne hC 13 dX11_cross_4 (by decide) (fun c1 => ?_) (fun c1 => ?_)
  · replace h := rb_ifn c1 h
    refine rb_aload_n hC 0 dX11_cross_13 rfl ?_
    refine rb_getR hC fr_X11_49_10 rb_obX0 rfl dX11_cross_14 ?_
    refine rb_iload_n hC 1 dX11_cross_17 rfl ?_
    refine rb_callVi hC rb_VokX mv_X11_211 (xc_Pole_hasPlace 18 rb_isPole18 p0 σ _ rfl) (rb_obPole rb_isPole18) rfl [.int p0] rfl rfl rfl ⟨Nat.le_of_ble_eq_true rfl, Nat.le_of_ble_eq_true rfl⟩ (Nat.le_of_ble_eq_true rfl) dX11_cross_18 ?_
    refine rb_if_ne hC 30 dX11_cross_21 (by decide) (fun c2 => ?_) (fun c2 => ?_)
    · replace h := rb_ifn c2 h
      refine rb_iload_n hC 1 dX11_cross_30 rfl ?_
      refine rb_iload_n hC 2 dX11_cross_31 rfl ?_
      refine rb_callSi hC rb_VokX mv_X11_306 (xc_RP_letterOf p0 p1 σ _ rfl) [.int p0, .int p1] rfl rfl rfl ⟨Nat.le_of_ble_eq_true rfl, Nat.le_of_ble_eq_true rfl⟩ (Nat.le_of_ble_eq_true rfl) dX11_cross_32 ?_
      refine rb_istore_n hC [(3, .int (xf_RP_letterOf p0 p1 σ)), (0, .ref (rb_ad w 0)), (1, .int p0), (2, .int p1)] dX11_cross_35 (by decide) rfl ?_
      refine rb_aload_n hC 1 dX11_cross_36 rfl ?_
      refine rb_iload_n hC 0 dX11_cross_37 rfl ?_
      obtain ⟨r5, s3, q4, h⟩ := rb_b2s h
      refine rb_callVi hC rb_VokX mv_X11_310 (xc_RP_hindranceOf (xf_RP_letterOf p0 p1 σ) σ _ _ q4) rb_obX0 rfl [.int (xf_RP_letterOf p0 p1 σ)] rfl rfl rfl ⟨Nat.le_of_ble_eq_true rfl, Nat.le_of_ble_eq_true rfl⟩ (Nat.le_of_ble_eq_true rfl) dX11_cross_38 ?_
      refine rb_istore hC [(4, .int r5), (3, .int (xf_RP_letterOf p0 p1 σ)), (0, .ref (rb_ad w 0)), (1, .int p0), (2, .int p1)] dX11_cross_41 (by decide) rfl ?_
      refine rb_iload hC 0 dX11_cross_43 rfl ?_
      refine rb_if_eq hC 55 dX11_cross_45 (by decide) (fun c6 => ?_) (fun c6 => ?_)
      · replace h := rb_ifp c6 h
        refine rb_aload_n hC 2 dX11_cross_55 rfl ?_
        refine rb_getR hC fr_X11_49_10 rb_obX0 rfl dX11_cross_56 ?_
        refine rb_getI hC fr_X11_250_7 (rb_obPole rb_isPole18) rfl dX11_cross_59 ?_
        refine rb_sipush (x := 999) hC dX11_cross_62 (by decide) ?_
        refine rb_icmp_lt hC 74 dX11_cross_65 (by decide) (fun c7 => ?_) (fun c7 => ?_)
        · replace h := rb_ifp c7 h
          refine rb_aload_n hC 2 dX11_cross_74 rfl ?_
          refine rb_iload_n hC 1 dX11_cross_75 rfl ?_
          obtain ⟨r10, s8, q9, h⟩ := rb_b2s h
          refine rb_callVi hC rb_VokX mv_X11_313 (xc_RP_takeBeat (xf_RP_letterOf p0 p1 σ) s3 _ _ q9) rb_obX0 rfl [.int (xf_RP_letterOf p0 p1 σ)] rfl rfl rfl ⟨Nat.le_of_ble_eq_true rfl, Nat.le_of_ble_eq_true rfl⟩ (Nat.le_of_ble_eq_true rfl) dX11_cross_76 ?_
          cases h
          exact rb_iret hC dX11_cross_79
        · replace h := rb_ifn c7 h
          refine rb_aload_n hC 2 dX11_cross_68 rfl ?_
          refine rb_iconst (x := 4) hC dX11_cross_69 (by decide) ?_
          obtain ⟨r13, s11, q12, h⟩ := rb_b2s h
          refine rb_callVi hC rb_VokX mv_X11_303 (xc_RP_refuse 4 s3 _ _ q12) rb_obX0 rfl [.int 4] rfl rfl rfl ⟨Nat.le_of_ble_eq_true rfl, Nat.le_of_ble_eq_true rfl⟩ (Nat.le_of_ble_eq_true rfl) dX11_cross_70 ?_
          cases h
          exact rb_iret hC dX11_cross_73
      · replace h := rb_ifn c6 h
        refine rb_aload_n hC 2 dX11_cross_48 rfl ?_
        refine rb_iload hC 0 dX11_cross_49 rfl ?_
        obtain ⟨r16, s14, q15, h⟩ := rb_b2s h
        refine rb_callVi hC rb_VokX mv_X11_303 (xc_RP_refuse r5 s3 _ _ q15) rb_obX0 rfl [.int r5] rfl rfl rfl ⟨Nat.le_of_ble_eq_true rfl, Nat.le_of_ble_eq_true rfl⟩ (Nat.le_of_ble_eq_true rfl) dX11_cross_51 ?_
        cases h
        exact rb_iret hC dX11_cross_54
    · replace h := rb_ifp c2 h
      refine rb_aload_n hC 0 dX11_cross_24 rfl ?_
      refine rb_iconst (x := 1) hC dX11_cross_25 (by decide) ?_
      obtain ⟨r19, s17, q18, h⟩ := rb_b2s h
      refine rb_callVi hC rb_VokX mv_X11_303 (xc_RP_refuse 1 σ _ _ q18) rb_obX0 rfl [.int 1] rfl rfl rfl ⟨Nat.le_of_ble_eq_true rfl, Nat.le_of_ble_eq_true rfl⟩ (Nat.le_of_ble_eq_true rfl) dX11_cross_26 ?_
      cases h
      exact rb_iret hC dX11_cross_29
  · replace h := rb_ifp c1 h
    refine rb_aload_n hC 0 dX11_cross_7 rfl ?_
    refine rb_iconst (x := 0) hC dX11_cross_8 (by decide) ?_
    obtain ⟨r22, s20, q21, h⟩ := rb_b2s h
    refine rb_callVi hC rb_VokX mv_X11_303 (xc_RP_refuse 0 σ _ _ q21) rb_obX0 rfl [.int 0] rfl rfl rfl ⟨Nat.le_of_ble_eq_true rfl, Nat.le_of_ble_eq_true rfl⟩ (Nat.le_of_ble_eq_true rfl) dX11_cross_9 ?_
    cases h
    exact rb_iret hC dX11_cross_12
theorem xc_RP_cross (p0 : Int32) (p1 : Int32) (σ : rb_St) (r : Int32) (σ9 : rb_St) (h : xf_RP_cross p0 p1 σ = some (r, σ9)) : rb_Con rb_vX yX11_cross cX11_cross 5 (some .int) 7 (fun w => [.ref (rb_ad w 0), .int p0, .int p1]) σ (fun _ => (some (.int r))) σ9 := rb_Con.of (by decide +kernel) (fun _ => Nat.le_of_ble_eq_true rfl) (fun z w hC => xk_RP_cross hC p0 p1 σ r σ9 h)
def xf_RP_beat  (σ : rb_St) : Option (Int32 × rb_St) := if (xf_RP_hasGreen σ) = 0 then rb_b2 (xf_RP_refuse 0 σ) fun r11 s9 => some (r11, s9) else if (σ.1 18 3) < 999 then rb_b2 (xf_RP_takeBeat 20 σ) fun r5 s3 => some (s3.1 18 3, s3) else rb_b2 (xf_RP_refuse 4 σ) fun r8 s6 => some (r8, s6)
set_option maxHeartbeats 4000000 in
set_option maxRecDepth 100000 in
theorem xk_RP_beat {z : rb_Z} {w : rb_Wd} (hC : rb_Cx z rb_vX w RX11 cX11_beat 1 (some .int) 7)  (σ : rb_St) (r : Int32) (σ9 : rb_St) (h : xf_RP_beat σ = some (r, σ9)) : rb_At z rb_vX w 1 (rb_Q z rb_vX w (some (.int r)) σ9) 0 [(0, .ref (rb_ad w 0))] [] σ := by
  unfold xf_RP_beat at h
  refine rb_aload_n hC 0 dX11_beat_0 rfl ?_
  refine rb_callVi hC rb_VokX mv_X11_176 (xc_RP_hasGreen  σ _ rfl) rb_obX0 rfl [] rfl rfl rfl ⟨Nat.le_of_ble_eq_true rfl, Nat.le_of_ble_eq_true rfl⟩ (Nat.le_of_ble_eq_true rfl) dX11_beat_1 ?_
  refine rb_if_ne hC 13 dX11_beat_4 (by decide) (fun c1 => ?_) (fun c1 => ?_)
  · replace h := rb_ifn c1 h
    refine rb_aload_n hC 0 dX11_beat_13 rfl ?_
    refine rb_getR hC fr_X11_49_10 rb_obX0 rfl dX11_beat_14 ?_
    refine rb_getI hC fr_X11_250_7 (rb_obPole rb_isPole18) rfl dX11_beat_17 ?_
    refine rb_sipush (x := 999) hC dX11_beat_20 (by decide) ?_
    refine rb_icmp_lt hC 32 dX11_beat_23 (by decide) (fun c2 => ?_) (fun c2 => ?_)
    · replace h := rb_ifp c2 h
      refine rb_aload_n hC 0 dX11_beat_32 rfl ?_
      refine rb_bipush (x := 20) hC dX11_beat_33 (by decide) ?_
      obtain ⟨r5, s3, q4, h⟩ := rb_b2s h
      refine rb_callVi hC rb_VokX mv_X11_313 (xc_RP_takeBeat 20 σ _ _ q4) rb_obX0 rfl [.int 20] rfl rfl rfl ⟨Nat.le_of_ble_eq_true rfl, Nat.le_of_ble_eq_true rfl⟩ (Nat.le_of_ble_eq_true rfl) dX11_beat_35 ?_
      refine rb_pop hC dX11_beat_38 rfl ?_
      refine rb_aload_n hC 0 dX11_beat_39 rfl ?_
      refine rb_getR hC fr_X11_49_10 rb_obX0 rfl dX11_beat_40 ?_
      refine rb_getI hC fr_X11_250_7 (rb_obPole rb_isPole18) rfl dX11_beat_43 ?_
      cases h
      exact rb_iret hC dX11_beat_46
    · replace h := rb_ifn c2 h
      refine rb_aload_n hC 0 dX11_beat_26 rfl ?_
      refine rb_iconst (x := 4) hC dX11_beat_27 (by decide) ?_
      obtain ⟨r8, s6, q7, h⟩ := rb_b2s h
      refine rb_callVi hC rb_VokX mv_X11_303 (xc_RP_refuse 4 σ _ _ q7) rb_obX0 rfl [.int 4] rfl rfl rfl ⟨Nat.le_of_ble_eq_true rfl, Nat.le_of_ble_eq_true rfl⟩ (Nat.le_of_ble_eq_true rfl) dX11_beat_28 ?_
      cases h
      exact rb_iret hC dX11_beat_31
  · replace h := rb_ifp c1 h
    refine rb_aload_n hC 0 dX11_beat_7 rfl ?_
    refine rb_iconst (x := 0) hC dX11_beat_8 (by decide) ?_
    obtain ⟨r11, s9, q10, h⟩ := rb_b2s h
    refine rb_callVi hC rb_VokX mv_X11_303 (xc_RP_refuse 0 σ _ _ q10) rb_obX0 rfl [.int 0] rfl rfl rfl ⟨Nat.le_of_ble_eq_true rfl, Nat.le_of_ble_eq_true rfl⟩ (Nat.le_of_ble_eq_true rfl) dX11_beat_9 ?_
    cases h
    exact rb_iret hC dX11_beat_12
theorem xc_RP_beat  (σ : rb_St) (r : Int32) (σ9 : rb_St) (h : xf_RP_beat σ = some (r, σ9)) : rb_Con rb_vX yX11_beat cX11_beat 1 (some .int) 7 (fun w => [.ref (rb_ad w 0)]) σ (fun _ => (some (.int r))) σ9 := rb_Con.of (by decide +kernel) (fun _ => Nat.le_of_ble_eq_true rfl) (fun z w hC => xk_RP_beat hC  σ r σ9 h)
