def xl_Pole_firstLetters_6 (k0 : Nat) (σ : rb_St) : Nat → Int32 → Int32 → Int32 → Option (Int32)
  | 0, _, _, _ => none
  | n + 1, x1, x2, x3 => if (σ.1 k0 1) ≤ x3 then some x2 else if rb_ib x3 48 then rb_lt (xf_Pole_placeIn (σ.1 (k0 + 3) x3.toNatClampNeg) σ) (fun v3 => if ((x1 >>> (v3 &&& 31)) &&& 1) = 0 then rb_lt (x2 ||| (1 <<< ((xf_Pole_letterIn (σ.1 (k0 + 3) x3.toNatClampNeg) σ) &&& 31))) (fun v8 => rb_lt (x1 ||| (xf_Pole_nearOf k0 v3 σ)) (fun v10 => xl_Pole_firstLetters_6 k0 σ n v10 v8 (x3 + 1))) else rb_lt (x1 ||| (xf_Pole_nearOf k0 v3 σ)) (fun v6 => xl_Pole_firstLetters_6 k0 σ n v6 x2 (x3 + 1))) else none
set_option maxHeartbeats 4000000 in
set_option maxRecDepth 100000 in
theorem xt_Pole_firstLetters_6 {z : rb_Z} {w : rb_Wd} {Q : State → Prop} (hC : rb_Cx z rb_vX w RX7 cX7_firstLetters 5 (some .int) 2) (k0 : Nat) (hk0 : rb_isPole k0) (σ : rb_St) : ∀ (n : Nat) (x1 : Int32) (x2 : Int32) (x3 : Int32) (y2 : Int32), xl_Pole_firstLetters_6 k0 σ n x1 x2 x3 = some y2 → rb_At z rb_vX w 5 Q 63 [(2, .int y2)] [] σ → rb_At z rb_vX w 5 Q 6 [(0, .ref (rb_ad w k0)), (1, .int x1), (2, .int x2), (3, .int x3)] [] σ := by
  intro n
  induction n with
  | zero =>
    intro x1 x2 x3 y2 h hE0
    cases h
  | succ n ih =>
    intro x1 x2 x3 y2 h hE0
    rw [xl_Pole_firstLetters_6] at h
    refine rb_iload_n hC 3 dX7_firstLetters_6 rfl ?_
    refine rb_aload_n hC 0 dX7_firstLetters_7 rfl ?_
    refine rb_getI hC fr_X7_33_7 (rb_obPole hk0) rfl dX7_firstLetters_8 ?_
    refine rb_icmp_ge hC 63 dX7_firstLetters_11 (by decide) (fun c1 => ?_) (fun c1 => ?_)
    · replace h := rb_ifp c1 h
      cases h
      exact rb_sub [2] rfl (hE0)
    · replace h := rb_ifn c1 h
      refine rb_aload_n hC 0 dX7_firstLetters_14 rfl ?_
      refine rb_getR hC fr_X7_18_7 (rb_obPole hk0) rfl dX7_firstLetters_15 ?_
      refine rb_iload_n hC 3 dX7_firstLetters_18 rfl ?_
      obtain ⟨g2, h⟩ := rb_gd h
      refine rb_iald hC (rb_arPole3 hk0) (rb_ibI g2) dX7_firstLetters_19 ?_
      refine rb_callSi hC rb_VokX mv_X7_70 (xc_Pole_placeIn (σ.1 (k0 + 3) x3.toNatClampNeg) σ _ rfl) [.int (σ.1 (k0 + 3) x3.toNatClampNeg)] rfl rfl rfl ⟨Nat.le_of_ble_eq_true rfl, Nat.le_of_ble_eq_true rfl⟩ (Nat.le_of_ble_eq_true rfl) dX7_firstLetters_20 ?_
      obtain ⟨v3, e4, h⟩ := rb_ltE h
      refine rb_nmI e4 ?_
      refine rb_istore hC [(4, .int v3), (0, .ref (rb_ad w k0)), (1, .int x1), (2, .int x2), (3, .int x3)] dX7_firstLetters_23 (by decide) rfl ?_
      refine rb_iload_n hC 2 dX7_firstLetters_25 rfl ?_
      refine rb_iload hC 0 dX7_firstLetters_26 rfl ?_
      refine rb_ishr hC dX7_firstLetters_28 ?_
      refine rb_iconst (x := 1) hC dX7_firstLetters_29 (by decide) ?_
      refine rb_iand hC dX7_firstLetters_30 ?_
      refine rb_if_ne hC 48 dX7_firstLetters_31 (by decide) (fun c5 => ?_) (fun c5 => ?_)
      · replace h := rb_ifn c5 h
        refine rb_iload_n hC 2 dX7_firstLetters_48 rfl ?_
        refine rb_aload_n hC 1 dX7_firstLetters_49 rfl ?_
        refine rb_iload hC 0 dX7_firstLetters_50 rfl ?_
        refine rb_callVi hC rb_VokX mv_X7_67 (xc_Pole_nearOf k0 hk0 v3 σ _ rfl) (rb_obPole hk0) rfl [.int v3] rfl rfl rfl ⟨Nat.le_of_ble_eq_true rfl, Nat.le_of_ble_eq_true rfl⟩ (Nat.le_of_ble_eq_true rfl) dX7_firstLetters_52 ?_
        refine rb_ior hC dX7_firstLetters_55 ?_
        obtain ⟨v6, e7, h⟩ := rb_ltE h
        refine rb_nmI e7 ?_
        refine rb_istore_n hC [(1, .int v6), (4, .int v3), (0, .ref (rb_ad w k0)), (2, .int x2), (3, .int x3)] dX7_firstLetters_56 (by decide) rfl ?_
        refine rb_iinc hC 4 [(3, .int (x3 + 1)), (1, .int v6), (4, .int v3), (0, .ref (rb_ad w k0)), (2, .int x2)] dX7_firstLetters_57 rfl rfl (by decide) rfl ?_
        refine rb_goto hC 6 dX7_firstLetters_60 (by decide) ?_
        exact rb_sub [3, 1, 4, 0] rfl (ih v6 x2 (x3 + 1) _ h hE0)
      · replace h := rb_ifp c5 h
        refine rb_iload_n hC 3 dX7_firstLetters_34 rfl ?_
        refine rb_iconst (x := 1) hC dX7_firstLetters_35 (by decide) ?_
        refine rb_aload_n hC 1 dX7_firstLetters_36 rfl ?_
        refine rb_getR hC fr_X7_18_7 (rb_obPole hk0) rfl dX7_firstLetters_37 ?_
        refine rb_iload_n hC 4 dX7_firstLetters_40 rfl ?_
        refine rb_iald hC (rb_arPole3 hk0) (rb_ibI g2) dX7_firstLetters_41 ?_
        refine rb_callSi hC rb_VokX mv_X7_73 (xc_Pole_letterIn (σ.1 (k0 + 3) x3.toNatClampNeg) σ _ rfl) [.int (σ.1 (k0 + 3) x3.toNatClampNeg)] rfl rfl rfl ⟨Nat.le_of_ble_eq_true rfl, Nat.le_of_ble_eq_true rfl⟩ (Nat.le_of_ble_eq_true rfl) dX7_firstLetters_42 ?_
        refine rb_ishl hC dX7_firstLetters_45 ?_
        refine rb_ior hC dX7_firstLetters_46 ?_
        obtain ⟨v8, e9, h⟩ := rb_ltE h
        refine rb_nmI e9 ?_
        refine rb_istore_n hC [(2, .int v8), (4, .int v3), (0, .ref (rb_ad w k0)), (1, .int x1), (3, .int x3)] dX7_firstLetters_47 (by decide) rfl ?_
        refine rb_iload_n hC 3 dX7_firstLetters_48 rfl ?_
        refine rb_aload_n hC 2 dX7_firstLetters_49 rfl ?_
        refine rb_iload hC 1 dX7_firstLetters_50 rfl ?_
        refine rb_callVi hC rb_VokX mv_X7_67 (xc_Pole_nearOf k0 hk0 v3 σ _ rfl) (rb_obPole hk0) rfl [.int v3] rfl rfl rfl ⟨Nat.le_of_ble_eq_true rfl, Nat.le_of_ble_eq_true rfl⟩ (Nat.le_of_ble_eq_true rfl) dX7_firstLetters_52 ?_
        refine rb_ior hC dX7_firstLetters_55 ?_
        obtain ⟨v10, e11, h⟩ := rb_ltE h
        refine rb_nmI e11 ?_
        refine rb_istore_n hC [(1, .int v10), (2, .int v8), (4, .int v3), (0, .ref (rb_ad w k0)), (3, .int x3)] dX7_firstLetters_56 (by decide) rfl ?_
        refine rb_iinc hC 4 [(3, .int (x3 + 1)), (1, .int v10), (2, .int v8), (4, .int v3), (0, .ref (rb_ad w k0))] dX7_firstLetters_57 rfl rfl (by decide) rfl ?_
        refine rb_goto hC 6 dX7_firstLetters_60 (by decide) ?_
        exact rb_sub [4, 1, 2, 0] rfl (ih v10 v8 (x3 + 1) _ h hE0)
def xf_Pole_firstLetters (k0 : Nat) (σ : rb_St) : Option Int32 := rb_b1 (xl_Pole_firstLetters_6 k0 σ rb_FU 0 0 0) fun y12 => some y12
set_option maxHeartbeats 4000000 in
set_option maxRecDepth 100000 in
theorem xk_Pole_firstLetters {z : rb_Z} {w : rb_Wd} (hC : rb_Cx z rb_vX w RX7 cX7_firstLetters 5 (some .int) 2) (k0 : Nat) (hk0 : rb_isPole k0) (σ : rb_St) (r : Int32) (h : xf_Pole_firstLetters k0 σ = some r) : rb_At z rb_vX w 5 (rb_Q z rb_vX w (some (.int r)) σ) 0 [(0, .ref (rb_ad w k0))] [] σ := by
  unfold xf_Pole_firstLetters at h
  refine rb_iconst (x := 0) hC dX7_firstLetters_0 (by decide) ?_
  refine rb_istore_n hC [(1, .int 0), (0, .ref (rb_ad w k0))] dX7_firstLetters_1 (by decide) rfl ?_
  refine rb_iconst (x := 0) hC dX7_firstLetters_2 (by decide) ?_
  refine rb_istore_n hC [(2, .int 0), (1, .int 0), (0, .ref (rb_ad w k0))] dX7_firstLetters_3 (by decide) rfl ?_
  refine rb_iconst (x := 0) hC dX7_firstLetters_4 (by decide) ?_
  refine rb_istore_n hC [(3, .int 0), (2, .int 0), (1, .int 0), (0, .ref (rb_ad w k0))] dX7_firstLetters_5 (by decide) rfl ?_
  obtain ⟨y12, q13, h⟩ := rb_b1s h
  refine rb_sub (lv2 := [(0, .ref (rb_ad w k0)), (1, .int 0), (2, .int 0), (3, .int 0)]) [3, 2, 1, 0] rfl ?_
  refine xt_Pole_firstLetters_6 hC k0 hk0 σ rb_FU 0 0 0 _ q13 ?_
  refine rb_iload_n hC 0 dX7_firstLetters_63 rfl ?_
  cases h
  exact rb_iret hC dX7_firstLetters_64
theorem xc_Pole_firstLetters (k0 : Nat) (hk0 : rb_isPole k0) (σ : rb_St) (r : Int32) (h : xf_Pole_firstLetters k0 σ = some r) : rb_Con rb_vX yX7_firstLetters cX7_firstLetters 5 (some .int) 2 (fun w => [.ref (rb_ad w k0)]) σ (fun _ => (some (.int r))) σ := rb_Con.of (by decide +kernel) (fun _ => Nat.le_of_ble_eq_true rfl) (fun z w hC => xk_Pole_firstLetters hC k0 hk0 σ r h)
theorem me_X7_overIn : Cond.static yX7_overIn ∈ rb_tbl ∧ Cond.initialized yX7_overIn.cls ∈ rb_tbl ∧ Cond.code yX7_overIn cX7_overIn 1 (some .int) ∈ rb_tbl ∧ rb_pn yX7_overIn 1 := ⟨rb_in (by decide +kernel) (by decide +kernel), rb_in (by decide +kernel) (by decide +kernel), rb_in (by decide +kernel) (by decide +kernel), by decide +kernel, by decide +kernel, by decide +kernel⟩
theorem mv_X7_127 : rb_MS RX7 127 yX7_overIn cX7_overIn 1 (some .int) 1 := ⟨rb_in (by decide +kernel) (by decide +kernel), me_X7_overIn⟩
theorem me_X7_underIn : Cond.static yX7_underIn ∈ rb_tbl ∧ Cond.initialized yX7_underIn.cls ∈ rb_tbl ∧ Cond.code yX7_underIn cX7_underIn 1 (some .int) ∈ rb_tbl ∧ rb_pn yX7_underIn 1 := ⟨rb_in (by decide +kernel) (by decide +kernel), rb_in (by decide +kernel) (by decide +kernel), rb_in (by decide +kernel) (by decide +kernel), by decide +kernel, by decide +kernel, by decide +kernel⟩
theorem mv_X7_130 : rb_MS RX7 130 yX7_underIn cX7_underIn 1 (some .int) 1 := ⟨rb_in (by decide +kernel) (by decide +kernel), me_X7_underIn⟩
def xf_Pole_isOf (k0 : Nat) (p0 : Int32) (p1 : Int32) (σ : rb_St) : Option Int32 := if rb_ib p0 48 then if (xf_Pole_overIn (σ.1 (k0 + 3) p0.toNatClampNeg) σ) = p1 then some 1 else if (xf_Pole_underIn (σ.1 (k0 + 3) p0.toNatClampNeg) σ) = p1 then some 1 else some 0 else none
set_option maxHeartbeats 4000000 in
set_option maxRecDepth 100000 in
theorem xk_Pole_isOf {z : rb_Z} {w : rb_Wd} (hC : rb_Cx z rb_vX w RX7 cX7_isOf 3 (some .boolean) 1) (k0 : Nat) (hk0 : rb_isPole k0) (p0 : Int32) (p1 : Int32) (σ : rb_St) (r : Int32) (h : xf_Pole_isOf k0 p0 p1 σ = some r) : rb_At z rb_vX w 3 (rb_Q z rb_vX w (some (.int r)) σ) 0 [(0, .ref (rb_ad w k0)), (1, .int p0), (2, .int p1)] [] σ := by
  unfold xf_Pole_isOf at h
  refine rb_aload_n hC 0 dX7_isOf_0 rfl ?_
  refine rb_getR hC fr_X7_18_7 (rb_obPole hk0) rfl dX7_isOf_1 ?_
  refine rb_iload_n hC 1 dX7_isOf_4 rfl ?_
  obtain ⟨g1, h⟩ := rb_gd h
  refine rb_iald hC (rb_arPole3 hk0) (rb_ibI g1) dX7_isOf_5 ?_
  refine rb_callSi hC rb_VokX mv_X7_127 (xc_Pole_overIn (σ.1 (k0 + 3) p0.toNatClampNeg) σ _ rfl) [.int (σ.1 (k0 + 3) p0.toNatClampNeg)] rfl rfl rfl ⟨Nat.le_of_ble_eq_true rfl, Nat.le_of_ble_eq_true rfl⟩ (Nat.le_of_ble_eq_true rfl) dX7_isOf_6 ?_
  refine rb_iload_n hC 2 dX7_isOf_9 rfl ?_
  refine rb_icmp_eq hC 26 dX7_isOf_10 (by decide) (fun c2 => ?_) (fun c2 => ?_)
  · replace h := rb_ifp c2 h
    refine rb_iconst (x := 1) hC dX7_isOf_26 (by decide) ?_
    refine rb_goto hC 31 dX7_isOf_27 (by decide) ?_
    cases h
    exact rb_zret hC rfl dX7_isOf_31
  · replace h := rb_ifn c2 h
    refine rb_aload_n hC 0 dX7_isOf_13 rfl ?_
    refine rb_getR hC fr_X7_18_7 (rb_obPole hk0) rfl dX7_isOf_14 ?_
    refine rb_iload_n hC 1 dX7_isOf_17 rfl ?_
    refine rb_iald hC (rb_arPole3 hk0) (rb_ibI g1) dX7_isOf_18 ?_
    refine rb_callSi hC rb_VokX mv_X7_130 (xc_Pole_underIn (σ.1 (k0 + 3) p0.toNatClampNeg) σ _ rfl) [.int (σ.1 (k0 + 3) p0.toNatClampNeg)] rfl rfl rfl ⟨Nat.le_of_ble_eq_true rfl, Nat.le_of_ble_eq_true rfl⟩ (Nat.le_of_ble_eq_true rfl) dX7_isOf_19 ?_
    refine rb_iload_n hC 2 dX7_isOf_22 rfl ?_
    refine rb_icmp_ne hC 30 dX7_isOf_23 (by decide) (fun c3 => ?_) (fun c3 => ?_)
    · replace h := rb_ifn c3 h
      refine rb_iconst (x := 0) hC dX7_isOf_30 (by decide) ?_
      cases h
      exact rb_zret hC rfl dX7_isOf_31
    · replace h := rb_ifp c3 h
      refine rb_iconst (x := 1) hC dX7_isOf_26 (by decide) ?_
      refine rb_goto hC 31 dX7_isOf_27 (by decide) ?_
      cases h
      exact rb_zret hC rfl dX7_isOf_31
theorem xc_Pole_isOf (k0 : Nat) (hk0 : rb_isPole k0) (p0 : Int32) (p1 : Int32) (σ : rb_St) (r : Int32) (h : xf_Pole_isOf k0 p0 p1 σ = some r) : rb_Con rb_vX yX7_isOf cX7_isOf 3 (some .boolean) 1 (fun w => [.ref (rb_ad w k0), .int p0, .int p1]) σ (fun _ => (some (.int r))) σ := rb_Con.of (by decide +kernel) (fun _ => Nat.le_of_ble_eq_true rfl) (fun z w hC => xk_Pole_isOf hC k0 hk0 p0 p1 σ r h)
def xl_Pole_oversOf_5 (k0 : Nat) (x1 : Int32) (x2 : Int32) (σ : rb_St) : Nat → Int32 → Int32 → Option (Int32)
  | 0, _, _ => none
  | n + 1, x3, x4 => if (σ.1 k0 1) ≤ x4 then some x3 else if rb_ib x4 48 then if (xf_Pole_overIn (σ.1 (k0 + 3) x4.toNatClampNeg) σ) = x1 then if (xf_Pole_underIn (σ.1 (k0 + 3) x4.toNatClampNeg) σ) = x2 then xl_Pole_oversOf_5 k0 x1 x2 σ n (x3 + 1) (x4 + 1) else xl_Pole_oversOf_5 k0 x1 x2 σ n x3 (x4 + 1) else xl_Pole_oversOf_5 k0 x1 x2 σ n x3 (x4 + 1) else none
set_option maxHeartbeats 4000000 in
set_option maxRecDepth 100000 in
theorem xt_Pole_oversOf_5 {z : rb_Z} {w : rb_Wd} {Q : State → Prop} (hC : rb_Cx z rb_vX w RX7 cX7_oversOf 5 (some .int) 1) (k0 : Nat) (hk0 : rb_isPole k0) (x1 : Int32) (x2 : Int32) (σ : rb_St) : ∀ (n : Nat) (x3 : Int32) (x4 : Int32) (y3 : Int32), xl_Pole_oversOf_5 k0 x1 x2 σ n x3 x4 = some y3 → rb_At z rb_vX w 5 Q 51 [(3, .int y3)] [] σ → rb_At z rb_vX w 5 Q 5 [(0, .ref (rb_ad w k0)), (1, .int x1), (2, .int x2), (3, .int x3), (4, .int x4)] [] σ := by
  intro n
  induction n with
  | zero =>
    intro x3 x4 y3 h hE0
    cases h
  | succ n ih =>
    intro x3 x4 y3 h hE0
    rw [xl_Pole_oversOf_5] at h
    refine rb_iload hC 4 dX7_oversOf_5 rfl ?_
    refine rb_aload_n hC 0 dX7_oversOf_7 rfl ?_
    refine rb_getI hC fr_X7_33_7 (rb_obPole hk0) rfl dX7_oversOf_8 ?_
    refine rb_icmp_ge hC 51 dX7_oversOf_11 (by decide) (fun c1 => ?_) (fun c1 => ?_)
    · replace h := rb_ifp c1 h
      cases h
      exact rb_sub [3] rfl (hE0)
    · replace h := rb_ifn c1 h
      refine rb_aload_n hC 0 dX7_oversOf_14 rfl ?_
      refine rb_getR hC fr_X7_18_7 (rb_obPole hk0) rfl dX7_oversOf_15 ?_
      refine rb_iload hC 4 dX7_oversOf_18 rfl ?_
      obtain ⟨g2, h⟩ := rb_gd h
      refine rb_iald hC (rb_arPole3 hk0) (rb_ibI g2) dX7_oversOf_20 ?_
      refine rb_callSi hC rb_VokX mv_X7_127 (xc_Pole_overIn (σ.1 (k0 + 3) x4.toNatClampNeg) σ _ rfl) [.int (σ.1 (k0 + 3) x4.toNatClampNeg)] rfl rfl rfl ⟨Nat.le_of_ble_eq_true rfl, Nat.le_of_ble_eq_true rfl⟩ (Nat.le_of_ble_eq_true rfl) dX7_oversOf_21 ?_
      refine rb_iload_n hC 1 dX7_oversOf_24 rfl ?_
      refine rb_icmp_ne hC 45 dX7_oversOf_25 (by decide) (fun c3 => ?_) (fun c3 => ?_)
      · replace h := rb_ifn c3 h
        refine rb_iinc hC 4 [(4, .int (x4 + 1)), (0, .ref (rb_ad w k0)), (1, .int x1), (2, .int x2), (3, .int x3)] dX7_oversOf_45 rfl rfl (by decide) rfl ?_
        refine rb_goto hC 5 dX7_oversOf_48 (by decide) ?_
        exact rb_sub [1, 2, 3, 4, 0] rfl (ih x3 (x4 + 1) _ h hE0)
      · replace h := rb_ifp c3 h
        refine rb_aload_n hC 0 dX7_oversOf_28 rfl ?_
        refine rb_getR hC fr_X7_18_7 (rb_obPole hk0) rfl dX7_oversOf_29 ?_
        refine rb_iload hC 4 dX7_oversOf_32 rfl ?_
        refine rb_iald hC (rb_arPole3 hk0) (rb_ibI g2) dX7_oversOf_34 ?_
        refine rb_callSi hC rb_VokX mv_X7_130 (xc_Pole_underIn (σ.1 (k0 + 3) x4.toNatClampNeg) σ _ rfl) [.int (σ.1 (k0 + 3) x4.toNatClampNeg)] rfl rfl rfl ⟨Nat.le_of_ble_eq_true rfl, Nat.le_of_ble_eq_true rfl⟩ (Nat.le_of_ble_eq_true rfl) dX7_oversOf_35 ?_
        refine rb_iload_n hC 2 dX7_oversOf_38 rfl ?_
        refine rb_icmp_ne hC 45 dX7_oversOf_39 (by decide) (fun c4 => ?_) (fun c4 => ?_)
        · replace h := rb_ifn c4 h
          refine rb_iinc hC 4 [(4, .int (x4 + 1)), (0, .ref (rb_ad w k0)), (1, .int x1), (2, .int x2), (3, .int x3)] dX7_oversOf_45 rfl rfl (by decide) rfl ?_
          refine rb_goto hC 5 dX7_oversOf_48 (by decide) ?_
          exact rb_sub [1, 2, 3, 4, 0] rfl (ih x3 (x4 + 1) _ h hE0)
        · replace h := rb_ifp c4 h
          refine rb_iinc hC 3 [(3, .int (x3 + 1)), (0, .ref (rb_ad w k0)), (1, .int x1), (2, .int x2), (4, .int x4)] dX7_oversOf_42 rfl rfl (by decide) rfl ?_
          refine rb_iinc hC 4 [(4, .int (x4 + 1)), (3, .int (x3 + 1)), (0, .ref (rb_ad w k0)), (1, .int x1), (2, .int x2)] dX7_oversOf_45 rfl rfl (by decide) rfl ?_
          refine rb_goto hC 5 dX7_oversOf_48 (by decide) ?_
          exact rb_sub [2, 3, 4, 1, 0] rfl (ih (x3 + 1) (x4 + 1) _ h hE0)
def xf_Pole_oversOf (k0 : Nat) (p0 : Int32) (p1 : Int32) (σ : rb_St) : Option Int32 := rb_b1 (xl_Pole_oversOf_5 k0 p0 p1 σ rb_FU 0 0) fun y5 => some y5
set_option maxHeartbeats 4000000 in
set_option maxRecDepth 100000 in
theorem xk_Pole_oversOf {z : rb_Z} {w : rb_Wd} (hC : rb_Cx z rb_vX w RX7 cX7_oversOf 5 (some .int) 1) (k0 : Nat) (hk0 : rb_isPole k0) (p0 : Int32) (p1 : Int32) (σ : rb_St) (r : Int32) (h : xf_Pole_oversOf k0 p0 p1 σ = some r) : rb_At z rb_vX w 5 (rb_Q z rb_vX w (some (.int r)) σ) 0 [(0, .ref (rb_ad w k0)), (1, .int p0), (2, .int p1)] [] σ := by
  unfold xf_Pole_oversOf at h
  refine rb_iconst (x := 0) hC dX7_oversOf_0 (by decide) ?_
  refine rb_istore_n hC [(3, .int 0), (0, .ref (rb_ad w k0)), (1, .int p0), (2, .int p1)] dX7_oversOf_1 (by decide) rfl ?_
  refine rb_iconst (x := 0) hC dX7_oversOf_2 (by decide) ?_
  refine rb_istore hC [(4, .int 0), (3, .int 0), (0, .ref (rb_ad w k0)), (1, .int p0), (2, .int p1)] dX7_oversOf_3 (by decide) rfl ?_
  obtain ⟨y5, q6, h⟩ := rb_b1s h
  refine rb_sub (lv2 := [(0, .ref (rb_ad w k0)), (1, .int p0), (2, .int p1), (3, .int 0), (4, .int 0)]) [2, 3, 4, 1, 0] rfl ?_
  refine xt_Pole_oversOf_5 hC k0 hk0 p0 p1 σ rb_FU 0 0 _ q6 ?_
  refine rb_iload_n hC 0 dX7_oversOf_51 rfl ?_
  cases h
  exact rb_iret hC dX7_oversOf_52
theorem xc_Pole_oversOf (k0 : Nat) (hk0 : rb_isPole k0) (p0 : Int32) (p1 : Int32) (σ : rb_St) (r : Int32) (h : xf_Pole_oversOf k0 p0 p1 σ = some r) : rb_Con rb_vX yX7_oversOf cX7_oversOf 5 (some .int) 1 (fun w => [.ref (rb_ad w k0), .int p0, .int p1]) σ (fun _ => (some (.int r))) σ := rb_Con.of (by decide +kernel) (fun _ => Nat.le_of_ble_eq_true rfl) (fun z w hC => xk_Pole_oversOf hC k0 hk0 p0 p1 σ r h)
theorem me_X7_isOf : Cond.instanceMethod yX7_isOf ∈ rb_tbl ∧ Cond.selects yX7_isOf.cls yX7_isOf yX7_isOf ∈ rb_tbl ∧ Cond.initialized yX7_isOf.cls ∈ rb_tbl ∧ Cond.code yX7_isOf cX7_isOf 3 (some .boolean) ∈ rb_tbl ∧ rb_pn yX7_isOf 2 := ⟨rb_in (by decide +kernel) (by decide +kernel), rb_in (by decide +kernel) (by decide +kernel), rb_in (by decide +kernel) (by decide +kernel), rb_in (by decide +kernel) (by decide +kernel), by decide +kernel, by decide +kernel, by decide +kernel⟩
theorem mv_X7_123 : rb_MV RX7 123 yX7_isOf cX7_isOf 3 (some .boolean) 2 := ⟨rb_in (by decide +kernel) (by decide +kernel), me_X7_isOf⟩
def xl_Pole_crossingsOf_4 (k0 : Nat) (x1 : Int32) (σ : rb_St) : Nat → Int32 → Int32 → Option (Int32)
  | 0, _, _ => none
  | n + 1, x2, x3 => if (σ.1 k0 1) ≤ x3 then some x2 else rb_b1 (xf_Pole_isOf k0 x3 x1 σ) fun r2 => if r2 = 0 then xl_Pole_crossingsOf_4 k0 x1 σ n x2 (x3 + 1) else xl_Pole_crossingsOf_4 k0 x1 σ n (x2 + 1) (x3 + 1)
set_option maxHeartbeats 4000000 in
set_option maxRecDepth 100000 in
theorem xt_Pole_crossingsOf_4 {z : rb_Z} {w : rb_Wd} {Q : State → Prop} (hC : rb_Cx z rb_vX w RX7 cX7_crossingsOf 4 (some .int) 2) (k0 : Nat) (hk0 : rb_isPole k0) (x1 : Int32) (σ : rb_St) : ∀ (n : Nat) (x2 : Int32) (x3 : Int32) (y2 : Int32), xl_Pole_crossingsOf_4 k0 x1 σ n x2 x3 = some y2 → rb_At z rb_vX w 4 Q 30 [(2, .int y2)] [] σ → rb_At z rb_vX w 4 Q 4 [(0, .ref (rb_ad w k0)), (1, .int x1), (2, .int x2), (3, .int x3)] [] σ := by
  intro n
  induction n with
  | zero =>
    intro x2 x3 y2 h hE0
    cases h
  | succ n ih =>
    intro x2 x3 y2 h hE0
    rw [xl_Pole_crossingsOf_4] at h
    refine rb_iload_n hC 3 dX7_crossingsOf_4 rfl ?_
    refine rb_aload_n hC 0 dX7_crossingsOf_5 rfl ?_
    refine rb_getI hC fr_X7_33_7 (rb_obPole hk0) rfl dX7_crossingsOf_6 ?_
    refine rb_icmp_ge hC 30 dX7_crossingsOf_9 (by decide) (fun c1 => ?_) (fun c1 => ?_)
    · replace h := rb_ifp c1 h
      cases h
      exact rb_sub [2] rfl (hE0)
    · replace h := rb_ifn c1 h
      refine rb_aload_n hC 0 dX7_crossingsOf_12 rfl ?_
      refine rb_iload_n hC 3 dX7_crossingsOf_13 rfl ?_
      refine rb_iload_n hC 1 dX7_crossingsOf_14 rfl ?_
      obtain ⟨r2, q3, h⟩ := rb_b1s h
      refine rb_callVi hC rb_VokX mv_X7_123 (xc_Pole_isOf k0 hk0 x3 x1 σ _ q3) (rb_obPole hk0) rfl [.int x3, .int x1] rfl rfl rfl ⟨Nat.le_of_ble_eq_true rfl, Nat.le_of_ble_eq_true rfl⟩ (Nat.le_of_ble_eq_true rfl) dX7_crossingsOf_15 ?_
      refine rb_if_eq hC 24 dX7_crossingsOf_18 (by decide) (fun c4 => ?_) (fun c4 => ?_)
      · replace h := rb_ifp c4 h
        refine rb_iinc hC 3 [(3, .int (x3 + 1)), (0, .ref (rb_ad w k0)), (1, .int x1), (2, .int x2)] dX7_crossingsOf_24 rfl rfl (by decide) rfl ?_
        refine rb_goto hC 4 dX7_crossingsOf_27 (by decide) ?_
        exact rb_sub [1, 2, 3, 0] rfl (ih x2 (x3 + 1) _ h hE0)
      · replace h := rb_ifn c4 h
        refine rb_iinc hC 2 [(2, .int (x2 + 1)), (0, .ref (rb_ad w k0)), (1, .int x1), (3, .int x3)] dX7_crossingsOf_21 rfl rfl (by decide) rfl ?_
        refine rb_iinc hC 3 [(3, .int (x3 + 1)), (2, .int (x2 + 1)), (0, .ref (rb_ad w k0)), (1, .int x1)] dX7_crossingsOf_24 rfl rfl (by decide) rfl ?_
        refine rb_goto hC 4 dX7_crossingsOf_27 (by decide) ?_
        exact rb_sub [2, 3, 1, 0] rfl (ih (x2 + 1) (x3 + 1) _ h hE0)
def xf_Pole_crossingsOf (k0 : Nat) (p0 : Int32) (σ : rb_St) : Option Int32 := rb_b1 (xl_Pole_crossingsOf_4 k0 p0 σ rb_FU 0 0) fun y5 => some y5
set_option maxHeartbeats 4000000 in
set_option maxRecDepth 100000 in
theorem xk_Pole_crossingsOf {z : rb_Z} {w : rb_Wd} (hC : rb_Cx z rb_vX w RX7 cX7_crossingsOf 4 (some .int) 2) (k0 : Nat) (hk0 : rb_isPole k0) (p0 : Int32) (σ : rb_St) (r : Int32) (h : xf_Pole_crossingsOf k0 p0 σ = some r) : rb_At z rb_vX w 4 (rb_Q z rb_vX w (some (.int r)) σ) 0 [(0, .ref (rb_ad w k0)), (1, .int p0)] [] σ := by
  unfold xf_Pole_crossingsOf at h
  refine rb_iconst (x := 0) hC dX7_crossingsOf_0 (by decide) ?_
  refine rb_istore_n hC [(2, .int 0), (0, .ref (rb_ad w k0)), (1, .int p0)] dX7_crossingsOf_1 (by decide) rfl ?_
  refine rb_iconst (x := 0) hC dX7_crossingsOf_2 (by decide) ?_
  refine rb_istore_n hC [(3, .int 0), (2, .int 0), (0, .ref (rb_ad w k0)), (1, .int p0)] dX7_crossingsOf_3 (by decide) rfl ?_
  obtain ⟨y5, q6, h⟩ := rb_b1s h
  refine rb_sub (lv2 := [(0, .ref (rb_ad w k0)), (1, .int p0), (2, .int 0), (3, .int 0)]) [2, 3, 1, 0] rfl ?_
  refine xt_Pole_crossingsOf_4 hC k0 hk0 p0 σ rb_FU 0 0 _ q6 ?_
  refine rb_iload_n hC 0 dX7_crossingsOf_30 rfl ?_
  cases h
  exact rb_iret hC dX7_crossingsOf_31
theorem xc_Pole_crossingsOf (k0 : Nat) (hk0 : rb_isPole k0) (p0 : Int32) (σ : rb_St) (r : Int32) (h : xf_Pole_crossingsOf k0 p0 σ = some r) : rb_Con rb_vX yX7_crossingsOf cX7_crossingsOf 4 (some .int) 2 (fun w => [.ref (rb_ad w k0), .int p0]) σ (fun _ => (some (.int r))) σ := rb_Con.of (by decide +kernel) (fun _ => Nat.le_of_ble_eq_true rfl) (fun z w hC => xk_Pole_crossingsOf hC k0 hk0 p0 σ r h)
theorem me_X7_tookIn : Cond.static yX7_tookIn ∈ rb_tbl ∧ Cond.initialized yX7_tookIn.cls ∈ rb_tbl ∧ Cond.code yX7_tookIn cX7_tookIn 1 (some .int) ∈ rb_tbl ∧ rb_pn yX7_tookIn 1 := ⟨rb_in (by decide +kernel) (by decide +kernel), rb_in (by decide +kernel) (by decide +kernel), rb_in (by decide +kernel) (by decide +kernel), by decide +kernel, by decide +kernel, by decide +kernel⟩
theorem mv_X7_133 : rb_MS RX7 133 yX7_tookIn cX7_tookIn 1 (some .int) 1 := ⟨rb_in (by decide +kernel) (by decide +kernel), me_X7_tookIn⟩
def xl_Pole_takenOf_4 (k0 : Nat) (x1 : Int32) (σ : rb_St) : Nat → Int32 → Int32 → Option (Int32)
  | 0, _, _ => none
  | n + 1, x2, x3 => if (σ.1 k0 1) ≤ x3 then some x2 else rb_b1 (xf_Pole_isOf k0 x3 x1 σ) fun r2 => if r2 = 0 then xl_Pole_takenOf_4 k0 x1 σ n x2 (x3 + 1) else if rb_ib x3 48 then rb_lt (x2 + (xf_Pole_tookIn (σ.1 (k0 + 3) x3.toNatClampNeg) σ)) (fun v6 => xl_Pole_takenOf_4 k0 x1 σ n v6 (x3 + 1)) else none
set_option maxHeartbeats 4000000 in
set_option maxRecDepth 100000 in
theorem xt_Pole_takenOf_4 {z : rb_Z} {w : rb_Wd} {Q : State → Prop} (hC : rb_Cx z rb_vX w RX7 cX7_takenOf 4 (some .int) 2) (k0 : Nat) (hk0 : rb_isPole k0) (x1 : Int32) (σ : rb_St) : ∀ (n : Nat) (x2 : Int32) (x3 : Int32) (y2 : Int32), xl_Pole_takenOf_4 k0 x1 σ n x2 x3 = some y2 → rb_At z rb_vX w 4 Q 39 [(2, .int y2)] [] σ → rb_At z rb_vX w 4 Q 4 [(0, .ref (rb_ad w k0)), (1, .int x1), (2, .int x2), (3, .int x3)] [] σ := by
  intro n
  induction n with
  | zero =>
    intro x2 x3 y2 h hE0
    cases h
  | succ n ih =>
    intro x2 x3 y2 h hE0
    rw [xl_Pole_takenOf_4] at h
    refine rb_iload_n hC 3 dX7_takenOf_4 rfl ?_
    refine rb_aload_n hC 0 dX7_takenOf_5 rfl ?_
    refine rb_getI hC fr_X7_33_7 (rb_obPole hk0) rfl dX7_takenOf_6 ?_
    refine rb_icmp_ge hC 39 dX7_takenOf_9 (by decide) (fun c1 => ?_) (fun c1 => ?_)
    · replace h := rb_ifp c1 h
      cases h
      exact rb_sub [2] rfl (hE0)
    · replace h := rb_ifn c1 h
      refine rb_aload_n hC 0 dX7_takenOf_12 rfl ?_
      refine rb_iload_n hC 3 dX7_takenOf_13 rfl ?_
      refine rb_iload_n hC 1 dX7_takenOf_14 rfl ?_
      obtain ⟨r2, q3, h⟩ := rb_b1s h
      refine rb_callVi hC rb_VokX mv_X7_123 (xc_Pole_isOf k0 hk0 x3 x1 σ _ q3) (rb_obPole hk0) rfl [.int x3, .int x1] rfl rfl rfl ⟨Nat.le_of_ble_eq_true rfl, Nat.le_of_ble_eq_true rfl⟩ (Nat.le_of_ble_eq_true rfl) dX7_takenOf_15 ?_
      refine rb_if_eq hC 33 dX7_takenOf_18 (by decide) (fun c4 => ?_) (fun c4 => ?_)
      · replace h := rb_ifp c4 h
        refine rb_iinc hC 3 [(3, .int (x3 + 1)), (0, .ref (rb_ad w k0)), (1, .int x1), (2, .int x2)] dX7_takenOf_33 rfl rfl (by decide) rfl ?_
        refine rb_goto hC 4 dX7_takenOf_36 (by decide) ?_
        exact rb_sub [1, 2, 3, 0] rfl (ih x2 (x3 + 1) _ h hE0)
      · replace h := rb_ifn c4 h
        refine rb_iload_n hC 2 dX7_takenOf_21 rfl ?_
        refine rb_aload_n hC 0 dX7_takenOf_22 rfl ?_
        refine rb_getR hC fr_X7_18_7 (rb_obPole hk0) rfl dX7_takenOf_23 ?_
        refine rb_iload_n hC 3 dX7_takenOf_26 rfl ?_
        obtain ⟨g5, h⟩ := rb_gd h
        refine rb_iald hC (rb_arPole3 hk0) (rb_ibI g5) dX7_takenOf_27 ?_
        refine rb_callSi hC rb_VokX mv_X7_133 (xc_Pole_tookIn (σ.1 (k0 + 3) x3.toNatClampNeg) σ _ rfl) [.int (σ.1 (k0 + 3) x3.toNatClampNeg)] rfl rfl rfl ⟨Nat.le_of_ble_eq_true rfl, Nat.le_of_ble_eq_true rfl⟩ (Nat.le_of_ble_eq_true rfl) dX7_takenOf_28 ?_
        refine rb_iadd hC dX7_takenOf_31 ?_
        obtain ⟨v6, e7, h⟩ := rb_ltE h
        refine rb_nmI e7 ?_
        refine rb_istore_n hC [(2, .int v6), (0, .ref (rb_ad w k0)), (1, .int x1), (3, .int x3)] dX7_takenOf_32 (by decide) rfl ?_
        refine rb_iinc hC 3 [(3, .int (x3 + 1)), (2, .int v6), (0, .ref (rb_ad w k0)), (1, .int x1)] dX7_takenOf_33 rfl rfl (by decide) rfl ?_
        refine rb_goto hC 4 dX7_takenOf_36 (by decide) ?_
        exact rb_sub [2, 3, 1, 0] rfl (ih v6 (x3 + 1) _ h hE0)
def xf_Pole_takenOf (k0 : Nat) (p0 : Int32) (σ : rb_St) : Option Int32 := rb_b1 (xl_Pole_takenOf_4 k0 p0 σ rb_FU 0 0) fun y8 => some y8
set_option maxHeartbeats 4000000 in
set_option maxRecDepth 100000 in
theorem xk_Pole_takenOf {z : rb_Z} {w : rb_Wd} (hC : rb_Cx z rb_vX w RX7 cX7_takenOf 4 (some .int) 2) (k0 : Nat) (hk0 : rb_isPole k0) (p0 : Int32) (σ : rb_St) (r : Int32) (h : xf_Pole_takenOf k0 p0 σ = some r) : rb_At z rb_vX w 4 (rb_Q z rb_vX w (some (.int r)) σ) 0 [(0, .ref (rb_ad w k0)), (1, .int p0)] [] σ := by
  unfold xf_Pole_takenOf at h
  refine rb_iconst (x := 0) hC dX7_takenOf_0 (by decide) ?_
  refine rb_istore_n hC [(2, .int 0), (0, .ref (rb_ad w k0)), (1, .int p0)] dX7_takenOf_1 (by decide) rfl ?_
  refine rb_iconst (x := 0) hC dX7_takenOf_2 (by decide) ?_
  refine rb_istore_n hC [(3, .int 0), (2, .int 0), (0, .ref (rb_ad w k0)), (1, .int p0)] dX7_takenOf_3 (by decide) rfl ?_
  obtain ⟨y8, q9, h⟩ := rb_b1s h
  refine rb_sub (lv2 := [(0, .ref (rb_ad w k0)), (1, .int p0), (2, .int 0), (3, .int 0)]) [2, 3, 1, 0] rfl ?_
  refine xt_Pole_takenOf_4 hC k0 hk0 p0 σ rb_FU 0 0 _ q9 ?_
  refine rb_iload_n hC 0 dX7_takenOf_39 rfl ?_
  cases h
  exact rb_iret hC dX7_takenOf_40
theorem xc_Pole_takenOf (k0 : Nat) (hk0 : rb_isPole k0) (p0 : Int32) (σ : rb_St) (r : Int32) (h : xf_Pole_takenOf k0 p0 σ = some r) : rb_Con rb_vX yX7_takenOf cX7_takenOf 4 (some .int) 2 (fun w => [.ref (rb_ad w k0), .int p0]) σ (fun _ => (some (.int r))) σ := rb_Con.of (by decide +kernel) (fun _ => Nat.le_of_ble_eq_true rfl) (fun z w hC => xk_Pole_takenOf hC k0 hk0 p0 σ r h)
def xl_Pole_takenOfAll_4 (k0 : Nat) (σ : rb_St) : Nat → Int32 → Int32 → Option (Int32)
  | 0, _, _ => none
  | n + 1, x1, x2 => if (σ.1 k0 1) ≤ x2 then some x1 else if rb_ib x2 48 then rb_lt (x1 + (2 * (xf_Pole_tookIn (σ.1 (k0 + 3) x2.toNatClampNeg) σ))) (fun v3 => xl_Pole_takenOfAll_4 k0 σ n v3 (x2 + 1)) else none
set_option maxHeartbeats 4000000 in
set_option maxRecDepth 100000 in
theorem xt_Pole_takenOfAll_4 {z : rb_Z} {w : rb_Wd} {Q : State → Prop} (hC : rb_Cx z rb_vX w RX7 cX7_takenOfAll 3 (some .int) 1) (k0 : Nat) (hk0 : rb_isPole k0) (σ : rb_St) : ∀ (n : Nat) (x1 : Int32) (x2 : Int32) (y1 : Int32), xl_Pole_takenOfAll_4 k0 σ n x1 x2 = some y1 → rb_At z rb_vX w 3 Q 32 [(1, .int y1)] [] σ → rb_At z rb_vX w 3 Q 4 [(0, .ref (rb_ad w k0)), (1, .int x1), (2, .int x2)] [] σ := by
  intro n
  induction n with
  | zero =>
    intro x1 x2 y1 h hE0
    cases h
  | succ n ih =>
    intro x1 x2 y1 h hE0
    rw [xl_Pole_takenOfAll_4] at h
    refine rb_iload_n hC 2 dX7_takenOfAll_4 rfl ?_
    refine rb_aload_n hC 0 dX7_takenOfAll_5 rfl ?_
    refine rb_getI hC fr_X7_33_7 (rb_obPole hk0) rfl dX7_takenOfAll_6 ?_
    refine rb_icmp_ge hC 32 dX7_takenOfAll_9 (by decide) (fun c1 => ?_) (fun c1 => ?_)
    · replace h := rb_ifp c1 h
      cases h
      exact rb_sub [1] rfl (hE0)
    · replace h := rb_ifn c1 h
      refine rb_iload_n hC 1 dX7_takenOfAll_12 rfl ?_
      refine rb_iconst (x := 2) hC dX7_takenOfAll_13 (by decide) ?_
      refine rb_aload_n hC 0 dX7_takenOfAll_14 rfl ?_
      refine rb_getR hC fr_X7_18_7 (rb_obPole hk0) rfl dX7_takenOfAll_15 ?_
      refine rb_iload_n hC 2 dX7_takenOfAll_18 rfl ?_
      obtain ⟨g2, h⟩ := rb_gd h
      refine rb_iald hC (rb_arPole3 hk0) (rb_ibI g2) dX7_takenOfAll_19 ?_
      refine rb_callSi hC rb_VokX mv_X7_133 (xc_Pole_tookIn (σ.1 (k0 + 3) x2.toNatClampNeg) σ _ rfl) [.int (σ.1 (k0 + 3) x2.toNatClampNeg)] rfl rfl rfl ⟨Nat.le_of_ble_eq_true rfl, Nat.le_of_ble_eq_true rfl⟩ (Nat.le_of_ble_eq_true rfl) dX7_takenOfAll_20 ?_
      refine rb_imul hC dX7_takenOfAll_23 ?_
      refine rb_iadd hC dX7_takenOfAll_24 ?_
      obtain ⟨v3, e4, h⟩ := rb_ltE h
      refine rb_nmI e4 ?_
      refine rb_istore_n hC [(1, .int v3), (0, .ref (rb_ad w k0)), (2, .int x2)] dX7_takenOfAll_25 (by decide) rfl ?_
      refine rb_iinc hC 2 [(2, .int (x2 + 1)), (1, .int v3), (0, .ref (rb_ad w k0))] dX7_takenOfAll_26 rfl rfl (by decide) rfl ?_
      refine rb_goto hC 4 dX7_takenOfAll_29 (by decide) ?_
      exact rb_sub [2, 1, 0] rfl (ih v3 (x2 + 1) _ h hE0)
def xf_Pole_takenOfAll (k0 : Nat) (σ : rb_St) : Option Int32 := rb_b1 (xl_Pole_takenOfAll_4 k0 σ rb_FU 0 0) fun y5 => some y5
set_option maxHeartbeats 4000000 in
set_option maxRecDepth 100000 in
theorem xk_Pole_takenOfAll {z : rb_Z} {w : rb_Wd} (hC : rb_Cx z rb_vX w RX7 cX7_takenOfAll 3 (some .int) 1) (k0 : Nat) (hk0 : rb_isPole k0) (σ : rb_St) (r : Int32) (h : xf_Pole_takenOfAll k0 σ = some r) : rb_At z rb_vX w 3 (rb_Q z rb_vX w (some (.int r)) σ) 0 [(0, .ref (rb_ad w k0))] [] σ := by
  unfold xf_Pole_takenOfAll at h
  refine rb_iconst (x := 0) hC dX7_takenOfAll_0 (by decide) ?_
  refine rb_istore_n hC [(1, .int 0), (0, .ref (rb_ad w k0))] dX7_takenOfAll_1 (by decide) rfl ?_
  refine rb_iconst (x := 0) hC dX7_takenOfAll_2 (by decide) ?_
  refine rb_istore_n hC [(2, .int 0), (1, .int 0), (0, .ref (rb_ad w k0))] dX7_takenOfAll_3 (by decide) rfl ?_
  obtain ⟨y5, q6, h⟩ := rb_b1s h
  refine rb_sub (lv2 := [(0, .ref (rb_ad w k0)), (1, .int 0), (2, .int 0)]) [2, 1, 0] rfl ?_
  refine xt_Pole_takenOfAll_4 hC k0 hk0 σ rb_FU 0 0 _ q6 ?_
  refine rb_iload_n hC 0 dX7_takenOfAll_32 rfl ?_
  cases h
  exact rb_iret hC dX7_takenOfAll_33
theorem xc_Pole_takenOfAll (k0 : Nat) (hk0 : rb_isPole k0) (σ : rb_St) (r : Int32) (h : xf_Pole_takenOfAll k0 σ = some r) : rb_Con rb_vX yX7_takenOfAll cX7_takenOfAll 3 (some .int) 1 (fun w => [.ref (rb_ad w k0)]) σ (fun _ => (some (.int r))) σ := rb_Con.of (by decide +kernel) (fun _ => Nat.le_of_ble_eq_true rfl) (fun z w hC => xk_Pole_takenOfAll hC k0 hk0 σ r h)
theorem me_X7_takenOf : Cond.instanceMethod yX7_takenOf ∈ rb_tbl ∧ Cond.selects yX7_takenOf.cls yX7_takenOf yX7_takenOf ∈ rb_tbl ∧ Cond.initialized yX7_takenOf.cls ∈ rb_tbl ∧ Cond.code yX7_takenOf cX7_takenOf 4 (some .int) ∈ rb_tbl ∧ rb_pn yX7_takenOf 1 := ⟨rb_in (by decide +kernel) (by decide +kernel), rb_in (by decide +kernel) (by decide +kernel), rb_in (by decide +kernel) (by decide +kernel), rb_in (by decide +kernel) (by decide +kernel), by decide +kernel, by decide +kernel, by decide +kernel⟩
theorem mv_X7_136 : rb_MV RX7 136 yX7_takenOf cX7_takenOf 4 (some .int) 1 := ⟨rb_in (by decide +kernel) (by decide +kernel), me_X7_takenOf⟩
def xf_Pole_leftOf (k0 : Nat) (p0 : Int32) (σ : rb_St) : Option Int32 := if rb_ib (p0 &&& 7) 8 then rb_b1 (xf_Pole_takenOf k0 p0 σ) fun r2 => some ((σ.1 (k0 + 2) (p0 &&& 7).toNatClampNeg) - r2) else none
set_option maxHeartbeats 4000000 in
set_option maxRecDepth 100000 in
theorem xk_Pole_leftOf {z : rb_Z} {w : rb_Wd} (hC : rb_Cx z rb_vX w RX7 cX7_leftOf 2 (some .int) 3) (k0 : Nat) (hk0 : rb_isPole k0) (p0 : Int32) (σ : rb_St) (r : Int32) (h : xf_Pole_leftOf k0 p0 σ = some r) : rb_At z rb_vX w 2 (rb_Q z rb_vX w (some (.int r)) σ) 0 [(0, .ref (rb_ad w k0)), (1, .int p0)] [] σ := by
  unfold xf_Pole_leftOf at h
  refine rb_aload_n hC 0 dX7_leftOf_0 rfl ?_
  refine rb_getR hC fr_X7_15_7 (rb_obPole hk0) rfl dX7_leftOf_1 ?_
  refine rb_iload_n hC 1 dX7_leftOf_4 rfl ?_
  refine rb_bipush (x := 7) hC dX7_leftOf_5 (by decide) ?_
  refine rb_iand hC dX7_leftOf_7 ?_
  obtain ⟨g1, h⟩ := rb_gd h
  refine rb_iald hC (rb_arPole2 hk0) (rb_ibI g1) dX7_leftOf_8 ?_
  refine rb_aload_n hC 0 dX7_leftOf_9 rfl ?_
  refine rb_iload_n hC 1 dX7_leftOf_10 rfl ?_
  obtain ⟨r2, q3, h⟩ := rb_b1s h
  refine rb_callVi hC rb_VokX mv_X7_136 (xc_Pole_takenOf k0 hk0 p0 σ _ q3) (rb_obPole hk0) rfl [.int p0] rfl rfl rfl ⟨Nat.le_of_ble_eq_true rfl, Nat.le_of_ble_eq_true rfl⟩ (Nat.le_of_ble_eq_true rfl) dX7_leftOf_11 ?_
  refine rb_isub hC dX7_leftOf_14 ?_
  cases h
  exact rb_iret hC dX7_leftOf_15
theorem xc_Pole_leftOf (k0 : Nat) (hk0 : rb_isPole k0) (p0 : Int32) (σ : rb_St) (r : Int32) (h : xf_Pole_leftOf k0 p0 σ = some r) : rb_Con rb_vX yX7_leftOf cX7_leftOf 2 (some .int) 3 (fun w => [.ref (rb_ad w k0), .int p0]) σ (fun _ => (some (.int r))) σ := rb_Con.of (by decide +kernel) (fun _ => Nat.le_of_ble_eq_true rfl) (fun z w hC => xk_Pole_leftOf hC k0 hk0 p0 σ r h)
def xl_Pole_depth_4 (k0 : Nat) (σ : rb_St) : Nat → Int32 → Int32 → Option (Int32)
  | 0, _, _ => none
  | n + 1, x1, x2 => if (σ.1 k0 1) ≤ x2 then some x1 else if rb_ib x2 48 then rb_lt (rb_mx x1 (xf_Pole_layerIn (σ.1 (k0 + 3) x2.toNatClampNeg) σ)) (fun v3 => xl_Pole_depth_4 k0 σ n v3 (x2 + 1)) else none
set_option maxHeartbeats 4000000 in
set_option maxRecDepth 100000 in
theorem xt_Pole_depth_4 {z : rb_Z} {w : rb_Wd} {Q : State → Prop} (hC : rb_Cx z rb_vX w RX7 cX7_depth 3 (some .int) 1) (k0 : Nat) (hk0 : rb_isPole k0) (σ : rb_St) : ∀ (n : Nat) (x1 : Int32) (x2 : Int32) (y1 : Int32), xl_Pole_depth_4 k0 σ n x1 x2 = some y1 → rb_At z rb_vX w 3 Q 32 [(1, .int y1)] [] σ → rb_At z rb_vX w 3 Q 4 [(0, .ref (rb_ad w k0)), (1, .int x1), (2, .int x2)] [] σ := by
  intro n
  induction n with
  | zero =>
    intro x1 x2 y1 h hE0
    cases h
  | succ n ih =>
    intro x1 x2 y1 h hE0
    rw [xl_Pole_depth_4] at h
    refine rb_iload_n hC 2 dX7_depth_4 rfl ?_
    refine rb_aload_n hC 0 dX7_depth_5 rfl ?_
    refine rb_getI hC fr_X7_33_7 (rb_obPole hk0) rfl dX7_depth_6 ?_
    refine rb_icmp_ge hC 32 dX7_depth_9 (by decide) (fun c1 => ?_) (fun c1 => ?_)
    · replace h := rb_ifp c1 h
      cases h
      exact rb_sub [1] rfl (hE0)
    · replace h := rb_ifn c1 h
      refine rb_iload_n hC 1 dX7_depth_12 rfl ?_
      refine rb_aload_n hC 0 dX7_depth_13 rfl ?_
      refine rb_getR hC fr_X7_18_7 (rb_obPole hk0) rfl dX7_depth_14 ?_
      refine rb_iload_n hC 2 dX7_depth_17 rfl ?_
      obtain ⟨g2, h⟩ := rb_gd h
      refine rb_iald hC (rb_arPole3 hk0) (rb_ibI g2) dX7_depth_18 ?_
      refine rb_callSi hC rb_VokX mv_X7_76 (xc_Pole_layerIn (σ.1 (k0 + 3) x2.toNatClampNeg) σ _ rfl) [.int (σ.1 (k0 + 3) x2.toNatClampNeg)] rfl rfl rfl ⟨Nat.le_of_ble_eq_true rfl, Nat.le_of_ble_eq_true rfl⟩ (Nat.le_of_ble_eq_true rfl) dX7_depth_19 ?_
      refine rb_mmax hC mk_X7_79 ⟨Nat.le_of_ble_eq_true rfl, Nat.le_of_ble_eq_true rfl⟩ dX7_depth_22 ?_
      obtain ⟨v3, e4, h⟩ := rb_ltE h
      refine rb_nmI e4 ?_
      refine rb_istore_n hC [(1, .int v3), (0, .ref (rb_ad w k0)), (2, .int x2)] dX7_depth_25 (by decide) rfl ?_
      refine rb_iinc hC 2 [(2, .int (x2 + 1)), (1, .int v3), (0, .ref (rb_ad w k0))] dX7_depth_26 rfl rfl (by decide) rfl ?_
      refine rb_goto hC 4 dX7_depth_29 (by decide) ?_
      exact rb_sub [2, 1, 0] rfl (ih v3 (x2 + 1) _ h hE0)
def xf_Pole_depth (k0 : Nat) (σ : rb_St) : Option Int32 := rb_b1 (xl_Pole_depth_4 k0 σ rb_FU 0 0) fun y5 => some y5
set_option maxHeartbeats 4000000 in
set_option maxRecDepth 100000 in
theorem xk_Pole_depth {z : rb_Z} {w : rb_Wd} (hC : rb_Cx z rb_vX w RX7 cX7_depth 3 (some .int) 1) (k0 : Nat) (hk0 : rb_isPole k0) (σ : rb_St) (r : Int32) (h : xf_Pole_depth k0 σ = some r) : rb_At z rb_vX w 3 (rb_Q z rb_vX w (some (.int r)) σ) 0 [(0, .ref (rb_ad w k0))] [] σ := by
  unfold xf_Pole_depth at h
  refine rb_iconst (x := 0) hC dX7_depth_0 (by decide) ?_
  refine rb_istore_n hC [(1, .int 0), (0, .ref (rb_ad w k0))] dX7_depth_1 (by decide) rfl ?_
  refine rb_iconst (x := 0) hC dX7_depth_2 (by decide) ?_
  refine rb_istore_n hC [(2, .int 0), (1, .int 0), (0, .ref (rb_ad w k0))] dX7_depth_3 (by decide) rfl ?_
  obtain ⟨y5, q6, h⟩ := rb_b1s h
  refine rb_sub (lv2 := [(0, .ref (rb_ad w k0)), (1, .int 0), (2, .int 0)]) [2, 1, 0] rfl ?_
  refine xt_Pole_depth_4 hC k0 hk0 σ rb_FU 0 0 _ q6 ?_
  refine rb_iload_n hC 0 dX7_depth_32 rfl ?_
  cases h
  exact rb_iret hC dX7_depth_33
theorem xc_Pole_depth (k0 : Nat) (hk0 : rb_isPole k0) (σ : rb_St) (r : Int32) (h : xf_Pole_depth k0 σ = some r) : rb_Con rb_vX yX7_depth cX7_depth 3 (some .int) 1 (fun w => [.ref (rb_ad w k0)]) σ (fun _ => (some (.int r))) σ := rb_Con.of (by decide +kernel) (fun _ => Nat.le_of_ble_eq_true rfl) (fun z w hC => xk_Pole_depth hC k0 hk0 σ r h)
def xl_Pole_twist_4 (k0 : Nat) (σ : rb_St) : Nat → Int32 → Int32 → Option (Int32)
  | 0, _, _ => none
  | n + 1, x1, x2 => if (σ.1 k0 1) ≤ x2 then some x1 else if rb_ib x2 48 then if ((xf_Pole_letterIn (σ.1 (k0 + 3) x2.toNatClampNeg) σ) &&& 1) = 0 then xl_Pole_twist_4 k0 σ n (x1 + 1) (x2 + 1) else xl_Pole_twist_4 k0 σ n (x1 + (-1)) (x2 + 1) else none
set_option maxHeartbeats 4000000 in
set_option maxRecDepth 100000 in
theorem xt_Pole_twist_4 {z : rb_Z} {w : rb_Wd} {Q : State → Prop} (hC : rb_Cx z rb_vX w RX7 cX7_twist 3 (some .int) 1) (k0 : Nat) (hk0 : rb_isPole k0) (σ : rb_St) : ∀ (n : Nat) (x1 : Int32) (x2 : Int32) (y1 : Int32), xl_Pole_twist_4 k0 σ n x1 x2 = some y1 → rb_At z rb_vX w 3 Q 40 [(1, .int y1)] [] σ → rb_At z rb_vX w 3 Q 4 [(0, .ref (rb_ad w k0)), (1, .int x1), (2, .int x2)] [] σ := by
  intro n
  induction n with
  | zero =>
    intro x1 x2 y1 h hE0
    cases h
  | succ n ih =>
    intro x1 x2 y1 h hE0
    rw [xl_Pole_twist_4] at h
    refine rb_iload_n hC 2 dX7_twist_4 rfl ?_
    refine rb_aload_n hC 0 dX7_twist_5 rfl ?_
    refine rb_getI hC fr_X7_33_7 (rb_obPole hk0) rfl dX7_twist_6 ?_
    refine rb_icmp_ge hC 40 dX7_twist_9 (by decide) (fun c1 => ?_) (fun c1 => ?_)
    · replace h := rb_ifp c1 h
      cases h
      exact rb_sub [1] rfl (hE0)
    · replace h := rb_ifn c1 h
      refine rb_iload_n hC 1 dX7_twist_12 rfl ?_
      refine rb_aload_n hC 0 dX7_twist_13 rfl ?_
      refine rb_getR hC fr_X7_18_7 (rb_obPole hk0) rfl dX7_twist_14 ?_
      refine rb_iload_n hC 2 dX7_twist_17 rfl ?_
      obtain ⟨g2, h⟩ := rb_gd h
      refine rb_iald hC (rb_arPole3 hk0) (rb_ibI g2) dX7_twist_18 ?_
      refine rb_callSi hC rb_VokX mv_X7_73 (xc_Pole_letterIn (σ.1 (k0 + 3) x2.toNatClampNeg) σ _ rfl) [.int (σ.1 (k0 + 3) x2.toNatClampNeg)] rfl rfl rfl ⟨Nat.le_of_ble_eq_true rfl, Nat.le_of_ble_eq_true rfl⟩ (Nat.le_of_ble_eq_true rfl) dX7_twist_19 ?_
      refine rb_iconst (x := 1) hC dX7_twist_22 (by decide) ?_
      refine rb_iand hC dX7_twist_23 ?_
      refine rb_if_ne hC 31 dX7_twist_24 (by decide) (fun c3 => ?_) (fun c3 => ?_)
      · replace h := rb_ifn c3 h
        refine rb_iconst (x := (-1)) hC dX7_twist_31 (by decide) ?_
        refine rb_iadd hC dX7_twist_32 ?_
        refine rb_istore_n hC [(1, .int (x1 + (-1))), (0, .ref (rb_ad w k0)), (2, .int x2)] dX7_twist_33 (by decide) rfl ?_
        refine rb_iinc hC 2 [(2, .int (x2 + 1)), (1, .int (x1 + (-1))), (0, .ref (rb_ad w k0))] dX7_twist_34 rfl rfl (by decide) rfl ?_
        refine rb_goto hC 4 dX7_twist_37 (by decide) ?_
        exact rb_sub [2, 1, 0] rfl (ih (x1 + (-1)) (x2 + 1) _ h hE0)
      · replace h := rb_ifp c3 h
        refine rb_iconst (x := 1) hC dX7_twist_27 (by decide) ?_
        refine rb_goto hC 32 dX7_twist_28 (by decide) ?_
        refine rb_iadd hC dX7_twist_32 ?_
        refine rb_istore_n hC [(1, .int (x1 + 1)), (0, .ref (rb_ad w k0)), (2, .int x2)] dX7_twist_33 (by decide) rfl ?_
        refine rb_iinc hC 2 [(2, .int (x2 + 1)), (1, .int (x1 + 1)), (0, .ref (rb_ad w k0))] dX7_twist_34 rfl rfl (by decide) rfl ?_
        refine rb_goto hC 4 dX7_twist_37 (by decide) ?_
        exact rb_sub [2, 1, 0] rfl (ih (x1 + 1) (x2 + 1) _ h hE0)
def xf_Pole_twist (k0 : Nat) (σ : rb_St) : Option Int32 := rb_b1 (xl_Pole_twist_4 k0 σ rb_FU 0 0) fun y4 => some y4
set_option maxHeartbeats 4000000 in
set_option maxRecDepth 100000 in
theorem xk_Pole_twist {z : rb_Z} {w : rb_Wd} (hC : rb_Cx z rb_vX w RX7 cX7_twist 3 (some .int) 1) (k0 : Nat) (hk0 : rb_isPole k0) (σ : rb_St) (r : Int32) (h : xf_Pole_twist k0 σ = some r) : rb_At z rb_vX w 3 (rb_Q z rb_vX w (some (.int r)) σ) 0 [(0, .ref (rb_ad w k0))] [] σ := by
  unfold xf_Pole_twist at h
  refine rb_iconst (x := 0) hC dX7_twist_0 (by decide) ?_
  refine rb_istore_n hC [(1, .int 0), (0, .ref (rb_ad w k0))] dX7_twist_1 (by decide) rfl ?_
  refine rb_iconst (x := 0) hC dX7_twist_2 (by decide) ?_
  refine rb_istore_n hC [(2, .int 0), (1, .int 0), (0, .ref (rb_ad w k0))] dX7_twist_3 (by decide) rfl ?_
  obtain ⟨y4, q5, h⟩ := rb_b1s h
  refine rb_sub (lv2 := [(0, .ref (rb_ad w k0)), (1, .int 0), (2, .int 0)]) [2, 1, 0] rfl ?_
  refine xt_Pole_twist_4 hC k0 hk0 σ rb_FU 0 0 _ q5 ?_
  refine rb_iload_n hC 0 dX7_twist_40 rfl ?_
  cases h
  exact rb_iret hC dX7_twist_41
theorem xc_Pole_twist (k0 : Nat) (hk0 : rb_isPole k0) (σ : rb_St) (r : Int32) (h : xf_Pole_twist k0 σ = some r) : rb_Con rb_vX yX7_twist cX7_twist 3 (some .int) 1 (fun w => [.ref (rb_ad w k0)]) σ (fun _ => (some (.int r))) σ := rb_Con.of (by decide +kernel) (fun _ => Nat.le_of_ble_eq_true rfl) (fun z w hC => xk_Pole_twist hC k0 hk0 σ r h)
def xl_Pole_orderOfAll_4 (k0 : Nat) (σ : rb_St) : Nat → Int32 → Int32 → Option (Int32)
  | 0, _, _ => none
  | n + 1, x1, x2 => if (σ.1 k0 0) ≤ x2 then some x1 else if rb_ib x2 8 then rb_lt ((10 * x1) + (σ.1 (k0 + 1) x2.toNatClampNeg)) (fun v3 => xl_Pole_orderOfAll_4 k0 σ n v3 (x2 + 1)) else none
set_option maxHeartbeats 4000000 in
set_option maxRecDepth 100000 in
theorem xt_Pole_orderOfAll_4 {z : rb_Z} {w : rb_Wd} {Q : State → Prop} (hC : rb_Cx z rb_vX w RX7 cX7_orderOfAll 3 (some .int) 0) (k0 : Nat) (hk0 : rb_isPole k0) (σ : rb_St) : ∀ (n : Nat) (x1 : Int32) (x2 : Int32) (y1 : Int32), xl_Pole_orderOfAll_4 k0 σ n x1 x2 = some y1 → rb_At z rb_vX w 3 Q 30 [(1, .int y1)] [] σ → rb_At z rb_vX w 3 Q 4 [(0, .ref (rb_ad w k0)), (1, .int x1), (2, .int x2)] [] σ := by
  intro n
  induction n with
  | zero =>
    intro x1 x2 y1 h hE0
    cases h
  | succ n ih =>
    intro x1 x2 y1 h hE0
    rw [xl_Pole_orderOfAll_4] at h
    refine rb_iload_n hC 2 dX7_orderOfAll_4 rfl ?_
    refine rb_aload_n hC 0 dX7_orderOfAll_5 rfl ?_
    refine rb_getI hC fr_X7_30_7 (rb_obPole hk0) rfl dX7_orderOfAll_6 ?_
    refine rb_icmp_ge hC 30 dX7_orderOfAll_9 (by decide) (fun c1 => ?_) (fun c1 => ?_)
    · replace h := rb_ifp c1 h
      cases h
      exact rb_sub [1] rfl (hE0)
    · replace h := rb_ifn c1 h
      refine rb_bipush (x := 10) hC dX7_orderOfAll_12 (by decide) ?_
      refine rb_iload_n hC 1 dX7_orderOfAll_14 rfl ?_
      refine rb_imul hC dX7_orderOfAll_15 ?_
      refine rb_aload_n hC 0 dX7_orderOfAll_16 rfl ?_
      refine rb_getR hC fr_X7_9_7 (rb_obPole hk0) rfl dX7_orderOfAll_17 ?_
      refine rb_iload_n hC 2 dX7_orderOfAll_20 rfl ?_
      obtain ⟨g2, h⟩ := rb_gd h
      refine rb_iald hC (rb_arPole1 hk0) (rb_ibI g2) dX7_orderOfAll_21 ?_
      refine rb_iadd hC dX7_orderOfAll_22 ?_
      obtain ⟨v3, e4, h⟩ := rb_ltE h
      refine rb_nmI e4 ?_
      refine rb_istore_n hC [(1, .int v3), (0, .ref (rb_ad w k0)), (2, .int x2)] dX7_orderOfAll_23 (by decide) rfl ?_
      refine rb_iinc hC 2 [(2, .int (x2 + 1)), (1, .int v3), (0, .ref (rb_ad w k0))] dX7_orderOfAll_24 rfl rfl (by decide) rfl ?_
      refine rb_goto hC 4 dX7_orderOfAll_27 (by decide) ?_
      exact rb_sub [2, 1, 0] rfl (ih v3 (x2 + 1) _ h hE0)
def xf_Pole_orderOfAll (k0 : Nat) (σ : rb_St) : Option Int32 := rb_b1 (xl_Pole_orderOfAll_4 k0 σ rb_FU 0 0) fun y5 => some y5
set_option maxHeartbeats 4000000 in
set_option maxRecDepth 100000 in
theorem xk_Pole_orderOfAll {z : rb_Z} {w : rb_Wd} (hC : rb_Cx z rb_vX w RX7 cX7_orderOfAll 3 (some .int) 0) (k0 : Nat) (hk0 : rb_isPole k0) (σ : rb_St) (r : Int32) (h : xf_Pole_orderOfAll k0 σ = some r) : rb_At z rb_vX w 3 (rb_Q z rb_vX w (some (.int r)) σ) 0 [(0, .ref (rb_ad w k0))] [] σ := by
  unfold xf_Pole_orderOfAll at h
  refine rb_iconst (x := 0) hC dX7_orderOfAll_0 (by decide) ?_
  refine rb_istore_n hC [(1, .int 0), (0, .ref (rb_ad w k0))] dX7_orderOfAll_1 (by decide) rfl ?_
  refine rb_iconst (x := 0) hC dX7_orderOfAll_2 (by decide) ?_
  refine rb_istore_n hC [(2, .int 0), (1, .int 0), (0, .ref (rb_ad w k0))] dX7_orderOfAll_3 (by decide) rfl ?_
  obtain ⟨y5, q6, h⟩ := rb_b1s h
  refine rb_sub (lv2 := [(0, .ref (rb_ad w k0)), (1, .int 0), (2, .int 0)]) [2, 1, 0] rfl ?_
  refine xt_Pole_orderOfAll_4 hC k0 hk0 σ rb_FU 0 0 _ q6 ?_
  refine rb_iload_n hC 0 dX7_orderOfAll_30 rfl ?_
  cases h
  exact rb_iret hC dX7_orderOfAll_31
theorem xc_Pole_orderOfAll (k0 : Nat) (hk0 : rb_isPole k0) (σ : rb_St) (r : Int32) (h : xf_Pole_orderOfAll k0 σ = some r) : rb_Con rb_vX yX7_orderOfAll cX7_orderOfAll 3 (some .int) 0 (fun w => [.ref (rb_ad w k0)]) σ (fun _ => (some (.int r))) σ := rb_Con.of (by decide +kernel) (fun _ => Nat.le_of_ble_eq_true rfl) (fun z w hC => xk_Pole_orderOfAll hC k0 hk0 σ r h)
def xl_Pole_freeDancers_11 (k0 : Nat) (σ : rb_St) : Nat → Int32 → Int32 → Option (Int32)
  | 0, _, _ => none
  | n + 1, x1, x2 => if (σ.1 k0 1) ≤ x2 then some x1 else if rb_ib x2 48 then rb_lt (x1 &&& (((1 <<< ((xf_Pole_overIn (σ.1 (k0 + 3) x2.toNatClampNeg) σ) &&& 31)) ||| (1 <<< ((xf_Pole_underIn (σ.1 (k0 + 3) x2.toNatClampNeg) σ) &&& 31))) ^^^ (-1))) (fun v5 => xl_Pole_freeDancers_11 k0 σ n v5 (x2 + 1)) else none
set_option maxHeartbeats 4000000 in
set_option maxRecDepth 100000 in
theorem xt_Pole_freeDancers_11 {z : rb_Z} {w : rb_Wd} {Q : State → Prop} (hC : rb_Cx z rb_vX w RX7 cX7_freeDancers 3 (some .int) 1) (k0 : Nat) (hk0 : rb_isPole k0) (σ : rb_St) : ∀ (n : Nat) (x1 : Int32) (x2 : Int32) (y1 : Int32), xl_Pole_freeDancers_11 k0 σ n x1 x2 = some y1 → rb_At z rb_vX w 3 Q 53 [(1, .int y1)] [] σ → rb_At z rb_vX w 3 Q 11 [(0, .ref (rb_ad w k0)), (1, .int x1), (2, .int x2)] [] σ := by
  intro n
  induction n with
  | zero =>
    intro x1 x2 y1 h hE0
    cases h
  | succ n ih =>
    intro x1 x2 y1 h hE0
    rw [xl_Pole_freeDancers_11] at h
    refine rb_iload_n hC 2 dX7_freeDancers_11 rfl ?_
    refine rb_aload_n hC 0 dX7_freeDancers_12 rfl ?_
    refine rb_getI hC fr_X7_33_7 (rb_obPole hk0) rfl dX7_freeDancers_13 ?_
    refine rb_icmp_ge hC 53 dX7_freeDancers_16 (by decide) (fun c3 => ?_) (fun c3 => ?_)
    · replace h := rb_ifp c3 h
      cases h
      exact rb_sub [1] rfl (hE0)
    · replace h := rb_ifn c3 h
      refine rb_iload_n hC 1 dX7_freeDancers_19 rfl ?_
      refine rb_iconst (x := 1) hC dX7_freeDancers_20 (by decide) ?_
      refine rb_aload_n hC 0 dX7_freeDancers_21 rfl ?_
      refine rb_getR hC fr_X7_18_7 (rb_obPole hk0) rfl dX7_freeDancers_22 ?_
      refine rb_iload_n hC 2 dX7_freeDancers_25 rfl ?_
      obtain ⟨g4, h⟩ := rb_gd h
      refine rb_iald hC (rb_arPole3 hk0) (rb_ibI g4) dX7_freeDancers_26 ?_
      refine rb_callSi hC rb_VokX mv_X7_127 (xc_Pole_overIn (σ.1 (k0 + 3) x2.toNatClampNeg) σ _ rfl) [.int (σ.1 (k0 + 3) x2.toNatClampNeg)] rfl rfl rfl ⟨Nat.le_of_ble_eq_true rfl, Nat.le_of_ble_eq_true rfl⟩ (Nat.le_of_ble_eq_true rfl) dX7_freeDancers_27 ?_
      refine rb_ishl hC dX7_freeDancers_30 ?_
      refine rb_iconst (x := 1) hC dX7_freeDancers_31 (by decide) ?_
      refine rb_aload_n hC 0 dX7_freeDancers_32 rfl ?_
      refine rb_getR hC fr_X7_18_7 (rb_obPole hk0) rfl dX7_freeDancers_33 ?_
      refine rb_iload_n hC 2 dX7_freeDancers_36 rfl ?_
      refine rb_iald hC (rb_arPole3 hk0) (rb_ibI g4) dX7_freeDancers_37 ?_
      refine rb_callSi hC rb_VokX mv_X7_130 (xc_Pole_underIn (σ.1 (k0 + 3) x2.toNatClampNeg) σ _ rfl) [.int (σ.1 (k0 + 3) x2.toNatClampNeg)] rfl rfl rfl ⟨Nat.le_of_ble_eq_true rfl, Nat.le_of_ble_eq_true rfl⟩ (Nat.le_of_ble_eq_true rfl) dX7_freeDancers_38 ?_
      refine rb_ishl hC dX7_freeDancers_41 ?_
      refine rb_ior hC dX7_freeDancers_42 ?_
      refine rb_iconst (x := (-1)) hC dX7_freeDancers_43 (by decide) ?_
      refine rb_ixor hC dX7_freeDancers_44 ?_
      refine rb_iand hC dX7_freeDancers_45 ?_
      obtain ⟨v5, e6, h⟩ := rb_ltE h
      refine rb_nmI e6 ?_
      refine rb_istore_n hC [(1, .int v5), (0, .ref (rb_ad w k0)), (2, .int x2)] dX7_freeDancers_46 (by decide) rfl ?_
      refine rb_iinc hC 2 [(2, .int (x2 + 1)), (1, .int v5), (0, .ref (rb_ad w k0))] dX7_freeDancers_47 rfl rfl (by decide) rfl ?_
      refine rb_goto hC 11 dX7_freeDancers_50 (by decide) ?_
      exact rb_sub [2, 1, 0] rfl (ih v5 (x2 + 1) _ h hE0)
def xf_Pole_freeDancers (k0 : Nat) (σ : rb_St) : Option Int32 := rb_lt ((1 <<< ((σ.1 k0 0) &&& 31)) - 1) (fun v1 => rb_b1 (xl_Pole_freeDancers_11 k0 σ rb_FU v1 0) fun y7 => some y7)
set_option maxHeartbeats 4000000 in
set_option maxRecDepth 100000 in
theorem xk_Pole_freeDancers {z : rb_Z} {w : rb_Wd} (hC : rb_Cx z rb_vX w RX7 cX7_freeDancers 3 (some .int) 1) (k0 : Nat) (hk0 : rb_isPole k0) (σ : rb_St) (r : Int32) (h : xf_Pole_freeDancers k0 σ = some r) : rb_At z rb_vX w 3 (rb_Q z rb_vX w (some (.int r)) σ) 0 [(0, .ref (rb_ad w k0))] [] σ := by
  unfold xf_Pole_freeDancers at h
  refine rb_iconst (x := 1) hC dX7_freeDancers_0 (by decide) ?_
  refine rb_aload_n hC 0 dX7_freeDancers_1 rfl ?_
  refine rb_getI hC fr_X7_30_7 (rb_obPole hk0) rfl dX7_freeDancers_2 ?_
  refine rb_ishl hC dX7_freeDancers_5 ?_
  refine rb_iconst (x := 1) hC dX7_freeDancers_6 (by decide) ?_
  refine rb_isub hC dX7_freeDancers_7 ?_
  obtain ⟨v1, e2, h⟩ := rb_ltE h
  refine rb_nmI e2 ?_
  refine rb_istore_n hC [(1, .int v1), (0, .ref (rb_ad w k0))] dX7_freeDancers_8 (by decide) rfl ?_
  refine rb_iconst (x := 0) hC dX7_freeDancers_9 (by decide) ?_
  refine rb_istore_n hC [(2, .int 0), (1, .int v1), (0, .ref (rb_ad w k0))] dX7_freeDancers_10 (by decide) rfl ?_
  obtain ⟨y7, q8, h⟩ := rb_b1s h
  refine rb_sub (lv2 := [(0, .ref (rb_ad w k0)), (1, .int v1), (2, .int 0)]) [2, 1, 0] rfl ?_
  refine xt_Pole_freeDancers_11 hC k0 hk0 σ rb_FU v1 0 _ q8 ?_
  refine rb_iload_n hC 0 dX7_freeDancers_53 rfl ?_
  cases h
  exact rb_iret hC dX7_freeDancers_54
theorem xc_Pole_freeDancers (k0 : Nat) (hk0 : rb_isPole k0) (σ : rb_St) (r : Int32) (h : xf_Pole_freeDancers k0 σ = some r) : rb_Con rb_vX yX7_freeDancers cX7_freeDancers 3 (some .int) 1 (fun w => [.ref (rb_ad w k0)]) σ (fun _ => (some (.int r))) σ := rb_Con.of (by decide +kernel) (fun _ => Nat.le_of_ble_eq_true rfl) (fun z w hC => xk_Pole_freeDancers hC k0 hk0 σ r h)
def xl_Pole_atHome_4 (k0 : Nat) (σ : rb_St) : Nat → Int32 → Int32 → Option (Int32)
  | 0, _, _ => none
  | n + 1, x1, x2 => if (σ.1 k0 0) ≤ x2 then some x1 else if rb_ib x2 8 then if (σ.1 (k0 + 1) x2.toNatClampNeg) = x2 then xl_Pole_atHome_4 k0 σ n (x1 + 1) (x2 + 1) else xl_Pole_atHome_4 k0 σ n x1 (x2 + 1) else none
set_option maxHeartbeats 4000000 in
set_option maxRecDepth 100000 in
theorem xt_Pole_atHome_4 {z : rb_Z} {w : rb_Wd} {Q : State → Prop} (hC : rb_Cx z rb_vX w RX7 cX7_atHome 3 (some .int) 0) (k0 : Nat) (hk0 : rb_isPole k0) (σ : rb_St) : ∀ (n : Nat) (x1 : Int32) (x2 : Int32) (y1 : Int32), xl_Pole_atHome_4 k0 σ n x1 x2 = some y1 → rb_At z rb_vX w 3 Q 31 [(1, .int y1)] [] σ → rb_At z rb_vX w 3 Q 4 [(0, .ref (rb_ad w k0)), (1, .int x1), (2, .int x2)] [] σ := by
  intro n
  induction n with
  | zero =>
    intro x1 x2 y1 h hE0
    cases h
  | succ n ih =>
    intro x1 x2 y1 h hE0
    rw [xl_Pole_atHome_4] at h
    refine rb_iload_n hC 2 dX7_atHome_4 rfl ?_
    refine rb_aload_n hC 0 dX7_atHome_5 rfl ?_
    refine rb_getI hC fr_X7_30_7 (rb_obPole hk0) rfl dX7_atHome_6 ?_
    refine rb_icmp_ge hC 31 dX7_atHome_9 (by decide) (fun c1 => ?_) (fun c1 => ?_)
    · replace h := rb_ifp c1 h
      cases h
      exact rb_sub [1] rfl (hE0)
    · replace h := rb_ifn c1 h
      refine rb_aload_n hC 0 dX7_atHome_12 rfl ?_
      refine rb_getR hC fr_X7_9_7 (rb_obPole hk0) rfl dX7_atHome_13 ?_
      refine rb_iload_n hC 2 dX7_atHome_16 rfl ?_
      obtain ⟨g2, h⟩ := rb_gd h
      refine rb_iald hC (rb_arPole1 hk0) (rb_ibI g2) dX7_atHome_17 ?_
      refine rb_iload_n hC 2 dX7_atHome_18 rfl ?_
      refine rb_icmp_ne hC 25 dX7_atHome_19 (by decide) (fun c3 => ?_) (fun c3 => ?_)
      · replace h := rb_ifn c3 h
        refine rb_iinc hC 2 [(2, .int (x2 + 1)), (0, .ref (rb_ad w k0)), (1, .int x1)] dX7_atHome_25 rfl rfl (by decide) rfl ?_
        refine rb_goto hC 4 dX7_atHome_28 (by decide) ?_
        exact rb_sub [1, 2, 0] rfl (ih x1 (x2 + 1) _ h hE0)
      · replace h := rb_ifp c3 h
        refine rb_iinc hC 1 [(1, .int (x1 + 1)), (0, .ref (rb_ad w k0)), (2, .int x2)] dX7_atHome_22 rfl rfl (by decide) rfl ?_
        refine rb_iinc hC 2 [(2, .int (x2 + 1)), (1, .int (x1 + 1)), (0, .ref (rb_ad w k0))] dX7_atHome_25 rfl rfl (by decide) rfl ?_
        refine rb_goto hC 4 dX7_atHome_28 (by decide) ?_
        exact rb_sub [2, 1, 0] rfl (ih (x1 + 1) (x2 + 1) _ h hE0)
def xf_Pole_atHome (k0 : Nat) (σ : rb_St) : Option Int32 := rb_b1 (xl_Pole_atHome_4 k0 σ rb_FU 0 0) fun y4 => some y4
set_option maxHeartbeats 4000000 in
set_option maxRecDepth 100000 in
theorem xk_Pole_atHome {z : rb_Z} {w : rb_Wd} (hC : rb_Cx z rb_vX w RX7 cX7_atHome 3 (some .int) 0) (k0 : Nat) (hk0 : rb_isPole k0) (σ : rb_St) (r : Int32) (h : xf_Pole_atHome k0 σ = some r) : rb_At z rb_vX w 3 (rb_Q z rb_vX w (some (.int r)) σ) 0 [(0, .ref (rb_ad w k0))] [] σ := by
  unfold xf_Pole_atHome at h
  refine rb_iconst (x := 0) hC dX7_atHome_0 (by decide) ?_
  refine rb_istore_n hC [(1, .int 0), (0, .ref (rb_ad w k0))] dX7_atHome_1 (by decide) rfl ?_
  refine rb_iconst (x := 0) hC dX7_atHome_2 (by decide) ?_
  refine rb_istore_n hC [(2, .int 0), (1, .int 0), (0, .ref (rb_ad w k0))] dX7_atHome_3 (by decide) rfl ?_
  obtain ⟨y4, q5, h⟩ := rb_b1s h
  refine rb_sub (lv2 := [(0, .ref (rb_ad w k0)), (1, .int 0), (2, .int 0)]) [2, 1, 0] rfl ?_
  refine xt_Pole_atHome_4 hC k0 hk0 σ rb_FU 0 0 _ q5 ?_
  refine rb_iload_n hC 0 dX7_atHome_31 rfl ?_
  cases h
  exact rb_iret hC dX7_atHome_32
theorem xc_Pole_atHome (k0 : Nat) (hk0 : rb_isPole k0) (σ : rb_St) (r : Int32) (h : xf_Pole_atHome k0 σ = some r) : rb_Con rb_vX yX7_atHome cX7_atHome 3 (some .int) 0 (fun w => [.ref (rb_ad w k0)]) σ (fun _ => (some (.int r))) σ := rb_Con.of (by decide +kernel) (fun _ => Nat.le_of_ble_eq_true rfl) (fun z w hC => xk_Pole_atHome hC k0 hk0 σ r h)
theorem fr_X9_15_8 : rb_FR RX9 15 8 1 := ⟨RX9, TX9, 2, "RibbonPole$Tape", rfl, rb_uX9, by decide, rb_in (by decide +kernel) (by decide +kernel), Or.inl rfl⟩
theorem fr_X9_9_8 : rb_FR RX9 9 8 0 := ⟨RX9, TX9, 2, "RibbonPole$Tape", rfl, rb_uX9, by decide, rb_in (by decide +kernel) (by decide +kernel), Or.inl rfl⟩
theorem ft_8_1 : rb_Ty 8 1 .int := ⟨RX9, TX9, 2, tyX9, rfl, tyX9_ok, nmX9, rfl, by decide +kernel⟩
def xl_Tape_add_3 (x1 : Int32) : Nat → Int32 → rb_St → Option (rb_St)
  | 0, _, _ => none
  | n + 1, x2, σ => if x2 < 0 then some σ else rb_lt (((x1.toUInt32 >>> (x2.toUInt32 &&& Int32.toUInt32 31)).toInt32) &&& 255) (fun v2 => if v2 = 0 then xl_Tape_add_3 x1 n (x2 + (-8)) σ else if 240 ≤ (σ.1 1 1) then xl_Tape_add_3 x1 n (x2 + (-8)) σ else if rb_ib (σ.1 1 1) 240 then rb_lt (rb_sI σ 2 (σ.1 1 1).toNatClampNeg v2) (fun s7 => rb_lt (rb_sI s7 1 1 ((s7.1 1 1) + 1)) (fun s9 => xl_Tape_add_3 x1 n (x2 + (-8)) s9)) else none)
set_option maxHeartbeats 4000000 in
set_option maxRecDepth 100000 in
theorem xt_Tape_add_3 {z : rb_Z} {w : rb_Wd} {Q : State → Prop} (hC : rb_Cx z rb_vX w RX9 cX9_add 4 none 0) (x1 : Int32) : ∀ (n : Nat) (x2 : Int32) (σ : rb_St) (σ9 : rb_St), xl_Tape_add_3 x1 n x2 σ = some σ9 → rb_At z rb_vX w 4 Q 55 [] [] σ9 → rb_At z rb_vX w 4 Q 3 [(0, .ref (rb_ad w 1)), (1, .int x1), (2, .int x2)] [] σ := by
  intro n
  induction n with
  | zero =>
    intro x2 σ σ9 h hE0
    cases h
  | succ n ih =>
    intro x2 σ σ9 h hE0
    rw [xl_Tape_add_3] at h
    refine rb_iload_n hC 2 dX9_add_3 rfl ?_
    refine rb_if_lt hC 55 dX9_add_4 (by decide) (fun c1 => ?_) (fun c1 => ?_)
    · replace h := rb_ifp c1 h
      cases h
      exact rb_sub [] rfl (hE0)
    · replace h := rb_ifn c1 h
      refine rb_iload_n hC 1 dX9_add_7 rfl ?_
      refine rb_iload_n hC 2 dX9_add_8 rfl ?_
      refine rb_iushr hC dX9_add_9 ?_
      refine rb_sipush (x := 255) hC dX9_add_10 (by decide) ?_
      refine rb_iand hC dX9_add_13 ?_
      obtain ⟨v2, e3, h⟩ := rb_ltE h
      refine rb_nmI e3 ?_
      refine rb_istore_n hC [(3, .int v2), (0, .ref (rb_ad w 1)), (1, .int x1), (2, .int x2)] dX9_add_14 (by decide) rfl ?_
      refine rb_iload_n hC 0 dX9_add_15 rfl ?_
      refine rb_if_eq hC 49 dX9_add_16 (by decide) (fun c4 => ?_) (fun c4 => ?_)
      · replace h := rb_ifp c4 h
        refine rb_iinc hC 3 [(2, .int (x2 + (-8))), (3, .int v2), (0, .ref (rb_ad w 1)), (1, .int x1)] dX9_add_49 rfl rfl (by decide) rfl ?_
        refine rb_goto hC 3 dX9_add_52 (by decide) ?_
        exact rb_sub [2, 3, 0] rfl (ih (x2 + (-8)) σ _ h hE0)
      · replace h := rb_ifn c4 h
        refine rb_aload_n hC 1 dX9_add_19 rfl ?_
        refine rb_getI hC fr_X9_15_8 rb_obX1 rfl dX9_add_20 ?_
        refine rb_sipush (x := 240) hC dX9_add_23 (by decide) ?_
        refine rb_icmp_ge hC 49 dX9_add_26 (by decide) (fun c5 => ?_) (fun c5 => ?_)
        · replace h := rb_ifp c5 h
          refine rb_iinc hC 3 [(2, .int (x2 + (-8))), (3, .int v2), (0, .ref (rb_ad w 1)), (1, .int x1)] dX9_add_49 rfl rfl (by decide) rfl ?_
          refine rb_goto hC 3 dX9_add_52 (by decide) ?_
          exact rb_sub [2, 3, 0] rfl (ih (x2 + (-8)) σ _ h hE0)
        · replace h := rb_ifn c5 h
          refine rb_aload_n hC 1 dX9_add_29 rfl ?_
          refine rb_getR hC fr_X9_9_8 rb_obX1 rfl dX9_add_30 ?_
          refine rb_aload_n hC 1 dX9_add_33 rfl ?_
          refine rb_getI hC fr_X9_15_8 rb_obX1 rfl dX9_add_34 ?_
          refine rb_iload_n hC 0 dX9_add_37 rfl ?_
          obtain ⟨g6, h⟩ := rb_gd h
          refine rb_iast hC rb_arX2 (rb_ibI g6) dX9_add_38 ?_
          obtain ⟨s7, e8, h⟩ := rb_ltE h
          refine rb_nmS e8 ?_
          refine rb_aload_n hC 1 dX9_add_39 rfl ?_
          refine rb_dup hC dX9_add_40 rfl ?_
          refine rb_getI hC fr_X9_15_8 rb_obX1 rfl dX9_add_41 ?_
          refine rb_iconst (x := 1) hC dX9_add_44 (by decide) ?_
          refine rb_iadd hC dX9_add_45 ?_
          refine rb_putI hC fr_X9_15_8 ft_8_1 rb_obX1 rfl rfl rfl dX9_add_46 ?_
          obtain ⟨s9, e10, h⟩ := rb_ltE h
          refine rb_nmS e10 ?_
          refine rb_iinc hC 3 [(2, .int (x2 + (-8))), (3, .int v2), (0, .ref (rb_ad w 1)), (1, .int x1)] dX9_add_49 rfl rfl (by decide) rfl ?_
          refine rb_goto hC 3 dX9_add_52 (by decide) ?_
          exact rb_sub [2, 3, 0] rfl (ih (x2 + (-8)) s9 _ h hE0)
def xf_Tape_add (p0 : Int32) (σ : rb_St) : Option (rb_St) := rb_b1 (xl_Tape_add_3 p0 rb_FU 24 σ) fun s11 => some s11
set_option maxHeartbeats 4000000 in
set_option maxRecDepth 100000 in
theorem xk_Tape_add {z : rb_Z} {w : rb_Wd} (hC : rb_Cx z rb_vX w RX9 cX9_add 4 none 0) (p0 : Int32) (σ : rb_St) (σ9 : rb_St) (h : xf_Tape_add p0 σ = some σ9) : rb_At z rb_vX w 4 (rb_Q z rb_vX w none σ9) 0 [(0, .ref (rb_ad w 1)), (1, .int p0)] [] σ := by
  unfold xf_Tape_add at h
  refine rb_bipush (x := 24) hC dX9_add_0 (by decide) ?_
  refine rb_istore_n hC [(2, .int 24), (0, .ref (rb_ad w 1)), (1, .int p0)] dX9_add_2 (by decide) rfl ?_
  obtain ⟨s11, q12, h⟩ := rb_b1s h
  refine rb_sub (lv2 := [(0, .ref (rb_ad w 1)), (1, .int p0), (2, .int 24)]) [1, 2, 0] rfl ?_
  refine xt_Tape_add_3 hC p0 rb_FU 24 σ _ q12 ?_
  cases h
  exact rb_vret hC dX9_add_55
theorem xc_Tape_add (p0 : Int32) (σ : rb_St) (σ9 : rb_St) (h : xf_Tape_add p0 σ = some σ9) : rb_Con rb_vX yX9_add cX9_add 4 none 0 (fun w => [.ref (rb_ad w 1), .int p0]) σ (fun _ => none) σ9 := rb_Con.of (by decide +kernel) (fun _ => Nat.le_of_ble_eq_true rfl) (fun z w hC => xk_Tape_add hC p0 σ σ9 h)
def xf_Tape_signAt (p0 : Int32) (σ : rb_St) : Option Int32 := if p0 < 0 then some (-1) else if (σ.1 1 1) ≤ p0 then some (-1) else if rb_ib p0 240 then some (σ.1 2 p0.toNatClampNeg) else none
set_option maxHeartbeats 4000000 in
set_option maxRecDepth 100000 in
theorem xk_Tape_signAt {z : rb_Z} {w : rb_Wd} (hC : rb_Cx z rb_vX w RX9 cX9_signAt 2 (some .int) 0) (p0 : Int32) (σ : rb_St) (r : Int32) (h : xf_Tape_signAt p0 σ = some r) : rb_At z rb_vX w 2 (rb_Q z rb_vX w (some (.int r)) σ) 0 [(0, .ref (rb_ad w 1)), (1, .int p0)] [] σ := by
  unfold xf_Tape_signAt at h
  refine rb_iload_n hC 1 dX9_signAt_0 rfl ?_
  refine rb_if_lt hC 21 dX9_signAt_1 (by decide) (fun c1 => ?_) (fun c1 => ?_)
  · replace h := rb_ifp c1 h
    refine rb_iconst (x := (-1)) hC dX9_signAt_21 (by decide) ?_
    cases h
    exact rb_iret hC dX9_signAt_22
  · replace h := rb_ifn c1 h
    refine rb_iload_n hC 1 dX9_signAt_4 rfl ?_
    refine rb_aload_n hC 0 dX9_signAt_5 rfl ?_
    refine rb_getI hC fr_X9_15_8 rb_obX1 rfl dX9_signAt_6 ?_
    refine rb_icmp_ge hC 21 dX9_signAt_9 (by decide) (fun c2 => ?_) (fun c2 => ?_)
    · replace h := rb_ifp c2 h
      refine rb_iconst (x := (-1)) hC dX9_signAt_21 (by decide) ?_
      cases h
      exact rb_iret hC dX9_signAt_22
    · replace h := rb_ifn c2 h
      refine rb_aload_n hC 0 dX9_signAt_12 rfl ?_
      refine rb_getR hC fr_X9_9_8 rb_obX1 rfl dX9_signAt_13 ?_
      refine rb_iload_n hC 1 dX9_signAt_16 rfl ?_
      obtain ⟨g3, h⟩ := rb_gd h
      refine rb_iald hC rb_arX2 (rb_ibI g3) dX9_signAt_17 ?_
      refine rb_goto hC 22 dX9_signAt_18 (by decide) ?_
      cases h
      exact rb_iret hC dX9_signAt_22
theorem xc_Tape_signAt (p0 : Int32) (σ : rb_St) (r : Int32) (h : xf_Tape_signAt p0 σ = some r) : rb_Con rb_vX yX9_signAt cX9_signAt 2 (some .int) 0 (fun w => [.ref (rb_ad w 1), .int p0]) σ (fun _ => (some (.int r))) σ := rb_Con.of (by decide +kernel) (fun _ => Nat.le_of_ble_eq_true rfl) (fun z w hC => xk_Tape_signAt hC p0 σ r h)
def xl_Tape_bytesIn_5 (x0 : Int32) (σ : rb_St) : Nat → Int32 → Int32 → Option (Int32)
  | 0, _, _ => none
  | n + 1, x1, x2 => if x2 < 0 then some x1 else if (((x0.toUInt32 >>> (x2.toUInt32 &&& Int32.toUInt32 31)).toInt32) &&& 255) = 0 then xl_Tape_bytesIn_5 x0 σ n x1 (x2 + (-8)) else xl_Tape_bytesIn_5 x0 σ n (x1 + 1) (x2 + (-8))
set_option maxHeartbeats 4000000 in
set_option maxRecDepth 100000 in
theorem xt_Tape_bytesIn_5 {z : rb_Z} {w : rb_Wd} {Q : State → Prop} (hC : rb_Cx z rb_vX w RX9 cX9_bytesIn 3 (some .int) 0) (x0 : Int32) (σ : rb_St) : ∀ (n : Nat) (x1 : Int32) (x2 : Int32) (y1 : Int32), xl_Tape_bytesIn_5 x0 σ n x1 x2 = some y1 → rb_At z rb_vX w 3 Q 28 [(1, .int y1)] [] σ → rb_At z rb_vX w 3 Q 5 [(0, .int x0), (1, .int x1), (2, .int x2)] [] σ := by
  intro n
  induction n with
  | zero =>
    intro x1 x2 y1 h hE0
    cases h
  | succ n ih =>
    intro x1 x2 y1 h hE0
    rw [xl_Tape_bytesIn_5] at h
    refine rb_iload_n hC 2 dX9_bytesIn_5 rfl ?_
    refine rb_if_lt hC 28 dX9_bytesIn_6 (by decide) (fun c1 => ?_) (fun c1 => ?_)
    · replace h := rb_ifp c1 h
      cases h
      exact rb_sub [1] rfl (hE0)
    · replace h := rb_ifn c1 h
      refine rb_iload_n hC 0 dX9_bytesIn_9 rfl ?_
      refine rb_iload_n hC 2 dX9_bytesIn_10 rfl ?_
      refine rb_iushr hC dX9_bytesIn_11 ?_
      refine rb_sipush (x := 255) hC dX9_bytesIn_12 (by decide) ?_
      refine rb_iand hC dX9_bytesIn_15 ?_
      refine rb_if_eq hC 22 dX9_bytesIn_16 (by decide) (fun c2 => ?_) (fun c2 => ?_)
      · replace h := rb_ifp c2 h
        refine rb_iinc hC 2 [(2, .int (x2 + (-8))), (0, .int x0), (1, .int x1)] dX9_bytesIn_22 rfl rfl (by decide) rfl ?_
        refine rb_goto hC 5 dX9_bytesIn_25 (by decide) ?_
        exact rb_sub [1, 2, 0] rfl (ih x1 (x2 + (-8)) _ h hE0)
      · replace h := rb_ifn c2 h
        refine rb_iinc hC 1 [(1, .int (x1 + 1)), (0, .int x0), (2, .int x2)] dX9_bytesIn_19 rfl rfl (by decide) rfl ?_
        refine rb_iinc hC 2 [(2, .int (x2 + (-8))), (1, .int (x1 + 1)), (0, .int x0)] dX9_bytesIn_22 rfl rfl (by decide) rfl ?_
        refine rb_goto hC 5 dX9_bytesIn_25 (by decide) ?_
        exact rb_sub [2, 1, 0] rfl (ih (x1 + 1) (x2 + (-8)) _ h hE0)
def xf_Tape_bytesIn (p0 : Int32) (σ : rb_St) : Option Int32 := rb_b1 (xl_Tape_bytesIn_5 p0 σ rb_FU 0 24) fun y3 => some y3
set_option maxHeartbeats 4000000 in
set_option maxRecDepth 100000 in
theorem xk_Tape_bytesIn {z : rb_Z} {w : rb_Wd} (hC : rb_Cx z rb_vX w RX9 cX9_bytesIn 3 (some .int) 0) (p0 : Int32) (σ : rb_St) (r : Int32) (h : xf_Tape_bytesIn p0 σ = some r) : rb_At z rb_vX w 3 (rb_Q z rb_vX w (some (.int r)) σ) 0 [(0, .int p0)] [] σ := by
  unfold xf_Tape_bytesIn at h
  refine rb_iconst (x := 0) hC dX9_bytesIn_0 (by decide) ?_
  refine rb_istore_n hC [(1, .int 0), (0, .int p0)] dX9_bytesIn_1 (by decide) rfl ?_
  refine rb_bipush (x := 24) hC dX9_bytesIn_2 (by decide) ?_
  refine rb_istore_n hC [(2, .int 24), (1, .int 0), (0, .int p0)] dX9_bytesIn_4 (by decide) rfl ?_
  obtain ⟨y3, q4, h⟩ := rb_b1s h
  refine rb_sub (lv2 := [(0, .int p0), (1, .int 0), (2, .int 24)]) [2, 1, 0] rfl ?_
  refine xt_Tape_bytesIn_5 hC p0 σ rb_FU 0 24 _ q4 ?_
  refine rb_iload_n hC 0 dX9_bytesIn_28 rfl ?_
  cases h
  exact rb_iret hC dX9_bytesIn_29
theorem xc_Tape_bytesIn (p0 : Int32) (σ : rb_St) (r : Int32) (h : xf_Tape_bytesIn p0 σ = some r) : rb_Con rb_vX yX9_bytesIn cX9_bytesIn 3 (some .int) 0 (fun w => [.int p0]) σ (fun _ => (some (.int r))) σ := rb_Con.of (by decide +kernel) (fun _ => Nat.le_of_ble_eq_true rfl) (fun z w hC => xk_Tape_bytesIn hC p0 σ r h)
theorem fr_X8_15_4 : rb_FR RX8 15 4 1 := ⟨RX4, TX4, 4, "RibbonPole$Reader", rfl, rb_uX4, by decide, rb_in (by decide +kernel) (by decide +kernel), Or.inl rfl⟩
theorem fr_X8_9_4 : rb_FR RX8 9 4 0 := ⟨RX4, TX4, 4, "RibbonPole$Reader", rfl, rb_uX4, by decide, rb_in (by decide +kernel) (by decide +kernel), Or.inl rfl⟩
theorem fr_X8_19_8 : rb_FR RX8 19 8 1 := ⟨RX9, TX9, 2, "RibbonPole$Tape", rfl, rb_uX9, by decide, rb_in (by decide +kernel) (by decide +kernel), Or.inl rfl⟩
theorem fr_X8_24_8 : rb_FR RX8 24 8 0 := ⟨RX9, TX9, 2, "RibbonPole$Tape", rfl, rb_uX9, by decide, rb_in (by decide +kernel) (by decide +kernel), Or.inl rfl⟩
theorem ft_4_1 : rb_Ty 4 1 .int := ⟨RX4, TX4, 4, tyX4, rfl, tyX4_ok, nmX4, rfl, by decide +kernel⟩
def xl_Rd_nextSignG_0  : Nat → rb_St → Option (rb_St)
  | 0, _ => none
  | n + 1, σ => if (σ.1 1 1) ≤ (σ.1 3 1) then some σ else if rb_ib (σ.1 3 1) 240 then if (σ.1 2 (σ.1 3 1).toNatClampNeg) = 32 then rb_lt (rb_sI σ 3 1 ((σ.1 3 1) + 1)) (fun s4 => xl_Rd_nextSignG_0 n s4) else some σ else none
set_option maxHeartbeats 4000000 in
set_option maxRecDepth 100000 in
theorem xt_Rd_nextSignG_0 {z : rb_Z} {w : rb_Wd} {Q : State → Prop} (hC : rb_Cx z rb_vX w RX8 cX8_nextSign 1 (some .int) 0)  : ∀ (n : Nat) (σ : rb_St) (σ9 : rb_St), xl_Rd_nextSignG_0 n σ = some σ9 → rb_At z rb_vX w 1 Q 44 [(0, .ref (rb_ad w 3))] [] σ9 → rb_At z rb_vX w 1 Q 0 [(0, .ref (rb_ad w 3))] [] σ := by
  intro n
  induction n with
  | zero =>
    intro σ σ9 h hE0
    cases h
  | succ n ih =>
    intro σ σ9 h hE0
    rw [xl_Rd_nextSignG_0] at h
    refine rb_aload_n hC 0 dX8_nextSign_0 rfl ?_
    refine rb_getI hC fr_X8_15_4 rb_obX3 rfl dX8_nextSign_1 ?_
    refine rb_aload_n hC 0 dX8_nextSign_4 rfl ?_
    refine rb_getR hC fr_X8_9_4 rb_obX3 rfl dX8_nextSign_5 ?_
    refine rb_getI hC fr_X8_19_8 rb_obX1 rfl dX8_nextSign_8 ?_
    refine rb_icmp_ge hC 44 dX8_nextSign_11 (by decide) (fun c1 => ?_) (fun c1 => ?_)
    · replace h := rb_ifp c1 h
      cases h
      exact rb_sub [0] rfl (hE0)
    · replace h := rb_ifn c1 h
      refine rb_aload_n hC 0 dX8_nextSign_14 rfl ?_
      refine rb_getR hC fr_X8_9_4 rb_obX3 rfl dX8_nextSign_15 ?_
      refine rb_getR hC fr_X8_24_8 rb_obX1 rfl dX8_nextSign_18 ?_
      refine rb_aload_n hC 0 dX8_nextSign_21 rfl ?_
      refine rb_getI hC fr_X8_15_4 rb_obX3 rfl dX8_nextSign_22 ?_
      obtain ⟨g2, h⟩ := rb_gd h
      refine rb_iald hC rb_arX2 (rb_ibI g2) dX8_nextSign_25 ?_
      refine rb_bipush (x := 32) hC dX8_nextSign_26 (by decide) ?_
      refine rb_icmp_ne hC 44 dX8_nextSign_28 (by decide) (fun c3 => ?_) (fun c3 => ?_)
      · replace h := rb_ifn c3 h
        cases h
        exact rb_sub [0] rfl (hE0)
      · replace h := rb_ifp c3 h
        refine rb_aload_n hC 0 dX8_nextSign_31 rfl ?_
        refine rb_dup hC dX8_nextSign_32 rfl ?_
        refine rb_getI hC fr_X8_15_4 rb_obX3 rfl dX8_nextSign_33 ?_
        refine rb_iconst (x := 1) hC dX8_nextSign_36 (by decide) ?_
        refine rb_iadd hC dX8_nextSign_37 ?_
        refine rb_putI hC fr_X8_15_4 ft_4_1 rb_obX3 rfl rfl rfl dX8_nextSign_38 ?_
        obtain ⟨s4, e5, h⟩ := rb_ltE h
        refine rb_nmS e5 ?_
        refine rb_goto hC 0 dX8_nextSign_41 (by decide) ?_
        exact rb_sub [0] rfl (ih s4 _ h hE0)
def xj_Rd_nextSignG_44  (σ : rb_St) : Option (Int32 × rb_St) := if (σ.1 1 1) ≤ (σ.1 3 1) then some ((-1), σ) else if rb_ib (σ.1 3 1) 240 then some (σ.1 2 (σ.1 3 1).toNatClampNeg, σ) else none
set_option maxHeartbeats 4000000 in
set_option maxRecDepth 100000 in
theorem xu_Rd_nextSignG_44 {z : rb_Z} {w : rb_Wd} (hC : rb_Cx z rb_vX w RX8 cX8_nextSign 1 (some .int) 0)  (σ : rb_St) (r : Int32) (σ9 : rb_St) (h : xj_Rd_nextSignG_44 σ = some (r, σ9)) : rb_At z rb_vX w 1 (rb_Q z rb_vX w (some (.int r)) σ9) 44 [(0, .ref (rb_ad w 3))] [] σ := by
  unfold xj_Rd_nextSignG_44 at h
  refine rb_aload_n hC 0 dX8_nextSign_44 rfl ?_
  refine rb_getI hC fr_X8_15_4 rb_obX3 rfl dX8_nextSign_45 ?_
  refine rb_aload_n hC 0 dX8_nextSign_48 rfl ?_
  refine rb_getR hC fr_X8_9_4 rb_obX3 rfl dX8_nextSign_49 ?_
  refine rb_getI hC fr_X8_19_8 rb_obX1 rfl dX8_nextSign_52 ?_
  refine rb_icmp_ge hC 73 dX8_nextSign_55 (by decide) (fun c8 => ?_) (fun c8 => ?_)
  · replace h := rb_ifp c8 h
    refine rb_iconst (x := (-1)) hC dX8_nextSign_73 (by decide) ?_
    cases h
    exact rb_iret hC dX8_nextSign_74
  · replace h := rb_ifn c8 h
    refine rb_aload_n hC 0 dX8_nextSign_58 rfl ?_
    refine rb_getR hC fr_X8_9_4 rb_obX3 rfl dX8_nextSign_59 ?_
    refine rb_getR hC fr_X8_24_8 rb_obX1 rfl dX8_nextSign_62 ?_
    refine rb_aload_n hC 0 dX8_nextSign_65 rfl ?_
    refine rb_getI hC fr_X8_15_4 rb_obX3 rfl dX8_nextSign_66 ?_
    obtain ⟨g9, h⟩ := rb_gd h
    refine rb_iald hC rb_arX2 (rb_ibI g9) dX8_nextSign_69 ?_
    refine rb_goto hC 74 dX8_nextSign_70 (by decide) ?_
    cases h
    exact rb_iret hC dX8_nextSign_74
def xf_Rd_nextSignG  (σ : rb_St) : Option (Int32 × rb_St) := rb_b1 (xl_Rd_nextSignG_0 rb_FU σ) fun s6 => xj_Rd_nextSignG_44 s6
set_option maxHeartbeats 4000000 in
set_option maxRecDepth 100000 in
theorem xk_Rd_nextSignG {z : rb_Z} {w : rb_Wd} (hC : rb_Cx z rb_vX w RX8 cX8_nextSign 1 (some .int) 0)  (σ : rb_St) (r : Int32) (σ9 : rb_St) (h : xf_Rd_nextSignG σ = some (r, σ9)) : rb_At z rb_vX w 1 (rb_Q z rb_vX w (some (.int r)) σ9) 0 [(0, .ref (rb_ad w 3))] [] σ := by
  unfold xf_Rd_nextSignG at h
  obtain ⟨s6, q7, h⟩ := rb_b1s h
  refine rb_sub (lv2 := [(0, .ref (rb_ad w 3))]) [0] rfl ?_
  refine xt_Rd_nextSignG_0 hC  rb_FU σ _ q7 ?_
  exact rb_sub [0] rfl (xu_Rd_nextSignG_44 hC  s6 _ _ h)
theorem xc_Rd_nextSignG  (σ : rb_St) (r : Int32) (σ9 : rb_St) (h : xf_Rd_nextSignG σ = some (r, σ9)) : rb_Con rb_vX yX8_nextSign cX8_nextSign 1 (some .int) 0 (fun w => [.ref (rb_ad w 3)]) σ (fun _ => (some (.int r))) σ9 := rb_Con.of (by decide +kernel) (fun _ => Nat.le_of_ble_eq_true rfl) (fun z w hC => xk_Rd_nextSignG hC  σ r σ9 h)
