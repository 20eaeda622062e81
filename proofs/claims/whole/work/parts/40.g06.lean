theorem me_X7_placeOf : Cond.instanceMethod yX7_placeOf ∈ rb_tbl ∧ Cond.selects yX7_placeOf.cls yX7_placeOf yX7_placeOf ∈ rb_tbl ∧ Cond.initialized yX7_placeOf.cls ∈ rb_tbl ∧ Cond.code yX7_placeOf cX7_placeOf 3 (some .int) ∈ rb_tbl ∧ rb_pn yX7_placeOf 1 := ⟨rb_in (by decide +kernel) (by decide +kernel), rb_in (by decide +kernel) (by decide +kernel), rb_in (by decide +kernel) (by decide +kernel), rb_in (by decide +kernel) (by decide +kernel), by decide +kernel, by decide +kernel, by decide +kernel⟩
theorem mv_X11_202 : rb_MV RX11 202 yX7_placeOf cX7_placeOf 3 (some .int) 1 := ⟨rb_in (by decide +kernel) (by decide +kernel), me_X7_placeOf⟩
theorem me_X11_placeBehind : Cond.instanceMethod yX11_placeBehind ∈ rb_tbl ∧ Cond.selects yX11_placeBehind.cls yX11_placeBehind yX11_placeBehind ∈ rb_tbl ∧ Cond.initialized yX11_placeBehind.cls ∈ rb_tbl ∧ Cond.code yX11_placeBehind cX11_placeBehind 6 (some .int) ∈ rb_tbl ∧ rb_pn yX11_placeBehind 3 := ⟨rb_in (by decide +kernel) (by decide +kernel), rb_in (by decide +kernel) (by decide +kernel), rb_in (by decide +kernel) (by decide +kernel), rb_in (by decide +kernel) (by decide +kernel), by decide +kernel, by decide +kernel, by decide +kernel⟩
theorem mv_X11_380 : rb_MV RX11 380 yX11_placeBehind cX11_placeBehind 6 (some .int) 3 := ⟨rb_in (by decide +kernel) (by decide +kernel), me_X11_placeBehind⟩
def xf_RP_behind (p0 : Int32) (p1 : Int32) (p2 : Int32) (σ : rb_St) : Option Int32 := if (xf_RP_isFigure p0 σ) = 0 then some (-1) else if (xf_RP_isDancer p2 σ) = 0 then some (-1) else if p1 < 0 then some (-1) else if p1 ≤ 99 then if rb_ib p0 6 then rb_b1 (xf_Pole_placeOf 18 p2 σ) fun r6 => rb_b1 (xf_RP_placeBehind (256 + 2 * p0.toNatClampNeg) r6 p1 σ) fun r8 => some r8 else none else some (-1)
set_option maxHeartbeats 4000000 in
set_option maxRecDepth 100000 in
theorem xk_RP_behind {z : rb_Z} {w : rb_Wd} (hC : rb_Cx z rb_vX w RX11 cX11_behind 4 (some .int) 2) (p0 : Int32) (p1 : Int32) (p2 : Int32) (σ : rb_St) (r : Int32) (h : xf_RP_behind p0 p1 p2 σ = some r) : rb_At z rb_vX w 4 (rb_Q z rb_vX w (some (.int r)) σ) 0 [(0, .ref (rb_ad w 0)), (1, .int p0), (2, .int p1), (3, .int p2)] [] σ := by
  unfold xf_RP_behind at h
  refine rb_aload_n hC 0 dX11_behind_0 rfl ?_
  refine rb_iload_n hC 1 dX11_behind_1 rfl ?_
  refine rb_callVi hC rb_VokX mv_X11_217 (xc_RP_isFigure p0 σ _ rfl) rb_obX0 rfl [.int p0] rfl rfl rfl ⟨Nat.le_of_ble_eq_true rfl, Nat.le_of_ble_eq_true rfl⟩ (Nat.le_of_ble_eq_true rfl) dX11_behind_2 ?_
  refine rb_if_eq hC 26 dX11_behind_5 (by decide) (fun c1 => ?_) (fun c1 => ?_)
  · replace h := rb_ifp c1 h
    refine rb_iconst (x := (-1)) hC dX11_behind_26 (by decide) ?_
    cases h
    exact rb_iret hC dX11_behind_27
  · replace h := rb_ifn c1 h
    refine rb_aload_n hC 0 dX11_behind_8 rfl ?_
    refine rb_iload_n hC 3 dX11_behind_9 rfl ?_
    refine rb_callVi hC rb_VokX mv_X11_188 (xc_RP_isDancer p2 σ _ rfl) rb_obX0 rfl [.int p2] rfl rfl rfl ⟨Nat.le_of_ble_eq_true rfl, Nat.le_of_ble_eq_true rfl⟩ (Nat.le_of_ble_eq_true rfl) dX11_behind_10 ?_
    refine rb_if_eq hC 26 dX11_behind_13 (by decide) (fun c2 => ?_) (fun c2 => ?_)
    · replace h := rb_ifp c2 h
      refine rb_iconst (x := (-1)) hC dX11_behind_26 (by decide) ?_
      cases h
      exact rb_iret hC dX11_behind_27
    · replace h := rb_ifn c2 h
      refine rb_iload_n hC 2 dX11_behind_16 rfl ?_
      refine rb_if_lt hC 26 dX11_behind_17 (by decide) (fun c3 => ?_) (fun c3 => ?_)
      · replace h := rb_ifp c3 h
        refine rb_iconst (x := (-1)) hC dX11_behind_26 (by decide) ?_
        cases h
        exact rb_iret hC dX11_behind_27
      · replace h := rb_ifn c3 h
        refine rb_iload_n hC 2 dX11_behind_20 rfl ?_
        refine rb_bipush (x := 99) hC dX11_behind_21 (by decide) ?_
        refine rb_icmp_le hC 28 dX11_behind_23 (by decide) (fun c4 => ?_) (fun c4 => ?_)
        · replace h := rb_ifp c4 h
          refine rb_aload_n hC 0 dX11_behind_28 rfl ?_
          refine rb_aload_n hC 0 dX11_behind_29 rfl ?_
          refine rb_getR hC fr_X11_75_10 rb_obX0 rfl dX11_behind_30 ?_
          refine rb_iload_n hC 1 dX11_behind_33 rfl ?_
          obtain ⟨g5, h⟩ := rb_gd h
          refine rb_aald hC rb_rrX231 (fun _ => rfl) (rb_ibI g5) dX11_behind_34 ?_
          refine rb_aload_n hC 0 dX11_behind_35 rfl ?_
          refine rb_getR hC fr_X11_49_10 rb_obX0 rfl dX11_behind_36 ?_
          refine rb_iload_n hC 3 dX11_behind_39 rfl ?_
          obtain ⟨r6, q7, h⟩ := rb_b1s h
          refine rb_callVi hC rb_VokX mv_X11_202 (xc_Pole_placeOf 18 rb_isPole18 p2 σ _ q7) (rb_obPole rb_isPole18) rfl [.int p2] rfl rfl rfl ⟨Nat.le_of_ble_eq_true rfl, Nat.le_of_ble_eq_true rfl⟩ (Nat.le_of_ble_eq_true rfl) dX11_behind_40 ?_
          refine rb_iload_n hC 2 dX11_behind_43 rfl ?_
          obtain ⟨r8, q9, h⟩ := rb_b1s h
          refine rb_callVi hC rb_VokX mv_X11_380 (xc_RP_placeBehind (256 + 2 * p0.toNatClampNeg) (rb_isFig_of g5) r6 p1 σ _ q9) rb_obX0 rfl [.ref (rb_ad w (256 + 2 * p0.toNatClampNeg)), .int r6, .int p1] rfl rfl rfl ⟨Nat.le_of_ble_eq_true rfl, Nat.le_of_ble_eq_true rfl⟩ (Nat.le_of_ble_eq_true rfl) dX11_behind_44 ?_
          cases h
          exact rb_iret hC dX11_behind_47
        · replace h := rb_ifn c4 h
          refine rb_iconst (x := (-1)) hC dX11_behind_26 (by decide) ?_
          cases h
          exact rb_iret hC dX11_behind_27
theorem xc_RP_behind (p0 : Int32) (p1 : Int32) (p2 : Int32) (σ : rb_St) (r : Int32) (h : xf_RP_behind p0 p1 p2 σ = some r) : rb_Con rb_vX yX11_behind cX11_behind 4 (some .int) 2 (fun w => [.ref (rb_ad w 0), .int p0, .int p1, .int p2]) σ (fun _ => (some (.int r))) σ := rb_Con.of (by decide +kernel) (fun _ => Nat.le_of_ble_eq_true rfl) (fun z w hC => xk_RP_behind hC p0 p1 p2 σ r h)
def xl_RP_allBackBehind_2 (k1 : Nat) (x2 : Int32) (σ : rb_St) : Nat → Int32 → Option (Nat)
  | 0, _ => none
  | n + 1, x3 => if (σ.1 15 2) ≤ x3 then some 1 else rb_b1 (xf_RP_placeBehind k1 x3 x2 σ) fun r2 => if r2 = x3 then xl_RP_allBackBehind_2 k1 x2 σ n (x3 + 1) else some 0
set_option maxHeartbeats 4000000 in
set_option maxRecDepth 100000 in
theorem xt_RP_allBackBehind_2 {z : rb_Z} {w : rb_Wd} {Q : State → Prop} (hC : rb_Cx z rb_vX w RX11 cX11_allBackBehind 4 (some .boolean) 2) (k1 : Nat) (hk1 : rb_isFig k1) (x2 : Int32) (σ : rb_St) : ∀ (n : Nat) (x3 : Int32) (t : Nat), xl_RP_allBackBehind_2 k1 x2 σ n x3 = some t → (t = 0 → rb_At z rb_vX w 4 Q 24 [] [] σ) → (t = 1 → rb_At z rb_vX w 4 Q 32 [] [] σ) → rb_At z rb_vX w 4 Q 2 [(0, .ref (rb_ad w 0)), (1, .ref (rb_ad w k1)), (2, .int x2), (3, .int x3)] [] σ := by
  intro n
  induction n with
  | zero =>
    intro x3 t h hE0 hE1
    cases h
  | succ n ih =>
    intro x3 t h hE0 hE1
    rw [xl_RP_allBackBehind_2] at h
    refine rb_iload_n hC 3 dX11_allBackBehind_2 rfl ?_
    refine rb_aload_n hC 0 dX11_allBackBehind_3 rfl ?_
    refine rb_getR hC fr_X11_42_10 rb_obX0 rfl dX11_allBackBehind_4 ?_
    refine rb_getI hC fr_X11_155_3 rb_obX15 rfl dX11_allBackBehind_7 ?_
    refine rb_icmp_ge hC 32 dX11_allBackBehind_10 (by decide) (fun c1 => ?_) (fun c1 => ?_)
    · replace h := rb_ifp c1 h
      cases h
      exact rb_sub [] rfl (hE1 rfl)
    · replace h := rb_ifn c1 h
      refine rb_aload_n hC 0 dX11_allBackBehind_13 rfl ?_
      refine rb_aload_n hC 1 dX11_allBackBehind_14 rfl ?_
      refine rb_iload_n hC 3 dX11_allBackBehind_15 rfl ?_
      refine rb_iload_n hC 2 dX11_allBackBehind_16 rfl ?_
      obtain ⟨r2, q3, h⟩ := rb_b1s h
      refine rb_callVi hC rb_VokX mv_X11_380 (xc_RP_placeBehind k1 hk1 x3 x2 σ _ q3) rb_obX0 rfl [.ref (rb_ad w k1), .int x3, .int x2] rfl rfl rfl ⟨Nat.le_of_ble_eq_true rfl, Nat.le_of_ble_eq_true rfl⟩ (Nat.le_of_ble_eq_true rfl) dX11_allBackBehind_17 ?_
      refine rb_iload_n hC 3 dX11_allBackBehind_20 rfl ?_
      refine rb_icmp_eq hC 26 dX11_allBackBehind_21 (by decide) (fun c4 => ?_) (fun c4 => ?_)
      · replace h := rb_ifp c4 h
        refine rb_iinc hC 3 [(3, .int (x3 + 1)), (0, .ref (rb_ad w 0)), (1, .ref (rb_ad w k1)), (2, .int x2)] dX11_allBackBehind_26 rfl rfl (by decide) rfl ?_
        refine rb_goto hC 2 dX11_allBackBehind_29 (by decide) ?_
        exact rb_sub [1, 2, 3, 0] rfl (ih (x3 + 1) _ h hE0 hE1)
      · replace h := rb_ifn c4 h
        cases h
        exact rb_sub [] rfl (hE0 rfl)
def xf_RP_allBackBehind (k1 : Nat) (p0 : Int32) (σ : rb_St) : Option Int32 := rb_b1 (xl_RP_allBackBehind_2 k1 p0 σ rb_FU 0) fun t5 => if t5 = 0 then some 0 else some 1
set_option maxHeartbeats 4000000 in
set_option maxRecDepth 100000 in
theorem xk_RP_allBackBehind {z : rb_Z} {w : rb_Wd} (hC : rb_Cx z rb_vX w RX11 cX11_allBackBehind 4 (some .boolean) 2) (k1 : Nat) (hk1 : rb_isFig k1) (p0 : Int32) (σ : rb_St) (r : Int32) (h : xf_RP_allBackBehind k1 p0 σ = some r) : rb_At z rb_vX w 4 (rb_Q z rb_vX w (some (.int r)) σ) 0 [(0, .ref (rb_ad w 0)), (1, .ref (rb_ad w k1)), (2, .int p0)] [] σ := by
  unfold xf_RP_allBackBehind at h
  refine rb_iconst (x := 0) hC dX11_allBackBehind_0 (by decide) ?_
  refine rb_istore_n hC [(3, .int 0), (0, .ref (rb_ad w 0)), (1, .ref (rb_ad w k1)), (2, .int p0)] dX11_allBackBehind_1 (by decide) rfl ?_
  obtain ⟨t5, q6, h⟩ := rb_b1s h
  refine rb_sub (lv2 := [(0, .ref (rb_ad w 0)), (1, .ref (rb_ad w k1)), (2, .int p0), (3, .int 0)]) [1, 2, 3, 0] rfl ?_
  refine xt_RP_allBackBehind_2 hC k1 hk1 p0 σ rb_FU 0 _ q6 (fun ht => ?_) (fun ht => ?_)
  · subst ht
    replace h := rb_ifp rfl h
    refine rb_iconst (x := 0) hC dX11_allBackBehind_24 (by decide) ?_
    cases h
    exact rb_zret hC rfl dX11_allBackBehind_25
  · subst ht
    replace h := rb_ifn (by decide) h
    refine rb_iconst (x := 1) hC dX11_allBackBehind_32 (by decide) ?_
    cases h
    exact rb_zret hC rfl dX11_allBackBehind_33
theorem xc_RP_allBackBehind (k1 : Nat) (hk1 : rb_isFig k1) (p0 : Int32) (σ : rb_St) (r : Int32) (h : xf_RP_allBackBehind k1 p0 σ = some r) : rb_Con rb_vX yX11_allBackBehind cX11_allBackBehind 4 (some .boolean) 2 (fun w => [.ref (rb_ad w 0), .ref (rb_ad w k1), .int p0]) σ (fun _ => (some (.int r))) σ := rb_Con.of (by decide +kernel) (fun _ => Nat.le_of_ble_eq_true rfl) (fun z w hC => xk_RP_allBackBehind hC k1 hk1 p0 σ r h)
theorem fr_X11_83_10 : rb_FR RX11 83 10 14 := ⟨RX11, TX11, 20, "RibbonPole", rfl, rb_uX11, by decide, rb_in (by decide +kernel) (by decide +kernel), Or.inl rfl⟩
theorem ft_10_15 : rb_Ty 10 15 .int := ⟨RX11, TX11, 20, tyX11, rfl, tyX11_ok, nmX11, rfl, by decide +kernel⟩
def xf_RP_seen (p0 : Int32) (p1 : Int32) (p2 : Int32) (p3 : Int32) (σ : rb_St) : Option (Int32 × rb_St) := if (xf_RP_isDancer p0 σ) = 0 then some ((-1), σ) else if (xf_Pole_hasPlace 18 p1 σ) = 0 then some ((-1), σ) else if p2 < 1 then some ((-1), σ) else if 9 < p2 then some ((-1), σ) else if (σ.1 0 15) < 10 then if p3 = 0 then if rb_ib (σ.1 0 15) 10 then rb_lt (rb_sI σ 233 (σ.1 0 15).toNatClampNeg (((p0 ||| (p1 <<< (3 &&& 31))) ||| (p2 <<< (6 &&& 31))) ||| 0)) (fun s8 => rb_lt (rb_sI s8 0 15 ((s8.1 0 15) + 1)) (fun s10 => some (s10.1 0 15, s10))) else none else if rb_ib (σ.1 0 15) 10 then rb_lt (rb_sI σ 233 (σ.1 0 15).toNatClampNeg (((p0 ||| (p1 <<< (3 &&& 31))) ||| (p2 <<< (6 &&& 31))) ||| 1024)) (fun s13 => rb_lt (rb_sI s13 0 15 ((s13.1 0 15) + 1)) (fun s15 => some (s15.1 0 15, s15))) else none else some ((-1), σ)
set_option maxHeartbeats 4000000 in
set_option maxRecDepth 100000 in
theorem xk_RP_seen {z : rb_Z} {w : rb_Wd} (hC : rb_Cx z rb_vX w RX11 cX11_seen 5 (some .int) 1) (p0 : Int32) (p1 : Int32) (p2 : Int32) (p3 : Int32) (σ : rb_St) (r : Int32) (σ9 : rb_St) (h : xf_RP_seen p0 p1 p2 p3 σ = some (r, σ9)) : rb_At z rb_vX w 5 (rb_Q z rb_vX w (some (.int r)) σ9) 0 [(0, .ref (rb_ad w 0)), (1, .int p0), (2, .int p1), (3, .int p2), (4, .int p3)] [] σ := by
  unfold xf_RP_seen at h
  refine rb_aload_n hC 0 dX11_seen_0 rfl ?_
  refine rb_iload_n hC 1 dX11_seen_1 rfl ?_
  refine rb_callVi hC rb_VokX mv_X11_188 (xc_RP_isDancer p0 σ _ rfl) rb_obX0 rfl [.int p0] rfl rfl rfl ⟨Nat.le_of_ble_eq_true rfl, Nat.le_of_ble_eq_true rfl⟩ (Nat.le_of_ble_eq_true rfl) dX11_seen_2 ?_
  refine rb_if_eq hC 39 dX11_seen_5 (by decide) (fun c1 => ?_) (fun c1 => ?_)
  · replace h := rb_ifp c1 h
    refine rb_iconst (x := (-1)) hC dX11_seen_39 (by decide) ?_
    cases h
    exact rb_iret hC dX11_seen_40
  · replace h := rb_ifn c1 h
    refine rb_aload_n hC 0 dX11_seen_8 rfl ?_
    refine rb_getR hC fr_X11_49_10 rb_obX0 rfl dX11_seen_9 ?_
    refine rb_iload_n hC 2 dX11_seen_12 rfl ?_
    refine rb_callVi hC rb_VokX mv_X11_211 (xc_Pole_hasPlace 18 rb_isPole18 p1 σ _ rfl) (rb_obPole rb_isPole18) rfl [.int p1] rfl rfl rfl ⟨Nat.le_of_ble_eq_true rfl, Nat.le_of_ble_eq_true rfl⟩ (Nat.le_of_ble_eq_true rfl) dX11_seen_13 ?_
    refine rb_if_eq hC 39 dX11_seen_16 (by decide) (fun c2 => ?_) (fun c2 => ?_)
    · replace h := rb_ifp c2 h
      refine rb_iconst (x := (-1)) hC dX11_seen_39 (by decide) ?_
      cases h
      exact rb_iret hC dX11_seen_40
    · replace h := rb_ifn c2 h
      refine rb_iload_n hC 3 dX11_seen_19 rfl ?_
      refine rb_iconst (x := 1) hC dX11_seen_20 (by decide) ?_
      refine rb_icmp_lt hC 39 dX11_seen_21 (by decide) (fun c3 => ?_) (fun c3 => ?_)
      · replace h := rb_ifp c3 h
        refine rb_iconst (x := (-1)) hC dX11_seen_39 (by decide) ?_
        cases h
        exact rb_iret hC dX11_seen_40
      · replace h := rb_ifn c3 h
        refine rb_iload_n hC 3 dX11_seen_24 rfl ?_
        refine rb_bipush (x := 9) hC dX11_seen_25 (by decide) ?_
        refine rb_icmp_gt hC 39 dX11_seen_27 (by decide) (fun c4 => ?_) (fun c4 => ?_)
        · replace h := rb_ifp c4 h
          refine rb_iconst (x := (-1)) hC dX11_seen_39 (by decide) ?_
          cases h
          exact rb_iret hC dX11_seen_40
        · replace h := rb_ifn c4 h
          refine rb_aload_n hC 0 dX11_seen_30 rfl ?_
          refine rb_getI hC fr_X11_152_10 rb_obX0 rfl dX11_seen_31 ?_
          refine rb_bipush (x := 10) hC dX11_seen_34 (by decide) ?_
          refine rb_icmp_lt hC 41 dX11_seen_36 (by decide) (fun c5 => ?_) (fun c5 => ?_)
          · replace h := rb_ifp c5 h
            refine rb_aload_n hC 0 dX11_seen_41 rfl ?_
            refine rb_getR hC fr_X11_83_10 rb_obX0 rfl dX11_seen_42 ?_
            refine rb_aload_n hC 0 dX11_seen_45 rfl ?_
            refine rb_getI hC fr_X11_152_10 rb_obX0 rfl dX11_seen_46 ?_
            refine rb_iload_n hC 1 dX11_seen_49 rfl ?_
            refine rb_iload_n hC 2 dX11_seen_50 rfl ?_
            refine rb_iconst (x := 3) hC dX11_seen_51 (by decide) ?_
            refine rb_ishl hC dX11_seen_52 ?_
            refine rb_ior hC dX11_seen_53 ?_
            refine rb_iload_n hC 3 dX11_seen_54 rfl ?_
            refine rb_bipush (x := 6) hC dX11_seen_55 (by decide) ?_
            refine rb_ishl hC dX11_seen_57 ?_
            refine rb_ior hC dX11_seen_58 ?_
            refine rb_iload hC 4 dX11_seen_59 rfl ?_
            refine rb_if_eq hC 70 dX11_seen_61 (by decide) (fun c6 => ?_) (fun c6 => ?_)
            · replace h := rb_ifp c6 h
              refine rb_iconst (x := 0) hC dX11_seen_70 (by decide) ?_
              refine rb_ior hC dX11_seen_71 ?_
              obtain ⟨g7, h⟩ := rb_gd h
              refine rb_iast hC rb_arX233 (rb_ibI g7) dX11_seen_72 ?_
              obtain ⟨s8, e9, h⟩ := rb_ltE h
              refine rb_nmS e9 ?_
              refine rb_aload_n hC 0 dX11_seen_73 rfl ?_
              refine rb_dup hC dX11_seen_74 rfl ?_
              refine rb_getI hC fr_X11_152_10 rb_obX0 rfl dX11_seen_75 ?_
              refine rb_iconst (x := 1) hC dX11_seen_78 (by decide) ?_
              refine rb_iadd hC dX11_seen_79 ?_
              refine rb_putI hC fr_X11_152_10 ft_10_15 rb_obX0 rfl rfl rfl dX11_seen_80 ?_
              obtain ⟨s10, e11, h⟩ := rb_ltE h
              refine rb_nmS e11 ?_
              refine rb_aload_n hC 0 dX11_seen_83 rfl ?_
              refine rb_getI hC fr_X11_152_10 rb_obX0 rfl dX11_seen_84 ?_
              cases h
              exact rb_iret hC dX11_seen_87
            · replace h := rb_ifn c6 h
              refine rb_sipush (x := 1024) hC dX11_seen_64 (by decide) ?_
              refine rb_goto hC 71 dX11_seen_67 (by decide) ?_
              refine rb_ior hC dX11_seen_71 ?_
              obtain ⟨g12, h⟩ := rb_gd h
              refine rb_iast hC rb_arX233 (rb_ibI g12) dX11_seen_72 ?_
              obtain ⟨s13, e14, h⟩ := rb_ltE h
              refine rb_nmS e14 ?_
              refine rb_aload_n hC 0 dX11_seen_73 rfl ?_
              refine rb_dup hC dX11_seen_74 rfl ?_
              refine rb_getI hC fr_X11_152_10 rb_obX0 rfl dX11_seen_75 ?_
              refine rb_iconst (x := 1) hC dX11_seen_78 (by decide) ?_
              refine rb_iadd hC dX11_seen_79 ?_
              refine rb_putI hC fr_X11_152_10 ft_10_15 rb_obX0 rfl rfl rfl dX11_seen_80 ?_
              obtain ⟨s15, e16, h⟩ := rb_ltE h
              refine rb_nmS e16 ?_
              refine rb_aload_n hC 0 dX11_seen_83 rfl ?_
              refine rb_getI hC fr_X11_152_10 rb_obX0 rfl dX11_seen_84 ?_
              cases h
              exact rb_iret hC dX11_seen_87
          · replace h := rb_ifn c5 h
            refine rb_iconst (x := (-1)) hC dX11_seen_39 (by decide) ?_
            cases h
            exact rb_iret hC dX11_seen_40
theorem xc_RP_seen (p0 : Int32) (p1 : Int32) (p2 : Int32) (p3 : Int32) (σ : rb_St) (r : Int32) (σ9 : rb_St) (h : xf_RP_seen p0 p1 p2 p3 σ = some (r, σ9)) : rb_Con rb_vX yX11_seen cX11_seen 5 (some .int) 1 (fun w => [.ref (rb_ad w 0), .int p0, .int p1, .int p2, .int p3]) σ (fun _ => (some (.int r))) σ9 := rb_Con.of (by decide +kernel) (fun _ => Nat.le_of_ble_eq_true rfl) (fun z w hC => xk_RP_seen hC p0 p1 p2 p3 σ r σ9 h)
def xj_RP_agreesWithAll_47 (rc : Int32 → Option (Nat)) (k1 : Nat) (x2 : Int32) (x3 : Int32) (u0 : Int32) (σ : rb_St) : Option (Nat) := if (x3 >>> (10 &&& 31)) = 1 then if u0 = 1 then rc (x2 + 1) else some 0 else if u0 = 0 then rc (x2 + 1) else some 0
set_option maxHeartbeats 4000000 in
set_option maxRecDepth 100000 in
theorem xu_RP_agreesWithAll_47 {z : rb_Z} {w : rb_Wd} {Q : State → Prop} (hC : rb_Cx z rb_vX w RX11 cX11_agreesWithAll 5 (some .boolean) 2)  (rc : Int32 → Option (Nat)) (k1 : Nat) (hk1 : rb_isFig k1) (x2 : Int32) (x3 : Int32) (u0 : Int32) (σ : rb_St) (t : Nat) (h : xj_RP_agreesWithAll_47 rc k1 x2 x3 u0 σ = some t) (hrc : ∀ (b2 : Int32), rc b2 = some t → rb_At z rb_vX w 5 Q 2 [(0, .ref (rb_ad w 0)), (1, .ref (rb_ad w k1)), (2, .int b2)] [] σ) (hE0 : t = 0 → rb_At z rb_vX w 5 Q 67 [] [] σ) (hE1 : t = 1 → rb_At z rb_vX w 5 Q 75 [] [] σ) : rb_At z rb_vX w 5 Q 47 [(0, .ref (rb_ad w 0)), (1, .ref (rb_ad w k1)), (2, .int x2), (3, .int x3)] [.int u0] σ := by
  unfold xj_RP_agreesWithAll_47 at h
  refine rb_istore hC [(4, .int u0), (0, .ref (rb_ad w 0)), (1, .ref (rb_ad w k1)), (2, .int x2), (3, .int x3)] dX11_agreesWithAll_47 (by decide) rfl ?_
  refine rb_iload hC 0 dX11_agreesWithAll_49 rfl ?_
  refine rb_iload_n hC 4 dX11_agreesWithAll_51 rfl ?_
  refine rb_bipush (x := 10) hC dX11_agreesWithAll_52 (by decide) ?_
  refine rb_ishr hC dX11_agreesWithAll_54 ?_
  refine rb_iconst (x := 1) hC dX11_agreesWithAll_55 (by decide) ?_
  refine rb_icmp_ne hC 63 dX11_agreesWithAll_56 (by decide) (fun c6 => ?_) (fun c6 => ?_)
  · replace h := rb_ifn c6 h
    refine rb_iconst (x := 0) hC dX11_agreesWithAll_63 (by decide) ?_
    refine rb_icmp_eq hC 69 dX11_agreesWithAll_64 (by decide) (fun c7 => ?_) (fun c7 => ?_)
    · replace h := rb_ifp c7 h
      refine rb_iinc hC 3 [(2, .int (x2 + 1)), (4, .int u0), (0, .ref (rb_ad w 0)), (1, .ref (rb_ad w k1)), (3, .int x3)] dX11_agreesWithAll_69 rfl rfl (by decide) rfl ?_
      refine rb_goto hC 2 dX11_agreesWithAll_72 (by decide) ?_
      exact rb_sub [2, 3, 0] rfl (hrc (x2 + 1) h)
    · replace h := rb_ifn c7 h
      cases h
      exact rb_sub [] rfl (hE0 rfl)
  · replace h := rb_ifp c6 h
    refine rb_iconst (x := 1) hC dX11_agreesWithAll_59 (by decide) ?_
    refine rb_goto hC 64 dX11_agreesWithAll_60 (by decide) ?_
    refine rb_icmp_eq hC 69 dX11_agreesWithAll_64 (by decide) (fun c8 => ?_) (fun c8 => ?_)
    · replace h := rb_ifp c8 h
      refine rb_iinc hC 3 [(2, .int (x2 + 1)), (4, .int u0), (0, .ref (rb_ad w 0)), (1, .ref (rb_ad w k1)), (3, .int x3)] dX11_agreesWithAll_69 rfl rfl (by decide) rfl ?_
      refine rb_goto hC 2 dX11_agreesWithAll_72 (by decide) ?_
      exact rb_sub [2, 3, 0] rfl (hrc (x2 + 1) h)
    · replace h := rb_ifn c8 h
      cases h
      exact rb_sub [] rfl (hE0 rfl)
def xl_RP_agreesWithAll_2 (k1 : Nat) (σ : rb_St) : Nat → Int32 → Option (Nat)
  | 0, _ => none
  | n + 1, x2 => if (σ.1 0 15) ≤ x2 then some 1 else if rb_ib x2 10 then rb_b1 (xf_RP_placeBehind k1 ((σ.1 233 x2.toNatClampNeg) &&& 7) (((σ.1 233 x2.toNatClampNeg) >>> (6 &&& 31)) &&& 15) σ) fun r3 => if r3 = (((σ.1 233 x2.toNatClampNeg) >>> (3 &&& 31)) &&& 7) then xj_RP_agreesWithAll_47 (fun b2 => xl_RP_agreesWithAll_2 k1 σ n b2) k1 x2 (σ.1 233 x2.toNatClampNeg) 1 σ else xj_RP_agreesWithAll_47 (fun b2 => xl_RP_agreesWithAll_2 k1 σ n b2) k1 x2 (σ.1 233 x2.toNatClampNeg) 0 σ else none
set_option maxHeartbeats 4000000 in
set_option maxRecDepth 100000 in
theorem xt_RP_agreesWithAll_2 {z : rb_Z} {w : rb_Wd} {Q : State → Prop} (hC : rb_Cx z rb_vX w RX11 cX11_agreesWithAll 5 (some .boolean) 2) (k1 : Nat) (hk1 : rb_isFig k1) (σ : rb_St) : ∀ (n : Nat) (x2 : Int32) (t : Nat), xl_RP_agreesWithAll_2 k1 σ n x2 = some t → (t = 0 → rb_At z rb_vX w 5 Q 67 [] [] σ) → (t = 1 → rb_At z rb_vX w 5 Q 75 [] [] σ) → rb_At z rb_vX w 5 Q 2 [(0, .ref (rb_ad w 0)), (1, .ref (rb_ad w k1)), (2, .int x2)] [] σ := by
  intro n
  induction n with
  | zero =>
    intro x2 t h hE0 hE1
    cases h
  | succ n ih =>
    intro x2 t h hE0 hE1
    rw [xl_RP_agreesWithAll_2] at h
    refine rb_iload_n hC 2 dX11_agreesWithAll_2 rfl ?_
    refine rb_aload_n hC 0 dX11_agreesWithAll_3 rfl ?_
    refine rb_getI hC fr_X11_152_10 rb_obX0 rfl dX11_agreesWithAll_4 ?_
    refine rb_icmp_ge hC 75 dX11_agreesWithAll_7 (by decide) (fun c1 => ?_) (fun c1 => ?_)
    · replace h := rb_ifp c1 h
      cases h
      exact rb_sub [] rfl (hE1 rfl)
    · replace h := rb_ifn c1 h
      refine rb_aload_n hC 0 dX11_agreesWithAll_10 rfl ?_
      refine rb_getR hC fr_X11_83_10 rb_obX0 rfl dX11_agreesWithAll_11 ?_
      refine rb_iload_n hC 2 dX11_agreesWithAll_14 rfl ?_
      obtain ⟨g2, h⟩ := rb_gd h
      refine rb_iald hC rb_arX233 (rb_ibI g2) dX11_agreesWithAll_15 ?_
      refine rb_istore_n hC [(3, .int (σ.1 233 x2.toNatClampNeg)), (0, .ref (rb_ad w 0)), (1, .ref (rb_ad w k1)), (2, .int x2)] dX11_agreesWithAll_16 (by decide) rfl ?_
      refine rb_aload_n hC 1 dX11_agreesWithAll_17 rfl ?_
      refine rb_aload_n hC 2 dX11_agreesWithAll_18 rfl ?_
      refine rb_iload_n hC 0 dX11_agreesWithAll_19 rfl ?_
      refine rb_bipush (x := 7) hC dX11_agreesWithAll_20 (by decide) ?_
      refine rb_iand hC dX11_agreesWithAll_22 ?_
      refine rb_iload_n hC 0 dX11_agreesWithAll_23 rfl ?_
      refine rb_bipush (x := 6) hC dX11_agreesWithAll_24 (by decide) ?_
      refine rb_ishr hC dX11_agreesWithAll_26 ?_
      refine rb_bipush (x := 15) hC dX11_agreesWithAll_27 (by decide) ?_
      refine rb_iand hC dX11_agreesWithAll_29 ?_
      obtain ⟨r3, q4, h⟩ := rb_b1s h
      refine rb_callVi hC rb_VokX mv_X11_380 (xc_RP_placeBehind k1 hk1 ((σ.1 233 x2.toNatClampNeg) &&& 7) (((σ.1 233 x2.toNatClampNeg) >>> (6 &&& 31)) &&& 15) σ _ q4) rb_obX0 rfl [.ref (rb_ad w k1), .int ((σ.1 233 x2.toNatClampNeg) &&& 7), .int (((σ.1 233 x2.toNatClampNeg) >>> (6 &&& 31)) &&& 15)] rfl rfl rfl ⟨Nat.le_of_ble_eq_true rfl, Nat.le_of_ble_eq_true rfl⟩ (Nat.le_of_ble_eq_true rfl) dX11_agreesWithAll_30 ?_
      refine rb_iload_n hC 0 dX11_agreesWithAll_33 rfl ?_
      refine rb_iconst (x := 3) hC dX11_agreesWithAll_34 (by decide) ?_
      refine rb_ishr hC dX11_agreesWithAll_35 ?_
      refine rb_bipush (x := 7) hC dX11_agreesWithAll_36 (by decide) ?_
      refine rb_iand hC dX11_agreesWithAll_38 ?_
      refine rb_icmp_ne hC 46 dX11_agreesWithAll_39 (by decide) (fun c5 => ?_) (fun c5 => ?_)
      · replace h := rb_ifn c5 h
        refine rb_iconst (x := 0) hC dX11_agreesWithAll_46 (by decide) ?_
        exact rb_sub [1, 2, 3, 0] rfl (xu_RP_agreesWithAll_47 hC (fun b2 => xl_RP_agreesWithAll_2 k1 σ n b2) k1 hk1 x2 (σ.1 233 x2.toNatClampNeg) 0 σ _ h (fun b2 hq => ih b2 _ hq hE0 hE1) hE0 hE1)
      · replace h := rb_ifp c5 h
        refine rb_iconst (x := 1) hC dX11_agreesWithAll_42 (by decide) ?_
        refine rb_goto hC 47 dX11_agreesWithAll_43 (by decide) ?_
        exact rb_sub [1, 2, 3, 0] rfl (xu_RP_agreesWithAll_47 hC (fun b2 => xl_RP_agreesWithAll_2 k1 σ n b2) k1 hk1 x2 (σ.1 233 x2.toNatClampNeg) 1 σ _ h (fun b2 hq => ih b2 _ hq hE0 hE1) hE0 hE1)
def xf_RP_agreesWithAll (k1 : Nat) (σ : rb_St) : Option Int32 := rb_b1 (xl_RP_agreesWithAll_2 k1 σ rb_FU 0) fun t9 => if t9 = 0 then some 0 else some 1
set_option maxHeartbeats 4000000 in
set_option maxRecDepth 100000 in
theorem xk_RP_agreesWithAll {z : rb_Z} {w : rb_Wd} (hC : rb_Cx z rb_vX w RX11 cX11_agreesWithAll 5 (some .boolean) 2) (k1 : Nat) (hk1 : rb_isFig k1) (σ : rb_St) (r : Int32) (h : xf_RP_agreesWithAll k1 σ = some r) : rb_At z rb_vX w 5 (rb_Q z rb_vX w (some (.int r)) σ) 0 [(0, .ref (rb_ad w 0)), (1, .ref (rb_ad w k1))] [] σ := by
  unfold xf_RP_agreesWithAll at h
  refine rb_iconst (x := 0) hC dX11_agreesWithAll_0 (by decide) ?_
  refine rb_istore_n hC [(2, .int 0), (0, .ref (rb_ad w 0)), (1, .ref (rb_ad w k1))] dX11_agreesWithAll_1 (by decide) rfl ?_
  obtain ⟨t9, q10, h⟩ := rb_b1s h
  refine rb_sub (lv2 := [(0, .ref (rb_ad w 0)), (1, .ref (rb_ad w k1)), (2, .int 0)]) [1, 2, 0] rfl ?_
  refine xt_RP_agreesWithAll_2 hC k1 hk1 σ rb_FU 0 _ q10 (fun ht => ?_) (fun ht => ?_)
  · subst ht
    replace h := rb_ifp rfl h
    refine rb_iconst (x := 0) hC dX11_agreesWithAll_67 (by decide) ?_
    cases h
    exact rb_zret hC rfl dX11_agreesWithAll_68
  · subst ht
    replace h := rb_ifn (by decide) h
    refine rb_iconst (x := 1) hC dX11_agreesWithAll_75 (by decide) ?_
    cases h
    exact rb_zret hC rfl dX11_agreesWithAll_76
theorem xc_RP_agreesWithAll (k1 : Nat) (hk1 : rb_isFig k1) (σ : rb_St) (r : Int32) (h : xf_RP_agreesWithAll k1 σ = some r) : rb_Con rb_vX yX11_agreesWithAll cX11_agreesWithAll 5 (some .boolean) 2 (fun w => [.ref (rb_ad w 0), .ref (rb_ad w k1)]) σ (fun _ => (some (.int r))) σ := rb_Con.of (by decide +kernel) (fun _ => Nat.le_of_ble_eq_true rfl) (fun z w hC => xk_RP_agreesWithAll hC k1 hk1 σ r h)
theorem mk_X11_273 : Cond.methodLink RX11 273 Lib.Math.max.name ∈ rb_tbl := rb_in (by decide +kernel) (by decide +kernel)
def xl_RP_mostAgreeing_9 (x1 : Int32) (x2 : Int32) (x3 : Int32) (σ : rb_St) : Nat → Int32 → Int32 → Int32 → Option (Int32)
  | 0, _, _, _ => none
  | n + 1, x4, x5, x6 => if (σ.1 0 12) ≤ x6 then some x4 else if ((x1 >>> (x6 &&& 31)) &&& 1) = 0 then xl_RP_mostAgreeing_9 x1 x2 x3 σ n x4 x5 (x6 + 1) else if rb_ib x6 6 then rb_b1 (xf_RP_placeBehind (256 + 2 * x6.toNatClampNeg) x2 x3 σ) fun r4 => rb_lt (rb_mx x4 (((x5 + (1 <<< ((4 * r4) &&& 31))) >>> ((4 * r4) &&& 31)) &&& 15)) (fun v6 => xl_RP_mostAgreeing_9 x1 x2 x3 σ n v6 (x5 + (1 <<< ((4 * r4) &&& 31))) (x6 + 1)) else none
set_option maxHeartbeats 4000000 in
set_option maxRecDepth 100000 in
theorem xt_RP_mostAgreeing_9 {z : rb_Z} {w : rb_Wd} {Q : State → Prop} (hC : rb_Cx z rb_vX w RX11 cX11_mostAgreeing 8 (some .int) 2) (x1 : Int32) (x2 : Int32) (x3 : Int32) (σ : rb_St) : ∀ (n : Nat) (x4 : Int32) (x5 : Int32) (x6 : Int32) (y4 : Int32), xl_RP_mostAgreeing_9 x1 x2 x3 σ n x4 x5 x6 = some y4 → rb_At z rb_vX w 8 Q 74 [(4, .int y4)] [] σ → rb_At z rb_vX w 8 Q 9 [(0, .ref (rb_ad w 0)), (1, .int x1), (2, .int x2), (3, .int x3), (4, .int x4), (5, .int x5), (6, .int x6)] [] σ := by
  intro n
  induction n with
  | zero =>
    intro x4 x5 x6 y4 h hE0
    cases h
  | succ n ih =>
    intro x4 x5 x6 y4 h hE0
    rw [xl_RP_mostAgreeing_9] at h
    refine rb_iload hC 6 dX11_mostAgreeing_9 rfl ?_
    refine rb_aload_n hC 0 dX11_mostAgreeing_11 rfl ?_
    refine rb_getI hC fr_X11_167_10 rb_obX0 rfl dX11_mostAgreeing_12 ?_
    refine rb_icmp_ge hC 74 dX11_mostAgreeing_15 (by decide) (fun c1 => ?_) (fun c1 => ?_)
    · replace h := rb_ifp c1 h
      cases h
      exact rb_sub [4] rfl (hE0)
    · replace h := rb_ifn c1 h
      refine rb_iload_n hC 1 dX11_mostAgreeing_18 rfl ?_
      refine rb_iload hC 6 dX11_mostAgreeing_19 rfl ?_
      refine rb_ishr hC dX11_mostAgreeing_21 ?_
      refine rb_iconst (x := 1) hC dX11_mostAgreeing_22 (by decide) ?_
      refine rb_iand hC dX11_mostAgreeing_23 ?_
      refine rb_if_eq hC 68 dX11_mostAgreeing_24 (by decide) (fun c2 => ?_) (fun c2 => ?_)
      · replace h := rb_ifp c2 h
        refine rb_iinc hC 6 [(6, .int (x6 + 1)), (0, .ref (rb_ad w 0)), (1, .int x1), (2, .int x2), (3, .int x3), (4, .int x4), (5, .int x5)] dX11_mostAgreeing_68 rfl rfl (by decide) rfl ?_
        refine rb_goto hC 9 dX11_mostAgreeing_71 (by decide) ?_
        exact rb_sub [1, 2, 3, 4, 5, 6, 0] rfl (ih x4 x5 (x6 + 1) _ h hE0)
      · replace h := rb_ifn c2 h
        refine rb_iconst (x := 4) hC dX11_mostAgreeing_27 (by decide) ?_
        refine rb_aload_n hC 0 dX11_mostAgreeing_28 rfl ?_
        refine rb_aload_n hC 0 dX11_mostAgreeing_29 rfl ?_
        refine rb_getR hC fr_X11_75_10 rb_obX0 rfl dX11_mostAgreeing_30 ?_
        refine rb_iload hC 6 dX11_mostAgreeing_33 rfl ?_
        obtain ⟨g3, h⟩ := rb_gd h
        refine rb_aald hC rb_rrX231 (fun _ => rfl) (rb_ibI g3) dX11_mostAgreeing_35 ?_
        refine rb_iload_n hC 2 dX11_mostAgreeing_36 rfl ?_
        refine rb_iload_n hC 3 dX11_mostAgreeing_37 rfl ?_
        obtain ⟨r4, q5, h⟩ := rb_b1s h
        refine rb_callVi hC rb_VokX mv_X11_380 (xc_RP_placeBehind (256 + 2 * x6.toNatClampNeg) (rb_isFig_of g3) x2 x3 σ _ q5) rb_obX0 rfl [.ref (rb_ad w (256 + 2 * x6.toNatClampNeg)), .int x2, .int x3] rfl rfl rfl ⟨Nat.le_of_ble_eq_true rfl, Nat.le_of_ble_eq_true rfl⟩ (Nat.le_of_ble_eq_true rfl) dX11_mostAgreeing_38 ?_
        refine rb_imul hC dX11_mostAgreeing_41 ?_
        refine rb_istore hC [(7, .int (4 * r4)), (0, .ref (rb_ad w 0)), (1, .int x1), (2, .int x2), (3, .int x3), (4, .int x4), (5, .int x5), (6, .int x6)] dX11_mostAgreeing_42 (by decide) rfl ?_
        refine rb_iload hC 6 dX11_mostAgreeing_44 rfl ?_
        refine rb_iconst (x := 1) hC dX11_mostAgreeing_46 (by decide) ?_
        refine rb_iload hC 0 dX11_mostAgreeing_47 rfl ?_
        refine rb_ishl hC dX11_mostAgreeing_49 ?_
        refine rb_iadd hC dX11_mostAgreeing_50 ?_
        refine rb_istore hC [(5, .int (x5 + (1 <<< ((4 * r4) &&& 31)))), (7, .int (4 * r4)), (0, .ref (rb_ad w 0)), (1, .int x1), (2, .int x2), (3, .int x3), (4, .int x4), (6, .int x6)] dX11_mostAgreeing_51 (by decide) rfl ?_
        refine rb_iload hC 6 dX11_mostAgreeing_53 rfl ?_
        refine rb_iload hC 0 dX11_mostAgreeing_55 rfl ?_
        refine rb_iload hC 1 dX11_mostAgreeing_57 rfl ?_
        refine rb_ishr hC dX11_mostAgreeing_59 ?_
        refine rb_bipush (x := 15) hC dX11_mostAgreeing_60 (by decide) ?_
        refine rb_iand hC dX11_mostAgreeing_62 ?_
        refine rb_mmax hC mk_X11_273 ⟨Nat.le_of_ble_eq_true rfl, Nat.le_of_ble_eq_true rfl⟩ dX11_mostAgreeing_63 ?_
        obtain ⟨v6, e7, h⟩ := rb_ltE h
        refine rb_nmI e7 ?_
        refine rb_istore hC [(4, .int v6), (5, .int (x5 + (1 <<< ((4 * r4) &&& 31)))), (7, .int (4 * r4)), (0, .ref (rb_ad w 0)), (1, .int x1), (2, .int x2), (3, .int x3), (6, .int x6)] dX11_mostAgreeing_66 (by decide) rfl ?_
        refine rb_iinc hC 7 [(6, .int (x6 + 1)), (4, .int v6), (5, .int (x5 + (1 <<< ((4 * r4) &&& 31)))), (7, .int (4 * r4)), (0, .ref (rb_ad w 0)), (1, .int x1), (2, .int x2), (3, .int x3)] dX11_mostAgreeing_68 rfl rfl (by decide) rfl ?_
        refine rb_goto hC 9 dX11_mostAgreeing_71 (by decide) ?_
        exact rb_sub [4, 5, 6, 7, 1, 2, 0] rfl (ih v6 (x5 + (1 <<< ((4 * r4) &&& 31))) (x6 + 1) _ h hE0)
def xf_RP_mostAgreeing (p0 : Int32) (p1 : Int32) (p2 : Int32) (σ : rb_St) : Option Int32 := rb_b1 (xl_RP_mostAgreeing_9 p0 p1 p2 σ rb_FU 0 0 0) fun y8 => some y8
set_option maxHeartbeats 4000000 in
set_option maxRecDepth 100000 in
theorem xk_RP_mostAgreeing {z : rb_Z} {w : rb_Wd} (hC : rb_Cx z rb_vX w RX11 cX11_mostAgreeing 8 (some .int) 2) (p0 : Int32) (p1 : Int32) (p2 : Int32) (σ : rb_St) (r : Int32) (h : xf_RP_mostAgreeing p0 p1 p2 σ = some r) : rb_At z rb_vX w 8 (rb_Q z rb_vX w (some (.int r)) σ) 0 [(0, .ref (rb_ad w 0)), (1, .int p0), (2, .int p1), (3, .int p2)] [] σ := by
  unfold xf_RP_mostAgreeing at h
  refine rb_iconst (x := 0) hC dX11_mostAgreeing_0 (by decide) ?_
  refine rb_istore hC [(4, .int 0), (0, .ref (rb_ad w 0)), (1, .int p0), (2, .int p1), (3, .int p2)] dX11_mostAgreeing_1 (by decide) rfl ?_
  refine rb_iconst (x := 0) hC dX11_mostAgreeing_3 (by decide) ?_
  refine rb_istore hC [(5, .int 0), (4, .int 0), (0, .ref (rb_ad w 0)), (1, .int p0), (2, .int p1), (3, .int p2)] dX11_mostAgreeing_4 (by decide) rfl ?_
  refine rb_iconst (x := 0) hC dX11_mostAgreeing_6 (by decide) ?_
  refine rb_istore hC [(6, .int 0), (5, .int 0), (4, .int 0), (0, .ref (rb_ad w 0)), (1, .int p0), (2, .int p1), (3, .int p2)] dX11_mostAgreeing_7 (by decide) rfl ?_
  obtain ⟨y8, q9, h⟩ := rb_b1s h
  refine rb_sub (lv2 := [(0, .ref (rb_ad w 0)), (1, .int p0), (2, .int p1), (3, .int p2), (4, .int 0), (5, .int 0), (6, .int 0)]) [3, 4, 5, 6, 2, 1, 0] rfl ?_
  refine xt_RP_mostAgreeing_9 hC p0 p1 p2 σ rb_FU 0 0 0 _ q9 ?_
  refine rb_iload hC 0 dX11_mostAgreeing_74 rfl ?_
  cases h
  exact rb_iret hC dX11_mostAgreeing_76
theorem xc_RP_mostAgreeing (p0 : Int32) (p1 : Int32) (p2 : Int32) (σ : rb_St) (r : Int32) (h : xf_RP_mostAgreeing p0 p1 p2 σ = some r) : rb_Con rb_vX yX11_mostAgreeing cX11_mostAgreeing 8 (some .int) 2 (fun w => [.ref (rb_ad w 0), .int p0, .int p1, .int p2]) σ (fun _ => (some (.int r))) σ := rb_Con.of (by decide +kernel) (fun _ => Nat.le_of_ble_eq_true rfl) (fun z w hC => xk_RP_mostAgreeing hC p0 p1 p2 σ r h)
def xf_M_in (p0 : Int32) (p1 : Int32) (p2 : Int32) (σ : rb_St) : Int32 := if p0 < p1 then 0 else if p2 < p0 then 0 else 1
set_option maxHeartbeats 4000000 in
set_option maxRecDepth 100000 in
theorem xk_M_in {z : rb_Z} {w : rb_Wd} (hC : rb_Cx z rb_vM w RX12 cX12_in 3 (some .boolean) 0) (p0 : Int32) (p1 : Int32) (p2 : Int32) (σ : rb_St) (r : Int32) (h : xf_M_in p0 p1 p2 σ = r) : rb_At z rb_vM w 3 (rb_Q z rb_vM w (some (.int r)) σ) 0 [(0, .int p0), (1, .int p1), (2, .int p2)] [] σ := by
  unfold xf_M_in at h
  refine rb_iload_n hC 0 dX12_in_0 rfl ?_
  refine rb_iload_n hC 1 dX12_in_1 rfl ?_
  refine rb_icmp_lt hC 14 dX12_in_2 (by decide) (fun c1 => ?_) (fun c1 => ?_)
  · replace h := rb_ifp c1 h
    refine rb_iconst (x := 0) hC dX12_in_14 (by decide) ?_
    subst h
    exact rb_zret hC rfl dX12_in_15
  · replace h := rb_ifn c1 h
    refine rb_iload_n hC 0 dX12_in_5 rfl ?_
    refine rb_iload_n hC 2 dX12_in_6 rfl ?_
    refine rb_icmp_gt hC 14 dX12_in_7 (by decide) (fun c2 => ?_) (fun c2 => ?_)
    · replace h := rb_ifp c2 h
      refine rb_iconst (x := 0) hC dX12_in_14 (by decide) ?_
      subst h
      exact rb_zret hC rfl dX12_in_15
    · replace h := rb_ifn c2 h
      refine rb_iconst (x := 1) hC dX12_in_10 (by decide) ?_
      refine rb_goto hC 15 dX12_in_11 (by decide) ?_
      subst h
      exact rb_zret hC rfl dX12_in_15
theorem xc_M_in (p0 : Int32) (p1 : Int32) (p2 : Int32) (σ : rb_St) (r : Int32) (h : xf_M_in p0 p1 p2 σ = r) : rb_Con rb_vM yX12_in cX12_in 3 (some .boolean) 0 (fun w => [.int p0, .int p1, .int p2]) σ (fun _ => (some (.int r))) σ := rb_Con.of (by decide +kernel) (fun _ => Nat.le_of_ble_eq_true rfl) (fun z w hC => xk_M_in hC p0 p1 p2 σ r h)
def xf_M_has (p0 : Int32) (p1 : Int32) (σ : rb_St) : Int32 := if ((p0 >>> (p1 &&& 31)) &&& 1) = 1 then 1 else 0
set_option maxHeartbeats 4000000 in
set_option maxRecDepth 100000 in
theorem xk_M_has {z : rb_Z} {w : rb_Wd} (hC : rb_Cx z rb_vM w RX12 cX12_has 2 (some .boolean) 0) (p0 : Int32) (p1 : Int32) (σ : rb_St) (r : Int32) (h : xf_M_has p0 p1 σ = r) : rb_At z rb_vM w 2 (rb_Q z rb_vM w (some (.int r)) σ) 0 [(0, .int p0), (1, .int p1)] [] σ := by
  unfold xf_M_has at h
  refine rb_iload_n hC 0 dX12_has_0 rfl ?_
  refine rb_iload_n hC 1 dX12_has_1 rfl ?_
  refine rb_ishr hC dX12_has_2 ?_
  refine rb_iconst (x := 1) hC dX12_has_3 (by decide) ?_
  refine rb_iand hC dX12_has_4 ?_
  refine rb_iconst (x := 1) hC dX12_has_5 (by decide) ?_
  refine rb_icmp_ne hC 13 dX12_has_6 (by decide) (fun c1 => ?_) (fun c1 => ?_)
  · replace h := rb_ifn c1 h
    refine rb_iconst (x := 0) hC dX12_has_13 (by decide) ?_
    subst h
    exact rb_zret hC rfl dX12_has_14
  · replace h := rb_ifp c1 h
    refine rb_iconst (x := 1) hC dX12_has_9 (by decide) ?_
    refine rb_goto hC 14 dX12_has_10 (by decide) ?_
    subst h
    exact rb_zret hC rfl dX12_has_14
theorem xc_M_has (p0 : Int32) (p1 : Int32) (σ : rb_St) (r : Int32) (h : xf_M_has p0 p1 σ = r) : rb_Con rb_vM yX12_has cX12_has 2 (some .boolean) 0 (fun w => [.int p0, .int p1]) σ (fun _ => (some (.int r))) σ := rb_Con.of (by decide +kernel) (fun _ => Nat.le_of_ble_eq_true rfl) (fun z w hC => xk_M_has hC p0 p1 σ r h)
theorem fr_X12_114_11 : rb_FR RX12 114 11 0 := ⟨RX12, TX12, 50, "RibbonPoleModel", rfl, rb_uX12, by decide, rb_in (by decide +kernel) (by decide +kernel), Or.inl rfl⟩
def xf_M_thrown  (σ : rb_St) : Int32 := σ.1 0 0
set_option maxHeartbeats 4000000 in
set_option maxRecDepth 100000 in
theorem xk_M_thrown {z : rb_Z} {w : rb_Wd} (hC : rb_Cx z rb_vM w RX12 cX12_thrown 1 (some .int) 0)  (σ : rb_St) (r : Int32) (h : xf_M_thrown σ = r) : rb_At z rb_vM w 1 (rb_Q z rb_vM w (some (.int r)) σ) 0 [(0, .ref (rb_ad w 0))] [] σ := by
  unfold xf_M_thrown at h
  refine rb_aload_n hC 0 dX12_thrown_0 rfl ?_
  refine rb_getI hC fr_X12_114_11 rb_obM0 rfl dX12_thrown_1 ?_
  subst h
  exact rb_iret hC dX12_thrown_4
theorem xc_M_thrown  (σ : rb_St) (r : Int32) (h : xf_M_thrown σ = r) : rb_Con rb_vM yX12_thrown cX12_thrown 1 (some .int) 0 (fun w => [.ref (rb_ad w 0)]) σ (fun _ => (some (.int r))) σ := rb_Con.of (by decide +kernel) (fun _ => Nat.le_of_ble_eq_true rfl) (fun z w hC => xk_M_thrown hC  σ r h)
def xf_M_byteOf (p0 : Int32) (p1 : Int32) (p2 : Int32) (p3 : Int32) (p4 : Int32) (p5 : Int32) (σ : rb_St) : Int32 := if 4 ≤ p5 then if 8 ≤ p5 then if 12 ≤ p5 then if 16 ≤ p5 then (p4 >>> ((24 - (8 * (p5 - p5 / 4 * 4))) &&& 31)) &&& 255 else (p3 >>> ((24 - (8 * (p5 - p5 / 4 * 4))) &&& 31)) &&& 255 else (p2 >>> ((24 - (8 * (p5 - p5 / 4 * 4))) &&& 31)) &&& 255 else (p1 >>> ((24 - (8 * (p5 - p5 / 4 * 4))) &&& 31)) &&& 255 else (p0 >>> ((24 - (8 * (p5 - p5 / 4 * 4))) &&& 31)) &&& 255
set_option maxHeartbeats 4000000 in
set_option maxRecDepth 100000 in
theorem xk_M_byteOf {z : rb_Z} {w : rb_Wd} (hC : rb_Cx z rb_vM w RX12 cX12_byteOf 7 (some .int) 0) (p0 : Int32) (p1 : Int32) (p2 : Int32) (p3 : Int32) (p4 : Int32) (p5 : Int32) (σ : rb_St) (r : Int32) (h : xf_M_byteOf p0 p1 p2 p3 p4 p5 σ = r) : rb_At z rb_vM w 7 (rb_Q z rb_vM w (some (.int r)) σ) 0 [(0, .int p0), (1, .int p1), (2, .int p2), (3, .int p3), (4, .int p4), (5, .int p5)] [] σ := by
  unfold xf_M_byteOf at h
  refine rb_iload hC 5 dX12_byteOf_0 rfl ?_
  refine rb_iconst (x := 4) hC dX12_byteOf_2 (by decide) ?_
  refine rb_icmp_ge hC 10 dX12_byteOf_3 (by decide) (fun c1 => ?_) (fun c1 => ?_)
  · replace h := rb_ifp c1 h
    refine rb_iload hC 5 dX12_byteOf_10 rfl ?_
    refine rb_bipush (x := 8) hC dX12_byteOf_12 (by decide) ?_
    refine rb_icmp_ge hC 21 dX12_byteOf_14 (by decide) (fun c2 => ?_) (fun c2 => ?_)
    · replace h := rb_ifp c2 h
      refine rb_iload hC 5 dX12_byteOf_21 rfl ?_
      refine rb_bipush (x := 12) hC dX12_byteOf_23 (by decide) ?_
      refine rb_icmp_ge hC 32 dX12_byteOf_25 (by decide) (fun c3 => ?_) (fun c3 => ?_)
      · replace h := rb_ifp c3 h
        refine rb_iload hC 5 dX12_byteOf_32 rfl ?_
        refine rb_bipush (x := 16) hC dX12_byteOf_34 (by decide) ?_
        refine rb_icmp_ge hC 43 dX12_byteOf_36 (by decide) (fun c4 => ?_) (fun c4 => ?_)
        · replace h := rb_ifp c4 h
          refine rb_iload hC 4 dX12_byteOf_43 rfl ?_
          refine rb_istore hC [(6, .int p4), (0, .int p0), (1, .int p1), (2, .int p2), (3, .int p3), (4, .int p4), (5, .int p5)] dX12_byteOf_45 (by decide) rfl ?_
          refine rb_iload hC 0 dX12_byteOf_47 rfl ?_
          refine rb_bipush (x := 24) hC dX12_byteOf_49 (by decide) ?_
          refine rb_bipush (x := 8) hC dX12_byteOf_51 (by decide) ?_
          refine rb_iload hC 6 dX12_byteOf_53 rfl ?_
          refine rb_iconst (x := 4) hC dX12_byteOf_55 (by decide) ?_
          refine rb_irem hC dX12_byteOf_56 (by decide) ?_
          refine rb_imul hC dX12_byteOf_57 ?_
          refine rb_isub hC dX12_byteOf_58 ?_
          refine rb_ishr hC dX12_byteOf_59 ?_
          refine rb_sipush (x := 255) hC dX12_byteOf_60 (by decide) ?_
          refine rb_iand hC dX12_byteOf_63 ?_
          subst h
          exact rb_iret hC dX12_byteOf_64
        · replace h := rb_ifn c4 h
          refine rb_iload_n hC 3 dX12_byteOf_39 rfl ?_
          refine rb_goto hC 45 dX12_byteOf_40 (by decide) ?_
          refine rb_istore hC [(6, .int p3), (0, .int p0), (1, .int p1), (2, .int p2), (3, .int p3), (4, .int p4), (5, .int p5)] dX12_byteOf_45 (by decide) rfl ?_
          refine rb_iload hC 0 dX12_byteOf_47 rfl ?_
          refine rb_bipush (x := 24) hC dX12_byteOf_49 (by decide) ?_
          refine rb_bipush (x := 8) hC dX12_byteOf_51 (by decide) ?_
          refine rb_iload hC 6 dX12_byteOf_53 rfl ?_
          refine rb_iconst (x := 4) hC dX12_byteOf_55 (by decide) ?_
          refine rb_irem hC dX12_byteOf_56 (by decide) ?_
          refine rb_imul hC dX12_byteOf_57 ?_
          refine rb_isub hC dX12_byteOf_58 ?_
          refine rb_ishr hC dX12_byteOf_59 ?_
          refine rb_sipush (x := 255) hC dX12_byteOf_60 (by decide) ?_
          refine rb_iand hC dX12_byteOf_63 ?_
          subst h
          exact rb_iret hC dX12_byteOf_64
      · replace h := rb_ifn c3 h
        refine rb_iload_n hC 2 dX12_byteOf_28 rfl ?_
        refine rb_goto hC 45 dX12_byteOf_29 (by decide) ?_
        refine rb_istore hC [(6, .int p2), (0, .int p0), (1, .int p1), (2, .int p2), (3, .int p3), (4, .int p4), (5, .int p5)] dX12_byteOf_45 (by decide) rfl ?_
        refine rb_iload hC 0 dX12_byteOf_47 rfl ?_
        refine rb_bipush (x := 24) hC dX12_byteOf_49 (by decide) ?_
        refine rb_bipush (x := 8) hC dX12_byteOf_51 (by decide) ?_
        refine rb_iload hC 6 dX12_byteOf_53 rfl ?_
        refine rb_iconst (x := 4) hC dX12_byteOf_55 (by decide) ?_
        refine rb_irem hC dX12_byteOf_56 (by decide) ?_
        refine rb_imul hC dX12_byteOf_57 ?_
        refine rb_isub hC dX12_byteOf_58 ?_
        refine rb_ishr hC dX12_byteOf_59 ?_
        refine rb_sipush (x := 255) hC dX12_byteOf_60 (by decide) ?_
        refine rb_iand hC dX12_byteOf_63 ?_
        subst h
        exact rb_iret hC dX12_byteOf_64
    · replace h := rb_ifn c2 h
      refine rb_iload_n hC 1 dX12_byteOf_17 rfl ?_
      refine rb_goto hC 45 dX12_byteOf_18 (by decide) ?_
      refine rb_istore hC [(6, .int p1), (0, .int p0), (1, .int p1), (2, .int p2), (3, .int p3), (4, .int p4), (5, .int p5)] dX12_byteOf_45 (by decide) rfl ?_
      refine rb_iload hC 0 dX12_byteOf_47 rfl ?_
      refine rb_bipush (x := 24) hC dX12_byteOf_49 (by decide) ?_
      refine rb_bipush (x := 8) hC dX12_byteOf_51 (by decide) ?_
      refine rb_iload hC 6 dX12_byteOf_53 rfl ?_
      refine rb_iconst (x := 4) hC dX12_byteOf_55 (by decide) ?_
      refine rb_irem hC dX12_byteOf_56 (by decide) ?_
      refine rb_imul hC dX12_byteOf_57 ?_
      refine rb_isub hC dX12_byteOf_58 ?_
      refine rb_ishr hC dX12_byteOf_59 ?_
      refine rb_sipush (x := 255) hC dX12_byteOf_60 (by decide) ?_
      refine rb_iand hC dX12_byteOf_63 ?_
      subst h
      exact rb_iret hC dX12_byteOf_64
  · replace h := rb_ifn c1 h
    refine rb_iload_n hC 0 dX12_byteOf_6 rfl ?_
    refine rb_goto hC 45 dX12_byteOf_7 (by decide) ?_
    refine rb_istore hC [(6, .int p0), (0, .int p0), (1, .int p1), (2, .int p2), (3, .int p3), (4, .int p4), (5, .int p5)] dX12_byteOf_45 (by decide) rfl ?_
    refine rb_iload hC 0 dX12_byteOf_47 rfl ?_
    refine rb_bipush (x := 24) hC dX12_byteOf_49 (by decide) ?_
    refine rb_bipush (x := 8) hC dX12_byteOf_51 (by decide) ?_
    refine rb_iload hC 6 dX12_byteOf_53 rfl ?_
    refine rb_iconst (x := 4) hC dX12_byteOf_55 (by decide) ?_
    refine rb_irem hC dX12_byteOf_56 (by decide) ?_
    refine rb_imul hC dX12_byteOf_57 ?_
    refine rb_isub hC dX12_byteOf_58 ?_
    refine rb_ishr hC dX12_byteOf_59 ?_
    refine rb_sipush (x := 255) hC dX12_byteOf_60 (by decide) ?_
    refine rb_iand hC dX12_byteOf_63 ?_
    subst h
    exact rb_iret hC dX12_byteOf_64
theorem xc_M_byteOf (p0 : Int32) (p1 : Int32) (p2 : Int32) (p3 : Int32) (p4 : Int32) (p5 : Int32) (σ : rb_St) (r : Int32) (h : xf_M_byteOf p0 p1 p2 p3 p4 p5 σ = r) : rb_Con rb_vM yX12_byteOf cX12_byteOf 7 (some .int) 0 (fun w => [.int p0, .int p1, .int p2, .int p3, .int p4, .int p5]) σ (fun _ => (some (.int r))) σ := rb_Con.of (by decide +kernel) (fun _ => Nat.le_of_ble_eq_true rfl) (fun z w hC => xk_M_byteOf hC p0 p1 p2 p3 p4 p5 σ r h)
theorem me_X12_byteOf : Cond.static yX12_byteOf ∈ rb_tbl ∧ Cond.initialized yX12_byteOf.cls ∈ rb_tbl ∧ Cond.code yX12_byteOf cX12_byteOf 7 (some .int) ∈ rb_tbl ∧ rb_pn yX12_byteOf 6 := ⟨rb_in (by decide +kernel) (by decide +kernel), rb_in (by decide +kernel) (by decide +kernel), rb_in (by decide +kernel) (by decide +kernel), by decide +kernel, by decide +kernel, by decide +kernel⟩
theorem mv_X12_117 : rb_MS RX12 117 yX12_byteOf cX12_byteOf 7 (some .int) 6 := ⟨rb_in (by decide +kernel) (by decide +kernel), me_X12_byteOf⟩
theorem fr_X12_121_11 : rb_FR RX12 121 11 2 := ⟨RX12, TX12, 50, "RibbonPoleModel", rfl, rb_uX12, by decide, rb_in (by decide +kernel) (by decide +kernel), Or.inl rfl⟩
theorem fr_X12_9_11 : rb_FR RX12 9 11 1 := ⟨RX12, TX12, 50, "RibbonPoleModel", rfl, rb_uX12, by decide, rb_in (by decide +kernel) (by decide +kernel), Or.inl rfl⟩
theorem ft_11_2 : rb_Ty 11 2 .int := ⟨RX12, TX12, 50, tyX12, rfl, tyX12_ok, nmX12, rfl, by decide +kernel⟩
def xl_M_feed_6 (x1 : Int32) (x2 : Int32) (x3 : Int32) (x4 : Int32) (x5 : Int32) (σ : rb_St) : Nat → Int32 → Int32 → Option (Int32)
  | 0, _, _ => none
  | n + 1, x6, x7 => if 20 ≤ x7 then some x6 else if (xf_M_byteOf x1 x2 x3 x4 x5 x7 σ) = 0 then xl_M_feed_6 x1 x2 x3 x4 x5 σ n (x6 + 0) (x7 + 1) else xl_M_feed_6 x1 x2 x3 x4 x5 σ n (x6 + 1) (x7 + 1)
set_option maxHeartbeats 4000000 in
set_option maxRecDepth 100000 in
theorem xt_M_feed_6 {z : rb_Z} {w : rb_Wd} {Q : State → Prop} (hC : rb_Cx z rb_vM w RX12 cX12_feed 9 (some .int) 1) (x1 : Int32) (x2 : Int32) (x3 : Int32) (x4 : Int32) (x5 : Int32) (σ : rb_St) : ∀ (n : Nat) (x6 : Int32) (x7 : Int32) (y6 : Int32), xl_M_feed_6 x1 x2 x3 x4 x5 σ n x6 x7 = some y6 → rb_At z rb_vM w 9 Q 44 [(0, .ref (rb_ad w 0)), (1, .int x1), (2, .int x2), (3, .int x3), (4, .int x4), (5, .int x5), (6, .int y6)] [] σ → rb_At z rb_vM w 9 Q 6 [(0, .ref (rb_ad w 0)), (1, .int x1), (2, .int x2), (3, .int x3), (4, .int x4), (5, .int x5), (6, .int x6), (7, .int x7)] [] σ := by
  intro n
  induction n with
  | zero =>
    intro x6 x7 y6 h hE0
    cases h
  | succ n ih =>
    intro x6 x7 y6 h hE0
    rw [xl_M_feed_6] at h
    refine rb_iload hC 7 dX12_feed_6 rfl ?_
    refine rb_bipush (x := 20) hC dX12_feed_8 (by decide) ?_
    refine rb_icmp_ge hC 44 dX12_feed_10 (by decide) (fun c1 => ?_) (fun c1 => ?_)
    · replace h := rb_ifp c1 h
      cases h
      exact rb_sub [0, 1, 2, 3, 4, 5, 6] rfl (hE0)
    · replace h := rb_ifn c1 h
      refine rb_iload hC 6 dX12_feed_13 rfl ?_
      refine rb_iload_n hC 1 dX12_feed_15 rfl ?_
      refine rb_iload_n hC 2 dX12_feed_16 rfl ?_
      refine rb_iload_n hC 3 dX12_feed_17 rfl ?_
      refine rb_iload hC 4 dX12_feed_18 rfl ?_
      refine rb_iload hC 5 dX12_feed_20 rfl ?_
      refine rb_iload hC 7 dX12_feed_22 rfl ?_
      refine rb_callSi hC rb_VokM mv_X12_117 (xc_M_byteOf x1 x2 x3 x4 x5 x7 σ _ rfl) [.int x1, .int x2, .int x3, .int x4, .int x5, .int x7] rfl rfl rfl ⟨Nat.le_of_ble_eq_true rfl, Nat.le_of_ble_eq_true rfl⟩ (Nat.le_of_ble_eq_true rfl) dX12_feed_24 ?_
      refine rb_if_eq hC 34 dX12_feed_27 (by decide) (fun c2 => ?_) (fun c2 => ?_)
      · replace h := rb_ifp c2 h
        refine rb_iconst (x := 0) hC dX12_feed_34 (by decide) ?_
        refine rb_iadd hC dX12_feed_35 ?_
        refine rb_istore hC [(6, .int (x6 + 0)), (0, .ref (rb_ad w 0)), (1, .int x1), (2, .int x2), (3, .int x3), (4, .int x4), (5, .int x5), (7, .int x7)] dX12_feed_36 (by decide) rfl ?_
        refine rb_iinc hC 7 [(7, .int (x7 + 1)), (6, .int (x6 + 0)), (0, .ref (rb_ad w 0)), (1, .int x1), (2, .int x2), (3, .int x3), (4, .int x4), (5, .int x5)] dX12_feed_38 rfl rfl (by decide) rfl ?_
        refine rb_goto hC 6 dX12_feed_41 (by decide) ?_
        exact rb_sub [2, 3, 4, 5, 6, 7, 1, 0] rfl (ih (x6 + 0) (x7 + 1) _ h hE0)
      · replace h := rb_ifn c2 h
        refine rb_iconst (x := 1) hC dX12_feed_30 (by decide) ?_
        refine rb_goto hC 35 dX12_feed_31 (by decide) ?_
        refine rb_iadd hC dX12_feed_35 ?_
        refine rb_istore hC [(6, .int (x6 + 1)), (0, .ref (rb_ad w 0)), (1, .int x1), (2, .int x2), (3, .int x3), (4, .int x4), (5, .int x5), (7, .int x7)] dX12_feed_36 (by decide) rfl ?_
        refine rb_iinc hC 7 [(7, .int (x7 + 1)), (6, .int (x6 + 1)), (0, .ref (rb_ad w 0)), (1, .int x1), (2, .int x2), (3, .int x3), (4, .int x4), (5, .int x5)] dX12_feed_38 rfl rfl (by decide) rfl ?_
        refine rb_goto hC 6 dX12_feed_41 (by decide) ?_
        exact rb_sub [2, 3, 4, 5, 6, 7, 1, 0] rfl (ih (x6 + 1) (x7 + 1) _ h hE0)
def xl_M_feed_62 (x1 : Int32) (x2 : Int32) (x3 : Int32) (x4 : Int32) (x5 : Int32) : Nat → Int32 → rb_St → Option (rb_St)
  | 0, _, _ => none
  | n + 1, x7, σ => if 20 ≤ x7 then some σ else rb_lt (xf_M_byteOf x1 x2 x3 x4 x5 x7 σ) (fun v7 => if v7 = 0 then xl_M_feed_62 x1 x2 x3 x4 x5 n (x7 + 1) σ else if rb_ib (σ.1 0 2) 240 then rb_lt (rb_sI σ 1 (σ.1 0 2).toNatClampNeg v7) (fun s11 => rb_lt (rb_sI s11 0 2 ((s11.1 0 2) + 1)) (fun s13 => xl_M_feed_62 x1 x2 x3 x4 x5 n (x7 + 1) s13)) else none)
set_option maxHeartbeats 4000000 in
set_option maxRecDepth 100000 in
theorem xt_M_feed_62 {z : rb_Z} {w : rb_Wd} {Q : State → Prop} (hC : rb_Cx z rb_vM w RX12 cX12_feed 9 (some .int) 1) (x1 : Int32) (x2 : Int32) (x3 : Int32) (x4 : Int32) (x5 : Int32) : ∀ (n : Nat) (x7 : Int32) (σ : rb_St) (σ9 : rb_St), xl_M_feed_62 x1 x2 x3 x4 x5 n x7 σ = some σ9 → rb_At z rb_vM w 9 Q 115 [(0, .ref (rb_ad w 0))] [] σ9 → rb_At z rb_vM w 9 Q 62 [(0, .ref (rb_ad w 0)), (1, .int x1), (2, .int x2), (3, .int x3), (4, .int x4), (5, .int x5), (7, .int x7)] [] σ := by
  intro n
  induction n with
  | zero =>
    intro x7 σ σ9 h hE0
    cases h
  | succ n ih =>
    intro x7 σ σ9 h hE0
    rw [xl_M_feed_62] at h
    refine rb_iload hC 6 dX12_feed_62 rfl ?_
    refine rb_bipush (x := 20) hC dX12_feed_64 (by decide) ?_
    refine rb_icmp_ge hC 115 dX12_feed_66 (by decide) (fun c6 => ?_) (fun c6 => ?_)
    · replace h := rb_ifp c6 h
      cases h
      exact rb_sub [0] rfl (hE0)
    · replace h := rb_ifn c6 h
      refine rb_iload_n hC 1 dX12_feed_69 rfl ?_
      refine rb_iload_n hC 2 dX12_feed_70 rfl ?_
      refine rb_iload_n hC 3 dX12_feed_71 rfl ?_
      refine rb_iload hC 4 dX12_feed_72 rfl ?_
      refine rb_iload hC 5 dX12_feed_74 rfl ?_
      refine rb_iload hC 6 dX12_feed_76 rfl ?_
      refine rb_callSi hC rb_VokM mv_X12_117 (xc_M_byteOf x1 x2 x3 x4 x5 x7 σ _ rfl) [.int x1, .int x2, .int x3, .int x4, .int x5, .int x7] rfl rfl rfl ⟨Nat.le_of_ble_eq_true rfl, Nat.le_of_ble_eq_true rfl⟩ (Nat.le_of_ble_eq_true rfl) dX12_feed_78 ?_
      obtain ⟨v7, e8, h⟩ := rb_ltE h
      refine rb_nmI e8 ?_
      refine rb_istore hC [(8, .int v7), (0, .ref (rb_ad w 0)), (1, .int x1), (2, .int x2), (3, .int x3), (4, .int x4), (5, .int x5), (7, .int x7)] dX12_feed_81 (by decide) rfl ?_
      refine rb_iload hC 0 dX12_feed_83 rfl ?_
      refine rb_if_eq hC 109 dX12_feed_85 (by decide) (fun c9 => ?_) (fun c9 => ?_)
      · replace h := rb_ifp c9 h
        refine rb_iinc hC 7 [(7, .int (x7 + 1)), (8, .int v7), (0, .ref (rb_ad w 0)), (1, .int x1), (2, .int x2), (3, .int x3), (4, .int x4), (5, .int x5)] dX12_feed_109 rfl rfl (by decide) rfl ?_
        refine rb_goto hC 62 dX12_feed_112 (by decide) ?_
        exact rb_sub [2, 3, 4, 5, 6, 7, 0] rfl (ih (x7 + 1) σ _ h hE0)
      · replace h := rb_ifn c9 h
        refine rb_aload_n hC 1 dX12_feed_88 rfl ?_
        refine rb_getR hC fr_X12_9_11 rb_obM0 rfl dX12_feed_89 ?_
        refine rb_aload_n hC 1 dX12_feed_92 rfl ?_
        refine rb_getI hC fr_X12_121_11 rb_obM0 rfl dX12_feed_93 ?_
        refine rb_iload hC 0 dX12_feed_96 rfl ?_
        obtain ⟨g10, h⟩ := rb_gd h
        refine rb_iast hC rb_arM1 (rb_ibI g10) dX12_feed_98 ?_
        obtain ⟨s11, e12, h⟩ := rb_ltE h
        refine rb_nmS e12 ?_
        refine rb_aload_n hC 1 dX12_feed_99 rfl ?_
        refine rb_dup hC dX12_feed_100 rfl ?_
        refine rb_getI hC fr_X12_121_11 rb_obM0 rfl dX12_feed_101 ?_
        refine rb_iconst (x := 1) hC dX12_feed_104 (by decide) ?_
        refine rb_iadd hC dX12_feed_105 ?_
        refine rb_putI hC fr_X12_121_11 ft_11_2 rb_obM0 rfl rfl rfl dX12_feed_106 ?_
        obtain ⟨s13, e14, h⟩ := rb_ltE h
        refine rb_nmS e14 ?_
        refine rb_iinc hC 7 [(7, .int (x7 + 1)), (8, .int v7), (0, .ref (rb_ad w 0)), (1, .int x1), (2, .int x2), (3, .int x3), (4, .int x4), (5, .int x5)] dX12_feed_109 rfl rfl (by decide) rfl ?_
        refine rb_goto hC 62 dX12_feed_112 (by decide) ?_
        exact rb_sub [2, 3, 4, 5, 6, 7, 0] rfl (ih (x7 + 1) s13 _ h hE0)
def xf_M_feed (p0 : Int32) (p1 : Int32) (p2 : Int32) (p3 : Int32) (p4 : Int32) (σ : rb_St) : Option (Int32 × rb_St) := rb_b1 (xl_M_feed_6 p0 p1 p2 p3 p4 σ rb_FU 0 0) fun y3 => if ((σ.1 0 2) + y3) ≤ 240 then rb_b1 (xl_M_feed_62 p0 p1 p2 p3 p4 rb_FU 0 σ) fun s15 => some (s15.1 0 2, s15) else some ((-1), σ)
set_option maxHeartbeats 4000000 in
set_option maxRecDepth 100000 in
theorem xk_M_feed {z : rb_Z} {w : rb_Wd} (hC : rb_Cx z rb_vM w RX12 cX12_feed 9 (some .int) 1) (p0 : Int32) (p1 : Int32) (p2 : Int32) (p3 : Int32) (p4 : Int32) (σ : rb_St) (r : Int32) (σ9 : rb_St) (h : xf_M_feed p0 p1 p2 p3 p4 σ = some (r, σ9)) : rb_At z rb_vM w 9 (rb_Q z rb_vM w (some (.int r)) σ9) 0 [(0, .ref (rb_ad w 0)), (1, .int p0), (2, .int p1), (3, .int p2), (4, .int p3), (5, .int p4)] [] σ := by
  unfold xf_M_feed at h
  refine rb_iconst (x := 0) hC dX12_feed_0 (by decide) ?_
  refine rb_istore hC [(6, .int 0), (0, .ref (rb_ad w 0)), (1, .int p0), (2, .int p1), (3, .int p2), (4, .int p3), (5, .int p4)] dX12_feed_1 (by decide) rfl ?_
  refine rb_iconst (x := 0) hC dX12_feed_3 (by decide) ?_
  refine rb_istore hC [(7, .int 0), (6, .int 0), (0, .ref (rb_ad w 0)), (1, .int p0), (2, .int p1), (3, .int p2), (4, .int p3), (5, .int p4)] dX12_feed_4 (by decide) rfl ?_
  obtain ⟨y3, q4, h⟩ := rb_b1s h
  refine rb_sub (lv2 := [(0, .ref (rb_ad w 0)), (1, .int p0), (2, .int p1), (3, .int p2), (4, .int p3), (5, .int p4), (6, .int 0), (7, .int 0)]) [2, 3, 4, 5, 6, 7, 1, 0] rfl ?_
  refine xt_M_feed_6 hC p0 p1 p2 p3 p4 σ rb_FU 0 0 _ q4 ?_
  refine rb_aload_n hC 0 dX12_feed_44 rfl ?_
  refine rb_getI hC fr_X12_121_11 rb_obM0 rfl dX12_feed_45 ?_
  refine rb_iload hC 6 dX12_feed_48 rfl ?_
  refine rb_iadd hC dX12_feed_50 ?_
  refine rb_sipush (x := 240) hC dX12_feed_51 (by decide) ?_
  refine rb_icmp_le hC 59 dX12_feed_54 (by decide) (fun c5 => ?_) (fun c5 => ?_)
  · replace h := rb_ifp c5 h
    refine rb_iconst (x := 0) hC dX12_feed_59 (by decide) ?_
    refine rb_istore hC [(7, .int 0), (0, .ref (rb_ad w 0)), (1, .int p0), (2, .int p1), (3, .int p2), (4, .int p3), (5, .int p4), (6, .int y3)] dX12_feed_60 (by decide) rfl ?_
    obtain ⟨s15, q16, h⟩ := rb_b1s h
    refine rb_sub (lv2 := [(0, .ref (rb_ad w 0)), (1, .int p0), (2, .int p1), (3, .int p2), (4, .int p3), (5, .int p4), (7, .int 0)]) [1, 2, 3, 4, 5, 6, 0] rfl ?_
    refine xt_M_feed_62 hC p0 p1 p2 p3 p4 rb_FU 0 σ _ q16 ?_
    refine rb_aload_n hC 0 dX12_feed_115 rfl ?_
    refine rb_getI hC fr_X12_121_11 rb_obM0 rfl dX12_feed_116 ?_
    cases h
    exact rb_iret hC dX12_feed_119
  · replace h := rb_ifn c5 h
    refine rb_iconst (x := (-1)) hC dX12_feed_57 (by decide) ?_
    cases h
    exact rb_iret hC dX12_feed_58
theorem xc_M_feed (p0 : Int32) (p1 : Int32) (p2 : Int32) (p3 : Int32) (p4 : Int32) (σ : rb_St) (r : Int32) (σ9 : rb_St) (h : xf_M_feed p0 p1 p2 p3 p4 σ = some (r, σ9)) : rb_Con rb_vM yX12_feed cX12_feed 9 (some .int) 1 (fun w => [.ref (rb_ad w 0), .int p0, .int p1, .int p2, .int p3, .int p4]) σ (fun _ => (some (.int r))) σ9 := rb_Con.of (by decide +kernel) (fun _ => Nat.le_of_ble_eq_true rfl) (fun z w hC => xk_M_feed hC p0 p1 p2 p3 p4 σ r σ9 h)
def xf_M_end (p0 : Int32) (σ : rb_St) : Option (Int32 × rb_St) := if p0 < 0 then some (0, σ) else if p0 ≤ (σ.1 0 2) then rb_lt (rb_sI σ 0 2 p0) (fun s3 => some (1, s3)) else some (0, σ)
set_option maxHeartbeats 4000000 in
set_option maxRecDepth 100000 in
theorem xk_M_end {z : rb_Z} {w : rb_Wd} (hC : rb_Cx z rb_vM w RX12 cX12_end 2 (some .boolean) 0) (p0 : Int32) (σ : rb_St) (r : Int32) (σ9 : rb_St) (h : xf_M_end p0 σ = some (r, σ9)) : rb_At z rb_vM w 2 (rb_Q z rb_vM w (some (.int r)) σ9) 0 [(0, .ref (rb_ad w 0)), (1, .int p0)] [] σ := by
  unfold xf_M_end at h
  refine rb_iload_n hC 1 dX12_end_0 rfl ?_
  refine rb_if_lt hC 12 dX12_end_1 (by decide) (fun c1 => ?_) (fun c1 => ?_)
  · replace h := rb_ifp c1 h
    refine rb_iconst (x := 0) hC dX12_end_12 (by decide) ?_
    cases h
    exact rb_zret hC rfl dX12_end_13
  · replace h := rb_ifn c1 h
    refine rb_iload_n hC 1 dX12_end_4 rfl ?_
    refine rb_aload_n hC 0 dX12_end_5 rfl ?_
    refine rb_getI hC fr_X12_121_11 rb_obM0 rfl dX12_end_6 ?_
    refine rb_icmp_le hC 14 dX12_end_9 (by decide) (fun c2 => ?_) (fun c2 => ?_)
    · replace h := rb_ifp c2 h
      refine rb_aload_n hC 0 dX12_end_14 rfl ?_
      refine rb_iload_n hC 1 dX12_end_15 rfl ?_
      refine rb_putI hC fr_X12_121_11 ft_11_2 rb_obM0 rfl rfl rfl dX12_end_16 ?_
      obtain ⟨s3, e4, h⟩ := rb_ltE h
      refine rb_nmS e4 ?_
      refine rb_iconst (x := 1) hC dX12_end_19 (by decide) ?_
      cases h
      exact rb_zret hC rfl dX12_end_20
    · replace h := rb_ifn c2 h
      refine rb_iconst (x := 0) hC dX12_end_12 (by decide) ?_
      cases h
      exact rb_zret hC rfl dX12_end_13
theorem xc_M_end (p0 : Int32) (σ : rb_St) (r : Int32) (σ9 : rb_St) (h : xf_M_end p0 σ = some (r, σ9)) : rb_Con rb_vM yX12_end cX12_end 2 (some .boolean) 0 (fun w => [.ref (rb_ad w 0), .int p0]) σ (fun _ => (some (.int r))) σ9 := rb_Con.of (by decide +kernel) (fun _ => Nat.le_of_ble_eq_true rfl) (fun z w hC => xk_M_end hC p0 σ r σ9 h)
theorem fr_X12_124_11 : rb_FR RX12 124 11 3 := ⟨RX12, TX12, 50, "RibbonPoleModel", rfl, rb_uX12, by decide, rb_in (by decide +kernel) (by decide +kernel), Or.inl rfl⟩
def xf_M_here  (σ : rb_St) : Option Int32 := if (σ.1 0 2) ≤ (σ.1 0 3) then some (-1) else if rb_ib (σ.1 0 3) 240 then some (σ.1 1 (σ.1 0 3).toNatClampNeg) else none
set_option maxHeartbeats 4000000 in
set_option maxRecDepth 100000 in
theorem xk_M_here {z : rb_Z} {w : rb_Wd} (hC : rb_Cx z rb_vM w RX12 cX12_here 1 (some .int) 0)  (σ : rb_St) (r : Int32) (h : xf_M_here σ = some r) : rb_At z rb_vM w 1 (rb_Q z rb_vM w (some (.int r)) σ) 0 [(0, .ref (rb_ad w 0))] [] σ := by
  unfold xf_M_here at h
  refine rb_aload_n hC 0 dX12_here_0 rfl ?_
  refine rb_getI hC fr_X12_124_11 rb_obM0 rfl dX12_here_1 ?_
  refine rb_aload_n hC 0 dX12_here_4 rfl ?_
  refine rb_getI hC fr_X12_121_11 rb_obM0 rfl dX12_here_5 ?_
  refine rb_icmp_ge hC 23 dX12_here_8 (by decide) (fun c1 => ?_) (fun c1 => ?_)
  · replace h := rb_ifp c1 h
    refine rb_iconst (x := (-1)) hC dX12_here_23 (by decide) ?_
    cases h
    exact rb_iret hC dX12_here_24
  · replace h := rb_ifn c1 h
    refine rb_aload_n hC 0 dX12_here_11 rfl ?_
    refine rb_getR hC fr_X12_9_11 rb_obM0 rfl dX12_here_12 ?_
    refine rb_aload_n hC 0 dX12_here_15 rfl ?_
    refine rb_getI hC fr_X12_124_11 rb_obM0 rfl dX12_here_16 ?_
    obtain ⟨g2, h⟩ := rb_gd h
    refine rb_iald hC rb_arM1 (rb_ibI g2) dX12_here_19 ?_
    refine rb_goto hC 24 dX12_here_20 (by decide) ?_
    cases h
    exact rb_iret hC dX12_here_24
theorem xc_M_here  (σ : rb_St) (r : Int32) (h : xf_M_here σ = some r) : rb_Con rb_vM yX12_here cX12_here 1 (some .int) 0 (fun w => [.ref (rb_ad w 0)]) σ (fun _ => (some (.int r))) σ := rb_Con.of (by decide +kernel) (fun _ => Nat.le_of_ble_eq_true rfl) (fun z w hC => xk_M_here hC  σ r h)
theorem me_X12_here : Cond.instanceMethod yX12_here ∈ rb_tbl ∧ Cond.selects yX12_here.cls yX12_here yX12_here ∈ rb_tbl ∧ Cond.initialized yX12_here.cls ∈ rb_tbl ∧ Cond.code yX12_here cX12_here 1 (some .int) ∈ rb_tbl ∧ rb_pn yX12_here 0 := ⟨rb_in (by decide +kernel) (by decide +kernel), rb_in (by decide +kernel) (by decide +kernel), rb_in (by decide +kernel) (by decide +kernel), rb_in (by decide +kernel) (by decide +kernel), by decide +kernel, by decide +kernel, by decide +kernel⟩
theorem mv_X12_127 : rb_MV RX12 127 yX12_here cX12_here 1 (some .int) 0 := ⟨rb_in (by decide +kernel) (by decide +kernel), me_X12_here⟩
theorem ft_11_3 : rb_Ty 11 3 .int := ⟨RX12, TX12, 50, tyX12, rfl, tyX12_ok, nmX12, rfl, by decide +kernel⟩
def xl_M_look_0  : Nat → rb_St → Option (rb_St)
  | 0, _ => none
  | n + 1, σ => rb_b1 (xf_M_here σ) fun r1 => if r1 = 32 then rb_lt (rb_sI σ 0 3 ((σ.1 0 3) + 1)) (fun s4 => xl_M_look_0 n s4) else some σ
set_option maxHeartbeats 4000000 in
set_option maxRecDepth 100000 in
theorem xt_M_look_0 {z : rb_Z} {w : rb_Wd} {Q : State → Prop} (hC : rb_Cx z rb_vM w RX12 cX12_look 1 (some .int) 1)  : ∀ (n : Nat) (σ : rb_St) (σ9 : rb_St), xl_M_look_0 n σ = some σ9 → rb_At z rb_vM w 1 Q 22 [(0, .ref (rb_ad w 0))] [] σ9 → rb_At z rb_vM w 1 Q 0 [(0, .ref (rb_ad w 0))] [] σ := by
  intro n
  induction n with
  | zero =>
    intro σ σ9 h hE0
    cases h
  | succ n ih =>
    intro σ σ9 h hE0
    rw [xl_M_look_0] at h
    refine rb_aload_n hC 0 dX12_look_0 rfl ?_
    obtain ⟨r1, q2, h⟩ := rb_b1s h
    refine rb_callVi hC rb_VokM mv_X12_127 (xc_M_here  σ _ q2) rb_obM0 rfl [] rfl rfl rfl ⟨Nat.le_of_ble_eq_true rfl, Nat.le_of_ble_eq_true rfl⟩ (Nat.le_of_ble_eq_true rfl) dX12_look_1 ?_
    refine rb_bipush (x := 32) hC dX12_look_4 (by decide) ?_
    refine rb_icmp_ne hC 22 dX12_look_6 (by decide) (fun c3 => ?_) (fun c3 => ?_)
    · replace h := rb_ifn c3 h
      cases h
      exact rb_sub [0] rfl (hE0)
    · replace h := rb_ifp c3 h
      refine rb_aload_n hC 0 dX12_look_9 rfl ?_
      refine rb_dup hC dX12_look_10 rfl ?_
      refine rb_getI hC fr_X12_124_11 rb_obM0 rfl dX12_look_11 ?_
      refine rb_iconst (x := 1) hC dX12_look_14 (by decide) ?_
      refine rb_iadd hC dX12_look_15 ?_
      refine rb_putI hC fr_X12_124_11 ft_11_3 rb_obM0 rfl rfl rfl dX12_look_16 ?_
      obtain ⟨s4, e5, h⟩ := rb_ltE h
      refine rb_nmS e5 ?_
      refine rb_goto hC 0 dX12_look_19 (by decide) ?_
      exact rb_sub [0] rfl (ih s4 _ h hE0)
def xf_M_look  (σ : rb_St) : Option (Int32 × rb_St) := rb_b1 (xl_M_look_0 rb_FU σ) fun s6 => rb_b1 (xf_M_here s6) fun r8 => some (r8, s6)
set_option maxHeartbeats 4000000 in
set_option maxRecDepth 100000 in
theorem xk_M_look {z : rb_Z} {w : rb_Wd} (hC : rb_Cx z rb_vM w RX12 cX12_look 1 (some .int) 1)  (σ : rb_St) (r : Int32) (σ9 : rb_St) (h : xf_M_look σ = some (r, σ9)) : rb_At z rb_vM w 1 (rb_Q z rb_vM w (some (.int r)) σ9) 0 [(0, .ref (rb_ad w 0))] [] σ := by
  unfold xf_M_look at h
  obtain ⟨s6, q7, h⟩ := rb_b1s h
  refine rb_sub (lv2 := [(0, .ref (rb_ad w 0))]) [0] rfl ?_
  refine xt_M_look_0 hC  rb_FU σ _ q7 ?_
  refine rb_aload_n hC 0 dX12_look_22 rfl ?_
  obtain ⟨r8, q9, h⟩ := rb_b1s h
  refine rb_callVi hC rb_VokM mv_X12_127 (xc_M_here  s6 _ q9) rb_obM0 rfl [] rfl rfl rfl ⟨Nat.le_of_ble_eq_true rfl, Nat.le_of_ble_eq_true rfl⟩ (Nat.le_of_ble_eq_true rfl) dX12_look_23 ?_
  cases h
  exact rb_iret hC dX12_look_26
theorem xc_M_look  (σ : rb_St) (r : Int32) (σ9 : rb_St) (h : xf_M_look σ = some (r, σ9)) : rb_Con rb_vM yX12_look cX12_look 1 (some .int) 1 (fun w => [.ref (rb_ad w 0)]) σ (fun _ => (some (.int r))) σ9 := rb_Con.of (by decide +kernel) (fun _ => Nat.le_of_ble_eq_true rfl) (fun z w hC => xk_M_look hC  σ r σ9 h)
theorem fr_X12_131_11 : rb_FR RX12 131 11 4 := ⟨RX12, TX12, 50, "RibbonPoleModel", rfl, rb_uX12, by decide, rb_in (by decide +kernel) (by decide +kernel), Or.inl rfl⟩
theorem ft_11_4 : rb_Ty 11 4 .int := ⟨RX12, TX12, 50, tyX12, rfl, tyX12_ok, nmX12, rfl, by decide +kernel⟩
def xf_M_bad  (σ : rb_St) : Option (rb_St) := if (σ.1 0 4) = (-1) then rb_lt (rb_sI σ 0 4 (σ.1 0 3)) (fun s4 => some s4) else rb_lt (rb_sI σ 0 4 (σ.1 0 4)) (fun s2 => some s2)
set_option maxHeartbeats 4000000 in
set_option maxRecDepth 100000 in
theorem xk_M_bad {z : rb_Z} {w : rb_Wd} (hC : rb_Cx z rb_vM w RX12 cX12_bad 1 none 0)  (σ : rb_St) (σ9 : rb_St) (h : xf_M_bad σ = some σ9) : rb_At z rb_vM w 1 (rb_Q z rb_vM w none σ9) 0 [(0, .ref (rb_ad w 0))] [] σ := by
  unfold xf_M_bad at h
  refine rb_aload_n hC 0 dX12_bad_0 rfl ?_
  refine rb_aload_n hC 0 dX12_bad_1 rfl ?_
  refine rb_getI hC fr_X12_131_11 rb_obM0 rfl dX12_bad_2 ?_
  refine rb_iconst (x := (-1)) hC dX12_bad_5 (by decide) ?_
  refine rb_icmp_ne hC 16 dX12_bad_6 (by decide) (fun c1 => ?_) (fun c1 => ?_)
  · replace h := rb_ifn c1 h
    refine rb_aload_n hC 0 dX12_bad_16 rfl ?_
    refine rb_getI hC fr_X12_131_11 rb_obM0 rfl dX12_bad_17 ?_
    refine rb_putI hC fr_X12_131_11 ft_11_4 rb_obM0 rfl rfl rfl dX12_bad_20 ?_
    obtain ⟨s2, e3, h⟩ := rb_ltE h
    refine rb_nmS e3 ?_
    cases h
    exact rb_vret hC dX12_bad_23
  · replace h := rb_ifp c1 h
    refine rb_aload_n hC 0 dX12_bad_9 rfl ?_
    refine rb_getI hC fr_X12_124_11 rb_obM0 rfl dX12_bad_10 ?_
    refine rb_goto hC 20 dX12_bad_13 (by decide) ?_
    refine rb_putI hC fr_X12_131_11 ft_11_4 rb_obM0 rfl rfl rfl dX12_bad_20 ?_
    obtain ⟨s4, e5, h⟩ := rb_ltE h
    refine rb_nmS e5 ?_
    cases h
    exact rb_vret hC dX12_bad_23
theorem xc_M_bad  (σ : rb_St) (σ9 : rb_St) (h : xf_M_bad σ = some σ9) : rb_Con rb_vM yX12_bad cX12_bad 1 none 0 (fun w => [.ref (rb_ad w 0)]) σ (fun _ => none) σ9 := rb_Con.of (by decide +kernel) (fun _ => Nat.le_of_ble_eq_true rfl) (fun z w hC => xk_M_bad hC  σ σ9 h)
def xf_M_isDigit (p0 : Int32) (σ : rb_St) : Int32 := if p0 < 48 then 0 else if 57 < p0 then 0 else 1
set_option maxHeartbeats 4000000 in
set_option maxRecDepth 100000 in
theorem xk_M_isDigit {z : rb_Z} {w : rb_Wd} (hC : rb_Cx z rb_vM w RX12 cX12_isDigit 1 (some .boolean) 0) (p0 : Int32) (σ : rb_St) (r : Int32) (h : xf_M_isDigit p0 σ = r) : rb_At z rb_vM w 1 (rb_Q z rb_vM w (some (.int r)) σ) 0 [(0, .int p0)] [] σ := by
  unfold xf_M_isDigit at h
  refine rb_iload_n hC 0 dX12_isDigit_0 rfl ?_
  refine rb_bipush (x := 48) hC dX12_isDigit_1 (by decide) ?_
  refine rb_icmp_lt hC 16 dX12_isDigit_3 (by decide) (fun c1 => ?_) (fun c1 => ?_)
  · replace h := rb_ifp c1 h
    refine rb_iconst (x := 0) hC dX12_isDigit_16 (by decide) ?_
    subst h
    exact rb_zret hC rfl dX12_isDigit_17
  · replace h := rb_ifn c1 h
    refine rb_iload_n hC 0 dX12_isDigit_6 rfl ?_
    refine rb_bipush (x := 57) hC dX12_isDigit_7 (by decide) ?_
    refine rb_icmp_gt hC 16 dX12_isDigit_9 (by decide) (fun c2 => ?_) (fun c2 => ?_)
    · replace h := rb_ifp c2 h
      refine rb_iconst (x := 0) hC dX12_isDigit_16 (by decide) ?_
      subst h
      exact rb_zret hC rfl dX12_isDigit_17
    · replace h := rb_ifn c2 h
      refine rb_iconst (x := 1) hC dX12_isDigit_12 (by decide) ?_
      refine rb_goto hC 17 dX12_isDigit_13 (by decide) ?_
      subst h
      exact rb_zret hC rfl dX12_isDigit_17
theorem xc_M_isDigit (p0 : Int32) (σ : rb_St) (r : Int32) (h : xf_M_isDigit p0 σ = r) : rb_Con rb_vM yX12_isDigit cX12_isDigit 1 (some .boolean) 0 (fun w => [.int p0]) σ (fun _ => (some (.int r))) σ := rb_Con.of (by decide +kernel) (fun _ => Nat.le_of_ble_eq_true rfl) (fun z w hC => xk_M_isDigit hC p0 σ r h)
theorem fr_X12_13_11 : rb_FR RX12 13 11 6 := ⟨RX12, TX12, 50, "RibbonPoleModel", rfl, rb_uX12, by decide, rb_in (by decide +kernel) (by decide +kernel), Or.inl rfl⟩
theorem fr_X12_134_11 : rb_FR RX12 134 11 14 := ⟨RX12, TX12, 50, "RibbonPoleModel", rfl, rb_uX12, by decide, rb_in (by decide +kernel) (by decide +kernel), Or.inl rfl⟩
theorem fr_X12_19_11 : rb_FR RX12 19 11 8 := ⟨RX12, TX12, 50, "RibbonPoleModel", rfl, rb_uX12, by decide, rb_in (by decide +kernel) (by decide +kernel), Or.inl rfl⟩
theorem fr_X12_16_11 : rb_FR RX12 16 11 7 := ⟨RX12, TX12, 50, "RibbonPoleModel", rfl, rb_uX12, by decide, rb_in (by decide +kernel) (by decide +kernel), Or.inl rfl⟩
def xf_M_put (p0 : Int32) (p1 : Int32) (σ : rb_St) : Option (rb_St) := if rb_ib (σ.1 0 14) 5 then if rb_ib ((520 * (σ.1 0 14)) + (σ.1 4 (σ.1 0 14).toNatClampNeg)) 2600 then rb_lt (rb_sI σ 2 ((520 * (σ.1 0 14)) + (σ.1 4 (σ.1 0 14).toNatClampNeg)).toNatClampNeg p0) (fun s3 => if rb_ib (s3.1 0 14) 5 then if rb_ib ((520 * (s3.1 0 14)) + (s3.1 4 (s3.1 0 14).toNatClampNeg)) 2600 then rb_lt (rb_sI s3 3 ((520 * (s3.1 0 14)) + (s3.1 4 (s3.1 0 14).toNatClampNeg)).toNatClampNeg p1) (fun s7 => if rb_ib (s7.1 0 14) 5 then rb_lt (rb_sI s7 4 (s7.1 0 14).toNatClampNeg ((s7.1 4 (s7.1 0 14).toNatClampNeg) + 1)) (fun s10 => some s10) else none) else none else none) else none else none
set_option maxHeartbeats 4000000 in
set_option maxRecDepth 100000 in
theorem xk_M_put {z : rb_Z} {w : rb_Wd} (hC : rb_Cx z rb_vM w RX12 cX12_put 3 none 0) (p0 : Int32) (p1 : Int32) (σ : rb_St) (σ9 : rb_St) (h : xf_M_put p0 p1 σ = some σ9) : rb_At z rb_vM w 3 (rb_Q z rb_vM w none σ9) 0 [(0, .ref (rb_ad w 0)), (1, .int p0), (2, .int p1)] [] σ := by
  unfold xf_M_put at h
  refine rb_aload_n hC 0 dX12_put_0 rfl ?_
  refine rb_getR hC fr_X12_13_11 rb_obM0 rfl dX12_put_1 ?_
  refine rb_sipush (x := 520) hC dX12_put_4 (by decide) ?_
  refine rb_aload_n hC 0 dX12_put_7 rfl ?_
  refine rb_getI hC fr_X12_134_11 rb_obM0 rfl dX12_put_8 ?_
  refine rb_imul hC dX12_put_11 ?_
  refine rb_aload_n hC 0 dX12_put_12 rfl ?_
  refine rb_getR hC fr_X12_19_11 rb_obM0 rfl dX12_put_13 ?_
  refine rb_aload_n hC 0 dX12_put_16 rfl ?_
  refine rb_getI hC fr_X12_134_11 rb_obM0 rfl dX12_put_17 ?_
  obtain ⟨g1, h⟩ := rb_gd h
  refine rb_iald hC rb_arM4 (rb_ibI g1) dX12_put_20 ?_
  refine rb_iadd hC dX12_put_21 ?_
  refine rb_iload_n hC 1 dX12_put_22 rfl ?_
  obtain ⟨g2, h⟩ := rb_gd h
  refine rb_iast hC rb_arM2 (rb_ibI g2) dX12_put_23 ?_
  obtain ⟨s3, e4, h⟩ := rb_ltE h
  refine rb_nmS e4 ?_
  refine rb_aload_n hC 0 dX12_put_24 rfl ?_
  refine rb_getR hC fr_X12_16_11 rb_obM0 rfl dX12_put_25 ?_
  refine rb_sipush (x := 520) hC dX12_put_28 (by decide) ?_
  refine rb_aload_n hC 0 dX12_put_31 rfl ?_
  refine rb_getI hC fr_X12_134_11 rb_obM0 rfl dX12_put_32 ?_
  refine rb_imul hC dX12_put_35 ?_
  refine rb_aload_n hC 0 dX12_put_36 rfl ?_
  refine rb_getR hC fr_X12_19_11 rb_obM0 rfl dX12_put_37 ?_
  refine rb_aload_n hC 0 dX12_put_40 rfl ?_
  refine rb_getI hC fr_X12_134_11 rb_obM0 rfl dX12_put_41 ?_
  obtain ⟨g5, h⟩ := rb_gd h
  refine rb_iald hC rb_arM4 (rb_ibI g5) dX12_put_44 ?_
  refine rb_iadd hC dX12_put_45 ?_
  refine rb_iload_n hC 2 dX12_put_46 rfl ?_
  obtain ⟨g6, h⟩ := rb_gd h
  refine rb_iast hC rb_arM3 (rb_ibI g6) dX12_put_47 ?_
  obtain ⟨s7, e8, h⟩ := rb_ltE h
  refine rb_nmS e8 ?_
  refine rb_aload_n hC 0 dX12_put_48 rfl ?_
  refine rb_getR hC fr_X12_19_11 rb_obM0 rfl dX12_put_49 ?_
  refine rb_aload_n hC 0 dX12_put_52 rfl ?_
  refine rb_getI hC fr_X12_134_11 rb_obM0 rfl dX12_put_53 ?_
  refine rb_dup2_11 hC dX12_put_56 rfl rfl ?_
  obtain ⟨g9, h⟩ := rb_gd h
  refine rb_iald hC rb_arM4 (rb_ibI g9) dX12_put_57 ?_
  refine rb_iconst (x := 1) hC dX12_put_58 (by decide) ?_
  refine rb_iadd hC dX12_put_59 ?_
  refine rb_iast hC rb_arM4 (rb_ibI g9) dX12_put_60 ?_
  obtain ⟨s10, e11, h⟩ := rb_ltE h
  refine rb_nmS e11 ?_
  cases h
  exact rb_vret hC dX12_put_61
theorem xc_M_put (p0 : Int32) (p1 : Int32) (σ : rb_St) (σ9 : rb_St) (h : xf_M_put p0 p1 σ = some σ9) : rb_Con rb_vM yX12_put cX12_put 3 none 0 (fun w => [.ref (rb_ad w 0), .int p0, .int p1]) σ (fun _ => none) σ9 := rb_Con.of (by decide +kernel) (fun _ => Nat.le_of_ble_eq_true rfl) (fun z w hC => xk_M_put hC p0 p1 σ σ9 h)
