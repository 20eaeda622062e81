theorem me_X11_gain : Cond.instanceMethod yX11_gain ∈ rb_tbl ∧ Cond.selects yX11_gain.cls yX11_gain yX11_gain ∈ rb_tbl ∧ Cond.initialized yX11_gain.cls ∈ rb_tbl ∧ Cond.code yX11_gain cX11_gain 8 (some .int) ∈ rb_tbl ∧ rb_pn yX11_gain 4 := ⟨rb_in (by decide +kernel) (by decide +kernel), rb_in (by decide +kernel) (by decide +kernel), rb_in (by decide +kernel) (by decide +kernel), rb_in (by decide +kernel) (by decide +kernel), by decide +kernel, by decide +kernel, by decide +kernel⟩
theorem mv_X11_427 : rb_MV RX11 427 yX11_gain cX11_gain 8 (some .int) 4 := ⟨rb_in (by decide +kernel) (by decide +kernel), me_X11_gain⟩
def xl_RP_isRest_23 (x1 : Int32) (x2 : Int32) (x3 : Int32) (x4 : Int32) (x5 : Int32) : Nat → Int32 → rb_St → Option (Nat × rb_St)
  | 0, _, _ => none
  | n + 1, x6, σ => if 2 < x6 then some (1, σ) else rb_b2 (xf_RP_gain x1 x6 x3 0 σ) fun r10 s8 => if x4 < r10 then some (0, s8) else rb_b2 (xf_RP_gain x1 x2 x6 1 s8) fun r14 s12 => if r14 ≤ x5 then xl_RP_isRest_23 x1 x2 x3 x4 x5 n (x6 + 1) s12 else some (0, s12)
set_option maxHeartbeats 4000000 in
set_option maxRecDepth 100000 in
theorem xt_RP_isRest_23 {z : rb_Z} {w : rb_Wd} {Q : State → Prop} (hC : rb_Cx z rb_vX w RX11 cX11_isRest 7 (some .boolean) 6) (x1 : Int32) (x2 : Int32) (x3 : Int32) (x4 : Int32) (x5 : Int32) : ∀ (n : Nat) (x6 : Int32) (σ : rb_St) (t : Nat) (σ9 : rb_St), xl_RP_isRest_23 x1 x2 x3 x4 x5 n x6 σ = some (t, σ9) → (t = 0 → rb_At z rb_vX w 7 Q 57 [] [] σ9) → (t = 1 → rb_At z rb_vX w 7 Q 65 [] [] σ9) → rb_At z rb_vX w 7 Q 23 [(0, .ref (rb_ad w 0)), (1, .int x1), (2, .int x2), (3, .int x3), (4, .int x4), (5, .int x5), (6, .int x6)] [] σ := by
  intro n
  induction n with
  | zero =>
    intro x6 σ t σ9 h hE0 hE1
    cases h
  | succ n ih =>
    intro x6 σ t σ9 h hE0 hE1
    rw [xl_RP_isRest_23] at h
    refine rb_iload hC 6 dX11_isRest_23 rfl ?_
    refine rb_iconst (x := 2) hC dX11_isRest_25 (by decide) ?_
    refine rb_icmp_gt hC 65 dX11_isRest_26 (by decide) (fun c7 => ?_) (fun c7 => ?_)
    · replace h := rb_ifp c7 h
      cases h
      exact rb_sub [] rfl (hE1 rfl)
    · replace h := rb_ifn c7 h
      refine rb_aload_n hC 0 dX11_isRest_29 rfl ?_
      refine rb_iload_n hC 1 dX11_isRest_30 rfl ?_
      refine rb_iload hC 6 dX11_isRest_31 rfl ?_
      refine rb_iload_n hC 3 dX11_isRest_33 rfl ?_
      refine rb_iconst (x := 0) hC dX11_isRest_34 (by decide) ?_
      obtain ⟨r10, s8, q9, h⟩ := rb_b2s h
      refine rb_callVi hC rb_VokX mv_X11_427 (xc_RP_gain x1 x6 x3 0 σ _ _ q9) rb_obX0 rfl [.int x1, .int x6, .int x3, .int 0] rfl rfl rfl ⟨Nat.le_of_ble_eq_true rfl, Nat.le_of_ble_eq_true rfl⟩ (Nat.le_of_ble_eq_true rfl) dX11_isRest_35 ?_
      refine rb_iload hC 4 dX11_isRest_38 rfl ?_
      refine rb_icmp_gt hC 57 dX11_isRest_40 (by decide) (fun c11 => ?_) (fun c11 => ?_)
      · replace h := rb_ifp c11 h
        cases h
        exact rb_sub [] rfl (hE0 rfl)
      · replace h := rb_ifn c11 h
        refine rb_aload_n hC 0 dX11_isRest_43 rfl ?_
        refine rb_iload_n hC 1 dX11_isRest_44 rfl ?_
        refine rb_iload_n hC 2 dX11_isRest_45 rfl ?_
        refine rb_iload hC 6 dX11_isRest_46 rfl ?_
        refine rb_iconst (x := 1) hC dX11_isRest_48 (by decide) ?_
        obtain ⟨r14, s12, q13, h⟩ := rb_b2s h
        refine rb_callVi hC rb_VokX mv_X11_427 (xc_RP_gain x1 x2 x6 1 s8 _ _ q13) rb_obX0 rfl [.int x1, .int x2, .int x6, .int 1] rfl rfl rfl ⟨Nat.le_of_ble_eq_true rfl, Nat.le_of_ble_eq_true rfl⟩ (Nat.le_of_ble_eq_true rfl) dX11_isRest_49 ?_
        refine rb_iload hC 5 dX11_isRest_52 rfl ?_
        refine rb_icmp_le hC 59 dX11_isRest_54 (by decide) (fun c15 => ?_) (fun c15 => ?_)
        · replace h := rb_ifp c15 h
          refine rb_iinc hC 6 [(6, .int (x6 + 1)), (0, .ref (rb_ad w 0)), (1, .int x1), (2, .int x2), (3, .int x3), (4, .int x4), (5, .int x5)] dX11_isRest_59 rfl rfl (by decide) rfl ?_
          refine rb_goto hC 23 dX11_isRest_62 (by decide) ?_
          exact rb_sub [1, 2, 3, 4, 5, 6, 0] rfl (ih (x6 + 1) s12 _ _ h hE0 hE1)
        · replace h := rb_ifn c15 h
          cases h
          exact rb_sub [] rfl (hE0 rfl)
def xf_RP_isRest (p0 : Int32) (p1 : Int32) (p2 : Int32) (σ : rb_St) : Option (Int32 × rb_St) := rb_b2 (xf_RP_gain p0 p1 p2 0 σ) fun r3 s1 => rb_b2 (xf_RP_gain p0 p1 p2 1 s1) fun r6 s4 => rb_b2 (xl_RP_isRest_23 p0 p1 p2 r3 r6 rb_FU 0 s4) fun t16 s17 => if t16 = 0 then some (0, s17) else some (1, s17)
set_option maxHeartbeats 4000000 in
set_option maxRecDepth 100000 in
theorem xk_RP_isRest {z : rb_Z} {w : rb_Wd} (hC : rb_Cx z rb_vX w RX11 cX11_isRest 7 (some .boolean) 6) (p0 : Int32) (p1 : Int32) (p2 : Int32) (σ : rb_St) (r : Int32) (σ9 : rb_St) (h : xf_RP_isRest p0 p1 p2 σ = some (r, σ9)) : rb_At z rb_vX w 7 (rb_Q z rb_vX w (some (.int r)) σ9) 0 [(0, .ref (rb_ad w 0)), (1, .int p0), (2, .int p1), (3, .int p2)] [] σ := by
  unfold xf_RP_isRest at h
  refine rb_aload_n hC 0 dX11_isRest_0 rfl ?_
  refine rb_iload_n hC 1 dX11_isRest_1 rfl ?_
  refine rb_iload_n hC 2 dX11_isRest_2 rfl ?_
  refine rb_iload_n hC 3 dX11_isRest_3 rfl ?_
  refine rb_iconst (x := 0) hC dX11_isRest_4 (by decide) ?_
  obtain ⟨r3, s1, q2, h⟩ := rb_b2s h
  refine rb_callVi hC rb_VokX mv_X11_427 (xc_RP_gain p0 p1 p2 0 σ _ _ q2) rb_obX0 rfl [.int p0, .int p1, .int p2, .int 0] rfl rfl rfl ⟨Nat.le_of_ble_eq_true rfl, Nat.le_of_ble_eq_true rfl⟩ (Nat.le_of_ble_eq_true rfl) dX11_isRest_5 ?_
  refine rb_istore hC [(4, .int r3), (0, .ref (rb_ad w 0)), (1, .int p0), (2, .int p1), (3, .int p2)] dX11_isRest_8 (by decide) rfl ?_
  refine rb_aload_n hC 1 dX11_isRest_10 rfl ?_
  refine rb_iload_n hC 2 dX11_isRest_11 rfl ?_
  refine rb_iload_n hC 3 dX11_isRest_12 rfl ?_
  refine rb_iload_n hC 4 dX11_isRest_13 rfl ?_
  refine rb_iconst (x := 1) hC dX11_isRest_14 (by decide) ?_
  obtain ⟨r6, s4, q5, h⟩ := rb_b2s h
  refine rb_callVi hC rb_VokX mv_X11_427 (xc_RP_gain p0 p1 p2 1 s1 _ _ q5) rb_obX0 rfl [.int p0, .int p1, .int p2, .int 1] rfl rfl rfl ⟨Nat.le_of_ble_eq_true rfl, Nat.le_of_ble_eq_true rfl⟩ (Nat.le_of_ble_eq_true rfl) dX11_isRest_15 ?_
  refine rb_istore hC [(5, .int r6), (4, .int r3), (0, .ref (rb_ad w 0)), (1, .int p0), (2, .int p1), (3, .int p2)] dX11_isRest_18 (by decide) rfl ?_
  refine rb_iconst (x := 0) hC dX11_isRest_20 (by decide) ?_
  refine rb_istore hC [(6, .int 0), (5, .int r6), (4, .int r3), (0, .ref (rb_ad w 0)), (1, .int p0), (2, .int p1), (3, .int p2)] dX11_isRest_21 (by decide) rfl ?_
  obtain ⟨t16, s17, q18, h⟩ := rb_b2s h
  refine rb_sub (lv2 := [(0, .ref (rb_ad w 0)), (1, .int p0), (2, .int p1), (3, .int p2), (4, .int r3), (5, .int r6), (6, .int 0)]) [3, 4, 5, 6, 2, 1, 0] rfl ?_
  refine xt_RP_isRest_23 hC p0 p1 p2 r3 r6 rb_FU 0 s4 _ _ q18 (fun ht => ?_) (fun ht => ?_)
  · subst ht
    replace h := rb_ifp rfl h
    refine rb_iconst (x := 0) hC dX11_isRest_57 (by decide) ?_
    cases h
    exact rb_zret hC rfl dX11_isRest_58
  · subst ht
    replace h := rb_ifn (by decide) h
    refine rb_iconst (x := 1) hC dX11_isRest_65 (by decide) ?_
    cases h
    exact rb_zret hC rfl dX11_isRest_66
theorem xc_RP_isRest (p0 : Int32) (p1 : Int32) (p2 : Int32) (σ : rb_St) (r : Int32) (σ9 : rb_St) (h : xf_RP_isRest p0 p1 p2 σ = some (r, σ9)) : rb_Con rb_vX yX11_isRest cX11_isRest 7 (some .boolean) 6 (fun w => [.ref (rb_ad w 0), .int p0, .int p1, .int p2]) σ (fun _ => (some (.int r))) σ9 := rb_Con.of (by decide +kernel) (fun _ => Nat.le_of_ble_eq_true rfl) (fun z w hC => xk_RP_isRest hC p0 p1 p2 σ r σ9 h)
theorem kc_X11_435 : Cond.constantLong RX11 435 1000000000 ∈ rb_tbl := rb_in (by decide +kernel) (by decide +kernel)
def xf_RP_odds (p0 : Int32) (p1 : Int32) (p2 : Int32) (σ : rb_St) : Option (Int32 × rb_St) := if (xf_RP_hasGreen σ) = 0 then some ((-1), σ) else if (xf_RP_isFigure p0 σ) = 0 then some ((-1), σ) else if p1 < 0 then some ((-1), σ) else if 100 < p1 then some ((-1), σ) else if p2 < 0 then some ((-1), σ) else if p2 ≤ 60 then if rb_ib p0 6 then rb_lt (256 + 2 * p0.toNatClampNeg) (fun k98 => if (σ.1 k98 1) ≤ 8 then rb_b1 (xf_Pole_standAs (268 + 5 * Int32.toNatClampNeg 0) 18 σ) fun s11 => rb_b2 (xf_RP_fewFrom 64 0 1000000000 k98 p1 p2 s11) fun r15 s13 => some (r15.toInt32, s13) else some ((-1), σ)) else none else some ((-1), σ)
set_option maxHeartbeats 4000000 in
set_option maxRecDepth 100000 in
theorem xk_RP_odds {z : rb_Z} {w : rb_Wd} (hC : rb_Cx z rb_vX w RX11 cX11_odds 5 (some .int) 70) (p0 : Int32) (p1 : Int32) (p2 : Int32) (σ : rb_St) (r : Int32) (σ9 : rb_St) (h : xf_RP_odds p0 p1 p2 σ = some (r, σ9)) : rb_At z rb_vX w 5 (rb_Q z rb_vX w (some (.int r)) σ9) 0 [(0, .ref (rb_ad w 0)), (1, .int p0), (2, .int p1), (3, .int p2)] [] σ := by
  unfold xf_RP_odds at h
  refine rb_aload_n hC 0 dX11_odds_0 rfl ?_
  refine rb_callVi hC rb_VokX mv_X11_176 (xc_RP_hasGreen  σ _ rfl) rb_obX0 rfl [] rfl rfl rfl ⟨Nat.le_of_ble_eq_true rfl, Nat.le_of_ble_eq_true rfl⟩ (Nat.le_of_ble_eq_true rfl) dX11_odds_1 ?_
  refine rb_if_eq hC 35 dX11_odds_4 (by decide) (fun c1 => ?_) (fun c1 => ?_)
  · replace h := rb_ifp c1 h
    refine rb_iconst (x := (-1)) hC dX11_odds_35 (by decide) ?_
    cases h
    exact rb_iret hC dX11_odds_36
  · replace h := rb_ifn c1 h
    refine rb_aload_n hC 0 dX11_odds_7 rfl ?_
    refine rb_iload_n hC 1 dX11_odds_8 rfl ?_
    refine rb_callVi hC rb_VokX mv_X11_217 (xc_RP_isFigure p0 σ _ rfl) rb_obX0 rfl [.int p0] rfl rfl rfl ⟨Nat.le_of_ble_eq_true rfl, Nat.le_of_ble_eq_true rfl⟩ (Nat.le_of_ble_eq_true rfl) dX11_odds_9 ?_
    refine rb_if_eq hC 35 dX11_odds_12 (by decide) (fun c2 => ?_) (fun c2 => ?_)
    · replace h := rb_ifp c2 h
      refine rb_iconst (x := (-1)) hC dX11_odds_35 (by decide) ?_
      cases h
      exact rb_iret hC dX11_odds_36
    · replace h := rb_ifn c2 h
      refine rb_iload_n hC 2 dX11_odds_15 rfl ?_
      refine rb_if_lt hC 35 dX11_odds_16 (by decide) (fun c3 => ?_) (fun c3 => ?_)
      · replace h := rb_ifp c3 h
        refine rb_iconst (x := (-1)) hC dX11_odds_35 (by decide) ?_
        cases h
        exact rb_iret hC dX11_odds_36
      · replace h := rb_ifn c3 h
        refine rb_iload_n hC 2 dX11_odds_19 rfl ?_
        refine rb_bipush (x := 100) hC dX11_odds_20 (by decide) ?_
        refine rb_icmp_gt hC 35 dX11_odds_22 (by decide) (fun c4 => ?_) (fun c4 => ?_)
        · replace h := rb_ifp c4 h
          refine rb_iconst (x := (-1)) hC dX11_odds_35 (by decide) ?_
          cases h
          exact rb_iret hC dX11_odds_36
        · replace h := rb_ifn c4 h
          refine rb_iload_n hC 3 dX11_odds_25 rfl ?_
          refine rb_if_lt hC 35 dX11_odds_26 (by decide) (fun c5 => ?_) (fun c5 => ?_)
          · replace h := rb_ifp c5 h
            refine rb_iconst (x := (-1)) hC dX11_odds_35 (by decide) ?_
            cases h
            exact rb_iret hC dX11_odds_36
          · replace h := rb_ifn c5 h
            refine rb_iload_n hC 3 dX11_odds_29 rfl ?_
            refine rb_bipush (x := 60) hC dX11_odds_30 (by decide) ?_
            refine rb_icmp_le hC 37 dX11_odds_32 (by decide) (fun c6 => ?_) (fun c6 => ?_)
            · replace h := rb_ifp c6 h
              refine rb_aload_n hC 0 dX11_odds_37 rfl ?_
              refine rb_getR hC fr_X11_75_10 rb_obX0 rfl dX11_odds_38 ?_
              refine rb_iload_n hC 1 dX11_odds_41 rfl ?_
              obtain ⟨g7, h⟩ := rb_gd h
              refine rb_aald hC rb_rrX231 (fun _ => rfl) (rb_ibI g7) dX11_odds_42 ?_
              obtain ⟨k98, e9, h⟩ := rb_ltE h
              have hk98 : rb_isFig k98 := e9 ▸ (rb_isFig_of g7)
              refine rb_nmR e9 ?_
              refine rb_astore hC [(4, .ref (rb_ad w k98)), (0, .ref (rb_ad w 0)), (1, .int p0), (2, .int p1), (3, .int p2)] dX11_odds_43 (by decide) rfl ?_
              refine rb_aload hC 0 dX11_odds_45 rfl ?_
              refine rb_getI hC fr_X11_220_1 (rb_obFig hk98) rfl dX11_odds_47 ?_
              refine rb_bipush (x := 8) hC dX11_odds_50 (by decide) ?_
              refine rb_icmp_le hC 57 dX11_odds_52 (by decide) (fun c10 => ?_) (fun c10 => ?_)
              · replace h := rb_ifp c10 h
                refine rb_aload_n hC 1 dX11_odds_57 rfl ?_
                refine rb_getR hC fr_X11_86_10 rb_obX0 rfl dX11_odds_58 ?_
                refine rb_iconst (x := 0) hC dX11_odds_61 (by decide) ?_
                refine rb_aald hC rb_rrX234 (fun _ => rfl) (rb_ibI (by decide)) dX11_odds_62 ?_
                refine rb_aload_n hC 1 dX11_odds_63 rfl ?_
                refine rb_getR hC fr_X11_49_10 rb_obX0 rfl dX11_odds_64 ?_
                obtain ⟨s11, q12, h⟩ := rb_b1s h
                refine rb_callVv hC rb_VokX mv_X11_409 (xc_Pole_standAs (268 + 5 * Int32.toNatClampNeg 0) (rb_isPole_234 (i := 0) (by decide)) 18 rb_isPole18 σ _ q12) (rb_obPole (rb_isPole_234 (i := 0) (by decide))) rfl [.ref (rb_ad w 18)] rfl rfl rfl ⟨Nat.le_of_ble_eq_true rfl, Nat.le_of_ble_eq_true rfl⟩ (Nat.le_of_ble_eq_true rfl) dX11_odds_67 ?_
                refine rb_aload_n hC 1 dX11_odds_70 rfl ?_
                refine rb_iconst (x := 0) hC dX11_odds_71 (by decide) ?_
                refine rb_ldc2_w hC kc_X11_435 dX11_odds_72 ?_
                refine rb_aload hC 0 dX11_odds_75 rfl ?_
                refine rb_iload_n hC 3 dX11_odds_77 rfl ?_
                refine rb_iload_n hC 4 dX11_odds_78 rfl ?_
                obtain ⟨r15, s13, q14, h⟩ := rb_b2s h
                refine rb_callVj hC rb_VokX mv_X11_437 (xc_RP_fewFrom 64 0 1000000000 k98 hk98 p1 p2 s11 _ _ q14) rb_obX0 rfl [.int 0, .long 1000000000, .ref (rb_ad w k98), .int p1, .int p2] rfl rfl rfl ⟨Nat.le_of_ble_eq_true rfl, Nat.le_of_ble_eq_true rfl⟩ (Nat.le_of_ble_eq_true rfl) dX11_odds_79 ?_
                refine rb_l2i hC dX11_odds_82 ?_
                cases h
                exact rb_iret hC dX11_odds_83
              · replace h := rb_ifn c10 h
                refine rb_iconst (x := (-1)) hC dX11_odds_55 (by decide) ?_
                cases h
                exact rb_iret hC dX11_odds_56
            · replace h := rb_ifn c6 h
              refine rb_iconst (x := (-1)) hC dX11_odds_35 (by decide) ?_
              cases h
              exact rb_iret hC dX11_odds_36
theorem xc_RP_odds (p0 : Int32) (p1 : Int32) (p2 : Int32) (σ : rb_St) (r : Int32) (σ9 : rb_St) (h : xf_RP_odds p0 p1 p2 σ = some (r, σ9)) : rb_Con rb_vX yX11_odds cX11_odds 5 (some .int) 70 (fun w => [.ref (rb_ad w 0), .int p0, .int p1, .int p2]) σ (fun _ => (some (.int r))) σ9 := rb_Con.of (by decide +kernel) (fun _ => Nat.le_of_ble_eq_true rfl) (fun z w hC => xk_RP_odds hC p0 p1 p2 σ r σ9 h)
theorem me_X6_readBehindCondition : Cond.instanceMethod yX6_readBehindCondition ∈ rb_tbl ∧ Cond.selects yX6_readBehindCondition.cls yX6_readBehindCondition yX6_readBehindCondition ∈ rb_tbl ∧ Cond.initialized yX6_readBehindCondition.cls ∈ rb_tbl ∧ Cond.code yX6_readBehindCondition cX6_readBehindCondition 1 (some .boolean) ∈ rb_tbl ∧ rb_pn yX6_readBehindCondition 0 := ⟨rb_in (by decide +kernel) (by decide +kernel), rb_in (by decide +kernel) (by decide +kernel), rb_in (by decide +kernel) (by decide +kernel), rb_in (by decide +kernel) (by decide +kernel), by decide +kernel, by decide +kernel, by decide +kernel⟩
theorem mv_X6_46 : rb_MV RX6 46 yX6_readBehindCondition cX6_readBehindCondition 1 (some .boolean) 0 := ⟨rb_in (by decide +kernel) (by decide +kernel), me_X6_readBehindCondition⟩
def xf_LR_readBody  (σ : rb_St) : Option (Int32 × rb_St) := rb_b2 (xf_Rd_nextSignL σ) fun r3 s1 => if r3 = 33 then rb_b2 (xf_LR_readCondition 64 0 s1) fun r7 s5 => if r7 = 0 then some (0, s5) else rb_b2 (xf_LR_readBehindCondition s5) fun r11 s9 => if r11 = 0 then some (0, s9) else some (1, s9) else if r3 = 40 then rb_b2 (xf_LR_readCondition 64 0 s1) fun r36 s34 => if r36 = 0 then some (0, s34) else rb_b2 (xf_LR_readBehindCondition s34) fun r40 s38 => if r40 = 0 then some (0, s38) else some (1, s38) else rb_b2 (xf_LR_readSum 64 0 s1) fun r16 s14 => if r16 = 0 then some (0, s14) else rb_b2 (xf_Rd_nextSignL s14) fun r20 s18 => if (xf_LR_isComparison r20 s18) = 0 then some (1, s18) else rb_b2 (xf_LR_readComparison 64 0 s18) fun r24 s22 => if r24 = 0 then some (0, s22) else rb_b2 (xf_LR_readMoreUnits 64 0 s22) fun r28 s26 => if r28 = 0 then some (0, s26) else rb_b2 (xf_LR_readBehindCondition s26) fun r32 s30 => if r32 = 0 then some (0, s30) else some (1, s30)
set_option maxHeartbeats 4000000 in
set_option maxRecDepth 100000 in
theorem xk_LR_readBody {z : rb_Z} {w : rb_Wd} (hC : rb_Cx z rb_vX w RX6 cX6_readBody 2 (some .boolean) 70)  (σ : rb_St) (r : Int32) (σ9 : rb_St) (h : xf_LR_readBody σ = some (r, σ9)) : rb_At z rb_vX w 2 (rb_Q z rb_vX w (some (.int r)) σ9) 0 [(0, .ref (rb_ad w 7))] [] σ := by
  unfold xf_LR_readBody at h
  refine rb_aload_n hC 0 dX6_readBody_0 rfl ?_
  obtain ⟨r3, s1, q2, h⟩ := rb_b2s h
  refine rb_callUi hC rb_VokX mv_X6_39_6 (xc_Rd_nextSignL  σ _ _ q2) rb_obX7 rfl [] rfl rfl rfl ⟨Nat.le_of_ble_eq_true rfl, Nat.le_of_ble_eq_true rfl⟩ (Nat.le_of_ble_eq_true rfl) dX6_readBody_1 ?_
  refine rb_istore_n hC [(1, .int r3), (0, .ref (rb_ad w 7))] dX6_readBody_4 (by decide) rfl ?_
  refine rb_iload_n hC 0 dX6_readBody_5 rfl ?_
  refine rb_bipush (x := 33) hC dX6_readBody_6 (by decide) ?_
  refine rb_icmp_eq hC 17 dX6_readBody_8 (by decide) (fun c4 => ?_) (fun c4 => ?_)
  · replace h := rb_ifp c4 h
    refine rb_aload_n hC 1 dX6_readBody_17 rfl ?_
    refine rb_iconst (x := 0) hC dX6_readBody_18 (by decide) ?_
    obtain ⟨r7, s5, q6, h⟩ := rb_b2s h
    refine rb_callVi hC rb_VokX mv_X6_43 (xc_LR_readCondition 64 0 s1 _ _ q6) rb_obX7 rfl [.int 0] rfl rfl rfl ⟨Nat.le_of_ble_eq_true rfl, Nat.le_of_ble_eq_true rfl⟩ (Nat.le_of_ble_eq_true rfl) dX6_readBody_19 ?_
    refine rb_if_eq hC 36 dX6_readBody_22 (by decide) (fun c8 => ?_) (fun c8 => ?_)
    · replace h := rb_ifp c8 h
      refine rb_iconst (x := 0) hC dX6_readBody_36 (by decide) ?_
      cases h
      exact rb_zret hC rfl dX6_readBody_37
    · replace h := rb_ifn c8 h
      refine rb_aload_n hC 1 dX6_readBody_25 rfl ?_
      obtain ⟨r11, s9, q10, h⟩ := rb_b2s h
      refine rb_callVi hC rb_VokX mv_X6_46 (xc_LR_readBehindCondition  s5 _ _ q10) rb_obX7 rfl [] rfl rfl rfl ⟨Nat.le_of_ble_eq_true rfl, Nat.le_of_ble_eq_true rfl⟩ (Nat.le_of_ble_eq_true rfl) dX6_readBody_26 ?_
      refine rb_if_eq hC 36 dX6_readBody_29 (by decide) (fun c12 => ?_) (fun c12 => ?_)
      · replace h := rb_ifp c12 h
        refine rb_iconst (x := 0) hC dX6_readBody_36 (by decide) ?_
        cases h
        exact rb_zret hC rfl dX6_readBody_37
      · replace h := rb_ifn c12 h
        refine rb_iconst (x := 1) hC dX6_readBody_32 (by decide) ?_
        refine rb_goto hC 37 dX6_readBody_33 (by decide) ?_
        cases h
        exact rb_zret hC rfl dX6_readBody_37
  · replace h := rb_ifn c4 h
    refine rb_iload_n hC 0 dX6_readBody_11 rfl ?_
    refine rb_bipush (x := 40) hC dX6_readBody_12 (by decide) ?_
    refine rb_icmp_ne hC 38 dX6_readBody_14 (by decide) (fun c13 => ?_) (fun c13 => ?_)
    · replace h := rb_ifn c13 h
      refine rb_aload_n hC 1 dX6_readBody_38 rfl ?_
      refine rb_iconst (x := 0) hC dX6_readBody_39 (by decide) ?_
      obtain ⟨r16, s14, q15, h⟩ := rb_b2s h
      refine rb_callVi hC rb_VokX mv_X6_49 (xc_LR_readSum 64 0 s1 _ _ q15) rb_obX7 rfl [.int 0] rfl rfl rfl ⟨Nat.le_of_ble_eq_true rfl, Nat.le_of_ble_eq_true rfl⟩ (Nat.le_of_ble_eq_true rfl) dX6_readBody_40 ?_
      refine rb_if_ne hC 48 dX6_readBody_43 (by decide) (fun c17 => ?_) (fun c17 => ?_)
      · replace h := rb_ifn c17 h
        refine rb_aload_n hC 1 dX6_readBody_48 rfl ?_
        obtain ⟨r20, s18, q19, h⟩ := rb_b2s h
        refine rb_callUi hC rb_VokX mv_X6_39_6 (xc_Rd_nextSignL  s14 _ _ q19) rb_obX7 rfl [] rfl rfl rfl ⟨Nat.le_of_ble_eq_true rfl, Nat.le_of_ble_eq_true rfl⟩ (Nat.le_of_ble_eq_true rfl) dX6_readBody_49 ?_
        refine rb_callSi hC rb_VokX mv_X6_52 (xc_LR_isComparison r20 s18 _ rfl) [.int r20] rfl rfl rfl ⟨Nat.le_of_ble_eq_true rfl, Nat.le_of_ble_eq_true rfl⟩ (Nat.le_of_ble_eq_true rfl) dX6_readBody_52 ?_
        refine rb_if_ne hC 60 dX6_readBody_55 (by decide) (fun c21 => ?_) (fun c21 => ?_)
        · replace h := rb_ifn c21 h
          refine rb_aload_n hC 1 dX6_readBody_60 rfl ?_
          refine rb_iconst (x := 0) hC dX6_readBody_61 (by decide) ?_
          obtain ⟨r24, s22, q23, h⟩ := rb_b2s h
          refine rb_callVi hC rb_VokX mv_X6_55 (xc_LR_readComparison 64 0 s18 _ _ q23) rb_obX7 rfl [.int 0] rfl rfl rfl ⟨Nat.le_of_ble_eq_true rfl, Nat.le_of_ble_eq_true rfl⟩ (Nat.le_of_ble_eq_true rfl) dX6_readBody_62 ?_
          refine rb_if_eq hC 87 dX6_readBody_65 (by decide) (fun c25 => ?_) (fun c25 => ?_)
          · replace h := rb_ifp c25 h
            refine rb_iconst (x := 0) hC dX6_readBody_87 (by decide) ?_
            cases h
            exact rb_zret hC rfl dX6_readBody_88
          · replace h := rb_ifn c25 h
            refine rb_aload_n hC 1 dX6_readBody_68 rfl ?_
            refine rb_iconst (x := 0) hC dX6_readBody_69 (by decide) ?_
            obtain ⟨r28, s26, q27, h⟩ := rb_b2s h
            refine rb_callVi hC rb_VokX mv_X6_58 (xc_LR_readMoreUnits 64 0 s22 _ _ q27) rb_obX7 rfl [.int 0] rfl rfl rfl ⟨Nat.le_of_ble_eq_true rfl, Nat.le_of_ble_eq_true rfl⟩ (Nat.le_of_ble_eq_true rfl) dX6_readBody_70 ?_
            refine rb_if_eq hC 87 dX6_readBody_73 (by decide) (fun c29 => ?_) (fun c29 => ?_)
            · replace h := rb_ifp c29 h
              refine rb_iconst (x := 0) hC dX6_readBody_87 (by decide) ?_
              cases h
              exact rb_zret hC rfl dX6_readBody_88
            · replace h := rb_ifn c29 h
              refine rb_aload_n hC 1 dX6_readBody_76 rfl ?_
              obtain ⟨r32, s30, q31, h⟩ := rb_b2s h
              refine rb_callVi hC rb_VokX mv_X6_46 (xc_LR_readBehindCondition  s26 _ _ q31) rb_obX7 rfl [] rfl rfl rfl ⟨Nat.le_of_ble_eq_true rfl, Nat.le_of_ble_eq_true rfl⟩ (Nat.le_of_ble_eq_true rfl) dX6_readBody_77 ?_
              refine rb_if_eq hC 87 dX6_readBody_80 (by decide) (fun c33 => ?_) (fun c33 => ?_)
              · replace h := rb_ifp c33 h
                refine rb_iconst (x := 0) hC dX6_readBody_87 (by decide) ?_
                cases h
                exact rb_zret hC rfl dX6_readBody_88
              · replace h := rb_ifn c33 h
                refine rb_iconst (x := 1) hC dX6_readBody_83 (by decide) ?_
                refine rb_goto hC 88 dX6_readBody_84 (by decide) ?_
                cases h
                exact rb_zret hC rfl dX6_readBody_88
        · replace h := rb_ifp c21 h
          refine rb_iconst (x := 1) hC dX6_readBody_58 (by decide) ?_
          cases h
          exact rb_zret hC rfl dX6_readBody_59
      · replace h := rb_ifp c17 h
        refine rb_iconst (x := 0) hC dX6_readBody_46 (by decide) ?_
        cases h
        exact rb_zret hC rfl dX6_readBody_47
    · replace h := rb_ifp c13 h
      refine rb_aload_n hC 1 dX6_readBody_17 rfl ?_
      refine rb_iconst (x := 0) hC dX6_readBody_18 (by decide) ?_
      obtain ⟨r36, s34, q35, h⟩ := rb_b2s h
      refine rb_callVi hC rb_VokX mv_X6_43 (xc_LR_readCondition 64 0 s1 _ _ q35) rb_obX7 rfl [.int 0] rfl rfl rfl ⟨Nat.le_of_ble_eq_true rfl, Nat.le_of_ble_eq_true rfl⟩ (Nat.le_of_ble_eq_true rfl) dX6_readBody_19 ?_
      refine rb_if_eq hC 36 dX6_readBody_22 (by decide) (fun c37 => ?_) (fun c37 => ?_)
      · replace h := rb_ifp c37 h
        refine rb_iconst (x := 0) hC dX6_readBody_36 (by decide) ?_
        cases h
        exact rb_zret hC rfl dX6_readBody_37
      · replace h := rb_ifn c37 h
        refine rb_aload_n hC 1 dX6_readBody_25 rfl ?_
        obtain ⟨r40, s38, q39, h⟩ := rb_b2s h
        refine rb_callVi hC rb_VokX mv_X6_46 (xc_LR_readBehindCondition  s34 _ _ q39) rb_obX7 rfl [] rfl rfl rfl ⟨Nat.le_of_ble_eq_true rfl, Nat.le_of_ble_eq_true rfl⟩ (Nat.le_of_ble_eq_true rfl) dX6_readBody_26 ?_
        refine rb_if_eq hC 36 dX6_readBody_29 (by decide) (fun c41 => ?_) (fun c41 => ?_)
        · replace h := rb_ifp c41 h
          refine rb_iconst (x := 0) hC dX6_readBody_36 (by decide) ?_
          cases h
          exact rb_zret hC rfl dX6_readBody_37
        · replace h := rb_ifn c41 h
          refine rb_iconst (x := 1) hC dX6_readBody_32 (by decide) ?_
          refine rb_goto hC 37 dX6_readBody_33 (by decide) ?_
          cases h
          exact rb_zret hC rfl dX6_readBody_37
theorem xc_LR_readBody  (σ : rb_St) (r : Int32) (σ9 : rb_St) (h : xf_LR_readBody σ = some (r, σ9)) : rb_Con rb_vX yX6_readBody cX6_readBody 2 (some .boolean) 70 (fun w => [.ref (rb_ad w 7)]) σ (fun _ => (some (.int r))) σ9 := rb_Con.of (by decide +kernel) (fun _ => Nat.le_of_ble_eq_true rfl) (fun z w hC => xk_LR_readBody hC  σ r σ9 h)
theorem me_X3_clear : Cond.instanceMethod yX3_clear ∈ rb_tbl ∧ Cond.selects yX3_clear.cls yX3_clear yX3_clear ∈ rb_tbl ∧ Cond.initialized yX3_clear.cls ∈ rb_tbl ∧ Cond.code yX3_clear cX3_clear 2 none ∈ rb_tbl ∧ rb_pn yX3_clear 0 := ⟨rb_in (by decide +kernel) (by decide +kernel), rb_in (by decide +kernel) (by decide +kernel), rb_in (by decide +kernel) (by decide +kernel), rb_in (by decide +kernel) (by decide +kernel), by decide +kernel, by decide +kernel, by decide +kernel⟩
theorem mv_X4_24 : rb_MV RX4 24 yX3_clear cX3_clear 2 none 0 := ⟨rb_in (by decide +kernel) (by decide +kernel), me_X3_clear⟩
theorem me_X4_readClause : Cond.instanceMethod yX4_readClause ∈ rb_tbl ∧ Cond.selects yX4_readClause.cls yX4_readClause yX4_readClause ∈ rb_tbl ∧ Cond.initialized yX4_readClause.cls ∈ rb_tbl ∧ Cond.code yX4_readClause cX4_readClause 3 (some .boolean) ∈ rb_tbl ∧ rb_pn yX4_readClause 0 := ⟨rb_in (by decide +kernel) (by decide +kernel), rb_in (by decide +kernel) (by decide +kernel), rb_in (by decide +kernel) (by decide +kernel), rb_in (by decide +kernel) (by decide +kernel), by decide +kernel, by decide +kernel, by decide +kernel⟩
theorem mv_X4_31 : rb_MV RX4 31 yX4_readClause cX4_readClause 3 (some .boolean) 0 := ⟨rb_in (by decide +kernel) (by decide +kernel), me_X4_readClause⟩
theorem mv_X4_42_4 : rb_MU RX4 42 "RibbonPole$GreenReader" "RibbonPole$Reader" ⟨"RibbonPole$GreenReader", "passes", "(I)Z"⟩ yX8_passes cX8_passes 2 (some .boolean) 1 := ⟨rb_in (by decide +kernel) (by decide +kernel), rb_in (by decide +kernel) (by decide +kernel), rb_in (by decide +kernel) (by decide +kernel), rb_in (by decide +kernel) (by decide +kernel), rb_in (by decide +kernel) (by decide +kernel), rb_in (by decide +kernel) (by decide +kernel), rfl, by decide, by decide, by decide +kernel⟩
def xl_GR_readAll_19  : Nat → Int32 → rb_St → Option (Nat × rb_St)
  | 0, _, _ => none
  | n + 1, x1, σ => if 240 ≤ x1 then some (3, σ) else rb_b2 (xf_GR_readClause σ) fun r10 s8 => if r10 = 0 then some (0, s8) else rb_b2 (xf_Rd_nextSignG s8) fun r14 s12 => if r14 = (-1) then some (1, s12) else rb_b2 (xf_Rd_passesG 59 s12) fun r18 s16 => if r18 = 0 then some (2, s16) else xl_GR_readAll_19 n (x1 + 1) s16
set_option maxHeartbeats 4000000 in
set_option maxRecDepth 100000 in
theorem xt_GR_readAll_19 {z : rb_Z} {w : rb_Wd} {Q : State → Prop} (hC : rb_Cx z rb_vX w RX4 cX4_readAll 2 (some .boolean) 6)  : ∀ (n : Nat) (x1 : Int32) (σ : rb_St) (t : Nat) (σ9 : rb_St), xl_GR_readAll_19 n x1 σ = some (t, σ9) → (t = 0 → rb_At z rb_vX w 2 Q 33 [] [] σ9) → (t = 1 → rb_At z rb_vX w 2 Q 43 [(0, .ref (rb_ad w 3))] [] σ9) → (t = 2 → rb_At z rb_vX w 2 Q 69 [] [] σ9) → (t = 3 → rb_At z rb_vX w 2 Q 77 [] [] σ9) → rb_At z rb_vX w 2 Q 19 [(0, .ref (rb_ad w 3)), (1, .int x1)] [] σ := by
  intro n
  induction n with
  | zero =>
    intro x1 σ t σ9 h hE0 hE1 hE2 hE3
    cases h
  | succ n ih =>
    intro x1 σ t σ9 h hE0 hE1 hE2 hE3
    rw [xl_GR_readAll_19] at h
    refine rb_iload_n hC 1 dX4_readAll_19 rfl ?_
    refine rb_sipush (x := 240) hC dX4_readAll_20 (by decide) ?_
    refine rb_icmp_ge hC 77 dX4_readAll_23 (by decide) (fun c7 => ?_) (fun c7 => ?_)
    · replace h := rb_ifp c7 h
      cases h
      exact rb_sub [] rfl (hE3 rfl)
    · replace h := rb_ifn c7 h
      refine rb_aload_n hC 0 dX4_readAll_26 rfl ?_
      obtain ⟨r10, s8, q9, h⟩ := rb_b2s h
      refine rb_callVi hC rb_VokX mv_X4_31 (xc_GR_readClause  σ _ _ q9) rb_obX3 rfl [] rfl rfl rfl ⟨Nat.le_of_ble_eq_true rfl, Nat.le_of_ble_eq_true rfl⟩ (Nat.le_of_ble_eq_true rfl) dX4_readAll_27 ?_
      refine rb_if_ne hC 35 dX4_readAll_30 (by decide) (fun c11 => ?_) (fun c11 => ?_)
      · replace h := rb_ifn c11 h
        refine rb_aload_n hC 0 dX4_readAll_35 rfl ?_
        obtain ⟨r14, s12, q13, h⟩ := rb_b2s h
        refine rb_callUi hC rb_VokX mv_X4_35_4 (xc_Rd_nextSignG  s8 _ _ q13) rb_obX3 rfl [] rfl rfl rfl ⟨Nat.le_of_ble_eq_true rfl, Nat.le_of_ble_eq_true rfl⟩ (Nat.le_of_ble_eq_true rfl) dX4_readAll_36 ?_
        refine rb_iconst (x := (-1)) hC dX4_readAll_39 (by decide) ?_
        refine rb_icmp_ne hC 60 dX4_readAll_40 (by decide) (fun c15 => ?_) (fun c15 => ?_)
        · replace h := rb_ifn c15 h
          refine rb_aload_n hC 0 dX4_readAll_60 rfl ?_
          refine rb_bipush (x := 59) hC dX4_readAll_61 (by decide) ?_
          obtain ⟨r18, s16, q17, h⟩ := rb_b2s h
          refine rb_callUi hC rb_VokX mv_X4_42_4 (xc_Rd_passesG 59 s12 _ _ q17) rb_obX3 rfl [.int 59] rfl rfl rfl ⟨Nat.le_of_ble_eq_true rfl, Nat.le_of_ble_eq_true rfl⟩ (Nat.le_of_ble_eq_true rfl) dX4_readAll_63 ?_
          refine rb_if_ne hC 71 dX4_readAll_66 (by decide) (fun c19 => ?_) (fun c19 => ?_)
          · replace h := rb_ifn c19 h
            refine rb_iinc hC 1 [(1, .int (x1 + 1)), (0, .ref (rb_ad w 3))] dX4_readAll_71 rfl rfl (by decide) rfl ?_
            refine rb_goto hC 19 dX4_readAll_74 (by decide) ?_
            exact rb_sub [1, 0] rfl (ih (x1 + 1) s16 _ _ h hE0 hE1 hE2 hE3)
          · replace h := rb_ifp c19 h
            cases h
            exact rb_sub [] rfl (hE2 rfl)
        · replace h := rb_ifp c15 h
          cases h
          exact rb_sub [0] rfl (hE1 rfl)
      · replace h := rb_ifp c11 h
        cases h
        exact rb_sub [] rfl (hE0 rfl)
def xf_GR_readAll  (σ : rb_St) : Option (Int32 × rb_St) := rb_lt (rb_sI σ 3 1 0) (fun s1 => rb_b1 (xf_Green_clear s1) fun s3 => rb_lt (rb_sI s3 3 3 0) (fun s5 => rb_b2 (xl_GR_readAll_19 rb_FU 0 s5) fun t20 s21 => if t20 = 0 then some (0, s21) else if t20 = 1 then if (s21.1 4 2) < 3 then some (0, s21) else some (1, s21) else if t20 = 2 then some (0, s21) else some (0, s21)))
set_option maxHeartbeats 4000000 in
set_option maxRecDepth 100000 in
theorem xk_GR_readAll {z : rb_Z} {w : rb_Wd} (hC : rb_Cx z rb_vX w RX4 cX4_readAll 2 (some .boolean) 6)  (σ : rb_St) (r : Int32) (σ9 : rb_St) (h : xf_GR_readAll σ = some (r, σ9)) : rb_At z rb_vX w 2 (rb_Q z rb_vX w (some (.int r)) σ9) 0 [(0, .ref (rb_ad w 3))] [] σ := by
  unfold xf_GR_readAll at h
  refine rb_aload_n hC 0 dX4_readAll_0 rfl ?_
  refine rb_iconst (x := 0) hC dX4_readAll_1 (by decide) ?_
  refine rb_putI hC fr_X4_20_4 ft_4_1 rb_obX3 rfl rfl rfl dX4_readAll_2 ?_
  obtain ⟨s1, e2, h⟩ := rb_ltE h
  refine rb_nmS e2 ?_
  refine rb_aload_n hC 0 dX4_readAll_5 rfl ?_
  refine rb_getR hC fr_X4_14_4 rb_obX3 rfl dX4_readAll_6 ?_
  obtain ⟨s3, q4, h⟩ := rb_b1s h
  refine rb_callVv hC rb_VokX mv_X4_24 (xc_Green_clear  s1 _ q4) rb_obX4 rfl [] rfl rfl rfl ⟨Nat.le_of_ble_eq_true rfl, Nat.le_of_ble_eq_true rfl⟩ (Nat.le_of_ble_eq_true rfl) dX4_readAll_9 ?_
  refine rb_aload_n hC 0 dX4_readAll_12 rfl ?_
  refine rb_iconst (x := 0) hC dX4_readAll_13 (by decide) ?_
  refine rb_putI hC fr_X4_27_4 ft_4_3 rb_obX3 rfl rfl rfl dX4_readAll_14 ?_
  obtain ⟨s5, e6, h⟩ := rb_ltE h
  refine rb_nmS e6 ?_
  refine rb_iconst (x := 0) hC dX4_readAll_17 (by decide) ?_
  refine rb_istore_n hC [(1, .int 0), (0, .ref (rb_ad w 3))] dX4_readAll_18 (by decide) rfl ?_
  obtain ⟨t20, s21, q22, h⟩ := rb_b2s h
  refine rb_sub (lv2 := [(0, .ref (rb_ad w 3)), (1, .int 0)]) [1, 0] rfl ?_
  refine xt_GR_readAll_19 hC  rb_FU 0 s5 _ _ q22 (fun ht => ?_) (fun ht => ?_) (fun ht => ?_) (fun ht => ?_)
  · subst ht
    replace h := rb_ifp rfl h
    refine rb_iconst (x := 0) hC dX4_readAll_33 (by decide) ?_
    cases h
    exact rb_zret hC rfl dX4_readAll_34
  · subst ht
    replace h := rb_ifn (by decide) h
    replace h := rb_ifp rfl h
    refine rb_aload_n hC 0 dX4_readAll_43 rfl ?_
    refine rb_getR hC fr_X4_14_4 rb_obX3 rfl dX4_readAll_44 ?_
    refine rb_getI hC fr_X4_39_3 rb_obX4 rfl dX4_readAll_47 ?_
    refine rb_iconst (x := 3) hC dX4_readAll_50 (by decide) ?_
    refine rb_icmp_lt hC 58 dX4_readAll_51 (by decide) (fun c23 => ?_) (fun c23 => ?_)
    · replace h := rb_ifp c23 h
      refine rb_iconst (x := 0) hC dX4_readAll_58 (by decide) ?_
      cases h
      exact rb_zret hC rfl dX4_readAll_59
    · replace h := rb_ifn c23 h
      refine rb_iconst (x := 1) hC dX4_readAll_54 (by decide) ?_
      refine rb_goto hC 59 dX4_readAll_55 (by decide) ?_
      cases h
      exact rb_zret hC rfl dX4_readAll_59
  · subst ht
    replace h := rb_ifn (by decide) h
    replace h := rb_ifn (by decide) h
    replace h := rb_ifp rfl h
    refine rb_iconst (x := 0) hC dX4_readAll_69 (by decide) ?_
    cases h
    exact rb_zret hC rfl dX4_readAll_70
  · subst ht
    replace h := rb_ifn (by decide) h
    replace h := rb_ifn (by decide) h
    replace h := rb_ifn (by decide) h
    refine rb_iconst (x := 0) hC dX4_readAll_77 (by decide) ?_
    cases h
    exact rb_zret hC rfl dX4_readAll_78
theorem xc_GR_readAll  (σ : rb_St) (r : Int32) (σ9 : rb_St) (h : xf_GR_readAll σ = some (r, σ9)) : rb_Con rb_vX yX4_readAll cX4_readAll 2 (some .boolean) 6 (fun w => [.ref (rb_ad w 3)]) σ (fun _ => (some (.int r))) σ9 := rb_Con.of (by decide +kernel) (fun _ => Nat.le_of_ble_eq_true rfl) (fun z w hC => xk_GR_readAll hC  σ r σ9 h)
theorem me_X11_dancedWhole : Cond.instanceMethod yX11_dancedWhole ∈ rb_tbl ∧ Cond.selects yX11_dancedWhole.cls yX11_dancedWhole yX11_dancedWhole ∈ rb_tbl ∧ Cond.initialized yX11_dancedWhole.cls ∈ rb_tbl ∧ Cond.code yX11_dancedWhole cX11_dancedWhole 5 (some .boolean) ∈ rb_tbl ∧ rb_pn yX11_dancedWhole 2 := ⟨rb_in (by decide +kernel) (by decide +kernel), rb_in (by decide +kernel) (by decide +kernel), rb_in (by decide +kernel) (by decide +kernel), rb_in (by decide +kernel) (by decide +kernel), by decide +kernel, by decide +kernel, by decide +kernel⟩
theorem mv_X11_412 : rb_MV RX11 412 yX11_dancedWhole cX11_dancedWhole 5 (some .boolean) 2 := ⟨rb_in (by decide +kernel) (by decide +kernel), me_X11_dancedWhole⟩
def xl_RP_times_32 (x1 : Int32) : Nat → Int32 → rb_St → Option (Nat × Int32 × rb_St)
  | 0, _, _ => none
  | n + 1, x2, σ => if 99 ≤ x2 then some (1, x2, σ) else if rb_ib x1 6 then rb_b2 (xf_RP_dancedWhole (256 + 2 * x1.toNatClampNeg) (268 + 5 * Int32.toNatClampNeg 0) σ) fun r9 s7 => if r9 = 0 then some (0, x2, s7) else xl_RP_times_32 x1 n (x2 + 1) s7 else none
set_option maxHeartbeats 4000000 in
set_option maxRecDepth 100000 in
theorem xt_RP_times_32 {z : rb_Z} {w : rb_Wd} {Q : State → Prop} (hC : rb_Cx z rb_vX w RX11 cX11_times 3 (some .int) 7) (x1 : Int32) : ∀ (n : Nat) (x2 : Int32) (σ : rb_St) (t : Nat) (y2 : Int32) (σ9 : rb_St), xl_RP_times_32 x1 n x2 σ = some (t, y2, σ9) → (t = 0 → rb_At z rb_vX w 3 Q 57 [(2, .int y2)] [] σ9) → (t = 1 → rb_At z rb_vX w 3 Q 65 [] [] σ9) → rb_At z rb_vX w 3 Q 32 [(0, .ref (rb_ad w 0)), (1, .int x1), (2, .int x2)] [] σ := by
  intro n
  induction n with
  | zero =>
    intro x2 σ t y2 σ9 h hE0 hE1
    cases h
  | succ n ih =>
    intro x2 σ t y2 σ9 h hE0 hE1
    rw [xl_RP_times_32] at h
    refine rb_iload_n hC 2 dX11_times_32 rfl ?_
    refine rb_bipush (x := 99) hC dX11_times_33 (by decide) ?_
    refine rb_icmp_ge hC 65 dX11_times_35 (by decide) (fun c5 => ?_) (fun c5 => ?_)
    · replace h := rb_ifp c5 h
      cases h
      exact rb_sub [] rfl (hE1 rfl)
    · replace h := rb_ifn c5 h
      refine rb_aload_n hC 0 dX11_times_38 rfl ?_
      refine rb_aload_n hC 0 dX11_times_39 rfl ?_
      refine rb_getR hC fr_X11_75_10 rb_obX0 rfl dX11_times_40 ?_
      refine rb_iload_n hC 1 dX11_times_43 rfl ?_
      obtain ⟨g6, h⟩ := rb_gd h
      refine rb_aald hC rb_rrX231 (fun _ => rfl) (rb_ibI g6) dX11_times_44 ?_
      refine rb_aload_n hC 0 dX11_times_45 rfl ?_
      refine rb_getR hC fr_X11_86_10 rb_obX0 rfl dX11_times_46 ?_
      refine rb_iconst (x := 0) hC dX11_times_49 (by decide) ?_
      refine rb_aald hC rb_rrX234 (fun _ => rfl) (rb_ibI (by decide)) dX11_times_50 ?_
      obtain ⟨r9, s7, q8, h⟩ := rb_b2s h
      refine rb_callVi hC rb_VokX mv_X11_412 (xc_RP_dancedWhole (256 + 2 * x1.toNatClampNeg) (rb_isFig_of g6) (268 + 5 * Int32.toNatClampNeg 0) (rb_isPole_234 (i := 0) (by decide)) σ _ _ q8) rb_obX0 rfl [.ref (rb_ad w (256 + 2 * x1.toNatClampNeg)), .ref (rb_ad w (268 + 5 * Int32.toNatClampNeg 0))] rfl rfl rfl ⟨Nat.le_of_ble_eq_true rfl, Nat.le_of_ble_eq_true rfl⟩ (Nat.le_of_ble_eq_true rfl) dX11_times_51 ?_
      refine rb_if_ne hC 59 dX11_times_54 (by decide) (fun c10 => ?_) (fun c10 => ?_)
      · replace h := rb_ifn c10 h
        refine rb_iinc hC 2 [(2, .int (x2 + 1)), (0, .ref (rb_ad w 0)), (1, .int x1)] dX11_times_59 rfl rfl (by decide) rfl ?_
        refine rb_goto hC 32 dX11_times_62 (by decide) ?_
        exact rb_sub [1, 2, 0] rfl (ih (x2 + 1) s7 _ _ _ h hE0 hE1)
      · replace h := rb_ifp c10 h
        cases h
        exact rb_sub [2] rfl (hE0 rfl)
def xf_RP_times (p0 : Int32) (σ : rb_St) : Option (Int32 × rb_St) := if (xf_RP_hasGreen σ) = 0 then some ((-1), σ) else if (xf_RP_isFigure p0 σ) = 0 then some ((-1), σ) else rb_b1 (xf_Pole_standAs (268 + 5 * Int32.toNatClampNeg 0) 18 σ) fun s3 => rb_b3 (xl_RP_times_32 p0 rb_FU 0 s3) fun t11 y12 s13 => if t11 = 0 then some (y12, s13) else some (99, s13)
set_option maxHeartbeats 4000000 in
set_option maxRecDepth 100000 in
theorem xk_RP_times {z : rb_Z} {w : rb_Wd} (hC : rb_Cx z rb_vX w RX11 cX11_times 3 (some .int) 7) (p0 : Int32) (σ : rb_St) (r : Int32) (σ9 : rb_St) (h : xf_RP_times p0 σ = some (r, σ9)) : rb_At z rb_vX w 3 (rb_Q z rb_vX w (some (.int r)) σ9) 0 [(0, .ref (rb_ad w 0)), (1, .int p0)] [] σ := by
  unfold xf_RP_times at h
  refine rb_aload_n hC 0 dX11_times_0 rfl ?_
  refine rb_callVi hC rb_VokX mv_X11_176 (xc_RP_hasGreen  σ _ rfl) rb_obX0 rfl [] rfl rfl rfl ⟨Nat.le_of_ble_eq_true rfl, Nat.le_of_ble_eq_true rfl⟩ (Nat.le_of_ble_eq_true rfl) dX11_times_1 ?_
  refine rb_if_eq hC 15 dX11_times_4 (by decide) (fun c1 => ?_) (fun c1 => ?_)
  · replace h := rb_ifp c1 h
    refine rb_iconst (x := (-1)) hC dX11_times_15 (by decide) ?_
    cases h
    exact rb_iret hC dX11_times_16
  · replace h := rb_ifn c1 h
    refine rb_aload_n hC 0 dX11_times_7 rfl ?_
    refine rb_iload_n hC 1 dX11_times_8 rfl ?_
    refine rb_callVi hC rb_VokX mv_X11_217 (xc_RP_isFigure p0 σ _ rfl) rb_obX0 rfl [.int p0] rfl rfl rfl ⟨Nat.le_of_ble_eq_true rfl, Nat.le_of_ble_eq_true rfl⟩ (Nat.le_of_ble_eq_true rfl) dX11_times_9 ?_
    refine rb_if_ne hC 17 dX11_times_12 (by decide) (fun c2 => ?_) (fun c2 => ?_)
    · replace h := rb_ifn c2 h
      refine rb_aload_n hC 0 dX11_times_17 rfl ?_
      refine rb_getR hC fr_X11_86_10 rb_obX0 rfl dX11_times_18 ?_
      refine rb_iconst (x := 0) hC dX11_times_21 (by decide) ?_
      refine rb_aald hC rb_rrX234 (fun _ => rfl) (rb_ibI (by decide)) dX11_times_22 ?_
      refine rb_aload_n hC 0 dX11_times_23 rfl ?_
      refine rb_getR hC fr_X11_49_10 rb_obX0 rfl dX11_times_24 ?_
      obtain ⟨s3, q4, h⟩ := rb_b1s h
      refine rb_callVv hC rb_VokX mv_X11_409 (xc_Pole_standAs (268 + 5 * Int32.toNatClampNeg 0) (rb_isPole_234 (i := 0) (by decide)) 18 rb_isPole18 σ _ q4) (rb_obPole (rb_isPole_234 (i := 0) (by decide))) rfl [.ref (rb_ad w 18)] rfl rfl rfl ⟨Nat.le_of_ble_eq_true rfl, Nat.le_of_ble_eq_true rfl⟩ (Nat.le_of_ble_eq_true rfl) dX11_times_27 ?_
      refine rb_iconst (x := 0) hC dX11_times_30 (by decide) ?_
      refine rb_istore_n hC [(2, .int 0), (0, .ref (rb_ad w 0)), (1, .int p0)] dX11_times_31 (by decide) rfl ?_
      obtain ⟨t11, y12, s13, q14, h⟩ := rb_b3s h
      refine rb_sub (lv2 := [(0, .ref (rb_ad w 0)), (1, .int p0), (2, .int 0)]) [1, 2, 0] rfl ?_
      refine xt_RP_times_32 hC p0 rb_FU 0 s3 _ _ _ q14 (fun ht => ?_) (fun ht => ?_)
      · subst ht
        replace h := rb_ifp rfl h
        refine rb_iload_n hC 0 dX11_times_57 rfl ?_
        cases h
        exact rb_iret hC dX11_times_58
      · subst ht
        replace h := rb_ifn (by decide) h
        refine rb_bipush (x := 99) hC dX11_times_65 (by decide) ?_
        cases h
        exact rb_iret hC dX11_times_67
    · replace h := rb_ifp c2 h
      refine rb_iconst (x := (-1)) hC dX11_times_15 (by decide) ?_
      cases h
      exact rb_iret hC dX11_times_16
theorem xc_RP_times (p0 : Int32) (σ : rb_St) (r : Int32) (σ9 : rb_St) (h : xf_RP_times p0 σ = some (r, σ9)) : rb_Con rb_vX yX11_times cX11_times 3 (some .int) 7 (fun w => [.ref (rb_ad w 0), .int p0]) σ (fun _ => (some (.int r))) σ9 := rb_Con.of (by decide +kernel) (fun _ => Nat.le_of_ble_eq_true rfl) (fun z w hC => xk_RP_times hC p0 σ r σ9 h)
def xf_RP_game (p0 : Int32) (p1 : Int32) (p2 : Int32) (p3 : Int32) (σ : rb_St) : Option (Int32 × rb_St) := if (xf_Pole_hasPlace 18 p0 σ) = 0 then some ((-1000000), σ) else if p1 < 0 then some ((-1000000), σ) else if 2 < p1 then some ((-1000000), σ) else if p2 < 0 then some ((-1000000), σ) else if 2 < p2 then some ((-1000000), σ) else if p3 < 0 then some ((-1000000), σ) else if p3 ≤ 1 then rb_b2 (xf_RP_gain p0 p1 p2 p3 σ) fun r10 s8 => some (r10, s8) else some ((-1000000), σ)
set_option maxHeartbeats 4000000 in
set_option maxRecDepth 100000 in
theorem xk_RP_game {z : rb_Z} {w : rb_Wd} (hC : rb_Cx z rb_vX w RX11 cX11_game 5 (some .int) 6) (p0 : Int32) (p1 : Int32) (p2 : Int32) (p3 : Int32) (σ : rb_St) (r : Int32) (σ9 : rb_St) (h : xf_RP_game p0 p1 p2 p3 σ = some (r, σ9)) : rb_At z rb_vX w 5 (rb_Q z rb_vX w (some (.int r)) σ9) 0 [(0, .ref (rb_ad w 0)), (1, .int p0), (2, .int p1), (3, .int p2), (4, .int p3)] [] σ := by
  unfold xf_RP_game at h
  refine rb_aload_n hC 0 dX11_game_0 rfl ?_
  refine rb_getR hC fr_X11_49_10 rb_obX0 rfl dX11_game_1 ?_
  refine rb_iload_n hC 1 dX11_game_4 rfl ?_
  refine rb_callVi hC rb_VokX mv_X11_211 (xc_Pole_hasPlace 18 rb_isPole18 p0 σ _ rfl) (rb_obPole rb_isPole18) rfl [.int p0] rfl rfl rfl ⟨Nat.le_of_ble_eq_true rfl, Nat.le_of_ble_eq_true rfl⟩ (Nat.le_of_ble_eq_true rfl) dX11_game_5 ?_
  refine rb_if_eq hC 40 dX11_game_8 (by decide) (fun c1 => ?_) (fun c1 => ?_)
  · replace h := rb_ifp c1 h
    refine rb_ldc hC kc_X11_254 dX11_game_40 ?_
    cases h
    exact rb_iret hC dX11_game_42
  · replace h := rb_ifn c1 h
    refine rb_iload_n hC 2 dX11_game_11 rfl ?_
    refine rb_if_lt hC 40 dX11_game_12 (by decide) (fun c2 => ?_) (fun c2 => ?_)
    · replace h := rb_ifp c2 h
      refine rb_ldc hC kc_X11_254 dX11_game_40 ?_
      cases h
      exact rb_iret hC dX11_game_42
    · replace h := rb_ifn c2 h
      refine rb_iload_n hC 2 dX11_game_15 rfl ?_
      refine rb_iconst (x := 2) hC dX11_game_16 (by decide) ?_
      refine rb_icmp_gt hC 40 dX11_game_17 (by decide) (fun c3 => ?_) (fun c3 => ?_)
      · replace h := rb_ifp c3 h
        refine rb_ldc hC kc_X11_254 dX11_game_40 ?_
        cases h
        exact rb_iret hC dX11_game_42
      · replace h := rb_ifn c3 h
        refine rb_iload_n hC 3 dX11_game_20 rfl ?_
        refine rb_if_lt hC 40 dX11_game_21 (by decide) (fun c4 => ?_) (fun c4 => ?_)
        · replace h := rb_ifp c4 h
          refine rb_ldc hC kc_X11_254 dX11_game_40 ?_
          cases h
          exact rb_iret hC dX11_game_42
        · replace h := rb_ifn c4 h
          refine rb_iload_n hC 3 dX11_game_24 rfl ?_
          refine rb_iconst (x := 2) hC dX11_game_25 (by decide) ?_
          refine rb_icmp_gt hC 40 dX11_game_26 (by decide) (fun c5 => ?_) (fun c5 => ?_)
          · replace h := rb_ifp c5 h
            refine rb_ldc hC kc_X11_254 dX11_game_40 ?_
            cases h
            exact rb_iret hC dX11_game_42
          · replace h := rb_ifn c5 h
            refine rb_iload hC 4 dX11_game_29 rfl ?_
            refine rb_if_lt hC 40 dX11_game_31 (by decide) (fun c6 => ?_) (fun c6 => ?_)
            · replace h := rb_ifp c6 h
              refine rb_ldc hC kc_X11_254 dX11_game_40 ?_
              cases h
              exact rb_iret hC dX11_game_42
            · replace h := rb_ifn c6 h
              refine rb_iload hC 4 dX11_game_34 rfl ?_
              refine rb_iconst (x := 1) hC dX11_game_36 (by decide) ?_
              refine rb_icmp_le hC 43 dX11_game_37 (by decide) (fun c7 => ?_) (fun c7 => ?_)
              · replace h := rb_ifp c7 h
                refine rb_aload_n hC 0 dX11_game_43 rfl ?_
                refine rb_iload_n hC 1 dX11_game_44 rfl ?_
                refine rb_iload_n hC 2 dX11_game_45 rfl ?_
                refine rb_iload_n hC 3 dX11_game_46 rfl ?_
                refine rb_iload hC 4 dX11_game_47 rfl ?_
                obtain ⟨r10, s8, q9, h⟩ := rb_b2s h
                refine rb_callVi hC rb_VokX mv_X11_427 (xc_RP_gain p0 p1 p2 p3 σ _ _ q9) rb_obX0 rfl [.int p0, .int p1, .int p2, .int p3] rfl rfl rfl ⟨Nat.le_of_ble_eq_true rfl, Nat.le_of_ble_eq_true rfl⟩ (Nat.le_of_ble_eq_true rfl) dX11_game_49 ?_
                cases h
                exact rb_iret hC dX11_game_52
              · replace h := rb_ifn c7 h
                refine rb_ldc hC kc_X11_254 dX11_game_40 ?_
                cases h
                exact rb_iret hC dX11_game_42
theorem xc_RP_game (p0 : Int32) (p1 : Int32) (p2 : Int32) (p3 : Int32) (σ : rb_St) (r : Int32) (σ9 : rb_St) (h : xf_RP_game p0 p1 p2 p3 σ = some (r, σ9)) : rb_Con rb_vX yX11_game cX11_game 5 (some .int) 6 (fun w => [.ref (rb_ad w 0), .int p0, .int p1, .int p2, .int p3]) σ (fun _ => (some (.int r))) σ9 := rb_Con.of (by decide +kernel) (fun _ => Nat.le_of_ble_eq_true rfl) (fun z w hC => xk_RP_game hC p0 p1 p2 p3 σ r σ9 h)
theorem me_X11_isRest : Cond.instanceMethod yX11_isRest ∈ rb_tbl ∧ Cond.selects yX11_isRest.cls yX11_isRest yX11_isRest ∈ rb_tbl ∧ Cond.initialized yX11_isRest.cls ∈ rb_tbl ∧ Cond.code yX11_isRest cX11_isRest 7 (some .boolean) ∈ rb_tbl ∧ rb_pn yX11_isRest 3 := ⟨rb_in (by decide +kernel) (by decide +kernel), rb_in (by decide +kernel) (by decide +kernel), rb_in (by decide +kernel) (by decide +kernel), rb_in (by decide +kernel) (by decide +kernel), by decide +kernel, by decide +kernel, by decide +kernel⟩
theorem mv_X11_431 : rb_MV RX11 431 yX11_isRest cX11_isRest 7 (some .boolean) 3 := ⟨rb_in (by decide +kernel) (by decide +kernel), me_X11_isRest⟩
def xl_RP_rests_32 (x1 : Int32) (x2 : Int32) (x4 : Int32) : Nat → Int32 → Int32 → rb_St → Option (Nat × Int32 × Int32 × rb_St)
  | 0, _, _, _ => none
  | n + 1, x3, x5, σ => if 2 < x5 then some (1, x3, x5, σ) else rb_b2 (xf_RP_isRest x1 x4 x5 σ) fun r7 s5 => if r7 = 0 then xl_RP_rests_32 x1 x2 x4 n x3 (x5 + 1) s5 else if x3 = x2 then some (0, x3, x5, s5) else xl_RP_rests_32 x1 x2 x4 n (x3 + 1) (x5 + 1) s5
set_option maxHeartbeats 4000000 in
set_option maxRecDepth 100000 in
theorem xt_RP_rests_32 {z : rb_Z} {w : rb_Wd} {Q : State → Prop} (hC : rb_Cx z rb_vX w RX11 cX11_rests 6 (some .int) 7) (x1 : Int32) (x2 : Int32) (x4 : Int32) : ∀ (n : Nat) (x3 : Int32) (x5 : Int32) (σ : rb_St) (t : Nat) (y3 : Int32) (y5 : Int32) (σ9 : rb_St), xl_RP_rests_32 x1 x2 x4 n x3 x5 σ = some (t, y3, y5, σ9) → (t = 0 → rb_At z rb_vX w 6 Q 55 [(4, .int x4), (5, .int y5)] [] σ9) → (t = 1 → rb_At z rb_vX w 6 Q 73 [(0, .ref (rb_ad w 0)), (1, .int x1), (2, .int x2), (3, .int y3), (4, .int x4)] [] σ9) → rb_At z rb_vX w 6 Q 32 [(0, .ref (rb_ad w 0)), (1, .int x1), (2, .int x2), (3, .int x3), (4, .int x4), (5, .int x5)] [] σ := by
  intro n
  induction n with
  | zero =>
    intro x3 x5 σ t y3 y5 σ9 h hE0 hE1
    cases h
  | succ n ih =>
    intro x3 x5 σ t y3 y5 σ9 h hE0 hE1
    rw [xl_RP_rests_32] at h
    refine rb_iload hC 5 dX11_rests_32 rfl ?_
    refine rb_iconst (x := 2) hC dX11_rests_34 (by decide) ?_
    refine rb_icmp_gt hC 73 dX11_rests_35 (by decide) (fun c4 => ?_) (fun c4 => ?_)
    · replace h := rb_ifp c4 h
      cases h
      exact rb_sub [0, 1, 2, 3, 4] rfl (hE1 rfl)
    · replace h := rb_ifn c4 h
      refine rb_aload_n hC 0 dX11_rests_38 rfl ?_
      refine rb_iload_n hC 1 dX11_rests_39 rfl ?_
      refine rb_iload hC 4 dX11_rests_40 rfl ?_
      refine rb_iload hC 5 dX11_rests_42 rfl ?_
      obtain ⟨r7, s5, q6, h⟩ := rb_b2s h
      refine rb_callVi hC rb_VokX mv_X11_431 (xc_RP_isRest x1 x4 x5 σ _ _ q6) rb_obX0 rfl [.int x1, .int x4, .int x5] rfl rfl rfl ⟨Nat.le_of_ble_eq_true rfl, Nat.le_of_ble_eq_true rfl⟩ (Nat.le_of_ble_eq_true rfl) dX11_rests_44 ?_
      refine rb_if_eq hC 67 dX11_rests_47 (by decide) (fun c8 => ?_) (fun c8 => ?_)
      · replace h := rb_ifp c8 h
        refine rb_iinc hC 5 [(5, .int (x5 + 1)), (0, .ref (rb_ad w 0)), (1, .int x1), (2, .int x2), (3, .int x3), (4, .int x4)] dX11_rests_67 rfl rfl (by decide) rfl ?_
        refine rb_goto hC 32 dX11_rests_70 (by decide) ?_
        exact rb_sub [1, 2, 3, 4, 5, 0] rfl (ih x3 (x5 + 1) s5 _ _ _ _ h hE0 hE1)
      · replace h := rb_ifn c8 h
        refine rb_iload_n hC 3 dX11_rests_50 rfl ?_
        refine rb_iload_n hC 2 dX11_rests_51 rfl ?_
        refine rb_icmp_ne hC 64 dX11_rests_52 (by decide) (fun c9 => ?_) (fun c9 => ?_)
        · replace h := rb_ifn c9 h
          refine rb_iinc hC 3 [(3, .int (x3 + 1)), (0, .ref (rb_ad w 0)), (1, .int x1), (2, .int x2), (4, .int x4), (5, .int x5)] dX11_rests_64 rfl rfl (by decide) rfl ?_
          refine rb_iinc hC 5 [(5, .int (x5 + 1)), (3, .int (x3 + 1)), (0, .ref (rb_ad w 0)), (1, .int x1), (2, .int x2), (4, .int x4)] dX11_rests_67 rfl rfl (by decide) rfl ?_
          refine rb_goto hC 32 dX11_rests_70 (by decide) ?_
          exact rb_sub [2, 3, 4, 1, 5, 0] rfl (ih (x3 + 1) (x5 + 1) s5 _ _ _ _ h hE0 hE1)
        · replace h := rb_ifp c9 h
          cases h
          exact rb_sub [4, 5] rfl (hE0 rfl)
def xl_RP_rests_23 (x1 : Int32) (x2 : Int32) : Nat → Int32 → Int32 → rb_St → Option (Nat × Int32 × Int32 × Int32 × rb_St)
  | 0, _, _, _ => none
  | n + 1, x3, x4, σ => if 2 < x4 then some (1, x3, x4, 0, σ) else rb_b4 (xl_RP_rests_32 x1 x2 x4 rb_FU x3 0 σ) fun t10 y11 y12 s13 => if t10 = 0 then some (0, 0, x4, y12, s13) else xl_RP_rests_23 x1 x2 n y11 (x4 + 1) s13
set_option maxHeartbeats 4000000 in
set_option maxRecDepth 100000 in
theorem xt_RP_rests_23 {z : rb_Z} {w : rb_Wd} {Q : State → Prop} (hC : rb_Cx z rb_vX w RX11 cX11_rests 6 (some .int) 7) (x1 : Int32) (x2 : Int32) : ∀ (n : Nat) (x3 : Int32) (x4 : Int32) (σ : rb_St) (t : Nat) (y3 : Int32) (y4 : Int32) (y5 : Int32) (σ9 : rb_St), xl_RP_rests_23 x1 x2 n x3 x4 σ = some (t, y3, y4, y5, σ9) → (t = 0 → rb_At z rb_vX w 6 Q 55 [(4, .int y4), (5, .int y5)] [] σ9) → (t = 1 → rb_At z rb_vX w 6 Q 79 [(2, .int x2), (3, .int y3)] [] σ9) → rb_At z rb_vX w 6 Q 23 [(0, .ref (rb_ad w 0)), (1, .int x1), (2, .int x2), (3, .int x3), (4, .int x4)] [] σ := by
  intro n
  induction n with
  | zero =>
    intro x3 x4 σ t y3 y4 y5 σ9 h hE0 hE1
    cases h
  | succ n ih =>
    intro x3 x4 σ t y3 y4 y5 σ9 h hE0 hE1
    rw [xl_RP_rests_23] at h
    refine rb_iload hC 4 dX11_rests_23 rfl ?_
    refine rb_iconst (x := 2) hC dX11_rests_25 (by decide) ?_
    refine rb_icmp_gt hC 79 dX11_rests_26 (by decide) (fun c3 => ?_) (fun c3 => ?_)
    · replace h := rb_ifp c3 h
      cases h
      exact rb_sub [2, 3] rfl (hE1 rfl)
    · replace h := rb_ifn c3 h
      refine rb_iconst (x := 0) hC dX11_rests_29 (by decide) ?_
      refine rb_istore hC [(5, .int 0), (0, .ref (rb_ad w 0)), (1, .int x1), (2, .int x2), (3, .int x3), (4, .int x4)] dX11_rests_30 (by decide) rfl ?_
      obtain ⟨t10, y11, y12, s13, q14, h⟩ := rb_b4s h
      refine rb_sub (lv2 := [(0, .ref (rb_ad w 0)), (1, .int x1), (2, .int x2), (3, .int x3), (4, .int x4), (5, .int 0)]) [1, 2, 3, 4, 5, 0] rfl ?_
      refine xt_RP_rests_32 hC x1 x2 x4 rb_FU x3 0 σ _ _ _ _ q14 (fun ht => ?_) (fun ht => ?_)
      · subst ht
        replace h := rb_ifp rfl h
        cases h
        exact rb_sub [0, 1] rfl (hE0 rfl)
      · subst ht
        replace h := rb_ifn (by decide) h
        refine rb_iinc hC 4 [(4, .int (x4 + 1)), (0, .ref (rb_ad w 0)), (1, .int x1), (2, .int x2), (3, .int y11)] dX11_rests_73 rfl rfl (by decide) rfl ?_
        refine rb_goto hC 23 dX11_rests_76 (by decide) ?_
        exact rb_sub [1, 2, 3, 4, 0] rfl (ih y11 (x4 + 1) s13 _ _ _ _ _ h hE0 hE1)
def xf_RP_rests (p0 : Int32) (p1 : Int32) (σ : rb_St) : Option (Int32 × rb_St) := if (xf_Pole_hasPlace 18 p0 σ) = 0 then some ((-1), σ) else if (-1) ≤ p1 then rb_b5 (xl_RP_rests_23 p0 p1 rb_FU 0 0 σ) fun t15 y16 y17 y18 s19 => if t15 = 0 then some ((10 * y17) + y18, s19) else if p1 = (-1) then some (y16, s19) else some ((-1), s19) else some ((-1), σ)
set_option maxHeartbeats 4000000 in
set_option maxRecDepth 100000 in
theorem xk_RP_rests {z : rb_Z} {w : rb_Wd} (hC : rb_Cx z rb_vX w RX11 cX11_rests 6 (some .int) 7) (p0 : Int32) (p1 : Int32) (σ : rb_St) (r : Int32) (σ9 : rb_St) (h : xf_RP_rests p0 p1 σ = some (r, σ9)) : rb_At z rb_vX w 6 (rb_Q z rb_vX w (some (.int r)) σ9) 0 [(0, .ref (rb_ad w 0)), (1, .int p0), (2, .int p1)] [] σ := by
  unfold xf_RP_rests at h
  refine rb_aload_n hC 0 dX11_rests_0 rfl ?_
  refine rb_getR hC fr_X11_49_10 rb_obX0 rfl dX11_rests_1 ?_
  refine rb_iload_n hC 1 dX11_rests_4 rfl ?_
  refine rb_callVi hC rb_VokX mv_X11_211 (xc_Pole_hasPlace 18 rb_isPole18 p0 σ _ rfl) (rb_obPole rb_isPole18) rfl [.int p0] rfl rfl rfl ⟨Nat.le_of_ble_eq_true rfl, Nat.le_of_ble_eq_true rfl⟩ (Nat.le_of_ble_eq_true rfl) dX11_rests_5 ?_
  refine rb_if_eq hC 16 dX11_rests_8 (by decide) (fun c1 => ?_) (fun c1 => ?_)
  · replace h := rb_ifp c1 h
    refine rb_iconst (x := (-1)) hC dX11_rests_16 (by decide) ?_
    cases h
    exact rb_iret hC dX11_rests_17
  · replace h := rb_ifn c1 h
    refine rb_iload_n hC 2 dX11_rests_11 rfl ?_
    refine rb_iconst (x := (-1)) hC dX11_rests_12 (by decide) ?_
    refine rb_icmp_ge hC 18 dX11_rests_13 (by decide) (fun c2 => ?_) (fun c2 => ?_)
    · replace h := rb_ifp c2 h
      refine rb_iconst (x := 0) hC dX11_rests_18 (by decide) ?_
      refine rb_istore_n hC [(3, .int 0), (0, .ref (rb_ad w 0)), (1, .int p0), (2, .int p1)] dX11_rests_19 (by decide) rfl ?_
      refine rb_iconst (x := 0) hC dX11_rests_20 (by decide) ?_
      refine rb_istore hC [(4, .int 0), (3, .int 0), (0, .ref (rb_ad w 0)), (1, .int p0), (2, .int p1)] dX11_rests_21 (by decide) rfl ?_
      obtain ⟨t15, y16, y17, y18, s19, q20, h⟩ := rb_b5s h
      refine rb_sub (lv2 := [(0, .ref (rb_ad w 0)), (1, .int p0), (2, .int p1), (3, .int 0), (4, .int 0)]) [2, 3, 4, 1, 0] rfl ?_
      refine xt_RP_rests_23 hC p0 p1 rb_FU 0 0 σ _ _ _ _ _ q20 (fun ht => ?_) (fun ht => ?_)
      · subst ht
        replace h := rb_ifp rfl h
        refine rb_bipush (x := 10) hC dX11_rests_55 (by decide) ?_
        refine rb_iload hC 0 dX11_rests_57 rfl ?_
        refine rb_imul hC dX11_rests_59 ?_
        refine rb_iload hC 1 dX11_rests_60 rfl ?_
        refine rb_iadd hC dX11_rests_62 ?_
        cases h
        exact rb_iret hC dX11_rests_63
      · subst ht
        replace h := rb_ifn (by decide) h
        refine rb_iload_n hC 0 dX11_rests_79 rfl ?_
        refine rb_iconst (x := (-1)) hC dX11_rests_80 (by decide) ?_
        refine rb_icmp_ne hC 88 dX11_rests_81 (by decide) (fun c21 => ?_) (fun c21 => ?_)
        · replace h := rb_ifn c21 h
          refine rb_iconst (x := (-1)) hC dX11_rests_88 (by decide) ?_
          cases h
          exact rb_iret hC dX11_rests_89
        · replace h := rb_ifp c21 h
          refine rb_iload_n hC 1 dX11_rests_84 rfl ?_
          refine rb_goto hC 89 dX11_rests_85 (by decide) ?_
          cases h
          exact rb_iret hC dX11_rests_89
    · replace h := rb_ifn c2 h
      refine rb_iconst (x := (-1)) hC dX11_rests_16 (by decide) ?_
      cases h
      exact rb_iret hC dX11_rests_17
theorem xc_RP_rests (p0 : Int32) (p1 : Int32) (σ : rb_St) (r : Int32) (σ9 : rb_St) (h : xf_RP_rests p0 p1 σ = some (r, σ9)) : rb_Con rb_vX yX11_rests cX11_rests 6 (some .int) 7 (fun w => [.ref (rb_ad w 0), .int p0, .int p1]) σ (fun _ => (some (.int r))) σ9 := rb_Con.of (by decide +kernel) (fun _ => Nat.le_of_ble_eq_true rfl) (fun z w hC => xk_RP_rests hC p0 p1 σ r σ9 h)
theorem fr_X6_24_5 : rb_FR RX6 24 5 1 := ⟨RX5, TX5, 5, "RibbonPole$Law", rfl, rb_uX5, by decide, rb_in (by decide +kernel) (by decide +kernel), Or.inl rfl⟩
theorem me_X6_readBody : Cond.instanceMethod yX6_readBody ∈ rb_tbl ∧ Cond.selects yX6_readBody.cls yX6_readBody yX6_readBody ∈ rb_tbl ∧ Cond.initialized yX6_readBody.cls ∈ rb_tbl ∧ Cond.code yX6_readBody cX6_readBody 2 (some .boolean) ∈ rb_tbl ∧ rb_pn yX6_readBody 0 := ⟨rb_in (by decide +kernel) (by decide +kernel), rb_in (by decide +kernel) (by decide +kernel), rb_in (by decide +kernel) (by decide +kernel), rb_in (by decide +kernel) (by decide +kernel), by decide +kernel, by decide +kernel, by decide +kernel⟩
theorem mv_X6_31 : rb_MV RX6 31 yX6_readBody cX6_readBody 2 (some .boolean) 0 := ⟨rb_in (by decide +kernel) (by decide +kernel), me_X6_readBody⟩
def xl_LR_readAll_15  : Nat → Int32 → rb_St → Option (Nat × rb_St)
  | 0, _, _ => none
  | n + 1, x1, σ => if 240 ≤ x1 then some (3, σ) else rb_b2 (xf_Rd_passesL 121 σ) fun r8 s6 => if r8 = 0 then some (0, s6) else rb_b2 (xf_Rd_passesL 58 s6) fun r12 s10 => if r12 = 0 then some (0, s10) else rb_b2 (xf_LR_readBody s10) fun r16 s14 => if r16 = 0 then some (0, s14) else rb_b1 (xf_Law_add (-22) s14) fun s18 => rb_b2 (xf_Rd_nextSignL s18) fun r22 s20 => if r22 = (-1) then some (1, s20) else rb_b2 (xf_Rd_passesL 59 s20) fun r26 s24 => if r26 = 0 then some (2, s24) else xl_LR_readAll_15 n (x1 + 1) s24
set_option maxHeartbeats 4000000 in
set_option maxRecDepth 100000 in
theorem xt_LR_readAll_15 {z : rb_Z} {w : rb_Wd} {Q : State → Prop} (hC : rb_Cx z rb_vX w RX6 cX6_readAll 2 (some .boolean) 71)  : ∀ (n : Nat) (x1 : Int32) (σ : rb_St) (t : Nat) (σ9 : rb_St), xl_LR_readAll_15 n x1 σ = some (t, σ9) → (t = 0 → rb_At z rb_vX w 2 Q 47 [] [] σ9) → (t = 1 → rb_At z rb_vX w 2 Q 66 [] [] σ9) → (t = 2 → rb_At z rb_vX w 2 Q 77 [] [] σ9) → (t = 3 → rb_At z rb_vX w 2 Q 85 [] [] σ9) → rb_At z rb_vX w 2 Q 15 [(0, .ref (rb_ad w 7)), (1, .int x1)] [] σ := by
  intro n
  induction n with
  | zero =>
    intro x1 σ t σ9 h hE0 hE1 hE2 hE3
    cases h
  | succ n ih =>
    intro x1 σ t σ9 h hE0 hE1 hE2 hE3
    rw [xl_LR_readAll_15] at h
    refine rb_iload_n hC 1 dX6_readAll_15 rfl ?_
    refine rb_sipush (x := 240) hC dX6_readAll_16 (by decide) ?_
    refine rb_icmp_ge hC 85 dX6_readAll_19 (by decide) (fun c5 => ?_) (fun c5 => ?_)
    · replace h := rb_ifp c5 h
      cases h
      exact rb_sub [] rfl (hE3 rfl)
    · replace h := rb_ifn c5 h
      refine rb_aload_n hC 0 dX6_readAll_22 rfl ?_
      refine rb_bipush (x := 121) hC dX6_readAll_23 (by decide) ?_
      obtain ⟨r8, s6, q7, h⟩ := rb_b2s h
      refine rb_callUi hC rb_VokX mv_X6_27_6 (xc_Rd_passesL 121 σ _ _ q7) rb_obX7 rfl [.int 121] rfl rfl rfl ⟨Nat.le_of_ble_eq_true rfl, Nat.le_of_ble_eq_true rfl⟩ (Nat.le_of_ble_eq_true rfl) dX6_readAll_25 ?_
      refine rb_if_eq hC 47 dX6_readAll_28 (by decide) (fun c9 => ?_) (fun c9 => ?_)
      · replace h := rb_ifp c9 h
        cases h
        exact rb_sub [] rfl (hE0 rfl)
      · replace h := rb_ifn c9 h
        refine rb_aload_n hC 0 dX6_readAll_31 rfl ?_
        refine rb_bipush (x := 58) hC dX6_readAll_32 (by decide) ?_
        obtain ⟨r12, s10, q11, h⟩ := rb_b2s h
        refine rb_callUi hC rb_VokX mv_X6_27_6 (xc_Rd_passesL 58 s6 _ _ q11) rb_obX7 rfl [.int 58] rfl rfl rfl ⟨Nat.le_of_ble_eq_true rfl, Nat.le_of_ble_eq_true rfl⟩ (Nat.le_of_ble_eq_true rfl) dX6_readAll_34 ?_
        refine rb_if_eq hC 47 dX6_readAll_37 (by decide) (fun c13 => ?_) (fun c13 => ?_)
        · replace h := rb_ifp c13 h
          cases h
          exact rb_sub [] rfl (hE0 rfl)
        · replace h := rb_ifn c13 h
          refine rb_aload_n hC 0 dX6_readAll_40 rfl ?_
          obtain ⟨r16, s14, q15, h⟩ := rb_b2s h
          refine rb_callVi hC rb_VokX mv_X6_31 (xc_LR_readBody  s10 _ _ q15) rb_obX7 rfl [] rfl rfl rfl ⟨Nat.le_of_ble_eq_true rfl, Nat.le_of_ble_eq_true rfl⟩ (Nat.le_of_ble_eq_true rfl) dX6_readAll_41 ?_
          refine rb_if_ne hC 49 dX6_readAll_44 (by decide) (fun c17 => ?_) (fun c17 => ?_)
          · replace h := rb_ifn c17 h
            refine rb_aload_n hC 0 dX6_readAll_49 rfl ?_
            refine rb_getR hC fr_X6_14_6 rb_obX7 rfl dX6_readAll_50 ?_
            refine rb_bipush (x := (-22)) hC dX6_readAll_53 (by decide) ?_
            obtain ⟨s18, q19, h⟩ := rb_b1s h
            refine rb_callVv hC rb_VokX mv_X6_35 (xc_Law_add (-22) s14 _ q19) rb_obX8 rfl [.int (-22)] rfl rfl rfl ⟨Nat.le_of_ble_eq_true rfl, Nat.le_of_ble_eq_true rfl⟩ (Nat.le_of_ble_eq_true rfl) dX6_readAll_55 ?_
            refine rb_aload_n hC 0 dX6_readAll_58 rfl ?_
            obtain ⟨r22, s20, q21, h⟩ := rb_b2s h
            refine rb_callUi hC rb_VokX mv_X6_39_6 (xc_Rd_nextSignL  s18 _ _ q21) rb_obX7 rfl [] rfl rfl rfl ⟨Nat.le_of_ble_eq_true rfl, Nat.le_of_ble_eq_true rfl⟩ (Nat.le_of_ble_eq_true rfl) dX6_readAll_59 ?_
            refine rb_iconst (x := (-1)) hC dX6_readAll_62 (by decide) ?_
            refine rb_icmp_ne hC 68 dX6_readAll_63 (by decide) (fun c23 => ?_) (fun c23 => ?_)
            · replace h := rb_ifn c23 h
              refine rb_aload_n hC 0 dX6_readAll_68 rfl ?_
              refine rb_bipush (x := 59) hC dX6_readAll_69 (by decide) ?_
              obtain ⟨r26, s24, q25, h⟩ := rb_b2s h
              refine rb_callUi hC rb_VokX mv_X6_27_6 (xc_Rd_passesL 59 s20 _ _ q25) rb_obX7 rfl [.int 59] rfl rfl rfl ⟨Nat.le_of_ble_eq_true rfl, Nat.le_of_ble_eq_true rfl⟩ (Nat.le_of_ble_eq_true rfl) dX6_readAll_71 ?_
              refine rb_if_ne hC 79 dX6_readAll_74 (by decide) (fun c27 => ?_) (fun c27 => ?_)
              · replace h := rb_ifn c27 h
                refine rb_iinc hC 1 [(1, .int (x1 + 1)), (0, .ref (rb_ad w 7))] dX6_readAll_79 rfl rfl (by decide) rfl ?_
                refine rb_goto hC 15 dX6_readAll_82 (by decide) ?_
                exact rb_sub [1, 0] rfl (ih (x1 + 1) s24 _ _ h hE0 hE1 hE2 hE3)
              · replace h := rb_ifp c27 h
                cases h
                exact rb_sub [] rfl (hE2 rfl)
            · replace h := rb_ifp c23 h
              cases h
              exact rb_sub [] rfl (hE1 rfl)
          · replace h := rb_ifp c17 h
            cases h
            exact rb_sub [] rfl (hE0 rfl)
def xf_LR_readAll  (σ : rb_St) : Option (Int32 × rb_St) := rb_lt (rb_sI σ 7 1 0) (fun s1 => rb_lt (rb_sI s1 8 1 0) (fun s3 => rb_b2 (xl_LR_readAll_15 rb_FU 0 s3) fun t28 s29 => if t28 = 0 then some (0, s29) else if t28 = 1 then some (1, s29) else if t28 = 2 then some (0, s29) else some (0, s29)))
set_option maxHeartbeats 4000000 in
set_option maxRecDepth 100000 in
theorem xk_LR_readAll {z : rb_Z} {w : rb_Wd} (hC : rb_Cx z rb_vX w RX6 cX6_readAll 2 (some .boolean) 71)  (σ : rb_St) (r : Int32) (σ9 : rb_St) (h : xf_LR_readAll σ = some (r, σ9)) : rb_At z rb_vX w 2 (rb_Q z rb_vX w (some (.int r)) σ9) 0 [(0, .ref (rb_ad w 7))] [] σ := by
  unfold xf_LR_readAll at h
  refine rb_aload_n hC 0 dX6_readAll_0 rfl ?_
  refine rb_iconst (x := 0) hC dX6_readAll_1 (by decide) ?_
  refine rb_putI hC fr_X6_20_6 ft_6_1 rb_obX7 rfl rfl rfl dX6_readAll_2 ?_
  obtain ⟨s1, e2, h⟩ := rb_ltE h
  refine rb_nmS e2 ?_
  refine rb_aload_n hC 0 dX6_readAll_5 rfl ?_
  refine rb_getR hC fr_X6_14_6 rb_obX7 rfl dX6_readAll_6 ?_
  refine rb_iconst (x := 0) hC dX6_readAll_9 (by decide) ?_
  refine rb_putI hC fr_X6_24_5 ft_5_1 rb_obX8 rfl rfl rfl dX6_readAll_10 ?_
  obtain ⟨s3, e4, h⟩ := rb_ltE h
  refine rb_nmS e4 ?_
  refine rb_iconst (x := 0) hC dX6_readAll_13 (by decide) ?_
  refine rb_istore_n hC [(1, .int 0), (0, .ref (rb_ad w 7))] dX6_readAll_14 (by decide) rfl ?_
  obtain ⟨t28, s29, q30, h⟩ := rb_b2s h
  refine rb_sub (lv2 := [(0, .ref (rb_ad w 7)), (1, .int 0)]) [1, 0] rfl ?_
  refine xt_LR_readAll_15 hC  rb_FU 0 s3 _ _ q30 (fun ht => ?_) (fun ht => ?_) (fun ht => ?_) (fun ht => ?_)
  · subst ht
    replace h := rb_ifp rfl h
    refine rb_iconst (x := 0) hC dX6_readAll_47 (by decide) ?_
    cases h
    exact rb_zret hC rfl dX6_readAll_48
  · subst ht
    replace h := rb_ifn (by decide) h
    replace h := rb_ifp rfl h
    refine rb_iconst (x := 1) hC dX6_readAll_66 (by decide) ?_
    cases h
    exact rb_zret hC rfl dX6_readAll_67
  · subst ht
    replace h := rb_ifn (by decide) h
    replace h := rb_ifn (by decide) h
    replace h := rb_ifp rfl h
    refine rb_iconst (x := 0) hC dX6_readAll_77 (by decide) ?_
    cases h
    exact rb_zret hC rfl dX6_readAll_78
  · subst ht
    replace h := rb_ifn (by decide) h
    replace h := rb_ifn (by decide) h
    replace h := rb_ifn (by decide) h
    refine rb_iconst (x := 0) hC dX6_readAll_85 (by decide) ?_
    cases h
    exact rb_zret hC rfl dX6_readAll_86
theorem xc_LR_readAll  (σ : rb_St) (r : Int32) (σ9 : rb_St) (h : xf_LR_readAll σ = some (r, σ9)) : rb_Con rb_vX yX6_readAll cX6_readAll 2 (some .boolean) 71 (fun w => [.ref (rb_ad w 7)]) σ (fun _ => (some (.int r))) σ9 := rb_Con.of (by decide +kernel) (fun _ => Nat.le_of_ble_eq_true rfl) (fun z w hC => xk_LR_readAll hC  σ r σ9 h)
theorem me_X11_readerOf : Cond.instanceMethod yX11_readerOf ∈ rb_tbl ∧ Cond.selects yX11_readerOf.cls yX11_readerOf yX11_readerOf ∈ rb_tbl ∧ Cond.initialized yX11_readerOf.cls ∈ rb_tbl ∧ Cond.code yX11_readerOf cX11_readerOf 2 (some (.object "RibbonPole$Reader")) ∈ rb_tbl ∧ rb_pn yX11_readerOf 1 := ⟨rb_in (by decide +kernel) (by decide +kernel), rb_in (by decide +kernel) (by decide +kernel), rb_in (by decide +kernel) (by decide +kernel), rb_in (by decide +kernel) (by decide +kernel), by decide +kernel, by decide +kernel, by decide +kernel⟩
theorem mv_X11_113 : rb_MV RX11 113 yX11_readerOf cX11_readerOf 2 (some (.object "RibbonPole$Reader")) 1 := ⟨rb_in (by decide +kernel) (by decide +kernel), me_X11_readerOf⟩
theorem mo_X11_117_X4 : rb_MO RX11 117 "RibbonPole$GreenReader" yX4_readAll cX4_readAll 2 := ⟨rb_in (by decide +kernel) (by decide +kernel), rb_in (by decide +kernel) (by decide +kernel), rb_in (by decide +kernel) (by decide +kernel), rb_in (by decide +kernel) (by decide +kernel), rb_in (by decide +kernel) (by decide +kernel), rb_in (by decide +kernel) (by decide +kernel)⟩
theorem fr_X11_123_4 : rb_FR RX11 123 4 1 := ⟨RX4, TX4, 4, "RibbonPole$Reader", rfl, rb_uX4, by decide, rb_in (by decide +kernel) (by decide +kernel), Or.inl rfl⟩
def xf_RP_fault0  (σ : rb_St) : Option (Int32 × rb_St) := rb_b2 (xf_GR_readAll σ) fun r1 s2 => if r1 = 0 then some (s2.1 3 1, s2) else some ((-1), s2)
set_option maxHeartbeats 4000000 in
set_option maxRecDepth 100000 in
theorem xk_RP_fault0 {z : rb_Z} {w : rb_Wd} (hC : rb_Cx z rb_vX w RX11 cX11_fault 3 (some .int) 70)  (σ : rb_St) (r : Int32) (σ9 : rb_St) (h : xf_RP_fault0 σ = some (r, σ9)) : rb_At z rb_vX w 3 (rb_Q z rb_vX w (some (.int r)) σ9) 0 [(0, .ref (rb_ad w 0)), (1, .int 0)] [] σ := by
  unfold xf_RP_fault0 at h
  refine rb_aload_n hC 0 dX11_fault_0 rfl ?_
  refine rb_iload_n hC 1 dX11_fault_1 rfl ?_
  refine rb_callV hC rb_VokX mv_X11_113 (xc_RP_readerOf0  σ) rb_obX0 rfl [.int 0] rfl rfl rfl ⟨Nat.le_of_ble_eq_true rfl, Nat.le_of_ble_eq_true rfl⟩ (Nat.le_of_ble_eq_true rfl) dX11_fault_2 ?_
  refine rb_astore_n hC [(2, .ref (rb_ad w 3)), (0, .ref (rb_ad w 0)), (1, .int 0)] dX11_fault_5 (by decide) rfl ?_
  refine rb_aload_n hC 0 dX11_fault_6 rfl ?_
  refine rb_ifnonnull hC 13 dX11_fault_7 (by decide) ?_
  refine rb_aload_n hC 0 dX11_fault_13 rfl ?_
  obtain ⟨r1, s2, q3, h⟩ := rb_b2s h
  refine rb_callO hC mo_X11_117_X4 (xc_GR_readAll σ _ _ q3) rb_obX3 rfl ⟨Nat.le_of_ble_eq_true rfl, Nat.le_of_ble_eq_true rfl⟩ (Nat.le_of_ble_eq_true rfl) dX11_fault_14 ?_
  refine rb_if_eq hC 24 dX11_fault_17 (by decide) (fun c4 => ?_) (fun c4 => ?_)
  · replace h := rb_ifp c4 h
    refine rb_aload_n hC 0 dX11_fault_24 rfl ?_
    refine rb_getI hC fr_X11_123_4 rb_obX3 rfl dX11_fault_25 ?_
    cases h
    exact rb_iret hC dX11_fault_28
  · replace h := rb_ifn c4 h
    refine rb_iconst (x := (-1)) hC dX11_fault_20 (by decide) ?_
    refine rb_goto hC 28 dX11_fault_21 (by decide) ?_
    cases h
    exact rb_iret hC dX11_fault_28
theorem xc_RP_fault0  (σ : rb_St) (r : Int32) (σ9 : rb_St) (h : xf_RP_fault0 σ = some (r, σ9)) : rb_Con rb_vX yX11_fault cX11_fault 3 (some .int) 70 (fun w => [.ref (rb_ad w 0), .int 0]) σ (fun _ => (some (.int r))) σ9 := rb_Con.of (by decide +kernel) (fun _ => Nat.le_of_ble_eq_true rfl) (fun z w hC => xk_RP_fault0 hC  σ r σ9 h)
theorem mo_X11_117_X6 : rb_MO RX11 117 "RibbonPole$LawReader" yX6_readAll cX6_readAll 2 := ⟨rb_in (by decide +kernel) (by decide +kernel), rb_in (by decide +kernel) (by decide +kernel), rb_in (by decide +kernel) (by decide +kernel), rb_in (by decide +kernel) (by decide +kernel), rb_in (by decide +kernel) (by decide +kernel), rb_in (by decide +kernel) (by decide +kernel)⟩
theorem fr_X11_123_6 : rb_FR RX11 123 6 1 := ⟨RX6, TX6, 3, "RibbonPole$Reader", rfl, rb_uX6, by decide, rb_in (by decide +kernel) (by decide +kernel), Or.inl rfl⟩
def xf_RP_fault1  (σ : rb_St) : Option (Int32 × rb_St) := rb_b2 (xf_LR_readAll σ) fun r1 s2 => if r1 = 0 then some (s2.1 7 1, s2) else some ((-1), s2)
set_option maxHeartbeats 4000000 in
set_option maxRecDepth 100000 in
theorem xk_RP_fault1 {z : rb_Z} {w : rb_Wd} (hC : rb_Cx z rb_vX w RX11 cX11_fault 3 (some .int) 72)  (σ : rb_St) (r : Int32) (σ9 : rb_St) (h : xf_RP_fault1 σ = some (r, σ9)) : rb_At z rb_vX w 3 (rb_Q z rb_vX w (some (.int r)) σ9) 0 [(0, .ref (rb_ad w 0)), (1, .int 1)] [] σ := by
  unfold xf_RP_fault1 at h
  refine rb_aload_n hC 0 dX11_fault_0 rfl ?_
  refine rb_iload_n hC 1 dX11_fault_1 rfl ?_
  refine rb_callV hC rb_VokX mv_X11_113 (xc_RP_readerOf1  σ) rb_obX0 rfl [.int 1] rfl rfl rfl ⟨Nat.le_of_ble_eq_true rfl, Nat.le_of_ble_eq_true rfl⟩ (Nat.le_of_ble_eq_true rfl) dX11_fault_2 ?_
  refine rb_astore_n hC [(2, .ref (rb_ad w 7)), (0, .ref (rb_ad w 0)), (1, .int 1)] dX11_fault_5 (by decide) rfl ?_
  refine rb_aload_n hC 0 dX11_fault_6 rfl ?_
  refine rb_ifnonnull hC 13 dX11_fault_7 (by decide) ?_
  refine rb_aload_n hC 0 dX11_fault_13 rfl ?_
  obtain ⟨r1, s2, q3, h⟩ := rb_b2s h
  refine rb_callO hC mo_X11_117_X6 (xc_LR_readAll σ _ _ q3) rb_obX7 rfl ⟨Nat.le_of_ble_eq_true rfl, Nat.le_of_ble_eq_true rfl⟩ (Nat.le_of_ble_eq_true rfl) dX11_fault_14 ?_
  refine rb_if_eq hC 24 dX11_fault_17 (by decide) (fun c4 => ?_) (fun c4 => ?_)
  · replace h := rb_ifp c4 h
    refine rb_aload_n hC 0 dX11_fault_24 rfl ?_
    refine rb_getI hC fr_X11_123_6 rb_obX7 rfl dX11_fault_25 ?_
    cases h
    exact rb_iret hC dX11_fault_28
  · replace h := rb_ifn c4 h
    refine rb_iconst (x := (-1)) hC dX11_fault_20 (by decide) ?_
    refine rb_goto hC 28 dX11_fault_21 (by decide) ?_
    cases h
    exact rb_iret hC dX11_fault_28
theorem xc_RP_fault1  (σ : rb_St) (r : Int32) (σ9 : rb_St) (h : xf_RP_fault1 σ = some (r, σ9)) : rb_Con rb_vX yX11_fault cX11_fault 3 (some .int) 72 (fun w => [.ref (rb_ad w 0), .int 1]) σ (fun _ => (some (.int r))) σ9 := rb_Con.of (by decide +kernel) (fun _ => Nat.le_of_ble_eq_true rfl) (fun z w hC => xk_RP_fault1 hC  σ r σ9 h)
