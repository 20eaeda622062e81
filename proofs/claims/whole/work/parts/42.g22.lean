theorem me_X2_readStep : Cond.instanceMethod yX2_readStep ∈ rb_tbl ∧ Cond.selects yX2_readStep.cls yX2_readStep yX2_readStep ∈ rb_tbl ∧ Cond.initialized yX2_readStep.cls ∈ rb_tbl ∧ Cond.code yX2_readStep cX2_readStep 3 (some .boolean) ∈ rb_tbl ∧ rb_pn yX2_readStep 1 := ⟨rb_in (by decide +kernel) (by decide +kernel), rb_in (by decide +kernel) (by decide +kernel), rb_in (by decide +kernel) (by decide +kernel), rb_in (by decide +kernel) (by decide +kernel), by decide +kernel, by decide +kernel, by decide +kernel⟩
theorem mv_X2_35 : rb_MV RX2 35 yX2_readStep cX2_readStep 3 (some .boolean) 1 := ⟨rb_in (by decide +kernel) (by decide +kernel), me_X2_readStep⟩
theorem mv_X2_38_2 : rb_MU RX2 38 "RibbonPole$FigureReader" "RibbonPole$Reader" ⟨"RibbonPole$FigureReader", "passes", "(I)Z"⟩ yX8_passes cX8_passes 2 (some .boolean) 1 := ⟨rb_in (by decide +kernel) (by decide +kernel), rb_in (by decide +kernel) (by decide +kernel), rb_in (by decide +kernel) (by decide +kernel), rb_in (by decide +kernel) (by decide +kernel), rb_in (by decide +kernel) (by decide +kernel), rb_in (by decide +kernel) (by decide +kernel), rfl, by decide, by decide, by decide +kernel⟩
theorem me_X2_readPlace : Cond.instanceMethod yX2_readPlace ∈ rb_tbl ∧ Cond.selects yX2_readPlace.cls yX2_readPlace yX2_readPlace ∈ rb_tbl ∧ Cond.initialized yX2_readPlace.cls ∈ rb_tbl ∧ Cond.code yX2_readPlace cX2_readPlace 3 (some .boolean) ∈ rb_tbl ∧ rb_pn yX2_readPlace 1 := ⟨rb_in (by decide +kernel) (by decide +kernel), rb_in (by decide +kernel) (by decide +kernel), rb_in (by decide +kernel) (by decide +kernel), rb_in (by decide +kernel) (by decide +kernel), by decide +kernel, by decide +kernel, by decide +kernel⟩
theorem mv_X2_45 : rb_MV RX2 45 yX2_readPlace cX2_readPlace 3 (some .boolean) 1 := ⟨rb_in (by decide +kernel) (by decide +kernel), me_X2_readPlace⟩
theorem me_X2_readRepeated : Cond.instanceMethod yX2_readRepeated ∈ rb_tbl ∧ Cond.selects yX2_readRepeated.cls yX2_readRepeated yX2_readRepeated ∈ rb_tbl ∧ Cond.initialized yX2_readRepeated.cls ∈ rb_tbl ∧ Cond.code yX2_readRepeated cX2_readRepeated 4 (some .boolean) ∈ rb_tbl ∧ rb_pn yX2_readRepeated 2 := ⟨rb_in (by decide +kernel) (by decide +kernel), rb_in (by decide +kernel) (by decide +kernel), rb_in (by decide +kernel) (by decide +kernel), rb_in (by decide +kernel) (by decide +kernel), by decide +kernel, by decide +kernel, by decide +kernel⟩
theorem mv_X2_49 : rb_MV RX2 49 yX2_readRepeated cX2_readRepeated 4 (some .boolean) 2 := ⟨rb_in (by decide +kernel) (by decide +kernel), me_X2_readRepeated⟩
theorem fr_X2_24_1 : rb_FR RX2 24 1 1 := ⟨RX1, TX1, 2, "RibbonPole$Figure", rfl, rb_uX1, by decide, rb_in (by decide +kernel) (by decide +kernel), Or.inl rfl⟩
theorem me_X2_readRow : Cond.instanceMethod yX2_readRow ∈ rb_tbl ∧ Cond.selects yX2_readRow.cls yX2_readRow yX2_readRow ∈ rb_tbl ∧ Cond.initialized yX2_readRow.cls ∈ rb_tbl ∧ Cond.code yX2_readRow cX2_readRow 3 (some .boolean) ∈ rb_tbl ∧ rb_pn yX2_readRow 1 := ⟨rb_in (by decide +kernel) (by decide +kernel), rb_in (by decide +kernel) (by decide +kernel), rb_in (by decide +kernel) (by decide +kernel), rb_in (by decide +kernel) (by decide +kernel), by decide +kernel, by decide +kernel, by decide +kernel⟩
theorem mv_X2_27 : rb_MV RX2 27 yX2_readRow cX2_readRow 3 (some .boolean) 1 := ⟨rb_in (by decide +kernel) (by decide +kernel), me_X2_readRow⟩
theorem me_X1_repeatFrom : Cond.instanceMethod yX1_repeatFrom ∈ rb_tbl ∧ Cond.selects yX1_repeatFrom.cls yX1_repeatFrom yX1_repeatFrom ∈ rb_tbl ∧ Cond.initialized yX1_repeatFrom.cls ∈ rb_tbl ∧ Cond.code yX1_repeatFrom cX1_repeatFrom 5 none ∈ rb_tbl ∧ rb_pn yX1_repeatFrom 2 := ⟨rb_in (by decide +kernel) (by decide +kernel), rb_in (by decide +kernel) (by decide +kernel), rb_in (by decide +kernel) (by decide +kernel), rb_in (by decide +kernel) (by decide +kernel), by decide +kernel, by decide +kernel, by decide +kernel⟩
theorem mv_X2_60 : rb_MV RX2 60 yX1_repeatFrom cX1_repeatFrom 5 none 2 := ⟨rb_in (by decide +kernel) (by decide +kernel), me_X1_repeatFrom⟩
abbrev xg_FR : Type := (Int32 → rb_St → Option (Int32 × rb_St)) × (Int32 → rb_St → Option (Int32 × rb_St)) × (Int32 → Int32 → rb_St → Option (Int32 × rb_St))
def xg_FR_ok (g : xg_FR) (h0 : Nat) : Prop := (∀ (p0 : Int32) (σ : rb_St) (r : Int32) (σ9 : rb_St), g.1 p0 σ = some (r, σ9) → rb_Con rb_vX yX2_readRow cX2_readRow 3 (some .boolean) h0 (fun w => [.ref (rb_ad w 12), .int p0]) σ (fun _ => (some (.int r))) σ9) ∧ (∀ (p0 : Int32) (σ : rb_St) (r : Int32) (σ9 : rb_St), g.2.1 p0 σ = some (r, σ9) → rb_Con rb_vX yX2_readStep cX2_readStep 3 (some .boolean) h0 (fun w => [.ref (rb_ad w 12), .int p0]) σ (fun _ => (some (.int r))) σ9) ∧ (∀ (p0 : Int32) (p1 : Int32) (σ : rb_St) (r : Int32) (σ9 : rb_St), g.2.2 p0 p1 σ = some (r, σ9) → rb_Con rb_vX yX2_readRepeated cX2_readRepeated 4 (some .boolean) h0 (fun w => [.ref (rb_ad w 12), .int p0, .int p1]) σ (fun _ => (some (.int r))) σ9)
def xl_FR_readRow_2 (g : xg_FR) (x1 : Int32) : Nat → Int32 → rb_St → Option (Nat × rb_St)
  | 0, _, _ => none
  | n + 1, x2, σ => if 240 ≤ x2 then some (2, σ) else rb_b2 (g.2.1 x1 σ) fun r4 s2 => if r4 = 0 then some (0, s2) else rb_b2 (xf_Rd_passesF 59 s2) fun r8 s6 => if r8 = 0 then some (1, s6) else xl_FR_readRow_2 g x1 n (x2 + 1) s6
set_option maxHeartbeats 4000000 in
set_option maxRecDepth 100000 in
theorem xt_FR_readRow_2 {z : rb_Z} {w : rb_Wd} {Q : State → Prop} {h0 : Nat} (hb : 2 ≤ h0) {g : xg_FR} (hg : xg_FR_ok g h0) (hC : rb_Cx z rb_vX w RX2 cX2_readRow 3 (some .boolean) (h0 + 1)) (x1 : Int32) : ∀ (n : Nat) (x2 : Int32) (σ : rb_St) (t : Nat) (σ9 : rb_St), xl_FR_readRow_2 g x1 n x2 σ = some (t, σ9) → (t = 0 → rb_At z rb_vX w 3 Q 17 [] [] σ9) → (t = 1 → rb_At z rb_vX w 3 Q 28 [] [] σ9) → (t = 2 → rb_At z rb_vX w 3 Q 36 [] [] σ9) → rb_At z rb_vX w 3 Q 2 [(0, .ref (rb_ad w 12)), (1, .int x1), (2, .int x2)] [] σ := by
  intro n
  induction n with
  | zero =>
    intro x2 σ t σ9 h hE0 hE1 hE2
    cases h
  | succ n ih =>
    intro x2 σ t σ9 h hE0 hE1 hE2
    rw [xl_FR_readRow_2] at h
    refine rb_iload_n hC 2 dX2_readRow_2 rfl ?_
    refine rb_sipush (x := 240) hC dX2_readRow_3 (by decide) ?_
    refine rb_icmp_ge hC 36 dX2_readRow_6 (by decide) (fun c1 => ?_) (fun c1 => ?_)
    · replace h := rb_ifp c1 h
      cases h
      exact rb_sub [] rfl (hE2 rfl)
    · replace h := rb_ifn c1 h
      refine rb_aload_n hC 0 dX2_readRow_9 rfl ?_
      refine rb_iload_n hC 1 dX2_readRow_10 rfl ?_
      obtain ⟨r4, s2, q3, h⟩ := rb_b2s h
      refine rb_callVi hC rb_VokX mv_X2_35 (hg.2.1 x1 σ _ _ q3) rb_obX12 rfl [.int x1] rfl rfl rfl ⟨by omega, Nat.le_of_ble_eq_true rfl⟩ (Nat.le_of_ble_eq_true rfl) dX2_readRow_11 ?_
      refine rb_if_ne hC 19 dX2_readRow_14 (by decide) (fun c5 => ?_) (fun c5 => ?_)
      · replace h := rb_ifn c5 h
        refine rb_aload_n hC 0 dX2_readRow_19 rfl ?_
        refine rb_bipush (x := 59) hC dX2_readRow_20 (by decide) ?_
        obtain ⟨r8, s6, q7, h⟩ := rb_b2s h
        refine rb_callUi hC rb_VokX mv_X2_38_2 (xc_Rd_passesF 59 s2 _ _ q7) rb_obX12 rfl [.int 59] rfl rfl rfl ⟨by omega, Nat.le_of_ble_eq_true rfl⟩ (Nat.le_of_ble_eq_true rfl) dX2_readRow_22 ?_
        refine rb_if_ne hC 30 dX2_readRow_25 (by decide) (fun c9 => ?_) (fun c9 => ?_)
        · replace h := rb_ifn c9 h
          refine rb_iinc hC 2 [(2, .int (x2 + 1)), (0, .ref (rb_ad w 12)), (1, .int x1)] dX2_readRow_30 rfl rfl (by decide) rfl ?_
          refine rb_goto hC 2 dX2_readRow_33 (by decide) ?_
          exact rb_sub [1, 2, 0] rfl (ih (x2 + 1) s6 _ _ h hE0 hE1 hE2)
        · replace h := rb_ifp c9 h
          cases h
          exact rb_sub [] rfl (hE1 rfl)
      · replace h := rb_ifp c5 h
        cases h
        exact rb_sub [] rfl (hE0 rfl)
def xb_FR_readRow (g : xg_FR) (p0 : Int32) (σ : rb_St) : Option (Int32 × rb_St) := rb_b2 (xl_FR_readRow_2 g p0 rb_FU 0 σ) fun t10 s11 => if t10 = 0 then some (0, s11) else if t10 = 1 then some (1, s11) else some (0, s11)
set_option maxHeartbeats 4000000 in
set_option maxRecDepth 100000 in
theorem xk_FR_readRow {z : rb_Z} {w : rb_Wd} {h0 : Nat} (hb : 2 ≤ h0) {g : xg_FR} (hg : xg_FR_ok g h0) (hC : rb_Cx z rb_vX w RX2 cX2_readRow 3 (some .boolean) (h0 + 1)) (p0 : Int32) (σ : rb_St) (r : Int32) (σ9 : rb_St) (h : xb_FR_readRow g p0 σ = some (r, σ9)) : rb_At z rb_vX w 3 (rb_Q z rb_vX w (some (.int r)) σ9) 0 [(0, .ref (rb_ad w 12)), (1, .int p0)] [] σ := by
  unfold xb_FR_readRow at h
  refine rb_iconst (x := 0) hC dX2_readRow_0 (by decide) ?_
  refine rb_istore_n hC [(2, .int 0), (0, .ref (rb_ad w 12)), (1, .int p0)] dX2_readRow_1 (by decide) rfl ?_
  obtain ⟨t10, s11, q12, h⟩ := rb_b2s h
  refine rb_sub (lv2 := [(0, .ref (rb_ad w 12)), (1, .int p0), (2, .int 0)]) [1, 2, 0] rfl ?_
  refine xt_FR_readRow_2 hb hg hC p0 rb_FU 0 σ _ _ q12 (fun ht => ?_) (fun ht => ?_) (fun ht => ?_)
  · subst ht
    replace h := rb_ifp rfl h
    refine rb_iconst (x := 0) hC dX2_readRow_17 (by decide) ?_
    cases h
    exact rb_zret hC rfl dX2_readRow_18
  · subst ht
    replace h := rb_ifn (by decide) h
    replace h := rb_ifp rfl h
    refine rb_iconst (x := 1) hC dX2_readRow_28 (by decide) ?_
    cases h
    exact rb_zret hC rfl dX2_readRow_29
  · subst ht
    replace h := rb_ifn (by decide) h
    replace h := rb_ifn (by decide) h
    refine rb_iconst (x := 0) hC dX2_readRow_36 (by decide) ?_
    cases h
    exact rb_zret hC rfl dX2_readRow_37
def xj_FR_readStep_44 (g : xg_FR) (x2 : Int32) (σ : rb_St) : Option (Int32 × rb_St) := rb_lt (rb_sI σ 12 1 ((σ.1 12 1) + 1)) (fun s6 => if x2 = 111 then rb_b2 (xf_FR_readPlace 1 s6) fun r15 s13 => if rb_bz r15 then some (r15, s13) else none else rb_b2 (xf_FR_readPlace 0 s6) fun r11 s9 => if rb_bz r11 then some (r11, s9) else none)
set_option maxHeartbeats 4000000 in
set_option maxRecDepth 100000 in
theorem xu_FR_readStep_44 {z : rb_Z} {w : rb_Wd} {h0 : Nat} (hb : 2 ≤ h0) {g : xg_FR} (hg : xg_FR_ok g h0) (hC : rb_Cx z rb_vX w RX2 cX2_readStep 3 (some .boolean) (h0 + 1)) (x2 : Int32) (σ : rb_St) (r : Int32) (σ9 : rb_St) (h : xj_FR_readStep_44 g x2 σ = some (r, σ9)) : rb_At z rb_vX w 3 (rb_Q z rb_vX w (some (.int r)) σ9) 44 [(0, .ref (rb_ad w 12)), (2, .int x2)] [] σ := by
  unfold xj_FR_readStep_44 at h
  refine rb_aload_n hC 0 dX2_readStep_44 rfl ?_
  refine rb_dup hC dX2_readStep_45 rfl ?_
  refine rb_getI hC fr_X2_20_2 rb_obX12 rfl dX2_readStep_46 ?_
  refine rb_iconst (x := 1) hC dX2_readStep_49 (by decide) ?_
  refine rb_iadd hC dX2_readStep_50 ?_
  refine rb_putI hC fr_X2_20_2 ft_2_1 rb_obX12 rfl rfl rfl dX2_readStep_51 ?_
  obtain ⟨s6, e7, h⟩ := rb_ltE h
  refine rb_nmS e7 ?_
  refine rb_aload_n hC 0 dX2_readStep_54 rfl ?_
  refine rb_iload_n hC 1 dX2_readStep_55 rfl ?_
  refine rb_bipush (x := 111) hC dX2_readStep_56 (by decide) ?_
  refine rb_icmp_ne hC 65 dX2_readStep_58 (by decide) (fun c8 => ?_) (fun c8 => ?_)
  · replace h := rb_ifn c8 h
    refine rb_iconst (x := 0) hC dX2_readStep_65 (by decide) ?_
    obtain ⟨r11, s9, q10, h⟩ := rb_b2s h
    refine rb_callVi hC rb_VokX mv_X2_45 (xc_FR_readPlace 0 s6 _ _ q10) rb_obX12 rfl [.int 0] rfl rfl rfl ⟨by omega, Nat.le_of_ble_eq_true rfl⟩ (Nat.le_of_ble_eq_true rfl) dX2_readStep_66 ?_
    obtain ⟨g12, h⟩ := rb_gd h
    cases h
    exact rb_zret hC (rb_bzN g12) dX2_readStep_69
  · replace h := rb_ifp c8 h
    refine rb_iconst (x := 1) hC dX2_readStep_61 (by decide) ?_
    refine rb_goto hC 66 dX2_readStep_62 (by decide) ?_
    obtain ⟨r15, s13, q14, h⟩ := rb_b2s h
    refine rb_callVi hC rb_VokX mv_X2_45 (xc_FR_readPlace 1 s6 _ _ q14) rb_obX12 rfl [.int 1] rfl rfl rfl ⟨by omega, Nat.le_of_ble_eq_true rfl⟩ (Nat.le_of_ble_eq_true rfl) dX2_readStep_66 ?_
    obtain ⟨g16, h⟩ := rb_gd h
    cases h
    exact rb_zret hC (rb_bzN g16) dX2_readStep_69
def xb_FR_readStep (g : xg_FR) (p0 : Int32) (σ : rb_St) : Option (Int32 × rb_St) := rb_b2 (xf_Rd_nextSignF σ) fun r3 s1 => if r3 = 119 then rb_lt (rb_sI s1 12 1 ((s1.1 12 1) + 1)) (fun s26 => rb_b1 (xf_Fig_add 20 s26) fun s28 => some (1, s28)) else if r3 = 111 then xj_FR_readStep_44 g r3 s1 else if r3 = 117 then xj_FR_readStep_44 g r3 s1 else if r3 < 50 then some (0, s1) else if 57 < r3 then some (0, s1) else rb_lt (rb_sI s1 12 1 ((s1.1 12 1) + 1)) (fun s20 => rb_b2 (g.2.2 (r3 - 48) p0 s20) fun r24 s22 => if rb_bz r24 then some (r24, s22) else none)
set_option maxHeartbeats 4000000 in
set_option maxRecDepth 100000 in
theorem xk_FR_readStep {z : rb_Z} {w : rb_Wd} {h0 : Nat} (hb : 2 ≤ h0) {g : xg_FR} (hg : xg_FR_ok g h0) (hC : rb_Cx z rb_vX w RX2 cX2_readStep 3 (some .boolean) (h0 + 1)) (p0 : Int32) (σ : rb_St) (r : Int32) (σ9 : rb_St) (h : xb_FR_readStep g p0 σ = some (r, σ9)) : rb_At z rb_vX w 3 (rb_Q z rb_vX w (some (.int r)) σ9) 0 [(0, .ref (rb_ad w 12)), (1, .int p0)] [] σ := by
  unfold xb_FR_readStep at h
  refine rb_aload_n hC 0 dX2_readStep_0 rfl ?_
  obtain ⟨r3, s1, q2, h⟩ := rb_b2s h
  refine rb_callUi hC rb_VokX mv_X2_31_2 (xc_Rd_nextSignF  σ _ _ q2) rb_obX12 rfl [] rfl rfl rfl ⟨by omega, Nat.le_of_ble_eq_true rfl⟩ (Nat.le_of_ble_eq_true rfl) dX2_readStep_1 ?_
  refine rb_istore_n hC [(2, .int r3), (0, .ref (rb_ad w 12)), (1, .int p0)] dX2_readStep_4 (by decide) rfl ?_
  refine rb_iload_n hC 0 dX2_readStep_5 rfl ?_
  refine rb_bipush (x := 119) hC dX2_readStep_6 (by decide) ?_
  refine rb_icmp_ne hC 32 dX2_readStep_8 (by decide) (fun c4 => ?_) (fun c4 => ?_)
  · replace h := rb_ifn c4 h
    refine rb_iload_n hC 0 dX2_readStep_32 rfl ?_
    refine rb_bipush (x := 111) hC dX2_readStep_33 (by decide) ?_
    refine rb_icmp_eq hC 44 dX2_readStep_35 (by decide) (fun c5 => ?_) (fun c5 => ?_)
    · replace h := rb_ifp c5 h
      exact rb_sub [1, 0] rfl (xu_FR_readStep_44 hb hg hC r3 s1 _ _ h)
    · replace h := rb_ifn c5 h
      refine rb_iload_n hC 0 dX2_readStep_38 rfl ?_
      refine rb_bipush (x := 117) hC dX2_readStep_39 (by decide) ?_
      refine rb_icmp_ne hC 70 dX2_readStep_41 (by decide) (fun c17 => ?_) (fun c17 => ?_)
      · replace h := rb_ifn c17 h
        refine rb_iload_n hC 0 dX2_readStep_70 rfl ?_
        refine rb_bipush (x := 50) hC dX2_readStep_71 (by decide) ?_
        refine rb_icmp_lt hC 102 dX2_readStep_73 (by decide) (fun c18 => ?_) (fun c18 => ?_)
        · replace h := rb_ifp c18 h
          refine rb_iconst (x := 0) hC dX2_readStep_102 (by decide) ?_
          cases h
          exact rb_zret hC rfl dX2_readStep_103
        · replace h := rb_ifn c18 h
          refine rb_iload_n hC 0 dX2_readStep_76 rfl ?_
          refine rb_bipush (x := 57) hC dX2_readStep_77 (by decide) ?_
          refine rb_icmp_gt hC 102 dX2_readStep_79 (by decide) (fun c19 => ?_) (fun c19 => ?_)
          · replace h := rb_ifp c19 h
            refine rb_iconst (x := 0) hC dX2_readStep_102 (by decide) ?_
            cases h
            exact rb_zret hC rfl dX2_readStep_103
          · replace h := rb_ifn c19 h
            refine rb_aload_n hC 1 dX2_readStep_82 rfl ?_
            refine rb_dup hC dX2_readStep_83 rfl ?_
            refine rb_getI hC fr_X2_20_2 rb_obX12 rfl dX2_readStep_84 ?_
            refine rb_iconst (x := 1) hC dX2_readStep_87 (by decide) ?_
            refine rb_iadd hC dX2_readStep_88 ?_
            refine rb_putI hC fr_X2_20_2 ft_2_1 rb_obX12 rfl rfl rfl dX2_readStep_89 ?_
            obtain ⟨s20, e21, h⟩ := rb_ltE h
            refine rb_nmS e21 ?_
            refine rb_aload_n hC 1 dX2_readStep_92 rfl ?_
            refine rb_iload_n hC 0 dX2_readStep_93 rfl ?_
            refine rb_bipush (x := 48) hC dX2_readStep_94 (by decide) ?_
            refine rb_isub hC dX2_readStep_96 ?_
            refine rb_iload_n hC 2 dX2_readStep_97 rfl ?_
            obtain ⟨r24, s22, q23, h⟩ := rb_b2s h
            refine rb_callVi hC rb_VokX mv_X2_49 (hg.2.2 (r3 - 48) p0 s20 _ _ q23) rb_obX12 rfl [.int (r3 - 48), .int p0] rfl rfl rfl ⟨by omega, Nat.le_of_ble_eq_true rfl⟩ (Nat.le_of_ble_eq_true rfl) dX2_readStep_98 ?_
            obtain ⟨g25, h⟩ := rb_gd h
            cases h
            exact rb_zret hC (rb_bzN g25) dX2_readStep_101
      · replace h := rb_ifp c17 h
        exact rb_sub [1, 0] rfl (xu_FR_readStep_44 hb hg hC r3 s1 _ _ h)
  · replace h := rb_ifp c4 h
    refine rb_aload_n hC 1 dX2_readStep_11 rfl ?_
    refine rb_dup hC dX2_readStep_12 rfl ?_
    refine rb_getI hC fr_X2_20_2 rb_obX12 rfl dX2_readStep_13 ?_
    refine rb_iconst (x := 1) hC dX2_readStep_16 (by decide) ?_
    refine rb_iadd hC dX2_readStep_17 ?_
    refine rb_putI hC fr_X2_20_2 ft_2_1 rb_obX12 rfl rfl rfl dX2_readStep_18 ?_
    obtain ⟨s26, e27, h⟩ := rb_ltE h
    refine rb_nmS e27 ?_
    refine rb_aload_n hC 1 dX2_readStep_21 rfl ?_
    refine rb_getR hC fr_X2_14_2 rb_obX12 rfl dX2_readStep_22 ?_
    refine rb_bipush (x := 20) hC dX2_readStep_25 (by decide) ?_
    obtain ⟨s28, q29, h⟩ := rb_b1s h
    refine rb_callVv hC rb_VokX mv_X2_41 (xc_Fig_add 20 s26 _ q29) rb_obX13 rfl [.int 20] rfl rfl rfl ⟨by omega, Nat.le_of_ble_eq_true rfl⟩ (Nat.le_of_ble_eq_true rfl) dX2_readStep_27 ?_
    refine rb_iconst (x := 1) hC dX2_readStep_30 (by decide) ?_
    cases h
    exact rb_zret hC rfl dX2_readStep_31
def xb_FR_readRepeated (g : xg_FR) (p0 : Int32) (p1 : Int32) (σ : rb_St) : Option (Int32 × rb_St) := rb_b2 (xf_Rd_nextSignF σ) fun r3 s1 => if r3 = 40 then if p1 < 3 then rb_lt (rb_sI s1 12 1 ((s1.1 12 1) + 1)) (fun s6 => rb_b2 (g.1 (p1 + 1) s6) fun r10 s8 => if r10 = 0 then some (0, s8) else rb_b2 (xf_Rd_passesF 41 s8) fun r14 s12 => if r14 = 0 then some (0, s12) else rb_b1 (xf_Fig_repeatFrom (s6.1 13 1) p0 s12) fun s16 => some (1, s16)) else some (0, s1) else some (0, s1)
set_option maxHeartbeats 4000000 in
set_option maxRecDepth 100000 in
theorem xk_FR_readRepeated {z : rb_Z} {w : rb_Wd} {h0 : Nat} (hb : 2 ≤ h0) {g : xg_FR} (hg : xg_FR_ok g h0) (hC : rb_Cx z rb_vX w RX2 cX2_readRepeated 4 (some .boolean) (h0 + 1)) (p0 : Int32) (p1 : Int32) (σ : rb_St) (r : Int32) (σ9 : rb_St) (h : xb_FR_readRepeated g p0 p1 σ = some (r, σ9)) : rb_At z rb_vX w 4 (rb_Q z rb_vX w (some (.int r)) σ9) 0 [(0, .ref (rb_ad w 12)), (1, .int p0), (2, .int p1)] [] σ := by
  unfold xb_FR_readRepeated at h
  refine rb_aload_n hC 0 dX2_readRepeated_0 rfl ?_
  obtain ⟨r3, s1, q2, h⟩ := rb_b2s h
  refine rb_callUi hC rb_VokX mv_X2_31_2 (xc_Rd_nextSignF  σ _ _ q2) rb_obX12 rfl [] rfl rfl rfl ⟨by omega, Nat.le_of_ble_eq_true rfl⟩ (Nat.le_of_ble_eq_true rfl) dX2_readRepeated_1 ?_
  refine rb_bipush (x := 40) hC dX2_readRepeated_4 (by decide) ?_
  refine rb_icmp_ne hC 14 dX2_readRepeated_6 (by decide) (fun c4 => ?_) (fun c4 => ?_)
  · replace h := rb_ifn c4 h
    refine rb_iconst (x := 0) hC dX2_readRepeated_14 (by decide) ?_
    cases h
    exact rb_zret hC rfl dX2_readRepeated_15
  · replace h := rb_ifp c4 h
    refine rb_iload_n hC 2 dX2_readRepeated_9 rfl ?_
    refine rb_iconst (x := 3) hC dX2_readRepeated_10 (by decide) ?_
    refine rb_icmp_lt hC 16 dX2_readRepeated_11 (by decide) (fun c5 => ?_) (fun c5 => ?_)
    · replace h := rb_ifp c5 h
      refine rb_aload_n hC 0 dX2_readRepeated_16 rfl ?_
      refine rb_dup hC dX2_readRepeated_17 rfl ?_
      refine rb_getI hC fr_X2_20_2 rb_obX12 rfl dX2_readRepeated_18 ?_
      refine rb_iconst (x := 1) hC dX2_readRepeated_21 (by decide) ?_
      refine rb_iadd hC dX2_readRepeated_22 ?_
      refine rb_putI hC fr_X2_20_2 ft_2_1 rb_obX12 rfl rfl rfl dX2_readRepeated_23 ?_
      obtain ⟨s6, e7, h⟩ := rb_ltE h
      refine rb_nmS e7 ?_
      refine rb_aload_n hC 0 dX2_readRepeated_26 rfl ?_
      refine rb_getR hC fr_X2_14_2 rb_obX12 rfl dX2_readRepeated_27 ?_
      refine rb_getI hC fr_X2_24_1 rb_obX13 rfl dX2_readRepeated_30 ?_
      refine rb_istore_n hC [(3, .int (s6.1 13 1)), (0, .ref (rb_ad w 12)), (1, .int p0), (2, .int p1)] dX2_readRepeated_33 (by decide) rfl ?_
      refine rb_aload_n hC 1 dX2_readRepeated_34 rfl ?_
      refine rb_iload_n hC 3 dX2_readRepeated_35 rfl ?_
      refine rb_iconst (x := 1) hC dX2_readRepeated_36 (by decide) ?_
      refine rb_iadd hC dX2_readRepeated_37 ?_
      obtain ⟨r10, s8, q9, h⟩ := rb_b2s h
      refine rb_callVi hC rb_VokX mv_X2_27 (hg.1 (p1 + 1) s6 _ _ q9) rb_obX12 rfl [.int (p1 + 1)] rfl rfl rfl ⟨by omega, Nat.le_of_ble_eq_true rfl⟩ (Nat.le_of_ble_eq_true rfl) dX2_readRepeated_38 ?_
      refine rb_if_eq hC 53 dX2_readRepeated_41 (by decide) (fun c11 => ?_) (fun c11 => ?_)
      · replace h := rb_ifp c11 h
        refine rb_iconst (x := 0) hC dX2_readRepeated_53 (by decide) ?_
        cases h
        exact rb_zret hC rfl dX2_readRepeated_54
      · replace h := rb_ifn c11 h
        refine rb_aload_n hC 1 dX2_readRepeated_44 rfl ?_
        refine rb_bipush (x := 41) hC dX2_readRepeated_45 (by decide) ?_
        obtain ⟨r14, s12, q13, h⟩ := rb_b2s h
        refine rb_callUi hC rb_VokX mv_X2_38_2 (xc_Rd_passesF 41 s8 _ _ q13) rb_obX12 rfl [.int 41] rfl rfl rfl ⟨by omega, Nat.le_of_ble_eq_true rfl⟩ (Nat.le_of_ble_eq_true rfl) dX2_readRepeated_47 ?_
        refine rb_if_ne hC 55 dX2_readRepeated_50 (by decide) (fun c15 => ?_) (fun c15 => ?_)
        · replace h := rb_ifn c15 h
          refine rb_aload_n hC 1 dX2_readRepeated_55 rfl ?_
          refine rb_getR hC fr_X2_14_2 rb_obX12 rfl dX2_readRepeated_56 ?_
          refine rb_iload_n hC 0 dX2_readRepeated_59 rfl ?_
          refine rb_iload_n hC 2 dX2_readRepeated_60 rfl ?_
          obtain ⟨s16, q17, h⟩ := rb_b1s h
          refine rb_callVv hC rb_VokX mv_X2_60 (xc_Fig_repeatFrom (s6.1 13 1) p0 s12 _ q17) rb_obX13 rfl [.int (s6.1 13 1), .int p0] rfl rfl rfl ⟨by omega, Nat.le_of_ble_eq_true rfl⟩ (Nat.le_of_ble_eq_true rfl) dX2_readRepeated_61 ?_
          refine rb_iconst (x := 1) hC dX2_readRepeated_64 (by decide) ?_
          cases h
          exact rb_zret hC rfl dX2_readRepeated_65
        · replace h := rb_ifp c15 h
          refine rb_iconst (x := 0) hC dX2_readRepeated_53 (by decide) ?_
          cases h
          exact rb_zret hC rfl dX2_readRepeated_54
    · replace h := rb_ifn c5 h
      refine rb_iconst (x := 0) hC dX2_readRepeated_14 (by decide) ?_
      cases h
      exact rb_zret hC rfl dX2_readRepeated_15
def xG_FR : Nat → xg_FR
  | 0 => (fun _ _ => none, fun _ _ => none, fun _ _ _ => none)
  | d + 1 => (xb_FR_readRow (xG_FR d), xb_FR_readStep (xG_FR d), xb_FR_readRepeated (xG_FR d))
theorem xG_FR_all : ∀ d : Nat, xg_FR_ok (xG_FR d) (2 + d) := by
  intro d
  induction d with
  | zero => exact ⟨(fun _ _ _ _ h => by cases h), (fun _ _ _ _ h => by cases h), (fun _ _ _ _ _ h => by cases h)⟩
  | succ d ih =>
    have hb : 2 ≤ 2 + d := Nat.le_add_right _ _
    exact ⟨fun p0 σ r σ9 h => rb_Con.of (by decide +kernel) (fun _ => Nat.le_of_ble_eq_true rfl) (fun z w hC => xk_FR_readRow hb ih hC p0 σ r σ9 h),
      fun p0 σ r σ9 h => rb_Con.of (by decide +kernel) (fun _ => Nat.le_of_ble_eq_true rfl) (fun z w hC => xk_FR_readStep hb ih hC p0 σ r σ9 h),
      fun p0 p1 σ r σ9 h => rb_Con.of (by decide +kernel) (fun _ => Nat.le_of_ble_eq_true rfl) (fun z w hC => xk_FR_readRepeated hb ih hC p0 p1 σ r σ9 h)⟩
def xf_FR_readRow (d : Nat) (p0 : Int32) (σ : rb_St) : Option (Int32 × rb_St) := (xG_FR d).1 p0 σ
theorem xc_FR_readRow (d : Nat) (p0 : Int32) (σ : rb_St) (r : Int32) (σ9 : rb_St) (h : xf_FR_readRow d p0 σ = some (r, σ9)) : rb_Con rb_vX yX2_readRow cX2_readRow 3 (some .boolean) (2 + d) (fun w => [.ref (rb_ad w 12), .int p0]) σ (fun _ => (some (.int r))) σ9 := (xG_FR_all d).1 p0 σ r σ9 h
def xf_FR_readStep (d : Nat) (p0 : Int32) (σ : rb_St) : Option (Int32 × rb_St) := (xG_FR d).2.1 p0 σ
theorem xc_FR_readStep (d : Nat) (p0 : Int32) (σ : rb_St) (r : Int32) (σ9 : rb_St) (h : xf_FR_readStep d p0 σ = some (r, σ9)) : rb_Con rb_vX yX2_readStep cX2_readStep 3 (some .boolean) (2 + d) (fun w => [.ref (rb_ad w 12), .int p0]) σ (fun _ => (some (.int r))) σ9 := (xG_FR_all d).2.1 p0 σ r σ9 h
def xf_FR_readRepeated (d : Nat) (p0 : Int32) (p1 : Int32) (σ : rb_St) : Option (Int32 × rb_St) := (xG_FR d).2.2 p0 p1 σ
theorem xc_FR_readRepeated (d : Nat) (p0 : Int32) (p1 : Int32) (σ : rb_St) (r : Int32) (σ9 : rb_St) (h : xf_FR_readRepeated d p0 p1 σ = some (r, σ9)) : rb_Con rb_vX yX2_readRepeated cX2_readRepeated 4 (some .boolean) (2 + d) (fun w => [.ref (rb_ad w 12), .int p0, .int p1]) σ (fun _ => (some (.int r))) σ9 := (xG_FR_all d).2.2 p0 p1 σ r σ9 h
theorem kc_X11_445 : Cond.constantLong RX11 445 100 ∈ rb_tbl := rb_in (by decide +kernel) (by decide +kernel)
theorem me_X11_fewBy : Cond.instanceMethod yX11_fewBy ∈ rb_tbl ∧ Cond.selects yX11_fewBy.cls yX11_fewBy yX11_fewBy ∈ rb_tbl ∧ Cond.initialized yX11_fewBy.cls ∈ rb_tbl ∧ Cond.code yX11_fewBy cX11_fewBy 8 (some .long) ∈ rb_tbl ∧ rb_pn yX11_fewBy 6 := ⟨rb_in (by decide +kernel) (by decide +kernel), rb_in (by decide +kernel) (by decide +kernel), rb_in (by decide +kernel) (by decide +kernel), rb_in (by decide +kernel) (by decide +kernel), by decide +kernel, by decide +kernel, by decide +kernel⟩
theorem mv_X11_441 : rb_MV RX11 441 yX11_fewBy cX11_fewBy 8 (some .long) 6 := ⟨rb_in (by decide +kernel) (by decide +kernel), me_X11_fewBy⟩
theorem mv_X11_409 : rb_MV RX11 409 yX7_standAs cX7_standAs 2 none 1 := ⟨rb_in (by decide +kernel) (by decide +kernel), me_X7_standAs⟩
theorem me_X11_fewFrom : Cond.instanceMethod yX11_fewFrom ∈ rb_tbl ∧ Cond.selects yX11_fewFrom.cls yX11_fewFrom yX11_fewFrom ∈ rb_tbl ∧ Cond.initialized yX11_fewFrom.cls ∈ rb_tbl ∧ Cond.code yX11_fewFrom cX11_fewFrom 10 (some .long) ∈ rb_tbl ∧ rb_pn yX11_fewFrom 5 := ⟨rb_in (by decide +kernel) (by decide +kernel), rb_in (by decide +kernel) (by decide +kernel), rb_in (by decide +kernel) (by decide +kernel), rb_in (by decide +kernel) (by decide +kernel), by decide +kernel, by decide +kernel, by decide +kernel⟩
theorem mv_X11_437 : rb_MV RX11 437 yX11_fewFrom cX11_fewFrom 10 (some .long) 5 := ⟨rb_in (by decide +kernel) (by decide +kernel), me_X11_fewFrom⟩
abbrev xg_RF : Type := (Int32 → Int64 → Nat → Int32 → Int32 → rb_St → Option (Int64 × rb_St)) × (Int32 → Int32 → Int64 → Nat → Int32 → Int32 → rb_St → Option (Int64 × rb_St))
def xg_RF_ok (g : xg_RF) (h0 : Nat) : Prop := (∀ (p0 : Int32) (p1 : Int64) (k3 : Nat) (hk3 : rb_isFig k3) (p2 : Int32) (p3 : Int32) (σ : rb_St) (r : Int64) (σ9 : rb_St), g.1 p0 p1 k3 p2 p3 σ = some (r, σ9) → rb_Con rb_vX yX11_fewFrom cX11_fewFrom 10 (some .long) h0 (fun w => [.ref (rb_ad w 0), .int p0, .long p1, .ref (rb_ad w k3), .int p2, .int p3]) σ (fun _ => (some (.long r))) σ9) ∧ (∀ (p0 : Int32) (p1 : Int32) (p2 : Int64) (k4 : Nat) (hk4 : rb_isFig k4) (p3 : Int32) (p4 : Int32) (σ : rb_St) (r : Int64) (σ9 : rb_St), g.2 p0 p1 p2 k4 p3 p4 σ = some (r, σ9) → rb_Con rb_vX yX11_fewBy cX11_fewBy 8 (some .long) h0 (fun w => [.ref (rb_ad w 0), .int p0, .int p1, .long p2, .ref (rb_ad w k4), .int p3, .int p4]) σ (fun _ => (some (.long r))) σ9)
def xb_RP_fewFrom (g : xg_RF) (p0 : Int32) (p1 : Int64) (k3 : Nat) (p2 : Int32) (p3 : Int32) (σ : rb_St) : Option (Int64 × rb_St) := if (lg_cmp p1 0) = 0 then some (0, σ) else if p0 < 0 then some (0, σ) else if p0 ≤ 8 then if p0 < (σ.1 k3 1) then rb_b1 (xf_Fig_letterAt k3 p0 σ) fun r5 => if rb_ib p0 9 then if (xf_Pole_hasPlace (268 + 5 * p0.toNatClampNeg) (r5 >>> (1 &&& 31)) σ) = 0 then rb_b2 (g.2 p0 r5 p1 k3 p2 p3 σ) fun r17 s15 => some (r17, s15) else rb_b2 (g.2 p0 r5 (p1 - ((p1 * p2.toInt64) / 100)) k3 p2 p3 σ) fun r11 s9 => rb_b2 (g.2 p0 (r5 ^^^ 1) ((p1 * p2.toInt64) / 100) k3 p2 p3 s9) fun r14 s12 => some (r11 + r14, s12) else none else if rb_ib p0 9 then if p3 < (σ.1 (268 + 5 * p0.toNatClampNeg) 1) then some (0, σ) else some (p1, σ) else none else some (0, σ)
set_option maxHeartbeats 4000000 in
set_option maxRecDepth 100000 in
theorem xk_RP_fewFrom {z : rb_Z} {w : rb_Wd} {h0 : Nat} (hb : 5 ≤ h0) {g : xg_RF} (hg : xg_RF_ok g h0) (hC : rb_Cx z rb_vX w RX11 cX11_fewFrom 10 (some .long) (h0 + 1)) (p0 : Int32) (p1 : Int64) (k3 : Nat) (hk3 : rb_isFig k3) (p2 : Int32) (p3 : Int32) (σ : rb_St) (r : Int64) (σ9 : rb_St) (h : xb_RP_fewFrom g p0 p1 k3 p2 p3 σ = some (r, σ9)) : rb_At z rb_vX w 10 (rb_Q z rb_vX w (some (.long r)) σ9) 0 [(0, .ref (rb_ad w 0)), (1, .int p0), (2, .long p1), (4, .ref (rb_ad w k3)), (5, .int p2), (6, .int p3)] [] σ := by
  unfold xb_RP_fewFrom at h
  refine rb_lload_n hC 2 dX11_fewFrom_0 rfl ?_
  refine rb_lconst (x := 0) hC dX11_fewFrom_1 (by decide) ?_
  refine rb_lcmp hC dX11_fewFrom_2 ?_
  refine rb_if_eq hC 16 dX11_fewFrom_3 (by decide) (fun c1 => ?_) (fun c1 => ?_)
  · replace h := rb_ifp c1 h
    refine rb_lconst (x := 0) hC dX11_fewFrom_16 (by decide) ?_
    cases h
    exact rb_lret hC dX11_fewFrom_17
  · replace h := rb_ifn c1 h
    refine rb_iload_n hC 1 dX11_fewFrom_6 rfl ?_
    refine rb_if_lt hC 16 dX11_fewFrom_7 (by decide) (fun c2 => ?_) (fun c2 => ?_)
    · replace h := rb_ifp c2 h
      refine rb_lconst (x := 0) hC dX11_fewFrom_16 (by decide) ?_
      cases h
      exact rb_lret hC dX11_fewFrom_17
    · replace h := rb_ifn c2 h
      refine rb_iload_n hC 1 dX11_fewFrom_10 rfl ?_
      refine rb_bipush (x := 8) hC dX11_fewFrom_11 (by decide) ?_
      refine rb_icmp_le hC 18 dX11_fewFrom_13 (by decide) (fun c3 => ?_) (fun c3 => ?_)
      · replace h := rb_ifp c3 h
        refine rb_iload_n hC 1 dX11_fewFrom_18 rfl ?_
        refine rb_aload hC 3 dX11_fewFrom_19 rfl ?_
        refine rb_getI hC fr_X11_220_1 (rb_obFig hk3) rfl dX11_fewFrom_21 ?_
        refine rb_icmp_lt hC 47 dX11_fewFrom_24 (by decide) (fun c4 => ?_) (fun c4 => ?_)
        · replace h := rb_ifp c4 h
          refine rb_aload hC 3 dX11_fewFrom_47 rfl ?_
          refine rb_iload_n hC 1 dX11_fewFrom_49 rfl ?_
          obtain ⟨r5, q6, h⟩ := rb_b1s h
          refine rb_callVi hC rb_VokX mv_X11_221 (xc_Fig_letterAt k3 hk3 p0 σ _ q6) (rb_obFig hk3) rfl [.int p0] rfl rfl rfl ⟨by omega, Nat.le_of_ble_eq_true rfl⟩ (Nat.le_of_ble_eq_true rfl) dX11_fewFrom_50 ?_
          refine rb_istore hC [(7, .int r5), (0, .ref (rb_ad w 0)), (1, .int p0), (2, .long p1), (4, .ref (rb_ad w k3)), (5, .int p2), (6, .int p3)] dX11_fewFrom_53 (by decide) rfl ?_
          refine rb_aload_n hC 1 dX11_fewFrom_55 rfl ?_
          refine rb_getR hC fr_X11_86_10 rb_obX0 rfl dX11_fewFrom_56 ?_
          refine rb_iload_n hC 2 dX11_fewFrom_59 rfl ?_
          obtain ⟨g7, h⟩ := rb_gd h
          refine rb_aald hC rb_rrX234 (fun _ => rfl) (rb_ibI g7) dX11_fewFrom_60 ?_
          refine rb_iload hC 0 dX11_fewFrom_61 rfl ?_
          refine rb_iconst (x := 1) hC dX11_fewFrom_63 (by decide) ?_
          refine rb_ishr hC dX11_fewFrom_64 ?_
          refine rb_callVi hC rb_VokX mv_X11_211 (xc_Pole_hasPlace (268 + 5 * p0.toNatClampNeg) (rb_isPole_234 g7) (r5 >>> (1 &&& 31)) σ _ rfl) (rb_obPole (rb_isPole_234 g7)) rfl [.int (r5 >>> (1 &&& 31))] rfl rfl rfl ⟨by omega, Nat.le_of_ble_eq_true rfl⟩ (Nat.le_of_ble_eq_true rfl) dX11_fewFrom_65 ?_
          refine rb_if_ne hC 86 dX11_fewFrom_68 (by decide) (fun c8 => ?_) (fun c8 => ?_)
          · replace h := rb_ifn c8 h
            refine rb_lload_n hC 3 dX11_fewFrom_86 rfl ?_
            refine rb_iload hC 5 dX11_fewFrom_87 rfl ?_
            refine rb_i2l hC dX11_fewFrom_89 ?_
            refine rb_lmul hC dX11_fewFrom_90 ?_
            refine rb_ldc2_w hC kc_X11_445 dX11_fewFrom_91 ?_
            refine rb_ldiv hC dX11_fewFrom_94 (by decide) ?_
            refine rb_lstore hC [(8, .long ((p1 * p2.toInt64) / 100)), (7, .int r5), (0, .ref (rb_ad w 0)), (1, .int p0), (2, .long p1), (4, .ref (rb_ad w k3)), (5, .int p2), (6, .int p3)] dX11_fewFrom_95 (by decide) rfl ?_
            refine rb_aload_n hC 2 dX11_fewFrom_97 rfl ?_
            refine rb_iload_n hC 3 dX11_fewFrom_98 rfl ?_
            refine rb_iload hC 1 dX11_fewFrom_99 rfl ?_
            refine rb_lload_n hC 4 dX11_fewFrom_101 rfl ?_
            refine rb_lload hC 0 dX11_fewFrom_102 rfl ?_
            refine rb_lsub hC dX11_fewFrom_104 ?_
            refine rb_aload hC 5 dX11_fewFrom_105 rfl ?_
            refine rb_iload hC 6 dX11_fewFrom_107 rfl ?_
            refine rb_iload hC 7 dX11_fewFrom_109 rfl ?_
            obtain ⟨r11, s9, q10, h⟩ := rb_b2s h
            refine rb_callVj hC rb_VokX mv_X11_441 (hg.2 p0 r5 (p1 - ((p1 * p2.toInt64) / 100)) k3 hk3 p2 p3 σ _ _ q10) rb_obX0 rfl [.int p0, .int r5, .long (p1 - ((p1 * p2.toInt64) / 100)), .ref (rb_ad w k3), .int p2, .int p3] rfl rfl rfl ⟨by omega, Nat.le_of_ble_eq_true rfl⟩ (Nat.le_of_ble_eq_true rfl) dX11_fewFrom_111 ?_
            refine rb_aload_n hC 2 dX11_fewFrom_114 rfl ?_
            refine rb_iload_n hC 3 dX11_fewFrom_115 rfl ?_
            refine rb_iload hC 1 dX11_fewFrom_116 rfl ?_
            refine rb_iconst (x := 1) hC dX11_fewFrom_118 (by decide) ?_
            refine rb_ixor hC dX11_fewFrom_119 ?_
            refine rb_lload hC 0 dX11_fewFrom_120 rfl ?_
            refine rb_aload hC 5 dX11_fewFrom_122 rfl ?_
            refine rb_iload hC 6 dX11_fewFrom_124 rfl ?_
            refine rb_iload hC 7 dX11_fewFrom_126 rfl ?_
            obtain ⟨r14, s12, q13, h⟩ := rb_b2s h
            refine rb_callVj hC rb_VokX mv_X11_441 (hg.2 p0 (r5 ^^^ 1) ((p1 * p2.toInt64) / 100) k3 hk3 p2 p3 s9 _ _ q13) rb_obX0 rfl [.int p0, .int (r5 ^^^ 1), .long ((p1 * p2.toInt64) / 100), .ref (rb_ad w k3), .int p2, .int p3] rfl rfl rfl ⟨by omega, Nat.le_of_ble_eq_true rfl⟩ (Nat.le_of_ble_eq_true rfl) dX11_fewFrom_128 ?_
            refine rb_ladd hC dX11_fewFrom_131 ?_
            cases h
            exact rb_lret hC dX11_fewFrom_132
          · replace h := rb_ifp c8 h
            refine rb_aload_n hC 1 dX11_fewFrom_71 rfl ?_
            refine rb_iload_n hC 2 dX11_fewFrom_72 rfl ?_
            refine rb_iload hC 0 dX11_fewFrom_73 rfl ?_
            refine rb_lload_n hC 3 dX11_fewFrom_75 rfl ?_
            refine rb_aload hC 4 dX11_fewFrom_76 rfl ?_
            refine rb_iload hC 5 dX11_fewFrom_78 rfl ?_
            refine rb_iload hC 6 dX11_fewFrom_80 rfl ?_
            obtain ⟨r17, s15, q16, h⟩ := rb_b2s h
            refine rb_callVj hC rb_VokX mv_X11_441 (hg.2 p0 r5 p1 k3 hk3 p2 p3 σ _ _ q16) rb_obX0 rfl [.int p0, .int r5, .long p1, .ref (rb_ad w k3), .int p2, .int p3] rfl rfl rfl ⟨by omega, Nat.le_of_ble_eq_true rfl⟩ (Nat.le_of_ble_eq_true rfl) dX11_fewFrom_82 ?_
            cases h
            exact rb_lret hC dX11_fewFrom_85
        · replace h := rb_ifn c4 h
          refine rb_aload_n hC 0 dX11_fewFrom_27 rfl ?_
          refine rb_getR hC fr_X11_86_10 rb_obX0 rfl dX11_fewFrom_28 ?_
          refine rb_iload_n hC 1 dX11_fewFrom_31 rfl ?_
          obtain ⟨g18, h⟩ := rb_gd h
          refine rb_aald hC rb_rrX234 (fun _ => rfl) (rb_ibI g18) dX11_fewFrom_32 ?_
          refine rb_getI hC fr_X11_224_7 (rb_obPole (rb_isPole_234 g18)) rfl dX11_fewFrom_33 ?_
          refine rb_iload hC 5 dX11_fewFrom_36 rfl ?_
          refine rb_icmp_gt hC 45 dX11_fewFrom_38 (by decide) (fun c19 => ?_) (fun c19 => ?_)
          · replace h := rb_ifp c19 h
            refine rb_lconst (x := 0) hC dX11_fewFrom_45 (by decide) ?_
            cases h
            exact rb_lret hC dX11_fewFrom_46
          · replace h := rb_ifn c19 h
            refine rb_lload_n hC 2 dX11_fewFrom_41 rfl ?_
            refine rb_goto hC 46 dX11_fewFrom_42 (by decide) ?_
            cases h
            exact rb_lret hC dX11_fewFrom_46
      · replace h := rb_ifn c3 h
        refine rb_lconst (x := 0) hC dX11_fewFrom_16 (by decide) ?_
        cases h
        exact rb_lret hC dX11_fewFrom_17
def xb_RP_fewBy (g : xg_RF) (p0 : Int32) (p1 : Int32) (p2 : Int64) (k4 : Nat) (p3 : Int32) (p4 : Int32) (σ : rb_St) : Option (Int64 × rb_St) := if (lg_cmp p2 0) = 0 then some (0, σ) else if p0 < 0 then some (0, σ) else if p0 < 8 then if rb_ib (p0 + 1) 9 then if rb_ib p0 9 then rb_b1 (xf_Pole_standAs (268 + 5 * (p0 + 1).toNatClampNeg) (268 + 5 * p0.toNatClampNeg) σ) fun s6 => rb_b1 (xf_Pole_moveEndless (268 + 5 * (p0 + 1).toNatClampNeg) p1 s6) fun s8 => rb_b2 (g.1 (p0 + 1) p2 k4 p3 p4 s8) fun r12 s10 => some (r12, s10) else none else none else some (0, σ)
set_option maxHeartbeats 4000000 in
set_option maxRecDepth 100000 in
theorem xk_RP_fewBy {z : rb_Z} {w : rb_Wd} {h0 : Nat} (hb : 5 ≤ h0) {g : xg_RF} (hg : xg_RF_ok g h0) (hC : rb_Cx z rb_vX w RX11 cX11_fewBy 8 (some .long) (h0 + 1)) (p0 : Int32) (p1 : Int32) (p2 : Int64) (k4 : Nat) (hk4 : rb_isFig k4) (p3 : Int32) (p4 : Int32) (σ : rb_St) (r : Int64) (σ9 : rb_St) (h : xb_RP_fewBy g p0 p1 p2 k4 p3 p4 σ = some (r, σ9)) : rb_At z rb_vX w 8 (rb_Q z rb_vX w (some (.long r)) σ9) 0 [(0, .ref (rb_ad w 0)), (1, .int p0), (2, .int p1), (3, .long p2), (5, .ref (rb_ad w k4)), (6, .int p3), (7, .int p4)] [] σ := by
  unfold xb_RP_fewBy at h
  refine rb_lload_n hC 3 dX11_fewBy_0 rfl ?_
  refine rb_lconst (x := 0) hC dX11_fewBy_1 (by decide) ?_
  refine rb_lcmp hC dX11_fewBy_2 ?_
  refine rb_if_eq hC 16 dX11_fewBy_3 (by decide) (fun c1 => ?_) (fun c1 => ?_)
  · replace h := rb_ifp c1 h
    refine rb_lconst (x := 0) hC dX11_fewBy_16 (by decide) ?_
    cases h
    exact rb_lret hC dX11_fewBy_17
  · replace h := rb_ifn c1 h
    refine rb_iload_n hC 1 dX11_fewBy_6 rfl ?_
    refine rb_if_lt hC 16 dX11_fewBy_7 (by decide) (fun c2 => ?_) (fun c2 => ?_)
    · replace h := rb_ifp c2 h
      refine rb_lconst (x := 0) hC dX11_fewBy_16 (by decide) ?_
      cases h
      exact rb_lret hC dX11_fewBy_17
    · replace h := rb_ifn c2 h
      refine rb_iload_n hC 1 dX11_fewBy_10 rfl ?_
      refine rb_bipush (x := 8) hC dX11_fewBy_11 (by decide) ?_
      refine rb_icmp_lt hC 18 dX11_fewBy_13 (by decide) (fun c3 => ?_) (fun c3 => ?_)
      · replace h := rb_ifp c3 h
        refine rb_aload_n hC 0 dX11_fewBy_18 rfl ?_
        refine rb_getR hC fr_X11_86_10 rb_obX0 rfl dX11_fewBy_19 ?_
        refine rb_iload_n hC 1 dX11_fewBy_22 rfl ?_
        refine rb_iconst (x := 1) hC dX11_fewBy_23 (by decide) ?_
        refine rb_iadd hC dX11_fewBy_24 ?_
        obtain ⟨g4, h⟩ := rb_gd h
        refine rb_aald hC rb_rrX234 (fun _ => rfl) (rb_ibI g4) dX11_fewBy_25 ?_
        refine rb_aload_n hC 0 dX11_fewBy_26 rfl ?_
        refine rb_getR hC fr_X11_86_10 rb_obX0 rfl dX11_fewBy_27 ?_
        refine rb_iload_n hC 1 dX11_fewBy_30 rfl ?_
        obtain ⟨g5, h⟩ := rb_gd h
        refine rb_aald hC rb_rrX234 (fun _ => rfl) (rb_ibI g5) dX11_fewBy_31 ?_
        obtain ⟨s6, q7, h⟩ := rb_b1s h
        refine rb_callVv hC rb_VokX mv_X11_409 (xc_Pole_standAs (268 + 5 * (p0 + 1).toNatClampNeg) (rb_isPole_234 g4) (268 + 5 * p0.toNatClampNeg) (rb_isPole_234 g5) σ _ q7) (rb_obPole (rb_isPole_234 g4)) rfl [.ref (rb_ad w (268 + 5 * p0.toNatClampNeg))] rfl rfl rfl ⟨by omega, Nat.le_of_ble_eq_true rfl⟩ (Nat.le_of_ble_eq_true rfl) dX11_fewBy_32 ?_
        refine rb_aload_n hC 0 dX11_fewBy_35 rfl ?_
        refine rb_getR hC fr_X11_86_10 rb_obX0 rfl dX11_fewBy_36 ?_
        refine rb_iload_n hC 1 dX11_fewBy_39 rfl ?_
        refine rb_iconst (x := 1) hC dX11_fewBy_40 (by decide) ?_
        refine rb_iadd hC dX11_fewBy_41 ?_
        refine rb_aald hC rb_rrX234 (fun _ => rfl) (rb_ibI g4) dX11_fewBy_42 ?_
        refine rb_iload_n hC 2 dX11_fewBy_43 rfl ?_
        obtain ⟨s8, q9, h⟩ := rb_b1s h
        refine rb_callVv hC rb_VokX mv_X11_388 (xc_Pole_moveEndless (268 + 5 * (p0 + 1).toNatClampNeg) (rb_isPole_234 g4) p1 s6 _ q9) (rb_obPole (rb_isPole_234 g4)) rfl [.int p1] rfl rfl rfl ⟨by omega, Nat.le_of_ble_eq_true rfl⟩ (Nat.le_of_ble_eq_true rfl) dX11_fewBy_44 ?_
        refine rb_aload_n hC 0 dX11_fewBy_47 rfl ?_
        refine rb_iload_n hC 1 dX11_fewBy_48 rfl ?_
        refine rb_iconst (x := 1) hC dX11_fewBy_49 (by decide) ?_
        refine rb_iadd hC dX11_fewBy_50 ?_
        refine rb_lload_n hC 3 dX11_fewBy_51 rfl ?_
        refine rb_aload hC 4 dX11_fewBy_52 rfl ?_
        refine rb_iload hC 5 dX11_fewBy_54 rfl ?_
        refine rb_iload hC 6 dX11_fewBy_56 rfl ?_
        obtain ⟨r12, s10, q11, h⟩ := rb_b2s h
        refine rb_callVj hC rb_VokX mv_X11_437 (hg.1 (p0 + 1) p2 k4 hk4 p3 p4 s8 _ _ q11) rb_obX0 rfl [.int (p0 + 1), .long p2, .ref (rb_ad w k4), .int p3, .int p4] rfl rfl rfl ⟨by omega, Nat.le_of_ble_eq_true rfl⟩ (Nat.le_of_ble_eq_true rfl) dX11_fewBy_58 ?_
        cases h
        exact rb_lret hC dX11_fewBy_61
      · replace h := rb_ifn c3 h
        refine rb_lconst (x := 0) hC dX11_fewBy_16 (by decide) ?_
        cases h
        exact rb_lret hC dX11_fewBy_17
def xG_RF : Nat → xg_RF
  | 0 => (fun _ _ _ _ _ _ => none, fun _ _ _ _ _ _ _ => none)
  | d + 1 => (xb_RP_fewFrom (xG_RF d), xb_RP_fewBy (xG_RF d))
theorem xG_RF_all : ∀ d : Nat, xg_RF_ok (xG_RF d) (5 + d) := by
  intro d
  induction d with
  | zero => exact ⟨(fun _ _ _ _ _ _ _ _ _ h => by cases h), (fun _ _ _ _ _ _ _ _ _ _ h => by cases h)⟩
  | succ d ih =>
    have hb : 5 ≤ 5 + d := Nat.le_add_right _ _
    exact ⟨fun p0 p1 k3 hk3 p2 p3 σ r σ9 h => rb_Con.of (by decide +kernel) (fun _ => Nat.le_of_ble_eq_true rfl) (fun z w hC => xk_RP_fewFrom hb ih hC p0 p1 k3 hk3 p2 p3 σ r σ9 h),
      fun p0 p1 p2 k4 hk4 p3 p4 σ r σ9 h => rb_Con.of (by decide +kernel) (fun _ => Nat.le_of_ble_eq_true rfl) (fun z w hC => xk_RP_fewBy hb ih hC p0 p1 p2 k4 hk4 p3 p4 σ r σ9 h)⟩
def xf_RP_fewFrom (d : Nat) (p0 : Int32) (p1 : Int64) (k3 : Nat) (p2 : Int32) (p3 : Int32) (σ : rb_St) : Option (Int64 × rb_St) := (xG_RF d).1 p0 p1 k3 p2 p3 σ
theorem xc_RP_fewFrom (d : Nat) (p0 : Int32) (p1 : Int64) (k3 : Nat) (hk3 : rb_isFig k3) (p2 : Int32) (p3 : Int32) (σ : rb_St) (r : Int64) (σ9 : rb_St) (h : xf_RP_fewFrom d p0 p1 k3 p2 p3 σ = some (r, σ9)) : rb_Con rb_vX yX11_fewFrom cX11_fewFrom 10 (some .long) (5 + d) (fun w => [.ref (rb_ad w 0), .int p0, .long p1, .ref (rb_ad w k3), .int p2, .int p3]) σ (fun _ => (some (.long r))) σ9 := (xG_RF_all d).1 p0 p1 k3 hk3 p2 p3 σ r σ9 h
def xf_RP_fewBy (d : Nat) (p0 : Int32) (p1 : Int32) (p2 : Int64) (k4 : Nat) (p3 : Int32) (p4 : Int32) (σ : rb_St) : Option (Int64 × rb_St) := (xG_RF d).2 p0 p1 p2 k4 p3 p4 σ
theorem xc_RP_fewBy (d : Nat) (p0 : Int32) (p1 : Int32) (p2 : Int64) (k4 : Nat) (hk4 : rb_isFig k4) (p3 : Int32) (p4 : Int32) (σ : rb_St) (r : Int64) (σ9 : rb_St) (h : xf_RP_fewBy d p0 p1 p2 k4 p3 p4 σ = some (r, σ9)) : rb_Con rb_vX yX11_fewBy cX11_fewBy 8 (some .long) (5 + d) (fun w => [.ref (rb_ad w 0), .int p0, .int p1, .long p2, .ref (rb_ad w k4), .int p3, .int p4]) σ (fun _ => (some (.long r))) σ9 := (xG_RF_all d).2 p0 p1 p2 k4 hk4 p3 p4 σ r σ9 h
theorem mv_X4_35_4 : rb_MU RX4 35 "RibbonPole$GreenReader" "RibbonPole$Reader" ⟨"RibbonPole$GreenReader", "nextSign", "()I"⟩ yX8_nextSign cX8_nextSign 1 (some .int) 0 := ⟨rb_in (by decide +kernel) (by decide +kernel), rb_in (by decide +kernel) (by decide +kernel), rb_in (by decide +kernel) (by decide +kernel), rb_in (by decide +kernel) (by decide +kernel), rb_in (by decide +kernel) (by decide +kernel), rb_in (by decide +kernel) (by decide +kernel), rfl, by decide, by decide, by decide +kernel⟩
theorem mv_X4_76 : rb_MV RX4 76 yJ0_indexOf_0f7a4 cJ0_indexOf_0f7a4 2 (some .int) 1 := ⟨rb_in (by decide +kernel) (by decide +kernel), me_J0_indexOf_0f7a4⟩
theorem me_X4_readWithin : Cond.instanceMethod yX4_readWithin ∈ rb_tbl ∧ Cond.selects yX4_readWithin.cls yX4_readWithin yX4_readWithin ∈ rb_tbl ∧ Cond.initialized yX4_readWithin.cls ∈ rb_tbl ∧ Cond.code yX4_readWithin cX4_readWithin 4 (some .int) ∈ rb_tbl ∧ rb_pn yX4_readWithin 2 := ⟨rb_in (by decide +kernel) (by decide +kernel), rb_in (by decide +kernel) (by decide +kernel), rb_in (by decide +kernel) (by decide +kernel), rb_in (by decide +kernel) (by decide +kernel), by decide +kernel, by decide +kernel, by decide +kernel⟩
theorem mv_X4_82 : rb_MV RX4 82 yX4_readWithin cX4_readWithin 4 (some .int) 2 := ⟨rb_in (by decide +kernel) (by decide +kernel), me_X4_readWithin⟩
def xl_GR_readItems_r_6 (x5 : Int32) : Nat → Int32 → Int32 → rb_St → Option (Nat × rb_St)
  | 0, _, _, _ => none
  | n + 1, x6, x7, σ => if 3 < x7 then some (3, σ) else rb_b2 (xf_Rd_nextSignG σ) fun r4 s2 => if r4 = (-1) then some (0, s2) else if r4 = 59 then some (0, s2) else rb_b1 (xf_JS_indexOf0 ((r4.toUInt32 % 65536).toInt32) s2) fun r7 => if r7 < 0 then some (1, s2) else if 3 ≤ r7 then some (1, s2) else if ((x6 >>> (r7 &&& 31)) &&& 1) = 0 then rb_lt (rb_sI s2 3 1 ((s2.1 3 1) + 1)) (fun s12 => if rb_ib r7 3 then rb_b2 (xf_GR_readWithin ((rb_sv 0).getD r7.toNatClampNeg 0) ((rb_sv 1).getD r7.toNatClampNeg 0) s12) fun r17 s15 => if r17 < 0 then some (2, s15) else if x5 < 0 then some (2, s15) else if (x5 + r7) < 3 then if rb_ib (x5 + r7) 3 then rb_lt (rb_sI s15 5 (x5 + r7).toNatClampNeg r17) (fun s22 => xl_GR_readItems_r_6 x5 n (x6 ||| (1 <<< (r7 &&& 31))) (x7 + 1) s22) else none else some (2, s15) else none) else some (1, s2)
set_option maxHeartbeats 4000000 in
set_option maxRecDepth 100000 in
theorem xt_GR_readItems_r_6 {z : rb_Z} {w : rb_Wd} {Q : State → Prop} (hC : rb_Cx z rb_vX w RX4 cX4_readItems 11 (some .boolean) 4) (x5 : Int32) : ∀ (n : Nat) (x6 : Int32) (x7 : Int32) (σ : rb_St) (t : Nat) (σ9 : rb_St), xl_GR_readItems_r_6 x5 n x6 x7 σ = some (t, σ9) → (t = 0 → rb_At z rb_vX w 11 Q 31 [] [] σ9) → (t = 1 → rb_At z rb_vX w 11 Q 63 [] [] σ9) → (t = 2 → rb_At z rb_vX w 11 Q 119 [] [] σ9) → (t = 3 → rb_At z rb_vX w 11 Q 137 [] [] σ9) → rb_At z rb_vX w 11 Q 6 [(0, .ref (rb_ad w 3)), (1, .ref (rb_sx w (6 + 0))), (2, .ref (rb_sx w 0)), (3, .ref (rb_sx w 1)), (4, .ref (rb_ad w 5)), (5, .int x5), (6, .int x6), (7, .int x7)] [] σ := by
  intro n
  induction n with
  | zero =>
    intro x6 x7 σ t σ9 h hE0 hE1 hE2 hE3
    cases h
  | succ n ih =>
    intro x6 x7 σ t σ9 h hE0 hE1 hE2 hE3
    rw [xl_GR_readItems_r_6] at h
    refine rb_iload hC 7 dX4_readItems_6 rfl ?_
    refine rb_iconst (x := 3) hC dX4_readItems_8 (by decide) ?_
    refine rb_icmp_gt hC 137 dX4_readItems_9 (by decide) (fun c1 => ?_) (fun c1 => ?_)
    · replace h := rb_ifp c1 h
      cases h
      exact rb_sub [] rfl (hE3 rfl)
    · replace h := rb_ifn c1 h
      refine rb_aload_n hC 0 dX4_readItems_12 rfl ?_
      obtain ⟨r4, s2, q3, h⟩ := rb_b2s h
      refine rb_callUi hC rb_VokX mv_X4_35_4 (xc_Rd_nextSignG  σ _ _ q3) rb_obX3 rfl [] rfl rfl rfl ⟨Nat.le_of_ble_eq_true rfl, Nat.le_of_ble_eq_true rfl⟩ (Nat.le_of_ble_eq_true rfl) dX4_readItems_13 ?_
      refine rb_istore hC [(8, .int r4), (0, .ref (rb_ad w 3)), (1, .ref (rb_sx w (6 + 0))), (2, .ref (rb_sx w 0)), (3, .ref (rb_sx w 1)), (4, .ref (rb_ad w 5)), (5, .int x5), (6, .int x6), (7, .int x7)] dX4_readItems_16 (by decide) rfl ?_
      refine rb_iload hC 0 dX4_readItems_18 rfl ?_
      refine rb_iconst (x := (-1)) hC dX4_readItems_20 (by decide) ?_
      refine rb_icmp_eq hC 31 dX4_readItems_21 (by decide) (fun c5 => ?_) (fun c5 => ?_)
      · replace h := rb_ifp c5 h
        cases h
        exact rb_sub [] rfl (hE0 rfl)
      · replace h := rb_ifn c5 h
        refine rb_iload hC 0 dX4_readItems_24 rfl ?_
        refine rb_bipush (x := 59) hC dX4_readItems_26 (by decide) ?_
        refine rb_icmp_ne hC 33 dX4_readItems_28 (by decide) (fun c6 => ?_) (fun c6 => ?_)
        · replace h := rb_ifn c6 h
          refine rb_aload_n hC 2 dX4_readItems_33 rfl ?_
          refine rb_iload hC 0 dX4_readItems_34 rfl ?_
          refine rb_i2c hC dX4_readItems_36 ?_
          obtain ⟨r7, q8, h⟩ := rb_b1s h
          refine rb_callT hC mv_X4_76 rfl (xc_JS_indexOf0 ((r4.toUInt32 % 65536).toInt32) s2 _ q8) (i := 0) (by decide) [.int ((r4.toUInt32 % 65536).toInt32)] rfl rfl rfl ⟨Nat.le_of_ble_eq_true rfl, Nat.le_of_ble_eq_true rfl⟩ (Nat.le_of_ble_eq_true rfl) dX4_readItems_37 ?_
          refine rb_istore hC [(9, .int r7), (8, .int r4), (0, .ref (rb_ad w 3)), (1, .ref (rb_sx w (6 + 0))), (2, .ref (rb_sx w 0)), (3, .ref (rb_sx w 1)), (4, .ref (rb_ad w 5)), (5, .int x5), (6, .int x6), (7, .int x7)] dX4_readItems_40 (by decide) rfl ?_
          refine rb_iload hC 0 dX4_readItems_42 rfl ?_
          refine rb_if_lt hC 63 dX4_readItems_44 (by decide) (fun c9 => ?_) (fun c9 => ?_)
          · replace h := rb_ifp c9 h
            cases h
            exact rb_sub [] rfl (hE1 rfl)
          · replace h := rb_ifn c9 h
            refine rb_iload hC 0 dX4_readItems_47 rfl ?_
            refine rb_iconst (x := 3) hC dX4_readItems_49 (by decide) ?_
            refine rb_icmp_ge hC 63 dX4_readItems_50 (by decide) (fun c10 => ?_) (fun c10 => ?_)
            · replace h := rb_ifp c10 h
              cases h
              exact rb_sub [] rfl (hE1 rfl)
            · replace h := rb_ifn c10 h
              refine rb_iload hC 8 dX4_readItems_53 rfl ?_
              refine rb_iload hC 0 dX4_readItems_55 rfl ?_
              refine rb_ishr hC dX4_readItems_57 ?_
              refine rb_iconst (x := 1) hC dX4_readItems_58 (by decide) ?_
              refine rb_iand hC dX4_readItems_59 ?_
              refine rb_if_eq hC 65 dX4_readItems_60 (by decide) (fun c11 => ?_) (fun c11 => ?_)
              · replace h := rb_ifp c11 h
                refine rb_iload hC 8 dX4_readItems_65 rfl ?_
                refine rb_iconst (x := 1) hC dX4_readItems_67 (by decide) ?_
                refine rb_iload hC 0 dX4_readItems_68 rfl ?_
                refine rb_ishl hC dX4_readItems_70 ?_
                refine rb_ior hC dX4_readItems_71 ?_
                refine rb_istore hC [(6, .int (x6 ||| (1 <<< (r7 &&& 31)))), (9, .int r7), (8, .int r4), (0, .ref (rb_ad w 3)), (1, .ref (rb_sx w (6 + 0))), (2, .ref (rb_sx w 0)), (3, .ref (rb_sx w 1)), (4, .ref (rb_ad w 5)), (5, .int x5), (7, .int x7)] dX4_readItems_72 (by decide) rfl ?_
                refine rb_aload_n hC 3 dX4_readItems_74 rfl ?_
                refine rb_dup hC dX4_readItems_75 rfl ?_
                refine rb_getI hC fr_X4_20_4 rb_obX3 rfl dX4_readItems_76 ?_
                refine rb_iconst (x := 1) hC dX4_readItems_79 (by decide) ?_
                refine rb_iadd hC dX4_readItems_80 ?_
                refine rb_putI hC fr_X4_20_4 ft_4_1 rb_obX3 rfl rfl rfl dX4_readItems_81 ?_
                obtain ⟨s12, e13, h⟩ := rb_ltE h
                refine rb_nmS e13 ?_
                refine rb_aload_n hC 3 dX4_readItems_84 rfl ?_
                refine rb_aload_n hC 5 dX4_readItems_85 rfl ?_
                refine rb_iload hC 1 dX4_readItems_86 rfl ?_
                obtain ⟨g14, h⟩ := rb_gd h
                refine rb_tald hC (i := 0) (by decide) (rb_ibI g14) dX4_readItems_88 ?_
                refine rb_aload_n hC 6 dX4_readItems_89 rfl ?_
                refine rb_iload hC 1 dX4_readItems_90 rfl ?_
                refine rb_tald hC (i := 1) (by decide) (rb_ibI g14) dX4_readItems_92 ?_
                obtain ⟨r17, s15, q16, h⟩ := rb_b2s h
                refine rb_callVi hC rb_VokX mv_X4_82 (xc_GR_readWithin ((rb_sv 0).getD r7.toNatClampNeg 0) ((rb_sv 1).getD r7.toNatClampNeg 0) s12 _ _ q16) rb_obX3 rfl [.int ((rb_sv 0).getD r7.toNatClampNeg 0), .int ((rb_sv 1).getD r7.toNatClampNeg 0)] rfl rfl rfl ⟨Nat.le_of_ble_eq_true rfl, Nat.le_of_ble_eq_true rfl⟩ (Nat.le_of_ble_eq_true rfl) dX4_readItems_93 ?_
                refine rb_istore hC [(10, .int r17), (6, .int (x6 ||| (1 <<< (r7 &&& 31)))), (9, .int r7), (8, .int r4), (0, .ref (rb_ad w 3)), (1, .ref (rb_sx w (6 + 0))), (2, .ref (rb_sx w 0)), (3, .ref (rb_sx w 1)), (4, .ref (rb_ad w 5)), (5, .int x5), (7, .int x7)] dX4_readItems_96 (by decide) rfl ?_
                refine rb_iload hC 0 dX4_readItems_98 rfl ?_
                refine rb_if_lt hC 119 dX4_readItems_100 (by decide) (fun c18 => ?_) (fun c18 => ?_)
                · replace h := rb_ifp c18 h
                  cases h
                  exact rb_sub [] rfl (hE2 rfl)
                · replace h := rb_ifn c18 h
                  refine rb_iload hC 9 dX4_readItems_103 rfl ?_
                  refine rb_if_lt hC 119 dX4_readItems_105 (by decide) (fun c19 => ?_) (fun c19 => ?_)
                  · replace h := rb_ifp c19 h
                    cases h
                    exact rb_sub [] rfl (hE2 rfl)
                  · replace h := rb_ifn c19 h
                    refine rb_iload hC 9 dX4_readItems_108 rfl ?_
                    refine rb_iload hC 2 dX4_readItems_110 rfl ?_
                    refine rb_iadd hC dX4_readItems_112 ?_
                    refine rb_aload hC 8 dX4_readItems_113 rfl ?_
                    refine rb_alen (x := 3) hC rb_arX5 (fun _ => rfl) (by decide) dX4_readItems_115 ?_
                    refine rb_icmp_lt hC 121 dX4_readItems_116 (by decide) (fun c20 => ?_) (fun c20 => ?_)
                    · replace h := rb_ifp c20 h
                      refine rb_aload hC 8 dX4_readItems_121 rfl ?_
                      refine rb_iload hC 9 dX4_readItems_123 rfl ?_
                      refine rb_iload hC 2 dX4_readItems_125 rfl ?_
                      refine rb_iadd hC dX4_readItems_127 ?_
                      refine rb_iload hC 0 dX4_readItems_128 rfl ?_
                      obtain ⟨g21, h⟩ := rb_gd h
                      refine rb_iast hC rb_arX5 (rb_ibI g21) dX4_readItems_130 ?_
                      obtain ⟨s22, e23, h⟩ := rb_ltE h
                      refine rb_nmS e23 ?_
                      refine rb_iinc hC 10 [(7, .int (x7 + 1)), (10, .int r17), (6, .int (x6 ||| (1 <<< (r7 &&& 31)))), (9, .int r7), (8, .int r4), (0, .ref (rb_ad w 3)), (1, .ref (rb_sx w (6 + 0))), (2, .ref (rb_sx w 0)), (3, .ref (rb_sx w 1)), (4, .ref (rb_ad w 5)), (5, .int x5)] dX4_readItems_131 rfl rfl (by decide) rfl ?_
                      refine rb_goto hC 6 dX4_readItems_134 (by decide) ?_
                      exact rb_sub [5, 6, 7, 8, 9, 10, 2, 0] rfl (ih (x6 ||| (1 <<< (r7 &&& 31))) (x7 + 1) s22 _ _ h hE0 hE1 hE2 hE3)
                    · replace h := rb_ifn c20 h
                      cases h
                      exact rb_sub [] rfl (hE2 rfl)
              · replace h := rb_ifn c11 h
                cases h
                exact rb_sub [] rfl (hE1 rfl)
        · replace h := rb_ifp c6 h
          cases h
          exact rb_sub [] rfl (hE0 rfl)
def xf_GR_readItems_r (p0 : Int32) (σ : rb_St) : Option (Int32 × rb_St) := rb_b2 (xl_GR_readItems_r_6 p0 rb_FU 0 0 σ) fun t24 s25 => if t24 = 0 then some (1, s25) else if t24 = 1 then some (0, s25) else if t24 = 2 then some (0, s25) else some (0, s25)
set_option maxHeartbeats 4000000 in
set_option maxRecDepth 100000 in
theorem xk_GR_readItems_r {z : rb_Z} {w : rb_Wd} (hC : rb_Cx z rb_vX w RX4 cX4_readItems 11 (some .boolean) 4) (p0 : Int32) (σ : rb_St) (r : Int32) (σ9 : rb_St) (h : xf_GR_readItems_r p0 σ = some (r, σ9)) : rb_At z rb_vX w 11 (rb_Q z rb_vX w (some (.int r)) σ9) 0 [(0, .ref (rb_ad w 3)), (1, .ref (rb_sx w (6 + 0))), (2, .ref (rb_sx w 0)), (3, .ref (rb_sx w 1)), (4, .ref (rb_ad w 5)), (5, .int p0)] [] σ := by
  unfold xf_GR_readItems_r at h
  refine rb_iconst (x := 0) hC dX4_readItems_0 (by decide) ?_
  refine rb_istore hC [(6, .int 0), (0, .ref (rb_ad w 3)), (1, .ref (rb_sx w (6 + 0))), (2, .ref (rb_sx w 0)), (3, .ref (rb_sx w 1)), (4, .ref (rb_ad w 5)), (5, .int p0)] dX4_readItems_1 (by decide) rfl ?_
  refine rb_iconst (x := 0) hC dX4_readItems_3 (by decide) ?_
  refine rb_istore hC [(7, .int 0), (6, .int 0), (0, .ref (rb_ad w 3)), (1, .ref (rb_sx w (6 + 0))), (2, .ref (rb_sx w 0)), (3, .ref (rb_sx w 1)), (4, .ref (rb_ad w 5)), (5, .int p0)] dX4_readItems_4 (by decide) rfl ?_
  obtain ⟨t24, s25, q26, h⟩ := rb_b2s h
  refine rb_sub (lv2 := [(0, .ref (rb_ad w 3)), (1, .ref (rb_sx w (6 + 0))), (2, .ref (rb_sx w 0)), (3, .ref (rb_sx w 1)), (4, .ref (rb_ad w 5)), (5, .int p0), (6, .int 0), (7, .int 0)]) [2, 3, 4, 5, 6, 7, 1, 0] rfl ?_
  refine xt_GR_readItems_r_6 hC p0 rb_FU 0 0 σ _ _ q26 (fun ht => ?_) (fun ht => ?_) (fun ht => ?_) (fun ht => ?_)
  · subst ht
    replace h := rb_ifp rfl h
    refine rb_iconst (x := 1) hC dX4_readItems_31 (by decide) ?_
    cases h
    exact rb_zret hC rfl dX4_readItems_32
  · subst ht
    replace h := rb_ifn (by decide) h
    replace h := rb_ifp rfl h
    refine rb_iconst (x := 0) hC dX4_readItems_63 (by decide) ?_
    cases h
    exact rb_zret hC rfl dX4_readItems_64
  · subst ht
    replace h := rb_ifn (by decide) h
    replace h := rb_ifn (by decide) h
    replace h := rb_ifp rfl h
    refine rb_iconst (x := 0) hC dX4_readItems_119 (by decide) ?_
    cases h
    exact rb_zret hC rfl dX4_readItems_120
  · subst ht
    replace h := rb_ifn (by decide) h
    replace h := rb_ifn (by decide) h
    replace h := rb_ifn (by decide) h
    refine rb_iconst (x := 0) hC dX4_readItems_137 (by decide) ?_
    cases h
    exact rb_zret hC rfl dX4_readItems_138
theorem xc_GR_readItems_r (p0 : Int32) (σ : rb_St) (r : Int32) (σ9 : rb_St) (h : xf_GR_readItems_r p0 σ = some (r, σ9)) : rb_Con rb_vX yX4_readItems cX4_readItems 11 (some .boolean) 4 (fun w => [.ref (rb_ad w 3), .ref (rb_sx w (6 + 0)), .ref (rb_sx w 0), .ref (rb_sx w 1), .ref (rb_ad w 5), .int p0]) σ (fun _ => (some (.int r))) σ9 := rb_Con.of (by decide +kernel) (fun _ => Nat.le_of_ble_eq_true rfl) (fun z w hC => xk_GR_readItems_r hC p0 σ r σ9 h)
def xl_GR_readItems_d_6 (x5 : Int32) : Nat → Int32 → Int32 → rb_St → Option (Nat × rb_St)
  | 0, _, _, _ => none
  | n + 1, x6, x7, σ => if 3 < x7 then some (3, σ) else rb_b2 (xf_Rd_nextSignG σ) fun r4 s2 => if r4 = (-1) then some (0, s2) else if r4 = 59 then some (0, s2) else rb_b1 (xf_JS_indexOf1 ((r4.toUInt32 % 65536).toInt32) s2) fun r7 => if r7 < 0 then some (1, s2) else if 3 ≤ r7 then some (1, s2) else if ((x6 >>> (r7 &&& 31)) &&& 1) = 0 then rb_lt (rb_sI s2 3 1 ((s2.1 3 1) + 1)) (fun s12 => if rb_ib r7 3 then rb_b2 (xf_GR_readWithin ((rb_sv 3).getD r7.toNatClampNeg 0) ((rb_sv 4).getD r7.toNatClampNeg 0) s12) fun r17 s15 => if r17 < 0 then some (2, s15) else if x5 < 0 then some (2, s15) else if (x5 + r7) < 24 then if rb_ib (x5 + r7) 24 then rb_lt (rb_sI s15 6 (x5 + r7).toNatClampNeg r17) (fun s22 => xl_GR_readItems_d_6 x5 n (x6 ||| (1 <<< (r7 &&& 31))) (x7 + 1) s22) else none else some (2, s15) else none) else some (1, s2)
set_option maxHeartbeats 4000000 in
set_option maxRecDepth 100000 in
theorem xt_GR_readItems_d_6 {z : rb_Z} {w : rb_Wd} {Q : State → Prop} (hC : rb_Cx z rb_vX w RX4 cX4_readItems 11 (some .boolean) 4) (x5 : Int32) : ∀ (n : Nat) (x6 : Int32) (x7 : Int32) (σ : rb_St) (t : Nat) (σ9 : rb_St), xl_GR_readItems_d_6 x5 n x6 x7 σ = some (t, σ9) → (t = 0 → rb_At z rb_vX w 11 Q 31 [] [] σ9) → (t = 1 → rb_At z rb_vX w 11 Q 63 [] [] σ9) → (t = 2 → rb_At z rb_vX w 11 Q 119 [] [] σ9) → (t = 3 → rb_At z rb_vX w 11 Q 137 [] [] σ9) → rb_At z rb_vX w 11 Q 6 [(0, .ref (rb_ad w 3)), (1, .ref (rb_sx w (6 + 1))), (2, .ref (rb_sx w 3)), (3, .ref (rb_sx w 4)), (4, .ref (rb_ad w 6)), (5, .int x5), (6, .int x6), (7, .int x7)] [] σ := by
  intro n
  induction n with
  | zero =>
    intro x6 x7 σ t σ9 h hE0 hE1 hE2 hE3
    cases h
  | succ n ih =>
    intro x6 x7 σ t σ9 h hE0 hE1 hE2 hE3
    rw [xl_GR_readItems_d_6] at h
    refine rb_iload hC 7 dX4_readItems_6 rfl ?_
    refine rb_iconst (x := 3) hC dX4_readItems_8 (by decide) ?_
    refine rb_icmp_gt hC 137 dX4_readItems_9 (by decide) (fun c1 => ?_) (fun c1 => ?_)
    · replace h := rb_ifp c1 h
      cases h
      exact rb_sub [] rfl (hE3 rfl)
    · replace h := rb_ifn c1 h
      refine rb_aload_n hC 0 dX4_readItems_12 rfl ?_
      obtain ⟨r4, s2, q3, h⟩ := rb_b2s h
      refine rb_callUi hC rb_VokX mv_X4_35_4 (xc_Rd_nextSignG  σ _ _ q3) rb_obX3 rfl [] rfl rfl rfl ⟨Nat.le_of_ble_eq_true rfl, Nat.le_of_ble_eq_true rfl⟩ (Nat.le_of_ble_eq_true rfl) dX4_readItems_13 ?_
      refine rb_istore hC [(8, .int r4), (0, .ref (rb_ad w 3)), (1, .ref (rb_sx w (6 + 1))), (2, .ref (rb_sx w 3)), (3, .ref (rb_sx w 4)), (4, .ref (rb_ad w 6)), (5, .int x5), (6, .int x6), (7, .int x7)] dX4_readItems_16 (by decide) rfl ?_
      refine rb_iload hC 0 dX4_readItems_18 rfl ?_
      refine rb_iconst (x := (-1)) hC dX4_readItems_20 (by decide) ?_
      refine rb_icmp_eq hC 31 dX4_readItems_21 (by decide) (fun c5 => ?_) (fun c5 => ?_)
      · replace h := rb_ifp c5 h
        cases h
        exact rb_sub [] rfl (hE0 rfl)
      · replace h := rb_ifn c5 h
        refine rb_iload hC 0 dX4_readItems_24 rfl ?_
        refine rb_bipush (x := 59) hC dX4_readItems_26 (by decide) ?_
        refine rb_icmp_ne hC 33 dX4_readItems_28 (by decide) (fun c6 => ?_) (fun c6 => ?_)
        · replace h := rb_ifn c6 h
          refine rb_aload_n hC 2 dX4_readItems_33 rfl ?_
          refine rb_iload hC 0 dX4_readItems_34 rfl ?_
          refine rb_i2c hC dX4_readItems_36 ?_
          obtain ⟨r7, q8, h⟩ := rb_b1s h
          refine rb_callT hC mv_X4_76 rfl (xc_JS_indexOf1 ((r4.toUInt32 % 65536).toInt32) s2 _ q8) (i := 1) (by decide) [.int ((r4.toUInt32 % 65536).toInt32)] rfl rfl rfl ⟨Nat.le_of_ble_eq_true rfl, Nat.le_of_ble_eq_true rfl⟩ (Nat.le_of_ble_eq_true rfl) dX4_readItems_37 ?_
          refine rb_istore hC [(9, .int r7), (8, .int r4), (0, .ref (rb_ad w 3)), (1, .ref (rb_sx w (6 + 1))), (2, .ref (rb_sx w 3)), (3, .ref (rb_sx w 4)), (4, .ref (rb_ad w 6)), (5, .int x5), (6, .int x6), (7, .int x7)] dX4_readItems_40 (by decide) rfl ?_
          refine rb_iload hC 0 dX4_readItems_42 rfl ?_
          refine rb_if_lt hC 63 dX4_readItems_44 (by decide) (fun c9 => ?_) (fun c9 => ?_)
          · replace h := rb_ifp c9 h
            cases h
            exact rb_sub [] rfl (hE1 rfl)
          · replace h := rb_ifn c9 h
            refine rb_iload hC 0 dX4_readItems_47 rfl ?_
            refine rb_iconst (x := 3) hC dX4_readItems_49 (by decide) ?_
            refine rb_icmp_ge hC 63 dX4_readItems_50 (by decide) (fun c10 => ?_) (fun c10 => ?_)
            · replace h := rb_ifp c10 h
              cases h
              exact rb_sub [] rfl (hE1 rfl)
            · replace h := rb_ifn c10 h
              refine rb_iload hC 8 dX4_readItems_53 rfl ?_
              refine rb_iload hC 0 dX4_readItems_55 rfl ?_
              refine rb_ishr hC dX4_readItems_57 ?_
              refine rb_iconst (x := 1) hC dX4_readItems_58 (by decide) ?_
              refine rb_iand hC dX4_readItems_59 ?_
              refine rb_if_eq hC 65 dX4_readItems_60 (by decide) (fun c11 => ?_) (fun c11 => ?_)
              · replace h := rb_ifp c11 h
                refine rb_iload hC 8 dX4_readItems_65 rfl ?_
                refine rb_iconst (x := 1) hC dX4_readItems_67 (by decide) ?_
                refine rb_iload hC 0 dX4_readItems_68 rfl ?_
                refine rb_ishl hC dX4_readItems_70 ?_
                refine rb_ior hC dX4_readItems_71 ?_
                refine rb_istore hC [(6, .int (x6 ||| (1 <<< (r7 &&& 31)))), (9, .int r7), (8, .int r4), (0, .ref (rb_ad w 3)), (1, .ref (rb_sx w (6 + 1))), (2, .ref (rb_sx w 3)), (3, .ref (rb_sx w 4)), (4, .ref (rb_ad w 6)), (5, .int x5), (7, .int x7)] dX4_readItems_72 (by decide) rfl ?_
                refine rb_aload_n hC 3 dX4_readItems_74 rfl ?_
                refine rb_dup hC dX4_readItems_75 rfl ?_
                refine rb_getI hC fr_X4_20_4 rb_obX3 rfl dX4_readItems_76 ?_
                refine rb_iconst (x := 1) hC dX4_readItems_79 (by decide) ?_
                refine rb_iadd hC dX4_readItems_80 ?_
                refine rb_putI hC fr_X4_20_4 ft_4_1 rb_obX3 rfl rfl rfl dX4_readItems_81 ?_
                obtain ⟨s12, e13, h⟩ := rb_ltE h
                refine rb_nmS e13 ?_
                refine rb_aload_n hC 3 dX4_readItems_84 rfl ?_
                refine rb_aload_n hC 5 dX4_readItems_85 rfl ?_
                refine rb_iload hC 1 dX4_readItems_86 rfl ?_
                obtain ⟨g14, h⟩ := rb_gd h
                refine rb_tald hC (i := 3) (by decide) (rb_ibI g14) dX4_readItems_88 ?_
                refine rb_aload_n hC 6 dX4_readItems_89 rfl ?_
                refine rb_iload hC 1 dX4_readItems_90 rfl ?_
                refine rb_tald hC (i := 4) (by decide) (rb_ibI g14) dX4_readItems_92 ?_
                obtain ⟨r17, s15, q16, h⟩ := rb_b2s h
                refine rb_callVi hC rb_VokX mv_X4_82 (xc_GR_readWithin ((rb_sv 3).getD r7.toNatClampNeg 0) ((rb_sv 4).getD r7.toNatClampNeg 0) s12 _ _ q16) rb_obX3 rfl [.int ((rb_sv 3).getD r7.toNatClampNeg 0), .int ((rb_sv 4).getD r7.toNatClampNeg 0)] rfl rfl rfl ⟨Nat.le_of_ble_eq_true rfl, Nat.le_of_ble_eq_true rfl⟩ (Nat.le_of_ble_eq_true rfl) dX4_readItems_93 ?_
                refine rb_istore hC [(10, .int r17), (6, .int (x6 ||| (1 <<< (r7 &&& 31)))), (9, .int r7), (8, .int r4), (0, .ref (rb_ad w 3)), (1, .ref (rb_sx w (6 + 1))), (2, .ref (rb_sx w 3)), (3, .ref (rb_sx w 4)), (4, .ref (rb_ad w 6)), (5, .int x5), (7, .int x7)] dX4_readItems_96 (by decide) rfl ?_
                refine rb_iload hC 0 dX4_readItems_98 rfl ?_
                refine rb_if_lt hC 119 dX4_readItems_100 (by decide) (fun c18 => ?_) (fun c18 => ?_)
                · replace h := rb_ifp c18 h
                  cases h
                  exact rb_sub [] rfl (hE2 rfl)
                · replace h := rb_ifn c18 h
                  refine rb_iload hC 9 dX4_readItems_103 rfl ?_
                  refine rb_if_lt hC 119 dX4_readItems_105 (by decide) (fun c19 => ?_) (fun c19 => ?_)
                  · replace h := rb_ifp c19 h
                    cases h
                    exact rb_sub [] rfl (hE2 rfl)
                  · replace h := rb_ifn c19 h
                    refine rb_iload hC 9 dX4_readItems_108 rfl ?_
                    refine rb_iload hC 2 dX4_readItems_110 rfl ?_
                    refine rb_iadd hC dX4_readItems_112 ?_
                    refine rb_aload hC 8 dX4_readItems_113 rfl ?_
                    refine rb_alen (x := 24) hC rb_arX6 (fun _ => rfl) (by decide) dX4_readItems_115 ?_
                    refine rb_icmp_lt hC 121 dX4_readItems_116 (by decide) (fun c20 => ?_) (fun c20 => ?_)
                    · replace h := rb_ifp c20 h
                      refine rb_aload hC 8 dX4_readItems_121 rfl ?_
                      refine rb_iload hC 9 dX4_readItems_123 rfl ?_
                      refine rb_iload hC 2 dX4_readItems_125 rfl ?_
                      refine rb_iadd hC dX4_readItems_127 ?_
                      refine rb_iload hC 0 dX4_readItems_128 rfl ?_
                      obtain ⟨g21, h⟩ := rb_gd h
                      refine rb_iast hC rb_arX6 (rb_ibI g21) dX4_readItems_130 ?_
                      obtain ⟨s22, e23, h⟩ := rb_ltE h
                      refine rb_nmS e23 ?_
                      refine rb_iinc hC 10 [(7, .int (x7 + 1)), (10, .int r17), (6, .int (x6 ||| (1 <<< (r7 &&& 31)))), (9, .int r7), (8, .int r4), (0, .ref (rb_ad w 3)), (1, .ref (rb_sx w (6 + 1))), (2, .ref (rb_sx w 3)), (3, .ref (rb_sx w 4)), (4, .ref (rb_ad w 6)), (5, .int x5)] dX4_readItems_131 rfl rfl (by decide) rfl ?_
                      refine rb_goto hC 6 dX4_readItems_134 (by decide) ?_
                      exact rb_sub [5, 6, 7, 8, 9, 10, 2, 0] rfl (ih (x6 ||| (1 <<< (r7 &&& 31))) (x7 + 1) s22 _ _ h hE0 hE1 hE2 hE3)
                    · replace h := rb_ifn c20 h
                      cases h
                      exact rb_sub [] rfl (hE2 rfl)
              · replace h := rb_ifn c11 h
                cases h
                exact rb_sub [] rfl (hE1 rfl)
        · replace h := rb_ifp c6 h
          cases h
          exact rb_sub [] rfl (hE0 rfl)
def xf_GR_readItems_d (p0 : Int32) (σ : rb_St) : Option (Int32 × rb_St) := rb_b2 (xl_GR_readItems_d_6 p0 rb_FU 0 0 σ) fun t24 s25 => if t24 = 0 then some (1, s25) else if t24 = 1 then some (0, s25) else if t24 = 2 then some (0, s25) else some (0, s25)
set_option maxHeartbeats 4000000 in
set_option maxRecDepth 100000 in
theorem xk_GR_readItems_d {z : rb_Z} {w : rb_Wd} (hC : rb_Cx z rb_vX w RX4 cX4_readItems 11 (some .boolean) 4) (p0 : Int32) (σ : rb_St) (r : Int32) (σ9 : rb_St) (h : xf_GR_readItems_d p0 σ = some (r, σ9)) : rb_At z rb_vX w 11 (rb_Q z rb_vX w (some (.int r)) σ9) 0 [(0, .ref (rb_ad w 3)), (1, .ref (rb_sx w (6 + 1))), (2, .ref (rb_sx w 3)), (3, .ref (rb_sx w 4)), (4, .ref (rb_ad w 6)), (5, .int p0)] [] σ := by
  unfold xf_GR_readItems_d at h
  refine rb_iconst (x := 0) hC dX4_readItems_0 (by decide) ?_
  refine rb_istore hC [(6, .int 0), (0, .ref (rb_ad w 3)), (1, .ref (rb_sx w (6 + 1))), (2, .ref (rb_sx w 3)), (3, .ref (rb_sx w 4)), (4, .ref (rb_ad w 6)), (5, .int p0)] dX4_readItems_1 (by decide) rfl ?_
  refine rb_iconst (x := 0) hC dX4_readItems_3 (by decide) ?_
  refine rb_istore hC [(7, .int 0), (6, .int 0), (0, .ref (rb_ad w 3)), (1, .ref (rb_sx w (6 + 1))), (2, .ref (rb_sx w 3)), (3, .ref (rb_sx w 4)), (4, .ref (rb_ad w 6)), (5, .int p0)] dX4_readItems_4 (by decide) rfl ?_
  obtain ⟨t24, s25, q26, h⟩ := rb_b2s h
  refine rb_sub (lv2 := [(0, .ref (rb_ad w 3)), (1, .ref (rb_sx w (6 + 1))), (2, .ref (rb_sx w 3)), (3, .ref (rb_sx w 4)), (4, .ref (rb_ad w 6)), (5, .int p0), (6, .int 0), (7, .int 0)]) [2, 3, 4, 5, 6, 7, 1, 0] rfl ?_
  refine xt_GR_readItems_d_6 hC p0 rb_FU 0 0 σ _ _ q26 (fun ht => ?_) (fun ht => ?_) (fun ht => ?_) (fun ht => ?_)
  · subst ht
    replace h := rb_ifp rfl h
    refine rb_iconst (x := 1) hC dX4_readItems_31 (by decide) ?_
    cases h
    exact rb_zret hC rfl dX4_readItems_32
  · subst ht
    replace h := rb_ifn (by decide) h
    replace h := rb_ifp rfl h
    refine rb_iconst (x := 0) hC dX4_readItems_63 (by decide) ?_
    cases h
    exact rb_zret hC rfl dX4_readItems_64
  · subst ht
    replace h := rb_ifn (by decide) h
    replace h := rb_ifn (by decide) h
    replace h := rb_ifp rfl h
    refine rb_iconst (x := 0) hC dX4_readItems_119 (by decide) ?_
    cases h
    exact rb_zret hC rfl dX4_readItems_120
  · subst ht
    replace h := rb_ifn (by decide) h
    replace h := rb_ifn (by decide) h
    replace h := rb_ifn (by decide) h
    refine rb_iconst (x := 0) hC dX4_readItems_137 (by decide) ?_
    cases h
    exact rb_zret hC rfl dX4_readItems_138
theorem xc_GR_readItems_d (p0 : Int32) (σ : rb_St) (r : Int32) (σ9 : rb_St) (h : xf_GR_readItems_d p0 σ = some (r, σ9)) : rb_Con rb_vX yX4_readItems cX4_readItems 11 (some .boolean) 4 (fun w => [.ref (rb_ad w 3), .ref (rb_sx w (6 + 1)), .ref (rb_sx w 3), .ref (rb_sx w 4), .ref (rb_ad w 6), .int p0]) σ (fun _ => (some (.int r))) σ9 := rb_Con.of (by decide +kernel) (fun _ => Nat.le_of_ble_eq_true rfl) (fun z w hC => xk_GR_readItems_d hC p0 σ r σ9 h)
theorem me_X5_run : Cond.instanceMethod yX5_run ∈ rb_tbl ∧ Cond.selects yX5_run.cls yX5_run yX5_run ∈ rb_tbl ∧ Cond.initialized yX5_run.cls ∈ rb_tbl ∧ Cond.code yX5_run cX5_run 4 none ∈ rb_tbl ∧ rb_pn yX5_run 1 := ⟨rb_in (by decide +kernel) (by decide +kernel), rb_in (by decide +kernel) (by decide +kernel), rb_in (by decide +kernel) (by decide +kernel), rb_in (by decide +kernel) (by decide +kernel), by decide +kernel, by decide +kernel, by decide +kernel⟩
theorem mv_X5_38 : rb_MV RX5 38 yX5_run cX5_run 4 none 1 := ⟨rb_in (by decide +kernel) (by decide +kernel), me_X5_run⟩
def xl_Law_worth_56 (k0 : Nat) : Nat → Int32 → Int32 → rb_St → Option (Nat × rb_St)
  | 0, _, _, _ => none
  | n + 1, x7, x8, σ => if (σ.1 k0 1) ≤ x8 then some (1, σ) else if rb_ib x8 240 then if x7 = 0 then if (σ.1 (k0 + 1) x8.toNatClampNeg) = (-22) then some (0, σ) else if (σ.1 (k0 + 1) x8.toNatClampNeg) = (-21) then rb_b2 (xf_Law_pop k0 σ) fun r24 s22 => if r24 = 0 then xl_Law_worth_56 k0 n 1 (x8 + 1) s22 else xl_Law_worth_56 k0 n 0 (x8 + 1) s22 else rb_b1 (xf_Law_run k0 (σ.1 (k0 + 1) x8.toNatClampNeg) σ) fun s20 => xl_Law_worth_56 k0 n x7 (x8 + 1) s20 else if (σ.1 (k0 + 1) x8.toNatClampNeg) = (-22) then xl_Law_worth_56 k0 n 0 (x8 + 1) σ else xl_Law_worth_56 k0 n 1 (x8 + 1) σ else none
set_option maxHeartbeats 4000000 in
set_option maxRecDepth 100000 in
theorem xt_Law_worth_56 {z : rb_Z} {w : rb_Wd} {Q : State → Prop} (hC : rb_Cx z rb_vX w RX5 cX5_worth 10 (some .int) 3) (k0 : Nat) (hk0 : rb_isLaw k0) : ∀ (n : Nat) (x7 : Int32) (x8 : Int32) (σ : rb_St) (t : Nat) (σ9 : rb_St), xl_Law_worth_56 k0 n x7 x8 σ = some (t, σ9) → (t = 0 → rb_At z rb_vX w 10 Q 103 [(0, .ref (rb_ad w k0))] [] σ9) → (t = 1 → rb_At z rb_vX w 10 Q 144 [] [] σ9) → rb_At z rb_vX w 10 Q 56 [(0, .ref (rb_ad w k0)), (7, .int x7), (8, .int x8)] [] σ := by
  intro n
  induction n with
  | zero =>
    intro x7 x8 σ t σ9 h hE0 hE1
    cases h
  | succ n ih =>
    intro x7 x8 σ t σ9 h hE0 hE1
    rw [xl_Law_worth_56] at h
    refine rb_iload hC 2 dX5_worth_56 rfl ?_
    refine rb_aload_n hC 0 dX5_worth_58 rfl ?_
    refine rb_getI hC fr_X5_21_5 (rb_obLaw hk0) rfl dX5_worth_59 ?_
    refine rb_icmp_ge hC 144 dX5_worth_62 (by decide) (fun c15 => ?_) (fun c15 => ?_)
    · replace h := rb_ifp c15 h
      cases h
      exact rb_sub [] rfl (hE1 rfl)
    · replace h := rb_ifn c15 h
      refine rb_aload_n hC 0 dX5_worth_65 rfl ?_
      refine rb_getR hC fr_X5_9_5 (rb_obLaw hk0) rfl dX5_worth_66 ?_
      refine rb_iload hC 2 dX5_worth_69 rfl ?_
      obtain ⟨g16, h⟩ := rb_gd h
      refine rb_iald hC (rb_arLaw1 hk0) (rb_ibI g16) dX5_worth_71 ?_
      refine rb_istore hC [(9, .int (σ.1 (k0 + 1) x8.toNatClampNeg)), (0, .ref (rb_ad w k0)), (7, .int x7), (8, .int x8)] dX5_worth_72 (by decide) rfl ?_
      refine rb_iload hC 2 dX5_worth_74 rfl ?_
      refine rb_if_eq hC 96 dX5_worth_76 (by decide) (fun c17 => ?_) (fun c17 => ?_)
      · replace h := rb_ifp c17 h
        refine rb_iload hC 0 dX5_worth_96 rfl ?_
        refine rb_bipush (x := (-22)) hC dX5_worth_98 (by decide) ?_
        refine rb_icmp_ne hC 108 dX5_worth_100 (by decide) (fun c18 => ?_) (fun c18 => ?_)
        · replace h := rb_ifn c18 h
          refine rb_iload hC 0 dX5_worth_108 rfl ?_
          refine rb_bipush (x := (-21)) hC dX5_worth_110 (by decide) ?_
          refine rb_icmp_ne hC 132 dX5_worth_112 (by decide) (fun c19 => ?_) (fun c19 => ?_)
          · replace h := rb_ifn c19 h
            refine rb_aload_n hC 1 dX5_worth_132 rfl ?_
            refine rb_iload hC 0 dX5_worth_133 rfl ?_
            obtain ⟨s20, q21, h⟩ := rb_b1s h
            refine rb_callVv hC rb_VokX mv_X5_38 (xc_Law_run k0 hk0 (σ.1 (k0 + 1) x8.toNatClampNeg) σ _ q21) (rb_obLaw hk0) rfl [.int (σ.1 (k0 + 1) x8.toNatClampNeg)] rfl rfl rfl ⟨Nat.le_of_ble_eq_true rfl, Nat.le_of_ble_eq_true rfl⟩ (Nat.le_of_ble_eq_true rfl) dX5_worth_135 ?_
            refine rb_iinc hC 3 [(8, .int (x8 + 1)), (9, .int (σ.1 (k0 + 1) x8.toNatClampNeg)), (0, .ref (rb_ad w k0)), (7, .int x7)] dX5_worth_138 rfl rfl (by decide) rfl ?_
            refine rb_goto hC 56 dX5_worth_141 (by decide) ?_
            exact rb_sub [2, 3, 0] rfl (ih x7 (x8 + 1) s20 _ _ h hE0 hE1)
          · replace h := rb_ifp c19 h
            refine rb_aload_n hC 1 dX5_worth_115 rfl ?_
            obtain ⟨r24, s22, q23, h⟩ := rb_b2s h
            refine rb_callVi hC rb_VokX mv_X5_34 (xc_Law_pop k0 hk0 σ _ _ q23) (rb_obLaw hk0) rfl [] rfl rfl rfl ⟨Nat.le_of_ble_eq_true rfl, Nat.le_of_ble_eq_true rfl⟩ (Nat.le_of_ble_eq_true rfl) dX5_worth_116 ?_
            refine rb_if_ne hC 126 dX5_worth_119 (by decide) (fun c25 => ?_) (fun c25 => ?_)
            · replace h := rb_ifn c25 h
              refine rb_iconst (x := 0) hC dX5_worth_126 (by decide) ?_
              refine rb_istore hC [(7, .int 0), (9, .int (σ.1 (k0 + 1) x8.toNatClampNeg)), (0, .ref (rb_ad w k0)), (8, .int x8)] dX5_worth_127 (by decide) rfl ?_
              refine rb_goto hC 138 dX5_worth_129 (by decide) ?_
              refine rb_iinc hC 3 [(8, .int (x8 + 1)), (7, .int 0), (9, .int (σ.1 (k0 + 1) x8.toNatClampNeg)), (0, .ref (rb_ad w k0))] dX5_worth_138 rfl rfl (by decide) rfl ?_
              refine rb_goto hC 56 dX5_worth_141 (by decide) ?_
              exact rb_sub [3, 1, 0] rfl (ih 0 (x8 + 1) s22 _ _ h hE0 hE1)
            · replace h := rb_ifp c25 h
              refine rb_iconst (x := 1) hC dX5_worth_122 (by decide) ?_
              refine rb_goto hC 127 dX5_worth_123 (by decide) ?_
              refine rb_istore hC [(7, .int 1), (9, .int (σ.1 (k0 + 1) x8.toNatClampNeg)), (0, .ref (rb_ad w k0)), (8, .int x8)] dX5_worth_127 (by decide) rfl ?_
              refine rb_goto hC 138 dX5_worth_129 (by decide) ?_
              refine rb_iinc hC 3 [(8, .int (x8 + 1)), (7, .int 1), (9, .int (σ.1 (k0 + 1) x8.toNatClampNeg)), (0, .ref (rb_ad w k0))] dX5_worth_138 rfl rfl (by decide) rfl ?_
              refine rb_goto hC 56 dX5_worth_141 (by decide) ?_
              exact rb_sub [3, 1, 0] rfl (ih 1 (x8 + 1) s22 _ _ h hE0 hE1)
        · replace h := rb_ifp c18 h
          cases h
          exact rb_sub [1] rfl (hE0 rfl)
      · replace h := rb_ifn c17 h
        refine rb_iload hC 0 dX5_worth_79 rfl ?_
        refine rb_bipush (x := (-22)) hC dX5_worth_81 (by decide) ?_
        refine rb_icmp_eq hC 90 dX5_worth_83 (by decide) (fun c26 => ?_) (fun c26 => ?_)
        · replace h := rb_ifp c26 h
          refine rb_iconst (x := 0) hC dX5_worth_90 (by decide) ?_
          refine rb_istore hC [(7, .int 0), (9, .int (σ.1 (k0 + 1) x8.toNatClampNeg)), (0, .ref (rb_ad w k0)), (8, .int x8)] dX5_worth_91 (by decide) rfl ?_
          refine rb_goto hC 138 dX5_worth_93 (by decide) ?_
          refine rb_iinc hC 3 [(8, .int (x8 + 1)), (7, .int 0), (9, .int (σ.1 (k0 + 1) x8.toNatClampNeg)), (0, .ref (rb_ad w k0))] dX5_worth_138 rfl rfl (by decide) rfl ?_
          refine rb_goto hC 56 dX5_worth_141 (by decide) ?_
          exact rb_sub [3, 1, 0] rfl (ih 0 (x8 + 1) σ _ _ h hE0 hE1)
        · replace h := rb_ifn c26 h
          refine rb_iconst (x := 1) hC dX5_worth_86 (by decide) ?_
          refine rb_goto hC 91 dX5_worth_87 (by decide) ?_
          refine rb_istore hC [(7, .int 1), (9, .int (σ.1 (k0 + 1) x8.toNatClampNeg)), (0, .ref (rb_ad w k0)), (8, .int x8)] dX5_worth_91 (by decide) rfl ?_
          refine rb_goto hC 138 dX5_worth_93 (by decide) ?_
          refine rb_iinc hC 3 [(8, .int (x8 + 1)), (7, .int 1), (9, .int (σ.1 (k0 + 1) x8.toNatClampNeg)), (0, .ref (rb_ad w k0))] dX5_worth_138 rfl rfl (by decide) rfl ?_
          refine rb_goto hC 56 dX5_worth_141 (by decide) ?_
          exact rb_sub [3, 1, 0] rfl (ih 1 (x8 + 1) σ _ _ h hE0 hE1)
def xf_Law_worth (k0 : Nat) (p0 : Int32) (p1 : Int32) (p2 : Int32) (p3 : Int32) (p4 : Int32) (p5 : Int32) (σ : rb_St) : Option (Int32 × rb_St) := rb_lt (rb_sI σ (k0 + 2) 0 p0) (fun s1 => rb_lt (rb_sI s1 (k0 + 2) 1 p1) (fun s3 => rb_lt (rb_sI s3 (k0 + 2) 2 p2) (fun s5 => rb_lt (rb_sI s5 (k0 + 2) 3 p3) (fun s7 => rb_lt (rb_sI s7 (k0 + 2) 4 p4) (fun s9 => rb_lt (rb_sI s9 (k0 + 2) 5 p5) (fun s11 => rb_lt (rb_sI s11 k0 4 0) (fun s13 => rb_b2 (xl_Law_worth_56 k0 rb_FU 0 0 s13) fun t27 s28 => if t27 = 0 then rb_b2 (xf_Law_pop k0 s28) fun r32 s30 => some (r32, s30) else some (0, s28))))))))
set_option maxHeartbeats 4000000 in
set_option maxRecDepth 100000 in
theorem xk_Law_worth {z : rb_Z} {w : rb_Wd} (hC : rb_Cx z rb_vX w RX5 cX5_worth 10 (some .int) 3) (k0 : Nat) (hk0 : rb_isLaw k0) (p0 : Int32) (p1 : Int32) (p2 : Int32) (p3 : Int32) (p4 : Int32) (p5 : Int32) (σ : rb_St) (r : Int32) (σ9 : rb_St) (h : xf_Law_worth k0 p0 p1 p2 p3 p4 p5 σ = some (r, σ9)) : rb_At z rb_vX w 10 (rb_Q z rb_vX w (some (.int r)) σ9) 0 [(0, .ref (rb_ad w k0)), (1, .int p0), (2, .int p1), (3, .int p2), (4, .int p3), (5, .int p4), (6, .int p5)] [] σ := by
  unfold xf_Law_worth at h
  refine rb_aload_n hC 0 dX5_worth_0 rfl ?_
  refine rb_getR hC fr_X5_15_5 (rb_obLaw hk0) rfl dX5_worth_1 ?_
  refine rb_iconst (x := 0) hC dX5_worth_4 (by decide) ?_
  refine rb_iload_n hC 1 dX5_worth_5 rfl ?_
  refine rb_iast hC (rb_arLaw2 hk0) (rb_ibI (by decide)) dX5_worth_6 ?_
  obtain ⟨s1, e2, h⟩ := rb_ltE h
  refine rb_nmS e2 ?_
  refine rb_aload_n hC 0 dX5_worth_7 rfl ?_
  refine rb_getR hC fr_X5_15_5 (rb_obLaw hk0) rfl dX5_worth_8 ?_
  refine rb_iconst (x := 1) hC dX5_worth_11 (by decide) ?_
  refine rb_iload_n hC 2 dX5_worth_12 rfl ?_
  refine rb_iast hC (rb_arLaw2 hk0) (rb_ibI (by decide)) dX5_worth_13 ?_
  obtain ⟨s3, e4, h⟩ := rb_ltE h
  refine rb_nmS e4 ?_
  refine rb_aload_n hC 0 dX5_worth_14 rfl ?_
  refine rb_getR hC fr_X5_15_5 (rb_obLaw hk0) rfl dX5_worth_15 ?_
  refine rb_iconst (x := 2) hC dX5_worth_18 (by decide) ?_
  refine rb_iload_n hC 3 dX5_worth_19 rfl ?_
  refine rb_iast hC (rb_arLaw2 hk0) (rb_ibI (by decide)) dX5_worth_20 ?_
  obtain ⟨s5, e6, h⟩ := rb_ltE h
  refine rb_nmS e6 ?_
  refine rb_aload_n hC 0 dX5_worth_21 rfl ?_
  refine rb_getR hC fr_X5_15_5 (rb_obLaw hk0) rfl dX5_worth_22 ?_
  refine rb_iconst (x := 3) hC dX5_worth_25 (by decide) ?_
  refine rb_iload hC 4 dX5_worth_26 rfl ?_
  refine rb_iast hC (rb_arLaw2 hk0) (rb_ibI (by decide)) dX5_worth_28 ?_
  obtain ⟨s7, e8, h⟩ := rb_ltE h
  refine rb_nmS e8 ?_
  refine rb_aload_n hC 0 dX5_worth_29 rfl ?_
  refine rb_getR hC fr_X5_15_5 (rb_obLaw hk0) rfl dX5_worth_30 ?_
  refine rb_iconst (x := 4) hC dX5_worth_33 (by decide) ?_
  refine rb_iload hC 5 dX5_worth_34 rfl ?_
  refine rb_iast hC (rb_arLaw2 hk0) (rb_ibI (by decide)) dX5_worth_36 ?_
  obtain ⟨s9, e10, h⟩ := rb_ltE h
  refine rb_nmS e10 ?_
  refine rb_aload_n hC 0 dX5_worth_37 rfl ?_
  refine rb_getR hC fr_X5_15_5 (rb_obLaw hk0) rfl dX5_worth_38 ?_
  refine rb_iconst (x := 5) hC dX5_worth_41 (by decide) ?_
  refine rb_iload hC 6 dX5_worth_42 rfl ?_
  refine rb_iast hC (rb_arLaw2 hk0) (rb_ibI (by decide)) dX5_worth_44 ?_
  obtain ⟨s11, e12, h⟩ := rb_ltE h
  refine rb_nmS e12 ?_
  refine rb_aload_n hC 0 dX5_worth_45 rfl ?_
  refine rb_iconst (x := 0) hC dX5_worth_46 (by decide) ?_
  refine rb_putI hC fr_X5_31_5 ft_5_4 (rb_obLaw hk0) rfl rfl rfl dX5_worth_47 ?_
  obtain ⟨s13, e14, h⟩ := rb_ltE h
  refine rb_nmS e14 ?_
  refine rb_iconst (x := 0) hC dX5_worth_50 (by decide) ?_
  refine rb_istore hC [(7, .int 0), (0, .ref (rb_ad w k0)), (1, .int p0), (2, .int p1), (3, .int p2), (4, .int p3), (5, .int p4), (6, .int p5)] dX5_worth_51 (by decide) rfl ?_
  refine rb_iconst (x := 0) hC dX5_worth_53 (by decide) ?_
  refine rb_istore hC [(8, .int 0), (7, .int 0), (0, .ref (rb_ad w k0)), (1, .int p0), (2, .int p1), (3, .int p2), (4, .int p3), (5, .int p4), (6, .int p5)] dX5_worth_54 (by decide) rfl ?_
  obtain ⟨t27, s28, q29, h⟩ := rb_b2s h
  refine rb_sub (lv2 := [(0, .ref (rb_ad w k0)), (7, .int 0), (8, .int 0)]) [2, 1, 0] rfl ?_
  refine xt_Law_worth_56 hC k0 hk0 rb_FU 0 0 s13 _ _ q29 (fun ht => ?_) (fun ht => ?_)
  · subst ht
    replace h := rb_ifp rfl h
    refine rb_aload_n hC 0 dX5_worth_103 rfl ?_
    obtain ⟨r32, s30, q31, h⟩ := rb_b2s h
    refine rb_callVi hC rb_VokX mv_X5_34 (xc_Law_pop k0 hk0 s28 _ _ q31) (rb_obLaw hk0) rfl [] rfl rfl rfl ⟨Nat.le_of_ble_eq_true rfl, Nat.le_of_ble_eq_true rfl⟩ (Nat.le_of_ble_eq_true rfl) dX5_worth_104 ?_
    cases h
    exact rb_iret hC dX5_worth_107
  · subst ht
    replace h := rb_ifn (by decide) h
    refine rb_iconst (x := 0) hC dX5_worth_144 (by decide) ?_
    cases h
    exact rb_iret hC dX5_worth_145
theorem xc_Law_worth (k0 : Nat) (hk0 : rb_isLaw k0) (p0 : Int32) (p1 : Int32) (p2 : Int32) (p3 : Int32) (p4 : Int32) (p5 : Int32) (σ : rb_St) (r : Int32) (σ9 : rb_St) (h : xf_Law_worth k0 p0 p1 p2 p3 p4 p5 σ = some (r, σ9)) : rb_Con rb_vX yX5_worth cX5_worth 10 (some .int) 3 (fun w => [.ref (rb_ad w k0), .int p0, .int p1, .int p2, .int p3, .int p4, .int p5]) σ (fun _ => (some (.int r))) σ9 := rb_Con.of (by decide +kernel) (fun _ => Nat.le_of_ble_eq_true rfl) (fun z w hC => xk_Law_worth hC k0 hk0 p0 p1 p2 p3 p4 p5 σ r σ9 h)
