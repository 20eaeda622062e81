def xl_RP_dance_49 (k98 : Nat) : Nat → Int32 → rb_St → Option (Nat × Int32 × rb_St)
  | 0, _, _ => none
  | n + 1, x3, σ => if (σ.1 k98 1) ≤ x3 then some (1, x3, σ) else rb_b1 (xf_Fig_letterAt k98 x3 σ) fun r11 => if 999 ≤ (σ.1 18 3) then some (0, x3, σ) else if (xf_Pole_hasPlace 18 (r11 >>> (1 &&& 31)) σ) = 0 then rb_b2 (xf_RP_takeBeat r11 σ) fun r17 s15 => xl_RP_dance_49 k98 n (x3 + 1) s15 else rb_b2 (xf_RP_hindranceOf r11 σ) fun r20 s18 => if r20 = 0 then rb_b2 (xf_RP_takeBeat r11 s18) fun r24 s22 => xl_RP_dance_49 k98 n (x3 + 1) s22 else some (0, x3, s18)
set_option maxHeartbeats 4000000 in
set_option maxRecDepth 100000 in
theorem xt_RP_dance_49 {z : rb_Z} {w : rb_Wd} {Q : State → Prop} (hC : rb_Cx z rb_vX w RX11 cX11_dance 5 (some .int) 7) (k98 : Nat) (hk98 : rb_isFig k98) : ∀ (n : Nat) (x3 : Int32) (σ : rb_St) (t : Nat) (y3 : Int32) (σ9 : rb_St), xl_RP_dance_49 k98 n x3 σ = some (t, y3, σ9) → (t = 0 → rb_At z rb_vX w 5 Q 100 [(3, .int y3)] [] σ9) → (t = 1 → rb_At z rb_vX w 5 Q 115 [(2, .ref (rb_ad w k98))] [] σ9) → rb_At z rb_vX w 5 Q 49 [(0, .ref (rb_ad w 0)), (2, .ref (rb_ad w k98)), (3, .int x3)] [] σ := by
  intro n
  induction n with
  | zero =>
    intro x3 σ t y3 σ9 h hE0 hE1
    cases h
  | succ n ih =>
    intro x3 σ t y3 σ9 h hE0 hE1
    rw [xl_RP_dance_49] at h
    refine rb_iload_n hC 2 dX11_dance_49 rfl ?_
    refine rb_aload_n hC 1 dX11_dance_50 rfl ?_
    refine rb_getI hC fr_X11_220_1 (rb_obFig hk98) rfl dX11_dance_51 ?_
    refine rb_icmp_ge hC 115 dX11_dance_54 (by decide) (fun c10 => ?_) (fun c10 => ?_)
    · replace h := rb_ifp c10 h
      cases h
      exact rb_sub [1] rfl (hE1 rfl)
    · replace h := rb_ifn c10 h
      refine rb_aload_n hC 1 dX11_dance_57 rfl ?_
      refine rb_iload_n hC 2 dX11_dance_58 rfl ?_
      obtain ⟨r11, q12, h⟩ := rb_b1s h
      refine rb_callVi hC rb_VokX mv_X11_221 (xc_Fig_letterAt k98 hk98 x3 σ _ q12) (rb_obFig hk98) rfl [.int x3] rfl rfl rfl ⟨Nat.le_of_ble_eq_true rfl, Nat.le_of_ble_eq_true rfl⟩ (Nat.le_of_ble_eq_true rfl) dX11_dance_59 ?_
      refine rb_istore hC [(4, .int r11), (0, .ref (rb_ad w 0)), (2, .ref (rb_ad w k98)), (3, .int x3)] dX11_dance_62 (by decide) rfl ?_
      refine rb_aload_n hC 1 dX11_dance_64 rfl ?_
      refine rb_getR hC fr_X11_49_10 rb_obX0 rfl dX11_dance_65 ?_
      refine rb_getI hC fr_X11_250_7 (rb_obPole rb_isPole18) rfl dX11_dance_68 ?_
      refine rb_sipush (x := 999) hC dX11_dance_71 (by decide) ?_
      refine rb_icmp_ge hC 100 dX11_dance_74 (by decide) (fun c13 => ?_) (fun c13 => ?_)
      · replace h := rb_ifp c13 h
        cases h
        exact rb_sub [3] rfl (hE0 rfl)
      · replace h := rb_ifn c13 h
        refine rb_aload_n hC 1 dX11_dance_77 rfl ?_
        refine rb_getR hC fr_X11_49_10 rb_obX0 rfl dX11_dance_78 ?_
        refine rb_iload hC 0 dX11_dance_81 rfl ?_
        refine rb_iconst (x := 1) hC dX11_dance_83 (by decide) ?_
        refine rb_ishr hC dX11_dance_84 ?_
        refine rb_callVi hC rb_VokX mv_X11_211 (xc_Pole_hasPlace 18 rb_isPole18 (r11 >>> (1 &&& 31)) σ _ rfl) (rb_obPole rb_isPole18) rfl [.int (r11 >>> (1 &&& 31))] rfl rfl rfl ⟨Nat.le_of_ble_eq_true rfl, Nat.le_of_ble_eq_true rfl⟩ (Nat.le_of_ble_eq_true rfl) dX11_dance_85 ?_
        refine rb_if_eq hC 102 dX11_dance_88 (by decide) (fun c14 => ?_) (fun c14 => ?_)
        · replace h := rb_ifp c14 h
          refine rb_aload_n hC 1 dX11_dance_102 rfl ?_
          refine rb_iload hC 0 dX11_dance_103 rfl ?_
          obtain ⟨r17, s15, q16, h⟩ := rb_b2s h
          refine rb_callVi hC rb_VokX mv_X11_313 (xc_RP_takeBeat r11 σ _ _ q16) rb_obX0 rfl [.int r11] rfl rfl rfl ⟨Nat.le_of_ble_eq_true rfl, Nat.le_of_ble_eq_true rfl⟩ (Nat.le_of_ble_eq_true rfl) dX11_dance_105 ?_
          refine rb_pop hC dX11_dance_108 rfl ?_
          refine rb_iinc hC 3 [(3, .int (x3 + 1)), (4, .int r11), (0, .ref (rb_ad w 0)), (2, .ref (rb_ad w k98))] dX11_dance_109 rfl rfl (by decide) rfl ?_
          refine rb_goto hC 49 dX11_dance_112 (by decide) ?_
          exact rb_sub [2, 3, 0] rfl (ih (x3 + 1) s15 _ _ _ h hE0 hE1)
        · replace h := rb_ifn c14 h
          refine rb_aload_n hC 1 dX11_dance_91 rfl ?_
          refine rb_iload hC 0 dX11_dance_92 rfl ?_
          obtain ⟨r20, s18, q19, h⟩ := rb_b2s h
          refine rb_callVi hC rb_VokX mv_X11_310 (xc_RP_hindranceOf r11 σ _ _ q19) rb_obX0 rfl [.int r11] rfl rfl rfl ⟨Nat.le_of_ble_eq_true rfl, Nat.le_of_ble_eq_true rfl⟩ (Nat.le_of_ble_eq_true rfl) dX11_dance_94 ?_
          refine rb_if_eq hC 102 dX11_dance_97 (by decide) (fun c21 => ?_) (fun c21 => ?_)
          · replace h := rb_ifp c21 h
            refine rb_aload_n hC 1 dX11_dance_102 rfl ?_
            refine rb_iload hC 0 dX11_dance_103 rfl ?_
            obtain ⟨r24, s22, q23, h⟩ := rb_b2s h
            refine rb_callVi hC rb_VokX mv_X11_313 (xc_RP_takeBeat r11 s18 _ _ q23) rb_obX0 rfl [.int r11] rfl rfl rfl ⟨Nat.le_of_ble_eq_true rfl, Nat.le_of_ble_eq_true rfl⟩ (Nat.le_of_ble_eq_true rfl) dX11_dance_105 ?_
            refine rb_pop hC dX11_dance_108 rfl ?_
            refine rb_iinc hC 3 [(3, .int (x3 + 1)), (4, .int r11), (0, .ref (rb_ad w 0)), (2, .ref (rb_ad w k98))] dX11_dance_109 rfl rfl (by decide) rfl ?_
            refine rb_goto hC 49 dX11_dance_112 (by decide) ?_
            exact rb_sub [2, 3, 0] rfl (ih (x3 + 1) s22 _ _ _ h hE0 hE1)
          · replace h := rb_ifn c21 h
            cases h
            exact rb_sub [3] rfl (hE0 rfl)
def xf_RP_dance (p0 : Int32) (σ : rb_St) : Option (Int32 × rb_St) := if (xf_RP_hasGreen σ) = 0 then rb_b2 (xf_RP_refuse 0 σ) fun r4 s2 => some (r4, s2) else if (xf_RP_isFigure p0 σ) = 0 then rb_b2 (xf_RP_refuse 0 σ) fun r34 s32 => some (r34, s32) else if (σ.1 18 3) < 999 then if rb_ib p0 6 then rb_lt (256 + 2 * p0.toNatClampNeg) (fun k98 => rb_b3 (xl_RP_dance_49 k98 rb_FU 0 σ) fun t25 y26 s27 => if t25 = 0 then some (y26, s27) else some (s27.1 k98 1, s27)) else none else rb_b2 (xf_RP_refuse 4 σ) fun r31 s29 => some (r31, s29)
set_option maxHeartbeats 4000000 in
set_option maxRecDepth 100000 in
theorem xk_RP_dance {z : rb_Z} {w : rb_Wd} (hC : rb_Cx z rb_vX w RX11 cX11_dance 5 (some .int) 7) (p0 : Int32) (σ : rb_St) (r : Int32) (σ9 : rb_St) (h : xf_RP_dance p0 σ = some (r, σ9)) : rb_At z rb_vX w 5 (rb_Q z rb_vX w (some (.int r)) σ9) 0 [(0, .ref (rb_ad w 0)), (1, .int p0)] [] σ := by
  unfold xf_RP_dance at h
  refine rb_aload_n hC 0 dX11_dance_0 rfl ?_
  refine rb_callVi hC rb_VokX mv_X11_176 (xc_RP_hasGreen  σ _ rfl) rb_obX0 rfl [] rfl rfl rfl ⟨Nat.le_of_ble_eq_true rfl, Nat.le_of_ble_eq_true rfl⟩ (Nat.le_of_ble_eq_true rfl) dX11_dance_1 ?_
  refine rb_if_eq hC 15 dX11_dance_4 (by decide) (fun c1 => ?_) (fun c1 => ?_)
  · replace h := rb_ifp c1 h
    refine rb_aload_n hC 0 dX11_dance_15 rfl ?_
    refine rb_iconst (x := 0) hC dX11_dance_16 (by decide) ?_
    obtain ⟨r4, s2, q3, h⟩ := rb_b2s h
    refine rb_callVi hC rb_VokX mv_X11_303 (xc_RP_refuse 0 σ _ _ q3) rb_obX0 rfl [.int 0] rfl rfl rfl ⟨Nat.le_of_ble_eq_true rfl, Nat.le_of_ble_eq_true rfl⟩ (Nat.le_of_ble_eq_true rfl) dX11_dance_17 ?_
    cases h
    exact rb_iret hC dX11_dance_20
  · replace h := rb_ifn c1 h
    refine rb_aload_n hC 0 dX11_dance_7 rfl ?_
    refine rb_iload_n hC 1 dX11_dance_8 rfl ?_
    refine rb_callVi hC rb_VokX mv_X11_217 (xc_RP_isFigure p0 σ _ rfl) rb_obX0 rfl [.int p0] rfl rfl rfl ⟨Nat.le_of_ble_eq_true rfl, Nat.le_of_ble_eq_true rfl⟩ (Nat.le_of_ble_eq_true rfl) dX11_dance_9 ?_
    refine rb_if_ne hC 21 dX11_dance_12 (by decide) (fun c5 => ?_) (fun c5 => ?_)
    · replace h := rb_ifn c5 h
      refine rb_aload_n hC 0 dX11_dance_21 rfl ?_
      refine rb_getR hC fr_X11_49_10 rb_obX0 rfl dX11_dance_22 ?_
      refine rb_getI hC fr_X11_250_7 (rb_obPole rb_isPole18) rfl dX11_dance_25 ?_
      refine rb_sipush (x := 999) hC dX11_dance_28 (by decide) ?_
      refine rb_icmp_lt hC 40 dX11_dance_31 (by decide) (fun c6 => ?_) (fun c6 => ?_)
      · replace h := rb_ifp c6 h
        refine rb_aload_n hC 0 dX11_dance_40 rfl ?_
        refine rb_getR hC fr_X11_75_10 rb_obX0 rfl dX11_dance_41 ?_
        refine rb_iload_n hC 1 dX11_dance_44 rfl ?_
        obtain ⟨g7, h⟩ := rb_gd h
        refine rb_aald hC rb_rrX231 (fun _ => rfl) (rb_ibI g7) dX11_dance_45 ?_
        obtain ⟨k98, e9, h⟩ := rb_ltE h
        have hk98 : rb_isFig k98 := e9 ▸ (rb_isFig_of g7)
        refine rb_nmR e9 ?_
        refine rb_astore_n hC [(2, .ref (rb_ad w k98)), (0, .ref (rb_ad w 0)), (1, .int p0)] dX11_dance_46 (by decide) rfl ?_
        refine rb_iconst (x := 0) hC dX11_dance_47 (by decide) ?_
        refine rb_istore_n hC [(3, .int 0), (2, .ref (rb_ad w k98)), (0, .ref (rb_ad w 0)), (1, .int p0)] dX11_dance_48 (by decide) rfl ?_
        obtain ⟨t25, y26, s27, q28, h⟩ := rb_b3s h
        refine rb_sub (lv2 := [(0, .ref (rb_ad w 0)), (2, .ref (rb_ad w k98)), (3, .int 0)]) [2, 1, 0] rfl ?_
        refine xt_RP_dance_49 hC k98 hk98 rb_FU 0 σ _ _ _ q28 (fun ht => ?_) (fun ht => ?_)
        · subst ht
          replace h := rb_ifp rfl h
          refine rb_iload_n hC 0 dX11_dance_100 rfl ?_
          cases h
          exact rb_iret hC dX11_dance_101
        · subst ht
          replace h := rb_ifn (by decide) h
          refine rb_aload_n hC 0 dX11_dance_115 rfl ?_
          refine rb_getI hC fr_X11_220_1 (rb_obFig hk98) rfl dX11_dance_116 ?_
          cases h
          exact rb_iret hC dX11_dance_119
      · replace h := rb_ifn c6 h
        refine rb_aload_n hC 0 dX11_dance_34 rfl ?_
        refine rb_iconst (x := 4) hC dX11_dance_35 (by decide) ?_
        obtain ⟨r31, s29, q30, h⟩ := rb_b2s h
        refine rb_callVi hC rb_VokX mv_X11_303 (xc_RP_refuse 4 σ _ _ q30) rb_obX0 rfl [.int 4] rfl rfl rfl ⟨Nat.le_of_ble_eq_true rfl, Nat.le_of_ble_eq_true rfl⟩ (Nat.le_of_ble_eq_true rfl) dX11_dance_36 ?_
        cases h
        exact rb_iret hC dX11_dance_39
    · replace h := rb_ifp c5 h
      refine rb_aload_n hC 0 dX11_dance_15 rfl ?_
      refine rb_iconst (x := 0) hC dX11_dance_16 (by decide) ?_
      obtain ⟨r34, s32, q33, h⟩ := rb_b2s h
      refine rb_callVi hC rb_VokX mv_X11_303 (xc_RP_refuse 0 σ _ _ q33) rb_obX0 rfl [.int 0] rfl rfl rfl ⟨Nat.le_of_ble_eq_true rfl, Nat.le_of_ble_eq_true rfl⟩ (Nat.le_of_ble_eq_true rfl) dX11_dance_17 ?_
      cases h
      exact rb_iret hC dX11_dance_20
theorem xc_RP_dance (p0 : Int32) (σ : rb_St) (r : Int32) (σ9 : rb_St) (h : xf_RP_dance p0 σ = some (r, σ9)) : rb_Con rb_vX yX11_dance cX11_dance 5 (some .int) 7 (fun w => [.ref (rb_ad w 0), .int p0]) σ (fun _ => (some (.int r))) σ9 := rb_Con.of (by decide +kernel) (fun _ => Nat.le_of_ble_eq_true rfl) (fun z w hC => xk_RP_dance hC p0 σ r σ9 h)
theorem me_X7_undoingLetter : Cond.instanceMethod yX7_undoingLetter ∈ rb_tbl ∧ Cond.selects yX7_undoingLetter.cls yX7_undoingLetter yX7_undoingLetter ∈ rb_tbl ∧ Cond.initialized yX7_undoingLetter.cls ∈ rb_tbl ∧ Cond.code yX7_undoingLetter cX7_undoingLetter 3 (some .int) ∈ rb_tbl ∧ rb_pn yX7_undoingLetter 0 := ⟨rb_in (by decide +kernel) (by decide +kernel), rb_in (by decide +kernel) (by decide +kernel), rb_in (by decide +kernel) (by decide +kernel), rb_in (by decide +kernel) (by decide +kernel), by decide +kernel, by decide +kernel, by decide +kernel⟩
theorem mv_X11_316 : rb_MV RX11 316 yX7_undoingLetter cX7_undoingLetter 3 (some .int) 0 := ⟨rb_in (by decide +kernel) (by decide +kernel), me_X7_undoingLetter⟩
def xl_RP_down_67 (x1 : Int32) : Nat → Int32 → rb_St → Option (Nat × Int32 × rb_St)
  | 0, _, _ => none
  | n + 1, x2, σ => if x1 ≤ x2 then some (1, x2, σ) else if (σ.1 18 1) = 0 then some (0, x2, σ) else if (σ.1 18 3) < 999 then rb_b1 (xf_Pole_undoingLetter 18 σ) fun r12 => rb_b2 (xf_RP_takeBeat r12 σ) fun r16 s14 => xl_RP_down_67 x1 n (x2 + 1) s14 else some (0, x2, σ)
set_option maxHeartbeats 4000000 in
set_option maxRecDepth 100000 in
theorem xt_RP_down_67 {z : rb_Z} {w : rb_Wd} {Q : State → Prop} (hC : rb_Cx z rb_vX w RX11 cX11_down 3 (some .int) 7) (x1 : Int32) : ∀ (n : Nat) (x2 : Int32) (σ : rb_St) (t : Nat) (y2 : Int32) (σ9 : rb_St), xl_RP_down_67 x1 n x2 σ = some (t, y2, σ9) → (t = 0 → rb_At z rb_vX w 3 Q 95 [(2, .int y2)] [] σ9) → (t = 1 → rb_At z rb_vX w 3 Q 115 [(1, .int x1)] [] σ9) → rb_At z rb_vX w 3 Q 67 [(0, .ref (rb_ad w 0)), (1, .int x1), (2, .int x2)] [] σ := by
  intro n
  induction n with
  | zero =>
    intro x2 σ t y2 σ9 h hE0 hE1
    cases h
  | succ n ih =>
    intro x2 σ t y2 σ9 h hE0 hE1
    rw [xl_RP_down_67] at h
    refine rb_iload_n hC 2 dX11_down_67 rfl ?_
    refine rb_iload_n hC 1 dX11_down_68 rfl ?_
    refine rb_icmp_ge hC 115 dX11_down_69 (by decide) (fun c9 => ?_) (fun c9 => ?_)
    · replace h := rb_ifp c9 h
      cases h
      exact rb_sub [1] rfl (hE1 rfl)
    · replace h := rb_ifn c9 h
      refine rb_aload_n hC 0 dX11_down_72 rfl ?_
      refine rb_getR hC fr_X11_49_10 rb_obX0 rfl dX11_down_73 ?_
      refine rb_getI hC fr_X11_224_7 (rb_obPole rb_isPole18) rfl dX11_down_76 ?_
      refine rb_if_eq hC 95 dX11_down_79 (by decide) (fun c10 => ?_) (fun c10 => ?_)
      · replace h := rb_ifp c10 h
        cases h
        exact rb_sub [2] rfl (hE0 rfl)
      · replace h := rb_ifn c10 h
        refine rb_aload_n hC 0 dX11_down_82 rfl ?_
        refine rb_getR hC fr_X11_49_10 rb_obX0 rfl dX11_down_83 ?_
        refine rb_getI hC fr_X11_250_7 (rb_obPole rb_isPole18) rfl dX11_down_86 ?_
        refine rb_sipush (x := 999) hC dX11_down_89 (by decide) ?_
        refine rb_icmp_lt hC 97 dX11_down_92 (by decide) (fun c11 => ?_) (fun c11 => ?_)
        · replace h := rb_ifp c11 h
          refine rb_aload_n hC 0 dX11_down_97 rfl ?_
          refine rb_aload_n hC 0 dX11_down_98 rfl ?_
          refine rb_getR hC fr_X11_49_10 rb_obX0 rfl dX11_down_99 ?_
          obtain ⟨r12, q13, h⟩ := rb_b1s h
          refine rb_callVi hC rb_VokX mv_X11_316 (xc_Pole_undoingLetter 18 rb_isPole18 σ _ q13) (rb_obPole rb_isPole18) rfl [] rfl rfl rfl ⟨Nat.le_of_ble_eq_true rfl, Nat.le_of_ble_eq_true rfl⟩ (Nat.le_of_ble_eq_true rfl) dX11_down_102 ?_
          obtain ⟨r16, s14, q15, h⟩ := rb_b2s h
          refine rb_callVi hC rb_VokX mv_X11_313 (xc_RP_takeBeat r12 σ _ _ q15) rb_obX0 rfl [.int r12] rfl rfl rfl ⟨Nat.le_of_ble_eq_true rfl, Nat.le_of_ble_eq_true rfl⟩ (Nat.le_of_ble_eq_true rfl) dX11_down_105 ?_
          refine rb_pop hC dX11_down_108 rfl ?_
          refine rb_iinc hC 2 [(2, .int (x2 + 1)), (0, .ref (rb_ad w 0)), (1, .int x1)] dX11_down_109 rfl rfl (by decide) rfl ?_
          refine rb_goto hC 67 dX11_down_112 (by decide) ?_
          exact rb_sub [1, 2, 0] rfl (ih (x2 + 1) s14 _ _ _ h hE0 hE1)
        · replace h := rb_ifn c11 h
          cases h
          exact rb_sub [2] rfl (hE0 rfl)
def xf_RP_down (p0 : Int32) (σ : rb_St) : Option (Int32 × rb_St) := if (xf_RP_hasGreen σ) = 0 then rb_b2 (xf_RP_refuse 0 σ) fun r32 s30 => some (r32, s30) else if p0 < 1 then rb_b2 (xf_RP_refuse 1 σ) fun r5 s3 => some (r5, s3) else if p0 ≤ 9 then if (σ.1 18 1) = 0 then rb_b2 (xf_RP_refuse 2 σ) fun r26 s24 => some (r26, s24) else if (σ.1 18 3) < 999 then rb_b3 (xl_RP_down_67 p0 rb_FU 0 σ) fun t17 y18 s19 => if t17 = 0 then some (y18, s19) else some (p0, s19) else rb_b2 (xf_RP_refuse 4 σ) fun r23 s21 => some (r23, s21) else rb_b2 (xf_RP_refuse 1 σ) fun r29 s27 => some (r29, s27)
set_option maxHeartbeats 4000000 in
set_option maxRecDepth 100000 in
theorem xk_RP_down {z : rb_Z} {w : rb_Wd} (hC : rb_Cx z rb_vX w RX11 cX11_down 3 (some .int) 7) (p0 : Int32) (σ : rb_St) (r : Int32) (σ9 : rb_St) (h : xf_RP_down p0 σ = some (r, σ9)) : rb_At z rb_vX w 3 (rb_Q z rb_vX w (some (.int r)) σ9) 0 [(0, .ref (rb_ad w 0)), (1, .int p0)] [] σ := by
  unfold xf_RP_down at h
  refine rb_aload_n hC 0 dX11_down_0 rfl ?_
  refine rb_callVi hC rb_VokX mv_X11_176 (xc_RP_hasGreen  σ _ rfl) rb_obX0 rfl [] rfl rfl rfl ⟨Nat.le_of_ble_eq_true rfl, Nat.le_of_ble_eq_true rfl⟩ (Nat.le_of_ble_eq_true rfl) dX11_down_1 ?_
  refine rb_if_ne hC 13 dX11_down_4 (by decide) (fun c1 => ?_) (fun c1 => ?_)
  · replace h := rb_ifn c1 h
    refine rb_iload_n hC 1 dX11_down_13 rfl ?_
    refine rb_iconst (x := 1) hC dX11_down_14 (by decide) ?_
    refine rb_icmp_lt hC 24 dX11_down_15 (by decide) (fun c2 => ?_) (fun c2 => ?_)
    · replace h := rb_ifp c2 h
      refine rb_aload_n hC 0 dX11_down_24 rfl ?_
      refine rb_iconst (x := 1) hC dX11_down_25 (by decide) ?_
      obtain ⟨r5, s3, q4, h⟩ := rb_b2s h
      refine rb_callVi hC rb_VokX mv_X11_303 (xc_RP_refuse 1 σ _ _ q4) rb_obX0 rfl [.int 1] rfl rfl rfl ⟨Nat.le_of_ble_eq_true rfl, Nat.le_of_ble_eq_true rfl⟩ (Nat.le_of_ble_eq_true rfl) dX11_down_26 ?_
      cases h
      exact rb_iret hC dX11_down_29
    · replace h := rb_ifn c2 h
      refine rb_iload_n hC 1 dX11_down_18 rfl ?_
      refine rb_bipush (x := 9) hC dX11_down_19 (by decide) ?_
      refine rb_icmp_le hC 30 dX11_down_21 (by decide) (fun c6 => ?_) (fun c6 => ?_)
      · replace h := rb_ifp c6 h
        refine rb_aload_n hC 0 dX11_down_30 rfl ?_
        refine rb_getR hC fr_X11_49_10 rb_obX0 rfl dX11_down_31 ?_
        refine rb_getI hC fr_X11_224_7 (rb_obPole rb_isPole18) rfl dX11_down_34 ?_
        refine rb_if_ne hC 46 dX11_down_37 (by decide) (fun c7 => ?_) (fun c7 => ?_)
        · replace h := rb_ifn c7 h
          refine rb_aload_n hC 0 dX11_down_46 rfl ?_
          refine rb_getR hC fr_X11_49_10 rb_obX0 rfl dX11_down_47 ?_
          refine rb_getI hC fr_X11_250_7 (rb_obPole rb_isPole18) rfl dX11_down_50 ?_
          refine rb_sipush (x := 999) hC dX11_down_53 (by decide) ?_
          refine rb_icmp_lt hC 65 dX11_down_56 (by decide) (fun c8 => ?_) (fun c8 => ?_)
          · replace h := rb_ifp c8 h
            refine rb_iconst (x := 0) hC dX11_down_65 (by decide) ?_
            refine rb_istore_n hC [(2, .int 0), (0, .ref (rb_ad w 0)), (1, .int p0)] dX11_down_66 (by decide) rfl ?_
            obtain ⟨t17, y18, s19, q20, h⟩ := rb_b3s h
            refine rb_sub (lv2 := [(0, .ref (rb_ad w 0)), (1, .int p0), (2, .int 0)]) [1, 2, 0] rfl ?_
            refine xt_RP_down_67 hC p0 rb_FU 0 σ _ _ _ q20 (fun ht => ?_) (fun ht => ?_)
            · subst ht
              replace h := rb_ifp rfl h
              refine rb_iload_n hC 0 dX11_down_95 rfl ?_
              cases h
              exact rb_iret hC dX11_down_96
            · subst ht
              replace h := rb_ifn (by decide) h
              refine rb_iload_n hC 0 dX11_down_115 rfl ?_
              cases h
              exact rb_iret hC dX11_down_116
          · replace h := rb_ifn c8 h
            refine rb_aload_n hC 0 dX11_down_59 rfl ?_
            refine rb_iconst (x := 4) hC dX11_down_60 (by decide) ?_
            obtain ⟨r23, s21, q22, h⟩ := rb_b2s h
            refine rb_callVi hC rb_VokX mv_X11_303 (xc_RP_refuse 4 σ _ _ q22) rb_obX0 rfl [.int 4] rfl rfl rfl ⟨Nat.le_of_ble_eq_true rfl, Nat.le_of_ble_eq_true rfl⟩ (Nat.le_of_ble_eq_true rfl) dX11_down_61 ?_
            cases h
            exact rb_iret hC dX11_down_64
        · replace h := rb_ifp c7 h
          refine rb_aload_n hC 0 dX11_down_40 rfl ?_
          refine rb_iconst (x := 2) hC dX11_down_41 (by decide) ?_
          obtain ⟨r26, s24, q25, h⟩ := rb_b2s h
          refine rb_callVi hC rb_VokX mv_X11_303 (xc_RP_refuse 2 σ _ _ q25) rb_obX0 rfl [.int 2] rfl rfl rfl ⟨Nat.le_of_ble_eq_true rfl, Nat.le_of_ble_eq_true rfl⟩ (Nat.le_of_ble_eq_true rfl) dX11_down_42 ?_
          cases h
          exact rb_iret hC dX11_down_45
      · replace h := rb_ifn c6 h
        refine rb_aload_n hC 0 dX11_down_24 rfl ?_
        refine rb_iconst (x := 1) hC dX11_down_25 (by decide) ?_
        obtain ⟨r29, s27, q28, h⟩ := rb_b2s h
        refine rb_callVi hC rb_VokX mv_X11_303 (xc_RP_refuse 1 σ _ _ q28) rb_obX0 rfl [.int 1] rfl rfl rfl ⟨Nat.le_of_ble_eq_true rfl, Nat.le_of_ble_eq_true rfl⟩ (Nat.le_of_ble_eq_true rfl) dX11_down_26 ?_
        cases h
        exact rb_iret hC dX11_down_29
  · replace h := rb_ifp c1 h
    refine rb_aload_n hC 0 dX11_down_7 rfl ?_
    refine rb_iconst (x := 0) hC dX11_down_8 (by decide) ?_
    obtain ⟨r32, s30, q31, h⟩ := rb_b2s h
    refine rb_callVi hC rb_VokX mv_X11_303 (xc_RP_refuse 0 σ _ _ q31) rb_obX0 rfl [.int 0] rfl rfl rfl ⟨Nat.le_of_ble_eq_true rfl, Nat.le_of_ble_eq_true rfl⟩ (Nat.le_of_ble_eq_true rfl) dX11_down_9 ?_
    cases h
    exact rb_iret hC dX11_down_12
theorem xc_RP_down (p0 : Int32) (σ : rb_St) (r : Int32) (σ9 : rb_St) (h : xf_RP_down p0 σ = some (r, σ9)) : rb_Con rb_vX yX11_down cX11_down 3 (some .int) 7 (fun w => [.ref (rb_ad w 0), .int p0]) σ (fun _ => (some (.int r))) σ9 := rb_Con.of (by decide +kernel) (fun _ => Nat.le_of_ble_eq_true rfl) (fun z w hC => xk_RP_down hC p0 σ r σ9 h)
theorem me_X11_draw : Cond.instanceMethod yX11_draw ∈ rb_tbl ∧ Cond.selects yX11_draw.cls yX11_draw yX11_draw ∈ rb_tbl ∧ Cond.initialized yX11_draw.cls ∈ rb_tbl ∧ Cond.code yX11_draw cX11_draw 2 (some .int) ∈ rb_tbl ∧ rb_pn yX11_draw 1 := ⟨rb_in (by decide +kernel) (by decide +kernel), rb_in (by decide +kernel) (by decide +kernel), rb_in (by decide +kernel) (by decide +kernel), rb_in (by decide +kernel) (by decide +kernel), by decide +kernel, by decide +kernel, by decide +kernel⟩
theorem mv_X11_323 : rb_MV RX11 323 yX11_draw cX11_draw 2 (some .int) 1 := ⟨rb_in (by decide +kernel) (by decide +kernel), me_X11_draw⟩
def xj_RP_years_91 (rc : Int32 → rb_St → Option (rb_St)) (x1 : Int32) (x4 : Int32) (u0 : Int32) (σ : rb_St) : Option (rb_St) := rb_b2 (xf_RP_takeBeat u0 σ) fun r20 s18 => rb_b2 (xf_RP_draw 10 s18) fun r23 s21 => if (xf_Green_wind s21) ≤ r23 then rc (x4 + 1) s21 else if (s21.1 18 1) ≤ 0 then rc (x4 + 1) s21 else rb_b1 (xf_Pole_undoingLetter 18 s21) fun r26 => rb_b2 (xf_RP_moveOn 18 r26 s21) fun r30 s28 => rc (x4 + 1) s28
set_option maxHeartbeats 4000000 in
set_option maxRecDepth 100000 in
theorem xu_RP_years_91 {z : rb_Z} {w : rb_Wd} {Q : State → Prop} (hC : rb_Cx z rb_vX w RX11 cX11_years 6 (some .int) 7)  (rc : Int32 → rb_St → Option (rb_St)) (x1 : Int32) (x4 : Int32) (u0 : Int32) (σ : rb_St) (σ9 : rb_St) (h : xj_RP_years_91 rc x1 x4 u0 σ = some σ9) (hrc : ∀ (b4 : Int32) (τ : rb_St), rc b4 τ = some σ9 → rb_At z rb_vX w 6 Q 43 [(0, .ref (rb_ad w 0)), (1, .int x1), (4, .int b4)] [] τ) (hE0 : rb_At z rb_vX w 6 Q 143 [(0, .ref (rb_ad w 0))] [] σ9) : rb_At z rb_vX w 6 Q 91 [(0, .ref (rb_ad w 0)), (1, .int x1), (4, .int x4)] [.int u0, .ref (rb_ad w 0)] σ := by
  unfold xj_RP_years_91 at h
  obtain ⟨r20, s18, q19, h⟩ := rb_b2s h
  refine rb_callVi hC rb_VokX mv_X11_313 (xc_RP_takeBeat u0 σ _ _ q19) rb_obX0 rfl [.int u0] rfl rfl rfl ⟨Nat.le_of_ble_eq_true rfl, Nat.le_of_ble_eq_true rfl⟩ (Nat.le_of_ble_eq_true rfl) dX11_years_91 ?_
  refine rb_pop hC dX11_years_94 rfl ?_
  refine rb_aload_n hC 0 dX11_years_95 rfl ?_
  refine rb_bipush (x := 10) hC dX11_years_96 (by decide) ?_
  obtain ⟨r23, s21, q22, h⟩ := rb_b2s h
  refine rb_callVi hC rb_VokX mv_X11_323 (xc_RP_draw 10 s18 _ _ q22) rb_obX0 rfl [.int 10] rfl rfl rfl ⟨Nat.le_of_ble_eq_true rfl, Nat.le_of_ble_eq_true rfl⟩ (Nat.le_of_ble_eq_true rfl) dX11_years_98 ?_
  refine rb_aload_n hC 0 dX11_years_101 rfl ?_
  refine rb_getR hC fr_X11_42_10 rb_obX0 rfl dX11_years_102 ?_
  refine rb_callVi hC rb_VokX mv_X11_185 (xc_Green_wind  s21 _ rfl) rb_obX15 rfl [] rfl rfl rfl ⟨Nat.le_of_ble_eq_true rfl, Nat.le_of_ble_eq_true rfl⟩ (Nat.le_of_ble_eq_true rfl) dX11_years_105 ?_
  refine rb_icmp_ge hC 137 dX11_years_108 (by decide) (fun c24 => ?_) (fun c24 => ?_)
  · replace h := rb_ifp c24 h
    refine rb_iinc hC 2 [(4, .int (x4 + 1)), (0, .ref (rb_ad w 0)), (1, .int x1)] dX11_years_137 rfl rfl (by decide) rfl ?_
    refine rb_goto hC 43 dX11_years_140 (by decide) ?_
    exact rb_sub [1, 2, 0] rfl (hrc (x4 + 1) s21 h)
  · replace h := rb_ifn c24 h
    refine rb_aload_n hC 0 dX11_years_111 rfl ?_
    refine rb_getR hC fr_X11_49_10 rb_obX0 rfl dX11_years_112 ?_
    refine rb_getI hC fr_X11_224_7 (rb_obPole rb_isPole18) rfl dX11_years_115 ?_
    refine rb_if_le hC 137 dX11_years_118 (by decide) (fun c25 => ?_) (fun c25 => ?_)
    · replace h := rb_ifp c25 h
      refine rb_iinc hC 2 [(4, .int (x4 + 1)), (0, .ref (rb_ad w 0)), (1, .int x1)] dX11_years_137 rfl rfl (by decide) rfl ?_
      refine rb_goto hC 43 dX11_years_140 (by decide) ?_
      exact rb_sub [1, 2, 0] rfl (hrc (x4 + 1) s21 h)
    · replace h := rb_ifn c25 h
      refine rb_aload_n hC 0 dX11_years_121 rfl ?_
      refine rb_aload_n hC 0 dX11_years_122 rfl ?_
      refine rb_getR hC fr_X11_49_10 rb_obX0 rfl dX11_years_123 ?_
      refine rb_aload_n hC 0 dX11_years_126 rfl ?_
      refine rb_getR hC fr_X11_49_10 rb_obX0 rfl dX11_years_127 ?_
      obtain ⟨r26, q27, h⟩ := rb_b1s h
      refine rb_callVi hC rb_VokX mv_X11_316 (xc_Pole_undoingLetter 18 rb_isPole18 s21 _ q27) (rb_obPole rb_isPole18) rfl [] rfl rfl rfl ⟨Nat.le_of_ble_eq_true rfl, Nat.le_of_ble_eq_true rfl⟩ (Nat.le_of_ble_eq_true rfl) dX11_years_130 ?_
      obtain ⟨r30, s28, q29, h⟩ := rb_b2s h
      refine rb_callVi hC rb_VokX mv_X11_297 (xc_RP_moveOn 18 rb_isPole18 r26 s21 _ _ q29) rb_obX0 rfl [.ref (rb_ad w 18), .int r26] rfl rfl rfl ⟨Nat.le_of_ble_eq_true rfl, Nat.le_of_ble_eq_true rfl⟩ (Nat.le_of_ble_eq_true rfl) dX11_years_133 ?_
      refine rb_pop hC dX11_years_136 rfl ?_
      refine rb_iinc hC 2 [(4, .int (x4 + 1)), (0, .ref (rb_ad w 0)), (1, .int x1)] dX11_years_137 rfl rfl (by decide) rfl ?_
      refine rb_goto hC 43 dX11_years_140 (by decide) ?_
      exact rb_sub [1, 2, 0] rfl (hrc (x4 + 1) s28 h)
def xl_RP_years_43 (x1 : Int32) : Nat → Int32 → rb_St → Option (rb_St)
  | 0, _, _ => none
  | n + 1, x4, σ => if x1 ≤ x4 then some σ else rb_b2 (xf_RP_draw (σ.1 15 2) σ) fun r10 s8 => rb_b2 (xf_RP_draw 2 s8) fun r13 s11 => rb_b2 (xf_RP_hindranceOf ((2 * r10) + r13) s11) fun r16 s14 => if r16 = 0 then xj_RP_years_91 (fun b4 τ => xl_RP_years_43 x1 n b4 τ) x1 x4 ((2 * r10) + r13) s14 else xj_RP_years_91 (fun b4 τ => xl_RP_years_43 x1 n b4 τ) x1 x4 20 s14
set_option maxHeartbeats 4000000 in
set_option maxRecDepth 100000 in
theorem xt_RP_years_43 {z : rb_Z} {w : rb_Wd} {Q : State → Prop} (hC : rb_Cx z rb_vX w RX11 cX11_years 6 (some .int) 7) (x1 : Int32) : ∀ (n : Nat) (x4 : Int32) (σ : rb_St) (σ9 : rb_St), xl_RP_years_43 x1 n x4 σ = some σ9 → rb_At z rb_vX w 6 Q 143 [(0, .ref (rb_ad w 0))] [] σ9 → rb_At z rb_vX w 6 Q 43 [(0, .ref (rb_ad w 0)), (1, .int x1), (4, .int x4)] [] σ := by
  intro n
  induction n with
  | zero =>
    intro x4 σ σ9 h hE0
    cases h
  | succ n ih =>
    intro x4 σ σ9 h hE0
    rw [xl_RP_years_43] at h
    refine rb_iload hC 2 dX11_years_43 rfl ?_
    refine rb_iload_n hC 1 dX11_years_45 rfl ?_
    refine rb_icmp_ge hC 143 dX11_years_46 (by decide) (fun c7 => ?_) (fun c7 => ?_)
    · replace h := rb_ifp c7 h
      cases h
      exact rb_sub [0] rfl (hE0)
    · replace h := rb_ifn c7 h
      refine rb_iconst (x := 2) hC dX11_years_49 (by decide) ?_
      refine rb_aload_n hC 0 dX11_years_50 rfl ?_
      refine rb_aload_n hC 0 dX11_years_51 rfl ?_
      refine rb_getR hC fr_X11_42_10 rb_obX0 rfl dX11_years_52 ?_
      refine rb_getI hC fr_X11_155_3 rb_obX15 rfl dX11_years_55 ?_
      obtain ⟨r10, s8, q9, h⟩ := rb_b2s h
      refine rb_callVi hC rb_VokX mv_X11_323 (xc_RP_draw (σ.1 15 2) σ _ _ q9) rb_obX0 rfl [.int (σ.1 15 2)] rfl rfl rfl ⟨Nat.le_of_ble_eq_true rfl, Nat.le_of_ble_eq_true rfl⟩ (Nat.le_of_ble_eq_true rfl) dX11_years_58 ?_
      refine rb_imul hC dX11_years_61 ?_
      refine rb_istore hC [(5, .int (2 * r10)), (0, .ref (rb_ad w 0)), (1, .int x1), (4, .int x4)] dX11_years_62 (by decide) rfl ?_
      refine rb_iload hC 0 dX11_years_64 rfl ?_
      refine rb_aload_n hC 1 dX11_years_66 rfl ?_
      refine rb_iconst (x := 2) hC dX11_years_67 (by decide) ?_
      obtain ⟨r13, s11, q12, h⟩ := rb_b2s h
      refine rb_callVi hC rb_VokX mv_X11_323 (xc_RP_draw 2 s8 _ _ q12) rb_obX0 rfl [.int 2] rfl rfl rfl ⟨Nat.le_of_ble_eq_true rfl, Nat.le_of_ble_eq_true rfl⟩ (Nat.le_of_ble_eq_true rfl) dX11_years_68 ?_
      refine rb_iadd hC dX11_years_71 ?_
      refine rb_istore hC [(5, .int ((2 * r10) + r13)), (0, .ref (rb_ad w 0)), (1, .int x1), (4, .int x4)] dX11_years_72 (by decide) rfl ?_
      refine rb_aload_n hC 1 dX11_years_74 rfl ?_
      refine rb_aload_n hC 1 dX11_years_75 rfl ?_
      refine rb_iload hC 0 dX11_years_76 rfl ?_
      obtain ⟨r16, s14, q15, h⟩ := rb_b2s h
      refine rb_callVi hC rb_VokX mv_X11_310 (xc_RP_hindranceOf ((2 * r10) + r13) s11 _ _ q15) rb_obX0 rfl [.int ((2 * r10) + r13)] rfl rfl rfl ⟨Nat.le_of_ble_eq_true rfl, Nat.le_of_ble_eq_true rfl⟩ (Nat.le_of_ble_eq_true rfl) dX11_years_78 ?_
      refine rb_if_ne hC 89 dX11_years_81 (by decide) (fun c17 => ?_) (fun c17 => ?_)
      · replace h := rb_ifn c17 h
        refine rb_bipush (x := 20) hC dX11_years_89 (by decide) ?_
        exact rb_sub [1, 2, 3] rfl (xu_RP_years_91 hC (fun b4 τ => xl_RP_years_43 x1 n b4 τ) x1 x4 20 s14 _ h (fun b4 τ hq => ih b4 τ _ hq hE0) hE0)
      · replace h := rb_ifp c17 h
        refine rb_iload hC 0 dX11_years_84 rfl ?_
        refine rb_goto hC 91 dX11_years_86 (by decide) ?_
        exact rb_sub [1, 2, 3] rfl (xu_RP_years_91 hC (fun b4 τ => xl_RP_years_43 x1 n b4 τ) x1 x4 ((2 * r10) + r13) s14 _ h (fun b4 τ hq => ih b4 τ _ hq hE0) hE0)
def xf_RP_years (p0 : Int32) (p1 : Int64) (σ : rb_St) : Option (Int32 × rb_St) := if (xf_RP_hasGreen σ) = 0 then some ((-1), σ) else if p0 < 1 then some ((-1), σ) else if 60 < p0 then some ((-1), σ) else if ((σ.1 18 3) + p0) ≤ 999 then rb_lt (rb_sL σ p1) (fun s5 => rb_b1 (xl_RP_years_43 p0 rb_FU 0 s5) fun s31 => some (s31.1 18 3, s31)) else some ((-1), σ)
set_option maxHeartbeats 4000000 in
set_option maxRecDepth 100000 in
theorem xk_RP_years {z : rb_Z} {w : rb_Wd} (hC : rb_Cx z rb_vX w RX11 cX11_years 6 (some .int) 7) (p0 : Int32) (p1 : Int64) (σ : rb_St) (r : Int32) (σ9 : rb_St) (h : xf_RP_years p0 p1 σ = some (r, σ9)) : rb_At z rb_vX w 6 (rb_Q z rb_vX w (some (.int r)) σ9) 0 [(0, .ref (rb_ad w 0)), (1, .int p0), (2, .long p1)] [] σ := by
  unfold xf_RP_years at h
  refine rb_aload_n hC 0 dX11_years_0 rfl ?_
  refine rb_callVi hC rb_VokX mv_X11_176 (xc_RP_hasGreen  σ _ rfl) rb_obX0 rfl [] rfl rfl rfl ⟨Nat.le_of_ble_eq_true rfl, Nat.le_of_ble_eq_true rfl⟩ (Nat.le_of_ble_eq_true rfl) dX11_years_1 ?_
  refine rb_if_eq hC 33 dX11_years_4 (by decide) (fun c1 => ?_) (fun c1 => ?_)
  · replace h := rb_ifp c1 h
    refine rb_iconst (x := (-1)) hC dX11_years_33 (by decide) ?_
    cases h
    exact rb_iret hC dX11_years_34
  · replace h := rb_ifn c1 h
    refine rb_iload_n hC 1 dX11_years_7 rfl ?_
    refine rb_iconst (x := 1) hC dX11_years_8 (by decide) ?_
    refine rb_icmp_lt hC 33 dX11_years_9 (by decide) (fun c2 => ?_) (fun c2 => ?_)
    · replace h := rb_ifp c2 h
      refine rb_iconst (x := (-1)) hC dX11_years_33 (by decide) ?_
      cases h
      exact rb_iret hC dX11_years_34
    · replace h := rb_ifn c2 h
      refine rb_iload_n hC 1 dX11_years_12 rfl ?_
      refine rb_bipush (x := 60) hC dX11_years_13 (by decide) ?_
      refine rb_icmp_gt hC 33 dX11_years_15 (by decide) (fun c3 => ?_) (fun c3 => ?_)
      · replace h := rb_ifp c3 h
        refine rb_iconst (x := (-1)) hC dX11_years_33 (by decide) ?_
        cases h
        exact rb_iret hC dX11_years_34
      · replace h := rb_ifn c3 h
        refine rb_aload_n hC 0 dX11_years_18 rfl ?_
        refine rb_getR hC fr_X11_49_10 rb_obX0 rfl dX11_years_19 ?_
        refine rb_getI hC fr_X11_250_7 (rb_obPole rb_isPole18) rfl dX11_years_22 ?_
        refine rb_iload_n hC 1 dX11_years_25 rfl ?_
        refine rb_iadd hC dX11_years_26 ?_
        refine rb_sipush (x := 999) hC dX11_years_27 (by decide) ?_
        refine rb_icmp_le hC 35 dX11_years_30 (by decide) (fun c4 => ?_) (fun c4 => ?_)
        · replace h := rb_ifp c4 h
          refine rb_aload_n hC 0 dX11_years_35 rfl ?_
          refine rb_lload_n hC 2 dX11_years_36 rfl ?_
          refine rb_putJ hC fr_X11_319_10 ft_10_19 rb_obX0 rfl (rb_huOf rfl) rb_noX dX11_years_37 ?_
          obtain ⟨s5, e6, h⟩ := rb_ltE h
          refine rb_nmS e6 ?_
          refine rb_iconst (x := 0) hC dX11_years_40 (by decide) ?_
          refine rb_istore hC [(4, .int 0), (0, .ref (rb_ad w 0)), (1, .int p0), (2, .long p1)] dX11_years_41 (by decide) rfl ?_
          obtain ⟨s31, q32, h⟩ := rb_b1s h
          refine rb_sub (lv2 := [(0, .ref (rb_ad w 0)), (1, .int p0), (4, .int 0)]) [1, 2, 0] rfl ?_
          refine xt_RP_years_43 hC p0 rb_FU 0 s5 _ q32 ?_
          refine rb_aload_n hC 0 dX11_years_143 rfl ?_
          refine rb_getR hC fr_X11_49_10 rb_obX0 rfl dX11_years_144 ?_
          refine rb_getI hC fr_X11_250_7 (rb_obPole rb_isPole18) rfl dX11_years_147 ?_
          cases h
          exact rb_iret hC dX11_years_150
        · replace h := rb_ifn c4 h
          refine rb_iconst (x := (-1)) hC dX11_years_33 (by decide) ?_
          cases h
          exact rb_iret hC dX11_years_34
theorem xc_RP_years (p0 : Int32) (p1 : Int64) (σ : rb_St) (r : Int32) (σ9 : rb_St) (h : xf_RP_years p0 p1 σ = some (r, σ9)) : rb_Con rb_vX yX11_years cX11_years 6 (some .int) 7 (fun w => [.ref (rb_ad w 0), .int p0, .long p1]) σ (fun _ => (some (.int r))) σ9 := rb_Con.of (by decide +kernel) (fun _ => Nat.le_of_ble_eq_true rfl) (fun z w hC => xk_RP_years hC p0 p1 σ r σ9 h)
def xf_RP_takes (p0 : Int32) (p1 : Int32) (σ : rb_St) : Option (Int32 × rb_St) := if (xf_Pole_hasPlace 18 p0 σ) = 0 then some ((-1), σ) else rb_b2 (xf_RP_priceOn 18 (xf_RP_letterOf p0 p1 σ) σ) fun r4 s2 => some (r4, s2)
set_option maxHeartbeats 4000000 in
set_option maxRecDepth 100000 in
theorem xk_RP_takes {z : rb_Z} {w : rb_Wd} (hC : rb_Cx z rb_vX w RX11 cX11_takes 3 (some .int) 5) (p0 : Int32) (p1 : Int32) (σ : rb_St) (r : Int32) (σ9 : rb_St) (h : xf_RP_takes p0 p1 σ = some (r, σ9)) : rb_At z rb_vX w 3 (rb_Q z rb_vX w (some (.int r)) σ9) 0 [(0, .ref (rb_ad w 0)), (1, .int p0), (2, .int p1)] [] σ := by
  unfold xf_RP_takes at h
  refine rb_aload_n hC 0 dX11_takes_0 rfl ?_
  refine rb_getR hC fr_X11_49_10 rb_obX0 rfl dX11_takes_1 ?_
  refine rb_iload_n hC 1 dX11_takes_4 rfl ?_
  refine rb_callVi hC rb_VokX mv_X11_211 (xc_Pole_hasPlace 18 rb_isPole18 p0 σ _ rfl) (rb_obPole rb_isPole18) rfl [.int p0] rfl rfl rfl ⟨Nat.le_of_ble_eq_true rfl, Nat.le_of_ble_eq_true rfl⟩ (Nat.le_of_ble_eq_true rfl) dX11_takes_5 ?_
  refine rb_if_eq hC 27 dX11_takes_8 (by decide) (fun c1 => ?_) (fun c1 => ?_)
  · replace h := rb_ifp c1 h
    refine rb_iconst (x := (-1)) hC dX11_takes_27 (by decide) ?_
    cases h
    exact rb_iret hC dX11_takes_28
  · replace h := rb_ifn c1 h
    refine rb_aload_n hC 0 dX11_takes_11 rfl ?_
    refine rb_aload_n hC 0 dX11_takes_12 rfl ?_
    refine rb_getR hC fr_X11_49_10 rb_obX0 rfl dX11_takes_13 ?_
    refine rb_iload_n hC 1 dX11_takes_16 rfl ?_
    refine rb_iload_n hC 2 dX11_takes_17 rfl ?_
    refine rb_callSi hC rb_VokX mv_X11_306 (xc_RP_letterOf p0 p1 σ _ rfl) [.int p0, .int p1] rfl rfl rfl ⟨Nat.le_of_ble_eq_true rfl, Nat.le_of_ble_eq_true rfl⟩ (Nat.le_of_ble_eq_true rfl) dX11_takes_18 ?_
    obtain ⟨r4, s2, q3, h⟩ := rb_b2s h
    refine rb_callVi hC rb_VokX mv_X11_279 (xc_RP_priceOn 18 rb_isPole18 (xf_RP_letterOf p0 p1 σ) σ _ _ q3) rb_obX0 rfl [.ref (rb_ad w 18), .int (xf_RP_letterOf p0 p1 σ)] rfl rfl rfl ⟨Nat.le_of_ble_eq_true rfl, Nat.le_of_ble_eq_true rfl⟩ (Nat.le_of_ble_eq_true rfl) dX11_takes_21 ?_
    refine rb_goto hC 28 dX11_takes_24 (by decide) ?_
    cases h
    exact rb_iret hC dX11_takes_28
theorem xc_RP_takes (p0 : Int32) (p1 : Int32) (σ : rb_St) (r : Int32) (σ9 : rb_St) (h : xf_RP_takes p0 p1 σ = some (r, σ9)) : rb_Con rb_vX yX11_takes cX11_takes 3 (some .int) 5 (fun w => [.ref (rb_ad w 0), .int p0, .int p1]) σ (fun _ => (some (.int r))) σ9 := rb_Con.of (by decide +kernel) (fun _ => Nat.le_of_ble_eq_true rfl) (fun z w hC => xk_RP_takes hC p0 p1 σ r σ9 h)
theorem me_X11_foremost : Cond.instanceMethod yX11_foremost ∈ rb_tbl ∧ Cond.selects yX11_foremost.cls yX11_foremost yX11_foremost ∈ rb_tbl ∧ Cond.initialized yX11_foremost.cls ∈ rb_tbl ∧ Cond.code yX11_foremost cX11_foremost 4 (some .int) ∈ rb_tbl ∧ rb_pn yX11_foremost 1 := ⟨rb_in (by decide +kernel) (by decide +kernel), rb_in (by decide +kernel) (by decide +kernel), rb_in (by decide +kernel) (by decide +kernel), rb_in (by decide +kernel) (by decide +kernel), by decide +kernel, by decide +kernel, by decide +kernel⟩
theorem mv_X11_347 : rb_MV RX11 347 yX11_foremost cX11_foremost 4 (some .int) 1 := ⟨rb_in (by decide +kernel) (by decide +kernel), me_X11_foremost⟩
theorem me_X7_depth : Cond.instanceMethod yX7_depth ∈ rb_tbl ∧ Cond.selects yX7_depth.cls yX7_depth yX7_depth ∈ rb_tbl ∧ Cond.initialized yX7_depth.cls ∈ rb_tbl ∧ Cond.code yX7_depth cX7_depth 3 (some .int) ∈ rb_tbl ∧ rb_pn yX7_depth 0 := ⟨rb_in (by decide +kernel) (by decide +kernel), rb_in (by decide +kernel) (by decide +kernel), rb_in (by decide +kernel) (by decide +kernel), rb_in (by decide +kernel) (by decide +kernel), by decide +kernel, by decide +kernel, by decide +kernel⟩
theorem mv_X11_350 : rb_MV RX11 350 yX7_depth cX7_depth 3 (some .int) 0 := ⟨rb_in (by decide +kernel) (by decide +kernel), me_X7_depth⟩
theorem me_X7_orderOfAll : Cond.instanceMethod yX7_orderOfAll ∈ rb_tbl ∧ Cond.selects yX7_orderOfAll.cls yX7_orderOfAll yX7_orderOfAll ∈ rb_tbl ∧ Cond.initialized yX7_orderOfAll.cls ∈ rb_tbl ∧ Cond.code yX7_orderOfAll cX7_orderOfAll 3 (some .int) ∈ rb_tbl ∧ rb_pn yX7_orderOfAll 0 := ⟨rb_in (by decide +kernel) (by decide +kernel), rb_in (by decide +kernel) (by decide +kernel), rb_in (by decide +kernel) (by decide +kernel), rb_in (by decide +kernel) (by decide +kernel), by decide +kernel, by decide +kernel, by decide +kernel⟩
theorem mv_X11_353 : rb_MV RX11 353 yX7_orderOfAll cX7_orderOfAll 3 (some .int) 0 := ⟨rb_in (by decide +kernel) (by decide +kernel), me_X7_orderOfAll⟩
theorem mv_X11_356 : rb_MV RX11 356 yX7_looseLetters cX7_looseLetters 5 (some .int) 0 := ⟨rb_in (by decide +kernel) (by decide +kernel), me_X7_looseLetters⟩
theorem me_X7_firstLetters : Cond.instanceMethod yX7_firstLetters ∈ rb_tbl ∧ Cond.selects yX7_firstLetters.cls yX7_firstLetters yX7_firstLetters ∈ rb_tbl ∧ Cond.initialized yX7_firstLetters.cls ∈ rb_tbl ∧ Cond.code yX7_firstLetters cX7_firstLetters 5 (some .int) ∈ rb_tbl ∧ rb_pn yX7_firstLetters 0 := ⟨rb_in (by decide +kernel) (by decide +kernel), rb_in (by decide +kernel) (by decide +kernel), rb_in (by decide +kernel) (by decide +kernel), rb_in (by decide +kernel) (by decide +kernel), by decide +kernel, by decide +kernel, by decide +kernel⟩
theorem mv_X11_359 : rb_MV RX11 359 yX7_firstLetters cX7_firstLetters 5 (some .int) 0 := ⟨rb_in (by decide +kernel) (by decide +kernel), me_X7_firstLetters⟩
theorem me_X7_freeDancers : Cond.instanceMethod yX7_freeDancers ∈ rb_tbl ∧ Cond.selects yX7_freeDancers.cls yX7_freeDancers yX7_freeDancers ∈ rb_tbl ∧ Cond.initialized yX7_freeDancers.cls ∈ rb_tbl ∧ Cond.code yX7_freeDancers cX7_freeDancers 3 (some .int) ∈ rb_tbl ∧ rb_pn yX7_freeDancers 0 := ⟨rb_in (by decide +kernel) (by decide +kernel), rb_in (by decide +kernel) (by decide +kernel), rb_in (by decide +kernel) (by decide +kernel), rb_in (by decide +kernel) (by decide +kernel), by decide +kernel, by decide +kernel, by decide +kernel⟩
theorem mv_X11_362 : rb_MV RX11 362 yX7_freeDancers cX7_freeDancers 3 (some .int) 0 := ⟨rb_in (by decide +kernel) (by decide +kernel), me_X7_freeDancers⟩
theorem me_X11_changes : Cond.instanceMethod yX11_changes ∈ rb_tbl ∧ Cond.selects yX11_changes.cls yX11_changes yX11_changes ∈ rb_tbl ∧ Cond.initialized yX11_changes.cls ∈ rb_tbl ∧ Cond.code yX11_changes cX11_changes 4 (some .int) ∈ rb_tbl ∧ rb_pn yX11_changes 0 := ⟨rb_in (by decide +kernel) (by decide +kernel), rb_in (by decide +kernel) (by decide +kernel), rb_in (by decide +kernel) (by decide +kernel), rb_in (by decide +kernel) (by decide +kernel), by decide +kernel, by decide +kernel, by decide +kernel⟩
theorem mv_X11_365 : rb_MV RX11 365 yX11_changes cX11_changes 4 (some .int) 0 := ⟨rb_in (by decide +kernel) (by decide +kernel), me_X11_changes⟩
theorem me_X7_twist : Cond.instanceMethod yX7_twist ∈ rb_tbl ∧ Cond.selects yX7_twist.cls yX7_twist yX7_twist ∈ rb_tbl ∧ Cond.initialized yX7_twist.cls ∈ rb_tbl ∧ Cond.code yX7_twist cX7_twist 3 (some .int) ∈ rb_tbl ∧ rb_pn yX7_twist 0 := ⟨rb_in (by decide +kernel) (by decide +kernel), rb_in (by decide +kernel) (by decide +kernel), rb_in (by decide +kernel) (by decide +kernel), rb_in (by decide +kernel) (by decide +kernel), by decide +kernel, by decide +kernel, by decide +kernel⟩
theorem mv_X11_368 : rb_MV RX11 368 yX7_twist cX7_twist 3 (some .int) 0 := ⟨rb_in (by decide +kernel) (by decide +kernel), me_X7_twist⟩
theorem me_X7_atHome : Cond.instanceMethod yX7_atHome ∈ rb_tbl ∧ Cond.selects yX7_atHome.cls yX7_atHome yX7_atHome ∈ rb_tbl ∧ Cond.initialized yX7_atHome.cls ∈ rb_tbl ∧ Cond.code yX7_atHome cX7_atHome 3 (some .int) ∈ rb_tbl ∧ rb_pn yX7_atHome 0 := ⟨rb_in (by decide +kernel) (by decide +kernel), rb_in (by decide +kernel) (by decide +kernel), rb_in (by decide +kernel) (by decide +kernel), rb_in (by decide +kernel) (by decide +kernel), by decide +kernel, by decide +kernel, by decide +kernel⟩
theorem mv_X11_371 : rb_MV RX11 371 yX7_atHome cX7_atHome 3 (some .int) 0 := ⟨rb_in (by decide +kernel) (by decide +kernel), me_X7_atHome⟩
def xf_RP_most (p0 : Int32) (σ : rb_St) : Option (Int32 × rb_St) := if (xf_RP_hasGreen σ) = 0 then some ((-1000000), σ) else if p0 = 0 then rb_b1 (xf_RP_foremost p0 σ) fun r2 => some (r2, σ) else if p0 = 1 then rb_b1 (xf_RP_foremost p0 σ) fun r4 => some (r4, σ) else if p0 = 2 then rb_b1 (xf_RP_foremost p0 σ) fun r6 => some (r6, σ) else if p0 = 3 then rb_b1 (xf_RP_foremost p0 σ) fun r8 => some (r8, σ) else if p0 = 4 then rb_b1 (xf_Pole_depth 18 σ) fun r10 => some (r10, σ) else if p0 = 5 then rb_b1 (xf_Pole_orderOfAll 18 σ) fun r12 => some (r12, σ) else if p0 = 6 then rb_b1 (xf_Pole_looseLetters 18 σ) fun r14 => some (r14, σ) else if p0 = 7 then rb_b1 (xf_Pole_firstLetters 18 σ) fun r16 => some (r16, σ) else if p0 = 8 then rb_b1 (xf_Pole_freeDancers 18 σ) fun r18 => some (r18, σ) else if p0 = 9 then rb_b2 (xf_RP_changes σ) fun r22 s20 => some (r22, s20) else if p0 = 10 then rb_b1 (xf_Pole_twist 18 σ) fun r23 => some (r23, σ) else if p0 = 11 then rb_b1 (xf_Pole_takenOfAll 18 σ) fun r25 => some (r25, σ) else if p0 = 12 then rb_b1 (xf_Pole_atHome 18 σ) fun r27 => some (r27, σ) else some ((-1000000), σ)
set_option maxHeartbeats 4000000 in
set_option maxRecDepth 100000 in
theorem xk_RP_most {z : rb_Z} {w : rb_Wd} (hC : rb_Cx z rb_vX w RX11 cX11_most 2 (some .int) 6) (p0 : Int32) (σ : rb_St) (r : Int32) (σ9 : rb_St) (h : xf_RP_most p0 σ = some (r, σ9)) : rb_At z rb_vX w 2 (rb_Q z rb_vX w (some (.int r)) σ9) 0 [(0, .ref (rb_ad w 0)), (1, .int p0)] [] σ := by
  unfold xf_RP_most at h
  refine rb_aload_n hC 0 dX11_most_0 rfl ?_
  refine rb_callVi hC rb_VokX mv_X11_176 (xc_RP_hasGreen  σ _ rfl) rb_obX0 rfl [] rfl rfl rfl ⟨Nat.le_of_ble_eq_true rfl, Nat.le_of_ble_eq_true rfl⟩ (Nat.le_of_ble_eq_true rfl) dX11_most_1 ?_
  refine rb_if_ne hC 10 dX11_most_4 (by decide) (fun c1 => ?_) (fun c1 => ?_)
  · replace h := rb_ifn c1 h
    refine rb_iload_n hC 1 dX11_most_10 rfl ?_
    by_cases c11_0 : p0 = 0
    · replace h := rb_ifp c11_0 h
      refine rb_tableIn hC 76 dX11_most_11 (by rw [c11_0]; decide) (by rw [c11_0]; decide) (by rw [c11_0]; rfl) (by decide) ?_
      refine rb_aload_n hC 0 dX11_most_76 rfl ?_
      refine rb_iload_n hC 1 dX11_most_77 rfl ?_
      obtain ⟨r2, q3, h⟩ := rb_b1s h
      refine rb_callVi hC rb_VokX mv_X11_347 (xc_RP_foremost p0 σ _ q3) rb_obX0 rfl [.int p0] rfl rfl rfl ⟨Nat.le_of_ble_eq_true rfl, Nat.le_of_ble_eq_true rfl⟩ (Nat.le_of_ble_eq_true rfl) dX11_most_78 ?_
      cases h
      exact rb_iret hC dX11_most_81
    · replace h := rb_ifn c11_0 h
      by_cases c11_1 : p0 = 1
      · replace h := rb_ifp c11_1 h
        refine rb_tableIn hC 76 dX11_most_11 (by rw [c11_1]; decide) (by rw [c11_1]; decide) (by rw [c11_1]; rfl) (by decide) ?_
        refine rb_aload_n hC 0 dX11_most_76 rfl ?_
        refine rb_iload_n hC 1 dX11_most_77 rfl ?_
        obtain ⟨r4, q5, h⟩ := rb_b1s h
        refine rb_callVi hC rb_VokX mv_X11_347 (xc_RP_foremost p0 σ _ q5) rb_obX0 rfl [.int p0] rfl rfl rfl ⟨Nat.le_of_ble_eq_true rfl, Nat.le_of_ble_eq_true rfl⟩ (Nat.le_of_ble_eq_true rfl) dX11_most_78 ?_
        cases h
        exact rb_iret hC dX11_most_81
      · replace h := rb_ifn c11_1 h
        by_cases c11_2 : p0 = 2
        · replace h := rb_ifp c11_2 h
          refine rb_tableIn hC 76 dX11_most_11 (by rw [c11_2]; decide) (by rw [c11_2]; decide) (by rw [c11_2]; rfl) (by decide) ?_
          refine rb_aload_n hC 0 dX11_most_76 rfl ?_
          refine rb_iload_n hC 1 dX11_most_77 rfl ?_
          obtain ⟨r6, q7, h⟩ := rb_b1s h
          refine rb_callVi hC rb_VokX mv_X11_347 (xc_RP_foremost p0 σ _ q7) rb_obX0 rfl [.int p0] rfl rfl rfl ⟨Nat.le_of_ble_eq_true rfl, Nat.le_of_ble_eq_true rfl⟩ (Nat.le_of_ble_eq_true rfl) dX11_most_78 ?_
          cases h
          exact rb_iret hC dX11_most_81
        · replace h := rb_ifn c11_2 h
          by_cases c11_3 : p0 = 3
          · replace h := rb_ifp c11_3 h
            refine rb_tableIn hC 76 dX11_most_11 (by rw [c11_3]; decide) (by rw [c11_3]; decide) (by rw [c11_3]; rfl) (by decide) ?_
            refine rb_aload_n hC 0 dX11_most_76 rfl ?_
            refine rb_iload_n hC 1 dX11_most_77 rfl ?_
            obtain ⟨r8, q9, h⟩ := rb_b1s h
            refine rb_callVi hC rb_VokX mv_X11_347 (xc_RP_foremost p0 σ _ q9) rb_obX0 rfl [.int p0] rfl rfl rfl ⟨Nat.le_of_ble_eq_true rfl, Nat.le_of_ble_eq_true rfl⟩ (Nat.le_of_ble_eq_true rfl) dX11_most_78 ?_
            cases h
            exact rb_iret hC dX11_most_81
          · replace h := rb_ifn c11_3 h
            by_cases c11_4 : p0 = 4
            · replace h := rb_ifp c11_4 h
              refine rb_tableIn hC 82 dX11_most_11 (by rw [c11_4]; decide) (by rw [c11_4]; decide) (by rw [c11_4]; rfl) (by decide) ?_
              refine rb_aload_n hC 0 dX11_most_82 rfl ?_
              refine rb_getR hC fr_X11_49_10 rb_obX0 rfl dX11_most_83 ?_
              obtain ⟨r10, q11, h⟩ := rb_b1s h
              refine rb_callVi hC rb_VokX mv_X11_350 (xc_Pole_depth 18 rb_isPole18 σ _ q11) (rb_obPole rb_isPole18) rfl [] rfl rfl rfl ⟨Nat.le_of_ble_eq_true rfl, Nat.le_of_ble_eq_true rfl⟩ (Nat.le_of_ble_eq_true rfl) dX11_most_86 ?_
              cases h
              exact rb_iret hC dX11_most_89
            · replace h := rb_ifn c11_4 h
              by_cases c11_5 : p0 = 5
              · replace h := rb_ifp c11_5 h
                refine rb_tableIn hC 90 dX11_most_11 (by rw [c11_5]; decide) (by rw [c11_5]; decide) (by rw [c11_5]; rfl) (by decide) ?_
                refine rb_aload_n hC 0 dX11_most_90 rfl ?_
                refine rb_getR hC fr_X11_49_10 rb_obX0 rfl dX11_most_91 ?_
                obtain ⟨r12, q13, h⟩ := rb_b1s h
                refine rb_callVi hC rb_VokX mv_X11_353 (xc_Pole_orderOfAll 18 rb_isPole18 σ _ q13) (rb_obPole rb_isPole18) rfl [] rfl rfl rfl ⟨Nat.le_of_ble_eq_true rfl, Nat.le_of_ble_eq_true rfl⟩ (Nat.le_of_ble_eq_true rfl) dX11_most_94 ?_
                cases h
                exact rb_iret hC dX11_most_97
              · replace h := rb_ifn c11_5 h
                by_cases c11_6 : p0 = 6
                · replace h := rb_ifp c11_6 h
                  refine rb_tableIn hC 98 dX11_most_11 (by rw [c11_6]; decide) (by rw [c11_6]; decide) (by rw [c11_6]; rfl) (by decide) ?_
                  refine rb_aload_n hC 0 dX11_most_98 rfl ?_
                  refine rb_getR hC fr_X11_49_10 rb_obX0 rfl dX11_most_99 ?_
                  obtain ⟨r14, q15, h⟩ := rb_b1s h
                  refine rb_callVi hC rb_VokX mv_X11_356 (xc_Pole_looseLetters 18 rb_isPole18 σ _ q15) (rb_obPole rb_isPole18) rfl [] rfl rfl rfl ⟨Nat.le_of_ble_eq_true rfl, Nat.le_of_ble_eq_true rfl⟩ (Nat.le_of_ble_eq_true rfl) dX11_most_102 ?_
                  cases h
                  exact rb_iret hC dX11_most_105
                · replace h := rb_ifn c11_6 h
                  by_cases c11_7 : p0 = 7
                  · replace h := rb_ifp c11_7 h
                    refine rb_tableIn hC 106 dX11_most_11 (by rw [c11_7]; decide) (by rw [c11_7]; decide) (by rw [c11_7]; rfl) (by decide) ?_
                    refine rb_aload_n hC 0 dX11_most_106 rfl ?_
                    refine rb_getR hC fr_X11_49_10 rb_obX0 rfl dX11_most_107 ?_
                    obtain ⟨r16, q17, h⟩ := rb_b1s h
                    refine rb_callVi hC rb_VokX mv_X11_359 (xc_Pole_firstLetters 18 rb_isPole18 σ _ q17) (rb_obPole rb_isPole18) rfl [] rfl rfl rfl ⟨Nat.le_of_ble_eq_true rfl, Nat.le_of_ble_eq_true rfl⟩ (Nat.le_of_ble_eq_true rfl) dX11_most_110 ?_
                    cases h
                    exact rb_iret hC dX11_most_113
                  · replace h := rb_ifn c11_7 h
                    by_cases c11_8 : p0 = 8
                    · replace h := rb_ifp c11_8 h
                      refine rb_tableIn hC 114 dX11_most_11 (by rw [c11_8]; decide) (by rw [c11_8]; decide) (by rw [c11_8]; rfl) (by decide) ?_
                      refine rb_aload_n hC 0 dX11_most_114 rfl ?_
                      refine rb_getR hC fr_X11_49_10 rb_obX0 rfl dX11_most_115 ?_
                      obtain ⟨r18, q19, h⟩ := rb_b1s h
                      refine rb_callVi hC rb_VokX mv_X11_362 (xc_Pole_freeDancers 18 rb_isPole18 σ _ q19) (rb_obPole rb_isPole18) rfl [] rfl rfl rfl ⟨Nat.le_of_ble_eq_true rfl, Nat.le_of_ble_eq_true rfl⟩ (Nat.le_of_ble_eq_true rfl) dX11_most_118 ?_
                      cases h
                      exact rb_iret hC dX11_most_121
                    · replace h := rb_ifn c11_8 h
                      by_cases c11_9 : p0 = 9
                      · replace h := rb_ifp c11_9 h
                        refine rb_tableIn hC 122 dX11_most_11 (by rw [c11_9]; decide) (by rw [c11_9]; decide) (by rw [c11_9]; rfl) (by decide) ?_
                        refine rb_aload_n hC 0 dX11_most_122 rfl ?_
                        obtain ⟨r22, s20, q21, h⟩ := rb_b2s h
                        refine rb_callVi hC rb_VokX mv_X11_365 (xc_RP_changes  σ _ _ q21) rb_obX0 rfl [] rfl rfl rfl ⟨Nat.le_of_ble_eq_true rfl, Nat.le_of_ble_eq_true rfl⟩ (Nat.le_of_ble_eq_true rfl) dX11_most_123 ?_
                        cases h
                        exact rb_iret hC dX11_most_126
                      · replace h := rb_ifn c11_9 h
                        by_cases c11_10 : p0 = 10
                        · replace h := rb_ifp c11_10 h
                          refine rb_tableIn hC 127 dX11_most_11 (by rw [c11_10]; decide) (by rw [c11_10]; decide) (by rw [c11_10]; rfl) (by decide) ?_
                          refine rb_aload_n hC 0 dX11_most_127 rfl ?_
                          refine rb_getR hC fr_X11_49_10 rb_obX0 rfl dX11_most_128 ?_
                          obtain ⟨r23, q24, h⟩ := rb_b1s h
                          refine rb_callVi hC rb_VokX mv_X11_368 (xc_Pole_twist 18 rb_isPole18 σ _ q24) (rb_obPole rb_isPole18) rfl [] rfl rfl rfl ⟨Nat.le_of_ble_eq_true rfl, Nat.le_of_ble_eq_true rfl⟩ (Nat.le_of_ble_eq_true rfl) dX11_most_131 ?_
                          cases h
                          exact rb_iret hC dX11_most_134
                        · replace h := rb_ifn c11_10 h
                          by_cases c11_11 : p0 = 11
                          · replace h := rb_ifp c11_11 h
                            refine rb_tableIn hC 135 dX11_most_11 (by rw [c11_11]; decide) (by rw [c11_11]; decide) (by rw [c11_11]; rfl) (by decide) ?_
                            refine rb_aload_n hC 0 dX11_most_135 rfl ?_
                            refine rb_getR hC fr_X11_49_10 rb_obX0 rfl dX11_most_136 ?_
                            obtain ⟨r25, q26, h⟩ := rb_b1s h
                            refine rb_callVi hC rb_VokX mv_X11_341 (xc_Pole_takenOfAll 18 rb_isPole18 σ _ q26) (rb_obPole rb_isPole18) rfl [] rfl rfl rfl ⟨Nat.le_of_ble_eq_true rfl, Nat.le_of_ble_eq_true rfl⟩ (Nat.le_of_ble_eq_true rfl) dX11_most_139 ?_
                            cases h
                            exact rb_iret hC dX11_most_142
                          · replace h := rb_ifn c11_11 h
                            by_cases c11_12 : p0 = 12
                            · replace h := rb_ifp c11_12 h
                              refine rb_tableIn hC 143 dX11_most_11 (by rw [c11_12]; decide) (by rw [c11_12]; decide) (by rw [c11_12]; rfl) (by decide) ?_
                              refine rb_aload_n hC 0 dX11_most_143 rfl ?_
                              refine rb_getR hC fr_X11_49_10 rb_obX0 rfl dX11_most_144 ?_
                              obtain ⟨r27, q28, h⟩ := rb_b1s h
                              refine rb_callVi hC rb_VokX mv_X11_371 (xc_Pole_atHome 18 rb_isPole18 σ _ q28) (rb_obPole rb_isPole18) rfl [] rfl rfl rfl ⟨Nat.le_of_ble_eq_true rfl, Nat.le_of_ble_eq_true rfl⟩ (Nat.le_of_ble_eq_true rfl) dX11_most_147 ?_
                              cases h
                              exact rb_iret hC dX11_most_150
                            · replace h := rb_ifn c11_12 h
                              have hO : p0.toInt < 0 ∨ 12 < p0.toInt := by
                                have n0 : p0.toInt ≠ 0 := fun q3 => c11_0 (Int32.toInt_inj.mp (q3.trans (by decide)))
                                have n1 : p0.toInt ≠ 1 := fun q3 => c11_1 (Int32.toInt_inj.mp (q3.trans (by decide)))
                                have n2 : p0.toInt ≠ 2 := fun q3 => c11_2 (Int32.toInt_inj.mp (q3.trans (by decide)))
                                have n3 : p0.toInt ≠ 3 := fun q3 => c11_3 (Int32.toInt_inj.mp (q3.trans (by decide)))
                                have n4 : p0.toInt ≠ 4 := fun q3 => c11_4 (Int32.toInt_inj.mp (q3.trans (by decide)))
                                have n5 : p0.toInt ≠ 5 := fun q3 => c11_5 (Int32.toInt_inj.mp (q3.trans (by decide)))
                                have n6 : p0.toInt ≠ 6 := fun q3 => c11_6 (Int32.toInt_inj.mp (q3.trans (by decide)))
                                have n7 : p0.toInt ≠ 7 := fun q3 => c11_7 (Int32.toInt_inj.mp (q3.trans (by decide)))
                                have n8 : p0.toInt ≠ 8 := fun q3 => c11_8 (Int32.toInt_inj.mp (q3.trans (by decide)))
                                have n9 : p0.toInt ≠ 9 := fun q3 => c11_9 (Int32.toInt_inj.mp (q3.trans (by decide)))
                                have n10 : p0.toInt ≠ 10 := fun q3 => c11_10 (Int32.toInt_inj.mp (q3.trans (by decide)))
                                have n11 : p0.toInt ≠ 11 := fun q3 => c11_11 (Int32.toInt_inj.mp (q3.trans (by decide)))
                                have n12 : p0.toInt ≠ 12 := fun q3 => c11_12 (Int32.toInt_inj.mp (q3.trans (by decide)))
                                omega
                              refine rb_tableOut hC 151 dX11_most_11 hO (by decide) ?_
                              refine rb_ldc hC kc_X11_254 dX11_most_151 ?_
                              cases h
                              exact rb_iret hC dX11_most_153
  · replace h := rb_ifp c1 h
    refine rb_ldc hC kc_X11_254 dX11_most_7 ?_
    cases h
    exact rb_iret hC dX11_most_9
theorem xc_RP_most (p0 : Int32) (σ : rb_St) (r : Int32) (σ9 : rb_St) (h : xf_RP_most p0 σ = some (r, σ9)) : rb_Con rb_vX yX11_most cX11_most 2 (some .int) 6 (fun w => [.ref (rb_ad w 0), .int p0]) σ (fun _ => (some (.int r))) σ9 := rb_Con.of (by decide +kernel) (fun _ => Nat.le_of_ble_eq_true rfl) (fun z w hC => xk_RP_most hC p0 σ r σ9 h)
theorem fr_X11_96_10 : rb_FR RX11 96 10 18 := ⟨RX11, TX11, 20, "RibbonPole", rfl, rb_uX11, by decide, rb_in (by decide +kernel) (by decide +kernel), Or.inl rfl⟩
theorem me_X10_aim : Cond.instanceMethod yX10_aim ∈ rb_tbl ∧ Cond.selects yX10_aim.cls yX10_aim yX10_aim ∈ rb_tbl ∧ Cond.initialized yX10_aim.cls ∈ rb_tbl ∧ Cond.code yX10_aim cX10_aim 7 (some .boolean) ∈ rb_tbl ∧ rb_pn yX10_aim 2 := ⟨rb_in (by decide +kernel) (by decide +kernel), rb_in (by decide +kernel) (by decide +kernel), rb_in (by decide +kernel) (by decide +kernel), rb_in (by decide +kernel) (by decide +kernel), by decide +kernel, by decide +kernel, by decide +kernel⟩
theorem mv_X11_399 : rb_MV RX11 399 yX10_aim cX10_aim 7 (some .boolean) 2 := ⟨rb_in (by decide +kernel) (by decide +kernel), me_X10_aim⟩
theorem me_X10_firstPlace : Cond.instanceMethod yX10_firstPlace ∈ rb_tbl ∧ Cond.selects yX10_firstPlace.cls yX10_firstPlace yX10_firstPlace ∈ rb_tbl ∧ Cond.initialized yX10_firstPlace.cls ∈ rb_tbl ∧ Cond.code yX10_firstPlace cX10_firstPlace 4 (some .int) ∈ rb_tbl ∧ rb_pn yX10_firstPlace 0 := ⟨rb_in (by decide +kernel) (by decide +kernel), rb_in (by decide +kernel) (by decide +kernel), rb_in (by decide +kernel) (by decide +kernel), rb_in (by decide +kernel) (by decide +kernel), by decide +kernel, by decide +kernel, by decide +kernel⟩
theorem mv_X11_406 : rb_MV RX11 406 yX10_firstPlace cX10_firstPlace 4 (some .int) 0 := ⟨rb_in (by decide +kernel) (by decide +kernel), me_X10_firstPlace⟩
theorem mv_X11_403 : rb_MV RX11 403 yX10_fewest cX10_fewest 5 (some .int) 0 := ⟨rb_in (by decide +kernel) (by decide +kernel), me_X10_fewest⟩
def xf_RP_nearest (p0 : Int32) (p1 : Int32) (σ : rb_St) : Option (Int32 × rb_St) := if (xf_RP_hasGreen σ) = 0 then some ((-1), σ) else if p1 < 0 then some ((-1), σ) else if 1 < p1 then some ((-1), σ) else rb_b2 (xf_Way_aim p0 18 σ) fun r6 s4 => if r6 = 0 then some ((-1), s4) else if p1 = 0 then rb_b2 (xf_Way_fewest s4) fun r14 s12 => some (r14, s12) else rb_b2 (xf_Way_firstPlace s4) fun r11 s9 => some (r11, s9)
set_option maxHeartbeats 4000000 in
set_option maxRecDepth 100000 in
theorem xk_RP_nearest {z : rb_Z} {w : rb_Wd} (hC : rb_Cx z rb_vX w RX11 cX11_nearest 3 (some .int) 4) (p0 : Int32) (p1 : Int32) (σ : rb_St) (r : Int32) (σ9 : rb_St) (h : xf_RP_nearest p0 p1 σ = some (r, σ9)) : rb_At z rb_vX w 3 (rb_Q z rb_vX w (some (.int r)) σ9) 0 [(0, .ref (rb_ad w 0)), (1, .int p0), (2, .int p1)] [] σ := by
  unfold xf_RP_nearest at h
  refine rb_aload_n hC 0 dX11_nearest_0 rfl ?_
  refine rb_callVi hC rb_VokX mv_X11_176 (xc_RP_hasGreen  σ _ rfl) rb_obX0 rfl [] rfl rfl rfl ⟨Nat.le_of_ble_eq_true rfl, Nat.le_of_ble_eq_true rfl⟩ (Nat.le_of_ble_eq_true rfl) dX11_nearest_1 ?_
  refine rb_if_eq hC 31 dX11_nearest_4 (by decide) (fun c1 => ?_) (fun c1 => ?_)
  · replace h := rb_ifp c1 h
    refine rb_iconst (x := (-1)) hC dX11_nearest_31 (by decide) ?_
    cases h
    exact rb_iret hC dX11_nearest_32
  · replace h := rb_ifn c1 h
    refine rb_iload_n hC 2 dX11_nearest_7 rfl ?_
    refine rb_if_lt hC 31 dX11_nearest_8 (by decide) (fun c2 => ?_) (fun c2 => ?_)
    · replace h := rb_ifp c2 h
      refine rb_iconst (x := (-1)) hC dX11_nearest_31 (by decide) ?_
      cases h
      exact rb_iret hC dX11_nearest_32
    · replace h := rb_ifn c2 h
      refine rb_iload_n hC 2 dX11_nearest_11 rfl ?_
      refine rb_iconst (x := 1) hC dX11_nearest_12 (by decide) ?_
      refine rb_icmp_gt hC 31 dX11_nearest_13 (by decide) (fun c3 => ?_) (fun c3 => ?_)
      · replace h := rb_ifp c3 h
        refine rb_iconst (x := (-1)) hC dX11_nearest_31 (by decide) ?_
        cases h
        exact rb_iret hC dX11_nearest_32
      · replace h := rb_ifn c3 h
        refine rb_aload_n hC 0 dX11_nearest_16 rfl ?_
        refine rb_getR hC fr_X11_96_10 rb_obX0 rfl dX11_nearest_17 ?_
        refine rb_iload_n hC 1 dX11_nearest_20 rfl ?_
        refine rb_aload_n hC 0 dX11_nearest_21 rfl ?_
        refine rb_getR hC fr_X11_49_10 rb_obX0 rfl dX11_nearest_22 ?_
        obtain ⟨r6, s4, q5, h⟩ := rb_b2s h
        refine rb_callVi hC rb_VokX mv_X11_399 (xc_Way_aim p0 18 rb_isPole18 σ _ _ q5) rb_obX236 rfl [.int p0, .ref (rb_ad w 18)] rfl rfl rfl ⟨Nat.le_of_ble_eq_true rfl, Nat.le_of_ble_eq_true rfl⟩ (Nat.le_of_ble_eq_true rfl) dX11_nearest_25 ?_
        refine rb_if_ne hC 33 dX11_nearest_28 (by decide) (fun c7 => ?_) (fun c7 => ?_)
        · replace h := rb_ifn c7 h
          refine rb_iload_n hC 2 dX11_nearest_33 rfl ?_
          refine rb_if_ne hC 47 dX11_nearest_34 (by decide) (fun c8 => ?_) (fun c8 => ?_)
          · replace h := rb_ifn c8 h
            refine rb_aload_n hC 0 dX11_nearest_47 rfl ?_
            refine rb_getR hC fr_X11_96_10 rb_obX0 rfl dX11_nearest_48 ?_
            obtain ⟨r11, s9, q10, h⟩ := rb_b2s h
            refine rb_callVi hC rb_VokX mv_X11_406 (xc_Way_firstPlace  s4 _ _ q10) rb_obX236 rfl [] rfl rfl rfl ⟨Nat.le_of_ble_eq_true rfl, Nat.le_of_ble_eq_true rfl⟩ (Nat.le_of_ble_eq_true rfl) dX11_nearest_51 ?_
            cases h
            exact rb_iret hC dX11_nearest_54
          · replace h := rb_ifp c8 h
            refine rb_aload_n hC 0 dX11_nearest_37 rfl ?_
            refine rb_getR hC fr_X11_96_10 rb_obX0 rfl dX11_nearest_38 ?_
            obtain ⟨r14, s12, q13, h⟩ := rb_b2s h
            refine rb_callVi hC rb_VokX mv_X11_403 (xc_Way_fewest  s4 _ _ q13) rb_obX236 rfl [] rfl rfl rfl ⟨Nat.le_of_ble_eq_true rfl, Nat.le_of_ble_eq_true rfl⟩ (Nat.le_of_ble_eq_true rfl) dX11_nearest_41 ?_
            refine rb_goto hC 54 dX11_nearest_44 (by decide) ?_
            cases h
            exact rb_iret hC dX11_nearest_54
        · replace h := rb_ifp c7 h
          refine rb_iconst (x := (-1)) hC dX11_nearest_31 (by decide) ?_
          cases h
          exact rb_iret hC dX11_nearest_32
theorem xc_RP_nearest (p0 : Int32) (p1 : Int32) (σ : rb_St) (r : Int32) (σ9 : rb_St) (h : xf_RP_nearest p0 p1 σ = some (r, σ9)) : rb_Con rb_vX yX11_nearest cX11_nearest 3 (some .int) 4 (fun w => [.ref (rb_ad w 0), .int p0, .int p1]) σ (fun _ => (some (.int r))) σ9 := rb_Con.of (by decide +kernel) (fun _ => Nat.le_of_ble_eq_true rfl) (fun z w hC => xk_RP_nearest hC p0 p1 σ r σ9 h)
def xl_RP_dancedWhole_2 (k1 : Nat) (k2 : Nat) : Nat → Int32 → rb_St → Option (Nat × rb_St)
  | 0, _, _ => none
  | n + 1, x3, σ => if (σ.1 k1 1) ≤ x3 then some (1, σ) else rb_b1 (xf_Fig_letterAt k1 x3 σ) fun r2 => if (xf_Pole_hasPlace k2 (r2 >>> (1 &&& 31)) σ) = 0 then rb_lt (rb_sI σ k2 3 ((σ.1 k2 3) + 1)) (fun s5 => xl_RP_dancedWhole_2 k1 k2 n (x3 + 1) s5) else rb_b2 (xf_RP_moveOn k2 r2 σ) fun r9 s7 => if 0 ≤ r9 then rb_lt (rb_sI s7 k2 3 ((s7.1 k2 3) + 1)) (fun s11 => xl_RP_dancedWhole_2 k1 k2 n (x3 + 1) s11) else some (0, s7)
set_option maxHeartbeats 4000000 in
set_option maxRecDepth 100000 in
theorem xt_RP_dancedWhole_2 {z : rb_Z} {w : rb_Wd} {Q : State → Prop} (hC : rb_Cx z rb_vX w RX11 cX11_dancedWhole 5 (some .boolean) 6) (k1 : Nat) (hk1 : rb_isFig k1) (k2 : Nat) (hk2 : rb_isPole k2) : ∀ (n : Nat) (x3 : Int32) (σ : rb_St) (t : Nat) (σ9 : rb_St), xl_RP_dancedWhole_2 k1 k2 n x3 σ = some (t, σ9) → (t = 0 → rb_At z rb_vX w 5 Q 38 [] [] σ9) → (t = 1 → rb_At z rb_vX w 5 Q 56 [] [] σ9) → rb_At z rb_vX w 5 Q 2 [(0, .ref (rb_ad w 0)), (1, .ref (rb_ad w k1)), (2, .ref (rb_ad w k2)), (3, .int x3)] [] σ := by
  intro n
  induction n with
  | zero =>
    intro x3 σ t σ9 h hE0 hE1
    cases h
  | succ n ih =>
    intro x3 σ t σ9 h hE0 hE1
    rw [xl_RP_dancedWhole_2] at h
    refine rb_iload_n hC 3 dX11_dancedWhole_2 rfl ?_
    refine rb_aload_n hC 1 dX11_dancedWhole_3 rfl ?_
    refine rb_getI hC fr_X11_220_1 (rb_obFig hk1) rfl dX11_dancedWhole_4 ?_
    refine rb_icmp_ge hC 56 dX11_dancedWhole_7 (by decide) (fun c1 => ?_) (fun c1 => ?_)
    · replace h := rb_ifp c1 h
      cases h
      exact rb_sub [] rfl (hE1 rfl)
    · replace h := rb_ifn c1 h
      refine rb_aload_n hC 1 dX11_dancedWhole_10 rfl ?_
      refine rb_iload_n hC 3 dX11_dancedWhole_11 rfl ?_
      obtain ⟨r2, q3, h⟩ := rb_b1s h
      refine rb_callVi hC rb_VokX mv_X11_221 (xc_Fig_letterAt k1 hk1 x3 σ _ q3) (rb_obFig hk1) rfl [.int x3] rfl rfl rfl ⟨Nat.le_of_ble_eq_true rfl, Nat.le_of_ble_eq_true rfl⟩ (Nat.le_of_ble_eq_true rfl) dX11_dancedWhole_12 ?_
      refine rb_istore hC [(4, .int r2), (0, .ref (rb_ad w 0)), (1, .ref (rb_ad w k1)), (2, .ref (rb_ad w k2)), (3, .int x3)] dX11_dancedWhole_15 (by decide) rfl ?_
      refine rb_aload_n hC 3 dX11_dancedWhole_17 rfl ?_
      refine rb_iload hC 0 dX11_dancedWhole_18 rfl ?_
      refine rb_iconst (x := 1) hC dX11_dancedWhole_20 (by decide) ?_
      refine rb_ishr hC dX11_dancedWhole_21 ?_
      refine rb_callVi hC rb_VokX mv_X11_211 (xc_Pole_hasPlace k2 hk2 (r2 >>> (1 &&& 31)) σ _ rfl) (rb_obPole hk2) rfl [.int (r2 >>> (1 &&& 31))] rfl rfl rfl ⟨Nat.le_of_ble_eq_true rfl, Nat.le_of_ble_eq_true rfl⟩ (Nat.le_of_ble_eq_true rfl) dX11_dancedWhole_22 ?_
      refine rb_if_eq hC 40 dX11_dancedWhole_25 (by decide) (fun c4 => ?_) (fun c4 => ?_)
      · replace h := rb_ifp c4 h
        refine rb_aload_n hC 3 dX11_dancedWhole_40 rfl ?_
        refine rb_dup hC dX11_dancedWhole_41 rfl ?_
        refine rb_getI hC fr_X11_250_7 (rb_obPole hk2) rfl dX11_dancedWhole_42 ?_
        refine rb_iconst (x := 1) hC dX11_dancedWhole_45 (by decide) ?_
        refine rb_iadd hC dX11_dancedWhole_46 ?_
        refine rb_putI hC fr_X11_250_7 ft_7_3 (rb_obPole hk2) rfl rfl rfl dX11_dancedWhole_47 ?_
        obtain ⟨s5, e6, h⟩ := rb_ltE h
        refine rb_nmS e6 ?_
        refine rb_iinc hC 4 [(3, .int (x3 + 1)), (4, .int r2), (0, .ref (rb_ad w 0)), (1, .ref (rb_ad w k1)), (2, .ref (rb_ad w k2))] dX11_dancedWhole_50 rfl rfl (by decide) rfl ?_
        refine rb_goto hC 2 dX11_dancedWhole_53 (by decide) ?_
        exact rb_sub [2, 3, 4, 0] rfl (ih (x3 + 1) s5 _ _ h hE0 hE1)
      · replace h := rb_ifn c4 h
        refine rb_aload_n hC 1 dX11_dancedWhole_28 rfl ?_
        refine rb_aload_n hC 3 dX11_dancedWhole_29 rfl ?_
        refine rb_iload hC 0 dX11_dancedWhole_30 rfl ?_
        obtain ⟨r9, s7, q8, h⟩ := rb_b2s h
        refine rb_callVi hC rb_VokX mv_X11_297 (xc_RP_moveOn k2 hk2 r2 σ _ _ q8) rb_obX0 rfl [.ref (rb_ad w k2), .int r2] rfl rfl rfl ⟨Nat.le_of_ble_eq_true rfl, Nat.le_of_ble_eq_true rfl⟩ (Nat.le_of_ble_eq_true rfl) dX11_dancedWhole_32 ?_
        refine rb_if_ge hC 40 dX11_dancedWhole_35 (by decide) (fun c10 => ?_) (fun c10 => ?_)
        · replace h := rb_ifp c10 h
          refine rb_aload_n hC 3 dX11_dancedWhole_40 rfl ?_
          refine rb_dup hC dX11_dancedWhole_41 rfl ?_
          refine rb_getI hC fr_X11_250_7 (rb_obPole hk2) rfl dX11_dancedWhole_42 ?_
          refine rb_iconst (x := 1) hC dX11_dancedWhole_45 (by decide) ?_
          refine rb_iadd hC dX11_dancedWhole_46 ?_
          refine rb_putI hC fr_X11_250_7 ft_7_3 (rb_obPole hk2) rfl rfl rfl dX11_dancedWhole_47 ?_
          obtain ⟨s11, e12, h⟩ := rb_ltE h
          refine rb_nmS e12 ?_
          refine rb_iinc hC 4 [(3, .int (x3 + 1)), (4, .int r2), (0, .ref (rb_ad w 0)), (1, .ref (rb_ad w k1)), (2, .ref (rb_ad w k2))] dX11_dancedWhole_50 rfl rfl (by decide) rfl ?_
          refine rb_goto hC 2 dX11_dancedWhole_53 (by decide) ?_
          exact rb_sub [2, 3, 4, 0] rfl (ih (x3 + 1) s11 _ _ h hE0 hE1)
        · replace h := rb_ifn c10 h
          cases h
          exact rb_sub [] rfl (hE0 rfl)
def xf_RP_dancedWhole (k1 : Nat) (k2 : Nat) (σ : rb_St) : Option (Int32 × rb_St) := rb_b2 (xl_RP_dancedWhole_2 k1 k2 rb_FU 0 σ) fun t13 s14 => if t13 = 0 then some (0, s14) else some (1, s14)
set_option maxHeartbeats 4000000 in
set_option maxRecDepth 100000 in
theorem xk_RP_dancedWhole {z : rb_Z} {w : rb_Wd} (hC : rb_Cx z rb_vX w RX11 cX11_dancedWhole 5 (some .boolean) 6) (k1 : Nat) (hk1 : rb_isFig k1) (k2 : Nat) (hk2 : rb_isPole k2) (σ : rb_St) (r : Int32) (σ9 : rb_St) (h : xf_RP_dancedWhole k1 k2 σ = some (r, σ9)) : rb_At z rb_vX w 5 (rb_Q z rb_vX w (some (.int r)) σ9) 0 [(0, .ref (rb_ad w 0)), (1, .ref (rb_ad w k1)), (2, .ref (rb_ad w k2))] [] σ := by
  unfold xf_RP_dancedWhole at h
  refine rb_iconst (x := 0) hC dX11_dancedWhole_0 (by decide) ?_
  refine rb_istore_n hC [(3, .int 0), (0, .ref (rb_ad w 0)), (1, .ref (rb_ad w k1)), (2, .ref (rb_ad w k2))] dX11_dancedWhole_1 (by decide) rfl ?_
  obtain ⟨t13, s14, q15, h⟩ := rb_b2s h
  refine rb_sub (lv2 := [(0, .ref (rb_ad w 0)), (1, .ref (rb_ad w k1)), (2, .ref (rb_ad w k2)), (3, .int 0)]) [1, 2, 3, 0] rfl ?_
  refine xt_RP_dancedWhole_2 hC k1 hk1 k2 hk2 rb_FU 0 σ _ _ q15 (fun ht => ?_) (fun ht => ?_)
  · subst ht
    replace h := rb_ifp rfl h
    refine rb_iconst (x := 0) hC dX11_dancedWhole_38 (by decide) ?_
    cases h
    exact rb_zret hC rfl dX11_dancedWhole_39
  · subst ht
    replace h := rb_ifn (by decide) h
    refine rb_iconst (x := 1) hC dX11_dancedWhole_56 (by decide) ?_
    cases h
    exact rb_zret hC rfl dX11_dancedWhole_57
theorem xc_RP_dancedWhole (k1 : Nat) (hk1 : rb_isFig k1) (k2 : Nat) (hk2 : rb_isPole k2) (σ : rb_St) (r : Int32) (σ9 : rb_St) (h : xf_RP_dancedWhole k1 k2 σ = some (r, σ9)) : rb_Con rb_vX yX11_dancedWhole cX11_dancedWhole 5 (some .boolean) 6 (fun w => [.ref (rb_ad w 0), .ref (rb_ad w k1), .ref (rb_ad w k2)]) σ (fun _ => (some (.int r))) σ9 := rb_Con.of (by decide +kernel) (fun _ => Nat.le_of_ble_eq_true rfl) (fun z w hC => xk_RP_dancedWhole hC k1 hk1 k2 hk2 σ r σ9 h)
def xj_RP_gain_38 (x2 : Int32) (x3 : Int32) (x4 : Int32) (u0 : Int32) (u1 : Int32) (σ : rb_St) : Option (Int32 × rb_St) := rb_b1 (xf_Pole_undoneBy 18 (xf_RP_letterOf u1 u0 σ) σ) fun r5 => if r5 < 0 then rb_b2 (xf_RP_priceOn 18 (xf_RP_letterOf u1 u0 σ) σ) fun r10 s8 => rb_b1 (xf_Pole_hindrance 18 (xf_RP_letterOf u1 u0 σ) r10 s8) fun r11 => if r11 = 0 then if x4 = 0 then if x2 = 0 then some (6 - r10, s8) else some (5 - r10, s8) else if x3 = 0 then some (6 - r10, s8) else some (5 - r10, s8) else some ((-3), s8) else some (4, σ)
set_option maxHeartbeats 4000000 in
set_option maxRecDepth 100000 in
theorem xu_RP_gain_38 {z : rb_Z} {w : rb_Wd} (hC : rb_Cx z rb_vX w RX11 cX11_gain 8 (some .int) 5) (x2 : Int32) (x3 : Int32) (x4 : Int32) (u0 : Int32) (u1 : Int32) (σ : rb_St) (r : Int32) (σ9 : rb_St) (h : xj_RP_gain_38 x2 x3 x4 u0 u1 σ = some (r, σ9)) : rb_At z rb_vX w 8 (rb_Q z rb_vX w (some (.int r)) σ9) 38 [(0, .ref (rb_ad w 0)), (2, .int x2), (3, .int x3), (4, .int x4)] [.int u0, .int u1] σ := by
  unfold xj_RP_gain_38 at h
  refine rb_callSi hC rb_VokX mv_X11_306 (xc_RP_letterOf u1 u0 σ _ rfl) [.int u1, .int u0] rfl rfl rfl ⟨Nat.le_of_ble_eq_true rfl, Nat.le_of_ble_eq_true rfl⟩ (Nat.le_of_ble_eq_true rfl) dX11_gain_38 ?_
  refine rb_istore hC [(5, .int (xf_RP_letterOf u1 u0 σ)), (0, .ref (rb_ad w 0)), (2, .int x2), (3, .int x3), (4, .int x4)] dX11_gain_41 (by decide) rfl ?_
  refine rb_aload_n hC 1 dX11_gain_43 rfl ?_
  refine rb_getR hC fr_X11_49_10 rb_obX0 rfl dX11_gain_44 ?_
  refine rb_iload hC 0 dX11_gain_47 rfl ?_
  obtain ⟨r5, q6, h⟩ := rb_b1s h
  refine rb_callVi hC rb_VokX mv_X11_276 (xc_Pole_undoneBy 18 rb_isPole18 (xf_RP_letterOf u1 u0 σ) σ _ q6) (rb_obPole rb_isPole18) rfl [.int (xf_RP_letterOf u1 u0 σ)] rfl rfl rfl ⟨Nat.le_of_ble_eq_true rfl, Nat.le_of_ble_eq_true rfl⟩ (Nat.le_of_ble_eq_true rfl) dX11_gain_49 ?_
  refine rb_if_lt hC 57 dX11_gain_52 (by decide) (fun c7 => ?_) (fun c7 => ?_)
  · replace h := rb_ifp c7 h
    refine rb_aload_n hC 1 dX11_gain_57 rfl ?_
    refine rb_aload_n hC 1 dX11_gain_58 rfl ?_
    refine rb_getR hC fr_X11_49_10 rb_obX0 rfl dX11_gain_59 ?_
    refine rb_iload hC 0 dX11_gain_62 rfl ?_
    obtain ⟨r10, s8, q9, h⟩ := rb_b2s h
    refine rb_callVi hC rb_VokX mv_X11_279 (xc_RP_priceOn 18 rb_isPole18 (xf_RP_letterOf u1 u0 σ) σ _ _ q9) rb_obX0 rfl [.ref (rb_ad w 18), .int (xf_RP_letterOf u1 u0 σ)] rfl rfl rfl ⟨Nat.le_of_ble_eq_true rfl, Nat.le_of_ble_eq_true rfl⟩ (Nat.le_of_ble_eq_true rfl) dX11_gain_64 ?_
    refine rb_istore hC [(6, .int r10), (5, .int (xf_RP_letterOf u1 u0 σ)), (0, .ref (rb_ad w 0)), (2, .int x2), (3, .int x3), (4, .int x4)] dX11_gain_67 (by decide) rfl ?_
    refine rb_aload_n hC 2 dX11_gain_69 rfl ?_
    refine rb_getR hC fr_X11_49_10 rb_obX0 rfl dX11_gain_70 ?_
    refine rb_iload hC 1 dX11_gain_73 rfl ?_
    refine rb_iload hC 0 dX11_gain_75 rfl ?_
    obtain ⟨r11, q12, h⟩ := rb_b1s h
    refine rb_callVi hC rb_VokX mv_X11_283 (xc_Pole_hindrance 18 rb_isPole18 (xf_RP_letterOf u1 u0 σ) r10 s8 _ q12) (rb_obPole rb_isPole18) rfl [.int (xf_RP_letterOf u1 u0 σ), .int r10] rfl rfl rfl ⟨Nat.le_of_ble_eq_true rfl, Nat.le_of_ble_eq_true rfl⟩ (Nat.le_of_ble_eq_true rfl) dX11_gain_77 ?_
    refine rb_if_eq hC 86 dX11_gain_80 (by decide) (fun c13 => ?_) (fun c13 => ?_)
    · replace h := rb_ifp c13 h
      refine rb_iload hC 5 dX11_gain_86 rfl ?_
      refine rb_if_ne hC 95 dX11_gain_88 (by decide) (fun c14 => ?_) (fun c14 => ?_)
      · replace h := rb_ifn c14 h
        refine rb_iload_n hC 4 dX11_gain_95 rfl ?_
        refine rb_istore hC [(7, .int x3), (6, .int r10), (5, .int (xf_RP_letterOf u1 u0 σ)), (0, .ref (rb_ad w 0)), (2, .int x2), (3, .int x3), (4, .int x4)] dX11_gain_96 (by decide) rfl ?_
        refine rb_iload hC 0 dX11_gain_98 rfl ?_
        refine rb_if_ne hC 108 dX11_gain_100 (by decide) (fun c15 => ?_) (fun c15 => ?_)
        · replace h := rb_ifn c15 h
          refine rb_iconst (x := 5) hC dX11_gain_108 (by decide) ?_
          refine rb_iload hC 1 dX11_gain_109 rfl ?_
          refine rb_isub hC dX11_gain_111 ?_
          cases h
          exact rb_iret hC dX11_gain_112
        · replace h := rb_ifp c15 h
          refine rb_bipush (x := 6) hC dX11_gain_103 (by decide) ?_
          refine rb_goto hC 109 dX11_gain_105 (by decide) ?_
          refine rb_iload hC 1 dX11_gain_109 rfl ?_
          refine rb_isub hC dX11_gain_111 ?_
          cases h
          exact rb_iret hC dX11_gain_112
      · replace h := rb_ifp c14 h
        refine rb_iload_n hC 3 dX11_gain_91 rfl ?_
        refine rb_goto hC 96 dX11_gain_92 (by decide) ?_
        refine rb_istore hC [(7, .int x2), (6, .int r10), (5, .int (xf_RP_letterOf u1 u0 σ)), (0, .ref (rb_ad w 0)), (2, .int x2), (3, .int x3), (4, .int x4)] dX11_gain_96 (by decide) rfl ?_
        refine rb_iload hC 0 dX11_gain_98 rfl ?_
        refine rb_if_ne hC 108 dX11_gain_100 (by decide) (fun c16 => ?_) (fun c16 => ?_)
        · replace h := rb_ifn c16 h
          refine rb_iconst (x := 5) hC dX11_gain_108 (by decide) ?_
          refine rb_iload hC 1 dX11_gain_109 rfl ?_
          refine rb_isub hC dX11_gain_111 ?_
          cases h
          exact rb_iret hC dX11_gain_112
        · replace h := rb_ifp c16 h
          refine rb_bipush (x := 6) hC dX11_gain_103 (by decide) ?_
          refine rb_goto hC 109 dX11_gain_105 (by decide) ?_
          refine rb_iload hC 1 dX11_gain_109 rfl ?_
          refine rb_isub hC dX11_gain_111 ?_
          cases h
          exact rb_iret hC dX11_gain_112
    · replace h := rb_ifn c13 h
      refine rb_bipush (x := (-3)) hC dX11_gain_83 (by decide) ?_
      cases h
      exact rb_iret hC dX11_gain_85
  · replace h := rb_ifn c7 h
    refine rb_iconst (x := 4) hC dX11_gain_55 (by decide) ?_
    cases h
    exact rb_iret hC dX11_gain_56
def xf_RP_gain (p0 : Int32) (p1 : Int32) (p2 : Int32) (p3 : Int32) (σ : rb_St) : Option (Int32 × rb_St) := if p1 = 2 then some (0, σ) else if p2 = 2 then some (0, σ) else if p1 = p2 then if p1 = 0 then some ((-2), σ) else some ((-1), σ) else if p1 = 0 then xj_RP_gain_38 p1 p2 p3 1 p0 σ else xj_RP_gain_38 p1 p2 p3 0 p0 σ
set_option maxHeartbeats 4000000 in
set_option maxRecDepth 100000 in
theorem xk_RP_gain {z : rb_Z} {w : rb_Wd} (hC : rb_Cx z rb_vX w RX11 cX11_gain 8 (some .int) 5) (p0 : Int32) (p1 : Int32) (p2 : Int32) (p3 : Int32) (σ : rb_St) (r : Int32) (σ9 : rb_St) (h : xf_RP_gain p0 p1 p2 p3 σ = some (r, σ9)) : rb_At z rb_vX w 8 (rb_Q z rb_vX w (some (.int r)) σ9) 0 [(0, .ref (rb_ad w 0)), (1, .int p0), (2, .int p1), (3, .int p2), (4, .int p3)] [] σ := by
  unfold xf_RP_gain at h
  refine rb_iload_n hC 2 dX11_gain_0 rfl ?_
  refine rb_iconst (x := 2) hC dX11_gain_1 (by decide) ?_
  refine rb_icmp_eq hC 10 dX11_gain_2 (by decide) (fun c1 => ?_) (fun c1 => ?_)
  · replace h := rb_ifp c1 h
    refine rb_iconst (x := 0) hC dX11_gain_10 (by decide) ?_
    cases h
    exact rb_iret hC dX11_gain_11
  · replace h := rb_ifn c1 h
    refine rb_iload_n hC 3 dX11_gain_5 rfl ?_
    refine rb_iconst (x := 2) hC dX11_gain_6 (by decide) ?_
    refine rb_icmp_ne hC 12 dX11_gain_7 (by decide) (fun c2 => ?_) (fun c2 => ?_)
    · replace h := rb_ifn c2 h
      refine rb_iload_n hC 2 dX11_gain_12 rfl ?_
      refine rb_iload_n hC 3 dX11_gain_13 rfl ?_
      refine rb_icmp_ne hC 28 dX11_gain_14 (by decide) (fun c3 => ?_) (fun c3 => ?_)
      · replace h := rb_ifn c3 h
        refine rb_iload_n hC 1 dX11_gain_28 rfl ?_
        refine rb_iload_n hC 2 dX11_gain_29 rfl ?_
        refine rb_if_ne hC 37 dX11_gain_30 (by decide) (fun c4 => ?_) (fun c4 => ?_)
        · replace h := rb_ifn c4 h
          refine rb_iconst (x := 0) hC dX11_gain_37 (by decide) ?_
          exact rb_sub [0, 2, 3, 4] rfl (xu_RP_gain_38 hC p1 p2 p3 0 p0 σ _ _ h)
        · replace h := rb_ifp c4 h
          refine rb_iconst (x := 1) hC dX11_gain_33 (by decide) ?_
          refine rb_goto hC 38 dX11_gain_34 (by decide) ?_
          exact rb_sub [0, 2, 3, 4] rfl (xu_RP_gain_38 hC p1 p2 p3 1 p0 σ _ _ h)
      · replace h := rb_ifp c3 h
        refine rb_iload_n hC 2 dX11_gain_17 rfl ?_
        refine rb_if_ne hC 26 dX11_gain_18 (by decide) (fun c17 => ?_) (fun c17 => ?_)
        · replace h := rb_ifn c17 h
          refine rb_iconst (x := (-1)) hC dX11_gain_26 (by decide) ?_
          cases h
          exact rb_iret hC dX11_gain_27
        · replace h := rb_ifp c17 h
          refine rb_bipush (x := (-2)) hC dX11_gain_21 (by decide) ?_
          refine rb_goto hC 27 dX11_gain_23 (by decide) ?_
          cases h
          exact rb_iret hC dX11_gain_27
    · replace h := rb_ifp c2 h
      refine rb_iconst (x := 0) hC dX11_gain_10 (by decide) ?_
      cases h
      exact rb_iret hC dX11_gain_11
theorem xc_RP_gain (p0 : Int32) (p1 : Int32) (p2 : Int32) (p3 : Int32) (σ : rb_St) (r : Int32) (σ9 : rb_St) (h : xf_RP_gain p0 p1 p2 p3 σ = some (r, σ9)) : rb_Con rb_vX yX11_gain cX11_gain 8 (some .int) 5 (fun w => [.ref (rb_ad w 0), .int p0, .int p1, .int p2, .int p3]) σ (fun _ => (some (.int r))) σ9 := rb_Con.of (by decide +kernel) (fun _ => Nat.le_of_ble_eq_true rfl) (fun z w hC => xk_RP_gain hC p0 p1 p2 p3 σ r σ9 h)
