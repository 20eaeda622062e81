def xf_RP_dancer (p0 : Int32) (p1 : Int32) (σ : rb_St) : Option Int32 := if (xf_RP_isDancer p0 σ) = 0 then none else if p1 < 0 then none else if p1 ≤ 5 then if p1 = 0 then rb_b1 (xf_Green_trait p0 0 σ) fun r4 => some r4 else if p1 = 1 then if rb_ib p0 8 then some (σ.1 (18 + 2) p0.toNatClampNeg) else none else if p1 = 2 then rb_b1 (xf_Green_trait p0 2 σ) fun r7 => some r7 else if p1 = 3 then rb_b1 (xf_Pole_placeOf 18 p0 σ) fun r9 => some r9 else if p1 = 4 then rb_b1 (xf_Pole_leftOf 18 p0 σ) fun r11 => some r11 else rb_b1 (xf_Pole_crossingsOf 18 p0 σ) fun r13 => some r13 else none
set_option maxHeartbeats 4000000 in
set_option maxRecDepth 100000 in
theorem xk_RP_dancer {z : rb_Z} {w : rb_Wd} (hC : rb_Cx z rb_vX w RX11 cX11_dancer 3 (some .int) 4) (p0 : Int32) (p1 : Int32) (σ : rb_St) (r : Int32) (h : xf_RP_dancer p0 p1 σ = some r) : rb_At z rb_vX w 3 (rb_Q z rb_vX w (some (.int r)) σ) 0 [(0, .ref (rb_ad w 0)), (1, .int p0), (2, .int p1)] [] σ := by
  unfold xf_RP_dancer at h
  refine rb_aload_n hC 0 dX11_dancer_0 rfl ?_
  refine rb_iload_n hC 1 dX11_dancer_1 rfl ?_
  refine rb_callVi hC rb_VokX mv_X11_188 (xc_RP_isDancer p0 σ _ rfl) rb_obX0 rfl [.int p0] rfl rfl rfl ⟨Nat.le_of_ble_eq_true rfl, Nat.le_of_ble_eq_true rfl⟩ (Nat.le_of_ble_eq_true rfl) dX11_dancer_2 ?_
  refine rb_if_eq hC 17 dX11_dancer_5 (by decide) (fun c1 => ?_) (fun c1 => ?_)
  · replace h := rb_ifp c1 h
    cases h
  · replace h := rb_ifn c1 h
    refine rb_iload_n hC 2 dX11_dancer_8 rfl ?_
    refine rb_if_lt hC 17 dX11_dancer_9 (by decide) (fun c2 => ?_) (fun c2 => ?_)
    · replace h := rb_ifp c2 h
      cases h
    · replace h := rb_ifn c2 h
      refine rb_iload_n hC 2 dX11_dancer_12 rfl ?_
      refine rb_iconst (x := 5) hC dX11_dancer_13 (by decide) ?_
      refine rb_icmp_le hC 25 dX11_dancer_14 (by decide) (fun c3 => ?_) (fun c3 => ?_)
      · replace h := rb_ifp c3 h
        refine rb_iload_n hC 2 dX11_dancer_25 rfl ?_
        by_cases c26_0 : p1 = 0
        · replace h := rb_ifp c26_0 h
          refine rb_tableIn hC 60 dX11_dancer_26 (by rw [c26_0]; decide) (by rw [c26_0]; decide) (by rw [c26_0]; rfl) (by decide) ?_
          refine rb_aload_n hC 0 dX11_dancer_60 rfl ?_
          refine rb_getR hC fr_X11_42_10 rb_obX0 rfl dX11_dancer_61 ?_
          refine rb_iload_n hC 1 dX11_dancer_64 rfl ?_
          refine rb_iconst (x := 0) hC dX11_dancer_65 (by decide) ?_
          obtain ⟨r4, q5, h⟩ := rb_b1s h
          refine rb_callVi hC rb_VokX mv_X11_195 (xc_Green_trait p0 0 σ _ q5) rb_obX15 rfl [.int p0, .int 0] rfl rfl rfl ⟨Nat.le_of_ble_eq_true rfl, Nat.le_of_ble_eq_true rfl⟩ (Nat.le_of_ble_eq_true rfl) dX11_dancer_66 ?_
          cases h
          exact rb_iret hC dX11_dancer_69
        · replace h := rb_ifn c26_0 h
          by_cases c26_1 : p1 = 1
          · replace h := rb_ifp c26_1 h
            refine rb_tableIn hC 70 dX11_dancer_26 (by rw [c26_1]; decide) (by rw [c26_1]; decide) (by rw [c26_1]; rfl) (by decide) ?_
            refine rb_aload_n hC 0 dX11_dancer_70 rfl ?_
            refine rb_getR hC fr_X11_49_10 rb_obX0 rfl dX11_dancer_71 ?_
            refine rb_getR hC fr_X11_199_7 (rb_obPole rb_isPole18) rfl dX11_dancer_74 ?_
            refine rb_iload_n hC 1 dX11_dancer_77 rfl ?_
            obtain ⟨g6, h⟩ := rb_gd h
            refine rb_iald hC (rb_arPole2 rb_isPole18) (rb_ibI g6) dX11_dancer_78 ?_
            cases h
            exact rb_iret hC dX11_dancer_79
          · replace h := rb_ifn c26_1 h
            by_cases c26_2 : p1 = 2
            · replace h := rb_ifp c26_2 h
              refine rb_tableIn hC 80 dX11_dancer_26 (by rw [c26_2]; decide) (by rw [c26_2]; decide) (by rw [c26_2]; rfl) (by decide) ?_
              refine rb_aload_n hC 0 dX11_dancer_80 rfl ?_
              refine rb_getR hC fr_X11_42_10 rb_obX0 rfl dX11_dancer_81 ?_
              refine rb_iload_n hC 1 dX11_dancer_84 rfl ?_
              refine rb_iconst (x := 2) hC dX11_dancer_85 (by decide) ?_
              obtain ⟨r7, q8, h⟩ := rb_b1s h
              refine rb_callVi hC rb_VokX mv_X11_195 (xc_Green_trait p0 2 σ _ q8) rb_obX15 rfl [.int p0, .int 2] rfl rfl rfl ⟨Nat.le_of_ble_eq_true rfl, Nat.le_of_ble_eq_true rfl⟩ (Nat.le_of_ble_eq_true rfl) dX11_dancer_86 ?_
              cases h
              exact rb_iret hC dX11_dancer_89
            · replace h := rb_ifn c26_2 h
              by_cases c26_3 : p1 = 3
              · replace h := rb_ifp c26_3 h
                refine rb_tableIn hC 90 dX11_dancer_26 (by rw [c26_3]; decide) (by rw [c26_3]; decide) (by rw [c26_3]; rfl) (by decide) ?_
                refine rb_aload_n hC 0 dX11_dancer_90 rfl ?_
                refine rb_getR hC fr_X11_49_10 rb_obX0 rfl dX11_dancer_91 ?_
                refine rb_iload_n hC 1 dX11_dancer_94 rfl ?_
                obtain ⟨r9, q10, h⟩ := rb_b1s h
                refine rb_callVi hC rb_VokX mv_X11_202 (xc_Pole_placeOf 18 rb_isPole18 p0 σ _ q10) (rb_obPole rb_isPole18) rfl [.int p0] rfl rfl rfl ⟨Nat.le_of_ble_eq_true rfl, Nat.le_of_ble_eq_true rfl⟩ (Nat.le_of_ble_eq_true rfl) dX11_dancer_95 ?_
                cases h
                exact rb_iret hC dX11_dancer_98
              · replace h := rb_ifn c26_3 h
                by_cases c26_4 : p1 = 4
                · replace h := rb_ifp c26_4 h
                  refine rb_tableIn hC 99 dX11_dancer_26 (by rw [c26_4]; decide) (by rw [c26_4]; decide) (by rw [c26_4]; rfl) (by decide) ?_
                  refine rb_aload_n hC 0 dX11_dancer_99 rfl ?_
                  refine rb_getR hC fr_X11_49_10 rb_obX0 rfl dX11_dancer_100 ?_
                  refine rb_iload_n hC 1 dX11_dancer_103 rfl ?_
                  obtain ⟨r11, q12, h⟩ := rb_b1s h
                  refine rb_callVi hC rb_VokX mv_X11_205 (xc_Pole_leftOf 18 rb_isPole18 p0 σ _ q12) (rb_obPole rb_isPole18) rfl [.int p0] rfl rfl rfl ⟨Nat.le_of_ble_eq_true rfl, Nat.le_of_ble_eq_true rfl⟩ (Nat.le_of_ble_eq_true rfl) dX11_dancer_104 ?_
                  cases h
                  exact rb_iret hC dX11_dancer_107
                · replace h := rb_ifn c26_4 h
                  have hO : p1.toInt < 0 ∨ 4 < p1.toInt := by
                    have n0 : p1.toInt ≠ 0 := fun q3 => c26_0 (Int32.toInt_inj.mp (q3.trans (by decide)))
                    have n1 : p1.toInt ≠ 1 := fun q3 => c26_1 (Int32.toInt_inj.mp (q3.trans (by decide)))
                    have n2 : p1.toInt ≠ 2 := fun q3 => c26_2 (Int32.toInt_inj.mp (q3.trans (by decide)))
                    have n3 : p1.toInt ≠ 3 := fun q3 => c26_3 (Int32.toInt_inj.mp (q3.trans (by decide)))
                    have n4 : p1.toInt ≠ 4 := fun q3 => c26_4 (Int32.toInt_inj.mp (q3.trans (by decide)))
                    omega
                  refine rb_tableOut hC 108 dX11_dancer_26 hO (by decide) ?_
                  refine rb_aload_n hC 0 dX11_dancer_108 rfl ?_
                  refine rb_getR hC fr_X11_49_10 rb_obX0 rfl dX11_dancer_109 ?_
                  refine rb_iload_n hC 1 dX11_dancer_112 rfl ?_
                  obtain ⟨r13, q14, h⟩ := rb_b1s h
                  refine rb_callVi hC rb_VokX mv_X11_208 (xc_Pole_crossingsOf 18 rb_isPole18 p0 σ _ q14) (rb_obPole rb_isPole18) rfl [.int p0] rfl rfl rfl ⟨Nat.le_of_ble_eq_true rfl, Nat.le_of_ble_eq_true rfl⟩ (Nat.le_of_ble_eq_true rfl) dX11_dancer_113 ?_
                  cases h
                  exact rb_iret hC dX11_dancer_116
      · replace h := rb_ifn c3 h
        cases h
theorem xc_RP_dancer (p0 : Int32) (p1 : Int32) (σ : rb_St) (r : Int32) (h : xf_RP_dancer p0 p1 σ = some r) : rb_Con rb_vX yX11_dancer cX11_dancer 3 (some .int) 4 (fun w => [.ref (rb_ad w 0), .int p0, .int p1]) σ (fun _ => (some (.int r))) σ := rb_Con.of (by decide +kernel) (fun _ => Nat.le_of_ble_eq_true rfl) (fun z w hC => xk_RP_dancer hC p0 p1 σ r h)
