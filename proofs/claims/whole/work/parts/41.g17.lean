theorem me_X12_letterOf : Cond.static yX12_letterOf ∈ rb_tbl ∧ Cond.initialized yX12_letterOf.cls ∈ rb_tbl ∧ Cond.code yX12_letterOf cX12_letterOf 1 (some .int) ∈ rb_tbl ∧ rb_pn yX12_letterOf 1 := ⟨rb_in (by decide +kernel) (by decide +kernel), rb_in (by decide +kernel) (by decide +kernel), rb_in (by decide +kernel) (by decide +kernel), by decide +kernel, by decide +kernel, by decide +kernel⟩
theorem mv_X12_157 : rb_MS RX12 157 yX12_letterOf cX12_letterOf 1 (some .int) 1 := ⟨rb_in (by decide +kernel) (by decide +kernel), me_X12_letterOf⟩
theorem me_X12_opens : Cond.instanceMethod yX12_opens ∈ rb_tbl ∧ Cond.selects yX12_opens.cls yX12_opens yX12_opens ∈ rb_tbl ∧ Cond.initialized yX12_opens.cls ∈ rb_tbl ∧ Cond.code yX12_opens cX12_opens 1 none ∈ rb_tbl ∧ rb_pn yX12_opens 0 := ⟨rb_in (by decide +kernel) (by decide +kernel), rb_in (by decide +kernel) (by decide +kernel), rb_in (by decide +kernel) (by decide +kernel), rb_in (by decide +kernel) (by decide +kernel), by decide +kernel, by decide +kernel, by decide +kernel⟩
theorem mv_X12_161 : rb_MV RX12 161 yX12_opens cX12_opens 1 none 0 := ⟨rb_in (by decide +kernel) (by decide +kernel), me_X12_opens⟩
theorem me_X12_sum : Cond.instanceMethod yX12_sum ∈ rb_tbl ∧ Cond.selects yX12_sum.cls yX12_sum yX12_sum ∈ rb_tbl ∧ Cond.initialized yX12_sum.cls ∈ rb_tbl ∧ Cond.code yX12_sum cX12_sum 2 none ∈ rb_tbl ∧ rb_pn yX12_sum 0 := ⟨rb_in (by decide +kernel) (by decide +kernel), rb_in (by decide +kernel) (by decide +kernel), rb_in (by decide +kernel) (by decide +kernel), rb_in (by decide +kernel) (by decide +kernel), by decide +kernel, by decide +kernel, by decide +kernel⟩
theorem mv_X12_164 : rb_MV RX12 164 yX12_sum cX12_sum 2 none 0 := ⟨rb_in (by decide +kernel) (by decide +kernel), me_X12_sum⟩
theorem me_X12_closes : Cond.instanceMethod yX12_closes ∈ rb_tbl ∧ Cond.selects yX12_closes.cls yX12_closes yX12_closes ∈ rb_tbl ∧ Cond.initialized yX12_closes.cls ∈ rb_tbl ∧ Cond.code yX12_closes cX12_closes 2 none ∈ rb_tbl ∧ rb_pn yX12_closes 1 := ⟨rb_in (by decide +kernel) (by decide +kernel), rb_in (by decide +kernel) (by decide +kernel), rb_in (by decide +kernel) (by decide +kernel), rb_in (by decide +kernel) (by decide +kernel), by decide +kernel, by decide +kernel, by decide +kernel⟩
theorem mv_X12_167 : rb_MV RX12 167 yX12_closes cX12_closes 2 none 1 := ⟨rb_in (by decide +kernel) (by decide +kernel), me_X12_closes⟩
theorem me_X12_put : Cond.instanceMethod yX12_put ∈ rb_tbl ∧ Cond.selects yX12_put.cls yX12_put yX12_put ∈ rb_tbl ∧ Cond.initialized yX12_put.cls ∈ rb_tbl ∧ Cond.code yX12_put cX12_put 3 none ∈ rb_tbl ∧ rb_pn yX12_put 2 := ⟨rb_in (by decide +kernel) (by decide +kernel), rb_in (by decide +kernel) (by decide +kernel), rb_in (by decide +kernel) (by decide +kernel), rb_in (by decide +kernel) (by decide +kernel), by decide +kernel, by decide +kernel, by decide +kernel⟩
theorem mv_X12_153 : rb_MV RX12 153 yX12_put cX12_put 3 none 2 := ⟨rb_in (by decide +kernel) (by decide +kernel), me_X12_put⟩
theorem me_X12_plainNumber : Cond.instanceMethod yX12_plainNumber ∈ rb_tbl ∧ Cond.selects yX12_plainNumber.cls yX12_plainNumber yX12_plainNumber ∈ rb_tbl ∧ Cond.initialized yX12_plainNumber.cls ∈ rb_tbl ∧ Cond.code yX12_plainNumber cX12_plainNumber 3 (some .int) ∈ rb_tbl ∧ rb_pn yX12_plainNumber 0 := ⟨rb_in (by decide +kernel) (by decide +kernel), rb_in (by decide +kernel) (by decide +kernel), rb_in (by decide +kernel) (by decide +kernel), rb_in (by decide +kernel) (by decide +kernel), by decide +kernel, by decide +kernel, by decide +kernel⟩
theorem mv_X12_150 : rb_MV RX12 150 yX12_plainNumber cX12_plainNumber 3 (some .int) 0 := ⟨rb_in (by decide +kernel) (by decide +kernel), me_X12_plainNumber⟩
theorem me_X12_atom : Cond.instanceMethod yX12_atom ∈ rb_tbl ∧ Cond.selects yX12_atom.cls yX12_atom yX12_atom ∈ rb_tbl ∧ Cond.initialized yX12_atom.cls ∈ rb_tbl ∧ Cond.code yX12_atom cX12_atom 2 none ∈ rb_tbl ∧ rb_pn yX12_atom 0 := ⟨rb_in (by decide +kernel) (by decide +kernel), rb_in (by decide +kernel) (by decide +kernel), rb_in (by decide +kernel) (by decide +kernel), rb_in (by decide +kernel) (by decide +kernel), by decide +kernel, by decide +kernel, by decide +kernel⟩
theorem mv_X12_171 : rb_MV RX12 171 yX12_atom cX12_atom 2 none 0 := ⟨rb_in (by decide +kernel) (by decide +kernel), me_X12_atom⟩
theorem me_X12_term : Cond.instanceMethod yX12_term ∈ rb_tbl ∧ Cond.selects yX12_term.cls yX12_term yX12_term ∈ rb_tbl ∧ Cond.initialized yX12_term.cls ∈ rb_tbl ∧ Cond.code yX12_term cX12_term 2 none ∈ rb_tbl ∧ rb_pn yX12_term 0 := ⟨rb_in (by decide +kernel) (by decide +kernel), rb_in (by decide +kernel) (by decide +kernel), rb_in (by decide +kernel) (by decide +kernel), rb_in (by decide +kernel) (by decide +kernel), by decide +kernel, by decide +kernel, by decide +kernel⟩
theorem mv_X12_174 : rb_MV RX12 174 yX12_term cX12_term 2 none 0 := ⟨rb_in (by decide +kernel) (by decide +kernel), me_X12_term⟩
theorem me_X12_isSign : Cond.static yX12_isSign ∈ rb_tbl ∧ Cond.initialized yX12_isSign.cls ∈ rb_tbl ∧ Cond.code yX12_isSign cX12_isSign 1 (some .boolean) ∈ rb_tbl ∧ rb_pn yX12_isSign 1 := ⟨rb_in (by decide +kernel) (by decide +kernel), rb_in (by decide +kernel) (by decide +kernel), rb_in (by decide +kernel) (by decide +kernel), by decide +kernel, by decide +kernel, by decide +kernel⟩
theorem mv_X12_177 : rb_MS RX12 177 yX12_isSign cX12_isSign 1 (some .boolean) 1 := ⟨rb_in (by decide +kernel) (by decide +kernel), me_X12_isSign⟩
theorem me_X12_compare : Cond.instanceMethod yX12_compare ∈ rb_tbl ∧ Cond.selects yX12_compare.cls yX12_compare yX12_compare ∈ rb_tbl ∧ Cond.initialized yX12_compare.cls ∈ rb_tbl ∧ Cond.code yX12_compare cX12_compare 2 none ∈ rb_tbl ∧ rb_pn yX12_compare 0 := ⟨rb_in (by decide +kernel) (by decide +kernel), rb_in (by decide +kernel) (by decide +kernel), rb_in (by decide +kernel) (by decide +kernel), rb_in (by decide +kernel) (by decide +kernel), by decide +kernel, by decide +kernel, by decide +kernel⟩
theorem mv_X12_186 : rb_MV RX12 186 yX12_compare cX12_compare 2 none 0 := ⟨rb_in (by decide +kernel) (by decide +kernel), me_X12_compare⟩
theorem me_X12_condition : Cond.instanceMethod yX12_condition ∈ rb_tbl ∧ Cond.selects yX12_condition.cls yX12_condition yX12_condition ∈ rb_tbl ∧ Cond.initialized yX12_condition.cls ∈ rb_tbl ∧ Cond.code yX12_condition cX12_condition 1 none ∈ rb_tbl ∧ rb_pn yX12_condition 0 := ⟨rb_in (by decide +kernel) (by decide +kernel), rb_in (by decide +kernel) (by decide +kernel), rb_in (by decide +kernel) (by decide +kernel), rb_in (by decide +kernel) (by decide +kernel), by decide +kernel, by decide +kernel, by decide +kernel⟩
theorem mv_X12_183 : rb_MV RX12 183 yX12_condition cX12_condition 1 none 0 := ⟨rb_in (by decide +kernel) (by decide +kernel), me_X12_condition⟩
theorem me_X12_unit : Cond.instanceMethod yX12_unit ∈ rb_tbl ∧ Cond.selects yX12_unit.cls yX12_unit yX12_unit ∈ rb_tbl ∧ Cond.initialized yX12_unit.cls ∈ rb_tbl ∧ Cond.code yX12_unit cX12_unit 2 none ∈ rb_tbl ∧ rb_pn yX12_unit 0 := ⟨rb_in (by decide +kernel) (by decide +kernel), rb_in (by decide +kernel) (by decide +kernel), rb_in (by decide +kernel) (by decide +kernel), rb_in (by decide +kernel) (by decide +kernel), by decide +kernel, by decide +kernel, by decide +kernel⟩
theorem mv_X12_180 : rb_MV RX12 180 yX12_unit cX12_unit 2 none 0 := ⟨rb_in (by decide +kernel) (by decide +kernel), me_X12_unit⟩
theorem me_X12_goOnAnd : Cond.instanceMethod yX12_goOnAnd ∈ rb_tbl ∧ Cond.selects yX12_goOnAnd.cls yX12_goOnAnd yX12_goOnAnd ∈ rb_tbl ∧ Cond.initialized yX12_goOnAnd.cls ∈ rb_tbl ∧ Cond.code yX12_goOnAnd cX12_goOnAnd 1 none ∈ rb_tbl ∧ rb_pn yX12_goOnAnd 0 := ⟨rb_in (by decide +kernel) (by decide +kernel), rb_in (by decide +kernel) (by decide +kernel), rb_in (by decide +kernel) (by decide +kernel), rb_in (by decide +kernel) (by decide +kernel), by decide +kernel, by decide +kernel, by decide +kernel⟩
theorem mv_X12_189 : rb_MV RX12 189 yX12_goOnAnd cX12_goOnAnd 1 none 0 := ⟨rb_in (by decide +kernel) (by decide +kernel), me_X12_goOnAnd⟩
theorem me_X12_goOnOr : Cond.instanceMethod yX12_goOnOr ∈ rb_tbl ∧ Cond.selects yX12_goOnOr.cls yX12_goOnOr yX12_goOnOr ∈ rb_tbl ∧ Cond.initialized yX12_goOnOr.cls ∈ rb_tbl ∧ Cond.code yX12_goOnOr cX12_goOnOr 1 none ∈ rb_tbl ∧ rb_pn yX12_goOnOr 0 := ⟨rb_in (by decide +kernel) (by decide +kernel), rb_in (by decide +kernel) (by decide +kernel), rb_in (by decide +kernel) (by decide +kernel), rb_in (by decide +kernel) (by decide +kernel), by decide +kernel, by decide +kernel, by decide +kernel⟩
theorem mv_X12_192 : rb_MV RX12 192 yX12_goOnOr cX12_goOnOr 1 none 0 := ⟨rb_in (by decide +kernel) (by decide +kernel), me_X12_goOnOr⟩
abbrev xg_ML : Type := (rb_St → Option (rb_St)) × (rb_St → Option (rb_St)) × (rb_St → Option (rb_St)) × (rb_St → Option (rb_St)) × (rb_St → Option (rb_St)) × (rb_St → Option (rb_St)) × (rb_St → Option (rb_St)) × (rb_St → Option (rb_St))
def xg_ML_ok (g : xg_ML) (h0 : Nat) : Prop := (∀  (σ : rb_St) (σ9 : rb_St), g.1 σ = some σ9 → rb_Con rb_vM yX12_atom cX12_atom 2 none h0 (fun w => [.ref (rb_ad w 0)]) σ (fun _ => none) σ9) ∧ (∀  (σ : rb_St) (σ9 : rb_St), g.2.1 σ = some σ9 → rb_Con rb_vM yX12_term cX12_term 2 none h0 (fun w => [.ref (rb_ad w 0)]) σ (fun _ => none) σ9) ∧ (∀  (σ : rb_St) (σ9 : rb_St), g.2.2.1 σ = some σ9 → rb_Con rb_vM yX12_sum cX12_sum 2 none h0 (fun w => [.ref (rb_ad w 0)]) σ (fun _ => none) σ9) ∧ (∀  (σ : rb_St) (σ9 : rb_St), g.2.2.2.1 σ = some σ9 → rb_Con rb_vM yX12_compare cX12_compare 2 none h0 (fun w => [.ref (rb_ad w 0)]) σ (fun _ => none) σ9) ∧ (∀  (σ : rb_St) (σ9 : rb_St), g.2.2.2.2.1 σ = some σ9 → rb_Con rb_vM yX12_unit cX12_unit 2 none h0 (fun w => [.ref (rb_ad w 0)]) σ (fun _ => none) σ9) ∧ (∀  (σ : rb_St) (σ9 : rb_St), g.2.2.2.2.2.1 σ = some σ9 → rb_Con rb_vM yX12_goOnAnd cX12_goOnAnd 1 none h0 (fun w => [.ref (rb_ad w 0)]) σ (fun _ => none) σ9) ∧ (∀  (σ : rb_St) (σ9 : rb_St), g.2.2.2.2.2.2.1 σ = some σ9 → rb_Con rb_vM yX12_goOnOr cX12_goOnOr 1 none h0 (fun w => [.ref (rb_ad w 0)]) σ (fun _ => none) σ9) ∧ (∀  (σ : rb_St) (σ9 : rb_St), g.2.2.2.2.2.2.2 σ = some σ9 → rb_Con rb_vM yX12_condition cX12_condition 1 none h0 (fun w => [.ref (rb_ad w 0)]) σ (fun _ => none) σ9)
def xb_M_atom (g : xg_ML)  (σ : rb_St) : Option (rb_St) := rb_b2 (xf_M_look σ) fun r3 s1 => if (xf_M_isDigit r3 s1) = 0 then if (xf_M_letterOf r3 s1) = (-1) then if r3 = 91 then rb_b1 (xf_M_opens s1) fun s9 => if (s9.1 0 4) = (-1) then rb_b1 (g.2.2.1 s9) fun s12 => rb_b1 (xf_M_closes 93 s12) fun s14 => some s14 else some s9 else rb_b1 (xf_M_bad s1) fun s7 => some s7 else rb_lt (rb_sI s1 0 3 ((s1.1 0 3) + 1)) (fun s16 => rb_b1 (xf_M_put 1 (xf_M_letterOf r3 s16) s16) fun s18 => some s18) else rb_b2 (xf_M_plainNumber s1) fun r22 s20 => rb_b1 (xf_M_put 0 r22 s20) fun s23 => some s23
set_option maxHeartbeats 4000000 in
set_option maxRecDepth 100000 in
theorem xk_M_atom {z : rb_Z} {w : rb_Wd} {h0 : Nat} (hb : 3 ≤ h0) {g : xg_ML} (hg : xg_ML_ok g h0) (hC : rb_Cx z rb_vM w RX12 cX12_atom 2 none (h0 + 1))  (σ : rb_St) (σ9 : rb_St) (h : xb_M_atom g σ = some σ9) : rb_At z rb_vM w 2 (rb_Q z rb_vM w none σ9) 0 [(0, .ref (rb_ad w 0))] [] σ := by
  unfold xb_M_atom at h
  refine rb_aload_n hC 0 dX12_atom_0 rfl ?_
  obtain ⟨r3, s1, q2, h⟩ := rb_b2s h
  refine rb_callVi hC rb_VokM mv_X12_143 (xc_M_look  σ _ _ q2) rb_obM0 rfl [] rfl rfl rfl ⟨by omega, Nat.le_of_ble_eq_true rfl⟩ (Nat.le_of_ble_eq_true rfl) dX12_atom_1 ?_
  refine rb_istore_n hC [(1, .int r3), (0, .ref (rb_ad w 0))] dX12_atom_4 (by decide) rfl ?_
  refine rb_iload_n hC 0 dX12_atom_5 rfl ?_
  refine rb_callSi hC rb_VokM mv_X12_146 (xc_M_isDigit r3 s1 _ rfl) [.int r3] rfl rfl rfl ⟨by omega, Nat.le_of_ble_eq_true rfl⟩ (Nat.le_of_ble_eq_true rfl) dX12_atom_6 ?_
  refine rb_if_eq hC 24 dX12_atom_9 (by decide) (fun c4 => ?_) (fun c4 => ?_)
  · replace h := rb_ifp c4 h
    refine rb_iload_n hC 0 dX12_atom_24 rfl ?_
    refine rb_callSi hC rb_VokM mv_X12_157 (xc_M_letterOf r3 s1 _ rfl) [.int r3] rfl rfl rfl ⟨by omega, Nat.le_of_ble_eq_true rfl⟩ (Nat.le_of_ble_eq_true rfl) dX12_atom_25 ?_
    refine rb_iconst (x := (-1)) hC dX12_atom_28 (by decide) ?_
    refine rb_icmp_eq hC 54 dX12_atom_29 (by decide) (fun c5 => ?_) (fun c5 => ?_)
    · replace h := rb_ifp c5 h
      refine rb_iload_n hC 0 dX12_atom_54 rfl ?_
      refine rb_bipush (x := 91) hC dX12_atom_55 (by decide) ?_
      refine rb_icmp_ne hC 85 dX12_atom_57 (by decide) (fun c6 => ?_) (fun c6 => ?_)
      · replace h := rb_ifn c6 h
        refine rb_aload_n hC 1 dX12_atom_85 rfl ?_
        obtain ⟨s7, q8, h⟩ := rb_b1s h
        refine rb_callVv hC rb_VokM mv_X12_140 (xc_M_bad  s1 _ q8) rb_obM0 rfl [] rfl rfl rfl ⟨by omega, Nat.le_of_ble_eq_true rfl⟩ (Nat.le_of_ble_eq_true rfl) dX12_atom_86 ?_
        cases h
        exact rb_vret hC dX12_atom_89
      · replace h := rb_ifp c6 h
        refine rb_aload_n hC 1 dX12_atom_60 rfl ?_
        obtain ⟨s9, q10, h⟩ := rb_b1s h
        refine rb_callVv hC rb_VokM mv_X12_161 (xc_M_opens  s1 _ q10) rb_obM0 rfl [] rfl rfl rfl ⟨by omega, Nat.le_of_ble_eq_true rfl⟩ (Nat.le_of_ble_eq_true rfl) dX12_atom_61 ?_
        refine rb_aload_n hC 1 dX12_atom_64 rfl ?_
        refine rb_getI hC fr_X12_131_11 rb_obM0 rfl dX12_atom_65 ?_
        refine rb_iconst (x := (-1)) hC dX12_atom_68 (by decide) ?_
        refine rb_icmp_ne hC 89 dX12_atom_69 (by decide) (fun c11 => ?_) (fun c11 => ?_)
        · replace h := rb_ifn c11 h
          cases h
          exact rb_vret hC dX12_atom_89
        · replace h := rb_ifp c11 h
          refine rb_aload_n hC 1 dX12_atom_72 rfl ?_
          obtain ⟨s12, q13, h⟩ := rb_b1s h
          refine rb_callVv hC rb_VokM mv_X12_164 (hg.2.2.1  s9 _ q13) rb_obM0 rfl [] rfl rfl rfl ⟨by omega, Nat.le_of_ble_eq_true rfl⟩ (Nat.le_of_ble_eq_true rfl) dX12_atom_73 ?_
          refine rb_aload_n hC 1 dX12_atom_76 rfl ?_
          refine rb_bipush (x := 93) hC dX12_atom_77 (by decide) ?_
          obtain ⟨s14, q15, h⟩ := rb_b1s h
          refine rb_callVv hC rb_VokM mv_X12_167 (xc_M_closes 93 s12 _ q15) rb_obM0 rfl [.int 93] rfl rfl rfl ⟨by omega, Nat.le_of_ble_eq_true rfl⟩ (Nat.le_of_ble_eq_true rfl) dX12_atom_79 ?_
          refine rb_goto hC 89 dX12_atom_82 (by decide) ?_
          cases h
          exact rb_vret hC dX12_atom_89
    · replace h := rb_ifn c5 h
      refine rb_aload_n hC 1 dX12_atom_32 rfl ?_
      refine rb_dup hC dX12_atom_33 rfl ?_
      refine rb_getI hC fr_X12_124_11 rb_obM0 rfl dX12_atom_34 ?_
      refine rb_iconst (x := 1) hC dX12_atom_37 (by decide) ?_
      refine rb_iadd hC dX12_atom_38 ?_
      refine rb_putI hC fr_X12_124_11 ft_11_3 rb_obM0 rfl rfl rfl dX12_atom_39 ?_
      obtain ⟨s16, e17, h⟩ := rb_ltE h
      refine rb_nmS e17 ?_
      refine rb_aload_n hC 1 dX12_atom_42 rfl ?_
      refine rb_iconst (x := 1) hC dX12_atom_43 (by decide) ?_
      refine rb_iload_n hC 0 dX12_atom_44 rfl ?_
      refine rb_callSi hC rb_VokM mv_X12_157 (xc_M_letterOf r3 s16 _ rfl) [.int r3] rfl rfl rfl ⟨by omega, Nat.le_of_ble_eq_true rfl⟩ (Nat.le_of_ble_eq_true rfl) dX12_atom_45 ?_
      obtain ⟨s18, q19, h⟩ := rb_b1s h
      refine rb_callVv hC rb_VokM mv_X12_153 (xc_M_put 1 (xf_M_letterOf r3 s16) s16 _ q19) rb_obM0 rfl [.int 1, .int (xf_M_letterOf r3 s16)] rfl rfl rfl ⟨by omega, Nat.le_of_ble_eq_true rfl⟩ (Nat.le_of_ble_eq_true rfl) dX12_atom_48 ?_
      refine rb_goto hC 89 dX12_atom_51 (by decide) ?_
      cases h
      exact rb_vret hC dX12_atom_89
  · replace h := rb_ifn c4 h
    refine rb_aload_n hC 1 dX12_atom_12 rfl ?_
    refine rb_iconst (x := 0) hC dX12_atom_13 (by decide) ?_
    refine rb_aload_n hC 1 dX12_atom_14 rfl ?_
    obtain ⟨r22, s20, q21, h⟩ := rb_b2s h
    refine rb_callVi hC rb_VokM mv_X12_150 (xc_M_plainNumber  s1 _ _ q21) rb_obM0 rfl [] rfl rfl rfl ⟨by omega, Nat.le_of_ble_eq_true rfl⟩ (Nat.le_of_ble_eq_true rfl) dX12_atom_15 ?_
    obtain ⟨s23, q24, h⟩ := rb_b1s h
    refine rb_callVv hC rb_VokM mv_X12_153 (xc_M_put 0 r22 s20 _ q24) rb_obM0 rfl [.int 0, .int r22] rfl rfl rfl ⟨by omega, Nat.le_of_ble_eq_true rfl⟩ (Nat.le_of_ble_eq_true rfl) dX12_atom_18 ?_
    refine rb_goto hC 89 dX12_atom_21 (by decide) ?_
    cases h
    exact rb_vret hC dX12_atom_89
def xj_M_term_59 (g : xg_ML) (rc : Int32 → rb_St → Option (rb_St)) (u0 : Int32) (σ : rb_St) : Option (rb_St) := rb_b1 (xf_M_put u0 0 σ) fun s10 => if (s10.1 0 4) = (-1) then rb_b2 (xf_M_look s10) fun r15 s13 => rc r15 s13 else rc (-1) s10
set_option maxHeartbeats 4000000 in
set_option maxRecDepth 100000 in
theorem xu_M_term_59 {z : rb_Z} {w : rb_Wd} {Q : State → Prop} {h0 : Nat} (hb : 3 ≤ h0) {g : xg_ML} (hg : xg_ML_ok g h0) (hC : rb_Cx z rb_vM w RX12 cX12_term 2 none (h0 + 1))  (rc : Int32 → rb_St → Option (rb_St)) (u0 : Int32) (σ : rb_St) (σ9 : rb_St) (h : xj_M_term_59 g rc u0 σ = some σ9) (hrc : ∀ (b1 : Int32) (τ : rb_St), rc b1 τ = some σ9 → rb_At z rb_vM w 2 Q 21 [(0, .ref (rb_ad w 0)), (1, .int b1)] [] τ) (hE0 : rb_At z rb_vM w 2 Q 83 [] [] σ9) : rb_At z rb_vM w 2 Q 59 [(0, .ref (rb_ad w 0))] [.int u0, .ref (rb_ad w 0)] σ := by
  unfold xj_M_term_59 at h
  refine rb_iconst (x := 0) hC dX12_term_59 (by decide) ?_
  obtain ⟨s10, q11, h⟩ := rb_b1s h
  refine rb_callVv hC rb_VokM mv_X12_153 (xc_M_put u0 0 σ _ q11) rb_obM0 rfl [.int u0, .int 0] rfl rfl rfl ⟨by omega, Nat.le_of_ble_eq_true rfl⟩ (Nat.le_of_ble_eq_true rfl) dX12_term_60 ?_
  refine rb_aload_n hC 0 dX12_term_63 rfl ?_
  refine rb_getI hC fr_X12_131_11 rb_obM0 rfl dX12_term_64 ?_
  refine rb_iconst (x := (-1)) hC dX12_term_67 (by decide) ?_
  refine rb_icmp_ne hC 78 dX12_term_68 (by decide) (fun c12 => ?_) (fun c12 => ?_)
  · replace h := rb_ifn c12 h
    refine rb_iconst (x := (-1)) hC dX12_term_78 (by decide) ?_
    refine rb_istore_n hC [(1, .int (-1)), (0, .ref (rb_ad w 0))] dX12_term_79 (by decide) rfl ?_
    refine rb_goto hC 21 dX12_term_80 (by decide) ?_
    exact rb_sub [1, 0] rfl (hrc (-1) s10 h)
  · replace h := rb_ifp c12 h
    refine rb_aload_n hC 0 dX12_term_71 rfl ?_
    obtain ⟨r15, s13, q14, h⟩ := rb_b2s h
    refine rb_callVi hC rb_VokM mv_X12_143 (xc_M_look  s10 _ _ q14) rb_obM0 rfl [] rfl rfl rfl ⟨by omega, Nat.le_of_ble_eq_true rfl⟩ (Nat.le_of_ble_eq_true rfl) dX12_term_72 ?_
    refine rb_goto hC 79 dX12_term_75 (by decide) ?_
    refine rb_istore_n hC [(1, .int r15), (0, .ref (rb_ad w 0))] dX12_term_79 (by decide) rfl ?_
    refine rb_goto hC 21 dX12_term_80 (by decide) ?_
    exact rb_sub [1, 0] rfl (hrc r15 s13 h)
def xj_M_term_33 (g : xg_ML) (rc : Int32 → rb_St → Option (rb_St)) (x1 : Int32) (σ : rb_St) : Option (rb_St) := rb_lt (rb_sI σ 0 3 ((σ.1 0 3) + 1)) (fun s5 => rb_b1 (g.1 s5) fun s7 => if x1 = 42 then xj_M_term_59 g rc 4 s7 else xj_M_term_59 g rc 5 s7)
set_option maxHeartbeats 4000000 in
set_option maxRecDepth 100000 in
theorem xu_M_term_33 {z : rb_Z} {w : rb_Wd} {Q : State → Prop} {h0 : Nat} (hb : 3 ≤ h0) {g : xg_ML} (hg : xg_ML_ok g h0) (hC : rb_Cx z rb_vM w RX12 cX12_term 2 none (h0 + 1))  (rc : Int32 → rb_St → Option (rb_St)) (x1 : Int32) (σ : rb_St) (σ9 : rb_St) (h : xj_M_term_33 g rc x1 σ = some σ9) (hrc : ∀ (b1 : Int32) (τ : rb_St), rc b1 τ = some σ9 → rb_At z rb_vM w 2 Q 21 [(0, .ref (rb_ad w 0)), (1, .int b1)] [] τ) (hE0 : rb_At z rb_vM w 2 Q 83 [] [] σ9) : rb_At z rb_vM w 2 Q 33 [(0, .ref (rb_ad w 0)), (1, .int x1)] [] σ := by
  unfold xj_M_term_33 at h
  refine rb_aload_n hC 0 dX12_term_33 rfl ?_
  refine rb_dup hC dX12_term_34 rfl ?_
  refine rb_getI hC fr_X12_124_11 rb_obM0 rfl dX12_term_35 ?_
  refine rb_iconst (x := 1) hC dX12_term_38 (by decide) ?_
  refine rb_iadd hC dX12_term_39 ?_
  refine rb_putI hC fr_X12_124_11 ft_11_3 rb_obM0 rfl rfl rfl dX12_term_40 ?_
  obtain ⟨s5, e6, h⟩ := rb_ltE h
  refine rb_nmS e6 ?_
  refine rb_aload_n hC 0 dX12_term_43 rfl ?_
  obtain ⟨s7, q8, h⟩ := rb_b1s h
  refine rb_callVv hC rb_VokM mv_X12_171 (hg.1  s5 _ q8) rb_obM0 rfl [] rfl rfl rfl ⟨by omega, Nat.le_of_ble_eq_true rfl⟩ (Nat.le_of_ble_eq_true rfl) dX12_term_44 ?_
  refine rb_aload_n hC 0 dX12_term_47 rfl ?_
  refine rb_iload_n hC 1 dX12_term_48 rfl ?_
  refine rb_bipush (x := 42) hC dX12_term_49 (by decide) ?_
  refine rb_icmp_ne hC 58 dX12_term_51 (by decide) (fun c9 => ?_) (fun c9 => ?_)
  · replace h := rb_ifn c9 h
    refine rb_iconst (x := 5) hC dX12_term_58 (by decide) ?_
    exact rb_sub [0] rfl (xu_M_term_59 hb hg hC rc 5 s7 _ h hrc hE0)
  · replace h := rb_ifp c9 h
    refine rb_iconst (x := 4) hC dX12_term_54 (by decide) ?_
    refine rb_goto hC 59 dX12_term_55 (by decide) ?_
    exact rb_sub [0] rfl (xu_M_term_59 hb hg hC rc 4 s7 _ h hrc hE0)
def xl_M_term_21 (g : xg_ML)  : Nat → Int32 → rb_St → Option (rb_St)
  | 0, _, _ => none
  | n + 1, x1, σ => if x1 = 42 then xj_M_term_33 g (fun b1 τ => xl_M_term_21 g n b1 τ) x1 σ else if x1 = 47 then xj_M_term_33 g (fun b1 τ => xl_M_term_21 g n b1 τ) x1 σ else some σ
set_option maxHeartbeats 4000000 in
set_option maxRecDepth 100000 in
theorem xt_M_term_21 {z : rb_Z} {w : rb_Wd} {Q : State → Prop} {h0 : Nat} (hb : 3 ≤ h0) {g : xg_ML} (hg : xg_ML_ok g h0) (hC : rb_Cx z rb_vM w RX12 cX12_term 2 none (h0 + 1))  : ∀ (n : Nat) (x1 : Int32) (σ : rb_St) (σ9 : rb_St), xl_M_term_21 g n x1 σ = some σ9 → rb_At z rb_vM w 2 Q 83 [] [] σ9 → rb_At z rb_vM w 2 Q 21 [(0, .ref (rb_ad w 0)), (1, .int x1)] [] σ := by
  intro n
  induction n with
  | zero =>
    intro x1 σ σ9 h hE0
    cases h
  | succ n ih =>
    intro x1 σ σ9 h hE0
    rw [xl_M_term_21] at h
    refine rb_iload_n hC 1 dX12_term_21 rfl ?_
    refine rb_bipush (x := 42) hC dX12_term_22 (by decide) ?_
    refine rb_icmp_eq hC 33 dX12_term_24 (by decide) (fun c4 => ?_) (fun c4 => ?_)
    · replace h := rb_ifp c4 h
      exact rb_sub [0, 1] rfl (xu_M_term_33 hb hg hC (fun b1 τ => xl_M_term_21 g n b1 τ) x1 σ _ h (fun b1 τ hq => ih b1 τ _ hq hE0) hE0)
    · replace h := rb_ifn c4 h
      refine rb_iload_n hC 1 dX12_term_27 rfl ?_
      refine rb_bipush (x := 47) hC dX12_term_28 (by decide) ?_
      refine rb_icmp_ne hC 83 dX12_term_30 (by decide) (fun c16 => ?_) (fun c16 => ?_)
      · replace h := rb_ifn c16 h
        cases h
        exact rb_sub [] rfl (hE0)
      · replace h := rb_ifp c16 h
        exact rb_sub [0, 1] rfl (xu_M_term_33 hb hg hC (fun b1 τ => xl_M_term_21 g n b1 τ) x1 σ _ h (fun b1 τ hq => ih b1 τ _ hq hE0) hE0)
def xb_M_term (g : xg_ML)  (σ : rb_St) : Option (rb_St) := rb_b1 (g.1 σ) fun s1 => if (s1.1 0 4) = (-1) then rb_b2 (xf_M_look s1) fun r21 s19 => rb_b1 (xl_M_term_21 g rb_FU r21 s19) fun s22 => some s22 else rb_b1 (xl_M_term_21 g rb_FU (-1) s1) fun s17 => some s17
set_option maxHeartbeats 4000000 in
set_option maxRecDepth 100000 in
theorem xk_M_term {z : rb_Z} {w : rb_Wd} {h0 : Nat} (hb : 3 ≤ h0) {g : xg_ML} (hg : xg_ML_ok g h0) (hC : rb_Cx z rb_vM w RX12 cX12_term 2 none (h0 + 1))  (σ : rb_St) (σ9 : rb_St) (h : xb_M_term g σ = some σ9) : rb_At z rb_vM w 2 (rb_Q z rb_vM w none σ9) 0 [(0, .ref (rb_ad w 0))] [] σ := by
  unfold xb_M_term at h
  refine rb_aload_n hC 0 dX12_term_0 rfl ?_
  obtain ⟨s1, q2, h⟩ := rb_b1s h
  refine rb_callVv hC rb_VokM mv_X12_171 (hg.1  σ _ q2) rb_obM0 rfl [] rfl rfl rfl ⟨by omega, Nat.le_of_ble_eq_true rfl⟩ (Nat.le_of_ble_eq_true rfl) dX12_term_1 ?_
  refine rb_aload_n hC 0 dX12_term_4 rfl ?_
  refine rb_getI hC fr_X12_131_11 rb_obM0 rfl dX12_term_5 ?_
  refine rb_iconst (x := (-1)) hC dX12_term_8 (by decide) ?_
  refine rb_icmp_ne hC 19 dX12_term_9 (by decide) (fun c3 => ?_) (fun c3 => ?_)
  · replace h := rb_ifn c3 h
    refine rb_iconst (x := (-1)) hC dX12_term_19 (by decide) ?_
    refine rb_istore_n hC [(1, .int (-1)), (0, .ref (rb_ad w 0))] dX12_term_20 (by decide) rfl ?_
    obtain ⟨s17, q18, h⟩ := rb_b1s h
    refine rb_sub (lv2 := [(0, .ref (rb_ad w 0)), (1, .int (-1))]) [1, 0] rfl ?_
    refine xt_M_term_21 hb hg hC  rb_FU (-1) s1 _ q18 ?_
    cases h
    exact rb_vret hC dX12_term_83
  · replace h := rb_ifp c3 h
    refine rb_aload_n hC 0 dX12_term_12 rfl ?_
    obtain ⟨r21, s19, q20, h⟩ := rb_b2s h
    refine rb_callVi hC rb_VokM mv_X12_143 (xc_M_look  s1 _ _ q20) rb_obM0 rfl [] rfl rfl rfl ⟨by omega, Nat.le_of_ble_eq_true rfl⟩ (Nat.le_of_ble_eq_true rfl) dX12_term_13 ?_
    refine rb_goto hC 20 dX12_term_16 (by decide) ?_
    refine rb_istore_n hC [(1, .int r21), (0, .ref (rb_ad w 0))] dX12_term_20 (by decide) rfl ?_
    obtain ⟨s22, q23, h⟩ := rb_b1s h
    refine rb_sub (lv2 := [(0, .ref (rb_ad w 0)), (1, .int r21)]) [1, 0] rfl ?_
    refine xt_M_term_21 hb hg hC  rb_FU r21 s19 _ q23 ?_
    cases h
    exact rb_vret hC dX12_term_83
def xj_M_sum_59 (g : xg_ML) (rc : Int32 → rb_St → Option (rb_St)) (u0 : Int32) (σ : rb_St) : Option (rb_St) := rb_b1 (xf_M_put u0 0 σ) fun s10 => if (s10.1 0 4) = (-1) then rb_b2 (xf_M_look s10) fun r15 s13 => rc r15 s13 else rc (-1) s10
set_option maxHeartbeats 4000000 in
set_option maxRecDepth 100000 in
theorem xu_M_sum_59 {z : rb_Z} {w : rb_Wd} {Q : State → Prop} {h0 : Nat} (hb : 3 ≤ h0) {g : xg_ML} (hg : xg_ML_ok g h0) (hC : rb_Cx z rb_vM w RX12 cX12_sum 2 none (h0 + 1))  (rc : Int32 → rb_St → Option (rb_St)) (u0 : Int32) (σ : rb_St) (σ9 : rb_St) (h : xj_M_sum_59 g rc u0 σ = some σ9) (hrc : ∀ (b1 : Int32) (τ : rb_St), rc b1 τ = some σ9 → rb_At z rb_vM w 2 Q 21 [(0, .ref (rb_ad w 0)), (1, .int b1)] [] τ) (hE0 : rb_At z rb_vM w 2 Q 83 [] [] σ9) : rb_At z rb_vM w 2 Q 59 [(0, .ref (rb_ad w 0))] [.int u0, .ref (rb_ad w 0)] σ := by
  unfold xj_M_sum_59 at h
  refine rb_iconst (x := 0) hC dX12_sum_59 (by decide) ?_
  obtain ⟨s10, q11, h⟩ := rb_b1s h
  refine rb_callVv hC rb_VokM mv_X12_153 (xc_M_put u0 0 σ _ q11) rb_obM0 rfl [.int u0, .int 0] rfl rfl rfl ⟨by omega, Nat.le_of_ble_eq_true rfl⟩ (Nat.le_of_ble_eq_true rfl) dX12_sum_60 ?_
  refine rb_aload_n hC 0 dX12_sum_63 rfl ?_
  refine rb_getI hC fr_X12_131_11 rb_obM0 rfl dX12_sum_64 ?_
  refine rb_iconst (x := (-1)) hC dX12_sum_67 (by decide) ?_
  refine rb_icmp_ne hC 78 dX12_sum_68 (by decide) (fun c12 => ?_) (fun c12 => ?_)
  · replace h := rb_ifn c12 h
    refine rb_iconst (x := (-1)) hC dX12_sum_78 (by decide) ?_
    refine rb_istore_n hC [(1, .int (-1)), (0, .ref (rb_ad w 0))] dX12_sum_79 (by decide) rfl ?_
    refine rb_goto hC 21 dX12_sum_80 (by decide) ?_
    exact rb_sub [1, 0] rfl (hrc (-1) s10 h)
  · replace h := rb_ifp c12 h
    refine rb_aload_n hC 0 dX12_sum_71 rfl ?_
    obtain ⟨r15, s13, q14, h⟩ := rb_b2s h
    refine rb_callVi hC rb_VokM mv_X12_143 (xc_M_look  s10 _ _ q14) rb_obM0 rfl [] rfl rfl rfl ⟨by omega, Nat.le_of_ble_eq_true rfl⟩ (Nat.le_of_ble_eq_true rfl) dX12_sum_72 ?_
    refine rb_goto hC 79 dX12_sum_75 (by decide) ?_
    refine rb_istore_n hC [(1, .int r15), (0, .ref (rb_ad w 0))] dX12_sum_79 (by decide) rfl ?_
    refine rb_goto hC 21 dX12_sum_80 (by decide) ?_
    exact rb_sub [1, 0] rfl (hrc r15 s13 h)
def xj_M_sum_33 (g : xg_ML) (rc : Int32 → rb_St → Option (rb_St)) (x1 : Int32) (σ : rb_St) : Option (rb_St) := rb_lt (rb_sI σ 0 3 ((σ.1 0 3) + 1)) (fun s5 => rb_b1 (g.2.1 s5) fun s7 => if x1 = 43 then xj_M_sum_59 g rc 2 s7 else xj_M_sum_59 g rc 3 s7)
set_option maxHeartbeats 4000000 in
set_option maxRecDepth 100000 in
theorem xu_M_sum_33 {z : rb_Z} {w : rb_Wd} {Q : State → Prop} {h0 : Nat} (hb : 3 ≤ h0) {g : xg_ML} (hg : xg_ML_ok g h0) (hC : rb_Cx z rb_vM w RX12 cX12_sum 2 none (h0 + 1))  (rc : Int32 → rb_St → Option (rb_St)) (x1 : Int32) (σ : rb_St) (σ9 : rb_St) (h : xj_M_sum_33 g rc x1 σ = some σ9) (hrc : ∀ (b1 : Int32) (τ : rb_St), rc b1 τ = some σ9 → rb_At z rb_vM w 2 Q 21 [(0, .ref (rb_ad w 0)), (1, .int b1)] [] τ) (hE0 : rb_At z rb_vM w 2 Q 83 [] [] σ9) : rb_At z rb_vM w 2 Q 33 [(0, .ref (rb_ad w 0)), (1, .int x1)] [] σ := by
  unfold xj_M_sum_33 at h
  refine rb_aload_n hC 0 dX12_sum_33 rfl ?_
  refine rb_dup hC dX12_sum_34 rfl ?_
  refine rb_getI hC fr_X12_124_11 rb_obM0 rfl dX12_sum_35 ?_
  refine rb_iconst (x := 1) hC dX12_sum_38 (by decide) ?_
  refine rb_iadd hC dX12_sum_39 ?_
  refine rb_putI hC fr_X12_124_11 ft_11_3 rb_obM0 rfl rfl rfl dX12_sum_40 ?_
  obtain ⟨s5, e6, h⟩ := rb_ltE h
  refine rb_nmS e6 ?_
  refine rb_aload_n hC 0 dX12_sum_43 rfl ?_
  obtain ⟨s7, q8, h⟩ := rb_b1s h
  refine rb_callVv hC rb_VokM mv_X12_174 (hg.2.1  s5 _ q8) rb_obM0 rfl [] rfl rfl rfl ⟨by omega, Nat.le_of_ble_eq_true rfl⟩ (Nat.le_of_ble_eq_true rfl) dX12_sum_44 ?_
  refine rb_aload_n hC 0 dX12_sum_47 rfl ?_
  refine rb_iload_n hC 1 dX12_sum_48 rfl ?_
  refine rb_bipush (x := 43) hC dX12_sum_49 (by decide) ?_
  refine rb_icmp_ne hC 58 dX12_sum_51 (by decide) (fun c9 => ?_) (fun c9 => ?_)
  · replace h := rb_ifn c9 h
    refine rb_iconst (x := 3) hC dX12_sum_58 (by decide) ?_
    exact rb_sub [0] rfl (xu_M_sum_59 hb hg hC rc 3 s7 _ h hrc hE0)
  · replace h := rb_ifp c9 h
    refine rb_iconst (x := 2) hC dX12_sum_54 (by decide) ?_
    refine rb_goto hC 59 dX12_sum_55 (by decide) ?_
    exact rb_sub [0] rfl (xu_M_sum_59 hb hg hC rc 2 s7 _ h hrc hE0)
def xl_M_sum_21 (g : xg_ML)  : Nat → Int32 → rb_St → Option (rb_St)
  | 0, _, _ => none
  | n + 1, x1, σ => if x1 = 43 then xj_M_sum_33 g (fun b1 τ => xl_M_sum_21 g n b1 τ) x1 σ else if x1 = 45 then xj_M_sum_33 g (fun b1 τ => xl_M_sum_21 g n b1 τ) x1 σ else some σ
set_option maxHeartbeats 4000000 in
set_option maxRecDepth 100000 in
theorem xt_M_sum_21 {z : rb_Z} {w : rb_Wd} {Q : State → Prop} {h0 : Nat} (hb : 3 ≤ h0) {g : xg_ML} (hg : xg_ML_ok g h0) (hC : rb_Cx z rb_vM w RX12 cX12_sum 2 none (h0 + 1))  : ∀ (n : Nat) (x1 : Int32) (σ : rb_St) (σ9 : rb_St), xl_M_sum_21 g n x1 σ = some σ9 → rb_At z rb_vM w 2 Q 83 [] [] σ9 → rb_At z rb_vM w 2 Q 21 [(0, .ref (rb_ad w 0)), (1, .int x1)] [] σ := by
  intro n
  induction n with
  | zero =>
    intro x1 σ σ9 h hE0
    cases h
  | succ n ih =>
    intro x1 σ σ9 h hE0
    rw [xl_M_sum_21] at h
    refine rb_iload_n hC 1 dX12_sum_21 rfl ?_
    refine rb_bipush (x := 43) hC dX12_sum_22 (by decide) ?_
    refine rb_icmp_eq hC 33 dX12_sum_24 (by decide) (fun c4 => ?_) (fun c4 => ?_)
    · replace h := rb_ifp c4 h
      exact rb_sub [0, 1] rfl (xu_M_sum_33 hb hg hC (fun b1 τ => xl_M_sum_21 g n b1 τ) x1 σ _ h (fun b1 τ hq => ih b1 τ _ hq hE0) hE0)
    · replace h := rb_ifn c4 h
      refine rb_iload_n hC 1 dX12_sum_27 rfl ?_
      refine rb_bipush (x := 45) hC dX12_sum_28 (by decide) ?_
      refine rb_icmp_ne hC 83 dX12_sum_30 (by decide) (fun c16 => ?_) (fun c16 => ?_)
      · replace h := rb_ifn c16 h
        cases h
        exact rb_sub [] rfl (hE0)
      · replace h := rb_ifp c16 h
        exact rb_sub [0, 1] rfl (xu_M_sum_33 hb hg hC (fun b1 τ => xl_M_sum_21 g n b1 τ) x1 σ _ h (fun b1 τ hq => ih b1 τ _ hq hE0) hE0)
def xb_M_sum (g : xg_ML)  (σ : rb_St) : Option (rb_St) := rb_b1 (g.2.1 σ) fun s1 => if (s1.1 0 4) = (-1) then rb_b2 (xf_M_look s1) fun r21 s19 => rb_b1 (xl_M_sum_21 g rb_FU r21 s19) fun s22 => some s22 else rb_b1 (xl_M_sum_21 g rb_FU (-1) s1) fun s17 => some s17
set_option maxHeartbeats 4000000 in
set_option maxRecDepth 100000 in
theorem xk_M_sum {z : rb_Z} {w : rb_Wd} {h0 : Nat} (hb : 3 ≤ h0) {g : xg_ML} (hg : xg_ML_ok g h0) (hC : rb_Cx z rb_vM w RX12 cX12_sum 2 none (h0 + 1))  (σ : rb_St) (σ9 : rb_St) (h : xb_M_sum g σ = some σ9) : rb_At z rb_vM w 2 (rb_Q z rb_vM w none σ9) 0 [(0, .ref (rb_ad w 0))] [] σ := by
  unfold xb_M_sum at h
  refine rb_aload_n hC 0 dX12_sum_0 rfl ?_
  obtain ⟨s1, q2, h⟩ := rb_b1s h
  refine rb_callVv hC rb_VokM mv_X12_174 (hg.2.1  σ _ q2) rb_obM0 rfl [] rfl rfl rfl ⟨by omega, Nat.le_of_ble_eq_true rfl⟩ (Nat.le_of_ble_eq_true rfl) dX12_sum_1 ?_
  refine rb_aload_n hC 0 dX12_sum_4 rfl ?_
  refine rb_getI hC fr_X12_131_11 rb_obM0 rfl dX12_sum_5 ?_
  refine rb_iconst (x := (-1)) hC dX12_sum_8 (by decide) ?_
  refine rb_icmp_ne hC 19 dX12_sum_9 (by decide) (fun c3 => ?_) (fun c3 => ?_)
  · replace h := rb_ifn c3 h
    refine rb_iconst (x := (-1)) hC dX12_sum_19 (by decide) ?_
    refine rb_istore_n hC [(1, .int (-1)), (0, .ref (rb_ad w 0))] dX12_sum_20 (by decide) rfl ?_
    obtain ⟨s17, q18, h⟩ := rb_b1s h
    refine rb_sub (lv2 := [(0, .ref (rb_ad w 0)), (1, .int (-1))]) [1, 0] rfl ?_
    refine xt_M_sum_21 hb hg hC  rb_FU (-1) s1 _ q18 ?_
    cases h
    exact rb_vret hC dX12_sum_83
  · replace h := rb_ifp c3 h
    refine rb_aload_n hC 0 dX12_sum_12 rfl ?_
    obtain ⟨r21, s19, q20, h⟩ := rb_b2s h
    refine rb_callVi hC rb_VokM mv_X12_143 (xc_M_look  s1 _ _ q20) rb_obM0 rfl [] rfl rfl rfl ⟨by omega, Nat.le_of_ble_eq_true rfl⟩ (Nat.le_of_ble_eq_true rfl) dX12_sum_13 ?_
    refine rb_goto hC 20 dX12_sum_16 (by decide) ?_
    refine rb_istore_n hC [(1, .int r21), (0, .ref (rb_ad w 0))] dX12_sum_20 (by decide) rfl ?_
    obtain ⟨s22, q23, h⟩ := rb_b1s h
    refine rb_sub (lv2 := [(0, .ref (rb_ad w 0)), (1, .int r21)]) [1, 0] rfl ?_
    refine xt_M_sum_21 hb hg hC  rb_FU r21 s19 _ q23 ?_
    cases h
    exact rb_vret hC dX12_sum_83
def xj_M_compare_16 (g : xg_ML) (u0 : Int32) (σ : rb_St) : Option (rb_St) := if (xf_M_isSign u0 σ) = 0 then rb_b1 (xf_M_bad σ) fun s15 => some s15 else rb_lt (rb_sI σ 0 3 ((σ.1 0 3) + 1)) (fun s3 => rb_b1 (g.2.2.1 s3) fun s5 => if u0 = 61 then rb_b1 (xf_M_put 6 0 s5) fun s13 => some s13 else if u0 = 60 then rb_b1 (xf_M_put 7 0 s5) fun s11 => some s11 else rb_b1 (xf_M_put 8 0 s5) fun s9 => some s9)
set_option maxHeartbeats 4000000 in
set_option maxRecDepth 100000 in
theorem xu_M_compare_16 {z : rb_Z} {w : rb_Wd} {h0 : Nat} (hb : 3 ≤ h0) {g : xg_ML} (hg : xg_ML_ok g h0) (hC : rb_Cx z rb_vM w RX12 cX12_compare 2 none (h0 + 1)) (u0 : Int32) (σ : rb_St) (σ9 : rb_St) (h : xj_M_compare_16 g u0 σ = some σ9) : rb_At z rb_vM w 2 (rb_Q z rb_vM w none σ9) 16 [(0, .ref (rb_ad w 0))] [.int u0] σ := by
  unfold xj_M_compare_16 at h
  refine rb_istore_n hC [(1, .int u0), (0, .ref (rb_ad w 0))] dX12_compare_16 (by decide) rfl ?_
  refine rb_iload_n hC 0 dX12_compare_17 rfl ?_
  refine rb_callSi hC rb_VokM mv_X12_177 (xc_M_isSign u0 σ _ rfl) [.int u0] rfl rfl rfl ⟨by omega, Nat.le_of_ble_eq_true rfl⟩ (Nat.le_of_ble_eq_true rfl) dX12_compare_18 ?_
  refine rb_if_ne hC 29 dX12_compare_21 (by decide) (fun c2 => ?_) (fun c2 => ?_)
  · replace h := rb_ifn c2 h
    refine rb_aload_n hC 1 dX12_compare_29 rfl ?_
    refine rb_dup hC dX12_compare_30 rfl ?_
    refine rb_getI hC fr_X12_124_11 rb_obM0 rfl dX12_compare_31 ?_
    refine rb_iconst (x := 1) hC dX12_compare_34 (by decide) ?_
    refine rb_iadd hC dX12_compare_35 ?_
    refine rb_putI hC fr_X12_124_11 ft_11_3 rb_obM0 rfl rfl rfl dX12_compare_36 ?_
    obtain ⟨s3, e4, h⟩ := rb_ltE h
    refine rb_nmS e4 ?_
    refine rb_aload_n hC 1 dX12_compare_39 rfl ?_
    obtain ⟨s5, q6, h⟩ := rb_b1s h
    refine rb_callVv hC rb_VokM mv_X12_164 (hg.2.2.1  s3 _ q6) rb_obM0 rfl [] rfl rfl rfl ⟨by omega, Nat.le_of_ble_eq_true rfl⟩ (Nat.le_of_ble_eq_true rfl) dX12_compare_40 ?_
    refine rb_aload_n hC 1 dX12_compare_43 rfl ?_
    refine rb_iload_n hC 0 dX12_compare_44 rfl ?_
    refine rb_bipush (x := 61) hC dX12_compare_45 (by decide) ?_
    refine rb_icmp_ne hC 55 dX12_compare_47 (by decide) (fun c7 => ?_) (fun c7 => ?_)
    · replace h := rb_ifn c7 h
      refine rb_iload_n hC 0 dX12_compare_55 rfl ?_
      refine rb_bipush (x := 60) hC dX12_compare_56 (by decide) ?_
      refine rb_icmp_ne hC 66 dX12_compare_58 (by decide) (fun c8 => ?_) (fun c8 => ?_)
      · replace h := rb_ifn c8 h
        refine rb_bipush (x := 8) hC dX12_compare_66 (by decide) ?_
        refine rb_iconst (x := 0) hC dX12_compare_68 (by decide) ?_
        obtain ⟨s9, q10, h⟩ := rb_b1s h
        refine rb_callVv hC rb_VokM mv_X12_153 (xc_M_put 8 0 s5 _ q10) rb_obM0 rfl [.int 8, .int 0] rfl rfl rfl ⟨by omega, Nat.le_of_ble_eq_true rfl⟩ (Nat.le_of_ble_eq_true rfl) dX12_compare_69 ?_
        cases h
        exact rb_vret hC dX12_compare_72
      · replace h := rb_ifp c8 h
        refine rb_bipush (x := 7) hC dX12_compare_61 (by decide) ?_
        refine rb_goto hC 68 dX12_compare_63 (by decide) ?_
        refine rb_iconst (x := 0) hC dX12_compare_68 (by decide) ?_
        obtain ⟨s11, q12, h⟩ := rb_b1s h
        refine rb_callVv hC rb_VokM mv_X12_153 (xc_M_put 7 0 s5 _ q12) rb_obM0 rfl [.int 7, .int 0] rfl rfl rfl ⟨by omega, Nat.le_of_ble_eq_true rfl⟩ (Nat.le_of_ble_eq_true rfl) dX12_compare_69 ?_
        cases h
        exact rb_vret hC dX12_compare_72
    · replace h := rb_ifp c7 h
      refine rb_bipush (x := 6) hC dX12_compare_50 (by decide) ?_
      refine rb_goto hC 68 dX12_compare_52 (by decide) ?_
      refine rb_iconst (x := 0) hC dX12_compare_68 (by decide) ?_
      obtain ⟨s13, q14, h⟩ := rb_b1s h
      refine rb_callVv hC rb_VokM mv_X12_153 (xc_M_put 6 0 s5 _ q14) rb_obM0 rfl [.int 6, .int 0] rfl rfl rfl ⟨by omega, Nat.le_of_ble_eq_true rfl⟩ (Nat.le_of_ble_eq_true rfl) dX12_compare_69 ?_
      cases h
      exact rb_vret hC dX12_compare_72
  · replace h := rb_ifp c2 h
    refine rb_aload_n hC 1 dX12_compare_24 rfl ?_
    obtain ⟨s15, q16, h⟩ := rb_b1s h
    refine rb_callVv hC rb_VokM mv_X12_140 (xc_M_bad  σ _ q16) rb_obM0 rfl [] rfl rfl rfl ⟨by omega, Nat.le_of_ble_eq_true rfl⟩ (Nat.le_of_ble_eq_true rfl) dX12_compare_25 ?_
    cases h
    exact rb_vret hC dX12_compare_28
def xb_M_compare (g : xg_ML)  (σ : rb_St) : Option (rb_St) := if (σ.1 0 4) = (-1) then rb_b2 (xf_M_look σ) fun r19 s17 => xj_M_compare_16 g r19 s17 else xj_M_compare_16 g (-1) σ
set_option maxHeartbeats 4000000 in
set_option maxRecDepth 100000 in
theorem xk_M_compare {z : rb_Z} {w : rb_Wd} {h0 : Nat} (hb : 3 ≤ h0) {g : xg_ML} (hg : xg_ML_ok g h0) (hC : rb_Cx z rb_vM w RX12 cX12_compare 2 none (h0 + 1))  (σ : rb_St) (σ9 : rb_St) (h : xb_M_compare g σ = some σ9) : rb_At z rb_vM w 2 (rb_Q z rb_vM w none σ9) 0 [(0, .ref (rb_ad w 0))] [] σ := by
  unfold xb_M_compare at h
  refine rb_aload_n hC 0 dX12_compare_0 rfl ?_
  refine rb_getI hC fr_X12_131_11 rb_obM0 rfl dX12_compare_1 ?_
  refine rb_iconst (x := (-1)) hC dX12_compare_4 (by decide) ?_
  refine rb_icmp_ne hC 15 dX12_compare_5 (by decide) (fun c1 => ?_) (fun c1 => ?_)
  · replace h := rb_ifn c1 h
    refine rb_iconst (x := (-1)) hC dX12_compare_15 (by decide) ?_
    exact rb_sub [0] rfl (xu_M_compare_16 hb hg hC (-1) σ _ h)
  · replace h := rb_ifp c1 h
    refine rb_aload_n hC 0 dX12_compare_8 rfl ?_
    obtain ⟨r19, s17, q18, h⟩ := rb_b2s h
    refine rb_callVi hC rb_VokM mv_X12_143 (xc_M_look  σ _ _ q18) rb_obM0 rfl [] rfl rfl rfl ⟨by omega, Nat.le_of_ble_eq_true rfl⟩ (Nat.le_of_ble_eq_true rfl) dX12_compare_9 ?_
    refine rb_goto hC 16 dX12_compare_12 (by decide) ?_
    exact rb_sub [0] rfl (xu_M_compare_16 hb hg hC r19 s17 _ h)
def xb_M_unit (g : xg_ML)  (σ : rb_St) : Option (rb_St) := rb_b2 (xf_M_look σ) fun r3 s1 => if r3 = 33 then rb_b1 (xf_M_opens s1) fun s18 => if (s18.1 0 4) = (-1) then rb_b1 (g.2.2.2.2.1 s18) fun s21 => rb_b1 (xf_M_put 9 0 s21) fun s23 => rb_lt (rb_sI s23 0 5 ((s23.1 0 5) - 1)) (fun s25 => some s25) else some s18 else if r3 = 40 then rb_b1 (xf_M_opens s1) fun s11 => if (s11.1 0 4) = (-1) then rb_b1 (g.2.2.2.2.2.2.2 s11) fun s14 => rb_b1 (xf_M_closes 41 s14) fun s16 => some s16 else some s11 else rb_b1 (g.2.2.1 s1) fun s6 => if (s6.1 0 4) = (-1) then rb_b1 (g.2.2.2.1 s6) fun s9 => some s9 else some s6
set_option maxHeartbeats 4000000 in
set_option maxRecDepth 100000 in
theorem xk_M_unit {z : rb_Z} {w : rb_Wd} {h0 : Nat} (hb : 3 ≤ h0) {g : xg_ML} (hg : xg_ML_ok g h0) (hC : rb_Cx z rb_vM w RX12 cX12_unit 2 none (h0 + 1))  (σ : rb_St) (σ9 : rb_St) (h : xb_M_unit g σ = some σ9) : rb_At z rb_vM w 2 (rb_Q z rb_vM w none σ9) 0 [(0, .ref (rb_ad w 0))] [] σ := by
  unfold xb_M_unit at h
  refine rb_aload_n hC 0 dX12_unit_0 rfl ?_
  obtain ⟨r3, s1, q2, h⟩ := rb_b2s h
  refine rb_callVi hC rb_VokM mv_X12_143 (xc_M_look  σ _ _ q2) rb_obM0 rfl [] rfl rfl rfl ⟨by omega, Nat.le_of_ble_eq_true rfl⟩ (Nat.le_of_ble_eq_true rfl) dX12_unit_1 ?_
  refine rb_istore_n hC [(1, .int r3), (0, .ref (rb_ad w 0))] dX12_unit_4 (by decide) rfl ?_
  refine rb_iload_n hC 0 dX12_unit_5 rfl ?_
  refine rb_bipush (x := 33) hC dX12_unit_6 (by decide) ?_
  refine rb_icmp_ne hC 47 dX12_unit_8 (by decide) (fun c4 => ?_) (fun c4 => ?_)
  · replace h := rb_ifn c4 h
    refine rb_iload_n hC 0 dX12_unit_47 rfl ?_
    refine rb_bipush (x := 40) hC dX12_unit_48 (by decide) ?_
    refine rb_icmp_ne hC 78 dX12_unit_50 (by decide) (fun c5 => ?_) (fun c5 => ?_)
    · replace h := rb_ifn c5 h
      refine rb_aload_n hC 1 dX12_unit_78 rfl ?_
      obtain ⟨s6, q7, h⟩ := rb_b1s h
      refine rb_callVv hC rb_VokM mv_X12_164 (hg.2.2.1  s1 _ q7) rb_obM0 rfl [] rfl rfl rfl ⟨by omega, Nat.le_of_ble_eq_true rfl⟩ (Nat.le_of_ble_eq_true rfl) dX12_unit_79 ?_
      refine rb_aload_n hC 1 dX12_unit_82 rfl ?_
      refine rb_getI hC fr_X12_131_11 rb_obM0 rfl dX12_unit_83 ?_
      refine rb_iconst (x := (-1)) hC dX12_unit_86 (by decide) ?_
      refine rb_icmp_ne hC 94 dX12_unit_87 (by decide) (fun c8 => ?_) (fun c8 => ?_)
      · replace h := rb_ifn c8 h
        cases h
        exact rb_vret hC dX12_unit_94
      · replace h := rb_ifp c8 h
        refine rb_aload_n hC 1 dX12_unit_90 rfl ?_
        obtain ⟨s9, q10, h⟩ := rb_b1s h
        refine rb_callVv hC rb_VokM mv_X12_186 (hg.2.2.2.1  s6 _ q10) rb_obM0 rfl [] rfl rfl rfl ⟨by omega, Nat.le_of_ble_eq_true rfl⟩ (Nat.le_of_ble_eq_true rfl) dX12_unit_91 ?_
        cases h
        exact rb_vret hC dX12_unit_94
    · replace h := rb_ifp c5 h
      refine rb_aload_n hC 1 dX12_unit_53 rfl ?_
      obtain ⟨s11, q12, h⟩ := rb_b1s h
      refine rb_callVv hC rb_VokM mv_X12_161 (xc_M_opens  s1 _ q12) rb_obM0 rfl [] rfl rfl rfl ⟨by omega, Nat.le_of_ble_eq_true rfl⟩ (Nat.le_of_ble_eq_true rfl) dX12_unit_54 ?_
      refine rb_aload_n hC 1 dX12_unit_57 rfl ?_
      refine rb_getI hC fr_X12_131_11 rb_obM0 rfl dX12_unit_58 ?_
      refine rb_iconst (x := (-1)) hC dX12_unit_61 (by decide) ?_
      refine rb_icmp_ne hC 94 dX12_unit_62 (by decide) (fun c13 => ?_) (fun c13 => ?_)
      · replace h := rb_ifn c13 h
        cases h
        exact rb_vret hC dX12_unit_94
      · replace h := rb_ifp c13 h
        refine rb_aload_n hC 1 dX12_unit_65 rfl ?_
        obtain ⟨s14, q15, h⟩ := rb_b1s h
        refine rb_callVv hC rb_VokM mv_X12_183 (hg.2.2.2.2.2.2.2  s11 _ q15) rb_obM0 rfl [] rfl rfl rfl ⟨by omega, Nat.le_of_ble_eq_true rfl⟩ (Nat.le_of_ble_eq_true rfl) dX12_unit_66 ?_
        refine rb_aload_n hC 1 dX12_unit_69 rfl ?_
        refine rb_bipush (x := 41) hC dX12_unit_70 (by decide) ?_
        obtain ⟨s16, q17, h⟩ := rb_b1s h
        refine rb_callVv hC rb_VokM mv_X12_167 (xc_M_closes 41 s14 _ q17) rb_obM0 rfl [.int 41] rfl rfl rfl ⟨by omega, Nat.le_of_ble_eq_true rfl⟩ (Nat.le_of_ble_eq_true rfl) dX12_unit_72 ?_
        refine rb_goto hC 94 dX12_unit_75 (by decide) ?_
        cases h
        exact rb_vret hC dX12_unit_94
  · replace h := rb_ifp c4 h
    refine rb_aload_n hC 1 dX12_unit_11 rfl ?_
    obtain ⟨s18, q19, h⟩ := rb_b1s h
    refine rb_callVv hC rb_VokM mv_X12_161 (xc_M_opens  s1 _ q19) rb_obM0 rfl [] rfl rfl rfl ⟨by omega, Nat.le_of_ble_eq_true rfl⟩ (Nat.le_of_ble_eq_true rfl) dX12_unit_12 ?_
    refine rb_aload_n hC 1 dX12_unit_15 rfl ?_
    refine rb_getI hC fr_X12_131_11 rb_obM0 rfl dX12_unit_16 ?_
    refine rb_iconst (x := (-1)) hC dX12_unit_19 (by decide) ?_
    refine rb_icmp_ne hC 94 dX12_unit_20 (by decide) (fun c20 => ?_) (fun c20 => ?_)
    · replace h := rb_ifn c20 h
      cases h
      exact rb_vret hC dX12_unit_94
    · replace h := rb_ifp c20 h
      refine rb_aload_n hC 1 dX12_unit_23 rfl ?_
      obtain ⟨s21, q22, h⟩ := rb_b1s h
      refine rb_callVv hC rb_VokM mv_X12_180 (hg.2.2.2.2.1  s18 _ q22) rb_obM0 rfl [] rfl rfl rfl ⟨by omega, Nat.le_of_ble_eq_true rfl⟩ (Nat.le_of_ble_eq_true rfl) dX12_unit_24 ?_
      refine rb_aload_n hC 1 dX12_unit_27 rfl ?_
      refine rb_bipush (x := 9) hC dX12_unit_28 (by decide) ?_
      refine rb_iconst (x := 0) hC dX12_unit_30 (by decide) ?_
      obtain ⟨s23, q24, h⟩ := rb_b1s h
      refine rb_callVv hC rb_VokM mv_X12_153 (xc_M_put 9 0 s21 _ q24) rb_obM0 rfl [.int 9, .int 0] rfl rfl rfl ⟨by omega, Nat.le_of_ble_eq_true rfl⟩ (Nat.le_of_ble_eq_true rfl) dX12_unit_31 ?_
      refine rb_aload_n hC 1 dX12_unit_34 rfl ?_
      refine rb_dup hC dX12_unit_35 rfl ?_
      refine rb_getI hC fr_X12_137_11 rb_obM0 rfl dX12_unit_36 ?_
      refine rb_iconst (x := 1) hC dX12_unit_39 (by decide) ?_
      refine rb_isub hC dX12_unit_40 ?_
      refine rb_putI hC fr_X12_137_11 ft_11_5 rb_obM0 rfl rfl rfl dX12_unit_41 ?_
      obtain ⟨s25, e26, h⟩ := rb_ltE h
      refine rb_nmS e26 ?_
      refine rb_goto hC 94 dX12_unit_44 (by decide) ?_
      cases h
      exact rb_vret hC dX12_unit_94
def xl_M_goOnAnd_0 (g : xg_ML)  : Nat → rb_St → Option (rb_St)
  | 0, _ => none
  | n + 1, σ => if (σ.1 0 4) = (-1) then rb_b2 (xf_M_look σ) fun r4 s2 => if r4 = 38 then rb_lt (rb_sI s2 0 3 ((s2.1 0 3) + 1)) (fun s6 => rb_b1 (g.2.2.2.2.1 s6) fun s8 => rb_b1 (xf_M_put 10 0 s8) fun s10 => xl_M_goOnAnd_0 g n s10) else some s2 else some σ
set_option maxHeartbeats 4000000 in
set_option maxRecDepth 100000 in
theorem xt_M_goOnAnd_0 {z : rb_Z} {w : rb_Wd} {Q : State → Prop} {h0 : Nat} (hb : 3 ≤ h0) {g : xg_ML} (hg : xg_ML_ok g h0) (hC : rb_Cx z rb_vM w RX12 cX12_goOnAnd 1 none (h0 + 1))  : ∀ (n : Nat) (σ : rb_St) (σ9 : rb_St), xl_M_goOnAnd_0 g n σ = some σ9 → rb_At z rb_vM w 1 Q 41 [] [] σ9 → rb_At z rb_vM w 1 Q 0 [(0, .ref (rb_ad w 0))] [] σ := by
  intro n
  induction n with
  | zero =>
    intro σ σ9 h hE0
    cases h
  | succ n ih =>
    intro σ σ9 h hE0
    rw [xl_M_goOnAnd_0] at h
    refine rb_aload_n hC 0 dX12_goOnAnd_0 rfl ?_
    refine rb_getI hC fr_X12_131_11 rb_obM0 rfl dX12_goOnAnd_1 ?_
    refine rb_iconst (x := (-1)) hC dX12_goOnAnd_4 (by decide) ?_
    refine rb_icmp_ne hC 41 dX12_goOnAnd_5 (by decide) (fun c1 => ?_) (fun c1 => ?_)
    · replace h := rb_ifn c1 h
      cases h
      exact rb_sub [] rfl (hE0)
    · replace h := rb_ifp c1 h
      refine rb_aload_n hC 0 dX12_goOnAnd_8 rfl ?_
      obtain ⟨r4, s2, q3, h⟩ := rb_b2s h
      refine rb_callVi hC rb_VokM mv_X12_143 (xc_M_look  σ _ _ q3) rb_obM0 rfl [] rfl rfl rfl ⟨by omega, Nat.le_of_ble_eq_true rfl⟩ (Nat.le_of_ble_eq_true rfl) dX12_goOnAnd_9 ?_
      refine rb_bipush (x := 38) hC dX12_goOnAnd_12 (by decide) ?_
      refine rb_icmp_ne hC 41 dX12_goOnAnd_14 (by decide) (fun c5 => ?_) (fun c5 => ?_)
      · replace h := rb_ifn c5 h
        cases h
        exact rb_sub [] rfl (hE0)
      · replace h := rb_ifp c5 h
        refine rb_aload_n hC 0 dX12_goOnAnd_17 rfl ?_
        refine rb_dup hC dX12_goOnAnd_18 rfl ?_
        refine rb_getI hC fr_X12_124_11 rb_obM0 rfl dX12_goOnAnd_19 ?_
        refine rb_iconst (x := 1) hC dX12_goOnAnd_22 (by decide) ?_
        refine rb_iadd hC dX12_goOnAnd_23 ?_
        refine rb_putI hC fr_X12_124_11 ft_11_3 rb_obM0 rfl rfl rfl dX12_goOnAnd_24 ?_
        obtain ⟨s6, e7, h⟩ := rb_ltE h
        refine rb_nmS e7 ?_
        refine rb_aload_n hC 0 dX12_goOnAnd_27 rfl ?_
        obtain ⟨s8, q9, h⟩ := rb_b1s h
        refine rb_callVv hC rb_VokM mv_X12_180 (hg.2.2.2.2.1  s6 _ q9) rb_obM0 rfl [] rfl rfl rfl ⟨by omega, Nat.le_of_ble_eq_true rfl⟩ (Nat.le_of_ble_eq_true rfl) dX12_goOnAnd_28 ?_
        refine rb_aload_n hC 0 dX12_goOnAnd_31 rfl ?_
        refine rb_bipush (x := 10) hC dX12_goOnAnd_32 (by decide) ?_
        refine rb_iconst (x := 0) hC dX12_goOnAnd_34 (by decide) ?_
        obtain ⟨s10, q11, h⟩ := rb_b1s h
        refine rb_callVv hC rb_VokM mv_X12_153 (xc_M_put 10 0 s8 _ q11) rb_obM0 rfl [.int 10, .int 0] rfl rfl rfl ⟨by omega, Nat.le_of_ble_eq_true rfl⟩ (Nat.le_of_ble_eq_true rfl) dX12_goOnAnd_35 ?_
        refine rb_goto hC 0 dX12_goOnAnd_38 (by decide) ?_
        exact rb_sub [0] rfl (ih s10 _ h hE0)
def xb_M_goOnAnd (g : xg_ML)  (σ : rb_St) : Option (rb_St) := rb_b1 (xl_M_goOnAnd_0 g rb_FU σ) fun s12 => some s12
set_option maxHeartbeats 4000000 in
set_option maxRecDepth 100000 in
theorem xk_M_goOnAnd {z : rb_Z} {w : rb_Wd} {h0 : Nat} (hb : 3 ≤ h0) {g : xg_ML} (hg : xg_ML_ok g h0) (hC : rb_Cx z rb_vM w RX12 cX12_goOnAnd 1 none (h0 + 1))  (σ : rb_St) (σ9 : rb_St) (h : xb_M_goOnAnd g σ = some σ9) : rb_At z rb_vM w 1 (rb_Q z rb_vM w none σ9) 0 [(0, .ref (rb_ad w 0))] [] σ := by
  unfold xb_M_goOnAnd at h
  obtain ⟨s12, q13, h⟩ := rb_b1s h
  refine rb_sub (lv2 := [(0, .ref (rb_ad w 0))]) [0] rfl ?_
  refine xt_M_goOnAnd_0 hb hg hC  rb_FU σ _ q13 ?_
  cases h
  exact rb_vret hC dX12_goOnAnd_41
def xl_M_goOnOr_0 (g : xg_ML)  : Nat → rb_St → Option (rb_St)
  | 0, _ => none
  | n + 1, σ => if (σ.1 0 4) = (-1) then rb_b2 (xf_M_look σ) fun r4 s2 => if r4 = 124 then rb_lt (rb_sI s2 0 3 ((s2.1 0 3) + 1)) (fun s6 => rb_b1 (g.2.2.2.2.1 s6) fun s8 => rb_b1 (g.2.2.2.2.2.1 s8) fun s10 => rb_b1 (xf_M_put 11 0 s10) fun s12 => xl_M_goOnOr_0 g n s12) else some s2 else some σ
set_option maxHeartbeats 4000000 in
set_option maxRecDepth 100000 in
theorem xt_M_goOnOr_0 {z : rb_Z} {w : rb_Wd} {Q : State → Prop} {h0 : Nat} (hb : 3 ≤ h0) {g : xg_ML} (hg : xg_ML_ok g h0) (hC : rb_Cx z rb_vM w RX12 cX12_goOnOr 1 none (h0 + 1))  : ∀ (n : Nat) (σ : rb_St) (σ9 : rb_St), xl_M_goOnOr_0 g n σ = some σ9 → rb_At z rb_vM w 1 Q 45 [] [] σ9 → rb_At z rb_vM w 1 Q 0 [(0, .ref (rb_ad w 0))] [] σ := by
  intro n
  induction n with
  | zero =>
    intro σ σ9 h hE0
    cases h
  | succ n ih =>
    intro σ σ9 h hE0
    rw [xl_M_goOnOr_0] at h
    refine rb_aload_n hC 0 dX12_goOnOr_0 rfl ?_
    refine rb_getI hC fr_X12_131_11 rb_obM0 rfl dX12_goOnOr_1 ?_
    refine rb_iconst (x := (-1)) hC dX12_goOnOr_4 (by decide) ?_
    refine rb_icmp_ne hC 45 dX12_goOnOr_5 (by decide) (fun c1 => ?_) (fun c1 => ?_)
    · replace h := rb_ifn c1 h
      cases h
      exact rb_sub [] rfl (hE0)
    · replace h := rb_ifp c1 h
      refine rb_aload_n hC 0 dX12_goOnOr_8 rfl ?_
      obtain ⟨r4, s2, q3, h⟩ := rb_b2s h
      refine rb_callVi hC rb_VokM mv_X12_143 (xc_M_look  σ _ _ q3) rb_obM0 rfl [] rfl rfl rfl ⟨by omega, Nat.le_of_ble_eq_true rfl⟩ (Nat.le_of_ble_eq_true rfl) dX12_goOnOr_9 ?_
      refine rb_bipush (x := 124) hC dX12_goOnOr_12 (by decide) ?_
      refine rb_icmp_ne hC 45 dX12_goOnOr_14 (by decide) (fun c5 => ?_) (fun c5 => ?_)
      · replace h := rb_ifn c5 h
        cases h
        exact rb_sub [] rfl (hE0)
      · replace h := rb_ifp c5 h
        refine rb_aload_n hC 0 dX12_goOnOr_17 rfl ?_
        refine rb_dup hC dX12_goOnOr_18 rfl ?_
        refine rb_getI hC fr_X12_124_11 rb_obM0 rfl dX12_goOnOr_19 ?_
        refine rb_iconst (x := 1) hC dX12_goOnOr_22 (by decide) ?_
        refine rb_iadd hC dX12_goOnOr_23 ?_
        refine rb_putI hC fr_X12_124_11 ft_11_3 rb_obM0 rfl rfl rfl dX12_goOnOr_24 ?_
        obtain ⟨s6, e7, h⟩ := rb_ltE h
        refine rb_nmS e7 ?_
        refine rb_aload_n hC 0 dX12_goOnOr_27 rfl ?_
        obtain ⟨s8, q9, h⟩ := rb_b1s h
        refine rb_callVv hC rb_VokM mv_X12_180 (hg.2.2.2.2.1  s6 _ q9) rb_obM0 rfl [] rfl rfl rfl ⟨by omega, Nat.le_of_ble_eq_true rfl⟩ (Nat.le_of_ble_eq_true rfl) dX12_goOnOr_28 ?_
        refine rb_aload_n hC 0 dX12_goOnOr_31 rfl ?_
        obtain ⟨s10, q11, h⟩ := rb_b1s h
        refine rb_callVv hC rb_VokM mv_X12_189 (hg.2.2.2.2.2.1  s8 _ q11) rb_obM0 rfl [] rfl rfl rfl ⟨by omega, Nat.le_of_ble_eq_true rfl⟩ (Nat.le_of_ble_eq_true rfl) dX12_goOnOr_32 ?_
        refine rb_aload_n hC 0 dX12_goOnOr_35 rfl ?_
        refine rb_bipush (x := 11) hC dX12_goOnOr_36 (by decide) ?_
        refine rb_iconst (x := 0) hC dX12_goOnOr_38 (by decide) ?_
        obtain ⟨s12, q13, h⟩ := rb_b1s h
        refine rb_callVv hC rb_VokM mv_X12_153 (xc_M_put 11 0 s10 _ q13) rb_obM0 rfl [.int 11, .int 0] rfl rfl rfl ⟨by omega, Nat.le_of_ble_eq_true rfl⟩ (Nat.le_of_ble_eq_true rfl) dX12_goOnOr_39 ?_
        refine rb_goto hC 0 dX12_goOnOr_42 (by decide) ?_
        exact rb_sub [0] rfl (ih s12 _ h hE0)
def xb_M_goOnOr (g : xg_ML)  (σ : rb_St) : Option (rb_St) := rb_b1 (xl_M_goOnOr_0 g rb_FU σ) fun s14 => some s14
set_option maxHeartbeats 4000000 in
set_option maxRecDepth 100000 in
theorem xk_M_goOnOr {z : rb_Z} {w : rb_Wd} {h0 : Nat} (hb : 3 ≤ h0) {g : xg_ML} (hg : xg_ML_ok g h0) (hC : rb_Cx z rb_vM w RX12 cX12_goOnOr 1 none (h0 + 1))  (σ : rb_St) (σ9 : rb_St) (h : xb_M_goOnOr g σ = some σ9) : rb_At z rb_vM w 1 (rb_Q z rb_vM w none σ9) 0 [(0, .ref (rb_ad w 0))] [] σ := by
  unfold xb_M_goOnOr at h
  obtain ⟨s14, q15, h⟩ := rb_b1s h
  refine rb_sub (lv2 := [(0, .ref (rb_ad w 0))]) [0] rfl ?_
  refine xt_M_goOnOr_0 hb hg hC  rb_FU σ _ q15 ?_
  cases h
  exact rb_vret hC dX12_goOnOr_45
def xb_M_condition (g : xg_ML)  (σ : rb_St) : Option (rb_St) := rb_b1 (g.2.2.2.2.1 σ) fun s1 => rb_b1 (g.2.2.2.2.2.1 s1) fun s3 => rb_b1 (g.2.2.2.2.2.2.1 s3) fun s5 => some s5
set_option maxHeartbeats 4000000 in
set_option maxRecDepth 100000 in
theorem xk_M_condition {z : rb_Z} {w : rb_Wd} {h0 : Nat} (hb : 3 ≤ h0) {g : xg_ML} (hg : xg_ML_ok g h0) (hC : rb_Cx z rb_vM w RX12 cX12_condition 1 none (h0 + 1))  (σ : rb_St) (σ9 : rb_St) (h : xb_M_condition g σ = some σ9) : rb_At z rb_vM w 1 (rb_Q z rb_vM w none σ9) 0 [(0, .ref (rb_ad w 0))] [] σ := by
  unfold xb_M_condition at h
  refine rb_aload_n hC 0 dX12_condition_0 rfl ?_
  obtain ⟨s1, q2, h⟩ := rb_b1s h
  refine rb_callVv hC rb_VokM mv_X12_180 (hg.2.2.2.2.1  σ _ q2) rb_obM0 rfl [] rfl rfl rfl ⟨by omega, Nat.le_of_ble_eq_true rfl⟩ (Nat.le_of_ble_eq_true rfl) dX12_condition_1 ?_
  refine rb_aload_n hC 0 dX12_condition_4 rfl ?_
  obtain ⟨s3, q4, h⟩ := rb_b1s h
  refine rb_callVv hC rb_VokM mv_X12_189 (hg.2.2.2.2.2.1  s1 _ q4) rb_obM0 rfl [] rfl rfl rfl ⟨by omega, Nat.le_of_ble_eq_true rfl⟩ (Nat.le_of_ble_eq_true rfl) dX12_condition_5 ?_
  refine rb_aload_n hC 0 dX12_condition_8 rfl ?_
  obtain ⟨s5, q6, h⟩ := rb_b1s h
  refine rb_callVv hC rb_VokM mv_X12_192 (hg.2.2.2.2.2.2.1  s3 _ q6) rb_obM0 rfl [] rfl rfl rfl ⟨by omega, Nat.le_of_ble_eq_true rfl⟩ (Nat.le_of_ble_eq_true rfl) dX12_condition_9 ?_
  cases h
  exact rb_vret hC dX12_condition_12
def xG_ML : Nat → xg_ML
  | 0 => (fun _ => none, fun _ => none, fun _ => none, fun _ => none, fun _ => none, fun _ => none, fun _ => none, fun _ => none)
  | d + 1 => (xb_M_atom (xG_ML d), xb_M_term (xG_ML d), xb_M_sum (xG_ML d), xb_M_compare (xG_ML d), xb_M_unit (xG_ML d), xb_M_goOnAnd (xG_ML d), xb_M_goOnOr (xG_ML d), xb_M_condition (xG_ML d))
theorem xG_ML_all : ∀ d : Nat, xg_ML_ok (xG_ML d) (3 + d) := by
  intro d
  induction d with
  | zero => exact ⟨(fun _ _ h => by cases h), (fun _ _ h => by cases h), (fun _ _ h => by cases h), (fun _ _ h => by cases h), (fun _ _ h => by cases h), (fun _ _ h => by cases h), (fun _ _ h => by cases h), (fun _ _ h => by cases h)⟩
  | succ d ih =>
    have hb : 3 ≤ 3 + d := Nat.le_add_right _ _
    exact ⟨fun  σ σ9 h => rb_Con.of (by decide +kernel) (fun _ => Nat.le_of_ble_eq_true rfl) (fun z w hC => xk_M_atom hb ih hC  σ σ9 h),
      fun  σ σ9 h => rb_Con.of (by decide +kernel) (fun _ => Nat.le_of_ble_eq_true rfl) (fun z w hC => xk_M_term hb ih hC  σ σ9 h),
      fun  σ σ9 h => rb_Con.of (by decide +kernel) (fun _ => Nat.le_of_ble_eq_true rfl) (fun z w hC => xk_M_sum hb ih hC  σ σ9 h),
      fun  σ σ9 h => rb_Con.of (by decide +kernel) (fun _ => Nat.le_of_ble_eq_true rfl) (fun z w hC => xk_M_compare hb ih hC  σ σ9 h),
      fun  σ σ9 h => rb_Con.of (by decide +kernel) (fun _ => Nat.le_of_ble_eq_true rfl) (fun z w hC => xk_M_unit hb ih hC  σ σ9 h),
      fun  σ σ9 h => rb_Con.of (by decide +kernel) (fun _ => Nat.le_of_ble_eq_true rfl) (fun z w hC => xk_M_goOnAnd hb ih hC  σ σ9 h),
      fun  σ σ9 h => rb_Con.of (by decide +kernel) (fun _ => Nat.le_of_ble_eq_true rfl) (fun z w hC => xk_M_goOnOr hb ih hC  σ σ9 h),
      fun  σ σ9 h => rb_Con.of (by decide +kernel) (fun _ => Nat.le_of_ble_eq_true rfl) (fun z w hC => xk_M_condition hb ih hC  σ σ9 h)⟩
def xf_M_atom (d : Nat)  (σ : rb_St) : Option (rb_St) := (xG_ML d).1 σ
theorem xc_M_atom (d : Nat)  (σ : rb_St) (σ9 : rb_St) (h : xf_M_atom d σ = some σ9) : rb_Con rb_vM yX12_atom cX12_atom 2 none (3 + d) (fun w => [.ref (rb_ad w 0)]) σ (fun _ => none) σ9 := (xG_ML_all d).1  σ σ9 h
def xf_M_term (d : Nat)  (σ : rb_St) : Option (rb_St) := (xG_ML d).2.1 σ
theorem xc_M_term (d : Nat)  (σ : rb_St) (σ9 : rb_St) (h : xf_M_term d σ = some σ9) : rb_Con rb_vM yX12_term cX12_term 2 none (3 + d) (fun w => [.ref (rb_ad w 0)]) σ (fun _ => none) σ9 := (xG_ML_all d).2.1  σ σ9 h
def xf_M_sum (d : Nat)  (σ : rb_St) : Option (rb_St) := (xG_ML d).2.2.1 σ
theorem xc_M_sum (d : Nat)  (σ : rb_St) (σ9 : rb_St) (h : xf_M_sum d σ = some σ9) : rb_Con rb_vM yX12_sum cX12_sum 2 none (3 + d) (fun w => [.ref (rb_ad w 0)]) σ (fun _ => none) σ9 := (xG_ML_all d).2.2.1  σ σ9 h
def xf_M_compare (d : Nat)  (σ : rb_St) : Option (rb_St) := (xG_ML d).2.2.2.1 σ
theorem xc_M_compare (d : Nat)  (σ : rb_St) (σ9 : rb_St) (h : xf_M_compare d σ = some σ9) : rb_Con rb_vM yX12_compare cX12_compare 2 none (3 + d) (fun w => [.ref (rb_ad w 0)]) σ (fun _ => none) σ9 := (xG_ML_all d).2.2.2.1  σ σ9 h
def xf_M_unit (d : Nat)  (σ : rb_St) : Option (rb_St) := (xG_ML d).2.2.2.2.1 σ
theorem xc_M_unit (d : Nat)  (σ : rb_St) (σ9 : rb_St) (h : xf_M_unit d σ = some σ9) : rb_Con rb_vM yX12_unit cX12_unit 2 none (3 + d) (fun w => [.ref (rb_ad w 0)]) σ (fun _ => none) σ9 := (xG_ML_all d).2.2.2.2.1  σ σ9 h
def xf_M_goOnAnd (d : Nat)  (σ : rb_St) : Option (rb_St) := (xG_ML d).2.2.2.2.2.1 σ
theorem xc_M_goOnAnd (d : Nat)  (σ : rb_St) (σ9 : rb_St) (h : xf_M_goOnAnd d σ = some σ9) : rb_Con rb_vM yX12_goOnAnd cX12_goOnAnd 1 none (3 + d) (fun w => [.ref (rb_ad w 0)]) σ (fun _ => none) σ9 := (xG_ML_all d).2.2.2.2.2.1  σ σ9 h
def xf_M_goOnOr (d : Nat)  (σ : rb_St) : Option (rb_St) := (xG_ML d).2.2.2.2.2.2.1 σ
theorem xc_M_goOnOr (d : Nat)  (σ : rb_St) (σ9 : rb_St) (h : xf_M_goOnOr d σ = some σ9) : rb_Con rb_vM yX12_goOnOr cX12_goOnOr 1 none (3 + d) (fun w => [.ref (rb_ad w 0)]) σ (fun _ => none) σ9 := (xG_ML_all d).2.2.2.2.2.2.1  σ σ9 h
def xf_M_condition (d : Nat)  (σ : rb_St) : Option (rb_St) := (xG_ML d).2.2.2.2.2.2.2 σ
theorem xc_M_condition (d : Nat)  (σ : rb_St) (σ9 : rb_St) (h : xf_M_condition d σ = some σ9) : rb_Con rb_vM yX12_condition cX12_condition 1 none (3 + d) (fun w => [.ref (rb_ad w 0)]) σ (fun _ => none) σ9 := (xG_ML_all d).2.2.2.2.2.2.2  σ σ9 h
theorem me_X12_readRow : Cond.instanceMethod yX12_readRow ∈ rb_tbl ∧ Cond.selects yX12_readRow.cls yX12_readRow yX12_readRow ∈ rb_tbl ∧ Cond.initialized yX12_readRow.cls ∈ rb_tbl ∧ Cond.code yX12_readRow cX12_readRow 5 none ∈ rb_tbl ∧ rb_pn yX12_readRow 2 := ⟨rb_in (by decide +kernel) (by decide +kernel), rb_in (by decide +kernel) (by decide +kernel), rb_in (by decide +kernel) (by decide +kernel), rb_in (by decide +kernel) (by decide +kernel), by decide +kernel, by decide +kernel, by decide +kernel⟩
theorem mv_X12_265 : rb_MV RX12 265 yX12_readRow cX12_readRow 5 none 2 := ⟨rb_in (by decide +kernel) (by decide +kernel), me_X12_readRow⟩
theorem me_X12_readCross : Cond.instanceMethod yX12_readCross ∈ rb_tbl ∧ Cond.selects yX12_readCross.cls yX12_readCross yX12_readCross ∈ rb_tbl ∧ Cond.initialized yX12_readCross.cls ∈ rb_tbl ∧ Cond.code yX12_readCross cX12_readCross 3 none ∈ rb_tbl ∧ rb_pn yX12_readCross 1 := ⟨rb_in (by decide +kernel) (by decide +kernel), rb_in (by decide +kernel) (by decide +kernel), rb_in (by decide +kernel) (by decide +kernel), rb_in (by decide +kernel) (by decide +kernel), by decide +kernel, by decide +kernel, by decide +kernel⟩
theorem mv_X12_268 : rb_MV RX12 268 yX12_readCross cX12_readCross 3 none 1 := ⟨rb_in (by decide +kernel) (by decide +kernel), me_X12_readCross⟩
theorem me_X12_readAgain : Cond.instanceMethod yX12_readAgain ∈ rb_tbl ∧ Cond.selects yX12_readAgain.cls yX12_readAgain yX12_readAgain ∈ rb_tbl ∧ Cond.initialized yX12_readAgain.cls ∈ rb_tbl ∧ Cond.code yX12_readAgain cX12_readAgain 7 none ∈ rb_tbl ∧ rb_pn yX12_readAgain 2 := ⟨rb_in (by decide +kernel) (by decide +kernel), rb_in (by decide +kernel) (by decide +kernel), rb_in (by decide +kernel) (by decide +kernel), rb_in (by decide +kernel) (by decide +kernel), by decide +kernel, by decide +kernel, by decide +kernel⟩
theorem mv_X12_271 : rb_MV RX12 271 yX12_readAgain cX12_readAgain 7 none 2 := ⟨rb_in (by decide +kernel) (by decide +kernel), me_X12_readAgain⟩
abbrev xg_MF : Type := (Int32 → Int32 → rb_St → Option (rb_St)) × (Int32 → Int32 → rb_St → Option (rb_St))
def xg_MF_ok (g : xg_MF) (h0 : Nat) : Prop := (∀ (p0 : Int32) (p1 : Int32) (σ : rb_St) (σ9 : rb_St), g.1 p0 p1 σ = some σ9 → rb_Con rb_vM yX12_readAgain cX12_readAgain 7 none h0 (fun w => [.ref (rb_ad w 0), .int p0, .int p1]) σ (fun _ => none) σ9) ∧ (∀ (p0 : Int32) (p1 : Int32) (σ : rb_St) (σ9 : rb_St), g.2 p0 p1 σ = some σ9 → rb_Con rb_vM yX12_readRow cX12_readRow 5 none h0 (fun w => [.ref (rb_ad w 0), .int p0, .int p1]) σ (fun _ => none) σ9)
def xl_M_readAgain_117 (g : xg_MF) (x1 : Int32) (x3 : Int32) (x5 : Int32) : Nat → Int32 → rb_St → Option (rb_St)
  | 0, _, _ => none
  | n + 1, x6, σ => if ((x3 - 1) * x5) ≤ x6 then some σ else if (σ.1 0 4) = (-1) then if 48 ≤ (σ.1 0 26) then rb_b1 (xf_M_putStep x1 20 σ) fun s23 => xl_M_readAgain_117 g x1 x3 x5 n (x6 + 1) s23 else if rb_ib (((48 * x1) + (σ.1 0 26)) - x5) 336 then rb_b1 (xf_M_putStep x1 (σ.1 15 (((48 * x1) + (σ.1 0 26)) - x5).toNatClampNeg) σ) fun s26 => xl_M_readAgain_117 g x1 x3 x5 n (x6 + 1) s26 else none else some σ
set_option maxHeartbeats 4000000 in
set_option maxRecDepth 100000 in
theorem xt_M_readAgain_117 {z : rb_Z} {w : rb_Wd} {Q : State → Prop} {h0 : Nat} (hb : 3 ≤ h0) {g : xg_MF} (hg : xg_MF_ok g h0) (hC : rb_Cx z rb_vM w RX12 cX12_readAgain 7 none (h0 + 1)) (x1 : Int32) (x3 : Int32) (x5 : Int32) : ∀ (n : Nat) (x6 : Int32) (σ : rb_St) (σ9 : rb_St), xl_M_readAgain_117 g x1 x3 x5 n x6 σ = some σ9 → rb_At z rb_vM w 7 Q 178 [] [] σ9 → rb_At z rb_vM w 7 Q 117 [(0, .ref (rb_ad w 0)), (1, .int x1), (3, .int x3), (5, .int x5), (6, .int x6)] [] σ := by
  intro n
  induction n with
  | zero =>
    intro x6 σ σ9 h hE0
    cases h
  | succ n ih =>
    intro x6 σ σ9 h hE0
    rw [xl_M_readAgain_117] at h
    refine rb_iload hC 4 dX12_readAgain_117 rfl ?_
    refine rb_iload_n hC 2 dX12_readAgain_119 rfl ?_
    refine rb_iconst (x := 1) hC dX12_readAgain_120 (by decide) ?_
    refine rb_isub hC dX12_readAgain_121 ?_
    refine rb_iload hC 3 dX12_readAgain_122 rfl ?_
    refine rb_imul hC dX12_readAgain_124 ?_
    refine rb_icmp_ge hC 178 dX12_readAgain_125 (by decide) (fun c20 => ?_) (fun c20 => ?_)
    · replace h := rb_ifp c20 h
      cases h
      exact rb_sub [] rfl (hE0)
    · replace h := rb_ifn c20 h
      refine rb_aload_n hC 0 dX12_readAgain_128 rfl ?_
      refine rb_getI hC fr_X12_131_11 rb_obM0 rfl dX12_readAgain_129 ?_
      refine rb_iconst (x := (-1)) hC dX12_readAgain_132 (by decide) ?_
      refine rb_icmp_ne hC 178 dX12_readAgain_133 (by decide) (fun c21 => ?_) (fun c21 => ?_)
      · replace h := rb_ifn c21 h
        cases h
        exact rb_sub [] rfl (hE0)
      · replace h := rb_ifp c21 h
        refine rb_aload_n hC 0 dX12_readAgain_136 rfl ?_
        refine rb_iload_n hC 1 dX12_readAgain_137 rfl ?_
        refine rb_aload_n hC 0 dX12_readAgain_138 rfl ?_
        refine rb_getI hC fr_X12_257_11 rb_obM0 rfl dX12_readAgain_139 ?_
        refine rb_bipush (x := 48) hC dX12_readAgain_142 (by decide) ?_
        refine rb_icmp_ge hC 167 dX12_readAgain_144 (by decide) (fun c22 => ?_) (fun c22 => ?_)
        · replace h := rb_ifp c22 h
          refine rb_bipush (x := 20) hC dX12_readAgain_167 (by decide) ?_
          obtain ⟨s23, q24, h⟩ := rb_b1s h
          refine rb_callVv hC rb_VokM mv_X12_262 (xc_M_putStep x1 20 σ _ q24) rb_obM0 rfl [.int x1, .int 20] rfl rfl rfl ⟨by omega, Nat.le_of_ble_eq_true rfl⟩ (Nat.le_of_ble_eq_true rfl) dX12_readAgain_169 ?_
          refine rb_iinc hC 4 [(6, .int (x6 + 1)), (0, .ref (rb_ad w 0)), (1, .int x1), (3, .int x3), (5, .int x5)] dX12_readAgain_172 rfl rfl (by decide) rfl ?_
          refine rb_goto hC 117 dX12_readAgain_175 (by decide) ?_
          exact rb_sub [1, 2, 3, 4, 0] rfl (ih (x6 + 1) s23 _ h hE0)
        · replace h := rb_ifn c22 h
          refine rb_aload_n hC 0 dX12_readAgain_147 rfl ?_
          refine rb_getR hC fr_X12_52_11 rb_obM0 rfl dX12_readAgain_148 ?_
          refine rb_bipush (x := 48) hC dX12_readAgain_151 (by decide) ?_
          refine rb_iload_n hC 1 dX12_readAgain_153 rfl ?_
          refine rb_imul hC dX12_readAgain_154 ?_
          refine rb_aload_n hC 0 dX12_readAgain_155 rfl ?_
          refine rb_getI hC fr_X12_257_11 rb_obM0 rfl dX12_readAgain_156 ?_
          refine rb_iadd hC dX12_readAgain_159 ?_
          refine rb_iload hC 3 dX12_readAgain_160 rfl ?_
          refine rb_isub hC dX12_readAgain_162 ?_
          obtain ⟨g25, h⟩ := rb_gd h
          refine rb_iald hC rb_arM15 (rb_ibI g25) dX12_readAgain_163 ?_
          refine rb_goto hC 169 dX12_readAgain_164 (by decide) ?_
          obtain ⟨s26, q27, h⟩ := rb_b1s h
          refine rb_callVv hC rb_VokM mv_X12_262 (xc_M_putStep x1 (σ.1 15 (((48 * x1) + (σ.1 0 26)) - x5).toNatClampNeg) σ _ q27) rb_obM0 rfl [.int x1, .int (σ.1 15 (((48 * x1) + (σ.1 0 26)) - x5).toNatClampNeg)] rfl rfl rfl ⟨by omega, Nat.le_of_ble_eq_true rfl⟩ (Nat.le_of_ble_eq_true rfl) dX12_readAgain_169 ?_
          refine rb_iinc hC 4 [(6, .int (x6 + 1)), (0, .ref (rb_ad w 0)), (1, .int x1), (3, .int x3), (5, .int x5)] dX12_readAgain_172 rfl rfl (by decide) rfl ?_
          refine rb_goto hC 117 dX12_readAgain_175 (by decide) ?_
          exact rb_sub [1, 2, 3, 4, 0] rfl (ih (x6 + 1) s26 _ h hE0)
def xb_M_readAgain (g : xg_MF) (p0 : Int32) (p1 : Int32) (σ : rb_St) : Option (rb_St) := rb_b1 (xf_M_here σ) fun r1 => if 2 ≤ (r1 - 48) then rb_lt (rb_sI σ 0 3 ((σ.1 0 3) + 1)) (fun s4 => rb_b2 (xf_M_look s4) fun r8 s6 => if r8 = 40 then if p1 = 3 then rb_b1 (xf_M_bad s6) fun s42 => some s42 else rb_lt (rb_sI s6 0 3 ((s6.1 0 3) + 1)) (fun s13 => rb_b1 (g.2 p0 (p1 + 1) s13) fun s15 => if (s15.1 0 4) = (-1) then rb_b2 (xf_M_look s15) fun r32 s30 => if r32 = 41 then rb_lt (rb_sI s30 0 3 ((s30.1 0 3) + 1)) (fun s38 => rb_b1 (xl_M_readAgain_117 g p0 (r1 - 48) ((s38.1 0 26) - (s13.1 0 26)) rb_FU 0 s38) fun s40 => some s40) else rb_b1 (xf_M_bad s30) fun s34 => rb_b1 (xl_M_readAgain_117 g p0 (r1 - 48) ((s34.1 0 26) - (s13.1 0 26)) rb_FU 0 s34) fun s36 => some s36 else rb_b1 (xf_M_bad s15) fun s18 => rb_b1 (xl_M_readAgain_117 g p0 (r1 - 48) ((s18.1 0 26) - (s13.1 0 26)) rb_FU 0 s18) fun s28 => some s28) else rb_b1 (xf_M_bad s6) fun s10 => some s10) else rb_b1 (xf_M_bad σ) fun s44 => some s44
set_option maxHeartbeats 4000000 in
set_option maxRecDepth 100000 in
theorem xk_M_readAgain {z : rb_Z} {w : rb_Wd} {h0 : Nat} (hb : 3 ≤ h0) {g : xg_MF} (hg : xg_MF_ok g h0) (hC : rb_Cx z rb_vM w RX12 cX12_readAgain 7 none (h0 + 1)) (p0 : Int32) (p1 : Int32) (σ : rb_St) (σ9 : rb_St) (h : xb_M_readAgain g p0 p1 σ = some σ9) : rb_At z rb_vM w 7 (rb_Q z rb_vM w none σ9) 0 [(0, .ref (rb_ad w 0)), (1, .int p0), (2, .int p1)] [] σ := by
  unfold xb_M_readAgain at h
  refine rb_aload_n hC 0 dX12_readAgain_0 rfl ?_
  obtain ⟨r1, q2, h⟩ := rb_b1s h
  refine rb_callVi hC rb_VokM mv_X12_127 (xc_M_here  σ _ q2) rb_obM0 rfl [] rfl rfl rfl ⟨by omega, Nat.le_of_ble_eq_true rfl⟩ (Nat.le_of_ble_eq_true rfl) dX12_readAgain_1 ?_
  refine rb_bipush (x := 48) hC dX12_readAgain_4 (by decide) ?_
  refine rb_isub hC dX12_readAgain_6 ?_
  refine rb_istore_n hC [(3, .int (r1 - 48)), (0, .ref (rb_ad w 0)), (1, .int p0), (2, .int p1)] dX12_readAgain_7 (by decide) rfl ?_
  refine rb_iload_n hC 0 dX12_readAgain_8 rfl ?_
  refine rb_iconst (x := 2) hC dX12_readAgain_9 (by decide) ?_
  refine rb_icmp_ge hC 18 dX12_readAgain_10 (by decide) (fun c3 => ?_) (fun c3 => ?_)
  · replace h := rb_ifp c3 h
    refine rb_aload_n hC 1 dX12_readAgain_18 rfl ?_
    refine rb_dup hC dX12_readAgain_19 rfl ?_
    refine rb_getI hC fr_X12_124_11 rb_obM0 rfl dX12_readAgain_20 ?_
    refine rb_iconst (x := 1) hC dX12_readAgain_23 (by decide) ?_
    refine rb_iadd hC dX12_readAgain_24 ?_
    refine rb_putI hC fr_X12_124_11 ft_11_3 rb_obM0 rfl rfl rfl dX12_readAgain_25 ?_
    obtain ⟨s4, e5, h⟩ := rb_ltE h
    refine rb_nmS e5 ?_
    refine rb_aload_n hC 1 dX12_readAgain_28 rfl ?_
    obtain ⟨r8, s6, q7, h⟩ := rb_b2s h
    refine rb_callVi hC rb_VokM mv_X12_143 (xc_M_look  s4 _ _ q7) rb_obM0 rfl [] rfl rfl rfl ⟨by omega, Nat.le_of_ble_eq_true rfl⟩ (Nat.le_of_ble_eq_true rfl) dX12_readAgain_29 ?_
    refine rb_bipush (x := 40) hC dX12_readAgain_32 (by decide) ?_
    refine rb_icmp_ne hC 42 dX12_readAgain_34 (by decide) (fun c9 => ?_) (fun c9 => ?_)
    · replace h := rb_ifn c9 h
      refine rb_aload_n hC 1 dX12_readAgain_42 rfl ?_
      obtain ⟨s10, q11, h⟩ := rb_b1s h
      refine rb_callVv hC rb_VokM mv_X12_140 (xc_M_bad  s6 _ q11) rb_obM0 rfl [] rfl rfl rfl ⟨by omega, Nat.le_of_ble_eq_true rfl⟩ (Nat.le_of_ble_eq_true rfl) dX12_readAgain_43 ?_
      cases h
      exact rb_vret hC dX12_readAgain_46
    · replace h := rb_ifp c9 h
      refine rb_iload_n hC 3 dX12_readAgain_37 rfl ?_
      refine rb_iconst (x := 3) hC dX12_readAgain_38 (by decide) ?_
      refine rb_icmp_ne hC 47 dX12_readAgain_39 (by decide) (fun c12 => ?_) (fun c12 => ?_)
      · replace h := rb_ifn c12 h
        refine rb_aload_n hC 1 dX12_readAgain_47 rfl ?_
        refine rb_dup hC dX12_readAgain_48 rfl ?_
        refine rb_getI hC fr_X12_124_11 rb_obM0 rfl dX12_readAgain_49 ?_
        refine rb_iconst (x := 1) hC dX12_readAgain_52 (by decide) ?_
        refine rb_iadd hC dX12_readAgain_53 ?_
        refine rb_putI hC fr_X12_124_11 ft_11_3 rb_obM0 rfl rfl rfl dX12_readAgain_54 ?_
        obtain ⟨s13, e14, h⟩ := rb_ltE h
        refine rb_nmS e14 ?_
        refine rb_aload_n hC 1 dX12_readAgain_57 rfl ?_
        refine rb_getI hC fr_X12_257_11 rb_obM0 rfl dX12_readAgain_58 ?_
        refine rb_istore hC [(4, .int (s13.1 0 26)), (3, .int (r1 - 48)), (0, .ref (rb_ad w 0)), (1, .int p0), (2, .int p1)] dX12_readAgain_61 (by decide) rfl ?_
        refine rb_aload_n hC 2 dX12_readAgain_63 rfl ?_
        refine rb_iload_n hC 3 dX12_readAgain_64 rfl ?_
        refine rb_iload_n hC 4 dX12_readAgain_65 rfl ?_
        refine rb_iconst (x := 1) hC dX12_readAgain_66 (by decide) ?_
        refine rb_iadd hC dX12_readAgain_67 ?_
        obtain ⟨s15, q16, h⟩ := rb_b1s h
        refine rb_callVv hC rb_VokM mv_X12_265 (hg.2 p0 (p1 + 1) s13 _ q16) rb_obM0 rfl [.int p0, .int (p1 + 1)] rfl rfl rfl ⟨by omega, Nat.le_of_ble_eq_true rfl⟩ (Nat.le_of_ble_eq_true rfl) dX12_readAgain_68 ?_
        refine rb_aload_n hC 2 dX12_readAgain_71 rfl ?_
        refine rb_getI hC fr_X12_131_11 rb_obM0 rfl dX12_readAgain_72 ?_
        refine rb_iconst (x := (-1)) hC dX12_readAgain_75 (by decide) ?_
        refine rb_icmp_ne hC 101 dX12_readAgain_76 (by decide) (fun c17 => ?_) (fun c17 => ?_)
        · replace h := rb_ifn c17 h
          refine rb_aload_n hC 2 dX12_readAgain_101 rfl ?_
          obtain ⟨s18, q19, h⟩ := rb_b1s h
          refine rb_callVv hC rb_VokM mv_X12_140 (xc_M_bad  s15 _ q19) rb_obM0 rfl [] rfl rfl rfl ⟨by omega, Nat.le_of_ble_eq_true rfl⟩ (Nat.le_of_ble_eq_true rfl) dX12_readAgain_102 ?_
          refine rb_aload_n hC 2 dX12_readAgain_105 rfl ?_
          refine rb_getI hC fr_X12_257_11 rb_obM0 rfl dX12_readAgain_106 ?_
          refine rb_iload hC 0 dX12_readAgain_109 rfl ?_
          refine rb_isub hC dX12_readAgain_111 ?_
          refine rb_istore hC [(5, .int ((s18.1 0 26) - (s13.1 0 26))), (4, .int (s13.1 0 26)), (3, .int (r1 - 48)), (0, .ref (rb_ad w 0)), (1, .int p0), (2, .int p1)] dX12_readAgain_112 (by decide) rfl ?_
          refine rb_iconst (x := 0) hC dX12_readAgain_114 (by decide) ?_
          refine rb_istore hC [(6, .int 0), (5, .int ((s18.1 0 26) - (s13.1 0 26))), (4, .int (s13.1 0 26)), (3, .int (r1 - 48)), (0, .ref (rb_ad w 0)), (1, .int p0), (2, .int p1)] dX12_readAgain_115 (by decide) rfl ?_
          obtain ⟨s28, q29, h⟩ := rb_b1s h
          refine rb_sub (lv2 := [(0, .ref (rb_ad w 0)), (1, .int p0), (3, .int (r1 - 48)), (5, .int ((s18.1 0 26) - (s13.1 0 26))), (6, .int 0)]) [4, 5, 3, 1, 0] rfl ?_
          refine xt_M_readAgain_117 hb hg hC p0 (r1 - 48) ((s18.1 0 26) - (s13.1 0 26)) rb_FU 0 s18 _ q29 ?_
          cases h
          exact rb_vret hC dX12_readAgain_178
        · replace h := rb_ifp c17 h
          refine rb_aload_n hC 2 dX12_readAgain_79 rfl ?_
          obtain ⟨r32, s30, q31, h⟩ := rb_b2s h
          refine rb_callVi hC rb_VokM mv_X12_143 (xc_M_look  s15 _ _ q31) rb_obM0 rfl [] rfl rfl rfl ⟨by omega, Nat.le_of_ble_eq_true rfl⟩ (Nat.le_of_ble_eq_true rfl) dX12_readAgain_80 ?_
          refine rb_bipush (x := 41) hC dX12_readAgain_83 (by decide) ?_
          refine rb_icmp_ne hC 101 dX12_readAgain_85 (by decide) (fun c33 => ?_) (fun c33 => ?_)
          · replace h := rb_ifn c33 h
            refine rb_aload_n hC 2 dX12_readAgain_101 rfl ?_
            obtain ⟨s34, q35, h⟩ := rb_b1s h
            refine rb_callVv hC rb_VokM mv_X12_140 (xc_M_bad  s30 _ q35) rb_obM0 rfl [] rfl rfl rfl ⟨by omega, Nat.le_of_ble_eq_true rfl⟩ (Nat.le_of_ble_eq_true rfl) dX12_readAgain_102 ?_
            refine rb_aload_n hC 2 dX12_readAgain_105 rfl ?_
            refine rb_getI hC fr_X12_257_11 rb_obM0 rfl dX12_readAgain_106 ?_
            refine rb_iload hC 0 dX12_readAgain_109 rfl ?_
            refine rb_isub hC dX12_readAgain_111 ?_
            refine rb_istore hC [(5, .int ((s34.1 0 26) - (s13.1 0 26))), (4, .int (s13.1 0 26)), (3, .int (r1 - 48)), (0, .ref (rb_ad w 0)), (1, .int p0), (2, .int p1)] dX12_readAgain_112 (by decide) rfl ?_
            refine rb_iconst (x := 0) hC dX12_readAgain_114 (by decide) ?_
            refine rb_istore hC [(6, .int 0), (5, .int ((s34.1 0 26) - (s13.1 0 26))), (4, .int (s13.1 0 26)), (3, .int (r1 - 48)), (0, .ref (rb_ad w 0)), (1, .int p0), (2, .int p1)] dX12_readAgain_115 (by decide) rfl ?_
            obtain ⟨s36, q37, h⟩ := rb_b1s h
            refine rb_sub (lv2 := [(0, .ref (rb_ad w 0)), (1, .int p0), (3, .int (r1 - 48)), (5, .int ((s34.1 0 26) - (s13.1 0 26))), (6, .int 0)]) [4, 5, 3, 1, 0] rfl ?_
            refine xt_M_readAgain_117 hb hg hC p0 (r1 - 48) ((s34.1 0 26) - (s13.1 0 26)) rb_FU 0 s34 _ q37 ?_
            cases h
            exact rb_vret hC dX12_readAgain_178
          · replace h := rb_ifp c33 h
            refine rb_aload_n hC 2 dX12_readAgain_88 rfl ?_
            refine rb_dup hC dX12_readAgain_89 rfl ?_
            refine rb_getI hC fr_X12_124_11 rb_obM0 rfl dX12_readAgain_90 ?_
            refine rb_iconst (x := 1) hC dX12_readAgain_93 (by decide) ?_
            refine rb_iadd hC dX12_readAgain_94 ?_
            refine rb_putI hC fr_X12_124_11 ft_11_3 rb_obM0 rfl rfl rfl dX12_readAgain_95 ?_
            obtain ⟨s38, e39, h⟩ := rb_ltE h
            refine rb_nmS e39 ?_
            refine rb_goto hC 105 dX12_readAgain_98 (by decide) ?_
            refine rb_aload_n hC 2 dX12_readAgain_105 rfl ?_
            refine rb_getI hC fr_X12_257_11 rb_obM0 rfl dX12_readAgain_106 ?_
            refine rb_iload hC 0 dX12_readAgain_109 rfl ?_
            refine rb_isub hC dX12_readAgain_111 ?_
            refine rb_istore hC [(5, .int ((s38.1 0 26) - (s13.1 0 26))), (4, .int (s13.1 0 26)), (3, .int (r1 - 48)), (0, .ref (rb_ad w 0)), (1, .int p0), (2, .int p1)] dX12_readAgain_112 (by decide) rfl ?_
            refine rb_iconst (x := 0) hC dX12_readAgain_114 (by decide) ?_
            refine rb_istore hC [(6, .int 0), (5, .int ((s38.1 0 26) - (s13.1 0 26))), (4, .int (s13.1 0 26)), (3, .int (r1 - 48)), (0, .ref (rb_ad w 0)), (1, .int p0), (2, .int p1)] dX12_readAgain_115 (by decide) rfl ?_
            obtain ⟨s40, q41, h⟩ := rb_b1s h
            refine rb_sub (lv2 := [(0, .ref (rb_ad w 0)), (1, .int p0), (3, .int (r1 - 48)), (5, .int ((s38.1 0 26) - (s13.1 0 26))), (6, .int 0)]) [4, 5, 3, 1, 0] rfl ?_
            refine xt_M_readAgain_117 hb hg hC p0 (r1 - 48) ((s38.1 0 26) - (s13.1 0 26)) rb_FU 0 s38 _ q41 ?_
            cases h
            exact rb_vret hC dX12_readAgain_178
      · replace h := rb_ifp c12 h
        refine rb_aload_n hC 1 dX12_readAgain_42 rfl ?_
        obtain ⟨s42, q43, h⟩ := rb_b1s h
        refine rb_callVv hC rb_VokM mv_X12_140 (xc_M_bad  s6 _ q43) rb_obM0 rfl [] rfl rfl rfl ⟨by omega, Nat.le_of_ble_eq_true rfl⟩ (Nat.le_of_ble_eq_true rfl) dX12_readAgain_43 ?_
        cases h
        exact rb_vret hC dX12_readAgain_46
  · replace h := rb_ifn c3 h
    refine rb_aload_n hC 1 dX12_readAgain_13 rfl ?_
    obtain ⟨s44, q45, h⟩ := rb_b1s h
    refine rb_callVv hC rb_VokM mv_X12_140 (xc_M_bad  σ _ q45) rb_obM0 rfl [] rfl rfl rfl ⟨by omega, Nat.le_of_ble_eq_true rfl⟩ (Nat.le_of_ble_eq_true rfl) dX12_readAgain_14 ?_
    cases h
    exact rb_vret hC dX12_readAgain_17
def xj_M_readRow_112 (g : xg_MF) (rc : Int32 → rb_St → Option (rb_St)) (x1 : Int32) (x2 : Int32) (u0 : Int32) (σ : rb_St) : Option (rb_St) := if u0 = 0 then rb_lt (rb_sI σ 0 3 ((σ.1 0 3) + 0)) (fun s11 => rc u0 s11) else rb_lt (rb_sI σ 0 3 ((σ.1 0 3) + 1)) (fun s13 => rc u0 s13)
set_option maxHeartbeats 4000000 in
set_option maxRecDepth 100000 in
theorem xu_M_readRow_112 {z : rb_Z} {w : rb_Wd} {Q : State → Prop} {h0 : Nat} (hb : 3 ≤ h0) {g : xg_MF} (hg : xg_MF_ok g h0) (hC : rb_Cx z rb_vM w RX12 cX12_readRow 5 none (h0 + 1))  (rc : Int32 → rb_St → Option (rb_St)) (x1 : Int32) (x2 : Int32) (u0 : Int32) (σ : rb_St) (σ9 : rb_St) (h : xj_M_readRow_112 g rc x1 x2 u0 σ = some σ9) (hrc : ∀ (b3 : Int32) (τ : rb_St), rc b3 τ = some σ9 → rb_At z rb_vM w 5 Q 2 [(0, .ref (rb_ad w 0)), (1, .int x1), (2, .int x2), (3, .int b3)] [] τ) (hE0 : rb_At z rb_vM w 5 Q 134 [] [] σ9) : rb_At z rb_vM w 5 Q 112 [(0, .ref (rb_ad w 0)), (1, .int x1), (2, .int x2)] [.int u0] σ := by
  unfold xj_M_readRow_112 at h
  refine rb_istore_n hC [(3, .int u0), (0, .ref (rb_ad w 0)), (1, .int x1), (2, .int x2)] dX12_readRow_112 (by decide) rfl ?_
  refine rb_aload_n hC 1 dX12_readRow_113 rfl ?_
  refine rb_dup hC dX12_readRow_114 rfl ?_
  refine rb_getI hC fr_X12_124_11 rb_obM0 rfl dX12_readRow_115 ?_
  refine rb_iload_n hC 0 dX12_readRow_118 rfl ?_
  refine rb_if_eq hC 126 dX12_readRow_119 (by decide) (fun c10 => ?_) (fun c10 => ?_)
  · replace h := rb_ifp c10 h
    refine rb_iconst (x := 0) hC dX12_readRow_126 (by decide) ?_
    refine rb_iadd hC dX12_readRow_127 ?_
    refine rb_putI hC fr_X12_124_11 ft_11_3 rb_obM0 rfl rfl rfl dX12_readRow_128 ?_
    obtain ⟨s11, e12, h⟩ := rb_ltE h
    refine rb_nmS e12 ?_
    refine rb_goto hC 2 dX12_readRow_131 (by decide) ?_
    exact rb_sub [1, 2, 3, 0] rfl (hrc u0 s11 h)
  · replace h := rb_ifn c10 h
    refine rb_iconst (x := 1) hC dX12_readRow_122 (by decide) ?_
    refine rb_goto hC 127 dX12_readRow_123 (by decide) ?_
    refine rb_iadd hC dX12_readRow_127 ?_
    refine rb_putI hC fr_X12_124_11 ft_11_3 rb_obM0 rfl rfl rfl dX12_readRow_128 ?_
    obtain ⟨s13, e14, h⟩ := rb_ltE h
    refine rb_nmS e14 ?_
    refine rb_goto hC 2 dX12_readRow_131 (by decide) ?_
    exact rb_sub [1, 2, 3, 0] rfl (hrc u0 s13 h)
def xj_M_readRow_90 (g : xg_MF) (rc : Int32 → rb_St → Option (rb_St)) (x1 : Int32) (x2 : Int32) (σ : rb_St) : Option (rb_St) := if (σ.1 0 4) = (-1) then rb_b2 (xf_M_look σ) fun r17 s15 => if r17 = 59 then xj_M_readRow_112 g rc x1 x2 1 s15 else xj_M_readRow_112 g rc x1 x2 0 s15 else xj_M_readRow_112 g rc x1 x2 0 σ
set_option maxHeartbeats 4000000 in
set_option maxRecDepth 100000 in
theorem xu_M_readRow_90 {z : rb_Z} {w : rb_Wd} {Q : State → Prop} {h0 : Nat} (hb : 3 ≤ h0) {g : xg_MF} (hg : xg_MF_ok g h0) (hC : rb_Cx z rb_vM w RX12 cX12_readRow 5 none (h0 + 1))  (rc : Int32 → rb_St → Option (rb_St)) (x1 : Int32) (x2 : Int32) (σ : rb_St) (σ9 : rb_St) (h : xj_M_readRow_90 g rc x1 x2 σ = some σ9) (hrc : ∀ (b3 : Int32) (τ : rb_St), rc b3 τ = some σ9 → rb_At z rb_vM w 5 Q 2 [(0, .ref (rb_ad w 0)), (1, .int x1), (2, .int x2), (3, .int b3)] [] τ) (hE0 : rb_At z rb_vM w 5 Q 134 [] [] σ9) : rb_At z rb_vM w 5 Q 90 [(0, .ref (rb_ad w 0)), (1, .int x1), (2, .int x2)] [] σ := by
  unfold xj_M_readRow_90 at h
  refine rb_aload_n hC 0 dX12_readRow_90 rfl ?_
  refine rb_getI hC fr_X12_131_11 rb_obM0 rfl dX12_readRow_91 ?_
  refine rb_iconst (x := (-1)) hC dX12_readRow_94 (by decide) ?_
  refine rb_icmp_ne hC 111 dX12_readRow_95 (by decide) (fun c9 => ?_) (fun c9 => ?_)
  · replace h := rb_ifn c9 h
    refine rb_iconst (x := 0) hC dX12_readRow_111 (by decide) ?_
    exact rb_sub [0, 1, 2] rfl (xu_M_readRow_112 hb hg hC rc x1 x2 0 σ _ h hrc hE0)
  · replace h := rb_ifp c9 h
    refine rb_aload_n hC 0 dX12_readRow_98 rfl ?_
    obtain ⟨r17, s15, q16, h⟩ := rb_b2s h
    refine rb_callVi hC rb_VokM mv_X12_143 (xc_M_look  σ _ _ q16) rb_obM0 rfl [] rfl rfl rfl ⟨by omega, Nat.le_of_ble_eq_true rfl⟩ (Nat.le_of_ble_eq_true rfl) dX12_readRow_99 ?_
    refine rb_bipush (x := 59) hC dX12_readRow_102 (by decide) ?_
    refine rb_icmp_ne hC 111 dX12_readRow_104 (by decide) (fun c18 => ?_) (fun c18 => ?_)
    · replace h := rb_ifn c18 h
      refine rb_iconst (x := 0) hC dX12_readRow_111 (by decide) ?_
      exact rb_sub [0, 1, 2] rfl (xu_M_readRow_112 hb hg hC rc x1 x2 0 s15 _ h hrc hE0)
    · replace h := rb_ifp c18 h
      refine rb_iconst (x := 1) hC dX12_readRow_107 (by decide) ?_
      refine rb_goto hC 112 dX12_readRow_108 (by decide) ?_
      exact rb_sub [0, 1, 2] rfl (xu_M_readRow_112 hb hg hC rc x1 x2 1 s15 _ h hrc hE0)
def xl_M_readRow_2 (g : xg_MF) (x1 : Int32) (x2 : Int32) : Nat → Int32 → rb_St → Option (rb_St)
  | 0, _, _ => none
  | n + 1, x3, σ => if x3 = 0 then some σ else if (σ.1 0 4) = (-1) then rb_b2 (xf_M_look σ) fun r5 s3 => if r5 = 111 then rb_b1 (xf_M_readCross x1 s3) fun s7 => xj_M_readRow_90 g (fun b3 τ => xl_M_readRow_2 g x1 x2 n b3 τ) x1 x2 s7 else if r5 = 117 then rb_b1 (xf_M_readCross x1 s3) fun s30 => xj_M_readRow_90 g (fun b3 τ => xl_M_readRow_2 g x1 x2 n b3 τ) x1 x2 s30 else if r5 = 119 then rb_lt (rb_sI s3 0 3 ((s3.1 0 3) + 1)) (fun s26 => rb_b1 (xf_M_putStep x1 20 s26) fun s28 => xj_M_readRow_90 g (fun b3 τ => xl_M_readRow_2 g x1 x2 n b3 τ) x1 x2 s28) else if (xf_M_isDigit r5 s3) = 0 then rb_b1 (xf_M_bad s3) fun s22 => xj_M_readRow_90 g (fun b3 τ => xl_M_readRow_2 g x1 x2 n b3 τ) x1 x2 s22 else rb_b1 (g.1 x1 x2 s3) fun s24 => xj_M_readRow_90 g (fun b3 τ => xl_M_readRow_2 g x1 x2 n b3 τ) x1 x2 s24 else some σ
set_option maxHeartbeats 4000000 in
set_option maxRecDepth 100000 in
theorem xt_M_readRow_2 {z : rb_Z} {w : rb_Wd} {Q : State → Prop} {h0 : Nat} (hb : 3 ≤ h0) {g : xg_MF} (hg : xg_MF_ok g h0) (hC : rb_Cx z rb_vM w RX12 cX12_readRow 5 none (h0 + 1)) (x1 : Int32) (x2 : Int32) : ∀ (n : Nat) (x3 : Int32) (σ : rb_St) (σ9 : rb_St), xl_M_readRow_2 g x1 x2 n x3 σ = some σ9 → rb_At z rb_vM w 5 Q 134 [] [] σ9 → rb_At z rb_vM w 5 Q 2 [(0, .ref (rb_ad w 0)), (1, .int x1), (2, .int x2), (3, .int x3)] [] σ := by
  intro n
  induction n with
  | zero =>
    intro x3 σ σ9 h hE0
    cases h
  | succ n ih =>
    intro x3 σ σ9 h hE0
    rw [xl_M_readRow_2] at h
    refine rb_iload_n hC 3 dX12_readRow_2 rfl ?_
    refine rb_if_eq hC 134 dX12_readRow_3 (by decide) (fun c1 => ?_) (fun c1 => ?_)
    · replace h := rb_ifp c1 h
      cases h
      exact rb_sub [] rfl (hE0)
    · replace h := rb_ifn c1 h
      refine rb_aload_n hC 0 dX12_readRow_6 rfl ?_
      refine rb_getI hC fr_X12_131_11 rb_obM0 rfl dX12_readRow_7 ?_
      refine rb_iconst (x := (-1)) hC dX12_readRow_10 (by decide) ?_
      refine rb_icmp_ne hC 134 dX12_readRow_11 (by decide) (fun c2 => ?_) (fun c2 => ?_)
      · replace h := rb_ifn c2 h
        cases h
        exact rb_sub [] rfl (hE0)
      · replace h := rb_ifp c2 h
        refine rb_aload_n hC 0 dX12_readRow_14 rfl ?_
        obtain ⟨r5, s3, q4, h⟩ := rb_b2s h
        refine rb_callVi hC rb_VokM mv_X12_143 (xc_M_look  σ _ _ q4) rb_obM0 rfl [] rfl rfl rfl ⟨by omega, Nat.le_of_ble_eq_true rfl⟩ (Nat.le_of_ble_eq_true rfl) dX12_readRow_15 ?_
        refine rb_istore hC [(4, .int r5), (0, .ref (rb_ad w 0)), (1, .int x1), (2, .int x2), (3, .int x3)] dX12_readRow_18 (by decide) rfl ?_
        refine rb_iload hC 0 dX12_readRow_20 rfl ?_
        refine rb_bipush (x := 111) hC dX12_readRow_22 (by decide) ?_
        refine rb_icmp_eq hC 34 dX12_readRow_24 (by decide) (fun c6 => ?_) (fun c6 => ?_)
        · replace h := rb_ifp c6 h
          refine rb_aload_n hC 1 dX12_readRow_34 rfl ?_
          refine rb_iload_n hC 2 dX12_readRow_35 rfl ?_
          obtain ⟨s7, q8, h⟩ := rb_b1s h
          refine rb_callVv hC rb_VokM mv_X12_268 (xc_M_readCross x1 s3 _ q8) rb_obM0 rfl [.int x1] rfl rfl rfl ⟨by omega, Nat.le_of_ble_eq_true rfl⟩ (Nat.le_of_ble_eq_true rfl) dX12_readRow_36 ?_
          refine rb_goto hC 90 dX12_readRow_39 (by decide) ?_
          exact rb_sub [1, 2, 3] rfl (xu_M_readRow_90 hb hg hC (fun b3 τ => xl_M_readRow_2 g x1 x2 n b3 τ) x1 x2 s7 _ h (fun b3 τ hq => ih b3 τ _ hq hE0) hE0)
        · replace h := rb_ifn c6 h
          refine rb_iload hC 0 dX12_readRow_27 rfl ?_
          refine rb_bipush (x := 117) hC dX12_readRow_29 (by decide) ?_
          refine rb_icmp_ne hC 42 dX12_readRow_31 (by decide) (fun c19 => ?_) (fun c19 => ?_)
          · replace h := rb_ifn c19 h
            refine rb_iload hC 0 dX12_readRow_42 rfl ?_
            refine rb_bipush (x := 119) hC dX12_readRow_44 (by decide) ?_
            refine rb_icmp_ne hC 69 dX12_readRow_46 (by decide) (fun c20 => ?_) (fun c20 => ?_)
            · replace h := rb_ifn c20 h
              refine rb_iload hC 0 dX12_readRow_69 rfl ?_
              refine rb_callSi hC rb_VokM mv_X12_146 (xc_M_isDigit r5 s3 _ rfl) [.int r5] rfl rfl rfl ⟨by omega, Nat.le_of_ble_eq_true rfl⟩ (Nat.le_of_ble_eq_true rfl) dX12_readRow_71 ?_
              refine rb_if_eq hC 86 dX12_readRow_74 (by decide) (fun c21 => ?_) (fun c21 => ?_)
              · replace h := rb_ifp c21 h
                refine rb_aload_n hC 1 dX12_readRow_86 rfl ?_
                obtain ⟨s22, q23, h⟩ := rb_b1s h
                refine rb_callVv hC rb_VokM mv_X12_140 (xc_M_bad  s3 _ q23) rb_obM0 rfl [] rfl rfl rfl ⟨by omega, Nat.le_of_ble_eq_true rfl⟩ (Nat.le_of_ble_eq_true rfl) dX12_readRow_87 ?_
                exact rb_sub [1, 2, 3] rfl (xu_M_readRow_90 hb hg hC (fun b3 τ => xl_M_readRow_2 g x1 x2 n b3 τ) x1 x2 s22 _ h (fun b3 τ hq => ih b3 τ _ hq hE0) hE0)
              · replace h := rb_ifn c21 h
                refine rb_aload_n hC 1 dX12_readRow_77 rfl ?_
                refine rb_iload_n hC 2 dX12_readRow_78 rfl ?_
                refine rb_iload_n hC 3 dX12_readRow_79 rfl ?_
                obtain ⟨s24, q25, h⟩ := rb_b1s h
                refine rb_callVv hC rb_VokM mv_X12_271 (hg.1 x1 x2 s3 _ q25) rb_obM0 rfl [.int x1, .int x2] rfl rfl rfl ⟨by omega, Nat.le_of_ble_eq_true rfl⟩ (Nat.le_of_ble_eq_true rfl) dX12_readRow_80 ?_
                refine rb_goto hC 90 dX12_readRow_83 (by decide) ?_
                exact rb_sub [1, 2, 3] rfl (xu_M_readRow_90 hb hg hC (fun b3 τ => xl_M_readRow_2 g x1 x2 n b3 τ) x1 x2 s24 _ h (fun b3 τ hq => ih b3 τ _ hq hE0) hE0)
            · replace h := rb_ifp c20 h
              refine rb_aload_n hC 1 dX12_readRow_49 rfl ?_
              refine rb_dup hC dX12_readRow_50 rfl ?_
              refine rb_getI hC fr_X12_124_11 rb_obM0 rfl dX12_readRow_51 ?_
              refine rb_iconst (x := 1) hC dX12_readRow_54 (by decide) ?_
              refine rb_iadd hC dX12_readRow_55 ?_
              refine rb_putI hC fr_X12_124_11 ft_11_3 rb_obM0 rfl rfl rfl dX12_readRow_56 ?_
              obtain ⟨s26, e27, h⟩ := rb_ltE h
              refine rb_nmS e27 ?_
              refine rb_aload_n hC 1 dX12_readRow_59 rfl ?_
              refine rb_iload_n hC 2 dX12_readRow_60 rfl ?_
              refine rb_bipush (x := 20) hC dX12_readRow_61 (by decide) ?_
              obtain ⟨s28, q29, h⟩ := rb_b1s h
              refine rb_callVv hC rb_VokM mv_X12_262 (xc_M_putStep x1 20 s26 _ q29) rb_obM0 rfl [.int x1, .int 20] rfl rfl rfl ⟨by omega, Nat.le_of_ble_eq_true rfl⟩ (Nat.le_of_ble_eq_true rfl) dX12_readRow_63 ?_
              refine rb_goto hC 90 dX12_readRow_66 (by decide) ?_
              exact rb_sub [1, 2, 3] rfl (xu_M_readRow_90 hb hg hC (fun b3 τ => xl_M_readRow_2 g x1 x2 n b3 τ) x1 x2 s28 _ h (fun b3 τ hq => ih b3 τ _ hq hE0) hE0)
          · replace h := rb_ifp c19 h
            refine rb_aload_n hC 1 dX12_readRow_34 rfl ?_
            refine rb_iload_n hC 2 dX12_readRow_35 rfl ?_
            obtain ⟨s30, q31, h⟩ := rb_b1s h
            refine rb_callVv hC rb_VokM mv_X12_268 (xc_M_readCross x1 s3 _ q31) rb_obM0 rfl [.int x1] rfl rfl rfl ⟨by omega, Nat.le_of_ble_eq_true rfl⟩ (Nat.le_of_ble_eq_true rfl) dX12_readRow_36 ?_
            refine rb_goto hC 90 dX12_readRow_39 (by decide) ?_
            exact rb_sub [1, 2, 3] rfl (xu_M_readRow_90 hb hg hC (fun b3 τ => xl_M_readRow_2 g x1 x2 n b3 τ) x1 x2 s30 _ h (fun b3 τ hq => ih b3 τ _ hq hE0) hE0)
def xb_M_readRow (g : xg_MF) (p0 : Int32) (p1 : Int32) (σ : rb_St) : Option (rb_St) := rb_b1 (xl_M_readRow_2 g p0 p1 rb_FU 1 σ) fun s32 => some s32
set_option maxHeartbeats 4000000 in
set_option maxRecDepth 100000 in
theorem xk_M_readRow {z : rb_Z} {w : rb_Wd} {h0 : Nat} (hb : 3 ≤ h0) {g : xg_MF} (hg : xg_MF_ok g h0) (hC : rb_Cx z rb_vM w RX12 cX12_readRow 5 none (h0 + 1)) (p0 : Int32) (p1 : Int32) (σ : rb_St) (σ9 : rb_St) (h : xb_M_readRow g p0 p1 σ = some σ9) : rb_At z rb_vM w 5 (rb_Q z rb_vM w none σ9) 0 [(0, .ref (rb_ad w 0)), (1, .int p0), (2, .int p1)] [] σ := by
  unfold xb_M_readRow at h
  refine rb_iconst (x := 1) hC dX12_readRow_0 (by decide) ?_
  refine rb_istore_n hC [(3, .int 1), (0, .ref (rb_ad w 0)), (1, .int p0), (2, .int p1)] dX12_readRow_1 (by decide) rfl ?_
  obtain ⟨s32, q33, h⟩ := rb_b1s h
  refine rb_sub (lv2 := [(0, .ref (rb_ad w 0)), (1, .int p0), (2, .int p1), (3, .int 1)]) [1, 2, 3, 0] rfl ?_
  refine xt_M_readRow_2 hb hg hC p0 p1 rb_FU 1 σ _ q33 ?_
  cases h
  exact rb_vret hC dX12_readRow_134
def xG_MF : Nat → xg_MF
  | 0 => (fun _ _ _ => none, fun _ _ _ => none)
  | d + 1 => (xb_M_readAgain (xG_MF d), xb_M_readRow (xG_MF d))
theorem xG_MF_all : ∀ d : Nat, xg_MF_ok (xG_MF d) (3 + d) := by
  intro d
  induction d with
  | zero => exact ⟨(fun _ _ _ _ h => by cases h), (fun _ _ _ _ h => by cases h)⟩
  | succ d ih =>
    have hb : 3 ≤ 3 + d := Nat.le_add_right _ _
    exact ⟨fun p0 p1 σ σ9 h => rb_Con.of (by decide +kernel) (fun _ => Nat.le_of_ble_eq_true rfl) (fun z w hC => xk_M_readAgain hb ih hC p0 p1 σ σ9 h),
      fun p0 p1 σ σ9 h => rb_Con.of (by decide +kernel) (fun _ => Nat.le_of_ble_eq_true rfl) (fun z w hC => xk_M_readRow hb ih hC p0 p1 σ σ9 h)⟩
def xf_M_readAgain (d : Nat) (p0 : Int32) (p1 : Int32) (σ : rb_St) : Option (rb_St) := (xG_MF d).1 p0 p1 σ
theorem xc_M_readAgain (d : Nat) (p0 : Int32) (p1 : Int32) (σ : rb_St) (σ9 : rb_St) (h : xf_M_readAgain d p0 p1 σ = some σ9) : rb_Con rb_vM yX12_readAgain cX12_readAgain 7 none (3 + d) (fun w => [.ref (rb_ad w 0), .int p0, .int p1]) σ (fun _ => none) σ9 := (xG_MF_all d).1 p0 p1 σ σ9 h
def xf_M_readRow (d : Nat) (p0 : Int32) (p1 : Int32) (σ : rb_St) : Option (rb_St) := (xG_MF d).2 p0 p1 σ
theorem xc_M_readRow (d : Nat) (p0 : Int32) (p1 : Int32) (σ : rb_St) (σ9 : rb_St) (h : xf_M_readRow d p0 p1 σ = some σ9) : rb_Con rb_vM yX12_readRow cX12_readRow 5 none (3 + d) (fun w => [.ref (rb_ad w 0), .int p0, .int p1]) σ (fun _ => none) σ9 := (xG_MF_all d).2 p0 p1 σ σ9 h
