def xf_Pole_hasPlace (k0 : Nat) (p0 : Int32) (σ : rb_St) : Int32 := if p0 < 0 then 0 else if (σ.1 k0 0) ≤ p0 then 0 else 1
set_option maxHeartbeats 4000000 in
set_option maxRecDepth 100000 in
theorem xk_Pole_hasPlace {z : rb_Z} {w : rb_Wd} (hC : rb_Cx z rb_vX w RX7 cX7_hasPlace 2 (some .boolean) 0) (k0 : Nat) (hk0 : rb_isPole k0) (p0 : Int32) (σ : rb_St) (r : Int32) (h : xf_Pole_hasPlace k0 p0 σ = r) : rb_At z rb_vX w 2 (rb_Q z rb_vX w (some (.int r)) σ) 0 [(0, .ref (rb_ad w k0)), (1, .int p0)] [] σ := by
  unfold xf_Pole_hasPlace at h
  refine rb_iload_n hC 1 dX7_hasPlace_0 rfl ?_
  refine rb_if_lt hC 16 dX7_hasPlace_1 (by decide) (fun c1 => ?_) (fun c1 => ?_)
  · replace h := rb_ifp c1 h
    refine rb_iconst (x := 0) hC dX7_hasPlace_16 (by decide) ?_
    subst h
    exact rb_zret hC rfl dX7_hasPlace_17
  · replace h := rb_ifn c1 h
    refine rb_iload_n hC 1 dX7_hasPlace_4 rfl ?_
    refine rb_aload_n hC 0 dX7_hasPlace_5 rfl ?_
    refine rb_getI hC fr_X7_30_7 (rb_obPole hk0) rfl dX7_hasPlace_6 ?_
    refine rb_icmp_ge hC 16 dX7_hasPlace_9 (by decide) (fun c2 => ?_) (fun c2 => ?_)
    · replace h := rb_ifp c2 h
      refine rb_iconst (x := 0) hC dX7_hasPlace_16 (by decide) ?_
      subst h
      exact rb_zret hC rfl dX7_hasPlace_17
    · replace h := rb_ifn c2 h
      refine rb_iconst (x := 1) hC dX7_hasPlace_12 (by decide) ?_
      refine rb_goto hC 17 dX7_hasPlace_13 (by decide) ?_
      subst h
      exact rb_zret hC rfl dX7_hasPlace_17
theorem xc_Pole_hasPlace (k0 : Nat) (hk0 : rb_isPole k0) (p0 : Int32) (σ : rb_St) (r : Int32) (h : xf_Pole_hasPlace k0 p0 σ = r) : rb_Con rb_vX yX7_hasPlace cX7_hasPlace 2 (some .boolean) 0 (fun w => [.ref (rb_ad w k0), .int p0]) σ (fun _ => (some (.int r))) σ := rb_Con.of (by decide +kernel) (fun _ => Nat.le_of_ble_eq_true rfl) (fun z w hC => xk_Pole_hasPlace hC k0 hk0 p0 σ r h)
def xf_Pole_nextPlace (k0 : Nat) (p0 : Int32) (σ : rb_St) : Int32 := if (σ.1 k0 0) ≤ (p0 + 1) then 0 else p0 + 1
set_option maxHeartbeats 4000000 in
set_option maxRecDepth 100000 in
theorem xk_Pole_nextPlace {z : rb_Z} {w : rb_Wd} (hC : rb_Cx z rb_vX w RX7 cX7_nextPlace 2 (some .int) 0) (k0 : Nat) (hk0 : rb_isPole k0) (p0 : Int32) (σ : rb_St) (r : Int32) (h : xf_Pole_nextPlace k0 p0 σ = r) : rb_At z rb_vX w 2 (rb_Q z rb_vX w (some (.int r)) σ) 0 [(0, .ref (rb_ad w k0)), (1, .int p0)] [] σ := by
  unfold xf_Pole_nextPlace at h
  refine rb_iload_n hC 1 dX7_nextPlace_0 rfl ?_
  refine rb_iconst (x := 1) hC dX7_nextPlace_1 (by decide) ?_
  refine rb_iadd hC dX7_nextPlace_2 ?_
  refine rb_aload_n hC 0 dX7_nextPlace_3 rfl ?_
  refine rb_getI hC fr_X7_30_7 (rb_obPole hk0) rfl dX7_nextPlace_4 ?_
  refine rb_icmp_ge hC 16 dX7_nextPlace_7 (by decide) (fun c1 => ?_) (fun c1 => ?_)
  · replace h := rb_ifp c1 h
    refine rb_iconst (x := 0) hC dX7_nextPlace_16 (by decide) ?_
    subst h
    exact rb_iret hC dX7_nextPlace_17
  · replace h := rb_ifn c1 h
    refine rb_iload_n hC 1 dX7_nextPlace_10 rfl ?_
    refine rb_iconst (x := 1) hC dX7_nextPlace_11 (by decide) ?_
    refine rb_iadd hC dX7_nextPlace_12 ?_
    refine rb_goto hC 17 dX7_nextPlace_13 (by decide) ?_
    subst h
    exact rb_iret hC dX7_nextPlace_17
theorem xc_Pole_nextPlace (k0 : Nat) (hk0 : rb_isPole k0) (p0 : Int32) (σ : rb_St) (r : Int32) (h : xf_Pole_nextPlace k0 p0 σ = r) : rb_Con rb_vX yX7_nextPlace cX7_nextPlace 2 (some .int) 0 (fun w => [.ref (rb_ad w k0), .int p0]) σ (fun _ => (some (.int r))) σ := rb_Con.of (by decide +kernel) (fun _ => Nat.le_of_ble_eq_true rfl) (fun z w hC => xk_Pole_nextPlace hC k0 hk0 p0 σ r h)
theorem me_X7_nextPlace : Cond.instanceMethod yX7_nextPlace ∈ rb_tbl ∧ Cond.selects yX7_nextPlace.cls yX7_nextPlace yX7_nextPlace ∈ rb_tbl ∧ Cond.initialized yX7_nextPlace.cls ∈ rb_tbl ∧ Cond.code yX7_nextPlace cX7_nextPlace 2 (some .int) ∈ rb_tbl ∧ rb_pn yX7_nextPlace 1 := ⟨rb_in (by decide +kernel) (by decide +kernel), rb_in (by decide +kernel) (by decide +kernel), rb_in (by decide +kernel) (by decide +kernel), rb_in (by decide +kernel) (by decide +kernel), by decide +kernel, by decide +kernel, by decide +kernel⟩
theorem mv_X7_60 : rb_MV RX7 60 yX7_nextPlace cX7_nextPlace 2 (some .int) 1 := ⟨rb_in (by decide +kernel) (by decide +kernel), me_X7_nextPlace⟩
def xj_Pole_nearOf_16 (k0 : Nat) (x1 : Int32) (u0 : Int32) (σ : rb_St) : Int32 := ((1 <<< (u0 &&& 31)) ||| (1 <<< (x1 &&& 31))) ||| (1 <<< ((xf_Pole_nextPlace k0 x1 σ) &&& 31))
set_option maxHeartbeats 4000000 in
set_option maxRecDepth 100000 in
theorem xu_Pole_nearOf_16 {z : rb_Z} {w : rb_Wd} (hC : rb_Cx z rb_vX w RX7 cX7_nearOf 3 (some .int) 1) (k0 : Nat) (hk0 : rb_isPole k0) (x1 : Int32) (u0 : Int32) (σ : rb_St) (r : Int32) (h : xj_Pole_nearOf_16 k0 x1 u0 σ = r) : rb_At z rb_vX w 3 (rb_Q z rb_vX w (some (.int r)) σ) 16 [(0, .ref (rb_ad w k0)), (1, .int x1)] [.int u0] σ := by
  unfold xj_Pole_nearOf_16 at h
  refine rb_istore_n hC [(2, .int u0), (0, .ref (rb_ad w k0)), (1, .int x1)] dX7_nearOf_16 (by decide) rfl ?_
  refine rb_iconst (x := 1) hC dX7_nearOf_17 (by decide) ?_
  refine rb_iload_n hC 0 dX7_nearOf_18 rfl ?_
  refine rb_ishl hC dX7_nearOf_19 ?_
  refine rb_iconst (x := 1) hC dX7_nearOf_20 (by decide) ?_
  refine rb_iload_n hC 2 dX7_nearOf_21 rfl ?_
  refine rb_ishl hC dX7_nearOf_22 ?_
  refine rb_ior hC dX7_nearOf_23 ?_
  refine rb_iconst (x := 1) hC dX7_nearOf_24 (by decide) ?_
  refine rb_aload_n hC 1 dX7_nearOf_25 rfl ?_
  refine rb_iload_n hC 2 dX7_nearOf_26 rfl ?_
  refine rb_callVi hC rb_VokX mv_X7_60 (xc_Pole_nextPlace k0 hk0 x1 σ _ rfl) (rb_obPole hk0) rfl [.int x1] rfl rfl rfl ⟨Nat.le_of_ble_eq_true rfl, Nat.le_of_ble_eq_true rfl⟩ (Nat.le_of_ble_eq_true rfl) dX7_nearOf_27 ?_
  refine rb_ishl hC dX7_nearOf_30 ?_
  refine rb_ior hC dX7_nearOf_31 ?_
  subst h
  exact rb_iret hC dX7_nearOf_32
def xf_Pole_nearOf (k0 : Nat) (p0 : Int32) (σ : rb_St) : Int32 := if p0 ≤ 0 then xj_Pole_nearOf_16 k0 p0 ((σ.1 k0 0) - 1) σ else xj_Pole_nearOf_16 k0 p0 (p0 - 1) σ
set_option maxHeartbeats 4000000 in
set_option maxRecDepth 100000 in
theorem xk_Pole_nearOf {z : rb_Z} {w : rb_Wd} (hC : rb_Cx z rb_vX w RX7 cX7_nearOf 3 (some .int) 1) (k0 : Nat) (hk0 : rb_isPole k0) (p0 : Int32) (σ : rb_St) (r : Int32) (h : xf_Pole_nearOf k0 p0 σ = r) : rb_At z rb_vX w 3 (rb_Q z rb_vX w (some (.int r)) σ) 0 [(0, .ref (rb_ad w k0)), (1, .int p0)] [] σ := by
  unfold xf_Pole_nearOf at h
  refine rb_iload_n hC 1 dX7_nearOf_0 rfl ?_
  refine rb_if_le hC 10 dX7_nearOf_1 (by decide) (fun c1 => ?_) (fun c1 => ?_)
  · replace h := rb_ifp c1 h
    refine rb_aload_n hC 0 dX7_nearOf_10 rfl ?_
    refine rb_getI hC fr_X7_30_7 (rb_obPole hk0) rfl dX7_nearOf_11 ?_
    refine rb_iconst (x := 1) hC dX7_nearOf_14 (by decide) ?_
    refine rb_isub hC dX7_nearOf_15 ?_
    exact rb_sub [0, 1] rfl (xu_Pole_nearOf_16 hC k0 hk0 p0 ((σ.1 k0 0) - 1) σ _ h)
  · replace h := rb_ifn c1 h
    refine rb_iload_n hC 1 dX7_nearOf_4 rfl ?_
    refine rb_iconst (x := 1) hC dX7_nearOf_5 (by decide) ?_
    refine rb_isub hC dX7_nearOf_6 ?_
    refine rb_goto hC 16 dX7_nearOf_7 (by decide) ?_
    exact rb_sub [0, 1] rfl (xu_Pole_nearOf_16 hC k0 hk0 p0 (p0 - 1) σ _ h)
theorem xc_Pole_nearOf (k0 : Nat) (hk0 : rb_isPole k0) (p0 : Int32) (σ : rb_St) (r : Int32) (h : xf_Pole_nearOf k0 p0 σ = r) : rb_Con rb_vX yX7_nearOf cX7_nearOf 3 (some .int) 1 (fun w => [.ref (rb_ad w k0), .int p0]) σ (fun _ => (some (.int r))) σ := rb_Con.of (by decide +kernel) (fun _ => Nat.le_of_ble_eq_true rfl) (fun z w hC => xk_Pole_nearOf hC k0 hk0 p0 σ r h)
def xl_Pole_placeOf_2 (k0 : Nat) (x1 : Int32) (σ : rb_St) : Nat → Int32 → Option (Nat × Int32)
  | 0, _ => none
  | n + 1, x2 => if (σ.1 k0 0) ≤ x2 then some (1, x2) else if rb_ib x2 8 then if (σ.1 (k0 + 1) x2.toNatClampNeg) = x1 then some (0, x2) else xl_Pole_placeOf_2 k0 x1 σ n (x2 + 1) else none
set_option maxHeartbeats 4000000 in
set_option maxRecDepth 100000 in
theorem xt_Pole_placeOf_2 {z : rb_Z} {w : rb_Wd} {Q : State → Prop} (hC : rb_Cx z rb_vX w RX7 cX7_placeOf 3 (some .int) 0) (k0 : Nat) (hk0 : rb_isPole k0) (x1 : Int32) (σ : rb_St) : ∀ (n : Nat) (x2 : Int32) (t : Nat) (y2 : Int32), xl_Pole_placeOf_2 k0 x1 σ n x2 = some (t, y2) → (t = 0 → rb_At z rb_vX w 3 Q 20 [(2, .int y2)] [] σ) → (t = 1 → rb_At z rb_vX w 3 Q 28 [] [] σ) → rb_At z rb_vX w 3 Q 2 [(0, .ref (rb_ad w k0)), (1, .int x1), (2, .int x2)] [] σ := by
  intro n
  induction n with
  | zero =>
    intro x2 t y2 h hE0 hE1
    cases h
  | succ n ih =>
    intro x2 t y2 h hE0 hE1
    rw [xl_Pole_placeOf_2] at h
    refine rb_iload_n hC 2 dX7_placeOf_2 rfl ?_
    refine rb_aload_n hC 0 dX7_placeOf_3 rfl ?_
    refine rb_getI hC fr_X7_30_7 (rb_obPole hk0) rfl dX7_placeOf_4 ?_
    refine rb_icmp_ge hC 28 dX7_placeOf_7 (by decide) (fun c1 => ?_) (fun c1 => ?_)
    · replace h := rb_ifp c1 h
      cases h
      exact rb_sub [] rfl (hE1 rfl)
    · replace h := rb_ifn c1 h
      refine rb_aload_n hC 0 dX7_placeOf_10 rfl ?_
      refine rb_getR hC fr_X7_9_7 (rb_obPole hk0) rfl dX7_placeOf_11 ?_
      refine rb_iload_n hC 2 dX7_placeOf_14 rfl ?_
      obtain ⟨g2, h⟩ := rb_gd h
      refine rb_iald hC (rb_arPole1 hk0) (rb_ibI g2) dX7_placeOf_15 ?_
      refine rb_iload_n hC 1 dX7_placeOf_16 rfl ?_
      refine rb_icmp_ne hC 22 dX7_placeOf_17 (by decide) (fun c3 => ?_) (fun c3 => ?_)
      · replace h := rb_ifn c3 h
        refine rb_iinc hC 2 [(2, .int (x2 + 1)), (0, .ref (rb_ad w k0)), (1, .int x1)] dX7_placeOf_22 rfl rfl (by decide) rfl ?_
        refine rb_goto hC 2 dX7_placeOf_25 (by decide) ?_
        exact rb_sub [1, 2, 0] rfl (ih (x2 + 1) _ _ h hE0 hE1)
      · replace h := rb_ifp c3 h
        cases h
        exact rb_sub [2] rfl (hE0 rfl)
def xf_Pole_placeOf (k0 : Nat) (p0 : Int32) (σ : rb_St) : Option Int32 := rb_b2 (xl_Pole_placeOf_2 k0 p0 σ rb_FU 0) fun t4 y5 => if t4 = 0 then some y5 else some (-1)
set_option maxHeartbeats 4000000 in
set_option maxRecDepth 100000 in
theorem xk_Pole_placeOf {z : rb_Z} {w : rb_Wd} (hC : rb_Cx z rb_vX w RX7 cX7_placeOf 3 (some .int) 0) (k0 : Nat) (hk0 : rb_isPole k0) (p0 : Int32) (σ : rb_St) (r : Int32) (h : xf_Pole_placeOf k0 p0 σ = some r) : rb_At z rb_vX w 3 (rb_Q z rb_vX w (some (.int r)) σ) 0 [(0, .ref (rb_ad w k0)), (1, .int p0)] [] σ := by
  unfold xf_Pole_placeOf at h
  refine rb_iconst (x := 0) hC dX7_placeOf_0 (by decide) ?_
  refine rb_istore_n hC [(2, .int 0), (0, .ref (rb_ad w k0)), (1, .int p0)] dX7_placeOf_1 (by decide) rfl ?_
  obtain ⟨t4, y5, q6, h⟩ := rb_b2s h
  refine rb_sub (lv2 := [(0, .ref (rb_ad w k0)), (1, .int p0), (2, .int 0)]) [1, 2, 0] rfl ?_
  refine xt_Pole_placeOf_2 hC k0 hk0 p0 σ rb_FU 0 _ _ q6 (fun ht => ?_) (fun ht => ?_)
  · subst ht
    replace h := rb_ifp rfl h
    refine rb_iload_n hC 0 dX7_placeOf_20 rfl ?_
    cases h
    exact rb_iret hC dX7_placeOf_21
  · subst ht
    replace h := rb_ifn (by decide) h
    refine rb_iconst (x := (-1)) hC dX7_placeOf_28 (by decide) ?_
    cases h
    exact rb_iret hC dX7_placeOf_29
theorem xc_Pole_placeOf (k0 : Nat) (hk0 : rb_isPole k0) (p0 : Int32) (σ : rb_St) (r : Int32) (h : xf_Pole_placeOf k0 p0 σ = some r) : rb_Con rb_vX yX7_placeOf cX7_placeOf 3 (some .int) 0 (fun w => [.ref (rb_ad w k0), .int p0]) σ (fun _ => (some (.int r))) σ := rb_Con.of (by decide +kernel) (fun _ => Nat.le_of_ble_eq_true rfl) (fun z w hC => xk_Pole_placeOf hC k0 hk0 p0 σ r h)
def xf_Pole_overBy (k0 : Nat) (p0 : Int32) (σ : rb_St) : Option Int32 := if (p0 &&& 1) = 0 then if rb_ib ((p0 >>> (1 &&& 31)) &&& 7) 8 then some (σ.1 (k0 + 1) ((p0 >>> (1 &&& 31)) &&& 7).toNatClampNeg) else none else if rb_ib (xf_Pole_nextPlace k0 ((p0 >>> (1 &&& 31)) &&& 7) σ) 8 then some (σ.1 (k0 + 1) (xf_Pole_nextPlace k0 ((p0 >>> (1 &&& 31)) &&& 7) σ).toNatClampNeg) else none
set_option maxHeartbeats 4000000 in
set_option maxRecDepth 100000 in
theorem xk_Pole_overBy {z : rb_Z} {w : rb_Wd} (hC : rb_Cx z rb_vX w RX7 cX7_overBy 3 (some .int) 1) (k0 : Nat) (hk0 : rb_isPole k0) (p0 : Int32) (σ : rb_St) (r : Int32) (h : xf_Pole_overBy k0 p0 σ = some r) : rb_At z rb_vX w 3 (rb_Q z rb_vX w (some (.int r)) σ) 0 [(0, .ref (rb_ad w k0)), (1, .int p0)] [] σ := by
  unfold xf_Pole_overBy at h
  refine rb_iload_n hC 1 dX7_overBy_0 rfl ?_
  refine rb_iconst (x := 1) hC dX7_overBy_1 (by decide) ?_
  refine rb_ishr hC dX7_overBy_2 ?_
  refine rb_bipush (x := 7) hC dX7_overBy_3 (by decide) ?_
  refine rb_iand hC dX7_overBy_5 ?_
  refine rb_istore_n hC [(2, .int ((p0 >>> (1 &&& 31)) &&& 7)), (0, .ref (rb_ad w k0)), (1, .int p0)] dX7_overBy_6 (by decide) rfl ?_
  refine rb_aload_n hC 1 dX7_overBy_7 rfl ?_
  refine rb_getR hC fr_X7_9_7 (rb_obPole hk0) rfl dX7_overBy_8 ?_
  refine rb_iload_n hC 2 dX7_overBy_11 rfl ?_
  refine rb_iconst (x := 1) hC dX7_overBy_12 (by decide) ?_
  refine rb_iand hC dX7_overBy_13 ?_
  refine rb_if_ne hC 21 dX7_overBy_14 (by decide) (fun c1 => ?_) (fun c1 => ?_)
  · replace h := rb_ifn c1 h
    refine rb_aload_n hC 1 dX7_overBy_21 rfl ?_
    refine rb_iload_n hC 0 dX7_overBy_22 rfl ?_
    refine rb_callVi hC rb_VokX mv_X7_60 (xc_Pole_nextPlace k0 hk0 ((p0 >>> (1 &&& 31)) &&& 7) σ _ rfl) (rb_obPole hk0) rfl [.int ((p0 >>> (1 &&& 31)) &&& 7)] rfl rfl rfl ⟨Nat.le_of_ble_eq_true rfl, Nat.le_of_ble_eq_true rfl⟩ (Nat.le_of_ble_eq_true rfl) dX7_overBy_23 ?_
    obtain ⟨g2, h⟩ := rb_gd h
    refine rb_iald hC (rb_arPole1 hk0) (rb_ibI g2) dX7_overBy_26 ?_
    cases h
    exact rb_iret hC dX7_overBy_27
  · replace h := rb_ifp c1 h
    refine rb_iload_n hC 0 dX7_overBy_17 rfl ?_
    refine rb_goto hC 26 dX7_overBy_18 (by decide) ?_
    obtain ⟨g3, h⟩ := rb_gd h
    refine rb_iald hC (rb_arPole1 hk0) (rb_ibI g3) dX7_overBy_26 ?_
    cases h
    exact rb_iret hC dX7_overBy_27
theorem xc_Pole_overBy (k0 : Nat) (hk0 : rb_isPole k0) (p0 : Int32) (σ : rb_St) (r : Int32) (h : xf_Pole_overBy k0 p0 σ = some r) : rb_Con rb_vX yX7_overBy cX7_overBy 3 (some .int) 1 (fun w => [.ref (rb_ad w k0), .int p0]) σ (fun _ => (some (.int r))) σ := rb_Con.of (by decide +kernel) (fun _ => Nat.le_of_ble_eq_true rfl) (fun z w hC => xk_Pole_overBy hC k0 hk0 p0 σ r h)
theorem me_X7_overBy : Cond.instanceMethod yX7_overBy ∈ rb_tbl ∧ Cond.selects yX7_overBy.cls yX7_overBy yX7_overBy ∈ rb_tbl ∧ Cond.initialized yX7_overBy.cls ∈ rb_tbl ∧ Cond.code yX7_overBy cX7_overBy 3 (some .int) ∈ rb_tbl ∧ rb_pn yX7_overBy 1 := ⟨rb_in (by decide +kernel) (by decide +kernel), rb_in (by decide +kernel) (by decide +kernel), rb_in (by decide +kernel) (by decide +kernel), rb_in (by decide +kernel) (by decide +kernel), by decide +kernel, by decide +kernel, by decide +kernel⟩
theorem mv_X7_64 : rb_MV RX7 64 yX7_overBy cX7_overBy 3 (some .int) 1 := ⟨rb_in (by decide +kernel) (by decide +kernel), me_X7_overBy⟩
def xf_Pole_underBy (k0 : Nat) (p0 : Int32) (σ : rb_St) : Option Int32 := rb_b1 (xf_Pole_overBy k0 (p0 ^^^ 1) σ) fun r1 => some r1
set_option maxHeartbeats 4000000 in
set_option maxRecDepth 100000 in
theorem xk_Pole_underBy {z : rb_Z} {w : rb_Wd} (hC : rb_Cx z rb_vX w RX7 cX7_underBy 2 (some .int) 2) (k0 : Nat) (hk0 : rb_isPole k0) (p0 : Int32) (σ : rb_St) (r : Int32) (h : xf_Pole_underBy k0 p0 σ = some r) : rb_At z rb_vX w 2 (rb_Q z rb_vX w (some (.int r)) σ) 0 [(0, .ref (rb_ad w k0)), (1, .int p0)] [] σ := by
  unfold xf_Pole_underBy at h
  refine rb_aload_n hC 0 dX7_underBy_0 rfl ?_
  refine rb_iload_n hC 1 dX7_underBy_1 rfl ?_
  refine rb_iconst (x := 1) hC dX7_underBy_2 (by decide) ?_
  refine rb_ixor hC dX7_underBy_3 ?_
  obtain ⟨r1, q2, h⟩ := rb_b1s h
  refine rb_callVi hC rb_VokX mv_X7_64 (xc_Pole_overBy k0 hk0 (p0 ^^^ 1) σ _ q2) (rb_obPole hk0) rfl [.int (p0 ^^^ 1)] rfl rfl rfl ⟨Nat.le_of_ble_eq_true rfl, Nat.le_of_ble_eq_true rfl⟩ (Nat.le_of_ble_eq_true rfl) dX7_underBy_4 ?_
  cases h
  exact rb_iret hC dX7_underBy_7
theorem xc_Pole_underBy (k0 : Nat) (hk0 : rb_isPole k0) (p0 : Int32) (σ : rb_St) (r : Int32) (h : xf_Pole_underBy k0 p0 σ = some r) : rb_Con rb_vX yX7_underBy cX7_underBy 2 (some .int) 2 (fun w => [.ref (rb_ad w k0), .int p0]) σ (fun _ => (some (.int r))) σ := rb_Con.of (by decide +kernel) (fun _ => Nat.le_of_ble_eq_true rfl) (fun z w hC => xk_Pole_underBy hC k0 hk0 p0 σ r h)
theorem me_X7_nearOf : Cond.instanceMethod yX7_nearOf ∈ rb_tbl ∧ Cond.selects yX7_nearOf.cls yX7_nearOf yX7_nearOf ∈ rb_tbl ∧ Cond.initialized yX7_nearOf.cls ∈ rb_tbl ∧ Cond.code yX7_nearOf cX7_nearOf 3 (some .int) ∈ rb_tbl ∧ rb_pn yX7_nearOf 1 := ⟨rb_in (by decide +kernel) (by decide +kernel), rb_in (by decide +kernel) (by decide +kernel), rb_in (by decide +kernel) (by decide +kernel), rb_in (by decide +kernel) (by decide +kernel), by decide +kernel, by decide +kernel, by decide +kernel⟩
theorem mv_X7_67 : rb_MV RX7 67 yX7_nearOf cX7_nearOf 3 (some .int) 1 := ⟨rb_in (by decide +kernel) (by decide +kernel), me_X7_nearOf⟩
theorem me_X7_placeIn : Cond.static yX7_placeIn ∈ rb_tbl ∧ Cond.initialized yX7_placeIn.cls ∈ rb_tbl ∧ Cond.code yX7_placeIn cX7_placeIn 1 (some .int) ∈ rb_tbl ∧ rb_pn yX7_placeIn 1 := ⟨rb_in (by decide +kernel) (by decide +kernel), rb_in (by decide +kernel) (by decide +kernel), rb_in (by decide +kernel) (by decide +kernel), by decide +kernel, by decide +kernel, by decide +kernel⟩
theorem mv_X7_70 : rb_MS RX7 70 yX7_placeIn cX7_placeIn 1 (some .int) 1 := ⟨rb_in (by decide +kernel) (by decide +kernel), me_X7_placeIn⟩
theorem me_X7_letterIn : Cond.static yX7_letterIn ∈ rb_tbl ∧ Cond.initialized yX7_letterIn.cls ∈ rb_tbl ∧ Cond.code yX7_letterIn cX7_letterIn 1 (some .int) ∈ rb_tbl ∧ rb_pn yX7_letterIn 1 := ⟨rb_in (by decide +kernel) (by decide +kernel), rb_in (by decide +kernel) (by decide +kernel), rb_in (by decide +kernel) (by decide +kernel), by decide +kernel, by decide +kernel, by decide +kernel⟩
theorem mv_X7_73 : rb_MS RX7 73 yX7_letterIn cX7_letterIn 1 (some .int) 1 := ⟨rb_in (by decide +kernel) (by decide +kernel), me_X7_letterIn⟩
def xl_Pole_undoneBy_15 (k0 : Nat) (x1 : Int32) (x2 : Int32) (σ : rb_St) : Nat → Int32 → Option (Nat × Int32)
  | 0, _ => none
  | n + 1, x3 => if x3 < 0 then some (1, x3) else if rb_ib x3 48 then if ((x2 >>> ((xf_Pole_placeIn (σ.1 (k0 + 3) x3.toNatClampNeg) σ) &&& 31)) &&& 1) = 0 then xl_Pole_undoneBy_15 k0 x1 x2 σ n (x3 + (-1)) else some (0, x3) else none
set_option maxHeartbeats 4000000 in
set_option maxRecDepth 100000 in
theorem xt_Pole_undoneBy_15 {z : rb_Z} {w : rb_Wd} {Q : State → Prop} (hC : rb_Cx z rb_vX w RX7 cX7_undoneBy 4 (some .int) 2) (k0 : Nat) (hk0 : rb_isPole k0) (x1 : Int32) (x2 : Int32) (σ : rb_St) : ∀ (n : Nat) (x3 : Int32) (t : Nat) (y3 : Int32), xl_Pole_undoneBy_15 k0 x1 x2 σ n x3 = some (t, y3) → (t = 0 → rb_At z rb_vX w 4 Q 35 [(0, .ref (rb_ad w k0)), (1, .int x1), (3, .int y3)] [] σ) → (t = 1 → rb_At z rb_vX w 4 Q 62 [] [] σ) → rb_At z rb_vX w 4 Q 15 [(0, .ref (rb_ad w k0)), (1, .int x1), (2, .int x2), (3, .int x3)] [] σ := by
  intro n
  induction n with
  | zero =>
    intro x3 t y3 h hE0 hE1
    cases h
  | succ n ih =>
    intro x3 t y3 h hE0 hE1
    rw [xl_Pole_undoneBy_15] at h
    refine rb_iload_n hC 3 dX7_undoneBy_15 rfl ?_
    refine rb_if_lt hC 62 dX7_undoneBy_16 (by decide) (fun c3 => ?_) (fun c3 => ?_)
    · replace h := rb_ifp c3 h
      cases h
      exact rb_sub [] rfl (hE1 rfl)
    · replace h := rb_ifn c3 h
      refine rb_iload_n hC 2 dX7_undoneBy_19 rfl ?_
      refine rb_aload_n hC 0 dX7_undoneBy_20 rfl ?_
      refine rb_getR hC fr_X7_18_7 (rb_obPole hk0) rfl dX7_undoneBy_21 ?_
      refine rb_iload_n hC 3 dX7_undoneBy_24 rfl ?_
      obtain ⟨g4, h⟩ := rb_gd h
      refine rb_iald hC (rb_arPole3 hk0) (rb_ibI g4) dX7_undoneBy_25 ?_
      refine rb_callSi hC rb_VokX mv_X7_70 (xc_Pole_placeIn (σ.1 (k0 + 3) x3.toNatClampNeg) σ _ rfl) [.int (σ.1 (k0 + 3) x3.toNatClampNeg)] rfl rfl rfl ⟨Nat.le_of_ble_eq_true rfl, Nat.le_of_ble_eq_true rfl⟩ (Nat.le_of_ble_eq_true rfl) dX7_undoneBy_26 ?_
      refine rb_ishr hC dX7_undoneBy_29 ?_
      refine rb_iconst (x := 1) hC dX7_undoneBy_30 (by decide) ?_
      refine rb_iand hC dX7_undoneBy_31 ?_
      refine rb_if_eq hC 56 dX7_undoneBy_32 (by decide) (fun c5 => ?_) (fun c5 => ?_)
      · replace h := rb_ifp c5 h
        refine rb_iinc hC 3 [(3, .int (x3 + (-1))), (0, .ref (rb_ad w k0)), (1, .int x1), (2, .int x2)] dX7_undoneBy_56 rfl rfl (by decide) rfl ?_
        refine rb_goto hC 15 dX7_undoneBy_59 (by decide) ?_
        exact rb_sub [1, 2, 3, 0] rfl (ih (x3 + (-1)) _ _ h hE0 hE1)
      · replace h := rb_ifn c5 h
        cases h
        exact rb_sub [0, 1, 3] rfl (hE0 rfl)
def xf_Pole_undoneBy (k0 : Nat) (p0 : Int32) (σ : rb_St) : Option Int32 := rb_lt (xf_Pole_nearOf k0 (p0 >>> (1 &&& 31)) σ) (fun v1 => rb_b2 (xl_Pole_undoneBy_15 k0 p0 v1 σ rb_FU ((σ.1 k0 1) - 1)) fun t6 y7 => if t6 = 0 then if rb_ib y7 48 then if (xf_Pole_letterIn (σ.1 (k0 + 3) y7.toNatClampNeg) σ) = (p0 ^^^ 1) then some y7 else some (-1) else none else some (-1))
set_option maxHeartbeats 4000000 in
set_option maxRecDepth 100000 in
theorem xk_Pole_undoneBy {z : rb_Z} {w : rb_Wd} (hC : rb_Cx z rb_vX w RX7 cX7_undoneBy 4 (some .int) 2) (k0 : Nat) (hk0 : rb_isPole k0) (p0 : Int32) (σ : rb_St) (r : Int32) (h : xf_Pole_undoneBy k0 p0 σ = some r) : rb_At z rb_vX w 4 (rb_Q z rb_vX w (some (.int r)) σ) 0 [(0, .ref (rb_ad w k0)), (1, .int p0)] [] σ := by
  unfold xf_Pole_undoneBy at h
  refine rb_aload_n hC 0 dX7_undoneBy_0 rfl ?_
  refine rb_iload_n hC 1 dX7_undoneBy_1 rfl ?_
  refine rb_iconst (x := 1) hC dX7_undoneBy_2 (by decide) ?_
  refine rb_ishr hC dX7_undoneBy_3 ?_
  refine rb_callVi hC rb_VokX mv_X7_67 (xc_Pole_nearOf k0 hk0 (p0 >>> (1 &&& 31)) σ _ rfl) (rb_obPole hk0) rfl [.int (p0 >>> (1 &&& 31))] rfl rfl rfl ⟨Nat.le_of_ble_eq_true rfl, Nat.le_of_ble_eq_true rfl⟩ (Nat.le_of_ble_eq_true rfl) dX7_undoneBy_4 ?_
  obtain ⟨v1, e2, h⟩ := rb_ltE h
  refine rb_nmI e2 ?_
  refine rb_istore_n hC [(2, .int v1), (0, .ref (rb_ad w k0)), (1, .int p0)] dX7_undoneBy_7 (by decide) rfl ?_
  refine rb_aload_n hC 1 dX7_undoneBy_8 rfl ?_
  refine rb_getI hC fr_X7_33_7 (rb_obPole hk0) rfl dX7_undoneBy_9 ?_
  refine rb_iconst (x := 1) hC dX7_undoneBy_12 (by decide) ?_
  refine rb_isub hC dX7_undoneBy_13 ?_
  refine rb_istore_n hC [(3, .int ((σ.1 k0 1) - 1)), (2, .int v1), (0, .ref (rb_ad w k0)), (1, .int p0)] dX7_undoneBy_14 (by decide) rfl ?_
  obtain ⟨t6, y7, q8, h⟩ := rb_b2s h
  refine rb_sub (lv2 := [(0, .ref (rb_ad w k0)), (1, .int p0), (2, .int v1), (3, .int ((σ.1 k0 1) - 1))]) [2, 3, 1, 0] rfl ?_
  refine xt_Pole_undoneBy_15 hC k0 hk0 p0 v1 σ rb_FU ((σ.1 k0 1) - 1) _ _ q8 (fun ht => ?_) (fun ht => ?_)
  · subst ht
    replace h := rb_ifp rfl h
    refine rb_aload_n hC 0 dX7_undoneBy_35 rfl ?_
    refine rb_getR hC fr_X7_18_7 (rb_obPole hk0) rfl dX7_undoneBy_36 ?_
    refine rb_iload_n hC 2 dX7_undoneBy_39 rfl ?_
    obtain ⟨g9, h⟩ := rb_gd h
    refine rb_iald hC (rb_arPole3 hk0) (rb_ibI g9) dX7_undoneBy_40 ?_
    refine rb_callSi hC rb_VokX mv_X7_73 (xc_Pole_letterIn (σ.1 (k0 + 3) y7.toNatClampNeg) σ _ rfl) [.int (σ.1 (k0 + 3) y7.toNatClampNeg)] rfl rfl rfl ⟨Nat.le_of_ble_eq_true rfl, Nat.le_of_ble_eq_true rfl⟩ (Nat.le_of_ble_eq_true rfl) dX7_undoneBy_41 ?_
    refine rb_iload_n hC 1 dX7_undoneBy_44 rfl ?_
    refine rb_iconst (x := 1) hC dX7_undoneBy_45 (by decide) ?_
    refine rb_ixor hC dX7_undoneBy_46 ?_
    refine rb_icmp_ne hC 54 dX7_undoneBy_47 (by decide) (fun c10 => ?_) (fun c10 => ?_)
    · replace h := rb_ifn c10 h
      refine rb_iconst (x := (-1)) hC dX7_undoneBy_54 (by decide) ?_
      cases h
      exact rb_iret hC dX7_undoneBy_55
    · replace h := rb_ifp c10 h
      refine rb_iload_n hC 2 dX7_undoneBy_50 rfl ?_
      refine rb_goto hC 55 dX7_undoneBy_51 (by decide) ?_
      cases h
      exact rb_iret hC dX7_undoneBy_55
  · subst ht
    replace h := rb_ifn (by decide) h
    refine rb_iconst (x := (-1)) hC dX7_undoneBy_62 (by decide) ?_
    cases h
    exact rb_iret hC dX7_undoneBy_63
theorem xc_Pole_undoneBy (k0 : Nat) (hk0 : rb_isPole k0) (p0 : Int32) (σ : rb_St) (r : Int32) (h : xf_Pole_undoneBy k0 p0 σ = some r) : rb_Con rb_vX yX7_undoneBy cX7_undoneBy 4 (some .int) 2 (fun w => [.ref (rb_ad w k0), .int p0]) σ (fun _ => (some (.int r))) σ := rb_Con.of (by decide +kernel) (fun _ => Nat.le_of_ble_eq_true rfl) (fun z w hC => xk_Pole_undoneBy hC k0 hk0 p0 σ r h)
theorem me_X7_layerIn : Cond.static yX7_layerIn ∈ rb_tbl ∧ Cond.initialized yX7_layerIn.cls ∈ rb_tbl ∧ Cond.code yX7_layerIn cX7_layerIn 1 (some .int) ∈ rb_tbl ∧ rb_pn yX7_layerIn 1 := ⟨rb_in (by decide +kernel) (by decide +kernel), rb_in (by decide +kernel) (by decide +kernel), rb_in (by decide +kernel) (by decide +kernel), by decide +kernel, by decide +kernel, by decide +kernel⟩
theorem mv_X7_76 : rb_MS RX7 76 yX7_layerIn cX7_layerIn 1 (some .int) 1 := ⟨rb_in (by decide +kernel) (by decide +kernel), me_X7_layerIn⟩
theorem mk_X7_79 : Cond.methodLink RX7 79 Lib.Math.max.name ∈ rb_tbl := rb_in (by decide +kernel) (by decide +kernel)
def xl_Pole_layerAt_11 (k0 : Nat) (x2 : Int32) (σ : rb_St) : Nat → Int32 → Int32 → Option (Int32)
  | 0, _, _ => none
  | n + 1, x3, x4 => if (σ.1 k0 1) ≤ x4 then some x3 else if rb_ib x4 48 then if ((x2 >>> ((xf_Pole_placeIn (σ.1 (k0 + 3) x4.toNatClampNeg) σ) &&& 31)) &&& 1) = 0 then xl_Pole_layerAt_11 k0 x2 σ n x3 (x4 + 1) else rb_lt (rb_mx x3 (xf_Pole_layerIn (σ.1 (k0 + 3) x4.toNatClampNeg) σ)) (fun v4 => xl_Pole_layerAt_11 k0 x2 σ n v4 (x4 + 1)) else none
set_option maxHeartbeats 4000000 in
set_option maxRecDepth 100000 in
theorem xt_Pole_layerAt_11 {z : rb_Z} {w : rb_Wd} {Q : State → Prop} (hC : rb_Cx z rb_vX w RX7 cX7_layerAt 5 (some .int) 2) (k0 : Nat) (hk0 : rb_isPole k0) (x2 : Int32) (σ : rb_St) : ∀ (n : Nat) (x3 : Int32) (x4 : Int32) (y3 : Int32), xl_Pole_layerAt_11 k0 x2 σ n x3 x4 = some y3 → rb_At z rb_vX w 5 Q 58 [(3, .int y3)] [] σ → rb_At z rb_vX w 5 Q 11 [(0, .ref (rb_ad w k0)), (2, .int x2), (3, .int x3), (4, .int x4)] [] σ := by
  intro n
  induction n with
  | zero =>
    intro x3 x4 y3 h hE0
    cases h
  | succ n ih =>
    intro x3 x4 y3 h hE0
    rw [xl_Pole_layerAt_11] at h
    refine rb_iload hC 3 dX7_layerAt_11 rfl ?_
    refine rb_aload_n hC 0 dX7_layerAt_13 rfl ?_
    refine rb_getI hC fr_X7_33_7 (rb_obPole hk0) rfl dX7_layerAt_14 ?_
    refine rb_icmp_ge hC 58 dX7_layerAt_17 (by decide) (fun c1 => ?_) (fun c1 => ?_)
    · replace h := rb_ifp c1 h
      cases h
      exact rb_sub [2] rfl (hE0)
    · replace h := rb_ifn c1 h
      refine rb_iload_n hC 1 dX7_layerAt_20 rfl ?_
      refine rb_aload_n hC 0 dX7_layerAt_21 rfl ?_
      refine rb_getR hC fr_X7_18_7 (rb_obPole hk0) rfl dX7_layerAt_22 ?_
      refine rb_iload hC 3 dX7_layerAt_25 rfl ?_
      obtain ⟨g2, h⟩ := rb_gd h
      refine rb_iald hC (rb_arPole3 hk0) (rb_ibI g2) dX7_layerAt_27 ?_
      refine rb_callSi hC rb_VokX mv_X7_70 (xc_Pole_placeIn (σ.1 (k0 + 3) x4.toNatClampNeg) σ _ rfl) [.int (σ.1 (k0 + 3) x4.toNatClampNeg)] rfl rfl rfl ⟨Nat.le_of_ble_eq_true rfl, Nat.le_of_ble_eq_true rfl⟩ (Nat.le_of_ble_eq_true rfl) dX7_layerAt_28 ?_
      refine rb_ishr hC dX7_layerAt_31 ?_
      refine rb_iconst (x := 1) hC dX7_layerAt_32 (by decide) ?_
      refine rb_iand hC dX7_layerAt_33 ?_
      refine rb_if_eq hC 52 dX7_layerAt_34 (by decide) (fun c3 => ?_) (fun c3 => ?_)
      · replace h := rb_ifp c3 h
        refine rb_iinc hC 3 [(4, .int (x4 + 1)), (0, .ref (rb_ad w k0)), (2, .int x2), (3, .int x3)] dX7_layerAt_52 rfl rfl (by decide) rfl ?_
        refine rb_goto hC 11 dX7_layerAt_55 (by decide) ?_
        exact rb_sub [1, 2, 3, 0] rfl (ih x3 (x4 + 1) _ h hE0)
      · replace h := rb_ifn c3 h
        refine rb_iload_n hC 2 dX7_layerAt_37 rfl ?_
        refine rb_aload_n hC 0 dX7_layerAt_38 rfl ?_
        refine rb_getR hC fr_X7_18_7 (rb_obPole hk0) rfl dX7_layerAt_39 ?_
        refine rb_iload hC 3 dX7_layerAt_42 rfl ?_
        refine rb_iald hC (rb_arPole3 hk0) (rb_ibI g2) dX7_layerAt_44 ?_
        refine rb_callSi hC rb_VokX mv_X7_76 (xc_Pole_layerIn (σ.1 (k0 + 3) x4.toNatClampNeg) σ _ rfl) [.int (σ.1 (k0 + 3) x4.toNatClampNeg)] rfl rfl rfl ⟨Nat.le_of_ble_eq_true rfl, Nat.le_of_ble_eq_true rfl⟩ (Nat.le_of_ble_eq_true rfl) dX7_layerAt_45 ?_
        refine rb_mmax hC mk_X7_79 ⟨Nat.le_of_ble_eq_true rfl, Nat.le_of_ble_eq_true rfl⟩ dX7_layerAt_48 ?_
        obtain ⟨v4, e5, h⟩ := rb_ltE h
        refine rb_nmI e5 ?_
        refine rb_istore_n hC [(3, .int v4), (0, .ref (rb_ad w k0)), (2, .int x2), (4, .int x4)] dX7_layerAt_51 (by decide) rfl ?_
        refine rb_iinc hC 3 [(4, .int (x4 + 1)), (3, .int v4), (0, .ref (rb_ad w k0)), (2, .int x2)] dX7_layerAt_52 rfl rfl (by decide) rfl ?_
        refine rb_goto hC 11 dX7_layerAt_55 (by decide) ?_
        exact rb_sub [2, 3, 1, 0] rfl (ih v4 (x4 + 1) _ h hE0)
def xf_Pole_layerAt (k0 : Nat) (p0 : Int32) (σ : rb_St) : Option Int32 := rb_b1 (xl_Pole_layerAt_11 k0 (xf_Pole_nearOf k0 p0 σ) σ rb_FU 0 0) fun y6 => some (y6 + 1)
set_option maxHeartbeats 4000000 in
set_option maxRecDepth 100000 in
theorem xk_Pole_layerAt {z : rb_Z} {w : rb_Wd} (hC : rb_Cx z rb_vX w RX7 cX7_layerAt 5 (some .int) 2) (k0 : Nat) (hk0 : rb_isPole k0) (p0 : Int32) (σ : rb_St) (r : Int32) (h : xf_Pole_layerAt k0 p0 σ = some r) : rb_At z rb_vX w 5 (rb_Q z rb_vX w (some (.int r)) σ) 0 [(0, .ref (rb_ad w k0)), (1, .int p0)] [] σ := by
  unfold xf_Pole_layerAt at h
  refine rb_aload_n hC 0 dX7_layerAt_0 rfl ?_
  refine rb_iload_n hC 1 dX7_layerAt_1 rfl ?_
  refine rb_callVi hC rb_VokX mv_X7_67 (xc_Pole_nearOf k0 hk0 p0 σ _ rfl) (rb_obPole hk0) rfl [.int p0] rfl rfl rfl ⟨Nat.le_of_ble_eq_true rfl, Nat.le_of_ble_eq_true rfl⟩ (Nat.le_of_ble_eq_true rfl) dX7_layerAt_2 ?_
  refine rb_istore_n hC [(2, .int (xf_Pole_nearOf k0 p0 σ)), (0, .ref (rb_ad w k0)), (1, .int p0)] dX7_layerAt_5 (by decide) rfl ?_
  refine rb_iconst (x := 0) hC dX7_layerAt_6 (by decide) ?_
  refine rb_istore_n hC [(3, .int 0), (2, .int (xf_Pole_nearOf k0 p0 σ)), (0, .ref (rb_ad w k0)), (1, .int p0)] dX7_layerAt_7 (by decide) rfl ?_
  refine rb_iconst (x := 0) hC dX7_layerAt_8 (by decide) ?_
  refine rb_istore hC [(4, .int 0), (3, .int 0), (2, .int (xf_Pole_nearOf k0 p0 σ)), (0, .ref (rb_ad w k0)), (1, .int p0)] dX7_layerAt_9 (by decide) rfl ?_
  obtain ⟨y6, q7, h⟩ := rb_b1s h
  refine rb_sub (lv2 := [(0, .ref (rb_ad w k0)), (2, .int (xf_Pole_nearOf k0 p0 σ)), (3, .int 0), (4, .int 0)]) [3, 2, 1, 0] rfl ?_
  refine xt_Pole_layerAt_11 hC k0 hk0 (xf_Pole_nearOf k0 p0 σ) σ rb_FU 0 0 _ q7 ?_
  refine rb_iload_n hC 0 dX7_layerAt_58 rfl ?_
  refine rb_iconst (x := 1) hC dX7_layerAt_59 (by decide) ?_
  refine rb_iadd hC dX7_layerAt_60 ?_
  cases h
  exact rb_iret hC dX7_layerAt_61
theorem xc_Pole_layerAt (k0 : Nat) (hk0 : rb_isPole k0) (p0 : Int32) (σ : rb_St) (r : Int32) (h : xf_Pole_layerAt k0 p0 σ = some r) : rb_Con rb_vX yX7_layerAt cX7_layerAt 5 (some .int) 2 (fun w => [.ref (rb_ad w k0), .int p0]) σ (fun _ => (some (.int r))) σ := rb_Con.of (by decide +kernel) (fun _ => Nat.le_of_ble_eq_true rfl) (fun z w hC => xk_Pole_layerAt hC k0 hk0 p0 σ r h)
theorem me_X7_hasPlace : Cond.instanceMethod yX7_hasPlace ∈ rb_tbl ∧ Cond.selects yX7_hasPlace.cls yX7_hasPlace yX7_hasPlace ∈ rb_tbl ∧ Cond.initialized yX7_hasPlace.cls ∈ rb_tbl ∧ Cond.code yX7_hasPlace cX7_hasPlace 2 (some .boolean) ∈ rb_tbl ∧ rb_pn yX7_hasPlace 1 := ⟨rb_in (by decide +kernel) (by decide +kernel), rb_in (by decide +kernel) (by decide +kernel), rb_in (by decide +kernel) (by decide +kernel), rb_in (by decide +kernel) (by decide +kernel), by decide +kernel, by decide +kernel, by decide +kernel⟩
theorem mv_X7_97 : rb_MV RX7 97 yX7_hasPlace cX7_hasPlace 2 (some .boolean) 1 := ⟨rb_in (by decide +kernel) (by decide +kernel), me_X7_hasPlace⟩
def xf_Pole_change (k0 : Nat) (p0 : Int32) (σ : rb_St) : Option (rb_St) := if (xf_Pole_hasPlace k0 p0 σ) = 0 then some σ else if rb_ib p0 8 then if rb_ib (xf_Pole_nextPlace k0 p0 σ) 8 then rb_lt (rb_sI σ (k0 + 1) p0.toNatClampNeg (σ.1 (k0 + 1) (xf_Pole_nextPlace k0 p0 σ).toNatClampNeg)) (fun s4 => if rb_ib (xf_Pole_nextPlace k0 p0 s4) 8 then rb_lt (rb_sI s4 (k0 + 1) (xf_Pole_nextPlace k0 p0 s4).toNatClampNeg (σ.1 (k0 + 1) p0.toNatClampNeg)) (fun s7 => some s7) else none) else none else none
set_option maxHeartbeats 4000000 in
set_option maxRecDepth 100000 in
theorem xk_Pole_change {z : rb_Z} {w : rb_Wd} (hC : rb_Cx z rb_vX w RX7 cX7_change 3 none 1) (k0 : Nat) (hk0 : rb_isPole k0) (p0 : Int32) (σ : rb_St) (σ9 : rb_St) (h : xf_Pole_change k0 p0 σ = some σ9) : rb_At z rb_vX w 3 (rb_Q z rb_vX w none σ9) 0 [(0, .ref (rb_ad w k0)), (1, .int p0)] [] σ := by
  unfold xf_Pole_change at h
  refine rb_aload_n hC 0 dX7_change_0 rfl ?_
  refine rb_iload_n hC 1 dX7_change_1 rfl ?_
  refine rb_callVi hC rb_VokX mv_X7_97 (xc_Pole_hasPlace k0 hk0 p0 σ _ rfl) (rb_obPole hk0) rfl [.int p0] rfl rfl rfl ⟨Nat.le_of_ble_eq_true rfl, Nat.le_of_ble_eq_true rfl⟩ (Nat.le_of_ble_eq_true rfl) dX7_change_2 ?_
  refine rb_if_ne hC 9 dX7_change_5 (by decide) (fun c1 => ?_) (fun c1 => ?_)
  · replace h := rb_ifn c1 h
    refine rb_aload_n hC 0 dX7_change_9 rfl ?_
    refine rb_getR hC fr_X7_9_7 (rb_obPole hk0) rfl dX7_change_10 ?_
    refine rb_iload_n hC 1 dX7_change_13 rfl ?_
    obtain ⟨g2, h⟩ := rb_gd h
    refine rb_iald hC (rb_arPole1 hk0) (rb_ibI g2) dX7_change_14 ?_
    refine rb_istore_n hC [(2, .int (σ.1 (k0 + 1) p0.toNatClampNeg)), (0, .ref (rb_ad w k0)), (1, .int p0)] dX7_change_15 (by decide) rfl ?_
    refine rb_aload_n hC 1 dX7_change_16 rfl ?_
    refine rb_getR hC fr_X7_9_7 (rb_obPole hk0) rfl dX7_change_17 ?_
    refine rb_iload_n hC 2 dX7_change_20 rfl ?_
    refine rb_aload_n hC 1 dX7_change_21 rfl ?_
    refine rb_getR hC fr_X7_9_7 (rb_obPole hk0) rfl dX7_change_22 ?_
    refine rb_aload_n hC 1 dX7_change_25 rfl ?_
    refine rb_iload_n hC 2 dX7_change_26 rfl ?_
    refine rb_callVi hC rb_VokX mv_X7_60 (xc_Pole_nextPlace k0 hk0 p0 σ _ rfl) (rb_obPole hk0) rfl [.int p0] rfl rfl rfl ⟨Nat.le_of_ble_eq_true rfl, Nat.le_of_ble_eq_true rfl⟩ (Nat.le_of_ble_eq_true rfl) dX7_change_27 ?_
    obtain ⟨g3, h⟩ := rb_gd h
    refine rb_iald hC (rb_arPole1 hk0) (rb_ibI g3) dX7_change_30 ?_
    refine rb_iast hC (rb_arPole1 hk0) (rb_ibI g2) dX7_change_31 ?_
    obtain ⟨s4, e5, h⟩ := rb_ltE h
    refine rb_nmS e5 ?_
    refine rb_aload_n hC 1 dX7_change_32 rfl ?_
    refine rb_getR hC fr_X7_9_7 (rb_obPole hk0) rfl dX7_change_33 ?_
    refine rb_aload_n hC 1 dX7_change_36 rfl ?_
    refine rb_iload_n hC 2 dX7_change_37 rfl ?_
    refine rb_callVi hC rb_VokX mv_X7_60 (xc_Pole_nextPlace k0 hk0 p0 s4 _ rfl) (rb_obPole hk0) rfl [.int p0] rfl rfl rfl ⟨Nat.le_of_ble_eq_true rfl, Nat.le_of_ble_eq_true rfl⟩ (Nat.le_of_ble_eq_true rfl) dX7_change_38 ?_
    refine rb_iload_n hC 0 dX7_change_41 rfl ?_
    obtain ⟨g6, h⟩ := rb_gd h
    refine rb_iast hC (rb_arPole1 hk0) (rb_ibI g6) dX7_change_42 ?_
    obtain ⟨s7, e8, h⟩ := rb_ltE h
    refine rb_nmS e8 ?_
    cases h
    exact rb_vret hC dX7_change_43
  · replace h := rb_ifp c1 h
    cases h
    exact rb_vret hC dX7_change_8
theorem xc_Pole_change (k0 : Nat) (hk0 : rb_isPole k0) (p0 : Int32) (σ : rb_St) (σ9 : rb_St) (h : xf_Pole_change k0 p0 σ = some σ9) : rb_Con rb_vX yX7_change cX7_change 3 none 1 (fun w => [.ref (rb_ad w k0), .int p0]) σ (fun _ => none) σ9 := rb_Con.of (by decide +kernel) (fun _ => Nat.le_of_ble_eq_true rfl) (fun z w hC => xk_Pole_change hC k0 hk0 p0 σ σ9 h)
def xf_Pole_noteBeat (k0 : Nat) (p0 : Int32) (p1 : Int32) (σ : rb_St) : Option (rb_St) := if (σ.1 k0 3) < 0 then rb_lt (rb_sI σ k0 3 ((σ.1 k0 3) + 1)) (fun s2 => some s2) else if rb_ib ((σ.1 k0 3) - (σ.1 k0 3) / 60 * 60) 60 then rb_lt (rb_sI σ (k0 + 4) ((σ.1 k0 3) - (σ.1 k0 3) / 60 * 60).toNatClampNeg ((p0 ||| (p1 <<< (5 &&& 31))) ||| ((σ.1 k0 1) <<< (6 &&& 31)))) (fun s5 => rb_lt (rb_sI s5 k0 3 ((s5.1 k0 3) + 1)) (fun s7 => some s7)) else none
set_option maxHeartbeats 4000000 in
set_option maxRecDepth 100000 in
theorem xk_Pole_noteBeat {z : rb_Z} {w : rb_Wd} (hC : rb_Cx z rb_vX w RX7 cX7_noteBeat 3 none 0) (k0 : Nat) (hk0 : rb_isPole k0) (p0 : Int32) (p1 : Int32) (σ : rb_St) (σ9 : rb_St) (h : xf_Pole_noteBeat k0 p0 p1 σ = some σ9) : rb_At z rb_vX w 3 (rb_Q z rb_vX w none σ9) 0 [(0, .ref (rb_ad w k0)), (1, .int p0), (2, .int p1)] [] σ := by
  unfold xf_Pole_noteBeat at h
  refine rb_aload_n hC 0 dX7_noteBeat_0 rfl ?_
  refine rb_getI hC fr_X7_43_7 (rb_obPole hk0) rfl dX7_noteBeat_1 ?_
  refine rb_if_lt hC 32 dX7_noteBeat_4 (by decide) (fun c1 => ?_) (fun c1 => ?_)
  · replace h := rb_ifp c1 h
    refine rb_aload_n hC 0 dX7_noteBeat_32 rfl ?_
    refine rb_dup hC dX7_noteBeat_33 rfl ?_
    refine rb_getI hC fr_X7_43_7 (rb_obPole hk0) rfl dX7_noteBeat_34 ?_
    refine rb_iconst (x := 1) hC dX7_noteBeat_37 (by decide) ?_
    refine rb_iadd hC dX7_noteBeat_38 ?_
    refine rb_putI hC fr_X7_43_7 ft_7_3 (rb_obPole hk0) rfl rfl rfl dX7_noteBeat_39 ?_
    obtain ⟨s2, e3, h⟩ := rb_ltE h
    refine rb_nmS e3 ?_
    cases h
    exact rb_vret hC dX7_noteBeat_42
  · replace h := rb_ifn c1 h
    refine rb_aload_n hC 0 dX7_noteBeat_7 rfl ?_
    refine rb_getR hC fr_X7_21_7 (rb_obPole hk0) rfl dX7_noteBeat_8 ?_
    refine rb_aload_n hC 0 dX7_noteBeat_11 rfl ?_
    refine rb_getI hC fr_X7_43_7 (rb_obPole hk0) rfl dX7_noteBeat_12 ?_
    refine rb_bipush (x := 60) hC dX7_noteBeat_15 (by decide) ?_
    refine rb_irem hC dX7_noteBeat_17 (by decide) ?_
    refine rb_iload_n hC 1 dX7_noteBeat_18 rfl ?_
    refine rb_iload_n hC 2 dX7_noteBeat_19 rfl ?_
    refine rb_iconst (x := 5) hC dX7_noteBeat_20 (by decide) ?_
    refine rb_ishl hC dX7_noteBeat_21 ?_
    refine rb_ior hC dX7_noteBeat_22 ?_
    refine rb_aload_n hC 0 dX7_noteBeat_23 rfl ?_
    refine rb_getI hC fr_X7_33_7 (rb_obPole hk0) rfl dX7_noteBeat_24 ?_
    refine rb_bipush (x := 6) hC dX7_noteBeat_27 (by decide) ?_
    refine rb_ishl hC dX7_noteBeat_29 ?_
    refine rb_ior hC dX7_noteBeat_30 ?_
    obtain ⟨g4, h⟩ := rb_gd h
    refine rb_iast hC (rb_arPole4 hk0) (rb_ibI g4) dX7_noteBeat_31 ?_
    obtain ⟨s5, e6, h⟩ := rb_ltE h
    refine rb_nmS e6 ?_
    refine rb_aload_n hC 0 dX7_noteBeat_32 rfl ?_
    refine rb_dup hC dX7_noteBeat_33 rfl ?_
    refine rb_getI hC fr_X7_43_7 (rb_obPole hk0) rfl dX7_noteBeat_34 ?_
    refine rb_iconst (x := 1) hC dX7_noteBeat_37 (by decide) ?_
    refine rb_iadd hC dX7_noteBeat_38 ?_
    refine rb_putI hC fr_X7_43_7 ft_7_3 (rb_obPole hk0) rfl rfl rfl dX7_noteBeat_39 ?_
    obtain ⟨s7, e8, h⟩ := rb_ltE h
    refine rb_nmS e8 ?_
    cases h
    exact rb_vret hC dX7_noteBeat_42
theorem xc_Pole_noteBeat (k0 : Nat) (hk0 : rb_isPole k0) (p0 : Int32) (p1 : Int32) (σ : rb_St) (σ9 : rb_St) (h : xf_Pole_noteBeat k0 p0 p1 σ = some σ9) : rb_Con rb_vX yX7_noteBeat cX7_noteBeat 3 none 0 (fun w => [.ref (rb_ad w k0), .int p0, .int p1]) σ (fun _ => none) σ9 := rb_Con.of (by decide +kernel) (fun _ => Nat.le_of_ble_eq_true rfl) (fun z w hC => xk_Pole_noteBeat hC k0 hk0 p0 p1 σ σ9 h)
theorem mk_X7_114 : Cond.methodLink RX7 114 Lib.Math.min.name ∈ rb_tbl := rb_in (by decide +kernel) (by decide +kernel)
def xf_Pole_entryCount (k0 : Nat) (σ : rb_St) : Int32 := rb_mn (σ.1 k0 3) 60
set_option maxHeartbeats 4000000 in
set_option maxRecDepth 100000 in
theorem xk_Pole_entryCount {z : rb_Z} {w : rb_Wd} (hC : rb_Cx z rb_vX w RX7 cX7_entryCount 1 (some .int) 1) (k0 : Nat) (hk0 : rb_isPole k0) (σ : rb_St) (r : Int32) (h : xf_Pole_entryCount k0 σ = r) : rb_At z rb_vX w 1 (rb_Q z rb_vX w (some (.int r)) σ) 0 [(0, .ref (rb_ad w k0))] [] σ := by
  unfold xf_Pole_entryCount at h
  refine rb_aload_n hC 0 dX7_entryCount_0 rfl ?_
  refine rb_getI hC fr_X7_43_7 (rb_obPole hk0) rfl dX7_entryCount_1 ?_
  refine rb_bipush (x := 60) hC dX7_entryCount_4 (by decide) ?_
  refine rb_mmin hC mk_X7_114 ⟨Nat.le_of_ble_eq_true rfl, Nat.le_of_ble_eq_true rfl⟩ dX7_entryCount_6 ?_
  subst h
  exact rb_iret hC dX7_entryCount_9
theorem xc_Pole_entryCount (k0 : Nat) (hk0 : rb_isPole k0) (σ : rb_St) (r : Int32) (h : xf_Pole_entryCount k0 σ = r) : rb_Con rb_vX yX7_entryCount cX7_entryCount 1 (some .int) 1 (fun w => [.ref (rb_ad w k0)]) σ (fun _ => (some (.int r))) σ := rb_Con.of (by decide +kernel) (fun _ => Nat.le_of_ble_eq_true rfl) (fun z w hC => xk_Pole_entryCount hC k0 hk0 σ r h)
def xf_Pole_entryAgo (k0 : Nat) (p0 : Int32) (σ : rb_St) : Option Int32 := if 0 ≤ (((σ.1 k0 3) - 1) - p0) then if rb_ib ((((σ.1 k0 3) - 1) - p0) - (((σ.1 k0 3) - 1) - p0) / 60 * 60) 60 then some (σ.1 (k0 + 4) ((((σ.1 k0 3) - 1) - p0) - (((σ.1 k0 3) - 1) - p0) / 60 * 60).toNatClampNeg) else none else some 0
set_option maxHeartbeats 4000000 in
set_option maxRecDepth 100000 in
theorem xk_Pole_entryAgo {z : rb_Z} {w : rb_Wd} (hC : rb_Cx z rb_vX w RX7 cX7_entryAgo 3 (some .int) 0) (k0 : Nat) (hk0 : rb_isPole k0) (p0 : Int32) (σ : rb_St) (r : Int32) (h : xf_Pole_entryAgo k0 p0 σ = some r) : rb_At z rb_vX w 3 (rb_Q z rb_vX w (some (.int r)) σ) 0 [(0, .ref (rb_ad w k0)), (1, .int p0)] [] σ := by
  unfold xf_Pole_entryAgo at h
  refine rb_aload_n hC 0 dX7_entryAgo_0 rfl ?_
  refine rb_getI hC fr_X7_43_7 (rb_obPole hk0) rfl dX7_entryAgo_1 ?_
  refine rb_iconst (x := 1) hC dX7_entryAgo_4 (by decide) ?_
  refine rb_isub hC dX7_entryAgo_5 ?_
  refine rb_iload_n hC 1 dX7_entryAgo_6 rfl ?_
  refine rb_isub hC dX7_entryAgo_7 ?_
  refine rb_istore_n hC [(2, .int (((σ.1 k0 3) - 1) - p0)), (0, .ref (rb_ad w k0)), (1, .int p0)] dX7_entryAgo_8 (by decide) rfl ?_
  refine rb_iload_n hC 0 dX7_entryAgo_9 rfl ?_
  refine rb_if_ge hC 17 dX7_entryAgo_10 (by decide) (fun c1 => ?_) (fun c1 => ?_)
  · replace h := rb_ifp c1 h
    refine rb_aload_n hC 1 dX7_entryAgo_17 rfl ?_
    refine rb_getR hC fr_X7_21_7 (rb_obPole hk0) rfl dX7_entryAgo_18 ?_
    refine rb_iload_n hC 0 dX7_entryAgo_21 rfl ?_
    refine rb_bipush (x := 60) hC dX7_entryAgo_22 (by decide) ?_
    refine rb_irem hC dX7_entryAgo_24 (by decide) ?_
    obtain ⟨g2, h⟩ := rb_gd h
    refine rb_iald hC (rb_arPole4 hk0) (rb_ibI g2) dX7_entryAgo_25 ?_
    cases h
    exact rb_iret hC dX7_entryAgo_26
  · replace h := rb_ifn c1 h
    refine rb_iconst (x := 0) hC dX7_entryAgo_13 (by decide) ?_
    refine rb_goto hC 26 dX7_entryAgo_14 (by decide) ?_
    cases h
    exact rb_iret hC dX7_entryAgo_26
theorem xc_Pole_entryAgo (k0 : Nat) (hk0 : rb_isPole k0) (p0 : Int32) (σ : rb_St) (r : Int32) (h : xf_Pole_entryAgo k0 p0 σ = some r) : rb_Con rb_vX yX7_entryAgo cX7_entryAgo 3 (some .int) 0 (fun w => [.ref (rb_ad w k0), .int p0]) σ (fun _ => (some (.int r))) σ := rb_Con.of (by decide +kernel) (fun _ => Nat.le_of_ble_eq_true rfl) (fun z w hC => xk_Pole_entryAgo hC k0 hk0 p0 σ r h)
def xl_Pole_toldNext_12 (k0 : Nat) (x1 : Int64) (σ : rb_St) : Nat → Int32 → Int32 → Int32 → Int32 → Option (Int32)
  | 0, _, _, _, _ => none
  | n + 1, x3, x4, x5, x6 => if (σ.1 k0 1) ≤ x6 then some x4 else if (lg_cmp ((x1 >>> (x6.toInt64 &&& 63)) &&& 1) 0) = 0 then xl_Pole_toldNext_12 k0 x1 σ n x3 x4 x5 (x6 + 1) else if rb_ib x6 48 then rb_lt (xf_Pole_placeIn (σ.1 (k0 + 3) x6.toNatClampNeg) σ) (fun v4 => if ((x3 >>> (v4 &&& 31)) &&& 1) = 0 then if x5 ≤ (xf_Pole_letterIn (σ.1 (k0 + 3) x6.toNatClampNeg) σ) then rb_lt (x3 ||| (xf_Pole_nearOf k0 v4 σ)) (fun v10 => xl_Pole_toldNext_12 k0 x1 σ n v10 x4 x5 (x6 + 1)) else rb_lt (xf_Pole_letterIn (σ.1 (k0 + 3) x6.toNatClampNeg) σ) (fun v12 => rb_lt (x3 ||| (xf_Pole_nearOf k0 v4 σ)) (fun v14 => xl_Pole_toldNext_12 k0 x1 σ n v14 x6 v12 (x6 + 1))) else rb_lt (x3 ||| (xf_Pole_nearOf k0 v4 σ)) (fun v7 => xl_Pole_toldNext_12 k0 x1 σ n v7 x4 x5 (x6 + 1))) else none
set_option maxHeartbeats 4000000 in
set_option maxRecDepth 100000 in
theorem xt_Pole_toldNext_12 {z : rb_Z} {w : rb_Wd} {Q : State → Prop} (hC : rb_Cx z rb_vX w RX7 cX7_toldNext 8 (some .int) 2) (k0 : Nat) (hk0 : rb_isPole k0) (x1 : Int64) (σ : rb_St) : ∀ (n : Nat) (x3 : Int32) (x4 : Int32) (x5 : Int32) (x6 : Int32) (y4 : Int32), xl_Pole_toldNext_12 k0 x1 σ n x3 x4 x5 x6 = some y4 → rb_At z rb_vX w 8 Q 99 [(4, .int y4)] [] σ → rb_At z rb_vX w 8 Q 12 [(0, .ref (rb_ad w k0)), (1, .long x1), (3, .int x3), (4, .int x4), (5, .int x5), (6, .int x6)] [] σ := by
  intro n
  induction n with
  | zero =>
    intro x3 x4 x5 x6 y4 h hE0
    cases h
  | succ n ih =>
    intro x3 x4 x5 x6 y4 h hE0
    rw [xl_Pole_toldNext_12] at h
    refine rb_iload hC 5 dX7_toldNext_12 rfl ?_
    refine rb_aload_n hC 0 dX7_toldNext_14 rfl ?_
    refine rb_getI hC fr_X7_33_7 (rb_obPole hk0) rfl dX7_toldNext_15 ?_
    refine rb_icmp_ge hC 99 dX7_toldNext_18 (by decide) (fun c1 => ?_) (fun c1 => ?_)
    · replace h := rb_ifp c1 h
      cases h
      exact rb_sub [3] rfl (hE0)
    · replace h := rb_ifn c1 h
      refine rb_lload_n hC 1 dX7_toldNext_21 rfl ?_
      refine rb_iload hC 5 dX7_toldNext_22 rfl ?_
      refine rb_lshr hC dX7_toldNext_24 ?_
      refine rb_lconst (x := 1) hC dX7_toldNext_25 (by decide) ?_
      refine rb_land hC dX7_toldNext_26 ?_
      refine rb_lconst (x := 0) hC dX7_toldNext_27 (by decide) ?_
      refine rb_lcmp hC dX7_toldNext_28 ?_
      refine rb_if_eq hC 93 dX7_toldNext_29 (by decide) (fun c2 => ?_) (fun c2 => ?_)
      · replace h := rb_ifp c2 h
        refine rb_iinc hC 5 [(6, .int (x6 + 1)), (0, .ref (rb_ad w k0)), (1, .long x1), (3, .int x3), (4, .int x4), (5, .int x5)] dX7_toldNext_93 rfl rfl (by decide) rfl ?_
        refine rb_goto hC 12 dX7_toldNext_96 (by decide) ?_
        exact rb_sub [1, 2, 3, 4, 5, 0] rfl (ih x3 x4 x5 (x6 + 1) _ h hE0)
      · replace h := rb_ifn c2 h
        refine rb_aload_n hC 0 dX7_toldNext_32 rfl ?_
        refine rb_getR hC fr_X7_18_7 (rb_obPole hk0) rfl dX7_toldNext_33 ?_
        refine rb_iload hC 5 dX7_toldNext_36 rfl ?_
        obtain ⟨g3, h⟩ := rb_gd h
        refine rb_iald hC (rb_arPole3 hk0) (rb_ibI g3) dX7_toldNext_38 ?_
        refine rb_callSi hC rb_VokX mv_X7_70 (xc_Pole_placeIn (σ.1 (k0 + 3) x6.toNatClampNeg) σ _ rfl) [.int (σ.1 (k0 + 3) x6.toNatClampNeg)] rfl rfl rfl ⟨Nat.le_of_ble_eq_true rfl, Nat.le_of_ble_eq_true rfl⟩ (Nat.le_of_ble_eq_true rfl) dX7_toldNext_39 ?_
        obtain ⟨v4, e5, h⟩ := rb_ltE h
        refine rb_nmI e5 ?_
        refine rb_istore hC [(7, .int v4), (0, .ref (rb_ad w k0)), (1, .long x1), (3, .int x3), (4, .int x4), (5, .int x5), (6, .int x6)] dX7_toldNext_42 (by decide) rfl ?_
        refine rb_iload_n hC 3 dX7_toldNext_44 rfl ?_
        refine rb_iload hC 0 dX7_toldNext_45 rfl ?_
        refine rb_ishr hC dX7_toldNext_47 ?_
        refine rb_iconst (x := 1) hC dX7_toldNext_48 (by decide) ?_
        refine rb_iand hC dX7_toldNext_49 ?_
        refine rb_if_ne hC 84 dX7_toldNext_50 (by decide) (fun c6 => ?_) (fun c6 => ?_)
        · replace h := rb_ifn c6 h
          refine rb_iload_n hC 3 dX7_toldNext_84 rfl ?_
          refine rb_aload_n hC 1 dX7_toldNext_85 rfl ?_
          refine rb_iload hC 0 dX7_toldNext_86 rfl ?_
          refine rb_callVi hC rb_VokX mv_X7_67 (xc_Pole_nearOf k0 hk0 v4 σ _ rfl) (rb_obPole hk0) rfl [.int v4] rfl rfl rfl ⟨Nat.le_of_ble_eq_true rfl, Nat.le_of_ble_eq_true rfl⟩ (Nat.le_of_ble_eq_true rfl) dX7_toldNext_88 ?_
          refine rb_ior hC dX7_toldNext_91 ?_
          obtain ⟨v7, e8, h⟩ := rb_ltE h
          refine rb_nmI e8 ?_
          refine rb_istore_n hC [(3, .int v7), (7, .int v4), (0, .ref (rb_ad w k0)), (1, .long x1), (4, .int x4), (5, .int x5), (6, .int x6)] dX7_toldNext_92 (by decide) rfl ?_
          refine rb_iinc hC 6 [(6, .int (x6 + 1)), (3, .int v7), (7, .int v4), (0, .ref (rb_ad w k0)), (1, .long x1), (4, .int x4), (5, .int x5)] dX7_toldNext_93 rfl rfl (by decide) rfl ?_
          refine rb_goto hC 12 dX7_toldNext_96 (by decide) ?_
          exact rb_sub [3, 4, 1, 5, 6, 0] rfl (ih v7 x4 x5 (x6 + 1) _ h hE0)
        · replace h := rb_ifp c6 h
          refine rb_aload_n hC 1 dX7_toldNext_53 rfl ?_
          refine rb_getR hC fr_X7_18_7 (rb_obPole hk0) rfl dX7_toldNext_54 ?_
          refine rb_iload hC 6 dX7_toldNext_57 rfl ?_
          refine rb_iald hC (rb_arPole3 hk0) (rb_ibI g3) dX7_toldNext_59 ?_
          refine rb_callSi hC rb_VokX mv_X7_73 (xc_Pole_letterIn (σ.1 (k0 + 3) x6.toNatClampNeg) σ _ rfl) [.int (σ.1 (k0 + 3) x6.toNatClampNeg)] rfl rfl rfl ⟨Nat.le_of_ble_eq_true rfl, Nat.le_of_ble_eq_true rfl⟩ (Nat.le_of_ble_eq_true rfl) dX7_toldNext_60 ?_
          refine rb_iload hC 5 dX7_toldNext_63 rfl ?_
          refine rb_icmp_ge hC 84 dX7_toldNext_65 (by decide) (fun c9 => ?_) (fun c9 => ?_)
          · replace h := rb_ifp c9 h
            refine rb_iload_n hC 3 dX7_toldNext_84 rfl ?_
            refine rb_aload_n hC 1 dX7_toldNext_85 rfl ?_
            refine rb_iload hC 0 dX7_toldNext_86 rfl ?_
            refine rb_callVi hC rb_VokX mv_X7_67 (xc_Pole_nearOf k0 hk0 v4 σ _ rfl) (rb_obPole hk0) rfl [.int v4] rfl rfl rfl ⟨Nat.le_of_ble_eq_true rfl, Nat.le_of_ble_eq_true rfl⟩ (Nat.le_of_ble_eq_true rfl) dX7_toldNext_88 ?_
            refine rb_ior hC dX7_toldNext_91 ?_
            obtain ⟨v10, e11, h⟩ := rb_ltE h
            refine rb_nmI e11 ?_
            refine rb_istore_n hC [(3, .int v10), (7, .int v4), (0, .ref (rb_ad w k0)), (1, .long x1), (4, .int x4), (5, .int x5), (6, .int x6)] dX7_toldNext_92 (by decide) rfl ?_
            refine rb_iinc hC 6 [(6, .int (x6 + 1)), (3, .int v10), (7, .int v4), (0, .ref (rb_ad w k0)), (1, .long x1), (4, .int x4), (5, .int x5)] dX7_toldNext_93 rfl rfl (by decide) rfl ?_
            refine rb_goto hC 12 dX7_toldNext_96 (by decide) ?_
            exact rb_sub [3, 4, 1, 5, 6, 0] rfl (ih v10 x4 x5 (x6 + 1) _ h hE0)
          · replace h := rb_ifn c9 h
            refine rb_aload_n hC 1 dX7_toldNext_68 rfl ?_
            refine rb_getR hC fr_X7_18_7 (rb_obPole hk0) rfl dX7_toldNext_69 ?_
            refine rb_iload hC 6 dX7_toldNext_72 rfl ?_
            refine rb_iald hC (rb_arPole3 hk0) (rb_ibI g3) dX7_toldNext_74 ?_
            refine rb_callSi hC rb_VokX mv_X7_73 (xc_Pole_letterIn (σ.1 (k0 + 3) x6.toNatClampNeg) σ _ rfl) [.int (σ.1 (k0 + 3) x6.toNatClampNeg)] rfl rfl rfl ⟨Nat.le_of_ble_eq_true rfl, Nat.le_of_ble_eq_true rfl⟩ (Nat.le_of_ble_eq_true rfl) dX7_toldNext_75 ?_
            obtain ⟨v12, e13, h⟩ := rb_ltE h
            refine rb_nmI e13 ?_
            refine rb_istore hC [(5, .int v12), (7, .int v4), (0, .ref (rb_ad w k0)), (1, .long x1), (3, .int x3), (4, .int x4), (6, .int x6)] dX7_toldNext_78 (by decide) rfl ?_
            refine rb_iload hC 6 dX7_toldNext_80 rfl ?_
            refine rb_istore hC [(4, .int x6), (5, .int v12), (7, .int v4), (0, .ref (rb_ad w k0)), (1, .long x1), (3, .int x3), (6, .int x6)] dX7_toldNext_82 (by decide) rfl ?_
            refine rb_iload_n hC 5 dX7_toldNext_84 rfl ?_
            refine rb_aload_n hC 3 dX7_toldNext_85 rfl ?_
            refine rb_iload hC 2 dX7_toldNext_86 rfl ?_
            refine rb_callVi hC rb_VokX mv_X7_67 (xc_Pole_nearOf k0 hk0 v4 σ _ rfl) (rb_obPole hk0) rfl [.int v4] rfl rfl rfl ⟨Nat.le_of_ble_eq_true rfl, Nat.le_of_ble_eq_true rfl⟩ (Nat.le_of_ble_eq_true rfl) dX7_toldNext_88 ?_
            refine rb_ior hC dX7_toldNext_91 ?_
            obtain ⟨v14, e15, h⟩ := rb_ltE h
            refine rb_nmI e15 ?_
            refine rb_istore_n hC [(3, .int v14), (4, .int x6), (5, .int v12), (7, .int v4), (0, .ref (rb_ad w k0)), (1, .long x1), (6, .int x6)] dX7_toldNext_92 (by decide) rfl ?_
            refine rb_iinc hC 6 [(6, .int (x6 + 1)), (3, .int v14), (4, .int x6), (5, .int v12), (7, .int v4), (0, .ref (rb_ad w k0)), (1, .long x1)] dX7_toldNext_93 rfl rfl (by decide) rfl ?_
            refine rb_goto hC 12 dX7_toldNext_96 (by decide) ?_
            exact rb_sub [5, 6, 1, 2, 3, 0] rfl (ih v14 x6 v12 (x6 + 1) _ h hE0)
def xf_Pole_toldNext (k0 : Nat) (p0 : Int64) (σ : rb_St) : Option Int32 := rb_b1 (xl_Pole_toldNext_12 k0 p0 σ rb_FU 0 0 20 0) fun y16 => some y16
set_option maxHeartbeats 4000000 in
set_option maxRecDepth 100000 in
theorem xk_Pole_toldNext {z : rb_Z} {w : rb_Wd} (hC : rb_Cx z rb_vX w RX7 cX7_toldNext 8 (some .int) 2) (k0 : Nat) (hk0 : rb_isPole k0) (p0 : Int64) (σ : rb_St) (r : Int32) (h : xf_Pole_toldNext k0 p0 σ = some r) : rb_At z rb_vX w 8 (rb_Q z rb_vX w (some (.int r)) σ) 0 [(0, .ref (rb_ad w k0)), (1, .long p0)] [] σ := by
  unfold xf_Pole_toldNext at h
  refine rb_iconst (x := 0) hC dX7_toldNext_0 (by decide) ?_
  refine rb_istore_n hC [(3, .int 0), (0, .ref (rb_ad w k0)), (1, .long p0)] dX7_toldNext_1 (by decide) rfl ?_
  refine rb_iconst (x := 0) hC dX7_toldNext_2 (by decide) ?_
  refine rb_istore hC [(4, .int 0), (3, .int 0), (0, .ref (rb_ad w k0)), (1, .long p0)] dX7_toldNext_3 (by decide) rfl ?_
  refine rb_bipush (x := 20) hC dX7_toldNext_5 (by decide) ?_
  refine rb_istore hC [(5, .int 20), (4, .int 0), (3, .int 0), (0, .ref (rb_ad w k0)), (1, .long p0)] dX7_toldNext_7 (by decide) rfl ?_
  refine rb_iconst (x := 0) hC dX7_toldNext_9 (by decide) ?_
  refine rb_istore hC [(6, .int 0), (5, .int 20), (4, .int 0), (3, .int 0), (0, .ref (rb_ad w k0)), (1, .long p0)] dX7_toldNext_10 (by decide) rfl ?_
  obtain ⟨y16, q17, h⟩ := rb_b1s h
  refine rb_sub (lv2 := [(0, .ref (rb_ad w k0)), (1, .long p0), (3, .int 0), (4, .int 0), (5, .int 20), (6, .int 0)]) [4, 5, 3, 2, 1, 0] rfl ?_
  refine xt_Pole_toldNext_12 hC k0 hk0 p0 σ rb_FU 0 0 20 0 _ q17 ?_
  refine rb_iload hC 0 dX7_toldNext_99 rfl ?_
  cases h
  exact rb_iret hC dX7_toldNext_101
theorem xc_Pole_toldNext (k0 : Nat) (hk0 : rb_isPole k0) (p0 : Int64) (σ : rb_St) (r : Int32) (h : xf_Pole_toldNext k0 p0 σ = some r) : rb_Con rb_vX yX7_toldNext cX7_toldNext 8 (some .int) 2 (fun w => [.ref (rb_ad w k0), .long p0]) σ (fun _ => (some (.int r))) σ := rb_Con.of (by decide +kernel) (fun _ => Nat.le_of_ble_eq_true rfl) (fun z w hC => xk_Pole_toldNext hC k0 hk0 p0 σ r h)
theorem me_X7_toldNext : Cond.instanceMethod yX7_toldNext ∈ rb_tbl ∧ Cond.selects yX7_toldNext.cls yX7_toldNext yX7_toldNext ∈ rb_tbl ∧ Cond.initialized yX7_toldNext.cls ∈ rb_tbl ∧ Cond.code yX7_toldNext cX7_toldNext 8 (some .int) ∈ rb_tbl ∧ rb_pn yX7_toldNext 1 := ⟨rb_in (by decide +kernel) (by decide +kernel), rb_in (by decide +kernel) (by decide +kernel), rb_in (by decide +kernel) (by decide +kernel), rb_in (by decide +kernel) (by decide +kernel), by decide +kernel, by decide +kernel, by decide +kernel⟩
theorem mv_X7_117 : rb_MV RX7 117 yX7_toldNext cX7_toldNext 8 (some .int) 1 := ⟨rb_in (by decide +kernel) (by decide +kernel), me_X7_toldNext⟩
theorem kc_X7_121 : Cond.constantLong RX7 121 (-1) ∈ rb_tbl := rb_in (by decide +kernel) (by decide +kernel)
def xl_Pole_plaitsLike_28 (k0 : Nat) (k1 : Nat) (σ : rb_St) : Nat → Int64 → Int64 → Int32 → Option (Nat)
  | 0, _, _, _ => none
  | n + 1, x2, x4, x6 => if (σ.1 k0 1) ≤ x6 then some 1 else rb_b1 (xf_Pole_toldNext k0 x2 σ) fun r5 => rb_b1 (xf_Pole_toldNext k1 x4 σ) fun r7 => if rb_ib r5 48 then if rb_ib r7 48 then if (xf_Pole_letterIn (σ.1 (k0 + 3) r5.toNatClampNeg) σ) = (xf_Pole_letterIn (σ.1 (k1 + 3) r7.toNatClampNeg) σ) then rb_lt (x2 &&& (((1 : Int64) <<< (r5.toInt64 &&& 63)) ^^^ (-1))) (fun v12 => rb_lt (x4 &&& (((1 : Int64) <<< (r7.toInt64 &&& 63)) ^^^ (-1))) (fun v14 => xl_Pole_plaitsLike_28 k0 k1 σ n v12 v14 (x6 + 1))) else some 0 else none else none
set_option maxHeartbeats 4000000 in
set_option maxRecDepth 100000 in
theorem xt_Pole_plaitsLike_28 {z : rb_Z} {w : rb_Wd} {Q : State → Prop} (hC : rb_Cx z rb_vX w RX7 cX7_plaitsLike 9 (some .boolean) 3) (k0 : Nat) (hk0 : rb_isPole k0) (k1 : Nat) (hk1 : rb_isPole k1) (σ : rb_St) : ∀ (n : Nat) (x2 : Int64) (x4 : Int64) (x6 : Int32) (t : Nat), xl_Pole_plaitsLike_28 k0 k1 σ n x2 x4 x6 = some t → (t = 0 → rb_At z rb_vX w 9 Q 75 [] [] σ) → (t = 1 → rb_At z rb_vX w 9 Q 107 [] [] σ) → rb_At z rb_vX w 9 Q 28 [(0, .ref (rb_ad w k0)), (1, .ref (rb_ad w k1)), (2, .long x2), (4, .long x4), (6, .int x6)] [] σ := by
  intro n
  induction n with
  | zero =>
    intro x2 x4 x6 t h hE0 hE1
    cases h
  | succ n ih =>
    intro x2 x4 x6 t h hE0 hE1
    rw [xl_Pole_plaitsLike_28] at h
    refine rb_iload hC 4 dX7_plaitsLike_28 rfl ?_
    refine rb_aload_n hC 0 dX7_plaitsLike_30 rfl ?_
    refine rb_getI hC fr_X7_33_7 (rb_obPole hk0) rfl dX7_plaitsLike_31 ?_
    refine rb_icmp_ge hC 107 dX7_plaitsLike_34 (by decide) (fun c4 => ?_) (fun c4 => ?_)
    · replace h := rb_ifp c4 h
      cases h
      exact rb_sub [] rfl (hE1 rfl)
    · replace h := rb_ifn c4 h
      refine rb_aload_n hC 0 dX7_plaitsLike_37 rfl ?_
      refine rb_lload_n hC 2 dX7_plaitsLike_38 rfl ?_
      obtain ⟨r5, q6, h⟩ := rb_b1s h
      refine rb_callVi hC rb_VokX mv_X7_117 (xc_Pole_toldNext k0 hk0 x2 σ _ q6) (rb_obPole hk0) rfl [.long x2] rfl rfl rfl ⟨Nat.le_of_ble_eq_true rfl, Nat.le_of_ble_eq_true rfl⟩ (Nat.le_of_ble_eq_true rfl) dX7_plaitsLike_39 ?_
      refine rb_istore hC [(7, .int r5), (0, .ref (rb_ad w k0)), (1, .ref (rb_ad w k1)), (2, .long x2), (4, .long x4), (6, .int x6)] dX7_plaitsLike_42 (by decide) rfl ?_
      refine rb_aload_n hC 2 dX7_plaitsLike_44 rfl ?_
      refine rb_lload hC 4 dX7_plaitsLike_45 rfl ?_
      obtain ⟨r7, q8, h⟩ := rb_b1s h
      refine rb_callVi hC rb_VokX mv_X7_117 (xc_Pole_toldNext k1 hk1 x4 σ _ q8) (rb_obPole hk1) rfl [.long x4] rfl rfl rfl ⟨Nat.le_of_ble_eq_true rfl, Nat.le_of_ble_eq_true rfl⟩ (Nat.le_of_ble_eq_true rfl) dX7_plaitsLike_47 ?_
      refine rb_istore hC [(8, .int r7), (7, .int r5), (0, .ref (rb_ad w k0)), (1, .ref (rb_ad w k1)), (2, .long x2), (4, .long x4), (6, .int x6)] dX7_plaitsLike_50 (by decide) rfl ?_
      refine rb_aload_n hC 2 dX7_plaitsLike_52 rfl ?_
      refine rb_getR hC fr_X7_18_7 (rb_obPole hk0) rfl dX7_plaitsLike_53 ?_
      refine rb_iload hC 1 dX7_plaitsLike_56 rfl ?_
      obtain ⟨g9, h⟩ := rb_gd h
      refine rb_iald hC (rb_arPole3 hk0) (rb_ibI g9) dX7_plaitsLike_58 ?_
      refine rb_callSi hC rb_VokX mv_X7_73 (xc_Pole_letterIn (σ.1 (k0 + 3) r5.toNatClampNeg) σ _ rfl) [.int (σ.1 (k0 + 3) r5.toNatClampNeg)] rfl rfl rfl ⟨Nat.le_of_ble_eq_true rfl, Nat.le_of_ble_eq_true rfl⟩ (Nat.le_of_ble_eq_true rfl) dX7_plaitsLike_59 ?_
      refine rb_aload_n hC 3 dX7_plaitsLike_62 rfl ?_
      refine rb_getR hC fr_X7_18_7 (rb_obPole hk1) rfl dX7_plaitsLike_63 ?_
      refine rb_iload hC 0 dX7_plaitsLike_66 rfl ?_
      obtain ⟨g10, h⟩ := rb_gd h
      refine rb_iald hC (rb_arPole3 hk1) (rb_ibI g10) dX7_plaitsLike_68 ?_
      refine rb_callSi hC rb_VokX mv_X7_73 (xc_Pole_letterIn (σ.1 (k1 + 3) r7.toNatClampNeg) σ _ rfl) [.int (σ.1 (k1 + 3) r7.toNatClampNeg)] rfl rfl rfl ⟨Nat.le_of_ble_eq_true rfl, Nat.le_of_ble_eq_true rfl⟩ (Nat.le_of_ble_eq_true rfl) dX7_plaitsLike_69 ?_
      refine rb_icmp_eq hC 77 dX7_plaitsLike_72 (by decide) (fun c11 => ?_) (fun c11 => ?_)
      · replace h := rb_ifp c11 h
        refine rb_lload_n hC 4 dX7_plaitsLike_77 rfl ?_
        refine rb_lconst (x := 1) hC dX7_plaitsLike_78 (by decide) ?_
        refine rb_iload hC 1 dX7_plaitsLike_79 rfl ?_
        refine rb_lshl hC dX7_plaitsLike_81 ?_
        refine rb_ldc2_w hC kc_X7_121 dX7_plaitsLike_82 ?_
        refine rb_lxor hC dX7_plaitsLike_85 ?_
        refine rb_land hC dX7_plaitsLike_86 ?_
        obtain ⟨v12, e13, h⟩ := rb_ltE h
        refine rb_nmJ e13 ?_
        refine rb_lstore_n hC [(2, .long v12), (8, .int r7), (7, .int r5), (0, .ref (rb_ad w k0)), (1, .ref (rb_ad w k1)), (4, .long x4), (6, .int x6)] dX7_plaitsLike_87 (by decide) rfl ?_
        refine rb_lload hC 5 dX7_plaitsLike_88 rfl ?_
        refine rb_lconst (x := 1) hC dX7_plaitsLike_90 (by decide) ?_
        refine rb_iload hC 1 dX7_plaitsLike_91 rfl ?_
        refine rb_lshl hC dX7_plaitsLike_93 ?_
        refine rb_ldc2_w hC kc_X7_121 dX7_plaitsLike_94 ?_
        refine rb_lxor hC dX7_plaitsLike_97 ?_
        refine rb_land hC dX7_plaitsLike_98 ?_
        obtain ⟨v14, e15, h⟩ := rb_ltE h
        refine rb_nmJ e15 ?_
        refine rb_lstore hC [(4, .long v14), (2, .long v12), (8, .int r7), (7, .int r5), (0, .ref (rb_ad w k0)), (1, .ref (rb_ad w k1)), (6, .int x6)] dX7_plaitsLike_99 (by decide) rfl ?_
        refine rb_iinc hC 6 [(6, .int (x6 + 1)), (4, .long v14), (2, .long v12), (8, .int r7), (7, .int r5), (0, .ref (rb_ad w k0)), (1, .ref (rb_ad w k1))] dX7_plaitsLike_101 rfl rfl (by decide) rfl ?_
        refine rb_goto hC 28 dX7_plaitsLike_104 (by decide) ?_
        exact rb_sub [5, 6, 2, 1, 0] rfl (ih v12 v14 (x6 + 1) _ h hE0 hE1)
      · replace h := rb_ifn c11 h
        cases h
        exact rb_sub [] rfl (hE0 rfl)
def xf_Pole_plaitsLike (k0 : Nat) (k1 : Nat) (σ : rb_St) : Option Int32 := if (σ.1 k0 1) = (σ.1 k1 1) then rb_lt (((1 : Int64) <<< ((σ.1 k0 1).toInt64 &&& 63)) - 1) (fun v2 => rb_b1 (xl_Pole_plaitsLike_28 k0 k1 σ rb_FU v2 v2 0) fun t16 => if t16 = 0 then some 0 else some 1) else some 0
set_option maxHeartbeats 4000000 in
set_option maxRecDepth 100000 in
theorem xk_Pole_plaitsLike {z : rb_Z} {w : rb_Wd} (hC : rb_Cx z rb_vX w RX7 cX7_plaitsLike 9 (some .boolean) 3) (k0 : Nat) (hk0 : rb_isPole k0) (k1 : Nat) (hk1 : rb_isPole k1) (σ : rb_St) (r : Int32) (h : xf_Pole_plaitsLike k0 k1 σ = some r) : rb_At z rb_vX w 9 (rb_Q z rb_vX w (some (.int r)) σ) 0 [(0, .ref (rb_ad w k0)), (1, .ref (rb_ad w k1))] [] σ := by
  unfold xf_Pole_plaitsLike at h
  refine rb_aload_n hC 0 dX7_plaitsLike_0 rfl ?_
  refine rb_getI hC fr_X7_33_7 (rb_obPole hk0) rfl dX7_plaitsLike_1 ?_
  refine rb_aload_n hC 1 dX7_plaitsLike_4 rfl ?_
  refine rb_getI hC fr_X7_33_7 (rb_obPole hk1) rfl dX7_plaitsLike_5 ?_
  refine rb_icmp_eq hC 13 dX7_plaitsLike_8 (by decide) (fun c1 => ?_) (fun c1 => ?_)
  · replace h := rb_ifp c1 h
    refine rb_lconst (x := 1) hC dX7_plaitsLike_13 (by decide) ?_
    refine rb_aload_n hC 0 dX7_plaitsLike_14 rfl ?_
    refine rb_getI hC fr_X7_33_7 (rb_obPole hk0) rfl dX7_plaitsLike_15 ?_
    refine rb_lshl hC dX7_plaitsLike_18 ?_
    refine rb_lconst (x := 1) hC dX7_plaitsLike_19 (by decide) ?_
    refine rb_lsub hC dX7_plaitsLike_20 ?_
    obtain ⟨v2, e3, h⟩ := rb_ltE h
    refine rb_nmJ e3 ?_
    refine rb_lstore_n hC [(2, .long v2), (0, .ref (rb_ad w k0)), (1, .ref (rb_ad w k1))] dX7_plaitsLike_21 (by decide) rfl ?_
    refine rb_lload_n hC 0 dX7_plaitsLike_22 rfl ?_
    refine rb_lstore hC [(4, .long v2), (2, .long v2), (0, .ref (rb_ad w k0)), (1, .ref (rb_ad w k1))] dX7_plaitsLike_23 (by decide) rfl ?_
    refine rb_iconst (x := 0) hC dX7_plaitsLike_25 (by decide) ?_
    refine rb_istore hC [(6, .int 0), (4, .long v2), (2, .long v2), (0, .ref (rb_ad w k0)), (1, .ref (rb_ad w k1))] dX7_plaitsLike_26 (by decide) rfl ?_
    obtain ⟨t16, q17, h⟩ := rb_b1s h
    refine rb_sub (lv2 := [(0, .ref (rb_ad w k0)), (1, .ref (rb_ad w k1)), (2, .long v2), (4, .long v2), (6, .int 0)]) [3, 4, 2, 1, 0] rfl ?_
    refine xt_Pole_plaitsLike_28 hC k0 hk0 k1 hk1 σ rb_FU v2 v2 0 _ q17 (fun ht => ?_) (fun ht => ?_)
    · subst ht
      replace h := rb_ifp rfl h
      refine rb_iconst (x := 0) hC dX7_plaitsLike_75 (by decide) ?_
      cases h
      exact rb_zret hC rfl dX7_plaitsLike_76
    · subst ht
      replace h := rb_ifn (by decide) h
      refine rb_iconst (x := 1) hC dX7_plaitsLike_107 (by decide) ?_
      cases h
      exact rb_zret hC rfl dX7_plaitsLike_108
  · replace h := rb_ifn c1 h
    refine rb_iconst (x := 0) hC dX7_plaitsLike_11 (by decide) ?_
    cases h
    exact rb_zret hC rfl dX7_plaitsLike_12
theorem xc_Pole_plaitsLike (k0 : Nat) (hk0 : rb_isPole k0) (k1 : Nat) (hk1 : rb_isPole k1) (σ : rb_St) (r : Int32) (h : xf_Pole_plaitsLike k0 k1 σ = some r) : rb_Con rb_vX yX7_plaitsLike cX7_plaitsLike 9 (some .boolean) 3 (fun w => [.ref (rb_ad w k0), .ref (rb_ad w k1)]) σ (fun _ => (some (.int r))) σ := rb_Con.of (by decide +kernel) (fun _ => Nat.le_of_ble_eq_true rfl) (fun z w hC => xk_Pole_plaitsLike hC k0 hk0 k1 hk1 σ r h)
def xl_Pole_looseLetters_11 (k0 : Nat) (σ : rb_St) : Nat → Int32 → Int32 → Int32 → Option (Int32)
  | 0, _, _, _ => none
  | n + 1, x1, x2, x3 => if x3 < 0 then some x2 else if rb_ib x3 48 then rb_lt (xf_Pole_placeIn (σ.1 (k0 + 3) x3.toNatClampNeg) σ) (fun v3 => if ((x1 >>> (v3 &&& 31)) &&& 1) = 0 then rb_lt (x2 ||| (1 <<< ((xf_Pole_letterIn (σ.1 (k0 + 3) x3.toNatClampNeg) σ) &&& 31))) (fun v8 => rb_lt (x1 ||| (xf_Pole_nearOf k0 v3 σ)) (fun v10 => xl_Pole_looseLetters_11 k0 σ n v10 v8 (x3 + (-1)))) else rb_lt (x1 ||| (xf_Pole_nearOf k0 v3 σ)) (fun v6 => xl_Pole_looseLetters_11 k0 σ n v6 x2 (x3 + (-1)))) else none
set_option maxHeartbeats 4000000 in
set_option maxRecDepth 100000 in
theorem xt_Pole_looseLetters_11 {z : rb_Z} {w : rb_Wd} {Q : State → Prop} (hC : rb_Cx z rb_vX w RX7 cX7_looseLetters 5 (some .int) 2) (k0 : Nat) (hk0 : rb_isPole k0) (σ : rb_St) : ∀ (n : Nat) (x1 : Int32) (x2 : Int32) (x3 : Int32) (y2 : Int32), xl_Pole_looseLetters_11 k0 σ n x1 x2 x3 = some y2 → rb_At z rb_vX w 5 Q 64 [(2, .int y2)] [] σ → rb_At z rb_vX w 5 Q 11 [(0, .ref (rb_ad w k0)), (1, .int x1), (2, .int x2), (3, .int x3)] [] σ := by
  intro n
  induction n with
  | zero =>
    intro x1 x2 x3 y2 h hE0
    cases h
  | succ n ih =>
    intro x1 x2 x3 y2 h hE0
    rw [xl_Pole_looseLetters_11] at h
    refine rb_iload_n hC 3 dX7_looseLetters_11 rfl ?_
    refine rb_if_lt hC 64 dX7_looseLetters_12 (by decide) (fun c1 => ?_) (fun c1 => ?_)
    · replace h := rb_ifp c1 h
      cases h
      exact rb_sub [2] rfl (hE0)
    · replace h := rb_ifn c1 h
      refine rb_aload_n hC 0 dX7_looseLetters_15 rfl ?_
      refine rb_getR hC fr_X7_18_7 (rb_obPole hk0) rfl dX7_looseLetters_16 ?_
      refine rb_iload_n hC 3 dX7_looseLetters_19 rfl ?_
      obtain ⟨g2, h⟩ := rb_gd h
      refine rb_iald hC (rb_arPole3 hk0) (rb_ibI g2) dX7_looseLetters_20 ?_
      refine rb_callSi hC rb_VokX mv_X7_70 (xc_Pole_placeIn (σ.1 (k0 + 3) x3.toNatClampNeg) σ _ rfl) [.int (σ.1 (k0 + 3) x3.toNatClampNeg)] rfl rfl rfl ⟨Nat.le_of_ble_eq_true rfl, Nat.le_of_ble_eq_true rfl⟩ (Nat.le_of_ble_eq_true rfl) dX7_looseLetters_21 ?_
      obtain ⟨v3, e4, h⟩ := rb_ltE h
      refine rb_nmI e4 ?_
      refine rb_istore hC [(4, .int v3), (0, .ref (rb_ad w k0)), (1, .int x1), (2, .int x2), (3, .int x3)] dX7_looseLetters_24 (by decide) rfl ?_
      refine rb_iload_n hC 2 dX7_looseLetters_26 rfl ?_
      refine rb_iload hC 0 dX7_looseLetters_27 rfl ?_
      refine rb_ishr hC dX7_looseLetters_29 ?_
      refine rb_iconst (x := 1) hC dX7_looseLetters_30 (by decide) ?_
      refine rb_iand hC dX7_looseLetters_31 ?_
      refine rb_if_ne hC 49 dX7_looseLetters_32 (by decide) (fun c5 => ?_) (fun c5 => ?_)
      · replace h := rb_ifn c5 h
        refine rb_iload_n hC 2 dX7_looseLetters_49 rfl ?_
        refine rb_aload_n hC 1 dX7_looseLetters_50 rfl ?_
        refine rb_iload hC 0 dX7_looseLetters_51 rfl ?_
        refine rb_callVi hC rb_VokX mv_X7_67 (xc_Pole_nearOf k0 hk0 v3 σ _ rfl) (rb_obPole hk0) rfl [.int v3] rfl rfl rfl ⟨Nat.le_of_ble_eq_true rfl, Nat.le_of_ble_eq_true rfl⟩ (Nat.le_of_ble_eq_true rfl) dX7_looseLetters_53 ?_
        refine rb_ior hC dX7_looseLetters_56 ?_
        obtain ⟨v6, e7, h⟩ := rb_ltE h
        refine rb_nmI e7 ?_
        refine rb_istore_n hC [(1, .int v6), (4, .int v3), (0, .ref (rb_ad w k0)), (2, .int x2), (3, .int x3)] dX7_looseLetters_57 (by decide) rfl ?_
        refine rb_iinc hC 4 [(3, .int (x3 + (-1))), (1, .int v6), (4, .int v3), (0, .ref (rb_ad w k0)), (2, .int x2)] dX7_looseLetters_58 rfl rfl (by decide) rfl ?_
        refine rb_goto hC 11 dX7_looseLetters_61 (by decide) ?_
        exact rb_sub [3, 1, 4, 0] rfl (ih v6 x2 (x3 + (-1)) _ h hE0)
      · replace h := rb_ifp c5 h
        refine rb_iload_n hC 3 dX7_looseLetters_35 rfl ?_
        refine rb_iconst (x := 1) hC dX7_looseLetters_36 (by decide) ?_
        refine rb_aload_n hC 1 dX7_looseLetters_37 rfl ?_
        refine rb_getR hC fr_X7_18_7 (rb_obPole hk0) rfl dX7_looseLetters_38 ?_
        refine rb_iload_n hC 4 dX7_looseLetters_41 rfl ?_
        refine rb_iald hC (rb_arPole3 hk0) (rb_ibI g2) dX7_looseLetters_42 ?_
        refine rb_callSi hC rb_VokX mv_X7_73 (xc_Pole_letterIn (σ.1 (k0 + 3) x3.toNatClampNeg) σ _ rfl) [.int (σ.1 (k0 + 3) x3.toNatClampNeg)] rfl rfl rfl ⟨Nat.le_of_ble_eq_true rfl, Nat.le_of_ble_eq_true rfl⟩ (Nat.le_of_ble_eq_true rfl) dX7_looseLetters_43 ?_
        refine rb_ishl hC dX7_looseLetters_46 ?_
        refine rb_ior hC dX7_looseLetters_47 ?_
        obtain ⟨v8, e9, h⟩ := rb_ltE h
        refine rb_nmI e9 ?_
        refine rb_istore_n hC [(2, .int v8), (4, .int v3), (0, .ref (rb_ad w k0)), (1, .int x1), (3, .int x3)] dX7_looseLetters_48 (by decide) rfl ?_
        refine rb_iload_n hC 3 dX7_looseLetters_49 rfl ?_
        refine rb_aload_n hC 2 dX7_looseLetters_50 rfl ?_
        refine rb_iload hC 1 dX7_looseLetters_51 rfl ?_
        refine rb_callVi hC rb_VokX mv_X7_67 (xc_Pole_nearOf k0 hk0 v3 σ _ rfl) (rb_obPole hk0) rfl [.int v3] rfl rfl rfl ⟨Nat.le_of_ble_eq_true rfl, Nat.le_of_ble_eq_true rfl⟩ (Nat.le_of_ble_eq_true rfl) dX7_looseLetters_53 ?_
        refine rb_ior hC dX7_looseLetters_56 ?_
        obtain ⟨v10, e11, h⟩ := rb_ltE h
        refine rb_nmI e11 ?_
        refine rb_istore_n hC [(1, .int v10), (2, .int v8), (4, .int v3), (0, .ref (rb_ad w k0)), (3, .int x3)] dX7_looseLetters_57 (by decide) rfl ?_
        refine rb_iinc hC 4 [(3, .int (x3 + (-1))), (1, .int v10), (2, .int v8), (4, .int v3), (0, .ref (rb_ad w k0))] dX7_looseLetters_58 rfl rfl (by decide) rfl ?_
        refine rb_goto hC 11 dX7_looseLetters_61 (by decide) ?_
        exact rb_sub [4, 1, 2, 0] rfl (ih v10 v8 (x3 + (-1)) _ h hE0)
def xf_Pole_looseLetters (k0 : Nat) (σ : rb_St) : Option Int32 := rb_b1 (xl_Pole_looseLetters_11 k0 σ rb_FU 0 0 ((σ.1 k0 1) - 1)) fun y12 => some y12
set_option maxHeartbeats 4000000 in
set_option maxRecDepth 100000 in
theorem xk_Pole_looseLetters {z : rb_Z} {w : rb_Wd} (hC : rb_Cx z rb_vX w RX7 cX7_looseLetters 5 (some .int) 2) (k0 : Nat) (hk0 : rb_isPole k0) (σ : rb_St) (r : Int32) (h : xf_Pole_looseLetters k0 σ = some r) : rb_At z rb_vX w 5 (rb_Q z rb_vX w (some (.int r)) σ) 0 [(0, .ref (rb_ad w k0))] [] σ := by
  unfold xf_Pole_looseLetters at h
  refine rb_iconst (x := 0) hC dX7_looseLetters_0 (by decide) ?_
  refine rb_istore_n hC [(1, .int 0), (0, .ref (rb_ad w k0))] dX7_looseLetters_1 (by decide) rfl ?_
  refine rb_iconst (x := 0) hC dX7_looseLetters_2 (by decide) ?_
  refine rb_istore_n hC [(2, .int 0), (1, .int 0), (0, .ref (rb_ad w k0))] dX7_looseLetters_3 (by decide) rfl ?_
  refine rb_aload_n hC 2 dX7_looseLetters_4 rfl ?_
  refine rb_getI hC fr_X7_33_7 (rb_obPole hk0) rfl dX7_looseLetters_5 ?_
  refine rb_iconst (x := 1) hC dX7_looseLetters_8 (by decide) ?_
  refine rb_isub hC dX7_looseLetters_9 ?_
  refine rb_istore_n hC [(3, .int ((σ.1 k0 1) - 1)), (2, .int 0), (1, .int 0), (0, .ref (rb_ad w k0))] dX7_looseLetters_10 (by decide) rfl ?_
  obtain ⟨y12, q13, h⟩ := rb_b1s h
  refine rb_sub (lv2 := [(0, .ref (rb_ad w k0)), (1, .int 0), (2, .int 0), (3, .int ((σ.1 k0 1) - 1))]) [3, 2, 1, 0] rfl ?_
  refine xt_Pole_looseLetters_11 hC k0 hk0 σ rb_FU 0 0 ((σ.1 k0 1) - 1) _ q13 ?_
  refine rb_iload_n hC 0 dX7_looseLetters_64 rfl ?_
  cases h
  exact rb_iret hC dX7_looseLetters_65
theorem xc_Pole_looseLetters (k0 : Nat) (hk0 : rb_isPole k0) (σ : rb_St) (r : Int32) (h : xf_Pole_looseLetters k0 σ = some r) : rb_Con rb_vX yX7_looseLetters cX7_looseLetters 5 (some .int) 2 (fun w => [.ref (rb_ad w k0)]) σ (fun _ => (some (.int r))) σ := rb_Con.of (by decide +kernel) (fun _ => Nat.le_of_ble_eq_true rfl) (fun z w hC => xk_Pole_looseLetters hC k0 hk0 σ r h)
