/-! DEPTH, TWIST, THE ORDER OF ALL, WHO IS AT HOME, WHERE ONE STANDS -/
def sp_de (cr : Nat → Nat → Nat) (m : Nat) : Nat := rb_fo (fun i a => max a (cr i 4)) 0 m
def sp_tw (cr : Nat → Nat → Nat) (m : Nat) : Int32 := rb_fo (fun i a => if cr i 0 % 2 = 0 then a + 1 else a + (-1)) 0 m
def sp_or (wh : Nat → Nat) (n : Nat) : Int32 := rb_fo (fun i a => 10 * a + nI (wh i)) 0 n
def sp_ho (wh : Nat → Nat) (n : Nat) : Nat := rb_fo (fun i a => if wh i = i then a + 1 else a) 0 n
section RBQ
variable {n m k : Nat} {cr : Nat → Nat → Nat} {wh ln : Nat → Nat} {σ : rb_St}
theorem sp_de_lt (W : rb_wfc n m cr) : ∀ j, j ≤ m → sp_de cr j < 64 := by
  intro j
  induction j with
  | zero => intro _; exact (by decide : (0 : Nat) < 64)
  | succ j ih =>
    intro hj
    have h1 := ih (by omega)
    have h2 := (W.2.2 j (by omega)).2.2.2.2
    show max (sp_de cr j) (cr j 4) < 64
    omega
theorem sx_depth (W : rb_wfc n m cr) (h : rx_cr k m cr σ) : xf_Pole_depth k σ = some (nI (sp_de cr m)) := by
  have hm := W.2.1
  have h1 : xl_Pole_depth_4 k σ rb_FU 0 0 = some (nI (sp_de cr m)) := by
    refine rb_up0 (xl_Pole_depth_4 k σ) (fun i => nI (sp_de cr i)) m (some (nI (sp_de cr m))) (by omega) (fun q i hi => ?_) (fun q => ?_)
    · show (if σ.1 k 1 ≤ nI i then _ else if rb_ib (nI i) 48 then rb_lt (rb_mx (nI (sp_de cr i)) (xf_Pole_layerIn (σ.1 (k + 3) (nI i).toNatClampNeg) σ)) (fun v3 => xl_Pole_depth_4 k σ q v3 (nI i + 1)) else none) = xl_Pole_depth_4 k σ q (nI (max (sp_de cr i) (cr i 4))) (nI (i + 1))
      obtain ⟨f0, f1, f2, f3, f4, f5, f6⟩ := rx_f W h hi
      have a1 := sp_de_lt W i (by omega)
      have a2 := (W.2.2 i hi).2.2.2.2
      rw [h.1, if_neg (nI_ge hi (by omega)), f0, if_pos rfl, f5, rb_mx_nI (by omega) (by omega), rb_lt_eq, nI_1]
    · show (if σ.1 k 1 ≤ nI m then _ else _) = _
      rw [h.1, if_pos (nI_le (Nat.le_refl m) (by omega))]
  unfold xf_Pole_depth
  rw [h1, rb_b1_some]
theorem sm_depth (W : rb_wfc n m cr) (h : rm_cr m cr (σ.1 17)) : xf_M_depth σ = some (nI (sp_de cr m)) := by
  have hm := W.2.1
  have h1 : xl_M_depth_4 σ rb_FU 0 0 = some (nI (sp_de cr m)) := by
    refine rb_up0 (xl_M_depth_4 σ) (fun i => nI (sp_de cr i)) m (some (nI (sp_de cr m))) (by omega) (fun q i hi => ?_) (fun q => ?_)
    · show (if σ.1 17 14 ≤ nI i then _ else rb_b1 (xf_M_of (nI i) 4 σ) fun r2 => xl_M_depth_4 σ q (rb_mx (nI (sp_de cr i)) r2) (nI i + 1)) = xl_M_depth_4 σ q (nI (max (sp_de cr i) (cr i 4))) (nI (i + 1))
      have a1 := sp_de_lt W i (by omega)
      have a2 := (W.2.2 i hi).2.2.2.2
      rw [h.2.1, if_neg (nI_ge hi (by omega)), rm_of (x := 4) h hi 4 (by decide) rfl, rb_b1_some, rb_mx_nI (by omega) (by omega), nI_1]
    · show (if σ.1 17 14 ≤ nI m then _ else _) = _
      rw [h.2.1, if_pos (nI_le (Nat.le_refl m) (by omega))]
  unfold xf_M_depth
  rw [h1, rb_b1_some]
theorem sx_twist (W : rb_wfc n m cr) (h : rx_cr k m cr σ) : xf_Pole_twist k σ = some (sp_tw cr m) := by
  have hm := W.2.1
  have h1 : xl_Pole_twist_4 k σ rb_FU 0 0 = some (sp_tw cr m) := by
    refine rb_up0 (xl_Pole_twist_4 k σ) (fun i => sp_tw cr i) m (some (sp_tw cr m)) (by omega) (fun q i hi => ?_) (fun q => ?_)
    · show (if σ.1 k 1 ≤ nI i then _ else if rb_ib (nI i) 48 then if ((xf_Pole_letterIn (σ.1 (k + 3) (nI i).toNatClampNeg) σ) &&& 1) = 0 then xl_Pole_twist_4 k σ q (sp_tw cr i + 1) (nI i + 1) else xl_Pole_twist_4 k σ q (sp_tw cr i + (-1)) (nI i + 1) else none) = xl_Pole_twist_4 k σ q (if cr i 0 % 2 = 0 then sp_tw cr i + 1 else sp_tw cr i + (-1)) (nI (i + 1))
      obtain ⟨f0, f1, f2, f3, f4, f5, f6⟩ := rx_f W h hi
      rw [h.1, if_neg (nI_ge hi (by omega)), f0, if_pos rfl, f1, show nI (cr i 0) &&& (1 : Int32) = nI (cr i 0 % 2) from rb_mask (cr i 0) 1, nI_1]
      by_cases hc : cr i 0 % 2 = 0
      · rw [if_pos (by rw [hc]; rfl), if_pos hc]
      · rw [if_neg (nI_ne0 (by omega) (by omega)), if_neg hc]
    · show (if σ.1 k 1 ≤ nI m then _ else _) = _
      rw [h.1, if_pos (nI_le (Nat.le_refl m) (by omega))]
  unfold xf_Pole_twist
  rw [h1, rb_b1_some]
theorem sm_twist (W : rb_wfc n m cr) (h : rm_cr m cr (σ.1 17)) : xf_M_twist σ = some (sp_tw cr m) := by
  have hm := W.2.1
  have w1 := W.1
  have h1 : xl_M_twist_4 σ rb_FU 0 0 = some (sp_tw cr m) := by
    refine rb_up0 (xl_M_twist_4 σ) (fun i => sp_tw cr i) m (some (sp_tw cr m)) (by omega) (fun q i hi => ?_) (fun q => ?_)
    · show (if σ.1 17 14 ≤ nI i then _ else rb_b1 (xf_M_of (nI i) 0 σ) fun r2 => if (r2 - r2 / 2 * 2) = 0 then xl_M_twist_4 σ q (sp_tw cr i + 1) (nI i + 1) else xl_M_twist_4 σ q (sp_tw cr i + (-1)) (nI i + 1)) = xl_M_twist_4 σ q (if cr i 0 % 2 = 0 then sp_tw cr i + 1 else sp_tw cr i + (-1)) (nI (i + 1))
      have a0 := (W.2.2 i hi).1
      rw [h.2.1, if_neg (nI_ge hi (by omega)), rm_of (x := 0) h hi 0 (by decide) rfl, rb_b1_some, show nI (cr i 0) - nI (cr i 0) / (2 : Int32) * 2 = nI (cr i 0 % 2) from pk_rem (d := 2) (by omega) (by decide) (by decide), nI_1]
      by_cases hc : cr i 0 % 2 = 0
      · rw [if_pos (by rw [hc]; rfl), if_pos hc]
      · rw [if_neg (nI_ne0 (by omega) (by omega)), if_neg hc]
    · show (if σ.1 17 14 ≤ nI m then _ else _) = _
      rw [h.2.1, if_pos (nI_le (Nat.le_refl m) (by omega))]
  unfold xf_M_twist
  rw [h1, rb_b1_some]
theorem sx_orderOfAll (V : rb_wfw n wh ln) (h : rx_wh k n wh ln σ) : xf_Pole_orderOfAll k σ = some (sp_or wh n) := by
  have hn := V.1
  have h1 : xl_Pole_orderOfAll_4 k σ rb_FU 0 0 = some (sp_or wh n) := by
    refine rb_up0 (xl_Pole_orderOfAll_4 k σ) (fun i => sp_or wh i) n (some (sp_or wh n)) (by omega) (fun q i hi => ?_) (fun q => ?_)
    · show (if σ.1 k 0 ≤ nI i then _ else if rb_ib (nI i) 8 then rb_lt ((10 * sp_or wh i) + (σ.1 (k + 1) (nI i).toNatClampNeg)) (fun v3 => xl_Pole_orderOfAll_4 k σ q v3 (nI i + 1)) else none) = xl_Pole_orderOfAll_4 k σ q (10 * sp_or wh i + nI (wh i)) (nI (i + 1))
      rw [h.1, if_neg (nI_ge hi (by omega)), rb_ib_nI (by omega) (by decide), if_pos rfl, nI_clamp (by omega), h.2.1 i hi, rb_lt_eq, nI_1]
    · show (if σ.1 k 0 ≤ nI n then _ else _) = _
      rw [h.1, if_pos (nI_le (Nat.le_refl n) (by omega))]
  unfold xf_Pole_orderOfAll
  rw [h1, rb_b1_some]
theorem sm_orderRow (V : rb_wfw n wh ln) (h : rm_wh n wh ln σ) : xf_M_orderRow σ = some (sp_or wh n) := by
  have hn := V.1
  have h1 : xl_M_orderRow_4 σ rb_FU 0 0 = some (sp_or wh n) := by
    refine rb_up0 (xl_M_orderRow_4 σ) (fun i => sp_or wh i) n (some (sp_or wh n)) (by omega) (fun q i hi => ?_) (fun q => ?_)
    · show (if σ.1 0 22 ≤ nI i then _ else if rb_ib (0 + nI i) 398 then rb_lt ((10 * sp_or wh i) + (σ.1 17 (0 + nI i).toNatClampNeg)) (fun v3 => xl_M_orderRow_4 σ q v3 (nI i + 1)) else none) = xl_M_orderRow_4 σ q (10 * sp_or wh i + nI (wh i)) (nI (i + 1))
      rw [h.1, if_neg (nI_ge hi (by omega)), Int32.zero_add, rb_ib_nI (by omega) (by decide), if_pos rfl, nI_clamp (by omega), h.2.1 i hi, rb_lt_eq, nI_1]
    · show (if σ.1 0 22 ≤ nI n then _ else _) = _
      rw [h.1, if_pos (nI_le (Nat.le_refl n) (by omega))]
  unfold xf_M_orderRow
  rw [h1, rb_b1_some]
theorem sx_atHome (V : rb_wfw n wh ln) (h : rx_wh k n wh ln σ) : xf_Pole_atHome k σ = some (nI (sp_ho wh n)) := by
  have hn := V.1
  have h1 : xl_Pole_atHome_4 k σ rb_FU 0 0 = some (nI (sp_ho wh n)) := by
    refine rb_up0 (xl_Pole_atHome_4 k σ) (fun i => nI (sp_ho wh i)) n (some (nI (sp_ho wh n))) (by omega) (fun q i hi => ?_) (fun q => ?_)
    · show (if σ.1 k 0 ≤ nI i then _ else if rb_ib (nI i) 8 then if (σ.1 (k + 1) (nI i).toNatClampNeg) = nI i then xl_Pole_atHome_4 k σ q (nI (sp_ho wh i) + 1) (nI i + 1) else xl_Pole_atHome_4 k σ q (nI (sp_ho wh i)) (nI i + 1) else none) = xl_Pole_atHome_4 k σ q (nI (if wh i = i then sp_ho wh i + 1 else sp_ho wh i)) (nI (i + 1))
      have a0 := V.2.1 i hi
      rw [h.1, if_neg (nI_ge hi (by omega)), rb_ib_nI (by omega) (by decide), if_pos rfl, nI_clamp (by omega), h.2.1 i hi, nI_1, nI_1]
      by_cases hc : wh i = i
      · rw [if_pos (by rw [hc]), if_pos hc]
      · rw [if_neg (fun e => hc ((nI_eq (by omega) (by omega)).mp e)), if_neg hc]
    · show (if σ.1 k 0 ≤ nI n then _ else _) = _
      rw [h.1, if_pos (nI_le (Nat.le_refl n) (by omega))]
  unfold xf_Pole_atHome
  rw [h1, rb_b1_some]
theorem sm_homeMany (V : rb_wfw n wh ln) (h : rm_wh n wh ln σ) : xf_M_homeMany σ = some (nI (sp_ho wh n)) := by
  have hn := V.1
  have h1 : xl_M_homeMany_4 σ rb_FU 0 0 = some (nI (sp_ho wh n)) := by
    refine rb_up0 (xl_M_homeMany_4 σ) (fun i => nI (sp_ho wh i)) n (some (nI (sp_ho wh n))) (by omega) (fun q i hi => ?_) (fun q => ?_)
    · show (if σ.1 0 22 ≤ nI i then _ else if rb_ib (0 + nI i) 398 then if (σ.1 17 (0 + nI i).toNatClampNeg) = nI i then xl_M_homeMany_4 σ q (nI (sp_ho wh i) + 1) (nI i + 1) else xl_M_homeMany_4 σ q (nI (sp_ho wh i) + 0) (nI i + 1) else none) = xl_M_homeMany_4 σ q (nI (if wh i = i then sp_ho wh i + 1 else sp_ho wh i)) (nI (i + 1))
      have a0 := V.2.1 i hi
      rw [h.1, if_neg (nI_ge hi (by omega)), Int32.zero_add, rb_ib_nI (by omega) (by decide), if_pos rfl, nI_clamp (by omega), h.2.1 i hi, nI_1, nI_1, Int32.add_zero]
      by_cases hc : wh i = i
      · rw [if_pos (by rw [hc]), if_pos hc]
      · rw [if_neg (fun e => hc ((nI_eq (by omega) (by omega)).mp e)), if_neg hc]
    · show (if σ.1 0 22 ≤ nI n then _ else _) = _
      rw [h.1, if_pos (nI_le (Nat.le_refl n) (by omega))]
  unfold xf_M_homeMany
  rw [h1, rb_b1_some]
theorem sx_placeOf (V : rb_wfw n wh ln) (h : rx_wh k n wh ln σ) {j : Nat} (hj : j < n) : xf_Pole_placeOf k (nI (wh j)) σ = some (nI j) := by
  have hn := V.1
  have key : ∀ (f i : Nat), i ≤ j → j - i < f → xl_Pole_placeOf_2 k (nI (wh j)) σ f (nI i) = some (0, nI j) := by
    intro f
    induction f with
    | zero => intro i _ h2; omega
    | succ f ih =>
      intro i h1 h2
      have a1 := V.2.1 i (by omega)
      have a2 := V.2.1 j hj
      show (if σ.1 k 0 ≤ nI i then _ else if rb_ib (nI i) 8 then if (σ.1 (k + 1) (nI i).toNatClampNeg) = nI (wh j) then some (0, nI i) else xl_Pole_placeOf_2 k (nI (wh j)) σ f (nI i + 1) else none) = _
      rw [h.1, if_neg (nI_ge (by omega) (by omega)), rb_ib_nI (by omega) (by decide), if_pos rfl, nI_clamp (by omega), h.2.1 i (by omega), nI_1]
      by_cases hc : i = j
      · subst hc; rw [if_pos rfl]
      · rw [if_neg (fun e => hc (V.2.2.2 i j (by omega) hj ((nI_eq (by omega) (by omega)).mp e)))]
        exact ih (i + 1) (by omega) (by omega)
  unfold xf_Pole_placeOf
  rw [show xl_Pole_placeOf_2 k (nI (wh j)) σ rb_FU 0 = some (0, nI j) from key rb_FU 0 (by omega) (by unfold rb_FU; omega), rb_b2_some, if_pos rfl]
theorem sm_placeOf (V : rb_wfw n wh ln) (h : rm_wh n wh ln σ) {j : Nat} (hj : j < n) : xf_M_placeOf (nI (wh j)) σ = some (nI j) := by
  have hn := V.1
  have key : ∀ (f i : Nat), i ≤ j → j - i < f → xl_M_placeOf_2 (nI (wh j)) σ f (nI i) = some (0, nI j) := by
    intro f
    induction f with
    | zero => intro i _ h2; omega
    | succ f ih =>
      intro i h1 h2
      have a1 := V.2.1 i (by omega)
      have a2 := V.2.1 j hj
      show (if σ.1 0 22 ≤ nI i then _ else if rb_ib (0 + nI i) 398 then if (σ.1 17 (0 + nI i).toNatClampNeg) = nI (wh j) then some (0, nI i) else xl_M_placeOf_2 (nI (wh j)) σ f (nI i + 1) else none) = _
      rw [h.1, if_neg (nI_ge (by omega) (by omega)), Int32.zero_add, rb_ib_nI (by omega) (by decide), if_pos rfl, nI_clamp (by omega), h.2.1 i (by omega), nI_1]
      by_cases hc : i = j
      · subst hc; rw [if_pos rfl]
      · rw [if_neg (fun e => hc (V.2.2.2 i j (by omega) hj ((nI_eq (by omega) (by omega)).mp e)))]
        exact ih (i + 1) (by omega) (by omega)
  unfold xf_M_placeOf
  rw [show xl_M_placeOf_2 (nI (wh j)) σ rb_FU 0 = some (0, nI j) from key rb_FU 0 (by omega) (by unfold rb_FU; omega), rb_b2_some, if_pos rfl]
end RBQ
