/-! WHO STANDS WHERE, lengths; layers; over and under; what is left -/
def rx_wh (k n : Nat) (wh ln : Nat → Nat) (σ : rb_St) : Prop := σ.1 k 0 = nI n ∧ (∀ p, p < n → σ.1 (k + 1) p = nI (wh p)) ∧ ∀ d, d < n → σ.1 (k + 2) d = nI (ln d)
def rm_wh (n : Nat) (wh ln : Nat → Nat) (σ : rb_St) : Prop := σ.1 0 22 = nI n ∧ (∀ p, p < n → σ.1 17 p = nI (wh p)) ∧ ∀ d, d < n → σ.1 17 (7 + d) = nI (ln d)
def rb_wfw (n : Nat) (wh ln : Nat → Nat) : Prop := n < 8 ∧ (∀ p, p < n → wh p < n) ∧ (∀ d, d < n → ln d < 100) ∧ ∀ p q, p < n → q < n → wh p = wh q → p = q
def sp_ov (n : Nat) (wh : Nat → Nat) (l : Nat) : Nat := wh (if l % 2 = 0 then l / 2 else sp_nx n (l / 2))
theorem sp_x1 : ∀ n, n < 8 → ∀ l, l < 2 * n → l ^^^ 1 < 2 * n := by decide +kernel
section RBQ
variable {n m k : Nat} {cr : Nat → Nat → Nat} {wh ln : Nat → Nat} {σ : rb_St}
theorem sx_overBy (V : rb_wfw n wh ln) (h : rx_wh k n wh ln σ) {l : Nat} (hl : l < 2 * n) : xf_Pole_overBy k (nI l) σ = some (nI (sp_ov n wh l)) := by
  have hn := V.1
  have l1 := sp_nx_lt n hn (l / 2) (by omega)
  have e1 : nI l &&& (1 : Int32) = nI (l % 2) := rb_mask l 1
  have e2 : (nI l >>> ((1 : Int32) &&& 31)) &&& 7 = nI (l / 2) := by
    rw [show nI l >>> ((1 : Int32) &&& 31) = nI (l / 2) from rb_shr (s := 1) (by omega) (by decide)]
    refine (rb_mask (l / 2) 3).trans ?_
    congr 1
    omega
  unfold xf_Pole_overBy sp_ov
  rw [e1, e2, sx_nextPlace hn h.1 (by omega), rb_ib_nI (by omega) (by decide), rb_ib_nI (by omega) (by decide), if_pos rfl, if_pos rfl, nI_clamp (by omega), nI_clamp (by omega), h.2.1 _ (by omega), h.2.1 _ l1]
  by_cases hc : l % 2 = 0
  · rw [if_pos (by rw [hc]; rfl), if_pos hc]
  · rw [if_neg (nI_ne0 (by omega) (by omega)), if_neg hc]
theorem sx_underBy (V : rb_wfw n wh ln) (h : rx_wh k n wh ln σ) {l : Nat} (hl : l < 2 * n) : xf_Pole_underBy k (nI l) σ = some (nI (sp_ov n wh (l ^^^ 1))) := by
  unfold xf_Pole_underBy
  rw [show nI l ^^^ (1 : Int32) = nI (l ^^^ 1) from rb_xr l 1, sx_overBy V h (sp_x1 n V.1 l hl), rb_b1_some]
theorem sm_overBy (V : rb_wfw n wh ln) (h : rm_wh n wh ln σ) {l : Nat} (hl : l < 2 * n) : xf_M_overBy (nI l) σ = some (nI (sp_ov n wh l)) := by
  have hn := V.1
  have l1 := sp_nx_lt n hn (l / 2) (by omega)
  have e1 : nI l - nI l / (2 : Int32) * 2 = nI (l % 2) := pk_rem (d := 2) (by omega) (by decide) (by decide)
  have e2 : nI l / (2 : Int32) = nI (l / 2) := pk_div (d := 2) (by omega) (by decide) (by decide)
  unfold xf_M_overBy sp_ov
  rw [e1, e2, sm_nextPlace hn h.1 (by omega), rb_b1_some, Int32.zero_add, Int32.zero_add, rb_ib_nI (by omega) (by decide), rb_ib_nI (by omega) (by decide), if_pos rfl, if_pos rfl, nI_clamp (by omega), nI_clamp (by omega), h.2.1 _ (by omega), h.2.1 _ l1]
  by_cases hc : l % 2 = 0
  · rw [if_pos (by rw [hc]; rfl), if_pos hc]
  · rw [if_neg (nI_ne0 (by omega) (by omega)), if_neg hc]
theorem sm_underBy (V : rb_wfw n wh ln) (h : rm_wh n wh ln σ) {l : Nat} (hl : l < 2 * n) : xf_M_underBy (nI l) σ = some (nI (sp_ov n wh (l ^^^ 1))) := by
  unfold xf_M_underBy
  rw [show nI l ^^^ (1 : Int32) = nI (l ^^^ 1) from rb_xr l 1, sm_overBy V h (sp_x1 n V.1 l hl), rb_b1_some]
theorem sx_leftOf (V : rb_wfw n wh ln) (W : rb_wfc n m cr) (h : rx_wh k n wh ln σ) (hc : rx_cr k m cr σ) {d : Nat} (hd : d < n) : xf_Pole_leftOf k (nI d) σ = some (nI (ln d) - nI (sp_ta cr d m)) := by
  have hn := V.1
  have e : nI d &&& (7 : Int32) = nI d := by
    refine (rb_mask d 3).trans ?_
    congr 1
    omega
  unfold xf_Pole_leftOf
  rw [e, rb_ib_nI (by omega) (by decide), if_pos rfl, sx_takenOf W hc (by omega), rb_b1_some, nI_clamp (by omega), h.2.2 d hd]
theorem sm_leftOf (V : rb_wfw n wh ln) (W : rb_wfc n m cr) (h : rm_wh n wh ln σ) (hc : rm_cr m cr (σ.1 17)) {d : Nat} (hd : d < n) : xf_M_leftOf (nI d) σ = some (nI (ln d) - nI (sp_ta cr d m)) := by
  have hn := V.1
  have e : (7 : Int32) + nI d = nI (7 + d) := nI_add 7 d
  unfold xf_M_leftOf
  rw [e, rb_ib_nI (by omega) (by decide), if_pos rfl, sm_takenOf W hc (by omega), rb_b1_some, nI_clamp (by omega), h.2.2 d hd]
theorem sx_layerAt (W : rb_wfc n m cr) (h : rx_cr k m cr σ) (hpl : σ.1 k 0 = nI n) {p : Nat} (hp : p < n) : xf_Pole_layerAt k (nI p) σ = some (nI (sp_ly n cr p m + 1)) := by
  have w1 := W.1
  have hm := W.2.1
  have h1 : xl_Pole_layerAt_11 k (nI (sp_nr n p)) σ rb_FU 0 0 = some (nI (sp_ly n cr p m)) := by
    refine rb_up0 (xl_Pole_layerAt_11 k (nI (sp_nr n p)) σ) (fun i => nI (sp_ly n cr p i)) m (some (nI (sp_ly n cr p m))) (by omega) (fun q i hi => ?_) (fun q => ?_)
    · show (if σ.1 k 1 ≤ nI i then _ else if rb_ib (nI i) 48 then if ((nI (sp_nr n p) >>> ((xf_Pole_placeIn (σ.1 (k + 3) (nI i).toNatClampNeg) σ) &&& 31)) &&& 1) = 0 then xl_Pole_layerAt_11 k (nI (sp_nr n p)) σ q (nI (sp_ly n cr p i)) (nI i + 1) else rb_lt (rb_mx (nI (sp_ly n cr p i)) (xf_Pole_layerIn (σ.1 (k + 3) (nI i).toNatClampNeg) σ)) (fun v4 => xl_Pole_layerAt_11 k (nI (sp_nr n p)) σ q v4 (nI i + 1)) else none) = xl_Pole_layerAt_11 k (nI (sp_nr n p)) σ q (nI (if sp_tb n (cr i 0 / 2) p = true then max (sp_ly n cr p i) (cr i 4) else sp_ly n cr p i)) (nI (i + 1))
      obtain ⟨f0, f1, f2, f3, f4, f5, f6⟩ := rx_f W h hi
      have a1 := sp_ly_lt W p i (by omega)
      have a2 := (W.2.2 i hi).2.2.2.2
      rw [h.1, if_neg (nI_ge hi (by omega)), f0, if_pos rfl, f6, f5, rb_mx_nI (by omega) (by omega), rb_lt_eq, nI_1]
      by_cases hc : sp_tb n (cr i 0 / 2) p = true
      · rw [if_neg (fun e => (rb_nearbit W hp hi).mp e hc), if_pos hc]
      · rw [if_pos ((rb_nearbit W hp hi).mpr hc), if_neg hc]
    · show (if σ.1 k 1 ≤ nI m then _ else _) = _
      rw [h.1, if_pos (nI_le (Nat.le_refl m) (by omega))]
  unfold xf_Pole_layerAt
  rw [sx_nearOf (by omega) hpl hp, h1, rb_b1_some, nI_1]
theorem sm_layerAt (W : rb_wfc n m cr) (h : rm_cr m cr (σ.1 17)) (hpl : σ.1 0 22 = nI n) {p : Nat} (hp : p < n) : xf_M_layerAt (nI p) σ = some (nI (sp_ly n cr p m + 1)) := by
  have w1 := W.1
  have hm := W.2.1
  have h1 : xl_M_layerAt_4 (nI p) σ rb_FU 0 0 = some (nI (sp_ly n cr p m)) := by
    refine rb_up0 (xl_M_layerAt_4 (nI p) σ) (fun i => nI (sp_ly n cr p i)) m (some (nI (sp_ly n cr p m))) (by omega) (fun q i hi => ?_) (fun q => ?_)
    · show (if σ.1 17 14 ≤ nI i then _ else rb_b1 (xf_M_of (nI i) 0 σ) fun r2 => rb_b1 (xf_M_touch (r2 / 2) (nI p) σ) fun r4 => if r4 = 0 then xl_M_layerAt_4 (nI p) σ q (nI (sp_ly n cr p i)) (nI i + 1) else rb_b1 (xf_M_of (nI i) 4 σ) fun r7 => xl_M_layerAt_4 (nI p) σ q (rb_mx (nI (sp_ly n cr p i)) r7) (nI i + 1)) = xl_M_layerAt_4 (nI p) σ q (nI (if sp_tb n (cr i 0 / 2) p = true then max (sp_ly n cr p i) (cr i 4) else sp_ly n cr p i)) (nI (i + 1))
      have a0 := (W.2.2 i hi).1
      have a1 := sp_ly_lt W p i (by omega)
      have a2 := (W.2.2 i hi).2.2.2.2
      have e2 : nI (cr i 0) / (2 : Int32) = nI (cr i 0 / 2) := pk_div (d := 2) (by omega) (by decide) (by decide)
      rw [h.2.1, if_neg (nI_ge hi (by omega)), rm_of (x := 0) h hi 0 (by decide) rfl, rm_of (x := 4) h hi 4 (by decide) rfl, rb_b1_some, rb_b1_some, e2, sm_touch (by omega) hpl (by omega) hp, rb_b1_some, rb_mx_nI (by omega) (by omega), nI_1]
      by_cases hc : sp_tb n (cr i 0 / 2) p = true
      · rw [if_pos hc, if_neg (by decide), if_pos hc]
      · rw [if_neg hc, if_pos rfl, if_neg hc]
    · show (if σ.1 17 14 ≤ nI m then _ else _) = _
      rw [h.2.1, if_pos (nI_le (Nat.le_refl m) (by omega))]
  unfold xf_M_layerAt
  rw [h1, rb_b1_some, nI_1]
end RBQ
