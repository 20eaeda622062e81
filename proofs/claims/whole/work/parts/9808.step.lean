/-! A CROSSING by hand, in both: what hinders it, what it does -/
section RBF
variable {n lc ho m k be l t : Nat} {ru tr wh ln : Nat → Nat} {La : Nat → List sp_Cl} {cr : Nat → Nat → Nat} {σ σ' τ τ' : rb_St} {ch : Nat → Nat → Prop}
theorem rx_wh_fr (h : rb_fr ch σ σ') (hh : ∀ c i, ch c i → ¬ ((c = k ∧ i = 0) ∨ c = k + 1 ∨ c = k + 2)) (q : rx_wh k n wh ln σ) : rx_wh k n wh ln σ' := ⟨(h.1 k 0 (fun w => hh _ _ w (Or.inl ⟨rfl, rfl⟩))).trans q.1, fun p hp => (h.1 (k + 1) p (fun w => hh _ _ w (Or.inr (Or.inl rfl)))).trans (q.2.1 p hp), fun p hp => (h.1 (k + 2) p (fun w => hh _ _ w (Or.inr (Or.inr rfl)))).trans (q.2.2 p hp)⟩
theorem rx_cr_fr (h : rb_fr ch σ σ') (hh : ∀ c i, ch c i → ¬ ((c = k ∧ i = 1) ∨ c = k + 3)) (q : rx_cr k m cr σ) : rx_cr k m cr σ' := ⟨(h.1 k 1 (fun w => hh _ _ w (Or.inl ⟨rfl, rfl⟩))).trans q.1, fun p hp => (h.1 (k + 3) p (fun w => hh _ _ w (Or.inr rfl))).trans (q.2 p hp)⟩
theorem gx_fr (h : rb_fr ch σ σ') (hh : ∀ c i, ch c i → ¬ (15 ≤ c ∧ c ≤ 17)) (q : gx n ru tr σ) : gx n ru tr σ' := ⟨(h.1 15 2 (fun w => hh _ _ w (by omega))).trans q.1, fun i hi => (h.1 16 i (fun w => hh _ _ w (by omega))).trans (q.2.1 i hi), fun i hi => (h.1 17 i (fun w => hh _ _ w (by omega))).trans (q.2.2 i hi)⟩
theorem gm_fr (h : rb_fr ch τ τ') (hh : ∀ c i, ch c i → ¬ ((c = 0 ∧ i = 22) ∨ c = 13 ∨ c = 14)) (q : gm n ru tr τ) : gm n ru tr τ' := ⟨(h.1 0 22 (fun w => hh _ _ w (by omega))).trans q.1, fun i hi => (h.1 13 i (fun w => hh _ _ w (by omega))).trans (q.2.1 i hi), fun i hi => (h.1 14 i (fun w => hh _ _ w (by omega))).trans (q.2.2 i hi)⟩
theorem lwx_fr (W : lww lc ho La) (h : rb_fr ch σ σ') (hh : ∀ c i, ch c i → ¬ ((c = 0 ∧ (i = 9 ∨ i = 10)) ∨ (240 ≤ c ∧ c < 256 ∧ ((c % 4 = 0 ∧ i = 1) ∨ c % 4 = 1)))) (q : lwx lc ho La σ) : lwx lc ho La σ' := ⟨(h.1 0 9 (fun w => hh _ _ w (by omega))).trans q.1, (h.1 0 10 (fun w => hh _ _ w (by omega))).trans q.2.1, fun j hj => ⟨(h.1 _ 1 (fun w => hh _ _ w (by have := W.1; omega))).trans (q.2.2 j hj).1, rb_rw_co (fun i _ _ => h.1 _ _ (fun w => hh _ _ w (by have := W.1; omega))) (q.2.2 j hj).2⟩⟩
theorem lwm_fr (h : rb_fr ch τ τ') (hh : ∀ c i, ch c i → ¬ ((c = 0 ∧ (i = 13 ∨ i = 29)) ∨ (2 ≤ c ∧ c ≤ 8))) (q : lwm lc ho La τ) : lwm lc ho La τ' := ⟨(h.1 0 13 (fun w => hh _ _ w (by omega))).trans q.1, (h.1 0 29 (fun w => hh _ _ w (by omega))).trans q.2.1, fun j hj => ⟨(h.1 5 j (fun w => hh _ _ w (by omega))).trans (q.2.2 j hj).1, rb_lm_co (fun c i _ _ _ => h.1 _ _ (fun w => hh _ _ w (by omega))) (fun c i _ _ _ => h.1 _ _ (fun w => hh _ _ w (by omega))) (q.2.2 j hj).2⟩⟩
/-- the class's hindranceOf -/
theorem sx_hindranceOf (G : gw n ru tr) (W : lww lc ho La) (P : pw n wh ln m cr) (g : gx n ru tr σ) (w : lwx lc ho La σ) (hw : rx_wh 18 n wh ln σ) (hc : rx_cr 18 m cr σ) (hb : σ.1 18 3 = nI be) (hbe : be < 2 ^ 30) (hl : l < 2 * n) : ∃ σ', xf_RP_hindranceOf (nI l) σ = some (nI (sp_hd n wh ln m cr l (sp_pr n ru tr ho La wh m cr be l)), σ') ∧ rb_fr sc_law σ σ' := by
  have hm := P.2.2.1.2.1
  have hle := sp_un_le (n := n) (cr := cr) (l := l) (m := m)
  unfold xf_RP_hindranceOf sp_hd
  rw [sx_undoneBy P.2.2.1 hc hw.1 hl, rb_b1_some]
  simp only [sx_lt0 (show sp_un n cr l m < 2 ^ 31 by omega)]
  by_cases h : sp_un n cr l m = 0
  · rw [if_pos h, if_pos h]
    obtain ⟨σ1, a1, a2⟩ := sx_price G W P.1 P.2.2.1 g w hw hc hb hbe hl
    refine ⟨σ1, ?_, a2⟩
    rw [a1, rb_b2_some, sx_hindrance P (rx_wh_fr a2 (fun c i q => by unfold sc_law at q; omega) hw) (rx_cr_fr a2 (fun c i q => by unfold sc_law at q; omega) hc) hl, rb_b1_some]
  · rw [if_neg h, if_neg h]
    exact ⟨σ, rfl, rb_fr.rf⟩
def sc_mv (k : Nat) (c i : Nat) : Prop := sc_law c i ∨ sc_po k c i
/-- the class's moveOn -/
theorem sx_moveOn (hk : k = 18 ∨ 268 ≤ k) (G : gw n ru tr) (W : lww lc ho La) (P : pw n wh ln m cr) (g : gx n ru tr σ) (w : lwx lc ho La σ) (hw : rx_wh k n wh ln σ) (hc : rx_cr k m cr σ) (hb : σ.1 k 3 = nI be) (hbe : be < 2 ^ 30) (hl : l < 2 * n) (ht : t = sp_pr n ru tr ho La wh m cr be l) : ∃ σ', rb_fr (sc_mv k) σ σ' ∧ ((sp_hd n wh ln m cr l t = 0 ∧ xf_RP_moveOn k (nI l) σ = some (if sp_un n cr l m = 0 then 0 else 1, σ') ∧ rx_wh k n (sp_sw n wh (l / 2)) ln σ' ∧ rx_cr k (mvm n m cr l) (mvc n wh m cr l t) σ') ∨ (sp_hd n wh ln m cr l t ≠ 0 ∧ xf_RP_moveOn k (nI l) σ = some (-nI (sp_hd n wh ln m cr l t), σ') ∧ rx_wh k n wh ln σ' ∧ rx_cr k m cr σ')) := by
  have hm := P.2.2.1.2.1
  have hle := sp_un_le (n := n) (cr := cr) (l := l) (m := m)
  have ht9 : t ≤ 9 := by rw [ht]; exact (sp_pr_le G (by omega)).2
  unfold xf_RP_moveOn
  rw [sx_undoneBy P.2.2.1 hc hw.1 hl, rb_b1_some]
  simp only [sx_lt0 (show sp_un n cr l m < 2 ^ 31 by omega)]
  unfold sp_hd
  by_cases h : sp_un n cr l m = 0
  · rw [if_pos h, if_pos h, if_pos h]
    obtain ⟨σ1, a1, a2⟩ := sx_price G W P.1 P.2.2.1 g w hw hc hb hbe hl
    rw [← ht] at a1
    have hw1 := rx_wh_fr (k := k) (n := n) a2 (fun c i q => by unfold sc_law at q; omega) hw
    have hc1 := rx_cr_fr (k := k) a2 (fun c i q => by unfold sc_law at q; omega) hc
    rw [a1, rb_b2_some, sx_hindrance P hw1 hc1 hl, rb_b1_some]
    have h3 := sp_hi_c n wh ln m cr l t
    by_cases h2 : sp_hi n wh ln m cr l t = 0
    · obtain ⟨σ2, b1, b2, b3, b4⟩ := sx_in P hw1 hc1 hl ht9 (by have := sp_hi_0 h2; omega) h
      refine ⟨σ2, (a2.mo (fun c i q => Or.inl q)).tr (b4.mo (fun c i q => Or.inr q)), Or.inl ⟨h2, ?_, b2, b3⟩⟩
      rw [h2, if_pos (show nI 0 = (0 : Int32) from rfl), b1, rb_b1_some]
    · refine ⟨σ1, a2.mo (fun c i q => Or.inl q), Or.inr ⟨h2, ?_, hw1, hc1⟩⟩
      rw [if_neg (nI_ne0 (by omega) (by omega))]
  · rw [if_neg h, if_neg h, if_neg h]
    obtain ⟨σ2, b1, b2, b3, b4⟩ := sx_out P hw hc hl h (t := t)
    refine ⟨σ2, b4.mo (fun c i q => Or.inr q), Or.inl ⟨rfl, ?_, b2, b3⟩⟩
    rw [b1, rb_b1_some]
/-- the reference's isShort, isFull, canCross -/
theorem sm_isShort (G : gw n ru tr) (W : lww lc ho La) (P : pw n wh ln m cr) (g : gm n ru tr τ) (w : lwm lc ho La τ) (hw : rm_wh n wh ln τ) (hc : rm_cr m cr (τ.1 17)) (hb : τ.1 17 216 = nI be) (hbe : be < 2 ^ 30) (hl : l < 2 * n) : ∃ τ', xf_M_isShort (nI l) τ = some (if sp_hd n wh ln m cr l (sp_pr n ru tr ho La wh m cr be l) = 2 then 1 else 0, τ') ∧ rb_fr sc_9 τ τ' := by
  obtain ⟨V, S, C, Y, D⟩ := P
  have h8 := V.1
  have hm := C.2.1
  have l1 := sp_ov_lt V hl
  have l2 := sp_ov_lt V (sp_x1 n (by omega) l hl)
  have hle := sp_un_le (n := n) (cr := cr) (l := l) (m := m)
  obtain ⟨τ1, a1, a2⟩ := sm_price G W V C g w hw hc hb hbe hl
  have r17 : τ1.1 17 = τ.1 17 := funext fun i => a2.1 17 i (by unfold sc_9; omega)
  have hw' : rm_wh n wh ln τ1 := ⟨(a2.1 0 22 (by unfold sc_9; omega)).trans hw.1, fun p hp => by rw [r17]; exact hw.2.1 p hp, fun p hp => by rw [r17]; exact hw.2.2 p hp⟩
  have hc' : rm_cr m cr (τ1.1 17) := by rw [r17]; exact hc
  refine ⟨τ1, ?_, a2⟩
  unfold xf_M_isShort sp_hd sp_hi
  rw [a1, rb_b2_some, sm_undoes C hc' hw'.1 hl, rb_b1_some]
  simp only [sx_eqm1 (show sp_un n cr l m < 2 ^ 31 by omega)]
  by_cases h : sp_un n cr l m = 0
  · rw [if_pos h, if_pos h, sm_overBy V hw' hl, rb_b1_some, sm_leftOf V C hw' hc' l1, rb_b1_some, sm_underBy V hw' hl, rb_b1_some, sm_leftOf V C hw' hc' l2, rb_b1_some]
    split
    · rfl
    · split
      · split <;> rfl
      · rfl
  · rw [if_neg h, if_neg h]
    rfl
theorem sm_isFull (P : pw n wh ln m cr) (hw : rm_wh n wh ln τ) (hc : rm_cr m cr (τ.1 17)) (hl : l < 2 * n) : xf_M_isFull (nI l) τ = some (if sp_un n cr l m = 0 ∧ m = 40 then 1 else 0) := by
  have hm := P.2.2.1.2.1
  have hle := sp_un_le (n := n) (cr := cr) (l := l) (m := m)
  unfold xf_M_isFull
  rw [sm_undoes P.2.2.1 hc hw.1 hl, rb_b1_some]
  simp only [sx_eqm1 (show sp_un n cr l m < 2 ^ 31 by omega)]
  by_cases h : sp_un n cr l m = 0
  · rw [if_pos h, hc.2.1, rb_l40]
    by_cases h2 : m = 40
    · rw [if_pos (by rw [h2]), if_pos ⟨h, h2⟩]
    · rw [if_neg (fun e => h2 ((nI_eq (by omega) (by omega)).mp e)), if_neg (fun e => h2 e.2)]
  · rw [if_neg h, if_neg (fun e => h e.1)]
theorem sp_hd_3 (h : sp_hd n wh ln m cr l t ≠ 2) (hm : m ≤ 40) : sp_hd n wh ln m cr l t = 3 ↔ (sp_un n cr l m = 0 ∧ m = 40) := by
  unfold sp_hd sp_hi at h ⊢
  by_cases h0 : sp_un n cr l m = 0
  · rw [if_pos h0] at h ⊢
    split
    · rename_i q; rw [if_pos q] at h; exact absurd rfl h
    · rename_i q
      rw [if_neg q] at h
      split
      · rename_i q2
        split <;> constructor <;> intro _ <;> omega
      · rename_i q2; rw [if_neg q2] at h; exact absurd rfl h
  · rw [if_neg h0]
    constructor <;> intro _ <;> omega
theorem sp_hd_c : sp_hd n wh ln m cr l t = 0 ∨ sp_hd n wh ln m cr l t = 2 ∨ sp_hd n wh ln m cr l t = 3 := by
  unfold sp_hd
  split
  · exact sp_hi_c n wh ln m cr l t
  · exact Or.inl rfl
theorem rm_wh_fr (h : rb_fr ch τ τ') (hh : ∀ c i, ch c i → ¬ ((c = 0 ∧ i = 22) ∨ (c = 17 ∧ i < 14))) (hn : n < 8) (q : rm_wh n wh ln τ) : rm_wh n wh ln τ' := ⟨(h.1 0 22 (fun w => hh _ _ w (by omega))).trans q.1, fun p hp => (h.1 17 p (fun w => hh _ _ w (by omega))).trans (q.2.1 p hp), fun p hp => (h.1 17 (7 + p) (fun w => hh _ _ w (by omega))).trans (q.2.2 p hp)⟩
theorem rm_cr_fr (h : rb_fr ch τ τ') (hh : ∀ c i, ch c i → ¬ (c = 17 ∧ 14 ≤ i ∧ i < 215)) (q : rm_cr m cr (τ.1 17)) : rm_cr m cr (τ'.1 17) := ⟨q.1, (h.1 17 14 (fun w => hh _ _ w (by omega))).trans q.2.1, fun i hi j hj => (h.1 17 _ (fun w => hh _ _ w (by have := q.1; omega))).trans (q.2.2 i hi j hj)⟩
theorem sm_canCross (G : gw n ru tr) (W : lww lc ho La) (P : pw n wh ln m cr) (g : gm n ru tr τ) (w : lwm lc ho La τ) (hw : rm_wh n wh ln τ) (hc : rm_cr m cr (τ.1 17)) (hb : τ.1 17 216 = nI be) (hbe : be < 2 ^ 30) (hl : l < 2 * n) : ∃ τ', xf_M_canCross (nI l) τ = some (if sp_hd n wh ln m cr l (sp_pr n ru tr ho La wh m cr be l) = 0 then 1 else 0, τ') ∧ rb_fr sc_9 τ τ' := by
  obtain ⟨τ1, a1, a2⟩ := sm_isShort G W P g w hw hc hb hbe hl
  have h8 := P.1.1
  refine ⟨τ1, ?_, a2⟩
  unfold xf_M_canCross
  rw [a1, rb_b2_some]
  by_cases h2 : sp_hd n wh ln m cr l (sp_pr n ru tr ho La wh m cr be l) = 2
  · rw [if_pos h2, if_neg (by decide), h2]; rfl
  · rw [if_neg h2, if_pos rfl, sm_isFull P (rm_wh_fr a2 (fun c i q => by unfold sc_9 at q; omega) h8 hw) (rm_cr_fr a2 (fun c i q => by unfold sc_9 at q; omega) hc) hl, rb_b1_some]
    have h3 := sp_hd_3 (l := l) h2 hc.1
    rcases sp_hd_c (n := n) (wh := wh) (ln := ln) (m := m) (cr := cr) (l := l) (t := sp_pr n ru tr ho La wh m cr be l) with h | h | h
    · have hne : ¬ (sp_un n cr l m = 0 ∧ m = 40) := fun e => by have := h3.mpr e; omega
      rw [if_neg hne, if_pos rfl, if_pos h]
    · exact absurd h h2
    · rw [if_pos (h3.mp h), if_neg (by decide), if_neg (by omega)]
def sc_mc (c i : Nat) : Prop := c = 9 ∨ c = 10 ∨ (c = 17 ∧ i < 215 ∧ ¬ (7 ≤ i ∧ i < 14))
/-- the reference's crossNow -/
theorem sm_crossNow (G : gw n ru tr) (W : lww lc ho La) (P : pw n wh ln m cr) (g : gm n ru tr τ) (w : lwm lc ho La τ) (hw : rm_wh n wh ln τ) (hc : rm_cr m cr (τ.1 17)) (hb : τ.1 17 216 = nI be) (hbe : be < 2 ^ 30) (hl : l < 2 * n) (ht : t = sp_pr n ru tr ho La wh m cr be l) (hm : m < 40 ∨ sp_un n cr l m ≠ 0) : ∃ τ', xf_M_crossNow (nI l) τ = some (if sp_un n cr l m = 0 then 0 else 1, τ') ∧ rm_wh n (sp_sw n wh (l / 2)) ln τ' ∧ rm_cr (mvm n m cr l) (mvc n wh m cr l t) (τ'.1 17) ∧ (∀ j, 215 ≤ j → τ'.1 17 j = τ.1 17 j) ∧ rb_fr (fun c i => c = 9 ∨ c = 10 ∨ c = 17) τ τ' := by
  obtain ⟨V, S, C, Y, D⟩ := P
  have h8 := V.1
  have hm48 := C.2.1
  have hle := sp_un_le (n := n) (cr := cr) (l := l) (m := m)
  have e1 : nI l / (2 : Int32) = nI (l / 2) := pk_div (d := 2) (by omega) (by decide) (by decide)
  unfold xf_M_crossNow
  rw [sm_undoes C hc hw.1 hl, rb_b1_some]
  simp only [sx_eqm1 (show sp_un n cr l m < 2 ^ 31 by omega)]
  by_cases h : sp_un n cr l m = 0
  · simp only [if_pos h]
    have hm40 : m < 40 := by omega
    -- what is seen on the way
    have way : ∀ s : rb_St, rb_fr (fun c i => c = 9 ∨ c = 10 ∨ (c = 17 ∧ 15 + 5 * m ≤ i ∧ i < 215)) τ s → gm n ru tr s ∧ lwm lc ho La s ∧ rm_wh n wh ln s ∧ rm_cr m cr (s.1 17) ∧ s.1 17 216 = nI be := by
      intro s hs
      refine ⟨gm_fr hs (fun c i q => by omega) g, lwm_fr hs (fun c i q => by omega) w, rm_wh_fr hs (fun c i q => by omega) h8 hw, ⟨hc.1, (hs.1 17 14 (by omega)).trans hc.2.1, fun i hi j hj => (hs.1 17 _ (by omega)).trans (hc.2.2 i hi j hj)⟩, (hs.1 17 216 (by omega)).trans hb⟩
    have E : ∀ j : Nat, ((15 : Int32) + 5 * nI m) + nI j = nI (15 + 5 * m + j) := fun j => by rw [rb_5i, nI_add]
    have E0 : ((15 : Int32) + 5 * nI m) + 0 = nI (15 + 5 * m + 0) := E 0
    have E1 : ((15 : Int32) + 5 * nI m) + 1 = nI (15 + 5 * m + 1) := E 1
    have E2 : ((15 : Int32) + 5 * nI m) + 2 = nI (15 + 5 * m + 2) := E 2
    have E3 : ((15 : Int32) + 5 * nI m) + 3 = nI (15 + 5 * m + 3) := E 3
    have E4 : ((15 : Int32) + 5 * nI m) + 4 = nI (15 + 5 * m + 4) := E 4
    rw [hc.2.1, E0, E1, E2, E3, E4, rb_ib_nI (by omega) (by decide), rb_ib_nI (by omega) (by decide), rb_ib_nI (by omega) (by decide), rb_ib_nI (by omega) (by decide), rb_ib_nI (by omega) (by decide)]
    simp only [↓reduceIte, rb_lt_eq, nI_clamp (show 15 + 5 * m + 0 < 2 ^ 31 by omega), nI_clamp (show 15 + 5 * m + 1 < 2 ^ 31 by omega), nI_clamp (show 15 + 5 * m + 2 < 2 ^ 31 by omega), nI_clamp (show 15 + 5 * m + 3 < 2 ^ 31 by omega), nI_clamp (show 15 + 5 * m + 4 < 2 ^ 31 by omega)]
    have f0 : rb_fr (fun c i => c = 9 ∨ c = 10 ∨ (c = 17 ∧ 15 + 5 * m ≤ i ∧ i < 215)) τ (rb_sI τ 17 (15 + 5 * m + 0) (nI l)) := rb_fr.sI (by omega)
    obtain ⟨-, -, w0, -, -⟩ := way _ f0
    rw [sm_overBy V w0 hl, rb_b1_some]
    have f1 := f0.sI' (k := 17) (j := 15 + 5 * m + 1) (x := nI (sp_ov n wh l)) (by omega)
    obtain ⟨-, -, w1, -, -⟩ := way _ f1
    rw [sm_underBy V w1 hl, rb_b1_some]
    have f2 := f1.sI' (k := 17) (j := 15 + 5 * m + 2) (x := nI (sp_ov n wh (l ^^^ 1))) (by omega)
    obtain ⟨g2, l2, w2, c2, b2⟩ := way _ f2
    obtain ⟨τ3, a1, a2⟩ := sm_price G W V C g2 l2 w2 c2 b2 hbe hl
    rw [a1, rb_b2_some, ← ht]
    have f3 := f2.tr (a2.mo (fun c i (q : sc_9 c i) => (show c = 9 ∨ c = 10 ∨ (c = 17 ∧ 15 + 5 * m ≤ i ∧ i < 215) by unfold sc_9 at q; omega)))
    have f4 := f3.sI' (k := 17) (j := 15 + 5 * m + 3) (x := nI t) (by omega)
    obtain ⟨-, -, w4, c4, -⟩ := way _ f4
    rw [e1, sm_layerAt C c4 w4.1 (by omega), rb_b1_some]
    have f5 := f4.sI' (k := 17) (j := 15 + 5 * m + 4) (x := nI (sp_ly n cr (l / 2) m + 1)) (by omega)
    obtain ⟨-, -, w5, c5, -⟩ := way _ f5
    rw [c5.2.1, nI_1]
    obtain ⟨s6, hs6⟩ : ∃ s, s = rb_sI (rb_sI (rb_sI τ3 17 (15 + 5 * m + 3) (nI t)) 17 (15 + 5 * m + 4) (nI (sp_ly n cr (l / 2) m + 1))) 17 14 (nI (m + 1)) := ⟨_, rfl⟩
    rw [← hs6]
    have w6 : rm_wh n wh ln s6 := by
      rw [hs6]
      exact rm_wh_fr (ch := fun c i => c = 17 ∧ i = 14) (rb_fr.sI ⟨rfl, rfl⟩) (fun c i q => by omega) h8 w5
    have t3 : ∀ j, τ3.1 17 j = (rb_sI (rb_sI (rb_sI τ 17 (15 + 5 * m + 0) (nI l)) 17 (15 + 5 * m + 1) (nI (sp_ov n wh l))) 17 (15 + 5 * m + 2) (nI (sp_ov n wh (l ^^^ 1)))).1 17 j := fun j => a2.1 17 j (by unfold sc_9; omega)
    have c6 : rm_cr (m + 1) (sp_ad cr m l (sp_ov n wh l) (sp_ov n wh (l ^^^ 1)) t (sp_ly n cr (l / 2) m + 1)) (s6.1 17) := by
      refine ⟨by omega, by rw [hs6]; exact rb_sI_eq _ _ _ _, fun i hi j hj => ?_⟩
      unfold sp_ad
      by_cases him : i = m
      · subst him
        simp only [if_pos rfl, if_true]
        have : j = 0 ∨ j = 1 ∨ j = 2 ∨ j = 3 ∨ j = 4 := by omega
        rw [hs6]
        rcases this with rfl | rfl | rfl | rfl | rfl
        · rw [rb_sIg _ _ _ _ _ _ (by omega), rb_sIg _ _ _ _ _ _ (by omega), rb_sIg _ _ _ _ _ _ (by omega), t3, rb_sIg _ _ _ _ _ _ (by omega), rb_sIg _ _ _ _ _ _ (by omega), rb_sI_eq]; simp
        · rw [rb_sIg _ _ _ _ _ _ (by omega), rb_sIg _ _ _ _ _ _ (by omega), rb_sIg _ _ _ _ _ _ (by omega), t3, rb_sIg _ _ _ _ _ _ (by omega), rb_sI_eq]; simp
        · rw [rb_sIg _ _ _ _ _ _ (by omega), rb_sIg _ _ _ _ _ _ (by omega), rb_sIg _ _ _ _ _ _ (by omega), t3, rb_sI_eq]; simp
        · rw [rb_sIg _ _ _ _ _ _ (by omega), rb_sIg _ _ _ _ _ _ (by omega), rb_sI_eq]; simp
        · rw [rb_sIg _ _ _ _ _ _ (by omega), rb_sI_eq]; simp
      · simp only [if_neg him]
        rw [hs6, rb_sIg _ _ _ _ _ _ (by omega)]
        exact c5.2.2 i (by omega) j hj
    have V6 := V
    obtain ⟨τ7, d1, d2, d3, d4, d5⟩ := sm_swapAt V w6 (show l / 2 < n by omega)
    refine ⟨τ7, by rw [d1, rb_b1_some], d2, ?_, fun j hj => ?_, ⟨fun c i hci => ?_, ?_⟩⟩
    · unfold mvm mvc
      rw [if_pos h, if_pos h]
      exact ⟨c6.1, (d3 14 (by omega)).trans c6.2.1, fun i hi j hj => (d3 _ (by omega)).trans (c6.2.2 i hi j hj)⟩
    · rw [d3 j (by omega), hs6, rb_sIg _ _ _ _ _ _ (by omega)]
      exact f5.1 17 j (by omega)
    · rw [d4 c (by omega), hs6, rb_sIg _ _ _ _ _ _ (by omega)]
      exact f5.1 c i (by omega)
    · rw [d5, hs6]
      exact f5.2
  · simp only [if_neg h]
    obtain ⟨i, hi⟩ : ∃ i, sp_un n cr l m = i + 1 := ⟨sp_un n cr l m - 1, by omega⟩
    obtain ⟨a, b, c, d⟩ := sp_un_sp (by omega) hi
    rw [hi, nI_pred, rb_5i, sm_outl C hc a, rb_b1_some, rb_lt_eq, rb_sf_at, if_neg (by omega), hc.2.1, rb_pr (by omega), e1]
    obtain ⟨τ7, d1, d2, d3, d4, d5, d6⟩ := sm_out V C hw hc a (show l / 2 < n by omega)
    refine ⟨τ7, by rw [d1, rb_b1_some], d2, ?_, d4, ⟨fun c i hci => by rw [d5 c (by omega)], d6⟩⟩
    unfold mvm mvc
    rw [if_neg h, if_neg h, hi]
    exact d3
end RBF
