/-! THE CALLS, one by one -/
theorem rb_ltp {n j : Nat} (hn : n < 2 ^ 30) (hj : j < 2 ^ 31) : (nI n - 1 < nI j) = (n ≤ j) := by
  cases n with
  | zero =>
    refine propext ⟨fun _ => by omega, fun _ => ?_⟩
    rw [Int32.lt_iff_toInt_lt, nI_toInt hj]
    have : (nI 0 - 1).toInt = -1 := by decide
    omega
  | succ n =>
    rw [nI_pred, nI_ltI (by omega) hj]
    exact propext ⟨fun h => by omega, fun h => by omega⟩
theorem rb_in1 {n : Nat} (hn : n < 2 ^ 30) (p : Int32) (τ : rb_St) : (∃ j, j < n ∧ p = nI j ∧ xf_M_in p 0 (nI n - 1) τ = 1) ∨ ((p < 0 ∨ (¬ p < 0 ∧ nI n ≤ p)) ∧ xf_M_in p 0 (nI n - 1) τ = 0) := by
  unfold xf_M_in
  by_cases h0 : p < 0
  · exact Or.inr ⟨Or.inl h0, by rw [if_pos h0]⟩
  · obtain ⟨j, hj, rfl⟩ := nI_of h0
    rw [if_neg h0]
    simp only [rb_ltp hn hj]
    by_cases h : n ≤ j
    · exact Or.inr ⟨Or.inr ⟨h0, nI_le h hj⟩, by rw [if_pos h]⟩
    · exact Or.inl ⟨j, by omega, rfl, by rw [if_neg h]⟩
theorem rb_inL (a b : Nat) (ha : a < 2 ^ 31) (hb : b < 2 ^ 31) (p : Int32) (τ : rb_St) : (∃ j, a ≤ j ∧ j ≤ b ∧ p = nI j ∧ xf_M_in p (nI a) (nI b) τ = 1) ∨ ((p < nI a ∨ (¬ p < nI a ∧ nI b < p)) ∧ xf_M_in p (nI a) (nI b) τ = 0) := by
  unfold xf_M_in
  by_cases h0 : p < nI a
  · exact Or.inr ⟨Or.inl h0, by rw [if_pos h0]⟩
  · have h1 : ¬ p < 0 := by
      intro q
      apply h0
      have := nI_pos' ha
      rw [Int32.lt_iff_toInt_lt] at q ⊢
      rw [Int32.le_iff_toInt_le] at this
      omega
    obtain ⟨j, hj, rfl⟩ := nI_of h1
    rw [if_neg h0]
    by_cases h : b < j
    · exact Or.inr ⟨Or.inr ⟨h0, nI_lt h hj⟩, by rw [if_pos (nI_lt h hj)]⟩
    · refine Or.inl ⟨j, ?_, by omega, rfl, by rw [if_neg (nI_nlt (by omega) (by omega))]⟩
      rcases Nat.lt_or_ge j a with q | q
      · exact absurd (nI_lt q ha) h0
      · exact q
theorem rb_10 : ((1 : Int32) = 0) = False := eq_false (by decide)
section RBO
variable {n k : Nat} {σ τ : rb_St}
theorem rb_isD (hn : n ≤ 7) (h1 : σ.1 15 2 = nI n) (h2 : τ.1 0 22 = nI n) (p : Int32) : (∃ d, d < n ∧ p = nI d ∧ xf_RP_isDancer p σ = 1 ∧ xf_M_isDancer p τ = some 1) ∨ (xf_RP_isDancer p σ = 0 ∧ xf_M_isDancer p τ = some 0) := by
  unfold xf_RP_isDancer xf_M_isDancer
  rw [h1, h2]
  rcases rb_in1 (show n < 2 ^ 30 by omega) p τ with ⟨j, a, b, c⟩ | ⟨a, c⟩
  · subst b
    exact Or.inl ⟨j, a, rfl, by rw [if_neg (nI_pos (by omega)), if_neg (nI_ge a (by omega))], by rw [c]; rfl⟩
  · refine Or.inr ⟨?_, by rw [c]; rfl⟩
    rcases a with a | ⟨a, b⟩
    · rw [if_pos a]
    · rw [if_neg a, if_pos b]
theorem rb_hasP (hn : n ≤ 7) (h1 : σ.1 k 0 = nI n) (h2 : τ.1 0 22 = nI n) (p : Int32) : (∃ d, d < n ∧ p = nI d ∧ xf_Pole_hasPlace k p σ = 1 ∧ xf_M_isDancer p τ = some 1) ∨ (xf_Pole_hasPlace k p σ = 0 ∧ xf_M_isDancer p τ = some 0) := by
  unfold xf_Pole_hasPlace xf_M_isDancer
  rw [h1, h2]
  rcases rb_in1 (show n < 2 ^ 30 by omega) p τ with ⟨j, a, b, c⟩ | ⟨a, c⟩
  · subst b
    exact Or.inl ⟨j, a, rfl, by rw [if_neg (nI_pos (by omega)), if_neg (nI_ge a (by omega))], by rw [c]; rfl⟩
  · refine Or.inr ⟨?_, by rw [c]; rfl⟩
    rcases a with a | ⟨a, b⟩
    · rw [if_pos a]
    · rw [if_neg a, if_pos b]
theorem rb_hasG (hn : n ≤ 7) (h1 : σ.1 15 2 = nI n) : xf_RP_hasGreen σ = if n = 0 then 0 else 1 := by
  unfold xf_RP_hasGreen
  rw [h1, rb_l0]
  by_cases h : n = 0
  · rw [if_pos h, if_pos (nI_le (by omega) (by omega))]
  · rw [if_neg h, if_neg (nI_ge (by omega) (by omega))]
theorem rb_ng (hn : n ≤ 7) : (nI n = 0) = (n = 0) := by
  rw [rb_l0, nI_eq (by omega) (by decide)]
/-- what is refused -/
theorem rb_refuse {q : Nat} (hq : q < 5) (h : RRef σ τ) : ∃ σ' τ', xf_RP_refuse (nI q) σ = some (-1, σ') ∧ xf_M_isRefused (nI q) τ = some (1, τ') ∧ RRef σ' τ' ∧ rb_fr (fun c _ => c = 232) σ σ' ∧ rb_fr (fun c _ => c = 18) τ τ' := by
  refine ⟨rb_sI σ 232 q (σ.1 232 q + 1), rb_sI τ 18 q (τ.1 18 q + 1), ?_, ?_, ?_, rb_fr.sI rfl, rb_fr.sI rfl⟩
  · unfold xf_RP_refuse
    rw [if_neg (nI_pos (by omega)), rb_l5, if_neg (nI_ge (by omega) (by omega)), rb_ib_nI hq (by decide), if_pos rfl, rb_lt_eq, nI_clamp (by omega)]
  · unfold xf_M_isRefused
    rw [if_neg (rb_neg1 (by omega)), rb_ib_nI hq (by decide), if_pos rfl, rb_lt_eq, nI_clamp (by omega), if_neg (rb_neg1 (by omega))]
  · intro i hi
    rw [rb_sI_at, rb_sI_at, h q hq]
    by_cases e : i = q
    · subst e; simp
    · simp [e, h i hi]
theorem rb_refuseN (τ : rb_St) : xf_M_isRefused (-1) τ = some (0, τ) := by
  unfold xf_M_isRefused
  rw [if_pos rfl, if_pos rfl]
theorem Rel_ref {σ' τ' : rb_St} (q : Rel σ τ) (h : RRef σ' τ') (hx : rb_fr (fun c _ => c = 232) σ σ') (hm : rb_fr (fun c _ => c = 18) τ τ') : Rel σ' τ' := by
  obtain ⟨n, ru, tr, lc, ho, La, a, ⟨⟨fc, fl, ft, b1⟩, b2, b3, b4, b5⟩, c⟩ := q
  exact ⟨n, ru, tr, lc, ho, La, REnv_fr hx hm (fun c i w => by omega) (fun c i w => by omega) a, ⟨⟨fc, fl, ft, RFig_fr hx hm (fun c i w => by omega) (fun c i w => by omega) b1⟩, RTape_fr hx hm (fun c i w => by omega) (fun c i w => by omega) b2, RSeen_fr hx hm (fun c i w => by omega) (fun c i w => by omega) b3, h, RImg_fr hx hm (fun c i w => by omega) (fun c i w => by omega) b5⟩, RPol_fr hx hm (fun c i w => by omega) (fun c i w => by omega) c⟩
/-- refused in a call -/
theorem rb_refR {q : Nat} (hq : q < 5) (R : Rel σ τ) : ∃ σ' τ', xf_RP_refuse (nI q) σ = some (-1, σ') ∧ xf_M_isRefused (nI q) τ = some (1, τ') ∧ Rel σ' τ' := by
  obtain ⟨n, ru, tr, lc, ho, La, a, b, c⟩ := id R
  obtain ⟨σ', τ', x1, x2, x3, x4, x5⟩ := rb_refuse hq b.2.2.2.1
  exact ⟨σ', τ', x1, x2, Rel_ref R x3 x4 x5⟩
end RBO
theorem rb_ops_fault_o : op_fault_o Rel := by
  intro σ τ R p h0 h1 h2
  refine ⟨-2, σ, τ, rfl, ?_, R⟩
  unfold xf_M_fault
  rw [if_neg h0, if_neg h1, if_neg h2]
theorem rb_ops_text_o : op_text_o Rel := by
  intro σ τ R p h0 h1 h2
  refine ⟨-1, σ, τ, rfl, ?_, R⟩
  unfold xf_M_text xj_M_text_22 xj_M_text_69
  rw [if_neg h0, if_neg h1, if_neg h2]
theorem rb_ops_rule : op_rule Rel := by
  intro σ τ R p
  obtain ⟨n, ru, tr, lc, ho, La, ⟨gw1, -, gx1, gm1, -, -⟩, b, ⟨⟨wh, ln, m, cr, co, be, lg, w, px1, -, pm1, -⟩, -⟩⟩ := id R
  refine ⟨xf_RP_rule p σ, rfl, ?_, R⟩
  unfold xf_RP_rule xf_M_rule
  rw [rb_hasG gw1.1 gx1.1, gm1.1]
  simp only [rb_ng gw1.1]
  by_cases h : n = 0
  · rw [if_pos h, if_pos h, if_pos rfl]
  · simp only [if_neg h, rb_10, if_false]
    rcases rb_inL 0 2 (by decide) (by decide) p τ with ⟨j, _, h2, rfl, e⟩ | ⟨h2, e⟩
    · have e' : xf_M_in (nI j) 0 2 τ = 1 := e
      simp only [e', rb_10, if_false]
      have : j = 0 ∨ j = 1 ∨ j = 2 := by omega
      rcases this with rfl | rfl | rfl
      · rw [if_pos (show nI 0 = (0 : Int32) from rfl), if_neg (show ¬ nI 0 = (1 : Int32) by decide), rb_ib_nI (by omega) (by decide), if_pos rfl]
        show some (τ.1 13 0) = some (σ.1 16 0)
        rw [gm1.2.1 0 (by omega), gx1.2.1 0 (by omega)]
      · rw [if_pos (show nI 1 = (1 : Int32) from rfl), if_neg (show ¬ nI 1 = (0 : Int32) by decide), if_pos (show nI 1 = (1 : Int32) from rfl), pm1.2.2.2.1, px1.2.2.1]
      · rw [if_neg (show ¬ nI 2 = (1 : Int32) by decide), if_neg (show ¬ nI 2 = (0 : Int32) by decide), if_neg (show ¬ nI 2 = (1 : Int32) by decide), if_pos (show nI 2 = (2 : Int32) from rfl), rb_ib_nI (by omega) (by decide), if_pos rfl]
        show some (τ.1 13 2) = some (σ.1 16 2)
        rw [gm1.2.1 2 (by omega), gx1.2.1 2 (by omega)]
    · have e' : xf_M_in p 0 2 τ = 0 := e
      have n0 : ¬ p = 0 := by rintro rfl; rcases h2 with h2 | ⟨_, h2⟩ <;> exact absurd h2 (by decide)
      have n1 : ¬ p = 1 := by rintro rfl; rcases h2 with h2 | ⟨_, h2⟩ <;> exact absurd h2 (by decide)
      have n2 : ¬ p = 2 := by rintro rfl; rcases h2 with h2 | ⟨_, h2⟩ <;> exact absurd h2 (by decide)
      simp only [e', if_neg n0, if_neg n1, if_neg n2, if_true]
theorem rb_ops_stands : op_stands Rel := by
  intro σ τ R p
  obtain ⟨n, ru, tr, lc, ho, La, ⟨gw1, -, gx1, gm1, -, -⟩, b, ⟨⟨wh, ln, m, cr, co, be, lg, w, px1, -, pm1, -⟩, -⟩⟩ := id R
  have h7 := gw1.1
  unfold xf_RP_stands xf_M_stands
  rcases rb_hasP (k := 18) h7 px1.1.1 gm1.1 p with ⟨d, h1, rfl, e1, e2⟩ | ⟨e1, e2⟩
  · refine ⟨nI (wh d), ?_, ?_, R⟩
    · rw [e1, if_neg (by decide), rb_ib_nI (by omega) (by decide), if_pos rfl, nI_clamp (by omega), px1.1.2.1 d h1]
    · rw [e2, rb_b1_some, if_neg (by decide), Int32.zero_add, rb_ib_nI (by omega) (by decide), if_pos rfl, nI_clamp (by omega), pm1.1 d h1]
  · exact ⟨-1, by rw [e1, if_pos rfl], by rw [e2, rb_b1_some, if_pos rfl], R⟩
theorem rb_ops_status : op_status Rel := by
  intro σ τ R p
  obtain ⟨n, ru, tr, lc, ho, La, a, b, c⟩ := id R
  have hr := b.2.2.2.1
  unfold xf_RP_status xf_M_status
  rcases rb_inL 0 4 (by decide) (by decide) p τ with ⟨j, _, h2, rfl, e⟩ | ⟨h2, e⟩
  · have e' : xf_M_in (nI j) 0 4 τ = 1 := e
    refine ⟨σ.1 232 j, ?_, ?_, R⟩
    · rw [if_neg (nI_pos (by omega)), rb_l5, if_pos (nI_lt (by omega) (by omega)), rb_ib_nI (by omega) (by decide), if_pos rfl, nI_clamp (by omega)]
    · rw [e', if_neg (show ¬ (1 : Int32) = 0 by decide), rb_ib_nI (by omega) (by decide), if_pos rfl, nI_clamp (by omega), hr j (by omega)]
  · have e' : xf_M_in p 0 4 τ = 0 := e
    refine ⟨-1, ?_, by rw [e', if_pos rfl], R⟩
    rcases h2 with h2 | ⟨h1, h2⟩
    · rw [if_pos (show p < 0 from h2)]
    · rw [if_neg (show ¬ p < 0 from h1), if_neg]
      intro q
      rw [Int32.lt_iff_toInt_lt] at h2 q
      rw [nI_toInt (by decide)] at h2
      have e5 : (5 : Int32).toInt = 5 := by decide
      omega
theorem rb_ops_count : op_count Rel := by
  intro σ τ R p
  obtain ⟨n, ru, tr, lc, ho, La, ⟨gw1, lw1, gx1, gm1, lx1, lm1⟩, ⟨⟨fc, fl, ft, f1⟩, ⟨tm, tt, t1, t2, t3, t4, -, -⟩, ⟨sc, sd, ss, sn, si, s1, s2, s3, -⟩, -, -⟩, ⟨⟨wh, ln, m, cr, co, be, lg, w, px1, lx2, pm1, lm2⟩, ⟨nx, sz, -, -, -, z1, z2, -⟩⟩⟩ := id R
  refine ⟨xf_RP_count p σ, rfl, ?_, R⟩
  unfold xf_RP_count xf_M_count xf_Pole_entryCount
  rw [gx1.1, gm1.1, px1.2.1.1, pm1.2.2.1.2.1, lx1.1, lm1.1, f1.2.1, f1.2.2.1, t3, t4, lx1.2.1, lm1.2.1, px1.2.2.2, pm1.2.2.2.2, s2, s3, z1, z2, lm2.1, rb_l60, rb_mn_nI (by have := w.2.2.2.1; omega) (by decide)]
theorem rb_ops_law : op_law Rel := by
  intro σ τ R p
  obtain ⟨n, ru, tr, lc, ho, La, ⟨gw1, lw1, gx1, gm1, lx1, lm1⟩, b, c⟩ := id R
  have hl4 := lw1.1
  -- the new one that holds
  have good : ∀ (h' : Nat), h' ≤ lc → Rel (rb_sI σ 0 10 (nI h' - 1)) (rb_sI τ 0 29 (nI h' - 1)) := by
    intro h' hh
    have fx : rb_fr (fun c i => c = 0 ∧ i = 10) σ (rb_sI σ 0 10 (nI h' - 1)) := rb_fr.sI ⟨rfl, rfl⟩
    have fm : rb_fr (fun c i => c = 0 ∧ i = 29) τ (rb_sI τ 0 29 (nI h' - 1)) := rb_fr.sI ⟨rfl, rfl⟩
    refine ⟨n, ru, tr, lc, h', La, ⟨gw1, ⟨lw1.1, hh, lw1.2.2⟩, gx_fr fx (fun c i w => by omega) gx1, gm_fr fm (fun c i w => by omega) gm1, ⟨?_, rb_sI_eq _ _ _ _, fun j hj => ?_⟩, ⟨?_, rb_sI_eq _ _ _ _, fun j hj => ?_⟩⟩, ROth_fr fx fm (fun c i w => by omega) (fun c i w => by omega) b, RPol_fr fx fm (fun c i w => by omega) (fun c i w => by omega) c⟩
    · rw [rb_sIg _ _ _ _ _ _ (by omega)]; exact lx1.1
    · obtain ⟨q1, q2⟩ := lx1.2.2 j hj
      exact ⟨by rw [rb_sIg _ _ _ _ _ _ (by omega)]; exact q1, rb_rw_co (fun i _ _ => rb_sIg _ _ _ _ _ _ (by omega)) q2⟩
    · rw [rb_sIg _ _ _ _ _ _ (by omega)]; exact lm1.1
    · obtain ⟨q1, q2⟩ := lm1.2.2 j hj
      exact ⟨by rw [rb_sIg _ _ _ _ _ _ (by omega)]; exact q1, rb_lm_co (fun c i _ _ _ => rb_sIg _ _ _ _ _ _ (by omega)) (fun c i _ _ _ => rb_sIg _ _ _ _ _ _ (by omega)) q2⟩
  unfold xf_RP_law xf_M_law xf_M_in
  rw [lx1.1, lm1.1]
  by_cases h0 : p < -1
  · refine ⟨0, σ, τ, by rw [if_pos h0], by rw [if_pos h0, if_pos rfl], R⟩
  · rw [if_neg h0]
    by_cases hm : p = -1
    · subst hm
      refine ⟨1, _, _, ?_, ?_, good 0 (by omega)⟩
      · rw [if_pos, rb_lt_eq]
        · rfl
        · have := nI_pos' (n := lc) (by omega)
          rw [Int32.lt_iff_toInt_lt]
          rw [Int32.le_iff_toInt_le] at this
          have e0 : (0 : Int32).toInt = 0 := by decide
          have e1 : (-1 : Int32).toInt = -1 := by decide
          omega
      · have q : ¬ nI lc - 1 < -1 := by
          intro q
          cases lc with
          | zero => exact absurd q (by decide)
          | succ lc =>
            rw [nI_pred] at q
            have := nI_pos' (n := lc) (by omega)
            rw [Int32.lt_iff_toInt_lt] at q
            rw [Int32.le_iff_toInt_le] at this
            have e0 : (0 : Int32).toInt = 0 := by decide
            have e1 : (-1 : Int32).toInt = -1 := by decide
            omega
        simp only [if_neg h0, if_neg q, rb_10, if_false, rb_lt_eq]
        rfl
    · have hp : ¬ p < 0 := by
        intro q
        rw [Int32.lt_iff_toInt_lt] at q h0
        apply hm
        apply Int32.toInt_inj.mp
        have e0 : (0 : Int32).toInt = 0 := by decide
        have e1 : (-1 : Int32).toInt = -1 := by decide
        omega
      obtain ⟨j, hj, rfl⟩ := nI_of hp
      simp only [rb_ltp (show lc < 2 ^ 30 by omega) hj]
      by_cases hl : j < lc
      · refine ⟨1, _, _, ?_, ?_, good (j + 1) (by omega)⟩
        · rw [if_pos (nI_lt hl (by omega)), rb_lt_eq, nI_pred]
        · simp only [if_neg h0, if_neg (show ¬ lc ≤ j by omega), rb_10, if_false, rb_lt_eq, nI_pred]
      · refine ⟨0, σ, τ, ?_, ?_, R⟩
        · rw [if_neg (nI_nlt (by omega) hj)]
        · simp only [if_neg h0, if_pos (show lc ≤ j by omega), if_true]
