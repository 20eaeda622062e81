theorem rb_apN {b : Nat → Int32} {m : Nat} {t : Nat → Nat} (ht : ∀ i, i < m → 0 < t i ∧ t i < 256) (hb : ∀ k, ∃ n, n < 256 ∧ b k = nI n) : ∀ k, ∃ t' : Nat → Nat, (∀ i, i < m + rb_nz b k → 0 < t' i ∧ t' i < 256) ∧ ∀ f : Nat → Int32, (∀ i, i < m → f i = nI (t i)) → ∀ i, i < m + rb_nz b k → rb_ap b m f k i = nI (t' i) := by
  intro k
  induction k with
  | zero => exact ⟨t, ht, fun f hf i hi => hf i hi⟩
  | succ k ih =>
    obtain ⟨t1, h1, h2⟩ := ih
    by_cases h0 : b k = 0
    · have e1 : rb_nz b (k + 1) = rb_nz b k := by show (if b k = 0 then _ else _) = _; rw [if_pos h0]
      have e2 : ∀ f, rb_ap b m f (k + 1) = rb_ap b m f k := fun f => by show (if b k = 0 then _ else _) = _; rw [if_pos h0]
      exact ⟨t1, by rw [e1]; exact h1, fun f hf i hi => by rw [e2]; exact h2 f hf i (by rw [e1] at hi; exact hi)⟩
    · have e1 : rb_nz b (k + 1) = rb_nz b k + 1 := by show (if b k = 0 then _ else _) = _; rw [if_neg h0]
      have e2 : ∀ f, rb_ap b m f (k + 1) = upd (rb_ap b m f k) (m + rb_nz b k) (b k) := fun f => by show (if b k = 0 then _ else _) = _; rw [if_neg h0]
      obtain ⟨v, hv, ev⟩ := hb k
      have hv0 : 0 < v := by
        rcases Nat.eq_zero_or_pos v with h | h
        · subst h; exact absurd ev h0
        · exact h
      refine ⟨fun i => if i = m + rb_nz b k then v else t1 i, fun i hi => ?_, fun f hf i hi => ?_⟩
      · by_cases e : i = m + rb_nz b k
        · simp only [if_pos e]; exact ⟨hv0, hv⟩
        · simp only [if_neg e]; exact h1 i (by omega)
      · rw [e2]
        unfold upd
        by_cases e : i = m + rb_nz b k
        · simp only [if_pos e]; exact ev
        · simp only [if_neg e]; exact h2 f hf i (by omega)
theorem rb_ops_feed : op_feed Rel := by
  intro σ τ R p0 p1 p2 p3 p4
  obtain ⟨n, ru, tr, lc, ho, La, a, ⟨b1, ⟨m, t, t1, t2, t3, t4, t5, t6⟩, b3, b4, b5⟩, c⟩ := id R
  have hx := sx_feed (m := m) (t := fun i => nI (t i)) (σ := σ) ⟨t3, t5⟩ t1 p0 p1 p2 p3 p4
  have hm := sm_feed (m := m) (t := fun i => nI (t i)) (σ := τ) ⟨t4, t6⟩ t1 p0 p1 p2 p3 p4
  by_cases h : m + rb_nz (rb_b20 p0 p1 p2 p3 p4) 20 ≤ 240
  · rw [if_pos h] at hx hm
    refine ⟨_, _, _, hx, hm, ?_⟩
    have fx : rb_fr (fun c i => (c = 1 ∧ i = 1) ∨ c = 2) σ (rb_pu 2 1 1 (rb_b20 p0 p1 p2 p3 p4) m σ 20) := ⟨fun c i hc => rb_pu_other (by omega) (by omega) 20, rb_pu_2 20⟩
    have fm : rb_fr (fun c i => (c = 0 ∧ i = 2) ∨ c = 1) τ (rb_pu 1 0 2 (rb_b20 p0 p1 p2 p3 p4) m τ 20) := ⟨fun c i hc => rb_pu_other (by omega) (by omega) 20, rb_pu_2 20⟩
    obtain ⟨t', q1, q2⟩ := rb_apN (b := rb_b20 p0 p1 p2 p3 p4) t2 (fun k => rb_by_lt _ _) 20
    obtain ⟨fc, fl, ft, b1⟩ := b1
    refine ⟨n, ru, tr, lc, ho, La, REnv_fr fx fm (fun c i w => by omega) (fun c i w => by omega) a, ⟨⟨fc, fl, ft, RFig_fr fx fm (fun c i w => by omega) (fun c i w => by omega) b1⟩, ⟨_, t', h, q1, rb_pu_size (by decide) t3 20, rb_pu_size (by decide) t4 20, fun i hi => ?_, fun i hi => ?_⟩, RSeen_fr fx fm (fun c i w => by omega) (fun c i w => by omega) b3, RRef_fr fx fm (fun c i w => by omega) (fun c i w => by omega) b4, RImg_fr fx fm (fun c i w => by omega) (fun c i w => by omega) b5⟩, RPol_fr fx fm (fun c i w => by omega) (fun c i w => by omega) c⟩
    · rw [rb_pu_row (by decide) 20]; exact q2 _ t5 i hi
    · rw [rb_pu_row (by decide) 20]; exact q2 _ t6 i hi
  · rw [if_neg h] at hx hm
    exact ⟨-1, σ, τ, hx, hm, R⟩
/-- the tape is cut -/
theorem Rel_cut {σ τ : rb_St} {n lc ho : Nat} {ru tr : Nat → Nat} {La : Nat → List sp_Cl} (a : REnv n ru tr lc ho La σ τ) (b : ROth n σ τ) (c : RPol n σ τ) {m j : Nat} (hm : σ.1 1 1 = nI m) (hm2 : m ≤ 240) (hj : j ≤ m) : Rel (rb_sI σ 1 1 (nI j)) (rb_sI τ 0 2 (nI j)) := by
  obtain ⟨⟨fc, fl, ft, b1⟩, ⟨m', t, t1, t2, t3, t4, t5, t6⟩, b3, b4, b5⟩ := b
  have em : m' = m := (nI_eq (by omega) (by omega)).mp (t3.symm.trans hm)
  subst em
  have fx : rb_fr (fun c i => (c = 1 ∧ i = 1)) σ (rb_sI σ 1 1 (nI j)) := rb_fr.sI ⟨rfl, rfl⟩
  have fm : rb_fr (fun c i => (c = 0 ∧ i = 2)) τ (rb_sI τ 0 2 (nI j)) := rb_fr.sI ⟨rfl, rfl⟩
  refine ⟨n, ru, tr, lc, ho, La, REnv_fr fx fm (fun c i w => by omega) (fun c i w => by omega) a, ⟨⟨fc, fl, ft, RFig_fr fx fm (fun c i w => by omega) (fun c i w => by omega) b1⟩, ⟨j, t, by omega, fun i hi => t2 i (by omega), rb_sI_eq _ _ _ _, rb_sI_eq _ _ _ _, fun i hi => ?_, fun i hi => ?_⟩, RSeen_fr fx fm (fun c i w => by omega) (fun c i w => by omega) b3, RRef_fr fx fm (fun c i w => by omega) (fun c i w => by omega) b4, RImg_fr fx fm (fun c i w => by omega) (fun c i w => by omega) b5⟩, RPol_fr fx fm (fun c i w => by omega) (fun c i w => by omega) c⟩
  · rw [rb_sIg _ _ _ _ _ _ (by omega)]; exact t5 i (by omega)
  · rw [rb_sIg _ _ _ _ _ _ (by omega)]; exact t6 i (by omega)
theorem rb_ops_end : op_end Rel := by
  intro σ τ R p
  obtain ⟨n, ru, tr, lc, ho, La, a, b, c⟩ := id R
  obtain ⟨m, t, t1, t2, t3, t4, t5, t6⟩ := b.2.1
  rcases sx_end (m := m) (t := fun i => nI (t i)) (σ := σ) ⟨t3, t5⟩ p with ⟨j, h1, h2, hx⟩ | ⟨h1, hx⟩
  · rcases sm_end (m := m) (t := fun i => nI (t i)) (σ := τ) ⟨t4, t6⟩ p with ⟨j2, g1, g2, hm⟩ | ⟨g1, hm⟩
    · refine ⟨1, _, _, hx, hm, ?_⟩
      rw [h2]
      exact Rel_cut a b c t3 t1 h1
    · subst h2
      rcases g1 with g1 | g1
      · exact absurd g1 (nI_pos (by omega))
      · exact absurd (nI_le h1 (by omega)) g1
  · rcases sm_end (m := m) (t := fun i => nI (t i)) (σ := τ) ⟨t4, t6⟩ p with ⟨j2, g1, g2, hm⟩ | ⟨g1, hm⟩
    · subst g2
      rcases h1 with h1 | h1
      · exact absurd h1 (nI_pos (by omega))
      · exact absurd (nI_le g1 (by omega)) h1
    · exact ⟨0, σ, τ, hx, hm, R⟩
/-- which figure -/
theorem rb_isF {fc : Nat} {σ τ : rb_St} (hf : fc ≤ 6) (h1 : σ.1 0 12 = nI fc) (h2 : τ.1 0 25 = nI fc) (p : Int32) : (∃ d, d < fc ∧ p = nI d ∧ xf_RP_isFigure p σ = 1 ∧ xf_M_in p 0 (τ.1 0 25 - 1) τ = 1) ∨ (xf_RP_isFigure p σ = 0 ∧ xf_M_in p 0 (τ.1 0 25 - 1) τ = 0) := by
  unfold xf_RP_isFigure
  rw [h1, h2]
  rcases rb_in1 (show fc < 2 ^ 30 by omega) p τ with ⟨j, a, b, c⟩ | ⟨a, c⟩
  · subst b
    exact Or.inl ⟨j, a, rfl, by rw [if_neg (nI_pos (by omega)), if_neg (nI_ge a (by omega))], c⟩
  · refine Or.inr ⟨?_, c⟩
    rcases a with a | ⟨a, b⟩
    · rw [if_pos a]
    · rw [if_neg a, if_pos b]
theorem sx_letterAt {fc j : Nat} {fl : Nat → Nat} {ft : Nat → Nat → Nat} {σ τ : rb_St} (F : RFig fc fl ft σ τ) (hj : j < fc) {i : Nat} (hi : i < fl j) : xf_Fig_letterAt (256 + 2 * j) (nI i) σ = some (nI (ft j i)) := by
  obtain ⟨e1, e2, e3, e4⟩ := F.2.2.2 j hj
  unfold xf_Fig_letterAt
  rw [if_neg (nI_pos (by omega)), e2, if_neg (nI_ge hi (by omega)), rb_l48, if_neg (nI_ge (by omega) (by omega)), rb_ib_nI (by omega) (by decide), if_pos rfl, nI_clamp (by omega), (e4 i hi).2.1]
theorem rb_ops_step : op_step Rel := by
  intro σ τ R p q
  obtain ⟨n, ru, tr, lc, ho, La, a, ⟨⟨fc, fl, ft, F⟩, b⟩, c⟩ := id R
  have hf := F.1
  unfold xf_RP_step xf_M_step
  rcases rb_isF F.1 F.2.1 F.2.2.1 p with ⟨j, h1, rfl, e1, e2⟩ | ⟨e1, e2⟩
  · obtain ⟨f1, f2, f3, f4⟩ := F.2.2.2 j h1
    rw [e1, e2, if_neg (show ¬ (1 : Int32) = 0 by decide), if_neg (show ¬ (1 : Int32) = 0 by decide), rb_ib_nI (by omega) (by decide), rb_ib_nI (by omega) (by decide), if_pos rfl, if_pos rfl, rb_lt_eq, nI_clamp (by omega), f2, f3]
    by_cases hq : q = -1
    · refine ⟨nI (fl j), by rw [if_pos hq], ?_, R⟩
      have : xf_M_in q (-1) (nI (fl j) - 1) τ = 1 := by
        subst hq
        unfold xf_M_in
        rw [if_neg (by decide), if_neg]
        intro w
        cases hfl : fl j with
        | zero => rw [hfl] at w; exact absurd w (by decide)
        | succ z =>
          rw [hfl, nI_pred] at w
          have := nI_pos' (n := z) (by omega)
          rw [Int32.lt_iff_toInt_lt] at w
          rw [Int32.le_iff_toInt_le] at this
          have e0 : (0 : Int32).toInt = 0 := by decide
          have e1 : (-1 : Int32).toInt = -1 := by decide
          omega
      rw [this, if_neg (show ¬ (1 : Int32) = 0 by decide), if_pos hq]
    · rw [if_neg hq]
      by_cases hq2 : ∃ i, i < fl j ∧ q = nI i
      · obtain ⟨i, hi, rfl⟩ := hq2
        refine ⟨nI (ft j i), by rw [sx_letterAt F h1 hi, rb_b1_some], ?_, R⟩
        have : xf_M_in (nI i) (-1) (nI (fl j) - 1) τ = 1 := by
          unfold xf_M_in
          rw [if_neg, if_neg]
          · rw [rb_ltp (by omega) (by omega)]; omega
          · intro w
            have := nI_pos' (n := i) (by omega)
            rw [Int32.lt_iff_toInt_lt] at w
            rw [Int32.le_iff_toInt_le] at this
            have e0 : (0 : Int32).toInt = 0 := by decide
            have e1 : (-1 : Int32).toInt = -1 := by decide
            omega
        have e48 : (48 : Int32) * nI j + nI i = nI (48 * j + i) := by rw [rb_l48, pk_mul, nI_add]
        rw [this, if_neg (show ¬ (1 : Int32) = 0 by decide), if_neg hq, e48, rb_ib_nI (by omega) (by decide), if_pos rfl, nI_clamp (by omega), (f4 i hi).2.2]
      · refine ⟨-1, ?_, ?_, R⟩
        · unfold xf_Fig_letterAt
          rw [f2]
          by_cases h0 : q < 0
          · rw [if_pos h0, rb_b1_some]
          · obtain ⟨i, hi, rfl⟩ := nI_of h0
            rw [if_neg h0]
            by_cases h3 : i < fl j
            · exact absurd ⟨i, h3, rfl⟩ hq2
            · rw [if_pos (nI_le (by omega) hi), rb_b1_some]
        · have : xf_M_in q (-1) (nI (fl j) - 1) τ = 0 := by
            unfold xf_M_in
            by_cases h0 : q < -1
            · rw [if_pos h0]
            · rw [if_neg h0]
              have hp : ¬ q < 0 := by
                intro w
                rw [Int32.lt_iff_toInt_lt] at w h0
                apply hq
                apply Int32.toInt_inj.mp
                have e0 : (0 : Int32).toInt = 0 := by decide
                have e1 : (-1 : Int32).toInt = -1 := by decide
                omega
              obtain ⟨i, hi, rfl⟩ := nI_of hp
              rw [if_pos]
              rw [rb_ltp (by omega) hi]
              rcases Nat.lt_or_ge i (fl j) with h3 | h3
              · exact absurd ⟨i, h3, rfl⟩ hq2
              · exact h3
          rw [this, if_pos rfl]
  · exact ⟨-1, by rw [e1, if_pos rfl], by rw [e2, if_pos rfl], R⟩
theorem rb_ops_bound : op_bound Rel := by
  intro σ τ R p q
  obtain ⟨n, ru, tr, lc, ho, La, ⟨gw1, -, gx1, gm1, -, -⟩, b, ⟨⟨wh, ln, m, cr, co, be, lg, w, px1, -, pm1, -⟩, -⟩⟩ := id R
  have h7 := gw1.1
  unfold xf_RP_bound xf_M_bound
  rcases rb_isD h7 gx1.1 gm1.1 p with ⟨d, h1, rfl, e1, e2⟩ | ⟨e1, e2⟩
  · rw [e1, e2, rb_b1_some, if_neg (show ¬ (1 : Int32) = 0 by decide), if_neg (show ¬ (1 : Int32) = 0 by decide)]
    rcases rb_isD h7 gx1.1 gm1.1 q with ⟨e, g1, rfl, e3, e4⟩ | ⟨e3, e4⟩
    · rw [e3, e4, rb_b1_some, if_neg (show ¬ (1 : Int32) = 0 by decide), if_neg (show ¬ (1 : Int32) = 0 by decide)]
      by_cases hde : d = e
      · subst hde
        exact ⟨-1000000, by rw [if_pos rfl], by rw [if_pos rfl], R⟩
      · have hne : ¬ nI d = nI e := fun h => hde ((nI_eq (by omega) (by omega)).mp h)
        refine ⟨nI (sp_os cr d e m) - nI (sp_os cr e d m), ?_, ?_, R⟩
        · rw [if_neg hne, sx_oversOf w.1.2.2.1 px1.2.1 (by omega) (by omega), rb_b1_some, sx_oversOf w.1.2.2.1 px1.2.1 (by omega) (by omega), rb_b1_some]
        · rw [if_neg hne, sm_boundl w.1.2.2.1 pm1.2.2.1 (by omega) (by omega) hde, rb_b1_some]
    · exact ⟨-1000000, by rw [e3, if_pos rfl], by rw [e4, rb_b1_some, if_pos rfl], R⟩
  · exact ⟨-1000000, by rw [e1, if_pos rfl], by rw [e2, rb_b1_some, if_pos rfl], R⟩
theorem rb_ops_undo : op_undo Rel := by
  intro σ τ R
  obtain ⟨n, ru, tr, lc, ho, La, a, b, c⟩ := id R
  unfold xf_RP_undo
  by_cases h : σ.1 28 2 = 0
  · refine ⟨-1, σ, τ, by rw [if_pos h], ?_, R⟩
    obtain ⟨nx, sz, -, z0, -, z1, z2, -⟩ := c.2
    unfold xf_M_undo
    rw [if_pos]
    rw [z2, ← z1]; exact h
  · obtain ⟨z, σ', τ', x1, x2, x3, x4, x5, x6, x7⟩ := rb_undo c.2 h
    refine ⟨nI z, σ', τ', by rw [if_neg h, x1, rb_b1_some, x2], x3, Rel_ac (x6.mo (fun c i w => by unfold acX; omega)) (x7.mo (fun c i w => by unfold acM; omega)) a b ⟨x4, x5⟩⟩
theorem rb_ops_image : op_image Rel := by
  intro σ τ R
  obtain ⟨n, ru, tr, lc, ho, La, a, ⟨⟨fc, fl, ft, b1⟩, b2, b3, b4, b5⟩, c⟩ := id R
  obtain ⟨gw1, -, gx1, gm1, -, -⟩ := id a
  unfold xf_RP_image xf_M_image
  rw [rb_hasG gw1.1 gx1.1, gm1.1]
  simp only [rb_ng gw1.1]
  by_cases h : n = 0
  · exact ⟨-1, σ, τ, by rw [if_pos h, if_pos rfl], by rw [if_pos h], R⟩
  · obtain ⟨s, y1, y2, y3, y4⟩ := sx_copyFrom (σ := σ) (k0 := 23) (k1 := 18) (by omega)
    have hb : σ.1 18 3 = τ.1 17 216 := by
      obtain ⟨⟨wh, ln, m, cr, co, be, lg, w, px1, -, pm1, -⟩, -⟩ := c
      rw [px1.2.2.2, pm1.2.2.2.2]
    have fx : rb_fr (fun c i => 23 ≤ c ∧ c < 28) σ s := ⟨fun c i hc => by rw [y4.1 c (by omega)], y4.2⟩
    have fm : rb_fr (fun c i => (c = 0 ∧ i = 49) ∨ c = 33) τ (rb_sI (rb_ct 17 33 0 0 τ 398) 0 49 1) := ⟨fun c i hc => by rw [rb_sIg _ _ _ _ _ _ (by omega), rb_ct_row (by omega)], by rw [rb_sI_2, rb_ct_2]⟩
    refine ⟨σ.1 18 3, s, rb_sI (rb_ct 17 33 0 0 τ 398) 0 49 1, ?_, ?_, n, ru, tr, lc, ho, La, REnv_fr fx fm (fun c i w => by omega) (fun c i w => by omega) a, ⟨⟨fc, fl, ft, RFig_fr fx fm (fun c i w => by omega) (fun c i w => by omega) b1⟩, RTape_fr fx fm (fun c i w => by omega) (fun c i w => by omega) b2, RSeen_fr fx fm (fun c i w => by omega) (fun c i w => by omega) b3, RRef_fr fx fm (fun c i w => by omega) (fun c i w => by omega) b4, Or.inr ⟨by omega, rb_sI_eq _ _ _ _, ?_⟩⟩, RPol_fr fx fm (fun c i w => by omega) (fun c i w => by omega) c⟩
    · simp only [if_neg h, rb_10, if_false]
      rw [y1, rb_b1_some, fx.1 18 3 (by omega)]
    · rw [if_neg h, sm_imagel, rb_b1_some, rb_lt_eq, rb_sIg _ _ _ _ _ _ (by omega), rb_ct_row (by omega), hb]
    · refine PR_same y2 y3 (fun i hi => ?_) c.1
      rw [rb_sIg _ _ _ _ _ _ (by omega), rb_ct_at (by decide), if_pos (by omega)]
      exact congrArg (τ.1 17) (by omega)
theorem rb_ops_back : op_back Rel := by
  intro σ τ R
  obtain ⟨n, ru, tr, lc, ho, La, a, b, c⟩ := id R
  unfold xf_RP_back xf_M_back
  rcases id b.2.2.2.2 with ⟨h1, h2⟩ | ⟨h0, h1, h2⟩
  · exact ⟨-1, σ, τ, by rw [if_pos h1], by rw [if_pos h2], R⟩
  · have hn7 := a.1.1
    have hp : σ.1 23 0 = nI n := by
      obtain ⟨wh, ln, m, cr, co, be, lg, w, px1, -, pm1, -⟩ := h2
      exact px1.1.1
    obtain ⟨s, y1, y2, y3, y4⟩ := sx_copyFrom (σ := σ) (k0 := 18) (k1 := 23) (by omega)
    have P' : PR n 18 s (fun i => τ.1 33 i) := PR_same y2 y3 (fun i hi => rfl) h2
    obtain ⟨nx, sz, z0, z1, z2, z3, z4, z5⟩ := c.2
    have fx : rb_fr (fun c i => (18 ≤ c ∧ c < 23) ∨ c = 28) σ (rb_sI s 28 2 0) := ⟨fun c i hc => by rw [rb_sIg _ _ _ _ _ _ (by omega), y4.1 c (by omega)], by rw [rb_sI_2, y4.2]⟩
    have fm : rb_fr (fun c i => (c = 0 ∧ i = 35) ∨ c = 17) τ (rb_sI (rb_ct 33 17 0 0 τ 398) 0 35 0) := ⟨fun c i hc => by rw [rb_sIg _ _ _ _ _ _ (by omega), rb_ct_row (by omega)], by rw [rb_sI_2, rb_ct_2]⟩
    have r17 : ∀ i, i < 398 → (rb_sI (rb_ct 33 17 0 0 τ 398) 0 35 0).1 17 i = τ.1 33 i := fun i hi => by
      rw [rb_sIg _ _ _ _ _ _ (by omega), rb_ct_at (by decide), if_pos (by omega)]
      exact congrArg (τ.1 33) (by omega)
    have P2 : PR n 18 (rb_sI s 28 2 0) ((rb_sI (rb_ct 33 17 0 0 τ 398) 0 35 0).1 17) := PR_fr (ch := fun c i => c = 28) (rb_fr.sI rfl) (fun c i w => by omega) r17 P'
    refine ⟨(rb_sI s 28 2 0).1 18 3, rb_sI s 28 2 0, rb_sI (rb_ct 33 17 0 0 τ 398) 0 35 0, ?_, ?_, Rel_ac (fx.mo (fun c i w => by unfold acX; omega)) (fm.mo (fun c i w => by unfold acM; omega)) a b ⟨P2, nx, 0, z0, by omega, ?_, rb_sI_eq _ _ _ _, rb_sI_eq _ _ _ _, fun a ha => by omega⟩⟩
    · rw [hp, if_neg (nI_ne0 h0 (by omega)), y1, rb_b1_some]
      unfold xf_Acts_forget
      rw [rb_lt_eq, rb_b1_some]
    · rw [h1, if_neg (by decide), sm_backl, rb_b1_some, rb_lt_eq]
      obtain ⟨wh, ln, m, cr, co, be, lg, w, px1, -, pm1, -⟩ := P2
      rw [px1.2.2.2, pm1.2.2.2.2]
    · rw [rb_sIg _ _ _ _ _ _ (by omega), y4.1 28 (by omega)]; exact z2
