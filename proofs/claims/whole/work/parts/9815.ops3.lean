theorem rb_ops_log : op_log Rel := by
  intro σ τ R p q
  obtain ⟨n, ru, tr, lc, ho, La, a, b, ⟨⟨wh, ln, m, cr, co, be, lg, w, px1, lx1, pm1, lm1⟩, -⟩⟩ := id R
  have hbe := w.2.2.2.1
  have hlg := w.2.2.2.2
  unfold xf_RP_log xf_M_log xf_Pole_entryCount
  rw [px1.2.2.2, rb_l60, rb_mn_nI (by omega) (by decide), lm1.1]
  rcases rb_in1 (show min be 60 < 2 ^ 30 by omega) p τ with ⟨j, h1, rfl, e⟩ | ⟨h, e⟩
  · rw [e, if_neg (nI_pos (by omega)), if_pos (nI_lt h1 (by omega)), if_neg (show ¬ (1 : Int32) = 0 by decide)]
    have e1 : nI be - 1 - nI j = nI (be - 1 - j) := by rw [rb_pr (by omega), pk_sub (by omega)]
    have e2 : nI (be - 1 - j) - nI (be - 1 - j) / (60 : Int32) * 60 = nI ((be - 1 - j) % 60) := pk_rem (d := 60) (by omega) (by decide) (by decide)
    have g1 : xf_Pole_entryAgo 18 (nI j) σ = some (nI (lg (be - 1 - j) 0 + 32 * lg (be - 1 - j) 1 + 64 * lg (be - 1 - j) 2)) := by
      unfold xf_Pole_entryAgo
      rw [px1.2.2.2, e1, if_pos (nI_pos' (by omega)), e2, rb_ib_nI (Nat.mod_lt _ (by decide)) (by decide), if_pos rfl, nI_clamp (by omega), lx1 (be - 1 - j) (by omega) (by omega)]
    obtain ⟨b0, b1, b2⟩ := hlg (be - 1 - j) (by omega)
    rw [g1, rb_b1_some]
    have e3 : nI (min be 60) - 1 - nI j = nI (min be 60 - 1 - j) := by rw [rb_pr (by omega), pk_sub (by omega)]
    have hM : ∀ f, f < 3 → τ.1 17 (218 + 3 * (min be 60 - 1 - j) + f) = nI (lg (be - 1 - j) f) := by
      intro f hf
      have := lm1.2 (be - 1 - j) (by omega) (by omega) f hf
      rw [show be - 1 - j - (be - min be 60) = min be 60 - 1 - j by omega] at this
      exact this
    rcases rb_inL 0 2 (by decide) (by decide) q τ with ⟨f, _, h2, rfl, e'⟩ | ⟨h2, e'⟩
    · have e'' : xf_M_in (nI f) 0 2 τ = 1 := e'
      have e4 : (218 : Int32) + 3 * nI (min be 60 - 1 - j) + nI f = nI (218 + 3 * (min be 60 - 1 - j) + f) := by rw [rb_l218, rb_l3, pk_mul, nI_add, nI_add]
      refine ⟨nI (lg (be - 1 - j) f), ?_, ?_, R⟩
      · have : f = 0 ∨ f = 1 ∨ f = 2 := by omega
        rcases this with rfl | rfl | rfl
        · rw [if_pos (show nI 0 = (0 : Int32) from rfl)]
          refine congrArg some ((rb_mask _ 5).trans ?_)
          congr 1
          omega
        · rw [if_neg (show ¬ nI 1 = (0 : Int32) by decide), if_pos (show nI 1 = (1 : Int32) from rfl), show (5 : Int32) = nI 5 from rfl, rb_shr (by omega) (by decide)]
          refine congrArg some ((rb_mask _ 1).trans ?_)
          congr 1
          omega
        · rw [if_neg (show ¬ nI 2 = (0 : Int32) by decide), if_neg (show ¬ nI 2 = (1 : Int32) by decide), if_pos (show nI 2 = (2 : Int32) from rfl), show (6 : Int32) = nI 6 from rfl, rb_shr (by omega) (by decide)]
          refine congrArg some ?_
          congr 1
          omega
      · rw [e'', if_neg (show ¬ (1 : Int32) = 0 by decide), e3, e4, rb_ib_nI (by omega) (by decide), if_pos rfl, nI_clamp (by omega), hM f (by omega)]
    · have e'' : xf_M_in q 0 2 τ = 0 := e'
      have n0 : ¬ q = 0 := by rintro rfl; rcases h2 with h2 | ⟨_, h2⟩ <;> exact absurd h2 (by decide)
      have n1 : ¬ q = 1 := by rintro rfl; rcases h2 with h2 | ⟨_, h2⟩ <;> exact absurd h2 (by decide)
      have n2 : ¬ q = 2 := by rintro rfl; rcases h2 with h2 | ⟨_, h2⟩ <;> exact absurd h2 (by decide)
      exact ⟨-1, by rw [if_neg n0, if_neg n1, if_neg n2], by rw [e'', if_pos rfl], R⟩
  · refine ⟨-1, ?_, by rw [e, if_pos rfl], R⟩
    rcases h with h | ⟨h, h2⟩
    · rw [if_pos h]
    · rw [if_neg h, if_neg]
      intro q
      rw [Int32.lt_iff_toInt_lt] at q
      rw [Int32.le_iff_toInt_le] at h2
      omega
theorem rb_lt1 {p : Int32} (h : ¬ p < 1) : ∃ j, 1 ≤ j ∧ j < 2 ^ 31 ∧ p = nI j := by
  have e1 : (1 : Int32).toInt = 1 := by decide
  have e0 : (0 : Int32).toInt = 0 := by decide
  rw [Int32.lt_iff_toInt_lt, e1] at h
  obtain ⟨j, hj, rfl⟩ := nI_of (x := p) (by rw [Int32.lt_iff_toInt_lt, e0]; omega)
  rw [nI_toInt hj] at h
  exact ⟨j, by omega, hj, rfl⟩
theorem rb_inF {j b : Nat} {τ : rb_St} (h1 : 1 ≤ j) (h : b < j) (hj : j < 2 ^ 31) : xf_M_in (nI j) (nI 1) (nI b) τ = 0 := by
  unfold xf_M_in
  rw [if_neg (nI_nlt h1 hj), if_pos (nI_lt h hj)]
theorem rb_inT {j b : Nat} {τ : rb_St} (h1 : 1 ≤ j) (h : j ≤ b) (hb : b < 2 ^ 31) : xf_M_in (nI j) (nI 1) (nI b) τ = 1 := by
  unfold xf_M_in
  rw [if_neg (nI_nlt h1 (by omega)), if_neg (nI_nlt h hb)]
theorem rb_ops_give : op_give Rel := by
  intro σ τ R p
  obtain ⟨n, ru, tr, lc, ho, La, a, b, ⟨⟨wh, ln, m, cr, co, be, lg, w, px1, lx1, pm1, lm1⟩, A⟩⟩ := id R
  obtain ⟨gw1, -, gx1, gm1, -, -⟩ := id a
  have hco := w.2.2.1
  have ref : ∀ q : Nat, q < 5 → ∃ r σ' τ', rb_b2 (xf_RP_refuse (nI q) σ) (fun r20 s18 => some (r20, s18)) = some (r, σ') ∧ xj_M_give_43 p (nI q) τ = some (r, τ') ∧ Rel σ' τ' := by
    intro q hq
    obtain ⟨σ', τ', x1, x2, x3⟩ := rb_refR hq R
    refine ⟨-1, σ', τ', by rw [x1, rb_b2_some], ?_, x3⟩
    unfold xj_M_give_43
    rw [x2, rb_b2_some, if_neg (show ¬ (1 : Int32) = 0 by decide)]
  unfold xf_RP_give xf_M_give
  rw [rb_hasG gw1.1 gx1.1, gm1.1]
  simp only [rb_ng gw1.1]
  by_cases h : n = 0
  · simp only [if_pos h, if_true]
    exact ref 0 (by decide)
  · simp only [if_neg h, rb_10, if_false]
    by_cases h1 : p < 1
    · have e : xf_M_in p 1 50 τ = 0 := by unfold xf_M_in; rw [if_pos h1]
      simp only [if_pos h1, e, if_true]
      exact ref 1 (by decide)
    · obtain ⟨j, hj1, hj2, rfl⟩ := rb_lt1 h1
      simp only [if_neg h1]
      by_cases h5 : 50 < j
      · have e : xf_M_in (nI j) 1 50 τ = 0 := rb_inF (b := 50) hj1 (by omega) hj2
        rw [if_pos (show (50 : Int32) < nI j from nI_lt (a := 50) h5 hj2), e, if_pos rfl]
        exact ref 1 (by decide)
      · have e : xf_M_in (nI j) 1 50 τ = 1 := rb_inT (b := 50) hj1 (by omega) (by decide)
        rw [if_neg (show ¬ (50 : Int32) < nI j from nI_nlt (b := j) (a := 50) (by omega) (by decide)), e, if_neg (show ¬ (1 : Int32) = 0 by decide), px1.2.2.1, pm1.2.2.2.1, nI_add, rb_l999]
        by_cases h9 : co + j ≤ 999
        · rw [if_pos (nI_le h9 (by decide)), if_pos (nI_le h9 (by decide))]
          obtain ⟨σ1, τ1, k1, k2, k3, k4, k5⟩ := rb_keep ⟨wh, ln, m, cr, co, be, lg, w, px1, lx1, pm1, lm1⟩ A
          have X1 := px_fr k4 (fun c i w => by omega) px1
          have r17 : τ1.1 17 = τ.1 17 := funext fun i => k5.1 17 i (by omega)
          have M1 : pm n wh ln m cr co be (τ1.1 17) := by rw [r17]; exact pm1
          have fx : rb_fr (fun c i => c = 18 ∧ i = 2) σ1 (rb_sI σ1 18 2 (nI (co + j))) := rb_fr.sI ⟨rfl, rfl⟩
          have fm : rb_fr (fun c i => c = 17 ∧ i = 215) τ1 (rb_sI τ1 17 215 (nI (co + j))) := rb_fr.sI ⟨rfl, rfl⟩
          refine ⟨nI (co + j), rb_sI σ1 18 2 (nI (co + j)), rb_sI τ1 17 215 (nI (co + j)), ?_, ?_, Rel_ac ((k4.mo acX_k).tr (fx.mo (fun c i q => acX_p c i (by omega)))) ((k5.mo acM_k).tr (fm.mo (fun c i q => acM_17 c i (by omega)))) a b ⟨⟨wh, ln, m, cr, co + j, be, lg, ⟨w.1, w.2.1, by omega, w.2.2.2.1, w.2.2.2.2⟩, ⟨rx_wh_fr fx (fun c i q => by omega) X1.1, rx_cr_fr fx (fun c i q => by omega) X1.2.1, rb_sI_eq _ _ _ _, by rw [rb_sIg _ _ _ _ _ _ (by omega)]; exact X1.2.2.2⟩, lgx_co (fun i _ => (fx.1 22 i (by omega)).trans (k4.1 22 i (by omega))) lx1, ⟨fun q hq => (fm.1 17 q (by have := gw1.1; omega)).trans (M1.1 q hq), fun q hq => (fm.1 17 _ (by have := gw1.1; omega)).trans (M1.2.1 q hq), ⟨M1.2.2.1.1, (fm.1 17 14 (by omega)).trans M1.2.2.1.2.1, fun i hi c hc => (fm.1 17 _ (by have := M1.2.2.1.1; omega)).trans (M1.2.2.1.2.2 i hi c hc)⟩, rb_sI_eq _ _ _ _, (fm.1 17 216 (by omega)).trans M1.2.2.2.2⟩, lgm_co (fun i h1 h2 => (fm.1 17 i (by omega)).trans (by rw [r17])) lm1⟩, RAct_fr fx fm (fun c i q => by omega) (fun c i q => by omega) k3⟩⟩
          · rw [k1, rb_b1_some, rb_lt_eq, X1.2.2.1, nI_add, rb_sI_eq]
          · unfold xj_M_give_43
            rw [rb_refuseN, rb_b2_some, if_pos rfl, k2, rb_b1_some, rb_lt_eq, M1.2.2.2.1, nI_add, rb_sI_eq]
        · rw [if_neg (nI_ge (by omega) (by omega)), if_neg (nI_ge (by omega) (by omega))]
          exact ref 1 (by decide)
theorem rb_ops_longer : op_longer Rel := by
  intro σ τ R p q
  obtain ⟨n, ru, tr, lc, ho, La, a, b, ⟨⟨wh, ln, m, cr, co, be, lg, w, px1, lx1, pm1, lm1⟩, A⟩⟩ := id R
  obtain ⟨gw1, -, gx1, gm1, -, -⟩ := id a
  have hco := w.2.2.1
  have h7 := gw1.1
  have ref : ∀ z : Nat, z < 5 → ∃ r σ' τ', rb_b2 (xf_RP_refuse (nI z) σ) (fun r20 s18 => some (r20, s18)) = some (r, σ') ∧ xj_M_longer_60 p q (nI z) τ = some (r, τ') ∧ Rel σ' τ' := by
    intro z hz
    obtain ⟨σ', τ', x1, x2, x3⟩ := rb_refR hz R
    refine ⟨-1, σ', τ', by rw [x1, rb_b2_some], ?_, x3⟩
    unfold xj_M_longer_60
    rw [x2, rb_b2_some, if_neg (show ¬ (1 : Int32) = 0 by decide)]
  unfold xf_RP_longer xf_M_longer
  rcases rb_isD h7 gx1.1 gm1.1 p with ⟨d, hd, rfl, e1, e2⟩ | ⟨e1, e2⟩
  · rw [e1, e2, rb_b1_some, if_neg (show ¬ (1 : Int32) = 0 by decide), if_neg (show ¬ (1 : Int32) = 0 by decide)]
    by_cases h1 : q < 1
    · have e : xf_M_in q 1 20 τ = 0 := by unfold xf_M_in; rw [if_pos h1]
      rw [if_pos h1, e, if_pos rfl]
      exact ref 1 (by decide)
    · obtain ⟨j, hj1, hj2, rfl⟩ := rb_lt1 h1
      rw [if_neg h1]
      by_cases h5 : j ≤ 20
      · have e : xf_M_in (nI j) 1 20 τ = 1 := rb_inT (b := 20) hj1 (by omega) (by decide)
        rw [if_pos (show nI j ≤ (20 : Int32) from nI_le (b := 20) h5 (by decide)), e, if_neg (show ¬ (1 : Int32) = 0 by decide), px1.2.2.1, pm1.2.2.2.1]
        by_cases hc : co < j
        · rw [if_pos (nI_lt hc hj2), if_pos (nI_lt hc hj2)]
          exact ref 3 (by decide)
        · have e7 : (7 : Int32) + nI d = nI (7 + d) := nI_add 7 d
          have hln := w.1.1.2.2.1 d hd
          rw [if_neg (nI_nlt (by omega) (by omega)), if_neg (nI_nlt (by omega) (by omega)), rb_ib_nI (by omega) (by decide), if_pos rfl, e7, rb_ib_nI (by omega) (by decide), if_pos rfl, nI_clamp (by omega), nI_clamp (by omega), px1.1.2.2 d hd, pm1.2.1 d hd, nI_add, rb_l99]
          by_cases h9 : ln d + j ≤ 99
          · rw [if_pos (nI_le h9 (by decide)), if_pos (nI_le h9 (by decide))]
            obtain ⟨σ1, τ1, k1, k2, k3, k4, k5⟩ := rb_keep ⟨wh, ln, m, cr, co, be, lg, w, px1, lx1, pm1, lm1⟩ A
            have X1 := px_fr k4 (fun c i w => by omega) px1
            have r17 : τ1.1 17 = τ.1 17 := funext fun i => k5.1 17 i (by omega)
            have M1 : pm n wh ln m cr co be (τ1.1 17) := by rw [r17]; exact pm1
            obtain ⟨ln', hln'⟩ : ∃ ln' : Nat → Nat, ln' = fun x => if x = d then ln d + j else ln x := ⟨_, rfl⟩
            obtain ⟨s, hs⟩ : ∃ s, s = rb_sI (rb_sI σ1 18 2 (nI (co - j))) 20 d (nI (ln d + j)) := ⟨_, rfl⟩
            obtain ⟨t, ht⟩ : ∃ t, t = rb_sI (rb_sI τ1 17 215 (nI (co - j))) 17 (7 + d) (nI (ln d + j)) := ⟨_, rfl⟩
            have fx : rb_fr (fun c i => (c = 18 ∧ i = 2) ∨ (c = 20 ∧ i = d)) σ1 s := by rw [hs]; exact (rb_fr.sI (by omega)).sI' (by omega)
            have fm : rb_fr (fun c i => c = 17 ∧ (i = 215 ∨ i = 7 + d)) τ1 t := by rw [ht]; exact (rb_fr.sI (by omega)).sI' (by omega)
            have fm2 : ∀ i, i ≠ 215 → i ≠ 7 + d → t.1 17 i = τ1.1 17 i := fun i h1 h2 => fm.1 17 i (by omega)
            refine ⟨nI (ln d + j), s, t, ?_, ?_, Rel_ac ((k4.mo acX_k).tr (fx.mo (fun c i q => acX_p c i (by omega)))) ((k5.mo acM_k).tr (fm.mo (fun c i q => acM_17 c i (by omega)))) a b ⟨⟨wh, ln', m, cr, co - j, be, lg, ⟨⟨⟨w.1.1.1, w.1.1.2.1, fun x hx => ?_, w.1.1.2.2.2⟩, w.1.2⟩, w.2.1, by omega, w.2.2.2.1, w.2.2.2.2⟩, ⟨⟨?_, fun x hx => ?_, fun x hx => ?_⟩, rx_cr_fr fx (fun c i q => by omega) X1.2.1, ?_, ?_⟩, lgx_co (fun i _ => (fx.1 22 i (by omega)).trans (k4.1 22 i (by omega))) lx1, ⟨fun x hx => (fm2 x (by omega) (by omega)).trans (M1.1 x hx), fun x hx => ?_, ⟨M1.2.2.1.1, (fm2 14 (by omega) (by omega)).trans M1.2.2.1.2.1, fun i hi c hc => (fm2 _ (by have := M1.2.2.1.1; omega) (by omega)).trans (M1.2.2.1.2.2 i hi c hc)⟩, ?_, (fm2 216 (by omega) (by omega)).trans M1.2.2.2.2⟩, lgm_co (fun i h1 h2 => (fm2 i (by omega) (by omega)).trans (by rw [r17])) lm1⟩, RAct_fr fx fm (fun c i q => by omega) (fun c i q => by omega) k3⟩⟩
            · have x20 : σ1.1 (18 + 2) d = nI (ln d) := X1.1.2.2 d hd
              rw [k1, rb_b1_some, rb_lt_eq, rb_lt_eq, X1.2.2.1, pk_sub (by omega), rb_sIg σ1 18 2 _ (18 + 2) d (by omega), x20, nI_add, ← hs, hs, rb_sI_eq]
            · unfold xj_M_longer_60
              rw [rb_refuseN, rb_b2_some, if_pos rfl, k2, rb_b1_some, rb_lt_eq, M1.2.2.2.1, pk_sub (by omega), e7, rb_ib_nI (by omega) (by decide), if_pos rfl, rb_lt_eq, nI_clamp (by omega), rb_sIg τ1 17 215 _ 17 (7 + d) (by omega), M1.2.1 d hd, nI_add, ← ht, ht, rb_sI_eq]
            · rw [hln']
              show (if x = d then ln d + j else ln x) < 100
              split
              · omega
              · exact w.1.1.2.2.1 x hx
            · rw [fx.1 18 0 (by omega)]; exact X1.1.1
            · rw [fx.1 19 x (by omega)]; exact X1.1.2.1 x hx
            · show s.1 20 x = nI (ln' x)
              rw [hln']
              show s.1 20 x = nI (if x = d then ln d + j else ln x)
              by_cases hx2 : x = d
              · rw [if_pos hx2, hs, hx2, rb_sI_eq]
              · rw [if_neg hx2, fx.1 20 x (by omega)]; exact X1.1.2.2 x hx
            · rw [hs, rb_sIg _ _ _ _ _ _ (by omega), rb_sI_eq]
            · rw [fx.1 18 3 (by omega)]; exact X1.2.2.2
            · show t.1 17 (7 + x) = nI (ln' x)
              rw [hln']
              show t.1 17 (7 + x) = nI (if x = d then ln d + j else ln x)
              by_cases hx2 : x = d
              · rw [if_pos hx2, ht, hx2, rb_sI_eq]
              · rw [if_neg hx2, fm2 _ (by omega) (by omega)]; exact M1.2.1 x hx
            · rw [ht, rb_sIg _ _ _ _ _ _ (by omega), rb_sI_eq]
          · rw [if_neg (nI_ge (by omega) (by omega)), if_neg (nI_ge (by omega) (by omega))]
            exact ref 3 (by decide)
      · have e : xf_M_in (nI j) 1 20 τ = 0 := rb_inF (b := 20) hj1 (by omega) hj2
        rw [if_neg (show ¬ nI j ≤ (20 : Int32) from nI_ge (a := 20) (by omega) hj2), e, if_pos rfl]
        exact ref 1 (by decide)
  · rw [e1, e2, rb_b1_some, if_pos rfl, if_pos rfl]
    exact ref 0 (by decide)
theorem rb_ops_seen : op_seen Rel := by
  intro σ τ R p q r s hs
  obtain ⟨n, ru, tr, lc, ho, La, a, ⟨⟨fc, fl, ft, b1⟩, b2, ⟨sc, sd, ss, sn, si, s1, s2, s3, s4⟩, b4, b5⟩, c⟩ := id R
  obtain ⟨gw1, -, gx1, gm1, -, -⟩ := id a
  have h7 := gw1.1
  have p0 : σ.1 18 0 = nI n := by
    obtain ⟨⟨wh, ln, m, cr, co, be, lg, w, px1, -⟩, -⟩ := c
    exact px1.1.1
  unfold xf_RP_seen xf_M_seen
  rcases rb_isD h7 gx1.1 gm1.1 p with ⟨d, hd, rfl, e1, e2⟩ | ⟨e1, e2⟩
  · rw [e1, e2, rb_b1_some, if_neg (show ¬ (1 : Int32) = 0 by decide), if_neg (show ¬ (1 : Int32) = 0 by decide)]
    rcases rb_hasP (k := 18) h7 p0 gm1.1 q with ⟨e, he, rfl, e3, e4⟩ | ⟨e3, e4⟩
    · rw [e3, e4, rb_b1_some, if_neg (show ¬ (1 : Int32) = 0 by decide), if_neg (show ¬ (1 : Int32) = 0 by decide)]
      by_cases h1 : r < 1
      · have e : xf_M_in r 1 9 τ = 0 := by unfold xf_M_in; rw [if_pos h1]
        exact ⟨-1, σ, τ, by rw [if_pos h1], by rw [e, if_pos rfl], R⟩
      · obtain ⟨j, hj1, hj2, rfl⟩ := rb_lt1 h1
        rw [if_neg h1]
        by_cases h9 : 9 < j
        · have e : xf_M_in (nI j) 1 9 τ = 0 := rb_inF (b := 9) hj1 (by omega) hj2
          exact ⟨-1, σ, τ, by rw [if_pos (show (9 : Int32) < nI j from nI_lt (a := 9) h9 hj2)], by rw [e, if_pos rfl], R⟩
        · have ein : xf_M_in (nI j) 1 9 τ = 1 := rb_inT (b := 9) hj1 (by omega) (by decide)
          rw [if_neg (show ¬ (9 : Int32) < nI j from nI_nlt (b := j) (a := 9) (by omega) (by decide)), ein, if_neg (show ¬ (1 : Int32) = 0 by decide), s2, s3, rb_l10]
          by_cases hc : sc = 10
          · subst hc
            exact ⟨-1, σ, τ, by rw [if_neg (nI_nlt (by omega) (by decide))], by rw [if_pos rfl], R⟩
          · obtain ⟨z, hz, rfl⟩ : ∃ z, z ≤ 1 ∧ s = nI z := by
              rcases hs with rfl | rfl
              · exact ⟨0, by decide, rfl⟩
              · exact ⟨1, by decide, rfl⟩
            have pk : (nI d ||| (nI e <<< ((3 : Int32) &&& 31))) ||| (nI j <<< ((6 : Int32) &&& 31)) = nI (d + 8 * e + 64 * j) := by
              rw [show (3 : Int32) = nI 3 from rfl, show (6 : Int32) = nI 6 from rfl, rb_shl (by decide), rb_shl (by decide), rb_or, rb_or]
              congr 1
              have x1 : d ||| e * 2 ^ 3 = d + 2 ^ 3 * e := by
                rw [Nat.or_comm, Nat.mul_comm, ← Nat.two_pow_add_eq_or_of_lt (by omega)]
                omega
              rw [x1, Nat.or_comm, Nat.mul_comm j, ← Nat.two_pow_add_eq_or_of_lt (i := 6) (by omega)]
              omega
            obtain ⟨σ', hσ⟩ : ∃ σ', σ' = rb_sI (rb_sI σ 233 sc (nI (d + 8 * e + 64 * j + 1024 * z))) 0 15 (nI (sc + 1)) := ⟨_, rfl⟩
            obtain ⟨τ', hτ⟩ : ∃ τ', τ' = rb_sI (rb_sI (rb_sI (rb_sI (rb_sI τ 29 sc (nI d)) 30 sc (nI e)) 31 sc (nI j)) 32 sc (nI z)) 0 47 (nI (sc + 1)) := ⟨_, rfl⟩
            have fx : rb_fr (fun c i => (c = 0 ∧ i = 15) ∨ (c = 233 ∧ i = sc)) σ σ' := by rw [hσ]; exact (rb_fr.sI (by omega)).sI' (by omega)
            have fm : rb_fr (fun c i => (c = 0 ∧ i = 47) ∨ (29 ≤ c ∧ c ≤ 32 ∧ i = sc)) τ τ' := by rw [hτ]; exact ((((rb_fr.sI (by omega)).sI' (by omega)).sI' (by omega)).sI' (by omega)).sI' (by omega)
            have u : ∀ (v : Nat) (f : Nat → Nat) (i : Nat), (fun i => if i = sc then v else f i) i = if i = sc then v else f i := fun _ _ _ => rfl
            refine ⟨nI (sc + 1), σ', τ', ?_, ?_, n, ru, tr, lc, ho, La, REnv_fr fx fm (fun c i w => by omega) (fun c i w => by omega) a, ⟨⟨fc, fl, ft, RFig_fr fx fm (fun c i w => by omega) (fun c i w => by omega) b1⟩, RTape_fr fx fm (fun c i w => by omega) (fun c i w => by omega) b2, ⟨sc + 1, fun i => if i = sc then d else sd i, fun i => if i = sc then e else ss i, fun i => if i = sc then j else sn i, fun i => if i = sc then z else si i, by omega, by rw [hσ]; exact rb_sI_eq _ _ _ _, by rw [hτ]; exact rb_sI_eq _ _ _ _, fun i hi => ?_⟩, RRef_fr fx fm (fun c i w => by omega) (fun c i w => by omega) b4, RImg_fr fx fm (fun c i w => by omega) (fun c i w => by omega) b5⟩, RPol_fr fx fm (fun c i w => by omega) (fun c i w => by omega) c⟩
            · rw [if_pos (nI_lt (by omega) (by decide)), rb_ib_nI (by omega) (by decide), if_pos rfl, if_pos rfl, nI_clamp (by omega), pk]
              simp only [rb_lt_eq]
              rw [rb_sIg σ 233 sc _ 0 15 (by omega), rb_sIg σ 233 sc _ 0 15 (by omega), s2, nI_1]
              have : z = 0 ∨ z = 1 := by omega
              rcases this with rfl | rfl
              · rw [if_pos (show nI 0 = (0 : Int32) from rfl), Int32.or_zero, hσ, rb_sI_eq, show d + 8 * e + 64 * j + 1024 * 0 = d + 8 * e + 64 * j by omega]
              · have x2 : nI (d + 8 * e + 64 * j) ||| 1024 = nI (d + 8 * e + 64 * j + 1024 * 1) := by
                  rw [rb_l1024, rb_or]
                  congr 1
                  rw [Nat.or_comm]
                  have := Nat.two_pow_add_eq_or_of_lt (i := 10) (b := d + 8 * e + 64 * j) (by omega) 1
                  rw [show 2 ^ 10 * 1 = 1024 from rfl] at this
                  omega
                rw [if_neg (show ¬ nI 1 = (0 : Int32) by decide), x2, hσ, rb_sI_eq]
            · have bz : rb_bz (nI z) = true := by
                have : z = 0 ∨ z = 1 := by omega
                rcases this with rfl | rfl <;> rfl
              have ne : ¬ nI sc = nI 10 := fun h => hc ((nI_eq (by omega) (by decide)).mp h)
              have k3 : ∀ t : rb_St, t.1 0 47 = nI sc → rb_ib (t.1 0 47) 10 = true ∧ (t.1 0 47).toNatClampNeg = sc := fun t ht => by rw [ht]; exact ⟨rb_ib_nI (by omega) (by decide), nI_clamp (by omega)⟩
              rw [if_neg ne, rb_ib_nI (by omega) (by decide), if_pos rfl, nI_clamp (by omega)]
              simp only [rb_lt_eq, rb_sIg _ 29 _ _ 0 47 (show ¬ (0 = 29 ∧ 47 = sc) by omega), rb_sIg _ 30 _ _ 0 47 (show ¬ (0 = 30 ∧ 47 = sc) by omega), rb_sIg _ 31 _ _ 0 47 (show ¬ (0 = 31 ∧ 47 = sc) by omega), rb_sIg _ 32 _ _ 0 47 (show ¬ (0 = 32 ∧ 47 = sc) by omega), s3, rb_ib_nI (show sc < 10 by omega) (by decide), bz, nI_clamp (show sc < 2 ^ 31 by omega), if_true, nI_1, rb_sI_eq]
              rw [hτ]
            · by_cases h : i = sc
              · simp only [if_pos h]
                subst h
                refine ⟨⟨hd, he, hj1, by omega, hz⟩, ?_, ?_, ?_, ?_, ?_⟩
                · rw [hσ, rb_sIg _ _ _ _ _ _ (by omega), rb_sI_eq]
                · rw [hτ, rb_sIg _ _ _ _ _ _ (by omega), rb_sIg _ _ _ _ _ _ (by omega), rb_sIg _ _ _ _ _ _ (by omega), rb_sIg _ _ _ _ _ _ (by omega), rb_sI_eq]
                · rw [hτ, rb_sIg _ _ _ _ _ _ (by omega), rb_sIg _ _ _ _ _ _ (by omega), rb_sIg _ _ _ _ _ _ (by omega), rb_sI_eq]
                · rw [hτ, rb_sIg _ _ _ _ _ _ (by omega), rb_sIg _ _ _ _ _ _ (by omega), rb_sI_eq]
                · rw [hτ, rb_sIg _ _ _ _ _ _ (by omega), rb_sI_eq]
              · simp only [if_neg h]
                obtain ⟨y0, y1, y2, y3, y4, y5⟩ := s4 i (by omega)
                exact ⟨y0, (fx.1 _ _ (by omega)).trans y1, (fm.1 _ _ (by omega)).trans y2, (fm.1 _ _ (by omega)).trans y3, (fm.1 _ _ (by omega)).trans y4, (fm.1 _ _ (by omega)).trans y5⟩
    · exact ⟨-1, σ, τ, by rw [e3, if_pos rfl], by rw [e4, rb_b1_some, if_pos rfl], R⟩
  · exact ⟨-1, σ, τ, by rw [e1, if_pos rfl], by rw [e2, rb_b1_some, if_pos rfl], R⟩
