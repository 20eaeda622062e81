/-! CROSSINGS, BEATS, FIGURES DANCED -/
def RD (n : Nat) (ru tr : Nat → Nat) (lc ho : Nat) (La : Nat → List sp_Cl) (wh ln : Nat → Nat) (m : Nat) (cr : Nat → Nat → Nat) (co be : Nat) (lg : Nat → Nat → Nat) (σ τ : rb_St) : Prop := REnv n ru tr lc ho La σ τ ∧ ROth n σ τ ∧ RAct n σ τ ∧ PW n wh ln m cr co be lg ∧ px 18 n wh ln m cr co be σ ∧ lgx 18 be lg σ ∧ pm n wh ln m cr co be (τ.1 17) ∧ lgm be lg (τ.1 17)
theorem Rel_D {σ τ : rb_St} (R : Rel σ τ) : ∃ n ru tr lc ho La wh ln m cr co be lg, RD n ru tr lc ho La wh ln m cr co be lg σ τ := by
  obtain ⟨n, ru, tr, lc, ho, La, a, b, ⟨⟨wh, ln, m, cr, co, be, lg, w, p, l, q, r⟩, A⟩⟩ := R
  exact ⟨n, ru, tr, lc, ho, La, wh, ln, m, cr, co, be, lg, a, b, A, w, p, l, q, r⟩
section RBD
variable {n lc ho m co be l : Nat} {ru tr wh ln : Nat → Nat} {La : Nat → List sp_Cl} {cr lg : Nat → Nat → Nat} {σ σ' τ τ' : rb_St}
theorem RD_Rel (D : RD n ru tr lc ho La wh ln m cr co be lg σ τ) : Rel σ τ := by
  obtain ⟨a, b, A, w, p, l, q, r⟩ := D
  exact ⟨n, ru, tr, lc, ho, La, a, b, ⟨⟨wh, ln, m, cr, co, be, lg, w, p, l, q, r⟩, A⟩⟩
theorem RD_fr (hx : rb_fr scX σ σ') (hm : rb_fr scM τ τ') (D : RD n ru tr lc ho La wh ln m cr co be lg σ τ) : RD n ru tr lc ho La wh ln m cr co be lg σ' τ' := by
  obtain ⟨a, b, A, w, p, l, q, r⟩ := D
  have r17 : ∀ i, τ'.1 17 i = τ.1 17 i := fun i => hm.1 17 i (by unfold scM; omega)
  have e17 : τ'.1 17 = τ.1 17 := funext r17
  have x18 : ∀ c i, 18 ≤ c → c ≤ 22 → σ'.1 c i = σ.1 c i := fun c i h1 h2 => hx.1 c i (by unfold scX sc_law; omega)
  refine ⟨REnv_fr hx hm (fun c i w => by unfold scX sc_law at w; omega) (fun c i w => by unfold scM at w; omega) a, ROth_fr hx hm (fun c i w => by unfold scX sc_law at w; omega) (fun c i w => by unfold scM at w; omega) b, RAct_fr hx hm (fun c i w => by unfold scX sc_law at w; omega) (fun c i w => by unfold scM at w; omega) A, w, ?_, ?_, by rw [e17]; exact q, by rw [e17]; exact r⟩
  · exact px_co w.1.1.1 w.1.2.2.1.2.1 (fun i _ => x18 18 i (by omega) (by omega)) (fun i _ => x18 19 i (by omega) (by omega)) (fun i _ => x18 20 i (by omega) (by omega)) (fun i _ => x18 21 i (by omega) (by omega)) p
  · exact lgx_co (fun i _ => x18 22 i (by omega) (by omega)) l
theorem scX_law (c i : Nat) (h : sc_law c i) : scX c i := Or.inr (Or.inr (Or.inr h))
theorem scM_9 (c i : Nat) (h : sc_9 c i) : scM c i := Or.inr (Or.inl (by unfold sc_9 at h; omega))
theorem rb_beatD (D : RD n ru tr lc ho La wh ln m cr co be lg σ τ) (hbe : be < 999) (hl : l < 2 * n) (hd : sp_hd n wh ln m cr l (sp_pr n ru tr ho La wh m cr be l) = 0) : ∃ u σ' τ1 τ', xf_RP_takeBeat (nI l) σ = some (u, σ') ∧ xf_M_keep τ = some τ1 ∧ xf_M_passBeat (nI l) τ1 = some (u, τ') ∧ Rel σ' τ' ∧ rb_fr acX σ σ' ∧ rb_fr acM τ τ' ∧ rb_fr acM τ τ1 ∧ σ'.1 18 3 = nI (be + 1) := by
  obtain ⟨a, b, A, w, p, l, q, r⟩ := D
  exact rb_beat a b A w p l q r hbe hl hd
theorem rb_beat20D {x : Nat} (D : RD n ru tr lc ho La wh ln m cr co be lg σ τ) (hbe : be < 999) (hx : x < 2 ^ 31) (hx2 : 2 * n ≤ x) : ∃ σ' τ1 τ', xf_RP_takeBeat (nI x) σ = some (0, σ') ∧ xf_M_keep τ = some τ1 ∧ xf_M_passBeat 20 τ1 = some (0, τ') ∧ Rel σ' τ' ∧ rb_fr acX σ σ' ∧ rb_fr acM τ τ' ∧ rb_fr acM τ τ1 ∧ σ'.1 18 3 = nI (be + 1) := by
  obtain ⟨a, b, A, w, p, l, q, r⟩ := D
  exact rb_beat20 a b A w p l q r hbe hx hx2
/-- what hinders, in both -/
theorem rb_hind (D : RD n ru tr lc ho La wh ln m cr co be lg σ τ) (hl : l < 2 * n) : ∃ σ1 τ1 τ2, xf_RP_hindranceOf (nI l) σ = some (nI (sp_hd n wh ln m cr l (sp_pr n ru tr ho La wh m cr be l)), σ1) ∧ xf_M_isShort (nI l) τ = some (if sp_hd n wh ln m cr l (sp_pr n ru tr ho La wh m cr be l) = 2 then 1 else 0, τ1) ∧ xf_M_canCross (nI l) τ = some (if sp_hd n wh ln m cr l (sp_pr n ru tr ho La wh m cr be l) = 0 then 1 else 0, τ2) ∧ rb_fr scX σ σ1 ∧ rb_fr scM τ τ1 ∧ rb_fr scM τ τ2 := by
  obtain ⟨⟨G, W, g, gM, w, wM⟩, b, A, P, p, -, q, r⟩ := D
  have hbe := P.2.2.2.1
  obtain ⟨σ1, x1, x2⟩ := sx_hindranceOf G W P.1 g w p.1 p.2.1 p.2.2.2 (by omega) hl
  obtain ⟨τ1, y1, y2⟩ := sm_isShort G W P.1 gM wM (pm_wh G.1 gM.1 q) q.2.2.1 q.2.2.2.2 (by omega) hl
  obtain ⟨τ2, z1, z2⟩ := sm_canCross G W P.1 gM wM (pm_wh G.1 gM.1 q) q.2.2.1 q.2.2.2.2 (by omega) hl
  exact ⟨σ1, τ1, τ2, x1, y1, z1, x2.mo scX_law, y2.mo scM_9, z2.mo scM_9⟩
theorem rb_full (D : RD n ru tr lc ho La wh ln m cr co be lg σ τ) (hl : l < 2 * n) : xf_M_isFull (nI l) τ = some (if sp_un n cr l m = 0 ∧ m = 40 then 1 else 0) := by
  obtain ⟨⟨G, W, g, gM, w, wM⟩, b, A, P, p, -, q, r⟩ := D
  exact sm_isFull P.1 (pm_wh G.1 gM.1 q) q.2.2.1 hl
theorem sm_over (h : τ.1 17 216 = nI be) (hb : be ≤ 999) : xf_M_isOver τ = if be < 999 then 0 else 1 := by
  unfold xf_M_isOver
  rw [h, rb_l999]
  by_cases q : be < 999
  · rw [if_pos q, if_pos (nI_lt q (by decide))]
  · rw [if_neg q, if_neg (nI_nlt (by omega) (by omega))]
end RBD
theorem rb_ops_beat : op_beat Rel := by
  intro σ τ R
  obtain ⟨n, ru, tr, lc, ho, La, wh, ln, m, cr, co, be, lg, D⟩ := Rel_D R
  obtain ⟨⟨gw1, -, gx1, gm1, -, -⟩, b, A, P, p, -, q, r⟩ := id D
  have h7 := gw1.1
  have hbe := P.2.2.2.1
  have ref : ∀ z : Nat, z < 5 → ∃ r σ' τ', rb_b2 (xf_RP_refuse (nI z) σ) (fun r20 s18 => some (r20, s18)) = some (r, σ') ∧ xj_M_beat_24 (nI z) τ = some (r, τ') ∧ Rel σ' τ' := by
    intro z hz
    obtain ⟨σ', τ', x1, x2, x3⟩ := rb_refR hz R
    refine ⟨-1, σ', τ', by rw [x1, rb_b2_some], ?_, x3⟩
    unfold xj_M_beat_24
    rw [x2, rb_b2_some, if_neg (show ¬ (1 : Int32) = 0 by decide)]
  unfold xf_RP_beat xf_M_beat
  rw [rb_hasG h7 gx1.1, gm1.1, sm_over q.2.2.2.2 hbe, p.2.2.2, rb_l999]
  simp only [rb_ng h7]
  by_cases h : n = 0
  · simp only [if_pos h, if_true]
    exact ref 0 (by decide)
  · simp only [if_neg h, rb_10, if_false]
    by_cases h9 : be < 999
    · obtain ⟨σ', τ1, τ', x1, x2, x3, x4, x5, x6, x7, x8⟩ := rb_beat20D (x := 20) D h9 (by decide) (by omega)
      have x1' : xf_RP_takeBeat 20 σ = some (0, σ') := x1
      refine ⟨nI (be + 1), σ', τ', ?_, ?_, x4⟩
      · rw [if_pos (nI_lt h9 (by decide)), x1', rb_b2_some, x8]
      · simp only [if_pos h9, if_true]
        unfold xj_M_beat_24
        rw [rb_refuseN, rb_b2_some, if_pos rfl, x2, rb_b1_some, x3, rb_b2_some]
        obtain ⟨n', ru', tr', lc', ho', La', -, -, ⟨⟨wh', ln', m', cr', co', be', lg', w', p', -, q', -⟩, -⟩⟩ := x4
        have e : nI be' = nI (be + 1) := p'.2.2.2.symm.trans x8
        rw [q'.2.2.2.2, e]
    · rw [if_neg (nI_nlt (by omega) (by omega))]
      simp only [if_neg h9, rb_10, if_false]
      exact ref 4 (by decide)
/-- a crossing, told by its letter -/
theorem rb_crossl {σ τ : rb_St} (R : Rel σ τ) {n s l : Nat} {u0 u1 : Int32} (h15 : σ.1 15 2 = nI n) (h18 : σ.1 18 0 = nI n) (h22 : τ.1 0 22 = nI n) (hn : n ≤ 7) (hs : s < n) (hl : l < 2 * n) (hu : u1 + u0 = nI l) : ∃ r σ' τ', (rb_b2 (xf_RP_hindranceOf (nI l) σ) fun r5 s3 => if r5 = 0 then if (s3.1 18 3) < 999 then rb_b2 (xf_RP_takeBeat (nI l) s3) (fun r10 s8 => some (r10, s8)) else rb_b2 (xf_RP_refuse 4 s3) (fun r13 s11 => some (r13, s11)) else rb_b2 (xf_RP_refuse r5 s3) (fun r16 s14 => some (r16, s14))) = some (r, σ') ∧ xj_M_cross_12 (nI s) u0 u1 τ = some (r, τ') ∧ Rel σ' τ' := by
  obtain ⟨n', ru, tr, lc, ho, La, wh, ln, m, cr, co, be, lg, D⟩ := Rel_D R
  obtain ⟨⟨gw1, -, gx1, gm1, -, -⟩, b, A, P, p, -, q, r⟩ := id D
  have en : n' = n := (nI_eq (by have := gw1.1; omega) (by omega)).mp (gx1.1.symm.trans h15)
  subst en
  have hbe := P.2.2.2.1
  obtain ⟨σ1, τ1, -, x1, y1, -, x2, y2, -⟩ := rb_hind D hl
  have D1 := RD_fr x2 y2 D
  have R1 := RD_Rel D1
  obtain ⟨-, b1, A1, P1, p1, -, q1, r1⟩ := id D1
  have isD : xf_M_isDancer (nI s) τ = some 1 := by
    rcases rb_isD hn gx1.1 gm1.1 (nI s) with ⟨d, hd, e0, e1, e2⟩ | ⟨e1, e2⟩
    · exact e2
    · unfold xf_RP_isDancer at e1
      rw [gx1.1, if_neg (nI_pos (by omega)), if_neg (nI_ge hs (by omega))] at e1
      exact absurd e1 (by decide)
  have M1 : xj_M_cross_12 (nI s) u0 u1 τ = if sp_hd n' wh ln m cr l (sp_pr n' ru tr ho La wh m cr be l) = 2 then rb_b2 (xf_M_isRefused 2 τ1) (fun r43 s41 => if r43 = 0 then rb_b1 (xf_M_keep s41) (fun s45 => rb_b2 (xf_M_passBeat (nI l) s45) fun r49 s47 => some (r49, s47)) else some ((-1), s41)) else if sp_un n' cr l m = 0 ∧ m = 40 then rb_b2 (xf_M_isRefused 3 τ1) (fun r43 s41 => if r43 = 0 then rb_b1 (xf_M_keep s41) (fun s45 => rb_b2 (xf_M_passBeat (nI l) s45) fun r49 s47 => some (r49, s47)) else some ((-1), s41)) else if be < 999 then rb_b2 (xf_M_isRefused (-1) τ1) (fun r43 s41 => if r43 = 0 then rb_b1 (xf_M_keep s41) (fun s45 => rb_b2 (xf_M_passBeat (nI l) s45) fun r49 s47 => some (r49, s47)) else some ((-1), s41)) else rb_b2 (xf_M_isRefused 4 τ1) (fun r43 s41 => if r43 = 0 then rb_b1 (xf_M_keep s41) (fun s45 => rb_b2 (xf_M_passBeat (nI l) s45) fun r49 s47 => some (r49, s47)) else some ((-1), s41)) := by
    unfold xj_M_cross_12
    rw [gm1.1, if_neg (nI_ne0 (by omega) (by omega)), isD, rb_b1_some, if_neg (show ¬ (1 : Int32) = 0 by decide), hu, y1, rb_b2_some]
    by_cases h2 : sp_hd n' wh ln m cr l (sp_pr n' ru tr ho La wh m cr be l) = 2
    · rw [if_pos h2, if_pos h2, if_neg (show ¬ (1 : Int32) = 0 by decide)]
    · rw [if_neg h2, if_neg h2, if_pos rfl, rb_full D1 hl, rb_b1_some]
      by_cases h3 : sp_un n' cr l m = 0 ∧ m = 40
      · rw [if_pos h3, if_pos h3, if_neg (show ¬ (1 : Int32) = 0 by decide)]
      · rw [if_neg h3, if_neg h3, if_pos rfl, sm_over q1.2.2.2.2 hbe]
        by_cases h9 : be < 999
        · rw [if_pos h9, if_pos h9, if_pos rfl]
        · rw [if_neg h9, if_neg h9, if_neg (show ¬ (1 : Int32) = 0 by decide)]
  rw [M1, x1, rb_b2_some]
  have ref : ∀ z : Nat, z < 5 → ∃ r σ' τ', rb_b2 (xf_RP_refuse (nI z) σ1) (fun r20 s18 => some (r20, s18)) = some (r, σ') ∧ rb_b2 (xf_M_isRefused (nI z) τ1) (fun r43 s41 => if r43 = 0 then rb_b1 (xf_M_keep s41) (fun s45 => rb_b2 (xf_M_passBeat (nI l) s45) fun r49 s47 => some (r49, s47)) else some ((-1), s41)) = some (r, τ') ∧ Rel σ' τ' := by
    intro z hz
    obtain ⟨σ', τ', x1, x2, x3⟩ := rb_refR hz R1
    exact ⟨-1, σ', τ', by rw [x1, rb_b2_some], by rw [x2, rb_b2_some, if_neg (show ¬ (1 : Int32) = 0 by decide)], x3⟩
  have h3 := sp_hd_3 (n := n') (wh := wh) (ln := ln) (m := m) (cr := cr) (l := l) (t := sp_pr n' ru tr ho La wh m cr be l)
  rcases sp_hd_c (n := n') (wh := wh) (ln := ln) (m := m) (cr := cr) (l := l) (t := sp_pr n' ru tr ho La wh m cr be l) with h | h | h
  · have hne : ¬ (sp_un n' cr l m = 0 ∧ m = 40) := fun e => by have := (h3 (by omega) P.2.1).mpr e; omega
    rw [if_pos (show nI (sp_hd n' wh ln m cr l (sp_pr n' ru tr ho La wh m cr be l)) = 0 by rw [h]; rfl), if_neg (show ¬ sp_hd n' wh ln m cr l (sp_pr n' ru tr ho La wh m cr be l) = 2 by omega), if_neg hne, p1.2.2.2, rb_l999]
    by_cases h9 : be < 999
    · rw [if_pos (nI_lt h9 (by decide)), if_pos h9]
      obtain ⟨u, σ', τ2, τ', z1, z2, z3, z4, -, -, -, -⟩ := rb_beatD D1 h9 hl h
      exact ⟨u, σ', τ', by rw [z1, rb_b2_some], by rw [rb_refuseN, rb_b2_some, if_pos rfl, z2, rb_b1_some, z3, rb_b2_some], z4⟩
    · rw [if_neg (nI_nlt (by omega) (by omega)), if_neg h9]
      exact ref 4 (by decide)
  · rw [h, if_neg (show ¬ nI 2 = (0 : Int32) by decide), if_pos rfl]
    exact ref 2 (by decide)
  · rw [if_neg (show ¬ sp_hd n' wh ln m cr l (sp_pr n' ru tr ho La wh m cr be l) = 2 by omega), if_pos ((h3 (by omega) P.2.1).mp h), h, if_neg (show ¬ nI 3 = (0 : Int32) by decide)]
    exact ref 3 (by decide)
theorem rb_ops_cross : op_cross Rel := by
  intro σ τ R p q hq
  obtain ⟨n, ru, tr, lc, ho, La, wh, ln, m, cr, co, be, lg, D⟩ := Rel_D R
  obtain ⟨⟨gw1, -, gx1, gm1, -, -⟩, b, A, P, px1, -, pm1, -⟩ := id D
  have h7 := gw1.1
  unfold xf_RP_cross xf_M_cross
  rw [rb_hasG h7 gx1.1]
  by_cases h : n = 0
  · simp only [if_pos h, if_true]
    obtain ⟨σ', τ', x1, x2, x3⟩ := rb_refR (q := 0) (by decide) R
    have x1' : xf_RP_refuse 0 σ = some (-1, σ') := x1
    have x2' : xf_M_isRefused 0 τ = some (1, τ') := x2
    have hh : ∀ a b c, xj_M_cross_12 a b c τ = some (-1, τ') := by
      intro a b c
      unfold xj_M_cross_12
      rw [gm1.1, h, if_pos (show nI 0 = (0 : Int32) from rfl), x2', rb_b2_some, if_neg (show ¬ (1 : Int32) = 0 by decide)]
    refine ⟨-1, σ', τ', by rw [x1', rb_b2_some], ?_, x3⟩
    by_cases hq0 : q = 0
    · rw [if_pos hq0]; exact hh _ _ _
    · rw [if_neg hq0]; exact hh _ _ _
  · simp only [if_neg h, rb_10, if_false]
    rcases rb_hasP (k := 18) h7 px1.1.1 gm1.1 p with ⟨s, hs, rfl, e1, e2⟩ | ⟨e1, e2⟩
    · rw [e1, if_neg (show ¬ (1 : Int32) = 0 by decide)]
      have e0 : (2 : Int32) * nI s = nI (2 * s) := by rw [rb_l2, pk_mul]
      unfold xf_RP_letterOf
      rw [e0]
      by_cases hq0 : q = 0
      · rw [if_pos hq0, if_pos hq0, nI_1]
        exact rb_crossl R (n := n) (l := 2 * s + 1) gx1.1 px1.1.1 gm1.1 h7 hs (by omega) (nI_1 _)
      · rw [if_neg hq0, if_neg hq0]
        exact rb_crossl R (n := n) (l := 2 * s) gx1.1 px1.1.1 gm1.1 h7 hs (by omega) (Int32.add_zero _)
    · rw [e1, if_pos rfl]
      obtain ⟨σ', τ', x1, x2, x3⟩ := rb_refR (q := 1) (by decide) R
      have x1' : xf_RP_refuse 1 σ = some (-1, σ') := x1
      have x2' : xf_M_isRefused 1 τ = some (1, τ') := x2
      have hh : ∀ b c, xj_M_cross_12 p b c τ = some (-1, τ') := by
        intro b c
        unfold xj_M_cross_12
        rw [gm1.1, if_neg (nI_ne0 (by omega) (by omega)), e2, rb_b1_some, if_pos rfl, x2', rb_b2_some, if_neg (show ¬ (1 : Int32) = 0 by decide)]
      refine ⟨-1, σ', τ', by rw [x1', rb_b2_some], ?_, x3⟩
      by_cases hq0 : q = 0
      · rw [if_pos hq0]; exact hh _ _
      · rw [if_neg hq0]; exact hh _ _
/-- what a crossing takes, in both -/
theorem rb_takesD {n lc ho m co be l : Nat} {ru tr wh ln : Nat → Nat} {La : Nat → List sp_Cl} {cr lg : Nat → Nat → Nat} {σ τ : rb_St} (D : RD n ru tr lc ho La wh ln m cr co be lg σ τ) (hl : l < 2 * n) : ∃ σ' τ', xf_RP_priceOn 18 (nI l) σ = some (nI (sp_pr n ru tr ho La wh m cr be l), σ') ∧ xf_M_takesBy (nI l) τ = some (nI (sp_pr n ru tr ho La wh m cr be l), τ') ∧ rb_fr scX σ σ' ∧ rb_fr scM τ τ' := by
  obtain ⟨⟨G, W, g, gM, w, wM⟩, b, A, P, p, -, q, r⟩ := D
  have hbe := P.2.2.2.1
  obtain ⟨σ1, x1, x2⟩ := sx_price G W P.1.1 P.1.2.2.1 g w p.1 p.2.1 p.2.2.2 (by omega) hl
  obtain ⟨τ1, y1, y2⟩ := sm_price G W P.1.1 P.1.2.2.1 gM wM (pm_wh G.1 gM.1 q) q.2.2.1 q.2.2.2.2 (by omega) hl
  exact ⟨σ1, τ1, x1, y1, x2.mo scX_law, y2.mo scM_9⟩
theorem rb_ops_takes : op_takes Rel := by
  intro σ τ R p q hq
  obtain ⟨n, ru, tr, lc, ho, La, wh, ln, m, cr, co, be, lg, D⟩ := Rel_D R
  obtain ⟨⟨gw1, -, gx1, gm1, -, -⟩, b, A, P, px1, -, pm1, -⟩ := id D
  have h7 := gw1.1
  unfold xf_RP_takes xf_M_takes
  rcases rb_hasP (k := 18) h7 px1.1.1 gm1.1 p with ⟨s, hs, rfl, e1, e2⟩ | ⟨e1, e2⟩
  · rw [e1, e2, rb_b1_some, if_neg (show ¬ (1 : Int32) = 0 by decide), if_neg (show ¬ (1 : Int32) = 0 by decide)]
    have e0 : (2 : Int32) * nI s = nI (2 * s) := by rw [rb_l2, pk_mul]
    unfold xf_RP_letterOf
    rw [e0, Int32.add_zero, nI_1]
    by_cases hq0 : q = 0
    · rw [if_pos hq0, if_pos hq0]
      obtain ⟨σ', τ', x1, x2, x3, x4⟩ := rb_takesD (l := 2 * s + 1) D (by omega)
      exact ⟨_, σ', τ', by rw [x1, rb_b2_some], by rw [x2, rb_b2_some], Rel_fr x3 x4 R⟩
    · rw [if_neg hq0, if_neg hq0]
      obtain ⟨σ', τ', x1, x2, x3, x4⟩ := rb_takesD (l := 2 * s) D (by omega)
      exact ⟨_, σ', τ', by rw [x1, rb_b2_some], by rw [x2, rb_b2_some], Rel_fr x3 x4 R⟩
  · exact ⟨-1, σ, τ, by rw [e1, if_pos rfl], by rw [e2, rb_b1_some, if_pos rfl], R⟩
