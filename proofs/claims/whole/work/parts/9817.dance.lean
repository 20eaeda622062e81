theorem acX_fig (c i : Nat) (q : acX c i) : ¬ ((c = 0 ∧ i = 12) ∨ (256 ≤ c ∧ c < 268)) := by
  unfold acX scX sc_law at q
  omega
theorem acM_fig (c i : Nat) (q : acM c i) : ¬ ((c = 0 ∧ i = 25) ∨ (c = 15 ∧ i < 288) ∨ (c = 16 ∧ i < 6)) := by
  unfold acM scM at q
  omega
theorem acM_22 (i : Nat) (h : i = 22) : ¬ acM 0 i := by
  unfold acM scM
  omega
theorem sm_stepOf {fc j n i : Nat} {fl : Nat → Nat} {ft : Nat → Nat → Nat} {σ τ : rb_St} (F : RFig fc fl ft σ τ) (hj : j < fc) (h22 : τ.1 0 22 = nI n) (hn : n ≤ 7) (hi : i < fl j) : xf_M_stepOf (nI j) (nI i) τ = some (if ft j i < 2 * n then nI (ft j i) else 20) := by
  obtain ⟨e1, e2, e3, e4⟩ := F.2.2.2 j hj
  obtain ⟨g1, g2, g3⟩ := e4 i hi
  have hf := F.1
  have e48 : (48 : Int32) * nI j + nI i = nI (48 * j + i) := by rw [rb_l48, pk_mul, nI_add]
  have e5 : nI (ft j i) / (2 : Int32) = nI (ft j i / 2) := pk_div (d := 2) (by omega) (by decide) (by decide)
  unfold xf_M_stepOf
  rw [e48, rb_ib_nI (by omega) (by decide), if_pos rfl, rb_lt_eq, nI_clamp (by omega), g3, h22, e5]
  by_cases h : ft j i < 2 * n
  · rw [if_neg (nI_ge (by omega) (by omega)), if_pos h]
  · rw [if_pos (nI_le (by omega) (by omega)), if_neg h]
theorem rb_dancel {fc j : Nat} {fl : Nat → Nat} {ft : Nat → Nat → Nat} (hj : j < fc) : ∀ (d i f g : Nat) (σ τ : rb_St), i + d = fl j → Rel σ τ → RFig fc fl ft σ τ → d < f → d < g → ∃ t y σ' τ', xl_RP_dance_49 (256 + 2 * j) f (nI i) σ = some (t, nI y, σ') ∧ xl_M_dance_35 (nI j) g (nI i) τ = some (nI y, τ') ∧ Rel σ' τ' ∧ σ'.1 (256 + 2 * j) 1 = nI (fl j) ∧ (t = 0 ∨ y = fl j) := by
  intro d
  induction d with
  | zero =>
    intro i f g σ τ hi R F hf hg
    obtain ⟨f, rfl⟩ : ∃ q, f = q + 1 := ⟨f - 1, by omega⟩
    obtain ⟨g, rfl⟩ : ∃ q, g = q + 1 := ⟨g - 1, by omega⟩
    obtain ⟨e1, e2, e3, e4⟩ := F.2.2.2 j hj
    have hf6 := F.1
    refine ⟨1, i, σ, τ, ?_, ?_, R, e2, Or.inr (by omega)⟩
    · show (if (σ.1 (256 + 2 * j) 1) ≤ nI i then some (1, nI i, σ) else _) = _
      rw [e2, if_pos (nI_le (by omega) (by omega))]
    · show (if rb_ib (nI j) 7 then if (τ.1 16 (nI j).toNatClampNeg) ≤ nI i then some (nI i, τ) else _ else none) = _
      rw [rb_ib_nI (by omega) (by decide), if_pos rfl, nI_clamp (by omega), e3, if_pos (nI_le (by omega) (by omega))]
  | succ d ih =>
    intro i f g σ τ hi R F hf hg
    obtain ⟨f, rfl⟩ : ∃ q, f = q + 1 := ⟨f - 1, by omega⟩
    obtain ⟨g, rfl⟩ : ∃ q, g = q + 1 := ⟨g - 1, by omega⟩
    obtain ⟨e1, e2, e3, e4⟩ := F.2.2.2 j hj
    have hf6 := F.1
    obtain ⟨L20, -, -⟩ := e4 i (by omega)
    obtain ⟨n, ru, tr, lc, ho, La, wh, ln, m, cr, co, be, lg, D⟩ := Rel_D R
    obtain ⟨⟨gw1, -, gx1, gm1, -, -⟩, b, A, P, px1, -, pm1, -⟩ := id D
    have h7 := gw1.1
    have hbe := P.2.2.2.1
    have xs : xl_RP_dance_49 (256 + 2 * j) (f + 1) (nI i) σ = if 999 ≤ nI be then some (0, nI i, σ) else if (if ft j i < 2 * n then (1 : Int32) else 0) = 0 then rb_b2 (xf_RP_takeBeat (nI (ft j i)) σ) (fun r17 s15 => xl_RP_dance_49 (256 + 2 * j) f (nI (i + 1)) s15) else rb_b2 (xf_RP_hindranceOf (nI (ft j i)) σ) (fun r20 s18 => if r20 = 0 then rb_b2 (xf_RP_takeBeat (nI (ft j i)) s18) (fun r24 s22 => xl_RP_dance_49 (256 + 2 * j) f (nI (i + 1)) s22) else some (0, nI i, s18)) := by
      show (if (σ.1 (256 + 2 * j) 1) ≤ nI i then _ else rb_b1 (xf_Fig_letterAt (256 + 2 * j) (nI i) σ) (fun r11 => if 999 ≤ (σ.1 18 3) then some (0, nI i, σ) else if (xf_Pole_hasPlace 18 (r11 >>> (1 &&& 31)) σ) = 0 then rb_b2 (xf_RP_takeBeat r11 σ) (fun r17 s15 => xl_RP_dance_49 (256 + 2 * j) f (nI i + 1) s15) else rb_b2 (xf_RP_hindranceOf r11 σ) (fun r20 s18 => if r20 = 0 then rb_b2 (xf_RP_takeBeat r11 s18) (fun r24 s22 => xl_RP_dance_49 (256 + 2 * j) f (nI i + 1) s22) else some (0, nI i, s18)))) = _
      rw [e2, if_neg (nI_ge (by omega) (by omega)), sx_letterAt F hj (by omega), rb_b1_some, px1.2.2.2, sx_hasl h7 px1.1.1 (by omega), nI_1]
    have ms : xl_M_dance_35 (nI j) (g + 1) (nI i) τ = if be < 999 then rb_b2 (xf_M_canStep (if ft j i < 2 * n then nI (ft j i) else 20) τ) (fun r14 s12 => if r14 = 0 then some (nI i, s12) else rb_b1 (xf_M_keep s12) (fun s16 => rb_b1 (xf_M_stepOf (nI j) (nI i) s16) (fun r18 => rb_b2 (xf_M_passBeat r18 s16) (fun r22 s20 => xl_M_dance_35 (nI j) g (nI (i + 1)) s20)))) else some (nI i, τ) := by
      show (if rb_ib (nI j) 7 then if (τ.1 16 (nI j).toNatClampNeg) ≤ nI i then _ else if (xf_M_isOver τ) = 0 then rb_b1 (xf_M_stepOf (nI j) (nI i) τ) (fun r10 => rb_b2 (xf_M_canStep r10 τ) (fun r14 s12 => if r14 = 0 then some (nI i, s12) else rb_b1 (xf_M_keep s12) (fun s16 => rb_b1 (xf_M_stepOf (nI j) (nI i) s16) (fun r18 => rb_b2 (xf_M_passBeat r18 s16) (fun r22 s20 => xl_M_dance_35 (nI j) g (nI i + 1) s20))))) else some (nI i, τ) else none) = _
      rw [rb_ib_nI (by omega) (by decide), if_pos rfl, nI_clamp (by omega), e3, if_neg (nI_ge (by omega) (by omega)), sm_over pm1.2.2.2.2 hbe, sm_stepOf F hj gm1.1 h7 (by omega), rb_b1_some, nI_1]
      by_cases h9 : be < 999
      · rw [if_pos h9, if_pos h9, if_pos rfl]
      · rw [if_neg h9, if_neg h9, if_neg (show ¬ (1 : Int32) = 0 by decide)]
    rw [xs, ms]
    by_cases h9 : be < 999
    · rw [if_neg (show ¬ (999 : Int32) ≤ nI be from nI_ge (b := 999) h9 (by decide)), if_pos h9]
      by_cases hL : ft j i < 2 * n
      · simp only [if_pos hL, rb_10, if_false]
        obtain ⟨σ1, -, τ1, x1, -, y1, x2, -, y2⟩ := rb_hind D hL
        have D1 := RD_fr x2 y2 D
        have c1 : xf_M_canStep (nI (ft j i)) τ = some (if sp_hd n wh ln m cr (ft j i) (sp_pr n ru tr ho La wh m cr be (ft j i)) = 0 then 1 else 0, τ1) := by
          unfold xf_M_canStep
          rw [if_neg (fun e => by have := (nI_eq (b := 20) (by omega) (by decide)).mp e; omega), y1, rb_b2_some]
          by_cases h0 : sp_hd n wh ln m cr (ft j i) (sp_pr n ru tr ho La wh m cr be (ft j i)) = 0
          · rw [if_pos h0, if_neg (show ¬ (1 : Int32) = 0 by decide)]
          · rw [if_neg h0, if_pos rfl]
        rw [x1, rb_b2_some, c1, rb_b2_some]
        by_cases h0 : sp_hd n wh ln m cr (ft j i) (sp_pr n ru tr ho La wh m cr be (ft j i)) = 0
        · obtain ⟨u, σ2, τ2, τ3, z1, z2, z3, z4, z5, z6, z7, -⟩ := rb_beatD D1 h9 hL h0
          have F1 := RFig_fr x2 y2 (fun c i q => acX_fig c i (Or.inl q)) (fun c i q => acM_fig c i (Or.inl q)) F
          have F2 := RFig_fr (rb_fr.rf (ch := acX) (σ := σ1)) z7 acX_fig acM_fig F1
          have F3 := RFig_fr z5 z6 acX_fig acM_fig F1
          have h22 : τ2.1 0 22 = nI n := by rw [z7.1 0 22 (acM_22 22 rfl)]; exact D1.1.2.2.2.1.1
          rw [if_pos (show nI (sp_hd n wh ln m cr (ft j i) (sp_pr n ru tr ho La wh m cr be (ft j i))) = 0 by rw [h0]; rfl), z1, rb_b2_some, if_pos h0, if_neg (show ¬ (1 : Int32) = 0 by decide), z2, rb_b1_some, sm_stepOf F2 hj h22 h7 (by omega), rb_b1_some, if_pos hL, z3, rb_b2_some]
          exact ih (i + 1) f g σ2 τ3 (by omega) z4 F3 (by omega) (by omega)
        · have hc := sp_hd_c (n := n) (wh := wh) (ln := ln) (m := m) (cr := cr) (l := ft j i) (t := sp_pr n ru tr ho La wh m cr be (ft j i))
          rw [if_neg (nI_ne0 (by omega) (by omega)), if_neg h0, if_pos rfl]
          exact ⟨0, i, σ1, τ1, rfl, rfl, RD_Rel D1, by rw [x2.1 _ _ (by unfold scX sc_law; omega)]; exact e2, Or.inl rfl⟩
      · simp only [if_neg hL, if_true]
        obtain ⟨σ2, τ2, τ3, z1, z2, z3, z4, z5, z6, z7, -⟩ := rb_beat20D (x := ft j i) D h9 (by omega) (by omega)
        have F2 := RFig_fr (rb_fr.rf (ch := acX) (σ := σ)) z7 acX_fig acM_fig F
        have F3 := RFig_fr z5 z6 acX_fig acM_fig F
        have h22 : τ2.1 0 22 = nI n := by rw [z7.1 0 22 (acM_22 22 rfl)]; exact gm1.1
        have c1 : xf_M_canStep 20 τ = some (1, τ) := by unfold xf_M_canStep; rw [if_pos rfl]
        rw [z1, rb_b2_some, c1, rb_b2_some, if_neg (show ¬ (1 : Int32) = 0 by decide), z2, rb_b1_some, sm_stepOf F2 hj h22 h7 (by omega), rb_b1_some, if_neg hL, z3, rb_b2_some]
        exact ih (i + 1) f g σ2 τ3 (by omega) z4 F3 (by omega) (by omega)
    · rw [if_pos (show (999 : Int32) ≤ nI be from nI_le (a := 999) (by omega) (by omega)), if_neg h9]
      exact ⟨0, i, σ, τ, rfl, rfl, R, e2, Or.inl rfl⟩
theorem sm_isF {fc n : Nat} {τ : rb_St} (hn : n ≤ 7) (h22 : τ.1 0 22 = nI n) (p : Int32) : xf_M_isFigure p τ = if n = 0 then 0 else if xf_M_in p 0 (τ.1 0 25 - 1) τ = 0 then 0 else 1 := by
  unfold xf_M_isFigure
  rw [h22, rb_l0]
  by_cases h : n = 0
  · rw [if_pos h, if_pos (nI_le (by omega) (by omega))]
  · rw [if_neg h, if_neg (nI_ge (by omega) (by omega))]
theorem rb_ops_dance : op_dance Rel := by
  intro σ τ R p
  obtain ⟨n, ru, tr, lc, ho, La, wh, ln, m, cr, co, be, lg, D⟩ := Rel_D R
  obtain ⟨⟨gw1, -, gx1, gm1, -, -⟩, ⟨⟨fc, fl, ft, F⟩, b⟩, A, P, px1, -, pm1, -⟩ := id D
  have h7 := gw1.1
  have hbe := P.2.2.2.1
  have hf6 := F.1
  unfold xf_RP_dance xf_M_dance
  rw [rb_hasG h7 gx1.1, sm_isF (fc := fc) h7 gm1.1, sm_over pm1.2.2.2.2 hbe, px1.2.2.2, rb_l999]
  obtain ⟨σ', τ', x1, x2, x3⟩ := rb_refR (q := 0) (by decide) R
  have x1' : xf_RP_refuse 0 σ = some (-1, σ') := x1
  have x2' : xf_M_isRefused 0 τ = some (1, τ') := x2
  by_cases h : n = 0
  · simp only [if_pos h, if_true]
    exact ⟨-1, σ', τ', by rw [x1', rb_b2_some], by rw [x2', rb_b2_some, if_neg (show ¬ (1 : Int32) = 0 by decide)], x3⟩
  · simp only [if_neg h, rb_10, if_false]
    rcases rb_isF F.1 F.2.1 F.2.2.1 p with ⟨j, hj, rfl, e1, e2⟩ | ⟨e1, e2⟩
    · simp only [e1, e2, rb_10, if_false]
      by_cases h9 : be < 999
      · obtain ⟨t, y, σ1, τ1, y1, y2, y3, y4, y5⟩ := rb_dancel hj (fl j) 0 rb_FU rb_FU σ τ (by omega) R F (by have := (F.2.2.2 j hj).1; unfold rb_FU; omega) (by have := (F.2.2.2 j hj).1; unfold rb_FU; omega)
        have y1' : xl_RP_dance_49 (256 + 2 * j) rb_FU 0 σ = some (t, nI y, σ1) := y1
        have y2' : xl_M_dance_35 (nI j) rb_FU 0 τ = some (nI y, τ1) := y2
        refine ⟨nI y, σ1, τ1, ?_, ?_, y3⟩
        · rw [if_pos (nI_lt h9 (by decide)), rb_ib_nI (by omega) (by decide), if_pos rfl, rb_lt_eq, nI_clamp (by omega), y1', rb_b3_some]
          by_cases ht : t = 0
          · rw [if_pos ht]
          · rw [if_neg ht, y4, y5.resolve_left ht]
        · simp only [if_pos h9, if_true]
          rw [rb_refuseN, rb_b2_some, if_pos rfl, y2', rb_b2_some]
      · obtain ⟨σ4, τ4, w1, w2, w3⟩ := rb_refR (q := 4) (by decide) R
        have w1' : xf_RP_refuse 4 σ = some (-1, σ4) := w1
        have w2' : xf_M_isRefused 4 τ = some (1, τ4) := w2
        refine ⟨-1, σ4, τ4, ?_, ?_, w3⟩
        · rw [if_neg (nI_nlt (by omega) (by omega)), w1', rb_b2_some]
        · simp only [if_neg h9, rb_10, if_false]
          rw [w2', rb_b2_some, if_neg (show ¬ (1 : Int32) = 0 by decide)]
    · simp only [e1, e2, if_true]
      exact ⟨-1, σ', τ', by rw [x1', rb_b2_some], by rw [x2', rb_b2_some, if_neg (show ¬ (1 : Int32) = 0 by decide)], x3⟩
