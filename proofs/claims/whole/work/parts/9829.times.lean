/-! HOW OFTEN A FIGURE CAN BE DANCED -/
theorem sm_putl (σ : rb_St) : xl_M_putAside_2 rb_FU 0 σ = some (rb_ct 17 28 0 0 σ 217) := by
  refine rb_up0 (fun f s x => xl_M_putAside_2 f x s) (rb_ct 17 28 0 0 σ) 217 (some (rb_ct 17 28 0 0 σ 217)) (by decide) (fun f i hi => ?_) (fun f => ?_)
  · show (if 217 ≤ nI i then _ else if rb_ib (nI i) 398 then if rb_ib (nI i) 217 then rb_lt (rb_sI (rb_ct 17 28 0 0 σ i) 28 (nI i).toNatClampNeg ((rb_ct 17 28 0 0 σ i).1 17 (nI i).toNatClampNeg)) (fun s4 => xl_M_putAside_2 f (nI i + 1) s4) else none else none) = xl_M_putAside_2 f (nI (i + 1)) (rb_sI (rb_ct 17 28 0 0 σ i) 28 (0 + i) ((rb_ct 17 28 0 0 σ i).1 17 (0 + i)))
    rw [if_neg (show ¬ (217 : Int32) ≤ nI i from nI_ge (b := 217) hi (by decide)), rb_ib_nI (by omega) (by decide), if_pos rfl, rb_ib_nI hi (by decide), if_pos rfl, nI_clamp (by omega), rb_lt_eq, nI_1, Nat.zero_add]
  · show (if 217 ≤ nI 217 then some (rb_ct 17 28 0 0 σ 217) else _) = _
    rw [if_pos (by decide)]
theorem sm_takel (σ : rb_St) : xl_M_takeBack_2 rb_FU 0 σ = some (rb_ct 28 17 0 0 σ 217) := by
  refine rb_up0 (fun f s x => xl_M_takeBack_2 f x s) (rb_ct 28 17 0 0 σ) 217 (some (rb_ct 28 17 0 0 σ 217)) (by decide) (fun f i hi => ?_) (fun f => ?_)
  · show (if 217 ≤ nI i then _ else if rb_ib (nI i) 217 then if rb_ib (nI i) 398 then rb_lt (rb_sI (rb_ct 28 17 0 0 σ i) 17 (nI i).toNatClampNeg ((rb_ct 28 17 0 0 σ i).1 28 (nI i).toNatClampNeg)) (fun s4 => xl_M_takeBack_2 f (nI i + 1) s4) else none else none) = xl_M_takeBack_2 f (nI (i + 1)) (rb_sI (rb_ct 28 17 0 0 σ i) 17 (0 + i) ((rb_ct 28 17 0 0 σ i).1 28 (0 + i)))
    rw [if_neg (show ¬ (217 : Int32) ≤ nI i from nI_ge (b := 217) hi (by decide)), rb_ib_nI hi (by decide), if_pos rfl, rb_ib_nI (by omega) (by decide), if_pos rfl, nI_clamp (by omega), rb_lt_eq, nI_1, Nat.zero_add]
  · show (if 217 ≤ nI 217 then some (rb_ct 28 17 0 0 σ 217) else _) = _
    rw [if_pos (by decide)]
section RBTI
variable {n lc ho fc j : Nat} {ru tr ln fl : Nat → Nat} {ft : Nat → Nat → Nat} {La : Nat → List sp_Cl}
def JT (n : Nat) (ru tr : Nat → Nat) (lc ho : Nat) (La : Nat → List sp_Cl) (fc : Nat) (fl : Nat → Nat) (ft : Nat → Nat → Nat) (ln wh : Nat → Nat) (m : Nat) (cr : Nat → Nat → Nat) (co be : Nat) (σ τ : rb_St) : Prop := pw n wh ln m cr ∧ m ≤ 40 ∧ co ≤ 999 ∧ gx n ru tr σ ∧ lwx lc ho La σ ∧ rx_wh 268 n wh ln σ ∧ rx_cr 268 m cr σ ∧ σ.1 268 3 = nI be ∧ gm n ru tr τ ∧ lwm lc ho La τ ∧ pm n wh ln m cr co be (τ.1 17) ∧ RFig fc fl ft σ τ
def sc_268 (c i : Nat) : Prop := sc_law c i ∨ (268 ≤ c ∧ c ≤ 272)
theorem rb_wholel (G : gw n ru tr) (W : lww lc ho La) (h3 : 3 ≤ n) (hj : j < fc) : ∀ (d i f g be : Nat) (wh : Nat → Nat) (m : Nat) (cr : Nat → Nat → Nat) (co : Nat) (σ τ : rb_St), i + d = fl j → d < f → d < g → be + d < 2 ^ 28 → JT n ru tr lc ho La fc fl ft ln wh m cr co be σ τ → ∃ t σ' τ', xl_RP_dancedWhole_2 (256 + 2 * j) 268 f (nI i) σ = some (t, σ') ∧ xl_M_isDanced_2 (nI j) g (nI i) τ = some (t, τ') ∧ rb_fr sc_268 σ σ' ∧ rb_fr sc_17 τ τ' ∧ (∀ i, 217 ≤ i → τ'.1 17 i = τ.1 17 i) ∧ (t = 0 ∨ (t = 1 ∧ ∃ wh' m' cr' co', JT n ru tr lc ho La fc fl ft ln wh' m' cr' co' (be + d) σ' τ')) := by
  have hn := G.1
  intro d
  induction d with
  | zero =>
    intro i f g be wh m cr co σ τ hi hf hg hbe J
    obtain ⟨f, rfl⟩ : ∃ q, f = q + 1 := ⟨f - 1, by omega⟩
    obtain ⟨g, rfl⟩ : ∃ q, g = q + 1 := ⟨g - 1, by omega⟩
    obtain ⟨P, hm, hco, gX, lX, xw, xc, xb, gM, lM, pM, F⟩ := id J
    obtain ⟨e1, e2, e3, e4⟩ := F.2.2.2 j hj
    have hf6 := F.1
    refine ⟨1, σ, τ, ?_, ?_, rb_fr.rf, rb_fr.rf, fun _ _ => rfl, Or.inr ⟨rfl, wh, m, cr, co, J⟩⟩
    · show (if (σ.1 (256 + 2 * j) 1) ≤ nI i then some (1, σ) else _) = _
      rw [e2, if_pos (nI_le (by omega) (by omega))]
    · show (if rb_ib (nI j) 7 then if (τ.1 16 (nI j).toNatClampNeg) ≤ nI i then some (1, τ) else _ else none) = _
      rw [rb_ib_nI (by omega) (by decide), if_pos rfl, nI_clamp (by omega), e3, if_pos (nI_le (by omega) (by omega))]
  | succ d ih =>
    intro i f g be wh m cr co σ τ hi hf hg hbe J
    obtain ⟨f, rfl⟩ : ∃ q, f = q + 1 := ⟨f - 1, by omega⟩
    obtain ⟨g, rfl⟩ : ∃ q, g = q + 1 := ⟨g - 1, by omega⟩
    obtain ⟨P, hm, hco, gX, lX, xw, xc, xb, gM, lM, pM, F⟩ := id J
    obtain ⟨e1, e2, e3, e4⟩ := F.2.2.2 j hj
    have hf6 := F.1
    obtain ⟨L20, -, -⟩ := e4 i (by omega)
    have wM := pm_wh hn gM.1 pM
    have sx : xl_RP_dancedWhole_2 (256 + 2 * j) 268 (f + 1) (nI i) σ = if (if ft j i < 2 * n then (1 : Int32) else 0) = 0 then xl_RP_dancedWhole_2 (256 + 2 * j) 268 f (nI (i + 1)) (rb_sI σ 268 3 (nI (be + 1))) else rb_b2 (xf_RP_moveOn 268 (nI (ft j i)) σ) (fun r9 s7 => if 0 ≤ r9 then rb_lt (rb_sI s7 268 3 ((s7.1 268 3) + 1)) (fun s11 => xl_RP_dancedWhole_2 (256 + 2 * j) 268 f (nI (i + 1)) s11) else some (0, s7)) := by
      show (if (σ.1 (256 + 2 * j) 1) ≤ nI i then some (1, σ) else rb_b1 (xf_Fig_letterAt (256 + 2 * j) (nI i) σ) fun r2 => if (xf_Pole_hasPlace 268 (r2 >>> (1 &&& 31)) σ) = 0 then rb_lt (rb_sI σ 268 3 ((σ.1 268 3) + 1)) (fun s5 => xl_RP_dancedWhole_2 (256 + 2 * j) 268 f (nI i + 1) s5) else rb_b2 (xf_RP_moveOn 268 r2 σ) fun r9 s7 => if 0 ≤ r9 then rb_lt (rb_sI s7 268 3 ((s7.1 268 3) + 1)) (fun s11 => xl_RP_dancedWhole_2 (256 + 2 * j) 268 f (nI i + 1) s11) else some (0, s7)) = _
      rw [e2, if_neg (nI_ge (by omega) (by omega)), sx_letterAt F hj (by omega), rb_b1_some, sx_hasl hn xw.1 (by omega), xb, nI_1, nI_1, rb_lt_eq]
    have sm : xl_M_isDanced_2 (nI j) (g + 1) (nI i) τ = rb_b2 (xf_M_canStep (if ft j i < 2 * n then nI (ft j i) else 20) τ) (fun r7 s5 => if r7 = 0 then some (0, s5) else rb_b1 (xf_M_stepOf (nI j) (nI i) s5) (fun r9 => rb_b2 (xf_M_live r9 s5) (fun r13 s11 => xl_M_isDanced_2 (nI j) g (nI (i + 1)) s11))) := by
      show (if rb_ib (nI j) 7 then if (τ.1 16 (nI j).toNatClampNeg) ≤ nI i then some (1, τ) else rb_b1 (xf_M_stepOf (nI j) (nI i) τ) fun r3 => rb_b2 (xf_M_canStep r3 τ) fun r7 s5 => if r7 = 0 then some (0, s5) else rb_b1 (xf_M_stepOf (nI j) (nI i) s5) fun r9 => rb_b2 (xf_M_live r9 s5) fun r13 s11 => xl_M_isDanced_2 (nI j) g (nI i + 1) s11 else none) = _
      rw [rb_ib_nI (by omega) (by decide), if_pos rfl, nI_clamp (by omega), e3, if_neg (nI_ge (by omega) (by omega)), sm_stepOf F hj gM.1 hn (by omega), rb_b1_some, nI_1]
    rw [sx, sm]
    by_cases hL : ft j i < 2 * n
    · simp only [if_pos hL, rb_10, if_false]
      obtain ⟨t, ht⟩ : ∃ t, t = sp_pr n ru tr ho La wh m cr be (ft j i) := ⟨_, rfl⟩
      obtain ⟨σ1, m1, m2⟩ := sx_moveOn (k := 268) (Or.inr (by omega)) G W P gX lX xw xc xb (by omega) hL ht
      obtain ⟨τ1, c1, c2⟩ := sm_canCross G W P gM lM wM pM.2.2.1 pM.2.2.2.2 (by omega) hL
      rw [← ht] at c1
      have cS : xf_M_canStep (nI (ft j i)) τ = some (if sp_hd n wh ln m cr (ft j i) t = 0 then 1 else 0, τ1) := by
        unfold xf_M_canStep
        rw [if_neg (fun e => by have := (nI_eq (b := 20) (by omega) (by decide)).mp e; omega), c1, rb_b2_some]
        by_cases h0 : sp_hd n wh ln m cr (ft j i) t = 0
        · rw [if_pos h0, if_neg (show ¬ (1 : Int32) = 0 by decide)]
        · rw [if_neg h0, if_pos rfl]
      have fx1 : rb_fr sc_268 σ σ1 := m1.mo (fun c i q => by
        rcases q with q | q
        · exact Or.inl q
        · exact Or.inr (by unfold sc_po at q; omega))
      have fm1 : rb_fr sc_17 τ τ1 := c2.mo (fun c i q => by unfold sc_9 at q; unfold sc_17; omega)
      have t17 : τ1.1 17 = τ.1 17 := funext fun i => c2.1 17 i (by unfold sc_9; omega)
      rw [cS, rb_b2_some]
      rcases m2 with ⟨h0, m2, m3, m4⟩ | ⟨h0, m2, m3, m4⟩
      · have hm2 : m < 40 ∨ sp_un n cr (ft j i) m ≠ 0 := by
          by_cases h : sp_un n cr (ft j i) m = 0
          · unfold sp_hd at h0
            rw [if_pos h] at h0
            exact Or.inl (sp_hi_0 h0)
          · exact Or.inr h
        have hge : (0 : Int32) ≤ (if sp_un n cr (ft j i) m = 0 then 0 else 1) := by split <;> decide
        have gM1 := gm_fr c2 (fun c i q => by unfold sc_9 at q; omega) gM
        have lM1 := lwm_fr c2 (fun c i q => by unfold sc_9 at q; omega) lM
        have F1 := RFig_fr fx1 fm1 (fun c i q => by unfold sc_268 sc_law at q; omega) (fun c i q => by unfold sc_17 at q; omega) F
        obtain ⟨τ2, d1, d2, d3, d4⟩ := sm_live (τ := τ1) (l := ft j i) G W P gM1 lM1 (by rw [t17]; exact pM) hco (by omega) hL hm2
        have sst : xf_M_stepOf (nI j) (nI i) τ1 = some (nI (ft j i)) := by
          rw [sm_stepOf F1 hj gM1.1 hn (by omega), if_pos hL]
        rw [m2, rb_b2_some, if_pos hge, rb_lt_eq, if_pos h0, if_neg (show ¬ (1 : Int32) = 0 by decide), sst, rb_b1_some, d1, rb_b2_some]
        have b1 : σ1.1 268 3 = nI be := by rw [m1.1 268 3 (by unfold sc_mv sc_law sc_po; omega)]; exact xb
        rw [b1, nI_1]
        have fx2 : rb_fr sc_268 σ (rb_sI σ1 268 3 (nI (be + 1))) := fx1.sI' (k := 268) (j := 3) (Or.inr ⟨by omega, by omega⟩)
        have fr2 : rb_fr (fun c i => c = 268 ∧ i = 3) σ1 (rb_sI σ1 268 3 (nI (be + 1))) := rb_fr.sI ⟨rfl, rfl⟩
        have fm2 : rb_fr sc_17 τ τ2 := fm1.tr d4
        have ht9 : t ≤ 9 := by rw [ht]; exact (sp_pr_le G (by omega)).2
        have m40 : mvm n m cr (ft j i) ≤ 40 := d2.2.2.1.1
        have J2 : JT n ru tr lc ho La fc fl ft ln (sp_sw n wh (ft j i / 2)) (mvm n m cr (ft j i)) (mvc n wh m cr (ft j i) t) (min 999 (co + sp_u n cr (ft j i) m)) (be + 1) (rb_sI σ1 268 3 (nI (be + 1))) τ2 := ⟨pw_mv P h3 hL (by omega) ht9, m40, by omega, gx_fr fx2 (fun c i q => by unfold sc_268 sc_law at q; omega) gX, lwx_fr W fx2 (fun c i q => by unfold sc_268 sc_law at q; omega) lX, rx_wh_fr fr2 (fun c i q => by omega) m3, rx_cr_fr fr2 (fun c i q => by omega) m4, rb_sI_eq _ _ _ _, gm_fr fm2 (fun c i q => by unfold sc_17 at q; omega) gM, lwm_fr fm2 (fun c i q => by unfold sc_17 at q; omega) lM, by rw [ht]; exact d2, RFig_fr fx2 fm2 (fun c i q => by unfold sc_268 sc_law at q; omega) (fun c i q => by unfold sc_17 at q; omega) F⟩
        obtain ⟨t', σ', τ', z1, z2, z3, z4, z5, z6⟩ := ih (i + 1) f g (be + 1) _ _ _ _ _ τ2 (by omega) (by omega) (by omega) (by omega) J2
        refine ⟨t', σ', τ', z1, z2, fx2.tr z3, fm2.tr z4, fun i hi => ?_, ?_⟩
        · rw [z5 i hi, d3 i hi, t17]
        · rw [show be + (d + 1) = be + 1 + d by omega]; exact z6
      · have hc := sp_hd_c (n := n) (wh := wh) (ln := ln) (m := m) (cr := cr) (l := ft j i) (t := t)
        have hng : ¬ (0 : Int32) ≤ -nI (sp_hd n wh ln m cr (ft j i) t) := by
          rcases hc with hc | hc | hc
          · exact absurd hc h0
          · rw [hc]; decide
          · rw [hc]; decide
        rw [m2, rb_b2_some, if_neg hng, if_neg h0, if_pos rfl]
        exact ⟨0, σ1, τ1, rfl, rfl, fx1, fm1, fun i _ => by rw [t17], Or.inl rfl⟩
    · simp only [if_neg hL, if_true]
      have c1 : xf_M_canStep 20 τ = some (1, τ) := by unfold xf_M_canStep; rw [if_pos rfl]
      obtain ⟨τ2, d1, d2, d3, d4⟩ := sm_live20 pM hn hco (by omega)
      rw [c1, rb_b2_some, if_neg (show ¬ (1 : Int32) = 0 by decide), sm_stepOf F hj gM.1 hn (by omega), rb_b1_some, if_neg hL, d1, rb_b2_some]
      have fx2 : rb_fr sc_268 σ (rb_sI σ 268 3 (nI (be + 1))) := rb_fr.sI (Or.inr ⟨by omega, by omega⟩)
      have fr2 : rb_fr (fun c i => c = 268 ∧ i = 3) σ (rb_sI σ 268 3 (nI (be + 1))) := rb_fr.sI ⟨rfl, rfl⟩
      have J2 : JT n ru tr lc ho La fc fl ft ln wh m cr co (be + 1) (rb_sI σ 268 3 (nI (be + 1))) τ2 := ⟨P, hm, hco, gx_fr fr2 (fun c i q => by omega) gX, lwx_fr W fr2 (fun c i q => by omega) lX, rx_wh_fr fr2 (fun c i q => by omega) xw, rx_cr_fr fr2 (fun c i q => by omega) xc, rb_sI_eq _ _ _ _, gm_fr d4 (fun c i q => by unfold sc_17 at q; omega) gM, lwm_fr d4 (fun c i q => by unfold sc_17 at q; omega) lM, d2, RFig_fr fr2 d4 (fun c i q => by omega) (fun c i q => by unfold sc_17 at q; omega) F⟩
      obtain ⟨t', σ', τ', z1, z2, z3, z4, z5, z6⟩ := ih (i + 1) f g (be + 1) _ _ _ _ _ τ2 (by omega) (by omega) (by omega) (by omega) J2
      refine ⟨t', σ', τ', z1, z2, fx2.tr z3, d4.tr z4, fun i hi => ?_, ?_⟩
      · rw [z5 i hi, d3 i hi]
      · rw [show be + (d + 1) = be + 1 + d by omega]; exact z6
theorem rb_timesl (G : gw n ru tr) (W : lww lc ho La) (h3 : 3 ≤ n) (hj : j < fc) (hf6 : fc ≤ 6) (hfl : fl j ≤ 48) : ∀ (d x f g be : Nat) (wh : Nat → Nat) (m : Nat) (cr : Nat → Nat → Nat) (co : Nat) (σ τ : rb_St), x + d = 99 → d < f → d < g → be + 48 * d < 2 ^ 28 → JT n ru tr lc ho La fc fl ft ln wh m cr co be σ τ → ∃ t y σ' τ', xl_RP_times_32 (nI j) f (nI x) σ = some (t, nI y, σ') ∧ xl_M_times_16 (nI j) g (nI x) τ = some (nI y, τ') ∧ rb_fr sc_268 σ σ' ∧ rb_fr sc_17 τ τ' ∧ (∀ i, 217 ≤ i → τ'.1 17 i = τ.1 17 i) ∧ (t = 0 ∨ y = 99) := by
  intro d
  induction d with
  | zero =>
    intro x f g be wh m cr co σ τ hx hf hg hbe J
    obtain ⟨f, rfl⟩ : ∃ q, f = q + 1 := ⟨f - 1, by omega⟩
    obtain ⟨g, rfl⟩ : ∃ q, g = q + 1 := ⟨g - 1, by omega⟩
    refine ⟨1, x, σ, τ, ?_, ?_, rb_fr.rf, rb_fr.rf, fun _ _ => rfl, Or.inr (by omega)⟩
    · show (if 99 ≤ nI x then some (1, nI x, σ) else _) = _
      rw [if_pos (show (99 : Int32) ≤ nI x from nI_le (a := 99) (by omega) (by omega))]
    · show (if 99 ≤ nI x then some (nI x, τ) else _) = _
      rw [if_pos (show (99 : Int32) ≤ nI x from nI_le (a := 99) (by omega) (by omega))]
  | succ d ih =>
    intro x f g be wh m cr co σ τ hx hf hg hbe J
    obtain ⟨f, rfl⟩ : ∃ q, f = q + 1 := ⟨f - 1, by omega⟩
    obtain ⟨g, rfl⟩ : ∃ q, g = q + 1 := ⟨g - 1, by omega⟩
    obtain ⟨t, σ1, τ1, a1, a2, a3, a4, a5, a6⟩ := rb_wholel G W h3 hj (fl j) 0 rb_FU rb_FU be wh m cr co σ τ (by omega) (by unfold rb_FU; omega) (by unfold rb_FU; omega) (by omega) J
    have a1' : xl_RP_dancedWhole_2 (256 + 2 * j) 268 rb_FU 0 σ = some (t, σ1) := a1
    have a2' : xl_M_isDanced_2 (nI j) rb_FU 0 τ = some (t, τ1) := a2
    have w1 : xf_RP_dancedWhole (256 + 2 * j) 268 σ = some (if t = 0 then 0 else 1, σ1) := by
      unfold xf_RP_dancedWhole
      rw [a1', rb_b2_some]
      split <;> rfl
    have w2 : xf_M_isDanced (nI j) τ = some (if t = 0 then 0 else 1, τ1) := by
      unfold xf_M_isDanced
      rw [a2', rb_b2_some]
      split <;> rfl
    have sx : xl_RP_times_32 (nI j) (f + 1) (nI x) σ = if t = 0 then some (0, nI x, σ1) else xl_RP_times_32 (nI j) f (nI (x + 1)) σ1 := by
      show (if 99 ≤ nI x then some (1, nI x, σ) else if rb_ib (nI j) 6 then rb_b2 (xf_RP_dancedWhole (256 + 2 * (nI j).toNatClampNeg) (268 + 5 * Int32.toNatClampNeg 0) σ) fun r9 s7 => if r9 = 0 then some (0, nI x, s7) else xl_RP_times_32 (nI j) f (nI x + 1) s7 else none) = _
      rw [if_neg (show ¬ (99 : Int32) ≤ nI x from nI_ge (b := 99) (by omega) (by decide)), rb_ib_nI (by omega) (by decide), if_pos rfl, rb_ap0, nI_clamp (by omega), w1, rb_b2_some, nI_1]
      by_cases h0 : t = 0
      · rw [if_pos h0, if_pos rfl, if_pos h0]
      · rw [if_neg h0, if_neg (show ¬ (1 : Int32) = 0 by decide), if_neg h0]
    have sm : xl_M_times_16 (nI j) (g + 1) (nI x) τ = if t = 0 then some (nI x, τ1) else xl_M_times_16 (nI j) g (nI (x + 1)) τ1 := by
      show (if 99 ≤ nI x then some (nI x, τ) else rb_b2 (xf_M_isDanced (nI j) τ) fun r7 s5 => if r7 = 0 then some (nI x, s5) else xl_M_times_16 (nI j) g (nI x + 1) s5) = _
      rw [if_neg (show ¬ (99 : Int32) ≤ nI x from nI_ge (b := 99) (by omega) (by decide)), w2, rb_b2_some, nI_1]
      by_cases h0 : t = 0
      · rw [if_pos h0, if_pos rfl, if_pos h0]
      · rw [if_neg h0, if_neg (show ¬ (1 : Int32) = 0 by decide), if_neg h0]
    rw [sx, sm]
    rcases a6 with h0 | ⟨h1, wh', m', cr', co', J'⟩
    · rw [if_pos h0, if_pos h0]
      exact ⟨0, x, σ1, τ1, rfl, rfl, a3, a4, a5, Or.inl rfl⟩
    · rw [if_neg (by omega), if_neg (by omega)]
      obtain ⟨t', y, σ', τ', z1, z2, z3, z4, z5, z6⟩ := ih (x + 1) f g (be + fl j) wh' m' cr' co' σ1 τ1 (by omega) (by omega) (by omega) (by omega) J'
      exact ⟨t', y, σ', τ', z1, z2, a3.tr z3, a4.tr z4, fun i hi => by rw [z5 i hi, a5 i hi], z6⟩
end RBTI
theorem rb_ops_times : op_times Rel := by
  intro σ τ R p
  obtain ⟨n, ru, tr, lc, ho, La, wh, ln, m, cr, co, be, lg, D⟩ := Rel_D R
  obtain ⟨⟨gw1, W, gx1, gm1, lx1, lm1⟩, ⟨⟨fc, fl, ft, F⟩, b⟩, A, P, px1, -, pm1, -⟩ := id D
  have h7 := gw1.1
  have hf6 := F.1
  have hbe := P.2.2.2.1
  unfold xf_RP_times xf_M_times
  rw [rb_hasG h7 gx1.1, sm_isF (fc := fc) h7 gm1.1, rb_ap0]
  by_cases h : n = 0
  · exact ⟨-1, σ, τ, by rw [if_pos h, if_pos rfl], by rw [if_pos h, if_pos rfl], R⟩
  · have h3 := gw1.2.2.2.2 (by omega)
    rw [if_neg h, if_neg (show ¬ (1 : Int32) = 0 by decide), if_neg h]
    rcases rb_isF F.1 F.2.1 F.2.2.1 p with ⟨j, hj, rfl, e1, e2⟩ | ⟨e1, e2⟩
    · obtain ⟨s, a1, a2, a3, a4⟩ := sx_standAs (σ := σ) (k0 := 268) (k1 := 18) (by omega)
      have fx0 : rb_fr sc_268 σ s := ⟨fun c i q => by rw [a4.1 c (by unfold sc_268 at q; omega)], a4.2⟩
      obtain ⟨u, hu⟩ : ∃ u, u = rb_ct 17 28 0 0 τ 217 := ⟨_, rfl⟩
      have ur : ∀ c, c ≠ 28 → u.1 c = τ.1 c := fun c hc => by rw [hu]; exact rb_ct_row hc 217
      have f28 : rb_fr (fun c _ => c = 28) τ u := ⟨fun c i q => by rw [ur c q], by rw [hu]; exact rb_ct_2 217⟩
      have J : JT n ru tr lc ho La fc fl ft ln wh m cr co be s u := ⟨P.1, P.2.1, P.2.2.1, gx_fr fx0 (fun c i q => by unfold sc_268 sc_law at q; omega) gx1, lwx_fr W fx0 (fun c i q => by unfold sc_268 sc_law at q; omega) lx1, rb_same_wh (by omega) a2 px1.1, rb_same_cr P.1.2.2.1.2.1 a2 px1.2.1, (a2.1 3 (by decide)).trans px1.2.2.2, gm_fr f28 (fun c i q => by omega) gm1, lwm_fr f28 (fun c i q => by omega) lm1, by rw [ur 17 (by decide)]; exact pm1, RFig_fr fx0 f28 (fun c i q => by unfold sc_268 sc_law at q; omega) (fun c i q => by omega) F⟩
      obtain ⟨t, y, σ', τ', z1, z2, z3, z4, z5, z6⟩ := rb_timesl gw1 W h3 hj hf6 (F.2.2.2 j hj).1 99 0 rb_FU rb_FU be wh m cr co s u (by omega) (by unfold rb_FU; omega) (by unfold rb_FU; omega) (by omega) J
      have z1' : xl_RP_times_32 (nI j) rb_FU 0 s = some (t, nI y, σ') := z1
      have z2' : xl_M_times_16 (nI j) rb_FU 0 u = some (nI y, τ') := z2
      have r28 : ∀ i, i < 217 → τ'.1 28 i = τ.1 17 i := by
        intro i hi
        rw [z4.1 28 i (by unfold sc_17; omega), hu, rb_ct_at (by decide), if_pos (by omega)]
        exact congrArg (τ.1 17) (by omega)
      have fm : rb_fr scM τ (rb_ct 28 17 0 0 τ' 217) := by
        refine ⟨fun c i q => ?_, ?_⟩
        · by_cases hc : c = 17
          · subst hc
            rw [rb_ct_at (by decide)]
            by_cases hi : i < 217
            · rw [if_pos (by omega), r28 _ (by omega)]
              exact congrArg (τ.1 17) (by omega)
            · rw [if_neg (by omega), z5 i (by omega), ur 17 (by decide)]
          · have h28 : c ≠ 28 := fun e => q (scM_q c i (by omega))
            have h9 : ¬ (c = 9 ∨ c = 10) := fun e => q (Or.inr (Or.inl (by omega)))
            rw [rb_ct_row hc, z4.1 c i (by unfold sc_17; omega), ur c h28]
        · rw [rb_ct_2, z4.2]; exact f28.2
      refine ⟨nI y, σ', rb_ct 28 17 0 0 τ' 217, ?_, ?_, Rel_fr ((fx0.tr z3).mo (fun c i q => ?_)) fm R⟩
      · rw [e1, if_neg (show ¬ (1 : Int32) = 0 by decide), a1, rb_b1_some, z1', rb_b3_some]
        by_cases ht : t = 0
        · rw [if_pos ht]
        · rw [if_neg ht, z6.resolve_left ht]; rfl
      · unfold xf_M_putAside xf_M_takeBack
        rw [e2, if_neg (show ¬ (1 : Int32) = 0 by decide), if_neg (show ¬ (1 : Int32) = 0 by decide), sm_putl, ← hu, rb_b1_some, rb_b1_some, z2', rb_b2_some, sm_takel, rb_b1_some, rb_b1_some]
      · rcases q with q | q
        · exact scX_law c i q
        · exact Or.inr (Or.inr (Or.inl (by omega)))
    · exact ⟨-1, σ, τ, by rw [e1, if_pos rfl], by rw [e2, if_pos (show (0 : Int32) = 0 from rfl), if_pos rfl], R⟩
