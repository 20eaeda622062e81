/-! THE PLAIT IN ITS ORDER: asked for; stripes; changes; the most -/
theorem scM_r (c i : Nat) (h : 19 ≤ c ∧ c ≤ 21) : scM c i := Or.inr (Or.inr (Or.inl h))
theorem scM_q (c i : Nat) (h : 23 ≤ c ∧ c ≤ 28) : scM c i := Or.inr (Or.inr (Or.inr (Or.inl h)))
theorem scM_33 (c i : Nat) (h : c = 0 ∧ i = 33) : scM c i := Or.inl ⟨h.1, by omega⟩
theorem scM_n22 : ¬ scM 0 22 := by unfold scM; omega
section RBW
variable {n m lc ho co be : Nat} {cr lg : Nat → Nat → Nat} {wh ln ru tr : Nat → Nat} {La : Nat → List sp_Cl} {σ τ : rb_St}
/-- both have laid the order -/
theorem rb_lay (D : RD n ru tr lc ho La wh ln m cr co be lg σ τ) : ∃ σ' τ1 τ', xf_Pole_tellOrder 18 σ = some σ' ∧ xf_M_rowOfPlait τ = some τ1 ∧ xf_M_layOrder τ1 = some τ' ∧ RD n ru tr lc ho La wh ln m cr co be lg σ' τ' ∧ rb_fr scX σ σ' ∧ rb_fr scM τ τ' ∧ ∀ i, i < m → sp_oi n (fun i => cr i 0) m i < m ∧ τ'.1 20 i = nI (sp_oi n (fun i => cr i 0) m i) ∧ (∀ s, xf_Pole_letterIn (σ'.1 235 i) s = nI (cr (sp_oi n (fun i => cr i 0) m i) 0) ∧ xf_Pole_overIn (σ'.1 235 i) s = nI (cr (sp_oi n (fun i => cr i 0) m i) 1) ∧ xf_Pole_underIn (σ'.1 235 i) s = nI (cr (sp_oi n (fun i => cr i 0) m i) 2) ∧ xf_Pole_tookIn (σ'.1 235 i) s = nI (cr (sp_oi n (fun i => cr i 0) m i) 3) ∧ xf_Pole_layerIn (σ'.1 235 i) s = nI (cr (sp_oi n (fun i => cr i 0) m i) 4)) := by
  obtain ⟨⟨G, -, g, gM, -, -⟩, -, -, P, X, -, M, -⟩ := id D
  have W := P.1.2.2.1
  have w1 := W.1
  obtain ⟨σ', a1, a2, a3⟩ := sx_tellOrder W (k := 18) (Or.inl (by omega)) X.2.1 X.1.1
  obtain ⟨τ1, b1, b2, b3⟩ := sm_rowOfPlait W M.2.2.1 gM.1
  obtain ⟨τ', c1, c2, c3⟩ := sm_layOrder b2
  have fx : rb_fr scX σ σ' := a3.mo (fun c i q => Or.inr (Or.inl (by omega)))
  have fm : rb_fr scM τ τ' := (b3.mo (fun c i q => by
    rcases q with q | q
    · exact scM_r c i (by omega)
    · exact scM_33 c i q)).tr (c3.mo (fun c i q => scM_r c i (by omega)))
  refine ⟨σ', τ1, τ', a1, b1, c1, RD_fr fx fm D, fx, fm, fun i hi => ?_⟩
  have hl := sp_oi_lt (n := n) (L := fun i => cr i 0) hi
  obtain ⟨d0, d1, d2, d3, d4⟩ := W.2.2 _ hl
  refine ⟨hl, c2 i hi, fun s => ?_⟩
  rw [a2 i hi, X.2.1.2 _ hl]
  exact ⟨rb_pk_letter (by omega) (by omega) (by omega) d3 d4 s, rb_pk_over (by omega) (by omega) (by omega) d3 d4 s, rb_pk_under (by omega) (by omega) (by omega) d3 d4 s, rb_pk_took (by omega) (by omega) (by omega) d3 d4 s, rb_pk_layer (by omega) (by omega) (by omega) d3 d4 s⟩
end RBW
theorem rb_ops_plait : op_plait Rel := by
  intro σ τ R p q
  obtain ⟨n, ru, tr, lc, ho, La, wh, ln, m, cr, co, be, lg, D⟩ := Rel_D R
  obtain ⟨⟨gw1, -, gx1, gm1, -, -⟩, b, A, P, px1, -, pm1, -⟩ := id D
  have hm := P.2.1
  obtain ⟨σ', τ1, τ', a1, a2, a3, D', a5, a6, a7⟩ := rb_lay D
  obtain ⟨-, -, -, -, -, -, pm2, -⟩ := id D'
  unfold xf_RP_plait xf_M_plait
  rw [px1.2.1.1, pm1.2.2.1.2.1]
  rcases rb_in1 (show m < 2 ^ 30 by omega) p τ with ⟨i, h1, rfl, e⟩ | ⟨h, e⟩
  · obtain ⟨l1, l2, l3⟩ := a7 i h1
    obtain ⟨k0, k1, k2, k3, k4⟩ := l3 σ'
    rw [e, if_neg (nI_pos (by omega)), if_pos (nI_lt h1 (by omega)), a1, rb_b1_some, if_neg (show ¬ (1 : Int32) = 0 by decide), rb_ib_nI (by omega) (by decide), rb_ib_nI (by omega) (by decide), nI_clamp (by omega), k0, k1, k2, k3, k4]
    simp only [if_true]
    rcases rb_inL 0 4 (by decide) (by decide) q τ with ⟨j, _, h2, rfl, e'⟩ | ⟨h2, e'⟩
    · have e'' : xf_M_in (nI j) 0 4 τ = 1 := e'
      refine ⟨nI (cr (sp_oi n (fun i => cr i 0) m i) j), σ', τ', ?_, ?_, RD_Rel D'⟩
      · have : j = 0 ∨ j = 1 ∨ j = 2 ∨ j = 3 ∨ j = 4 := by omega
        rcases this with rfl | rfl | rfl | rfl | rfl
        · rw [if_pos (show nI 0 = (0 : Int32) from rfl)]
        · rw [if_neg (show ¬ nI 1 = (0 : Int32) by decide), if_pos (show nI 1 = (1 : Int32) from rfl)]
        · rw [if_neg (show ¬ nI 2 = (0 : Int32) by decide), if_neg (show ¬ nI 2 = (1 : Int32) by decide), if_pos (show nI 2 = (2 : Int32) from rfl)]
        · rw [if_neg (show ¬ nI 3 = (0 : Int32) by decide), if_neg (show ¬ nI 3 = (1 : Int32) by decide), if_neg (show ¬ nI 3 = (2 : Int32) by decide), if_pos (show nI 3 = (3 : Int32) from rfl)]
        · rw [if_neg (show ¬ nI 4 = (0 : Int32) by decide), if_neg (show ¬ nI 4 = (1 : Int32) by decide), if_neg (show ¬ nI 4 = (2 : Int32) by decide), if_neg (show ¬ nI 4 = (3 : Int32) by decide), if_pos (show nI 4 = (4 : Int32) from rfl)]
      · rw [e'', if_neg (show ¬ (1 : Int32) = 0 by decide), a2, rb_b1_some, a3, rb_b1_some, l2, rm_of pm2.2.2.1 l1 j (by omega) rfl, rb_b1_some]
    · have e'' : xf_M_in q 0 4 τ = 0 := e'
      have n0 : ¬ q = 0 := by rintro rfl; rcases h2 with h2 | ⟨_, h2⟩ <;> exact absurd h2 (by decide)
      have n1 : ¬ q = 1 := by rintro rfl; rcases h2 with h2 | ⟨_, h2⟩ <;> exact absurd h2 (by decide)
      have n2 : ¬ q = 2 := by rintro rfl; rcases h2 with h2 | ⟨_, h2⟩ <;> exact absurd h2 (by decide)
      have n3 : ¬ q = 3 := by rintro rfl; rcases h2 with h2 | ⟨_, h2⟩ <;> exact absurd h2 (by decide)
      have n4 : ¬ q = 4 := by rintro rfl; rcases h2 with h2 | ⟨_, h2⟩ <;> exact absurd h2 (by decide)
      exact ⟨-1, σ', τ, by rw [if_neg n0, if_neg n1, if_neg n2, if_neg n3, if_neg n4], by rw [e'', if_pos rfl], Rel_fr a5 rb_fr.rf R⟩
  · refine ⟨-1, σ, τ, ?_, by rw [e, if_pos rfl], R⟩
    rcases h with h | ⟨h, h2⟩
    · rw [if_pos h]
    · rw [if_neg h, if_neg]
      intro w
      rw [Int32.lt_iff_toInt_lt] at w
      rw [Int32.le_iff_toInt_le] at h2
      omega
theorem rb_ops_stripe : op_stripe Rel := by
  intro σ τ R p
  obtain ⟨n, ru, tr, lc, ho, La, wh, ln, m, cr, co, be, lg, D⟩ := Rel_D R
  obtain ⟨⟨gw1, -, gx1, gm1, -, -⟩, b, A, P, px1, -, pm1, -⟩ := id D
  have hm := P.2.1
  have h7 := gw1.1
  obtain ⟨σ', τ1, τ', a1, a2, a3, D', a5, a6, a7⟩ := rb_lay D
  obtain ⟨⟨-, -, gx2, gm2, -, -⟩, -, -, -, -, -, pm2, -⟩ := id D'
  unfold xf_RP_stripe xf_M_stripe xf_M_plait
  rw [px1.2.1.1, pm1.2.2.1.2.1]
  rcases rb_in1 (show m < 2 ^ 30 by omega) p τ with ⟨i, h1, rfl, e⟩ | ⟨h, e⟩
  · obtain ⟨l1, l2, l3⟩ := a7 i h1
    obtain ⟨k0, k1, k2, k3, k4⟩ := l3 σ'
    obtain ⟨d0, d1, d2, d3, d4⟩ := P.1.2.2.1.2.2 _ l1
    have e4 : xf_M_in 1 0 4 τ = 1 := by unfold xf_M_in; decide
    have t1 : xf_Green_trait (nI (cr (sp_oi n (fun i => cr i 0) m i) 1)) 0 σ' = some (nI (tr (3 * cr (sp_oi n (fun i => cr i 0) m i) 1 + 0))) := sx_trait gw1 gx2 d1 (j := 0) (by decide)
    have t2 : xf_M_told (nI (cr (sp_oi n (fun i => cr i 0) m i) 1)) 0 τ' = some (nI (tr (3 * cr (sp_oi n (fun i => cr i 0) m i) 1 + 0))) := sm_told gw1 gm2 d1 (j := 0) (by decide)
    refine ⟨nI (tr (3 * cr (sp_oi n (fun i => cr i 0) m i) 1 + 0)), σ', τ', ?_, ?_, RD_Rel D'⟩
    · rw [if_neg (nI_pos (by omega)), if_pos (nI_lt h1 (by omega)), a1, rb_b1_some, rb_ib_nI (by omega) (by decide), if_pos rfl, nI_clamp (by omega), k1, t1, rb_b1_some]
    · rw [e, if_neg (show ¬ (1 : Int32) = 0 by decide), e4, if_neg (show ¬ (1 : Int32) = 0 by decide), a2, rb_b1_some, a3, rb_b1_some, rb_ib_nI (by omega) (by decide), if_pos rfl, nI_clamp (by omega), l2, rm_of (x := 1) pm2.2.2.1 l1 1 (by omega) rfl, rb_b1_some, rb_b2_some, if_neg (rb_neg1 (by omega)), t2, rb_b1_some]
  · refine ⟨-1, σ, τ, ?_, by rw [e, if_pos rfl, rb_b2_some, if_pos rfl], R⟩
    rcases h with h | ⟨h, h2⟩
    · rw [if_pos h]
    · rw [if_neg h, if_neg]
      intro w
      rw [Int32.lt_iff_toInt_lt] at w
      rw [Int32.le_iff_toInt_le] at h2
      omega
theorem rb_changes {n m lc ho co be : Nat} {cr lg : Nat → Nat → Nat} {wh ln ru tr : Nat → Nat} {La : Nat → List sp_Cl} {σ τ : rb_St} (D : RD n ru tr lc ho La wh ln m cr co be lg σ τ) : ∃ r σ' τ', xf_RP_changes σ = some (r, σ') ∧ xf_M_changes τ = some (r, τ') ∧ Rel σ' τ' := by
  obtain ⟨⟨gw1, -, gx1, gm1, -, -⟩, b, A, P, px1, -, pm1, -⟩ := id D
  have hm := P.2.1
  have h7 := gw1.1
  obtain ⟨σ', τ1, τ', a1, a2, a3, D', a5, a6, a7⟩ := rb_lay D
  obtain ⟨⟨-, -, gx2, gm2, -, -⟩, -, -, -, px2, -, pm2, -⟩ := id D'
  have key : ∀ (f i c : Nat), 1 ≤ i → m - i < f → i ≤ 40 ∨ i ≤ m → ∃ r, xl_RP_changes_15 σ' f (nI c) (nI i) = some r ∧ xl_M_changes_12 τ' f (nI c) (nI i) = some r := by
    intro f
    induction f with
    | zero => intro i c _ hf; omega
    | succ f ih =>
      intro i c h1 hf hi
      by_cases hc : m ≤ i
      · refine ⟨nI c, ?_, ?_⟩
        · show (if σ'.1 18 1 ≤ nI i then some (nI c) else _) = _
          rw [px2.2.1.1, if_pos (nI_le hc (by omega))]
        · show (if τ'.1 17 14 ≤ nI i then some (nI c) else _) = _
          rw [pm2.2.2.1.2.1, if_pos (nI_le hc (by omega))]
      · obtain ⟨l1, l2, l3⟩ := a7 i (by omega)
        obtain ⟨-, k1, -, -, -⟩ := l3 σ'
        obtain ⟨l1', l2', l3'⟩ := a7 (i - 1) (by omega)
        obtain ⟨-, k1', -, -, -⟩ := l3' σ'
        have d1 := (P.1.2.2.1.2.2 _ l1).2.1
        have d1' := (P.1.2.2.1.2.2 _ l1').2.1
        have t1 : xf_Green_trait (nI (cr (sp_oi n (fun i => cr i 0) m i) 1)) 0 σ' = some (nI (tr (3 * cr (sp_oi n (fun i => cr i 0) m i) 1 + 0))) := sx_trait gw1 gx2 d1 (j := 0) (by decide)
        have t2 : xf_M_told (nI (cr (sp_oi n (fun i => cr i 0) m i) 1)) 0 τ' = some (nI (tr (3 * cr (sp_oi n (fun i => cr i 0) m i) 1 + 0))) := sm_told gw1 gm2 d1 (j := 0) (by decide)
        have t1' : xf_Green_trait (nI (cr (sp_oi n (fun i => cr i 0) m (i - 1)) 1)) 0 σ' = some (nI (tr (3 * cr (sp_oi n (fun i => cr i 0) m (i - 1)) 1 + 0))) := sx_trait gw1 gx2 d1' (j := 0) (by decide)
        have t2' : xf_M_told (nI (cr (sp_oi n (fun i => cr i 0) m (i - 1)) 1)) 0 τ' = some (nI (tr (3 * cr (sp_oi n (fun i => cr i 0) m (i - 1)) 1 + 0))) := sm_told gw1 gm2 d1' (j := 0) (by decide)
        obtain ⟨u, hu⟩ : ∃ u, u = nI (tr (3 * cr (sp_oi n (fun i => cr i 0) m i) 1 + 0)) := ⟨_, rfl⟩
        obtain ⟨v, hv⟩ : ∃ v, v = nI (tr (3 * cr (sp_oi n (fun i => cr i 0) m (i - 1)) 1 + 0)) := ⟨_, rfl⟩
        rw [← hu] at t1 t2
        rw [← hv] at t1' t2'
        have s1 : xl_RP_changes_15 σ' (f + 1) (nI c) (nI i) = xl_RP_changes_15 σ' f (nI (if u = v then c else c + 1)) (nI (i + 1)) := by
          show (if σ'.1 18 1 ≤ nI i then _ else if rb_ib (nI i - 1) 48 then rb_b1 (xf_Green_trait (xf_Pole_overIn (σ'.1 235 (nI i - 1).toNatClampNeg) σ') 0 σ') fun r5 => if rb_ib (nI i) 48 then rb_b1 (xf_Green_trait (xf_Pole_overIn (σ'.1 235 (nI i).toNatClampNeg) σ') 0 σ') fun r8 => if r8 = r5 then xl_RP_changes_15 σ' f (nI c) (nI i + 1) else xl_RP_changes_15 σ' f (nI c + 1) (nI i + 1) else none else none) = _
          rw [px2.2.1.1, if_neg (nI_ge (by omega) (by omega)), rb_pr (by omega), rb_ib_nI (by omega) (by decide), if_pos rfl, nI_clamp (by omega), k1', t1', rb_b1_some, rb_ib_nI (by omega) (by decide), if_pos rfl, nI_clamp (by omega), k1, t1, rb_b1_some, nI_1, nI_1]
          split <;> rfl
        have s2 : xl_M_changes_12 τ' (f + 1) (nI c) (nI i) = xl_M_changes_12 τ' f (nI (if u = v then c else c + 1)) (nI (i + 1)) := by
          show (if τ'.1 17 14 ≤ nI i then _ else if rb_ib (nI i) 88 then rb_b1 (xf_M_of (τ'.1 20 (nI i).toNatClampNeg) 1 τ') fun r7 => rb_b1 (xf_M_told r7 0 τ') fun r9 => if rb_ib (nI i - 1) 88 then rb_b1 (xf_M_of (τ'.1 20 (nI i - 1).toNatClampNeg) 1 τ') fun r12 => rb_b1 (xf_M_told r12 0 τ') fun r14 => if r9 = r14 then xl_M_changes_12 τ' f (nI c + 0) (nI i + 1) else xl_M_changes_12 τ' f (nI c + 1) (nI i + 1) else none else none) = _
          rw [pm2.2.2.1.2.1, if_neg (nI_ge (by omega) (by omega)), rb_ib_nI (by omega) (by decide), if_pos rfl, nI_clamp (by omega), l2, rm_of (x := 1) pm2.2.2.1 l1 1 (by omega) rfl, rb_b1_some, t2, rb_b1_some, rb_pr (by omega), rb_ib_nI (by omega) (by decide), if_pos rfl, nI_clamp (by omega), l2', rm_of (x := 1) pm2.2.2.1 l1' 1 (by omega) rfl, rb_b1_some, t2', rb_b1_some, nI_1, nI_1, Int32.add_zero]
          split <;> rfl
        rw [s1, s2]
        exact ih (i + 1) _ (by omega) (by omega) (by omega)
  obtain ⟨r, r1, r2⟩ := key rb_FU 1 0 (by omega) (by unfold rb_FU; omega) (by omega)
  have r1' : xl_RP_changes_15 σ' rb_FU 0 1 = some r := r1
  have r2' : xl_M_changes_12 τ' rb_FU 0 1 = some r := r2
  exact ⟨r, σ', τ', by unfold xf_RP_changes; rw [a1, rb_b1_some, r1', rb_b1_some], by unfold xf_M_changes; rw [a2, rb_b1_some, a3, rb_b1_some, r2', rb_b1_some], RD_Rel D'⟩
theorem rb_ops_most : op_most Rel := by
  intro σ τ R p
  obtain ⟨n, ru, tr, lc, ho, La, wh, ln, m, cr, co, be, lg, D⟩ := Rel_D R
  obtain ⟨⟨gw1, -, gx1, gm1, -, -⟩, b, A, P, px1, -, pm1, -⟩ := id D
  have h7 := gw1.1
  have W := P.1.2.2.1
  have V := P.1.1
  have wM := pm_wh h7 gm1.1 pm1
  unfold xf_RP_most xf_M_most
  rw [rb_hasG h7 gx1.1, gm1.1]
  simp only [rb_ng h7]
  by_cases h : n = 0
  · exact ⟨-1000000, σ, τ, by rw [if_pos h, if_pos rfl], by rw [if_pos h], R⟩
  · simp only [if_neg h, rb_10, if_false]
    rcases rb_inL 0 12 (by decide) (by decide) p τ with ⟨j, _, h2, rfl, e⟩ | ⟨h2, e⟩
    · have e' : xf_M_in (nI j) 0 12 τ = 1 := e
      rw [e', if_neg (show ¬ (1 : Int32) = 0 by decide)]
      have hj : j = 0 ∨ j = 1 ∨ j = 2 ∨ j = 3 ∨ j = 4 ∨ j = 5 ∨ j = 6 ∨ j = 7 ∨ j = 8 ∨ j = 9 ∨ j = 10 ∨ j = 11 ∨ j = 12 := by omega
      have top : ∀ j : Nat, ∃ r, xf_RP_foremost (nI j) σ = some r ∧ xf_M_topBy (nI j) τ = some r := fun j => rb_top D (nI j)
      rcases hj with rfl | rfl | rfl | rfl | rfl | rfl | rfl | rfl | rfl | rfl | rfl | rfl | rfl
      · obtain ⟨r, r1, r2⟩ := top 0
        refine ⟨r, σ, τ, ?_, ?_, R⟩
        · rw [if_pos (show nI 0 = (0 : Int32) from rfl), r1, rb_b1_some]
        · rw [if_neg (show ¬ nI 0 = (4 : Int32) by decide), if_neg (show ¬ nI 0 = (5 : Int32) by decide), if_neg (show ¬ nI 0 = (6 : Int32) by decide), if_neg (show ¬ nI 0 = (7 : Int32) by decide), if_neg (show ¬ nI 0 = (8 : Int32) by decide), if_neg (show ¬ nI 0 = (9 : Int32) by decide), if_neg (show ¬ nI 0 = (10 : Int32) by decide), if_neg (show ¬ nI 0 = (11 : Int32) by decide), if_neg (show ¬ nI 0 = (12 : Int32) by decide), r2, rb_b1_some]
      · obtain ⟨r, r1, r2⟩ := top 1
        refine ⟨r, σ, τ, ?_, ?_, R⟩
        · rw [if_neg (show ¬ nI 1 = (0 : Int32) by decide), if_pos (show nI 1 = (1 : Int32) from rfl), r1, rb_b1_some]
        · rw [if_neg (show ¬ nI 1 = (4 : Int32) by decide), if_neg (show ¬ nI 1 = (5 : Int32) by decide), if_neg (show ¬ nI 1 = (6 : Int32) by decide), if_neg (show ¬ nI 1 = (7 : Int32) by decide), if_neg (show ¬ nI 1 = (8 : Int32) by decide), if_neg (show ¬ nI 1 = (9 : Int32) by decide), if_neg (show ¬ nI 1 = (10 : Int32) by decide), if_neg (show ¬ nI 1 = (11 : Int32) by decide), if_neg (show ¬ nI 1 = (12 : Int32) by decide), r2, rb_b1_some]
      · obtain ⟨r, r1, r2⟩ := top 2
        refine ⟨r, σ, τ, ?_, ?_, R⟩
        · rw [if_neg (show ¬ nI 2 = (0 : Int32) by decide), if_neg (show ¬ nI 2 = (1 : Int32) by decide), if_pos (show nI 2 = (2 : Int32) from rfl), r1, rb_b1_some]
        · rw [if_neg (show ¬ nI 2 = (4 : Int32) by decide), if_neg (show ¬ nI 2 = (5 : Int32) by decide), if_neg (show ¬ nI 2 = (6 : Int32) by decide), if_neg (show ¬ nI 2 = (7 : Int32) by decide), if_neg (show ¬ nI 2 = (8 : Int32) by decide), if_neg (show ¬ nI 2 = (9 : Int32) by decide), if_neg (show ¬ nI 2 = (10 : Int32) by decide), if_neg (show ¬ nI 2 = (11 : Int32) by decide), if_neg (show ¬ nI 2 = (12 : Int32) by decide), r2, rb_b1_some]
      · obtain ⟨r, r1, r2⟩ := top 3
        refine ⟨r, σ, τ, ?_, ?_, R⟩
        · rw [if_neg (show ¬ nI 3 = (0 : Int32) by decide), if_neg (show ¬ nI 3 = (1 : Int32) by decide), if_neg (show ¬ nI 3 = (2 : Int32) by decide), if_pos (show nI 3 = (3 : Int32) from rfl), r1, rb_b1_some]
        · rw [if_neg (show ¬ nI 3 = (4 : Int32) by decide), if_neg (show ¬ nI 3 = (5 : Int32) by decide), if_neg (show ¬ nI 3 = (6 : Int32) by decide), if_neg (show ¬ nI 3 = (7 : Int32) by decide), if_neg (show ¬ nI 3 = (8 : Int32) by decide), if_neg (show ¬ nI 3 = (9 : Int32) by decide), if_neg (show ¬ nI 3 = (10 : Int32) by decide), if_neg (show ¬ nI 3 = (11 : Int32) by decide), if_neg (show ¬ nI 3 = (12 : Int32) by decide), r2, rb_b1_some]
      · refine ⟨nI (sp_de cr m), σ, τ, ?_, ?_, R⟩
        · rw [if_neg (show ¬ nI 4 = (0 : Int32) by decide), if_neg (show ¬ nI 4 = (1 : Int32) by decide), if_neg (show ¬ nI 4 = (2 : Int32) by decide), if_neg (show ¬ nI 4 = (3 : Int32) by decide), if_pos (show nI 4 = (4 : Int32) from rfl), sx_depth W px1.2.1, rb_b1_some]
        · rw [if_pos (show nI 4 = (4 : Int32) from rfl), sm_depth W pm1.2.2.1, rb_b1_some]
      · refine ⟨sp_or wh n, σ, τ, ?_, ?_, R⟩
        · rw [if_neg (show ¬ nI 5 = (0 : Int32) by decide), if_neg (show ¬ nI 5 = (1 : Int32) by decide), if_neg (show ¬ nI 5 = (2 : Int32) by decide), if_neg (show ¬ nI 5 = (3 : Int32) by decide), if_neg (show ¬ nI 5 = (4 : Int32) by decide), if_pos (show nI 5 = (5 : Int32) from rfl), sx_orderOfAll V px1.1, rb_b1_some]
        · rw [if_neg (show ¬ nI 5 = (4 : Int32) by decide), if_pos (show nI 5 = (5 : Int32) from rfl), sm_orderRow V wM, rb_b1_some]
      · obtain ⟨S, s1, s2⟩ := sx_loose W px1.2.1 px1.1.1
        obtain ⟨T, t1, t2⟩ := sm_edgesl W pm1.2.2.1 gm1.1
        have e := sp_set_eq s2 t2
        subst e
        refine ⟨nI S, σ, τ, ?_, ?_, R⟩
        · rw [if_neg (show ¬ nI 6 = (0 : Int32) by decide), if_neg (show ¬ nI 6 = (1 : Int32) by decide), if_neg (show ¬ nI 6 = (2 : Int32) by decide), if_neg (show ¬ nI 6 = (3 : Int32) by decide), if_neg (show ¬ nI 6 = (4 : Int32) by decide), if_neg (show ¬ nI 6 = (5 : Int32) by decide), if_pos (show nI 6 = (6 : Int32) from rfl), s1, rb_b1_some]
        · rw [if_neg (show ¬ nI 6 = (4 : Int32) by decide), if_neg (show ¬ nI 6 = (5 : Int32) by decide), if_pos (show nI 6 = (6 : Int32) from rfl), t1, rb_b1_some]
      · obtain ⟨S, s1, s2⟩ := sx_first W px1.2.1 px1.1.1
        obtain ⟨T, t1, t2⟩ := sm_edgesf W pm1.2.2.1 gm1.1
        have e := sp_set_eq s2 t2
        subst e
        refine ⟨nI S, σ, τ, ?_, ?_, R⟩
        · rw [if_neg (show ¬ nI 7 = (0 : Int32) by decide), if_neg (show ¬ nI 7 = (1 : Int32) by decide), if_neg (show ¬ nI 7 = (2 : Int32) by decide), if_neg (show ¬ nI 7 = (3 : Int32) by decide), if_neg (show ¬ nI 7 = (4 : Int32) by decide), if_neg (show ¬ nI 7 = (5 : Int32) by decide), if_neg (show ¬ nI 7 = (6 : Int32) by decide), if_pos (show nI 7 = (7 : Int32) from rfl), s1, rb_b1_some]
        · rw [if_neg (show ¬ nI 7 = (4 : Int32) by decide), if_neg (show ¬ nI 7 = (5 : Int32) by decide), if_neg (show ¬ nI 7 = (6 : Int32) by decide), if_pos (show nI 7 = (7 : Int32) from rfl), t1, rb_b1_some]
      · obtain ⟨S, s1, s2⟩ := sx_free W px1.2.1 px1.1.1
        obtain ⟨T, t1, t2⟩ := sm_free W pm1.2.2.1 gm1.1
        have e := sp_fr_eq s2 t2
        subst e
        refine ⟨nI S, σ, τ, ?_, ?_, R⟩
        · rw [if_neg (show ¬ nI 8 = (0 : Int32) by decide), if_neg (show ¬ nI 8 = (1 : Int32) by decide), if_neg (show ¬ nI 8 = (2 : Int32) by decide), if_neg (show ¬ nI 8 = (3 : Int32) by decide), if_neg (show ¬ nI 8 = (4 : Int32) by decide), if_neg (show ¬ nI 8 = (5 : Int32) by decide), if_neg (show ¬ nI 8 = (6 : Int32) by decide), if_neg (show ¬ nI 8 = (7 : Int32) by decide), if_pos (show nI 8 = (8 : Int32) from rfl), s1, rb_b1_some]
        · rw [if_neg (show ¬ nI 8 = (4 : Int32) by decide), if_neg (show ¬ nI 8 = (5 : Int32) by decide), if_neg (show ¬ nI 8 = (6 : Int32) by decide), if_neg (show ¬ nI 8 = (7 : Int32) by decide), if_pos (show nI 8 = (8 : Int32) from rfl), t1, rb_b1_some]
      · obtain ⟨r, σ', τ', r1, r2, r3⟩ := rb_changes D
        refine ⟨r, σ', τ', ?_, ?_, r3⟩
        · rw [if_neg (show ¬ nI 9 = (0 : Int32) by decide), if_neg (show ¬ nI 9 = (1 : Int32) by decide), if_neg (show ¬ nI 9 = (2 : Int32) by decide), if_neg (show ¬ nI 9 = (3 : Int32) by decide), if_neg (show ¬ nI 9 = (4 : Int32) by decide), if_neg (show ¬ nI 9 = (5 : Int32) by decide), if_neg (show ¬ nI 9 = (6 : Int32) by decide), if_neg (show ¬ nI 9 = (7 : Int32) by decide), if_neg (show ¬ nI 9 = (8 : Int32) by decide), if_pos (show nI 9 = (9 : Int32) from rfl), r1, rb_b2_some]
        · rw [if_neg (show ¬ nI 9 = (4 : Int32) by decide), if_neg (show ¬ nI 9 = (5 : Int32) by decide), if_neg (show ¬ nI 9 = (6 : Int32) by decide), if_neg (show ¬ nI 9 = (7 : Int32) by decide), if_neg (show ¬ nI 9 = (8 : Int32) by decide), if_pos (show nI 9 = (9 : Int32) from rfl), r2, rb_b2_some]
      · refine ⟨sp_tw cr m, σ, τ, ?_, ?_, R⟩
        · rw [if_neg (show ¬ nI 10 = (0 : Int32) by decide), if_neg (show ¬ nI 10 = (1 : Int32) by decide), if_neg (show ¬ nI 10 = (2 : Int32) by decide), if_neg (show ¬ nI 10 = (3 : Int32) by decide), if_neg (show ¬ nI 10 = (4 : Int32) by decide), if_neg (show ¬ nI 10 = (5 : Int32) by decide), if_neg (show ¬ nI 10 = (6 : Int32) by decide), if_neg (show ¬ nI 10 = (7 : Int32) by decide), if_neg (show ¬ nI 10 = (8 : Int32) by decide), if_neg (show ¬ nI 10 = (9 : Int32) by decide), if_pos (show nI 10 = (10 : Int32) from rfl), sx_twist W px1.2.1, rb_b1_some]
        · rw [if_neg (show ¬ nI 10 = (4 : Int32) by decide), if_neg (show ¬ nI 10 = (5 : Int32) by decide), if_neg (show ¬ nI 10 = (6 : Int32) by decide), if_neg (show ¬ nI 10 = (7 : Int32) by decide), if_neg (show ¬ nI 10 = (8 : Int32) by decide), if_neg (show ¬ nI 10 = (9 : Int32) by decide), if_pos (show nI 10 = (10 : Int32) from rfl), sm_twist W pm1.2.2.1, rb_b1_some]
      · refine ⟨nI (sp_tal cr m), σ, τ, ?_, ?_, R⟩
        · rw [if_neg (show ¬ nI 11 = (0 : Int32) by decide), if_neg (show ¬ nI 11 = (1 : Int32) by decide), if_neg (show ¬ nI 11 = (2 : Int32) by decide), if_neg (show ¬ nI 11 = (3 : Int32) by decide), if_neg (show ¬ nI 11 = (4 : Int32) by decide), if_neg (show ¬ nI 11 = (5 : Int32) by decide), if_neg (show ¬ nI 11 = (6 : Int32) by decide), if_neg (show ¬ nI 11 = (7 : Int32) by decide), if_neg (show ¬ nI 11 = (8 : Int32) by decide), if_neg (show ¬ nI 11 = (9 : Int32) by decide), if_neg (show ¬ nI 11 = (10 : Int32) by decide), if_pos (show nI 11 = (11 : Int32) from rfl), sx_takenOfAll W px1.2.1, rb_b1_some]
        · rw [if_neg (show ¬ nI 11 = (4 : Int32) by decide), if_neg (show ¬ nI 11 = (5 : Int32) by decide), if_neg (show ¬ nI 11 = (6 : Int32) by decide), if_neg (show ¬ nI 11 = (7 : Int32) by decide), if_neg (show ¬ nI 11 = (8 : Int32) by decide), if_neg (show ¬ nI 11 = (9 : Int32) by decide), if_neg (show ¬ nI 11 = (10 : Int32) by decide), if_pos (show nI 11 = (11 : Int32) from rfl), sm_takenAll W (fun i hi => (P.1.2.2.2.2 i hi).1) pm1.2.2.1 gm1.1, rb_b1_some]
      · refine ⟨nI (sp_ho wh n), σ, τ, ?_, ?_, R⟩
        · rw [if_neg (show ¬ nI 12 = (0 : Int32) by decide), if_neg (show ¬ nI 12 = (1 : Int32) by decide), if_neg (show ¬ nI 12 = (2 : Int32) by decide), if_neg (show ¬ nI 12 = (3 : Int32) by decide), if_neg (show ¬ nI 12 = (4 : Int32) by decide), if_neg (show ¬ nI 12 = (5 : Int32) by decide), if_neg (show ¬ nI 12 = (6 : Int32) by decide), if_neg (show ¬ nI 12 = (7 : Int32) by decide), if_neg (show ¬ nI 12 = (8 : Int32) by decide), if_neg (show ¬ nI 12 = (9 : Int32) by decide), if_neg (show ¬ nI 12 = (10 : Int32) by decide), if_neg (show ¬ nI 12 = (11 : Int32) by decide), if_pos (show nI 12 = (12 : Int32) from rfl), sx_atHome V px1.1, rb_b1_some]
        · rw [if_neg (show ¬ nI 12 = (4 : Int32) by decide), if_neg (show ¬ nI 12 = (5 : Int32) by decide), if_neg (show ¬ nI 12 = (6 : Int32) by decide), if_neg (show ¬ nI 12 = (7 : Int32) by decide), if_neg (show ¬ nI 12 = (8 : Int32) by decide), if_neg (show ¬ nI 12 = (9 : Int32) by decide), if_neg (show ¬ nI 12 = (10 : Int32) by decide), if_neg (show ¬ nI 12 = (11 : Int32) by decide), if_pos (show nI 12 = (12 : Int32) from rfl), sm_homeMany V wM, rb_b1_some]
    · have e' : xf_M_in p 0 12 τ = 0 := e
      have ne : ∀ k : Nat, k ≤ 12 → ¬ p = nI k := by
        rintro k hk rfl
        rcases h2 with h2 | ⟨_, h2⟩
        · exact nI_pos (n := k) (by omega) h2
        · exact nI_nlt (a := 12) (b := k) hk (by decide) h2
      refine ⟨-1000000, σ, τ, ?_, by rw [e', if_pos rfl], R⟩
      rw [if_neg (show ¬ p = 0 from ne 0 (by omega)), if_neg (show ¬ p = 1 from ne 1 (by omega)), if_neg (show ¬ p = 2 from ne 2 (by omega)), if_neg (show ¬ p = 3 from ne 3 (by omega)), if_neg (show ¬ p = 4 from ne 4 (by omega)), if_neg (show ¬ p = 5 from ne 5 (by omega)), if_neg (show ¬ p = 6 from ne 6 (by omega)), if_neg (show ¬ p = 7 from ne 7 (by omega)), if_neg (show ¬ p = 8 from ne 8 (by omega)), if_neg (show ¬ p = 9 from ne 9 (by omega)), if_neg (show ¬ p = 10 from ne 10 (by omega)), if_neg (show ¬ p = 11 from ne 11 (by omega)), if_neg (show ¬ p = 12 from ne 12 (by omega))]
