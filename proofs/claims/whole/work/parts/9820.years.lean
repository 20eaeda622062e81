/-! YEARS: draws, beats, the wind -/
theorem rb_ush33 (x : Int64) : ∃ a, a < 2 ^ 31 ∧ (x.toUInt64 >>> ((33 : Int32).toInt64.toUInt64 &&& Int64.toUInt64 63)).toInt64 = lN a := by
  have hx := x.toBitVec.isLt
  refine ⟨x.toBitVec.toNat / 2 ^ 33, by omega, ?_⟩
  apply Int64.toBitVec_inj.mp
  apply BitVec.eq_of_toNat_eq
  have e : ((((33 : Int32).toInt64.toUInt64 &&& Int64.toUInt64 63)).toBitVec % 64#64) = 33#64 := by decide
  show (x.toBitVec >>> ((((33 : Int32).toInt64.toUInt64 &&& Int64.toUInt64 63)).toBitVec % 64#64)).toNat = (BitVec.ofNat 64 (x.toBitVec.toNat / 2 ^ 33)).toNat
  rw [e, BitVec.ushiftRight_eq', BitVec.toNat_ushiftRight, BitVec.toNat_ofNat, Nat.shiftRight_eq_div_pow]
  show x.toBitVec.toNat / 2 ^ 33 = _
  rw [BitVec.toNat_ofNat, Nat.mod_eq_of_lt (by omega)]
theorem rb_draw {j : Nat} (h1 : 1 ≤ j) (hj : j < 2 ^ 31) (x : Int64) : ∃ d, d < j ∧ ∃ x', ∀ σ τ : rb_St, σ.2 = x → τ.2 = x → xf_RP_draw (nI j) σ = some (nI d, rb_sL σ x') ∧ xf_M_draw (nI j) τ = some (nI d, rb_sL τ x') := by
  obtain ⟨a, ha, ea⟩ := rb_ush33 ((x * 6364136223846793005) + 1442695040888963407)
  refine ⟨a % j, Nat.mod_lt _ (by omega), (x * 6364136223846793005) + 1442695040888963407, fun σ τ hσ hτ => ?_⟩
  have e0 : (nI j).toInt64 = lN j := nI_l hj
  have en : ¬ lN j = 0 := by
    intro e
    have := (lN_eq (a := j) (b := 0) hj (by decide)).mp e
    omega
  constructor
  · unfold xf_RP_draw
    rw [rb_lt_eq, hσ, if_pos (show (1 : Int32) ≤ nI j from nI_le (a := 1) h1 hj), e0, if_neg en]
    show some (_, rb_sL σ _) = _
    rw [show (rb_sL σ (x * 6364136223846793005 + 1442695040888963407)).2 = x * 6364136223846793005 + 1442695040888963407 from rfl, ea, pk_lRem (by omega) (by omega) (by omega), lN_i]
  · unfold xf_M_draw
    rw [rb_lt_eq, hτ, e0, if_neg en]
    rw [show (rb_sL τ (x * 6364136223846793005 + 1442695040888963407)).2 = x * 6364136223846793005 + 1442695040888963407 from rfl, ea, pk_lRem (by omega) (by omega) (by omega), lN_i]
section RBY
variable {n lc ho m co be l : Nat} {ru tr wh ln : Nat → Nat} {La : Nat → List sp_Cl} {cr lg : Nat → Nat → Nat} {σ σ' τ τ' : rb_St}
theorem REnv_sL (x y : Int64) (E : REnv n ru tr lc ho La σ τ) : REnv n ru tr lc ho La (rb_sL σ x) (rb_sL τ y) := by
  obtain ⟨a, b, c, d, e, f⟩ := E
  exact ⟨a, b, c, d, ⟨e.1, e.2.1, fun j hj => ⟨(e.2.2 j hj).1, rb_rw_co (σ := σ) (σ' := rb_sL σ x) (fun _ _ _ => rfl) (e.2.2 j hj).2⟩⟩, ⟨f.1, f.2.1, fun j hj => ⟨(f.2.2 j hj).1, rb_lm_co (τ := τ) (τ' := rb_sL τ y) (fun _ _ _ _ _ => rfl) (fun _ _ _ _ _ => rfl) (f.2.2 j hj).2⟩⟩⟩
theorem RD_sL (x y : Int64) (D : RD n ru tr lc ho La wh ln m cr co be lg σ τ) : RD n ru tr lc ho La wh ln m cr co be lg (rb_sL σ x) (rb_sL τ y) := by
  obtain ⟨a, b, c, d, e, f, g, h⟩ := D
  exact ⟨REnv_sL x y a, b, c, d, e, f, g, h⟩
theorem Rel_sL (x y : Int64) (R : Rel σ τ) : Rel (rb_sL σ x) (rb_sL τ y) := by
  obtain ⟨n, ru, tr, lc, ho, La, wh, ln, m, cr, co, be, lg, D⟩ := Rel_D R
  exact RD_Rel (RD_sL x y D)
/-- the wind undoes one -/
theorem rb_windD (D : RD n ru tr lc ho La wh ln m cr co be lg σ τ) (hn : 0 < n) (hm0 : 0 < m) : ∃ x r r' σ' τ', xf_Pole_undoingLetter 18 σ = some (nI x) ∧ xf_RP_moveOn 18 (nI x) σ = some (r, σ') ∧ xf_M_letterDown τ = some (nI x) ∧ xf_M_crossNow (nI x) τ = some (r', τ') ∧ Rel σ' τ' ∧ rb_fr acX σ σ' ∧ rb_fr acM τ τ' ∧ σ'.1 18 3 = nI be := by
  obtain ⟨E, O, A, P, X, LX, M, LM⟩ := D
  obtain ⟨G, W, g, gM, w, wM⟩ := id E
  have hn7 := G.1
  have h3 := G.2.2.2.2 hn
  have hbe := P.2.2.2.1
  obtain ⟨x, hx1, hx2, hx3, hx4⟩ := rb_downl (σ := σ) (τ := τ) P.1.2.2.1 X.2.1 X.1.1 M.2.2.1 gM.1 hm0
  obtain ⟨σ2, m1, m2⟩ := sx_moveOn (Or.inl rfl) G W P.1 g w X.1 X.2.1 X.2.2.2 (by omega) hx1 rfl
  have hd : sp_hd n wh ln m cr x (sp_pr n ru tr ho La wh m cr be x) = 0 := by unfold sp_hd; rw [if_neg hx2]
  rcases m2 with ⟨-, m2, m3, m4⟩ | ⟨q, -⟩
  · obtain ⟨τ2, a1, a2, a3, a4, a5⟩ := sm_crossNow G W P.1 gM wM (pm_wh hn7 gM.1 M) M.2.2.1 M.2.2.2.2 (by omega) hx1 rfl (Or.inr hx2)
    have ht9 := (sp_pr_le (ho := ho) (La := La) (wh := wh) (m := m) (cr := cr) (be := be) (l := x) G (by omega)).2
    have s2 : ∀ i, i ≠ 1 → σ2.1 18 i = σ.1 18 i := fun i hi => m1.1 18 i (by unfold sc_mv sc_law sc_po; omega)
    have fx : rb_fr acX σ σ2 := m1.mo (fun c i q => by
      rcases q with q | q
      · exact Or.inl (Or.inr (Or.inr (Or.inr q)))
      · exact Or.inr (Or.inl (by unfold sc_po at q; omega)))
    have fm : rb_fr acM τ τ2 := a5.mo acM_17
    have e3 : σ2.1 18 3 = nI be := (s2 3 (by omega)).trans X.2.2.2
    refine ⟨x, _, _, σ2, τ2, hx3, m2, hx4, a1, Rel_ac fx fm E O ⟨⟨_, ln, _, _, co, be, lg, ⟨pw_mv P.1 h3 hx1 (Or.inr hx2) ht9, a3.1, P.2.2.1, hbe, P.2.2.2.2⟩, ⟨m3, m4, (s2 2 (by omega)).trans X.2.2.1, e3⟩, lgx_co (fun i _ => m1.1 22 i (by unfold sc_mv sc_law sc_po; omega)) LX, ⟨a2.2.1, a2.2.2, a3, (a4 215 (by omega)).trans M.2.2.2.1, (a4 216 (by omega)).trans M.2.2.2.2⟩, lgm_co (fun i h1 _ => a4 i (by omega)) LM⟩, RAct_fr m1 a5 (fun c i q => by unfold sc_mv sc_law sc_po at q; omega) (fun c i q => by omega) A⟩, fx, fm, e3⟩
  · exact absurd hd q
/-- behind the beat: a draw of ten, the wind -/
theorem rb_yearwind {b : Nat} (R : Rel σ τ) (h2 : σ.2 = τ.2) (h15 : σ.1 15 2 = nI n) (hn7 : n ≤ 7) (hn : 0 < n) (hb : σ.1 18 3 = nI b) : ∃ σ' τ', (∀ (rc : Int32 → rb_St → Option rb_St) (x4 : Int32), (rb_b2 (xf_RP_draw 10 σ) fun r23 s21 => if (xf_Green_wind s21) ≤ r23 then rc (x4 + 1) s21 else if (s21.1 18 1) ≤ 0 then rc (x4 + 1) s21 else rb_b1 (xf_Pole_undoingLetter 18 s21) fun r26 => rb_b2 (xf_RP_moveOn 18 r26 s21) fun r30 s28 => rc (x4 + 1) s28) = rc (x4 + 1) σ') ∧ (rb_b2 (xf_M_draw 10 τ) fun r16 s14 => if (s14.1 13 2) ≤ r16 then some s14 else if (s14.1 17 14) ≤ 0 then some s14 else rb_b1 (xf_M_letterDown s14) fun r19 => rb_b2 (xf_M_crossNow r19 s14) fun r23 s21 => some s21) = some τ' ∧ Rel σ' τ' ∧ σ'.2 = τ'.2 ∧ σ'.1 18 3 = nI b ∧ σ'.1 15 2 = nI n := by
  obtain ⟨d, hd, x, hx⟩ := rb_draw (j := 10) (by decide) (by decide) σ.2
  obtain ⟨e1, e2⟩ := hx σ τ rfl h2.symm
  have e1' : xf_RP_draw 10 σ = some (nI d, rb_sL σ x) := e1
  have e2' : xf_M_draw 10 τ = some (nI d, rb_sL τ x) := e2
  obtain ⟨n', ru, tr, lc, ho, La, wh, ln, m, cr, co, be, lg, D⟩ := Rel_D R
  have D1 := RD_sL x x D
  obtain ⟨⟨gw1, -, gx1, gm1, -, -⟩, O, A, P, px1, -, pm1, -⟩ := id D1
  have en : n' = n := (nI_eq (by have := gw1.1; omega) (by omega)).mp (gx1.1.symm.trans h15)
  subst en
  have eb : nI be = nI b := px1.2.2.2.symm.trans hb
  have hm := P.2.1
  have w1 : xf_Green_wind (rb_sL σ x) = nI (ru 2) := gx1.2.1 2 (by decide)
  have w2 : (rb_sL τ x).1 13 2 = nI (ru 2) := gm1.2.1 2 (by decide)
  rw [e2', rb_b2_some, w2, pm1.2.2.1.2.1]
  by_cases hw : nI (ru 2) ≤ nI d
  · exact ⟨rb_sL σ x, rb_sL τ x, fun rc x4 => by rw [e1', rb_b2_some, w1, if_pos hw], by rw [if_pos hw], RD_Rel D1, rfl, hb, h15⟩
  · by_cases h0 : m = 0
    · have q : nI m ≤ 0 := by rw [h0]; decide
      exact ⟨rb_sL σ x, rb_sL τ x, fun rc x4 => by rw [e1', rb_b2_some, w1, if_neg hw, px1.2.1.1, if_pos q], by rw [if_neg hw, if_pos q], RD_Rel D1, rfl, hb, h15⟩
    · have q : ¬ nI m ≤ 0 := nI_nle (by omega) (by omega)
      obtain ⟨y, r, r', σ', τ', y1, y2, y3, y4, y5, y6, y7, y8⟩ := rb_windD D1 hn (by omega)
      refine ⟨σ', τ', fun rc x4 => by rw [e1', rb_b2_some, w1, if_neg hw, px1.2.1.1, if_neg q, y1, rb_b1_some, y2, rb_b2_some], by rw [if_neg hw, if_neg q, y3, rb_b1_some, y4, rb_b2_some], y5, by rw [y6.2, y7.2]; rfl, by rw [y8, eb], ?_⟩
      rw [y6.1 15 2 (by unfold acX scX sc_law; omega)]
      exact h15
theorem rb_yearstep (D : RD n ru tr lc ho La wh ln m cr co be lg σ τ) (hn : 0 < n) (hbe : be < 999) (h2 : σ.2 = τ.2) : ∃ σ' τ1 τ', (∀ (rc : Int32 → rb_St → Option rb_St) (x1 x4 : Int32), (rb_b2 (xf_RP_draw (σ.1 15 2) σ) fun r10 s8 => rb_b2 (xf_RP_draw 2 s8) fun r13 s11 => rb_b2 (xf_RP_hindranceOf ((2 * r10) + r13) s11) fun r16 s14 => if r16 = 0 then xj_RP_years_91 rc x1 x4 ((2 * r10) + r13) s14 else xj_RP_years_91 rc x1 x4 20 s14) = rc (x4 + 1) σ') ∧ xf_M_keep τ = some τ1 ∧ xf_M_drawBeat τ1 = some τ' ∧ Rel σ' τ' ∧ σ'.2 = τ'.2 ∧ σ'.1 18 3 = nI (be + 1) ∧ σ'.1 15 2 = nI n := by
  obtain ⟨⟨gw1, -, gx1, gm1, -, -⟩, -⟩ := id D
  have hn7 := gw1.1
  obtain ⟨d1, hd1, x1, hx1⟩ := rb_draw (j := n) hn (by omega) σ.2
  obtain ⟨d2, hd2, x2, hx2⟩ := rb_draw (j := 2) (by decide) (by decide) x1
  have hl : 2 * d1 + d2 < 2 * n := by omega
  have el : (2 : Int32) * nI d1 + nI d2 = nI (2 * d1 + d2) := by rw [rb_l2, pk_mul, nI_add]
  have D1 : RD n ru tr lc ho La wh ln m cr co be lg (rb_sL (rb_sL σ x1) x2) τ := by
    have q := RD_sL x2 τ.2 D
    exact q
  obtain ⟨s14, -, -, a1, -, -, a2, -, -⟩ := rb_hind D1 hl
  have D2 := RD_fr a2 (rb_fr.rf (ch := scM) (σ := τ)) D1
  obtain ⟨sk, τ1, k1, k2, D3, k4, k5⟩ := rb_keepD D2
  have D3' : RD n ru tr lc ho La wh ln m cr co be lg sk (rb_sL (rb_sL τ1 x1) x2) := by
    have q := RD_sL sk.2 x2 D3
    exact q
  obtain ⟨-, -, τ3, -, -, b1, -, -, b2⟩ := rb_hind D3' hl
  have D4 := RD_fr (rb_fr.rf (ch := scX) (σ := sk)) b2 D3'
  have t2 : τ1.2 = σ.2 := k5.2.trans h2.symm
  have m22 : τ1.1 0 22 = nI n := D3.1.2.2.2.1.1
  have hM : ∀ u : Int32, u = (if sp_hd n wh ln m cr (2 * d1 + d2) (sp_pr n ru tr ho La wh m cr be (2 * d1 + d2)) = 0 then nI (2 * d1 + d2) else 20) → xf_M_drawBeat τ1 = xj_M_drawBeat_34 u τ3 := by
    intro u hu
    unfold xf_M_drawBeat
    rw [m22, (hx1 τ1 τ1 t2 t2).2, rb_b2_some, rb_l2, (hx2 (rb_sL τ1 x1) (rb_sL τ1 x1) rfl rfl).2, rb_b2_some, ← rb_l2, el, b1, rb_b2_some, hu]
    by_cases h0 : sp_hd n wh ln m cr (2 * d1 + d2) (sp_pr n ru tr ho La wh m cr be (2 * d1 + d2)) = 0
    · rw [if_pos h0, if_neg (show ¬ (1 : Int32) = 0 by decide), if_pos h0]
    · rw [if_neg h0, if_pos rfl, if_neg h0]
  have hX : ∀ (rc : Int32 → rb_St → Option rb_St) (y1 y4 : Int32), (rb_b2 (xf_RP_draw (σ.1 15 2) σ) fun r10 s8 => rb_b2 (xf_RP_draw 2 s8) fun r13 s11 => rb_b2 (xf_RP_hindranceOf ((2 * r10) + r13) s11) fun r16 s14 => if r16 = 0 then xj_RP_years_91 rc y1 y4 ((2 * r10) + r13) s14 else xj_RP_years_91 rc y1 y4 20 s14) = xj_RP_years_91 rc y1 y4 (if sp_hd n wh ln m cr (2 * d1 + d2) (sp_pr n ru tr ho La wh m cr be (2 * d1 + d2)) = 0 then nI (2 * d1 + d2) else 20) s14 := by
    intro rc y1 y4
    rw [gx1.1, (hx1 σ σ rfl rfl).1, rb_b2_some, rb_l2, (hx2 (rb_sL σ x1) (rb_sL σ x1) rfl rfl).1, rb_b2_some, ← rb_l2, el, a1, rb_b2_some]
    have hc := sp_hd_c (n := n) (wh := wh) (ln := ln) (m := m) (cr := cr) (l := 2 * d1 + d2) (t := sp_pr n ru tr ho La wh m cr be (2 * d1 + d2))
    by_cases h0 : sp_hd n wh ln m cr (2 * d1 + d2) (sp_pr n ru tr ho La wh m cr be (2 * d1 + d2)) = 0
    · rw [if_pos (show nI (sp_hd n wh ln m cr (2 * d1 + d2) (sp_pr n ru tr ho La wh m cr be (2 * d1 + d2))) = 0 by rw [h0]; rfl), if_pos h0]
    · rw [if_neg (nI_ne0 (by omega) (by omega)), if_neg h0]
  have fin : ∀ (u r : Int32) (σ5 τ5 : rb_St), u = (if sp_hd n wh ln m cr (2 * d1 + d2) (sp_pr n ru tr ho La wh m cr be (2 * d1 + d2)) = 0 then nI (2 * d1 + d2) else 20) → xq_tail u sk = some (r, σ5) → xf_M_passBeat u τ3 = some (r, τ5) → Rel σ5 τ5 → rb_fr acX sk σ5 → rb_fr acM τ3 τ5 → σ5.1 18 3 = nI (be + 1) → ∃ σ' τ1 τ', (∀ (rc : Int32 → rb_St → Option rb_St) (x1 x4 : Int32), (rb_b2 (xf_RP_draw (σ.1 15 2) σ) fun r10 s8 => rb_b2 (xf_RP_draw 2 s8) fun r13 s11 => rb_b2 (xf_RP_hindranceOf ((2 * r10) + r13) s11) fun r16 s14 => if r16 = 0 then xj_RP_years_91 rc x1 x4 ((2 * r10) + r13) s14 else xj_RP_years_91 rc x1 x4 20 s14) = rc (x4 + 1) σ') ∧ xf_M_keep τ = some τ1 ∧ xf_M_drawBeat τ1 = some τ' ∧ Rel σ' τ' ∧ σ'.2 = τ'.2 ∧ σ'.1 18 3 = nI (be + 1) ∧ σ'.1 15 2 = nI n := by
    intro u r σ5 τ5 hu z1 z2 z3 z4 z5 z6
    have e2 : σ5.2 = τ5.2 := by rw [z4.2, z5.2, k4.2, a2.2, b2.2]; rfl
    have e15 : σ5.1 15 2 = nI n := by
      rw [z4.1 15 2 (by unfold acX scX sc_law; omega)]
      exact D3.1.2.2.1.1
    obtain ⟨σ', τ', w1, w2, w3, w4, w5, w6⟩ := rb_yearwind z3 e2 e15 hn7 hn z6
    refine ⟨σ', τ1, τ', fun rc y1 y4 => ?_, k2, ?_, w3, w4, w5, w6⟩
    · rw [hX, ← hu]
      unfold xj_RP_years_91
      rw [xq_take, k1, rb_b1_some, z1, rb_b2_some]
      exact w1 rc y4
    · rw [hM u hu]
      unfold xj_M_drawBeat_34
      rw [z2, rb_b2_some]
      exact w2
  by_cases h0 : sp_hd n wh ln m cr (2 * d1 + d2) (sp_pr n ru tr ho La wh m cr be (2 * d1 + d2)) = 0
  · obtain ⟨u, σ5, τ5, z1, z2, z3, z4, z5, z6⟩ := rb_tail D4 hbe hl h0
    exact fin _ u σ5 τ5 (by rw [if_pos h0]) z1 z2 z3 z4 z5 z6
  · obtain ⟨σ5, τ5, z1, z2, z3, z4, z5, z6⟩ := rb_tail20 (x := 20) D4 hbe (by decide) (by omega)
    exact fin 20 0 σ5 τ5 (by rw [if_neg h0]) z1 z2 z3 z4 z5 z6
end RBY
theorem rb_yearl {z n : Nat} (hz : z ≤ 60) (hn7 : n ≤ 7) (hn : 0 < n) : ∀ (d i f g b : Nat) (σ τ : rb_St), i + d = z → Rel σ τ → σ.2 = τ.2 → σ.1 15 2 = nI n → σ.1 18 3 = nI b → b + d ≤ 999 → d < f → d < g → ∃ σ' τ', xl_RP_years_43 (nI z) f (nI i) σ = some σ' ∧ xl_M_years_43 (nI z) g (nI i) τ = some τ' ∧ Rel σ' τ' := by
  intro d
  induction d with
  | zero =>
    intro i f g b σ τ hi R _ _ _ _ hf hg
    obtain ⟨f, rfl⟩ : ∃ q, f = q + 1 := ⟨f - 1, by omega⟩
    obtain ⟨g, rfl⟩ : ∃ q, g = q + 1 := ⟨g - 1, by omega⟩
    refine ⟨σ, τ, ?_, ?_, R⟩
    · show (if nI z ≤ nI i then some σ else _) = _
      rw [if_pos (nI_le (by omega) (by omega))]
    · show (if nI z ≤ nI i then some τ else _) = _
      rw [if_pos (nI_le (by omega) (by omega))]
  | succ d ih =>
    intro i f g b σ τ hi R h2 h15 hb hbd hf hg
    obtain ⟨f, rfl⟩ : ∃ q, f = q + 1 := ⟨f - 1, by omega⟩
    obtain ⟨g, rfl⟩ : ∃ q, g = q + 1 := ⟨g - 1, by omega⟩
    obtain ⟨n', ru, tr, lc, ho, La, wh, ln, m, cr, co, be, lg, D⟩ := Rel_D R
    obtain ⟨⟨gw1, -, gx1, gm1, -, -⟩, O, A, P, px1, -, pm1, -⟩ := id D
    have en : n' = n := (nI_eq (by have := gw1.1; omega) (by omega)).mp (gx1.1.symm.trans h15)
    subst en
    have eb : be = b := (nI_eq (by have := P.2.2.2.1; omega) (by omega)).mp (px1.2.2.2.symm.trans hb)
    subst eb
    obtain ⟨σ', τ1, τ', a1, a2, a3, a4, a5, a6, a7⟩ := rb_yearstep D hn (by omega) h2
    have sx : xl_RP_years_43 (nI z) (f + 1) (nI i) σ = xl_RP_years_43 (nI z) f (nI (i + 1)) σ' := by
      show (if nI z ≤ nI i then _ else rb_b2 (xf_RP_draw (σ.1 15 2) σ) fun r10 s8 => rb_b2 (xf_RP_draw 2 s8) fun r13 s11 => rb_b2 (xf_RP_hindranceOf ((2 * r10) + r13) s11) fun r16 s14 => if r16 = 0 then xj_RP_years_91 (fun b4 τ => xl_RP_years_43 (nI z) f b4 τ) (nI z) (nI i) ((2 * r10) + r13) s14 else xj_RP_years_91 (fun b4 τ => xl_RP_years_43 (nI z) f b4 τ) (nI z) (nI i) 20 s14) = _
      rw [if_neg (nI_ge (by omega) (by omega)), a1, nI_1]
    have sm : xl_M_years_43 (nI z) (g + 1) (nI i) τ = xl_M_years_43 (nI z) g (nI (i + 1)) τ' := by
      show (if nI z ≤ nI i then _ else rb_b1 (xf_M_keep τ) fun s7 => rb_b1 (xf_M_drawBeat s7) fun s9 => xl_M_years_43 (nI z) g (nI i + 1) s9) = _
      rw [if_neg (nI_ge (by omega) (by omega)), a2, rb_b1_some, a3, rb_b1_some, nI_1]
    rw [sx, sm]
    exact ih (i + 1) f g (be + 1) σ' τ' (by omega) a4 a5 a7 a6 (by omega) (by omega) (by omega)
theorem rb_ops_years : op_years Rel := by
  intro σ τ R p x
  obtain ⟨n, ru, tr, lc, ho, La, wh, ln, m, cr, co, be, lg, D⟩ := Rel_D R
  obtain ⟨⟨gw1, -, gx1, gm1, -, -⟩, b, A, P, px1, -, pm1, -⟩ := id D
  have h7 := gw1.1
  have hbe := P.2.2.2.1
  unfold xf_RP_years xf_M_years
  rw [rb_hasG h7 gx1.1, gm1.1, px1.2.2.2, pm1.2.2.2.2]
  simp only [rb_ng h7]
  by_cases h : n = 0
  · exact ⟨-1, σ, τ, by rw [if_pos h, if_pos rfl], by rw [if_pos h], R⟩
  · simp only [if_neg h, rb_10, if_false]
    by_cases h1 : p < 1
    · have e : xf_M_in p 1 60 τ = 0 := by unfold xf_M_in; rw [if_pos h1]
      exact ⟨-1, σ, τ, by rw [if_pos h1], by rw [e, if_pos rfl], R⟩
    · obtain ⟨z, hj1, hj2, rfl⟩ := rb_lt1 h1
      rw [if_neg h1]
      by_cases h9 : z ≤ 60
      · have e : xf_M_in (nI z) 1 60 τ = 1 := rb_inT (b := 60) hj1 h9 (by decide)
        rw [if_neg (show ¬ (60 : Int32) < nI z from nI_nlt (a := 60) h9 (by decide)), e, if_neg (show ¬ (1 : Int32) = 0 by decide), nI_add, rb_l999]
        by_cases hb : be + z ≤ 999
        · rw [if_pos (nI_le hb (by decide)), if_pos (nI_le hb (by decide)), rb_lt_eq, rb_lt_eq]
          obtain ⟨σ', τ', x1, x2, x3⟩ := rb_yearl (z := z) (n := n) h9 h7 (by omega) z 0 rb_FU rb_FU be (rb_sL σ x) (rb_sL τ x) (by omega) (Rel_sL x x R) rfl gx1.1 px1.2.2.2 hb (by unfold rb_FU; omega) (by unfold rb_FU; omega)
          have x1' : xl_RP_years_43 (nI z) rb_FU 0 (rb_sL σ x) = some σ' := x1
          have x2' : xl_M_years_43 (nI z) rb_FU 0 (rb_sL τ x) = some τ' := x2
          obtain ⟨n', ru', tr', lc', ho', La', wh', ln', m', cr', co', be', lg', D'⟩ := Rel_D x3
          obtain ⟨-, -, -, -, px2, -, pm2, -⟩ := id D'
          exact ⟨nI be', σ', τ', by rw [x1', rb_b1_some, px2.2.2.2], by rw [x2', rb_b1_some, pm2.2.2.2.2], x3⟩
        · exact ⟨-1, σ, τ, by rw [if_neg (nI_ge (by omega) (by omega))], by rw [if_neg (nI_ge (by omega) (by omega))], R⟩
      · have e : xf_M_in (nI z) 1 60 τ = 0 := rb_inF (b := 60) hj1 (by omega) hj2
        exact ⟨-1, σ, τ, by rw [if_pos (show (60 : Int32) < nI z from nI_lt (a := 60) (by omega) hj2)], by rw [e, if_pos rfl], R⟩
