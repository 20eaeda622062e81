section RBT
variable {n lc ho m co be l : Nat} {ru tr wh ln : Nat → Nat} {La : Nat → List sp_Cl} {cr lg : Nat → Nat → Nat} {σ τ : rb_St}
theorem sp_la_ls {i p : Nat} : ∀ m, i < m → (∀ j, i < j → j < m → sp_tb n (cr j 0 / 2) p = false) → sp_tb n (cr i 0 / 2) p = true → sp_la n cr p m = i + 1 := by
  intro m
  induction m with
  | zero => intro h; omega
  | succ m ih =>
    intro h h1 h2
    show (if sp_tb n (cr m 0 / 2) p = true then m + 1 else sp_la n cr p m) = i + 1
    by_cases e : i = m
    · subst e; rw [if_pos h2]
    · rw [if_neg (by rw [h1 m (by omega) (by omega)]; decide)]
      exact ih (by omega) (fun j a b => h1 j a (by omega)) h2
theorem sp_xx : ∀ t, t < 16 → (t ^^^ 1) ^^^ 1 = t := by decide
theorem sp_tb_self (n p : Nat) : sp_tb n p p = true := by unfold sp_tb; simp
/-- the letter that undoes the highest loose one, in both -/
theorem rb_downl (C : rb_wfc n m cr) (hx : rx_cr 18 m cr σ) (h0 : σ.1 18 0 = nI n) (hm : rm_cr m cr (τ.1 17)) (h22 : τ.1 0 22 = nI n) (hp : 0 < m) : ∃ x, x < 2 * n ∧ sp_un n cr x m ≠ 0 ∧ xf_Pole_undoingLetter 18 σ = some (nI x) ∧ xf_M_letterDown τ = some (nI x) := by
  have hn := C.1
  obtain ⟨S, s1, s2⟩ := sx_loose C hx h0
  obtain ⟨T, t1, t2⟩ := sm_edgesl C hm h22
  have e := sp_set_eq s2 t2
  subst e
  have hlast : S.testBit (cr (m - 1) 0) = true := (s2.2 _).mpr ⟨m - 1, by omega, fun k a b => by omega, rfl⟩
  have hl2 := (C.2.2 (m - 1) (by omega)).1
  have hex : ∃ l, l < 2 * n ∧ S.testBit l = true := ⟨_, hl2, hlast⟩
  obtain ⟨a, b, c⟩ := sp_top_sp (2 * n) hex
  obtain ⟨t, ht⟩ : ∃ t, t = sp_top S (2 * n) := ⟨_, rfl⟩
  rw [← ht] at a b c
  have hge : 2 ^ t ≤ S := Nat.ge_two_pow_of_testBit b
  have hlt : S < 2 ^ (t + 1) := by
    apply Nat.lt_pow_two_of_testBit
    intro i hi
    rcases Nat.lt_or_ge i (2 * n) with q | q
    · exact c i (by omega) q
    · cases hb : S.testBit i with
      | false => rfl
      | true =>
        obtain ⟨j, j1, j2, j3⟩ := (s2.2 i).mp hb
        have := (C.2.2 j j1).1
        omega
  obtain ⟨i, i1, i2, i3⟩ := (s2.2 t).mp b
  have x1 := sp_x1 n (by omega) t a
  refine ⟨t ^^^ 1, x1, ?_, ?_, ?_⟩
  · unfold sp_un
    have hla : sp_la n cr ((t ^^^ 1) / 2) m = i + 1 := by
      rw [sp_half, ← i3]
      exact sp_la_ls m i1 i2 (sp_tb_self n _)
    rw [hla, if_neg (by omega), Nat.add_sub_cancel, i3, sp_xx t (by omega), if_pos rfl]
    omega
  · unfold xf_Pole_undoingLetter
    have e2 : (2 : Int32) * nI n - 1 = nI (2 * n) - 1 := by rw [rb_l2, pk_mul]
    rw [s1, rb_b1_some, h0, e2, sx_undoing s2.1 σ (2 * n) rb_FU (by omega) (by unfold rb_FU; omega) hex, rb_b2_some, if_pos rfl, ← ht]
    exact congrArg some (rb_xr t 1)
  · unfold xf_M_letterDown
    have hS := s2.1
    rw [t1, rb_b1_some, if_neg (nI_ne0 (Nat.lt_of_lt_of_le (Nat.two_pow_pos t) hge) (by omega)), rb_nlz (t := t) (by omega) hge hlt]
    exact congrArg some (rb_xr t 1)
/-- behind the keeping: a crossing -/
def xq_tail (l : Int32) (s1 : rb_St) : Option (Int32 × rb_St) := if (xf_Pole_hasPlace 18 (l >>> (1 &&& 31)) s1) = 0 then xj_RP_takeBeat_41 l 0 s1 else rb_b2 (xf_RP_moveOn 18 l s1) fun r14 s12 => xj_RP_takeBeat_41 l (rb_mx 0 r14) s12
theorem xq_take (l : Int32) (σ : rb_St) : xf_RP_takeBeat l σ = rb_b1 (xf_Acts_keep 18 σ) (fun s1 => xq_tail l s1) := rfl
theorem rb_tail (D : RD n ru tr lc ho La wh ln m cr co be lg σ τ) (hbe : be < 999) (hl : l < 2 * n) (hd : sp_hd n wh ln m cr l (sp_pr n ru tr ho La wh m cr be l) = 0) : ∃ u σ' τ', xq_tail (nI l) σ = some (u, σ') ∧ xf_M_passBeat (nI l) τ = some (u, τ') ∧ Rel σ' τ' ∧ rb_fr acX σ σ' ∧ rb_fr acM τ τ' ∧ σ'.1 18 3 = nI (be + 1) := by
  obtain ⟨E, O, A, P, X, LX, M, LM⟩ := D
  obtain ⟨G, W, g, gM, w, wM⟩ := id E
  have hn7 := G.1
  have h3 := G.2.2.2.2 (by omega)
  have hm : m < 40 ∨ sp_un n cr l m ≠ 0 := by
    by_cases h : sp_un n cr l m = 0
    · unfold sp_hd at hd
      rw [if_pos h] at hd
      exact Or.inl (sp_hi_0 hd)
    · exact Or.inr h
  obtain ⟨σ2, m1, m2⟩ := sx_moveOn (Or.inl rfl) G W P.1 g w X.1 X.2.1 X.2.2.2 (by omega) hl rfl
  rcases m2 with ⟨-, m2, m3, m4⟩ | ⟨q, -⟩
  · have hu := sp_u_le (n := n) (cr := cr) (l := l) (m := m)
    rw [sp_u_e] at m2
    have s2 : ∀ i, i ≠ 1 → σ2.1 18 i = σ.1 18 i := fun i hi => m1.1 18 i (by unfold sc_mv sc_law sc_po; omega)
    obtain ⟨σ3, t1, t2, t3, t4, t5⟩ := sx_tb41 (σ := σ2) (n := n) (m := mvm n m cr l) (co := co) (be := be) (lg := lg) (u := sp_u n cr l m) (x := l) (lt := l) (by omega) hn7 hu (by omega) m3.1 m4.1 ((s2 2 (by omega)).trans X.2.2.1) P.2.2.1 ((s2 3 (by omega)).trans X.2.2.2) (by omega) (lgx_co (fun i _ => m1.1 22 i (by unfold sc_mv sc_law sc_po; omega)) LX) (by rw [if_pos hl])
    have rX : xq_tail (nI l) σ = some (nI (sp_u n cr l m), σ3) := by
      unfold xq_tail
      rw [sx_hasl hn7 X.1.1 (by omega), if_pos hl, if_neg (show ¬ (1 : Int32) = 0 by decide), m2, rb_b2_some, rb_l0, rb_mx_nI (by decide) (by omega), show max 0 (sp_u n cr l m) = sp_u n cr l m by omega]
      exact t1
    obtain ⟨τ2, p1, p2, p3, p4⟩ := sm_passBeat (lg := lg) (co := co) (l := l) G W P.1 gM wM M LM P.2.2.1 (by omega) hl hm
    have ht9 := (sp_pr_le (ho := ho) (La := La) (wh := wh) (m := m) (cr := cr) (be := be) (l := l) G (by omega)).2
    have hm48 : m < 48 ∨ sp_un n cr l m ≠ 0 := by omega
    have m40 : mvm n m cr l ≤ 40 := p2.2.2.1.1
    have fx13 : rb_fr (fun c i => sc_18 c i) σ σ3 := (m1.mo (fun c i q => by
      rcases q with q | q
      · exact Or.inl q
      · exact Or.inr (by unfold sc_po at q; omega))).tr (t5.mo (fun c i q => Or.inr (by omega)))
    have fx : rb_fr acX σ σ3 := fx13.mo (fun c i q => by
      rcases q with q | q
      · exact Or.inl (Or.inr (Or.inr (Or.inr q)))
      · exact Or.inr (Or.inl q))
    have fm : rb_fr acM τ τ2 := p4.mo acM_17
    exact ⟨_, σ3, τ2, rX, p1, Rel_ac fx fm E O ⟨⟨_, ln, _, _, _, be + 1, _, ⟨pw_mv P.1 h3 hl hm48 ht9, m40, by omega, by omega, sp_lg_w P.2.2.2.2 (by omega) hu (by omega)⟩, ⟨rx_wh_fr t5 (fun c i q => by omega) m3, rx_cr_fr t5 (fun c i q => by omega) m4, t2, t3⟩, t4, p2, p3⟩, RAct_fr fx13 p4 (fun c i q => by unfold sc_18 sc_law at q; omega) (fun c i q => by unfold sc_17 at q; omega) A⟩, fx, fm, t3⟩
  · exact absurd hd q
theorem rb_tail20 {x : Nat} (D : RD n ru tr lc ho La wh ln m cr co be lg σ τ) (hbe : be < 999) (hx : x < 2 ^ 31) (hx2 : 2 * n ≤ x) : ∃ σ' τ', xq_tail (nI x) σ = some (0, σ') ∧ xf_M_passBeat 20 τ = some (0, τ') ∧ Rel σ' τ' ∧ rb_fr acX σ σ' ∧ rb_fr acM τ τ' ∧ σ'.1 18 3 = nI (be + 1) := by
  obtain ⟨E, O, A, P, X, LX, M, LM⟩ := D
  obtain ⟨G, W, g, gM, w, wM⟩ := id E
  have hn7 := G.1
  have hm40 := P.2.1
  obtain ⟨σ3, t1, t2, t3, t4, t5⟩ := sx_tb41 (σ := σ) (n := n) (m := m) (co := co) (be := be) (lg := lg) (u := 0) (x := x) (lt := 20) hx hn7 (by omega) (by omega) X.1.1 X.2.1.1 X.2.2.1 P.2.2.1 X.2.2.2 (by omega) LX (by rw [if_neg (by omega)]; rfl)
  obtain ⟨τ2, p1, p2, p3, p4⟩ := sm_passBeat20 (lg := lg) (τ := τ) M LM hn7 P.2.2.1 (by omega)
  have rX : xq_tail (nI x) σ = some (0, σ3) := by
    unfold xq_tail
    rw [sx_hasl hn7 X.1.1 hx, if_neg (show ¬ x < 2 * n by omega), if_pos rfl]
    exact t1
  have fx : rb_fr acX σ σ3 := t5.mo (fun c i q => acX_p c i (by omega))
  have fm : rb_fr acM τ τ2 := p4.mo acM_17
  refine ⟨σ3, τ2, rX, p1, Rel_ac fx fm E O ⟨⟨wh, ln, m, cr, co, be + 1, _, ⟨P.1, hm40, P.2.2.1, by omega, sp_lg_w P.2.2.2.2 (by omega) (by omega) (by omega)⟩, ⟨rx_wh_fr t5 (fun c i q => by omega) X.1, rx_cr_fr t5 (fun c i q => by omega) X.2.1, ?_, t3⟩, t4, p2, p3⟩, RAct_fr t5 p4 (fun c i q => by omega) (fun c i q => by unfold sc_17 at q; omega) A⟩, fx, fm, t3⟩
  rw [t2]; congr 1; have := P.2.2.1; omega
/-- what keeping leaves -/
theorem rb_keepD (D : RD n ru tr lc ho La wh ln m cr co be lg σ τ) : ∃ σ1 τ1, xf_Acts_keep 18 σ = some σ1 ∧ xf_M_keep τ = some τ1 ∧ RD n ru tr lc ho La wh ln m cr co be lg σ1 τ1 ∧ rb_fr (fun c i => c = 28 ∨ (30 ≤ c ∧ c < 230)) σ σ1 ∧ rb_fr (fun c i => (c = 0 ∧ i = 35) ∨ c = 22) τ τ1 := by
  obtain ⟨E, O, A, P, X, LX, M, LM⟩ := D
  obtain ⟨σ1, τ1, k1, k2, k3, k4, k5⟩ := rb_keep ⟨wh, ln, m, cr, co, be, lg, P, X, LX, M, LM⟩ A
  have r17 : τ1.1 17 = τ.1 17 := funext fun i => k5.1 17 i (by omega)
  exact ⟨σ1, τ1, k1, k2, ⟨REnv_fr k4 k5 (fun c i w => by omega) (fun c i w => by omega) E, ROth_fr k4 k5 (fun c i w => by omega) (fun c i w => by omega) O, k3, P, px_fr k4 (fun c i w => by omega) X, lgx_co (fun i _ => k4.1 22 i (by omega)) LX, by rw [r17]; exact M, by rw [r17]; exact LM⟩, k4, k5⟩
end RBT
theorem rb_downloop {z : Nat} (hz : z ≤ 9) : ∀ (d i f g : Nat) (σ τ : rb_St), i + d = z → Rel σ τ → 0 < σ.1 15 2 → d < f → d < g → ∃ t y σ' τ', xl_RP_down_67 (nI z) f (nI i) σ = some (t, nI y, σ') ∧ xl_M_down_62 (nI z) g (nI i) τ = some (nI y, τ') ∧ Rel σ' τ' ∧ (t = 0 ∨ y = z) := by
  intro d
  induction d with
  | zero =>
    intro i f g σ τ hi R h15 hf hg
    obtain ⟨f, rfl⟩ : ∃ q, f = q + 1 := ⟨f - 1, by omega⟩
    obtain ⟨g, rfl⟩ : ∃ q, g = q + 1 := ⟨g - 1, by omega⟩
    refine ⟨1, i, σ, τ, ?_, ?_, R, Or.inr (by omega)⟩
    · show (if nI z ≤ nI i then some (1, nI i, σ) else _) = _
      rw [if_pos (nI_le (by omega) (by omega))]
    · show (if nI z ≤ nI i then some (nI i, τ) else _) = _
      rw [if_pos (nI_le (by omega) (by omega))]
  | succ d ih =>
    intro i f g σ τ hi R h15 hf hg
    obtain ⟨f, rfl⟩ : ∃ q, f = q + 1 := ⟨f - 1, by omega⟩
    obtain ⟨g, rfl⟩ : ∃ q, g = q + 1 := ⟨g - 1, by omega⟩
    obtain ⟨n, ru, tr, lc, ho, La, wh, ln, m, cr, co, be, lg, D⟩ := Rel_D R
    obtain ⟨⟨gw1, -, gx1, gm1, -, -⟩, b, A, P, px1, -, pm1, -⟩ := id D
    have hbe := P.2.2.2.1
    have hm := P.2.1
    have xs : xl_RP_down_67 (nI z) (f + 1) (nI i) σ = if m = 0 then some (0, nI i, σ) else if be < 999 then rb_b1 (xf_Pole_undoingLetter 18 σ) (fun r12 => rb_b2 (xf_RP_takeBeat r12 σ) (fun r16 s14 => xl_RP_down_67 (nI z) f (nI (i + 1)) s14)) else some (0, nI i, σ) := by
      show (if nI z ≤ nI i then _ else if (σ.1 18 1) = 0 then some (0, nI i, σ) else if (σ.1 18 3) < 999 then rb_b1 (xf_Pole_undoingLetter 18 σ) (fun r12 => rb_b2 (xf_RP_takeBeat r12 σ) (fun r16 s14 => xl_RP_down_67 (nI z) f (nI i + 1) s14)) else some (0, nI i, σ)) = _
      rw [if_neg (nI_ge (by omega) (by omega)), px1.2.1.1, px1.2.2.2, nI_1, rb_l999, show (0 : Int32) = nI 0 from rfl]
      simp only [nI_eq (show m < 2 ^ 31 by omega) (show 0 < 2 ^ 31 by decide), nI_ltI (show be < 2 ^ 31 by omega) (show 999 < 2 ^ 31 by decide)]
    have ms : xl_M_down_62 (nI z) (g + 1) (nI i) τ = if be < 999 then (if m = 0 then some (nI i, τ) else rb_b1 (xf_M_keep τ) (fun s12 => rb_b1 (xf_M_letterDown s12) (fun r14 => rb_b2 (xf_M_passBeat r14 s12) (fun r18 s16 => xl_M_down_62 (nI z) g (nI (i + 1)) s16)))) else some (nI i, τ) := by
      show (if nI z ≤ nI i then _ else if (xf_M_isOver τ) = 0 then if (τ.1 17 14) ≤ 0 then some (nI i, τ) else rb_b1 (xf_M_keep τ) (fun s12 => rb_b1 (xf_M_letterDown s12) (fun r14 => rb_b2 (xf_M_passBeat r14 s12) (fun r18 s16 => xl_M_down_62 (nI z) g (nI i + 1) s16))) else some (nI i, τ)) = _
      rw [if_neg (nI_ge (by omega) (by omega)), sm_over pm1.2.2.2.2 hbe, pm1.2.2.1.2.1, nI_1]
      by_cases h9 : be < 999
      · rw [if_pos h9, if_pos h9, if_pos rfl]
        by_cases h0 : m = 0
        · subst h0; rw [if_pos (by decide), if_pos rfl]
        · rw [if_neg (nI_nle (by omega) (by omega)), if_neg h0]
      · rw [if_neg h9, if_neg h9, if_neg (show ¬ (1 : Int32) = 0 by decide)]
    rw [xs, ms]
    by_cases h0 : m = 0
    · rw [if_pos h0, if_pos h0]
      refine ⟨0, i, σ, τ, rfl, ?_, R, Or.inl rfl⟩
      split <;> rfl
    · rw [if_neg h0, if_neg h0]
      by_cases h9 : be < 999
      · rw [if_pos h9, if_pos h9]
        obtain ⟨σ1, τ1, k1, k2, D1, k4, k5⟩ := rb_keepD D
        obtain ⟨-, -, -, -, px2, -, pm2, -⟩ := id D1
        obtain ⟨x, hx1, hx2, hx3, hx4⟩ := rb_downl (σ := σ) (τ := τ1) P.1.2.2.1 px1.2.1 px1.1.1 pm2.2.2.1 D1.1.2.2.2.1.1 (by omega)
        have hd : sp_hd n wh ln m cr x (sp_pr n ru tr ho La wh m cr be x) = 0 := by unfold sp_hd; rw [if_neg hx2]
        obtain ⟨u, σ2, τ2, z1, z2, z3, z4, z5, z6⟩ := rb_tail D1 h9 hx1 hd
        rw [hx3, rb_b1_some, xq_take, k1, rb_b1_some, z1, rb_b2_some, k2, rb_b1_some, hx4, rb_b1_some, z2, rb_b2_some]
        refine ih (i + 1) f g σ2 τ2 (by omega) z3 ?_ (by omega) (by omega)
        rw [z4.1 15 2 (by unfold acX scX sc_law; omega), k4.1 15 2 (by omega)]
        exact h15
      · rw [if_neg h9, if_neg h9]
        exact ⟨0, i, σ, τ, rfl, rfl, R, Or.inl rfl⟩
theorem rb_ops_down : op_down Rel := by
  intro σ τ R p
  obtain ⟨n, ru, tr, lc, ho, La, wh, ln, m, cr, co, be, lg, D⟩ := Rel_D R
  obtain ⟨⟨gw1, -, gx1, gm1, -, -⟩, b, A, P, px1, -, pm1, -⟩ := id D
  have h7 := gw1.1
  have hbe := P.2.2.2.1
  have hm := P.2.1
  have ref : ∀ z : Nat, z < 5 → ∃ r σ' τ', rb_b2 (xf_RP_refuse (nI z) σ) (fun r20 s18 => some (r20, s18)) = some (r, σ') ∧ rb_b2 (xf_M_isRefused (nI z) τ) (fun r45 s43 => if r45 = 0 then rb_b2 (xl_M_down_62 p rb_FU 0 s43) (fun y47 s48 => some (y47, s48)) else some ((-1), s43)) = some (r, τ') ∧ Rel σ' τ' := by
    intro z hz
    obtain ⟨σ', τ', x1, x2, x3⟩ := rb_refR hz R
    exact ⟨-1, σ', τ', by rw [x1, rb_b2_some], by rw [x2, rb_b2_some, if_neg (show ¬ (1 : Int32) = 0 by decide)], x3⟩
  unfold xf_RP_down xf_M_down
  rw [rb_hasG h7 gx1.1, gm1.1, sm_over pm1.2.2.2.2 hbe, px1.2.2.2, px1.2.1.1, pm1.2.2.1.2.1, rb_l999]
  simp only [rb_ng h7]
  by_cases h : n = 0
  · simp only [if_pos h, if_true]
    exact ref 0 (by decide)
  · simp only [if_neg h, rb_10, if_false]
    by_cases h1 : p < 1
    · have e : xf_M_in p 1 9 τ = 0 := by unfold xf_M_in; rw [if_pos h1]
      simp only [if_pos h1, e, if_true]
      exact ref 1 (by decide)
    · obtain ⟨z, hj1, hj2, rfl⟩ := rb_lt1 h1
      rw [if_neg h1]
      by_cases h9 : z ≤ 9
      · have e : xf_M_in (nI z) 1 9 τ = 1 := rb_inT (b := 9) hj1 h9 (by decide)
        rw [if_pos (show nI z ≤ (9 : Int32) from nI_le (b := 9) h9 (by decide)), e, if_neg (show ¬ (1 : Int32) = 0 by decide)]
        by_cases h0 : m = 0
        · rw [if_pos (show nI m = 0 by rw [h0]; rfl), if_pos (show nI m = 0 by rw [h0]; rfl)]
          exact ref 2 (by decide)
        · rw [if_neg (nI_ne0 (by omega) (by omega)), if_neg (nI_ne0 (by omega) (by omega))]
          by_cases hb : be < 999
          · obtain ⟨t, y, σ', τ', x1, x2, x3, x4⟩ := rb_downloop h9 z 0 rb_FU rb_FU σ τ (by omega) R (by rw [gx1.1]; exact nI_lt (a := 0) (by omega) (by omega)) (by unfold rb_FU; omega) (by unfold rb_FU; omega)
            have x1' : xl_RP_down_67 (nI z) rb_FU 0 σ = some (t, nI y, σ') := x1
            have x2' : xl_M_down_62 (nI z) rb_FU 0 τ = some (nI y, τ') := x2
            refine ⟨nI y, σ', τ', ?_, ?_, x3⟩
            · rw [if_pos (nI_lt hb (by decide)), x1', rb_b3_some]
              by_cases ht : t = 0
              · rw [if_pos ht]
              · rw [if_neg ht, x4.resolve_left ht]
            · simp only [if_pos hb, if_true]
              rw [rb_refuseN, rb_b2_some, if_pos rfl, x2', rb_b2_some]
          · rw [if_neg (nI_nlt (by omega) (by omega))]
            simp only [if_neg hb, rb_10, if_false]
            exact ref 4 (by decide)
      · have e : xf_M_in (nI z) 1 9 τ = 0 := rb_inF (b := 9) hj1 (by omega) hj2
        rw [if_neg (show ¬ nI z ≤ (9 : Int32) from nI_ge (a := 9) (by omega) hj2), e, if_pos rfl]
        exact ref 1 (by decide)
