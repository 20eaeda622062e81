/-! A BEAT, in both -/
theorem acX_k (c i : Nat) (q : c = 28 ∨ (30 ≤ c ∧ c < 230)) : acX c i := Or.inr (Or.inr q)
theorem acM_k (c i : Nat) (q : (c = 0 ∧ i = 35) ∨ c = 22) : acM c i := by
  rcases q with q | q
  · exact Or.inr (Or.inl q)
  · exact Or.inr (Or.inr (Or.inr q))
theorem acX_p (c i : Nat) (q : 18 ≤ c ∧ c < 23) : acX c i := Or.inr (Or.inl q)
theorem acM_17 (c i : Nat) (q : c = 9 ∨ c = 10 ∨ c = 17) : acM c i := by
  rcases q with q | q | q
  · exact Or.inl (Or.inr (Or.inl ⟨by omega, by omega⟩))
  · exact Or.inl (Or.inr (Or.inl ⟨by omega, by omega⟩))
  · exact Or.inr (Or.inr (Or.inl q))
theorem rb_u01 (u : Nat) (h : u ≤ 1) : u = 0 ∨ u = 1 := by omega
section RBB
variable {n lc ho m k be l co : Nat} {ru tr wh ln : Nat → Nat} {La : Nat → List sp_Cl} {cr lg : Nat → Nat → Nat} {σ τ : rb_St}
theorem pm_wh (hn : n ≤ 7) (h22 : τ.1 0 22 = nI n) (p : pm n wh ln m cr co be (τ.1 17)) : rm_wh n wh ln τ := ⟨h22, p.1, p.2.1⟩
def sp_u (n : Nat) (cr : Nat → Nat → Nat) (l m : Nat) : Nat := if sp_un n cr l m = 0 then 0 else 1
theorem sp_u_e : (if sp_un n cr l m = 0 then (0 : Int32) else 1) = nI (sp_u n cr l m) := by
  unfold sp_u
  by_cases h : sp_un n cr l m = 0
  · rw [if_pos h, if_pos h]; rfl
  · rw [if_neg h, if_neg h]; rfl
theorem sp_u_le : sp_u n cr l m ≤ 1 := by
  unfold sp_u
  split <;> omega
/-- the end of live: coins and the beat -/
theorem sm_live19 {u : Nat} (hu : u ≤ 1) (hco : co ≤ 999) (hbe : be < 2 ^ 30) (h5 : τ.1 17 215 = nI co) (h6 : τ.1 17 216 = nI be) : ∃ τ', xj_M_live_19 (nI u) τ = some (nI u, τ') ∧ τ'.1 17 215 = nI (min 999 (co + u)) ∧ τ'.1 17 216 = nI (be + 1) ∧ rb_fr (fun c i => c = 17 ∧ (i = 215 ∨ i = 216)) τ τ' := by
  refine ⟨rb_sI (rb_sI τ 17 215 (nI (min 999 (co + u)))) 17 216 (nI (be + 1)), ?_, by rw [rb_sIg _ _ _ _ _ _ (by omega), rb_sI_eq], rb_sI_eq _ _ _ _, (rb_fr.sI (by omega)).sI' (by omega)⟩
  have e215 : rb_ib (215 : Int32) 398 = true := by decide
  have c215 : (215 : Int32).toNatClampNeg = 215 := by decide
  unfold xj_M_live_19 xj_M_live_47
  rcases rb_u01 u hu with rfl | rfl
  · rw [if_pos (show nI 0 = (0 : Int32) from rfl), e215, if_pos rfl, rb_lt_eq, rb_lt_eq, c215, h5, Int32.add_zero, rb_l999, rb_mn_nI (by decide) (by omega), rb_sIg τ _ _ _ 17 216 (by omega), h6, nI_1, if_pos (show nI 0 = (0 : Int32) from rfl)]
    rfl
  · rw [if_neg (show ¬ nI 1 = (0 : Int32) by decide), e215, if_pos rfl, rb_lt_eq, rb_lt_eq, c215, h5, nI_1, rb_l999, rb_mn_nI (by decide) (by omega), rb_sIg τ _ _ _ 17 216 (by omega), h6, nI_1, if_neg (show ¬ nI 1 = (0 : Int32) by decide)]
    rfl
def sc_17 (c i : Nat) : Prop := c = 9 ∨ c = 10 ∨ c = 17
theorem sm_live (G : gw n ru tr) (W : lww lc ho La) (P : pw n wh ln m cr) (g : gm n ru tr τ) (w : lwm lc ho La τ) (p : pm n wh ln m cr co be (τ.1 17)) (hco : co ≤ 999) (hbe : be < 2 ^ 29) (hl : l < 2 * n) (hm : m < 40 ∨ sp_un n cr l m ≠ 0) : ∃ τ', xf_M_live (nI l) τ = some (nI (sp_u n cr l m), τ') ∧ pm n (sp_sw n wh (l / 2)) ln (mvm n m cr l) (mvc n wh m cr l (sp_pr n ru tr ho La wh m cr be l)) (min 999 (co + sp_u n cr l m)) (be + 1) (τ'.1 17) ∧ (∀ i, 217 ≤ i → τ'.1 17 i = τ.1 17 i) ∧ rb_fr sc_17 τ τ' := by
  have hn := G.1
  obtain ⟨τ1, a1, a2, a3, a4, a5⟩ := sm_crossNow G W P g w (pm_wh hn g.1 p) p.2.2.1 p.2.2.2.2 (by omega) hl rfl hm
  have hu := sp_u_le (n := n) (cr := cr) (l := l) (m := m)
  obtain ⟨τ2, b1, b2, b3, b4⟩ := sm_live19 (τ := τ1) hu hco (be := be) (by omega) ((a4 215 (by omega)).trans p.2.2.2.1) ((a4 216 (by omega)).trans p.2.2.2.2)
  refine ⟨τ2, ?_, ⟨fun q hq => ?_, fun q hq => ?_, ⟨a3.1, ?_, fun i hi j hj => ?_⟩, b2, b3⟩, fun i hi => ?_, (a5.mo (ch' := sc_17) (fun c i q => q)).tr (b4.mo (fun c i q => Or.inr (Or.inr q.1)))⟩
  · unfold xf_M_live
    rw [if_neg (fun e => by have := (nI_eq (b := 20) (by omega) (by decide)).mp e; omega), a1, rb_b2_some, sp_u_e]
    rcases rb_u01 _ hu with h | h
    · rw [h] at b1 ⊢
      rw [if_pos (show nI 0 = (0 : Int32) from rfl)]; exact b1
    · rw [h] at b1 ⊢
      rw [if_neg (show ¬ nI 1 = (0 : Int32) by decide)]; exact b1
  · rw [b4.1 17 q (by omega)]; exact a2.2.1 q hq
  · rw [b4.1 17 _ (by omega)]; exact a2.2.2 q hq
  · rw [b4.1 17 _ (by omega)]; exact a3.2.1
  · rw [b4.1 17 _ (by have := a3.1; omega)]; exact a3.2.2 i hi j hj
  · rw [b4.1 17 _ (by omega)]; exact a4 i (by omega)
theorem sm_live20 (p : pm n wh ln m cr co be (τ.1 17)) (hn : n ≤ 7) (hco : co ≤ 999) (hbe : be < 2 ^ 29) : ∃ τ', xf_M_live 20 τ = some (nI 0, τ') ∧ pm n wh ln m cr co (be + 1) (τ'.1 17) ∧ (∀ i, 217 ≤ i → τ'.1 17 i = τ.1 17 i) ∧ rb_fr sc_17 τ τ' := by
  obtain ⟨τ2, b1, b2, b3, b4⟩ := sm_live19 (τ := τ) (u := 0) (by omega) hco (be := be) (by omega) p.2.2.2.1 p.2.2.2.2
  refine ⟨τ2, ?_, ⟨fun q hq => ?_, fun q hq => ?_, ⟨p.2.2.1.1, ?_, fun i hi j hj => ?_⟩, ?_, b3⟩, fun i hi => ?_, b4.mo (fun c i q => by unfold sc_17; omega)⟩
  · unfold xf_M_live
    rw [if_pos rfl]; exact b1
  · rw [b4.1 17 q (by omega)]; exact p.1 q hq
  · rw [b4.1 17 _ (by omega)]; exact p.2.1 q hq
  · rw [b4.1 17 _ (by omega)]; exact p.2.2.1.2.1
  · rw [b4.1 17 _ (by have := p.2.2.1.1; omega)]; exact p.2.2.1.2.2 i hi j hj
  · rw [b2]; congr 1; omega
  · rw [b4.1 17 _ (by omega)]
theorem sm_passBeat (G : gw n ru tr) (W : lww lc ho La) (P : pw n wh ln m cr) (g : gm n ru tr τ) (w : lwm lc ho La τ) (p : pm n wh ln m cr co be (τ.1 17)) (L : lgm be lg (τ.1 17)) (hco : co ≤ 999) (hbe : be < 2 ^ 29) (hl : l < 2 * n) (hm : m < 40 ∨ sp_un n cr l m ≠ 0) : ∃ τ', xf_M_passBeat (nI l) τ = some (nI (sp_u n cr l m), τ') ∧ pm n (sp_sw n wh (l / 2)) ln (mvm n m cr l) (mvc n wh m cr l (sp_pr n ru tr ho La wh m cr be l)) (min 999 (co + sp_u n cr l m)) (be + 1) (τ'.1 17) ∧ lgm (be + 1) (sp_lg lg be l (sp_u n cr l m) (mvm n m cr l)) (τ'.1 17) ∧ rb_fr sc_17 τ τ' := by
  obtain ⟨τ1, a1, a2, a3, a4⟩ := sm_live G W P g w p hco hbe hl hm
  obtain ⟨τ2, b1, b2, b3⟩ := sm_logBeat (τ := τ1) (l := l) (u := sp_u n cr l m) (be := be) (lg := lg) (lgm_co (fun i h1 h2 => a3 i h1) L) a2.2.2.1.2.1
  refine ⟨τ2, ?_, pm_co (by have := G.1; omega) (fun i hi => b3.1 17 i (by omega)) a2, b2, a4.tr (b3.mo (fun c i q => by unfold sc_17; omega))⟩
  unfold xf_M_passBeat
  rw [a1, rb_b2_some]
  exact b1
theorem sm_passBeat20 (p : pm n wh ln m cr co be (τ.1 17)) (L : lgm be lg (τ.1 17)) (hn : n ≤ 7) (hco : co ≤ 999) (hbe : be < 2 ^ 29) : ∃ τ', xf_M_passBeat 20 τ = some (nI 0, τ') ∧ pm n wh ln m cr co (be + 1) (τ'.1 17) ∧ lgm (be + 1) (sp_lg lg be 20 0 m) (τ'.1 17) ∧ rb_fr sc_17 τ τ' := by
  obtain ⟨τ1, a1, a2, a3, a4⟩ := sm_live20 p hn hco hbe
  obtain ⟨τ2, b1, b2, b3⟩ := sm_logBeat (τ := τ1) (l := 20) (u := 0) (be := be) (lg := lg) (lgm_co (fun i h1 h2 => a3 i h1) L) a2.2.2.1.2.1
  refine ⟨τ2, ?_, pm_co (by omega) (fun i hi => b3.1 17 i (by omega)) a2, b2, a4.tr (b3.mo (fun c i q => by unfold sc_17; omega))⟩
  unfold xf_M_passBeat
  rw [a1, rb_b2_some]
  exact b1
def sc_18 (c i : Nat) : Prop := sc_law c i ∨ (18 ≤ c ∧ c < 23)
theorem px_fr {σ' : rb_St} {ch : Nat → Nat → Prop} (h : rb_fr ch σ σ') (hh : ∀ c i, ch c i → ¬ (k ≤ c ∧ c ≤ k + 3)) (q : px k n wh ln m cr co be σ) : px k n wh ln m cr co be σ' := ⟨rx_wh_fr h (fun c i w => by have := hh c i w; omega) q.1, rx_cr_fr h (fun c i w => by have := hh c i w; omega) q.2.1, (h.1 _ _ (fun w => hh _ _ w (by omega))).trans q.2.2.1, (h.1 _ _ (fun w => hh _ _ w (by omega))).trans q.2.2.2⟩
theorem sx_hasl (hn : n ≤ 7) (h : σ.1 k 0 = nI n) (hl : l < 2 ^ 31) : xf_Pole_hasPlace k (nI l >>> ((1 : Int32) &&& 31)) σ = if l < 2 * n then 1 else 0 := by
  have e1 : nI l >>> ((1 : Int32) &&& 31) = nI (l / 2) := rb_shr (s := 1) (by omega) (by decide)
  unfold xf_Pole_hasPlace
  rw [e1, if_neg (nI_pos (by omega)), h]
  by_cases hh : l < 2 * n
  · rw [if_neg (nI_ge (by omega) (by omega)), if_pos hh]
  · rw [if_pos (nI_le (by omega) (by omega)), if_neg hh]
/-- behind the move: coins, the log, the beat -/
theorem sx_tb41 {u x lt : Nat} (hx : x < 2 ^ 31) (hn : n ≤ 7) (hu : u ≤ 1) (hlt : lt ≤ 20) (h0 : σ.1 18 0 = nI n) (h1 : σ.1 18 1 = nI m) (h2 : σ.1 18 2 = nI co) (hco : co ≤ 999) (h3 : σ.1 18 3 = nI be) (hbe : be < 2 ^ 29) (L : lgx 18 be lg σ) (hlt2 : nI lt = if x < 2 * n then nI x else 20) : ∃ σ', xj_RP_takeBeat_41 (nI x) (nI u) σ = some (nI u, σ') ∧ σ'.1 18 2 = nI (min 999 (co + u)) ∧ σ'.1 18 3 = nI (be + 1) ∧ lgx 18 (be + 1) (sp_lg lg be lt u m) σ' ∧ rb_fr (fun c i => (c = 18 ∧ (i = 2 ∨ i = 3)) ∨ c = 22) σ σ' := by
  have tail : ∀ s : rb_St, s.1 18 0 = nI n → s.1 18 1 = nI m → s.1 18 3 = nI be → lgx 18 be lg s → ∃ s', xj_RP_takeBeat_69 (nI x) (nI u) s = some (nI u, s') ∧ s'.1 18 3 = nI (be + 1) ∧ lgx 18 (be + 1) (sp_lg lg be lt u m) s' ∧ rb_fr (fun c i => (c = 18 ∧ i = 3) ∨ c = 22) s s' := by
    intro s q0 q1 q3 qL
    obtain ⟨s', a1, a2, a3, a4⟩ := sx_noteBeat (k := 18) (l := lt) (u := u) (by omega) (by omega) (be := be) (by omega) q3 q1 qL
    refine ⟨s', ?_, a2, a3, a4⟩
    unfold xj_RP_takeBeat_69
    rw [sx_hasl hn q0 hx]
    rw [hlt2] at a1
    by_cases h : x < 2 * n
    · rw [if_pos h] at a1
      rw [if_pos h, if_neg (show ¬ (1 : Int32) = 0 by decide), a1, rb_b1_some]
    · rw [if_neg h] at a1
      rw [if_neg h, if_pos rfl, a1, rb_b1_some]
  unfold xj_RP_takeBeat_41
  rcases rb_u01 u hu with rfl | rfl
  · rw [if_neg (show ¬ nI 0 = (1 : Int32) by decide)]
    obtain ⟨s', a1, a2, a3, a4⟩ := tail σ h0 h1 h3 L
    refine ⟨s', a1, ?_, a2, a3, a4.mo (fun c i q => by omega)⟩
    rw [a4.1 _ _ (by omega), h2]; congr 1; omega
  · rw [if_pos (show nI 1 = (1 : Int32) from rfl), rb_lt_eq, h2, nI_1, rb_l999, rb_mn_nI (by decide) (by omega)]
    obtain ⟨s', a1, a2, a3, a4⟩ := tail (rb_sI σ 18 2 (nI (min 999 (co + 1)))) (by rw [rb_sIg _ _ _ _ _ _ (by omega)]; exact h0) (by rw [rb_sIg _ _ _ _ _ _ (by omega)]; exact h1) (by rw [rb_sIg _ _ _ _ _ _ (by omega)]; exact h3) (lgx_co (fun i _ => rb_sIg _ _ _ _ _ _ (by omega)) L)
    refine ⟨s', a1, ?_, a2, a3, (rb_fr.sI (by omega)).tr (a4.mo (fun c i q => by omega))⟩
    rw [a4.1 _ _ (by omega), rb_sI_eq]
/-- a beat with a crossing -/
theorem rb_beat (E : REnv n ru tr lc ho La σ τ) (O : ROth n σ τ) (A : RAct n σ τ) (P : PW n wh ln m cr co be lg) (X : px 18 n wh ln m cr co be σ) (LX : lgx 18 be lg σ) (M : pm n wh ln m cr co be (τ.1 17)) (LM : lgm be lg (τ.1 17)) (hbe : be < 999) (hl : l < 2 * n) (hd : sp_hd n wh ln m cr l (sp_pr n ru tr ho La wh m cr be l) = 0) : ∃ u σ' τ1 τ', xf_RP_takeBeat (nI l) σ = some (u, σ') ∧ xf_M_keep τ = some τ1 ∧ xf_M_passBeat (nI l) τ1 = some (u, τ') ∧ Rel σ' τ' ∧ rb_fr acX σ σ' ∧ rb_fr acM τ τ' ∧ rb_fr acM τ τ1 ∧ σ'.1 18 3 = nI (be + 1) := by
  obtain ⟨σ1, τ1, k1, k2, k3, k4, k5⟩ := rb_keep ⟨wh, ln, m, cr, co, be, lg, P, X, LX, M, LM⟩ A
  obtain ⟨G, W, g, gM, w, wM⟩ := id E
  have hn7 := G.1
  have h3 := G.2.2.2.2 (by omega)
  have hm : m < 40 ∨ sp_un n cr l m ≠ 0 := by
    by_cases h : sp_un n cr l m = 0
    · unfold sp_hd at hd
      rw [if_pos h] at hd
      exact Or.inl (sp_hi_0 hd)
    · exact Or.inr h
  -- the class
  have X1 := px_fr k4 (fun c i w => by omega) X
  have g1 := gx_fr k4 (fun c i w => by omega) g
  have w1 := lwx_fr W k4 (fun c i w => by omega) w
  obtain ⟨σ2, m1, m2⟩ := sx_moveOn (Or.inl rfl) G W P.1 g1 w1 X1.1 X1.2.1 X1.2.2.2 (by omega) hl rfl
  rcases m2 with ⟨-, m2, m3, m4⟩ | ⟨q, -⟩
  · have hu := sp_u_le (n := n) (cr := cr) (l := l) (m := m)
    rw [sp_u_e] at m2
    have s2 : ∀ i, i ≠ 1 → σ2.1 18 i = σ1.1 18 i := fun i hi => m1.1 18 i (by unfold sc_mv sc_law sc_po; omega)
    obtain ⟨σ3, t1, t2, t3, t4, t5⟩ := sx_tb41 (σ := σ2) (n := n) (m := mvm n m cr l) (co := co) (be := be) (lg := lg) (u := sp_u n cr l m) (x := l) (lt := l) (by omega) hn7 hu (by omega) m3.1 m4.1 ((s2 2 (by omega)).trans X1.2.2.1) P.2.2.1 ((s2 3 (by omega)).trans X1.2.2.2) (by omega) (lgx_co (fun i _ => (m1.1 22 i (by unfold sc_mv sc_law sc_po; omega)).trans (k4.1 22 i (by omega))) LX) (by rw [if_pos hl])
    have rX : xf_RP_takeBeat (nI l) σ = some (nI (sp_u n cr l m), σ3) := by
      unfold xf_RP_takeBeat
      rw [k1, rb_b1_some, sx_hasl hn7 X1.1.1 (by omega), if_pos hl, if_neg (show ¬ (1 : Int32) = 0 by decide), m2, rb_b2_some, rb_l0, rb_mx_nI (by decide) (by omega), show max 0 (sp_u n cr l m) = sp_u n cr l m by omega]
      exact t1
    -- the reference
    have gM1 := gm_fr k5 (fun c i w => by omega) gM
    have wM1 := lwm_fr k5 (fun c i w => by omega) wM
    have r17 : τ1.1 17 = τ.1 17 := funext fun i => k5.1 17 i (by omega)
    obtain ⟨τ2, p1, p2, p3, p4⟩ := sm_passBeat (lg := lg) (co := co) (l := l) G W P.1 gM1 wM1 (by rw [r17]; exact M) (by rw [r17]; exact LM) P.2.2.1 (by omega) hl hm
    have ht9 := (sp_pr_le (ho := ho) (La := La) (wh := wh) (m := m) (cr := cr) (be := be) (l := l) G (by omega)).2
    have hm48 : m < 48 ∨ sp_un n cr l m ≠ 0 := by omega
    have m40 : mvm n m cr l ≤ 40 := by
      have := p2.2.2.1.1
      exact this
    have fx13 : rb_fr (fun c i => sc_18 c i) σ1 σ3 := (m1.mo (fun c i q => by
      rcases q with q | q
      · exact Or.inl q
      · exact Or.inr (by unfold sc_po at q; omega))).tr (t5.mo (fun c i q => Or.inr (by omega)))
    have fx : rb_fr acX σ σ3 := (k4.mo acX_k).tr (fx13.mo (fun c i q => by
      rcases q with q | q
      · exact Or.inl (Or.inr (Or.inr (Or.inr q)))
      · exact Or.inr (Or.inl q)))
    have fm : rb_fr acM τ τ2 := (k5.mo acM_k).tr (p4.mo acM_17)
    refine ⟨_, σ3, τ1, τ2, rX, k2, p1, Rel_ac fx fm E O ⟨⟨_, ln, _, _, _, be + 1, _, ⟨pw_mv P.1 h3 hl hm48 ht9, m40, by omega, by omega, sp_lg_w P.2.2.2.2 (by omega) hu (by omega)⟩, ⟨rx_wh_fr t5 (fun c i q => by omega) m3, rx_cr_fr t5 (fun c i q => by omega) m4, t2, t3⟩, t4, p2, p3⟩, RAct_fr fx13 p4 (fun c i q => by unfold sc_18 sc_law at q; omega) (fun c i q => by unfold sc_17 at q; omega) k3⟩, fx, fm, k5.mo acM_k, t3⟩
  · exact absurd hd q
/-- a beat without anything -/
theorem rb_beat20 {x : Nat} (E : REnv n ru tr lc ho La σ τ) (O : ROth n σ τ) (A : RAct n σ τ) (P : PW n wh ln m cr co be lg) (X : px 18 n wh ln m cr co be σ) (LX : lgx 18 be lg σ) (M : pm n wh ln m cr co be (τ.1 17)) (LM : lgm be lg (τ.1 17)) (hbe : be < 999) (hx : x < 2 ^ 31) (hx2 : 2 * n ≤ x) : ∃ σ' τ1 τ', xf_RP_takeBeat (nI x) σ = some (0, σ') ∧ xf_M_keep τ = some τ1 ∧ xf_M_passBeat 20 τ1 = some (0, τ') ∧ Rel σ' τ' ∧ rb_fr acX σ σ' ∧ rb_fr acM τ τ' ∧ rb_fr acM τ τ1 ∧ σ'.1 18 3 = nI (be + 1) := by
  obtain ⟨σ1, τ1, k1, k2, k3, k4, k5⟩ := rb_keep ⟨wh, ln, m, cr, co, be, lg, P, X, LX, M, LM⟩ A
  obtain ⟨G, W, g, gM, w, wM⟩ := id E
  have hn7 := G.1
  have hm40 := P.2.1
  have X1 := px_fr k4 (fun c i w => by omega) X
  obtain ⟨σ3, t1, t2, t3, t4, t5⟩ := sx_tb41 (σ := σ1) (n := n) (m := m) (co := co) (be := be) (lg := lg) (u := 0) (x := x) (lt := 20) hx hn7 (by omega) (by omega) X1.1.1 X1.2.1.1 X1.2.2.1 P.2.2.1 X1.2.2.2 (by omega) (lgx_co (fun i _ => k4.1 22 i (by omega)) LX) (by rw [if_neg (by omega)]; rfl)
  have r17 : τ1.1 17 = τ.1 17 := funext fun i => k5.1 17 i (by omega)
  obtain ⟨τ2, p1, p2, p3, p4⟩ := sm_passBeat20 (lg := lg) (τ := τ1) (by rw [r17]; exact M) (by rw [r17]; exact LM) hn7 P.2.2.1 (by omega)
  have rX : xf_RP_takeBeat (nI x) σ = some (0, σ3) := by
    unfold xf_RP_takeBeat
    rw [k1, rb_b1_some, sx_hasl hn7 X1.1.1 hx, if_neg (show ¬ x < 2 * n by omega), if_pos rfl]
    exact t1
  have fx : rb_fr acX σ σ3 := (k4.mo acX_k).tr (t5.mo (fun c i q => acX_p c i (by omega)))
  have fm : rb_fr acM τ τ2 := (k5.mo acM_k).tr (p4.mo acM_17)
  refine ⟨σ3, τ1, τ2, rX, k2, p1, Rel_ac fx fm E O ⟨⟨wh, ln, m, cr, co, be + 1, _, ⟨P.1, hm40, P.2.2.1, by omega, sp_lg_w P.2.2.2.2 (by omega) (by omega) (by omega)⟩, ⟨rx_wh_fr t5 (fun c i q => by omega) X1.1, rx_cr_fr t5 (fun c i q => by omega) X1.2.1, ?_, t3⟩, t4, p2, p3⟩, RAct_fr t5 p4 (fun c i q => by omega) (fun c i q => by unfold sc_17 at q; omega) k3⟩, fx, fm, k5.mo acM_k, t3⟩
  rw [t2]; congr 1; have := P.2.2.1; omega
end RBB
