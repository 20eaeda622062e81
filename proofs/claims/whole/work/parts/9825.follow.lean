/-! FIGURES: where one comes to, who stands where behind them -/
def sp_st (n l s : Nat) : Nat := if l < 2 * n then (if s = l / 2 then sp_nx n (l / 2) else if s = sp_nx n (l / 2) then l / 2 else s) else s
def sp_fo (n : Nat) (ft : Nat → Nat) (s t : Nat) : Nat := rb_fo (fun i a => sp_st n (ft i) a) s t
def sp_pb (n : Nat) (ft : Nat → Nat) (fl s k : Nat) : Nat := rb_fo (fun _ a => sp_fo n ft a fl) s k
def sp_gs (n : Nat) (ft : Nat → Nat) (c : Nat → Nat) (t : Nat) : Nat → Nat := rb_fo (fun i c => if ft i < 2 * n then sp_sw n c (ft i / 2) else c) c t
def sp_gn (n : Nat) (ft : Nat → Nat) (fl : Nat) (c : Nat → Nat) (k : Nat) : Nat → Nat := rb_fo (fun _ c => sp_gs n ft c fl) c k
theorem sp_st_lt {n l s : Nat} (hn : n < 8) (hs : s < n) : sp_st n l s < n := by
  unfold sp_st
  by_cases h : l < 2 * n
  · have l1 := sp_nx_lt n hn (l / 2) (by omega)
    rw [if_pos h]
    repeat' split
    all_goals omega
  · rw [if_neg h]; exact hs
theorem sp_fo_lt {n : Nat} {ft : Nat → Nat} {s : Nat} (hn : n < 8) (hs : s < n) : ∀ t, sp_fo n ft s t < n := by
  intro t
  induction t with
  | zero => exact hs
  | succ t ih => exact sp_st_lt hn ih
theorem sp_pb_lt {n : Nat} {ft : Nat → Nat} {fl s : Nat} (hn : n < 8) (hs : s < n) : ∀ k, sp_pb n ft fl s k < n := by
  intro k
  induction k with
  | zero => exact hs
  | succ k ih => exact sp_fo_lt hn ih fl
theorem sp_sw_st {n l s : Nat} {c : Nat → Nat} (hn : n < 8) (h3 : 3 ≤ n) (hl : l < 2 * n) : sp_sw n c (l / 2) (sp_st n l s) = c s := by
  have ne := sp_nx_ne n hn h3 (l / 2) (by omega)
  unfold sp_st sp_sw
  rw [if_pos hl]
  by_cases h1 : s = l / 2
  · rw [if_pos h1, if_pos rfl, h1]
  · rw [if_neg h1]
    by_cases h2 : s = sp_nx n (l / 2)
    · rw [if_pos h2, if_neg (fun e => ne e.symm), if_pos rfl, h2]
    · rw [if_neg h2, if_neg h2, if_neg h1]
theorem sp_gs_fo {n : Nat} {ft c : Nat → Nat} {s : Nat} (hn : n < 8) (h3 : 3 ≤ n) : ∀ t, sp_gs n ft c t (sp_fo n ft s t) = c s := by
  intro t
  induction t with
  | zero => rfl
  | succ t ih =>
    show (if ft t < 2 * n then sp_sw n (sp_gs n ft c t) (ft t / 2) else sp_gs n ft c t) (sp_st n (ft t) (sp_fo n ft s t)) = c s
    by_cases h : ft t < 2 * n
    · rw [if_pos h, sp_sw_st hn h3 h, ih]
    · rw [if_neg h]
      unfold sp_st
      rw [if_neg h, ih]
theorem sp_gn_pb {n : Nat} {ft c : Nat → Nat} {fl s : Nat} (hn : n < 8) (h3 : 3 ≤ n) : ∀ k, sp_gn n ft fl c k (sp_pb n ft fl s k) = c s := by
  intro k
  induction k with
  | zero => rfl
  | succ k ih =>
    show sp_gs n ft (sp_gn n ft fl c k) fl (sp_fo n ft (sp_pb n ft fl s k) fl) = c s
    rw [sp_gs_fo hn h3, ih]
theorem sp_gs_wf {n : Nat} {ft c ln : Nat → Nat} (V : rb_wfw n c ln) : ∀ t, rb_wfw n (sp_gs n ft c t) ln := by
  intro t
  induction t with
  | zero => exact V
  | succ t ih =>
    show rb_wfw n (if ft t < 2 * n then sp_sw n (sp_gs n ft c t) (ft t / 2) else sp_gs n ft c t) ln
    by_cases h : ft t < 2 * n
    · rw [if_pos h]; exact sp_sw_wf ih (by omega)
    · rw [if_neg h]; exact ih
theorem sp_gn_wf {n : Nat} {ft c ln : Nat → Nat} {fl : Nat} (V : rb_wfw n c ln) : ∀ k, rb_wfw n (sp_gn n ft fl c k) ln := by
  intro k
  induction k with
  | zero => exact V
  | succ k ih => exact sp_gs_wf ih fl
section RBG
variable {n fc j : Nat} {fl : Nat → Nat} {ft : Nat → Nat → Nat} {σ τ τ' : rb_St}
theorem sx_follow (F : RFig fc fl ft σ τ) (hj : j < fc) (hn : n ≤ 7) {s : Nat} (hs : s < n) : xf_Fig_follow (256 + 2 * j) (nI s) (nI n) σ = some (nI (sp_fo n (ft j) s (fl j))) := by
  obtain ⟨e1, e2, e3, e4⟩ := F.2.2.2 j hj
  have h1 : xl_Fig_follow_5 (256 + 2 * j) (nI n) σ rb_FU (nI (sp_fo n (ft j) s 0)) 0 = some (nI (sp_fo n (ft j) s (fl j))) := by
    refine rb_up0 (xl_Fig_follow_5 (256 + 2 * j) (nI n) σ) (fun i => nI (sp_fo n (ft j) s i)) (fl j) (some (nI (sp_fo n (ft j) s (fl j)))) (by omega) (fun q i hi => ?_) (fun q => ?_)
    · obtain ⟨g1, g2, -⟩ := e4 i hi
      have hlt := sp_fo_lt (ft := ft j) (show n < 8 by omega) hs i
      have e5 : nI (ft j i) >>> ((1 : Int32) &&& 31) = nI (ft j i / 2) := rb_shr (s := 1) (by omega) (by decide)
      show (if (σ.1 (256 + 2 * j) 1) ≤ nI i then _ else if 48 ≤ nI i then _ else if rb_ib (nI i) 48 then rb_lt ((σ.1 (256 + 2 * j + 1) (nI i).toNatClampNeg) >>> (1 &&& 31)) (fun v4 => if (v4 + 1) = nI n then xj_Fig_follow_48 (fun b3 b4 => xl_Fig_follow_5 (256 + 2 * j) (nI n) σ q b3 b4) (256 + 2 * j) (nI n) (nI (sp_fo n (ft j) s i)) (nI i) v4 0 σ else xj_Fig_follow_48 (fun b3 b4 => xl_Fig_follow_5 (256 + 2 * j) (nI n) σ q b3 b4) (256 + 2 * j) (nI n) (nI (sp_fo n (ft j) s i)) (nI i) v4 (v4 + 1) σ) else none) = xl_Fig_follow_5 (256 + 2 * j) (nI n) σ q (nI (sp_st n (ft j i) (sp_fo n (ft j) s i))) (nI (i + 1))
      rw [e2, if_neg (nI_ge hi (by omega)), rb_l48, if_neg (nI_ge (by omega) (by omega)), rb_ib_nI (by omega) (by decide), if_pos rfl, nI_clamp (by omega), g2, e5, rb_lt_eq, nI_1]
      obtain ⟨a, ha⟩ : ∃ a, a = sp_fo n (ft j) s i := ⟨_, rfl⟩
      rw [← ha] at hlt ⊢
      have key : ∀ u : Nat, u ≤ 11 → (ft j i < 2 * n → u = sp_nx n (ft j i / 2)) → xj_Fig_follow_48 (fun b3 b4 => xl_Fig_follow_5 (256 + 2 * j) (nI n) σ q b3 b4) (256 + 2 * j) (nI n) (nI a) (nI i) (nI (ft j i / 2)) (nI u) σ = xl_Fig_follow_5 (256 + 2 * j) (nI n) σ q (nI (sp_st n (ft j i) a)) (nI (i + 1)) := by
        intro u hu11 hu
        unfold xj_Fig_follow_48 sp_st
        rw [nI_1]
        by_cases h : ft j i < 2 * n
        · rw [if_neg (nI_ge (by omega) (by omega)), if_pos h, ← hu h]
          by_cases c1 : a = ft j i / 2
          · rw [if_pos (by rw [c1]), if_pos c1]
          · rw [if_neg (fun e => c1 ((nI_eq (by omega) (by omega)).mp e)), if_neg c1]
            by_cases c2 : a = u
            · rw [if_pos (by rw [c2]), if_pos c2]
            · rw [if_neg (fun e => c2 ((nI_eq (by omega) (by omega)).mp e)), if_neg c2]
        · rw [if_pos (nI_le (by omega) (by omega)), if_neg h]
      by_cases hc : ft j i / 2 + 1 = n
      · rw [if_pos (by rw [hc])]
        exact key 0 (by omega) (fun _ => by unfold sp_nx; rw [if_neg (by omega)])
      · rw [if_neg (fun e => hc ((nI_eq (by omega) (by omega)).mp e))]
        exact key (ft j i / 2 + 1) (by omega) (fun h => by unfold sp_nx; rw [if_pos (by omega)])
    · show (if (σ.1 (256 + 2 * j) 1) ≤ nI (fl j) then _ else _) = _
      rw [e2, if_pos (nI_le (Nat.le_refl _) (by omega))]
  have h1' : xl_Fig_follow_5 (256 + 2 * j) (nI n) σ rb_FU (nI s) 0 = some (nI (sp_fo n (ft j) s (fl j))) := h1
  unfold xf_Fig_follow
  rw [h1', rb_b1_some]
theorem sx_placeBehind (F : RFig fc fl ft σ τ) (hj : j < fc) (h15 : σ.1 15 2 = nI n) (hn : n ≤ 7) {s k : Nat} (hs : s < n) (hk : k ≤ 100) : xf_RP_placeBehind (256 + 2 * j) (nI s) (nI k) σ = some (nI (sp_pb n (ft j) (fl j) s k)) := by
  have h1 : xl_RP_placeBehind_6 (256 + 2 * j) (nI k) σ rb_FU (nI (sp_pb n (ft j) (fl j) s 0)) 0 = some (nI (sp_pb n (ft j) (fl j) s k)) := by
    refine rb_up0 (xl_RP_placeBehind_6 (256 + 2 * j) (nI k) σ) (fun i => nI (sp_pb n (ft j) (fl j) s i)) k (some (nI (sp_pb n (ft j) (fl j) s k))) (by omega) (fun q i hi => ?_) (fun q => ?_)
    · show (if nI k ≤ nI i then _ else rb_b1 (xf_Fig_follow (256 + 2 * j) (nI (sp_pb n (ft j) (fl j) s i)) (σ.1 15 2) σ) fun r2 => xl_RP_placeBehind_6 (256 + 2 * j) (nI k) σ q r2 (nI i + 1)) = xl_RP_placeBehind_6 (256 + 2 * j) (nI k) σ q (nI (sp_fo n (ft j) (sp_pb n (ft j) (fl j) s i) (fl j))) (nI (i + 1))
      rw [if_neg (nI_ge hi (by omega)), h15, sx_follow F hj hn (sp_pb_lt (by omega) hs i), rb_b1_some, nI_1]
    · show (if nI k ≤ nI k then _ else _) = _
      rw [if_pos (nI_le (Nat.le_refl _) (by omega))]
  have h1' : xl_RP_placeBehind_6 (256 + 2 * j) (nI k) σ rb_FU (nI s) 0 = some (nI (sp_pb n (ft j) (fl j) s k)) := h1
  unfold xf_RP_placeBehind
  rw [h1', rb_b1_some]
/-- the reference: spots -/
def rm_sp (n : Nat) (c : Nat → Nat) (τ : rb_St) : Prop := ∀ p, p < n → τ.1 23 p = nI (c p)
def sc_23 (c i : Nat) : Prop := c = 23
theorem sm_go1 {c ln : Nat → Nat} (hj : j < fc) (hn : n ≤ 7) (h3 : 3 ≤ n) (V : rb_wfw n c ln) : ∀ (f t : Nat) (τ : rb_St), RFig fc fl ft σ τ → t ≤ fl j → fl j - t < f → τ.1 0 22 = nI n → rm_sp n (sp_gs n (ft j) c t) τ → ∃ τ', xl_M_goFigure_2 (nI j) f (nI t) τ = some τ' ∧ rm_sp n (sp_gs n (ft j) c (fl j)) τ' ∧ rb_fr sc_23 τ τ' := by
  intro f
  induction f with
  | zero => intro t τ _ _ hf; omega
  | succ f ih =>
    intro t τ F ht hf h22 hs
    obtain ⟨e1, e2, e3, e4⟩ := F.2.2.2 j hj
    have hf6 := F.1
    by_cases et : t = fl j
    · subst et
      refine ⟨τ, ?_, hs, rb_fr.rf⟩
      show (if rb_ib (nI j) 7 then if (τ.1 16 (nI j).toNatClampNeg) ≤ nI (fl j) then some τ else _ else none) = _
      rw [rb_ib_nI (by omega) (by decide), if_pos rfl, nI_clamp (by omega), e3, if_pos (nI_le (Nat.le_refl _) (by omega))]
    · have htl : t < fl j := by omega
      obtain ⟨g1, -, g3⟩ := e4 t htl
      have st : xl_M_goFigure_2 (nI j) (f + 1) (nI t) τ = rb_b1 (xf_M_stepOf (nI j) (nI t) τ) fun r3 => if r3 = 20 then xl_M_goFigure_2 (nI j) f (nI (t + 1)) τ else if rb_ib (r3 / 2) 7 then rb_b1 (xf_M_nextPlace (r3 / 2) τ) fun r7 => if rb_ib r7 7 then rb_lt (rb_sI τ 23 (r3 / 2).toNatClampNeg (τ.1 23 r7.toNatClampNeg)) (fun s10 => rb_b1 (xf_M_nextPlace (r3 / 2) s10) fun r12 => if rb_ib r12 7 then rb_lt (rb_sI s10 23 r12.toNatClampNeg (τ.1 23 (r3 / 2).toNatClampNeg)) (fun s15 => xl_M_goFigure_2 (nI j) f (nI (t + 1)) s15) else none) else none else none := by
        show (if rb_ib (nI j) 7 then if (τ.1 16 (nI j).toNatClampNeg) ≤ nI t then some τ else rb_b1 (xf_M_stepOf (nI j) (nI t) τ) fun r3 => if r3 = 20 then xl_M_goFigure_2 (nI j) f (nI t + 1) τ else if rb_ib (r3 / 2) 7 then rb_b1 (xf_M_nextPlace (r3 / 2) τ) fun r7 => if rb_ib r7 7 then rb_lt (rb_sI τ 23 (r3 / 2).toNatClampNeg (τ.1 23 r7.toNatClampNeg)) (fun s10 => rb_b1 (xf_M_nextPlace (r3 / 2) s10) fun r12 => if rb_ib r12 7 then rb_lt (rb_sI s10 23 r12.toNatClampNeg (τ.1 23 (r3 / 2).toNatClampNeg)) (fun s15 => xl_M_goFigure_2 (nI j) f (nI t + 1) s15) else none) else none else none else none) = _
        rw [rb_ib_nI (by omega) (by decide), if_pos rfl, nI_clamp (by omega), e3, if_neg (nI_ge htl (by omega)), nI_1]
      rw [st, sm_stepOf F hj h22 hn htl, rb_b1_some]
      have eg : sp_gs n (ft j) c (t + 1) = if ft j t < 2 * n then sp_sw n (sp_gs n (ft j) c t) (ft j t / 2) else sp_gs n (ft j) c t := rfl
      by_cases h : ft j t < 2 * n
      · have l1 := sp_nx_lt n (by omega) (ft j t / 2) (by omega)
        have e5 : nI (ft j t) / (2 : Int32) = nI (ft j t / 2) := pk_div (d := 2) (by omega) (by decide) (by decide)
        obtain ⟨s, hs2⟩ : ∃ s, s = rb_sI (rb_sI τ 23 (ft j t / 2) (τ.1 23 (sp_nx n (ft j t / 2)))) 23 (sp_nx n (ft j t / 2)) (τ.1 23 (ft j t / 2)) := ⟨_, rfl⟩
        have fr : rb_fr sc_23 τ s := by rw [hs2]; exact (rb_fr.sI (ch := sc_23) (k := 23) rfl).sI' (k := 23) rfl
        obtain ⟨τ', a1, a2, a3⟩ := ih (t + 1) s (RFig_fr (rb_fr.rf (ch := sc_23) (σ := σ)) fr (fun c i q => by unfold sc_23 at q; omega) (fun c i q => by unfold sc_23 at q; omega) F) (by omega) (by omega) (by rw [fr.1 0 22 (by unfold sc_23; omega)]; exact h22) (fun p hp => by
          rw [eg, if_pos h, hs2, rb_sI_at, rb_sI_at]
          unfold sp_sw
          by_cases c1 : p = sp_nx n (ft j t / 2)
          · rw [if_pos ⟨rfl, c1⟩, if_pos c1]; exact hs _ (by omega)
          · rw [if_neg (fun w => c1 w.2), if_neg c1]
            by_cases c2 : p = ft j t / 2
            · rw [if_pos ⟨rfl, c2⟩, if_pos c2]; exact hs _ l1
            · rw [if_neg (fun w => c2 w.2), if_neg c2]; exact hs p hp)
        refine ⟨τ', ?_, a2, fr.tr a3⟩
        have h4 : (rb_sI τ 23 (ft j t / 2) (τ.1 23 (sp_nx n (ft j t / 2)))).1 0 22 = nI n := by rw [rb_sIg _ _ _ _ _ _ (by omega)]; exact h22
        rw [if_pos h, if_neg (fun e => by have := (nI_eq (b := 20) (by omega) (by decide)).mp e; omega), e5, rb_ib_nI (by omega) (by decide), if_pos rfl, sm_nextPlace (by omega) h22 (by omega), rb_b1_some, rb_ib_nI (by omega) (by decide), if_pos rfl, nI_clamp (by omega), nI_clamp (by omega), rb_lt_eq, sm_nextPlace (by omega) h4 (by omega), rb_b1_some, rb_ib_nI (by omega) (by decide), if_pos rfl, nI_clamp (by omega), rb_lt_eq, ← hs2]
        exact a1
      · obtain ⟨τ', a1, a2, a3⟩ := ih (t + 1) τ F (by omega) (by omega) h22 (by rw [eg, if_neg h]; exact hs)
        refine ⟨τ', ?_, a2, a3⟩
        rw [if_neg h, if_pos rfl]
        exact a1
theorem sm_goFigure {c ln : Nat → Nat} (F : RFig fc fl ft σ τ) (hj : j < fc) (hn : n ≤ 7) (h3 : 3 ≤ n) (V : rb_wfw n c ln) (h22 : τ.1 0 22 = nI n) (hs : rm_sp n c τ) : ∃ τ', xf_M_goFigure (nI j) τ = some τ' ∧ rm_sp n (sp_gs n (ft j) c (fl j)) τ' ∧ rb_fr sc_23 τ τ' := by
  have := (F.2.2.2 j hj).1
  obtain ⟨τ', a1, a2, a3⟩ := sm_go1 (c := c) hj hn h3 V rb_FU 0 τ F (by omega) (by unfold rb_FU; omega) h22 hs
  have a1' : xl_M_goFigure_2 (nI j) rb_FU 0 τ = some τ' := a1
  refine ⟨τ', ?_, a2, a3⟩
  unfold xf_M_goFigure
  rw [a1', rb_b1_some]
theorem sm_start1 {c : Nat → Nat} {x : Int32} (hn : n ≤ 7) : ∀ (f t : Nat) (τ : rb_St), t ≤ n → n - t < f → τ.1 0 22 = nI n → (∀ p, p < n → nI (c p) = if x = 0 then nI p else τ.1 17 p) → (∀ p, p < t → τ.1 23 p = nI (c p)) → ∃ τ', xl_M_startAt_2 x f (nI t) τ = some τ' ∧ rm_sp n c τ' ∧ rb_fr sc_23 τ τ' := by
  intro f
  induction f with
  | zero => intro t τ _ hf; omega
  | succ f ih =>
    intro t τ ht hf h22 hc hs
    by_cases et : t = n
    · subst et
      refine ⟨τ, ?_, hs, rb_fr.rf⟩
      show (if τ.1 0 22 ≤ nI t then some τ else _) = _
      rw [h22, if_pos (nI_le (Nat.le_refl _) (by omega))]
    · have htn : t < n := by omega
      have fr : rb_fr sc_23 τ (rb_sI τ 23 t (nI (c t))) := rb_fr.sI rfl
      obtain ⟨τ', a1, a2, a3⟩ := ih (t + 1) (rb_sI τ 23 t (nI (c t))) (by omega) (by omega) (by rw [rb_sIg _ _ _ _ _ _ (by omega)]; exact h22) (fun p hp => by rw [rb_sI_row _ _ _ _ _ (by omega)]; exact hc p hp) (fun p hp => by
        rw [rb_sI_at]
        by_cases e : p = t
        · rw [if_pos ⟨rfl, e⟩, e]
        · rw [if_neg (fun w => e w.2)]; exact hs p (by omega))
      refine ⟨τ', ?_, a2, fr.tr a3⟩
      show (if τ.1 0 22 ≤ nI t then some τ else if x = 0 then if rb_ib (nI t) 7 then rb_lt (rb_sI τ 23 (nI t).toNatClampNeg (nI t)) (fun s4 => xl_M_startAt_2 x f (nI t + 1) s4) else none else if rb_ib (0 + nI t) 398 then if rb_ib (nI t) 7 then rb_lt (rb_sI τ 23 (nI t).toNatClampNeg (τ.1 17 (0 + nI t).toNatClampNeg)) (fun s8 => xl_M_startAt_2 x f (nI t + 1) s8) else none else none) = _
      have hct := hc t htn
      rw [h22, if_neg (nI_ge htn (by omega)), Int32.zero_add, rb_ib_nI (by omega) (by decide), rb_ib_nI (by omega) (by decide), if_pos rfl, if_pos rfl, nI_clamp (by omega), rb_lt_eq, rb_lt_eq, nI_1]
      by_cases hx : x = 0
      · rw [if_pos hx] at hct ⊢
        rw [hct] at a1
        exact a1
      · rw [if_neg hx] at hct ⊢
        rw [hct] at a1
        exact a1
theorem sm_spotOf {c ln : Nat → Nat} (V : rb_wfw n c ln) (h22 : τ.1 0 22 = nI n) (hs : rm_sp n c τ) {s : Nat} (hsn : s < n) : xf_M_spotOf (nI (c s)) τ = some (nI s) := by
  have hn := V.1
  have key : ∀ (f t : Nat) (x : Int32), t ≤ n → n - t < f → (s < t → x = nI s) → xl_M_spotOf_4 (nI (c s)) τ f x (nI t) = some (nI s) := by
    intro f
    induction f with
    | zero => intro t x _ hf; omega
    | succ f ih =>
      intro t x ht hf hx
      by_cases et : t = n
      · subst et
        show (if τ.1 0 22 ≤ nI t then some x else _) = _
        rw [h22, if_pos (nI_le (Nat.le_refl _) (by omega)), hx hsn]
      · have htn : t < n := by omega
        have b1 := V.2.1 t htn
        have b2 := V.2.1 s hsn
        show (if τ.1 0 22 ≤ nI t then some x else if rb_ib (nI t) 7 then if (τ.1 23 (nI t).toNatClampNeg) = nI (c s) then xl_M_spotOf_4 (nI (c s)) τ f (nI t) (nI t + 1) else xl_M_spotOf_4 (nI (c s)) τ f x (nI t + 1) else none) = _
        rw [h22, if_neg (nI_ge htn (by omega)), rb_ib_nI (by omega) (by decide), if_pos rfl, nI_clamp (by omega), hs t htn, nI_1]
        by_cases e : t = s
        · subst e
          rw [if_pos rfl]
          exact ih (t + 1) (nI t) (by omega) (by omega) (fun _ => rfl)
        · rw [if_neg (fun w => e (V.2.2.2 t s htn hsn ((nI_eq (by omega) (by omega)).mp w)))]
          exact ih (t + 1) x (by omega) (by omega) (fun w => hx (by omega))
  have := key rb_FU 0 (-1) (by omega) (by unfold rb_FU; omega) (fun w => by omega)
  have e : xl_M_spotOf_4 (nI (c s)) τ rb_FU (-1) 0 = some (nI s) := this
  unfold xf_M_spotOf
  rw [e, rb_b1_some]
theorem sm_times1 {c ln : Nat → Nat} {k : Nat} (L : Nat → Int32 → rb_St → Option rb_St) (hL : ∀ f i τ, L (f + 1) i τ = if nI k ≤ i then some τ else rb_b1 (xf_M_goFigure (nI j) τ) fun s => L f (i + 1) s) (hj : j < fc) (hn : n ≤ 7) (h3 : 3 ≤ n) (V : rb_wfw n c ln) (hk : k ≤ 100) : ∀ (f t : Nat) (τ : rb_St), RFig fc fl ft σ τ → t ≤ k → k - t < f → τ.1 0 22 = nI n → rm_sp n (sp_gn n (ft j) (fl j) c t) τ → ∃ τ', L f (nI t) τ = some τ' ∧ rm_sp n (sp_gn n (ft j) (fl j) c k) τ' ∧ rb_fr sc_23 τ τ' := by
  intro f
  induction f with
  | zero => intro t τ _ _ hf; omega
  | succ f ih =>
    intro t τ F ht hf h22 hs
    rw [hL]
    by_cases et : t = k
    · subst et
      exact ⟨τ, by rw [if_pos (nI_le (Nat.le_refl _) (by omega))], hs, rb_fr.rf⟩
    · obtain ⟨s, a1, a2, a3⟩ := sm_goFigure F hj hn h3 (sp_gn_wf V t) h22 hs
      obtain ⟨τ', b1, b2, b3⟩ := ih (t + 1) s (RFig_fr (rb_fr.rf (ch := sc_23) (σ := σ)) a3 (fun c i q => by unfold sc_23 at q; omega) (fun c i q => by unfold sc_23 at q; omega) F) (by omega) (by omega) (by rw [a3.1 0 22 (by unfold sc_23; omega)]; exact h22) a2
      exact ⟨τ', by rw [if_neg (nI_ge (by omega) (by omega)), a1, rb_b1_some, nI_1]; exact b1, b2, a3.tr b3⟩
theorem rb_idw (hn : n < 8) : rb_wfw n (fun p => p) (fun _ => 0) := ⟨hn, fun p hp => hp, fun _ _ => (by decide : 0 < 100), fun p q _ _ e => e⟩
/-- where a dancer would be behind k times, told from the first -/
theorem sm_toldSpot (F : RFig fc fl ft σ τ) (hj : j < fc) (hn : n ≤ 7) (h3 : 3 ≤ n) (h22 : τ.1 0 22 = nI n) {k s : Nat} (hk : k ≤ 100) (hs : s < n) : ∃ τ', xf_M_toldSpot (nI j) (nI k) (nI s) τ = some (nI (sp_pb n (ft j) (fl j) s k), τ') ∧ rb_fr sc_23 τ τ' := by
  obtain ⟨τ1, a1, a2, a3⟩ := sm_start1 (c := fun p => p) (x := 0) hn rb_FU 0 τ (by omega) (by unfold rb_FU; omega) h22 (fun p _ => by rw [if_pos rfl]) (fun p hp => by omega)
  have a1' : xl_M_startAt_2 0 rb_FU 0 τ = some τ1 := a1
  have h22' : τ1.1 0 22 = nI n := by rw [a3.1 0 22 (by unfold sc_23; omega)]; exact h22
  have F1 := RFig_fr (rb_fr.rf (ch := sc_23) (σ := σ)) a3 (fun c i q => by unfold sc_23 at q; omega) (fun c i q => by unfold sc_23 at q; omega) F
  obtain ⟨τ2, b1, b2, b3⟩ := sm_times1 (c := fun p => p) (k := k) (xl_M_toldSpot_8 (nI j) (nI k) (nI s)) (fun f i τ => rfl) hj hn h3 (rb_idw (by omega)) hk rb_FU 0 τ1 F1 (by omega) (by unfold rb_FU; omega) h22' a2
  have b1' : xl_M_toldSpot_8 (nI j) (nI k) (nI s) rb_FU 0 τ1 = some τ2 := b1
  have hp := sp_pb_lt (ft := ft j) (fl := fl j) (show n < 8 by omega) hs k
  have e := sm_spotOf (sp_gn_wf (ft := ft j) (fl := fl j) (rb_idw (show n < 8 by omega)) k) (by rw [b3.1 0 22 (by unfold sc_23; omega)]; exact h22') b2 hp
  rw [sp_gn_pb (by omega) h3] at e
  refine ⟨τ2, ?_, a3.tr b3⟩
  unfold xf_M_toldSpot xf_M_startAt
  rw [a1', rb_b1_some, rb_b1_some, b1', rb_b1_some, e, rb_b1_some]
end RBG
theorem scM_23 (c i : Nat) (h : sc_23 c i) : scM c i := by
  unfold sc_23 at h
  exact scM_q c i (by omega)
theorem rb_ops_behind : op_behind Rel := by
  intro σ τ R p q r
  obtain ⟨n, ru, tr, lc, ho, La, wh, ln, m, cr, co, be, lg, D⟩ := Rel_D R
  obtain ⟨⟨gw1, -, gx1, gm1, -, -⟩, ⟨⟨fc, fl, ft, F⟩, b⟩, A, P, px1, -, pm1, -⟩ := id D
  have h7 := gw1.1
  have hf6 := F.1
  have wM := pm_wh h7 gm1.1 pm1
  unfold xf_RP_behind xf_M_behind
  rw [sm_isF (fc := fc) h7 gm1.1]
  rcases rb_isF F.1 F.2.1 F.2.2.1 p with ⟨j, hj, rfl, e1, e2⟩ | ⟨e1, e2⟩
  · rw [e1, e2, if_neg (show ¬ (1 : Int32) = 0 by decide), if_neg (show ¬ (1 : Int32) = 0 by decide)]
    rcases rb_isD h7 gx1.1 gm1.1 r with ⟨d, hd, rfl, g1, g2⟩ | ⟨g1, g2⟩
    · have h3 := gw1.2.2.2.2 (by omega)
      rw [g1, g2, rb_b1_some, if_neg (show ¬ (1 : Int32) = 0 by decide), if_neg (show ¬ n = 0 by omega), if_neg (show ¬ (1 : Int32) = 0 by decide)]
      rcases rb_inL 0 99 (by decide) (by decide) q τ with ⟨k, _, h2, rfl, e⟩ | ⟨h2, e⟩
      · have e' : xf_M_in (nI k) 0 99 τ = 1 := e
        obtain ⟨s, hs, ews⟩ := P.1.2.1 d hd
        subst ews
        obtain ⟨τ1, a1, a2, a3⟩ := sm_start1 (c := wh) (x := 1) h7 rb_FU 0 τ (by omega) (by unfold rb_FU; omega) gm1.1 (fun p hp => by rw [if_neg (show ¬ (1 : Int32) = 0 by decide)]; exact (pm1.1 p hp).symm) (fun p hp => by omega)
        have a1' : xl_M_startAt_2 1 rb_FU 0 τ = some τ1 := a1
        have h22' : τ1.1 0 22 = nI n := by rw [a3.1 0 22 (by unfold sc_23; omega)]; exact gm1.1
        have F1 := RFig_fr (rb_fr.rf (ch := sc_23) (σ := σ)) a3 (fun c i q => by unfold sc_23 at q; omega) (fun c i q => by unfold sc_23 at q; omega) F
        obtain ⟨τ2, b1, b2, b3⟩ := sm_times1 (c := wh) (k := k) (xl_M_behind_36 (nI j) (nI k) (nI (wh s))) (fun f i τ => rfl) hj h7 h3 P.1.1 (by omega) rb_FU 0 τ1 F1 (by omega) (by unfold rb_FU; omega) h22' a2
        have b1' : xl_M_behind_36 (nI j) (nI k) (nI (wh s)) rb_FU 0 τ1 = some τ2 := b1
        have hp := sp_pb_lt (ft := ft j) (fl := fl j) (show n < 8 by omega) hs k
        have es := sm_spotOf (sp_gn_wf (ft := ft j) (fl := fl j) P.1.1 k) (by rw [b3.1 0 22 (by unfold sc_23; omega)]; exact h22') b2 hp
        rw [sp_gn_pb (by omega) h3] at es
        refine ⟨nI (sp_pb n (ft j) (fl j) s k), τ2, ?_, ?_, Rel_fr rb_fr.rf ((a3.tr b3).mo scM_23) R⟩
        · rw [if_neg (nI_pos (by omega)), if_pos (show nI k ≤ (99 : Int32) from nI_le (b := 99) h2 (by decide)), rb_ib_nI (by omega) (by decide), if_pos rfl, sx_placeOf P.1.1 px1.1 hs, rb_b1_some, nI_clamp (by omega), sx_placeBehind F hj gx1.1 h7 hs (by omega), rb_b1_some]
        · unfold xf_M_startAt
          rw [e', if_neg (show ¬ (1 : Int32) = 0 by decide), a1', rb_b1_some, rb_b1_some, b1', rb_b1_some, es, rb_b1_some, if_neg (show ¬ (1 : Int32) = 0 by decide)]
      · have e' : xf_M_in q 0 99 τ = 0 := e
        refine ⟨-1, τ, ?_, by rw [e', if_pos rfl], R⟩
        rcases h2 with h2 | ⟨h3, h2⟩
        · rw [if_pos (show q < 0 from h2)]
        · rw [if_neg (show ¬ q < 0 from h3), if_neg]
          intro w
          rw [Int32.lt_iff_toInt_lt] at h2
          rw [Int32.le_iff_toInt_le] at w
          rw [nI_toInt (by decide)] at h2
          have e9 : (99 : Int32).toInt = 99 := by decide
          omega
    · refine ⟨-1, τ, by rw [g1, if_pos rfl], ?_, R⟩
      rw [g2, rb_b1_some, if_pos rfl]
      repeat' split
      all_goals rfl
  · refine ⟨-1, τ, by rw [e1, if_pos rfl], ?_, R⟩
    rw [e2, if_pos (show (0 : Int32) = 0 from rfl)]
    by_cases h : n = 0
    · rw [if_pos h, if_pos rfl]
    · rw [if_neg h, if_pos rfl]
