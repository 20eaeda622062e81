/-! CLAUSES OF A GREEN; the fault of a green; a green is taken -/
def GD (nd hr : Nat) (ru tr : Nat → Nat) (σ τ : rb_St) : Prop := nd ≤ 7 ∧ hr ≤ 1 ∧ σ.1 4 2 = nI nd ∧ τ.1 0 19 = nI nd ∧ σ.1 3 3 = nI hr ∧ (∀ k, k < 3 → loR k ≤ ru k ∧ ru k ≤ hiR k ∧ σ.1 5 k = nI (ru k) ∧ τ.1 11 k = nI (ru k)) ∧ (hr = 0 → ∀ k, k < 3 → ru k = dfR k) ∧ ∀ i, i < 3 * nd → tr i ≤ 99 ∧ σ.1 6 i = nI (tr i) ∧ τ.1 12 i = nI (tr i)
def scGX (c i : Nat) : Prop := 3 ≤ c ∧ c ≤ 6
def scGM (c i : Nat) : Prop := (c = 0 ∧ (i = 3 ∨ i = 4 ∨ i = 19)) ∨ c = 11 ∨ c = 12
theorem loD_h : ∀ k, k < 3 → hiD k ≤ 99 := by decide
theorem scB_G (c i : Nat) (h : scB c i) : scGM c i := Or.inl ⟨h.1, Or.inl h.2⟩
theorem scA_G (c i : Nat) (h : scA 3 c i) : scGX c i := by
  unfold scA at h
  unfold scGX
  omega
section RBCL
variable {m : Nat} {t : Nat → Nat}
theorem GD_fr {nd hr : Nat} {ru tr : Nat → Nat} {s8 u8 s u : rb_St} (hG : GD nd hr ru tr s8 u8) (f1 : rb_fr (scA 3) s8 s) (f2 : rb_fr scB u8 u) : GD nd hr ru tr s u := by
  obtain ⟨E1, E2, E3, E4, E5, E6, E7, E8⟩ := hG
  refine ⟨E1, E2, ?_, ?_, ?_, fun k hk => ?_, E7, fun i hi => ?_⟩
  · rw [f1.1 4 2 (by unfold scA; omega)]; exact E3
  · rw [f2.1 0 19 (by unfold scB; omega)]; exact E4
  · rw [f1.1 3 3 (by unfold scA; omega)]; exact E5
  · rw [f1.1 5 k (by unfold scA; omega), f2.1 11 k (by unfold scB; omega)]; exact E6 k hk
  · rw [f1.1 6 i (by unfold scA; omega), f2.1 12 i (by unfold scB; omega)]; exact E8 i hi
/-- behind a clause: the reference goes on, or stops -/
theorem sm_153 (W : tw m t) {e : Nat} {τ : rb_St} (he : e ≤ m) (hs : sp_sk t m e = e) (rc : Int32 → Int32 → rb_St → Option rb_St) (x1 : Int32) (hT : TM m t e τ) (hw : τ.1 0 4 = -1) : ∃ τ', rb_fr scB τ τ' ∧ ((sp_sg t m e = 59 ∧ xj_M_readGreen_153 rc x1 τ = rc x1 1 τ' ∧ TM m t (e + 1) τ') ∨ (sp_sg t m e ≠ 59 ∧ xj_M_readGreen_153 rc x1 τ = rc x1 0 τ' ∧ TM m t e τ')) := by
  obtain ⟨u, l1, l2, l3⟩ := sm_look W he hT
  rw [hs] at l1 l2
  unfold xj_M_readGreen_153 xj_M_readGreen_175
  rw [if_pos hw, l1, rb_b2_some, l2.2.2]
  by_cases h : sp_sg t m e = 59
  · refine ⟨rb_sI u 0 3 (nI (e + 1)), l3.sI' (k := 0) (j := 3) ⟨rfl, rfl⟩, Or.inl ⟨h, ?_, TM_at l2⟩⟩
    rw [if_pos h, if_neg (show ¬ (1 : Int32) = 0 by decide), rb_lt_eq, nI_1]
  · refine ⟨rb_sI u 0 3 (nI e), l3.sI' (k := 0) (j := 3) ⟨rfl, rfl⟩, Or.inr ⟨h, ?_, TM_at l2⟩⟩
    rw [if_neg h, if_pos rfl, rb_lt_eq, Int32.add_zero]
theorem sm_153b {p : Nat} {τ : rb_St} (hp : p < 2 ^ 31) (rc : Int32 → Int32 → rb_St → Option rb_St) (x1 : Int32) (hw : τ.1 0 4 = nI p) : ∃ τ', rb_fr scB τ τ' ∧ xj_M_readGreen_153 rc x1 τ = rc x1 0 τ' := by
  refine ⟨rb_sI τ 0 3 (τ.1 0 3 + 0), rb_fr.sI ⟨rfl, rfl⟩, ?_⟩
  unfold xj_M_readGreen_153 xj_M_readGreen_175
  rw [hw, if_neg (rb_neg1 hp), if_pos rfl, rb_lt_eq]
def gOut (m : Nat) (t : Nat → Nat) (cd : Nat) (σ' τ' : rb_St) : Prop := (cd = 1 ∧ TX 3 m t m σ' ∧ TM m t m τ' ∧ τ'.1 0 4 = -1 ∧ ∃ nd hr ru tr, GD nd hr ru tr σ' τ') ∨ (cd ≠ 1 ∧ ∃ e, e ≤ m ∧ sp_sk t m e = e ∧ σ'.1 3 1 = nI e ∧ TM m t e τ' ∧ τ'.1 0 4 = -1 ∧ sp_sg t m e ≠ -1) ∨ (cd ≠ 1 ∧ ∃ e, e ≤ m ∧ σ'.1 3 1 = nI e ∧ τ'.1 0 4 = nI e)
theorem sp_sg_end {e : Nat} (h : sp_sg t m e = -1) (W : tw m t) : ¬ e < m := by
  intro q
  unfold sp_sg at h
  rw [if_pos q] at h
  exact rb_neg1 (show t e < 2 ^ 31 by have := W.2 e q; omega) h
theorem rb_greenl (W : tw m t) : ∀ (r q a f g nd hr : Nat) (ru tr : Nat → Nat) (σ τ : rb_St), m < a + r → r < f → r + 1 < g → 2 * q ≤ a → a ≤ m → TX 3 m t a σ → TM m t a τ → τ.1 0 4 = -1 → GD nd hr ru tr σ τ → ∃ cd σ' τ', xl_GR_readAll_19 f (nI q) σ = some (cd, σ') ∧ xl_M_readGreen_44 g (nI hr) 1 τ = some τ' ∧ rb_fr scGX σ σ' ∧ rb_fr scGM τ τ' ∧ gOut m t cd σ' τ' := by
  have hm := W.1
  intro r
  induction r with
  | zero => intro q a f g nd hr ru tr σ τ h1 _ _ _ h2; omega
  | succ r ih =>
    intro q a f g nd hr ru tr σ τ hr1 hf hg hq ha hX hT hw hD
    obtain ⟨f, rfl⟩ : ∃ q, f = q + 1 := ⟨f - 1, by omega⟩
    obtain ⟨g, rfl⟩ : ∃ q, g = q + 1 := ⟨g - 1, by omega⟩
    obtain ⟨g0, rfl⟩ : ∃ q, g = q + 1 := ⟨g - 1, by omega⟩
    obtain ⟨D1, D2, D3, D4, D5, D6, D7, D8⟩ := id hD
    obtain ⟨s1, b1, b2, b3⟩ := sx_nextG W ha hX
    obtain ⟨u1, c1, c2, c3⟩ := sm_look W ha hT
    obtain ⟨hp1, hp2⟩ := sp_sk_le (t := t) ha
    obtain ⟨p, hp⟩ : ∃ p, p = sp_sk t m a := ⟨_, rfl⟩
    rw [← hp] at b1 b2 c1 c2 hp1 hp2
    have w1 : u1.1 0 4 = -1 := by rw [c3.1 0 4 (by unfold scB; omega)]; exact hw
    have fs1 : rb_fr scGX σ s1 := b3.mo scA_G
    have fu1 : rb_fr scGM τ u1 := c3.mo scB_G
    have hD1 := GD_fr hD b3 c3
    obtain ⟨K1, K2, K3, K4, K5, K6, K7, K8⟩ := id hD1
    -- the class's loop
    have SX : xl_GR_readAll_19 (f + 1) (nI q) σ = rb_b2 (xf_GR_readClause σ) fun r10 s8 => if r10 = 0 then some (0, s8) else rb_b2 (xf_Rd_nextSignG s8) fun r14 s12 => if r14 = (-1) then some (1, s12) else rb_b2 (xf_Rd_passesG 59 s12) fun r18 s16 => if r18 = 0 then some (2, s16) else xl_GR_readAll_19 f (nI q + 1) s16 := by
      show (if 240 ≤ nI q then some (3, σ) else _) = _
      rw [if_neg (show ¬ (240 : Int32) ≤ nI q from nI_ge (b := 240) (by omega) (by decide))]
    have SM : xl_M_readGreen_44 (g0 + 1 + 1) (nI hr) 1 τ = if sp_sg t m p = 115 then if nI hr = 0 then rb_lt (rb_sI u1 0 3 ((u1.1 0 3) + 1)) (fun s42 => rb_b1 (xf_M_items_r (sp_sg t m p) 0 s42) fun s44 => xj_M_readGreen_153 (fun b1 b2 τ => xl_M_readGreen_44 (g0 + 1) b1 b2 τ) 1 s44) else xj_M_readGreen_96 (fun b1 b2 τ => xl_M_readGreen_44 (g0 + 1) b1 b2 τ) (nI hr) (sp_sg t m p) u1 else xj_M_readGreen_96 (fun b1 b2 τ => xl_M_readGreen_44 (g0 + 1) b1 b2 τ) (nI hr) (sp_sg t m p) u1 := by
      show (if (1 : Int32) = 0 then some τ else if (τ.1 0 4) = (-1) then rb_b2 (xf_M_look τ) _ else some τ) = _
      rw [if_neg (by decide), if_pos hw, c1, rb_b2_some]
    have stop : ∀ (x1 : Int32) (u : rb_St), xl_M_readGreen_44 (g0 + 1) x1 0 u = some u := by
      intro x1 u
      show (if (0 : Int32) = 0 then some u else _) = _
      rw [if_pos rfl]
    -- all that comes behind a clause
    have tail : ∀ (cr' : Int32) (s8 u8 : rb_St) (x1 : Int32) (nd' hr' : Nat) (ru' tr' : Nat → Nat), (cr' = 0 ∨ cr' = 1) → xf_GR_readClause σ = some (cr', s8) → xl_M_readGreen_44 (g0 + 1 + 1) (nI hr) 1 τ = xj_M_readGreen_153 (fun b1 b2 τ => xl_M_readGreen_44 (g0 + 1) b1 b2 τ) x1 u8 → x1 = nI hr' → rb_fr scGX σ s8 → rb_fr scGM τ u8 → p < m → iOut m t (p + 1) (if cr' = 1 then 0 else 1) s8 u8 → (cr' = 1 → GD nd' hr' ru' tr' s8 u8) → ∃ cd σ' τ', xl_GR_readAll_19 (f + 1) (nI q) σ = some (cd, σ') ∧ xl_M_readGreen_44 (g0 + 1 + 1) (nI hr) 1 τ = some τ' ∧ rb_fr scGX σ σ' ∧ rb_fr scGM τ τ' ∧ gOut m t cd σ' τ' := by
      intro cr' s8 u8 x1 nd' hr' ru' tr' h01 hc hM hx1 fs8 fu8 hpm hO hG
      rw [SX, hM, hc, rb_b2_some]
      rcases h01 with h0 | h0
      · rw [if_pos h0]
        rw [if_neg (by rw [h0]; decide)] at hO
        rcases hO with ⟨n1, -⟩ | ⟨-, e, n2, n3, n4, n5, n6, n7, n8⟩ | ⟨-, e, n2, n3, n4⟩
        · omega
        · obtain ⟨u9, k1, k3⟩ := sm_153 W n2 n3 (fun b1 b2 τ => xl_M_readGreen_44 (g0 + 1) b1 b2 τ) x1 n5 n6
          rcases k3 with ⟨k3, -⟩ | ⟨-, k4, k5⟩
          · exact absurd k3 n8
          · rw [k4, stop]
            exact ⟨0, s8, u9, rfl, rfl, fs8, fu8.tr (k1.mo scB_G), Or.inr (Or.inl ⟨by omega, e, n2, n3, n4, k5, by rw [k1.1 0 4 (by unfold scB; omega)]; exact n6, n7⟩)⟩
        · obtain ⟨u9, k1, k3⟩ := sm_153b (show e < 2 ^ 31 by omega) (fun b1 b2 τ => xl_M_readGreen_44 (g0 + 1) b1 b2 τ) x1 n4
          rw [k3, stop]
          exact ⟨0, s8, u9, rfl, rfl, fs8, fu8.tr (k1.mo scB_G), Or.inr (Or.inr ⟨by omega, e, n2, n3, by rw [k1.1 0 4 (by unfold scB; omega)]; exact n4⟩)⟩
      · rw [if_neg (show ¬ cr' = 0 by rw [h0]; decide)]
        rw [if_pos h0] at hO
        have hG := hG h0
        rcases hO with ⟨-, e, n2, n3, n4, n5, n6, n7, n8⟩ | ⟨n1, -⟩ | ⟨n1, -⟩
        · obtain ⟨s12, y1, y2, y3⟩ := sx_nextG W n3 n5
          rw [n4] at y1 y2
          obtain ⟨u9, k1, k3⟩ := sm_153 W n3 n4 (fun b1 b2 τ => xl_M_readGreen_44 (g0 + 1) b1 b2 τ) x1 n6 n7
          have f12 : rb_fr scGX σ s12 := fs8.tr (y3.mo scA_G)
          have w9 : u9.1 0 4 = -1 := by rw [k1.1 0 4 (by unfold scB; omega)]; exact n7
          rw [y1, rb_b2_some]
          rcases n8 with n8 | n8
          · have hem : e = m := by have := sp_sg_end n8 W; omega
            rcases k3 with ⟨k3, -⟩ | ⟨-, k4, k5⟩
            · rw [n8] at k3; exact absurd k3 (by decide)
            · rw [k4, stop, if_pos n8]
              subst hem
              exact ⟨1, s12, u9, rfl, rfl, f12, fu8.tr (k1.mo scB_G), Or.inl ⟨rfl, y2, k5, w9, nd', hr', ru', tr', GD_fr hG y3 k1⟩⟩
          · rw [if_neg (by rw [n8]; decide)]
            obtain ⟨s16, z1, z2⟩ := sx_passG W n3 y2 59 (by decide)
            rw [n4] at z2
            rcases z2 with ⟨-, z2, z3, z4⟩ | ⟨z2, -⟩
            · rcases k3 with ⟨-, k4, k5⟩ | ⟨k3, -⟩
              · rw [z2, rb_b2_some, if_neg (show ¬ (1 : Int32) = 0 by decide), nI_1, k4]
                have f16 : rb_fr scGX σ s16 := f12.tr (z1.mo scA_G)
                obtain ⟨cd, σ', τ', o1, o2, o3, o4, o5⟩ := ih (q + 1) (e + 1) f (g0 + 1) nd' hr' ru' tr' s16 u9 (by omega) (by omega) (by omega) (by omega) (by omega) z3 k5 w9 (GD_fr hG (y3.tr z1) k1)
                rw [hx1]
                exact ⟨cd, σ', τ', o1, o2, f16.tr o3, (fu8.tr (k1.mo scB_G)).tr o4, o5⟩
              · exact absurd n8 k3
            · exact absurd n8 z2
        · omega
        · omega
    -- no such clause
    have nocl : xf_GR_readClause σ = some (0, s1) → (∃ x1, xl_M_readGreen_44 (g0 + 1 + 1) (nI hr) 1 τ = rb_b1 (xf_M_bad u1) fun s20 => xj_M_readGreen_153 (fun b1 b2 τ => xl_M_readGreen_44 (g0 + 1) b1 b2 τ) x1 s20) → ∃ cd σ' τ', xl_GR_readAll_19 (f + 1) (nI q) σ = some (cd, σ') ∧ xl_M_readGreen_44 (g0 + 1 + 1) (nI hr) 1 τ = some τ' ∧ rb_fr scGX σ σ' ∧ rb_fr scGM τ τ' ∧ gOut m t cd σ' τ' := by
      rintro hc ⟨x1, hM⟩
      obtain ⟨u2, g1, g2, g3⟩ := sm_bad w1 c2.2.2
      obtain ⟨u9, k1, k3⟩ := sm_153b (show p < 2 ^ 31 by omega) (fun b1 b2 τ => xl_M_readGreen_44 (g0 + 1) b1 b2 τ) x1 g2
      rw [SX, hM, hc, rb_b2_some, if_pos rfl, g1, rb_b1_some, k3, stop]
      exact ⟨0, s1, u9, rfl, rfl, fs1, (fu1.tr (g3.mo (fun c i q => Or.inl ⟨q.1, Or.inr (Or.inl q.2)⟩))).tr (k1.mo scB_G), Or.inr (Or.inr ⟨by omega, p, hp2, b2.2.2, by rw [k1.1 0 4 (by unfold scB; omega)]; exact g2⟩)⟩
    -- a dancer, or nothing
    have dd : (¬ (sp_sg t m p = 115 ∧ hr = 0)) → xl_M_readGreen_44 (g0 + 1 + 1) (nI hr) 1 τ = xj_M_readGreen_96 (fun b1 b2 τ => xl_M_readGreen_44 (g0 + 1) b1 b2 τ) (nI hr) (sp_sg t m p) u1 → xf_GR_readClause σ = xj_GR_readClause_54 (sp_sg t m p) s1 → ∃ cd σ' τ', xl_GR_readAll_19 (f + 1) (nI q) σ = some (cd, σ') ∧ xl_M_readGreen_44 (g0 + 1 + 1) (nI hr) 1 τ = some τ' ∧ rb_fr scGX σ σ' ∧ rb_fr scGM τ τ' ∧ gOut m t cd σ' τ' := by
      intro _ hM hc
      unfold xj_M_readGreen_96 at hM
      unfold xj_GR_readClause_54 at hc
      rw [K4] at hM
      rw [K3] at hc
      by_cases h1 : sp_sg t m p = 100
      · rw [if_pos h1] at hM hc
        have hpm : p < m := by
          by_cases h : p < m
          · exact h
          · unfold sp_sg at h1; rw [if_neg h] at h1; exact absurd h1 (by decide)
        by_cases h2 : 7 ≤ nd
        · rw [if_pos (show (7 : Int32) ≤ nI nd from nI_le (a := 7) h2 (by omega))] at hM hc
          exact nocl hc ⟨_, hM⟩
        · rw [if_neg (show ¬ (7 : Int32) ≤ nI nd from nI_ge (b := 7) (by omega) (by decide))] at hM hc
          -- the class adds one
          have e3 : nI nd * 3 = nI (3 * nd) := by rw [rb_l3, pk_mul, Nat.mul_comm]
          have e3' : (3 : Int32) * nI nd = nI (3 * nd) := by rw [rb_l3, pk_mul]
          have a1 := rb_st3 (xl_Green_addDancer_9 (nI (3 * nd))) 6 (3 * nd) (fun k => nI (dfD k)) (fun f k τ hk => by
            show (if 3 ≤ nI k then some τ else if 24 ≤ (nI (3 * nd) + nI k) then some τ else if rb_ib (nI k) 3 then if rb_ib (nI (3 * nd) + nI k) 24 then rb_lt (rb_sI τ 6 (nI (3 * nd) + nI k).toNatClampNeg ((rb_sv 5).getD (nI k).toNatClampNeg 0)) (fun s5 => xl_Green_addDancer_9 (nI (3 * nd)) f (nI k + 1) s5) else none else none) = _
            have eu : (rb_sv 5).getD k 0 = nI (dfD k) := by
              have : k = 0 ∨ k = 1 ∨ k = 2 := by omega
              rcases this with rfl | rfl | rfl <;> rfl
            rw [if_neg (show ¬ (3 : Int32) ≤ nI k from nI_ge (b := 3) hk (by decide)), nI_add, if_neg (show ¬ (24 : Int32) ≤ nI (3 * nd + k) from nI_ge (b := 24) (by omega) (by decide)), rb_ib_nI hk (by decide), if_pos rfl, rb_ib_nI (by omega) (by decide), if_pos rfl, nI_clamp (by omega), nI_clamp (by omega), eu, rb_lt_eq, nI_1]) (fun f τ => rfl) rb_FU s1 (by unfold rb_FU; omega)
          obtain ⟨a2, a3⟩ := rb_st3_at s1 6 (3 * nd) (fun k => nI (dfD k))
          obtain ⟨v, hv⟩ : ∃ v, v = rb_sI (rb_sI (rb_sI s1 6 (3 * nd + 0) (nI (dfD 0))) 6 (3 * nd + 1) (nI (dfD 1))) 6 (3 * nd + 2) (nI (dfD 2)) := ⟨_, rfl⟩
          simp only [← hv] at a1 a2 a3
          obtain ⟨v2, hv2⟩ : ∃ v2, v2 = rb_sI (rb_sI v 4 2 (nI (nd + 1))) 3 1 (nI (p + 1)) := ⟨_, rfl⟩
          have v42 : v.1 4 2 = nI nd := by rw [a3.1 4 2 (by omega)]; exact K3
          have ad : xf_Green_addDancer s1 = some (nI (3 * nd), rb_sI v 4 2 (nI (nd + 1))) := by
            unfold xf_Green_addDancer
            rw [K3, e3, a1, rb_b1_some, rb_lt_eq, v42, nI_1]
          have fv2 : rb_fr (fun c i => (c = 6 ∧ 3 * nd ≤ i ∧ i < 3 * nd + 3) ∨ (c = 4 ∧ i = 2) ∨ (c = 3 ∧ i = 1)) s1 v2 := by
            rw [hv2]
            exact rb_fr.sI' (k := 3) (j := 1) (rb_fr.sI' (k := 4) (j := 2) (a3.mo (fun c i q => Or.inl q)) (Or.inr (Or.inl ⟨rfl, rfl⟩))) (Or.inr (Or.inr ⟨rfl, rfl⟩))
          have tv2 : TX 3 m t (p + 1) v2 := by
            rw [hv2]
            refine TX_at (by decide) (a := p) ?_
            exact TX_fr (ch := fun c i => c = 6 ∨ c = 4) ((a3.mo (fun c i q => Or.inl q.1)).sI' (k := 4) (Or.inr rfl)) (fun c i q => by omega) b2
          have v31 : (rb_sI v 4 2 (nI (nd + 1))).1 3 1 = nI p := by
            rw [rb_sIg _ _ _ _ _ _ (by omega), a3.1 3 1 (by omega)]; exact b2.2.2
          obtain ⟨r', s12, u37, val, x1, x2, x3, x4, x5, x6, x7⟩ := rb_itemsD (m := m) (t := t) W (show p + 1 ≤ m by omega) tv2 (TM_at (b := p + 1) c2) (by rw [rb_sIg _ _ _ _ _ _ (by omega)]; exact w1) (fr := 3 * nd) (by omega) (fun k hk => by
            rw [hv2, rb_sIg _ _ _ _ _ _ (by omega), rb_sIg _ _ _ _ _ _ (by omega)]; exact a2 k hk)
          have hz : rb_bz r' = true := by rcases x3 with h | h <;> rw [h] <;> decide
          rw [ad, rb_b2_some, v31, nI_1, rb_lt_eq, ← hv2, x1, rb_b2_some, hz, if_pos rfl] at hc
          rw [c2.2.2, nI_1, rb_lt_eq, h1, rb_sIg _ _ _ _ 0 19 (by omega), K4, e3', x2, rb_b1_some, x5.1 0 19 (by unfold scW; omega), rb_sIg _ _ _ _ 0 19 (by omega), K4, nI_1, rb_lt_eq] at hM
          have fs12 : rb_fr scGX σ s12 := (fs1.tr (fv2.mo (fun c i q => by unfold scGX; omega))).tr (x4.mo (fun c i q => by unfold scGX; omega))
          have fu39 : rb_fr scGM τ (rb_sI u37 0 19 (nI (nd + 1))) := ((fu1.sI' (k := 0) (j := 3) (Or.inl ⟨rfl, Or.inl rfl⟩)).tr (x5.mo (fun c i q => by unfold scW at q; unfold scGM; omega))).sI' (k := 0) (j := 19) (Or.inl ⟨rfl, Or.inr (Or.inr rfl)⟩)
          refine tail r' s12 _ (nI hr) (nd + 1) hr ru (fun i => if 3 * nd ≤ i then val (i - 3 * nd) else tr i) x3 hc hM rfl fs12 fu39 hpm ?_ (fun h => ?_)
          · have f19 : rb_fr (fun c i => c = 0 ∧ i = 19) u37 (rb_sI u37 0 19 (nI (nd + 1))) := rb_fr.sI ⟨rfl, rfl⟩
            rcases x6 with ⟨n1, e, n2, n3, n4, n5, n6, n7, n8⟩ | ⟨n1, e, n2, n3, n4, n5, n6, n7, n8⟩ | ⟨n1, e, n2, n3, n4⟩
            · exact Or.inl ⟨n1, e, n2, n3, n4, n5, TM_fr f19 (fun c i q => by omega) n6, by rw [f19.1 0 4 (by omega)]; exact n7, n8⟩
            · exact Or.inr (Or.inl ⟨n1, e, n2, n3, n4, TM_fr f19 (fun c i q => by omega) n5, by rw [f19.1 0 4 (by omega)]; exact n6, n7, n8⟩)
            · exact Or.inr (Or.inr ⟨n1, e, n2, n3, by rw [f19.1 0 4 (by omega)]; exact n4⟩)
          · have hval := x7 h
            refine ⟨by omega, K2, ?_, rb_sI_eq _ _ _ _, ?_, fun k hk => ?_, K7, fun i hi => ?_⟩
            · rw [x4.1 4 2 (by omega), hv2, rb_sIg _ _ _ _ _ _ (by omega), rb_sI_eq]
            · rw [x4.1 3 3 (by omega), fv2.1 3 3 (by omega)]; exact K5
            · rw [x4.1 5 k (by omega), fv2.1 5 k (by omega), rb_sIg _ _ _ _ _ _ (by omega), x5.1 11 k (by unfold scW; omega), rb_sIg _ _ _ _ _ _ (by omega)]; exact K6 k hk
            · by_cases hi2 : 3 * nd ≤ i
              · simp only [if_pos hi2]
                obtain ⟨v1, v2', v3, v4⟩ := hval (i - 3 * nd) (by omega)
                rw [show 3 * nd + (i - 3 * nd) = i by omega] at v3 v4
                have := loD_h (i - 3 * nd) (by omega)
                exact ⟨by omega, v3, by rw [rb_sIg _ _ _ _ _ _ (by omega)]; exact v4⟩
              · simp only [if_neg hi2]
                rw [x4.1 6 i (by omega), fv2.1 6 i (by omega), rb_sIg _ _ _ _ _ _ (by omega), x5.1 12 i (by unfold scW; omega), rb_sIg _ _ _ _ _ _ (by omega)]
                exact K8 i (by omega)
      · rw [if_neg h1] at hM hc
        exact nocl hc ⟨_, hM⟩
    have hclause : xf_GR_readClause σ = if sp_sg t m p = 115 then if (s1.1 3 3) = 0 then rb_lt (rb_sI s1 3 3 1) (fun s17 => rb_lt (rb_sI s17 3 1 ((s17.1 3 1) + 1)) (fun s19 => rb_b2 (xf_GR_readItems_r 0 s19) fun r23 s21 => if rb_bz r23 then some (r23, s21) else none)) else xj_GR_readClause_54 (sp_sg t m p) s1 else xj_GR_readClause_54 (sp_sg t m p) s1 := by
      unfold xf_GR_readClause
      rw [b1, rb_b2_some]
    by_cases h1 : sp_sg t m p = 115
    · have hpm : p < m := by
        by_cases h : p < m
        · exact h
        · unfold sp_sg at h1; rw [if_neg h] at h1; exact absurd h1 (by decide)
      rw [if_pos h1, K5] at hclause
      rw [if_pos h1] at SM
      by_cases h2 : hr = 0
      · rw [if_pos (show nI hr = 0 by rw [h2]; rfl)] at hclause SM
        obtain ⟨v2, hv2⟩ : ∃ v2, v2 = rb_sI (rb_sI s1 3 3 1) 3 1 (nI (p + 1)) := ⟨_, rfl⟩
        have tv2 : TX 3 m t (p + 1) v2 := by
          rw [hv2]
          refine TX_at (by decide) (a := p) ?_
          exact TX_fr (ch := fun c i => c = 3 ∧ i = 3) (rb_fr.sI ⟨rfl, rfl⟩) (fun c i q => by omega) b2
        have fv2 : rb_fr (fun c i => c = 3) s1 v2 := by
          rw [hv2]
          exact (rb_fr.sI (ch := fun c i => c = 3) (k := 3) rfl).sI' (k := 3) rfl
        obtain ⟨r', s21, u44, val, x1, x2, x3, x4, x5, x6, x7⟩ := rb_itemsR (m := m) (t := t) W (show p + 1 ≤ m by omega) tv2 (TM_at (b := p + 1) c2) (by rw [rb_sIg _ _ _ _ _ _ (by omega)]; exact w1) (fun k hk => by
          rw [fv2.1 5 k (by omega)]
          rw [(K6 k hk).2.2.1, K7 h2 k hk])
        have hz : rb_bz r' = true := by rcases x3 with h | h <;> rw [h] <;> decide
        rw [rb_lt_eq, rb_lt_eq, rb_sIg _ _ _ _ 3 1 (by omega), b2.2.2, nI_1, ← hv2, x1, rb_b2_some, hz, if_pos rfl] at hclause
        rw [c2.2.2, nI_1, rb_lt_eq, h1, x2, rb_b1_some] at SM
        have fs21 : rb_fr scGX σ s21 := (fs1.tr (fv2.mo (fun c i q => by unfold scGX; omega))).tr (x4.mo (fun c i q => by unfold scGX; omega))
        have fu44 : rb_fr scGM τ u44 := (fu1.sI' (k := 0) (j := 3) (Or.inl ⟨rfl, Or.inl rfl⟩)).tr (x5.mo (fun c i q => by unfold scW at q; unfold scGM; omega))
        refine tail r' s21 u44 1 nd 1 val tr x3 hclause SM rfl fs21 fu44 hpm x6 (fun h => ?_)
        have hval := x7 h
        refine ⟨K1, by omega, ?_, ?_, ?_, hval, fun h => by omega, fun i hi => ?_⟩
        · rw [x4.1 4 2 (by omega), fv2.1 4 2 (by omega)]; exact K3
        · rw [x5.1 0 19 (by unfold scW; omega), rb_sIg _ _ _ _ _ _ (by omega)]; exact K4
        · rw [x4.1 3 3 (by omega), hv2, rb_sIg _ _ _ _ _ _ (by omega), rb_sI_eq]; rfl
        · rw [x4.1 6 i (by omega), fv2.1 6 i (by omega), x5.1 12 i (by unfold scW; omega), rb_sIg _ _ _ _ _ _ (by omega)]; exact K8 i hi
      · rw [if_neg (nI_ne0 (by omega) (by omega))] at hclause SM
        exact dd (fun w => h2 w.2) SM hclause
    · rw [if_neg h1] at hclause SM
      exact dd (fun w => h1 w.1) SM hclause
end RBCL
