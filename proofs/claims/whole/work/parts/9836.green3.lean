/-! A GREEN IS READ AND TAKEN -/
theorem scGX_X (c i : Nat) (h : scGX c i) : scX c i := Or.inl ⟨h.1, by have := h.2; omega⟩
theorem scGM_M (c i : Nat) (h : scGM c i) : scM c i := by
  rcases h with h | h | h
  · exact Or.inl ⟨h.1, by rcases h.2 with h | h | h <;> simp [h]⟩
  · exact Or.inr (Or.inl (by omega))
  · exact Or.inr (Or.inl (by omega))
theorem rb_readG {σ τ : rb_St} (R : RTape σ τ) : ∃ r r2 σ' τ', xf_GR_readAll σ = some (r, σ') ∧ xf_M_readGreen τ = some (r2, τ') ∧ rb_fr scGX σ σ' ∧ rb_fr scGM τ τ' ∧ ((r = 1 ∧ r2 = -1 ∧ ∃ nd hr ru tr, 3 ≤ nd ∧ GD nd hr ru tr σ' τ') ∨ (r = 0 ∧ ∃ e, e ≤ 240 ∧ σ'.1 3 1 = nI e ∧ r2 = nI e)) := by
  obtain ⟨m, t, R1, R2, R3, R4, R5, R6⟩ := R
  have W : tw m t := ⟨R1, R2⟩
  -- the class's head
  obtain ⟨s3, hs3⟩ : ∃ s, s = rb_sI (rb_sI σ 3 1 0) 4 2 0 := ⟨_, rfl⟩
  have a1 := rb_st3 xl_Green_clear_7 5 0 (fun k => nI (dfR k)) (fun f k τ hk => by
    show (if 3 ≤ nI k then some τ else if rb_ib (nI k) 3 then rb_lt (rb_sI τ 5 (nI k).toNatClampNeg ((rb_sv 2).getD (nI k).toNatClampNeg 0)) (fun s5 => xl_Green_clear_7 f (nI k + 1) s5) else none) = _
    have eu : (rb_sv 2).getD k 0 = nI (dfR k) := by
      have : k = 0 ∨ k = 1 ∨ k = 2 := by omega
      rcases this with rfl | rfl | rfl <;> rfl
    rw [if_neg (show ¬ (3 : Int32) ≤ nI k from nI_ge (b := 3) hk (by decide)), rb_ib_nI hk (by decide), if_pos rfl, nI_clamp (by omega), eu, rb_lt_eq, nI_1, Nat.zero_add]) (fun f τ => rfl) rb_FU s3 (by unfold rb_FU; omega)
  obtain ⟨a2, a3⟩ := rb_st3_at s3 5 0 (fun k => nI (dfR k))
  obtain ⟨s4, hs4⟩ : ∃ s, s = rb_sI (rb_sI (rb_sI s3 5 (0 + 0) (nI (dfR 0))) 5 (0 + 1) (nI (dfR 1))) 5 (0 + 2) (nI (dfR 2)) := ⟨_, rfl⟩
  rw [← hs4] at a1 a3
  simp only [← hs4] at a2
  obtain ⟨s5, hs5⟩ : ∃ s, s = rb_sI s4 3 3 0 := ⟨_, rfl⟩
  have f5 : rb_fr scGX σ s5 := by
    rw [hs5]
    refine rb_fr.sI' (rb_fr.tr (σ' := s3) ?_ (a3.mo (fun c i q => by unfold scGX; omega))) (by unfold scGX; omega)
    rw [hs3]
    exact (rb_fr.sI (show scGX 3 1 by unfold scGX; omega)).sI' (show scGX 4 2 by unfold scGX; omega)
  -- the reference's head
  obtain ⟨u5, hu5⟩ : ∃ s, s = rb_sI (rb_sI (rb_sI τ 0 3 0) 0 4 (-1)) 0 19 0 := ⟨_, rfl⟩
  have b1 := rb_st3 (xl_M_readGreen_19 0) 11 0 (fun k => nI (dfR k)) (fun f k τ hk => by
    show (if 3 ≤ nI k then some τ else if rb_ib (nI k) 3 then rb_lt (rb_sI τ 11 (nI k).toNatClampNeg (xf_M_usual 115 (nI k) τ)) (fun s9 => xl_M_readGreen_19 0 f (nI k + 1) s9) else none) = _
    have eu : xf_M_usual 115 (nI k) τ = nI (dfR k) := by
      have : k = 0 ∨ k = 1 ∨ k = 2 := by omega
      rcases this with rfl | rfl | rfl <;> rfl
    rw [if_neg (show ¬ (3 : Int32) ≤ nI k from nI_ge (b := 3) hk (by decide)), rb_ib_nI hk (by decide), if_pos rfl, nI_clamp (by omega), eu, rb_lt_eq, nI_1, Nat.zero_add]) (fun f τ => rfl) rb_FU u5 (by unfold rb_FU; omega)
  obtain ⟨b2, b3⟩ := rb_st3_at u5 11 0 (fun k => nI (dfR k))
  obtain ⟨u6, hu6⟩ : ∃ s, s = rb_sI (rb_sI (rb_sI u5 11 (0 + 0) (nI (dfR 0))) 11 (0 + 1) (nI (dfR 1))) 11 (0 + 2) (nI (dfR 2)) := ⟨_, rfl⟩
  rw [← hu6] at b1 b3
  simp only [← hu6] at b2
  have f6 : rb_fr scGM τ u6 := by
    refine rb_fr.tr (σ' := u5) ?_ (b3.mo (fun c i q => by unfold scGM; omega))
    rw [hu5]
    exact ((rb_fr.sI (show scGM 0 3 by unfold scGM; omega)).sI' (show scGM 0 4 by unfold scGM; omega)).sI' (show scGM 0 19 by unfold scGM; omega)
  have x5 : TX 3 m t 0 s5 := ⟨(f5.1 1 1 (by unfold scGX; omega)).trans R3, fun i hi => (f5.1 2 i (by unfold scGX; omega)).trans (R5 i hi), by
    rw [hs5, rb_sIg _ _ _ _ _ _ (by omega), a3.1 3 1 (by omega), hs3, rb_sIg _ _ _ _ _ _ (by omega), rb_sI_eq]; rfl⟩
  have y6 : TM m t 0 u6 := ⟨(f6.1 0 2 (by unfold scGM; omega)).trans R4, fun i hi => (f6.1 1 i (by unfold scGM; omega)).trans (R6 i hi), by
    rw [b3.1 0 3 (by omega), hu5, rb_sIg _ _ _ _ _ _ (by omega), rb_sIg _ _ _ _ _ _ (by omega), rb_sI_eq]; rfl⟩
  have w6 : u6.1 0 4 = -1 := by
    rw [b3.1 0 4 (by omega), hu5, rb_sIg _ _ _ _ _ _ (by omega), rb_sI_eq]
  have d0 : ∀ k, k < 3 → loR k ≤ dfR k ∧ dfR k ≤ hiR k := by decide
  have D : GD 0 0 dfR (fun _ => 0) s5 u6 := by
    refine ⟨by omega, by omega, ?_, ?_, ?_, fun k hk => ⟨(d0 k hk).1, (d0 k hk).2, ?_, ?_⟩, fun _ k _ => rfl, fun i hi => by omega⟩
    · rw [hs5, rb_sIg _ _ _ _ _ _ (by omega), a3.1 4 2 (by omega), hs3, rb_sI_eq]; rfl
    · rw [b3.1 0 19 (by omega), hu5, rb_sI_eq]; rfl
    · rw [hs5, rb_sI_eq]; rfl
    · have := a2 k hk
      rw [Nat.zero_add] at this
      rw [hs5, rb_sIg _ _ _ _ _ _ (by omega)]; exact this
    · have := b2 k hk
      rw [Nat.zero_add] at this
      exact this
  obtain ⟨cd, σ', τ', o1, o2, o3, o4, o5⟩ := rb_greenl W (m + 1) 0 0 rb_FU rb_FU 0 0 dfR (fun _ => 0) s5 u6 (by omega) (by unfold rb_FU; omega) (by unfold rb_FU; omega) (by omega) (by omega) x5 y6 w6 D
  have SX : xf_GR_readAll σ = if cd = 0 then some (0, σ') else if cd = 1 then if (σ'.1 4 2) < 3 then some (0, σ') else some (1, σ') else if cd = 2 then some (0, σ') else some (0, σ') := by
    have o1' : xl_GR_readAll_19 rb_FU 0 s5 = some (cd, σ') := o1
    unfold xf_GR_readAll xf_Green_clear
    rw [rb_lt_eq, rb_lt_eq, ← hs3, a1, rb_b1_some, rb_b1_some, rb_lt_eq, ← hs5, o1', rb_b2_some]
  have SM : xf_M_readGreen τ = xj_M_readGreen_197 τ' := by
    have o2' : xl_M_readGreen_44 rb_FU 0 1 u6 = some τ' := o2
    unfold xf_M_readGreen
    rw [rb_lt_eq, rb_lt_eq, rb_lt_eq, ← hu5, b1, rb_b1_some, o2', rb_b1_some]
  rcases o5 with ⟨c1, c2, c3, c4, nd, hr, ru, tr, c5⟩ | ⟨c1, e, c2, c3, c4, c5, c6, c7⟩ | ⟨c1, e, c2, c3, c4⟩
  · obtain ⟨u, l1, l2, l3⟩ := sm_look W (Nat.le_refl m) c3
    have hk : sp_sk t m m = m := by
      have := sp_sk_le (t := t) (Nat.le_refl m); omega
    have hg : sp_sg t m m = -1 := by unfold sp_sg; rw [if_neg (by omega)]
    rw [hk] at l1 l2
    rw [hg] at l1
    have hn7 := c5.1
    have e1 : u.1 0 19 = nI nd := by rw [l3.1 0 19 (by unfold scB; omega)]; exact c5.2.2.2.1
    have e2 : u.1 0 4 = -1 := by rw [l3.1 0 4 (by unfold scB; omega)]; exact c4
    have e3 : σ'.1 4 2 = nI nd := c5.2.2.1
    rw [SX, SM, if_neg (show ¬ cd = 0 by omega), if_pos c1]
    unfold xj_M_readGreen_197
    rw [if_pos c4, l1, rb_b2_some, if_pos rfl, e1, e3]
    by_cases h3 : 3 ≤ nd
    · rw [if_neg (show ¬ nI nd < (3 : Int32) from nI_nlt (b := 3) (by omega) (by omega)), if_pos (show (3 : Int32) ≤ nI nd from nI_le (a := 3) h3 (by omega)), e2]
      exact ⟨1, -1, σ', u, rfl, rfl, f5.tr o3, (f6.tr o4).tr (l3.mo scB_G), Or.inl ⟨rfl, rfl, nd, hr, ru, tr, h3, GD_fr c5 rb_fr.rf l3⟩⟩
    · obtain ⟨v, g1, g2, g3⟩ := sm_bad e2 l2.2.2
      rw [if_pos (show nI nd < (3 : Int32) from nI_lt (b := 3) (by omega) (by omega)), if_neg (show ¬ (3 : Int32) ≤ nI nd from nI_ge (b := 3) (by omega) (by decide)), g1, rb_b1_some, g2]
      exact ⟨0, nI m, σ', v, rfl, rfl, f5.tr o3, ((f6.tr o4).tr (l3.mo scB_G)).tr (g3.mo (fun c i q => Or.inl ⟨q.1, Or.inr (Or.inl q.2)⟩)), Or.inr ⟨rfl, m, R1, c2.2.2, rfl⟩⟩
  · obtain ⟨u, l1, l2, l3⟩ := sm_look W c2 c5
    rw [c3] at l1 l2
    have e2 : u.1 0 4 = -1 := by rw [l3.1 0 4 (by unfold scB; omega)]; exact c6
    obtain ⟨v, g1, g2, g3⟩ := sm_bad e2 l2.2.2
    have SX' : xf_GR_readAll σ = some (0, σ') := by
      rw [SX, if_neg c1, ite_self, ite_self]
    rw [SX', SM]
    unfold xj_M_readGreen_197
    rw [if_pos c6, l1, rb_b2_some, if_neg c7, g1, rb_b1_some, g2]
    exact ⟨0, nI e, σ', v, rfl, rfl, f5.tr o3, ((f6.tr o4).tr (l3.mo scB_G)).tr (g3.mo (fun c i q => Or.inl ⟨q.1, Or.inr (Or.inl q.2)⟩)), Or.inr ⟨rfl, e, by omega, c4, rfl⟩⟩
  · have SX' : xf_GR_readAll σ = some (0, σ') := by
      rw [SX, if_neg c1, ite_self, ite_self]
    rw [SX', SM]
    unfold xj_M_readGreen_197
    rw [c4, if_neg (rb_neg1 (show e < 2 ^ 31 by omega))]
    exact ⟨0, nI e, σ', τ', rfl, rfl, f5.tr o3, f6.tr o4, Or.inr ⟨rfl, e, by omega, c3, rfl⟩⟩
theorem rb_ops_fault0 : op_fault0 Rel := by
  intro σ τ R
  obtain ⟨n, ru, tr, lc, ho, La, E, O, P⟩ := id R
  obtain ⟨r, r2, σ', τ', a1, a2, a3, a4, a5⟩ := rb_readG O.2.1
  have R' := Rel_fr (a3.mo scGX_X) (a4.mo scGM_M) R
  unfold xf_RP_fault0 xf_M_fault
  rw [a1, if_pos rfl, a2, rb_b2_some, rb_b2_some]
  rcases a5 with ⟨b1, b2, -⟩ | ⟨b1, e, -, b2, b3⟩
  · exact ⟨-1, σ', τ', by rw [b1]; rfl, by rw [b2], R'⟩
  · exact ⟨nI e, σ', τ', by rw [b1, if_pos rfl, b2], by rw [b3], R'⟩
section RBCT
variable {n : Nat} {ru tr : Nat → Nat}
theorem sm_tk10 (σ : rb_St) : xl_M_takeGreen_10 rb_FU 0 σ = some (rb_ct 11 13 0 0 σ 3) := by
  refine rb_up0 (fun f s x => xl_M_takeGreen_10 f x s) (rb_ct 11 13 0 0 σ) 3 (some (rb_ct 11 13 0 0 σ 3)) (by decide) (fun f i hi => ?_) (fun f => ?_)
  · show (if 3 ≤ nI i then _ else if rb_ib (nI i) 3 then rb_lt (rb_sI (rb_ct 11 13 0 0 σ i) 13 (nI i).toNatClampNeg ((rb_ct 11 13 0 0 σ i).1 11 (nI i).toNatClampNeg)) (fun s4 => xl_M_takeGreen_10 f (nI i + 1) s4) else none) = xl_M_takeGreen_10 f (nI (i + 1)) (rb_sI (rb_ct 11 13 0 0 σ i) 13 (0 + i) ((rb_ct 11 13 0 0 σ i).1 11 (0 + i)))
    rw [if_neg (show ¬ (3 : Int32) ≤ nI i from nI_ge (b := 3) hi (by decide)), rb_ib_nI hi (by decide), if_pos rfl, nI_clamp (by omega), rb_lt_eq, nI_1, Nat.zero_add]
  · show (if 3 ≤ nI 3 then some (rb_ct 11 13 0 0 σ 3) else _) = _
    rw [if_pos (by decide)]
theorem sm_tk35 (σ : rb_St) : xl_M_takeGreen_35 rb_FU 0 σ = some (rb_ct 12 14 0 0 σ 21) := by
  refine rb_up0 (fun f s x => xl_M_takeGreen_35 f x s) (rb_ct 12 14 0 0 σ) 21 (some (rb_ct 12 14 0 0 σ 21)) (by decide) (fun f i hi => ?_) (fun f => ?_)
  · show (if 21 ≤ nI i then _ else if rb_ib (nI i) 21 then rb_lt (rb_sI (rb_ct 12 14 0 0 σ i) 14 (nI i).toNatClampNeg ((rb_ct 12 14 0 0 σ i).1 12 (nI i).toNatClampNeg)) (fun s4 => xl_M_takeGreen_35 f (nI i + 1) s4) else none) = xl_M_takeGreen_35 f (nI (i + 1)) (rb_sI (rb_ct 12 14 0 0 σ i) 14 (0 + i) ((rb_ct 12 14 0 0 σ i).1 12 (0 + i)))
    rw [if_neg (show ¬ (21 : Int32) ≤ nI i from nI_ge (b := 21) hi (by decide)), rb_ib_nI hi (by decide), if_pos rfl, nI_clamp (by omega), rb_lt_eq, nI_1, Nat.zero_add]
  · show (if 21 ≤ nI 21 then some (rb_ct 12 14 0 0 σ 21) else _) = _
    rw [if_pos (by decide)]
theorem sm_tk61 : ∀ (r i f : Nat) (τ : rb_St), i + r = 398 → r < f → (∀ q, q < i → τ.1 17 q = 0) → ∃ τ', xl_M_takeGreen_61 f (nI i) τ = some τ' ∧ (∀ q, q < 398 → τ'.1 17 q = 0) ∧ rb_fr (fun c _ => c = 17) τ τ' := by
  intro r
  induction r with
  | zero =>
    intro i f τ h1 h2 h3
    obtain ⟨f, rfl⟩ : ∃ q, f = q + 1 := ⟨f - 1, by omega⟩
    have hi : i = 398 := by omega
    subst hi
    exact ⟨τ, rfl, h3, rb_fr.rf⟩
  | succ r ih =>
    intro i f τ h1 h2 h3
    obtain ⟨f, rfl⟩ : ∃ q, f = q + 1 := ⟨f - 1, by omega⟩
    obtain ⟨τ', a1, a2, a3⟩ := ih (i + 1) f (rb_sI τ 17 i 0) (by omega) (by omega) (fun q hq => by
      rw [rb_sI_at]
      by_cases e : q = i
      · rw [if_pos ⟨rfl, e⟩]
      · rw [if_neg (fun w => e w.2)]; exact h3 q (by omega))
    refine ⟨τ', ?_, a2, (rb_fr.sI (ch := fun c _ => c = 17) (k := 17) rfl).tr a3⟩
    show (if 398 ≤ nI i then some τ else if rb_ib (nI i) 398 then rb_lt (rb_sI τ 17 (nI i).toNatClampNeg 0) (fun s17 => xl_M_takeGreen_61 f (nI i + 1) s17) else none) = _
    rw [if_neg (show ¬ (398 : Int32) ≤ nI i from nI_ge (b := 398) (by omega) (by decide)), rb_ib_nI (by omega) (by decide), if_pos rfl, nI_clamp (by omega), rb_lt_eq, nI_1]
    exact a1
theorem sm_tk83 (G : gw n ru tr) : ∀ (r d f : Nat) (τ : rb_St), d + r = n → r < f → gm n ru tr τ → (∀ p, p < d → τ.1 17 p = nI p ∧ τ.1 17 (7 + p) = nI (tr (3 * p + 1))) → ∃ τ', xl_M_takeGreen_83 f (nI d) τ = some τ' ∧ (∀ p, p < n → τ'.1 17 p = nI p ∧ τ'.1 17 (7 + p) = nI (tr (3 * p + 1))) ∧ rb_fr (fun c i => c = 17 ∧ i < 14) τ τ' := by
  have hn := G.1
  intro r
  induction r with
  | zero =>
    intro d f τ h1 h2 g h3
    obtain ⟨f, rfl⟩ : ∃ q, f = q + 1 := ⟨f - 1, by omega⟩
    have hi : d = n := by omega
    subst hi
    refine ⟨τ, ?_, h3, rb_fr.rf⟩
    show (if τ.1 0 22 ≤ nI d then some τ else _) = _
    rw [g.1, if_pos (nI_le (Nat.le_refl _) (by omega))]
  | succ r ih =>
    intro d f τ h1 h2 g h3
    obtain ⟨f, rfl⟩ : ∃ q, f = q + 1 := ⟨f - 1, by omega⟩
    obtain ⟨s, hs⟩ : ∃ s, s = rb_sI τ 17 d (nI d) := ⟨_, rfl⟩
    have f1 : rb_fr (fun c i => c = 17 ∧ i < 14) τ s := by rw [hs]; exact rb_fr.sI ⟨rfl, by omega⟩
    obtain ⟨s2, hs2⟩ : ∃ s2, s2 = rb_sI s 17 (7 + d) (nI (tr (3 * d + 1))) := ⟨_, rfl⟩
    have f2 : rb_fr (fun c i => c = 17 ∧ i < 14) τ s2 := by rw [hs2]; exact f1.sI' ⟨rfl, by omega⟩
    have g1 := gm_fr f1 (fun c i q => by omega) g
    obtain ⟨τ', a1, a2, a3⟩ := ih (d + 1) f s2 (by omega) (by omega) (gm_fr f2 (fun c i q => by omega) g) (fun p hp => by
      by_cases e : p = d
      · subst e
        exact ⟨by rw [hs2, rb_sIg _ _ _ _ _ _ (by omega), hs, rb_sI_eq], by rw [hs2, rb_sI_eq]⟩
      · rw [hs2, rb_sIg _ _ _ _ _ _ (by omega), rb_sIg _ _ _ _ _ _ (by omega), hs, rb_sIg _ _ _ _ _ _ (by omega), rb_sIg _ _ _ _ _ _ (by omega)]
        exact h3 p (by omega))
    refine ⟨τ', ?_, a2, f2.tr a3⟩
    have e7 : (7 : Int32) + nI d = nI (7 + d) := by rw [show (7 : Int32) = nI 7 from rfl, nI_add]
    have t1 : xf_M_told (nI d) 1 s = some (nI (tr (3 * d + 1))) := sm_told G g1 (d := d) (by omega) (j := 1) (by decide)
    show (if (τ.1 0 22) ≤ nI d then some τ else if rb_ib (0 + nI d) 398 then rb_lt (rb_sI τ 17 (0 + nI d).toNatClampNeg (nI d)) (fun s23 => rb_b1 (xf_M_told (nI d) 1 s23) fun r25 => if rb_ib (7 + nI d) 398 then rb_lt (rb_sI s23 17 (7 + nI d).toNatClampNeg r25) (fun s28 => xl_M_takeGreen_83 f (nI d + 1) s28) else none) else none) = _
    rw [g.1, if_neg (nI_ge (show d < n by omega) (by omega)), Int32.zero_add, e7, rb_ib_nI (by omega) (by decide), if_pos rfl, nI_clamp (by omega), rb_lt_eq, ← hs, t1, rb_b1_some, rb_ib_nI (by omega) (by decide), if_pos rfl, nI_clamp (by omega), rb_lt_eq, ← hs2, nI_1]
    exact a1
def scTG (c i : Nat) : Prop := c = 13 ∨ c = 14 ∨ c = 17 ∨ (c = 0 ∧ (i = 22 ∨ i = 47 ∨ i = 35 ∨ i = 49))
theorem sm_takeG {τ : rb_St} (G : gw n ru tr) (h0 : τ.1 0 19 = nI n) (h1 : ∀ k, k < 3 → τ.1 11 k = nI (ru k)) (h2 : ∀ i, i < 3 * n → τ.1 12 i = nI (tr i)) : ∃ τ', xf_M_takeGreen τ = some (nI n, τ') ∧ gm n ru tr τ' ∧ pm n (fun p => p) (fun d => tr (3 * d + 1)) 0 (fun _ _ => 0) (ru 1) 0 (τ'.1 17) ∧ lgm 0 (fun _ _ => 0) (τ'.1 17) ∧ τ'.1 0 47 = 0 ∧ τ'.1 0 35 = 0 ∧ τ'.1 0 49 = 0 ∧ rb_fr scTG τ τ' := by
  have hn := G.1
  obtain ⟨s1, hs1⟩ : ∃ s, s = rb_sI τ 0 22 (nI n) := ⟨_, rfl⟩
  obtain ⟨s7, hs7⟩ : ∃ s, s = rb_ct 11 13 0 0 s1 3 := ⟨_, rfl⟩
  obtain ⟨s13, hs13⟩ : ∃ s, s = rb_ct 12 14 0 0 s7 21 := ⟨_, rfl⟩
  have c1 : xl_M_takeGreen_10 rb_FU 0 s1 = some s7 := by rw [sm_tk10, ← hs7]
  have c2 : xl_M_takeGreen_35 rb_FU 0 s7 = some s13 := by rw [sm_tk35, ← hs13]
  have r7 : ∀ c, c ≠ 13 → s7.1 c = s1.1 c := fun c hc => by rw [hs7, rb_ct_row hc]
  have r13 : ∀ c, c ≠ 14 → s13.1 c = s7.1 c := fun c hc => by rw [hs13, rb_ct_row hc]
  have f13 : rb_fr scTG τ s13 := by
    refine ⟨fun c i hc => ?_, ?_⟩
    · rw [r13 c (fun e => hc (by unfold scTG; omega)), r7 c (fun e => hc (by unfold scTG; omega)), hs1, rb_sIg _ _ _ _ _ _ (by unfold scTG at hc; omega)]
    · rw [hs13, rb_ct_2, hs7, rb_ct_2, hs1]; rfl
  have gm13 : gm n ru tr s13 := by
    refine ⟨?_, fun i hi => ?_, fun i hi => ?_⟩
    · rw [r13 0 (by decide), r7 0 (by decide), hs1, rb_sI_eq]
    · rw [r13 13 (by decide), hs7, rb_ct_at (by decide), if_pos (by omega), hs1, rb_sIg _ _ _ _ _ _ (by omega), Nat.zero_add, Nat.sub_zero]; exact h1 i hi
    · rw [hs13, rb_ct_at (by decide), if_pos (by omega), r7 12 (by decide), hs1, rb_sIg _ _ _ _ _ _ (by omega), Nat.zero_add, Nat.sub_zero]; exact h2 i hi
  obtain ⟨s19, d1, d2, d3⟩ := sm_tk61 398 0 rb_FU s13 (by omega) (by unfold rb_FU; omega) (fun q hq => by omega)
  have gm19 := gm_fr d3 (fun c i q => by omega) gm13
  obtain ⟨s30, e1, e2, e3⟩ := sm_tk83 G n 0 rb_FU s19 (by omega) (by unfold rb_FU; omega) gm19 (fun q hq => by omega)
  have gm30 := gm_fr e3 (fun c i q => by omega) gm19
  have d1' : xl_M_takeGreen_61 rb_FU 0 s13 = some s19 := d1
  have e1' : xl_M_takeGreen_83 rb_FU 0 s19 = some s30 := e1
  have z : ∀ q, 14 ≤ q → q < 398 → s30.1 17 q = 0 := fun q h1 h2 => by rw [e3.1 17 q (by omega)]; exact d2 q h2
  obtain ⟨τ', ht⟩ : ∃ s, s = rb_sI (rb_sI (rb_sI (rb_sI s30 17 215 (nI (ru 1))) 0 47 0) 0 35 0) 0 49 0 := ⟨_, rfl⟩
  have f30 : rb_fr (fun c i => (c = 17 ∧ i = 215) ∨ (c = 0 ∧ (i = 47 ∨ i = 35 ∨ i = 49))) s30 τ' := by
    rw [ht]
    exact (((rb_fr.sI (ch := fun c i => (c = 17 ∧ i = 215) ∨ (c = 0 ∧ (i = 47 ∨ i = 35 ∨ i = 49))) (k := 17) (j := 215) (Or.inl ⟨rfl, rfl⟩)).sI' (k := 0) (j := 47) (Or.inr ⟨rfl, Or.inl rfl⟩)).sI' (k := 0) (j := 35) (Or.inr ⟨rfl, Or.inr (Or.inl rfl)⟩)).sI' (k := 0) (j := 49) (Or.inr ⟨rfl, Or.inr (Or.inr rfl)⟩)
  have e17 : ∀ q, q ≠ 215 → τ'.1 17 q = s30.1 17 q := fun q hq => f30.1 17 q (by omega)
  refine ⟨τ', ?_, gm_fr f30 (fun c i q => by omega) gm30, ⟨fun p hp => ?_, fun d hd => ?_, ⟨by omega, ?_, fun i hi => by omega⟩, ?_, ?_⟩, ⟨?_, fun b hb => by omega⟩, ?_, ?_, ?_, ?_⟩
  · unfold xf_M_takeGreen
    rw [h0, rb_lt_eq, ← hs1, c1, rb_b1_some, c2, rb_b1_some, d1', rb_b1_some, e1', rb_b1_some, gm30.2.1 1 (by decide), rb_lt_eq, rb_lt_eq, rb_lt_eq, rb_lt_eq, ← ht]
    rw [(gm_fr f30 (fun c i q => by omega) gm30).1]
  · rw [e17 p (by omega)]; exact (e2 p hp).1
  · rw [e17 _ (by omega)]; exact (e2 d hd).2
  · rw [e17 _ (by omega)]; exact z _ (by omega) (by omega)
  · rw [ht, rb_sIg _ _ _ _ _ _ (by omega), rb_sIg _ _ _ _ _ _ (by omega), rb_sIg _ _ _ _ _ _ (by omega), rb_sI_eq]
  · rw [e17 _ (by omega)]; exact z _ (by omega) (by omega)
  · rw [e17 _ (by omega)]; exact z _ (by omega) (by omega)
  · rw [ht, rb_sIg _ _ _ _ _ _ (by omega), rb_sIg _ _ _ _ _ _ (by omega), rb_sI_eq]
  · rw [ht, rb_sIg _ _ _ _ _ _ (by omega), rb_sI_eq]
  · rw [ht, rb_sI_eq]
  · refine (((f13.tr (d3.mo (fun c i q => by unfold scTG; omega))).tr (e3.mo (fun c i q => by unfold scTG; omega))).tr (f30.mo (fun c i q => by unfold scTG; omega)))
def scBG (c i : Nat) : Prop := (15 ≤ c ∧ c ≤ 20) ∨ (c = 1 ∧ i = 1) ∨ (c = 23 ∧ i = 0) ∨ (c = 28 ∧ i = 2) ∨ (c = 0 ∧ i = 15)
theorem sx_beginG {σ : rb_St} (G : gw n ru tr) (h0 : σ.1 4 2 = nI n) (h1 : ∀ k, k < 3 → σ.1 5 k = nI (ru k)) (h2 : ∀ i, i < 3 * n → σ.1 6 i = nI (tr i)) : ∃ σ', xf_RP_beginGreen σ = some (nI n, σ') ∧ gx n ru tr σ' ∧ px 18 n (fun p => p) (fun d => tr (3 * d + 1)) 0 (fun _ _ => 0) (ru 1) 0 σ' ∧ σ'.1 1 1 = 0 ∧ σ'.1 23 0 = 0 ∧ σ'.1 28 2 = 0 ∧ σ'.1 0 15 = 0 ∧ rb_fr scBG σ σ' := by
  have hn := G.1
  obtain ⟨s1, hs1⟩ : ∃ s, s = rb_sI (rb_cp (rb_cp σ 5 16 0 0 3) 6 17 0 0 24) 15 2 (nI n) := ⟨_, rfl⟩
  have c1 : xf_Green_copyFrom σ = some s1 := by
    unfold xf_Green_copyFrom
    rw [rb_lt_eq, rb_lt_eq, rb_lt_eq, rb_cp_row _ _ _ _ _ _ _ (by decide), rb_cp_row _ _ _ _ _ _ _ (by decide), h0, ← hs1]
  have f1 : rb_fr (fun c i => c = 15 ∨ c = 16 ∨ c = 17) σ s1 := by
    rw [hs1]
    exact ((rb_fr.cp (b := 16) (fun i _ _ => Or.inr (Or.inl rfl))).tr (rb_fr.cp (b := 17) (fun i _ _ => Or.inr (Or.inr rfl)))).sI' (k := 15) (Or.inl rfl)
  obtain ⟨s3, hs3⟩ : ∃ s, s = rb_sI s1 1 1 0 := ⟨_, rfl⟩
  have g3 : gx n ru tr s3 := by
    refine ⟨?_, fun i hi => ?_, fun i hi => ?_⟩
    · rw [hs3, rb_sIg _ _ _ _ _ _ (by omega), hs1, rb_sI_eq]
    · rw [hs3, rb_sIg _ _ _ _ _ _ (by omega), hs1, rb_sIg _ _ _ _ _ _ (by omega), rb_cp_row _ _ _ _ _ _ _ (by decide), rb_cp_at, if_pos (by omega), Nat.zero_add, Nat.sub_zero]; exact h1 i hi
    · rw [hs3, rb_sIg _ _ _ _ _ _ (by omega), hs1, rb_sIg _ _ _ _ _ _ (by omega), rb_cp_at, if_pos (by omega), Nat.zero_add, Nat.sub_zero, rb_cp_row _ _ _ _ _ _ _ (by decide)]; exact h2 i hi
  obtain ⟨s5, b1, b2, b3, b4, b5, b6⟩ := sx_beginAs (k := 18) G g3 (by decide)
  obtain ⟨σ', hs⟩ : ∃ s, s = rb_sI (rb_sI (rb_sI s5 23 0 0) 28 2 0) 0 15 0 := ⟨_, rfl⟩
  have fs : rb_fr (fun c i => (c = 23 ∧ i = 0) ∨ (c = 28 ∧ i = 2) ∨ (c = 0 ∧ i = 15)) s5 σ' := by
    rw [hs]
    exact ((rb_fr.sI (ch := fun c i => (c = 23 ∧ i = 0) ∨ (c = 28 ∧ i = 2) ∨ (c = 0 ∧ i = 15)) (k := 23) (j := 0) (Or.inl ⟨rfl, rfl⟩)).sI' (k := 28) (j := 2) (Or.inr (Or.inl ⟨rfl, rfl⟩))).sI' (k := 0) (j := 15) (Or.inr (Or.inr ⟨rfl, rfl⟩))
  have g5 := gx_fr b6 (fun c i q => by omega) g3
  have g9 := gx_fr fs (fun c i q => by omega) g5
  refine ⟨σ', ?_, g9, ⟨⟨?_, fun p hp => ?_, fun p hp => ?_⟩, ⟨?_, fun i hi => by omega⟩, ?_, ?_⟩, ?_, ?_, ?_, ?_, ?_⟩
  · unfold xf_RP_beginGreen xf_Acts_forget
    rw [c1, rb_b1_some, rb_lt_eq, ← hs3, b1, rb_b1_some, rb_lt_eq, rb_lt_eq, rb_b1_some, rb_lt_eq, ← hs, g9.1]
  · rw [fs.1 _ _ (by omega)]; exact b2.1
  · rw [fs.1 _ _ (by omega)]; exact b2.2.1 p hp
  · rw [fs.1 _ _ (by omega)]; exact b2.2.2 p hp
  · rw [fs.1 _ _ (by omega)]; exact b3
  · rw [fs.1 _ _ (by omega)]; exact b4
  · rw [fs.1 _ _ (by omega)]; exact b5
  · rw [fs.1 1 1 (by omega), b6.1 1 1 (by omega), hs3, rb_sI_eq]
  · rw [hs, rb_sIg _ _ _ _ _ _ (by omega), rb_sIg _ _ _ _ _ _ (by omega), rb_sI_eq]
  · rw [hs, rb_sIg _ _ _ _ _ _ (by omega), rb_sI_eq]
  · rw [hs, rb_sI_eq]
  · have f3 : rb_fr scBG σ s3 := by
      rw [hs3]
      exact rb_fr.sI' (f1.mo (fun c i q => by unfold scBG; omega)) (by unfold scBG; omega)
    exact (f3.tr (b6.mo (fun c i q => by unfold scBG; omega))).tr (fs.mo (fun c i q => by unfold scBG; omega))
end RBCT
theorem rb_ops_text0 : op_text0 Rel := by
  intro σ τ R
  obtain ⟨n, ru0, tr0, lc, ho, La, E, O, P⟩ := id R
  obtain ⟨r, r2, σ1, τ1, a1, a2, a3, a4, a5⟩ := rb_readG O.2.1
  have a3' := a3.mo scGX_X
  have a4' := a4.mo scGM_M
  unfold xf_RP_text0 xf_M_text
  rw [a1, if_pos rfl, a2, rb_b2_some, rb_b2_some]
  rcases a5 with ⟨b1, b2, nd, hr, ru, tr, h3, D1, D2, D3, D4, D5, D6, D7, D8⟩ | ⟨b1, e, he, b2, b3⟩
  · have r0 := D6 0 (by decide)
    have r1 := D6 1 (by decide)
    have r2' := D6 2 (by decide)
    have G : gw nd ru tr := by
      refine ⟨D1, fun i hi => ?_, fun i hi => ?_, fun _ => ⟨r0.1, r0.2.1⟩, fun _ => h3⟩
      · have := (D6 i hi).2.1
        have h9 : hiR i ≤ 99 := by unfold hiR; split <;> omega
        omega
      · have := (D8 i hi).1
        omega
    obtain ⟨σ2, c1, c2, c3, c4, c5, c6, c7, c8⟩ := sx_beginG (σ := σ1) G D3 (fun k hk => (D6 k hk).2.2.1) (fun i hi => (D8 i hi).2.1)
    have D4' : (rb_sI τ1 0 2 0).1 0 19 = nI nd := by rw [rb_sIg _ _ _ _ _ _ (by omega)]; exact D4
    obtain ⟨τ2, d1, d2, d3, d4, d5, d6, d7, d8⟩ := sm_takeG (τ := rb_sI τ1 0 2 0) G D4' (fun k hk => by rw [rb_sIg _ _ _ _ _ _ (by omega)]; exact (D6 k hk).2.2.2) (fun i hi => by rw [rb_sIg _ _ _ _ _ _ (by omega)]; exact (D8 i hi).2.2)
    rw [b1, b2, if_neg (show ¬ (1 : Int32) = 0 by decide), if_pos rfl, c1, rb_b2_some, rb_lt_eq, d1, rb_b2_some]
    refine ⟨nI nd, σ2, τ2, rfl, rfl, ?_⟩
    have fx : rb_fr (fun c i => scX c i ∨ scBG c i) σ σ2 := (a3'.mo (fun c i q => Or.inl q)).tr (c8.mo (fun c i q => Or.inr q))
    have fm : rb_fr (fun c i => scM c i ∨ scTG c i ∨ (c = 0 ∧ i = 2)) τ τ2 := (rb_fr.sI' (ch := fun c i => scM c i ∨ scTG c i ∨ (c = 0 ∧ i = 2)) (k := 0) (j := 2) (a4'.mo (fun c i q => Or.inl q)) (Or.inr (Or.inr ⟨rfl, rfl⟩))).tr (d8.mo (fun c i q => Or.inr (Or.inl q)))
    obtain ⟨E1, E2, E3, E4, E5, E6⟩ := E
    obtain ⟨⟨fc, fl, ft, O1⟩, O2, O3, O4, O5⟩ := O
    obtain ⟨P1, nx, sz, P2, P3, P4, P5, P6, P7⟩ := P
    have hlc := E2.1
    refine ⟨nd, ru, tr, lc, ho, La, ⟨G, E2, c2, d2, lwx_fr E2 fx (fun c i w q => by unfold scX sc_law scBG at w; omega) E5, lwm_fr2 E2 fm (fun c i w q => by unfold scM scTG at w; omega) E6⟩, ⟨⟨fc, fl, ft, RFig_fr fx fm (fun c i w q => by unfold scX sc_law scBG at w; omega) (fun c i w q => by unfold scM scTG at w; omega) O1⟩, ⟨0, fun _ => 0, by omega, fun i hi => by omega, c4, ?_, fun i hi => by omega, fun i hi => by omega⟩, ⟨0, fun _ => 0, fun _ => 0, fun _ => 0, fun _ => 0, by omega, c7, d5, fun i hi => by omega⟩, RRef_fr fx fm (fun c i w q => by unfold scX sc_law scBG at w; omega) (fun c i w q => by unfold scM scTG at w; omega) O4, Or.inl ⟨c5, d7⟩⟩, ⟨fun p => p, fun d => tr (3 * d + 1), 0, fun _ _ => 0, ru 1, 0, fun _ _ => 0, ⟨pw_0 G, by omega, ?_, by omega, fun b hb => by omega⟩, c3, fun b hb => by omega, d3, d4⟩, nx, 0, P2, by omega, ?_, c6, d6, fun a ha => by omega⟩
    · rw [d8.1 0 2 (by unfold scTG; omega), rb_sI_eq]; rfl
    · have := G.2.1 1 (by decide); omega
    · rw [fx.1 28 1 (by unfold scX sc_law scBG; omega)]; exact P4
  · rw [b1, b3, if_pos rfl, if_neg (rb_neg1 (show e < 2 ^ 31 by omega))]
    exact ⟨-1, σ1, τ1, rfl, rfl, Rel_fr a3' a4' R⟩
