/-! A FIGURE IS READ AND TAKEN -/
theorem scFX_X (c i : Nat) (h : scFX c i) : scX c i := Or.inl (by unfold scFX at h; omega)
def scFT (j c i : Nat) : Prop := scFM j c i ∨ (c = 16 ∧ i = j)
theorem rb_readF {σ τ : rb_St} {j : Nat} (hj : j ≤ 6) (R : RTape σ τ) : ∃ r r2 σ' τ', xf_FR_readAll σ = some (r, σ') ∧ xf_M_readFigure (nI j) τ = some (r2, τ') ∧ rb_fr scFX σ σ' ∧ rb_fr (scFT j) τ τ' ∧ ((r = 1 ∧ r2 = -1 ∧ ∃ L, L ≤ 48 ∧ FD j L σ' τ' ∧ τ'.1 16 j = nI L) ∨ (r = 0 ∧ ∃ e, e ≤ 240 ∧ σ'.1 12 1 = nI e ∧ r2 = nI e)) := by
  obtain ⟨m, t, R1, R2, R3, R4, R5, R6⟩ := R
  have W : tw m t := ⟨R1, R2⟩
  obtain ⟨s3, hs3⟩ : ∃ s, s = rb_sI (rb_sI σ 12 1 0) 13 1 0 := ⟨_, rfl⟩
  obtain ⟨u5, hu5⟩ : ∃ s, s = rb_sI (rb_sI (rb_sI τ 0 3 0) 0 4 (-1)) 0 26 0 := ⟨_, rfl⟩
  have f3 : rb_fr scFX σ s3 := by
    rw [hs3]
    exact (rb_fr.sI (show scFX 12 1 from Or.inl ⟨rfl, rfl⟩)).sI' (show scFX 13 1 from Or.inr (Or.inl ⟨rfl, rfl⟩))
  have f5 : rb_fr (scFM j) τ u5 := by
    rw [hu5]
    exact ((rb_fr.sI (show scFM j 0 3 from Or.inl ⟨rfl, by omega⟩)).sI' (show scFM j 0 4 from Or.inl ⟨rfl, by omega⟩)).sI' (show scFM j 0 26 from Or.inl ⟨rfl, by omega⟩)
  have x3 : TX 12 m t 0 s3 := ⟨(f3.1 1 1 (by unfold scFX; omega)).trans R3, fun i hi => (f3.1 2 i (by unfold scFX; omega)).trans (R5 i hi), by rw [hs3, rb_sIg _ _ _ _ _ _ (by omega), rb_sI_eq]; rfl⟩
  have y5 : TM m t 0 u5 := ⟨(f5.1 0 2 (by unfold scFM; omega)).trans R4, fun i hi => (f5.1 1 i (by unfold scFM; omega)).trans (R6 i hi), by rw [hu5, rb_sIg _ _ _ _ _ _ (by omega), rb_sIg _ _ _ _ _ _ (by omega), rb_sI_eq]; rfl⟩
  have w5 : u5.1 0 4 = -1 := by rw [hu5, rb_sIg _ _ _ _ _ _ (by omega), rb_sI_eq]
  have D0 : FD j 0 s3 u5 := ⟨by rw [hs3, rb_sI_eq]; rfl, by rw [hu5, rb_sI_eq]; rfl, fun i hi => by omega⟩
  obtain ⟨r7, s5, u7, o1, o2, o3, o4, o5⟩ := rb_rowTop W hj 0 0 s3 u5 (by omega) x3 y5 w5 D0 (by rw [show 9 ^ (3 - 0) = 729 from rfl]; omega)
  have SX : xf_FR_readAll σ = if r7 = 0 then some (0, s5) else rb_b2 (xf_Rd_nextSignF s5) fun r11 s9 => if r11 = (-1) then if 48 < (s9.1 13 1) then some (0, s9) else some (1, s9) else some (0, s9) := by
    have o1' : xf_FR_readRow 64 0 s3 = some (r7, s5) := o1
    unfold xf_FR_readAll
    rw [rb_lt_eq, rb_lt_eq, ← hs3, o1', rb_b2_some]
  have SM : xf_M_readFigure (nI j) τ = if (u7.1 0 4) = (-1) then rb_b2 (xf_M_look u7) fun r15 s13 => if r15 = (-1) then if (s13.1 0 26) ≤ 48 then rb_lt (rb_sI s13 16 j (s13.1 0 26)) (fun s24 => some (s24.1 0 4, s24)) else rb_b1 (xf_M_bad s13) fun s26 => rb_lt (rb_sI s26 16 j (s26.1 0 26)) (fun s29 => some (s29.1 0 4, s29)) else rb_b1 (xf_M_bad s13) fun s17 => rb_lt (rb_sI s17 16 j (s17.1 0 26)) (fun s20 => some (s20.1 0 4, s20)) else rb_lt (rb_sI u7 16 j (u7.1 0 26)) (fun s11 => some (s11.1 0 4, s11)) := by
    have o2' : xf_M_readRow 64 (nI j) 0 u5 = some u7 := o2
    have ib : rb_ib (nI j) 7 = true := rb_ib_nI (by omega) (by decide)
    have ic : (nI j).toNatClampNeg = j := nI_clamp (by omega)
    unfold xf_M_readFigure
    rw [rb_lt_eq, rb_lt_eq, rb_lt_eq, ← hu5, o2', rb_b1_some]
    simp only [ib, ic, if_true]
  have fin : ∀ (e : Nat) (s : rb_St) (u : rb_St), e ≤ m → s.1 12 1 = nI e → u.1 0 4 = nI e → xf_FR_readAll σ = some (0, s) → xf_M_readFigure (nI j) τ = rb_lt (rb_sI u 16 j (u.1 0 26)) (fun s11 => some (s11.1 0 4, s11)) → rb_fr scFX σ s → rb_fr (scFM j) τ u → ∃ r r2 σ' τ', xf_FR_readAll σ = some (r, σ') ∧ xf_M_readFigure (nI j) τ = some (r2, τ') ∧ rb_fr scFX σ σ' ∧ rb_fr (scFT j) τ τ' ∧ ((r = 1 ∧ r2 = -1 ∧ ∃ L, L ≤ 48 ∧ FD j L σ' τ' ∧ τ'.1 16 j = nI L) ∨ (r = 0 ∧ ∃ e, e ≤ 240 ∧ σ'.1 12 1 = nI e ∧ r2 = nI e)) := by
    intro e s u he h1 h2 h3 h4 h5 h6
    refine ⟨0, nI e, s, rb_sI u 16 j (u.1 0 26), h3, ?_, h5, rb_fr.sI' (k := 16) (j := j) (h6.mo (fun c i q => Or.inl q)) (Or.inr ⟨rfl, rfl⟩), Or.inr ⟨rfl, e, by omega, h1, rfl⟩⟩
    rw [h4, rb_lt_eq, rb_sIg _ _ _ _ 0 4 (by omega), h2]
  rcases o5 with ⟨n1, e, L, n2, n3, n4, n5, n6, n7, n8, n9, n10⟩ | ⟨n1, e, n2, n3, n4⟩
  · obtain ⟨s9, b1, b2, b3⟩ := sx_nextF W n3 n5
    obtain ⟨u13, c1, c2, c3⟩ := sm_look W n3 n6
    rw [n4] at b1 b2 c1 c2
    have w13 : u13.1 0 4 = -1 := by rw [c3.1 0 4 (by unfold scB; omega)]; exact n7
    have hD13 : FD j L s9 u13 := FD_fr b3 c3 (fun c i w => by unfold scA at w; omega) (fun c i w => by unfold scB at w; omega) n8
    have fs9 := (f3.tr o3).tr (b3.mo scA_F)
    have fu13 := (f5.tr o4).tr (c3.mo (scB_F (j := j)))
    rw [if_neg (show ¬ r7 = 0 by rw [n1]; decide), b1, rb_b2_some] at SX
    rw [if_pos n7, c1, rb_b2_some] at SM
    obtain ⟨u26, g1, g2, g3⟩ := sm_bad w13 c2.2.2
    have hLb : L < 1000000 := by
      rw [show 9 ^ (3 - 0) = 729 from rfl] at n10
      omega
    by_cases h : sp_sg t m e = -1
    · rw [if_pos h, hD13.1] at SX
      rw [if_pos h, hD13.2.1] at SM
      by_cases h48 : L ≤ 48
      · rw [if_neg (show ¬ (48 : Int32) < nI L from nI_nlt (a := 48) h48 (by decide))] at SX
        rw [if_pos (show nI (min L 49) ≤ (48 : Int32) from nI_le (b := 48) (by omega) (by decide)), rb_lt_eq, rb_sIg _ _ _ _ 0 4 (by omega), w13] at SM
        refine ⟨1, -1, s9, _, SX, SM, fs9, rb_fr.sI' (k := 16) (j := j) (fu13.mo (fun c i q => Or.inl q)) (Or.inr ⟨rfl, rfl⟩), Or.inl ⟨rfl, rfl, L, h48, FD_fr (rb_fr.rf (ch := fun _ _ => False)) (rb_fr.sI (ch := fun c i => c = 16) (k := 16) rfl) (fun c i w => w.elim) (fun c i w => by omega) hD13, ?_⟩⟩
        rw [rb_sI_eq]; congr 1; omega
      · rw [if_pos (show (48 : Int32) < nI L from nI_lt (a := 48) (by omega) (by omega))] at SX
        rw [if_neg (show ¬ nI (min L 49) ≤ (48 : Int32) from nI_ge (a := 48) (by omega) (by omega)), g1, rb_b1_some] at SM
        exact fin e s9 u26 n3 b2.2.2 g2 SX SM fs9 (fu13.tr (g3.mo sc4_F))
    · rw [if_neg h] at SX
      rw [if_neg h, g1, rb_b1_some] at SM
      exact fin e s9 u26 n3 b2.2.2 g2 SX SM fs9 (fu13.tr (g3.mo sc4_F))
  · rw [if_pos n1] at SX
    rw [n4, if_neg (rb_neg1 (show e < 2 ^ 31 by omega))] at SM
    exact fin e s5 u7 n2 n3 n4 SX SM (f3.tr o3) (f5.tr o4)
theorem scFT_6 (c i : Nat) (h : scFT 6 c i) : scM c i := by
  rcases h with (h | h) | h
  · exact Or.inl ⟨h.1, by have := h.2; omega⟩
  · exact Or.inr (Or.inr (Or.inr (Or.inr (Or.inr (Or.inr (Or.inr (Or.inr (Or.inl ⟨h.1, by omega⟩))))))))
  · exact Or.inr (Or.inr (Or.inr (Or.inr (Or.inr (Or.inr (Or.inr (Or.inr (Or.inr h))))))))
theorem rb_ops_fault2 : op_fault2 Rel := by
  intro σ τ R
  obtain ⟨n, ru, tr, lc, ho, La, E, O, P⟩ := id R
  obtain ⟨r, r2, σ', τ', a1, a2, a3, a4, a5⟩ := rb_readF (j := 6) (by omega) O.2.1
  have R' := Rel_fr (a3.mo scFX_X) (a4.mo scFT_6) R
  have a2' : xf_M_readFigure 6 τ = some (r2, τ') := a2
  unfold xf_RP_fault2 xf_M_fault
  rw [a1, if_neg (show ¬ (2 : Int32) = 0 by decide), if_neg (show ¬ (2 : Int32) = 1 by decide), if_pos rfl, a2', rb_b2_some, rb_b2_some]
  rcases a5 with ⟨b1, b2, -⟩ | ⟨b1, e, -, b2, b3⟩
  · exact ⟨-1, σ', τ', by rw [b1]; rfl, by rw [b2], R'⟩
  · exact ⟨nI e, σ', τ', by rw [b1, if_pos rfl, b2], by rw [b3], R'⟩
theorem rb_ops_text2 : op_text2 Rel := by
  intro σ τ R
  obtain ⟨n, ru, tr, lc, ho, La, E, O, P⟩ := id R
  obtain ⟨⟨fc, fl, ft, F⟩, O2, O3, O4, O5⟩ := O
  have hf6 := F.1
  unfold xf_RP_text2 xf_M_text xj_M_text_22 xj_M_text_69
  rw [if_neg (show ¬ (2 : Int32) = 0 by decide), if_neg (show ¬ (2 : Int32) = 1 by decide), if_pos rfl, F.2.2.1]
  by_cases h6 : fc = 6
  · obtain ⟨r, r2, σ', τ', a1, -, a3, -, a5⟩ := rb_readF (j := 6) (by omega) O2
    rw [if_pos (show (6 : Int32) ≤ nI fc by rw [h6]; decide), a1, rb_b2_some]
    refine ⟨-1, σ', τ, ?_, rfl, Rel_fr (a3.mo scFX_X) rb_fr.rf R⟩
    have e12 : σ'.1 0 12 = nI 6 := by rw [a3.1 0 12 (by unfold scFX; omega), F.2.1, h6]
    unfold xf_RP_addFigure
    rw [e12, if_neg (show ¬ nI 6 < 6 by decide), rb_b2_some, ite_self]
  · obtain ⟨r, r2, σ1, τ1, a1, a2, a3, a4, a5⟩ := rb_readF (j := fc) (by omega) O2
    rw [if_neg (show ¬ (6 : Int32) ≤ nI fc from nI_ge (b := 6) (by omega) (by decide)), a1, a2, rb_b2_some, rb_b2_some]
    have hm1 : ∀ c i, scFT fc c i → (c = 0 ∧ (i = 3 ∨ i = 4 ∨ i = 26)) ∨ (c = 15 ∧ 48 * fc ≤ i) ∨ (c = 16 ∧ i = fc) := fun c i w => by
      unfold scFT scFM at w; omega
    rcases a5 with ⟨b1, b2, L, hL, D, b3⟩ | ⟨b1, e, he, b2, b3⟩
    · -- the figure is taken
      obtain ⟨D1, D2, D3⟩ := D
      rw [b1, b2, if_neg (show ¬ (1 : Int32) = 0 by decide), if_pos rfl]
      have e12 : σ1.1 0 12 = nI fc := by rw [a3.1 0 12 (by unfold scFX; omega)]; exact F.2.1
      have e25 : τ1.1 0 25 = nI fc := by rw [a4.1 0 25 (fun w => by have := hm1 _ _ w; omega)]; exact F.2.2.1
      obtain ⟨s3, hs3⟩ : ∃ s, s = rb_sI (rb_cp σ1 14 (256 + 2 * fc + 1) 0 0 48) (256 + 2 * fc) 1 (nI L) := ⟨_, rfl⟩
      have cf : xf_Fig_copyFrom (256 + 2 * fc) σ1 = some s3 := by
        unfold xf_Fig_copyFrom
        rw [rb_lt_eq, rb_lt_eq, rb_cp_row _ _ _ _ _ _ _ (by omega), D1, ← hs3]
      have f3 : rb_fr (fun c i => c = 256 + 2 * fc ∨ c = 256 + 2 * fc + 1) σ1 s3 := by
        rw [hs3]
        exact rb_fr.sI' (k := 256 + 2 * fc) (rb_fr.cp (b := 256 + 2 * fc + 1) (fun i _ _ => Or.inr rfl)) (Or.inl rfl)
      obtain ⟨σ2, hs2⟩ : ∃ s, s = rb_sI (rb_sI s3 1 1 0) 0 12 (nI (fc + 1)) := ⟨_, rfl⟩
      obtain ⟨τ2, ht2⟩ : ∃ s, s = rb_sI (rb_sI τ1 0 2 0) 0 25 (nI (fc + 1)) := ⟨_, rfl⟩
      have s12 : (rb_sI s3 1 1 0).1 0 12 = nI fc := by rw [rb_sIg _ _ _ _ _ _ (by omega), f3.1 0 12 (by omega)]; exact e12
      have t25 : (rb_sI τ1 0 2 0).1 0 25 = nI fc := by rw [rb_sIg _ _ _ _ _ _ (by omega)]; exact e25
      have cX : xf_RP_addFigure σ1 = some (nI fc, σ2) := by
        unfold xf_RP_addFigure
        rw [e12, if_pos (show nI fc < (6 : Int32) from nI_lt (b := 6) (by omega) (by decide)), rb_ib_nI (by omega) (by decide), if_pos rfl, nI_clamp (by omega), cf, rb_b1_some, rb_lt_eq, rb_lt_eq, s12, nI_1, ← hs2, hs2, rb_sI_eq, nI_pred]
      rw [cX, rb_b2_some, rb_lt_eq, rb_lt_eq, t25, nI_1, ← ht2]
      refine ⟨nI fc, σ2, τ2, rfl, by rw [ht2, rb_sI_eq, nI_pred], ?_⟩
      have fx : rb_fr (fun c i => scFX c i ∨ c = 256 + 2 * fc ∨ c = 256 + 2 * fc + 1 ∨ (c = 1 ∧ i = 1) ∨ (c = 0 ∧ i = 12)) σ σ2 := by
        rw [hs2]
        exact rb_fr.sI' (k := 0) (j := 12) (rb_fr.sI' (k := 1) (j := 1) ((a3.mo (fun c i q => Or.inl q)).tr (f3.mo (fun c i q => by omega))) (by omega)) (by omega)
      have fm : rb_fr (fun c i => scFT fc c i ∨ (c = 0 ∧ (i = 2 ∨ i = 25))) τ τ2 := by
        rw [ht2]
        exact rb_fr.sI' (k := 0) (j := 25) (rb_fr.sI' (k := 0) (j := 2) (a4.mo (fun c i q => Or.inl q)) (Or.inr ⟨rfl, Or.inl rfl⟩)) (Or.inr ⟨rfl, Or.inr rfl⟩)
      have hx2 : ∀ c i, (scFX c i ∨ c = 256 + 2 * fc ∨ c = 256 + 2 * fc + 1 ∨ (c = 1 ∧ i = 1) ∨ (c = 0 ∧ i = 12)) → (12 ≤ c ∧ c ≤ 14) ∨ (256 ≤ c ∧ c < 268) ∨ (c = 1 ∧ i = 1) ∨ (c = 0 ∧ i = 12) := fun c i w => by
        unfold scFX at w; omega
      have hm2 : ∀ c i, (scFT fc c i ∨ (c = 0 ∧ (i = 2 ∨ i = 25))) → (c = 0 ∧ (i = 3 ∨ i = 4 ∨ i = 26 ∨ i = 2 ∨ i = 25)) ∨ (c = 15 ∧ 48 * fc ≤ i) ∨ (c = 16 ∧ i = fc) := fun c i w => by
        rcases w with w | w
        · have := hm1 c i w; omega
        · omega
      refine ⟨n, ru, tr, lc, ho, La, REnv_fr fx fm (fun c i w => by have := hx2 c i w; omega) (fun c i w => by have := hm2 c i w; omega) E, ⟨⟨fc + 1, fun j => if j = fc then L else fl j, fun j i => if j = fc then (σ1.1 14 i).toNatClampNeg else ft j i, by omega, ?_, ?_, fun j hj => ?_⟩, ⟨0, fun _ => 0, by omega, fun i hi => by omega, ?_, ?_, fun i hi => by omega, fun i hi => by omega⟩, RSeen_fr fx fm (fun c i w => by have := hx2 c i w; omega) (fun c i w => by have := hm2 c i w; omega) O3, RRef_fr fx fm (fun c i w => by have := hx2 c i w; omega) (fun c i w => by have := hm2 c i w; omega) O4, RImg_fr fx fm (fun c i w => by have := hx2 c i w; omega) (fun c i w => by have := hm2 c i w; omega) O5⟩, RPol_fr fx fm (fun c i w => by have := hx2 c i w; omega) (fun c i w => by have := hm2 c i w; omega) P⟩
      · rw [hs2, rb_sI_eq]
      · rw [ht2, rb_sI_eq]
      · by_cases ej : j = fc
        · subst ej
          simp only [if_pos]
          refine ⟨hL, ?_, ?_, fun i hi => ?_⟩
          · rw [hs2, rb_sIg _ _ _ _ _ _ (by omega), rb_sIg _ _ _ _ _ _ (by omega), hs3, rb_sI_eq]
          · rw [ht2, rb_sIg _ _ _ _ _ _ (by omega), rb_sIg _ _ _ _ _ _ (by omega)]; exact b3
          · obtain ⟨v, v1, v2, v3⟩ := D3 i hi (by omega)
            rw [v2, nI_clamp (by omega)]
            refine ⟨v1, ?_, ?_⟩
            · rw [hs2, rb_sIg _ _ _ _ _ _ (by omega), rb_sIg _ _ _ _ _ _ (by omega), hs3, rb_sIg _ _ _ _ _ _ (by omega), rb_cp_at, if_pos (by omega), Nat.zero_add, Nat.sub_zero]; exact v2
            · rw [ht2, rb_sIg _ _ _ _ _ _ (by omega), rb_sIg _ _ _ _ _ _ (by omega)]; exact v3
        · simp only [if_neg ej]
          obtain ⟨e1, e2, e3, e4⟩ := F.2.2.2 j (by omega)
          refine ⟨e1, ?_, ?_, fun i hi => ⟨(e4 i hi).1, ?_, ?_⟩⟩
          · rw [fx.1 _ _ (fun w => by unfold scFX at w; omega)]; exact e2
          · rw [fm.1 _ _ (fun w => by have := hm2 _ _ w; omega)]; exact e3
          · rw [fx.1 _ _ (fun w => by unfold scFX at w; omega)]; exact (e4 i hi).2.1
          · rw [fm.1 _ _ (fun w => by have := hm2 _ _ w; omega)]; exact (e4 i hi).2.2
      · rw [hs2, rb_sIg _ _ _ _ _ _ (by omega), rb_sI_eq]; rfl
      · rw [ht2, rb_sIg _ _ _ _ _ _ (by omega), rb_sI_eq]; rfl
    · rw [b1, b3, if_pos rfl, if_neg (rb_neg1 (show e < 2 ^ 31 by omega))]
      have hx1 : ∀ c i, scFX c i → 12 ≤ c ∧ c ≤ 14 := fun c i w => by unfold scFX at w; omega
      refine ⟨-1, σ1, τ1, rfl, rfl, n, ru, tr, lc, ho, La, REnv_fr a3 a4 (fun c i w => by have := hx1 c i w; omega) (fun c i w => by have := hm1 c i w; omega) E, ⟨⟨fc, fl, ft, hf6, ?_, ?_, fun j hj => ?_⟩, RTape_fr a3 a4 (fun c i w => by have := hx1 c i w; omega) (fun c i w => by have := hm1 c i w; omega) O2, RSeen_fr a3 a4 (fun c i w => by have := hx1 c i w; omega) (fun c i w => by have := hm1 c i w; omega) O3, RRef_fr a3 a4 (fun c i w => by have := hx1 c i w; omega) (fun c i w => by have := hm1 c i w; omega) O4, RImg_fr a3 a4 (fun c i w => by have := hx1 c i w; omega) (fun c i w => by have := hm1 c i w; omega) O5⟩, RPol_fr a3 a4 (fun c i w => by have := hx1 c i w; omega) (fun c i w => by have := hm1 c i w; omega) P⟩
      · rw [a3.1 0 12 (by unfold scFX; omega)]; exact F.2.1
      · rw [a4.1 0 25 (fun w => by have := hm1 _ _ w; omega)]; exact F.2.2.1
      · obtain ⟨e1, e2, e3, e4⟩ := F.2.2.2 j hj
        refine ⟨e1, ?_, ?_, fun i hi => ⟨(e4 i hi).1, ?_, ?_⟩⟩
        · rw [a3.1 _ _ (fun w => by have := hx1 _ _ w; omega)]; exact e2
        · rw [a4.1 _ _ (fun w => by have := hm1 _ _ w; omega)]; exact e3
        · rw [a3.1 _ _ (fun w => by have := hx1 _ _ w; omega)]; exact (e4 i hi).2.1
        · rw [a4.1 _ _ (fun w => by have := hm1 _ _ w; omega)]; exact (e4 i hi).2.2
