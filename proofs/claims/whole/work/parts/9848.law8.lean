/-! A LAW IS TAKEN -/
theorem rb_rw_cp {c c' : Nat} : ∀ {xs : List Int32} {i : Nat} {σ σ' : rb_St}, (∀ j, i ≤ j → j < i + xs.length → σ'.1 c' j = σ.1 c j) → rb_rw c i xs σ → rb_rw c' i xs σ'
  | [], _, _, _, _, _ => trivial
  | x :: xs, i, σ, σ', h, q => ⟨(h i (by omega) (by simp)).trans q.1, rb_rw_cp (fun j h1 h2 => h j (by omega) (by simp; omega)) q.2⟩
theorem scLX_X (c i : Nat) (h : scLX c i) : scX c i := Or.inl (by unfold scLX at h; omega)
theorem scLT_4 (c i : Nat) (h : scLT 4 c i) : scM c i := by
  rcases h with (((h | h | h) | h | h)) | h
  · exact Or.inl ⟨h.1, by have := h.2; omega⟩
  · exact Or.inr (Or.inr (Or.inr (Or.inr (Or.inl ⟨h.1, by omega⟩))))
  · exact Or.inr (Or.inr (Or.inr (Or.inr (Or.inr (Or.inl h.1)))))
  · exact Or.inr (Or.inr (Or.inr (Or.inr (Or.inr (Or.inr (Or.inr (Or.inl ⟨h.1, h.2.1, by omega⟩)))))))
  · exact Or.inr (Or.inr (Or.inr (Or.inr (Or.inr (Or.inr (Or.inl h))))))
  · exact Or.inl ⟨h.1, by have := h.2; omega⟩
theorem rb_ops_fault1 : op_fault1 Rel := by
  intro σ τ R
  obtain ⟨n, ru, tr, lc, ho, La, E, O, P⟩ := id R
  obtain ⟨r, r2, σ', τ', a1, a2, a3, a4, a5⟩ := rb_readL (tx := 4) (by omega) O.2.1
  have R' := Rel_fr (a3.mo scLX_X) (a4.mo scLT_4) R
  have a2' : xf_M_readLaw 4 τ = some (r2, τ') := a2
  unfold xf_RP_fault1 xf_M_fault
  rw [a1, if_neg (show ¬ (1 : Int32) = 0 by decide), if_pos rfl, a2', rb_b2_some, rb_b2_some]
  rcases a5 with ⟨b1, b2, -⟩ | ⟨b1, e, -, b2, b3⟩
  · exact ⟨-1, σ', τ', by rw [b1]; rfl, by rw [b2], R'⟩
  · exact ⟨nI e, σ', τ', by rw [b1, if_pos rfl, b2], by rw [b3], R'⟩
theorem rb_ops_text1 : op_text1 Rel := by
  intro σ τ R
  obtain ⟨n, ru, tr, lc, ho, La, E, O, P⟩ := id R
  obtain ⟨E1, E2, E3, E4, E5, E6⟩ := E
  obtain ⟨⟨fc, fl, ft, F⟩, O2, O3, O4, O5⟩ := O
  have hlc := E2.1
  unfold xf_RP_text1 xf_M_text xj_M_text_22
  rw [if_neg (show ¬ (1 : Int32) = 0 by decide), if_pos rfl, E6.1]
  have e69 : ∀ u, xj_M_text_69 1 u = some (-1, u) := fun u => rfl
  by_cases h4 : lc = 4
  · obtain ⟨r, r2, σ', τ', a1, -, a3, -, a5⟩ := rb_readL (tx := 4) (by omega) O2
    rw [if_pos (show (4 : Int32) ≤ nI lc by rw [h4]; decide), a1, rb_b2_some, e69]
    refine ⟨-1, σ', τ, ?_, rfl, Rel_fr (a3.mo scLX_X) rb_fr.rf R⟩
    have e9 : σ'.1 0 9 = nI 4 := by rw [a3.1 0 9 (by unfold scLX; omega), E5.1, h4]
    unfold xf_RP_addLaw
    rw [e9, if_neg (show ¬ nI 4 < 4 by decide), rb_b2_some, ite_self]
  · obtain ⟨r, r2, σ1, τ1, a1, a2, a3, a4, a5⟩ := rb_readL (tx := lc) (by omega) O2
    rw [if_neg (show ¬ (4 : Int32) ≤ nI lc from nI_ge (b := 4) (by omega) (by decide)), a1, a2, rb_b2_some, rb_b2_some]
    have hm1 : ∀ c i, scLT lc c i → (c = 0 ∧ (i = 3 ∨ i = 4 ∨ i = 5 ∨ i = 14)) ∨ ((c = 2 ∨ c = 3) ∧ 520 * lc ≤ i) ∨ c = 4 ∨ (c = 5 ∧ i = lc) ∨ (6 ≤ c ∧ c ≤ 8 ∧ 140 * lc ≤ i) := fun c i w => by
      rcases w with (((h | h | h) | h | h)) | h
      · exact Or.inl ⟨h.1, by have := h.2; omega⟩
      · exact Or.inr (Or.inl ⟨h.1, h.2.1⟩)
      · exact Or.inr (Or.inr (Or.inl h.1))
      · exact Or.inr (Or.inr (Or.inr (Or.inr ⟨h.1, h.2.1, h.2.2.1⟩)))
      · exact Or.inr (Or.inr (Or.inr (Or.inl h)))
      · exact Or.inl ⟨h.1, by have := h.2; omega⟩
    have hx1 : ∀ c i, scLX c i → 7 ≤ c ∧ c ≤ 9 := fun c i w => by unfold scLX at w; omega
    rcases a5 with ⟨b1, b2, L, c1, c2, c3, c4, c5, c6, c7⟩ | ⟨b1, e, he, b2, b3⟩
    · rw [b1, b2, if_neg (show ¬ (1 : Int32) = 0 by decide), if_pos rfl]
      have e9 : σ1.1 0 9 = nI lc := by rw [a3.1 0 9 (by unfold scLX; omega)]; exact E5.1
      have e13 : τ1.1 0 13 = nI lc := by rw [a4.1 0 13 (fun w => by have := hm1 _ _ w; omega)]; exact E6.1
      obtain ⟨s3, hs3⟩ : ∃ s, s = rb_sI (rb_cp σ1 9 (240 + 4 * lc + 1) 0 0 240) (240 + 4 * lc) 1 (nI (sp_fl L).length) := ⟨_, rfl⟩
      have cf : xf_Law_copyFrom (240 + 4 * lc) σ1 = some s3 := by
        unfold xf_Law_copyFrom
        rw [rb_lt_eq, rb_lt_eq, rb_cp_row _ _ _ _ _ _ _ (by omega), c5, ← hs3]
      have f3 : rb_fr (fun c i => c = 240 + 4 * lc ∨ c = 240 + 4 * lc + 1) σ1 s3 := by
        rw [hs3]
        exact rb_fr.sI' (k := 240 + 4 * lc) (rb_fr.cp (b := 240 + 4 * lc + 1) (fun i _ _ => Or.inr rfl)) (Or.inl rfl)
      obtain ⟨σ2, hs2⟩ : ∃ s, s = rb_sI (rb_sI s3 1 1 0) 0 9 (nI (lc + 1)) := ⟨_, rfl⟩
      obtain ⟨τ2, ht2⟩ : ∃ s, s = rb_sI (rb_sI τ1 0 2 0) 0 13 (nI (lc + 1)) := ⟨_, rfl⟩
      have s9 : (rb_sI s3 1 1 0).1 0 9 = nI lc := by rw [rb_sIg _ _ _ _ _ _ (by omega), f3.1 0 9 (by omega)]; exact e9
      have t13 : (rb_sI τ1 0 2 0).1 0 13 = nI lc := by rw [rb_sIg _ _ _ _ _ _ (by omega)]; exact e13
      have cX : xf_RP_addLaw σ1 = some (nI lc, σ2) := by
        unfold xf_RP_addLaw
        rw [e9, if_pos (show nI lc < (4 : Int32) from nI_lt (b := 4) (by omega) (by decide)), rb_ib_nI (by omega) (by decide), if_pos rfl, nI_clamp (by omega), cf, rb_b1_some, rb_lt_eq, rb_lt_eq, s9, nI_1, ← hs2, hs2, rb_sI_eq, nI_pred]
      rw [cX, rb_b2_some, rb_lt_eq, rb_lt_eq, t13, nI_1, ← ht2]
      refine ⟨nI lc, σ2, τ2, rfl, by rw [ht2, rb_sI_eq, nI_pred], ?_⟩
      have fx : rb_fr (fun c i => scLX c i ∨ c = 240 + 4 * lc ∨ c = 240 + 4 * lc + 1 ∨ (c = 1 ∧ i = 1) ∨ (c = 0 ∧ i = 9)) σ σ2 := by
        rw [hs2]
        exact rb_fr.sI' (k := 0) (j := 9) (rb_fr.sI' (k := 1) (j := 1) ((a3.mo (fun c i q => Or.inl q)).tr (f3.mo (fun c i q => by omega))) (by omega)) (by omega)
      have fm : rb_fr (fun c i => scLT lc c i ∨ (c = 0 ∧ (i = 2 ∨ i = 13))) τ τ2 := by
        rw [ht2]
        exact rb_fr.sI' (k := 0) (j := 13) (rb_fr.sI' (k := 0) (j := 2) (a4.mo (fun c i q => Or.inl q)) (Or.inr ⟨rfl, Or.inl rfl⟩)) (Or.inr ⟨rfl, Or.inr rfl⟩)
      have hx2 : ∀ c i, (scLX c i ∨ c = 240 + 4 * lc ∨ c = 240 + 4 * lc + 1 ∨ (c = 1 ∧ i = 1) ∨ (c = 0 ∧ i = 9)) → (7 ≤ c ∧ c ≤ 9) ∨ c = 240 + 4 * lc ∨ c = 240 + 4 * lc + 1 ∨ (c = 1 ∧ i = 1) ∨ (c = 0 ∧ i = 9) := fun c i w => by
        unfold scLX at w; omega
      have hm2 : ∀ c i, (scLT lc c i ∨ (c = 0 ∧ (i = 2 ∨ i = 13))) → (c = 0 ∧ (i = 3 ∨ i = 4 ∨ i = 5 ∨ i = 14 ∨ i = 2 ∨ i = 13)) ∨ ((c = 2 ∨ c = 3) ∧ 520 * lc ≤ i) ∨ c = 4 ∨ (c = 5 ∧ i = lc) ∨ (6 ≤ c ∧ c ≤ 8 ∧ 140 * lc ≤ i) := fun c i w => by
        rcases w with w | w
        · have := hm1 c i w; omega
        · omega
      have f12 : rb_fr (fun c i => c = 0 ∧ (i = 2 ∨ i = 13)) τ1 τ2 := by
        rw [ht2]
        exact rb_fr.sI' (k := 0) (j := 13) (rb_fr.sI (ch := fun c i => c = 0 ∧ (i = 2 ∨ i = 13)) (k := 0) (j := 2) ⟨rfl, Or.inl rfl⟩) ⟨rfl, Or.inr rfl⟩
      refine ⟨n, ru, tr, lc + 1, ho, fun j => if j = lc then L else La j, ⟨E1, ⟨by omega, by have := E2.2.1; omega, fun j hj => ?_⟩, gx_fr fx (fun c i w => by have := hx2 c i w; omega) E3, gm_fr fm (fun c i w => by have := hm2 c i w; omega) E4, ⟨by rw [hs2, rb_sI_eq], ?_, fun j hj => ?_⟩, ⟨by rw [ht2, rb_sI_eq], ?_, fun j hj => ?_⟩⟩, ⟨⟨fc, fl, ft, RFig_fr fx fm (fun c i w => by have := hx2 c i w; omega) (fun c i w => by have := hm2 c i w; omega) F⟩, ⟨0, fun _ => 0, by omega, fun i hi => by omega, ?_, ?_, fun i hi => by omega, fun i hi => by omega⟩, RSeen_fr fx fm (fun c i w => by have := hx2 c i w; omega) (fun c i w => by have := hm2 c i w; omega) O3, RRef_fr fx fm (fun c i w => by have := hx2 c i w; omega) (fun c i w => by have := hm2 c i w; omega) O4, RImg_fr fx fm (fun c i w => by have := hx2 c i w; omega) (fun c i w => by have := hm2 c i w; omega) O5⟩, RPol_fr fx fm (fun c i w => by have := hx2 c i w; omega) (fun c i w => by have := hm2 c i w; omega) P⟩
      · by_cases ej : j = lc
        · simp only [if_pos ej]; exact ⟨c1, c3, c2, c4⟩
        · simp only [if_neg ej]; exact E2.2.2 j (by omega)
      · rw [fx.1 0 10 (fun w => by have := hx2 _ _ w; omega)]; exact E5.2.1
      · by_cases ej : j = lc
        · subst ej
          simp only [if_pos]
          refine ⟨?_, rb_rw_cp (fun i _ hi => ?_) c6⟩
          · rw [hs2, rb_sIg _ _ _ _ _ _ (by omega), rb_sIg _ _ _ _ _ _ (by omega), hs3, rb_sI_eq]
          · rw [hs2, rb_sIg _ _ _ _ _ _ (by omega), rb_sIg _ _ _ _ _ _ (by omega), hs3, rb_sIg _ _ _ _ _ _ (by omega), rb_cp_at, if_pos (by omega), Nat.zero_add, Nat.sub_zero]
        · simp only [if_neg ej]
          obtain ⟨d1, d2⟩ := E5.2.2 j (by omega)
          refine ⟨?_, rb_rw_co (fun i _ hi => ?_) d2⟩
          · rw [fx.1 _ _ (fun w => by have := hx2 _ _ w; omega)]; exact d1
          · rw [fx.1 _ _ (fun w => by have := hx2 _ _ w; omega)]
      · rw [fm.1 0 29 (fun w => by have := hm2 _ _ w; omega)]; exact E6.2.1
      · by_cases ej : j = lc
        · subst ej
          simp only [if_pos]
          exact ⟨(f12.1 5 j (by omega)).trans c7.1, rb_lm_co (fun c i p1 p2 p3 => f12.1 _ _ (by omega)) (fun c i p1 p2 p3 => f12.1 _ _ (by omega)) c7.2⟩
        · simp only [if_neg ej]
          obtain ⟨d1, d2⟩ := E6.2.2 j (by omega)
          have w3 := (E2.2.2 j (by omega)).2.2
          refine ⟨?_, rb_lm_co (fun c i p1 p2 p3 => fm.1 _ _ (fun w => by have := hm2 _ _ w; omega)) (fun c i p1 p2 p3 => fm.1 _ _ (fun w => by have := hm2 _ _ w; omega)) d2⟩
          rw [fm.1 _ _ (fun w => by have := hm2 _ _ w; omega)]; exact d1
      · rw [hs2, rb_sIg _ _ _ _ _ _ (by omega), rb_sI_eq]; rfl
      · rw [ht2, rb_sIg _ _ _ _ _ _ (by omega), rb_sI_eq]; rfl
    · rw [b1, b3, if_pos rfl, if_neg (rb_neg1 (show e < 2 ^ 31 by omega)), e69]
      refine ⟨-1, σ1, τ1, rfl, rfl, n, ru, tr, lc, ho, La, ⟨E1, E2, gx_fr a3 (fun c i w => by have := hx1 c i w; omega) E3, gm_fr a4 (fun c i w => by have := hm1 c i w; omega) E4, lwx_fr E2 a3 (fun c i w => by have := hx1 c i w; omega) E5, lwm_fr2 E2 a4 (fun c i w => by have := hm1 c i w; omega) E6⟩, ⟨⟨fc, fl, ft, RFig_fr a3 a4 (fun c i w => by have := hx1 c i w; omega) (fun c i w => by have := hm1 c i w; omega) F⟩, RTape_fr a3 a4 (fun c i w => by have := hx1 c i w; omega) (fun c i w => by have := hm1 c i w; omega) O2, RSeen_fr a3 a4 (fun c i w => by have := hx1 c i w; omega) (fun c i w => by have := hm1 c i w; omega) O3, RRef_fr a3 a4 (fun c i w => by have := hx1 c i w; omega) (fun c i w => by have := hm1 c i w; omega) O4, RImg_fr a3 a4 (fun c i w => by have := hx1 c i w; omega) (fun c i w => by have := hm1 c i w; omega) O5⟩, RPol_fr a3 a4 (fun c i w => by have := hx1 c i w; omega) (fun c i w => by have := hm1 c i w; omega) P⟩
