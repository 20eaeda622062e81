/-! dancer: the answer, or a throw -/
def op_dancer (Rel : rb_St → rb_St → Prop) : Prop := ∀ σ τ : rb_St, Rel σ τ → ∀ (p0 : Int32) (p1 : Int32), (∃ (r : Int32) (τ' : rb_St), xf_RP_dancer p0 p1 σ = some r ∧ xf_M_dancer p0 p1 τ = some (r, τ') ∧ τ'.1 0 0 = 0 ∧ Rel σ τ') ∨ ((xf_RP_isDancer p0 σ = 0 ∨ p1 < 0 ∨ ¬ p1 ≤ 5) ∧ ∃ (r : Int32) (τ' : rb_St), xf_M_dancer p0 p1 τ = some (r, τ') ∧ τ'.1 0 0 = 1 ∧ Rel σ τ')
theorem rb_ops_dancer : op_dancer Rel := by
  intro σ τ R p0 p1
  obtain ⟨n, ru, tr, lc, ho, La, ⟨gw1, -, gx1, gm1, -, -⟩, b, ⟨⟨wh, ln, m, cr, co, be, lg, w, px1, -, pm1, -⟩, -⟩⟩ := id R
  have h7 := gw1.1
  have thr : xf_M_dancer p0 p1 τ = xj_M_dancer_23 p0 p1 1 τ → ∃ (r : Int32) (τ' : rb_St), xf_M_dancer p0 p1 τ = some (r, τ') ∧ τ'.1 0 0 = 1 ∧ Rel σ τ' := fun e => ⟨0, rb_sI τ 0 0 1, by
    rw [e]
    unfold xj_M_dancer_23
    rw [rb_lt_eq, rb_sI_eq, if_pos rfl], rb_sI_eq _ _ _ _, Rel_fr rb_fr.rf (rb_fr.sI (by unfold scM; omega)) R⟩
  rcases rb_isD h7 gx1.1 gm1.1 p0 with ⟨d, hd, rfl, e1, e2⟩ | ⟨e1, e2⟩
  · rcases rb_inL 0 5 (by decide) (by decide) p1 τ with ⟨j, _, hj, rfl, e⟩ | ⟨h2, e⟩
    · have e' : xf_M_in (nI j) 0 5 τ = 1 := e
      refine Or.inl ?_
      obtain ⟨s4, hs4⟩ : ∃ s, s = rb_sI τ 0 0 0 := ⟨_, rfl⟩
      have F : rb_fr scM τ s4 := by rw [hs4]; exact rb_fr.sI (by unfold scM; omega)
      have R' := Rel_fr (rb_fr.rf (ch := scX) (σ := σ)) F R
      have t0 : s4.1 0 0 = 0 := by rw [hs4, rb_sI_eq]
      have g4 : gm n ru tr s4 := ⟨(F.1 0 22 (by unfold scM; omega)).trans gm1.1, fun i hi => (F.1 13 i (by unfold scM; omega)).trans (gm1.2.1 i hi), fun i hi => (F.1 14 i (by unfold scM; omega)).trans (gm1.2.2 i hi)⟩
      have r17 : s4.1 17 = τ.1 17 := funext fun i => F.1 17 i (by unfold scM; omega)
      have w4 : rm_wh n wh ln s4 := ⟨g4.1, fun p hp => by rw [r17]; exact pm1.1 p hp, fun q hq => by rw [r17]; exact pm1.2.1 q hq⟩
      have c4 : rm_cr m cr (s4.1 17) := by rw [r17]; exact pm1.2.2.1
      have V := w.1.1
      have Wc := w.1.2.2.1
      have eM : xf_M_dancer (nI d) (nI j) τ = if nI j = 1 then if rb_ib (7 + nI d) 398 then some (s4.1 17 (7 + nI d).toNatClampNeg, s4) else none else if nI j = 2 then rb_b1 (xf_M_told (nI d) (nI j) s4) fun r8 => some (r8, s4) else if nI j = 3 then rb_b1 (xf_M_placeOf (nI d) s4) fun r10 => some (r10, s4) else if nI j = 4 then rb_b1 (xf_M_leftOf (nI d) s4) fun r12 => some (r12, s4) else if nI j = 5 then rb_b1 (xf_M_crossingsOf (nI d) s4) fun r14 => some (r14, s4) else rb_b1 (xf_M_told (nI d) (nI j) s4) fun r16 => some (r16, s4) := by
        unfold xf_M_dancer xj_M_dancer_23
        rw [e2, rb_b1_some, if_neg (show ¬ (1 : Int32) = 0 by decide), e', if_neg (show ¬ (1 : Int32) = 0 by decide), rb_lt_eq, ← hs4, t0, if_neg (show ¬ (0 : Int32) = 1 by decide)]
      have eX : xf_RP_dancer (nI d) (nI j) σ = if nI j = 0 then rb_b1 (xf_Green_trait (nI d) 0 σ) fun r4 => some r4 else if nI j = 1 then if rb_ib (nI d) 8 then some (σ.1 (18 + 2) (nI d).toNatClampNeg) else none else if nI j = 2 then rb_b1 (xf_Green_trait (nI d) 2 σ) fun r7 => some r7 else if nI j = 3 then rb_b1 (xf_Pole_placeOf 18 (nI d) σ) fun r9 => some r9 else if nI j = 4 then rb_b1 (xf_Pole_leftOf 18 (nI d) σ) fun r11 => some r11 else rb_b1 (xf_Pole_crossingsOf 18 (nI d) σ) fun r13 => some r13 := by
        unfold xf_RP_dancer
        rw [e1, if_neg (show ¬ (1 : Int32) = 0 by decide), if_neg (nI_pos (by omega)), if_pos (show nI j ≤ (5 : Int32) from nI_le (b := 5) hj (by omega))]
      have h18 := px1.1
      have hj6 : j = 0 ∨ j = 1 ∨ j = 2 ∨ j = 3 ∨ j = 4 ∨ j = 5 := by omega
      rcases hj6 with rfl | rfl | rfl | rfl | rfl | rfl
      · have a : xf_Green_trait (nI d) 0 σ = some (nI (tr (3 * d + 0))) := sx_trait gw1 gx1 hd (j := 0) (by decide)
        have c : xf_M_told (nI d) (nI 0) s4 = some (nI (tr (3 * d + 0))) := sm_told gw1 g4 hd (j := 0) (by decide)
        refine ⟨nI (tr (3 * d + 0)), s4, ?_, ?_, t0, R'⟩
        · rw [eX, if_pos (by decide), a, rb_b1_some]
        · rw [eM, if_neg (by decide), if_neg (by decide), if_neg (by decide), if_neg (by decide), if_neg (by decide), c, rb_b1_some]
      · refine ⟨nI (ln d), s4, ?_, ?_, t0, R'⟩
        · rw [eX, if_neg (by decide), if_pos (by decide), rb_ib_nI (by omega) (by decide), if_pos rfl, nI_clamp (by omega), h18.2.2 d hd]
        · have a7 : (7 : Int32) + nI d = nI (7 + d) := nI_add 7 d
          rw [eM, if_pos (by decide), a7, rb_ib_nI (by omega) (by decide), if_pos rfl, nI_clamp (by omega), w4.2.2 d hd]
      · have a : xf_Green_trait (nI d) 2 σ = some (nI (tr (3 * d + 2))) := sx_trait gw1 gx1 hd (j := 2) (by decide)
        have c : xf_M_told (nI d) (nI 2) s4 = some (nI (tr (3 * d + 2))) := sm_told gw1 g4 hd (j := 2) (by decide)
        refine ⟨nI (tr (3 * d + 2)), s4, ?_, ?_, t0, R'⟩
        · rw [eX, if_neg (by decide), if_neg (by decide), if_pos (by decide), a, rb_b1_some]
        · rw [eM, if_neg (by decide), if_pos (by decide), c, rb_b1_some]
      · obtain ⟨p, hp, hpd⟩ := w.1.2.1 d hd
        have a := sx_placeOf V h18 hp
        have c := sm_placeOf V w4 hp
        rw [hpd] at a c
        refine ⟨nI p, s4, ?_, ?_, t0, R'⟩
        · rw [eX, if_neg (by decide), if_neg (by decide), if_neg (by decide), if_pos (by decide), a, rb_b1_some]
        · rw [eM, if_neg (by decide), if_neg (by decide), if_pos (by decide), c, rb_b1_some]
      · have a := sx_leftOf V Wc h18 px1.2.1 hd
        have c := sm_leftOf V Wc w4 c4 hd
        refine ⟨nI (ln d) - nI (sp_ta cr d m), s4, ?_, ?_, t0, R'⟩
        · rw [eX, if_neg (by decide), if_neg (by decide), if_neg (by decide), if_neg (by decide), if_pos (by decide), a, rb_b1_some]
        · rw [eM, if_neg (by decide), if_neg (by decide), if_neg (by decide), if_pos (by decide), c, rb_b1_some]
      · have a := sx_crossingsOf (k := 18) Wc px1.2.1 (d := d) (by omega)
        have c := sm_crossingsOf Wc c4 (d := d) (by omega)
        refine ⟨nI (sp_co cr d m), s4, ?_, ?_, t0, R'⟩
        · rw [eX, if_neg (by decide), if_neg (by decide), if_neg (by decide), if_neg (by decide), if_neg (by decide), a, rb_b1_some]
        · rw [eM, if_neg (by decide), if_neg (by decide), if_neg (by decide), if_neg (by decide), if_pos (by decide), c, rb_b1_some]
    · have e' : xf_M_in p1 0 5 τ = 0 := e
      refine Or.inr ⟨Or.inr ?_, thr ?_⟩
      · rcases h2 with h2 | ⟨h1, h2⟩
        · exact Or.inl h2
        · refine Or.inr (fun q => ?_)
          rw [Int32.lt_iff_toInt_lt, nI_toInt (by decide)] at h2
          rw [Int32.le_iff_toInt_le, show (5 : Int32).toInt = 5 from rfl] at q
          omega
      · unfold xf_M_dancer
        rw [e2, rb_b1_some, if_neg (show ¬ (1 : Int32) = 0 by decide), e', if_pos rfl]
  · refine Or.inr ⟨Or.inl e1, thr ?_⟩
    unfold xf_M_dancer
    rw [e2, rb_b1_some, if_pos rfl]
