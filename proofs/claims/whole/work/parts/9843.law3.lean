/-! A LAW IS READ: atoms -/
theorem rb_ixc2 (f : Nat) (c : Int32) (σ : rb_St) : xl_JL_indexOfChar2_7 6 c σ (f + 7) 0 = if nI 116 = c then some (0, 0) else if nI 115 = c then some (0, 1) else if nI 117 = c then some (0, 2) else if nI 110 = c then some (0, 3) else if nI 104 = c then some (0, 4) else if nI 98 = c then some (0, 5) else some (1, 6) := rfl
theorem rb_ix2 (b : Nat) (h : b < 256) (σ τ : rb_St) : xf_JS_indexOf2 (sp_ch b) σ = some (xf_M_letterOf (nI b) τ) := by
  obtain ⟨h1, h2⟩ := sp_ch_ok b h
  have e := sp_ch_eq b h
  have e1 := e 116 (by decide)
  have e2 := e 115 (by decide)
  have e3 := e 117 (by decide)
  have e4 := e 110 (by decide)
  have e5 := e 104 (by decide)
  have e6 := e 98 (by decide)
  obtain ⟨G, hG⟩ : ∃ G, rb_FU = G + 7 := ⟨99993, rfl⟩
  unfold xf_JS_indexOf2 xf_JS_indexOf2b xf_JL_indexOf2 xf_JL_canEncode xf_JL_indexOfChar2 xf_M_letterOf
  rw [if_neg h1, if_neg h2, if_neg (show ¬ (1 : Int32) = 0 by decide), if_pos (show rb_mx 0 0 < rb_mn 6 6 by decide), show rb_mx 0 0 = (0 : Int32) by decide, show rb_mn 6 6 = (6 : Int32) by decide, hG, rb_ixc2]
  simp only [e1, e2, e3, e4, e5, e6]
  rw [show (116 : Int32) = nI 116 from rfl, show (115 : Int32) = nI 115 from rfl, show (117 : Int32) = nI 117 from rfl, show (110 : Int32) = nI 110 from rfl, show (104 : Int32) = nI 104 from rfl, show (98 : Int32) = nI 98 from rfl]
  simp only [rb_n256 h (show 116 < 256 by decide), rb_n256 h (show 115 < 256 by decide), rb_n256 h (show 117 < 256 by decide), rb_n256 h (show 110 < 256 by decide), rb_n256 h (show 104 < 256 by decide), rb_n256 h (show 98 < 256 by decide)]
  by_cases q1 : 116 = b
  · rw [if_pos q1, if_pos q1]; rfl
  · rw [if_neg q1, if_neg q1]
    by_cases q2 : 115 = b
    · rw [if_pos q2, if_pos q2]; rfl
    · rw [if_neg q2, if_neg q2]
      by_cases q3 : 117 = b
      · rw [if_pos q3, if_pos q3]; rfl
      · rw [if_neg q3, if_neg q3]
        by_cases q4 : 110 = b
        · rw [if_pos q4, if_pos q4]; rfl
        · rw [if_neg q4, if_neg q4]
          by_cases q5 : 104 = b
          · rw [if_pos q5, if_pos q5]; rfl
          · rw [if_neg q5, if_neg q5]
            by_cases q6 : 98 = b
            · rw [if_pos q6, if_pos q6]; rfl
            · rw [if_neg q6, if_neg q6]; rfl
theorem rb_ltr_c (x : Int32) (τ : rb_St) : xf_M_letterOf x τ = -1 ∨ ∃ k, k < 6 ∧ xf_M_letterOf x τ = nI k := by
  unfold xf_M_letterOf
  repeat' split
  · exact Or.inr ⟨0, by decide, rfl⟩
  · exact Or.inr ⟨1, by decide, rfl⟩
  · exact Or.inr ⟨2, by decide, rfl⟩
  · exact Or.inr ⟨3, by decide, rfl⟩
  · exact Or.inr ⟨4, by decide, rfl⟩
  · exact Or.inr ⟨5, by decide, rfl⟩
  · exact Or.inl rfl
section RBLA
variable {m a p tx K h : Nat} {t : Nat → Nat} {xs : List Int32} {ts : List sp_Tk} {σ τ : rb_St}
theorem sm_numl (W : tw m t) : ∀ (r q a v f : Nat) (τ : rb_St), q + r = 4 → r < f → a ≤ m → TM m t a τ → ∃ τ', xl_M_plainNumber_4 f (nI v) (nI q) τ = some (nI (sp_num t m r a v).1, τ') ∧ TM m t (sp_num t m r a v).2 τ' ∧ rb_fr scB τ τ' := by
  have hm := W.1
  have hL : ∀ f x1 x2 τ, xl_M_plainNumber_4 (f + 1) x1 x2 τ = if 4 ≤ x2 then some (x1, τ) else rb_b1 (xf_M_here τ) fun r2 => if (xf_M_isDigit r2 τ) = 0 then some (x1, τ) else rb_b1 (xf_M_here τ) fun r5 => rb_lt (rb_sI τ 0 3 ((τ.1 0 3) + 1)) (fun s7 => xl_M_plainNumber_4 f (((10 * x1) + r5) - 48) (x2 + 1) s7) := fun _ _ _ _ => rfl
  intro r
  induction r with
  | zero =>
    intro q a v f τ hq hf ha h
    obtain ⟨f, rfl⟩ : ∃ q, f = q + 1 := ⟨f - 1, by omega⟩
    exact ⟨τ, by rw [hL, if_pos (show (4 : Int32) ≤ nI q from nI_le (a := 4) (by omega) (by omega))]; rfl, h, rb_fr.rf⟩
  | succ r ih =>
    intro q a v f τ hq hf ha h
    obtain ⟨f, rfl⟩ : ∃ q, f = q + 1 := ⟨f - 1, by omega⟩
    have es : sp_num t m (r + 1) a v = if sp_dg t m a = true then sp_num t m r (a + 1) (10 * v + (t a - 48)) else (v, a) := rfl
    rw [hL, if_neg (show ¬ (4 : Int32) ≤ nI q from nI_ge (b := 4) (by omega) (by decide)), sm_here W ha h, rb_b1_some, rb_b1_some, rb_dgM W, es, h.2.2, nI_1, nI_1, rb_lt_eq]
    simp only [rb_bI_0]
    cases hd : sp_dg t m a with
    | false => rw [if_pos rfl, if_neg (by decide)]; exact ⟨τ, rfl, h, rb_fr.rf⟩
    | true =>
      obtain ⟨d, d1, d2, d3, d4⟩ := sp_sg_dg hd
      rw [if_neg (by decide), if_pos rfl, d3, rb_10d, show t a - 48 = d by omega]
      obtain ⟨τ', b1, b2, b3⟩ := ih (q + 1) (a + 1) (10 * v + d) f _ (by omega) (by omega) (by omega) (TM_at (b := a + 1) h)
      exact ⟨τ', b1, b2, (rb_fr.sI ⟨rfl, rfl⟩).tr b3⟩
/-- a bracket or a '!' -/
theorem rb_opens (hp : p ≤ 6) (hts : ts.length ≤ 240) (Q : rb_LS m t tx p a xs ts σ τ) : ∃ σ' τ', rb_fr scLX σ σ' ∧ rb_fr (scLM tx) τ τ' ∧ xf_M_opens τ = some τ' ∧ ((p < 6 ∧ xf_LR_opens (nI p) σ = some (1, σ') ∧ rb_LS m t tx (p + 1) (a + 1) xs ts σ' τ') ∨ (p = 6 ∧ xf_LR_opens (nI p) σ = some (0, σ') ∧ σ'.1 7 1 = nI a ∧ FT tx 0 a τ')) := by
  obtain ⟨u, g1, g2, g3⟩ := LS_FT Q hts
  obtain ⟨q1, q2, q3, q4, q5⟩ := id Q
  by_cases h6 : p < 6
  · obtain ⟨s2, hs2⟩ : ∃ s, s = rb_sI τ 0 5 (nI (p + 1)) := ⟨_, rfl⟩
    have f2 : rb_fr (fun c i => c = 0 ∧ i = 5) τ s2 := by rw [hs2]; exact rb_fr.sI ⟨rfl, rfl⟩
    have Q2 : rb_LS m t tx (p + 1) a xs ts σ s2 := ⟨q1, TM_fr f2 (fun c i w => by omega) q2, (f2.1 0 4 (by omega)).trans q3, by rw [hs2, rb_sI_eq], LB_fr (rb_fr.rf (ch := fun _ _ => False)) f2 (fun c i w => w.elim) (fun c i w => by omega) q5⟩
    obtain ⟨d1, d2, d3⟩ := LS_pass Q2
    refine ⟨_, _, d2, (f2.mo (fun c i q => Or.inl ⟨q.1, Or.inr (Or.inr q.2)⟩)).tr d3, ?_, Or.inl ⟨h6, ?_, d1⟩⟩
    · unfold xf_M_opens
      rw [q4, if_neg (show ¬ nI p = (6 : Int32) from fun w => by have := (nI_eq (a := p) (b := 6) (by omega) (by decide)).mp w; omega), nI_1, rb_lt_eq, ← hs2, Q2.2.1.2.2, nI_1, rb_lt_eq]
    · unfold xf_LR_opens
      rw [if_pos (show nI p < (6 : Int32) from nI_lt (b := 6) h6 (by decide)), q1.2.2, nI_1, rb_lt_eq]
  · have hp6 : p = 6 := by omega
    have f2 : rb_fr (fun c i => c = 0 ∧ (i = 5 ∨ i = 3)) u (rb_sI (rb_sI u 0 5 (u.1 0 5 + 1)) 0 3 ((rb_sI u 0 5 (u.1 0 5 + 1)).1 0 3 + 1)) := (rb_fr.sI (ch := fun c i => c = 0 ∧ (i = 5 ∨ i = 3)) (k := 0) (j := 5) ⟨rfl, Or.inl rfl⟩).sI' (k := 0) (j := 3) ⟨rfl, Or.inr rfl⟩
    refine ⟨σ, _, rb_fr.rf, g3.tr (f2.mo (fun c i q => Or.inl ⟨q.1, by have := q.2; omega⟩)), ?_, Or.inr ⟨hp6, ?_, q1.2.2, FT_fr f2 (fun c i w => by omega) g2⟩⟩
    · unfold xf_M_opens
      rw [q4, if_pos (show nI p = (6 : Int32) by rw [hp6]; rfl), g1, rb_b1_some, rb_lt_eq, rb_lt_eq]
    · unfold xf_LR_opens
      rw [if_neg (show ¬ nI p < (6 : Int32) from nI_nlt (b := 6) (by omega) (by omega))]
/-- the bracket's end -/
theorem rb_closes (W : tw m t) (x : Int32) (hx : x ≠ -1) (ha : a ≤ m) (hts : ts.length ≤ 240) (Q : rb_LS m t tx (p + 1) a xs ts σ τ) : ∃ σ' τ', rb_fr scLX σ σ' ∧ rb_fr (scLM tx) τ τ' ∧ xf_M_closes x τ = some τ' ∧ ((xf_Rd_passesL x σ = some (1, σ') ∧ sp_sk t m a < m ∧ rb_LS m t tx p (sp_sk t m a + 1) xs ts σ' τ') ∨ (xf_Rd_passesL x σ = some (0, σ') ∧ σ'.1 7 1 = nI (sp_sk t m a) ∧ FT tx 0 (sp_sk t m a) τ')) := by
  obtain ⟨s1, u1, b1, b2, b3, b4, b5⟩ := LS_look W ha Q
  obtain ⟨u, g1, g2, g3⟩ := LS_FT b3 hts
  have w := Q.2.2.1
  unfold xf_M_closes xf_Rd_passesL
  rw [if_pos w, b1, b2, rb_b2_some, rb_b2_some]
  by_cases h : sp_sg t m (sp_sk t m a) = x
  · have hzm := sp_sg_lt W (show sp_sg t m (sp_sk t m a) ≠ -1 by rw [h]; exact hx)
    obtain ⟨d1, d2, d3⟩ := LS_pass b3
    have e5 : (rb_sI u1 0 3 (nI (sp_sk t m a + 1))).1 0 5 - 1 = nI p := by rw [d1.2.2.2.1, nI_pred]
    rw [if_pos h, if_pos h, b3.1.2.2, b3.2.1.2.2, nI_1, rb_lt_eq, rb_lt_eq, rb_lt_eq, e5]
    have f2 : rb_fr (fun c i => c = 0 ∧ i = 5) (rb_sI u1 0 3 (nI (sp_sk t m a + 1))) (rb_sI (rb_sI u1 0 3 (nI (sp_sk t m a + 1))) 0 5 (nI p)) := rb_fr.sI ⟨rfl, rfl⟩
    obtain ⟨q1, q2, q3, q4, q5⟩ := d1
    exact ⟨_, _, b4.tr d2, (b5.tr d3).tr (f2.mo (fun c i q => Or.inl ⟨q.1, Or.inr (Or.inr q.2)⟩)), rfl, Or.inl ⟨rfl, hzm, q1, TM_fr f2 (fun c i w => by omega) q2, (f2.1 0 4 (by omega)).trans q3, rb_sI_eq _ _ _ _, LB_fr (rb_fr.rf (ch := fun _ _ => False)) f2 (fun c i w => w.elim) (fun c i w => by omega) q5⟩⟩
  · have f2 : rb_fr (fun c i => c = 0 ∧ (i = 3 ∨ i = 5)) u (rb_sI (rb_sI u 0 3 (u.1 0 3 + 1)) 0 5 ((rb_sI u 0 3 (u.1 0 3 + 1)).1 0 5 - 1)) := (rb_fr.sI (ch := fun c i => c = 0 ∧ (i = 3 ∨ i = 5)) (k := 0) (j := 3) ⟨rfl, Or.inl rfl⟩).sI' (k := 0) (j := 5) ⟨rfl, Or.inr rfl⟩
    rw [if_neg h, if_neg h, g1, rb_b1_some, rb_lt_eq, rb_lt_eq]
    exact ⟨s1, _, b4, (b5.tr g3).tr (f2.mo (fun c i q => Or.inl ⟨q.1, by have := q.2; omega⟩)), rfl, Or.inr ⟨rfl, b3.1.2.2, FT_fr f2 (fun c i w => by omega) g2⟩⟩
theorem sm_fcloses {K e : Nat} (he : e < 2 ^ 31) (x : Int32) (h : FT tx K e τ) : ∃ τ', xf_M_closes x τ = some τ' ∧ FT tx K e τ' ∧ rb_fr (scLM tx) τ τ' := by
  have f2 : rb_fr (fun c i => c = 0 ∧ (i = 3 ∨ i = 5)) τ (rb_sI (rb_sI τ 0 3 (τ.1 0 3 + 1)) 0 5 ((rb_sI τ 0 3 (τ.1 0 3 + 1)).1 0 5 - 1)) := (rb_fr.sI (ch := fun c i => c = 0 ∧ (i = 3 ∨ i = 5)) (k := 0) (j := 3) ⟨rfl, Or.inl rfl⟩).sI' (k := 0) (j := 5) ⟨rfl, Or.inr rfl⟩
  refine ⟨_, ?_, FT_fr f2 (fun c i w => by omega) h, f2.mo (fun c i q => Or.inl ⟨q.1, by have := q.2; omega⟩)⟩
  unfold xf_M_closes
  rw [h.1, if_neg (rb_neg1 he), rb_lt_eq, rb_lt_eq]
theorem rb_atomOK (W : tw m t) (htx : tx ≤ 4) (hp : p ≤ 6) (hh : h ≤ 40) (hK : 1 ≤ K) {gX : xg_LR} {gM : xg_ML} (S : p < 6 → LOK m t tx (p + 1) K (pS h) (gX.2.2.2.2.2.1 (nI (p + 1))) gM.2.2.1) : LOK m t tx p K (pS h) (xb_LR_readAtom gX (nI p)) (xb_M_atom gM) := by
  have hm := W.1
  intro a xs ts σ τ ha hxs hts Q
  obtain ⟨s1, u1, b1, b2, b3, b4, b5⟩ := LS_look W ha Q
  have hzz := sp_sk_sk (t := t) ha
  obtain ⟨hz1, hz2⟩ := sp_sk_le (t := t) ha
  obtain ⟨z, hz⟩ : ∃ z, z = sp_sk t m a := ⟨_, rfl⟩
  rw [← hz] at b1 b2 b3 hz1 hz2 hzz
  obtain ⟨ub, g1, g2, g3⟩ := LS_FT b3 (show ts.length ≤ 240 by omega)
  unfold xb_LR_readAtom xb_M_atom
  rw [b1, b2, rb_b2_some, rb_b2_some, rb_dgX W, rb_dgM W]
  by_cases hd : sp_dg t m z = true
  · -- a number
    obtain ⟨d, d1, d2, d3, d4⟩ := sp_sg_dg hd
    have X1 : rb_bI true = 1 := rfl
    rw [hd, X1, if_neg (show ¬ (1 : Int32) = 0 by decide), if_neg (show ¬ (1 : Int32) = 0 by decide), if_neg (show ¬ sp_sg t m z = 91 by rw [d3]; exact fun w => by have := (nI_eq (a := 48 + d) (b := 91) (by omega) (by decide)).mp w; omega)]
    obtain ⟨s14, e1, e2, e3⟩ := sx_rnL W hz2 b3.1
    obtain ⟨u9, k1, k2, k3⟩ := sm_numl W 4 0 z 0 rb_FU u1 (by omega) (by unfold rb_FU; omega) hz2 b3.2.1
    have k1' : xl_M_plainNumber_4 rb_FU 0 0 u1 = some (nI (sp_num t m 4 z 0).1, u9) := k1
    have hn := sp_num_le t m 4 z 0 hz2
    rw [hzz] at e1 e2
    have hre : sp_re t m 4 z = (sp_num t m 4 z 0).2 := by unfold sp_re; rw [if_pos hd]
    rw [hre] at e2
    have hge : z + 1 ≤ (sp_num t m 4 z 0).2 := by
      have es : sp_num t m 4 z 0 = if sp_dg t m z = true then sp_num t m 3 (z + 1) (10 * 0 + (t z - 48)) else (0, z) := rfl
      rw [es, if_pos hd]
      exact (sp_num_le t m 3 (z + 1) (10 * 0 + (t z - 48)) (by omega)).1
    have hv : (sp_num t m 4 z 0).1 < 10000 := by have := hn.2.2.2; omega
    obtain ⟨v, hv'⟩ : ∃ v, v = (sp_num t m 4 z 0).1 := ⟨_, rfl⟩
    obtain ⟨e, he'⟩ : ∃ e, e = (sp_num t m 4 z 0).2 := ⟨_, rfl⟩
    have hem : e ≤ m := by rw [he']; exact hn.2.1
    have hrn : sp_rn t m 4 z = if sp_dg t m e = true then -1 else nI v := by unfold sp_rn; rw [if_pos hd, ← he', ← hv']
    rw [← he'] at e2 hge k2
    rw [← hv'] at k1' hv
    unfold xf_M_plainNumber
    rw [e1, rb_b2_some, k1', rb_b2_some, sm_here W hem k2, rb_b1_some, rb_dgM W, hrn]
    have Q9 : rb_LS m t tx p e xs ts s14 u9 := by
      obtain ⟨q1, q2, q3, q4, q5⟩ := b3
      exact ⟨e2, k2, (k3.1 0 4 (by unfold scB; omega)).trans q3, (k3.1 0 5 (by unfold scB; omega)).trans q4, LB_fr e3 k3 (fun c i w => by unfold scA at w; omega) (fun c i w => by unfold scB at w; omega) q5⟩
    have f14 := b4.tr (e3.mo scA_L)
    have f9 := b5.tr (k3.mo (scB_L (tx := tx)))
    by_cases hd2 : sp_dg t m e = true
    · obtain ⟨u15, p1, p2, p3⟩ := LS_FT Q9 (show ts.length ≤ 240 by omega)
      obtain ⟨u23, r1, r2, r3⟩ := sm_fput htx (by omega) p2 0 (nI v)
      rw [hd2, X1, if_pos rfl, if_neg (show ¬ (0 : Int32) ≤ -1 by decide), if_neg (show ¬ (1 : Int32) = 0 by decide), p1, rb_b1_some, rb_b2_some, r1, rb_b1_some]
      exact ⟨0, s14, u23, rfl, rfl, f14, (f9.tr p3).tr r3, Or.inr ⟨rfl, e, hem, e2.2.2, FT_mo (by omega) r2⟩⟩
    · have hf2 : sp_dg t m e = false := by
        cases hx : sp_dg t m e
        · rfl
        · exact absurd hx hd2
      have X0 : rb_bI false = 0 := rfl
      obtain ⟨s18, u23, p1, p2, p3, p4, p5⟩ := rb_lput htx (tk := (0, v)) (v := nI v) (fun _ => rfl) Q9 (by omega) (by omega)
      have p1' : xf_Law_add (nI v) s14 = some s18 := p1
      have p2' : xf_M_put 0 (nI v) u9 = some u23 := p2
      rw [hf2, X0, if_neg (show ¬ false = true by decide), if_pos (nI_pos' (by omega)), if_pos rfl, rb_b2_some, p1', rb_b1_some, p2', rb_b1_some]
      exact ⟨1, s18, u23, rfl, rfl, f14.tr p4, f9.tr p5, Or.inl ⟨rfl, e, [(0, v)], by omega, hem, by simp only [List.length_cons, List.length_nil]; omega, fun q hq => by
        rw [List.mem_singleton] at hq
        rw [hq]; exact ⟨by show 0 < 12; omega, fun _ => hv, fun w => by simp only at w; omega⟩, fun T hT => sp_ty0 (by omega) (by omega), p3⟩⟩
  · have hf : sp_dg t m z = false := by
      cases hx : sp_dg t m z
      · rfl
      · exact absurd hx hd
    have X0 : rb_bI false = 0 := rfl
    rw [hf, X0, if_pos rfl, if_pos rfl]
    by_cases h91 : sp_sg t m z = 91
    · -- a bracket
      have el : xf_M_letterOf (sp_sg t m z) u1 = -1 := by rw [h91]; rfl
      rw [if_pos h91, el, if_pos rfl, if_pos h91]
      have hzm := sp_sg_lt W (show sp_sg t m z ≠ -1 by rw [h91]; decide)
      obtain ⟨s20, u9, o1, o2, o3, o4⟩ := rb_opens hp (show ts.length ≤ 240 by omega) b3
      rcases o4 with ⟨n1, n2, n3⟩ | ⟨n1, n2, n3, n4⟩
      · rw [n2, rb_b2_some, if_neg (show ¬ (1 : Int32) = 0 by decide), o3, rb_b1_some, if_pos n3.2.2.1, nI_1]
        obtain ⟨r26, s24, u12, x1, x2, x3, x4, x5⟩ := S n1 (z + 1) xs ts s20 u9 (by omega) (by omega) (by omega) n3
        rw [x1, x2, rb_b2_some, rb_b1_some]
        rcases x5 with ⟨i1, e, us, i2, i3, i4, i5, i6, i7⟩ | ⟨i1, e, i2, i3, i4⟩
        · rw [if_neg (show ¬ r26 = 0 by rw [i1]; decide)]
          obtain ⟨s28, u14, y1, y2, y3, y4⟩ := rb_closes W 93 (by decide) i3 (by simp only [List.length_append]; omega) i7
          have hle := sp_sk_le (t := t) i3
          rw [y3, rb_b1_some]
          rcases y4 with ⟨y5, y6, y7⟩ | ⟨y5, y6, y7⟩
          · rw [y5, rb_b2_some, if_neg (show ¬ (1 : Int32) = 0 by decide)]
            exact ⟨1, s28, u14, rfl, rfl, ((b4.tr o1).tr x3).tr y1, ((b5.tr o2).tr x4).tr y2, Or.inl ⟨rfl, sp_sk t m e + 1, us, by omega, by omega, by omega, i5, i6, y7⟩⟩
          · rw [y5, rb_b2_some, if_pos rfl]
            exact ⟨0, s28, u14, rfl, rfl, ((b4.tr o1).tr x3).tr y1, ((b5.tr o2).tr x4).tr y2, Or.inr ⟨rfl, sp_sk t m e, by omega, y6, FT_mo (by omega) y7⟩⟩
        · obtain ⟨u14, y1, y2, y3⟩ := sm_fcloses (show e < 2 ^ 31 by omega) 93 i4
          rw [if_pos i1, y1, rb_b1_some]
          exact ⟨0, s24, u14, rfl, rfl, (b4.tr o1).tr x3, ((b5.tr o2).tr x4).tr y3, Or.inr ⟨rfl, e, i2, i3, y2⟩⟩
      · rw [n2, rb_b2_some, if_pos rfl, o3, rb_b1_some, n4.1, if_neg (rb_neg1 (show z < 2 ^ 31 by omega))]
        exact ⟨0, s20, u9, rfl, rfl, b4.tr o1, b5.tr o2, Or.inr ⟨rfl, z, hz2, n3, FT_mo (by omega) n4⟩⟩
    · rw [if_neg h91]
      -- a letter, or nothing
      have cls : (if sp_sg t m z = (-1) then xj_LR_readAtom_89 gX (-1) s1 else rb_b1 (xf_JS_indexOf2 (((sp_sg t m z).toUInt32 % 65536).toInt32) s1) fun r7 => xj_LR_readAtom_89 gX r7 s1) = xj_LR_readAtom_89 gX (xf_M_letterOf (sp_sg t m z) u1) s1 := by
        by_cases hm1 : sp_sg t m z = -1
        · rw [if_pos hm1, hm1]; rfl
        · rw [if_neg hm1]
          have hzm := sp_sg_lt W hm1
          have esg : sp_sg t m z = nI (t z) := by unfold sp_sg; rw [if_pos hzm]
          have e : xf_JS_indexOf2 (((sp_sg t m z).toUInt32 % 65536).toInt32) s1 = some (xf_M_letterOf (sp_sg t m z) u1) := by
            rw [esg]; exact rb_ix2 (t z) (W.2 z hzm).2 s1 u1
          rw [e, rb_b1_some]
      rw [cls]
      unfold xj_LR_readAtom_89
      rcases rb_ltr_c (sp_sg t m z) u1 with hl | ⟨k, hk, hl⟩
      · rw [hl, if_neg (show ¬ (0 : Int32) ≤ -1 by decide), if_pos rfl, if_neg h91, g1, rb_b1_some]
        exact ⟨0, s1, ub, rfl, rfl, b4, b5.tr g3, Or.inr ⟨rfl, z, hz2, b3.1.2.2, FT_mo (by omega) g2⟩⟩
      · have hzm := sp_sg_lt W (show sp_sg t m z ≠ -1 from fun w => by
          rw [w] at hl
          have e0 : xf_M_letterOf (-1) u1 = -1 := rfl
          rw [e0] at hl
          exact rb_neg1 (show k < 2 ^ 31 by omega) hl.symm)
        obtain ⟨d1, d2, d3⟩ := LS_pass b3
        obtain ⟨s12, u18, p1, p2, p3, p4, p5⟩ := rb_lput htx (tk := (1, k)) (v := nI k) (fun _ => rfl) d1 (by omega) (by omega)
        have p1' : xf_Law_add (-1 - nI k) (rb_sI s1 7 1 (nI (z + 1))) = some s12 := p1
        have p2' : xf_M_put 1 (nI k) (rb_sI u1 0 3 (nI (z + 1))) = some u18 := p2
        have hl2 : xf_M_letterOf (sp_sg t m z) (rb_sI u1 0 3 (nI (z + 1))) = nI k := hl
        rw [hl, if_pos (nI_pos' (by omega)), if_neg (rb_neg1 (show k < 2 ^ 31 by omega)), b3.1.2.2, b3.2.1.2.2, nI_1, rb_lt_eq, rb_lt_eq, hl2, p1', p2', rb_b1_some, rb_b1_some]
        exact ⟨1, s12, u18, rfl, rfl, (b4.tr d2).tr p4, (b5.tr d3).tr p5, Or.inl ⟨rfl, z + 1, [(1, k)], by omega, by omega, by simp only [List.length_cons, List.length_nil]; omega, fun q hq => by
          rw [List.mem_singleton] at hq
          rw [hq]; exact ⟨by show 1 < 12; omega, fun w => by simp only at w; omega, fun _ => hk⟩, fun T hT => sp_ty0 (by omega) (by omega), p3⟩⟩
end RBLA
