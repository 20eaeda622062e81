/-! A LAW IS READ: one clause -/
def scLC (tx n c i : Nat) : Prop := (6 ≤ c ∧ c ≤ 8 ∧ i = 140 * tx + n) ∨ (c = 5 ∧ i = tx)
def scLL (tx n c i : Nat) : Prop := scLM tx c i ∨ scLC tx n c i
section RBLC
variable {m a tx n : Nat} {t : Nat → Nat} {xs : List Int32} {ts : List sp_Tk} {σ τ : rb_St}
theorem LS_fr {p : Nat} {τ' : rb_St} (h2 : rb_fr (scLC tx n) τ τ') (Q : rb_LS m t tx p a xs ts σ τ) : rb_LS m t tx p a xs ts σ τ' := by
  obtain ⟨q1, q2, q3, q4, q5⟩ := Q
  exact ⟨q1, TM_fr h2 (fun c i w => by unfold scLC at w; omega) q2, (h2.1 0 4 (by unfold scLC; omega)).trans q3, (h2.1 0 5 (by unfold scLC; omega)).trans q4, LB_fr (rb_fr.rf (ch := fun _ _ => False)) h2 (fun c i w => w.elim) (fun c i w => by unfold scLC at w; omega) q5⟩
theorem sm_251 (htx : tx ≤ 4) (hn : n < 140) (h14 : τ.1 0 14 = nI tx) : ∃ τ', xj_M_clause_251 (nI (140 * tx + n)) τ = some τ' ∧ τ'.1 8 (140 * tx + n) = τ.1 4 tx ∧ τ'.1 5 tx = τ.1 5 tx + 1 ∧ (∀ i, τ'.1 6 i = τ.1 6 i ∧ τ'.1 7 i = τ.1 7 i) ∧ rb_fr (scLC tx n) τ τ' := by
  obtain ⟨s30, hs⟩ : ∃ s, s = rb_sI τ 8 (140 * tx + n) (τ.1 4 tx) := ⟨_, rfl⟩
  have e14 : s30.1 0 14 = nI tx := by rw [hs, rb_sIg _ _ _ _ _ _ (by omega)]; exact h14
  have e5 : s30.1 5 tx = τ.1 5 tx := by rw [hs, rb_sIg _ _ _ _ _ _ (by omega)]
  refine ⟨rb_sI s30 5 tx (τ.1 5 tx + 1), ?_, ?_, rb_sI_eq _ _ _ _, fun i => ?_, ?_⟩
  · unfold xj_M_clause_251
    rw [h14, rb_ib_nI (by omega) (by decide), if_pos rfl, rb_ib_nI (by omega) (by decide), if_pos rfl, nI_clamp (by omega), nI_clamp (by omega), rb_lt_eq, ← hs, e14, rb_ib_nI (by omega) (by decide), if_pos rfl, nI_clamp (by omega), e5, rb_lt_eq]
  · rw [rb_sIg _ _ _ _ _ _ (by omega), hs, rb_sI_eq]
  · rw [rb_sIg _ _ _ _ _ _ (by omega), rb_sIg _ _ _ _ _ _ (by omega), hs, rb_sIg _ _ _ _ _ _ (by omega), rb_sIg _ _ _ _ _ _ (by omega)]; exact ⟨rfl, rfl⟩
  · rw [hs]
    exact (rb_fr.sI (ch := scLC tx n) (k := 8) (j := 140 * tx + n) (Or.inl ⟨by omega, by omega, rfl⟩)).sI' (k := 5) (j := tx) (Or.inr ⟨rfl, rfl⟩)
theorem sm_251F {K e : Nat} (htx : tx ≤ 4) (hn : n < 140) (h : FT tx K e τ) : ∃ τ', xj_M_clause_251 (nI (140 * tx + n)) τ = some τ' ∧ FT tx K e τ' ∧ rb_fr (scLL tx n) τ τ' := by
  obtain ⟨τ', a1, -, -, -, a5⟩ := sm_251 htx hn h.2.1
  exact ⟨τ', a1, FT_fr a5 (fun c i w => by unfold scLC at w; omega) h, a5.mo (fun c i w => Or.inr w)⟩
theorem sm_184F {K e : Nat} (htx : tx ≤ 4) (hn : n < 140) (he : e < 2 ^ 31) (x : Int32) (h : FT tx K e τ) : ∃ τ', xj_M_clause_184 (nI (140 * tx + n)) x τ = some τ' ∧ FT tx K e τ' ∧ rb_fr (scLL tx n) τ τ' := by
  obtain ⟨s25, hs⟩ : ∃ s, s = rb_sI τ 7 (140 * tx + n) (τ.1 6 (140 * tx + n)) := ⟨_, rfl⟩
  have f : rb_fr (scLC tx n) τ s25 := by rw [hs]; exact rb_fr.sI (Or.inl ⟨by omega, by omega, rfl⟩)
  have h2 : FT tx K e s25 := FT_fr f (fun c i w => by unfold scLC at w; omega) h
  obtain ⟨τ', a1, a2, a3⟩ := sm_251F htx hn h2
  refine ⟨τ', ?_, a2, (f.mo (fun c i w => Or.inr w)).tr a3⟩
  unfold xj_M_clause_184
  rw [rb_ib_nI (by omega) (by decide), if_pos rfl, nI_clamp (by omega), rb_lt_eq, ← hs, h2.1, if_neg (rb_neg1 he), a1, ite_self]
/-- behind a truth: '?' and a sum -/
theorem rb_behind (W : tw m t) (htx : tx ≤ 4) (hn : n < 140) (ha : a ≤ m) (hxs : xs.length ≤ a) (hts : ts.length ≤ a) (h5 : τ.1 5 tx = nI n) (Q : rb_LS m t tx 0 a xs ts σ τ) : ∃ r σ' τ', xf_LR_readBehindCondition σ = some (r, σ') ∧ xj_M_clause_184 (nI (140 * tx + n)) 1 τ = some τ' ∧ rb_fr scLX σ σ' ∧ rb_fr (scLL tx n) τ τ' ∧ ((r = 1 ∧ ∃ e vs, a ≤ e ∧ e ≤ m ∧ vs.length + 1 ≤ e - a ∧ (∀ q ∈ vs, sp_tkok q) ∧ pS 3 vs ∧ rb_LS m t tx 0 e (xs ++ ((-21) :: vs.map sp_cx)) (ts ++ vs) σ' τ' ∧ τ'.1 5 tx = nI (n + 1) ∧ τ'.1 6 (140 * tx + n) = τ.1 6 (140 * tx + n) ∧ τ'.1 7 (140 * tx + n) = nI ts.length ∧ τ'.1 8 (140 * tx + n) = nI (ts.length + vs.length)) ∨ (r = 0 ∧ ∃ e, e ≤ m ∧ σ'.1 7 1 = nI e ∧ FT tx 30 e τ')) := by
  have hm := W.1
  obtain ⟨s25, hs⟩ : ∃ s, s = rb_sI τ 7 (140 * tx + n) (τ.1 6 (140 * tx + n)) := ⟨_, rfl⟩
  have f25 : rb_fr (scLC tx n) τ s25 := by rw [hs]; exact rb_fr.sI (Or.inl ⟨by omega, by omega, rfl⟩)
  have Q25 := LS_fr f25 Q
  have e56 : s25.1 6 (140 * tx + n) = τ.1 6 (140 * tx + n) := by rw [hs, rb_sIg _ _ _ _ _ _ (by omega)]
  have e55 : s25.1 5 tx = nI n := by rw [hs, rb_sIg _ _ _ _ _ _ (by omega)]; exact h5
  obtain ⟨s1, u36, b1, b2, b3, b4, b5⟩ := LS_look W ha Q25
  obtain ⟨hz1, hz2⟩ := sp_sk_le (t := t) ha
  obtain ⟨z, hz⟩ : ∃ z, z = sp_sk t m a := ⟨_, rfl⟩
  rw [← hz] at b1 b2 b3 hz1 hz2
  have fL : ∀ {u u' : rb_St}, rb_fr (scLM tx) u u' → rb_fr (scLL tx n) u u' := fun h => h.mo (fun c i w => Or.inl w)
  have fC : ∀ {u u' : rb_St}, rb_fr (scLC tx n) u u' → rb_fr (scLL tx n) u u' := fun h => h.mo (fun c i w => Or.inr w)
  have nL : ∀ {u u' : rb_St}, rb_fr (scLM tx) u u' → u'.1 6 (140 * tx + n) = u.1 6 (140 * tx + n) ∧ u'.1 7 (140 * tx + n) = u.1 7 (140 * tx + n) ∧ u'.1 5 tx = u.1 5 tx := fun h => ⟨h.1 _ _ (by unfold scLM; omega), h.1 _ _ (by unfold scLM; omega), h.1 _ _ (by unfold scLM; omega)⟩
  unfold xf_LR_readBehindCondition xj_M_clause_184 xf_Rd_passesL
  rw [rb_ib_nI (by omega) (by decide), if_pos rfl, nI_clamp (by omega), rb_lt_eq, ← hs, if_neg (show ¬ (1 : Int32) = 0 by decide), if_pos Q25.2.2.1, b1, b2, rb_b2_some, rb_b2_some]
  by_cases h : sp_sg t m z = 63
  · have hzm := sp_sg_lt W (show sp_sg t m z ≠ -1 by rw [h]; decide)
    obtain ⟨d1, d2, d3⟩ := LS_pass b3
    rw [if_pos h, if_pos h, b3.1.2.2, b3.2.1.2.2, nI_1, rb_lt_eq, rb_lt_eq, rb_b2_some, if_neg (show ¬ (1 : Int32) = 0 by decide)]
    obtain ⟨q1, q2, q3, q4, q5, q6, q7, q8, q9⟩ := d1
    obtain ⟨s5, k1, k2, k3, k4⟩ := sx_add0 (xs := xs) (by omega) q6 q7 (-21)
    obtain ⟨u43, hu⟩ : ∃ s, s = rb_sI (rb_sI u36 0 3 (nI (z + 1))) 7 (140 * tx + n) (nI ts.length) := ⟨_, rfl⟩
    have f43 : rb_fr (scLC tx n) (rb_sI u36 0 3 (nI (z + 1))) u43 := by rw [hu]; exact rb_fr.sI (Or.inl ⟨by omega, by omega, rfl⟩)
    have Q43 : rb_LS m t tx 0 (z + 1) (xs ++ [-21]) ts s5 u43 := LS_fr f43 ⟨TX_fr k4 (fun c i w => by omega) q1, q2, q3, q4, q5, k2, k3, q8, q9⟩
    have e14 : (rb_sI u36 0 3 (nI (z + 1))).1 0 14 = nI tx := q5
    rw [k1, rb_b1_some, e14, rb_ib_nI (by omega) (by decide), if_pos rfl, nI_clamp (by omega), q8, rb_lt_eq, ← hu]
    obtain ⟨r9, s7, u45, x1, x2, x3, x4, x5⟩ := rb_sum64 W htx (z + 1) (xs ++ [-21]) ts s5 u43 (by omega) (by simp only [List.length_append, List.length_cons, List.length_nil]; omega) (by omega) Q43
    have x1' : xf_LR_readSum 64 0 s5 = some (r9, s7) := x1
    have x2' : xf_M_sum 64 u43 = some u45 := x2
    have n45 := nL x4
    have e43 : u43.1 6 (140 * tx + n) = τ.1 6 (140 * tx + n) ∧ u43.1 7 (140 * tx + n) = nI ts.length ∧ u43.1 5 tx = nI n := by
      have n36 := nL (b5.tr d3)
      refine ⟨?_, ?_, ?_⟩
      · rw [hu, rb_sIg _ _ _ _ _ _ (by omega), n36.1]; exact e56
      · rw [hu, rb_sI_eq]
      · rw [hu, rb_sIg _ _ _ _ _ _ (by omega), n36.2.2]; exact e55
    have fs := ((b4.tr d2).tr (k4.mo (fun c i w => (Or.inr w : scLX c i)))).tr x3
    have fu := (((fC f25).tr (fL (b5.tr d3))).tr (fC f43)).tr (fL x4)
    have hr : r9 = 0 ∨ r9 = 1 := x5.elim (fun h => Or.inr h.1) (fun h => Or.inl h.1)
    have hbz : rb_bz r9 = true := by rcases hr with h | h <;> rw [h] <;> decide
    rw [x1', rb_b2_some, hbz, if_pos rfl, x2', rb_b1_some]
    rcases x5 with ⟨n1, e, vs, n2, n3, n4, n5, n6, n7⟩ | ⟨n1, e, n2, n3, n4⟩
    · obtain ⟨τ', y1, y2, y3, y4, y5⟩ := sm_251 htx hn n7.2.2.2.2.1
      refine ⟨r9, s7, τ', rfl, y1, fs, fu.tr (fC y5), Or.inl ⟨n1, e, vs, by omega, n3, by omega, n5, n6, ?_, ?_, ?_, ?_, ?_⟩⟩
      · have el : xs ++ ((-21) :: vs.map sp_cx) = xs ++ [-21] ++ vs.map sp_cx := by simp
        rw [el]; exact LS_fr y5 n7
      · rw [y3, n45.2.2, e43.2.2, nI_1]
      · rw [(y4 _).1, n45.1, e43.1]
      · rw [(y4 _).2, n45.2.1, e43.2.1]
      · rw [y2, n7.2.2.2.2.2.2.2.1, List.length_append]
    · obtain ⟨τ', y1, y2, y3⟩ := sm_251F htx hn n4
      exact ⟨r9, s7, τ', rfl, y1, fs, fu.tr y3, Or.inr ⟨n1, e, n2, n3, FT_mo (by omega) y2⟩⟩
  · obtain ⟨ub, g1, g2, g3⟩ := LS_FT b3 (show ts.length ≤ 240 by omega)
    rw [if_neg h, if_neg h, rb_b2_some, if_pos rfl, g1, rb_b1_some]
    exact ⟨0, s1, ub, rfl, rfl, b4, ((fC f25).tr (fL b5)).tr (fL g3), Or.inr ⟨rfl, z, hz2, b3.1.2.2, FT_mo (by omega) g2⟩⟩
def cOut (m : Nat) (t : Nat → Nat) (tx n a : Nat) (xs : List Int32) (ts : List sp_Tk) (tail : List Int32) (τ : rb_St) (r : Int32) (σ' τ' : rb_St) : Prop := (r = 1 ∧ ∃ e, ∃ c : sp_Cl, a ≤ e ∧ e ≤ m ∧ sp_lwc c ∧ ((if c.1 = [] then [] else c.1.map sp_cx ++ [-21]) ++ c.2.map sp_cx).length ≤ e - a ∧ c.1.length + c.2.length ≤ e - a ∧ rb_LS m t tx 0 e (xs ++ ((if c.1 = [] then [] else c.1.map sp_cx ++ [-21]) ++ (c.2.map sp_cx ++ tail))) (ts ++ (c.1 ++ c.2)) σ' τ' ∧ τ'.1 5 tx = nI (n + 1) ∧ τ'.1 6 (140 * tx + n) = τ.1 6 (140 * tx + n) ∧ τ'.1 7 (140 * tx + n) = nI (ts.length + c.1.length) ∧ τ'.1 8 (140 * tx + n) = nI (ts.length + c.1.length + c.2.length)) ∨ (r = 0 ∧ ∃ e, e ≤ m ∧ σ'.1 7 1 = nI e ∧ FT tx 30 e τ')
/-- a clause behind its ':' -/
theorem rb_body (W : tw m t) (htx : tx ≤ 4) (hn : n < 140) (ha : a ≤ m) (hxs : xs.length ≤ a) (hts : ts.length ≤ a) (h5 : τ.1 5 tx = nI n) (h6 : τ.1 6 (140 * tx + n) = nI ts.length) (Q : rb_LS m t tx 0 a xs ts σ τ) : ∃ r σ' τ', xf_LR_readBody σ = some (r, σ') ∧ (rb_b2 (xf_M_look τ) fun r17 s15 => if r17 = 33 then xj_M_clause_128 (nI (140 * tx + n)) 1 s15 else rb_b2 (xf_M_look s15) fun r65 s63 => if r65 = 40 then xj_M_clause_128 (nI (140 * tx + n)) 1 s63 else xj_M_clause_128 (nI (140 * tx + n)) 0 s63) = some τ' ∧ rb_fr scLX σ σ' ∧ rb_fr (scLL tx n) τ τ' ∧ cOut m t tx n a xs ts [] τ r σ' τ' := by
  have hm := W.1
  obtain ⟨s1, u15, b1, b2, b3, b4, b5⟩ := LS_look W ha Q
  have hzz := sp_sk_sk (t := t) ha
  obtain ⟨hz1, hz2⟩ := sp_sk_le (t := t) ha
  obtain ⟨z, hz⟩ : ∃ z, z = sp_sk t m a := ⟨_, rfl⟩
  rw [← hz] at b1 b2 b3 hz1 hz2 hzz
  have fL : ∀ {u u' : rb_St}, rb_fr (scLM tx) u u' → rb_fr (scLL tx n) u u' := fun h => h.mo (fun c i w => Or.inl w)
  have fC : ∀ {u u' : rb_St}, rb_fr (scLC tx n) u u' → rb_fr (scLL tx n) u u' := fun h => h.mo (fun c i w => Or.inr w)
  have nL : ∀ {u u' : rb_St}, rb_fr (scLM tx) u u' → u'.1 6 (140 * tx + n) = u.1 6 (140 * tx + n) ∧ u'.1 5 tx = u.1 5 tx := fun h => ⟨h.1 _ _ (by unfold scLM; omega), h.1 _ _ (by unfold scLM; omega)⟩
  -- a truth stands first
  have finU : ∀ (e : Nat) (us : List sp_Tk) (s5 u5 : rb_St), z ≤ e → e ≤ m → us.length ≤ e - z → (∀ q ∈ us, sp_tkok q) → pU 0 us → rb_LS m t tx 0 e (xs ++ us.map sp_cx) (ts ++ us) s5 u5 → rb_fr scLX σ s5 → rb_fr (scLM tx) τ u5 → ∃ r σ' τ', (rb_b2 (xf_LR_readBehindCondition s5) fun r11 s9 => if r11 = 0 then some ((0 : Int32), s9) else some (1, s9)) = some (r, σ') ∧ xj_M_clause_184 (nI (140 * tx + n)) 1 u5 = some τ' ∧ rb_fr scLX σ σ' ∧ rb_fr (scLL tx n) τ τ' ∧ cOut m t tx n a xs ts [] τ r σ' τ' := by
    intro e us s5 u5 y1 y2 y3 y4 y5 y6 y7 y8
    obtain ⟨r, σ', τ', v1, v2, v3, v4, v5⟩ := rb_behind W htx hn y2 (by simp only [List.length_append, List.length_map]; omega) (by simp only [List.length_append]; omega) (by rw [(nL y8).2]; exact h5) y6
    rw [v1, rb_b2_some]
    rcases v5 with ⟨w1, e2, vs, w2, w3, w4, w5, w6, w7, w8, w9, w10, w11⟩ | ⟨w1, e2, w2, w3, w4⟩
    · rw [if_neg (show ¬ r = 0 by rw [w1]; decide)]
      have hne : us ≠ [] := fun w => by have := pU_ne y5; rw [w] at this; simp at this
      refine ⟨1, σ', τ', rfl, v2, y7.tr v3, (fL y8).tr v4, Or.inl ⟨rfl, e2, (us, vs), by omega, w3, ⟨y4, w5, Or.inr (y5 [] (by simp)), w6 [] (by simp)⟩, ?_, ?_, ?_, w8, ?_, ?_, ?_⟩⟩
      · simp only [if_neg hne, List.length_append, List.length_map, List.length_cons, List.length_nil]; omega
      · show us.length + vs.length ≤ e2 - a; omega
      · simp only [if_neg hne, List.append_nil]
        have e1 : xs ++ (us.map sp_cx ++ [-21] ++ vs.map sp_cx) = xs ++ us.map sp_cx ++ ((-21) :: vs.map sp_cx) := by simp
        have e2 : ts ++ (us ++ vs) = ts ++ us ++ vs := by simp
        rw [e1, e2]; exact w7
      · rw [w9, (nL y8).1]
      · rw [w10, List.length_append]
      · rw [w11, List.length_append]
    · rw [if_pos w1]
      exact ⟨0, σ', τ', rfl, v2, y7.tr v3, (fL y8).tr v4, Or.inr ⟨rfl, e2, w2, w3, w4⟩⟩
  have failU : ∀ (e K : Nat) (s5 u5 : rb_St) (x : Int32), e ≤ m → K ≤ 30 → s5.1 7 1 = nI e → FT tx K e u5 → rb_fr scLX σ s5 → rb_fr (scLM tx) τ u5 → ∃ r σ' τ', some ((0 : Int32), s5) = some (r, σ') ∧ xj_M_clause_184 (nI (140 * tx + n)) x u5 = some τ' ∧ rb_fr scLX σ σ' ∧ rb_fr (scLL tx n) τ τ' ∧ cOut m t tx n a xs ts [] τ r σ' τ' := by
    intro e K s5 u5 x y1 yK y2 y3 y4 y5
    obtain ⟨τ', v1, v2, v3⟩ := sm_184F htx hn (show e < 2 ^ 31 by omega) x y3
    exact ⟨0, s5, τ', rfl, v1, y4, (fL y5).tr v3, Or.inr ⟨rfl, e, y1, y2, FT_mo yK v2⟩⟩
  have cond : ∀ u, rb_LS m t tx 0 z xs ts s1 u → rb_fr (scLM tx) τ u → ∃ r σ' τ', (rb_b2 (xf_LR_readCondition 64 0 s1) fun r7 s5 => if r7 = 0 then some ((0 : Int32), s5) else rb_b2 (xf_LR_readBehindCondition s5) fun r11 s9 => if r11 = 0 then some (0, s9) else some (1, s9)) = some (r, σ') ∧ xj_M_clause_128 (nI (140 * tx + n)) 1 u = some τ' ∧ rb_fr scLX σ σ' ∧ rb_fr (scLL tx n) τ τ' ∧ cOut m t tx n a xs ts [] τ r σ' τ' := by
    intro u Qu fu
    obtain ⟨r7, s5, u5, x1, x2, x3, x4, x5⟩ := rb_cond64 W htx z xs ts s1 u hz2 (by omega) (by omega) Qu
    have x1' : xf_LR_readCondition 64 0 s1 = some (r7, s5) := x1
    have x2' : xf_M_condition 64 u = some u5 := x2
    unfold xj_M_clause_128
    rw [x1', rb_b2_some, if_neg (show ¬ (1 : Int32) = 0 by decide), x2', rb_b1_some]
    rcases x5 with ⟨n1, e, us, n2, n3, n4, n5, n6, n7⟩ | ⟨n1, e, n2, n3, n4⟩
    · rw [if_neg (show ¬ r7 = 0 by rw [n1]; decide)]
      exact finU e us s5 u5 n2 n3 n4 n5 n6 n7 (b4.tr x3) (fu.tr x4)
    · rw [if_pos n1]
      exact failU e _ s5 u5 1 n2 (by omega) n3 n4 (b4.tr x3) (fu.tr x4)
  unfold xf_LR_readBody
  rw [b1, b2, rb_b2_some, rb_b2_some]
  by_cases h33 : sp_sg t m z = 33
  · rw [if_pos h33, if_pos h33]
    exact cond u15 b3 b5
  · obtain ⟨u63, c1, c2, c3⟩ := sm_look W hz2 b3.2.1
    rw [hzz] at c1 c2
    have Q63 : rb_LS m t tx 0 z xs ts s1 u63 := ⟨b3.1, c2, (c3.1 0 4 (by unfold scB; omega)).trans b3.2.2.1, (c3.1 0 5 (by unfold scB; omega)).trans b3.2.2.2.1, LB_fr (rb_fr.rf (ch := fun _ _ => False)) c3 (fun c i w => w.elim) (fun c i w => by unfold scB at w; omega) b3.2.2.2.2⟩
    have f63 := b5.tr (c3.mo (scB_L (tx := tx)))
    rw [if_neg h33, if_neg h33, c1, rb_b2_some]
    by_cases h40 : sp_sg t m z = 40
    · rw [if_pos h40, if_pos h40]
      exact cond u63 Q63 f63
    · rw [if_neg h40, if_neg h40]
      obtain ⟨r16, s14, u20, x1, x2, x3, x4, x5⟩ := rb_sum64 W htx z xs ts s1 u63 hz2 (by omega) (by omega) Q63
      have x1' : xf_LR_readSum 64 0 s1 = some (r16, s14) := x1
      have x2' : xf_M_sum 64 u63 = some u20 := x2
      unfold xj_M_clause_128
      rw [x1', rb_b2_some, if_pos rfl, x2', rb_b1_some]
      rcases x5 with ⟨n1, e, us, n2, n3, n4, n5, n6, n7⟩ | ⟨n1, e, n2, n3, n4⟩
      · obtain ⟨s18, u49, d1, d2, d3, d4, d5⟩ := LS_look W n3 n7
        obtain ⟨hy1, hy2⟩ := sp_sk_le (t := t) n3
        obtain ⟨y, hy⟩ : ∃ y, y = sp_sk t m e := ⟨_, rfl⟩
        rw [← hy] at d1 d2 d3 hy1 hy2
        have ei : ∀ x σ τ, xf_LR_isComparison x σ = xf_M_isSign x τ := fun _ _ _ => rfl
        rw [if_neg (show ¬ r16 = 0 by rw [n1]; decide), if_pos n7.2.2.1, d1, d2, rb_b2_some, rb_b2_some, ei _ s18 u49]
        by_cases hc : xf_M_isSign (sp_sg t m y) u49 = 0
        · -- no truth: the sum alone
          rw [if_pos hc, if_pos hc]
          obtain ⟨s25, hs⟩ : ∃ s, s = rb_sI u49 7 (140 * tx + n) (u49.1 6 (140 * tx + n)) := ⟨_, rfl⟩
          have f25 : rb_fr (scLC tx n) u49 s25 := by rw [hs]; exact rb_fr.sI (Or.inl ⟨by omega, by omega, rfl⟩)
          have Q25 := LS_fr f25 d3
          obtain ⟨τ', v1, v2, v3, v4, v5⟩ := sm_251 htx hn Q25.2.2.2.2.1
          have fu49 := (f63.tr x4).tr d5
          have n49 := nL fu49
          have e184 : xj_M_clause_184 (nI (140 * tx + n)) 0 u49 = some τ' := by
            unfold xj_M_clause_184
            rw [rb_ib_nI (by omega) (by decide), if_pos rfl, nI_clamp (by omega), rb_lt_eq, ← hs, if_pos rfl, v1]
          rw [e184]
          refine ⟨1, s18, τ', rfl, rfl, (b4.tr x3).tr d4, (fL fu49).tr (fC (f25.tr v5)), Or.inl ⟨rfl, y, ([], us), by omega, hy2, ⟨fun q hq => by simp at hq, n5, Or.inl rfl, n6 [] (by simp)⟩, ?_, ?_, ?_, ?_, ?_, ?_, ?_⟩⟩
          · simp only [if_true, List.nil_append, List.length_map]; omega
          · show 0 + us.length ≤ y - a; omega
          · simp only [if_true, List.nil_append, List.append_nil]
            exact LS_fr v5 Q25
          · rw [v3, hs, rb_sIg _ _ _ _ _ _ (by omega), n49.2, h5, nI_1]
          · rw [(v4 _).1, hs, rb_sIg _ _ _ _ _ _ (by omega), n49.1]
          · rw [(v4 _).2, hs, rb_sI_eq, n49.1, h6]; rfl
          · rw [v2, Q25.2.2.2.2.2.2.2.1, List.length_append]; rfl
        · rw [if_neg hc, if_neg hc]
          obtain ⟨r24, s22, u55, y1, y2, y3, y4, y5⟩ := rb_cmp64 W htx y _ _ s18 u49 hy2 (by simp only [List.length_append, List.length_map]; omega) (by simp only [List.length_append]; omega) d3
          have y1' : xf_LR_readComparison 64 0 s18 = some (r24, s22) := y1
          have y2' : xf_M_compare 64 u49 = some u55 := y2
          have f22 := ((b4.tr x3).tr d4).tr y3
          have f55 := ((f63.tr x4).tr d5).tr y4
          rw [y1', rb_b2_some, y2', rb_b1_some]
          rcases y5 with ⟨j1, e2, vs, j2, j3, j4, j5, j6, j7⟩ | ⟨j1, e2, j2, j3, j4⟩
          · obtain ⟨r28, s26, u59, k1, k2, k3, k4, k5⟩ := rb_more64 W htx e2 _ _ s22 u55 j3 (by simp only [List.length_append, List.length_map]; omega) (by simp only [List.length_append]; omega) j7
            have k1' : xf_LR_readMoreUnits 64 0 s22 = some (r28, s26) := k1
            have k2' : ∀ (k : rb_St → Option rb_St), (rb_b1 (xf_M_goOnAnd 64 u55) fun s57 => rb_b1 (xf_M_goOnOr 64 s57) fun s59 => k s59) = k u59 := by
              intro k
              have k2b : (rb_b1 (xf_M_goOnAnd 64 u55) fun s => xf_M_goOnOr 64 s) = some u59 := k2
              cases hq : xf_M_goOnAnd 64 u55 with
              | none => rw [hq] at k2b; exact absurd k2b (by intro w; cases w)
              | some s3 =>
                rw [hq, rb_b1_some] at k2b
                rw [rb_b1_some, k2b, rb_b1_some]
            rw [if_neg (show ¬ r24 = 0 by rw [j1]; decide), k1', rb_b2_some, k2' (fun s59 => xj_M_clause_184 (nI (140 * tx + n)) 1 s59)]
            rcases k5 with ⟨l1, e3, ws, l2, l3, l4, l5, l6, l7⟩ | ⟨l1, e3, l2, l3, l4⟩
            · rw [if_neg (show ¬ r28 = 0 by rw [l1]; decide)]
              refine finU e3 (us ++ (vs ++ ws)) s26 u59 (by omega) l3 (by simp only [List.length_append]; omega) (fun q hq => ?_) (fun T hT => sp_tyl_app (n6 T (by omega)) (sp_tyl_app (j6 T (by omega)) (l6 T hT))) ?_ (f22.tr k3) (f55.tr k4)
              · rcases List.mem_append.1 hq with h | h
                · exact n5 q h
                · rcases List.mem_append.1 h with h | h
                  · exact j5 q h
                  · exact l5 q h
              · have e1 : xs ++ (us ++ (vs ++ ws)).map sp_cx = xs ++ us.map sp_cx ++ vs.map sp_cx ++ ws.map sp_cx := by simp
                have e2 : ts ++ (us ++ (vs ++ ws)) = ts ++ us ++ vs ++ ws := by simp
                rw [e1, e2]; exact l7
            · rw [if_pos l1]
              exact failU e3 _ s26 u59 1 l2 (by omega) l3 l4 (f22.tr k3) (f55.tr k4)
          · have ea : xf_M_goOnAnd 64 u55 = some u55 := sm_fAnd (xG_ML 63) (show e2 < 2 ^ 31 by omega) j4
            have eo : xf_M_goOnOr 64 u55 = some u55 := sm_fOr (xG_ML 63) (show e2 < 2 ^ 31 by omega) j4
            rw [if_pos j1, ea, rb_b1_some, eo, rb_b1_some]
            exact failU e2 _ s22 u55 1 j2 (by omega) j3 j4 f22 f55
      · rw [if_pos n1, n4.1, if_neg (rb_neg1 (show e < 2 ^ 31 by omega))]
        exact failU e _ s14 u20 0 n2 (by omega) n3 n4 (b4.tr x3) (f63.tr x4)
end RBLC
