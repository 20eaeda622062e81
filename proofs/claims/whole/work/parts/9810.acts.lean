/-! ACTS: kept and undone; the image -/
def RAct (n : Nat) (σ τ : rb_St) : Prop := ∃ nx sz : Nat, nx < 40 ∧ sz ≤ 40 ∧ σ.1 28 1 = nI nx ∧ σ.1 28 2 = nI sz ∧ τ.1 0 35 = nI sz ∧ ∀ a, a < sz → PR n (30 + 5 * ((nx + 40 - sz + a) % 40)) σ (fun i => τ.1 22 (398 * a + i))
section RBA
variable {n nx sz : Nat} {σ σ' τ τ' : rb_St} {ch ch' : Nat → Nat → Prop}
theorem RAct_fr (hx : rb_fr ch σ σ') (hm : rb_fr ch' τ τ') (h1 : ∀ c i, ch c i → ¬ (c = 28 ∨ (30 ≤ c ∧ c < 230))) (h2 : ∀ c i, ch' c i → ¬ ((c = 0 ∧ i = 35) ∨ c = 22)) (q : RAct n σ τ) : RAct n σ' τ' := by
  obtain ⟨nx, sz, a, b, c, d, e, f⟩ := q
  refine ⟨nx, sz, a, b, (hx.1 28 1 (fun w => h1 _ _ w (by omega))).trans c, (hx.1 28 2 (fun w => h1 _ _ w (by omega))).trans d, (hm.1 0 35 (fun w => h2 _ _ w (by omega))).trans e, fun j hj => PR_fr hx (fun c i w q => h1 _ _ w (by omega)) (fun i _ => hm.1 _ _ (fun w => h2 _ _ w (by omega))) (f j hj)⟩
theorem sx_keep (hn : nx < 40) (hs : sz ≤ 40) (h1 : σ.1 28 1 = nI nx) (h2 : σ.1 28 2 = nI sz) : ∃ σ', xf_Acts_keep 18 σ = some σ' ∧ σ'.1 28 1 = nI ((nx + 1) % 40) ∧ σ'.1 28 2 = nI (min 40 (sz + 1)) ∧ rb_same (30 + 5 * nx) 18 σ' σ ∧ (∀ i, i < 60 → σ'.1 (30 + 5 * nx + 4) i = σ.1 22 i) ∧ rb_fr (fun c i => (c = 28 ∧ (i = 1 ∨ i = 2)) ∨ (30 + 5 * nx ≤ c ∧ c ≤ 30 + 5 * nx + 4)) σ σ' := by
  obtain ⟨s, a1, a2, a3, a4⟩ := sx_copyFrom (σ := σ) (k0 := 30 + 5 * nx) (k1 := 18) (by omega)
  have s1 : s.1 28 1 = nI nx := by rw [a4.1 28 (by omega)]; exact h1
  have s2 : s.1 28 2 = nI sz := by rw [a4.1 28 (by omega)]; exact h2
  obtain ⟨t, ht⟩ : ∃ t, t = rb_sI (rb_sI s 28 1 (nI ((nx + 1) % 40))) 28 2 (nI (min 40 (sz + 1))) := ⟨_, rfl⟩
  have tr : ∀ c, c ≠ 28 → t.1 c = s.1 c := fun c hc => by rw [ht, rb_sI_row _ _ _ _ _ hc, rb_sI_row _ _ _ _ _ hc]
  refine ⟨t, ?_, ?_, ?_, ?_, ?_, ?_⟩
  · unfold xf_Acts_keep
    rw [h1, rb_ib_nI hn (by decide), if_pos rfl, nI_clamp (by omega), a1, rb_b1_some, s1, nI_1, rb_l40]
    by_cases h : nx = 39
    · subst h
      rw [if_pos (nI_le (by omega) (by omega)), rb_lt_eq, rb_lt_eq, rb_sIg _ _ _ _ _ _ (by omega), s2, nI_1, rb_mn_nI (by decide) (by omega), ht]
      rfl
    · rw [if_neg (nI_ge (by omega) (by omega)), rb_lt_eq, rb_lt_eq, rb_sIg _ _ _ _ _ _ (by omega), s2, nI_1, rb_mn_nI (by decide) (by omega), ht, show (nx + 1) % 40 = nx + 1 by omega]
  · rw [ht, rb_sIg _ _ _ _ _ _ (by omega), rb_sI_eq]
  · rw [ht, rb_sI_eq]
  · refine ⟨fun i hi => ?_, fun i hi => ?_, fun i hi => ?_, fun i hi => ?_⟩
    · rw [tr _ (by omega)]; exact a2.1 i hi
    · rw [tr _ (by omega)]; exact a2.2.1 i hi
    · rw [tr _ (by omega)]; exact a2.2.2.1 i hi
    · rw [tr _ (by omega)]; exact a2.2.2.2 i hi
  · intro i hi
    rw [tr _ (by omega)]; exact a3 i hi
  · refine ⟨fun c i hc => ?_, ?_⟩
    · rw [ht, rb_sIg _ _ _ _ _ _ (by omega), rb_sIg _ _ _ _ _ _ (by omega), a4.1 c (by omega)]
    · rw [ht]; exact a4.2
theorem sm_keep (hs : sz ≤ 40) (h : τ.1 0 35 = nI sz) : ∃ τ', xf_M_keep τ = some τ' ∧ τ'.1 0 35 = nI (min 40 (sz + 1)) ∧ (∀ a, a + 1 < min 40 (sz + 1) → ∀ i, i < 398 → τ'.1 22 (398 * a + i) = τ.1 22 (398 * (if sz = 40 then a + 1 else a) + i)) ∧ (∀ i, i < 398 → τ'.1 22 (398 * (min 40 (sz + 1) - 1) + i) = τ.1 17 i) ∧ rb_fr (fun c i => (c = 0 ∧ i = 35) ∨ c = 22) τ τ' := by
  unfold xf_M_keep
  rw [h, rb_l40]
  by_cases hz : sz = 40
  · subst hz
    rw [if_pos rfl, show (398 : Int32) = 398 from rfl, sm_keeps, rb_b1_some, rb_lt_eq, rb_sf_row (by decide), h, show nI 40 - 1 = nI 39 from rfl]
    obtain ⟨s, hs⟩ : ∃ s, s = rb_sI (rb_sf 22 398 0 τ 15522) 0 35 (nI 39) := ⟨_, rfl⟩
    have s35 : s.1 0 35 = nI 39 := by rw [hs]; exact rb_sI_eq _ _ _ _
    rw [← hs, sm_keepl s (by decide) s35, rb_b1_some, rb_lt_eq, rb_ct_row (by decide), s35, nI_1]
    refine ⟨_, rfl, rb_sI_eq _ _ _ _, fun a ha i hi => ?_, fun i hi => ?_, ⟨fun c i hc => ?_, ?_⟩⟩
    · rw [rb_sI_row _ _ _ _ _ (by decide), rb_ct_at (by decide), if_neg (by omega), hs, rb_sI_row _ _ _ _ _ (by decide), rb_sf_at, if_pos (by omega), if_pos rfl]
      exact congrArg (τ.1 22) (by omega)
    · rw [rb_sI_row _ _ _ _ _ (by decide), rb_ct_at (by decide), if_pos (by omega), hs, rb_sI_row _ _ _ _ _ (by decide), rb_sf_row (by decide)]
      exact congrArg (τ.1 17) (by omega)
    · rw [rb_sIg _ _ _ _ _ _ (by omega), rb_ct_row (by omega), hs, rb_sIg _ _ _ _ _ _ (by omega), rb_sf_row (by omega)]
    · rw [rb_sI_2, rb_ct_2, hs, rb_sI_2, rb_sf_2]
  · rw [if_neg (fun e => hz ((nI_eq (by omega) (by decide)).mp e)), sm_keepl τ (by omega) h, rb_b1_some, rb_lt_eq, rb_ct_row (by decide), h, nI_1]
    refine ⟨_, rfl, ?_, fun a ha i hi => ?_, fun i hi => ?_, ⟨fun c i hc => ?_, ?_⟩⟩
    · rw [rb_sI_eq]; congr 1; omega
    · rw [rb_sI_row _ _ _ _ _ (by decide), rb_ct_at (by decide), if_neg (by omega), if_neg hz]
    · rw [rb_sI_row _ _ _ _ _ (by decide), rb_ct_at (by decide), if_pos (by omega)]
      exact congrArg (τ.1 17) (by omega)
    · rw [rb_sIg _ _ _ _ _ _ (by omega), rb_ct_row (by omega)]
    · rw [rb_sI_2, rb_ct_2]
/-- an act is kept -/
theorem rb_keep (hp : PR n 18 σ (τ.1 17)) (ha : RAct n σ τ) : ∃ σ' τ', xf_Acts_keep 18 σ = some σ' ∧ xf_M_keep τ = some τ' ∧ RAct n σ' τ' ∧ rb_fr (fun c i => c = 28 ∨ (30 ≤ c ∧ c < 230)) σ σ' ∧ rb_fr (fun c i => (c = 0 ∧ i = 35) ∨ c = 22) τ τ' := by
  obtain ⟨nx, sz, a, b, c, d, e, f⟩ := ha
  obtain ⟨σ', x1, x2, x3, x4, x5, x6⟩ := sx_keep a b c d
  obtain ⟨τ', y1, y2, y3, y4, y5⟩ := sm_keep b e
  refine ⟨σ', τ', x1, y1, ⟨(nx + 1) % 40, min 40 (sz + 1), by omega, by omega, x2, x3, y2, fun j hj => ?_⟩, x6.mo (fun c i q => by omega), y5⟩
  by_cases hl : j + 1 = min 40 (sz + 1)
  · rw [show 30 + 5 * (((nx + 1) % 40 + 40 - min 40 (sz + 1) + j) % 40) = 30 + 5 * nx by omega]
    refine PR_same x4 x5 (fun i hi => ?_) hp
    rw [show j = min 40 (sz + 1) - 1 by omega]
    exact y4 i hi
  · by_cases hz : sz = 40
    · have hf := f (j + 1) (by omega)
      have e1 : ((nx + 1) % 40 + 40 - min 40 (sz + 1) + j) % 40 = (nx + 40 - sz + (j + 1)) % 40 := by omega
      rw [e1]
      refine PR_fr x6 (fun c i w => by omega) (fun i hi => ?_) hf
      have := y3 j (by omega) i hi
      rw [if_pos hz] at this
      exact this
    · have hf := f j (by omega)
      have e1 : ((nx + 1) % 40 + 40 - min 40 (sz + 1) + j) % 40 = (nx + 40 - sz + j) % 40 := by omega
      rw [e1]
      refine PR_fr x6 (fun c i w => by omega) (fun i hi => ?_) hf
      have := y3 j (by omega) i hi
      rw [if_neg hz] at this
      exact this
/-- the latest act is undone -/
theorem rb_undo (ha : RAct n σ τ) (h0 : ¬ σ.1 28 2 = 0) : ∃ z σ' τ', xf_Acts_takeBack 18 σ = some σ' ∧ σ'.1 28 2 = nI z ∧ xf_M_undo τ = some (nI z, τ') ∧ PR n 18 σ' (τ'.1 17) ∧ RAct n σ' τ' ∧ rb_fr (fun c i => c = 28 ∨ (18 ≤ c ∧ c < 23)) σ σ' ∧ rb_fr (fun c i => (c = 0 ∧ i = 35) ∨ c = 17) τ τ' := by
  obtain ⟨nx, sz, a, b, c, d, e, f⟩ := ha
  have hz : 0 < sz := by
    rcases Nat.eq_zero_or_pos sz with h | h
    · subst h; exact absurd d h0
    · exact h
  obtain ⟨z, rfl⟩ : ∃ z, sz = z + 1 := ⟨sz - 1, by omega⟩
  have hy : (nx + 39) % 40 < 40 := Nat.mod_lt _ (by decide)
  obtain ⟨s, hs⟩ : ∃ s, s = rb_sI (rb_sI σ 28 1 (nI ((nx + 39) % 40))) 28 2 (nI z) := ⟨_, rfl⟩
  have s1 : s.1 28 1 = nI ((nx + 39) % 40) := by rw [hs, rb_sIg _ _ _ _ _ _ (by omega), rb_sI_eq]
  have s2 : s.1 28 2 = nI z := by rw [hs, rb_sI_eq]
  have sr : ∀ c, c ≠ 28 → s.1 c = σ.1 c := fun c hc => by rw [hs, rb_sI_row _ _ _ _ _ hc, rb_sI_row _ _ _ _ _ hc]
  obtain ⟨σ', a1, a2, a3, a4⟩ := sx_copyFrom (σ := s) (k0 := 18) (k1 := 30 + 5 * ((nx + 39) % 40)) (by omega)
  have g1 : xf_Acts_takeBack 18 σ = some σ' := by
    have key : ∀ u : Int32, u = nI ((nx + 39) % 40) → xj_Acts_takeBack_19 18 u σ = some σ' := by
      intro u hu
      subst hu
      unfold xj_Acts_takeBack_19
      rw [rb_lt_eq, rb_lt_eq, rb_sIg σ 28 1 _ 28 2 (by omega), d, nI_pred, ← hs, s1, rb_ib_nI hy (by decide), if_pos rfl, nI_clamp (by omega), a1, rb_b1_some]
    unfold xf_Acts_takeBack
    rw [c, rb_l0]
    by_cases h : nx = 0
    · subst h
      rw [if_pos (nI_le (by omega) (by omega))]
      exact key _ rfl
    · rw [if_neg (nI_ge (by omega) (by omega)), rb_pr (by omega)]
      refine key _ ?_
      congr 1
      omega
  have e1 : nI (z + 1) - 1 = nI z := nI_pred z
  obtain ⟨t, ht⟩ : ∃ t, t = rb_sI τ 0 35 (nI z) := ⟨_, rfl⟩
  have t35 : t.1 0 35 = nI z := by rw [ht]; exact rb_sI_eq _ _ _ _
  obtain ⟨τ', hτ⟩ : ∃ τ', τ' = rb_ct 22 17 (398 * z) 0 t 398 := ⟨_, rfl⟩
  have g2 : xf_M_undo τ = some (nI z, τ') := by
    unfold xf_M_undo
    rw [e, if_neg (nI_ne0 (by omega) (by omega)), e1, rb_lt_eq, ← ht, sm_undol t (by omega) t35, ← hτ, rb_b1_some, hτ, rb_ct_row (by decide), t35]
  have r17 : ∀ i, i < 398 → τ'.1 17 i = τ.1 22 (398 * z + i) := by
    intro i hi
    rw [hτ, rb_ct_at (by decide), if_pos (by omega), ht, rb_sI_row _ _ _ _ _ (by decide)]
    rfl
  have rm : rb_fr (fun c i => (c = 0 ∧ i = 35) ∨ c = 17) τ τ' := by
    refine ⟨fun c i hc => ?_, ?_⟩
    · rw [hτ, rb_ct_row (by omega), ht, rb_sIg _ _ _ _ _ _ (by omega)]
    · rw [hτ, rb_ct_2, ht]; rfl
  have rx : rb_fr (fun c i => c = 28 ∨ (18 ≤ c ∧ c < 23)) σ σ' := by
    refine ⟨fun c i hc => ?_, ?_⟩
    · rw [a4.1 c (by omega), sr c (by omega)]
    · rw [a4.2, hs]; rfl
  have x28 : ∀ i, σ'.1 28 i = s.1 28 i := fun i => by rw [a4.1 28 (by omega)]
  refine ⟨z, σ', τ', g1, by rw [x28, s2], g2, ?_, ?_, rx, rm⟩
  · have hf := f z (by omega)
    rw [show 30 + 5 * ((nx + 40 - (z + 1) + z) % 40) = 30 + 5 * ((nx + 39) % 40) by omega] at hf
    have hf2 : PR n (30 + 5 * ((nx + 39) % 40)) s (fun i => τ.1 22 (398 * z + i)) := PR_co (fun i _ => by rw [sr _ (by omega)]) (fun i _ => by rw [sr _ (by omega)]) (fun i _ => by rw [sr _ (by omega)]) (fun i _ => by rw [sr _ (by omega)]) (fun i _ => by rw [sr _ (by omega)]) (fun i _ => rfl) hf
    exact PR_same a2 a3 r17 hf2
  · refine ⟨(nx + 39) % 40, z, hy, by omega, by rw [x28, s1], by rw [x28, s2], ?_, fun j hj => ?_⟩
    · rw [hτ, rb_ct_row (by decide), t35]
    · have hf := f j (by omega)
      rw [show (nx + 39) % 40 + 40 - z + j = (nx + 39) % 40 + 40 - z + j from rfl, show ((nx + 39) % 40 + 40 - z + j) % 40 = (nx + 40 - (z + 1) + j) % 40 by omega]
      exact PR_fr rx (fun c i w => by omega) (fun i _ => rm.1 22 _ (by omega)) hf
end RBA
def RImg (n : Nat) (σ τ : rb_St) : Prop := (σ.1 23 0 = 0 ∧ τ.1 0 49 = 0) ∨ (0 < n ∧ τ.1 0 49 = 1 ∧ PR n 23 σ (τ.1 33))
theorem RImg_fr {n : Nat} {σ σ' τ τ' : rb_St} {ch ch' : Nat → Nat → Prop} (hx : rb_fr ch σ σ') (hm : rb_fr ch' τ τ') (h1 : ∀ c i, ch c i → ¬ (23 ≤ c ∧ c < 28)) (h2 : ∀ c i, ch' c i → ¬ ((c = 0 ∧ i = 49) ∨ c = 33)) (q : RImg n σ τ) : RImg n σ' τ' := by
  rcases q with ⟨a, b⟩ | ⟨a, b, c⟩
  · exact Or.inl ⟨(hx.1 23 0 (fun w => h1 _ _ w (by omega))).trans a, (hm.1 0 49 (fun w => h2 _ _ w (by omega))).trans b⟩
  · exact Or.inr ⟨a, (hm.1 0 49 (fun w => h2 _ _ w (by omega))).trans b, PR_fr hx (fun c i w q => h1 _ _ w (by omega)) (fun i _ => hm.1 _ _ (fun w => h2 _ _ w (by omega))) c⟩
