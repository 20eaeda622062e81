/-! NEAREST, the reference: every order has its distance -/
section BFL
variable {n : Nat} {goal w : Nat → Nat}
theorem af_gs_co {p : Nat} (hp : p < n) (h3 : 3 ≤ n) {a b : Nat → Nat} (h : ∀ i, i < n → a i = b i) : ∀ i, i < n → af_gs n p a i = af_gs n p b i := by
  intro i hi
  unfold af_gs
  by_cases c : p + 1 < n
  · rw [if_pos c, if_pos c]
    exact h _ (af_pi_l hp c hi)
  · rw [if_neg c, if_neg c]
    exact h _ (af_pi_l (by omega) (by omega) hi)
theorem af_R_co (h3 : 3 ≤ n) : ∀ (N : Nat) (a b : Nat → Nat), (∀ i, i < n → a i = b i) → af_R n N a → af_R n N b := by
  intro N
  induction N with
  | zero => intro a b h hR i hi; rw [← h i hi]; exact hR i hi
  | succ N ih =>
    intro a b h hR
    obtain ⟨p, hp, hR⟩ := hR
    exact ⟨p, hp, ih _ _ (af_gs_co hp h3 h) hR⟩
theorem bf_dist (h3 : 3 ≤ n) (h7 : n ≤ 7) {g : Nat → Nat} (G : af_gw n g) : ∃ N, N < 100000 ∧ af_R n N g ∧ ∀ M, M < N → ¬ af_R n M g := by
  have hV : VX n (fun i => i) g ((fun c i => if c = 236 then nI n else if c = 237 then nI i else nI (g i)), 0) := by
    refine ⟨?_, fun i hi => ⟨hi, ?_⟩, fun d hd => ⟨G.1 d hd, ?_⟩⟩
    · show (if (236 : Nat) = 236 then nI n else if (236 : Nat) = 237 then nI 0 else nI (g 0)) = nI n
      rw [if_pos rfl]
    · show (if (237 : Nat) = 236 then nI n else if (237 : Nat) = 237 then nI i else nI (g i)) = nI i
      rw [if_neg (by decide), if_pos rfl]
    · show (if (238 : Nat) = 236 then nI n else if (238 : Nat) = 237 then nI d else nI (g d)) = nI (g d)
      rw [if_neg (by decide), if_neg (by decide)]
  obtain ⟨N, σ', -, a, b, c, -⟩ := sx_fewest h3 h7 hV G
  exact ⟨N, a, b, c⟩
theorem bf_fill : ∀ (f t : Nat) (τ : rb_St), t ≤ 5040 → 5040 - t < f → (∀ i, i < t → τ.1 25 i = -1) → ∃ τ', xl_M_layFar_2 f (nI t) τ = some τ' ∧ (∀ i, i < 5040 → τ'.1 25 i = -1) ∧ rb_fr (fun c _ => c = 25) τ τ' := by
  intro f
  induction f with
  | zero => intro t τ _ h; omega
  | succ f ih =>
    intro t τ ht hf h25
    have e0 : xl_M_layFar_2 (f + 1) (nI t) τ = if 5040 ≤ nI t then some τ else if rb_ib (nI t) 5040 then rb_lt (rb_sI τ 25 (nI t).toNatClampNeg (-1)) (fun s3 => xl_M_layFar_2 f (nI t + 1) s3) else none := rfl
    by_cases c : t = 5040
    · refine ⟨τ, ?_, fun i hi => h25 i (by omega), rb_fr.rf⟩
      rw [e0, if_pos (show (5040 : Int32) ≤ nI t from nI_le (a := 5040) (by omega) (by omega))]
    · have hl : t < 5040 := by omega
      obtain ⟨τ', a1, a2, a3⟩ := ih (t + 1) (rb_sI τ 25 t (-1)) (by omega) (by omega) (fun i hi => by
        by_cases ci : i = t
        · rw [ci, rb_sI_eq]
        · rw [rb_sIg _ _ _ _ _ _ (by omega)]; exact h25 i (by omega))
      refine ⟨τ', ?_, a2, (rb_fr.sI (ch := fun c _ => c = 25) rfl).tr a3⟩
      rw [e0, if_neg (show ¬ (5040 : Int32) ≤ nI t from nI_ge (b := 5040) hl (by omega)), rb_ib_nI hl (by decide), if_pos rfl, nI_clamp (n := t) (by omega), rb_lt_eq, nI_1]
      exact a1
theorem sm_layFar {τ : rb_St} (h3 : 3 ≤ n) (h7 : n ≤ 7) (Wd : rm_dg n w τ) (Iw : af_inj n w) (Gg : af_gw n goal) (hg : ∀ i, i < n → goal (w i) = i) : ∃ (Df : (Nat → Nat) → Nat) (τ' : rb_St), xf_M_layFar τ = some τ' ∧ rm_far n Df τ' ∧ rb_fr (fun c _ => c = 25 ∨ c = 26 ∨ c = 27) τ τ' ∧ ∀ o, af_inj n o → af_R n (Df o) (fun k => goal (o k)) ∧ ∀ M, M < Df o → ¬ af_R n M (fun k => goal (o k)) := by
  obtain ⟨s5, a1, a2, a3⟩ := bf_fill rb_FU 0 τ (by omega) (by unfold rb_FU; omega) (fun i hi => absurd hi (Nat.not_lt_zero _))
  have a1' : xl_M_layFar_2 rb_FU 0 τ = some s5 := a1
  have W5 : rm_dg n w s5 := ⟨(a3.1 0 22 (by omega)).trans Wd.1, fun i hi => ⟨(Wd.2 i hi).1, (a3.1 27 i (by omega)).trans (Wd.2 i hi).2⟩⟩
  have lw := sp_cno_lt2 (o := w) h7
  obtain ⟨s9, hs9⟩ : ∃ s, s = rb_sI s5 26 0 (nI (sp_cno n w n)) := ⟨_, rfl⟩
  have r9 : s9.1 26 0 = nI (sp_cno n w n) := by rw [hs9, rb_sI_eq]
  obtain ⟨s12, hs12⟩ : ∃ s, s = rb_sI s9 25 (sp_cno n w n) 0 := ⟨_, rfl⟩
  have I0 : bf_I n goal w 1 (fun _ => w) (fun _ => 0) s12 := by
    refine ⟨⟨?_, by omega, by omega⟩, fun i hi => ⟨Iw, ?_, ?_, hg, Nat.zero_le _⟩, fun i j hi hj _ => by omega, fun c hc hne => ?_, fun i j _ _ => Nat.le_refl _, rfl, rfl⟩
    · rw [hs12, rb_sIg _ _ _ _ _ _ (by omega), hs9, rb_sIg _ _ _ _ _ _ (by omega)]
      exact W5.1
    · have : i = 0 := by omega
      rw [this, hs12, rb_sIg _ _ _ _ _ _ (by omega)]
      exact r9
    · rw [hs12, rb_sI_eq]
      rfl
    · have := hne 0 (by omega)
      rw [hs12, rb_sIg _ _ _ _ _ _ (fun z => this z.2.symm), hs9, rb_sIg _ _ _ _ _ _ (by omega)]
      exact a2 c hc
  obtain ⟨t, q, d, τ', o1, o2, o3, o4⟩ := bf_out h3 h7 rb_FU 0 1 (fun _ => w) (fun _ => 0) s12 (by omega) (by unfold rb_FU; omega) I0 (fun _ j _ => Nat.zero_le _) (fun i hi => absurd hi (Nat.not_lt_zero _))
  have o1' : xl_M_layFar_48 rb_FU 1 0 s12 = some τ' := o1
  have hw : ∀ o, af_inj n o → (∀ i, i < n → goal (o i) = i) → ∀ i, i < n → o i = w i := fun o Io ho i hi => Gg.2 _ _ (Io.1 i hi) (Iw.1 i hi) ((ho i hi).trans (hg i hi).symm)
  have ex : ∀ o : Nat → Nat, ∃ N : Nat, af_inj n o → N < 100000 ∧ af_R n N (fun k => goal (o k)) ∧ ∀ M, M < N → ¬ af_R n M (fun k => goal (o k)) := by
    intro o
    by_cases Io : af_inj n o
    · obtain ⟨N, x1, x2, x3⟩ := bf_dist (g := fun k => goal (o k)) h3 h7 ⟨fun i hi => Gg.1 _ (Io.1 i hi), fun i j hi hj e => Io.2 i j hi hj (Gg.2 _ _ (Io.1 i hi) (Io.1 j hj) e)⟩
      exact ⟨N, fun _ => ⟨x1, x2, x3⟩⟩
    · exact ⟨0, fun h => absurd h Io⟩
  obtain ⟨Df, hDf⟩ := Classical.axiomOfChoice ex
  refine ⟨Df, τ', ?_, fun o Io => ?_, ?_, fun o Io => (hDf o Io).2⟩
  · unfold xf_M_layFar
    rw [a1', rb_b1_some, sm_number h7 W5, rb_b1_some, rb_lt_eq, ← hs9, r9, rb_ib_nI lw (by decide), if_pos rfl, nI_clamp (n := sp_cno n w n) (by omega), rb_lt_eq, ← hs12, o1', rb_b1_some]
  · obtain ⟨x1, x2, x3⟩ := hDf o Io
    obtain ⟨i, i1, i2, i3⟩ := bf_end h3 h7 o2 o3 hw (Df o) o Io x2
    obtain ⟨b1, b2, b3, b4, b5⟩ := o2.2.1 i i1
    have k := sp_cno_inj h3 h7 b1 Io i2
    have hR : af_R n (d i) (fun k => goal (o k)) := af_R_co h3 _ _ _ (fun j hj => by show goal (q i j) = goal (o j); rw [k j hj]) b4
    have e : d i = Df o := by
      rcases Nat.lt_or_ge (d i) (Df o) with c | c
      · exact absurd hR (x3 _ c)
      · omega
    refine ⟨x1, ?_⟩
    rw [← i2, b3, e]
  · have f5 : rb_fr (fun c _ => c = 25 ∨ c = 26 ∨ c = 27) τ s5 := a3.mo (fun c i hc => Or.inl hc)
    have f9 : rb_fr (fun c _ => c = 25 ∨ c = 26 ∨ c = 27) τ s9 := by rw [hs9]; exact f5.sI' (Or.inr (Or.inl rfl))
    have f12 : rb_fr (fun c _ => c = 25 ∨ c = 26 ∨ c = 27) τ s12 := by rw [hs12]; exact f9.sI' (Or.inl rfl)
    exact f12.tr o4
end BFL
