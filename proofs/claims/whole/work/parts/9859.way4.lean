/-! NEAREST, the class: the first place that comes nearer -/
section AFZ
variable {n : Nat} {who goal : Nat → Nat} {σ : rb_St}
theorem af_gs_sw (h3 : 3 ≤ n) {p : Nat} (hp : p < n) : (fun i => goal (sp_sw n who p i)) = af_gs n p (fun i => goal (who i)) := by
  funext i
  unfold af_gs sp_sw sp_nx
  by_cases c : p + 1 < n
  · simp only [if_pos c]
    unfold af_pi
    by_cases c1 : i = p + 1
    · subst c1; rw [if_pos rfl, if_neg (by omega), if_pos rfl]
    · rw [if_neg c1]
      by_cases c2 : i = p
      · rw [if_pos c2, if_pos c2]
      · rw [if_neg c2, if_neg c2, if_neg c1]
  · have : p = n - 1 := by omega
    simp only [if_neg c]
    unfold af_pi
    by_cases c1 : i = 0
    · rw [if_pos c1, if_pos c1, this]
    · rw [if_neg c1, if_neg c1]
      by_cases c2 : i = p
      · rw [if_pos c2, if_pos (by omega)]
      · rw [if_neg c2, if_neg (by omega)]
theorem sx_wchange (h3 : 3 ≤ n) (h7 : n ≤ 7) {p : Nat} (hp : p < n) (V : VX n who goal σ) : ∃ σ', xf_Way_change (nI p) σ = some σ' ∧ VX n (sp_sw n who p) goal σ' ∧ rb_fr (fun c _ => c = 237) σ σ' := by
  have hu := sp_nx_lt n (by omega) p hp
  have hne := sp_nx_ne n (by omega) h3 p hp
  obtain ⟨u, hu'⟩ : ∃ u, u = sp_nx n p := ⟨_, rfl⟩
  rw [← hu'] at hu hne
  have e1 : xf_Way_change (nI p) σ = xj_Way_change_17 (nI p) (nI u) σ := by
    unfold xf_Way_change
    rw [V.1, nI_1]
    by_cases c : p + 1 < n
    · rw [if_neg (nI_ge c (by omega)), hu']
      unfold sp_nx
      rw [if_pos c]
    · rw [if_pos (nI_le (by omega) (by omega)), hu']
      unfold sp_nx
      rw [if_neg c]; rfl
  obtain ⟨s4, hs4⟩ : ∃ s, s = rb_sI σ 237 p (nI (who u)) := ⟨_, rfl⟩
  refine ⟨rb_sI s4 237 u (nI (who p)), ?_, ⟨?_, fun i hi => ?_, fun d hd => ?_⟩, ?_⟩
  · rw [e1]
    unfold xj_Way_change_17
    rw [rb_ib_nI (by omega) (by decide), if_pos rfl, rb_ib_nI (by omega) (by decide), if_pos rfl, nI_clamp (by omega), nI_clamp (by omega), (V.2.1 u hu).2, (V.2.1 p hp).2, rb_lt_eq, ← hs4, rb_lt_eq]
  · rw [rb_sIg _ _ _ _ _ _ (by omega), hs4, rb_sIg _ _ _ _ _ _ (by omega)]; exact V.1
  · unfold sp_sw
    rw [← hu']
    by_cases c1 : i = u
    · subst c1; rw [if_pos rfl, rb_sI_eq]; exact ⟨(V.2.1 p hp).1, rfl⟩
    · rw [if_neg c1, rb_sIg _ _ _ _ _ _ (by omega)]
      by_cases c2 : i = p
      · subst c2; rw [if_pos rfl, hs4, rb_sI_eq]; exact ⟨(V.2.1 u hu).1, rfl⟩
      · rw [if_neg c2, hs4, rb_sIg _ _ _ _ _ _ (by omega)]; exact V.2.1 i hi
  · rw [rb_sIg _ _ _ _ _ _ (by omega), hs4, rb_sIg _ _ _ _ _ _ (by omega)]; exact V.2.2 d hd
  · rw [hs4]
    exact (rb_fr.sI (ch := fun c _ => c = 237) (k := 237) rfl).sI' (k := 237) rfl
theorem VX_back (h3 : 3 ≤ n) (h7 : n ≤ 7) {p : Nat} (hp : p < n) (V : VX n (sp_sw n (sp_sw n who p) p) goal σ) : VX n who goal σ := by
  have hne := sp_nx_ne n (by omega) h3 p hp
  refine ⟨V.1, fun i hi => ?_, V.2.2⟩
  have e : sp_sw n (sp_sw n who p) p i = who i := by
    unfold sp_sw
    by_cases c1 : i = sp_nx n p
    · rw [if_pos c1, if_neg (fun w => hne w.symm), if_pos rfl, c1]
    · rw [if_neg c1]
      by_cases c2 : i = p
      · rw [if_pos c2, if_pos rfl, c2]
      · rw [if_neg c2, if_neg c1, if_neg c2]
  have := V.2.1 i hi
  rw [e] at this
  exact this
/-- p comes nearer than N -/
def af_nr (n N : Nat) (g : Nat → Nat) (p : Nat) : Prop := ∃ M, M < N ∧ af_R n M (af_gs n p g)
theorem sx_fp7 (h3 : 3 ≤ n) (h7 : n ≤ 7) {N : Nat} (hN : N < 100000) (G : af_gw n (fun i => goal (who i))) : ∀ (f p : Nat) (σ : rb_St), p ≤ n → n - p < f → VX n who goal σ → (∀ q, q < p → ¬ af_nr n N (fun i => goal (who i)) q) → ∃ (cd : Nat) (y : Int32) (σ' : rb_St), xl_Way_firstPlace_7 (nI N) f (nI p) σ = some (cd, y, σ') ∧ rb_fr (fun c _ => c = 237 ∨ c = 239) σ σ' ∧ ((cd = 0 ∧ ∃ q, q < n ∧ y = nI q ∧ af_nr n N (fun i => goal (who i)) q ∧ ∀ k, k < q → ¬ af_nr n N (fun i => goal (who i)) k) ∨ (cd = 1 ∧ ∀ k, k < n → ¬ af_nr n N (fun i => goal (who i)) k)) := by
  intro f
  induction f with
  | zero => intro p σ _ h; omega
  | succ f ih =>
    intro p σ hp hf V hq
    have e0 : xl_Way_firstPlace_7 (nI N) (f + 1) (nI p) σ = if (σ.1 236 0) ≤ nI p then some (1, nI p, σ) else rb_b1 (xf_Way_change (nI p) σ) fun s5 => rb_b2 (xf_Way_fewest s5) fun r9 s7 => rb_b1 (xf_Way_change (nI p) s7) fun s10 => if nI N ≤ r9 then xl_Way_firstPlace_7 (nI N) f (nI p + 1) s10 else some (0, nI p, s10) := rfl
    by_cases ep : p = n
    · subst ep
      exact ⟨1, nI p, σ, by rw [e0, V.1, if_pos (nI_le (Nat.le_refl _) (by omega))], rb_fr.rf, Or.inr ⟨rfl, hq⟩⟩
    · have hpn : p < n := by omega
      obtain ⟨s5, a1, a2, a3⟩ := sx_wchange h3 h7 hpn V
      have G' : af_gw n (fun i => goal (sp_sw n who p i)) := by rw [af_gs_sw h3 hpn]; exact af_gs_w h3 hpn G
      obtain ⟨M, s7, b1, b2, b3, b4, b5⟩ := sx_fewest h3 h7 a2 G'
      rw [af_gs_sw h3 hpn] at b3 b4
      have V7 : VX n (sp_sw n who p) goal s7 := ⟨(b5.1 236 0 (by omega)).trans a2.1, fun k hk => ⟨(a2.2.1 k hk).1, (b5.1 237 k (by omega)).trans (a2.2.1 k hk).2⟩, fun k hk => ⟨(a2.2.2 k hk).1, (b5.1 238 k (by omega)).trans (a2.2.2 k hk).2⟩⟩
      obtain ⟨s10, c1, c2, c3⟩ := sx_wchange h3 h7 hpn V7
      have V10 := VX_back h3 h7 hpn c2
      have fr : rb_fr (fun c _ => c = 237 ∨ c = 239) σ s10 := ((a3.mo (fun c i q => Or.inl q)).tr (b5.mo (fun c i q => Or.inr q))).tr (c3.mo (fun c i q => Or.inl q))
      rw [e0, V.1, if_neg (nI_ge hpn (by omega)), a1, rb_b1_some, b1, rb_b2_some, c1, rb_b1_some]
      by_cases c : N ≤ M
      · rw [if_pos (nI_le c (by omega)), nI_1]
        obtain ⟨cd, y, σ', d1, d2, d3⟩ := ih (p + 1) s10 (by omega) (by omega) V10 (fun q hq' => by
          by_cases e : q = p
          · subst e
            rintro ⟨M', m1, m2⟩
            exact b4 M' (by omega) m2
          · exact hq q (by omega))
        exact ⟨cd, y, σ', d1, fr.tr d2, d3⟩
      · rw [if_neg (nI_ge (by omega) (by omega))]
        exact ⟨0, nI p, s10, rfl, fr, Or.inl ⟨rfl, p, hpn, rfl, ⟨M, by omega, b3⟩, hq⟩⟩
theorem sx_firstPlace (h3 : 3 ≤ n) (h7 : n ≤ 7) (V : VX n who goal σ) (G : af_gw n (fun i => goal (who i))) : ∃ (N : Nat) (y : Int32) (σ' : rb_St), xf_Way_firstPlace σ = some (y, σ') ∧ rb_fr (fun c _ => c = 237 ∨ c = 239) σ σ' ∧ af_R n N (fun i => goal (who i)) ∧ (∀ M, M < N → ¬ af_R n M (fun i => goal (who i))) ∧ ((∃ q, q < n ∧ y = nI q ∧ af_nr n N (fun i => goal (who i)) q ∧ ∀ k, k < q → ¬ af_nr n N (fun i => goal (who i)) k) ∨ (y = -1 ∧ ∀ k, k < n → ¬ af_nr n N (fun i => goal (who i)) k)) := by
  obtain ⟨N, s1, b1, b2, b3, b4, b5⟩ := sx_fewest h3 h7 V G
  have V1 : VX n who goal s1 := ⟨(b5.1 236 0 (by omega)).trans V.1, fun k hk => ⟨(V.2.1 k hk).1, (b5.1 237 k (by omega)).trans (V.2.1 k hk).2⟩, fun k hk => ⟨(V.2.2 k hk).1, (b5.1 238 k (by omega)).trans (V.2.2 k hk).2⟩⟩
  obtain ⟨cd, y, σ', d1, d2, d3⟩ := sx_fp7 h3 h7 b2 G rb_FU 0 s1 (by omega) (by unfold rb_FU; omega) V1 (fun q hq => by omega)
  have d1' : xl_Way_firstPlace_7 (nI N) rb_FU 0 s1 = some (cd, y, σ') := d1
  refine ⟨N, if cd = 0 then y else -1, σ', ?_, (b5.mo (fun c i q => Or.inr q)).tr d2, b3, b4, ?_⟩
  · unfold xf_Way_firstPlace
    rw [b1, rb_b2_some, d1']
    show (if cd = 0 then some (y, σ') else some (-1, σ')) = _
    by_cases c : cd = 0
    · rw [if_pos c, if_pos c]
    · rw [if_neg c, if_neg c]
  · rcases d3 with ⟨c, q, q1, q2, q3⟩ | ⟨c, q⟩
    · rw [if_pos c]; exact Or.inl ⟨q, q1, q2, q3⟩
    · rw [if_neg (by omega)]; exact Or.inr ⟨rfl, q⟩
end AFZ
