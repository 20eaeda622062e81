/-! ENDLESS: a letter more, in a pole apart and in the reference's row; knots -/
section RBJ
variable {n m k l : Nat} {ru tr wh ln : Nat → Nat} {cr : Nat → Nat → Nat} {σ τ : rb_St}
theorem sx_moveEndless (P : pw n wh ln m cr) (h : rx_wh k n wh ln σ) (hc : rx_cr k m cr σ) (hl : l < 2 * n) (hm : m < 48 ∨ sp_un n cr l m ≠ 0) : ∃ σ', xf_Pole_moveEndless k (nI l) σ = some σ' ∧ rx_wh k n (sp_sw n wh (l / 2)) ln σ' ∧ rx_cr k (mvm n m cr l) (mvc n wh m cr l 0) σ' ∧ rb_fr (sc_po k) σ σ' := by
  have h8 := P.1.1
  have hm48 := P.2.2.1.2.1
  have hle := sp_un_le (n := n) (cr := cr) (l := l) (m := m)
  unfold xf_Pole_moveEndless
  rw [sx_hasl (by omega) h.1 (by omega), if_pos hl, if_neg (show ¬ (1 : Int32) = 0 by decide), sx_undoneBy P.2.2.1 hc h.1 hl, rb_b1_some]
  simp only [sx_lt0 (show sp_un n cr l m < 2 ^ 31 by omega)]
  by_cases hu : sp_un n cr l m = 0
  · rw [if_pos hu]
    obtain ⟨σ', a1, a2, a3, a4⟩ := sx_in (t := 0) P h hc hl (by omega) (by omega) hu
    have a1' : xf_Pole_putIn k (nI l) 0 σ = some σ' := a1
    exact ⟨σ', by rw [a1', rb_b1_some], a2, a3, a4⟩
  · rw [if_neg hu]
    obtain ⟨σ', a1, a2, a3, a4⟩ := sx_out (t := 0) P h hc hl hu
    exact ⟨σ', by rw [a1, rb_b1_some], a2, a3, a4⟩
theorem sx_moveNone (hn : n ≤ 7) (h : σ.1 k 0 = nI n) (hl : l < 2 ^ 31) (hl2 : 2 * n ≤ l) : xf_Pole_moveEndless k (nI l) σ = some σ := by
  unfold xf_Pole_moveEndless
  rw [sx_hasl hn h hl, if_neg (show ¬ l < 2 * n by omega), if_pos rfl]
/-- the reference: the latest that touches -/
theorem sm_add7 (h : rm_row n m (fun i => cr i 0) τ) (hl : l < 2 * n) : ∀ (j f : Nat), j ≤ m → j < f → xl_M_addLetter_7 (nI l) τ f (nI j - 1) = some (nI (sp_la n cr (l / 2) j) - 1) := by
  obtain ⟨hn, hm, h22, h33, hL⟩ := h
  intro j
  induction j with
  | zero =>
    intro f _ hf
    obtain ⟨f, rfl⟩ : ∃ q, f = q + 1 := ⟨f - 1, by omega⟩
    show (if nI 0 - 1 < 0 then some (nI 0 - 1) else _) = _
    rw [if_pos (by decide)]
    rfl
  | succ j ih =>
    intro f hj hf
    obtain ⟨f, rfl⟩ : ∃ q, f = q + 1 := ⟨f - 1, by omega⟩
    obtain ⟨c0, c1⟩ := hL j (by omega)
    have c0' : cr j 0 < 2 * n := c0
    have c1' : τ.1 19 j = nI (cr j 0) := c1
    have e1 : nI (cr j 0) / (2 : Int32) = nI (cr j 0 / 2) := pk_div (d := 2) (by omega) (by decide) (by decide)
    have e2 : nI l / (2 : Int32) = nI (l / 2) := pk_div (d := 2) (by omega) (by decide) (by decide)
    rw [nI_pred]
    show (if nI j < 0 then _ else if rb_ib (nI j) 88 then rb_b1 (xf_M_touch ((τ.1 19 (nI j).toNatClampNeg) / 2) (nI l / 2) τ) fun r3 => if r3 = 0 then xl_M_addLetter_7 (nI l) τ f (nI j + (-1)) else some (nI j) else none) = some (nI (if sp_tb n (cr j 0 / 2) (l / 2) = true then j + 1 else sp_la n cr (l / 2) j) - 1)
    rw [if_neg (nI_pos (by omega)), rb_ib_nI (by omega) (by decide), if_pos rfl, nI_clamp (by omega), c1', e1, e2, sm_touch (by omega) h22 (by omega) (by omega), rb_b1_some]
    by_cases hc : sp_tb n (cr j 0 / 2) (l / 2) = true
    · rw [if_pos hc, if_neg (show ¬ (1 : Int32) = 0 by decide), if_pos hc, nI_pred]
    · rw [if_neg hc, if_pos rfl, if_neg hc, rb_m1]
      exact ih f (by omega) (by omega)
theorem sm_add53 (hm : m ≤ 48) (h33 : τ.1 0 33 = nI m) {i : Nat} (hi : i < m) : xl_M_addLetter_53 rb_FU (nI i) τ = some (rb_sf 19 1 i τ (m - 1 - i)) := by
  have hz : ∀ t, (rb_sf 19 1 i τ t).1 0 33 = nI m := fun t => by rw [rb_sf_row (by decide)]; exact h33
  refine rb_ups (fun f s x => xl_M_addLetter_53 f x s) (fun q => rb_sf 19 1 i τ (q - i)) i (m - 1) (some (rb_sf 19 1 i τ (m - 1 - i))) (fun f q hq1 hq2 => ?_) (fun f => ?_) rb_FU i (Nat.le_refl i) (by omega) (by unfold rb_FU; omega) |> fun e => by rw [Nat.sub_self] at e; exact e
  · show (if ((rb_sf 19 1 i τ (q - i)).1 0 33 - 1) ≤ nI q then _ else if rb_ib (nI q + 1) 88 then if rb_ib (nI q) 88 then rb_lt (rb_sI (rb_sf 19 1 i τ (q - i)) 19 (nI q).toNatClampNeg ((rb_sf 19 1 i τ (q - i)).1 19 (nI q + 1).toNatClampNeg)) (fun s24 => xl_M_addLetter_53 f (nI q + 1) s24) else none else none) = xl_M_addLetter_53 f (nI (q + 1)) (rb_sf 19 1 i τ (q + 1 - i))
    rw [hz, rb_pr (by omega), if_neg (nI_ge hq2 (by omega)), nI_1, rb_ib_nI (by omega) (by decide), rb_ib_nI (by omega) (by decide), if_pos rfl, if_pos rfl, nI_clamp (by omega), nI_clamp (by omega), rb_lt_eq, show q + 1 - i = (q - i) + 1 by omega]
    show _ = xl_M_addLetter_53 f (nI (q + 1)) (rb_sI (rb_sf 19 1 i τ (q - i)) 19 (i + (q - i)) ((rb_sf 19 1 i τ (q - i)).1 19 (i + (q - i) + 1)))
    rw [show i + (q - i) = q by omega]
  · show (if ((rb_sf 19 1 i τ (m - 1 - i)).1 0 33 - 1) ≤ nI (m - 1) then _ else _) = _
    rw [hz, rb_pr (by omega), if_pos (nI_le (Nat.le_refl _) (by omega))]
def sc_19 (c i : Nat) : Prop := c = 19 ∨ (c = 0 ∧ i = 33)
theorem sm_addLetter {t : Nat} (h : rm_row n m (fun i => cr i 0) τ) (hl : l < 2 * n) (hm2 : m < 48 ∨ sp_un n cr l m ≠ 0) : ∃ τ', xf_M_addLetter (nI l) τ = some τ' ∧ rm_row n (mvm n m cr l) (fun i => mvc n wh m cr l t i 0) τ' ∧ rb_fr sc_19 τ τ' := by
  obtain ⟨hn, hm, h22, h33, hL⟩ := id h
  have hla := sp_la_le n cr (l / 2) m
  have e2 : nI l ^^^ (1 : Int32) = nI (l ^^^ 1) := rb_xr l 1
  have hx := sp_x1 n (by omega) l hl
  have e7 := sm_add7 h hl m rb_FU (Nat.le_refl m) (by unfold rb_FU; omega)
  unfold xf_M_addLetter
  rw [h33, e7, rb_b1_some]
  -- one is put behind
  have put : sp_un n cr l m = 0 → ∃ τ', (if rb_ib (nI m) 88 then rb_lt (rb_sI τ 19 (nI m).toNatClampNeg (nI l)) (fun s10 => rb_lt (rb_sI s10 0 33 ((s10.1 0 33) + 1)) (fun s12 => some s12)) else none) = some τ' ∧ rm_row n (mvm n m cr l) (fun i => mvc n wh m cr l t i 0) τ' ∧ rb_fr sc_19 τ τ' := by
    intro hu
    have hm48 : m < 48 := by omega
    refine ⟨rb_sI (rb_sI τ 19 m (nI l)) 0 33 (nI (m + 1)), ?_, ?_, (rb_fr.sI (ch := sc_19) (k := 19) (Or.inl rfl)).sI' (k := 0) (j := 33) (Or.inr ⟨rfl, rfl⟩)⟩
    · rw [rb_ib_nI (by omega) (by decide), if_pos rfl, nI_clamp (by omega), rb_lt_eq, rb_lt_eq, rb_sIg _ _ _ _ _ _ (by omega), h33, nI_1]
    · unfold mvm mvc
      rw [if_pos hu, if_pos hu]
      refine ⟨hn, by omega, ?_, rb_sI_eq _ _ _ _, fun i hi => ?_⟩
      · rw [rb_sIg _ _ _ _ _ _ (by omega), rb_sIg _ _ _ _ _ _ (by omega)]; exact h22
      · unfold sp_ad
        by_cases e : i = m
        · simp only [if_pos e, if_true]
          refine ⟨hl, ?_⟩
          rw [rb_sIg _ _ _ _ _ _ (by omega), e, rb_sI_eq]
        · simp only [if_neg e]
          rw [rb_sIg _ _ _ _ _ _ (by omega), rb_sIg _ _ _ _ _ _ (by omega)]
          exact hL i (by omega)
  unfold xj_M_addLetter_35
  simp only [sx_lt0 (show sp_la n cr (l / 2) m < 2 ^ 31 by omega)]
  rw [h33]
  by_cases h0 : sp_la n cr (l / 2) m = 0
  · rw [if_pos h0]
    exact put (by unfold sp_un; rw [if_pos h0])
  · rw [if_neg h0, rb_pr (by omega), rb_ib_nI (by omega) (by decide), if_pos rfl, nI_clamp (by omega), e2]
    obtain ⟨c0, c1⟩ := hL (sp_la n cr (l / 2) m - 1) (by omega)
    have c0' : cr (sp_la n cr (l / 2) m - 1) 0 < 2 * n := c0
    have c1' : τ.1 19 (sp_la n cr (l / 2) m - 1) = nI (cr (sp_la n cr (l / 2) m - 1) 0) := c1
    rw [c1']
    by_cases hc : cr (sp_la n cr (l / 2) m - 1) 0 = l ^^^ 1
    · have hu : sp_un n cr l m = sp_la n cr (l / 2) m := by unfold sp_un; rw [if_neg h0, if_pos hc]
      rw [if_pos (by rw [hc]), sm_add53 hm h33 (show sp_la n cr (l / 2) m - 1 < m by omega), rb_b1_some, rb_lt_eq]
      obtain ⟨i, hi⟩ : ∃ i, i = sp_la n cr (l / 2) m - 1 := ⟨_, rfl⟩
      rw [← hi]
      refine ⟨rb_sI (rb_sf 19 1 i τ (m - 1 - i)) 0 33 (nI (m - 1)), ?_, ?_, ⟨fun c q hcq => ?_, ?_⟩⟩
      · rw [rb_sf_row (by decide), h33, rb_pr (by omega)]
      · unfold mvm mvc
        rw [if_neg (by omega), if_neg (by omega), hu, ← hi]
        refine ⟨hn, by omega, ?_, rb_sI_eq _ _ _ _, fun q hq => ?_⟩
        · rw [rb_sIg _ _ _ _ _ _ (by omega), rb_sf_row (by decide)]; exact h22
        · rw [rb_sIg _ _ _ _ _ _ (by omega), rb_sf_at]
          unfold sp_rm
          by_cases e : q < i
          · simp only [if_pos e]
            rw [if_neg (by omega)]; exact hL q (by omega)
          · simp only [if_neg e]
            rw [if_pos (by omega)]; exact hL (q + 1) (by omega)
      · unfold sc_19 at hcq
        rw [rb_sIg _ _ _ _ _ _ (by omega), rb_sf_row (by omega)]
      · rw [rb_sI_2, rb_sf_2]
    · have hu : sp_un n cr l m = 0 := by unfold sp_un; rw [if_neg h0, if_neg hc]
      rw [if_neg (fun e => hc ((nI_eq (by omega) (by omega)).mp e))]
      exact put hu
/-- a pole begins -/
theorem sx_begin1 (G : gw n ru tr) (hk : 18 ≤ k) : ∀ (f d : Nat) (σ : rb_St), d ≤ 8 → 8 - d < f → gx n ru tr σ → (∀ p, p < d → σ.1 (k + 1) p = nI p) → (∀ p, p < d → p < n → σ.1 (k + 2) p = nI (tr (3 * p + 1))) → ∃ σ', xl_Pole_beginAs_28 k f (nI d) σ = some σ' ∧ (∀ p, p < 8 → σ'.1 (k + 1) p = nI p) ∧ (∀ p, p < n → σ'.1 (k + 2) p = nI (tr (3 * p + 1))) ∧ rb_fr (fun c _ => c = k + 1 ∨ c = k + 2) σ σ' := by
  have hn := G.1
  intro f
  induction f with
  | zero => intro d σ _ hf; omega
  | succ f ih =>
    intro d σ hd hf g h1 h2
    by_cases ed : d = 8
    · subst ed
      refine ⟨σ, ?_, h1, fun p hp => h2 p (by omega) hp, rb_fr.rf⟩
      show (if 8 ≤ nI 8 then some σ else _) = _
      rw [if_pos (by decide)]
    · have e : (nI d * 3) + (1 : Int32) = nI (3 * d + 1) := by
        rw [rb_l3, pk_mul, nI_1]
        congr 1
        omega
      obtain ⟨s, hs⟩ : ∃ s, s = rb_sI σ (k + 1) d (nI d) := ⟨_, rfl⟩
      have tq : xf_Green_trait (nI d) 1 s = some (σ.1 17 (3 * d + 1)) := by
        unfold xf_Green_trait
        rw [e, if_neg (nI_pos (by omega)), rb_l24, if_neg (nI_ge (by omega) (by omega)), rb_ib_nI (by omega) (by decide), if_pos rfl, nI_clamp (by omega), hs, rb_sI_row _ _ _ _ _ (by omega)]
      obtain ⟨s2, hs2⟩ : ∃ s2, s2 = rb_sI s (k + 2) d (σ.1 17 (3 * d + 1)) := ⟨_, rfl⟩
      have fr : rb_fr (fun c _ => c = k + 1 ∨ c = k + 2) σ s2 := by
        rw [hs2, hs]
        exact (rb_fr.sI (ch := fun c _ => c = k + 1 ∨ c = k + 2) (k := k + 1) (Or.inl rfl)).sI' (k := k + 2) (Or.inr rfl)
      obtain ⟨σ', a1, a2, a3, a4⟩ := ih (d + 1) s2 (by omega) (by omega) (gx_fr fr (fun c i q => by omega) g) (fun p hp => by
        rw [hs2, rb_sI_row _ _ _ _ _ (by omega), hs, rb_sI_at]
        by_cases e : p = d
        · rw [if_pos ⟨rfl, e⟩, e]
        · rw [if_neg (fun w => e w.2)]; exact h1 p (by omega)) (fun p hp hpn => by
        rw [hs2, rb_sI_at]
        by_cases e : p = d
        · rw [if_pos ⟨rfl, e⟩, e]; exact g.2.2 _ (by omega)
        · rw [if_neg (fun w => e w.2), hs, rb_sI_row _ _ _ _ _ (by omega)]; exact h2 p (by omega) hpn)
      refine ⟨σ', ?_, a2, a3, fr.tr a4⟩
      show (if 8 ≤ nI d then some σ else if rb_ib (nI d) 8 then rb_lt (rb_sI σ (k + 1) (nI d).toNatClampNeg (nI d)) (fun s11 => rb_b1 (xf_Green_trait (nI d) 1 s11) fun r13 => rb_lt (rb_sI s11 (k + 2) (nI d).toNatClampNeg r13) (fun s15 => xl_Pole_beginAs_28 k f (nI d + 1) s15)) else none) = _
      rw [rb_l8, if_neg (nI_ge (show d < 8 by omega) (by decide)), rb_ib_nI (by omega) (by decide), if_pos rfl, nI_clamp (by omega), rb_lt_eq, ← hs, tq, rb_b1_some, rb_lt_eq, ← hs2, nI_1]
      exact a1
theorem sx_beginAs (G : gw n ru tr) (g : gx n ru tr σ) (hk : 18 ≤ k) : ∃ σ', xf_Pole_beginAs k σ = some σ' ∧ rx_wh k n (fun p => p) (fun d => tr (3 * d + 1)) σ' ∧ σ'.1 k 1 = nI 0 ∧ σ'.1 k 2 = nI (ru 1) ∧ σ'.1 k 3 = nI 0 ∧ rb_fr (fun c _ => k ≤ c ∧ c ≤ k + 2) σ σ' := by
  have hn := G.1
  obtain ⟨s, hs⟩ : ∃ s, s = rb_sI (rb_sI (rb_sI (rb_sI σ k 0 (nI n)) k 1 0) k 2 (nI (ru 1))) k 3 0 := ⟨_, rfl⟩
  have fr : rb_fr (fun c _ => k ≤ c ∧ c ≤ k + 2) σ s := by
    rw [hs]
    exact (((rb_fr.sI (ch := fun c _ => k ≤ c ∧ c ≤ k + 2) (k := k) (by omega)).sI' (k := k) (by omega)).sI' (k := k) (by omega)).sI' (k := k) (by omega)
  obtain ⟨σ', a1, a2, a3, a4⟩ := sx_begin1 G hk rb_FU 0 s (by omega) (by unfold rb_FU; omega) (gx_fr fr (fun c i q => by omega) g) (fun p hp => by omega) (fun p hp => by omega)
  have a1' : xl_Pole_beginAs_28 k rb_FU 0 s = some σ' := a1
  have r : ∀ i, σ'.1 k i = s.1 k i := fun i => a4.1 k i (by omega)
  refine ⟨σ', ?_, ⟨?_, fun p hp => a2 p (by omega), a3⟩, ?_, ?_, ?_, fr.tr (a4.mo (fun c i q => by omega))⟩
  · unfold xf_Pole_beginAs xf_Green_coinsAtFirst
    simp only [rb_lt_eq]
    have e1 : (rb_sI (rb_sI σ k 0 (σ.1 15 2)) k 1 0).1 16 1 = nI (ru 1) := by
      rw [rb_sI_row _ _ _ _ _ (by omega), rb_sI_row _ _ _ _ _ (by omega)]; exact g.2.1 1 (by decide)
    rw [e1, g.1, ← hs, a1', rb_b1_some]
  · rw [r, hs, rb_sIg _ _ _ _ _ _ (by omega), rb_sIg _ _ _ _ _ _ (by omega), rb_sIg _ _ _ _ _ _ (by omega), rb_sI_eq]
  · rw [r, hs, rb_sIg _ _ _ _ _ _ (by omega), rb_sIg _ _ _ _ _ _ (by omega), rb_sI_eq]; rfl
  · rw [r, hs, rb_sIg _ _ _ _ _ _ (by omega), rb_sI_eq]
  · rw [r, hs, rb_sI_eq]; rfl
end RBJ
theorem pw_0 {n : Nat} {ru tr : Nat → Nat} {cr : Nat → Nat → Nat} (G : gw n ru tr) : pw n (fun p => p) (fun d => tr (3 * d + 1)) 0 cr := by
  have hn := G.1
  exact ⟨⟨by omega, fun p hp => hp, fun d hd => G.2.2.1 _ (by omega), fun p q _ _ e => e⟩, fun d hd => ⟨d, hd, rfl⟩, ⟨hn, by omega, fun i hi => by omega⟩, fun j hj => by omega, fun i hi => by omega⟩
section RBK
variable {n fc j k : Nat} {fl ru tr : Nat → Nat} {ft : Nat → Nat → Nat} {σ τ : rb_St}
/-- the steps of a figure, laid on a pole apart and in the reference's row -/
theorem rb_layl (G : gw n ru tr) (h3 : 3 ≤ n) (hj : j < fc) (hk : 268 ≤ k) {ln : Nat → Nat} : ∀ (d i f g m : Nat) (wh : Nat → Nat) (cr : Nat → Nat → Nat) (σ τ : rb_St), i + d = fl j → RFig fc fl ft σ τ → d < f → d < g → m ≤ i → pw n wh ln m cr → rx_wh k n wh ln σ → rx_cr k m cr σ → rm_row n m (fun i => cr i 0) τ → ∃ (wh' : Nat → Nat) (m' : Nat) (cr' : Nat → Nat → Nat) (σ' τ' : rb_St), xl_RP_plaitAlone_10 (256 + 2 * j) k f (nI i) σ = some σ' ∧ xl_M_layFigure_2 (nI j) g (nI i) τ = some τ' ∧ pw n wh' ln m' cr' ∧ rx_wh k n wh' ln σ' ∧ rx_cr k m' cr' σ' ∧ rm_row n m' (fun i => cr' i 0) τ' ∧ rb_fr (fun c _ => k ≤ c ∧ c ≤ k + 4) σ σ' ∧ rb_fr sc_19 τ τ' := by
  have hn := G.1
  intro d
  induction d with
  | zero =>
    intro i f g m wh cr σ τ hi F hf hg hm P hw hc hr
    obtain ⟨f, rfl⟩ : ∃ q, f = q + 1 := ⟨f - 1, by omega⟩
    obtain ⟨g, rfl⟩ : ∃ q, g = q + 1 := ⟨g - 1, by omega⟩
    obtain ⟨e1, e2, e3, e4⟩ := F.2.2.2 j hj
    have hf6 := F.1
    refine ⟨wh, m, cr, σ, τ, ?_, ?_, P, hw, hc, hr, rb_fr.rf, rb_fr.rf⟩
    · show (if (σ.1 (256 + 2 * j) 1) ≤ nI i then some σ else _) = _
      rw [e2, if_pos (nI_le (by omega) (by omega))]
    · show (if rb_ib (nI j) 7 then if (τ.1 16 (nI j).toNatClampNeg) ≤ nI i then some τ else _ else none) = _
      rw [rb_ib_nI (by omega) (by decide), if_pos rfl, nI_clamp (by omega), e3, if_pos (nI_le (by omega) (by omega))]
  | succ d ih =>
    intro i f g m wh cr σ τ hi F hf hg hm P hw hc hr
    obtain ⟨f, rfl⟩ : ∃ q, f = q + 1 := ⟨f - 1, by omega⟩
    obtain ⟨g, rfl⟩ : ∃ q, g = q + 1 := ⟨g - 1, by omega⟩
    obtain ⟨e1, e2, e3, e4⟩ := F.2.2.2 j hj
    have hf6 := F.1
    obtain ⟨L20, -, -⟩ := e4 i (by omega)
    have h22 := hr.2.2.1
    have sx : xl_RP_plaitAlone_10 (256 + 2 * j) k (f + 1) (nI i) σ = rb_b1 (xf_Pole_moveEndless k (nI (ft j i)) σ) fun s6 => xl_RP_plaitAlone_10 (256 + 2 * j) k f (nI (i + 1)) s6 := by
      show (if (σ.1 (256 + 2 * j) 1) ≤ nI i then some σ else rb_b1 (xf_Fig_letterAt (256 + 2 * j) (nI i) σ) fun r4 => rb_b1 (xf_Pole_moveEndless k r4 σ) fun s6 => xl_RP_plaitAlone_10 (256 + 2 * j) k f (nI i + 1) s6) = _
      rw [e2, if_neg (nI_ge (by omega) (by omega)), sx_letterAt F hj (by omega), rb_b1_some, nI_1]
    have sm : xl_M_layFigure_2 (nI j) (g + 1) (nI i) τ = if ft j i < 2 * n then rb_b1 (xf_M_addLetter (nI (ft j i)) τ) (fun s8 => xl_M_layFigure_2 (nI j) g (nI (i + 1)) s8) else xl_M_layFigure_2 (nI j) g (nI (i + 1)) τ := by
      show (if rb_ib (nI j) 7 then if (τ.1 16 (nI j).toNatClampNeg) ≤ nI i then some τ else rb_b1 (xf_M_stepOf (nI j) (nI i) τ) fun r3 => if r3 = 20 then xl_M_layFigure_2 (nI j) g (nI i + 1) τ else rb_b1 (xf_M_stepOf (nI j) (nI i) τ) fun r6 => rb_b1 (xf_M_addLetter r6 τ) fun s8 => xl_M_layFigure_2 (nI j) g (nI i + 1) s8 else none) = _
      rw [rb_ib_nI (by omega) (by decide), if_pos rfl, nI_clamp (by omega), e3, if_neg (nI_ge (by omega) (by omega)), sm_stepOf F hj h22 hn (by omega), rb_b1_some, rb_b1_some, nI_1]
      by_cases hL : ft j i < 2 * n
      · rw [if_pos hL, if_neg (fun e => by have := (nI_eq (b := 20) (by omega) (by decide)).mp e; omega), if_pos hL]
      · rw [if_neg hL, if_pos rfl, if_neg hL]
    rw [sx, sm]
    by_cases hL : ft j i < 2 * n
    · have hm48 : m < 48 ∨ sp_un n cr (ft j i) m ≠ 0 := by omega
      obtain ⟨σ1, a1, a2, a3, a4⟩ := sx_moveEndless P hw hc hL hm48
      obtain ⟨τ1, b1, b2, b3⟩ := sm_addLetter (wh := wh) (t := 0) hr hL hm48
      rw [if_pos hL, a1, rb_b1_some, b1, rb_b1_some]
      have P1 := pw_mv P h3 hL hm48 (t := 0) (by omega)
      have F1 := RFig_fr a4 b3 (fun c i q => by unfold sc_po at q; omega) (fun c i q => by unfold sc_19 at q; omega) F
      obtain ⟨wh', m', cr', σ', τ', c1, c2, c3, c4, c5, c6, c7, c8⟩ := ih (i + 1) f g (mvm n m cr (ft j i)) (sp_sw n wh (ft j i / 2)) (mvc n wh m cr (ft j i) 0) σ1 τ1 (by omega) F1 (by omega) (by omega) (by unfold mvm; split <;> omega) P1 a2 a3 b2
      exact ⟨wh', m', cr', σ', τ', c1, c2, c3, c4, c5, c6, (a4.mo (fun c i q => by unfold sc_po at q; omega)).tr c7, b3.tr c8⟩
    · rw [if_neg hL, sx_moveNone hn hw.1 (by omega) (by omega), rb_b1_some]
      exact ih (i + 1) f g m wh cr σ τ (by omega) F (by omega) (by omega) (by omega) P hw hc hr
/-- a figure alone -/
theorem rb_alone (G : gw n ru tr) (h3 : 3 ≤ n) (hj : j < fc) (hk : 268 ≤ k) (g : gx n ru tr σ) (F : RFig fc fl ft σ τ) (h22 : τ.1 0 22 = nI n) : ∃ (wh' : Nat → Nat) (m' : Nat) (cr' : Nat → Nat → Nat) (σ' τ' : rb_St), xf_RP_plaitAlone (256 + 2 * j) k σ = some σ' ∧ xf_M_layFigure (nI j) (rb_sI τ 0 33 0) = some τ' ∧ pw n wh' (fun d => tr (3 * d + 1)) m' cr' ∧ rx_wh k n wh' (fun d => tr (3 * d + 1)) σ' ∧ rx_cr k m' cr' σ' ∧ rm_row n m' (fun i => cr' i 0) τ' ∧ rb_fr (fun c _ => k ≤ c ∧ c ≤ k + 4) σ σ' ∧ rb_fr sc_19 τ τ' := by
  have hn := G.1
  have hfl := (F.2.2.2 j hj).1
  obtain ⟨s, a1, a2, a3, a4, a5, a6⟩ := sx_beginAs G g (show 18 ≤ k by omega)
  have f1 : rb_fr sc_19 τ (rb_sI τ 0 33 0) := rb_fr.sI (Or.inr ⟨rfl, rfl⟩)
  have F1 := RFig_fr a6 f1 (fun c i q => by omega) (fun c i q => by unfold sc_19 at q; omega) F
  obtain ⟨wh', m', cr', σ', τ', b1, b2, b3, b4, b5, b6, b7, b8⟩ := rb_layl (ln := fun d => tr (3 * d + 1)) G h3 hj hk (fl j) 0 rb_FU rb_FU 0 (fun p => p) (fun _ _ => 0) s (rb_sI τ 0 33 0) (by omega) F1 (by unfold rb_FU; omega) (by unfold rb_FU; omega) (by omega) (pw_0 G) a2 ⟨a3, fun i hi => by omega⟩ ⟨hn, by omega, by rw [rb_sIg _ _ _ _ _ _ (by omega)]; exact h22, rb_sI_eq _ _ _ _, fun i hi => by omega⟩
  have b1' : xl_RP_plaitAlone_10 (256 + 2 * j) k rb_FU 0 s = some σ' := b1
  have b2' : xl_M_layFigure_2 (nI j) rb_FU 0 (rb_sI τ 0 33 0) = some τ' := b2
  exact ⟨wh', m', cr', σ', τ', by unfold xf_RP_plaitAlone; rw [a1, rb_b1_some, b1', rb_b1_some], by unfold xf_M_layFigure; rw [b2', rb_b1_some], b3, b4, b5, b6, (a6.mo (fun c i q => by omega)).tr b7, f1.tr b8⟩
end RBK
theorem rb_ap0 : 268 + 5 * Int32.toNatClampNeg 0 = 268 := by decide
theorem rb_ap1 : 268 + 5 * Int32.toNatClampNeg 1 = 273 := by decide
theorem scM_19 (c i : Nat) (h : sc_19 c i) : scM c i := by
  rcases h with h | h
  · exact scM_r c i (by omega)
  · exact scM_33 c i h
theorem rb_ops_knot : op_knot Rel := by
  intro σ τ R p
  obtain ⟨n, ru, tr, lc, ho, La, wh, ln, m, cr, co, be, lg, D⟩ := Rel_D R
  obtain ⟨⟨gw1, -, gx1, gm1, -, -⟩, ⟨⟨fc, fl, ft, F⟩, b⟩, A, P, px1, -, pm1, -⟩ := id D
  have h7 := gw1.1
  have hf6 := F.1
  unfold xf_RP_knot xf_M_knot
  rw [rb_hasG h7 gx1.1, sm_isF (fc := fc) h7 gm1.1, rb_ap0]
  by_cases h : n = 0
  · exact ⟨-1, σ, τ, by rw [if_pos h, if_pos rfl], by rw [if_pos h, if_pos rfl], R⟩
  · have h3 := gw1.2.2.2.2 (by omega)
    rw [if_neg h, if_neg (show ¬ (1 : Int32) = 0 by decide), if_neg h]
    rcases rb_isF F.1 F.2.1 F.2.2.1 p with ⟨j, hj, rfl, e1, e2⟩ | ⟨e1, e2⟩
    · obtain ⟨wh', m', cr', σ', τ', b1, b2, b3, b4, b5, b6, b7, b8⟩ := rb_alone (k := 268) gw1 h3 hj (by omega) gx1 F gm1.1
      refine ⟨nI m', σ', τ', ?_, ?_, Rel_fr (b7.mo (fun c i q => Or.inr (Or.inr (Or.inl (by omega))))) (b8.mo scM_19) R⟩
      · rw [e1, if_neg (show ¬ (1 : Int32) = 0 by decide), rb_ib_nI (by omega) (by decide), if_pos rfl, nI_clamp (by omega), b1, rb_b1_some, b5.1]
      · rw [e2, if_neg (show ¬ (1 : Int32) = 0 by decide), if_neg (show ¬ (1 : Int32) = 0 by decide), rb_lt_eq, b2, rb_b1_some, b6.2.2.2.1]
    · exact ⟨-1, σ, τ, by rw [e1, if_pos rfl], by rw [e2, if_pos (show (0 : Int32) = 0 from rfl), if_pos rfl], R⟩
