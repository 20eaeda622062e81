/-! A POLE in both: where all stand, lengths, plait, coins, beat, log -/
def px (k n : Nat) (wh ln : Nat → Nat) (m : Nat) (cr : Nat → Nat → Nat) (co be : Nat) (σ : rb_St) : Prop := rx_wh k n wh ln σ ∧ rx_cr k m cr σ ∧ σ.1 k 2 = nI co ∧ σ.1 k 3 = nI be
def pm (n : Nat) (wh ln : Nat → Nat) (m : Nat) (cr : Nat → Nat → Nat) (co be : Nat) (g : Nat → Int32) : Prop := (∀ p, p < n → g p = nI (wh p)) ∧ (∀ d, d < n → g (7 + d) = nI (ln d)) ∧ rm_cr m cr g ∧ g 215 = nI co ∧ g 216 = nI be
def lgw (be : Nat) (lg : Nat → Nat → Nat) : Prop := ∀ b, b < be → lg b 0 ≤ 20 ∧ lg b 1 ≤ 1 ∧ lg b 2 ≤ 48
def lgx (k be : Nat) (lg : Nat → Nat → Nat) (σ : rb_St) : Prop := ∀ b, b < be → be ≤ b + 60 → σ.1 (k + 4) (b % 60) = nI (lg b 0 + 32 * lg b 1 + 64 * lg b 2)
def lgm (be : Nat) (lg : Nat → Nat → Nat) (g : Nat → Int32) : Prop := g 217 = nI (min be 60) ∧ ∀ b, b < be → be ≤ b + 60 → ∀ f, f < 3 → g (218 + 3 * (b - (be - min be 60)) + f) = nI (lg b f)
def PW (n : Nat) (wh ln : Nat → Nat) (m : Nat) (cr : Nat → Nat → Nat) (co be : Nat) (lg : Nat → Nat → Nat) : Prop := pw n wh ln m cr ∧ m ≤ 40 ∧ co ≤ 999 ∧ be ≤ 999 ∧ lgw be lg
def PR (n k : Nat) (σ : rb_St) (g : Nat → Int32) : Prop := ∃ (wh ln : Nat → Nat) (m : Nat) (cr : Nat → Nat → Nat) (co be : Nat) (lg : Nat → Nat → Nat), PW n wh ln m cr co be lg ∧ px k n wh ln m cr co be σ ∧ lgx k be lg σ ∧ pm n wh ln m cr co be g ∧ lgm be lg g
section RBR
variable {n k k' m co be : Nat} {wh ln : Nat → Nat} {cr lg : Nat → Nat → Nat} {σ σ' τ τ' : rb_St} {g g' : Nat → Int32}
theorem px_co (hn : n < 8) (hm : m ≤ 48) (h0 : ∀ i, i < 4 → σ'.1 k' i = σ.1 k i) (h1 : ∀ i, i < 8 → σ'.1 (k' + 1) i = σ.1 (k + 1) i) (h2 : ∀ i, i < 8 → σ'.1 (k' + 2) i = σ.1 (k + 2) i) (h3 : ∀ i, i < 48 → σ'.1 (k' + 3) i = σ.1 (k + 3) i) (q : px k n wh ln m cr co be σ) : px k' n wh ln m cr co be σ' := by
  obtain ⟨⟨a1, a2, a3⟩, ⟨b1, b2⟩, c, d⟩ := q
  exact ⟨⟨(h0 0 (by decide)).trans a1, fun p hp => (h1 p (by omega)).trans (a2 p hp), fun p hp => (h2 p (by omega)).trans (a3 p hp)⟩, ⟨(h0 1 (by decide)).trans b1, fun i hi => (h3 i (by omega)).trans (b2 i hi)⟩, (h0 2 (by decide)).trans c, (h0 3 (by decide)).trans d⟩
theorem pm_co (hn : n < 8) (h : ∀ i, i < 217 → g' i = g i) (q : pm n wh ln m cr co be g) : pm n wh ln m cr co be g' := by
  obtain ⟨a1, a2, ⟨b0, b1, b2⟩, c, d⟩ := q
  exact ⟨fun p hp => (h p (by omega)).trans (a1 p hp), fun p hp => (h _ (by omega)).trans (a2 p hp), ⟨b0, (h 14 (by decide)).trans b1, fun i hi j hj => (h _ (by omega)).trans (b2 i hi j hj)⟩, (h 215 (by decide)).trans c, (h 216 (by decide)).trans d⟩
theorem lgx_co (h4 : ∀ i, i < 60 → σ'.1 (k' + 4) i = σ.1 (k + 4) i) (q : lgx k be lg σ) : lgx k' be lg σ' := fun b h1 h2 => (h4 _ (Nat.mod_lt _ (by decide))).trans (q b h1 h2)
theorem lgm_co (h : ∀ i, 217 ≤ i → i < 398 → g' i = g i) (q : lgm be lg g) : lgm be lg g' := ⟨(h 217 (by decide) (by decide)).trans q.1, fun b h1 h2 f hf => (h _ (by omega) (by omega)).trans (q.2 b h1 h2 f hf)⟩
theorem PR_co (h0 : ∀ i, i < 4 → σ'.1 k' i = σ.1 k i) (h1 : ∀ i, i < 8 → σ'.1 (k' + 1) i = σ.1 (k + 1) i) (h2 : ∀ i, i < 8 → σ'.1 (k' + 2) i = σ.1 (k + 2) i) (h3 : ∀ i, i < 48 → σ'.1 (k' + 3) i = σ.1 (k + 3) i) (h4 : ∀ i, i < 60 → σ'.1 (k' + 4) i = σ.1 (k + 4) i) (hg : ∀ i, i < 398 → g' i = g i) (q : PR n k σ g) : PR n k' σ' g' := by
  obtain ⟨wh, ln, m, cr, co, be, lg, a, b, c, d, e⟩ := q
  exact ⟨wh, ln, m, cr, co, be, lg, a, px_co a.1.1.1 a.1.2.2.1.2.1 h0 h1 h2 h3 b, lgx_co h4 c, pm_co a.1.1.1 (fun i hi => hg i (by omega)) d, lgm_co (fun i _ hi => hg i hi) e⟩
theorem PR_same (h : rb_same k' k σ' σ) (h4 : ∀ i, i < 60 → σ'.1 (k' + 4) i = σ.1 (k + 4) i) (hg : ∀ i, i < 398 → g' i = g i) (q : PR n k σ g) : PR n k' σ' g' := PR_co h.1 h.2.1 h.2.2.1 h.2.2.2 h4 hg q
theorem PR_fr {ch : Nat → Nat → Prop} (h : rb_fr ch σ σ') (hh : ∀ c i, ch c i → ¬ (k ≤ c ∧ c ≤ k + 4)) (hg : ∀ i, i < 398 → g' i = g i) (q : PR n k σ g) : PR n k σ' g' := PR_co (fun i _ => h.1 _ _ (fun w => hh _ _ w (by omega))) (fun i _ => h.1 _ _ (fun w => hh _ _ w (by omega))) (fun i _ => h.1 _ _ (fun w => hh _ _ w (by omega))) (fun i _ => h.1 _ _ (fun w => hh _ _ w (by omega))) (fun i _ => h.1 _ _ (fun w => hh _ _ w (by omega))) hg q
/-- a beat is noted: the class -/
theorem lg_pack {a b c : Nat} (ha : a < 32) (hb : b < 2) : (a ||| b * 2 ^ 5) ||| c * 2 ^ 6 = a + 32 * b + 64 * c := by
  have e1 : a ||| b * 2 ^ 5 = a + 2 ^ 5 * b := by
    rw [Nat.or_comm, Nat.mul_comm]
    rw [← Nat.two_pow_add_eq_or_of_lt (by omega)]
    omega
  rw [e1, Nat.or_comm, Nat.mul_comm c, ← Nat.two_pow_add_eq_or_of_lt (i := 6) (by omega)]
  omega
def sp_lg (lg : Nat → Nat → Nat) (be l u m : Nat) : Nat → Nat → Nat := fun b f => if b = be then (if f = 0 then l else if f = 1 then u else m) else lg b f
theorem sp_lg_w {l u : Nat} (h : lgw be lg) (hl : l ≤ 20) (hu : u ≤ 1) (hm : m ≤ 48) : lgw (be + 1) (sp_lg lg be l u m) := by
  intro b hb
  unfold sp_lg
  by_cases e : b = be
  · simp only [if_pos e]
    exact ⟨by simp; omega, by simp; omega, by simp; omega⟩
  · simp only [if_neg e]
    exact h b (by omega)
theorem sx_noteBeat {l u : Nat} (hl : l < 32) (hu : u < 2) (hbe : be < 2 ^ 30) (hb : σ.1 k 3 = nI be) (hm : σ.1 k 1 = nI m) (hx : lgx k be lg σ) : ∃ σ', xf_Pole_noteBeat k (nI l) (nI u) σ = some σ' ∧ σ'.1 k 3 = nI (be + 1) ∧ lgx k (be + 1) (sp_lg lg be l u m) σ' ∧ rb_fr (fun c i => (c = k ∧ i = 3) ∨ c = k + 4) σ σ' := by
  have e1 : nI be - nI be / (60 : Int32) * 60 = nI (be % 60) := pk_rem (d := 60) (by omega) (by decide) (by decide)
  have e2 : (nI l ||| (nI u <<< ((5 : Int32) &&& 31))) ||| (nI m <<< ((6 : Int32) &&& 31)) = nI (l + 32 * u + 64 * m) := by
    rw [show (5 : Int32) = nI 5 from rfl, show (6 : Int32) = nI 6 from rfl, rb_shl (by decide), rb_shl (by decide), rb_or, rb_or, lg_pack hl hu]
  refine ⟨rb_sI (rb_sI σ (k + 4) (be % 60) (nI (l + 32 * u + 64 * m))) k 3 (nI (be + 1)), ?_, rb_sI_eq _ _ _ _, ?_, (rb_fr.sI (Or.inr rfl)).sI' (Or.inl ⟨rfl, rfl⟩)⟩
  · unfold xf_Pole_noteBeat
    rw [hb, if_neg (nI_pos (by omega)), e1, rb_ib_nI (Nat.mod_lt _ (by decide)) (by decide), if_pos rfl, hm, e2, rb_lt_eq, rb_lt_eq, nI_clamp (by omega), rb_sI_row _ _ _ _ _ (by omega), hb, nI_1]
  · intro b h1 h2
    rw [rb_sIg _ _ _ _ _ _ (by omega)]
    unfold sp_lg
    by_cases e : b = be
    · simp only [if_pos e]
      rw [e, rb_sI_eq]
      simp
    · simp only [if_neg e]
      rw [rb_sIg _ _ _ _ _ _ (by omega)]
      exact hx b (by omega) (by omega)
/-- the reference -/
theorem sm_pbl (x y : Int32) (τ : rb_St) : xl_M_passBeat_21 x y rb_FU 3 τ = some (rb_sf 17 3 218 τ 177) := by
  refine rb_ups (fun n s i => xl_M_passBeat_21 x y n i s) (fun i => rb_sf 17 3 218 τ (i - 3)) 3 180 (some (rb_sf 17 3 218 τ 177)) (fun n i h1 h2 => ?_) (fun n => ?_) rb_FU 3 (by decide) (by decide) (by unfold rb_FU; omega)
  · obtain ⟨j, rfl⟩ : ∃ j, i = j + 3 := ⟨i - 3, by omega⟩
    show (if (180 : Int32) ≤ nI (j + 3) then _ else if rb_ib (218 + nI (j + 3)) 398 then if rb_ib ((218 + nI (j + 3)) - 3) 398 then rb_lt (rb_sI (rb_sf 17 3 218 τ (j + 3 - 3)) 17 ((218 + nI (j + 3)) - 3).toNatClampNeg ((rb_sf 17 3 218 τ (j + 3 - 3)).1 17 (218 + nI (j + 3)).toNatClampNeg)) (fun s19 => xl_M_passBeat_21 x y n (nI (j + 3) + 1) s19) else none else none) = xl_M_passBeat_21 x y n (nI (j + 3 + 1)) (rb_sf 17 3 218 τ (j + 3 + 1 - 3))
    have e1 : (218 : Int32) + nI (j + 3) = nI (218 + j + 3) := by rw [rb_l218, nI_add]; rfl
    have e2 : nI (218 + j + 3) - 3 = nI (218 + j) := by rw [rb_l3, pk_sub (by omega)]; rfl
    rw [rb_l180, if_neg (nI_ge (by omega) (by omega)), e1, e2, rb_ib_nI (by omega) (by decide), if_pos rfl, rb_ib_nI (by omega) (by decide), if_pos rfl, rb_lt_eq, nI_clamp (by omega), nI_clamp (by omega), nI_1, Nat.add_sub_cancel, show j + 3 + 1 - 3 = j + 1 by omega]
    rfl
  · show (if (180 : Int32) ≤ nI 180 then some (rb_sf 17 3 218 τ (180 - 3)) else _) = _
    rw [if_pos (by decide)]
theorem sm_pb68 {l u q : Nat} (hq : q < 60) (h7 : τ.1 17 217 = nI q) (hm : τ.1 17 14 = nI m) : ∃ τ', xj_M_passBeat_68 (nI l) (nI u) τ = some (nI u, τ') ∧ τ'.1 17 217 = nI (q + 1) ∧ τ'.1 17 (218 + 3 * q) = nI l ∧ τ'.1 17 (218 + 3 * q + 1) = nI u ∧ τ'.1 17 (218 + 3 * q + 2) = nI m ∧ rb_fr (fun c i => c = 17 ∧ (i = 217 ∨ (218 + 3 * q ≤ i ∧ i < 218 + 3 * q + 3))) τ τ' := by
  have e0 : (218 : Int32) + 3 * nI q = nI (218 + 3 * q) := by rw [rb_l218, rb_l3, pk_mul, nI_add]
  have e2 : nI (218 + 3 * q) + (2 : Int32) = nI (218 + 3 * q + 2) := nI_add _ 2
  refine ⟨rb_sI (rb_sI (rb_sI (rb_sI τ 17 (218 + 3 * q) (nI l)) 17 (218 + 3 * q + 1) (nI u)) 17 (218 + 3 * q + 2) (nI m)) 17 217 (nI (q + 1)), ?_, rb_sI_eq _ _ _ _, ?_, ?_, ?_, ?_⟩
  · unfold xj_M_passBeat_68
    rw [h7, e0, nI_1, e2, rb_ib_nI (by omega) (by decide), rb_ib_nI (by omega) (by decide), rb_ib_nI (by omega) (by decide)]
    simp only [↓reduceIte, rb_lt_eq, nI_clamp (show 218 + 3 * q < 2 ^ 31 by omega), nI_clamp (show 218 + 3 * q + 1 < 2 ^ 31 by omega), nI_clamp (show 218 + 3 * q + 2 < 2 ^ 31 by omega)]
    rw [rb_sIg (rb_sI τ 17 (218 + 3 * q) (nI l)) _ _ _ 17 14 (by omega), rb_sIg τ _ _ _ 17 14 (by omega), hm]
    rw [rb_sIg (rb_sI (rb_sI τ 17 (218 + 3 * q) (nI l)) 17 (218 + 3 * q + 1) (nI u)) _ _ _ 17 217 (by omega), rb_sIg (rb_sI τ 17 (218 + 3 * q) (nI l)) _ _ _ 17 217 (by omega), rb_sIg τ _ _ _ 17 217 (by omega), h7, nI_1]
  · rw [rb_sIg _ _ _ _ _ _ (by omega), rb_sIg _ _ _ _ _ _ (by omega), rb_sIg _ _ _ _ _ _ (by omega), rb_sI_eq]
  · rw [rb_sIg _ _ _ _ _ _ (by omega), rb_sIg _ _ _ _ _ _ (by omega), rb_sI_eq]
  · rw [rb_sIg _ _ _ _ _ _ (by omega), rb_sI_eq]
  · exact (((rb_fr.sI (by omega)).sI' (by omega)).sI' (by omega)).sI' (by omega)
theorem sm_logBeat {l u : Nat} (hL : lgm be lg (τ.1 17)) (hm : τ.1 17 14 = nI m) : ∃ τ', (if (τ.1 17 217) = 60 then rb_b1 (xl_M_passBeat_21 (nI l) (nI u) rb_FU 3 τ) (fun s21 => rb_lt (rb_sI s21 17 217 ((s21.1 17 217) - 1)) (fun s23 => xj_M_passBeat_68 (nI l) (nI u) s23)) else xj_M_passBeat_68 (nI l) (nI u) τ) = some (nI u, τ') ∧ lgm (be + 1) (sp_lg lg be l u m) (τ'.1 17) ∧ rb_fr (fun c i => c = 17 ∧ 217 ≤ i) τ τ' := by
  obtain ⟨h7, hL⟩ := hL
  by_cases hb : be < 60
  · have e : min be 60 = be := by omega
    rw [e] at h7 hL
    obtain ⟨τ', a1, a2, a3, a4, a5, a6⟩ := sm_pb68 (l := l) (u := u) hb h7 hm
    refine ⟨τ', ?_, ⟨?_, fun b h1 h2 f hf => ?_⟩, a6.mo (fun c i q => by omega)⟩
    · rw [h7, rb_l60, if_neg (fun q => by have := (nI_eq (by omega) (by decide)).mp q; omega), a1]
    · rw [a2]; congr 1; omega
    · unfold sp_lg
      rw [show b - (be + 1 - min (be + 1) 60) = b by omega]
      by_cases eb : b = be
      · simp only [if_pos eb]
        subst eb
        have : f = 0 ∨ f = 1 ∨ f = 2 := by omega
        rcases this with rfl | rfl | rfl
        · simpa using a3
        · simpa using a4
        · simpa using a5
      · simp only [if_neg eb]
        rw [a6.1 17 _ (by omega)]
        have := hL b (by omega) (by omega) f hf
        rw [show b - (be - be) = b by omega] at this
        exact this
  · have e : min be 60 = 60 := by omega
    rw [e] at h7 hL
    obtain ⟨s, hs⟩ : ∃ s, s = rb_sI (rb_sf 17 3 218 τ 177) 17 217 (nI 59) := ⟨_, rfl⟩
    have s7 : s.1 17 217 = nI 59 := by rw [hs]; exact rb_sI_eq _ _ _ _
    have sm : s.1 17 14 = nI m := by rw [hs, rb_sIg _ _ _ _ _ _ (by omega), rb_sf_at, if_neg (by omega)]; exact hm
    obtain ⟨τ', a1, a2, a3, a4, a5, a6⟩ := sm_pb68 (l := l) (u := u) (q := 59) (by decide) s7 sm
    refine ⟨τ', ?_, ⟨?_, fun b h1 h2 f hf => ?_⟩, ⟨fun c i q => ?_, ?_⟩⟩
    · rw [h7, if_pos (by decide), sm_pbl, rb_b1_some, rb_lt_eq, rb_sf_at, if_neg (by omega), h7, show nI 60 - 1 = nI 59 from rfl, ← hs, a1]
    · rw [a2]; congr 1; omega
    · unfold sp_lg
      by_cases eb : b = be
      · simp only [if_pos eb]
        subst eb
        rw [show b - (b + 1 - min (b + 1) 60) = 59 by omega]
        have : f = 0 ∨ f = 1 ∨ f = 2 := by omega
        rcases this with rfl | rfl | rfl
        · simpa using a3
        · simpa using a4
        · simpa using a5
      · simp only [if_neg eb]
        rw [a6.1 17 _ (by omega), hs, rb_sIg _ _ _ _ _ _ (by omega), rb_sf_at, if_pos (by omega)]
        have := hL b (by omega) (by omega) f hf
        rw [show 218 + 3 * (b - (be + 1 - min (be + 1) 60)) + f + 3 = 218 + 3 * (b - (be - 60)) + f by omega]
        exact this
    · rw [a6.1 c i (by omega), hs, rb_sIg _ _ _ _ _ _ (by omega)]
      by_cases hc : c = 17
      · subst hc
        rw [rb_sf_at, if_neg (by omega)]
      · rw [rb_sf_row hc]
    · rw [a6.2, hs, rb_sI_2, rb_sf_2]
end RBR
