/-! A LAW IS READ: what both readers hold, and one sign put -/
def LB (tx : Nat) (xs : List Int32) (ts : List sp_Tk) (σ τ : rb_St) : Prop := τ.1 0 14 = nI tx ∧ σ.1 8 1 = nI xs.length ∧ rb_rw 9 0 xs σ ∧ τ.1 4 tx = nI ts.length ∧ rb_tm (520 * tx) ts τ
def rb_LS (m : Nat) (t : Nat → Nat) (tx p a : Nat) (xs : List Int32) (ts : List sp_Tk) (σ τ : rb_St) : Prop := TX 7 m t a σ ∧ TM m t a τ ∧ τ.1 0 4 = -1 ∧ τ.1 0 5 = nI p ∧ LB tx xs ts σ τ
def FT (tx K e : Nat) (τ : rb_St) : Prop := τ.1 0 4 = nI e ∧ τ.1 0 14 = nI tx ∧ ∃ C, C ≤ 240 + K ∧ τ.1 4 tx = nI C
def scLX (c i : Nat) : Prop := (c = 7 ∧ i = 1) ∨ (c = 8 ∧ i = 1) ∨ c = 9
def scLM (tx c i : Nat) : Prop := (c = 0 ∧ (i = 3 ∨ i = 4 ∨ i = 5)) ∨ ((c = 2 ∨ c = 3) ∧ 520 * tx ≤ i ∧ i < 520 * tx + 520) ∨ (c = 4 ∧ i = tx)
def scLP (tx c i : Nat) : Prop := ((c = 2 ∨ c = 3) ∧ 520 * tx ≤ i ∧ i < 520 * tx + 520) ∨ (c = 4 ∧ i = tx)
theorem scA_L (c i : Nat) (h : scA 7 c i) : scLX c i := Or.inl h
theorem scB_L {tx : Nat} (c i : Nat) (h : scB c i) : scLM tx c i := Or.inl ⟨h.1, Or.inl h.2⟩
theorem scP_L {tx : Nat} (c i : Nat) (h : scLP tx c i) : scLM tx c i := Or.inr h
theorem sc4_L {tx : Nat} (c i : Nat) (h : c = 0 ∧ i = 4) : scLM tx c i := Or.inl ⟨h.1, Or.inr (Or.inl h.2)⟩
section RBLR
variable {m a p tx : Nat} {t : Nat → Nat} {xs : List Int32} {ts : List sp_Tk} {σ τ : rb_St}
theorem LB_fr {σ' τ' : rb_St} {ch ch' : Nat → Nat → Prop} (h1 : rb_fr ch σ σ') (h2 : rb_fr ch' τ τ') (q1 : ∀ c i, ch c i → ¬ ((c = 8 ∧ i = 1) ∨ c = 9)) (q2 : ∀ c i, ch' c i → ¬ ((c = 0 ∧ i = 14) ∨ c = 2 ∨ c = 3 ∨ c = 4)) (h : LB tx xs ts σ τ) : LB tx xs ts σ' τ' :=
  ⟨(h2.1 _ _ (fun w => q2 _ _ w (by omega))).trans h.1, (h1.1 _ _ (fun w => q1 _ _ w (by omega))).trans h.2.1, rb_rw_co (fun j _ _ => h1.1 _ _ (fun w => q1 _ _ w (by omega))) h.2.2.1, (h2.1 _ _ (fun w => q2 _ _ w (by omega))).trans h.2.2.2.1, rb_tm_co (fun j _ _ => ⟨h2.1 _ _ (fun w => q2 _ _ w (by omega)), h2.1 _ _ (fun w => q2 _ _ w (by omega))⟩) h.2.2.2.2⟩
theorem FT_fr {K e : Nat} {τ' : rb_St} {ch' : Nat → Nat → Prop} (h2 : rb_fr ch' τ τ') (q2 : ∀ c i, ch' c i → ¬ ((c = 0 ∧ (i = 4 ∨ i = 14)) ∨ c = 4)) (h : FT tx K e τ) : FT tx K e τ' := by
  obtain ⟨a1, a2, C, a3, a4⟩ := h
  exact ⟨(h2.1 _ _ (fun w => q2 _ _ w (by omega))).trans a1, (h2.1 _ _ (fun w => q2 _ _ w (by omega))).trans a2, C, a3, (h2.1 _ _ (fun w => q2 _ _ w (by omega))).trans a4⟩
theorem FT_mo {K K' e : Nat} (hK : K ≤ K') (h : FT tx K e τ) : FT tx K' e τ := by
  obtain ⟨a1, a2, C, a3, a4⟩ := h
  exact ⟨a1, a2, C, by omega, a4⟩
/-- a sign is put into the reference's text -/
theorem sm_put0 (htx : tx ≤ 4) {C : Nat} (hC : C < 520) (h14 : τ.1 0 14 = nI tx) (h4 : τ.1 4 tx = nI C) (x y : Int32) : ∃ τ', xf_M_put x y τ = some τ' ∧ τ'.1 4 tx = nI (C + 1) ∧ τ'.1 2 (520 * tx + C) = x ∧ τ'.1 3 (520 * tx + C) = y ∧ (∀ c i, ¬ ((c = 2 ∨ c = 3) ∧ i = 520 * tx + C) → ¬ (c = 4 ∧ i = tx) → τ'.1 c i = τ.1 c i) ∧ rb_fr (scLP tx) τ τ' := by
  obtain ⟨s3, hs3⟩ : ∃ s, s = rb_sI τ 2 (520 * tx + C) x := ⟨_, rfl⟩
  obtain ⟨s7, hs7⟩ : ∃ s, s = rb_sI s3 3 (520 * tx + C) y := ⟨_, rfl⟩
  obtain ⟨s9, hs9⟩ : ∃ s, s = rb_sI s7 4 tx (nI (C + 1)) := ⟨_, rfl⟩
  have e : (520 : Int32) * nI tx + nI C = nI (520 * tx + C) := by rw [show (520 : Int32) = nI 520 from rfl, pk_mul, nI_add]
  have a1 : s3.1 0 14 = nI tx := by rw [hs3, rb_sIg _ _ _ _ _ _ (by omega)]; exact h14
  have a2 : s3.1 4 tx = nI C := by rw [hs3, rb_sIg _ _ _ _ _ _ (by omega)]; exact h4
  have b1 : s7.1 0 14 = nI tx := by rw [hs7, rb_sIg _ _ _ _ _ _ (by omega)]; exact a1
  have b2 : s7.1 4 tx = nI C := by rw [hs7, rb_sIg _ _ _ _ _ _ (by omega)]; exact a2
  refine ⟨s9, ?_, ?_, ?_, ?_, fun c i q1 q2 => ?_, ?_⟩
  · unfold xf_M_put
    rw [h14, rb_ib_nI (by omega) (by decide), if_pos rfl, nI_clamp (by omega), h4, e, rb_ib_nI (by omega) (by decide), if_pos rfl, nI_clamp (by omega), rb_lt_eq, ← hs3, a1, rb_ib_nI (by omega) (by decide), if_pos rfl, nI_clamp (by omega), a2, e, rb_ib_nI (by omega) (by decide), if_pos rfl, nI_clamp (by omega), rb_lt_eq, ← hs7, b1, rb_ib_nI (by omega) (by decide), if_pos rfl, nI_clamp (by omega), b2, rb_lt_eq, nI_1, ← hs9]
  · rw [hs9, rb_sI_eq]
  · rw [hs9, rb_sIg _ _ _ _ _ _ (by omega), hs7, rb_sIg _ _ _ _ _ _ (by omega), hs3, rb_sI_eq]
  · rw [hs9, rb_sIg _ _ _ _ _ _ (by omega), hs7, rb_sI_eq]
  · rw [hs9, rb_sIg _ _ _ _ _ _ (by omega), hs7, rb_sIg _ _ _ _ _ _ (by omega), hs3, rb_sIg _ _ _ _ _ _ (by omega)]
  · rw [hs9, hs7, hs3]
    exact ((rb_fr.sI (ch := scLP tx) (k := 2) (j := 520 * tx + C) (Or.inl ⟨Or.inl rfl, by omega, by omega⟩)).sI' (k := 3) (j := 520 * tx + C) (Or.inl ⟨Or.inr rfl, by omega, by omega⟩)).sI' (k := 4) (j := tx) (Or.inr ⟨rfl, rfl⟩)
theorem sm_fput (htx : tx ≤ 4) {K e : Nat} (hK : K ≤ 200) (h : FT tx K e τ) (x y : Int32) : ∃ τ', xf_M_put x y τ = some τ' ∧ FT tx (K + 1) e τ' ∧ rb_fr (scLM tx) τ τ' := by
  obtain ⟨a1, a2, C, a3, a4⟩ := h
  obtain ⟨τ', b1, b2, -, -, b5, b6⟩ := sm_put0 htx (show C < 520 by omega) a2 a4 x y
  exact ⟨τ', b1, ⟨(b5 0 4 (by omega) (by omega)).trans a1, (b5 0 14 (by omega) (by omega)).trans a2, C + 1, by omega, b2⟩, b6.mo scP_L⟩
/-- the class adds a code -/
theorem sx_add0 (hl : xs.length < 240) (h1 : σ.1 8 1 = nI xs.length) (h2 : rb_rw 9 0 xs σ) (x : Int32) : ∃ σ', xf_Law_add x σ = some σ' ∧ σ'.1 8 1 = nI (xs ++ [x]).length ∧ rb_rw 9 0 (xs ++ [x]) σ' ∧ rb_fr (fun c i => (c = 8 ∧ i = 1) ∨ c = 9) σ σ' := by
  obtain ⟨s3, hs3⟩ : ∃ s, s = rb_sI σ 9 xs.length x := ⟨_, rfl⟩
  have a1 : s3.1 8 1 = nI xs.length := by rw [hs3, rb_sIg _ _ _ _ _ _ (by omega)]; exact h1
  refine ⟨rb_sI s3 8 1 (nI (xs.length + 1)), ?_, ?_, rb_rw_app.mpr ⟨rb_rw_co (fun j _ hj => ?_) h2, ?_, trivial⟩, ?_⟩
  · unfold xf_Law_add
    rw [h1, if_neg (show ¬ (240 : Int32) ≤ nI xs.length from nI_ge (b := 240) hl (by decide)), rb_ib_nI hl (by decide), if_pos rfl, nI_clamp (by omega), rb_lt_eq, ← hs3, a1, rb_lt_eq, nI_1]
  · rw [rb_sI_eq, List.length_append]; rfl
  · rw [rb_sIg _ _ _ _ _ _ (by omega), hs3, rb_sIg _ _ _ _ _ _ (by omega)]
  · rw [rb_sIg _ _ _ _ _ _ (by omega), hs3, Nat.zero_add, rb_sI_eq]
  · rw [hs3]
    exact (rb_fr.sI (ch := fun c i => (c = 8 ∧ i = 1) ∨ c = 9) (k := 9) (Or.inr rfl)).sI' (k := 8) (j := 1) (Or.inl ⟨rfl, rfl⟩)
/-- one sign, on both sides -/
theorem rb_lput (htx : tx ≤ 4) {tk : sp_Tk} {v : Int32} (hv : tk.1 < 2 → v = nI tk.2) (h : rb_LS m t tx p a xs ts σ τ) (hl : xs.length < 240) (hts : ts.length < 520) : ∃ σ' τ', xf_Law_add (sp_cx tk) σ = some σ' ∧ xf_M_put (nI tk.1) v τ = some τ' ∧ rb_LS m t tx p a (xs ++ [sp_cx tk]) (ts ++ [tk]) σ' τ' ∧ rb_fr scLX σ σ' ∧ rb_fr (scLM tx) τ τ' := by
  obtain ⟨h1, h2, h3, h4, h5, h6, h7, h8, h9⟩ := h
  obtain ⟨σ', a1, a2, a3, a4⟩ := sx_add0 hl h6 h7 (sp_cx tk)
  obtain ⟨τ', b1, b2, b3, b4, b5, b6⟩ := sm_put0 htx hts h5 h8 (nI tk.1) v
  refine ⟨σ', τ', a1, b1, ⟨TX_fr a4 (fun c i q => by omega) h1, TM_fr b6 (fun c i q => by unfold scLP at q; omega) h2, (b5 0 4 (by omega) (by omega)).trans h3, (b5 0 5 (by omega) (by omega)).trans h4, (b5 0 14 (by omega) (by omega)).trans h5, a2, a3, ?_, rb_tm_app.mpr ⟨rb_tm_co (fun j j1 j2 => ⟨b5 _ _ (by omega) (by omega), b5 _ _ (by omega) (by omega)⟩) h9, b3, fun q => ?_, trivial⟩⟩, a4.mo (fun c i q => Or.inr q), b6.mo scP_L⟩
  · rw [b2, List.length_append]; rfl
  · rw [b4]; exact hv q
end RBLR
