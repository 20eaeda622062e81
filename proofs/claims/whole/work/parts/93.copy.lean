/-! POLES COPIED -/
/-- what pole k1 holds in σ stands at k0 in σ' -/
def rb_same (k0 k1 : Nat) (σ' σ : rb_St) : Prop := (∀ i, i < 4 → σ'.1 k0 i = σ.1 k1 i) ∧ (∀ i, i < 8 → σ'.1 (k0 + 1) i = σ.1 (k1 + 1) i) ∧ (∀ i, i < 8 → σ'.1 (k0 + 2) i = σ.1 (k1 + 2) i) ∧ ∀ i, i < 48 → σ'.1 (k0 + 3) i = σ.1 (k1 + 3) i
def rb_out5 (k : Nat) (σ' σ : rb_St) : Prop := (∀ c, c < k ∨ k + 4 < c → σ'.1 c = σ.1 c) ∧ σ'.2 = σ.2
section RBQ
variable {n m k0 k1 : Nat} {cr : Nat → Nat → Nat} {wh ln : Nat → Nat} {σ σ' : rb_St}
theorem sx_standAs (hk : k0 + 4 < k1 ∨ k1 + 4 < k0) : ∃ σ', xf_Pole_standAs k0 k1 σ = some σ' ∧ rb_same k0 k1 σ' σ ∧ σ'.1 (k0 + 4) = σ.1 (k0 + 4) ∧ rb_out5 k0 σ' σ := by
  unfold xf_Pole_standAs
  simp only [rb_lt_eq]
  refine ⟨_, rfl, ⟨fun i hi => ?_, fun i hi => ?_, fun i hi => ?_, fun i hi => ?_⟩, ?_, fun c hc => ?_, rfl⟩
  · have : i = 0 ∨ i = 1 ∨ i = 2 ∨ i = 3 := by omega
    rw [rb_cp_row _ _ _ _ _ _ _ (by omega), rb_cp_row _ _ _ _ _ _ _ (by omega), rb_cp_row _ _ _ _ _ _ _ (by omega)]
    simp only [rb_sI_at]
    rcases this with rfl | rfl | rfl | rfl <;> simp <;> omega
  · rw [rb_cp_row _ _ _ _ _ _ _ (by omega), rb_cp_row _ _ _ _ _ _ _ (by omega), rb_cp_at, if_pos (by omega)]
    simp only [rb_sI_at]
    rw [if_neg (by omega), if_neg (by omega), if_neg (by omega), if_neg (by omega)]
    rw [Nat.zero_add, Nat.sub_zero]
  · rw [rb_cp_row _ _ _ _ _ _ _ (by omega), rb_cp_at, if_pos (by omega), rb_cp_row _ _ _ _ _ _ _ (by omega)]
    simp only [rb_sI_at]
    rw [if_neg (by omega), if_neg (by omega), if_neg (by omega), if_neg (by omega)]
    rw [Nat.zero_add, Nat.sub_zero]
  · rw [rb_cp_at, if_pos (by omega), rb_cp_row _ _ _ _ _ _ _ (by omega), rb_cp_row _ _ _ _ _ _ _ (by omega)]
    simp only [rb_sI_at]
    rw [if_neg (by omega), if_neg (by omega), if_neg (by omega), if_neg (by omega)]
    rw [Nat.zero_add, Nat.sub_zero]
  · rw [rb_cp_row _ _ _ _ _ _ _ (by omega), rb_cp_row _ _ _ _ _ _ _ (by omega), rb_cp_row _ _ _ _ _ _ _ (by omega), rb_sI_row _ _ _ _ _ (by omega), rb_sI_row _ _ _ _ _ (by omega), rb_sI_row _ _ _ _ _ (by omega), rb_sI_row _ _ _ _ _ (by omega)]
  · rw [rb_cp_row _ _ _ _ _ _ _ (by omega), rb_cp_row _ _ _ _ _ _ _ (by omega), rb_cp_row _ _ _ _ _ _ _ (by omega), rb_sI_row _ _ _ _ _ (by omega), rb_sI_row _ _ _ _ _ (by omega), rb_sI_row _ _ _ _ _ (by omega), rb_sI_row _ _ _ _ _ (by omega)]
theorem sx_copyFrom (hk : k0 + 4 < k1 ∨ k1 + 4 < k0) : ∃ σ', xf_Pole_copyFrom k0 k1 σ = some σ' ∧ rb_same k0 k1 σ' σ ∧ (∀ i, i < 60 → σ'.1 (k0 + 4) i = σ.1 (k1 + 4) i) ∧ rb_out5 k0 σ' σ := by
  obtain ⟨s, e, h1, h2, h3⟩ := sx_standAs (σ := σ) hk
  unfold xf_Pole_copyFrom
  rw [e, rb_b1_some]
  simp only [rb_lt_eq]
  refine ⟨_, rfl, ⟨fun i hi => ?_, fun i hi => ?_, fun i hi => ?_, fun i hi => ?_⟩, fun i hi => ?_, fun c hc => ?_, h3.2⟩
  · rw [rb_cp_row _ _ _ _ _ _ _ (by omega)]; exact h1.1 i hi
  · rw [rb_cp_row _ _ _ _ _ _ _ (by omega)]; exact h1.2.1 i hi
  · rw [rb_cp_row _ _ _ _ _ _ _ (by omega)]; exact h1.2.2.1 i hi
  · rw [rb_cp_row _ _ _ _ _ _ _ (by omega)]; exact h1.2.2.2 i hi
  · rw [rb_cp_at, if_pos (by omega), h3.1 (k1 + 4) (by omega)]
    rw [Nat.zero_add, Nat.sub_zero]
  · rw [rb_cp_row _ _ _ _ _ _ _ (by omega)]; exact h3.1 c hc
theorem rb_same_wh (V : n < 8) (h : rb_same k0 k1 σ' σ) (hw : rx_wh k1 n wh ln σ) : rx_wh k0 n wh ln σ' := ⟨(h.1 0 (by decide)).trans hw.1, fun p hp => (h.2.1 p (by omega)).trans (hw.2.1 p hp), fun d hd => (h.2.2.1 d (by omega)).trans (hw.2.2 d hd)⟩
theorem rb_same_cr (hm : m ≤ 48) (h : rb_same k0 k1 σ' σ) (hc : rx_cr k1 m cr σ) : rx_cr k0 m cr σ' := ⟨(h.1 1 (by decide)).trans hc.1, fun i hi => (h.2.2.2 i (by omega)).trans (hc.2 i hi)⟩
end RBQ
