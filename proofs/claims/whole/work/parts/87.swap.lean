/-! TWO CHANGE PLACES -/
def sp_sw (n : Nat) (wh : Nat → Nat) (p : Nat) : Nat → Nat := fun q => if q = sp_nx n p then wh p else if q = p then wh (sp_nx n p) else wh q
section RBQ
variable {n m k : Nat} {cr : Nat → Nat → Nat} {wh ln : Nat → Nat} {σ : rb_St}
theorem sp_sw_wf (V : rb_wfw n wh ln) {p : Nat} (hp : p < n) : rb_wfw n (sp_sw n wh p) ln := by
  have l1 := sp_nx_lt n V.1 p hp
  refine ⟨V.1, fun q hq => ?_, V.2.2.1, fun q r hq hr e => ?_⟩
  · unfold sp_sw
    split
    · exact V.2.1 p hp
    · split
      · exact V.2.1 _ l1
      · exact V.2.1 q hq
  · unfold sp_sw at e
    split at e <;> split at e <;> (try split at e) <;> (try split at e) <;> (have := V.2.2.2 _ _ (by omega) (by omega) e; omega)
theorem sx_change (V : rb_wfw n wh ln) (h : rx_wh k n wh ln σ) {p : Nat} (hp : p < n) : ∃ σ', xf_Pole_change k (nI p) σ = some σ' ∧ rx_wh k n (sp_sw n wh p) ln σ' ∧ (∀ c, c ≠ k + 1 → σ'.1 c = σ.1 c) ∧ σ'.2 = σ.2 := by
  have hn := V.1
  have l1 := sp_nx_lt n hn p hp
  refine ⟨rb_sI (rb_sI σ (k + 1) p (nI (wh (sp_nx n p)))) (k + 1) (sp_nx n p) (nI (wh p)), ?_, ⟨?_, fun q hq => ?_, fun d hd => ?_⟩, fun c hc => ?_, rfl⟩
  · have e0 : xf_Pole_hasPlace k (nI p) σ = 1 := by
      unfold xf_Pole_hasPlace
      rw [if_neg (nI_pos (by omega)), h.1, if_neg (nI_ge hp (by omega))]
    have h4 : (rb_sI σ (k + 1) p (nI (wh (sp_nx n p)))).1 k 0 = nI n := by rw [rb_sI_row _ _ _ _ _ (by omega)]; exact h.1
    unfold xf_Pole_change
    rw [e0, if_neg (by decide), rb_ib_nI (by omega) (by decide), if_pos rfl, sx_nextPlace hn h.1 hp, rb_ib_nI (by omega) (by decide), if_pos rfl, nI_clamp (by omega), nI_clamp (by omega), h.2.1 _ l1, h.2.1 _ hp, rb_lt_eq, sx_nextPlace hn h4 hp, rb_ib_nI (by omega) (by decide), if_pos rfl, rb_lt_eq, nI_clamp (by omega)]
  · rw [rb_sI_row _ _ _ _ _ (by omega), rb_sI_row _ _ _ _ _ (by omega)]; exact h.1
  · unfold sp_sw
    rw [rb_sI_at, rb_sI_at]
    by_cases a1 : q = sp_nx n p
    · rw [if_pos ⟨rfl, a1⟩, if_pos a1]
    · rw [if_neg (fun w => a1 w.2), if_neg a1]
      by_cases a2 : q = p
      · rw [if_pos ⟨rfl, a2⟩, if_pos a2]
      · rw [if_neg (fun w => a2 w.2), if_neg a2]; exact h.2.1 q hq
  · rw [rb_sI_row _ _ _ _ _ (by omega), rb_sI_row _ _ _ _ _ (by omega)]; exact h.2.2 d hd
  · rw [rb_sI_row _ _ _ _ _ hc, rb_sI_row _ _ _ _ _ hc]
theorem sm_swapAt (V : rb_wfw n wh ln) (h : rm_wh n wh ln σ) {p : Nat} (hp : p < n) : ∃ σ', xf_M_swapAt (nI p) σ = some σ' ∧ rm_wh n (sp_sw n wh p) ln σ' ∧ (∀ i, 7 ≤ i → σ'.1 17 i = σ.1 17 i) ∧ (∀ c, c ≠ 17 → σ'.1 c = σ.1 c) ∧ σ'.2 = σ.2 := by
  have hn := V.1
  have l1 := sp_nx_lt n hn p hp
  have ot : ∀ i, 7 ≤ i → (rb_sI (rb_sI σ 17 p (nI (wh (sp_nx n p)))) 17 (sp_nx n p) (nI (wh p))).1 17 i = σ.1 17 i := by
    intro i hi
    rw [rb_sI_ne _ _ _ _ _ _ (Or.inr (by omega)), rb_sI_ne _ _ _ _ _ _ (Or.inr (by omega))]
  refine ⟨rb_sI (rb_sI σ 17 p (nI (wh (sp_nx n p)))) 17 (sp_nx n p) (nI (wh p)), ?_, ⟨?_, fun q hq => ?_, fun d hd => ?_⟩, ot, fun c hc => ?_, rfl⟩
  · have h4 : (rb_sI σ 17 p (nI (wh (sp_nx n p)))).1 0 22 = nI n := by rw [rb_sI_row _ _ _ _ _ (by omega)]; exact h.1
    unfold xf_M_swapAt
    rw [Int32.zero_add, rb_ib_nI (by omega) (by decide), if_pos rfl, sm_nextPlace hn h.1 hp, rb_b1_some, Int32.zero_add, rb_ib_nI (by omega) (by decide), if_pos rfl, nI_clamp (by omega), nI_clamp (by omega), h.2.1 _ l1, h.2.1 _ hp, rb_lt_eq, sm_nextPlace hn h4 hp, rb_b1_some, Int32.zero_add, rb_ib_nI (by omega) (by decide), if_pos rfl, rb_lt_eq, nI_clamp (by omega)]
  · rw [rb_sI_row _ _ _ _ _ (by omega), rb_sI_row _ _ _ _ _ (by omega)]; exact h.1
  · unfold sp_sw
    rw [rb_sI_at, rb_sI_at]
    by_cases a1 : q = sp_nx n p
    · rw [if_pos ⟨rfl, a1⟩, if_pos a1]
    · rw [if_neg (fun w => a1 w.2), if_neg a1]
      by_cases a2 : q = p
      · rw [if_pos ⟨rfl, a2⟩, if_pos a2]
      · rw [if_neg (fun w => a2 w.2), if_neg a2]; exact h.2.1 q hq
  · rw [ot _ (by omega)]; exact h.2.2 d hd
  · rw [rb_sI_row _ _ _ _ _ hc, rb_sI_row _ _ _ _ _ hc]
end RBQ
