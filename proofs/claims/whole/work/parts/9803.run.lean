/-! LAWS: both stacks; a row of signs gone through -/
def rb_stk (c : Nat) : List Int32 → rb_St → Prop
  | [], _ => True
  | x :: s, σ => σ.1 c s.length = x ∧ rb_stk c s σ
theorem rb_stk_co {c : Nat} : ∀ {s : List Int32} {σ σ' : rb_St}, (∀ i, i < s.length → σ'.1 c i = σ.1 c i) → rb_stk c s σ → rb_stk c s σ'
  | [], _, _, _, _ => trivial
  | x :: s, σ, σ', h, q => ⟨(h s.length (by simp)).trans q.1, rb_stk_co (fun i hi => h i (by simp; omega)) q.2⟩
def rb_xs (k : Nat) (st : List Int32) (σ : rb_St) : Prop := σ.1 k 4 = nI st.length ∧ rb_stk (k + 3) st σ
def rb_c3 (k : Nat) (c i : Nat) : Prop := c = k + 3 ∨ (c = k ∧ i = 4)
section RBE
variable {k : Nat} {st : List Int32} {σ : rb_St} {lt : Nat → Int32}
theorem sx_push (h : rb_xs k st σ) (hl : st.length < 64) (x : Int32) : ∃ σ', xf_Law_push k x σ = some σ' ∧ rb_xs k (x :: st) σ' ∧ rb_fr (rb_c3 k) σ σ' := by
  refine ⟨rb_sI (rb_sI σ (k + 3) st.length x) k 4 (nI (st.length + 1)), ?_, ⟨rb_sI_eq _ _ _ _, ⟨?_, ?_⟩⟩, ?_⟩
  · unfold xf_Law_push
    rw [h.1, rb_l64, if_neg (nI_ge (by omega) (by omega)), rb_ib_nI (by omega) (by omega), if_pos rfl, rb_lt_eq, nI_clamp (by omega), rb_lt_eq, rb_sI_row _ _ _ _ _ (by omega), h.1, nI_1]
  · rw [rb_sI_row _ _ _ _ _ (by omega), rb_sI_eq]
  · refine rb_stk_co (fun i hi => ?_) h.2
    rw [rb_sI_row _ _ _ _ _ (by omega), rb_sIg _ _ _ _ _ _ (by omega)]
  · exact (rb_fr.sI (Or.inl rfl)).sI' (Or.inr ⟨rfl, rfl⟩)
theorem sx_pop {x : Int32} (h : rb_xs k (x :: st) σ) (hl : st.length < 64) : ∃ σ', xf_Law_pop k σ = some (x, σ') ∧ rb_xs k st σ' ∧ rb_fr (rb_c3 k) σ σ' := by
  have e : nI (st.length + 1) - 1 = nI st.length := nI_pred _
  have h1 : σ.1 k 4 = nI (st.length + 1) := h.1
  refine ⟨rb_sI σ k 4 (nI st.length), ?_, ⟨rb_sI_eq _ _ _ _, ?_⟩, rb_fr.sI (Or.inr ⟨rfl, rfl⟩)⟩
  · unfold xf_Law_pop
    rw [h1, rb_l0, if_pos (nI_lt (by omega) (by omega)), e, rb_lt_eq, rb_sI_eq, rb_ib_nI (by omega) (by omega), if_pos rfl, nI_clamp (by omega), rb_sI_row _ _ _ _ _ (by omega), h.2.1]
  · exact rb_stk_co (fun i hi => by rw [rb_sI_row _ _ _ _ _ (by omega)]) h.2.2
theorem sp_ev1_ok {T T' : List Bool} {t : sp_Tk} (ht : sp_tkok t) (hlt : ∀ v, v < 6 → sp_okv false (lt v)) (h : sp_oks T st) (hT : sp_ty1 t.1 T = some T') : sp_oks T' (sp_ev1 lt t st) := by
  obtain ⟨c, v⟩ := t
  obtain ⟨h1, h2, h3⟩ := ht
  unfold sp_ty1 at hT
  unfold sp_ev1
  simp only at h1 h2 h3 hT ⊢
  by_cases c0 : c = 0
  · subst c0
    rw [if_pos (by omega)] at hT
    cases hT
    rw [if_pos rfl]
    refine ⟨?_, h⟩
    have := nI_toInt (n := v) (by have := h2 rfl; omega)
    have h4 := h2 rfl
    unfold sp_okv
    rw [if_neg (by decide), this]
    omega
  · by_cases c1 : c = 1
    · subst c1
      rw [if_pos (by omega)] at hT
      cases hT
      rw [if_neg (by omega), if_pos rfl]
      exact ⟨hlt v (h3 rfl), h⟩
    · rw [if_neg (by omega)] at hT
      rw [if_neg c0, if_neg c1]
      match T, st, h with
      | [], _, _ => simp at hT
      | a :: s, x :: xs, h =>
        by_cases c9 : c = 9
        · subst c9
          simp only [if_true] at hT ⊢
          cases a
          · simp at hT
          · simp at hT
            subst hT
            refine ⟨?_, h.2⟩
            have := h.1
            unfold sp_okv at this ⊢
            simp only [if_true] at this ⊢
            rcases this with rfl | rfl
            · exact Or.inr rfl
            · exact Or.inl rfl
        · simp only [if_neg c9] at hT ⊢
          match s, xs, h with
          | [], _, _ => simp at hT
          | b :: r, y :: ys, h =>
            have hb := sp_bo_ok (c := c) (by omega) c9 h1 y x
            simp only at hT ⊢
            by_cases c6 : c < 6
            · rw [if_pos c6] at hT
              split at hT
              · cases hT
                rw [decide_eq_false (by omega)] at hb
                exact ⟨hb, h.2.2⟩
              · cases hT
            · rw [if_neg c6] at hT
              rw [decide_eq_true (by omega)] at hb
              split at hT
              · split at hT
                · cases hT
                  exact ⟨hb, h.2.2⟩
                · cases hT
              · split at hT
                · cases hT
                  exact ⟨hb, h.2.2⟩
                · cases hT
theorem sx_run1 {T T' : List Bool} {t : sp_Tk} (ht : sp_tkok t) (hlt : ∀ v, v < 6 → σ.1 (k + 2) v = lt v) (h : sp_oks T st) (hT : sp_ty1 t.1 T = some T') (hx : rb_xs k st σ) (hl : st.length < 60) : ∃ σ', xf_Law_run k (sp_cx t) σ = some σ' ∧ rb_xs k (sp_ev1 lt t st) σ' ∧ rb_fr (rb_c3 k) σ σ' := by
  obtain ⟨c, v⟩ := t
  obtain ⟨h1, h2, h3⟩ := ht
  unfold sp_ty1 at hT
  unfold sp_ev1
  simp only at h1 h2 h3 hT ⊢
  by_cases c0 : c = 0
  · subst c0
    have h4 := h2 rfl
    have e : sp_cx (0, v) = nI v := rfl
    rw [if_pos rfl, e]
    obtain ⟨σ', e1, e2, e3⟩ := sx_push hx (by omega) (nI v)
    refine ⟨σ', ?_, e2, e3⟩
    unfold xf_Law_run
    rw [if_neg (nI_pos (by omega)), e1, rb_b1_some]
  · by_cases c1 : c = 1
    · subst c1
      have h4 := h3 rfl
      have e : sp_cx (1, v) = -1 - nI v := rfl
      rw [if_neg (by omega), if_pos rfl, e]
      obtain ⟨σ', e1, e2, e3⟩ := sx_push hx (by omega) (lt v)
      refine ⟨σ', ?_, e2, e3⟩
      have hv : v = 0 ∨ v = 1 ∨ v = 2 ∨ v = 3 ∨ v = 4 ∨ v = 5 := by omega
      have key : ((-1 : Int32) - nI v < 0) ∧ ¬ ((-1 : Int32) - nI v ≤ -11) ∧ rb_ib (((-1) - ((-1 : Int32) - nI v)) &&& 7) 8 = true ∧ (((-1) - ((-1 : Int32) - nI v)) &&& 7).toNatClampNeg = v := by
        rcases hv with rfl | rfl | rfl | rfl | rfl | rfl <;> decide
      unfold xf_Law_run
      rw [if_pos key.1, if_neg key.2.1, key.2.2.1, if_pos rfl, key.2.2.2, hlt v h4, e1, rb_b1_some]
    · rw [if_neg (by omega)] at hT
      rw [if_neg c0, if_neg c1]
      match T, st, h, hx, hl with
      | [], _, _, _, _ => simp at hT
      | a :: s, x :: xs, h, hx, hl =>
        simp only [List.length_cons] at hl
        obtain ⟨σ1, f1, f2, f3⟩ := sx_pop hx (by omega)
        by_cases c9 : c = 9
        · subst c9
          have e : sp_cx (9, v) = -20 := rfl
          simp only [if_true] at hT ⊢
          obtain ⟨σ', e1, e2, e3⟩ := sx_push f2 (by omega) (1 - x)
          refine ⟨σ', ?_, e2, f3.tr e3⟩
          unfold xf_Law_run
          rw [e, if_pos (by decide), if_pos (by decide), if_pos rfl, f1, rb_b2_some, e1, rb_b1_some]
        · simp only [if_neg c9] at hT ⊢
          match s, xs, h, hx, hl, f1, f2, f3 with
          | [], _, _, _, _, _, _, _ => simp at hT
          | b :: r, y :: ys, h, hx, hl, f1, f2, f3 =>
            simp only [List.length_cons] at hl
            obtain ⟨σ2, g1, g2, g3⟩ := sx_pop f2 (by omega)
            have hab : sp_okv (decide (9 ≤ c)) x ∧ sp_okv (decide (9 ≤ c)) y := by
              have h5 := h.1
              have h6 := h.2.1
              simp only at hT
              by_cases c6 : c < 9
              · rw [decide_eq_false (by omega)]
                split at hT
                · split at hT
                  · rename_i q
                    rw [q.1] at h5
                    rw [q.2] at h6
                    exact ⟨h5, h6⟩
                  · cases hT
                · split at hT
                  · rename_i q
                    rw [q.1] at h5
                    rw [q.2] at h6
                    exact ⟨h5, h6⟩
                  · cases hT
              · rw [decide_eq_true (by omega)]
                rw [if_neg (by omega), if_neg c6] at hT
                split at hT
                · rename_i q
                  rw [q.1] at h5
                  rw [q.2] at h6
                  exact ⟨h5, h6⟩
                · cases hT
            obtain ⟨w, j1, j2⟩ := sx_joined (c := c) (by omega) c9 h1 hab.2 hab.1 σ2
            obtain ⟨σ', e1, e2, e3⟩ := sx_push g2 (by omega) (sp_bo c y x)
            refine ⟨σ', ?_, e2, (f3.tr g3).tr e3⟩
            have hcx : sp_cx (c, v) = sp_cx (c, 0) := by
              unfold sp_cx
              simp only [if_neg c0, if_neg c1]
            have hc : sp_cx (c, 0) < 0 ∧ sp_cx (c, 0) ≤ -11 ∧ sp_cx (c, 0) ≠ -20 := by
              have : c = 2 ∨ c = 3 ∨ c = 4 ∨ c = 5 ∨ c = 6 ∨ c = 7 ∨ c = 8 ∨ c = 10 ∨ c = 11 := by omega
              rcases this with rfl | rfl | rfl | rfl | rfl | rfl | rfl | rfl | rfl <;> decide
            unfold xf_Law_run
            rw [hcx, if_pos hc.1, if_pos hc.2.1, if_neg hc.2.2, f1, rb_b2_some, g1, rb_b2_some, j1, rb_b1_some, j2, e1, rb_b1_some]
end RBE
