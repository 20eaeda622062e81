/-! A CROSSING IS DANCED: what stands then -/
def pw (n : Nat) (wh ln : Nat → Nat) (m : Nat) (cr : Nat → Nat → Nat) : Prop := rb_wfw n wh ln ∧ (∀ d, d < n → ∃ p, p < n ∧ wh p = d) ∧ rb_wfc n m cr ∧ rb_lyr n m cr ∧ ∀ i, i < m → cr i 1 ≠ cr i 2 ∧ cr i 3 ≤ 9
def mvm (n m : Nat) (cr : Nat → Nat → Nat) (l : Nat) : Nat := if sp_un n cr l m = 0 then m + 1 else m - 1
def mvc (n : Nat) (wh : Nat → Nat) (m : Nat) (cr : Nat → Nat → Nat) (l t : Nat) : Nat → Nat → Nat := if sp_un n cr l m = 0 then sp_ad cr m l (sp_ov n wh l) (sp_ov n wh (l ^^^ 1)) t (sp_ly n cr (l / 2) m + 1) else sp_rm cr (sp_un n cr l m - 1)
/-- what hinders a crossing that undoes none: 2 too short, 3 full -/
def sp_hi (n : Nat) (wh ln : Nat → Nat) (m : Nat) (cr : Nat → Nat → Nat) (l t : Nat) : Nat := if nI (ln (sp_ov n wh l)) - nI (sp_ta cr (sp_ov n wh l) m) < nI t then 2 else if nI t ≤ nI (ln (sp_ov n wh (l ^^^ 1))) - nI (sp_ta cr (sp_ov n wh (l ^^^ 1)) m) then (if m < 40 then 0 else 3) else 2
def sp_hd (n : Nat) (wh ln : Nat → Nat) (m : Nat) (cr : Nat → Nat → Nat) (l t : Nat) : Nat := if sp_un n cr l m = 0 then sp_hi n wh ln m cr l t else 0
theorem sp_hi_c (n : Nat) (wh ln : Nat → Nat) (m : Nat) (cr : Nat → Nat → Nat) (l t : Nat) : sp_hi n wh ln m cr l t = 0 ∨ sp_hi n wh ln m cr l t = 2 ∨ sp_hi n wh ln m cr l t = 3 := by
  unfold sp_hi
  split
  · exact Or.inr (Or.inl rfl)
  · split
    · split
      · exact Or.inl rfl
      · exact Or.inr (Or.inr rfl)
    · exact Or.inr (Or.inl rfl)
theorem sp_hi_0 {n : Nat} {wh ln : Nat → Nat} {m : Nat} {cr : Nat → Nat → Nat} {l t : Nat} (h : sp_hi n wh ln m cr l t = 0) : m < 40 := by
  unfold sp_hi at h
  split at h
  · omega
  · split at h
    · split at h
      · assumption
      · omega
    · omega
section RBM
variable {n lc ho m k be l t : Nat} {ru tr wh ln : Nat → Nat} {La : Nat → List sp_Cl} {cr : Nat → Nat → Nat} {σ τ : rb_St}
theorem sp_nx_ne : ∀ n, n < 8 → 3 ≤ n → ∀ p, p < n → sp_nx n p ≠ p := by decide +kernel
theorem sp_half (l : Nat) : (l ^^^ 1) / 2 = l / 2 := by
  have : (l ^^^ 1) >>> 1 = l >>> 1 := by
    rw [Nat.shiftRight_xor_distrib]
    show l >>> 1 ^^^ 0 = _
    exact Nat.xor_zero _
  simpa [Nat.shiftRight_eq_div_pow] using this
theorem sp_par : ∀ l, l < 16 → (l ^^^ 1) % 2 = 1 - l % 2 := by decide
theorem sp_ov_ne (V : rb_wfw n wh ln) (hn : 3 ≤ n) (hl : l < 2 * n) : sp_ov n wh l ≠ sp_ov n wh (l ^^^ 1) := by
  have h8 := V.1
  have l1 := sp_nx_lt n h8 (l / 2) (by omega)
  have ne := sp_nx_ne n h8 hn (l / 2) (by omega)
  unfold sp_ov
  rw [sp_half, sp_par l (by omega)]
  by_cases h : l % 2 = 0
  · rw [if_pos h, if_neg (by omega)]
    exact fun e => ne (V.2.2.2 _ _ (by omega) l1 e).symm
  · rw [if_neg h, if_pos (by omega)]
    exact fun e => ne (V.2.2.2 _ _ l1 (by omega) e)
theorem sp_sw_su (V : rb_wfw n wh ln) (h : ∀ d, d < n → ∃ p, p < n ∧ wh p = d) {p : Nat} (hp : p < n) : ∀ d, d < n → ∃ q, q < n ∧ sp_sw n wh p q = d := by
  intro d hd
  have l1 := sp_nx_lt n V.1 p hp
  obtain ⟨q, hq, e⟩ := h d hd
  unfold sp_sw
  by_cases h1 : q = p
  · refine ⟨sp_nx n p, l1, ?_⟩
    rw [if_pos rfl, ← h1, e]
  · by_cases h2 : q = sp_nx n p
    · by_cases h3 : p = sp_nx n p
      · exact ⟨p, hp, by rw [if_pos h3, ← e, h2, ← h3]⟩
      · exact ⟨p, hp, by rw [if_neg h3, if_pos rfl, ← h2, e]⟩
    · exact ⟨q, hq, by rw [if_neg h2, if_neg h1, e]⟩
theorem pw_put (P : pw n wh ln m cr) (hn : 3 ≤ n) (hl : l < 2 * n) (hm : m < 48) (ht : t ≤ 9) : pw n (sp_sw n wh (l / 2)) ln (m + 1) (sp_ad cr m l (sp_ov n wh l) (sp_ov n wh (l ^^^ 1)) t (sp_ly n cr (l / 2) m + 1)) := by
  obtain ⟨V, S, C, Y, D⟩ := P
  have l2 := sp_x1 n V.1 l hl
  have hy := rb_lyr_at Y (l / 2) (Nat.le_refl m)
  refine ⟨sp_sw_wf V (by omega), sp_sw_su V S (by omega), ⟨C.1, by omega, fun i hi => ?_⟩, rb_lyr_ad Y l _ _ t, fun i hi => ?_⟩
  · unfold sp_ad
    by_cases h : i = m
    · simp only [if_pos h]
      exact ⟨hl, sp_ov_lt V hl, sp_ov_lt V l2, by simp; omega, by simp; omega⟩
    · simp only [if_neg h]
      exact C.2.2 i (by omega)
  · unfold sp_ad
    by_cases h : i = m
    · simp only [if_pos h]
      exact ⟨sp_ov_ne V hn hl, by simp; omega⟩
    · simp only [if_neg h]
      exact D i (by omega)
theorem pw_out (P : pw n wh ln m cr) (hl : l < 2 * n) {i : Nat} (h : sp_un n cr l m = i + 1) : pw n (sp_sw n wh (l / 2)) ln (m - 1) (sp_rm cr i) := by
  obtain ⟨V, S, C, Y, D⟩ := P
  have h8 := V.1
  obtain ⟨a, b, c, d⟩ := sp_un_sp (by omega) h
  refine ⟨sp_sw_wf V (by omega), sp_sw_su V S (by omega), sp_rm_wf C i, rb_lyr_rm Y a d, fun j hj => ?_⟩
  unfold sp_rm
  by_cases h1 : j < i
  · simp only [if_pos h1]; exact D j (by omega)
  · simp only [if_neg h1]; exact D (j + 1) (by omega)
theorem pw_mv (P : pw n wh ln m cr) (hn : 3 ≤ n) (hl : l < 2 * n) (hm : m < 48 ∨ sp_un n cr l m ≠ 0) (ht : t ≤ 9) : pw n (sp_sw n wh (l / 2)) ln (mvm n m cr l) (mvc n wh m cr l t) := by
  unfold mvm mvc
  by_cases h : sp_un n cr l m = 0
  · rw [if_pos h, if_pos h]
    exact pw_put P hn hl (by omega) ht
  · rw [if_neg h, if_neg h]
    exact pw_out P hl (by omega)
theorem sx_hindrance (P : pw n wh ln m cr) (h : rx_wh k n wh ln σ) (hc : rx_cr k m cr σ) (hl : l < 2 * n) : xf_Pole_hindrance k (nI l) (nI t) σ = some (nI (sp_hi n wh ln m cr l t)) := by
  obtain ⟨V, S, C, Y, D⟩ := P
  have h8 := V.1
  have hm := C.2.1
  have l1 := sp_ov_lt V hl
  have l2 := sp_ov_lt V (sp_x1 n (by omega) l hl)
  unfold xf_Pole_hindrance sp_hi
  rw [sx_overBy V h hl, rb_b1_some, sx_leftOf V C h hc l1, rb_b1_some, sx_underBy V h hl, rb_b1_some, sx_leftOf V C h hc l2, rb_b1_some, hc.1, rb_l40]
  split
  · rfl
  · split
    · by_cases h4 : m < 40
      · rw [if_pos h4, if_pos (nI_lt h4 (by omega))]; rfl
      · rw [if_neg h4, if_neg (nI_nlt (by omega) (by omega))]; rfl
    · rfl
theorem sx_lt0 {j : Nat} (hj : j < 2 ^ 31) : (nI j - 1 < 0) = (j = 0) := by
  cases j with
  | zero => exact propext ⟨fun _ => rfl, fun _ => by decide⟩
  | succ j => rw [nI_pred]; exact propext ⟨fun h => absurd h (nI_pos (by omega)), fun h => by omega⟩
theorem sx_eqm1 {j : Nat} (hj : j < 2 ^ 31) : (nI j - 1 = -1) = (j = 0) := by
  cases j with
  | zero => exact propext ⟨fun _ => rfl, fun _ => by decide⟩
  | succ j => rw [nI_pred]; exact propext ⟨fun h => absurd h (rb_neg1 (by omega)), fun h => by omega⟩
theorem sp_un_le : sp_un n cr l m ≤ m := by
  unfold sp_un
  have := sp_la_le n cr (l / 2) m
  split
  · omega
  · split <;> omega
def sc_po (k : Nat) (c i : Nat) : Prop := (c = k ∧ i = 1) ∨ c = k + 1 ∨ c = k + 3
theorem sx_out (P : pw n wh ln m cr) (h : rx_wh k n wh ln σ) (hc : rx_cr k m cr σ) (hl : l < 2 * n) (hu : sp_un n cr l m ≠ 0) : ∃ σ', xf_Pole_takeOut k (nI (sp_un n cr l m) - 1) σ = some σ' ∧ rx_wh k n (sp_sw n wh (l / 2)) ln σ' ∧ rx_cr k (mvm n m cr l) (mvc n wh m cr l t) σ' ∧ rb_fr (sc_po k) σ σ' := by
  obtain ⟨V, S, C, Y, D⟩ := P
  have h8 := V.1
  obtain ⟨i, hi⟩ : ∃ i, sp_un n cr l m = i + 1 := ⟨sp_un n cr l m - 1, by omega⟩
  obtain ⟨a, b, c, d⟩ := sp_un_sp (by omega) hi
  obtain ⟨σ', e1, e2, e3, e4, e5, e6⟩ := sx_takeOut V C h hc a
  refine ⟨σ', by rw [hi, nI_pred]; exact e1, by rw [← c]; exact e2, ?_, ⟨fun cc j hj => ?_, e6⟩⟩
  · unfold mvm mvc
    rw [if_neg hu, if_neg hu, hi]
    exact e3
  · unfold sc_po at hj
    by_cases h1 : cc = k
    · subst h1; exact e4 j (by omega)
    · rw [e5 cc h1 (by omega) (by omega)]
theorem sx_in (P : pw n wh ln m cr) (h : rx_wh k n wh ln σ) (hc : rx_cr k m cr σ) (hl : l < 2 * n) (ht : t ≤ 9) (hm : m < 48) (hu : sp_un n cr l m = 0) : ∃ σ', xf_Pole_putIn k (nI l) (nI t) σ = some σ' ∧ rx_wh k n (sp_sw n wh (l / 2)) ln σ' ∧ rx_cr k (mvm n m cr l) (mvc n wh m cr l t) σ' ∧ rb_fr (sc_po k) σ σ' := by
  obtain ⟨V, S, C, Y, D⟩ := P
  have hy := rb_lyr_at Y (l / 2) (Nat.le_refl m)
  obtain ⟨σ', e1, e2, e3, e4, e5, e6⟩ := sx_putIn V C h hc (t := t) hl (by omega) hm (by omega)
  refine ⟨σ', e1, e2, ?_, ⟨fun cc j hj => ?_, e6⟩⟩
  · unfold mvm mvc
    rw [if_pos hu, if_pos hu]
    exact e3
  · unfold sc_po at hj
    by_cases h1 : cc = k
    · subst h1; exact e4 j (by omega)
    · rw [e5 cc h1 (by omega) (by omega)]
end RBM
