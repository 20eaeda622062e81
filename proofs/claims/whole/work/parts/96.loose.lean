/-! LETTERS THAT COULD BE THE LAST, THE FIRST -/
def sp_ls (n : Nat) (cr : Nat → Nat → Nat) (m i : Nat) : Prop := ∀ k, i < k → k < m → sp_tb n (cr k 0 / 2) (cr i 0 / 2) = false
def sp_fs (n : Nat) (cr : Nat → Nat → Nat) (i : Nat) : Prop := ∀ k, k < i → sp_tb n (cr k 0 / 2) (cr i 0 / 2) = false
/-- S is the set of the letters of those that P picks -/
def sp_set (cr : Nat → Nat → Nat) (m : Nat) (P : Nat → Prop) (S : Nat) : Prop := S < 2 ^ 16 ∧ ∀ l, S.testBit l = true ↔ ∃ i, i < m ∧ P i ∧ cr i 0 = l
theorem sp_set_eq {cr : Nat → Nat → Nat} {m : Nat} {P : Nat → Prop} {S T : Nat} (h1 : sp_set cr m P S) (h2 : sp_set cr m P T) : S = T := by
  apply Nat.eq_of_testBit_eq
  intro l
  rw [Bool.eq_iff_iff, h1.2 l, h2.2 l]
theorem rb_2pow_lt : ∀ l, l < 16 → 2 ^ l < 2 ^ 16 := by decide
section RBQ
variable {n m k : Nat} {cr : Nat → Nat → Nat} {σ : rb_St}
theorem rb_orlt {a b w : Nat} (ha : a < 2 ^ w) (hb : b < 2 ^ w) : a ||| b < 2 ^ w := Nat.or_lt_two_pow ha hb
/-- the places near which something of [lo, hi) lies -/
def sp_bar (n : Nat) (cr : Nat → Nat → Nat) (lo hi : Nat) (B : Nat) : Prop := B < 2 ^ 8 ∧ ∀ q, q < n → (B.testBit q = true ↔ ∃ i, lo ≤ i ∧ i < hi ∧ sp_tb n (cr i 0 / 2) q = true)
theorem sp_bar_dn (W : rb_wfc n m cr) {lo hi B : Nat} (hh : hi ≤ m) (hl : lo < hi) (h : sp_bar n cr (lo + 1) hi B) : sp_bar n cr lo hi (B ||| sp_nr n (cr lo 0 / 2)) := by
  have w1 := W.1
  have a := (W.2.2 lo (by omega)).1
  refine ⟨rb_orlt h.1 (sp_nr_lt n (by omega) _ (by omega)), fun q hq => ?_⟩
  rw [Nat.testBit_or, Bool.or_eq_true, h.2 q hq, sp_nr_bit n (by omega) _ (by omega) q hq, sp_tb_comm]
  constructor
  · rintro (⟨i, h1, h2, h3⟩ | h3)
    · exact ⟨i, by omega, h2, h3⟩
    · exact ⟨lo, Nat.le_refl _, hl, h3⟩
  · rintro ⟨i, h1, h2, h3⟩
    by_cases e : i = lo
    · subst e; exact Or.inr h3
    · exact Or.inl ⟨i, by omega, h2, h3⟩
theorem sp_bar_up (W : rb_wfc n m cr) {lo hi B : Nat} (hh : hi < m) (hl : lo ≤ hi) (h : sp_bar n cr lo hi B) : sp_bar n cr lo (hi + 1) (B ||| sp_nr n (cr hi 0 / 2)) := by
  have w1 := W.1
  have a := (W.2.2 hi (by omega)).1
  refine ⟨rb_orlt h.1 (sp_nr_lt n (by omega) _ (by omega)), fun q hq => ?_⟩
  rw [Nat.testBit_or, Bool.or_eq_true, h.2 q hq, sp_nr_bit n (by omega) _ (by omega) q hq, sp_tb_comm]
  constructor
  · rintro (⟨i, h1, h2, h3⟩ | h3)
    · exact ⟨i, h1, by omega, h3⟩
    · exact ⟨hi, hl, by omega, h3⟩
  · rintro ⟨i, h1, h2, h3⟩
    by_cases e : i = hi
    · subst e; exact Or.inr h3
    · exact Or.inl ⟨i, h1, by omega, h3⟩
theorem sp_bar_0 (lo : Nat) : sp_bar n cr lo lo 0 := ⟨by decide, fun q _ => by
  rw [Nat.zero_testBit]
  constructor
  · intro h; cases h
  · rintro ⟨i, h1, h2, _⟩; omega⟩
theorem sp_set_or {P : Nat → Prop} {Q : Nat → Prop} {S a : Nat} (ha : cr a 0 < 16) (h : sp_set cr m P S) (ham : a < m) (hQ : ∀ i, i < m → (Q i ↔ P i ∨ i = a)) : sp_set cr m Q (S ||| 2 ^ cr a 0) := by
  refine ⟨rb_orlt h.1 (rb_2pow_lt _ ha), fun l => ?_⟩
  rw [Nat.testBit_or, Bool.or_eq_true, h.2 l, Nat.testBit_two_pow]
  constructor
  · rintro (⟨i, h1, h2, h3⟩ | h3)
    · exact ⟨i, h1, (hQ i h1).mpr (Or.inl h2), h3⟩
    · exact ⟨a, ham, (hQ a ham).mpr (Or.inr rfl), of_decide_eq_true h3⟩
  · rintro ⟨i, h1, h2, h3⟩
    rcases (hQ i h1).mp h2 with h4 | h4
    · exact Or.inl ⟨i, h1, h4, h3⟩
    · subst h4; exact Or.inr (decide_eq_true h3)
theorem sp_set_id {P : Nat → Prop} {Q : Nat → Prop} {S : Nat} (h : sp_set cr m P S) (hQ : ∀ i, i < m → (Q i ↔ P i)) : sp_set cr m Q S := ⟨h.1, fun l => by
  rw [h.2 l]
  constructor
  · rintro ⟨i, h1, h2, h3⟩; exact ⟨i, h1, (hQ i h1).mpr h2, h3⟩
  · rintro ⟨i, h1, h2, h3⟩; exact ⟨i, h1, (hQ i h1).mp h2, h3⟩⟩
theorem sp_set_0 {P : Nat → Prop} (h : ∀ i, i < m → ¬ P i) : sp_set cr m P 0 := ⟨by decide, fun l => by
  rw [Nat.zero_testBit]
  constructor
  · intro h; cases h
  · rintro ⟨i, h1, h2, _⟩; exact absurd h2 (h i h1)⟩
theorem rb_barbit (W : rb_wfc n m cr) {lo hi B j : Nat} (hj : j < m) (h : sp_bar n cr lo hi B) : ((nI B >>> (nI (cr j 0 / 2) &&& 31)) &&& 1 = 0) ↔ ∀ i, lo ≤ i → i < hi → sp_tb n (cr i 0 / 2) (cr j 0 / 2) = false := by
  have w1 := W.1
  have a := (W.2.2 j hj).1
  have hB := h.1
  rw [rb_bit0 (by omega) (by omega)]
  constructor
  · intro h1 i h2 h3
    rw [Bool.eq_false_iff] at h1 ⊢
    exact fun h4 => h1 ((h.2 _ (by omega)).mpr ⟨i, h2, h3, h4⟩)
  · intro h1
    rw [Bool.eq_false_iff]
    intro h4
    obtain ⟨i, h2, h3, h5⟩ := (h.2 _ (by omega)).mp h4
    rw [h1 i h2 h3] at h5
    cases h5
theorem sx_loose1 (W : rb_wfc n m cr) (h : rx_cr k m cr σ) (hpl : σ.1 k 0 = nI n) : ∀ (j f B S : Nat), j ≤ m → j < f → sp_bar n cr j m B → sp_set cr m (fun i => j ≤ i ∧ sp_ls n cr m i) S → ∃ S', xl_Pole_looseLetters_11 k σ f (nI B) (nI S) (nI j - 1) = some (nI S') ∧ sp_set cr m (sp_ls n cr m) S' := by
  intro j
  induction j with
  | zero =>
    intro f B S _ hf _ hS
    obtain ⟨f, rfl⟩ : ∃ q, f = q + 1 := ⟨f - 1, by omega⟩
    refine ⟨S, ?_, sp_set_id hS (fun i hi => ⟨fun w => ⟨Nat.zero_le i, w⟩, fun w => w.2⟩)⟩
    show (if nI 0 - 1 < 0 then some (nI S) else _) = _
    rw [if_pos (by decide)]
  | succ j ih =>
    intro f B S hj hf hB hS
    obtain ⟨f, rfl⟩ : ∃ q, f = q + 1 := ⟨f - 1, by omega⟩
    have w1 := W.1
    have hm := W.2.1
    have hjm : j < m := by omega
    obtain ⟨f0, f1, f2, f3, f4, f5, f6⟩ := rx_f W h hjm
    have a := (W.2.2 j hjm).1
    have hB2 := sp_bar_dn W (Nat.le_refl m) hjm hB
    rw [nI_pred]
    show ∃ S', (if nI j < 0 then _ else if rb_ib (nI j) 48 then rb_lt (xf_Pole_placeIn (σ.1 (k + 3) (nI j).toNatClampNeg) σ) (fun v3 => if ((nI B >>> (v3 &&& 31)) &&& 1) = 0 then rb_lt (nI S ||| (1 <<< ((xf_Pole_letterIn (σ.1 (k + 3) (nI j).toNatClampNeg) σ) &&& 31))) (fun v8 => rb_lt (nI B ||| (xf_Pole_nearOf k v3 σ)) (fun v10 => xl_Pole_looseLetters_11 k σ f v10 v8 (nI j + (-1)))) else rb_lt (nI B ||| (xf_Pole_nearOf k v3 σ)) (fun v6 => xl_Pole_looseLetters_11 k σ f v6 (nI S) (nI j + (-1)))) else none) = some (nI S') ∧ _
    rw [if_neg (nI_pos (by omega)), f0, if_pos rfl, f6, rb_lt_eq, f1, rb_1l (by omega), rb_or, sx_nearOf (by omega) hpl (by omega), rb_or, rb_lt_eq, rb_lt_eq, rb_lt_eq, rb_m1]
    by_cases hc : sp_ls n cr m j
    · rw [if_pos ((rb_barbit W hjm hB).mpr (fun i h1 h2 => hc i (by omega) h2))]
      exact ih f _ _ (by omega) (by omega) hB2 (sp_set_or (by omega) hS hjm (fun i hi => ⟨fun w => by
        by_cases e : i = j
        · exact Or.inr e
        · exact Or.inl ⟨by omega, w.2⟩, fun w => by
        rcases w with w | w
        · exact ⟨by omega, w.2⟩
        · subst w; exact ⟨Nat.le_refl _, hc⟩⟩))
    · rw [if_neg (fun e => hc (fun i h1 h2 => (rb_barbit W hjm hB).mp e i (by omega) h2))]
      exact ih f _ _ (by omega) (by omega) hB2 (sp_set_id hS (fun i hi => ⟨fun w => by
        by_cases e : i = j
        · subst e; exact absurd w.2 hc
        · exact ⟨by omega, w.2⟩, fun w => ⟨by omega, w.2⟩⟩))
theorem sx_loose (W : rb_wfc n m cr) (h : rx_cr k m cr σ) (hpl : σ.1 k 0 = nI n) : ∃ S, xf_Pole_looseLetters k σ = some (nI S) ∧ sp_set cr m (sp_ls n cr m) S := by
  have hm := W.2.1
  obtain ⟨S, e, hS⟩ := sx_loose1 W h hpl m rb_FU 0 0 (Nat.le_refl m) (by unfold rb_FU; omega) (sp_bar_0 m) (sp_set_0 (fun i hi w => absurd w.1 (by omega)))
  refine ⟨S, ?_, hS⟩
  unfold xf_Pole_looseLetters
  rw [h.1, show xl_Pole_looseLetters_11 k σ rb_FU 0 0 (nI m - 1) = some (nI S) from e, rb_b1_some]
theorem sx_first1 (W : rb_wfc n m cr) (h : rx_cr k m cr σ) (hpl : σ.1 k 0 = nI n) : ∀ (f j B S : Nat), j ≤ m → m - j < f → sp_bar n cr 0 j B → sp_set cr m (fun i => i < j ∧ sp_fs n cr i) S → ∃ S', xl_Pole_firstLetters_6 k σ f (nI B) (nI S) (nI j) = some (nI S') ∧ sp_set cr m (sp_fs n cr) S' := by
  have w1 := W.1
  have hm := W.2.1
  intro f
  induction f with
  | zero => intro j B S _ hf; omega
  | succ f ih =>
    intro j B S hj hf hB hS
    by_cases ej : j = m
    · subst ej
      refine ⟨S, ?_, sp_set_id hS (fun i hi => ⟨fun w => ⟨hi, w⟩, fun w => w.2⟩)⟩
      show (if σ.1 k 1 ≤ nI j then some (nI S) else _) = _
      rw [h.1, if_pos (nI_le (Nat.le_refl _) (by omega))]
    · have hjm : j < m := by omega
      obtain ⟨f0, f1, f2, f3, f4, f5, f6⟩ := rx_f W h hjm
      have a := (W.2.2 j hjm).1
      have hB2 := sp_bar_up W hjm (Nat.zero_le j) hB
      show ∃ S', (if σ.1 k 1 ≤ nI j then _ else if rb_ib (nI j) 48 then rb_lt (xf_Pole_placeIn (σ.1 (k + 3) (nI j).toNatClampNeg) σ) (fun v3 => if ((nI B >>> (v3 &&& 31)) &&& 1) = 0 then rb_lt (nI S ||| (1 <<< ((xf_Pole_letterIn (σ.1 (k + 3) (nI j).toNatClampNeg) σ) &&& 31))) (fun v8 => rb_lt (nI B ||| (xf_Pole_nearOf k v3 σ)) (fun v10 => xl_Pole_firstLetters_6 k σ f v10 v8 (nI j + 1))) else rb_lt (nI B ||| (xf_Pole_nearOf k v3 σ)) (fun v6 => xl_Pole_firstLetters_6 k σ f v6 (nI S) (nI j + 1))) else none) = some (nI S') ∧ _
      rw [h.1, if_neg (nI_ge hjm (by omega)), f0, if_pos rfl, f6, rb_lt_eq, f1, rb_1l (by omega), rb_or, sx_nearOf (by omega) hpl (by omega), rb_or, rb_lt_eq, rb_lt_eq, rb_lt_eq, nI_1]
      by_cases hc : sp_fs n cr j
      · rw [if_pos ((rb_barbit W hjm hB).mpr (fun i h1 h2 => hc i h2))]
        exact ih (j + 1) _ _ (by omega) (by omega) hB2 (sp_set_or (by omega) hS hjm (fun i hi => ⟨fun w => by
          by_cases e : i = j
          · exact Or.inr e
          · exact Or.inl ⟨by omega, w.2⟩, fun w => by
          rcases w with w | w
          · exact ⟨by omega, w.2⟩
          · subst w; exact ⟨by omega, hc⟩⟩))
      · rw [if_neg (fun e => hc (fun i h1 => (rb_barbit W hjm hB).mp e i (Nat.zero_le i) h1))]
        exact ih (j + 1) _ _ (by omega) (by omega) hB2 (sp_set_id hS (fun i hi => ⟨fun w => by
          by_cases e : i = j
          · subst e; exact absurd w.2 hc
          · exact ⟨by omega, w.2⟩, fun w => ⟨by omega, w.2⟩⟩))
theorem sx_first (W : rb_wfc n m cr) (h : rx_cr k m cr σ) (hpl : σ.1 k 0 = nI n) : ∃ S, xf_Pole_firstLetters k σ = some (nI S) ∧ sp_set cr m (sp_fs n cr) S := by
  have hm := W.2.1
  obtain ⟨S, e, hS⟩ := sx_first1 W h hpl rb_FU 0 0 0 (Nat.zero_le m) (by unfold rb_FU; omega) (sp_bar_0 0) (sp_set_0 (fun i hi w => absurd w.1 (by omega)))
  refine ⟨S, ?_, hS⟩
  unfold xf_Pole_firstLetters
  rw [show xl_Pole_firstLetters_6 k σ rb_FU 0 0 0 = some (nI S) from e, rb_b1_some]
end RBQ
