/-! NEAREST: the number of an order tells the order, and is less than 5040 -/
theorem sp_cno_inj {n : Nat} {o o' : Nat → Nat} (h3 : 3 ≤ n) (h7 : n ≤ 7) (I : af_inj n o) (I' : af_inj n o') (h : sp_cno n o n = sp_cno n o' n) : ∀ i, i < n → o i = o' i := by
  obtain ⟨τ, hτ⟩ : ∃ τ : rb_St, τ = rb_sI sp_s0 0 22 (nI n) := ⟨_, rfl⟩
  have h22 : τ.1 0 22 = nI n := by rw [hτ, rb_sI_eq]
  obtain ⟨a, a1, a2, -⟩ := sm_digits h3 h7 I h22
  obtain ⟨b, b1, b2, -⟩ := sm_digits h3 h7 I' h22
  rw [h, b1] at a1
  have e := Option.some.inj a1
  intro i hi
  have x := a2.2 i hi
  have y := b2.2 i hi
  rw [← e, y.2] at x
  exact ((nI_eq (by omega) (by omega)).mp x.2).symm
def sp_ff (n t : Nat) : Nat := rb_fo (fun i a => a * (n - i)) 1 t
theorem sp_ff_le : ∀ n, n < 8 → sp_ff n n ≤ 5040 := by decide
theorem sp_cno_lt2 {n : Nat} {o : Nat → Nat} (h7 : n ≤ 7) : sp_cno n o n < 5040 := by
  have k : ∀ t, t ≤ n → sp_cno n o t + 1 ≤ sp_ff n t := by
    intro t
    induction t with
    | zero => intro _; exact Nat.le_refl 1
    | succ t ih =>
      intro ht
      have a := ih (by omega)
      have b := sp_iv_le n o t (n - 1 - t)
      show sp_cno n o t * (n - t) + sp_iv n o t (n - 1 - t) + 1 ≤ sp_ff n t * (n - t)
      have : (sp_cno n o t + 1) * (n - t) ≤ sp_ff n t * (n - t) := Nat.mul_le_mul_right _ a
      rw [Nat.add_mul, Nat.one_mul] at this
      omega
  have := k n (Nat.le_refl _)
  have := sp_ff_le n (by omega)
  omega
theorem sp_cno_co {n : Nat} {o o' : Nat → Nat} (h : ∀ i, i < n → o i = o' i) : sp_cno n o n = sp_cno n o' n := by
  have iv : ∀ i, i < n → ∀ t, sp_iv n o i t = sp_iv n o' i t := by
    intro i hi t
    induction t with
    | zero => rfl
    | succ t ih =>
      show sp_iv n o i t + (if i + 1 + t < n ∧ o (i + 1 + t) < o i then 1 else 0) = sp_iv n o' i t + (if i + 1 + t < n ∧ o' (i + 1 + t) < o' i then 1 else 0)
      rw [ih]
      by_cases c : i + 1 + t < n
      · rw [h i hi, h _ c]
      · rw [if_neg (fun w => c w.1), if_neg (fun w => c w.1)]
  have k : ∀ t, t ≤ n → sp_cno n o t = sp_cno n o' t := by
    intro t
    induction t with
    | zero => intro _; rfl
    | succ t ih =>
      intro ht
      show sp_cno n o t * (n - t) + sp_iv n o t (n - 1 - t) = sp_cno n o' t * (n - t) + sp_iv n o' t (n - 1 - t)
      rw [ih (by omega), iv t (by omega)]
  exact k n (Nat.le_refl _)
