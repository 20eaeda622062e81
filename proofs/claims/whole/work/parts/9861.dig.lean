/-! NEAREST, the reference: a number's digits -/
theorem sp_iv_le (n : Nat) (o : Nat → Nat) (i : Nat) : ∀ t, sp_iv n o i t ≤ t := by
  intro t
  induction t with
  | zero => exact Nat.le_refl 0
  | succ t ih =>
    show sp_iv n o i t + (if i + 1 + t < n ∧ o (i + 1 + t) < o i then 1 else 0) ≤ t + 1
    split <;> omega
theorem sp_cno_lt (n : Nat) (o : Nat → Nat) (h7 : n ≤ 7) : ∀ t, t ≤ n → sp_cno n o t < 7 ^ t := by
  intro t
  induction t with
  | zero => intro _; show 0 < 1; omega
  | succ t ih =>
    intro ht
    have a := ih (by omega)
    have b := sp_iv_le n o t (n - 1 - t)
    show sp_cno n o t * (n - t) + sp_iv n o t (n - 1 - t) < 7 ^ (t + 1)
    have : (sp_cno n o t + 1) * (n - t) ≤ 7 ^ t * 7 := Nat.mul_le_mul (by omega) (by omega)
    rw [Nat.add_mul, Nat.one_mul] at this
    rw [Nat.pow_succ]
    omega
theorem sm_dig9 {n : Nat} {o : Nat → Nat} (h7 : n ≤ 7) : ∀ (t f : Nat) (τ : rb_St), t ≤ n → t < f → τ.1 0 22 = nI n → ∃ τ', xl_M_digitsOf_9 f (nI (sp_cno n o t)) (nI t - 1) τ = some τ' ∧ (∀ i, i < t → τ'.1 27 i = nI (sp_iv n o i (n - 1 - i))) ∧ (∀ i, t ≤ i → τ'.1 27 i = τ.1 27 i) ∧ rb_fr (fun c _ => c = 27) τ τ' := by
  intro t
  induction t with
  | zero =>
    intro f τ _ hf h22
    obtain ⟨f, rfl⟩ : ∃ q, f = q + 1 := ⟨f - 1, by omega⟩
    refine ⟨τ, ?_, fun i hi => by omega, fun i _ => rfl, rb_fr.rf⟩
    show (if nI 0 - 1 < 0 then some τ else _) = _
    rw [if_pos (by decide)]
  | succ t ih =>
    intro f τ ht hf h22
    obtain ⟨f, rfl⟩ : ∃ q, f = q + 1 := ⟨f - 1, by omega⟩
    have b := sp_iv_le n o t (n - 1 - t)
    have c7 := sp_cno_lt n o h7 (t + 1) ht
    have p7 : 7 ^ (t + 1) ≤ 7 ^ 7 := Nat.pow_le_pow_right (by omega) (by omega)
    have p7' : (7 : Nat) ^ 7 = 823543 := by decide
    have ec : sp_cno n o (t + 1) = sp_cno n o t * (n - t) + sp_iv n o t (n - 1 - t) := rfl
    have em : sp_cno n o (t + 1) % (n - t) = sp_iv n o t (n - 1 - t) := by
      rw [ec, Nat.mul_comm, Nat.mul_add_mod]; exact Nat.mod_eq_of_lt (by omega)
    have ed : sp_cno n o (t + 1) / (n - t) = sp_cno n o t := by
      rw [ec, Nat.mul_comm, Nat.mul_add_div (by omega), Nat.div_eq_of_lt (by omega), Nat.add_zero]
    obtain ⟨s4, hs4⟩ : ∃ s, s = rb_sI τ 27 t (nI (sp_iv n o t (n - 1 - t))) := ⟨_, rfl⟩
    have n4 : s4.1 0 22 = nI n := by rw [hs4, rb_sIg _ _ _ _ _ _ (by omega)]; exact h22
    obtain ⟨τ', a1, a2, a3, a4⟩ := ih f s4 (by omega) (by omega) n4
    refine ⟨τ', ?_, fun i hi => ?_, fun i hi => ?_, ?_⟩
    · have e0 : ∀ (x2 x3 : Int32), xl_M_digitsOf_9 (f + 1) x2 x3 τ = if x3 < 0 then some τ else if ((τ.1 0 22) - x3) = 0 then none else if rb_ib x3 7 then rb_lt (rb_sI τ 27 x3.toNatClampNeg (x2 - x2 / ((τ.1 0 22) - x3) * ((τ.1 0 22) - x3))) (fun s4 => if ((s4.1 0 22) - x3) = 0 then none else xl_M_digitsOf_9 f (x2 / ((s4.1 0 22) - x3)) (x3 + (-1)) s4) else none := fun _ _ => rfl
      rw [e0, nI_pred, if_neg (nI_pos (by omega)), h22, pk_sub (by omega), if_neg (nI_ne0 (by omega) (by omega)), rb_ib_nI (by omega) (by decide), if_pos rfl, nI_clamp (by omega), pk_rem (by omega) (by omega) (by omega), em, rb_lt_eq, ← hs4, n4, pk_sub (by omega), if_neg (nI_ne0 (by omega) (by omega)), pk_div (by omega) (by omega) (by omega), ed, ← Int32.sub_eq_add_neg]
      exact a1
    · by_cases c : i = t
      · subst c; rw [a3 i (Nat.le_refl _), hs4, rb_sI_eq]
      · exact a2 i (by omega)
    · rw [a3 i (by omega), hs4, rb_sIg _ _ _ _ _ _ (by omega)]
    · have : rb_fr (fun c _ => c = 27) τ s4 := by rw [hs4]; exact rb_fr.sI rfl
      exact this.tr a4
