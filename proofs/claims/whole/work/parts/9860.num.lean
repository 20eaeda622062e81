/-! NEAREST, the reference: the number of an order, two digits changed -/
def sp_iv (n : Nat) (o : Nat → Nat) (i t : Nat) : Nat := rb_fo (fun k a => a + if i + 1 + k < n ∧ o (i + 1 + k) < o i then 1 else 0) 0 t
def sp_cno (n : Nat) (o : Nat → Nat) (t : Nat) : Nat := rb_fo (fun i a => a * (n - i) + sp_iv n o i (n - 1 - i)) 0 t
def rm_dg (n : Nat) (o : Nat → Nat) (τ : rb_St) : Prop := τ.1 0 22 = nI n ∧ ∀ i, i < n → o i < n ∧ τ.1 27 i = nI (o i)
section AFN
variable {n : Nat} {o : Nat → Nat} {τ : rb_St}
theorem sm_num19 (h7 : n ≤ 7) (R : rm_dg n o τ) {i : Nat} (hi : i < n) (x1 : Int32) : ∀ (f t : Nat), t ≤ n - 1 - i → n - 1 - i - t < f → xl_M_numberOf_19 x1 (nI i) τ f (nI (sp_iv n o i t)) (nI (i + 1 + t)) = some (nI (sp_iv n o i (n - 1 - i))) := by
  intro f
  induction f with
  | zero => intro t _ h; omega
  | succ f ih =>
    intro t ht hf
    have e0 : xl_M_numberOf_19 x1 (nI i) τ (f + 1) (nI (sp_iv n o i t)) (nI (i + 1 + t)) = if (τ.1 0 22) ≤ nI (i + 1 + t) then some (nI (sp_iv n o i t)) else if rb_ib (nI (i + 1 + t)) 7 then if rb_ib (nI i) 7 then if (τ.1 27 (nI i).toNatClampNeg) ≤ (τ.1 27 (nI (i + 1 + t)).toNatClampNeg) then xl_M_numberOf_19 x1 (nI i) τ f (nI (sp_iv n o i t) + 0) (nI (i + 1 + t) + 1) else xl_M_numberOf_19 x1 (nI i) τ f (nI (sp_iv n o i t) + 1) (nI (i + 1 + t) + 1) else none else none := rfl
    rw [e0, R.1]
    by_cases et : t = n - 1 - i
    · rw [if_pos (nI_le (by omega) (by omega)), et]
    · have htn : i + 1 + t < n := by omega
      obtain ⟨a1, a2⟩ := R.2 i hi
      obtain ⟨b1, b2⟩ := R.2 (i + 1 + t) htn
      rw [if_neg (nI_ge htn (by omega)), rb_ib_nI (by omega) (by decide), if_pos rfl, rb_ib_nI (by omega) (by decide), if_pos rfl, nI_clamp (by omega), nI_clamp (by omega), a2, b2, nI_1, nI_1, Int32.add_zero]
      have es : sp_iv n o i (t + 1) = sp_iv n o i t + if i + 1 + t < n ∧ o (i + 1 + t) < o i then 1 else 0 := rfl
      have := ih (t + 1) (by omega) (by omega)
      rw [es, show i + 1 + (t + 1) = i + 1 + t + 1 by omega] at this
      by_cases c : o i ≤ o (i + 1 + t)
      · rw [if_pos (nI_le c (by omega))]
        rw [if_neg (by omega), Nat.add_zero] at this
        exact this
      · rw [if_neg (nI_ge (by omega) (by omega))]
        rw [if_pos (by omega)] at this
        exact this
theorem sm_num4 (h7 : n ≤ 7) (R : rm_dg n o τ) : ∀ (f t : Nat), t ≤ n → n - t < f → xl_M_numberOf_4 τ f (nI (sp_cno n o t)) (nI t) = some (nI (sp_cno n o n)) := by
  intro f
  induction f with
  | zero => intro t _ h; omega
  | succ f ih =>
    intro t ht hf
    have e0 : xl_M_numberOf_4 τ (f + 1) (nI (sp_cno n o t)) (nI t) = if (τ.1 0 22) ≤ nI t then some (nI (sp_cno n o t)) else rb_b1 (xl_M_numberOf_19 (nI (sp_cno n o t)) (nI t) τ rb_FU 0 (nI t + 1)) fun y6 => xl_M_numberOf_4 τ f ((nI (sp_cno n o t) * ((τ.1 0 22) - nI t)) + y6) (nI t + 1) := rfl
    rw [e0, R.1]
    by_cases et : t = n
    · rw [if_pos (nI_le (by omega) (by omega)), et]
    · have htn : t < n := by omega
      have k := sm_num19 h7 R htn (nI (sp_cno n o t)) rb_FU 0 (by omega) (by unfold rb_FU; omega)
      have k' : xl_M_numberOf_19 (nI (sp_cno n o t)) (nI t) τ rb_FU 0 (nI (t + 1)) = some (nI (sp_iv n o t (n - 1 - t))) := k
      rw [if_neg (nI_ge htn (by omega)), nI_1, k', rb_b1_some, pk_sub (by omega), pk_mul, nI_add]
      exact ih (t + 1) (by omega) (by omega)
theorem sm_number (h7 : n ≤ 7) (R : rm_dg n o τ) : xf_M_numberOf τ = some (nI (sp_cno n o n)) := by
  have k := sm_num4 h7 R rb_FU 0 (by omega) (by unfold rb_FU; omega)
  have k' : xl_M_numberOf_4 τ rb_FU 0 0 = some (nI (sp_cno n o n)) := k
  unfold xf_M_numberOf
  rw [k', rb_b1_some]
theorem sm_swapDg (h3 : 3 ≤ n) (h7 : n ≤ 7) (R : rm_dg n o τ) {p : Nat} (hp : p < n) : ∃ τ', xf_M_swapDigits (nI p) τ = some τ' ∧ rm_dg n (sp_sw n o p) τ' ∧ rb_fr (fun c _ => c = 27) τ τ' := by
  have hnx : ∀ s : rb_St, s.1 0 22 = nI n → xf_M_nextPlace (nI p) s = some (nI (sp_nx n p)) := fun s h => sm_nextPlace (by omega) h hp
  have hu := sp_nx_lt n (by omega) p hp
  have hne := sp_nx_ne n (by omega) h3 p hp
  obtain ⟨s5, hs5⟩ : ∃ s, s = rb_sI τ 27 p (nI (o (sp_nx n p))) := ⟨_, rfl⟩
  have n5 : s5.1 0 22 = nI n := by rw [hs5, rb_sIg _ _ _ _ _ _ (by omega)]; exact R.1
  refine ⟨rb_sI s5 27 (sp_nx n p) (nI (o p)), ?_, ⟨?_, fun i hi => ?_⟩, ?_⟩
  · unfold xf_M_swapDigits
    rw [rb_ib_nI (by omega) (by decide), if_pos rfl, hnx τ R.1, rb_b1_some, rb_ib_nI (by omega) (by decide), if_pos rfl, nI_clamp (by omega), nI_clamp (by omega), (R.2 _ hu).2, rb_lt_eq, ← hs5, hnx s5 n5, rb_b1_some, rb_ib_nI (by omega) (by decide), if_pos rfl, nI_clamp (by omega), (R.2 p hp).2, rb_lt_eq]
  · rw [rb_sIg _ _ _ _ _ _ (by omega)]; exact n5
  · unfold sp_sw
    by_cases c1 : i = sp_nx n p
    · rw [if_pos c1, c1, rb_sI_eq]; exact ⟨(R.2 p hp).1, rfl⟩
    · rw [if_neg c1, rb_sIg _ _ _ _ _ _ (by omega)]
      by_cases c2 : i = p
      · rw [if_pos c2, c2, hs5, rb_sI_eq]; exact ⟨(R.2 _ hu).1, rfl⟩
      · rw [if_neg c2, hs5, rb_sIg _ _ _ _ _ _ (by omega)]; exact R.2 i hi
  · rw [hs5]
    exact (rb_fr.sI (ch := fun c _ => c = 27) (k := 27) rfl).sI' (k := 27) rfl
end AFN
