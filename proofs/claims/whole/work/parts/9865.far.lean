/-! NEAREST, the reference: how far now, and behind a crossing -/
section AFF
variable {n : Nat} {who : Nat → Nat} {Df : (Nat → Nat) → Nat}
def rm_far (n : Nat) (Df : (Nat → Nat) → Nat) (τ : rb_St) : Prop := ∀ o, af_inj n o → Df o < 100000 ∧ τ.1 25 (sp_cno n o n) = nI (Df o)
theorem sm_far2 (h7 : n ≤ 7) (hw : ∀ i, i < n → who i < n) (x : Int32) : ∀ (f t : Nat) (τ : rb_St), t ≤ n → n - t < f → τ.1 0 22 = nI n → (∀ i, i < n → τ.1 17 i = nI (who i)) → (∀ i, i < t → τ.1 27 i = nI (who i)) → ∃ τ', xl_M_farNow_2 x f (nI t) τ = some τ' ∧ rm_dg n who τ' ∧ rb_fr (fun c _ => c = 27) τ τ' := by
  intro f
  induction f with
  | zero => intro t τ _ h; omega
  | succ f ih =>
    intro t τ ht hf h22 h17 h27
    have e0 : xl_M_farNow_2 x (f + 1) (nI t) τ = if (τ.1 0 22) ≤ nI t then some τ else if rb_ib (0 + nI t) 398 then if rb_ib (nI t) 7 then rb_lt (rb_sI τ 27 (nI t).toNatClampNeg (τ.1 17 (0 + nI t).toNatClampNeg)) (fun s4 => xl_M_farNow_2 x f (nI t + 1) s4) else none else none := rfl
    by_cases et : t = n
    · subst et
      exact ⟨τ, by rw [e0, h22, if_pos (nI_le (Nat.le_refl _) (by omega))], ⟨h22, fun i hi => ⟨hw i hi, h27 i hi⟩⟩, rb_fr.rf⟩
    · have htn : t < n := by omega
      obtain ⟨s, hs⟩ : ∃ s, s = rb_sI τ 27 t (nI (who t)) := ⟨_, rfl⟩
      have fs : rb_fr (fun c _ => c = 27) τ s := by rw [hs]; exact rb_fr.sI rfl
      obtain ⟨τ', a1, a2, a3⟩ := ih (t + 1) s (by omega) (by omega) (by rw [fs.1 0 22 (by omega)]; exact h22) (fun i hi => by rw [fs.1 17 i (by omega)]; exact h17 i hi) (fun i hi => by
        by_cases c : i = t
        · subst c; rw [hs, rb_sI_eq]
        · rw [hs, rb_sIg _ _ _ _ _ _ (by omega)]; exact h27 i (by omega))
      refine ⟨τ', ?_, a2, fs.tr a3⟩
      rw [e0, h22, if_neg (nI_ge htn (by omega)), Int32.zero_add, rb_ib_nI (by omega) (by decide), if_pos rfl, rb_ib_nI (by omega) (by decide), if_pos rfl, nI_clamp (by omega), h17 t htn, rb_lt_eq, ← hs, nI_1]
      exact a1
theorem sm_far0 {τ : rb_St} (h7 : n ≤ 7) (I : af_inj n who) (h22 : τ.1 0 22 = nI n) (h17 : ∀ i, i < n → τ.1 17 i = nI (who i)) (F : rm_far n Df τ) : ∃ τ', xf_M_farNow (-1) τ = some (nI (Df who), τ') ∧ rb_fr (fun c _ => c = 27) τ τ' := by
  obtain ⟨s6, a1, a2, a3⟩ := sm_far2 h7 I.1 (-1) rb_FU 0 τ (by omega) (by unfold rb_FU; omega) h22 h17 (fun i hi => by omega)
  have a1' : xl_M_farNow_2 (-1) rb_FU 0 τ = some s6 := a1
  have lt := sp_cno_lt2 (o := who) h7
  refine ⟨s6, ?_, a3⟩
  unfold xf_M_farNow
  rw [a1', rb_b1_some, if_pos rfl, sm_number h7 a2, rb_b1_some, rb_ib_nI lt (by decide), if_pos rfl, nI_clamp (by omega), a3.1 25 _ (by omega), (F who I).2]
theorem sm_farp {τ : rb_St} (h3 : 3 ≤ n) (h7 : n ≤ 7) (I : af_inj n who) {p : Nat} (hp : p < n) (I' : af_inj n (sp_sw n who p)) (h22 : τ.1 0 22 = nI n) (h17 : ∀ i, i < n → τ.1 17 i = nI (who i)) (F : rm_far n Df τ) : ∃ τ', xf_M_farNow (nI p) τ = some (nI (Df (sp_sw n who p)), τ') ∧ rb_fr (fun c _ => c = 27) τ τ' := by
  obtain ⟨s6, a1, a2, a3⟩ := sm_far2 h7 I.1 (nI p) rb_FU 0 τ (by omega) (by unfold rb_FU; omega) h22 h17 (fun i hi => by omega)
  have a1' : xl_M_farNow_2 (nI p) rb_FU 0 τ = some s6 := a1
  obtain ⟨s12, b1, b2, b3⟩ := sm_swapDg h3 h7 a2 hp
  have lt := sp_cno_lt2 (o := sp_sw n who p) h7
  refine ⟨s12, ?_, a3.tr b3⟩
  unfold xf_M_farNow
  rw [a1', rb_b1_some, if_neg (rb_neg1 (by omega)), b1, rb_b1_some, sm_number h7 b2, rb_b1_some, rb_ib_nI lt (by decide), if_pos rfl, nI_clamp (by omega), b3.1 25 _ (by omega), a3.1 25 _ (by omega), (F _ I').2]
end AFF
