/-! NEAREST, the reference: the first place that comes nearer -/
section AFG
variable {n : Nat} {who : Nat → Nat} {Df : (Nat → Nat) → Nat}
theorem sm_near47 (h3 : 3 ≤ n) (h7 : n ≤ 7) (I : af_inj n who) (I' : ∀ p, p < n → af_inj n (sp_sw n who p)) {N : Nat} (hN : N < 100000) (x2 : Int32) : ∀ (t f : Nat) (y : Int32) (τ : rb_St), t ≤ n → t < f → τ.1 0 22 = nI n → (∀ i, i < n → τ.1 17 i = nI (who i)) → rm_far n Df τ → ((y = -1 ∧ ∀ p, t ≤ p → p < n → Df (sp_sw n who p) + 1 ≠ N) ∨ ∃ q, t ≤ q ∧ q < n ∧ y = nI q ∧ Df (sp_sw n who q) + 1 = N ∧ ∀ p, t ≤ p → p < q → Df (sp_sw n who p) + 1 ≠ N) → ∃ (z : Int32) (τ' : rb_St), xl_M_nearest_47 x2 (nI N) f y (nI t - 1) τ = some (z, τ') ∧ rb_fr (fun c _ => c = 27) τ τ' ∧ ((z = -1 ∧ ∀ p, p < n → Df (sp_sw n who p) + 1 ≠ N) ∨ ∃ q, q < n ∧ z = nI q ∧ Df (sp_sw n who q) + 1 = N ∧ ∀ p, p < q → Df (sp_sw n who p) + 1 ≠ N) := by
  intro t
  induction t with
  | zero =>
    intro f y τ _ hf h22 h17 F hy
    obtain ⟨f, rfl⟩ : ∃ q, f = q + 1 := ⟨f - 1, by omega⟩
    refine ⟨y, τ, ?_, rb_fr.rf, ?_⟩
    · show (if nI 0 - 1 < 0 then some (y, τ) else _) = _
      rw [if_pos (by decide)]
    · rcases hy with ⟨a, b⟩ | ⟨q, a, b, c, d, e⟩
      · exact Or.inl ⟨a, fun p hp => b p (by omega) hp⟩
      · exact Or.inr ⟨q, b, c, d, fun p hp => e p (by omega) hp⟩
  | succ t ih =>
    intro f y τ ht hf h22 h17 F hy
    obtain ⟨f, rfl⟩ : ∃ q, f = q + 1 := ⟨f - 1, by omega⟩
    have htn : t < n := by omega
    obtain ⟨s, a1, a2⟩ := sm_farp h3 h7 I htn (I' t htn) h22 h17 F
    have hD := (F _ (I' t htn)).1
    have e0 : ∀ x5 : Int32, xl_M_nearest_47 x2 (nI N) (f + 1) y x5 τ = if x5 < 0 then some (y, τ) else rb_b2 (xf_M_farNow x5 τ) fun r15 s13 => if r15 = (nI N - 1) then xl_M_nearest_47 x2 (nI N) f x5 (x5 + (-1)) s13 else xl_M_nearest_47 x2 (nI N) f y (x5 + (-1)) s13 := fun _ => rfl
    have hc : (nI (Df (sp_sw n who t)) = nI N - 1) ↔ Df (sp_sw n who t) + 1 = N := by
      by_cases z : N = 0
      · subst z
        constructor
        · intro w
          exact absurd w (rb_neg1 (by omega))
        · intro w; omega
      · obtain ⟨N, rfl⟩ : ∃ q, N = q + 1 := ⟨N - 1, by omega⟩
        rw [nI_pred, nI_eq (by omega) (by omega)]
        omega
    have F' : rm_far n Df s := fun o ho => ⟨(F o ho).1, (a2.1 25 _ (by omega)).trans (F o ho).2⟩
    have k22 : s.1 0 22 = nI n := (a2.1 0 22 (by omega)).trans h22
    have k17 : ∀ i, i < n → s.1 17 i = nI (who i) := fun i hi => (a2.1 17 i (by omega)).trans (h17 i hi)
    rw [e0, nI_pred, if_neg (nI_pos (by omega)), a1, rb_b2_some, ← Int32.sub_eq_add_neg]
    by_cases c : Df (sp_sw n who t) + 1 = N
    · rw [if_pos (hc.2 c)]
      obtain ⟨z, τ', b1, b2, b3⟩ := ih f (nI t) s (by omega) (by omega) k22 k17 F' (Or.inr ⟨t, Nat.le_refl _, htn, rfl, c, fun p p1 p2 => by omega⟩)
      exact ⟨z, τ', b1, a2.tr b2, b3⟩
    · rw [if_neg (fun w => c (hc.1 w))]
      obtain ⟨z, τ', b1, b2, b3⟩ := ih f y s (by omega) (by omega) k22 k17 F' (by
        rcases hy with ⟨a, b⟩ | ⟨q, a, b, d, e, g⟩
        · exact Or.inl ⟨a, fun p p1 p2 => by
            by_cases q : p = t
            · rw [q]; exact c
            · exact b p (by omega) p2⟩
        · exact Or.inr ⟨q, by omega, b, d, e, fun p p1 p2 => by
            by_cases r : p = t
            · rw [r]; exact c
            · exact g p (by omega) p2⟩)
      exact ⟨z, τ', b1, a2.tr b2, b3⟩
end AFG
