/-! NEAREST, the reference: digitsOf gives the order back -/
def sp_R (n : Nat) (o : Nat → Nat) (t j : Nat) : Nat := (sp_rk n o t j).toNat
section AFD
variable {n : Nat} {o : Nat → Nat}
theorem sp_R_ok (t j : Nat) : (sp_R n o t j : Int) = sp_rk n o t j ∧ sp_R n o t j ≤ n := by
  have a : 0 ≤ sp_rk n o t j := af_s_nn n (fun k _ => by split <;> omega)
  have b : sp_rk n o t j ≤ n * 1 := af_s_le n (fun k _ => by split <;> omega)
  unfold sp_R
  omega
def sp_vl (n : Nat) (o : Nat → Nat) (t c j : Nat) : Nat := if j < t then sp_iv n o j (n - 1 - j) else if j = t then sp_R n o t t else if j < c then sp_R n o t j else sp_R n o (t + 1) j
theorem sm_dig58 (h7 : n ≤ 7) (I : af_inj n o) {t : Nat} (ht : t < n) : ∀ (f c : Nat) (τ : rb_St), t < c → c ≤ n → n - c < f → τ.1 0 22 = nI n → (∀ j, j < n → τ.1 27 j = nI (sp_vl n o t c j)) → ∃ τ', xl_M_digitsOf_58 (nI t) f (nI c) τ = some τ' ∧ (∀ j, j < n → τ'.1 27 j = nI (sp_vl n o t n j)) ∧ rb_fr (fun c _ => c = 27) τ τ' := by
  intro f
  induction f with
  | zero => intro c τ _ _ h; omega
  | succ f ih =>
    intro c τ hc hcn hf h22 hv
    have e0 : xl_M_digitsOf_58 (nI t) (f + 1) (nI c) τ = if (τ.1 0 22) ≤ nI c then some τ else if rb_ib (nI c) 7 then if rb_ib (nI t) 7 then if (τ.1 27 (nI c).toNatClampNeg) < (τ.1 27 (nI t).toNatClampNeg) then rb_lt (rb_sI τ 27 (nI c).toNatClampNeg ((τ.1 27 (nI c).toNatClampNeg) + 0)) (fun s14 => xl_M_digitsOf_58 (nI t) f (nI c + 1) s14) else rb_lt (rb_sI τ 27 (nI c).toNatClampNeg ((τ.1 27 (nI c).toNatClampNeg) + 1)) (fun s16 => xl_M_digitsOf_58 (nI t) f (nI c + 1) s16) else none else none := rfl
    by_cases ec : c = n
    · subst ec
      exact ⟨τ, by rw [e0, h22, if_pos (nI_le (Nat.le_refl _) (by omega))], hv, rb_fr.rf⟩
    · have hc' : c < n := by omega
      have v1 := hv c hc'
      have v2 := hv t ht
      have w1 : sp_vl n o t c c = sp_R n o (t + 1) c := by unfold sp_vl; rw [if_neg (by omega), if_neg (by omega), if_neg (by omega)]
      have w2 : sp_vl n o t c t = sp_R n o t t := by unfold sp_vl; rw [if_neg (by omega), if_pos rfl]
      rw [w1] at v1
      rw [w2] at v2
      obtain ⟨r1, r2⟩ := sp_R_ok (n := n) (o := o) (t + 1) c
      obtain ⟨r3, r4⟩ := sp_R_ok (n := n) (o := o) t t
      obtain ⟨r5, r6⟩ := sp_R_ok (n := n) (o := o) t c
      have st := sp_rk_step (o := o) (j := c) ht
      have one : ∃ v, (if nI (sp_R n o (t + 1) c) < nI (sp_R n o t t) then v = nI (sp_R n o (t + 1) c) + 0 else v = nI (sp_R n o (t + 1) c) + 1) ∧ v = nI (sp_R n o t c) := by
        by_cases q : o c < o t
        · have l := sp_rk_lt (n := n) hc' hc q
          rw [if_neg (show ¬ o t < o c by omega)] at st
          refine ⟨nI (sp_R n o t c), ?_, rfl⟩
          rw [if_pos (nI_lt (by omega) (by omega)), Int32.add_zero]; congr 1; omega
        · have ne : o t ≠ o c := fun w => by have := I.2 t c ht hc' w; omega
          have l := sp_rk_ge (n := n) (o := o) (t := t) (j := c) (by omega)
          rw [if_pos (show o t < o c by omega)] at st
          refine ⟨nI (sp_R n o t c), ?_, rfl⟩
          rw [if_neg (nI_nlt (by omega) (by omega)), nI_1]; congr 1; omega
      obtain ⟨v, o1, o2⟩ := one
      obtain ⟨s, hs⟩ : ∃ s, s = rb_sI τ 27 c (nI (sp_R n o t c)) := ⟨_, rfl⟩
      have fs : rb_fr (fun c _ => c = 27) τ s := by rw [hs]; exact rb_fr.sI rfl
      obtain ⟨τ', a1, a2, a3⟩ := ih (c + 1) s (by omega) (by omega) (by omega) (by rw [fs.1 0 22 (by omega)]; exact h22) (fun j hj => by
        by_cases q : j = c
        · subst q
          rw [hs, rb_sI_eq]
          unfold sp_vl
          rw [if_neg (by omega), if_neg (by omega), if_pos (by omega)]
        · rw [hs, rb_sIg _ _ _ _ _ _ (by omega), hv j hj]
          unfold sp_vl
          by_cases q1 : j < t
          · rw [if_pos q1, if_pos q1]
          · rw [if_neg q1, if_neg q1]
            by_cases q2 : j = t
            · rw [if_pos q2, if_pos q2]
            · rw [if_neg q2, if_neg q2]
              by_cases q3 : j < c
              · rw [if_pos q3, if_pos (by omega)]
              · rw [if_neg q3, if_neg (by omega)])
      refine ⟨τ', ?_, a2, fs.tr a3⟩
      rw [e0, h22, if_neg (nI_ge hc' (by omega)), rb_ib_nI (by omega) (by decide), if_pos rfl, rb_ib_nI (by omega) (by decide), if_pos rfl, nI_clamp (by omega), nI_clamp (by omega), v1, v2, nI_1 c]
      by_cases q : nI (sp_R n o (t + 1) c) < nI (sp_R n o t t)
      · rw [if_pos q] at o1 ⊢
        rw [← o1, o2, rb_lt_eq, ← hs]; exact a1
      · rw [if_neg q] at o1 ⊢
        rw [← o1, o2, rb_lt_eq, ← hs]; exact a1
theorem sm_dig49 (h7 : n ≤ 7) (I : af_inj n o) : ∀ (t f : Nat) (τ : rb_St), t ≤ n → t < f → τ.1 0 22 = nI n → (∀ j, j < n → τ.1 27 j = nI (if j < t then sp_iv n o j (n - 1 - j) else sp_R n o t j)) → ∃ τ', xl_M_digitsOf_49 f (nI t - 1) τ = some τ' ∧ (∀ j, j < n → τ'.1 27 j = nI (sp_R n o 0 j)) ∧ rb_fr (fun c _ => c = 27) τ τ' := by
  intro t
  induction t with
  | zero =>
    intro f τ _ hf h22 hv
    obtain ⟨f, rfl⟩ : ∃ q, f = q + 1 := ⟨f - 1, by omega⟩
    refine ⟨τ, ?_, fun j hj => by rw [hv j hj, if_neg (by omega)], rb_fr.rf⟩
    show (if nI 0 - 1 < 0 then some τ else _) = _
    rw [if_pos (by decide)]
  | succ t ih =>
    intro f τ ht hf h22 hv
    obtain ⟨f, rfl⟩ : ∃ q, f = q + 1 := ⟨f - 1, by omega⟩
    obtain ⟨s, a1, a2, a3⟩ := sm_dig58 h7 I (show t < n by omega) rb_FU (t + 1) τ (by omega) (by omega) (by unfold rb_FU; omega) h22 (fun j hj => by
      rw [hv j hj]
      unfold sp_vl
      by_cases q1 : j < t
      · rw [if_pos (by omega), if_pos q1]
      · rw [if_neg q1]
        by_cases q2 : j = t
        · subst q2
          rw [if_pos (by omega), if_pos rfl]
          have := sp_iv_rk (n := n) (o := o) hj
          have := (sp_R_ok (n := n) (o := o) j j).1
          congr 1; omega
        · rw [if_neg q2, if_neg (by omega), if_neg (by omega)])
    obtain ⟨τ', b1, b2, b3⟩ := ih f s (by omega) (by omega) (by rw [a3.1 0 22 (by omega)]; exact h22) (fun j hj => by
      rw [a2 j hj]
      unfold sp_vl
      by_cases q1 : j < t
      · rw [if_pos q1, if_pos q1]
      · rw [if_neg q1, if_neg q1]
        by_cases q2 : j = t
        · rw [if_pos q2, q2]
        · rw [if_neg q2, if_pos hj])
    refine ⟨τ', ?_, b2, a3.tr b3⟩
    have e0 : ∀ x3 : Int32, xl_M_digitsOf_49 (f + 1) x3 τ = if x3 < 0 then some τ else rb_b1 (xl_M_digitsOf_58 x3 rb_FU (x3 + 1) τ) fun s18 => xl_M_digitsOf_49 f (x3 + (-1)) s18 := fun _ => rfl
    rw [e0, nI_pred, if_neg (nI_pos (by omega)), nI_1, a1, rb_b1_some, ← Int32.sub_eq_add_neg]
    exact b1
theorem sm_digits {τ : rb_St} (h3 : 3 ≤ n) (h7 : n ≤ 7) (I : af_inj n o) (h22 : τ.1 0 22 = nI n) : ∃ τ', xf_M_digitsOf (nI (sp_cno n o n)) τ = some τ' ∧ rm_dg n o τ' ∧ rb_fr (fun c _ => c = 27) τ τ' := by
  obtain ⟨s7, a1, a2, a3, a4⟩ := sm_dig9 (o := o) h7 n rb_FU τ (Nat.le_refl _) (by unfold rb_FU; omega) h22
  have h22' : s7.1 0 22 = nI n := by rw [a4.1 0 22 (by omega)]; exact h22
  obtain ⟨τ', b1, b2, b3⟩ := sm_dig49 h7 I n rb_FU s7 (Nat.le_refl _) (by unfold rb_FU; omega) h22' (fun j hj => by rw [if_pos hj]; exact a2 j hj)
  refine ⟨τ', ?_, ⟨by rw [b3.1 0 22 (by omega)]; exact h22', fun i hi => ⟨I.1 i hi, ?_⟩⟩, a4.tr b3⟩
  · unfold xf_M_digitsOf
    rw [h22, a1, rb_b1_some, h22', b1, rb_b1_some]
  · rw [b2 i hi]
    have := sp_rk_all I hi
    have := (sp_R_ok (n := n) (o := o) 0 i).1
    congr 1; omega
end AFD
