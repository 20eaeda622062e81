/-! THE SAME, IN THE REFERENCE -/
def sp_el (n : Nat) (cr : Nat → Nat → Nat) (i : Nat) : Nat → Bool
  | 0 => true
  | k + 1 => sp_el n cr i k && (decide (k ≤ i) || !sp_tb n (cr i 0 / 2) (cr k 0 / 2))
theorem sp_el_iff {n : Nat} {cr : Nat → Nat → Nat} {i : Nat} : ∀ m, sp_el n cr i m = true ↔ ∀ k, k < m → ¬ (k ≤ i) → sp_tb n (cr i 0 / 2) (cr k 0 / 2) = false := by
  intro m
  induction m with
  | zero => exact ⟨fun _ k h => absurd h (by omega), fun _ => rfl⟩
  | succ m ih =>
    show (sp_el n cr i m && (decide _ || !sp_tb n (cr i 0 / 2) (cr m 0 / 2))) = true ↔ _
    rw [Bool.and_eq_true, ih, Bool.or_eq_true, decide_eq_true_iff, Bool.not_eq_true']
    constructor
    · rintro ⟨h1, h2⟩ k h3 h4
      by_cases e : k = m
      · subst e
        rcases h2 with h2 | h2
        · exact absurd h2 h4
        · exact h2
      · exact h1 k (by omega) h4
    · intro h
      refine ⟨fun k h1 h2 => h k (by omega) h2, ?_⟩
      rcases Nat.lt_or_ge i m with h3 | h3
      · exact Or.inr (h m (by omega) (by omega))
      · exact Or.inl (by omega)
theorem sm_el {n m : Nat} {cr : Nat → Nat → Nat} {σ : rb_St} (W : rb_wfc n m cr) (h : rm_cr m cr (σ.1 17)) (hpl : σ.1 0 22 = nI n) {i : Nat} (hi : i < m) (x2 : Int32) : xl_M_edges_21 1 x2 (nI i) σ rb_FU 1 0 = some (if sp_el n cr i m = true then 1 else 0) := by
  have w1 := W.1
  have hm := W.2.1
  have ai := (W.2.2 i hi).1
  refine rb_up0 (xl_M_edges_21 1 x2 (nI i) σ) (fun k => if sp_el n cr i k = true then 1 else 0) m (some (if sp_el n cr i m = true then 1 else 0)) (by omega) (fun q k hk => ?_) (fun q => ?_)
  · have ak := (W.2.2 k hk).1
    have e1 : nI (cr i 0) / (2 : Int32) = nI (cr i 0 / 2) := pk_div (d := 2) (by omega) (by decide) (by decide)
    have e2 : nI (cr k 0) / (2 : Int32) = nI (cr k 0 / 2) := pk_div (d := 2) (by omega) (by decide) (by decide)
    have ej : xj_M_edges_57 (fun b4 b5 => xl_M_edges_21 1 x2 (nI i) σ q b4 b5) 1 x2 (nI i) (nI k) σ = xl_M_edges_21 1 x2 (nI i) σ q (if sp_tb n (cr i 0 / 2) (cr k 0 / 2) = true then 0 else 1) (nI (k + 1)) := by
      unfold xj_M_edges_57
      rw [rm_of (x := 0) h hi 0 (by decide) rfl, rm_of (x := 0) h hk 0 (by decide) rfl, rb_b1_some, rb_b1_some, e1, e2, sm_touch (by omega) hpl (by omega) (by omega), rb_b1_some, nI_1]
      by_cases hc : sp_tb n (cr i 0 / 2) (cr k 0 / 2) = true
      · rw [if_pos hc, if_neg (by decide), if_pos hc]
      · rw [if_neg hc, if_pos rfl, if_neg hc]
    have es : sp_el n cr i (k + 1) = (sp_el n cr i k && (decide (k ≤ i) || !sp_tb n (cr i 0 / 2) (cr k 0 / 2))) := rfl
    show (if σ.1 17 14 ≤ nI k then _ else if (if sp_el n cr i k = true then (1 : Int32) else 0) = 0 then xl_M_edges_21 1 x2 (nI i) σ q 0 (nI k + 1) else if (1 : Int32) = 0 then if nI i ≤ nI k then xl_M_edges_21 1 x2 (nI i) σ q 1 (nI k + 1) else xj_M_edges_57 (fun b4 b5 => xl_M_edges_21 1 x2 (nI i) σ q b4 b5) 1 x2 (nI i) (nI k) σ else if nI i < nI k then xj_M_edges_57 (fun b4 b5 => xl_M_edges_21 1 x2 (nI i) σ q b4 b5) 1 x2 (nI i) (nI k) σ else xl_M_edges_21 1 x2 (nI i) σ q 1 (nI k + 1)) = xl_M_edges_21 1 x2 (nI i) σ q (if sp_el n cr i (k + 1) = true then 1 else 0) (nI (k + 1))
    rw [h.2.1, if_neg (nI_ge hk (by omega)), ej, nI_1, es]
    by_cases h0 : sp_el n cr i k = true
    · rw [if_pos h0, if_neg (by decide), h0, Bool.true_and, if_neg (show ¬ (1 : Int32) = 0 by decide)]
      by_cases hc : k ≤ i
      · rw [if_neg (nI_nlt hc (by omega)), if_pos (by rw [decide_eq_true hc]; rfl)]
      · rw [if_pos (nI_lt (by omega) (by omega)), decide_eq_false hc, Bool.false_or]
        cases sp_tb n (cr i 0 / 2) (cr k 0 / 2) <;> rfl
    · rw [if_neg h0, if_pos rfl, Bool.eq_false_iff.mpr h0, Bool.false_and]
      rfl
  · show (if σ.1 17 14 ≤ nI m then _ else _) = _
    rw [h.2.1, if_pos (nI_le (Nat.le_refl m) (by omega))]
theorem sm_edgesl {n m : Nat} {cr : Nat → Nat → Nat} {σ : rb_St} (W : rb_wfc n m cr) (h : rm_cr m cr (σ.1 17)) (hpl : σ.1 0 22 = nI n) : ∃ S, xf_M_edges 1 σ = some (nI S) ∧ sp_set cr m (sp_ls n cr m) S := by
  have w1 := W.1
  have hm := W.2.1
  have key : ∀ (f j S : Nat), j ≤ m → m - j < f → sp_set cr m (fun i => i < j ∧ sp_ls n cr m i) S → ∃ S', xl_M_edges_4 1 σ f (nI S) (nI j) = some (nI S') ∧ sp_set cr m (sp_ls n cr m) S' := by
    intro f
    induction f with
    | zero => intro j S _ hf; omega
    | succ f ih =>
      intro j S hj hf hS
      by_cases ej : j = m
      · subst ej
        refine ⟨S, ?_, sp_set_id hS (fun i hi => ⟨fun w => ⟨hi, w⟩, fun w => w.2⟩)⟩
        show (if σ.1 17 14 ≤ nI j then some (nI S) else _) = _
        rw [h.2.1, if_pos (nI_le (Nat.le_refl _) (by omega))]
      · have hjm : j < m := by omega
        have a := (W.2.2 j hjm).1
        show ∃ S', (if σ.1 17 14 ≤ nI j then _ else rb_b1 (xl_M_edges_21 1 (nI S) (nI j) σ rb_FU 1 0) fun y14 => if y14 = 0 then xl_M_edges_4 1 σ f (nI S ||| 0) (nI j + 1) else rb_b1 (xf_M_of (nI j) 0 σ) fun r17 => xl_M_edges_4 1 σ f (nI S ||| (1 <<< (r17 &&& 31))) (nI j + 1)) = some (nI S') ∧ _
        rw [h.2.1, if_neg (nI_ge hjm (by omega)), sm_el W h hpl hjm (nI S), rb_b1_some, rm_of (x := 0) h hjm 0 (by decide) rfl, rb_b1_some, rb_1l (by omega), rb_or, show nI S ||| (0 : Int32) = nI S from (rb_or S 0).trans (by rw [Nat.or_zero]), nI_1]
        have hiff : sp_el n cr j m = true ↔ sp_ls n cr m j := by
          rw [sp_el_iff]
          exact ⟨fun w k h1 h2 => by rw [sp_tb_comm]; exact w k h2 (by omega), fun w k h1 h2 => by rw [sp_tb_comm]; exact w k (by omega) h1⟩
        by_cases hc : sp_el n cr j m = true
        · rw [if_pos hc, if_neg (by decide)]
          exact ih (j + 1) _ (by omega) (by omega) (sp_set_or (by omega) hS hjm (fun i hi => ⟨fun w => by
            by_cases e : i = j
            · exact Or.inr e
            · exact Or.inl ⟨by omega, w.2⟩, fun w => by
            rcases w with w | w
            · exact ⟨by omega, w.2⟩
            · subst w; exact ⟨by omega, hiff.mp hc⟩⟩))
        · rw [if_neg hc, if_pos rfl]
          exact ih (j + 1) _ (by omega) (by omega) (sp_set_id hS (fun i hi => ⟨fun w => by
            by_cases e : i = j
            · subst e; exact absurd (hiff.mpr w.2) hc
            · exact ⟨by omega, w.2⟩, fun w => ⟨by omega, w.2⟩⟩))
  obtain ⟨S, e, hS⟩ := key rb_FU 0 0 (Nat.zero_le m) (by unfold rb_FU; omega) (sp_set_0 (fun i hi w => absurd w.1 (by omega)))
  refine ⟨S, ?_, hS⟩
  unfold xf_M_edges
  rw [show xl_M_edges_4 1 σ rb_FU 0 0 = some (nI S) from e, rb_b1_some]
def sp_ef (n : Nat) (cr : Nat → Nat → Nat) (i : Nat) : Nat → Bool
  | 0 => true
  | k + 1 => sp_ef n cr i k && (decide (i ≤ k) || !sp_tb n (cr i 0 / 2) (cr k 0 / 2))
theorem sp_ef_iff {n : Nat} {cr : Nat → Nat → Nat} {i : Nat} : ∀ m, sp_ef n cr i m = true ↔ ∀ k, k < m → ¬ (i ≤ k) → sp_tb n (cr i 0 / 2) (cr k 0 / 2) = false := by
  intro m
  induction m with
  | zero => exact ⟨fun _ k h => absurd h (by omega), fun _ => rfl⟩
  | succ m ih =>
    show (sp_ef n cr i m && (decide _ || !sp_tb n (cr i 0 / 2) (cr m 0 / 2))) = true ↔ _
    rw [Bool.and_eq_true, ih, Bool.or_eq_true, decide_eq_true_iff, Bool.not_eq_true']
    constructor
    · rintro ⟨h1, h2⟩ k h3 h4
      by_cases e : k = m
      · subst e
        rcases h2 with h2 | h2
        · exact absurd h2 h4
        · exact h2
      · exact h1 k (by omega) h4
    · intro h
      refine ⟨fun k h1 h2 => h k (by omega) h2, ?_⟩
      rcases Nat.lt_or_ge m i with h3 | h3
      · exact Or.inr (h m (by omega) (by omega))
      · exact Or.inl (by omega)
theorem sm_ef {n m : Nat} {cr : Nat → Nat → Nat} {σ : rb_St} (W : rb_wfc n m cr) (h : rm_cr m cr (σ.1 17)) (hpl : σ.1 0 22 = nI n) {i : Nat} (hi : i < m) (x2 : Int32) : xl_M_edges_21 0 x2 (nI i) σ rb_FU 1 0 = some (if sp_ef n cr i m = true then 1 else 0) := by
  have w1 := W.1
  have hm := W.2.1
  have ai := (W.2.2 i hi).1
  refine rb_up0 (xl_M_edges_21 0 x2 (nI i) σ) (fun k => if sp_ef n cr i k = true then 1 else 0) m (some (if sp_ef n cr i m = true then 1 else 0)) (by omega) (fun q k hk => ?_) (fun q => ?_)
  · have ak := (W.2.2 k hk).1
    have e1 : nI (cr i 0) / (2 : Int32) = nI (cr i 0 / 2) := pk_div (d := 2) (by omega) (by decide) (by decide)
    have e2 : nI (cr k 0) / (2 : Int32) = nI (cr k 0 / 2) := pk_div (d := 2) (by omega) (by decide) (by decide)
    have ej : xj_M_edges_57 (fun b4 b5 => xl_M_edges_21 0 x2 (nI i) σ q b4 b5) 0 x2 (nI i) (nI k) σ = xl_M_edges_21 0 x2 (nI i) σ q (if sp_tb n (cr i 0 / 2) (cr k 0 / 2) = true then 0 else 1) (nI (k + 1)) := by
      unfold xj_M_edges_57
      rw [rm_of (x := 0) h hi 0 (by decide) rfl, rm_of (x := 0) h hk 0 (by decide) rfl, rb_b1_some, rb_b1_some, e1, e2, sm_touch (by omega) hpl (by omega) (by omega), rb_b1_some, nI_1]
      by_cases hc : sp_tb n (cr i 0 / 2) (cr k 0 / 2) = true
      · rw [if_pos hc, if_neg (by decide), if_pos hc]
      · rw [if_neg hc, if_pos rfl, if_neg hc]
    have es : sp_ef n cr i (k + 1) = (sp_ef n cr i k && (decide (i ≤ k) || !sp_tb n (cr i 0 / 2) (cr k 0 / 2))) := rfl
    show (if σ.1 17 14 ≤ nI k then _ else if (if sp_ef n cr i k = true then (1 : Int32) else 0) = 0 then xl_M_edges_21 0 x2 (nI i) σ q 0 (nI k + 1) else if (0 : Int32) = 0 then if nI i ≤ nI k then xl_M_edges_21 0 x2 (nI i) σ q 1 (nI k + 1) else xj_M_edges_57 (fun b4 b5 => xl_M_edges_21 0 x2 (nI i) σ q b4 b5) 0 x2 (nI i) (nI k) σ else if nI i < nI k then xj_M_edges_57 (fun b4 b5 => xl_M_edges_21 0 x2 (nI i) σ q b4 b5) 0 x2 (nI i) (nI k) σ else xl_M_edges_21 0 x2 (nI i) σ q 1 (nI k + 1)) = xl_M_edges_21 0 x2 (nI i) σ q (if sp_ef n cr i (k + 1) = true then 1 else 0) (nI (k + 1))
    rw [h.2.1, if_neg (nI_ge hk (by omega)), ej, nI_1, es]
    by_cases h0 : sp_ef n cr i k = true
    · rw [if_pos h0, if_neg (by decide), h0, Bool.true_and, if_pos (show (0 : Int32) = 0 from rfl)]
      by_cases hc : i ≤ k
      · rw [if_pos (nI_le hc (by omega)), if_pos (by rw [decide_eq_true hc]; rfl)]
      · rw [if_neg (nI_ge (by omega) (by omega)), decide_eq_false hc, Bool.false_or]
        cases sp_tb n (cr i 0 / 2) (cr k 0 / 2) <;> rfl
    · rw [if_neg h0, if_pos rfl, Bool.eq_false_iff.mpr h0, Bool.false_and]
      rfl
  · show (if σ.1 17 14 ≤ nI m then _ else _) = _
    rw [h.2.1, if_pos (nI_le (Nat.le_refl m) (by omega))]
theorem sm_edgesf {n m : Nat} {cr : Nat → Nat → Nat} {σ : rb_St} (W : rb_wfc n m cr) (h : rm_cr m cr (σ.1 17)) (hpl : σ.1 0 22 = nI n) : ∃ S, xf_M_edges 0 σ = some (nI S) ∧ sp_set cr m (sp_fs n cr) S := by
  have w1 := W.1
  have hm := W.2.1
  have key : ∀ (f j S : Nat), j ≤ m → m - j < f → sp_set cr m (fun i => i < j ∧ sp_fs n cr i) S → ∃ S', xl_M_edges_4 0 σ f (nI S) (nI j) = some (nI S') ∧ sp_set cr m (sp_fs n cr) S' := by
    intro f
    induction f with
    | zero => intro j S _ hf; omega
    | succ f ih =>
      intro j S hj hf hS
      by_cases ej : j = m
      · subst ej
        refine ⟨S, ?_, sp_set_id hS (fun i hi => ⟨fun w => ⟨hi, w⟩, fun w => w.2⟩)⟩
        show (if σ.1 17 14 ≤ nI j then some (nI S) else _) = _
        rw [h.2.1, if_pos (nI_le (Nat.le_refl _) (by omega))]
      · have hjm : j < m := by omega
        have a := (W.2.2 j hjm).1
        show ∃ S', (if σ.1 17 14 ≤ nI j then _ else rb_b1 (xl_M_edges_21 0 (nI S) (nI j) σ rb_FU 1 0) fun y14 => if y14 = 0 then xl_M_edges_4 0 σ f (nI S ||| 0) (nI j + 1) else rb_b1 (xf_M_of (nI j) 0 σ) fun r17 => xl_M_edges_4 0 σ f (nI S ||| (1 <<< (r17 &&& 31))) (nI j + 1)) = some (nI S') ∧ _
        rw [h.2.1, if_neg (nI_ge hjm (by omega)), sm_ef W h hpl hjm (nI S), rb_b1_some, rm_of (x := 0) h hjm 0 (by decide) rfl, rb_b1_some, rb_1l (by omega), rb_or, show nI S ||| (0 : Int32) = nI S from (rb_or S 0).trans (by rw [Nat.or_zero]), nI_1]
        have hiff : sp_ef n cr j m = true ↔ sp_fs n cr j := by
          rw [sp_ef_iff]
          exact ⟨fun w k h1 => by rw [sp_tb_comm]; exact w k (by omega) (by omega), fun w k h1 h2 => by rw [sp_tb_comm]; exact w k (by omega)⟩
        by_cases hc : sp_ef n cr j m = true
        · rw [if_pos hc, if_neg (by decide)]
          exact ih (j + 1) _ (by omega) (by omega) (sp_set_or (by omega) hS hjm (fun i hi => ⟨fun w => by
            by_cases e : i = j
            · exact Or.inr e
            · exact Or.inl ⟨by omega, w.2⟩, fun w => by
            rcases w with w | w
            · exact ⟨by omega, w.2⟩
            · subst w; exact ⟨by omega, hiff.mp hc⟩⟩))
        · rw [if_neg hc, if_pos rfl]
          exact ih (j + 1) _ (by omega) (by omega) (sp_set_id hS (fun i hi => ⟨fun w => by
            by_cases e : i = j
            · subst e; exact absurd (hiff.mpr w.2) hc
            · exact ⟨by omega, w.2⟩, fun w => ⟨by omega, w.2⟩⟩))
  obtain ⟨S, e, hS⟩ := key rb_FU 0 0 (Nat.zero_le m) (by unfold rb_FU; omega) (sp_set_0 (fun i hi w => absurd w.1 (by omega)))
  refine ⟨S, ?_, hS⟩
  unfold xf_M_edges
  rw [show xl_M_edges_4 0 σ rb_FU 0 0 = some (nI S) from e, rb_b1_some]
