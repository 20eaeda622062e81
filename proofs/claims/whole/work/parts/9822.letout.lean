/-! LETTING ONE OUT -/
def sp_any (P : Nat → Bool) : Nat → Bool
  | 0 => false
  | k + 1 => sp_any P k || P k
theorem sp_any_iff {P : Nat → Bool} : ∀ k, sp_any P k = true ↔ ∃ i, i < k ∧ P i = true := by
  intro k
  induction k with
  | zero => exact ⟨fun h => absurd h Bool.false_ne_true, fun ⟨i, h, _⟩ => absurd h (by omega)⟩
  | succ k ih =>
    show (sp_any P k || P k) = true ↔ _
    rw [Bool.or_eq_true, ih]
    constructor
    · rintro (⟨i, h1, h2⟩ | h)
      · exact ⟨i, by omega, h2⟩
      · exact ⟨k, by omega, h⟩
    · rintro ⟨i, h1, h2⟩
      by_cases e : i = k
      · subst e; exact Or.inr h2
      · exact Or.inl ⟨i, by omega, h2⟩
def sp_of (cr : Nat → Nat → Nat) (i d : Nat) : Bool := decide (cr i 1 = d ∨ cr i 2 = d)
def sp_lo (n : Nat) (cr : Nat → Nat → Nat) (d : Nat) : Nat → Nat → Bool
  | 0, _ => false
  | i + 1, k => if k = i then (sp_of cr i d || sp_any (fun q => sp_lo n cr d i q && sp_tb n (cr q 0 / 2) (cr i 0 / 2)) i) else sp_lo n cr d i k
def sp_lc (n : Nat) (cr : Nat → Nat → Nat) (d : Nat) : Nat → Nat
  | 0 => 0
  | i + 1 => if sp_lo n cr d (i + 1) i = true then sp_lc n cr d i + 1 else sp_lc n cr d i
theorem sp_lo_s (n : Nat) (cr : Nat → Nat → Nat) (d i : Nat) : sp_lo n cr d (i + 1) i = (sp_of cr i d || sp_any (fun q => sp_lo n cr d i q && sp_tb n (cr q 0 / 2) (cr i 0 / 2)) i) := by
  show (if i = i then _ else _) = _
  rw [if_pos rfl]
theorem sp_lo_o {n : Nat} {cr : Nat → Nat → Nat} {d i k : Nat} (h : k ≠ i) : sp_lo n cr d (i + 1) k = sp_lo n cr d i k := by
  show (if k = i then _ else _) = _
  rw [if_neg h]
section RBU
variable {n m k : Nat} {cr : Nat → Nat → Nat} {σ τ : rb_St}
theorem sx_letl (W : rb_wfc n m cr) (h : rx_cr k m cr σ) (h0 : σ.1 k 0 = nI n) {d : Nat} (hd : d < 2 ^ 31) : ∀ (f j B : Nat), j ≤ m → m - j < f → B < 2 ^ 8 → (∀ q, q < n → (B.testBit q = true ↔ ∃ i, i < j ∧ sp_lo n cr d j i = true ∧ sp_tb n (cr i 0 / 2) q = true)) → xl_Pole_toLetOut_7 k (nI d) σ f (nI B) (nI (sp_lc n cr d j)) (nI j) = some (nI (sp_lc n cr d m)) := by
  have hm := W.2.1
  have hn := W.1
  intro f
  induction f with
  | zero => intro j B _ hf; omega
  | succ f ih =>
    intro j B hj hf hB hS
    by_cases ej : j = m
    · subst ej
      show (if σ.1 k 1 ≤ nI j then some _ else _) = _
      rw [h.1, if_pos (nI_le (Nat.le_refl _) (by omega))]
    · have hjm : j < m := by omega
      obtain ⟨f0, f1, f2, f3, f4, f5, f6⟩ := rx_f W h hjm
      have c0 := (W.2.2 j hjm).1
      show (if σ.1 k 1 ≤ nI j then _ else if rb_ib (nI j) 48 then rb_lt (xf_Pole_placeIn (σ.1 (k + 3) (nI j).toNatClampNeg) σ) (fun v3 => rb_b1 (xf_Pole_isOf k (nI j) (nI d) σ) fun r5 => if r5 = 0 then if ((nI B >>> (v3 &&& 31)) &&& 1) = 0 then xl_Pole_toLetOut_7 k (nI d) σ f (nI B) (nI (sp_lc n cr d j)) (nI j + 1) else rb_lt (nI B ||| (xf_Pole_nearOf k v3 σ)) (fun v11 => xl_Pole_toLetOut_7 k (nI d) σ f v11 (nI (sp_lc n cr d j) + 1) (nI j + 1)) else rb_lt (nI B ||| (xf_Pole_nearOf k v3 σ)) (fun v8 => xl_Pole_toLetOut_7 k (nI d) σ f v8 (nI (sp_lc n cr d j) + 1) (nI j + 1))) else none) = _
      have hnr := sp_nr_lt n (by omega) (cr j 0 / 2) (by omega)
      rw [h.1, if_neg (nI_ge hjm (by omega)), f0, if_pos rfl, f6, rb_lt_eq, sx_isOf W h hjm hd, rb_b1_some, sx_nearOf (by omega) h0 (by omega), rb_or, rb_lt_eq, nI_1, nI_1]
      have hbit : (((nI B >>> (nI (cr j 0 / 2) &&& 31)) &&& 1) = 0) ↔ ¬ ∃ i, i < j ∧ sp_lo n cr d j i = true ∧ sp_tb n (cr i 0 / 2) (cr j 0 / 2) = true := by
        rw [rb_bit0 (by omega) (by omega), ← hS _ (by omega)]
        exact Bool.eq_false_iff
      -- flagged, or not
      have yes : sp_lo n cr d (j + 1) j = true → xl_Pole_toLetOut_7 k (nI d) σ f (nI (B ||| sp_nr n (cr j 0 / 2))) (nI (sp_lc n cr d j + 1)) (nI (j + 1)) = some (nI (sp_lc n cr d m)) := by
        intro hy
        have e : sp_lc n cr d j + 1 = sp_lc n cr d (j + 1) := by
          show _ = (if sp_lo n cr d (j + 1) j = true then _ else _)
          rw [if_pos hy]
        rw [e]
        refine ih (j + 1) _ (by omega) (by omega) (rb_orlt hB (by omega)) (fun q hq => ?_)
        rw [Nat.testBit_or, Bool.or_eq_true, hS q hq, sp_nr_bit n (by omega) _ (by omega) q hq, sp_tb_comm]
        constructor
        · rintro (⟨i, a1, a2, a3⟩ | a)
          · exact ⟨i, by omega, by rw [sp_lo_o (by omega)]; exact a2, a3⟩
          · exact ⟨j, by omega, hy, a⟩
        · rintro ⟨i, a1, a2, a3⟩
          by_cases e : i = j
          · subst e; exact Or.inr a3
          · exact Or.inl ⟨i, by omega, by rw [sp_lo_o e] at a2; exact a2, a3⟩
      have no : sp_lo n cr d (j + 1) j = false → xl_Pole_toLetOut_7 k (nI d) σ f (nI B) (nI (sp_lc n cr d j)) (nI (j + 1)) = some (nI (sp_lc n cr d m)) := by
        intro hy
        have e : sp_lc n cr d j = sp_lc n cr d (j + 1) := by
          show _ = (if sp_lo n cr d (j + 1) j = true then _ else _)
          rw [hy]; rfl
        rw [e]
        refine ih (j + 1) _ (by omega) (by omega) hB (fun q hq => ?_)
        rw [hS q hq]
        constructor
        · rintro ⟨i, a1, a2, a3⟩
          exact ⟨i, by omega, by rw [sp_lo_o (by omega)]; exact a2, a3⟩
        · rintro ⟨i, a1, a2, a3⟩
          by_cases e : i = j
          · subst e; rw [hy] at a2; cases a2
          · exact ⟨i, by omega, by rw [sp_lo_o e] at a2; exact a2, a3⟩
      have hf2 : sp_lo n cr d (j + 1) j = true ↔ (cr j 1 = d ∨ cr j 2 = d) ∨ ∃ i, i < j ∧ sp_lo n cr d j i = true ∧ sp_tb n (cr i 0 / 2) (cr j 0 / 2) = true := by
        rw [sp_lo_s, Bool.or_eq_true, sp_any_iff]
        unfold sp_of
        rw [decide_eq_true_iff]
        simp only [Bool.and_eq_true]
      by_cases h1 : cr j 1 = d ∨ cr j 2 = d
      · rw [if_pos h1, if_neg (show ¬ (1 : Int32) = 0 by decide)]
        exact yes (hf2.mpr (Or.inl h1))
      · rw [if_neg h1, if_pos rfl]
        by_cases h2 : ∃ i, i < j ∧ sp_lo n cr d j i = true ∧ sp_tb n (cr i 0 / 2) (cr j 0 / 2) = true
        · rw [if_neg (fun e => hbit.mp e h2)]
          exact yes (hf2.mpr (Or.inr h2))
        · rw [if_pos (hbit.mpr h2)]
          refine no (Bool.eq_false_iff.mpr (fun e => ?_))
          rcases hf2.mp e with e | e
          · exact h1 e
          · exact h2 e
/-- the reference: the inner loop -/
theorem sm_letin (W : rb_wfc n m cr) {d j : Nat} (hjm : j < m) (hm40 : m ≤ 40) (x1 x2 : Int32) : ∀ (f q : Nat) (τ : rb_St), q ≤ j → j - q < f → rm_cr m cr (τ.1 17) → τ.1 0 22 = nI n → (∀ i, i < j → τ.1 21 i = rb_bI (sp_lo n cr d j i)) → τ.1 21 j = rb_bI (sp_of cr j d || sp_any (fun q => sp_lo n cr d j q && sp_tb n (cr q 0 / 2) (cr j 0 / 2)) q) → ∃ τ', xl_M_letOut_59 x1 x2 (nI j) f (nI q) τ = some τ' ∧ τ'.1 21 j = rb_bI (sp_lo n cr d (j + 1) j) ∧ rb_fr (fun c i => c = 21 ∧ i = j) τ τ' := by
  have hn := W.1
  intro f
  induction f with
  | zero => intro q τ _ hf; omega
  | succ f ih =>
    intro q τ hq hf hc h22 hs hv
    by_cases eq : q = j
    · subst eq
      refine ⟨τ, ?_, by rw [hv, sp_lo_s], rb_fr.rf⟩
      show (if nI q ≤ nI q then some τ else _) = _
      rw [if_pos (nI_le (Nat.le_refl _) (by omega))]
    · have hqj : q < j := by omega
      have c0 := (W.2.2 j hjm).1
      have c1 := (W.2.2 q (by omega)).1
      have e1 : nI (cr q 0) / (2 : Int32) = nI (cr q 0 / 2) := pk_div (d := 2) (by omega) (by decide) (by decide)
      have e2 : nI (cr j 0) / (2 : Int32) = nI (cr j 0 / 2) := pk_div (d := 2) (by omega) (by decide) (by decide)
      have step : ∀ b : Bool, b = (sp_of cr j d || sp_any (fun q => sp_lo n cr d j q && sp_tb n (cr q 0 / 2) (cr j 0 / 2)) (q + 1)) → ∃ τ', xl_M_letOut_59 x1 x2 (nI j) f (nI (q + 1)) (rb_sI τ 21 j (rb_bI b)) = some τ' ∧ τ'.1 21 j = rb_bI (sp_lo n cr d (j + 1) j) ∧ rb_fr (fun c i => c = 21 ∧ i = j) τ τ' := by
        intro b hb
        have f1 : rb_fr (fun c i => c = 21 ∧ i = j) τ (rb_sI τ 21 j (rb_bI b)) := rb_fr.sI ⟨rfl, rfl⟩
        obtain ⟨τ', a1, a2, a3⟩ := ih (q + 1) (rb_sI τ 21 j (rb_bI b)) (by omega) (by omega) (by rw [rb_sI_row _ _ _ _ _ (by omega)]; exact hc) (by rw [rb_sI_row _ _ _ _ _ (by omega)]; exact h22) (fun i hi => by rw [rb_sIg _ _ _ _ _ _ (by omega)]; exact hs i hi) (by rw [rb_sI_eq, hb])
        exact ⟨τ', a1, a2, f1.tr a3⟩
      have ea : ∀ q, sp_any (fun q => sp_lo n cr d j q && sp_tb n (cr q 0 / 2) (cr j 0 / 2)) (q + 1) = (sp_any (fun q => sp_lo n cr d j q && sp_tb n (cr q 0 / 2) (cr j 0 / 2)) q || (sp_lo n cr d j q && sp_tb n (cr q 0 / 2) (cr j 0 / 2))) := fun _ => rfl
      show ∃ τ', (if nI j ≤ nI q then some τ else if rb_ib (nI j) 88 then if (τ.1 21 (nI j).toNatClampNeg) = 0 then if rb_ib (nI q) 88 then if (τ.1 21 (nI q).toNatClampNeg) = 0 then rb_lt (rb_sI τ 21 (nI j).toNatClampNeg 0) (fun s19 => xl_M_letOut_59 x1 x2 (nI j) f (nI q + 1) s19) else rb_b1 (xf_M_of (nI q) 0 τ) fun r21 => rb_b1 (xf_M_of (nI j) 0 τ) fun r23 => rb_b1 (xf_M_touch (r21 / 2) (r23 / 2) τ) fun r25 => if r25 = 0 then rb_lt (rb_sI τ 21 (nI j).toNatClampNeg 0) (fun s28 => xl_M_letOut_59 x1 x2 (nI j) f (nI q + 1) s28) else rb_lt (rb_sI τ 21 (nI j).toNatClampNeg 1) (fun s30 => xl_M_letOut_59 x1 x2 (nI j) f (nI q + 1) s30) else none else rb_lt (rb_sI τ 21 (nI j).toNatClampNeg 1) (fun s15 => xl_M_letOut_59 x1 x2 (nI j) f (nI q + 1) s15) else none) = some τ' ∧ _
      rw [if_neg (nI_ge hqj (by omega)), rb_ib_nI (by omega) (by decide), if_pos rfl, rb_ib_nI (by omega) (by decide), if_pos rfl, nI_clamp (by omega), nI_clamp (by omega), hv, hs q hqj, rm_of (x := 0) hc (show q < m by omega) 0 (by decide) rfl, rb_b1_some, rm_of (x := 0) hc hjm 0 (by decide) rfl, rb_b1_some, e1, e2, sm_touch (by omega) h22 (by omega) (by omega), rb_b1_some, nI_1]
      simp only [rb_bI_0, rb_lt_eq]
      cases hb : (sp_of cr j d || sp_any (fun q => sp_lo n cr d j q && sp_tb n (cr q 0 / 2) (cr j 0 / 2)) q) with
      | true =>
        rw [if_neg (by decide)]
        refine step true ?_
        rw [ea, ← Bool.or_assoc, hb]; rfl
      | false =>
        rw [if_pos rfl]
        cases hl : sp_lo n cr d j q with
        | false =>
          rw [if_pos rfl]
          refine step false ?_
          rw [ea, ← Bool.or_assoc, hb, hl]; rfl
        | true =>
          rw [if_neg (by decide)]
          cases ht : sp_tb n (cr q 0 / 2) (cr j 0 / 2) with
          | false =>
            rw [if_pos (show (if false = true then (1 : Int32) else 0) = 0 from rfl)]
            refine step false ?_
            rw [ea, ← Bool.or_assoc, hb, hl, ht]; rfl
          | true =>
            rw [if_neg (show ¬ (if true = true then (1 : Int32) else 0) = 0 by decide)]
            refine step true ?_
            rw [ea, ← Bool.or_assoc, hb, hl, ht]; rfl
theorem sm_letl (W : rb_wfc n m cr) (hm40 : m ≤ 40) {d : Nat} (hd : d < 2 ^ 31) : ∀ (f j : Nat) (τ : rb_St), j ≤ m → m - j < f → rm_cr m cr (τ.1 17) → τ.1 0 22 = nI n → (∀ i, i < j → τ.1 21 i = rb_bI (sp_lo n cr d j i)) → ∃ τ', xl_M_letOut_14 (nI d) f (nI (sp_lc n cr d j)) (nI j) τ = some (nI (sp_lc n cr d m), τ') ∧ rb_fr (fun c i => c = 21) τ τ' := by
  have hn := W.1
  intro f
  induction f with
  | zero => intro j τ _ hf; omega
  | succ f ih =>
    intro j τ hj hf hc h22 hs
    by_cases ej : j = m
    · subst ej
      refine ⟨τ, ?_, rb_fr.rf⟩
      show (if τ.1 17 14 ≤ nI j then some (_, τ) else _) = _
      rw [hc.2.1, if_pos (nI_le (Nat.le_refl _) (by omega))]
    · have hjm : j < m := by omega
      obtain ⟨c0, c1, c2, -, -⟩ := W.2.2 j hjm
      have step : ∀ u : Bool, u = sp_of cr j d → ∃ τ', xj_M_letOut_55 (fun b2 b3 τ => xl_M_letOut_14 (nI d) f b2 b3 τ) (nI d) (nI (sp_lc n cr d j)) (nI j) (rb_bI u) (nI j) τ = some (nI (sp_lc n cr d m), τ') ∧ rb_fr (fun c i => c = 21) τ τ' := by
        intro u hu
        have f1 : rb_fr (fun c i => c = 21) τ (rb_sI τ 21 j (rb_bI u)) := rb_fr.sI rfl
        obtain ⟨s, a1, a2, a3⟩ := sm_letin W hjm hm40 (d := d) (nI d) (nI (sp_lc n cr d j)) rb_FU 0 (rb_sI τ 21 j (rb_bI u)) (by omega) (by unfold rb_FU; omega) (by rw [rb_sI_row _ _ _ _ _ (by omega)]; exact hc) (by rw [rb_sI_row _ _ _ _ _ (by omega)]; exact h22) (fun i hi => by rw [rb_sIg _ _ _ _ _ _ (by omega)]; exact hs i hi) (by
          rw [rb_sI_eq, hu]
          show _ = rb_bI (_ || false)
          rw [Bool.or_false])
        have a1' : xl_M_letOut_59 (nI d) (nI (sp_lc n cr d j)) (nI j) rb_FU 0 (rb_sI τ 21 j (rb_bI u)) = some s := a1
        have hz : rb_bz (rb_bI u) = true := by cases u <;> decide
        have fs : rb_fr (fun c i => c = 21) τ s := f1.tr (a3.mo (fun c i q => q.1))
        have hs2 : ∀ i, i < j + 1 → s.1 21 i = rb_bI (sp_lo n cr d (j + 1) i) := by
          intro i hi
          by_cases e : i = j
          · subst e; exact a2
          · rw [a3.1 21 i (by omega), rb_sIg _ _ _ _ _ _ (by omega), sp_lo_o e]
            exact hs i (by omega)
        obtain ⟨τ', b1, b2⟩ := ih (j + 1) s (by omega) (by omega) (by
          have : s.1 17 = τ.1 17 := funext fun i => fs.1 17 i (by omega)
          rw [this]; exact hc) (by rw [fs.1 0 22 (by omega)]; exact h22) hs2
        refine ⟨τ', ?_, fs.tr b2⟩
        unfold xj_M_letOut_55
        rw [rb_ib_nI (by omega) (by decide), if_pos rfl, hz, if_pos rfl, rb_lt_eq, nI_clamp (by omega), a1', rb_b1_some, if_pos rfl, a2, Int32.add_zero, nI_1, nI_1]
        simp only [rb_bI_0]
        have el : sp_lc n cr d (j + 1) = if sp_lo n cr d (j + 1) j = true then sp_lc n cr d j + 1 else sp_lc n cr d j := rfl
        cases hlo : sp_lo n cr d (j + 1) j with
        | true =>
          rw [if_neg (by decide)]
          rw [el, hlo, if_pos rfl] at b1
          exact b1
        | false =>
          rw [if_pos rfl]
          rw [el, hlo, if_neg (by decide)] at b1
          exact b1
      show ∃ τ', (if τ.1 17 14 ≤ nI j then _ else rb_b1 (xf_M_of (nI j) 1 τ) fun r5 => if r5 = nI d then xj_M_letOut_55 (fun b2 b3 τ => xl_M_letOut_14 (nI d) f b2 b3 τ) (nI d) (nI (sp_lc n cr d j)) (nI j) 1 (nI j) τ else rb_b1 (xf_M_of (nI j) 2 τ) fun r36 => if r36 = nI d then xj_M_letOut_55 (fun b2 b3 τ => xl_M_letOut_14 (nI d) f b2 b3 τ) (nI d) (nI (sp_lc n cr d j)) (nI j) 1 (nI j) τ else xj_M_letOut_55 (fun b2 b3 τ => xl_M_letOut_14 (nI d) f b2 b3 τ) (nI d) (nI (sp_lc n cr d j)) (nI j) 0 (nI j) τ) = _ ∧ _
      rw [hc.2.1, if_neg (nI_ge hjm (by omega)), rm_of (x := 1) hc hjm 1 (by decide) rfl, rb_b1_some, rm_of (x := 2) hc hjm 2 (by decide) rfl, rb_b1_some]
      by_cases g1 : cr j 1 = d
      · rw [if_pos (by rw [g1])]
        exact step true (by unfold sp_of; exact (decide_eq_true (Or.inl g1)).symm)
      · rw [if_neg (fun e => g1 ((nI_eq (by omega) hd).mp e))]
        by_cases g2 : cr j 2 = d
        · rw [if_pos (by rw [g2])]
          exact step true (by unfold sp_of; exact (decide_eq_true (Or.inr g2)).symm)
        · rw [if_neg (fun e => g2 ((nI_eq (by omega) hd).mp e))]
          exact step false (by unfold sp_of; exact (decide_eq_false (by omega)).symm)
end RBU
theorem rb_ops_letOut : op_letOut Rel := by
  intro σ τ R p
  obtain ⟨n, ru, tr, lc, ho, La, wh, ln, m, cr, co, be, lg, D⟩ := Rel_D R
  obtain ⟨⟨gw1, -, gx1, gm1, -, -⟩, b, A, P, px1, -, pm1, -⟩ := id D
  have h7 := gw1.1
  have hm := P.2.1
  unfold xf_RP_letOut xf_M_letOut
  rcases rb_isD h7 gx1.1 gm1.1 p with ⟨d, h1, rfl, e1, e2⟩ | ⟨e1, e2⟩
  · rw [e1, e2, rb_b1_some, if_neg (show ¬ (1 : Int32) = 0 by decide), if_neg (show ¬ (1 : Int32) = 0 by decide)]
    have x1 : xl_Pole_toLetOut_7 18 (nI d) σ rb_FU 0 0 0 = some (nI (sp_lc n cr d m)) := sx_letl P.1.2.2.1 px1.2.1 px1.1.1 (d := d) (by omega) rb_FU 0 0 (by omega) (by unfold rb_FU; omega) (by decide) (fun q _ => by
      rw [Nat.zero_testBit]
      exact ⟨fun w => absurd w (by decide), fun ⟨i, w, _⟩ => absurd w (by omega)⟩)
    obtain ⟨τ', y1, y2⟩ := sm_letl P.1.2.2.1 hm (d := d) (by omega) rb_FU 0 τ (by omega) (by unfold rb_FU; omega) pm1.2.2.1 gm1.1 (fun i hi => by omega)
    have y1' : xl_M_letOut_14 (nI d) rb_FU 0 0 τ = some (nI (sp_lc n cr d m), τ') := y1
    refine ⟨nI (sp_lc n cr d m), τ', ?_, by rw [y1', rb_b2_some], Rel_fr rb_fr.rf (y2.mo (fun c i q => by unfold scM; omega)) R⟩
    unfold xf_Pole_toLetOut
    rw [x1, rb_b1_some, rb_b1_some]
  · exact ⟨-1, τ, by rw [e1, if_pos rfl], by rw [e2, rb_b1_some, if_pos rfl], R⟩
