/-! WHAT ALL TOOK; who is free; the foremost; shares; letting one out -/
def rb_bI (b : Bool) : Int32 := if b = true then 1 else 0
theorem rb_bI_t : rb_bI true = 1 := rfl
theorem rb_bI_f : rb_bI false = 0 := rfl
theorem rb_bI_0 (b : Bool) : (rb_bI b = 0) = (b = false) := by
  cases b
  · exact propext ⟨fun _ => rfl, fun _ => rfl⟩
  · exact propext ⟨fun h => absurd h (by decide), fun h => by cases h⟩
def sp_tal (cr : Nat → Nat → Nat) (m : Nat) : Nat := rb_fo (fun i a => a + 2 * cr i 3) 0 m
def sp_sum (f : Nat → Nat) (k : Nat) : Nat := rb_fo (fun p a => a + f p) 0 k
theorem sp_sum_s (f : Nat → Nat) (k : Nat) : sp_sum f (k + 1) = sp_sum f k + f k := rfl
theorem sp_sum_co {f g : Nat → Nat} : ∀ k, (∀ p, p < k → f p = g p) → sp_sum f k = sp_sum g k := by
  intro k
  induction k with
  | zero => intro _; rfl
  | succ k ih =>
    intro h
    rw [sp_sum_s, sp_sum_s, ih (fun p hp => h p (by omega)), h k (by omega)]
theorem sp_sum_2 {f : Nat → Nat} {x y c : Nat} (hxy : x ≠ y) : ∀ k, sp_sum (fun p => if x = p ∨ y = p then f p + c else f p) k = sp_sum f k + (if x < k then c else 0) + (if y < k then c else 0) := by
  intro k
  induction k with
  | zero => rfl
  | succ k ih =>
    rw [sp_sum_s, sp_sum_s, ih]
    repeat' split
    all_goals omega
theorem sp_sum_tal {n : Nat} {cr : Nat → Nat → Nat} : ∀ m, (∀ i, i < m → cr i 1 < n ∧ cr i 2 < n ∧ cr i 1 ≠ cr i 2) → sp_sum (fun p => sp_ta cr p m) n = sp_tal cr m := by
  intro m
  induction m with
  | zero =>
    intro _
    have : ∀ k, sp_sum (fun p => sp_ta cr p 0) k = 0 := by
      intro k
      induction k with
      | zero => rfl
      | succ k ih => rw [sp_sum_s, ih]; rfl
    exact this n
  | succ m ih =>
    intro h
    obtain ⟨h1, h2, h3⟩ := h m (by omega)
    have e : (fun p => sp_ta cr p (m + 1)) = fun p => if cr m 1 = p ∨ cr m 2 = p then sp_ta cr p m + cr m 3 else sp_ta cr p m := rfl
    rw [e, sp_sum_2 h3, ih (fun i hi => h i (by omega)), if_pos h1, if_pos h2]
    show _ = sp_tal cr m + 2 * cr m 3
    omega
theorem sp_co_0 {cr : Nat → Nat → Nat} {d : Nat} : ∀ m, sp_co cr d m = 0 ↔ ∀ i, i < m → cr i 1 ≠ d ∧ cr i 2 ≠ d := by
  intro m
  induction m with
  | zero => exact ⟨fun _ i hi => absurd hi (by omega), fun _ => rfl⟩
  | succ m ih =>
    show (if cr m 1 = d ∨ cr m 2 = d then sp_co cr d m + 1 else sp_co cr d m) = 0 ↔ _
    by_cases h : cr m 1 = d ∨ cr m 2 = d
    · rw [if_pos h]
      constructor
      · intro q; omega
      · intro q
        have := q m (by omega)
        omega
    · rw [if_neg h, ih]
      constructor
      · intro q i hi
        by_cases e : i = m
        · subst e; omega
        · exact q i (by omega)
      · intro q i hi
        exact q i (by omega)
theorem sp_co_le {cr : Nat → Nat → Nat} {d : Nat} : ∀ m, sp_co cr d m ≤ m := by
  intro m
  induction m with
  | zero => exact Nat.le_refl 0
  | succ m ih =>
    show (if cr m 1 = d ∨ cr m 2 = d then sp_co cr d m + 1 else sp_co cr d m) ≤ m + 1
    split <;> omega
/-- what the class clears of bits -/
theorem rb_clr {a b : Nat} (ha : a < 2 ^ 31) (d : Nat) : ∃ c, nI a &&& (nI b ^^^ (-1)) = nI c ∧ c ≤ a ∧ (b < 2 ^ 31 → ∀ d, c.testBit d = (a.testBit d && !b.testBit d)) := by
  refine ⟨a &&& (b ^^^ (2 ^ 32 - 1)), ?_, Nat.and_le_left, fun hb d => ?_⟩
  · rw [show (-1 : Int32) = nI (2 ^ 32 - 1) from by decide, rb_xr, rb_an]
  · rw [Nat.testBit_and, Nat.testBit_xor, Nat.testBit_two_pow_sub_one]
    by_cases h : d < 32
    · rw [decide_eq_true h, Bool.xor_true]
    · have e1 : a.testBit d = false := Nat.testBit_lt_two_pow (Nat.lt_of_lt_of_le ha (Nat.pow_le_pow_right (by decide) (by omega)))
      rw [e1, Bool.false_and, Bool.false_and]
def sp_fr (n m : Nat) (cr : Nat → Nat → Nat) (S : Nat) : Prop := S < 2 ^ 8 ∧ ∀ d, S.testBit d = true ↔ d < n ∧ ∀ i, i < m → cr i 1 ≠ d ∧ cr i 2 ≠ d
theorem sp_fr_eq {n m : Nat} {cr : Nat → Nat → Nat} {S T : Nat} (h1 : sp_fr n m cr S) (h2 : sp_fr n m cr T) : S = T := by
  apply Nat.eq_of_testBit_eq
  intro d
  rw [Bool.eq_iff_iff, h1.2 d, h2.2 d]
section RBS
variable {n m k lc ho co be : Nat} {cr lg : Nat → Nat → Nat} {wh ln ru tr : Nat → Nat} {La : Nat → List sp_Cl} {σ τ : rb_St}
theorem sx_takenOfAll (W : rb_wfc n m cr) (h : rx_cr k m cr σ) : xf_Pole_takenOfAll k σ = some (nI (sp_tal cr m)) := by
  have hm := W.2.1
  have h1 : xl_Pole_takenOfAll_4 k σ rb_FU 0 0 = some (nI (sp_tal cr m)) := by
    refine rb_up0 (xl_Pole_takenOfAll_4 k σ) (fun i => nI (sp_tal cr i)) m (some (nI (sp_tal cr m))) (by omega) (fun q i hi => ?_) (fun q => ?_)
    · show (if σ.1 k 1 ≤ nI i then _ else if rb_ib (nI i) 48 then rb_lt (nI (sp_tal cr i) + (2 * (xf_Pole_tookIn (σ.1 (k + 3) (nI i).toNatClampNeg) σ))) (fun v3 => xl_Pole_takenOfAll_4 k σ q v3 (nI i + 1)) else none) = xl_Pole_takenOfAll_4 k σ q (nI (sp_tal cr i + 2 * cr i 3)) (nI (i + 1))
      obtain ⟨f0, f1, f2, f3, f4, f5, f6⟩ := rx_f W h hi
      rw [h.1, if_neg (nI_ge hi (by omega)), f0, if_pos rfl, f4, rb_l2, pk_mul, nI_add, rb_lt_eq, nI_1]
    · show (if σ.1 k 1 ≤ nI m then _ else _) = _
      rw [h.1, if_pos (nI_le (Nat.le_refl m) (by omega))]
  unfold xf_Pole_takenOfAll
  rw [h1, rb_b1_some]
theorem sm_takenAll (W : rb_wfc n m cr) (hne : ∀ i, i < m → cr i 1 ≠ cr i 2) (h : rm_cr m cr (τ.1 17)) (h22 : τ.1 0 22 = nI n) : xf_M_takenAll τ = some (nI (sp_tal cr m)) := by
  have hn := W.1
  have e := sp_sum_tal (n := n) (cr := cr) m (fun i hi => ⟨(W.2.2 i hi).2.1, (W.2.2 i hi).2.2.1, hne i hi⟩)
  have h1 : xl_M_takenAll_4 τ rb_FU 0 0 = some (nI (sp_sum (fun p => sp_ta cr p m) n)) := by
    refine rb_up0 (xl_M_takenAll_4 τ) (fun i => nI (sp_sum (fun p => sp_ta cr p m) i)) n (some (nI (sp_sum (fun p => sp_ta cr p m) n))) (by omega) (fun q i hi => ?_) (fun q => ?_)
    · show (if τ.1 0 22 ≤ nI i then _ else rb_b1 (xf_M_takenOf (nI i) τ) fun r2 => xl_M_takenAll_4 τ q (nI (sp_sum (fun p => sp_ta cr p m) i) + r2) (nI i + 1)) = xl_M_takenAll_4 τ q (nI (sp_sum (fun p => sp_ta cr p m) i + sp_ta cr i m)) (nI (i + 1))
      rw [h22, if_neg (nI_ge hi (by omega)), sm_takenOf W h (by omega), rb_b1_some, nI_add, nI_1]
    · show (if τ.1 0 22 ≤ nI n then _ else _) = _
      rw [h22, if_pos (nI_le (Nat.le_refl n) (by omega))]
  unfold xf_M_takenAll
  rw [h1, rb_b1_some, e]
theorem sx_free (W : rb_wfc n m cr) (h : rx_cr k m cr σ) (h0 : σ.1 k 0 = nI n) : ∃ S, xf_Pole_freeDancers k σ = some (nI S) ∧ sp_fr n m cr S := by
  have hm := W.2.1
  have hn := W.1
  have key : ∀ (f j S : Nat), j ≤ m → m - j < f → sp_fr n j cr S → ∃ S', xl_Pole_freeDancers_11 k σ f (nI S) (nI j) = some (nI S') ∧ sp_fr n m cr S' := by
    intro f
    induction f with
    | zero => intro j S _ hf; omega
    | succ f ih =>
      intro j S hj hf hS
      by_cases ej : j = m
      · subst ej
        refine ⟨S, ?_, hS⟩
        show (if σ.1 k 1 ≤ nI j then some (nI S) else _) = _
        rw [h.1, if_pos (nI_le (Nat.le_refl _) (by omega))]
      · have hjm : j < m := by omega
        obtain ⟨f0, f1, f2, f3, f4, f5, f6⟩ := rx_f W h hjm
        obtain ⟨c0, c1, c2, -, -⟩ := W.2.2 j hjm
        obtain ⟨c, g1, g2, g3⟩ := rb_clr (a := S) (b := 2 ^ cr j 1 ||| 2 ^ cr j 2) (by have := hS.1; omega) 0
        have p1 : 2 ^ cr j 1 < 2 ^ 8 := Nat.pow_lt_pow_right (by decide) (by omega)
        have p2 : 2 ^ cr j 2 < 2 ^ 8 := Nat.pow_lt_pow_right (by decide) (by omega)
        have hb := rb_orlt p1 p2
        have g3 := g3 (by omega)
        show ∃ S', (if σ.1 k 1 ≤ nI j then _ else if rb_ib (nI j) 48 then rb_lt (nI S &&& (((1 <<< ((xf_Pole_overIn (σ.1 (k + 3) (nI j).toNatClampNeg) σ) &&& 31)) ||| (1 <<< ((xf_Pole_underIn (σ.1 (k + 3) (nI j).toNatClampNeg) σ) &&& 31))) ^^^ (-1))) (fun v5 => xl_Pole_freeDancers_11 k σ f v5 (nI j + 1)) else none) = some (nI S') ∧ _
        rw [h.1, if_neg (nI_ge hjm (by omega)), f0, if_pos rfl, f2, f3, rb_1l (by omega), rb_1l (by omega), rb_or, g1, rb_lt_eq, nI_1]
        refine ih (j + 1) c (by omega) (by omega) ⟨by have := hS.1; omega, fun d => ?_⟩
        rw [g3 d, Bool.and_eq_true, hS.2 d, Bool.not_eq_true', Nat.testBit_or, Nat.testBit_two_pow, Nat.testBit_two_pow, Bool.or_eq_false_iff, decide_eq_false_iff_not, decide_eq_false_iff_not]
        constructor
        · rintro ⟨⟨a1, a2⟩, a3, a4⟩
          refine ⟨a1, fun i hi => ?_⟩
          by_cases e : i = j
          · subst e; exact ⟨a3, a4⟩
          · exact a2 i (by omega)
        · rintro ⟨a1, a2⟩
          exact ⟨⟨a1, fun i hi => a2 i (by omega)⟩, (a2 j (by omega)).1, (a2 j (by omega)).2⟩
  have e0 : (1 : Int32) <<< (nI n &&& 31) - 1 = nI (2 ^ n - 1) := by
    rw [rb_1l (by omega)]
    exact rb_pr (Nat.two_pow_pos n)
  have pn : 2 ^ n < 2 ^ 8 := Nat.pow_lt_pow_right (by decide) (by omega)
  obtain ⟨S, a1, a2⟩ := key rb_FU 0 (2 ^ n - 1) (by omega) (by unfold rb_FU; omega) ⟨by omega, fun d => by
    rw [Nat.testBit_two_pow_sub_one, decide_eq_true_iff]
    exact ⟨fun q => ⟨q, fun i hi => by omega⟩, fun q => q.1⟩⟩
  refine ⟨S, ?_, a2⟩
  unfold xf_Pole_freeDancers
  have a1' : xl_Pole_freeDancers_11 k σ rb_FU (nI (2 ^ n - 1)) 0 = some (nI S) := a1
  rw [h0, e0, rb_lt_eq, a1', rb_b1_some]
theorem sm_free (W : rb_wfc n m cr) (h : rm_cr m cr (τ.1 17)) (h22 : τ.1 0 22 = nI n) : ∃ S, xf_M_freeOnes τ = some (nI S) ∧ sp_fr n m cr S := by
  have hm := W.2.1
  have hn := W.1
  have key : ∀ (f j S : Nat), j ≤ n → n - j < f → (S < 2 ^ 8 ∧ ∀ d, S.testBit d = true ↔ d < j ∧ ∀ i, i < m → cr i 1 ≠ d ∧ cr i 2 ≠ d) → ∃ S', xl_M_freeOnes_4 τ f (nI S) (nI j) = some (nI S') ∧ sp_fr n m cr S' := by
    intro f
    induction f with
    | zero => intro j S _ hf; omega
    | succ f ih =>
      intro j S hj hf hS
      by_cases ej : j = n
      · subst ej
        refine ⟨S, ?_, hS⟩
        show (if τ.1 0 22 ≤ nI j then some (nI S) else _) = _
        rw [h22, if_pos (nI_le (Nat.le_refl _) (by omega))]
      · have hjn : j < n := by omega
        have hle := sp_co_le (cr := cr) (d := j) m
        show ∃ S', (if τ.1 0 22 ≤ nI j then _ else rb_b1 (xf_M_crossingsOf (nI j) τ) fun r2 => if r2 = 0 then xl_M_freeOnes_4 τ f (nI S ||| (1 <<< (nI j &&& 31))) (nI j + 1) else xl_M_freeOnes_4 τ f (nI S ||| 0) (nI j + 1)) = some (nI S') ∧ _
        rw [h22, if_neg (nI_ge hjn (by omega)), sm_crossingsOf W h (by omega), rb_b1_some, rb_1l (by omega), rb_or, show nI S ||| (0 : Int32) = nI S from (rb_or S 0).trans (by rw [Nat.or_zero]), nI_1]
        have p1 : 2 ^ j < 2 ^ 8 := Nat.pow_lt_pow_right (by decide) (by omega)
        by_cases hc : sp_co cr j m = 0
        · rw [if_pos (show nI (sp_co cr j m) = 0 by rw [hc]; rfl)]
          refine ih (j + 1) _ (by omega) (by omega) ⟨rb_orlt hS.1 p1, fun d => ?_⟩
          rw [Nat.testBit_or, Bool.or_eq_true, hS.2 d, Nat.testBit_two_pow, decide_eq_true_iff]
          constructor
          · rintro (⟨a1, a2⟩ | a)
            · exact ⟨by omega, a2⟩
            · subst a; exact ⟨by omega, (sp_co_0 m).mp hc⟩
          · rintro ⟨a1, a2⟩
            by_cases e : j = d
            · exact Or.inr e
            · exact Or.inl ⟨by omega, a2⟩
        · rw [if_neg (nI_ne0 (by omega) (by omega))]
          refine ih (j + 1) _ (by omega) (by omega) ⟨hS.1, fun d => ?_⟩
          rw [hS.2 d]
          constructor
          · rintro ⟨a1, a2⟩; exact ⟨by omega, a2⟩
          · rintro ⟨a1, a2⟩
            refine ⟨?_, a2⟩
            by_cases e : d = j
            · subst e; exact absurd ((sp_co_0 m).mpr a2) hc
            · omega
  obtain ⟨S, a1, a2⟩ := key rb_FU 0 0 (by omega) (by unfold rb_FU; omega) ⟨by decide, fun d => by
    rw [Nat.zero_testBit]
    exact ⟨fun q => absurd q (by decide), fun q => by omega⟩⟩
  refine ⟨S, ?_, a2⟩
  have a1' : xl_M_freeOnes_4 τ rb_FU 0 0 = some (nI S) := a1
  unfold xf_M_freeOnes
  rw [a1', rb_b1_some]
/-- the measures -/
def sp_me (tr ln : Nat → Nat) (cr : Nat → Nat → Nat) (m : Nat) (p : Int32) (d : Nat) : Int32 := if p = 0 then nI (ln d) - nI (sp_ta cr d m) else if p = 1 then -(nI (ln d) - nI (sp_ta cr d m)) else if p = 2 then nI (sp_co cr d m) else nI (tr (3 * d + 2))
theorem rb_top (D : RD n ru tr lc ho La wh ln m cr co be lg σ τ) (p : Int32) : ∃ r, xf_RP_foremost p σ = some r ∧ xf_M_topBy p τ = some r := by
  obtain ⟨⟨G, -, g, gM, -, -⟩, -, -, P, X, -, M, -⟩ := D
  have hn := G.1
  have wM := pm_wh hn gM.1 M
  have m1 : ∀ d, d < n → xf_RP_measure (nI d) p σ = some (sp_me tr ln cr m p d) := by
    intro d hd
    unfold xf_RP_measure sp_me
    rw [sx_leftOf P.1.1 P.1.2.2.1 X.1 X.2.1 hd, rb_b1_some, rb_b1_some, sx_crossingsOf P.1.2.2.1 X.2.1 (by omega), rb_b1_some, rb_l2, sx_trait G g hd (by decide), rb_b1_some]
    split
    · rfl
    · split
      · rfl
      · split <;> rfl
  have m2 : ∀ d, d < n → xf_M_valueOf (nI d) p τ = some (sp_me tr ln cr m p d) := by
    intro d hd
    unfold xf_M_valueOf sp_me
    rw [sm_leftOf P.1.1 P.1.2.2.1 wM M.2.2.1 hd, rb_b1_some, rb_b1_some, sm_crossingsOf P.1.2.2.1 M.2.2.1 (by omega), rb_b1_some, rb_l2, sm_told G gM hd (by decide), rb_b1_some]
    split
    · rfl
    · split
      · rfl
      · split <;> rfl
  have key : ∀ (f i b : Nat), (n = 0 ∨ b < n) → 1 ≤ i → n ≤ i + (f - 1) → 0 < f → ∃ r, xl_RP_foremost_4 p σ f (nI b) (nI i) = some r ∧ xl_M_topBy_4 p τ f (nI b) (nI i) = some r ∨ ¬ i < 2 ^ 20 := by
    intro f
    induction f with
    | zero => intro i b _ _ _ h; omega
    | succ f ih =>
      intro i b hb h1 h2 _
      by_cases hi : i < 2 ^ 20
      · by_cases hc : n ≤ i
        · refine ⟨nI b, Or.inl ⟨?_, ?_⟩⟩
          · show (if σ.1 15 2 ≤ nI i then some (nI b) else _) = _
            rw [g.1, if_pos (nI_le hc (by omega))]
          · show (if τ.1 0 22 ≤ nI i then some (nI b) else _) = _
            rw [gM.1, if_pos (nI_le hc (by omega))]
        · have hb' : b < n := by omega
          have s1 : xl_RP_foremost_4 p σ (f + 1) (nI b) (nI i) = xl_RP_foremost_4 p σ f (nI (if sp_me tr ln cr m p i ≤ sp_me tr ln cr m p b then b else i)) (nI (i + 1)) := by
            show (if σ.1 15 2 ≤ nI i then _ else rb_b1 (xf_RP_measure (nI i) p σ) fun r2 => rb_b1 (xf_RP_measure (nI b) p σ) fun r4 => if r2 ≤ r4 then xl_RP_foremost_4 p σ f (nI b) (nI i + 1) else xl_RP_foremost_4 p σ f (nI i) (nI i + 1)) = _
            rw [g.1, if_neg (nI_ge (by omega) (by omega)), m1 i (by omega), m1 b hb', rb_b1_some, rb_b1_some, nI_1]
            split <;> rfl
          have s2 : xl_M_topBy_4 p τ (f + 1) (nI b) (nI i) = xl_M_topBy_4 p τ f (nI (if sp_me tr ln cr m p i ≤ sp_me tr ln cr m p b then b else i)) (nI (i + 1)) := by
            show (if τ.1 0 22 ≤ nI i then _ else rb_b1 (xf_M_valueOf (nI i) p τ) fun r2 => rb_b1 (xf_M_valueOf (nI b) p τ) fun r4 => if r2 ≤ r4 then xl_M_topBy_4 p τ f (nI b) (nI i + 1) else xl_M_topBy_4 p τ f (nI i) (nI i + 1)) = _
            rw [gM.1, if_neg (nI_ge (by omega) (by omega)), m2 i (by omega), m2 b hb', rb_b1_some, rb_b1_some, nI_1]
            split <;> rfl
          rw [s1, s2]
          obtain ⟨r, hr⟩ := ih (i + 1) (if sp_me tr ln cr m p i ≤ sp_me tr ln cr m p b then b else i) (by split <;> omega) (by omega) (by omega) (by omega)
          rcases hr with hr | hr
          · exact ⟨r, Or.inl hr⟩
          · omega
      · exact ⟨0, Or.inr hi⟩
  obtain ⟨r, hr⟩ := key rb_FU 1 0 (by omega) (by omega) (by unfold rb_FU; omega) (by unfold rb_FU; omega)
  rcases hr with ⟨r1, r2⟩ | hr
  · have r1' : xl_RP_foremost_4 p σ rb_FU 0 1 = some r := r1
    have r2' : xl_M_topBy_4 p τ rb_FU 0 1 = some r := r2
    exact ⟨r, by unfold xf_RP_foremost; rw [r1', rb_b1_some], by unfold xf_M_topBy; rw [r2', rb_b1_some]⟩
  · omega
end RBS
theorem rb_ops_shares : op_shares Rel := by
  intro σ τ R p q
  obtain ⟨n, ru, tr, lc, ho, La, wh, ln, m, cr, co, be, lg, D⟩ := Rel_D R
  obtain ⟨⟨gw1, -, gx1, gm1, -, -⟩, b, A, P, px1, -, pm1, -⟩ := id D
  have h7 := gw1.1
  have t1 := sx_takenOfAll P.1.2.2.1 px1.2.1
  have t2 := sm_takenAll P.1.2.2.1 (fun i hi => (P.1.2.2.2.2 i hi).1) pm1.2.2.1 gm1.1
  unfold xf_RP_shares xf_M_shares
  rcases rb_isD h7 gx1.1 gm1.1 p with ⟨d, h1, rfl, e1, e2⟩ | ⟨e1, e2⟩
  · rw [e1, e2, rb_b1_some, if_neg (show ¬ (1 : Int32) = 0 by decide), if_neg (show ¬ (1 : Int32) = 0 by decide), t1, t2, rb_b1_some, rb_b1_some, sx_takenOf P.1.2.2.1 px1.2.1 (by omega), rb_b1_some, sm_takenOf P.1.2.2.1 pm1.2.2.1 (by omega), rb_b1_some, rb_b1_some]
    rcases rb_inL 0 999 (by decide) (by decide) q τ with ⟨j, _, h2, rfl, e⟩ | ⟨h2, e⟩
    · have e' : xf_M_in (nI j) 0 999 τ = 1 := e
      rw [e', if_neg (nI_pos (by omega)), if_pos (show nI j ≤ (999 : Int32) from nI_le (b := 999) h2 (by decide)), if_neg (show ¬ (1 : Int32) = 0 by decide)]
      by_cases h0 : nI (sp_tal cr m) = 0
      · exact ⟨0, by rw [if_pos h0], by rw [if_pos h0], R⟩
      · exact ⟨(nI j * nI (sp_ta cr d m)) / nI (sp_tal cr m), by rw [if_neg h0, if_neg h0], by rw [if_neg h0, if_neg h0], R⟩
    · have e' : xf_M_in q 0 999 τ = 0 := e
      refine ⟨-1, ?_, by rw [e', if_pos rfl], R⟩
      rcases h2 with h2 | ⟨h3, h2⟩
      · rw [if_pos (show q < 0 from h2)]
      · rw [if_neg (show ¬ q < 0 from h3), if_neg]
        intro w
        rw [Int32.lt_iff_toInt_lt] at h2
        rw [Int32.le_iff_toInt_le] at w
        rw [nI_toInt (by decide)] at h2
        have e9 : (999 : Int32).toInt = 999 := by decide
        omega
  · exact ⟨-1, by rw [e1, if_pos rfl], by rw [e2, rb_b1_some, if_pos rfl], R⟩
