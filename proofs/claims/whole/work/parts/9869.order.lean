/-! NEAREST: a told order, digit by digit -/
def of_d (r t i : Nat) : Nat := r / 10 ^ (t - 1 - i) % 10
theorem of_d0 (r t : Nat) : of_d r (t + 1) t = r % 10 := by
  unfold of_d
  rw [show t + 1 - 1 - t = 0 by omega, Nat.pow_zero, Nat.div_one]
theorem of_d1 (r t i : Nat) (hi : i < t) : of_d (r / 10) t i = of_d r (t + 1) i := by
  unfold of_d
  rw [show t + 1 - 1 - i = (t - 1 - i) + 1 by omega, Nat.pow_succ', Nat.div_div_eq_div_mul]
theorem of_dl (r t i : Nat) : of_d r t i < 10 := Nat.mod_lt _ (by decide)
def of_ok (n r t s : Nat) : Prop := (∀ i, i < t → of_d r t i < n ∧ s.testBit (of_d r t i) = false) ∧ ∀ i j, i < t → j < t → of_d r t i = of_d r t j → i = j
theorem of_bt (s g b : Nat) : (s ||| 2 ^ g).testBit b = true ↔ s.testBit b = true ∨ g = b := by
  rw [Nat.testBit_or, Nat.testBit_two_pow, Bool.or_eq_true, decide_eq_true_iff]
theorem of_bf (s g b : Nat) : (s ||| 2 ^ g).testBit b = false ↔ s.testBit b = false ∧ g ≠ b := by
  have h := of_bt s g b
  constructor
  · intro q
    refine ⟨?_, fun e => ?_⟩
    · cases c : s.testBit b
      · rfl
      · rw [h.2 (Or.inl c)] at q; cases q
    · rw [h.2 (Or.inr e)] at q; cases q
  · intro ⟨q1, q2⟩
    cases c : (s ||| 2 ^ g).testBit b
    · rfl
    · rcases h.1 c with k | k
      · rw [k] at q1; cases q1
      · exact absurd k q2
theorem of_ok_succ (n r t s : Nat) : of_ok n r (t + 1) s ↔ (r % 10 < n ∧ s.testBit (r % 10) = false) ∧ of_ok n (r / 10) t (s ||| 2 ^ (r % 10)) := by
  constructor
  · intro ⟨h1, h2⟩
    have h := h1 t (by omega)
    rw [of_d0] at h
    refine ⟨h, fun i hi => ?_, fun i j hi hj e => ?_⟩
    · have k := h1 i (by omega)
      rw [of_d1 r t i hi]
      refine ⟨k.1, (of_bf _ _ _).2 ⟨k.2, fun e => ?_⟩⟩
      have := h2 t i (by omega) (by omega) (by rw [of_d0]; exact e)
      omega
    · rw [of_d1 r t i hi, of_d1 r t j hj] at e
      exact h2 i j (by omega) (by omega) e
  · intro ⟨h, h1, h2⟩
    have k : ∀ i, i < t → of_d r (t + 1) i < n ∧ s.testBit (of_d r (t + 1) i) = false ∧ r % 10 ≠ of_d r (t + 1) i := fun i hi => by
      have k := h1 i hi
      rw [of_d1 r t i hi] at k
      exact ⟨k.1, (of_bf _ _ _).1 k.2⟩
    refine ⟨fun i hi => ?_, fun i j hi hj e => ?_⟩
    · by_cases c : i = t
      · rw [c, of_d0]; exact h
      · exact ⟨(k i (by omega)).1, (k i (by omega)).2.1⟩
    · by_cases ci : i = t
      · by_cases cj : j = t
        · omega
        · rw [ci, of_d0] at e
          exact absurd e (k j (by omega)).2.2
      · by_cases cj : j = t
        · rw [cj, of_d0] at e
          exact absurd e.symm (k i (by omega)).2.2
        · rw [← of_d1 r t i (by omega), ← of_d1 r t j (by omega)] at e
          exact h2 i j (by omega) (by omega) e
theorem of_rem {r : Nat} (hr : r < 2 ^ 31) : nI r - nI r / 10 * 10 = nI (r % 10) := pk_rem (d := 10) hr (by decide) (by decide)
theorem of_div {r : Nat} (hr : r < 2 ^ 31) : nI r / 10 = nI (r / 10) := pk_div (d := 10) hr (by decide) (by decide)
theorem of_pow (r t : Nat) : r / 10 / 10 ^ t = r / 10 ^ (t + 1) := by
  rw [Nat.div_div_eq_div_mul, Nat.pow_succ']
section OFD
variable {n : Nat}
theorem sx_aim36 (h7 : n ≤ 7) : ∀ (t f r s : Nat) (σ : rb_St), t ≤ n → t < f → r < 2 ^ 31 → s < 2 ^ 7 → σ.1 236 0 = nI n → ∃ (cd : Nat) (y : Int32) (σ' : rb_St), xl_Way_aim_36 f (nI r) (nI s) (nI t - 1) σ = some (cd, y, σ') ∧ rb_fr (fun c _ => c = 238) σ σ' ∧ ((cd = 0 ∧ ¬ of_ok n r t s) ∨ (cd = 1 ∧ of_ok n r t s ∧ y = nI (r / 10 ^ t) ∧ (∀ i, i < t → σ'.1 238 (of_d r t i) = nI i) ∧ ∀ g, (∀ i, i < t → of_d r t i ≠ g) → σ'.1 238 g = σ.1 238 g)) := by
  intro t
  induction t with
  | zero =>
    intro f r s σ _ hf hr hs h0
    obtain ⟨f, rfl⟩ : ∃ q, f = q + 1 := ⟨f - 1, by omega⟩
    refine ⟨1, nI r, σ, ?_, rb_fr.rf, Or.inr ⟨rfl, ⟨fun i hi => absurd hi (Nat.not_lt_zero _), fun i j hi => absurd hi (Nat.not_lt_zero _)⟩, by rw [Nat.pow_zero, Nat.div_one], fun i hi => absurd hi (Nat.not_lt_zero _), fun g _ => rfl⟩⟩
    show (if nI 0 - 1 < 0 then some (1, nI r, σ) else _) = _
    rw [if_pos (by decide)]
  | succ t ih =>
    intro f r s σ ht hf hr hs h0
    obtain ⟨f, rfl⟩ : ∃ q, f = q + 1 := ⟨f - 1, by omega⟩
    have g10 : r % 10 < 10 := Nat.mod_lt _ (by decide)
    have e0 : ∀ (x3 x4 x5 : Int32), xl_Way_aim_36 (f + 1) x3 x4 x5 σ = if x5 < 0 then some (1, x3, σ) else if (x3 - x3 / 10 * 10) < 0 then some (0, x3, σ) else if (σ.1 236 0) ≤ (x3 - x3 / 10 * 10) then some (0, x3, σ) else if ((x4 >>> ((x3 - x3 / 10 * 10) &&& 31)) &&& 1) = 0 then rb_lt (x4 ||| (1 <<< ((x3 - x3 / 10 * 10) &&& 31))) (fun v9 => if rb_ib (x3 - x3 / 10 * 10) 8 then rb_lt (rb_sI σ 238 (x3 - x3 / 10 * 10).toNatClampNeg x5) (fun s12 => xl_Way_aim_36 f (x3 / 10) v9 (x5 + (-1)) s12) else none) else some (0, x3, σ) := fun _ _ _ => rfl
    have e1 : xl_Way_aim_36 (f + 1) (nI r) (nI s) (nI (t + 1) - 1) σ = if nI n ≤ nI (r % 10) then some (0, nI r, σ) else if ((nI s >>> (nI (r % 10) &&& 31)) &&& 1) = 0 then rb_lt (nI s ||| (1 <<< (nI (r % 10) &&& 31))) (fun v9 => if rb_ib (nI (r % 10)) 8 then rb_lt (rb_sI σ 238 (nI (r % 10)).toNatClampNeg (nI t)) (fun s12 => xl_Way_aim_36 f (nI r / 10) v9 (nI t + (-1)) s12) else none) else some (0, nI r, σ) := by
      rw [e0, nI_pred, if_neg (nI_pos (by omega)), of_rem hr, if_neg (nI_pos (by omega)), h0]
    by_cases c1 : n ≤ r % 10
    · refine ⟨0, nI r, σ, ?_, rb_fr.rf, Or.inl ⟨rfl, fun q => ?_⟩⟩
      · rw [e1, if_pos (nI_le c1 (by omega))]
      · have := ((of_ok_succ n r t s).1 q).1.1
        omega
    · have c1' : r % 10 < n := by omega
      by_cases c2 : s.testBit (r % 10) = false
      · have hs2 : s ||| 2 ^ (r % 10) < 2 ^ 7 := Nat.or_lt_two_pow hs (Nat.pow_lt_pow_right (by omega) (by omega))
        have f1 : rb_fr (fun c _ => c = 238) σ (rb_sI σ 238 (r % 10) (nI t)) := rb_fr.sI rfl
        obtain ⟨cd, y, σ', a1, a2, a3⟩ := ih f (r / 10) (s ||| 2 ^ (r % 10)) (rb_sI σ 238 (r % 10) (nI t)) (by omega) (by omega) (by omega) hs2 (by rw [f1.1 236 0 (by omega)]; exact h0)
        refine ⟨cd, y, σ', ?_, f1.tr a2, ?_⟩
        · rw [e1, if_neg (nI_ge c1' (by omega)), if_pos ((rb_bit0 (by omega) (by omega)).2 c2), rb_1l (by omega), rb_or, rb_lt_eq, rb_ib_nI (by omega) (by decide), if_pos rfl, nI_clamp (n := r % 10) (by omega), rb_lt_eq, of_div hr, ← Int32.sub_eq_add_neg]
          exact a1
        · rcases a3 with ⟨b1, b2⟩ | ⟨b1, b2, b3, b4, b5⟩
          · exact Or.inl ⟨b1, fun q => b2 ((of_ok_succ n r t s).1 q).2⟩
          · have ok : of_ok n r (t + 1) s := (of_ok_succ n r t s).2 ⟨⟨c1', c2⟩, b2⟩
            refine Or.inr ⟨b1, ok, by rw [b3, of_pow], fun i hi => ?_, fun g hg => ?_⟩
            · by_cases ci : i = t
              · rw [ci, of_d0, b5 _ (fun j hj e => ?_), rb_sI_eq]
                rw [of_d1 r t j hj] at e
                have := ok.2 j t (by omega) (by omega) (by rw [of_d0]; exact e)
                omega
              · rw [← of_d1 r t i (by omega)]
                exact b4 i (by omega)
            · have k1 := hg t (by omega)
              rw [of_d0] at k1
              rw [b5 g (fun i hi => by rw [of_d1 r t i hi]; exact hg i (by omega)), rb_sIg _ _ _ _ _ _ (fun z => k1 z.2.symm)]
      · refine ⟨0, nI r, σ, ?_, rb_fr.rf, Or.inl ⟨rfl, fun q => c2 ((of_ok_succ n r t s).1 q).1.2⟩⟩
        rw [e1, if_neg (nI_ge c1' (by omega)), if_neg (fun q => c2 ((rb_bit0 (by omega) (by omega)).1 q))]
theorem of_neg {x : Int32} (h : x < 0) (g : ¬ (x - x / 10 * 10 < 0)) : x / 10 < 0 := by
  by_cases c : x / 10 < 0
  · exact c
  exfalso
  have e : (x / 10).toInt = x.toInt.tdiv 10 := Int32.toInt_div_of_ne_right x 10 (by decide)
  have z0 : (0 : Int32).toInt = 0 := rfl
  have hx : x.toInt < 0 := by
    rw [Int32.lt_iff_toInt_lt, z0] at h
    exact h
  have h1 : 0 ≤ (x / 10).toInt := by
    rw [Int32.lt_iff_toInt_lt, z0] at c
    omega
  have h2 : x.toInt.tdiv 10 = -((-x.toInt) / 10) := by
    have k1 : (-x.toInt).tdiv 10 = (-x.toInt) / 10 := Int.tdiv_eq_ediv_of_nonneg (by omega)
    rw [Int.neg_tdiv] at k1
    omega
  have h4 : x / 10 = 0 := Int32.toInt_inj.mp (by rw [z0]; omega)
  rw [h4] at g
  exact g (by simpa using h)
theorem sx_aimN : ∀ (t f : Nat) (x s : Int32) (σ : rb_St), t ≤ 7 → t < f → x < 0 → σ.1 236 0 = nI n → n ≤ 7 → ∃ (cd : Nat) (y : Int32) (σ' : rb_St), xl_Way_aim_36 f x s (nI t - 1) σ = some (cd, y, σ') ∧ rb_fr (fun c _ => c = 238) σ σ' ∧ (cd = 0 ∨ (cd = 1 ∧ y ≠ 0)) := by
  intro t
  induction t with
  | zero =>
    intro f x s σ _ hf hx h0 h7
    obtain ⟨f, rfl⟩ : ∃ q, f = q + 1 := ⟨f - 1, by omega⟩
    refine ⟨1, x, σ, ?_, rb_fr.rf, Or.inr ⟨rfl, fun e => by rw [e] at hx; exact absurd hx (by decide)⟩⟩
    show (if nI 0 - 1 < 0 then some (1, x, σ) else _) = _
    rw [if_pos (by decide)]
  | succ t ih =>
    intro f x s σ ht hf hx h0 h7
    obtain ⟨f, rfl⟩ : ∃ q, f = q + 1 := ⟨f - 1, by omega⟩
    have e0 : ∀ (x5 : Int32), xl_Way_aim_36 (f + 1) x s x5 σ = if x5 < 0 then some (1, x, σ) else if (x - x / 10 * 10) < 0 then some (0, x, σ) else if (σ.1 236 0) ≤ (x - x / 10 * 10) then some (0, x, σ) else if ((s >>> ((x - x / 10 * 10) &&& 31)) &&& 1) = 0 then rb_lt (s ||| (1 <<< ((x - x / 10 * 10) &&& 31))) (fun v9 => if rb_ib (x - x / 10 * 10) 8 then rb_lt (rb_sI σ 238 (x - x / 10 * 10).toNatClampNeg x5) (fun s12 => xl_Way_aim_36 f (x / 10) v9 (x5 + (-1)) s12) else none) else some (0, x, σ) := fun _ => rfl
    by_cases c1 : (x - x / 10 * 10) < 0
    · exact ⟨0, x, σ, by rw [e0, nI_pred, if_neg (nI_pos (by omega)), if_pos c1], rb_fr.rf, Or.inl rfl⟩
    · have hx2 := of_neg hx c1
      rw [e0, nI_pred, if_neg (nI_pos (by omega)), if_neg c1, h0]
      by_cases c2 : nI n ≤ (x - x / 10 * 10)
      · exact ⟨0, x, σ, by rw [if_pos c2], rb_fr.rf, Or.inl rfl⟩
      · obtain ⟨k, hk1, hk2⟩ : ∃ k, k < 8 ∧ (x - x / 10 * 10) = nI k := by
          obtain ⟨d, hd⟩ : ∃ d, d = x - x / 10 * 10 := ⟨_, rfl⟩
          rw [← hd] at c1 c2 ⊢
          refine ⟨d.toInt.toNat, ?_, ?_⟩
          · rw [Int32.le_iff_toInt_le, nI_toInt (by omega)] at c2
            omega
          · rw [Int32.lt_iff_toInt_lt, show (0 : Int32).toInt = 0 from rfl] at c1
            rw [Int32.le_iff_toInt_le, nI_toInt (by omega)] at c2
            apply Int32.toInt_inj.mp
            rw [nI_toInt (by omega)]
            omega
        rw [if_neg c2, hk2]
        by_cases c3 : ((s >>> (nI k &&& 31)) &&& 1) = 0
        · have f1 : rb_fr (fun c _ => c = 238) σ (rb_sI σ 238 k (nI t)) := rb_fr.sI rfl
          obtain ⟨cd, y, σ', a1, a2, a3⟩ := ih f (x / 10) (s ||| (1 <<< (nI k &&& 31))) (rb_sI σ 238 k (nI t)) (by omega) (by omega) hx2 (by rw [f1.1 236 0 (by omega)]; exact h0) h7
          refine ⟨cd, y, σ', ?_, f1.tr a2, a3⟩
          rw [if_pos c3, rb_lt_eq, rb_ib_nI hk1 (by decide), if_pos rfl, nI_clamp (n := k) (by omega), rb_lt_eq, ← Int32.sub_eq_add_neg]
          exact a1
        · exact ⟨0, x, σ, by rw [if_neg c3], rb_fr.rf, Or.inl rfl⟩
theorem sm_iso12 (h7 : n ≤ 7) (x1 : Int32) : ∀ (t f r s : Nat) (τ : rb_St), t ≤ n → t < f → r < 2 ^ 31 → s < 2 ^ 10 → ∃ (s' : Nat) (τ' : rb_St), xl_M_isOrder_12 x1 f (nI r) (nI s) (nI t - 1) τ = some (nI (r / 10 ^ t), nI s', τ') ∧ s' < 2 ^ 10 ∧ (∀ b, s'.testBit b = true ↔ s.testBit b = true ∨ ∃ i, i < t ∧ of_d r t i = b) ∧ (∀ i, i < t → τ'.1 27 i = nI (of_d r t i)) ∧ (∀ i, t ≤ i → τ'.1 27 i = τ.1 27 i) ∧ rb_fr (fun c _ => c = 27) τ τ' := by
  intro t
  induction t with
  | zero =>
    intro f r s τ _ hf hr hs
    obtain ⟨f, rfl⟩ : ∃ q, f = q + 1 := ⟨f - 1, by omega⟩
    refine ⟨s, τ, ?_, hs, fun b => ⟨Or.inl, fun q => q.elim id (fun ⟨i, hi, _⟩ => absurd hi (Nat.not_lt_zero _))⟩, fun i hi => absurd hi (Nat.not_lt_zero _), fun i _ => rfl, rb_fr.rf⟩
    show (if nI 0 - 1 < 0 then some (nI r, nI s, τ) else _) = _
    rw [if_pos (by decide), Nat.pow_zero, Nat.div_one]
  | succ t ih =>
    intro f r s τ ht hf hr hs
    obtain ⟨f, rfl⟩ : ∃ q, f = q + 1 := ⟨f - 1, by omega⟩
    have g10 : r % 10 < 10 := Nat.mod_lt _ (by decide)
    obtain ⟨s3, hs3⟩ : ∃ s3, s3 = rb_sI τ 27 t (nI (r % 10)) := ⟨_, rfl⟩
    have f1 : rb_fr (fun c _ => c = 27) τ s3 := by rw [hs3]; exact rb_fr.sI rfl
    have r3 : s3.1 27 t = nI (r % 10) := by rw [hs3, rb_sI_eq]
    have hs2 : s ||| 2 ^ (r % 10) < 2 ^ 10 := Nat.or_lt_two_pow hs (Nat.pow_lt_pow_right (by omega) (by omega))
    obtain ⟨s', τ', a1, a2, a3, a4, a5, a6⟩ := ih f (r / 10) (s ||| 2 ^ (r % 10)) s3 (by omega) (by omega) (by omega) hs2
    have e0 : ∀ (x4 : Int32), xl_M_isOrder_12 x1 (f + 1) (nI r) (nI s) x4 τ = if x4 < 0 then some (nI r, nI s, τ) else if rb_ib x4 7 then rb_lt (rb_sI τ 27 x4.toNatClampNeg (nI r - nI r / 10 * 10)) (fun s3 => rb_lt (nI s ||| (1 <<< ((s3.1 27 x4.toNatClampNeg) &&& 31))) (fun v5 => xl_M_isOrder_12 x1 f (nI r / 10) v5 (x4 + (-1)) s3)) else none := fun _ => rfl
    refine ⟨s', τ', ?_, a2, fun b => ?_, fun i hi => ?_, fun i hi => ?_, f1.tr a6⟩
    · rw [e0, nI_pred, if_neg (nI_pos (by omega)), rb_ib_nI (by omega) (by decide), if_pos rfl, nI_clamp (n := t) (by omega), of_rem hr, rb_lt_eq, ← hs3, r3, rb_1l (by omega), rb_or, rb_lt_eq, of_div hr, ← Int32.sub_eq_add_neg, a1, of_pow]
    · rw [a3, of_bt]
      constructor
      · intro q
        rcases q with (q | q) | ⟨i, q1, q2⟩
        · exact Or.inl q
        · exact Or.inr ⟨t, by omega, by rw [of_d0]; exact q⟩
        · exact Or.inr ⟨i, by omega, by rw [← of_d1 r t i q1]; exact q2⟩
      · intro q
        rcases q with q | ⟨i, q1, q2⟩
        · exact Or.inl (Or.inl q)
        · by_cases c : i = t
          · rw [c, of_d0] at q2
            exact Or.inl (Or.inr q2)
          · exact Or.inr ⟨i, by omega, by rw [of_d1 r t i (by omega)]; exact q2⟩
    · by_cases c : i = t
      · rw [c, a5 t (Nat.le_refl _), r3, of_d0]
      · rw [a4 i (by omega), of_d1 r t i (by omega)]
    · rw [a5 i (by omega), hs3, rb_sIg _ _ _ _ _ _ (by omega)]
theorem sm_isoA (x1 : Int32) : ∀ (t f : Nat) (x s : Int32) (τ : rb_St), t ≤ 7 → t < f → ∃ (y z : Int32) (τ' : rb_St), xl_M_isOrder_12 x1 f x s (nI t - 1) τ = some (y, z, τ') ∧ rb_fr (fun c _ => c = 27) τ τ' := by
  intro t
  induction t with
  | zero =>
    intro f x s τ _ hf
    obtain ⟨f, rfl⟩ : ∃ q, f = q + 1 := ⟨f - 1, by omega⟩
    refine ⟨x, s, τ, ?_, rb_fr.rf⟩
    show (if nI 0 - 1 < 0 then some (x, s, τ) else _) = _
    rw [if_pos (by decide)]
  | succ t ih =>
    intro f x s τ ht hf
    obtain ⟨f, rfl⟩ : ∃ q, f = q + 1 := ⟨f - 1, by omega⟩
    obtain ⟨s3, hs3⟩ : ∃ s3, s3 = rb_sI τ 27 t (x - x / 10 * 10) := ⟨_, rfl⟩
    have f1 : rb_fr (fun c _ => c = 27) τ s3 := by rw [hs3]; exact rb_fr.sI rfl
    have e0 : ∀ (x4 : Int32), xl_M_isOrder_12 x1 (f + 1) x s x4 τ = if x4 < 0 then some (x, s, τ) else if rb_ib x4 7 then rb_lt (rb_sI τ 27 x4.toNatClampNeg (x - x / 10 * 10)) (fun s3 => rb_lt (s ||| (1 <<< ((s3.1 27 x4.toNatClampNeg) &&& 31))) (fun v5 => xl_M_isOrder_12 x1 f (x / 10) v5 (x4 + (-1)) s3)) else none := fun _ => rfl
    obtain ⟨y, z, τ', a1, a2⟩ := ih f (x / 10) (s ||| (1 <<< ((s3.1 27 t) &&& 31))) s3 (by omega) (by omega)
    refine ⟨y, z, τ', ?_, f1.tr a2⟩
    rw [e0, nI_pred, if_neg (nI_pos (by omega)), rb_ib_nI (by omega) (by decide), if_pos rfl, nI_clamp (n := t) (by omega), rb_lt_eq, ← hs3, rb_lt_eq, ← Int32.sub_eq_add_neg]
    exact a1
end OFD
