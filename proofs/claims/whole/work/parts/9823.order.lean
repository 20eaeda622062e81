/-! THE ORDER: of those not told yet that are free the one with the lowest letter -/
theorem rb_sl64 : ∀ n, n < 64 → ((((nI n).toInt64 &&& 63).toBitVec.smod 64).toNat) = n := by decide +kernel
theorem rb_anL (a b : Nat) : lN a &&& lN b = lN (a &&& b) := by
  apply Int64.toBitVec_inj.mp
  show BitVec.ofNat 64 a &&& BitVec.ofNat 64 b = BitVec.ofNat 64 (a &&& b)
  apply BitVec.eq_of_getLsbD_eq
  intro i hi
  simp only [BitVec.getLsbD_and, BitVec.getLsbD_ofNat, Nat.testBit_and, hi, decide_true, Bool.true_and]
theorem rb_xrL (a b : Nat) : lN a ^^^ lN b = lN (a ^^^ b) := by
  apply Int64.toBitVec_inj.mp
  show BitVec.ofNat 64 a ^^^ BitVec.ofNat 64 b = BitVec.ofNat 64 (a ^^^ b)
  apply BitVec.eq_of_getLsbD_eq
  intro i hi
  simp only [BitVec.getLsbD_xor, BitVec.getLsbD_ofNat, Nat.testBit_xor, hi, decide_true, Bool.true_and]
theorem rb_shrL {a s : Nat} (ha : a < 2 ^ 63) (hs : s < 64) : lN a >>> ((nI s).toInt64 &&& 63) = lN (a / 2 ^ s) := by
  apply Int64.toBitVec_inj.mp
  have e : (lN a >>> ((nI s).toInt64 &&& 63)).toBitVec = (BitVec.ofNat 64 a).sshiftRight ((((nI s).toInt64 &&& 63).toBitVec.smod 64).toNat) := rfl
  have hm : (BitVec.ofNat 64 a).msb = false := by
    rw [BitVec.msb_eq_false_iff_two_mul_lt, BitVec.toNat_ofNat, Nat.mod_eq_of_lt (by omega)]
    omega
  have hd : a / 2 ^ s ≤ a := Nat.div_le_self _ _
  rw [e, rb_sl64 s hs, BitVec.sshiftRight_eq_of_msb_false hm]
  apply BitVec.eq_of_toNat_eq
  show (BitVec.ofNat 64 a >>> s).toNat = (BitVec.ofNat 64 (a / 2 ^ s)).toNat
  rw [BitVec.toNat_ushiftRight, BitVec.toNat_ofNat, BitVec.toNat_ofNat, Nat.mod_eq_of_lt (by omega), Nat.mod_eq_of_lt (by omega), Nat.shiftRight_eq_div_pow]
theorem rb_1lL {s : Nat} (hs : s < 63) : (1 : Int64) <<< ((nI s).toInt64 &&& 63) = lN (2 ^ s) := by
  apply Int64.toBitVec_inj.mp
  have e : ((1 : Int64) <<< ((nI s).toInt64 &&& 63)).toBitVec = (1#64) <<< ((((nI s).toInt64 &&& 63).toBitVec.smod 64).toNat) := rfl
  rw [e, rb_sl64 s (by omega)]
  apply BitVec.eq_of_toNat_eq
  show ((1#64) <<< s).toNat = (BitVec.ofNat 64 (2 ^ s)).toNat
  rw [BitVec.toNat_shiftLeft, BitVec.toNat_ofNat, BitVec.toNat_ofNat, Nat.shiftLeft_eq]
  show 1 * 2 ^ s % 2 ^ 64 = _
  rw [Nat.one_mul]
theorem rb_bitL {a s : Nat} (ha : a < 2 ^ 63) (hs : s < 64) : (lg_cmp ((lN a >>> ((nI s).toInt64 &&& 63)) &&& 1) 0 = 0) ↔ a.testBit s = false := by
  have e : lN (a / 2 ^ s) &&& 1 = lN (a / 2 ^ s % 2) := by
    have := rb_anL (a / 2 ^ s) 1
    rw [show a / 2 ^ s &&& 1 = a / 2 ^ s % 2 from Nat.and_two_pow_sub_one_eq_mod (a / 2 ^ s) 1] at this
    exact this
  rw [rb_shrL ha hs, e, lg_cmp_eq, show (0 : Int64) = lN 0 from rfl, lN_eq (by omega) (by decide), Nat.testBit_eq_decide_div_mod_eq]
  constructor
  · intro h; rw [h]; rfl
  · intro h
    have h1 := of_decide_eq_false h
    omega
theorem rb_clrL {a b : Nat} (ha : a < 2 ^ 63) : ∃ c, lN a &&& (lN b ^^^ (-1)) = lN c ∧ c ≤ a ∧ ∀ d, c.testBit d = (a.testBit d && !b.testBit d) := by
  refine ⟨a &&& (b ^^^ (2 ^ 64 - 1)), ?_, Nat.and_le_left, fun d => ?_⟩
  · rw [show (-1 : Int64) = lN (2 ^ 64 - 1) from by decide, rb_xrL, rb_anL]
  · rw [Nat.testBit_and, Nat.testBit_xor, Nat.testBit_two_pow_sub_one]
    by_cases h : d < 64
    · rw [decide_eq_true h, Bool.xor_true]
    · have e1 : a.testBit d = false := Nat.testBit_lt_two_pow (Nat.lt_of_lt_of_le ha (Nat.pow_le_pow_right (by decide) (by omega)))
      rw [e1, Bool.false_and, Bool.false_and]
def sp_free (n : Nat) (L : Nat → Nat) (T : Nat → Bool) (i : Nat) : Bool := !T i && !sp_any (fun k => !T k && sp_tb n (L k / 2) (L i / 2)) i
def sp_best (n : Nat) (L : Nat → Nat) (T : Nat → Bool) : Nat → Nat
  | 0 => 0
  | i + 1 => if sp_free n L T i = true ∧ (sp_best n L T i = 0 ∨ L i < L (sp_best n L T i - 1)) then i + 1 else sp_best n L T i
theorem sp_best_s (n : Nat) (L : Nat → Nat) (T : Nat → Bool) (i : Nat) : sp_best n L T (i + 1) = if sp_free n L T i = true ∧ (sp_best n L T i = 0 ∨ L i < L (sp_best n L T i - 1)) then i + 1 else sp_best n L T i := rfl
theorem sp_best_le (n : Nat) (L : Nat → Nat) (T : Nat → Bool) : ∀ i, sp_best n L T i ≤ i := by
  intro i
  induction i with
  | zero => exact Nat.le_refl 0
  | succ i ih =>
    rw [sp_best_s]
    split <;> omega
theorem sp_best_free {n : Nat} {L : Nat → Nat} {T : Nat → Bool} : ∀ i, sp_best n L T i ≠ 0 → sp_free n L T (sp_best n L T i - 1) = true := by
  intro i
  induction i with
  | zero => intro h; exact absurd rfl h
  | succ i ih =>
    rw [sp_best_s]
    by_cases h : sp_free n L T i = true ∧ (sp_best n L T i = 0 ∨ L i < L (sp_best n L T i - 1))
    · rw [if_pos h]; intro _; exact h.1
    · rw [if_neg h]; exact ih
theorem sp_best_0 {n : Nat} {L : Nat → Nat} {T : Nat → Bool} : ∀ i, sp_best n L T i = 0 → ∀ k, k < i → sp_free n L T k = false := by
  intro i
  induction i with
  | zero => intro _ k hk; omega
  | succ i ih =>
    rw [sp_best_s]
    by_cases h : sp_free n L T i = true ∧ (sp_best n L T i = 0 ∨ L i < L (sp_best n L T i - 1))
    · rw [if_pos h]; intro q; omega
    · rw [if_neg h]
      intro q k hk
      by_cases e : k = i
      · subst e
        exact Bool.eq_false_iff.mpr (fun w => h ⟨w, Or.inl q⟩)
      · exact ih q k (by omega)
theorem sp_best_ex {n m : Nat} {L : Nat → Nat} {T : Nat → Bool} (h : ∃ i, i < m ∧ T i = false) : sp_best n L T m ≠ 0 := by
  intro q
  have h2 := sp_best_0 m q
  obtain ⟨k, ⟨hk1, hk2⟩, hk3⟩ := pk_least (fun i => i < m ∧ T i = false) h
  have := h2 k hk1
  unfold sp_free at this
  have ha : sp_any (fun j => !T j && sp_tb n (L j / 2) (L k / 2)) k = false := by
    apply Bool.eq_false_iff.mpr
    intro w
    obtain ⟨j, j1, j2⟩ := (sp_any_iff k).mp w
    rw [Bool.and_eq_true, Bool.not_eq_true'] at j2
    exact hk3 j j1 ⟨by omega, j2.1⟩
  rw [hk2, ha] at this
  cases this
/-- what is told behind t, and who is told then -/
def sp_ot (n : Nat) (L : Nat → Nat) (m : Nat) : Nat → Nat → Bool
  | 0 => fun _ => false
  | t + 1 => fun i => sp_ot n L m t i || (i == sp_best n L (sp_ot n L m t) m - 1)
def sp_oi (n : Nat) (L : Nat → Nat) (m t : Nat) : Nat := sp_best n L (sp_ot n L m t) m - 1
def sp_cn (T : Nat → Bool) : Nat → Nat
  | 0 => 0
  | k + 1 => if T k = true then sp_cn T k + 1 else sp_cn T k
theorem sp_cn_all {T : Nat → Bool} : ∀ m, (∀ i, i < m → T i = true) → sp_cn T m = m := by
  intro m
  induction m with
  | zero => intro _; rfl
  | succ m ih =>
    intro h
    show (if T m = true then sp_cn T m + 1 else sp_cn T m) = m + 1
    rw [if_pos (h m (by omega)), ih (fun i hi => h i (by omega))]
theorem sp_cn_none {T : Nat → Bool} : ∀ m, (∀ i, i < m → T i = false) → sp_cn T m = 0 := by
  intro m
  induction m with
  | zero => intro _; rfl
  | succ m ih =>
    intro h
    show (if T m = true then sp_cn T m + 1 else sp_cn T m) = 0
    rw [h m (by omega), if_neg (by decide), ih (fun i hi => h i (by omega))]
theorem sp_cn_add {T : Nat → Bool} {j : Nat} (hj : T j = false) : ∀ m, sp_cn (fun i => T i || (i == j)) m = sp_cn T m + (if j < m then 1 else 0) := by
  intro m
  induction m with
  | zero => rfl
  | succ m ih =>
    show (if (T m || (m == j)) = true then sp_cn (fun i => T i || (i == j)) m + 1 else sp_cn (fun i => T i || (i == j)) m) = (if T m = true then sp_cn T m + 1 else sp_cn T m) + (if j < m + 1 then 1 else 0)
    rw [ih]
    by_cases e : m = j
    · subst e
      rw [hj, beq_self_eq_true, Bool.or_true, if_pos rfl, if_neg (show ¬ m < m by omega), if_neg (show ¬ false = true by decide), if_pos (show m < m + 1 by omega)]
    · have e2 : (m == j) = false := beq_eq_false_iff_ne.mpr e
      rw [e2, Bool.or_false]
      by_cases h1 : j < m
      · rw [if_pos h1, if_pos (show j < m + 1 by omega)]
        split <;> omega
      · rw [if_neg h1, if_neg (show ¬ j < m + 1 by omega)]
        split <;> omega
theorem sp_ot_cn {n m : Nat} {L : Nat → Nat} : ∀ t, t ≤ m → sp_cn (sp_ot n L m t) m = t := by
  intro t
  induction t with
  | zero => intro _; exact sp_cn_none m (fun _ _ => rfl)
  | succ t ih =>
    intro ht
    have h1 := ih (by omega)
    have hex : ∃ i, i < m ∧ sp_ot n L m t i = false := by
      by_cases q : ∃ i, i < m ∧ sp_ot n L m t i = false
      · exact q
      · have := sp_cn_all (T := sp_ot n L m t) m (fun i hi => by
          cases hh : sp_ot n L m t i with
          | true => rfl
          | false => exact absurd ⟨i, hi, hh⟩ q)
        omega
    have hb := sp_best_ex (n := n) (L := L) hex
    have hf := sp_best_free m hb
    have hl := sp_best_le n L (sp_ot n L m t) m
    have hT : sp_ot n L m t (sp_best n L (sp_ot n L m t) m - 1) = false := by
      unfold sp_free at hf
      rw [Bool.and_eq_true, Bool.not_eq_true'] at hf
      exact hf.1
    show sp_cn (fun i => sp_ot n L m t i || (i == sp_best n L (sp_ot n L m t) m - 1)) m = t + 1
    rw [sp_cn_add hT, h1, if_pos (by omega)]
theorem sp_ot_ex {n m t : Nat} {L : Nat → Nat} (ht : t < m) : sp_best n L (sp_ot n L m t) m ≠ 0 := by
  apply sp_best_ex
  by_cases q : ∃ i, i < m ∧ sp_ot n L m t i = false
  · exact q
  · have h1 := sp_ot_cn (n := n) (L := L) t (show t ≤ m by omega)
    have := sp_cn_all (T := sp_ot n L m t) m (fun i hi => by
      cases hh : sp_ot n L m t i with
      | true => rfl
      | false => exact absurd ⟨i, hi, hh⟩ q)
    omega
theorem sp_oi_lt {n m t : Nat} {L : Nat → Nat} (ht : t < m) : sp_oi n L m t < m := by
  have := sp_ot_ex (n := n) (L := L) ht
  have := sp_best_le n L (sp_ot n L m t) m
  unfold sp_oi
  omega
theorem sp_best_co {n : Nat} {L L2 : Nat → Nat} {T : Nat → Bool} : ∀ m, (∀ i, i < m → L i = L2 i) → sp_best n L T m = sp_best n L2 T m := by
  intro m
  induction m with
  | zero => intro _; rfl
  | succ m ih =>
    intro h
    have h1 := ih (fun i hi => h i (by omega))
    have hle := sp_best_le n L2 T m
    have hf : sp_free n L T m = sp_free n L2 T m := by
      unfold sp_free
      congr 2
      rw [Bool.eq_iff_iff, sp_any_iff, sp_any_iff]
      constructor
      · rintro ⟨i, a, b⟩
        exact ⟨i, a, by rw [← h i (by omega), ← h m (by omega)]; exact b⟩
      · rintro ⟨i, a, b⟩
        exact ⟨i, a, by rw [h i (by omega), h m (by omega)]; exact b⟩
    rw [sp_best_s, sp_best_s, h1, hf, h m (by omega)]
    by_cases e : sp_best n L2 T m = 0
    · simp [e]
    · rw [h (sp_best n L2 T m - 1) (by omega)]
theorem sp_ot_co {n m : Nat} {L L2 : Nat → Nat} (h : ∀ i, i < m → L i = L2 i) : ∀ t, sp_ot n L m t = sp_ot n L2 m t := by
  intro t
  induction t with
  | zero => rfl
  | succ t ih =>
    funext i
    show (sp_ot n L m t i || (i == sp_best n L (sp_ot n L m t) m - 1)) = (sp_ot n L2 m t i || (i == sp_best n L2 (sp_ot n L2 m t) m - 1))
    rw [ih, sp_best_co m h]
theorem sp_oi_co {n m : Nat} {L L2 : Nat → Nat} (h : ∀ i, i < m → L i = L2 i) (t : Nat) : sp_oi n L m t = sp_oi n L2 m t := by
  unfold sp_oi
  rw [sp_ot_co h, sp_best_co m h]
section RBV
variable {n m k : Nat} {cr : Nat → Nat → Nat} {σ τ : rb_St}
/-- the class: who is told next -/
theorem sx_told1 (W : rb_wfc n m cr) (h : rx_cr k m cr σ) (h0 : σ.1 k 0 = nI n) {T : Nat → Bool} {U : Nat} (hU : U < 2 ^ 48) (hT : ∀ i, i < m → (U.testBit i = true ↔ T i = false)) : ∀ (f j B : Nat), j ≤ m → m - j < f → B < 2 ^ 8 → (∀ q, q < n → (B.testBit q = true ↔ ∃ i, i < j ∧ T i = false ∧ sp_tb n (cr i 0 / 2) q = true)) → xl_Pole_toldNext_12 k (lN U) σ f (nI B) (nI (sp_best n (fun i => cr i 0) T j - 1)) (nI (if sp_best n (fun i => cr i 0) T j = 0 then 20 else cr (sp_best n (fun i => cr i 0) T j - 1) 0)) (nI j) = some (nI (sp_best n (fun i => cr i 0) T m - 1)) := by
  have hm := W.2.1
  have hn := W.1
  intro f
  induction f with
  | zero => intro j B _ hf; omega
  | succ f ih =>
    intro j B hj hf hB hS
    by_cases ej : j = m
    · subst ej
      show (if σ.1 k 1 ≤ nI j then some _ else _) = _
      rw [h.1, if_pos (nI_le (Nat.le_refl _) (by omega))]
    · have hjm : j < m := by omega
      obtain ⟨f0, f1, f2, f3, f4, f5, f6⟩ := rx_f W h hjm
      have c0 := (W.2.2 j hjm).1
      have hnr := sp_nr_lt n (by omega) (cr j 0 / 2) (by omega)
      have hle := sp_best_le n (fun i => cr i 0) T j
      obtain ⟨b, hb⟩ : ∃ b, b = sp_best n (fun i => cr i 0) T j := ⟨_, rfl⟩
      obtain ⟨lo, hlo⟩ : ∃ lo, lo = (if b = 0 then 20 else cr (b - 1) 0) := ⟨_, rfl⟩
      have hlo20 : lo ≤ 20 := by
        rw [hlo]
        split
        · omega
        · have := (W.2.2 (b - 1) (by omega)).1
          omega
      rw [← hb, ← hlo]
      show (if σ.1 k 1 ≤ nI j then _ else if (lg_cmp ((lN U >>> ((nI j).toInt64 &&& 63)) &&& 1) 0) = 0 then xl_Pole_toldNext_12 k (lN U) σ f (nI B) (nI (b - 1)) (nI lo) (nI j + 1) else if rb_ib (nI j) 48 then rb_lt (xf_Pole_placeIn (σ.1 (k + 3) (nI j).toNatClampNeg) σ) (fun v4 => if ((nI B >>> (v4 &&& 31)) &&& 1) = 0 then if nI lo ≤ (xf_Pole_letterIn (σ.1 (k + 3) (nI j).toNatClampNeg) σ) then rb_lt (nI B ||| (xf_Pole_nearOf k v4 σ)) (fun v10 => xl_Pole_toldNext_12 k (lN U) σ f v10 (nI (b - 1)) (nI lo) (nI j + 1)) else rb_lt (xf_Pole_letterIn (σ.1 (k + 3) (nI j).toNatClampNeg) σ) (fun v12 => rb_lt (nI B ||| (xf_Pole_nearOf k v4 σ)) (fun v14 => xl_Pole_toldNext_12 k (lN U) σ f v14 (nI j) v12 (nI j + 1))) else rb_lt (nI B ||| (xf_Pole_nearOf k v4 σ)) (fun v7 => xl_Pole_toldNext_12 k (lN U) σ f v7 (nI (b - 1)) (nI lo) (nI j + 1))) else none) = _
      rw [h.1, if_neg (nI_ge hjm (by omega)), f0, if_pos rfl, f6, rb_lt_eq, f1, sx_nearOf (by omega) h0 (by omega), rb_or, nI_1]
      simp only [rb_lt_eq]
      have hbitU := rb_bitL (a := U) (s := j) (by omega) (by omega)
      have hTj := hT j hjm
      -- keep what was, with these bits
      have keep : ∀ B', sp_best n (fun i => cr i 0) T (j + 1) = b → B' < 2 ^ 8 → (∀ q, q < n → (B'.testBit q = true ↔ ∃ i, i < j + 1 ∧ T i = false ∧ sp_tb n (cr i 0 / 2) q = true)) → xl_Pole_toldNext_12 k (lN U) σ f (nI B') (nI (b - 1)) (nI lo) (nI (j + 1)) = some (nI (sp_best n (fun i => cr i 0) T m - 1)) := by
        intro B' hb2 hB' hS'
        have := ih (j + 1) B' (by omega) (by omega) hB' hS'
        rw [hb2, ← hlo] at this
        exact this
      have hS2 : T j = false → ∀ q, q < n → ((B ||| sp_nr n (cr j 0 / 2)).testBit q = true ↔ ∃ i, i < j + 1 ∧ T i = false ∧ sp_tb n (cr i 0 / 2) q = true) := by
        intro hTf q hq
        rw [Nat.testBit_or, Bool.or_eq_true, hS q hq, sp_nr_bit n (by omega) _ (by omega) q hq, sp_tb_comm]
        constructor
        · rintro (⟨i, a1, a2, a3⟩ | a)
          · exact ⟨i, by omega, a2, a3⟩
          · exact ⟨j, by omega, hTf, a⟩
        · rintro ⟨i, a1, a2, a3⟩
          by_cases e : i = j
          · subst e; exact Or.inr a3
          · exact Or.inl ⟨i, by omega, a2, a3⟩
      have hbit : (((nI B >>> (nI (cr j 0 / 2) &&& 31)) &&& 1) = 0) ↔ ¬ ∃ i, i < j ∧ T i = false ∧ sp_tb n (cr i 0 / 2) (cr j 0 / 2) = true := by
        rw [rb_bit0 (by omega) (by omega), ← hS _ (by omega)]
        exact Bool.eq_false_iff
      have hfree : sp_free n (fun i => cr i 0) T j = true ↔ T j = false ∧ ¬ ∃ i, i < j ∧ T i = false ∧ sp_tb n (cr i 0 / 2) (cr j 0 / 2) = true := by
        unfold sp_free
        rw [Bool.and_eq_true, Bool.not_eq_true', Bool.not_eq_true', Bool.eq_false_iff, Bool.eq_false_iff, ne_eq, ne_eq, sp_any_iff]
        simp only [Bool.and_eq_true, Bool.not_eq_true', Bool.not_eq_true]
      have hbs := sp_best_s n (fun i => cr i 0) T j
      rw [← hb] at hbs
      cases hTv : T j with
      | true =>
        have hu : U.testBit j = false := by
          apply Bool.eq_false_iff.mpr
          intro w
          rw [hTj.mp w] at hTv
          cases hTv
        rw [if_pos (hbitU.mpr hu)]
        refine keep B ?_ hB (fun q hq => ?_)
        · rw [hbs, if_neg]
          intro w
          have := (hfree.mp w.1).1
          rw [hTv] at this
          cases this
        · rw [hS q hq]
          constructor
          · rintro ⟨i, a1, a2, a3⟩; exact ⟨i, by omega, a2, a3⟩
          · rintro ⟨i, a1, a2, a3⟩
            by_cases e : i = j
            · subst e; rw [hTv] at a2; cases a2
            · exact ⟨i, by omega, a2, a3⟩
      | false =>
        have hu : U.testBit j = true := hTj.mpr hTv
        rw [if_neg (fun w => by rw [hbitU.mp w] at hu; cases hu)]
        by_cases hx : ∃ i, i < j ∧ T i = false ∧ sp_tb n (cr i 0 / 2) (cr j 0 / 2) = true
        · rw [if_neg (fun w => hbit.mp w hx)]
          refine keep _ ?_ (rb_orlt hB (by omega)) (hS2 hTv)
          rw [hbs, if_neg]
          exact fun w => (hfree.mp w.1).2 hx
        · rw [if_pos (hbit.mpr hx)]
          by_cases hl : lo ≤ cr j 0
          · rw [if_pos (nI_le hl (by omega))]
            refine keep _ ?_ (rb_orlt hB (by omega)) (hS2 hTv)
            rw [hbs, if_neg]
            rintro ⟨-, w | w⟩
            · rw [hlo, if_pos w] at hl; omega
            · by_cases e0 : b = 0
              · rw [hlo, if_pos e0] at hl; omega
              · rw [hlo, if_neg e0] at hl
                have w' : cr j 0 < cr (b - 1) 0 := w
                omega
          · rw [if_neg (nI_ge (by omega) (by omega))]
            have hb2 : sp_best n (fun i => cr i 0) T (j + 1) = j + 1 := by
              rw [hbs, if_pos]
              refine ⟨hfree.mpr ⟨hTv, hx⟩, ?_⟩
              by_cases e0 : b = 0
              · exact Or.inl e0
              · rw [hlo, if_neg e0] at hl
                exact Or.inr (by show cr j 0 < cr (b - 1) 0; omega)
            have := ih (j + 1) (B ||| sp_nr n (cr j 0 / 2)) (by omega) (by omega) (rb_orlt hB (by omega)) (hS2 hTv)
            rw [hb2, if_neg (show ¬ j + 1 = 0 by omega), Nat.add_sub_cancel] at this
            exact this
theorem sx_toldNext (W : rb_wfc n m cr) (h : rx_cr k m cr σ) (h0 : σ.1 k 0 = nI n) {T : Nat → Bool} {U : Nat} (hU : U < 2 ^ 48) (hT : ∀ i, i < m → (U.testBit i = true ↔ T i = false)) : xf_Pole_toldNext k (lN U) σ = some (nI (sp_best n (fun i => cr i 0) T m - 1)) := by
  have hm := W.2.1
  have := sx_told1 W h h0 hU hT rb_FU 0 0 (by omega) (by unfold rb_FU; omega) (by decide) (fun q _ => by
    rw [Nat.zero_testBit]
    exact ⟨fun w => absurd w (by decide), fun ⟨i, w, _⟩ => absurd w (by omega)⟩)
  have e : xl_Pole_toldNext_12 k (lN U) σ rb_FU 0 0 20 0 = some (nI (sp_best n (fun i => cr i 0) T m - 1)) := this
  unfold xf_Pole_toldNext
  rw [e, rb_b1_some]
/-- the bits of those that are not told -/
def sp_ub (m : Nat) (T : Nat → Bool) (U : Nat) : Prop := U < 2 ^ 48 ∧ ∀ i, i < m → (U.testBit i = true ↔ T i = false)
theorem sp_ub_0 {L : Nat → Nat} (hm : m ≤ 48) : ((1 : Int64) <<< ((nI m).toInt64 &&& 63)) - 1 = lN (2 ^ m - 1) ∧ sp_ub m (sp_ot n L m 0) (2 ^ m - 1) := by
  have h2 : 2 ^ m ≤ 2 ^ 48 := Nat.pow_le_pow_right (by decide) hm
  have h1 := Nat.two_pow_pos m
  refine ⟨?_, by omega, fun i hi => ?_⟩
  · rw [rb_1lL (by omega)]
    exact lN_sub (b := 1) (by omega)
  · rw [Nat.testBit_two_pow_sub_one, decide_eq_true_iff]
    exact ⟨fun _ => rfl, fun _ => hi⟩
theorem sp_ub_s {L : Nat → Nat} {t U : Nat} (hm : m ≤ 48) (ht : t < m) (h : sp_ub m (sp_ot n L m t) U) : ∃ U', lN U &&& (((1 : Int64) <<< ((nI (sp_oi n L m t)).toInt64 &&& 63)) ^^^ (-1)) = lN U' ∧ sp_ub m (sp_ot n L m (t + 1)) U' := by
  have hl := sp_oi_lt (n := n) (L := L) ht
  obtain ⟨c, c1, c2, c3⟩ := rb_clrL (a := U) (b := 2 ^ sp_oi n L m t) (by have := h.1; omega)
  refine ⟨c, ?_, by have := h.1; omega, fun i hi => ?_⟩
  · rw [rb_1lL (by omega), c1]
  · rw [c3 i, Bool.and_eq_true, h.2 i hi, Bool.not_eq_true', Nat.testBit_two_pow]
    show _ ↔ (sp_ot n L m t i || (i == sp_oi n L m t)) = false
    rw [Bool.or_eq_false_iff, beq_eq_false_iff_ne, decide_eq_false_iff_not]
    constructor
    · rintro ⟨a, b⟩; exact ⟨a, fun e => b e.symm⟩
    · rintro ⟨a, b⟩; exact ⟨a, fun e => b e.symm⟩
theorem sx_tell1 (W : rb_wfc n m cr) (hk : k + 4 < 235 ∨ 235 < k) : ∀ (f t U : Nat) (σ : rb_St), t ≤ m → m - t < f → rx_cr k m cr σ → σ.1 k 0 = nI n → sp_ub m (sp_ot n (fun i => cr i 0) m t) U → ∃ σ', xl_Pole_tellOrder_12 k f (lN U) (nI t) σ = some σ' ∧ (∀ j, t ≤ j → j < m → σ'.1 235 j = σ.1 (k + 3) (sp_oi n (fun i => cr i 0) m j)) ∧ rb_fr (fun c i => c = 235 ∧ t ≤ i) σ σ' := by
  have hm := W.2.1
  intro f
  induction f with
  | zero => intro t U σ _ hf; omega
  | succ f ih =>
    intro t U σ ht hf h h0 hU
    by_cases et : t = m
    · subst et
      refine ⟨σ, ?_, fun j h1 h2 => by omega, rb_fr.rf⟩
      show (if σ.1 k 1 ≤ nI t then some σ else _) = _
      rw [h.1, if_pos (nI_le (Nat.le_refl _) (by omega))]
    · have htm : t < m := by omega
      have hl := sp_oi_lt (n := n) (L := fun i => cr i 0) htm
      obtain ⟨U', u1, u2⟩ := sp_ub_s hm htm hU
      have hn := sx_toldNext W h h0 hU.1 hU.2
      obtain ⟨s, hs⟩ : ∃ s, s = rb_sI σ 235 t (σ.1 (k + 3) (sp_oi n (fun i => cr i 0) m t)) := ⟨_, rfl⟩
      have f1 : rb_fr (fun c i => c = 235 ∧ t ≤ i) σ s := by rw [hs]; exact rb_fr.sI ⟨rfl, Nat.le_refl t⟩
      have sr : ∀ c, c ≠ 235 → s.1 c = σ.1 c := fun c hc => by rw [hs]; exact rb_sI_row _ _ _ _ _ hc
      obtain ⟨σ', a1, a2, a3⟩ := ih (t + 1) U' s (by omega) (by omega) ⟨by rw [sr k (by omega)]; exact h.1, fun i hi => by rw [sr (k + 3) (by omega)]; exact h.2 i hi⟩ (by rw [sr k (by omega)]; exact h0) u2
      refine ⟨σ', ?_, fun j h1 h2 => ?_, f1.tr (a3.mo (fun c i q => ⟨q.1, by omega⟩))⟩
      · show (if σ.1 k 1 ≤ nI t then _ else if 48 ≤ nI t then _ else rb_b1 (xf_Pole_toldNext k (lN U) σ) fun r5 => if rb_ib r5 48 then if rb_ib (nI t) 48 then rb_lt (rb_sI σ 235 (nI t).toNatClampNeg (σ.1 (k + 3) r5.toNatClampNeg)) (fun s9 => rb_lt (lN U &&& (((1 : Int64) <<< (r5.toInt64 &&& 63)) ^^^ (-1))) (fun v11 => xl_Pole_tellOrder_12 k f v11 (nI t + 1) s9)) else none else none) = _
        have hn' : xf_Pole_toldNext k (lN U) σ = some (nI (sp_oi n (fun i => cr i 0) m t)) := hn
        rw [h.1, if_neg (nI_ge htm (by omega)), rb_l48, if_neg (nI_ge (show t < 48 by omega) (by decide)), hn', rb_b1_some, rb_ib_nI (by omega) (by decide), if_pos rfl, rb_ib_nI (by omega) (by decide), if_pos rfl, nI_clamp (by omega), nI_clamp (by omega), rb_lt_eq, rb_lt_eq, u1, nI_1, ← hs]
        exact a1
      · by_cases e : j = t
        · subst e
          rw [a3.1 235 j (by omega), hs, rb_sI_eq]
        · rw [a2 j (by omega) h2, sr (k + 3) (by omega)]
theorem sx_tellOrder (W : rb_wfc n m cr) (hk : k + 4 < 235 ∨ 235 < k) (h : rx_cr k m cr σ) (h0 : σ.1 k 0 = nI n) : ∃ σ', xf_Pole_tellOrder k σ = some σ' ∧ (∀ j, j < m → σ'.1 235 j = σ.1 (k + 3) (sp_oi n (fun i => cr i 0) m j)) ∧ rb_fr (fun c i => c = 235) σ σ' := by
  have hm := W.2.1
  obtain ⟨e, u⟩ := sp_ub_0 (n := n) (L := fun i => cr i 0) hm
  obtain ⟨σ', a1, a2, a3⟩ := sx_tell1 W hk rb_FU 0 (2 ^ m - 1) σ (by omega) (by unfold rb_FU; omega) h h0 u
  have a1' : xl_Pole_tellOrder_12 k rb_FU (lN (2 ^ m - 1)) 0 σ = some σ' := a1
  refine ⟨σ', ?_, fun j hj => a2 j (by omega) hj, a3.mo (fun c i q => q.1)⟩
  unfold xf_Pole_tellOrder
  rw [h.1, e, rb_lt_eq, a1', rb_b1_some]
/-- the reference's row of letters -/
def rm_row (n m : Nat) (L : Nat → Nat) (τ : rb_St) : Prop := n ≤ 7 ∧ m ≤ 48 ∧ τ.1 0 22 = nI n ∧ τ.1 0 33 = nI m ∧ ∀ i, i < m → L i < 2 * n ∧ τ.1 19 i = nI (L i)
theorem rm_row_fr {L : Nat → Nat} {τ' : rb_St} {ch : Nat → Nat → Prop} (hf : rb_fr ch τ τ') (hh : ∀ c i, ch c i → c ≠ 0 ∧ c ≠ 19) (h : rm_row n m L τ) : rm_row n m L τ' := by
  obtain ⟨a, b, c, d, e⟩ := h
  exact ⟨a, b, (hf.1 0 22 (fun w => (hh _ _ w).1 rfl)).trans c, (hf.1 0 33 (fun w => (hh _ _ w).1 rfl)).trans d, fun i hi => ⟨(e i hi).1, (hf.1 19 i (fun w => (hh _ _ w).2 rfl)).trans (e i hi).2⟩⟩
theorem sm_free1 {L : Nat → Nat} {T : Nat → Bool} (h : rm_row n m L τ) (hT : ∀ i, i < m → τ.1 21 i = rb_bI (T i)) {j : Nat} (hj : j < m) : ∀ (f q : Nat), q ≤ j → j - q < f → sp_any (fun k => !T k && sp_tb n (L k / 2) (L j / 2)) q = false → xl_M_isFree_13 (nI j) τ f (nI q) = some (if sp_any (fun k => !T k && sp_tb n (L k / 2) (L j / 2)) j = true then 0 else 1) := by
  obtain ⟨hn, hm, h22, h33, hL⟩ := h
  intro f
  induction f with
  | zero => intro q _ hf; omega
  | succ f ih =>
    intro q hq hf hs
    by_cases eq : q = j
    · subst eq
      show (if nI q ≤ nI q then some 1 else _) = _
      rw [if_pos (nI_le (Nat.le_refl _) (by omega)), hs, if_neg (by decide)]
    · have hqj : q < j := by omega
      have e1 : nI (L q) / (2 : Int32) = nI (L q / 2) := pk_div (d := 2) (by have := (hL q (by omega)).1; omega) (by decide) (by decide)
      have e2 : nI (L j) / (2 : Int32) = nI (L j / 2) := pk_div (d := 2) (by have := (hL j (by omega)).1; omega) (by decide) (by decide)
      have ea : sp_any (fun k => !T k && sp_tb n (L k / 2) (L j / 2)) (q + 1) = (!T q && sp_tb n (L q / 2) (L j / 2)) := by
        show (sp_any (fun k => !T k && sp_tb n (L k / 2) (L j / 2)) q || (!T q && sp_tb n (L q / 2) (L j / 2))) = _
        rw [hs, Bool.false_or]
      show (if nI j ≤ nI q then some 1 else if rb_ib (nI q) 88 then if (τ.1 21 (nI q).toNatClampNeg) = 0 then if rb_ib (nI j) 88 then rb_b1 (xf_M_touch ((τ.1 19 (nI q).toNatClampNeg) / 2) ((τ.1 19 (nI j).toNatClampNeg) / 2) τ) fun r7 => if r7 = 0 then xl_M_isFree_13 (nI j) τ f (nI q + 1) else some 0 else none else xl_M_isFree_13 (nI j) τ f (nI q + 1) else none) = _
      rw [if_neg (nI_ge hqj (by omega)), rb_ib_nI (by omega) (by decide), if_pos rfl, rb_ib_nI (by omega) (by decide), if_pos rfl, nI_clamp (by omega), nI_clamp (by omega), hT q (by omega), (hL q (by omega)).2, (hL j (by omega)).2, e1, e2, sm_touch (by omega) h22 (by have := (hL q (by omega)).1; omega) (by have := (hL j (by omega)).1; omega), rb_b1_some, nI_1]
      simp only [rb_bI_0]
      have jy : (!T q && sp_tb n (L q / 2) (L j / 2)) = true → sp_any (fun k => !T k && sp_tb n (L k / 2) (L j / 2)) j = true := fun w => (sp_any_iff j).mpr ⟨q, hqj, w⟩
      cases hTq : T q with
      | true =>
        rw [if_neg (by decide)]
        exact ih (q + 1) (by omega) (by omega) (by rw [ea, hTq]; rfl)
      | false =>
        rw [if_pos rfl]
        cases hb : sp_tb n (L q / 2) (L j / 2) with
        | true =>
          rw [if_neg (show ¬ (if true = true then (1 : Int32) else 0) = 0 by decide), if_pos (jy (by rw [hTq, hb]; rfl))]
        | false =>
          rw [if_pos (show (if false = true then (1 : Int32) else 0) = 0 from rfl)]
          exact ih (q + 1) (by omega) (by omega) (by rw [ea, hb, Bool.and_false])
theorem sm_isFree {L : Nat → Nat} {T : Nat → Bool} (h : rm_row n m L τ) (hT : ∀ i, i < m → τ.1 21 i = rb_bI (T i)) {j : Nat} (hj : j < m) : xf_M_isFree (nI j) τ = some (rb_bI (sp_free n L T j)) := by
  have hm := h.2.1
  have e : xl_M_isFree_13 (nI j) τ rb_FU 0 = some (if sp_any (fun k => !T k && sp_tb n (L k / 2) (L j / 2)) j = true then 0 else 1) := sm_free1 h hT hj rb_FU 0 (by omega) (by unfold rb_FU; omega) rfl
  unfold xf_M_isFree sp_free
  rw [rb_ib_nI (by omega) (by decide), if_pos rfl, nI_clamp (by omega), hT j hj, e, rb_b1_some]
  simp only [rb_bI_0]
  cases T j with
  | true => rw [if_neg (by decide)]; rfl
  | false =>
    rw [if_pos rfl]
    cases sp_any (fun k => !T k && sp_tb n (L k / 2) (L j / 2)) j <;> rfl
theorem sm_best {L : Nat → Nat} {T : Nat → Bool} (h : rm_row n m L τ) (hT : ∀ i, i < m → τ.1 21 i = rb_bI (T i)) (x : Int32) : xl_M_layOrder_37 x τ rb_FU (-1) 0 = some (nI (sp_best n L T m) - 1) := by
  obtain ⟨hn, hm, h22, h33, hL⟩ := id h
  have key : ∀ (f j : Nat), j ≤ m → m - j < f → xl_M_layOrder_37 x τ f (nI (sp_best n L T j) - 1) (nI j) = some (nI (sp_best n L T m) - 1) := by
    intro f
    induction f with
    | zero => intro j _ hf; omega
    | succ f ih =>
      intro j hj hf
      by_cases ej : j = m
      · subst ej
        show (if τ.1 0 33 ≤ nI j then some _ else _) = _
        rw [h33, if_pos (nI_le (Nat.le_refl _) (by omega))]
      · have hjm : j < m := by omega
        have hle := sp_best_le n L T j
        have := ih (j + 1) (by omega) (by omega)
        rw [sp_best_s] at this
        obtain ⟨b, hb⟩ : ∃ b, b = sp_best n L T j := ⟨_, rfl⟩
        rw [← hb] at this hle ⊢
        show (if τ.1 0 33 ≤ nI j then _ else rb_b1 (xf_M_isFree (nI j) τ) fun r9 => if r9 = 0 then xl_M_layOrder_37 x τ f (nI b - 1) (nI j + 1) else if (nI b - 1) = (-1) then xl_M_layOrder_37 x τ f (nI j) (nI j + 1) else if rb_ib (nI j) 88 then if rb_ib (nI b - 1) 88 then if (τ.1 19 (nI b - 1).toNatClampNeg) ≤ (τ.1 19 (nI j).toNatClampNeg) then xl_M_layOrder_37 x τ f (nI b - 1) (nI j + 1) else xl_M_layOrder_37 x τ f (nI j) (nI j + 1) else none else none) = _
        rw [h33, if_neg (nI_ge hjm (by omega)), sm_isFree h hT hjm, rb_b1_some, nI_1]
        simp only [rb_bI_0, sx_eqm1 (show b < 2 ^ 31 by omega)]
        cases hf2 : sp_free n L T j with
        | false =>
          rw [if_pos rfl]
          rw [hf2, if_neg (fun w => by have := w.1; cases this)] at this
          exact this
        | true =>
          rw [if_neg (by decide)]
          rw [hf2] at this
          by_cases e0 : b = 0
          · rw [if_pos e0]
            rw [if_pos ⟨rfl, Or.inl e0⟩, nI_pred] at this
            exact this
          · rw [if_neg e0]
            have hLb := hL (b - 1) (by omega)
            have hLj := hL j hjm
            rw [rb_pr (by omega), rb_ib_nI (by omega) (by decide), rb_ib_nI (by omega) (by decide), if_pos rfl, if_pos rfl, nI_clamp (by omega), nI_clamp (by omega), hLb.2, hLj.2]
            by_cases hl : L (b - 1) ≤ L j
            · rw [if_pos (nI_le hl (by omega))]
              rw [if_neg (by rintro ⟨-, w | w⟩ <;> omega), rb_pr (by omega)] at this
              exact this
            · rw [if_neg (nI_ge (by omega) (by omega))]
              rw [if_pos ⟨rfl, Or.inr (by omega)⟩, nI_pred] at this
              exact this
  exact key rb_FU 0 (by omega) (by unfold rb_FU; omega)
theorem sm_lay1 {L : Nat → Nat} : ∀ (f t : Nat) (τ : rb_St), t ≤ m → m - t < f → rm_row n m L τ → (∀ i, i < m → τ.1 21 i = rb_bI (sp_ot n L m t i)) → ∃ τ', xl_M_layOrder_25 f (nI t) τ = some τ' ∧ (∀ j, t ≤ j → j < m → τ'.1 20 j = nI (sp_oi n L m j)) ∧ rb_fr (fun c i => (c = 20 ∧ t ≤ i) ∨ c = 21) τ τ' := by
  intro f
  induction f with
  | zero => intro t τ _ hf; omega
  | succ f ih =>
    intro t τ ht hf h hT
    obtain ⟨hn, hm, h22, h33, hL⟩ := id h
    by_cases et : t = m
    · subst et
      refine ⟨τ, ?_, fun j h1 h2 => by omega, rb_fr.rf⟩
      show (if τ.1 0 33 ≤ nI t then some τ else _) = _
      rw [h33, if_pos (nI_le (Nat.le_refl _) (by omega))]
    · have htm : t < m := by omega
      have hl := sp_oi_lt (n := n) (L := L) htm
      have hne := sp_ot_ex (n := n) (L := L) htm
      have eb : nI (sp_best n L (sp_ot n L m t) m) - 1 = nI (sp_oi n L m t) := rb_pr (by omega)
      obtain ⟨s, hs⟩ : ∃ s, s = rb_sI (rb_sI τ 20 t (nI (sp_oi n L m t))) 21 (sp_oi n L m t) 1 := ⟨_, rfl⟩
      have f1 : rb_fr (fun c i => (c = 20 ∧ t ≤ i) ∨ c = 21) τ s := by rw [hs]; exact (rb_fr.sI (Or.inl ⟨rfl, Nat.le_refl t⟩)).sI' (Or.inr rfl)
      obtain ⟨τ', a1, a2, a3⟩ := ih (t + 1) s (by omega) (by omega) (rm_row_fr f1 (fun c i q => by omega) h) (fun i hi => by
        rw [hs, rb_sI_at]
        show _ = rb_bI (sp_ot n L m t i || (i == sp_oi n L m t))
        by_cases e : i = sp_oi n L m t
        · rw [if_pos ⟨rfl, e⟩, beq_iff_eq.mpr e, Bool.or_true]; rfl
        · rw [if_neg (fun w => e w.2), rb_sIg _ _ _ _ _ _ (by omega), beq_eq_false_iff_ne.mpr e, Bool.or_false]
          exact hT i hi)
      refine ⟨τ', ?_, fun j h1 h2 => ?_, f1.tr (a3.mo (fun c i q => by omega))⟩
      · show (if τ.1 0 33 ≤ nI t then _ else rb_b1 (xl_M_layOrder_37 (nI t) τ rb_FU (-1) 0) fun y16 => if rb_ib (nI t) 88 then rb_lt (rb_sI τ 20 (nI t).toNatClampNeg y16) (fun s19 => if rb_ib y16 88 then rb_lt (rb_sI s19 21 y16.toNatClampNeg 1) (fun s22 => xl_M_layOrder_25 f (nI t + 1) s22) else none) else none) = _
        rw [h33, if_neg (nI_ge htm (by omega)), sm_best h hT, rb_b1_some, eb, rb_ib_nI (by omega) (by decide), if_pos rfl, rb_lt_eq, rb_ib_nI (by omega) (by decide), if_pos rfl, rb_lt_eq, nI_clamp (by omega), nI_clamp (by omega), nI_1, ← hs]
        exact a1
      · by_cases e : j = t
        · subst e
          rw [a3.1 20 j (by omega), hs, rb_sIg _ _ _ _ _ _ (by omega), rb_sI_eq]
        · exact a2 j (by omega) h2
theorem sm_clear : ∀ (f j : Nat) (τ : rb_St), j ≤ m → m - j < f → m ≤ 48 → τ.1 0 33 = nI m → ∃ τ', xl_M_layOrder_2 f (nI j) τ = some τ' ∧ (∀ i, j ≤ i → i < m → τ'.1 21 i = 0) ∧ rb_fr (fun c i => c = 21 ∧ j ≤ i) τ τ' := by
  intro f
  induction f with
  | zero => intro j τ _ hf; omega
  | succ f ih =>
    intro j τ hj hf hm h33
    by_cases ej : j = m
    · subst ej
      refine ⟨τ, ?_, fun i h1 h2 => by omega, rb_fr.rf⟩
      show (if τ.1 0 33 ≤ nI j then some τ else _) = _
      rw [h33, if_pos (nI_le (Nat.le_refl _) (by omega))]
    · obtain ⟨τ', a1, a2, a3⟩ := ih (j + 1) (rb_sI τ 21 j 0) (by omega) (by omega) hm (by rw [rb_sIg _ _ _ _ _ _ (by omega)]; exact h33)
      refine ⟨τ', ?_, fun i h1 h2 => ?_, (rb_fr.sI ⟨rfl, Nat.le_refl j⟩).tr (a3.mo (fun c i q => ⟨q.1, by omega⟩))⟩
      · show (if τ.1 0 33 ≤ nI j then some τ else if rb_ib (nI j) 88 then rb_lt (rb_sI τ 21 (nI j).toNatClampNeg 0) (fun s3 => xl_M_layOrder_2 f (nI j + 1) s3) else none) = _
        rw [h33, if_neg (nI_ge (by omega) (by omega)), rb_ib_nI (by omega) (by decide), if_pos rfl, rb_lt_eq, nI_clamp (by omega), nI_1]
        exact a1
      · by_cases e : i = j
        · subst e
          rw [a3.1 21 i (by omega), rb_sI_eq]
        · exact a2 i (by omega) h2
theorem sm_layOrder {L : Nat → Nat} (h : rm_row n m L τ) : ∃ τ', xf_M_layOrder τ = some τ' ∧ (∀ j, j < m → τ'.1 20 j = nI (sp_oi n L m j)) ∧ rb_fr (fun c i => c = 20 ∨ c = 21) τ τ' := by
  obtain ⟨hn, hm, h22, h33, hL⟩ := id h
  obtain ⟨s, a1, a2, a3⟩ := sm_clear (m := m) rb_FU 0 τ (by omega) (by unfold rb_FU; omega) hm h33
  have a1' : xl_M_layOrder_2 rb_FU 0 τ = some s := a1
  obtain ⟨τ', b1, b2, b3⟩ := sm_lay1 (n := n) (m := m) (L := L) rb_FU 0 s (by omega) (by unfold rb_FU; omega) (rm_row_fr a3 (fun c i q => by omega) h) (fun i hi => a2 i (by omega) hi)
  have b1' : xl_M_layOrder_25 rb_FU 0 s = some τ' := b1
  refine ⟨τ', ?_, fun j hj => b2 j (by omega) hj, (a3.mo (fun c i q => Or.inr q.1)).tr (b3.mo (fun c i q => by omega))⟩
  unfold xf_M_layOrder
  rw [a1', rb_b1_some, b1', rb_b1_some]
/-- the reference's row out of the plait -/
theorem sm_row1 (hm40 : m ≤ 40) : ∀ (f j : Nat) (τ : rb_St), j ≤ m → m - j < f → rm_cr m cr (τ.1 17) → τ.1 0 33 = nI m → ∃ τ', xl_M_rowOfPlait_13 f (nI j) τ = some τ' ∧ (∀ i, j ≤ i → i < m → τ'.1 19 i = nI (cr i 0)) ∧ rb_fr (fun c i => c = 19 ∧ j ≤ i) τ τ' := by
  intro f
  induction f with
  | zero => intro j τ _ hf; omega
  | succ f ih =>
    intro j τ hj hf hc h33
    by_cases ej : j = m
    · subst ej
      refine ⟨τ, ?_, fun i h1 h2 => by omega, rb_fr.rf⟩
      show (if τ.1 0 33 ≤ nI j then some τ else _) = _
      rw [h33, if_pos (nI_le (Nat.le_refl _) (by omega))]
    · obtain ⟨τ', a1, a2, a3⟩ := ih (j + 1) (rb_sI τ 19 j (nI (cr j 0))) (by omega) (by omega) (by rw [rb_sI_row _ _ _ _ _ (by omega)]; exact hc) (by rw [rb_sIg _ _ _ _ _ _ (by omega)]; exact h33)
      refine ⟨τ', ?_, fun i h1 h2 => ?_, (rb_fr.sI ⟨rfl, Nat.le_refl j⟩).tr (a3.mo (fun c i q => ⟨q.1, by omega⟩))⟩
      · show (if τ.1 0 33 ≤ nI j then some τ else rb_b1 (xf_M_of (nI j) 0 τ) fun r4 => if rb_ib (nI j) 88 then rb_lt (rb_sI τ 19 (nI j).toNatClampNeg r4) (fun s7 => xl_M_rowOfPlait_13 f (nI j + 1) s7) else none) = _
        rw [h33, if_neg (nI_ge (by omega) (by omega)), rm_of (x := 0) hc (show j < m by omega) 0 (by decide) rfl, rb_b1_some, rb_ib_nI (by omega) (by decide), if_pos rfl, rb_lt_eq, nI_clamp (by omega), nI_1]
        exact a1
      · by_cases e : i = j
        · subst e
          rw [a3.1 19 i (by omega), rb_sI_eq]
        · exact a2 i (by omega) h2
theorem sm_rowOfPlait (W : rb_wfc n m cr) (h : rm_cr m cr (τ.1 17)) (h22 : τ.1 0 22 = nI n) : ∃ τ', xf_M_rowOfPlait τ = some τ' ∧ rm_row n m (fun i => cr i 0) τ' ∧ rb_fr (fun c i => c = 19 ∨ (c = 0 ∧ i = 33)) τ τ' := by
  obtain ⟨s, hs⟩ : ∃ s, s = rb_sI τ 0 33 (nI m) := ⟨_, rfl⟩
  have f1 : rb_fr (fun c i => c = 19 ∨ (c = 0 ∧ i = 33)) τ s := by rw [hs]; exact rb_fr.sI (Or.inr ⟨rfl, rfl⟩)
  have hm := h.1
  obtain ⟨τ', a1, a2, a3⟩ := sm_row1 (cr := cr) hm rb_FU 0 s (by omega) (by unfold rb_FU; omega) (by rw [hs, rb_sI_row _ _ _ _ _ (by omega)]; exact h) (by rw [hs]; exact rb_sI_eq _ _ _ _)
  have a1' : xl_M_rowOfPlait_13 rb_FU 0 s = some τ' := a1
  refine ⟨τ', ?_, ⟨W.1, by omega, ?_, ?_, fun i hi => ⟨(W.2.2 i hi).1, a2 i (by omega) hi⟩⟩, f1.tr (a3.mo (fun c i q => Or.inl q.1))⟩
  · unfold xf_M_rowOfPlait
    rw [h.2.1, rb_lt_eq, ← hs, a1', rb_b1_some]
  · rw [a3.1 0 22 (by omega), hs, rb_sIg _ _ _ _ _ _ (by omega)]; exact h22
  · rw [a3.1 0 33 (by omega), hs, rb_sI_eq]
end RBV
