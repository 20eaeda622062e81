/-! THE PLAIT: m crossings, crossing i with the fields cr i 0 .. cr i 4 (letter, over, under, took, layer) -/
def rb_wfc (n m : Nat) (cr : Nat → Nat → Nat) : Prop := n ≤ 7 ∧ m ≤ 48 ∧ ∀ i, i < m → cr i 0 < 2 * n ∧ cr i 1 < n ∧ cr i 2 < n ∧ cr i 3 < 16 ∧ cr i 4 < 64
def rx_cr (k m : Nat) (cr : Nat → Nat → Nat) (σ : rb_St) : Prop := σ.1 k 1 = nI m ∧ ∀ i, i < m → σ.1 (k + 3) i = nI (rb_pk (cr i 0) (cr i 1) (cr i 2) (cr i 3) (cr i 4))
def rm_cr (m : Nat) (cr : Nat → Nat → Nat) (f : Nat → Int32) : Prop := m ≤ 40 ∧ f 14 = nI m ∧ ∀ i, i < m → ∀ j, j < 5 → f (15 + 5 * i + j) = nI (cr i j)
def rb_fo {β : Type} (f : Nat → β → β) (b : β) : Nat → β
  | 0 => b
  | n + 1 => f n (rb_fo f b n)
section RBQ
variable {n m k : Nat} {cr : Nat → Nat → Nat} {σ : rb_St}
theorem rx_f (W : rb_wfc n m cr) (h : rx_cr k m cr σ) {i : Nat} (hi : i < m) : rb_ib (nI i) 48 = true ∧ xf_Pole_letterIn (σ.1 (k + 3) (nI i).toNatClampNeg) σ = nI (cr i 0) ∧ xf_Pole_overIn (σ.1 (k + 3) (nI i).toNatClampNeg) σ = nI (cr i 1) ∧ xf_Pole_underIn (σ.1 (k + 3) (nI i).toNatClampNeg) σ = nI (cr i 2) ∧ xf_Pole_tookIn (σ.1 (k + 3) (nI i).toNatClampNeg) σ = nI (cr i 3) ∧ xf_Pole_layerIn (σ.1 (k + 3) (nI i).toNatClampNeg) σ = nI (cr i 4) ∧ xf_Pole_placeIn (σ.1 (k + 3) (nI i).toNatClampNeg) σ = nI (cr i 0 / 2) := by
  obtain ⟨w1, w2, w3⟩ := W
  obtain ⟨a, b, c, d, e⟩ := w3 i hi
  rw [nI_clamp (by omega), h.2 i hi]
  exact ⟨rb_ib_nI (by omega) (by decide), rb_pk_letter (by omega) (by omega) (by omega) d e σ, rb_pk_over (by omega) (by omega) (by omega) d e σ, rb_pk_under (by omega) (by omega) (by omega) d e σ, rb_pk_took (by omega) (by omega) (by omega) d e σ, rb_pk_layer (by omega) (by omega) (by omega) d e σ, rb_pk_place (by omega) (by omega) (by omega) d e σ⟩
theorem rm_of (h : rm_cr m cr (σ.1 17)) {i : Nat} (hi : i < m) (j : Nat) (hj : j < 5) {x : Int32} (hx : x = nI j) : xf_M_of (nI i) x σ = some (nI (cr i j)) := by
  subst hx
  unfold xf_M_of
  have e : ((15 : Int32) + 5 * nI i) + nI j = nI (15 + 5 * i + j) := by
    rw [show ((15 : Int32) + 5 * nI i) = nI 15 + nI 5 * nI i from rfl, ← nI_add, ← nI_add]
    congr 2
    exact (Int32.ofNat_mul 5 i).symm
  have h40 := h.1
  rw [e, rb_ib_nI (by omega) (by decide), if_pos rfl, nI_clamp (by omega), h.2.2 i hi j hj]
/-- how often; how much -/
def sp_co (cr : Nat → Nat → Nat) (d : Nat) (m : Nat) : Nat := rb_fo (fun i a => if cr i 1 = d ∨ cr i 2 = d then a + 1 else a) 0 m
def sp_ta (cr : Nat → Nat → Nat) (d : Nat) (m : Nat) : Nat := rb_fo (fun i a => if cr i 1 = d ∨ cr i 2 = d then a + cr i 3 else a) 0 m
theorem sx_isOf (W : rb_wfc n m cr) (h : rx_cr k m cr σ) {i d : Nat} (hi : i < m) (hd : d < 2 ^ 31) : xf_Pole_isOf k (nI i) (nI d) σ = some (if cr i 1 = d ∨ cr i 2 = d then 1 else 0) := by
  obtain ⟨f0, f1, f2, f3, f4, f5, f6⟩ := rx_f W h hi
  obtain ⟨w1, w2, w3⟩ := W
  obtain ⟨a, b, c, _, _⟩ := w3 i hi
  unfold xf_Pole_isOf
  rw [f0, if_pos rfl, f2, f3]
  by_cases h1 : cr i 1 = d
  · rw [if_pos (by rw [h1]), if_pos (Or.inl h1)]
  · rw [if_neg (fun e => h1 ((nI_eq (by omega) hd).mp e))]
    by_cases h2 : cr i 2 = d
    · rw [if_pos (by rw [h2]), if_pos (Or.inr h2)]
    · rw [if_neg (fun e => h2 ((nI_eq (by omega) hd).mp e)), if_neg (by rintro (q | q) <;> contradiction)]
theorem sx_crossingsOf (W : rb_wfc n m cr) (h : rx_cr k m cr σ) {d : Nat} (hd : d < 2 ^ 31) : xf_Pole_crossingsOf k (nI d) σ = some (nI (sp_co cr d m)) := by
  have hm := W.2.1
  have h1 : xl_Pole_crossingsOf_4 k (nI d) σ rb_FU 0 0 = some (nI (sp_co cr d m)) := by
    refine rb_up0 (xl_Pole_crossingsOf_4 k (nI d) σ) (fun i => nI (sp_co cr d i)) m (some (nI (sp_co cr d m))) (by omega) (fun q i hi => ?_) (fun q => ?_)
    · show (if σ.1 k 1 ≤ nI i then _ else rb_b1 (xf_Pole_isOf k (nI i) (nI d) σ) fun r2 => if r2 = 0 then xl_Pole_crossingsOf_4 k (nI d) σ q (nI (sp_co cr d i)) (nI i + 1) else xl_Pole_crossingsOf_4 k (nI d) σ q (nI (sp_co cr d i) + 1) (nI i + 1)) = xl_Pole_crossingsOf_4 k (nI d) σ q (nI (if cr i 1 = d ∨ cr i 2 = d then sp_co cr d i + 1 else sp_co cr d i)) (nI (i + 1))
      rw [h.1, if_neg (nI_ge hi (by omega)), sx_isOf W h hi hd, rb_b1_some, nI_1, nI_1]
      by_cases hc : cr i 1 = d ∨ cr i 2 = d
      · rw [if_pos hc, if_pos hc, if_neg (by decide)]
      · rw [if_neg hc, if_neg hc, if_pos rfl]
    · show (if σ.1 k 1 ≤ nI m then _ else _) = _
      rw [h.1, if_pos (nI_le (Nat.le_refl m) (by omega))]
  unfold xf_Pole_crossingsOf
  rw [h1, rb_b1_some]
theorem sx_takenOf (W : rb_wfc n m cr) (h : rx_cr k m cr σ) {d : Nat} (hd : d < 2 ^ 31) : xf_Pole_takenOf k (nI d) σ = some (nI (sp_ta cr d m)) := by
  have hm := W.2.1
  have h1 : xl_Pole_takenOf_4 k (nI d) σ rb_FU 0 0 = some (nI (sp_ta cr d m)) := by
    refine rb_up0 (xl_Pole_takenOf_4 k (nI d) σ) (fun i => nI (sp_ta cr d i)) m (some (nI (sp_ta cr d m))) (by omega) (fun q i hi => ?_) (fun q => ?_)
    · show (if σ.1 k 1 ≤ nI i then _ else rb_b1 (xf_Pole_isOf k (nI i) (nI d) σ) fun r2 => if r2 = 0 then xl_Pole_takenOf_4 k (nI d) σ q (nI (sp_ta cr d i)) (nI i + 1) else if rb_ib (nI i) 48 then rb_lt (nI (sp_ta cr d i) + xf_Pole_tookIn (σ.1 (k + 3) (nI i).toNatClampNeg) σ) (fun v6 => xl_Pole_takenOf_4 k (nI d) σ q v6 (nI i + 1)) else none) = xl_Pole_takenOf_4 k (nI d) σ q (nI (if cr i 1 = d ∨ cr i 2 = d then sp_ta cr d i + cr i 3 else sp_ta cr d i)) (nI (i + 1))
      obtain ⟨f0, f1, f2, f3, f4, f5, f6⟩ := rx_f W h hi
      rw [h.1, if_neg (nI_ge hi (by omega)), sx_isOf W h hi hd, rb_b1_some, nI_1, f0, f4, rb_lt_eq, nI_add]
      by_cases hc : cr i 1 = d ∨ cr i 2 = d
      · rw [if_pos hc, if_pos hc, if_neg (by decide), if_pos rfl]
      · rw [if_neg hc, if_neg hc, if_pos rfl]
    · show (if σ.1 k 1 ≤ nI m then _ else _) = _
      rw [h.1, if_pos (nI_le (Nat.le_refl m) (by omega))]
  unfold xf_Pole_takenOf
  rw [h1, rb_b1_some]
theorem sm_crossingsOf (W : rb_wfc n m cr) (h : rm_cr m cr (σ.1 17)) {d : Nat} (hd : d < 2 ^ 31) : xf_M_crossingsOf (nI d) σ = some (nI (sp_co cr d m)) := by
  have hm := W.2.1
  have h1 : xl_M_crossingsOf_4 (nI d) σ rb_FU 0 0 = some (nI (sp_co cr d m)) := by
    refine rb_up0 (xl_M_crossingsOf_4 (nI d) σ) (fun i => nI (sp_co cr d i)) m (some (nI (sp_co cr d m))) (by omega) (fun q i hi => ?_) (fun q => ?_)
    · show (if σ.1 17 14 ≤ nI i then _ else rb_b1 (xf_M_of (nI i) 1 σ) fun r2 => if r2 = nI d then xl_M_crossingsOf_4 (nI d) σ q (nI (sp_co cr d i) + 1) (nI i + 1) else rb_b1 (xf_M_of (nI i) 2 σ) fun r5 => if r5 = nI d then xl_M_crossingsOf_4 (nI d) σ q (nI (sp_co cr d i) + 1) (nI i + 1) else xl_M_crossingsOf_4 (nI d) σ q (nI (sp_co cr d i) + 0) (nI i + 1)) = xl_M_crossingsOf_4 (nI d) σ q (nI (if cr i 1 = d ∨ cr i 2 = d then sp_co cr d i + 1 else sp_co cr d i)) (nI (i + 1))
      obtain ⟨a, b, c, _, _⟩ := W.2.2 i hi
      have w1 := W.1
      rw [h.2.1, if_neg (nI_ge hi (by omega)), rm_of (x := 1) h hi 1 (by decide) rfl, rm_of (x := 2) h hi 2 (by decide) rfl, rb_b1_some, rb_b1_some, nI_1, nI_1, Int32.add_zero]
      by_cases g1 : cr i 1 = d
      · rw [if_pos (by rw [g1]), if_pos (Or.inl g1)]
      · rw [if_neg (fun e => g1 ((nI_eq (by omega) hd).mp e))]
        by_cases g2 : cr i 2 = d
        · rw [if_pos (by rw [g2]), if_pos (Or.inr g2)]
        · rw [if_neg (fun e => g2 ((nI_eq (by omega) hd).mp e)), if_neg (by rintro (q | q) <;> contradiction)]
    · show (if σ.1 17 14 ≤ nI m then _ else _) = _
      rw [h.2.1, if_pos (nI_le (Nat.le_refl m) (by omega))]
  unfold xf_M_crossingsOf
  rw [h1, rb_b1_some]
theorem sm_takenOf (W : rb_wfc n m cr) (h : rm_cr m cr (σ.1 17)) {d : Nat} (hd : d < 2 ^ 31) : xf_M_takenOf (nI d) σ = some (nI (sp_ta cr d m)) := by
  have hm := W.2.1
  have h1 : xl_M_takenOf_4 (nI d) σ rb_FU 0 0 = some (nI (sp_ta cr d m)) := by
    refine rb_up0 (xl_M_takenOf_4 (nI d) σ) (fun i => nI (sp_ta cr d i)) m (some (nI (sp_ta cr d m))) (by omega) (fun q i hi => ?_) (fun q => ?_)
    · show (if σ.1 17 14 ≤ nI i then _ else rb_b1 (xf_M_of (nI i) 1 σ) fun r2 => if r2 = nI d then rb_b1 (xf_M_of (nI i) 3 σ) (fun r5 => xl_M_takenOf_4 (nI d) σ q (nI (sp_ta cr d i) + r5) (nI i + 1)) else rb_b1 (xf_M_of (nI i) 2 σ) fun r7 => if r7 = nI d then rb_b1 (xf_M_of (nI i) 3 σ) (fun r10 => xl_M_takenOf_4 (nI d) σ q (nI (sp_ta cr d i) + r10) (nI i + 1)) else xl_M_takenOf_4 (nI d) σ q (nI (sp_ta cr d i) + 0) (nI i + 1)) = xl_M_takenOf_4 (nI d) σ q (nI (if cr i 1 = d ∨ cr i 2 = d then sp_ta cr d i + cr i 3 else sp_ta cr d i)) (nI (i + 1))
      obtain ⟨a, b, c, _, _⟩ := W.2.2 i hi
      have w1 := W.1
      rw [h.2.1, if_neg (nI_ge hi (by omega)), rm_of (x := 1) h hi 1 (by decide) rfl, rm_of (x := 2) h hi 2 (by decide) rfl, rm_of (x := 3) h hi 3 (by decide) rfl, rb_b1_some, rb_b1_some, rb_b1_some, nI_1, nI_add, Int32.add_zero]
      by_cases g1 : cr i 1 = d
      · rw [if_pos (by rw [g1]), if_pos (Or.inl g1)]
      · rw [if_neg (fun e => g1 ((nI_eq (by omega) hd).mp e))]
        by_cases g2 : cr i 2 = d
        · rw [if_pos (by rw [g2]), if_pos (Or.inr g2)]
        · rw [if_neg (fun e => g2 ((nI_eq (by omega) hd).mp e)), if_neg (by rintro (q | q) <;> contradiction)]
    · show (if σ.1 17 14 ≤ nI m then _ else _) = _
      rw [h.2.1, if_pos (nI_le (Nat.le_refl m) (by omega))]
  unfold xf_M_takenOf
  rw [h1, rb_b1_some]
end RBQ
