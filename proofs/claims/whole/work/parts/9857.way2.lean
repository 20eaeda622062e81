/-! NEAREST, the class: fewest -/
theorem af_s_tail (f : Nat → Int) {n j : Nat} (hj : j < n) : af_s n (fun k => if j ≤ k then f k else 0) = f j + af_s n (fun k => if j + 1 ≤ k then f k else 0) := by
  have : af_s n (fun k => if j ≤ k then f k else 0) = af_s n (fun k => (if k = j then f j else 0) + (if j + 1 ≤ k then f k else 0)) := af_s_co n (fun k _ => by
    by_cases c : k = j
    · subst c; rw [if_pos (Nat.le_refl _), if_pos rfl, if_neg (by omega)]; omega
    · by_cases d : j ≤ k
      · rw [if_pos d, if_neg c, if_pos (by omega)]; omega
      · rw [if_neg d, if_neg c, if_neg (by omega)]; omega)
  rw [this, af_s_add, af_s_one j _ n hj]
theorem af_s_end (f : Nat → Int) {n j : Nat} (hj : n ≤ j) : af_s n (fun k => if j ≤ k then f k else 0) = 0 := by
  rw [af_s_co (g := fun _ => 0) n (fun k hk => if_neg (by omega)), af_s_0]
theorem af_s_le {f : Nat → Int} {C : Int} : ∀ n, (∀ i, i < n → f i ≤ C) → af_s n f ≤ n * C
  | 0, _ => by show (0 : Int) ≤ ((0 : Nat) : Int) * C; simp
  | n + 1, h => by
    show af_s n f + f n ≤ ((n + 1 : Nat) : Int) * C
    have a := af_s_le n (fun i hi => h i (by omega))
    have b := h n (by omega)
    rw [Int.natCast_add, Int.add_mul]
    omega
theorem af_pv_le : ∀ n, n < 8 → 2 < n → ∀ a, a < 41 → af_pv n a ≤ 7 := by decide +kernel
section AFX
variable {n : Nat} {g : Nat → Nat} {σ : rb_St}
theorem af_w_le (h3 : 3 ≤ n) (h7 : n ≤ 7) {x i j : Nat} (hi : i < n) (hj : j < n) (hij : i < j) : af_w n (af_E n g x) i j ≤ 7 := by
  have r1 := af_E_rng (g := g) (x := x) h3 hi
  have r2 := af_E_rng (g := g) (x := x) h3 hj
  obtain ⟨a, ha⟩ : ∃ a : Nat, (a : Int) = af_E n g x i - af_E n g x j + 20 := ⟨(af_E n g x i - af_E n g x j + 20).toNat, by omega⟩
  have k := af_pv_le n (by omega) (by omega) a (by omega)
  unfold af_pv at k
  unfold af_w
  rw [if_pos hij, show af_E n g x i - af_E n g x j = (a : Int) - 20 by omega]
  omega
theorem sx_cw17 (h3 : 3 ≤ n) (h7 : n ≤ 7) (Wx : WX n g σ) {x i : Nat} (hx : x < 128) (hi : i < n) : ∀ (f j acc : Nat), i < j → j ≤ n → n - j < f → ∃ R : Nat, xl_Way_crossingsWith_17 (nI x) (nI i) σ f (nI acc) (nI j) = some (nI R) ∧ (R : Int) = acc + af_s n (fun k => if j ≤ k then af_w n (af_E n g x) i k else 0) := by
  intro f
  induction f with
  | zero => intro j acc _ _ h; omega
  | succ f ih =>
    intro j acc hij hj hf
    have e0 : xl_Way_crossingsWith_17 (nI x) (nI i) σ (f + 1) (nI acc) (nI j) = if (σ.1 236 0) ≤ nI j then some (nI acc) else rb_b1 (xf_Way_endOf (nI i) (nI x) σ) fun r3 => rb_b1 (xf_Way_endOf (nI j) (nI x) σ) fun r5 => if 1 ≤ (σ.1 236 0) then rb_b1 (xf_JM_floorDiv (r3 - r5) (σ.1 236 0) σ) fun r8 => rb_lt (nI acc + (if 0 ≤ (r8 + 1) then (r8 + 1) else 0 - (r8 + 1))) (fun v10 => xl_Way_crossingsWith_17 (nI x) (nI i) σ f v10 (nI j + 1)) else xl_Way_crossingsWith_17 (nI x) (nI i) σ f (nI acc + 0) (nI j + 1) := rfl
    by_cases ej : j = n
    · subst ej
      refine ⟨acc, ?_, ?_⟩
      · rw [e0, Wx.1, if_pos (nI_le (Nat.le_refl _) (by omega))]
      · rw [af_s_end _ (Nat.le_refl _)]; omega
    · have hjn : j < n := by omega
      have p := sx_pair (x := x) h3 h7 Wx hi hjn hij
      have c1 : ¬ (σ.1 236 0) ≤ nI j := by rw [Wx.1]; exact nI_ge hjn (by omega)
      have c2 : (1 : Int32) ≤ (σ.1 236 0) := by rw [Wx.1]; exact nI_le (a := 1) (by omega) (by omega)
      rw [e0, if_neg c1, sx_endOf h3 h7 Wx hx hi, rb_b1_some, sx_endOf h3 h7 Wx hx hjn, rb_b1_some, if_pos c2]
      cases hd : xf_JM_floorDiv (Int32.ofInt (af_E n g x i) - Int32.ofInt (af_E n g x j)) (σ.1 236 0) σ with
      | none => rw [hd] at p; exact absurd p (by intro w; cases w)
      | some r8 =>
        rw [hd, rb_b1_some] at p
        have p' := Option.some.inj p
        rw [rb_b1_some, p', rb_lt_eq, nI_add, nI_1]
        obtain ⟨R, R1, R2⟩ := ih (j + 1) (acc + (af_w n (af_E n g x) i j).toNat) (by omega) (by omega) (by omega)
        refine ⟨R, R1, ?_⟩
        have nn := af_w_nn n (af_E n g x) i j
        rw [R2, af_s_tail (fun k => af_w n (af_E n g x) i k) hjn]
        omega
theorem sx_cw4 (h3 : 3 ≤ n) (h7 : n ≤ 7) (Wx : WX n g σ) {x : Nat} (hx : x < 128) : ∀ (f i acc : Nat), i ≤ n → n - i < f → ∃ R : Nat, xl_Way_crossingsWith_4 (nI x) σ f (nI acc) (nI i) = some (nI R) ∧ (R : Int) = acc + af_s n (fun k => if i ≤ k then af_s n (fun j => if k < j then af_w n (af_E n g x) k j else 0) else 0) := by
  intro f
  induction f with
  | zero => intro i acc _ h; omega
  | succ f ih =>
    intro i acc hi hf
    have e0 : xl_Way_crossingsWith_4 (nI x) σ (f + 1) (nI acc) (nI i) = if (σ.1 236 0) ≤ nI i then some (nI acc) else rb_b1 (xl_Way_crossingsWith_17 (nI x) (nI i) σ rb_FU (nI acc) (nI i + 1)) fun y12 => xl_Way_crossingsWith_4 (nI x) σ f y12 (nI i + 1) := rfl
    by_cases ei : i = n
    · subst ei
      refine ⟨acc, ?_, ?_⟩
      · rw [e0, Wx.1, if_pos (nI_le (Nat.le_refl _) (by omega))]
      · rw [af_s_end _ (Nat.le_refl _)]; omega
    · have hin : i < n := by omega
      have c1 : ¬ (σ.1 236 0) ≤ nI i := by rw [Wx.1]; exact nI_ge hin (by omega)
      obtain ⟨R, R1, R2⟩ := sx_cw17 h3 h7 Wx hx hin rb_FU (i + 1) acc (by omega) (by omega) (by unfold rb_FU; omega)
      obtain ⟨R', R3, R4⟩ := ih (i + 1) R (by omega) (by omega)
      refine ⟨R', ?_, ?_⟩
      · rw [e0, if_neg c1, nI_1, R1, rb_b1_some]; exact R3
      · rw [R4, R2, af_s_tail (fun k => af_s n (fun j => if k < j then af_w n (af_E n g x) k j else 0)) hin]
        have : af_s n (fun k => if i + 1 ≤ k then af_w n (af_E n g x) i k else 0) = af_s n (fun j => if i < j then af_w n (af_E n g x) i j else 0) := af_s_co n (fun k _ => rfl)
        rw [this]; omega
theorem sx_cw (h3 : 3 ≤ n) (h7 : n ≤ 7) (Wx : WX n g σ) {x : Nat} (hx : x < 128) : ∃ R : Nat, xf_Way_crossingsWith (nI x) σ = some (nI R) ∧ (R : Int) = af_L n (af_E n g x) ∧ R < 1000 := by
  obtain ⟨R, R1, R2⟩ := sx_cw4 h3 h7 Wx hx rb_FU 0 0 (by omega) (by unfold rb_FU; omega)
  have R1' : xl_Way_crossingsWith_4 (nI x) σ rb_FU 0 0 = some (nI R) := R1
  have e : af_s n (fun k => if 0 ≤ k then af_s n (fun j => if k < j then af_w n (af_E n g x) k j else 0) else 0) = af_L n (af_E n g x) := af_s_co n (fun k _ => by rw [if_pos (Nat.zero_le _)])
  rw [e] at R2
  refine ⟨R, ?_, by omega, ?_⟩
  · unfold xf_Way_crossingsWith
    rw [R1', rb_b1_some]
  · have b : af_L n (af_E n g x) ≤ n * (n * 7) := af_s_le n (fun i hi => af_s_le n (fun j hj => by
      by_cases c : i < j
      · rw [if_pos c]; exact af_w_le h3 h7 hi hj c
      · rw [if_neg c]; omega))
    have : (n : Int) * (n * 7) ≤ 7 * (7 * 7) := Int.mul_le_mul (by omega) (by omega) (by omega) (by omega)
    omega
/-- the loop over all sets finds the least -/
theorem sx_few80 (h3 : 3 ≤ n) (h7 : n ≤ 7) (Wx : WX n g σ) {k N : Nat} (hk : k ≤ 7) (hN : N < 100000) (lo : ∀ x, x < 2 ^ n → af_bc x = k → (N : Int) ≤ af_L n (af_E n g x)) : ∀ (f t acc : Nat), t ≤ 2 ^ n → 2 ^ n - t < f → N ≤ acc → acc < 2 ^ 31 → (acc = N ∨ ∃ x, t ≤ x ∧ x < 2 ^ n ∧ af_bc x = k ∧ af_L n (af_E n g x) = N) → xl_Way_fewest_80 (nI k) σ f (nI acc) (nI t) = some (nI N) := by
  have p2 : 2 ^ n ≤ 2 ^ 7 := Nat.pow_le_pow_right (by omega) h7
  have p7 : (2 : Nat) ^ 7 = 128 := rfl
  have bcl : ∀ x, af_bc x ≤ 7 := fun x => by
    unfold af_bc
    have : ∀ m, rb_fo (fun i a => a + if x.testBit i = true then 1 else 0) 0 m ≤ m := by
      intro m
      induction m with
      | zero => exact Nat.le_refl 0
      | succ m ih =>
        show rb_fo (fun i a => a + if x.testBit i = true then 1 else 0) 0 m + (if x.testBit m = true then 1 else 0) ≤ m + 1
        split <;> omega
    exact this 7
  intro f
  induction f with
  | zero => intro t acc _ h; omega
  | succ f ih =>
    intro t acc ht hf hacc hb hex
    have e0 : xl_Way_fewest_80 (nI k) σ (f + 1) (nI acc) (nI t) = if (1 <<< ((σ.1 236 0) &&& 31)) ≤ nI t then some (nI acc) else if (xf_JI_bitCount (nI t) σ) = nI k then rb_b1 (xf_Way_crossingsWith (nI t) σ) fun r17 => xl_Way_fewest_80 (nI k) σ f (rb_mn (nI acc) r17) (nI t + 1) else xl_Way_fewest_80 (nI k) σ f (nI acc) (nI t + 1) := rfl
    rw [e0, Wx.1, af_sh_ok n (by omega)]
    by_cases et : t = 2 ^ n
    · rw [if_pos (by rw [et]; exact nI_le (Nat.le_refl _) (by omega))]
      rcases hex with q | ⟨x, q1, q2, -⟩
      · rw [q]
      · omega
    · have htn : t < 2 ^ n := by omega
      have bk : xf_JI_bitCount (nI t) σ = nI (af_bc t) := af_bc_ok t (by omega)
      rw [if_neg (nI_ge htn (by omega)), bk, nI_1]
      obtain ⟨R, R1, R2, R3⟩ := sx_cw h3 h7 Wx (x := t) (by omega)
      by_cases c : nI (af_bc t) = nI k
      · have ck : af_bc t = k := (nI_eq (by have := bcl t; omega) (by omega)).mp c
        have l := lo t htn ck
        rw [if_pos c, R1, rb_b1_some, rb_mn_nI hb (by omega)]
        refine ih (t + 1) (min acc R) (by omega) (by omega) (by omega) (by omega) ?_
        rcases hex with q | ⟨x, q1, q2, q3, q4⟩
        · exact Or.inl (by omega)
        · by_cases xt : x = t
          · subst xt; exact Or.inl (by omega)
          · exact Or.inr ⟨x, by omega, q2, q3, q4⟩
      · have ck : af_bc t ≠ k := fun w => c (by rw [w])
        rw [if_neg c]
        refine ih (t + 1) acc (by clear hex; omega) (by clear hex; omega) hacc hb ?_
        rcases hex with q | ⟨x, q1, q2, q3, q4⟩
        · exact Or.inl q
        · exact Or.inr ⟨x, by
            have : x ≠ t := fun w => ck (by rw [← w]; exact q3)
            omega, q2, q3, q4⟩
end AFX
