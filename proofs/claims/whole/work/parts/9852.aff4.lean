/-! NEAREST: one's net crossings make its way; two that are too far apart change rounds -/
def af_inj (n : Nat) (f : Nat → Nat) : Prop := (∀ i, i < n → f i < n) ∧ ∀ i j, i < n → j < n → f i = f j → i = j
/-- a bijection keeps the sum -/
theorem af_bij : ∀ (n : Nat) (f : Nat → Nat), af_inj n f → af_s n (fun i => (f i : Int)) = af_s n (fun i => (i : Int)) := by
  intro n
  induction n with
  | zero => intro f _; rfl
  | succ n ih =>
    intro f ⟨h1, h2⟩
    have ex : ∃ k, k ≤ n ∧ f k = n := by
      by_cases q : ∃ k, k ≤ n ∧ f k = n
      · exact q
      · obtain ⟨i, j, a1, a2, a3⟩ := rb_php n f (fun i hi => by
          have := h1 i (by omega)
          have : f i ≠ n := fun w => q ⟨i, hi, w⟩
          omega)
        have := h2 i j (by omega) (by omega) a3
        omega
    obtain ⟨k, k1, k2⟩ := ex
    show af_s n (fun i => (f i : Int)) + (f n : Int) = af_s n (fun i => (i : Int)) + (n : Int)
    have fi : af_inj n (fun i => if i = k then f n else f i) := by
      refine ⟨fun i hi => ?_, fun i j hi hj w => ?_⟩
      · show (if i = k then f n else f i) < n
        by_cases c : i = k
        · rw [if_pos c]
          have := h1 n (by omega)
          have : f n ≠ n := fun w => by have := h2 n k (by omega) (by omega) (by omega); omega
          omega
        · rw [if_neg c]
          have := h1 i (by omega)
          have : f i ≠ n := fun w => c (h2 i k (by omega) (by omega) (by omega))
          omega
      · have w' : (if i = k then f n else f i) = (if j = k then f n else f j) := w
        by_cases c : i = k
        · by_cases d : j = k
          · omega
          · rw [if_pos c, if_neg d] at w'
            have := h2 n j (by omega) (by omega) w'
            omega
        · by_cases d : j = k
          · rw [if_neg c, if_pos d] at w'
            have := h2 i n (by omega) (by omega) w'
            omega
          · rw [if_neg c, if_neg d] at w'
            exact h2 i j (by omega) (by omega) w'
    rw [← ih _ fi]
    by_cases c : k = n
    · have e1 : af_s n (fun i => ((if i = k then f n else f i : Nat) : Int)) = af_s n (fun i => (f i : Int)) := af_s_co n (fun i hi => by rw [if_neg (by omega)])
      rw [e1]
      rw [c] at k2; omega
    · have e1 : af_s n (fun i => (f i : Int)) = af_s n (fun i => ((if i = k then f n else f i : Nat) : Int) + (if i = k then (n : Int) - f n else 0)) := af_s_co n (fun i hi => by
        by_cases d : i = k
        · rw [if_pos d, if_pos d, d, k2]; omega
        · rw [if_neg d, if_neg d]; omega)
      rw [e1, af_s_add, af_s_one k _ n (by omega)]; omega
def af_h (n : Int) (e : Nat → Int) (i j : Nat) : Int := if i < j then (e i - e j) / n + 1 else (e i - e j) / n
section AFH
variable {n : Nat} {e : Nat → Int}
theorem af_h_w (hn : 0 < n) (D : af_ds n e) {i j : Nat} (hi : i < n) (hj : j < n) : af_w n e i j = af_ab (af_h n e i j) := by
  unfold af_w af_h
  by_cases h1 : i < j
  · rw [if_pos h1, if_pos h1]
  · rw [if_neg h1, if_neg h1]
    by_cases h2 : j < i
    · rw [if_pos h2, show e j - e i = -(e i - e j) by omega, af_neg (by omega) (D i j hi hj (by omega)), ← af_ab_neg]
      congr 1; omega
    · rw [if_neg h2, show i = j by omega, Int.sub_self, Int.zero_ediv]; rfl
theorem af_h_as (hn : 0 < n) (D : af_ds n e) {i j : Nat} (hi : i < n) (hj : j < n) : af_h n e i j = -af_h n e j i := by
  unfold af_h
  by_cases h0 : i = j
  · subst h0
    rw [if_neg (by omega), Int.sub_self, Int.zero_ediv]; rfl
  · have := af_neg (n := n) (by omega) (D i j hi hj h0)
    rw [show -(e i - e j) = e j - e i by omega] at this
    by_cases h1 : i < j
    · rw [if_pos h1, if_neg (by omega)]; omega
    · rw [if_neg h1, if_pos (by omega)]; omega
theorem af_s_mul (c : Int) (f : Nat → Int) : ∀ n, af_s n (fun i => c * f i) = c * af_s n f
  | 0 => by show (0 : Int) = c * 0; rw [Int.mul_zero]
  | n + 1 => by
    show af_s n (fun i => c * f i) + c * f n = c * (af_s n f + f n)
    rw [af_s_mul c f n, Int.mul_add]
theorem af_s_cn (x : Int) : ∀ m : Nat, af_s m (fun _ => x) = m * x := by
  intro m
  induction m with
  | zero => simp [af_s]
  | succ m ih =>
    show af_s m (fun _ => x) + x = ((m + 1 : Nat) : Int) * x
    rw [ih, Int.natCast_add, Int.add_mul]; simp
theorem af_cnt (a : Nat) : ∀ n, a < n → af_s n (fun c => if a < c then (1 : Int) else 0) = n - 1 - a := by
  intro n
  induction n with
  | zero => intro h; omega
  | succ n ih =>
    intro h
    show af_s n (fun c => if a < c then (1 : Int) else 0) + (if a < n then 1 else 0) = ((n + 1 : Nat) : Int) - 1 - a
    by_cases c : a < n
    · rw [ih c, if_pos c]; omega
    · rw [if_neg c, af_s_co (g := fun _ => 0) n (fun i hi => if_neg (by omega)), af_s_0]; omega
theorem af_row (h3 : 3 ≤ n) (D : af_ds n e) (hs : af_s n e = af_s n (fun i => (i : Int))) {a : Nat} (ha : a < n) : af_s n (fun c => af_h n e a c) = e a - a := by
  have hn : (0 : Int) < n := by omega
  -- the rests are all different
  have B := af_bij n (fun c => ((e a - e c) % (n : Int)).toNat) ⟨fun i hi => by
    have := Int.emod_lt_of_pos (e a - e i) hn
    have := Int.emod_nonneg (e a - e i) (show (n : Int) ≠ 0 by omega)
    show ((e a - e i) % (n : Int)).toNat < n
    omega, fun i j hi hj w => by
    have a1 := Int.emod_nonneg (e a - e i) (show (n : Int) ≠ 0 by omega)
    have a2 := Int.emod_nonneg (e a - e j) (show (n : Int) ≠ 0 by omega)
    have w' : (e a - e i) % (n : Int) = (e a - e j) % (n : Int) := by
      have w2 : ((e a - e i) % (n : Int)).toNat = ((e a - e j) % (n : Int)).toNat := w
      omega
    by_cases c : i = j
    · exact c
    · exfalso
      refine D j i hj hi (fun q => c q.symm) ?_
      have e1 : e j - e i = (e a - e i) - (e a - e j) := by omega
      rw [e1]
      exact Int.emod_eq_emod_iff_emod_sub_eq_zero.mp w'⟩
  have B' : af_s n (fun c => (e a - e c) % (n : Int)) = af_s n (fun i => (i : Int)) := by
    rw [← B]
    exact af_s_co n (fun c hc => by
      have := Int.emod_nonneg (e a - e c) (show (n : Int) ≠ 0 by omega)
      show (e a - e c) % (n : Int) = ((((e a - e c) % (n : Int)).toNat : Nat) : Int)
      omega)
  have E : af_s n (fun c => e a - e c) = n * af_s n (fun c => (e a - e c) / (n : Int)) + af_s n (fun c => (e a - e c) % (n : Int)) := by
    rw [← af_s_mul, ← af_s_add]
    exact af_s_co n (fun c hc => by have := Int.emod_add_mul_ediv (e a - e c) n; omega)
  have E2 : af_s n (fun c => e a - e c) + af_s n e = n * e a := by
    rw [← af_s_add, ← af_s_cn]
    exact af_s_co n (fun c hc => by omega)
  have T : ∀ m : Nat, 2 * af_s m (fun i => (i : Int)) = m * (m - 1) := by
    intro m
    induction m with
    | zero => simp [af_s]
    | succ m ih =>
      show 2 * (af_s m (fun i => (i : Int)) + m) = ((m + 1 : Nat) : Int) * (((m + 1 : Nat) : Int) - 1)
      rw [Int.mul_add, ih, Int.natCast_add]
      have : ((m : Int) + 1) * ((m : Int) + 1 - 1) = m * (m - 1) + 2 * m := by
        rw [show (m : Int) + 1 - 1 = m by omega, Int.add_mul, Int.mul_sub]; omega
      exact this.symm
  have T' := T n
  have key : (n : Int) * af_s n (fun c => (e a - e c) / (n : Int)) = n * (e a - (n - 1)) := by
    rw [Int.mul_sub, ← T']
    omega
  have key2 : af_s n (fun c => (e a - e c) / (n : Int)) = e a - (n - 1) := Int.eq_of_mul_eq_mul_left (show (n : Int) ≠ 0 by omega) key
  have H : af_s n (fun c => af_h n e a c) = af_s n (fun c => (e a - e c) / (n : Int)) + af_s n (fun c => if a < c then (1 : Int) else 0) := by
    rw [← af_s_add]
    exact af_s_co n (fun c hc => by
      unfold af_h
      by_cases q : a < c
      · rw [if_pos q, if_pos q]
      · rw [if_neg q, if_neg q]; omega)
  rw [H, key2, af_cnt a n ha]; omega
end AFH
