/-! NEAREST, the mathematics: lifts of an order, their crossings (no states) -/
def af_s : Nat → (Nat → Int) → Int
  | 0, _ => 0
  | n + 1, f => af_s n f + f n
theorem af_s_co {f g : Nat → Int} : ∀ n, (∀ i, i < n → f i = g i) → af_s n f = af_s n g
  | 0, _ => rfl
  | n + 1, h => by
    show af_s n f + f n = af_s n g + g n
    rw [af_s_co n (fun i hi => h i (by omega)), h n (by omega)]
theorem af_s_add (f g : Nat → Int) : ∀ n, af_s n (fun i => f i + g i) = af_s n f + af_s n g
  | 0 => rfl
  | n + 1 => by
    show af_s n (fun i => f i + g i) + (f n + g n) = af_s n f + f n + (af_s n g + g n)
    rw [af_s_add f g n]; omega
theorem af_s_0 : ∀ n, af_s n (fun _ => 0) = 0
  | 0 => rfl
  | n + 1 => by
    show af_s n (fun _ => 0) + 0 = 0
    rw [af_s_0 n]; rfl
theorem af_s_one (p : Nat) (x : Int) : ∀ n, p < n → af_s n (fun i => if i = p then x else 0) = x
  | 0, h => by omega
  | n + 1, h => by
    show af_s n (fun i => if i = p then x else 0) + (if n = p then x else 0) = x
    by_cases e : n = p
    · rw [if_pos e, af_s_co (g := fun _ => 0) n (fun i hi => if_neg (by omega)), af_s_0]; omega
    · rw [if_neg e, af_s_one p x n (by omega)]; omega
theorem af_s_nn {f : Nat → Int} : ∀ n, (∀ i, i < n → 0 ≤ f i) → 0 ≤ af_s n f
  | 0, _ => Int.le_refl 0
  | n + 1, h => by
    show 0 ≤ af_s n f + f n
    have := af_s_nn n (fun i hi => h i (by omega))
    have := h n (by omega)
    omega
theorem af_s_z {f : Nat → Int} : ∀ n, (∀ i, i < n → 0 ≤ f i) → af_s n f = 0 → ∀ i, i < n → f i = 0
  | 0, _, _, i, hi => by omega
  | n + 1, h, hz, i, hi => by
    have hz' : af_s n f + f n = 0 := hz
    have h1 := af_s_nn n (fun i hi => h i (by omega))
    have h2 := h n (by omega)
    by_cases e : i = n
    · rw [e]; omega
    · exact af_s_z n (fun i hi => h i (by omega)) (by omega) i (by omega)
theorem af_split {p q : Nat} (hpq : p ≠ q) (f : Nat → Int) {n : Nat} (hp : p < n) (hq : q < n) : af_s n f = af_s n (fun i => if i = p then 0 else if i = q then 0 else f i) + f p + f q := by
  have e : af_s n f = af_s n (fun i => (if i = p then 0 else if i = q then 0 else f i) + ((if i = p then f p else 0) + (if i = q then f q else 0))) := af_s_co n (fun i hi => by
    by_cases h1 : i = p
    · subst h1; simp [hpq]
    · by_cases h2 : i = q
      · subst h2; simp [h1]
      · simp [h1, h2])
  rw [e, af_s_add, af_s_add, af_s_one p (f p) n hp, af_s_one q (f q) n hq]
  omega
def af_pi (p q i : Nat) : Nat := if i = p then q else if i = q then p else i
theorem af_sw {p q : Nat} (hpq : p ≠ q) (f : Nat → Int) {n : Nat} (hp : p < n) (hq : q < n) : af_s n (fun i => f (af_pi p q i)) = af_s n f := by
  rw [af_split hpq (fun i => f (af_pi p q i)) hp hq, af_split hpq f hp hq]
  have e : af_s n (fun i => if i = p then 0 else if i = q then 0 else f (af_pi p q i)) = af_s n (fun i => if i = p then 0 else if i = q then 0 else f i) := af_s_co n (fun i hi => by
    unfold af_pi
    by_cases h1 : i = p
    · simp [h1]
    · by_cases h2 : i = q
      · simp [h2]
      · simp [h1, h2])
  have e1 : f (af_pi p q p) = f q := by unfold af_pi; rw [if_pos rfl]
  have e2 : f (af_pi p q q) = f p := by unfold af_pi; rw [if_neg (fun w => hpq w.symm), if_pos rfl]
  rw [e, e1, e2]
  omega
def af_ab (x : Int) : Int := if 0 ≤ x then x else -x
def af_w (n : Int) (e : Nat → Int) (i j : Nat) : Int := if i < j then af_ab ((e i - e j) / n + 1) else if j < i then af_ab ((e j - e i) / n + 1) else 0
def af_S (n : Nat) (e : Nat → Int) : Int := af_s n (fun i => af_s n (fun j => af_w n e i j))
theorem af_ab_nn (x : Int) : 0 ≤ af_ab x := by unfold af_ab; split <;> omega
theorem af_ab_neg (x : Int) : af_ab (-x) = af_ab x := by unfold af_ab; split <;> split <;> omega
theorem af_w_nn (n : Int) (e : Nat → Int) (i j : Nat) : 0 ≤ af_w n e i j := by
  unfold af_w
  split
  · exact af_ab_nn _
  · split
    · exact af_ab_nn _
    · omega
theorem af_w_sy (n : Int) (e : Nat → Int) (i j : Nat) : af_w n e i j = af_w n e j i := by
  unfold af_w
  by_cases h1 : i < j
  · rw [if_pos h1, if_neg (by omega), if_pos h1]
  · by_cases h2 : j < i
    · rw [if_neg h1, if_pos h2, if_pos h2]
    · rw [if_neg h1, if_neg h2, if_neg h2, if_neg h1]
/-- two places change, all else goes along -/
theorem af_S_sw {n p q : Nat} (hpq : p ≠ q) (hp : p < n) (hq : q < n) {e e' : Nat → Int} {d : Int} (h1 : ∀ i j, i < n → j < n → ¬ (i = p ∧ j = q) → ¬ (i = q ∧ j = p) → af_w n e' i j = af_w n e (af_pi p q i) (af_pi p q j)) (h2 : af_w n e' p q = af_w n e p q + d) : af_S n e' = af_S n e + 2 * d := by
  unfold af_S
  have k1 : af_s n (fun i => af_s n (fun j => af_w n e' i j)) = af_s n (fun i => af_s n (fun j => af_w n e (af_pi p q i) (af_pi p q j)) + ((if i = p then d else 0) + (if i = q then d else 0))) := af_s_co n (fun i hi => by
    have k2 : af_s n (fun j => af_w n e' i j) = af_s n (fun j => af_w n e (af_pi p q i) (af_pi p q j) + ((if j = q then (if i = p then d else 0) else 0) + (if j = p then (if i = q then d else 0) else 0))) := af_s_co n (fun j hj => by
      by_cases c1 : i = p ∧ j = q
      · obtain ⟨rfl, rfl⟩ := c1
        have e1 : af_pi i j i = j := by unfold af_pi; rw [if_pos rfl]
        have e2 : af_pi i j j = i := by unfold af_pi; rw [if_neg (fun w => hpq w.symm), if_pos rfl]
        rw [e1, e2, h2, af_w_sy n e j i, if_pos rfl, if_pos rfl, if_neg (fun w => hpq w.symm)]
        omega
      · by_cases c2 : i = q ∧ j = p
        · obtain ⟨rfl, rfl⟩ := c2
          have e1 : af_pi j i j = i := by unfold af_pi; rw [if_pos rfl]
          have e2 : af_pi j i i = j := by unfold af_pi; rw [if_neg (fun w => hpq w.symm), if_pos rfl]
          rw [e1, e2, af_w_sy n e' i j, h2, if_neg hpq, if_pos rfl, if_pos rfl]
          omega
        · have z1 : (if j = q then (if i = p then d else 0) else 0) = 0 := by
            by_cases c3 : j = q
            · rw [if_pos c3, if_neg (fun w => c1 ⟨w, c3⟩)]
            · rw [if_neg c3]
          have z2 : (if j = p then (if i = q then d else 0) else 0) = 0 := by
            by_cases c3 : j = p
            · rw [if_pos c3, if_neg (fun w => c2 ⟨w, c3⟩)]
            · rw [if_neg c3]
          rw [h1 i j hi hj c1 c2, z1, z2]; omega)
    rw [k2, af_s_add, af_s_add, af_s_one q _ n hq, af_s_one p _ n hp])
  rw [k1, af_s_add, af_s_add, af_s_one p d n hp, af_s_one q d n hq]
  have k3 : af_s n (fun i => af_s n (fun j => af_w n e (af_pi p q i) (af_pi p q j))) = af_s n (fun i => af_s n (fun j => af_w n e i j)) := by
    have k4 : af_s n (fun i => af_s n (fun j => af_w n e (af_pi p q i) (af_pi p q j))) = af_s n (fun i => (fun i => af_s n (fun j => af_w n e i j)) (af_pi p q i)) := af_s_co n (fun i hi => af_sw hpq (fun j => af_w n e (af_pi p q i) j) hp hq)
    exact k4.trans (af_sw hpq (fun i => af_s n (fun j => af_w n e i j)) hp hq)
  rw [k3]
  omega
/-- floors of numbers that n does not divide -/
theorem af_neg {n x : Int} (hn : 0 < n) (hx : x % n ≠ 0) : (-x) / n = -(x / n) - 1 := by
  have h1 := Int.emod_nonneg x (show n ≠ 0 by omega)
  have h2 := Int.emod_lt_of_pos x hn
  have h3 := Int.emod_add_mul_ediv x n
  refine ((Int.ediv_emod_unique (a := -x) (b := n) (r := n - x % n) (q := -(x / n) - 1) hn).mpr ⟨?_, by omega, by omega⟩).1
  have e : n * (-(x / n) - 1) = -(n * (x / n)) - n := by rw [Int.mul_sub, Int.mul_neg, Int.mul_one]
  rw [e]; omega
theorem af_addn {n x : Int} (hn : 0 < n) : (x + n) / n = x / n + 1 := by
  have := Int.add_mul_ediv_right x 1 (show n ≠ 0 by omega)
  rw [Int.one_mul] at this; exact this
theorem af_subn {n x : Int} (hn : 0 < n) : (x - n) / n = x / n - 1 := by
  have := af_addn (x := x - n) hn
  rw [show x - n + n = x by omega] at this
  omega
