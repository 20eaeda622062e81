/-! NEAREST: a crossing changes the lift's crossings by one -/
def af_ds (n : Nat) (e : Nat → Int) : Prop := ∀ i j, i < n → j < n → i ≠ j → (e i - e j) % (n : Int) ≠ 0
def af_ex (n p : Nat) (e : Nat → Int) : Nat → Int := if p + 1 < n then fun i => e (af_pi p (p + 1) i) else fun i => if i = 0 then e (n - 1) - n else if i = n - 1 then e 0 + n else e i
def af_dn (n p : Nat) (e : Nat → Int) : Prop := if p + 1 < n then e (p + 1) < e p else e 0 + n < e (n - 1)
theorem af_q {n x : Int} (hn : 0 < n) : 0 ≤ x / n ↔ 0 ≤ x := Int.ediv_nonneg_iff_of_pos hn
theorem af_pi_lt {p i j : Nat} (h1 : ¬ (i = p ∧ j = p + 1)) (h2 : ¬ (i = p + 1 ∧ j = p)) : (af_pi p (p + 1) i < af_pi p (p + 1) j) ↔ i < j := by
  unfold af_pi
  repeat' split
  all_goals omega
theorem af_sw1 {n p : Nat} {e : Nat → Int} (hp : p + 1 < n) (D : af_ds n e) : (af_dn n p e → af_S n (af_ex n p e) = af_S n e - 2) ∧ (¬ af_dn n p e → af_S n (af_ex n p e) = af_S n e + 2) := by
  have hn : (0 : Int) < n := by omega
  have ee : af_ex n p e = fun i => e (af_pi p (p + 1) i) := by unfold af_ex; rw [if_pos hp]
  have ed : af_dn n p e = (e (p + 1) < e p) := by unfold af_dn; rw [if_pos hp]
  rw [ee, ed]
  have hx := D p (p + 1) (by omega) hp (by omega)
  have k1 : ∀ i j, i < n → j < n → ¬ (i = p ∧ j = p + 1) → ¬ (i = p + 1 ∧ j = p) → af_w n (fun i => e (af_pi p (p + 1) i)) i j = af_w n e (af_pi p (p + 1) i) (af_pi p (p + 1) j) := by
    intro i j _ _ c1 c2
    unfold af_w
    have q1 := af_pi_lt c1 c2
    have q2 := af_pi_lt (p := p) (i := j) (j := i) (fun w => c2 ⟨w.2, w.1⟩) (fun w => c1 ⟨w.2, w.1⟩)
    by_cases h1 : i < j
    · rw [if_pos h1, if_pos (q1.2 h1)]
    · rw [if_neg h1, if_neg (fun w => h1 (q1.1 w))]
      by_cases h2 : j < i
      · rw [if_pos h2, if_pos (q2.2 h2)]
      · rw [if_neg h2, if_neg (fun w => h2 (q2.1 w))]
  have v1 : af_w n (fun i => e (af_pi p (p + 1) i)) p (p + 1) = af_ab (-((e p - e (p + 1)) / n)) := by
    unfold af_w
    have e1 : af_pi p (p + 1) p = p + 1 := by unfold af_pi; rw [if_pos rfl]
    have e2 : af_pi p (p + 1) (p + 1) = p := by unfold af_pi; rw [if_neg (by omega), if_pos rfl]
    rw [if_pos (by omega)]
    show af_ab ((e (af_pi p (p + 1) p) - e (af_pi p (p + 1) (p + 1))) / n + 1) = _
    rw [e1, e2, show e (p + 1) - e p = -(e p - e (p + 1)) by omega, af_neg hn hx]
    congr 1; omega
  have v2 : af_w n e p (p + 1) = af_ab ((e p - e (p + 1)) / n + 1) := by unfold af_w; rw [if_pos (by omega)]
  have qq := af_q (x := e p - e (p + 1)) hn
  have ne : e p - e (p + 1) ≠ 0 := fun w => hx (by rw [w]; exact Int.zero_emod _)
  refine ⟨fun h => ?_, fun h => ?_⟩
  · have := af_S_sw (show p ≠ p + 1 by omega) (show p < n by omega) hp (d := -1) k1 (by
      rw [v1, v2]
      have := qq.2 (by omega)
      unfold af_ab
      split <;> split <;> omega)
    omega
  · have := af_S_sw (show p ≠ p + 1 by omega) (show p < n by omega) hp (d := 1) k1 (by
      rw [v1, v2]
      have : ¬ 0 ≤ (e p - e (p + 1)) / (n : Int) := fun w => by have := qq.1 w; omega
      unfold af_ab
      split <;> split <;> omega)
    omega
theorem af_sw2 {n : Nat} {e : Nat → Int} (h3 : 3 ≤ n) (D : af_ds n e) : (af_dn n (n - 1) e → af_S n (af_ex n (n - 1) e) = af_S n e - 2) ∧ (¬ af_dn n (n - 1) e → af_S n (af_ex n (n - 1) e) = af_S n e + 2) := by
  have hn : (0 : Int) < n := by omega
  obtain ⟨e', he'⟩ : ∃ e' : Nat → Int, e' = fun i => if i = 0 then e (n - 1) - n else if i = n - 1 then e 0 + n else e i := ⟨_, rfl⟩
  have ee : af_ex n (n - 1) e = e' := by unfold af_ex; rw [if_neg (by omega), he']
  have ed : af_dn n (n - 1) e = (e 0 + n < e (n - 1)) := by unfold af_dn; rw [if_neg (by omega)]
  rw [ee, ed]
  have v0 : e' 0 = e (n - 1) - n := by rw [he']; simp
  have vn : e' (n - 1) = e 0 + n := by
    rw [he']
    show (if n - 1 = 0 then _ else if n - 1 = n - 1 then e 0 + (n : Int) else _) = _
    rw [if_neg (by omega), if_pos rfl]
  have vi : ∀ i, i ≠ 0 → i ≠ n - 1 → e' i = e i := fun i a b => by
    rw [he']
    show (if i = 0 then _ else if i = n - 1 then _ else e i) = _
    rw [if_neg a, if_neg b]
  have p0 : af_pi 0 (n - 1) 0 = n - 1 := by unfold af_pi; rw [if_pos rfl]
  have pn : af_pi 0 (n - 1) (n - 1) = 0 := by unfold af_pi; rw [if_neg (by omega), if_pos rfl]
  have pi : ∀ i, i ≠ 0 → i ≠ n - 1 → af_pi 0 (n - 1) i = i := fun i a b => by unfold af_pi; rw [if_neg a, if_neg b]
  have hx := D (n - 1) 0 (by omega) (by omega) (by omega)
  -- with the first, with the last
  have c0 : ∀ j, j < n → j ≠ 0 → j ≠ n - 1 → af_w n e' 0 j = af_w n e (n - 1) j := fun j hj a b => by
    have dj := D (n - 1) j (by omega) hj (by omega)
    unfold af_w
    rw [if_pos (by omega), if_neg (by omega), if_pos (by omega), v0, vi j a b, show e (n - 1) - n - e j = e (n - 1) - e j - n by omega, af_subn hn, show e j - e (n - 1) = -(e (n - 1) - e j) by omega, af_neg hn dj, ← af_ab_neg]
    congr 1; omega
  have cn : ∀ j, j < n → j ≠ 0 → j ≠ n - 1 → af_w n e' (n - 1) j = af_w n e 0 j := fun j hj a b => by
    have dj := D j 0 hj (by omega) a
    unfold af_w
    rw [if_neg (by omega), if_pos (by omega), if_pos (by omega), vn, vi j a b, show e j - (e 0 + n) = e j - e 0 - n by omega, af_subn hn, show e 0 - e j = -(e j - e 0) by omega, af_neg hn dj, ← af_ab_neg]
    congr 1; omega
  have k1 : ∀ i j, i < n → j < n → ¬ (i = 0 ∧ j = n - 1) → ¬ (i = n - 1 ∧ j = 0) → af_w n e' i j = af_w n e (af_pi 0 (n - 1) i) (af_pi 0 (n - 1) j) := by
    intro i j hi hj a b
    by_cases i0 : i = 0
    · subst i0
      by_cases j0 : j = 0
      · subst j0; rw [p0]; unfold af_w; simp
      · have jn : j ≠ n - 1 := fun w => a ⟨rfl, w⟩
        rw [p0, pi j j0 jn]; exact c0 j hj j0 jn
    · by_cases iN : i = n - 1
      · subst iN
        by_cases jN : j = n - 1
        · subst jN; rw [pn]; unfold af_w; simp
        · have j0 : j ≠ 0 := fun w => b ⟨rfl, w⟩
          rw [pn, pi j j0 jN]; exact cn j hj j0 jN
      · rw [pi i i0 iN]
        by_cases j0 : j = 0
        · subst j0; rw [p0, af_w_sy, af_w_sy n e i (n - 1)]; exact c0 i hi i0 iN
        · by_cases jN : j = n - 1
          · subst jN; rw [pn, af_w_sy, af_w_sy n e i 0]; exact cn i hi i0 iN
          · rw [pi j j0 jN]
            unfold af_w
            rw [vi i i0 iN, vi j j0 jN]
  have v1 : af_w n e' 0 (n - 1) = af_ab ((e (n - 1) - e 0) / n - 1) := by
    unfold af_w
    rw [if_pos (by omega), v0, vn, show e (n - 1) - n - (e 0 + n) = e (n - 1) - e 0 - n - n by omega, af_subn hn, af_subn hn]
    congr 1; omega
  have v2 : af_w n e 0 (n - 1) = af_ab ((e (n - 1) - e 0) / n) := by
    unfold af_w
    rw [if_pos (by omega), show e 0 - e (n - 1) = -(e (n - 1) - e 0) by omega, af_neg hn hx, ← af_ab_neg]
    congr 1; omega
  have qq := af_q (x := e (n - 1) - e 0 - n) hn
  rw [af_subn hn] at qq
  have ne : e (n - 1) - e 0 ≠ n := fun w => hx (by rw [w]; exact Int.emod_self)
  refine ⟨fun h => ?_, fun h => ?_⟩
  · have := af_S_sw (show 0 ≠ n - 1 by omega) (show 0 < n by omega) (show n - 1 < n by omega) (d := -1) k1 (by
      rw [v1, v2]
      have := qq.2 (by omega)
      unfold af_ab
      split <;> split <;> omega)
    omega
  · have := af_S_sw (show 0 ≠ n - 1 by omega) (show 0 < n by omega) (show n - 1 < n by omega) (d := 1) k1 (by
      rw [v1, v2]
      have : ¬ 0 ≤ (e (n - 1) - e 0) / (n : Int) - 1 := fun w => by have := qq.1 w; omega
      unfold af_ab
      split <;> split <;> omega)
    omega
theorem af_swap {n p : Nat} {e : Nat → Int} (h3 : 3 ≤ n) (hp : p < n) (D : af_ds n e) : (af_dn n p e → af_S n (af_ex n p e) = af_S n e - 2) ∧ (¬ af_dn n p e → af_S n (af_ex n p e) = af_S n e + 2) := by
  by_cases h : p + 1 < n
  · exact af_sw1 h D
  · have : p = n - 1 := by omega
    subst this
    exact af_sw2 h3 D
