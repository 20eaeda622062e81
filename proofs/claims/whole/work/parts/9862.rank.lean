/-! NEAREST: ranks -/
theorem af_bijF (F : Nat → Int) : ∀ (n : Nat) (f : Nat → Nat), af_inj n f → af_s n (fun i => F (f i)) = af_s n F := by
  intro n
  induction n with
  | zero => intro f _; rfl
  | succ n ih =>
    intro f ⟨h1, h2⟩
    have ex : ∃ k, k ≤ n ∧ f k = n := by
      by_cases q : ∃ k, k ≤ n ∧ f k = n
      · exact q
      · obtain ⟨i, j, a1, a2, a3⟩ := rb_php n f (fun i hi => by
          have := h1 i (by omega)
          have : f i ≠ n := fun w => q ⟨i, hi, w⟩
          omega)
        have := h2 i j (by omega) (by omega) a3
        omega
    obtain ⟨k, k1, k2⟩ := ex
    show af_s n (fun i => F (f i)) + F (f n) = af_s n F + F n
    have fi : af_inj n (fun i => if i = k then f n else f i) := by
      refine ⟨fun i hi => ?_, fun i j hi hj w => ?_⟩
      · show (if i = k then f n else f i) < n
        by_cases c : i = k
        · rw [if_pos c]
          have := h1 n (by omega)
          have : f n ≠ n := fun w => by have := h2 n k (by omega) (by omega) (by omega); omega
          omega
        · rw [if_neg c]
          have := h1 i (by omega)
          have : f i ≠ n := fun w => c (h2 i k (by omega) (by omega) (by omega))
          omega
      · have w' : (if i = k then f n else f i) = (if j = k then f n else f j) := w
        by_cases c : i = k
        · by_cases d : j = k
          · omega
          · rw [if_pos c, if_neg d] at w'
            have := h2 n j (by omega) (by omega) w'
            omega
        · by_cases d : j = k
          · rw [if_neg c, if_pos d] at w'
            have := h2 i n (by omega) (by omega) w'
            omega
          · rw [if_neg c, if_neg d] at w'
            exact h2 i j (by omega) (by omega) w'
    rw [← ih _ fi]
    by_cases c : k = n
    · have e1 : af_s n (fun i => F (if i = k then f n else f i)) = af_s n (fun i => F (f i)) := af_s_co n (fun i hi => by rw [if_neg (by omega)])
      rw [e1]
      rw [c] at k2; rw [k2]
    · have e1 : af_s n (fun i => F (f i)) = af_s n (fun i => F (if i = k then f n else f i) + (if i = k then F n - F (f n) else 0)) := af_s_co n (fun i hi => by
        by_cases d : i = k
        · rw [if_pos d, if_pos d, d, k2]; omega
        · rw [if_neg d, if_neg d]; omega)
      rw [e1, af_s_add, af_s_one k _ n (by omega)]; omega
def sp_rk (n : Nat) (o : Nat → Nat) (t j : Nat) : Int := af_s n (fun k => if t ≤ k ∧ o k < o j then 1 else 0)
section AFR
variable {n : Nat} {o : Nat → Nat}
theorem sp_iv_rk {i : Nat} (hi : i < n) : (sp_iv n o i (n - 1 - i) : Int) = sp_rk n o i i := by
  have k : ∀ t, t ≤ n - 1 - i → (sp_iv n o i t : Int) = af_s (i + 1 + t) (fun k => if i ≤ k ∧ o k < o i then 1 else 0) := by
    intro t
    induction t with
    | zero =>
      intro _
      rw [af_s_co (g := fun _ => 0) _ (fun k hk => if_neg (fun w => by
        have : k = i := by omega
        rw [this] at w; omega)), af_s_0]; rfl
    | succ t ih =>
      intro ht
      have a := ih (by omega)
      show ((sp_iv n o i t + (if i + 1 + t < n ∧ o (i + 1 + t) < o i then 1 else 0) : Nat) : Int) = af_s (i + 1 + t) (fun k => if i ≤ k ∧ o k < o i then 1 else 0) + (if i ≤ i + 1 + t ∧ o (i + 1 + t) < o i then 1 else 0)
      rw [← a]
      by_cases c : o (i + 1 + t) < o i
      · rw [if_pos ⟨by omega, c⟩, if_pos ⟨by omega, c⟩]; omega
      · rw [if_neg (fun w => c w.2), if_neg (fun w => c w.2)]; omega
  have := k (n - 1 - i) (Nat.le_refl _)
  rw [show i + 1 + (n - 1 - i) = n by omega] at this
  exact this
theorem sp_rk_step {t j : Nat} (ht : t < n) : sp_rk n o t j = sp_rk n o (t + 1) j + (if o t < o j then 1 else 0) := by
  unfold sp_rk
  have : af_s n (fun k => if t ≤ k ∧ o k < o j then (1 : Int) else 0) = af_s n (fun k => (if t + 1 ≤ k ∧ o k < o j then (1 : Int) else 0) + (if k = t then (if o t < o j then 1 else 0) else 0)) := af_s_co n (fun k _ => by
    by_cases c : k = t
    · subst c
      rw [if_pos rfl, if_neg (show ¬ (k + 1 ≤ k ∧ o k < o j) by omega)]
      by_cases d : o k < o j
      · rw [if_pos ⟨Nat.le_refl _, d⟩, if_pos d]; rfl
      · rw [if_neg (fun w => d w.2), if_neg d]; rfl
    · rw [if_neg c]
      by_cases d : t ≤ k ∧ o k < o j
      · rw [if_pos d, if_pos ⟨by omega, d.2⟩]; rfl
      · rw [if_neg d, if_neg (fun w => d ⟨by omega, w.2⟩)]; rfl)
  rw [this, af_s_add, af_s_one t _ n ht]
theorem sp_rk_lt {t j : Nat} (hj : j < n) (htj : t < j) (h : o j < o t) : sp_rk n o (t + 1) j < sp_rk n o t t := by
  unfold sp_rk
  have e : af_s n (fun k => if t ≤ k ∧ o k < o t then (1 : Int) else 0) = af_s n (fun k => (if t + 1 ≤ k ∧ o k < o j then (1 : Int) else 0) + ((if k = j then 1 else 0) + (if t ≤ k ∧ o k < o t ∧ ¬ (t + 1 ≤ k ∧ o k < o j) ∧ k ≠ j then 1 else 0))) := af_s_co n (fun k _ => by
    by_cases c : k = j
    · subst c
      rw [if_pos ⟨by omega, h⟩, if_neg (by omega), if_pos rfl, if_neg (by omega)]; rfl
    · rw [if_neg c]
      by_cases d : t + 1 ≤ k ∧ o k < o j
      · rw [if_pos ⟨by omega, by omega⟩, if_pos d, if_neg (fun w => w.2.2.1 d)]; rfl
      · rw [if_neg d]
        by_cases q : t ≤ k ∧ o k < o t
        · rw [if_pos q, if_pos ⟨q.1, q.2, d, c⟩]; rfl
        · rw [if_neg q, if_neg (fun w => q ⟨w.1, w.2.1⟩)]; rfl)
  rw [e, af_s_add, af_s_add, af_s_one j _ n hj]
  have := af_s_nn (f := fun k => if t ≤ k ∧ o k < o t ∧ ¬ (t + 1 ≤ k ∧ o k < o j) ∧ k ≠ j then (1 : Int) else 0) n (fun k _ => by
    show 0 ≤ if t ≤ k ∧ o k < o t ∧ ¬ (t + 1 ≤ k ∧ o k < o j) ∧ k ≠ j then (1 : Int) else 0
    split <;> omega)
  omega
theorem sp_rk_ge {t j : Nat} (h : o t < o j) : sp_rk n o t t ≤ sp_rk n o (t + 1) j := by
  unfold sp_rk
  have e : af_s n (fun k => if t + 1 ≤ k ∧ o k < o j then (1 : Int) else 0) = af_s n (fun k => (if t ≤ k ∧ o k < o t then (1 : Int) else 0) + (if (t + 1 ≤ k ∧ o k < o j) ∧ ¬ (t ≤ k ∧ o k < o t) then 1 else 0)) := af_s_co n (fun k _ => by
    by_cases d : t ≤ k ∧ o k < o t
    · have : k ≠ t := fun w => by rw [w] at d; omega
      rw [if_pos d, if_pos ⟨by omega, by omega⟩, if_neg (fun w => w.2 d)]; rfl
    · rw [if_neg d]
      by_cases q : t + 1 ≤ k ∧ o k < o j
      · rw [if_pos q, if_pos ⟨q, d⟩]; rfl
      · rw [if_neg q, if_neg (fun w => q w.1)]; rfl)
  rw [e, af_s_add]
  have := af_s_nn (f := fun k => if (t + 1 ≤ k ∧ o k < o j) ∧ ¬ (t ≤ k ∧ o k < o t) then (1 : Int) else 0) n (fun k _ => by
    show 0 ≤ if (t + 1 ≤ k ∧ o k < o j) ∧ ¬ (t ≤ k ∧ o k < o t) then (1 : Int) else 0
    split <;> omega)
  omega
theorem sp_rk_all (I : af_inj n o) {j : Nat} (hj : j < n) : sp_rk n o 0 j = o j := by
  unfold sp_rk
  have h := I.1 j hj
  have e := af_bijF (fun v => if (decide (v < o j)) = true then (1 : Int) else 0) n o I
  rw [af_cntlt n (o j) (by omega)] at e
  rw [← e]
  exact af_s_co n (fun k _ => by
    by_cases c : o k < o j
    · rw [if_pos ⟨Nat.zero_le _, c⟩, if_pos (decide_eq_true c)]
    · rw [if_neg (fun w => c w.2), if_neg (by rw [decide_eq_true_iff]; exact c)])
end AFR
