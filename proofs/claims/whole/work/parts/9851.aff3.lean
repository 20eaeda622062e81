/-! NEAREST: from any lift the wanted order is reached in as many crossings as it counts -/
def af_lf (n : Nat) (g : Nat → Nat) (e : Nat → Int) : Prop := (∀ i, i < n → ∃ c : Int, e i = g i + n * c) ∧ af_s n e = af_s n (fun i => (i : Int))
def af_gs (n p : Nat) (g : Nat → Nat) : Nat → Nat := if p + 1 < n then fun i => g (af_pi p (p + 1) i) else fun i => g (af_pi 0 (n - 1) i)
def af_gw (n : Nat) (g : Nat → Nat) : Prop := (∀ i, i < n → g i < n) ∧ ∀ i j, i < n → j < n → g i = g j → i = j
theorem af_ds_of {n : Nat} {g : Nat → Nat} {e : Nat → Int} (G : af_gw n g) (h : af_lf n g e) : af_ds n e := by
  intro i j hi hj hij w
  obtain ⟨c, hc⟩ := h.1 i hi
  obtain ⟨c', hc'⟩ := h.1 j hj
  have g1 := G.1 i hi
  have g2 := G.1 j hj
  have ne : g i ≠ g j := fun q => hij (G.2 i j hi hj q)
  have e1 : e i - e j = ((g i : Int) - g j) + n * (c - c') := by rw [hc, hc', Int.mul_sub]; omega
  rw [e1, Int.add_mul_emod_self_left] at w
  obtain ⟨d, hd⟩ := Int.dvd_of_emod_eq_zero w
  have hd0 : d ≠ 0 := fun q => by rw [q, Int.mul_zero] at hd; omega
  rcases Int.lt_or_gt_of_ne hd0 with q | q
  · have : (n : Int) * d ≤ n * (-1) := Int.mul_le_mul_of_nonneg_left (by omega) (by omega)
    omega
  · have : (n : Int) * 1 ≤ n * d := Int.mul_le_mul_of_nonneg_left (by omega) (by omega)
    omega
theorem af_pi_l {n p q i : Nat} (hp : p < n) (hq : q < n) (hi : i < n) : af_pi p q i < n := by
  unfold af_pi; split
  · exact hq
  · split
    · exact hp
    · exact hi
theorem af_pi_pi {p q i : Nat} : af_pi p q (af_pi p q i) = i := by
  unfold af_pi
  repeat' split
  all_goals omega
theorem af_gs_w {n p : Nat} {g : Nat → Nat} (h3 : 3 ≤ n) (hp : p < n) (G : af_gw n g) : af_gw n (af_gs n p g) := by
  have key : ∀ a b, a < n → b < n → af_gw n (fun i => g (af_pi a b i)) := fun a b ha hb => ⟨fun i hi => G.1 _ (af_pi_l ha hb hi), fun i j hi hj w => by
    have := G.2 _ _ (af_pi_l ha hb hi) (af_pi_l ha hb hj) w
    rw [← af_pi_pi (p := a) (q := b) (i := i), this, af_pi_pi]⟩
  unfold af_gs
  split
  · exact key _ _ (by omega) (by omega)
  · exact key _ _ (by omega) (by omega)
theorem af_ex_lf {n p : Nat} {g : Nat → Nat} {e : Nat → Int} (h3 : 3 ≤ n) (hp : p < n) (h : af_lf n g e) : af_lf n (af_gs n p g) (af_ex n p e) := by
  obtain ⟨h1, h2⟩ := h
  unfold af_gs af_ex
  by_cases q : p + 1 < n
  · rw [if_pos q, if_pos q]
    exact ⟨fun i hi => h1 _ (af_pi_l (by omega) q hi), by rw [af_sw (by omega) e (by omega) q]; exact h2⟩
  · rw [if_neg q, if_neg q]
    refine ⟨fun i hi => ?_, ?_⟩
    · by_cases i0 : i = 0
      · subst i0
        obtain ⟨c, hc⟩ := h1 (n - 1) (by omega)
        have e1 : af_pi 0 (n - 1) 0 = n - 1 := by unfold af_pi; rw [if_pos rfl]
        refine ⟨c - 1, ?_⟩
        show (if 0 = 0 then e (n - 1) - (n : Int) else _) = ((g (af_pi 0 (n - 1) 0) : Nat) : Int) + n * (c - 1)
        rw [if_pos rfl, e1, hc, Int.mul_sub]; omega
      · by_cases iN : i = n - 1
        · subst iN
          obtain ⟨c, hc⟩ := h1 0 (by omega)
          have e1 : af_pi 0 (n - 1) (n - 1) = 0 := by unfold af_pi; rw [if_neg (by omega), if_pos rfl]
          refine ⟨c + 1, ?_⟩
          show (if n - 1 = 0 then _ else if n - 1 = n - 1 then e 0 + (n : Int) else _) = ((g (af_pi 0 (n - 1) (n - 1)) : Nat) : Int) + n * (c + 1)
          rw [if_neg (by omega), if_pos rfl, e1, hc, Int.mul_add]; omega
        · obtain ⟨c, hc⟩ := h1 i hi
          have e1 : af_pi 0 (n - 1) i = i := by unfold af_pi; rw [if_neg i0, if_neg iN]
          refine ⟨c, ?_⟩
          show (if i = 0 then _ else if i = n - 1 then _ else e i) = ((g (af_pi 0 (n - 1) i) : Nat) : Int) + n * c
          rw [if_neg i0, if_neg iN, e1, hc]
    · rw [← h2, af_split (show 0 ≠ n - 1 by omega) _ (show 0 < n by omega) (show n - 1 < n by omega), af_split (show 0 ≠ n - 1 by omega) e (show 0 < n by omega) (show n - 1 < n by omega)]
      have e1 : af_s n (fun i => if i = 0 then 0 else if i = n - 1 then 0 else (fun i => if i = 0 then e (n - 1) - (n : Int) else if i = n - 1 then e 0 + (n : Int) else e i) i) = af_s n (fun i => if i = 0 then 0 else if i = n - 1 then 0 else e i) := af_s_co n (fun i hi => by
        by_cases i0 : i = 0
        · simp [i0]
        · by_cases iN : i = n - 1
          · simp [iN]
          · simp [i0, iN])
      rw [e1]
      have e2 : (if n - 1 = 0 then e (n - 1) - (n : Int) else if n - 1 = n - 1 then e 0 + (n : Int) else e (n - 1)) = e 0 + n := by rw [if_neg (by omega), if_pos rfl]
      simp only [if_true] at e2 ⊢
      rw [e2]; omega
/-- no descent: the wanted order -/
theorem af_id {n : Nat} {e : Nat → Int} (h3 : 3 ≤ n) (D : af_ds n e) (hs : af_s n e = af_s n (fun i => (i : Int))) (h : ∀ p, p < n → ¬ af_dn n p e) : ∀ i, i < n → e i = i := by
  have up : ∀ p, p + 1 < n → e p + 1 ≤ e (p + 1) := fun p hp => by
    have a := h p (by omega)
    unfold af_dn at a
    rw [if_pos hp] at a
    have b := D (p + 1) p hp (by omega) (by omega)
    have : e (p + 1) - e p ≠ 0 := fun w => b (by rw [w]; exact Int.zero_emod _)
    omega
  have lst : e (n - 1) + 1 ≤ e 0 + n := by
    have a := h (n - 1) (by omega)
    unfold af_dn at a
    rw [if_neg (by omega)] at a
    have b := D (n - 1) 0 (by omega) (by omega) (by omega)
    have : e (n - 1) - e 0 ≠ n := fun w => b (by rw [w]; exact Int.emod_self)
    omega
  have lo : ∀ i, i < n → e 0 + i ≤ e i := by
    intro i
    induction i with
    | zero => intro _; simp
    | succ i ih => intro hi; have := ih (by omega); have := up i hi; omega
  have hi' : ∀ k i, i + k = n - 1 → i < n → e i + k ≤ e (n - 1) := by
    intro k
    induction k with
    | zero => intro i h1 h2; rw [show i = n - 1 by omega]; simp
    | succ k ih => intro i h1 h2; have := ih (i + 1) (by omega) (by omega); have := up i (by omega); omega
  have eq : ∀ i, i < n → e i = i + e 0 := fun i hi => by
    have a := lo i hi
    have b := hi' (n - 1 - i) i (by omega) hi
    omega
  have s2 : af_s n e = af_s n (fun i => (i : Int)) + af_s n (fun _ => e 0) := by rw [← af_s_add]; exact af_s_co n eq
  have s3 : ∀ m x, af_s m (fun _ => x) = m * x := by
    intro m x
    induction m with
    | zero => simp [af_s]
    | succ m ih =>
      show af_s m (fun _ => x) + x = ((m + 1 : Nat) : Int) * x
      rw [ih, Int.natCast_add, Int.add_mul]; simp
  have z : e 0 = 0 := by
    rw [hs, s3] at s2
    have h0 : (n : Int) * e 0 = 0 := by omega
    rcases Int.mul_eq_zero.mp h0 with w | w
    · omega
    · exact w
  intro i hi
  rw [eq i hi, z]; omega
theorem af_S_id {n : Nat} {e : Nat → Int} (h : ∀ i, i < n → e i = i) : af_S n e = 0 := by
  unfold af_S
  rw [af_s_co (g := fun _ => 0) n (fun i hi => ?_), af_s_0]
  rw [af_s_co (g := fun _ => 0) n (fun j hj => ?_), af_s_0]
  unfold af_w
  have key : ∀ a b : Nat, a < b → b < n → af_ab (((a : Int) - b) / n + 1) = 0 := fun a b h1 h2 => by
    have e1 : ((a : Int) - b) / n = -1 := by
      have := af_subn (n := (n : Int)) (x := (a : Int) - b + n) (by omega)
      rw [show (a : Int) - b + n - n = a - b by omega] at this
      rw [this, Int.ediv_eq_zero_of_lt (by omega) (by omega)]; rfl
    rw [e1]; rfl
  by_cases h1 : i < j
  · rw [if_pos h1, h i hi, h j hj]; exact key i j h1 hj
  · rw [if_neg h1]
    by_cases h2 : j < i
    · rw [if_pos h2, h i hi, h j hj]; exact key j i h2 hi
    · rw [if_neg h2]
/-- N crossings lead to the wanted order -/
def af_R (n : Nat) : Nat → (Nat → Nat) → Prop
  | 0, g => ∀ i, i < n → g i = i
  | N + 1, g => ∃ p, p < n ∧ af_R n N (af_gs n p g)
theorem af_S_nn (n : Nat) (e : Nat → Int) : 0 ≤ af_S n e := af_s_nn n (fun i _ => af_s_nn n (fun j _ => af_w_nn _ _ _ _))
theorem af_down {n : Nat} (h3 : 3 ≤ n) : ∀ (L : Nat) (g : Nat → Nat) (e : Nat → Int), af_gw n g → af_lf n g e → af_S n e = 2 * L → af_R n L g := by
  intro L
  induction L with
  | zero =>
    intro g e G h hS i hi
    have D := af_ds_of G h
    have id := af_id h3 D h.2 (fun p hp w => by
      have := (af_swap h3 hp D).1 w
      have := af_S_nn n (af_ex n p e)
      omega) i hi
    obtain ⟨c, hc⟩ := h.1 i hi
    have g1 := G.1 i hi
    rw [id] at hc
    by_cases c0 : c = 0
    · rw [c0, Int.mul_zero] at hc; omega
    · rcases Int.lt_or_gt_of_ne c0 with q | q
      · have : (n : Int) * c ≤ n * (-1) := Int.mul_le_mul_of_nonneg_left (by omega) (by omega)
        omega
      · have : (n : Int) * 1 ≤ n * c := Int.mul_le_mul_of_nonneg_left (by omega) (by omega)
        omega
  | succ L ih =>
    intro g e G h hS
    have D := af_ds_of G h
    by_cases hp : ∃ p, p < n ∧ af_dn n p e
    · obtain ⟨p, hp, w⟩ := hp
      have := (af_swap h3 hp D).1 w
      exact ⟨p, hp, ih _ _ (af_gs_w h3 hp G) (af_ex_lf h3 hp h) (by omega)⟩
    · have id := af_id h3 D h.2 (fun p hp' w => hp ⟨p, hp', w⟩)
      have := af_S_id id
      omega
