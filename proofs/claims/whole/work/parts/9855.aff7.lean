/-! NEAREST: the least over the class's lifts is the distance -/
theorem af_comm (m : Nat) (f : Nat → Nat → Int) : ∀ n, af_s n (fun i => af_s m (fun j => f i j)) = af_s m (fun j => af_s n (fun i => f i j))
  | 0 => by
    show (0 : Int) = af_s m (fun j => 0)
    rw [af_s_0]
  | n + 1 => by
    show af_s n (fun i => af_s m (fun j => f i j)) + af_s m (fun j => f n j) = af_s m (fun j => af_s n (fun i => f i j) + f n j)
    rw [af_comm m f n, af_s_add]
def af_L (n : Nat) (e : Nat → Int) : Int := af_s n (fun i => af_s n (fun j => if i < j then af_w n e i j else 0))
theorem af_SL (n : Nat) (e : Nat → Int) : af_S n e = 2 * af_L n e := by
  unfold af_S af_L
  have k1 : af_s n (fun i => af_s n (fun j => af_w n e i j)) = af_s n (fun i => af_s n (fun j => if i < j then af_w n e i j else 0) + af_s n (fun j => if j < i then af_w n e j i else 0)) := af_s_co n (fun i hi => by
    rw [← af_s_add]
    exact af_s_co n (fun j hj => by
      by_cases h1 : i < j
      · rw [if_pos h1, if_neg (by omega)]; omega
      · rw [if_neg h1]
        by_cases h2 : j < i
        · rw [if_pos h2, af_w_sy]; omega
        · rw [if_neg h2]
          unfold af_w
          rw [if_neg h1, if_neg h2]; rfl))
  rw [k1, af_s_add, af_comm n (fun i j => if j < i then af_w n e j i else 0) n]
  omega
theorem af_L_nn (n : Nat) (e : Nat → Int) : 0 ≤ af_L n e := af_s_nn n (fun i _ => af_s_nn n (fun j _ => by
  split
  · exact af_w_nn _ _ _ _
  · omega))
/-- the distance, where a lift is known -/
theorem af_dist {n : Nat} {g : Nat → Nat} {e : Nat → Int} (h3 : 3 ≤ n) (G : af_gw n g) (h : af_lf n g e) : ∃ N : Nat, af_R n N g ∧ (∀ M, M < N → ¬ af_R n M g) ∧ (∀ f, af_lf n g f → (N : Int) ≤ af_L n f) ∧ ∃ f, af_lf n g f ∧ af_bl n f ∧ af_L n f = N := by
  have down : ∀ f, af_lf n g f → af_R n (af_L n f).toNat g := fun f hf => by
    refine af_down h3 _ g f G hf ?_
    have := af_L_nn n f
    rw [af_SL]; omega
  obtain ⟨N, N1, N2⟩ := pk_least (fun N => af_R n N g) ⟨_, down e h⟩
  have lo : ∀ f, af_lf n g f → (N : Int) ≤ af_L n f := fun f hf => by
    have := af_L_nn n f
    have d := down f hf
    have : ¬ (af_L n f).toNat < N := fun w => N2 _ w d
    omega
  refine ⟨N, N1, N2, lo, ?_⟩
  obtain ⟨f, f1, f2, f3⟩ := af_up h3 N g G N1
  have := lo f f1
  rw [af_SL] at f3
  exact ⟨f, f1, f2, by omega⟩
def af_sd (n : Nat) (g : Nat → Nat) (i : Nat) : Int := ((g i : Int) - i) % n
/-- a balanced lift is one of the class's -/
theorem af_cls {n : Nat} {g : Nat → Nat} {e : Nat → Int} (h3 : 3 ≤ n) (h : af_lf n g e) (bl : af_bl n e) : ∃ bs : Nat → Bool, ∀ i, i < n → e i = i + af_sd n g i - (if bs i = true then (n : Int) else 0) := by
  have s0 : af_s n (fun i => e i - i) = 0 := by
    have : af_s n (fun i => e i - i) + af_s n (fun i => (i : Int)) = af_s n e := by
      rw [← af_s_add]; exact af_s_co n (fun i _ => by omega)
    have := h.2
    omega
  have s1 : af_s n (fun i => -(e i - i)) = 0 := by
    have : af_s n (fun i => -(e i - i)) + af_s n (fun i => e i - i) = 0 := by
      rw [← af_s_add]
      rw [af_s_co (g := fun _ => 0) n (fun i _ => by omega), af_s_0]
    omega
  have rng : ∀ i, i < n → -(n : Int) < e i - i ∧ e i - i < n := fun i hi => by
    constructor
    · by_cases q : -(n : Int) < e i - i
      · exact q
      · have z := af_s_z n (f := fun i => -(e i - i)) (fun j hj => by have := bl j i hj hi; show 0 ≤ -(e j - j); omega) s1 i hi
        have z' : -(e i - i) = 0 := z
        omega
    · by_cases q : e i - i < n
      · exact q
      · have z := af_s_z n (f := fun i => e i - i) (fun j hj => by have := bl i j hi hj; show 0 ≤ e j - j; omega) s0 i hi
        have z' : e i - i = 0 := z
        omega
  refine ⟨fun i => decide (e i - i < 0), fun i hi => ?_⟩
  obtain ⟨c, hc⟩ := h.1 i hi
  have r := rng i hi
  have e1 : af_sd n g i = (e i - i) % n := by
    unfold af_sd
    rw [hc, show (g i : Int) + n * c - i = (g i - i) + n * c by omega, Int.add_mul_emod_self_left]
  rw [e1]
  by_cases q : e i - i < 0
  · have m : (e i - i) % (n : Int) = e i - i + n := by
      rw [← Int.add_emod_right]
      exact Int.emod_eq_of_lt (by omega) (by omega)
    rw [if_pos (decide_eq_true q), m]; omega
  · have m : (e i - i) % (n : Int) = e i - i := Int.emod_eq_of_lt (by omega) (by omega)
    rw [if_neg (by rw [decide_eq_true_iff]; exact q), m]; omega
/-- the class's lifts are lifts: as many go back as their sum asks -/
theorem af_cls_lf {n : Nat} {g : Nat → Nat} {bs : Nat → Bool} (h3 : 3 ≤ n) (hs : af_s n (fun i => af_sd n g i) = n * af_s n (fun i => if bs i = true then (1 : Int) else 0)) : af_lf n g (fun i => i + af_sd n g i - (if bs i = true then (n : Int) else 0)) := by
  refine ⟨fun i hi => ?_, ?_⟩
  · have d := Int.emod_add_mul_ediv ((g i : Int) - i) n
    unfold af_sd
    by_cases q : bs i = true
    · refine ⟨-(((g i : Int) - i) / n) - 1, ?_⟩
      show (i : Int) + ((g i : Int) - i) % n - (if bs i = true then (n : Int) else 0) = _
      rw [if_pos q, Int.mul_sub, Int.mul_neg]; omega
    · refine ⟨-(((g i : Int) - i) / n), ?_⟩
      show (i : Int) + ((g i : Int) - i) % n - (if bs i = true then (n : Int) else 0) = _
      rw [if_neg q, Int.mul_neg]; omega
  · have e1 : af_s n (fun i => (i : Int) + af_sd n g i - (if bs i = true then (n : Int) else 0)) + n * af_s n (fun i => if bs i = true then (1 : Int) else 0) = af_s n (fun i => (i : Int)) + af_s n (fun i => af_sd n g i) := by
      rw [← af_s_mul, ← af_s_add, ← af_s_add]
      exact af_s_co n (fun i _ => by
        by_cases q : bs i = true
        · rw [if_pos q, if_pos q]; omega
        · rw [if_neg q, if_neg q]; omega)
    omega
/-- and only those -/
theorem af_cls_bc {n : Nat} {g : Nat → Nat} {bs : Nat → Bool} (h : af_s n (fun i => (i : Int) + af_sd n g i - (if bs i = true then (n : Int) else 0)) = af_s n (fun i => (i : Int))) : af_s n (fun i => af_sd n g i) = n * af_s n (fun i => if bs i = true then (1 : Int) else 0) := by
  have e1 : af_s n (fun i => (i : Int) + af_sd n g i - (if bs i = true then (n : Int) else 0)) + n * af_s n (fun i => if bs i = true then (1 : Int) else 0) = af_s n (fun i => (i : Int)) + af_s n (fun i => af_sd n g i) := by
    rw [← af_s_mul, ← af_s_add, ← af_s_add]
    exact af_s_co n (fun i _ => by
      by_cases q : bs i = true
      · rw [if_pos q, if_pos q]; omega
      · rw [if_neg q, if_neg q]; omega)
  omega
