/-! NEAREST: balanced lifts -/
def af_ct (n a b : Nat) (e : Nat → Int) : Nat → Int := fun i => if i = a then e a - n else if i = b then e b + n else e i
section AFC
variable {n a b : Nat} {e : Nat → Int}
theorem af_ct_lf {g : Nat → Nat} (ha : a < n) (hb : b < n) (hab : a ≠ b) (h : af_lf n g e) : af_lf n g (af_ct n a b e) := by
  obtain ⟨h1, h2⟩ := h
  refine ⟨fun i hi => ?_, ?_⟩
  · unfold af_ct
    obtain ⟨c, hc⟩ := h1 i hi
    by_cases i1 : i = a
    · subst i1
      exact ⟨c - 1, by rw [if_pos rfl, hc, Int.mul_sub]; omega⟩
    · by_cases i2 : i = b
      · subst i2
        exact ⟨c + 1, by rw [if_neg i1, if_pos rfl, hc, Int.mul_add]; omega⟩
      · exact ⟨c, by rw [if_neg i1, if_neg i2, hc]⟩
  · rw [← h2, af_split hab _ ha hb, af_split hab e ha hb]
    have e1 : af_s n (fun i => if i = a then 0 else if i = b then 0 else af_ct n a b e i) = af_s n (fun i => if i = a then 0 else if i = b then 0 else e i) := af_s_co n (fun i hi => by
      unfold af_ct
      by_cases i1 : i = a
      · simp [i1]
      · by_cases i2 : i = b
        · simp [i2]
        · simp [i1, i2])
    have e2 : af_ct n a b e a = e a - n := by unfold af_ct; rw [if_pos rfl]
    have e3 : af_ct n a b e b = e b + n := by unfold af_ct; rw [if_neg (fun w => hab w.symm), if_pos rfl]
    rw [e1, e2, e3]; omega
theorem af_ctS (h3 : 3 ≤ n) (ha : a < n) (hb : b < n) (hab : a ≠ b) (D : af_ds n e) (D2 : af_ds n (af_ct n a b e)) (hs : af_s n e = af_s n (fun i => (i : Int))) (ua : ∀ c, c < n → c ≠ a → c ≠ b → af_h n e a c = 0 ∨ af_h n e a c = 1) (vb : ∀ c, c < n → c ≠ a → c ≠ b → af_h n e c b = 0 ∨ af_h n e c b = 1) (H0 : 0 ≤ af_h n e a b) (H2 : af_h n e a b ≤ 2) (sp : (n : Int) + 1 ≤ (e a - a) - (e b - b)) : af_S n (af_ct n a b e) ≤ af_S n e := by
  have hn : (0 : Int) < n := by omega
  obtain ⟨f, hf⟩ : ∃ f, f = af_ct n a b e := ⟨_, rfl⟩
  rw [← hf] at D2 ⊢
  have fa : f a = e a - n := by rw [hf]; unfold af_ct; rw [if_pos rfl]
  have fb : f b = e b + n := by rw [hf]; unfold af_ct; rw [if_neg (fun w => hab w.symm), if_pos rfl]
  have fc : ∀ c, c ≠ a → c ≠ b → f c = e c := fun c q1 q2 => by rw [hf]; unfold af_ct; rw [if_neg q1, if_neg q2]
  -- how h changes
  have hac : ∀ c, c ≠ a → c ≠ b → af_h n f a c = af_h n e a c - 1 := fun c q1 q2 => by
    unfold af_h
    rw [fa, fc c q1 q2, show e a - n - e c = e a - e c - n by omega, af_subn hn]
    split <;> omega
  have hcb : ∀ c, c ≠ a → c ≠ b → af_h n f c b = af_h n e c b - 1 := fun c q1 q2 => by
    unfold af_h
    rw [fb, fc c q1 q2, show e c - (e b + n) = e c - e b - n by omega, af_subn hn]
    split <;> omega
  have hH : af_h n f a b = af_h n e a b - 2 := by
    unfold af_h
    rw [fa, fb, show e a - n - (e b + n) = e a - e b - n - n by omega, af_subn hn, af_subn hn]
    split <;> omega
  have hcd : ∀ c d, c ≠ a → c ≠ b → d ≠ a → d ≠ b → af_h n f c d = af_h n e c d := fun c d q1 q2 q3 q4 => by
    unfold af_h
    rw [fc c q1 q2, fc d q3 q4]
  obtain ⟨H, hHd⟩ : ∃ H, H = af_h n e a b := ⟨_, rfl⟩
  -- the two rows of changes
  obtain ⟨A, hA⟩ : ∃ A : Nat → Int, A = fun c => if c = a then 0 else af_w n f a c - af_w n e a c := ⟨_, rfl⟩
  obtain ⟨B, hB⟩ : ∃ B : Nat → Int, B = fun c => if c = a then 0 else if c = b then 0 else af_w n f c b - af_w n e c b := ⟨_, rfl⟩
  have wz : ∀ (x : Nat → Int) c, af_w n x c c = 0 := fun x c => by unfold af_w; rw [if_neg (by omega), if_neg (by omega)]
  have step : ∀ i j, i < n → j < n → af_w n f i j = af_w n e i j + ((if i = a then A j else 0) + ((if j = a then A i else 0) + ((if i = b then B j else 0) + (if j = b then B i else 0)))) := by
    intro i j hi hj
    rw [hA, hB]
    simp only
    by_cases i1 : i = a
    · subst i1
      by_cases j1 : j = i
      · subst j1; rw [wz, wz]; simp [hab]
      · by_cases j2 : j = b
        · subst j2; simp [hab, j1]; omega
        · simp [j1, j2, hab]; omega
    · by_cases i2 : i = b
      · subst i2
        by_cases j1 : j = a
        · subst j1; rw [af_w_sy n f i j, af_w_sy n e i j]; simp [i1, fun w : j = i => hab w]; omega
        · by_cases j2 : j = i
          · subst j2; rw [wz, wz]; simp [i1]
          · rw [af_w_sy n f i j, af_w_sy n e i j]; simp [i1, j1, j2]; omega
      · by_cases j1 : j = a
        · subst j1; rw [af_w_sy n f i j, af_w_sy n e i j]; simp [i1, i2, hab]; omega
        · by_cases j2 : j = b
          · subst j2; simp [i1, i2, j1]; omega
          · have : af_w n f i j = af_w n e i j := by rw [af_h_w (by omega) D2 hi hj, af_h_w (by omega) D hi hj, hcd i j i1 i2 j1 j2]
            simp [i1, i2, j1, j2, this]
  have tot : af_S n f = af_S n e + 2 * (af_s n A + af_s n B) := by
    unfold af_S
    have k1 : af_s n (fun i => af_s n (fun j => af_w n f i j)) = af_s n (fun i => af_s n (fun j => af_w n e i j) + ((if i = a then af_s n A else 0) + (A i + ((if i = b then af_s n B else 0) + B i)))) := af_s_co n (fun i hi => by
      rw [af_s_co n (fun j hj => step i j hi hj), af_s_add, af_s_add, af_s_add, af_s_add, af_s_one a _ n ha, af_s_one b _ n hb]
      have z1 : af_s n (fun j => if i = a then A j else 0) = if i = a then af_s n A else 0 := by
        by_cases q : i = a
        · simp only [if_pos q]
        · simp only [if_neg q]; exact af_s_0 n
      have z2 : af_s n (fun j => if i = b then B j else 0) = if i = b then af_s n B else 0 := by
        by_cases q : i = b
        · simp only [if_pos q]
        · simp only [if_neg q]; exact af_s_0 n
      rw [z1, z2])
    rw [k1, af_s_add, af_s_add, af_s_add, af_s_add, af_s_one a _ n ha, af_s_one b _ n hb]
    have z3 : af_s n (fun i => A i) = af_s n A := rfl
    have z4 : af_s n (fun i => B i) = af_s n B := rfl
    omega
  -- their sums
  have ra := af_row h3 D hs ha
  have rb := af_row h3 D hs hb
  have rb' : af_s n (fun c => af_h n e c b) = -(e b - b) := by
    rw [← rb]
    have : af_s n (fun c => af_h n e c b) = af_s n (fun c => (-1) * af_h n e b c) := af_s_co n (fun c hc => by rw [af_h_as (by omega) D hc hb]; omega)
    exact (this.trans (af_s_mul (-1) (fun c => af_h n e b c) n)).trans (Int.neg_one_mul _)
  have haa : af_h n e a a = 0 := by unfold af_h; rw [if_neg (by omega), Int.sub_self, Int.zero_ediv]
  have hbb : af_h n e b b = 0 := by unfold af_h; rw [if_neg (by omega), Int.sub_self, Int.zero_ediv]
  have sA : af_s n A = n - 2 * (e a - a) - 1 + (af_ab (H - 2) - af_ab H - 1 + 2 * H) := by
    have : af_s n A = af_s n (fun c => (1 + (-2) * af_h n e a c) + ((if c = a then -1 else 0) + (if c = b then af_ab (H - 2) - af_ab H - 1 + 2 * H else 0))) := af_s_co n (fun c hc => by
      rw [hA]
      simp only
      by_cases c1 : c = a
      · subst c1; rw [haa, if_pos rfl, if_pos rfl, if_neg hab]; omega
      · by_cases c2 : c = b
        · subst c2; rw [if_neg c1, if_neg c1, if_pos rfl, af_h_w (by omega) D2 ha hc, af_h_w (by omega) D ha hc, hH, ← hHd]; omega
        · rw [if_neg c1, if_neg c1, if_neg c2, af_h_w (by omega) D2 ha hc, af_h_w (by omega) D ha hc, hac c c1 c2]
          rcases ua c hc c1 c2 with q | q <;> rw [q] <;> decide)
    rw [this, af_s_add, af_s_add, af_s_add, af_s_one a _ n ha, af_s_one b _ n hb, af_s_mul, ra, af_s_cn]
    omega
  have sB : af_s n B = n + 2 * (e b - b) - 1 - (1 - 2 * H) := by
    have : af_s n B = af_s n (fun c => (1 + (-2) * af_h n e c b) + ((if c = b then -1 else 0) + (if c = a then -(1 - 2 * H) else 0))) := af_s_co n (fun c hc => by
      rw [hB]
      simp only
      by_cases c1 : c = a
      · subst c1; rw [← hHd, if_pos rfl, if_neg hab, if_pos rfl]; omega
      · by_cases c2 : c = b
        · subst c2; rw [hbb, if_neg c1, if_pos rfl, if_pos rfl, if_neg c1]; omega
        · rw [if_neg c1, if_neg c2, if_neg c2, if_neg c1, af_h_w (by omega) D2 hc hb, af_h_w (by omega) D hc hb, hcb c c1 c2]
          rcases vb c hc c1 c2 with q | q <;> rw [q] <;> decide)
    rw [this, af_s_add, af_s_add, af_s_add, af_s_one b _ n hb, af_s_one a _ n ha, af_s_mul, rb', af_s_cn]
    omega
  rw [← hHd] at H0 H2
  rw [tot, sA, sB]
  have : H = 0 ∨ H = 1 ∨ H = 2 := by omega
  have a0 : af_ab (0 - 2) - af_ab 0 = 2 := by decide
  have a1 : af_ab (1 - 2) - af_ab 1 = 0 := by decide
  have a2 : af_ab (2 - 2) - af_ab 2 = -2 := by decide
  rcases this with q | q | q <;> rw [q] <;> omega
end AFC
