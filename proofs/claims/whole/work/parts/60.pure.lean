/-! PURE: words for loops, rows and numbers -/
theorem rb_s_row (σ : rb_St) (k : Nat) (r : Nat → Int32) (a : Nat) : (rb_row σ k r).1 a = if a = k then r else σ.1 a := rfl
theorem rb_sI_at (σ : rb_St) (k i : Nat) (x : Int32) (a b : Nat) : (rb_sI σ k i x).1 a b = if a = k ∧ b = i then x else σ.1 a b := by
  unfold rb_sI rb_row upd
  by_cases h1 : a = k
  · subst h1
    by_cases h2 : b = i <;> simp [h2]
  · simp [h1]
theorem rb_sI_ne (σ : rb_St) (k i : Nat) (x : Int32) (a b : Nat) (h : a ≠ k ∨ b ≠ i) : (rb_sI σ k i x).1 a b = σ.1 a b := by
  rw [rb_sI_at, if_neg]
  rintro ⟨h1, h2⟩
  rcases h with h | h
  · exact h h1
  · exact h h2
theorem rb_sI_row (σ : rb_St) (k i : Nat) (x : Int32) (a : Nat) (h : a ≠ k) : (rb_sI σ k i x).1 a = σ.1 a := by
  unfold rb_sI rb_row
  simp [h]
theorem rb_sI_eq (σ : rb_St) (k i : Nat) (x : Int32) : (rb_sI σ k i x).1 k i = x := by rw [rb_sI_at, if_pos ⟨rfl, rfl⟩]
theorem rb_sI_2 (σ : rb_St) (k i : Nat) (x : Int32) : (rb_sI σ k i x).2 = σ.2 := rfl
theorem rb_cp_at (σ : rb_St) (a b sp dp n c i : Nat) : (rb_cp σ a b sp dp n).1 c i = if c = b ∧ dp ≤ i ∧ i < dp + n then σ.1 a (sp + (i - dp)) else σ.1 c i := by
  unfold rb_cp rb_row va_cpy
  by_cases h1 : c = b
  · subst h1
    by_cases h2 : dp ≤ i ∧ i < dp + n <;> simp [h2]
  · simp [h1]
theorem rb_cp_row (σ : rb_St) (a b sp dp n c : Nat) (h : c ≠ b) : (rb_cp σ a b sp dp n).1 c = σ.1 c := by
  unfold rb_cp rb_row
  simp [h]
theorem rb_ib_nI {i n : Nat} (h : i < n) (hn : n < 2 ^ 31) : rb_ib (nI i) n = true := by
  unfold rb_ib
  rw [nI_toInt (by omega)]
  simp
  omega
theorem rb_ibT {x : Int32} {n : Nat} (h0 : 0 ≤ x.toInt) (h1 : x.toInt < n) : rb_ib x n = true := by
  unfold rb_ib
  exact decide_eq_true ⟨h0, h1⟩
/-- a loop upwards: g i is what stands at i -/
theorem rb_up {β γ : Type} (L : Nat → β → Int32 → Option γ) (g : Nat → β) (n : Nat) (r : Option γ) (hs : ∀ m i, i < n → L (m + 1) (g i) (nI i) = L m (g (i + 1)) (nI (i + 1))) (hx : ∀ m, L (m + 1) (g n) (nI n) = r) : ∀ (m i : Nat), i ≤ n → n - i < m → L m (g i) (nI i) = r := by
  intro m
  induction m with
  | zero => intro i _ h; omega
  | succ m ih =>
    intro i hi hm
    by_cases h : i = n
    · subst h; exact hx m
    · rw [hs m i (by omega)]
      exact ih (i + 1) (by omega) (by omega)
theorem rb_up0 {β γ : Type} (L : Nat → β → Int32 → Option γ) (g : Nat → β) (n : Nat) (r : Option γ) (hn : n < 100000) (hs : ∀ m i, i < n → L (m + 1) (g i) (nI i) = L m (g (i + 1)) (nI (i + 1))) (hx : ∀ m, L (m + 1) (g n) (nI n) = r) : L rb_FU (g 0) 0 = r := by
  have := rb_up L g n r hs hx rb_FU 0 (Nat.zero_le n) (by unfold rb_FU; omega)
  exact this
/-- a loop downwards, from n - 1 to 0 -/
theorem rb_dn {β γ : Type} (L : Nat → β → Int32 → Option γ) (g : Nat → β) (r : Option γ) (hs : ∀ m i, L (m + 1) (g (i + 1)) (nI i) = L m (g i) (nI i - 1) ) (hx : ∀ m, L (m + 1) (g 0) (-1) = r) : ∀ (m n : Nat), n < m → L m (g n) (nI n - 1) = r := by
  intro m
  induction m with
  | zero => intro n h; omega
  | succ m ih =>
    intro n h
    cases n with
    | zero => exact hx m
    | succ n =>
      have e : nI (n + 1) - 1 = nI n := nI_pred n
      rw [e, hs m n]
      exact ih n (by omega)
/-- a search upwards: the first place where P holds, or the end -/
theorem rb_fnd {γ : Type} (L : Nat → Int32 → Option γ) (P : Nat → Prop) (n : Nat) (out : Nat → Option γ) (r : Option γ) (hs : ∀ m i, i < n → ¬ P i → L (m + 1) (nI i) = L m (nI (i + 1))) (hp : ∀ m i, i < n → P i → L (m + 1) (nI i) = out i) (hx : ∀ m, L (m + 1) (nI n) = r) (hP : ∀ i, Decidable (P i)) : ∀ (m i : Nat), i ≤ n → n - i < m → (∃ j, i ≤ j ∧ j < n ∧ P j ∧ (∀ u, i ≤ u → u < j → ¬ P u) ∧ L m (nI i) = out j) ∨ ((∀ u, i ≤ u → u < n → ¬ P u) ∧ L m (nI i) = r) := by
  intro m
  induction m with
  | zero => intro i _ h; omega
  | succ m ih =>
    intro i hi hm
    by_cases h : i = n
    · subst h
      exact Or.inr ⟨fun u h1 h2 => by omega, hx m⟩
    · have hi' : i < n := by omega
      rcases hP i with hp' | hp'
      · rcases ih (i + 1) (by omega) (by omega) with ⟨j, h1, h2, h3, h4, h5⟩ | ⟨h1, h2⟩
        · exact Or.inl ⟨j, by omega, h2, h3, fun u hu1 hu2 => by
            by_cases hu : u = i
            · subst hu; exact hp'
            · exact h4 u (by omega) hu2, by rw [hs m i hi' hp']; exact h5⟩
        · exact Or.inr ⟨fun u hu1 hu2 => by
            by_cases hu : u = i
            · subst hu; exact hp'
            · exact h1 u (by omega) hu2, by rw [hs m i hi' hp']; exact h2⟩
      · exact Or.inl ⟨i, Nat.le_refl i, hi', hp', fun u h1 h2 => by omega, hp m i hi' hp'⟩
theorem rb_b1_some {t1 tr : Type} (a : t1) (f : t1 → Option tr) : rb_b1 (some a) f = f a := rfl
theorem rb_b2_some {t1 t2 tr : Type} (a : t1) (b : t2) (f : t1 → t2 → Option tr) : rb_b2 (some (a, b)) f = f a b := rfl
theorem rb_b3_some {t1 t2 t3 tr : Type} (a : t1) (b : t2) (c : t3) (f : t1 → t2 → t3 → Option tr) : rb_b3 (some (a, b, c)) f = f a b c := rfl
theorem rb_lt_eq {α β : Type} (x : α) (f : α → β) : rb_lt x f = f x := rfl
