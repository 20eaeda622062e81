/-! LAYERS STAY TRUE: each is one more than the highest of those ahead that touch it -/
def rb_lyr (n m : Nat) (cr : Nat → Nat → Nat) : Prop := ∀ j, j < m → cr j 4 = sp_ly n cr (cr j 0 / 2) j + 1
theorem sp_tb_comm (n p q : Nat) : sp_tb n p q = sp_tb n q p := by
  unfold sp_tb
  rw [Bool.eq_iff_iff]
  simp only [Bool.or_eq_true, beq_iff_eq]
  constructor
  · rintro ((h | h) | h)
    · exact Or.inl (Or.inl h.symm)
    · exact Or.inr h
    · exact Or.inl (Or.inr h)
  · rintro ((h | h) | h)
    · exact Or.inl (Or.inl h.symm)
    · exact Or.inr h
    · exact Or.inl (Or.inr h)
section RBQ
variable {n m : Nat} {cr : Nat → Nat → Nat}
theorem sp_ly_s (n : Nat) (cr : Nat → Nat → Nat) (p j : Nat) : sp_ly n cr p (j + 1) = if sp_tb n (cr j 0 / 2) p = true then max (sp_ly n cr p j) (cr j 4) else sp_ly n cr p j := rfl
theorem sp_ly_le (p : Nat) : ∀ j, (∀ q, q < j → cr q 4 ≤ q + 1) → sp_ly n cr p j ≤ j := by
  intro j
  induction j with
  | zero => intro _; exact Nat.le_refl 0
  | succ j ih =>
    intro h
    have h1 := ih (fun q hq => h q (by omega))
    have h2 := h j (by omega)
    rw [sp_ly_s]
    split <;> omega
theorem rb_lyr_le (h : rb_lyr n m cr) : ∀ j, j < m → cr j 4 ≤ j + 1 := by
  have key : ∀ b j, j < b → j < m → cr j 4 ≤ j + 1 := by
    intro b
    induction b with
    | zero => intro j hj; omega
    | succ b ih =>
      intro j hj hm
      rw [h j hm]
      have := sp_ly_le (n := n) (cr := cr) (cr j 0 / 2) j (fun q hq => ih q (by omega) (by omega))
      omega
  intro j hj
  exact key (j + 1) j (by omega) hj
theorem rb_lyr_at (h : rb_lyr n m cr) (p : Nat) {j : Nat} (hj : j ≤ m) : sp_ly n cr p j ≤ j := sp_ly_le p j (fun q hq => rb_lyr_le h q (by omega))
theorem sp_ly_congr {cr2 : Nat → Nat → Nat} (p : Nat) : ∀ j, (∀ q, q < j → cr q 0 = cr2 q 0 ∧ cr q 4 = cr2 q 4) → sp_ly n cr p j = sp_ly n cr2 p j := by
  intro j
  induction j with
  | zero => intro _; rfl
  | succ j ih =>
    intro h
    obtain ⟨a, b⟩ := h j (by omega)
    rw [sp_ly_s, sp_ly_s, ih (fun q hq => h q (by omega)), a, b]
theorem rb_lyr_ad (h : rb_lyr n m cr) (l b c d : Nat) : rb_lyr n (m + 1) (sp_ad cr m l b c d (sp_ly n cr (l / 2) m + 1)) := by
  intro j hj
  have hq : ∀ q, q < m → sp_ad cr m l b c d (sp_ly n cr (l / 2) m + 1) q = cr q := by
    intro q hq
    funext f
    unfold sp_ad
    rw [if_neg (by omega)]
  by_cases e : j = m
  · subst e
    have e0 : sp_ad cr j l b c d (sp_ly n cr (l / 2) j + 1) j 0 = l := by unfold sp_ad; rw [if_pos rfl, if_pos rfl]
    have e4 : sp_ad cr j l b c d (sp_ly n cr (l / 2) j + 1) j 4 = sp_ly n cr (l / 2) j + 1 := by unfold sp_ad; rw [if_pos rfl]; rfl
    rw [e4, e0]
    congr 1
    exact sp_ly_congr _ j (fun q h1 => by rw [hq q h1]; exact ⟨rfl, rfl⟩)
  · rw [hq j (by omega), h j (by omega)]
    congr 1
    exact sp_ly_congr _ j (fun q h1 => by rw [hq q (by omega)]; exact ⟨rfl, rfl⟩)
theorem sp_ly_rm (i p : Nat) (hi : sp_tb n (cr i 0 / 2) p = false) : ∀ j, i ≤ j → sp_ly n (sp_rm cr i) p j = sp_ly n cr p (j + 1) := by
  intro j
  induction j with
  | zero =>
    intro h
    have : i = 0 := by omega
    subst this
    rw [sp_ly_s, if_neg (by rw [hi]; decide)]
    rfl
  | succ j ih =>
    intro h
    by_cases e : i = j + 1
    · subst e
      rw [sp_ly_s n cr p (j + 1), if_neg (by rw [hi]; decide)]
      refine sp_ly_congr _ _ (fun q hq => ?_)
      unfold sp_rm
      rw [if_pos hq, if_pos hq]
      exact ⟨rfl, rfl⟩
    · rw [sp_ly_s n (sp_rm cr i) p j, sp_ly_s n cr p (j + 1), ih (by omega)]
      have e0 : ∀ f, sp_rm cr i j f = cr (j + 1) f := fun f => by unfold sp_rm; rw [if_neg (by omega)]
      rw [e0, e0]
theorem rb_lyr_rm (h : rb_lyr n m cr) {i : Nat} (hi : i < m) (hlast : ∀ j, i < j → j < m → sp_tb n (cr j 0 / 2) (cr i 0 / 2) = false) : rb_lyr n (m - 1) (sp_rm cr i) := by
  intro j hj
  by_cases e : j < i
  · have e0 : ∀ q, q ≤ j → sp_rm cr i q = cr q := fun q hq => by funext f; unfold sp_rm; rw [if_pos (by omega)]
    rw [e0 j (Nat.le_refl j), h j (by omega)]
    congr 1
    exact sp_ly_congr _ j (fun q h1 => by rw [e0 q (by omega)]; exact ⟨rfl, rfl⟩)
  · have e0 : ∀ f, sp_rm cr i j f = cr (j + 1) f := fun f => by unfold sp_rm; rw [if_neg e]
    rw [e0, e0, h (j + 1) (by omega), sp_ly_rm i _ (by rw [sp_tb_comm]; exact hlast (j + 1) (by omega) (by omega)) j (by omega)]
theorem sp_la_sp (p : Nat) : ∀ m i, sp_la n cr p m = i + 1 → i < m ∧ sp_tb n (cr i 0 / 2) p = true ∧ ∀ j, i < j → j < m → sp_tb n (cr j 0 / 2) p = false := by
  intro m
  induction m with
  | zero => intro i h; exact absurd h (by show ¬ (0 = i + 1); omega)
  | succ m ih =>
    intro i h
    have h2 : (if sp_tb n (cr m 0 / 2) p = true then m + 1 else sp_la n cr p m) = i + 1 := h
    by_cases hc : sp_tb n (cr m 0 / 2) p = true
    · rw [if_pos hc] at h2
      have : i = m := by omega
      subst this
      exact ⟨by omega, hc, fun j h3 h4 => by omega⟩
    · rw [if_neg hc] at h2
      obtain ⟨a, b, c⟩ := ih i h2
      refine ⟨by omega, b, fun j h3 h4 => ?_⟩
      by_cases e : j = m
      · subst e; exact Bool.eq_false_iff.mpr hc
      · exact c j h3 (by omega)
theorem sp_un_sp {l i : Nat} (hl : l < 16) (h : sp_un n cr l m = i + 1) : i < m ∧ cr i 0 = l ^^^ 1 ∧ cr i 0 / 2 = l / 2 ∧ ∀ j, i < j → j < m → sp_tb n (cr j 0 / 2) (cr i 0 / 2) = false := by
  unfold sp_un at h
  by_cases h0 : sp_la n cr (l / 2) m = 0
  · rw [if_pos h0] at h; omega
  · rw [if_neg h0] at h
    by_cases hc : cr (sp_la n cr (l / 2) m - 1) 0 = l ^^^ 1
    · rw [if_pos hc] at h
      obtain ⟨a, b, c⟩ := sp_la_sp (l / 2) m i h
      rw [h, Nat.add_sub_cancel] at hc
      have hx : ∀ l, l < 16 → (l ^^^ 1) / 2 = l / 2 := by decide +kernel
      have e : cr i 0 / 2 = l / 2 := by rw [hc]; exact hx l hl
      exact ⟨a, hc, e, fun j h1 h2 => by rw [e]; exact c j h1 h2⟩
    · rw [if_neg hc] at h; omega
end RBQ
