/-! rows of objects that a loop fills -/
def rb_its (it : (Nat → Nat) → va_W) (m : Nat) (a : Nat → Nat) (i : Nat) : va_W := (List.range i).flatMap (fun t => it (fun u => a (m * t + u)))
def rb_fi (m : Nat) (a : Nat → Nat) (i : Nat) : Nat → Option Nat := fun u => if u < i then some (a (m * u)) else none
def rb_ext (m : Nat) (a : Nat → Nat) (i q : Nat) (ns : List Nat) : Nat → Nat := fun t => if t < m * i then a t else if t = m * i then q else ns.getD (t - m * i - 1) 0
theorem rb_its_ext {it : (Nat → Nat) → va_W} {m : Nat} {a : Nat → Nat} {i q : Nat} {ns : List Nat} (hc : ∀ b c : Nat → Nat, (∀ u, u < m → b u = c u) → it b = it c) : rb_its it m (rb_ext m a i q ns) (i + 1) = rb_its it m a i ++ it (fun u => if u = 0 then q else ns.getD (u - 1) 0) := by
  unfold rb_its
  rw [List.range_succ, List.flatMap_append, List.flatMap_singleton]
  congr 1
  · unfold List.flatMap
    congr 1
    apply List.map_congr_left
    intro t ht
    have ht : t < i := List.mem_range.mp ht
    apply hc
    intro u hu
    have h1 : m * t + u < m * i := by
      have : m * (t + 1) ≤ m * i := Nat.mul_le_mul_left m ht
      rw [Nat.mul_add] at this
      omega
    simp [rb_ext, h1]
  · apply hc
    intro u hu
    by_cases h0 : u = 0
    · subst h0; simp [rb_ext]
    · have h1 : ¬ m * i + u < m * i := by omega
      have h2 : ¬ m * i + u = m * i := by omega
      simp only [rb_ext, h1, h2, h0, if_false]
      congr 1
      omega
theorem rb_fi_ext {m : Nat} {a : Nat → Nat} {i q : Nat} {ns : List Nat} (hm : 0 < m) : va_up (rb_fi m a i) i (some q) = rb_fi m (rb_ext m a i q ns) (i + 1) := by
  funext u
  unfold va_up rb_fi rb_ext
  by_cases h1 : u = i
  · subst h1
    simp
  · rw [if_neg h1]
    by_cases h2 : u < i
    · have h3 : m * u < m * i := Nat.mul_lt_mul_of_pos_left h2 hm
      rw [if_pos h2, if_pos (by omega : u < i + 1), if_pos h3]
    · rw [if_neg h2, if_neg (by omega : ¬ u < i + 1)]
theorem rb_fi_0 {m : Nat} {a : Nat → Nat} : rb_fi m a 0 = fun _ => none := by
  funext u
  simp [rb_fi]
theorem rb_its_0 {it : (Nat → Nat) → va_W} {m : Nat} {a : Nat → Nat} : rb_its it m a 0 = [] := rfl
/-- the world of a loop that fills: all else, the row at place j, what was made -/
def rb_FX (X : (Nat → Option Nat) → va_W) (j qa c n : Nat) (h0 ci : Nat) (fs : List Value) : Prop := (∀ f, (X f)[0]? = some (h0, .inr (ci, fs))) ∧ (∀ f, (X f)[j]? = some (qa, .inl (c, n, .inr (.inr (.inr (.inr f)))))) ∧ ∀ f g, (X f).set j (qa, .inl (c, n, .inr (.inr (.inr (.inr g))))) = X g
theorem rb_FX.get {X : (Nat → Option Nat) → va_W} {j qa c n h0 ci : Nat} {fs : List Value} (h : rb_FX X j qa c n h0 ci fs) (f : Nat → Option Nat) (Y : va_W) : (X f ++ Y)[0]? = some (h0, .inr (ci, fs)) ∧ (X f ++ Y)[j]? = some (qa, .inl (c, n, .inr (.inr (.inr (.inr f))))) ∧ ∀ g, (X f ++ Y).set j (qa, .inl (c, n, .inr (.inr (.inr (.inr g))))) = X g ++ Y := by
  have h1 := h.1 f
  have h2 := h.2.1 f
  have l1 : 0 < (X f).length := (List.getElem?_eq_some_iff.mp h1).1
  have l2 : j < (X f).length := (List.getElem?_eq_some_iff.mp h2).1
  refine ⟨by rw [List.getElem?_append_left l1]; exact h1, by rw [List.getElem?_append_left l2]; exact h2, fun g => ?_⟩
  rw [List.set_append_left _ _ l2, h.2.2 f g]
