/-! NEAREST: an order that is N crossings away has a balanced lift of at most N crossings -/
def af_bl (n : Nat) (e : Nat → Int) : Prop := ∀ i j, i < n → j < n → (e i - i) - (e j - j) ≤ n
section AFB
variable {n : Nat} {e : Nat → Int}
theorem af_h01 (h3 : 3 ≤ n) (D : af_ds n e) {a c : Nat} (ha : a < n) (hc : c < n) (hac : a ≠ c) (h0 : 0 ≤ (e a - a) - (e c - c)) (h1 : (e a - a) - (e c - c) ≤ n + 1) : af_h n e a c = 0 ∨ af_h n e a c = 1 := by
  have hn : (0 : Int) < n := by omega
  have d := D a c ha hc hac
  have b1 : e a - e c ≠ n := fun w => d (by rw [w]; exact Int.emod_self)
  have b2 : e a - e c ≠ n + n := fun w => d (by rw [w, Int.add_emod_right]; exact Int.emod_self)
  have q0 := af_q (x := e a - e c) hn
  have q1 := af_q (x := e a - e c - n) hn
  have q2 := af_q (x := e a - e c - n - n) hn
  have qm := af_q (x := e a - e c + n) hn
  rw [af_subn hn] at q1
  rw [af_subn hn, af_subn hn] at q2
  rw [af_addn hn] at qm
  unfold af_h
  by_cases h : a < c
  · rw [if_pos h]
    have m1 := qm.2 (by omega)
    have m2 : ¬ 0 ≤ (e a - e c) / (n : Int) - 1 := fun w => by have := q1.1 w; omega
    omega
  · rw [if_neg h]
    have m1 := q0.2 (by omega)
    have m2 : ¬ 0 ≤ (e a - e c) / (n : Int) - 1 - 1 := fun w => by have := q2.1 w; omega
    omega
theorem af_h02 (h3 : 3 ≤ n) {a c : Nat} (ha : a < n) (hc : c < n) (h0 : 0 ≤ (e a - a) - (e c - c)) (h1 : (e a - a) - (e c - c) ≤ n + 2) : 0 ≤ af_h n e a c ∧ af_h n e a c ≤ 2 := by
  have hn : (0 : Int) < n := by omega
  have q0 := af_q (x := e a - e c) hn
  have q2 := af_q (x := e a - e c - n - n) hn
  have q3 := af_q (x := e a - e c - n - n - n) hn
  have qm := af_q (x := e a - e c + n) hn
  rw [af_subn hn, af_subn hn] at q2
  rw [af_subn hn, af_subn hn, af_subn hn] at q3
  rw [af_addn hn] at qm
  unfold af_h
  by_cases h : a < c
  · rw [if_pos h]
    have m1 := qm.2 (by omega)
    have m2 : ¬ 0 ≤ (e a - e c) / (n : Int) - 1 - 1 := fun w => by have := q2.1 w; omega
    omega
  · rw [if_neg h]
    by_cases hh : a = c
    · subst hh; rw [Int.sub_self, Int.zero_ediv]; omega
    · have m1 := q0.2 (by omega)
      have m2 : ¬ 0 ≤ (e a - e c) / (n : Int) - 1 - 1 - 1 := fun w => by have := q3.1 w; omega
      omega
theorem af_one {g : Nat → Nat} {a b : Nat} (h3 : 3 ≤ n) (G : af_gw n g) (h : af_lf n g e) (ha : a < n) (hb : b < n) (hab : a ≠ b) (c1 : ∀ c, c < n → c ≠ a → c ≠ b → 0 ≤ (e a - a) - (e c - c) ∧ (e a - a) - (e c - c) ≤ n + 1 ∧ 0 ≤ (e c - c) - (e b - b) ∧ (e c - c) - (e b - b) ≤ n + 1) (s1 : (n : Int) + 1 ≤ (e a - a) - (e b - b)) (s2 : (e a - a) - (e b - b) ≤ n + 2) : af_lf n g (af_ct n a b e) ∧ af_S n (af_ct n a b e) ≤ af_S n e := by
  have h' := af_ct_lf ha hb hab h
  have D := af_ds_of G h
  refine ⟨h', af_ctS h3 ha hb hab D (af_ds_of G h') h.2 (fun c hc q1 q2 => ?_) (fun c hc q1 q2 => ?_) (af_h02 h3 ha hb (by omega) s2).1 (af_h02 h3 ha hb (by omega) s2).2 s1⟩
  · have := c1 c hc q1 q2
    exact af_h01 h3 D ha hc (fun w => q1 w.symm) this.1 this.2.1
  · have := c1 c hc q1 q2
    exact af_h01 h3 D hc hb q2 this.2.2.1 this.2.2.2
/-- behind a crossing: balanced again -/
theorem af_reb {g : Nat → Nat} {p : Nat} {e' : Nat → Int} (h3 : 3 ≤ n) (hp : p < n) (G : af_gw n g) (h : af_lf n g (af_ex n p e')) (bl : af_bl n e') : ∃ e2, af_lf n g e2 ∧ af_bl n e2 ∧ af_S n e2 ≤ af_S n (af_ex n p e') := by
  obtain ⟨e, he⟩ : ∃ e, e = af_ex n p e' := ⟨_, rfl⟩
  obtain ⟨q, hq⟩ : ∃ q, q = if p + 1 < n then p + 1 else 0 := ⟨_, rfl⟩
  have hqn : q < n := by rw [hq]; split <;> omega
  have hpq : p ≠ q := by rw [hq]; split <;> omega
  have ep : e p - p = e' q - q + 1 := by
    rw [he, hq]
    unfold af_ex af_pi
    by_cases c : p + 1 < n
    · rw [if_pos c, if_pos c]
      simp only [if_true]; omega
    · have : p = n - 1 := by omega
      rw [if_neg c, if_neg c, this]
      simp only
      rw [if_neg (by omega)]
      simp only [if_true]; omega
  have eq : e q - q = e' p - p - 1 := by
    rw [he, hq]
    unfold af_ex af_pi
    by_cases c : p + 1 < n
    · rw [if_pos c, if_pos c]
      simp only
      rw [if_neg (by omega)]
      simp only [if_true]; omega
    · have : p = n - 1 := by omega
      rw [if_neg c, if_neg c, this]
      simp only [if_true]; omega
  have ec : ∀ c, c < n → c ≠ p → c ≠ q → e c = e' c := fun c hc c1 c2 => by
    rw [hq] at c2
    rw [he]
    unfold af_ex af_pi
    by_cases r : p + 1 < n
    · rw [if_pos r] at c2
      rw [if_pos r]
      show e' (if c = p then _ else if c = p + 1 then _ else c) = _
      rw [if_neg c1, if_neg c2]
    · rw [if_neg r] at c2
      rw [if_neg r]
      show (if c = 0 then _ else if c = n - 1 then _ else e' c) = _
      rw [if_neg c2, if_neg (by omega)]
  rw [← he] at h ⊢
  have bpq := bl p q hp hqn
  have bqp := bl q p hqn hp
  by_cases b0 : af_bl n e
  · exact ⟨e, h, b0, Int.le_refl _⟩
  · by_cases k1 : (n : Int) + 1 ≤ (e p - p) - (e q - q)
    · -- the two that crossed
      have r := af_one h3 G h hp hqn hpq (fun c hc c1 c2 => by
        have x1 := bl q c hqn hc
        have x2 := bl c p hc hp
        rw [ec c hc c1 c2]; omega) k1 (by omega)
      refine ⟨_, r.1, ?_, r.2⟩
      have vp : af_ct n p q e p = e p - n := by unfold af_ct; rw [if_pos rfl]
      have vq : af_ct n p q e q = e q + n := by unfold af_ct; rw [if_neg (fun w => hpq w.symm), if_pos rfl]
      have vc : ∀ c, c < n → c ≠ p → c ≠ q → af_ct n p q e c = e' c := fun c hc c1 c2 => by unfold af_ct; rw [if_neg c1, if_neg c2, ec c hc c1 c2]
      intro i j hi hj
      have x1 := bl q i hqn hi
      have x2 := bl i p hi hp
      have y1 := bl q j hqn hj
      have y2 := bl j p hj hp
      by_cases i1 : i = p
      · subst i1
        by_cases j1 : j = i
        · subst j1; omega
        · by_cases j2 : j = q
          · subst j2; rw [vp, vq]; omega
          · rw [vp, vc j hj j1 j2]; omega
      · by_cases i2 : i = q
        · subst i2
          by_cases j1 : j = p
          · subst j1; rw [vp, vq]; omega
          · by_cases j2 : j = i
            · subst j2; omega
            · rw [vq, vc j hj j1 j2]; omega
        · by_cases j1 : j = p
          · subst j1; rw [vp, vc i hi i1 i2]; omega
          · by_cases j2 : j = q
            · subst j2; rw [vq, vc i hi i1 i2]; omega
            · rw [vc i hi i1 i2, vc j hj j1 j2]; exact bl i j hi hj
    · -- one that crossed, and one else
      have ex : ∃ i j, i < n ∧ j < n ∧ (n : Int) + 1 ≤ (e i - i) - (e j - j) := by
        apply Classical.byContradiction
        intro w
        refine b0 (fun i j hi hj => ?_)
        have : ¬ (n : Int) + 1 ≤ (e i - i) - (e j - j) := fun z => w ⟨i, j, hi, hj, z⟩
        omega
      obtain ⟨i, j, hi, hj, hij⟩ := ex
      have bij := bl i j hi hj
      have bqj := bl q j hqn hj
      have bip := bl i p hi hp
      by_cases i1 : i = p
      · -- j is another
        have j1 : j ≠ p := fun w => by rw [i1, w] at hij; omega
        have j2 : j ≠ q := fun w => by rw [i1, w] at hij; omega
        rw [i1] at hij
        have ej := ec j hj j1 j2
        have r := af_one h3 G h hp hj (fun w => j1 w.symm) (fun c hc c1 c2 => by
          have x1 := bl q c hqn hc
          have x2 := bl c j hc hj
          have x3 := bl p j hp hj
          by_cases c3 : c = q
          · subst c3; omega
          · rw [ec c hc c1 c3]; omega) hij (by omega)
        refine ⟨_, r.1, ?_, r.2⟩
        have vp : af_ct n p j e p = e p - n := by unfold af_ct; rw [if_pos rfl]
        have vj : af_ct n p j e j = e j + n := by unfold af_ct; rw [if_neg j1, if_pos rfl]
        -- all lie between
        have bt : ∀ c, c < n → (e' j - j) ≤ af_ct n p j e c - c ∧ af_ct n p j e c - c ≤ e' q - q := fun c hc => by
          have x1 := bl q c hqn hc
          have x2 := bl c j hc hj
          have x3 := bl p j hp hj
          by_cases c1 : c = p
          · subst c1; rw [vp]; omega
          · by_cases c2 : c = j
            · subst c2; rw [vj]; omega
            · have vc : af_ct n p j e c = e c := by unfold af_ct; rw [if_neg c1, if_neg c2]
              rw [vc]
              by_cases c3 : c = q
              · subst c3; omega
              · rw [ec c hc c1 c3]; omega
        intro x y hx hy
        have := bt x hx
        have := bt y hy
        omega
      · have i2 : i ≠ q := fun w => by
          subst w
          by_cases j1 : j = p
          · subst j1; omega
          · by_cases j2 : j = i
            · subst j2; omega
            · rw [ec j hj j1 j2] at hij
              have := bl p j hp hj
              omega
        have ei := ec i hi i1 i2
        have j2 : j = q := by
          apply Classical.byContradiction
          intro j2
          by_cases j1 : j = p
          · have z := bl i q hi hqn
            rw [j1, ei] at hij
            omega
          · rw [ei, ec j hj j1 j2] at hij; omega
        subst j2
        have r := af_one h3 G h hi hj (fun w => i2 w) (fun c hc c1 c2 => by
          have x1 := bl i c hi hc
          have x2 := bl c p hc hp
          have x3 := bl i j hi hj
          by_cases c3 : c = p
          · subst c3; omega
          · rw [ec c hc c3 c2]; omega) hij (by omega)
        refine ⟨_, r.1, ?_, r.2⟩
        have vi : af_ct n i j e i = e i - n := by unfold af_ct; rw [if_pos rfl]
        have vj : af_ct n i j e j = e j + n := by unfold af_ct; rw [if_neg (fun w => i2 w.symm), if_pos rfl]
        have bt : ∀ c, c < n → (e' p - p) ≤ af_ct n i j e c - c ∧ af_ct n i j e c - c ≤ e' i - i := fun c hc => by
          have x1 := bl i c hi hc
          have x2 := bl c p hc hp
          have x3 := bl i j hi hj
          by_cases c1 : c = i
          · subst c1; rw [vi]; omega
          · by_cases c2 : c = j
            · subst c2; rw [vj]; omega
            · have vc : af_ct n i j e c = e c := by unfold af_ct; rw [if_neg c1, if_neg c2]
              rw [vc]
              by_cases c3 : c = p
              · subst c3; omega
              · rw [ec c hc c3 c2]; omega
        intro x y hx hy
        have := bt x hx
        have := bt y hy
        omega
theorem af_gs_gs {g : Nat → Nat} {p : Nat} : af_gs n p (af_gs n p g) = g := by
  unfold af_gs
  by_cases c : p + 1 < n
  · rw [if_pos c, if_pos c]; funext i; show g (af_pi p (p + 1) (af_pi p (p + 1) i)) = g i; rw [af_pi_pi]
  · rw [if_neg c, if_neg c]; funext i; show g (af_pi 0 (n - 1) (af_pi 0 (n - 1) i)) = g i; rw [af_pi_pi]
theorem af_up (h3 : 3 ≤ n) : ∀ (N : Nat) (g : Nat → Nat), af_gw n g → af_R n N g → ∃ e, af_lf n g e ∧ af_bl n e ∧ af_S n e ≤ 2 * N := by
  intro N
  induction N with
  | zero =>
    intro g G h
    have h' : ∀ i, i < n → g i = i := h
    refine ⟨fun i => (i : Int), ⟨fun i hi => ⟨0, ?_⟩, rfl⟩, fun i j hi hj => ?_, ?_⟩
    · show (i : Int) = (g i : Int) + n * 0
      rw [h' i hi]; omega
    · show ((i : Int) - i) - (j - j) ≤ n
      omega
    · rw [af_S_id (fun i _ => rfl)]; omega
  | succ N ih =>
    intro g G h
    obtain ⟨p, hp, h2⟩ := h
    obtain ⟨e, e1, e2, e3⟩ := ih _ (af_gs_w h3 hp G) h2
    have l := af_ex_lf h3 hp e1
    rw [af_gs_gs] at l
    have sw := af_swap h3 hp (af_ds_of (af_gs_w h3 hp G) e1)
    have le : af_S n (af_ex n p e) ≤ af_S n e + 2 := by
      by_cases d : af_dn n p e
      · have := sw.1 d; omega
      · have := sw.2 d; omega
    obtain ⟨f, f1, f2, f3⟩ := af_reb h3 hp G l e2
    exact ⟨f, f1, f2, by omega⟩
end AFB
