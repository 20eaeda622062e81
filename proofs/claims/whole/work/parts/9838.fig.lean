/-! A FIGURE IS READ: steps put, rows put again -/
def FC (j L : Nat) (σ τ : rb_St) : Prop := τ.1 0 26 = nI (min L 49) ∧ ∀ i, i < L → i < 48 → ∃ v, v ≤ 20 ∧ σ.1 14 i = nI v ∧ τ.1 15 (48 * j + i) = nI v
def FD (j L : Nat) (σ τ : rb_St) : Prop := σ.1 13 1 = nI L ∧ FC j L σ τ
def scFX (c i : Nat) : Prop := (c = 12 ∧ i = 1) ∨ (c = 13 ∧ i = 1) ∨ c = 14
def scFM (j c i : Nat) : Prop := (c = 0 ∧ (i = 3 ∨ i = 4 ∨ i = 26)) ∨ (c = 15 ∧ 48 * j ≤ i ∧ i < 48 * j + 48)
def scFP (j c i : Nat) : Prop := (c = 0 ∧ i = 26) ∨ (c = 15 ∧ 48 * j ≤ i ∧ i < 48 * j + 48)
section RBFI
variable {j L m a : Nat} {t : Nat → Nat} {σ τ : rb_St}
theorem FC_fr {σ' τ' : rb_St} {ch ch' : Nat → Nat → Prop} (h1 : rb_fr ch σ σ') (h2 : rb_fr ch' τ τ') (q1 : ∀ c i, ch c i → c ≠ 14) (q2 : ∀ c i, ch' c i → ¬ ((c = 0 ∧ i = 26) ∨ c = 15)) (h : FC j L σ τ) : FC j L σ' τ' := ⟨(h2.1 _ _ (fun w => q2 _ _ w (Or.inl ⟨rfl, rfl⟩))).trans h.1, fun i i1 i2 => by
  obtain ⟨v, v1, v2, v3⟩ := h.2 i i1 i2
  exact ⟨v, v1, (h1.1 _ _ (fun w => q1 _ _ w rfl)).trans v2, (h2.1 _ _ (fun w => q2 _ _ w (Or.inr rfl))).trans v3⟩⟩
theorem FD_fr {σ' τ' : rb_St} {ch ch' : Nat → Nat → Prop} (h1 : rb_fr ch σ σ') (h2 : rb_fr ch' τ τ') (q1 : ∀ c i, ch c i → ¬ ((c = 13 ∧ i = 1) ∨ c = 14)) (q2 : ∀ c i, ch' c i → ¬ ((c = 0 ∧ i = 26) ∨ c = 15)) (h : FD j L σ τ) : FD j L σ' τ' := ⟨(h1.1 _ _ (fun w => q1 _ _ w (Or.inl ⟨rfl, rfl⟩))).trans h.1, FC_fr h1 h2 (fun c i w e => q1 _ _ w (Or.inr e)) q2 h.2⟩
/-- one step is put, on both sides -/
theorem rb_put (hj : j ≤ 6) (hL : L < 1000000) {v : Nat} (hv : v ≤ 20) (h : FD j L σ τ) : ∃ σ' τ', xf_Fig_add (nI v) σ = some σ' ∧ xf_M_putStep (nI j) (nI v) τ = some τ' ∧ FD j (L + 1) σ' τ' ∧ rb_fr (fun c i => (c = 13 ∧ i = 1) ∨ c = 14) σ σ' ∧ rb_fr (scFP j) τ τ' := by
  obtain ⟨h1, h2, h3⟩ := h
  have e49 : rb_mn (49 : Int32) (nI (min L 49) + 1) = nI (min (L + 1) 49) := by
    rw [nI_1, show (49 : Int32) = nI 49 from rfl, rb_mn_nI (by decide) (by omega)]
    congr 1
    omega
  unfold xf_Fig_add xf_M_putStep
  rw [h1, h2]
  by_cases q : 48 ≤ L
  · rw [if_pos (show (48 : Int32) ≤ nI L from nI_le (a := 48) q (by omega)), if_pos (show (48 : Int32) ≤ nI (min L 49) from nI_le (a := 48) (by omega) (by omega)), rb_lt_eq, rb_lt_eq, e49, nI_1]
    refine ⟨_, _, rfl, rfl, ⟨rb_sI_eq _ _ _ _, rb_sI_eq _ _ _ _, fun i i1 i2 => ?_⟩, rb_fr.sI (Or.inl ⟨rfl, rfl⟩), rb_fr.sI (Or.inl ⟨rfl, rfl⟩)⟩
    rw [rb_sIg _ _ _ _ _ _ (by omega), rb_sIg _ _ _ _ _ _ (by omega)]
    exact h3 i (by omega) i2
  · have e : (48 : Int32) * nI j + nI (min L 49) = nI (48 * j + L) := by
      rw [show (48 : Int32) = nI 48 from rfl, pk_mul, nI_add]; congr 1; omega
    rw [if_neg (show ¬ (48 : Int32) ≤ nI L from nI_ge (b := 48) (by omega) (by decide)), if_neg (show ¬ (48 : Int32) ≤ nI (min L 49) from nI_ge (b := 48) (by omega) (by decide)), rb_ib_nI (by omega) (by decide), if_pos rfl, nI_clamp (by omega), rb_lt_eq, rb_lt_eq, rb_sIg _ _ _ _ 13 1 (by omega), h1, nI_1, e, rb_ib_nI (by omega) (by decide), if_pos rfl, nI_clamp (by omega), rb_lt_eq, rb_lt_eq, rb_sIg _ _ _ _ 0 26 (by omega), h2, e49]
    refine ⟨_, _, rfl, rfl, ⟨rb_sI_eq _ _ _ _, rb_sI_eq _ _ _ _, fun i i1 i2 => ?_⟩, rb_fr.sI' (k := 13) (j := 1) (rb_fr.sI (k := 14) (Or.inr rfl)) (Or.inl ⟨rfl, rfl⟩), rb_fr.sI' (k := 0) (j := 26) (rb_fr.sI (ch := scFP j) (k := 15) (j := 48 * j + L) (Or.inr ⟨rfl, by omega, by omega⟩)) (Or.inl ⟨rfl, rfl⟩)⟩
    rw [rb_sIg _ 13 1 _ 14 i (by omega), rb_sIg _ 0 26 _ 15 _ (by omega), rb_sI_at, rb_sI_at]
    by_cases e : i = L
    · subst e
      rw [if_pos ⟨rfl, rfl⟩, if_pos ⟨rfl, rfl⟩]
      exact ⟨v, hv, rfl, rfl⟩
    · rw [if_neg (fun w => e w.2), if_neg (fun w => e (by omega))]
      exact h3 i (by omega) i2
theorem sm_put49 (h : τ.1 0 26 = nI 49) (x y : Int32) : ∃ τ', xf_M_putStep x y τ = some τ' ∧ τ'.1 0 26 = nI 49 ∧ rb_fr (fun c i => c = 0 ∧ i = 26) τ τ' := by
  unfold xf_M_putStep
  rw [h, if_pos (by decide), rb_lt_eq, show rb_mn 49 (nI 49 + 1) = nI 49 by decide]
  exact ⟨_, rfl, rb_sI_eq _ _ _ _, rb_fr.sI ⟨rfl, rfl⟩⟩
/-- a row that is too long already -/
theorem sm_again49 (G : xg_MF) {d w : Nat} (hT : (d - 1) * w < 1000) (hd : 1 ≤ d) : ∀ (r y f : Nat) (τ : rb_St), y + r = (d - 1) * w → r < f → τ.1 0 4 = -1 → τ.1 0 26 = nI 49 → ∃ τ', xl_M_readAgain_117 G (nI j) (nI d) (nI w) f (nI y) τ = some τ' ∧ τ'.1 0 26 = nI 49 ∧ rb_fr (fun c i => c = 0 ∧ i = 26) τ τ' := by
  have eT : (nI d - 1) * nI w = nI ((d - 1) * w) := by rw [rb_pr (by omega), pk_mul]
  intro r
  induction r with
  | zero =>
    intro y f τ h1 h2 h3 h4
    obtain ⟨f, rfl⟩ : ∃ q, f = q + 1 := ⟨f - 1, by omega⟩
    refine ⟨τ, ?_, h4, rb_fr.rf⟩
    show (if ((nI d - 1) * nI w) ≤ nI y then some τ else _) = _
    rw [eT, if_pos (nI_le (by omega) (by omega))]
  | succ r ih =>
    intro y f τ h1 h2 h3 h4
    obtain ⟨f, rfl⟩ : ∃ q, f = q + 1 := ⟨f - 1, by omega⟩
    obtain ⟨s, a1, a2, a3⟩ := sm_put49 h4 (nI j) 20
    obtain ⟨τ', b1, b2, b3⟩ := ih (y + 1) f s (by omega) (by omega) (by rw [a3.1 0 4 (by omega)]; exact h3) a2
    refine ⟨τ', ?_, b2, a3.tr b3⟩
    show (if ((nI d - 1) * nI w) ≤ nI y then some τ else if (τ.1 0 4) = (-1) then if 48 ≤ (τ.1 0 26) then rb_b1 (xf_M_putStep (nI j) 20 τ) fun s23 => xl_M_readAgain_117 G (nI j) (nI d) (nI w) f (nI y + 1) s23 else _ else some τ) = _
    rw [eT, if_neg (nI_ge (by omega) (by omega)), if_pos h3, h4, if_pos (by decide), a1, rb_b1_some, nI_1]
    exact b1
theorem rb_rep (hj : j ≤ 6) (G : xg_MF) {d w L0 : Nat} (hd : 1 ≤ d) (hd9 : d ≤ 9) (h48 : L0 + w ≤ 48) : ∀ (r y f g : Nat) (σ τ : rb_St), y + r = (d - 1) * w → r + 1 < f → r < g → τ.1 0 4 = -1 → FC j (L0 + w + y) σ τ → ∃ σ' τ', xl_Fig_repeatFrom_13 (nI L0) (nI d) (nI w) f (nI (L0 + w + y)) σ = some σ' ∧ xl_M_readAgain_117 G (nI j) (nI d) (nI w) g (nI y) τ = some τ' ∧ FC j (L0 + d * w) σ' τ' ∧ rb_fr (fun c _ => c = 14) σ σ' ∧ rb_fr (scFP j) τ τ' := by
  have eT : (nI d - 1) * nI w = nI ((d - 1) * w) := by rw [rb_pr (by omega), pk_mul]
  have eE : nI L0 + nI d * nI w = nI (L0 + d * w) := by rw [pk_mul, nI_add]
  have edw : d * w = (d - 1) * w + w := by
    obtain ⟨q, rfl⟩ : ∃ q, d = q + 1 := ⟨d - 1, by omega⟩
    rw [Nat.succ_mul, Nat.add_sub_cancel]
  have bT : (d - 1) * w ≤ 8 * 48 := Nat.mul_le_mul (by omega) (by omega)
  have stepX : ∀ f x σ, xl_Fig_repeatFrom_13 (nI L0) (nI d) (nI w) (f + 1) x σ = if 48 ≤ x then some σ else if (nI (L0 + d * w)) ≤ x then some σ else if rb_ib (x - nI w) 48 then if rb_ib x 48 then rb_lt (rb_sI σ 14 x.toNatClampNeg (σ.1 14 (x - nI w).toNatClampNeg)) (fun s5 => xl_Fig_repeatFrom_13 (nI L0) (nI d) (nI w) f (x + 1) s5) else none else none := fun f x σ => by rw [← eE]; rfl
  have stepM : ∀ f y τ, xl_M_readAgain_117 G (nI j) (nI d) (nI w) (f + 1) y τ = if nI ((d - 1) * w) ≤ y then some τ else if (τ.1 0 4) = (-1) then if 48 ≤ (τ.1 0 26) then rb_b1 (xf_M_putStep (nI j) 20 τ) fun s23 => xl_M_readAgain_117 G (nI j) (nI d) (nI w) f (y + 1) s23 else if rb_ib (((48 * nI j) + (τ.1 0 26)) - nI w) 336 then rb_b1 (xf_M_putStep (nI j) (τ.1 15 (((48 * nI j) + (τ.1 0 26)) - nI w).toNatClampNeg) τ) fun s26 => xl_M_readAgain_117 G (nI j) (nI d) (nI w) f (y + 1) s26 else none else some τ := fun f y τ => by rw [← eT]; rfl
  intro r
  induction r with
  | zero =>
    intro y f g σ τ h1 h2 h3 h4 h5
    obtain ⟨f, rfl⟩ : ∃ q, f = q + 1 := ⟨f - 1, by omega⟩
    obtain ⟨g, rfl⟩ : ∃ q, g = q + 1 := ⟨g - 1, by omega⟩
    rw [show L0 + d * w = L0 + w + y by omega]
    refine ⟨σ, τ, ?_, ?_, h5, rb_fr.rf, rb_fr.rf⟩
    · rw [stepX]
      split
      · rfl
      · rw [if_pos (nI_le (by omega) (by omega))]
    · rw [stepM, if_pos (nI_le (by omega) (by omega))]
  | succ r ih =>
    intro y f g σ τ h1 h2 h3 h4 h5
    obtain ⟨f, rfl⟩ : ∃ q, f = q + 1 := ⟨f - 1, by omega⟩
    obtain ⟨g, rfl⟩ : ∃ q, g = q + 1 := ⟨g - 1, by omega⟩
    obtain ⟨h6, h7⟩ := h5
    have hw0 : 0 < w := Nat.pos_of_ne_zero (fun e => by rw [e, Nat.mul_zero] at h1; omega)
    rw [stepX, stepM, if_neg (show ¬ nI ((d - 1) * w) ≤ nI y from nI_ge (by omega) (by omega)), if_pos h4, h6]
    by_cases q : 48 ≤ L0 + w + y
    · rw [if_pos (show (48 : Int32) ≤ nI (L0 + w + y) from nI_le (a := 48) q (by omega)), if_pos (show (48 : Int32) ≤ nI (min (L0 + w + y) 49) from nI_le (a := 48) (by omega) (by omega))]
      have e49 : rb_mn (49 : Int32) (nI (min (L0 + w + y) 49) + 1) = nI (min (L0 + w + (y + 1)) 49) := by
        rw [nI_1, show (49 : Int32) = nI 49 from rfl, rb_mn_nI (by decide) (by omega)]
        congr 1
        omega
      have ep : xf_M_putStep (nI j) 20 τ = some (rb_sI τ 0 26 (nI (min (L0 + w + (y + 1)) 49))) := by
        unfold xf_M_putStep
        rw [h6, if_pos (show (48 : Int32) ≤ nI (min (L0 + w + y) 49) from nI_le (a := 48) (by omega) (by omega)), rb_lt_eq, e49]
      obtain ⟨σ', τ', b1, b2, b3, b4, b5⟩ := ih (y + 1) f g σ (rb_sI τ 0 26 (nI (min (L0 + w + (y + 1)) 49))) (by omega) (by omega) (by omega) (by rw [rb_sIg _ _ _ _ _ _ (by omega)]; exact h4) ⟨rb_sI_eq _ _ _ _, fun i i1 i2 => by
        rw [rb_sIg _ _ _ _ _ _ (by omega)]
        exact h7 i (by omega) i2⟩
      rw [ep, rb_b1_some, nI_1, b2]
      obtain ⟨f, rfl⟩ : ∃ q, f = q + 1 := ⟨f - 1, by omega⟩
      rw [stepX, if_pos (show (48 : Int32) ≤ nI (L0 + w + (y + 1)) from nI_le (a := 48) (by omega) (by omega))] at b1
      exact ⟨σ', τ', b1, rfl, b3, b4, (rb_fr.sI (Or.inl ⟨rfl, rfl⟩)).tr b5⟩
    · have eM : ((48 : Int32) * nI j + nI (min (L0 + w + y) 49)) - nI w = nI (48 * j + (L0 + y)) := by
        rw [show (48 : Int32) = nI 48 from rfl, pk_mul, nI_add, pk_sub (by omega)]; congr 1; omega
      have eX : nI (L0 + w + y) - nI w = nI (L0 + y) := by rw [pk_sub (by omega)]; congr 1; omega
      obtain ⟨v, v1, v2, v3⟩ := h7 (L0 + y) (by omega) (by omega)
      rw [if_neg (show ¬ (48 : Int32) ≤ nI (L0 + w + y) from nI_ge (b := 48) (by omega) (by decide)), if_neg (show ¬ nI (L0 + d * w) ≤ nI (L0 + w + y) from nI_ge (by omega) (by omega)), if_neg (show ¬ (48 : Int32) ≤ nI (min (L0 + w + y) 49) from nI_ge (b := 48) (by omega) (by decide)), eM, eX, rb_ib_nI (by omega) (by decide), if_pos rfl, rb_ib_nI (by omega) (by decide), if_pos rfl, rb_ib_nI (by omega) (by decide), if_pos rfl, nI_clamp (by omega), nI_clamp (by omega), nI_clamp (by omega), v2, v3, rb_lt_eq]
      obtain ⟨s, u, p1, p2, p3, p4, p5⟩ := rb_put (σ := rb_sI σ 13 1 (nI (L0 + w + y))) (τ := τ) (L := L0 + w + y) hj (by omega) v1 ⟨rb_sI_eq _ _ _ _, h6, fun i i1 i2 => by
        rw [rb_sIg _ _ _ _ _ _ (by omega)]; exact h7 i i1 i2⟩
      obtain ⟨σ', τ', b1, b2, b3, b4, b5⟩ := ih (y + 1) f g (rb_sI σ 14 (L0 + w + y) (nI v)) u (by omega) (by omega) (by omega) (by rw [p5.1 0 4 (by unfold scFP; omega)]; exact h4) ⟨p3.2.1, fun i i1 i2 => by
        obtain ⟨v', w1, w2, w3⟩ := p3.2.2 i (by omega) i2
        refine ⟨v', w1, ?_, w3⟩
        rw [← w2]
        unfold xf_Fig_add at p1
        rw [rb_sI_eq, if_neg (show ¬ (48 : Int32) ≤ nI (L0 + w + y) from nI_ge (b := 48) (by omega) (by decide)), rb_ib_nI (by omega) (by decide), if_pos rfl, nI_clamp (by omega), rb_lt_eq, rb_lt_eq] at p1
        rw [← Option.some.inj p1, rb_sIg _ 13 1 _ 14 i (by omega), rb_sI_at, rb_sI_at, rb_sIg _ 13 1 _ 14 i (by omega)]⟩
      rw [p2, rb_b1_some, nI_1, nI_1, b2]
      exact ⟨σ', τ', b1, rfl, b3, (rb_fr.sI (ch := fun c _ => c = 14) (k := 14) rfl).tr b4, p5.tr b5⟩
/-- a row again -/
theorem rb_again (hj : j ≤ 6) (G : xg_MF) {d L0 L1 : Nat} (hd : 2 ≤ d) (hd9 : d ≤ 9) (h01 : L0 ≤ L1) (hb : L0 + d * (L1 - L0) < 1000000) (hw : τ.1 0 4 = -1) (h : FD j L1 σ τ) : ∃ σ' τ', xf_Fig_repeatFrom (nI L0) (nI d) σ = some σ' ∧ xl_M_readAgain_117 G (nI j) (nI d) ((τ.1 0 26) - nI (min L0 49)) rb_FU 0 τ = some τ' ∧ FD j (L0 + d * (L1 - L0)) σ' τ' ∧ rb_fr (fun c i => (c = 13 ∧ i = 1) ∨ c = 14) σ σ' ∧ rb_fr (scFP j) τ τ' := by
  obtain ⟨h1, h2⟩ := h
  have hb2 : L1 - L0 ≤ d * (L1 - L0) := Nat.le_mul_of_pos_left _ (by omega)
  have e1 : nI L1 - nI L0 = nI (L1 - L0) := pk_sub (by omega)
  have e2 : nI (min L1 49) - nI (min L0 49) = nI (min L1 49 - min L0 49) := pk_sub (by omega)
  unfold xf_Fig_repeatFrom
  rw [h1, h2.1, e1, e2]
  by_cases q : L1 ≤ 48
  · rw [show min L1 49 - min L0 49 = L1 - L0 by omega]
    obtain ⟨w, hw'⟩ : ∃ w, w = L1 - L0 := ⟨_, rfl⟩
    have eL : L1 = L0 + w := by omega
    rw [← hw']
    have bT : (d - 1) * w ≤ 8 * 48 := Nat.mul_le_mul (by omega) (by omega)
    obtain ⟨s, u, a1, a2, a3, a4, a5⟩ := rb_rep hj G (d := d) (w := w) (L0 := L0) (by omega) hd9 (by omega) ((d - 1) * w) 0 rb_FU rb_FU σ τ (by omega) (by unfold rb_FU; omega) (by unfold rb_FU; omega) hw (by rw [Nat.add_zero, ← eL]; exact h2)
    rw [Nat.add_zero, ← eL] at a1
    have a2' : xl_M_readAgain_117 G (nI j) (nI d) (nI w) rb_FU 0 τ = some u := a2
    have eE : nI L0 + nI d * nI w = nI (L0 + d * w) := by rw [pk_mul, nI_add]
    rw [a1, rb_b1_some, rb_lt_eq, a2', eE]
    refine ⟨_, u, rfl, rfl, ⟨rb_sI_eq _ _ _ _, FC_fr (rb_fr.sI (ch := fun c _ => c = 13) (k := 13) rfl) (rb_fr.rf (ch := fun _ _ => False)) (fun c i w => by omega) (fun c i w => w.elim) a3⟩, rb_fr.sI' (k := 13) (j := 1) (a4.mo (fun c i q => Or.inr q)) (Or.inl ⟨rfl, rfl⟩), a5⟩
  · have h49 : τ.1 0 26 = nI 49 := by rw [h2.1]; congr 1; omega
    obtain ⟨w, hw'⟩ : ∃ w, w = min L1 49 - min L0 49 := ⟨_, rfl⟩
    have bT : (d - 1) * w ≤ 8 * 49 := Nat.mul_le_mul (by omega) (by omega)
    obtain ⟨u, a1, a2, a3⟩ := sm_again49 (j := j) G (d := d) (w := w) (by omega) (by omega) ((d - 1) * w) 0 rb_FU τ (by omega) (by unfold rb_FU; omega) hw h49
    have a1' : xl_M_readAgain_117 G (nI j) (nI d) (nI w) rb_FU 0 τ = some u := a1
    have eE : nI L0 + nI d * nI (L1 - L0) = nI (L0 + d * (L1 - L0)) := by rw [pk_mul, nI_add]
    have c1 : xl_Fig_repeatFrom_13 (nI L0) (nI d) (nI (L1 - L0)) rb_FU (nI L1) σ = some σ := by
      obtain ⟨F, hF⟩ : ∃ G, rb_FU = G + 1 := ⟨99999, rfl⟩
      rw [hF]
      show (if (48 : Int32) ≤ nI L1 then some σ else _) = _
      rw [if_pos (show (48 : Int32) ≤ nI L1 from nI_le (a := 48) (by omega) (by omega))]
    rw [c1, rb_b1_some, rb_lt_eq, ← hw', a1', eE]
    refine ⟨_, u, rfl, rfl, ⟨rb_sI_eq _ _ _ _, ?_, fun i i1 i2 => ?_⟩, rb_fr.sI (Or.inl ⟨rfl, rfl⟩), a3.mo (fun c i q => Or.inl q)⟩
    · rw [a2]; congr 1; omega
    · rw [rb_sIg _ _ _ _ _ _ (by omega), a3.1 15 _ (by omega)]
      exact h2.2 i (by omega) i2
end RBFI
