/-! ROUNDS: at most seven points are back behind 7, 10 or 12 times -/
theorem rb_php : ∀ (n : Nat) (f : Nat → Nat), (∀ i, i ≤ n → f i < n) → ∃ i j, i < j ∧ j ≤ n ∧ f i = f j := by
  intro n
  induction n with
  | zero => intro f h; have := h 0 (by omega); omega
  | succ n ih =>
    intro f h
    by_cases hv : ∃ i, i ≤ n ∧ f i = f (n + 1)
    · obtain ⟨i, h1, h2⟩ := hv
      exact ⟨i, n + 1, by omega, by omega, h2⟩
    · have hv' : ∀ i, i ≤ n → f i ≠ f (n + 1) := fun i h1 h2 => hv ⟨i, h1, h2⟩
      have hl := h (n + 1) (by omega)
      obtain ⟨i, j, h1, h2, h3⟩ := ih (fun i => if f i = n then f (n + 1) else f i) (fun i hi => by
        have a := h i (by omega)
        have b := hv' i hi
        show (if f i = n then f (n + 1) else f i) < n
        split <;> omega)
      have h3' : (if f i = n then f (n + 1) else f i) = (if f j = n then f (n + 1) else f j) := h3
      refine ⟨i, j, h1, by omega, ?_⟩
      have bi := hv' i (by omega)
      have bj := hv' j (by omega)
      by_cases e1 : f i = n
      · by_cases e2 : f j = n
        · omega
        · rw [if_pos e1, if_neg e2] at h3'; omega
      · by_cases e2 : f j = n
        · rw [if_neg e1, if_pos e2] at h3'; omega
        · rw [if_neg e1, if_neg e2] at h3'; exact h3'
def pm_it (F : Nat → Nat) (s k : Nat) : Nat := rb_fo (fun _ a => F a) s k
section RBPM
variable {F : Nat → Nat}
theorem pm_add (s a : Nat) : ∀ b, pm_it F s (a + b) = pm_it F (pm_it F s a) b := by
  intro b
  induction b with
  | zero => rfl
  | succ b ih => show F (pm_it F s (a + b)) = F (pm_it F (pm_it F s a) b); rw [ih]
theorem pm_lt (hF : ∀ s, s < 7 → F s < 7) {s : Nat} (hs : s < 7) : ∀ k, pm_it F s k < 7 := by
  intro k
  induction k with
  | zero => exact hs
  | succ k ih => exact hF _ ih
theorem pm_inj (hF : ∀ s, s < 7 → F s < 7) (hi : ∀ s s', s < 7 → s' < 7 → F s = F s' → s = s') {s s' : Nat} (hs : s < 7) (hs' : s' < 7) : ∀ k, pm_it F s k = pm_it F s' k → s = s' := by
  intro k
  induction k with
  | zero => exact fun h => h
  | succ k ih => exact fun h => ih (hi _ _ (pm_lt hF hs k) (pm_lt hF hs' k) h)
/-- two places of one way: back behind their distance -/
theorem pm_dif (hF : ∀ s, s < 7 → F s < 7) (hi : ∀ s s', s < 7 → s' < 7 → F s = F s' → s = s') {s : Nat} (hs : s < 7) {i j : Nat} (hij : i < j) (h : pm_it F s i = pm_it F s j) : pm_it F s (j - i) = s := by
  have e : pm_it F s j = pm_it F (pm_it F s (j - i)) i := by rw [← pm_add]; congr 1; omega
  rw [e] at h
  exact (pm_inj hF hi hs (pm_lt hF hs _) i h).symm
theorem pm_mul {s l : Nat} (h : pm_it F s l = s) : ∀ q, pm_it F s (q * l) = s := by
  intro q
  induction q with
  | zero => rw [Nat.zero_mul]; rfl
  | succ q ih => rw [Nat.succ_mul, pm_add, ih, h]
theorem pm_main (hF : ∀ s, s < 7 → F s < 7) (hi : ∀ s s', s < 7 → s' < 7 → F s = F s' → s = s') : ∃ k, 1 ≤ k ∧ k ≤ 12 ∧ ∀ s, s < 7 → rb_fo (fun _ a => F a) s k = s := by
  by_cases h12 : ∀ s, s < 7 → pm_it F s 12 = s
  · exact ⟨12, by omega, by omega, h12⟩
  · obtain ⟨s, hs⟩ := Classical.not_forall.1 h12
    obtain ⟨hs7, hs⟩ := Classical.not_imp.1 hs
    have n1 : pm_it F s 1 ≠ s := fun h => hs (pm_mul h 12)
    have n2 : pm_it F s 2 ≠ s := fun h => hs (pm_mul h 6)
    have n3 : pm_it F s 3 ≠ s := fun h => hs (pm_mul h 4)
    have n4 : pm_it F s 4 ≠ s := fun h => hs (pm_mul h 3)
    have n6 : pm_it F s 6 ≠ s := fun h => hs (pm_mul h 2)
    by_cases h5 : pm_it F s 5 = s
    · refine ⟨10, by omega, by omega, fun x hx => ?_⟩
      show pm_it F x 10 = x
      obtain ⟨i, j, h1, h2, h3⟩ := rb_php 7 (fun i => if i < 5 then pm_it F s i else pm_it F x (i - 5)) (fun i _ => by
        show (if i < 5 then pm_it F s i else pm_it F x (i - 5)) < 7
        split
        · exact pm_lt hF hs7 _
        · exact pm_lt hF hx _)
      have h3' : (if i < 5 then pm_it F s i else pm_it F x (i - 5)) = (if j < 5 then pm_it F s j else pm_it F x (j - 5)) := h3
      by_cases i5 : i < 5
      · by_cases j5 : j < 5
        · rw [if_pos i5, if_pos j5] at h3'
          have q := pm_dif hF hi hs7 h1 h3'
          have : j - i = 1 ∨ j - i = 2 ∨ j - i = 3 ∨ j - i = 4 := by omega
          rcases this with e | e | e | e <;> rw [e] at q
          · exact absurd q n1
          · exact absurd q n2
          · exact absurd q n3
          · exact absurd q n4
        · rw [if_pos i5, if_neg j5] at h3'
          have e1 : pm_it F (pm_it F x (j - 5)) 5 = pm_it F x (j - 5) := by
            rw [← h3', ← pm_add, show i + 5 = 5 + i by omega, pm_add, h5]
          rw [← pm_add, show j - 5 + 5 = 5 + (j - 5) by omega, pm_add] at e1
          exact pm_mul (pm_inj hF hi (pm_lt hF hx 5) hx (j - 5) e1) 2
      · have j5 : ¬ j < 5 := by omega
        rw [if_neg i5, if_neg j5] at h3'
        have q := pm_dif hF hi hx (show i - 5 < j - 5 by omega) h3'
        have : j - 5 - (i - 5) = 1 ∨ j - 5 - (i - 5) = 2 := by omega
        rcases this with e | e <;> rw [e] at q
        · exact pm_mul q 10
        · exact pm_mul q 5
    · refine ⟨7, by omega, by omega, fun x hx => ?_⟩
      show pm_it F x 7 = x
      obtain ⟨i, j, h1, h2, h3⟩ := rb_php 7 (fun i => pm_it F s i) (fun i _ => pm_lt hF hs7 i)
      have h7 : pm_it F s 7 = s := by
        have q := pm_dif hF hi hs7 h1 h3
        have : j - i = 1 ∨ j - i = 2 ∨ j - i = 3 ∨ j - i = 4 ∨ j - i = 5 ∨ j - i = 6 ∨ j - i = 7 := by omega
        rcases this with e | e | e | e | e | e | e <;> rw [e] at q
        · exact absurd q n1
        · exact absurd q n2
        · exact absurd q n3
        · exact absurd q n4
        · exact absurd q h5
        · exact absurd q n6
        · exact q
      obtain ⟨i, j, h1, h2, h3⟩ := rb_php 7 (fun i => if i < 7 then pm_it F s i else x) (fun i _ => by
        show (if i < 7 then pm_it F s i else x) < 7
        split
        · exact pm_lt hF hs7 _
        · exact hx)
      have h3' : (if i < 7 then pm_it F s i else x) = (if j < 7 then pm_it F s j else x) := h3
      rw [if_pos (show i < 7 by omega)] at h3'
      by_cases j7 : j < 7
      · rw [if_pos j7] at h3'
        have q := pm_dif hF hi hs7 h1 h3'
        have : j - i = 1 ∨ j - i = 2 ∨ j - i = 3 ∨ j - i = 4 ∨ j - i = 5 ∨ j - i = 6 := by omega
        rcases this with e | e | e | e | e | e <;> rw [e] at q
        · exact absurd q n1
        · exact absurd q n2
        · exact absurd q n3
        · exact absurd q n4
        · exact absurd q h5
        · exact absurd q n6
      · rw [if_neg j7] at h3'
        rw [← h3', ← pm_add, show i + 7 = 7 + i by omega, pm_add, h7]
end RBPM
def sp_bk (n : Nat) (ft : Nat → Nat) (fl k : Nat) : Prop := ∀ s, s < n → sp_pb n ft fl s k = s
theorem sp_rounds {n : Nat} {ft : Nat → Nat} {fl : Nat} (hn : n ≤ 7) (h3 : 3 ≤ n) : ∃ K, 1 ≤ K ∧ K ≤ 12 ∧ sp_bk n ft fl K ∧ ∀ y, 1 ≤ y → y < K → ¬ sp_bk n ft fl y := by
  obtain ⟨k, h1, h2, h⟩ := pm_main (F := fun s => if s < n then sp_fo n ft s fl else s) (fun s hs => by
    by_cases h : s < n
    · simp only [if_pos h]
      have := sp_fo_lt (ft := ft) (show n < 8 by omega) h fl
      omega
    · simp only [if_neg h]; exact hs) (fun s s' hs hs' e => by
    by_cases h : s < n
    · simp only [if_pos h] at e
      by_cases h' : s' < n
      · simp only [if_pos h'] at e
        have q := sp_gs_fo (ft := ft) (c := fun p => p) (s := s) (show n < 8 by omega) h3 fl
        rw [e, sp_gs_fo (by omega) h3] at q
        exact q.symm
      · simp only [if_neg h'] at e
        have := sp_fo_lt (ft := ft) (show n < 8 by omega) h fl
        omega
    · simp only [if_neg h] at e
      by_cases h' : s' < n
      · simp only [if_pos h'] at e
        have := sp_fo_lt (ft := ft) (show n < 8 by omega) h' fl
        omega
      · simp only [if_neg h'] at e; exact e)
  have hb : sp_bk n ft fl k := by
    intro s hs
    have this := h s (by omega)
    have key : ∀ j, sp_pb n ft fl s j = rb_fo (fun _ a => if a < n then sp_fo n ft a fl else a) s j := by
      intro j
      induction j with
      | zero => rfl
      | succ j ih =>
        show sp_fo n ft (sp_pb n ft fl s j) fl = if rb_fo (fun _ a => if a < n then sp_fo n ft a fl else a) s j < n then sp_fo n ft (rb_fo (fun _ a => if a < n then sp_fo n ft a fl else a) s j) fl else rb_fo (fun _ a => if a < n then sp_fo n ft a fl else a) s j
        rw [← ih, if_pos (sp_pb_lt (by omega) hs j)]
    rw [key]
    exact this
  have least : ∀ r k, 1 ≤ k → k ≤ r → sp_bk n ft fl k → ∃ K, 1 ≤ K ∧ K ≤ r ∧ sp_bk n ft fl K ∧ ∀ y, 1 ≤ y → y < K → ¬ sp_bk n ft fl y := by
    intro r
    induction r with
    | zero => intro k a b; omega
    | succ r ih =>
      intro k a b c
      by_cases h : ∃ y, 1 ≤ y ∧ y < k ∧ sp_bk n ft fl y
      · obtain ⟨y, y1, y2, y3⟩ := h
        obtain ⟨K, c1, c2, c3, c4⟩ := ih y y1 (by omega) y3
        exact ⟨K, c1, by omega, c3, c4⟩
      · exact ⟨k, a, b, c, fun y y1 y2 y3 => h ⟨y, y1, y2, y3⟩⟩
  exact least 12 k h1 h2 hb
section RBRO
variable {n fc j : Nat} {fl : Nat → Nat} {ft : Nat → Nat → Nat} {σ τ : rb_St}
theorem sx_allBack (F : RFig fc fl ft σ τ) (hj : j < fc) (h15 : σ.1 15 2 = nI n) (hn : n ≤ 7) {k : Nat} (hk : k ≤ 100) : (sp_bk n (ft j) (fl j) k → xf_RP_allBackBehind (256 + 2 * j) (nI k) σ = some 1) ∧ (¬ sp_bk n (ft j) (fl j) k → xf_RP_allBackBehind (256 + 2 * j) (nI k) σ = some 0) := by
  have key : ∀ (f s : Nat), s ≤ n → n - s < f → (∀ i, i < s → sp_pb n (ft j) (fl j) i k = i) → (sp_bk n (ft j) (fl j) k → xl_RP_allBackBehind_2 (256 + 2 * j) (nI k) σ f (nI s) = some 1) ∧ (¬ sp_bk n (ft j) (fl j) k → xl_RP_allBackBehind_2 (256 + 2 * j) (nI k) σ f (nI s) = some 0) := by
    intro f
    induction f with
    | zero => intro s _ hf; omega
    | succ f ih =>
      intro s hs hf hb
      have e0 : xl_RP_allBackBehind_2 (256 + 2 * j) (nI k) σ (f + 1) (nI s) = if (σ.1 15 2) ≤ nI s then some 1 else rb_b1 (xf_RP_placeBehind (256 + 2 * j) (nI s) (nI k) σ) fun r2 => if r2 = nI s then xl_RP_allBackBehind_2 (256 + 2 * j) (nI k) σ f (nI s + 1) else some 0 := rfl
      by_cases es : s = n
      · subst es
        rw [e0, h15, if_pos (nI_le (Nat.le_refl _) (by omega))]
        exact ⟨fun _ => rfl, fun q => absurd hb q⟩
      · have hsn : s < n := by omega
        have lp := sp_pb_lt (ft := ft j) (fl := fl j) (show n < 8 by omega) hsn k
        rw [e0, h15, if_neg (nI_ge hsn (by omega)), sx_placeBehind F hj h15 hn hsn hk, rb_b1_some, nI_1]
        by_cases q : sp_pb n (ft j) (fl j) s k = s
        · rw [if_pos (by rw [q])]
          exact ih (s + 1) (by omega) (by omega) (fun i hi => by
            by_cases e : i = s
            · rw [e]; exact q
            · exact hb i (by omega))
        · rw [if_neg (fun w => q ((nI_eq (by omega) (by omega)).mp w))]
          exact ⟨fun w => absurd (w s hsn) q, fun _ => rfl⟩
  obtain ⟨a, b⟩ := key rb_FU 0 (by omega) (by unfold rb_FU; omega) (fun i hi => by omega)
  have z : xf_RP_allBackBehind (256 + 2 * j) (nI k) σ = rb_b1 (xl_RP_allBackBehind_2 (256 + 2 * j) (nI k) σ rb_FU (nI 0)) fun t5 => if t5 = 0 then some 0 else some 1 := rfl
  rw [z]
  exact ⟨fun q => by rw [a q, rb_b1_some, if_neg (by decide)], fun q => by rw [b q, rb_b1_some, if_pos rfl]⟩
theorem sx_rounds (F : RFig fc fl ft σ τ) (hj : j < fc) (h15 : σ.1 15 2 = nI n) (hn : n ≤ 7) {K : Nat} (k1 : 1 ≤ K) (k2 : K ≤ 12) (k3 : sp_bk n (ft j) (fl j) K) (k4 : ∀ y, 1 ≤ y → y < K → ¬ sp_bk n (ft j) (fl j) y) : (rb_b2 (xl_RP_rounds_19 (nI j) σ rb_FU 1) fun t8 y9 => if t8 = 0 then some y9 else some 12) = some (nI K) := by
  have hf6 := F.1
  have key : ∀ (f x : Nat), x ≤ K → 12 - x < f → 1 ≤ x → (rb_b2 (xl_RP_rounds_19 (nI j) σ f (nI x)) fun t8 y9 => if t8 = 0 then some y9 else some 12) = some (nI K) := by
    intro f
    induction f with
    | zero => intro x _ hf; omega
    | succ f ih =>
      intro x hx hf h1
      have e0 : xl_RP_rounds_19 (nI j) σ (f + 1) (nI x) = if 12 ≤ nI x then some (1, nI x) else if rb_ib (nI j) 6 then rb_b1 (xf_RP_allBackBehind (256 + 2 * (nI j).toNatClampNeg) (nI x) σ) fun r5 => if r5 = 0 then xl_RP_rounds_19 (nI j) σ f (nI x + 1) else some (0, nI x) else none := rfl
      by_cases e : 12 ≤ x
      · have : K = 12 := by omega
        subst this
        rw [e0, if_pos (show (12 : Int32) ≤ nI x from nI_le (a := 12) e (by omega)), rb_b2_some, if_neg (by decide)]
        rfl
      · obtain ⟨a, b⟩ := sx_allBack F hj h15 hn (k := x) (by omega)
        rw [e0, if_neg (show ¬ (12 : Int32) ≤ nI x from nI_ge (b := 12) (by omega) (by decide)), rb_ib_nI (by omega) (by decide), if_pos rfl, nI_clamp (by omega)]
        by_cases q : sp_bk n (ft j) (fl j) x
        · have hK : K = x := by
            by_cases h : x < K
            · exact absurd q (k4 x h1 h)
            · omega
          rw [a q, rb_b1_some, if_neg (show ¬ (1 : Int32) = 0 by decide), rb_b2_some, if_pos rfl, hK]
        · rw [b q, rb_b1_some, if_pos rfl, nI_1]
          have : x ≠ K := fun w => q (by rw [w]; exact k3)
          exact ih (x + 1) (by omega) (by omega) (by omega)
  exact key rb_FU 1 k1 (by unfold rb_FU; omega) (by omega)
theorem sm_36 {c : Nat → Nat} {x1 x2 : Int32} (h22 : τ.1 0 22 = nI n) (hn : n ≤ 7) (hc : ∀ p, p < n → c p < n) (hs : rm_sp n c τ) : ((∀ p, p < n → c p = p) → xl_M_rounds_36 x1 x2 τ rb_FU 1 0 = some 1) ∧ ((¬ ∀ p, p < n → c p = p) → xl_M_rounds_36 x1 x2 τ rb_FU 1 0 = some 0) := by
  have e0 : ∀ f x t, xl_M_rounds_36 x1 x2 τ (f + 1) x t = if (τ.1 0 22) ≤ t then some x else if x = 0 then xl_M_rounds_36 x1 x2 τ f 0 (t + 1) else if rb_ib t 7 then if (τ.1 23 t.toNatClampNeg) = t then xl_M_rounds_36 x1 x2 τ f 1 (t + 1) else xl_M_rounds_36 x1 x2 τ f 0 (t + 1) else none := fun f x t => rfl
  have k0 : ∀ (f t : Nat), t ≤ n → n - t < f → xl_M_rounds_36 x1 x2 τ f 0 (nI t) = some 0 := by
    intro f
    induction f with
    | zero => intro t _ hf; omega
    | succ f ih =>
      intro t ht hf
      rw [e0, h22]
      by_cases e : t = n
      · rw [e, if_pos (nI_le (Nat.le_refl _) (by omega))]
      · rw [if_neg (nI_ge (by omega) (by omega)), if_pos rfl, nI_1]
        exact ih (t + 1) (by omega) (by omega)
  have k1 : ∀ (f t : Nat), t ≤ n → n - t < f → (∀ i, i < t → c i = i) → ((∀ p, p < n → c p = p) → xl_M_rounds_36 x1 x2 τ f 1 (nI t) = some 1) ∧ ((¬ ∀ p, p < n → c p = p) → xl_M_rounds_36 x1 x2 τ f 1 (nI t) = some 0) := by
    intro f
    induction f with
    | zero => intro t _ hf; omega
    | succ f ih =>
      intro t ht hf hb
      rw [e0, h22]
      by_cases e : t = n
      · subst e
        rw [if_pos (nI_le (Nat.le_refl _) (by omega))]
        exact ⟨fun _ => rfl, fun q => absurd hb q⟩
      · have htn : t < n := by omega
        have := hc t htn
        rw [if_neg (nI_ge htn (by omega)), if_neg (show ¬ (1 : Int32) = 0 by decide), rb_ib_nI (by omega) (by decide), if_pos rfl, nI_clamp (by omega), hs t htn, nI_1]
        by_cases q : c t = t
        · rw [if_pos (by rw [q])]
          exact ih (t + 1) (by omega) (by omega) (fun i hi => by
            by_cases e : i = t
            · rw [e]; exact q
            · exact hb i (by omega))
        · rw [if_neg (fun w => q ((nI_eq (by omega) (by omega)).mp w))]
          exact ⟨fun w => absurd (w t htn) q, fun _ => k0 f (t + 1) (by omega) (by omega)⟩
  exact k1 rb_FU 0 (by omega) (by unfold rb_FU; omega) (fun i hi => by omega)
theorem sp_bk_gn {ft : Nat → Nat} {fl k : Nat} (hn : n ≤ 7) (h3 : 3 ≤ n) : (∀ p, p < n → sp_gn n ft fl (fun p => p) k p = p) ↔ sp_bk n ft fl k := by
  constructor
  · intro h s hs
    have q := sp_gn_pb (ft := ft) (c := fun p => p) (fl := fl) (s := s) (show n < 8 by omega) h3 k
    rw [h _ (sp_pb_lt (by omega) hs k)] at q
    exact q
  · intro h s hs
    have q := sp_gn_pb (ft := ft) (c := fun p => p) (fl := fl) (s := s) (show n < 8 by omega) h3 k
    rw [h s hs] at q
    exact q
theorem sm_rounds (hj : j < fc) (hn : n ≤ 7) (h3 : 3 ≤ n) {K : Nat} (k2 : K ≤ 12) (k3 : sp_bk n (ft j) (fl j) K) (k4 : ∀ y, 1 ≤ y → y < K → ¬ sp_bk n (ft j) (fl j) y) : ∀ (f t : Nat) (τ : rb_St), RFig fc fl ft σ τ → t < K → K + 1 - t < f → τ.1 0 22 = nI n → rm_sp n (sp_gn n (ft j) (fl j) (fun p => p) t) τ → ∃ τ', xl_M_rounds_19 (nI j) f (nI t) 0 τ = some (nI K, τ') ∧ rb_fr sc_23 τ τ' := by
  intro f
  induction f with
  | zero => intro t τ _ _ hf; omega
  | succ f ih =>
    intro t τ F ht hf h22 hs
    obtain ⟨s, a1, a2, a3⟩ := sm_goFigure F hj hn h3 (sp_gn_wf (rb_idw (show n < 8 by omega)) t) h22 hs
    have h22' : s.1 0 22 = nI n := by rw [a3.1 0 22 (by unfold sc_23; omega)]; exact h22
    have a2' : rm_sp n (sp_gn n (ft j) (fl j) (fun p => p) (t + 1)) s := a2
    obtain ⟨b1, b2⟩ := sm_36 (x1 := nI j) (x2 := nI t + 1) h22' hn (sp_gn_wf (ft := ft j) (fl := fl j) (rb_idw (show n < 8 by omega)) (t + 1)).2.1 a2'
    have e0 : xl_M_rounds_19 (nI j) (f + 1) (nI t) 0 τ = rb_b1 (xf_M_goFigure (nI j) τ) fun s5 => rb_b1 (xl_M_rounds_36 (nI j) (nI t + 1) s5 rb_FU 1 0) fun y11 => xl_M_rounds_19 (nI j) f (nI t + 1) y11 s5 := rfl
    rw [e0, a1, rb_b1_some]
    by_cases q : sp_bk n (ft j) (fl j) (t + 1)
    · have hK : K = t + 1 := by
        by_cases h : t + 1 < K
        · exact absurd q (k4 (t + 1) (by omega) h)
        · omega
      obtain ⟨f, rfl⟩ : ∃ q, f = q + 1 := ⟨f - 1, by omega⟩
      rw [b1 ((sp_bk_gn hn h3).2 q), rb_b1_some, nI_1]
      refine ⟨s, ?_, a3⟩
      show (if (1 : Int32) = 0 then _ else some (nI (t + 1), s)) = _
      rw [if_neg (by decide), hK]
    · have : K ≠ t + 1 := fun w => q (by rw [← w]; exact k3)
      obtain ⟨τ', c1, c2⟩ := ih (t + 1) s (RFig_fr (rb_fr.rf (ch := sc_23) (σ := σ)) a3 (fun c i q => by unfold sc_23 at q; omega) (fun c i q => by unfold sc_23 at q; omega) F) (by omega) (by omega) h22' a2'
      rw [b2 (fun w => q ((sp_bk_gn hn h3).1 w)), rb_b1_some, nI_1, c1]
      exact ⟨τ', rfl, a3.tr c2⟩
end RBRO
theorem rb_ops_rounds : op_rounds Rel := by
  intro σ τ R p
  obtain ⟨n, ru, tr, lc, ho, La, wh, ln, m, cr, co, be, lg, D⟩ := Rel_D R
  obtain ⟨⟨gw1, -, gx1, gm1, -, -⟩, ⟨⟨fc, fl, ft, F⟩, b⟩, A, P, px1, -, pm1, -⟩ := id D
  have h7 := gw1.1
  have hf6 := F.1
  unfold xf_RP_rounds xf_M_rounds
  rw [rb_hasG h7 gx1.1, sm_isF (fc := fc) h7 gm1.1]
  by_cases h : n = 0
  · exact ⟨-1, τ, by rw [if_pos h, if_pos rfl], by rw [if_pos h, if_pos rfl], R⟩
  · have h3 := gw1.2.2.2.2 (by omega)
    rw [if_neg h, if_neg (show ¬ (1 : Int32) = 0 by decide), if_neg h]
    rcases rb_isF F.1 F.2.1 F.2.2.1 p with ⟨j, hj, rfl, e1, e2⟩ | ⟨e1, e2⟩
    · obtain ⟨K, k1, k2, k3, k4⟩ := sp_rounds (ft := ft j) (fl := fl j) h7 h3
      obtain ⟨τ1, a1, a2, a3⟩ := sm_start1 (c := fun p => p) (x := 0) h7 rb_FU 0 τ (by omega) (by unfold rb_FU; omega) gm1.1 (fun p _ => by rw [if_pos rfl]) (fun p hp => by omega)
      have a1' : xl_M_startAt_2 0 rb_FU 0 τ = some τ1 := a1
      have h22' : τ1.1 0 22 = nI n := by rw [a3.1 0 22 (by unfold sc_23; omega)]; exact gm1.1
      have F1 := RFig_fr (rb_fr.rf (ch := sc_23) (σ := σ)) a3 (fun c i q => by unfold sc_23 at q; omega) (fun c i q => by unfold sc_23 at q; omega) F
      obtain ⟨τ2, b1, b2⟩ := sm_rounds hj h7 h3 k2 k3 k4 rb_FU 0 τ1 F1 (by omega) (by unfold rb_FU; omega) h22' a2
      have b1' : xl_M_rounds_19 (nI j) rb_FU 0 0 τ1 = some (nI K, τ2) := b1
      refine ⟨nI K, τ2, ?_, ?_, Rel_fr rb_fr.rf ((a3.tr b2).mo scM_23) R⟩
      · rw [e1, if_neg (show ¬ (1 : Int32) = 0 by decide), sx_rounds F hj gx1.1 h7 k1 k2 k3 k4]
      · unfold xf_M_startAt
        rw [e2, if_neg (show ¬ (1 : Int32) = 0 by decide), if_neg (show ¬ (1 : Int32) = 0 by decide), a1', rb_b1_some, rb_b1_some, b1', rb_b2_some]
    · exact ⟨-1, τ, by rw [e1, if_pos rfl], by rw [e2, if_pos (show (0 : Int32) = 0 from rfl), if_pos rfl], R⟩
