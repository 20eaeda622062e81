/-! PLACES: the next one, who touches whom, the latest crossing near a place, layers -/
def sp_nx (n p : Nat) : Nat := if p + 1 < n then p + 1 else 0
theorem rb_m1 (x : Int32) : x + (-1) = x - 1 := (Int32.sub_eq_add_neg x 1).symm
def sp_tb (n p q : Nat) : Bool := p == q || sp_nx n p == q || sp_nx n q == p
def sp_nr (n p : Nat) : Nat := (2 ^ (if p = 0 then n - 1 else p - 1) ||| 2 ^ p) ||| 2 ^ (sp_nx n p)
theorem sp_nr_lt : ∀ n, n < 8 → ∀ p, p < n → sp_nr n p < 256 := by decide +kernel
theorem sp_nr_bit : ∀ n, n < 8 → ∀ p, p < n → ∀ q, q < n → (sp_nr n p).testBit q = sp_tb n q p := by decide +kernel
theorem sp_nx_lt : ∀ n, n < 8 → ∀ p, p < n → sp_nx n p < n := by decide +kernel
theorem sp_nx_mod : ∀ n, n < 8 → ∀ p, p < n → (p + 1) % n = sp_nx n p := by decide +kernel
theorem rb_mx_nI {a b : Nat} (ha : a < 2 ^ 31) (hb : b < 2 ^ 31) : rb_mx (nI a) (nI b) = nI (max a b) := by
  unfold rb_mx
  by_cases h : a < b
  · rw [if_pos (nI_lt h hb)]
    congr 1
    omega
  · rw [if_neg (nI_nlt (by omega) ha)]
    congr 1
    omega
section RBQ
variable {n m k : Nat} {cr : Nat → Nat → Nat} {σ : rb_St}
theorem sx_nextPlace (hn : n < 8) (h : σ.1 k 0 = nI n) {p : Nat} (hp : p < n) : xf_Pole_nextPlace k (nI p) σ = nI (sp_nx n p) := by
  unfold xf_Pole_nextPlace sp_nx
  rw [h, nI_1]
  by_cases hc : p + 1 < n
  · rw [if_neg (nI_ge hc (by omega)), if_pos hc]
  · rw [if_pos (nI_le (by omega) (by omega)), if_neg hc]; rfl
theorem sm_nextPlace (hn : n < 8) (h : σ.1 0 22 = nI n) {p : Nat} (hp : p < n) : xf_M_nextPlace (nI p) σ = some (nI (sp_nx n p)) := by
  unfold xf_M_nextPlace
  rw [h, if_neg (nI_ne0 (by omega) (by omega)), nI_1, pk_rem (by omega) (by omega) (by omega), sp_nx_mod n hn p hp]
theorem sm_touch (hn : n < 8) (h : σ.1 0 22 = nI n) {p q : Nat} (hp : p < n) (hq : q < n) : xf_M_touch (nI p) (nI q) σ = some (if sp_tb n p q = true then 1 else 0) := by
  have l1 := sp_nx_lt n hn p hp
  have l2 := sp_nx_lt n hn q hq
  unfold xf_M_touch sp_tb
  rw [sm_nextPlace hn h hp, sm_nextPlace hn h hq, rb_b1_some, rb_b1_some]
  by_cases e1 : p = q
  · rw [if_pos (by rw [e1]), if_pos (by simp [e1])]
  · rw [if_neg (fun e => e1 ((nI_eq (by omega) (by omega)).mp e))]
    by_cases e2 : sp_nx n p = q
    · rw [if_pos (by rw [e2]), if_pos (by simp [e2])]
    · rw [if_neg (fun e => e2 ((nI_eq (by omega) (by omega)).mp e))]
      by_cases e3 : sp_nx n q = p
      · rw [if_pos (by rw [e3]), if_pos (by simp [e3])]
      · rw [if_neg (fun e => e3 ((nI_eq (by omega) (by omega)).mp e)), if_neg (by simp [e1, e2, e3])]
theorem sx_nearOf (hn : n < 8) (h : σ.1 k 0 = nI n) {p : Nat} (hp : p < n) : xf_Pole_nearOf k (nI p) σ = nI (sp_nr n p) := by
  have l1 := sp_nx_lt n hn p hp
  have key : ∀ v : Nat, v < 32 → xj_Pole_nearOf_16 k (nI p) (nI v) σ = nI ((2 ^ v ||| 2 ^ p) ||| 2 ^ (sp_nx n p)) := by
    intro v hv
    unfold xj_Pole_nearOf_16
    rw [sx_nextPlace hn h hp, rb_1l hv, rb_1l (by omega), rb_1l (by omega), rb_or, rb_or]
  unfold xf_Pole_nearOf sp_nr
  by_cases h0 : p = 0
  · subst h0
    rw [if_pos (by decide), if_pos rfl, h]
    have e : nI n - 1 = nI (n - 1) := by
      obtain ⟨j, rfl⟩ : ∃ j, n = j + 1 := ⟨n - 1, by omega⟩
      exact nI_pred j
    rw [e]
    exact key (n - 1) (by omega)
  · rw [if_neg (nI_nle (by omega) (by omega)), if_neg h0]
    have e : nI p - 1 = nI (p - 1) := by
      obtain ⟨j, rfl⟩ : ∃ j, p = j + 1 := ⟨p - 1, by omega⟩
      exact nI_pred j
    rw [e]
    exact key (p - 1) (by omega)
/-- the latest crossing that touches a place: its index and 1, or 0 -/
def sp_la (n : Nat) (cr : Nat → Nat → Nat) (p : Nat) : Nat → Nat
  | 0 => 0
  | i + 1 => if sp_tb n (cr i 0 / 2) p = true then i + 1 else sp_la n cr p i
def sp_un (n : Nat) (cr : Nat → Nat → Nat) (l m : Nat) : Nat := if sp_la n cr (l / 2) m = 0 then 0 else if cr (sp_la n cr (l / 2) m - 1) 0 = l ^^^ 1 then sp_la n cr (l / 2) m else 0
def sp_ly (n : Nat) (cr : Nat → Nat → Nat) (p m : Nat) : Nat := rb_fo (fun i a => if sp_tb n (cr i 0 / 2) p = true then max a (cr i 4) else a) 0 m
theorem sp_la_le (n : Nat) (cr : Nat → Nat → Nat) (p : Nat) : ∀ m, sp_la n cr p m ≤ m := by
  intro m
  induction m with
  | zero => exact Nat.le_refl 0
  | succ m ih =>
    show (if sp_tb n (cr m 0 / 2) p = true then m + 1 else sp_la n cr p m) ≤ m + 1
    by_cases h : sp_tb n (cr m 0 / 2) p = true
    · rw [if_pos h]; exact Nat.le_refl _
    · rw [if_neg h]; omega
theorem sp_ly_lt (W : rb_wfc n m cr) (p : Nat) : ∀ j, j ≤ m → sp_ly n cr p j < 64 := by
  intro j
  induction j with
  | zero => intro _; exact (by decide : (0 : Nat) < 64)
  | succ j ih =>
    intro hj
    have h1 := ih (by omega)
    have h2 := (W.2.2 j (by omega)).2.2.2.2
    show (if sp_tb n (cr j 0 / 2) p = true then max (sp_ly n cr p j) (cr j 4) else sp_ly n cr p j) < 64
    by_cases h : sp_tb n (cr j 0 / 2) p = true
    · rw [if_pos h]; omega
    · rw [if_neg h]; exact h1
theorem rb_nearbit (W : rb_wfc n m cr) {p i : Nat} (hp : p < n) (hi : i < m) : ((nI (sp_nr n p) >>> (nI (cr i 0 / 2) &&& 31)) &&& 1 = 0) ↔ ¬ sp_tb n (cr i 0 / 2) p = true := by
  have w1 := W.1
  have w2 := (W.2.2 i hi).1
  have hl := sp_nr_lt n (by omega) p hp
  rw [rb_bit0 (by omega) (by omega), sp_nr_bit n (by omega) p hp _ (by omega)]
  exact Bool.eq_false_iff
theorem sx_undo1 (W : rb_wfc n m cr) (h : rx_cr k m cr σ) {p : Nat} (hp : p < n) (x : Int32) : ∀ (j f : Nat), j ≤ m → j < f → xl_Pole_undoneBy_15 k x (nI (sp_nr n p)) σ f (nI j - 1) = if sp_la n cr p j = 0 then some (1, nI 0 - 1) else some (0, nI (sp_la n cr p j - 1)) := by
  intro j
  induction j with
  | zero =>
    intro f _ hf
    obtain ⟨f, rfl⟩ : ∃ q, f = q + 1 := ⟨f - 1, by omega⟩
    show (if nI 0 - 1 < 0 then some (1, nI 0 - 1) else _) = (if sp_la n cr p 0 = 0 then some (1, nI 0 - 1) else _)
    rw [if_pos (by decide), if_pos (show sp_la n cr p 0 = 0 from rfl)]
  | succ j ih =>
    intro f hj hf
    obtain ⟨f, rfl⟩ : ∃ q, f = q + 1 := ⟨f - 1, by omega⟩
    have hm := W.2.1
    obtain ⟨f0, f1, f2, f3, f4, f5, f6⟩ := rx_f W h (show j < m by omega)
    rw [nI_pred]
    show (if nI j < 0 then _ else if rb_ib (nI j) 48 then if ((nI (sp_nr n p) >>> ((xf_Pole_placeIn (σ.1 (k + 3) (nI j).toNatClampNeg) σ) &&& 31)) &&& 1) = 0 then xl_Pole_undoneBy_15 k x (nI (sp_nr n p)) σ f (nI j + (-1)) else some (0, nI j) else none) = (if (if sp_tb n (cr j 0 / 2) p = true then j + 1 else sp_la n cr p j) = 0 then _ else some (0, nI ((if sp_tb n (cr j 0 / 2) p = true then j + 1 else sp_la n cr p j) - 1)))
    rw [if_neg (nI_pos (by omega)), f0, if_pos rfl, f6]
    by_cases hc : sp_tb n (cr j 0 / 2) p = true
    · rw [if_neg (fun e => (rb_nearbit W hp (show j < m by omega)).mp e hc), if_pos hc, if_neg (by omega)]
      rfl
    · rw [if_pos ((rb_nearbit W hp (show j < m by omega)).mpr hc), if_neg hc]
      rw [rb_m1]
      exact ih f (by omega) (by omega)
theorem sx_undoneBy (W : rb_wfc n m cr) (h : rx_cr k m cr σ) (hpl : σ.1 k 0 = nI n) {l : Nat} (hl : l < 2 * n) : xf_Pole_undoneBy k (nI l) σ = some (nI (sp_un n cr l m) - 1) := by
  have w1 := W.1
  have hm := W.2.1
  have e1 : nI l >>> ((1 : Int32) &&& 31) = nI (l / 2) := rb_shr (s := 1) (by omega) (by decide)
  have e2 : nI l ^^^ (1 : Int32) = nI (l ^^^ 1) := rb_xr l 1
  have hx : l ^^^ 1 < 16 := Nat.xor_lt_two_pow (n := 4) (by omega) (by decide)
  have hle := sp_la_le n cr (l / 2) m
  unfold xf_Pole_undoneBy
  rw [e1, sx_nearOf (by omega) hpl (by omega), rb_lt_eq, h.1, sx_undo1 W h (by omega) (nI l) m rb_FU (Nat.le_refl m) (by unfold rb_FU; omega), e2]
  unfold sp_un
  by_cases h0 : sp_la n cr (l / 2) m = 0
  · rw [if_pos h0, if_pos h0, rb_b2_some, if_neg (by decide)]
    rfl
  · obtain ⟨f0, f1, f2, f3, f4, f5, f6⟩ := rx_f W h (show sp_la n cr (l / 2) m - 1 < m by omega)
    obtain ⟨a, _⟩ := W.2.2 (sp_la n cr (l / 2) m - 1) (by omega)
    rw [if_neg h0, if_neg h0, rb_b2_some, if_pos rfl, f0, if_pos rfl, f1]
    by_cases hc : cr (sp_la n cr (l / 2) m - 1) 0 = l ^^^ 1
    · rw [if_pos (by rw [hc]), if_pos hc]
      obtain ⟨j, hj⟩ : ∃ j, sp_la n cr (l / 2) m = j + 1 := ⟨sp_la n cr (l / 2) m - 1, by omega⟩
      rw [hj, nI_pred]
      rfl
    · rw [if_neg (fun e => hc ((nI_eq (by omega) (by omega)).mp e)), if_neg hc]
      rfl
theorem sm_last1 (W : rb_wfc n m cr) (h : rm_cr m cr (σ.1 17)) (hpl : σ.1 0 22 = nI n) {p : Nat} (hp : p < n) : ∀ (j f : Nat), j ≤ m → j < f → xl_M_lastAt_10 (nI p) σ f (nI j - 1) = if sp_la n cr p j = 0 then some (1, nI 0 - 1) else some (0, nI (sp_la n cr p j - 1)) := by
  intro j
  induction j with
  | zero =>
    intro f _ hf
    obtain ⟨f, rfl⟩ : ∃ q, f = q + 1 := ⟨f - 1, by omega⟩
    show (if nI 0 - 1 < 0 then some (1, nI 0 - 1) else _) = (if sp_la n cr p 0 = 0 then some (1, nI 0 - 1) else _)
    rw [if_pos (by decide), if_pos (show sp_la n cr p 0 = 0 from rfl)]
  | succ j ih =>
    intro f hj hf
    obtain ⟨f, rfl⟩ : ∃ q, f = q + 1 := ⟨f - 1, by omega⟩
    have w1 := W.1
    have hm := W.2.1
    obtain ⟨a, _⟩ := W.2.2 j (by omega)
    have e2 : nI (cr j 0) / (2 : Int32) = nI (cr j 0 / 2) := pk_div (d := 2) (by omega) (by decide) (by decide)
    rw [nI_pred]
    show (if nI j < 0 then _ else rb_b1 (xf_M_of (nI j) 0 σ) fun r2 => rb_b1 (xf_M_touch (r2 / 2) (nI p) σ) fun r4 => if r4 = 0 then xl_M_lastAt_10 (nI p) σ f (nI j + (-1)) else some (0, nI j)) = (if (if sp_tb n (cr j 0 / 2) p = true then j + 1 else sp_la n cr p j) = 0 then _ else some (0, nI ((if sp_tb n (cr j 0 / 2) p = true then j + 1 else sp_la n cr p j) - 1)))
    rw [if_neg (nI_pos (by omega)), rm_of (x := 0) h (show j < m by omega) 0 (by decide) rfl, rb_b1_some, e2, sm_touch (by omega) hpl (by omega) hp, rb_b1_some]
    by_cases hc : sp_tb n (cr j 0 / 2) p = true
    · rw [if_pos hc, if_neg (by decide), if_pos hc, if_neg (by omega)]
      rfl
    · rw [if_neg hc, if_pos rfl, if_neg hc]
      rw [rb_m1]
      exact ih f (by omega) (by omega)
theorem sm_undoes (W : rb_wfc n m cr) (h : rm_cr m cr (σ.1 17)) (hpl : σ.1 0 22 = nI n) {l : Nat} (hl : l < 2 * n) : xf_M_undoes (nI l) σ = some (nI (sp_un n cr l m) - 1) := by
  have w1 := W.1
  have hm := W.2.1
  have e1 : nI l / (2 : Int32) = nI (l / 2) := pk_div (d := 2) (by omega) (by decide) (by decide)
  have e2 : nI l ^^^ (1 : Int32) = nI (l ^^^ 1) := rb_xr l 1
  have hx : l ^^^ 1 < 16 := Nat.xor_lt_two_pow (n := 4) (by omega) (by decide)
  have hle := sp_la_le n cr (l / 2) m
  unfold xf_M_undoes xf_M_lastAt
  rw [e1, h.2.1, sm_last1 W h hpl (by omega) m rb_FU (Nat.le_refl m) (by unfold rb_FU; omega), e2]
  unfold sp_un
  by_cases h0 : sp_la n cr (l / 2) m = 0
  · rw [if_pos h0, if_pos h0, rb_b2_some, if_neg (by decide), rb_b1_some, if_pos rfl]
    rfl
  · obtain ⟨a, _⟩ := W.2.2 (sp_la n cr (l / 2) m - 1) (by omega)
    rw [if_neg h0, if_neg h0, rb_b2_some, if_pos rfl, rb_b1_some, if_neg (fun e => absurd (e ▸ nI_pos (n := sp_la n cr (l / 2) m - 1) (by omega)) (by decide)), rm_of (x := 0) h (show sp_la n cr (l / 2) m - 1 < m by omega) 0 (by decide) rfl, rb_b1_some]
    by_cases hc : cr (sp_la n cr (l / 2) m - 1) 0 = l ^^^ 1
    · rw [if_pos (by rw [hc]), if_pos hc]
      obtain ⟨j, hj⟩ : ∃ j, sp_la n cr (l / 2) m = j + 1 := ⟨sp_la n cr (l / 2) m - 1, by omega⟩
      rw [hj, nI_pred]
      rfl
    · rw [if_neg (fun e => hc ((nI_eq (by omega) (by omega)).mp e)), if_neg hc]
      rfl
end RBQ
