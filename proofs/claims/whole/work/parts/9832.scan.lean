/-! READING: signs, blanks, numbers -/
def tw (m : Nat) (t : Nat → Nat) : Prop := m ≤ 240 ∧ ∀ i, i < m → 0 < t i ∧ t i < 256
def sp_sg (t : Nat → Nat) (m a : Nat) : Int32 := if a < m then nI (t a) else -1
def sp_sr (t : Nat → Nat) : Nat → Nat → Nat
  | 0, a => a
  | r + 1, a => if t a = 32 then sp_sr t r (a + 1) else a
def sp_sk (t : Nat → Nat) (m a : Nat) : Nat := sp_sr t (m - a) a
def TX (c m : Nat) (t : Nat → Nat) (a : Nat) (σ : rb_St) : Prop := σ.1 1 1 = nI m ∧ (∀ i, i < m → σ.1 2 i = nI (t i)) ∧ σ.1 c 1 = nI a
def TM (m : Nat) (t : Nat → Nat) (a : Nat) (τ : rb_St) : Prop := τ.1 0 2 = nI m ∧ (∀ i, i < m → τ.1 1 i = nI (t i)) ∧ τ.1 0 3 = nI a
def scA (k : Nat) (c i : Nat) : Prop := c = k ∧ i = 1
def scB (c i : Nat) : Prop := c = 0 ∧ i = 3
theorem sp_sr_le (t : Nat → Nat) : ∀ r a, a ≤ sp_sr t r a ∧ sp_sr t r a ≤ a + r := by
  intro r
  induction r with
  | zero => intro a; exact ⟨Nat.le_refl a, Nat.le_refl a⟩
  | succ r ih =>
    intro a
    show a ≤ (if t a = 32 then sp_sr t r (a + 1) else a) ∧ (if t a = 32 then sp_sr t r (a + 1) else a) ≤ a + (r + 1)
    have := ih (a + 1)
    split <;> omega
theorem sp_sk_le {t : Nat → Nat} {m a : Nat} (h : a ≤ m) : a ≤ sp_sk t m a ∧ sp_sk t m a ≤ m := by
  have := sp_sr_le t (m - a) a
  unfold sp_sk
  omega
theorem sp_sr_nb (t : Nat → Nat) : ∀ r a, sp_sr t r a < a + r → t (sp_sr t r a) ≠ 32 := by
  intro r
  induction r with
  | zero => intro a h; exact absurd h (by show ¬ a < a + 0; omega)
  | succ r ih =>
    intro a
    show (if t a = 32 then sp_sr t r (a + 1) else a) < a + (r + 1) → t (if t a = 32 then sp_sr t r (a + 1) else a) ≠ 32
    by_cases h : t a = 32
    · rw [if_pos h]; intro q; exact ih (a + 1) (by omega)
    · rw [if_neg h]; intro _; exact h
theorem sp_sk_nb {t : Nat → Nat} {m a : Nat} (h : a ≤ m) (h2 : sp_sk t m a < m) : t (sp_sk t m a) ≠ 32 := sp_sr_nb t (m - a) a (by unfold sp_sk at h2; omega)
theorem sp_sk_id {t : Nat → Nat} {m a : Nat} (h : a < m → t a ≠ 32) : sp_sk t m a = a := by
  unfold sp_sk
  cases hr : m - a with
  | zero => rfl
  | succ r =>
    show (if t a = 32 then _ else a) = a
    rw [if_neg (h (by omega))]
theorem sp_sk_sk {t : Nat → Nat} {m a : Nat} (h : a ≤ m) : sp_sk t m (sp_sk t m a) = sp_sk t m a := sp_sk_id (fun h2 => sp_sk_nb h h2)
theorem sp_sk_b {t : Nat → Nat} {m a : Nat} (h : a < m) (hb : t a = 32) : sp_sk t m a = sp_sk t m (a + 1) := by
  unfold sp_sk
  rw [show m - a = (m - (a + 1)) + 1 by omega]
  show (if t a = 32 then _ else _) = _
  rw [if_pos hb]
section RBSC
variable {m a k : Nat} {t : Nat → Nat} {σ τ : rb_St}
theorem TX_fr {σ' : rb_St} {ch : Nat → Nat → Prop} (h : rb_fr ch σ σ') (hh : ∀ c i, ch c i → ¬ ((c = 1 ∧ i = 1) ∨ c = 2 ∨ (c = k ∧ i = 1))) (q : TX k m t a σ) : TX k m t a σ' := ⟨(h.1 _ _ (fun w => hh _ _ w (Or.inl ⟨rfl, rfl⟩))).trans q.1, fun i hi => (h.1 _ _ (fun w => hh _ _ w (Or.inr (Or.inl rfl)))).trans (q.2.1 i hi), (h.1 _ _ (fun w => hh _ _ w (Or.inr (Or.inr ⟨rfl, rfl⟩)))).trans q.2.2⟩
theorem TM_fr {τ' : rb_St} {ch : Nat → Nat → Prop} (h : rb_fr ch τ τ') (hh : ∀ c i, ch c i → ¬ ((c = 0 ∧ (i = 2 ∨ i = 3)) ∨ c = 1)) (q : TM m t a τ) : TM m t a τ' := ⟨(h.1 _ _ (fun w => hh _ _ w (by omega))).trans q.1, fun i hi => (h.1 _ _ (fun w => hh _ _ w (by omega))).trans (q.2.1 i hi), (h.1 _ _ (fun w => hh _ _ w (by omega))).trans q.2.2⟩
theorem TX_at {b : Nat} (hk : k ≠ 1 ∧ k ≠ 2) (q : TX k m t a σ) : TX k m t b (rb_sI σ k 1 (nI b)) := ⟨by rw [rb_sI_row _ _ _ _ _ (by omega)]; exact q.1, fun i hi => by rw [rb_sI_row _ _ _ _ _ (by omega)]; exact q.2.1 i hi, rb_sI_eq _ _ _ _⟩
theorem TM_at {b : Nat} (q : TM m t a τ) : TM m t b (rb_sI τ 0 3 (nI b)) := ⟨by rw [rb_sIg _ _ _ _ _ _ (by omega)]; exact q.1, fun i hi => by rw [rb_sIg _ _ _ _ _ _ (by omega)]; exact q.2.1 i hi, rb_sI_eq _ _ _ _⟩
/-- blanks, in the class -/
theorem sx_blank (hk : k ≠ 1 ∧ k ≠ 2) (W : tw m t) (L : Nat → rb_St → Option rb_St) (hL : ∀ f σ, L (f + 1) σ = if (σ.1 1 1) ≤ (σ.1 k 1) then some σ else if rb_ib (σ.1 k 1) 240 then if (σ.1 2 (σ.1 k 1).toNatClampNeg) = 32 then rb_lt (rb_sI σ k 1 ((σ.1 k 1) + 1)) (fun s4 => L f s4) else some σ else none) : ∀ (r a f : Nat) (σ : rb_St), a + r = m → r < f → TX k m t a σ → ∃ σ', L f σ = some σ' ∧ TX k m t (sp_sk t m a) σ' ∧ rb_fr (scA k) σ σ' := by
  have hm := W.1
  intro r
  induction r with
  | zero =>
    intro a f σ ha hf q
    obtain ⟨f, rfl⟩ : ∃ q, f = q + 1 := ⟨f - 1, by omega⟩
    refine ⟨σ, ?_, ?_, rb_fr.rf⟩
    · rw [hL, q.1, q.2.2, if_pos (nI_le (by omega) (by omega))]
    · rw [sp_sk_id (fun h => by omega)]; exact q
  | succ r ih =>
    intro a f σ ha hf q
    obtain ⟨f, rfl⟩ : ∃ q, f = q + 1 := ⟨f - 1, by omega⟩
    have hb := W.2 a (by omega)
    rw [hL, q.1, q.2.2, if_neg (nI_ge (by omega) (by omega)), rb_ib_nI (by omega) (by decide), if_pos rfl, nI_clamp (by omega), q.2.1 a (by omega), nI_1, rb_lt_eq]
    by_cases h : t a = 32
    · rw [if_pos (by rw [h]; rfl), sp_sk_b (by omega) h]
      obtain ⟨σ', b1, b2, b3⟩ := ih (a + 1) f _ (by omega) (by omega) (TX_at (b := a + 1) hk q)
      exact ⟨σ', b1, b2, (rb_fr.sI ⟨rfl, rfl⟩).tr b3⟩
    · rw [if_neg (show ¬ nI (t a) = (32 : Int32) from fun e => h ((nI_eq (b := 32) (by omega) (by decide)).mp e)), sp_sk_id (fun _ => h)]
      exact ⟨σ, rfl, q, rb_fr.rf⟩
theorem sx_sign (W : tw m t) (ha : a ≤ m) (q : TX k m t a σ) : (if (σ.1 1 1) ≤ (σ.1 k 1) then some ((-1 : Int32), σ) else if rb_ib (σ.1 k 1) 240 then some (σ.1 2 (σ.1 k 1).toNatClampNeg, σ) else none) = some (sp_sg t m a, σ) := by
  have hm := W.1
  unfold sp_sg
  rw [q.1, q.2.2]
  by_cases h : a < m
  · rw [if_neg (nI_ge h (by omega)), rb_ib_nI (by omega) (by decide), if_pos rfl, nI_clamp (by omega), q.2.1 a h, if_pos h]
  · rw [if_pos (nI_le (by omega) (by omega)), if_neg h]
theorem sx_nextG (W : tw m t) (ha : a ≤ m) (q : TX 3 m t a σ) : ∃ σ', xf_Rd_nextSignG σ = some (sp_sg t m (sp_sk t m a), σ') ∧ TX 3 m t (sp_sk t m a) σ' ∧ rb_fr (scA 3) σ σ' := by
  have hm := W.1
  obtain ⟨σ', b1, b2, b3⟩ := sx_blank (k := 3) (by decide) W xl_Rd_nextSignG_0 (fun _ _ => rfl) (m - a) a rb_FU σ (by omega) (by unfold rb_FU; omega) q
  refine ⟨σ', ?_, b2, b3⟩
  unfold xf_Rd_nextSignG
  rw [b1, rb_b1_some]
  exact sx_sign W (sp_sk_le ha).2 b2
theorem sx_nextL (W : tw m t) (ha : a ≤ m) (q : TX 7 m t a σ) : ∃ σ', xf_Rd_nextSignL σ = some (sp_sg t m (sp_sk t m a), σ') ∧ TX 7 m t (sp_sk t m a) σ' ∧ rb_fr (scA 7) σ σ' := by
  have hm := W.1
  obtain ⟨σ', b1, b2, b3⟩ := sx_blank (k := 7) (by decide) W xl_Rd_nextSignL_0 (fun _ _ => rfl) (m - a) a rb_FU σ (by omega) (by unfold rb_FU; omega) q
  refine ⟨σ', ?_, b2, b3⟩
  unfold xf_Rd_nextSignL
  rw [b1, rb_b1_some]
  exact sx_sign W (sp_sk_le ha).2 b2
theorem sx_nextF (W : tw m t) (ha : a ≤ m) (q : TX 12 m t a σ) : ∃ σ', xf_Rd_nextSignF σ = some (sp_sg t m (sp_sk t m a), σ') ∧ TX 12 m t (sp_sk t m a) σ' ∧ rb_fr (scA 12) σ σ' := by
  have hm := W.1
  obtain ⟨σ', b1, b2, b3⟩ := sx_blank (k := 12) (by decide) W xl_Rd_nextSignF_0 (fun _ _ => rfl) (m - a) a rb_FU σ (by omega) (by unfold rb_FU; omega) q
  refine ⟨σ', ?_, b2, b3⟩
  unfold xf_Rd_nextSignF
  rw [b1, rb_b1_some]
  exact sx_sign W (sp_sk_le ha).2 b2
/-- a sign is passed -/
theorem sx_passG (W : tw m t) (ha : a ≤ m) (q : TX 3 m t a σ) (x : Int32) (hx : x ≠ -1) : ∃ σ', rb_fr (scA 3) σ σ' ∧ ((sp_sg t m (sp_sk t m a) = x ∧ xf_Rd_passesG x σ = some (1, σ') ∧ TX 3 m t (sp_sk t m a + 1) σ' ∧ sp_sk t m a < m) ∨ (sp_sg t m (sp_sk t m a) ≠ x ∧ xf_Rd_passesG x σ = some (0, σ') ∧ TX 3 m t (sp_sk t m a) σ')) := by
  obtain ⟨s, b1, b2, b3⟩ := sx_nextG W ha q
  unfold xf_Rd_passesG
  rw [b1, rb_b2_some]
  by_cases h : sp_sg t m (sp_sk t m a) = x
  · refine ⟨rb_sI s 3 1 (nI (sp_sk t m a + 1)), b3.sI' ⟨rfl, rfl⟩, Or.inl ⟨h, by rw [if_pos h, rb_lt_eq, b2.2.2, nI_1], TX_at (by decide) b2, ?_⟩⟩
    by_cases hl : sp_sk t m a < m
    · exact hl
    · unfold sp_sg at h; rw [if_neg hl] at h; exact absurd h.symm hx
  · exact ⟨s, b3, Or.inr ⟨h, by rw [if_neg h], b2⟩⟩
theorem sx_passL (W : tw m t) (ha : a ≤ m) (q : TX 7 m t a σ) (x : Int32) (hx : x ≠ -1) : ∃ σ', rb_fr (scA 7) σ σ' ∧ ((sp_sg t m (sp_sk t m a) = x ∧ xf_Rd_passesL x σ = some (1, σ') ∧ TX 7 m t (sp_sk t m a + 1) σ' ∧ sp_sk t m a < m) ∨ (sp_sg t m (sp_sk t m a) ≠ x ∧ xf_Rd_passesL x σ = some (0, σ') ∧ TX 7 m t (sp_sk t m a) σ')) := by
  obtain ⟨s, b1, b2, b3⟩ := sx_nextL W ha q
  unfold xf_Rd_passesL
  rw [b1, rb_b2_some]
  by_cases h : sp_sg t m (sp_sk t m a) = x
  · refine ⟨rb_sI s 7 1 (nI (sp_sk t m a + 1)), b3.sI' ⟨rfl, rfl⟩, Or.inl ⟨h, by rw [if_pos h, rb_lt_eq, b2.2.2, nI_1], TX_at (by decide) b2, ?_⟩⟩
    by_cases hl : sp_sk t m a < m
    · exact hl
    · unfold sp_sg at h; rw [if_neg hl] at h; exact absurd h.symm hx
  · exact ⟨s, b3, Or.inr ⟨h, by rw [if_neg h], b2⟩⟩
theorem sx_passF (W : tw m t) (ha : a ≤ m) (q : TX 12 m t a σ) (x : Int32) (hx : x ≠ -1) : ∃ σ', rb_fr (scA 12) σ σ' ∧ ((sp_sg t m (sp_sk t m a) = x ∧ xf_Rd_passesF x σ = some (1, σ') ∧ TX 12 m t (sp_sk t m a + 1) σ' ∧ sp_sk t m a < m) ∨ (sp_sg t m (sp_sk t m a) ≠ x ∧ xf_Rd_passesF x σ = some (0, σ') ∧ TX 12 m t (sp_sk t m a) σ')) := by
  obtain ⟨s, b1, b2, b3⟩ := sx_nextF W ha q
  unfold xf_Rd_passesF
  rw [b1, rb_b2_some]
  by_cases h : sp_sg t m (sp_sk t m a) = x
  · refine ⟨rb_sI s 12 1 (nI (sp_sk t m a + 1)), b3.sI' ⟨rfl, rfl⟩, Or.inl ⟨h, by rw [if_pos h, rb_lt_eq, b2.2.2, nI_1], TX_at (by decide) b2, ?_⟩⟩
    by_cases hl : sp_sk t m a < m
    · exact hl
    · unfold sp_sg at h; rw [if_neg hl] at h; exact absurd h.symm hx
  · exact ⟨s, b3, Or.inr ⟨h, by rw [if_neg h], b2⟩⟩
/-- the reference -/
theorem sm_here (W : tw m t) (ha : a ≤ m) (q : TM m t a τ) : xf_M_here τ = some (sp_sg t m a) := by
  have hm := W.1
  unfold xf_M_here sp_sg
  rw [q.1, q.2.2]
  by_cases h : a < m
  · rw [if_neg (nI_ge h (by omega)), rb_ib_nI (by omega) (by decide), if_pos rfl, nI_clamp (by omega), q.2.1 a h, if_pos h]
  · rw [if_pos (nI_le (by omega) (by omega)), if_neg h]
theorem sm_look1 (W : tw m t) : ∀ (r a f : Nat) (τ : rb_St), a + r = m → r < f → TM m t a τ → ∃ τ', xl_M_look_0 f τ = some τ' ∧ TM m t (sp_sk t m a) τ' ∧ rb_fr scB τ τ' := by
  have hm := W.1
  intro r
  induction r with
  | zero =>
    intro a f τ ha hf q
    obtain ⟨f, rfl⟩ : ∃ q, f = q + 1 := ⟨f - 1, by omega⟩
    refine ⟨τ, ?_, ?_, rb_fr.rf⟩
    · show (rb_b1 (xf_M_here τ) fun r1 => if r1 = 32 then rb_lt (rb_sI τ 0 3 ((τ.1 0 3) + 1)) (fun s4 => xl_M_look_0 f s4) else some τ) = _
      rw [sm_here W (by omega) q, rb_b1_some]
      unfold sp_sg
      rw [if_neg (show ¬ a < m by omega), if_neg (show ¬ (-1 : Int32) = 32 by decide)]
    · rw [sp_sk_id (fun h => by omega)]; exact q
  | succ r ih =>
    intro a f τ ha hf q
    obtain ⟨f, rfl⟩ : ∃ q, f = q + 1 := ⟨f - 1, by omega⟩
    have hb := W.2 a (by omega)
    show ∃ τ', (rb_b1 (xf_M_here τ) fun r1 => if r1 = 32 then rb_lt (rb_sI τ 0 3 ((τ.1 0 3) + 1)) (fun s4 => xl_M_look_0 f s4) else some τ) = some τ' ∧ _
    rw [sm_here W (by omega) q, rb_b1_some]
    unfold sp_sg
    rw [if_pos (show a < m by omega), q.2.2, nI_1, rb_lt_eq]
    by_cases h : t a = 32
    · rw [if_pos (by rw [h]; rfl), sp_sk_b (by omega) h]
      obtain ⟨τ', b1, b2, b3⟩ := ih (a + 1) f _ (by omega) (by omega) (TM_at (b := a + 1) q)
      exact ⟨τ', b1, b2, (rb_fr.sI ⟨rfl, rfl⟩).tr b3⟩
    · rw [if_neg (show ¬ nI (t a) = (32 : Int32) from fun e => h ((nI_eq (b := 32) (by omega) (by decide)).mp e)), sp_sk_id (fun _ => h)]
      exact ⟨τ, rfl, q, rb_fr.rf⟩
theorem sm_look (W : tw m t) (ha : a ≤ m) (q : TM m t a τ) : ∃ τ', xf_M_look τ = some (sp_sg t m (sp_sk t m a), τ') ∧ TM m t (sp_sk t m a) τ' ∧ rb_fr scB τ τ' := by
  have hm := W.1
  obtain ⟨τ', b1, b2, b3⟩ := sm_look1 W (m - a) a rb_FU τ (by omega) (by unfold rb_FU; omega) q
  refine ⟨τ', ?_, b2, b3⟩
  unfold xf_M_look
  rw [b1, rb_b1_some, sm_here W (sp_sk_le ha).2 b2, rb_b1_some]
/-- the first fault -/
theorem sm_bad (h : τ.1 0 4 = -1) (h3 : τ.1 0 3 = nI a) : ∃ τ', xf_M_bad τ = some τ' ∧ τ'.1 0 4 = nI a ∧ rb_fr (fun c i => c = 0 ∧ i = 4) τ τ' := by
  refine ⟨rb_sI τ 0 4 (nI a), ?_, rb_sI_eq _ _ _ _, rb_fr.sI ⟨rfl, rfl⟩⟩
  unfold xf_M_bad
  rw [if_pos h, rb_lt_eq, h3]
theorem sm_bad2 {p : Nat} (hp : p < 2 ^ 31) (h : τ.1 0 4 = nI p) : ∃ τ', xf_M_bad τ = some τ' ∧ τ'.1 0 4 = nI p ∧ rb_fr (fun c i => c = 0 ∧ i = 4) τ τ' := by
  refine ⟨rb_sI τ 0 4 (nI p), ?_, rb_sI_eq _ _ _ _, rb_fr.sI ⟨rfl, rfl⟩⟩
  unfold xf_M_bad
  rw [h, if_neg (rb_neg1 hp), rb_lt_eq]
/-- digits -/
def sp_dg (t : Nat → Nat) (m a : Nat) : Bool := decide (a < m ∧ 48 ≤ t a ∧ t a ≤ 57)
theorem sp_dg_iff {t : Nat → Nat} {m a : Nat} : sp_dg t m a = true ↔ a < m ∧ 48 ≤ t a ∧ t a ≤ 57 := decide_eq_true_iff
theorem rb_dgX (W : tw m t) (σ : rb_St) : xf_Rd_isDigit (sp_sg t m a) σ = rb_bI (sp_dg t m a) := by
  have hm := W.1
  unfold xf_Rd_isDigit sp_sg
  by_cases h : a < m
  · have hb := W.2 a h
    rw [if_pos h]
    by_cases h1 : t a < 48
    · rw [if_pos (show nI (t a) < (48 : Int32) from nI_lt (b := 48) h1 (by decide))]
      unfold sp_dg
      rw [decide_eq_false (by omega)]; rfl
    · rw [if_neg (show ¬ nI (t a) < (48 : Int32) from nI_nlt (b := 48) (by omega) (by omega))]
      by_cases h2 : 57 < t a
      · rw [if_pos (show (57 : Int32) < nI (t a) from nI_lt (a := 57) h2 (by omega))]
        unfold sp_dg
        rw [decide_eq_false (by omega)]; rfl
      · rw [if_neg (show ¬ (57 : Int32) < nI (t a) from nI_nlt (a := 57) (by omega) (by decide))]
        unfold sp_dg
        rw [decide_eq_true (by omega)]; rfl
  · rw [if_neg h, if_pos (by decide)]
    unfold sp_dg
    rw [decide_eq_false (by omega)]; rfl
theorem rb_dgM (W : tw m t) (τ : rb_St) : xf_M_isDigit (sp_sg t m a) τ = rb_bI (sp_dg t m a) := rb_dgX W τ
theorem sp_sg_dg (h : sp_dg t m a = true) : ∃ d, d ≤ 9 ∧ t a = 48 + d ∧ sp_sg t m a = nI (48 + d) ∧ a < m := by
  obtain ⟨h1, h2, h3⟩ := sp_dg_iff.mp h
  refine ⟨t a - 48, by omega, by omega, ?_, h1⟩
  unfold sp_sg
  rw [if_pos h1]
  congr 1
  omega
/-- a number of at most r digits more -/
def sp_num (t : Nat → Nat) (m : Nat) : Nat → Nat → Nat → Nat × Nat
  | 0, a, v => (v, a)
  | r + 1, a, v => if sp_dg t m a = true then sp_num t m r (a + 1) (10 * v + (t a - 48)) else (v, a)
theorem sp_num_le (t : Nat → Nat) (m : Nat) : ∀ r a v, a ≤ m → a ≤ (sp_num t m r a v).2 ∧ (sp_num t m r a v).2 ≤ m ∧ (sp_num t m r a v).2 ≤ a + r ∧ (sp_num t m r a v).1 < (v + 1) * 10 ^ r := by
  intro r
  induction r with
  | zero => intro a v h; exact ⟨Nat.le_refl a, h, Nat.le_refl a, by show v < (v + 1) * 1; omega⟩
  | succ r ih =>
    intro a v h
    show a ≤ (if sp_dg t m a = true then sp_num t m r (a + 1) (10 * v + (t a - 48)) else (v, a)).2 ∧ (if sp_dg t m a = true then sp_num t m r (a + 1) (10 * v + (t a - 48)) else (v, a)).2 ≤ m ∧ (if sp_dg t m a = true then sp_num t m r (a + 1) (10 * v + (t a - 48)) else (v, a)).2 ≤ a + (r + 1) ∧ (if sp_dg t m a = true then sp_num t m r (a + 1) (10 * v + (t a - 48)) else (v, a)).1 < (v + 1) * 10 ^ (r + 1)
    by_cases hd : sp_dg t m a = true
    · obtain ⟨h1, h2, h3⟩ := sp_dg_iff.mp hd
      obtain ⟨b1, b2, b3, b4⟩ := ih (a + 1) (10 * v + (t a - 48)) (by omega)
      rw [if_pos hd]
      refine ⟨by omega, b2, by omega, Nat.lt_of_lt_of_le b4 ?_⟩
      rw [Nat.pow_succ, Nat.mul_comm (10 ^ r) 10, ← Nat.mul_assoc]
      exact Nat.mul_le_mul_right _ (by omega)
    · rw [if_neg hd]
      refine ⟨Nat.le_refl a, h, by show a ≤ _; omega, ?_⟩
      show v < (v + 1) * 10 ^ (r + 1)
      have : 0 < 10 ^ (r + 1) := Nat.pow_pos (by decide)
      exact Nat.lt_of_lt_of_le (Nat.lt_succ_self v) (Nat.le_mul_of_pos_right _ this)
theorem sx_signAt (W : tw m t) (ha : a ≤ m) (q : TX k m t a σ) : xf_Tape_signAt (σ.1 k 1) σ = some (sp_sg t m a) := by
  have hm := W.1
  unfold xf_Tape_signAt sp_sg
  rw [q.1, q.2.2, if_neg (nI_pos (by omega))]
  by_cases h : a < m
  · rw [if_neg (nI_ge h (by omega)), rb_ib_nI (by omega) (by decide), if_pos rfl, nI_clamp (by omega), q.2.1 a h, if_pos h]
  · rw [if_pos (nI_le (by omega) (by omega)), if_neg h]
theorem rb_10d {v d : Nat} : (10 * nI v + nI (48 + d)) - (48 : Int32) = nI (10 * v + d) := by
  rw [rb_l10, pk_mul, nI_add, rb_l48, pk_sub (by omega)]
  congr 1
  omega
theorem sx_numl (hk : k ≠ 1 ∧ k ≠ 2) (W : tw m t) {K : Nat} (hK : K ≤ 4) (L : Nat → Int32 → Int32 → rb_St → Option (Int32 × rb_St)) (hL : ∀ f x2 x3 σ, L (f + 1) x2 x3 σ = if nI K ≤ x3 then some (x2, σ) else rb_b1 (xf_Tape_signAt (σ.1 k 1) σ) fun r6 => if (xf_Rd_isDigit r6 σ) = 0 then some (x2, σ) else rb_b1 (xf_Tape_signAt (σ.1 k 1) σ) fun r9 => rb_lt (rb_sI σ k 1 ((σ.1 k 1) + 1)) (fun s11 => L f (((10 * x2) + r9) - 48) (x3 + 1) s11)) : ∀ (r q a v f : Nat) (σ : rb_St), q + r = K → r < f → a ≤ m → TX k m t a σ → ∃ σ', L f (nI v) (nI q) σ = some (nI (sp_num t m r a v).1, σ') ∧ TX k m t (sp_num t m r a v).2 σ' ∧ rb_fr (scA k) σ σ' := by
  have hm := W.1
  intro r
  induction r with
  | zero =>
    intro q a v f σ hq hf ha h
    obtain ⟨f, rfl⟩ : ∃ q, f = q + 1 := ⟨f - 1, by omega⟩
    exact ⟨σ, by rw [hL, if_pos (nI_le (by omega) (by omega))]; rfl, h, rb_fr.rf⟩
  | succ r ih =>
    intro q a v f σ hq hf ha h
    obtain ⟨f, rfl⟩ : ∃ q, f = q + 1 := ⟨f - 1, by omega⟩
    have es : sp_num t m (r + 1) a v = if sp_dg t m a = true then sp_num t m r (a + 1) (10 * v + (t a - 48)) else (v, a) := rfl
    rw [hL, if_neg (nI_ge (by omega) (by omega)), sx_signAt W ha h, rb_b1_some, rb_b1_some, rb_dgX W, es, h.2.2, nI_1, nI_1, rb_lt_eq]
    simp only [rb_bI_0]
    cases hd : sp_dg t m a with
    | false => rw [if_pos rfl, if_neg (by decide)]; exact ⟨σ, rfl, h, rb_fr.rf⟩
    | true =>
      obtain ⟨d, d1, d2, d3, d4⟩ := sp_sg_dg hd
      rw [if_neg (by decide), if_pos rfl, d3, rb_10d, show t a - 48 = d by omega]
      obtain ⟨σ', b1, b2, b3⟩ := ih (q + 1) (a + 1) (10 * v + d) f _ (by omega) (by omega) (by omega) (TX_at (b := a + 1) hk h)
      exact ⟨σ', b1, b2, (rb_fr.sI ⟨rfl, rfl⟩).tr b3⟩
/-- what readNumber answers -/
def sp_rn (t : Nat → Nat) (m K p : Nat) : Int32 := if sp_dg t m p = true then (if sp_dg t m (sp_num t m K p 0).2 = true then -1 else nI (sp_num t m K p 0).1) else -1
def sp_re (t : Nat → Nat) (m K p : Nat) : Nat := if sp_dg t m p = true then (sp_num t m K p 0).2 else p
theorem sp_re_le {K p : Nat} (h : p ≤ m) : p ≤ sp_re t m K p ∧ sp_re t m K p ≤ m := by
  unfold sp_re
  have := sp_num_le t m K p 0 h
  split <;> omega
theorem sx_rnG (W : tw m t) (ha : a ≤ m) (q : TX 3 m t a σ) : ∃ σ', xf_Rd_readNumberG 2 σ = some (sp_rn t m 2 (sp_sk t m a), σ') ∧ TX 3 m t (sp_re t m 2 (sp_sk t m a)) σ' ∧ rb_fr (scA 3) σ σ' := by
  obtain ⟨s, b1, b2, b3⟩ := sx_nextG W ha q
  have hp := (sp_sk_le (t := t) ha).2
  obtain ⟨s2, c1, c2, c3⟩ := sx_numl (k := 3) (K := 2) (by decide) W (by decide) (xl_Rd_readNumberG_16 2) (fun _ _ _ _ => rfl) 2 0 (sp_sk t m a) 0 rb_FU s (by omega) (by unfold rb_FU; omega) hp b2
  have c1' : xl_Rd_readNumberG_16 2 rb_FU 0 0 s = some (nI (sp_num t m 2 (sp_sk t m a) 0).1, s2) := c1
  have hn := sp_num_le t m 2 (sp_sk t m a) 0 hp
  unfold xf_Rd_readNumberG sp_rn sp_re
  rw [b1, rb_b2_some, rb_dgX W, c1', rb_b2_some, sx_signAt W hn.2.1 c2, rb_b1_some, rb_dgX W]
  simp only [rb_bI_0]
  cases hd : sp_dg t m (sp_sk t m a) with
  | false => rw [if_pos rfl, if_neg (by decide), if_neg (by decide)]; exact ⟨s, rfl, b2, b3⟩
  | true =>
    rw [if_neg (by decide), if_pos rfl, if_pos rfl]
    refine ⟨s2, ?_, c2, b3.tr c3⟩
    cases sp_dg t m (sp_num t m 2 (sp_sk t m a) 0).2 with
    | false => rw [if_pos rfl, if_neg (by decide)]
    | true => rw [if_neg (by decide), if_pos rfl]
theorem sx_rnL (W : tw m t) (ha : a ≤ m) (q : TX 7 m t a σ) : ∃ σ', xf_Rd_readNumberL 4 σ = some (sp_rn t m 4 (sp_sk t m a), σ') ∧ TX 7 m t (sp_re t m 4 (sp_sk t m a)) σ' ∧ rb_fr (scA 7) σ σ' := by
  obtain ⟨s, b1, b2, b3⟩ := sx_nextL W ha q
  have hp := (sp_sk_le (t := t) ha).2
  obtain ⟨s2, c1, c2, c3⟩ := sx_numl (k := 7) (K := 4) (by decide) W (by decide) (xl_Rd_readNumberL_16 4) (fun _ _ _ _ => rfl) 4 0 (sp_sk t m a) 0 rb_FU s (by omega) (by unfold rb_FU; omega) hp b2
  have c1' : xl_Rd_readNumberL_16 4 rb_FU 0 0 s = some (nI (sp_num t m 4 (sp_sk t m a) 0).1, s2) := c1
  have hn := sp_num_le t m 4 (sp_sk t m a) 0 hp
  unfold xf_Rd_readNumberL sp_rn sp_re
  rw [b1, rb_b2_some, rb_dgX W, c1', rb_b2_some, sx_signAt W hn.2.1 c2, rb_b1_some, rb_dgX W]
  simp only [rb_bI_0]
  cases hd : sp_dg t m (sp_sk t m a) with
  | false => rw [if_pos rfl, if_neg (by decide), if_neg (by decide)]; exact ⟨s, rfl, b2, b3⟩
  | true =>
    rw [if_neg (by decide), if_pos rfl, if_pos rfl]
    refine ⟨s2, ?_, c2, b3.tr c3⟩
    cases sp_dg t m (sp_num t m 4 (sp_sk t m a) 0).2 with
    | false => rw [if_pos rfl, if_neg (by decide)]
    | true => rw [if_neg (by decide), if_pos rfl]
end RBSC
