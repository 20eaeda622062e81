/-! A CROSSING TAKEN OUT -/
theorem rb_ups {β γ : Type} (L : Nat → β → Int32 → Option γ) (g : Nat → β) (a n : Nat) (r : Option γ) (hs : ∀ m i, a ≤ i → i < n → L (m + 1) (g i) (nI i) = L m (g (i + 1)) (nI (i + 1))) (hx : ∀ m, L (m + 1) (g n) (nI n) = r) : ∀ (m i : Nat), a ≤ i → i ≤ n → n - i < m → L m (g i) (nI i) = r := by
  intro m
  induction m with
  | zero => intro i _ _ h; omega
  | succ m ih =>
    intro i ha hi hm
    by_cases h : i = n
    · subst h; exact hx m
    · rw [hs m i ha (by omega)]
      exact ih (i + 1) (by omega) (by omega) (by omega)
/-- what stands at i + s, i + 1 + s, .. goes to i, i + 1, .. (t of them) -/
def rb_sf (c s i : Nat) (σ : rb_St) : Nat → rb_St
  | 0 => σ
  | t + 1 => rb_sI (rb_sf c s i σ t) c (i + t) ((rb_sf c s i σ t).1 c (i + t + s))
theorem rb_sf_at {c s i : Nat} {σ : rb_St} : ∀ t q, (rb_sf c s i σ t).1 c q = if i ≤ q ∧ q < i + t then σ.1 c (q + s) else σ.1 c q := by
  intro t
  induction t with
  | zero => intro q; rw [if_neg (by omega)]; rfl
  | succ t ih =>
    intro q
    show (rb_sI (rb_sf c s i σ t) c (i + t) ((rb_sf c s i σ t).1 c (i + t + s))).1 c q = _
    rw [rb_sI_at, ih, ih]
    by_cases h : q = i + t
    · subst h
      rw [if_pos ⟨rfl, rfl⟩, if_neg (by omega), if_pos (by omega)]
    · rw [if_neg (fun w => h w.2)]
      by_cases h2 : i ≤ q ∧ q < i + t
      · rw [if_pos h2, if_pos (by omega)]
      · rw [if_neg h2, if_neg (by omega)]
theorem rb_sf_row {c s i : Nat} {σ : rb_St} {d : Nat} (hd : d ≠ c) : ∀ t, (rb_sf c s i σ t).1 d = σ.1 d := by
  intro t
  induction t with
  | zero => rfl
  | succ t ih => exact (rb_sI_row _ _ _ _ _ hd).trans ih
theorem rb_sf_2 {c s i : Nat} {σ : rb_St} : ∀ t, (rb_sf c s i σ t).2 = σ.2 := by
  intro t
  induction t with
  | zero => rfl
  | succ t ih => exact ih
def sp_rm (cr : Nat → Nat → Nat) (i : Nat) : Nat → Nat → Nat := fun j f => if j < i then cr j f else cr (j + 1) f
theorem sp_rm_wf {n m : Nat} {cr : Nat → Nat → Nat} (W : rb_wfc n m cr) (i : Nat) : rb_wfc n (m - 1) (sp_rm cr i) := by
  refine ⟨W.1, by have := W.2.1; omega, fun j hj => ?_⟩
  unfold sp_rm
  by_cases h : j < i
  · simp only [if_pos h]; exact W.2.2 j (by omega)
  · simp only [if_neg h]; exact W.2.2 (j + 1) (by omega)
theorem rb_pr {m : Nat} (h : 0 < m) : nI m - 1 = nI (m - 1) := by
  obtain ⟨j, rfl⟩ : ∃ j, m = j + 1 := ⟨m - 1, by omega⟩
  exact nI_pred j
section RBQ
variable {n m k : Nat} {cr : Nat → Nat → Nat} {wh ln : Nat → Nat} {σ : rb_St}
theorem sx_takeOut (V : rb_wfw n wh ln) (W : rb_wfc n m cr) (h : rx_wh k n wh ln σ) (hc : rx_cr k m cr σ) {i : Nat} (hi : i < m) : ∃ σ', xf_Pole_takeOut k (nI i) σ = some σ' ∧ rx_wh k n (sp_sw n wh (cr i 0 / 2)) ln σ' ∧ rx_cr k (m - 1) (sp_rm cr i) σ' ∧ (∀ j, j ≠ 1 → σ'.1 k j = σ.1 k j) ∧ (∀ c, c ≠ k → c ≠ k + 1 → c ≠ k + 3 → σ'.1 c = σ.1 c) ∧ σ'.2 = σ.2 := by
  have hm := W.2.1
  obtain ⟨f0, f1, f2, f3, f4, f5, f6⟩ := rx_f W hc hi
  have a0 := (W.2.2 i hi).1
  have hl : xl_Pole_takeOut_25 k (nI (cr i 0 / 2)) rb_FU (nI i) σ = some (rb_sf (k + 3) 1 i σ (m - 1 - i)) := by
    refine rb_ups (fun f s x => xl_Pole_takeOut_25 k (nI (cr i 0 / 2)) f x s) (fun q => rb_sf (k + 3) 1 i σ (q - i)) i (m - 1) (some (rb_sf (k + 3) 1 i σ (m - 1 - i))) (fun f q hq1 hq2 => ?_) (fun f => ?_) rb_FU i (Nat.le_refl i) (by omega) (by unfold rb_FU; omega) |> fun e => by rw [Nat.sub_self] at e; exact e
    · have hz : (rb_sf (k + 3) 1 i σ (q - i)).1 k 1 = nI m := by rw [rb_sf_row (by omega)]; exact hc.1
      show (if (rb_sf (k + 3) 1 i σ (q - i)).1 k 1 - 1 ≤ nI q then _ else if rb_ib (nI q + 1) 48 then if rb_ib (nI q) 48 then rb_lt (rb_sI (rb_sf (k + 3) 1 i σ (q - i)) (k + 3) (nI q).toNatClampNeg ((rb_sf (k + 3) 1 i σ (q - i)).1 (k + 3) (nI q + 1).toNatClampNeg)) (fun s9 => xl_Pole_takeOut_25 k (nI (cr i 0 / 2)) f (nI q + 1) s9) else none else none) = xl_Pole_takeOut_25 k (nI (cr i 0 / 2)) f (nI (q + 1)) (rb_sf (k + 3) 1 i σ (q + 1 - i))
      rw [hz, rb_pr (by omega), if_neg (nI_ge hq2 (by omega)), nI_1, rb_ib_nI (by omega) (by decide), rb_ib_nI (by omega) (by decide), if_pos rfl, if_pos rfl, nI_clamp (by omega), nI_clamp (by omega), rb_lt_eq, show q + 1 - i = (q - i) + 1 by omega]
      show _ = xl_Pole_takeOut_25 k (nI (cr i 0 / 2)) f (nI (q + 1)) (rb_sI (rb_sf (k + 3) 1 i σ (q - i)) (k + 3) (i + (q - i)) ((rb_sf (k + 3) 1 i σ (q - i)).1 (k + 3) (i + (q - i) + 1)))
      rw [show i + (q - i) = q by omega]
    · have hz : (rb_sf (k + 3) 1 i σ (m - 1 - i)).1 k 1 = nI m := by rw [rb_sf_row (by omega)]; exact hc.1
      show (if (rb_sf (k + 3) 1 i σ (m - 1 - i)).1 k 1 - 1 ≤ nI (m - 1) then _ else _) = _
      rw [hz, rb_pr (by omega), if_pos (nI_le (Nat.le_refl _) (by omega))]
  have hz : (rb_sf (k + 3) 1 i σ (m - 1 - i)).1 k 1 = nI m := by rw [rb_sf_row (by omega)]; exact hc.1
  have hw : rx_wh k n wh ln (rb_sI (rb_sf (k + 3) 1 i σ (m - 1 - i)) k 1 (nI (m - 1))) := by
    refine ⟨?_, fun p hp => ?_, fun d hd => ?_⟩
    · rw [rb_sI_ne _ _ _ _ _ _ (Or.inr (by decide)), rb_sf_row (by omega)]; exact h.1
    · rw [rb_sI_row _ _ _ _ _ (by omega), rb_sf_row (by omega)]; exact h.2.1 p hp
    · rw [rb_sI_row _ _ _ _ _ (by omega), rb_sf_row (by omega)]; exact h.2.2 d hd
  obtain ⟨σ', g1, g2, g3, g4⟩ := sx_change V hw (show cr i 0 / 2 < n by omega)
  refine ⟨σ', ?_, g2, ⟨?_, fun j hj => ?_⟩, fun j hj => ?_, fun c c1 c2 c3 => ?_, ?_⟩
  · unfold xf_Pole_takeOut
    rw [if_neg (nI_pos (by omega)), hc.1, if_pos (nI_lt hi (by omega)), f0, if_pos rfl, f6, rb_lt_eq, hl, rb_b1_some, hz, rb_pr (by omega), rb_lt_eq, g1, rb_b1_some]
  · rw [g3 k (by omega), rb_sI_eq]
  · rw [g3 (k + 3) (by omega), rb_sI_row _ _ _ _ _ (by omega), rb_sf_at]
    unfold sp_rm
    by_cases hj2 : j < i
    · rw [if_neg (by omega)]; simp only [if_pos hj2]; exact hc.2 j (by omega)
    · rw [if_pos (by omega)]; simp only [if_neg hj2]; exact hc.2 (j + 1) (by omega)
  · rw [g3 k (by omega), rb_sI_ne _ _ _ _ _ _ (Or.inr hj), rb_sf_row (by omega)]
  · rw [g3 c c2, rb_sI_row _ _ _ _ _ c1, rb_sf_row c3]
  · rw [g4]; exact rb_sf_2 _
end RBQ
