/-! ROWS COPIED (the reference): t places of row a from sa on go to row c from sc on -/
def rb_ct (a c sa sc : Nat) (σ : rb_St) : Nat → rb_St
  | 0 => σ
  | t + 1 => rb_sI (rb_ct a c sa sc σ t) c (sc + t) ((rb_ct a c sa sc σ t).1 a (sa + t))
theorem rb_ct_row {a c sa sc : Nat} {σ : rb_St} {d : Nat} (hd : d ≠ c) : ∀ t, (rb_ct a c sa sc σ t).1 d = σ.1 d := by
  intro t
  induction t with
  | zero => rfl
  | succ t ih => exact (rb_sI_row _ _ _ _ _ hd).trans ih
theorem rb_ct_2 {a c sa sc : Nat} {σ : rb_St} : ∀ t, (rb_ct a c sa sc σ t).2 = σ.2 := by
  intro t
  induction t with
  | zero => rfl
  | succ t ih => exact ih
theorem rb_ct_at {a c sa sc : Nat} {σ : rb_St} (hac : a ≠ c) : ∀ t q, (rb_ct a c sa sc σ t).1 c q = if sc ≤ q ∧ q < sc + t then σ.1 a (sa + (q - sc)) else σ.1 c q := by
  intro t
  induction t with
  | zero => intro q; rw [if_neg (by omega)]; rfl
  | succ t ih =>
    intro q
    show (rb_sI (rb_ct a c sa sc σ t) c (sc + t) ((rb_ct a c sa sc σ t).1 a (sa + t))).1 c q = _
    rw [rb_sI_at, ih, rb_ct_row hac]
    by_cases h : q = sc + t
    · subst h
      rw [if_pos ⟨rfl, rfl⟩, if_pos (by omega), Nat.add_sub_cancel_left]
    · rw [if_neg (fun w => h w.2)]
      by_cases h2 : sc ≤ q ∧ q < sc + t
      · rw [if_pos h2, if_pos (by omega)]
      · rw [if_neg h2, if_neg (by omega)]
theorem sm_imagel (σ : rb_St) : xl_M_image_11 rb_FU 0 σ = some (rb_ct 17 33 0 0 σ 398) := by
  refine rb_up0 (fun f s x => xl_M_image_11 f x s) (rb_ct 17 33 0 0 σ) 398 (some (rb_ct 17 33 0 0 σ 398)) (by decide) (fun f i hi => ?_) (fun f => ?_)
  · show (if 398 ≤ nI i then _ else if rb_ib (nI i) 398 then rb_lt (rb_sI (rb_ct 17 33 0 0 σ i) 33 (nI i).toNatClampNeg ((rb_ct 17 33 0 0 σ i).1 17 (nI i).toNatClampNeg)) (fun s4 => xl_M_image_11 f (nI i + 1) s4) else none) = xl_M_image_11 f (nI (i + 1)) (rb_sI (rb_ct 17 33 0 0 σ i) 33 (0 + i) ((rb_ct 17 33 0 0 σ i).1 17 (0 + i)))
    rw [if_neg (show ¬ (398 : Int32) ≤ nI i from nI_ge (b := 398) hi (by decide)), rb_ib_nI hi (by decide), if_pos rfl, nI_clamp (by omega), rb_lt_eq, nI_1, Nat.zero_add]
  · show (if 398 ≤ nI 398 then some (rb_ct 17 33 0 0 σ 398) else _) = _
    rw [if_pos (by decide)]
theorem sm_backl (σ : rb_St) : xl_M_back_11 rb_FU 0 σ = some (rb_ct 33 17 0 0 σ 398) := by
  refine rb_up0 (fun f s x => xl_M_back_11 f x s) (rb_ct 33 17 0 0 σ) 398 (some (rb_ct 33 17 0 0 σ 398)) (by decide) (fun f i hi => ?_) (fun f => ?_)
  · show (if 398 ≤ nI i then _ else if rb_ib (nI i) 398 then rb_lt (rb_sI (rb_ct 33 17 0 0 σ i) 17 (nI i).toNatClampNeg ((rb_ct 33 17 0 0 σ i).1 33 (nI i).toNatClampNeg)) (fun s4 => xl_M_back_11 f (nI i + 1) s4) else none) = xl_M_back_11 f (nI (i + 1)) (rb_sI (rb_ct 33 17 0 0 σ i) 17 (0 + i) ((rb_ct 33 17 0 0 σ i).1 33 (0 + i)))
    rw [if_neg (show ¬ (398 : Int32) ≤ nI i from nI_ge (b := 398) hi (by decide)), rb_ib_nI hi (by decide), if_pos rfl, nI_clamp (by omega), rb_lt_eq, nI_1, Nat.zero_add]
  · show (if 398 ≤ nI 398 then some (rb_ct 33 17 0 0 σ 398) else _) = _
    rw [if_pos (by decide)]
theorem rb_398 (a i : Nat) : (398 : Int32) * nI a + nI i = nI (398 * a + i) := by
  rw [← nI_add]
  congr 1
  exact (Int32.ofNat_mul 398 a).symm
theorem sm_keepl (σ : rb_St) {a : Nat} (ha : a < 40) (h : σ.1 0 35 = nI a) : xl_M_keep_54 rb_FU 0 σ = some (rb_ct 17 22 0 (398 * a) σ 398) := by
  refine rb_up0 (fun f s x => xl_M_keep_54 f x s) (rb_ct 17 22 0 (398 * a) σ) 398 (some (rb_ct 17 22 0 (398 * a) σ 398)) (by decide) (fun f i hi => ?_) (fun f => ?_)
  · have hz : (rb_ct 17 22 0 (398 * a) σ i).1 0 35 = nI a := by rw [rb_ct_row (by decide)]; exact h
    show (if 398 ≤ nI i then _ else if rb_ib (nI i) 398 then if rb_ib ((398 * ((rb_ct 17 22 0 (398 * a) σ i).1 0 35)) + nI i) 15920 then rb_lt (rb_sI (rb_ct 17 22 0 (398 * a) σ i) 22 ((398 * ((rb_ct 17 22 0 (398 * a) σ i).1 0 35)) + nI i).toNatClampNeg ((rb_ct 17 22 0 (398 * a) σ i).1 17 (nI i).toNatClampNeg)) (fun s5 => xl_M_keep_54 f (nI i + 1) s5) else none else none) = xl_M_keep_54 f (nI (i + 1)) (rb_sI (rb_ct 17 22 0 (398 * a) σ i) 22 (398 * a + i) ((rb_ct 17 22 0 (398 * a) σ i).1 17 (0 + i)))
    rw [hz, rb_398, if_neg (show ¬ (398 : Int32) ≤ nI i from nI_ge (b := 398) hi (by decide)), rb_ib_nI hi (by decide), if_pos rfl, rb_ib_nI (by omega) (by decide), if_pos rfl, nI_clamp (by omega), nI_clamp (by omega), rb_lt_eq, nI_1, Nat.zero_add]
  · show (if 398 ≤ nI 398 then some (rb_ct 17 22 0 (398 * a) σ 398) else _) = _
    rw [if_pos (by decide)]
theorem sm_undol (σ : rb_St) {a : Nat} (ha : a < 40) (h : σ.1 0 35 = nI a) : xl_M_undo_21 rb_FU 0 σ = some (rb_ct 22 17 (398 * a) 0 σ 398) := by
  refine rb_up0 (fun f s x => xl_M_undo_21 f x s) (rb_ct 22 17 (398 * a) 0 σ) 398 (some (rb_ct 22 17 (398 * a) 0 σ 398)) (by decide) (fun f i hi => ?_) (fun f => ?_)
  · have hz : (rb_ct 22 17 (398 * a) 0 σ i).1 0 35 = nI a := by rw [rb_ct_row (by decide)]; exact h
    show (if 398 ≤ nI i then _ else if rb_ib ((398 * ((rb_ct 22 17 (398 * a) 0 σ i).1 0 35)) + nI i) 15920 then if rb_ib (nI i) 398 then rb_lt (rb_sI (rb_ct 22 17 (398 * a) 0 σ i) 17 (nI i).toNatClampNeg ((rb_ct 22 17 (398 * a) 0 σ i).1 22 ((398 * ((rb_ct 22 17 (398 * a) 0 σ i).1 0 35)) + nI i).toNatClampNeg)) (fun s7 => xl_M_undo_21 f (nI i + 1) s7) else none else none) = xl_M_undo_21 f (nI (i + 1)) (rb_sI (rb_ct 22 17 (398 * a) 0 σ i) 17 (0 + i) ((rb_ct 22 17 (398 * a) 0 σ i).1 22 (398 * a + i)))
    rw [hz, rb_398, if_neg (show ¬ (398 : Int32) ≤ nI i from nI_ge (b := 398) hi (by decide)), rb_ib_nI (by omega) (by decide), if_pos rfl, rb_ib_nI hi (by decide), if_pos rfl, nI_clamp (by omega), nI_clamp (by omega), rb_lt_eq, nI_1, Nat.zero_add]
  · show (if 398 ≤ nI 398 then some (rb_ct 22 17 (398 * a) 0 σ 398) else _) = _
    rw [if_pos (by decide)]
