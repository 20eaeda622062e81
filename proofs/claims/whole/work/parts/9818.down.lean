/-! TAKEN DOWN: the highest loose letter -/
def sp_top (S : Nat) : Nat → Nat
  | 0 => 0
  | k + 1 => if S.testBit k = true then k else sp_top S k
theorem sp_top_sp {S : Nat} : ∀ k, (∃ l, l < k ∧ S.testBit l = true) → sp_top S k < k ∧ S.testBit (sp_top S k) = true ∧ ∀ j, sp_top S k < j → j < k → S.testBit j = false := by
  intro k
  induction k with
  | zero => rintro ⟨l, hl, -⟩; omega
  | succ k ih =>
    rintro ⟨l, hl, h⟩
    show (if S.testBit k = true then k else sp_top S k) < k + 1 ∧ S.testBit (if S.testBit k = true then k else sp_top S k) = true ∧ ∀ j, (if S.testBit k = true then k else sp_top S k) < j → j < k + 1 → S.testBit j = false
    by_cases hk : S.testBit k = true
    · rw [if_pos hk]
      exact ⟨by omega, hk, fun j h1 h2 => by omega⟩
    · rw [if_neg hk]
      have hlk : l < k := by
        rcases Nat.lt_or_ge l k with q | q
        · exact q
        · have : l = k := by omega
          subst this; exact absurd h hk
      obtain ⟨a, b, c⟩ := ih ⟨l, hlk, h⟩
      refine ⟨by omega, b, fun j h1 h2 => ?_⟩
      by_cases e : j = k
      · subst e; exact Bool.eq_false_iff.mpr hk
      · exact c j h1 (by omega)
theorem sx_undoing {S : Nat} (hS : S < 2 ^ 16) (σ : rb_St) : ∀ (k f : Nat), k ≤ 14 → k < f → (∃ l, l < k ∧ S.testBit l = true) → xl_Pole_undoingLetter_14 (nI S) σ f (nI k - 1) = some (0, nI (sp_top S k)) := by
  intro k
  induction k with
  | zero => rintro f _ _ ⟨l, hl, -⟩; omega
  | succ k ih =>
    rintro f hk hf ⟨l, hl, h⟩
    obtain ⟨f, rfl⟩ : ∃ q, f = q + 1 := ⟨f - 1, by omega⟩
    rw [nI_pred]
    show (if nI k < 0 then _ else if ((nI S >>> (nI k &&& 31)) &&& 1) = 0 then xl_Pole_undoingLetter_14 (nI S) σ f (nI k + (-1)) else some (0, nI k)) = some (0, nI (if S.testBit k = true then k else sp_top S k))
    rw [if_neg (nI_pos (by omega))]
    by_cases hb : S.testBit k = true
    · rw [if_neg (fun e => by rw [rb_bit0 (by omega) (by omega)] at e; rw [hb] at e; cases e), if_pos hb]
    · rw [if_pos ((rb_bit0 (by omega) (by omega)).mpr (Bool.eq_false_iff.mpr hb)), if_neg hb, rb_m1]
      refine ih f (by omega) (by omega) ⟨l, ?_, h⟩
      rcases Nat.lt_or_ge l k with q | q
      · exact q
      · have : l = k := by omega
        subst this; exact absurd h hb
theorem rb_usd (S k : Nat) (hS : S < 2 ^ 31) (hk : k < 32) : ((nI S).toUInt32 >>> ((nI k).toUInt32 &&& Int32.toUInt32 31)).toInt32 = nI (S / 2 ^ k) := by
  refine pk_ushrN (by omega) (nI k) k ?_
  have : ∀ k, k < 32 → (((nI k).toUInt32 &&& Int32.toUInt32 31).toBitVec % 32).toNat = k := by decide +kernel
  exact this k hk
theorem rb_nlz {S t : Nat} (ht : t < 14) (h1 : 2 ^ t ≤ S) (h2 : S < 2 ^ (t + 1)) (σ : rb_St) : (31 : Int32) - xf_JI_numberOfLeadingZeros (nI S) σ = nI t := by
  have u1 : ∀ x : Nat, x < 2 ^ 31 → ((nI x).toUInt32 >>> ((1 : Int32).toUInt32 &&& Int32.toUInt32 31)).toInt32 = nI (x / 2) := fun x hx => rb_usd x 1 hx (by decide)
  have u2 : ∀ x : Nat, x < 2 ^ 31 → ((nI x).toUInt32 >>> ((2 : Int32).toUInt32 &&& Int32.toUInt32 31)).toInt32 = nI (x / 4) := fun x hx => rb_usd x 2 hx (by decide)
  have u4 : ∀ x : Nat, x < 2 ^ 31 → ((nI x).toUInt32 >>> ((4 : Int32).toUInt32 &&& Int32.toUInt32 31)).toInt32 = nI (x / 16) := fun x hx => rb_usd x 4 hx (by decide)
  have u8 : ∀ x : Nat, x < 2 ^ 31 → ((nI x).toUInt32 >>> ((8 : Int32).toUInt32 &&& Int32.toUInt32 31)).toInt32 = nI (x / 256) := fun x hx => rb_usd x 8 hx (by decide)
  have key : ∀ (x : Nat) (b : Int32), 1 ≤ x → x < 16 → xj_JI_numberOfLeadingZeros_61 (nI x) b σ = if x < 2 then b - 0 else if x < 4 then b - 1 else if x < 8 then (b + (-2)) - 0 else (b + (-2)) - 1 := by
    intro x b hx1 hx2
    unfold xj_JI_numberOfLeadingZeros_61
    rw [show (4 : Int32) = nI 4 from rfl]
    by_cases c4 : x < 4
    · rw [if_pos (nI_lt c4 (by decide)), u1 x (by omega)]
      by_cases c2 : x < 2
      · rw [if_pos c2, show x / 2 = 0 by omega]; rfl
      · rw [if_neg c2, if_pos c4, show x / 2 = 1 by omega]; rfl
    · rw [if_neg (nI_nlt (by omega) (by omega)), rb_lt_eq, u2 x (by omega), u1 _ (by omega), if_neg (by omega), if_neg c4]
      by_cases c8 : x < 8
      · rw [if_pos c8, show x / 4 / 2 = 0 by omega]; rfl
      · rw [if_neg c8, show x / 4 / 2 = 1 by omega]; rfl
  have hS : 1 ≤ S := Nat.le_trans Nat.one_le_two_pow h1
  have hS2 : S < 2 ^ 14 := Nat.lt_of_lt_of_le h2 (Nat.pow_le_pow_right (by decide) (by omega))
  unfold xf_JI_numberOfLeadingZeros xj_JI_numberOfLeadingZeros_33
  rw [show (0 : Int32) = nI 0 from rfl, if_pos (nI_lt (by omega) (by omega)), show (65536 : Int32) = nI 65536 from rfl, if_pos (nI_lt (by omega) (by decide)), show (256 : Int32) = nI 256 from rfl, show (16 : Int32) = nI 16 from rfl]
  have : t = 0 ∨ t = 1 ∨ t = 2 ∨ t = 3 ∨ t = 4 ∨ t = 5 ∨ t = 6 ∨ t = 7 ∨ t = 8 ∨ t = 9 ∨ t = 10 ∨ t = 11 ∨ t = 12 ∨ t = 13 := by omega
  by_cases c8 : S < 256
  · rw [if_pos (nI_lt c8 (by decide))]
    by_cases c4 : S < 16
    · rw [if_pos (nI_lt c4 (by decide)), key S _ hS c4]
      rcases this with rfl | rfl | rfl | rfl | rfl | rfl | rfl | rfl | rfl | rfl | rfl | rfl | rfl | rfl <;> first | omega | (simp only [Nat.reducePow, Nat.reduceAdd] at h1 h2; first | (rw [if_pos (by omega)]; rfl) | (rw [if_neg (by omega), if_pos (by omega)]; rfl) | (rw [if_neg (by omega), if_neg (by omega), if_pos (by omega)]; rfl) | (rw [if_neg (by omega), if_neg (by omega), if_neg (by omega)]; rfl))
    · rw [if_neg (nI_nlt (by omega) (by omega)), rb_lt_eq, u4 S (by omega), key (S / 16) _ (by omega) (by omega)]
      rcases this with rfl | rfl | rfl | rfl | rfl | rfl | rfl | rfl | rfl | rfl | rfl | rfl | rfl | rfl <;> first | omega | (simp only [Nat.reducePow, Nat.reduceAdd] at h1 h2; first | (rw [if_pos (by omega)]; rfl) | (rw [if_neg (by omega), if_pos (by omega)]; rfl) | (rw [if_neg (by omega), if_neg (by omega), if_pos (by omega)]; rfl) | (rw [if_neg (by omega), if_neg (by omega), if_neg (by omega)]; rfl))
  · rw [if_neg (nI_nlt (by omega) (by omega)), rb_lt_eq, u8 S (by omega)]
    by_cases c4 : S / 256 < 16
    · rw [if_pos (nI_lt c4 (by decide)), key (S / 256) _ (by omega) c4]
      rcases this with rfl | rfl | rfl | rfl | rfl | rfl | rfl | rfl | rfl | rfl | rfl | rfl | rfl | rfl <;> first | omega | (simp only [Nat.reducePow, Nat.reduceAdd] at h1 h2; first | (rw [if_pos (by omega)]; rfl) | (rw [if_neg (by omega), if_pos (by omega)]; rfl) | (rw [if_neg (by omega), if_neg (by omega), if_pos (by omega)]; rfl) | (rw [if_neg (by omega), if_neg (by omega), if_neg (by omega)]; rfl))
    · rw [if_neg (nI_nlt (by omega) (by omega)), rb_lt_eq, u4 _ (by omega), key (S / 256 / 16) _ (by omega) (by omega)]
      rcases this with rfl | rfl | rfl | rfl | rfl | rfl | rfl | rfl | rfl | rfl | rfl | rfl | rfl | rfl <;> first | omega | (simp only [Nat.reducePow, Nat.reduceAdd] at h1 h2; first | (rw [if_pos (by omega)]; rfl) | (rw [if_neg (by omega), if_pos (by omega)]; rfl) | (rw [if_neg (by omega), if_neg (by omega), if_pos (by omega)]; rfl) | (rw [if_neg (by omega), if_neg (by omega), if_neg (by omega)]; rfl))
