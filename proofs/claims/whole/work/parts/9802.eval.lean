/-! LAWS: signs behind what they join; what they are worth. A sign: (0, number), (1, letter), (2 .. 11, 0) -/
abbrev sp_Tk : Type := Nat × Nat
def sp_cx (t : sp_Tk) : Int32 := if t.1 = 0 then nI t.2 else if t.1 = 1 then -1 - nI t.2 else if t.1 = 2 then -11 else if t.1 = 3 then -12 else if t.1 = 4 then -13 else if t.1 = 5 then -14 else if t.1 = 6 then -15 else if t.1 = 7 then -16 else if t.1 = 8 then -17 else if t.1 = 9 then -20 else if t.1 = 10 then -18 else -19
def sp_tkok (t : sp_Tk) : Prop := t.1 < 12 ∧ (t.1 = 0 → t.2 < 10000) ∧ (t.1 = 1 → t.2 < 6)
def sp_ty1 (c : Nat) (st : List Bool) : Option (List Bool) :=
  if c < 2 then some (false :: st) else match st with
    | [] => none
    | a :: s => if c = 9 then (if a = true then some (true :: s) else none) else match s with
      | [] => none
      | b :: r => if c < 6 then (if a = false ∧ b = false then some (false :: r) else none) else if c < 9 then (if a = false ∧ b = false then some (true :: r) else none) else (if a = true ∧ b = true then some (true :: r) else none)
def sp_tyl : List sp_Tk → List Bool → Option (List Bool)
  | [], st => some st
  | t :: ts, st => if 60 ≤ st.length then none else match sp_ty1 t.1 st with
    | none => none
    | some s => sp_tyl ts s
def sp_s0 : rb_St := (fun _ _ => 0, 0)
def sp_bo (c : Nat) (a b : Int32) : Int32 := if c = 2 then xf_M_bounded (a.toInt64 + b.toInt64) sp_s0 else if c = 3 then xf_M_bounded (a.toInt64 - b.toInt64) sp_s0 else if c = 4 then xf_M_bounded (a.toInt64 * b.toInt64) sp_s0 else if c = 5 then (if b = 0 then 0 else xf_M_bounded (a.toInt64 / b.toInt64) sp_s0) else if c = 6 then (if a = b then 1 else 0) else if c = 7 then (if b ≤ a then 0 else 1) else if c = 8 then (if a ≤ b then 0 else 1) else if c = 10 then (if a = 0 then 0 else if b = 0 then 0 else 1) else (if a = 0 then (if b = 0 then 0 else 1) else 1)
def sp_ev1 (lt : Nat → Int32) (t : sp_Tk) (st : List Int32) : List Int32 :=
  if t.1 = 0 then nI t.2 :: st else if t.1 = 1 then lt t.2 :: st else match st with
    | [] => []
    | a :: s => if t.1 = 9 then (1 - a) :: s else match s with
      | [] => []
      | b :: r => sp_bo t.1 b a :: r
def sp_evl (lt : Nat → Int32) : List sp_Tk → List Int32 → List Int32
  | [], st => st
  | t :: ts, st => sp_evl lt ts (sp_ev1 lt t st)
def sp_okv (b : Bool) (x : Int32) : Prop := if b = true then x = 0 ∨ x = 1 else -1000000 ≤ x.toInt ∧ x.toInt ≤ 1000000
def sp_oks : List Bool → List Int32 → Prop
  | [], [] => True
  | b :: bs, x :: xs => sp_okv b x ∧ sp_oks bs xs
  | _, _ => False
theorem sp_oks_len : ∀ {T : List Bool} {st : List Int32}, sp_oks T st → st.length = T.length
  | [], [], _ => rfl
  | b :: bs, x :: xs, h => by simp [sp_oks_len h.2]
  | [], _ :: _, h => h.elim
  | _ :: _, [], h => h.elim
theorem rb_bd_ok (x : Int64) (σ : rb_St) : sp_okv false (xf_M_bounded x σ) := by
  have h1 : (rb_mxJ (-1000000) (rb_mnJ 1000000 x)).toInt ≤ 1000000 ∧ -1000000 ≤ (rb_mxJ (-1000000) (rb_mnJ 1000000 x)).toInt := by
    have e1 : (1000000 : Int64).toInt = 1000000 := by decide
    have e2 : (-1000000 : Int64).toInt = -1000000 := by decide
    unfold rb_mxJ rb_mnJ
    by_cases h : x < 1000000
    · rw [if_pos h]
      rw [Int64.lt_iff_toInt_lt, e1] at h
      by_cases h2 : x < -1000000
      · rw [if_pos h2, e2]; omega
      · rw [if_neg h2]
        rw [Int64.lt_iff_toInt_lt, e2] at h2
        omega
    · rw [if_neg h, if_neg (by decide), e1]; omega
  unfold sp_okv xf_M_bounded
  rw [if_neg (by decide)]
  have e : ((rb_mxJ (-1000000) (rb_mnJ 1000000 x)).toInt32).toInt = (rb_mxJ (-1000000) (rb_mnJ 1000000 x)).toInt := by
    rw [Int64.toInt_toInt32]
    exact Int.bmod_eq_of_le (by omega) (by omega)
  rw [e]
  omega
theorem sp_okv0 (b : Bool) : sp_okv b 0 := by
  cases b
  · exact ⟨by decide, by decide⟩
  · exact Or.inl rfl
theorem sp_bo_ok {c : Nat} (hc : 2 ≤ c) (h9 : c ≠ 9) (hl : c < 12) (a b : Int32) : sp_okv (decide (6 ≤ c)) (sp_bo c a b) := by
  unfold sp_bo
  have : c = 2 ∨ c = 3 ∨ c = 4 ∨ c = 5 ∨ c = 6 ∨ c = 7 ∨ c = 8 ∨ c = 10 ∨ c = 11 := by omega
  rcases this with rfl | rfl | rfl | rfl | rfl | rfl | rfl | rfl | rfl
  · exact rb_bd_ok (a.toInt64 + b.toInt64) sp_s0
  · exact rb_bd_ok (a.toInt64 - b.toInt64) sp_s0
  · exact rb_bd_ok (a.toInt64 * b.toInt64) sp_s0
  · show sp_okv false (if b = 0 then 0 else xf_M_bounded (a.toInt64 / b.toInt64) sp_s0)
    by_cases h : b = 0
    · rw [if_pos h]; exact sp_okv0 false
    · rw [if_neg h]; exact rb_bd_ok _ _
  · show sp_okv true (if a = b then 1 else 0)
    by_cases h : a = b
    · rw [if_pos h]; exact Or.inr rfl
    · rw [if_neg h]; exact Or.inl rfl
  · show sp_okv true (if b ≤ a then 0 else 1)
    by_cases h : b ≤ a
    · rw [if_pos h]; exact Or.inl rfl
    · rw [if_neg h]; exact Or.inr rfl
  · show sp_okv true (if a ≤ b then 0 else 1)
    by_cases h : a ≤ b
    · rw [if_pos h]; exact Or.inl rfl
    · rw [if_neg h]; exact Or.inr rfl
  · show sp_okv true (if a = 0 then 0 else if b = 0 then 0 else 1)
    by_cases h : a = 0
    · rw [if_pos h]; exact Or.inl rfl
    · rw [if_neg h]
      by_cases h2 : b = 0
      · rw [if_pos h2]; exact Or.inl rfl
      · rw [if_neg h2]; exact Or.inr rfl
  · show sp_okv true (if a = 0 then (if b = 0 then 0 else 1) else 1)
    by_cases h : a = 0
    · rw [if_pos h]
      by_cases h2 : b = 0
      · rw [if_pos h2]; exact Or.inl rfl
      · rw [if_neg h2]; exact Or.inr rfl
    · rw [if_neg h]; exact Or.inr rfl
theorem rb_cmpE (x y : Int32) : (lg_cmp x.toInt64 y.toInt64 = 0) = (x = y) := by
  rw [lg_cmp_eq, ← Int64.toInt_inj, Int32.toInt_toInt64, Int32.toInt_toInt64, Int32.toInt_inj]
theorem rb_cmp0 (x : Int32) : (lg_cmp x.toInt64 0 = 0) = (x = 0) := rb_cmpE x 0
theorem rb_cmpG (x y : Int32) : (0 ≤ lg_cmp x.toInt64 y.toInt64) = (y ≤ x) := by
  rw [lg_cmp_ge, Int64.le_iff_toInt_le, Int32.le_iff_toInt_le, Int32.toInt_toInt64, Int32.toInt_toInt64]
theorem rb_cmpL (x y : Int32) : (lg_cmp x.toInt64 y.toInt64 ≤ 0) = (x ≤ y) := by
  rw [lg_cmp_le, Int64.le_iff_toInt_le, Int32.le_iff_toInt_le, Int32.toInt_toInt64, Int32.toInt_toInt64]
theorem rb_64z (x : Int32) : (x.toInt64 = 0) = (x = 0) := by
  rw [show (0 : Int64) = (0 : Int32).toInt64 from rfl, ← Int64.toInt_inj, Int32.toInt_toInt64, Int32.toInt_toInt64, Int32.toInt_inj]
/-- the reference's sign joins just so -/
theorem sm_worked {c : Nat} (hc : 2 ≤ c) (h9 : c ≠ 9) (hl : c < 12) (a b : Int32) (σ : rb_St) : xf_M_worked (nI c) a.toInt64 b.toInt64 σ = some (sp_bo c a b) := by
  have hb : ∀ x, xf_M_bounded x σ = xf_M_bounded x sp_s0 := fun _ => rfl
  unfold xf_M_worked sp_bo
  have : c = 2 ∨ c = 3 ∨ c = 4 ∨ c = 5 ∨ c = 6 ∨ c = 7 ∨ c = 8 ∨ c = 10 ∨ c = 11 := by omega
  rcases this with rfl | rfl | rfl | rfl | rfl | rfl | rfl | rfl | rfl <;> simp (disch := omega) only [rb_l2, rb_l3, rb_l4, rb_l5, rb_l6, rb_l7, rb_l8, rb_l9, rb_l10, nI_eq, ↓reduceIte, if_neg, hb, rb_cmpE, rb_cmpG, rb_cmpL, rb_64z, rb_cmp0]
  · by_cases h : b = 0
    · rw [if_pos h, if_pos h]
    · rw [if_neg h, if_neg h]
  · by_cases h : a = b
    · rw [if_pos h, if_pos h]
    · rw [if_neg h, if_neg h]
  · by_cases h : b ≤ a
    · rw [if_pos h, if_pos h]
    · rw [if_neg h, if_neg h]
  · by_cases h : a ≤ b
    · rw [if_pos h, if_pos h]
    · rw [if_neg h, if_neg h]
  · by_cases h : a = 0
    · rw [if_pos h, if_pos h]
    · rw [if_neg h, if_neg h]
      by_cases h2 : b = 0
      · rw [if_pos h2, if_pos h2]
      · rw [if_neg h2, if_neg h2]
  · by_cases h : a = 0
    · rw [if_pos h, if_pos h]
      by_cases h2 : b = 0
      · rw [if_pos h2, if_pos h2]
      · rw [if_neg h2, if_neg h2]
    · rw [if_neg h, if_neg h]
/-- and so does the class's, where truths are 0 and 1 -/
theorem sx_joined {c : Nat} (hc : 2 ≤ c) (h9 : c ≠ 9) (hl : c < 12) {a b : Int32} (ha : sp_okv (decide (9 ≤ c)) a) (hb : sp_okv (decide (9 ≤ c)) b) (σ : rb_St) : ∃ r, xf_Law_joined (sp_cx (c, 0)) a b σ = some r ∧ xf_Law_held r σ = sp_bo c a b := by
  have : c = 2 ∨ c = 3 ∨ c = 4 ∨ c = 5 ∨ c = 6 ∨ c = 7 ∨ c = 8 ∨ c = 10 ∨ c = 11 := by omega
  rcases this with rfl | rfl | rfl | rfl | rfl | rfl | rfl | rfl | rfl
  · exact ⟨_, rfl, rfl⟩
  · exact ⟨_, rfl, rfl⟩
  · exact ⟨_, rfl, rfl⟩
  · by_cases h : b = 0
    · refine ⟨0, ?_, ?_⟩
      · show (if b = 0 then some 0 else if b = 0 then none else some ((a / b).toInt64) : Option Int64) = some 0
        rw [if_pos h]
      · show (0 : Int32) = (if b = 0 then 0 else _)
        rw [if_pos h]
    · refine ⟨(a / b).toInt64, ?_, ?_⟩
      · show (if b = 0 then some 0 else if b = 0 then none else some ((a / b).toInt64) : Option Int64) = _
        rw [if_neg h, if_neg h]
      · have hm : a ≠ Int32.minValue := by
          intro e
          have h1 := ha.1
          rw [e] at h1
          exact absurd h1 (by decide)
        show xf_M_bounded ((a / b).toInt64) sp_s0 = (if b = 0 then 0 else xf_M_bounded (a.toInt64 / b.toInt64) sp_s0)
        rw [if_neg h, Int32.toInt64_div_of_ne_left a b hm]
  · by_cases h : a = b
    · exact ⟨1, (if_pos h : (if a = b then some 1 else some 0 : Option Int64) = some 1), (if_pos h : (if a = b then (1 : Int32) else 0) = 1).symm⟩
    · exact ⟨0, (if_neg h : (if a = b then some 1 else some 0 : Option Int64) = some 0), (if_neg h : (if a = b then (1 : Int32) else 0) = 0).symm⟩
  · by_cases h : b ≤ a
    · exact ⟨0, (if_pos h : (if b ≤ a then some 0 else some 1 : Option Int64) = some 0), (if_pos h : (if b ≤ a then (0 : Int32) else 1) = 0).symm⟩
    · exact ⟨1, (if_neg h : (if b ≤ a then some 0 else some 1 : Option Int64) = some 1), (if_neg h : (if b ≤ a then (0 : Int32) else 1) = 1).symm⟩
  · by_cases h : a ≤ b
    · exact ⟨0, (if_pos h : (if a ≤ b then some 0 else some 1 : Option Int64) = some 0), (if_pos h : (if a ≤ b then (0 : Int32) else 1) = 0).symm⟩
    · exact ⟨1, (if_neg h : (if a ≤ b then some 0 else some 1 : Option Int64) = some 1), (if_neg h : (if a ≤ b then (0 : Int32) else 1) = 1).symm⟩
  · rcases ha with rfl | rfl <;> rcases hb with rfl | rfl <;> exact ⟨_, rfl, rfl⟩
  · rcases ha with rfl | rfl <;> rcases hb with rfl | rfl <;> exact ⟨_, rfl, rfl⟩
