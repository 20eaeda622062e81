/-! NEAREST, the class: fewest is the distance -/
def VX (n : Nat) (who goal : Nat → Nat) (σ : rb_St) : Prop := σ.1 236 0 = nI n ∧ (∀ i, i < n → who i < n ∧ σ.1 237 i = nI (who i)) ∧ ∀ d, d < n → goal d < n ∧ σ.1 238 d = nI (goal d)
theorem af_cntlt : ∀ (n K : Nat), K ≤ n → af_s n (fun i => if (decide (i < K)) = true then (1 : Int) else 0) = K := by
  intro n
  induction n with
  | zero => intro K h; have : K = 0 := by omega
            subst this; rfl
  | succ n ih =>
    intro K h
    show af_s n (fun i => if (decide (i < K)) = true then (1 : Int) else 0) + (if (decide (n < K)) = true then 1 else 0) = K
    by_cases c : n < K
    · have hK : K = n + 1 := by omega
      have e : af_s n (fun i => if (decide (i < K)) = true then (1 : Int) else 0) = af_s n (fun i => if (decide (i < n)) = true then (1 : Int) else 0) := af_s_co n (fun i hi => by rw [if_pos (decide_eq_true (by omega)), if_pos (decide_eq_true hi)])
      rw [e, ih n (Nat.le_refl n), if_pos (decide_eq_true c)]; omega
    · rw [ih K (by omega), if_neg (by rw [decide_eq_true_iff]; exact c)]; omega
theorem af_mask : ∀ (n : Nat) (bs : Nat → Bool), ∃ x, x < 2 ^ n ∧ ∀ i, i < n → x.testBit i = bs i := by
  intro n
  induction n with
  | zero => intro bs; exact ⟨0, by decide, fun i hi => by omega⟩
  | succ n ih =>
    intro bs
    obtain ⟨x, x1, x2⟩ := ih bs
    have xn : x.testBit n = false := Nat.testBit_lt_two_pow x1
    by_cases c : bs n = true
    · refine ⟨x ||| 2 ^ n, ?_, fun i hi => ?_⟩
      · exact Nat.or_lt_two_pow (Nat.lt_of_lt_of_le x1 (Nat.pow_le_pow_right (by omega) (by omega))) (Nat.pow_lt_pow_right (by omega) (by omega))
      · rw [Nat.testBit_or, Nat.testBit_two_pow]
        by_cases e : i = n
        · subst e; rw [xn, c]; simp
        · rw [x2 i (by omega), decide_eq_false (fun w => e w.symm)]; simp
    · refine ⟨x, Nat.lt_of_lt_of_le x1 (Nat.pow_le_pow_right (by omega) (by omega)), fun i hi => ?_⟩
      by_cases e : i = n
      · subst e; rw [xn]; simp at c; rw [c]
      · exact x2 i (by omega)
theorem af_bc_s {n x : Nat} (h7 : n ≤ 7) (hx : x < 2 ^ n) : (af_bc x : Int) = af_s n (fun i => if x.testBit i = true then (1 : Int) else 0) := by
  have k1 : ∀ m, ((rb_fo (fun i a => a + if x.testBit i = true then 1 else 0) 0 m : Nat) : Int) = af_s m (fun i => if x.testBit i = true then (1 : Int) else 0) := by
    intro m
    induction m with
    | zero => rfl
    | succ m ih =>
      show ((rb_fo (fun i a => a + if x.testBit i = true then 1 else 0) 0 m + (if x.testBit m = true then 1 else 0) : Nat) : Int) = af_s m (fun i => if x.testBit i = true then (1 : Int) else 0) + (if x.testBit m = true then (1 : Int) else 0)
      rw [← ih]
      split <;> omega
  have k2 : ∀ r, af_s (n + r) (fun i => if x.testBit i = true then (1 : Int) else 0) = af_s n (fun i => if x.testBit i = true then (1 : Int) else 0) := by
    intro r
    induction r with
    | zero => rfl
    | succ r ih =>
      show af_s (n + r) (fun i => if x.testBit i = true then (1 : Int) else 0) + (if x.testBit (n + r) = true then (1 : Int) else 0) = _
      have : x.testBit (n + r) = false := Nat.testBit_lt_two_pow (Nat.lt_of_lt_of_le hx (Nat.pow_le_pow_right (by omega) (by omega)))
      rw [ih, this]; simp
  unfold af_bc
  rw [k1, ← k2 (7 - n), show n + (7 - n) = 7 by omega]
theorem af_L_co {n : Nat} {e f : Nat → Int} (h : ∀ i, i < n → e i = f i) : af_L n e = af_L n f := af_s_co n (fun i hi => af_s_co n (fun j hj => by unfold af_w; rw [h i hi, h j hj]))
theorem af_lf_co {n : Nat} {g : Nat → Nat} {e f : Nat → Int} (h : ∀ i, i < n → e i = f i) (q : af_lf n g e) : af_lf n g f := ⟨fun i hi => by rw [← h i hi]; exact q.1 i hi, by rw [← q.2]; exact af_s_co n (fun i hi => (h i hi).symm)⟩
/-- how many must go back -/
theorem af_many {n : Nat} {g : Nat → Nat} (h3 : 3 ≤ n) (G : af_gw n g) : ∃ K : Nat, K ≤ n ∧ af_s n (fun i => af_sd n g i) = n * K := by
  have b := af_bij n g ⟨G.1, G.2⟩
  have e1 : af_s n (fun i => af_sd n g i) + n * af_s n (fun i => ((g i : Int) - i) / n) = af_s n (fun i => (g i : Int)) - af_s n (fun i => (i : Int)) := by
    rw [← af_s_mul, ← af_s_add]
    have : af_s n (fun i => af_sd n g i + n * (((g i : Int) - i) / n)) + af_s n (fun i => (i : Int)) = af_s n (fun i => (g i : Int)) := by
      rw [← af_s_add]
      exact af_s_co n (fun i _ => by have := Int.emod_add_mul_ediv ((g i : Int) - i) n; unfold af_sd; omega)
    omega
  rw [b] at e1
  obtain ⟨q, hq⟩ : ∃ q, q = af_s n (fun i => ((g i : Int) - i) / n) := ⟨_, rfl⟩
  rw [← hq] at e1
  have lo : 0 ≤ af_s n (fun i => af_sd n g i) := af_s_nn n (fun i _ => Int.emod_nonneg _ (by omega))
  have hi : af_s n (fun i => af_sd n g i) ≤ n * n := af_s_le n (fun i _ => Int.le_of_lt (Int.emod_lt_of_pos _ (by omega)))
  have eq : af_s n (fun i => af_sd n g i) = n * (-q) := by rw [Int.mul_neg]; omega
  have q0 : 0 ≤ -q := by
    apply Classical.byContradiction
    intro w
    have : (n : Int) * (-q) ≤ n * (-1) := Int.mul_le_mul_of_nonneg_left (by omega) (by omega)
    omega
  have qn : -q ≤ n := by
    apply Classical.byContradiction
    intro w
    have : (n : Int) * (n + 1) ≤ n * (-q) := Int.mul_le_mul_of_nonneg_left (by omega) (by omega)
    rw [Int.mul_add] at this
    omega
  exact ⟨(-q).toNat, by omega, by rw [eq]; congr 1; omega⟩
section AFY
variable {n : Nat} {who goal : Nat → Nat} {σ : rb_St}
theorem sx_few14 (h3 : 3 ≤ n) (h7 : n ≤ 7) : ∀ (f i acc : Nat) (σ : rb_St), i ≤ n → n - i < f → VX n who goal σ → (∀ k, k < i → σ.1 239 k = nI (af_sN n (fun i => goal (who i)) k)) → ∃ (R : Nat) (σ' : rb_St), xl_Way_fewest_14 f (nI acc) (nI i) σ = some (nI R, σ') ∧ (∀ k, k < n → σ'.1 239 k = nI (af_sN n (fun i => goal (who i)) k)) ∧ (R : Int) = acc + af_s n (fun k => if i ≤ k then (af_sN n (fun i => goal (who i)) k : Int) else 0) ∧ rb_fr (fun c _ => c = 239) σ σ' := by
  intro f
  induction f with
  | zero => intro i acc σ _ h; omega
  | succ f ih =>
    intro i acc σ hi hf V hk
    have e0 : xl_Way_fewest_14 (f + 1) (nI acc) (nI i) σ = if (σ.1 236 0) ≤ nI i then some (nI acc, σ) else if rb_ib (nI i) 8 then if rb_ib ((σ.1 237 (nI i).toNatClampNeg) &&& 7) 8 then rb_b1 (xf_JM_floorMod ((σ.1 238 ((σ.1 237 (nI i).toNatClampNeg) &&& 7).toNatClampNeg) - nI i) (σ.1 236 0) σ) fun r5 => rb_lt (rb_sI σ 239 (nI i).toNatClampNeg r5) (fun s7 => rb_lt (nI acc + (s7.1 239 (nI i).toNatClampNeg)) (fun v9 => xl_Way_fewest_14 f v9 (nI i + 1) s7)) else none else none := rfl
    by_cases ei : i = n
    · subst ei
      refine ⟨acc, σ, ?_, hk, ?_, rb_fr.rf⟩
      · rw [e0, V.1, if_pos (nI_le (Nat.le_refl _) (by omega))]
      · rw [af_s_end _ (Nat.le_refl _)]; omega
    · have hin : i < n := by omega
      obtain ⟨w1, w2⟩ := V.2.1 i hin
      obtain ⟨g1, g2⟩ := V.2.2 (who i) w1
      have jm : xf_JM_floorMod (nI (goal (who i)) - nI i) (nI n) σ = some (nI (af_sN n (fun i => goal (who i)) i)) := af_jm_ok n (by omega) (by omega) (goal (who i)) (by omega) i (by omega)
      obtain ⟨s7, hs7⟩ : ∃ s, s = rb_sI σ 239 i (nI (af_sN n (fun i => goal (who i)) i)) := ⟨_, rfl⟩
      have f7 : rb_fr (fun c _ => c = 239) σ s7 := by rw [hs7]; exact rb_fr.sI rfl
      have V7 : VX n who goal s7 := ⟨(f7.1 236 0 (by omega)).trans V.1, fun k hk => ⟨(V.2.1 k hk).1, (f7.1 237 k (by omega)).trans (V.2.1 k hk).2⟩, fun k hk => ⟨(V.2.2 k hk).1, (f7.1 238 k (by omega)).trans (V.2.2 k hk).2⟩⟩
      obtain ⟨R, σ', R1, R2, R3, R4⟩ := ih (i + 1) (acc + af_sN n (fun i => goal (who i)) i) s7 (by omega) (by omega) V7 (fun k hk' => by
        by_cases c : k = i
        · subst c; rw [hs7, rb_sI_eq]
        · rw [hs7, rb_sIg _ _ _ _ _ _ (by omega)]; exact hk k (by omega))
      refine ⟨R, σ', ?_, R2, ?_, f7.tr R4⟩
      · rw [e0, V.1, if_neg (nI_ge hin (by omega)), rb_ib_nI (by omega) (by decide), if_pos rfl, nI_clamp (by omega), w2, af_7_ok (who i) (by omega), rb_ib_nI (by omega) (by decide), if_pos rfl, nI_clamp (by omega), g2, jm, rb_b1_some, rb_lt_eq, ← hs7]
        have e7 : s7.1 239 i = nI (af_sN n (fun i => goal (who i)) i) := by rw [hs7, rb_sI_eq]
        rw [rb_lt_eq, e7, nI_add, nI_1]; exact R1
      · rw [R3, af_s_tail (fun k => (af_sN n (fun i => goal (who i)) k : Int)) hin]; omega
theorem sx_fewest (h3 : 3 ≤ n) (h7 : n ≤ 7) (V : VX n who goal σ) (G : af_gw n (fun i => goal (who i))) : ∃ (N : Nat) (σ' : rb_St), xf_Way_fewest σ = some (nI N, σ') ∧ N < 100000 ∧ af_R n N (fun i => goal (who i)) ∧ (∀ M, M < N → ¬ af_R n M (fun i => goal (who i))) ∧ rb_fr (fun c _ => c = 239) σ σ' := by
  obtain ⟨g, hg⟩ : ∃ g : Nat → Nat, g = fun i => goal (who i) := ⟨_, rfl⟩
  rw [← hg] at G ⊢
  have p2 : 2 ^ n ≤ 2 ^ 7 := Nat.pow_le_pow_right (by omega) h7
  have p7 : (2 : Nat) ^ 7 = 128 := rfl
  obtain ⟨R, s12, R1, R2, R3, R4⟩ := sx_few14 (who := who) (goal := goal) h3 h7 rb_FU 0 0 σ (by omega) (by unfold rb_FU; omega) V (fun k hk => by omega)
  rw [← hg] at R2 R3
  have R1' : xl_Way_fewest_14 rb_FU 0 0 σ = some (nI R, s12) := R1
  have Wx : WX n g s12 := ⟨(R4.1 236 0 (by omega)).trans V.1, R2⟩
  obtain ⟨K, K1, K2⟩ := af_many h3 G
  have RK : (R : Int) = n * K := by
    rw [R3, ← K2]
    have : af_s n (fun k => if 0 ≤ k then (af_sN n g k : Int) else 0) = af_s n (fun i => af_sd n g i) := af_s_co n (fun k hk => by rw [if_pos (Nat.zero_le _), af_sN_sd (by omega) h7 hk])
    rw [this]; omega
  have RK' : R = n * K := by
    have : ((n * K : Nat) : Int) = (n : Int) * K := Int.natCast_mul n K
    omega
  have RKd : R / n = K := by rw [RK']; exact Nat.mul_div_cancel_left K (by omega)
  have Rb : R < 2 ^ 31 := by
    have : n * K ≤ 7 * 7 := Nat.mul_le_mul h7 (by omega)
    omega
  have lfx : ∀ x, x < 2 ^ n → af_bc x = K → af_lf n g (af_E n g x) := fun x hx hb => af_cls_lf (bs := fun i => x.testBit i) h3 (by
    have := af_bc_s h7 hx
    rw [K2, ← this, hb])
  have l0 := af_cls_lf (g := g) (bs := fun i => decide (i < K)) h3 (by rw [K2, af_cntlt n K K1])
  obtain ⟨N, N1, N2, N3, f, f1, f2, f3⟩ := af_dist h3 G l0
  obtain ⟨bs, hbs⟩ := af_cls h3 f1 f2
  obtain ⟨x, x1, x2⟩ := af_mask n bs
  have fE : ∀ i, i < n → f i = af_E n g x i := fun i hi => by rw [hbs i hi]; unfold af_E; rw [x2 i hi]
  have LE : af_L n (af_E n g x) = N := by rw [← f3]; exact (af_L_co fE).symm
  have bx : af_bc x = K := by
    have s1 := (af_lf_co fE f1).2
    have s2 := af_cls_bc (g := g) (bs := fun i => x.testBit i) s1
    rw [K2, ← af_bc_s h7 x1] at s2
    have := Int.eq_of_mul_eq_mul_left (show (n : Int) ≠ 0 by omega) s2
    omega
  obtain ⟨Rx, y1, y2, y3⟩ := sx_cw h3 h7 Wx (x := x) (by omega)
  have hN : N < 100000 := by omega
  have few := sx_few80 h3 h7 Wx (k := K) (by omega) hN (fun x hx hb => N3 _ (lfx x hx hb)) rb_FU 0 1000 (by omega) (by unfold rb_FU; omega) (by omega) (by omega) (Or.inr ⟨x, by omega, x1, bx, LE⟩)
  have few' : xl_Way_fewest_80 (nI K) s12 rb_FU 1000 0 = some (nI N) := few
  refine ⟨N, s12, ?_, hN, N1, N2, R4⟩
  unfold xf_Way_fewest
  rw [V.1, if_pos (show (1 : Int32) ≤ nI n from nI_le (a := 1) (by omega) (by omega)), R1', rb_b2_some, Wx.1, if_neg (nI_ne0 (by omega) (by omega)), pk_div Rb (by omega) (by omega), RKd, few', rb_b1_some]
end AFY
