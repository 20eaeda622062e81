/-! A LAW IS READ: sums whole, comparisons, truths -/
def SumOK (m : Nat) (t : Nat → Nat) (tx p dX dM : Nat) : Prop := LOK m t tx p (3 * (7 - p)) (pS (2 * p + 3)) ((xG_LR dX).2.2.2.2.2.1 (nI p)) (xG_ML dM).2.2.1
def CmpOK (m : Nat) (t : Nat → Nat) (tx p dX dM : Nat) : Prop := LOK m t tx p (3 * (7 - p) + 1) (pC (2 * p + 2)) ((xG_LR dX).2.2.2.2.1 (nI p)) (xG_ML dM).2.2.2.1
def UnitOK (m : Nat) (t : Nat → Nat) (tx p dX dM : Nat) : Prop := LOK m t tx p (4 * (7 - p)) (pU (2 * p + 2)) ((xG_LR dX).2.2.2.1 (nI p)) (xG_ML dM).2.2.2.2.1
def AndOK (m : Nat) (t : Nat → Nat) (tx p dX dM : Nat) : Prop := LOK m t tx p (4 * (7 - p) + 1) (pA (2 * p + 1)) ((xG_LR dX).2.2.1 (nI p)) (xG_ML dM).2.2.2.2.2.1
def MoreOK (m : Nat) (t : Nat → Nat) (tx p dX dM : Nat) : Prop := LOK m t tx p (4 * (7 - p) + 2) (pA (2 * p)) ((xG_LR dX).2.1 (nI p)) (fun τ => rb_b1 ((xG_ML dM).2.2.2.2.2.1 τ) fun s => (xG_ML dM).2.2.2.2.2.2.1 s)
def CondOK (m : Nat) (t : Nat → Nat) (tx p dX dM : Nat) : Prop := LOK m t tx p (4 * (7 - p) + 2) (pU (2 * p)) ((xG_LR dX).1 (nI p)) (xG_ML dM).2.2.2.2.2.2.2
section RBLU
variable {m p tx : Nat} {t : Nat → Nat}
theorem LOK_mo {K K' : Nat} {P P' : List sp_Tk → Prop} {fX : rb_St → Option (Int32 × rb_St)} {fM : rb_St → Option rb_St} (hK : K ≤ K') (hP : ∀ us, P us → P' us) (h : LOK m t tx p K P fX fM) : LOK m t tx p K' P' fX fM := by
  intro a xs ts σ τ ha hxs hts Q
  obtain ⟨r, σ', τ', x1, x2, x3, x4, x5⟩ := h a xs ts σ τ ha hxs hts Q
  refine ⟨r, σ', τ', x1, x2, x3, x4, ?_⟩
  rcases x5 with ⟨n1, e, us, n2, n3, n4, n5, n6, n7⟩ | ⟨n1, e, n2, n3, n4⟩
  · exact Or.inl ⟨n1, e, us, n2, n3, n4, n5, hP us n6, n7⟩
  · exact Or.inr ⟨n1, e, n2, n3, FT_mo hK n4⟩
theorem rb_sumStep (W : tw m t) (htx : tx ≤ 4) (hp : p ≤ 6) {dX dM : Nat} (H : p < 6 → SumOK m t tx (p + 1) dX dM) : SumOK m t tx p (dX + 3) (dM + 3) := by
  have A : LOK m t tx p (3 * (7 - p) - 2) (pS (2 * p + 5)) ((xG_LR (dX + 1)).2.2.2.2.2.2.2 (nI p)) (xG_ML (dM + 1)).1 := rb_atomOK (gX := xG_LR dX) (gM := xG_ML dM) W htx hp (by omega) (by omega) (fun h => LOK_mo (by omega) (fun us q => q) (H h))
  have T : LOK m t tx p (3 * (7 - p) - 2 + 1) (pS (2 * p + 4)) ((xG_LR (dX + 2)).2.2.2.2.2.2.1 (nI p)) (xG_ML (dM + 2)).2.1 := rb_binOK (c1 := 4) (c2 := 5) (s1 := 42) (s2 := 47) (LX := xl_LR_readTerm_12 (xG_LR (dX + 1)) (nI p)) (LM := xl_M_term_21 (xG_ML (dM + 1))) W htx (by omega) (by omega) (by omega) (by omega) (by decide) (by decide) A (fun f x σ => rfl) (fun f x σ => rfl)
  have Sm : LOK m t tx p (3 * (7 - p) - 2 + 1 + 1) (pS (2 * p + 3)) ((xG_LR (dX + 3)).2.2.2.2.2.1 (nI p)) (xG_ML (dM + 3)).2.2.1 := rb_binOK (c1 := 2) (c2 := 3) (s1 := 43) (s2 := 45) (LX := xl_LR_readSum_12 (xG_LR (dX + 2)) (nI p)) (LM := xl_M_sum_21 (xG_ML (dM + 2))) W htx (by omega) (by omega) (by omega) (by omega) (by decide) (by decide) T (fun f x σ => rfl) (fun f x σ => rfl)
  exact LOK_mo (by omega) (fun us q => q) Sm
theorem rb_sumAll (W : tw m t) (htx : tx ≤ 4) : ∀ (k p dX dM : Nat), p + k = 6 → 3 * k + 3 ≤ dX → 3 * k + 3 ≤ dM → SumOK m t tx p dX dM := by
  intro k
  induction k with
  | zero =>
    intro p dX dM hp hX hM
    obtain ⟨dX, rfl⟩ : ∃ q, dX = q + 3 := ⟨dX - 3, by omega⟩
    obtain ⟨dM, rfl⟩ : ∃ q, dM = q + 3 := ⟨dM - 3, by omega⟩
    exact rb_sumStep W htx (by omega) (fun h => by omega)
  | succ k ih =>
    intro p dX dM hp hX hM
    obtain ⟨dX, rfl⟩ : ∃ q, dX = q + 3 := ⟨dX - 3, by omega⟩
    obtain ⟨dM, rfl⟩ : ∃ q, dM = q + 3 := ⟨dM - 3, by omega⟩
    exact rb_sumStep W htx (by omega) (fun h => ih (p + 1) dX dM (by omega) (by omega) (by omega))
theorem rb_cmpOK (W : tw m t) (htx : tx ≤ 4) (hp : p ≤ 6) {dX dM : Nat} (H : SumOK m t tx p dX dM) : CmpOK m t tx p (dX + 1) (dM + 1) := by
  have hm := W.1
  intro a xs ts σ τ ha hxs hts Q
  obtain ⟨s1, u1, b1, b2, b3, b4, b5⟩ := LS_look W ha Q
  obtain ⟨hz1, hz2⟩ := sp_sk_le (t := t) ha
  obtain ⟨z, hz⟩ : ∃ z, z = sp_sk t m a := ⟨_, rfl⟩
  rw [← hz] at b1 b2 b3 hz1 hz2
  show ∃ r σ' τ', xb_LR_readComparison (xG_LR dX) (nI p) σ = some (r, σ') ∧ xb_M_compare (xG_ML dM) τ = some τ' ∧ _
  unfold xb_LR_readComparison xb_M_compare xj_M_compare_16
  rw [b1, if_pos Q.2.2.1, b2, rb_b2_some, rb_b2_some]
  have ei : ∀ x σ τ, xf_LR_isComparison x σ = xf_M_isSign x τ := fun _ _ _ => rfl
  rw [ei _ s1 u1]
  by_cases hc : xf_M_isSign (sp_sg t m z) u1 = 0
  · obtain ⟨ub, g1, g2, g3⟩ := LS_FT b3 (show ts.length ≤ 240 by omega)
    rw [if_pos hc, if_pos hc, g1, rb_b1_some]
    exact ⟨0, s1, ub, rfl, rfl, b4, b5.tr g3, Or.inr ⟨rfl, z, hz2, b3.1.2.2, FT_mo (by omega) g2⟩⟩
  · have h3 : sp_sg t m z = 61 ∨ sp_sg t m z = 60 ∨ sp_sg t m z = 62 := by
      unfold xf_M_isSign at hc
      by_cases h1 : sp_sg t m z = 61
      · exact Or.inl h1
      · by_cases h2 : sp_sg t m z = 60
        · exact Or.inr (Or.inl h2)
        · by_cases h3 : sp_sg t m z = 62
          · exact Or.inr (Or.inr h3)
          · rw [if_neg h1, if_neg h2, if_neg h3] at hc; exact absurd rfl hc
    have hzm := sp_sg_lt W (show sp_sg t m z ≠ -1 by rcases h3 with h | h | h <;> rw [h] <;> decide)
    obtain ⟨d1, d2, d3⟩ := LS_pass b3
    obtain ⟨r9, s7, u5, x1, x2, x3, x4, x5⟩ := H (z + 1) xs ts _ _ (by omega) (by omega) (by omega) d1
    rw [if_neg hc, if_neg hc, b3.1.2.2, b3.2.1.2.2, nI_1, rb_lt_eq, rb_lt_eq, x1, x2, rb_b2_some, rb_b1_some]
    have fs := (b4.tr d2).tr x3
    have fu := (b5.tr d3).tr x4
    rcases x5 with ⟨n1, e, us, n2, n3, n4, n5, n6, n7⟩ | ⟨n1, e, n2, n3, n4⟩
    · rw [if_neg (show ¬ r9 = 0 by rw [n1]; decide)]
      have go : ∀ (c : Nat) (kx cm : Int32), 6 ≤ c → c < 9 → kx = sp_cx (c, 0) → cm = nI c → ∃ r σ' τ', (rb_b1 (xf_Law_add kx s7) fun s17 => some ((1 : Int32), s17)) = some (r, σ') ∧ (rb_b1 (xf_M_put cm 0 u5) fun s13 => some s13) = some τ' ∧ rb_fr scLX σ σ' ∧ rb_fr (scLM tx) τ τ' ∧ lOut m t tx p (3 * (7 - p) + 1) a xs ts (pC (2 * p + 2)) r σ' τ' := by
        intro c kx cm hc6 hc9 hk hcm
        have l1 : (xs ++ us.map sp_cx).length < 240 := by rw [List.length_append, List.length_map]; omega
        have l2 : (ts ++ us).length < 520 := by rw [List.length_append]; omega
        obtain ⟨s19, u10, p1, p2, p3, p4, p5⟩ := rb_lput htx (tk := (c, 0)) (v := 0) (fun w => by simp only at w; omega) n7 l1 l2
        have p2' : xf_M_put (nI c) 0 u5 = some u10 := p2
        rw [hk, hcm, p1, p2', rb_b1_some, rb_b1_some]
        refine ⟨1, s19, u10, rfl, rfl, fs.tr p4, fu.tr p5, Or.inl ⟨rfl, e, us ++ [(c, 0)], by omega, n3, by simp only [List.length_append, List.length_cons, List.length_nil]; omega, fun q hq => ?_, fun T hT => ?_, ?_⟩⟩
        · rcases List.mem_append.1 hq with h | h
          · exact n5 q h
          · rw [List.mem_singleton] at h
            rw [h]; exact ⟨by show c < 12; omega, fun w => by simp only at w; omega, fun w => by simp only at w; omega⟩
        · exact sp_tyl_app (n6 (false :: T) (by simp only [List.length_cons]; omega)) (sp_tyC hc6 hc9 (by omega))
        · rw [List.map_append, ← List.append_assoc, ← List.append_assoc]; exact p3
      rcases h3 with h | h | h
      · rw [h, if_pos rfl, if_pos rfl]
        exact go 6 (-15) 6 (by omega) (by omega) rfl rfl
      · rw [h, if_neg (by decide), if_pos rfl, if_neg (by decide), if_pos rfl]
        exact go 7 (-16) 7 (by omega) (by omega) rfl rfl
      · rw [h, if_neg (by decide), if_neg (by decide), if_neg (by decide), if_neg (by decide)]
        exact go 8 (-17) 8 (by omega) (by omega) rfl rfl
    · rw [if_pos n1]
      have go : ∀ cm : Int32, ∃ r σ' τ', some ((0 : Int32), s7) = some (r, σ') ∧ (rb_b1 (xf_M_put cm 0 u5) fun s13 => some s13) = some τ' ∧ rb_fr scLX σ σ' ∧ rb_fr (scLM tx) τ τ' ∧ lOut m t tx p (3 * (7 - p) + 1) a xs ts (pC (2 * p + 2)) r σ' τ' := by
        intro cm
        obtain ⟨u10, p1, p2, p3⟩ := sm_fput htx (by omega) n4 cm 0
        rw [p1, rb_b1_some]
        exact ⟨0, s7, u10, rfl, rfl, fs, fu.tr p3, Or.inr ⟨rfl, e, n2, n3, p2⟩⟩
      rcases h3 with h | h | h
      · rw [h, if_pos rfl]
        exact go 6
      · rw [h, if_neg (by decide), if_pos rfl]
        exact go 7
      · rw [h, if_neg (by decide), if_neg (by decide)]
        exact go 8
theorem rb_unitOK (W : tw m t) (htx : tx ≤ 4) (hp : p ≤ 6) {dX dM : Nat} (HU : p < 6 → UnitOK m t tx (p + 1) dX dM) (HC : p < 6 → CondOK m t tx (p + 1) dX dM) (HS : SumOK m t tx p dX dM) (HM : CmpOK m t tx p dX dM) : UnitOK m t tx p (dX + 1) (dM + 1) := by
  have hm := W.1
  intro a xs ts σ τ ha hxs hts Q
  obtain ⟨s1, u1, b1, b2, b3, b4, b5⟩ := LS_look W ha Q
  obtain ⟨hz1, hz2⟩ := sp_sk_le (t := t) ha
  obtain ⟨z, hz⟩ : ∃ z, z = sp_sk t m a := ⟨_, rfl⟩
  rw [← hz] at b1 b2 b3 hz1 hz2
  show ∃ r σ' τ', xb_LR_readUnit (xG_LR dX) (nI p) σ = some (r, σ') ∧ xb_M_unit (xG_ML dM) τ = some τ' ∧ _
  unfold xb_LR_readUnit xb_M_unit
  rw [b1, b2, rb_b2_some, rb_b2_some]
  obtain ⟨s20, u9, o1, o2, o3, o4⟩ := rb_opens hp (show ts.length ≤ 240 by omega) b3
  by_cases h33 : sp_sg t m z = 33
  · have hzm := sp_sg_lt W (show sp_sg t m z ≠ -1 by rw [h33]; decide)
    rw [if_pos h33, if_pos h33, o3, rb_b1_some]
    rcases o4 with ⟨n1, n2, n3⟩ | ⟨n1, n2, n3, n4⟩
    · rw [n2, rb_b2_some, if_neg (show ¬ (1 : Int32) = 0 by decide), if_pos n3.2.2.1, nI_1]
      obtain ⟨r32, s30, u21, x1, x2, x3, x4, x5⟩ := HU n1 (z + 1) xs ts s20 u9 (by omega) (by omega) (by omega) n3
      rw [x1, x2, rb_b2_some, rb_b1_some]
      rcases x5 with ⟨i1, e, us, i2, i3, i4, i5, i6, i7⟩ | ⟨i1, e, i2, i3, i4⟩
      · have l1 : (xs ++ us.map sp_cx).length < 240 := by rw [List.length_append, List.length_map]; omega
        have l2 : (ts ++ us).length < 520 := by rw [List.length_append]; omega
        obtain ⟨s34, u23, p1, p2, p3, p4, p5⟩ := rb_lput htx (tk := (9, 0)) (v := 0) (fun w => by simp only at w; omega) i7 l1 l2
        have p1' : xf_Law_add (-20) s30 = some s34 := p1
        have p2' : xf_M_put 9 0 u21 = some u23 := p2
        obtain ⟨q1, q2, q3, q4, q5⟩ := p3
        have f5 : rb_fr (fun c i => c = 0 ∧ i = 5) u23 (rb_sI u23 0 5 (nI p)) := rb_fr.sI ⟨rfl, rfl⟩
        rw [if_neg (show ¬ r32 = 0 by rw [i1]; decide), p1', rb_b1_some, p2', rb_b1_some, q4, nI_pred, rb_lt_eq]
        refine ⟨1, s34, _, rfl, rfl, ((b4.tr o1).tr x3).tr p4, (((b5.tr o2).tr x4).tr p5).tr (f5.mo (fun c i q => Or.inl ⟨q.1, Or.inr (Or.inr q.2)⟩)), Or.inl ⟨rfl, e, us ++ [(9, 0)], by omega, i3, by simp only [List.length_append, List.length_cons, List.length_nil]; omega, fun q hq => ?_, fun T hT => ?_, ?_⟩⟩
        · rcases List.mem_append.1 hq with h | h
          · exact i5 q h
          · rw [List.mem_singleton] at h
            rw [h]; exact ⟨by show 9 < 12; omega, fun w => by simp only at w; omega, fun w => by simp only at w; omega⟩
        · exact sp_tyl_app (i6 T (by omega)) (sp_tyN (by omega))
        · rw [List.map_append, ← List.append_assoc, ← List.append_assoc]
          exact ⟨q1, TM_fr f5 (fun c i w => by omega) q2, (f5.1 0 4 (by omega)).trans q3, rb_sI_eq _ _ _ _, LB_fr (rb_fr.rf (ch := fun _ _ => False)) f5 (fun c i w => w.elim) (fun c i w => by omega) q5⟩
      · obtain ⟨u23, p1, p2, p3⟩ := sm_fput htx (by omega) i4 9 0
        have f5 : rb_fr (fun c i => c = 0 ∧ i = 5) u23 (rb_sI u23 0 5 (u23.1 0 5 - 1)) := rb_fr.sI ⟨rfl, rfl⟩
        rw [if_pos i1, p1, rb_b1_some, rb_lt_eq]
        exact ⟨0, s30, _, rfl, rfl, (b4.tr o1).tr x3, (((b5.tr o2).tr x4).tr p3).tr (f5.mo (fun c i q => Or.inl ⟨q.1, Or.inr (Or.inr q.2)⟩)), Or.inr ⟨rfl, e, i2, i3, FT_mo (by omega) (FT_fr f5 (fun c i w => by omega) p2)⟩⟩
    · rw [n2, rb_b2_some, if_pos rfl, n4.1, if_neg (rb_neg1 (show z < 2 ^ 31 by omega))]
      exact ⟨0, s20, u9, rfl, rfl, b4.tr o1, b5.tr o2, Or.inr ⟨rfl, z, hz2, n3, FT_mo (by omega) n4⟩⟩
  · by_cases h40 : sp_sg t m z = 40
    · have hzm := sp_sg_lt W (show sp_sg t m z ≠ -1 by rw [h40]; decide)
      rw [if_neg h33, if_neg h33, if_pos h40, if_pos h40, o3, rb_b1_some]
      rcases o4 with ⟨n1, n2, n3⟩ | ⟨n1, n2, n3, n4⟩
      · rw [n2, rb_b2_some, if_neg (show ¬ (1 : Int32) = 0 by decide), if_pos n3.2.2.1, nI_1]
        obtain ⟨r26, s24, u12, x1, x2, x3, x4, x5⟩ := HC n1 (z + 1) xs ts s20 u9 (by omega) (by omega) (by omega) n3
        rw [x1, x2, rb_b2_some, rb_b1_some]
        rcases x5 with ⟨i1, e, us, i2, i3, i4, i5, i6, i7⟩ | ⟨i1, e, i2, i3, i4⟩
        · rw [if_neg (show ¬ r26 = 0 by rw [i1]; decide)]
          obtain ⟨s28, u14, y1, y2, y3, y4⟩ := rb_closes W 41 (by decide) i3 (by simp only [List.length_append]; omega) i7
          have hle := sp_sk_le (t := t) i3
          rw [y3, rb_b1_some]
          rcases y4 with ⟨y5, y6, y7⟩ | ⟨y5, y6, y7⟩
          · rw [y5, rb_b2_some, if_neg (show ¬ (1 : Int32) = 0 by decide)]
            exact ⟨1, s28, u14, rfl, rfl, ((b4.tr o1).tr x3).tr y1, ((b5.tr o2).tr x4).tr y2, Or.inl ⟨rfl, sp_sk t m e + 1, us, by omega, by omega, by omega, i5, fun T hT => i6 T (by omega), y7⟩⟩
          · rw [y5, rb_b2_some, if_pos rfl]
            exact ⟨0, s28, u14, rfl, rfl, ((b4.tr o1).tr x3).tr y1, ((b5.tr o2).tr x4).tr y2, Or.inr ⟨rfl, sp_sk t m e, by omega, y6, FT_mo (by omega) y7⟩⟩
        · obtain ⟨u14, y1, y2, y3⟩ := sm_fcloses (show e < 2 ^ 31 by omega) 41 i4
          rw [if_pos i1, y1, rb_b1_some]
          exact ⟨0, s24, u14, rfl, rfl, (b4.tr o1).tr x3, ((b5.tr o2).tr x4).tr y3, Or.inr ⟨rfl, e, i2, i3, FT_mo (by omega) y2⟩⟩
      · rw [n2, rb_b2_some, if_pos rfl, n4.1, if_neg (rb_neg1 (show z < 2 ^ 31 by omega))]
        exact ⟨0, s20, u9, rfl, rfl, b4.tr o1, b5.tr o2, Or.inr ⟨rfl, z, hz2, n3, FT_mo (by omega) n4⟩⟩
    · rw [if_neg h33, if_neg h33, if_neg h40, if_neg h40]
      obtain ⟨r8, s6, u6, x1, x2, x3, x4, x5⟩ := HS z xs ts s1 u1 hz2 (by omega) (by omega) b3
      rw [x1, x2, rb_b2_some, rb_b1_some]
      rcases x5 with ⟨i1, e, us, i2, i3, i4, i5, i6, i7⟩ | ⟨i1, e, i2, i3, i4⟩
      · rw [if_neg (show ¬ r8 = 0 by rw [i1]; decide), if_pos i7.2.2.1]
        obtain ⟨r12, s10, u9', y1, y2, y3, y4, y5⟩ := HM e _ _ s6 u6 i3 (by simp only [List.length_append, List.length_map]; omega) (by simp only [List.length_append]; omega) i7
        rw [y1, y2, rb_b2_some, rb_b1_some]
        rcases y5 with ⟨j1, e2, vs, j2, j3, j4, j5, j6, j7⟩ | ⟨j1, e2, j2, j3, j4⟩
        · rw [if_neg (show ¬ r12 = 0 by rw [j1]; decide)]
          refine ⟨1, s10, u9', rfl, rfl, (b4.tr x3).tr y3, (b5.tr x4).tr y4, Or.inl ⟨rfl, e2, us ++ vs, by omega, j3, by simp only [List.length_append]; omega, fun q hq => ?_, fun T hT => sp_tyl_app (i6 T (by omega)) (j6 T hT), ?_⟩⟩
          · rcases List.mem_append.1 hq with h | h
            · exact i5 q h
            · exact j5 q h
          · rw [List.map_append, ← List.append_assoc, ← List.append_assoc]; exact j7
        · rw [if_pos j1]
          exact ⟨0, s10, u9', rfl, rfl, (b4.tr x3).tr y3, (b5.tr x4).tr y4, Or.inr ⟨rfl, e2, j2, j3, FT_mo (by omega) j4⟩⟩
      · rw [if_pos i1, i4.1, if_neg (rb_neg1 (show e < 2 ^ 31 by omega))]
        exact ⟨0, s6, u6, rfl, rfl, b4.tr x3, b5.tr x4, Or.inr ⟨rfl, e, i2, i3, FT_mo (by omega) i4⟩⟩
end RBLU
