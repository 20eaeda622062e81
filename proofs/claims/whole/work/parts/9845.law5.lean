/-! A LAW IS READ: truths joined -/
section RBLV
variable {m p tx : Nat} {t : Nat → Nat}
theorem sm_fAnd (G : xg_ML) {K e : Nat} {τ : rb_St} (he : e < 2 ^ 31) (h : FT tx K e τ) : xb_M_goOnAnd G τ = some τ := by
  obtain ⟨F, hF⟩ : ∃ G, rb_FU = G + 1 := ⟨99999, rfl⟩
  have e0 : xl_M_goOnAnd_0 G rb_FU τ = some τ := by
    rw [hF]
    show (if (τ.1 0 4) = (-1) then _ else some τ) = _
    rw [h.1, if_neg (rb_neg1 he)]
  unfold xb_M_goOnAnd
  rw [e0, rb_b1_some]
theorem sm_fOr (G : xg_ML) {K e : Nat} {τ : rb_St} (he : e < 2 ^ 31) (h : FT tx K e τ) : xb_M_goOnOr G τ = some τ := by
  obtain ⟨F, hF⟩ : ∃ G, rb_FU = G + 1 := ⟨99999, rfl⟩
  have e0 : xl_M_goOnOr_0 G rb_FU τ = some τ := by
    rw [hF]
    show (if (τ.1 0 4) = (-1) then _ else some τ) = _
    rw [h.1, if_neg (rb_neg1 he)]
  unfold xb_M_goOnOr
  rw [e0, rb_b1_some]
theorem rb_andl (W : tw m t) (htx : tx ≤ 4) (hp : p ≤ 6) {dX dM : Nat} (U : UnitOK m t tx p dX dM) : ∀ (r q a f g : Nat) (xs : List Int32) (ts : List sp_Tk) (σ τ : rb_St), m < a + r → r < f → r + 1 < g → 2 * q ≤ a → a ≤ m → xs.length ≤ a → ts.length ≤ a → rb_LS m t tx p a xs ts σ τ → ∃ cd σ' τ', xl_LR_readMoreOfTruth_2 (xG_LR dX) (nI p) f (nI q) σ = some (cd, σ') ∧ xl_M_goOnAnd_0 (xG_ML dM) g τ = some τ' ∧ rb_fr scLX σ σ' ∧ rb_fr (scLM tx) τ τ' ∧ lOut m t tx p (4 * (7 - p) + 1) a xs ts (pA (2 * p + 1)) (if cd = 0 then 0 else 1) σ' τ' := by
  have hm := W.1
  intro r
  induction r with
  | zero => intro q a f g xs ts σ τ h1 _ _ _ h2; omega
  | succ r ih =>
    intro q a f g xs ts σ τ hr hf hg hq ha hxs hts Q
    obtain ⟨f, rfl⟩ : ∃ q, f = q + 1 := ⟨f - 1, by omega⟩
    obtain ⟨g, rfl⟩ : ∃ q, g = q + 1 + 1 := ⟨g - 2, by omega⟩
    obtain ⟨s1, u1, b1, b2, b3, b4, b5⟩ := LS_look W ha Q
    obtain ⟨hz1, hz2⟩ := sp_sk_le (t := t) ha
    obtain ⟨z, hz⟩ : ∃ z, z = sp_sk t m a := ⟨_, rfl⟩
    rw [← hz] at b1 b2 b3 hz1 hz2
    have SX : xl_LR_readMoreOfTruth_2 (xG_LR dX) (nI p) (f + 1) (nI q) σ = rb_b2 (xf_Rd_passesL 38 σ) fun r4 s2 => if r4 = 0 then some (1, s2) else rb_b2 ((xG_LR dX).2.2.2.1 (nI p) s2) fun r8 s6 => if r8 = 0 then some (0, s6) else rb_b1 (xf_Law_add (-18) s6) fun s10 => xl_LR_readMoreOfTruth_2 (xG_LR dX) (nI p) f (nI q + 1) s10 := by
      show (if 240 ≤ nI q then some (1, σ) else _) = _
      rw [if_neg (show ¬ (240 : Int32) ≤ nI q from nI_ge (b := 240) (by omega) (by decide))]
    have SM : ∀ g u, xl_M_goOnAnd_0 (xG_ML dM) (g + 1) u = if (u.1 0 4) = (-1) then rb_b2 (xf_M_look u) fun r4 s2 => if r4 = 38 then rb_lt (rb_sI s2 0 3 ((s2.1 0 3) + 1)) (fun s6 => rb_b1 ((xG_ML dM).2.2.2.2.1 s6) fun s8 => rb_b1 (xf_M_put 10 0 s8) fun s10 => xl_M_goOnAnd_0 (xG_ML dM) g s10) else some s2 else some u := fun _ _ => rfl
    rw [SX, SM (g + 1), if_pos Q.2.2.1]
    unfold xf_Rd_passesL
    rw [b1, b2, rb_b2_some, rb_b2_some]
    by_cases h : sp_sg t m z = 38
    · have hzm := sp_sg_lt W (show sp_sg t m z ≠ -1 by rw [h]; decide)
      obtain ⟨d1, d2, d3⟩ := LS_pass b3
      rw [if_pos h, if_pos h, b3.1.2.2, b3.2.1.2.2, nI_1, rb_lt_eq, rb_lt_eq, rb_b2_some, if_neg (show ¬ (1 : Int32) = 0 by decide)]
      obtain ⟨r8, s6, u8, x1, x2, x3, x4, x5⟩ := U (z + 1) xs ts _ _ (by omega) (by omega) (by omega) d1
      rw [x1, x2, rb_b2_some, rb_b1_some]
      have fs := (b4.tr d2).tr x3
      have fu := (b5.tr d3).tr x4
      rcases x5 with ⟨n1, e, us, n2, n3, n4, n5, n6, n7⟩ | ⟨n1, e, n2, n3, n4⟩
      · have hne1 : 1 ≤ us.length := pU_ne n6
        have l1 : (xs ++ us.map sp_cx).length < 240 := by rw [List.length_append, List.length_map]; omega
        have l2 : (ts ++ us).length < 520 := by rw [List.length_append]; omega
        obtain ⟨s10, u10, p1, p2, p3, p4, p5⟩ := rb_lput htx (tk := (10, 0)) (v := 0) (fun w => by simp only at w; omega) n7 l1 l2
        have p1' : xf_Law_add (-18) s6 = some s10 := p1
        have p2' : xf_M_put 10 0 u8 = some u10 := p2
        rw [if_neg (show ¬ r8 = 0 by rw [n1]; decide), p1', rb_b1_some, p2', rb_b1_some, nI_1]
        obtain ⟨cd, σ', τ', o1, o2, o3, o4, o5⟩ := ih (q + 1) e f (g + 1) _ _ s10 u10 (by omega) (by omega) (by omega) (by omega) n3 (by simp only [List.length_append, List.length_map, List.length_cons, List.length_nil]; omega) (by simp only [List.length_append, List.length_cons, List.length_nil]; omega) p3
        refine ⟨cd, σ', τ', o1, o2, (fs.tr p4).tr o3, (fu.tr p5).tr o4, ?_⟩
        rcases o5 with ⟨i1, e2, vs, i2, i3, i4, i5, i6, i7⟩ | i1
        · refine Or.inl ⟨i1, e2, us ++ ((10, 0) :: vs), by omega, i3, by simp only [List.length_append, List.length_cons]; omega, fun q hq => ?_, fun T hT => ?_, ?_⟩
          · rcases List.mem_append.1 hq with h | h
            · exact n5 q h
            · rcases List.mem_cons.1 h with h | h
              · rw [h]; exact ⟨by show 10 < 12; omega, fun w => by simp only at w; omega, fun w => by simp only at w; omega⟩
              · exact i5 q h
          · refine sp_tyl_app (n6 (true :: T) (by simp only [List.length_cons]; omega)) ?_
            exact sp_tyl_app (us := [(10, 0)]) (sp_tyB (by omega) (by omega) (by omega)) (i6 T hT)
          · have e1 : xs ++ (us ++ ((10, 0) :: vs)).map sp_cx = xs ++ us.map sp_cx ++ [sp_cx (10, 0)] ++ vs.map sp_cx := by simp
            have e2 : ts ++ (us ++ ((10, 0) :: vs)) = ts ++ us ++ [(10, 0)] ++ vs := by simp
            rw [e1, e2]; exact i7
        · exact Or.inr i1
      · obtain ⟨u10, p1, p2, p3⟩ := sm_fput htx (by omega) n4 10 0
        rw [if_pos n1, p1, rb_b1_some, SM g, p2.1, if_neg (rb_neg1 (show e < 2 ^ 31 by omega))]
        exact ⟨0, s6, u10, rfl, rfl, fs, fu.tr p3, Or.inr ⟨if_pos rfl, e, n2, n3, p2⟩⟩
    · rw [if_neg h, if_neg h, rb_b2_some, if_pos rfl]
      refine ⟨1, s1, u1, rfl, rfl, b4, b5, Or.inl ⟨if_neg (by decide), z, [], hz1, hz2, by simp, fun q hq => by simp at hq, fun T _ => rfl, ?_⟩⟩
      simp only [List.map_nil, List.append_nil]
      exact b3
theorem rb_andOK (W : tw m t) (htx : tx ≤ 4) (hp : p ≤ 6) {dX dM : Nat} (U : UnitOK m t tx p dX dM) : AndOK m t tx p (dX + 1) (dM + 1) := by
  have hm := W.1
  intro a xs ts σ τ ha hxs hts Q
  obtain ⟨cd, σ', τ', o1, o2, o3, o4, o5⟩ := rb_andl W htx hp U (m + 1) 0 a rb_FU rb_FU xs ts σ τ (by omega) (by unfold rb_FU; omega) (by unfold rb_FU; omega) (by omega) ha hxs hts Q
  refine ⟨if cd = 0 then 0 else 1, σ', τ', ?_, ?_, o3, o4, o5⟩
  · have o1' : xl_LR_readMoreOfTruth_2 (xG_LR dX) (nI p) rb_FU 0 σ = some (cd, σ') := o1
    show xb_LR_readMoreOfTruth (xG_LR dX) (nI p) σ = _
    unfold xb_LR_readMoreOfTruth
    rw [o1', rb_b2_some]
    by_cases h0 : cd = 0
    · rw [if_pos h0, if_pos h0]
    · rw [if_neg h0, if_neg h0]
  · show xb_M_goOnAnd (xG_ML dM) τ = _
    unfold xb_M_goOnAnd
    rw [o2, rb_b1_some]
theorem rb_orl (W : tw m t) (htx : tx ≤ 4) (hp : p ≤ 6) {dX dM : Nat} (U : UnitOK m t tx p dX (dM + 1)) (A : AndOK m t tx p dX (dM + 1)) : ∀ (r q a f g : Nat) (xs : List Int32) (ts : List sp_Tk) (σ τ : rb_St), m < a + r → r < f → r + 1 < g → 2 * q ≤ a → a ≤ m → xs.length ≤ a → ts.length ≤ a → rb_LS m t tx p a xs ts σ τ → ∃ cd σ' τ', xl_LR_readMoreUnits_12 (xG_LR dX) (nI p) f (nI q) σ = some (cd, σ') ∧ xl_M_goOnOr_0 (xG_ML (dM + 1)) g τ = some τ' ∧ rb_fr scLX σ σ' ∧ rb_fr (scLM tx) τ τ' ∧ lOut m t tx p (4 * (7 - p) + 2) a xs ts (pA (2 * p)) (if cd = 0 then 0 else 1) σ' τ' := by
  have hm := W.1
  intro r
  induction r with
  | zero => intro q a f g xs ts σ τ h1 _ _ _ h2; omega
  | succ r ih =>
    intro q a f g xs ts σ τ hr hf hg hq ha hxs hts Q
    obtain ⟨f, rfl⟩ : ∃ q, f = q + 1 := ⟨f - 1, by omega⟩
    obtain ⟨g, rfl⟩ : ∃ q, g = q + 1 + 1 := ⟨g - 2, by omega⟩
    obtain ⟨s1, u1, b1, b2, b3, b4, b5⟩ := LS_look W ha Q
    obtain ⟨hz1, hz2⟩ := sp_sk_le (t := t) ha
    obtain ⟨z, hz⟩ : ∃ z, z = sp_sk t m a := ⟨_, rfl⟩
    rw [← hz] at b1 b2 b3 hz1 hz2
    have SX : xl_LR_readMoreUnits_12 (xG_LR dX) (nI p) (f + 1) (nI q) σ = rb_b2 (xf_Rd_passesL 124 σ) fun r8 s6 => if r8 = 0 then some (1, s6) else rb_b2 ((xG_LR dX).2.2.2.1 (nI p) s6) fun r12 s10 => if r12 = 0 then some (0, s10) else rb_b2 ((xG_LR dX).2.2.1 (nI p) s10) fun r16 s14 => if r16 = 0 then some (0, s14) else rb_b1 (xf_Law_add (-19) s14) fun s18 => xl_LR_readMoreUnits_12 (xG_LR dX) (nI p) f (nI q + 1) s18 := by
      show (if 240 ≤ nI q then some (1, σ) else _) = _
      rw [if_neg (show ¬ (240 : Int32) ≤ nI q from nI_ge (b := 240) (by omega) (by decide))]
    have SM : ∀ g u, xl_M_goOnOr_0 (xG_ML (dM + 1)) (g + 1) u = if (u.1 0 4) = (-1) then rb_b2 (xf_M_look u) fun r4 s2 => if r4 = 124 then rb_lt (rb_sI s2 0 3 ((s2.1 0 3) + 1)) (fun s6 => rb_b1 ((xG_ML (dM + 1)).2.2.2.2.1 s6) fun s8 => rb_b1 ((xG_ML (dM + 1)).2.2.2.2.2.1 s8) fun s10 => rb_b1 (xf_M_put 11 0 s10) fun s12 => xl_M_goOnOr_0 (xG_ML (dM + 1)) g s12) else some s2 else some u := fun _ _ => rfl
    rw [SX, SM (g + 1), if_pos Q.2.2.1]
    unfold xf_Rd_passesL
    rw [b1, b2, rb_b2_some, rb_b2_some]
    by_cases h : sp_sg t m z = 124
    · have hzm := sp_sg_lt W (show sp_sg t m z ≠ -1 by rw [h]; decide)
      obtain ⟨d1, d2, d3⟩ := LS_pass b3
      rw [if_pos h, if_pos h, b3.1.2.2, b3.2.1.2.2, nI_1, rb_lt_eq, rb_lt_eq, rb_b2_some, if_neg (show ¬ (1 : Int32) = 0 by decide)]
      obtain ⟨r8, s6, u8, x1, x2, x3, x4, x5⟩ := U (z + 1) xs ts _ _ (by omega) (by omega) (by omega) d1
      rw [x1, x2, rb_b2_some, rb_b1_some]
      have fs := (b4.tr d2).tr x3
      have fu := (b5.tr d3).tr x4
      have bad : ∀ (s : rb_St) (u : rb_St) (K e : Nat), K ≤ 4 * (7 - p) + 1 → e ≤ m → s.1 7 1 = nI e → FT tx K e u → rb_fr scLX σ s → rb_fr (scLM tx) τ u → ∃ cd σ' τ', some (0, s) = some (cd, σ') ∧ (rb_b1 (xf_M_put 11 0 u) fun s12 => xl_M_goOnOr_0 (xG_ML (dM + 1)) (g + 1) s12) = some τ' ∧ rb_fr scLX σ σ' ∧ rb_fr (scLM tx) τ τ' ∧ lOut m t tx p (4 * (7 - p) + 2) a xs ts (pA (2 * p)) (if cd = 0 then 0 else 1) σ' τ' := by
        intro s u K e hK he hs hu f1 f2
        obtain ⟨u10, p1, p2, p3⟩ := sm_fput htx (by omega) hu 11 0
        rw [p1, rb_b1_some, SM g, p2.1, if_neg (rb_neg1 (show e < 2 ^ 31 by omega))]
        exact ⟨0, s, u10, rfl, rfl, f1, f2.tr p3, Or.inr ⟨if_pos rfl, e, he, hs, FT_mo (by omega) p2⟩⟩
      rcases x5 with ⟨n1, e, us, n2, n3, n4, n5, n6, n7⟩ | ⟨n1, e, n2, n3, n4⟩
      · have hne1 : 1 ≤ us.length := pU_ne n6
        rw [if_neg (show ¬ r8 = 0 by rw [n1]; decide)]
        obtain ⟨r16, s14, u9, y1, y2, y3, y4, y5⟩ := A e _ _ s6 u8 n3 (by simp only [List.length_append, List.length_map]; omega) (by simp only [List.length_append]; omega) n7
        rw [y1, y2, rb_b2_some, rb_b1_some]
        rcases y5 with ⟨j1, e2, vs, j2, j3, j4, j5, j6, j7⟩ | ⟨j1, e2, j2, j3, j4⟩
        · have l1 : (xs ++ us.map sp_cx ++ vs.map sp_cx).length < 240 := by simp only [List.length_append, List.length_map]; omega
          have l2 : (ts ++ us ++ vs).length < 520 := by simp only [List.length_append]; omega
          obtain ⟨s10, u10, p1, p2, p3, p4, p5⟩ := rb_lput htx (tk := (11, 0)) (v := 0) (fun w => by simp only at w; omega) j7 l1 l2
          have p1' : xf_Law_add (-19) s14 = some s10 := p1
          have p2' : xf_M_put 11 0 u9 = some u10 := p2
          rw [if_neg (show ¬ r16 = 0 by rw [j1]; decide), p1', rb_b1_some, p2', rb_b1_some, nI_1]
          obtain ⟨cd, σ', τ', o1, o2, o3, o4, o5⟩ := ih (q + 1) e2 f (g + 1) _ _ s10 u10 (by omega) (by omega) (by omega) (by omega) j3 (by simp only [List.length_append, List.length_map, List.length_cons, List.length_nil]; omega) (by simp only [List.length_append, List.length_cons, List.length_nil]; omega) p3
          refine ⟨cd, σ', τ', o1, o2, ((fs.tr y3).tr p4).tr o3, ((fu.tr y4).tr p5).tr o4, ?_⟩
          rcases o5 with ⟨i1, e3, ws, i2, i3, i4, i5, i6, i7⟩ | i1
          · refine Or.inl ⟨i1, e3, us ++ (vs ++ ((11, 0) :: ws)), by omega, i3, by simp only [List.length_append, List.length_cons]; omega, fun q hq => ?_, fun T hT => ?_, ?_⟩
            · rcases List.mem_append.1 hq with h | h
              · exact n5 q h
              · rcases List.mem_append.1 h with h | h
                · exact j5 q h
                · rcases List.mem_cons.1 h with h | h
                  · rw [h]; exact ⟨by show 11 < 12; omega, fun w => by simp only at w; omega, fun w => by simp only at w; omega⟩
                  · exact i5 q h
            · refine sp_tyl_app (n6 (true :: T) (by simp only [List.length_cons]; omega)) (sp_tyl_app (j6 (true :: T) (by simp only [List.length_cons]; omega)) ?_)
              exact sp_tyl_app (us := [(11, 0)]) (sp_tyB (by omega) (by omega) (by omega)) (i6 T hT)
            · have e1 : xs ++ (us ++ (vs ++ ((11, 0) :: ws))).map sp_cx = xs ++ us.map sp_cx ++ vs.map sp_cx ++ [sp_cx (11, 0)] ++ ws.map sp_cx := by simp
              have e2 : ts ++ (us ++ (vs ++ ((11, 0) :: ws))) = ts ++ us ++ vs ++ [(11, 0)] ++ ws := by simp
              rw [e1, e2]; exact i7
          · exact Or.inr i1
        · rw [if_pos j1]
          exact bad s14 u9 _ e2 (Nat.le_refl _) j2 j3 j4 (fs.tr y3) (fu.tr y4)
      · have ea : (xG_ML (dM + 1)).2.2.2.2.2.1 u8 = some u8 := sm_fAnd (xG_ML dM) (show e < 2 ^ 31 by omega) n4
        rw [if_pos n1, ea, rb_b1_some]
        exact bad s6 u8 _ e (by omega) n2 n3 n4 fs fu
    · rw [if_neg h, if_neg h, rb_b2_some, if_pos rfl]
      refine ⟨1, s1, u1, rfl, rfl, b4, b5, Or.inl ⟨if_neg (by decide), z, [], hz1, hz2, by simp, fun q hq => by simp at hq, fun T _ => rfl, ?_⟩⟩
      simp only [List.map_nil, List.append_nil]
      exact b3
theorem rb_moreOK (W : tw m t) (htx : tx ≤ 4) (hp : p ≤ 6) {dX dM : Nat} (U : UnitOK m t tx p dX (dM + 1)) (A : AndOK m t tx p dX (dM + 1)) (A2 : AndOK m t tx p dX (dM + 2)) : MoreOK m t tx p (dX + 1) (dM + 2) := by
  have hm := W.1
  intro a xs ts σ τ ha hxs hts Q
  obtain ⟨r3, s1, u1, x1, x2, x3, x4, x5⟩ := A2 a xs ts σ τ ha hxs hts Q
  have SX : (xG_LR (dX + 1)).2.1 (nI p) σ = rb_b2 ((xG_LR dX).2.2.1 (nI p) σ) fun r3 s1 => if r3 = 0 then some (0, s1) else rb_b2 (xl_LR_readMoreUnits_12 (xG_LR dX) (nI p) rb_FU 0 s1) fun t20 s21 => if t20 = 0 then some (0, s21) else some (1, s21) := rfl
  rw [SX, x1, rb_b2_some]
  simp only [x2, rb_b1_some]
  rcases x5 with ⟨n1, e, us, n2, n3, n4, n5, n6, n7⟩ | ⟨n1, e, n2, n3, n4⟩
  · obtain ⟨cd, σ', τ', o1, o2, o3, o4, o5⟩ := rb_orl W htx hp U A (m + 1) 0 e rb_FU rb_FU _ _ s1 u1 (by omega) (by unfold rb_FU; omega) (by unfold rb_FU; omega) (by omega) n3 (by simp only [List.length_append, List.length_map]; omega) (by simp only [List.length_append]; omega) n7
    have o1' : xl_LR_readMoreUnits_12 (xG_LR dX) (nI p) rb_FU 0 s1 = some (cd, σ') := o1
    have o2' : (xG_ML (dM + 2)).2.2.2.2.2.2.1 u1 = some τ' := by
      show xb_M_goOnOr (xG_ML (dM + 1)) u1 = _
      unfold xb_M_goOnOr
      rw [o2, rb_b1_some]
    rw [if_neg (show ¬ r3 = 0 by rw [n1]; decide), o1', rb_b2_some, o2']
    refine ⟨if cd = 0 then 0 else 1, σ', τ', ?_, rfl, x3.tr o3, x4.tr o4, ?_⟩
    · by_cases h0 : cd = 0
      · rw [if_pos h0, if_pos h0]
      · rw [if_neg h0, if_neg h0]
    · rcases o5 with ⟨i1, e2, vs, i2, i3, i4, i5, i6, i7⟩ | i1
      · refine Or.inl ⟨i1, e2, us ++ vs, by omega, i3, by simp only [List.length_append]; omega, fun q hq => ?_, fun T hT => sp_tyl_app (n6 T (by omega)) (i6 T hT), ?_⟩
        · rcases List.mem_append.1 hq with h | h
          · exact n5 q h
          · exact i5 q h
        · rw [List.map_append, ← List.append_assoc, ← List.append_assoc]; exact i7
      · exact Or.inr i1
  · have eo : (xG_ML (dM + 2)).2.2.2.2.2.2.1 u1 = some u1 := sm_fOr (xG_ML (dM + 1)) (show e < 2 ^ 31 by omega) n4
    rw [if_pos n1, eo]
    exact ⟨0, s1, u1, rfl, rfl, x3, x4, Or.inr ⟨rfl, e, n2, n3, FT_mo (by omega) n4⟩⟩
theorem rb_condOK (W : tw m t) (hp : p ≤ 6) {dX dM : Nat} (U : UnitOK m t tx p dX (dM + 1)) (M : MoreOK m t tx p dX (dM + 1)) : CondOK m t tx p (dX + 1) (dM + 2) := by
  have hm := W.1
  intro a xs ts σ τ ha hxs hts Q
  obtain ⟨r3, s1, u1, x1, x2, x3, x4, x5⟩ := U a xs ts σ τ ha hxs hts Q
  have SX : (xG_LR (dX + 1)).1 (nI p) σ = rb_b2 ((xG_LR dX).2.2.2.1 (nI p) σ) fun r3 s1 => if r3 = 0 then some (0, s1) else rb_b2 ((xG_LR dX).2.1 (nI p) s1) fun r7 s5 => if r7 = 0 then some (0, s5) else some (1, s5) := rfl
  have SM : (xG_ML (dM + 2)).2.2.2.2.2.2.2 τ = rb_b1 ((xG_ML (dM + 1)).2.2.2.2.1 τ) fun s1 => rb_b1 ((xG_ML (dM + 1)).2.2.2.2.2.1 s1) fun s3 => rb_b1 ((xG_ML (dM + 1)).2.2.2.2.2.2.1 s3) fun s5 => some s5 := rfl
  rw [SX, SM, x1, x2, rb_b2_some, rb_b1_some]
  rcases x5 with ⟨n1, e, us, n2, n3, n4, n5, n6, n7⟩ | ⟨n1, e, n2, n3, n4⟩
  · obtain ⟨r7, s5, u5, y1, y2, y3, y4, y5⟩ := M e _ _ s1 u1 n3 (by simp only [List.length_append, List.length_map]; omega) (by simp only [List.length_append]; omega) n7
    have y2' : (rb_b1 ((xG_ML (dM + 1)).2.2.2.2.2.1 u1) fun s3 => rb_b1 ((xG_ML (dM + 1)).2.2.2.2.2.2.1 s3) fun s5 => some s5) = some u5 := by
      have y2b : (rb_b1 ((xG_ML (dM + 1)).2.2.2.2.2.1 u1) fun s => (xG_ML (dM + 1)).2.2.2.2.2.2.1 s) = some u5 := y2
      cases hq : (xG_ML (dM + 1)).2.2.2.2.2.1 u1 with
      | none => rw [hq] at y2b; exact absurd y2b (by intro w; cases w)
      | some s3 =>
        rw [hq, rb_b1_some] at y2b
        rw [rb_b1_some, y2b, rb_b1_some]
    rw [if_neg (show ¬ r3 = 0 by rw [n1]; decide), y1, rb_b2_some, y2']
    rcases y5 with ⟨i1, e2, vs, i2, i3, i4, i5, i6, i7⟩ | ⟨i1, e2, i2, i3, i4⟩
    · rw [if_neg (show ¬ r7 = 0 by rw [i1]; decide)]
      refine ⟨1, s5, u5, rfl, rfl, x3.tr y3, x4.tr y4, Or.inl ⟨rfl, e2, us ++ vs, by omega, i3, by simp only [List.length_append]; omega, fun q hq => ?_, fun T hT => sp_tyl_app (n6 T (by omega)) (i6 T hT), ?_⟩⟩
      · rcases List.mem_append.1 hq with h | h
        · exact n5 q h
        · exact i5 q h
      · rw [List.map_append, ← List.append_assoc, ← List.append_assoc]; exact i7
    · rw [if_pos i1]
      exact ⟨0, s5, u5, rfl, rfl, x3.tr y3, x4.tr y4, Or.inr ⟨rfl, e2, i2, i3, i4⟩⟩
  · have ea : (xG_ML (dM + 1)).2.2.2.2.2.1 u1 = some u1 := sm_fAnd (xG_ML dM) (show e < 2 ^ 31 by omega) n4
    have eo : (xG_ML (dM + 1)).2.2.2.2.2.2.1 u1 = some u1 := sm_fOr (xG_ML dM) (show e < 2 ^ 31 by omega) n4
    rw [if_pos n1, ea, rb_b1_some, eo, rb_b1_some]
    exact ⟨0, s1, u1, rfl, rfl, x3, x4, Or.inr ⟨rfl, e, n2, n3, FT_mo (by omega) n4⟩⟩
/-- all units, all truths -/
theorem rb_unitAll (W : tw m t) (htx : tx ≤ 4) : ∀ (k p dX dM : Nat), p + k = 6 → 4 * k + 5 ≤ dX → 4 * k + 5 ≤ dM → UnitOK m t tx p dX dM := by
  have cond : ∀ (k p dX dM : Nat), p + k = 6 → (∀ dX dM, 4 * k + 5 ≤ dX → 4 * k + 5 ≤ dM → UnitOK m t tx p dX dM) → 4 * k + 8 ≤ dX → 4 * k + 8 ≤ dM → CondOK m t tx p dX dM := by
    intro k p dX dM hp U hX hM
    obtain ⟨dX, rfl⟩ : ∃ q, dX = q + 3 := ⟨dX - 3, by omega⟩
    obtain ⟨dM, rfl⟩ : ∃ q, dM = q + 3 := ⟨dM - 3, by omega⟩
    exact rb_condOK W (by omega) (U _ _ (by omega) (by omega)) (rb_moreOK W htx (by omega) (U _ _ (by omega) (by omega)) (rb_andOK W htx (by omega) (U _ _ (by omega) (by omega))) (rb_andOK W htx (by omega) (U _ _ (by omega) (by omega))))
  intro k
  induction k with
  | zero =>
    intro p dX dM hp hX hM
    obtain ⟨dX, rfl⟩ : ∃ q, dX = q + 2 := ⟨dX - 2, by omega⟩
    obtain ⟨dM, rfl⟩ : ∃ q, dM = q + 2 := ⟨dM - 2, by omega⟩
    exact rb_unitOK W htx (by omega) (fun h => by omega) (fun h => by omega) (rb_sumAll W htx 0 p _ _ hp (by omega) (by omega)) (rb_cmpOK W htx (by omega) (rb_sumAll W htx 0 p _ _ hp (by omega) (by omega)))
  | succ k ih =>
    intro p dX dM hp hX hM
    obtain ⟨dX, rfl⟩ : ∃ q, dX = q + 2 := ⟨dX - 2, by omega⟩
    obtain ⟨dM, rfl⟩ : ∃ q, dM = q + 2 := ⟨dM - 2, by omega⟩
    exact rb_unitOK W htx (by omega) (fun h => ih (p + 1) _ _ (by omega) (by omega) (by omega)) (fun h => cond k (p + 1) _ _ (by omega) (fun a b h1 h2 => ih (p + 1) a b (by omega) h1 h2) (by omega) (by omega)) (rb_sumAll W htx (k + 1) p _ _ hp (by omega) (by omega)) (rb_cmpOK W htx (by omega) (rb_sumAll W htx (k + 1) p _ _ hp (by omega) (by omega)))
theorem rb_sum64 (W : tw m t) (htx : tx ≤ 4) : SumOK m t tx 0 64 64 := rb_sumAll W htx 6 0 64 64 (by omega) (by omega) (by omega)
theorem rb_cmp64 (W : tw m t) (htx : tx ≤ 4) : CmpOK m t tx 0 64 64 := rb_cmpOK (dX := 63) (dM := 63) W htx (by omega) (rb_sumAll W htx 6 0 63 63 (by omega) (by omega) (by omega))
theorem rb_more64 (W : tw m t) (htx : tx ≤ 4) : MoreOK m t tx 0 64 64 := rb_moreOK (dX := 63) (dM := 62) W htx (by omega) (rb_unitAll W htx 6 0 _ _ (by omega) (by omega) (by omega)) (rb_andOK (dX := 62) (dM := 62) W htx (by omega) (rb_unitAll W htx 6 0 _ _ (by omega) (by omega) (by omega))) (rb_andOK (dX := 62) (dM := 63) W htx (by omega) (rb_unitAll W htx 6 0 _ _ (by omega) (by omega) (by omega)))
theorem rb_cond64 (W : tw m t) (htx : tx ≤ 4) : CondOK m t tx 0 64 64 := rb_condOK (dX := 63) (dM := 62) W (by omega) (rb_unitAll W htx 6 0 _ _ (by omega) (by omega) (by omega)) (rb_moreOK (dX := 62) (dM := 61) W htx (by omega) (rb_unitAll W htx 6 0 _ _ (by omega) (by omega) (by omega)) (rb_andOK (dX := 61) (dM := 61) W htx (by omega) (rb_unitAll W htx 6 0 _ _ (by omega) (by omega) (by omega))) (rb_andOK (dX := 61) (dM := 62) W htx (by omega) (rb_unitAll W htx 6 0 _ _ (by omega) (by omega) (by omega))))
end RBLV
