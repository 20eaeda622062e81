/-! A LAW IS READ: sums and terms -/
def lOut (m : Nat) (t : Nat → Nat) (tx p K a : Nat) (xs : List Int32) (ts : List sp_Tk) (P : List sp_Tk → Prop) (r : Int32) (σ' τ' : rb_St) : Prop := (r = 1 ∧ ∃ e us, a ≤ e ∧ e ≤ m ∧ us.length ≤ e - a ∧ (∀ q ∈ us, sp_tkok q) ∧ P us ∧ rb_LS m t tx p e (xs ++ us.map sp_cx) (ts ++ us) σ' τ') ∨ (r = 0 ∧ ∃ e, e ≤ m ∧ σ'.1 7 1 = nI e ∧ FT tx K e τ')
def LOK (m : Nat) (t : Nat → Nat) (tx p K : Nat) (P : List sp_Tk → Prop) (fX : rb_St → Option (Int32 × rb_St)) (fM : rb_St → Option rb_St) : Prop := ∀ (a : Nat) (xs : List Int32) (ts : List sp_Tk) (σ τ : rb_St), a ≤ m → xs.length ≤ a → ts.length ≤ a → rb_LS m t tx p a xs ts σ τ → ∃ r σ' τ', fX σ = some (r, σ') ∧ fM τ = some τ' ∧ rb_fr scLX σ σ' ∧ rb_fr (scLM tx) τ τ' ∧ lOut m t tx p K a xs ts P r σ' τ'
def pS (h : Nat) (us : List sp_Tk) : Prop := ∀ T : List Bool, T.length ≤ h → sp_tyl us T = some (false :: T)
def pU (h : Nat) (us : List sp_Tk) : Prop := ∀ T : List Bool, T.length ≤ h → sp_tyl us T = some (true :: T)
def pT (h : Nat) (us : List sp_Tk) : Prop := ∀ T : List Bool, T.length ≤ h → sp_tyl us (false :: T) = some (false :: T)
def pA (h : Nat) (us : List sp_Tk) : Prop := ∀ T : List Bool, T.length ≤ h → sp_tyl us (true :: T) = some (true :: T)
def pC (h : Nat) (us : List sp_Tk) : Prop := ∀ T : List Bool, T.length ≤ h → sp_tyl us (false :: T) = some (true :: T)
theorem sp_tyl_app : ∀ {us vs : List sp_Tk} {T S R : List Bool}, sp_tyl us T = some S → sp_tyl vs S = some R → sp_tyl (us ++ vs) T = some R
  | [], vs, T, S, R, h1, h2 => by cases h1; exact h2
  | u :: us, vs, T, S, R, h1, h2 => by
    show (if 60 ≤ T.length then none else match sp_ty1 u.1 T with
      | none => none
      | some s => sp_tyl (us ++ vs) s) = some R
    have h1' : (if 60 ≤ T.length then none else match sp_ty1 u.1 T with
      | none => none
      | some s => sp_tyl us s) = some S := h1
    by_cases h : 60 ≤ T.length
    · rw [if_pos h] at h1'; cases h1'
    · rw [if_neg h] at h1' ⊢
      cases hs : sp_ty1 u.1 T with
      | none => rw [hs] at h1'; cases h1'
      | some s => rw [hs] at h1'; exact sp_tyl_app h1' h2
theorem pS_ne {h : Nat} {us : List sp_Tk} (q : pS h us) : 1 ≤ us.length := by
  cases us with
  | nil => have := q [] (by simp); simp [sp_tyl] at this
  | cons u us => simp
theorem pU_ne {h : Nat} {us : List sp_Tk} (q : pU h us) : 1 ≤ us.length := by
  cases us with
  | nil => have := q [] (by simp); simp [sp_tyl] at this
  | cons u us => simp
theorem sp_tyA {c v : Nat} {T : List Bool} (h2 : 2 ≤ c) (h6 : c < 6) (hT : T.length < 50) : sp_tyl [(c, v)] (false :: false :: T) = some (false :: T) := by
  have hl : ¬ 60 ≤ (false :: false :: T).length := by simp only [List.length_cons]; omega
  have : c = 2 ∨ c = 3 ∨ c = 4 ∨ c = 5 := by omega
  rcases this with rfl | rfl | rfl | rfl <;> (show (if 60 ≤ (false :: false :: T).length then none else _) = _; rw [if_neg hl]; rfl)
theorem sp_tyC {c v : Nat} {T : List Bool} (h2 : 6 ≤ c) (h6 : c < 9) (hT : T.length < 50) : sp_tyl [(c, v)] (false :: false :: T) = some (true :: T) := by
  have hl : ¬ 60 ≤ (false :: false :: T).length := by simp only [List.length_cons]; omega
  have : c = 6 ∨ c = 7 ∨ c = 8 := by omega
  rcases this with rfl | rfl | rfl <;> (show (if 60 ≤ (false :: false :: T).length then none else _) = _; rw [if_neg hl]; rfl)
theorem sp_tyB {c v : Nat} {T : List Bool} (h2 : 10 ≤ c) (h6 : c < 12) (hT : T.length < 50) : sp_tyl [(c, v)] (true :: true :: T) = some (true :: T) := by
  have hl : ¬ 60 ≤ (true :: true :: T).length := by simp only [List.length_cons]; omega
  have : c = 10 ∨ c = 11 := by omega
  rcases this with rfl | rfl <;> (show (if 60 ≤ (true :: true :: T).length then none else _) = _; rw [if_neg hl]; rfl)
theorem sp_tyN {v : Nat} {T : List Bool} (hT : T.length < 50) : sp_tyl [(9, v)] (true :: T) = some (true :: T) := by
  have hl : ¬ 60 ≤ (true :: T).length := by simp only [List.length_cons]; omega
  show (if 60 ≤ (true :: T).length then none else _) = _
  rw [if_neg hl]; rfl
theorem sp_ty0 {c v : Nat} {T : List Bool} (h : c < 2) (hT : T.length < 50) : sp_tyl [(c, v)] T = some (false :: T) := by
  have hl : ¬ 60 ≤ T.length := by omega
  have : c = 0 ∨ c = 1 := by omega
  rcases this with rfl | rfl <;> (show (if 60 ≤ T.length then none else _) = _; rw [if_neg hl]; rfl)
section RBLS
variable {m a p tx K h : Nat} {t : Nat → Nat} {xs : List Int32} {ts : List sp_Tk} {σ τ : rb_St}
theorem LS_look (W : tw m t) (ha : a ≤ m) (q : rb_LS m t tx p a xs ts σ τ) : ∃ σ' τ', xf_Rd_nextSignL σ = some (sp_sg t m (sp_sk t m a), σ') ∧ xf_M_look τ = some (sp_sg t m (sp_sk t m a), τ') ∧ rb_LS m t tx p (sp_sk t m a) xs ts σ' τ' ∧ rb_fr scLX σ σ' ∧ rb_fr (scLM tx) τ τ' := by
  obtain ⟨q1, q2, q3, q4, q5⟩ := q
  obtain ⟨s1, b1, b2, b3⟩ := sx_nextL W ha q1
  obtain ⟨u1, c1, c2, c3⟩ := sm_look W ha q2
  exact ⟨s1, u1, b1, c1, ⟨b2, c2, (c3.1 0 4 (by unfold scB; omega)).trans q3, (c3.1 0 5 (by unfold scB; omega)).trans q4, LB_fr b3 c3 (fun c i w => by unfold scA at w; omega) (fun c i w => by unfold scB at w; omega) q5⟩, b3.mo scA_L, c3.mo scB_L⟩
/-- one sign passed, both sides -/
theorem LS_pass (q : rb_LS m t tx p a xs ts σ τ) : rb_LS m t tx p (a + 1) xs ts (rb_sI σ 7 1 (nI (a + 1))) (rb_sI τ 0 3 (nI (a + 1))) ∧ rb_fr scLX σ (rb_sI σ 7 1 (nI (a + 1))) ∧ rb_fr (scLM tx) τ (rb_sI τ 0 3 (nI (a + 1))) := by
  obtain ⟨q1, q2, q3, q4, q5⟩ := q
  refine ⟨⟨TX_at (by decide) q1, TM_at q2, ?_, ?_, LB_fr (rb_fr.sI (ch := fun c _ => c = 7) (k := 7) rfl) (rb_fr.sI (ch := fun c i => c = 0 ∧ i = 3) (k := 0) (j := 3) ⟨rfl, rfl⟩) (fun c i w => by omega) (fun c i w => by omega) q5⟩, rb_fr.sI (Or.inl ⟨rfl, rfl⟩), rb_fr.sI (Or.inl ⟨rfl, Or.inl rfl⟩)⟩
  · rw [rb_sIg _ _ _ _ _ _ (by omega)]; exact q3
  · rw [rb_sIg _ _ _ _ _ _ (by omega)]; exact q4
theorem LS_FT (q : rb_LS m t tx p a xs ts σ τ) (hl : ts.length ≤ 240) : ∃ τ', xf_M_bad τ = some τ' ∧ FT tx 0 a τ' ∧ rb_fr (scLM tx) τ τ' := by
  obtain ⟨q1, q2, q3, q4, q5, q6, q7, q8, q9⟩ := q
  obtain ⟨τ', g1, g2, g3⟩ := sm_bad q3 q2.2.2
  exact ⟨τ', g1, ⟨g2, (g3.1 0 14 (by omega)).trans q5, ts.length, by omega, (g3.1 4 tx (by omega)).trans q8⟩, g3.mo sc4_L⟩
theorem sp_sg_lt (W : tw m t) {z : Nat} (hz : sp_sg t m z ≠ -1) : z < m := by
  by_cases h2 : z < m
  · exact h2
  · exact absurd (by unfold sp_sg; rw [if_neg h2]) hz
section BIN
variable {subX : rb_St → Option (Int32 × rb_St)} {subM : rb_St → Option rb_St} {s1 s2 : Int32} {c1 c2 : Nat} {LX : Nat → Int32 → rb_St → Option (Nat × rb_St)} {LM : Nat → Int32 → rb_St → Option rb_St}
def hLX (subX : rb_St → Option (Int32 × rb_St)) (s1 s2 k1 k2 : Int32) (LX : Nat → Int32 → rb_St → Option (Nat × rb_St)) : Prop := ∀ f x σ, LX (f + 1) x σ = if 240 ≤ x then some (2, σ) else rb_b2 (xf_Rd_nextSignL σ) fun r8 s6 => if r8 = s1 then rb_lt (rb_sI s6 7 1 ((s6.1 7 1) + 1)) (fun s10 => rb_b2 (subX s10) fun r14 s12 => if r14 = 0 then some (1, s12) else if r8 = s1 then rb_b1 (xf_Law_add k1 s12) fun s19 => LX f (x + 1) s19 else rb_b1 (xf_Law_add k2 s12) fun s17 => LX f (x + 1) s17) else if r8 = s2 then rb_lt (rb_sI s6 7 1 ((s6.1 7 1) + 1)) (fun s10 => rb_b2 (subX s10) fun r14 s12 => if r14 = 0 then some (1, s12) else if r8 = s1 then rb_b1 (xf_Law_add k1 s12) fun s19 => LX f (x + 1) s19 else rb_b1 (xf_Law_add k2 s12) fun s17 => LX f (x + 1) s17) else some (0, s6)
def hLMq (LM : Nat → Int32 → rb_St → Option rb_St) (f : Nat) (u : Int32) (s7 : rb_St) : Option rb_St := rb_b1 (xf_M_put u 0 s7) fun s10 => if (s10.1 0 4) = (-1) then rb_b2 (xf_M_look s10) fun r15 s13 => LM f r15 s13 else LM f (-1) s10
def hLM (subM : rb_St → Option rb_St) (s1 s2 k1 k2 : Int32) (LM : Nat → Int32 → rb_St → Option rb_St) : Prop := ∀ f x σ, LM (f + 1) x σ = if x = s1 then rb_lt (rb_sI σ 0 3 ((σ.1 0 3) + 1)) (fun s5 => rb_b1 (subM s5) fun s7 => if x = s1 then hLMq LM f k1 s7 else hLMq LM f k2 s7) else if x = s2 then rb_lt (rb_sI σ 0 3 ((σ.1 0 3) + 1)) (fun s5 => rb_b1 (subM s5) fun s7 => if x = s1 then hLMq LM f k1 s7 else hLMq LM f k2 s7) else some σ
theorem rb_binl (W : tw m t) (htx : tx ≤ 4) (hK : K ≤ 100) (hh : h ≤ 40) (hc1 : 2 ≤ c1 ∧ c1 < 6) (hc2 : 2 ≤ c2 ∧ c2 < 6) (hs1 : s1 ≠ -1) (hs2 : s2 ≠ -1) (S : LOK m t tx p K (pS (h + 1)) subX subM) (eX : hLX subX s1 s2 (sp_cx (c1, 0)) (sp_cx (c2, 0)) LX) (eM : hLM subM s1 s2 (nI c1) (nI c2) LM) : ∀ (r q a f g : Nat) (xs : List Int32) (ts : List sp_Tk) (σ τ : rb_St), m < a + r → r < f → r + 1 < g → 2 * q ≤ a → a ≤ m → xs.length ≤ a → ts.length ≤ a → rb_LS m t tx p a xs ts σ τ → ∃ cd σ' τ', LX f (nI q) σ = some (cd, σ') ∧ (rb_b2 (xf_M_look τ) fun r s => LM g r s) = some τ' ∧ rb_fr scLX σ σ' ∧ rb_fr (scLM tx) τ τ' ∧ lOut m t tx p (K + 1) a xs ts (pT h) (if cd = 0 then 1 else 0) σ' τ' := by
  have hm := W.1
  intro r
  induction r with
  | zero => intro q a f g xs ts σ τ h1 _ _ _ h2; omega
  | succ r ih =>
    intro q a f g xs ts σ τ hr hf hg hq ha hxs hts Q
    obtain ⟨f, rfl⟩ : ∃ q, f = q + 1 := ⟨f - 1, by omega⟩
    obtain ⟨g, rfl⟩ : ∃ q, g = q + 1 + 1 := ⟨g - 2, by omega⟩
    obtain ⟨s6, u6, b1, b2, b3, b4, b5⟩ := LS_look W ha Q
    obtain ⟨hz1, hz2⟩ := sp_sk_le (t := t) ha
    obtain ⟨z, hz⟩ : ∃ z, z = sp_sk t m a := ⟨_, rfl⟩
    rw [← hz] at b1 b2 b3 hz1 hz2
    rw [eX, if_neg (show ¬ (240 : Int32) ≤ nI q from nI_ge (b := 240) (by omega) (by decide)), b1, b2, rb_b2_some, rb_b2_some, eM]
    -- one operator
    have go : ∀ (c : Nat) (kx : Int32), 2 ≤ c → c < 6 → sp_sg t m z ≠ -1 → kx = sp_cx (c, 0) → ∃ cd σ' τ', (rb_lt (rb_sI s6 7 1 ((s6.1 7 1) + 1)) (fun s10 => rb_b2 (subX s10) fun r14 s12 => if r14 = 0 then some (1, s12) else rb_b1 (xf_Law_add kx s12) fun s19 => LX f (nI q + 1) s19)) = some (cd, σ') ∧ (rb_lt (rb_sI u6 0 3 ((u6.1 0 3) + 1)) (fun s5 => rb_b1 (subM s5) fun s7 => hLMq LM (g + 1) (nI c) s7)) = some τ' ∧ rb_fr scLX σ σ' ∧ rb_fr (scLM tx) τ τ' ∧ lOut m t tx p (K + 1) a xs ts (pT h) (if cd = 0 then 1 else 0) σ' τ' := by
      intro c kx hc hc6 hne hkx
      have hzm := sp_sg_lt W hne
      obtain ⟨d1, d2, d3⟩ := LS_pass b3
      rw [b3.1.2.2, b3.2.1.2.2, nI_1, rb_lt_eq, rb_lt_eq]
      obtain ⟨r14, s12, u7, x1, x2, x3, x4, x5⟩ := S (z + 1) xs ts _ _ (by omega) (by omega) (by omega) d1
      have fs12 := (b4.tr d2).tr x3
      have fu7 := (b5.tr d3).tr x4
      rw [x1, x2, rb_b2_some, rb_b1_some]
      unfold hLMq
      rcases x5 with ⟨n1, e, us, n2, n3, n4, n5, n6, n7⟩ | ⟨n1, e, n2, n3, n4⟩
      · have hne1 : 1 ≤ us.length := pS_ne n6
        have l1 : (xs ++ us.map sp_cx).length < 240 := by rw [List.length_append, List.length_map]; omega
        have l2 : (ts ++ us).length < 520 := by rw [List.length_append]; omega
        obtain ⟨s19, u10, p1, p2, p3, p4, p5⟩ := rb_lput htx (tk := (c, 0)) (v := 0) (fun w => by simp only at w; omega) n7 l1 l2
        have p2' : xf_M_put (nI c) 0 u7 = some u10 := p2
        rw [if_neg (show ¬ r14 = 0 by rw [n1]; decide), hkx, p1, rb_b1_some, nI_1, p2', rb_b1_some, if_pos p3.2.2.1]
        obtain ⟨cd, σ', τ', o1, o2, o3, o4, o5⟩ := ih (q + 1) e f (g + 1) _ _ s19 u10 (by omega) (by omega) (by omega) (by omega) n3 (by simp only [List.length_append, List.length_map, List.length_cons, List.length_nil]; omega) (by simp only [List.length_append, List.length_cons, List.length_nil]; omega) p3
        refine ⟨cd, σ', τ', o1, o2, (fs12.tr p4).tr o3, (fu7.tr p5).tr o4, ?_⟩
        rcases o5 with ⟨i1, e2, vs, i2, i3, i4, i5, i6, i7⟩ | i1
        · refine Or.inl ⟨i1, e2, us ++ ((c, 0) :: vs), by omega, i3, by simp only [List.length_append, List.length_cons]; omega, fun q hq => ?_, fun T hT => ?_, ?_⟩
          · rcases List.mem_append.1 hq with h | h
            · exact n5 q h
            · rcases List.mem_cons.1 h with h | h
              · rw [h]; exact ⟨by show c < 12; omega, fun w => by simp only at w; omega, fun w => by simp only at w; omega⟩
              · exact i5 q h
          · refine sp_tyl_app (n6 (false :: T) (by simp only [List.length_cons]; omega)) ?_
            exact sp_tyl_app (us := [(c, 0)]) (sp_tyA hc hc6 (by omega)) (i6 T hT)
          · have e1 : xs ++ (us ++ ((c, 0) :: vs)).map sp_cx = xs ++ us.map sp_cx ++ [sp_cx (c, 0)] ++ vs.map sp_cx := by simp
            have e2 : ts ++ (us ++ ((c, 0) :: vs)) = ts ++ us ++ [(c, 0)] ++ vs := by simp
            rw [e1, e2]; exact i7
        · exact Or.inr i1
      · obtain ⟨u10, p1, p2, p3⟩ := sm_fput htx (by omega) n4 (nI c) 0
        rw [if_pos n1, p1, rb_b1_some, p2.1, if_neg (rb_neg1 (show e < 2 ^ 31 by omega)), eM, if_neg (fun w => hs1 w.symm), if_neg (fun w => hs2 w.symm)]
        exact ⟨1, s12, u10, rfl, rfl, fs12, fu7.tr p3, Or.inr ⟨if_neg (by omega), e, n2, n3, p2⟩⟩
    by_cases h1 : sp_sg t m z = s1
    · have := go c1 (sp_cx (c1, 0)) hc1.1 hc1.2 (by rw [h1]; exact hs1) rfl
      simp only [if_pos h1]
      exact this
    · by_cases h2 : sp_sg t m z = s2
      · have := go c2 (sp_cx (c2, 0)) hc2.1 hc2.2 (by rw [h2]; exact hs2) rfl
        simp only [if_neg h1, if_pos h2]
        exact this
      · simp only [if_neg h1, if_neg h2]
        refine ⟨0, s6, u6, rfl, rfl, b4, b5, Or.inl ⟨if_pos rfl, z, [], hz1, hz2, by simp, fun q hq => by simp at hq, fun T _ => rfl, ?_⟩⟩
        simp only [List.map_nil, List.append_nil]
        exact b3
theorem rb_binOK (W : tw m t) (htx : tx ≤ 4) (hK : K ≤ 100) (hh : h ≤ 40) (hc1 : 2 ≤ c1 ∧ c1 < 6) (hc2 : 2 ≤ c2 ∧ c2 < 6) (hs1 : s1 ≠ -1) (hs2 : s2 ≠ -1) (S : LOK m t tx p K (pS (h + 1)) subX subM) (eX : hLX subX s1 s2 (sp_cx (c1, 0)) (sp_cx (c2, 0)) LX) (eM : hLM subM s1 s2 (nI c1) (nI c2) LM) : LOK m t tx p (K + 1) (pS h) (fun σ => rb_b2 (subX σ) fun r3 s1 => if r3 = 0 then some (0, s1) else rb_b2 (LX rb_FU 0 s1) fun t22 s23 => if t22 = 0 then some (1, s23) else if t22 = 1 then some (0, s23) else some (0, s23)) (fun τ => rb_b1 (subM τ) fun s1 => if (s1.1 0 4) = (-1) then rb_b2 (xf_M_look s1) fun r21 s19 => rb_b1 (LM rb_FU r21 s19) fun s22 => some s22 else rb_b1 (LM rb_FU (-1) s1) fun s17 => some s17) := by
  have hm := W.1
  intro a xs ts σ τ ha hxs hts Q
  obtain ⟨r3, s, u, x1, x2, x3, x4, x5⟩ := S a xs ts σ τ ha hxs hts Q
  simp only [x1, x2, rb_b2_some, rb_b1_some]
  rcases x5 with ⟨n1, e, us, n2, n3, n4, n5, n6, n7⟩ | ⟨n1, e, n2, n3, n4⟩
  · rw [if_neg (show ¬ r3 = 0 by rw [n1]; decide), if_pos n7.2.2.1]
    obtain ⟨cd, σ', τ', o1, o2, o3, o4, o5⟩ := rb_binl W htx hK hh hc1 hc2 hs1 hs2 S eX eM (m + 1) 0 e rb_FU rb_FU _ _ s u (by omega) (by unfold rb_FU; omega) (by unfold rb_FU; omega) (by omega) n3 (by simp only [List.length_append, List.length_map]; omega) (by simp only [List.length_append]; omega) n7
    have o1' : LX rb_FU 0 s = some (cd, σ') := o1
    have o2' : (rb_b2 (xf_M_look u) fun r21 s19 => rb_b1 (LM rb_FU r21 s19) fun s22 => some s22) = some τ' := by
      obtain ⟨sl, ul, l1, l2, -, -, -⟩ := LS_look W n3 n7
      rw [l2, rb_b2_some] at o2 ⊢
      rw [o2, rb_b1_some]
    rw [o1', rb_b2_some, o2']
    refine ⟨if cd = 0 then 1 else 0, σ', τ', ?_, rfl, x3.tr o3, x4.tr o4, ?_⟩
    · by_cases h0 : cd = 0
      · rw [if_pos h0, if_pos h0]
      · rw [if_neg h0, if_neg h0, ite_self]
    · rcases o5 with ⟨i1, e2, vs, i2, i3, i4, i5, i6, i7⟩ | i1
      · refine Or.inl ⟨i1, e2, us ++ vs, by omega, i3, by simp only [List.length_append]; omega, fun q hq => ?_, fun T hT => ?_, ?_⟩
        · rcases List.mem_append.1 hq with h | h
          · exact n5 q h
          · exact i5 q h
        · exact sp_tyl_app (n6 T (by omega)) (i6 T hT)
        · rw [List.map_append, ← List.append_assoc, ← List.append_assoc]; exact i7
      · exact Or.inr i1
  · obtain ⟨F, hF⟩ : ∃ G, rb_FU = G + 1 := ⟨99999, rfl⟩
    rw [if_pos n1, n4.1, if_neg (rb_neg1 (show e < 2 ^ 31 by omega)), hF, eM, if_neg (fun w => hs1 w.symm), if_neg (fun w => hs2 w.symm), rb_b1_some]
    exact ⟨0, s, u, rfl, rfl, x3, x4, Or.inr ⟨rfl, e, n2, n3, FT_mo (by omega) n4⟩⟩
end BIN
end RBLS
