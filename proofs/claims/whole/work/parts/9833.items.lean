/-! THE GREEN'S ITEMS -/
def scW (c i : Nat) : Prop := c = 0 ∧ (i = 3 ∨ i = 4)
theorem scB_W (c i : Nat) (h : scB c i) : scW c i := ⟨h.1, Or.inl h.2⟩
section RBIT
variable {m a : Nat} {t : Nat → Nat} {σ τ : rb_St}
theorem rb_within (W : tw m t) (ha : a ≤ m) (hX : TX 3 m t a σ) (hM : TM m t a τ) (hw : τ.1 0 4 = -1) {lo hi : Nat} (hlo : lo ≤ 99) (hhi : hi ≤ 99) : ∃ σ' τ' r', xf_M_number (nI lo) (nI hi) τ = some (r', τ') ∧ rb_fr (scA 3) σ σ' ∧ rb_fr scW τ τ' ∧ ((∃ v e, lo ≤ v ∧ v ≤ hi ∧ a < e ∧ e ≤ m ∧ r' = nI v ∧ xf_GR_readWithin (nI lo) (nI hi) σ = some (nI v, σ') ∧ TX 3 m t e σ' ∧ TM m t e τ' ∧ τ'.1 0 4 = -1) ∨ (∃ p, p ≤ m ∧ xf_GR_readWithin (nI lo) (nI hi) σ = some (-1, σ') ∧ σ'.1 3 1 = nI p ∧ τ'.1 0 4 = nI p)) := by
  have hm := W.1
  obtain ⟨s, b1, b2, b3⟩ := sx_rnG W ha hX
  obtain ⟨u, c1, c2, c3⟩ := sm_look W ha hM
  obtain ⟨hp1, hp2⟩ := sp_sk_le (t := t) ha
  obtain ⟨p, hp⟩ : ∃ p, p = sp_sk t m a := ⟨_, rfl⟩
  rw [← hp] at b1 b2 c1 c2 hp1 hp2
  have uw : u.1 0 4 = -1 := by rw [c3.1 0 4 (by unfold scB; omega)]; exact hw
  unfold xf_GR_readWithin xf_M_number
  rw [b1, rb_b2_some, c1, rb_b2_some, rb_dgM W]
  simp only [rb_bI_0]
  have hn := sp_num_le t m 2 p 0 hp2
  cases hd : sp_dg t m p with
  | false =>
    have er : sp_rn t m 2 p = -1 := by unfold sp_rn; rw [hd]; rfl
    have ee : sp_re t m 2 p = p := by unfold sp_re; rw [hd]; rfl
    rw [er, if_pos rfl, if_pos rfl]
    obtain ⟨u2, d1, d2, d3⟩ := sm_bad uw c2.2.2
    rw [d1, rb_b1_some]
    rw [ee] at b2
    exact ⟨s, u2, nI lo, rfl, b3, (c3.mo scB_W).tr (d3.mo (fun c i q => by unfold scW; omega)), Or.inr ⟨p, hp2, rfl, b2.2.2, d2⟩⟩
  | true =>
    obtain ⟨d, d1, d2, d3, d4⟩ := sp_sg_dg hd
    have u1 : TM m t (p + 1) (rb_sI u 0 3 (nI (p + 1))) := TM_at c2
    have w1 : (rb_sI u 0 3 (nI (p + 1))).1 0 4 = -1 := by rw [rb_sIg _ _ _ _ _ _ (by omega)]; exact uw
    have f1 : rb_fr scW τ (rb_sI u 0 3 (nI (p + 1))) := (c3.mo scB_W).sI' (k := 0) (j := 3) ⟨rfl, Or.inl rfl⟩
    have e48 : nI (48 + d) - (48 : Int32) = nI d := by rw [rb_l48, pk_sub (by omega)]; congr 1; omega
    rw [if_neg (by decide), sm_here W hp2 c2, rb_b1_some, c2.2.2, nI_1, rb_lt_eq, sm_here W (by omega) u1, rb_b1_some, rb_b1_some, rb_dgM W, d3, e48]
    simp only [rb_bI_0]
    -- the end of it
    have fin : ∀ (v e : Nat) (x : rb_St), sp_num t m 2 p 0 = (v, e) → p < e → e ≤ m → v ≤ 99 → TM m t e x → x.1 0 4 = -1 → rb_fr scW τ x → ∃ σ' τ' r', xj_M_number_67 (nI lo) (nI hi) (nI v) x = some (r', τ') ∧ rb_fr (scA 3) σ σ' ∧ rb_fr scW τ τ' ∧ ((∃ v e, lo ≤ v ∧ v ≤ hi ∧ a < e ∧ e ≤ m ∧ r' = nI v ∧ (if sp_rn t m 2 p = -1 then some (sp_rn t m 2 p, s) else if sp_rn t m 2 p < nI lo then rb_lt (rb_sI s 3 1 ((s.1 3 1) - 1)) (fun s6 => some ((-1), s6)) else if nI hi < sp_rn t m 2 p then rb_lt (rb_sI s 3 1 ((s.1 3 1) - 1)) (fun s9 => some ((-1), s9)) else some (sp_rn t m 2 p, s)) = some (nI v, σ') ∧ TX 3 m t e σ' ∧ TM m t e τ' ∧ τ'.1 0 4 = -1) ∨ (∃ p', p' ≤ m ∧ (if sp_rn t m 2 p = -1 then some (sp_rn t m 2 p, s) else if sp_rn t m 2 p < nI lo then rb_lt (rb_sI s 3 1 ((s.1 3 1) - 1)) (fun s6 => some ((-1), s6)) else if nI hi < sp_rn t m 2 p then rb_lt (rb_sI s 3 1 ((s.1 3 1) - 1)) (fun s9 => some ((-1), s9)) else some (sp_rn t m 2 p, s)) = some (-1, σ') ∧ σ'.1 3 1 = nI p' ∧ τ'.1 0 4 = nI p')) := by
      intro v e x hv hpe hem hv9 hx hxw hxf
      have er : sp_rn t m 2 p = if sp_dg t m e = true then -1 else nI v := by unfold sp_rn; rw [hd, hv]; rfl
      have ee : sp_re t m 2 p = e := by unfold sp_re; rw [hd, hv]; rfl
      rw [ee] at b2
      unfold xj_M_number_67
      rw [sm_here W hem hx, rb_b1_some, rb_dgM W, er]
      simp only [rb_bI_0]
      cases hde : sp_dg t m e with
      | true =>
        rw [if_neg (by decide), if_pos rfl, if_pos rfl]
        obtain ⟨x2, g1, g2, g3⟩ := sm_bad hxw hx.2.2
        rw [g1, rb_b1_some]
        exact ⟨s, x2, nI v, rfl, b3, hxf.tr (g3.mo (fun c i q => by unfold scW; omega)), Or.inr ⟨e, hem, rfl, b2.2.2, g2⟩⟩
      | false =>
        rw [if_pos rfl, if_neg (show ¬ false = true by decide), if_neg (rb_neg1 (show v < 2 ^ 31 by omega))]
        -- out of bounds
        have out : (∀ q, q < e → True) → ∃ x2, (rb_lt (rb_sI x 0 3 ((x.1 0 3) - 1)) fun s16 => rb_b1 (xf_M_bad s16) fun s18 => some (nI v, s18)) = some (nI v, x2) ∧ x2.1 0 4 = nI (e - 1) ∧ rb_fr scW τ x2 := by
          intro _
          rw [rb_lt_eq, hx.2.2, rb_pr (by omega)]
          obtain ⟨x2, g1, g2, g3⟩ := sm_bad (τ := rb_sI x 0 3 (nI (e - 1))) (a := e - 1) (by rw [rb_sIg _ _ _ _ _ _ (by omega)]; exact hxw) (rb_sI_eq _ _ _ _)
          rw [g1, rb_b1_some]
          exact ⟨x2, rfl, g2, (hxf.sI' (k := 0) (j := 3) ⟨rfl, Or.inl rfl⟩).tr (g3.mo (fun c i q => by unfold scW; omega))⟩
        unfold xf_M_in
        by_cases h1 : v < lo
        · rw [if_pos (nI_lt h1 (by omega)), if_pos (show (0 : Int32) = 0 from rfl), if_pos (nI_lt h1 (by omega)), rb_lt_eq, b2.2.2, rb_pr (by omega)]
          obtain ⟨x2, g1, g2, g3⟩ := out (fun _ _ => trivial)
          exact ⟨_, x2, nI v, g1, b3.sI' (k := 3) (j := 1) ⟨rfl, rfl⟩, g3, Or.inr ⟨e - 1, by omega, rfl, rb_sI_eq _ _ _ _, g2⟩⟩
        · rw [if_neg (show ¬ nI v < nI lo from nI_nlt (by omega) (by omega)), if_neg (show ¬ nI v < nI lo from nI_nlt (by omega) (by omega))]
          by_cases h2 : hi < v
          · rw [if_pos (nI_lt h2 (by omega)), if_pos (show (0 : Int32) = 0 from rfl), if_pos (nI_lt h2 (by omega)), rb_lt_eq, b2.2.2, rb_pr (by omega)]
            obtain ⟨x2, g1, g2, g3⟩ := out (fun _ _ => trivial)
            exact ⟨_, x2, nI v, g1, b3.sI' (k := 3) (j := 1) ⟨rfl, rfl⟩, g3, Or.inr ⟨e - 1, by omega, rfl, rb_sI_eq _ _ _ _, g2⟩⟩
          · rw [if_neg (show ¬ nI hi < nI v from nI_nlt (by omega) (by omega)), if_neg (show ¬ (1 : Int32) = 0 by decide), if_neg (show ¬ nI hi < nI v from nI_nlt (by omega) (by omega))]
            exact ⟨s, x, nI v, rfl, b3, hxf, Or.inl ⟨v, e, by omega, by omega, by omega, hem, rfl, rfl, b2, hx, hxw⟩⟩
    have es : ∀ r a v, sp_num t m (r + 1) a v = if sp_dg t m a = true then sp_num t m r (a + 1) (10 * v + (t a - 48)) else (v, a) := fun _ _ _ => rfl
    cases hd2 : sp_dg t m (p + 1) with
    | false =>
      rw [if_pos rfl]
      refine fin d (p + 1) _ ?_ (by omega) (by omega) (by omega) u1 w1 f1
      rw [es, hd, if_pos rfl, es, hd2, if_neg (by decide)]
      simp only [Prod.mk.injEq, and_true]
      omega
    | true =>
      obtain ⟨d', g1, g2, g3, g4⟩ := sp_sg_dg hd2
      rw [if_neg (by decide), g3, rb_10d, u1.2.2, nI_1, rb_lt_eq]
      refine fin (10 * d + d') (p + 2) _ ?_ (by omega) (by omega) (by omega) (TM_at u1) (by rw [rb_sIg _ _ _ _ _ _ (by omega)]; exact w1) (f1.sI' (k := 0) (j := 3) ⟨rfl, Or.inl rfl⟩)
      rw [es, hd, if_pos rfl, es, hd2, if_pos rfl]
      show (_, p + 1 + 1) = _
      simp only [Prod.mk.injEq, and_true]
      omega
/-- the class's loop over items, and the reference's -/
def gX (cx : Nat) (nx : Int32) (nn : Nat) (IX : Int32 → rb_St → Option Int32) (sl sh : Nat) (x5 : Int32) (L : Int32 → Int32 → rb_St → Option (Nat × rb_St)) (x6 x7 : Int32) (σ : rb_St) : Option (Nat × rb_St) := if 3 < x7 then some (3, σ) else rb_b2 (xf_Rd_nextSignG σ) fun r4 s2 => if r4 = (-1) then some (0, s2) else if r4 = 59 then some (0, s2) else rb_b1 (IX ((r4.toUInt32 % 65536).toInt32) s2) fun r7 => if r7 < 0 then some (1, s2) else if 3 ≤ r7 then some (1, s2) else if ((x6 >>> (r7 &&& 31)) &&& 1) = 0 then rb_lt (rb_sI s2 3 1 ((s2.1 3 1) + 1)) (fun s12 => if rb_ib r7 3 then rb_b2 (xf_GR_readWithin ((rb_sv sl).getD r7.toNatClampNeg 0) ((rb_sv sh).getD r7.toNatClampNeg 0) s12) fun r17 s15 => if r17 < 0 then some (2, s15) else if x5 < 0 then some (2, s15) else if (x5 + r7) < nx then if rb_ib (x5 + r7) nn then rb_lt (rb_sI s15 cx (x5 + r7).toNatClampNeg r17) (fun s22 => L (x6 ||| (1 <<< (r7 &&& 31))) (x7 + 1) s22) else none else some (2, s15) else none) else some (1, s2)
def gM (cm nm : Nat) (lo hi x3 : Int32) (it : Int32 → Int32) (M : Int32 → Int32 → rb_St → Option rb_St) (x4 x5 : Int32) (τ : rb_St) : Option rb_St := if (τ.1 0 4) = (-1) then (if (xf_M_has x4 x5 τ) = 0 then rb_lt (rb_sI τ 0 3 ((τ.1 0 3) + 1)) (fun s13 => rb_b2 (xf_M_number lo hi s13) fun r19 s17 => if rb_ib (x3 + x5) nm then rb_lt (rb_sI s17 cm (x3 + x5).toNatClampNeg r19) (fun s21 => if (s21.1 0 4) = (-1) then rb_b2 (xf_M_look s21) fun r26 s24 => M (x4 ||| (1 <<< (x5 &&& 31))) (it r26) s24 else M (x4 ||| (1 <<< (x5 &&& 31))) (-1) s21) else none) else some τ) else some τ
def sp_pop (S : Nat) : Nat := S % 2 + S / 2 % 2 + S / 4 % 2
theorem sp_pop_s : ∀ S, S < 8 → ∀ k, k < 3 → S.testBit k = false → S ||| 2 ^ k < 8 ∧ sp_pop (S ||| 2 ^ k) = sp_pop S + 1 := by decide +kernel
theorem sp_pop_le : ∀ S, S < 8 → sp_pop S ≤ 3 := by decide +kernel
theorem sp_pop_3 : ∀ S, S < 8 → ∀ k, k < 3 → sp_pop S = 3 → S.testBit k = true := by decide +kernel
def sc3 (cx c i : Nat) : Prop := (c = 3 ∧ i = 1) ∨ c = cx
def scW2 (cm c i : Nat) : Prop := scW c i ∨ c = cm
/-- outcomes: 1 all right, 2 a sign that the reference has not told yet, 3 told -/
def iOut (m : Nat) (t : Nat → Nat) (a cd : Nat) (σ' τ' : rb_St) : Prop := (cd = 0 ∧ ∃ e, a ≤ e ∧ e ≤ m ∧ sp_sk t m e = e ∧ TX 3 m t e σ' ∧ TM m t e τ' ∧ τ'.1 0 4 = -1 ∧ (sp_sg t m e = -1 ∨ sp_sg t m e = 59)) ∨ (cd ≠ 0 ∧ ∃ e, e ≤ m ∧ sp_sk t m e = e ∧ σ'.1 3 1 = nI e ∧ TM m t e τ' ∧ τ'.1 0 4 = -1 ∧ sp_sg t m e ≠ -1 ∧ sp_sg t m e ≠ 59) ∨ (cd ≠ 0 ∧ ∃ e, e ≤ m ∧ σ'.1 3 1 = nI e ∧ τ'.1 0 4 = nI e)
theorem rb_items (W : tw m t) {cx cm nn nm fr : Nat} {nx : Int32} {sl sh : Nat} {lo hi : Nat → Nat} {IX : Int32 → rb_St → Option Int32} {it : Int32 → Int32} (L : Nat → Int32 → Int32 → rb_St → Option (Nat × rb_St)) (M : Nat → Int32 → Int32 → rb_St → Option rb_St) (hcx : 4 ≤ cx) (hcm : 2 ≤ cm) (hnx : nx = nI nn) (hfr : fr + 3 ≤ nn) (hfm : fr + 3 ≤ nm) (hnn : nn < 2 ^ 20) (hnm : nm < 2 ^ 20) (hb : ∀ k, k < 3 → lo k ≤ 99 ∧ hi k ≤ 99 ∧ (rb_sv sl).getD k 0 = nI (lo k) ∧ (rb_sv sh).getD k 0 = nI (hi k)) (hit : ∀ x, it x = -1 ∨ ∃ k, k < 3 ∧ it x = nI k) (hi1 : it (-1) = -1) (hi2 : it 59 = -1) (hIX : ∀ b, 0 < b → b < 256 → ∀ σ, IX (((nI b).toUInt32 % 65536).toInt32) σ = some (it (nI b))) (hL : ∀ f x6 x7 σ, L (f + 1) x6 x7 σ = gX cx nx nn IX sl sh (nI fr) (L f) x6 x7 σ) (hM : ∀ g x4 k τ, k < 3 → M (g + 1) x4 (nI k) τ = gM cm nm (nI (lo k)) (nI (hi k)) (nI fr) it (M g) x4 (nI k) τ) (hM1 : ∀ g x4 τ, M (g + 1) x4 (-1) τ = some τ) : ∀ (r c S a f g : Nat) (val : Nat → Nat) (σ τ : rb_St), c + r = 3 → r < f → r + 1 < g → S < 8 → sp_pop S = c → a ≤ m → TX 3 m t a σ → TM m t (sp_sk t m a) τ → τ.1 0 4 = -1 → (∀ k, k < 3 → lo k ≤ val k ∧ val k ≤ hi k ∧ σ.1 cx (fr + k) = nI (val k) ∧ τ.1 cm (fr + k) = nI (val k)) → ∃ (cd : Nat) (σ' τ' : rb_St) (val' : Nat → Nat), L f (nI S) (nI c) σ = some (cd, σ') ∧ M g (nI S) (it (sp_sg t m (sp_sk t m a))) τ = some τ' ∧ rb_fr (fun c i => (c = 3 ∧ i = 1) ∨ (c = cx ∧ fr ≤ i ∧ i < fr + 3)) σ σ' ∧ rb_fr (fun c i => scW c i ∨ (c = cm ∧ fr ≤ i ∧ i < fr + 3)) τ τ' ∧ iOut m t a cd σ' τ' ∧ (cd = 0 → ∀ k, k < 3 → lo k ≤ val' k ∧ val' k ≤ hi k ∧ σ'.1 cx (fr + k) = nI (val' k) ∧ τ'.1 cm (fr + k) = nI (val' k)) := by
  have hm := W.1
  intro r
  induction r with
  | zero =>
    intro c S a f g val σ τ hc hf hg hS hpop ha hX hT hw hv
    obtain ⟨f, rfl⟩ : ∃ q, f = q + 1 := ⟨f - 1, by omega⟩
    obtain ⟨g, rfl⟩ : ∃ q, g = q + 1 := ⟨g - 1, by omega⟩
    obtain ⟨s2, b1, b2, b3⟩ := sx_nextG W ha hX
    obtain ⟨hp1, hp2⟩ := sp_sk_le (t := t) ha
    have hpp := sp_sk_sk (t := t) (m := m) ha
    obtain ⟨p, hp⟩ : ∃ p, p = sp_sk t m a := ⟨_, rfl⟩
    rw [← hp] at b1 b2 hp1 hp2 hpp hT ⊢
    have fx : rb_fr (fun c i => (c = 3 ∧ i = 1) ∨ (c = cx ∧ fr ≤ i ∧ i < fr + 3)) σ s2 := b3.mo (fun c i q => Or.inl q)
    have hv2 : ∀ k, k < 3 → lo k ≤ val k ∧ val k ≤ hi k ∧ s2.1 cx (fr + k) = nI (val k) ∧ τ.1 cm (fr + k) = nI (val k) := fun k hk => by
      rw [b3.1 cx (fr + k) (by unfold scA; omega)]; exact hv k hk
    rw [hL]
    unfold gX
    rw [if_neg (show ¬ (3 : Int32) < nI c from nI_nlt (a := 3) (by omega) (by decide)), b1, rb_b2_some]
    by_cases q1 : sp_sg t m p = -1
    · rw [if_pos q1, q1, hi1, hM1]
      exact ⟨0, s2, τ, val, rfl, rfl, fx, rb_fr.rf, Or.inl ⟨rfl, p, hp1, hp2, hpp, b2, hT, hw, Or.inl q1⟩, fun _ => hv2⟩
    · rw [if_neg q1]
      by_cases q2 : sp_sg t m p = 59
      · rw [if_pos q2, q2, hi2, hM1]
        exact ⟨0, s2, τ, val, rfl, rfl, fx, rb_fr.rf, Or.inl ⟨rfl, p, hp1, hp2, hpp, b2, hT, hw, Or.inr q2⟩, fun _ => hv2⟩
      · rw [if_neg q2]
        have hpm : p < m := by
          by_cases h : p < m
          · exact h
          · exact absurd (by unfold sp_sg; rw [if_neg h]) q1
        have eb : sp_sg t m p = nI (t p) := by unfold sp_sg; rw [if_pos hpm]
        obtain ⟨w1, w2⟩ := W.2 p hpm
        have k2 : iOut m t a 1 s2 τ := Or.inr (Or.inl ⟨by omega, p, hp2, hpp, b2.2.2, hT, hw, q1, q2⟩)
        rw [eb, hIX (t p) w1 w2, rb_b1_some]
        rcases hit (nI (t p)) with hk | ⟨k, hk, ek⟩
        · rw [hk, if_pos (by decide), hM1]
          exact ⟨1, s2, τ, val, rfl, rfl, fx, rb_fr.rf, k2, fun h => by omega⟩
        · have hbit := sp_pop_3 S hS k hk (by omega)
          rw [ek, if_neg (nI_pos (by omega)), if_neg (show ¬ (3 : Int32) ≤ nI k from nI_ge (b := 3) hk (by decide)), if_neg (fun e => by rw [rb_bit0 (by omega) (by omega)] at e; rw [hbit] at e; cases e), hM g (nI S) k τ hk]
          unfold gM xf_M_has
          rw [if_pos hw, if_pos (show ((nI S >>> (nI k &&& 31)) &&& 1) = 1 from (rb_bitn (by omega) (by omega)).mpr hbit), if_neg (show ¬ (1 : Int32) = 0 by decide)]
          exact ⟨1, s2, τ, val, rfl, rfl, fx, rb_fr.rf, k2, fun h => by omega⟩
  | succ r ih =>
    intro c S a f g val σ τ hc hf hg hS hpop ha hX hT hw hv
    obtain ⟨f, rfl⟩ : ∃ q, f = q + 1 := ⟨f - 1, by omega⟩
    obtain ⟨g, rfl⟩ : ∃ q, g = q + 1 := ⟨g - 1, by omega⟩
    obtain ⟨s2, b1, b2, b3⟩ := sx_nextG W ha hX
    obtain ⟨hp1, hp2⟩ := sp_sk_le (t := t) ha
    have hpp := sp_sk_sk (t := t) (m := m) ha
    obtain ⟨p, hp⟩ : ∃ p, p = sp_sk t m a := ⟨_, rfl⟩
    rw [← hp] at b1 b2 hp1 hp2 hpp hT ⊢
    have fx : rb_fr (fun c i => (c = 3 ∧ i = 1) ∨ (c = cx ∧ fr ≤ i ∧ i < fr + 3)) σ s2 := b3.mo (fun c i q => Or.inl q)
    have hv2 : ∀ k, k < 3 → lo k ≤ val k ∧ val k ≤ hi k ∧ s2.1 cx (fr + k) = nI (val k) ∧ τ.1 cm (fr + k) = nI (val k) := fun k hk => by
      rw [b3.1 cx (fr + k) (by unfold scA; omega)]; exact hv k hk
    rw [hL]
    unfold gX
    rw [if_neg (show ¬ (3 : Int32) < nI c from nI_nlt (a := 3) (by omega) (by decide)), b1, rb_b2_some]
    by_cases q1 : sp_sg t m p = -1
    · rw [if_pos q1, q1, hi1, hM1]
      exact ⟨0, s2, τ, val, rfl, rfl, fx, rb_fr.rf, Or.inl ⟨rfl, p, hp1, hp2, hpp, b2, hT, hw, Or.inl q1⟩, fun _ => hv2⟩
    · rw [if_neg q1]
      by_cases q2 : sp_sg t m p = 59
      · rw [if_pos q2, q2, hi2, hM1]
        exact ⟨0, s2, τ, val, rfl, rfl, fx, rb_fr.rf, Or.inl ⟨rfl, p, hp1, hp2, hpp, b2, hT, hw, Or.inr q2⟩, fun _ => hv2⟩
      · rw [if_neg q2]
        have hpm : p < m := by
          by_cases h : p < m
          · exact h
          · exact absurd (by unfold sp_sg; rw [if_neg h]) q1
        have eb : sp_sg t m p = nI (t p) := by unfold sp_sg; rw [if_pos hpm]
        obtain ⟨w1, w2⟩ := W.2 p hpm
        have k2 : iOut m t a 1 s2 τ := Or.inr (Or.inl ⟨by omega, p, hp2, hpp, b2.2.2, hT, hw, q1, q2⟩)
        rw [eb, hIX (t p) w1 w2, rb_b1_some]
        rcases hit (nI (t p)) with hk | ⟨k, hk, ek⟩
        · rw [hk, if_pos (by decide), hM1]
          exact ⟨1, s2, τ, val, rfl, rfl, fx, rb_fr.rf, k2, fun h => by omega⟩
        · obtain ⟨k1, k3, k4, k5⟩ := hb k hk
          rw [ek, if_neg (nI_pos (by omega)), if_neg (show ¬ (3 : Int32) ≤ nI k from nI_ge (b := 3) hk (by decide)), hM g (nI S) k τ hk]
          unfold gM xf_M_has
          rw [if_pos hw]
          cases hbit : S.testBit k with
          | true =>
            rw [if_neg (fun e => by rw [rb_bit0 (by omega) (by omega)] at e; rw [hbit] at e; cases e), if_pos (show ((nI S >>> (nI k &&& 31)) &&& 1) = 1 from (rb_bitn (by omega) (by omega)).mpr hbit), if_neg (show ¬ (1 : Int32) = 0 by decide)]
            exact ⟨1, s2, τ, val, rfl, rfl, fx, rb_fr.rf, k2, fun h => by omega⟩
          | false =>
            have h0 := (rb_bit0 (a := S) (s := k) (by omega) (by omega)).mpr hbit
            rw [if_pos h0, if_neg (show ¬ ((nI S >>> (nI k &&& 31)) &&& 1) = 1 by rw [h0]; decide), if_pos (show (0 : Int32) = 0 from rfl), rb_lt_eq, rb_lt_eq, b2.2.2, hT.2.2, nI_1, rb_ib_nI hk (by decide), if_pos rfl, nI_clamp (by omega), k4, k5]
            obtain ⟨s15, u17, r', x1, x2, x3, x4⟩ := rb_within W (show p + 1 ≤ m by omega) (TX_at (b := p + 1) (by decide) b2) (TM_at (b := p + 1) hT) (by rw [rb_sIg _ _ _ _ _ _ (by omega)]; exact hw) k1 k3
            have f15 : rb_fr (fun c i => (c = 3 ∧ i = 1) ∨ (c = cx ∧ fr ≤ i ∧ i < fr + 3)) σ s15 := (fx.sI' (k := 3) (j := 1) (Or.inl ⟨rfl, rfl⟩)).tr (x2.mo (fun c i q => Or.inl q))
            have g17 : rb_fr (fun c i => scW c i ∨ (c = cm ∧ fr ≤ i ∧ i < fr + 3)) τ u17 := (rb_fr.sI (ch := fun c i => scW c i ∨ (c = cm ∧ fr ≤ i ∧ i < fr + 3)) (k := 0) (j := 3) (Or.inl ⟨rfl, Or.inl rfl⟩)).tr (x3.mo (fun c i q => Or.inl q))
            have g21 : rb_fr (fun c i => scW c i ∨ (c = cm ∧ fr ≤ i ∧ i < fr + 3)) τ (rb_sI u17 cm (fr + k) r') := g17.sI' (k := cm) (j := fr + k) (Or.inr ⟨rfl, by omega, by omega⟩)
            rw [x1, rb_b2_some, nI_add, rb_ib_nI (show fr + k < nm by omega) (by omega), if_pos rfl, rb_lt_eq, nI_clamp (by omega), rb_1l (by omega), rb_or]
            rcases x4 with ⟨v, e, y1, y2, y3, y4, y5, y6, y7, y8, y9⟩ | ⟨p', y1, y2, y3, y4⟩
            · obtain ⟨z1, z2⟩ := sp_pop_s S hS k hk hbit
              have t21 : TM m t e (rb_sI u17 cm (fr + k) r') := TM_fr (ch := fun c i => c = cm) (rb_fr.sI rfl) (fun c i q => by omega) y8
              have w21 : (rb_sI u17 cm (fr + k) r').1 0 4 = -1 := by rw [rb_sIg _ _ _ _ _ _ (by omega)]; exact y9
              obtain ⟨u24, l1, l2, l3⟩ := sm_look W y4 t21
              rw [y6, rb_b2_some, if_neg (nI_pos (by omega)), if_neg (nI_pos (by omega)), hnx, if_pos (nI_lt (show fr + k < nn by omega) (by omega)), rb_ib_nI (show fr + k < nn by omega) (by omega), if_pos rfl, rb_lt_eq, w21, if_pos rfl, l1, rb_b2_some]
              have t22 : TX 3 m t e (rb_sI s15 cx (fr + k) (nI v)) := TX_fr (ch := fun c i => c = cx) (rb_fr.sI rfl) (fun c i q => by omega) y7
              have f22 : rb_fr (fun c i => (c = 3 ∧ i = 1) ∨ (c = cx ∧ fr ≤ i ∧ i < fr + 3)) σ (rb_sI s15 cx (fr + k) (nI v)) := f15.sI' (k := cx) (j := fr + k) (Or.inr ⟨rfl, by omega, by omega⟩)
              have g24 : rb_fr (fun c i => scW c i ∨ (c = cm ∧ fr ≤ i ∧ i < fr + 3)) τ u24 := g21.tr (l3.mo (fun c i q => Or.inl (scB_W c i q)))
              obtain ⟨cd, σ', τ', val', o1, o2, o3, o4, o5, o6⟩ := ih (c + 1) (S ||| 2 ^ k) e f g (fun q => if q = k then v else val q) (rb_sI s15 cx (fr + k) (nI v)) u24 (by omega) (by omega) (by omega) z1 (by omega) y4 t22 l2 (by rw [l3.1 0 4 (by unfold scB; omega)]; exact w21) (fun q hq => by
                by_cases eq : q = k
                · subst eq
                  simp only [if_true]
                  refine ⟨y1, y2, rb_sI_eq _ _ _ _, ?_⟩
                  rw [l3.1 cm (fr + q) (by unfold scB; omega), rb_sI_eq, y5]
                · simp only [if_neg eq]
                  obtain ⟨v1, v2, v3, v4⟩ := hv2 q hq
                  refine ⟨v1, v2, ?_, ?_⟩
                  · rw [rb_sIg _ _ _ _ _ _ (by omega), x2.1 cx (fr + q) (by unfold scA; omega), rb_sIg _ _ _ _ _ _ (by omega)]; exact v3
                  · rw [l3.1 cm (fr + q) (by unfold scB; omega), rb_sIg _ _ _ _ _ _ (by omega), x3.1 cm (fr + q) (by unfold scW; omega), rb_sIg _ _ _ _ _ _ (by omega)]; exact v4)
              rw [nI_1]
              refine ⟨cd, σ', τ', val', o1, o2, f22.tr o3, g24.tr o4, ?_, o6⟩
              rcases o5 with ⟨n1, e', n2, n3⟩ | n | n
              · exact Or.inl ⟨n1, e', by omega, n3⟩
              · exact Or.inr (Or.inl n)
              · exact Or.inr (Or.inr n)
            · have w21 : (rb_sI u17 cm (fr + k) r').1 0 4 = nI p' := by rw [rb_sIg _ _ _ _ _ _ (by omega)]; exact y4
              obtain ⟨g, rfl⟩ : ∃ q, g = q + 1 := ⟨g - 1, by omega⟩
              rw [y2, rb_b2_some, if_pos (by decide), w21, if_neg (rb_neg1 (by omega)), hM1]
              exact ⟨2, s15, _, val, rfl, rfl, f15, g21, Or.inr (Or.inr ⟨by omega, p', y1, y3, w21⟩), fun h => by omega⟩
end RBIT
