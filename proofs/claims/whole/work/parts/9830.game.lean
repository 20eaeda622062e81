/-! GAMES AND RESTS -/
def sp_ga (n : Nat) (ru tr : Nat → Nat) (ho : Nat) (La : Nat → List sp_Cl) (wh ln : Nat → Nat) (m : Nat) (cr : Nat → Nat → Nat) (be s x y w : Nat) : Int32 := if x = 2 then 0 else if y = 2 then 0 else if x = y then (if x = 0 then -2 else -1) else if sp_un n cr (2 * s + x) m = 0 then (if sp_hi n wh ln m cr (2 * s + x) (sp_pr n ru tr ho La wh m cr be (2 * s + x)) = 0 then (if (if w = 0 then x else y) = 0 then 6 - nI (sp_pr n ru tr ho La wh m cr be (2 * s + x)) else 5 - nI (sp_pr n ru tr ho La wh m cr be (2 * s + x))) else -3) else 4
section RBGA
variable {n lc ho m co be s x y w : Nat} {ru tr wh ln : Nat → Nat} {La : Nat → List sp_Cl} {cr lg : Nat → Nat → Nat} {σ τ : rb_St}
theorem sx_gain (D : RD n ru tr lc ho La wh ln m cr co be lg σ τ) (hs : s < n) (hx : x ≤ 2) (hy : y ≤ 2) (hw : w ≤ 1) : ∃ σ', xf_RP_gain (nI s) (nI x) (nI y) (nI w) σ = some (sp_ga n ru tr ho La wh ln m cr be s x y w, σ') ∧ rb_fr scX σ σ' := by
  obtain ⟨⟨G, W, g, gM, w1, wM⟩, b, A, P, p, -, q, r⟩ := D
  have hbe := P.2.2.2.1
  have hn := G.1
  have hm := P.2.1
  unfold xf_RP_gain sp_ga
  have ex2 : (nI x = (2 : Int32)) = (x = 2) := by rw [rb_l2, nI_eq (by omega) (by decide)]
  have ey2 : (nI y = (2 : Int32)) = (y = 2) := by rw [rb_l2, nI_eq (by omega) (by decide)]
  have exy : (nI x = nI y) = (x = y) := by rw [nI_eq (by omega) (by omega)]
  have ex0 : (nI x = (0 : Int32)) = (x = 0) := by rw [rb_l0, nI_eq (by omega) (by decide)]
  have ey0 : (nI y = (0 : Int32)) = (y = 0) := by rw [rb_l0, nI_eq (by omega) (by decide)]
  have ew0 : (nI w = (0 : Int32)) = (w = 0) := by rw [rb_l0, nI_eq (by omega) (by decide)]
  simp only [ex2, ey2, exy, ex0]
  by_cases c1 : x = 2
  · exact ⟨σ, by rw [if_pos c1, if_pos c1], rb_fr.rf⟩
  · rw [if_neg c1, if_neg c1]
    by_cases c2 : y = 2
    · exact ⟨σ, by rw [if_pos c2, if_pos c2], rb_fr.rf⟩
    · rw [if_neg c2, if_neg c2]
      by_cases c3 : x = y
      · refine ⟨σ, ?_, rb_fr.rf⟩
        rw [if_pos c3, if_pos c3]
        split <;> rfl
      · rw [if_neg c3, if_neg c3]
        have hl : 2 * s + x < 2 * n := by omega
        have e0 : (2 : Int32) * nI s = nI (2 * s) := by rw [rb_l2, pk_mul]
        have hle := sp_un_le (n := n) (cr := cr) (l := 2 * s + x) (m := m)
        have key : ∀ u0 : Int32, xf_RP_letterOf (nI s) u0 σ = nI (2 * s + x) → ∃ σ', xj_RP_gain_38 (nI x) (nI y) (nI w) u0 (nI s) σ = some (if sp_un n cr (2 * s + x) m = 0 then (if sp_hi n wh ln m cr (2 * s + x) (sp_pr n ru tr ho La wh m cr be (2 * s + x)) = 0 then (if (if w = 0 then x else y) = 0 then 6 - nI (sp_pr n ru tr ho La wh m cr be (2 * s + x)) else 5 - nI (sp_pr n ru tr ho La wh m cr be (2 * s + x))) else -3) else 4, σ') ∧ rb_fr scX σ σ' := by
          intro u0 hu
          unfold xj_RP_gain_38
          rw [hu, sx_undoneBy P.1.2.2.1 p.2.1 p.1.1 hl, rb_b1_some]
          simp only [sx_lt0 (show sp_un n cr (2 * s + x) m < 2 ^ 31 by omega), ex0, ey0, ew0]
          by_cases c4 : sp_un n cr (2 * s + x) m = 0
          · rw [if_pos c4, if_pos c4]
            obtain ⟨σ1, a1, a2⟩ := sx_price G W P.1.1 P.1.2.2.1 g w1 p.1 p.2.1 p.2.2.2 (by omega) hl
            refine ⟨σ1, ?_, a2.mo scX_law⟩
            rw [a1, rb_b2_some, sx_hindrance P.1 (rx_wh_fr a2 (fun c i q => by unfold sc_law at q; omega) p.1) (rx_cr_fr a2 (fun c i q => by unfold sc_law at q; omega) p.2.1) hl, rb_b1_some]
            have hc := sp_hi_c n wh ln m cr (2 * s + x) (sp_pr n ru tr ho La wh m cr be (2 * s + x))
            by_cases c5 : sp_hi n wh ln m cr (2 * s + x) (sp_pr n ru tr ho La wh m cr be (2 * s + x)) = 0
            · rw [if_pos (show nI (sp_hi n wh ln m cr (2 * s + x) (sp_pr n ru tr ho La wh m cr be (2 * s + x))) = 0 by rw [c5]; rfl), if_pos c5]
              by_cases c6 : w = 0
              · rw [if_pos c6, if_pos c6]
                split <;> rfl
              · rw [if_neg c6, if_neg c6]
                split <;> rfl
            · rw [if_neg (nI_ne0 (by omega) (by omega)), if_neg c5]
          · rw [if_neg c4, if_neg c4]
            exact ⟨σ, rfl, rb_fr.rf⟩
        by_cases c7 : x = 0
        · rw [if_pos c7]
          refine key 1 ?_
          unfold xf_RP_letterOf
          rw [if_neg (by decide), e0]
          congr 1
          omega
        · rw [if_neg c7]
          refine key 0 ?_
          unfold xf_RP_letterOf
          rw [if_pos rfl, e0, nI_1]
          congr 1
          omega
theorem sm_game (D : RD n ru tr lc ho La wh ln m cr co be lg σ τ) (hs : s < n) (hx : x ≤ 2) (hy : y ≤ 2) (hw : w ≤ 1) : ∃ τ', xf_M_gameOf (nI s) (nI x) (nI y) (nI w) τ = some (sp_ga n ru tr ho La wh ln m cr be s x y w, τ') ∧ rb_fr scM τ τ' := by
  obtain ⟨⟨G, W, g, gM, w1, wM⟩, b, A, P, p, -, q, r⟩ := id D
  have hbe := P.2.2.2.1
  have hn := G.1
  have hm := P.2.1
  have ww := pm_wh hn gM.1 q
  unfold xf_M_gameOf sp_ga
  have ex2 : (nI x = (2 : Int32)) = (x = 2) := by rw [rb_l2, nI_eq (by omega) (by decide)]
  have ey2 : (nI y = (2 : Int32)) = (y = 2) := by rw [rb_l2, nI_eq (by omega) (by decide)]
  have exy : (nI x = nI y) = (x = y) := by rw [nI_eq (by omega) (by omega)]
  have ex0 : (nI x = (0 : Int32)) = (x = 0) := by rw [rb_l0, nI_eq (by omega) (by decide)]
  have ey0 : (nI y = (0 : Int32)) = (y = 0) := by rw [rb_l0, nI_eq (by omega) (by decide)]
  have ew0 : (nI w = (0 : Int32)) = (w = 0) := by rw [rb_l0, nI_eq (by omega) (by decide)]
  simp only [ex2, ey2, exy, ex0, ey0, ew0]
  by_cases c1 : x = 2
  · exact ⟨τ, by rw [if_pos c1, if_pos c1], rb_fr.rf⟩
  · rw [if_neg c1, if_neg c1]
    by_cases c2 : y = 2
    · exact ⟨τ, by rw [if_pos c2, if_pos c2], rb_fr.rf⟩
    · rw [if_neg c2, if_neg c2]
      by_cases c3 : x = y
      · refine ⟨τ, ?_, rb_fr.rf⟩
        rw [if_pos c3, if_pos c3]
        split <;> rfl
      · rw [if_neg c3, if_neg c3]
        have hl : 2 * s + x < 2 * n := by omega
        have e0 : (2 : Int32) * nI s + nI x = nI (2 * s + x) := by rw [rb_l2, pk_mul, nI_add]
        have hle := sp_un_le (n := n) (cr := cr) (l := 2 * s + x) (m := m)
        obtain ⟨τ1, a1, a2⟩ := sm_canCross G W P.1 gM wM ww q.2.2.1 q.2.2.2.2 (by omega) hl
        have r17 : τ1.1 17 = τ.1 17 := funext fun i => a2.1 17 i (by unfold sc_9; omega)
        have gM1 := gm_fr a2 (fun c i q => by unfold sc_9 at q; omega) gM
        have lM1 := lwm_fr a2 (fun c i q => by unfold sc_9 at q; omega) wM
        have q1 : pm n wh ln m cr co be (τ1.1 17) := by rw [r17]; exact q
        have ww1 := pm_wh hn gM1.1 q1
        obtain ⟨τ2, b1, b2⟩ := sm_price G W P.1.1 P.1.2.2.1 gM1 lM1 ww1 q1.2.2.1 q1.2.2.2.2 (by omega) hl
        rw [e0, a1, rb_b2_some, sm_undoes P.1.2.2.1 q1.2.2.1 ww1.1 hl, rb_b1_some, b1, rb_b2_some, rb_b2_some]
        simp only [sx_eqm1 (show sp_un n cr (2 * s + x) m < 2 ^ 31 by omega)]
        unfold sp_hd
        by_cases c4 : sp_un n cr (2 * s + x) m = 0
        · rw [if_pos c4, if_pos c4, if_pos c4]
          by_cases c5 : sp_hi n wh ln m cr (2 * s + x) (sp_pr n ru tr ho La wh m cr be (2 * s + x)) = 0
          · rw [if_pos c5, if_neg (show ¬ (1 : Int32) = 0 by decide), if_pos c5]
            refine ⟨τ2, ?_, (a2.tr b2).mo scM_9⟩
            by_cases c6 : w = 0
            · rw [if_pos c6, if_pos c6]
              split <;> rfl
            · rw [if_neg c6, if_neg c6]
              split <;> rfl
          · rw [if_neg c5, if_pos rfl, if_neg c5]
            exact ⟨τ1, rfl, a2.mo scM_9⟩
        · rw [if_neg c4, if_neg c4, if_neg c4, if_pos (show (0 : Nat) = 0 from rfl), if_neg (show ¬ (1 : Int32) = 0 by decide)]
          exact ⟨τ1, rfl, a2.mo scM_9⟩
/-- a rest: the loop over what one else could do -/
def sp_ir (g : Nat → Nat → Nat → Int32) (x y : Nat) : Nat → Nat → Bool
  | 0, _ => true
  | r + 1, k => if g x y 0 < g k y 0 then false else if g x k 1 ≤ g x y 1 then sp_ir g x y r (k + 1) else false
theorem sx_isRest {g : Nat → Nat → Nat → Int32} (H : ∀ σ1, rb_fr scX σ σ1 → ∀ x y w, x ≤ 2 → y ≤ 2 → w ≤ 1 → ∃ σ2, xf_RP_gain (nI s) (nI x) (nI y) (nI w) σ1 = some (g x y w, σ2) ∧ rb_fr scX σ σ2) (hx : x ≤ 2) (hy : y ≤ 2) {σ1 : rb_St} (h1 : rb_fr scX σ σ1) : ∃ σ', xf_RP_isRest (nI s) (nI x) (nI y) σ1 = some (rb_bI (sp_ir g x y 3 0), σ') ∧ rb_fr scX σ σ' := by
  have key : ∀ (r k f : Nat) (σ1 : rb_St), k + r = 3 → r < f → rb_fr scX σ σ1 → ∃ σ', xl_RP_isRest_23 (nI s) (nI x) (nI y) (g x y 0) (g x y 1) f (nI k) σ1 = some (if sp_ir g x y r k = true then 1 else 0, σ') ∧ rb_fr scX σ σ' := by
    intro r
    induction r with
    | zero =>
      intro k f σ1 hk hf h1
      obtain ⟨f, rfl⟩ : ∃ q, f = q + 1 := ⟨f - 1, by omega⟩
      refine ⟨σ1, ?_, h1⟩
      show (if 2 < nI k then some (1, σ1) else _) = _
      rw [if_pos (show (2 : Int32) < nI k from nI_lt (a := 2) (by omega) (by omega))]
      rfl
    | succ r ih =>
      intro k f σ1 hk hf h1
      obtain ⟨f, rfl⟩ : ∃ q, f = q + 1 := ⟨f - 1, by omega⟩
      obtain ⟨s8, a1, a2⟩ := H σ1 h1 k y 0 (by omega) hy (by omega)
      have a1' : xf_RP_gain (nI s) (nI k) (nI y) 0 σ1 = some (g k y 0, s8) := a1
      obtain ⟨s12, b1, b2⟩ := H s8 a2 x k 1 hx (by omega) (by omega)
      have b1' : xf_RP_gain (nI s) (nI x) (nI k) 1 s8 = some (g x k 1, s12) := b1
      show ∃ σ', (if 2 < nI k then some (1, σ1) else rb_b2 (xf_RP_gain (nI s) (nI k) (nI y) 0 σ1) fun r10 s8 => if g x y 0 < r10 then some (0, s8) else rb_b2 (xf_RP_gain (nI s) (nI x) (nI k) 1 s8) fun r14 s12 => if r14 ≤ g x y 1 then xl_RP_isRest_23 (nI s) (nI x) (nI y) (g x y 0) (g x y 1) f (nI k + 1) s12 else some (0, s12)) = some (if (if g x y 0 < g k y 0 then false else if g x k 1 ≤ g x y 1 then sp_ir g x y r (k + 1) else false) = true then 1 else 0, σ') ∧ _
      rw [if_neg (show ¬ (2 : Int32) < nI k from nI_nlt (a := 2) (by omega) (by decide)), a1', rb_b2_some, b1', rb_b2_some, nI_1]
      by_cases c1 : g x y 0 < g k y 0
      · rw [if_pos c1, if_pos c1]
        exact ⟨s8, rfl, a2⟩
      · rw [if_neg c1, if_neg c1]
        by_cases c2 : g x k 1 ≤ g x y 1
        · rw [if_pos c2, if_pos c2]
          exact ih (k + 1) f s12 (by omega) (by omega) b2
        · rw [if_neg c2, if_neg c2]
          exact ⟨s12, rfl, b2⟩
  obtain ⟨s1, a1, a2⟩ := H σ1 h1 x y 0 hx hy (by omega)
  have a1' : xf_RP_gain (nI s) (nI x) (nI y) 0 σ1 = some (g x y 0, s1) := a1
  obtain ⟨s2, b1, b2⟩ := H s1 a2 x y 1 hx hy (by omega)
  have b1' : xf_RP_gain (nI s) (nI x) (nI y) 1 s1 = some (g x y 1, s2) := b1
  obtain ⟨s3, c1, c2⟩ := key 3 0 rb_FU s2 (by omega) (by unfold rb_FU; omega) b2
  have c1' : xl_RP_isRest_23 (nI s) (nI x) (nI y) (g x y 0) (g x y 1) rb_FU 0 s2 = some (if sp_ir g x y 3 0 = true then 1 else 0, s3) := c1
  refine ⟨s3, ?_, c2⟩
  unfold xf_RP_isRest
  rw [a1', rb_b2_some, b1', rb_b2_some, c1', rb_b2_some]
  cases sp_ir g x y 3 0 <;> rfl
theorem sm_isRest {g : Nat → Nat → Nat → Int32} (H : ∀ τ1, rb_fr scM τ τ1 → ∀ x y w, x ≤ 2 → y ≤ 2 → w ≤ 1 → ∃ τ2, xf_M_gameOf (nI s) (nI x) (nI y) (nI w) τ1 = some (g x y w, τ2) ∧ rb_fr scM τ τ2) (hx : x ≤ 2) (hy : y ≤ 2) {τ1 : rb_St} (h1 : rb_fr scM τ τ1) : ∃ τ', xf_M_isRest (nI s) (nI x) (nI y) τ1 = some (rb_bI (sp_ir g x y 3 0), τ') ∧ rb_fr scM τ τ' := by
  have key : ∀ (r k f : Nat) (τ1 : rb_St), k + r = 3 → r < f → rb_fr scM τ τ1 → ∃ τ', xl_M_isRest_3 (nI s) (nI x) (nI y) f (nI k) τ1 = some (if sp_ir g x y r k = true then 1 else 0, τ') ∧ rb_fr scM τ τ' := by
    intro r
    induction r with
    | zero =>
      intro k f τ1 hk hf h1
      obtain ⟨f, rfl⟩ : ∃ q, f = q + 1 := ⟨f - 1, by omega⟩
      refine ⟨τ1, ?_, h1⟩
      show (if 3 ≤ nI k then some (1, τ1) else _) = _
      rw [if_pos (show (3 : Int32) ≤ nI k from nI_le (a := 3) (by omega) (by omega))]
      rfl
    | succ r ih =>
      intro k f τ1 hk hf h1
      obtain ⟨f, rfl⟩ : ∃ q, f = q + 1 := ⟨f - 1, by omega⟩
      obtain ⟨s2, a1, a2⟩ := H τ1 h1 k y 0 (by omega) hy (by omega)
      have a1' : xf_M_gameOf (nI s) (nI k) (nI y) 0 τ1 = some (g k y 0, s2) := a1
      obtain ⟨s5, b1, b2⟩ := H s2 a2 x y 0 hx hy (by omega)
      have b1' : xf_M_gameOf (nI s) (nI x) (nI y) 0 s2 = some (g x y 0, s5) := b1
      obtain ⟨s9, c1, c2⟩ := H s5 b2 x k 1 hx (by omega) (by omega)
      have c1' : xf_M_gameOf (nI s) (nI x) (nI k) 1 s5 = some (g x k 1, s9) := c1
      obtain ⟨s12, d1, d2⟩ := H s9 c2 x y 1 hx hy (by omega)
      have d1' : xf_M_gameOf (nI s) (nI x) (nI y) 1 s9 = some (g x y 1, s12) := d1
      show ∃ τ', (if 3 ≤ nI k then some (1, τ1) else rb_b2 (xf_M_gameOf (nI s) (nI k) (nI y) 0 τ1) fun r4 s2 => rb_b2 (xf_M_gameOf (nI s) (nI x) (nI y) 0 s2) fun r7 s5 => if r7 < r4 then some (0, s5) else rb_b2 (xf_M_gameOf (nI s) (nI x) (nI k) 1 s5) fun r11 s9 => rb_b2 (xf_M_gameOf (nI s) (nI x) (nI y) 1 s9) fun r14 s12 => if r11 ≤ r14 then xl_M_isRest_3 (nI s) (nI x) (nI y) f (nI k + 1) s12 else some (0, s12)) = some (if (if g x y 0 < g k y 0 then false else if g x k 1 ≤ g x y 1 then sp_ir g x y r (k + 1) else false) = true then 1 else 0, τ') ∧ _
      rw [if_neg (show ¬ (3 : Int32) ≤ nI k from nI_ge (b := 3) (by omega) (by decide)), a1', rb_b2_some, b1', rb_b2_some, c1', rb_b2_some, d1', rb_b2_some, nI_1]
      by_cases c1 : g x y 0 < g k y 0
      · rw [if_pos c1, if_pos c1]
        exact ⟨s5, rfl, b2⟩
      · rw [if_neg c1, if_neg c1]
        by_cases c2 : g x k 1 ≤ g x y 1
        · rw [if_pos c2, if_pos c2]
          exact ih (k + 1) f s12 (by omega) (by omega) d2
        · rw [if_neg c2, if_neg c2]
          exact ⟨s12, rfl, d2⟩
  obtain ⟨s3, c1, c2⟩ := key 3 0 rb_FU τ1 (by omega) (by unfold rb_FU; omega) h1
  have c1' : xl_M_isRest_3 (nI s) (nI x) (nI y) rb_FU 0 τ1 = some (if sp_ir g x y 3 0 = true then 1 else 0, s3) := c1
  refine ⟨s3, ?_, c2⟩
  unfold xf_M_isRest
  rw [c1', rb_b2_some]
  cases sp_ir g x y 3 0 <;> rfl
/-- the i-th of nine, from k on -/
def sp_rs (b : Nat → Bool) (i : Int32) : Nat → Nat → Nat → Nat × Nat
  | 0, k, met => (k, met)
  | r + 1, k, met => if b k = true then (if nI met = i then (k, met) else sp_rs b i r (k + 1) (met + 1)) else sp_rs b i r (k + 1) met
theorem sp_rs_le (b : Nat → Bool) (i : Int32) : ∀ r k met, k ≤ (sp_rs b i r k met).1 ∧ (sp_rs b i r k met).1 ≤ k + r := by
  intro r
  induction r with
  | zero => intro k met; exact ⟨Nat.le_refl k, Nat.le_refl k⟩
  | succ r ih =>
    intro k met
    show k ≤ (if b k = true then (if nI met = i then (k, met) else sp_rs b i r (k + 1) (met + 1)) else sp_rs b i r (k + 1) met).1 ∧ (if b k = true then (if nI met = i then (k, met) else sp_rs b i r (k + 1) (met + 1)) else sp_rs b i r (k + 1) met).1 ≤ k + (r + 1)
    have h1 := ih (k + 1) (met + 1)
    have h2 := ih (k + 1) met
    split
    · split
      · exact ⟨Nat.le_refl k, by show k ≤ k + (r + 1); omega⟩
      · omega
    · omega
theorem sp_rs_met (b : Nat → Bool) (i : Int32) : ∀ r k met, (sp_rs b i r k met).2 ≤ met + r := by
  intro r
  induction r with
  | zero => intro k met; exact Nat.le_refl met
  | succ r ih =>
    intro k met
    show (if b k = true then (if nI met = i then (k, met) else sp_rs b i r (k + 1) (met + 1)) else sp_rs b i r (k + 1) met).2 ≤ met + (r + 1)
    have h1 := ih (k + 1) (met + 1)
    have h2 := ih (k + 1) met
    split
    · split
      · show met ≤ _; omega
      · omega
    · omega
theorem sp_rs_add (b : Nat → Bool) (i : Int32) (r2 : Nat) : ∀ r k met, sp_rs b i (r + r2) k met = if (sp_rs b i r k met).1 < k + r then sp_rs b i r k met else sp_rs b i r2 (k + r) (sp_rs b i r k met).2 := by
  intro r
  induction r with
  | zero =>
    intro k met
    show _ = if k < k + 0 then _ else _
    rw [if_neg (by omega), Nat.zero_add]
    rfl
  | succ r ih =>
    intro k met
    have e1 : sp_rs b i (r + 1 + r2) k met = sp_rs b i ((r + r2) + 1) k met := by rw [show r + 1 + r2 = (r + r2) + 1 by omega]
    have es : ∀ r, sp_rs b i (r + 1) k met = if b k = true then (if nI met = i then (k, met) else sp_rs b i r (k + 1) (met + 1)) else sp_rs b i r (k + 1) met := fun _ => rfl
    rw [e1, es, es]
    by_cases h : b k = true
    · rw [if_pos h, if_pos h]
      by_cases h2 : nI met = i
      · rw [if_pos h2, if_pos h2, if_pos (show k < k + (r + 1) by omega)]
      · rw [if_neg h2, if_neg h2, ih, show k + 1 + r = k + (r + 1) by omega]
    · rw [if_neg h, if_neg h, ih, show k + 1 + r = k + (r + 1) by omega]
theorem sm_restl {g : Nat → Nat → Nat → Int32} {i : Int32} (H : ∀ τ1, rb_fr scM τ τ1 → ∀ x y w, x ≤ 2 → y ≤ 2 → w ≤ 1 → ∃ τ2, xf_M_gameOf (nI s) (nI x) (nI y) (nI w) τ1 = some (g x y w, τ2) ∧ rb_fr scM τ τ2) : ∀ (r k met f : Nat) (τ1 : rb_St), k + r = 9 → r < f → rb_fr scM τ τ1 → ∃ τ', xl_M_rests_20 (nI s) i f (nI met) (nI k) τ1 = some (if (sp_rs (fun k => sp_ir g (k / 3) (k % 3) 3 0) i r k met).1 < 9 then 0 else 1, nI (sp_rs (fun k => sp_ir g (k / 3) (k % 3) 3 0) i r k met).2, nI (sp_rs (fun k => sp_ir g (k / 3) (k % 3) 3 0) i r k met).1, τ') ∧ rb_fr scM τ τ' := by
  intro r
  induction r with
  | zero =>
    intro k met f τ1 hk hf h1
    obtain ⟨f, rfl⟩ : ∃ q, f = q + 1 := ⟨f - 1, by omega⟩
    refine ⟨τ1, ?_, h1⟩
    show (if 9 ≤ nI k then some (1, nI met, nI k, τ1) else _) = some (if k < 9 then 0 else 1, nI met, nI k, τ1)
    rw [if_pos (show (9 : Int32) ≤ nI k from nI_le (a := 9) (by omega) (by omega)), if_neg (by omega)]
  | succ r ih =>
    intro k met f τ1 hk hf h1
    obtain ⟨f, rfl⟩ : ∃ q, f = q + 1 := ⟨f - 1, by omega⟩
    have e1 : nI k / (3 : Int32) = nI (k / 3) := pk_div (d := 3) (by omega) (by decide) (by decide)
    have e2 : nI k - nI k / (3 : Int32) * 3 = nI (k % 3) := pk_rem (d := 3) (by omega) (by decide) (by decide)
    obtain ⟨s6, a1, a2⟩ := sm_isRest H (x := k / 3) (y := k % 3) (by omega) (by omega) h1
    have es : sp_rs (fun k => sp_ir g (k / 3) (k % 3) 3 0) i (r + 1) k met = if sp_ir g (k / 3) (k % 3) 3 0 = true then (if nI met = i then (k, met) else sp_rs (fun k => sp_ir g (k / 3) (k % 3) 3 0) i r (k + 1) (met + 1)) else sp_rs (fun k => sp_ir g (k / 3) (k % 3) 3 0) i r (k + 1) met := rfl
    show ∃ τ', (if 9 ≤ nI k then some (1, nI met, nI k, τ1) else rb_b2 (xf_M_isRest (nI s) (nI k / 3) (nI k - nI k / 3 * 3) τ1) fun r8 s6 => if r8 = 0 then xl_M_rests_20 (nI s) i f (nI met) (nI k + 1) s6 else if nI met = i then some (0, nI met, nI k, s6) else xl_M_rests_20 (nI s) i f (nI met + 1) (nI k + 1) s6) = _ ∧ _
    rw [if_neg (show ¬ (9 : Int32) ≤ nI k from nI_ge (b := 9) (by omega) (by decide)), e2, e1, a1, rb_b2_some, nI_1, nI_1, es]
    simp only [rb_bI_0]
    cases hb : sp_ir g (k / 3) (k % 3) 3 0 with
    | false =>
      rw [if_pos rfl]
      simp only [show (false = true) = False from eq_false (by decide), if_false]
      exact ih (k + 1) met f s6 (by omega) (by omega) a2
    | true =>
      rw [if_neg (by decide), if_pos rfl]
      by_cases hm : nI met = i
      · rw [if_pos hm, if_pos hm, if_pos (show k < 9 by omega)]
        exact ⟨s6, rfl, a2⟩
      · rw [if_neg hm, if_neg hm]
        exact ih (k + 1) (met + 1) f s6 (by omega) (by omega) a2
theorem sx_restl {g : Nat → Nat → Nat → Int32} {i : Int32} (H : ∀ σ1, rb_fr scX σ σ1 → ∀ x y w, x ≤ 2 → y ≤ 2 → w ≤ 1 → ∃ σ2, xf_RP_gain (nI s) (nI x) (nI y) (nI w) σ1 = some (g x y w, σ2) ∧ rb_fr scX σ σ2) (hx : x ≤ 2) : ∀ (r y met f : Nat) (σ1 : rb_St), y + r = 3 → r < f → rb_fr scX σ σ1 → ∃ σ', xl_RP_rests_32 (nI s) i (nI x) f (nI met) (nI y) σ1 = some (if (sp_rs (fun k => sp_ir g (k / 3) (k % 3) 3 0) i r (3 * x + y) met).1 < 3 * x + 3 then 0 else 1, nI (sp_rs (fun k => sp_ir g (k / 3) (k % 3) 3 0) i r (3 * x + y) met).2, nI ((sp_rs (fun k => sp_ir g (k / 3) (k % 3) 3 0) i r (3 * x + y) met).1 - 3 * x), σ') ∧ rb_fr scX σ σ' := by
  intro r
  induction r with
  | zero =>
    intro y met f σ1 hk hf h1
    obtain ⟨f, rfl⟩ : ∃ q, f = q + 1 := ⟨f - 1, by omega⟩
    refine ⟨σ1, ?_, h1⟩
    show (if 2 < nI y then some (1, nI met, nI y, σ1) else _) = some (if 3 * x + y < 3 * x + 3 then 0 else 1, nI met, nI (3 * x + y - 3 * x), σ1)
    rw [if_pos (show (2 : Int32) < nI y from nI_lt (a := 2) (by omega) (by omega)), if_neg (by omega), Nat.add_sub_cancel_left]
  | succ r ih =>
    intro y met f σ1 hk hf h1
    obtain ⟨f, rfl⟩ : ∃ q, f = q + 1 := ⟨f - 1, by omega⟩
    obtain ⟨s5, a1, a2⟩ := sx_isRest H (x := x) (y := y) hx (by omega) h1
    have e3 : (3 * x + y) / 3 = x := by omega
    have e4 : (3 * x + y) % 3 = y := by omega
    have es : sp_rs (fun k => sp_ir g (k / 3) (k % 3) 3 0) i (r + 1) (3 * x + y) met = if sp_ir g x y 3 0 = true then (if nI met = i then (3 * x + y, met) else sp_rs (fun k => sp_ir g (k / 3) (k % 3) 3 0) i r (3 * x + y + 1) (met + 1)) else sp_rs (fun k => sp_ir g (k / 3) (k % 3) 3 0) i r (3 * x + y + 1) met := by
      show (if sp_ir g ((3 * x + y) / 3) ((3 * x + y) % 3) 3 0 = true then _ else _) = _
      rw [e3, e4]
    show ∃ σ', (if 2 < nI y then some (1, nI met, nI y, σ1) else rb_b2 (xf_RP_isRest (nI s) (nI x) (nI y) σ1) fun r7 s5 => if r7 = 0 then xl_RP_rests_32 (nI s) i (nI x) f (nI met) (nI y + 1) s5 else if nI met = i then some (0, nI met, nI y, s5) else xl_RP_rests_32 (nI s) i (nI x) f (nI met + 1) (nI y + 1) s5) = _ ∧ _
    rw [if_neg (show ¬ (2 : Int32) < nI y from nI_nlt (a := 2) (by omega) (by decide)), a1, rb_b2_some, nI_1, nI_1, es]
    simp only [rb_bI_0]
    cases hb : sp_ir g x y 3 0 with
    | false =>
      rw [if_pos rfl]
      simp only [show (false = true) = False from eq_false (by decide), if_false]
      exact ih (y + 1) met f s5 (by omega) (by omega) a2
    | true =>
      rw [if_neg (by decide), if_pos rfl]
      by_cases hm : nI met = i
      · rw [if_pos hm, if_pos hm, if_pos (show 3 * x + y < 3 * x + 3 by omega), Nat.add_sub_cancel_left]
        exact ⟨s5, rfl, a2⟩
      · rw [if_neg hm, if_neg hm]
        exact ih (y + 1) (met + 1) f s5 (by omega) (by omega) a2
theorem sx_restL {g : Nat → Nat → Nat → Int32} {i : Int32} (H : ∀ σ1, rb_fr scX σ σ1 → ∀ x y w, x ≤ 2 → y ≤ 2 → w ≤ 1 → ∃ σ2, xf_RP_gain (nI s) (nI x) (nI y) (nI w) σ1 = some (g x y w, σ2) ∧ rb_fr scX σ σ2) : ∀ (q x met f : Nat) (σ1 : rb_St), x + q = 3 → q < f → rb_fr scX σ σ1 → ∃ t a b c σ', xl_RP_rests_23 (nI s) i f (nI met) (nI x) σ1 = some (t, a, b, c, σ') ∧ rb_fr scX σ σ' ∧ (((sp_rs (fun k => sp_ir g (k / 3) (k % 3) 3 0) i (3 * q) (3 * x) met).1 < 9 ∧ t = 0 ∧ b = nI ((sp_rs (fun k => sp_ir g (k / 3) (k % 3) 3 0) i (3 * q) (3 * x) met).1 / 3) ∧ c = nI ((sp_rs (fun k => sp_ir g (k / 3) (k % 3) 3 0) i (3 * q) (3 * x) met).1 % 3)) ∨ (¬ (sp_rs (fun k => sp_ir g (k / 3) (k % 3) 3 0) i (3 * q) (3 * x) met).1 < 9 ∧ t = 1 ∧ a = nI (sp_rs (fun k => sp_ir g (k / 3) (k % 3) 3 0) i (3 * q) (3 * x) met).2)) := by
  intro q
  induction q with
  | zero =>
    intro x met f σ1 hk hf h1
    obtain ⟨f, rfl⟩ : ∃ q, f = q + 1 := ⟨f - 1, by omega⟩
    refine ⟨1, nI met, nI x, 0, σ1, ?_, h1, Or.inr ⟨?_, rfl, rfl⟩⟩
    · show (if 2 < nI x then some (1, nI met, nI x, 0, σ1) else _) = _
      rw [if_pos (show (2 : Int32) < nI x from nI_lt (a := 2) (by omega) (by omega))]
    · show ¬ 3 * x < 9
      omega
  | succ q ih =>
    intro x met f σ1 hk hf h1
    obtain ⟨f, rfl⟩ : ∃ q, f = q + 1 := ⟨f - 1, by omega⟩
    obtain ⟨s13, a1, a2⟩ := sx_restl (i := i) H (x := x) (by omega) 3 0 met rb_FU σ1 (by omega) (by unfold rb_FU; omega) h1
    have e9 : sp_rs (fun k => sp_ir g (k / 3) (k % 3) 3 0) i (3 * (q + 1)) (3 * x) met = if (sp_rs (fun k => sp_ir g (k / 3) (k % 3) 3 0) i 3 (3 * x) met).1 < 3 * x + 3 then sp_rs (fun k => sp_ir g (k / 3) (k % 3) 3 0) i 3 (3 * x) met else sp_rs (fun k => sp_ir g (k / 3) (k % 3) 3 0) i (3 * q) (3 * x + 3) (sp_rs (fun k => sp_ir g (k / 3) (k % 3) 3 0) i 3 (3 * x) met).2 := by
      rw [show 3 * (q + 1) = 3 + 3 * q by omega]
      exact sp_rs_add _ i (3 * q) 3 (3 * x) met
    have hb := sp_rs_le (fun k => sp_ir g (k / 3) (k % 3) 3 0) i 3 (3 * x) met
    rw [Nat.add_zero] at a1
    obtain ⟨z, hz⟩ : ∃ z, z = sp_rs (fun k => sp_ir g (k / 3) (k % 3) 3 0) i 3 (3 * x) met := ⟨_, rfl⟩
    rw [← hz] at a1 e9 hb
    have a1' : xl_RP_rests_32 (nI s) i (nI x) rb_FU (nI met) 0 σ1 = some (if z.1 < 3 * x + 3 then 0 else 1, nI z.2, nI (z.1 - 3 * x), s13) := a1
    rw [e9]
    show ∃ t a b c σ', (if 2 < nI x then some (1, nI met, nI x, 0, σ1) else rb_b4 (xl_RP_rests_32 (nI s) i (nI x) rb_FU (nI met) 0 σ1) fun t10 y11 y12 s13 => if t10 = 0 then some (0, 0, nI x, y12, s13) else xl_RP_rests_23 (nI s) i f y11 (nI x + 1) s13) = some (t, a, b, c, σ') ∧ _
    rw [if_neg (show ¬ (2 : Int32) < nI x from nI_nlt (a := 2) (by omega) (by decide)), a1', rb_b4_some, nI_1]
    by_cases hf : z.1 < 3 * x + 3
    · rw [if_pos hf, if_pos rfl, if_pos hf]
      exact ⟨0, 0, nI x, nI (z.1 - 3 * x), s13, rfl, a2, Or.inl ⟨by omega, rfl, by congr 1; omega, by congr 1; omega⟩⟩
    · rw [if_neg hf, if_neg (by decide), if_neg hf]
      exact ih (x + 1) z.2 f s13 (by omega) (by omega) a2
end RBGA
theorem rb_ops_game : op_game Rel := by
  intro σ τ R p q r u
  obtain ⟨n, ru, tr, lc, ho, La, wh, ln, m, cr, co, be, lg, D⟩ := Rel_D R
  obtain ⟨⟨gw1, -, gx1, gm1, -, -⟩, b, A, P, px1, -, pm1, -⟩ := id D
  have h7 := gw1.1
  unfold xf_RP_game xf_M_game
  rcases rb_hasP (k := 18) h7 px1.1.1 gm1.1 p with ⟨s, hs, rfl, e1, e2⟩ | ⟨e1, e2⟩
  · rw [e1, e2, rb_b1_some, if_neg (show ¬ (1 : Int32) = 0 by decide), if_neg (show ¬ (1 : Int32) = 0 by decide)]
    rcases rb_inL 0 2 (by decide) (by decide) q τ with ⟨x, _, hx, rfl, g1⟩ | ⟨hq, g1⟩
    · have g1' : xf_M_in (nI x) 0 2 τ = 1 := g1
      rw [g1', if_neg (show ¬ (1 : Int32) = 0 by decide), if_neg (nI_pos (by omega)), if_neg (show ¬ (2 : Int32) < nI x from nI_nlt (a := 2) hx (by decide))]
      rcases rb_inL 0 2 (by decide) (by decide) r τ with ⟨y, _, hy, rfl, g2⟩ | ⟨hr, g2⟩
      · have g2' : xf_M_in (nI y) 0 2 τ = 1 := g2
        rw [g2', if_neg (show ¬ (1 : Int32) = 0 by decide), if_neg (nI_pos (by omega)), if_neg (show ¬ (2 : Int32) < nI y from nI_nlt (a := 2) hy (by decide))]
        rcases rb_inL 0 1 (by decide) (by decide) u τ with ⟨w, _, hw, rfl, g3⟩ | ⟨hu, g3⟩
        · have g3' : xf_M_in (nI w) 0 1 τ = 1 := g3
          rw [g3', if_neg (show ¬ (1 : Int32) = 0 by decide), if_neg (nI_pos (by omega)), if_pos (show nI w ≤ (1 : Int32) from nI_le (b := 1) hw (by decide))]
          obtain ⟨σ', a1, a2⟩ := sx_gain D hs hx hy hw
          obtain ⟨τ', b1, b2⟩ := sm_game D hs hx hy hw
          exact ⟨_, σ', τ', by rw [a1, rb_b2_some], by rw [b1, rb_b2_some], Rel_fr a2 b2 R⟩
        · have g3' : xf_M_in u 0 1 τ = 0 := g3
          refine ⟨-1000000, σ, τ, ?_, by rw [g3', if_pos rfl], R⟩
          rcases hu with hu | ⟨hu, hu2⟩
          · rw [if_pos (show u < 0 from hu)]
          · rw [if_neg (show ¬ u < 0 from hu), if_neg]
            intro w
            rw [Int32.lt_iff_toInt_lt] at hu2
            rw [Int32.le_iff_toInt_le] at w
            rw [nI_toInt (by decide)] at hu2
            have e9 : (1 : Int32).toInt = 1 := by decide
            omega
      · have g2' : xf_M_in r 0 2 τ = 0 := g2
        refine ⟨-1000000, σ, τ, ?_, by rw [g2', if_pos rfl], R⟩
        rcases hr with hr | ⟨hr, hr2⟩
        · rw [if_pos (show r < 0 from hr)]
        · rw [if_neg (show ¬ r < 0 from hr), if_pos (show (2 : Int32) < r from hr2)]
    · have g1' : xf_M_in q 0 2 τ = 0 := g1
      refine ⟨-1000000, σ, τ, ?_, by rw [g1', if_pos rfl], R⟩
      rcases hq with hq | ⟨hq, hq2⟩
      · rw [if_pos (show q < 0 from hq)]
      · rw [if_neg (show ¬ q < 0 from hq), if_pos (show (2 : Int32) < q from hq2)]
  · exact ⟨-1000000, σ, τ, by rw [e1, if_pos rfl], by rw [e2, rb_b1_some, if_pos rfl], R⟩
theorem rb_ops_rests : op_rests Rel := by
  intro σ τ R p i
  obtain ⟨n, ru, tr, lc, ho, La, wh, ln, m, cr, co, be, lg, D⟩ := Rel_D R
  obtain ⟨⟨gw1, -, gx1, gm1, -, -⟩, b, A, P, px1, -, pm1, -⟩ := id D
  have h7 := gw1.1
  unfold xf_RP_rests xf_M_rests
  rcases rb_hasP (k := 18) h7 px1.1.1 gm1.1 p with ⟨s, hs, rfl, e1, e2⟩ | ⟨e1, e2⟩
  · rw [e1, e2, rb_b1_some, if_neg (show ¬ (1 : Int32) = 0 by decide), if_neg (show ¬ (1 : Int32) = 0 by decide)]
    by_cases hi : (-1 : Int32) ≤ i
    · rw [if_pos hi, if_pos hi]
      have HX : ∀ σ1, rb_fr scX σ σ1 → ∀ x y w, x ≤ 2 → y ≤ 2 → w ≤ 1 → ∃ σ2, xf_RP_gain (nI s) (nI x) (nI y) (nI w) σ1 = some (sp_ga n ru tr ho La wh ln m cr be s x y w, σ2) ∧ rb_fr scX σ σ2 := by
        intro σ1 f1 x y w hx hy hw
        obtain ⟨σ2, a1, a2⟩ := sx_gain (RD_fr f1 (rb_fr.rf (ch := scM) (σ := τ)) D) hs hx hy hw
        exact ⟨σ2, a1, f1.tr a2⟩
      have HM : ∀ τ1, rb_fr scM τ τ1 → ∀ x y w, x ≤ 2 → y ≤ 2 → w ≤ 1 → ∃ τ2, xf_M_gameOf (nI s) (nI x) (nI y) (nI w) τ1 = some (sp_ga n ru tr ho La wh ln m cr be s x y w, τ2) ∧ rb_fr scM τ τ2 := by
        intro τ1 f1 x y w hx hy hw
        obtain ⟨τ2, a1, a2⟩ := sm_game (RD_fr (rb_fr.rf (ch := scX) (σ := σ)) f1 D) hs hx hy hw
        exact ⟨τ2, a1, f1.tr a2⟩
      obtain ⟨t, a, b', c, σ', x1, x2, x3⟩ := sx_restL (i := i) HX 3 0 0 rb_FU σ (by omega) (by unfold rb_FU; omega) rb_fr.rf
      have x1' : xl_RP_rests_23 (nI s) i rb_FU 0 0 σ = some (t, a, b', c, σ') := x1
      obtain ⟨τ', y1, y2⟩ := sm_restl (i := i) HM 9 0 0 rb_FU τ (by omega) (by unfold rb_FU; omega) rb_fr.rf
      have hle := sp_rs_le (fun k => sp_ir (sp_ga n ru tr ho La wh ln m cr be s) (k / 3) (k % 3) 3 0) i 9 0 0
      have x3' : ((sp_rs (fun k => sp_ir (sp_ga n ru tr ho La wh ln m cr be s) (k / 3) (k % 3) 3 0) i 9 0 0).1 < 9 ∧ t = 0 ∧ b' = nI ((sp_rs (fun k => sp_ir (sp_ga n ru tr ho La wh ln m cr be s) (k / 3) (k % 3) 3 0) i 9 0 0).1 / 3) ∧ c = nI ((sp_rs (fun k => sp_ir (sp_ga n ru tr ho La wh ln m cr be s) (k / 3) (k % 3) 3 0) i 9 0 0).1 % 3)) ∨ (¬ (sp_rs (fun k => sp_ir (sp_ga n ru tr ho La wh ln m cr be s) (k / 3) (k % 3) 3 0) i 9 0 0).1 < 9 ∧ t = 1 ∧ a = nI (sp_rs (fun k => sp_ir (sp_ga n ru tr ho La wh ln m cr be s) (k / 3) (k % 3) 3 0) i 9 0 0).2) := x3
      obtain ⟨z, hz⟩ : ∃ z, z = sp_rs (fun k => sp_ir (sp_ga n ru tr ho La wh ln m cr be s) (k / 3) (k % 3) 3 0) i 9 0 0 := ⟨_, rfl⟩
      rw [← hz] at y1 hle x3'
      have y1' : xl_M_rests_20 (nI s) i rb_FU 0 0 τ = some (if z.1 < 9 then 0 else 1, nI z.2, nI z.1, τ') := y1
      rw [x1', rb_b5_some, y1', rb_b4_some]
      have RR := Rel_fr x2 y2 R
      rcases x3' with ⟨h9, ht, hb, hc⟩ | ⟨h9, ht, ha⟩
      · have e3 : nI z.1 / (3 : Int32) = nI (z.1 / 3) := pk_div (d := 3) (by omega) (by decide) (by decide)
        have e4 : nI z.1 - nI z.1 / (3 : Int32) * 3 = nI (z.1 % 3) := pk_rem (d := 3) (by omega) (by decide) (by decide)
        exact ⟨10 * nI (z.1 / 3) + nI (z.1 % 3), σ', τ', by rw [if_pos ht, hb, hc], by rw [if_pos h9, if_pos rfl, e4, e3], RR⟩
      · rw [if_neg (show ¬ t = 0 by omega), if_neg h9, if_neg (show ¬ (1 : Nat) = 0 by decide), ha]
        by_cases hm : i = -1
        · exact ⟨nI z.2, σ', τ', by rw [if_pos hm], by rw [if_pos hm], RR⟩
        · exact ⟨-1, σ', τ', by rw [if_neg hm], by rw [if_neg hm], RR⟩
    · exact ⟨-1, σ, τ, by rw [if_neg hi], by rw [if_neg hi], R⟩
  · exact ⟨-1, σ, τ, by rw [e1, if_pos rfl], by rw [e2, rb_b1_some, if_pos rfl], R⟩
