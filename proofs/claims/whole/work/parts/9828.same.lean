/-! FIGURES THAT MAKE THE SAME PLAIT -/
section RBL2
variable {n m k0 k1 : Nat} {cr0 cr1 : Nat → Nat → Nat} {σ τ : rb_St}
def sp_sm (n m : Nat) (cr0 cr1 : Nat → Nat → Nat) (t : Nat) : Bool := decide (cr0 (sp_oi n (fun i => cr0 i 0) m t) 0 = cr1 (sp_oi n (fun i => cr1 i 0) m t) 0)
/-- from t on all are alike -/
def sp_al (n m : Nat) (cr0 cr1 : Nat → Nat → Nat) : Nat → Nat → Bool
  | 0, _ => true
  | r + 1, t => sp_sm n m cr0 cr1 t && sp_al n m cr0 cr1 r (t + 1)
theorem sx_like1 (W0 : rb_wfc n m cr0) (W1 : rb_wfc n m cr1) (h0 : rx_cr k0 m cr0 σ) (h1 : rx_cr k1 m cr1 σ) (p0 : σ.1 k0 0 = nI n) (p1 : σ.1 k1 0 = nI n) : ∀ (r f t U0 U1 : Nat), t + r = m → r < f → sp_ub m (sp_ot n (fun i => cr0 i 0) m t) U0 → sp_ub m (sp_ot n (fun i => cr1 i 0) m t) U1 → xl_Pole_plaitsLike_28 k0 k1 σ f (lN U0) (lN U1) (nI t) = some (if sp_al n m cr0 cr1 r t = true then 1 else 0) := by
  have hm := W0.2.1
  have w1 := W0.1
  intro r
  induction r with
  | zero =>
    intro f t U0 U1 ht hf _ _
    obtain ⟨f, rfl⟩ : ∃ q, f = q + 1 := ⟨f - 1, by omega⟩
    show (if (σ.1 k0 1) ≤ nI t then some 1 else _) = _
    rw [h0.1, if_pos (nI_le (by omega) (by omega))]
    rfl
  | succ r ih =>
    intro f t U0 U1 ht hf hU0 hU1
    obtain ⟨f, rfl⟩ : ∃ q, f = q + 1 := ⟨f - 1, by omega⟩
    have htm : t < m := by omega
    have l0 := sp_oi_lt (n := n) (L := fun i => cr0 i 0) htm
    have l1 := sp_oi_lt (n := n) (L := fun i => cr1 i 0) htm
    obtain ⟨V0, u0, v0⟩ := sp_ub_s hm htm hU0
    obtain ⟨V1, u1, v1⟩ := sp_ub_s hm htm hU1
    have n0 : xf_Pole_toldNext k0 (lN U0) σ = some (nI (sp_oi n (fun i => cr0 i 0) m t)) := sx_toldNext W0 h0 p0 hU0.1 hU0.2
    have n1 : xf_Pole_toldNext k1 (lN U1) σ = some (nI (sp_oi n (fun i => cr1 i 0) m t)) := sx_toldNext W1 h1 p1 hU1.1 hU1.2
    obtain ⟨f0, f1, -⟩ := rx_f W0 h0 l0
    obtain ⟨g0, g1, -⟩ := rx_f W1 h1 l1
    have c0 := (W0.2.2 _ l0).1
    have c1 := (W1.2.2 _ l1).1
    show (if (σ.1 k0 1) ≤ nI t then some 1 else rb_b1 (xf_Pole_toldNext k0 (lN U0) σ) fun r5 => rb_b1 (xf_Pole_toldNext k1 (lN U1) σ) fun r7 => if rb_ib r5 48 then if rb_ib r7 48 then if (xf_Pole_letterIn (σ.1 (k0 + 3) r5.toNatClampNeg) σ) = (xf_Pole_letterIn (σ.1 (k1 + 3) r7.toNatClampNeg) σ) then rb_lt (lN U0 &&& (((1 : Int64) <<< (r5.toInt64 &&& 63)) ^^^ (-1))) (fun v12 => rb_lt (lN U1 &&& (((1 : Int64) <<< (r7.toInt64 &&& 63)) ^^^ (-1))) (fun v14 => xl_Pole_plaitsLike_28 k0 k1 σ f v12 v14 (nI t + 1))) else some 0 else none else none) = some (if (sp_sm n m cr0 cr1 t && sp_al n m cr0 cr1 r (t + 1)) = true then 1 else 0)
    rw [h0.1, if_neg (nI_ge htm (by omega)), n0, rb_b1_some, n1, rb_b1_some, f0, if_pos rfl, g0, if_pos rfl, f1, g1, rb_lt_eq, rb_lt_eq, u0, u1, nI_1]
    unfold sp_sm
    by_cases he : cr0 (sp_oi n (fun i => cr0 i 0) m t) 0 = cr1 (sp_oi n (fun i => cr1 i 0) m t) 0
    · rw [if_pos (by rw [he]), decide_eq_true he, Bool.true_and]
      exact ih f (t + 1) V0 V1 (by omega) (by omega) v0 v1
    · rw [if_neg (fun w => he ((nI_eq (by omega) (by omega)).mp w)), decide_eq_false he, Bool.false_and]
      rfl
theorem sx_plaitsLike {m1 : Nat} (W0 : rb_wfc n m cr0) (W1 : rb_wfc n m1 cr1) (h0 : rx_cr k0 m cr0 σ) (h1 : rx_cr k1 m1 cr1 σ) (p0 : σ.1 k0 0 = nI n) (p1 : σ.1 k1 0 = nI n) : xf_Pole_plaitsLike k0 k1 σ = some (if m = m1 ∧ sp_al n m cr0 cr1 m 0 = true then 1 else 0) := by
  have hm := W0.2.1
  have hm1 := W1.2.1
  unfold xf_Pole_plaitsLike
  rw [h0.1, h1.1]
  by_cases e : m = m1
  · subst e
    obtain ⟨e0, u0⟩ := sp_ub_0 (n := n) (L := fun i => cr0 i 0) hm
    obtain ⟨-, u1⟩ := sp_ub_0 (n := n) (L := fun i => cr1 i 0) hm
    have key := sx_like1 W0 W1 h0 h1 p0 p1 m rb_FU 0 _ _ (by omega) (by unfold rb_FU; omega) u0 u1
    have key' : xl_Pole_plaitsLike_28 k0 k1 σ rb_FU (lN (2 ^ m - 1)) (lN (2 ^ m - 1)) 0 = some (if sp_al n m cr0 cr1 m 0 = true then 1 else 0) := key
    rw [if_pos rfl, e0, rb_lt_eq, key', rb_b1_some]
    by_cases ha : sp_al n m cr0 cr1 m 0 = true
    · rw [if_pos ha, if_neg (by decide), if_pos ⟨rfl, ha⟩]
    · rw [if_neg ha, if_pos rfl, if_neg (fun w => ha w.2)]
  · rw [if_neg (fun w => e ((nI_eq (by omega) (by omega)).mp w)), if_neg (fun w => e w.1)]
/-- the reference: the first one's letters in order are kept -/
theorem sm_same40 {L : Nat → Nat} (x2 : Int32) : ∀ (f t : Nat) (τ : rb_St), t ≤ m → m - t < f → rm_row n m L τ → (∀ j, j < m → τ.1 20 j = nI (sp_oi n L m j)) → ∃ τ', xl_M_same_40 x2 (nI m) f (nI t) τ = some τ' ∧ (∀ j, t ≤ j → j < m → τ'.1 24 j = nI (L (sp_oi n L m j))) ∧ rb_fr (fun c i => c = 24 ∧ t ≤ i) τ τ' := by
  intro f
  induction f with
  | zero => intro t τ _ hf; omega
  | succ f ih =>
    intro t τ ht hf h hO
    obtain ⟨hn, hm, h22, h33, hL⟩ := id h
    by_cases et : t = m
    · subst et
      refine ⟨τ, ?_, fun j h1 h2 => by omega, rb_fr.rf⟩
      show (if nI t ≤ nI t then some τ else _) = _
      rw [if_pos (nI_le (Nat.le_refl _) (by omega))]
    · have htm : t < m := by omega
      have l0 := sp_oi_lt (n := n) (L := L) htm
      have fr : rb_fr (fun c i => c = 24 ∧ t ≤ i) τ (rb_sI τ 24 t (nI (L (sp_oi n L m t)))) := rb_fr.sI ⟨rfl, Nat.le_refl t⟩
      obtain ⟨τ', a1, a2, a3⟩ := ih (t + 1) _ (by omega) (by omega) (rm_row_fr fr (fun c i q => by omega) h) (fun j hj => by rw [rb_sI_row _ _ _ _ _ (by omega)]; exact hO j hj)
      refine ⟨τ', ?_, fun j h1 h2 => ?_, fr.tr (a3.mo (fun c i q => ⟨q.1, by omega⟩))⟩
      · show (if nI m ≤ nI t then some τ else if rb_ib (nI t) 88 then if rb_ib (τ.1 20 (nI t).toNatClampNeg) 88 then if rb_ib (nI t) 48 then rb_lt (rb_sI τ 24 (nI t).toNatClampNeg (τ.1 19 (τ.1 20 (nI t).toNatClampNeg).toNatClampNeg)) (fun s13 => xl_M_same_40 x2 (nI m) f (nI t + 1) s13) else none else none else none) = _
        rw [if_neg (nI_ge htm (by omega)), rb_ib_nI (by omega) (by decide), if_pos rfl, nI_clamp (by omega), hO t htm, rb_ib_nI (by omega) (by decide), if_pos rfl, rb_ib_nI (by omega) (by decide), if_pos rfl, nI_clamp (by omega), (hL _ l0).2, rb_lt_eq, nI_1]
        exact a1
      · by_cases e : j = t
        · subst e
          rw [a3.1 24 j (by omega), rb_sI_eq]
        · exact a2 j (by omega) h2
theorem sm_same103 (W0 : rb_wfc n m cr0) (h : rm_row n m (fun i => cr1 i 0) τ) (hO : ∀ j, j < m → τ.1 20 j = nI (sp_oi n (fun i => cr1 i 0) m j)) (h24 : ∀ j, j < m → τ.1 24 j = nI (cr0 (sp_oi n (fun i => cr0 i 0) m j) 0)) : ∀ (r f t : Nat), t + r = m → r + 1 < f → xl_M_same_103 (nI m) τ f 1 (nI t) = some (if sp_al n m cr0 cr1 r t = true then 1 else 0) := by
  obtain ⟨hn, hm, h22, h33, hL⟩ := id h
  intro r
  induction r with
  | zero =>
    intro f t ht hf
    obtain ⟨f, rfl⟩ : ∃ q, f = q + 1 := ⟨f - 1, by omega⟩
    show (if nI m ≤ nI t then some 1 else _) = _
    rw [if_pos (nI_le (by omega) (by omega))]
    rfl
  | succ r ih =>
    intro f t ht hf
    obtain ⟨f, rfl⟩ : ∃ q, f = q + 1 := ⟨f - 1, by omega⟩
    have htm : t < m := by omega
    have l0 := sp_oi_lt (n := n) (L := fun i => cr0 i 0) htm
    have l1 := sp_oi_lt (n := n) (L := fun i => cr1 i 0) htm
    have c0 := (W0.2.2 _ l0).1
    obtain ⟨c1, c2⟩ := hL _ l1
    have c1' : cr1 (sp_oi n (fun i => cr1 i 0) m t) 0 < 2 * n := c1
    have c2' : τ.1 19 (sp_oi n (fun i => cr1 i 0) m t) = nI (cr1 (sp_oi n (fun i => cr1 i 0) m t) 0) := c2
    show (if nI m ≤ nI t then some 1 else if (1 : Int32) = 0 then some 1 else if rb_ib (nI t) 48 then if rb_ib (nI t) 88 then if rb_ib (τ.1 20 (nI t).toNatClampNeg) 88 then if (τ.1 24 (nI t).toNatClampNeg) = (τ.1 19 (τ.1 20 (nI t).toNatClampNeg).toNatClampNeg) then xl_M_same_103 (nI m) τ f 1 (nI t + 1) else xl_M_same_103 (nI m) τ f 0 (nI t + 1) else none else none else none) = some (if (sp_sm n m cr0 cr1 t && sp_al n m cr0 cr1 r (t + 1)) = true then 1 else 0)
    rw [if_neg (nI_ge htm (by omega)), if_neg (show ¬ (1 : Int32) = 0 by decide), rb_ib_nI (by omega) (by decide), if_pos rfl, rb_ib_nI (by omega) (by decide), if_pos rfl, nI_clamp (by omega), hO t htm, h24 t htm, rb_ib_nI (by omega) (by decide), if_pos rfl, nI_clamp (by omega), c2', nI_1]
    unfold sp_sm
    by_cases he : cr0 (sp_oi n (fun i => cr0 i 0) m t) 0 = cr1 (sp_oi n (fun i => cr1 i 0) m t) 0
    · rw [if_pos (by rw [he]), decide_eq_true he, Bool.true_and]
      exact ih f (t + 1) (by omega) (by omega)
    · rw [if_neg (fun w => he ((nI_eq (by omega) (by omega)).mp w)), decide_eq_false he, Bool.false_and]
      obtain ⟨f, rfl⟩ : ∃ q, f = q + 1 := ⟨f - 1, by omega⟩
      show (if nI m ≤ nI (t + 1) then some 0 else if (0 : Int32) = 0 then some 0 else _) = _
      rw [if_pos (show (0 : Int32) = 0 from rfl)]
      split <;> rfl
end RBL2
theorem rb_ops_same : op_same Rel := by
  intro σ τ R p q
  obtain ⟨n, ru, tr, lc, ho, La, wh, ln, m, cr, co, be, lg, D⟩ := Rel_D R
  obtain ⟨⟨gw1, -, gx1, gm1, -, -⟩, ⟨⟨fc, fl, ft, F⟩, b⟩, A, P, px1, -, pm1, -⟩ := id D
  have h7 := gw1.1
  have hf6 := F.1
  unfold xf_RP_same xf_M_same
  rw [rb_hasG h7 gx1.1, sm_isF (fc := fc) h7 gm1.1, sm_isF (fc := fc) h7 gm1.1, rb_ap0, rb_ap1]
  by_cases h : n = 0
  · exact ⟨-1, σ, τ, by rw [if_pos h, if_pos rfl], by rw [if_pos h, if_pos rfl], R⟩
  · have h3 := gw1.2.2.2.2 (by omega)
    rw [if_neg h, if_neg (show ¬ (1 : Int32) = 0 by decide), if_neg h, if_neg h]
    rcases rb_isF F.1 F.2.1 F.2.2.1 p with ⟨j, hj, rfl, e1, e2⟩ | ⟨e1, e2⟩
    · rw [e1, e2, if_neg (show ¬ (1 : Int32) = 0 by decide), if_neg (show ¬ (1 : Int32) = 0 by decide), if_neg (show ¬ (1 : Int32) = 0 by decide)]
      rcases rb_isF F.1 F.2.1 F.2.2.1 q with ⟨i, hi, rfl, g1, g2⟩ | ⟨g1, g2⟩
      · rw [g1, g2, if_neg (show ¬ (1 : Int32) = 0 by decide), if_neg (show ¬ (1 : Int32) = 0 by decide), if_neg (show ¬ (1 : Int32) = 0 by decide), rb_lt_eq]
        obtain ⟨wh0, m0, cr0, σ1, τ1, b1, b2, b3, b4, b5, b6, b7, b8⟩ := rb_alone (k := 268) gw1 h3 hj (by omega) gx1 F gm1.1
        obtain ⟨τ2, c1, c2, c3⟩ := sm_layOrder b6
        have r2 := rm_row_fr c3 (fun c i q => by omega) b6
        obtain ⟨τ3, d1, d2, d3⟩ := sm_same40 (nI i) rb_FU 0 τ2 (by omega) (by have := b6.2.1; unfold rb_FU; omega) r2 c2
        have d1' : xl_M_same_40 (nI i) (nI m0) rb_FU 0 τ2 = some τ3 := d1
        have fm3 : rb_fr scM τ τ3 := ((b8.mo scM_19).tr (c3.mo (fun c i q => scM_r c i (by omega)))).tr (d3.mo (fun c i q => scM_q c i (by omega)))
        have fx1 : rb_fr scX σ σ1 := b7.mo (fun c i q => Or.inr (Or.inr (Or.inl (by omega))))
        have F3 := RFig_fr fx1 fm3 (fun c i q => acX_fig c i (Or.inl q)) (fun c i q => acM_fig c i (Or.inl q)) F
        have g3 := gx_fr b7 (fun c i q => by omega) gx1
        have h22 : τ3.1 0 22 = nI n := by rw [fm3.1 0 22 scM_n22]; exact gm1.1
        obtain ⟨wh1, m1, cr1, σ2, τ4, e1, e2, e3, e4, e5, e6, e7, e8⟩ := rb_alone (k := 273) gw1 h3 hi (by omega) g3 F3 h22
        obtain ⟨τ5, k1, k2, k3⟩ := sm_layOrder e6
        have r5 := rm_row_fr k3 (fun c i q => by omega) e6
        have fm5 : rb_fr scM τ τ5 := (fm3.tr (e8.mo scM_19)).tr (k3.mo (fun c i q => scM_r c i (by omega)))
        have fx2 : rb_fr scX σ σ2 := fx1.tr (e7.mo (fun c i q => Or.inr (Or.inr (Or.inl (by omega)))))
        have x0 : rx_cr 268 m0 cr0 σ2 := rx_cr_fr e7 (fun c i q => by omega) b5
        have w0 : rx_wh 268 n wh0 (fun d => tr (3 * d + 1)) σ2 := rx_wh_fr e7 (fun c i q => by omega) b4
        have h24 : ∀ j, j < m0 → τ5.1 24 j = nI (cr0 (sp_oi n (fun i => cr0 i 0) m0 j) 0) := by
          intro j hj
          rw [k3.1 24 j (by omega), e8.1 24 j (by unfold sc_19; omega)]
          exact d2 j (by omega) hj
        have lk := sx_plaitsLike b3.2.2.1 e3.2.2.1 x0 e5 w0.1 e4.1
        have h48 := b6.2.1
        have h481 := e6.2.1
        refine ⟨if m0 = m1 ∧ sp_al n m0 cr0 cr1 m0 0 = true then 1 else 0, σ2, τ5, ?_, ?_, Rel_fr fx2 fm5 R⟩
        · rw [rb_ib_nI (by omega) (by decide), if_pos rfl, nI_clamp (by omega), b1, rb_b1_some, rb_ib_nI (by omega) (by decide), if_pos rfl, nI_clamp (by omega), e1, rb_b1_some, lk, rb_b1_some]
          by_cases hq : m0 = m1 ∧ sp_al n m0 cr0 cr1 m0 0 = true
          · rw [if_pos hq, if_neg (show ¬ (1 : Int32) = 0 by decide)]
          · rw [if_neg hq, if_pos rfl]
        · rw [b2, rb_b1_some, c1, rb_b1_some, r2.2.2.2.1, d1', rb_b1_some, rb_lt_eq, e2, rb_b1_some, k1, rb_b1_some, r5.2.2.2.1]
          by_cases em : m1 = m0
          · subst em
            have z := sm_same103 b3.2.2.1 r5 k2 h24 m1 rb_FU 0 (by omega) (by unfold rb_FU; omega)
            have z' : xl_M_same_103 (nI m1) τ5 rb_FU 1 0 = some (if sp_al n m1 cr0 cr1 m1 0 = true then 1 else 0) := z
            rw [if_pos rfl, z', rb_b1_some]
            by_cases hq : sp_al n m1 cr0 cr1 m1 0 = true
            · rw [if_pos hq, if_neg (show ¬ (1 : Int32) = 0 by decide), if_pos ⟨rfl, hq⟩]
            · rw [if_neg hq, if_pos rfl, if_neg (fun w => hq w.2)]
          · have z : xl_M_same_103 (nI m0) τ5 rb_FU 0 0 = some 0 := by
              obtain ⟨G, hG⟩ : ∃ G, rb_FU = G + 1 := ⟨99999, rfl⟩
              rw [hG]
              show (if nI m0 ≤ 0 then some 0 else if (0 : Int32) = 0 then some 0 else _) = _
              rw [if_pos (show (0 : Int32) = 0 from rfl)]
              split <;> rfl
            rw [if_neg (fun w => em ((nI_eq (by omega) (by omega)).mp w)), z, rb_b1_some, if_pos rfl, if_neg (fun w => em w.1.symm)]
      · exact ⟨-1, σ, τ, by rw [g1, if_pos rfl], by rw [g2, if_pos (show (0 : Int32) = 0 from rfl), if_pos rfl], R⟩
    · exact ⟨-1, σ, τ, by rw [e1, if_pos rfl], by rw [e2, if_pos (show (0 : Int32) = 0 from rfl), if_pos rfl], R⟩
