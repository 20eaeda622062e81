/-! THE GREEN, LAWS, WHICH HOLDS; what a crossing takes -/
def gw (n : Nat) (ru tr : Nat → Nat) : Prop := n ≤ 7 ∧ (∀ i, i < 3 → ru i < 100) ∧ (∀ i, i < 3 * n → tr i < 100) ∧ (0 < n → 1 ≤ ru 0 ∧ ru 0 ≤ 9) ∧ (0 < n → 3 ≤ n)
def gx (n : Nat) (ru tr : Nat → Nat) (σ : rb_St) : Prop := σ.1 15 2 = nI n ∧ (∀ i, i < 3 → σ.1 16 i = nI (ru i)) ∧ ∀ i, i < 3 * n → σ.1 17 i = nI (tr i)
def gm (n : Nat) (ru tr : Nat → Nat) (τ : rb_St) : Prop := τ.1 0 22 = nI n ∧ (∀ i, i < 3 → τ.1 13 i = nI (ru i)) ∧ ∀ i, i < 3 * n → τ.1 14 i = nI (tr i)
def lww (lc ho : Nat) (La : Nat → List sp_Cl) : Prop := lc ≤ 4 ∧ ho ≤ lc ∧ ∀ j, j < lc → sp_lw (La j) ∧ (sp_fl (La j)).length ≤ 240 ∧ (La j).length ≤ 140 ∧ sp_tot (La j) ≤ 520
def lwx (lc ho : Nat) (La : Nat → List sp_Cl) (σ : rb_St) : Prop := σ.1 0 9 = nI lc ∧ σ.1 0 10 = nI ho - 1 ∧ ∀ j, j < lc → rx_law (240 + 4 * j) (La j) σ
def lwm (lc ho : Nat) (La : Nat → List sp_Cl) (τ : rb_St) : Prop := τ.1 0 13 = nI lc ∧ τ.1 0 29 = nI ho - 1 ∧ ∀ j, j < lc → rm_law j (La j) τ
def sc_law (c i : Nat) : Prop := 240 ≤ c ∧ c < 256 ∧ (c % 4 = 2 ∨ c % 4 = 3 ∨ (c % 4 = 0 ∧ i = 4))
def sc_9 (c i : Nat) : Prop := c = 9 ∨ c = 10
def sp_clp (x : Int32) : Nat := (rb_mx 1 (rb_mn 9 x)).toNatClampNeg
theorem sp_clp_le (x : Int32) : 1 ≤ sp_clp x ∧ sp_clp x ≤ 9 ∧ rb_mx 1 (rb_mn 9 x) = nI (sp_clp x) := by
  have h1 : (1 : Int32).toInt = 1 := by decide
  have h9 : (9 : Int32).toInt = 9 := by decide
  have key : (1 : Int) ≤ (rb_mx 1 (rb_mn 9 x)).toInt ∧ (rb_mx 1 (rb_mn 9 x)).toInt ≤ 9 := by
    unfold rb_mx rb_mn
    by_cases h : x < 9
    · rw [if_pos h]
      rw [Int32.lt_iff_toInt_lt, h9] at h
      by_cases h2 : (1 : Int32) < x
      · rw [if_pos h2]
        rw [Int32.lt_iff_toInt_lt, h1] at h2
        omega
      · rw [if_neg h2, h1]; omega
    · rw [if_neg h, if_pos (by decide), h9]; omega
  obtain ⟨j, hj, e⟩ := nI_of (x := rb_mx 1 (rb_mn 9 x)) (by rw [Int32.lt_iff_toInt_lt]; have h0 : (0 : Int32).toInt = 0 := by decide
                                                            rw [h0]; omega)
  unfold sp_clp
  rw [e] at key ⊢
  rw [nI_toInt hj] at key
  rw [nI_clamp hj]
  exact ⟨by omega, by omega, rfl⟩
theorem sp_clp_nI {a : Nat} (h1 : 1 ≤ a) (h9 : a ≤ 9) : rb_mx 1 (rb_mn 9 (nI a)) = nI a := by
  rw [rb_l9, rb_l1, rb_mn_nI (by decide) (by omega), rb_mx_nI (by decide) (by omega)]
  congr 1
  omega
/-- what a crossing takes -/
def sp_pr (n : Nat) (ru tr : Nat → Nat) (ho : Nat) (La : Nat → List sp_Cl) (wh : Nat → Nat) (m : Nat) (cr : Nat → Nat → Nat) (be l : Nat) : Nat :=
  if ho = 0 then ru 0 else sp_clp (sp_wo (rb_lt6 (nI (ru 0)) (nI (tr (3 * sp_ov n wh l + 2))) (nI (tr (3 * sp_ov n wh (l ^^^ 1) + 2))) (nI m) (nI (sp_ly n cr (l / 2) m + 1)) (nI (be % 100))) (La (ho - 1)))
section RBP
variable {n lc ho m k be l : Nat} {ru tr wh ln : Nat → Nat} {La : Nat → List sp_Cl} {cr : Nat → Nat → Nat} {σ τ : rb_St}
theorem sp_pr_le (G : gw n ru tr) (hn : 0 < n) : 1 ≤ sp_pr n ru tr ho La wh m cr be l ∧ sp_pr n ru tr ho La wh m cr be l ≤ 9 := by
  unfold sp_pr
  by_cases h : ho = 0
  · rw [if_pos h]; exact G.2.2.2.1 hn
  · rw [if_neg h]; exact ⟨(sp_clp_le _).1, (sp_clp_le _).2.1⟩
theorem sx_trait (G : gw n ru tr) (h : gx n ru tr σ) {d j : Nat} (hd : d < n) (hj : j < 3) : xf_Green_trait (nI d) (nI j) σ = some (nI (tr (3 * d + j))) := by
  have hn := G.1
  have e : (nI d * 3) + nI j = nI (3 * d + j) := by
    rw [rb_l3, pk_mul, nI_add]
    congr 1
    omega
  unfold xf_Green_trait
  rw [e, if_neg (nI_pos (by omega)), rb_l24, if_neg (nI_ge (by omega) (by omega)), rb_ib_nI (by omega) (by decide), if_pos rfl, nI_clamp (by omega), h.2.2 _ (by omega)]
theorem sm_told (G : gw n ru tr) (h : gm n ru tr τ) {d j : Nat} (hd : d < n) (hj : j < 3) : xf_M_told (nI d) (nI j) τ = some (nI (tr (3 * d + j))) := by
  have hn := G.1
  have e : (3 * nI d) + nI j = nI (3 * d + j) := by rw [rb_l3, pk_mul, nI_add]
  unfold xf_M_told
  rw [e, rb_ib_nI (by omega) (by decide), if_pos rfl, nI_clamp (by omega), h.2.2 _ (by omega)]
theorem sp_ov_lt (V : rb_wfw n wh ln) (hl : l < 2 * n) : sp_ov n wh l < n := by
  unfold sp_ov
  have := sp_nx_lt n V.1 (l / 2) (by omega)
  by_cases h : l % 2 = 0
  · rw [if_pos h]; exact V.2.1 _ (by omega)
  · rw [if_neg h]; exact V.2.1 _ this
theorem sp_lt6_ok {a0 a1 a2 a3 a4 a5 : Nat} (h0 : a0 < 1000) (h1 : a1 < 1000) (h2 : a2 < 1000) (h3 : a3 < 1000) (h4 : a4 < 1000) (h5 : a5 < 1000) : ∀ v, v < 6 → sp_okv false (rb_lt6 (nI a0) (nI a1) (nI a2) (nI a3) (nI a4) (nI a5) v) := by
  intro v hv
  have key : ∀ a : Nat, a < 1000 → sp_okv false (nI a) := by
    intro a ha
    unfold sp_okv
    rw [if_neg (by decide), nI_toInt (by omega)]
    omega
  have : v = 0 ∨ v = 1 ∨ v = 2 ∨ v = 3 ∨ v = 4 ∨ v = 5 := by omega
  rcases this with rfl | rfl | rfl | rfl | rfl | rfl
  · exact key a0 h0
  · exact key a1 h1
  · exact key a2 h2
  · exact key a3 h3
  · exact key a4 h4
  · exact key a5 h5
theorem sp_tr_lt (G : gw n ru tr) (V : rb_wfw n wh ln) (hl : l < 2 * n) : tr (3 * sp_ov n wh l + 2) < 1000 := by
  have := sp_ov_lt V hl
  have := G.2.2.1 (3 * sp_ov n wh l + 2) (by omega)
  omega
theorem sx_price (G : gw n ru tr) (W : lww lc ho La) (V : rb_wfw n wh ln) (C : rb_wfc n m cr) (g : gx n ru tr σ) (w : lwx lc ho La σ) (hw : rx_wh k n wh ln σ) (hc : rx_cr k m cr σ) (hb : σ.1 k 3 = nI be) (hbe : be < 2 ^ 30) (hl : l < 2 * n) : ∃ σ', xf_RP_priceOn k (nI l) σ = some (nI (sp_pr n ru tr ho La wh m cr be l), σ') ∧ rb_fr sc_law σ σ' := by
  have hn := G.1
  obtain ⟨w1, w2, w3⟩ := W
  obtain ⟨y1, y2, y3⟩ := w
  unfold xf_RP_priceOn sp_pr
  by_cases h0 : ho = 0
  · refine ⟨σ, ?_, rb_fr.rf⟩
    subst h0
    rw [y2, if_pos (by decide), if_pos rfl]
    unfold xf_Green_tight
    rw [g.2.1 0 (by decide)]
  · obtain ⟨h, rfl⟩ : ∃ q, ho = q + 1 := ⟨ho - 1, by omega⟩
    obtain ⟨b1, b2, b3, b4⟩ := w3 h (by omega)
    have c1 := sx_overBy V hw hl
    have c2 := sx_underBy V hw hl
    have l1 := sp_ov_lt V hl
    have l2 := sp_ov_lt V (sp_x1 n (by omega) l hl)
    have c3 := sx_layerAt C hc hw.1 (show l / 2 < n by omega)
    have c4 := sp_ly_lt C (l / 2) m (Nat.le_refl m)
    have cm := C.2.1
    have e1 : nI l >>> ((1 : Int32) &&& 31) = nI (l / 2) := rb_shr (s := 1) (by omega) (by decide)
    have e2 : nI be - nI be / (100 : Int32) * 100 = nI (be % 100) := pk_rem (d := 100) (by omega) (by decide) (by decide)
    have ok := sp_lt6_ok (a0 := ru 0) (a1 := tr (3 * sp_ov n wh l + 2)) (a2 := tr (3 * sp_ov n wh (l ^^^ 1) + 2)) (a3 := m) (a4 := sp_ly n cr (l / 2) m + 1) (a5 := be % 100) (by have := G.2.1 0 (by decide); omega) (sp_tr_lt G V hl) (sp_tr_lt G V (sp_x1 n (by omega) l hl)) (by omega) (by omega) (by omega)
    obtain ⟨σ', d1, d2⟩ := sx_worth b1 b2 (y3 h (by omega)) ok
    refine ⟨σ', ?_, d2.mo (fun c i q => by unfold rb_c4 at q; unfold sc_law; omega)⟩
    rw [if_neg (show ¬ h + 1 = 0 by omega), y2, nI_pred, if_neg (nI_pos (by omega)), y1, if_pos (nI_lt (by omega) (by omega)), c1, rb_b1_some, rb_l2, sx_trait G g l1 (by decide), rb_b1_some, c2, rb_b1_some, sx_trait G g l2 (by decide), rb_b1_some, e1, c3, rb_b1_some, rb_ib_nI (by omega) (by decide), if_pos rfl, nI_clamp (by omega), hb, e2, hc.1]
    unfold xf_Green_tight
    rw [g.2.1 0 (by decide), d1, rb_b2_some, (sp_clp_le _).2.2]
    rfl
theorem sm_price (G : gw n ru tr) (W : lww lc ho La) (V : rb_wfw n wh ln) (C : rb_wfc n m cr) (g : gm n ru tr τ) (w : lwm lc ho La τ) (hw : rm_wh n wh ln τ) (hc : rm_cr m cr (τ.1 17)) (hb : τ.1 17 216 = nI be) (hbe : be < 2 ^ 30) (hl : l < 2 * n) : ∃ τ', xf_M_takesBy (nI l) τ = some (nI (sp_pr n ru tr ho La wh m cr be l), τ') ∧ rb_fr sc_9 τ τ' := by
  have hn := G.1
  obtain ⟨w1, w2, w3⟩ := W
  obtain ⟨y1, y2, y3⟩ := w
  unfold xf_M_takesBy sp_pr
  by_cases h0 : ho = 0
  · refine ⟨τ, ?_, rb_fr.rf⟩
    subst h0
    obtain ⟨r1, r2⟩ := G.2.2.2.1 (by omega)
    rw [y2, if_pos (by decide), if_pos rfl, g.2.1 0 (by decide), sp_clp_nI r1 r2]
  · obtain ⟨h, rfl⟩ : ∃ q, ho = q + 1 := ⟨ho - 1, by omega⟩
    obtain ⟨b1, b2, b3, b4⟩ := w3 h (by omega)
    have l1 := sp_ov_lt V hl
    have l2 := sp_ov_lt V (sp_x1 n (by omega) l hl)
    have c4 := sp_ly_lt C (l / 2) m (Nat.le_refl m)
    have cm := C.2.1
    have e1 : nI l / (2 : Int32) = nI (l / 2) := pk_div (d := 2) (by omega) (by decide) (by decide)
    have e2 : nI be - nI be / (100 : Int32) * 100 = nI (be % 100) := pk_rem (d := 100) (by omega) (by decide) (by decide)
    have ok := sp_lt6_ok (a0 := ru 0) (a1 := tr (3 * sp_ov n wh l + 2)) (a2 := tr (3 * sp_ov n wh (l ^^^ 1) + 2)) (a3 := m) (a4 := sp_ly n cr (l / 2) m + 1) (a5 := be % 100) (by have := G.2.1 0 (by decide); omega) (sp_tr_lt G V hl) (sp_tr_lt G V (sp_x1 n (by omega) l hl)) (by omega) (by omega) (by omega)
    -- what holds of every state on the way
    have way : ∀ s : rb_St, rb_fr sc_9 τ s → xf_M_overBy (nI l) s = some (nI (sp_ov n wh l)) ∧ xf_M_underBy (nI l) s = some (nI (sp_ov n wh (l ^^^ 1))) ∧ xf_M_told (nI (sp_ov n wh l)) (nI 2) s = some (nI (tr (3 * sp_ov n wh l + 2))) ∧ xf_M_told (nI (sp_ov n wh (l ^^^ 1))) (nI 2) s = some (nI (tr (3 * sp_ov n wh (l ^^^ 1) + 2))) ∧ xf_M_layerAt (nI (l / 2)) s = some (nI (sp_ly n cr (l / 2) m + 1)) ∧ s.1 17 14 = nI m ∧ s.1 17 216 = nI be ∧ s.1 0 29 = nI h ∧ rm_law h (La h) s := by
      intro s hs
      have r17 : s.1 17 = τ.1 17 := funext fun i => hs.1 17 i (by unfold sc_9; omega)
      have r0 : ∀ i, s.1 0 i = τ.1 0 i := fun i => hs.1 0 i (by unfold sc_9; omega)
      have hw' : rm_wh n wh ln s := ⟨(r0 22).trans hw.1, fun p hp => by rw [r17]; exact hw.2.1 p hp, fun p hp => by rw [r17]; exact hw.2.2 p hp⟩
      have hc' : rm_cr m cr (s.1 17) := by rw [r17]; exact hc
      have g' : gm n ru tr s := ⟨(r0 22).trans g.1, fun i hi => (hs.1 13 i (by unfold sc_9; omega)).trans (g.2.1 i hi), fun i hi => (hs.1 14 i (by unfold sc_9; omega)).trans (g.2.2 i hi)⟩
      refine ⟨sm_overBy V hw' hl, sm_underBy V hw' hl, sm_told G g' l1 (by decide), sm_told G g' l2 (by decide), sm_layerAt C hc' hw'.1 (by omega), by rw [r17]; exact hc.2.1, by rw [r17]; exact hb, by rw [r0, y2, nI_pred], ?_⟩
      obtain ⟨q1, q2⟩ := y3 h (by omega)
      exact ⟨(hs.1 5 h (by unfold sc_9; omega)).trans q1, rb_lm_co (fun c i p1 _ _ => hs.1 _ _ (by unfold sc_9; omega)) (fun c i p1 _ _ => hs.1 _ _ (by unfold sc_9; omega)) q2⟩
    have s9 : ∀ i, sc_9 9 i := fun i => Or.inl rfl
    rw [if_neg (show ¬ h + 1 = 0 by omega), y2, nI_pred, if_neg (fun e => rb_neg1 (by omega) e)]
    simp only [rb_lt_eq]
    rw [g.2.1 0 (by decide), rb_l2]
    obtain ⟨p1, -, p3, -, -, -, -, -, -⟩ := way (rb_sI τ 9 0 (nI (ru 0))) (rb_fr.sI (s9 0))
    rw [p1, rb_b1_some, p3, rb_b1_some]
    have f1 : rb_fr sc_9 τ (rb_sI (rb_sI τ 9 0 (nI (ru 0))) 9 1 (nI (tr (3 * sp_ov n wh l + 2)))) := (rb_fr.sI (s9 0)).sI' (s9 1)
    obtain ⟨-, p2, -, p4, -, -, -, -, -⟩ := way _ f1
    rw [p2, rb_b1_some, p4, rb_b1_some]
    have f2 := f1.sI' (x := nI (tr (3 * sp_ov n wh (l ^^^ 1) + 2))) (s9 2)
    obtain ⟨-, -, -, -, -, p6, -, -, -⟩ := way _ f2
    rw [p6]
    have f3 := f2.sI' (x := nI m) (s9 3)
    obtain ⟨-, -, -, -, p5, -, -, -, -⟩ := way _ f3
    rw [← rb_l2, e1, p5, rb_b1_some]
    have f4 := f3.sI' (x := nI (sp_ly n cr (l / 2) m + 1)) (s9 4)
    obtain ⟨-, -, -, -, -, -, p7, -, -⟩ := way _ f4
    rw [p7, e2]
    have f5 := f4.sI' (x := nI (be % 100)) (s9 5)
    obtain ⟨-, -, -, -, -, -, -, p8, p9⟩ := way _ f5
    obtain ⟨τ', z1, z2⟩ := sm_worthOf (lt := rb_lt6 (nI (ru 0)) (nI (tr (3 * sp_ov n wh l + 2))) (nI (tr (3 * sp_ov n wh (l ^^^ 1) + 2))) (nI m) (nI (sp_ly n cr (l / 2) m + 1)) (nI (be % 100))) (by omega) b1 b3 b4 ok (fun v hv => by
      have : v = 0 ∨ v = 1 ∨ v = 2 ∨ v = 3 ∨ v = 4 ∨ v = 5 := by omega
      rcases this with rfl | rfl | rfl | rfl | rfl | rfl <;> simp [rb_sI_at, rb_lt6]) p9
    refine ⟨τ', ?_, f5.tr (z2.mo (fun c i q => Or.inr q))⟩
    rw [p8, z1, rb_b2_some, (sp_clp_le _).2.2]
    rfl
end RBP
