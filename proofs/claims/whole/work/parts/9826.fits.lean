/-! WHAT FITS, AND WHEN TO ASK -/
section RBH
variable {n fc j : Nat} {fl : Nat → Nat} {ft : Nat → Nat → Nat} {σ τ τ' : rb_St}
def sp_ag (n : Nat) (ft : Nat → Nat) (fl : Nat) (sd ss sn si : Nat → Nat) (i : Nat) : Bool := if sp_pb n ft fl (sd i) (sn i) = ss i then decide (si i = 1) else decide (si i = 0)
theorem rb_agree (hj : j < fc) (hn : n ≤ 7) (h3 : 3 ≤ n) (h15 : σ.1 15 2 = nI n) {sc : Nat} {sd ss sn si : Nat → Nat} (hsc : sc ≤ 10) (hx : σ.1 0 15 = nI sc) (hv : ∀ i, i < sc → (sd i < n ∧ ss i < n ∧ 1 ≤ sn i ∧ sn i ≤ 9 ∧ si i ≤ 1) ∧ σ.1 233 i = nI (sd i + 8 * ss i + 64 * sn i + 1024 * si i)) : ∀ (f i : Nat) (τ : rb_St), RFig fc fl ft σ τ → τ.1 0 22 = nI n → τ.1 0 47 = nI sc → (∀ i, i < sc → τ.1 29 i = nI (sd i) ∧ τ.1 30 i = nI (ss i) ∧ τ.1 31 i = nI (sn i) ∧ τ.1 32 i = nI (si i)) → i ≤ sc → sc - i < f → ∃ t τ', xl_RP_agreesWithAll_2 (256 + 2 * j) σ f (nI i) = some t ∧ xl_M_isFit_2 (nI j) f (nI i) τ = some (t, τ') ∧ t ≤ 1 ∧ rb_fr sc_23 τ τ' := by
  intro f
  induction f with
  | zero => intro i τ _ _ _ _ _ hf; omega
  | succ f ih =>
    intro i τ F h22 h47 hm hi hf
    by_cases ei : i = sc
    · subst ei
      refine ⟨1, τ, ?_, ?_, by omega, rb_fr.rf⟩
      · show (if σ.1 0 15 ≤ nI i then some 1 else _) = _
        rw [hx, if_pos (nI_le (Nat.le_refl _) (by omega))]
      · show (if τ.1 0 47 ≤ nI i then some (1, τ) else _) = _
        rw [h47, if_pos (nI_le (Nat.le_refl _) (by omega))]
    · have hic : i < sc := by omega
      obtain ⟨⟨v1, v2, v3, v4, v5⟩, v6⟩ := hv i hic
      obtain ⟨m1, m2, m3, m4⟩ := hm i hic
      obtain ⟨v, hvv⟩ : ∃ v, v = sd i + 8 * ss i + 64 * sn i + 1024 * si i := ⟨_, rfl⟩
      rw [← hvv] at v6
      have e7 : nI v &&& (7 : Int32) = nI (sd i) := (rb_mask v 3).trans (by congr 1; omega)
      have e6 : (nI v >>> ((6 : Int32) &&& 31)) &&& 15 = nI (sn i) := by
        rw [show nI v >>> ((6 : Int32) &&& 31) = nI (v / 2 ^ 6) from rb_shr (s := 6) (by omega) (by decide)]
        exact (rb_mask (v / 2 ^ 6) 4).trans (by congr 1; omega)
      have e3 : (nI v >>> ((3 : Int32) &&& 31)) &&& 7 = nI (ss i) := by
        rw [show nI v >>> ((3 : Int32) &&& 31) = nI (v / 2 ^ 3) from rb_shr (s := 3) (by omega) (by decide)]
        exact (rb_mask (v / 2 ^ 3) 3).trans (by congr 1; omega)
      have e10 : nI v >>> ((10 : Int32) &&& 31) = nI (si i) := by
        rw [show nI v >>> ((10 : Int32) &&& 31) = nI (v / 2 ^ 10) from rb_shr (s := 10) (by omega) (by decide)]
        congr 1
        omega
      have hp := sp_pb_lt (ft := ft j) (fl := fl j) (show n < 8 by omega) v1 (sn i)
      obtain ⟨s3, b1, b2⟩ := sm_toldSpot F hj hn h3 h22 (k := sn i) (s := sd i) (by omega) v1
      have s30 : s3.1 30 i = nI (ss i) := by rw [b2.1 30 i (by unfold sc_23; omega)]; exact m2
      have s32 : s3.1 32 i = nI (si i) := by rw [b2.1 32 i (by unfold sc_23; omega)]; exact m4
      have fin : ∃ t τ', (if sp_ag n (ft j) (fl j) sd ss sn si i = true then xl_RP_agreesWithAll_2 (256 + 2 * j) σ f (nI (i + 1)) else some 0) = some t ∧ (if sp_ag n (ft j) (fl j) sd ss sn si i = true then xl_M_isFit_2 (nI j) f (nI (i + 1)) s3 else some (0, s3)) = some (t, τ') ∧ t ≤ 1 ∧ rb_fr sc_23 τ τ' := by
        by_cases ha : sp_ag n (ft j) (fl j) sd ss sn si i = true
        · rw [if_pos ha, if_pos ha]
          obtain ⟨t, τ', c1, c2, c3, c4⟩ := ih (i + 1) s3 (RFig_fr (rb_fr.rf (ch := sc_23) (σ := σ)) b2 (fun c i q => by unfold sc_23 at q; omega) (fun c i q => by unfold sc_23 at q; omega) F) (by rw [b2.1 0 22 (by unfold sc_23; omega)]; exact h22) (by rw [b2.1 0 47 (by unfold sc_23; omega)]; exact h47) (fun i hi => by
            rw [b2.1 29 i (by unfold sc_23; omega), b2.1 30 i (by unfold sc_23; omega), b2.1 31 i (by unfold sc_23; omega), b2.1 32 i (by unfold sc_23; omega)]
            exact hm i hi) (by omega) (by omega)
          exact ⟨t, τ', c1, c2, c3, b2.tr c4⟩
        · rw [if_neg ha, if_neg ha]
          exact ⟨0, s3, rfl, rfl, by omega, b2⟩
      have sx : xl_RP_agreesWithAll_2 (256 + 2 * j) σ (f + 1) (nI i) = if sp_ag n (ft j) (fl j) sd ss sn si i = true then xl_RP_agreesWithAll_2 (256 + 2 * j) σ f (nI (i + 1)) else some 0 := by
        show (if σ.1 0 15 ≤ nI i then some 1 else if rb_ib (nI i) 10 then rb_b1 (xf_RP_placeBehind (256 + 2 * j) ((σ.1 233 (nI i).toNatClampNeg) &&& 7) (((σ.1 233 (nI i).toNatClampNeg) >>> (6 &&& 31)) &&& 15) σ) fun r3 => if r3 = (((σ.1 233 (nI i).toNatClampNeg) >>> (3 &&& 31)) &&& 7) then xj_RP_agreesWithAll_47 (fun b2 => xl_RP_agreesWithAll_2 (256 + 2 * j) σ f b2) (256 + 2 * j) (nI i) (σ.1 233 (nI i).toNatClampNeg) 1 σ else xj_RP_agreesWithAll_47 (fun b2 => xl_RP_agreesWithAll_2 (256 + 2 * j) σ f b2) (256 + 2 * j) (nI i) (σ.1 233 (nI i).toNatClampNeg) 0 σ else none) = _
        unfold xj_RP_agreesWithAll_47 sp_ag
        rw [hx, if_neg (nI_ge hic (by omega)), rb_ib_nI (by omega) (by decide), if_pos rfl, nI_clamp (by omega), v6, e7, e6, e3, e10, sx_placeBehind F hj h15 hn v1 (by omega), rb_b1_some, nI_1]
        have h01 : si i = 0 ∨ si i = 1 := by omega
        by_cases hq : sp_pb n (ft j) (fl j) (sd i) (sn i) = ss i
        · rw [if_pos (by rw [hq]), if_pos hq]
          rcases h01 with h0 | h0
          · rw [h0]; rfl
          · rw [h0]; rfl
        · rw [if_neg (fun e => hq ((nI_eq (by omega) (by omega)).mp e)), if_neg hq]
          rcases h01 with h0 | h0
          · rw [h0]; rfl
          · rw [h0]; rfl
      have sm : xl_M_isFit_2 (nI j) (f + 1) (nI i) τ = if sp_ag n (ft j) (fl j) sd ss sn si i = true then xl_M_isFit_2 (nI j) f (nI (i + 1)) s3 else some (0, s3) := by
        show (if τ.1 0 47 ≤ nI i then some (1, τ) else if rb_ib (nI i) 10 then rb_b2 (xf_M_toldSpot (nI j) (τ.1 31 (nI i).toNatClampNeg) (τ.1 29 (nI i).toNatClampNeg) τ) fun r5 s3 => if r5 = (s3.1 30 (nI i).toNatClampNeg) then if 1 = (s3.1 32 (nI i).toNatClampNeg) then xl_M_isFit_2 (nI j) f (nI i + 1) s3 else some (0, s3) else if 0 = (s3.1 32 (nI i).toNatClampNeg) then xl_M_isFit_2 (nI j) f (nI i + 1) s3 else some (0, s3) else none) = _
        unfold sp_ag
        rw [h47, if_neg (nI_ge hic (by omega)), rb_ib_nI (by omega) (by decide), if_pos rfl, nI_clamp (by omega), m3, m1, b1, rb_b2_some, s30, s32, nI_1]
        have h01 : si i = 0 ∨ si i = 1 := by omega
        by_cases hq : sp_pb n (ft j) (fl j) (sd i) (sn i) = ss i
        · rw [if_pos (by rw [hq]), if_pos hq]
          rcases h01 with h0 | h0
          · rw [h0]; rfl
          · rw [h0]; rfl
        · rw [if_neg (fun e => hq ((nI_eq (by omega) (by omega)).mp e)), if_neg hq]
          rcases h01 with h0 | h0
          · rw [h0]; rfl
          · rw [h0]; rfl
      rw [sx, sm]
      exact fin
end RBH
/-- the figures that fit, in both -/
theorem rb_fitsD {n lc ho m co be : Nat} {ru tr wh ln : Nat → Nat} {La : Nat → List sp_Cl} {cr lg : Nat → Nat → Nat} {σ τ : rb_St} {fc : Nat} {fl : Nat → Nat} {ft : Nat → Nat → Nat} (D : RD n ru tr lc ho La wh ln m cr co be lg σ τ) (F : RFig fc fl ft σ τ) (hn : 0 < n) : ∃ S τ', xf_RP_fits σ = some (nI S) ∧ xf_M_fits τ = some (nI S, τ') ∧ S < 2 ^ 6 ∧ rb_fr sc_23 τ τ' := by
  obtain ⟨⟨gw1, -, gx1, gm1, -, -⟩, ⟨-, -, ⟨sc, sd, ss, sn, si, s1, s2, s3, s4⟩, -⟩, -⟩ := id D
  have h7 := gw1.1
  have h3 := gw1.2.2.2.2 hn
  have hf6 := F.1
  have key : ∀ (f j S : Nat) (τ1 : rb_St), j ≤ fc → fc - j < f → S < 2 ^ 6 → rb_fr sc_23 τ τ1 → ∃ S' τ', xl_RP_fits_13 σ f (nI S) (nI j) = some (nI S') ∧ xl_M_fits_13 f (nI S) (nI j) τ1 = some (nI S', τ') ∧ S' < 2 ^ 6 ∧ rb_fr sc_23 τ τ' := by
    intro f
    induction f with
    | zero => intro j S τ1 _ hf; omega
    | succ f ih =>
      intro j S τ1 hj hf hS fr
      have h25 : τ1.1 0 25 = nI fc := by rw [fr.1 0 25 (by unfold sc_23; omega)]; exact F.2.2.1
      by_cases ej : j = fc
      · subst ej
        refine ⟨S, τ1, ?_, ?_, hS, fr⟩
        · show (if σ.1 0 12 ≤ nI j then some (nI S) else _) = _
          rw [F.2.1, if_pos (nI_le (Nat.le_refl _) (by omega))]
        · show (if τ1.1 0 25 ≤ nI j then some (nI S, τ1) else _) = _
          rw [h25, if_pos (nI_le (Nat.le_refl _) (by omega))]
      · have hjf : j < fc := by omega
        obtain ⟨t, τ2, a1, a2, a3, a4⟩ := rb_agree (σ := σ) hjf h7 h3 gx1.1 s1 s2 (fun i hi => ⟨(s4 i hi).1, (s4 i hi).2.1⟩) rb_FU 0 τ1 (RFig_fr (rb_fr.rf (ch := sc_23) (σ := σ)) fr (fun c i q => by unfold sc_23 at q; omega) (fun c i q => by unfold sc_23 at q; omega) F) (by rw [fr.1 0 22 (by unfold sc_23; omega)]; exact gm1.1) (by rw [fr.1 0 47 (by unfold sc_23; omega)]; exact s3) (fun i hi => by
          rw [fr.1 29 i (by unfold sc_23; omega), fr.1 30 i (by unfold sc_23; omega), fr.1 31 i (by unfold sc_23; omega), fr.1 32 i (by unfold sc_23; omega)]
          exact (s4 i hi).2.2) (by omega) (by unfold rb_FU; omega)
        have a1' : xl_RP_agreesWithAll_2 (256 + 2 * j) σ rb_FU 0 = some t := a1
        have a2' : xl_M_isFit_2 (nI j) rb_FU 0 τ1 = some (t, τ2) := a2
        have g1 : xf_RP_agreesWithAll (256 + 2 * j) σ = some (if t = 0 then 0 else 1) := by
          unfold xf_RP_agreesWithAll
          rw [a1', rb_b1_some]
          split <;> rfl
        have g2 : xf_M_isFit (nI j) τ1 = some (if t = 0 then 0 else 1, τ2) := by
          unfold xf_M_isFit
          rw [a2', rb_b2_some]
          split <;> rfl
        have p1 : 2 ^ j < 2 ^ 6 := Nat.pow_lt_pow_right (by decide) (by omega)
        have st1 : xl_RP_fits_13 σ (f + 1) (nI S) (nI j) = xl_RP_fits_13 σ f (nI (if t = 0 then S else S ||| 2 ^ j)) (nI (j + 1)) := by
          show (if σ.1 0 12 ≤ nI j then _ else if rb_ib (nI j) 6 then rb_b1 (xf_RP_agreesWithAll (256 + 2 * (nI j).toNatClampNeg) σ) fun r4 => if r4 = 0 then xl_RP_fits_13 σ f (nI S) (nI j + 1) else xl_RP_fits_13 σ f (nI S ||| (1 <<< (nI j &&& 31))) (nI j + 1) else none) = _
          rw [F.2.1, if_neg (nI_ge hjf (by omega)), rb_ib_nI (by omega) (by decide), if_pos rfl, nI_clamp (by omega), g1, rb_b1_some, rb_1l (by omega), rb_or, nI_1]
          by_cases ht : t = 0
          · rw [if_pos ht, if_pos rfl, if_pos ht]
          · rw [if_neg ht, if_neg (show ¬ (1 : Int32) = 0 by decide), if_neg ht]
        have st2 : xl_M_fits_13 (f + 1) (nI S) (nI j) τ1 = xl_M_fits_13 f (nI (if t = 0 then S else S ||| 2 ^ j)) (nI (j + 1)) τ2 := by
          show (if τ1.1 0 25 ≤ nI j then _ else rb_b2 (xf_M_isFit (nI j) τ1) fun r5 s3 => if r5 = 0 then xl_M_fits_13 f (nI S ||| 0) (nI j + 1) s3 else xl_M_fits_13 f (nI S ||| (1 <<< (nI j &&& 31))) (nI j + 1) s3) = _
          rw [h25, if_neg (nI_ge hjf (by omega)), g2, rb_b2_some, rb_1l (by omega), rb_or, show nI S ||| (0 : Int32) = nI S from (rb_or S 0).trans (by rw [Nat.or_zero]), nI_1]
          by_cases ht : t = 0
          · rw [if_pos ht, if_pos rfl, if_pos ht]
          · rw [if_neg ht, if_neg (show ¬ (1 : Int32) = 0 by decide), if_neg ht]
        rw [st1, st2]
        refine ih (j + 1) _ τ2 (by omega) (by omega) ?_ (fr.tr a4)
        split
        · exact hS
        · exact rb_orlt hS p1
  obtain ⟨S, τ', a1, a2, a3, a4⟩ := key rb_FU 0 0 τ (by omega) (by unfold rb_FU; omega) (by decide) rb_fr.rf
  have a1' : xl_RP_fits_13 σ rb_FU 0 0 = some (nI S) := a1
  have a2' : xl_M_fits_13 rb_FU 0 0 τ = some (nI S, τ') := a2
  refine ⟨S, τ', ?_, ?_, a3, a4⟩
  · unfold xf_RP_fits
    rw [rb_hasG h7 gx1.1, if_neg (show ¬ n = 0 by omega), if_neg (show ¬ (1 : Int32) = 0 by decide), a1', rb_b1_some]
  · unfold xf_M_fits
    rw [gm1.1, if_neg (nI_ne0 hn (by omega)), a2', rb_b2_some]
theorem rb_ops_fits : op_fits Rel := by
  intro σ τ R
  obtain ⟨n, ru, tr, lc, ho, La, wh, ln, m, cr, co, be, lg, D⟩ := Rel_D R
  obtain ⟨⟨gw1, -, gx1, gm1, -, -⟩, ⟨⟨fc, fl, ft, F⟩, b⟩, A, P, px1, -, pm1, -⟩ := id D
  have h7 := gw1.1
  by_cases h : n = 0
  · refine ⟨-1, τ, ?_, ?_, R⟩
    · unfold xf_RP_fits
      rw [rb_hasG h7 gx1.1, if_pos h, if_pos rfl]
    · unfold xf_M_fits
      rw [gm1.1, h, if_pos (show nI 0 = (0 : Int32) from rfl)]
  · obtain ⟨S, τ', a1, a2, a3, a4⟩ := rb_fitsD D F (by omega)
    exact ⟨nI S, τ', a1, a2, Rel_fr rb_fr.rf (a4.mo scM_23) R⟩
/-! ASK: how many agree, by places -/
def sp_ct (S : Nat) (g : Nat → Nat) (s : Nat) : Nat → Nat
  | 0 => 0
  | k + 1 => if S.testBit k = true ∧ g k = s then sp_ct S g s k + 1 else sp_ct S g s k
def sp_mx (f : Nat → Nat) (n : Nat) : Nat := rb_fo (fun i a => max a (f i)) 0 n
def sp_tl (f : Nat → Nat) (n : Nat) : Nat := rb_fo (fun i a => a + f i * 16 ^ i) 0 n
theorem sp_ct_le (S : Nat) (g : Nat → Nat) (s : Nat) : ∀ k, sp_ct S g s k ≤ k := by
  intro k
  induction k with
  | zero => exact Nat.le_refl 0
  | succ k ih =>
    show (if S.testBit k = true ∧ g k = s then sp_ct S g s k + 1 else sp_ct S g s k) ≤ k + 1
    split <;> omega
theorem sp_mx_co {f h : Nat → Nat} : ∀ n, (∀ i, i < n → f i = h i) → sp_mx f n = sp_mx h n := by
  intro n
  induction n with
  | zero => intro _; rfl
  | succ n ih =>
    intro hh
    show max (sp_mx f n) (f n) = max (sp_mx h n) (h n)
    rw [ih (fun i hi => hh i (by omega)), hh n (by omega)]
theorem sp_tl_co {f h : Nat → Nat} : ∀ n, (∀ i, i < n → f i = h i) → sp_tl f n = sp_tl h n := by
  intro n
  induction n with
  | zero => intro _; rfl
  | succ n ih =>
    intro hh
    show sp_tl f n + f n * 16 ^ n = sp_tl h n + h n * 16 ^ n
    rw [ih (fun i hi => hh i (by omega)), hh n (by omega)]
theorem sp_mx_up {f h : Nat → Nat} {r : Nat} (h1 : h r = f r + 1) (h2 : ∀ i, i ≠ r → h i = f i) : ∀ n, r < n → sp_mx h n = max (sp_mx f n) (f r + 1) := by
  intro n
  induction n with
  | zero => intro q; omega
  | succ n ih =>
    intro q
    show max (sp_mx h n) (h n) = max (max (sp_mx f n) (f n)) (f r + 1)
    by_cases e : r = n
    · subst e
      rw [h1, sp_mx_co r (fun i hi => h2 i (by omega))]
      omega
    · rw [ih (by omega), h2 n (by omega)]
      omega
theorem sp_tl_up {f h : Nat → Nat} {r : Nat} (h1 : h r = f r + 1) (h2 : ∀ i, i ≠ r → h i = f i) : ∀ n, r < n → sp_tl h n = sp_tl f n + 16 ^ r := by
  intro n
  induction n with
  | zero => intro q; omega
  | succ n ih =>
    intro q
    show sp_tl h n + h n * 16 ^ n = sp_tl f n + f n * 16 ^ n + 16 ^ r
    by_cases e : r = n
    · subst e
      rw [h1, sp_tl_co r (fun i hi => h2 i (by omega)), Nat.add_mul, Nat.one_mul, Nat.add_assoc]
    · rw [ih (by omega), h2 n (by omega)]
      omega
theorem sp_tl_lt {f : Nat → Nat} (hf : ∀ i, f i < 16) : ∀ n, sp_tl f n < 16 ^ n := by
  intro n
  induction n with
  | zero => exact (by decide : 0 < 16 ^ 0)
  | succ n ih =>
    show sp_tl f n + f n * 16 ^ n < 16 ^ (n + 1)
    have h1 : f n * 16 ^ n ≤ 15 * 16 ^ n := Nat.mul_le_mul_right _ (by have := hf n; omega)
    have h2 : 16 ^ (n + 1) = 16 ^ n * 16 := Nat.pow_succ ..
    omega
theorem sp_tl_at {f : Nat → Nat} (hf : ∀ i, f i < 16) {r : Nat} : ∀ n, r < n → sp_tl f n / 16 ^ r % 16 = f r := by
  intro n
  induction n with
  | zero => intro q; omega
  | succ n ih =>
    intro q
    show (sp_tl f n + f n * 16 ^ n) / 16 ^ r % 16 = f r
    have hp : 0 < 16 ^ r := Nat.pow_pos (by decide)
    by_cases e : r = n
    · subst e
      rw [Nat.add_mul_div_right _ _ hp, Nat.div_eq_of_lt (sp_tl_lt hf r), Nat.zero_add, Nat.mod_eq_of_lt (hf r)]
    · obtain ⟨d, hd⟩ : ∃ d, n = r + (d + 1) := ⟨n - r - 1, by omega⟩
      have e1 : f n * 16 ^ n = (f n * 16 ^ d * 16) * 16 ^ r := by
        rw [hd, Nat.pow_add, Nat.pow_succ]
        generalize f (r + (d + 1)) = x
        rw [Nat.mul_comm (16 ^ r), ← Nat.mul_assoc, ← Nat.mul_assoc]
      rw [e1, Nat.add_mul_div_right _ _ hp, Nat.add_mul_mod_self_right]
      exact ih (by omega)
theorem sp_ct_y {S k : Nat} {g : Nat → Nat} (h : S.testBit k = true) : sp_ct S g (g k) (k + 1) = sp_ct S g (g k) k + 1 := by
  show (if S.testBit k = true ∧ g k = g k then _ else _) = _
  rw [if_pos ⟨h, rfl⟩]
theorem sp_ct_o {S k s : Nat} {g : Nat → Nat} (h : ¬ (S.testBit k = true ∧ g k = s)) : sp_ct S g s (k + 1) = sp_ct S g s k := by
  show (if S.testBit k = true ∧ g k = s then _ else _) = _
  rw [if_neg h]
theorem rb_bitn {a s : Nat} (ha : a < 2 ^ 31) (hs : s < 32) : ((nI a >>> (nI s &&& 31)) &&& 1 = 1) ↔ a.testBit s = true := by
  rw [rb_bit ha hs, Nat.testBit_eq_decide_div_mod_eq, decide_eq_true_iff, rb_l1, nI_eq (by omega) (by decide)]
section RBI
variable {n fc : Nat} {fl : Nat → Nat} {ft : Nat → Nat → Nat} {σ τ : rb_St}
theorem sx_mostAgreeing (F : RFig fc fl ft σ τ) (h15 : σ.1 15 2 = nI n) (hn : n ≤ 7) {S d k : Nat} (hS : S < 2 ^ 6) (hd : d < n) (hk : k ≤ 100) : xf_RP_mostAgreeing (nI S) (nI d) (nI k) σ = some (nI (sp_mx (fun s => sp_ct S (fun f => sp_pb n (ft f) (fl f) d k) s fc) n)) := by
  have hf6 := F.1
  have hle := fun f => sp_pb_lt (ft := ft f) (fl := fl f) (show n < 8 by omega) hd k
  have l16 : ∀ j, j ≤ 6 → ∀ s, sp_ct S (fun f => sp_pb n (ft f) (fl f) d k) s j < 16 := fun j hj s => by have := sp_ct_le S (fun f => sp_pb n (ft f) (fl f) d k) s j; omega
  have hmx : ∀ j, j ≤ 6 → ∀ n, sp_mx (fun s => sp_ct S (fun f => sp_pb n (ft f) (fl f) d k) s j) n < 16 := by
    intro j hj n
    have : ∀ q, sp_mx (fun s => sp_ct S (fun f => sp_pb n (ft f) (fl f) d k) s j) q < 16 := by
      intro q
      induction q with
      | zero => exact (by decide : 0 < 16)
      | succ q ih =>
        show max (sp_mx (fun s => sp_ct S (fun f => sp_pb n (ft f) (fl f) d k) s j) q) (sp_ct S (fun f => sp_pb n (ft f) (fl f) d k) q j) < 16
        have := sp_ct_le S (fun f => sp_pb n (ft f) (fl f) d k) q j
        omega
    exact this n
  have p7 : 16 ^ n ≤ 16 ^ 7 := Nat.pow_le_pow_right (by decide) hn
  have key : ∀ (f j : Nat), j ≤ fc → fc - j < f → xl_RP_mostAgreeing_9 (nI S) (nI d) (nI k) σ f (nI (sp_mx (fun s => sp_ct S (fun f => sp_pb n (ft f) (fl f) d k) s j) n)) (nI (sp_tl (fun s => sp_ct S (fun f => sp_pb n (ft f) (fl f) d k) s j) n)) (nI j) = some (nI (sp_mx (fun s => sp_ct S (fun f => sp_pb n (ft f) (fl f) d k) s fc) n)) := by
    intro f
    induction f with
    | zero => intro j _ hf; omega
    | succ f ih =>
      intro j hj hf
      by_cases ej : j = fc
      · subst ej
        show (if σ.1 0 12 ≤ nI j then some _ else _) = _
        rw [F.2.1, if_pos (nI_le (Nat.le_refl _) (by omega))]
      · have hjf : j < fc := by omega
        have := ih (j + 1) (by omega) (by omega)
        obtain ⟨A, hA⟩ : ∃ A, A = fun s => sp_ct S (fun f => sp_pb n (ft f) (fl f) d k) s j := ⟨_, rfl⟩
        obtain ⟨B, hB⟩ : ∃ B, B = fun s => sp_ct S (fun f => sp_pb n (ft f) (fl f) d k) s (j + 1) := ⟨_, rfl⟩
        rw [← hB] at this
        rw [← hA]
        show (if σ.1 0 12 ≤ nI j then _ else if ((nI S >>> (nI j &&& 31)) &&& 1) = 0 then xl_RP_mostAgreeing_9 (nI S) (nI d) (nI k) σ f (nI (sp_mx A n)) (nI (sp_tl A n)) (nI j + 1) else if rb_ib (nI j) 6 then rb_b1 (xf_RP_placeBehind (256 + 2 * (nI j).toNatClampNeg) (nI d) (nI k) σ) fun r4 => rb_lt (rb_mx (nI (sp_mx A n)) (((nI (sp_tl A n) + (1 <<< ((4 * r4) &&& 31))) >>> ((4 * r4) &&& 31)) &&& 15)) (fun v6 => xl_RP_mostAgreeing_9 (nI S) (nI d) (nI k) σ f v6 (nI (sp_tl A n) + (1 <<< ((4 * r4) &&& 31))) (nI j + 1)) else none) = _
        rw [F.2.1, if_neg (nI_ge hjf (by omega)), rb_ib_nI (by omega) (by decide), if_pos rfl, nI_clamp (by omega), sx_placeBehind F hjf h15 hn hd hk, rb_b1_some, nI_1]
        have hb := rb_bit0 (a := S) (s := j) (by omega) (by omega)
        cases hbit : S.testBit j with
        | false =>
          rw [if_pos (hb.mpr hbit)]
          have e : B = A := by
            rw [hA, hB]
            funext s
            exact sp_ct_o (fun w => by rw [hbit] at w; cases w.1)
          rw [e] at this
          exact this
        | true =>
          rw [if_neg (fun w => by rw [hb.mp w] at hbit; cases hbit)]
          have hr := hle j
          obtain ⟨r, hr2⟩ : ∃ r, r = sp_pb n (ft j) (fl j) d k := ⟨_, rfl⟩
          rw [← hr2] at hr ⊢
          have hB1 : B r = A r + 1 := by
            rw [hA, hB, hr2]
            exact sp_ct_y (g := fun f => sp_pb n (ft f) (fl f) d k) hbit
          have hB2 : ∀ i, i ≠ r → B i = A i := by
            intro i hi
            rw [hA, hB]
            exact sp_ct_o (fun w => hi (by rw [hr2]; exact w.2.symm))
          have l16B : ∀ i, B i < 16 := fun i => by rw [hB]; exact l16 (j + 1) (by omega) i
          have e4 : (4 : Int32) * nI r = nI (4 * r) := by rw [rb_l4, pk_mul]
          have ep : 2 ^ (4 * r) = 16 ^ r := by rw [Nat.pow_mul]
          have htl := sp_tl_lt l16B n
          have et : nI (sp_tl A n) + (1 <<< (nI (4 * r) &&& 31)) = nI (sp_tl B n) := by
            rw [rb_1l (by omega), nI_add, ep, sp_tl_up hB1 hB2 n hr]
          have eg : (nI (sp_tl B n) >>> (nI (4 * r) &&& 31)) &&& 15 = nI (B r) := by
            rw [rb_shr (by omega) (by omega), ep]
            exact (rb_mask _ 4).trans (by rw [show (2 : Nat) ^ 4 = 16 from rfl, sp_tl_at l16B n hr])
          have hmA : sp_mx A n < 16 := by
            rw [hA]
            exact hmx j (by omega) n
          have hB3 := l16B r
          rw [e4, et, eg, rb_lt_eq, rb_mx_nI (by omega) (by omega), hB1, ← sp_mx_up hB1 hB2 n hr]
          exact this
  have h0 : ∀ q, sp_mx (fun s => sp_ct S (fun f => sp_pb n (ft f) (fl f) d k) s 0) q = 0 := by
    intro q
    induction q with
    | zero => rfl
    | succ q ih =>
      show max (sp_mx (fun s => sp_ct S (fun f => sp_pb n (ft f) (fl f) d k) s 0) q) 0 = 0
      rw [ih]; rfl
  have t0 : ∀ q, sp_tl (fun s => sp_ct S (fun f => sp_pb n (ft f) (fl f) d k) s 0) q = 0 := by
    intro q
    induction q with
    | zero => rfl
    | succ q ih =>
      show sp_tl (fun s => sp_ct S (fun f => sp_pb n (ft f) (fl f) d k) s 0) q + 0 * 16 ^ q = 0
      rw [ih, Nat.zero_mul]
  have e := key rb_FU 0 (by omega) (by unfold rb_FU; omega)
  rw [h0, t0] at e
  have e' : xl_RP_mostAgreeing_9 (nI S) (nI d) (nI k) σ rb_FU 0 0 0 = some (nI (sp_mx (fun s => sp_ct S (fun f => sp_pb n (ft f) (fl f) d k) s fc) n)) := e
  unfold xf_RP_mostAgreeing
  rw [e', rb_b1_some]
theorem sm_alike1 (hn : n ≤ 7) (h3 : 3 ≤ n) {S d k s : Nat} (hS : S < 2 ^ 6) (hd : d < n) (hk : k ≤ 100) (hs : s < n) (x4 : Int32) : ∀ (f j : Nat) (τ : rb_St), RFig fc fl ft σ τ → τ.1 0 22 = nI n → j ≤ fc → fc - j < f → ∃ τ', xl_M_mostAlike_21 (nI S) (nI k) (nI d) x4 (nI s) f (nI (sp_ct S (fun f => sp_pb n (ft f) (fl f) d k) s j)) (nI j) τ = some (nI (sp_ct S (fun f => sp_pb n (ft f) (fl f) d k) s fc), τ') ∧ rb_fr sc_23 τ τ' := by
  intro f
  induction f with
  | zero => intro j τ _ _ _ hf; omega
  | succ f ih =>
    intro j τ F h22 hj hf
    have hf6 := F.1
    by_cases ej : j = fc
    · subst ej
      refine ⟨τ, ?_, rb_fr.rf⟩
      show (if τ.1 0 25 ≤ nI j then some (_, τ) else _) = _
      rw [F.2.2.1, if_pos (nI_le (Nat.le_refl _) (by omega))]
    · have hjf : j < fc := by omega
      have hb := rb_bitn (a := S) (s := j) (by omega) (by omega)
      have st : xl_M_mostAlike_21 (nI S) (nI k) (nI d) x4 (nI s) (f + 1) (nI (sp_ct S (fun f => sp_pb n (ft f) (fl f) d k) s j)) (nI j) τ = if S.testBit j = true then rb_b2 (xf_M_toldSpot (nI j) (nI k) (nI d) τ) (fun r6 s4 => if r6 = nI s then xl_M_mostAlike_21 (nI S) (nI k) (nI d) x4 (nI s) f (nI (sp_ct S (fun f => sp_pb n (ft f) (fl f) d k) s j + 1)) (nI (j + 1)) s4 else xl_M_mostAlike_21 (nI S) (nI k) (nI d) x4 (nI s) f (nI (sp_ct S (fun f => sp_pb n (ft f) (fl f) d k) s j)) (nI (j + 1)) s4) else xl_M_mostAlike_21 (nI S) (nI k) (nI d) x4 (nI s) f (nI (sp_ct S (fun f => sp_pb n (ft f) (fl f) d k) s j)) (nI (j + 1)) τ := by
        show (if τ.1 0 25 ≤ nI j then _ else if (xf_M_has (nI S) (nI j) τ) = 0 then xl_M_mostAlike_21 (nI S) (nI k) (nI d) x4 (nI s) f (nI (sp_ct S (fun f => sp_pb n (ft f) (fl f) d k) s j) + 0) (nI j + 1) τ else rb_b2 (xf_M_toldSpot (nI j) (nI k) (nI d) τ) fun r6 s4 => if r6 = nI s then xl_M_mostAlike_21 (nI S) (nI k) (nI d) x4 (nI s) f (nI (sp_ct S (fun f => sp_pb n (ft f) (fl f) d k) s j) + 1) (nI j + 1) s4 else xl_M_mostAlike_21 (nI S) (nI k) (nI d) x4 (nI s) f (nI (sp_ct S (fun f => sp_pb n (ft f) (fl f) d k) s j) + 0) (nI j + 1) s4) = _
        unfold xf_M_has
        rw [F.2.2.1, if_neg (nI_ge hjf (by omega)), Int32.add_zero, nI_1, nI_1]
        cases hbit : S.testBit j with
        | true => rw [if_pos (hb.mpr hbit), if_neg (show ¬ (1 : Int32) = 0 by decide), if_pos rfl]
        | false => rw [if_neg (show ¬ ((nI S >>> (nI j &&& 31)) &&& 1 = 1) from fun w => by rw [hb.mp w] at hbit; cases hbit), if_pos rfl, if_neg (by decide)]
      rw [st]
      cases hbit : S.testBit j with
      | false =>
        rw [if_neg (by decide)]
        have e : sp_ct S (fun f => sp_pb n (ft f) (fl f) d k) s (j + 1) = sp_ct S (fun f => sp_pb n (ft f) (fl f) d k) s j := sp_ct_o (fun w => by rw [hbit] at w; cases w.1)
        rw [← e]
        exact ih (j + 1) τ F h22 (by omega) (by omega)
      | true =>
        rw [if_pos rfl]
        obtain ⟨s4, b1, b2⟩ := sm_toldSpot F hjf hn h3 h22 (k := k) (s := d) hk hd
        have hp := sp_pb_lt (ft := ft j) (fl := fl j) (show n < 8 by omega) hd k
        rw [b1, rb_b2_some]
        have F4 := RFig_fr (rb_fr.rf (ch := sc_23) (σ := σ)) b2 (fun c i q => by unfold sc_23 at q; omega) (fun c i q => by unfold sc_23 at q; omega) F
        have h22' : s4.1 0 22 = nI n := by rw [b2.1 0 22 (by unfold sc_23; omega)]; exact h22
        by_cases hq : sp_pb n (ft j) (fl j) d k = s
        · rw [if_pos (by rw [hq])]
          have e : sp_ct S (fun f => sp_pb n (ft f) (fl f) d k) s (j + 1) = sp_ct S (fun f => sp_pb n (ft f) (fl f) d k) s j + 1 := by
            rw [← hq]
            exact sp_ct_y (g := fun f => sp_pb n (ft f) (fl f) d k) hbit
          rw [← e]
          obtain ⟨τ', c1, c2⟩ := ih (j + 1) s4 F4 h22' (by omega) (by omega)
          exact ⟨τ', c1, b2.tr c2⟩
        · rw [if_neg (fun e => hq ((nI_eq (by omega) (by omega)).mp e))]
          have e : sp_ct S (fun f => sp_pb n (ft f) (fl f) d k) s (j + 1) = sp_ct S (fun f => sp_pb n (ft f) (fl f) d k) s j := sp_ct_o (fun w => hq w.2)
          rw [← e]
          obtain ⟨τ', c1, c2⟩ := ih (j + 1) s4 F4 h22' (by omega) (by omega)
          exact ⟨τ', c1, b2.tr c2⟩
theorem sm_mostAlike (F : RFig fc fl ft σ τ) (h22 : τ.1 0 22 = nI n) (hn : n ≤ 7) (h3 : 3 ≤ n) {S d k : Nat} (hS : S < 2 ^ 6) (hd : d < n) (hk : k ≤ 100) : ∃ τ', xf_M_mostAlike (nI S) (nI k) (nI d) τ = some (nI (sp_mx (fun s => sp_ct S (fun f => sp_pb n (ft f) (fl f) d k) s fc) n), τ') ∧ rb_fr sc_23 τ τ' := by
  have hf6 := F.1
  have hmx : ∀ q, sp_mx (fun s => sp_ct S (fun f => sp_pb n (ft f) (fl f) d k) s fc) q < 16 := by
    intro q
    induction q with
    | zero => exact (by decide : 0 < 16)
    | succ q ih =>
      show max (sp_mx (fun s => sp_ct S (fun f => sp_pb n (ft f) (fl f) d k) s fc) q) (sp_ct S (fun f => sp_pb n (ft f) (fl f) d k) q fc) < 16
      have := sp_ct_le S (fun f => sp_pb n (ft f) (fl f) d k) q fc
      omega
  have key : ∀ (f s : Nat) (τ1 : rb_St), rb_fr sc_23 τ τ1 → s ≤ n → n - s < f → ∃ τ', xl_M_mostAlike_6 (nI S) (nI k) (nI d) f (nI (sp_mx (fun s => sp_ct S (fun f => sp_pb n (ft f) (fl f) d k) s fc) s)) (nI s) τ1 = some (nI (sp_mx (fun s => sp_ct S (fun f => sp_pb n (ft f) (fl f) d k) s fc) n), τ') ∧ rb_fr sc_23 τ τ' := by
    intro f
    induction f with
    | zero => intro s τ1 _ _ hf; omega
    | succ f ih =>
      intro s τ1 fr hs hf
      have h22' : τ1.1 0 22 = nI n := by rw [fr.1 0 22 (by unfold sc_23; omega)]; exact h22
      by_cases es : s = n
      · subst es
        refine ⟨τ1, ?_, fr⟩
        show (if τ1.1 0 22 ≤ nI s then some (_, τ1) else _) = _
        rw [h22', if_pos (nI_le (Nat.le_refl _) (by omega))]
      · obtain ⟨s9, a1, a2⟩ := sm_alike1 (σ := σ) (fc := fc) (fl := fl) (ft := ft) hn h3 hS hd hk (show s < n by omega) (nI (sp_mx (fun s => sp_ct S (fun f => sp_pb n (ft f) (fl f) d k) s fc) s)) rb_FU 0 τ1 (RFig_fr (rb_fr.rf (ch := sc_23) (σ := σ)) fr (fun c i q => by unfold sc_23 at q; omega) (fun c i q => by unfold sc_23 at q; omega) F) h22' (by omega) (by unfold rb_FU; omega)
        have a1' : xl_M_mostAlike_21 (nI S) (nI k) (nI d) (nI (sp_mx (fun s => sp_ct S (fun f => sp_pb n (ft f) (fl f) d k) s fc) s)) (nI s) rb_FU 0 0 τ1 = some (nI (sp_ct S (fun f => sp_pb n (ft f) (fl f) d k) s fc), s9) := a1
        obtain ⟨τ', b1, b2⟩ := ih (s + 1) s9 (fr.tr a2) (by omega) (by omega)
        refine ⟨τ', ?_, b2⟩
        have hle := sp_ct_le S (fun f => sp_pb n (ft f) (fl f) d k) s fc
        have hm1 := hmx s
        show (if τ1.1 0 22 ≤ nI s then _ else rb_b2 (xl_M_mostAlike_21 (nI S) (nI k) (nI d) (nI (sp_mx (fun s => sp_ct S (fun f => sp_pb n (ft f) (fl f) d k) s fc) s)) (nI s) rb_FU 0 0 τ1) fun y8 s9 => xl_M_mostAlike_6 (nI S) (nI k) (nI d) f (rb_mx (nI (sp_mx (fun s => sp_ct S (fun f => sp_pb n (ft f) (fl f) d k) s fc) s)) y8) (nI s + 1) s9) = _
        rw [h22', if_neg (nI_ge (by omega) (by omega)), a1', rb_b2_some, rb_mx_nI (by omega) (by omega), nI_1]
        exact b1
  obtain ⟨τ', a1, a2⟩ := key rb_FU 0 τ rb_fr.rf (by omega) (by unfold rb_FU; omega)
  have a1' : xl_M_mostAlike_6 (nI S) (nI k) (nI d) rb_FU 0 0 τ = some (nI (sp_mx (fun s => sp_ct S (fun f => sp_pb n (ft f) (fl f) d k) s fc) n), τ') := a1
  refine ⟨τ', ?_, a2⟩
  unfold xf_M_mostAlike
  rw [a1', rb_b2_some]
end RBI
theorem rb_ops_ask : op_ask Rel := by
  intro σ τ R p
  obtain ⟨n, ru, tr, lc, ho, La, wh, ln, m, cr, co, be, lg, D⟩ := Rel_D R
  obtain ⟨⟨gw1, -, gx1, gm1, -, -⟩, ⟨⟨fc, fl, ft, F⟩, b⟩, A, P, px1, -, pm1, -⟩ := id D
  have h7 := gw1.1
  have hf6 := F.1
  unfold xf_RP_ask xf_M_ask
  by_cases h : n = 0
  · refine ⟨-1, τ, ?_, ?_, R⟩
    · unfold xf_RP_fits
      rw [rb_hasG h7 gx1.1, if_pos h, if_pos rfl, rb_b1_some]
      rcases rb_isD h7 gx1.1 gm1.1 p with ⟨d, hd, rfl, g1, g2⟩ | ⟨g1, g2⟩
      · omega
      · rw [g1, if_pos rfl]
    · unfold xf_M_fits
      rw [gm1.1, h, if_pos (show nI 0 = (0 : Int32) from rfl), rb_b2_some]
      rcases rb_isD h7 gx1.1 gm1.1 p with ⟨d, hd, rfl, g1, g2⟩ | ⟨g1, g2⟩
      · omega
      · rw [g2, rb_b1_some, if_pos rfl]
  · have h3 := gw1.2.2.2.2 (by omega)
    obtain ⟨S, τ1, a1, a2, a3, a4⟩ := rb_fitsD D F (by omega)
    rw [a1, a2, rb_b1_some, rb_b2_some]
    have R1 := Rel_fr (rb_fr.rf (ch := scX) (σ := σ)) (a4.mo scM_23) R
    have h22 : τ1.1 0 22 = nI n := by rw [a4.1 0 22 (by unfold sc_23; omega)]; exact gm1.1
    rcases rb_isD h7 gx1.1 h22 p with ⟨d, hd, rfl, g1, g2⟩ | ⟨g1, g2⟩
    · rw [g1, g2, rb_b1_some, if_neg (show ¬ (1 : Int32) = 0 by decide), if_neg (show ¬ (1 : Int32) = 0 by decide)]
      by_cases hS : S = 0
      · exact ⟨-1, τ1, by rw [hS, if_neg (by decide)], by rw [hS, if_pos (show nI 0 = (0 : Int32) from rfl)], R1⟩
      · rw [if_pos (show (0 : Int32) < nI S from nI_lt (a := 0) (by omega) (by omega)), if_neg (nI_ne0 (by omega) (by omega))]
        have mx6 : ∀ k, sp_mx (fun s => sp_ct S (fun f => sp_pb n (ft f) (fl f) d k) s fc) n ≤ 6 := by
          intro k
          have : ∀ q, sp_mx (fun s => sp_ct S (fun f => sp_pb n (ft f) (fl f) d k) s fc) q ≤ 6 := by
            intro q
            induction q with
            | zero => exact (by decide : 0 ≤ 6)
            | succ q ih =>
              show max (sp_mx (fun s => sp_ct S (fun f => sp_pb n (ft f) (fl f) d k) s fc) q) (sp_ct S (fun f => sp_pb n (ft f) (fl f) d k) q fc) ≤ 6
              have := sp_ct_le S (fun f => sp_pb n (ft f) (fl f) d k) q fc
              omega
          exact this n
        have step : ∀ τ2, rb_fr sc_23 τ1 τ2 → ∀ k, k ≤ 100 → ∃ τ3, xf_M_mostAlike (nI S) (nI k) (nI d) τ2 = some (nI (sp_mx (fun s => sp_ct S (fun f => sp_pb n (ft f) (fl f) d k) s fc) n), τ3) ∧ rb_fr sc_23 τ1 τ3 := by
          intro τ2 fr k hk
          have F2 := RFig_fr (rb_fr.rf (ch := sc_23) (σ := σ)) (a4.tr fr) (fun c i q => by unfold sc_23 at q; omega) (fun c i q => by unfold sc_23 at q; omega) F
          obtain ⟨τ3, b1, b2⟩ := sm_mostAlike F2 (by rw [fr.1 0 22 (by unfold sc_23; omega)]; exact h22) h7 h3 a3 hd hk
          exact ⟨τ3, b1, fr.tr b2⟩
        have key : ∀ (f k bs le : Nat) (τ2 : rb_St), rb_fr sc_23 τ1 τ2 → 2 ≤ k → k ≤ 10 → 10 - k < f → bs < 2 ^ 20 → le ≤ 7 → ∃ r τ3, xl_RP_ask_28 (nI d) (nI S) σ f (nI bs) (nI le) (nI k) = some r ∧ xl_M_ask_27 (nI d) (nI S) f (nI bs) (nI le) (nI k) τ2 = some (r, τ3) ∧ rb_fr sc_23 τ1 τ3 := by
          intro f
          induction f with
          | zero => intro k bs le τ2 _ _ _ hf; omega
          | succ f ih =>
            intro k bs le τ2 fr hk2 hk hf hbs hle
            by_cases ek : k = 10
            · subst ek
              refine ⟨nI bs, τ2, ?_, ?_, fr⟩
              · show (if 9 < nI 10 then some (nI bs) else _) = _
                rw [if_pos (by decide)]
              · show (if 9 < nI 10 then some (nI bs, τ2) else _) = _
                rw [if_pos (by decide)]
            · obtain ⟨τ3, b1, b2⟩ := step τ2 fr k (by omega)
              have hm := mx6 k
              have c1 := sx_mostAgreeing F gx1.1 h7 (S := S) (d := d) (k := k) a3 hd (by omega)
              obtain ⟨v, hv⟩ : ∃ v, v = sp_mx (fun s => sp_ct S (fun f => sp_pb n (ft f) (fl f) d k) s fc) n := ⟨_, rfl⟩
              rw [← hv] at b1 c1 hm
              have s1 : xl_RP_ask_28 (nI d) (nI S) σ (f + 1) (nI bs) (nI le) (nI k) = xl_RP_ask_28 (nI d) (nI S) σ f (nI (if le ≤ v then bs else k)) (nI (if le ≤ v then le else v)) (nI (k + 1)) := by
                show (if 9 < nI k then _ else rb_b1 (xf_RP_mostAgreeing (nI S) (nI d) (nI k) σ) fun r6 => if nI le ≤ r6 then xl_RP_ask_28 (nI d) (nI S) σ f (nI bs) (nI le) (nI k + 1) else xl_RP_ask_28 (nI d) (nI S) σ f (nI k) r6 (nI k + 1)) = _
                rw [if_neg (show ¬ (9 : Int32) < nI k from nI_nlt (a := 9) (by omega) (by decide)), c1, rb_b1_some, nI_1]
                by_cases hl : le ≤ v
                · rw [if_pos (nI_le hl (by omega)), if_pos hl, if_pos hl]
                · rw [if_neg (nI_ge (by omega) (by omega)), if_neg hl, if_neg hl]
              have s2 : xl_M_ask_27 (nI d) (nI S) (f + 1) (nI bs) (nI le) (nI k) τ2 = xl_M_ask_27 (nI d) (nI S) f (nI (if le ≤ v then bs else k)) (nI (if le ≤ v then le else v)) (nI (k + 1)) τ3 := by
                show (if 9 < nI k then _ else rb_b2 (xf_M_mostAlike (nI S) (nI k) (nI d) τ2) fun r11 s9 => if nI bs = (-1) then xl_M_ask_27 (nI d) (nI S) f (nI k) r11 (nI k + 1) s9 else if nI le ≤ r11 then xl_M_ask_27 (nI d) (nI S) f (nI bs) (nI le) (nI k + 1) s9 else xl_M_ask_27 (nI d) (nI S) f (nI k) r11 (nI k + 1) s9) = _
                rw [if_neg (show ¬ (9 : Int32) < nI k from nI_nlt (a := 9) (by omega) (by decide)), b1, rb_b2_some, if_neg (rb_neg1 (by omega)), nI_1]
                by_cases hl : le ≤ v
                · rw [if_pos (nI_le hl (by omega)), if_pos hl, if_pos hl]
                · rw [if_neg (nI_ge (by omega) (by omega)), if_neg hl, if_neg hl]
              rw [s1, s2]
              refine ih (k + 1) _ _ τ3 b2 (by omega) (by omega) (by omega) ?_ ?_
              · split <;> omega
              · split <;> omega
        obtain ⟨τ3, b1, b2⟩ := step τ1 rb_fr.rf 1 (by omega)
        have hm := mx6 1
        have c1 := sx_mostAgreeing F gx1.1 h7 (S := S) (d := d) (k := 1) a3 hd (by omega)
        obtain ⟨v, hv⟩ : ∃ v, v = sp_mx (fun s => sp_ct S (fun f => sp_pb n (ft f) (fl f) d 1) s fc) n := ⟨_, rfl⟩
        rw [← hv] at b1 c1 hm
        obtain ⟨G, hG, hG2⟩ : ∃ G, rb_FU = G + 1 ∧ 100 < G := ⟨99999, rfl, by decide⟩
        obtain ⟨r, τ4, k1, k2, k3⟩ := key G 2 1 v τ3 b2 (by omega) (by omega) (by omega) (by omega) (by omega)
        have e1 : xl_RP_ask_28 (nI d) (nI S) σ rb_FU 1 7 1 = some r := by
          rw [hG]
          show (if 9 < nI 1 then _ else rb_b1 (xf_RP_mostAgreeing (nI S) (nI d) (nI 1) σ) fun r6 => if nI 7 ≤ r6 then xl_RP_ask_28 (nI d) (nI S) σ G 1 7 (nI 1 + 1) else xl_RP_ask_28 (nI d) (nI S) σ G (nI 1) r6 (nI 1 + 1)) = _
          rw [if_neg (by decide), c1, rb_b1_some, if_neg (nI_ge (show v < 7 by omega) (by decide)), nI_1]
          exact k1
        have e2 : xl_M_ask_27 (nI d) (nI S) rb_FU (-1) 0 1 τ1 = some (r, τ4) := by
          rw [hG]
          show (if 9 < nI 1 then _ else rb_b2 (xf_M_mostAlike (nI S) (nI 1) (nI d) τ1) fun r11 s9 => if (-1 : Int32) = (-1) then xl_M_ask_27 (nI d) (nI S) G (nI 1) r11 (nI 1 + 1) s9 else if (0 : Int32) ≤ r11 then xl_M_ask_27 (nI d) (nI S) G (-1) 0 (nI 1 + 1) s9 else xl_M_ask_27 (nI d) (nI S) G (nI 1) r11 (nI 1 + 1) s9) = _
          rw [if_neg (by decide), b1, rb_b2_some, if_pos rfl, nI_1]
          exact k2
        exact ⟨r, τ4, by rw [e1, rb_b1_some], by rw [e2, rb_b2_some], Rel_fr (rb_fr.rf (ch := scX) (σ := σ)) (k3.mo scM_23) R1⟩
    · exact ⟨-1, τ1, by rw [g1, if_pos rfl], by rw [g2, rb_b1_some, if_pos rfl], R1⟩
