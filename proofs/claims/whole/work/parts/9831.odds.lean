/-! ODDS -/
abbrev sp_Zt : Type := (Nat → Nat) × Nat × (Nat → Nat → Nat)
def sp_m3 (n : Nat) (z : sp_Zt) (l : Nat) : sp_Zt := (sp_sw n z.1 (l / 2), mvm n z.2.1 z.2.2 l, mvc n z.1 z.2.1 z.2.2 l 0)
def sp_Z (n : Nat) (z0 : sp_Zt) (ft : Nat → Nat) (S : Nat) : Nat → sp_Zt
  | 0 => z0
  | i + 1 => if ft i < 2 * n then sp_m3 n (sp_Z n z0 ft S i) (if S.testBit i = true then ft i ^^^ 1 else ft i) else sp_Z n z0 ft S i
def sp_od (n : Nat) (ft : Nat → Nat) (v ch : Nat) : Nat → Nat → sp_Zt → Nat → Nat
  | 0, _, z, part => if z.2.1 ≤ v then part else 0
  | r + 1, i, z, part => if ft i < 2 * n then sp_od n ft v ch r (i + 1) (sp_m3 n z (ft i)) (part - part * ch / 100) + sp_od n ft v ch r (i + 1) (sp_m3 n z (ft i ^^^ 1)) (part * ch / 100) else sp_od n ft v ch r (i + 1) z part
theorem sp_Z_co {n : Nat} {z0 : sp_Zt} {ft : Nat → Nat} {S T : Nat} : ∀ i, (∀ q, q < i → S.testBit q = T.testBit q) → sp_Z n z0 ft S i = sp_Z n z0 ft T i := by
  intro i
  induction i with
  | zero => intro _; rfl
  | succ i ih =>
    intro h
    show (if ft i < 2 * n then sp_m3 n (sp_Z n z0 ft S i) (if S.testBit i = true then ft i ^^^ 1 else ft i) else sp_Z n z0 ft S i) = (if ft i < 2 * n then sp_m3 n (sp_Z n z0 ft T i) (if T.testBit i = true then ft i ^^^ 1 else ft i) else sp_Z n z0 ft T i)
    rw [ih (fun q hq => h q (by omega)), h i (by omega)]
theorem sp_pc {part ch : Nat} (hc : ch ≤ 100) : part * ch / 100 ≤ part := by
  have : part * ch ≤ part * 100 := Nat.mul_le_mul_left _ hc
  omega
theorem sp_od_le {n : Nat} {ft : Nat → Nat} {v ch : Nat} (hc : ch ≤ 100) : ∀ r i z part, sp_od n ft v ch r i z part ≤ part := by
  intro r
  induction r with
  | zero =>
    intro i z part
    show (if z.2.1 ≤ v then part else 0) ≤ part
    split <;> omega
  | succ r ih =>
    intro i z part
    show (if ft i < 2 * n then sp_od n ft v ch r (i + 1) (sp_m3 n z (ft i)) (part - part * ch / 100) + sp_od n ft v ch r (i + 1) (sp_m3 n z (ft i ^^^ 1)) (part * ch / 100) else sp_od n ft v ch r (i + 1) z part) ≤ part
    have h1 := ih (i + 1) (sp_m3 n z (ft i)) (part - part * ch / 100)
    have h2 := ih (i + 1) (sp_m3 n z (ft i ^^^ 1)) (part * ch / 100)
    have h3 := ih (i + 1) z part
    have h4 := sp_pc (part := part) hc
    split <;> omega
theorem sp_od_0 {n : Nat} {ft : Nat → Nat} {v ch : Nat} (hc : ch ≤ 100) (r i : Nat) (z : sp_Zt) : sp_od n ft v ch r i z 0 = 0 := by
  have := sp_od_le (n := n) (ft := ft) (v := v) hc r i z 0
  omega
def ZW (n : Nat) (ln : Nat → Nat) (z : sp_Zt) (i : Nat) : Prop := pw n z.1 ln z.2.1 z.2.2 ∧ z.2.1 ≤ 40 + i
theorem ZW_m3 {n l i : Nat} {ln : Nat → Nat} {z : sp_Zt} (h : ZW n ln z i) (h3 : 3 ≤ n) (hl : l < 2 * n) (hi : i < 8) : ZW n ln (sp_m3 n z l) (i + 1) := by
  refine ⟨pw_mv h.1 h3 hl (by have := h.2; omega) (by omega), ?_⟩
  have := h.2
  show mvm n z.2.1 z.2.2 l ≤ 40 + (i + 1)
  unfold mvm
  split <;> omega
theorem ZW_Z {n : Nat} {ln ft : Nat → Nat} {z0 : sp_Zt} (h : ZW n ln z0 0) (h3 : 3 ≤ n) (S : Nat) : ∀ i, i ≤ 8 → ZW n ln (sp_Z n z0 ft S i) i := by
  have h8 := h.1.1.1
  intro i
  induction i with
  | zero => intro _; exact h
  | succ i ih =>
    intro hi
    have h1 := ih (by omega)
    show ZW n ln (if ft i < 2 * n then sp_m3 n (sp_Z n z0 ft S i) (if S.testBit i = true then ft i ^^^ 1 else ft i) else sp_Z n z0 ft S i) (i + 1)
    by_cases hl : ft i < 2 * n
    · rw [if_pos hl]
      refine ZW_m3 h1 h3 ?_ (by omega)
      split
      · exact sp_x1 n h8 _ hl
      · exact hl
    · rw [if_neg hl]
      exact ⟨h1.1, by have := h1.2; omega⟩
section RBOD
variable {n fc j ch v : Nat} {fl ln : Nat → Nat} {ft : Nat → Nat → Nat} {z0 : sp_Zt}
/-- the reference's row behind a choice of slips -/
theorem sm_manyl {σ : rb_St} (h3 : 3 ≤ n) (hj : j < fc) (hz : ZW n ln z0 0) (hfl : fl j ≤ 8) {S : Nat} (hS : S < 2 ^ 8) : ∀ (f i : Nat) (τ : rb_St), RFig fc fl ft σ τ → i ≤ fl j → fl j - i < f → rm_row n (sp_Z n z0 (ft j) S i).2.1 (fun q => (sp_Z n z0 (ft j) S i).2.2 q 0) τ → ∃ τ', xl_M_manyBy_6 (nI j) (nI S) f (nI i) τ = some τ' ∧ rm_row n (sp_Z n z0 (ft j) S (fl j)).2.1 (fun q => (sp_Z n z0 (ft j) S (fl j)).2.2 q 0) τ' ∧ rb_fr sc_19 τ τ' := by
  have h8 := hz.1.1.1
  intro f
  induction f with
  | zero => intro i τ _ _ hf; omega
  | succ f ih =>
    intro i τ F hi hf hr
    obtain ⟨e1, e2, e3, e4⟩ := F.2.2.2 j hj
    have hf6 := F.1
    by_cases ei : i = fl j
    · subst ei
      refine ⟨τ, ?_, hr, rb_fr.rf⟩
      show (if rb_ib (nI j) 7 then if (τ.1 16 (nI j).toNatClampNeg) ≤ nI (fl j) then some τ else _ else none) = _
      rw [rb_ib_nI (by omega) (by decide), if_pos rfl, nI_clamp (by omega), e3, if_pos (nI_le (Nat.le_refl _) (by omega))]
    · have hil : i < fl j := by omega
      obtain ⟨L20, -, -⟩ := e4 i hil
      have h22 := hr.2.2.1
      have hb := rb_bitn (a := S) (s := i) (by omega) (by omega)
      obtain ⟨l, hl⟩ : ∃ l, l = (if S.testBit i = true then ft j i ^^^ 1 else ft j i) := ⟨_, rfl⟩
      have eZ : sp_Z n z0 (ft j) S (i + 1) = if ft j i < 2 * n then sp_m3 n (sp_Z n z0 (ft j) S i) l else sp_Z n z0 (ft j) S i := by rw [hl]; rfl
      have st : xl_M_manyBy_6 (nI j) (nI S) (f + 1) (nI i) τ = if ft j i < 2 * n then rb_b1 (xf_M_addLetter (nI l) τ) (fun s => xl_M_manyBy_6 (nI j) (nI S) f (nI (i + 1)) s) else xl_M_manyBy_6 (nI j) (nI S) f (nI (i + 1)) τ := by
        show (if rb_ib (nI j) 7 then if (τ.1 16 (nI j).toNatClampNeg) ≤ nI i then some τ else rb_b1 (xf_M_stepOf (nI j) (nI i) τ) fun r5 => if r5 = 20 then xl_M_manyBy_6 (nI j) (nI S) f (nI i + 1) τ else rb_b1 (xf_M_stepOf (nI j) (nI i) τ) fun r8 => if (xf_M_has (nI S) (nI i) τ) = 0 then rb_b1 (xf_M_addLetter (r8 ^^^ 0) τ) fun s11 => xl_M_manyBy_6 (nI j) (nI S) f (nI i + 1) s11 else rb_b1 (xf_M_addLetter (r8 ^^^ 1) τ) fun s13 => xl_M_manyBy_6 (nI j) (nI S) f (nI i + 1) s13 else none) = _
        unfold xf_M_has
        rw [rb_ib_nI (by omega) (by decide), if_pos rfl, nI_clamp (by omega), e3, if_neg (nI_ge hil (by omega)), sm_stepOf F hj h22 (by omega) hil, rb_b1_some, rb_b1_some, nI_1]
        by_cases hL : ft j i < 2 * n
        · rw [if_pos hL, if_neg (fun e => by have := (nI_eq (b := 20) (by omega) (by decide)).mp e; omega), if_pos hL, hl]
          cases hbit : S.testBit i with
          | true => rw [if_pos (hb.mpr hbit), if_neg (show ¬ (1 : Int32) = 0 by decide), if_pos rfl, show nI (ft j i) ^^^ (1 : Int32) = nI (ft j i ^^^ 1) from rb_xr (ft j i) 1]
          | false => rw [if_neg (show ¬ ((nI S >>> (nI i &&& 31)) &&& 1 = 1) from fun w => by rw [hb.mp w] at hbit; cases hbit), if_pos rfl, if_neg (by decide), show nI (ft j i) ^^^ (0 : Int32) = nI (ft j i) from (rb_xr (ft j i) 0).trans (by rw [Nat.xor_zero])]
        · rw [if_neg hL, if_pos rfl, if_neg hL]
      rw [st]
      by_cases hL : ft j i < 2 * n
      · rw [if_pos hL]
        have hl2 : l < 2 * n := by
          rw [hl]
          split
          · exact sp_x1 n h8 _ hL
          · exact hL
        have hz1 := ZW_Z (ft := ft j) hz h3 S i (by omega)
        obtain ⟨s, a1, a2, a3⟩ := sm_addLetter (wh := (sp_Z n z0 (ft j) S i).1) (t := 0) hr hl2 (Or.inl (by have := hz1.2; omega))
        rw [a1, rb_b1_some]
        rw [if_pos hL] at eZ
        obtain ⟨τ', b1, b2, b3⟩ := ih (i + 1) s (RFig_fr (rb_fr.rf (ch := sc_19) (σ := σ)) a3 (fun c i q => by unfold sc_19 at q; omega) (fun c i q => by unfold sc_19 at q; omega) F) (by omega) (by omega) (by rw [eZ]; exact a2)
        exact ⟨τ', b1, b2, a3.tr b3⟩
      · rw [if_neg hL]
        rw [if_neg hL] at eZ
        exact ih (i + 1) τ F (by omega) (by omega) (by rw [eZ]; exact hr)
theorem sm_manyBy {σ τ : rb_St} (h3 : 3 ≤ n) (hj : j < fc) (hz : ZW n ln z0 0) (hfl : fl j ≤ 8) {S : Nat} (hS : S < 2 ^ 8) (F : RFig fc fl ft σ τ) (hc : rm_cr z0.2.1 z0.2.2 (τ.1 17)) (h22 : τ.1 0 22 = nI n) : ∃ τ', xf_M_manyBy (nI j) (nI S) τ = some (nI (sp_Z n z0 (ft j) S (fl j)).2.1, τ') ∧ rb_fr sc_19 τ τ' := by
  obtain ⟨s, a1, a2, a3⟩ := sm_rowOfPlait hz.1.2.2.1 hc h22
  have a3' : rb_fr sc_19 τ s := a3
  obtain ⟨τ', b1, b2, b3⟩ := sm_manyl (σ := σ) (fl := fl) (ft := ft) h3 hj hz hfl hS rb_FU 0 s (RFig_fr (rb_fr.rf (ch := sc_19) (σ := σ)) a3' (fun c i q => by unfold sc_19 at q; omega) (fun c i q => by unfold sc_19 at q; omega) F) (by omega) (by unfold rb_FU; omega) a2
  have b1' : xl_M_manyBy_6 (nI j) (nI S) rb_FU 0 s = some τ' := b1
  refine ⟨τ', ?_, a3'.tr b3⟩
  unfold xf_M_manyBy
  rw [a1, rb_b1_some, b1', rb_b1_some, b2.2.2.2.1]
theorem sm_odds {σ : rb_St} (h3 : 3 ≤ n) (hj : j < fc) (hz : ZW n ln z0 0) (hfl : fl j ≤ 8) (hch : ch ≤ 100) (hv : v ≤ 60) : ∀ (r i d S part : Nat) (τ : rb_St), RFig fc fl ft σ τ → rm_cr z0.2.1 z0.2.2 (τ.1 17) → τ.1 0 22 = nI n → i + r = fl j → r < d → S < 2 ^ i → part ≤ 1000000000 → ∃ τ', xf_M_oddsFrom d (nI j) (nI i) (nI S) (nI ch) (nI v) (nI part) τ = some (nI (sp_od n (ft j) v ch r i (sp_Z n z0 (ft j) S i) part), τ') ∧ rb_fr sc_19 τ τ' := by
  have h8 := hz.1.1.1
  intro r
  induction r with
  | zero =>
    intro i d S part τ F hc h22 hi hd hS hp
    obtain ⟨d, rfl⟩ : ∃ q, d = q + 1 := ⟨d - 1, by omega⟩
    obtain ⟨e1, e2, e3, e4⟩ := F.2.2.2 j hj
    have hf6 := F.1
    have hS8 : S < 2 ^ 8 := Nat.lt_of_lt_of_le hS (Nat.pow_le_pow_right (by decide) (by omega))
    obtain ⟨s17, a1, a2⟩ := sm_manyBy h3 hj hz hfl hS8 F hc h22
    have hzw := (ZW_Z (ft := ft j) hz h3 S (fl j) hfl).2
    refine ⟨s17, ?_, a2⟩
    have ei : i = fl j := by omega
    subst ei
    show (if rb_ib (nI j) 7 then if nI (fl j) = (τ.1 16 (nI j).toNatClampNeg) then rb_b2 (xf_M_manyBy (nI j) (nI S) τ) fun r19 s17 => if nI v < r19 then some (0, s17) else some (nI part, s17) else _ else none) = some (nI (if (sp_Z n z0 (ft j) S (fl j)).2.1 ≤ v then part else 0), s17)
    rw [rb_ib_nI (by omega) (by decide), if_pos rfl, nI_clamp (by omega), e3, if_pos rfl, a1, rb_b2_some]
    by_cases hle : (sp_Z n z0 (ft j) S (fl j)).2.1 ≤ v
    · rw [if_neg (nI_nlt hle (by omega)), if_pos hle]
    · rw [if_pos (nI_lt (by omega) (by omega)), if_neg hle]
      rfl
  | succ r ih =>
    intro i d S part τ F hc h22 hi hd hS hp
    obtain ⟨d, rfl⟩ : ∃ q, d = q + 1 := ⟨d - 1, by omega⟩
    obtain ⟨e1, e2, e3, e4⟩ := F.2.2.2 j hj
    have hf6 := F.1
    obtain ⟨L20, -, -⟩ := e4 i (by omega)
    have hpc := sp_pc (part := part) hch
    have p1 : 2 ^ i < 2 ^ 8 := Nat.pow_lt_pow_right (by decide) (by omega)
    have hS2 : S ||| 2 ^ i < 2 ^ (i + 1) := Nat.or_lt_two_pow (Nat.lt_of_lt_of_le hS (Nat.pow_le_pow_right (by decide) (by omega))) (Nat.pow_lt_pow_right (by decide) (by omega))
    have hS1 : S < 2 ^ (i + 1) := Nat.lt_of_lt_of_le hS (Nat.pow_le_pow_right (by decide) (by omega))
    have hbi : S.testBit i = false := Nat.testBit_lt_two_pow hS
    have hbi2 : (S ||| 2 ^ i).testBit i = true := by rw [Nat.testBit_or, Nat.testBit_two_pow_self, Bool.or_true]
    have hco : sp_Z n z0 (ft j) (S ||| 2 ^ i) i = sp_Z n z0 (ft j) S i := by
      refine sp_Z_co i (fun q hq => ?_)
      rw [Nat.testBit_or, Nat.testBit_two_pow, decide_eq_false (by omega), Bool.or_false]
    have ev : ((nI part).toInt64 * (nI ch).toInt64 / 100).toInt32 = nI (part * ch / 100) := by
      have hb : part * ch ≤ 1000000000 * 100 := Nat.mul_le_mul hp hch
      rw [nI_l (by omega), nI_l (by omega), lN_mul, show (100 : Int64) = lN 100 from rfl, pk_lDiv (by omega) (by decide) (by decide), lN_i]
    have st : xf_M_oddsFrom (d + 1) (nI j) (nI i) (nI S) (nI ch) (nI v) (nI part) τ = if ft j i < 2 * n then rb_b2 (xf_M_oddsFrom d (nI j) (nI (i + 1)) (nI (S ||| 2 ^ i)) (nI ch) (nI v) (nI (part * ch / 100)) τ) (fun r10 s8 => rb_b2 (xf_M_oddsFrom d (nI j) (nI (i + 1)) (nI S) (nI ch) (nI v) (nI (part - part * ch / 100)) s8) (fun r13 s11 => some (r10 + r13, s11))) else rb_b2 (xf_M_oddsFrom d (nI j) (nI (i + 1)) (nI S) (nI ch) (nI v) (nI part) τ) (fun r16 s14 => some (r16, s14)) := by
      show (if rb_ib (nI j) 7 then if nI i = (τ.1 16 (nI j).toNatClampNeg) then _ else rb_b1 (xf_M_stepOf (nI j) (nI i) τ) fun r3 => if r3 = 20 then rb_b2 (xf_M_oddsFrom d (nI j) (nI i + 1) (nI S) (nI ch) (nI v) (nI part) τ) fun r16 s14 => some (r16, s14) else rb_lt (((nI part).toInt64 * (nI ch).toInt64 / 100).toInt32) (fun v6 => rb_b2 (xf_M_oddsFrom d (nI j) (nI i + 1) (nI S ||| (1 <<< (nI i &&& 31))) (nI ch) (nI v) v6 τ) fun r10 s8 => rb_b2 (xf_M_oddsFrom d (nI j) (nI i + 1) (nI S) (nI ch) (nI v) (nI part - v6) s8) fun r13 s11 => some (r10 + r13, s11)) else none) = _
      rw [rb_ib_nI (by omega) (by decide), if_pos rfl, nI_clamp (by omega), e3, if_neg (fun e => by have := (nI_eq (by omega) (by omega)).mp e; omega), sm_stepOf F hj h22 (by omega) (by omega), rb_b1_some, nI_1, rb_1l (by omega), rb_or, ev, rb_lt_eq, pk_sub hpc]
      by_cases hL : ft j i < 2 * n
      · rw [if_pos hL, if_neg (fun e => by have := (nI_eq (b := 20) (by omega) (by decide)).mp e; omega), if_pos hL]
      · rw [if_neg hL, if_pos rfl, if_neg hL]
    have eo : sp_od n (ft j) v ch (r + 1) i (sp_Z n z0 (ft j) S i) part = if ft j i < 2 * n then sp_od n (ft j) v ch r (i + 1) (sp_m3 n (sp_Z n z0 (ft j) S i) (ft j i)) (part - part * ch / 100) + sp_od n (ft j) v ch r (i + 1) (sp_m3 n (sp_Z n z0 (ft j) S i) (ft j i ^^^ 1)) (part * ch / 100) else sp_od n (ft j) v ch r (i + 1) (sp_Z n z0 (ft j) S i) part := rfl
    have eZ : ∀ T, sp_Z n z0 (ft j) T (i + 1) = if ft j i < 2 * n then sp_m3 n (sp_Z n z0 (ft j) T i) (if T.testBit i = true then ft j i ^^^ 1 else ft j i) else sp_Z n z0 (ft j) T i := fun _ => rfl
    rw [st, eo]
    by_cases hL : ft j i < 2 * n
    · rw [if_pos hL, if_pos hL]
      obtain ⟨s8, a1, a2⟩ := ih (i + 1) d (S ||| 2 ^ i) (part * ch / 100) τ F hc h22 (by omega) (by omega) hS2 (by omega)
      have F8 := RFig_fr (rb_fr.rf (ch := sc_19) (σ := σ)) a2 (fun c i q => by unfold sc_19 at q; omega) (fun c i q => by unfold sc_19 at q; omega) F
      have r17 : s8.1 17 = τ.1 17 := funext fun i => a2.1 17 i (by unfold sc_19; omega)
      obtain ⟨s11, b1, b2⟩ := ih (i + 1) d S (part - part * ch / 100) s8 F8 (by rw [r17]; exact hc) (by rw [a2.1 0 22 (by unfold sc_19; omega)]; exact h22) (by omega) (by omega) hS1 (by omega)
      rw [eZ, if_pos hL, hbi2, if_pos rfl, hco] at a1
      rw [eZ, if_pos hL, hbi, if_neg (by decide)] at b1
      rw [a1, rb_b2_some, b1, rb_b2_some]
      exact ⟨s11, by rw [nI_add, Nat.add_comm], a2.tr b2⟩
    · rw [if_neg hL, if_neg hL]
      obtain ⟨s14, a1, a2⟩ := ih (i + 1) d S part τ F hc h22 (by omega) (by omega) hS1 hp
      rw [eZ, if_neg hL] at a1
      rw [a1, rb_b2_some]
      exact ⟨s14, rfl, a2⟩
/-- the class -/
def sc_ap (i : Nat) (c _ : Nat) : Prop := 268 + 5 * (i + 1) ≤ c
theorem lN_z {a : Nat} (ha : a < 2 ^ 31) : (lg_cmp (lN a) 0 = 0) = (a = 0) := by
  rw [lg_cmp_eq, show (0 : Int64) = lN 0 from rfl, lN_eq ha (by decide)]
theorem sx_odds {τ : rb_St} (h3 : 3 ≤ n) (hj : j < fc) (hfl : fl j ≤ 8) (hch : ch ≤ 100) (hv : v ≤ 60) : ∀ (r i d part : Nat) (z : sp_Zt) (σ : rb_St), RFig fc fl ft σ τ → ZW n ln z i → rx_wh (268 + 5 * i) n z.1 ln σ → rx_cr (268 + 5 * i) z.2.1 z.2.2 σ → i + r = fl j → 2 * r < d → part ≤ 1000000000 → ∃ σ', xf_RP_fewFrom d (nI i) (lN part) (256 + 2 * j) (nI ch) (nI v) σ = some (lN (sp_od n (ft j) v ch r i z part), σ') ∧ rb_fr (sc_ap i) σ σ' := by
  intro r
  induction r with
  | zero =>
    intro i d part z σ F hz hw hc hi hd hp
    obtain ⟨d, rfl⟩ : ∃ q, d = q + 1 := ⟨d - 1, by omega⟩
    obtain ⟨e1, e2, e3, e4⟩ := F.2.2.2 j hj
    have hf6 := F.1
    have hzw := hz.2
    refine ⟨σ, ?_, rb_fr.rf⟩
    show (if (lg_cmp (lN part) 0) = 0 then some (0, σ) else if nI i < 0 then some (0, σ) else if nI i ≤ 8 then if nI i < (σ.1 (256 + 2 * j) 1) then _ else if rb_ib (nI i) 9 then if nI v < (σ.1 (268 + 5 * (nI i).toNatClampNeg) 1) then some (0, σ) else some (lN part, σ) else none else some (0, σ)) = some (lN (if z.2.1 ≤ v then part else 0), σ)
    simp only [lN_z (show part < 2 ^ 31 by omega)]
    by_cases hp0 : part = 0
    · rw [if_pos hp0, hp0]
      split <;> rfl
    · rw [if_neg hp0, if_neg (nI_pos (by omega)), if_pos (show nI i ≤ (8 : Int32) from nI_le (b := 8) (by omega) (by decide)), e2, if_neg (nI_nlt (by omega) (by omega)), rb_ib_nI (by omega) (by decide), if_pos rfl, nI_clamp (by omega), hc.1]
      by_cases hle : z.2.1 ≤ v
      · rw [if_neg (nI_nlt hle (by omega)), if_pos hle]
      · rw [if_pos (nI_lt (by omega) (by omega)), if_neg hle]
        rfl
  | succ r ih =>
    intro i d part z σ F hz hw hc hi hd hp
    obtain ⟨d, rfl⟩ : ∃ q, d = q + 2 := ⟨d - 2, by omega⟩
    obtain ⟨e1, e2, e3, e4⟩ := F.2.2.2 j hj
    have hf6 := F.1
    have h8 := hz.1.1.1
    have hm48 := hz.2
    obtain ⟨L20, -, -⟩ := e4 i (by omega)
    have hpc := sp_pc (part := part) hch
    -- one branch
    have by1 : ∀ (l pt : Nat) (z1 : sp_Zt) (s : rb_St), l ≤ 21 → pt ≤ 1000000000 → (l < 2 * n → z1 = sp_m3 n z l) → (¬ l < 2 * n → z1 = z) → rb_fr (sc_ap i) σ s → ∃ s', xf_RP_fewBy (d + 1) (nI i) (nI l) (lN pt) (256 + 2 * j) (nI ch) (nI v) s = some (lN (sp_od n (ft j) v ch r (i + 1) z1 pt), s') ∧ rb_fr (sc_ap i) σ s' := by
      intro l pt z1 s hl hpt hz1 hz2 fr
      show ∃ s', (if (lg_cmp (lN pt) 0) = 0 then some (0, s) else if nI i < 0 then some (0, s) else if nI i < 8 then if rb_ib (nI i + 1) 9 then if rb_ib (nI i) 9 then rb_b1 (xf_Pole_standAs (268 + 5 * (nI i + 1).toNatClampNeg) (268 + 5 * (nI i).toNatClampNeg) s) fun s6 => rb_b1 (xf_Pole_moveEndless (268 + 5 * (nI i + 1).toNatClampNeg) (nI l) s6) fun s8 => rb_b2 (xf_RP_fewFrom d (nI i + 1) (lN pt) (256 + 2 * j) (nI ch) (nI v) s8) fun r12 s10 => some (r12, s10) else none else none else some (0, s)) = _ ∧ _
      simp only [lN_z (show pt < 2 ^ 31 by omega)]
      by_cases hp0 : pt = 0
      · rw [if_pos hp0, hp0, sp_od_0 hch]
        exact ⟨s, rfl, fr⟩
      · rw [if_neg hp0, if_neg (nI_pos (by omega)), if_pos (show nI i < (8 : Int32) from nI_lt (b := 8) (by omega) (by decide)), nI_1, rb_ib_nI (by omega) (by decide), if_pos rfl, rb_ib_nI (by omega) (by decide), if_pos rfl, nI_clamp (by omega), nI_clamp (by omega)]
        obtain ⟨s6, a1, a2, a3, a4⟩ := sx_standAs (σ := s) (k0 := 268 + 5 * (i + 1)) (k1 := 268 + 5 * i) (by omega)
        have hw1 := rb_same_wh h8 a2 (rx_wh_fr fr (fun c i q => by unfold sc_ap at q; omega) hw)
        have hc1 := rb_same_cr (show z.2.1 ≤ 48 by omega) a2 (rx_cr_fr fr (fun c i q => by unfold sc_ap at q; omega) hc)
        have f6 : rb_fr (sc_ap i) σ s6 := fr.tr ⟨fun c q hq => by rw [a4.1 c (by unfold sc_ap at hq; omega)], a4.2⟩
        rw [a1, rb_b1_some]
        have mv : ∃ s8, xf_Pole_moveEndless (268 + 5 * (i + 1)) (nI l) s6 = some s8 ∧ rx_wh (268 + 5 * (i + 1)) n z1.1 ln s8 ∧ rx_cr (268 + 5 * (i + 1)) z1.2.1 z1.2.2 s8 ∧ ZW n ln z1 (i + 1) ∧ rb_fr (sc_ap i) σ s8 := by
          by_cases hL : l < 2 * n
          · obtain ⟨s8, b1, b2, b3, b4⟩ := sx_moveEndless hz.1 hw1 hc1 hL (Or.inl (by omega))
            rw [hz1 hL]
            exact ⟨s8, b1, b2, b3, ZW_m3 hz h3 hL (by omega), f6.tr (b4.mo (fun c q hq => by unfold sc_po at hq; unfold sc_ap; omega))⟩
          · rw [hz2 hL]
            exact ⟨s6, sx_moveNone (by omega) hw1.1 (by omega) (by omega), hw1, hc1, ⟨hz.1, by omega⟩, f6⟩
        obtain ⟨s8, b1, b2, b3, b4, b5⟩ := mv
        rw [b1, rb_b1_some]
        obtain ⟨s10, c1, c2⟩ := ih (i + 1) d pt z1 s8 (RFig_fr b5 (rb_fr.rf (ch := sc_19) (σ := τ)) (fun c i q => by unfold sc_ap at q; omega) (fun c i q => by unfold sc_19 at q; omega) F) b4 b2 b3 (by omega) (by omega) hpt
        rw [c1, rb_b2_some]
        exact ⟨s10, rfl, b5.tr (c2.mo (fun c q hq => by unfold sc_ap at hq ⊢; omega))⟩
    have ev : (lN part * (nI ch).toInt64) / 100 = lN (part * ch / 100) := by
      have hb : part * ch ≤ 1000000000 * 100 := Nat.mul_le_mul hp hch
      rw [nI_l (by omega), lN_mul, show (100 : Int64) = lN 100 from rfl, pk_lDiv (by omega) (by decide) (by decide)]
    have eo : sp_od n (ft j) v ch (r + 1) i z part = if ft j i < 2 * n then sp_od n (ft j) v ch r (i + 1) (sp_m3 n z (ft j i)) (part - part * ch / 100) + sp_od n (ft j) v ch r (i + 1) (sp_m3 n z (ft j i ^^^ 1)) (part * ch / 100) else sp_od n (ft j) v ch r (i + 1) z part := rfl
    show ∃ σ', (if (lg_cmp (lN part) 0) = 0 then some (0, σ) else if nI i < 0 then some (0, σ) else if nI i ≤ 8 then if nI i < (σ.1 (256 + 2 * j) 1) then rb_b1 (xf_Fig_letterAt (256 + 2 * j) (nI i) σ) fun r5 => if rb_ib (nI i) 9 then if (xf_Pole_hasPlace (268 + 5 * (nI i).toNatClampNeg) (r5 >>> (1 &&& 31)) σ) = 0 then rb_b2 (xf_RP_fewBy (d + 1) (nI i) r5 (lN part) (256 + 2 * j) (nI ch) (nI v) σ) fun r17 s15 => some (r17, s15) else rb_b2 (xf_RP_fewBy (d + 1) (nI i) r5 (lN part - ((lN part * (nI ch).toInt64) / 100)) (256 + 2 * j) (nI ch) (nI v) σ) fun r11 s9 => rb_b2 (xf_RP_fewBy (d + 1) (nI i) (r5 ^^^ 1) ((lN part * (nI ch).toInt64) / 100) (256 + 2 * j) (nI ch) (nI v) s9) fun r14 s12 => some (r11 + r14, s12) else none else _ else some (0, σ)) = _ ∧ _
    simp only [lN_z (show part < 2 ^ 31 by omega)]
    by_cases hp0 : part = 0
    · rw [if_pos hp0, hp0, sp_od_0 hch]
      exact ⟨σ, rfl, rb_fr.rf⟩
    · rw [if_neg hp0, if_neg (nI_pos (by omega)), if_pos (show nI i ≤ (8 : Int32) from nI_le (b := 8) (by omega) (by decide)), e2, if_pos (nI_lt (by omega) (by omega)), sx_letterAt F hj (by omega), rb_b1_some, rb_ib_nI (by omega) (by decide), if_pos rfl, nI_clamp (by omega), sx_hasl (by omega) hw.1 (by omega), ev, lN_sub hpc, eo]
      by_cases hL : ft j i < 2 * n
      · rw [if_pos hL, if_neg (show ¬ (1 : Int32) = 0 by decide), if_pos hL]
        obtain ⟨s9, a1, a2⟩ := by1 (ft j i) (part - part * ch / 100) (sp_m3 n z (ft j i)) σ (by omega) (by omega) (fun _ => rfl) (fun q => absurd hL q) rb_fr.rf
        have hx := sp_x1 n h8 _ hL
        obtain ⟨s12, b1, b2⟩ := by1 (ft j i ^^^ 1) (part * ch / 100) (sp_m3 n z (ft j i ^^^ 1)) s9 (by omega) (by omega) (fun _ => rfl) (fun q => absurd hx q) a2
        rw [a1, rb_b2_some, show nI (ft j i) ^^^ (1 : Int32) = nI (ft j i ^^^ 1) from rb_xr (ft j i) 1, b1, rb_b2_some]
        exact ⟨s12, by rw [lN_add], b2⟩
      · rw [if_neg hL, if_pos rfl, if_neg hL]
        obtain ⟨s9, a1, a2⟩ := by1 (ft j i) part z σ (by omega) hp (fun q => absurd q hL) (fun _ => rfl) rb_fr.rf
        rw [a1, rb_b2_some]
        exact ⟨s9, rfl, a2⟩
end RBOD
theorem rb_ops_odds : op_odds Rel := by
  intro σ τ R p q r
  obtain ⟨n, ru, tr, lc, ho, La, wh, ln, m, cr, co, be, lg, D⟩ := Rel_D R
  obtain ⟨⟨gw1, W, gx1, gm1, lx1, lm1⟩, ⟨⟨fc, fl, ft, F⟩, b⟩, A, P, px1, -, pm1, -⟩ := id D
  have h7 := gw1.1
  have hf6 := F.1
  unfold xf_RP_odds xf_M_odds
  rw [rb_hasG h7 gx1.1, sm_isF (fc := fc) h7 gm1.1, rb_ap0]
  by_cases h : n = 0
  · exact ⟨-1, σ, τ, by rw [if_pos h, if_pos rfl], by rw [if_pos h, if_pos rfl], R⟩
  · have h3 := gw1.2.2.2.2 (by omega)
    rw [if_neg h, if_neg (show ¬ (1 : Int32) = 0 by decide), if_neg h]
    rcases rb_isF F.1 F.2.1 F.2.2.1 p with ⟨j, hj, rfl, e1, e2⟩ | ⟨e1, e2⟩
    · obtain ⟨f1, f2, f3, f4⟩ := F.2.2.2 j hj
      rw [e1, e2, if_neg (show ¬ (1 : Int32) = 0 by decide), if_neg (show ¬ (1 : Int32) = 0 by decide), if_neg (show ¬ (1 : Int32) = 0 by decide), rb_ib_nI (by omega) (by decide), rb_ib_nI (by omega) (by decide), if_pos rfl, if_pos rfl, rb_lt_eq, nI_clamp (by omega), f2, f3]
      have no : ∀ x : Option (Int32 × rb_St), (8 < fl j → x = some (-1, τ)) → (8 < fl j) → (if (8 : Int32) < nI (fl j) then some (-1, τ) else x) = some (-1, τ) := by
        intro x _ h8
        rw [if_pos (show (8 : Int32) < nI (fl j) from nI_lt (a := 8) h8 (by omega))]
      rcases rb_inL 0 100 (by decide) (by decide) q τ with ⟨ch, _, hch, rfl, g1⟩ | ⟨hq, g1⟩
      · have g1' : xf_M_in (nI ch) 0 100 τ = 1 := g1
        rw [g1', if_neg (show ¬ (1 : Int32) = 0 by decide), if_neg (nI_pos (by omega)), if_neg (show ¬ (100 : Int32) < nI ch from nI_nlt (a := 100) hch (by decide))]
        rcases rb_inL 0 60 (by decide) (by decide) r τ with ⟨v, _, hv, rfl, g2⟩ | ⟨hr, g2⟩
        · have g2' : xf_M_in (nI v) 0 60 τ = 1 := g2
          rw [g2', if_neg (show ¬ (1 : Int32) = 0 by decide), if_neg (nI_pos (by omega)), if_pos (show nI v ≤ (60 : Int32) from nI_le (b := 60) hv (by decide))]
          by_cases h8 : fl j ≤ 8
          · obtain ⟨s, a1, a2, a3, a4⟩ := sx_standAs (σ := σ) (k0 := 268) (k1 := 18) (by omega)
            have fx : rb_fr (fun c _ => 268 ≤ c) σ s := ⟨fun c q hq => by rw [a4.1 c (by omega)], a4.2⟩
            have hz : ZW n ln (wh, m, cr) 0 := ⟨P.1, P.2.1⟩
            have Fs := RFig_fr fx (rb_fr.rf (ch := sc_19) (σ := τ)) (fun c i q => by omega) (fun c i q => by unfold sc_19 at q; omega) F
            obtain ⟨σ', b1, b2⟩ := sx_odds (n := n) (ln := ln) (ch := ch) (v := v) h3 hj h8 hch hv (fl j) 0 64 1000000000 (wh, m, cr) s Fs hz (rb_same_wh (by omega) a2 px1.1) (rb_same_cr P.1.2.2.1.2.1 a2 px1.2.1) (by omega) (by omega) (by omega)
            obtain ⟨τ', c1, c2⟩ := sm_odds (n := n) (ln := ln) (ch := ch) (v := v) (z0 := (wh, m, cr)) h3 hj hz h8 hch hv (fl j) 0 64 0 1000000000 τ F pm1.2.2.1 gm1.1 (by omega) (by omega) (by decide) (by omega)
            have b1' : xf_RP_fewFrom 64 0 1000000000 (256 + 2 * j) (nI ch) (nI v) s = some (lN (sp_od n (ft j) v ch (fl j) 0 (wh, m, cr) 1000000000), σ') := b1
            have c1' : xf_M_oddsFrom 64 (nI j) 0 0 (nI ch) (nI v) 1000000000 τ = some (nI (sp_od n (ft j) v ch (fl j) 0 (wh, m, cr) 1000000000), τ') := c1
            refine ⟨nI (sp_od n (ft j) v ch (fl j) 0 (wh, m, cr) 1000000000), σ', τ', ?_, ?_, Rel_fr ((fx.mo (fun c i q => Or.inr (Or.inr (Or.inl q)))).tr (b2.mo (fun c i q => Or.inr (Or.inr (Or.inl (by unfold sc_ap at q; omega)))))) (c2.mo scM_19) R⟩
            · rw [if_pos (show nI (fl j) ≤ (8 : Int32) from nI_le (b := 8) h8 (by decide)), a1, rb_b1_some, b1', rb_b2_some, lN_i]
            · rw [if_neg (show ¬ (8 : Int32) < nI (fl j) from nI_nlt (a := 8) h8 (by decide)), c1', rb_b2_some]
          · exact ⟨-1, σ, τ, by rw [if_neg (show ¬ nI (fl j) ≤ (8 : Int32) from nI_ge (a := 8) (by omega) (by omega))], by rw [if_pos (show (8 : Int32) < nI (fl j) from nI_lt (a := 8) (by omega) (by omega))], R⟩
        · have g2' : xf_M_in r 0 60 τ = 0 := g2
          refine ⟨-1, σ, τ, ?_, ?_, R⟩
          · rcases hr with hr | ⟨hr, hr2⟩
            · rw [if_pos (show r < 0 from hr)]
            · rw [if_neg (show ¬ r < 0 from hr), if_neg]
              intro w
              rw [Int32.lt_iff_toInt_lt] at hr2
              rw [Int32.le_iff_toInt_le] at w
              rw [nI_toInt (by decide)] at hr2
              have e9 : (60 : Int32).toInt = 60 := by decide
              omega
          · rw [g2', if_pos (show (0 : Int32) = 0 from rfl)]
            split <;> rfl
      · have g1' : xf_M_in q 0 100 τ = 0 := g1
        refine ⟨-1, σ, τ, ?_, ?_, R⟩
        · rcases hq with hq | ⟨hq, hq2⟩
          · rw [if_pos (show q < 0 from hq)]
          · rw [if_neg (show ¬ q < 0 from hq), if_pos (show (100 : Int32) < q from hq2)]
        · rw [g1', if_pos (show (0 : Int32) = 0 from rfl)]
          split <;> rfl
    · exact ⟨-1, σ, τ, by rw [e1, if_pos rfl], by rw [e2, if_pos (show (0 : Int32) = 0 from rfl), if_pos rfl], R⟩
