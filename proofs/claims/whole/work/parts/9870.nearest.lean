/-! NEAREST: both answer alike -/
section NEA
variable {n : Nat} {w : Nat → Nat}
theorem of_surj (I : af_inj n w) {b : Nat} (hb : b < n) : ∃ i, i < n ∧ w i = b := Classical.byContradiction fun hne => by
  have hne' : ∀ i, i < n → w i ≠ b := fun i hi e => hne ⟨i, hi, e⟩
  obtain ⟨i, j, h1, h2, h3⟩ := rb_php (n - 1) (fun i => if w i < b then w i else w i - 1) (fun i hi => by
    show (if w i < b then w i else w i - 1) < n - 1
    have := I.1 i (by omega)
    have := hne' i (by omega)
    by_cases c : w i < b
    · rw [if_pos c]; omega
    · rw [if_neg c]; omega)
  have h3' : (if w i < b then w i else w i - 1) = (if w j < b then w j else w j - 1) := h3
  have a := hne' i (by omega)
  have c := hne' j (by omega)
  have e : w i = w j := by
    by_cases c1 : w i < b
    · rw [if_pos c1] at h3'
      by_cases c2 : w j < b
      · rw [if_pos c2] at h3'; exact h3'
      · rw [if_neg c2] at h3'; omega
    · rw [if_neg c1] at h3'
      by_cases c2 : w j < b
      · rw [if_pos c2] at h3'; omega
      · rw [if_neg c2] at h3'; omega
  have := I.2 i j (by omega) (by omega) e
  omega
theorem of_inj (hl : ∀ i, i < n → w i < n) (hs : ∀ b, b < n → ∃ i, i < n ∧ w i = b) : af_inj n w := by
  refine ⟨hl, fun i j hi hj e => Classical.byContradiction fun hij => ?_⟩
  have ex : ∀ b : Nat, ∃ k : Nat, b < n → k < n ∧ w k = b ∧ k ≠ j := by
    intro b
    by_cases hb : b < n
    · obtain ⟨k, k1, k2⟩ := hs b hb
      by_cases c : k = j
      · exact ⟨i, fun _ => ⟨hi, by rw [e, ← c]; exact k2, hij⟩⟩
      · exact ⟨k, fun _ => ⟨k1, k2, c⟩⟩
    · exact ⟨0, fun h => absurd h hb⟩
  obtain ⟨v, hv⟩ := Classical.axiomOfChoice ex
  have hv1 : ∀ b, b < n → v b < n ∧ w (v b) = b ∧ v b ≠ j := hv
  obtain ⟨a, c, h1, h2, h3⟩ := rb_php (n - 1) (fun b => if v b < j then v b else v b - 1) (fun b hb => by
    show (if v b < j then v b else v b - 1) < n - 1
    have := hv1 b (by omega)
    by_cases c : v b < j
    · rw [if_pos c]; omega
    · rw [if_neg c]; omega)
  have h3' : (if v a < j then v a else v a - 1) = (if v c < j then v c else v c - 1) := h3
  have ka := hv1 a (by omega)
  have kc := hv1 c (by omega)
  have ee : v a = v c := by
    by_cases c1 : v a < j
    · rw [if_pos c1] at h3'
      by_cases c2 : v c < j
      · rw [if_pos c2] at h3'; exact h3'
      · rw [if_neg c2] at h3'; omega
    · rw [if_neg c1] at h3'
      by_cases c2 : v c < j
      · rw [if_pos c2] at h3'; omega
      · rw [if_neg c2] at h3'; omega
  have : a = c := by rw [← ka.2.1, ee]; exact kc.2.1
  omega
theorem of_ok_inj {P : Nat} : of_ok n P n 0 ↔ af_inj n (of_d P n) := ⟨fun h => ⟨fun i hi => (h.1 i hi).1, h.2⟩, fun h => ⟨fun i hi => ⟨h.1 i hi, Nat.zero_testBit _⟩, h.2⟩⟩
theorem of_nat {x : Int32} (h : ¬ x < 0) : ∃ P, P < 2 ^ 31 ∧ x = nI P := by
  rw [Int32.lt_iff_toInt_lt, show (0 : Int32).toInt = 0 from rfl] at h
  have h1 := Int32.toInt_lt x
  have h2 : x.toInt.toNat < 2 ^ 31 := by omega
  exact ⟨x.toInt.toNat, h2, Int32.toInt_inj.mp (by rw [nI_toInt h2]; omega)⟩
def of_W (c _i : Nat) : Prop := 236 ≤ c ∧ c ≤ 238
theorem sx_aim0 {who : Nat → Nat} {σ : rb_St} (h7 : n ≤ 7) (hk : σ.1 18 0 = nI n) (hw : ∀ p, p < n → σ.1 (18 + 1) p = nI (who p)) : ∃ s1 s3 : rb_St, s1 = rb_sI σ 236 0 (σ.1 18 0) ∧ s3 = rb_cp s1 (18 + 1) 237 0 0 8 ∧ rb_fr of_W σ s3 ∧ s3.1 236 0 = nI n ∧ ∀ i, i < n → s3.1 237 i = nI (who i) := by
  refine ⟨_, _, rfl, rfl, ?_, ?_, fun i hi => ?_⟩
  · exact (rb_fr.sI (ch := of_W) (by unfold of_W; omega)).tr (rb_fr.cp (fun i _ _ => by unfold of_W; omega))
  · rw [rb_cp_at, if_neg (by omega), rb_sI_eq]
    exact hk
  · rw [rb_cp_at, if_pos ⟨rfl, by omega, by omega⟩, rb_sIg _ _ _ _ _ _ (by omega), show 0 + (i - 0) = i by omega]
    exact hw i hi
theorem sx_aim {who : Nat → Nat} {σ : rb_St} (h7 : n ≤ 7) (hk : σ.1 18 0 = nI n) (hw : ∀ p, p < n → σ.1 (18 + 1) p = nI (who p)) {P : Nat} (hP : P < 2 ^ 31) : ∃ (r : Int32) (σ' : rb_St), xf_Way_aim (nI P) 18 σ = some (r, σ') ∧ rb_fr of_W σ σ' ∧ ((r = 0 ∧ ¬ (af_inj n (of_d P n) ∧ P / 10 ^ n = 0)) ∨ (r = 1 ∧ (af_inj n (of_d P n) ∧ P / 10 ^ n = 0) ∧ σ'.1 236 0 = nI n ∧ (∀ i, i < n → σ'.1 237 i = nI (who i)) ∧ ∀ i, i < n → σ'.1 238 (of_d P n i) = nI i)) := by
  obtain ⟨s1, s3, hs1, hs3, f3, n3, w3⟩ := sx_aim0 h7 hk hw
  obtain ⟨cd, y, σ', a1, a2, a3⟩ := sx_aim36 h7 n rb_FU P 0 s3 (Nat.le_refl _) (by unfold rb_FU; omega) hP (by decide) n3
  have a1' : xl_Way_aim_36 rb_FU (nI P) 0 (nI n - 1) s3 = some (cd, y, σ') := a1
  have f4 : rb_fr of_W σ σ' := f3.tr (a2.mo (fun c i h => by unfold of_W; omega))
  have e0 : xf_Way_aim (nI P) 18 σ = if cd = 0 then some (0, σ') else if y = 0 then some (1, σ') else some (0, σ') := by
    unfold xf_Way_aim
    rw [rb_lt_eq, ← hs1, rb_lt_eq, ← hs3, n3, a1', rb_b3_some]
  rcases a3 with ⟨b1, b2⟩ | ⟨b1, b2, b3, b4, b5⟩
  · exact ⟨0, σ', by rw [e0, if_pos b1], f4, Or.inl ⟨rfl, fun q => b2 (of_ok_inj.2 q.1)⟩⟩
  · have hd : P / 10 ^ n < 2 ^ 31 := Nat.lt_of_le_of_lt (Nat.div_le_self _ _) hP
    by_cases c : P / 10 ^ n = 0
    · refine ⟨1, σ', ?_, f4, Or.inr ⟨rfl, ⟨of_ok_inj.1 b2, c⟩, (a2.1 236 0 (by omega)).trans n3, fun i hi => (a2.1 237 i (by omega)).trans (w3 i hi), b4⟩⟩
      rw [e0, if_neg (by omega), if_pos (by rw [b3, c]; rfl)]
    · refine ⟨0, σ', ?_, f4, Or.inl ⟨rfl, fun q => c q.2⟩⟩
      rw [e0, if_neg (by omega), if_neg (by rw [b3]; exact nI_ne0 (Nat.pos_of_ne_zero c) hd)]
theorem sx_aimn {who : Nat → Nat} {σ : rb_St} (h7 : n ≤ 7) (hk : σ.1 18 0 = nI n) (hw : ∀ p, p < n → σ.1 (18 + 1) p = nI (who p)) {p0 : Int32} (hp : p0 < 0) : ∃ (σ' : rb_St), xf_Way_aim p0 18 σ = some (0, σ') ∧ rb_fr of_W σ σ' := by
  obtain ⟨s1, s3, hs1, hs3, f3, n3, w3⟩ := sx_aim0 h7 hk hw
  obtain ⟨cd, y, σ', a1, a2, a3⟩ := sx_aimN n rb_FU p0 0 s3 h7 (by unfold rb_FU; omega) hp n3 h7
  refine ⟨σ', ?_, f3.tr (a2.mo (fun c i h => by unfold of_W; omega))⟩
  have e0 : xf_Way_aim p0 18 σ = if cd = 0 then some (0, σ') else if y = 0 then some (1, σ') else some (0, σ') := by
    unfold xf_Way_aim
    rw [rb_lt_eq, ← hs1, rb_lt_eq, ← hs3, n3, a1, rb_b3_some]
  rcases a3 with b | ⟨b, c⟩
  · rw [e0, if_pos b]
  · rw [e0, if_neg (by omega), if_neg c]
theorem sm_isOrder {τ : rb_St} (h7 : n ≤ 7) (h22 : τ.1 0 22 = nI n) {P : Nat} (hP : P < 2 ^ 31) : ∃ (r : Int32) (τ' : rb_St), xf_M_isOrder (nI P) τ = some (r, τ') ∧ rb_fr (fun c _ => c = 27) τ τ' ∧ ((r = 0 ∧ ¬ (af_inj n (of_d P n) ∧ P / 10 ^ n = 0)) ∨ (r = 1 ∧ (af_inj n (of_d P n) ∧ P / 10 ^ n = 0) ∧ rm_dg n (of_d P n) τ')) := by
  obtain ⟨s, τ', a1, a2, a3, a4, a5, a6⟩ := sm_iso12 h7 (nI P) n rb_FU P 0 τ (Nat.le_refl _) (by unfold rb_FU; omega) hP (by decide)
  have a1' : xl_M_isOrder_12 (nI P) rb_FU (nI P) 0 (nI n - 1) τ = some (nI (P / 10 ^ n), nI s, τ') := a1
  have t22 : τ'.1 0 22 = nI n := (a6.1 0 22 (by omega)).trans h22
  have hd : P / 10 ^ n < 2 ^ 31 := Nat.lt_of_le_of_lt (Nat.div_le_self _ _) hP
  have p7 : 2 ^ n ≤ 2 ^ 7 := Nat.pow_le_pow_right (by omega) h7
  have p1 : 0 < 2 ^ n := Nat.pow_pos (by decide)
  have em : ((1 : Int32) <<< (nI n &&& 31)) - 1 = nI (2 ^ n - 1) := by
    rw [rb_1l (by omega)]
    obtain ⟨k, hk⟩ : ∃ k, 2 ^ n = k + 1 := ⟨2 ^ n - 1, by omega⟩
    rw [hk, nI_pred, Nat.add_sub_cancel]
  have e0 : xf_M_isOrder (nI P) τ = if nI (P / 10 ^ n) = 0 then if nI s = nI (2 ^ n - 1) then some (1, τ') else some (0, τ') else some (0, τ') := by
    unfold xf_M_isOrder
    rw [h22, a1', rb_b3_some, if_neg (nI_pos (by omega)), t22, em]
  have hb : ∀ b, s.testBit b = true ↔ ∃ i, i < n ∧ of_d P n i = b := fun b => by
    rw [a3, Nat.zero_testBit]
    exact ⟨fun q => q.elim (fun k => by cases k) id, Or.inr⟩
  have hfull : s = 2 ^ n - 1 ↔ af_inj n (of_d P n) := by
    constructor
    · intro e
      have h1 : ∀ b, (∃ i, i < n ∧ of_d P n i = b) ↔ b < n := fun b => by
        rw [← hb, e, Nat.testBit_two_pow_sub_one, decide_eq_true_iff]
      exact of_inj (fun i hi => (h1 _).1 ⟨i, hi, rfl⟩) (fun b hb => (h1 b).2 hb)
    · intro I
      apply Nat.eq_of_testBit_eq
      intro b
      rw [Nat.testBit_two_pow_sub_one]
      by_cases c : b < n
      · rw [decide_eq_true c]
        exact (hb b).2 (of_surj I c)
      · rw [decide_eq_false c]
        cases q : s.testBit b
        · rfl
        · obtain ⟨i, hi, e⟩ := (hb b).1 q
          have := I.1 i hi
          omega
  by_cases c : P / 10 ^ n = 0
  · by_cases c2 : s = 2 ^ n - 1
    · refine ⟨1, τ', ?_, a6, Or.inr ⟨rfl, ⟨hfull.1 c2, c⟩, t22, fun i hi => ⟨(hfull.1 c2).1 i hi, a4 i hi⟩⟩⟩
      rw [e0, if_pos (by rw [c]; rfl), if_pos (by rw [c2])]
    · refine ⟨0, τ', ?_, a6, Or.inl ⟨rfl, fun q => c2 (hfull.2 q.1)⟩⟩
      rw [e0, if_pos (by rw [c]; rfl), if_neg (fun q => c2 ((nI_eq (by omega) (by omega)).1 q))]
  · refine ⟨0, τ', ?_, a6, Or.inl ⟨rfl, fun q => c q.2⟩⟩
    rw [e0, if_neg (nI_ne0 (Nat.pos_of_ne_zero c) hd)]
theorem sm_isOrderA {τ : rb_St} (h7 : n ≤ 7) (h22 : τ.1 0 22 = nI n) (p0 : Int32) : ∃ (r : Int32) (τ' : rb_St), xf_M_isOrder p0 τ = some (r, τ') ∧ rb_fr (fun c _ => c = 27) τ τ' ∧ (p0 < 0 → r = 0) := by
  obtain ⟨y, z, τ', a1, a2⟩ := sm_isoA p0 n rb_FU p0 0 τ h7 (by unfold rb_FU; omega)
  unfold xf_M_isOrder
  rw [h22, a1, rb_b3_some]
  by_cases c : p0 < 0
  · exact ⟨0, τ', by rw [if_pos c], a2, fun _ => rfl⟩
  · by_cases c2 : y = 0
    · by_cases c3 : z = ((1 <<< ((τ'.1 0 22) &&& 31)) - 1)
      · exact ⟨1, τ', by rw [if_neg c, if_pos c2, if_pos c3], a2, fun q => absurd q c⟩
      · exact ⟨0, τ', by rw [if_neg c, if_pos c2, if_neg c3], a2, fun q => absurd q c⟩
    · exact ⟨0, τ', by rw [if_neg c, if_neg c2], a2, fun q => absurd q c⟩
theorem of_goal (I : af_inj n w) : ∃ goal : Nat → Nat, af_gw n goal ∧ (∀ i, i < n → goal (w i) = i) ∧ ∀ d, d < n → goal d < n ∧ w (goal d) = d := by
  have ex : ∀ d : Nat, ∃ k : Nat, d < n → k < n ∧ w k = d := by
    intro d
    by_cases hd : d < n
    · obtain ⟨k, k1, k2⟩ := of_surj I hd
      exact ⟨k, fun _ => ⟨k1, k2⟩⟩
    · exact ⟨0, fun h => absurd h hd⟩
  obtain ⟨goal, hg⟩ := Classical.axiomOfChoice ex
  have hg1 : ∀ d, d < n → goal d < n ∧ w (goal d) = d := hg
  refine ⟨goal, ⟨fun i hi => (hg1 i hi).1, fun i j hi hj e => ?_⟩, fun i hi => ?_, hg1⟩
  · rw [← (hg1 i hi).2, e]
    exact (hg1 j hj).2
  · have k := hg1 (w i) (I.1 i hi)
    exact I.2 _ _ k.1 hi k.2
end NEA
theorem of_scX (c i : Nat) (h : of_W c i ∨ c = 237 ∨ c = 239) : scX c i := by unfold of_W at h; unfold scX; omega
theorem of_scM (c i : Nat) (h : c = 25 ∨ c = 26 ∨ c = 27) : scM c i := by unfold scM; omega
theorem rb_ops_nearest : op_nearest Rel := by
  intro σ τ R p0 p1
  obtain ⟨n, ru, tr, lc, ho, La, ⟨gw1, -, gx1, gm1, -, -⟩, b, ⟨⟨wh, ln, m, cr, co, be, lg, w, px1, -, pm1, -⟩, -⟩⟩ := id R
  have h7 := gw1.1
  unfold xf_RP_nearest xf_M_nearest
  rw [rb_hasG h7 gx1.1, gm1.1]
  by_cases h : n = 0
  · exact ⟨-1, σ, τ, by rw [if_pos h, if_pos rfl], by rw [if_pos (by rw [h]; rfl)], R⟩
  have h3 := gw1.2.2.2.2 (by omega)
  have Iw : af_inj n wh := ⟨w.1.1.2.1, w.1.1.2.2.2⟩
  rw [if_neg h, if_neg (show ¬ (1 : Int32) = 0 by decide), if_neg (nI_ne0 (show 0 < n by omega) (by omega))]
  have hin : (p1 < 0 ∨ (¬ p1 < 0 ∧ 1 < p1)) ∨ p1 = 0 ∨ p1 = 1 := by
    rcases rb_inL 0 1 (by decide) (by decide) p1 τ with ⟨j, _, h2, e, _⟩ | ⟨h2, _⟩
    · have : j = 0 ∨ j = 1 := by omega
      rcases this with rfl | rfl
      · exact Or.inr (Or.inl e)
      · exact Or.inr (Or.inr e)
    · exact Or.inl h2
  rcases hin with hout | hin
  · obtain ⟨r, τ', a1, a2, -⟩ := sm_isOrderA h7 gm1.1 p0
    have hi0 : ∀ s : rb_St, xf_M_in p1 0 1 s = 0 := fun s => by
      rcases rb_inL 0 1 (by decide) (by decide) p1 s with ⟨j, _, h2, e, _⟩ | ⟨_, h2⟩
      · exfalso
        have : j = 0 ∨ j = 1 := by omega
        rcases this with rfl | rfl
        · rw [e] at hout; exact absurd hout (by decide)
        · rw [e] at hout; exact absurd hout (by decide)
      · exact h2
    refine ⟨-1, σ, τ', ?_, ?_, Rel_fr rb_fr.rf (a2.mo (fun c i q => of_scM c i (Or.inr (Or.inr q)))) R⟩
    · rcases hout with c | ⟨c1, c2⟩
      · rw [if_pos c]
      · rw [if_neg c1, if_pos c2]
    · rw [a1, rb_b2_some]
      by_cases c : r = 0
      · rw [if_pos c]
      · rw [if_neg c, hi0, if_pos rfl]
  · have hp1 : ¬ p1 < 0 ∧ ¬ 1 < p1 := by rcases hin with e | e <;> (rw [e]; decide)
    have hi1 : ∀ s : rb_St, xf_M_in p1 0 1 s = 1 := fun s => by
      rcases rb_inL 0 1 (by decide) (by decide) p1 s with ⟨j, _, h2, e, k⟩ | ⟨k, h2⟩
      · exact k
      · exfalso
        rcases k with k | ⟨k1, k2⟩
        · exact hp1.1 k
        · exact hp1.2 k2
    rw [if_neg hp1.1, if_neg hp1.2]
    by_cases hn : p0 < 0
    · obtain ⟨r, τ', a1, a2, a3⟩ := sm_isOrderA h7 gm1.1 p0
      obtain ⟨σ', b1, b2⟩ := sx_aimn h7 px1.1.1 px1.1.2.1 hn
      refine ⟨-1, σ', τ', ?_, ?_, Rel_fr (b2.mo (fun c i q => of_scX c i (Or.inl q))) (a2.mo (fun c i q => of_scM c i (Or.inr (Or.inr q)))) R⟩
      · rw [b1, rb_b2_some, if_pos rfl]
      · rw [a1, rb_b2_some, if_pos (a3 hn)]
    · obtain ⟨P, hP, rfl⟩ := of_nat hn
      obtain ⟨r, τ', a1, a2, a3⟩ := sm_isOrder h7 gm1.1 hP
      obtain ⟨r', σ', b1, b2, b3⟩ := sx_aim h7 px1.1.1 px1.1.2.1 hP
      have fm : rb_fr scM τ τ' := a2.mo (fun c i q => of_scM c i (Or.inr (Or.inr q)))
      have fx : rb_fr scX σ σ' := b2.mo (fun c i q => of_scX c i (Or.inl q))
      rcases b3 with ⟨e1, e2⟩ | ⟨e1, e2, e3, e4, e5⟩
      · rcases a3 with ⟨d1, d2⟩ | ⟨d1, d2, d3⟩
        · refine ⟨-1, σ', τ', ?_, ?_, Rel_fr fx fm R⟩
          · rw [b1, rb_b2_some, if_pos e1]
          · rw [a1, rb_b2_some, if_pos d1]
        · exact absurd d2 e2
      · rcases a3 with ⟨d1, d2⟩ | ⟨d1, d2, d3⟩
        · exact absurd e2 d2
        · obtain ⟨goal, Gg, g1, g2⟩ := of_goal e2.1
          have V : VX n wh goal σ' := ⟨e3, fun i hi => ⟨Iw.1 i hi, e4 i hi⟩, fun d hd => ⟨(g2 d hd).1, by
            have := e5 _ (g2 d hd).1
            rw [(g2 d hd).2] at this
            exact this⟩⟩
          have G : af_gw n (fun i => goal (wh i)) := ⟨fun i hi => Gg.1 _ (Iw.1 i hi), fun i j hi hj e => Iw.2 i j hi hj (Gg.2 _ _ (Iw.1 i hi) (Iw.1 j hj) e)⟩
          obtain ⟨Df, s7, f1, f2, f3, f4⟩ := sm_layFar h3 h7 d3 e2.1 Gg g1
          have t22 : τ'.1 0 22 = nI n := d3.1
          have s22 : s7.1 0 22 = nI n := (f3.1 0 22 (by omega)).trans t22
          have s17 : ∀ i, i < n → s7.1 17 i = nI (wh i) := fun i hi => (f3.1 17 i (by omega)).trans ((a2.1 17 i (by omega)).trans (pm1.1 i hi))
          obtain ⟨s9, k1, k2⟩ := sm_far0 h7 Iw s22 s17 f2
          have r22 : s9.1 0 22 = nI n := (k2.1 0 22 (by omega)).trans s22
          have r17 : ∀ i, i < n → s9.1 17 i = nI (wh i) := fun i hi => (k2.1 17 i (by omega)).trans (s17 i hi)
          have F9 : rm_far n Df s9 := fun o ho => ⟨(f2 o ho).1, (k2.1 25 _ (by omega)).trans (f2 o ho).2⟩
          have I' : ∀ p, p < n → af_inj n (sp_sw n wh p) := fun p hp => bf_sw_inj h3 hp Iw
          have hN := (f2 wh Iw).1
          obtain ⟨z, s18, j1, j2, j3⟩ := sm_near47 h3 h7 Iw I' hN p1 n rb_FU (-1) s9 (Nat.le_refl _) (by unfold rb_FU; omega) r22 r17 F9 (Or.inl ⟨rfl, fun p hp1 hp2 => by omega⟩)
          have fm2 : rb_fr scM τ s18 := fm.tr ((f3.mo of_scM).tr ((k2.tr j2).mo (fun c i q => of_scM c i (Or.inr (Or.inr q)))))
          have eM : (if r = 0 then some ((-1 : Int32), τ') else if (xf_M_in p1 0 1 τ') = 0 then some ((-1), τ') else rb_b1 (xf_M_layFar τ') fun s7 => rb_b2 (xf_M_farNow (-1) s7) fun r11 s9 => rb_b2 (xl_M_nearest_47 p1 r11 rb_FU (-1) ((s9.1 0 22) - 1) s9) fun y17 s18 => if p1 = 0 then some (r11, s18) else some (y17, s18)) = if p1 = 0 then some (nI (Df wh), s18) else some (z, s18) := by
            rw [if_neg (by rw [d1]; decide), hi1, if_neg (by decide), f1, rb_b1_some, k1, rb_b2_some, r22, j1, rb_b2_some]
          have hDw := f4 wh Iw
          rcases hin with e | e
          · obtain ⟨N, σ2, x1, x2, x3, x4, x5⟩ := sx_fewest h3 h7 V G
            have eN : N = Df wh := by
              rcases Nat.lt_trichotomy N (Df wh) with c | c | c
              · exact absurd x3 (hDw.2 N c)
              · exact c
              · exact absurd hDw.1 (x4 _ c)
            refine ⟨nI N, σ2, s18, ?_, ?_, Rel_fr (fx.tr (x5.mo (fun c i q => of_scX c i (Or.inr (Or.inr q))))) fm2 R⟩
            · rw [b1, rb_b2_some, if_neg (by rw [e1]; decide), if_pos e, x1, rb_b2_some]
            · rw [a1, rb_b2_some, eM, if_pos e, eN]
          · obtain ⟨N, y, σ2, x1, x2, x3, x4, x5⟩ := sx_firstPlace h3 h7 V G
            have eN : N = Df wh := by
              rcases Nat.lt_trichotomy N (Df wh) with c | c | c
              · exact absurd x3 (hDw.2 N c)
              · exact c
              · exact absurd hDw.1 (x4 _ c)
            have nr : ∀ p, p < n → (af_nr n N (fun i => goal (wh i)) p ↔ Df (sp_sw n wh p) + 1 = Df wh) := fun p hp => by
              have ee := af_gs_sw (goal := goal) (who := wh) h3 hp
              have hs := f4 (sp_sw n wh p) (I' p hp)
              rw [ee] at hs
              have hle : Df wh ≤ Df (sp_sw n wh p) + 1 := by
                rcases Nat.lt_or_ge (Df (sp_sw n wh p) + 1) (Df wh) with c | c
                · exact absurd ⟨p, hp, hs.1⟩ (hDw.2 _ c)
                · exact c
              constructor
              · intro ⟨M, m1, m2⟩
                have : Df (sp_sw n wh p) ≤ M := by
                  rcases Nat.lt_or_ge M (Df (sp_sw n wh p)) with c | c
                  · exact absurd m2 (hs.2 M c)
                  · exact c
                omega
              · intro q
                exact ⟨Df (sp_sw n wh p), by omega, hs.1⟩
            have eyz : y = z := by
              rcases x5 with ⟨q, q1, q2, q3, q4⟩ | ⟨q1, q2⟩
              · rcases j3 with ⟨u1, u2⟩ | ⟨v, v1, v2, v3, v4⟩
                · exact absurd ((nr q q1).1 q3) (u2 q q1)
                · have : q = v := by
                    rcases Nat.lt_trichotomy q v with c | c | c
                    · exact absurd ((nr q q1).1 q3) (v4 q c)
                    · exact c
                    · exact absurd ((nr v v1).2 v3) (q4 v c)
                  rw [q2, v2, this]
              · rcases j3 with ⟨u1, u2⟩ | ⟨v, v1, v2, v3, v4⟩
                · rw [q1, u1]
                · exact absurd ((nr v v1).2 v3) (q2 v v1)
            have e0 : ¬ p1 = 0 := by rw [e]; decide
            refine ⟨y, σ2, s18, ?_, ?_, Rel_fr (fx.tr (x2.mo (fun c i q => of_scX c i (Or.inr q)))) fm2 R⟩
            · rw [b1, rb_b2_some, if_neg (by rw [e1]; decide), if_neg e0, x1, rb_b2_some]
            · rw [a1, rb_b2_some, eM, if_neg e0, eyz]
