/-! ROWS OF A FIGURE: both readers -/
def sOut (m : Nat) (t : Nat → Nat) (j K a L : Nat) (r : Int32) (σ' τ' : rb_St) : Prop := (r = 1 ∧ ∃ e L', a < e ∧ e ≤ m ∧ TX 12 m t e σ' ∧ TM m t e τ' ∧ τ'.1 0 4 = -1 ∧ FD j L' σ' τ' ∧ L ≤ L' ∧ L' ≤ L + K * (e - a)) ∨ (r = 0 ∧ ∃ e, e ≤ m ∧ σ'.1 12 1 = nI e ∧ τ'.1 0 4 = nI e)
def fOut (m : Nat) (t : Nat → Nat) (j K a L : Nat) (r : Int32) (σ' τ' : rb_St) : Prop := (r = 1 ∧ ∃ e L', a < e ∧ e ≤ m ∧ sp_sk t m e = e ∧ TX 12 m t e σ' ∧ TM m t e τ' ∧ τ'.1 0 4 = -1 ∧ FD j L' σ' τ' ∧ L ≤ L' ∧ L' ≤ L + K * (e - a)) ∨ (r = 0 ∧ ∃ e, e ≤ m ∧ σ'.1 12 1 = nI e ∧ τ'.1 0 4 = nI e)
def RowOK (m : Nat) (t : Nat → Nat) (j p dX dM : Nat) : Prop := ∀ (a L : Nat) (σ τ : rb_St), a ≤ m → TX 12 m t a σ → TM m t a τ → τ.1 0 4 = -1 → FD j L σ τ → L + 9 ^ (3 - p) * (m - a) < 1000000 → ∃ r σ' τ', xf_FR_readRow dX (nI p) σ = some (r, σ') ∧ xf_M_readRow dM (nI j) (nI p) τ = some τ' ∧ rb_fr scFX σ σ' ∧ rb_fr (scFM j) τ τ' ∧ fOut m t j (9 ^ (3 - p)) a L r σ' τ'
theorem scA_F (c i : Nat) (h : scA 12 c i) : scFX c i := Or.inl h
theorem scB_F {j : Nat} (c i : Nat) (h : scB c i) : scFM j c i := Or.inl ⟨h.1, Or.inl h.2⟩
theorem scP_F {j : Nat} (c i : Nat) (h : scFP j c i) : scFM j c i := by
  rcases h with h | h
  · exact Or.inl ⟨h.1, Or.inr (Or.inr h.2)⟩
  · exact Or.inr h
theorem sc4_F {j : Nat} (c i : Nat) (h : c = 0 ∧ i = 4) : scFM j c i := Or.inl ⟨h.1, Or.inr (Or.inl h.2)⟩
section RBFR
variable {m j p : Nat} {t : Nat → Nat}
theorem sm_90 (G : xg_MF) (W : tw m t) {e : Nat} {τ : rb_St} (he : e ≤ m) (rc : Int32 → rb_St → Option rb_St) (x1 x2 : Int32) (hT : TM m t e τ) (hw : τ.1 0 4 = -1) : ∃ τ', rb_fr scB τ τ' ∧ ((sp_sg t m (sp_sk t m e) = 59 ∧ xj_M_readRow_90 G rc x1 x2 τ = rc 1 τ' ∧ TM m t (sp_sk t m e + 1) τ') ∨ (sp_sg t m (sp_sk t m e) ≠ 59 ∧ xj_M_readRow_90 G rc x1 x2 τ = rc 0 τ' ∧ TM m t (sp_sk t m e) τ')) := by
  obtain ⟨u, l1, l2, l3⟩ := sm_look W he hT
  unfold xj_M_readRow_90 xj_M_readRow_112
  rw [if_pos hw, l1, rb_b2_some, l2.2.2]
  by_cases h : sp_sg t m (sp_sk t m e) = 59
  · refine ⟨rb_sI u 0 3 (nI (sp_sk t m e + 1)), l3.sI' (k := 0) (j := 3) ⟨rfl, rfl⟩, Or.inl ⟨h, ?_, TM_at l2⟩⟩
    rw [if_pos h, if_neg (show ¬ (1 : Int32) = 0 by decide), rb_lt_eq, nI_1]
  · refine ⟨rb_sI u 0 3 (nI (sp_sk t m e)), l3.sI' (k := 0) (j := 3) ⟨rfl, rfl⟩, Or.inr ⟨h, ?_, TM_at l2⟩⟩
    rw [if_neg h, if_pos rfl, rb_lt_eq, Int32.add_zero]
theorem sm_90b (G : xg_MF) {e : Nat} {τ : rb_St} (hp : e < 2 ^ 31) (rc : Int32 → rb_St → Option rb_St) (x1 x2 : Int32) (hw : τ.1 0 4 = nI e) : ∃ τ', rb_fr scB τ τ' ∧ xj_M_readRow_90 G rc x1 x2 τ = rc 0 τ' := by
  refine ⟨rb_sI τ 0 3 (τ.1 0 3 + 0), rb_fr.sI ⟨rfl, rfl⟩, ?_⟩
  unfold xj_M_readRow_90 xj_M_readRow_112
  rw [hw, if_neg (rb_neg1 hp), if_pos rfl, rb_lt_eq]
theorem sm_117b (G : xg_MF) {e : Nat} {τ : rb_St} (hp : e < 2 ^ 31) (x1 x3 x5 : Int32) (hw : τ.1 0 4 = nI e) : xl_M_readAgain_117 G x1 x3 x5 rb_FU 0 τ = some τ := by
  obtain ⟨F, hF⟩ : ∃ G, rb_FU = G + 1 := ⟨99999, rfl⟩
  rw [hF]
  show (if ((x3 - 1) * x5) ≤ 0 then some τ else if (τ.1 0 4) = (-1) then _ else some τ) = _
  rw [hw, if_neg (rb_neg1 hp), ite_self]
/-- a crossing of a figure -/
theorem rb_fcross (W : tw m t) (hj : j ≤ 6) {K a L q u : Nat} {σ τ : rb_St} (hu : u ≤ 1) (hK : 1 ≤ K) (hq : q < m) (haq : a ≤ q) (hX : TX 12 m t (q + 1) σ) (hT : TM m t (q + 1) τ) (hw : τ.1 0 4 = -1) (hD : FD j L σ τ) (hL : L < 1000000) : ∃ r σ' τ', xf_FR_readPlace (nI (1 - u)) σ = some (r, σ') ∧ (rb_b2 (xf_M_look τ) fun r8 s6 => if (xf_M_isDigit r8 s6) = 0 then rb_b1 (xf_M_bad s6) fun s10 => some s10 else rb_b1 (xf_M_here s6) fun r12 => rb_b1 (xf_M_putStep (nI j) ((2 * (r12 - 48)) + nI u) s6) fun s14 => rb_lt (rb_sI s14 0 3 ((s14.1 0 3) + 1)) (fun s16 => some s16)) = some τ' ∧ rb_fr scFX σ σ' ∧ rb_fr (scFM j) τ τ' ∧ sOut m t j K a L r σ' τ' := by
  have hm := W.1
  obtain ⟨s1, b1, b2, b3⟩ := sx_nextF W (show q + 1 ≤ m by omega) hX
  obtain ⟨u1, c1, c2, c3⟩ := sm_look W (show q + 1 ≤ m by omega) hT
  obtain ⟨hp1, hp2⟩ := sp_sk_le (t := t) (show q + 1 ≤ m by omega)
  obtain ⟨z, hz⟩ : ∃ z, z = sp_sk t m (q + 1) := ⟨_, rfl⟩
  rw [← hz] at b1 b2 c1 c2 hp1 hp2
  have w1 : u1.1 0 4 = -1 := by rw [c3.1 0 4 (by unfold scB; omega)]; exact hw
  unfold xf_FR_readPlace
  rw [b1, c1, rb_b2_some, rb_b2_some, rb_dgX W, rb_dgM W]
  by_cases h : sp_dg t m z = true
  · obtain ⟨d, d1, d2, d3, d4⟩ := sp_sg_dg h
    have e1 : nI (48 + d) - (48 : Int32) = nI d := by rw [show (48 : Int32) = nI 48 from rfl, pk_sub (by omega)]; congr 1; omega
    have e2 : (2 : Int32) * nI d + nI u = nI (2 * d + u) := by rw [show (2 : Int32) = nI 2 from rfl, pk_mul, nI_add]
    have hD1 : FD j L (rb_sI s1 12 1 (nI (z + 1))) u1 := FD_fr ((b3.mo (fun c i q => q.1)).sI' (ch := fun c _ => c = 12) (k := 12) rfl) c3 (fun c i w => by omega) (fun c i w => by unfold scB at w; omega) hD
    obtain ⟨s7, u14, p1, p2, p3, p4, p5⟩ := rb_put hj hL (show 2 * d + u ≤ 20 by omega) hD1
    have el : xf_RP_letterOf (nI d) (nI (1 - u)) (rb_sI s1 12 1 (nI (z + 1))) = nI (2 * d + u) := by
      unfold xf_RP_letterOf
      have : u = 0 ∨ u = 1 := by omega
      rcases this with rfl | rfl
      · rw [if_neg (by decide), show (2 : Int32) = nI 2 from rfl, pk_mul]; rfl
      · rw [if_pos (by decide), show (2 : Int32) = nI 2 from rfl, pk_mul, nI_1]
    have h14 : u14.1 0 3 = nI z := by rw [p5.1 0 3 (by unfold scFP; omega)]; exact c2.2.2
    have X1 : rb_bI true = 1 := rfl
    rw [h, X1, if_neg (show ¬ (1 : Int32) = 0 by decide), if_neg (show ¬ (1 : Int32) = 0 by decide), sm_here W hp2 c2, rb_b1_some, d3, e1, e2, b2.2.2, nI_1, rb_lt_eq, el, p1, rb_b1_some, p2, rb_b1_some, h14, nI_1, rb_lt_eq]
    have f14 : rb_fr (fun c i => c = 0 ∧ i = 3) u14 (rb_sI u14 0 3 (nI (z + 1))) := rb_fr.sI ⟨rfl, rfl⟩
    refine ⟨1, s7, _, rfl, rfl, ?_, ?_, Or.inl ⟨rfl, z + 1, L + 1, by omega, by omega, ?_, TM_at (a := z) ?_, ?_, ?_, by omega, ?_⟩⟩
    · exact (rb_fr.sI' (k := 12) (j := 1) (b3.mo scA_F) (Or.inl ⟨rfl, rfl⟩)).tr (p4.mo (fun c i q => Or.inr q))
    · exact (((c3.mo scB_F).tr (p5.mo scP_F)).tr (f14.mo (fun c i q => scB_F c i q)))
    · exact TX_fr p4 (fun c i q => by omega) (TX_at (by decide) b2)
    · exact TM_fr p5 (fun c i q => by unfold scFP at q; omega) c2
    · rw [rb_sIg _ _ _ _ _ _ (by omega), p5.1 0 4 (by unfold scFP; omega)]; exact w1
    · exact FD_fr (rb_fr.rf (ch := fun _ _ => False)) f14 (fun c i w => w.elim) (fun c i w => by omega) p3
    · have : 1 ≤ K * (z + 1 - a) := Nat.mul_pos hK (by omega)
      omega
  · have hf : sp_dg t m z = false := by
      cases hx : sp_dg t m z
      · rfl
      · exact absurd hx h
    obtain ⟨u2, g1, g2, g3⟩ := sm_bad w1 c2.2.2
    have X0 : rb_bI false = 0 := rfl
    rw [hf, X0, if_pos rfl, if_pos rfl, g1, rb_b1_some]
    exact ⟨0, s1, u2, rfl, rfl, b3.mo scA_F, (c3.mo scB_F).tr (g3.mo sc4_F), Or.inr ⟨rfl, z, hp2, b2.2.2, g2⟩⟩
/-- one step of a figure -/
theorem rb_fstep (W : tw m t) (hj : j ≤ 6) (hp : p ≤ 3) {dX dM : Nat} (HR : p < 3 → RowOK m t j (p + 1) dX dM) {a L : Nat} {σ τ : rb_St} (ha : a ≤ m) (hX : TX 12 m t a σ) (hT : TM m t a τ) (hw : τ.1 0 4 = -1) (hD : FD j L σ τ) (hB : L + 9 ^ (3 - p) * (m - a) < 1000000) : ∃ r σ' τ', xf_FR_readStep (dX + 2) (nI p) σ = some (r, σ') ∧ (∀ f, xl_M_readRow_2 (xG_MF (dM + 1)) (nI j) (nI p) (f + 1) 1 τ = xj_M_readRow_90 (xG_MF (dM + 1)) (fun b3 τ => xl_M_readRow_2 (xG_MF (dM + 1)) (nI j) (nI p) f b3 τ) (nI j) (nI p) τ') ∧ rb_fr scFX σ σ' ∧ rb_fr (scFM j) τ τ' ∧ sOut m t j (9 ^ (3 - p)) a L r σ' τ' := by
  have hm := W.1
  have hK : 1 ≤ 9 ^ (3 - p) := Nat.pow_pos (by decide)
  obtain ⟨K, hKd⟩ : ∃ K, K = 9 ^ (3 - p) := ⟨_, rfl⟩
  rw [← hKd] at hK hB ⊢
  obtain ⟨s1, b1, b2, b3⟩ := sx_nextF W ha hX
  obtain ⟨u1, c1, c2, c3⟩ := sm_look W ha hT
  obtain ⟨hp1, hp2⟩ := sp_sk_le (t := t) ha
  obtain ⟨q, hq⟩ : ∃ q, q = sp_sk t m a := ⟨_, rfl⟩
  rw [← hq] at b1 b2 c1 c2 hp1 hp2
  have w1 : u1.1 0 4 = -1 := by rw [c3.1 0 4 (by unfold scB; omega)]; exact hw
  have hD1 : FD j L s1 u1 := FD_fr b3 c3 (fun c i w => by unfold scA at w; omega) (fun c i w => by unfold scB at w; omega) hD
  have SX : xf_FR_readStep (dX + 2) (nI p) σ = (if sp_sg t m q = 119 then rb_lt (rb_sI s1 12 1 ((s1.1 12 1) + 1)) (fun s26 => rb_b1 (xf_Fig_add 20 s26) fun s28 => some (1, s28)) else if sp_sg t m q = 111 then xj_FR_readStep_44 (xG_FR (dX + 1)) (sp_sg t m q) s1 else if sp_sg t m q = 117 then xj_FR_readStep_44 (xG_FR (dX + 1)) (sp_sg t m q) s1 else if sp_sg t m q < 50 then some (0, s1) else if 57 < sp_sg t m q then some (0, s1) else rb_lt (rb_sI s1 12 1 ((s1.1 12 1) + 1)) (fun s20 => rb_b2 (xb_FR_readRepeated (xG_FR dX) (sp_sg t m q - 48) (nI p) s20) fun r24 s22 => if rb_bz r24 then some (r24, s22) else none)) := by
    show xb_FR_readStep (xG_FR (dX + 1)) (nI p) σ = _
    unfold xb_FR_readStep
    rw [b1, rb_b2_some]
    rfl
  have SM : ∀ f, xl_M_readRow_2 (xG_MF (dM + 1)) (nI j) (nI p) (f + 1) 1 τ = if sp_sg t m q = 111 then rb_b1 (xf_M_readCross (nI j) u1) fun s7 => xj_M_readRow_90 (xG_MF (dM + 1)) (fun b3 τ => xl_M_readRow_2 (xG_MF (dM + 1)) (nI j) (nI p) f b3 τ) (nI j) (nI p) s7 else if sp_sg t m q = 117 then rb_b1 (xf_M_readCross (nI j) u1) fun s30 => xj_M_readRow_90 (xG_MF (dM + 1)) (fun b3 τ => xl_M_readRow_2 (xG_MF (dM + 1)) (nI j) (nI p) f b3 τ) (nI j) (nI p) s30 else if sp_sg t m q = 119 then rb_lt (rb_sI u1 0 3 ((u1.1 0 3) + 1)) (fun s26 => rb_b1 (xf_M_putStep (nI j) 20 s26) fun s28 => xj_M_readRow_90 (xG_MF (dM + 1)) (fun b3 τ => xl_M_readRow_2 (xG_MF (dM + 1)) (nI j) (nI p) f b3 τ) (nI j) (nI p) s28) else if (xf_M_isDigit (sp_sg t m q) u1) = 0 then rb_b1 (xf_M_bad u1) fun s22 => xj_M_readRow_90 (xG_MF (dM + 1)) (fun b3 τ => xl_M_readRow_2 (xG_MF (dM + 1)) (nI j) (nI p) f b3 τ) (nI j) (nI p) s22 else rb_b1 (xb_M_readAgain (xG_MF dM) (nI j) (nI p) u1) fun s24 => xj_M_readRow_90 (xG_MF (dM + 1)) (fun b3 τ => xl_M_readRow_2 (xG_MF (dM + 1)) (nI j) (nI p) f b3 τ) (nI j) (nI p) s24 := by
    intro f
    show (if (1 : Int32) = 0 then some τ else if (τ.1 0 4) = (-1) then rb_b2 (xf_M_look τ) _ else some τ) = _
    rw [if_neg (by decide), if_pos hw, c1, rb_b2_some]
    rfl
  have hpm : sp_sg t m q ≠ -1 → q < m := fun h => by
    by_cases h2 : q < m
    · exact h2
    · exact absurd (by unfold sp_sg; rw [if_neg h2]) h
  have fs1 : rb_fr scFX σ s1 := b3.mo scA_F
  have fu1 : rb_fr (scFM j) τ u1 := c3.mo scB_F
  have xa : TX 12 m t (q + 1) (rb_sI s1 12 1 (nI (q + 1))) := TX_at (by decide) b2
  have ma : TM m t (q + 1) (rb_sI u1 0 3 (nI (q + 1))) := TM_at c2
  have fsa : rb_fr scFX σ (rb_sI s1 12 1 (nI (q + 1))) := fs1.sI' (k := 12) (j := 1) (Or.inl ⟨rfl, rfl⟩)
  have fua : rb_fr (scFM j) τ (rb_sI u1 0 3 (nI (q + 1))) := fu1.sI' (k := 0) (j := 3) (Or.inl ⟨rfl, Or.inl rfl⟩)
  have wa : (rb_sI u1 0 3 (nI (q + 1))).1 0 4 = -1 := by rw [rb_sIg _ _ _ _ _ _ (by omega)]; exact w1
  have hDa : FD j L (rb_sI s1 12 1 (nI (q + 1))) (rb_sI u1 0 3 (nI (q + 1))) := FD_fr (rb_fr.sI (ch := fun c _ => c = 12) (k := 12) rfl) (rb_fr.sI (ch := fun c i => c = 0 ∧ i = 3) (k := 0) (j := 3) ⟨rfl, rfl⟩) (fun c i w => by omega) (fun c i w => by omega) hD1
  have hL6 : L < 1000000 := by omega
  have cross : ∀ u, u ≤ 1 → sp_sg t m q ≠ -1 → xf_FR_readStep (dX + 2) (nI p) σ = (rb_b2 (xf_FR_readPlace (nI (1 - u)) (rb_sI s1 12 1 (nI (q + 1)))) fun r11 s9 => if rb_bz r11 then some (r11, s9) else none) → (∀ f, xl_M_readRow_2 (xG_MF (dM + 1)) (nI j) (nI p) (f + 1) 1 τ = rb_b1 (xj_M_readCross_14 (nI j) (nI u) u1) fun s7 => xj_M_readRow_90 (xG_MF (dM + 1)) (fun b3 τ => xl_M_readRow_2 (xG_MF (dM + 1)) (nI j) (nI p) f b3 τ) (nI j) (nI p) s7) → ∃ r σ' τ', xf_FR_readStep (dX + 2) (nI p) σ = some (r, σ') ∧ (∀ f, xl_M_readRow_2 (xG_MF (dM + 1)) (nI j) (nI p) (f + 1) 1 τ = xj_M_readRow_90 (xG_MF (dM + 1)) (fun b3 τ => xl_M_readRow_2 (xG_MF (dM + 1)) (nI j) (nI p) f b3 τ) (nI j) (nI p) τ') ∧ rb_fr scFX σ σ' ∧ rb_fr (scFM j) τ τ' ∧ sOut m t j K a L r σ' τ' := by
    intro u hu hne hx hM
    obtain ⟨r, σ', τ', x1, x2, x3, x4, x5⟩ := rb_fcross (K := K) (a := a) W hj hu hK (hpm hne) hp1 xa ma wa hDa hL6
    have hr : r = 0 ∨ r = 1 := x5.elim (fun h => Or.inr h.1) (fun h => Or.inl h.1)
    have hz : rb_bz r = true := by rcases hr with h | h <;> rw [h] <;> decide
    refine ⟨r, σ', τ', ?_, fun f => ?_, fsa.tr x3, fua.tr x4, x5⟩
    · rw [hx, x1, rb_b2_some, hz, if_pos rfl]
    · rw [hM f]
      unfold xj_M_readCross_14
      rw [c2.2.2, nI_1, rb_lt_eq, x2, rb_b1_some]
  by_cases h119 : sp_sg t m q = 119
  · obtain ⟨s28, u28, p1, p2, p3, p4, p5⟩ := rb_put hj hL6 (show 20 ≤ 20 by omega) hDa
    have hqm := hpm (by rw [h119]; decide)
    refine ⟨1, s28, u28, ?_, fun f => ?_, fsa.tr (p4.mo (fun c i q => Or.inr q)), fua.tr (p5.mo scP_F), Or.inl ⟨rfl, q + 1, L + 1, by omega, by omega, TX_fr p4 (fun c i q => by omega) xa, TM_fr p5 (fun c i q => by unfold scFP at q; omega) ma, ?_, p3, by omega, ?_⟩⟩
    · rw [SX, if_pos h119, b2.2.2, nI_1, rb_lt_eq, show (20 : Int32) = nI 20 from rfl, p1, rb_b1_some]
    · rw [SM f, h119, if_neg (by decide), if_neg (by decide), if_pos rfl, c2.2.2, nI_1, rb_lt_eq, show (20 : Int32) = nI 20 from rfl, p2, rb_b1_some]
    · rw [p5.1 0 4 (by unfold scFP; omega)]; exact wa
    · have : 1 ≤ K * (q + 1 - a) := Nat.mul_pos hK (by omega)
      omega
  · by_cases h111 : sp_sg t m q = 111
    · refine cross 0 (by omega) (by rw [h111]; decide) ?_ (fun f => ?_)
      · rw [SX, if_neg h119, if_pos h111]
        unfold xj_FR_readStep_44
        rw [h111, b2.2.2, nI_1, rb_lt_eq, if_pos rfl]
        rfl
      · rw [SM f, if_pos h111]
        unfold xf_M_readCross
        rw [sm_here W hp2 c2, rb_b1_some, h111, if_neg (by decide)]
        rfl
    · by_cases h117 : sp_sg t m q = 117
      · refine cross 1 (by omega) (by rw [h117]; decide) ?_ (fun f => ?_)
        · rw [SX, if_neg h119, if_neg h111, if_pos h117]
          unfold xj_FR_readStep_44
          rw [h117, b2.2.2, nI_1, rb_lt_eq, if_neg (show ¬ (117 : Int32) = 111 by decide)]
          rfl
        · rw [SM f, if_neg h111, if_pos h117]
          unfold xf_M_readCross
          rw [sm_here W hp2 c2, rb_b1_some, h117, if_pos rfl]
          rfl
      · rw [if_neg h119, if_neg h111, if_neg h117] at SX
        have SM' : ∀ f, xl_M_readRow_2 (xG_MF (dM + 1)) (nI j) (nI p) (f + 1) 1 τ = if rb_bI (sp_dg t m q) = 0 then rb_b1 (xf_M_bad u1) fun s22 => xj_M_readRow_90 (xG_MF (dM + 1)) (fun b3 τ => xl_M_readRow_2 (xG_MF (dM + 1)) (nI j) (nI p) f b3 τ) (nI j) (nI p) s22 else rb_b1 (xb_M_readAgain (xG_MF dM) (nI j) (nI p) u1) fun s24 => xj_M_readRow_90 (xG_MF (dM + 1)) (fun b3 τ => xl_M_readRow_2 (xG_MF (dM + 1)) (nI j) (nI p) f b3 τ) (nI j) (nI p) s24 := fun f => by
          rw [SM f, if_neg h111, if_neg h117, if_neg h119, rb_dgM W]
        obtain ⟨u2, g1, g2, g3⟩ := sm_bad w1 c2.2.2
        have fbad : rb_fr (scFM j) τ u2 := fu1.tr (g3.mo sc4_F)
        by_cases h : sp_dg t m q = true
        · obtain ⟨d, d1, d2, d3, d4⟩ := sp_sg_dg h
          have e1 : nI (48 + d) - (48 : Int32) = nI d := by rw [show (48 : Int32) = nI 48 from rfl, pk_sub (by omega)]; congr 1; omega
          have X1 : rb_bI true = 1 := rfl
          have SA : xb_M_readAgain (xG_MF dM) (nI j) (nI p) u1 = if 2 ≤ nI d then rb_lt (rb_sI u1 0 3 ((u1.1 0 3) + 1)) (fun s4 => rb_b2 (xf_M_look s4) fun r8 s6 => if r8 = 40 then if nI p = 3 then rb_b1 (xf_M_bad s6) fun s42 => some s42 else rb_lt (rb_sI s6 0 3 ((s6.1 0 3) + 1)) (fun s13 => rb_b1 ((xG_MF dM).2 (nI j) (nI p + 1) s13) fun s15 => if (s15.1 0 4) = (-1) then rb_b2 (xf_M_look s15) fun r32 s30 => if r32 = 41 then rb_lt (rb_sI s30 0 3 ((s30.1 0 3) + 1)) (fun s38 => rb_b1 (xl_M_readAgain_117 (xG_MF dM) (nI j) (nI d) ((s38.1 0 26) - (s13.1 0 26)) rb_FU 0 s38) fun s40 => some s40) else rb_b1 (xf_M_bad s30) fun s34 => rb_b1 (xl_M_readAgain_117 (xG_MF dM) (nI j) (nI d) ((s34.1 0 26) - (s13.1 0 26)) rb_FU 0 s34) fun s36 => some s36 else rb_b1 (xf_M_bad s15) fun s18 => rb_b1 (xl_M_readAgain_117 (xG_MF dM) (nI j) (nI d) ((s18.1 0 26) - (s13.1 0 26)) rb_FU 0 s18) fun s28 => some s28) else rb_b1 (xf_M_bad s6) fun s10 => some s10) else rb_b1 (xf_M_bad u1) fun s44 => some s44 := by
            unfold xb_M_readAgain
            rw [sm_here W hp2 c2, rb_b1_some, d3, e1]
          by_cases h2 : 2 ≤ d
          · -- the row again
            have i1 : ¬ nI (48 + d) < (50 : Int32) := nI_nlt (b := 50) (by omega) (by omega)
            have i2 : ¬ (57 : Int32) < nI (48 + d) := nI_nlt (a := 57) (by omega) (by omega)
            rw [d3, if_neg i1, if_neg i2, e1, b2.2.2, nI_1, rb_lt_eq] at SX
            rw [if_pos (show (2 : Int32) ≤ nI d from nI_le (a := 2) h2 (by omega)), c2.2.2, nI_1, rb_lt_eq] at SA
            obtain ⟨s6, b4, b5, b6⟩ := sx_nextF W (show q + 1 ≤ m by omega) xa
            obtain ⟨u6, c4, c5, c6⟩ := sm_look W (show q + 1 ≤ m by omega) ma
            obtain ⟨hz1, hz2⟩ := sp_sk_le (t := t) (show q + 1 ≤ m by omega)
            obtain ⟨z, hz⟩ : ∃ z, z = sp_sk t m (q + 1) := ⟨_, rfl⟩
            rw [← hz] at b4 b5 c4 c5 hz1 hz2
            have w6 : u6.1 0 4 = -1 := by rw [c6.1 0 4 (by unfold scB; omega)]; exact wa
            have fs6 := fsa.tr (b6.mo scA_F)
            have fu6 := fua.tr (c6.mo (scB_F (j := j)))
            have hD6 : FD j L s6 u6 := FD_fr b6 c6 (fun c i w => by unfold scA at w; omega) (fun c i w => by unfold scB at w; omega) hDa
            rw [c4, rb_b2_some] at SA
            have SR : xb_FR_readRepeated (xG_FR dX) (nI d) (nI p) (rb_sI s1 12 1 (nI (q + 1))) = if sp_sg t m z = 40 then if nI p < 3 then rb_lt (rb_sI s6 12 1 ((s6.1 12 1) + 1)) (fun s6 => rb_b2 ((xG_FR dX).1 (nI p + 1) s6) fun r10 s8 => if r10 = 0 then some (0, s8) else rb_b2 (xf_Rd_passesF 41 s8) fun r14 s12 => if r14 = 0 then some (0, s12) else rb_b1 (xf_Fig_repeatFrom (s6.1 13 1) (nI d) s12) fun s16 => some (1, s16)) else some (0, s6) else some (0, s6) := by
              unfold xb_FR_readRepeated
              rw [b4, rb_b2_some]
            obtain ⟨u7, k1, k2, k3⟩ := sm_bad w6 c5.2.2
            have fin : ∀ r σ' τ', (r = 0 ∨ r = 1) → xb_FR_readRepeated (xG_FR dX) (nI d) (nI p) (rb_sI s1 12 1 (nI (q + 1))) = some (r, σ') → xb_M_readAgain (xG_MF dM) (nI j) (nI p) u1 = some τ' → rb_fr scFX σ σ' → rb_fr (scFM j) τ τ' → sOut m t j K a L r σ' τ' → ∃ r σ' τ', xf_FR_readStep (dX + 2) (nI p) σ = some (r, σ') ∧ (∀ f, xl_M_readRow_2 (xG_MF (dM + 1)) (nI j) (nI p) (f + 1) 1 τ = xj_M_readRow_90 (xG_MF (dM + 1)) (fun b3 τ => xl_M_readRow_2 (xG_MF (dM + 1)) (nI j) (nI p) f b3 τ) (nI j) (nI p) τ') ∧ rb_fr scFX σ σ' ∧ rb_fr (scFM j) τ τ' ∧ sOut m t j K a L r σ' τ' := by
              intro r σ' τ' hr y1 y2 y3 y4 y5
              have hz : rb_bz r = true := by rcases hr with h | h <;> rw [h] <;> decide
              refine ⟨r, σ', τ', ?_, fun f => ?_, y3, y4, y5⟩
              · rw [SX, y1, rb_b2_some, hz, if_pos rfl]
              · rw [SM' f, h, X1, if_neg (by decide), y2, rb_b1_some]
            have bad6 : xb_FR_readRepeated (xG_FR dX) (nI d) (nI p) (rb_sI s1 12 1 (nI (q + 1))) = some (0, s6) → xb_M_readAgain (xG_MF dM) (nI j) (nI p) u1 = rb_b1 (xf_M_bad u6) (fun s => some s) → ∃ r σ' τ', xf_FR_readStep (dX + 2) (nI p) σ = some (r, σ') ∧ (∀ f, xl_M_readRow_2 (xG_MF (dM + 1)) (nI j) (nI p) (f + 1) 1 τ = xj_M_readRow_90 (xG_MF (dM + 1)) (fun b3 τ => xl_M_readRow_2 (xG_MF (dM + 1)) (nI j) (nI p) f b3 τ) (nI j) (nI p) τ') ∧ rb_fr scFX σ σ' ∧ rb_fr (scFM j) τ τ' ∧ sOut m t j K a L r σ' τ' := by
              intro y1 y2
              exact fin 0 s6 u7 (Or.inl rfl) y1 (by rw [y2, k1, rb_b1_some]) fs6 (fu6.tr (k3.mo sc4_F)) (Or.inr ⟨rfl, z, hz2, b5.2.2, k2⟩)
            by_cases h40 : sp_sg t m z = 40
            · rw [if_pos h40] at SR SA
              by_cases hp3 : p < 3
              · have hzm : z < m := by
                  by_cases h2 : z < m
                  · exact h2
                  · unfold sp_sg at h40; rw [if_neg h2] at h40; exact absurd h40 (by decide)
                rw [if_pos (show nI p < (3 : Int32) from nI_lt (b := 3) hp3 (by decide)), b5.2.2, nI_1, nI_1, rb_lt_eq] at SR
                rw [if_neg (show ¬ nI p = (3 : Int32) from fun w => by have := (nI_eq (a := p) (b := 3) (by omega) (by decide)).mp w; omega), c5.2.2, nI_1, nI_1, rb_lt_eq] at SA
                have xb : TX 12 m t (z + 1) (rb_sI s6 12 1 (nI (z + 1))) := TX_at (by decide) b5
                have mb : TM m t (z + 1) (rb_sI u6 0 3 (nI (z + 1))) := TM_at c5
                have fsb : rb_fr scFX σ (rb_sI s6 12 1 (nI (z + 1))) := fs6.sI' (k := 12) (j := 1) (Or.inl ⟨rfl, rfl⟩)
                have fub : rb_fr (scFM j) τ (rb_sI u6 0 3 (nI (z + 1))) := fu6.sI' (k := 0) (j := 3) (Or.inl ⟨rfl, Or.inl rfl⟩)
                have wb : (rb_sI u6 0 3 (nI (z + 1))).1 0 4 = -1 := by rw [rb_sIg _ _ _ _ _ _ (by omega)]; exact w6
                have hDb : FD j L (rb_sI s6 12 1 (nI (z + 1))) (rb_sI u6 0 3 (nI (z + 1))) := FD_fr (rb_fr.sI (ch := fun c _ => c = 12) (k := 12) rfl) (rb_fr.sI (ch := fun c i => c = 0 ∧ i = 3) (k := 0) (j := 3) ⟨rfl, rfl⟩) (fun c i w => by omega) (fun c i w => by omega) hD6
                obtain ⟨K1, hK1⟩ : ∃ K1, K1 = 9 ^ (3 - (p + 1)) := ⟨_, rfl⟩
                have hKK : K = 9 * K1 := by
                  rw [hKd, hK1, show 3 - p = (3 - (p + 1)) + 1 by omega, Nat.pow_succ, Nat.mul_comm]
                have bb : K1 * (m - (z + 1)) ≤ K * (m - a) := Nat.mul_le_mul (by omega) (by omega)
                obtain ⟨r10, s8, u15, y1, y2, y3, y4, y5⟩ := HR hp3 (z + 1) L (rb_sI s6 12 1 (nI (z + 1))) (rb_sI u6 0 3 (nI (z + 1))) (by omega) xb mb wb hDb (by rw [← hK1]; omega)
                have y1' : (xG_FR dX).1 (nI (p + 1)) (rb_sI s6 12 1 (nI (z + 1))) = some (r10, s8) := y1
                have y2' : (xG_MF dM).2 (nI j) (nI (p + 1)) (rb_sI u6 0 3 (nI (z + 1))) = some u15 := y2
                rw [y1', rb_b2_some, hDb.1] at SR
                rw [y2', rb_b1_some, hDb.2.1] at SA
                rw [← hK1] at y5
                rcases y5 with ⟨n1, e, L1, n2, n3, n4, n5, n6, n7, n8, n9, n10⟩ | ⟨n1, e, n2, n3, n4⟩
                · rw [if_neg (show ¬ r10 = 0 by rw [n1]; decide)] at SR
                  rw [if_pos n7] at SA
                  obtain ⟨s12, t1, t2⟩ := sx_passF W n3 n5 41 (by decide)
                  obtain ⟨u30, l1, l2, l3⟩ := sm_look W n3 n6
                  rw [n4] at t2 l1 l2
                  rw [l1, rb_b2_some] at SA
                  have w30 : u30.1 0 4 = -1 := by rw [l3.1 0 4 (by unfold scB; omega)]; exact n7
                  have fu30 := ((fub.tr y4).tr (l3.mo (scB_F (j := j))))
                  have fs12 := ((fsb.tr y3).tr (t1.mo scA_F))
                  have hD30 : FD j L1 s12 u30 := FD_fr t1 l3 (fun c i w => by unfold scA at w; omega) (fun c i w => by unfold scB at w; omega) n8
                  rcases t2 with ⟨t3, t4, t5, t6⟩ | ⟨t3, t4, t5⟩
                  · rw [t4, rb_b2_some, if_neg (show ¬ (1 : Int32) = 0 by decide)] at SR
                    rw [if_pos t3, l2.2.2, nI_1, rb_lt_eq] at SA
                    have hD38 : FD j L1 s12 (rb_sI u30 0 3 (nI (e + 1))) := FD_fr (rb_fr.rf (ch := fun _ _ => False)) (rb_fr.sI (ch := fun c i => c = 0 ∧ i = 3) (k := 0) (j := 3) ⟨rfl, rfl⟩) (fun c i w => w.elim) (fun c i w => by omega) hD30
                    have w38 : (rb_sI u30 0 3 (nI (e + 1))).1 0 4 = -1 := by rw [rb_sIg _ _ _ _ _ _ (by omega)]; exact w30
                    have b2a : d * (L1 - L) ≤ 9 * (K1 * (e - (z + 1))) := Nat.mul_le_mul (by omega) (by omega)
                    have b2b : 9 * (K1 * (e - (z + 1))) = K * (e - (z + 1)) := by rw [hKK, Nat.mul_assoc]
                    have b2c : K * (e - (z + 1)) ≤ K * (m - a) := Nat.mul_le_mul (Nat.le_refl _) (by omega)
                    have b2d : K * (e - (z + 1)) ≤ K * (e + 1 - a) := Nat.mul_le_mul (Nat.le_refl _) (by omega)
                    obtain ⟨s16, u40, z1, z2, z3, z4, z5⟩ := rb_again hj (xG_MF dM) h2 (by omega) n9 (by omega) w38 hD38
                    rw [z1, rb_b1_some] at SR
                    rw [z2, rb_b1_some] at SA
                    refine fin 1 s16 u40 (Or.inr rfl) SR SA (fs12.tr (z4.mo (fun c i q => Or.inr q))) ((fu30.sI' (k := 0) (j := 3) (Or.inl ⟨rfl, Or.inl rfl⟩)).tr (z5.mo scP_F)) (Or.inl ⟨rfl, e + 1, L + d * (L1 - L), by omega, by omega, TX_fr z4 (fun c i q => by omega) t5, TM_fr z5 (fun c i q => by unfold scFP at q; omega) (TM_at l2), ?_, z3, by omega, by omega⟩)
                    rw [z5.1 0 4 (by unfold scFP; omega)]; exact w38
                  · rw [t4, rb_b2_some, if_pos rfl] at SR
                    obtain ⟨u34, v1, v2, v3⟩ := sm_bad w30 l2.2.2
                    rw [if_neg t3, v1, rb_b1_some, sm_117b _ (show e < 2 ^ 31 by omega) _ _ _ v2, rb_b1_some] at SA
                    exact fin 0 s12 u34 (Or.inl rfl) SR SA fs12 (fu30.tr (v3.mo sc4_F)) (Or.inr ⟨rfl, e, n3, t5.2.2, v2⟩)
                · obtain ⟨u18, v1, v2, v3⟩ := sm_bad2 (show e < 2 ^ 31 by omega) n4
                  rw [if_pos n1] at SR
                  rw [n4, if_neg (rb_neg1 (show e < 2 ^ 31 by omega)), v1, rb_b1_some, sm_117b _ (show e < 2 ^ 31 by omega) _ _ _ v2, rb_b1_some] at SA
                  exact fin 0 s8 u18 (Or.inl rfl) SR SA (fsb.tr y3) ((fub.tr y4).tr (v3.mo sc4_F)) (Or.inr ⟨rfl, e, n2, n3, v2⟩)
              · have hp3' : p = 3 := by omega
                rw [if_neg (show ¬ nI p < (3 : Int32) from nI_nlt (b := 3) (by omega) (by omega))] at SR
                rw [if_pos (show nI p = (3 : Int32) by rw [hp3']; rfl)] at SA
                exact bad6 SR SA
            · rw [if_neg h40] at SR SA
              exact bad6 SR SA
          · have i1 : nI (48 + d) < (50 : Int32) := nI_lt (b := 50) (by omega) (by decide)
            rw [d3, if_pos i1] at SX
            rw [if_neg (show ¬ (2 : Int32) ≤ nI d from nI_ge (b := 2) (by omega) (by decide)), g1, rb_b1_some] at SA
            exact ⟨0, s1, u2, SX, fun f => by rw [SM' f, h, X1, if_neg (by decide), SA, rb_b1_some], fs1, fbad, Or.inr ⟨rfl, q, hp2, b2.2.2, g2⟩⟩
        · have hf : sp_dg t m q = false := by
            cases hx : sp_dg t m q
            · rfl
            · exact absurd hx h
          have X0 : rb_bI false = 0 := rfl
          refine ⟨0, s1, u2, ?_, fun f => ?_, fs1, fbad, Or.inr ⟨rfl, q, hp2, b2.2.2, g2⟩⟩
          · rw [SX]
            by_cases h4 : sp_sg t m q < 50
            · rw [if_pos h4]
            · rw [if_neg h4]
              by_cases hqm : q < m
              · have ht := W.2 q hqm
                have esg : sp_sg t m q = nI (t q) := by unfold sp_sg; rw [if_pos hqm]
                rw [esg] at h4 ⊢
                have h5 : ¬ t q < 50 := fun w => h4 (nI_lt (b := 50) w (by decide))
                have h6 : ¬ (48 ≤ t q ∧ t q ≤ 57) := fun w => h (sp_dg_iff.mpr ⟨hqm, w⟩)
                rw [if_pos (show (57 : Int32) < nI (t q) from nI_lt (a := 57) (by omega) (by omega))]
              · exact absurd (by unfold sp_sg; rw [if_neg hqm]; decide) h4
          · rw [SM' f, hf, X0, if_pos rfl, g1, rb_b1_some]
theorem rb_frow (W : tw m t) (hj : j ≤ 6) (hp : p ≤ 3) {dX dM : Nat} (HR : p < 3 → RowOK m t j (p + 1) dX dM) : ∀ (r q a L f g : Nat) (σ τ : rb_St), m < a + r → r < f → r + 1 < g → 2 * q ≤ a → a ≤ m → TX 12 m t a σ → TM m t a τ → τ.1 0 4 = -1 → FD j L σ τ → L + 9 ^ (3 - p) * (m - a) < 1000000 → ∃ cd σ' τ', xl_FR_readRow_2 (xG_FR (dX + 2)) (nI p) f (nI q) σ = some (cd, σ') ∧ xl_M_readRow_2 (xG_MF (dM + 1)) (nI j) (nI p) g 1 τ = some τ' ∧ rb_fr scFX σ σ' ∧ rb_fr (scFM j) τ τ' ∧ fOut m t j (9 ^ (3 - p)) a L (if cd = 1 then 1 else 0) σ' τ' := by
  have hm := W.1
  intro r
  induction r with
  | zero => intro q a L f g σ τ h1 _ _ _ h2; omega
  | succ r ih =>
    intro q a L f g σ τ hr1 hf hg hq ha hX hT hw hD hB
    obtain ⟨f, rfl⟩ : ∃ q, f = q + 1 := ⟨f - 1, by omega⟩
    obtain ⟨g, rfl⟩ : ∃ q, g = q + 1 + 1 := ⟨g - 2, by omega⟩
    obtain ⟨r4, s2, u7, x1, x2, x3, x4, x5⟩ := rb_fstep W hj hp HR ha hX hT hw hD hB
    have SX : xl_FR_readRow_2 (xG_FR (dX + 2)) (nI p) (f + 1) (nI q) σ = if r4 = 0 then some (0, s2) else rb_b2 (xf_Rd_passesF 59 s2) fun r8 s6 => if r8 = 0 then some (1, s6) else xl_FR_readRow_2 (xG_FR (dX + 2)) (nI p) f (nI q + 1) s6 := by
      have x1' : (xG_FR (dX + 2)).2.1 (nI p) σ = some (r4, s2) := x1
      show (if 240 ≤ nI q then some (2, σ) else rb_b2 ((xG_FR (dX + 2)).2.1 (nI p) σ) _) = _
      rw [if_neg (show ¬ (240 : Int32) ≤ nI q from nI_ge (b := 240) (by omega) (by decide)), x1', rb_b2_some]
    rw [SX, x2 (g + 1)]
    obtain ⟨K, hKd⟩ : ∃ K, K = 9 ^ (3 - p) := ⟨_, rfl⟩
    rw [← hKd] at hB x5 ih ⊢
    rcases x5 with ⟨n1, e, L1, n2, n3, n5, n6, n7, n8, n9, n10⟩ | ⟨n1, e, n2, n3, n4⟩
    · obtain ⟨s6, t1, t2⟩ := sx_passF W n3 n5 59 (by decide)
      obtain ⟨u9, k1, k3⟩ := sm_90 (xG_MF (dM + 1)) W n3 (fun b3 τ => xl_M_readRow_2 (xG_MF (dM + 1)) (nI j) (nI p) (g + 1) b3 τ) (nI j) (nI p) n6 n7
      obtain ⟨hz1, hz2⟩ := sp_sk_le (t := t) n3
      have hzz := sp_sk_sk (t := t) n3
      obtain ⟨z, hz⟩ : ∃ z, z = sp_sk t m e := ⟨_, rfl⟩
      rw [← hz] at t2 k3 hz1 hz2 hzz
      have w9 : u9.1 0 4 = -1 := by rw [k1.1 0 4 (by unfold scB; omega)]; exact n7
      have hD9 : FD j L1 s6 u9 := FD_fr t1 k1 (fun c i w => by unfold scA at w; omega) (fun c i w => by unfold scB at w; omega) n8
      rw [if_neg (show ¬ r4 = 0 by rw [n1]; decide)]
      rcases t2 with ⟨t3, t4, t5, t6⟩ | ⟨t3, t4, t5⟩
      · rcases k3 with ⟨-, k4, k5⟩ | ⟨k4, -⟩
        · have m1 : K * (e - a) + K * (m - (z + 1)) ≤ K * (m - a) := by rw [← Nat.mul_add]; exact Nat.mul_le_mul (Nat.le_refl _) (by omega)
          obtain ⟨cd, σ', τ', o1, o2, o3, o4, o5⟩ := ih (q + 1) (z + 1) L1 f (g + 1) s6 u9 (by omega) (by omega) (by omega) (by omega) (by omega) t5 k5 w9 hD9 (by omega)
          rw [t4, rb_b2_some, if_neg (show ¬ (1 : Int32) = 0 by decide), nI_1, k4]
          refine ⟨cd, σ', τ', o1, o2, (x3.tr (t1.mo scA_F)).tr o3, (x4.tr (k1.mo scB_F)).tr o4, ?_⟩
          rcases o5 with ⟨i1, e2, L2, i2, i3, i4, i5, i6, i7, i8, i9, i10⟩ | ⟨i1, e2, i2⟩
          · have m2 : K * (e - a) + K * (e2 - (z + 1)) ≤ K * (e2 - a) := by rw [← Nat.mul_add]; exact Nat.mul_le_mul (Nat.le_refl _) (by omega)
            exact Or.inl ⟨i1, e2, L2, by omega, i3, i4, i5, i6, i7, i8, by omega, by omega⟩
          · exact Or.inr ⟨i1, e2, i2⟩
        · exact absurd t3 k4
      · rcases k3 with ⟨k4, -⟩ | ⟨-, k4, k5⟩
        · exact absurd k4 t3
        · have st : xl_M_readRow_2 (xG_MF (dM + 1)) (nI j) (nI p) (g + 1) 0 u9 = some u9 := by
            show (if (0 : Int32) = 0 then some u9 else _) = _
            rw [if_pos rfl]
          have m2 : K * (e - a) ≤ K * (z - a) := Nat.mul_le_mul (Nat.le_refl _) (by omega)
          rw [t4, rb_b2_some, if_pos rfl, k4, st]
          exact ⟨1, s6, u9, rfl, rfl, x3.tr (t1.mo scA_F), x4.tr (k1.mo scB_F), Or.inl ⟨if_pos rfl, z, L1, by omega, hz2, hzz, t5, k5, w9, hD9, n9, by omega⟩⟩
    · obtain ⟨u9, k1, k3⟩ := sm_90b (xG_MF (dM + 1)) (show e < 2 ^ 31 by omega) (fun b3 τ => xl_M_readRow_2 (xG_MF (dM + 1)) (nI j) (nI p) (g + 1) b3 τ) (nI j) (nI p) n4
      have st : xl_M_readRow_2 (xG_MF (dM + 1)) (nI j) (nI p) (g + 1) 0 u9 = some u9 := by
        show (if (0 : Int32) = 0 then some u9 else _) = _
        rw [if_pos rfl]
      rw [if_pos n1, k3, st]
      exact ⟨0, s2, u9, rfl, rfl, x3, x4.tr (k1.mo scB_F), Or.inr ⟨if_neg (by omega), e, n2, n3, by rw [k1.1 0 4 (by unfold scB; omega)]; exact n4⟩⟩
theorem rb_rowOK (W : tw m t) (hj : j ≤ 6) (hp : p ≤ 3) {dX dM : Nat} (HR : p < 3 → RowOK m t j (p + 1) dX dM) : RowOK m t j p (dX + 3) (dM + 2) := by
  have hm := W.1
  intro a L σ τ ha hX hT hw hD hB
  obtain ⟨cd, σ', τ', o1, o2, o3, o4, o5⟩ := rb_frow W hj hp HR (m + 1) 0 a L rb_FU rb_FU σ τ (by omega) (by unfold rb_FU; omega) (by unfold rb_FU; omega) (by omega) ha hX hT hw hD hB
  refine ⟨if cd = 1 then 1 else 0, σ', τ', ?_, ?_, o3, o4, o5⟩
  · have o1' : xl_FR_readRow_2 (xG_FR (dX + 2)) (nI p) rb_FU 0 σ = some (cd, σ') := o1
    show xb_FR_readRow (xG_FR (dX + 2)) (nI p) σ = _
    unfold xb_FR_readRow
    rw [o1', rb_b2_some]
    by_cases h0 : cd = 0
    · rw [if_pos h0, if_neg (show ¬ cd = 1 by omega)]
    · rw [if_neg h0]
      by_cases h1 : cd = 1
      · rw [if_pos h1, if_pos h1]
      · rw [if_neg h1, if_neg h1]
  · show xb_M_readRow (xG_MF (dM + 1)) (nI j) (nI p) τ = _
    unfold xb_M_readRow
    rw [o2, rb_b1_some]
theorem rb_rowTop (W : tw m t) (hj : j ≤ 6) : RowOK m t j 0 64 64 :=
  rb_rowOK (dX := 61) (dM := 62) W hj (by omega) (fun _ => rb_rowOK (dX := 58) (dM := 60) W hj (by omega) (fun _ => rb_rowOK (dX := 55) (dM := 58) W hj (by omega) (fun _ => rb_rowOK (dX := 52) (dM := 56) W hj (by omega) (fun h => by omega))))
end RBFR
