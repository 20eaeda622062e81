/-! THE GREEN IS READ -/
theorem rb_st3 (L : Nat → Int32 → rb_St → Option rb_St) (cell fr : Nat) (vf : Nat → Int32) (hL : ∀ f k τ, k < 3 → L (f + 1) (nI k) τ = L f (nI (k + 1)) (rb_sI τ cell (fr + k) (vf k))) (hE : ∀ f τ, L (f + 1) (nI 3) τ = some τ) : ∀ f τ, 3 < f → L f 0 τ = some (rb_sI (rb_sI (rb_sI τ cell (fr + 0) (vf 0)) cell (fr + 1) (vf 1)) cell (fr + 2) (vf 2)) := by
  intro f τ hf
  obtain ⟨f, rfl⟩ : ∃ q, f = q + 1 + 1 + 1 + 1 := ⟨f - 4, by omega⟩
  have h0 : L (f + 1 + 1 + 1 + 1) (nI 0) τ = _ := hL (f + 1 + 1 + 1) 0 τ (by decide)
  show L (f + 1 + 1 + 1 + 1) (nI 0) τ = _
  rw [h0, hL (f + 1 + 1) 1 _ (by decide), hL (f + 1) 2 _ (by decide), hE]
theorem rb_st3_at (τ : rb_St) (cell fr : Nat) (vf : Nat → Int32) : (∀ k, k < 3 → (rb_sI (rb_sI (rb_sI τ cell (fr + 0) (vf 0)) cell (fr + 1) (vf 1)) cell (fr + 2) (vf 2)).1 cell (fr + k) = vf k) ∧ rb_fr (fun c i => c = cell ∧ fr ≤ i ∧ i < fr + 3) τ (rb_sI (rb_sI (rb_sI τ cell (fr + 0) (vf 0)) cell (fr + 1) (vf 1)) cell (fr + 2) (vf 2)) := by
  refine ⟨fun k hk => ?_, ((rb_fr.sI ⟨rfl, by omega, by omega⟩).sI' ⟨rfl, by omega, by omega⟩).sI' ⟨rfl, by omega, by omega⟩⟩
  have : k = 0 ∨ k = 1 ∨ k = 2 := by omega
  rcases this with rfl | rfl | rfl
  · rw [rb_sIg _ _ _ _ _ _ (by omega), rb_sIg _ _ _ _ _ _ (by omega), rb_sI_eq]
  · rw [rb_sIg _ _ _ _ _ _ (by omega), rb_sI_eq]
  · rw [rb_sI_eq]
/-- signs and their places in the words -/
def sp_ch (b : Nat) : Int32 := ((nI b).toUInt32 % 65536).toInt32
theorem sp_ch_ok : ∀ b, b < 256 → ¬ sp_ch b < 0 ∧ ¬ 255 < sp_ch b := by decide +kernel
theorem sp_ch_eq : ∀ b, b < 256 → ∀ v ∈ [116, 107, 119, 99, 108, 115, 117, 110, 104, 98], (nI v = (sp_ch b).toInt8.toInt32) ↔ v = b := by decide +kernel
theorem rb_ixc0 (f : Nat) (c : Int32) (σ : rb_St) : xl_JL_indexOfChar0_7 3 c σ (f + 4) 0 = if nI 116 = c then some (0, 0) else if nI 107 = c then some (0, 1) else if nI 119 = c then some (0, 2) else some (1, 3) := rfl
theorem rb_ixc1 (f : Nat) (c : Int32) (σ : rb_St) : xl_JL_indexOfChar1_7 3 c σ (f + 4) 0 = if nI 99 = c then some (0, 0) else if nI 108 = c then some (0, 1) else if nI 115 = c then some (0, 2) else some (1, 3) := rfl
def itR (x : Int32) : Int32 := if x = 116 then 0 else if x = 107 then 1 else if x = 119 then 2 else -1
def itD (x : Int32) : Int32 := if x = 99 then 0 else if x = 108 then 1 else if x = 115 then 2 else -1
theorem rb_n256 {b v : Nat} (hb : b < 256) (hv : v < 256) : (nI b = nI v) = (v = b) := by
  rw [nI_eq (by omega) (by omega)]
  exact propext ⟨fun h => h.symm, fun h => h.symm⟩
theorem rb_ix0 (b : Nat) (h : b < 256) (σ : rb_St) : xf_JS_indexOf0 (sp_ch b) σ = some (itR (nI b)) := by
  obtain ⟨h1, h2⟩ := sp_ch_ok b h
  have e := sp_ch_eq b h
  have e1 := e 116 (by decide)
  have e2 := e 107 (by decide)
  have e3 := e 119 (by decide)
  obtain ⟨G, hG⟩ : ∃ G, rb_FU = G + 4 := ⟨99996, rfl⟩
  unfold xf_JS_indexOf0 xf_JS_indexOf0b xf_JL_indexOf0 xf_JL_canEncode xf_JL_indexOfChar0 itR
  rw [if_neg h1, if_neg h2, if_neg (show ¬ (1 : Int32) = 0 by decide), if_pos (show rb_mx 0 0 < rb_mn 3 3 by decide), show rb_mx 0 0 = (0 : Int32) by decide, show rb_mn 3 3 = (3 : Int32) by decide, hG, rb_ixc0]
  simp only [e1, e2, e3]
  rw [show (116 : Int32) = nI 116 from rfl, show (107 : Int32) = nI 107 from rfl, show (119 : Int32) = nI 119 from rfl]
  simp only [rb_n256 h (show 116 < 256 by decide), rb_n256 h (show 107 < 256 by decide), rb_n256 h (show 119 < 256 by decide)]
  by_cases q1 : 116 = b
  · rw [if_pos q1, if_pos q1]; rfl
  · rw [if_neg q1, if_neg q1]
    by_cases q2 : 107 = b
    · rw [if_pos q2, if_pos q2]; rfl
    · rw [if_neg q2, if_neg q2]
      by_cases q3 : 119 = b
      · rw [if_pos q3, if_pos q3]; rfl
      · rw [if_neg q3, if_neg q3]; rfl
theorem rb_ix1 (b : Nat) (h : b < 256) (σ : rb_St) : xf_JS_indexOf1 (sp_ch b) σ = some (itD (nI b)) := by
  obtain ⟨h1, h2⟩ := sp_ch_ok b h
  have e := sp_ch_eq b h
  have e1 := e 99 (by decide)
  have e2 := e 108 (by decide)
  have e3 := e 115 (by decide)
  obtain ⟨G, hG⟩ : ∃ G, rb_FU = G + 4 := ⟨99996, rfl⟩
  unfold xf_JS_indexOf1 xf_JS_indexOf1b xf_JL_indexOf1 xf_JL_canEncode xf_JL_indexOfChar1 itD
  rw [if_neg h1, if_neg h2, if_neg (show ¬ (1 : Int32) = 0 by decide), if_pos (show rb_mx 0 0 < rb_mn 3 3 by decide), show rb_mx 0 0 = (0 : Int32) by decide, show rb_mn 3 3 = (3 : Int32) by decide, hG, rb_ixc1]
  simp only [e1, e2, e3]
  rw [show (99 : Int32) = nI 99 from rfl, show (108 : Int32) = nI 108 from rfl, show (115 : Int32) = nI 115 from rfl]
  simp only [rb_n256 h (show 99 < 256 by decide), rb_n256 h (show 108 < 256 by decide), rb_n256 h (show 115 < 256 by decide)]
  by_cases q1 : 99 = b
  · rw [if_pos q1, if_pos q1]; rfl
  · rw [if_neg q1, if_neg q1]
    by_cases q2 : 108 = b
    · rw [if_pos q2, if_pos q2]; rfl
    · rw [if_neg q2, if_neg q2]
      by_cases q3 : 115 = b
      · rw [if_pos q3, if_pos q3]; rfl
      · rw [if_neg q3, if_neg q3]; rfl
theorem itR_c (x : Int32) : itR x = -1 ∨ ∃ k, k < 3 ∧ itR x = nI k := by
  unfold itR
  repeat' split
  · exact Or.inr ⟨0, by decide, rfl⟩
  · exact Or.inr ⟨1, by decide, rfl⟩
  · exact Or.inr ⟨2, by decide, rfl⟩
  · exact Or.inl rfl
theorem itD_c (x : Int32) : itD x = -1 ∨ ∃ k, k < 3 ∧ itD x = nI k := by
  unfold itD
  repeat' split
  · exact Or.inr ⟨0, by decide, rfl⟩
  · exact Or.inr ⟨1, by decide, rfl⟩
  · exact Or.inr ⟨2, by decide, rfl⟩
  · exact Or.inl rfl
def loR (k : Nat) : Nat := if k = 0 then 1 else 0
def hiR (k : Nat) : Nat := if k = 1 then 99 else 9
def dfR (k : Nat) : Nat := if k = 1 then 20 else 2
def loD (k : Nat) : Nat := if k = 1 then 1 else 0
def hiD (k : Nat) : Nat := if k = 0 then 7 else if k = 1 then 99 else 9
def dfD (k : Nat) : Nat := if k = 0 then 0 else if k = 1 then 30 else 5
theorem rb_mR (g : Nat) (x4 : Int32) (k : Nat) (τ : rb_St) (hk : k < 3) : xl_M_items_r_40 115 (nI 0) (g + 1) x4 (nI k) τ = gM 11 3 (nI (loR k)) (nI (hiR k)) (nI 0) itR (xl_M_items_r_40 115 (nI 0) g) x4 (nI k) τ := by
  have : k = 0 ∨ k = 1 ∨ k = 2 := by omega
  rcases this with rfl | rfl | rfl <;> rfl
theorem rb_mD (fr : Int32) (g : Nat) (x4 : Int32) (k : Nat) (τ : rb_St) (hk : k < 3) : xl_M_items_d_40 100 fr (g + 1) x4 (nI k) τ = gM 12 21 (nI (loD k)) (nI (hiD k)) fr itD (xl_M_items_d_40 100 fr g) x4 (nI k) τ := by
  have : k = 0 ∨ k = 1 ∨ k = 2 := by omega
  rcases this with rfl | rfl | rfl <;> rfl
theorem rb_m1R (fr : Int32) (g : Nat) (x4 : Int32) (τ : rb_St) : xl_M_items_r_40 115 fr (g + 1) x4 (-1) τ = some τ := by
  show (if (τ.1 0 4) = (-1) then if (-1 : Int32) = (-1) then some τ else _ else some τ) = _
  rw [if_pos (show (-1 : Int32) = -1 from rfl)]
  split <;> rfl
theorem rb_m1D (fr : Int32) (g : Nat) (x4 : Int32) (τ : rb_St) : xl_M_items_d_40 100 fr (g + 1) x4 (-1) τ = some τ := by
  show (if (τ.1 0 4) = (-1) then if (-1 : Int32) = (-1) then some τ else _ else some τ) = _
  rw [if_pos (show (-1 : Int32) = -1 from rfl)]
  split <;> rfl
theorem hbR : ∀ k, k < 3 → loR k ≤ 99 ∧ hiR k ≤ 99 ∧ (rb_sv 0).getD k 0 = nI (loR k) ∧ (rb_sv 1).getD k 0 = nI (hiR k) := by decide
theorem hbD : ∀ k, k < 3 → loD k ≤ 99 ∧ hiD k ≤ 99 ∧ (rb_sv 3).getD k 0 = nI (loD k) ∧ (rb_sv 4).getD k 0 = nI (hiD k) := by decide
theorem hdR : ∀ k, k < 3 → loR k ≤ dfR k ∧ dfR k ≤ hiR k := by decide
theorem hdD : ∀ k, k < 3 → loD k ≤ dfD k ∧ dfD k ≤ hiD k := by decide
section RBGR
variable {m a : Nat} {t : Nat → Nat} {σ τ : rb_St}
/-- the items of rules, in both -/
theorem rb_itemsR (W : tw m t) (ha : a ≤ m) (hX : TX 3 m t a σ) (hT : TM m t a τ) (hw : τ.1 0 4 = -1) (hd : ∀ k, k < 3 → σ.1 5 k = nI (dfR k)) : ∃ (r : Int32) (σ' τ' : rb_St) (val : Nat → Nat), xf_GR_readItems_r 0 σ = some (r, σ') ∧ xf_M_items_r 115 0 τ = some τ' ∧ (r = 0 ∨ r = 1) ∧ rb_fr (fun c i => (c = 3 ∧ i = 1) ∨ c = 5) σ σ' ∧ rb_fr (fun c i => scW c i ∨ c = 11) τ τ' ∧ iOut m t a (if r = 1 then 0 else 1) σ' τ' ∧ (r = 1 → ∀ k, k < 3 → loR k ≤ val k ∧ val k ≤ hiR k ∧ σ'.1 5 k = nI (val k) ∧ τ'.1 11 k = nI (val k)) := by
  have d1 := rb_st3 (xl_M_items_r_3 115 0) 11 0 (fun k => nI (dfR k)) (fun f k τ hk => by
    have : k = 0 ∨ k = 1 ∨ k = 2 := by omega
    rcases this with rfl | rfl | rfl <;> rfl) (fun f τ => rfl) rb_FU τ (by unfold rb_FU; omega)
  obtain ⟨d2, d3⟩ := rb_st3_at τ 11 0 (fun k => nI (dfR k))
  obtain ⟨u, hu⟩ : ∃ u, u = rb_sI (rb_sI (rb_sI τ 11 (0 + 0) (nI (dfR 0))) 11 (0 + 1) (nI (dfR 1))) 11 (0 + 2) (nI (dfR 2)) := ⟨_, rfl⟩
  simp only [← hu] at d1 d2 d3
  have uT : TM m t a u := TM_fr d3 (fun c i q => by omega) hT
  obtain ⟨u7, l1, l2, l3⟩ := sm_look W ha uT
  obtain ⟨cd, σ', τ', val, o1, o2, o3, o4, o5, o6⟩ := rb_items (m := m) (t := t) W (cx := 5) (cm := 11) (nn := 3) (nm := 3) (fr := 0) (nx := 3) (sl := 0) (sh := 1) (lo := loR) (hi := hiR) (IX := xf_JS_indexOf0) (it := itR) (xl_GR_readItems_r_6 (nI 0)) (xl_M_items_r_40 115 (nI 0)) (by decide) (by decide) rfl (by decide) (by decide) (by decide) (by decide) hbR itR_c rfl rfl (fun b _ hb σ => rb_ix0 b hb σ) (fun _ _ _ _ => rfl) rb_mR (rb_m1R (nI 0)) 3 0 0 a rb_FU rb_FU dfR σ u7 (by omega) (by unfold rb_FU; omega) (by unfold rb_FU; omega) (by decide) rfl ha hX l2 (by rw [l3.1 0 4 (by unfold scB; omega), d3.1 0 4 (by omega)]; exact hw) (fun k hk => by
    obtain ⟨e1, e2⟩ := hdR k hk
    refine ⟨e1, e2, ?_, ?_⟩
    · rw [Nat.zero_add]; exact hd k hk
    · rw [l3.1 11 (0 + k) (by unfold scB; omega)]; exact d2 k hk)
  have o1' : xl_GR_readItems_r_6 0 rb_FU 0 0 σ = some (cd, σ') := o1
  have o2' : xl_M_items_r_40 115 0 rb_FU 0 (itR (sp_sg t m (sp_sk t m a))) u7 = some τ' := o2
  have fm : rb_fr (fun c i => scW c i ∨ c = 11) τ τ' := ((d3.mo (fun c i q => Or.inr q.1)).tr (l3.mo (fun c i q => Or.inl (scB_W c i q)))).tr (o4.mo (fun c i q => by
    rcases q with q | q
    · exact Or.inl q
    · exact Or.inr q.1))
  have fx : rb_fr (fun c i => (c = 3 ∧ i = 1) ∨ c = 5) σ σ' := o3.mo (fun c i q => by
    rcases q with q | q
    · exact Or.inl q
    · exact Or.inr q.1)
  have hMi : xf_M_items_r 115 0 τ = some τ' := by
    unfold xf_M_items_r
    rw [d1, rb_b1_some, l1, rb_b2_some]
    show rb_b1 (xl_M_items_r_40 115 0 rb_FU 0 (itR (sp_sg t m (sp_sk t m a))) u7) _ = _
    rw [o2', rb_b1_some]
  by_cases hc : cd = 0
  · refine ⟨1, σ', τ', val, ?_, hMi, Or.inr rfl, fx, fm, ?_, fun _ k hk => ?_⟩
    · unfold xf_GR_readItems_r
      rw [o1', rb_b2_some, if_pos hc]
    · rw [if_pos rfl, ← hc]; exact o5
    · have := o6 hc k hk
      rw [Nat.zero_add] at this
      exact this
  · refine ⟨0, σ', τ', val, ?_, hMi, Or.inl rfl, fx, fm, ?_, fun h => absurd h (by decide)⟩
    · unfold xf_GR_readItems_r
      rw [o1', rb_b2_some, if_neg hc]
      repeat' split
      all_goals rfl
    · rw [if_neg (by decide)]
      rcases o5 with ⟨n1, n2⟩ | ⟨n1, n2⟩ | ⟨n1, n2⟩
      · exact absurd n1 hc
      · exact Or.inr (Or.inl ⟨by omega, n2⟩)
      · exact Or.inr (Or.inr ⟨by omega, n2⟩)
theorem rb_itemsD (W : tw m t) (ha : a ≤ m) (hX : TX 3 m t a σ) (hT : TM m t a τ) (hw : τ.1 0 4 = -1) {fr : Nat} (hfr : fr ≤ 18) (hd : ∀ k, k < 3 → σ.1 6 (fr + k) = nI (dfD k)) : ∃ (r : Int32) (σ' τ' : rb_St) (val : Nat → Nat), xf_GR_readItems_d (nI fr) σ = some (r, σ') ∧ xf_M_items_d 100 (nI fr) τ = some τ' ∧ (r = 0 ∨ r = 1) ∧ rb_fr (fun c i => (c = 3 ∧ i = 1) ∨ (c = 6 ∧ fr ≤ i ∧ i < fr + 3)) σ σ' ∧ rb_fr (fun c i => scW c i ∨ (c = 12 ∧ fr ≤ i ∧ i < fr + 3)) τ τ' ∧ iOut m t a (if r = 1 then 0 else 1) σ' τ' ∧ (r = 1 → ∀ k, k < 3 → loD k ≤ val k ∧ val k ≤ hiD k ∧ σ'.1 6 (fr + k) = nI (val k) ∧ τ'.1 12 (fr + k) = nI (val k)) := by
  have d1 := rb_st3 (xl_M_items_d_3 100 (nI fr)) 12 fr (fun k => nI (dfD k)) (fun f k τ hk => by
    show (if 3 ≤ nI k then some τ else if rb_ib (nI fr + nI k) 21 then rb_lt (rb_sI τ 12 (nI fr + nI k).toNatClampNeg (xf_M_usual 100 (nI k) τ)) (fun s3 => xl_M_items_d_3 100 (nI fr) f (nI k + 1) s3) else none) = _
    have eu : xf_M_usual 100 (nI k) τ = nI (dfD k) := by
      have : k = 0 ∨ k = 1 ∨ k = 2 := by omega
      rcases this with rfl | rfl | rfl <;> rfl
    rw [if_neg (show ¬ (3 : Int32) ≤ nI k from nI_ge (b := 3) hk (by decide)), nI_add, rb_ib_nI (by omega) (by decide), if_pos rfl, nI_clamp (by omega), eu, rb_lt_eq, nI_1]) (fun f τ => rfl) rb_FU τ (by unfold rb_FU; omega)
  obtain ⟨d2, d3⟩ := rb_st3_at τ 12 fr (fun k => nI (dfD k))
  obtain ⟨u, hu⟩ : ∃ u, u = rb_sI (rb_sI (rb_sI τ 12 (fr + 0) (nI (dfD 0))) 12 (fr + 1) (nI (dfD 1))) 12 (fr + 2) (nI (dfD 2)) := ⟨_, rfl⟩
  simp only [← hu] at d1 d2 d3
  have uT : TM m t a u := TM_fr d3 (fun c i q => by omega) hT
  obtain ⟨u7, l1, l2, l3⟩ := sm_look W ha uT
  obtain ⟨cd, σ', τ', val, o1, o2, o3, o4, o5, o6⟩ := rb_items (m := m) (t := t) W (cx := 6) (cm := 12) (nn := 24) (nm := 21) (fr := fr) (nx := 24) (sl := 3) (sh := 4) (lo := loD) (hi := hiD) (IX := xf_JS_indexOf1) (it := itD) (xl_GR_readItems_d_6 (nI fr)) (xl_M_items_d_40 100 (nI fr)) (by decide) (by decide) rfl (by omega) (by omega) (by decide) (by decide) hbD itD_c rfl rfl (fun b _ hb σ => rb_ix1 b hb σ) (fun _ _ _ _ => rfl) (rb_mD (nI fr)) (rb_m1D (nI fr)) 3 0 0 a rb_FU rb_FU dfD σ u7 (by omega) (by unfold rb_FU; omega) (by unfold rb_FU; omega) (by decide) rfl ha hX l2 (by rw [l3.1 0 4 (by unfold scB; omega), d3.1 0 4 (by omega)]; exact hw) (fun k hk => by
    obtain ⟨e1, e2⟩ := hdD k hk
    refine ⟨e1, e2, hd k hk, ?_⟩
    rw [l3.1 12 (fr + k) (by unfold scB; omega)]; exact d2 k hk)
  have o1' : xl_GR_readItems_d_6 (nI fr) rb_FU 0 0 σ = some (cd, σ') := o1
  have o2' : xl_M_items_d_40 100 (nI fr) rb_FU 0 (itD (sp_sg t m (sp_sk t m a))) u7 = some τ' := o2
  have fm : rb_fr (fun c i => scW c i ∨ (c = 12 ∧ fr ≤ i ∧ i < fr + 3)) τ τ' := ((d3.mo (fun c i q => Or.inr q)).tr (l3.mo (fun c i q => Or.inl (scB_W c i q)))).tr o4
  have hMi : xf_M_items_d 100 (nI fr) τ = some τ' := by
    unfold xf_M_items_d
    rw [d1, rb_b1_some, l1, rb_b2_some]
    show rb_b1 (xl_M_items_d_40 100 (nI fr) rb_FU 0 (itD (sp_sg t m (sp_sk t m a))) u7) _ = _
    rw [o2', rb_b1_some]
  by_cases hc : cd = 0
  · refine ⟨1, σ', τ', val, ?_, hMi, Or.inr rfl, o3, fm, ?_, fun _ k hk => o6 hc k hk⟩
    · unfold xf_GR_readItems_d
      rw [o1', rb_b2_some, if_pos hc]
    · rw [if_pos rfl, ← hc]; exact o5
  · refine ⟨0, σ', τ', val, ?_, hMi, Or.inl rfl, o3, fm, ?_, fun h => absurd h (by decide)⟩
    · unfold xf_GR_readItems_d
      rw [o1', rb_b2_some, if_neg hc]
      repeat' split
      all_goals rfl
    · rw [if_neg (by decide)]
      rcases o5 with ⟨n1, n2⟩ | ⟨n1, n2⟩ | ⟨n1, n2⟩
      · exact absurd n1 hc
      · exact Or.inr (Or.inl ⟨by omega, n2⟩)
      · exact Or.inr (Or.inr ⟨by omega, n2⟩)
end RBGR
