/-! A LAW IS READ: clauses in a row, the law whole -/
def sp_ts : List sp_Cl → List sp_Tk
  | [] => []
  | c :: L => (c.1 ++ c.2) ++ sp_ts L
theorem sp_ts_app (c : sp_Cl) : ∀ L : List sp_Cl, sp_ts (L ++ [c]) = sp_ts L ++ (c.1 ++ c.2)
  | [] => by simp [sp_ts]
  | d :: L => by
    show (d.1 ++ d.2) ++ sp_ts (L ++ [c]) = (d.1 ++ d.2) ++ sp_ts L ++ (c.1 ++ c.2)
    rw [sp_ts_app c L]; simp
theorem sp_fl_app (c : sp_Cl) : ∀ L : List sp_Cl, sp_fl (L ++ [c]) = sp_fl L ++ sp_fc c
  | [] => by simp [sp_fl]
  | d :: L => by
    show sp_fc d ++ sp_fl (L ++ [c]) = sp_fc d ++ sp_fl L ++ sp_fc c
    rw [sp_fl_app c L]; simp
theorem sp_tot_ts : ∀ L : List sp_Cl, sp_tot L = (sp_ts L).length
  | [] => rfl
  | d :: L => by
    show d.1.length + d.2.length + sp_tot L = ((d.1 ++ d.2) ++ sp_ts L).length
    rw [sp_tot_ts L]; simp only [List.length_append]
def rb_lc (n : Nat) : Nat → Nat → List sp_Cl → rb_St → Prop
  | _, _, [], _ => True
  | q, o, c :: L, τ => τ.1 6 (140 * n + q) = nI o ∧ τ.1 7 (140 * n + q) = nI (o + c.1.length) ∧ τ.1 8 (140 * n + q) = nI (o + c.1.length + c.2.length) ∧ rb_lc n (q + 1) (o + c.1.length + c.2.length) L τ
theorem rb_lc_co {n : Nat} : ∀ {L : List sp_Cl} {q o : Nat} {τ τ' : rb_St}, (∀ c i, 6 ≤ c → c ≤ 8 → i < 140 * n + q + L.length → τ'.1 c i = τ.1 c i) → rb_lc n q o L τ → rb_lc n q o L τ'
  | [], _, _, _, _, _, _ => trivial
  | c :: L, q, o, τ, τ', h, ⟨a1, a2, a3, a4⟩ => by
    simp only [List.length_cons] at h
    exact ⟨(h 6 _ (by omega) (by omega) (by omega)).trans a1, (h 7 _ (by omega) (by omega) (by omega)).trans a2, (h 8 _ (by omega) (by omega) (by omega)).trans a3, rb_lc_co (fun c i p1 p2 p3 => h c i p1 p2 (by omega)) a4⟩
theorem rb_lc_app {n : Nat} {c : sp_Cl} : ∀ {L : List sp_Cl} {q o : Nat} {τ : rb_St}, rb_lc n q o L τ → τ.1 6 (140 * n + (q + L.length)) = nI (o + sp_tot L) → τ.1 7 (140 * n + (q + L.length)) = nI (o + sp_tot L + c.1.length) → τ.1 8 (140 * n + (q + L.length)) = nI (o + sp_tot L + c.1.length + c.2.length) → rb_lc n q o (L ++ [c]) τ
  | [], _, _, _, _, h1, h2, h3 => ⟨h1, h2, h3, trivial⟩
  | d :: L, q, o, τ, ⟨a1, a2, a3, a4⟩, h1, h2, h3 => by
    have e : sp_tot (d :: L) = d.1.length + d.2.length + sp_tot L := rfl
    rw [e] at h1 h2 h3
    simp only [List.length_cons] at h1 h2 h3
    refine ⟨a1, a2, a3, rb_lc_app a4 ?_ ?_ ?_⟩
    · rw [show q + 1 + L.length = q + (L.length + 1) by omega, h1]; congr 1; omega
    · rw [show q + 1 + L.length = q + (L.length + 1) by omega, h2]; congr 1; omega
    · rw [show q + 1 + L.length = q + (L.length + 1) by omega, h3]; congr 1; omega
theorem rb_lc_lm {n : Nat} : ∀ {L : List sp_Cl} {q o : Nat} {τ : rb_St}, rb_lc n q o L τ → rb_tm (520 * n + o) (sp_ts L) τ → rb_lm n q o L τ
  | [], _, _, _, _, _ => trivial
  | d :: L, q, o, τ, ⟨a1, a2, a3, a4⟩, h => by
    have h' : rb_tm (520 * n + o) ((d.1 ++ d.2) ++ sp_ts L) τ := h
    obtain ⟨h1, h2⟩ := rb_tm_app.mp h'
    obtain ⟨h3, h4⟩ := rb_tm_app.mp h1
    refine ⟨a1, a2, a3, h3, ?_, rb_lc_lm a4 ?_⟩
    · rw [← Nat.add_assoc]; exact h4
    · rw [List.length_append] at h2
      rw [show 520 * n + (o + d.1.length + d.2.length) = 520 * n + o + (d.1.length + d.2.length) by omega]; exact h2
def clX (σ : rb_St) : Option (Int32 × rb_St) := rb_b2 (xf_Rd_passesL 121 σ) fun r8 s6 => if r8 = 0 then some (0, s6) else rb_b2 (xf_Rd_passesL 58 s6) fun r12 s10 => if r12 = 0 then some (0, s10) else rb_b2 (xf_LR_readBody s10) fun r16 s14 => if r16 = 0 then some (0, s14) else rb_b1 (xf_Law_add (-22) s14) fun s18 => some (1, s18)
theorem clX_run (σ : rb_St) (k : rb_St → Option (Nat × rb_St)) : (rb_b2 (xf_Rd_passesL 121 σ) fun r8 s6 => if r8 = 0 then some (0, s6) else rb_b2 (xf_Rd_passesL 58 s6) fun r12 s10 => if r12 = 0 then some (0, s10) else rb_b2 (xf_LR_readBody s10) fun r16 s14 => if r16 = 0 then some (0, s14) else rb_b1 (xf_Law_add (-22) s14) fun s18 => k s18) = rb_b2 (clX σ) fun r s => if r = 0 then some (0, s) else k s := by
  unfold clX
  cases h1 : xf_Rd_passesL 121 σ with
  | none => rfl
  | some x1 =>
    obtain ⟨r8, s6⟩ := x1
    rw [rb_b2_some, rb_b2_some]
    by_cases c1 : r8 = 0
    · rw [if_pos c1, if_pos c1, rb_b2_some, if_pos rfl]
    · rw [if_neg c1, if_neg c1]
      cases h2 : xf_Rd_passesL 58 s6 with
      | none => rfl
      | some x2 =>
        obtain ⟨r12, s10⟩ := x2
        rw [rb_b2_some, rb_b2_some]
        by_cases c2 : r12 = 0
        · rw [if_pos c2, if_pos c2, rb_b2_some, if_pos rfl]
        · rw [if_neg c2, if_neg c2]
          cases h3 : xf_LR_readBody s10 with
          | none => rfl
          | some x3 =>
            obtain ⟨r16, s14⟩ := x3
            rw [rb_b2_some, rb_b2_some]
            by_cases c3 : r16 = 0
            · rw [if_pos c3, if_pos c3, rb_b2_some, if_pos rfl]
            · rw [if_neg c3, if_neg c3]
              cases h4 : xf_Law_add (-22) s14 with
              | none => rfl
              | some s18 => rw [rb_b1_some, rb_b1_some, rb_b2_some, if_neg (by decide)]
section RBLD
variable {m a tx n : Nat} {t : Nat → Nat} {xs : List Int32} {ts : List sp_Tk} {σ τ : rb_St}
theorem sm_71F {K e : Nat} (he : e < 2 ^ 31) (x : Int32) (h : FT tx K e τ) : ∃ τ', xj_M_clause_71 x τ = some τ' ∧ FT tx K e τ' ∧ rb_fr (scLL tx n) τ τ' := by
  have f : rb_fr (fun c i => c = 0 ∧ i = 3) τ (rb_sI τ 0 3 (τ.1 0 3 + 1)) := rb_fr.sI ⟨rfl, rfl⟩
  have h2 := FT_fr f (fun c i w => by omega) h
  refine ⟨_, ?_, h2, f.mo (fun c i w => Or.inl (scB_L c i w))⟩
  unfold xj_M_clause_71
  rw [rb_lt_eq, h2.1, if_neg (rb_neg1 he)]
theorem sm_40F {K e : Nat} (he : e < 2 ^ 31) (x : Int32) (h : FT tx K e τ) : ∃ τ', xj_M_clause_40 x τ = some τ' ∧ FT tx K e τ' ∧ rb_fr (scLL tx n) τ τ' := by
  have f : rb_fr (fun c i => c = 0 ∧ i = 3) τ (rb_sI τ 0 3 (τ.1 0 3 + 1)) := rb_fr.sI ⟨rfl, rfl⟩
  have h2 := FT_fr f (fun c i w => by omega) h
  obtain ⟨τ', a1, a2, a3⟩ := sm_71F (n := n) he x h2
  refine ⟨τ', ?_, a2, (f.mo (fun c i w => Or.inl (scB_L c i w))).tr a3⟩
  unfold xj_M_clause_40
  rw [rb_lt_eq, h2.1, if_neg (rb_neg1 he), a1]
def kOut (m : Nat) (t : Nat → Nat) (tx n a : Nat) (xs : List Int32) (ts : List sp_Tk) (r : Int32) (σ' τ' : rb_St) : Prop := (r = 1 ∧ ∃ e, ∃ c : sp_Cl, a + 2 ≤ e ∧ e ≤ m ∧ sp_lwc c ∧ (sp_fc c).length ≤ e - a ∧ c.1.length + c.2.length ≤ e - a ∧ rb_LS m t tx 0 e (xs ++ sp_fc c) (ts ++ (c.1 ++ c.2)) σ' τ' ∧ τ'.1 5 tx = nI (n + 1) ∧ τ'.1 6 (140 * tx + n) = nI ts.length ∧ τ'.1 7 (140 * tx + n) = nI (ts.length + c.1.length) ∧ τ'.1 8 (140 * tx + n) = nI (ts.length + c.1.length + c.2.length)) ∨ (r = 0 ∧ ∃ e, e ≤ m ∧ σ'.1 7 1 = nI e ∧ FT tx 30 e τ')
theorem rb_clause (W : tw m t) (htx : tx ≤ 4) (hn : n < 140) (ha : a ≤ m) (hxs : xs.length ≤ a) (hts : ts.length ≤ a) (h5 : τ.1 5 tx = nI n) (Q : rb_LS m t tx 0 a xs ts σ τ) : ∃ r σ' τ', clX σ = some (r, σ') ∧ xf_M_clause τ = some τ' ∧ rb_fr scLX σ σ' ∧ rb_fr (scLL tx n) τ τ' ∧ kOut m t tx n a xs ts r σ' τ' := by
  have hm := W.1
  have fL : ∀ {u u' : rb_St}, rb_fr (scLM tx) u u' → rb_fr (scLL tx n) u u' := fun h => h.mo (fun c i w => Or.inl w)
  have fC : ∀ {u u' : rb_St}, rb_fr (scLC tx n) u u' → rb_fr (scLL tx n) u u' := fun h => h.mo (fun c i w => Or.inr w)
  obtain ⟨s1, u1, b1, b2, b3, b4, b5⟩ := LS_look W ha Q
  obtain ⟨hz1, hz2⟩ := sp_sk_le (t := t) ha
  obtain ⟨z, hz⟩ : ∃ z, z = sp_sk t m a := ⟨_, rfl⟩
  rw [← hz] at b1 b2 b3 hz1 hz2
  have e140 : (140 : Int32) * nI tx + nI n = nI (140 * tx + n) := by rw [rb_l140, pk_mul, nI_add]
  have SM : xf_M_clause τ = if sp_sg t m z = 121 then xj_M_clause_40 (nI (140 * tx + n)) u1 else rb_b1 (xf_M_bad u1) fun s77 => xj_M_clause_40 (nI (140 * tx + n)) s77 := by
    unfold xf_M_clause
    rw [Q.2.2.2.2.1, rb_ib_nI (by omega) (by decide), if_pos rfl, nI_clamp (by omega), h5, e140, rb_lt_eq, if_pos Q.2.2.1, b2, rb_b2_some]
  have p121 : xf_Rd_passesL 121 σ = if sp_sg t m z = 121 then rb_lt (rb_sI s1 7 1 ((s1.1 7 1) + 1)) (fun s5 => some (1, s5)) else some (0, s1) := by
    unfold xf_Rd_passesL
    rw [b1, rb_b2_some]
  by_cases h : sp_sg t m z = 121
  · have hzm := sp_sg_lt W (show sp_sg t m z ≠ -1 by rw [h]; decide)
    obtain ⟨d1, d2, d3⟩ := LS_pass b3
    obtain ⟨s2, u2, c1, c2, c3, c4, c5⟩ := LS_look W (show z + 1 ≤ m by omega) d1
    obtain ⟨hy1, hy2⟩ := sp_sk_le (t := t) (show z + 1 ≤ m by omega)
    obtain ⟨y, hy⟩ : ∃ y, y = sp_sk t m (z + 1) := ⟨_, rfl⟩
    rw [← hy] at c1 c2 c3 hy1 hy2
    rw [if_pos h] at SM
    unfold xj_M_clause_40 at SM
    rw [b3.2.1.2.2, nI_1, rb_lt_eq, if_pos d1.2.2.1, c2, rb_b2_some] at SM
    rw [if_pos h, b3.1.2.2, nI_1, rb_lt_eq] at p121
    have p58 : xf_Rd_passesL 58 (rb_sI s1 7 1 (nI (z + 1))) = if sp_sg t m y = 58 then rb_lt (rb_sI s2 7 1 ((s2.1 7 1) + 1)) (fun s5 => some (1, s5)) else some (0, s2) := by
      unfold xf_Rd_passesL
      rw [c1, rb_b2_some]
    by_cases h2 : sp_sg t m y = 58
    · have hym := sp_sg_lt W (show sp_sg t m y ≠ -1 by rw [h2]; decide)
      obtain ⟨e1, e2, e3⟩ := LS_pass c3
      rw [if_pos h2, c3.1.2.2, nI_1, rb_lt_eq] at p58
      rw [if_pos h2] at SM
      unfold xj_M_clause_71 at SM
      obtain ⟨u13, hu⟩ : ∃ s, s = rb_sI (rb_sI u2 0 3 (nI (y + 1))) 6 (140 * tx + n) (nI ts.length) := ⟨_, rfl⟩
      have f13 : rb_fr (scLC tx n) (rb_sI u2 0 3 (nI (y + 1))) u13 := by rw [hu]; exact rb_fr.sI (Or.inl ⟨by omega, by omega, rfl⟩)
      rw [c3.2.1.2.2, nI_1, rb_lt_eq, if_pos e1.2.2.1, e1.2.2.2.2.1, rb_ib_nI (by omega) (by decide), if_pos rfl, rb_ib_nI (by omega) (by decide), if_pos rfl, nI_clamp (by omega), nI_clamp (by omega), e1.2.2.2.2.2.2.2.1, rb_lt_eq, ← hu] at SM
      have fM13 := (b5.tr d3).tr (c5.tr e3)
      have h513 : u13.1 5 tx = nI n := by rw [hu, rb_sIg _ _ _ _ _ _ (by omega), fM13.1 5 tx (by unfold scLM; omega)]; exact h5
      obtain ⟨r16, s14, τ', y1, y2, y3, y4, y5⟩ := rb_body W htx hn (show y + 1 ≤ m by omega) (show xs.length ≤ y + 1 by omega) (show ts.length ≤ y + 1 by omega) h513 (by rw [hu, rb_sI_eq]) (LS_fr f13 e1)
      rw [y2] at SM
      have SX : clX σ = if r16 = 0 then some (0, s14) else rb_b1 (xf_Law_add (-22) s14) fun s18 => some (1, s18) := by
        unfold clX
        rw [p121, rb_b2_some, if_neg (show ¬ (1 : Int32) = 0 by decide), p58, rb_b2_some, if_neg (show ¬ (1 : Int32) = 0 by decide), y1, rb_b2_some]
      have fs := ((b4.tr d2).tr (c4.tr e2)).tr y3
      have fu := ((fL fM13).tr (fC f13)).tr y4
      rw [SX, SM]
      rcases y5 with ⟨n1, e, c, n2, n3, n4, n5, n6, n7, n8, n9, n10, n11⟩ | ⟨n1, e, n2, n3, n4⟩
      · obtain ⟨q1, q2, q3, q4, q5, q6, q7, q8, q9⟩ := n7
        rw [List.append_nil] at q6 q7
        have l1 : (xs ++ ((if c.1 = [] then [] else c.1.map sp_cx ++ [-21]) ++ c.2.map sp_cx)).length < 240 := by rw [List.length_append]; omega
        obtain ⟨s18, k1, k2, k3, k4⟩ := sx_add0 l1 q6 q7 (-22)
        rw [if_neg (show ¬ r16 = 0 by rw [n1]; decide), k1, rb_b1_some]
        have el : xs ++ ((if c.1 = [] then [] else c.1.map sp_cx ++ [-21]) ++ c.2.map sp_cx) ++ [-22] = xs ++ sp_fc c := by unfold sp_fc; simp only [List.append_assoc]
        rw [el] at k2 k3
        refine ⟨1, s18, τ', rfl, rfl, fs.tr (k4.mo (fun c i w => Or.inr w)), fu, Or.inl ⟨rfl, e, c, by omega, n3, n4, ?_, by omega, ⟨TX_fr k4 (fun c i w => by omega) q1, q2, q3, q4, q5, k2, k3, q8, q9⟩, n8, ?_, n10, n11⟩⟩
        · have : (sp_fc c).length = ((if c.1 = [] then [] else c.1.map sp_cx ++ [-21]) ++ c.2.map sp_cx).length + 1 := by
            unfold sp_fc
            simp only [List.length_append, List.length_cons, List.length_nil]
            omega
          omega
        · rw [n9, hu, rb_sI_eq]
      · rw [if_pos n1]
        exact ⟨0, s14, τ', rfl, rfl, fs, fu, Or.inr ⟨rfl, e, n2, n3, n4⟩⟩
    · obtain ⟨ub, g1, g2, g3⟩ := LS_FT c3 (show ts.length ≤ 240 by omega)
      obtain ⟨τ', v1, v2, v3⟩ := sm_71F (n := n) (show y < 2 ^ 31 by omega) (nI (140 * tx + n)) g2
      rw [if_neg h2] at p58
      rw [if_neg h2, g1, rb_b1_some, v1] at SM
      refine ⟨0, s2, τ', ?_, SM, (b4.tr d2).tr c4, ((fL ((b5.tr d3).tr c5)).tr (fL g3)).tr v3, Or.inr ⟨rfl, y, hy2, c3.1.2.2, FT_mo (by omega) v2⟩⟩
      unfold clX
      rw [p121, rb_b2_some, if_neg (show ¬ (1 : Int32) = 0 by decide), p58, rb_b2_some, if_pos rfl]
  · obtain ⟨ub, g1, g2, g3⟩ := LS_FT b3 (show ts.length ≤ 240 by omega)
    obtain ⟨τ', v1, v2, v3⟩ := sm_40F (n := n) (show z < 2 ^ 31 by omega) (nI (140 * tx + n)) g2
    rw [if_neg h] at p121
    rw [if_neg h, g1, rb_b1_some, v1] at SM
    refine ⟨0, s1, τ', ?_, SM, b4, ((fL b5).tr (fL g3)).tr v3, Or.inr ⟨rfl, z, hz2, b3.1.2.2, FT_mo (by omega) v2⟩⟩
    unfold clX
    rw [p121, rb_b2_some, if_pos rfl]
def scLW (tx c i : Nat) : Prop := scLM tx c i ∨ (6 ≤ c ∧ c ≤ 8 ∧ 140 * tx ≤ i ∧ i < 140 * tx + 140) ∨ (c = 5 ∧ i = tx)
def wOut (m : Nat) (t : Nat → Nat) (tx cd : Nat) (σ' τ' : rb_St) : Prop := (cd = 1 ∧ ∃ L : List sp_Cl, sp_lw L ∧ 2 * L.length ≤ m ∧ (sp_fl L).length ≤ m ∧ (sp_ts L).length ≤ m ∧ rb_LS m t tx 0 m (sp_fl L) (sp_ts L) σ' τ' ∧ rb_lc tx 0 0 L τ' ∧ τ'.1 5 tx = nI L.length) ∨ (cd ≠ 1 ∧ ∃ e, e ≤ m ∧ σ'.1 7 1 = nI e ∧ (τ'.1 0 4 = nI e ∨ (τ'.1 0 4 = -1 ∧ TM m t e τ' ∧ sp_sk t m e = e ∧ sp_sg t m e ≠ -1)))
theorem rb_lawl (W : tw m t) (htx : tx ≤ 4) : ∀ (r q a f g : Nat) (L : List sp_Cl) (σ τ : rb_St), m < a + r → r < f → r < g → 2 * q ≤ a → a ≤ m → L.length = q → sp_lw L → (sp_fl L).length ≤ a → (sp_ts L).length ≤ a → rb_LS m t tx 0 a (sp_fl L) (sp_ts L) σ τ → rb_lc tx 0 0 L τ → τ.1 5 tx = nI q → ∃ cd σ' τ', xl_LR_readAll_15 f (nI q) σ = some (cd, σ') ∧ (rb_b1 (xf_M_clause τ) fun s => xl_M_readLaw_9 g s) = some τ' ∧ rb_fr scLX σ σ' ∧ rb_fr (scLW tx) τ τ' ∧ wOut m t tx cd σ' τ' := by
  have hm := W.1
  intro r
  induction r with
  | zero => intro q a f g L σ τ h1 _ _ _ h2; omega
  | succ r ih =>
    intro q a f g L σ τ hr hf hg hq ha hLq hLw hfl hts Q hlc h5
    obtain ⟨f, rfl⟩ : ∃ q, f = q + 1 := ⟨f - 1, by omega⟩
    obtain ⟨g, rfl⟩ : ∃ q, g = q + 1 := ⟨g - 1, by omega⟩
    have SX : xl_LR_readAll_15 (f + 1) (nI q) σ = rb_b2 (clX σ) fun r s => if r = 0 then some (0, s) else rb_b2 (xf_Rd_nextSignL s) fun r22 s20 => if r22 = (-1) then some (1, s20) else rb_b2 (xf_Rd_passesL 59 s20) fun r26 s24 => if r26 = 0 then some (2, s24) else xl_LR_readAll_15 f (nI q + 1) s24 := by
      rw [← clX_run]
      show (if 240 ≤ nI q then some (3, σ) else _) = _
      rw [if_neg (show ¬ (240 : Int32) ≤ nI q from nI_ge (b := 240) (by omega) (by decide))]
    have SM : ∀ u, xl_M_readLaw_9 (g + 1) u = if (u.1 0 4) = (-1) then rb_b2 (xf_M_look u) fun r8 s6 => if r8 = 59 then rb_lt (rb_sI s6 0 3 ((s6.1 0 3) + 1)) (fun s10 => rb_b1 (xf_M_clause s10) fun s12 => xl_M_readLaw_9 g s12) else some s6 else some u := fun _ => rfl
    obtain ⟨r1, s18, u12, x1, x2, x3, x4, x5⟩ := rb_clause W htx (show q < 140 by omega) ha hfl hts h5 Q
    have x4' : rb_fr (scLW tx) τ u12 := x4.mo (fun c i w => by
      rcases w with w | w | w
      · exact Or.inl w
      · exact Or.inr (Or.inl ⟨w.1, w.2.1, by omega, by omega⟩)
      · exact Or.inr (Or.inr w))
    rw [SX, x1, x2, rb_b2_some, rb_b1_some, SM]
    rcases x5 with ⟨n1, e, c, n2, n3, n4, n5, n6, n7, n8, n9, n10, n11⟩ | ⟨n1, e, n2, n3, n4⟩
    · rw [if_neg (show ¬ r1 = 0 by rw [n1]; decide), if_pos n7.2.2.1]
      rw [← sp_fl_app, ← sp_ts_app] at n7
      have hlc2 : rb_lc tx 0 0 (L ++ [c]) u12 := by
        refine rb_lc_app (rb_lc_co (fun c i p1 p2 p3 => x4.1 c i (fun w => by unfold scLL scLM scLC at w; omega)) hlc) ?_ ?_ ?_
        · rw [Nat.zero_add, Nat.zero_add, hLq, sp_tot_ts]; exact n9
        · rw [Nat.zero_add, Nat.zero_add, hLq, sp_tot_ts]; exact n10
        · rw [Nat.zero_add, Nat.zero_add, hLq, sp_tot_ts]; exact n11
      have hLw2 : sp_lw (L ++ [c]) := fun q hq => by
        rcases List.mem_append.1 hq with h | h
        · exact hLw q h
        · rw [List.mem_singleton] at h; rw [h]; exact n4
      have hfl2 : (sp_fl (L ++ [c])).length ≤ e := by rw [sp_fl_app, List.length_append]; omega
      have hts2 : (sp_ts (L ++ [c])).length ≤ e := by rw [sp_ts_app, List.length_append, List.length_append]; omega
      have hlen2 : (L ++ [c]).length = q + 1 := by rw [List.length_append, hLq]; rfl
      obtain ⟨s20, u6, c1, c2, c3, c4, c5⟩ := LS_look W n3 n7
      have hyy := sp_sk_sk (t := t) n3
      obtain ⟨hy1, hy2⟩ := sp_sk_le (t := t) n3
      obtain ⟨y, hy⟩ : ∃ y, y = sp_sk t m e := ⟨_, rfl⟩
      rw [← hy] at c1 c2 c3 hy1 hy2 hyy
      have c5' : rb_fr (scLW tx) u12 u6 := c5.mo (fun c i w => Or.inl w)
      have hlc6 : rb_lc tx 0 0 (L ++ [c]) u6 := rb_lc_co (fun c i p1 p2 p3 => c5.1 c i (fun w => by unfold scLM at w; omega)) hlc2
      have h56 : u6.1 5 tx = nI (q + 1) := by rw [c5.1 5 tx (by unfold scLM; omega)]; exact n8
      rw [c1, c2, rb_b2_some, rb_b2_some]
      by_cases hend : sp_sg t m y = -1
      · have hym : y = m := by have := sp_sg_end hend W; omega
        rw [if_pos hend, if_neg (show ¬ sp_sg t m y = 59 by rw [hend]; decide)]
        rw [hym] at c3
        exact ⟨1, s20, u6, rfl, rfl, x3.tr c4, x4'.tr c5', Or.inl ⟨rfl, L ++ [c], hLw2, by omega, by omega, by omega, c3, hlc6, by rw [hlen2]; exact h56⟩⟩
      · rw [if_neg hend]
        have Q20 := c3
        obtain ⟨s21, u21, d1, d2, d3, d4, d5⟩ := LS_look W hy2 c3
        rw [hyy] at d1 d2 d3
        have p59 : xf_Rd_passesL 59 s20 = if sp_sg t m y = 59 then rb_lt (rb_sI s21 7 1 ((s21.1 7 1) + 1)) (fun s5 => some (1, s5)) else some (0, s21) := by
          unfold xf_Rd_passesL
          rw [d1, rb_b2_some]
        by_cases h59 : sp_sg t m y = 59
        · have hym := sp_sg_lt W hend
          rw [p59, if_pos h59, d3.1.2.2, nI_1, rb_lt_eq, rb_b2_some, if_neg (show ¬ (1 : Int32) = 0 by decide), nI_1, if_pos h59, c3.2.1.2.2, nI_1, rb_lt_eq]
          -- the class looked once more
          have Q22 : rb_LS m t tx 0 y (sp_fl (L ++ [c])) (sp_ts (L ++ [c])) s21 u6 := by
            obtain ⟨q1, q2, q3, q4, q5, q6, q7, q8, q9⟩ := c3
            obtain ⟨p1, p2, p3, p4, p5, p6, p7, p8, p9⟩ := d3
            exact ⟨p1, q2, q3, q4, q5, p6, p7, q8, q9⟩
          obtain ⟨e1, e2, e3⟩ := LS_pass Q22
          obtain ⟨cd, σ', τ', o1, o2, o3, o4, o5⟩ := ih (q + 1) (y + 1) f g (L ++ [c]) _ _ (by omega) (by omega) (by omega) (by omega) (by omega) hlen2 hLw2 (by omega) (by omega) e1 (rb_lc_co (fun c i p1 p2 p3 => e3.1 c i (fun w => by unfold scLM at w; omega)) hlc6) (by rw [e3.1 5 tx (by unfold scLM; omega)]; exact h56)
          exact ⟨cd, σ', τ', o1, o2, (((x3.tr c4).tr d4).tr e2).tr o3, ((x4'.tr c5').tr (e3.mo (fun c i w => Or.inl w))).tr o4, o5⟩
        · rw [p59, if_neg h59, rb_b2_some, if_pos rfl, if_neg h59]
          exact ⟨2, s21, u6, rfl, rfl, (x3.tr c4).tr d4, x4'.tr c5', Or.inr ⟨by omega, y, hy2, d3.1.2.2, Or.inr ⟨c3.2.2.1, c3.2.1, hyy, hend⟩⟩⟩
    · rw [if_pos n1, n4.1, if_neg (rb_neg1 (show e < 2 ^ 31 by omega))]
      exact ⟨0, s18, u12, rfl, rfl, x3, x4', Or.inr ⟨by omega, e, n2, n3, Or.inl n4.1⟩⟩
def scLT (tx c i : Nat) : Prop := scLW tx c i ∨ (c = 0 ∧ i = 14)
theorem rb_readL (htx : tx ≤ 4) (R : RTape σ τ) : ∃ r r2 σ' τ', xf_LR_readAll σ = some (r, σ') ∧ xf_M_readLaw (nI tx) τ = some (r2, τ') ∧ rb_fr scLX σ σ' ∧ rb_fr (scLT tx) τ τ' ∧ ((r = 1 ∧ r2 = -1 ∧ ∃ L : List sp_Cl, sp_lw L ∧ L.length ≤ 140 ∧ (sp_fl L).length ≤ 240 ∧ sp_tot L ≤ 520 ∧ σ'.1 8 1 = nI (sp_fl L).length ∧ rb_rw 9 0 (sp_fl L) σ' ∧ rm_law tx L τ') ∨ (r = 0 ∧ ∃ e, e ≤ 240 ∧ σ'.1 7 1 = nI e ∧ r2 = nI e)) := by
  obtain ⟨m, t, R1, R2, R3, R4, R5, R6⟩ := R
  have W : tw m t := ⟨R1, R2⟩
  obtain ⟨s3, hs3⟩ : ∃ s, s = rb_sI (rb_sI σ 7 1 0) 8 1 0 := ⟨_, rfl⟩
  obtain ⟨u7, hu7⟩ : ∃ s, s = rb_sI (rb_sI (rb_sI (rb_sI τ 0 14 (nI tx)) 0 3 0) 0 4 (-1)) 0 5 0 := ⟨_, rfl⟩
  obtain ⟨u12, hu12⟩ : ∃ s, s = rb_sI (rb_sI u7 4 tx 0) 5 tx 0 := ⟨_, rfl⟩
  have f3 : rb_fr scLX σ s3 := by
    rw [hs3]
    exact (rb_fr.sI (show scLX 7 1 from Or.inl ⟨rfl, rfl⟩)).sI' (show scLX 8 1 from Or.inr (Or.inl ⟨rfl, rfl⟩))
  have f7 : rb_fr (scLT tx) τ u7 := by
    rw [hu7]
    exact (((rb_fr.sI (show scLT tx 0 14 from Or.inr ⟨rfl, rfl⟩)).sI' (show scLT tx 0 3 from Or.inl (Or.inl (Or.inl ⟨rfl, by omega⟩)))).sI' (show scLT tx 0 4 from Or.inl (Or.inl (Or.inl ⟨rfl, by omega⟩)))).sI' (show scLT tx 0 5 from Or.inl (Or.inl (Or.inl ⟨rfl, by omega⟩)))
  have f12 : rb_fr (scLT tx) τ u12 := by
    rw [hu12]
    exact (f7.sI' (show scLT tx 4 tx from Or.inl (Or.inl (Or.inr (Or.inr ⟨rfl, rfl⟩))))).sI' (show scLT tx 5 tx from Or.inl (Or.inr (Or.inr ⟨rfl, rfl⟩)))
  have g7 : ∀ c i, (c ≠ 4 ∧ c ≠ 5) → u12.1 c i = u7.1 c i := fun c i h => by rw [hu12, rb_sIg _ _ _ _ _ _ (by omega), rb_sIg _ _ _ _ _ _ (by omega)]
  have Q : rb_LS m t tx 0 0 (sp_fl []) (sp_ts []) s3 u12 := by
    refine ⟨⟨?_, fun i hi => ?_, ?_⟩, ⟨?_, fun i hi => ?_, ?_⟩, ?_, ?_, ?_, ?_, trivial, ?_, trivial⟩
    · rw [f3.1 1 1 (by unfold scLX; omega)]; exact R3
    · rw [f3.1 2 i (by unfold scLX; omega)]; exact R5 i hi
    · rw [hs3, rb_sIg _ _ _ _ _ _ (by omega), rb_sI_eq]; rfl
    · rw [g7 _ _ (by omega), hu7, rb_sIg _ _ _ _ _ _ (by omega), rb_sIg _ _ _ _ _ _ (by omega), rb_sIg _ _ _ _ _ _ (by omega), rb_sIg _ _ _ _ _ _ (by omega)]; exact R4
    · rw [g7 _ _ (by omega), hu7, rb_sIg _ _ _ _ _ _ (by omega), rb_sIg _ _ _ _ _ _ (by omega), rb_sIg _ _ _ _ _ _ (by omega), rb_sIg _ _ _ _ _ _ (by omega)]; exact R6 i hi
    · rw [g7 _ _ (by omega), hu7, rb_sIg _ _ _ _ _ _ (by omega), rb_sIg _ _ _ _ _ _ (by omega), rb_sI_eq]; rfl
    · rw [g7 _ _ (by omega), hu7, rb_sIg _ _ _ _ _ _ (by omega), rb_sI_eq]
    · rw [g7 _ _ (by omega), hu7, rb_sI_eq]; rfl
    · rw [g7 _ _ (by omega), hu7, rb_sIg _ _ _ _ _ _ (by omega), rb_sIg _ _ _ _ _ _ (by omega), rb_sIg _ _ _ _ _ _ (by omega), rb_sI_eq]
    · rw [hs3, rb_sI_eq]; rfl
    · rw [hu12, rb_sIg _ _ _ _ _ _ (by omega), rb_sI_eq]; rfl
  have h5 : u12.1 5 tx = nI 0 := by rw [hu12, rb_sI_eq]; rfl
  obtain ⟨cd, σ', τ', o1, o2, o3, o4, o5⟩ := rb_lawl W htx (m + 1) 0 0 rb_FU rb_FU [] s3 u12 (by omega) (by unfold rb_FU; omega) (by unfold rb_FU; omega) (by omega) (by omega) rfl (fun q hq => by simp at hq) (Nat.le_refl 0) (Nat.le_refl 0) Q trivial h5
  have SX : xf_LR_readAll σ = if cd = 0 then some (0, σ') else if cd = 1 then some (1, σ') else if cd = 2 then some (0, σ') else some (0, σ') := by
    have o1' : xl_LR_readAll_15 rb_FU 0 s3 = some (cd, σ') := o1
    unfold xf_LR_readAll
    rw [rb_lt_eq, rb_lt_eq, ← hs3, o1', rb_b2_some]
  have SM : xf_M_readLaw (nI tx) τ = rb_b2 (xf_M_atEnd τ') fun r18 s16 => some (r18, s16) := by
    have eo : xf_M_open (nI tx) τ = some u12 := by
      unfold xf_M_open
      rw [rb_lt_eq, rb_lt_eq, rb_lt_eq, rb_lt_eq, ← hu7, rb_ib_nI (by omega) (by decide), if_pos rfl, nI_clamp (by omega), rb_lt_eq, rb_lt_eq, ← hu12]
    unfold xf_M_readLaw
    rw [eo, rb_b1_some]
    cases hc : xf_M_clause u12 with
    | none => rw [hc] at o2; exact absurd o2 (by intro w; cases w)
    | some s => rw [hc, rb_b1_some] at o2; rw [rb_b1_some, o2, rb_b1_some]
  have o4' : rb_fr (scLT tx) u12 τ' := o4.mo (fun c i w => Or.inl w)
  rcases o5 with ⟨n1, L, n2, n3, n4, n5, n6, n7, n8⟩ | ⟨n1, e, n2, n3, n4⟩
  · obtain ⟨s2, u2, c1, c2, c3, c4, c5⟩ := LS_look W (Nat.le_refl m) n6
    have hk : sp_sk t m m = m := by have := sp_sk_le (t := t) (Nat.le_refl m); omega
    have hg : sp_sg t m m = -1 := by unfold sp_sg; rw [if_neg (by omega)]
    rw [hk] at c2 c3
    rw [hg] at c2
    unfold xf_M_atEnd at SM
    rw [if_pos n6.2.2.1, c2, rb_b2_some, if_pos rfl, c3.2.2.1, rb_b2_some] at SM
    rw [if_neg (show ¬ cd = 0 by omega), if_pos n1] at SX
    refine ⟨1, -1, σ', u2, SX, SM, f3.tr o3, (f12.tr o4').tr (c5.mo (fun c i w => Or.inl (Or.inl w))), Or.inl ⟨rfl, rfl, L, n2, by omega, by omega, by rw [sp_tot_ts]; omega, n6.2.2.2.2.2.1, n6.2.2.2.2.2.2.1, ?_, rb_lc_lm (rb_lc_co (fun c i p1 p2 p3 => c5.1 c i (fun w => by unfold scLM at w; omega)) n7) ?_⟩⟩
    · rw [c5.1 5 tx (by unfold scLM; omega)]; exact n8
    · exact c3.2.2.2.2.2.2.2.2
  · have SX' : xf_LR_readAll σ = some (0, σ') := by rw [SX, if_neg n1, ite_self, ite_self]
    rcases n4 with n4 | ⟨n4, n5, n6, n7⟩
    · unfold xf_M_atEnd at SM
      rw [n4, if_neg (rb_neg1 (show e < 2 ^ 31 by omega)), rb_b2_some] at SM
      exact ⟨0, nI e, σ', τ', SX', SM, f3.tr o3, f12.tr o4', Or.inr ⟨rfl, e, by omega, n3, rfl⟩⟩
    · obtain ⟨u, l1, l2, l3⟩ := sm_look W n2 n5
      rw [n6] at l1 l2
      have w : u.1 0 4 = -1 := by rw [l3.1 0 4 (by unfold scB; omega)]; exact n4
      obtain ⟨v, g1, g2, g3⟩ := sm_bad w l2.2.2
      unfold xf_M_atEnd at SM
      rw [if_pos n4, l1, rb_b2_some, if_neg n7, g1, rb_b1_some, g2, rb_b2_some] at SM
      exact ⟨0, nI e, σ', v, SX', SM, f3.tr o3, ((f12.tr o4').tr (l3.mo (fun c i w => Or.inl (Or.inl (scB_L c i w))))).tr (g3.mo (fun c i w => Or.inl (Or.inl (sc4_L c i w)))), Or.inr ⟨rfl, e, by omega, n3, rfl⟩⟩
end RBLD
