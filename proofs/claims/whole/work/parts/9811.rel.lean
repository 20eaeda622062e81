/-! THE RELATION of both states -/
def RTape (σ τ : rb_St) : Prop := ∃ (m : Nat) (t : Nat → Nat), m ≤ 240 ∧ (∀ i, i < m → 0 < t i ∧ t i < 256) ∧ σ.1 1 1 = nI m ∧ τ.1 0 2 = nI m ∧ (∀ i, i < m → σ.1 2 i = nI (t i)) ∧ ∀ i, i < m → τ.1 1 i = nI (t i)
def RFig (fc : Nat) (fl : Nat → Nat) (ft : Nat → Nat → Nat) (σ τ : rb_St) : Prop := fc ≤ 6 ∧ σ.1 0 12 = nI fc ∧ τ.1 0 25 = nI fc ∧ ∀ j, j < fc → fl j ≤ 48 ∧ σ.1 (256 + 2 * j) 1 = nI (fl j) ∧ τ.1 16 j = nI (fl j) ∧ ∀ i, i < fl j → ft j i ≤ 20 ∧ σ.1 (256 + 2 * j + 1) i = nI (ft j i) ∧ τ.1 15 (48 * j + i) = nI (ft j i)
def RSeen (n : Nat) (σ τ : rb_St) : Prop := ∃ (sc : Nat) (sd ss sn si : Nat → Nat), sc ≤ 10 ∧ σ.1 0 15 = nI sc ∧ τ.1 0 47 = nI sc ∧ ∀ i, i < sc → (sd i < n ∧ ss i < n ∧ 1 ≤ sn i ∧ sn i ≤ 9 ∧ si i ≤ 1) ∧ σ.1 233 i = nI (sd i + 8 * ss i + 64 * sn i + 1024 * si i) ∧ τ.1 29 i = nI (sd i) ∧ τ.1 30 i = nI (ss i) ∧ τ.1 31 i = nI (sn i) ∧ τ.1 32 i = nI (si i)
def RRef (σ τ : rb_St) : Prop := ∀ i, i < 5 → σ.1 232 i = τ.1 18 i
def REnv (n : Nat) (ru tr : Nat → Nat) (lc ho : Nat) (La : Nat → List sp_Cl) (σ τ : rb_St) : Prop := gw n ru tr ∧ lww lc ho La ∧ gx n ru tr σ ∧ gm n ru tr τ ∧ lwx lc ho La σ ∧ lwm lc ho La τ
def ROth (n : Nat) (σ τ : rb_St) : Prop := (∃ fc fl ft, RFig fc fl ft σ τ) ∧ RTape σ τ ∧ RSeen n σ τ ∧ RRef σ τ ∧ RImg n σ τ
def RPol (n : Nat) (σ τ : rb_St) : Prop := PR n 18 σ (τ.1 17) ∧ RAct n σ τ
def Rel (σ τ : rb_St) : Prop := ∃ (n : Nat) (ru tr : Nat → Nat) (lc ho : Nat) (La : Nat → List sp_Cl), REnv n ru tr lc ho La σ τ ∧ ROth n σ τ ∧ RPol n σ τ
section RBL
variable {n lc ho fc : Nat} {ru tr fl : Nat → Nat} {ft : Nat → Nat → Nat} {La : Nat → List sp_Cl} {σ σ' τ τ' : rb_St} {ch ch' : Nat → Nat → Prop}
theorem RTape_fr (hx : rb_fr ch σ σ') (hm : rb_fr ch' τ τ') (h1 : ∀ c i, ch c i → ¬ ((c = 1 ∧ i = 1) ∨ c = 2)) (h2 : ∀ c i, ch' c i → ¬ ((c = 0 ∧ i = 2) ∨ c = 1)) (q : RTape σ τ) : RTape σ' τ' := by
  obtain ⟨m, t, a, b, c, d, e, f⟩ := q
  exact ⟨m, t, a, b, (hx.1 _ _ (fun w => h1 _ _ w (by omega))).trans c, (hm.1 _ _ (fun w => h2 _ _ w (by omega))).trans d, fun i hi => (hx.1 _ _ (fun w => h1 _ _ w (by omega))).trans (e i hi), fun i hi => (hm.1 _ _ (fun w => h2 _ _ w (by omega))).trans (f i hi)⟩
theorem RFig_fr (hx : rb_fr ch σ σ') (hm : rb_fr ch' τ τ') (h1 : ∀ c i, ch c i → ¬ ((c = 0 ∧ i = 12) ∨ (256 ≤ c ∧ c < 268))) (h2 : ∀ c i, ch' c i → ¬ ((c = 0 ∧ i = 25) ∨ (c = 15 ∧ i < 288) ∨ (c = 16 ∧ i < 6))) (q : RFig fc fl ft σ τ) : RFig fc fl ft σ' τ' := by
  obtain ⟨a, b, c, d⟩ := q
  refine ⟨a, (hx.1 _ _ (fun w => h1 _ _ w (by omega))).trans b, (hm.1 _ _ (fun w => h2 _ _ w (by omega))).trans c, fun j hj => ?_⟩
  obtain ⟨e1, e2, e3, e4⟩ := d j hj
  exact ⟨e1, (hx.1 _ _ (fun w => h1 _ _ w (by omega))).trans e2, (hm.1 _ _ (fun w => h2 _ _ w (by omega))).trans e3, fun i hi => ⟨(e4 i hi).1, (hx.1 _ _ (fun w => h1 _ _ w (by omega))).trans (e4 i hi).2.1, (hm.1 _ _ (fun w => h2 _ _ w (by omega))).trans (e4 i hi).2.2⟩⟩
theorem RSeen_fr (hx : rb_fr ch σ σ') (hm : rb_fr ch' τ τ') (h1 : ∀ c i, ch c i → ¬ ((c = 0 ∧ i = 15) ∨ c = 233)) (h2 : ∀ c i, ch' c i → ¬ ((c = 0 ∧ i = 47) ∨ (29 ≤ c ∧ c ≤ 32))) (q : RSeen n σ τ) : RSeen n σ' τ' := by
  obtain ⟨sc, sd, ss, sn, si, a, b, c, d⟩ := q
  refine ⟨sc, sd, ss, sn, si, a, (hx.1 _ _ (fun w => h1 _ _ w (by omega))).trans b, (hm.1 _ _ (fun w => h2 _ _ w (by omega))).trans c, fun i hi => ?_⟩
  obtain ⟨e0, e1, e2, e3, e4, e5⟩ := d i hi
  exact ⟨e0, (hx.1 _ _ (fun w => h1 _ _ w (by omega))).trans e1, (hm.1 _ _ (fun w => h2 _ _ w (by omega))).trans e2, (hm.1 _ _ (fun w => h2 _ _ w (by omega))).trans e3, (hm.1 _ _ (fun w => h2 _ _ w (by omega))).trans e4, (hm.1 _ _ (fun w => h2 _ _ w (by omega))).trans e5⟩
theorem RRef_fr (hx : rb_fr ch σ σ') (hm : rb_fr ch' τ τ') (h1 : ∀ c i, ch c i → ¬ c = 232) (h2 : ∀ c i, ch' c i → ¬ c = 18) (q : RRef σ τ) : RRef σ' τ' := fun i hi => by rw [hx.1 _ _ (fun w => h1 _ _ w (by omega)), hm.1 _ _ (fun w => h2 _ _ w (by omega))]; exact q i hi
theorem lwm_fr2 (W : lww lc ho La) (h : rb_fr ch τ τ') (hh : ∀ c i, ch c i → ¬ ((c = 0 ∧ (i = 13 ∨ i = 29)) ∨ ((c = 2 ∨ c = 3) ∧ i < 520 * lc) ∨ (c = 5 ∧ i < lc) ∨ (6 ≤ c ∧ c ≤ 8 ∧ i < 140 * lc))) (q : lwm lc ho La τ) : lwm lc ho La τ' := ⟨(h.1 0 13 (fun w => hh _ _ w (by omega))).trans q.1, (h.1 0 29 (fun w => hh _ _ w (by omega))).trans q.2.1, fun j hj => ⟨(h.1 5 j (fun w => hh _ _ w (by omega))).trans (q.2.2 j hj).1, rb_lm_co (fun c i p1 p2 p3 => h.1 _ _ (fun w => hh _ _ w (by have := (W.2.2 j hj).2.2.2; omega))) (fun c i p1 p2 p3 => h.1 _ _ (fun w => hh _ _ w (by have := (W.2.2 j hj).2.2.1; omega))) (q.2.2 j hj).2⟩⟩
/-- cells that are read only in the call that writes them -/
def scX (c i : Nat) : Prop := (3 ≤ c ∧ c ≤ 14) ∨ (235 ≤ c ∧ c ≤ 239) ∨ 268 ≤ c ∨ sc_law c i
def scM (c i : Nat) : Prop := (c = 0 ∧ (i = 0 ∨ i = 3 ∨ i = 4 ∨ i = 5 ∨ i = 14 ∨ i = 19 ∨ i = 26 ∨ i = 33)) ∨ (9 ≤ c ∧ c ≤ 12) ∨ (19 ≤ c ∧ c ≤ 21) ∨ (23 ≤ c ∧ c ≤ 28) ∨ ((c = 2 ∨ c = 3) ∧ 2080 ≤ i) ∨ c = 4 ∨ (c = 5 ∧ i = 4) ∨ (6 ≤ c ∧ c ≤ 8 ∧ 560 ≤ i) ∨ (c = 15 ∧ 288 ≤ i) ∨ (c = 16 ∧ i = 6)
theorem REnv_fr (hx : rb_fr ch σ σ') (hm : rb_fr ch' τ τ') (h1 : ∀ c i, ch c i → ¬ ((15 ≤ c ∧ c ≤ 17) ∨ (c = 0 ∧ (i = 9 ∨ i = 10)) ∨ (240 ≤ c ∧ c < 256 ∧ ((c % 4 = 0 ∧ i = 1) ∨ c % 4 = 1)))) (h2 : ∀ c i, ch' c i → ¬ ((c = 0 ∧ (i = 22 ∨ i = 13 ∨ i = 29)) ∨ c = 13 ∨ c = 14 ∨ ((c = 2 ∨ c = 3) ∧ i < 2080) ∨ (c = 5 ∧ i < 4) ∨ (6 ≤ c ∧ c ≤ 8 ∧ i < 560))) (q : REnv n ru tr lc ho La σ τ) : REnv n ru tr lc ho La σ' τ' := by
  obtain ⟨a, b, c, d, e, f⟩ := q
  have := b.1
  exact ⟨a, b, gx_fr hx (fun c i w q => h1 _ _ w (by omega)) c, gm_fr hm (fun c i w q => h2 _ _ w (by omega)) d, lwx_fr b hx (fun c i w q => h1 _ _ w (by omega)) e, lwm_fr2 b hm (fun c i w q => h2 _ _ w (by omega)) f⟩
theorem ROth_fr (hx : rb_fr ch σ σ') (hm : rb_fr ch' τ τ') (h1 : ∀ c i, ch c i → ¬ ((c = 0 ∧ (i = 12 ∨ i = 15)) ∨ (c = 1 ∧ i = 1) ∨ c = 2 ∨ (23 ≤ c ∧ c < 28) ∨ c = 232 ∨ c = 233 ∨ (256 ≤ c ∧ c < 268))) (h2 : ∀ c i, ch' c i → ¬ ((c = 0 ∧ (i = 25 ∨ i = 2 ∨ i = 47 ∨ i = 49)) ∨ c = 1 ∨ (c = 15 ∧ i < 288) ∨ (c = 16 ∧ i < 6) ∨ c = 18 ∨ (29 ≤ c ∧ c ≤ 33))) (q : ROth n σ τ) : ROth n σ' τ' := by
  obtain ⟨⟨fc, fl, ft, a⟩, b, c, d, e⟩ := q
  exact ⟨⟨fc, fl, ft, RFig_fr hx hm (fun c i w q => h1 _ _ w (by omega)) (fun c i w q => h2 _ _ w (by omega)) a⟩, RTape_fr hx hm (fun c i w q => h1 _ _ w (by omega)) (fun c i w q => h2 _ _ w (by omega)) b, RSeen_fr hx hm (fun c i w q => h1 _ _ w (by omega)) (fun c i w q => h2 _ _ w (by omega)) c, RRef_fr hx hm (fun c i w q => h1 _ _ w (by omega)) (fun c i w q => h2 _ _ w (by omega)) d, RImg_fr hx hm (fun c i w q => h1 _ _ w (by omega)) (fun c i w q => h2 _ _ w (by omega)) e⟩
theorem RPol_fr (hx : rb_fr ch σ σ') (hm : rb_fr ch' τ τ') (h1 : ∀ c i, ch c i → ¬ ((18 ≤ c ∧ c < 23) ∨ c = 28 ∨ (30 ≤ c ∧ c < 230))) (h2 : ∀ c i, ch' c i → ¬ ((c = 0 ∧ i = 35) ∨ c = 17 ∨ c = 22)) (q : RPol n σ τ) : RPol n σ' τ' :=
  ⟨PR_fr hx (fun c i w q => h1 _ _ w (by omega)) (fun i _ => hm.1 _ _ (fun w => h2 _ _ w (by omega))) q.1, RAct_fr hx hm (fun c i w q => h1 _ _ w (by omega)) (fun c i w q => h2 _ _ w (by omega)) q.2⟩
theorem Rel_fr (hx : rb_fr scX σ σ') (hm : rb_fr scM τ τ') (q : Rel σ τ) : Rel σ' τ' := by
  obtain ⟨n, ru, tr, lc, ho, La, a, b, c⟩ := q
  exact ⟨n, ru, tr, lc, ho, La, REnv_fr hx hm (fun c i w => by unfold scX sc_law at w; omega) (fun c i w => by unfold scM at w; omega) a, ROth_fr hx hm (fun c i w => by unfold scX sc_law at w; omega) (fun c i w => by unfold scM at w; omega) b, RPol_fr hx hm (fun c i w => by unfold scX sc_law at w; omega) (fun c i w => by unfold scM at w; omega) c⟩
/-- what acts change: the pole, the acts, and cells of the call -/
def acX (c i : Nat) : Prop := scX c i ∨ (18 ≤ c ∧ c < 23) ∨ c = 28 ∨ (30 ≤ c ∧ c < 230)
def acM (c i : Nat) : Prop := scM c i ∨ (c = 0 ∧ i = 35) ∨ c = 17 ∨ c = 22
theorem Rel_ac (hx : rb_fr acX σ σ') (hm : rb_fr acM τ τ') (a : REnv n ru tr lc ho La σ τ) (b : ROth n σ τ) (c : RPol n σ' τ') : Rel σ' τ' :=
  ⟨n, ru, tr, lc, ho, La, REnv_fr hx hm (fun c i w => by unfold acX scX sc_law at w; omega) (fun c i w => by unfold acM scM at w; omega) a, ROth_fr hx hm (fun c i w => by unfold acX scX sc_law at w; omega) (fun c i w => by unfold acM scM at w; omega) b, c⟩
end RBL
theorem rb_z0X (c i : Nat) (h : ¬ (c = 0 ∧ i = 10)) : rb_s0X.1 c i = 0 := by
  show (if c = 0 then (if i = 10 then (-1 : Int32) else 0) else 0) = 0
  by_cases h1 : c = 0
  · rw [if_pos h1, if_neg (by omega)]
  · rw [if_neg h1]
theorem rb_z0M (c i : Nat) (h : ¬ (c = 0 ∧ i = 29)) : rb_s0M.1 c i = 0 := by
  show (if c = 0 then (if i = 29 then (-1 : Int32) else 0) else 0) = 0
  by_cases h1 : c = 0
  · rw [if_pos h1, if_neg (by omega)]
  · rw [if_neg h1]
theorem Rel_0 : Rel rb_s0X rb_s0M := by
  refine ⟨0, fun _ => 0, fun _ => 0, 0, 0, fun _ => [], ⟨⟨by omega, fun i _ => (by decide : 0 < 100), fun i _ => (by decide : 0 < 100), fun h => by omega, fun h => by omega⟩, ⟨by omega, by omega, fun j hj => by omega⟩, ⟨rb_z0X _ _ (by omega), fun i _ => rb_z0X _ _ (by omega), fun i _ => by omega⟩, ⟨rb_z0M _ _ (by omega), fun i _ => rb_z0M _ _ (by omega), fun i _ => by omega⟩, ⟨rb_z0X _ _ (by omega), by decide, fun j hj => by omega⟩, ⟨rb_z0M _ _ (by omega), by decide, fun j hj => by omega⟩⟩, ⟨⟨0, fun _ => 0, fun _ _ => 0, by omega, rb_z0X _ _ (by omega), rb_z0M _ _ (by omega), fun j hj => by omega⟩, ⟨0, fun _ => 0, by omega, fun i hi => by omega, rb_z0X _ _ (by omega), rb_z0M _ _ (by omega), fun i hi => by omega, fun i hi => by omega⟩, ⟨0, fun _ => 0, fun _ => 0, fun _ => 0, fun _ => 0, by omega, rb_z0X _ _ (by omega), rb_z0M _ _ (by omega), fun i hi => by omega⟩, fun i _ => by rw [rb_z0X _ _ (by omega), rb_z0M _ _ (by omega)], Or.inl ⟨rb_z0X _ _ (by omega), rb_z0M _ _ (by omega)⟩⟩, ?_, 0, 0, by omega, by omega, rb_z0X _ _ (by omega), rb_z0X _ _ (by omega), rb_z0M _ _ (by omega), fun a ha => by omega⟩
  refine ⟨fun _ => 0, fun _ => 0, 0, fun _ _ => 0, 0, 0, fun _ _ => 0, ⟨⟨⟨by omega, fun p hp => by omega, fun p hp => by omega, fun p q hp => by omega⟩, fun d hd => by omega, ⟨by omega, by omega, fun i hi => by omega⟩, fun j hj => by omega, fun i hi => by omega⟩, by omega, by omega, by omega, fun b hb => by omega⟩, ⟨⟨rb_z0X _ _ (by omega), fun p hp => by omega, fun p hp => by omega⟩, ⟨rb_z0X _ _ (by omega), fun i hi => by omega⟩, rb_z0X _ _ (by omega), rb_z0X _ _ (by omega)⟩, fun b hb => by omega, ⟨fun p hp => by omega, fun p hp => by omega, ⟨by omega, rb_z0M _ _ (by omega), fun i hi => by omega⟩, rb_z0M _ _ (by omega), rb_z0M _ _ (by omega)⟩, rb_z0M _ _ (by omega), fun b hb => by omega⟩
