/-! LAWS: whole rows of signs, clauses, the worth -/
abbrev sp_Cl : Type := List sp_Tk × List sp_Tk
def rb_rw (c : Nat) : Nat → List Int32 → rb_St → Prop
  | _, [], _ => True
  | i, x :: xs, σ => σ.1 c i = x ∧ rb_rw c (i + 1) xs σ
theorem rb_rw_co {c : Nat} : ∀ {xs : List Int32} {i : Nat} {σ σ' : rb_St}, (∀ j, i ≤ j → j < i + xs.length → σ'.1 c j = σ.1 c j) → rb_rw c i xs σ → rb_rw c i xs σ'
  | [], _, _, _, _, _ => trivial
  | x :: xs, i, σ, σ', h, q => ⟨(h i (by omega) (by simp)).trans q.1, rb_rw_co (fun j h1 h2 => h j (by omega) (by simp; omega)) q.2⟩
theorem rb_rw_app {c : Nat} : ∀ {xs ys : List Int32} {i : Nat} {σ : rb_St}, rb_rw c i (xs ++ ys) σ ↔ rb_rw c i xs σ ∧ rb_rw c (i + xs.length) ys σ
  | [], ys, i, σ => by simp [rb_rw]
  | x :: xs, ys, i, σ => by
    show (σ.1 c i = x ∧ rb_rw c (i + 1) (xs ++ ys) σ) ↔ (σ.1 c i = x ∧ rb_rw c (i + 1) xs σ) ∧ rb_rw c (i + (xs.length + 1)) ys σ
    rw [rb_rw_app, and_assoc, show i + (xs.length + 1) = i + 1 + xs.length by omega]
def sp_fc (q : sp_Cl) : List Int32 := (if q.1 = [] then [] else q.1.map sp_cx ++ [-21]) ++ (q.2.map sp_cx ++ [-22])
def sp_fl : List sp_Cl → List Int32
  | [] => []
  | q :: L => sp_fc q ++ sp_fl L
def sp_tot : List sp_Cl → Nat
  | [] => 0
  | q :: L => q.1.length + q.2.length + sp_tot L
def sp_wo (lt : Nat → Int32) : List sp_Cl → Int32
  | [] => 0
  | q :: L => if q.1 = [] then (sp_evl lt q.2 []).headD 0 else if (sp_evl lt q.1 []).headD 0 = 0 then sp_wo lt L else (sp_evl lt q.2 []).headD 0
def sp_lwc (q : sp_Cl) : Prop := (∀ t ∈ q.1, sp_tkok t) ∧ (∀ t ∈ q.2, sp_tkok t) ∧ (q.1 = [] ∨ sp_tyl q.1 [] = some [true]) ∧ sp_tyl q.2 [] = some [false]
def sp_lw (L : List sp_Cl) : Prop := ∀ q ∈ L, sp_lwc q
theorem sp_oks1 {b : Bool} {st : List Int32} (h : sp_oks [b] st) : ∃ x, st = [x] ∧ sp_okv b x := by
  match st, h with
  | [x], h => exact ⟨x, rfl, h.1⟩
  | [], h => exact h.elim
  | _ :: _ :: _, h => exact h.2.elim
theorem sp_cx_ne {t : sp_Tk} (h : sp_tkok t) : sp_cx t ≠ -22 ∧ sp_cx t ≠ -21 := by
  obtain ⟨c, v⟩ := t
  obtain ⟨h1, h2, h3⟩ := h
  simp only at h1 h2 h3
  have : c = 0 ∨ c = 1 ∨ c = 2 ∨ c = 3 ∨ c = 4 ∨ c = 5 ∨ c = 6 ∨ c = 7 ∨ c = 8 ∨ c = 9 ∨ c = 10 ∨ c = 11 := by omega
  rcases this with rfl | rfl | rfl | rfl | rfl | rfl | rfl | rfl | rfl | rfl | rfl | rfl
  · have hv := h2 rfl
    have e : sp_cx (0, v) = nI v := rfl
    rw [e]
    constructor
    · intro q
      have := nI_pos (n := v) (by omega)
      rw [q] at this
      exact this (by decide)
    · intro q
      have := nI_pos (n := v) (by omega)
      rw [q] at this
      exact this (by decide)
  · have hv := h3 rfl
    have : v = 0 ∨ v = 1 ∨ v = 2 ∨ v = 3 ∨ v = 4 ∨ v = 5 := by omega
    rcases this with rfl | rfl | rfl | rfl | rfl | rfl <;> decide
  all_goals first | exact (by decide : (-11 : Int32) ≠ -22 ∧ (-11 : Int32) ≠ -21) | exact (by decide : (-12 : Int32) ≠ -22 ∧ (-12 : Int32) ≠ -21) | exact (by decide : (-13 : Int32) ≠ -22 ∧ (-13 : Int32) ≠ -21) | exact (by decide : (-14 : Int32) ≠ -22 ∧ (-14 : Int32) ≠ -21) | exact (by decide : (-15 : Int32) ≠ -22 ∧ (-15 : Int32) ≠ -21) | exact (by decide : (-16 : Int32) ≠ -22 ∧ (-16 : Int32) ≠ -21) | exact (by decide : (-17 : Int32) ≠ -22 ∧ (-17 : Int32) ≠ -21) | exact (by decide : (-20 : Int32) ≠ -22 ∧ (-20 : Int32) ≠ -21) | exact (by decide : (-18 : Int32) ≠ -22 ∧ (-18 : Int32) ≠ -21) | exact (by decide : (-19 : Int32) ≠ -22 ∧ (-19 : Int32) ≠ -21)
section RBE
variable {k N : Nat} {lt : Nat → Int32}
theorem sx_runl (hN : N ≤ 240) (hok : ∀ v, v < 6 → sp_okv false (lt v)) : ∀ (ts : List sp_Tk) (T T' : List Bool) (st : List Int32) (σ : rb_St) (i : Nat), (∀ t ∈ ts, sp_tkok t) → sp_oks T st → sp_tyl ts T = some T' → rb_xs k st σ → (∀ v, v < 6 → σ.1 (k + 2) v = lt v) → rb_rw (k + 1) i (ts.map sp_cx) σ → σ.1 k 1 = nI N → i + ts.length ≤ N →
    ∃ σ', (∀ f, xl_Law_worth_56 k (f + ts.length) 0 (nI i) σ = xl_Law_worth_56 k f 0 (nI (i + ts.length)) σ') ∧ rb_xs k (sp_evl lt ts st) σ' ∧ sp_oks T' (sp_evl lt ts st) ∧ rb_fr (rb_c3 k) σ σ' := by
  intro ts
  induction ts with
  | nil =>
    intro T T' st σ i _ h hT hx _ _ _ _
    cases hT
    exact ⟨σ, fun f => rfl, hx, h, rb_fr.rf⟩
  | cons t ts ih =>
    intro T T' st σ i ht h hT hx hlt hr hs hi
    simp only [List.length_cons] at hi
    have hT2 : ∃ T1, sp_ty1 t.1 T = some T1 ∧ sp_tyl ts T1 = some T' ∧ T.length < 60 := by
      unfold sp_tyl at hT
      split at hT
      · cases hT
      · split at hT
        · cases hT
        · rename_i s hs
          exact ⟨s, hs, hT, by omega⟩
    obtain ⟨T1, q1, q2, q3⟩ := hT2
    have hlen := sp_oks_len h
    have htk := ht t (List.mem_cons_self ..)
    obtain ⟨σ1, a1, a2, a3⟩ := sx_run1 htk hlt h q1 hx (by omega)
    have h1 := sp_ev1_ok htk hok h q1
    obtain ⟨σ2, b1, b2, b3, b4⟩ := ih T1 T' (sp_ev1 lt t st) σ1 (i + 1) (fun t ht2 => ht t (List.mem_cons_of_mem _ ht2)) h1 q2 a2 (fun v hv => by rw [a3.1 _ _ (by unfold rb_c3; omega)]; exact hlt v hv) (rb_rw_co (fun j _ _ => a3.1 _ _ (by unfold rb_c3; omega)) hr.2) (by rw [a3.1 _ _ (by unfold rb_c3; omega)]; exact hs) (by omega)
    obtain ⟨n1, n2⟩ := sp_cx_ne htk
    refine ⟨σ2, fun f => ?_, b2, b3, a3.tr b4⟩
    rw [show i + (t :: ts).length = i + 1 + ts.length by simp; omega, ← b1 f]
    show (if σ.1 k 1 ≤ nI i then _ else if rb_ib (nI i) 240 then if (0 : Int32) = 0 then if (σ.1 (k + 1) (nI i).toNatClampNeg) = (-22) then _ else if (σ.1 (k + 1) (nI i).toNatClampNeg) = (-21) then _ else rb_b1 (xf_Law_run k (σ.1 (k + 1) (nI i).toNatClampNeg) σ) (fun s20 => xl_Law_worth_56 k (f + ts.length) 0 (nI i + 1) s20) else _ else none) = _
    have hr1 : σ.1 (k + 1) i = sp_cx t := hr.1
    rw [hs, if_neg (nI_ge (by omega) (by omega)), rb_ib_nI (by omega) (by decide), if_pos rfl, if_pos rfl, nI_clamp (by omega), hr1, if_neg n1, if_neg n2, a1, rb_b1_some, nI_1]
theorem sx_skip (hN : N ≤ 240) {σ : rb_St} (hs : σ.1 k 1 = nI N) : ∀ (ts : List sp_Tk) (i f : Nat), (∀ t ∈ ts, sp_tkok t) → rb_rw (k + 1) i (ts.map sp_cx ++ [-22]) σ → i + ts.length + 1 ≤ N → xl_Law_worth_56 k (f + ts.length + 1) 1 (nI i) σ = xl_Law_worth_56 k f 0 (nI (i + ts.length + 1)) σ := by
  intro ts
  induction ts with
  | nil =>
    intro i f _ hr hi
    have hr1 : σ.1 (k + 1) i = -22 := hr.1
    simp only [List.length_nil] at hi
    show (if σ.1 k 1 ≤ nI i then _ else if rb_ib (nI i) 240 then if (1 : Int32) = 0 then _ else if (σ.1 (k + 1) (nI i).toNatClampNeg) = (-22) then xl_Law_worth_56 k f 0 (nI i + 1) σ else _ else none) = _
    rw [hs, if_neg (nI_ge (by omega) (by omega)), rb_ib_nI (by omega) (by decide), if_pos rfl, if_neg (by decide), nI_clamp (by omega), hr1, if_pos rfl, nI_1]
    rfl
  | cons t ts ih =>
    intro i f ht hr hi
    simp only [List.length_cons] at hi
    have hr1 : σ.1 (k + 1) i = sp_cx t := hr.1
    have n1 := (sp_cx_ne (ht t (List.mem_cons_self ..))).1
    have := ih (i + 1) f (fun t h => ht t (List.mem_cons_of_mem _ h)) hr.2 (by omega)
    rw [show i + (t :: ts).length + 1 = i + 1 + ts.length + 1 by simp; omega, ← this]
    show (if σ.1 k 1 ≤ nI i then _ else if rb_ib (nI i) 240 then if (1 : Int32) = 0 then _ else if (σ.1 (k + 1) (nI i).toNatClampNeg) = (-22) then _ else xl_Law_worth_56 k (f + ts.length + 1) 1 (nI i + 1) σ else none) = _
    rw [hs, if_neg (nI_ge (by omega) (by omega)), rb_ib_nI (by omega) (by decide), if_pos rfl, if_neg (by decide), nI_clamp (by omega), hr1, if_neg n1, nI_1]
theorem sx_wol (hN : N ≤ 240) (hok : ∀ v, v < 6 → sp_okv false (lt v)) : ∀ (L : List sp_Cl) (σ : rb_St) (i f : Nat), sp_lw L → rb_xs k [] σ → (∀ v, v < 6 → σ.1 (k + 2) v = lt v) → rb_rw (k + 1) i (sp_fl L) σ → σ.1 k 1 = nI N → i + (sp_fl L).length = N → N - i < f →
    ∃ σ', ((xl_Law_worth_56 k f 0 (nI i) σ = some (1, σ') ∧ sp_wo lt L = 0) ∨ (xl_Law_worth_56 k f 0 (nI i) σ = some (0, σ') ∧ rb_xs k [sp_wo lt L] σ')) ∧ rb_fr (rb_c3 k) σ σ' := by
  intro L
  induction L with
  | nil =>
    intro σ i f _ hx _ _ hs hi hf
    obtain ⟨f, rfl⟩ : ∃ q, f = q + 1 := ⟨f - 1, by omega⟩
    simp only [sp_fl, List.length_nil] at hi
    refine ⟨σ, Or.inl ⟨?_, rfl⟩, rb_fr.rf⟩
    show (if σ.1 k 1 ≤ nI i then some (1, σ) else _) = _
    rw [hs, if_pos (nI_le (by omega) (by omega))]
  | cons q L ih =>
    intro σ i f hw hx hlt hr hs hi hf
    obtain ⟨t, s⟩ := q
    obtain ⟨w1, w2, w3, w4⟩ := hw (t, s) (List.mem_cons_self ..)
    simp only at w1 w2 w3 w4
    have hw' : sp_lw L := fun q hq => hw q (List.mem_cons_of_mem _ hq)
    -- what the sum answers
    have hsum : ∀ (σ0 : rb_St) (i0 f0 : Nat), rb_xs k [] σ0 → (∀ v, v < 6 → σ0.1 (k + 2) v = lt v) → rb_rw (k + 1) i0 (s.map sp_cx ++ [-22]) σ0 → σ0.1 k 1 = nI N → i0 + s.length + 1 ≤ N → N - i0 < f0 → ∃ σ', xl_Law_worth_56 k f0 0 (nI i0) σ0 = some (0, σ') ∧ rb_xs k [(sp_evl lt s []).headD 0] σ' ∧ rb_fr (rb_c3 k) σ0 σ' := by
      intro σ0 i0 f0 hx0 hl0 hr0 hs0 hi0 hf0
      obtain ⟨r1, r2⟩ := rb_rw_app.mp hr0
      obtain ⟨σ1, a1, a2, a3, a4⟩ := sx_runl hN hok s [] [false] [] σ0 i0 w2 trivial w4 hx0 hl0 r1 hs0 (by omega)
      obtain ⟨x, x1, x2⟩ := sp_oks1 a3
      obtain ⟨f1, rfl⟩ : ∃ q, f0 = q + 1 + s.length := ⟨f0 - 1 - s.length, by omega⟩
      refine ⟨σ1, ?_, by rw [x1] at a2 ⊢; exact a2, a4⟩
      rw [a1]
      have e : σ1.1 (k + 1) (i0 + s.length) = -22 := by
        rw [a4.1 _ _ (by unfold rb_c3; omega)]
        have := r2.1
        simpa using this
      show (if σ1.1 k 1 ≤ nI (i0 + s.length) then _ else if rb_ib (nI (i0 + s.length)) 240 then if (0 : Int32) = 0 then if (σ1.1 (k + 1) (nI (i0 + s.length)).toNatClampNeg) = (-22) then some (0, σ1) else _ else _ else none) = _
      rw [a4.1 k 1 (by unfold rb_c3; omega), hs0, if_neg (nI_ge (by omega) (by omega)), rb_ib_nI (by omega) (by decide), if_pos rfl, if_pos rfl, nI_clamp (by omega), e, if_pos rfl]
    by_cases ht : t = []
    · subst ht
      have e1 : sp_fl (([], s) :: L) = (s.map sp_cx ++ [-22]) ++ sp_fl L := by
        show sp_fc ([], s) ++ sp_fl L = _
        unfold sp_fc
        simp
      rw [e1] at hr hi
      obtain ⟨r1, r2⟩ := rb_rw_app.mp hr
      simp only [List.length_append, List.length_map, List.length_cons, List.length_nil] at hi
      obtain ⟨σ', a1, a2, a3⟩ := hsum σ i f hx hlt r1 hs (by omega) hf
      exact ⟨σ', Or.inr ⟨a1, a2⟩, a3⟩
    · have e1 : sp_fl ((t, s) :: L) = (t.map sp_cx) ++ ([-21] ++ ((s.map sp_cx ++ [-22]) ++ sp_fl L)) := by
        show sp_fc (t, s) ++ sp_fl L = _
        unfold sp_fc
        simp [ht]
      rw [e1] at hr hi
      obtain ⟨r1, r2⟩ := rb_rw_app.mp hr
      obtain ⟨r3, r4⟩ := rb_rw_app.mp r2
      obtain ⟨r5, r6⟩ := rb_rw_app.mp r4
      simp only [List.length_append, List.length_map, List.length_cons, List.length_nil] at hi r3 r4 r5 r6
      obtain ⟨σ1, a1, a2, a3, a4⟩ := sx_runl hN hok t [] [true] [] σ i w1 trivial (w3.resolve_left ht) hx hlt r1 hs (by omega)
      obtain ⟨x, x1, x2⟩ := sp_oks1 a3
      rw [x1] at a2
      obtain ⟨f1, rfl⟩ : ∃ q, f = q + 1 + t.length := ⟨f - 1 - t.length, by omega⟩
      obtain ⟨σ2, b1, b2, b3⟩ := sx_pop a2 (by simp)
      have fr2 := a4.tr b3
      have e2 : σ1.1 (k + 1) (i + t.length) = -21 := by
        rw [a4.1 _ _ (by unfold rb_c3; omega)]
        exact r3.1
      have step : xl_Law_worth_56 k (f1 + 1 + t.length) 0 (nI i) σ = if x = 0 then xl_Law_worth_56 k f1 1 (nI (i + t.length + 1)) σ2 else xl_Law_worth_56 k f1 0 (nI (i + t.length + 1)) σ2 := by
        rw [a1]
        show (if σ1.1 k 1 ≤ nI (i + t.length) then _ else if rb_ib (nI (i + t.length)) 240 then if (0 : Int32) = 0 then if (σ1.1 (k + 1) (nI (i + t.length)).toNatClampNeg) = (-22) then _ else if (σ1.1 (k + 1) (nI (i + t.length)).toNatClampNeg) = (-21) then rb_b2 (xf_Law_pop k σ1) (fun r24 s22 => if r24 = 0 then xl_Law_worth_56 k f1 1 (nI (i + t.length) + 1) s22 else xl_Law_worth_56 k f1 0 (nI (i + t.length) + 1) s22) else _ else _ else none) = _
        rw [a4.1 k 1 (by unfold rb_c3; omega), hs, if_neg (nI_ge (by omega) (by omega)), rb_ib_nI (by omega) (by decide), if_pos rfl, if_pos rfl, nI_clamp (by omega), e2, if_neg (by decide), if_pos rfl, b1, rb_b2_some, nI_1]
      have hs2 : σ2.1 k 1 = nI N := by rw [fr2.1 _ _ (by unfold rb_c3; omega)]; exact hs
      have hlt2 : ∀ v, v < 6 → σ2.1 (k + 2) v = lt v := fun v hv => by rw [fr2.1 _ _ (by unfold rb_c3; omega)]; exact hlt v hv
      have rc : ∀ (j : Nat) (xs : List Int32), rb_rw (k + 1) j xs σ → rb_rw (k + 1) j xs σ2 := fun j xs => rb_rw_co (fun j _ _ => fr2.1 _ _ (by unfold rb_c3; omega))
      have hw0 : sp_wo lt ((t, s) :: L) = if x = 0 then sp_wo lt L else (sp_evl lt s []).headD 0 := by
        show (if t = [] then _ else if (sp_evl lt t []).headD 0 = 0 then _ else _) = _
        rw [if_neg ht, x1]
        rfl
      rw [step, hw0]
      by_cases hx0 : x = 0
      · rw [if_pos hx0, if_pos hx0]
        obtain ⟨f2, rfl⟩ : ∃ q, f1 = q + s.length + 1 := ⟨f1 - 1 - s.length, by omega⟩
        rw [sx_skip hN hs2 s (i + t.length + 1) f2 w2 (rc _ _ r5) (by omega)]
        obtain ⟨σ3, c1, c2⟩ := ih σ2 (i + t.length + 1 + s.length + 1) f2 hw' b2 hlt2 (by have := rc _ _ r6; rw [show i + t.length + 1 + s.length + 1 = i + t.length + (0 + 1) + (s.length + (0 + 1)) by omega]; exact this) hs2 (by omega) (by omega)
        exact ⟨σ3, c1, fr2.tr c2⟩
      · rw [if_neg hx0, if_neg hx0]
        obtain ⟨σ3, c1, c2, c3⟩ := hsum σ2 (i + t.length + 1) f1 b2 hlt2 (rc _ _ r5) hs2 (by omega) (by omega)
        exact ⟨σ3, Or.inr ⟨c1, c2⟩, fr2.tr c3⟩
end RBE
def rb_lt6 (p0 p1 p2 p3 p4 p5 : Int32) (v : Nat) : Int32 := if v = 0 then p0 else if v = 1 then p1 else if v = 2 then p2 else if v = 3 then p3 else if v = 4 then p4 else p5
def rb_c4 (k : Nat) (c i : Nat) : Prop := c = k + 3 ∨ c = k + 2 ∨ (c = k ∧ i = 4)
/-- the class's law at cell k -/
def rx_law (k : Nat) (L : List sp_Cl) (σ : rb_St) : Prop := σ.1 k 1 = nI (sp_fl L).length ∧ rb_rw (k + 1) 0 (sp_fl L) σ
theorem sx_worth {k : Nat} {L : List sp_Cl} {σ : rb_St} (hw : sp_lw L) (hN : (sp_fl L).length ≤ 240) (h : rx_law k L σ) {p0 p1 p2 p3 p4 p5 : Int32} (hok : ∀ v, v < 6 → sp_okv false (rb_lt6 p0 p1 p2 p3 p4 p5 v)) : ∃ σ', xf_Law_worth k p0 p1 p2 p3 p4 p5 σ = some (sp_wo (rb_lt6 p0 p1 p2 p3 p4 p5) L, σ') ∧ rb_fr (rb_c4 k) σ σ' := by
  obtain ⟨s, hs⟩ : ∃ s, s = rb_sI (rb_sI (rb_sI (rb_sI (rb_sI (rb_sI (rb_sI σ (k + 2) 0 p0) (k + 2) 1 p1) (k + 2) 2 p2) (k + 2) 3 p3) (k + 2) 4 p4) (k + 2) 5 p5) k 4 0 := ⟨_, rfl⟩
  have f0 : rb_fr (rb_c4 k) σ s := by
    subst hs
    exact ((((((rb_fr.sI (Or.inr (Or.inl rfl))).sI' (Or.inr (Or.inl rfl))).sI' (Or.inr (Or.inl rfl))).sI' (Or.inr (Or.inl rfl))).sI' (Or.inr (Or.inl rfl))).sI' (Or.inr (Or.inl rfl))).sI' (Or.inr (Or.inr ⟨rfl, rfl⟩))
  have hl : ∀ v, v < 6 → s.1 (k + 2) v = rb_lt6 p0 p1 p2 p3 p4 p5 v := by
    intro v hv
    have : v = 0 ∨ v = 1 ∨ v = 2 ∨ v = 3 ∨ v = 4 ∨ v = 5 := by omega
    subst hs
    rw [rb_sI_row _ _ _ _ _ (by omega)]
    rcases this with rfl | rfl | rfl | rfl | rfl | rfl <;> simp [rb_sI_at, rb_lt6]
  have hx : rb_xs k [] s := ⟨by subst hs; exact rb_sI_eq _ _ _ _, trivial⟩
  obtain ⟨σ1, a1, a2⟩ := sx_wol (k := k) (N := (sp_fl L).length) hN hok L s 0 rb_FU hw hx hl (rb_rw_co (fun j _ _ => f0.1 _ _ (by unfold rb_c4; omega)) h.2) (by rw [f0.1 _ _ (by unfold rb_c4; omega)]; exact h.1) (by omega) (by unfold rb_FU; omega)
  have a2' : rb_fr (rb_c4 k) s σ1 := a2.mo (fun c i q => by unfold rb_c3 at q; unfold rb_c4; omega)
  unfold xf_Law_worth
  simp only [rb_lt_eq]
  rw [← hs]
  have e0 : nI 0 = (0 : Int32) := rfl
  rcases a1 with ⟨b1, b2⟩ | ⟨b1, b2⟩
  · refine ⟨σ1, ?_, f0.tr a2'⟩
    rw [← e0, e0, show (0 : Int32) = nI 0 from rfl] at *
    rw [b1, rb_b2_some, if_neg (by decide), b2]
  · obtain ⟨σ2, c1, c2, c3⟩ := sx_pop b2 (by simp)
    refine ⟨σ2, ?_, (f0.tr a2').tr (c3.mo (fun c i q => by unfold rb_c3 at q; unfold rb_c4; omega))⟩
    have b1' : xl_Law_worth_56 k rb_FU 0 0 s = some (0, σ1) := b1
    rw [b1', rb_b2_some, if_pos rfl, c1, rb_b2_some]
