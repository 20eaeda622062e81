/-! LAWS: the reference's row of signs, its clauses, its worth -/
def rb_tm : Nat → List sp_Tk → rb_St → Prop
  | _, [], _ => True
  | b, t :: ts, τ => τ.1 2 b = nI t.1 ∧ (t.1 < 2 → τ.1 3 b = nI t.2) ∧ rb_tm (b + 1) ts τ
theorem rb_tm_co : ∀ {ts : List sp_Tk} {b : Nat} {τ τ' : rb_St}, (∀ j, b ≤ j → j < b + ts.length → τ'.1 2 j = τ.1 2 j ∧ τ'.1 3 j = τ.1 3 j) → rb_tm b ts τ → rb_tm b ts τ'
  | [], _, _, _, _, _ => trivial
  | t :: ts, b, τ, τ', h, q => by
    obtain ⟨h1, h2⟩ := h b (by omega) (by simp)
    exact ⟨h1.trans q.1, fun hh => h2.trans (q.2.1 hh), rb_tm_co (fun j a b => h j (by omega) (by simp; omega)) q.2.2⟩
theorem rb_tm_app : ∀ {ts us : List sp_Tk} {b : Nat} {τ : rb_St}, rb_tm b (ts ++ us) τ ↔ rb_tm b ts τ ∧ rb_tm (b + ts.length) us τ
  | [], us, b, τ => by simp [rb_tm]
  | t :: ts, us, b, τ => by
    show (τ.1 2 b = nI t.1 ∧ (t.1 < 2 → τ.1 3 b = nI t.2) ∧ rb_tm (b + 1) (ts ++ us) τ) ↔ (τ.1 2 b = nI t.1 ∧ (t.1 < 2 → τ.1 3 b = nI t.2) ∧ rb_tm (b + 1) ts τ) ∧ rb_tm (b + (ts.length + 1)) us τ
    rw [rb_tm_app, show b + (ts.length + 1) = b + 1 + ts.length by omega]
    simp only [and_assoc]
def rb_is10 (c i : Nat) : Prop := c = 10
section RBE
variable {lt : Nat → Int32} {x1 x3 : Int32} {E : Nat}
theorem sm_runl (hE : (520 : Int32) * x1 + x3 = nI E) (hE2 : E ≤ 2600) (hok : ∀ v, v < 6 → sp_okv false (lt v)) : ∀ (ts : List sp_Tk) (T T' : List Bool) (st : List Int32) (τ : rb_St) (b : Nat), (∀ t ∈ ts, sp_tkok t) → sp_oks T st → sp_tyl ts T = some T' → rb_stk 10 st τ → (∀ v, v < 6 → τ.1 9 v = lt v) → rb_tm b ts τ → b + ts.length ≤ E →
    ∃ τ', (∀ f, xl_M_workOut_12 x1 x3 (f + ts.length) (nI st.length) (nI b) τ = xl_M_workOut_12 x1 x3 f (nI (sp_evl lt ts st).length) (nI (b + ts.length)) τ') ∧ rb_stk 10 (sp_evl lt ts st) τ' ∧ sp_oks T' (sp_evl lt ts st) ∧ rb_fr rb_is10 τ τ' := by
  intro ts
  induction ts with
  | nil =>
    intro T T' st τ b _ h hT hx _ _ _
    cases hT
    exact ⟨τ, fun f => rfl, hx, h, rb_fr.rf⟩
  | cons t ts ih =>
    intro T T' st τ b ht h hT hx hlt hr hi
    simp only [List.length_cons] at hi
    have hT2 : ∃ T1, sp_ty1 t.1 T = some T1 ∧ sp_tyl ts T1 = some T' ∧ T.length < 60 := by
      unfold sp_tyl at hT
      split at hT
      · cases hT
      · split at hT
        · cases hT
        · rename_i s hs
          exact ⟨s, hs, hT, by omega⟩
    obtain ⟨T1, q1, q2, q3⟩ := hT2
    have hlen := sp_oks_len h
    have htk := ht t (List.mem_cons_self ..)
    have h1 := sp_ev1_ok htk hok h q1
    have one : ∃ τ1, (∀ f, xl_M_workOut_12 x1 x3 (f + 1) (nI st.length) (nI b) τ = xl_M_workOut_12 x1 x3 f (nI (sp_ev1 lt t st).length) (nI (b + 1)) τ1) ∧ rb_stk 10 (sp_ev1 lt t st) τ1 ∧ rb_fr rb_is10 τ τ1 := by
      obtain ⟨c, v⟩ := t
      obtain ⟨k1, k2, k3⟩ := htk
      obtain ⟨r1, r2, r3⟩ := hr
      unfold sp_ty1 at q1
      unfold sp_ev1
      simp only at k1 k2 k3 q1 r1 r2 ⊢
      have gd : ∀ (f h : Nat), xl_M_workOut_12 x1 x3 (f + 1) (nI h) (nI b) τ = if nI c = 0 then xj_M_workOut_45 (fun b4 b5 τ => xl_M_workOut_12 x1 x3 f b4 b5 τ) x1 x3 (nI h) (nI b) τ else if nI c = 1 then xj_M_workOut_45 (fun b4 b5 τ => xl_M_workOut_12 x1 x3 f b4 b5 τ) x1 x3 (nI h) (nI b) τ else if nI c = 9 then if rb_ib (nI h - 1) 80 then rb_lt (rb_sI τ 10 (nI h - 1).toNatClampNeg (1 - (τ.1 10 (nI h - 1).toNatClampNeg))) (fun s22 => xl_M_workOut_12 x1 x3 f (nI h) (nI b + 1) s22) else none else if rb_ib ((nI h + (-1)) - 1) 80 then if rb_ib (nI h + (-1)) 80 then rb_b1 (xf_M_worked (nI c) ((τ.1 10 ((nI h + (-1)) - 1).toNatClampNeg).toInt64) ((τ.1 10 (nI h + (-1)).toNatClampNeg).toInt64) τ) (fun r17 => rb_lt (rb_sI τ 10 ((nI h + (-1)) - 1).toNatClampNeg r17) (fun s19 => xl_M_workOut_12 x1 x3 f (nI h + (-1)) (nI b + 1) s19)) else none else none := by
        intro f h
        show (if ((520 * x1) + x3) ≤ nI b then _ else if rb_ib (nI b) 2600 then if (τ.1 2 (nI b).toNatClampNeg) = 0 then _ else if (τ.1 2 (nI b).toNatClampNeg) = 1 then _ else if (τ.1 2 (nI b).toNatClampNeg) = 9 then _ else if rb_ib ((nI h + (-1)) - 1) 80 then if rb_ib (nI h + (-1)) 80 then rb_b1 (xf_M_worked (τ.1 2 (nI b).toNatClampNeg) _ _ τ) _ else _ else _ else none) = _
        rw [hE, if_neg (nI_ge (by omega) (by omega)), rb_ib_nI (by omega) (by decide), if_pos rfl, nI_clamp (by omega), r1]
      by_cases c0 : c = 0
      · subst c0
        refine ⟨rb_sI τ 10 st.length (nI v), fun f => ?_, ⟨rb_sI_eq _ _ _ _, rb_stk_co (fun i hi => rb_sIg _ _ _ _ _ _ (by omega)) hx⟩, rb_fr.sI rfl⟩
        rw [gd f, if_pos (show nI 0 = (0 : Int32) from rfl)]
        unfold xj_M_workOut_45
        rw [rb_ib_nI (by omega) (by decide), if_pos rfl, nI_clamp (by omega), r1, if_pos (show nI 0 = (0 : Int32) from rfl), rb_ib_nI (by omega) (by decide), if_pos rfl, rb_lt_eq, nI_clamp (by omega), r2 (by omega), nI_1, nI_1]
        rfl
      · by_cases c1 : c = 1
        · subst c1
          have hv := k3 rfl
          refine ⟨rb_sI τ 10 st.length (lt v), fun f => ?_, ⟨rb_sI_eq _ _ _ _, rb_stk_co (fun i hi => rb_sIg _ _ _ _ _ _ (by omega)) hx⟩, rb_fr.sI rfl⟩
          rw [gd f, if_neg (by decide), if_pos (show nI 1 = (1 : Int32) from rfl)]
          unfold xj_M_workOut_45
          rw [rb_ib_nI (by omega) (by decide), if_pos rfl, nI_clamp (by omega), r1, if_neg (show ¬ nI 1 = (0 : Int32) by decide), r2 (by omega), rb_ib_nI (by omega) (by decide), if_pos rfl, rb_ib_nI (by omega) (by decide), if_pos rfl, rb_lt_eq, nI_clamp (by omega), nI_clamp (by omega), hlt v hv, nI_1, nI_1]
          rfl
        · rw [if_neg (by omega)] at q1
          rw [if_neg c0, if_neg c1]
          have n0 : ¬ nI c = 0 := nI_ne0 (by omega) (by omega)
          have n1 : ¬ nI c = 1 := fun e => c1 ((nI_eq (b := 1) (by omega) (by decide)).mp e)
          match T, st, h, hx, hlen with
          | [], _, _, _, _ => simp at q1
          | a :: s, x :: xs, h, hx, hlen =>
            simp only [List.length_cons] at hlen q3
            by_cases c9 : c = 9
            · subst c9
              simp only [if_true]
              refine ⟨rb_sI τ 10 xs.length (1 - x), fun f => ?_, ⟨rb_sI_eq _ _ _ _, rb_stk_co (fun i hi => rb_sIg _ _ _ _ _ _ (by omega)) hx.2⟩, rb_fr.sI rfl⟩
              rw [gd f, if_neg n0, if_neg n1, if_pos (show nI 9 = (9 : Int32) from rfl), show (x :: xs).length = xs.length + 1 from rfl, nI_pred, rb_ib_nI (by omega) (by decide), if_pos rfl, nI_clamp (by omega), hx.1, rb_lt_eq, nI_1]
              rfl
            · simp only [if_neg c9] at q1 ⊢
              have n9 : ¬ nI c = 9 := fun e => c9 ((nI_eq (b := 9) (by omega) (by decide)).mp e)
              match s, xs, h, hx, hlen with
              | [], _, _, _, _ => simp at q1
              | bb :: r, y :: ys, h, hx, hlen =>
                simp only [List.length_cons] at hlen q3
                refine ⟨rb_sI τ 10 ys.length (sp_bo c y x), fun f => ?_, ⟨rb_sI_eq _ _ _ _, rb_stk_co (fun i hi => rb_sIg _ _ _ _ _ _ (by omega)) hx.2.2⟩, rb_fr.sI rfl⟩
                have hx1 : τ.1 10 (ys.length + 1) = x := hx.1
                rw [gd f, if_neg n0, if_neg n1, if_neg n9, show (x :: y :: ys).length = ys.length + 1 + 1 from rfl, pk_m1, nI_pred, rb_ib_nI (by omega) (by decide), if_pos rfl, rb_ib_nI (by omega) (by decide), if_pos rfl, nI_clamp (by omega), nI_clamp (by omega), hx.2.1, hx1, sm_worked (by omega) c9 k1, rb_b1_some, rb_lt_eq, nI_1]
                rfl
    obtain ⟨τ1, a1, a2, a3⟩ := one
    obtain ⟨τ2, b1, b2, b3, b4⟩ := ih T1 T' (sp_ev1 lt t st) τ1 (b + 1) (fun t ht2 => ht t (List.mem_cons_of_mem _ ht2)) h1 q2 a2 (fun v hv => by rw [a3.1 _ _ (by unfold rb_is10; omega)]; exact hlt v hv) (rb_tm_co (fun j _ _ => ⟨a3.1 _ _ (by unfold rb_is10; omega), a3.1 _ _ (by unfold rb_is10; omega)⟩) hr.2.2) (by omega)
    refine ⟨τ2, fun f => ?_, b2, b3, a3.tr b4⟩
    rw [show b + (t :: ts).length = b + 1 + ts.length by simp; omega, show f + (t :: ts).length = f + ts.length + 1 from rfl, a1, b1 f]
    rfl
end RBE
theorem sm_workOut {lt : Nat → Int32} {n o : Nat} (hn : n < 5) (hok : ∀ v, v < 6 → sp_okv false (lt v)) {ts : List sp_Tk} {bb : Bool} {τ : rb_St} (ht : ∀ t ∈ ts, sp_tkok t) (hT : sp_tyl ts [] = some [bb]) (hlt : ∀ v, v < 6 → τ.1 9 v = lt v) (hr : rb_tm (520 * n + o) ts τ) (hb : o + ts.length ≤ 520) :
    ∃ τ', xf_M_workOut (nI n) (nI o) (nI (o + ts.length)) τ = some ((sp_evl lt ts []).headD 0, τ') ∧ sp_okv bb ((sp_evl lt ts []).headD 0) ∧ rb_fr rb_is10 τ τ' := by
  have hE : (520 : Int32) * nI n + nI (o + ts.length) = nI (520 * n + o + ts.length) := by
    rw [rb_l520, pk_mul, nI_add]
    congr 1
    omega
  obtain ⟨τ', a1, a2, a3, a4⟩ := sm_runl hE (by omega) hok ts [] [bb] [] τ (520 * n + o) ht trivial hT trivial hlt hr (by omega)
  obtain ⟨x, x1, x2⟩ := sp_oks1 a3
  refine ⟨τ', ?_, by rw [x1]; exact x2, a4⟩
  have h1 := a1 (rb_FU - ts.length)
  rw [show rb_FU - ts.length + ts.length = rb_FU by unfold rb_FU; omega] at h1
  have e : (520 : Int32) * nI n + nI o = nI (520 * n + o) := by rw [rb_l520, pk_mul, nI_add]
  unfold xf_M_workOut
  rw [e]
  have h2 : xl_M_workOut_12 (nI n) (nI (o + ts.length)) rb_FU 0 (nI (520 * n + o)) τ = some τ' := by
    refine h1.trans ?_
    obtain ⟨g, hg⟩ : ∃ g, rb_FU - ts.length = g + 1 := ⟨rb_FU - ts.length - 1, by unfold rb_FU; omega⟩
    rw [hg]
    show (if ((520 * nI n) + nI (o + ts.length)) ≤ nI (520 * n + o + ts.length) then some τ' else _) = _
    rw [hE, if_pos (nI_le (Nat.le_refl _) (by omega))]
  rw [h2, rb_b1_some]
  rw [x1] at a2 ⊢
  have : τ'.1 10 0 = x := a2.1
  rw [this]
  rfl
/-- the reference's text n: its clauses from the q-th on, its signs from o on -/
def rb_lm (n : Nat) : Nat → Nat → List sp_Cl → rb_St → Prop
  | _, _, [], _ => True
  | q, o, c :: L, τ => τ.1 6 (140 * n + q) = nI o ∧ τ.1 7 (140 * n + q) = nI (o + c.1.length) ∧ τ.1 8 (140 * n + q) = nI (o + c.1.length + c.2.length) ∧ rb_tm (520 * n + o) c.1 τ ∧ rb_tm (520 * n + (o + c.1.length)) c.2 τ ∧ rb_lm n (q + 1) (o + c.1.length + c.2.length) L τ
theorem rb_lm_co {n : Nat} : ∀ {L : List sp_Cl} {q o : Nat} {τ τ' : rb_St}, (∀ c i, (c = 2 ∨ c = 3) → 520 * n ≤ i → i < 520 * n + o + sp_tot L → τ'.1 c i = τ.1 c i) → (∀ c i, (c = 6 ∨ c = 7 ∨ c = 8) → 140 * n ≤ i → i < 140 * n + q + L.length → τ'.1 c i = τ.1 c i) → rb_lm n q o L τ → rb_lm n q o L τ'
  | [], _, _, _, _, _, _, _ => trivial
  | c :: L, q, o, τ, τ', h1, h2, h => by
    obtain ⟨a1, a2, a3, a4, a5, a6⟩ := h
    have e : sp_tot (c :: L) = c.1.length + c.2.length + sp_tot L := rfl
    rw [e] at h1
    simp only [List.length_cons] at h2
    refine ⟨(h2 6 _ (by omega) (by omega) (by omega)).trans a1, (h2 7 _ (by omega) (by omega) (by omega)).trans a2, (h2 8 _ (by omega) (by omega) (by omega)).trans a3, rb_tm_co (fun j p1 p2 => ⟨h1 2 j (by omega) (by omega) (by omega), h1 3 j (by omega) (by omega) (by omega)⟩) a4, rb_tm_co (fun j p1 p2 => ⟨h1 2 j (by omega) (by omega) (by omega), h1 3 j (by omega) (by omega) (by omega)⟩) a5, rb_lm_co (fun c i p1 p2 p3 => h1 c i p1 p2 (by omega)) (fun c i p1 p2 p3 => h2 c i p1 p2 (by omega)) a6⟩
/-- the reference's text n -/
def rm_law (n : Nat) (L : List sp_Cl) (τ : rb_St) : Prop := τ.1 5 n = nI L.length ∧ rb_lm n 0 0 L τ
theorem sm_wol {lt : Nat → Int32} {n N : Nat} (hn : n < 5) (hN : N ≤ 140) (hok : ∀ v, v < 6 → sp_okv false (lt v)) : ∀ (L : List sp_Cl) (τ : rb_St) (q o f : Nat), sp_lw L → (∀ v, v < 6 → τ.1 9 v = lt v) → rb_lm n q o L τ → τ.1 5 n = nI N → q + L.length = N → o + sp_tot L ≤ 520 → L.length < f →
    ∃ τ', rb_fr rb_is10 τ τ' ∧ ((xl_M_worthOf_6 (nI n) f (nI (140 * n + q)) τ = some (1, nI (140 * n + N), τ') ∧ sp_wo lt L = 0) ∨ ∃ j o2 s, xl_M_worthOf_6 (nI n) f (nI (140 * n + q)) τ = some (0, nI (140 * n + j), τ') ∧ j < N ∧ τ'.1 7 (140 * n + j) = nI o2 ∧ τ'.1 8 (140 * n + j) = nI (o2 + s.length) ∧ rb_tm (520 * n + o2) s τ' ∧ (∀ t ∈ s, sp_tkok t) ∧ sp_tyl s [] = some [false] ∧ o2 + s.length ≤ 520 ∧ sp_wo lt L = (sp_evl lt s []).headD 0) := by
  intro L
  have e140 : ∀ x : Nat, (140 : Int32) * nI n + nI x = nI (140 * n + x) := fun x => by rw [rb_l140, pk_mul, nI_add]
  induction L with
  | nil =>
    intro τ q o f _ _ _ h5 hq _ hf
    obtain ⟨f, rfl⟩ : ∃ g, f = g + 1 := ⟨f - 1, by omega⟩
    simp only [List.length_nil] at hq
    refine ⟨τ, rb_fr.rf, Or.inl ⟨?_, rfl⟩⟩
    show (if rb_ib (nI n) 5 then if ((140 * nI n) + (τ.1 5 (nI n).toNatClampNeg)) ≤ nI (140 * n + q) then some (1, nI (140 * n + q), τ) else _ else none) = _
    rw [rb_ib_nI hn (by decide), if_pos rfl, nI_clamp (by omega), h5, e140, if_pos (nI_le (by omega) (by omega)), show q = N by omega]
  | cons c L ih =>
    intro τ q o f hw hlt hr h5 hq ho hf
    obtain ⟨f, rfl⟩ : ∃ g, f = g + 1 := ⟨f - 1, by omega⟩
    simp only [List.length_cons] at hq hf
    have e : sp_tot (c :: L) = c.1.length + c.2.length + sp_tot L := rfl
    rw [e] at ho
    obtain ⟨a1, a2, a3, a4, a5, a6⟩ := hr
    obtain ⟨w1, w2, w3, w4⟩ := hw c (List.mem_cons_self ..)
    have hw' : sp_lw L := fun q hq => hw q (List.mem_cons_of_mem _ hq)
    have e1 : sp_wo lt (c :: L) = if c.1 = [] then (sp_evl lt c.2 []).headD 0 else if (sp_evl lt c.1 []).headD 0 = 0 then sp_wo lt L else (sp_evl lt c.2 []).headD 0 := rfl
    have st : xl_M_worthOf_6 (nI n) (f + 1) (nI (140 * n + q)) τ = if nI o = nI (o + c.1.length) then some (0, nI (140 * n + q), τ) else rb_b2 (xf_M_workOut (nI n) (nI o) (nI (o + c.1.length)) τ) (fun r7 s5 => if r7 = 0 then xl_M_worthOf_6 (nI n) f (nI (140 * n + q) + 1) s5 else some (0, nI (140 * n + q), s5)) := by
      show (if rb_ib (nI n) 5 then if ((140 * nI n) + (τ.1 5 (nI n).toNatClampNeg)) ≤ nI (140 * n + q) then _ else if rb_ib (nI (140 * n + q)) 700 then if (τ.1 6 (nI (140 * n + q)).toNatClampNeg) = (τ.1 7 (nI (140 * n + q)).toNatClampNeg) then _ else rb_b2 (xf_M_workOut (nI n) (τ.1 6 (nI (140 * n + q)).toNatClampNeg) (τ.1 7 (nI (140 * n + q)).toNatClampNeg) τ) _ else none else none) = _
      rw [rb_ib_nI hn (by decide), if_pos rfl, nI_clamp (by omega), h5, e140, if_neg (nI_ge (by omega) (by omega)), rb_ib_nI (by omega) (by decide), if_pos rfl, nI_clamp (by omega), a1, a2]
    by_cases ht : c.1 = []
    · have hl : c.1.length = 0 := by rw [ht]; rfl
      refine ⟨τ, rb_fr.rf, Or.inr ⟨q, o + c.1.length, c.2, ?_, by omega, a2, a3, a5, w2, w4, by omega, by rw [e1, if_pos ht]⟩⟩
      rw [st, hl, Nat.add_zero, if_pos rfl]
    · have hl : 0 < c.1.length := List.length_pos_iff.mpr ht
      obtain ⟨τ1, b1, b2, b3⟩ := sm_workOut hn hok w1 (w3.resolve_left ht) hlt a4 (by omega)
      rw [st, if_neg (fun q => by have := (nI_eq (by omega) (by omega)).mp q; omega), b1, rb_b2_some, nI_1, e1, if_neg ht]
      by_cases h0 : (sp_evl lt c.1 []).headD 0 = 0
      · rw [if_pos h0, if_pos h0]
        obtain ⟨τ2, c1, c2⟩ := ih τ1 (q + 1) (o + c.1.length + c.2.length) f hw' (fun v hv => by rw [b3.1 _ _ (by unfold rb_is10; omega)]; exact hlt v hv) (rb_lm_co (fun c i p1 _ _ => b3.1 _ _ (by unfold rb_is10; omega)) (fun c i p1 _ _ => b3.1 _ _ (by unfold rb_is10; omega)) a6) (by rw [b3.1 _ _ (by unfold rb_is10; omega)]; exact h5) (by omega) (by omega) (by omega)
        exact ⟨τ2, b3.tr c1, c2⟩
      · rw [if_neg h0, if_neg h0]
        refine ⟨τ1, b3, Or.inr ⟨q, o + c.1.length, c.2, rfl, by omega, ?_, ?_, rb_tm_co (fun j _ _ => ⟨b3.1 _ _ (by unfold rb_is10; omega), b3.1 _ _ (by unfold rb_is10; omega)⟩) a5, w2, w4, by omega, rfl⟩⟩
        · rw [b3.1 _ _ (by unfold rb_is10; omega)]; exact a2
        · rw [b3.1 _ _ (by unfold rb_is10; omega)]; exact a3
theorem sm_worthOf {lt : Nat → Int32} {n : Nat} {L : List sp_Cl} {τ : rb_St} (hn : n < 5) (hw : sp_lw L) (hN : L.length ≤ 140) (hT : sp_tot L ≤ 520) (hok : ∀ v, v < 6 → sp_okv false (lt v)) (hlt : ∀ v, v < 6 → τ.1 9 v = lt v) (h : rm_law n L τ) : ∃ τ', xf_M_worthOf (nI n) τ = some (sp_wo lt L, τ') ∧ rb_fr rb_is10 τ τ' := by
  obtain ⟨τ1, a1, a2⟩ := sm_wol hn hN hok L τ 0 0 rb_FU hw hlt h.2 h.1 (by omega) (by omega) (by unfold rb_FU; omega)
  have e140 : (140 : Int32) * nI n = nI (140 * n + 0) := by rw [rb_l140, pk_mul]; rfl
  unfold xf_M_worthOf
  rw [e140]
  rcases a2 with ⟨b1, b2⟩ | ⟨j, o2, s, b1, b2, b3, b4, b5, b6, b7, b8, b9⟩
  · exact ⟨τ1, by rw [b1, rb_b3_some, if_neg (by decide), b2], a1⟩
  · obtain ⟨τ2, c1, c2, c3⟩ := sm_workOut hn hok b6 b7 (fun v hv => by rw [a1.1 _ _ (by unfold rb_is10; omega)]; exact hlt v hv) b5 b8
    exact ⟨τ2, by rw [b1, rb_b3_some, if_pos rfl, rb_ib_nI (by omega) (by decide), if_pos rfl, nI_clamp (by omega), b3, b4, c1, rb_b2_some, b9], a1.tr c3⟩
