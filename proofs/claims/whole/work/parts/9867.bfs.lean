/-! NEAREST, the reference: breadth first search -/
section BFS
variable {n : Nat} {goal w : Nat → Nat}
theorem bf_sw_gs (h3 : 3 ≤ n) {p : Nat} (hp : p < n) (o : Nat → Nat) : sp_sw n o p = af_gs n p o := by
  have h := af_gs_sw (goal := fun x => x) (who := o) h3 hp
  exact h
theorem bf_sw_inj (h3 : 3 ≤ n) {p : Nat} (hp : p < n) {o : Nat → Nat} (I : af_inj n o) : af_inj n (sp_sw n o p) := by
  rw [bf_sw_gs h3 hp]
  exact af_gs_w h3 hp I
theorem bf_sw_sw (h3 : 3 ≤ n) {p : Nat} (hp : p < n) (o : Nat → Nat) : sp_sw n (sp_sw n o p) p = o := by
  rw [bf_sw_gs h3 hp, bf_sw_gs h3 hp, af_gs_gs]
theorem bf_sw_co (h3 : 3 ≤ n) {p : Nat} (hp : p < n) {a b : Nat → Nat} (h : ∀ i, i < n → a i = b i) : ∀ i, i < n → sp_sw n a p i = sp_sw n b p i := by
  intro i hi
  rw [bf_sw_gs h3 hp, bf_sw_gs h3 hp]
  unfold af_gs
  by_cases c : p + 1 < n
  · rw [if_pos c, if_pos c]
    exact h _ (af_pi_l hp c hi)
  · rw [if_neg c, if_neg c]
    exact h _ (af_pi_l (by omega) (by omega) hi)
def bf_I (n : Nat) (goal w : Nat → Nat) (t : Nat) (q : Nat → Nat → Nat) (d : Nat → Nat) (τ : rb_St) : Prop :=
  (τ.1 0 22 = nI n ∧ 0 < t ∧ t ≤ 5040) ∧
  (∀ i, i < t → af_inj n (q i) ∧ τ.1 26 i = nI (sp_cno n (q i) n) ∧ τ.1 25 (sp_cno n (q i) n) = nI (d i) ∧ af_R n (d i) (fun k => goal (q i k)) ∧ d i ≤ i) ∧
  (∀ i j, i < t → j < t → sp_cno n (q i) n = sp_cno n (q j) n → i = j) ∧
  (∀ c, c < 5040 → (∀ i, i < t → sp_cno n (q i) n ≠ c) → τ.1 25 c = -1) ∧
  (∀ i j, i ≤ j → j < t → d i ≤ d j) ∧
  (sp_cno n (q 0) n = sp_cno n w n ∧ d 0 = 0)
def bf_H (n t : Nat) (q : Nat → Nat → Nat) (d : Nat → Nat) (i m : Nat) : Prop := ∀ p, p < m → ∃ j, j < t ∧ sp_cno n (q j) n = sp_cno n (sp_sw n (q i) p) n ∧ d j ≤ d i + 1
theorem bf_I.fr {t : Nat} {q : Nat → Nat → Nat} {d : Nat → Nat} {τ τ' : rb_St} (h : bf_I n goal w t q d τ) (F : rb_fr (fun c _ => c = 27) τ τ') : bf_I n goal w t q d τ' := by
  obtain ⟨⟨a1, a2, a3⟩, b, c, e, f, g⟩ := h
  refine ⟨⟨(F.1 0 22 (by omega)).trans a1, a2, a3⟩, fun i hi => ?_, c, fun k hk hn => (F.1 25 k (by omega)).trans (e k hk hn), f, g⟩
  obtain ⟨b1, b2, b3, b4, b5⟩ := b i hi
  exact ⟨b1, (F.1 26 i (by omega)).trans b2, (F.1 25 _ (by omega)).trans b3, b4, b5⟩
theorem bf_room {t : Nat} {q : Nat → Nat → Nat} {o : Nat → Nat} (h7 : n ≤ 7) (hi : ∀ i j, i < t → j < t → sp_cno n (q i) n = sp_cno n (q j) n → i = j) (hn : ∀ i, i < t → sp_cno n (q i) n ≠ sp_cno n o n) (ht : t ≤ 5040) : t < 5040 := by
  by_cases e : t < 5040
  · exact e
  exfalso
  obtain ⟨i, j, k1, k2, k3⟩ := rb_php 5040 (fun i => if i < 5040 then sp_cno n (q i) n else sp_cno n o n) (fun i _ => by
    show (if i < 5040 then sp_cno n (q i) n else sp_cno n o n) < 5040
    by_cases c : i < 5040
    · rw [if_pos c]; exact sp_cno_lt2 h7
    · rw [if_neg c]; exact sp_cno_lt2 h7)
  have k4 : (if i < 5040 then sp_cno n (q i) n else sp_cno n o n) = (if j < 5040 then sp_cno n (q j) n else sp_cno n o n) := k3
  by_cases c : j < 5040
  · rw [if_pos (by omega), if_pos c] at k4
    have := hi i j (by omega) (by omega) k4
    omega
  · rw [if_pos (by omega), if_neg c] at k4
    exact hn i (by omega) k4
theorem bf_H.push {t i m : Nat} {q q' : Nat → Nat → Nat} {d d' : Nat → Nat} (H : bf_H n t q d i m) (hi : i < t) (e1 : ∀ i, i < t → q' i = q i) (e3 : ∀ i, i < t → d' i = d i) : bf_H n (t + 1) q' d' i m := fun p hp => by
  obtain ⟨j, a, b, c⟩ := H p hp
  exact ⟨j, by omega, by rw [e1 j a, e1 i hi]; exact b, by rw [e3 j a, e3 i hi]; exact c⟩
theorem bf_push {t h p : Nat} {q q' : Nat → Nat → Nat} {d d' : Nat → Nat} {τ : rb_St} (h3 : 3 ≤ n) (h7 : n ≤ 7) (I : bf_I n goal w t q d τ) (hh : h < t) (hp : p < n) (hd : ∀ j, j < t → d j ≤ d h + 1) (hn : ∀ i, i < t → sp_cno n (q i) n ≠ sp_cno n (sp_sw n (q h) p) n) (ht : t < 5040) (e1 : ∀ i, i < t → q' i = q i) (e2 : q' t = sp_sw n (q h) p) (e3 : ∀ i, i < t → d' i = d i) (e4 : d' t = d h + 1) : bf_I n goal w (t + 1) q' d' (rb_sI (rb_sI τ 25 (sp_cno n (sp_sw n (q h) p) n) (nI (d h + 1))) 26 t (nI (sp_cno n (sp_sw n (q h) p) n))) := by
  obtain ⟨⟨a1, a2, a3⟩, b, c, e, f, g⟩ := I
  obtain ⟨u1, u2, u3, u4, u5⟩ := b h hh
  have hR : af_R n (d h + 1) (fun k => goal (sp_sw n (q h) p k)) := by
    refine ⟨p, hp, ?_⟩
    have ee := af_gs_sw (goal := goal) (who := q h) h3 hp
    rw [ee, af_gs_gs]
    exact u4
  refine ⟨⟨?_, by omega, by omega⟩, fun i hi => ?_, fun i j hi hj k => ?_, fun k hk hne => ?_, fun i j hij hj => ?_, by rw [e1 0 a2]; exact g.1, by rw [e3 0 a2]; exact g.2⟩
  · rw [rb_sIg _ _ _ _ _ _ (by omega), rb_sIg _ _ _ _ _ _ (by omega)]
    exact a1
  · by_cases ci : i = t
    · rw [ci, e2, e4]
      exact ⟨bf_sw_inj h3 hp u1, rb_sI_eq _ _ _ _, by rw [rb_sIg _ _ _ _ _ _ (by omega), rb_sI_eq], hR, by omega⟩
    · have hi' : i < t := by omega
      obtain ⟨b1, b2, b3, b4, b5⟩ := b i hi'
      rw [e1 i hi', e3 i hi']
      exact ⟨b1, by rw [rb_sIg _ _ _ _ _ _ (by omega), rb_sIg _ _ _ _ _ _ (by omega)]; exact b2, by rw [rb_sIg _ _ _ _ _ _ (by omega), rb_sIg _ _ _ _ _ _ (fun z => hn i hi' z.2)]; exact b3, b4, b5⟩
  · by_cases ci : i = t
    · by_cases cj : j = t
      · omega
      · rw [ci, e2, e1 j (by omega)] at k
        exact absurd k.symm (hn j (by omega))
    · by_cases cj : j = t
      · rw [cj, e2, e1 i (by omega)] at k
        exact absurd k (hn i (by omega))
      · rw [e1 i (by omega), e1 j (by omega)] at k
        exact c i j (by omega) (by omega) k
  · have hk1 : sp_cno n (sp_sw n (q h) p) n ≠ k := by
      have := hne t (by omega)
      rw [e2] at this
      exact this
    rw [rb_sIg _ _ _ _ _ _ (by omega), rb_sIg _ _ _ _ _ _ (fun z => hk1 z.2.symm)]
    exact e k hk (fun i hi => by
      have := hne i (by omega)
      rw [e1 i hi] at this
      exact this)
  · by_cases cj : j = t
    · by_cases ci : i = t
      · exact Nat.le_of_eq (by rw [ci, cj])
      · rw [cj, e4, e3 i (by omega)]
        exact hd i (by omega)
    · rw [e3 i (by omega), e3 j (by omega)]
      exact f i j hij (by omega)
theorem bf_in (h3 : 3 ≤ n) (h7 : n ≤ 7) {h : Nat} : ∀ (f p t : Nat) (q : Nat → Nat → Nat) (d : Nat → Nat) (τ : rb_St), p ≤ n → n - p < f → bf_I n goal w t q d τ → h < t → (∀ j, j < t → d j ≤ d h + 1) → (∀ i, i < h → bf_H n t q d i n) → bf_H n t q d h p → ∃ (t' : Nat) (q' : Nat → Nat → Nat) (d' : Nat → Nat) (τ' : rb_St), xl_M_layFar_55 (nI h) f (nI t) (nI p) τ = some (nI t', τ') ∧ bf_I n goal w t' q' d' τ' ∧ h < t' ∧ (∀ j, j < t' → d' j ≤ d' h + 1) ∧ (∀ i, i < h + 1 → bf_H n t' q' d' i n) ∧ rb_fr (fun c _ => c = 25 ∨ c = 26 ∨ c = 27) τ τ' := by
  intro f
  induction f with
  | zero => intro p t q d τ _ hf; omega
  | succ f ih =>
    intro p t q d τ hp hf I ht hd HA HB
    have h22 := I.1.1
    have t5 := I.1.2.2
    have e0 : xl_M_layFar_55 (nI h) (f + 1) (nI t) (nI p) τ = if (τ.1 0 22) ≤ nI p then some (nI t, τ) else if rb_ib (nI h) 5040 then rb_b1 (xf_M_digitsOf (τ.1 26 (nI h).toNatClampNeg) τ) fun s17 => rb_b1 (xf_M_swapDigits (nI p) s17) fun s19 => rb_b1 (xf_M_numberOf s19) fun r21 => if rb_ib r21 5040 then if (s19.1 25 r21.toNatClampNeg) = (-1) then if rb_ib (s19.1 26 (nI h).toNatClampNeg) 5040 then rb_lt (rb_sI s19 25 r21.toNatClampNeg ((s19.1 25 (s19.1 26 (nI h).toNatClampNeg).toNatClampNeg) + 1)) (fun s26 => if rb_ib (nI t) 5040 then rb_lt (rb_sI s26 26 (nI t).toNatClampNeg r21) (fun s29 => xl_M_layFar_55 (nI h) f (nI t + 1) (nI p + 1) s29) else none) else none else xl_M_layFar_55 (nI h) f (nI t) (nI p + 1) s19 else none else none := rfl
    by_cases ep : p = n
    · refine ⟨t, q, d, τ, by rw [e0, h22, if_pos (nI_le (by omega) (by omega))], I, ht, hd, fun i hi => ?_, rb_fr.rf⟩
      by_cases c : i = h
      · rw [c]
        rw [ep] at HB
        exact HB
      · exact HA i (by omega)
    · have hpn : p < n := by omega
      obtain ⟨q1, q2, q3, q4, q5⟩ := I.2.1 h ht
      obtain ⟨s17, a1, a2, a3⟩ := sm_digits h3 h7 q1 h22
      obtain ⟨s19, b1, b2, b3⟩ := sm_swapDg h3 h7 a2 hpn
      have c1 := sm_number h7 b2
      have F := a3.tr b3
      have J := I.fr F
      have lt1 := sp_cno_lt2 (o := sp_sw n (q h) p) h7
      have lt2 := sp_cno_lt2 (o := q h) h7
      have F3 : rb_fr (fun c _ => c = 25 ∨ c = 26 ∨ c = 27) τ s19 := F.mo (fun c i hc => Or.inr (Or.inr hc))
      obtain ⟨-, r2, r3, -, -⟩ := J.2.1 h ht
      have e1 : xl_M_layFar_55 (nI h) (f + 1) (nI t) (nI p) τ = if s19.1 25 (sp_cno n (sp_sw n (q h) p) n) = (-1) then if rb_ib (s19.1 26 h) 5040 then rb_lt (rb_sI s19 25 (sp_cno n (sp_sw n (q h) p) n) ((s19.1 25 (s19.1 26 h).toNatClampNeg) + 1)) (fun s26 => if rb_ib (nI t) 5040 then rb_lt (rb_sI s26 26 (nI t).toNatClampNeg (nI (sp_cno n (sp_sw n (q h) p) n))) (fun s29 => xl_M_layFar_55 (nI h) f (nI t + 1) (nI p + 1) s29) else none) else none else xl_M_layFar_55 (nI h) f (nI t) (nI p + 1) s19 := by
        rw [e0, h22, if_neg (nI_ge hpn (by omega)), rb_ib_nI (i := h) (by omega) (by decide), if_pos rfl, nI_clamp (n := h) (by omega), q2, a1, rb_b1_some, b1, rb_b1_some, c1, rb_b1_some, rb_ib_nI lt1 (by decide), if_pos rfl, nI_clamp (n := sp_cno n (sp_sw n (q h) p) n) (by omega)]
      by_cases ex : ∃ j, j < t ∧ sp_cno n (q j) n = sp_cno n (sp_sw n (q h) p) n
      · obtain ⟨j, j1, j2⟩ := ex
        obtain ⟨-, -, z3, -, z5⟩ := J.2.1 j j1
        rw [j2] at z3
        obtain ⟨t', q', d', τ', i1, i2, i3, i4, i5, i6⟩ := ih (p + 1) t q d s19 (by omega) (by omega) J ht hd HA (fun k hk => by
          by_cases ck : k = p
          · rw [ck]; exact ⟨j, j1, j2, hd j j1⟩
          · exact HB k (by omega))
        refine ⟨t', q', d', τ', ?_, i2, i3, i4, i5, F3.tr i6⟩
        rw [e1, z3, if_neg (rb_neg1 (by omega)), nI_1]
        exact i1
      · have hn : ∀ i, i < t → sp_cno n (q i) n ≠ sp_cno n (sp_sw n (q h) p) n := fun i hi k => ex ⟨i, hi, k⟩
        have tl := bf_room h7 I.2.2.1 hn t5
        have z3 := J.2.2.2.1 _ lt1 hn
        obtain ⟨q', hq'⟩ : ∃ q' : Nat → Nat → Nat, q' = fun i => if i = t then sp_sw n (q h) p else q i := ⟨_, rfl⟩
        obtain ⟨d', hd'⟩ : ∃ d' : Nat → Nat, d' = fun i => if i = t then d h + 1 else d i := ⟨_, rfl⟩
        have w1 : ∀ i, i < t → q' i = q i := fun i hi => by rw [hq']; exact if_neg (by omega)
        have w2 : q' t = sp_sw n (q h) p := by rw [hq']; exact if_pos rfl
        have w3 : ∀ i, i < t → d' i = d i := fun i hi => by rw [hd']; exact if_neg (by omega)
        have w4 : d' t = d h + 1 := by rw [hd']; exact if_pos rfl
        have K := bf_push h3 h7 J ht hpn hd hn tl w1 w2 w3 w4
        obtain ⟨t', q2', d2', τ', i1, i2, i3, i4, i5, i6⟩ := ih (p + 1) (t + 1) q' d' _ (by omega) (by omega) K (by omega) (fun j hj => by
          rw [w3 h ht]
          by_cases cj : j = t
          · rw [cj, w4]; exact Nat.le_refl _
          · rw [w3 j (by omega)]; exact hd j (by omega)) (fun i hi => (HA i hi).push (by omega) w1 w3) (fun k hk => by
          by_cases ck : k = p
          · rw [ck]; exact ⟨t, by omega, by rw [w2, w1 h ht], by rw [w4, w3 h ht]; exact Nat.le_refl _⟩
          · exact (HB.push ht w1 w3) k (by omega))
        refine ⟨t', q2', d2', τ', ?_, i2, i3, i4, i5, F3.tr (((rb_fr.sI (Or.inl rfl)).sI' (Or.inr (Or.inl rfl))).tr i6)⟩
        rw [e1, z3, if_pos rfl, r2, rb_ib_nI lt2 (by decide), if_pos rfl, nI_clamp (n := sp_cno n (q h) n) (by omega), r3, nI_1, rb_lt_eq, rb_ib_nI tl (by decide), if_pos rfl, nI_clamp (n := t) (by omega), rb_lt_eq, nI_1, nI_1]
        exact i1
theorem bf_out (h3 : 3 ≤ n) (h7 : n ≤ 7) : ∀ (f h t : Nat) (q : Nat → Nat → Nat) (d : Nat → Nat) (τ : rb_St), h ≤ t → 5040 - h < f → bf_I n goal w t q d τ → (h < t → ∀ j, j < t → d j ≤ d h + 1) → (∀ i, i < h → bf_H n t q d i n) → ∃ (t' : Nat) (q' : Nat → Nat → Nat) (d' : Nat → Nat) (τ' : rb_St), xl_M_layFar_48 f (nI t) (nI h) τ = some τ' ∧ bf_I n goal w t' q' d' τ' ∧ (∀ i, i < t' → bf_H n t' q' d' i n) ∧ rb_fr (fun c _ => c = 25 ∨ c = 26 ∨ c = 27) τ τ' := by
  intro f
  induction f with
  | zero => intro h t q d τ _ hf; omega
  | succ f ih =>
    intro h t q d τ hle hf I hd HA
    have t5 := I.1.2.2
    have e0 : xl_M_layFar_48 (f + 1) (nI t) (nI h) τ = if nI t ≤ nI h then some τ else rb_b2 (xl_M_layFar_55 (nI h) rb_FU (nI t) 0 τ) fun y31 s32 => xl_M_layFar_48 f y31 (nI h + 1) s32 := rfl
    by_cases c : h = t
    · refine ⟨t, q, d, τ, ?_, I, by rw [← c]; rw [← c] at HA; exact HA, rb_fr.rf⟩
      rw [e0, if_pos (nI_le (by omega) (by omega))]
    · have hl : h < t := by omega
      obtain ⟨t', q', d', s32, i1, i2, i3, i4, i5, i6⟩ := bf_in (goal := goal) (w := w) h3 h7 (h := h) rb_FU 0 t q d τ (by omega) (by unfold rb_FU; omega) I hl (hd hl) HA (fun p hp => absurd hp (Nat.not_lt_zero _))
      have i1' : xl_M_layFar_55 (nI h) rb_FU (nI t) 0 τ = some (nI t', s32) := i1
      obtain ⟨t2, q2, d2, τ2, j1, j2, j3, j4⟩ := ih (h + 1) t' q' d' s32 (by omega) (by omega) i2 (fun hl2 j hj => by
        have := i4 j hj
        have := i2.2.2.2.2.1 h (h + 1) (by omega) hl2
        omega) i5
      refine ⟨t2, q2, d2, τ2, ?_, j2, j3, i6.tr j4⟩
      rw [e0, if_neg (nI_ge hl (by omega)), i1', rb_b2_some, nI_1]
      exact j1
theorem bf_end {t : Nat} {q : Nat → Nat → Nat} {d : Nat → Nat} {τ : rb_St} (h3 : 3 ≤ n) (h7 : n ≤ 7) (I : bf_I n goal w t q d τ) (H : ∀ i, i < t → bf_H n t q d i n) (hw : ∀ o, af_inj n o → (∀ i, i < n → goal (o i) = i) → ∀ i, i < n → o i = w i) : ∀ (N : Nat) (o : Nat → Nat), af_inj n o → af_R n N (fun k => goal (o k)) → ∃ i, i < t ∧ sp_cno n (q i) n = sp_cno n o n ∧ d i ≤ N := by
  intro N
  induction N with
  | zero =>
    intro o Io hR
    exact ⟨0, I.1.2.1, I.2.2.2.2.2.1.trans (sp_cno_co (fun i hi => (hw o Io hR i hi).symm)), Nat.le_of_eq I.2.2.2.2.2.2⟩
  | succ N ih =>
    intro o Io hR
    obtain ⟨p, hp, hR⟩ := hR
    have ee := af_gs_sw (goal := goal) (who := o) h3 hp
    rw [← ee] at hR
    obtain ⟨i, i1, i2, i3⟩ := ih (sp_sw n o p) (bf_sw_inj h3 hp Io) hR
    obtain ⟨j, j1, j2, j3⟩ := H i i1 p hp
    have k := sp_cno_inj h3 h7 (I.2.1 i i1).1 (bf_sw_inj h3 hp Io) i2
    refine ⟨j, j1, j2.trans (sp_cno_co (fun a ha => ?_)), by omega⟩
    rw [bf_sw_co h3 hp k a ha, bf_sw_sw h3 hp]
end BFS
