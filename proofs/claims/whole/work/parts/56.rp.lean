theorem go_X11_1 : Cond.methodLink RX11 1 objectInit ∈ rb_tbl := rb_in (by decide +kernel) (by decide +kernel)
theorem nw_X11_7 : rb_NW RX11 7 8 [.null, .int 0] := ⟨RX9, TX9, 2, tyX9, rfl, rb_uX9, tyX9_ok, rb_in (by decide +kernel) (by decide +kernel), rb_in (by decide +kernel) (by decide +kernel), rb_in (by decide +kernel) (by decide +kernel), by decide +kernel, rfl⟩
theorem mi_X11_9 : rb_MIN RX11 9 yX9_init cX9_init 1 0 := ⟨by decide +kernel, rb_in (by decide +kernel) (by decide +kernel), rb_in (by decide +kernel) (by decide +kernel), rb_in (by decide +kernel) (by decide +kernel), rfl, by decide +kernel, by decide +kernel, by decide +kernel⟩
theorem gr_X11_10_10 : rb_FR RX11 10 10 0 := ⟨RX11, TX11, 20, "RibbonPole", rfl, rb_uX11, by decide, rb_in (by decide +kernel) (by decide +kernel), Or.inl rfl⟩
theorem gt_X11_10_0 : rb_TyF RX11 10 0 (.object "RibbonPole$Tape") true := ⟨RX11, TX11, 20, tyX11, rfl, tyX11_ok, nmX11, rfl, rfl, by decide +kernel⟩
theorem nw_X11_16 : rb_NW RX11 16 4 [.null, .int 0, .null, .int 0] := ⟨RX4, TX4, 4, tyX4, rfl, rb_uX4, tyX4_ok, rb_in (by decide +kernel) (by decide +kernel), rb_in (by decide +kernel) (by decide +kernel), rb_in (by decide +kernel) (by decide +kernel), by decide +kernel, rfl⟩
theorem mi_X11_18 : rb_MI RX11 18 yX4_init cX4_init 2 1 := ⟨rb_in (by decide +kernel) (by decide +kernel), rb_in (by decide +kernel) (by decide +kernel), rb_in (by decide +kernel) (by decide +kernel), rb_in (by decide +kernel) (by decide +kernel), rfl, by decide +kernel, by decide +kernel, by decide +kernel⟩
theorem gr_X11_21_10 : rb_FR RX11 21 10 1 := ⟨RX11, TX11, 20, "RibbonPole", rfl, rb_uX11, by decide, rb_in (by decide +kernel) (by decide +kernel), Or.inl rfl⟩
theorem gt_X11_10_1 : rb_TyF RX11 10 1 (.object "RibbonPole$GreenReader") true := ⟨RX11, TX11, 20, tyX11, rfl, tyX11_ok, nmX11, rfl, rfl, by decide +kernel⟩
theorem nw_X11_25 : rb_NW RX11 25 6 [.null, .int 0, .null] := ⟨RX6, TX6, 3, tyX6, rfl, rb_uX6, tyX6_ok, rb_in (by decide +kernel) (by decide +kernel), rb_in (by decide +kernel) (by decide +kernel), rb_in (by decide +kernel) (by decide +kernel), by decide +kernel, rfl⟩
theorem mi_X11_27 : rb_MI RX11 27 yX6_init cX6_init 2 1 := ⟨rb_in (by decide +kernel) (by decide +kernel), rb_in (by decide +kernel) (by decide +kernel), rb_in (by decide +kernel) (by decide +kernel), rb_in (by decide +kernel) (by decide +kernel), rfl, by decide +kernel, by decide +kernel, by decide +kernel⟩
theorem gr_X11_28_10 : rb_FR RX11 28 10 2 := ⟨RX11, TX11, 20, "RibbonPole", rfl, rb_uX11, by decide, rb_in (by decide +kernel) (by decide +kernel), Or.inl rfl⟩
theorem gt_X11_10_2 : rb_TyF RX11 10 2 (.object "RibbonPole$LawReader") true := ⟨RX11, TX11, 20, tyX11, rfl, tyX11_ok, nmX11, rfl, rfl, by decide +kernel⟩
theorem nw_X11_32 : rb_NW RX11 32 2 [.null, .int 0, .null] := ⟨RX2, TX2, 3, tyX2, rfl, rb_uX2, tyX2_ok, rb_in (by decide +kernel) (by decide +kernel), rb_in (by decide +kernel) (by decide +kernel), rb_in (by decide +kernel) (by decide +kernel), by decide +kernel, rfl⟩
theorem mi_X11_34 : rb_MI RX11 34 yX2_init cX2_init 2 1 := ⟨rb_in (by decide +kernel) (by decide +kernel), rb_in (by decide +kernel) (by decide +kernel), rb_in (by decide +kernel) (by decide +kernel), rb_in (by decide +kernel) (by decide +kernel), rfl, by decide +kernel, by decide +kernel, by decide +kernel⟩
theorem gr_X11_35_10 : rb_FR RX11 35 10 3 := ⟨RX11, TX11, 20, "RibbonPole", rfl, rb_uX11, by decide, rb_in (by decide +kernel) (by decide +kernel), Or.inl rfl⟩
theorem gt_X11_10_3 : rb_TyF RX11 10 3 (.object "RibbonPole$FigureReader") true := ⟨RX11, TX11, 20, tyX11, rfl, tyX11_ok, nmX11, rfl, rfl, by decide +kernel⟩
theorem nw_X11_39 : rb_NW RX11 39 3 [.null, .null, .int 0] := ⟨RX3, TX3, 3, tyX3, rfl, rb_uX3, tyX3_ok, rb_in (by decide +kernel) (by decide +kernel), rb_in (by decide +kernel) (by decide +kernel), rb_in (by decide +kernel) (by decide +kernel), by decide +kernel, rfl⟩
theorem mi_X11_41 : rb_MIN RX11 41 yX3_init cX3_init 1 0 := ⟨by decide +kernel, rb_in (by decide +kernel) (by decide +kernel), rb_in (by decide +kernel) (by decide +kernel), rb_in (by decide +kernel) (by decide +kernel), rfl, by decide +kernel, by decide +kernel, by decide +kernel⟩
theorem gr_X11_42_10 : rb_FR RX11 42 10 4 := ⟨RX11, TX11, 20, "RibbonPole", rfl, rb_uX11, by decide, rb_in (by decide +kernel) (by decide +kernel), Or.inl rfl⟩
theorem gt_X11_10_4 : rb_TyF RX11 10 4 (.object "RibbonPole$Green") true := ⟨RX11, TX11, 20, tyX11, rfl, tyX11_ok, nmX11, rfl, rfl, by decide +kernel⟩
theorem gr_X11_49_10 : rb_FR RX11 49 10 5 := ⟨RX11, TX11, 20, "RibbonPole", rfl, rb_uX11, by decide, rb_in (by decide +kernel) (by decide +kernel), Or.inl rfl⟩
theorem gt_X11_10_5 : rb_TyF RX11 10 5 (.object "RibbonPole$Pole") true := ⟨RX11, TX11, 20, tyX11, rfl, tyX11_ok, nmX11, rfl, rfl, by decide +kernel⟩
theorem gr_X11_53_10 : rb_FR RX11 53 10 6 := ⟨RX11, TX11, 20, "RibbonPole", rfl, rb_uX11, by decide, rb_in (by decide +kernel) (by decide +kernel), Or.inl rfl⟩
theorem gt_X11_10_6 : rb_TyF RX11 10 6 (.object "RibbonPole$Pole") true := ⟨RX11, TX11, 20, tyX11, rfl, tyX11_ok, nmX11, rfl, rfl, by decide +kernel⟩
theorem nw_X11_56 : rb_NW RX11 56 0 [.null, .int 0, .int 0] := ⟨RX0, TX0, 3, tyX0, rfl, rb_uX0, tyX0_ok, rb_in (by decide +kernel) (by decide +kernel), rb_in (by decide +kernel) (by decide +kernel), rb_in (by decide +kernel) (by decide +kernel), by decide +kernel, rfl⟩
theorem mi_X11_58 : rb_MI RX11 58 yX0_init cX0_init 2 0 := ⟨rb_in (by decide +kernel) (by decide +kernel), rb_in (by decide +kernel) (by decide +kernel), rb_in (by decide +kernel) (by decide +kernel), rb_in (by decide +kernel) (by decide +kernel), rfl, by decide +kernel, by decide +kernel, by decide +kernel⟩
theorem gr_X11_59_10 : rb_FR RX11 59 10 7 := ⟨RX11, TX11, 20, "RibbonPole", rfl, rb_uX11, by decide, rb_in (by decide +kernel) (by decide +kernel), Or.inl rfl⟩
theorem gt_X11_10_7 : rb_TyF RX11 10 7 (.object "RibbonPole$Acts") true := ⟨RX11, TX11, 20, tyX11, rfl, tyX11_ok, nmX11, rfl, rfl, by decide +kernel⟩
theorem gk_X11_63 : Cond.classLink RX11 63 "RibbonPole$Law" ∈ rb_tbl := rb_in (by decide +kernel) (by decide +kernel)
theorem gt_X11_10_8 : rb_TyF RX11 10 8 (.array (.object "RibbonPole$Law")) true := ⟨RX11, TX11, 20, tyX11, rfl, tyX11_ok, nmX11, rfl, rfl, by decide +kernel⟩
theorem gr_X11_69_10 : rb_FR RX11 69 10 10 := ⟨RX11, TX11, 20, "RibbonPole", rfl, rb_uX11, by decide, rb_in (by decide +kernel) (by decide +kernel), Or.inl rfl⟩
theorem gt_X11_10_10 : rb_TyF RX11 10 10 .int false := ⟨RX11, TX11, 20, tyX11, rfl, tyX11_ok, nmX11, rfl, rfl, by decide +kernel⟩
theorem gk_X11_73 : Cond.classLink RX11 73 "RibbonPole$Figure" ∈ rb_tbl := rb_in (by decide +kernel) (by decide +kernel)
theorem gt_X11_10_11 : rb_TyF RX11 10 11 (.array (.object "RibbonPole$Figure")) true := ⟨RX11, TX11, 20, tyX11, rfl, tyX11_ok, nmX11, rfl, rfl, by decide +kernel⟩
theorem gr_X11_79_10 : rb_FR RX11 79 10 13 := ⟨RX11, TX11, 20, "RibbonPole", rfl, rb_uX11, by decide, rb_in (by decide +kernel) (by decide +kernel), Or.inl rfl⟩
theorem gt_X11_10_13 : rb_TyF RX11 10 13 (.array .int) true := ⟨RX11, TX11, 20, tyX11, rfl, tyX11_ok, nmX11, rfl, rfl, by decide +kernel⟩
theorem gr_X11_83_10 : rb_FR RX11 83 10 14 := ⟨RX11, TX11, 20, "RibbonPole", rfl, rb_uX11, by decide, rb_in (by decide +kernel) (by decide +kernel), Or.inl rfl⟩
theorem gt_X11_10_14 : rb_TyF RX11 10 14 (.array .int) true := ⟨RX11, TX11, 20, tyX11, rfl, tyX11_ok, nmX11, rfl, rfl, by decide +kernel⟩
theorem gk_X11_46 : Cond.classLink RX11 46 "RibbonPole$Pole" ∈ rb_tbl := rb_in (by decide +kernel) (by decide +kernel)
theorem gt_X11_10_16 : rb_TyF RX11 10 16 (.array (.object "RibbonPole$Pole")) true := ⟨RX11, TX11, 20, tyX11, rfl, tyX11_ok, nmX11, rfl, rfl, by decide +kernel⟩
theorem gr_X11_90_10 : rb_FR RX11 90 10 17 := ⟨RX11, TX11, 20, "RibbonPole", rfl, rb_uX11, by decide, rb_in (by decide +kernel) (by decide +kernel), Or.inl rfl⟩
theorem gt_X11_10_17 : rb_TyF RX11 10 17 (.array .int) true := ⟨RX11, TX11, 20, tyX11, rfl, tyX11_ok, nmX11, rfl, rfl, by decide +kernel⟩
theorem nw_X11_93 : rb_NW RX11 93 9 [.int 0, .null, .null, .null] := ⟨RX10, TX10, 4, tyX10, rfl, rb_uX10, tyX10_ok, rb_in (by decide +kernel) (by decide +kernel), rb_in (by decide +kernel) (by decide +kernel), rb_in (by decide +kernel) (by decide +kernel), by decide +kernel, rfl⟩
theorem mi_X11_95 : rb_MIN RX11 95 yX10_init cX10_init 1 0 := ⟨by decide +kernel, rb_in (by decide +kernel) (by decide +kernel), rb_in (by decide +kernel) (by decide +kernel), rb_in (by decide +kernel) (by decide +kernel), rfl, by decide +kernel, by decide +kernel, by decide +kernel⟩
theorem gr_X11_96_10 : rb_FR RX11 96 10 18 := ⟨RX11, TX11, 20, "RibbonPole", rfl, rb_uX11, by decide, rb_in (by decide +kernel) (by decide +kernel), Or.inl rfl⟩
theorem gt_X11_10_18 : rb_TyF RX11 10 18 (.object "RibbonPole$Way") true := ⟨RX11, TX11, 20, tyX11, rfl, tyX11_ok, nmX11, rfl, rfl, by decide +kernel⟩
def rb_s0X : rb_St := (fun k i => if k = 0 then (if i = 10 then -1 else 0) else 0, 0)
def rb_wsx (v : rb_Sv) (cy : Nat → ClassId) (ad : Nat → Nat) (σ : rb_St) : va_W := (List.range v.2.1).map (fun k => (ad k, rb_cel cy ad (v.1 k) (σ.1 k) σ.2))
def rb_eqv (e e' : va_E) : Prop := ∀ (D : va_G) (a : Nat) (H : Heap), va_at D vwCl (a, e) H → va_at D vwCl (a, e') H
def rb_sim (u v : va_W) : Prop := u.length = v.length ∧ ∀ (k : Nat) (p q : Nat × va_E), u[k]? = some p → v[k]? = some q → p.1 = q.1 ∧ rb_eqv p.2 q.2
theorem rb_sim.rf {u : va_W} : rb_sim u u := ⟨rfl, fun k p q h1 h2 => by rw [h1] at h2; cases h2; exact ⟨rfl, fun _ _ _ h => h⟩⟩
theorem rb_sim.app {u v x y : va_W} (h1 : rb_sim u v) (h2 : rb_sim x y) : rb_sim (u ++ x) (v ++ y) := by
  refine ⟨by rw [List.length_append, List.length_append, h1.1, h2.1], fun k p q hp hq => ?_⟩
  by_cases hk : k < u.length
  · rw [List.getElem?_append_left hk] at hp
    rw [List.getElem?_append_left (by rw [← h1.1]; exact hk)] at hq
    exact h1.2 k p q hp hq
  · rw [List.getElem?_append_right (by omega)] at hp
    rw [List.getElem?_append_right (by rw [← h1.1]; omega), ← h1.1] at hq
    exact h2.2 _ p q hp hq
theorem rb_sim.one {a : Nat} {c n : Nat} {f g : Nat → Option Nat} (h : ∀ i, i < n → f i = g i) : rb_sim [(a, .inl (c, n, .inr (.inr (.inr (.inr f)))))] [(a, .inl (c, n, .inr (.inr (.inr (.inr g)))))] := by
  refine ⟨rfl, fun k p q hp hq => ?_⟩
  cases k with
  | succ k => simp at hp
  | zero =>
    cases hp
    cases hq
    refine ⟨rfl, fun D b H hh => ?_⟩
    have e : vp_cell c (n, .inr (.inr (.inr (.inr f)))) = vp_cell c (n, .inr (.inr (.inr (.inr g)))) := by
      show arrV c n (fun j => va_rf (f j)) = arrV c n (fun j => va_rf (g j))
      unfold arrV
      congr 1
      apply Array.ext
      · simp
      · intro i h1 h2
        simp at h1 ⊢
        rw [h i h1]
    show H[b]? = some (vp_cell c (n, .inr (.inr (.inr (.inr g)))))
    rw [← e]
    exact hh
theorem rb_sim.P {u v : va_W} (h : rb_sim u v) {D : va_G} {H : Heap} (hP : va_P D vwCl u H) : va_P D vwCl v H := by
  intro k q hq
  have hk : k < u.length := by rw [h.1]; exact (List.getElem?_eq_some_iff.mp hq).1
  obtain ⟨e1, e2⟩ := h.2 k u[k] q (List.getElem?_eq_getElem hk) hq
  have h1 := hP k u[k] (List.getElem?_eq_getElem hk)
  obtain ⟨q1, q2⟩ := q
  cases e1
  exact e2 D _ H h1
theorem rb_sim.D {u v : va_W} (h : rb_sim u v) {A : Nat → Prop} (hD : va_D A u) : va_D A v := by
  have key : ∀ (k : Nat) (q : Nat × va_E), v[k]? = some q → ∃ p, u[k]? = some p ∧ p.1 = q.1 := by
    intro k q hq
    have hk : k < u.length := by rw [h.1]; exact (List.getElem?_eq_some_iff.mp hq).1
    exact ⟨u[k], List.getElem?_eq_getElem hk, (h.2 k u[k] q (List.getElem?_eq_getElem hk) hq).1⟩
  refine ⟨fun i j p q hi hj e => ?_, fun k q hk => ?_⟩
  · obtain ⟨p', g1, g2⟩ := key i p hi
    obtain ⟨q', b1, b2⟩ := key j q hj
    exact hD.1 i j p' q' g1 b1 (by rw [g2, b2]; exact e)
  · obtain ⟨p', g1, g2⟩ := key k q hk
    rw [← g2]
    exact hD.2 k p' g1
theorem rb_FX_mid {U V : va_W} {j qa c n h0 ci : Nat} {fs : List Value} (hU : U.length = j) (h0U : U[0]? = some (h0, .inr (ci, fs))) : rb_FX (fun f => U ++ (qa, .inl (c, n, .inr (.inr (.inr (.inr f))))) :: V) j qa c n h0 ci fs := by
  subst hU
  have l1 : 0 < U.length := (List.getElem?_eq_some_iff.mp h0U).1
  refine ⟨fun f => ?_, fun f => ?_, fun f g => ?_⟩
  · rw [List.getElem?_append_left l1]; exact h0U
  · rw [List.getElem?_append_right (Nat.le_refl _), Nat.sub_self]; rfl
  · rw [List.set_append_right _ _ (Nat.le_refl _), Nat.sub_self]; rfl
theorem rb_its_len {it : (Nat → Nat) → va_W} {m : Nat} {a : Nat → Nat} (h : ∀ b, (it b).length = m) : ∀ i, (rb_its it m a i).length = m * i := by
  intro i
  induction i with
  | zero => rfl
  | succ i ih =>
    have e : rb_its it m a (i + 1) = rb_its it m a i ++ it (fun u => a (m * i + u)) := by
      unfold rb_its
      rw [List.range_succ, List.flatMap_append, List.flatMap_singleton]
    rw [e, List.length_append, ih, h, Nat.mul_add]
    omega
/-- a stretch of cells that a loop made -/
theorem rb_its_seg {it : (Nat → Nat) → va_W} {m : Nat} {a : Nat → Nat} {F : Nat → Nat × va_E} {c : Nat} : ∀ i, (∀ t, t < i → it (fun u => a (m * t + u)) = (List.range' (c + m * t) m).map F) → rb_its it m a i = (List.range' c (m * i)).map F := by
  intro i
  induction i with
  | zero => intro _; rfl
  | succ i ih =>
    intro h
    have e : rb_its it m a (i + 1) = rb_its it m a i ++ it (fun u => a (m * i + u)) := by
      unfold rb_its
      rw [List.range_succ, List.flatMap_append, List.flatMap_singleton]
    rw [e, ih (fun t ht => h t (by omega)), h i (by omega), ← List.map_append]
    congr 1
    rw [Nat.mul_add, Nat.mul_one]
    have := @List.range'_append c (m * i) m 1
    simpa using this
theorem rb_F_ob {cy : Nat → ClassId} {ad : Nat → Nat} {σ : rb_St} {v : rb_Sv} {k ci : Nat} {fk : List rb_Fk} (h : rb_Ob v k ci fk) : rb_cel cy ad (v.1 k) (σ.1 k) σ.2 = .inr (ci, fk.mapIdx (fun i f => rb_f1 ad (σ.1 k) σ.2 i f)) := by rw [h.1]; rfl
theorem rb_F_ar {cy : Nat → ClassId} {ad : Nat → Nat} {σ : rb_St} {v : rb_Sv} {k t n : Nat} (h : rb_Ar v k t n) : rb_cel cy ad (v.1 k) (σ.1 k) σ.2 = .inl (cy t, n, .inl (σ.1 k)) := by rw [h.1]; rfl
theorem rb_s0r {k : Nat} (h : k ≠ 0) : rb_s0X.1 k = fun _ => 0 := by
  funext i
  simp [rb_s0X, h]
theorem rb_pole_seg {cy : Nat → ClassId} {ad : Nat → Nat} {k : Nat} (hk : rb_isPole k) : po_X7_init (ad k) cy [ad (k + 1), ad (k + 2), ad (k + 3), ad (k + 4)] = (List.range' k 5).map (fun k => (ad k, rb_cel cy ad (rb_vX.1 k) (rb_s0X.1 k) rb_s0X.2)) := by
  have hk0 : k ≠ 0 := by rcases hk with h | h | h <;> omega
  show _ = [(ad k, _), (ad (k + 1), _), (ad (k + 1 + 1), _), (ad (k + 1 + 1 + 1), _), (ad (k + 1 + 1 + 1 + 1), _)]
  rw [rb_F_ob (rb_obPole hk), rb_F_ar (rb_arPole1 hk), rb_F_ar (k := k + 1 + 1) (rb_arPole2 hk), rb_F_ar (k := k + 1 + 1 + 1) (rb_arPole3 hk), rb_F_ar (k := k + 1 + 1 + 1 + 1) (rb_arPole4 hk), rb_s0r hk0, rb_s0r (by omega : k + 1 ≠ 0), rb_s0r (by omega : k + 1 + 1 ≠ 0), rb_s0r (by omega : k + 1 + 1 + 1 ≠ 0), rb_s0r (by omega : k + 1 + 1 + 1 + 1 ≠ 0)]
  rfl
theorem rb_law_seg {cy : Nat → ClassId} {ad : Nat → Nat} {k : Nat} (hk : rb_isLaw k) : po_X5_init (ad k) cy [ad (k + 1), ad (k + 2), ad (k + 3)] = (List.range' k 4).map (fun k => (ad k, rb_cel cy ad (rb_vX.1 k) (rb_s0X.1 k) rb_s0X.2)) := by
  have hk0 : k ≠ 0 := by unfold rb_isLaw at hk; omega
  show _ = [(ad k, _), (ad (k + 1), _), (ad (k + 1 + 1), _), (ad (k + 1 + 1 + 1), _)]
  rw [rb_F_ob (rb_obLaw hk), rb_F_ar (rb_arLaw1 hk), rb_F_ar (k := k + 1 + 1) (rb_arLaw2 hk), rb_F_ar (k := k + 1 + 1 + 1) (rb_arLaw3 hk), rb_s0r hk0, rb_s0r (by omega : k + 1 ≠ 0), rb_s0r (by omega : k + 1 + 1 ≠ 0), rb_s0r (by omega : k + 1 + 1 + 1 ≠ 0)]
  rfl
theorem rb_fig_seg {cy : Nat → ClassId} {ad : Nat → Nat} {k : Nat} (hk : rb_isFig k) : po_X1_init (ad k) cy [ad (k + 1)] = (List.range' k 2).map (fun k => (ad k, rb_cel cy ad (rb_vX.1 k) (rb_s0X.1 k) rb_s0X.2)) := by
  have hk0 : k ≠ 0 := by unfold rb_isFig at hk; omega
  show _ = [(ad k, _), (ad (k + 1), _)]
  rw [rb_F_ob (rb_obFig hk), rb_F_ar (rb_arFig1 hk), rb_s0r hk0, rb_s0r (by omega : k + 1 ≠ 0)]
  rfl
def rb_adX (e1 : List Nat) (qA : Nat) (nA : List Nat) (e2 : List Nat) (g1 g2 g3 : Nat → Nat) (k : Nat) : Nat := if k < 28 then e1.getD k 0 else if k < 29 then qA else if k < 230 then nA.getD (k - 29) 0 else if k < 240 then e2.getD (k - 230) 0 else if k < 256 then g1 (k - 240) else if k < 268 then g2 (k - 256) else g3 (k - 268)
set_option maxHeartbeats 4000000 in
set_option maxRecDepth 100000 in
theorem rb_allX (cy : Nat → ClassId) (h0 q1 a2 q3 a4 a5 a6 q7 a8 a9 a10 a11 q12 a13 a14 q15 a16 a17 q18 a19 a20 a21 a22 q23 a24 a25 a26 a27 q28 q29 q30 q31 q32 q33 q34 q35 a36 a37 a38 : Nat) (nsA : List Nat) (g1 g2 g3 : Nat → Nat) : rb_sim ([(h0, .inr (10, [.ref q1, .ref q3, .ref q7, .ref q12, .ref q15, .ref q18, .ref q23, .ref q28, .ref q29, .int 0, .int (-1), .ref q30, .int 0, .ref q31, .ref q32, .int 0, .ref q33, .ref q34, .ref q35, .long 0])), (q1, .inr (8, [.ref a2, .int 0])), (a2, .inl (cy 0, 240, .inl (fun _ => 0))), (q3, .inr (4, [.ref q1, .int 0, .ref a4, .int 0])), (a4, .inr (3, [.ref a5, .ref a6, .int 0])), (a5, .inl (cy 0, 3, .inl (fun _ => 0))), (a6, .inl (cy 0, 24, .inl (fun _ => 0))), (q7, .inr (6, [.ref q1, .int 0, .ref a8])), (a8, .inr (5, [.ref a9, .int 0, .ref a10, .ref a11, .int 0])), (a9, .inl (cy 0, 240, .inl (fun _ => 0))), (a10, .inl (cy 0, 8, .inl (fun _ => 0))), (a11, .inl (cy 0, 64, .inl (fun _ => 0))), (q12, .inr (2, [.ref q1, .int 0, .ref a13])), (a13, .inr (1, [.ref a14, .int 0])), (a14, .inl (cy 0, 48, .inl (fun _ => 0))), (q15, .inr (3, [.ref a16, .ref a17, .int 0])), (a16, .inl (cy 0, 3, .inl (fun _ => 0))), (a17, .inl (cy 0, 24, .inl (fun _ => 0))), (q18, .inr (7, [.int 0, .int 0, .int 0, .int 0, .ref a19, .ref a20, .ref a21, .ref a22])), (a19, .inl (cy 0, 8, .inl (fun _ => 0))), (a20, .inl (cy 0, 8, .inl (fun _ => 0))), (a21, .inl (cy 0, 48, .inl (fun _ => 0))), (a22, .inl (cy 0, 60, .inl (fun _ => 0))), (q23, .inr (7, [.int 0, .int 0, .int 0, .int 0, .ref a24, .ref a25, .ref a26, .ref a27])), (a24, .inl (cy 0, 8, .inl (fun _ => 0))), (a25, .inl (cy 0, 8, .inl (fun _ => 0))), (a26, .inl (cy 0, 48, .inl (fun _ => 0))), (a27, .inl (cy 0, 60, .inl (fun _ => 0)))] ++ (po_X0_init q28 cy nsA ++ ([(q29, .inl (cy 3, 4, .inr (.inr (.inr (.inr (rb_fi 4 g1 4)))))), (q30, .inl (cy 4, 6, .inr (.inr (.inr (.inr (rb_fi 2 g2 6)))))), (q31, .inl (cy 0, 5, .inl (fun _ => 0))), (q32, .inl (cy 0, 10, .inl (fun _ => 0))), (q33, .inl (cy 2, 9, .inr (.inr (.inr (.inr (rb_fi 5 g3 9)))))), (q34, .inl (cy 0, 48, .inl (fun _ => 0)))] ++ ([(q35, .inr (9, [.int 0, .ref a36, .ref a37, .ref a38])), (a36, .inl (cy 0, 8, .inl (fun _ => 0))), (a37, .inl (cy 0, 8, .inl (fun _ => 0))), (a38, .inl (cy 0, 8, .inl (fun _ => 0)))] ++ (rb_its (it_laws cy) 4 g1 4 ++ (rb_its (it_figs cy) 2 g2 6 ++ rb_its (it_apart cy) 5 g3 9)))))) (rb_wsx rb_vX cy (rb_adX [h0, q1, a2, q3, a4, a5, a6, q7, a8, a9, a10, a11, q12, a13, a14, q15, a16, a17, q18, a19, a20, a21, a22, q23, a24, a25, a26, a27] q28 nsA [q29, q30, q31, q32, q33, q34, q35, a36, a37, a38] g1 g2 g3) rb_s0X) := by
  obtain ⟨ad, had⟩ : ∃ f, f = rb_adX [h0, q1, a2, q3, a4, a5, a6, q7, a8, a9, a10, a11, q12, a13, a14, q15, a16, a17, q18, a19, a20, a21, a22, q23, a24, a25, a26, a27] q28 nsA [q29, q30, q31, q32, q33, q34, q35, a36, a37, a38] g1 g2 g3 := ⟨_, rfl⟩
  rw [← had]
  have er : List.range 313 = List.range' 0 28 ++ (List.range' 28 2 ++ (List.range' 30 200 ++ (List.range' 230 10 ++ (List.range' 240 16 ++ (List.range' 256 12 ++ List.range' 268 45))))) := by decide +kernel
  have h1 : rb_its (it_ahead cy) 5 (fun t => nsA.getD (t + 1) 0) 40 = (List.range' 30 200).map (fun k => (ad k, rb_cel cy ad (rb_vX.1 k) (rb_s0X.1 k) rb_s0X.2)) := by
    refine rb_its_seg 40 (fun t ht => ?_)
    rw [← rb_pole_seg (k := 30 + 5 * t) (Or.inr (Or.inl ⟨by omega, by omega, by omega⟩))]
    have hq : ∀ u, u < 5 → ad (30 + 5 * t + u) = nsA.getD (5 * t + u + 1) 0 := by
      intro u hu
      rw [had]
      unfold rb_adX
      rw [if_neg (by omega), if_neg (by omega), if_pos (by omega)]
      congr 1
      omega
    show po_X7_init (nsA.getD (5 * t + 0 + 1) 0) cy [nsA.getD (5 * t + 1 + 1) 0, nsA.getD (5 * t + 2 + 1) 0, nsA.getD (5 * t + 3 + 1) 0, nsA.getD (5 * t + 4 + 1) 0] = _
    rw [← hq 0 (by decide), ← hq 1 (by decide), ← hq 2 (by decide), ← hq 3 (by decide), ← hq 4 (by decide)]
    rfl
  have h2 : rb_its (it_laws cy) 4 g1 4 = (List.range' 240 16).map (fun k => (ad k, rb_cel cy ad (rb_vX.1 k) (rb_s0X.1 k) rb_s0X.2)) := by
    refine rb_its_seg 4 (fun t ht => ?_)
    rw [← rb_law_seg (k := 240 + 4 * t) (by unfold rb_isLaw; omega)]
    have hq : ∀ u, u < 4 → ad (240 + 4 * t + u) = g1 (4 * t + u) := by
      intro u hu
      rw [had]
      unfold rb_adX
      rw [if_neg (by omega), if_neg (by omega), if_neg (by omega), if_neg (by omega), if_pos (by omega)]
      congr 1
      omega
    show po_X5_init (g1 (4 * t + 0)) cy [g1 (4 * t + 1), g1 (4 * t + 2), g1 (4 * t + 3)] = _
    rw [← hq 0 (by decide), ← hq 1 (by decide), ← hq 2 (by decide), ← hq 3 (by decide)]
    rfl
  have h3 : rb_its (it_figs cy) 2 g2 6 = (List.range' 256 12).map (fun k => (ad k, rb_cel cy ad (rb_vX.1 k) (rb_s0X.1 k) rb_s0X.2)) := by
    refine rb_its_seg 6 (fun t ht => ?_)
    rw [← rb_fig_seg (k := 256 + 2 * t) (by unfold rb_isFig; omega)]
    have hq : ∀ u, u < 2 → ad (256 + 2 * t + u) = g2 (2 * t + u) := by
      intro u hu
      rw [had]
      unfold rb_adX
      rw [if_neg (by omega), if_neg (by omega), if_neg (by omega), if_neg (by omega), if_neg (by omega), if_pos (by omega)]
      congr 1
      omega
    show po_X1_init (g2 (2 * t + 0)) cy [g2 (2 * t + 1)] = _
    rw [← hq 0 (by decide), ← hq 1 (by decide)]
    rfl
  have h4 : rb_its (it_apart cy) 5 g3 9 = (List.range' 268 45).map (fun k => (ad k, rb_cel cy ad (rb_vX.1 k) (rb_s0X.1 k) rb_s0X.2)) := by
    refine rb_its_seg 9 (fun t ht => ?_)
    rw [← rb_pole_seg (k := 268 + 5 * t) (Or.inr (Or.inr ⟨by omega, by omega, by omega⟩))]
    have hq : ∀ u, u < 5 → ad (268 + 5 * t + u) = g3 (5 * t + u) := by
      intro u hu
      rw [had]
      unfold rb_adX
      rw [if_neg (by omega), if_neg (by omega), if_neg (by omega), if_neg (by omega), if_neg (by omega), if_neg (by omega)]
      congr 1
      omega
    show po_X7_init (g3 (5 * t + 0)) cy [g3 (5 * t + 1), g3 (5 * t + 2), g3 (5 * t + 3), g3 (5 * t + 4)] = _
    rw [← hq 0 (by decide), ← hq 1 (by decide), ← hq 2 (by decide), ← hq 3 (by decide), ← hq 4 (by decide)]
    rfl
  have e : rb_wsx rb_vX cy ad rb_s0X = [(h0, .inr (10, [.ref q1, .ref q3, .ref q7, .ref q12, .ref q15, .ref q18, .ref q23, .ref q28, .ref q29, .int 0, .int (-1), .ref q30, .int 0, .ref q31, .ref q32, .int 0, .ref q33, .ref q34, .ref q35, .long 0])), (q1, .inr (8, [.ref a2, .int 0])), (a2, .inl (cy 0, 240, .inl (fun _ => 0))), (q3, .inr (4, [.ref q1, .int 0, .ref a4, .int 0])), (a4, .inr (3, [.ref a5, .ref a6, .int 0])), (a5, .inl (cy 0, 3, .inl (fun _ => 0))), (a6, .inl (cy 0, 24, .inl (fun _ => 0))), (q7, .inr (6, [.ref q1, .int 0, .ref a8])), (a8, .inr (5, [.ref a9, .int 0, .ref a10, .ref a11, .int 0])), (a9, .inl (cy 0, 240, .inl (fun _ => 0))), (a10, .inl (cy 0, 8, .inl (fun _ => 0))), (a11, .inl (cy 0, 64, .inl (fun _ => 0))), (q12, .inr (2, [.ref q1, .int 0, .ref a13])), (a13, .inr (1, [.ref a14, .int 0])), (a14, .inl (cy 0, 48, .inl (fun _ => 0))), (q15, .inr (3, [.ref a16, .ref a17, .int 0])), (a16, .inl (cy 0, 3, .inl (fun _ => 0))), (a17, .inl (cy 0, 24, .inl (fun _ => 0))), (q18, .inr (7, [.int 0, .int 0, .int 0, .int 0, .ref a19, .ref a20, .ref a21, .ref a22])), (a19, .inl (cy 0, 8, .inl (fun _ => 0))), (a20, .inl (cy 0, 8, .inl (fun _ => 0))), (a21, .inl (cy 0, 48, .inl (fun _ => 0))), (a22, .inl (cy 0, 60, .inl (fun _ => 0))), (q23, .inr (7, [.int 0, .int 0, .int 0, .int 0, .ref a24, .ref a25, .ref a26, .ref a27])), (a24, .inl (cy 0, 8, .inl (fun _ => 0))), (a25, .inl (cy 0, 8, .inl (fun _ => 0))), (a26, .inl (cy 0, 48, .inl (fun _ => 0))), (a27, .inl (cy 0, 60, .inl (fun _ => 0)))] ++ ([(q28, .inr (0, [.ref (nsA.getD 0 0), .int 0, .int 0])), ((nsA.getD 0 0), .inl (cy 2, 40, .inr (.inr (.inr (.inr (fun i => some (ad (30 + 5 * i))))))))] ++ (rb_its (it_ahead cy) 5 (fun t => nsA.getD (t + 1) 0) 40 ++ (([(q29, .inl (cy 3, 4, .inr (.inr (.inr (.inr (fun i => some (ad (240 + 4 * i))))))))] ++ ([(q30, .inl (cy 4, 6, .inr (.inr (.inr (.inr (fun i => some (ad (256 + 2 * i))))))))] ++ ([(q31, .inl (cy 0, 5, .inl (fun _ => 0))), (q32, .inl (cy 0, 10, .inl (fun _ => 0)))] ++ ([(q33, .inl (cy 2, 9, .inr (.inr (.inr (.inr (fun i => some (ad (268 + 5 * i))))))))] ++ [(q34, .inl (cy 0, 48, .inl (fun _ => 0)))])))) ++ ([(q35, .inr (9, [.int 0, .ref a36, .ref a37, .ref a38])), (a36, .inl (cy 0, 8, .inl (fun _ => 0))), (a37, .inl (cy 0, 8, .inl (fun _ => 0))), (a38, .inl (cy 0, 8, .inl (fun _ => 0)))] ++ (rb_its (it_laws cy) 4 g1 4 ++ (rb_its (it_figs cy) 2 g2 6 ++ rb_its (it_apart cy) 5 g3 9)))))) := by
    unfold rb_wsx
    show (List.range 313).map _ = _
    rw [er]
    simp only [List.map_append]
    rw [h1, h2, h3, h4]
    subst had
    rfl
  rw [e]
  have g : ∀ (c m N : Nat) (b : Nat → Nat), (∀ i, i < N → ad (c + m * i) = b (m * i)) → ∀ i, i < N → rb_fi m b N i = some (ad (c + m * i)) := by
    intro c m N b hb i hi
    unfold rb_fi
    rw [if_pos hi, hb i hi]
  have k1 : ∀ i, i < 40 → ad (30 + 5 * i) = nsA.getD (5 * i + 1) 0 := by
    intro i hi
    rw [had]
    unfold rb_adX
    rw [if_neg (by omega), if_neg (by omega), if_pos (by omega)]
    congr 1
    omega
  have k2 : ∀ i, i < 4 → ad (240 + 4 * i) = g1 (4 * i) := by
    intro i hi
    rw [had]
    unfold rb_adX
    rw [if_neg (by omega), if_neg (by omega), if_neg (by omega), if_neg (by omega), if_pos (by omega)]
    congr 1
    omega
  have k3 : ∀ i, i < 6 → ad (256 + 2 * i) = g2 (2 * i) := by
    intro i hi
    rw [had]
    unfold rb_adX
    rw [if_neg (by omega), if_neg (by omega), if_neg (by omega), if_neg (by omega), if_neg (by omega), if_pos (by omega)]
    congr 1
    omega
  have k4 : ∀ i, i < 9 → ad (268 + 5 * i) = g3 (5 * i) := by
    intro i hi
    rw [had]
    unfold rb_adX
    rw [if_neg (by omega), if_neg (by omega), if_neg (by omega), if_neg (by omega), if_neg (by omega), if_neg (by omega)]
    congr 1
    omega
  unfold po_X0_init
  rw [List.append_assoc]
  refine rb_sim.app rb_sim.rf (rb_sim.app (rb_sim.app (u := [_]) (v := [_]) (x := [_]) (y := [_]) rb_sim.rf (rb_sim.one (g 30 5 40 (fun t => nsA.getD (t + 1) 0) k1))) (rb_sim.app rb_sim.rf (rb_sim.app ?_ rb_sim.rf)))
  exact rb_sim.app (u := [_]) (x := [_, _, _, _, _]) (rb_sim.one (g 240 4 4 g1 k2)) (rb_sim.app (u := [_]) (x := [_, _, _, _]) (rb_sim.one (g 256 2 6 g2 k3)) (rb_sim.app (u := [_, _]) (x := [_, _]) rb_sim.rf (rb_sim.app (u := [_]) (x := [_]) (rb_sim.one (g 268 5 9 g3 k4)) rb_sim.rf)))
