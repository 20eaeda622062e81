/-! the law's case of dancer; the law's loop with room that is used up -/
theorem mv_L_47 : rb_MV RL 47 yX12_dancer cX12_dancer 3 (some .int) 2 := ⟨rb_in (by decide +kernel) (by decide +kernel), rb_in (by decide +kernel) (by decide +kernel), rb_in (by decide +kernel) (by decide +kernel), rb_in (by decide +kernel) (by decide +kernel), rb_in (by decide +kernel) (by decide +kernel), by decide +kernel, by decide +kernel, by decide +kernel⟩
theorem mv_L_48 : rb_MV RL 48 yX12_thrown cX12_thrown 1 (some .int) 0 := ⟨rb_in (by decide +kernel) (by decide +kernel), rb_in (by decide +kernel) (by decide +kernel), rb_in (by decide +kernel) (by decide +kernel), rb_in (by decide +kernel) (by decide +kernel), rb_in (by decide +kernel) (by decide +kernel), by decide +kernel, by decide +kernel, by decide +kernel⟩
theorem rb_cmpD (x : Int64) : lg_cmp x x = 0 := by
  unfold lg_cmp
  simp
section RBD
variable {z : rb_Z} {g : rb_Gd} {b L : Nat} {xs : Nat → Int32} {cs sl : Nat} {Q : State → Prop} {pc : Nat} {lv : List (Nat × Value)} {st : List Value} {σ τ : rb_St} {o o1 : Nat → Int64} {Rel : rb_St → rb_St → Prop}
theorem rb_l_widen (k : rb_LAt z g (cs + 1) (sl + 6) Q pc lv st σ τ o) : rb_LAt z g cs sl Q pc lv st σ τ o := fun H locs ls a b c d e => W.widen (Nat.le_add_right _ _) (Nat.le_add_right _ _) (k H locs ls a b c d e)
set_option maxHeartbeats 4000000 in
theorem rb_l_callD (hC : rb_Lx z g b L xs cs sl) (hC1 : cs + 1 ≤ 601024 ∧ sl + 6 ≤ 7293034) (hTX : rb_TX (fun q => (rb_s z).heap.size ≤ q) (rb_s z) (rb_s z).heap) {p0 p1 r : Int32} (hM : Met z.2.1 yL_dancer (.codeWith yL_dancer cL_dancer 5 (some .int) hhL :: rb_tbl) rmL (rb_LdP g p0 p1 σ o) (rb_LdQ g r σ o1) 1 6 (rb_LA g)) (kk : rb_LAt z g (cs + 1) (sl + 6) Q 410 lv [.int r] σ τ o1) : rb_LAt z g cs sl Q 407 lv [.ref (rb_qo g), .int p1, .int p0, .ref (rb_ad (rb_w1 g) 0)] σ τ o := by
  obtain ⟨hex, hby, hret, hml, hown, hts, hlk, hR, hK, ⟨hI1, hSF, hI2⟩, ⟨d1, d2, d3⟩, ⟨hX, hb, hL⟩, hcs, hsl⟩ := id hC
  have hA : ¬ rb_A (rb_w1 g) (rb_qo g) := fun h => (d1 _ h).2.2 rfl
  have hLA : ∀ q, rb_LA g q → (rb_s z).heap.size ≤ q := fun q h => h.elim (fun h => (d1 q h).1) (fun h => by rw [h]; exact d3)
  intro H locs ls hP hM2 hO hS hl
  have hG : GoodIn rb_tbl (va_wsS RL 42 yL_dancer (.codeWith yL_dancer cL_dancer 5 (some .int) hhL :: rb_tbl)) := by
    intro u hu
    have : u ∈ rb_tbl := by
      simp only [va_wsS, List.cons_append, List.nil_append, List.mem_cons] at hu
      rcases hu with rfl | rfl | rfl | rfl | hu
      · exact wl_ml
      · exact wl_st
      · exact wl_in
      · exact wl_cw
      · exact hu
    exact ⟨this, rb_good this⟩
  have hrm : rmL.frames + 1 ≤ (rb_R z).frames ∧ 8 + (5 + 11) + rmL.locals ≤ (rb_R z).locals := by
    rw [hR]
    show 12 + 1 ≤ 2048 ∧ 8 + (5 + 11) + 700 ≤ 84000
    omega
  have hz : cs + 1 ≤ (rb_R z).cells ∧ sl + 6 ≤ (rb_R z).slots := by
    rw [hR]
    exact hC1
  have hr := vx_runSW (p := z.1) (l := z.2.1) (e := z.2.2.1) (R := rb_R z) (s := rb_s z) (m := rb_m z) (args := rb_a z) (below := rb_b z) (meth := rb_me z) (c := rb_c z) (H := H) (locs := locs) (cells := cs) (slots := sl) (g := F0 (rb_m z) 407 ls [.ref (rb_qo g), .int p1, .int p0, .ref (rb_ad (rb_w1 g) 0)]) (As := rb_Lav g p0 p1) (rest := []) (nL := 7) (Ts := rb_tbl) ⟨hex, hby, hml, hown, hts⟩ hM (vx_cwSW 4 hts hG rfl rfl rfl ⟨by decide, by decide, by decide +kernel⟩ hrm) ⟨rb_LdP_blind, fun U hU hW => ⟨rfl, by rw [hU]; exact hP, by rw [hU]; exact hO, va_K.moved hW.alike hK, hI1, rb_VokX.1 _ (rb_s z) U _ _ hW (by rw [hU]; exact fun q h1 _ => hS.2.1 q h1 (Nat.not_le_of_lt h1)) hSF, hA, (hTX.go hW (by rw [hU]; exact fun a h1 h2 => hS.2.1 a h1 h2)).narrow hLA⟩⟩ rfl rfl hl.1 rfl (lv_room (Nat.le_of_ble_eq_true rfl)) dL_law_407 hz
  intro T hT X
  obtain ⟨v0, st₀, t, T', L', h0, X', hL', e1, e2, ⟨hq, hP1, hO1, hz1, hk⟩, stp⟩ := hr T hT X
  cases hq
  rw [h0] at hz1 hk
  have keep : ∀ (q : Nat), ¬ rb_LA g q → q < H.size → T'.heap[q]? = H[q]? := fun q hq hn => by
    rw [e1]
    exact hk q hn hq
  have hP2 : va_P g.1 vwCl (rb_ws rb_vX (rb_w1 g) σ) T'.heap := by rw [e1]; exact hP1
  have hO2 : va_P g.1 vwCl (rb_o1 g o1) T'.heap := by rw [e1]; exact hO1
  have hM3 : va_P g.1 vwCl (rb_ws rb_vM (rb_w2 g) τ) T'.heap := hM2.kept (fun k q hk2 => by
      have hlt := (hM2 k _ hk2).lt
      obtain ⟨h1, rfl⟩ := rb_ws_get hk2
      exact keep _ (fun hh => hh.elim (fun hA => (d1 _ hA).2.1 k h1 rfl) (fun e => (d2 _ (hI2.2 k h1)).2.2 e.symm)) hlt)
  have hS2 : va_S (fun q => (rb_s z).heap.size ≤ q) (rb_s z).heap T'.heap (locs ++ L') := ⟨Nat.le_trans hS.1 (by rw [e1]; exact hz1), fun q h1 h2 => (keep q (fun hA => h2 (hLA q hA)) (Nat.lt_of_lt_of_le h1 hS.1)).trans (hS.2.1 q h1 h2), fun q hq => by
      rcases List.mem_append.mp hq with h | h
      · exact hS.2.2 q h
      · exact hLA _ (hL' q h)⟩
  obtain ⟨t2, a1, b1⟩ := kk T'.heap (locs ++ L') ls hP2 hM3 hO2 hS2 hl T' rfl X'
  exact ⟨t2, stp t2 a1, b1⟩
def rb_lv5 (g : rb_Gd) (b i : Nat) (k : Int32) : List (Nat × Value) := [(0, .ref b), (1, .ref (rb_ad (rb_w1 g) 0)), (2, .ref (rb_ad (rb_w2 g) 0)), (3, .ref (rb_qo g)), (4, .int (nI i)), (5, .int k)]
def rb_lv6 (g : rb_Gd) (b i : Nat) (k r : Int32) : List (Nat × Value) := [(6, .int r), (0, .ref b), (1, .ref (rb_ad (rb_w1 g) 0)), (2, .ref (rb_ad (rb_w2 g) 0)), (3, .ref (rb_qo g)), (4, .int (nI i)), (5, .int k)]
set_option maxHeartbeats 4000000 in
theorem lc_dmid (hC : rb_Lx z g b L xs cs sl) {i : Nat} (hi : i + 6 ≤ L) {k r : Int32} {τ1 : rb_St} (h2 : xf_M_dancer (xs (i + 1)) (xs (i + 2)) τ = some (r, τ1)) (h3 : xf_M_thrown τ1 = k) (kk : rb_LAt z g cs sl Q 441 (rb_lv6 g b i k r) [] σ τ1 o) : rb_LAt z g cs sl Q 410 (rb_lv g b i) [.int k] σ τ o := by
  refine rb_l_istore hC [(5, .int k), (0, .ref b), (1, .ref (rb_ad (rb_w1 g) 0)), (2, .ref (rb_ad (rb_w2 g) 0)), (3, .ref (rb_qo g)), (4, .int (nI i))] dL_law_410 (by decide) rfl ?_
  refine rb_l_sub (lv2 := rb_lv5 g b i k) [1, 2, 3, 4, 5, 0] rfl ?_
  refine rb_l_aload_n hC 2 dL_law_412 rfl ?_
  refine rb_l_arg hC 1 (by decide) hi (by decide) rfl rfl dL_law_413 dL_law_414 dL_law_416 dL_law_417 dL_law_418 ?_
  refine rb_l_arg hC 2 (by decide) hi (by decide) rfl rfl dL_law_419 dL_law_420 dL_law_422 dL_law_423 dL_law_424 ?_
  refine rb_l_call2 hC mv_L_47 (xc_M_dancer (xs (i + 1)) (xs (i + 2)) τ r τ1 h2) lo_M rfl [.int (xs (i + 1)), .int (xs (i + 2))] rfl rfl rfl ⟨by decide, by decide⟩ (Nat.le_of_ble_eq_true rfl) dL_law_425 ?_
  refine rb_l_istore hC (rb_lv6 g b i k r) dL_law_428 (by decide) rfl ?_
  refine rb_l_aload_n hC 3 dL_law_430 rfl ?_
  refine rb_l_call2 hC mv_L_48 (xc_M_thrown τ1 k h3) lo_M rfl [] rfl rfl rfl ⟨by decide, by decide⟩ (Nat.le_of_ble_eq_true rfl) dL_law_431 ?_
  refine rb_l_iload hC 6 dL_law_434 rfl ?_
  exact rb_l_icmp_eq hC 441 dL_law_436 (by decide) (fun _ => kk) (fun h => absurd rfl h)
set_option maxHeartbeats 4000000 in
theorem lc_dancer (hC : rb_Lx z g b L xs cs sl) (hC1 : rb_Lx z g b L xs (cs + 1) (sl + 6)) (hTX : rb_TX (fun q => (rb_s z).heap.size ≤ q) (rb_s z) (rb_s z).heap) (hl0 : z.2.1.stackTraces = false) {i : Nat} (hi : i + 6 ≤ L) (OD : op_dancer Rel) (hR : Rel σ τ) (kk : ∀ (σ τ : rb_St) (o : Nat → Int64), Rel σ τ → rb_LAt z g (cs + 1) (sl + 6) Q 1620 (rb_lv g b i) [] σ τ o) : rb_LAt z g cs sl Q 393 (rb_lv g b i) [] σ τ o := by
  have hz := hC1.2.2.2.2.2.2.2.2.2.2.2.2
  refine rb_l_aload_n hC 1 dL_law_393 rfl ?_
  refine rb_l_arg hC 1 (by decide) hi (by decide) rfl rfl dL_law_394 dL_law_395 dL_law_397 dL_law_398 dL_law_399 ?_
  refine rb_l_arg hC 2 (by decide) hi (by decide) rfl rfl dL_law_400 dL_law_401 dL_law_403 dL_law_404 dL_law_405 ?_
  refine rb_l_aload_n hC 3 dL_law_406 rfl ?_
  rcases OD σ τ hR (xs (i + 1)) (xs (i + 2)) with ⟨r, τ1, h1, h2, h3, h4⟩ | ⟨hc, r, τ1, h2, h3, h4⟩
  · refine rb_l_callD hC hz hTX (ld_ok z.2.1 g _ _ σ o r h1) ?_
    refine lc_dmid hC1 hi h2 h3 ?_
    refine rb_l_iload hC1 6 dL_law_441 rfl ?_
    refine rb_l_if_ne hC1 458 dL_law_443 (by decide) (fun hh => absurd rfl hh) (fun _ => ?_)
    refine rb_l_aload_n hC1 4 dL_law_446 rfl ?_
    refine rb_l_iconst (x := 0) hC1 dL_law_447 (by decide) ?_
    refine rb_l_laload hC1 dL_law_448 ?_
    refine rb_l_iload hC1 0 dL_law_449 rfl ?_
    refine rb_l_i2l hC1 dL_law_451 ?_
    refine rb_l_lcmp hC1 dL_law_452 ?_
    refine rb_l_if_eq hC1 458 dL_law_453 (by decide) (fun _ => ?_) (fun hh => absurd (rb_cmpD r.toInt64) hh)
    refine rb_l_goto hC1 1620 dL_law_458 (by decide) ?_
    exact rb_l_sub (lv2 := rb_lv g b i) [1, 2, 3, 4, 5] rfl (kk σ τ1 _ h4)
  · refine rb_l_callD hC hz hTX (ld_thr z.2.1 hl0 g _ _ σ o hc) ?_
    refine lc_dmid hC1 hi h2 h3 ?_
    refine rb_l_iload hC1 6 dL_law_441 rfl ?_
    refine rb_l_if_ne hC1 458 dL_law_443 (by decide) (fun _ => ?_) (fun hh => absurd hh (by decide))
    refine rb_l_goto hC1 1620 dL_law_458 (by decide) ?_
    exact rb_l_sub (lv2 := rb_lv g b i) [1, 2, 3, 4, 5] rfl (kk σ τ1 _ h4)
end RBD
set_option maxHeartbeats 4000000 in
theorem rb_loop {z : rb_Z} {g : rb_Gd} {b L : Nat} {xs : Nat → Int32} {c0 s0 : Nat} {Q : State → Prop} {Rel : rb_St → rb_St → Prop} (hC : ∀ j, j ≤ 600 → rb_Lx z g b L xs (c0 + j) (s0 + 6 * j)) (O : rb_Ops Rel) (OD : op_dancer Rel) (hl0 : z.2.1.stackTraces = false) (hTX : rb_TX (fun q => (rb_s z).heap.size ≤ q) (rb_s z) (rb_s z).heap)
    (hE : ∀ j, j ≤ 600 → ∀ (σ τ : rb_St) (o : Nat → Int64) (i : Nat), rb_LAt z g (c0 + j) (s0 + 6 * j) Q 1626 (rb_lv g b i) [] σ τ o) :
    ∀ (n i j : Nat) (σ τ : rb_St) (o : Nat → Int64), Rel σ τ → i = 6 * j → i ≤ L + 6 → L + 6 < i + n → rb_LAt z g (c0 + j) (s0 + 6 * j) Q 23 (rb_lv g b i) [] σ τ o := by
  have hL := (hC 0 (by omega)).2.2.2.2.2.2.2.2.2.2.2.1.2.2
  intro n
  induction n with
  | zero => intro i j σ τ o hR hij h1 h2; exact absurd h2 (by omega)
  | succ n ih =>
    intro i j σ τ o hR hij h1 h2
    have hC0 := hC j (by omega)
    have hC1 : rb_Lx z g b L xs (c0 + j + 1) (s0 + 6 * j + 6) := by
      have := hC (j + 1) (by omega)
      rw [show c0 + (j + 1) = c0 + j + 1 by omega, show s0 + 6 * (j + 1) = s0 + 6 * j + 6 by omega] at this
      exact this
    refine rb_l_iload hC0 4 dL_law_23 rfl ?_
    refine rb_l_aload_n hC0 0 dL_law_25 rfl ?_
    refine rb_l_slen hC0 dL_law_26 ?_
    refine rb_l_bipush (x := 6) hC0 dL_law_27 (by decide) ?_
    refine rb_l_isub hC0 dL_law_29 ?_
    refine rb_l_icmp_gt hC0 1626 dL_law_30 (by decide) (fun _ => hE j (by omega) σ τ o i) (fun hc => ?_)
    have hi : i + 6 ≤ L := rb_gt6 hL (by omega) hc
    have next : ∀ (σ τ : rb_St) (o : Nat → Int64), Rel σ τ → rb_LAt z g (c0 + j + 1) (s0 + 6 * j + 6) Q 1620 (rb_lv g b i) [] σ τ o := by
      intro σ τ o hR
      refine rb_l_iinc hC1 4 [(4, .int (nI (i + 6))), (0, .ref b), (1, .ref (rb_ad (rb_w1 g) 0)), (2, .ref (rb_ad (rb_w2 g) 0)), (3, .ref (rb_qo g))] dL_law_1620 rfl (nI_add i 6) (by decide) rfl ?_
      refine rb_l_goto hC1 23 dL_law_1623 (by decide) ?_
      refine rb_l_sub (lv2 := rb_lv g b (i + 6)) [1, 2, 3, 4, 0] rfl ?_
      have := ih (i + 6) (j + 1) σ τ o hR (by omega) (by omega) (by omega)
      rw [show c0 + (j + 1) = c0 + j + 1 by omega, show s0 + 6 * (j + 1) = s0 + 6 * j + 6 by omega] at this
      exact this
    refine rb_l_aload_n hC0 0 dL_law_33 rfl ?_
    refine rb_l_iload hC0 4 dL_law_34 rfl ?_
    refine rb_l_sld hC0 (vp_in_nI (by omega) (by omega)) dL_law_36 ?_
    refine rb_l_bipush (x := 63) hC0 dL_law_37 (by decide) ?_
    refine rb_l_iand hC0 dL_law_39 ?_
    obtain ⟨k, hk, ek⟩ := rb_and63 (xs (nI i).toNatClampNeg)
    rw [ek]
    rcases Nat.lt_or_ge k 41 with h41 | h41
    · have hcs : k = 0 ∨ k = 1 ∨ k = 2 ∨ k = 3 ∨ k = 4 ∨ k = 5 ∨ k = 6 ∨ k = 7 ∨ k = 8 ∨ k = 9 ∨ k = 10 ∨ k = 11 ∨ k = 12 ∨ k = 13 ∨ k = 14 ∨ k = 15 ∨ k = 16 ∨ k = 17 ∨ k = 18 ∨ k = 19 ∨ k = 20 ∨ k = 21 ∨ k = 22 ∨ k = 23 ∨ k = 24 ∨ k = 25 ∨ k = 26 ∨ k = 27 ∨ k = 28 ∨ k = 29 ∨ k = 30 ∨ k = 31 ∨ k = 32 ∨ k = 33 ∨ k = 34 ∨ k = 35 ∨ k = 36 ∨ k = 37 ∨ k = 38 ∨ k = 39 ∨ k = 40 := by omega
      rcases hcs with rfl | rfl | rfl | rfl | rfl | rfl | rfl | rfl | rfl | rfl | rfl | rfl | rfl | rfl | rfl | rfl | rfl | rfl | rfl | rfl | rfl | rfl | rfl | rfl | rfl | rfl | rfl | rfl | rfl | rfl | rfl | rfl | rfl | rfl | rfl | rfl | rfl | rfl | rfl | rfl | rfl
      · refine rb_l_tableIn hC0 220 dL_law_40 (by decide +kernel) (by decide +kernel) (off := 180) (by decide +kernel) (by decide) ?_
        obtain ⟨r, σ', τ', h1, h2, h3⟩ := O.1 σ τ hR (xs (i + 1)) (xs (i + 2)) (xs (i + 3)) (xs (i + 4)) (xs (i + 5))
        exact rb_l_widen (lc_feed hC1 hi h1 h2 (next σ' τ' o h3))
      · refine rb_l_tableIn hC0 293 dL_law_40 (by decide +kernel) (by decide +kernel) (off := 253) (by decide +kernel) (by decide) ?_
        obtain ⟨r, σ', τ', h1, h2, h3⟩ := O.2.1 σ τ hR (xs (i + 1))
        exact rb_l_widen (lc_end hC1 hi h1 h2 (next σ' τ' o h3))
      · refine rb_l_tableIn hC0 318 dL_law_40 (by decide +kernel) (by decide +kernel) (off := 278) (by decide +kernel) (by decide) ?_
        by_cases e0 : xs (i + 1) = 0
        · obtain ⟨r, σ', τ', h1, h2, h3⟩ := O.2.2.1 σ τ hR
          exact rb_l_widen (lc_fault0 hC1 hi e0 h1 (by rw [e0]; exact h2) (next σ' τ' o h3))
        by_cases e1 : xs (i + 1) = 1
        · obtain ⟨r, σ', τ', h1, h2, h3⟩ := O.2.2.2.1 σ τ hR
          exact rb_l_widen (lc_fault1 hC1 hi e1 h1 (by rw [e1]; exact h2) (next σ' τ' o h3))
        by_cases e2 : xs (i + 1) = 2
        · obtain ⟨r, σ', τ', h1, h2, h3⟩ := O.2.2.2.2.1 σ τ hR
          exact rb_l_widen (lc_fault2 hC1 hi e2 h1 (by rw [e2]; exact h2) (next σ' τ' o h3))
        obtain ⟨r, σ', τ', h1, h2, h3⟩ := O.2.2.2.2.2.1 σ τ hR (xs (i + 1)) e0 e1 e2
        exact rb_l_widen (lc_fault_o hC1 hi e0 e1 e2 h1 h2 (next σ' τ' o h3))
      · refine rb_l_tableIn hC0 343 dL_law_40 (by decide +kernel) (by decide +kernel) (off := 303) (by decide +kernel) (by decide) ?_
        by_cases e0 : xs (i + 1) = 0
        · obtain ⟨r, σ', τ', h1, h2, h3⟩ := O.2.2.2.2.2.2.1 σ τ hR
          exact rb_l_widen (lc_text0 hC1 hi e0 h1 (by rw [e0]; exact h2) (next σ' τ' o h3))
        by_cases e1 : xs (i + 1) = 1
        · obtain ⟨r, σ', τ', h1, h2, h3⟩ := O.2.2.2.2.2.2.2.1 σ τ hR
          exact rb_l_widen (lc_text1 hC1 hi e1 h1 (by rw [e1]; exact h2) (next σ' τ' o h3))
        by_cases e2 : xs (i + 1) = 2
        · obtain ⟨r, σ', τ', h1, h2, h3⟩ := O.2.2.2.2.2.2.2.2.1 σ τ hR
          exact rb_l_widen (lc_text2 hC1 hi e2 h1 (by rw [e2]; exact h2) (next σ' τ' o h3))
        obtain ⟨r, σ', τ', h1, h2, h3⟩ := O.2.2.2.2.2.2.2.2.2.1 σ τ hR (xs (i + 1)) e0 e1 e2
        exact rb_l_widen (lc_text_o hC1 hi e0 e1 e2 h1 h2 (next σ' τ' o h3))
      · refine rb_l_tableIn hC0 368 dL_law_40 (by decide +kernel) (by decide +kernel) (off := 328) (by decide +kernel) (by decide) ?_
        obtain ⟨r, h1, h2, h3⟩ := O.2.2.2.2.2.2.2.2.2.2.1 σ τ hR (xs (i + 1))
        exact rb_l_widen (lc_rule hC1 hi h1 h2 (next σ τ o h3))
      · refine rb_l_tableIn hC0 393 dL_law_40 (by decide +kernel) (by decide +kernel) (off := 353) (by decide +kernel) (by decide) ?_
        exact lc_dancer hC0 hC1 hTX hl0 hi OD hR next
      · refine rb_l_tableIn hC0 461 dL_law_40 (by decide +kernel) (by decide +kernel) (off := 421) (by decide +kernel) (by decide) ?_
        obtain ⟨r, h1, h2, h3⟩ := O.2.2.2.2.2.2.2.2.2.2.2.1 σ τ hR (xs (i + 1))
        exact rb_l_widen (lc_stands hC1 hi h1 h2 (next σ τ o h3))
      · refine rb_l_tableIn hC0 486 dL_law_40 (by decide +kernel) (by decide +kernel) (off := 446) (by decide +kernel) (by decide) ?_
        obtain ⟨r, σ', τ', h1, h2, h3⟩ := O.2.2.2.2.2.2.2.2.2.2.2.2.1 σ τ hR (xs (i + 1))
        exact rb_l_widen (lc_law hC1 hi h1 h2 (next σ' τ' o h3))
      · refine rb_l_tableIn hC0 511 dL_law_40 (by decide +kernel) (by decide +kernel) (off := 471) (by decide +kernel) (by decide) ?_
        obtain ⟨r, h1, h2, h3⟩ := O.2.2.2.2.2.2.2.2.2.2.2.2.2.1 σ τ hR (xs (i + 1)) (xs (i + 2))
        exact rb_l_widen (lc_step hC1 hi h1 h2 (next σ τ o h3))
      · refine rb_l_tableIn hC0 548 dL_law_40 (by decide +kernel) (by decide +kernel) (off := 508) (by decide +kernel) (by decide) ?_
        obtain ⟨r, σ', τ', h1, h2, h3⟩ := O.2.2.2.2.2.2.2.2.2.2.2.2.2.2.1 σ τ hR (xs (i + 1)) (xs (i + 2))
        exact rb_l_widen (lc_plait hC1 hi h1 h2 (next σ' τ' o h3))
      · refine rb_l_tableIn hC0 585 dL_law_40 (by decide +kernel) (by decide +kernel) (off := 545) (by decide +kernel) (by decide) ?_
        obtain ⟨r, σ', τ', h1, h2, h3⟩ := O.2.2.2.2.2.2.2.2.2.2.2.2.2.2.2.1 σ τ hR (xs (i + 1)) (rb_zb (xs (i + 2))) (rb_zb_01 _)
        exact rb_l_widen (lc_cross hC1 hi h1 h2 (next σ' τ' o h3))
      · refine rb_l_tableIn hC0 638 dL_law_40 (by decide +kernel) (by decide +kernel) (off := 598) (by decide +kernel) (by decide) ?_
        obtain ⟨r, σ', τ', h1, h2, h3⟩ := O.2.2.2.2.2.2.2.2.2.2.2.2.2.2.2.2.1 σ τ hR 
        exact rb_l_widen (lc_beat hC1 hi h1 h2 (next σ' τ' o h3))
      · refine rb_l_tableIn hC0 651 dL_law_40 (by decide +kernel) (by decide +kernel) (off := 611) (by decide +kernel) (by decide) ?_
        obtain ⟨r, σ', τ', h1, h2, h3⟩ := O.2.2.2.2.2.2.2.2.2.2.2.2.2.2.2.2.2.1 σ τ hR (xs (i + 1))
        exact rb_l_widen (lc_dance hC1 hi h1 h2 (next σ' τ' o h3))
      · refine rb_l_tableIn hC0 676 dL_law_40 (by decide +kernel) (by decide +kernel) (off := 636) (by decide +kernel) (by decide) ?_
        obtain ⟨r, σ', τ', h1, h2, h3⟩ := O.2.2.2.2.2.2.2.2.2.2.2.2.2.2.2.2.2.2.1 σ τ hR (xs (i + 1))
        exact rb_l_widen (lc_down hC1 hi h1 h2 (next σ' τ' o h3))
      · refine rb_l_tableIn hC0 701 dL_law_40 (by decide +kernel) (by decide +kernel) (off := 661) (by decide +kernel) (by decide) ?_
        obtain ⟨r, σ', τ', h1, h2, h3⟩ := O.2.2.2.2.2.2.2.2.2.2.2.2.2.2.2.2.2.2.2.1 σ τ hR (xs (i + 1)) (xs (i + 2))
        exact rb_l_widen (lc_longer hC1 hi h1 h2 (next σ' τ' o h3))
      · refine rb_l_tableIn hC0 738 dL_law_40 (by decide +kernel) (by decide +kernel) (off := 698) (by decide +kernel) (by decide) ?_
        obtain ⟨r, σ', τ', h1, h2, h3⟩ := O.2.2.2.2.2.2.2.2.2.2.2.2.2.2.2.2.2.2.2.2.1 σ τ hR (xs (i + 1))
        exact rb_l_widen (lc_give hC1 hi h1 h2 (next σ' τ' o h3))
      · refine rb_l_tableIn hC0 763 dL_law_40 (by decide +kernel) (by decide +kernel) (off := 723) (by decide +kernel) (by decide) ?_
        obtain ⟨r, σ', τ', h1, h2, h3⟩ := O.2.2.2.2.2.2.2.2.2.2.2.2.2.2.2.2.2.2.2.2.2.1 σ τ hR (xs (i + 1)) (((xs (i + 2)).toInt64 <<< ((32 : Int32).toInt64 &&& 63)) ||| ((xs (i + 3)).toInt64 &&& 4294967295))
        exact rb_l_widen (lc_years hC1 hi h1 h2 (next σ' τ' o h3))
      · refine rb_l_tableIn hC0 832 dL_law_40 (by decide +kernel) (by decide +kernel) (off := 792) (by decide +kernel) (by decide) ?_
        obtain ⟨r, h1, h2, h3⟩ := O.2.2.2.2.2.2.2.2.2.2.2.2.2.2.2.2.2.2.2.2.2.2.1 σ τ hR (xs (i + 1))
        exact rb_l_widen (lc_status hC1 hi h1 h2 (next σ τ o h3))
      · refine rb_l_tableIn hC0 857 dL_law_40 (by decide +kernel) (by decide +kernel) (off := 817) (by decide +kernel) (by decide) ?_
        obtain ⟨r, σ', τ', h1, h2, h3⟩ := O.2.2.2.2.2.2.2.2.2.2.2.2.2.2.2.2.2.2.2.2.2.2.2.1 σ τ hR 
        exact rb_l_widen (lc_undo hC1 hi h1 h2 (next σ' τ' o h3))
      · refine rb_l_tableIn hC0 870 dL_law_40 (by decide +kernel) (by decide +kernel) (off := 830) (by decide +kernel) (by decide) ?_
        obtain ⟨r, h1, h2, h3⟩ := O.2.2.2.2.2.2.2.2.2.2.2.2.2.2.2.2.2.2.2.2.2.2.2.2.1 σ τ hR (xs (i + 1)) (xs (i + 2))
        exact rb_l_widen (lc_log hC1 hi h1 h2 (next σ τ o h3))
      · refine rb_l_tableIn hC0 907 dL_law_40 (by decide +kernel) (by decide +kernel) (off := 867) (by decide +kernel) (by decide) ?_
        obtain ⟨r, σ', τ', h1, h2, h3⟩ := O.2.2.2.2.2.2.2.2.2.2.2.2.2.2.2.2.2.2.2.2.2.2.2.2.2.1 σ τ hR (xs (i + 1)) (rb_zb (xs (i + 2))) (rb_zb_01 _)
        exact rb_l_widen (lc_takes hC1 hi h1 h2 (next σ' τ' o h3))
      · refine rb_l_tableIn hC0 960 dL_law_40 (by decide +kernel) (by decide +kernel) (off := 920) (by decide +kernel) (by decide) ?_
        obtain ⟨r, h1, h2, h3⟩ := O.2.2.2.2.2.2.2.2.2.2.2.2.2.2.2.2.2.2.2.2.2.2.2.2.2.2.1 σ τ hR (xs (i + 1)) (xs (i + 2))
        exact rb_l_widen (lc_bound hC1 hi h1 h2 (next σ τ o h3))
      · refine rb_l_tableIn hC0 997 dL_law_40 (by decide +kernel) (by decide +kernel) (off := 957) (by decide +kernel) (by decide) ?_
        obtain ⟨r, τ', h1, h2, h3⟩ := O.2.2.2.2.2.2.2.2.2.2.2.2.2.2.2.2.2.2.2.2.2.2.2.2.2.2.2.1 σ τ hR (xs (i + 1))
        exact rb_l_widen (lc_letOut hC1 hi h1 h2 (next σ τ' o h3))
      · refine rb_l_tableIn hC0 1022 dL_law_40 (by decide +kernel) (by decide +kernel) (off := 982) (by decide +kernel) (by decide) ?_
        obtain ⟨r, τ', h1, h2, h3⟩ := O.2.2.2.2.2.2.2.2.2.2.2.2.2.2.2.2.2.2.2.2.2.2.2.2.2.2.2.2.1 σ τ hR (xs (i + 1)) (xs (i + 2)) (xs (i + 3))
        exact rb_l_widen (lc_behind hC1 hi h1 h2 (next σ τ' o h3))
      · refine rb_l_tableIn hC0 1071 dL_law_40 (by decide +kernel) (by decide +kernel) (off := 1031) (by decide +kernel) (by decide) ?_
        obtain ⟨r, τ', h1, h2, h3⟩ := O.2.2.2.2.2.2.2.2.2.2.2.2.2.2.2.2.2.2.2.2.2.2.2.2.2.2.2.2.2.1 σ τ hR (xs (i + 1))
        exact rb_l_widen (lc_rounds hC1 hi h1 h2 (next σ τ' o h3))
      · refine rb_l_tableIn hC0 1096 dL_law_40 (by decide +kernel) (by decide +kernel) (off := 1056) (by decide +kernel) (by decide) ?_
        obtain ⟨r, σ', τ', h1, h2, h3⟩ := O.2.2.2.2.2.2.2.2.2.2.2.2.2.2.2.2.2.2.2.2.2.2.2.2.2.2.2.2.2.2.1 σ τ hR (xs (i + 1))
        exact rb_l_widen (lc_knot hC1 hi h1 h2 (next σ' τ' o h3))
      · refine rb_l_tableIn hC0 1121 dL_law_40 (by decide +kernel) (by decide +kernel) (off := 1081) (by decide +kernel) (by decide) ?_
        obtain ⟨r, σ', τ', h1, h2, h3⟩ := O.2.2.2.2.2.2.2.2.2.2.2.2.2.2.2.2.2.2.2.2.2.2.2.2.2.2.2.2.2.2.2.1 σ τ hR (xs (i + 1)) (xs (i + 2))
        exact rb_l_widen (lc_same hC1 hi h1 h2 (next σ' τ' o h3))
      · refine rb_l_tableIn hC0 1158 dL_law_40 (by decide +kernel) (by decide +kernel) (off := 1118) (by decide +kernel) (by decide) ?_
        obtain ⟨r, σ', τ', h1, h2, h3⟩ := O.2.2.2.2.2.2.2.2.2.2.2.2.2.2.2.2.2.2.2.2.2.2.2.2.2.2.2.2.2.2.2.2.1 σ τ hR (xs (i + 1)) (xs (i + 2))
        exact rb_l_widen (lc_nearest hC1 hi h1 h2 (next σ' τ' o h3))
      · refine rb_l_tableIn hC0 1195 dL_law_40 (by decide +kernel) (by decide +kernel) (off := 1155) (by decide +kernel) (by decide) ?_
        obtain ⟨r, σ', τ', h1, h2, h3⟩ := O.2.2.2.2.2.2.2.2.2.2.2.2.2.2.2.2.2.2.2.2.2.2.2.2.2.2.2.2.2.2.2.2.2.1 σ τ hR (xs (i + 1))
        exact rb_l_widen (lc_times hC1 hi h1 h2 (next σ' τ' o h3))
      · refine rb_l_tableIn hC0 1220 dL_law_40 (by decide +kernel) (by decide +kernel) (off := 1180) (by decide +kernel) (by decide) ?_
        obtain ⟨r, σ', τ', h1, h2, h3⟩ := O.2.2.2.2.2.2.2.2.2.2.2.2.2.2.2.2.2.2.2.2.2.2.2.2.2.2.2.2.2.2.2.2.2.2.1 σ τ hR (xs (i + 1)) (xs (i + 2)) (xs (i + 3)) (rb_zb (xs (i + 4))) (rb_zb_01 _)
        exact rb_l_widen (lc_seen hC1 hi h1 h2 (next σ' τ' o h3))
      · refine rb_l_tableIn hC0 1297 dL_law_40 (by decide +kernel) (by decide +kernel) (off := 1257) (by decide +kernel) (by decide) ?_
        obtain ⟨r, τ', h1, h2, h3⟩ := O.2.2.2.2.2.2.2.2.2.2.2.2.2.2.2.2.2.2.2.2.2.2.2.2.2.2.2.2.2.2.2.2.2.2.2.1 σ τ hR 
        exact rb_l_widen (lc_fits hC1 hi h1 h2 (next σ τ' o h3))
      · refine rb_l_tableIn hC0 1310 dL_law_40 (by decide +kernel) (by decide +kernel) (off := 1270) (by decide +kernel) (by decide) ?_
        obtain ⟨r, τ', h1, h2, h3⟩ := O.2.2.2.2.2.2.2.2.2.2.2.2.2.2.2.2.2.2.2.2.2.2.2.2.2.2.2.2.2.2.2.2.2.2.2.2.1 σ τ hR (xs (i + 1))
        exact rb_l_widen (lc_ask hC1 hi h1 h2 (next σ τ' o h3))
      · refine rb_l_tableIn hC0 1335 dL_law_40 (by decide +kernel) (by decide +kernel) (off := 1295) (by decide +kernel) (by decide) ?_
        obtain ⟨r, σ', τ', h1, h2, h3⟩ := O.2.2.2.2.2.2.2.2.2.2.2.2.2.2.2.2.2.2.2.2.2.2.2.2.2.2.2.2.2.2.2.2.2.2.2.2.2.1 σ τ hR (xs (i + 1))
        exact rb_l_widen (lc_stripe hC1 hi h1 h2 (next σ' τ' o h3))
      · refine rb_l_tableIn hC0 1360 dL_law_40 (by decide +kernel) (by decide +kernel) (off := 1320) (by decide +kernel) (by decide) ?_
        obtain ⟨r, σ', τ', h1, h2, h3⟩ := O.2.2.2.2.2.2.2.2.2.2.2.2.2.2.2.2.2.2.2.2.2.2.2.2.2.2.2.2.2.2.2.2.2.2.2.2.2.2.1 σ τ hR (xs (i + 1)) (xs (i + 2)) (xs (i + 3)) (xs (i + 4))
        exact rb_l_widen (lc_game hC1 hi h1 h2 (next σ' τ' o h3))
      · refine rb_l_tableIn hC0 1421 dL_law_40 (by decide +kernel) (by decide +kernel) (off := 1381) (by decide +kernel) (by decide) ?_
        obtain ⟨r, σ', τ', h1, h2, h3⟩ := O.2.2.2.2.2.2.2.2.2.2.2.2.2.2.2.2.2.2.2.2.2.2.2.2.2.2.2.2.2.2.2.2.2.2.2.2.2.2.2.1 σ τ hR (xs (i + 1)) (xs (i + 2))
        exact rb_l_widen (lc_rests hC1 hi h1 h2 (next σ' τ' o h3))
      · refine rb_l_tableIn hC0 1458 dL_law_40 (by decide +kernel) (by decide +kernel) (off := 1418) (by decide +kernel) (by decide) ?_
        obtain ⟨r, σ', τ', h1, h2, h3⟩ := O.2.2.2.2.2.2.2.2.2.2.2.2.2.2.2.2.2.2.2.2.2.2.2.2.2.2.2.2.2.2.2.2.2.2.2.2.2.2.2.2.1 σ τ hR (xs (i + 1)) (xs (i + 2)) (xs (i + 3))
        exact rb_l_widen (lc_odds hC1 hi h1 h2 (next σ' τ' o h3))
      · refine rb_l_tableIn hC0 1507 dL_law_40 (by decide +kernel) (by decide +kernel) (off := 1467) (by decide +kernel) (by decide) ?_
        obtain ⟨r, h1, h2, h3⟩ := O.2.2.2.2.2.2.2.2.2.2.2.2.2.2.2.2.2.2.2.2.2.2.2.2.2.2.2.2.2.2.2.2.2.2.2.2.2.2.2.2.2.1 σ τ hR (xs (i + 1)) (xs (i + 2))
        exact rb_l_widen (lc_shares hC1 hi h1 h2 (next σ τ o h3))
      · refine rb_l_tableIn hC0 1544 dL_law_40 (by decide +kernel) (by decide +kernel) (off := 1504) (by decide +kernel) (by decide) ?_
        obtain ⟨r, σ', τ', h1, h2, h3⟩ := O.2.2.2.2.2.2.2.2.2.2.2.2.2.2.2.2.2.2.2.2.2.2.2.2.2.2.2.2.2.2.2.2.2.2.2.2.2.2.2.2.2.2.1 σ τ hR (xs (i + 1))
        exact rb_l_widen (lc_most hC1 hi h1 h2 (next σ' τ' o h3))
      · refine rb_l_tableIn hC0 1569 dL_law_40 (by decide +kernel) (by decide +kernel) (off := 1529) (by decide +kernel) (by decide) ?_
        obtain ⟨r, σ', τ', h1, h2, h3⟩ := O.2.2.2.2.2.2.2.2.2.2.2.2.2.2.2.2.2.2.2.2.2.2.2.2.2.2.2.2.2.2.2.2.2.2.2.2.2.2.2.2.2.2.2.1 σ τ hR 
        exact rb_l_widen (lc_image hC1 hi h1 h2 (next σ' τ' o h3))
      · refine rb_l_tableIn hC0 1582 dL_law_40 (by decide +kernel) (by decide +kernel) (off := 1542) (by decide +kernel) (by decide) ?_
        obtain ⟨r, σ', τ', h1, h2, h3⟩ := O.2.2.2.2.2.2.2.2.2.2.2.2.2.2.2.2.2.2.2.2.2.2.2.2.2.2.2.2.2.2.2.2.2.2.2.2.2.2.2.2.2.2.2.2.1 σ τ hR 
        exact rb_l_widen (lc_back hC1 hi h1 h2 (next σ' τ' o h3))
      · refine rb_l_tableIn hC0 1595 dL_law_40 (by decide +kernel) (by decide +kernel) (off := 1555) (by decide +kernel) (by decide) ?_
        obtain ⟨r, h1, h2, h3⟩ := O.2.2.2.2.2.2.2.2.2.2.2.2.2.2.2.2.2.2.2.2.2.2.2.2.2.2.2.2.2.2.2.2.2.2.2.2.2.2.2.2.2.2.2.2.2 σ τ hR (xs (i + 1))
        exact rb_l_widen (lc_count hC1 hi h1 h2 (next σ τ o h3))
    · refine rb_l_tableOut hC0 1620 dL_law_40 (Or.inr (by rw [nI_toInt (by omega)]; omega)) (by decide) ?_
      exact rb_l_widen (next σ τ o hR)
