/-! A CROSSING TAKEN OUT (the reference) -/
section RBQ
variable {n m : Nat} {cr : Nat → Nat → Nat} {wh ln : Nat → Nat} {σ : rb_St}
theorem rb_5i (a : Nat) : (15 : Int32) + 5 * nI a = nI (15 + 5 * a) := by
  rw [show (15 : Int32) + 5 * nI a = nI 15 + nI 5 * nI a from rfl, ← nI_add]
  congr 1
  exact (Int32.ofNat_mul 5 a).symm
theorem sm_outl (W : rb_wfc n m cr) (hc : rm_cr m cr (σ.1 17)) {i : Nat} (hi : i < m) (x y : Int32) : xl_M_crossNow_108 x y rb_FU (nI (15 + 5 * i)) σ = some (rb_sf 17 5 (15 + 5 * i) σ (5 * (m - 1 - i))) := by
  have h40 := hc.1
  have hz : ∀ t, (rb_sf 17 5 (15 + 5 * i) σ t).1 17 14 = nI m := fun t => by rw [rb_sf_at, if_neg (by omega)]; exact hc.2.1
  have hq : (15 : Int32) + 5 * (nI m - 1) = nI (15 + 5 * (m - 1)) := by rw [rb_pr (by omega)]; exact rb_5i (m - 1)
  refine rb_ups (fun f s x3 => xl_M_crossNow_108 x y f x3 s) (fun q => rb_sf 17 5 (15 + 5 * i) σ (q - (15 + 5 * i))) (15 + 5 * i) (15 + 5 * (m - 1)) (some (rb_sf 17 5 (15 + 5 * i) σ (5 * (m - 1 - i)))) (fun f q hq1 hq2 => ?_) (fun f => ?_) rb_FU (15 + 5 * i) (Nat.le_refl _) (by omega) (by unfold rb_FU; omega) |> fun e => by rw [Nat.sub_self] at e; exact e
  · show (if 15 + 5 * ((rb_sf 17 5 (15 + 5 * i) σ (q - (15 + 5 * i))).1 17 14 - 1) ≤ nI q then _ else if rb_ib (nI q + 5) 398 then if rb_ib (nI q) 398 then rb_lt (rb_sI (rb_sf 17 5 (15 + 5 * i) σ (q - (15 + 5 * i))) 17 (nI q).toNatClampNeg ((rb_sf 17 5 (15 + 5 * i) σ (q - (15 + 5 * i))).1 17 (nI q + 5).toNatClampNeg)) (fun s7 => xl_M_crossNow_108 x y f (nI q + 1) s7) else none else none) = xl_M_crossNow_108 x y f (nI (q + 1)) (rb_sf 17 5 (15 + 5 * i) σ (q + 1 - (15 + 5 * i)))
    rw [hz, hq, if_neg (nI_ge hq2 (by omega)), show nI q + (5 : Int32) = nI (q + 5) from nI_add q 5, rb_ib_nI (by omega) (by decide), rb_ib_nI (by omega) (by decide), if_pos rfl, if_pos rfl, nI_clamp (by omega), nI_clamp (by omega), rb_lt_eq, nI_1, show q + 1 - (15 + 5 * i) = (q - (15 + 5 * i)) + 1 by omega]
    show _ = xl_M_crossNow_108 x y f (nI (q + 1)) (rb_sI (rb_sf 17 5 (15 + 5 * i) σ (q - (15 + 5 * i))) 17 (15 + 5 * i + (q - (15 + 5 * i))) ((rb_sf 17 5 (15 + 5 * i) σ (q - (15 + 5 * i))).1 17 (15 + 5 * i + (q - (15 + 5 * i)) + 5)))
    rw [show 15 + 5 * i + (q - (15 + 5 * i)) = q by omega]
  · show (if 15 + 5 * ((rb_sf 17 5 (15 + 5 * i) σ (15 + 5 * (m - 1) - (15 + 5 * i))).1 17 14 - 1) ≤ nI (15 + 5 * (m - 1)) then _ else _) = _
    rw [hz, hq, if_pos (nI_le (Nat.le_refl _) (by omega)), show 15 + 5 * (m - 1) - (15 + 5 * i) = 5 * (m - 1 - i) by omega]
theorem sm_out (V : rb_wfw n wh ln) (W : rb_wfc n m cr) (h : rm_wh n wh ln σ) (hc : rm_cr m cr (σ.1 17)) {i : Nat} (hi : i < m) {p : Nat} (hp : p < n) : ∃ σ', xf_M_swapAt (nI p) (rb_sI (rb_sf 17 5 (15 + 5 * i) σ (5 * (m - 1 - i))) 17 14 (nI (m - 1))) = some σ' ∧ rm_wh n (sp_sw n wh p) ln σ' ∧ rm_cr (m - 1) (sp_rm cr i) (σ'.1 17) ∧ (∀ j, 215 ≤ j → σ'.1 17 j = σ.1 17 j) ∧ (∀ c, c ≠ 17 → σ'.1 c = σ.1 c) ∧ σ'.2 = σ.2 := by
  have h40 := hc.1
  have hn := V.1
  have hr : ∀ q, q ≠ 14 → (rb_sI (rb_sf 17 5 (15 + 5 * i) σ (5 * (m - 1 - i))) 17 14 (nI (m - 1))).1 17 q = if 15 + 5 * i ≤ q ∧ q < 15 + 5 * i + 5 * (m - 1 - i) then σ.1 17 (q + 5) else σ.1 17 q := by
    intro q hq
    rw [rb_sI_ne _ _ _ _ _ _ (Or.inr hq), rb_sf_at]
  have hw : rm_wh n wh ln (rb_sI (rb_sf 17 5 (15 + 5 * i) σ (5 * (m - 1 - i))) 17 14 (nI (m - 1))) := by
    refine ⟨?_, fun p hp => ?_, fun d hd => ?_⟩
    · rw [rb_sI_row _ _ _ _ _ (by decide), rb_sf_row (by decide)]; exact h.1
    · rw [hr p (by omega), if_neg (by omega)]; exact h.2.1 p hp
    · rw [hr (7 + d) (by omega), if_neg (by omega)]; exact h.2.2 d hd
  obtain ⟨σ', g1, g2, g3, g4, g5⟩ := sm_swapAt V hw hp
  refine ⟨σ', g1, g2, ⟨by omega, ?_, fun j hj f hf => ?_⟩, fun j hj => ?_, fun c h1 => ?_, ?_⟩
  · rw [g3 14 (by decide), rb_sI_eq]
  · rw [g3 _ (by omega), hr _ (by omega)]
    unfold sp_rm
    by_cases e : j < i
    · rw [if_neg (by omega), if_pos e]; exact hc.2.2 j (by omega) f hf
    · rw [if_pos (by omega), if_neg e, show 15 + 5 * j + f + 5 = 15 + 5 * (j + 1) + f by omega]; exact hc.2.2 (j + 1) (by omega) f hf
  · rw [g3 j (by omega), hr j (by omega), if_neg (by omega)]
  · rw [g4 c h1, rb_sI_row _ _ _ _ _ h1, rb_sf_row h1]
  · rw [g5]; exact rb_sf_2 _
end RBQ
