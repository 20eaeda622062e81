/-! A CROSSING PUT IN -/
theorem rb_pack {a b c d e : Nat} (ha : a < 16) (hb : b < 8) (hc : c < 8) (hd : d < 16) : ((a ||| (b * 2 ^ 4 ||| c * 2 ^ 7)) ||| d * 2 ^ 10) ||| e * 2 ^ 14 = rb_pk a b c d e := by
  have e1 : b * 2 ^ 4 ||| c * 2 ^ 7 = 2 ^ 7 * c + b * 2 ^ 4 := by rw [Nat.or_comm, Nat.mul_comm c, ← Nat.two_pow_add_eq_or_of_lt (by omega)]
  have e2 : a ||| (b * 2 ^ 4 ||| c * 2 ^ 7) = 2 ^ 4 * (8 * c + b) + a := by
    rw [e1, Nat.or_comm, show 2 ^ 7 * c + b * 2 ^ 4 = 2 ^ 4 * (8 * c + b) by omega, ← Nat.two_pow_add_eq_or_of_lt (by omega)]
  have e3 : (a ||| (b * 2 ^ 4 ||| c * 2 ^ 7)) ||| d * 2 ^ 10 = 2 ^ 10 * d + (2 ^ 4 * (8 * c + b) + a) := by
    rw [e2, Nat.or_comm, Nat.mul_comm d, ← Nat.two_pow_add_eq_or_of_lt (by omega)]
  rw [e3, Nat.or_comm, Nat.mul_comm e, ← Nat.two_pow_add_eq_or_of_lt (by omega)]
  unfold rb_pk
  omega
def sp_ad (cr : Nat → Nat → Nat) (m l b c d e : Nat) : Nat → Nat → Nat := fun j f => if j = m then (if f = 0 then l else if f = 1 then b else if f = 2 then c else if f = 3 then d else e) else cr j f
section RBQ
variable {n m k : Nat} {cr : Nat → Nat → Nat} {wh ln : Nat → Nat} {σ : rb_St}
theorem sx_putIn (V : rb_wfw n wh ln) (W : rb_wfc n m cr) (h : rx_wh k n wh ln σ) (hc : rx_cr k m cr σ) {l t : Nat} (hl : l < 2 * n) (ht : t < 16) (hm : m < 48) (hy : sp_ly n cr (l / 2) m + 1 < 64) : ∃ σ', xf_Pole_putIn k (nI l) (nI t) σ = some σ' ∧ rx_wh k n (sp_sw n wh (l / 2)) ln σ' ∧ rx_cr k (m + 1) (sp_ad cr m l (sp_ov n wh l) (sp_ov n wh (l ^^^ 1)) t (sp_ly n cr (l / 2) m + 1)) σ' ∧ (∀ j, j ≠ 1 → σ'.1 k j = σ.1 k j) ∧ (∀ c, c ≠ k → c ≠ k + 1 → c ≠ k + 3 → σ'.1 c = σ.1 c) ∧ σ'.2 = σ.2 := by
  have hn := V.1
  have w1 := W.1
  have ol : ∀ l, l < 2 * n → sp_ov n wh l < n := by
    intro l hl
    unfold sp_ov
    split
    · exact V.2.1 _ (by omega)
    · exact V.2.1 _ (sp_nx_lt n hn _ (by omega))
  have o1 := ol l hl
  have o2 := ol (l ^^^ 1) (sp_x1 n hn l hl)
  have e1 : nI l >>> ((1 : Int32) &&& 31) = nI (l / 2) := rb_shr (s := 1) (by omega) (by decide)
  have e4 : nI (sp_ov n wh l) <<< ((4 : Int32) &&& 31) = nI (sp_ov n wh l * 2 ^ 4) := rb_shl (s := 4) (by decide)
  have e7 : nI (sp_ov n wh (l ^^^ 1)) <<< ((7 : Int32) &&& 31) = nI (sp_ov n wh (l ^^^ 1) * 2 ^ 7) := rb_shl (s := 7) (by decide)
  have e10 : nI t <<< ((10 : Int32) &&& 31) = nI (t * 2 ^ 10) := rb_shl (s := 10) (by decide)
  have e14 : nI (sp_ly n cr (l / 2) m + 1) <<< ((14 : Int32) &&& 31) = nI ((sp_ly n cr (l / 2) m + 1) * 2 ^ 14) := rb_shl (s := 14) (by decide)
  obtain ⟨v, hv⟩ : ∃ v, v = rb_pk l (sp_ov n wh l) (sp_ov n wh (l ^^^ 1)) t (sp_ly n cr (l / 2) m + 1) := ⟨_, rfl⟩
  have hw : rx_wh k n wh ln (rb_sI (rb_sI σ (k + 3) m (nI v)) k 1 (nI (m + 1))) := by
    refine ⟨?_, fun p hp => ?_, fun d hd => ?_⟩
    · rw [rb_sI_ne _ _ _ _ _ _ (Or.inr (by decide)), rb_sI_row _ _ _ _ _ (by omega)]; exact h.1
    · rw [rb_sI_row _ _ _ _ _ (by omega), rb_sI_row _ _ _ _ _ (by omega)]; exact h.2.1 p hp
    · rw [rb_sI_row _ _ _ _ _ (by omega), rb_sI_row _ _ _ _ _ (by omega)]; exact h.2.2 d hd
  obtain ⟨σ', g1, g2, g3, g4⟩ := sx_change V hw (show l / 2 < n by omega)
  refine ⟨σ', ?_, g2, ⟨?_, fun j hj => ?_⟩, fun j hj => ?_, fun c c1 c2 c3 => ?_, ?_⟩
  · unfold xf_Pole_putIn
    rw [hc.1, if_pos (show nI m < (48 : Int32) from nI_lt (b := 48) hm (by decide)), sx_overBy V h hl, rb_b1_some, sx_underBy V h hl, rb_b1_some, e4, e7, rb_or, rb_lt_eq, e1, sx_layerAt W hc h.1 (by omega), rb_b1_some, rb_ib_nI hm (by decide), if_pos rfl, nI_clamp (by omega), e10, e14, rb_or, rb_or, rb_or, rb_pack (by omega) (by omega) (by omega) ht, ← hv, rb_lt_eq, rb_sI_row _ _ _ _ _ (by omega), hc.1, nI_1, rb_lt_eq, g1, rb_b1_some]
  · rw [g3 k (by omega), rb_sI_eq]
  · rw [g3 (k + 3) (by omega), rb_sI_row _ _ _ _ _ (by omega), rb_sI_at]
    unfold sp_ad
    by_cases hj2 : j = m
    · rw [if_pos ⟨rfl, hj2⟩]; simp only [if_pos hj2]; rw [hv]; rfl
    · rw [if_neg (fun w => hj2 w.2)]; simp only [if_neg hj2]; exact hc.2 j (by omega)
  · rw [g3 k (by omega), rb_sI_ne _ _ _ _ _ _ (Or.inr hj), rb_sI_row _ _ _ _ _ (by omega)]
  · rw [g3 c c2, rb_sI_row _ _ _ _ _ c1, rb_sI_row _ _ _ _ _ c3]
  · rw [g4]; rfl
end RBQ
