def op_feed (Rel : rb_St → rb_St → Prop) : Prop := ∀ σ τ : rb_St, Rel σ τ → ∀ (p0 : Int32) (p1 : Int32) (p2 : Int32) (p3 : Int32) (p4 : Int32), ∃ (r : Int32) (σ' : rb_St) (τ' : rb_St), xf_RP_feed p0 p1 p2 p3 p4 σ = some (r, σ') ∧ xf_M_feed p0 p1 p2 p3 p4 τ = some (r, τ') ∧ Rel σ' τ'
def op_end (Rel : rb_St → rb_St → Prop) : Prop := ∀ σ τ : rb_St, Rel σ τ → ∀ (p0 : Int32), ∃ (r : Int32) (σ' : rb_St) (τ' : rb_St), xf_RP_end p0 σ = some (r, σ') ∧ xf_M_end p0 τ = some (r, τ') ∧ Rel σ' τ'
def op_fault0 (Rel : rb_St → rb_St → Prop) : Prop := ∀ σ τ : rb_St, Rel σ τ → ∃ (r : Int32) (σ' τ' : rb_St), xf_RP_fault0 σ = some (r, σ') ∧ xf_M_fault 0 τ = some (r, τ') ∧ Rel σ' τ'
def op_fault1 (Rel : rb_St → rb_St → Prop) : Prop := ∀ σ τ : rb_St, Rel σ τ → ∃ (r : Int32) (σ' τ' : rb_St), xf_RP_fault1 σ = some (r, σ') ∧ xf_M_fault 1 τ = some (r, τ') ∧ Rel σ' τ'
def op_fault2 (Rel : rb_St → rb_St → Prop) : Prop := ∀ σ τ : rb_St, Rel σ τ → ∃ (r : Int32) (σ' τ' : rb_St), xf_RP_fault2 σ = some (r, σ') ∧ xf_M_fault 2 τ = some (r, τ') ∧ Rel σ' τ'
def op_fault_o (Rel : rb_St → rb_St → Prop) : Prop := ∀ σ τ : rb_St, Rel σ τ → ∀ p : Int32, ¬ p = 0 → ¬ p = 1 → ¬ p = 2 → ∃ (r : Int32) (σ' τ' : rb_St), xf_RP_fault_o p σ = some (r, σ') ∧ xf_M_fault p τ = some (r, τ') ∧ Rel σ' τ'
def op_text0 (Rel : rb_St → rb_St → Prop) : Prop := ∀ σ τ : rb_St, Rel σ τ → ∃ (r : Int32) (σ' τ' : rb_St), xf_RP_text0 σ = some (r, σ') ∧ xf_M_text 0 τ = some (r, τ') ∧ Rel σ' τ'
def op_text1 (Rel : rb_St → rb_St → Prop) : Prop := ∀ σ τ : rb_St, Rel σ τ → ∃ (r : Int32) (σ' τ' : rb_St), xf_RP_text1 σ = some (r, σ') ∧ xf_M_text 1 τ = some (r, τ') ∧ Rel σ' τ'
def op_text2 (Rel : rb_St → rb_St → Prop) : Prop := ∀ σ τ : rb_St, Rel σ τ → ∃ (r : Int32) (σ' τ' : rb_St), xf_RP_text2 σ = some (r, σ') ∧ xf_M_text 2 τ = some (r, τ') ∧ Rel σ' τ'
def op_text_o (Rel : rb_St → rb_St → Prop) : Prop := ∀ σ τ : rb_St, Rel σ τ → ∀ p : Int32, ¬ p = 0 → ¬ p = 1 → ¬ p = 2 → ∃ (r : Int32) (σ' τ' : rb_St), xf_RP_text_o p σ = some (r, σ') ∧ xf_M_text p τ = some (r, τ') ∧ Rel σ' τ'
def op_rule (Rel : rb_St → rb_St → Prop) : Prop := ∀ σ τ : rb_St, Rel σ τ → ∀ (p0 : Int32), ∃ (r : Int32), xf_RP_rule p0 σ = r ∧ xf_M_rule p0 τ = some r ∧ Rel σ τ
def op_stands (Rel : rb_St → rb_St → Prop) : Prop := ∀ σ τ : rb_St, Rel σ τ → ∀ (p0 : Int32), ∃ (r : Int32), xf_RP_stands p0 σ = some r ∧ xf_M_stands p0 τ = some r ∧ Rel σ τ
def op_law (Rel : rb_St → rb_St → Prop) : Prop := ∀ σ τ : rb_St, Rel σ τ → ∀ (p0 : Int32), ∃ (r : Int32) (σ' : rb_St) (τ' : rb_St), xf_RP_law p0 σ = some (r, σ') ∧ xf_M_law p0 τ = some (r, τ') ∧ Rel σ' τ'
def op_step (Rel : rb_St → rb_St → Prop) : Prop := ∀ σ τ : rb_St, Rel σ τ → ∀ (p0 : Int32) (p1 : Int32), ∃ (r : Int32), xf_RP_step p0 p1 σ = some r ∧ xf_M_step p0 p1 τ = some r ∧ Rel σ τ
def op_plait (Rel : rb_St → rb_St → Prop) : Prop := ∀ σ τ : rb_St, Rel σ τ → ∀ (p0 : Int32) (p1 : Int32), ∃ (r : Int32) (σ' : rb_St) (τ' : rb_St), xf_RP_plait p0 p1 σ = some (r, σ') ∧ xf_M_plait p0 p1 τ = some (r, τ') ∧ Rel σ' τ'
def op_cross (Rel : rb_St → rb_St → Prop) : Prop := ∀ σ τ : rb_St, Rel σ τ → ∀ (p0 : Int32) (p1 : Int32), (p1 = 0 ∨ p1 = 1) → ∃ (r : Int32) (σ' : rb_St) (τ' : rb_St), xf_RP_cross p0 p1 σ = some (r, σ') ∧ xf_M_cross p0 p1 τ = some (r, τ') ∧ Rel σ' τ'
def op_beat (Rel : rb_St → rb_St → Prop) : Prop := ∀ σ τ : rb_St, Rel σ τ → ∃ (r : Int32) (σ' : rb_St) (τ' : rb_St), xf_RP_beat  σ = some (r, σ') ∧ xf_M_beat  τ = some (r, τ') ∧ Rel σ' τ'
def op_dance (Rel : rb_St → rb_St → Prop) : Prop := ∀ σ τ : rb_St, Rel σ τ → ∀ (p0 : Int32), ∃ (r : Int32) (σ' : rb_St) (τ' : rb_St), xf_RP_dance p0 σ = some (r, σ') ∧ xf_M_dance p0 τ = some (r, τ') ∧ Rel σ' τ'
def op_down (Rel : rb_St → rb_St → Prop) : Prop := ∀ σ τ : rb_St, Rel σ τ → ∀ (p0 : Int32), ∃ (r : Int32) (σ' : rb_St) (τ' : rb_St), xf_RP_down p0 σ = some (r, σ') ∧ xf_M_down p0 τ = some (r, τ') ∧ Rel σ' τ'
def op_longer (Rel : rb_St → rb_St → Prop) : Prop := ∀ σ τ : rb_St, Rel σ τ → ∀ (p0 : Int32) (p1 : Int32), ∃ (r : Int32) (σ' : rb_St) (τ' : rb_St), xf_RP_longer p0 p1 σ = some (r, σ') ∧ xf_M_longer p0 p1 τ = some (r, τ') ∧ Rel σ' τ'
def op_give (Rel : rb_St → rb_St → Prop) : Prop := ∀ σ τ : rb_St, Rel σ τ → ∀ (p0 : Int32), ∃ (r : Int32) (σ' : rb_St) (τ' : rb_St), xf_RP_give p0 σ = some (r, σ') ∧ xf_M_give p0 τ = some (r, τ') ∧ Rel σ' τ'
def op_years (Rel : rb_St → rb_St → Prop) : Prop := ∀ σ τ : rb_St, Rel σ τ → ∀ (p0 : Int32) (p1 : Int64), ∃ (r : Int32) (σ' : rb_St) (τ' : rb_St), xf_RP_years p0 p1 σ = some (r, σ') ∧ xf_M_years p0 p1 τ = some (r, τ') ∧ Rel σ' τ'
def op_status (Rel : rb_St → rb_St → Prop) : Prop := ∀ σ τ : rb_St, Rel σ τ → ∀ (p0 : Int32), ∃ (r : Int32), xf_RP_status p0 σ = some r ∧ xf_M_status p0 τ = some r ∧ Rel σ τ
def op_undo (Rel : rb_St → rb_St → Prop) : Prop := ∀ σ τ : rb_St, Rel σ τ → ∃ (r : Int32) (σ' : rb_St) (τ' : rb_St), xf_RP_undo  σ = some (r, σ') ∧ xf_M_undo  τ = some (r, τ') ∧ Rel σ' τ'
def op_log (Rel : rb_St → rb_St → Prop) : Prop := ∀ σ τ : rb_St, Rel σ τ → ∀ (p0 : Int32) (p1 : Int32), ∃ (r : Int32), xf_RP_log p0 p1 σ = some r ∧ xf_M_log p0 p1 τ = some r ∧ Rel σ τ
def op_takes (Rel : rb_St → rb_St → Prop) : Prop := ∀ σ τ : rb_St, Rel σ τ → ∀ (p0 : Int32) (p1 : Int32), (p1 = 0 ∨ p1 = 1) → ∃ (r : Int32) (σ' : rb_St) (τ' : rb_St), xf_RP_takes p0 p1 σ = some (r, σ') ∧ xf_M_takes p0 p1 τ = some (r, τ') ∧ Rel σ' τ'
def op_bound (Rel : rb_St → rb_St → Prop) : Prop := ∀ σ τ : rb_St, Rel σ τ → ∀ (p0 : Int32) (p1 : Int32), ∃ (r : Int32), xf_RP_bound p0 p1 σ = some r ∧ xf_M_bound p0 p1 τ = some r ∧ Rel σ τ
def op_letOut (Rel : rb_St → rb_St → Prop) : Prop := ∀ σ τ : rb_St, Rel σ τ → ∀ (p0 : Int32), ∃ (r : Int32) (τ' : rb_St), xf_RP_letOut p0 σ = some r ∧ xf_M_letOut p0 τ = some (r, τ') ∧ Rel σ τ'
def op_behind (Rel : rb_St → rb_St → Prop) : Prop := ∀ σ τ : rb_St, Rel σ τ → ∀ (p0 : Int32) (p1 : Int32) (p2 : Int32), ∃ (r : Int32) (τ' : rb_St), xf_RP_behind p0 p1 p2 σ = some r ∧ xf_M_behind p0 p1 p2 τ = some (r, τ') ∧ Rel σ τ'
def op_rounds (Rel : rb_St → rb_St → Prop) : Prop := ∀ σ τ : rb_St, Rel σ τ → ∀ (p0 : Int32), ∃ (r : Int32) (τ' : rb_St), xf_RP_rounds p0 σ = some r ∧ xf_M_rounds p0 τ = some (r, τ') ∧ Rel σ τ'
def op_knot (Rel : rb_St → rb_St → Prop) : Prop := ∀ σ τ : rb_St, Rel σ τ → ∀ (p0 : Int32), ∃ (r : Int32) (σ' : rb_St) (τ' : rb_St), xf_RP_knot p0 σ = some (r, σ') ∧ xf_M_knot p0 τ = some (r, τ') ∧ Rel σ' τ'
def op_same (Rel : rb_St → rb_St → Prop) : Prop := ∀ σ τ : rb_St, Rel σ τ → ∀ (p0 : Int32) (p1 : Int32), ∃ (r : Int32) (σ' : rb_St) (τ' : rb_St), xf_RP_same p0 p1 σ = some (r, σ') ∧ xf_M_same p0 p1 τ = some (r, τ') ∧ Rel σ' τ'
def op_nearest (Rel : rb_St → rb_St → Prop) : Prop := ∀ σ τ : rb_St, Rel σ τ → ∀ (p0 : Int32) (p1 : Int32), ∃ (r : Int32) (σ' : rb_St) (τ' : rb_St), xf_RP_nearest p0 p1 σ = some (r, σ') ∧ xf_M_nearest p0 p1 τ = some (r, τ') ∧ Rel σ' τ'
def op_times (Rel : rb_St → rb_St → Prop) : Prop := ∀ σ τ : rb_St, Rel σ τ → ∀ (p0 : Int32), ∃ (r : Int32) (σ' : rb_St) (τ' : rb_St), xf_RP_times p0 σ = some (r, σ') ∧ xf_M_times p0 τ = some (r, τ') ∧ Rel σ' τ'
def op_seen (Rel : rb_St → rb_St → Prop) : Prop := ∀ σ τ : rb_St, Rel σ τ → ∀ (p0 : Int32) (p1 : Int32) (p2 : Int32) (p3 : Int32), (p3 = 0 ∨ p3 = 1) → ∃ (r : Int32) (σ' : rb_St) (τ' : rb_St), xf_RP_seen p0 p1 p2 p3 σ = some (r, σ') ∧ xf_M_seen p0 p1 p2 p3 τ = some (r, τ') ∧ Rel σ' τ'
def op_fits (Rel : rb_St → rb_St → Prop) : Prop := ∀ σ τ : rb_St, Rel σ τ → ∃ (r : Int32) (τ' : rb_St), xf_RP_fits  σ = some r ∧ xf_M_fits  τ = some (r, τ') ∧ Rel σ τ'
def op_ask (Rel : rb_St → rb_St → Prop) : Prop := ∀ σ τ : rb_St, Rel σ τ → ∀ (p0 : Int32), ∃ (r : Int32) (τ' : rb_St), xf_RP_ask p0 σ = some r ∧ xf_M_ask p0 τ = some (r, τ') ∧ Rel σ τ'
def op_stripe (Rel : rb_St → rb_St → Prop) : Prop := ∀ σ τ : rb_St, Rel σ τ → ∀ (p0 : Int32), ∃ (r : Int32) (σ' : rb_St) (τ' : rb_St), xf_RP_stripe p0 σ = some (r, σ') ∧ xf_M_stripe p0 τ = some (r, τ') ∧ Rel σ' τ'
def op_game (Rel : rb_St → rb_St → Prop) : Prop := ∀ σ τ : rb_St, Rel σ τ → ∀ (p0 : Int32) (p1 : Int32) (p2 : Int32) (p3 : Int32), ∃ (r : Int32) (σ' : rb_St) (τ' : rb_St), xf_RP_game p0 p1 p2 p3 σ = some (r, σ') ∧ xf_M_game p0 p1 p2 p3 τ = some (r, τ') ∧ Rel σ' τ'
def op_rests (Rel : rb_St → rb_St → Prop) : Prop := ∀ σ τ : rb_St, Rel σ τ → ∀ (p0 : Int32) (p1 : Int32), ∃ (r : Int32) (σ' : rb_St) (τ' : rb_St), xf_RP_rests p0 p1 σ = some (r, σ') ∧ xf_M_rests p0 p1 τ = some (r, τ') ∧ Rel σ' τ'
def op_odds (Rel : rb_St → rb_St → Prop) : Prop := ∀ σ τ : rb_St, Rel σ τ → ∀ (p0 : Int32) (p1 : Int32) (p2 : Int32), ∃ (r : Int32) (σ' : rb_St) (τ' : rb_St), xf_RP_odds p0 p1 p2 σ = some (r, σ') ∧ xf_M_odds p0 p1 p2 τ = some (r, τ') ∧ Rel σ' τ'
def op_shares (Rel : rb_St → rb_St → Prop) : Prop := ∀ σ τ : rb_St, Rel σ τ → ∀ (p0 : Int32) (p1 : Int32), ∃ (r : Int32), xf_RP_shares p0 p1 σ = some r ∧ xf_M_shares p0 p1 τ = some r ∧ Rel σ τ
def op_most (Rel : rb_St → rb_St → Prop) : Prop := ∀ σ τ : rb_St, Rel σ τ → ∀ (p0 : Int32), ∃ (r : Int32) (σ' : rb_St) (τ' : rb_St), xf_RP_most p0 σ = some (r, σ') ∧ xf_M_most p0 τ = some (r, τ') ∧ Rel σ' τ'
def op_image (Rel : rb_St → rb_St → Prop) : Prop := ∀ σ τ : rb_St, Rel σ τ → ∃ (r : Int32) (σ' : rb_St) (τ' : rb_St), xf_RP_image  σ = some (r, σ') ∧ xf_M_image  τ = some (r, τ') ∧ Rel σ' τ'
def op_back (Rel : rb_St → rb_St → Prop) : Prop := ∀ σ τ : rb_St, Rel σ τ → ∃ (r : Int32) (σ' : rb_St) (τ' : rb_St), xf_RP_back  σ = some (r, σ') ∧ xf_M_back  τ = some (r, τ') ∧ Rel σ' τ'
def op_count (Rel : rb_St → rb_St → Prop) : Prop := ∀ σ τ : rb_St, Rel σ τ → ∀ (p0 : Int32), ∃ (r : Int32), xf_RP_count p0 σ = r ∧ xf_M_count p0 τ = r ∧ Rel σ τ
def rb_Ops (Rel : rb_St → rb_St → Prop) : Prop := op_feed Rel ∧ op_end Rel ∧ op_fault0 Rel ∧ op_fault1 Rel ∧ op_fault2 Rel ∧ op_fault_o Rel ∧ op_text0 Rel ∧ op_text1 Rel ∧ op_text2 Rel ∧ op_text_o Rel ∧ op_rule Rel ∧ op_stands Rel ∧ op_law Rel ∧ op_step Rel ∧ op_plait Rel ∧ op_cross Rel ∧ op_beat Rel ∧ op_dance Rel ∧ op_down Rel ∧ op_longer Rel ∧ op_give Rel ∧ op_years Rel ∧ op_status Rel ∧ op_undo Rel ∧ op_log Rel ∧ op_takes Rel ∧ op_bound Rel ∧ op_letOut Rel ∧ op_behind Rel ∧ op_rounds Rel ∧ op_knot Rel ∧ op_same Rel ∧ op_nearest Rel ∧ op_times Rel ∧ op_seen Rel ∧ op_fits Rel ∧ op_ask Rel ∧ op_stripe Rel ∧ op_game Rel ∧ op_rests Rel ∧ op_odds Rel ∧ op_shares Rel ∧ op_most Rel ∧ op_image Rel ∧ op_back Rel ∧ op_count Rel
theorem rb_zb_01 (x : Int32) : rb_zb x = 0 ∨ rb_zb x = 1 := by
  unfold rb_zb
  by_cases h : x = 0
  · exact Or.inl (if_pos h)
  · exact Or.inr (if_neg h)
theorem rb_and63 (x : Int32) : ∃ n, n < 64 ∧ x &&& 63 = nI n := by
  refine ⟨(x &&& 63).toBitVec.toNat, ?_, ?_⟩
  · have e : (x &&& 63).toBitVec = x.toBitVec &&& 63#32 := rfl
    rw [e, BitVec.toNat_and]
    exact Nat.lt_of_le_of_lt Nat.and_le_right (by decide)
  · apply Int32.toBitVec_inj.mp
    show _ = BitVec.ofNat 32 _
    rw [BitVec.ofNat_toNat, BitVec.setWidth_eq]
theorem rb_gt6 {L i : Nat} (hL : L ≤ 3072) (hi : i ≤ 3072 + 6) (h : ¬ nI L - 6 < nI i) : i + 6 ≤ L := by
  rcases Nat.lt_or_ge L 6 with h6 | h6
  · exfalso
    apply h
    have hp : (0 : Int32) ≤ nI i := nI_pos' (by omega)
    have hn : nI L - 6 < 0 := by
      have : L = 0 ∨ L = 1 ∨ L = 2 ∨ L = 3 ∨ L = 4 ∨ L = 5 := by omega
      rcases this with rfl | rfl | rfl | rfl | rfl | rfl <;> decide
    rw [Int32.lt_iff_toInt_lt] at hn ⊢
    rw [Int32.le_iff_toInt_le] at hp
    omega
  · have e : nI L - 6 = nI (L - 6) := by
      have : nI L = nI (L - 6) + nI 6 := by rw [nI_add]; congr 1; omega
      rw [this]
      exact Int32.add_sub_cancel _ _
    rw [e] at h
    rcases Nat.lt_or_ge (L - 6) i with h7 | h7
    · exact absurd (nI_lt h7 (by omega)) h
    · omega
