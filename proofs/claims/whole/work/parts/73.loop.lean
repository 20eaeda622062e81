def op_feed (Rel : rb_St → rb_St → Prop) : Prop := ∀ σ τ : rb_St, Rel σ τ → ∀ (p0 : Int32) (p1 : Int32) (p2 : Int32) (p3 : Int32) (p4 : Int32), ∃ (r : Int32) (σ' : rb_St) (τ' : rb_St), xf_RP_feed p0 p1 p2 p3 p4 σ = some (r, σ') ∧ xf_M_feed p0 p1 p2 p3 p4 τ = some (r, τ') ∧ Rel σ' τ'
def op_end (Rel : rb_St → rb_St → Prop) : Prop := ∀ σ τ : rb_St, Rel σ τ → ∀ (p0 : Int32), ∃ (r : Int32) (σ' : rb_St) (τ' : rb_St), xf_RP_end p0 σ = some (r, σ') ∧ xf_M_end p0 τ = some (r, τ') ∧ Rel σ' τ'
def op_fault0 (Rel : rb_St → rb_St → Prop) : Prop := ∀ σ τ : rb_St, Rel σ τ → ∃ (r : Int32) (σ' τ' : rb_St), xf_RP_fault0 σ = some (r, σ') ∧ xf_M_fault 0 τ = some (r, τ') ∧ Rel σ' τ'
def op_fault1 (Rel : rb_St → rb_St → Prop) : Prop := ∀ σ τ : rb_St, Rel σ τ → ∃ (r : Int32) (σ' τ' : rb_St), xf_RP_fault1 σ = some (r, σ') ∧ xf_M_fault 1 τ = some (r, τ') ∧ Rel σ' τ'
def op_fault2 (Rel : rb_St → rb_St → Prop) : Prop := ∀ σ τ : rb_St, Rel σ τ → ∃ (r : Int32) (σ' τ' : rb_St), xf_RP_fault2 σ = some (r, σ') ∧ xf_M_fault 2 τ = some (r, τ') ∧ Rel σ' τ'
def op_fault_o (Rel : rb_St → rb_St → Prop) : Prop := ∀ σ τ : rb_St, Rel σ τ → ∀ p : Int32, ¬ p = 0 → ¬ p = 1 → ¬ p = 2 → ∃ (r : Int32) (σ' τ' : rb_St), xf_RP_fault_o p σ = some (r, σ') ∧ xf_M_fault p τ = some (r, τ') ∧ Rel σ' τ'
def op_text0 (Rel : rb_St → rb_St → Prop) : Prop := ∀ σ τ : rb_St, Rel σ τ → ∃ (r : Int32) (σ' τ' : rb_St), xf_RP_text0 σ = some (r, σ') ∧ xf_M_text 0 τ = some (r, τ') ∧ Rel σ' τ'
def op_text1 (Rel : rb_St → rb_St → Prop) : Prop := ∀ σ τ : rb_St, Rel σ τ → ∃ (r : Int32) (σ' τ' : rb_St), xf_RP_text1 σ = some (r, σ') ∧ xf_M_text 1 τ = some (r, τ') ∧ Rel σ' τ'
def op_text2 (Rel : rb_St → rb_St → Prop) : Prop := ∀ σ τ : rb_St, Rel σ τ → ∃ (r : Int32) (σ' τ' : rb_St), xf_RP_text2 σ = some (r, σ') ∧ xf_M_text 2 τ = some (r, τ') ∧ Rel σ' τ'
def op_text_o (Rel : rb_St → rb_St → Prop) : Prop := ∀ σ τ : rb_St, Rel σ τ → ∀ p : Int32, ¬ p = 0 → ¬ p = 1 → ¬ p = 2 → ∃ (r : Int32) (σ' τ' : rb_St), xf_RP_text_o p σ = some (r, σ') ∧ xf_M_text p τ = some (r, τ') ∧ Rel σ' τ'
def op_rule (Rel : rb_St → rb_St → Prop) : Prop := ∀ σ τ : rb_St, Rel σ τ → ∀ (p0 : Int32), ∃ (r : Int32), xf_RP_rule p0 σ = r ∧ xf_M_rule p0 τ = some r ∧ Rel σ τ
def op_stands (Rel : rb_St → rb_St → Prop) : Prop := ∀ σ τ : rb_St, Rel σ τ → ∀ (p0 : Int32), ∃ (r : Int32), xf_RP_stands p0 σ = some r ∧ xf_M_stands p0 τ = some r ∧ Rel σ τ
def op_law (Rel : rb_St → rb_St → Prop) : Prop := ∀ σ τ : rb_St, Rel σ τ → ∀ (p0 : Int32), ∃ (r : Int32) (σ' : rb_St) (τ' : rb_St), xf_RP_law p0 σ = some (r, σ') ∧ xf_M_law p0 τ = some (r, τ') ∧ Rel σ' τ'
def op_step (Rel : rb_St → rb_St → Prop) : Prop := ∀ σ τ : rb_St, Rel σ τ → ∀ (p0 : Int32) (p1 : Int32), ∃ (r : Int32), xf_RP_step p0 p1 σ = some r ∧ xf_M_step p0 p1 τ = some r ∧ Rel σ τ
def op_plait (Rel : rb_St → rb_St → Prop) : Prop := ∀ σ τ : rb_St, Rel σ τ → ∀ (p0 : Int32) (p1 : Int32), ∃ (r : Int32) (σ' : rb_St) (τ' : rb_St), xf_RP_plait p0 p1 σ = some (r, σ') ∧ xf_M_plait p0 p1 τ = some (r, τ') ∧ Rel σ' τ'
def op_cross (Rel : rb_St → rb_St → Prop) : Prop := ∀ σ τ : rb_St, Rel σ τ → ∀ (p0 : Int32) (p1 : Int32), (p1 = 0 ∨ p1 = 1) → ∃ (r : Int32) (σ' : rb_St) (τ' : rb_St), xf_RP_cross p0 p1 σ = some (r, σ') ∧ xf_M_cross p0 p1 τ = some (r, τ') ∧ Rel σ' τ'
def op_beat (Rel : rb_St → rb_St → Prop) : Prop := ∀ σ τ : rb_St, Rel σ τ → ∃ (r : Int32) (σ' : rb_St) (τ' : rb_St), xf_RP_beat  σ = some (r, σ') ∧ xf_M_beat  τ = some (r, τ') ∧ Rel σ' τ'
def op_dance (Rel : rb_St → rb_St → Prop) : Prop := ∀ σ τ : rb_St, Rel σ τ → ∀ (p0 : Int32), ∃ (r : Int32) (σ' : rb_St) (τ' : rb_St), xf_RP_dance p0 σ = some (r, σ') ∧ xf_M_dance p0 τ = some (r, τ') ∧ Rel σ' τ'
def op_down (Rel : rb_St → rb_St → Prop) : Prop := ∀ σ τ : rb_St, Rel σ τ → ∀ (p0 : Int32), ∃ (r : Int32) (σ' : rb_St) (τ' : rb_St), xf_RP_down p0 σ = some (r, σ') ∧ xf_M_down p0 τ = some (r, τ') ∧ Rel σ' τ'
def op_longer (Rel : rb_St → rb_St → Prop) : Prop := ∀ σ τ : rb_St, Rel σ τ → ∀ (p0 : Int32) (p1 : Int32), ∃ (r : Int32) (σ' : rb_St) (τ' : rb_St), xf_RP_longer p0 p1 σ = some (r, σ') ∧ xf_M_longer p0 p1 τ = some (r, τ') ∧ Rel σ' τ'
def op_give (Rel : rb_St → rb_St → Prop) : Prop := ∀ σ τ : rb_St, Rel σ τ → ∀ (p0 : Int32), ∃ (r : Int32) (σ' : rb_St) (τ' : rb_St), xf_RP_give p0 σ = some (r, σ') ∧ xf_M_give p0 τ = some (r, τ') ∧ Rel σ' τ'
def op_years (Rel : rb_St → rb_St → Prop) : Prop := ∀ σ τ : rb_St, Rel σ τ → ∀ (p0 : Int32) (p1 : Int64), ∃ (r : Int32) (σ' : rb_St) (τ' : rb_St), xf_RP_years p0 p1 σ = some (r, σ') ∧ xf_M_years p0 p1 τ = some (r, τ') ∧ Rel σ' τ'
def op_status (Rel : rb_St → rb_St → Prop) : Prop := ∀ σ τ : rb_St, Rel σ τ → ∀ (p0 : Int32), ∃ (r : Int32), xf_RP_status p0 σ = some r ∧ xf_M_status p0 τ = some r ∧ Rel σ τ
def op_undo (Rel : rb_St → rb_St → Prop) : Prop := ∀ σ τ : rb_St, Rel σ τ → ∃ (r : Int32) (σ' : rb_St) (τ' : rb_St), xf_RP_undo  σ = some (r, σ') ∧ xf_M_undo  τ = some (r, τ') ∧ Rel σ' τ'
def op_log (Rel : rb_St → rb_St → Prop) : Prop := ∀ σ τ : rb_St, Rel σ τ → ∀ (p0 : Int32) (p1 : Int32), ∃ (r : Int32), xf_RP_log p0 p1 σ = some r ∧ xf_M_log p0 p1 τ = some r ∧ Rel σ τ
def op_takes (Rel : rb_St → rb_St → Prop) : Prop := ∀ σ τ : rb_St, Rel σ τ → ∀ (p0 : Int32) (p1 : Int32), (p1 = 0 ∨ p1 = 1) → ∃ (r : Int32) (σ' : rb_St) (τ' : rb_St), xf_RP_takes p0 p1 σ = some (r, σ') ∧ xf_M_takes p0 p1 τ = some (r, τ') ∧ Rel σ' τ'
def op_bound (Rel : rb_St → rb_St → Prop) : Prop := ∀ σ τ : rb_St, Rel σ τ → ∀ (p0 : Int32) (p1 : Int32), ∃ (r : Int32), xf_RP_bound p0 p1 σ = some r ∧ xf_M_bound p0 p1 τ = some r ∧ Rel σ τ
def op_letOut (Rel : rb_St → rb_St → Prop) : Prop := ∀ σ τ : rb_St, Rel σ τ → ∀ (p0 : Int32), ∃ (r : Int32) (τ' : rb_St), xf_RP_letOut p0 σ = some r ∧ xf_M_letOut p0 τ = some (r, τ') ∧ Rel σ τ'
def op_behind (Rel : rb_St → rb_St → Prop) : Prop := ∀ σ τ : rb_St, Rel σ τ → ∀ (p0 : Int32) (p1 : Int32) (p2 : Int32), ∃ (r : Int32) (τ' : rb_St), xf_RP_behind p0 p1 p2 σ = some r ∧ xf_M_behind p0 p1 p2 τ = some (r, τ') ∧ Rel σ τ'
def op_rounds (Rel : rb_St → rb_St → Prop) : Prop := ∀ σ τ : rb_St, Rel σ τ → ∀ (p0 : Int32), ∃ (r : Int32) (τ' : rb_St), xf_RP_rounds p0 σ = some r ∧ xf_M_rounds p0 τ = some (r, τ') ∧ Rel σ τ'
def op_knot (Rel : rb_St → rb_St → Prop) : Prop := ∀ σ τ : rb_St, Rel σ τ → ∀ (p0 : Int32), ∃ (r : Int32) (σ' : rb_St) (τ' : rb_St), xf_RP_knot p0 σ = some (r, σ') ∧ xf_M_knot p0 τ = some (r, τ') ∧ Rel σ' τ'
def op_same (Rel : rb_St → rb_St → Prop) : Prop := ∀ σ τ : rb_St, Rel σ τ → ∀ (p0 : Int32) (p1 : Int32), ∃ (r : Int32) (σ' : rb_St) (τ' : rb_St), xf_RP_same p0 p1 σ = some (r, σ') ∧ xf_M_same p0 p1 τ = some (r, τ') ∧ Rel σ' τ'
def op_nearest (Rel : rb_St → rb_St → Prop) : Prop := ∀ σ τ : rb_St, Rel σ τ → ∀ (p0 : Int32) (p1 : Int32), ∃ (r : Int32) (σ' : rb_St) (τ' : rb_St), xf_RP_nearest p0 p1 σ = some (r, σ') ∧ xf_M_nearest p0 p1 τ = some (r, τ') ∧ Rel σ' τ'
def op_times (Rel : rb_St → rb_St → Prop) : Prop := ∀ σ τ : rb_St, Rel σ τ → ∀ (p0 : Int32), ∃ (r : Int32) (σ' : rb_St) (τ' : rb_St), xf_RP_times p0 σ = some (r, σ') ∧ xf_M_times p0 τ = some (r, τ') ∧ Rel σ' τ'
def op_seen (Rel : rb_St → rb_St → Prop) : Prop := ∀ σ τ : rb_St, Rel σ τ → ∀ (p0 : Int32) (p1 : Int32) (p2 : Int32) (p3 : Int32), (p3 = 0 ∨ p3 = 1) → ∃ (r : Int32) (σ' : rb_St) (τ' : rb_St), xf_RP_seen p0 p1 p2 p3 σ = some (r, σ') ∧ xf_M_seen p0 p1 p2 p3 τ = some (r, τ') ∧ Rel σ' τ'
def op_fits (Rel : rb_St → rb_St → Prop) : Prop := ∀ σ τ : rb_St, Rel σ τ → ∃ (r : Int32) (τ' : rb_St), xf_RP_fits  σ = some r ∧ xf_M_fits  τ = some (r, τ') ∧ Rel σ τ'
def op_ask (Rel : rb_St → rb_St → Prop) : Prop := ∀ σ τ : rb_St, Rel σ τ → ∀ (p0 : Int32), ∃ (r : Int32) (τ' : rb_St), xf_RP_ask p0 σ = some r ∧ xf_M_ask p0 τ = some (r, τ') ∧ Rel σ τ'
def op_stripe (Rel : rb_St → rb_St → Prop) : Prop := ∀ σ τ : rb_St, Rel σ τ → ∀ (p0 : Int32), ∃ (r : Int32) (σ' : rb_St) (τ' : rb_St), xf_RP_stripe p0 σ = some (r, σ') ∧ xf_M_stripe p0 τ = some (r, τ') ∧ Rel σ' τ'
def op_game (Rel : rb_St → rb_St → Prop) : Prop := ∀ σ τ : rb_St, Rel σ τ → ∀ (p0 : Int32) (p1 : Int32) (p2 : Int32) (p3 : Int32), ∃ (r : Int32) (σ' : rb_St) (τ' : rb_St), xf_RP_game p0 p1 p2 p3 σ = some (r, σ') ∧ xf_M_game p0 p1 p2 p3 τ = some (r, τ') ∧ Rel σ' τ'
def op_rests (Rel : rb_St → rb_St → Prop) : Prop := ∀ σ τ : rb_St, Rel σ τ → ∀ (p0 : Int32) (p1 : Int32), ∃ (r : Int32) (σ' : rb_St) (τ' : rb_St), xf_RP_rests p0 p1 σ = some (r, σ') ∧ xf_M_rests p0 p1 τ = some (r, τ') ∧ Rel σ' τ'
def op_odds (Rel : rb_St → rb_St → Prop) : Prop := ∀ σ τ : rb_St, Rel σ τ → ∀ (p0 : Int32) (p1 : Int32) (p2 : Int32), ∃ (r : Int32) (σ' : rb_St) (τ' : rb_St), xf_RP_odds p0 p1 p2 σ = some (r, σ') ∧ xf_M_odds p0 p1 p2 τ = some (r, τ') ∧ Rel σ' τ'
def op_shares (Rel : rb_St → rb_St → Prop) : Prop := ∀ σ τ : rb_St, Rel σ τ → ∀ (p0 : Int32) (p1 : Int32), ∃ (r : Int32), xf_RP_shares p0 p1 σ = some r ∧ xf_M_shares p0 p1 τ = some r ∧ Rel σ τ
def op_most (Rel : rb_St → rb_St → Prop) : Prop := ∀ σ τ : rb_St, Rel σ τ → ∀ (p0 : Int32), ∃ (r : Int32) (σ' : rb_St) (τ' : rb_St), xf_RP_most p0 σ = some (r, σ') ∧ xf_M_most p0 τ = some (r, τ') ∧ Rel σ' τ'
def op_image (Rel : rb_St → rb_St → Prop) : Prop := ∀ σ τ : rb_St, Rel σ τ → ∃ (r : Int32) (σ' : rb_St) (τ' : rb_St), xf_RP_image  σ = some (r, σ') ∧ xf_M_image  τ = some (r, τ') ∧ Rel σ' τ'
def op_back (Rel : rb_St → rb_St → Prop) : Prop := ∀ σ τ : rb_St, Rel σ τ → ∃ (r : Int32) (σ' : rb_St) (τ' : rb_St), xf_RP_back  σ = some (r, σ') ∧ xf_M_back  τ = some (r, τ') ∧ Rel σ' τ'
def op_count (Rel : rb_St → rb_St → Prop) : Prop := ∀ σ τ : rb_St, Rel σ τ → ∀ (p0 : Int32), ∃ (r : Int32), xf_RP_count p0 σ = r ∧ xf_M_count p0 τ = r ∧ Rel σ τ
def rb_Ops (Rel : rb_St → rb_St → Prop) : Prop := op_feed Rel ∧ op_end Rel ∧ op_fault0 Rel ∧ op_fault1 Rel ∧ op_fault2 Rel ∧ op_fault_o Rel ∧ op_text0 Rel ∧ op_text1 Rel ∧ op_text2 Rel ∧ op_text_o Rel ∧ op_rule Rel ∧ op_stands Rel ∧ op_law Rel ∧ op_step Rel ∧ op_plait Rel ∧ op_cross Rel ∧ op_beat Rel ∧ op_dance Rel ∧ op_down Rel ∧ op_longer Rel ∧ op_give Rel ∧ op_years Rel ∧ op_status Rel ∧ op_undo Rel ∧ op_log Rel ∧ op_takes Rel ∧ op_bound Rel ∧ op_letOut Rel ∧ op_behind Rel ∧ op_rounds Rel ∧ op_knot Rel ∧ op_same Rel ∧ op_nearest Rel ∧ op_times Rel ∧ op_seen Rel ∧ op_fits Rel ∧ op_ask Rel ∧ op_stripe Rel ∧ op_game Rel ∧ op_rests Rel ∧ op_odds Rel ∧ op_shares Rel ∧ op_most Rel ∧ op_image Rel ∧ op_back Rel ∧ op_count Rel
theorem rb_zb_01 (x : Int32) : rb_zb x = 0 ∨ rb_zb x = 1 := by
  unfold rb_zb
  by_cases h : x = 0
  · exact Or.inl (if_pos h)
  · exact Or.inr (if_neg h)
theorem rb_and63 (x : Int32) : ∃ n, n < 64 ∧ x &&& 63 = nI n := by
  refine ⟨(x &&& 63).toBitVec.toNat, ?_, ?_⟩
  · have e : (x &&& 63).toBitVec = x.toBitVec &&& 63#32 := rfl
    rw [e, BitVec.toNat_and]
    exact Nat.lt_of_le_of_lt Nat.and_le_right (by decide)
  · apply Int32.toBitVec_inj.mp
    show _ = BitVec.ofNat 32 _
    rw [BitVec.ofNat_toNat, BitVec.setWidth_eq]
theorem rb_gt6 {L i : Nat} (hL : L ≤ 3072) (hi : i ≤ 3072 + 6) (h : ¬ nI L - 6 < nI i) : i + 6 ≤ L := by
  rcases Nat.lt_or_ge L 6 with h6 | h6
  · exfalso
    apply h
    have hp : (0 : Int32) ≤ nI i := nI_pos' (by omega)
    have hn : nI L - 6 < 0 := by
      have : L = 0 ∨ L = 1 ∨ L = 2 ∨ L = 3 ∨ L = 4 ∨ L = 5 := by omega
      rcases this with rfl | rfl | rfl | rfl | rfl | rfl <;> decide
    rw [Int32.lt_iff_toInt_lt] at hn ⊢
    rw [Int32.le_iff_toInt_le] at hp
    omega
  · have e : nI L - 6 = nI (L - 6) := by
      have : nI L = nI (L - 6) + nI 6 := by rw [nI_add]; congr 1; omega
      rw [this]
      exact Int32.add_sub_cancel _ _
    rw [e] at h
    rcases Nat.lt_or_ge (L - 6) i with h7 | h7
    · exact absurd (nI_lt h7 (by omega)) h
    · omega
set_option maxHeartbeats 4000000 in
theorem rb_loop_open {z : rb_Z} {g : rb_Gd} {b L : Nat} {xs : Nat → Int32} {cs sl : Nat} {Q : State → Prop} {Rel : rb_St → rb_St → Prop} (hC : rb_Lx z g b L xs cs sl) (O : rb_Ops Rel)
    (hD : ∀ (σ τ : rb_St) (o : Nat → Int64), Rel σ τ → ∀ i : Nat, i + 6 ≤ L → (∀ (σ τ : rb_St) (o : Nat → Int64), Rel σ τ → rb_LAt z g cs sl Q 1620 (rb_lv g b i) [] σ τ o) → rb_LAt z g cs sl Q 393 (rb_lv g b i) [] σ τ o)
    (hE : ∀ (σ τ : rb_St) (o : Nat → Int64) (i : Nat), rb_LAt z g cs sl Q 1626 (rb_lv g b i) [] σ τ o) :
    ∀ (n i : Nat) (σ τ : rb_St) (o : Nat → Int64), Rel σ τ → i ≤ L + 6 → L + 6 < i + n → rb_LAt z g cs sl Q 23 (rb_lv g b i) [] σ τ o := by
  have hL := hC.2.2.2.2.2.2.2.2.2.2.2.1.2.2
  intro n
  induction n with
  | zero => intro i σ τ o hR h1 h2; exact absurd h2 (by omega)
  | succ n ih =>
    intro i σ τ o hR h1 h2
    refine rb_l_iload hC 4 dL_law_23 rfl ?_
    refine rb_l_aload_n hC 0 dL_law_25 rfl ?_
    refine rb_l_slen hC dL_law_26 ?_
    refine rb_l_bipush (x := 6) hC dL_law_27 (by decide) ?_
    refine rb_l_isub hC dL_law_29 ?_
    refine rb_l_icmp_gt hC 1626 dL_law_30 (by decide) (fun _ => hE σ τ o i) (fun hc => ?_)
    have hi : i + 6 ≤ L := rb_gt6 hL (by omega) hc
    have next : ∀ (σ τ : rb_St) (o : Nat → Int64), Rel σ τ → rb_LAt z g cs sl Q 1620 (rb_lv g b i) [] σ τ o := by
      intro σ τ o hR
      refine rb_l_iinc hC 4 [(4, .int (nI (i + 6))), (0, .ref b), (1, .ref (rb_ad (rb_w1 g) 0)), (2, .ref (rb_ad (rb_w2 g) 0)), (3, .ref (rb_qo g))] dL_law_1620 rfl (nI_add i 6) (by decide) rfl ?_
      refine rb_l_goto hC 23 dL_law_1623 (by decide) ?_
      refine rb_l_sub (lv2 := rb_lv g b (i + 6)) [1, 2, 3, 4, 0] rfl ?_
      exact ih (i + 6) σ τ o hR (by omega) (by omega)
    refine rb_l_aload_n hC 0 dL_law_33 rfl ?_
    refine rb_l_iload hC 4 dL_law_34 rfl ?_
    refine rb_l_sld hC (vp_in_nI (by omega) (by omega)) dL_law_36 ?_
    refine rb_l_bipush (x := 63) hC dL_law_37 (by decide) ?_
    refine rb_l_iand hC dL_law_39 ?_
    obtain ⟨k, hk, ek⟩ := rb_and63 (xs (nI i).toNatClampNeg)
    rw [ek]
    rcases Nat.lt_or_ge k 41 with h41 | h41
    · have hcs : k = 0 ∨ k = 1 ∨ k = 2 ∨ k = 3 ∨ k = 4 ∨ k = 5 ∨ k = 6 ∨ k = 7 ∨ k = 8 ∨ k = 9 ∨ k = 10 ∨ k = 11 ∨ k = 12 ∨ k = 13 ∨ k = 14 ∨ k = 15 ∨ k = 16 ∨ k = 17 ∨ k = 18 ∨ k = 19 ∨ k = 20 ∨ k = 21 ∨ k = 22 ∨ k = 23 ∨ k = 24 ∨ k = 25 ∨ k = 26 ∨ k = 27 ∨ k = 28 ∨ k = 29 ∨ k = 30 ∨ k = 31 ∨ k = 32 ∨ k = 33 ∨ k = 34 ∨ k = 35 ∨ k = 36 ∨ k = 37 ∨ k = 38 ∨ k = 39 ∨ k = 40 := by omega
      rcases hcs with rfl | rfl | rfl | rfl | rfl | rfl | rfl | rfl | rfl | rfl | rfl | rfl | rfl | rfl | rfl | rfl | rfl | rfl | rfl | rfl | rfl | rfl | rfl | rfl | rfl | rfl | rfl | rfl | rfl | rfl | rfl | rfl | rfl | rfl | rfl | rfl | rfl | rfl | rfl | rfl | rfl
      · refine rb_l_tableIn hC 220 dL_law_40 (by decide +kernel) (by decide +kernel) (off := 180) (by decide +kernel) (by decide) ?_
        obtain ⟨r, σ', τ', h1, h2, h3⟩ := O.1 σ τ hR (xs (i + 1)) (xs (i + 2)) (xs (i + 3)) (xs (i + 4)) (xs (i + 5))
        exact lc_feed hC hi h1 h2 (next σ' τ' o h3)
      · refine rb_l_tableIn hC 293 dL_law_40 (by decide +kernel) (by decide +kernel) (off := 253) (by decide +kernel) (by decide) ?_
        obtain ⟨r, σ', τ', h1, h2, h3⟩ := O.2.1 σ τ hR (xs (i + 1))
        exact lc_end hC hi h1 h2 (next σ' τ' o h3)
      · refine rb_l_tableIn hC 318 dL_law_40 (by decide +kernel) (by decide +kernel) (off := 278) (by decide +kernel) (by decide) ?_
        by_cases e0 : xs (i + 1) = 0
        · obtain ⟨r, σ', τ', h1, h2, h3⟩ := O.2.2.1 σ τ hR
          exact lc_fault0 hC hi e0 h1 (by rw [e0]; exact h2) (next σ' τ' o h3)
        by_cases e1 : xs (i + 1) = 1
        · obtain ⟨r, σ', τ', h1, h2, h3⟩ := O.2.2.2.1 σ τ hR
          exact lc_fault1 hC hi e1 h1 (by rw [e1]; exact h2) (next σ' τ' o h3)
        by_cases e2 : xs (i + 1) = 2
        · obtain ⟨r, σ', τ', h1, h2, h3⟩ := O.2.2.2.2.1 σ τ hR
          exact lc_fault2 hC hi e2 h1 (by rw [e2]; exact h2) (next σ' τ' o h3)
        obtain ⟨r, σ', τ', h1, h2, h3⟩ := O.2.2.2.2.2.1 σ τ hR (xs (i + 1)) e0 e1 e2
        exact lc_fault_o hC hi e0 e1 e2 h1 h2 (next σ' τ' o h3)
      · refine rb_l_tableIn hC 343 dL_law_40 (by decide +kernel) (by decide +kernel) (off := 303) (by decide +kernel) (by decide) ?_
        by_cases e0 : xs (i + 1) = 0
        · obtain ⟨r, σ', τ', h1, h2, h3⟩ := O.2.2.2.2.2.2.1 σ τ hR
          exact lc_text0 hC hi e0 h1 (by rw [e0]; exact h2) (next σ' τ' o h3)
        by_cases e1 : xs (i + 1) = 1
        · obtain ⟨r, σ', τ', h1, h2, h3⟩ := O.2.2.2.2.2.2.2.1 σ τ hR
          exact lc_text1 hC hi e1 h1 (by rw [e1]; exact h2) (next σ' τ' o h3)
        by_cases e2 : xs (i + 1) = 2
        · obtain ⟨r, σ', τ', h1, h2, h3⟩ := O.2.2.2.2.2.2.2.2.1 σ τ hR
          exact lc_text2 hC hi e2 h1 (by rw [e2]; exact h2) (next σ' τ' o h3)
        obtain ⟨r, σ', τ', h1, h2, h3⟩ := O.2.2.2.2.2.2.2.2.2.1 σ τ hR (xs (i + 1)) e0 e1 e2
        exact lc_text_o hC hi e0 e1 e2 h1 h2 (next σ' τ' o h3)
      · refine rb_l_tableIn hC 368 dL_law_40 (by decide +kernel) (by decide +kernel) (off := 328) (by decide +kernel) (by decide) ?_
        obtain ⟨r, h1, h2, h3⟩ := O.2.2.2.2.2.2.2.2.2.2.1 σ τ hR (xs (i + 1))
        exact lc_rule hC hi h1 h2 (next σ τ o h3)
      · refine rb_l_tableIn hC 393 dL_law_40 (by decide +kernel) (by decide +kernel) (off := 353) (by decide +kernel) (by decide) ?_
        exact hD σ τ o hR i hi (fun σ τ o h => next σ τ o h)
      · refine rb_l_tableIn hC 461 dL_law_40 (by decide +kernel) (by decide +kernel) (off := 421) (by decide +kernel) (by decide) ?_
        obtain ⟨r, h1, h2, h3⟩ := O.2.2.2.2.2.2.2.2.2.2.2.1 σ τ hR (xs (i + 1))
        exact lc_stands hC hi h1 h2 (next σ τ o h3)
      · refine rb_l_tableIn hC 486 dL_law_40 (by decide +kernel) (by decide +kernel) (off := 446) (by decide +kernel) (by decide) ?_
        obtain ⟨r, σ', τ', h1, h2, h3⟩ := O.2.2.2.2.2.2.2.2.2.2.2.2.1 σ τ hR (xs (i + 1))
        exact lc_law hC hi h1 h2 (next σ' τ' o h3)
      · refine rb_l_tableIn hC 511 dL_law_40 (by decide +kernel) (by decide +kernel) (off := 471) (by decide +kernel) (by decide) ?_
        obtain ⟨r, h1, h2, h3⟩ := O.2.2.2.2.2.2.2.2.2.2.2.2.2.1 σ τ hR (xs (i + 1)) (xs (i + 2))
        exact lc_step hC hi h1 h2 (next σ τ o h3)
      · refine rb_l_tableIn hC 548 dL_law_40 (by decide +kernel) (by decide +kernel) (off := 508) (by decide +kernel) (by decide) ?_
        obtain ⟨r, σ', τ', h1, h2, h3⟩ := O.2.2.2.2.2.2.2.2.2.2.2.2.2.2.1 σ τ hR (xs (i + 1)) (xs (i + 2))
        exact lc_plait hC hi h1 h2 (next σ' τ' o h3)
      · refine rb_l_tableIn hC 585 dL_law_40 (by decide +kernel) (by decide +kernel) (off := 545) (by decide +kernel) (by decide) ?_
        obtain ⟨r, σ', τ', h1, h2, h3⟩ := O.2.2.2.2.2.2.2.2.2.2.2.2.2.2.2.1 σ τ hR (xs (i + 1)) (rb_zb (xs (i + 2))) (rb_zb_01 _)
        exact lc_cross hC hi h1 h2 (next σ' τ' o h3)
      · refine rb_l_tableIn hC 638 dL_law_40 (by decide +kernel) (by decide +kernel) (off := 598) (by decide +kernel) (by decide) ?_
        obtain ⟨r, σ', τ', h1, h2, h3⟩ := O.2.2.2.2.2.2.2.2.2.2.2.2.2.2.2.2.1 σ τ hR 
        exact lc_beat hC hi h1 h2 (next σ' τ' o h3)
      · refine rb_l_tableIn hC 651 dL_law_40 (by decide +kernel) (by decide +kernel) (off := 611) (by decide +kernel) (by decide) ?_
        obtain ⟨r, σ', τ', h1, h2, h3⟩ := O.2.2.2.2.2.2.2.2.2.2.2.2.2.2.2.2.2.1 σ τ hR (xs (i + 1))
        exact lc_dance hC hi h1 h2 (next σ' τ' o h3)
      · refine rb_l_tableIn hC 676 dL_law_40 (by decide +kernel) (by decide +kernel) (off := 636) (by decide +kernel) (by decide) ?_
        obtain ⟨r, σ', τ', h1, h2, h3⟩ := O.2.2.2.2.2.2.2.2.2.2.2.2.2.2.2.2.2.2.1 σ τ hR (xs (i + 1))
        exact lc_down hC hi h1 h2 (next σ' τ' o h3)
      · refine rb_l_tableIn hC 701 dL_law_40 (by decide +kernel) (by decide +kernel) (off := 661) (by decide +kernel) (by decide) ?_
        obtain ⟨r, σ', τ', h1, h2, h3⟩ := O.2.2.2.2.2.2.2.2.2.2.2.2.2.2.2.2.2.2.2.1 σ τ hR (xs (i + 1)) (xs (i + 2))
        exact lc_longer hC hi h1 h2 (next σ' τ' o h3)
      · refine rb_l_tableIn hC 738 dL_law_40 (by decide +kernel) (by decide +kernel) (off := 698) (by decide +kernel) (by decide) ?_
        obtain ⟨r, σ', τ', h1, h2, h3⟩ := O.2.2.2.2.2.2.2.2.2.2.2.2.2.2.2.2.2.2.2.2.1 σ τ hR (xs (i + 1))
        exact lc_give hC hi h1 h2 (next σ' τ' o h3)
      · refine rb_l_tableIn hC 763 dL_law_40 (by decide +kernel) (by decide +kernel) (off := 723) (by decide +kernel) (by decide) ?_
        obtain ⟨r, σ', τ', h1, h2, h3⟩ := O.2.2.2.2.2.2.2.2.2.2.2.2.2.2.2.2.2.2.2.2.2.1 σ τ hR (xs (i + 1)) (((xs (i + 2)).toInt64 <<< ((32 : Int32).toInt64 &&& 63)) ||| ((xs (i + 3)).toInt64 &&& 4294967295))
        exact lc_years hC hi h1 h2 (next σ' τ' o h3)
      · refine rb_l_tableIn hC 832 dL_law_40 (by decide +kernel) (by decide +kernel) (off := 792) (by decide +kernel) (by decide) ?_
        obtain ⟨r, h1, h2, h3⟩ := O.2.2.2.2.2.2.2.2.2.2.2.2.2.2.2.2.2.2.2.2.2.2.1 σ τ hR (xs (i + 1))
        exact lc_status hC hi h1 h2 (next σ τ o h3)
      · refine rb_l_tableIn hC 857 dL_law_40 (by decide +kernel) (by decide +kernel) (off := 817) (by decide +kernel) (by decide) ?_
        obtain ⟨r, σ', τ', h1, h2, h3⟩ := O.2.2.2.2.2.2.2.2.2.2.2.2.2.2.2.2.2.2.2.2.2.2.2.1 σ τ hR 
        exact lc_undo hC hi h1 h2 (next σ' τ' o h3)
      · refine rb_l_tableIn hC 870 dL_law_40 (by decide +kernel) (by decide +kernel) (off := 830) (by decide +kernel) (by decide) ?_
        obtain ⟨r, h1, h2, h3⟩ := O.2.2.2.2.2.2.2.2.2.2.2.2.2.2.2.2.2.2.2.2.2.2.2.2.1 σ τ hR (xs (i + 1)) (xs (i + 2))
        exact lc_log hC hi h1 h2 (next σ τ o h3)
      · refine rb_l_tableIn hC 907 dL_law_40 (by decide +kernel) (by decide +kernel) (off := 867) (by decide +kernel) (by decide) ?_
        obtain ⟨r, σ', τ', h1, h2, h3⟩ := O.2.2.2.2.2.2.2.2.2.2.2.2.2.2.2.2.2.2.2.2.2.2.2.2.2.1 σ τ hR (xs (i + 1)) (rb_zb (xs (i + 2))) (rb_zb_01 _)
        exact lc_takes hC hi h1 h2 (next σ' τ' o h3)
      · refine rb_l_tableIn hC 960 dL_law_40 (by decide +kernel) (by decide +kernel) (off := 920) (by decide +kernel) (by decide) ?_
        obtain ⟨r, h1, h2, h3⟩ := O.2.2.2.2.2.2.2.2.2.2.2.2.2.2.2.2.2.2.2.2.2.2.2.2.2.2.1 σ τ hR (xs (i + 1)) (xs (i + 2))
        exact lc_bound hC hi h1 h2 (next σ τ o h3)
      · refine rb_l_tableIn hC 997 dL_law_40 (by decide +kernel) (by decide +kernel) (off := 957) (by decide +kernel) (by decide) ?_
        obtain ⟨r, τ', h1, h2, h3⟩ := O.2.2.2.2.2.2.2.2.2.2.2.2.2.2.2.2.2.2.2.2.2.2.2.2.2.2.2.1 σ τ hR (xs (i + 1))
        exact lc_letOut hC hi h1 h2 (next σ τ' o h3)
      · refine rb_l_tableIn hC 1022 dL_law_40 (by decide +kernel) (by decide +kernel) (off := 982) (by decide +kernel) (by decide) ?_
        obtain ⟨r, τ', h1, h2, h3⟩ := O.2.2.2.2.2.2.2.2.2.2.2.2.2.2.2.2.2.2.2.2.2.2.2.2.2.2.2.2.1 σ τ hR (xs (i + 1)) (xs (i + 2)) (xs (i + 3))
        exact lc_behind hC hi h1 h2 (next σ τ' o h3)
      · refine rb_l_tableIn hC 1071 dL_law_40 (by decide +kernel) (by decide +kernel) (off := 1031) (by decide +kernel) (by decide) ?_
        obtain ⟨r, τ', h1, h2, h3⟩ := O.2.2.2.2.2.2.2.2.2.2.2.2.2.2.2.2.2.2.2.2.2.2.2.2.2.2.2.2.2.1 σ τ hR (xs (i + 1))
        exact lc_rounds hC hi h1 h2 (next σ τ' o h3)
      · refine rb_l_tableIn hC 1096 dL_law_40 (by decide +kernel) (by decide +kernel) (off := 1056) (by decide +kernel) (by decide) ?_
        obtain ⟨r, σ', τ', h1, h2, h3⟩ := O.2.2.2.2.2.2.2.2.2.2.2.2.2.2.2.2.2.2.2.2.2.2.2.2.2.2.2.2.2.2.1 σ τ hR (xs (i + 1))
        exact lc_knot hC hi h1 h2 (next σ' τ' o h3)
      · refine rb_l_tableIn hC 1121 dL_law_40 (by decide +kernel) (by decide +kernel) (off := 1081) (by decide +kernel) (by decide) ?_
        obtain ⟨r, σ', τ', h1, h2, h3⟩ := O.2.2.2.2.2.2.2.2.2.2.2.2.2.2.2.2.2.2.2.2.2.2.2.2.2.2.2.2.2.2.2.1 σ τ hR (xs (i + 1)) (xs (i + 2))
        exact lc_same hC hi h1 h2 (next σ' τ' o h3)
      · refine rb_l_tableIn hC 1158 dL_law_40 (by decide +kernel) (by decide +kernel) (off := 1118) (by decide +kernel) (by decide) ?_
        obtain ⟨r, σ', τ', h1, h2, h3⟩ := O.2.2.2.2.2.2.2.2.2.2.2.2.2.2.2.2.2.2.2.2.2.2.2.2.2.2.2.2.2.2.2.2.1 σ τ hR (xs (i + 1)) (xs (i + 2))
        exact lc_nearest hC hi h1 h2 (next σ' τ' o h3)
      · refine rb_l_tableIn hC 1195 dL_law_40 (by decide +kernel) (by decide +kernel) (off := 1155) (by decide +kernel) (by decide) ?_
        obtain ⟨r, σ', τ', h1, h2, h3⟩ := O.2.2.2.2.2.2.2.2.2.2.2.2.2.2.2.2.2.2.2.2.2.2.2.2.2.2.2.2.2.2.2.2.2.1 σ τ hR (xs (i + 1))
        exact lc_times hC hi h1 h2 (next σ' τ' o h3)
      · refine rb_l_tableIn hC 1220 dL_law_40 (by decide +kernel) (by decide +kernel) (off := 1180) (by decide +kernel) (by decide) ?_
        obtain ⟨r, σ', τ', h1, h2, h3⟩ := O.2.2.2.2.2.2.2.2.2.2.2.2.2.2.2.2.2.2.2.2.2.2.2.2.2.2.2.2.2.2.2.2.2.2.1 σ τ hR (xs (i + 1)) (xs (i + 2)) (xs (i + 3)) (rb_zb (xs (i + 4))) (rb_zb_01 _)
        exact lc_seen hC hi h1 h2 (next σ' τ' o h3)
      · refine rb_l_tableIn hC 1297 dL_law_40 (by decide +kernel) (by decide +kernel) (off := 1257) (by decide +kernel) (by decide) ?_
        obtain ⟨r, τ', h1, h2, h3⟩ := O.2.2.2.2.2.2.2.2.2.2.2.2.2.2.2.2.2.2.2.2.2.2.2.2.2.2.2.2.2.2.2.2.2.2.2.1 σ τ hR 
        exact lc_fits hC hi h1 h2 (next σ τ' o h3)
      · refine rb_l_tableIn hC 1310 dL_law_40 (by decide +kernel) (by decide +kernel) (off := 1270) (by decide +kernel) (by decide) ?_
        obtain ⟨r, τ', h1, h2, h3⟩ := O.2.2.2.2.2.2.2.2.2.2.2.2.2.2.2.2.2.2.2.2.2.2.2.2.2.2.2.2.2.2.2.2.2.2.2.2.1 σ τ hR (xs (i + 1))
        exact lc_ask hC hi h1 h2 (next σ τ' o h3)
      · refine rb_l_tableIn hC 1335 dL_law_40 (by decide +kernel) (by decide +kernel) (off := 1295) (by decide +kernel) (by decide) ?_
        obtain ⟨r, σ', τ', h1, h2, h3⟩ := O.2.2.2.2.2.2.2.2.2.2.2.2.2.2.2.2.2.2.2.2.2.2.2.2.2.2.2.2.2.2.2.2.2.2.2.2.2.1 σ τ hR (xs (i + 1))
        exact lc_stripe hC hi h1 h2 (next σ' τ' o h3)
      · refine rb_l_tableIn hC 1360 dL_law_40 (by decide +kernel) (by decide +kernel) (off := 1320) (by decide +kernel) (by decide) ?_
        obtain ⟨r, σ', τ', h1, h2, h3⟩ := O.2.2.2.2.2.2.2.2.2.2.2.2.2.2.2.2.2.2.2.2.2.2.2.2.2.2.2.2.2.2.2.2.2.2.2.2.2.2.1 σ τ hR (xs (i + 1)) (xs (i + 2)) (xs (i + 3)) (xs (i + 4))
        exact lc_game hC hi h1 h2 (next σ' τ' o h3)
      · refine rb_l_tableIn hC 1421 dL_law_40 (by decide +kernel) (by decide +kernel) (off := 1381) (by decide +kernel) (by decide) ?_
        obtain ⟨r, σ', τ', h1, h2, h3⟩ := O.2.2.2.2.2.2.2.2.2.2.2.2.2.2.2.2.2.2.2.2.2.2.2.2.2.2.2.2.2.2.2.2.2.2.2.2.2.2.2.1 σ τ hR (xs (i + 1)) (xs (i + 2))
        exact lc_rests hC hi h1 h2 (next σ' τ' o h3)
      · refine rb_l_tableIn hC 1458 dL_law_40 (by decide +kernel) (by decide +kernel) (off := 1418) (by decide +kernel) (by decide) ?_
        obtain ⟨r, σ', τ', h1, h2, h3⟩ := O.2.2.2.2.2.2.2.2.2.2.2.2.2.2.2.2.2.2.2.2.2.2.2.2.2.2.2.2.2.2.2.2.2.2.2.2.2.2.2.2.1 σ τ hR (xs (i + 1)) (xs (i + 2)) (xs (i + 3))
        exact lc_odds hC hi h1 h2 (next σ' τ' o h3)
      · refine rb_l_tableIn hC 1507 dL_law_40 (by decide +kernel) (by decide +kernel) (off := 1467) (by decide +kernel) (by decide) ?_
        obtain ⟨r, h1, h2, h3⟩ := O.2.2.2.2.2.2.2.2.2.2.2.2.2.2.2.2.2.2.2.2.2.2.2.2.2.2.2.2.2.2.2.2.2.2.2.2.2.2.2.2.2.1 σ τ hR (xs (i + 1)) (xs (i + 2))
        exact lc_shares hC hi h1 h2 (next σ τ o h3)
      · refine rb_l_tableIn hC 1544 dL_law_40 (by decide +kernel) (by decide +kernel) (off := 1504) (by decide +kernel) (by decide) ?_
        obtain ⟨r, σ', τ', h1, h2, h3⟩ := O.2.2.2.2.2.2.2.2.2.2.2.2.2.2.2.2.2.2.2.2.2.2.2.2.2.2.2.2.2.2.2.2.2.2.2.2.2.2.2.2.2.2.1 σ τ hR (xs (i + 1))
        exact lc_most hC hi h1 h2 (next σ' τ' o h3)
      · refine rb_l_tableIn hC 1569 dL_law_40 (by decide +kernel) (by decide +kernel) (off := 1529) (by decide +kernel) (by decide) ?_
        obtain ⟨r, σ', τ', h1, h2, h3⟩ := O.2.2.2.2.2.2.2.2.2.2.2.2.2.2.2.2.2.2.2.2.2.2.2.2.2.2.2.2.2.2.2.2.2.2.2.2.2.2.2.2.2.2.2.1 σ τ hR 
        exact lc_image hC hi h1 h2 (next σ' τ' o h3)
      · refine rb_l_tableIn hC 1582 dL_law_40 (by decide +kernel) (by decide +kernel) (off := 1542) (by decide +kernel) (by decide) ?_
        obtain ⟨r, σ', τ', h1, h2, h3⟩ := O.2.2.2.2.2.2.2.2.2.2.2.2.2.2.2.2.2.2.2.2.2.2.2.2.2.2.2.2.2.2.2.2.2.2.2.2.2.2.2.2.2.2.2.2.1 σ τ hR 
        exact lc_back hC hi h1 h2 (next σ' τ' o h3)
      · refine rb_l_tableIn hC 1595 dL_law_40 (by decide +kernel) (by decide +kernel) (off := 1555) (by decide +kernel) (by decide) ?_
        obtain ⟨r, h1, h2, h3⟩ := O.2.2.2.2.2.2.2.2.2.2.2.2.2.2.2.2.2.2.2.2.2.2.2.2.2.2.2.2.2.2.2.2.2.2.2.2.2.2.2.2.2.2.2.2.2 σ τ hR (xs (i + 1))
        exact lc_count hC hi h1 h2 (next σ τ o h3)
    · refine rb_l_tableOut hC 1620 dL_law_40 (Or.inr (by rw [nI_toInt (by omega)]; omega)) (by decide) ?_
      exact next σ τ o hR
