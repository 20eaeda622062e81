theorem rb_sh8 (j : Nat) (hj : j < 3) : nI (24 - 8 * j) + (-8) = nI (24 - 8 * (j + 1)) := by
  have : j = 0 ∨ j = 1 ∨ j = 2 := by omega
  rcases this with rfl | rfl | rfl <;> decide
theorem sx_by1 (p : Int32) (σ : rb_St) (n j : Nat) (hj : j < 4) (a : Int32) : xl_Tape_bytesIn_5 p σ (n + 1) a (nI (24 - 8 * j)) = xl_Tape_bytesIn_5 p σ n (if rb_by p j = 0 then a else a + 1) (nI (24 - 8 * j) + (-8)) := by
  show (if nI (24 - 8 * j) < 0 then _ else if (((p.toUInt32 >>> ((nI (24 - 8 * j)).toUInt32 &&& Int32.toUInt32 31)).toInt32) &&& 255) = 0 then _ else _) = _
  rw [if_neg (nI_pos (by omega)), rb_byX p j hj]
  by_cases h : rb_by p j = 0
  · rw [if_pos h, if_pos h]
  · rw [if_neg h, if_neg h]
theorem rb_nzs (b : Nat → Int32) (k : Nat) : (if b k = 0 then nI (rb_nz b k) else nI (rb_nz b k) + 1) = nI (rb_nz b (k + 1)) := by
  show _ = nI (if b k = 0 then _ else _)
  by_cases h : b k = 0
  · rw [if_pos h, if_pos h]
  · rw [if_neg h, if_neg h, nI_1]
theorem sx_bytesIn (p : Int32) (σ : rb_St) : xf_Tape_bytesIn p σ = some (nI (rb_nz (rb_by p) 4)) := by
  have h : xl_Tape_bytesIn_5 p σ rb_FU 0 24 = some (nI (rb_nz (rb_by p) 4)) := by
    show xl_Tape_bytesIn_5 p σ (99999 + 1) (nI (rb_nz (rb_by p) 0)) (nI (24 - 8 * 0)) = _
    rw [sx_by1 p σ 99999 0 (by decide), rb_nzs, rb_sh8 0 (by decide)]
    rw [show (99999 : Nat) = 99998 + 1 from rfl, sx_by1 p σ 99998 1 (by decide), rb_nzs, rb_sh8 1 (by decide)]
    rw [show (99998 : Nat) = 99997 + 1 from rfl, sx_by1 p σ 99997 2 (by decide), rb_nzs, rb_sh8 2 (by decide)]
    rw [show (99997 : Nat) = 99996 + 1 from rfl, sx_by1 p σ 99996 3 (by decide), rb_nzs]
    show (if nI (24 - 8 * 3) + (-8) < 0 then _ else _) = _
    rw [if_pos (by decide)]
  unfold xf_Tape_bytesIn
  rw [h, rb_b1_some]
theorem sx_ad1 (p : Int32) (s : rb_St) (q : Nat) (h : s.1 1 1 = nI q) (n j : Nat) (hj : j < 4) (hq : q + rb_nz (rb_by p) (j + 1) ≤ 240) : xl_Tape_add_3 p (n + 1) (nI (24 - 8 * j)) (rb_pu 2 1 1 (rb_by p) q s j) = xl_Tape_add_3 p n (nI (24 - 8 * j) + (-8)) (rb_pu 2 1 1 (rb_by p) q s (j + 1)) := by
  have hz := rb_pu_size (c := 2) (d := 1) (e := 1) (by decide) (b := rb_by p) h j
  show (if nI (24 - 8 * j) < 0 then _ else rb_lt ((((p.toUInt32 >>> ((nI (24 - 8 * j)).toUInt32 &&& Int32.toUInt32 31)).toInt32) &&& 255)) _) = xl_Tape_add_3 p n (nI (24 - 8 * j) + (-8)) (if rb_by p j = 0 then _ else _)
  rw [if_neg (nI_pos (by omega)), rb_byX p j hj, rb_lt_eq]
  have e : rb_nz (rb_by p) (j + 1) = if rb_by p j = 0 then rb_nz (rb_by p) j else rb_nz (rb_by p) j + 1 := rfl
  by_cases h0 : rb_by p j = 0
  · rw [if_pos h0, if_pos h0]
  · rw [if_neg h0] at e
    have hl : q + rb_nz (rb_by p) j < 240 := by omega
    rw [if_neg h0, if_neg h0, hz, if_neg (show ¬ (240 : Int32) ≤ nI (q + rb_nz (rb_by p) j) from nI_ge (b := 240) hl (by decide)), rb_ib_nI hl (by decide), if_pos rfl, nI_clamp (by omega), rb_lt_eq, rb_lt_eq, rb_sI_row _ 2 _ _ 1 (by decide), hz, nI_1]
theorem sx_add (p : Int32) (s : rb_St) (q : Nat) (h : s.1 1 1 = nI q) (hq : q + rb_nz (rb_by p) 4 ≤ 240) : xf_Tape_add p s = some (rb_pu 2 1 1 (rb_by p) q s 4) := by
  have m1 : rb_nz (rb_by p) (0 + 1) ≤ rb_nz (rb_by p) 4 := rb_nz_mono (rb_by p) 1 4 (by decide)
  have m2 : rb_nz (rb_by p) (1 + 1) ≤ rb_nz (rb_by p) 4 := rb_nz_mono (rb_by p) 2 4 (by decide)
  have m3 : rb_nz (rb_by p) (2 + 1) ≤ rb_nz (rb_by p) 4 := rb_nz_mono (rb_by p) 3 4 (by decide)
  have h4 : xl_Tape_add_3 p rb_FU 24 s = some (rb_pu 2 1 1 (rb_by p) q s 4) := by
    show xl_Tape_add_3 p (99999 + 1) (nI (24 - 8 * 0)) (rb_pu 2 1 1 (rb_by p) q s 0) = _
    rw [sx_ad1 p s q h 99999 0 (by decide) (by omega), rb_sh8 0 (by decide)]
    rw [show (99999 : Nat) = 99998 + 1 from rfl, sx_ad1 p s q h 99998 1 (by decide) (by omega), rb_sh8 1 (by decide)]
    rw [show (99998 : Nat) = 99997 + 1 from rfl, sx_ad1 p s q h 99997 2 (by decide) (by omega), rb_sh8 2 (by decide)]
    rw [show (99997 : Nat) = 99996 + 1 from rfl, sx_ad1 p s q h 99996 3 (by decide) (by omega)]
    show (if nI (24 - 8 * 3) + (-8) < 0 then some _ else _) = _
    rw [if_pos (by decide)]
  unfold xf_Tape_add
  rw [h4, rb_b1_some]
theorem sx_feed {m : Nat} {t : Nat → Int32} {σ : rb_St} (h : rx_tape m t σ) (hm : m ≤ 240) (p0 p1 p2 p3 p4 : Int32) : xf_RP_feed p0 p1 p2 p3 p4 σ = if m + rb_nz (rb_b20 p0 p1 p2 p3 p4) 20 ≤ 240 then some (nI (m + rb_nz (rb_b20 p0 p1 p2 p3 p4) 20), rb_pu 2 1 1 (rb_b20 p0 p1 p2 p3 p4) m σ 20) else some (-1, σ) := by
  obtain ⟨b, hb⟩ : ∃ b, b = rb_b20 p0 p1 p2 p3 p4 := ⟨_, rfl⟩
  have c0 : ∀ j, j < 4 → rb_by p0 j = b j := fun j hj => by rw [hb]; show _ = rb_by (rb_se p0 p1 p2 p3 p4 (j / 4)) (j % 4); rw [Nat.div_eq_of_lt hj, Nat.mod_eq_of_lt hj]; rfl
  have cq : ∀ (q : Nat) (p : Int32), rb_se p0 p1 p2 p3 p4 q = p → ∀ j, j < 4 → rb_by p j = b (4 * q + j) := fun q p hp j hj => by
    rw [hb]
    show _ = rb_by (rb_se p0 p1 p2 p3 p4 ((4 * q + j) / 4)) ((4 * q + j) % 4)
    rw [show (4 * q + j) / 4 = q by omega, show (4 * q + j) % 4 = j by omega, hp]
  have nq : ∀ (q : Nat) (p : Int32), rb_se p0 p1 p2 p3 p4 q = p → rb_nz b (4 * q + 4) = rb_nz b (4 * q) + rb_nz (rb_by p) 4 := fun q p hp => by
    rw [rb_nz_add, rb_nz_congr 4 (cq q p hp)]
  have n0 := nq 0 p0 rfl
  have n1 := nq 1 p1 rfl
  have n2 := nq 2 p2 rfl
  have n3 := nq 3 p3 rfl
  have n4 := nq 4 p4 rfl
  have z0 : rb_nz b (4 * 0) = 0 := rfl
  have hn := rb_nz_le b 20
  have hz : ∀ k, (rb_pu 2 1 1 b m σ k).1 1 1 = nI (m + rb_nz b k) := rb_pu_size (c := 2) (d := 1) (e := 1) (by decide) h.1
  unfold xf_RP_feed
  rw [sx_bytesIn, sx_bytesIn, sx_bytesIn, sx_bytesIn, sx_bytesIn, rb_b1_some, rb_b1_some, rb_b1_some, rb_b1_some, rb_b1_some, h.1, nI_add, nI_add, nI_add, nI_add, nI_add, ← hb]
  have es : m + (rb_nz (rb_by p0) 4 + rb_nz (rb_by p1) 4 + rb_nz (rb_by p2) 4 + rb_nz (rb_by p3) 4 + rb_nz (rb_by p4) 4) = m + rb_nz b 20 := by
    have : rb_nz b 20 = rb_nz b (4 * 4 + 4) := rfl
    have e1 : rb_nz b (4 * 0 + 4) = rb_nz b (4 * 1) := rfl
    have e2 : rb_nz b (4 * 1 + 4) = rb_nz b (4 * 2) := rfl
    have e3 : rb_nz b (4 * 2 + 4) = rb_nz b (4 * 3) := rfl
    have e4 : rb_nz b (4 * 3 + 4) = rb_nz b (4 * 4) := rfl
    omega
  rw [es]
  by_cases hc : m + rb_nz b 20 ≤ 240
  · rw [if_pos (show nI (m + rb_nz b 20) ≤ (240 : Int32) from nI_le (b := 240) hc (by decide)), if_pos hc]
    have step : ∀ (q : Nat) (p : Int32), q < 5 → rb_se p0 p1 p2 p3 p4 q = p → xf_Tape_add p (rb_pu 2 1 1 b m σ (4 * q)) = some (rb_pu 2 1 1 b m σ (4 * q + 4)) := by
      intro q p hq hp
      have mo := rb_nz_mono b (4 * q + 4) 20 (by omega)
      have e := nq q p hp
      rw [sx_add p _ (m + rb_nz b (4 * q)) (hz _) (by omega), rb_pu_add, rb_pu_congr 4 (cq q p hp)]
    have s0 := step 0 p0 (by decide) rfl
    have s1 := step 1 p1 (by decide) rfl
    have s2 := step 2 p2 (by decide) rfl
    have s3 := step 3 p3 (by decide) rfl
    have s4 := step 4 p4 (by decide) rfl
    have s0 : xf_Tape_add p0 σ = some (rb_pu 2 1 1 b m σ (4 * 1)) := s0
    rw [s0, rb_b1_some, s1, rb_b1_some]
    show rb_b1 (xf_Tape_add p2 (rb_pu 2 1 1 b m σ (4 * 2))) _ = _
    rw [s2, rb_b1_some]
    show rb_b1 (xf_Tape_add p3 (rb_pu 2 1 1 b m σ (4 * 3))) _ = _
    rw [s3, rb_b1_some]
    show rb_b1 (xf_Tape_add p4 (rb_pu 2 1 1 b m σ (4 * 4))) _ = _
    rw [s4, rb_b1_some, hz]
  · rw [if_neg (show ¬ nI (m + rb_nz b 20) ≤ (240 : Int32) from nI_ge (b := m + rb_nz b 20) (a := 240) (by omega) (by omega)), if_neg hc]
