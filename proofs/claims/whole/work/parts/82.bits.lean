/-! NUMBERS AND THEIR BITS -/
theorem rb_sl : ∀ n, n < 32 → ((nI n &&& 31).toBitVec.smod 32).toNat = n := by decide +kernel
theorem rb_an (a b : Nat) : nI a &&& nI b = nI (a &&& b) := by
  apply Int32.toBitVec_inj.mp
  show BitVec.ofNat 32 a &&& BitVec.ofNat 32 b = BitVec.ofNat 32 (a &&& b)
  apply BitVec.eq_of_getLsbD_eq
  intro i hi
  simp only [BitVec.getLsbD_and, BitVec.getLsbD_ofNat, Nat.testBit_and, hi, decide_true, Bool.true_and]
theorem rb_or (a b : Nat) : nI a ||| nI b = nI (a ||| b) := by
  apply Int32.toBitVec_inj.mp
  show BitVec.ofNat 32 a ||| BitVec.ofNat 32 b = BitVec.ofNat 32 (a ||| b)
  apply BitVec.eq_of_getLsbD_eq
  intro i hi
  simp only [BitVec.getLsbD_or, BitVec.getLsbD_ofNat, Nat.testBit_or, hi, decide_true, Bool.true_and]
theorem rb_xr (a b : Nat) : nI a ^^^ nI b = nI (a ^^^ b) := by
  apply Int32.toBitVec_inj.mp
  show BitVec.ofNat 32 a ^^^ BitVec.ofNat 32 b = BitVec.ofNat 32 (a ^^^ b)
  apply BitVec.eq_of_getLsbD_eq
  intro i hi
  simp only [BitVec.getLsbD_xor, BitVec.getLsbD_ofNat, Nat.testBit_xor, hi, decide_true, Bool.true_and]
theorem rb_shr {a s : Nat} (ha : a < 2 ^ 31) (hs : s < 32) : nI a >>> (nI s &&& 31) = nI (a / 2 ^ s) := by
  apply Int32.toBitVec_inj.mp
  have e : (nI a >>> (nI s &&& 31)).toBitVec = (BitVec.ofNat 32 a).sshiftRight (((nI s &&& 31).toBitVec.smod 32).toNat) := rfl
  have hm : (BitVec.ofNat 32 a).msb = false := by
    rw [BitVec.msb_eq_false_iff_two_mul_lt, BitVec.toNat_ofNat, Nat.mod_eq_of_lt (by omega)]
    omega
  have hd : a / 2 ^ s ≤ a := Nat.div_le_self _ _
  rw [e, rb_sl s hs, BitVec.sshiftRight_eq_of_msb_false hm]
  apply BitVec.eq_of_toNat_eq
  show (BitVec.ofNat 32 a >>> s).toNat = (BitVec.ofNat 32 (a / 2 ^ s)).toNat
  rw [BitVec.toNat_ushiftRight, BitVec.toNat_ofNat, BitVec.toNat_ofNat, Nat.mod_eq_of_lt (by omega), Nat.mod_eq_of_lt (by omega), Nat.shiftRight_eq_div_pow]
theorem rb_shl {a s : Nat} (hs : s < 32) : nI a <<< (nI s &&& 31) = nI (a * 2 ^ s) := by
  apply Int32.toBitVec_inj.mp
  have e : (nI a <<< (nI s &&& 31)).toBitVec = (BitVec.ofNat 32 a) <<< (((nI s &&& 31).toBitVec.smod 32).toNat) := rfl
  rw [e, rb_sl s hs]
  apply BitVec.eq_of_toNat_eq
  show (BitVec.ofNat 32 a <<< s).toNat = (BitVec.ofNat 32 (a * 2 ^ s)).toNat
  rw [BitVec.toNat_shiftLeft, BitVec.toNat_ofNat, BitVec.toNat_ofNat, Nat.shiftLeft_eq, Nat.mod_mul_mod]
theorem rb_mask (a k : Nat) : nI a &&& nI (2 ^ k - 1) = nI (a % 2 ^ k) := by rw [rb_an, Nat.and_two_pow_sub_one_eq_mod]
theorem rb_1l {s : Nat} (hs : s < 32) : (1 : Int32) <<< (nI s &&& 31) = nI (2 ^ s) := by
  have := rb_shl (a := 1) hs
  rw [Nat.one_mul] at this
  exact this
theorem rb_bit {a s : Nat} (ha : a < 2 ^ 31) (hs : s < 32) : (nI a >>> (nI s &&& 31)) &&& 1 = nI (a / 2 ^ s % 2) := by
  rw [rb_shr ha hs]
  exact rb_mask (a / 2 ^ s) 1
theorem rb_bit0 {a s : Nat} (ha : a < 2 ^ 31) (hs : s < 32) : (nI a >>> (nI s &&& 31)) &&& 1 = 0 ↔ a.testBit s = false := by
  rw [rb_bit ha hs, Nat.testBit_eq_decide_div_mod_eq, ← nI_0, nI_eq (by omega) (by decide)]
  constructor
  · intro h; rw [h]; rfl
  · intro h
    have h1 := of_decide_eq_false h
    omega
/-- a crossing in one number -/
def rb_pk (a b c d e : Nat) : Nat := a + 16 * b + 128 * c + 1024 * d + 16384 * e
theorem rb_pk_lt {a b c d e : Nat} (ha : a < 16) (hb : b < 8) (hc : c < 8) (hd : d < 16) (he : e < 64) : rb_pk a b c d e < 2 ^ 20 := by unfold rb_pk; omega
theorem rb_pk_letter {a b c d e : Nat} (ha : a < 16) (hb : b < 8) (hc : c < 8) (hd : d < 16) (he : e < 64) (σ : rb_St) : xf_Pole_letterIn (nI (rb_pk a b c d e)) σ = nI a := by
  have h := rb_mask (rb_pk a b c d e) 4
  unfold xf_Pole_letterIn
  refine h.trans ?_
  congr 1
  unfold rb_pk
  omega
theorem rb_pk_place {a b c d e : Nat} (ha : a < 16) (hb : b < 8) (hc : c < 8) (hd : d < 16) (he : e < 64) (σ : rb_St) : xf_Pole_placeIn (nI (rb_pk a b c d e)) σ = nI (a / 2) := by
  have hl := rb_pk_lt ha hb hc hd he
  have h := rb_mask (rb_pk a b c d e / 2 ^ 1) 3
  rw [← rb_shr (s := 1) (by omega) (by decide)] at h
  unfold xf_Pole_placeIn
  refine h.trans ?_
  congr 1
  unfold rb_pk
  omega
theorem rb_pk_over {a b c d e : Nat} (ha : a < 16) (hb : b < 8) (hc : c < 8) (hd : d < 16) (he : e < 64) (σ : rb_St) : xf_Pole_overIn (nI (rb_pk a b c d e)) σ = nI b := by
  have hl := rb_pk_lt ha hb hc hd he
  have h := rb_mask (rb_pk a b c d e / 2 ^ 4) 3
  rw [← rb_shr (s := 4) (by omega) (by decide)] at h
  unfold xf_Pole_overIn
  refine h.trans ?_
  congr 1
  unfold rb_pk
  omega
theorem rb_pk_under {a b c d e : Nat} (ha : a < 16) (hb : b < 8) (hc : c < 8) (hd : d < 16) (he : e < 64) (σ : rb_St) : xf_Pole_underIn (nI (rb_pk a b c d e)) σ = nI c := by
  have hl := rb_pk_lt ha hb hc hd he
  have h := rb_mask (rb_pk a b c d e / 2 ^ 7) 3
  rw [← rb_shr (s := 7) (by omega) (by decide)] at h
  unfold xf_Pole_underIn
  refine h.trans ?_
  congr 1
  unfold rb_pk
  omega
theorem rb_pk_took {a b c d e : Nat} (ha : a < 16) (hb : b < 8) (hc : c < 8) (hd : d < 16) (he : e < 64) (σ : rb_St) : xf_Pole_tookIn (nI (rb_pk a b c d e)) σ = nI d := by
  have hl := rb_pk_lt ha hb hc hd he
  have h := rb_mask (rb_pk a b c d e / 2 ^ 10) 4
  rw [← rb_shr (s := 10) (by omega) (by decide)] at h
  unfold xf_Pole_tookIn
  refine h.trans ?_
  congr 1
  unfold rb_pk
  omega
theorem rb_pk_layer {a b c d e : Nat} (ha : a < 16) (hb : b < 8) (hc : c < 8) (hd : d < 16) (he : e < 64) (σ : rb_St) : xf_Pole_layerIn (nI (rb_pk a b c d e)) σ = nI e := by
  have hl := rb_pk_lt ha hb hc hd he
  have h := rb_mask (rb_pk a b c d e / 2 ^ 14) 6
  rw [← rb_shr (s := 14) (by omega) (by decide)] at h
  unfold xf_Pole_layerIn
  refine h.trans ?_
  congr 1
  unfold rb_pk
  omega
