/-! NEAREST, the class: ends, crossings, sets that go back -/
def af_pv (n a : Nat) : Nat := (af_ab (((a : Int) - 20) / n + 1)).toNat
def af_jd (n a : Nat) : Option Int32 := rb_b1 (xf_JM_floorDiv (Int32.ofInt ((a : Int) - 20)) (nI n) sp_s0) fun r => some (if 0 ≤ (r + 1) then (r + 1) else 0 - (r + 1))
theorem af_jd_ok : ∀ n, n < 8 → 0 < n → ∀ a, a < 41 → af_jd n a = some (nI (af_pv n a)) := by decide +kernel
theorem af_jm_ok : ∀ n, n < 8 → 0 < n → ∀ g, g < 8 → ∀ i, i < 8 → xf_JM_floorMod (nI g - nI i) (nI n) sp_s0 = some (nI ((g + 8 * n - i) % n)) := by decide +kernel
def af_bc (x : Nat) : Nat := rb_fo (fun i a => a + if x.testBit i = true then 1 else 0) 0 7
theorem af_bc_ok : ∀ x, x < 128 → xf_JI_bitCount (nI x) sp_s0 = nI (af_bc x) := by decide +kernel
theorem af_7_ok : ∀ w, w < 8 → nI w &&& 7 = nI w := by decide +kernel
theorem af_sh_ok : ∀ n, n < 8 → (1 : Int32) <<< (nI n &&& 31) = nI (2 ^ n) := by decide +kernel
theorem af_nI (x : Nat) : nI x = Int32.ofInt x := rfl
def af_sN (n : Nat) (g : Nat → Nat) (i : Nat) : Nat := (g i + 8 * n - i) % n
theorem af_sN_sd {n : Nat} {g : Nat → Nat} {i : Nat} (hn : 0 < n) (h7 : n ≤ 7) (hi : i < n) : (af_sN n g i : Int) = af_sd n g i := by
  unfold af_sN af_sd
  rw [Int.natCast_emod, show ((g i + 8 * n - i : Nat) : Int) = ((g i : Int) - i) + n * 8 by omega, Int.add_mul_emod_self_left]
theorem af_sN_lt {n : Nat} {g : Nat → Nat} {i : Nat} (hn : 0 < n) : af_sN n g i < n := Nat.mod_lt _ hn
/-- the end of one whose set is x -/
def af_E (n : Nat) (g : Nat → Nat) (x i : Nat) : Int := i + af_sd n g i - (if x.testBit i = true then (n : Int) else 0)
def WX (n : Nat) (g : Nat → Nat) (σ : rb_St) : Prop := σ.1 236 0 = nI n ∧ ∀ i, i < n → σ.1 239 i = nI (af_sN n g i)
section AFW
variable {n : Nat} {g : Nat → Nat} {σ : rb_St}
theorem sx_endOf (h3 : 3 ≤ n) (h7 : n ≤ 7) (Wx : WX n g σ) {x i : Nat} (hx : x < 128) (hi : i < n) : xf_Way_endOf (nI i) (nI x) σ = some (Int32.ofInt (af_E n g x i)) := by
  have s1 := af_sN_sd (g := g) (show 0 < n by omega) h7 hi
  unfold xf_Way_endOf af_E
  rw [rb_ib_nI (by omega) (by decide), if_pos rfl, nI_clamp (by omega), Wx.2 i hi, Wx.1, nI_add]
  have hb := rb_bitn (a := x) (s := i) (by omega) (by omega)
  by_cases q : x.testBit i = true
  · have hne : ¬ ((nI x >>> (nI i &&& 31)) &&& 1) = 0 := fun w => by
      have := hb.2 q
      rw [w] at this; exact absurd this (by decide)
    rw [if_neg hne, if_pos q, af_nI, af_nI, ← Int32.ofInt_sub]
    congr 2
    omega
  · have h0 : ((nI x >>> (nI i &&& 31)) &&& 1) = 0 := by
      have nb : ¬ ((nI x >>> (nI i &&& 31)) &&& 1) = 1 := fun w => q (hb.1 w)
      rw [rb_bit (show x < 2 ^ 31 by omega) (show i < 32 by omega)] at nb ⊢
      rw [rb_l1, nI_eq (by omega) (by decide)] at nb
      rw [rb_l0, nI_eq (by omega) (by decide)]
      omega
    rw [if_pos h0, if_neg q, Int32.sub_zero, af_nI]
    congr 2
    omega
theorem af_E_rng (h3 : 3 ≤ n) {x i : Nat} (hi : i < n) : (i : Int) - n ≤ af_E n g x i ∧ af_E n g x i < i + n := by
  have a := Int.emod_nonneg ((g i : Int) - i) (show (n : Int) ≠ 0 by omega)
  have b := Int.emod_lt_of_pos ((g i : Int) - i) (show (0 : Int) < n by omega)
  unfold af_E af_sd
  split <;> omega
theorem sx_pair (h3 : 3 ≤ n) (h7 : n ≤ 7) (Wx : WX n g σ) {x i j : Nat} (hi : i < n) (hj : j < n) (hij : i < j) : (rb_b1 (xf_JM_floorDiv (Int32.ofInt (af_E n g x i) - Int32.ofInt (af_E n g x j)) (σ.1 236 0) σ) fun r8 => some (if 0 ≤ (r8 + 1) then (r8 + 1) else 0 - (r8 + 1))) = some (nI (af_w n (af_E n g x) i j).toNat) := by
  have r1 := af_E_rng (g := g) (x := x) h3 hi
  have r2 := af_E_rng (g := g) (x := x) h3 hj
  obtain ⟨a, ha⟩ : ∃ a : Nat, (a : Int) = af_E n g x i - af_E n g x j + 20 := ⟨(af_E n g x i - af_E n g x j + 20).toNat, by omega⟩
  have e1 : Int32.ofInt (af_E n g x i) - Int32.ofInt (af_E n g x j) = Int32.ofInt ((a : Int) - 20) := by rw [← Int32.ofInt_sub]; congr 1; omega
  have k := af_jd_ok n (by omega) (by omega) a (by omega)
  rw [e1, Wx.1]
  have k' : (rb_b1 (xf_JM_floorDiv (Int32.ofInt ((a : Int) - 20)) (nI n) σ) fun r => some (if 0 ≤ (r + 1) then (r + 1) else 0 - (r + 1))) = some (nI (af_pv n a)) := k
  rw [k']
  unfold af_pv af_w
  rw [if_pos hij, show (a : Int) - 20 = af_E n g x i - af_E n g x j by omega]
end AFW
