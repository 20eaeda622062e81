/-! WHO IS BOUND TO WHOM -/
def sp_os (cr : Nat → Nat → Nat) (a b m : Nat) : Nat := rb_fo (fun i s => if cr i 1 = a ∧ cr i 2 = b then s + 1 else s) 0 m
theorem rb_d1 (x y : Int32) : x + 1 - y = x - y + 1 := by
  apply Int32.toBitVec_inj.mp
  show x.toBitVec + 1#32 - y.toBitVec = x.toBitVec - y.toBitVec + 1#32
  bv_omega
theorem rb_d2 (x y : Int32) : x - (y + 1) = x - y + (-1) := by
  apply Int32.toBitVec_inj.mp
  show x.toBitVec - (y.toBitVec + 1#32) = x.toBitVec - y.toBitVec + 4294967295#32
  bv_omega
section RBQ
variable {n m k : Nat} {cr : Nat → Nat → Nat} {σ : rb_St}
theorem sx_oversOf (W : rb_wfc n m cr) (h : rx_cr k m cr σ) {a b : Nat} (ha : a < 2 ^ 31) (hb : b < 2 ^ 31) : xf_Pole_oversOf k (nI a) (nI b) σ = some (nI (sp_os cr a b m)) := by
  have hm := W.2.1
  have w1 := W.1
  have h1 : xl_Pole_oversOf_5 k (nI a) (nI b) σ rb_FU 0 0 = some (nI (sp_os cr a b m)) := by
    refine rb_up0 (xl_Pole_oversOf_5 k (nI a) (nI b) σ) (fun i => nI (sp_os cr a b i)) m (some (nI (sp_os cr a b m))) (by omega) (fun q i hi => ?_) (fun q => ?_)
    · show (if σ.1 k 1 ≤ nI i then _ else if rb_ib (nI i) 48 then if (xf_Pole_overIn (σ.1 (k + 3) (nI i).toNatClampNeg) σ) = nI a then if (xf_Pole_underIn (σ.1 (k + 3) (nI i).toNatClampNeg) σ) = nI b then xl_Pole_oversOf_5 k (nI a) (nI b) σ q (nI (sp_os cr a b i) + 1) (nI i + 1) else xl_Pole_oversOf_5 k (nI a) (nI b) σ q (nI (sp_os cr a b i)) (nI i + 1) else xl_Pole_oversOf_5 k (nI a) (nI b) σ q (nI (sp_os cr a b i)) (nI i + 1) else none) = xl_Pole_oversOf_5 k (nI a) (nI b) σ q (nI (if cr i 1 = a ∧ cr i 2 = b then sp_os cr a b i + 1 else sp_os cr a b i)) (nI (i + 1))
      obtain ⟨f0, f1, f2, f3, f4, f5, f6⟩ := rx_f W h hi
      obtain ⟨_, c1, c2, _, _⟩ := W.2.2 i hi
      rw [h.1, if_neg (nI_ge hi (by omega)), f0, if_pos rfl, f2, f3, nI_1, nI_1]
      by_cases g1 : cr i 1 = a
      · rw [if_pos (by rw [g1])]
        by_cases g2 : cr i 2 = b
        · rw [if_pos (by rw [g2]), if_pos ⟨g1, g2⟩]
        · rw [if_neg (fun e => g2 ((nI_eq (by omega) hb).mp e)), if_neg (fun w => g2 w.2)]
      · rw [if_neg (fun e => g1 ((nI_eq (by omega) ha).mp e)), if_neg (fun w => g1 w.1)]
    · show (if σ.1 k 1 ≤ nI m then _ else _) = _
      rw [h.1, if_pos (nI_le (Nat.le_refl m) (by omega))]
  unfold xf_Pole_oversOf
  rw [h1, rb_b1_some]
theorem sm_boundl (W : rb_wfc n m cr) (h : rm_cr m cr (σ.1 17)) {a b : Nat} (ha : a < 2 ^ 31) (hb : b < 2 ^ 31) (hab : a ≠ b) : xl_M_bound_30 (nI a) (nI b) σ rb_FU 0 0 = some (nI (sp_os cr a b m) - nI (sp_os cr b a m)) := by
  have hm := W.2.1
  have w1 := W.1
  have e0 : nI (sp_os cr a b 0) - nI (sp_os cr b a 0) = 0 := (by decide : nI 0 - nI 0 = 0)
  suffices key : xl_M_bound_30 (nI a) (nI b) σ rb_FU (nI (sp_os cr a b 0) - nI (sp_os cr b a 0)) 0 = some (nI (sp_os cr a b m) - nI (sp_os cr b a m)) by rw [e0] at key; exact key
  refine rb_up0 (xl_M_bound_30 (nI a) (nI b) σ) (fun i => nI (sp_os cr a b i) - nI (sp_os cr b a i)) m (some (nI (sp_os cr a b m) - nI (sp_os cr b a m))) (by omega) (fun q i hi => ?_) (fun q => ?_)
  · show (if σ.1 17 14 ≤ nI i then _ else rb_b1 (xf_M_of (nI i) 1 σ) fun r9 => if r9 = nI a then rb_b1 (xf_M_of (nI i) 2 σ) (fun r18 => if r18 = nI b then xl_M_bound_30 (nI a) (nI b) σ q (nI (sp_os cr a b i) - nI (sp_os cr b a i) + 1) (nI i + 1) else xj_M_bound_69 (fun b3 b4 => xl_M_bound_30 (nI a) (nI b) σ q b3 b4) (nI a) (nI b) (nI i) (nI (sp_os cr a b i) - nI (sp_os cr b a i)) σ) else xj_M_bound_69 (fun b3 b4 => xl_M_bound_30 (nI a) (nI b) σ q b3 b4) (nI a) (nI b) (nI i) (nI (sp_os cr a b i) - nI (sp_os cr b a i)) σ) = xl_M_bound_30 (nI a) (nI b) σ q (nI (if cr i 1 = a ∧ cr i 2 = b then sp_os cr a b i + 1 else sp_os cr a b i) - nI (if cr i 1 = b ∧ cr i 2 = a then sp_os cr b a i + 1 else sp_os cr b a i)) (nI (i + 1))
    obtain ⟨_, c1, c2, _, _⟩ := W.2.2 i hi
    unfold xj_M_bound_69
    rw [h.2.1, if_neg (nI_ge hi (by omega)), rm_of (x := 1) h hi 1 (by decide) rfl, rm_of (x := 2) h hi 2 (by decide) rfl, rb_b1_some, rb_b1_some, rb_b1_some, rb_b1_some, Int32.add_zero, nI_1]
    by_cases g1 : cr i 1 = a
    · have n1 : ¬ cr i 1 = b := fun e => hab (g1.symm.trans e)
      rw [if_pos (by rw [g1]), if_neg (fun e => n1 ((nI_eq (by omega) hb).mp e)), if_neg (fun w : cr i 1 = b ∧ cr i 2 = a => n1 w.1)]
      by_cases g2 : cr i 2 = b
      · rw [if_pos (by rw [g2]), if_pos ⟨g1, g2⟩, ← nI_1 (sp_os cr a b i), rb_d1]
      · rw [if_neg (fun e => g2 ((nI_eq (by omega) hb).mp e)), if_neg (fun w => g2 w.2)]
    · rw [if_neg (fun e => g1 ((nI_eq (by omega) ha).mp e)), if_neg (fun w : cr i 1 = a ∧ cr i 2 = b => g1 w.1)]
      by_cases g3 : cr i 1 = b
      · rw [if_pos (by rw [g3])]
        by_cases g4 : cr i 2 = a
        · rw [if_pos (by rw [g4]), if_pos ⟨g3, g4⟩, ← nI_1 (sp_os cr b a i), rb_d2]
        · rw [if_neg (fun e => g4 ((nI_eq (by omega) ha).mp e)), if_neg (fun w => g4 w.2)]
      · rw [if_neg (fun e => g3 ((nI_eq (by omega) hb).mp e)), if_neg (fun w => g3 w.1)]
  · show (if σ.1 17 14 ≤ nI m then _ else _) = _
    rw [h.2.1, if_pos (nI_le (Nat.le_refl m) (by omega))]
end RBQ
