/-! THE OLDEST ACT GOES (the reference) -/
theorem sm_keeps (σ : rb_St) : xl_M_keep_13 rb_FU 398 σ = some (rb_sf 22 398 0 σ 15522) := by
  refine rb_ups (fun f s x => xl_M_keep_13 f x s) (fun q => rb_sf 22 398 0 σ (q - 398)) 398 15920 (some (rb_sf 22 398 0 σ 15522)) (fun f q h1 h2 => ?_) (fun f => ?_) rb_FU 398 (Nat.le_refl _) (by decide) (by unfold rb_FU; omega)
  · have e : nI q - 398 = nI (q - 398) := by
      have e1 : nI q = nI (q - 398) + nI 398 := by rw [nI_add]; congr 1; omega
      rw [e1]
      exact Int32.add_sub_cancel _ _
    show (if 15920 ≤ nI q then _ else if rb_ib (nI q) 15920 then if rb_ib (nI q - 398) 15920 then rb_lt (rb_sI (rb_sf 22 398 0 σ (q - 398)) 22 (nI q - 398).toNatClampNeg ((rb_sf 22 398 0 σ (q - 398)).1 22 (nI q).toNatClampNeg)) (fun s14 => xl_M_keep_13 f (nI q + 1) s14) else none else none) = xl_M_keep_13 f (nI (q + 1)) (rb_sf 22 398 0 σ (q + 1 - 398))
    rw [if_neg (show ¬ (15920 : Int32) ≤ nI q from nI_ge (b := 15920) h2 (by decide)), rb_ib_nI h2 (by decide), if_pos rfl, e, rb_ib_nI (by omega) (by decide), if_pos rfl, nI_clamp (by omega), nI_clamp (by omega), rb_lt_eq, nI_1, show q + 1 - 398 = (q - 398) + 1 by omega]
    show _ = xl_M_keep_13 f (nI (q + 1)) (rb_sI (rb_sf 22 398 0 σ (q - 398)) 22 (0 + (q - 398)) ((rb_sf 22 398 0 σ (q - 398)).1 22 (0 + (q - 398) + 398)))
    rw [show 0 + (q - 398) + 398 = q by omega, Nat.zero_add]
  · show (if 15920 ≤ nI 15920 then some (rb_sf 22 398 0 σ (15920 - 398)) else _) = _
    rw [if_pos (by decide)]
