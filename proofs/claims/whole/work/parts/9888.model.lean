/-! the reference's constructor makes the reference's world -/
section ALM
variable {cy : Nat → ClassId} {ad : Nat → Nat}
theorem rb_s0Mr {k : Nat} (h : k ≠ 0) : rb_s0M.1 k = fun _ => 0 := by
  funext i
  simp [rb_s0M, h]
set_option maxHeartbeats 4000000 in
set_option maxRecDepth 100000 in
theorem am_0 : rb_cel cy ad (rb_vM.1 0) (rb_s0M.1 0) rb_s0M.2 = .inr (11, [.int 0, .ref (ad 1), .int 0, .int 0, .int 0, .int 0, .ref (ad 2), .ref (ad 3), .ref (ad 4), .ref (ad 5), .ref (ad 6), .ref (ad 7), .ref (ad 8), .int 0, .int 0, .ref (ad 9), .ref (ad 10), .ref (ad 11), .ref (ad 12), .int 0, .ref (ad 13), .ref (ad 14), .int 0, .ref (ad 15), .ref (ad 16), .int 0, .int 0, .ref (ad 17), .ref (ad 18), .int (-1), .ref (ad 19), .ref (ad 20), .ref (ad 21), .int 0, .ref (ad 22), .int 0, .long 0, .ref (ad 23), .ref (ad 24), .ref (ad 25), .ref (ad 26), .ref (ad 27), .ref (ad 28), .ref (ad 29), .ref (ad 30), .ref (ad 31), .ref (ad 32), .int 0, .ref (ad 33), .int 0]) := by
  rw [rb_F_ob rb_obM0]
  refine congrArg (fun l : List Value => (Sum.inr (11, l) : va_E)) (List.ext_getElem? (fun i => ?_))
  rw [List.getElem?_mapIdx]
  match i with
  | 0 => rfl
  | 1 => rfl
  | 2 => rfl
  | 3 => rfl
  | 4 => rfl
  | 5 => rfl
  | 6 => rfl
  | 7 => rfl
  | 8 => rfl
  | 9 => rfl
  | 10 => rfl
  | 11 => rfl
  | 12 => rfl
  | 13 => rfl
  | 14 => rfl
  | 15 => rfl
  | 16 => rfl
  | 17 => rfl
  | 18 => rfl
  | 19 => rfl
  | 20 => rfl
  | 21 => rfl
  | 22 => rfl
  | 23 => rfl
  | 24 => rfl
  | 25 => rfl
  | 26 => rfl
  | 27 => rfl
  | 28 => rfl
  | 29 => rfl
  | 30 => rfl
  | 31 => rfl
  | 32 => rfl
  | 33 => rfl
  | 34 => rfl
  | 35 => rfl
  | 36 => rfl
  | 37 => rfl
  | 38 => rfl
  | 39 => rfl
  | 40 => rfl
  | 41 => rfl
  | 42 => rfl
  | 43 => rfl
  | 44 => rfl
  | 45 => rfl
  | 46 => rfl
  | 47 => rfl
  | 48 => rfl
  | 49 => rfl
  | k + 50 => rfl
theorem am_1 : rb_cel cy ad (rb_vM.1 1) (rb_s0M.1 1) rb_s0M.2 = .inl (cy 0, 240, .inl (fun _ => 0)) := by rw [rb_F_ar rb_arM1, rb_s0Mr (by decide)]
theorem am_2 : rb_cel cy ad (rb_vM.1 2) (rb_s0M.1 2) rb_s0M.2 = .inl (cy 0, 2600, .inl (fun _ => 0)) := by rw [rb_F_ar rb_arM2, rb_s0Mr (by decide)]
theorem am_3 : rb_cel cy ad (rb_vM.1 3) (rb_s0M.1 3) rb_s0M.2 = .inl (cy 0, 2600, .inl (fun _ => 0)) := by rw [rb_F_ar rb_arM3, rb_s0Mr (by decide)]
theorem am_4 : rb_cel cy ad (rb_vM.1 4) (rb_s0M.1 4) rb_s0M.2 = .inl (cy 0, 5, .inl (fun _ => 0)) := by rw [rb_F_ar rb_arM4, rb_s0Mr (by decide)]
theorem am_5 : rb_cel cy ad (rb_vM.1 5) (rb_s0M.1 5) rb_s0M.2 = .inl (cy 0, 5, .inl (fun _ => 0)) := by rw [rb_F_ar rb_arM5, rb_s0Mr (by decide)]
theorem am_6 : rb_cel cy ad (rb_vM.1 6) (rb_s0M.1 6) rb_s0M.2 = .inl (cy 0, 700, .inl (fun _ => 0)) := by rw [rb_F_ar rb_arM6, rb_s0Mr (by decide)]
theorem am_7 : rb_cel cy ad (rb_vM.1 7) (rb_s0M.1 7) rb_s0M.2 = .inl (cy 0, 700, .inl (fun _ => 0)) := by rw [rb_F_ar rb_arM7, rb_s0Mr (by decide)]
theorem am_8 : rb_cel cy ad (rb_vM.1 8) (rb_s0M.1 8) rb_s0M.2 = .inl (cy 0, 700, .inl (fun _ => 0)) := by rw [rb_F_ar rb_arM8, rb_s0Mr (by decide)]
theorem am_9 : rb_cel cy ad (rb_vM.1 9) (rb_s0M.1 9) rb_s0M.2 = .inl (cy 0, 6, .inl (fun _ => 0)) := by rw [rb_F_ar rb_arM9, rb_s0Mr (by decide)]
theorem am_10 : rb_cel cy ad (rb_vM.1 10) (rb_s0M.1 10) rb_s0M.2 = .inl (cy 0, 80, .inl (fun _ => 0)) := by rw [rb_F_ar rb_arM10, rb_s0Mr (by decide)]
theorem am_11 : rb_cel cy ad (rb_vM.1 11) (rb_s0M.1 11) rb_s0M.2 = .inl (cy 0, 3, .inl (fun _ => 0)) := by rw [rb_F_ar rb_arM11, rb_s0Mr (by decide)]
theorem am_12 : rb_cel cy ad (rb_vM.1 12) (rb_s0M.1 12) rb_s0M.2 = .inl (cy 0, 21, .inl (fun _ => 0)) := by rw [rb_F_ar rb_arM12, rb_s0Mr (by decide)]
theorem am_13 : rb_cel cy ad (rb_vM.1 13) (rb_s0M.1 13) rb_s0M.2 = .inl (cy 0, 3, .inl (fun _ => 0)) := by rw [rb_F_ar rb_arM13, rb_s0Mr (by decide)]
theorem am_14 : rb_cel cy ad (rb_vM.1 14) (rb_s0M.1 14) rb_s0M.2 = .inl (cy 0, 21, .inl (fun _ => 0)) := by rw [rb_F_ar rb_arM14, rb_s0Mr (by decide)]
theorem am_15 : rb_cel cy ad (rb_vM.1 15) (rb_s0M.1 15) rb_s0M.2 = .inl (cy 0, 336, .inl (fun _ => 0)) := by rw [rb_F_ar rb_arM15, rb_s0Mr (by decide)]
theorem am_16 : rb_cel cy ad (rb_vM.1 16) (rb_s0M.1 16) rb_s0M.2 = .inl (cy 0, 7, .inl (fun _ => 0)) := by rw [rb_F_ar rb_arM16, rb_s0Mr (by decide)]
theorem am_17 : rb_cel cy ad (rb_vM.1 17) (rb_s0M.1 17) rb_s0M.2 = .inl (cy 0, 398, .inl (fun _ => 0)) := by rw [rb_F_ar rb_arM17, rb_s0Mr (by decide)]
theorem am_18 : rb_cel cy ad (rb_vM.1 18) (rb_s0M.1 18) rb_s0M.2 = .inl (cy 0, 5, .inl (fun _ => 0)) := by rw [rb_F_ar rb_arM18, rb_s0Mr (by decide)]
theorem am_19 : rb_cel cy ad (rb_vM.1 19) (rb_s0M.1 19) rb_s0M.2 = .inl (cy 0, 88, .inl (fun _ => 0)) := by rw [rb_F_ar rb_arM19, rb_s0Mr (by decide)]
theorem am_20 : rb_cel cy ad (rb_vM.1 20) (rb_s0M.1 20) rb_s0M.2 = .inl (cy 0, 88, .inl (fun _ => 0)) := by rw [rb_F_ar rb_arM20, rb_s0Mr (by decide)]
theorem am_21 : rb_cel cy ad (rb_vM.1 21) (rb_s0M.1 21) rb_s0M.2 = .inl (cy 1, 88, .inl (fun _ => 0)) := by rw [rb_F_ar rb_arM21, rb_s0Mr (by decide)]
theorem am_22 : rb_cel cy ad (rb_vM.1 22) (rb_s0M.1 22) rb_s0M.2 = .inl (cy 0, 15920, .inl (fun _ => 0)) := by rw [rb_F_ar rb_arM22, rb_s0Mr (by decide)]
theorem am_23 : rb_cel cy ad (rb_vM.1 23) (rb_s0M.1 23) rb_s0M.2 = .inl (cy 0, 7, .inl (fun _ => 0)) := by rw [rb_F_ar rb_arM23, rb_s0Mr (by decide)]
theorem am_24 : rb_cel cy ad (rb_vM.1 24) (rb_s0M.1 24) rb_s0M.2 = .inl (cy 0, 48, .inl (fun _ => 0)) := by rw [rb_F_ar rb_arM24, rb_s0Mr (by decide)]
theorem am_25 : rb_cel cy ad (rb_vM.1 25) (rb_s0M.1 25) rb_s0M.2 = .inl (cy 0, 5040, .inl (fun _ => 0)) := by rw [rb_F_ar rb_arM25, rb_s0Mr (by decide)]
theorem am_26 : rb_cel cy ad (rb_vM.1 26) (rb_s0M.1 26) rb_s0M.2 = .inl (cy 0, 5040, .inl (fun _ => 0)) := by rw [rb_F_ar rb_arM26, rb_s0Mr (by decide)]
theorem am_27 : rb_cel cy ad (rb_vM.1 27) (rb_s0M.1 27) rb_s0M.2 = .inl (cy 0, 7, .inl (fun _ => 0)) := by rw [rb_F_ar rb_arM27, rb_s0Mr (by decide)]
theorem am_28 : rb_cel cy ad (rb_vM.1 28) (rb_s0M.1 28) rb_s0M.2 = .inl (cy 0, 217, .inl (fun _ => 0)) := by rw [rb_F_ar rb_arM28, rb_s0Mr (by decide)]
theorem am_29 : rb_cel cy ad (rb_vM.1 29) (rb_s0M.1 29) rb_s0M.2 = .inl (cy 0, 10, .inl (fun _ => 0)) := by rw [rb_F_ar rb_arM29, rb_s0Mr (by decide)]
theorem am_30 : rb_cel cy ad (rb_vM.1 30) (rb_s0M.1 30) rb_s0M.2 = .inl (cy 0, 10, .inl (fun _ => 0)) := by rw [rb_F_ar rb_arM30, rb_s0Mr (by decide)]
theorem am_31 : rb_cel cy ad (rb_vM.1 31) (rb_s0M.1 31) rb_s0M.2 = .inl (cy 0, 10, .inl (fun _ => 0)) := by rw [rb_F_ar rb_arM31, rb_s0Mr (by decide)]
theorem am_32 : rb_cel cy ad (rb_vM.1 32) (rb_s0M.1 32) rb_s0M.2 = .inl (cy 1, 10, .inl (fun _ => 0)) := by rw [rb_F_ar rb_arM32, rb_s0Mr (by decide)]
theorem am_33 : rb_cel cy ad (rb_vM.1 33) (rb_s0M.1 33) rb_s0M.2 = .inl (cy 0, 398, .inl (fun _ => 0)) := by rw [rb_F_ar rb_arM33, rb_s0Mr (by decide)]
set_option maxHeartbeats 4000000 in
set_option maxRecDepth 100000 in
theorem am_all : rb_wsx rb_vM cy ad rb_s0M = [(ad 0, .inr (11, [.int 0, .ref (ad 1), .int 0, .int 0, .int 0, .int 0, .ref (ad 2), .ref (ad 3), .ref (ad 4), .ref (ad 5), .ref (ad 6), .ref (ad 7), .ref (ad 8), .int 0, .int 0, .ref (ad 9), .ref (ad 10), .ref (ad 11), .ref (ad 12), .int 0, .ref (ad 13), .ref (ad 14), .int 0, .ref (ad 15), .ref (ad 16), .int 0, .int 0, .ref (ad 17), .ref (ad 18), .int (-1), .ref (ad 19), .ref (ad 20), .ref (ad 21), .int 0, .ref (ad 22), .int 0, .long 0, .ref (ad 23), .ref (ad 24), .ref (ad 25), .ref (ad 26), .ref (ad 27), .ref (ad 28), .ref (ad 29), .ref (ad 30), .ref (ad 31), .ref (ad 32), .int 0, .ref (ad 33), .int 0])), (ad 1, .inl (cy 0, 240, .inl (fun _ => 0))), (ad 2, .inl (cy 0, 2600, .inl (fun _ => 0))), (ad 3, .inl (cy 0, 2600, .inl (fun _ => 0))), (ad 4, .inl (cy 0, 5, .inl (fun _ => 0))), (ad 5, .inl (cy 0, 5, .inl (fun _ => 0))), (ad 6, .inl (cy 0, 700, .inl (fun _ => 0))), (ad 7, .inl (cy 0, 700, .inl (fun _ => 0))), (ad 8, .inl (cy 0, 700, .inl (fun _ => 0))), (ad 9, .inl (cy 0, 6, .inl (fun _ => 0))), (ad 10, .inl (cy 0, 80, .inl (fun _ => 0))), (ad 11, .inl (cy 0, 3, .inl (fun _ => 0))), (ad 12, .inl (cy 0, 21, .inl (fun _ => 0))), (ad 13, .inl (cy 0, 3, .inl (fun _ => 0))), (ad 14, .inl (cy 0, 21, .inl (fun _ => 0))), (ad 15, .inl (cy 0, 336, .inl (fun _ => 0))), (ad 16, .inl (cy 0, 7, .inl (fun _ => 0))), (ad 17, .inl (cy 0, 398, .inl (fun _ => 0))), (ad 18, .inl (cy 0, 5, .inl (fun _ => 0))), (ad 19, .inl (cy 0, 88, .inl (fun _ => 0))), (ad 20, .inl (cy 0, 88, .inl (fun _ => 0))), (ad 21, .inl (cy 1, 88, .inl (fun _ => 0))), (ad 22, .inl (cy 0, 15920, .inl (fun _ => 0))), (ad 23, .inl (cy 0, 7, .inl (fun _ => 0))), (ad 24, .inl (cy 0, 48, .inl (fun _ => 0))), (ad 25, .inl (cy 0, 5040, .inl (fun _ => 0))), (ad 26, .inl (cy 0, 5040, .inl (fun _ => 0))), (ad 27, .inl (cy 0, 7, .inl (fun _ => 0))), (ad 28, .inl (cy 0, 217, .inl (fun _ => 0))), (ad 29, .inl (cy 0, 10, .inl (fun _ => 0))), (ad 30, .inl (cy 0, 10, .inl (fun _ => 0))), (ad 31, .inl (cy 0, 10, .inl (fun _ => 0))), (ad 32, .inl (cy 1, 10, .inl (fun _ => 0))), (ad 33, .inl (cy 0, 398, .inl (fun _ => 0)))] := by
  unfold rb_wsx
  show (List.range 34).map _ = _
  rw [show List.range 34 = [0, 1, 2, 3, 4, 5, 6, 7, 8, 9, 10, 11, 12, 13, 14, 15, 16, 17, 18, 19, 20, 21, 22, 23, 24, 25, 26, 27, 28, 29, 30, 31, 32, 33] from rfl]
  simp only [List.map_cons, List.map_nil]
  rw [am_0, am_1, am_2, am_3, am_4, am_5, am_6, am_7, am_8, am_9, am_10, am_11, am_12, am_13, am_14, am_15, am_16, am_17, am_18, am_19, am_20, am_21, am_22, am_23, am_24, am_25, am_26, am_27, am_28, am_29, am_30, am_31, am_32, am_33]
end ALM
set_option maxHeartbeats 4000000 in
set_option maxRecDepth 100000 in
theorem rb_allM (h0 : Nat) (cy : Nat → ClassId) (ns : List Nat) : po_X12_init h0 cy ns = rb_wsx rb_vM cy (fun k => (h0 :: ns).getD k 0) rb_s0M := by
  rw [am_all]
  simp only [List.getD_cons_zero, List.getD_cons_succ]
  rfl
