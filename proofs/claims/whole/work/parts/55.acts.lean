theorem rb_its_congr {it : (Nat → Nat) → va_W} {m : Nat} {a b : Nat → Nat} {i : Nat} (hc : ∀ b c : Nat → Nat, (∀ u, u < m → b u = c u) → it b = it c) (h : ∀ t, t < m * i → a t = b t) : rb_its it m a i = rb_its it m b i := by
  unfold rb_its List.flatMap
  congr 1
  apply List.map_congr_left
  intro t ht
  have ht : t < i := List.mem_range.mp ht
  apply hc
  intro u hu
  apply h
  have : m * (t + 1) ≤ m * i := Nat.mul_le_mul_left m ht
  rw [Nat.mul_add] at this
  omega
theorem rb_fi_congr {m : Nat} {a b : Nat → Nat} {i : Nat} (hm : 0 < m) (h : ∀ t, t < m * i → a t = b t) : rb_fi m a i = rb_fi m b i := by
  funext u
  unfold rb_fi
  by_cases hu : u < i
  · rw [if_pos hu, if_pos hu, h (m * u) (Nat.mul_lt_mul_of_pos_left hu hm)]
  · rw [if_neg hu, if_neg hu]
def po_X0_init (h0 : Nat) (cy : Nat → ClassId) (ns : List Nat) : va_W := [(h0, .inr (0, [.ref (ns.getD 0 0), .int 0, .int 0])), ((ns.getD 0 0), .inl (cy 2, 40, .inr (.inr (.inr (.inr (rb_fi 5 (fun t => ns.getD (t + 1) 0) 40))))))] ++ rb_its (it_ahead cy) 5 (fun t => ns.getD (t + 1) 0) 40
theorem gt_X0_0_0 : rb_TyF RX0 0 0 (.array (.object "RibbonPole$Pole")) true := ⟨RX0, TX0, 3, tyX0, rfl, tyX0_ok, nmX0, rfl, rfl, by decide +kernel⟩
theorem go_X0_3 : Cond.methodLink RX0 3 objectInit ∈ rb_tbl := rb_in (by decide +kernel) (by decide +kernel)
theorem gk_X0_9 : Cond.classLink RX0 9 "RibbonPole$Pole" ∈ rb_tbl := rb_in (by decide +kernel) (by decide +kernel)
set_option maxHeartbeats 4000000 in
set_option maxRecDepth 100000 in
theorem xi_X0_init (h0 : Nat) : rb_BCon yX0_init cX0_init 2 2 201 5320 h0 0 [.ref h0] [.null, .int 0, .int 0] (po_X0_init h0) := by
  refine rb_BCon.of (by decide +kernel) rfl (Nat.le_of_ble_eq_true rfl) (fun z D cy hAO hC => ?_)
  refine rb_g_aload_n hC 0 dX0_init_0 rfl ?_
  refine rb_g_obj hC go_X0_3 ⟨by decide, Nat.le_of_ble_eq_true rfl⟩ dX0_init_1 ?_
  refine rb_g_aload_n hC 0 dX0_init_4 rfl ?_
  refine rb_g_bipush (x := 40) hC dX0_init_5 (by decide) ?_
  refine rb_g_newR hC 40 2 9 gk_X0_9 hAO.1 rfl (by decide) (by decide) (by decide) (by decide) (by decide) dX0_init_7 (fun q => ?_)
  refine rb_g_ws (ws2 := [(h0, .inr (0, [.null, .int 0, .int 0])), (q, .inl (cy 2, 40, .inr (.inr (.inr (.inr (fun _ => none))))))]) rfl ?_
  refine rb_g_put hC 0 gr_X0_11_0 gt_X0_0_0 rfl rfl rfl (Nat.le_of_ble_eq_true rfl) dX0_init_10 ?_
  refine rb_g_iconst (x := 0) hC dX0_init_13 (by decide) ?_
  refine rb_g_istore_n hC [(1, .int 0), (0, .ref h0)] dX0_init_14 (by decide) rfl ?_
  refine rb_g_sub (lv2 := [(0, .ref h0), (1, .int (nI 0))]) [1, 0] rfl ?_
  have hX : rb_FX (fun f => [(h0, .inr (0, [.ref q, .int 0, .int 0])), (q, .inl (cy 2, 40, .inr (.inr (.inr (.inr f)))))]) 1 q (cy 2) 40 h0 0 [.ref q, .int 0, .int 0] := ⟨fun _ => rfl, fun _ => rfl, fun _ _ => rfl⟩
  refine rb_g_ws (ws2 := (fun f => [(h0, .inr (0, [.ref q, .int 0, .int 0])), (q, .inl (cy 2, 40, .inr (.inr (.inr (.inr f)))))]) (rb_fi 5 (fun _ => 0) 0) ++ rb_its (it_ahead cy) 5 (fun _ => 0) 0) ?_ ?_
  · rw [rb_fi_0, rb_its_0]; rfl
  · refine xL_ahead (cs0 := 1) (sl0 := 40) hC hAO (by decide) rfl hX (by decide) (by decide) (fun a => ?_) 41 0 (fun _ => 0) (by decide) (by decide)
    have e : po_X0_init h0 cy (q :: (List.range 200).map a) = (fun f => [(h0, .inr (0, [.ref q, .int 0, .int 0])), (q, .inl (cy 2, 40, .inr (.inr (.inr (.inr f)))))]) (rb_fi 5 a 40) ++ rb_its (it_ahead cy) 5 a 40 := by
      have ha : ∀ t, t < 5 * 40 → (q :: (List.range 200).map a).getD (t + 1) 0 = a t := by
        intro t ht
        simp [List.getD_cons_succ, List.getD, ht]
      unfold po_X0_init
      rw [rb_its_congr it_ahead_c ha, rb_fi_congr (by decide) ha]
      rfl
    refine rb_g_ws e ?_
    exact rb_g_ret (post := po_X0_init h0) hC (q :: (List.range 200).map a) (by simp) dX0_init_40
