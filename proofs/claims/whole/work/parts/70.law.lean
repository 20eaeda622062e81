/-! THE LAW'S OWN WALK: two worlds beside one another (class, reference), a row of one long, the script -/
abbrev rb_Gd : Type := va_G × (Nat → ClassId) × (Nat → Nat) × (Nat → Nat) × (Nat → Prop) × (Nat → Prop) × (Nat → Nat) × Nat × ClassId
abbrev rb_w1 (g : rb_Gd) : rb_Wd := (g.1, g.2.1, g.2.2.1, g.2.2.2.2.1, g.2.2.2.2.2.2.1)
abbrev rb_w2 (g : rb_Gd) : rb_Wd := (g.1, g.2.1, g.2.2.2.1, g.2.2.2.2.2.1, g.2.2.2.2.2.2.1)
abbrev rb_qo (g : rb_Gd) : Nat := g.2.2.2.2.2.2.2.1
abbrev rb_co (g : rb_Gd) : ClassId := g.2.2.2.2.2.2.2.2
abbrev rb_o1 (g : rb_Gd) (o : Nat → Int64) : va_W := [(rb_qo g, .inl (rb_co g, 1, .inr (.inl o)))]
def rb_LAt (z : rb_Z) (g : rb_Gd) (cs sl : Nat) (Q : State → Prop) (pc : Nat) (lv : List (Nat × Value)) (st : List Value) (σ τ : rb_St) (o : Nat → Int64) : Prop :=
  ∀ (H : Heap) (locs : List Loc) (ls : Array Slot), va_P g.1 vwCl (rb_ws rb_vX (rb_w1 g) σ) H → va_P g.1 vwCl (rb_ws rb_vM (rb_w2 g) τ) H → va_P g.1 vwCl (rb_o1 g o) H → va_S (fun q => (rb_s z).heap.size ≤ q) (rb_s z).heap H locs → lv_has ls 7 lv → rb_WB z H locs cs sl Q (F0 (rb_m z) pc ls st)
def rb_Lx (z : rb_Z) (g : rb_Gd) (b L : Nat) (xs : Nat → Int32) (cs sl : Nat) : Prop :=
  (rb_p z).tables.exec = Jvm.exec ∧ (rb_c z).code = code ∧ (rb_me z).sig.returnType = ret ∧ (rb_c z).maxLocals = 7 ∧ (rb_s z).vm.findClass RL = some (rb_m z).cls ∧ (∀ x ∈ rb_tbl, x.before (rb_a z) (rb_s z) = true) ∧ (rb_me z).locks = false ∧ rb_R z = room_1 ∧ va_K g.1 vwCl (rb_tys g.2.1 ++ [(rb_co g, .long)]) (rb_s z) ∧ (rb_inj rb_vX (rb_w1 g) ∧ rb_SFX (rb_w1 g) (rb_s z) (rb_s z).heap ∧ rb_inj rb_vM (rb_w2 g)) ∧ ((∀ q, rb_A (rb_w1 g) q → (rb_s z).heap.size ≤ q ∧ (∀ k, k < rb_vM.2.1 → rb_ad (rb_w2 g) k ≠ q) ∧ rb_qo g ≠ q) ∧ (∀ q, rb_A (rb_w2 g) q → (rb_s z).heap.size ≤ q ∧ (∀ k, k < rb_vX.2.1 → rb_ad (rb_w1 g) k ≠ q) ∧ rb_qo g ≠ q) ∧ (rb_s z).heap.size ≤ rb_qo g) ∧ (va_X b L xs (rb_s z) (rb_s z).heap ∧ b < (rb_s z).heap.size ∧ L ≤ 3072) ∧ cs ≤ 601024 ∧ sl ≤ 7293034
theorem rb_K1 {D : va_G} {cl : List vw_C} {t1 t2 : List (ClassId × FieldType)} {U : State} (h : va_K D cl (t1 ++ t2) U) : va_K D cl t1 U := ⟨h.1, fun k q hk => h.2 k q (by rw [List.getElem?_append_left (List.getElem?_eq_some_iff.mp hk).1]; exact hk)⟩
section RBL
variable {z : rb_Z} {g : rb_Gd} {b L : Nat} {xs : Nat → Int32} {cs sl : Nat} {Q : State → Prop} {pc : Nat} {lv lv2 : List (Nat × Value)} {st st0 : List Value} {σ τ σ1 τ1 : rb_St} {o : Nat → Int64}
theorem rb_l_iadd (hC : rb_Lx z g b L xs cs sl) {x y : Int32} (hd : decode cL_law pc = .ok (.iadd, 1))  (k : rb_LAt z g cs sl Q (pc + 1) lv (.int (x + y) :: st) σ τ o) : rb_LAt z g cs sl Q pc lv (.int y :: .int x :: st) σ τ o := fun H locs ls hP hM hO hS hl => lv_iadd hC.1 hC.2.1 hd (k H locs ls hP hM hO hS hl)
theorem rb_l_isub (hC : rb_Lx z g b L xs cs sl) {x y : Int32} (hd : decode cL_law pc = .ok (.isub, 1))  (k : rb_LAt z g cs sl Q (pc + 1) lv (.int (x - y) :: st) σ τ o) : rb_LAt z g cs sl Q pc lv (.int y :: .int x :: st) σ τ o := fun H locs ls hP hM hO hS hl => lv_isub hC.1 hC.2.1 hd (k H locs ls hP hM hO hS hl)
theorem rb_l_iand (hC : rb_Lx z g b L xs cs sl) {x y : Int32} (hd : decode cL_law pc = .ok (.iand, 1))  (k : rb_LAt z g cs sl Q (pc + 1) lv (.int (x &&& y) :: st) σ τ o) : rb_LAt z g cs sl Q pc lv (.int y :: .int x :: st) σ τ o := fun H locs ls hP hM hO hS hl => lv_iand hC.1 hC.2.1 hd (k H locs ls hP hM hO hS hl)
theorem rb_l_lor (hC : rb_Lx z g b L xs cs sl) {x y : Int64} (hd : decode cL_law pc = .ok (.lor, 1))  (k : rb_LAt z g cs sl Q (pc + 1) lv (.long (x ||| y) :: st) σ τ o) : rb_LAt z g cs sl Q pc lv (.long y :: .long x :: st) σ τ o := fun H locs ls hP hM hO hS hl => lv_lor hC.1 hC.2.1 hd (k H locs ls hP hM hO hS hl)
theorem rb_l_land (hC : rb_Lx z g b L xs cs sl) {x y : Int64} (hd : decode cL_law pc = .ok (.land, 1))  (k : rb_LAt z g cs sl Q (pc + 1) lv (.long (x &&& y) :: st) σ τ o) : rb_LAt z g cs sl Q pc lv (.long y :: .long x :: st) σ τ o := fun H locs ls hP hM hO hS hl => lv_land hC.1 hC.2.1 hd (k H locs ls hP hM hO hS hl)
theorem rb_l_lshl (hC : rb_Lx z g b L xs cs sl) {x : Int64} {y : Int32} (hd : decode cL_law pc = .ok (.lshl, 1))  (k : rb_LAt z g cs sl Q (pc + 1) lv (.long (x <<< (y.toInt64 &&& 63)) :: st) σ τ o) : rb_LAt z g cs sl Q pc lv (.int y :: .long x :: st) σ τ o := fun H locs ls hP hM hO hS hl => lv_lshl hC.1 hC.2.1 hd rfl (k H locs ls hP hM hO hS hl)
theorem rb_l_i2l (hC : rb_Lx z g b L xs cs sl) {x : Int32} (hd : decode cL_law pc = .ok (.i2l, 1))  (k : rb_LAt z g cs sl Q (pc + 1) lv (.long x.toInt64 :: st) σ τ o) : rb_LAt z g cs sl Q pc lv (.int x :: st) σ τ o := fun H locs ls hP hM hO hS hl => lv_i2l hC.1 hC.2.1 hd rfl (k H locs ls hP hM hO hS hl)
theorem rb_l_lcmp (hC : rb_Lx z g b L xs cs sl) {x y : Int64} (hd : decode cL_law pc = .ok (.lcmp, 1))  (k : rb_LAt z g cs sl Q (pc + 1) lv (.int (lg_cmp x y) :: st) σ τ o) : rb_LAt z g cs sl Q pc lv (.long y :: .long x :: st) σ τ o := fun H locs ls hP hM hO hS hl => W.lcmp hC.1 hC.2.1 hd (k H locs ls hP hM hO hS hl)
theorem rb_l_iconst (hC : rb_Lx z g b L xs cs sl) {n : Int} {x : Int32} (hd : decode cL_law pc = .ok (.iconst n, 1)) (hv : Int32.ofInt n = x) (k : rb_LAt z g cs sl Q (pc + 1) lv (.int x :: st) σ τ o) : rb_LAt z g cs sl Q pc lv st σ τ o := fun H locs ls hP hM hO hS hl => lv_iconst hC.1 hC.2.1 hd hv (k H locs ls hP hM hO hS hl)
theorem rb_l_bipush (hC : rb_Lx z g b L xs cs sl) {n : Int} {x : Int32} (hd : decode cL_law pc = .ok (.bipush n, 2)) (hv : (Int8.ofInt n).toInt32 = x) (k : rb_LAt z g cs sl Q (pc + 2) lv (.int x :: st) σ τ o) : rb_LAt z g cs sl Q pc lv st σ τ o := fun H locs ls hP hM hO hS hl => lv_bipush hC.1 hC.2.1 hd hv (k H locs ls hP hM hO hS hl)
theorem rb_l_iload_n (hC : rb_Lx z g b L xs cs sl) {k : Fin 4} {x : Int32} (j : Nat) (hd : decode cL_law pc = .ok (.iload_n k, 1)) (hj : lv[j]? = some ((k : Nat), .int x)) (kk : rb_LAt z g cs sl Q (pc + 1) lv (.int x :: st) σ τ o) : rb_LAt z g cs sl Q pc lv st σ τ o := fun H locs ls hP hM hO hS hl => lv_iload_n hC.1 hC.2.1 hd rfl (lv_at hl j hj) (kk H locs ls hP hM hO hS hl)
theorem rb_l_iload (hC : rb_Lx z g b L xs cs sl) {i : Nat} {x : Int32} (j : Nat) (hd : decode cL_law pc = .ok (.iload i, 2)) (hj : lv[j]? = some (i, .int x)) (kk : rb_LAt z g cs sl Q (pc + 2) lv (.int x :: st) σ τ o) : rb_LAt z g cs sl Q pc lv st σ τ o := fun H locs ls hP hM hO hS hl => lv_iload hC.1 hC.2.1 hd (lv_at hl j hj) (kk H locs ls hP hM hO hS hl)
theorem rb_l_istore_n (hC : rb_Lx z g b L xs cs sl) {k : Fin 4} {x : Int32} (lv2 : List (Nat × Value)) (hd : decode cL_law pc = .ok (.istore_n k, 1)) (hn : (k : Nat) < 7) (hl2 : ((k : Nat), Value.int x) :: lv.filter (fun q => !(q.1 == (k : Nat)) && !(q.1 + 1 == (k : Nat) && q.2.category == 2)) = lv2) (kk : rb_LAt z g cs sl Q (pc + 1) lv2 st σ τ o) : rb_LAt z g cs sl Q pc lv (.int x :: st) σ τ o := fun H locs ls hP hM hO hS hl => lv_istore_n hC.1 hC.2.1 hd rfl hl hn hl2 (fun ls2 hl3 => kk H locs ls2 hP hM hO hS hl3)
theorem rb_l_istore (hC : rb_Lx z g b L xs cs sl) {i : Nat} {x : Int32} (lv2 : List (Nat × Value)) (hd : decode cL_law pc = .ok (.istore i, 2)) (hn : i < 7) (hl2 : (i, Value.int x) :: lv.filter (fun q => !(q.1 == i) && !(q.1 + 1 == i && q.2.category == 2)) = lv2) (kk : rb_LAt z g cs sl Q (pc + 2) lv2 st σ τ o) : rb_LAt z g cs sl Q pc lv (.int x :: st) σ τ o := fun H locs ls hP hM hO hS hl => lv_istore hC.1 hC.2.1 hd hl hn hl2 (fun ls2 hl3 => kk H locs ls2 hP hM hO hS hl3)
theorem rb_l_aload_n (hC : rb_Lx z g b L xs cs sl) {k : Fin 4} {x : Nat} (j : Nat) (hd : decode cL_law pc = .ok (.aload_n k, 1)) (hj : lv[j]? = some ((k : Nat), .ref x)) (kk : rb_LAt z g cs sl Q (pc + 1) lv (.ref x :: st) σ τ o) : rb_LAt z g cs sl Q pc lv st σ τ o := fun H locs ls hP hM hO hS hl => lv_aload_n hC.1 hC.2.1 hd rfl (lv_at hl j hj) (kk H locs ls hP hM hO hS hl)
theorem rb_l_iinc (hC : rb_Lx z g b L xs cs sl) {i : Nat} {n : Int} {x y : Int32} (j : Nat) (lv2 : List (Nat × Value)) (hd : decode cL_law pc = .ok (.iinc i n, 3)) (hj : lv[j]? = some (i, .int x)) (hv : x + Int32.ofInt n = y) (hn : i < 7) (hl2 : (i, Value.int y) :: lv.filter (fun q => !(q.1 == i) && !(q.1 + 1 == i && q.2.category == 2)) = lv2) (kk : rb_LAt z g cs sl Q (pc + 3) lv2 st σ τ o) : rb_LAt z g cs sl Q pc lv st σ τ o := fun H locs ls hP hM hO hS hl => lv_iinc hC.1 hC.2.1 hd hl hj hv hn hl2 (fun ls2 hl3 => kk H locs ls2 hP hM hO hS hl3)
theorem rb_l_sub (ks : List Nat) (hl2 : lv_pick lv ks = lv2) (k : rb_LAt z g cs sl Q pc lv2 st σ τ o) : rb_LAt z g cs sl Q pc lv st σ τ o := fun H locs ls hP hM hO hS hl => k H locs ls hP hM hO hS (lv_sub hl ks hl2)
theorem rb_l_dup (hC : rb_Lx z g b L xs cs sl) {a : Value} (hd : decode cL_law pc = .ok (.dup, 1)) (h1 : a.category = 1) (k : rb_LAt z g cs sl Q (pc + 1) lv (a :: a :: st) σ τ o) : rb_LAt z g cs sl Q pc lv (a :: st) σ τ o := fun H locs ls hP hM hO hS hl => lv_dup hC.1 hC.2.1 hd h1 (k H locs ls hP hM hO hS hl)
theorem rb_l_if_eq (hC : rb_Lx z g b L xs cs sl) {x : Int32} {off : Int} (tgt : Nat) (hd : decode cL_law pc = .ok (.ifCond .eq off, 3)) (ht : (pc : Int) + off = (tgt : Int)) (kt : x = 0 → rb_LAt z g cs sl Q tgt lv st σ τ o) (kf : ¬ x = 0 → rb_LAt z g cs sl Q (pc + 3) lv st σ τ o) : rb_LAt z g cs sl Q pc lv (.int x :: st) σ τ o := fun H locs ls hP hM hO hS hl => lv_if_eq hC.1 hC.2.1 hd ht (fun q => kt q H locs ls hP hM hO hS hl) (fun q => kf q H locs ls hP hM hO hS hl)
theorem rb_l_if_ne (hC : rb_Lx z g b L xs cs sl) {x : Int32} {off : Int} (tgt : Nat) (hd : decode cL_law pc = .ok (.ifCond .ne off, 3)) (ht : (pc : Int) + off = (tgt : Int)) (kt : ¬ x = 0 → rb_LAt z g cs sl Q tgt lv st σ τ o) (kf : x = 0 → rb_LAt z g cs sl Q (pc + 3) lv st σ τ o) : rb_LAt z g cs sl Q pc lv (.int x :: st) σ τ o := fun H locs ls hP hM hO hS hl => lv_if_ne hC.1 hC.2.1 hd ht (fun q => kt q H locs ls hP hM hO hS hl) (fun q => kf q H locs ls hP hM hO hS hl)
theorem rb_l_icmp_eq (hC : rb_Lx z g b L xs cs sl) {x y : Int32} {off : Int} (tgt : Nat) (hd : decode cL_law pc = .ok (.if_icmp .eq off, 3)) (ht : (pc : Int) + off = (tgt : Int)) (kt : x = y → rb_LAt z g cs sl Q tgt lv st σ τ o) (kf : ¬ x = y → rb_LAt z g cs sl Q (pc + 3) lv st σ τ o) : rb_LAt z g cs sl Q pc lv (.int y :: .int x :: st) σ τ o := fun H locs ls hP hM hO hS hl => lv_icmp_eq hC.1 hC.2.1 hd ht (fun q => kt q H locs ls hP hM hO hS hl) (fun q => kf q H locs ls hP hM hO hS hl)
theorem rb_l_icmp_gt (hC : rb_Lx z g b L xs cs sl) {x y : Int32} {off : Int} (tgt : Nat) (hd : decode cL_law pc = .ok (.if_icmp .gt off, 3)) (ht : (pc : Int) + off = (tgt : Int)) (kt : y < x → rb_LAt z g cs sl Q tgt lv st σ τ o) (kf : ¬ y < x → rb_LAt z g cs sl Q (pc + 3) lv st σ τ o) : rb_LAt z g cs sl Q pc lv (.int y :: .int x :: st) σ τ o := fun H locs ls hP hM hO hS hl => lv_icmp_gt hC.1 hC.2.1 hd ht (fun q => kt q H locs ls hP hM hO hS hl) (fun q => kf q H locs ls hP hM hO hS hl)
theorem rb_l_goto (hC : rb_Lx z g b L xs cs sl) {off : Int} (tgt : Nat) (hd : decode cL_law pc = .ok (.goto off, 3)) (ht : (pc : Int) + off = (tgt : Int)) (k : rb_LAt z g cs sl Q tgt lv st σ τ o) : rb_LAt z g cs sl Q pc lv st σ τ o := fun H locs ls hP hM hO hS hl => lv_goto hC.1 hC.2.1 hd ht (k H locs ls hP hM hO hS hl)
theorem rb_l_tableIn (hC : rb_Lx z g b L xs cs sl) {dflt lo hi : Int} {offs : Array Int} {len : Nat} {x : Int32} {off : Int} (tgt : Nat) (hd : decode cL_law pc = .ok (.tableswitch dflt lo hi offs, len)) (h1 : ¬ x.toInt < lo) (h2 : ¬ hi < x.toInt) (ho : offs[(x.toInt - lo).toNat]? = some off) (ht : (pc : Int) + off = (tgt : Int)) (k : rb_LAt z g cs sl Q tgt lv st σ τ o) : rb_LAt z g cs sl Q pc lv (.int x :: st) σ τ o := fun H locs ls hP hM hO hS hl => lv_tableIn hC.1 hC.2.1 hd h1 h2 ho ht (k H locs ls hP hM hO hS hl)
theorem rb_l_tableOut (hC : rb_Lx z g b L xs cs sl) {dflt lo hi : Int} {offs : Array Int} {len : Nat} {x : Int32} (tgt : Nat) (hd : decode cL_law pc = .ok (.tableswitch dflt lo hi offs, len)) (h1 : x.toInt < lo ∨ hi < x.toInt) (ht : (pc : Int) + dflt = (tgt : Int)) (k : rb_LAt z g cs sl Q tgt lv st σ τ o) : rb_LAt z g cs sl Q pc lv (.int x :: st) σ τ o := fun H locs ls hP hM hO hS hl => lv_tableOut hC.1 hC.2.1 hd h1 ht (k H locs ls hP hM hO hS hl)
theorem rb_l_ldc2_w (hC : rb_Lx z g b L xs cs sl) {idx : Nat} {x : Int64} (hk : Cond.constantLong RL idx x ∈ rb_tbl) (hd : decode cL_law pc = .ok (.ldc2_w idx, 3)) (k : rb_LAt z g cs sl Q (pc + 3) lv (.long x :: st) σ τ o) : rb_LAt z g cs sl Q pc lv st σ τ o := fun H locs ls hP hM hO hS hl => lv_ldc2 hC.1 hC.2.1 hC.2.2.2.2.1 (hC.2.2.2.2.2.1 _ hk) hd (k H locs ls hP hM hO hS hl)
theorem rb_l_sld (hC : rb_Lx z g b L xs cs sl) {i : Int32} (hin : vp_in i L) (hd : decode cL_law pc = .ok (.iaload, 1)) (kk : rb_LAt z g cs sl Q (pc + 1) lv (.int (xs i.toNatClampNeg) :: st) σ τ o) : rb_LAt z g cs sl Q pc lv (.int i :: .ref b :: st) σ τ o := fun H locs ls hP hM hO hS hl => va_sld hC.1 hC.2.1 hC.2.2.2.2.2.2.2.2.2.2.2.1.1 hC.2.2.2.2.2.2.2.2.2.2.2.1.2.1 (Nat.not_le_of_lt hC.2.2.2.2.2.2.2.2.2.2.2.1.2.1) hS hin hd (kk H locs ls hP hM hO hS hl)
theorem rb_l_slen (hC : rb_Lx z g b L xs cs sl) (hd : decode cL_law pc = .ok (.arraylength, 1)) (kk : rb_LAt z g cs sl Q (pc + 1) lv (.int (nI L) :: st) σ τ o) : rb_LAt z g cs sl Q pc lv (.ref b :: st) σ τ o := fun H locs ls hP hM hO hS hl => va_slen hC.1 hC.2.1 hC.2.2.2.2.2.2.2.2.2.2.2.1.1 hC.2.2.2.2.2.2.2.2.2.2.2.1.2.1 (Nat.not_le_of_lt hC.2.2.2.2.2.2.2.2.2.2.2.1.2.1) hS hd (kk H locs ls hP hM hO hS hl)
theorem rb_l_laload (hC : rb_Lx z g b L xs cs sl) (hd : decode cL_law pc = .ok (.laload, 1)) (kk : rb_LAt z g cs sl Q (pc + 1) lv (.long (o 0) :: st) σ τ o) : rb_LAt z g cs sl Q pc lv (.int 0 :: .ref (rb_qo g) :: st) σ τ o := fun H locs ls hP hM hO hS hl => va_lald hC.1 hC.2.1 hC.2.2.2.2.2.2.2.2.1 hO 0 5 rfl rfl (show vp_in (nI 0) 1 from vp_in_nI (by decide) (by decide)) hd (kk H locs ls hP hM hO hS hl)
/-- a call of the class: what is not its own stays -/
theorem rb_l_after1 (hC : rb_Lx z g b L xs cs sl) {H : Heap} {locs : List Loc} {ls : Array Slot} {r : Option Value} {a : Array Value} (hr : va_Run z.1 z.2.1 z.2.2.1 (rb_R z) (rb_s z) (rb_m z) (rb_a z) (rb_b z) (rb_me z) (rb_c z) H locs cs sl 0 0 (F0 (rb_m z) pc ls st0) st (rb_Qc rb_vX (rb_w1 g) r σ1 a) (rb_A (rb_w1 g))) (hM : va_P g.1 vwCl (rb_ws rb_vM (rb_w2 g) τ) H) (hO : va_P g.1 vwCl (rb_o1 g o) H) (hS : va_S (fun q => (rb_s z).heap.size ≤ q) (rb_s z).heap H locs) (hl : lv_has ls 7 lv) (kk : rb_LAt z g cs sl Q (pc + 3) lv (r.toList ++ st) σ1 τ o) : rb_WB z H locs cs sl Q (F0 (rb_m z) pc ls st0) := by
  have d1 := hC.2.2.2.2.2.2.2.2.2.2.1.1
  intro T hT X
  obtain ⟨v0, st₀, t, T', L', h0, X', hL, e1, e2, ⟨hq, hP1, hz, hk⟩, stp⟩ := hr T hT X
  cases hq
  rw [h0] at hz hk
  have keep : ∀ (q : Nat), ¬ rb_A (rb_w1 g) q → q < H.size → T'.heap[q]? = H[q]? := fun q hq hn => by
    rw [e1]
    exact hk q hn hq
  have hP2 : va_P g.1 vwCl (rb_ws rb_vX (rb_w1 g) σ1) T'.heap := by rw [e1]; exact hP1
  have hM2 : va_P g.1 vwCl (rb_ws rb_vM (rb_w2 g) τ) T'.heap := hM.kept (fun k q hk2 => by
      have hlt := (hM k _ hk2).lt
      obtain ⟨h1, rfl⟩ := rb_ws_get hk2
      exact keep _ (fun hA => (d1 _ hA).2.1 k h1 rfl) hlt)
  have hO2 : va_P g.1 vwCl (rb_o1 g o) T'.heap := hO.kept (fun k q hk2 => by
      have hlt := (hO k _ hk2).lt
      have hq : q.1 = rb_qo g := by
        cases k with
        | zero => cases hk2; rfl
        | succ k => simp [rb_o1] at hk2
      exact keep _ (fun hA => (d1 _ hA).2.2 hq.symm) hlt)
  have hS2 : va_S (fun q => (rb_s z).heap.size ≤ q) (rb_s z).heap T'.heap (locs ++ L') := ⟨Nat.le_trans hS.1 (by rw [e1]; exact hz), fun q h1 h2 => (keep q (fun hA => h2 (d1 _ hA).1) (Nat.lt_of_lt_of_le h1 hS.1)).trans (hS.2.1 q h1 h2), fun q hq => by
      rcases List.mem_append.mp hq with h | h
      · exact hS.2.2 q h
      · exact (d1 _ (hL q h)).1⟩
  obtain ⟨t2, a1, b1⟩ := kk T'.heap (locs ++ L') ls hP2 hM2 hO2 hS2 hl T' rfl X'
  exact ⟨t2, stp t2 a1, b1⟩
theorem rb_l_call1 (hC : rb_Lx z g b L xs cs sl) {idx nL1 n h1 : Nat} {y : MethodName} {cb : ByteArray} {ret1 : Option FieldType} (cr : rb_MV RL idx y cb nL1 ret1 n) {av : rb_Wd → List Value} {r : rb_Wd → Option Value} (con : rb_Con rb_vX y cb nL1 ret1 h1 av σ r σ1) {ci : Nat} {fk : List rb_Fk} (ob : rb_Ob rb_vX 0 ci fk) (hcls : (vwCl[ci]?).map (fun q => q.1) = some y.cls) (As : List Value) (hav : av (rb_w1 g) = .ref (rb_ad (rb_w1 g) 0) :: As) (hn : As.length = n) (hst : st0 = As.reverse ++ .ref (rb_ad (rb_w1 g) 0) :: st) (hh : h1 ≤ 100 ∧ nL1 ≤ 29) (hcat : (st.map fun v => v.category).sum ≤ 8) (hd : decode cL_law pc = .ok (.invokevirtual idx, 3)) (kk : rb_LAt z g cs sl Q (pc + 3) lv ((r (rb_w1 g)).toList ++ st) σ1 τ o) : rb_LAt z g cs sl Q pc lv st0 σ τ o := by
  intro H locs ls hP hM hO hS hl
  obtain ⟨c1, c2, c3, c4, c5, c6⟩ := cr
  obtain ⟨q, hq, hqc⟩ := Option.map_eq_some_iff.mp hcls
  have hts := hC.2.2.2.2.2.1
  have hMt := con z.2.1 (rb_w1 g)
  rw [hav] at hMt
  have hR := hC.2.2.2.2.2.2.2.1
  have hK := rb_K1 hC.2.2.2.2.2.2.2.2.1
  have hrm : (rb_rm h1).frames + 1 ≤ (rb_R z).frames ∧ 8 + (nL1 + 11) + (rb_rm h1).locals ≤ (rb_R z).locals := by
    rw [hR]
    show h1 + 1 ≤ 2048 ∧ 8 + (nL1 + 11) + 48 * h1 ≤ 84000
    omega
  have hz : cs + 0 ≤ (rb_R z).cells ∧ sl + 0 ≤ (rb_R z).slots := by
    rw [hR]
    exact hC.2.2.2.2.2.2.2.2.2.2.2.2
  have hpre : ∀ U : State, U.heap = H → (rb_s z).WarmedH U.vm → rb_Pc rb_vX (rb_w1 g) (.ref (rb_ad (rb_w1 g) 0) :: As) σ (.ref (rb_ad (rb_w1 g) 0) :: As).toArray U := fun U hU hW => ⟨rfl, by rw [hU]; exact hP, va_K.moved hW.alike hK, hC.2.2.2.2.2.2.2.2.2.1.1, rb_VokX.1 _ (rb_s z) U _ _ hW (by rw [hU]; exact fun q h1 _ => hS.2.1 q h1 (Nat.not_le_of_lt h1)) hC.2.2.2.2.2.2.2.2.2.1.2.1⟩
  refine rb_l_after1 hC (va_runV (C := y.cls) (As := As) (rest := st) (b := rb_ad (rb_w1 g) 0) (nL := 7) (Ts := rb_tbl) ⟨hC.1, hC.2.1, hC.2.2.2.1, hC.2.2.2.2.1, hts⟩ hMt ⟨callB_of n hts (rb_gi c5) rfl rfl rfl (hts _ c4) (hts _ c1) c6 hrm, hts _ c2, hts _ c3⟩ ⟨rb_blind rb_VokX, ?_, fun U hU hW => hpre U hU hW⟩ rfl hn hl.1 hst (lv_room hcat) hd hz) hM hO hS hl kk
  rw [← hqc]
  exact va_recv hK hP hq (rb_ob_at ob)
/-- a call of the reference: what is not its own stays -/
theorem rb_l_after2 (hC : rb_Lx z g b L xs cs sl) {H : Heap} {locs : List Loc} {ls : Array Slot} {r : Option Value} {a : Array Value} (hr : va_Run z.1 z.2.1 z.2.2.1 (rb_R z) (rb_s z) (rb_m z) (rb_a z) (rb_b z) (rb_me z) (rb_c z) H locs cs sl 0 0 (F0 (rb_m z) pc ls st0) st (rb_Qc rb_vM (rb_w2 g) r σ1 a) (rb_A (rb_w2 g))) (hM : va_P g.1 vwCl (rb_ws rb_vX (rb_w1 g) τ) H) (hO : va_P g.1 vwCl (rb_o1 g o) H) (hS : va_S (fun q => (rb_s z).heap.size ≤ q) (rb_s z).heap H locs) (hl : lv_has ls 7 lv) (kk : rb_LAt z g cs sl Q (pc + 3) lv (r.toList ++ st) τ σ1 o) : rb_WB z H locs cs sl Q (F0 (rb_m z) pc ls st0) := by
  have d1 := hC.2.2.2.2.2.2.2.2.2.2.1.2.1
  intro T hT X
  obtain ⟨v0, st₀, t, T', L', h0, X', hL, e1, e2, ⟨hq, hP1, hz, hk⟩, stp⟩ := hr T hT X
  cases hq
  rw [h0] at hz hk
  have keep : ∀ (q : Nat), ¬ rb_A (rb_w2 g) q → q < H.size → T'.heap[q]? = H[q]? := fun q hq hn => by
    rw [e1]
    exact hk q hn hq
  have hP2 : va_P g.1 vwCl (rb_ws rb_vM (rb_w2 g) σ1) T'.heap := by rw [e1]; exact hP1
  have hM2 : va_P g.1 vwCl (rb_ws rb_vX (rb_w1 g) τ) T'.heap := hM.kept (fun k q hk2 => by
      have hlt := (hM k _ hk2).lt
      obtain ⟨h1, rfl⟩ := rb_ws_get hk2
      exact keep _ (fun hA => (d1 _ hA).2.1 k h1 rfl) hlt)
  have hO2 : va_P g.1 vwCl (rb_o1 g o) T'.heap := hO.kept (fun k q hk2 => by
      have hlt := (hO k _ hk2).lt
      have hq : q.1 = rb_qo g := by
        cases k with
        | zero => cases hk2; rfl
        | succ k => simp [rb_o1] at hk2
      exact keep _ (fun hA => (d1 _ hA).2.2 hq.symm) hlt)
  have hS2 : va_S (fun q => (rb_s z).heap.size ≤ q) (rb_s z).heap T'.heap (locs ++ L') := ⟨Nat.le_trans hS.1 (by rw [e1]; exact hz), fun q h1 h2 => (keep q (fun hA => h2 (d1 _ hA).1) (Nat.lt_of_lt_of_le h1 hS.1)).trans (hS.2.1 q h1 h2), fun q hq => by
      rcases List.mem_append.mp hq with h | h
      · exact hS.2.2 q h
      · exact (d1 _ (hL q h)).1⟩
  obtain ⟨t2, a1, b1⟩ := kk T'.heap (locs ++ L') ls hM2 hP2 hO2 hS2 hl T' rfl X'
  exact ⟨t2, stp t2 a1, b1⟩
theorem rb_l_call2 (hC : rb_Lx z g b L xs cs sl) {idx nL1 n h1 : Nat} {y : MethodName} {cb : ByteArray} {ret1 : Option FieldType} (cr : rb_MV RL idx y cb nL1 ret1 n) {av : rb_Wd → List Value} {r : rb_Wd → Option Value} (con : rb_Con rb_vM y cb nL1 ret1 h1 av σ r σ1) {ci : Nat} {fk : List rb_Fk} (ob : rb_Ob rb_vM 0 ci fk) (hcls : (vwCl[ci]?).map (fun q => q.1) = some y.cls) (As : List Value) (hav : av (rb_w2 g) = .ref (rb_ad (rb_w2 g) 0) :: As) (hn : As.length = n) (hst : st0 = As.reverse ++ .ref (rb_ad (rb_w2 g) 0) :: st) (hh : h1 ≤ 100 ∧ nL1 ≤ 29) (hcat : (st.map fun v => v.category).sum ≤ 8) (hd : decode cL_law pc = .ok (.invokevirtual idx, 3)) (kk : rb_LAt z g cs sl Q (pc + 3) lv ((r (rb_w2 g)).toList ++ st) τ σ1 o) : rb_LAt z g cs sl Q pc lv st0 τ σ o := by
  intro H locs ls hP hM hO hS hl
  obtain ⟨c1, c2, c3, c4, c5, c6⟩ := cr
  obtain ⟨q, hq, hqc⟩ := Option.map_eq_some_iff.mp hcls
  have hts := hC.2.2.2.2.2.1
  have hMt := con z.2.1 (rb_w2 g)
  rw [hav] at hMt
  have hR := hC.2.2.2.2.2.2.2.1
  have hK := rb_K1 hC.2.2.2.2.2.2.2.2.1
  have hrm : (rb_rm h1).frames + 1 ≤ (rb_R z).frames ∧ 8 + (nL1 + 11) + (rb_rm h1).locals ≤ (rb_R z).locals := by
    rw [hR]
    show h1 + 1 ≤ 2048 ∧ 8 + (nL1 + 11) + 48 * h1 ≤ 84000
    omega
  have hz : cs + 0 ≤ (rb_R z).cells ∧ sl + 0 ≤ (rb_R z).slots := by
    rw [hR]
    exact hC.2.2.2.2.2.2.2.2.2.2.2.2
  have hpre : ∀ U : State, U.heap = H → (rb_s z).WarmedH U.vm → rb_Pc rb_vM (rb_w2 g) (.ref (rb_ad (rb_w2 g) 0) :: As) σ (.ref (rb_ad (rb_w2 g) 0) :: As).toArray U := fun U hU hW => ⟨rfl, by rw [hU]; exact hM, va_K.moved hW.alike hK, hC.2.2.2.2.2.2.2.2.2.1.2.2, trivial⟩
  refine rb_l_after2 hC (va_runV (C := y.cls) (As := As) (rest := st) (b := rb_ad (rb_w2 g) 0) (nL := 7) (Ts := rb_tbl) ⟨hC.1, hC.2.1, hC.2.2.2.1, hC.2.2.2.2.1, hts⟩ hMt ⟨callB_of n hts (rb_gi c5) rfl rfl rfl (hts _ c4) (hts _ c1) c6 hrm, hts _ c2, hts _ c3⟩ ⟨rb_blind rb_VokM, ?_, fun U hU hW => hpre U hU hW⟩ rfl hn hl.1 hst (lv_room hcat) hd hz) hP hO hS hl kk
  rw [← hqc]
  exact va_recv hK hM hq (rb_ob_at ob)
def rb_lv (g : rb_Gd) (b i : Nat) : List (Nat × Value) := [(0, .ref b), (1, .ref (rb_ad (rb_w1 g) 0)), (2, .ref (rb_ad (rb_w2 g) 0)), (3, .ref (rb_qo g)), (4, .int (nI i))]
/-- an int of the script -/
theorem rb_l_arg (hC : rb_Lx z g b L xs cs sl) {i : Nat} {n : Int} (j : Nat) (hn : Int32.ofInt n = nI j) (hi : i + 6 ≤ L) (hj : j < 6) {lv0 : List (Nat × Value)} (a0 : lv0[0]? = some (0, .ref b)) (a4 : lv0[4]? = some (4, .int (nI i))) (d0 : decode cL_law pc = .ok (.aload_n 0, 1)) (d1 : decode cL_law (pc + 1) = .ok (.iload 4, 2)) (d2 : decode cL_law (pc + 3) = .ok (.iconst n, 1)) (d3 : decode cL_law (pc + 4) = .ok (.iadd, 1)) (d4 : decode cL_law (pc + 5) = .ok (.iaload, 1)) (kk : rb_LAt z g cs sl Q (pc + 6) lv0 (.int (xs (i + j)) :: st) σ τ o) : rb_LAt z g cs sl Q pc lv0 st σ τ o := by
  have hL := hC.2.2.2.2.2.2.2.2.2.2.2.1.2.2
  refine rb_l_aload_n hC 0 d0 a0 ?_
  refine rb_l_iload hC 4 d1 a4 ?_
  refine rb_l_iconst (x := nI j) hC d2 hn ?_
  refine rb_l_iadd hC d3 ?_
  have e : nI i + nI j = nI (i + j) := nI_add i j
  rw [e]
  refine rb_l_sld hC (vp_in_nI (by omega) (by omega)) d4 ?_
  rw [nI_clamp (by omega)]
  exact kk
def rb_zb (x : Int32) : Int32 := if x = 0 then 0 else 1
theorem rb_l_bool (hC : rb_Lx z g b L xs cs sl) {x : Int32} {p1 p2 p3 p4 : Nat} {o1 o2 : Int} (d0 : decode cL_law pc = .ok (.ifCond .eq o1, 3)) (e1 : pc + 3 = p1) (d1 : decode cL_law p1 = .ok (.iconst 1, 1)) (e2 : p1 + 1 = p2) (d2 : decode cL_law p2 = .ok (.goto o2, 3)) (e3 : (pc : Int) + o1 = (p3 : Int)) (d3 : decode cL_law p3 = .ok (.iconst 0, 1)) (e4 : p3 + 1 = p4) (e5 : (p2 : Int) + o2 = (p4 : Int)) (kk : rb_LAt z g cs sl Q p4 lv (.int (rb_zb x) :: st) σ τ o) : rb_LAt z g cs sl Q pc lv (.int x :: st) σ τ o := by
  refine rb_l_if_eq hC p3 d0 e3 (fun h => ?_) (fun h => ?_)
  · refine rb_l_iconst (x := rb_zb x) hC d3 (by rw [rb_zb, if_pos h]; rfl) ?_
    rw [e4]
    exact kk
  · rw [e1]
    refine rb_l_iconst (x := rb_zb x) hC d1 (by rw [rb_zb, if_neg h]; rfl) ?_
    rw [e2]
    exact rb_l_goto hC p4 d2 e5 kk
end RBL
