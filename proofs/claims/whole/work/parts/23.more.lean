def rb_mxJ (x y : Int64) : Int64 := if y < x then x else y
def rb_mnJ (x y : Int64) : Int64 := if y < x then y else x
section RBB
variable {z : rb_Z} {v : rb_Sv} {w : rb_Wd} {own : String} {cc : ByteArray} {nL : Nat} {h : Nat} {pc : Nat} {lv : List (Nat × Value)} {σ : rb_St}
theorem rb_bret (hC : rb_Cx z v w own cc nL (some .byte) h) {x : Int32} (hn : narrow .byte (.int x) = .int x) (hd : decode cc pc = .ok (.ireturn, 1)) : rb_At z v w nL (rb_Q z v w (some (.int x)) σ) pc lv [.int x] σ := by
  intro H locs ls hP hS hl
  have hlocks := hC.2.2.2.2.2.2.1
  exact W.zret (v := x) hC.1 hC.2.1 hC.2.2.1 hn (fun t ht hW => ⟨rfl, by rw [ht]; exact hP, hS.F ht⟩) hS.2.2 hd hlocks
end RBB
/-- a call of Reader.readAll, by the class of who is asked -/
def rb_MO (own : String) (idx : Nat) (C : String) (y : MethodName) (cb : ByteArray) (nL1 : Nat) : Prop := Cond.methodLink own idx ⟨"RibbonPole$Reader", "readAll", "()Z"⟩ ∈ rb_tbl ∧ Cond.sameMethod "RibbonPole$Reader" "RibbonPole$Reader" "readAll" "()Z" ∈ rb_tbl ∧ Cond.selects C ⟨"RibbonPole$Reader", "readAll", "()Z"⟩ y ∈ rb_tbl ∧ Cond.instanceMethod y ∈ rb_tbl ∧ Cond.initialized y.cls ∈ rb_tbl ∧ Cond.code y cb nL1 (some .boolean) ∈ rb_tbl
section RBO
variable {z : rb_Z} {w : rb_Wd} {own : String} {cc : ByteArray} {nL : Nat} {ret : Option FieldType} {h : Nat} {Q : State → Prop} {pc : Nat} {lv : List (Nat × Value)} {st : List Value} {σ σ1 : rb_St}
theorem rb_callO (hC : rb_Cx z rb_vX w own cc nL ret h) {idx nL1 h1 : Nat} {C : String} {y : MethodName} {cb : ByteArray} (cr : rb_MO own idx C y cb nL1) {k : Nat} {r : Int32} (con : rb_Con rb_vX y cb nL1 (some .boolean) h1 (fun w => [.ref (rb_ad w k)]) σ (fun _ => some (.int r)) σ1) {ci : Nat} {fk : List rb_Fk} (ob : rb_Ob rb_vX k ci fk) (hcls : (vwCl[ci]?).map (fun q => q.1) = some C) (hh : h1 < h ∧ nL1 ≤ 29) (hcat : (st.map fun v => v.category).sum ≤ 8) (hd : decode cc pc = .ok (.invokevirtual idx, 3)) (kk : rb_At z rb_vX w nL Q (pc + 3) lv (.int r :: st) σ1) : rb_At z rb_vX w nL Q pc lv (.ref (rb_ad w k) :: st) σ := by
  intro H locs ls hP hS hl
  obtain ⟨c1, c2, c3, c4, c5, c6⟩ := cr
  obtain ⟨q, hq, hqc⟩ := Option.map_eq_some_iff.mp hcls
  have hts := hC.2.2.2.2.2.1
  have hM := con z.2.1 w
  obtain ⟨g1, g2, g3, g4, g5⟩ := hC.2.2.2.2.2.2.2.2.2.2
  have hR := rb_room hC hh
  have hdc : va_Decl (rb_s z) ⟨"RibbonPole$Reader", "readAll", "()Z"⟩ := va_Decl.abs (g5 _ (by decide +kernel))
  have hpl : ∀ sig, parseMethodDescriptor "()Z" = some sig → 0 = sig.parameters.length := by
    intro sig hs
    have h2 : (parseMethodDescriptor "()Z").map (fun d => d.parameters.length) = some 0 := by decide +kernel
    rw [hs] at h2
    exact (Option.some.inj h2).symm
  have hcu : va_CU (rb_R z) (rb_s z) (rb_a z) own C "RibbonPole$Reader" idx ⟨"RibbonPole$Reader", "readAll", "()Z"⟩ y cb nL1 (some .boolean) (.code y cb nL1 (some .boolean) :: rb_tbl) (rb_rm h1) 0 0 0 :=
    ⟨⟨rfl, rfl, hR.1, hR.2, pay_in hts (rb_gi c6), List.mem_cons_self⟩, hts _ c6, hts _ c5, ⟨by decide, by decide⟩, hpl, hts _ c1, hts _ c2, hdc, hts _ c3, hts _ c4⟩
  refine rb_after (r := some (.int r)) (va_runU (C := C) (As := []) (rest := st) (b := rb_ad w k) (nL := nL) (Ts := rb_tbl) ⟨hC.1, hC.2.1, hC.2.2.2.1, hC.2.2.2.2.1, hts⟩ hM hcu ⟨rb_blind rb_VokX, ?_, fun U hU hW => rb_enter hC rb_VokX hP hS U hU hW⟩ rfl rfl hl.1 rfl (lv_room hcat) hd (rb_zero hC)) hS hl kk
  rw [← hqc]
  exact va_recv hC.2.2.2.2.2.2.2.2.1 hP hq (rb_ob_at ob)
end RBO
section RBNU
variable {z : rb_Z} {v : rb_Sv} {w : rb_Wd} {own : String} {cc : ByteArray} {nL : Nat} {ret : Option FieldType} {h : Nat} {Q : State → Prop} {pc : Nat} {lv : List (Nat × Value)} {st : List Value} {σ : rb_St}
theorem rb_aload_nN (hC : rb_Cx z v w own cc nL ret h) {k : Fin 4} (j : Nat) (hd : decode cc pc = .ok (.aload_n k, 1)) (hj : lv[j]? = some ((k : Nat), .null)) (kk : rb_At z v w nL Q (pc + 1) lv (.null :: st) σ) : rb_At z v w nL Q pc lv st σ := fun H locs ls hP hS hl => lv_aload_nN hC.1 hC.2.1 hd rfl (lv_at hl j hj) (kk H locs ls hP hS hl)
theorem rb_astore_nN (hC : rb_Cx z v w own cc nL ret h) {k : Fin 4} (lv2 : List (Nat × Value)) (hd : decode cc pc = .ok (.astore_n k, 1)) (hn : (k : Nat) < nL) (hl2 : ((k : Nat), Value.null) :: lv.filter (fun q => !(q.1 == (k : Nat)) && !(q.1 + 1 == (k : Nat) && q.2.category == 2)) = lv2) (kk : rb_At z v w nL Q (pc + 1) lv2 st σ) : rb_At z v w nL Q pc lv (.null :: st) σ := fun H locs ls hP hS hl => lv_astore_nN hC.1 hC.2.1 hd rfl hl hn hl2 (fun ls2 hl3 => kk H locs ls2 hP hS hl3)
end RBNU
