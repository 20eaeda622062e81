/-! what the class reads of constants: rows told by statics, texts -/
def rb_bt : List (List Int32) := [[116, 107, 119], [99, 108, 115], [116, 115, 117, 110, 104, 98]]
def rb_bl : List Nat := [3, 3, 6]
section RBT
variable {z : rb_Z} {w : rb_Wd} {own : String} {cc : ByteArray} {nL : Nat} {ret : Option FieldType} {h : Nat} {Q : State → Prop} {pc : Nat} {lv lv2 : List (Nat × Value)} {st st0 : List Value} {σ σ1 : rb_St}
theorem rb_gets (hC : rb_Cx z rb_vX w own cc nL ret h) {idx : Nat} {host : String} (i : Nat) (hi : i < 6) (hw : Cond.fieldLinkNest own idx "RibbonPole" (rb_sn i) "[I" host ∈ rb_nw) (hd : decode cc pc = .ok (.getstatic idx, 3)) (kk : rb_At z rb_vX w nL Q (pc + 3) lv (.ref (rb_sx w i) :: st) σ) : rb_At z rb_vX w nL Q pc lv st σ := by
  intro H locs ls hP hS hl
  obtain ⟨h1, h2, h3, h4, h5⟩ := hC.2.2.2.2.2.2.2.2.2.2
  exact va_getsN hC.1 hC.2.1 (h1 i hi).1 hS hC.2.2.2.2.1 (va_Nw.use rfl (h5 _ hw)) (fun _ q => q) hd (kk H locs ls hP hS hl)
theorem rb_tald (hC : rb_Cx z rb_vX w own cc nL ret h) {i : Nat} {j : Int32} (hi : i < 6) (hin : vp_in j 3) (hd : decode cc pc = .ok (.iaload, 1)) (kk : rb_At z rb_vX w nL Q (pc + 1) lv (.int ((rb_sv i).getD j.toNatClampNeg 0) :: st) σ) : rb_At z rb_vX w nL Q pc lv (.int j :: .ref (rb_sx w i) :: st) σ := by
  intro H locs ls hP hS hl
  obtain ⟨h1, h2, h3, h4, h5⟩ := hC.2.2.2.2.2.2.2.2.2.2
  exact va_ti hC.1 hC.2.1 (h1 i hi).2 hS hin rfl hd (kk H locs ls hP hS hl)
theorem rb_ldcS (hC : rb_Cx z rb_vX w own cc nL ret h) {idx : Nat} {tx : String} (i : Nat) (hw : (i = 0 ∧ own = "RibbonPole$GreenReader" ∧ idx = 46) ∨ (i = 1 ∧ own = "RibbonPole$GreenReader" ∧ idx = 65) ∨ (i = 2 ∧ own = "RibbonPole$LawReader" ∧ idx = 83)) (hd : decode cc pc = .ok (.ldc idx, 2)) (kk : rb_At z rb_vX w nL Q (pc + 2) lv (.ref (rb_sx w (6 + i)) :: st) σ) : rb_At z rb_vX w nL Q pc lv st σ := by
  intro H locs ls hP hS hl
  obtain ⟨h1, ⟨h2, h6, h7⟩, h3, h4, h5⟩ := hC.2.2.2.2.2.2.2.2.2.2
  rcases hw with ⟨rfl, rfl, rfl⟩ | ⟨rfl, rfl, rfl⟩ | ⟨rfl, rfl, rfl⟩
  · exact va_ldcS hC.1 hC.2.1 hC.2.2.2.2.1 h2 hd (kk H locs ls hP hS hl)
  · exact va_ldcS hC.1 hC.2.1 hC.2.2.2.2.1 h6 hd (kk H locs ls hP hS hl)
  · exact va_ldcS hC.1 hC.2.1 hC.2.2.2.2.1 h7 hd (kk H locs ls hP hS hl)
theorem rb_cps (hC : rb_Cx z rb_vX w own cc nL ret h) {idx : Nat} (hw : Cond.fieldLink own idx "java/lang/String" "COMPACT_STRINGS" "Z" ∈ rb_tbl) (hd : decode cc pc = .ok (.getstatic idx, 3)) (kk : rb_At z rb_vX w nL Q (pc + 3) lv (.int 1 :: st) σ) : rb_At z rb_vX w nL Q pc lv st σ := by
  intro H locs ls hP hS hl
  obtain ⟨h1, h2, h3, h4, h5⟩ := hC.2.2.2.2.2.2.2.2.2.2
  exact va_gets hC.1 hC.2.1 h4 hS hC.2.2.2.2.1 (hC.2.2.2.2.2.1 _ hw) (fun _ q => q) hd (kk H locs ls hP hS hl)
theorem rb_scod (hC : rb_Cx z rb_vX w own cc nL ret h) {i idx : Nat} (hi : i < 3) (hw : Cond.fieldLink own idx "java/lang/String" "coder" "B" ∈ rb_tbl) (hd : decode cc pc = .ok (.getfield idx, 3)) (kk : rb_At z rb_vX w nL Q (pc + 3) lv (.int 0 :: st) σ) : rb_At z rb_vX w nL Q pc lv (.ref (rb_sx w (6 + i)) :: st) σ := by
  intro H locs ls hP hS hl
  obtain ⟨h1, h2, h3, h4, h5⟩ := hC.2.2.2.2.2.2.2.2.2.2
  exact vk_getf hC.1 hC.2.1 (h3.1 i hi).2.1 hS hC.2.2.2.2.1 (hC.2.2.2.2.2.1 _ hw) (fun _ q => q) hd (kk H locs ls hP hS hl)
theorem rb_sval (hC : rb_Cx z rb_vX w own cc nL ret h) {i idx : Nat} (hi : i < 3) (hw : Cond.fieldLink own idx "java/lang/String" "value" "[B" ∈ rb_tbl) (hd : decode cc pc = .ok (.getfield idx, 3)) (kk : rb_At z rb_vX w nL Q (pc + 3) lv (.ref (rb_sx w (9 + i)) :: st) σ) : rb_At z rb_vX w nL Q pc lv (.ref (rb_sx w (6 + i)) :: st) σ := by
  intro H locs ls hP hS hl
  obtain ⟨h1, h2, h3, h4, h5⟩ := hC.2.2.2.2.2.2.2.2.2.2
  exact vk_getf hC.1 hC.2.1 (h3.1 i hi).2.2.1 hS hC.2.2.2.2.1 (hC.2.2.2.2.2.1 _ hw) (fun _ q => q) hd (kk H locs ls hP hS hl)
theorem rb_sbal (hC : rb_Cx z rb_vX w own cc nL ret h) {i : Nat} {j : Int32} (hi : i < 3) (hin : vp_in j (rb_bl.getD i 0)) (hd : decode cc pc = .ok (.baload, 1)) (kk : rb_At z rb_vX w nL Q (pc + 1) lv (.int ((rb_bt.getD i []).getD j.toNatClampNeg 0) :: st) σ) : rb_At z rb_vX w nL Q pc lv (.int j :: .ref (rb_sx w (9 + i)) :: st) σ := by
  intro H locs ls hP hS hl
  obtain ⟨h1, h2, h3, h4, h5⟩ := hC.2.2.2.2.2.2.2.2.2.2
  exact va_tb hC.1 hC.2.1 (h3.1 i hi).2.2.2 hS hin rfl hd (kk H locs ls hP hS hl)
theorem rb_slen (hC : rb_Cx z rb_vX w own cc nL ret h) {i : Nat} {x : Int32} (hi : i < 3) (hx : Int32.ofNat (rb_bl.getD i 0) = x) (hd : decode cc pc = .ok (.arraylength, 1)) (kk : rb_At z rb_vX w nL Q (pc + 1) lv (.int x :: st) σ) : rb_At z rb_vX w nL Q pc lv (.ref (rb_sx w (9 + i)) :: st) σ := by
  intro H locs ls hP hS hl
  obtain ⟨h1, h2, h3, h4, h5⟩ := hC.2.2.2.2.2.2.2.2.2.2
  exact va_tlen hC.1 hC.2.1 (h3.1 i hi).2.2.2 hS hx hd (kk H locs ls hP hS hl)
/-- a call on a text -/
theorem rb_callT (hC : rb_Cx z rb_vX w own cc nL ret h) {idx nL1 n h1 : Nat} {y : MethodName} {cb : ByteArray} {ret1 : Option FieldType} (cr : rb_MV own idx y cb nL1 ret1 n) (hy : y.cls = "java/lang/String") {av : rb_Wd → List Value} {r : Int32} (con : rb_Con rb_vX y cb nL1 ret1 h1 av σ (fun _ => some (.int r)) σ1) {i : Nat} (hi : i < 3) (As : List Value) (hav : av w = .ref (rb_sx w (6 + i)) :: As) (hn : As.length = n) (hst : st0 = As.reverse ++ .ref (rb_sx w (6 + i)) :: st) (hh : h1 < h ∧ nL1 ≤ 29) (hcat : (st.map fun v => v.category).sum ≤ 8) (hd : decode cc pc = .ok (.invokevirtual idx, 3)) (kk : rb_At z rb_vX w nL Q (pc + 3) lv (.int r :: st) σ1) : rb_At z rb_vX w nL Q pc lv st0 σ := by
  intro H locs ls hP hS hl
  obtain ⟨c1, c2, c3, c4, c5, c6⟩ := cr
  have hts := hC.2.2.2.2.2.1
  have hM := con z.2.1 w
  rw [hav] at hM
  refine rb_after (r := some (.int r)) (va_runV (C := y.cls) (As := As) (rest := st) (b := rb_sx w (6 + i)) (nL := nL) (Ts := rb_tbl) ⟨hC.1, hC.2.1, hC.2.2.2.1, hC.2.2.2.2.1, hts⟩ hM ⟨callB_of n hts (rb_gi c5) rfl rfl rfl (hts _ c4) (hts _ c1) c6 (rb_room hC hh), hts _ c2, hts _ c3⟩ ⟨rb_blind rb_VokX, ?_, fun U hU hW => rb_enter hC rb_VokX hP hS U hU hW⟩ rfl hn hl.1 hst (lv_room hcat) hd (rb_zero hC)) hS hl kk
  obtain ⟨h1, h2, h3, h4, h5⟩ := hC.2.2.2.2.2.2.2.2.2.2
  rw [hy]
  exact vk_recv (adK := fun i => rb_sx w (6 + i)) (i := i) h3 hi hS
/-- a static call of a nest mate's private method -/
theorem rb_callN (hC : rb_Cx z rb_vX w own cc nL ret h) {idx nL1 n h1 : Nat} {host : String} {y : MethodName} {cb : ByteArray} {ret1 : Option FieldType} (cr : Cond.methodLinkNest own idx y host ∈ rb_nw ∧ Cond.static y ∈ rb_tbl ∧ Cond.initialized y.cls ∈ rb_tbl ∧ Cond.code y cb nL1 ret1 ∈ rb_tbl ∧ rb_pn y n) {av : rb_Wd → List Value} {r : Int32} (con : rb_Con rb_vX y cb nL1 ret1 h1 av σ (fun _ => some (.int r)) σ1) (As : List Value) (hav : av w = As) (hn : As.length = n) (hst : st0 = As.reverse ++ st) (hh : h1 < h ∧ nL1 ≤ 29) (hcat : (st.map fun v => v.category).sum ≤ 8) (hd : decode cc pc = .ok (.invokestatic idx, 3)) (kk : rb_At z rb_vX w nL Q (pc + 3) lv (.int r :: st) σ1) : rb_At z rb_vX w nL Q pc lv st0 σ := by
  intro H locs ls hP hS hl
  obtain ⟨c1, c2, c4, c5, c6⟩ := cr
  have hts := hC.2.2.2.2.2.1
  have hM := con z.2.1 w
  rw [hav] at hM
  obtain ⟨g1, g2, g3, g4, g5⟩ := hC.2.2.2.2.2.2.2.2.2.2
  exact rb_after (r := some (.int r)) (va_runSN (As := As) (rest := st) (nL := nL) (Ts := rb_tbl) ⟨hC.1, hC.2.1, hC.2.2.2.1, hC.2.2.2.2.1, hts⟩ hM ⟨va_cnB n hts (rb_gi c5) rfl rfl rfl (g5 _ c1) (hts _ c4) c6 (rb_room hC hh), hts _ c2, trivial⟩ ⟨rb_blind rb_VokX, fun U hU hW => rb_enter hC rb_VokX hP hS U hU hW⟩ rfl hn hl.1 hst (lv_room hcat) hd (rb_zero hC)) hS hl kk
end RBT
