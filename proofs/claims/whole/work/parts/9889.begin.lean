/-! THE LAW'S BEGINNING: two objects and a row are made -/
def rb_Kx (z : rb_Z) (D : va_G) (cy : Nat → ClassId) (A : Nat → Prop) : Prop :=
  (rb_p z).tables.exec = Jvm.exec ∧ (rb_c z).code = cL_law ∧ (rb_c z).maxLocals = 7 ∧ (rb_s z).vm.findClass RL = some (rb_m z).cls ∧ (∀ x ∈ rb_tbl, x.before (rb_a z) (rb_s z) = true) ∧ rb_R z = room_1 ∧ va_K D vwCl (rb_tys cy) (rb_s z) ∧ (∀ q, (rb_s z).heap.size ≤ q → A q) ∧ rb_AOs (rb_s z)
theorem st_PL {D : va_G} {cl : List vw_C} {u v : va_W} {H : Heap} (h : va_P D cl (u ++ v) H) : va_P D cl u H := fun k q hk => h k q (by rw [List.getElem?_append_left (List.getElem?_eq_some_iff.mp hk).1]; exact hk)
theorem st_PR {D : va_G} {cl : List vw_C} {u v : va_W} {H : Heap} (h : va_P D cl (u ++ v) H) : va_P D cl v H := fun k q hk => h (u.length + k) q (by rw [List.getElem?_append_right (Nat.le_add_right _ _), Nat.add_sub_cancel_left]; exact hk)
section KX
variable {z : rb_Z} {D : va_G} {cy : Nat → ClassId} {A : Nat → Prop} {cs sl : Nat} {Q : State → Prop} {pc : Nat} {lv lv2 : List (Nat × Value)} {st : List Value} {ws : va_W}
theorem rb_k_new (hC : rb_Kx z D cy A) {idx ci : Nat} {fs : List Value} (nw : rb_NW RL idx ci fs) (h1 : cs + 1 ≤ 601024) (h2 : sl + fs.length ≤ 7293034) (hd : decode cL_law pc = .ok (.new idx, 3)) (kk : ∀ q : Nat, rb_Bt z D A (cs + 1) (sl + fs.length) 7 Q (pc + 3) lv (.ref q :: st) (ws ++ [(q, .inr (ci, fs))])) : rb_Bt z D A cs sl 7 Q pc lv st ws := by
  intro H locs ls hP hD hS hl
  obtain ⟨C0, T, N, ty, n1, n2, n3, n4, n5, n6, n7, n8⟩ := nw
  subst n8
  obtain ⟨hex, hby, hml, hown, hts, hR', hK, hA, hAO⟩ := hC
  exact va_new hex hby hts n2 ty n3 hown (hts _ n4) (hts _ n5) (hts _ n6) hK hP hD hS hA n1 n7 (by rw [hR']; exact h1) (by rw [hR']; exact h2) hd (fun q H1 hP1 hD1 hS1 => kk q H1 locs ls hP1 hD1 hS1 hl)
theorem rb_k_aft (hA : ∀ q, (rb_s z).heap.size ≤ q → A q) {C1 S1 h0 ci : Nat} {a : Array Value} {fs : List Value} {post : (Nat → ClassId) → List Nat → va_W} {st0 : List Value} {H : Heap} {locs : List Loc} {ls : Array Slot} (hP : va_P D vwCl (ws ++ [(h0, .inr (ci, fs))]) H) (hD : va_D A (ws ++ [(h0, .inr (ci, fs))])) (hS : va_S A (rb_s z).heap H locs) (hl : lv_has ls 7 lv)
    (hr : va_Run z.1 z.2.1 z.2.2.1 (rb_R z) (rb_s z) (rb_m z) (rb_a z) (rb_b z) (rb_me z) (rb_c z) H locs cs sl C1 S1 (F0 (rb_m z) pc ls st0) st (rb_BQc D cy C1 h0 ci fs post a) (va_A [(h0, .inr (ci, fs))] H.size)) (kk : ∀ ns : List Nat, ns.length = C1 → rb_Bt z D A (cs + C1) (sl + S1) 7 Q (pc + 3) lv st (ws ++ post cy ns)) : rb_WB z H locs cs sl Q (F0 (rb_m z) pc ls st0) := by
  have hDc := (rb_last hP hD).2
  have hF : ∀ q, va_A [(h0, .inr (ci, fs))] H.size q → A q := by
    intro q hq
    rcases hq with ⟨k, e, hk⟩ | hq
    · exact hDc.2 k (q, e) hk
    · exact hA q (Nat.le_trans hS.1 hq)
  intro T hT X
  obtain ⟨v0, st₀, t, T', L, e0, X', hL, e1, e2, ⟨⟨ns, hns, hP1, hD1⟩, hq, hz, hk⟩, stp⟩ := hr T hT X
  cases hq
  rw [e0] at hz hk hD1
  obtain ⟨hP2, hD2⟩ := rb_jn hP hD (H1 := T'.heap) (fun q g1 g2 => by rw [e1]; exact hk q g1 g2) hF (by rw [e1]; exact hP1) hD1
  obtain ⟨t2, a1, b1⟩ := kk ns hns T'.heap (locs ++ L) ls hP2 hD2 ⟨Nat.le_trans hS.1 (by rw [e1]; exact hz), fun q g1 g2 => by rw [e1, hk q (Nat.lt_of_lt_of_le g1 hS.1) (fun z => g2 (hF q z))]; exact hS.2.1 q g1 g2, fun q hq => by
      rcases List.mem_append.mp hq with g | g
      · exact hS.2.2 q g
      · exact hF _ (hL q g)⟩ hl T' rfl X'
  exact ⟨t2, stp t2 a1, b1⟩
theorem rb_k_call (hC : rb_Kx z D cy A) {idx nL1 n h1 C1 S1 : Nat} {y : MethodName} {cb : ByteArray} (cr : rb_MI RL idx y cb nL1 n) {h0 ci : Nat} {As fs : List Value} {post : (Nat → ClassId) → List Nat → va_W} (con : rb_BCon y cb nL1 h1 C1 S1 h0 ci (.ref h0 :: As) fs post) (hn : As.length = n) {st0 : List Value} (hst : st0 = As.reverse ++ .ref h0 :: st) (hh : h1 ≤ 100 ∧ nL1 ≤ 29) (hcs : cs + C1 ≤ 601024) (hsl : sl + S1 ≤ 7293034) (hcat : (st.map fun v => v.category).sum ≤ 8) (hd : decode cL_law pc = .ok (.invokespecial idx, 3)) (kk : ∀ ns : List Nat, ns.length = C1 → rb_Bt z D A (cs + C1) (sl + S1) 7 Q (pc + 3) lv st (ws ++ post cy ns)) : rb_Bt z D A cs sl 7 Q pc lv st0 (ws ++ [(h0, .inr (ci, fs))]) := by
  intro H locs ls hP hD hS hl
  obtain ⟨c1, c2, c4, c5, c7, c6⟩ := cr
  obtain ⟨hex, hby, hml, hown, hts, hR', hK, hA, hAO⟩ := hC
  obtain ⟨hPc, hDc⟩ := rb_last hP hD
  have hrm : (rb_rmc h1 C1 S1).frames + 1 ≤ (rb_R z).frames ∧ 8 + (nL1 + 11) + (rb_rmc h1 C1 S1).locals ≤ (rb_R z).locals := by
    rw [hR']
    show h1 + 1 ≤ 2048 ∧ 8 + (nL1 + 11) + 48 * h1 ≤ 84000
    omega
  exact rb_k_aft hA hP hD hS hl (va_runI (As := As) (rest := st) (b := h0) (nL := 7) (Ts := rb_tbl) ⟨hex, hby, hml, hown, hts⟩ (con z.2.1 D cy H.size) ⟨callB_of n hts (rb_gi c5) rfl rfl rfl (hts _ c4) (hts _ c1) c6 hrm, c7, hts _ c2⟩ ⟨rb_bbl, fun U hU hW => ⟨rfl, by rw [hU], by rw [hU]; exact hPc, va_K.moved hW.alike hK, hDc.weaken (fun _ _ _ _ => trivial), rb_AOs.warm hW hAO⟩⟩ rfl hn hl.1 hst (lv_room hcat) hd (by rw [hR']; exact ⟨hcs, hsl⟩)) kk
theorem rb_k_dup (hC : rb_Kx z D cy A) {a : Value} (hd : decode cL_law pc = .ok (.dup, 1)) (h1 : a.category = 1) (k : rb_Bt z D A cs sl 7 Q (pc + 1) lv (a :: a :: st) ws) : rb_Bt z D A cs sl 7 Q pc lv (a :: st) ws := fun H locs ls hP hD hS hl => lv_dup hC.1 hC.2.1 hd h1 (k H locs ls hP hD hS hl)
theorem rb_k_astore_n (hC : rb_Kx z D cy A) {k : Fin 4} {x : Nat} (lv2 : List (Nat × Value)) (hd : decode cL_law pc = .ok (.astore_n k, 1)) (hn : (k : Nat) < 7) (hl2 : ((k : Nat), Value.ref x) :: lv.filter (fun q => !(q.1 == (k : Nat)) && !(q.1 + 1 == (k : Nat) && q.2.category == 2)) = lv2) (kk : rb_Bt z D A cs sl 7 Q (pc + 1) lv2 st ws) : rb_Bt z D A cs sl 7 Q pc lv (.ref x :: st) ws := fun H locs ls hP hD hS hl => lv_astore_n hC.1 hC.2.1 hd rfl hl hn hl2 (fun ls2 hl3 => kk H locs ls2 hP hD hS hl3)
end KX
theorem st_lawK : Cond.arrayClass .long ∈ rb_tbl := rb_in (by decide +kernel) (by decide +kernel)
theorem st_nwX : rb_NW RL 8 10 [.null, .null, .null, .null, .null, .null, .null, .null, .null, .int 0, .int 0, .null, .int 0, .null, .null, .int 0, .null, .null, .null, .long 0] := ⟨RX11, TX11, 20, tyX11, rfl, rb_uX11, tyX11_ok, rb_in (by decide +kernel) (by decide +kernel), rb_in (by decide +kernel) (by decide +kernel), rb_in (by decide +kernel) (by decide +kernel), by decide +kernel, rfl⟩
theorem st_nwM : rb_NW RL 16 11 [.int 0, .null, .int 0, .int 0, .int 0, .int 0, .null, .null, .null, .null, .null, .null, .null, .int 0, .int 0, .null, .null, .null, .null, .int 0, .null, .null, .int 0, .null, .null, .int 0, .int 0, .null, .null, .int 0, .null, .null, .null, .int 0, .null, .int 0, .long 0, .null, .null, .null, .null, .null, .null, .null, .null, .null, .null, .int 0, .null, .int 0] := ⟨RX12, TX12, 50, tyX12, rfl, rb_uX12, tyX12_ok, rb_in (by decide +kernel) (by decide +kernel), rb_in (by decide +kernel) (by decide +kernel), rb_in (by decide +kernel) (by decide +kernel), by decide +kernel, rfl⟩
theorem st_miX : rb_MI RL 15 yX11_init cX11_init 2 0 := ⟨rb_in (by decide +kernel) (by decide +kernel), rb_in (by decide +kernel) (by decide +kernel), rb_in (by decide +kernel) (by decide +kernel), rb_in (by decide +kernel) (by decide +kernel), rfl, by decide +kernel, by decide +kernel, by decide +kernel⟩
theorem st_miM : rb_MI RL 18 yX12_init cX12_init 1 0 := ⟨rb_in (by decide +kernel) (by decide +kernel), rb_in (by decide +kernel) (by decide +kernel), rb_in (by decide +kernel) (by decide +kernel), rb_in (by decide +kernel) (by decide +kernel), rfl, by decide +kernel, by decide +kernel, by decide +kernel⟩
